/-! guard, the component's side -/
section Z10
variable {N C U S : Nat} {op lv fn fi pl yne ysp yvsp ypn : Int32}
variable {K A Ow O P L cl rt en ss so sp ds ww lw vi vv ps pv pt yef yet yew yb ynb yv yx ysv ysi yvs ymo ymv yip ypN ypI : Nat → Int32}
variable {R E : Nat → Nat}
theorem zx_l72 {post : St2 → Prop} {Z : Nat → Int32} (hN : N ≤ 8) (hl : ∀ t, t < N → lw t = Z t) (hp : ∀ ww', (∀ t, t < N → ww' t = Z t) → post ((nI N), (nI C), (nI U), op, (nI S), pl, lv, fn, fi, K, A, Ow, O, P, L, cl, rt, en, ss, so, sp, ww', lw, vi, vv, ps, pv, pt)) :
    ∀ d i ww, i + d = N → (∀ t, t < i → ww t = Z t) → wX_lengthenWalks_72 post (nI N) (nI C) (nI U) op (nI S) pl lv fn fi (d + 1) (nI i) K A Ow O P L cl rt en ss so sp ww lw vi vv ps pv pt := by
  intro d
  induction d with
  | zero =>
    intro i ww hi hw
    exact br_t (nI_le (by omega) (by omega)) (hp ww (fun t ht => hw t (by omega)))
  | succ d ih =>
    intro i ww hi hw
    have e : (nI i).toNatClampNeg = i := nI_clamp (by omega)
    have hin : vp_in (nI i) 8 := vp_in_nI (by omega) (by omega)
    refine br_f (nI_ge (by omega) (by omega)) ⟨hin, hin, nm_r (e' := upd ww i (Z i)) (by rw [e, hl i (by omega)]) (nm_r (nI_1 i) (ih (i + 1) _ (by omega) (fun t ht => ?_)))⟩
    by_cases et : t = i
    · rw [et, pk_us]
    · rw [pk_un et]; exact hw t (by omega)
theorem zx_fol {post : St2 → Prop} {W : Nat → Int32} {i n m : Nat} (hi : i < 96) (hn : n < 8) (hm : m < 8) (eo : Ow i = nI n) (ea : A i = nI m) (ew : ww n = W n)
    (h1 : W n = -1000000 → post ((nI N), (nI C), (nI U), op, (nI S), pl, lv, fn, fi, K, A, Ow, O, P, L, cl, rt, en, ss, so, sp, ww, lw, vi, vv, ps, pv, pt)) (h2 : ¬ W n = -1000000 → ¬ lw m < W n + O i → post ((nI N), (nI C), (nI U), op, (nI S), pl, lv, fn, fi, K, A, Ow, O, P, L, cl, rt, en, ss, so, sp, ww, lw, vi, vv, ps, pv, pt)) (h3 : ¬ W n = -1000000 → lw m < W n + O i → post ((nI N), (nI C), (nI U), op, (nI S), pl, lv, fn, fi, K, A, Ow, O, P, L, cl, rt, en, ss, so, sp, ww, (upd lw m (W n + O i)), vi, vv, ps, pv, pt)) :
    wpX_followEdge post ((nI N), (nI C), (nI U), op, (nI S), pl, lv, fn, fi, K, A, Ow, O, P, L, cl, rt, en, ss, so, sp, ww, lw, vi, vv, ps, pv, pt) (nI i) := by
  have e : (nI i).toNatClampNeg = i := nI_clamp (by omega)
  have en : (nI n).toNatClampNeg = n := nI_clamp (by omega)
  have em : (nI m).toNatClampNeg = m := nI_clamp (by omega)
  have hin : vp_in (nI i) 96 := vp_in_nI hi (by omega)
  have hm8 : vp_in (nI m) 8 := vp_in_nI hm (by omega)
  refine ⟨hin, by rw [e, eo]; exact vp_in_nI hn (by omega), nm_r (e' := W n) (by rw [e, eo, en, ew]) ?_⟩
  by_cases hw : W n = -1000000
  · exact br_t hw (h1 hw)
  · refine br_f hw ⟨hin, nm_r (e' := nI m) (by rw [e, ea]) ⟨hin, nm_r (e' := W n + O i) (by rw [e]) ⟨hm8, ?_⟩⟩⟩
    by_cases hl : lw m < W n + O i
    · exact br_f (by rw [em]; exact Int32.not_le.mpr hl) ⟨hm8, nm_r (by rw [em]) (h3 hw hl)⟩
    · exact br_t (by rw [em]; exact Int32.not_lt.mp hl) (h2 hw hl)
theorem zx_l26 {post : St2 → Prop} {W : Nat → Int32} (hN : N ≤ 8) (hU : U ≤ 96) (hcl : ∀ n, cl n = 0 ∨ cl n = 1) (hA : ∀ c, c < U → K c = 11 → ∃ m, m < N ∧ A c = nI m) (hO : ∀ c, c < U → ∃ n, n < N ∧ Ow c = nI n)
    (hw : ∀ t, t < N → ww t = W t) (hp : ∀ lw', (∀ t, t < N → lw' t = zg_len K A O Ow cl W U t) → ∃ n72 : Nat, wX_lengthenWalks_72 post (nI N) (nI C) (nI U) op (nI S) pl lv fn fi n72 0 K A Ow O P L cl rt en ss so sp ww lw' vi vv ps pv pt) :
    ∀ d i lw, i + d = U → (∀ t, t < N → lw t = zg_len K A O Ow cl W i t) → wX_lengthenWalks_26 post (d + 1) (nI i) (nI N) (nI C) (nI U) op (nI S) pl lv fn fi K A Ow O P L cl rt en ss so sp ww lw vi vv ps pv pt := by
  intro d
  induction d with
  | zero =>
    intro i lw hi hl
    obtain rfl : i = U := by omega
    exact br_t (nI_le (by omega) (by omega)) (hp lw hl)
  | succ d ih =>
    intro i lw hi hl
    have e : (nI i).toNatClampNeg = i := nI_clamp (by omega)
    have hin : vp_in (nI i) 96 := vp_in_nI (by omega) (by omega)
    refine br_f (nI_ge (by omega) (by omega)) ⟨hin, ?_⟩
    have es : zg_len K A O Ow cl W (i + 1) = zg_fe K A O Ow cl W (zg_len K A O Ow cl W i) i := rfl
    by_cases hk : K (nI i).toNatClampNeg = 11
    · have hk' := hk
      rw [e] at hk'
      obtain ⟨m, hm, em⟩ := hA i (by omega) hk'
      obtain ⟨n, hn, en⟩ := hO i (by omega)
      have en8 : (nI n).toNatClampNeg = n := nI_clamp (by omega)
      have em8 : (nI m).toNatClampNeg = m := nI_clamp (by omega)
      refine br_t hk ⟨hin, by rw [e, en]; exact vp_in_nI (by omega) (by omega), ?_⟩
      by_cases hc : cl (Ow (nI i).toNatClampNeg).toNatClampNeg = 0
      · refine br_t hc (nm_r (nI_1 i) (ih (i + 1) lw (by omega) (fun t ht => ?_)))
        rw [es]; unfold zg_fe
        rw [if_neg (fun z => by have := z.2; rw [← e, hc] at this; exact absurd this (by decide))]
        exact hl t ht
      · have hc1 : cl n = 1 := by
          rw [e, en, en8] at hc
          exact (hcl n).resolve_left hc
        have hcond : K i = 11 ∧ cl (Ow i).toNatClampNeg = 1 := ⟨hk', by rw [en, en8]; exact hc1⟩
        refine br_f hc (zx_fol (W := W) (n := n) (m := m) (by omega) (by omega) (by omega) en em (hw n hn) (fun h1 => nm_r (nI_1 i) (ih (i + 1) lw (by omega) (fun t ht => ?_)))
          (fun h1 h2 => nm_r (nI_1 i) (ih (i + 1) lw (by omega) (fun t ht => ?_))) (fun h1 h2 => nm_r (nI_1 i) (ih (i + 1) _ (by omega) (fun t ht => ?_))))
        · rw [es]; unfold zg_fe
          rw [if_pos hcond, en, en8, if_pos h1]; exact hl t ht
        · rw [es]; unfold zg_fe
          rw [if_pos hcond, en, en8, if_neg h1, em, em8, if_neg (by rw [← hl m hm]; exact h2)]; exact hl t ht
        · rw [es]; unfold zg_fe
          rw [if_pos hcond, en, en8, if_neg h1, em, em8, if_pos (by rw [← hl m hm]; exact h2)]
          by_cases et : t = m
          · rw [et, pk_us, pk_us]
          · rw [pk_un et, pk_un et]; exact hl t ht
    · refine br_f hk (nm_r (nI_1 i) (ih (i + 1) lw (by omega) (fun t ht => ?_)))
      rw [es]; unfold zg_fe
      rw [if_neg (fun z => hk (by rw [e]; exact z.1))]
      exact hl t ht
theorem zx_l2 {post : St2 → Prop} (hN : N ≤ 8) (hp : ∀ lw', (∀ t, t < N → lw' t = -1000000) → ∃ n26 : Nat, wX_lengthenWalks_26 post n26 0 (nI N) (nI C) (nI U) op (nI S) pl lv fn fi K A Ow O P L cl rt en ss so sp ww lw' vi vv ps pv pt) :
    ∀ d i lw, i + d = N → (∀ t, t < i → lw t = -1000000) → wX_lengthenWalks_2 post (nI N) (nI C) (nI U) op (nI S) pl lv fn fi (d + 1) (nI i) K A Ow O P L cl rt en ss so sp ww lw vi vv ps pv pt := by
  intro d
  induction d with
  | zero =>
    intro i lw hi hl
    exact br_t (nI_le (by omega) (by omega)) (hp lw (fun t ht => hl t (by omega)))
  | succ d ih =>
    intro i lw hi hl
    have e : (nI i).toNatClampNeg = i := nI_clamp (by omega)
    refine br_f (nI_ge (by omega) (by omega)) ⟨vp_in_nI (by omega) (by omega), nm_r (e' := upd lw i (-1000000)) (by rw [e]) (nm_r (nI_1 i) (ih (i + 1) _ (by omega) (fun t ht => ?_)))⟩
    by_cases et : t = i
    · rw [et, pk_us]
    · rw [pk_un et]; exact hl t (by omega)
theorem zx_len {post : St2 → Prop} {W : Nat → Int32} (hN : N ≤ 8) (hU : U ≤ 96) (hcl : ∀ n, cl n = 0 ∨ cl n = 1) (hA : ∀ c, c < U → K c = 11 → ∃ m, m < N ∧ A c = nI m) (hO : ∀ c, c < U → ∃ n, n < N ∧ Ow c = nI n)
    (hw : ∀ t, t < N → ww t = W t) (hp : ∀ ww' lw', (∀ t, t < N → ww' t = zg_len K A O Ow cl W U t) → post ((nI N), (nI C), (nI U), op, (nI S), pl, lv, fn, fi, K, A, Ow, O, P, L, cl, rt, en, ss, so, sp, ww', lw', vi, vv, ps, pv, pt)) : wpX_lengthenWalks post ((nI N), (nI C), (nI U), op, (nI S), pl, lv, fn, fi, K, A, Ow, O, P, L, cl, rt, en, ss, so, sp, ww, lw, vi, vv, ps, pv, pt) :=
  ⟨_, zx_l2 hN (fun lw1 h1 => ⟨_, zx_l26 hN hU hcl hA hO hw (fun lw2 h2 => ⟨_, zx_l72 (Z := zg_len K A O Ow cl W U) hN h2 (fun ww' h3 => hp ww' lw2 h3) N 0 _ (by omega) (fun t ht => absurd ht (Nat.not_lt_zero t))⟩) U 0 lw1 (by omega) h1⟩) N 0 _ (by omega) (fun t ht => absurd ht (Nat.not_lt_zero t))⟩
theorem zx_st {post : St2 → Prop} {a : Nat} (hN : N ≤ 8) (ha : a < N) (hp : ∀ ww', (∀ t, t < N → ww' t = if t = a then 0 else -1000000) → post ((nI N), (nI C), (nI U), op, (nI S), pl, lv, fn, fi, K, A, Ow, O, P, L, cl, rt, en, ss, so, sp, ww', lw, vi, vv, ps, pv, pt)) :
    ∀ d i ww, i + d = N → (∀ t, t < i → ww t = -1000000) → wX_startWalksAt_2 post (nI a) (nI N) (nI C) (nI U) op (nI S) pl lv fn fi (d + 1) (nI i) K A Ow O P L cl rt en ss so sp ww lw vi vv ps pv pt := by
  intro d
  induction d with
  | zero =>
    intro i ww hi hl
    have e : (nI a).toNatClampNeg = a := nI_clamp (by omega)
    refine br_t (nI_le (by omega) (by omega)) ⟨vp_in_nI (by omega) (by omega), nm_r (e' := upd ww a 0) (by rw [e]) (hp _ (fun t ht => ?_))⟩
    by_cases et : t = a
    · rw [if_pos et, et, pk_us]
    · rw [if_neg et, pk_un et]; exact hl t (by omega)
  | succ d ih =>
    intro i ww hi hl
    have e : (nI i).toNatClampNeg = i := nI_clamp (by omega)
    refine br_f (nI_ge (by omega) (by omega)) ⟨vp_in_nI (by omega) (by omega), nm_r (e' := upd ww i (-1000000)) (by rw [e]) (nm_r (nI_1 i) (ih (i + 1) _ (by omega) (fun t ht => ?_)))⟩
    by_cases et : t = i
    · rw [et, pk_us]
    · rw [pk_un et]; exact hl t (by omega)
theorem zx_g30 {post : Int32 → St2 → Prop} {a b : Nat} (hb : b < N) (hN : N ≤ 8) (hU : U ≤ 96) (hcl : ∀ n, cl n = 0 ∨ cl n = 1) (hA : ∀ c, c < U → K c = 11 → ∃ m, m < N ∧ A c = nI m) (hO : ∀ c, c < U → ∃ n, n < N ∧ Ow c = nI n)
    (hp : ∀ ww' lw', post (zg_g K A O Ow cl U a b N) ((nI N), (nI C), (nI U), op, (nI S), pl, lv, fn, fi, K, A, Ow, O, P, L, cl, rt, en, ss, so, sp, ww', lw', vi, vv, ps, pv, pt)) :
    ∀ d l ww lw, l + d = N → (∀ t, t < N → ww t = zg_seq K A O Ow cl U a l t) → wX_guard_30 post (nI b) (d + 1) (zg_g K A O Ow cl U a b l) (nI (l + 1)) (nI N) (nI C) (nI U) op (nI S) pl lv fn fi K A Ow O P L cl rt en ss so sp ww lw vi vv ps pv pt := by
  intro d
  induction d with
  | zero =>
    intro l ww lw hl hw
    obtain rfl : l = N := by omega
    exact br_t (nI_lt (by omega) (by omega)) (hp ww lw)
  | succ d ih =>
    intro l ww lw hl hw
    have e : (nI b).toNatClampNeg = b := nI_clamp (by omega)
    have hin : vp_in (nI b) 8 := vp_in_nI (by omega) (by omega)
    refine br_f (nI_nlt (by omega) (by omega)) (zx_len hN hU hcl hA hO hw (fun ww' lw' hw' => ⟨hin, ?_⟩))
    have hg : zg_g K A O Ow cl U a b (l + 1) = if zg_g K A O Ow cl U a b l < zg_seq K A O Ow cl U a (l + 1) b then zg_seq K A O Ow cl U a (l + 1) b else zg_g K A O Ow cl U a b l := rfl
    have eb : ww' b = zg_seq K A O Ow cl U a (l + 1) b := hw' b hb
    have IH := ih (l + 1) ww' lw' (by omega) hw'
    by_cases hc : zg_g K A O Ow cl U a b l < zg_seq K A O Ow cl U a (l + 1) b
    · rw [hg, if_pos hc] at IH
      refine br_f (by rw [e, eb]; exact Int32.not_le.mpr hc) ⟨hin, nm_r (by rw [e, eb]) (nm_r (nI_1 (l + 1)) IH)⟩
    · rw [hg, if_neg hc] at IH
      exact br_t (by rw [e, eb]; exact Int32.not_lt.mp hc) (nm_r (nI_1 (l + 1)) IH)
theorem zx_guard {post : Int32 → St2 → Prop} {a b : Nat} (ha : a < N) (hb : b < N) (hN : N ≤ 8) (hU : U ≤ 96) (hcl : ∀ n, cl n = 0 ∨ cl n = 1) (hA : ∀ c, c < U → K c = 11 → ∃ m, m < N ∧ A c = nI m) (hO : ∀ c, c < U → ∃ n, n < N ∧ Ow c = nI n)
    (hp : ∀ ww' lw', post (zg_g K A O Ow cl U a b N) ((nI N), (nI C), (nI U), op, (nI S), pl, lv, fn, fi, K, A, Ow, O, P, L, cl, rt, en, ss, so, sp, ww', lw', vi, vv, ps, pv, pt)) : wpX_guard post ((nI N), (nI C), (nI U), op, (nI S), pl, lv, fn, fi, K, A, Ow, O, P, L, cl, rt, en, ss, so, sp, ww, lw, vi, vv, ps, pv, pt) (nI a) (nI b) := by
  unfold wpX_guard
  refine zx_nm1 ha hN (br_f zn_10 (zx_nm1 hb hN (br_f zn_10 ⟨_, zx_st hN ha (fun ww1 h1 => ⟨_, zx_g30 hb hN hU hcl hA hO hp N 0 ww1 _ (by omega) h1⟩) N 0 _ (by omega) (fun t ht => absurd ht (Nat.not_lt_zero t))⟩)))
theorem zx_guard0 {post : Int32 → St2 → Prop} {x y : Int32} (hN : N ≤ 8) (h : (x < 0 ∨ nI N ≤ x) ∨ (y < 0 ∨ nI N ≤ y)) (hp : post (-1000000) ((nI N), (nI C), (nI U), op, (nI S), pl, lv, fn, fi, K, A, Ow, O, P, L, cl, rt, en, ss, so, sp, ww, lw, vi, vv, ps, pv, pt)) : wpX_guard post ((nI N), (nI C), (nI U), op, (nI S), pl, lv, fn, fi, K, A, Ow, O, P, L, cl, rt, en, ss, so, sp, ww, lw, vi, vv, ps, pv, pt) x y := by
  unfold wpX_guard
  by_cases hx : x < 0 ∨ nI N ≤ x
  · exact zx_nm0 hx (br_t rfl hp)
  · obtain ⟨j, hj, rfl⟩ : ∃ j : Nat, j < N ∧ x = nI j := by
      rcases pk_ix x (n := N) (by omega) with h | h | h
      · exact absurd (Or.inl h) hx
      · exact absurd (Or.inr h) hx
      · exact h
    exact zx_nm1 hj hN (br_f zn_10 (zx_nm0 (h.resolve_left hx) (br_t rfl hp)))
end Z10

/-! guard, the reference's side: the rounds; guard and verdict -/
section Z12
variable {N C U S : Nat} {op lv fn fi pl yne ysp yvsp ypn : Int32}
variable {K A Ow O P L cl rt en ss so sp ds ww lw vi vv ps pv pt yef yet yew yb ynb yv yx ysv ysi yvs ymo ymv yip ypN ypI : Nat → Int32}
variable {R E : Nat → Nat}
theorem zi_ref (h : zi_inv N C U S op K A P O L Ow cl so sp R E) : ∀ c, c < U → K c = 11 → cl (Ow c).toNatClampNeg = 1 → ∃ n, n < N ∧ Ow c = nI n ∧ cl n = 1 ∧ R n ≤ c ∧ c < E n ∧ zg_bd 96 (O c) := by
  obtain ⟨⟨a1, a2, a3, a4, a5⟩, hcl, hcd, _, hA, hOw, ho⟩ := h
  intro c hc hk hcc
  obtain ⟨n, hn, en, hz⟩ := hOw c hc
  rw [en, nI_clamp (by omega)] at hcc
  have H := hcd n hn hcc
  obtain ⟨r1, r2, r3, r4, r5, r6, r7⟩ := H
  have hz' : R n ≤ c + 1 ∧ c < E n := by
    rcases hz with hz | hz
    · exact hz.2
    · rcases ho with ho | ⟨o, ho1, ho2, ho3, _⟩
      · have := hz.1.symm.trans ho.1
        exact absurd this (zn_ne1 (by omega))
      · have e := zn_im (hz.1.symm.trans ho2) (by omega) (by omega)
        rw [e, ho3] at hcc
        exact absurd hcc (by decide)
  have hne : c ≠ R n - 1 := fun z => by rw [z, r6] at hk; exact absurd hk (by decide)
  obtain ⟨i, hi⟩ : ∃ i, c = R n + i := ⟨c - R n, by omega⟩
  have hb := zs_off r1 (by omega) r4 (i + 1) i (by omega) (by omega)
  rw [← hi] at hb
  exact ⟨n, hn, en, hcc, by omega, hz'.2, by unfold zg_bd; omega⟩
theorem zg_g_ge {a b : Nat} : ∀ l, (-1000000 : Int32) ≤ zg_g K A O Ow cl U a b l := by
  intro l
  induction l with
  | zero => exact Int32.le_refl _
  | succ l ih =>
    show _ ≤ (if zg_g K A O Ow cl U a b l < zg_seq K A O Ow cl U a (l + 1) b then zg_seq K A O Ow cl U a (l + 1) b else zg_g K A O Ow cl U a b l)
    split
    · rename_i h; exact Int32.le_trans ih (Int32.le_of_lt h)
    · exact ih
def zv_r (K A O Ow cl : Nat → Int32) (U N : Nat) : Nat → Int32
  | 0 => 0
  | d + 1 => if cl (N - (d + 1)) = 0 then zv_r K A O Ow cl U N d else if zg_g K A O Ow cl U (N - (d + 1)) (N - (d + 1)) N < 0 then zv_r K A O Ow cl U N d else 4
theorem zv_x {post : Int32 → St2 → Prop} (hN : N ≤ 8) (hU : U ≤ 96) (hcl : ∀ n, cl n = 0 ∨ cl n = 1) (hA : ∀ c, c < U → K c = 11 → ∃ m, m < N ∧ A c = nI m) (hO : ∀ c, c < U → ∃ n, n < N ∧ Ow c = nI n) :
    ∀ d i ww lw, i + d = N → (∀ ww' lw', post (zv_r K A O Ow cl U N d) ((nI N), (nI C), (nI U), op, (nI S), pl, lv, fn, fi, K, A, Ow, O, P, L, cl, rt, en, ss, so, sp, ww', lw', vi, vv, ps, pv, pt)) → wX_verdict_13 post (d + 1) (nI i) (nI N) (nI C) (nI U) op (nI S) pl lv fn fi K A Ow O P L cl rt en ss so sp ww lw vi vv ps pv pt := by
  intro d
  induction d with
  | zero => intro i ww lw hi hp; exact br_t (nI_le (by omega) (by omega)) (hp ww lw)
  | succ d ih =>
    intro i ww lw hi hp
    have e : (nI i).toNatClampNeg = i := nI_clamp (by omega)
    have hi' : N - (d + 1) = i := by omega
    have hr : zv_r K A O Ow cl U N (d + 1) = if cl i = 0 then zv_r K A O Ow cl U N d else if zg_g K A O Ow cl U i i N < 0 then zv_r K A O Ow cl U N d else 4 := by
      show (if cl (N - (d + 1)) = 0 then _ else _) = _
      rw [hi']
    rw [hr] at hp
    refine br_f (nI_ge (by omega) (by omega)) ⟨vp_in_nI (by omega) (by omega), ?_⟩
    by_cases hc : cl (nI i).toNatClampNeg = 0
    · rw [e] at hc
      rw [if_pos hc] at hp
      exact br_t (by rw [e]; exact hc) (nm_r (nI_1 i) (ih (i + 1) ww lw (by omega) hp))
    · refine br_f hc (zx_guard (by omega) (by omega) hN hU hcl hA hO (fun ww' lw' => ?_))
      rw [e] at hc
      rw [if_neg hc] at hp
      by_cases hg : zg_g K A O Ow cl U i i N < 0
      · rw [if_pos hg] at hp
        exact br_t hg (nm_r (nI_1 i) (ih (i + 1) ww' lw' (by omega) hp))
      · rw [if_neg hg] at hp
        exact br_f hg (hp ww' lw')
end Z12
