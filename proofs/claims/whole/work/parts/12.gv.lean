/-! guard, the reference's side: the rounds; guard and verdict -/
section Z12
variable {N C U S : Nat} {op lv fn fi pl yne ysp yvsp ypn : Int32}
variable {K A Ow O P L cl rt en ss so sp ds ww lw vi vv ps pv pt yef yet yew yb ynb yv yx ysv ysi yvs ymo ymv yip ypN ypI : Nat → Int32}
variable {R E : Nat → Nat}
theorem zi_ref (h : zi_inv N C U S op K A P O L Ow cl so sp R E) : ∀ c, c < U → K c = 11 → cl (Ow c).toNatClampNeg = 1 → ∃ n, n < N ∧ Ow c = nI n ∧ cl n = 1 ∧ R n ≤ c ∧ c < E n ∧ zg_bd 96 (O c) := by
  obtain ⟨⟨a1, a2, a3, a4, a5⟩, hcl, hcd, _, hA, hOw, ho⟩ := h
  intro c hc hk hcc
  obtain ⟨n, hn, en, hz⟩ := hOw c hc
  rw [en, nI_clamp (by omega)] at hcc
  have H := hcd n hn hcc
  obtain ⟨r1, r2, r3, r4, r5, r6, r7⟩ := H
  have hz' : R n ≤ c + 1 ∧ c < E n := by
    rcases hz with hz | hz
    · exact hz.2
    · rcases ho with ho | ⟨o, ho1, ho2, ho3, _⟩
      · have := hz.1.symm.trans ho.1
        exact absurd this (zn_ne1 (by omega))
      · have e := zn_im (hz.1.symm.trans ho2) (by omega) (by omega)
        rw [e, ho3] at hcc
        exact absurd hcc (by decide)
  have hne : c ≠ R n - 1 := fun z => by rw [z, r6] at hk; exact absurd hk (by decide)
  obtain ⟨i, hi⟩ : ∃ i, c = R n + i := ⟨c - R n, by omega⟩
  have hb := zs_off r1 (by omega) r4 (i + 1) i (by omega) (by omega)
  rw [← hi] at hb
  exact ⟨n, hn, en, hcc, by omega, hz'.2, by unfold zg_bd; omega⟩
def zy_D (K cl : Nat → Int32) (R E : Nat → Nat) (y c : Nat) : Prop := K c = 11 ∧ ∃ n, n < y ∧ cl n = 1 ∧ R n ≤ c ∧ c < E n
def zy_cn (Ow : Nat → Int32) (U y : Nat) : Nat := zg_cn (fun c => decide ((Ow c).toNatClampNeg < y)) U
theorem zy_b7 {post : SY → Prop} (hD : ∀ n, ds n = nI (R n - 1)) (hE : ∀ n, en n = nI (E n)) (h : zi_inv N C U S op K A P O L Ow cl so sp R E)
    (hp : ∀ (ne : Nat) (msp : Int32) (ef et ew sv si : Nat → Int32), ne ≤ 96 → zy_ed A Ow O ne ef et ew (zy_D K cl R E N) → post ((nI N), (nI C), (nI U), op, (nI S), (nI ne), msp, yvsp, ypn, lv, fn, fi, K, A, cl, ds, en, ss, ef, et, ew, yb, ynb, yv, yx, sv, si, yvs, ymo, ymv, yip, ypN, ypI)) :
    ∀ d y (ne : Nat) (msp : Int32) (ef et ew sv si : Nat → Int32), y + d = N → ne ≤ zy_cn Ow U y → zy_ed A Ow O ne ef et ew (zy_D K cl R E y) →
      wY_buildEdges_7 post (d + 1) (nI y) (nI N) (nI C) (nI U) op (nI S) (nI ne) msp yvsp ypn lv fn fi K A cl ds en ss ef et ew yb ynb yv yx sv si yvs ymo ymv yip ypN ypI := by
  obtain ⟨⟨a1, a2, a3, a4, a5⟩, hcl, hcd, hRE, _⟩ := h
  have hcnU : ∀ y, zy_cn Ow U y ≤ U := fun y => zg_cn_le _ U
  intro d
  induction d with
  | zero =>
    intro y ne msp ef et ew sv si hy hne hed
    obtain rfl : y = N := by omega
    have := hcnU y
    exact br_t (nI_le (by omega) (by omega)) (hp ne msp ef et ew sv si (by omega) hed)
  | succ d ih =>
    intro y ne msp ef et ew sv si hy hne hed
    have ey : (nI y).toNatClampNeg = y := nI_clamp (by omega)
    have hin8 : vp_in (nI y) 8 := vp_in_nI (by omega) (by omega)
    refine br_f (nI_ge (by omega) (by omega)) ⟨hin8, ?_⟩
    have hmono : ∀ z, zg_cn (fun c => decide ((Ow c).toNatClampNeg < y)) z ≤ zg_cn (fun c => decide ((Ow c).toNatClampNeg < y + 1)) z := fun z => by
      have := zg_cn_add (p := fun c => decide ((Ow c).toNatClampNeg < y)) (q := fun c => decide ((Ow c).toNatClampNeg < y + 1)) (a := 0) (b := 0) (fun c hc => decide_eq_true (by have := of_decide_eq_true hc; omega)) (fun c h1 h2 => by omega) z (by omega) (by omega)
      omega
    rcases hcl y with hc | hc
    · refine br_t (by rw [ey]; exact hc) (nm_r (nI_1 y) (ih (y + 1) ne msp ef et ew sv si (by omega) (Nat.le_trans hne (hmono U)) (zy_ed_iff (fun c => ?_) hed)))
      constructor
      · intro ⟨z1, n, z2, z3⟩
        exact ⟨z1, n, by omega, z3⟩
      · intro ⟨z1, n, z2, z3, z4⟩
        refine ⟨z1, n, ?_, z3, z4⟩
        by_cases e : n = y
        · rw [e, hc] at z3; exact absurd z3 (by decide)
        · omega
    · obtain ⟨r1, r2, r3, r4, r5, r6, r7⟩ := hcd y (by omega) hc
      have hadd : zy_cn Ow U y + (E y - R y) ≤ zy_cn Ow U (y + 1) :=
        zg_cn_add (p := fun c => decide ((Ow c).toNatClampNeg < y)) (q := fun c => decide ((Ow c).toNatClampNeg < y + 1)) (a := R y) (b := E y) (fun c hc => decide_eq_true (by have := of_decide_eq_true hc; omega))
          (fun c h1 h2 => by
            have e := r7 c (by omega) h2
            have e2 : (Ow c).toNatClampNeg = y := by rw [e]; exact ey
            exact ⟨decide_eq_true (by rw [e2]; omega), decide_eq_false (by rw [e2]; omega)⟩) U r3 (by omega)
      have hU1 := hcnU (y + 1)
      refine br_f (by rw [ey, hc]; decide) (zy_push (m := 0) (by omega) (Or.inr rfl) ⟨hin8, nm_r (e' := nI (R y + 0)) (by rw [ey, hD y, nI_1]; congr 1; omega) ⟨E y - R y + 1, ?_⟩⟩)
      have hst0 : zs_st (fun j s => zy_Q K O (R y) (upd sv 0 1 j) (upd si 0 0 j) s) (zs_stk K (R y) 0) := by
        refine ⟨?_, trivial⟩
        show upd si 0 0 0 = zs_so K O (R y) (R y - 1, true)
        rw [pk_us]; unfold zs_so; rw [if_pos (by show R y - 1 < R y; omega)]
      refine zy_b47 (J7 := wY_buildEdges_7 post (d + 1)) (n := E y - R y) (base := zy_cn Ow U y) (L := L) (P := P) (r := R y) (zy_D K cl R E y) (by omega) r1 (by omega) (by omega) (by omega) (by rw [hE y]; congr 1; omega) r4 (fun c x z => r7 c x (by omega))
        (fun ne' m' ef' et' ew' sv' si' h1 h2 => ih (y + 1) ne' (nI m') ef' et' ew' sv' si' (by omega) (by omega) (zy_ed_iff (fun c => ?_) h2)) (E y - R y) 0 ne ef et ew _ _ (by omega) (by omega) (zy_ed_iff (fun c => ?_) hed) hst0
      · constructor
        · intro z
          rcases z with ⟨z1, n, z2, z3⟩ | z
          · exact ⟨z1, n, by omega, z3⟩
          · exact ⟨z.1, y, by omega, hc, z.2.1, by have := z.2.2; omega⟩
        · intro ⟨z1, n, z2, z3, z4, z5⟩
          by_cases e : n = y
          · rw [e] at z4 z5; exact Or.inr ⟨z1, z4, by omega⟩
          · exact Or.inl ⟨z1, n, by omega, z3, z4, z5⟩
      · constructor
        · intro z; exact Or.inl z
        · intro z
          rcases z with z | z
          · exact z
          · omega
theorem zy_204 {post : Int32 → SY → Prop} {J37 : Int32 → Int32 → (Nat → Int32) → (Nat → Int32) → (Nat → Int32) → (Nat → Int32) → (Nat → Int32) → (Nat → Int32) → (Nat → Int32) → (Nat → Int32) → (Nat → Int32) → (Nat → Int32) → (Nat → Int32) → (Nat → Int32) → (Nat → Int32) → (Nat → Int32) → (Nat → Int32) → (Nat → Int32) → (Nat → Int32) → (Nat → Int32) → (Nat → Int32) → (Nat → Int32) → (Nat → Int32) → Prop} {b l : Nat} {Z : Nat → Int32} {x1 x3 v' : Int32} (hb : b < N) (hN : N ≤ 8) (hn : ∀ t, t < N → ynb t = Z t)
    (v1 : Z b = -1000000 → v' = x3) (v2 : Z b ≤ x3 → v' = x3) (v3 : ¬ Z b ≤ x3 → v' = Z b) (hJ : ∀ best', (∀ t, t < N → best' t = Z t) → J37 v' (nI (l + 2)) K A cl ds en ss yef yet yew best' ynb yv yx ysv ysi yvs ymo ymv yip ypN ypI) :
    ∀ d i best, i + d = N → (∀ t, t < i → best t = Z t) → wY_guard_204 post J37 x1 (nI b) x3 (nI (l + 1)) (nI N) (nI C) (nI U) op (nI S) yne ysp yvsp ypn lv fn fi (d + 1) (nI i) K A cl ds en ss yef yet yew best ynb yv yx ysv ysi yvs ymo ymv yip ypN ypI := by
  intro d
  induction d with
  | zero =>
    intro i best hi hw
    have e : (nI b).toNatClampNeg = b := nI_clamp (by omega)
    have hin : vp_in (nI b) 8 := vp_in_nI (by omega) (by omega)
    have hw' : ∀ t, t < N → best t = Z t := fun t ht => hw t (by omega)
    have eb : best (nI b).toNatClampNeg = Z b := by rw [e]; exact hw' b hb
    have J := hJ best hw'
    refine br_t (nI_le (by omega) (by omega)) ⟨hin, ?_⟩
    by_cases h1 : Z b = -1000000
    · rw [v1 h1] at J
      exact br_t (by rw [eb]; exact h1) (nm_r (nI_1 (l + 1)) J)
    · refine br_f (by rw [eb]; exact h1) ⟨hin, ?_⟩
      by_cases h2 : Z b ≤ x3
      · rw [v2 h2] at J
        exact br_t (by rw [eb]; exact h2) (nm_r (nI_1 (l + 1)) J)
      · rw [v3 h2] at J
        exact br_f (by rw [eb]; exact h2) ⟨hin, nm_r eb (nm_r (nI_1 (l + 1)) J)⟩
  | succ d ih =>
    intro i best hi hw
    have e : (nI i).toNatClampNeg = i := nI_clamp (by omega)
    have hin : vp_in (nI i) 8 := vp_in_nI (by omega) (by omega)
    refine br_f (nI_ge (by omega) (by omega)) ⟨hin, hin, nm_r (e' := upd best i (Z i)) (by rw [e, hn i (by omega)]) (nm_r (nI_1 i) (ih (i + 1) _ (by omega) (fun t ht => ?_)))⟩
    by_cases et : t = i
    · rw [et, pk_us]
    · rw [pk_un et]; exact hw t (by omega)
theorem zy_157 {post : Int32 → SY → Prop} {J37 : Int32 → Int32 → (Nat → Int32) → (Nat → Int32) → (Nat → Int32) → (Nat → Int32) → (Nat → Int32) → (Nat → Int32) → (Nat → Int32) → (Nat → Int32) → (Nat → Int32) → (Nat → Int32) → (Nat → Int32) → (Nat → Int32) → (Nat → Int32) → (Nat → Int32) → (Nat → Int32) → (Nat → Int32) → (Nat → Int32) → (Nat → Int32) → (Nat → Int32) → (Nat → Int32) → (Nat → Int32) → Prop} {J76 : Int32 → (Nat → Int32) → (Nat → Int32) → (Nat → Int32) → (Nat → Int32) → (Nat → Int32) → (Nat → Int32) → (Nat → Int32) → (Nat → Int32) → (Nat → Int32) → (Nat → Int32) → (Nat → Int32) → (Nat → Int32) → (Nat → Int32) → (Nat → Int32) → (Nat → Int32) → (Nat → Int32) → (Nat → Int32) → (Nat → Int32) → (Nat → Int32) → (Nat → Int32) → (Nat → Int32) → Prop} {e m : Nat} {x1 x2 x3 x4 x6 : Int32} (he : e < 100) (hm : m < 8) (hem : yet e = nI m) (h1 : x6 = -1000000 → J76 (nI (e + 1)) K A cl ds en ss yef yet yew yb ynb yv yx ysv ysi yvs ymo ymv yip ypN ypI)
    (h2 : ¬ x6 = -1000000 → ¬ ynb m < x6 → J76 (nI (e + 1)) K A cl ds en ss yef yet yew yb ynb yv yx ysv ysi yvs ymo ymv yip ypN ypI) (h3 : ¬ x6 = -1000000 → ynb m < x6 → J76 (nI (e + 1)) K A cl ds en ss yef yet yew yb (upd ynb m x6) yv yx ysv ysi yvs ymo ymv yip ypN ypI) : wY_guard_157 post J37 J76 x1 x2 x3 x4 (nI e) x6 (nI N) (nI C) (nI U) op (nI S) yne ysp yvsp ypn lv fn fi K A cl ds en ss yef yet yew yb ynb yv yx ysv ysi yvs ymo ymv yip ypN ypI := by
  have ee : (nI e).toNatClampNeg = e := nI_clamp (by omega)
  have em : (nI m).toNatClampNeg = m := nI_clamp (by omega)
  have hin : vp_in (nI e) 100 := vp_in_nI he (by omega)
  have hin8 : vp_in (yet (nI e).toNatClampNeg) 8 := by rw [ee, hem]; exact vp_in_nI hm (by omega)
  have e2 : (yet (nI e).toNatClampNeg).toNatClampNeg = m := by rw [ee, hem]; exact em
  by_cases hx : x6 = -1000000
  · exact br_t hx (nm_r (nI_1 e) (h1 hx))
  · refine br_f hx ⟨hin, hin8, ?_⟩
    by_cases hl : ynb m < x6
    · exact br_f (by rw [e2]; exact Int32.not_le.mpr hl) ⟨hin, hin8, nm_r (by rw [e2]) (nm_r (nI_1 e) (h3 hx hl))⟩
    · exact br_t (by rw [e2]; exact Int32.not_lt.mp hl) (nm_r (nI_1 e) (h2 hx hl))
def zy_EY (ef et ew W : Nat → Int32) (n t : Nat) (w : Int32) : Prop := ∃ e, e < n ∧ (et e).toNatClampNeg = t ∧ W (ef e).toNatClampNeg ≠ -1000000 ∧ w = W (ef e).toNatClampNeg + ew e
theorem zy_EY_n {ef et ew W : Nat → Int32} {n t : Nat} {w : Int32} (h : W (ef n).toNatClampNeg = -1000000) : zy_EY ef et ew W n t w ↔ zy_EY ef et ew W (n + 1) t w := by
  constructor
  · intro ⟨e, h1, h2⟩; exact ⟨e, by omega, h2⟩
  · intro ⟨e, h1, h2, h3, h4⟩
    by_cases en : e = n
    · rw [en] at h3; exact absurd h h3
    · exact ⟨e, by omega, h2, h3, h4⟩
theorem zy_EY_t {ef et ew W : Nat → Int32} {n m t : Nat} {w x : Int32} (hm : (et n).toNatClampNeg = m) (h : W (ef n).toNatClampNeg ≠ -1000000) (hx : x = W (ef n).toNatClampNeg + ew n) : (zy_EY ef et ew W n t w ∨ (t = m ∧ w = x)) ↔ zy_EY ef et ew W (n + 1) t w := by
  constructor
  · intro z
    rcases z with ⟨e, h1, h2⟩ | ⟨h1, h2⟩
    · exact ⟨e, by omega, h2⟩
    · exact ⟨n, by omega, by rw [hm, h1], h, by rw [h2, hx]⟩
  · intro ⟨e, h1, h2, h3, h4⟩
    by_cases en : e = n
    · rw [en] at h2 h4; exact Or.inr ⟨by rw [← h2, hm], by rw [h4, hx]⟩
    · exact Or.inl ⟨e, by omega, h2, h3, h4⟩
theorem zy_76 {post : Int32 → SY → Prop} {J37 : Int32 → Int32 → (Nat → Int32) → (Nat → Int32) → (Nat → Int32) → (Nat → Int32) → (Nat → Int32) → (Nat → Int32) → (Nat → Int32) → (Nat → Int32) → (Nat → Int32) → (Nat → Int32) → (Nat → Int32) → (Nat → Int32) → (Nat → Int32) → (Nat → Int32) → (Nat → Int32) → (Nat → Int32) → (Nat → Int32) → (Nat → Int32) → (Nat → Int32) → (Nat → Int32) → (Nat → Int32) → Prop} {a l ne : Nat} {W : Nat → Int32} {x2 x3 : Int32} (ha : a < N) (hN : N ≤ 8) (hl : l < 8) (hne : ne ≤ 96) (hW1 : l = 0 → ∀ t, t < N → W t = if t = a then 0 else -1000000) (hW2 : l ≠ 0 → ∀ t, t < N → yb t = W t)
    (hbd : ∀ t, t < N → W t = -1000000 ∨ zg_bd (96 * l) (W t)) (hE : ∀ e, e < ne → ∃ n m, n < N ∧ m < N ∧ yef e = nI n ∧ yet e = nI m ∧ zg_bd 96 (yew e))
    (hp : ∀ nb', zg_mx (zy_EY yef yet yew W ne) N nb' → ∃ n204 : Nat, wY_guard_204 post J37 (nI a) x2 x3 (nI (l + 1)) (nI N) (nI C) (nI U) op (nI S) (nI ne) ysp yvsp ypn lv fn fi n204 0 K A cl ds en ss yef yet yew yb nb' yv yx ysv ysi yvs ymo ymv yip ypN ypI) :
    ∀ d e nb, e + d = ne → zg_mx (zy_EY yef yet yew W e) N nb → wY_guard_76 post J37 (nI a) x2 x3 (nI (l + 1)) (nI N) (nI C) (nI U) op (nI S) (nI ne) ysp yvsp ypn lv fn fi (d + 1) (nI e) K A cl ds en ss yef yet yew yb nb yv yx ysv ysi yvs ymo ymv yip ypN ypI := by
  intro d
  induction d with
  | zero =>
    intro e nb he hm
    obtain rfl : e = ne := by omega
    exact br_t (nI_le (by omega) (by omega)) (hp nb hm)
  | succ d ih =>
    intro e nb he hmx
    obtain ⟨n, m, hn, hm, qn, qm, hbe⟩ := hE e (by omega)
    have ee : (nI e).toNatClampNeg = e := nI_clamp (by omega)
    have hin : vp_in (nI e) 100 := vp_in_nI (by omega) (by omega)
    have en8 : (yef e).toNatClampNeg = n := by rw [qn]; exact nI_clamp (by omega)
    have em8 : (yet e).toNatClampNeg = m := by rw [qm]; exact nI_clamp (by omega)
    have skip : W n = -1000000 → wY_guard_157 post J37 (wY_guard_76 post J37 (nI a) x2 x3 (nI (l + 1)) (nI N) (nI C) (nI U) op (nI S) (nI ne) ysp yvsp ypn lv fn fi (d + 1)) (nI a) x2 x3 (nI (l + 1)) (nI e) (-1000000) (nI N) (nI C) (nI U) op (nI S) (nI ne) ysp yvsp ypn lv fn fi K A cl ds en ss yef yet yew yb nb yv yx ysv ysi yvs ymo ymv yip ypN ypI := by
      intro hw
      exact zy_157 (by omega) (by omega) qm (fun _ => ih (e + 1) nb (by omega) (zg_mx_iff (fun t w _ => zy_EY_n (by rw [en8]; exact hw)) hmx)) (fun z => absurd rfl z) (fun z => absurd rfl z)
    have take : ∀ x6 : Int32, ¬ W n = -1000000 → x6 = W n + yew e → wY_guard_157 post J37 (wY_guard_76 post J37 (nI a) x2 x3 (nI (l + 1)) (nI N) (nI C) (nI U) op (nI S) (nI ne) ysp yvsp ypn lv fn fi (d + 1)) (nI a) x2 x3 (nI (l + 1)) (nI e) x6 (nI N) (nI C) (nI U) op (nI S) (nI ne) ysp yvsp ypn lv fn fi K A cl ds en ss yef yet yew yb nb yv yx ysv ysi yvs ymo ymv yip ypN ypI := by
      intro x6 hw hx
      have hx' : x6 = W (yef e).toNatClampNeg + yew e := by rw [en8]; exact hx
      have hw' : W (yef e).toNatClampNeg ≠ -1000000 := by rw [en8]; exact hw
      have hb := (hbd n hn).resolve_left hw
      have hbx : x6 ≠ -1000000 := by rw [hx]; exact zg_bd_ne (B := 96 * l + 96) (by omega) (zg_bd_add (by omega) hb hbe)
      exact zy_157 (by omega) (by omega) qm (fun z => absurd z hbx) (fun _ hlt => ih (e + 1) nb (by omega) (zg_mx_iff (fun t w _ => zy_EY_t em8 hw' hx') (zg_mx_n hmx hlt))) (fun _ hlt => ih (e + 1) _ (by omega) (zg_mx_iff (fun t w _ => zy_EY_t em8 hw' hx') (zg_mx_t hmx hlt)))
    refine br_f (nI_ge (by omega) (by omega)) ?_
    by_cases hl0 : l = 0
    · refine br_t (by rw [hl0]; rfl) ⟨hin, ?_⟩
      have hWn := hW1 hl0 n hn
      by_cases hna : n = a
      · rw [if_pos hna] at hWn
        refine br_t (by rw [ee, qn, hna]) ⟨hin, nm_r (e' := yew e) (by rw [ee]) (take _ (by rw [hWn]; decide) (by rw [hWn, Int32.zero_add]))⟩
      · rw [if_neg hna] at hWn
        exact br_f (fun z => hna (by rw [ee, qn] at z; exact zn_im z (by omega) (by omega))) (skip hWn)
    · have hi8 : vp_in (yef (nI e).toNatClampNeg) 8 := by rw [ee, qn]; exact vp_in_nI (by omega) (by omega)
      have ebn : yb (yef (nI e).toNatClampNeg).toNatClampNeg = W n := by rw [ee, en8]; exact hW2 hl0 n hn
      refine br_f (fun z => hl0 (by have := zn_im (a := l + 1) (b := 1) z (by omega) (by omega); omega)) ⟨hin, hi8, ?_⟩
      by_cases hw : W n = -1000000
      · exact br_t (by rw [ebn]; exact hw) (skip hw)
      · exact br_f (by rw [ebn]; exact hw) ⟨hin, hi8, hin, nm_r (e' := W n + yew e) (by rw [ebn, ee]) (take _ hw rfl)⟩
theorem zy_49 {post : Int32 → SY → Prop} {J37 : Int32 → Int32 → (Nat → Int32) → (Nat → Int32) → (Nat → Int32) → (Nat → Int32) → (Nat → Int32) → (Nat → Int32) → (Nat → Int32) → (Nat → Int32) → (Nat → Int32) → (Nat → Int32) → (Nat → Int32) → (Nat → Int32) → (Nat → Int32) → (Nat → Int32) → (Nat → Int32) → (Nat → Int32) → (Nat → Int32) → (Nat → Int32) → (Nat → Int32) → (Nat → Int32) → (Nat → Int32) → Prop} {x1 x2 x3 x4 : Int32} (hN : N ≤ 8) (hp : ∀ nb', (∀ t, t < N → nb' t = -1000000) → ∃ n76 : Nat, wY_guard_76 post J37 x1 x2 x3 x4 (nI N) (nI C) (nI U) op (nI S) yne ysp yvsp ypn lv fn fi n76 0 K A cl ds en ss yef yet yew yb nb' yv yx ysv ysi yvs ymo ymv yip ypN ypI) :
    ∀ d i nb, i + d = N → (∀ t, t < i → nb t = -1000000) → wY_guard_49 post J37 x1 x2 x3 x4 (nI N) (nI C) (nI U) op (nI S) yne ysp yvsp ypn lv fn fi (d + 1) (nI i) K A cl ds en ss yef yet yew yb nb yv yx ysv ysi yvs ymo ymv yip ypN ypI := by
  intro d
  induction d with
  | zero =>
    intro i nb hi hl
    exact br_t (nI_le (by omega) (by omega)) (hp nb (fun t ht => hl t (by omega)))
  | succ d ih =>
    intro i nb hi hl
    have e : (nI i).toNatClampNeg = i := nI_clamp (by omega)
    refine br_f (nI_ge (by omega) (by omega)) ⟨vp_in_nI (by omega) (by omega), nm_r (e' := upd nb i (-1000000)) (by rw [e]) (nm_r (nI_1 i) (ih (i + 1) _ (by omega) (fun t ht => ?_)))⟩
    by_cases et : t = i
    · rw [et, pk_us]
    · rw [pk_un et]; exact hl t (by omega)
theorem zg_g_ge {a b : Nat} : ∀ l, (-1000000 : Int32) ≤ zg_g K A O Ow cl U a b l := by
  intro l
  induction l with
  | zero => exact Int32.le_refl _
  | succ l ih =>
    show _ ≤ (if zg_g K A O Ow cl U a b l < zg_seq K A O Ow cl U a (l + 1) b then zg_seq K A O Ow cl U a (l + 1) b else zg_g K A O Ow cl U a b l)
    split
    · rename_i h; exact Int32.le_trans ih (Int32.le_of_lt h)
    · exact ih
theorem zy_37 {post : Int32 → SY → Prop} {a b ne : Nat} (h : zi_inv N C U S op K A P O L Ow cl so sp R E) (ha : a < N) (hb : b < N) (hne : ne ≤ 96) (hed : zy_ed A Ow O ne yef yet yew (zy_D K cl R E N))
    (hp : ∀ best' nb', post (zg_g K A O Ow cl U a b N) ((nI N), (nI C), (nI U), op, (nI S), (nI ne), ysp, yvsp, ypn, lv, fn, fi, K, A, cl, ds, en, ss, yef, yet, yew, best', nb', yv, yx, ysv, ysi, yvs, ymo, ymv, yip, ypN, ypI)) :
    ∀ d l best nb, l + d = N → (l ≠ 0 → ∀ t, t < N → best t = zg_seq K A O Ow cl U a l t) →
      wY_guard_37 post (nI a) (nI b) (nI N) (nI C) (nI U) op (nI S) (nI ne) ysp yvsp ypn lv fn fi (d + 1) (zg_g K A O Ow cl U a b l) (nI (l + 1)) K A cl ds en ss yef yet yew best nb yv yx ysv ysi yvs ymo ymv yip ypN ypI := by
  have href := zi_ref h
  obtain ⟨⟨a1, a2, a3, a4, a5⟩, hcl, hcd, hRE, hA, hOw, ho⟩ := h
  have hDN : ∀ c, zy_D K cl R E N c ↔ (c < U ∧ K c = 11 ∧ cl (Ow c).toNatClampNeg = 1) := by
    intro c
    constructor
    · intro ⟨z1, n, z2, z3, z4, z5⟩
      obtain ⟨r1, r2, r3, r4, r5, r6, r7⟩ := hcd n z2 z3
      exact ⟨by omega, z1, by rw [r7 c (by omega) z5, nI_clamp (by omega)]; exact z3⟩
    · intro ⟨z1, z2, z3⟩
      obtain ⟨n, w1, w2, w3, w4, w5, _⟩ := href c z1 z2 z3
      exact ⟨z2, n, w1, w3, w4, w5⟩
  have hEd : ∀ e, e < ne → ∃ n m, n < N ∧ m < N ∧ yef e = nI n ∧ yet e = nI m ∧ zg_bd 96 (yew e) := by
    intro e he
    obtain ⟨c, hc, e1, e2, e3⟩ := hed.1 e he
    obtain ⟨z1, z2, z3⟩ := (hDN c).mp hc
    obtain ⟨n, w1, w2, _, _, _, w6⟩ := href c z1 z2 z3
    obtain ⟨m, m1, m2⟩ := hA c z1 z2
    exact ⟨n, m, w1, m1, e1.trans w2, e2.trans m2, by rw [e3]; exact w6⟩
  have hOb : ∀ c, c < U → K c = 11 → cl (Ow c).toNatClampNeg = 1 → (Ow c).toNatClampNeg < N ∧ zg_bd 96 (O c) := by
    intro c z1 z2 z3
    obtain ⟨n, w1, w2, _, _, _, w6⟩ := href c z1 z2 z3
    exact ⟨by rw [w2, nI_clamp (by omega)]; exact w1, w6⟩
  have hbd := zg_seq_bd (A := A) (a := a) (N := N) hOb
  intro d
  induction d with
  | zero =>
    intro l best nb hl _
    obtain rfl : l = N := by omega
    exact br_t (nI_lt (by omega) (by omega)) (hp best nb)
  | succ d ih =>
    intro l best nb hl hbest
    refine br_f (nI_nlt (by omega) (by omega)) ⟨_, zy_49 a2 (fun nb1 h1 => ⟨_, zy_76 (W := zg_seq K A O Ow cl U a l) ha a2 (by omega) hne (fun hl0 t ht => by rw [hl0]; rfl) hbest (fun t ht => hbd l (by omega) t ht) hEd (fun nb2 h2 => ?_) ne 0 nb1 (by omega) (zg_mx_0 (fun t w _ => fun ⟨e, z, _⟩ => absurd z (Nat.not_lt_zero e)) h1)⟩) N 0 nb (by omega) (fun t ht => absurd ht (Nat.not_lt_zero t))⟩
    have hEiff : ∀ t w, t < N → (zy_EY yef yet yew (zg_seq K A O Ow cl U a l) ne t w ↔ zg_E K A O Ow cl (zg_seq K A O Ow cl U a l) U t w) := by
      intro t w _
      constructor
      · intro ⟨e, z1, z2, z3, z4⟩
        obtain ⟨c, hc, e1, e2, e3⟩ := hed.1 e z1
        obtain ⟨y1, y2, y3⟩ := (hDN c).mp hc
        exact ⟨c, y1, y2, y3, by rw [← e2]; exact z2, by rw [← e1]; exact z3, by rw [← e1, ← e3]; exact z4⟩
      · intro ⟨c, y1, y2, y3, z2, z3, z4⟩
        obtain ⟨e, z1, e1, e2, e3⟩ := hed.2 c ((hDN c).mpr ⟨y1, y2, y3⟩)
        exact ⟨e, z1, by rw [e2]; exact z2, by rw [e1]; exact z3, by rw [e1, e3]; exact z4⟩
    have hZ : ∀ t, t < N → nb2 t = zg_seq K A O Ow cl U a (l + 1) t := by
      refine zg_mx_un (E := zg_E K A O Ow cl (zg_seq K A O Ow cl U a l) U) (fun t w ht hE => ?_) (zg_mx_iff hEiff h2) (zg_len_mx K A O Ow cl (zg_seq K A O Ow cl U a l) N U)
      obtain ⟨c, y1, y2, y3, z2, z3, z4⟩ := hE
      obtain ⟨w1, w2⟩ := hOb c y1 y2 y3
      rw [z4]
      exact zg_bd_gt (B := 96 * l + 96) (by omega) (zg_bd_add (by omega) ((hbd l (by omega) _ w1).resolve_left z3) w2)
    have hg : zg_g K A O Ow cl U a b (l + 1) = if zg_g K A O Ow cl U a b l < zg_seq K A O Ow cl U a (l + 1) b then zg_seq K A O Ow cl U a (l + 1) b else zg_g K A O Ow cl U a b l := rfl
    refine ⟨_, zy_204 (v' := zg_g K A O Ow cl U a b (l + 1)) (Z := zg_seq K A O Ow cl U a (l + 1)) hb a2 hZ (fun z => ?_) (fun z => ?_) (fun z => ?_) (fun best' hb' => ih (l + 1) best' nb2 (by omega) (fun _ => hb')) N 0 best (by omega) (fun t ht => absurd ht (Nat.not_lt_zero t))⟩
    · rw [hg, if_neg (by rw [z]; exact Int32.not_lt.mpr (zg_g_ge l))]
    · rw [hg, if_neg (Int32.not_lt.mpr z)]
    · rw [hg, if_pos (Int32.not_le.mp z)]
theorem zy_guard {post : Int32 → SY → Prop} {a b : Nat} (hD : ∀ n, ds n = nI (R n - 1)) (hE : ∀ n, en n = nI (E n)) (h : zi_inv N C U S op K A P O L Ow cl so sp R E) (ha : a < N) (hb : b < N)
    (hp : ∀ (yne ysp : Int32) (yef yet yew yb ynb ysv ysi : Nat → Int32), post (zg_g K A O Ow cl U a b N) ((nI N), (nI C), (nI U), op, (nI S), yne, ysp, yvsp, ypn, lv, fn, fi, K, A, cl, ds, en, ss, yef, yet, yew, yb, ynb, yv, yx, ysv, ysi, yvs, ymo, ymv, yip, ypN, ypI)) : wpY_guard post ((nI N), (nI C), (nI U), op, (nI S), yne, ysp, yvsp, ypn, lv, fn, fi, K, A, cl, ds, en, ss, yef, yet, yew, yb, ynb, yv, yx, ysv, ysi, yvs, ymo, ymv, yip, ypN, ypI) (nI a) (nI b) := by
  have hN := h.1.2.1
  refine br_f (nI_pos (by omega)) (br_f (nI_ge ha (by omega)) (br_f (nI_pos (by omega)) (br_t (nI_lt hb (by omega)) ⟨_, zy_b7 hD hE h (fun ne msp ef et ew sv si hne hed => ⟨_, zy_37 h ha hb hne hed (fun best' nb' => hp _ _ _ _ _ _ _ _ _) N 0 _ _ (by omega) (fun z => absurd rfl z)⟩) N 0 0 ysp yef yet yew ysv ysi (by omega) (Nat.zero_le _) ?_⟩)))
  exact ⟨fun e he => absurd he (Nat.not_lt_zero e), fun c hc => by obtain ⟨_, n, z, _⟩ := hc; exact absurd z (Nat.not_lt_zero n)⟩
theorem zy_guard0 {post : Int32 → SY → Prop} {x y : Int32} (h : (x < 0 ∨ nI N ≤ x) ∨ (y < 0 ∨ nI N ≤ y)) (hp : post (-1000000) ((nI N), (nI C), (nI U), op, (nI S), yne, ysp, yvsp, ypn, lv, fn, fi, K, A, cl, ds, en, ss, yef, yet, yew, yb, ynb, yv, yx, ysv, ysi, yvs, ymo, ymv, yip, ypN, ypI)) : wpY_guard post ((nI N), (nI C), (nI U), op, (nI S), yne, ysp, yvsp, ypn, lv, fn, fi, K, A, cl, ds, en, ss, yef, yet, yew, yb, ynb, yv, yx, ysv, ysi, yvs, ymo, ymv, yip, ypN, ypI) x y := by
  by_cases h1 : x < 0
  · exact br_t h1 hp
  · refine br_f h1 ?_
    by_cases h2 : nI N ≤ x
    · exact br_t h2 hp
    · refine br_f h2 ?_
      by_cases h3 : y < 0
      · exact br_t h3 hp
      · refine br_f h3 (br_f (fun z => ?_) hp)
        rcases h with h | h
        · exact h.elim h1 h2
        · rcases h with h | h
          · exact h3 h
          · exact absurd z (Int32.not_lt.mpr h)
theorem i_vc_guard {k : Nat} {u : SX} {v : SY} (I : i_Rel k u v) (hk : k + 3 ≤ 1538) (v1 : Int32) (v2 : Int32) : wpX_guard (fun r u' => wpY_guard (fun r' v' => r' = r ∧ i_Rel (k + 3) u' v') v v1 v2) u v1 v2 := by
  have J := i_up I
  obtain ⟨N, C, U, S, op, lv, fn, fi, K, A, Ow, O, P, L, cl, rt, en, ss, so, sp, ds, R, E, pl, ww, lw, vi, vv, ps, pv, pt, yne, ysp, yvsp, ypn, yef, yet, yew, yb, ynb, yv, yx, ysv, ysi, yvs, ymo, ymv, yip, ypN, ypI, rfl, rfl, hR, hD, hE, h⟩ := I
  have hb := h.1
  have hOw : ∀ c, c < U → ∃ n, n < N ∧ Ow c = nI n := fun c hc => by
    obtain ⟨n, h1, h2, _⟩ := h.2.2.2.2.2.1 c hc
    exact ⟨n, h1, h2⟩
  by_cases hv : (v1 < 0 ∨ nI N ≤ v1) ∨ (v2 < 0 ∨ nI N ≤ v2)
  · exact zx_guard0 (by omega) hv (zy_guard0 hv ⟨rfl, J⟩)
  · obtain ⟨a, ha, rfl⟩ : ∃ j : Nat, j < N ∧ v1 = nI j := by
      rcases pk_ix v1 (n := N) (by omega) with h | h | h
      · exact absurd (Or.inl (Or.inl h)) hv
      · exact absurd (Or.inl (Or.inr h)) hv
      · exact h
    obtain ⟨b, hb', rfl⟩ : ∃ j : Nat, j < N ∧ v2 = nI j := by
      rcases pk_ix v2 (n := N) (by omega) with h | h | h
      · exact absurd (Or.inr (Or.inl h)) hv
      · exact absurd (Or.inr (Or.inr h)) hv
      · exact h
    exact zx_guard ha hb' (by omega) (by omega) h.2.1 h.2.2.2.2.1 hOw (fun ww' lw' => zy_guard hD hE h ha hb' (fun _ _ _ _ _ _ _ _ _ => ⟨rfl, zr_mk hR hD hE h⟩))
/-- the names one by one -/
def zv_r (K A O Ow cl : Nat → Int32) (U N : Nat) : Nat → Int32
  | 0 => 0
  | d + 1 => if cl (N - (d + 1)) = 0 then zv_r K A O Ow cl U N d else if zg_g K A O Ow cl U (N - (d + 1)) (N - (d + 1)) N < 0 then zv_r K A O Ow cl U N d else 4
theorem zv_x {post : Int32 → SX → Prop} (hN : N ≤ 8) (hU : U ≤ 96) (hcl : ∀ n, cl n = 0 ∨ cl n = 1) (hA : ∀ c, c < U → K c = 11 → ∃ m, m < N ∧ A c = nI m) (hO : ∀ c, c < U → ∃ n, n < N ∧ Ow c = nI n) :
    ∀ d i ww lw, i + d = N → (∀ ww' lw', post (zv_r K A O Ow cl U N d) ((nI N), (nI C), (nI U), op, (nI S), pl, lv, fn, fi, K, A, Ow, O, P, L, cl, rt, en, ss, so, sp, ww', lw', vi, vv, ps, pv, pt)) → wX_verdict_13 post (d + 1) (nI i) (nI N) (nI C) (nI U) op (nI S) pl lv fn fi K A Ow O P L cl rt en ss so sp ww lw vi vv ps pv pt := by
  intro d
  induction d with
  | zero => intro i ww lw hi hp; exact br_t (nI_le (by omega) (by omega)) (hp ww lw)
  | succ d ih =>
    intro i ww lw hi hp
    have e : (nI i).toNatClampNeg = i := nI_clamp (by omega)
    have hi' : N - (d + 1) = i := by omega
    have hr : zv_r K A O Ow cl U N (d + 1) = if cl i = 0 then zv_r K A O Ow cl U N d else if zg_g K A O Ow cl U i i N < 0 then zv_r K A O Ow cl U N d else 4 := by
      show (if cl (N - (d + 1)) = 0 then _ else _) = _
      rw [hi']
    rw [hr] at hp
    refine br_f (nI_ge (by omega) (by omega)) ⟨vp_in_nI (by omega) (by omega), ?_⟩
    by_cases hc : cl (nI i).toNatClampNeg = 0
    · rw [e] at hc
      rw [if_pos hc] at hp
      exact br_t (by rw [e]; exact hc) (nm_r (nI_1 i) (ih (i + 1) ww lw (by omega) hp))
    · refine br_f hc (zx_guard (by omega) (by omega) hN hU hcl hA hO (fun ww' lw' => ?_))
      rw [e] at hc
      rw [if_neg hc] at hp
      by_cases hg : zg_g K A O Ow cl U i i N < 0
      · rw [if_pos hg] at hp
        exact br_t hg (nm_r (nI_1 i) (ih (i + 1) ww' lw' (by omega) hp))
      · rw [if_neg hg] at hp
        exact br_f hg (hp ww' lw')
theorem zv_y {post : Int32 → SY → Prop} (hD : ∀ n, ds n = nI (R n - 1)) (hE : ∀ n, en n = nI (E n)) (h : zi_inv N C U S op K A P O L Ow cl so sp R E) :
    ∀ d i (yne ysp : Int32) (yef yet yew yb ynb ysv ysi : Nat → Int32), i + d = N → (∀ (yne ysp : Int32) (yef yet yew yb ynb ysv ysi : Nat → Int32), post (zv_r K A O Ow cl U N d) ((nI N), (nI C), (nI U), op, (nI S), yne, ysp, yvsp, ypn, lv, fn, fi, K, A, cl, ds, en, ss, yef, yet, yew, yb, ynb, yv, yx, ysv, ysi, yvs, ymo, ymv, yip, ypN, ypI)) → wY_verdict_13 post (d + 1) (nI i) (nI N) (nI C) (nI U) op (nI S) yne ysp yvsp ypn lv fn fi K A cl ds en ss yef yet yew yb ynb yv yx ysv ysi yvs ymo ymv yip ypN ypI := by
  have hN := h.1.2.1
  intro d
  induction d with
  | zero => intro i _ _ _ _ _ _ _ _ _ hi hp; exact br_t (nI_le (by omega) (by omega)) (hp _ _ _ _ _ _ _ _ _)
  | succ d ih =>
    intro i _ _ _ _ _ _ _ _ _ hi hp
    have e : (nI i).toNatClampNeg = i := nI_clamp (by omega)
    have hi' : N - (d + 1) = i := by omega
    have hr : zv_r K A O Ow cl U N (d + 1) = if cl i = 0 then zv_r K A O Ow cl U N d else if zg_g K A O Ow cl U i i N < 0 then zv_r K A O Ow cl U N d else 4 := by
      show (if cl (N - (d + 1)) = 0 then _ else _) = _
      rw [hi']
    rw [hr] at hp
    refine br_f (nI_ge (by omega) (by omega)) ⟨vp_in_nI (by omega) (by omega), ?_⟩
    by_cases hc : cl (nI i).toNatClampNeg = 0
    · rw [e] at hc
      rw [if_pos hc] at hp
      exact br_t (by rw [e]; exact hc) (nm_r (nI_1 i) (ih (i + 1) _ _ _ _ _ _ _ _ _ (by omega) hp))
    · refine br_f hc (zy_guard hD hE h (by omega) (by omega) (fun _ _ _ _ _ _ _ _ _ => ?_))
      rw [e] at hc
      rw [if_neg hc] at hp
      by_cases hg : zg_g K A O Ow cl U i i N < 0
      · rw [if_pos hg] at hp
        exact br_t hg (nm_r (nI_1 i) (ih (i + 1) _ _ _ _ _ _ _ _ _ (by omega) hp))
      · rw [if_neg hg] at hp
        exact br_f hg (hp _ _ _ _ _ _ _ _ _)
theorem i_vc_verdict {k : Nat} {u : SX} {v : SY} (I : i_Rel k u v) (hk : k + 3 ≤ 1538) : wpX_verdict (fun r u' => wpY_verdict (fun r' v' => r' = r ∧ i_Rel (k + 3) u' v') v) u := by
  have J := i_up I
  obtain ⟨N, C, U, S, op, lv, fn, fi, K, A, Ow, O, P, L, cl, rt, en, ss, so, sp, ds, R, E, pl, ww, lw, vi, vv, ps, pv, pt, yne, ysp, yvsp, ypn, yef, yet, yew, yb, ynb, yv, yx, ysv, ysi, yvs, ymo, ymv, yip, ypN, ypI, rfl, rfl, hR, hD, hE, h⟩ := I
  have hb := h.1
  have hOw : ∀ c, c < U → ∃ n, n < N ∧ Ow c = nI n := fun c hc => by
    obtain ⟨n, h1, h2, _⟩ := h.2.2.2.2.2.1 c hc
    exact ⟨n, h1, h2⟩
  obtain ⟨r, _, hX, hY⟩ := zo_obs (lv := lv) (fn := fn) (fi := fi) (pl := pl) (yne := yne) (ysp := ysp) (yvsp := yvsp) (ypn := ypn) (rt := rt) (en := en) (ss := ss) (ds := ds) (ww := ww) (lw := lw) (vi := vi) (vv := vv) (ps := ps) (pv := pv) (pt := pt) (yef := yef) (yet := yet) (yew := yew) (yb := yb) (ynb := ynb) (yv := yv) (yx := yx) (ysv := ysv) (ysi := ysi) (yvs := yvs) (ymo := ymo) (ymv := ymv) (yip := yip) (ypN := ypN) (ypI := ypI) h
  unfold wpX_verdict
  refine hX _ ?_
  by_cases hr : r = 0
  · refine br_t hr ⟨_, zv_x (by omega) (by omega) h.2.1 h.2.2.2.2.1 hOw N 0 _ _ (by omega) (fun ww' lw' => ?_)⟩
    unfold wpY_verdict
    exact hY _ (br_t hr ⟨_, zv_y hD hE h N 0 _ _ _ _ _ _ _ _ _ (by omega) (fun _ _ _ _ _ _ _ _ _ => ⟨rfl, zr_mk hR hD hE h⟩)⟩)
  · refine br_f hr ?_
    unfold wpY_verdict
    exact hY _ (br_f hr ⟨rfl, J⟩)
end Z12
