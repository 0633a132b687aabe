/-! eval, the component's side -/
def zf_D (K A V PS : Nat → Int32) (c : Nat) : Prop := K c = 11 ∧ V c ≠ -1 ∧ ¬ (V c < 32 ∧ PS (A c * 32 + V c).toNatClampNeg = 2)
theorem zf_n {D : Nat → Prop} {lo hi : Nat} {x : Int32} (h : zs_first D lo hi x) (hd : ¬ D hi) : zs_first D lo (hi + 1) x := by
  rcases h with ⟨h1, h2⟩ | ⟨c, h1, h2, h3⟩
  · refine Or.inl ⟨h1, fun c a b => ?_⟩
    by_cases e : c = hi
    · rw [e]; exact hd
    · exact h2 c a (by omega)
  · exact Or.inr ⟨c, h1, by omega, h3⟩
theorem zf_f {D : Nat → Prop} {lo hi : Nat} {x : Int32} (h : zs_first D lo hi x) (hx : x ≠ -1) : zs_first D lo (hi + 1) x := by
  rcases h with ⟨h1, _⟩ | ⟨c, h1, h2, h3⟩
  · exact absurd h1 hx
  · exact Or.inr ⟨c, h1, by omega, h3⟩
theorem zf_no {D : Nat → Prop} {lo hi : Nat} (hh : hi < 2 ^ 31) (h : zs_first D lo hi (-1)) : ∀ c, lo ≤ c → c < hi → ¬ D c := by
  rcases h with ⟨_, h2⟩ | ⟨c, h1, h2, h3, h4, h5⟩
  · exact h2
  · exact absurd h5.symm (zn_ne1 (by omega))
theorem zf_t {D : Nat → Prop} {lo hi : Nat} (hh : hi < 2 ^ 31) (hl : lo ≤ hi) (h : zs_first D lo hi (-1)) (hd : D hi) : zs_first D lo (hi + 1) (nI hi) :=
  Or.inr ⟨hi, hl, by omega, hd, zf_no hh h, rfl⟩
theorem zf_un {D : Nat → Prop} {lo hi : Nat} {x y : Int32} (h : zs_first D lo hi x) (h' : zs_first D lo hi y) : x = y := by
  rcases h with ⟨h1, h2⟩ | ⟨c, h1, h2, h3, h4, h5⟩
  · rcases h' with ⟨g1, g2⟩ | ⟨c', g1, g2, g3, g4, g5⟩
    · rw [h1, g1]
    · exact absurd g3 (h2 c' g1 g2)
  · rcases h' with ⟨g1, g2⟩ | ⟨c', g1, g2, g3, g4, g5⟩
    · exact absurd h3 (g2 c h1 h2)
    · have : c = c' := by
        by_cases a : c < c'
        · exact absurd h3 (g4 c h1 a)
        · by_cases b : c' < c
          · exact absurd g3 (h4 c' g1 b)
          · omega
      rw [h5, g5, this]
section Z13
variable {N C U S : Nat} {op lv fn fi pl yne ysp yvsp ypn : Int32}
variable {K A Ow O P L cl rt en ss so sp ds ww lw vi vv ps pv pt yef yet yew yb ynb yv yx ysv ysi yvs ymo ymv yip ypN ypI : Nat → Int32}
variable {R E : Nat → Nat}
theorem zx_vb {post : Int32 → Prop} {r i : Nat} {j : Int32} {s : Nat × Bool} {t : List (Nat × Bool)} (hr : 1 ≤ r) (hi : 1 ≤ i) (h96 : r + i < 96) (es : zs_stk K r i = s :: t) (hP : P (r + i) = nI s.1) (hp : post (zs_sv K vi r j s)) : wpX_visitIndexBelowParent post ((nI N), (nI C), (nI U), op, (nI S), pl, lv, fn, fi, K, A, Ow, O, P, L, cl, rt, en, ss, so, sp, ww, lw, vi, vv, ps, pv, pt) (nI (r + i)) := by
  have hh := zs_hd hr es
  have e : (nI (r + i)).toNatClampNeg = r + i := nI_clamp (by omega)
  have e1 : (nI s.1).toNatClampNeg = s.1 := nI_clamp (by omega)
  have hin : vp_in (nI (r + i)) 96 := vp_in_nI h96 (by omega)
  have hin1 : vp_in (nI s.1) 96 := vp_in_nI (by omega) (by omega)
  unfold zs_sv at hp
  rw [if_neg (by omega)] at hp
  refine ⟨hin, nm_r (e' := nI s.1) (by rw [e, hP]) ⟨hin1, nm_r (e' := vi s.1) (by rw [e1]) ?_⟩⟩
  by_cases h1 : vi s.1 = -1
  · rw [if_pos h1] at hp; exact br_t h1 hp
  · rw [if_neg h1] at hp
    refine br_f h1 ⟨hin1, nm_r (e' := K s.1) (by rw [e1]) ?_⟩
    by_cases h2 : K s.1 = 2
    · rw [if_pos h2] at hp; exact br_t h2 hp
    · rw [if_neg h2] at hp
      refine br_f h2 ?_
      by_cases h6 : K s.1 = 6
      · rw [if_neg (by rw [h6]; decide), if_pos h6] at hp
        refine br_t h6 ?_
        rcases hh with ⟨hb, hh⟩ | ⟨hb, hh⟩
        · rw [if_pos hb] at hp
          refine br_t (by rw [nI_1, hh]) ?_
          by_cases h0 : vi s.1 = 0
          · rw [if_pos h0] at hp; exact br_t h0 hp
          · rw [if_neg h0] at hp; exact br_f h0 hp
        · rw [if_neg (by rw [hb]; decide)] at hp
          refine br_f (fun z => ?_) ?_
          · rw [nI_1] at z
            have := zn_im z (by omega) (by omega)
            omega
          · by_cases h0 : vi s.1 = 0
            · rw [if_pos h0] at hp; exact br_t h0 hp
            · rw [if_neg h0] at hp; exact br_f h0 hp
      · refine br_f h6 ?_
        by_cases h7 : K s.1 = 7
        · rw [if_pos h7] at hp; exact br_t h7 hp
        · rw [if_neg h7, if_neg h6] at hp; exact br_f h7 hp
theorem zx_m19 {post : St2 → Prop} {x r n : Nat} {j : Int32} (hx : x < 8) (hr : 1 ≤ r) (h96 : r + n ≤ 96) (hen : en x = nI (r + n)) (hd : zs_def K P O L r n) (hp : ∀ vi', zs_vis K vi' r j n → post ((nI N), (nI C), (nI U), op, (nI S), pl, lv, fn, fi, K, A, Ow, O, P, L, cl, rt, en, ss, so, sp, ww, lw, vi', vv, ps, pv, pt)) :
    ∀ d i vi, i + d = n → 1 ≤ i → zs_vis K vi r j i → wX_markVisits_19 post (nI x) (nI N) (nI C) (nI U) op (nI S) pl lv fn fi (d + 1) (nI (r + i)) K A Ow O P L cl rt en ss so sp ww lw vi vv ps pv pt := by
  have ex : (nI x).toNatClampNeg = x := nI_clamp (by omega)
  have hin8 : vp_in (nI x) 8 := vp_in_nI hx (by omega)
  intro d
  induction d with
  | zero =>
    intro i vi hi h1 hv
    obtain rfl : i = n := by omega
    exact ⟨hin8, br_t (by rw [ex, hen]; exact nI_le (Nat.le_refl _) (by omega)) (hp vi hv)⟩
  | succ d ih =>
    intro i vi hi h1 hv
    have e : (nI (r + i)).toNatClampNeg = r + i := nI_clamp (by omega)
    obtain ⟨s, t, es, hP, _⟩ := hd i (by omega)
    refine ⟨hin8, br_f (by rw [ex, hen]; exact nI_ge (by omega) (by omega)) (zx_vb (j := j) hr h1 (by omega) es hP ⟨vp_in_nI (by omega) (by omega), nm_r (e' := upd vi (r + i) (zs_sv K vi r j s)) (by rw [e]) (nm_r (nI_1 (r + i)) (ih (i + 1) _ (by omega) (by omega) (zs_vis_step hr es hv)))⟩)⟩
theorem zx_mark {post : St2 → Prop} {x r n : Nat} {j : Int32} (hx : x < 8) (hr : 1 ≤ r) (hn : 1 ≤ n) (h96 : r + n ≤ 96) (hrt : rt x = nI r) (hen : en x = nI (r + n)) (hd : zs_def K P O L r n) (hp : ∀ vi', zs_vis K vi' r j n → post ((nI N), (nI C), (nI U), op, (nI S), pl, lv, fn, fi, K, A, Ow, O, P, L, cl, rt, en, ss, so, sp, ww, lw, vi', vv, ps, pv, pt)) :
    wpX_markVisits post ((nI N), (nI C), (nI U), op, (nI S), pl, lv, fn, fi, K, A, Ow, O, P, L, cl, rt, en, ss, so, sp, ww, lw, vi, vv, ps, pv, pt) (nI x) j := by
  have ex : (nI x).toNatClampNeg = x := nI_clamp (by omega)
  have er : (nI r).toNatClampNeg = r := nI_clamp (by omega)
  refine ⟨vp_in_nI hx (by omega), nm_r (e' := nI r) (by rw [ex, hrt]) ⟨vp_in_nI (by omega) (by omega), nm_r (e' := upd vi r j) (by rw [er]) (nm_r (nI_1 r) ⟨_, zx_m19 hx hr h96 hen hd hp (n - 1) 1 _ (by omega) (Nat.le_refl _) ?_⟩)⟩⟩
  intro i hi s t es
  obtain rfl : i = 0 := by omega
  have : s = (r - 1, true) := by
    have e0 : zs_stk K r 0 = [(r - 1, true)] := rfl
    rw [e0] at es
    exact (List.cons.inj es).1.symm
  subst this
  show upd vi r j (r + 0) = _
  rw [Nat.add_zero, pk_us]
  unfold zs_sv
  rw [if_pos (by show r - 1 < r; omega)]
theorem zx_met {post : Int32 → Prop} {c z m : Nat} (hc : c < 96) (hz : z < 8) (hA : A c = nI z) (hV : vi c = nI m) (hm : m < 2 ^ 30) (h1 : (vi c < 32 ∧ ps (A c * 32 + vi c).toNatClampNeg = 2) → post 1) (h0 : ¬ (vi c < 32 ∧ ps (A c * 32 + vi c).toNatClampNeg = 2) → post 0) : wpX_isMet post ((nI N), (nI C), (nI U), op, (nI S), pl, lv, fn, fi, K, A, Ow, O, P, L, cl, rt, en, ss, so, sp, ww, lw, vi, vv, ps, pv, pt) (nI c) := by
  have e : (nI c).toNatClampNeg = c := nI_clamp (by omega)
  have hin : vp_in (nI c) 96 := vp_in_nI hc (by omega)
  refine ⟨hin, nm_r (e' := vi c) (by rw [e]) ?_⟩
  by_cases h32 : (32 : Int32) ≤ vi c
  · exact br_t h32 (h0 (fun z => absurd z.1 (Int32.not_lt.mpr h32)))
  · have hlt : vi c < 32 := Int32.not_le.mp h32
    have hm32 : m < 32 := by rw [hV] at hlt; exact (nI_ltI (b := 32) (by omega) (by omega)).mp hlt
    have eq : A c * 32 + vi c = nI (z * 32 + m) := by rw [hA, hV, show (32 : Int32) = nI 32 from rfl, pk_mul, nI_add]
    refine br_f h32 ⟨hin, by rw [e, eq]; exact vp_in_nI (by omega) (by omega), ?_⟩
    rw [e]
    exact br_c (fun h => h1 ⟨hlt, h⟩) (fun h => h0 (fun z => h z.2))
theorem zx_first {post : Int32 → Prop} {x r n j : Nat} (hx : x < 8) (hr : 1 ≤ r) (h96 : r + n ≤ 96) (hj : j < 32) (hN : N ≤ 8) (hU : r + n ≤ U) (hrt : rt x = nI r) (hen : en x = nI (r + n)) (hd : zs_def K P O L r n) (hA : ∀ c, c < U → K c = 11 → ∃ m, m < N ∧ A c = nI m)
    (hv : zs_vis K vi r (nI j) n) (hp : ∀ y, zs_first (zf_D K A vi ps) r (r + n) y → post y) : wpX_firstUnmetDemand post ((nI N), (nI C), (nI U), op, (nI S), pl, lv, fn, fi, K, A, Ow, O, P, L, cl, rt, en, ss, so, sp, ww, lw, vi, vv, ps, pv, pt) (nI x) := by
  have ex : (nI x).toNatClampNeg = x := nI_clamp (by omega)
  have hin8 : vp_in (nI x) 8 := vp_in_nI hx (by omega)
  have hne : ∀ i, i < n → ∃ s t, zs_stk K r i = s :: t := fun i hi => by
    obtain ⟨s, t, e, _⟩ := hd i hi
    exact ⟨s, t, e⟩
  have loop : ∀ d i, i + d = n → zs_first (zf_D K A vi ps) r (r + i) (-1) → wX_firstUnmetDemand_7 post (nI x) (nI N) (nI C) (nI U) op (nI S) pl lv fn fi K A Ow O P L cl rt en ss so sp ww lw vi vv ps pv pt (d + 1) (nI (r + i)) := by
    intro d
    induction d with
    | zero =>
      intro i hi hf
      obtain rfl : i = n := by omega
      exact ⟨hin8, br_t (by rw [ex, hen]; exact nI_le (Nat.le_refl _) (by omega)) (hp _ hf)⟩
    | succ d ih =>
      intro i hi hf
      have e : (nI (r + i)).toNatClampNeg = r + i := nI_clamp (by omega)
      have hin : vp_in (nI (r + i)) 96 := vp_in_nI (by omega) (by omega)
      refine ⟨hin8, br_f (by rw [ex, hen]; exact nI_ge (by omega) (by omega)) ⟨hin, ?_⟩⟩
      have next : ¬ zf_D K A vi ps (r + i) → ∀ y, y = nI (r + i) + 1 → wX_firstUnmetDemand_7 post (nI x) (nI N) (nI C) (nI U) op (nI S) pl lv fn fi K A Ow O P L cl rt en ss so sp ww lw vi vv ps pv pt (d + 1) y := fun hD => nm_r (nI_1 (r + i)) (ih (i + 1) (by omega) (zf_n hf hD))
      by_cases hk : K (r + i) = 11
      · refine br_t (by rw [e]; exact hk) ⟨hin, ?_⟩
        by_cases h1 : vi (r + i) = -1
        · exact br_t (by rw [e]; exact h1) (next (fun z => z.2.1 h1))
        · obtain ⟨m, hm, em⟩ := (zs_vis_rg hr (by omega) hj hne hv (i + 1) i (by omega) (by omega)).resolve_left h1
          obtain ⟨z, hz, ez⟩ := hA (r + i) (by omega) hk
          refine br_f (by rw [e]; exact h1) (zx_met (by omega) (by omega) ez em (by omega) (fun h => br_f zn_10 (next (fun z => z.2.2 h))) (fun h => br_t rfl (hp _ ?_)))
          rcases zf_t (by omega) (by omega) hf ⟨hk, h1, h⟩ with ⟨g1, _⟩ | ⟨c, g1, g2, g3, g4, g5⟩
          · exact absurd g1 (zn_ne1 (by omega))
          · exact Or.inr ⟨c, g1, by omega, g3, g4, g5⟩
      · exact br_f (by rw [e]; exact hk) (next (fun z => hk z.1))
  refine ⟨hin8, nm_r (e' := nI (r + 0)) (by rw [ex, hrt]; rfl) ⟨_, loop n 0 (by omega) (Or.inl ⟨rfl, fun c a b => by omega⟩)⟩⟩
theorem zx_startp {post : St2 → Prop} {q l : Nat} (hq : q < 256) (hl : l < 256) (hp : post ((nI N), (nI C), (nI U), op, (nI S), (nI (l + 1)), lv, fn, fi, K, A, Ow, O, P, L, cl, rt, en, ss, so, sp, ww, lw, vi, vv, (upd ps q 1), pv, (upd pt l (nI q)))) : wpX_startPair post ((nI N), (nI C), (nI U), op, (nI S), (nI l), lv, fn, fi, K, A, Ow, O, P, L, cl, rt, en, ss, so, sp, ww, lw, vi, vv, ps, pv, pt) (nI q) := by
  have e : (nI q).toNatClampNeg = q := nI_clamp (by omega)
  have el : (nI l).toNatClampNeg = l := nI_clamp (by omega)
  exact ⟨vp_in_nI hq (by omega), nm_r (by rw [e]) ⟨vp_in_nI hl (by omega), nm_r (by rw [el]) (nm_r (nI_1 l) hp)⟩⟩
theorem zx_take {post : Int32 → St2 → Prop} {c z m l : Nat} (hc : c < 96) (hz : z < 8) (hA : A c = nI z) (hV : vi c = nI m) (hm : m < 2 ^ 30) (hl : m < 32 → ¬ ps (z * 32 + m) = 1 → l < 256)
    (h2 : 32 ≤ m → post 2 ((nI N), (nI C), (nI U), op, (nI S), (nI l), 0, (nI z), (nI m), K, A, Ow, O, P, L, cl, rt, en, ss, so, sp, ww, lw, vi, vv, ps, pv, pt)) (h1 : m < 32 → ps (z * 32 + m) = 1 → post 1 ((nI N), (nI C), (nI U), op, (nI S), (nI l), 0, (nI z), (nI m), K, A, Ow, O, P, L, cl, rt, en, ss, so, sp, ww, lw, vi, vv, ps, pv, pt))
    (h0 : m < 32 → ¬ ps (z * 32 + m) = 1 → post 0 ((nI N), (nI C), (nI U), op, (nI S), (nI (l + 1)), lv, fn, fi, K, A, Ow, O, P, L, cl, rt, en, ss, so, sp, ww, lw, vi, vv, (upd ps (z * 32 + m) 1), pv, (upd pt l (nI (z * 32 + m))))) : wpX_takeDemand post ((nI N), (nI C), (nI U), op, (nI S), (nI l), lv, fn, fi, K, A, Ow, O, P, L, cl, rt, en, ss, so, sp, ww, lw, vi, vv, ps, pv, pt) (nI c) := by
  have e : (nI c).toNatClampNeg = c := nI_clamp (by omega)
  have hin : vp_in (nI c) 96 := vp_in_nI hc (by omega)
  refine ⟨hin, nm_r (e' := nI z) (by rw [e, hA]) ⟨hin, nm_r (e' := nI m) (by rw [e, hV]) ?_⟩⟩
  by_cases hm32 : m < 32
  · have eq : nI z * 32 + nI m = nI (z * 32 + m) := by rw [show (32 : Int32) = nI 32 from rfl, pk_mul, nI_add]
    have e2 : (nI (z * 32 + m)).toNatClampNeg = z * 32 + m := nI_clamp (by omega)
    refine br_t (nI_lt (b := 32) hm32 (by decide)) (nm_r eq ⟨vp_in_nI (by omega) (by omega), ?_⟩)
    by_cases hp1 : ps (z * 32 + m) = 1
    · exact br_t (by rw [e2]; exact hp1) (h1 hm32 hp1)
    · exact br_f (by rw [e2]; exact hp1) (zx_startp (by omega) (hl hm32 hp1) (h0 hm32 hp1))
  · exact br_f (nI_nlt (b := 32) (by omega) (by omega)) (h2 (by omega))
theorem zx_val {post : Int32 → Prop} {c k : Nat} (hc : c < 96) (hk1 : 1 ≤ k) (hk11 : k ≤ 11) (hk : K c = nI k) (hr : k = 11 → ∃ z m, z < 8 ∧ m < 32 ∧ A c = nI z ∧ vi c = nI m) (hc1 : ¬ (K c = 1 ∨ K c = 11) → c + 1 < 96)
    (hc2 : ¬ (K c = 1 ∨ K c = 11) → ¬ (K c = 2 ∨ K c = 7) → ∃ q, q < 96 ∧ L c = nI q) (hp : post (zs_val K A vi L pv vv c)) : wpX_valueOfVisit post ((nI N), (nI C), (nI U), op, (nI S), pl, lv, fn, fi, K, A, Ow, O, P, L, cl, rt, en, ss, so, sp, ww, lw, vi, vv, ps, pv, pt) (nI c) := by
  have e : (nI c).toNatClampNeg = c := nI_clamp (by omega)
  have hin : vp_in (nI c) 96 := vp_in_nI hc (by omega)
  refine ⟨hin, nm_r (e' := nI k) (by rw [e, hk]) ?_⟩
  unfold zs_val at hp
  have one : ¬ (K c = 1 ∨ K c = 11) → vp_in (nI c + 1) 96 ∧ (nI c + 1).toNatClampNeg = c + 1 := fun h => by
    have := hc1 h
    rw [nI_1]; exact ⟨vp_in_nI this (by omega), nI_clamp (by omega)⟩
  have two : ¬ (K c = 1 ∨ K c = 11) → ¬ (K c = 2 ∨ K c = 7) → vp_in (L (nI c).toNatClampNeg) 96 := fun h h' => by
    obtain ⟨q, hq, eq⟩ := hc2 h h'
    rw [e, eq]; exact vp_in_nI hq (by omega)
  rcases zk_c hk1 hk11 with rfl | rfl | rfl | rfl | rfl | rfl | rfl | rfl | rfl | rfl | rfl
  · rw [if_pos (by rw [hk]; rfl)] at hp
    exact br_f (by decide) (br_f (by decide) (br_t (by decide) (⟨hin, by rw [e]; exact hp⟩)))
  · have o1 := one (by rw [hk]; decide)
    rw [if_neg (by rw [hk]; decide), if_neg (by rw [hk]; decide), if_pos (by rw [hk]; decide)] at hp
    exact br_f (by decide) (br_f (by decide) (br_f (by decide) (br_t (by decide) (⟨o1.1, by rw [o1.2]; exact hp⟩))))
  · have o1 := one (by rw [hk]; decide)
    have o2 := two (by rw [hk]; decide) (by rw [hk]; decide)
    rw [if_neg (by rw [hk]; decide), if_neg (by rw [hk]; decide), if_neg (by rw [hk]; decide), if_neg (by rw [hk]; decide), if_pos (by rw [hk]; decide)] at hp
    exact br_f (by decide) (br_f (by decide) (br_f (by decide) (br_f (by decide) (br_t (by decide) (⟨o1.1, hin, o2, by rw [o1.2, e]; exact hp⟩)))))
  · have o1 := one (by rw [hk]; decide)
    have o2 := two (by rw [hk]; decide) (by rw [hk]; decide)
    rw [if_neg (by rw [hk]; decide), if_neg (by rw [hk]; decide), if_neg (by rw [hk]; decide), if_neg (by rw [hk]; decide), if_neg (by rw [hk]; decide), if_pos (by rw [hk]; decide)] at hp
    exact br_f (by decide) (br_f (by decide) (br_f (by decide) (br_f (by decide) (br_f (by decide) (br_t (by decide) (⟨o1.1, hin, o2, by rw [o1.2, e]; exact hp⟩))))))
  · have o1 := one (by rw [hk]; decide)
    have o2 := two (by rw [hk]; decide) (by rw [hk]; decide)
    rw [if_neg (by rw [hk]; decide), if_neg (by rw [hk]; decide), if_neg (by rw [hk]; decide), if_neg (by rw [hk]; decide), if_neg (by rw [hk]; decide), if_neg (by rw [hk]; decide)] at hp
    exact br_f (by decide) (br_f (by decide) (br_f (by decide) (br_f (by decide) (br_f (by decide) (br_f (by decide) (br_t (by decide) (⟨o1.1, hin, o2, by rw [o1.2, e]; exact hp⟩)))))))
  · have o1 := one (by rw [hk]; decide)
    have o2 := two (by rw [hk]; decide) (by rw [hk]; decide)
    rw [if_neg (by rw [hk]; decide), if_neg (by rw [hk]; decide), if_neg (by rw [hk]; decide), if_pos (by rw [hk]; rfl)] at hp
    refine br_f (by decide) (br_f (by decide) (br_f (by decide) (br_f (by decide) (br_f (by decide) (br_f (by decide) (br_f (by decide) (br_t (by decide) (⟨hin, ?_⟩))))))))
    by_cases h0 : vi c = 0
    · rw [if_pos h0] at hp
      exact br_t (by rw [e]; exact h0) ⟨o1.1, by rw [o1.2]; exact hp⟩
    · rw [if_neg h0] at hp
      exact br_f (by rw [e]; exact h0) ⟨hin, o2, by rw [e]; exact hp⟩
  · have o1 := one (by rw [hk]; decide)
    rw [if_neg (by rw [hk]; decide), if_neg (by rw [hk]; decide), if_pos (by rw [hk]; decide)] at hp
    exact br_f (by decide) (br_f (by decide) (br_f (by decide) (br_f (by decide) (br_f (by decide) (br_f (by decide) (br_f (by decide) (br_f (by decide) (br_t (by decide) (⟨o1.1, by rw [o1.2]; exact hp⟩)))))))))
  · have o1 := one (by rw [hk]; decide)
    have o2 := two (by rw [hk]; decide) (by rw [hk]; decide)
    rw [if_neg (by rw [hk]; decide), if_neg (by rw [hk]; decide), if_neg (by rw [hk]; decide), if_neg (by rw [hk]; decide), if_pos (by rw [hk]; decide)] at hp
    exact br_f (by decide) (br_f (by decide) (br_f (by decide) (br_f (by decide) (br_f (by decide) (br_f (by decide) (br_f (by decide) (br_f (by decide) (br_f (by decide) (br_t (by decide) (⟨o1.1, hin, o2, by rw [o1.2, e]; exact hp⟩))))))))))
  · have o1 := one (by rw [hk]; decide)
    have o2 := two (by rw [hk]; decide) (by rw [hk]; decide)
    rw [if_neg (by rw [hk]; decide), if_neg (by rw [hk]; decide), if_neg (by rw [hk]; decide), if_neg (by rw [hk]; decide), if_neg (by rw [hk]; decide), if_pos (by rw [hk]; decide)] at hp
    exact br_f (by decide) (br_f (by decide) (br_f (by decide) (br_f (by decide) (br_f (by decide) (br_f (by decide) (br_f (by decide) (br_f (by decide) (br_f (by decide) (br_f (by decide) (br_t (by decide) (⟨o1.1, hin, o2, by rw [o1.2, e]; exact hp⟩)))))))))))
  · have o1 := one (by rw [hk]; decide)
    have o2 := two (by rw [hk]; decide) (by rw [hk]; decide)
    rw [if_neg (by rw [hk]; decide), if_neg (by rw [hk]; decide), if_neg (by rw [hk]; decide), if_neg (by rw [hk]; decide), if_neg (by rw [hk]; decide), if_neg (by rw [hk]; decide)] at hp
    exact br_f (by decide) (br_f (by decide) (br_f (by decide) (br_f (by decide) (br_f (by decide) (br_f (by decide) (br_f (by decide) (br_f (by decide) (br_f (by decide) (br_f (by decide) (br_f (by decide) (br_t (by decide) (⟨o1.1, hin, o2, by rw [o1.2, e]; exact hp⟩))))))))))))
  · obtain ⟨z, m, hz, hm, ez, em⟩ := hr rfl
    rw [if_neg (by rw [hk]; decide), if_pos (by rw [hk]; rfl)] at hp
    have eq : A c * 32 + vi c = nI (z * 32 + m) := by rw [ez, em, show (32 : Int32) = nI 32 from rfl, pk_mul, nI_add]
    exact br_f (by decide) (br_f (by decide) (br_f (by decide) (br_f (by decide) (br_f (by decide) (br_f (by decide) (br_f (by decide) (br_f (by decide) (br_f (by decide) (br_f (by decide) (br_f (by decide) (br_f (by decide) (br_t (by decide) (⟨hin, hin, by rw [e, eq]; exact vp_in_nI (by omega) (by omega), by rw [e]; exact hp⟩)))))))))))))
theorem zx_vals {post : Int32 → St2 → Prop} {x r n j : Nat} (hx : x < 8) (hr : 1 ≤ r) (hn : 1 ≤ n) (h96 : r + n ≤ 96) (hj : j < 32) (hrt : rt x = nI r) (hen : en x = nI (r + n)) (hd : zs_def K P O L r n) (he : zs_stk K r n = [])
    (hv : zs_vis K vi r (nI j) n) (hr11 : ∀ c, r ≤ c → c < r + n → K c = 11 → vi c ≠ -1 → ∃ z m, z < 8 ∧ m < 32 ∧ A c = nI z ∧ vi c = nI m)
    (hp : ∀ vv', zs_vals K A vi L pv vv' r (r + n) → post (vv' r) ((nI N), (nI C), (nI U), op, (nI S), pl, lv, fn, fi, K, A, Ow, O, P, L, cl, rt, en, ss, so, sp, ww, lw, vi, vv', ps, pv, pt)) : wpX_valueOfVisits post ((nI N), (nI C), (nI U), op, (nI S), pl, lv, fn, fi, K, A, Ow, O, P, L, cl, rt, en, ss, so, sp, ww, lw, vi, vv, ps, pv, pt) (nI x) := by
  have ex : (nI x).toNatClampNeg = x := nI_clamp (by omega)
  have er : (nI r).toNatClampNeg = r := nI_clamp (by omega)
  have hin8 : vp_in (nI x) 8 := vp_in_nI hx (by omega)
  have kid1 : ∀ c, r ≤ c → c < r + n → ¬ (K c = 1 ∨ K c = 11) → c + 1 < r + n := by
    intro c a b h
    obtain ⟨i, rfl⟩ : ∃ i, c = r + i := ⟨c - r, by omega⟩
    have := zs_kid1 hd (by omega) he h
    omega
  have kid2 : ∀ c, r ≤ c → c < r + n → ¬ (K c = 1 ∨ K c = 11) → ¬ (K c = 2 ∨ K c = 7) → ∃ q, c < q ∧ q < r + n ∧ L c = nI q := by
    intro c a b h h'
    obtain ⟨i, rfl⟩ : ∃ i, c = r + i := ⟨c - r, by omega⟩
    obtain ⟨q, h1, h2, h3⟩ := zs_kid2 hd (by omega) he h h'
    exact ⟨r + q, by omega, by omega, h3⟩
  have loop : ∀ i vv, i ≤ n → zs_vals K A vi L pv vv (r + i) (r + n) → wX_valueOfVisits_16 post (nI r) (nI N) (nI C) (nI U) op (nI S) pl lv fn fi (i + 1) (nI (r + i - 1)) K A Ow O P L cl rt en ss so sp ww lw vi vv ps pv pt := by
    intro i
    induction i with
    | zero =>
      intro vv _ hvv
      exact br_t (nI_lt (by omega) (by omega)) ⟨vp_in_nI (by omega) (by omega), by rw [er]; exact hp vv hvv⟩
    | succ i ih =>
      intro vv hi hvv
      have ei : r + (i + 1) - 1 = r + i := by omega
      rw [ei]
      have e : (nI (r + i)).toNatClampNeg = r + i := nI_clamp (by omega)
      have hin : vp_in (nI (r + i)) 96 := vp_in_nI (by omega) (by omega)
      refine br_f (nI_nlt (by omega) (by omega)) ⟨hin, ?_⟩
      by_cases h1 : vi (r + i) = -1
      · refine br_t (by rw [e]; exact h1) (nm_r (zn_m (by omega)) (ih vv (by omega) (fun c a b h => ?_)))
        by_cases ec : c = r + i
        · rw [ec] at h; exact absurd h1 h
        · exact hvv c (by omega) b h
      · obtain ⟨_, _, _, _, _, _, k, hk1, hk11, hk⟩ := hd i (by omega)
        refine br_f (by rw [e]; exact h1) (zx_val (by omega) hk1 hk11 hk (fun hk' => hr11 (r + i) (by omega) (by omega) (by rw [hk, hk']; rfl) h1) (fun h => ?_) (fun h h' => ?_) ⟨hin, nm_r (e' := upd vv (r + i) (zs_val K A vi L pv vv (r + i))) (by rw [e]) (nm_r (zn_m (by omega)) (ih _ (by omega) (fun c a b h => ?_)))⟩)
        · have := kid1 (r + i) (by omega) (by omega) h
          omega
        · obtain ⟨q, _, h2, h3⟩ := kid2 (r + i) (by omega) (by omega) h h'
          exact ⟨q, by omega, h3⟩
        · have hcong : zs_val K A vi L pv (upd vv (r + i) (zs_val K A vi L pv vv (r + i))) c = zs_val K A vi L pv vv c := by
            refine zs_val_congr (fun _ => pk_un (by omega)) (fun g g' => ?_)
            obtain ⟨q, g1, g2, g3⟩ := kid2 c (by omega) b g g'
            rw [g3, nI_clamp (by omega)]; exact pk_un (by omega)
          rw [hcong]
          by_cases ec : c = r + i
          · rw [ec, pk_us]
          · rw [pk_un ec]; exact hvv c (by omega) b h
  exact ⟨hin8, nm_r (e' := nI r) (by rw [ex, hrt]) ⟨hin8, nm_r (e' := nI (r + n - 1)) (by rw [ex, hen, zn_s (by omega)]) ⟨_, loop n vv (Nat.le_refl _) (fun c a b => by omega)⟩⟩⟩
theorem zx_fin {post : St2 → Prop} {l q : Nat} {y : Int32} (hl : l < 256) (hq : q < 256) (hpt : pt l = nI q) (hp : post ((nI N), (nI C), (nI U), op, (nI S), (nI l), lv, fn, fi, K, A, Ow, O, P, L, cl, rt, en, ss, so, sp, ww, lw, vi, vv, (upd ps q 2), (upd pv q y), pt)) : wpX_finishLastPair post ((nI N), (nI C), (nI U), op, (nI S), (nI (l + 1)), lv, fn, fi, K, A, Ow, O, P, L, cl, rt, en, ss, so, sp, ww, lw, vi, vv, ps, pv, pt) y := by
  have e : (nI q).toNatClampNeg = q := nI_clamp (by omega)
  have el : (nI l).toNatClampNeg = l := nI_clamp (by omega)
  have hin : vp_in (nI q) 256 := vp_in_nI hq (by omega)
  exact nm_r (nI_pred l) ⟨vp_in_nI hl (by omega), nm_r (e' := nI q) (by rw [el, hpt]) ⟨hin, nm_r (by rw [e]) ⟨hin, nm_r (by rw [e]) hp⟩⟩⟩
theorem zx_walk {post : Int32 → St2 → Prop} {x r n j l : Nat} (hx : x < 8) (hr : 1 ≤ r) (hn : 1 ≤ n) (h96 : r + n ≤ 96) (hj : j < 32) (hN : N ≤ 8) (hU : r + n ≤ U) (hl : l < 256) (hrt : rt x = nI r) (hen : en x = nI (r + n)) (hd : zs_def K P O L r n) (he : zs_stk K r n = [])
    (hA : ∀ c, c < U → K c = 11 → ∃ m, m < N ∧ A c = nI m) (hpt : pt l = nI (x * 32 + j)) (hroom : ∀ q, q < 256 → ps q = 0 → l + 1 < 256) (h012 : ∀ q, q < 256 → ps q = 0 ∨ ps q = 1 ∨ ps q = 2)
    (hfin : ∀ vi' vv', zs_vis K vi' r (nI j) n → zs_first (zf_D K A vi' ps) r (r + n) (-1) → zs_vals K A vi' L pv vv' r (r + n) → post 0 ((nI N), (nI C), (nI U), op, (nI S), (nI l), lv, fn, fi, K, A, Ow, O, P, L, cl, rt, en, ss, so, sp, ww, lw, vi', vv', (upd ps (x * 32 + j) 2), (upd pv (x * 32 + j) (vv' r)), pt))
    (hrange : ∀ vi' c z m, zs_vis K vi' r (nI j) n → zs_first (zf_D K A vi' ps) r (r + n) (nI c) → c < 96 → z < N → m < 2 ^ 30 → A c = nI z → vi' c = nI m → 32 ≤ m → post 2 ((nI N), (nI C), (nI U), op, (nI S), (nI (l + 1)), 0, (nI z), (nI m), K, A, Ow, O, P, L, cl, rt, en, ss, so, sp, ww, lw, vi', vv, ps, pv, pt))
    (hblack : ∀ vi' c z m, zs_vis K vi' r (nI j) n → zs_first (zf_D K A vi' ps) r (r + n) (nI c) → c < 96 → z < N → m < 32 → A c = nI z → vi' c = nI m → ps (z * 32 + m) = 1 → post 1 ((nI N), (nI C), (nI U), op, (nI S), (nI (l + 1)), 0, (nI z), (nI m), K, A, Ow, O, P, L, cl, rt, en, ss, so, sp, ww, lw, vi', vv, ps, pv, pt))
    (hstart : ∀ vi' c z m, zs_vis K vi' r (nI j) n → zs_first (zf_D K A vi' ps) r (r + n) (nI c) → r ≤ c → c < r + n → K c = 11 → z < N → m < 32 → A c = nI z → vi' c = nI m → ps (z * 32 + m) = 0 → post 0 ((nI N), (nI C), (nI U), op, (nI S), (nI (l + 2)), lv, fn, fi, K, A, Ow, O, P, L, cl, rt, en, ss, so, sp, ww, lw, vi', vv, (upd ps (z * 32 + m) 1), pv, (upd pt (l + 1) (nI (z * 32 + m))))) :
    wpX_walkLastPair post ((nI N), (nI C), (nI U), op, (nI S), (nI (l + 1)), lv, fn, fi, K, A, Ow, O, P, L, cl, rt, en, ss, so, sp, ww, lw, vi, vv, ps, pv, pt) := by
  have el : (nI l).toNatClampNeg = l := nI_clamp (by omega)
  have hne : ∀ i, i < n → ∃ s t, zs_stk K r i = s :: t := fun i hi => by
    obtain ⟨s, t, e, _⟩ := hd i hi
    exact ⟨s, t, e⟩
  have e32 : (32 : Int32) = nI 32 := rfl
  have hdiv : nI (x * 32 + j) / 32 = nI x := by rw [e32, pk_div (by omega) (by omega) (by omega)]; congr 1; omega
  have hrem : nI (x * 32 + j) - nI (x * 32 + j) / 32 * 32 = nI j := by rw [e32, pk_rem (by omega) (by omega) (by omega)]; congr 1; omega
  refine ⟨by rw [nI_pred]; exact vp_in_nI hl (by omega), nm_r (e' := nI (x * 32 + j)) (by rw [nI_pred, el, hpt]) ⟨by decide, nm_r (e' := nI x) hdiv ⟨by decide, ?_⟩⟩⟩
  rw [hrem]
  refine zx_mark (j := nI j) hx hr hn h96 hrt hen hd (fun vi' hv => zx_first hx hr h96 hj hN hU hrt hen hd hA hv (fun y hy => ?_))
  rcases hy with ⟨rfl, hy⟩ | ⟨c, g1, g2, g3, g4, rfl⟩
  · refine br_t rfl (zx_vals hx hr hn h96 hj hrt hen hd he hv (fun c a b hk hvc => ?_) (fun vv' hvv => zx_fin hl (by omega) hpt (hfin vi' vv' hv (Or.inl ⟨rfl, hy⟩) hvv)))
    obtain ⟨i, rfl⟩ : ∃ i, c = r + i := ⟨c - r, by omega⟩
    obtain ⟨m, hm, em⟩ := (zs_vis_rg hr (by omega) hj hne hv (i + 1) i (by omega) (by omega)).resolve_left hvc
    obtain ⟨z, hz, ez⟩ := hA (r + i) (by omega) hk
    refine ⟨z, m, by omega, ?_, ez, em⟩
    by_cases hm32 : m < 32
    · exact hm32
    · refine absurd ⟨hk, hvc, fun w => ?_⟩ (hy (r + i) a b)
      have := w.1
      rw [em] at this
      exact nI_nlt (b := 32) (by omega) (by omega) this
  · refine br_f (zn_ne1 (by omega)) ?_
    obtain ⟨i, rfl⟩ : ∃ i, c = r + i := ⟨c - r, by omega⟩
    obtain ⟨m, hm, em⟩ := (zs_vis_rg hr (by omega) hj hne hv (i + 1) i (by omega) (by omega)).resolve_left g3.2.1
    obtain ⟨z, hz, ez⟩ := hA (r + i) (by omega) g3.1
    have hf : zs_first (zf_D K A vi' ps) r (r + n) (nI (r + i)) := Or.inr ⟨r + i, g1, g2, g3, g4, rfl⟩
    have h0 : m < 32 → ¬ ps (z * 32 + m) = 1 → ps (z * 32 + m) = 0 := by
      intro hm32 hn1
      rcases h012 (z * 32 + m) (by omega) with h | h | h
      · exact h
      · exact absurd h hn1
      · refine absurd ⟨?_, ?_⟩ g3.2.2
        · rw [em]; exact nI_lt (b := 32) hm32 (by decide)
        · rw [ez, em, e32, pk_mul, nI_add, nI_clamp (by omega)]; exact h
    exact zx_take (by omega) (by omega) ez em (by omega) (fun a b => hroom _ (by omega) (h0 a b)) (fun a => hrange vi' _ z m hv hf (by omega) hz (by omega) ez em a) (fun a b => hblack vi' _ z m hv hf (by omega) hz a ez em b) (fun a b => hstart vi' _ z m hv hf g1 g2 g3.1 hz a ez em (h0 a b))
end Z13

/-! eval: the loop and the call -/
section Z16
variable {N C U S : Nat} {op lv fn fi pl yne ysp yvsp ypn : Int32}
variable {K A Ow O P L cl rt en ss so sp ds ww lw vi vv ps pv pt yef yet yew yb ynb yv yx ysv ysi yvs ymo ymv yip ypN ypI : Nat → Int32}
variable {R E : Nat → Nat}
theorem zx_forget {post : St2 → Prop} (hp : ∀ ps', (∀ q, q < 256 → ps' q = 0) → post ((nI N), (nI C), (nI U), op, (nI S), 0, lv, fn, fi, K, A, Ow, O, P, L, cl, rt, en, ss, so, sp, ww, lw, vi, vv, ps', pv, pt)) : ∀ d i ps, i + d = 256 → (∀ q, q < i → ps q = 0) → wX_forgetPairs_2 post (nI N) (nI C) (nI U) op (nI S) pl lv fn fi (d + 1) (nI i) K A Ow O P L cl rt en ss so sp ww lw vi vv ps pv pt := by
  intro d
  induction d with
  | zero => intro i ps hi hz; obtain rfl : i = 256 := by omega
            exact br_t (by decide) (hp ps hz)
  | succ d ih =>
    intro i ps hi hz
    have e : (nI i).toNatClampNeg = i := nI_clamp (by omega)
    refine br_f (nI_ge (b := 256) (by omega) (by decide)) ⟨vp_in_nI (by omega) (by omega), nm_r (e' := upd ps i 0) (by rw [e]) (nm_r (nI_1 i) (ih (i + 1) _ (by omega) (fun q hq => ?_)))⟩
    by_cases eq : q = i
    · rw [eq, pk_us]
    · rw [pk_un eq]; exact hz q (by omega)
end Z16
