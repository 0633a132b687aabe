/-! the obstacles to an evaluation -/
section Z9
variable {N C U S : Nat} {op lv fn fi pl yne ysp yvsp ypn : Int32}
variable {K A Ow O P L cl rt en ss so sp ds ww lw vi vv ps pv pt yef yet yew yb ynb yv yx ysv ysi yvs ymo ymv yip ypN ypI : Nat → Int32}
variable {R E : Nat → Nat}
theorem zo_loop (hU : U ≤ 96) (hN : N ≤ 8) (hA : ∀ c, c < U → K c = 11 → ∃ m, m < N ∧ A c = nI m) :
    ∀ d i, i + d = U → ∃ r : Int32, (r = 0 → ∀ c, i ≤ c → c < U → K c = 11 → ¬ cl (A c).toNatClampNeg = 0) ∧ (r = 0 ∨ r = 3) ∧
      (∀ post : Int32 → Prop, post r → wX_obstacleToEvaluation_21 post (nI N) (nI C) (nI U) op (nI S) pl lv fn fi K A Ow O P L cl rt en ss so sp ww lw vi vv ps pv pt (d + 1) (nI i)) ∧ (∀ post : Int32 → Prop, post r → wY_readiness_46 post (nI N) (nI C) (nI U) op (nI S) yne ysp yvsp ypn lv fn fi K A cl ds en ss yef yet yew yb ynb yv yx ysv ysi yvs ymo ymv yip ypN ypI (d + 1) (nI i)) := by
  intro d
  induction d with
  | zero =>
    intro i hi
    have h : nI U ≤ nI i := nI_le (by omega) (by omega)
    exact ⟨0, fun _ c h1 h2 => by omega, Or.inl rfl, fun _ hp => br_t h hp, fun _ hp => br_t h hp⟩
  | succ d ih =>
    intro i hi
    have h : ¬ nI U ≤ nI i := nI_ge (by omega) (by omega)
    have hin : vp_in (nI i) 96 := vp_in_nI (by omega) (by omega)
    have e : (nI i).toNatClampNeg = i := nI_clamp (by omega)
    obtain ⟨r, hr, h03, hX, hY⟩ := ih (i + 1) (by omega)
    by_cases hk : K (nI i).toNatClampNeg = 11
    · have hk' := hk
      rw [e] at hk'
      obtain ⟨m, hm, em⟩ := hA i (by omega) hk'
      have eA : A (nI i).toNatClampNeg = nI m := by rw [e]; exact em
      have hi8 : vp_in (A (nI i).toNatClampNeg) 8 := by rw [eA]; exact vp_in_nI (by omega) (by omega)
      have hn0 : ¬ A (nI i).toNatClampNeg < 0 := by rw [eA]; exact nI_pos (by omega)
      have hnN : ¬ nI N ≤ A (nI i).toNatClampNeg := by rw [eA]; exact nI_ge hm (by omega)
      by_cases hc : cl (A (nI i).toNatClampNeg).toNatClampNeg = 0
      · exact ⟨3, fun z => absurd z (by decide), Or.inr rfl, fun _ hp => br_f h ⟨hin, br_t hk ⟨hin, hi8, br_t hc hp⟩⟩, fun _ hp => br_f h ⟨hin, br_t hk ⟨hin, br_f hn0 ⟨hin, br_f hnN ⟨hin, hi8, br_t hc hp⟩⟩⟩⟩⟩
      · refine ⟨r, fun hr0 c h1 h2 h3 => ?_, h03, fun post hp => br_f h ⟨hin, br_t hk ⟨hin, hi8, br_f hc (nm_r (nI_1 i) (hX post hp))⟩⟩, fun post hp => br_f h ⟨hin, br_t hk ⟨hin, br_f hn0 ⟨hin, br_f hnN ⟨hin, hi8, br_f hc (nm_r (nI_1 i) (hY post hp))⟩⟩⟩⟩⟩
        by_cases ec : c = i
        · rw [ec, ← e]; exact hc
        · exact hr hr0 c (by omega) h2 h3
    · refine ⟨r, fun hr0 c h1 h2 h3 => ?_, h03, fun post hp => br_f h ⟨hin, br_f hk (nm_r (nI_1 i) (hX post hp))⟩, fun post hp => br_f h ⟨hin, br_f hk (nm_r (nI_1 i) (hY post hp))⟩⟩
      by_cases ec : c = i
      · rw [ec, ← e] at h3; exact absurd h3 hk
      · exact hr hr0 c (by omega) h2 h3
theorem zy_any0 {post : Int32 → Prop} (hN : N ≤ 8) (hp : post 2) (hc : ∀ n, n < N → cl n = 0) : ∀ d i, i + d = N → wY_readiness_13 post (nI N) (nI C) (nI U) op (nI S) yne ysp yvsp ypn lv fn fi K A cl ds en ss yef yet yew yb ynb yv yx ysv ysi yvs ymo ymv yip ypN ypI (d + 1) 0 (nI i) := by
  intro d
  induction d with
  | zero => intro i hi; exact br_t (nI_le (by omega) (by omega)) (br_t rfl hp)
  | succ d ih =>
    intro i hi
    have e : (nI i).toNatClampNeg = i := nI_clamp (by omega)
    exact br_f (nI_ge (by omega) (by omega)) ⟨vp_in_nI (by omega) (by omega), br_t (by rw [e]; exact hc i (by omega)) (nm_r (nI_1 i) (ih (i + 1) (by omega)))⟩
theorem zy_any1 {post : Int32 → Prop} (hN : N ≤ 8) (hp : ∃ n46 : Nat, wY_readiness_46 post (nI N) (nI C) (nI U) op (nI S) yne ysp yvsp ypn lv fn fi K A cl ds en ss yef yet yew yb ynb yv yx ysv ysi yvs ymo ymv yip ypN ypI n46 0) : ∀ d i (x : Int32), i + d = N → (x = 1 ∨ ∃ n, i ≤ n ∧ n < N ∧ ¬ cl n = 0) → wY_readiness_13 post (nI N) (nI C) (nI U) op (nI S) yne ysp yvsp ypn lv fn fi K A cl ds en ss yef yet yew yb ynb yv yx ysv ysi yvs ymo ymv yip ypN ypI (d + 1) x (nI i) := by
  intro d
  induction d with
  | zero =>
    intro i x hi hx
    refine br_t (nI_le (by omega) (by omega)) (br_f ?_ hp)
    rcases hx with hx | ⟨n, h1, h2, _⟩
    · rw [hx]; decide
    · omega
  | succ d ih =>
    intro i x hi hx
    have e : (nI i).toNatClampNeg = i := nI_clamp (by omega)
    refine br_f (nI_ge (by omega) (by omega)) ⟨vp_in_nI (by omega) (by omega), ?_⟩
    by_cases hc : cl (nI i).toNatClampNeg = 0
    · refine br_t hc (nm_r (nI_1 i) (ih (i + 1) x (by omega) ?_))
      rcases hx with hx | ⟨n, h1, h2, h3⟩
      · exact Or.inl hx
      · refine Or.inr ⟨n, ?_, h2, h3⟩
        by_cases en : n = i
        · rw [en, ← e] at h3; exact absurd hc h3
        · omega
    · exact br_f hc (nm_r (nI_1 i) (ih (i + 1) 1 (by omega) (Or.inl rfl)))
/-- both sides find the same obstacle -/
theorem zo_obs (h : zi_inv N C U S op K A P O L Ow cl so sp R E) : ∃ r : Int32, (r = 0 → op = -1 ∧ ∀ c, c < U → K c = 11 → ¬ cl (A c).toNatClampNeg = 0) ∧
    (∀ post : Int32 → Prop, post r → wpX_obstacleToEvaluation post ((nI N), (nI C), (nI U), op, (nI S), pl, lv, fn, fi, K, A, Ow, O, P, L, cl, rt, en, ss, so, sp, ww, lw, vi, vv, ps, pv, pt)) ∧ (∀ post : Int32 → Prop, post r → wpY_readiness post ((nI N), (nI C), (nI U), op, (nI S), yne, ysp, yvsp, ypn, lv, fn, fi, K, A, cl, ds, en, ss, yef, yet, yew, yb, ynb, yv, yx, ysv, ysi, yvs, ymo, ymv, yip, ypN, ypI)) := by
  obtain ⟨⟨a1, a2, a3, a4, a5⟩, hcl, hcd, _, hA, hOw, ho⟩ := h
  rcases ho with ⟨rfl, rfl⟩ | ⟨o, h1, rfl, _⟩
  · by_cases hU : U = 0
    · subst hU
      have h0 : ∀ n, n < N → cl n = 0 := by
        intro n hn
        rcases hcl n with hc | hc
        · exact hc
        · have := hcd n hn hc
          have h1 := this.2.1
          have h2 := this.2.2.1
          omega
      exact ⟨2, fun z => absurd z (by decide), fun post hp => br_t rfl (br_t rfl hp), fun post hp => br_t (by decide) ⟨_, zy_any0 a2 hp h0 N 0 (by omega)⟩⟩
    · obtain ⟨r, hr, h03, hX, hY⟩ := zo_loop (S := 0) (op := -1) (lv := lv) (fn := fn) (fi := fi) (pl := pl) (yne := yne) (ysp := ysp) (yvsp := yvsp) (ypn := ypn) (Ow := Ow) (O := O) (P := P) (L := L) (cl := cl) (rt := rt) (en := en) (ss := ss) (so := so) (sp := sp) (ds := ds) (ww := ww) (lw := lw) (vi := vi) (vv := vv) (ps := ps) (pv := pv) (pt := pt) (yef := yef) (yet := yet) (yew := yew) (yb := yb) (ynb := ynb) (yv := yv) (yx := yx) (ysv := ysv) (ysi := ysi) (yvs := yvs) (ymo := ymo) (ymv := ymv) (yip := yip) (ypN := ypN) (ypI := ypI) (C := C) (by omega) a2 hA U 0 (by omega)
      have hex : ∃ n, 0 ≤ n ∧ n < N ∧ ¬ cl n = 0 := by
        obtain ⟨n, hn, _, hz⟩ := hOw 0 (by omega)
        rcases hz with hz | hz
        · exact ⟨n, by omega, hn, by rw [hz.1]; decide⟩
        · exact absurd hz.1.symm (zn_ne1 (by omega))
      refine ⟨r, fun hr0 => ⟨rfl, fun c hc hk => hr hr0 c (by omega) hc hk⟩, fun post hp => br_t rfl (br_f (nI_ne0 (by omega) (by omega)) ⟨_, hX post hp⟩), fun post hp => br_t (by decide) ⟨_, zy_any1 a2 ⟨_, hY post hp⟩ N 0 0 (by omega) (Or.inr hex)⟩⟩
  · exact ⟨1, fun z => absurd z (by decide), fun post hp => br_f (zn_ne1 (by omega)) hp, fun post hp => br_f (nI_pos (by omega)) hp⟩
end Z9
