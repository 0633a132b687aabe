/-! eval: the two loops in step -/
def ze_X (N : Nat) (cl ps pt : Nat → Int32) (px pj : Nat → Nat) (l : Nat) : Prop :=
  ∀ i, i < l → px i < N ∧ cl (px i) = 1 ∧ pj i < 32 ∧ pt i = nI (px i * 32 + pj i) ∧ ps (px i * 32 + pj i) ≠ 0
def ze_Y (ps pv : Nat → Int32) (px pj : Nat → Nat) (l : Nat) (ymo ymv yip ypN ypI : Nat → Int32) : Prop :=
  zp_pr ps pv ymo ymv yip ∧ ∀ i, i < l → ypN i = nI (px i) ∧ ypI i = nI (pj i)
section Z15
variable {N C U S : Nat} {op lv fn fi pl yne ysp yvsp ypn : Int32}
variable {K A Ow O P L cl rt en ss so sp ds ww lw vi vv ps pv pt yef yet yew yb ynb yv yx ysv ysi yvs ymo ymv yip ypN ypI : Nat → Int32}
variable {R E : Nat → Nat}
theorem zp_mo {ymo ymv yip ps pv : Nat → Int32} (h : zp_pr ps pv ymo ymv yip) : ∀ q, q < 256 → (ymo q = 0 ↔ ¬ ps q = 2) := by
  intro q hq
  rcases h q hq with ⟨h1, h2, _⟩ | ⟨h1, h2, _⟩ | ⟨h1, h2, _⟩ <;> rw [h1, h2] <;> decide
/-- one turn of the reference: a pair is finished -/
theorem zy_fin {p : Int32 → SY → Prop} {x r n j l it f : Nat} {V VV ps pv : Nat → Int32} {px pj : Nat → Nat} (hx : x < 8) (hr : 1 ≤ r) (hn : 1 ≤ n) (h96 : r + n ≤ 96) (hj : j < 32) (hN : N ≤ 8) (hU : r + n ≤ U) (hU9 : U ≤ 96) (hl : l < 256) (hit : it < 2000)
    (hds : ds x = nI (r - 1)) (hen : en x = nI (r + n)) (hd : zs_def K P O L r n) (he : zs_stk K r n = []) (hA : ∀ c, c < U → K c = 11 → ∃ m, m < N ∧ A c = nI m) (hv : zs_vis K V r (nI j) n) (hy : zs_first (zf_D K A V ps) r (r + n) (-1)) (hvv : zs_vals K A V L pv VV r (r + n))
    (hpx : px l = x) (hpj : pj l = j) (hY : ze_Y ps pv px pj (l + 1) ymo ymv yip ypN ypI)
    (h0 : l = 0 → ∀ (ysp yvsp : Int32) (yv yx ysv ysi yvs : Nat → Int32), p 0 ((nI N), (nI C), (nI U), op, (nI S), yne, ysp, yvsp, (nI 0), (VV r), (-1), (-1), K, A, cl, ds, en, ss, yef, yet, yew, yb, ynb, yv, yx, ysv, ysi, yvs, (upd ymo (x * 32 + j) 1), (upd ymv (x * 32 + j) (VV r)), (upd yip (x * 32 + j) 0), ypN, ypI))
    (h1 : l ≠ 0 → ∀ (ysp yvsp : Int32) (yv yx ysv ysi yvs : Nat → Int32), wY_eval_111 p f (nI (it + 1)) (nI N) (nI C) (nI U) op (nI S) yne ysp yvsp (nI l) lv fn fi K A cl ds en ss yef yet yew yb ynb yv yx ysv ysi yvs (upd ymo (x * 32 + j) 1) (upd ymv (x * 32 + j) (VV r)) (upd yip (x * 32 + j) 0) ypN ypI) :
    wY_eval_111 p (f + 1) (nI it) (nI N) (nI C) (nI U) op (nI S) yne ysp yvsp (nI (l + 1)) lv fn fi K A cl ds en ss yef yet yew yb ynb yv yx ysv ysi yvs ymo ymv yip ypN ypI := by
  obtain ⟨hpr, hpath⟩ := hY
  obtain ⟨g1, g2⟩ := hpath l (by omega)
  rw [hpx] at g1
  rw [hpj] at g2
  have el : (nI (l + 1) - 1).toNatClampNeg = l := by rw [nI_pred]; exact nI_clamp (by omega)
  have hin : vp_in (nI (l + 1) - 1) 260 := by rw [nI_pred]; exact vp_in_nI (by omega) (by omega)
  have eq : nI x * 32 + nI j = nI (x * 32 + j) := by rw [show (32 : Int32) = nI 32 from rfl, pk_mul, nI_add]
  have e2 : (nI x * 32 + nI j).toNatClampNeg = x * 32 + j := by rw [eq]; exact nI_clamp (by omega)
  have hin2 : vp_in (nI x * 32 + nI j) 256 := by rw [eq]; exact vp_in_nI (by omega) (by omega)
  have hno := zf_no (by omega) hy
  refine br_f (nI_ge (b := 2000) hit (by decide)) (br_f (nI_nle (by omega) (by omega)) ⟨hin, nm_r (e' := nI x) (by rw [el]; exact g1) ⟨hin, nm_r (e' := nI j) (by rw [el]; exact g2) ?_⟩⟩)
  refine zy_mark (V := V) (PS := ps) (P := P) (O := O) (L := L) hx hr h96 hj hN hU hU9 hds hen hd hA hv (zp_mo hpr) hy (fun _ _ _ _ _ hq => br_f zn_n1 (zy_vals (V := V) (PV := pv) (VV := VV) (P := P) (O := O) (L := L) hx hr hn h96 hU hU9 hj hds hen hd he hv hvv hq (fun c a b hk hvc => ?_) (fun _ _ => ⟨hin2, nm_r (e' := upd ymo (x * 32 + j) 1) (by rw [e2, zb_1]) ⟨hin2, nm_r (e' := upd ymv (x * 32 + j) (VV r)) (by rw [e2]) ⟨hin2, nm_r (e' := upd yip (x * 32 + j) 0) (by rw [e2, zb_0]) (nm_r (nI_pred l) ?_)⟩⟩⟩)))
  · have hne : ∀ i, i < n → ∃ s t, zs_stk K r i = s :: t := fun i hi => by
      obtain ⟨s, t, e, _⟩ := hd i hi
      exact ⟨s, t, e⟩
    obtain ⟨i, rfl⟩ : ∃ i, c = r + i := ⟨c - r, by omega⟩
    obtain ⟨m, hm, em⟩ := (zs_vis_rg hr (by omega) hj hne hv (i + 1) i (by omega) (by omega)).resolve_left hvc
    obtain ⟨z, hz, ez⟩ := hA (r + i) (by omega) hk
    have hnD := hno (r + i) a b
    have hmet : V (r + i) < 32 ∧ ps (A (r + i) * 32 + V (r + i)).toNatClampNeg = 2 := Classical.byContradiction (fun w => hnD ⟨hk, hvc, w⟩)
    have hm32 : m < 32 := by
      have := hmet.1
      rw [em] at this
      exact (nI_ltI (b := 32) (by omega) (by omega)).mp this
    have hps : ps (z * 32 + m) = 2 := by
      have := hmet.2
      rw [ez, em, show (32 : Int32) = nI 32 from rfl, pk_mul, nI_add, nI_clamp (by omega)] at this
      exact this
    refine ⟨z, m, by omega, hm32, ez, em, fun w => (zp_mo hpr _ (by omega)).mp w hps, ?_⟩
    rcases hpr (z * 32 + m) (by omega) with w | w | w
    · rw [hps] at w; exact absurd w.1 (by decide)
    · rw [hps] at w; exact absurd w.1 (by decide)
    · exact w.2.2.2
  · by_cases hl0 : l = 0
    · refine br_t (by rw [hl0]; rfl) ?_
      have := h0 hl0
      rw [← hl0] at this
      exact this _ _ _ _ _ _ _
    · exact br_f (nI_ne0 (by omega) (by omega)) (nm_r (nI_1 it) (h1 hl0 _ _ _ _ _ _ _))
/-- one turn of the reference: a demand -/
theorem zy_dem {p : Int32 → SY → Prop} {x r n j l it f c z m : Nat} {V ps pv : Nat → Int32} {px pj : Nat → Nat} (hx : x < 8) (hr : 1 ≤ r) (h96 : r + n ≤ 96) (hj : j < 32) (hN : N ≤ 8) (hU : r + n ≤ U) (hU9 : U ≤ 96) (hl : l + 1 < 259) (hit : it < 2000)
    (hds : ds x = nI (r - 1)) (hen : en x = nI (r + n)) (hd : zs_def K P O L r n) (hA : ∀ c, c < U → K c = 11 → ∃ m, m < N ∧ A c = nI m) (hv : zs_vis K V r (nI j) n) (hy : zs_first (zf_D K A V ps) r (r + n) (nI c)) (hc : c < 96) (hz : z < 8) (hm : m < 2 ^ 30) (ez : A c = nI z) (em : V c = nI m)
    (hpx : px l = x) (hpj : pj l = j) (hY : ze_Y ps pv px pj (l + 1) ymo ymv yip ypN ypI)
    (h2 : 32 ≤ m → ∀ (ysp yvsp : Int32) (yv yx ysv ysi yvs : Nat → Int32), p 2 ((nI N), (nI C), (nI U), op, (nI S), yne, ysp, yvsp, (nI (l + 1)), 0, (nI z), (nI m), K, A, cl, ds, en, ss, yef, yet, yew, yb, ynb, yv, yx, ysv, ysi, yvs, ymo, ymv, yip, ypN, ypI))
    (h1 : m < 32 → ps (z * 32 + m) = 1 → ∀ (ysp yvsp : Int32) (yv yx ysv ysi yvs : Nat → Int32), p 1 ((nI N), (nI C), (nI U), op, (nI S), yne, ysp, yvsp, (nI (l + 1)), 0, (nI z), (nI m), K, A, cl, ds, en, ss, yef, yet, yew, yb, ynb, yv, yx, ysv, ysi, yvs, ymo, ymv, yip, ypN, ypI))
    (h0 : m < 32 → ps (z * 32 + m) = 0 → ∀ (ysp yvsp : Int32) (yv yx ysv ysi yvs : Nat → Int32), wY_eval_111 p f (nI (it + 1)) (nI N) (nI C) (nI U) op (nI S) yne ysp yvsp (nI (l + 2)) lv fn fi K A cl ds en ss yef yet yew yb ynb yv yx ysv ysi yvs ymo ymv (upd yip (z * 32 + m) 1) (upd ypN (l + 1) (nI z)) (upd ypI (l + 1) (nI m)))
    (h01 : m < 32 → ps (z * 32 + m) = 0 ∨ ps (z * 32 + m) = 1) :
    wY_eval_111 p (f + 1) (nI it) (nI N) (nI C) (nI U) op (nI S) yne ysp yvsp (nI (l + 1)) lv fn fi K A cl ds en ss yef yet yew yb ynb yv yx ysv ysi yvs ymo ymv yip ypN ypI := by
  obtain ⟨hpr, hpath⟩ := hY
  obtain ⟨g1, g2⟩ := hpath l (by omega)
  rw [hpx] at g1
  rw [hpj] at g2
  have el : (nI (l + 1) - 1).toNatClampNeg = l := by rw [nI_pred]; exact nI_clamp (by omega)
  have hin : vp_in (nI (l + 1) - 1) 260 := by rw [nI_pred]; exact vp_in_nI (by omega) (by omega)
  have ec : (nI c).toNatClampNeg = c := nI_clamp (by omega)
  have hinc : vp_in (nI c) 96 := vp_in_nI hc (by omega)
  have hcr : ∃ i, i < n ∧ c = r + i ∧ V c ≠ -1 := by
    rcases hy with ⟨w, _⟩ | ⟨c', w1, w2, w3, _, w5⟩
    · exact absurd w (zn_ne1 (by omega))
    · have := zn_im w5 (by omega) (by omega)
      subst this
      exact ⟨c - r, by omega, by omega, w3.2.1⟩
  obtain ⟨i, hi, eci, hvc⟩ := hcr
  refine br_f (nI_ge (b := 2000) hit (by decide)) (br_f (nI_nle (by omega) (by omega)) ⟨hin, nm_r (e' := nI x) (by rw [el]; exact g1) ⟨hin, nm_r (e' := nI j) (by rw [el]; exact g2) ?_⟩⟩)
  refine zy_mark (V := V) (PS := ps) (P := P) (O := O) (L := L) hx hr h96 hj hN hU hU9 hds hen hd hA hv (zp_mo hpr) hy (fun ysp' yv' yx' ysv' ysi' hq => ?_)
  have hix : yx' c = nI m := by
    have := (hq i hi).2
    rw [← eci] at this
    rw [(this hvc).2, em]
  refine br_t (nI_pos' (by omega)) ⟨hinc, nm_r (e' := nI z) (by rw [ec, ez]) ⟨hinc, nm_r (e' := nI m) (by rw [ec, hix]) (br_f (nI_pos (by omega)) ?_)⟩⟩
  by_cases hm32 : m < 32
  · have eq : nI z * 32 + nI m = nI (z * 32 + m) := by rw [show (32 : Int32) = nI 32 from rfl, pk_mul, nI_add]
    have e2 : (nI z * 32 + nI m).toNatClampNeg = z * 32 + m := by rw [eq]; exact nI_clamp (by omega)
    have hin2 : vp_in (nI z * 32 + nI m) 256 := by rw [eq]; exact vp_in_nI (by omega) (by omega)
    have e1 : (nI (l + 1)).toNatClampNeg = l + 1 := nI_clamp (by omega)
    have hin1 : vp_in (nI (l + 1)) 260 := vp_in_nI (by omega) (by omega)
    have h32 : ¬ (32 : Int32) ≤ nI m := nI_ge (b := 32) hm32 (by decide)
    refine br_f h32 ⟨hin2, ?_⟩
    rcases h01 hm32 with hp0 | hp1
    · have hip : yip (z * 32 + m) = 0 := by
        rcases hpr (z * 32 + m) (by omega) with w | w | w
        · exact w.2.2
        · rw [hp0] at w; exact absurd w.1 (by decide)
        · exact w.2.2.1
      exact br_t (by rw [e2]; exact hip) (br_f h32 (br_t (nI_pos' (by omega)) (br_f (nI_ge (b := 260) (by omega) (by decide)) ⟨hin1, nm_r (e' := upd ypN (l + 1) (nI z)) (by rw [e1]) ⟨hin1, nm_r (e' := upd ypI (l + 1) (nI m)) (by rw [e1]) (nm_r (nI_1 (l + 1)) ⟨hin2, nm_r (e' := upd yip (z * 32 + m) 1) (by rw [e2, zb_1]) (nm_r (nI_1 it) (h0 hm32 hp0 _ _ _ _ _ _ _))⟩)⟩⟩)))
    · have hip : ¬ yip (z * 32 + m) = 0 := by
        rcases hpr (z * 32 + m) (by omega) with w | w | w
        · rw [hp1] at w; exact absurd w.1 (by decide)
        · rw [w.2.2]; decide
        · rw [hp1] at w; exact absurd w.1 (by decide)
      exact br_f (by rw [e2]; exact hip) (h1 hm32 hp1 _ _ _ _ _ _ _)
  · have h32 : (32 : Int32) ≤ nI m := nI_le (a := 32) (by omega) (by omega)
    exact br_t h32 (br_t h32 (h2 (by omega) _ _ _ _ _ _ _))
end Z15
