/-! the relation between the two states -/
def i_Rel (k : Nat) (u : SX) (v : SY) : Prop :=
  ∃ (N C U S : Nat) (op lv fn fi : Int32) (K A Ow O P L cl rt en ss so sp ds : Nat → Int32) (R E : Nat → Nat) (pl : Int32) (ww lw vi vv ps pv pt : Nat → Int32)
    (yne ysp yvsp ypn : Int32) (yef yet yew yb ynb yv yx ysv ysi yvs ymo ymv yip ypN ypI : Nat → Int32),
    u = ((nI N), (nI C), (nI U), op, (nI S), pl, lv, fn, fi, K, A, Ow, O, P, L, cl, rt, en, ss, so, sp, ww, lw, vi, vv, ps, pv, pt) ∧ v = ((nI N), (nI C), (nI U), op, (nI S), yne, ysp, yvsp, ypn, lv, fn, fi, K, A, cl, ds, en, ss, yef, yet, yew, yb, ynb, yv, yx, ysv, ysi, yvs, ymo, ymv, yip, ypN, ypI) ∧ (∀ n, rt n = nI (R n)) ∧ (∀ n, ds n = nI (R n - 1)) ∧ (∀ n, en n = nI (E n)) ∧ zi_inv N C U S op K A P O L Ow cl so sp R E
theorem i_up {k : Nat} {u : SX} {v : SY} (h : i_Rel k u v) : i_Rel (k + 3) u v := h
section Z7
variable {N C U S : Nat} {op lv fn fi pl yne ysp yvsp ypn : Int32}
variable {K A Ow O P L cl rt en ss so sp ds ww lw vi vv ps pv pt yef yet yew yb ynb yv yx ysv ysi yvs ymo ymv yip ypN ypI : Nat → Int32}
variable {R E : Nat → Nat}
theorem zr_mk {k : Nat} (hR : ∀ n, rt n = nI (R n)) (hD : ∀ n, ds n = nI (R n - 1)) (hE : ∀ n, en n = nI (E n)) (h : zi_inv N C U S op K A P O L Ow cl so sp R E) : i_Rel k ((nI N), (nI C), (nI U), op, (nI S), pl, lv, fn, fi, K, A, Ow, O, P, L, cl, rt, en, ss, so, sp, ww, lw, vi, vv, ps, pv, pt) ((nI N), (nI C), (nI U), op, (nI S), yne, ysp, yvsp, ypn, lv, fn, fi, K, A, cl, ds, en, ss, yef, yet, yew, yb, ynb, yv, yx, ysv, ysi, yvs, ymo, ymv, yip, ypN, ypI) :=
  ⟨N, C, U, S, op, lv, fn, fi, K, A, Ow, O, P, L, cl, rt, en, ss, so, sp, ds, R, E, pl, ww, lw, vi, vv, ps, pv, pt, yne, ysp, yvsp, ypn, yef, yet, yew, yb, ynb, yv, yx, ysv, ysi, yvs, ymo, ymv, yip, ypN, ypI, rfl, rfl, hR, hD, hE, h⟩
theorem zb_0 : vp_nar .boolean 0 = 0 := by decide
theorem zb_1 : vp_nar .boolean 1 = 1 := by decide
theorem zi_S (h : zi_inv N C U S op K A P O L Ow cl so sp R E) : S ≤ 96 := by
  obtain ⟨⟨a1, a2, a3, a4, a5⟩, _, _, _, _, _, h⟩ := h
  rcases h with h | ⟨o, _, _, _, h1, h2, _, h4, _⟩
  · omega
  · have := zs_stk_len K (R o) (U - R o)
    omega
theorem zx_cl (x : Int32) (a b : Nat) (hab : a ≤ b) (hb : b < 2 ^ 31) : ∃ n, a ≤ n ∧ n ≤ b ∧ (∀ post : Int32 → Prop, post (nI n) → wpX_clamp post x (nI a) (nI b)) ∧
    ∀ F : Int32 → Prop, F (nI n) → ((nI a ≤ x → ((x ≤ nI b → F x) ∧ (¬ x ≤ nI b → F (nI b)))) ∧ (¬ nI a ≤ x → F (nI a))) := by
  by_cases h : nI a ≤ x
  · by_cases h2 : x ≤ nI b
    · have h0 : ¬ x < 0 := by
        rw [Int32.not_lt]
        exact Int32.le_trans (nI_pos' (by omega)) h
      obtain ⟨j, hj, rfl⟩ := nI_of h0
      rw [nI_leI (by omega) hj] at h
      rw [nI_leI hj (by omega)] at h2
      have h' := (nI_leI (a := a) (b := j) (by omega) hj).mpr h
      have h2' := (nI_leI (a := j) (b := b) hj (by omega)).mpr h2
      exact ⟨j, h, h2, fun post hp => br_t h' (br_t h2' hp), fun F hF => br_t h' (br_t h2' hF)⟩
    · exact ⟨b, hab, Nat.le_refl _, fun post hp => br_t h (br_f h2 hp), fun F hF => br_t h (br_f h2 hF)⟩
  · exact ⟨a, Nat.le_refl _, hab, fun post hp => br_f h hp, fun F hF => br_f h hF⟩
theorem i_vc0 (k0 : Int32) (k1 : Int32) : wpX_init (fun u => wpY_init (fun v => i_Rel 2 u v) k0 k1) k0 k1 := by
  obtain ⟨N, h1, h2, hx, hy⟩ := zx_cl k0 1 8 (by omega) (by omega)
  obtain ⟨C, h3, h4, hx', hy'⟩ := zx_cl k1 16 96 (by omega) (by omega)
  unfold wpX_init
  refine hx _ (hx' _ ?_)
  unfold wpY_init
  refine hy (fun z => wY_init_214 _ k1 z 0 0 0 (-1) 0 0 0 0 0 0 (-1) (-1) (fun _ => 0) (fun _ => 0) (fun _ => 0) (fun _ => 0) (fun _ => 0) (fun _ => 0) (fun _ => 0) (fun _ => 0) (fun _ => 0) (fun _ => 0) (fun _ => 0) (fun _ => 0) (fun _ => 0) (fun _ => 0) (fun _ => 0) (fun _ => 0) (fun _ => 0) (fun _ => 0) (fun _ => 0) (fun _ => 0) (fun _ => 0)) ?_
  refine hy' (fun z => i_Rel 2 _ (nI N, z, _)) ?_
  exact zr_mk (U := 0) (S := 0) (R := fun _ => 0) (E := fun _ => 0) (fun _ => rfl) (fun _ => rfl) (fun _ => rfl) (zi_init ⟨h1, h2, h3, h4⟩)
theorem i_vc_pending {k : Nat} {u : SX} {v : SY} (I : i_Rel k u v) (hk : k + 3 ≤ 1538) : wpX_pending (fun r => wpY_pending (fun r' => r' = r ∧ i_Rel (k + 3) u v) v) u := by
  have J := i_up I
  obtain ⟨N, C, U, S, op, lv, fn, fi, K, A, Ow, O, P, L, cl, rt, en, ss, so, sp, ds, R, E, pl, ww, lw, vi, vv, ps, pv, pt, yne, ysp, yvsp, ypn, yef, yet, yew, yb, ynb, yv, yx, ysv, ysi, yvs, ymo, ymv, yip, ypN, ypI, rfl, rfl, hR, hD, hE, h⟩ := I
  obtain ⟨a, _, _, _, _, _, ho⟩ := h
  rcases ho with ⟨rfl, rfl⟩ | ⟨o, h1, rfl, _⟩
  · exact br_t (by decide) ⟨rfl, J⟩
  · exact br_f (nI_pos (by omega)) ⟨rfl, J⟩
theorem i_vc_slot {k : Nat} {u : SX} {v : SY} (I : i_Rel k u v) (hk : k + 3 ≤ 1538) (v1 : Int32) : wpX_slot (fun r => wpY_slot (fun r' => r' = r ∧ i_Rel (k + 3) u v) v v1) u v1 := by
  have J := i_up I
  obtain ⟨N, C, U, S, op, lv, fn, fi, K, A, Ow, O, P, L, cl, rt, en, ss, so, sp, ds, R, E, pl, ww, lw, vi, vv, ps, pv, pt, yne, ysp, yvsp, ypn, yef, yet, yew, yb, ynb, yv, yx, ysv, ysi, yvs, ymo, ymv, yip, ypN, ypI, rfl, rfl, hR, hD, hE, h⟩ := I
  have hS := zi_S h
  obtain ⟨a, _, _, _, _, _, ho⟩ := h
  rcases ho with ⟨rfl, rfl⟩ | ⟨o, h1, rfl, _⟩
  · by_cases h0 : v1 < 0
    · exact br_t h0 (br_t (by decide) ⟨rfl, J⟩)
    · exact br_f h0 (br_f h0 (br_t (by decide) ⟨rfl, J⟩))
  · have hn : ¬ nI o < 0 := nI_pos (by omega)
    by_cases h0 : v1 < 0
    · exact br_t h0 (br_f hn (br_t h0 ⟨rfl, J⟩))
    · obtain ⟨j, hj, rfl⟩ := nI_of h0
      by_cases hjS : j < S
      · have e : (nI S - 1) - nI j = nI (S - 1 - j) := by rw [zn_s (by omega), pk_sub (by omega)]
        have hlt : nI j < nI S := nI_lt hjS (by omega)
        refine br_f h0 (br_t hlt ⟨by rw [e]; exact vp_in_nI (by omega) (by omega), br_f hn (br_f h0 (br_t hlt ⟨by rw [e]; exact vp_in_nI (by omega) (by omega), rfl, J⟩))⟩)
      · have hlt : ¬ nI j < nI S := nI_nlt (by omega) hj
        exact br_f h0 (br_f hlt (br_f hn (br_f h0 (br_f hlt ⟨rfl, J⟩))))
theorem i_vc_openName {k : Nat} {u : SX} {v : SY} (I : i_Rel k u v) (hk : k + 3 ≤ 1538) : wpX_openName (fun r => wpY_openName (fun r' => r' = r ∧ i_Rel (k + 3) u v) v) u := by
  have J := i_up I
  obtain ⟨N, C, U, S, op, lv, fn, fi, K, A, Ow, O, P, L, cl, rt, en, ss, so, sp, ds, R, E, pl, ww, lw, vi, vv, ps, pv, pt, yne, ysp, yvsp, ypn, yef, yet, yew, yb, ynb, yv, yx, ysv, ysi, yvs, ymo, ymv, yip, ypN, ypI, rfl, rfl, hR, hD, hE, h⟩ := I
  exact ⟨rfl, J⟩
theorem i_vc_used {k : Nat} {u : SX} {v : SY} (I : i_Rel k u v) (hk : k + 3 ≤ 1538) : wpX_used (fun r => wpY_used (fun r' => r' = r ∧ i_Rel (k + 3) u v) v) u := by
  have J := i_up I
  obtain ⟨N, C, U, S, op, lv, fn, fi, K, A, Ow, O, P, L, cl, rt, en, ss, so, sp, ds, R, E, pl, ww, lw, vi, vv, ps, pv, pt, yne, ysp, yvsp, ypn, yef, yet, yew, yb, ynb, yv, yx, ysv, ysi, yvs, ymo, ymv, yip, ypN, ypI, rfl, rfl, hR, hD, hE, h⟩ := I
  exact ⟨rfl, J⟩
theorem i_vc_value {k : Nat} {u : SX} {v : SY} (I : i_Rel k u v) (hk : k + 3 ≤ 1538) : wpX_value (fun r => wpY_value (fun r' => r' = r ∧ i_Rel (k + 3) u v) v) u := by
  have J := i_up I
  obtain ⟨N, C, U, S, op, lv, fn, fi, K, A, Ow, O, P, L, cl, rt, en, ss, so, sp, ds, R, E, pl, ww, lw, vi, vv, ps, pv, pt, yne, ysp, yvsp, ypn, yef, yet, yew, yb, ynb, yv, yx, ysv, ysi, yvs, ymo, ymv, yip, ypN, ypI, rfl, rfl, hR, hD, hE, h⟩ := I
  exact ⟨rfl, J⟩
theorem i_vc_faultName {k : Nat} {u : SX} {v : SY} (I : i_Rel k u v) (hk : k + 3 ≤ 1538) : wpX_faultName (fun r => wpY_faultName (fun r' => r' = r ∧ i_Rel (k + 3) u v) v) u := by
  have J := i_up I
  obtain ⟨N, C, U, S, op, lv, fn, fi, K, A, Ow, O, P, L, cl, rt, en, ss, so, sp, ds, R, E, pl, ww, lw, vi, vv, ps, pv, pt, yne, ysp, yvsp, ypn, yef, yet, yew, yb, ynb, yv, yx, ysv, ysi, yvs, ymo, ymv, yip, ypN, ypI, rfl, rfl, hR, hD, hE, h⟩ := I
  exact ⟨rfl, J⟩
theorem i_vc_faultIndex {k : Nat} {u : SX} {v : SY} (I : i_Rel k u v) (hk : k + 3 ≤ 1538) : wpX_faultIndex (fun r => wpY_faultIndex (fun r' => r' = r ∧ i_Rel (k + 3) u v) v) u := by
  have J := i_up I
  obtain ⟨N, C, U, S, op, lv, fn, fi, K, A, Ow, O, P, L, cl, rt, en, ss, so, sp, ds, R, E, pl, ww, lw, vi, vv, ps, pv, pt, yne, ysp, yvsp, ypn, yef, yet, yew, yb, ynb, yv, yx, ysv, ysi, yvs, ymo, ymv, yip, ypN, ypI, rfl, rfl, hR, hD, hE, h⟩ := I
  exact ⟨rfl, J⟩
theorem zx_nm0 {post : Int32 → Prop} {x : Int32} (h : x < 0 ∨ nI N ≤ x) (hp : post 0) : wpX_isName post ((nI N), (nI C), (nI U), op, (nI S), pl, lv, fn, fi, K, A, Ow, O, P, L, cl, rt, en, ss, so, sp, ww, lw, vi, vv, ps, pv, pt) x := by
  by_cases h0 : x < 0
  · exact br_t h0 hp
  · exact br_f h0 (br_t (h.resolve_left h0) hp)
theorem zx_nm1 {post : Int32 → Prop} {j : Nat} (h : j < N) (hN : N ≤ 8) (hp : post 1) : wpX_isName post ((nI N), (nI C), (nI U), op, (nI S), pl, lv, fn, fi, K, A, Ow, O, P, L, cl, rt, en, ss, so, sp, ww, lw, vi, vv, ps, pv, pt) (nI j) :=
  br_f (nI_pos (by omega)) (br_f (nI_ge h (by omega)) hp)
theorem i_vc_defined {k : Nat} {u : SX} {v : SY} (I : i_Rel k u v) (hk : k + 3 ≤ 1538) (v1 : Int32) : wpX_defined (fun r => wpY_defined (fun r' => r' = r ∧ i_Rel (k + 3) u v) v v1) u v1 := by
  have J := i_up I
  obtain ⟨N, C, U, S, op, lv, fn, fi, K, A, Ow, O, P, L, cl, rt, en, ss, so, sp, ds, R, E, pl, ww, lw, vi, vv, ps, pv, pt, yne, ysp, yvsp, ypn, yef, yet, yew, yb, ynb, yv, yx, ysv, ysi, yvs, ymo, ymv, yip, ypN, ypI, rfl, rfl, hR, hD, hE, h⟩ := I
  obtain ⟨⟨a1, a2, _⟩, _⟩ := h
  unfold wpX_defined
  by_cases hv : v1 < 0 ∨ nI N ≤ v1
  · refine zx_nm0 hv (br_t rfl ?_)
    by_cases h0 : v1 < 0
    · exact br_t h0 ⟨rfl, J⟩
    · exact br_f h0 (br_t (hv.resolve_left h0) ⟨rfl, J⟩)
  · obtain ⟨j, hj, rfl⟩ : ∃ j : Nat, j < N ∧ v1 = nI j := by
      rcases pk_ix v1 (n := N) (by omega) with h | h | h
      · exact absurd (Or.inl h) hv
      · exact absurd (Or.inr h) hv
      · exact h
    have hin : vp_in (nI j) 8 := vp_in_nI (by omega) (by omega)
    refine zx_nm1 hj a2 (br_f zn_10 ⟨hin, ?_⟩)
    by_cases hc : cl (nI j).toNatClampNeg = 0
    · exact br_t hc (br_f (nI_pos (by omega)) (br_f (nI_ge hj (by omega)) ⟨hin, br_t hc ⟨rfl, J⟩⟩))
    · exact br_f hc (br_f (nI_pos (by omega)) (br_f (nI_ge hj (by omega)) ⟨hin, br_f hc ⟨rfl, J⟩⟩))
theorem i_vc_cellKind {k : Nat} {u : SX} {v : SY} (I : i_Rel k u v) (hk : k + 3 ≤ 1538) (v1 : Int32) : wpX_cellKind (fun r => wpY_cellKind (fun r' => r' = r ∧ i_Rel (k + 3) u v) v v1) u v1 := by
  have J := i_up I
  obtain ⟨N, C, U, S, op, lv, fn, fi, K, A, Ow, O, P, L, cl, rt, en, ss, so, sp, ds, R, E, pl, ww, lw, vi, vv, ps, pv, pt, yne, ysp, yvsp, ypn, yef, yet, yew, yb, ynb, yv, yx, ysv, ysi, yvs, ymo, ymv, yip, ypN, ypI, rfl, rfl, hR, hD, hE, h⟩ := I
  obtain ⟨⟨a1, a2, a3, a4, a5⟩, _⟩ := h
  unfold wpX_cellKind wpX_isCell
  rcases pk_ix v1 (n := U) (by omega) with h | h | ⟨j, hj, rfl⟩
  · exact br_t h (br_t rfl (br_t h ⟨rfl, J⟩))
  · have h0 : ¬ v1 < 0 := Int32.not_lt.mpr (Int32.le_trans (nI_pos' (by omega)) h)
    exact br_f h0 (br_t h (br_t rfl (br_f h0 (br_f (Int32.not_lt.mpr h) ⟨rfl, J⟩))))
  · have h0 : ¬ nI j < 0 := nI_pos (by omega)
    have hin : vp_in (nI j) 96 := vp_in_nI (by omega) (by omega)
    exact br_f h0 (br_f (nI_ge hj (by omega)) (br_f zn_10 ⟨hin, br_f h0 (br_t (nI_lt hj (by omega)) ⟨hin, rfl, J⟩)⟩))
theorem i_vc_cellValue {k : Nat} {u : SX} {v : SY} (I : i_Rel k u v) (hk : k + 3 ≤ 1538) (v1 : Int32) : wpX_cellValue (fun r => wpY_cellValue (fun r' => r' = r ∧ i_Rel (k + 3) u v) v v1) u v1 := by
  have J := i_up I
  obtain ⟨N, C, U, S, op, lv, fn, fi, K, A, Ow, O, P, L, cl, rt, en, ss, so, sp, ds, R, E, pl, ww, lw, vi, vv, ps, pv, pt, yne, ysp, yvsp, ypn, yef, yet, yew, yb, ynb, yv, yx, ysv, ysi, yvs, ymo, ymv, yip, ypN, ypI, rfl, rfl, hR, hD, hE, h⟩ := I
  obtain ⟨⟨a1, a2, a3, a4, a5⟩, _⟩ := h
  unfold wpX_cellValue wpX_isCell
  rcases pk_ix v1 (n := U) (by omega) with h | h | ⟨j, hj, rfl⟩
  · exact br_t h (br_t rfl (br_t h ⟨rfl, J⟩))
  · have h0 : ¬ v1 < 0 := Int32.not_lt.mpr (Int32.le_trans (nI_pos' (by omega)) h)
    exact br_f h0 (br_t h (br_t rfl (br_f h0 (br_f (Int32.not_lt.mpr h) ⟨rfl, J⟩))))
  · have h0 : ¬ nI j < 0 := nI_pos (by omega)
    have hin : vp_in (nI j) 96 := vp_in_nI (by omega) (by omega)
    exact br_f h0 (br_f (nI_ge hj (by omega)) (br_f zn_10 ⟨hin, br_f h0 (br_t (nI_lt hj (by omega)) ⟨hin, rfl, J⟩)⟩))
end Z7
