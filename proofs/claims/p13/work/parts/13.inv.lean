/-! any call of begin and token keeps the invariant -/
def zd_I (u : St2) : Prop :=
  ∃ (N C U S : Nat) (op lv fn fi pl : Int32) (K A Ow O P L cl rt en ss so sp ww lw vi vv ps pv pt : Nat → Int32) (R E : Nat → Nat),
    u = ((nI N), (nI C), (nI U), op, (nI S), pl, lv, fn, fi, K, A, Ow, O, P, L, cl, rt, en, ss, so, sp, ww, lw, vi, vv, ps, pv, pt) ∧ N = 2 ∧ (∀ n, rt n = nI (R n)) ∧ (∀ n, en n = nI (E n)) ∧ zi_inv N C U S op K A P O L Ow cl so sp R E ∧ zj_inv N U op K ss cl R E
section Z23
variable {N C U S : Nat} {op lv fn fi pl yne ysp yvsp ypn : Int32}
variable {K A Ow O P L cl rt en ss so sp ds ww lw vi vv ps pv pt yef yet yew yb ynb yv yx ysv ysi yvs ymo ymv yip ypN ypI : Nat → Int32}
variable {R E : Nat → Nat}
variable {e1 e2 e3 e4 e5 e6 e7 e8 e9 : Int32} {b1 b2 b3 b4 b5 b6 b7 b8 b9 b10 b11 b12 b13 b14 b15 b16 b17 b18 b19 : Nat → Int32}
theorem zd_mk (hN : N = 2) (hR : ∀ n, rt n = nI (R n)) (hE : ∀ n, en n = nI (E n)) (h : zi_inv N C U S op K A P O L Ow cl so sp R E) (hj : zj_inv N U op K ss cl R E) : zd_I ((nI N), (nI C), (nI U), op, (nI S), pl, lv, fn, fi, K, A, Ow, O, P, L, cl, rt, en, ss, so, sp, ww, lw, vi, vv, ps, pv, pt) :=
  ⟨N, C, U, S, op, lv, fn, fi, pl, K, A, Ow, O, P, L, cl, rt, en, ss, so, sp, ww, lw, vi, vv, ps, pv, pt, R, E, rfl, hN, hR, hE, h, hj⟩
theorem zd_beg {post : Int32 → St2 → Prop} {v1 : Int32} (I : zd_I (e1, e2, e3, e4, e5, e6, e7, e8, e9, b1, b2, b3, b4, b5, b6, b7, b8, b9, b10, b11, b12, b13, b14, b15, b16, b17, b18, b19)) (hp : ∀ (r : Int32) (e1 e2 e3 e4 e5 e6 e7 e8 e9 : Int32) (b1 b2 b3 b4 b5 b6 b7 b8 b9 b10 b11 b12 b13 b14 b15 b16 b17 b18 b19 : Nat → Int32), zd_I (e1, e2, e3, e4, e5, e6, e7, e8, e9, b1, b2, b3, b4, b5, b6, b7, b8, b9, b10, b11, b12, b13, b14, b15, b16, b17, b18, b19) → post r (e1, e2, e3, e4, e5, e6, e7, e8, e9, b1, b2, b3, b4, b5, b6, b7, b8, b9, b10, b11, b12, b13, b14, b15, b16, b17, b18, b19)) : wpX_begin post (e1, e2, e3, e4, e5, e6, e7, e8, e9, b1, b2, b3, b4, b5, b6, b7, b8, b9, b10, b11, b12, b13, b14, b15, b16, b17, b18, b19) v1 := by
  obtain ⟨N, C, U, S, op, lv, fn, fi, pl, K, A, Ow, O, P, L, cl, rt, en, ss, so, sp, ww, lw, vi, vv, ps, pv, pt, R, E, hu, hN, hR, hE, h, hj⟩ := I
  rw [hu]
  have J : zd_I ((nI N), (nI C), (nI U), op, (nI S), pl, lv, fn, fi, K, A, Ow, O, P, L, cl, rt, en, ss, so, sp, ww, lw, vi, vv, ps, pv, pt) := zd_mk hN hR hE h hj
  have hb := h.1
  rcases h.2.2.2.2.2.2 with ⟨rfl, rfl⟩ | ⟨o, h1, rfl, _⟩
  · refine br_t rfl ?_
    by_cases hv : v1 < 0 ∨ nI N ≤ v1
    · exact zx_nm0 hv (br_t rfl (hp 0 _ _ _ _ _ _ _ _ _ _ _ _ _ _ _ _ _ _ _ _ _ _ _ _ _ _ _ _ J))
    · obtain ⟨j, hj', rfl⟩ : ∃ j : Nat, j < N ∧ v1 = nI j := by
        rcases pk_ix v1 (n := N) (by omega) with h | h | h
        · exact absurd (Or.inl h) hv
        · exact absurd (Or.inr h) hv
        · exact h
      have hin : vp_in (nI j) 8 := vp_in_nI (by omega) (by omega)
      have ej : (nI j).toNatClampNeg = j := nI_clamp (by omega)
      refine zx_nm1 hj' (by omega) (br_f zn_10 ⟨hin, ?_⟩)
      by_cases hc : cl (nI j).toNatClampNeg = 0
      · refine br_t hc ?_
        by_cases hU : U < C
        · rw [ej] at hc
          refine br_t (nI_lt hU (by omega)) (zx_append (by omega) ⟨hin, nm_r (e' := upd rt j (nI (U + 1))) (by rw [ej]) (zx_put (S := 0) (by omega) (hp 1 _ _ _ _ _ _ _ _ _ _ _ _ _ _ _ _ _ _ _ _ _ _ _ _ _ _ _ _ ?_))⟩)
          exact zd_mk (U := U + 1) (S := 1) hN (zi_upd hR) hE (zi_begin h hj' hc hU) (zj_begin h hj hj' hc)
        · exact br_f (nI_nlt (by omega) (by omega)) (hp 0 _ _ _ _ _ _ _ _ _ _ _ _ _ _ _ _ _ _ _ _ _ _ _ _ _ _ _ _ J)
      · exact br_f hc (hp 0 _ _ _ _ _ _ _ _ _ _ _ _ _ _ _ _ _ _ _ _ _ _ _ _ _ _ _ _ J)
  · exact br_f (zn_ne1 (by omega)) (hp 0 _ _ _ _ _ _ _ _ _ _ _ _ _ _ _ _ _ _ _ _ _ _ _ _ _ _ _ _ J)
theorem zd_tok {post : Int32 → St2 → Prop} {v1 v2 : Int32} (I : zd_I (e1, e2, e3, e4, e5, e6, e7, e8, e9, b1, b2, b3, b4, b5, b6, b7, b8, b9, b10, b11, b12, b13, b14, b15, b16, b17, b18, b19)) (hp : ∀ (r : Int32) (e1 e2 e3 e4 e5 e6 e7 e8 e9 : Int32) (b1 b2 b3 b4 b5 b6 b7 b8 b9 b10 b11 b12 b13 b14 b15 b16 b17 b18 b19 : Nat → Int32), zd_I (e1, e2, e3, e4, e5, e6, e7, e8, e9, b1, b2, b3, b4, b5, b6, b7, b8, b9, b10, b11, b12, b13, b14, b15, b16, b17, b18, b19) → post r (e1, e2, e3, e4, e5, e6, e7, e8, e9, b1, b2, b3, b4, b5, b6, b7, b8, b9, b10, b11, b12, b13, b14, b15, b16, b17, b18, b19)) : wpX_token post (e1, e2, e3, e4, e5, e6, e7, e8, e9, b1, b2, b3, b4, b5, b6, b7, b8, b9, b10, b11, b12, b13, b14, b15, b16, b17, b18, b19) v1 v2 := by
  obtain ⟨N, C, U, S, op, lv, fn, fi, pl, K, A, Ow, O, P, L, cl, rt, en, ss, so, sp, ww, lw, vi, vv, ps, pv, pt, R, E, hu, hN, hR, hE, h, hj⟩ := I
  rw [hu]
  have J : zd_I ((nI N), (nI C), (nI U), op, (nI S), pl, lv, fn, fi, K, A, Ow, O, P, L, cl, rt, en, ss, so, sp, ww, lw, vi, vv, ps, pv, pt) := zd_mk hN hR hE h hj
  have hb := h.1
  have hS96 := zi_S h
  have ho := h.2.2.2.2.2.2
  by_cases hlo : v1 < 1
  · exact br_t hlo (br_t rfl (hp 0 _ _ _ _ _ _ _ _ _ _ _ _ _ _ _ _ _ _ _ _ _ _ _ _ _ _ _ _ J))
  by_cases hhi : 11 < v1
  · exact br_f hlo (br_t hhi (br_t rfl (hp 0 _ _ _ _ _ _ _ _ _ _ _ _ _ _ _ _ _ _ _ _ _ _ _ _ _ _ _ _ J)))
  rcases ho with ⟨rfl, rfl⟩ | ⟨o, h1, rfl, hco, hop⟩
  · exact br_f hlo (br_f hhi (br_t rfl (br_t rfl (hp 0 _ _ _ _ _ _ _ _ _ _ _ _ _ _ _ _ _ _ _ _ _ _ _ _ _ _ _ _ J))))
  · obtain ⟨q, hq1, hq11, rfl⟩ : ∃ q : Nat, 1 ≤ q ∧ q ≤ 11 ∧ v1 = nI q := by
      have hlo' := zn_nlt hlo
      have hhi' := zn_nlt hhi
      have h0 : ¬ v1 < 0 := Int32.not_lt.mpr (Int32.le_trans (by decide) hlo')
      obtain ⟨j, hj, rfl⟩ := nI_of h0
      have a1 := (nI_leI (a := 1) (by omega) hj).mp hlo'
      have a2 := (nI_leI (b := 11) hj (by omega)).mp hhi'
      exact ⟨j, a1, a2, rfl⟩
    obtain ⟨r1, r2, r3, r4, r5, r6, r7, r8⟩ := hop
    cases est : zs_stk K (R o) (U - R o) with
    | nil => rw [est] at r4; simp at r4; omega
    | cons s t =>
      rw [est] at r4 r6
      obtain rfl : S = t.length + 1 := r4.symm
      have hlen := zs_stk_len K (R o) (U - R o)
      rw [est, List.length_cons] at hlen
      have hs1 := zs_mem r1 (K := K) (d := U - R o) (s := s) (by rw [est]; exact List.mem_cons_self ..)
      have hT : U < C → t.length + 2 ≤ 96 := fun hU => by omega
      have hU9 : U < C → U < 96 := fun hU => by omega
      have hxU : ∀ x, x ∈ t → x.1 ≠ U := fun x hx => by
        have hx1 := zs_mem r1 (K := K) (d := U - R o) (s := x) (by rw [est]; exact List.mem_cons_of_mem _ hx)
        omega
      have hN8 : N ≤ 8 := by omega
      have hC9 : C ≤ 96 := by omega
      have ho8 : o < 8 := by omega
      have hs96 : s.1 < 96 := by omega
      have hUC : ¬ U < C → ¬ nI U < nI C := fun hU => nI_nlt (by omega) (by omega)
      refine zx_tk hq1 hq11 ho8 hN8 hS96 (fun _ => hp 0 _ _ _ _ _ _ _ _ _ _ _ _ _ _ _ _ _ _ _ _ _ _ _ _ _ _ _ _ J) (fun _ _ _ => hp 0 _ _ _ _ _ _ _ _ _ _ _ _ _ _ _ _ _ _ _ _ _ _ _ _ _ _ _ _ J) (fun hs hm => ?_)
      by_cases hU : U < C
      · have ha : q = 11 → ∃ m, m < N ∧ zk_a q v2 = nI m := fun z => by unfold zk_a; rw [if_neg (by rw [z]; decide), if_pos z]; exact hm z
        obtain ⟨j1, j2, j3⟩ := zj_step h hj h1 est hq1 hq11 hs
        refine zx_26 hq11 hU hC9 (zx_62 hq1 hq11 (hU9 hU) ho8 (hT hU) r6.1.1 r6.1.2 hs96 (fun hz => hp 1 _ _ _ _ _ _ _ _ _ _ _ _ _ _ _ _ _ _ _ _ _ _ _ _ _ _ _ _ ?_) (fun hz => hp 1 _ _ _ _ _ _ _ _ _ _ _ _ _ _ _ _ _ _ _ _ _ _ _ _ _ _ _ _ ?_))
        · have hnil : zs_kids (nI q) U ++ t = [] := List.eq_nil_of_length_eq_zero (by rw [zk_len hq1 hq11]; exact hz)
          have H := zi_tok0 (so' := zk_so q t.length (zs_so K O (R o) s) so) (sp' := zk_sp q t.length (nI U) sp) (a := zk_a q v2) h h1 hU est hq1 hq11 ha hnil
          rw [← hz] at H
          refine zd_mk (U := U + 1) (S := t.length + zk_n q) hN hR (zi_upd hE) H ⟨fun m hm' hcm => ?_, fun o' ho' eo => absurd eo.symm (zn_ne1 (by omega))⟩
          by_cases em : m = o
          · rw [em, zi_uns]; exact j2
          · rw [pk_un em] at hcm
            rw [zi_unn em]; exact j1 m hm' hcm
        · have hst := zk_st (K := upd K U (nI q)) (O := upd O U (zs_so K O (R o) s)) (so := so) (sp := sp) (r := R o) (k := q) (c := U) (S := t.length) (o := zs_so K O (R o) s) (t := t) hq1 hq11 r2 pk_us pk_us rfl
            (zs_st_mono t (fun i x hi hx hq => ⟨hq.1, hq.2.trans (zs_so_congr (fun _ => ⟨pk_un (hxU x hx), pk_un (hxU x hx)⟩)).symm⟩) r6.2)
          have H := zi_tok (so' := zk_so q t.length (zs_so K O (R o) s) so) (sp' := zk_sp q t.length (nI U) sp) (a := zk_a q v2) h h1 hU est hq1 hq11 ha (by rw [zk_len hq1 hq11]; exact Nat.pos_of_ne_zero hz) hst
          rw [zk_len hq1 hq11] at H
          refine zd_mk (U := U + 1) (S := t.length + zk_n q) hN hR hE H ⟨fun m hm' hcm => j1 m hm' hcm, fun o' ho' eo => ?_⟩
          have e : o = o' := zn_im eo (Nat.lt_trans ho8 (by decide)) (Nat.lt_trans (Nat.lt_of_lt_of_le ho' hN8) (by decide))
          rw [← e]; exact ⟨j2, j3⟩
      · exact br_f (hUC hU) (hp 0 _ _ _ _ _ _ _ _ _ _ _ _ _ _ _ _ _ _ _ _ _ _ _ _ _ _ _ _ J)
theorem zd_slot {post : Int32 → Prop} (I : zd_I (e1, e2, e3, e4, e5, e6, e7, e8, e9, b1, b2, b3, b4, b5, b6, b7, b8, b9, b10, b11, b12, b13, b14, b15, b16, b17, b18, b19)) (hp : ∀ r : Int32, post r) : wpX_slot post (e1, e2, e3, e4, e5, e6, e7, e8, e9, b1, b2, b3, b4, b5, b6, b7, b8, b9, b10, b11, b12, b13, b14, b15, b16, b17, b18, b19) 0 := by
  obtain ⟨N, C, U, S, op, lv, fn, fi, pl, K, A, Ow, O, P, L, cl, rt, en, ss, so, sp, ww, lw, vi, vv, ps, pv, pt, R, E, hu, hN, hR, hE, h, hj⟩ := I
  rw [hu]
  have hS96 := zi_S h
  refine br_f (by decide) ?_
  by_cases hS : 0 < S
  · refine br_t (nI_lt (a := 0) hS (by omega)) ⟨?_, hp _⟩
    rw [zn_s hS, Int32.sub_zero]
    exact vp_in_nI (by omega) (by omega)
  · exact br_f (nI_nlt (a := 0) (by omega) (by decide)) (hp _)
end Z23
