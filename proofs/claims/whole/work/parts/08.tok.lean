/-! reset, begin, token -/
def zk_cl (cl : Nat → Int32) : Nat → Nat → Int32
  | 0 => cl
  | i + 1 => upd (zk_cl cl i) i 0
theorem zk_cl_lo {cl : Nat → Int32} : ∀ i n, n < i → zk_cl cl i n = 0 := by
  intro i
  induction i with
  | zero => intro n h; omega
  | succ i ih =>
    intro n h
    show upd (zk_cl cl i) i 0 n = 0
    by_cases e : n = i
    · rw [e, pk_us]
    · rw [pk_un e]; exact ih n (by omega)
theorem zk_cl_hi {cl : Nat → Int32} : ∀ i n, i ≤ n → zk_cl cl i n = cl n := by
  intro i
  induction i with
  | zero => intro n _; rfl
  | succ i ih =>
    intro n h
    show upd (zk_cl cl i) i 0 n = cl n
    rw [pk_un (by omega)]; exact ih n (by omega)
def zk_n : Nat → Nat
  | 1 => 0
  | 11 => 0
  | 2 => 1
  | 7 => 1
  | _ => 2
def zk_ss (k S : Nat) (ss : Nat → Int32) : Nat → Int32 := match k with
  | 1 => ss
  | 11 => ss
  | 2 => upd ss S 2
  | 7 => upd ss S 2
  | 3 => upd (upd ss S 1) (S + 1) 1
  | 4 => upd (upd ss S 1) (S + 1) 1
  | 5 => upd (upd ss S 1) (S + 1) 1
  | 6 => upd (upd ss S 2) (S + 1) 1
  | _ => upd (upd ss S 2) (S + 1) 2
def zk_so (k S : Nat) (o : Int32) (so : Nat → Int32) : Nat → Int32 := match k with
  | 1 => so
  | 11 => so
  | 2 => upd so S o
  | 7 => upd so S (o + 1)
  | 6 => upd (upd so S (o - 1)) (S + 1) o
  | _ => upd (upd so S o) (S + 1) o
def zk_sp (k S : Nat) (c : Int32) (sp : Nat → Int32) : Nat → Int32 := match k with
  | 1 => sp
  | 11 => sp
  | 2 => upd sp S c
  | 7 => upd sp S c
  | _ => upd (upd sp S c) (S + 1) c
def zk_a (k : Nat) (a : Int32) : Int32 := if k = 1 then a else if k = 11 then a else 0
theorem zk_c {k : Nat} (h1 : 1 ≤ k) (h : k ≤ 11) : k = 1 ∨ k = 2 ∨ k = 3 ∨ k = 4 ∨ k = 5 ∨ k = 6 ∨ k = 7 ∨ k = 8 ∨ k = 9 ∨ k = 10 ∨ k = 11 := by omega
theorem zk_len {k c : Nat} {t : List (Nat × Bool)} (h1 : 1 ≤ k) (h : k ≤ 11) : (zs_kids (nI k) c ++ t).length = t.length + zk_n k := by
  rcases zk_c h1 h with rfl | rfl | rfl | rfl | rfl | rfl | rfl | rfl | rfl | rfl | rfl <;> rfl
theorem zk_st {K O so sp : Nat → Int32} {r k c S : Nat} {o : Int32} {t : List (Nat × Bool)} (h1 : 1 ≤ k) (h : k ≤ 11) (hr : r ≤ c) (hK : K c = nI k) (hO : O c = o) (hS : S = t.length)
    (hst : zs_st (fun i x => sp i = nI x.1 ∧ so i = zs_so K O r x) t) :
    zs_st (fun i x => zk_sp k S (nI c) sp i = nI x.1 ∧ zk_so k S o so i = zs_so K O r x) (zs_kids (nI k) c ++ t) := by
  have hx : ∀ b, ¬ nI k = 7 → ¬ nI k = 6 → o = zs_so K O r (c, b) := fun b a1 a2 => by rw [zo_x hr (by rw [hK]; exact a1) (by rw [hK]; exact a2)]; exact hO.symm
  rcases zk_c h1 h with rfl | rfl | rfl | rfl | rfl | rfl | rfl | rfl | rfl | rfl | rfl
  · exact hst
  · exact zs_st_push (q := fun x y z => x = nI z.1 ∧ y = zs_so K O r z) (a := sp) (b := so) hS ⟨rfl, hx true (by decide) (by decide)⟩ hst
  · exact zs_st_push (q := fun x y z => x = nI z.1 ∧ y = zs_so K O r z) (n := S + 1) (s := (c, true)) (by rw [hS]; rfl) ⟨rfl, hx true (by decide) (by decide)⟩ (zs_st_push (q := fun x y z => x = nI z.1 ∧ y = zs_so K O r z) (a := sp) (b := so) (s := (c, false)) hS ⟨rfl, hx false (by decide) (by decide)⟩ hst)
  · exact zs_st_push (q := fun x y z => x = nI z.1 ∧ y = zs_so K O r z) (n := S + 1) (s := (c, true)) (by rw [hS]; rfl) ⟨rfl, hx true (by decide) (by decide)⟩ (zs_st_push (q := fun x y z => x = nI z.1 ∧ y = zs_so K O r z) (a := sp) (b := so) (s := (c, false)) hS ⟨rfl, hx false (by decide) (by decide)⟩ hst)
  · exact zs_st_push (q := fun x y z => x = nI z.1 ∧ y = zs_so K O r z) (n := S + 1) (s := (c, true)) (by rw [hS]; rfl) ⟨rfl, hx true (by decide) (by decide)⟩ (zs_st_push (q := fun x y z => x = nI z.1 ∧ y = zs_so K O r z) (a := sp) (b := so) (s := (c, false)) hS ⟨rfl, hx false (by decide) (by decide)⟩ hst)
  · exact zs_st_push (q := fun x y z => x = nI z.1 ∧ y = zs_so K O r z) (n := S + 1) (s := (c, true)) (by rw [hS]; rfl) ⟨rfl, by rw [zo_6t hr hK, hO]⟩ (zs_st_push (q := fun x y z => x = nI z.1 ∧ y = zs_so K O r z) (a := sp) (b := so) (s := (c, false)) hS ⟨rfl, by rw [zo_6f hr hK, hO]⟩ hst)
  · exact zs_st_push (q := fun x y z => x = nI z.1 ∧ y = zs_so K O r z) (a := sp) (b := so) hS ⟨rfl, by rw [zo_7 hr hK, hO]⟩ hst
  · exact zs_st_push (q := fun x y z => x = nI z.1 ∧ y = zs_so K O r z) (n := S + 1) (s := (c, true)) (by rw [hS]; rfl) ⟨rfl, hx true (by decide) (by decide)⟩ (zs_st_push (q := fun x y z => x = nI z.1 ∧ y = zs_so K O r z) (a := sp) (b := so) (s := (c, false)) hS ⟨rfl, hx false (by decide) (by decide)⟩ hst)
  · exact zs_st_push (q := fun x y z => x = nI z.1 ∧ y = zs_so K O r z) (n := S + 1) (s := (c, true)) (by rw [hS]; rfl) ⟨rfl, hx true (by decide) (by decide)⟩ (zs_st_push (q := fun x y z => x = nI z.1 ∧ y = zs_so K O r z) (a := sp) (b := so) (s := (c, false)) hS ⟨rfl, hx false (by decide) (by decide)⟩ hst)
  · exact zs_st_push (q := fun x y z => x = nI z.1 ∧ y = zs_so K O r z) (n := S + 1) (s := (c, true)) (by rw [hS]; rfl) ⟨rfl, hx true (by decide) (by decide)⟩ (zs_st_push (q := fun x y z => x = nI z.1 ∧ y = zs_so K O r z) (a := sp) (b := so) (s := (c, false)) hS ⟨rfl, hx false (by decide) (by decide)⟩ hst)
  · exact hst
section Z8
variable {N C U S : Nat} {op lv fn fi pl yne ysp yvsp ypn : Int32}
variable {K A Ow O P L cl rt en ss so sp ds ww lw vi vv ps pv pt yef yet yew yb ynb yv yx ysv ysi yvs ymo ymv yip ypN ypI : Nat → Int32}
variable {R E : Nat → Nat}
theorem zx_reset {post : SX → Prop} (hp : post ((nI N), (nI C), (nI U), (-1), 0, pl, 0, (-1), (-1), K, A, Ow, O, P, L, (zk_cl cl 8), rt, en, ss, so, sp, ww, lw, vi, vv, ps, pv, pt)) :
    ∀ d i, i + d = 8 → wX_reset_7 post (nI N) (nI C) (nI U) op (nI S) pl lv fn fi (d + 1) (nI i) K A Ow O P L (zk_cl cl i) rt en ss so sp ww lw vi vv ps pv pt := by
  intro d
  induction d with
  | zero => intro i hi; obtain rfl : i = 8 := by omega
            exact br_t (by decide) hp
  | succ d ih => intro i hi; exact br_f (nI_ge (b := 8) (by omega) (by decide)) ⟨vp_in_nI (by omega) (by omega), nm_r (e' := zk_cl cl (i + 1)) (by rw [nI_clamp (by omega), zb_0]; rfl) (nm_r (nI_1 i) (ih (i + 1) (by omega)))⟩
theorem zy_reset {post : SY → Prop} (hp : post ((nI N), (nI C), (nI U), op, (nI S), yne, ysp, yvsp, ypn, 0, (-1), (-1), K, A, (zk_cl cl 8), ds, en, ss, yef, yet, yew, yb, ynb, yv, yx, ysv, ysi, yvs, ymo, ymv, yip, ypN, ypI)) :
    ∀ d i, i + d = 8 → wY_reset_17 post (nI N) (nI C) (nI U) op (nI S) yne ysp yvsp ypn lv fn fi (d + 1) (nI i) K A (zk_cl cl i) ds en ss yef yet yew yb ynb yv yx ysv ysi yvs ymo ymv yip ypN ypI := by
  intro d
  induction d with
  | zero => intro i hi; obtain rfl : i = 8 := by omega
            exact br_t (by decide) hp
  | succ d ih => intro i hi; exact br_f (nI_ge (b := 8) (by omega) (by decide)) ⟨vp_in_nI (by omega) (by omega), nm_r (e' := zk_cl cl (i + 1)) (by rw [nI_clamp (by omega), zb_0]; rfl) (nm_r (nI_1 i) (ih (i + 1) (by omega)))⟩
theorem i_vc_reset {k : Nat} {u : SX} {v : SY} (I : i_Rel k u v) (hk : k + 3 ≤ 1538) : wpX_reset (fun u' => wpY_reset (fun v' => i_Rel (k + 3) u' v') v) u := by
  obtain ⟨N, C, U, S, op, lv, fn, fi, K, A, Ow, O, P, L, cl, rt, en, ss, so, sp, ds, R, E, pl, ww, lw, vi, vv, ps, pv, pt, yne, ysp, yvsp, ypn, yef, yet, yew, yb, ynb, yv, yx, ysv, ysi, yvs, ymo, ymv, yip, ypN, ypI, rfl, rfl, hR, hD, hE, h⟩ := I
  refine ⟨_, zx_reset (U := 0) ?_ 8 0 rfl⟩
  refine ⟨_, zy_reset (U := 0) (S := 0) ?_ 8 0 rfl⟩
  refine zr_mk (U := 0) (S := 0) hR hD hE (zi_reset h (fun n hn => zk_cl_lo 8 n hn) (fun n => ?_))
  by_cases hn : n < 8
  · exact Or.inl (zk_cl_lo 8 n hn)
  · rw [zk_cl_hi 8 n (by omega)]; exact h.2.1 n
theorem zx_append {post : SX → Prop} {x y : Int32} (hU : U < 96) (hp : post ((nI N), (nI C), (nI (U + 1)), op, (nI S), pl, lv, fn, fi, (upd K U x), (upd A U y), (upd Ow U op), O, P, L, cl, rt, en, ss, so, sp, ww, lw, vi, vv, ps, pv, pt)) : wpX_appendCell post ((nI N), (nI C), (nI U), op, (nI S), pl, lv, fn, fi, K, A, Ow, O, P, L, cl, rt, en, ss, so, sp, ww, lw, vi, vv, ps, pv, pt) x y := by
  have e : (nI U).toNatClampNeg = U := nI_clamp (by omega)
  have hin : vp_in (nI U) 96 := vp_in_nI hU (by omega)
  exact ⟨hin, nm_r (by rw [e]) ⟨hin, nm_r (by rw [e]) ⟨hin, nm_r (by rw [e]) (nm_r (nI_1 U) hp)⟩⟩⟩
theorem zx_put {post : SX → Prop} {x y z : Int32} (hS : S < 96) (hp : post ((nI N), (nI C), (nI U), op, (nI (S + 1)), pl, lv, fn, fi, K, A, Ow, O, P, L, cl, rt, en, (upd ss S x), (upd so S y), (upd sp S z), ww, lw, vi, vv, ps, pv, pt)) : wpX_putSlot post ((nI N), (nI C), (nI U), op, (nI S), pl, lv, fn, fi, K, A, Ow, O, P, L, cl, rt, en, ss, so, sp, ww, lw, vi, vv, ps, pv, pt) x y z := by
  have e : (nI S).toNatClampNeg = S := nI_clamp (by omega)
  have hin : vp_in (nI S) 96 := vp_in_nI hS (by omega)
  exact ⟨hin, nm_r (by rw [e]) ⟨hin, nm_r (by rw [e]) ⟨hin, nm_r (by rw [e]) (nm_r (nI_1 S) hp)⟩⟩⟩
theorem i_vc_begin {k : Nat} {u : SX} {v : SY} (I : i_Rel k u v) (hk : k + 3 ≤ 1538) (v1 : Int32) : wpX_begin (fun r u' => wpY_begin (fun r' v' => r' = r ∧ i_Rel (k + 3) u' v') v v1) u v1 := by
  have J := i_up I
  obtain ⟨N, C, U, S, op, lv, fn, fi, K, A, Ow, O, P, L, cl, rt, en, ss, so, sp, ds, R, E, pl, ww, lw, vi, vv, ps, pv, pt, yne, ysp, yvsp, ypn, yef, yet, yew, yb, ynb, yv, yx, ysv, ysi, yvs, ymo, ymv, yip, ypN, ypI, rfl, rfl, hR, hD, hE, h⟩ := I
  have hb := h.1
  have ho := h.2.2.2.2.2.2
  rcases ho with ⟨rfl, rfl⟩ | ⟨o, h1, rfl, _⟩
  · refine br_t rfl ?_
    by_cases hv : v1 < 0 ∨ nI N ≤ v1
    · refine zx_nm0 hv (br_t rfl (br_f (by decide) ?_))
      by_cases h0 : v1 < 0
      · exact br_t h0 ⟨rfl, J⟩
      · exact br_f h0 (br_t (hv.resolve_left h0) ⟨rfl, J⟩)
    · obtain ⟨j, hj, rfl⟩ : ∃ j : Nat, j < N ∧ v1 = nI j := by
        rcases pk_ix v1 (n := N) (by omega) with h | h | h
        · exact absurd (Or.inl h) hv
        · exact absurd (Or.inr h) hv
        · exact h
      have hin : vp_in (nI j) 8 := vp_in_nI (by omega) (by omega)
      have ej : (nI j).toNatClampNeg = j := nI_clamp (by omega)
      have hj0 : ¬ nI j < 0 := nI_pos (by omega)
      have hjN : ¬ nI N ≤ nI j := nI_ge hj (by omega)
      refine zx_nm1 hj (by omega) (br_f zn_10 ⟨hin, ?_⟩)
      by_cases hc : cl (nI j).toNatClampNeg = 0
      · refine br_t hc ?_
        by_cases hU : U < C
        · have eU : (nI U).toNatClampNeg = U := nI_clamp (by omega)
          have hU96 : vp_in (nI U) 96 := vp_in_nI (by omega) (by omega)
          refine br_t (nI_lt hU (by omega)) (zx_append (by omega) ⟨hin, nm_r (by rw [ej]) (zx_put (S := 0) (by omega) ?_)⟩)
          refine br_f (by decide) (br_f hj0 (br_f hjN ⟨hin, br_t hc (br_f (fun z => absurd (zn_im z (by omega) (by omega)) (by omega)) ⟨hU96, nm_r (by rw [eU]) ⟨hU96, nm_r (by rw [eU]) ⟨hin, nm_r (by rw [ej]) (nm_r (nI_1 U) (nm_e ?_))⟩⟩⟩)⟩))
          rw [ej] at hc
          refine ⟨rfl, zr_mk (U := U + 1) (S := 1) (zi_upd hR) (fun n => ?_) hE (zi_begin h hj hc hU)⟩
          by_cases e : n = j
          · rw [e, pk_us, zi_uns]; rfl
          · rw [pk_un e, zi_unn e]; exact hD n
        · have eq : U = C := by omega
          refine br_f (nI_nlt (by omega) (by omega)) (br_f (by decide) (br_f hj0 (br_f hjN ⟨hin, br_t hc (br_t (by rw [eq]) ⟨rfl, J⟩)⟩)))
      · exact br_f hc (br_f (by decide) (br_f hj0 (br_f hjN ⟨hin, br_f hc ⟨rfl, J⟩⟩)))
  · exact br_f (zn_ne1 (by omega)) (br_t (nI_pos' (by omega)) ⟨rfl, J⟩)
theorem zx_fill {post : SX → Prop} {p c : Nat} {o : Int32} (hS : S < 96) (hp' : sp S = nI p) (ho : so S = o) (hp96 : p < 96) (hc : c < 96)
    (hp : post ((nI N), (nI C), (nI U), op, (nI S), pl, lv, fn, fi, K, A, Ow, (upd O c o), (upd P c (nI p)), (upd L p (nI c)), cl, rt, en, ss, so, sp, ww, lw, vi, vv, ps, pv, pt)) : wpX_fillNextSlot post ((nI N), (nI C), (nI U), op, (nI (S + 1)), pl, lv, fn, fi, K, A, Ow, O, P, L, cl, rt, en, ss, so, sp, ww, lw, vi, vv, ps, pv, pt) (nI c) := by
  have e : (nI S).toNatClampNeg = S := nI_clamp (by omega)
  have ec : (nI c).toNatClampNeg = c := nI_clamp (by omega)
  have ep : (nI p).toNatClampNeg = p := nI_clamp (by omega)
  have hin : vp_in (nI S) 96 := vp_in_nI hS (by omega)
  have hic : vp_in (nI c) 96 := vp_in_nI hc (by omega)
  have hip : vp_in (nI p) 96 := vp_in_nI hp96 (by omega)
  exact nm_r (nI_pred S) ⟨hin, nm_r (by rw [e, hp']) ⟨hin, hic, nm_r (by rw [e, ec, ho]) ⟨hic, nm_r (by rw [ec]) ⟨hip, nm_r (by rw [ep]) hp⟩⟩⟩⟩
theorem zx_kids {post : SX → Prop} {k c : Nat} {o : Int32} (h1 : 1 ≤ k) (h : k ≤ 11) (hc : c < 96) (hK : K c = nI k) (hO : O c = o) (hS : S + 2 ≤ 96)
    (hp : post ((nI N), (nI C), (nI U), op, (nI (S + zk_n k)), pl, lv, fn, fi, K, A, Ow, O, P, L, cl, rt, en, (zk_ss k S ss), (zk_so k S o so), (zk_sp k S (nI c) sp), ww, lw, vi, vv, ps, pv, pt)) : wpX_putChildSlots post ((nI N), (nI C), (nI U), op, (nI S), pl, lv, fn, fi, K, A, Ow, O, P, L, cl, rt, en, ss, so, sp, ww, lw, vi, vv, ps, pv, pt) (nI c) := by
  have ec : (nI c).toNatClampNeg = c := nI_clamp (by omega)
  have hic : vp_in (nI c) 96 := vp_in_nI hc (by omega)
  rcases zk_c h1 h with rfl | rfl | rfl | rfl | rfl | rfl | rfl | rfl | rfl | rfl | rfl
  · exact ⟨hic, nm_r (by rw [ec, hO]) ⟨hic, nm_r (e' := nI 1) (by rw [ec, hK]) (br_t (by decide) (hp))⟩⟩
  · exact ⟨hic, nm_r (by rw [ec, hO]) ⟨hic, nm_r (e' := nI 2) (by rw [ec, hK]) (br_f (by decide) (br_f (by decide) (br_t (by decide) (zx_put (by omega) hp))))⟩⟩
  · exact ⟨hic, nm_r (by rw [ec, hO]) ⟨hic, nm_r (e' := nI 3) (by rw [ec, hK]) (br_f (by decide) (br_f (by decide) (br_f (by decide) (br_t (by decide) (zx_put (by omega) (zx_put (by omega) hp))))))⟩⟩
  · exact ⟨hic, nm_r (by rw [ec, hO]) ⟨hic, nm_r (e' := nI 4) (by rw [ec, hK]) (br_f (by decide) (br_f (by decide) (br_f (by decide) (br_f (by decide) (br_t (by decide) (zx_put (by omega) (zx_put (by omega) hp)))))))⟩⟩
  · exact ⟨hic, nm_r (by rw [ec, hO]) ⟨hic, nm_r (e' := nI 5) (by rw [ec, hK]) (br_f (by decide) (br_f (by decide) (br_f (by decide) (br_f (by decide) (br_f (by decide) (br_t (by decide) (zx_put (by omega) (zx_put (by omega) hp))))))))⟩⟩
  · exact ⟨hic, nm_r (by rw [ec, hO]) ⟨hic, nm_r (e' := nI 6) (by rw [ec, hK]) (br_f (by decide) (br_f (by decide) (br_f (by decide) (br_f (by decide) (br_f (by decide) (br_f (by decide) (br_t (by decide) (zx_put (by omega) (zx_put (by omega) hp)))))))))⟩⟩
  · exact ⟨hic, nm_r (by rw [ec, hO]) ⟨hic, nm_r (e' := nI 7) (by rw [ec, hK]) (br_f (by decide) (br_f (by decide) (br_f (by decide) (br_f (by decide) (br_f (by decide) (br_f (by decide) (br_f (by decide) (br_t (by decide) (zx_put (by omega) hp)))))))))⟩⟩
  · exact ⟨hic, nm_r (by rw [ec, hO]) ⟨hic, nm_r (e' := nI 8) (by rw [ec, hK]) (br_f (by decide) (br_f (by decide) (br_f (by decide) (br_f (by decide) (br_f (by decide) (br_f (by decide) (br_f (by decide) (br_f (by decide) (br_t (by decide) (zx_put (by omega) (zx_put (by omega) hp)))))))))))⟩⟩
  · exact ⟨hic, nm_r (by rw [ec, hO]) ⟨hic, nm_r (e' := nI 9) (by rw [ec, hK]) (br_f (by decide) (br_f (by decide) (br_f (by decide) (br_f (by decide) (br_f (by decide) (br_f (by decide) (br_f (by decide) (br_f (by decide) (br_f (by decide) (br_t (by decide) (zx_put (by omega) (zx_put (by omega) hp))))))))))))⟩⟩
  · exact ⟨hic, nm_r (by rw [ec, hO]) ⟨hic, nm_r (e' := nI 10) (by rw [ec, hK]) (br_f (by decide) (br_f (by decide) (br_f (by decide) (br_f (by decide) (br_f (by decide) (br_f (by decide) (br_f (by decide) (br_f (by decide) (br_f (by decide) (br_f (by decide) (br_t (by decide) (zx_put (by omega) (zx_put (by omega) hp)))))))))))))⟩⟩
  · exact ⟨hic, nm_r (by rw [ec, hO]) ⟨hic, nm_r (e' := nI 11) (by rw [ec, hK]) (br_f (by decide) (br_t (by decide) (hp)))⟩⟩
theorem zx_62 {post : Int32 → SX → Prop} {k p o' : Nat} {a o : Int32} (h1 : 1 ≤ k) (h : k ≤ 11) (hU : U < 96) (ho' : o' < 8) (hS : S + 2 ≤ 96) (hp' : sp S = nI p) (ho : so S = o) (hp96 : p < 96)
    (hz : S + zk_n k = 0 → post 1 ((nI N), (nI C), (nI (U + 1)), (-1), (nI (S + zk_n k)), pl, lv, fn, fi, (upd K U (nI k)), (upd A U a), (upd Ow U (nI o')), (upd O U o), (upd P U (nI p)), (upd L p (nI U)), (upd cl o' 1), rt, (upd en o' (nI (U + 1))), (zk_ss k S ss), (zk_so k S o so), (zk_sp k S (nI U) sp), ww, lw, vi, vv, ps, pv, pt))
    (hn : S + zk_n k ≠ 0 → post 1 ((nI N), (nI C), (nI (U + 1)), (nI o'), (nI (S + zk_n k)), pl, lv, fn, fi, (upd K U (nI k)), (upd A U a), (upd Ow U (nI o')), (upd O U o), (upd P U (nI p)), (upd L p (nI U)), cl, rt, en, (zk_ss k S ss), (zk_so k S o so), (zk_sp k S (nI U) sp), ww, lw, vi, vv, ps, pv, pt)) :
    wX_token_62 post (nI U) a (nI k) (nI N) (nI C) (nI U) (nI o') (nI (S + 1)) pl lv fn fi K A Ow O P L cl rt en ss so sp ww lw vi vv ps pv pt := by
  have hn2 : zk_n k ≤ 2 := by rcases zk_c h1 h with rfl | rfl | rfl | rfl | rfl | rfl | rfl | rfl | rfl | rfl | rfl <;> decide
  unfold wX_token_62
  refine zx_append hU (zx_fill (by omega) hp' ho hp96 hU (zx_kids h1 h hU pk_us pk_us hS ?_))
  by_cases hz0 : S + zk_n k = 0
  · refine br_t (by rw [hz0]; rfl) ?_
    have e : (nI o').toNatClampNeg = o' := nI_clamp (by omega)
    have hin : vp_in (nI o') 8 := vp_in_nI ho' (by omega)
    exact ⟨hin, nm_r (by rw [e, zb_1]) ⟨hin, nm_r (by rw [e]) (hz hz0)⟩⟩
  · exact br_f (nI_ne0 (by omega) (by omega)) (hn hz0)
theorem zx_26 {post : Int32 → SX → Prop} {k : Nat} {a : Int32} (h : k ≤ 11) (hU : U < C) (hC : C ≤ 96) (hp : wX_token_62 post (nI U) (zk_a k a) (nI k) (nI N) (nI C) (nI U) op (nI S) pl lv fn fi K A Ow O P L cl rt en ss so sp ww lw vi vv ps pv pt) : wX_token_26 post (nI k) a (nI N) (nI C) (nI U) op (nI S) pl lv fn fi K A Ow O P L cl rt en ss so sp ww lw vi vv ps pv pt := by
  refine br_t (nI_lt hU (by omega)) ?_
  unfold zk_a at hp
  by_cases e1 : k = 1
  · rw [if_pos e1] at hp
    exact br_t (by rw [e1]; rfl) hp
  · rw [if_neg e1] at hp
    refine br_f (fun z => e1 (zn_im (b := 1) z (by omega) (by omega))) ?_
    by_cases e2 : k = 11
    · rw [if_pos e2] at hp
      exact br_t (by rw [e2]; rfl) hp
    · rw [if_neg e2] at hp
      exact br_f (fun z => e2 (zn_im (b := 11) z (by omega) (by omega))) hp
theorem zy_pushS {post : SY → Prop} {x : Int32} (hS : S < 100) (hp : post ((nI N), (nI C), (nI U), op, (nI (S + 1)), yne, ysp, yvsp, ypn, lv, fn, fi, K, A, cl, ds, en, (upd ss S x), yef, yet, yew, yb, ynb, yv, yx, ysv, ysi, yvs, ymo, ymv, yip, ypN, ypI)) : wpY_pushSlot post ((nI N), (nI C), (nI U), op, (nI S), yne, ysp, yvsp, ypn, lv, fn, fi, K, A, cl, ds, en, ss, yef, yet, yew, yb, ynb, yv, yx, ysv, ysi, yvs, ymo, ymv, yip, ypN, ypI) x := by
  have e : (nI S).toNatClampNeg = S := nI_clamp (by omega)
  exact br_f (nI_ge (b := 100) hS (by decide)) ⟨vp_in_nI hS (by omega), nm_r (by rw [e]) (nm_r (nI_1 S) hp)⟩
theorem zy_122 {post : Int32 → SY → Prop} {k : Nat} {a : Int32} (h1 : 1 ≤ k) (h : k ≤ 11) (hU : U < 96) (hS : S + 2 ≤ 96)
    (hp : wY_token_231 post (nI N) (nI C) (nI (U + 1)) op (nI (S + zk_n k)) yne ysp yvsp ypn lv fn fi K (upd A U a) cl ds en (zk_ss k S ss) yef yet yew yb ynb yv yx ysv ysi yvs ymo ymv yip ypN ypI) : wY_token_122 post (nI k) a (nI U) (nI N) (nI C) (nI U) op (nI (S + 1)) yne ysp yvsp ypn lv fn fi K A cl ds en ss yef yet yew yb ynb yv yx ysv ysi yvs ymo ymv yip ypN ypI := by
  have e : (nI U).toNatClampNeg = U := nI_clamp (by omega)
  refine ⟨vp_in_nI hU (by omega), nm_r (e' := upd A U a) (by rw [e]) (nm_r (nI_1 U) (nm_r (nI_pred S) ?_))⟩
  rcases zk_c h1 h with rfl | rfl | rfl | rfl | rfl | rfl | rfl | rfl | rfl | rfl | rfl
  · exact br_f (by decide) (br_f (by decide) (br_f (by decide) (br_f (by decide) (br_f (by decide) (br_f (by decide) (br_t (by decide) (hp)))))))
  · exact br_t (by decide) (zy_pushS (by omega) hp)
  · exact br_f (by decide) (br_f (by decide) (br_t (by decide) (zy_pushS (by omega) (zy_pushS (by omega) hp))))
  · exact br_f (by decide) (br_f (by decide) (br_f (by decide) (br_t (by decide) (zy_pushS (by omega) (zy_pushS (by omega) hp)))))
  · exact br_f (by decide) (br_f (by decide) (br_f (by decide) (br_f (by decide) (br_t (by decide) (zy_pushS (by omega) (zy_pushS (by omega) hp))))))
  · exact br_f (by decide) (br_f (by decide) (br_f (by decide) (br_f (by decide) (br_f (by decide) (br_t (by decide) (zy_pushS (by omega) (zy_pushS (by omega) hp)))))))
  · exact br_f (by decide) (br_t (by decide) (zy_pushS (by omega) hp))
  · exact br_f (by decide) (br_f (by decide) (br_f (by decide) (br_f (by decide) (br_f (by decide) (br_f (by decide) (br_f (by decide) (br_f (by decide) (zy_pushS (by omega) (zy_pushS (by omega) hp)))))))))
  · exact br_f (by decide) (br_f (by decide) (br_f (by decide) (br_f (by decide) (br_f (by decide) (br_f (by decide) (br_f (by decide) (br_f (by decide) (zy_pushS (by omega) (zy_pushS (by omega) hp)))))))))
  · exact br_f (by decide) (br_f (by decide) (br_f (by decide) (br_f (by decide) (br_f (by decide) (br_f (by decide) (br_f (by decide) (br_f (by decide) (zy_pushS (by omega) (zy_pushS (by omega) hp)))))))))
  · exact br_f (by decide) (br_f (by decide) (br_f (by decide) (br_f (by decide) (br_f (by decide) (br_f (by decide) (br_f (by decide) (br_t (by decide) (hp))))))))
theorem zy_75 {post : Int32 → SY → Prop} {k : Nat} {a : Int32} (h : k ≤ 11) (hU : U < C) (hC : C ≤ 96) (hp : wY_token_122 post (nI k) (zk_a k a) (nI U) (nI N) (nI C) (nI U) op (nI S) yne ysp yvsp ypn lv fn fi (upd K U (nI k)) A cl ds en ss yef yet yew yb ynb yv yx ysv ysi yvs ymo ymv yip ypN ypI) : wY_token_75 post (nI k) a (nI N) (nI C) (nI U) op (nI S) yne ysp yvsp ypn lv fn fi K A cl ds en ss yef yet yew yb ynb yv yx ysv ysi yvs ymo ymv yip ypN ypI := by
  have e : (nI U).toNatClampNeg = U := nI_clamp (by omega)
  refine br_f (fun z => absurd (zn_im z (by omega) (by omega)) (by omega)) ⟨vp_in_nI (by omega) (by omega), nm_r (e' := upd K U (nI k)) (by rw [e]) ?_⟩
  unfold zk_a at hp
  by_cases e1 : k = 1
  · rw [if_pos e1] at hp
    exact br_t (by rw [e1]; rfl) hp
  · rw [if_neg e1] at hp
    refine br_f (fun z => e1 (zn_im (b := 1) z (by omega) (by omega))) ?_
    by_cases e2 : k = 11
    · rw [if_pos e2] at hp
      exact br_t (by rw [e2]; rfl) hp
    · rw [if_neg e2] at hp
      exact br_f (fun z => e2 (zn_im (b := 11) z (by omega) (by omega))) hp
def zk_srt (k : Nat) : Int32 := if 5 < k then 2 else 1
theorem zx_fits {post : Int32 → Prop} {k : Nat} (h1 : 1 ≤ k) (h : k ≤ 11) (hS : S + 1 ≤ 96) (hy : zk_srt k = ss S → post 1) (hn : ¬ zk_srt k = ss S → post 0) : wpX_fitsNextSlot post ((nI N), (nI C), (nI U), op, (nI (S + 1)), pl, lv, fn, fi, K, A, Ow, O, P, L, cl, rt, en, ss, so, sp, ww, lw, vi, vv, ps, pv, pt) (nI k) := by
  have e : nI (S + 1) - 1 = nI S := nI_pred S
  have ec : (nI S).toNatClampNeg = S := nI_clamp (by omega)
  have hin : vp_in (nI (S + 1) - 1) 96 := by rw [e]; exact vp_in_nI (by omega) (by omega)
  refine br_f (nI_nlt (b := 1) (by omega) (by omega)) (br_f (nI_nlt (a := 11) (by omega) (by decide)) (br_f (nI_ne0 (by omega) (by omega)) ?_))
  unfold zk_srt at hy hn
  by_cases h5 : 5 < k
  · rw [if_pos h5] at hy hn
    refine br_t (nI_lt (a := 5) h5 (by omega)) ⟨hin, ?_⟩
    rw [e, ec]
    exact br_c hy hn
  · rw [if_neg h5] at hy hn
    refine br_f (nI_nlt (a := 5) (by omega) (by decide)) ⟨hin, ?_⟩
    rw [e, ec]
    exact br_c hy hn
theorem zy_tk {post : Int32 → SY → Prop} {k o : Nat} {a : Int32} (h1 : 1 ≤ k) (h : k ≤ 11) (ho : o < 8) (hN : N ≤ 8) (hS : S + 1 ≤ 96) (hn : ¬ zk_srt k = ss S → post 0 ((nI N), (nI C), (nI U), (nI o), (nI (S + 1)), yne, ysp, yvsp, ypn, lv, fn, fi, K, A, cl, ds, en, ss, yef, yet, yew, yb, ynb, yv, yx, ysv, ysi, yvs, ymo, ymv, yip, ypN, ypI))
    (hb : zk_srt k = ss S → k = 11 → (a < 0 ∨ nI N ≤ a) → post 0 ((nI N), (nI C), (nI U), (nI o), (nI (S + 1)), yne, ysp, yvsp, ypn, lv, fn, fi, K, A, cl, ds, en, ss, yef, yet, yew, yb, ynb, yv, yx, ysv, ysi, yvs, ymo, ymv, yip, ypN, ypI))
    (hy : zk_srt k = ss S → (k = 11 → ∃ m, m < N ∧ a = nI m) → wY_token_75 post (nI k) a (nI N) (nI C) (nI U) (nI o) (nI (S + 1)) yne ysp yvsp ypn lv fn fi K A cl ds en ss yef yet yew yb ynb yv yx ysv ysi yvs ymo ymv yip ypN ypI) : wpY_token post ((nI N), (nI C), (nI U), (nI o), (nI (S + 1)), yne, ysp, yvsp, ypn, lv, fn, fi, K, A, cl, ds, en, ss, yef, yet, yew, yb, ynb, yv, yx, ysv, ysi, yvs, ymo, ymv, yip, ypN, ypI) (nI k) a := by
  have e : nI (S + 1) - 1 = nI S := nI_pred S
  have ec : (nI S).toNatClampNeg = S := nI_clamp (by omega)
  have hin : vp_in (nI (S + 1) - 1) 100 := by rw [e]; exact vp_in_nI (by omega) (by omega)
  have go : ∀ z0 : Int32, zk_srt k = z0 → wY_token_30 post (nI k) a z0 (nI N) (nI C) (nI U) (nI o) (nI (S + 1)) yne ysp yvsp ypn lv fn fi K A cl ds en ss yef yet yew yb ynb yv yx ysv ysi yvs ymo ymv yip ypN ypI := by
    intro z0 hz
    refine br_f (nI_nle (by omega) (by omega)) ⟨hin, ?_⟩
    rw [e, ec]
    by_cases hs : ss S = z0
    · refine br_t hs ?_
      have hs' : zk_srt k = ss S := hz.trans hs.symm
      by_cases h11 : k = 11
      · refine br_t (by rw [h11]; rfl) ?_
        rcases pk_ix a (n := N) (by omega) with hx | hx | ⟨m, hm, em⟩
        · exact br_t hx (hb hs' h11 (Or.inl hx))
        · by_cases h0 : a < 0
          · exact br_t h0 (hb hs' h11 (Or.inl h0))
          · exact br_f h0 (br_f (Int32.not_lt.mpr hx) (hb hs' h11 (Or.inr hx)))
        · refine br_f (by rw [em]; exact nI_pos (by omega)) (br_t (by rw [em]; exact nI_lt hm (by omega)) (hy hs' (fun _ => ⟨m, hm, em⟩)))
      · exact br_f (fun z => h11 (zn_im (b := 11) z (by omega) (by omega))) (hy hs' (fun z => absurd z h11))
    · exact br_f hs (hn (fun z => hs (z.symm.trans hz)))
  refine br_f (nI_nlt (b := 1) (by omega) (by omega)) (br_f (nI_nlt (a := 11) (by omega) (by decide)) (br_t (nI_pos' (by omega)) ?_))
  by_cases h5 : 5 < k
  · exact br_t (nI_lt (a := 5) h5 (by omega)) (go 2 (by unfold zk_srt; rw [if_pos h5]))
  · exact br_f (nI_nlt (a := 5) (by omega) (by decide)) (go 1 (by unfold zk_srt; rw [if_neg h5]))
theorem zx_tk {post : Int32 → SX → Prop} {k o : Nat} {a : Int32} (h1 : 1 ≤ k) (h : k ≤ 11) (ho : o < 8) (hN : N ≤ 8) (hS : S + 1 ≤ 96) (hn : ¬ zk_srt k = ss S → post 0 ((nI N), (nI C), (nI U), (nI o), (nI (S + 1)), pl, lv, fn, fi, K, A, Ow, O, P, L, cl, rt, en, ss, so, sp, ww, lw, vi, vv, ps, pv, pt))
    (hb : zk_srt k = ss S → k = 11 → (a < 0 ∨ nI N ≤ a) → post 0 ((nI N), (nI C), (nI U), (nI o), (nI (S + 1)), pl, lv, fn, fi, K, A, Ow, O, P, L, cl, rt, en, ss, so, sp, ww, lw, vi, vv, ps, pv, pt))
    (hy : zk_srt k = ss S → (k = 11 → ∃ m, m < N ∧ a = nI m) → wX_token_26 post (nI k) a (nI N) (nI C) (nI U) (nI o) (nI (S + 1)) pl lv fn fi K A Ow O P L cl rt en ss so sp ww lw vi vv ps pv pt) : wpX_token post ((nI N), (nI C), (nI U), (nI o), (nI (S + 1)), pl, lv, fn, fi, K, A, Ow, O, P, L, cl, rt, en, ss, so, sp, ww, lw, vi, vv, ps, pv, pt) (nI k) a := by
  unfold wpX_token
  refine zx_fits h1 h hS (fun hs => br_f zn_10 ?_) (fun hs => br_t rfl (hn hs))
  by_cases h11 : k = 11
  · refine br_t (by rw [h11]; rfl) ?_
    by_cases hv : a < 0 ∨ nI N ≤ a
    · exact zx_nm0 hv (br_t rfl (hb hs h11 hv))
    · obtain ⟨m, hm, em⟩ : ∃ m : Nat, m < N ∧ a = nI m := by
        rcases pk_ix a (n := N) (by omega) with h | h | h
        · exact absurd (Or.inl h) hv
        · exact absurd (Or.inr h) hv
        · exact h
      have hw := hy hs (fun _ => ⟨m, hm, em⟩)
      rw [em] at hw ⊢
      exact zx_nm1 hm hN (br_f zn_10 hw)
  · exact br_f (fun z => h11 (zn_im (b := 11) z (by omega) (by omega))) (hy hs (fun z => absurd z h11))
theorem i_vc_token {k : Nat} {u : SX} {v : SY} (I : i_Rel k u v) (hk : k + 3 ≤ 1538) (v1 : Int32) (v2 : Int32) : wpX_token (fun r u' => wpY_token (fun r' v' => r' = r ∧ i_Rel (k + 3) u' v') v v1 v2) u v1 v2 := by
  have J := i_up I
  obtain ⟨N, C, U, S, op, lv, fn, fi, K, A, Ow, O, P, L, cl, rt, en, ss, so, sp, ds, R, E, pl, ww, lw, vi, vv, ps, pv, pt, yne, ysp, yvsp, ypn, yef, yet, yew, yb, ynb, yv, yx, ysv, ysi, yvs, ymo, ymv, yip, ypN, ypI, rfl, rfl, hR, hD, hE, h⟩ := I
  have hb := h.1
  have hS96 := zi_S h
  have ho := h.2.2.2.2.2.2
  by_cases hlo : v1 < 1
  · exact br_t hlo (br_t rfl (br_t hlo ⟨rfl, J⟩))
  by_cases hhi : 11 < v1
  · exact br_f hlo (br_t hhi (br_t rfl (br_f hlo (br_t hhi ⟨rfl, J⟩))))
  rcases ho with ⟨rfl, rfl⟩ | ⟨o, h1, rfl, hco, hop⟩
  · exact br_f hlo (br_f hhi (br_t rfl (br_t rfl (br_f hlo (br_f hhi (br_f (by decide) ⟨rfl, J⟩))))))
  · obtain ⟨q, hq1, hq11, rfl⟩ : ∃ q : Nat, 1 ≤ q ∧ q ≤ 11 ∧ v1 = nI q := by
      have hlo' := zn_nlt hlo
      have hhi' := zn_nlt hhi
      have h0 : ¬ v1 < 0 := Int32.not_lt.mpr (Int32.le_trans (by decide) hlo')
      obtain ⟨j, hj, rfl⟩ := nI_of h0
      have a1 := (nI_leI (a := 1) (by omega) hj).mp hlo'
      have a2 := (nI_leI (b := 11) hj (by omega)).mp hhi'
      exact ⟨j, a1, a2, rfl⟩
    obtain ⟨r1, r2, r3, r4, r5, r6, r7, r8⟩ := hop
    cases est : zs_stk K (R o) (U - R o) with
    | nil => rw [est] at r4; simp at r4; omega
    | cons s t =>
      rw [est] at r4 r6
      obtain rfl : S = t.length + 1 := r4.symm
      have hlen := zs_stk_len K (R o) (U - R o)
      rw [est, List.length_cons] at hlen
      have hs1 := zs_mem r1 (K := K) (d := U - R o) (s := s) (by rw [est]; exact List.mem_cons_self ..)
      have hT : U < C → t.length + 2 ≤ 96 := fun hU => by omega
      have hU9 : U < C → U < 96 := fun hU => by omega
      have hxU : ∀ x, x ∈ t → x.1 ≠ U := fun x hx => by
        have hx1 := zs_mem r1 (K := K) (d := U - R o) (s := x) (by rw [est]; exact List.mem_cons_of_mem _ hx)
        omega
      have hN8 : N ≤ 8 := by omega
      have hC9 : C ≤ 96 := by omega
      have ho8 : o < 8 := by omega
      refine zx_tk hq1 hq11 (by omega) (by omega) hS96 (fun hs => zy_tk hq1 hq11 (by omega) (by omega) hS96 (fun _ => ⟨rfl, J⟩) (fun z => absurd z hs) (fun z => absurd z hs))
        (fun hs e11 hv => zy_tk hq1 hq11 (by omega) (by omega) hS96 (fun z => absurd hs z) (fun _ _ _ => ⟨rfl, J⟩) (fun _ hm => ?_)) (fun hs hm => ?_)
      · obtain ⟨m, hm1, hm2⟩ := hm e11
        rcases hv with hv | hv
        · rw [hm2] at hv; exact absurd hv (nI_pos (by omega))
        · rw [hm2] at hv; exact absurd hv (nI_ge hm1 (by omega))
      · by_cases hU : U < C
        · refine zx_26 hq11 hU hC9 (zx_62 hq1 hq11 (hU9 hU) ho8 (hT hU) r6.1.1 r6.1.2 (by omega) (fun hz => ?_) (fun hz => ?_))
          all_goals refine zy_tk hq1 hq11 ho8 hN8 hS96 (fun z => absurd hs z) (fun _ z1 z2 => ?_) (fun _ _ => zy_75 hq11 hU hC9 (zy_122 hq1 hq11 (hU9 hU) (hT hU) ?_))
          · obtain ⟨m, hm1, hm2⟩ := hm z1
            rcases z2 with hv | hv
            · rw [hm2] at hv; exact absurd hv (nI_pos (by omega))
            · rw [hm2] at hv; exact absurd hv (nI_ge hm1 (by omega))
          · have e : (nI o).toNatClampNeg = o := nI_clamp (by omega)
            have hin : vp_in (nI o) 8 := vp_in_nI (by omega) (by omega)
            refine br_t (by rw [hz]; rfl) ⟨hin, nm_r (e' := upd cl o 1) (by rw [e, zb_1]) ⟨hin, nm_r (e' := upd en o (nI (U + 1))) (by rw [e]) ⟨rfl, ?_⟩⟩⟩
            have hnil : zs_kids (nI q) U ++ t = [] := List.eq_nil_of_length_eq_zero (by rw [zk_len hq1 hq11]; exact hz)
            have H := zi_tok0 (so' := zk_so q t.length (zs_so K O (R o) s) so) (sp' := zk_sp q t.length (nI U) sp) (a := zk_a q v2) h h1 hU est hq1 hq11 (fun z => by unfold zk_a; rw [if_neg (by omega), if_pos z]; exact hm z) hnil
            rw [← hz] at H
            exact zr_mk (U := U + 1) (S := t.length + zk_n q) hR hD (zi_upd hE) H
          · obtain ⟨m, hm1, hm2⟩ := hm z1
            rcases z2 with hv | hv
            · rw [hm2] at hv; exact absurd hv (nI_pos (by omega))
            · rw [hm2] at hv; exact absurd hv (nI_ge hm1 (by omega))
          · have hn2 : zk_n q ≤ 2 := by rcases zk_c hq1 hq11 with rfl | rfl | rfl | rfl | rfl | rfl | rfl | rfl | rfl | rfl | rfl <;> decide
            refine br_f (nI_ne0 (by omega) (by omega)) ⟨rfl, ?_⟩
            have hr : R o ≤ U := r2
            have hst := zk_st (K := upd K U (nI q)) (O := upd O U (zs_so K O (R o) s)) (so := so) (sp := sp) (r := R o) (k := q) (c := U) (S := t.length) (o := zs_so K O (R o) s) (t := t) hq1 hq11 hr pk_us pk_us rfl
              (zs_st_mono t (fun i x hi hx hq => ⟨hq.1, hq.2.trans (zs_so_congr (fun _ => ⟨pk_un (hxU x hx), pk_un (hxU x hx)⟩)).symm⟩) r6.2)
            have H := zi_tok (so' := zk_so q t.length (zs_so K O (R o) s) so) (sp' := zk_sp q t.length (nI U) sp) (a := zk_a q v2) h h1 hU est hq1 hq11 (fun z => by unfold zk_a; rw [if_neg (by omega), if_pos z]; exact hm z) (by rw [zk_len hq1 hq11]; omega) hst
            rw [zk_len hq1 hq11] at H
            exact zr_mk (U := U + 1) (S := t.length + zk_n q) hR hD hE H
        · have eq : U = C := by omega
          refine br_f (nI_nlt (by omega) (by omega)) (zy_tk hq1 hq11 (by omega) (by omega) hS96 (fun z => absurd hs z) (fun _ _ _ => ⟨rfl, J⟩) (fun _ _ => br_t (by rw [eq]) ⟨rfl, J⟩))
end Z8
