/-! the relation between the two states -/
section Z7
variable {N C U S : Nat} {op lv fn fi pl yne ysp yvsp ypn : Int32}
variable {K A Ow O P L cl rt en ss so sp ds ww lw vi vv ps pv pt yef yet yew yb ynb yv yx ysv ysi yvs ymo ymv yip ypN ypI : Nat → Int32}
variable {R E : Nat → Nat}
theorem zb_0 : vp_nar .boolean 0 = 0 := by decide
theorem zb_1 : vp_nar .boolean 1 = 1 := by decide
theorem zi_S (h : zi_inv N C U S op K A P O L Ow cl so sp R E) : S ≤ 96 := by
  obtain ⟨⟨a1, a2, a3, a4, a5⟩, _, _, _, _, _, h⟩ := h
  rcases h with h | ⟨o, _, _, _, h1, h2, _, h4, _⟩
  · omega
  · have := zs_stk_len K (R o) (U - R o)
    omega
theorem zx_nm0 {post : Int32 → Prop} {x : Int32} (h : x < 0 ∨ nI N ≤ x) (hp : post 0) : wpX_isName post ((nI N), (nI C), (nI U), op, (nI S), pl, lv, fn, fi, K, A, Ow, O, P, L, cl, rt, en, ss, so, sp, ww, lw, vi, vv, ps, pv, pt) x := by
  by_cases h0 : x < 0
  · exact br_t h0 hp
  · exact br_f h0 (br_t (h.resolve_left h0) hp)
theorem zx_nm1 {post : Int32 → Prop} {j : Nat} (h : j < N) (hN : N ≤ 8) (hp : post 1) : wpX_isName post ((nI N), (nI C), (nI U), op, (nI S), pl, lv, fn, fi, K, A, Ow, O, P, L, cl, rt, en, ss, so, sp, ww, lw, vi, vv, ps, pv, pt) (nI j) :=
  br_f (nI_pos (by omega)) (br_f (nI_ge h (by omega)) hp)
end Z7

/-! reset, begin, token -/
def zk_n : Nat → Nat
  | 1 => 0
  | 11 => 0
  | 2 => 1
  | 7 => 1
  | _ => 2
def zk_ss (k S : Nat) (ss : Nat → Int32) : Nat → Int32 := match k with
  | 1 => ss
  | 11 => ss
  | 2 => upd ss S 2
  | 7 => upd ss S 2
  | 3 => upd (upd ss S 1) (S + 1) 1
  | 4 => upd (upd ss S 1) (S + 1) 1
  | 5 => upd (upd ss S 1) (S + 1) 1
  | 6 => upd (upd ss S 2) (S + 1) 1
  | _ => upd (upd ss S 2) (S + 1) 2
def zk_so (k S : Nat) (o : Int32) (so : Nat → Int32) : Nat → Int32 := match k with
  | 1 => so
  | 11 => so
  | 2 => upd so S o
  | 7 => upd so S (o + 1)
  | 6 => upd (upd so S (o - 1)) (S + 1) o
  | _ => upd (upd so S o) (S + 1) o
def zk_sp (k S : Nat) (c : Int32) (sp : Nat → Int32) : Nat → Int32 := match k with
  | 1 => sp
  | 11 => sp
  | 2 => upd sp S c
  | 7 => upd sp S c
  | _ => upd (upd sp S c) (S + 1) c
def zk_a (k : Nat) (a : Int32) : Int32 := if k = 1 then a else if k = 11 then a else 0
theorem zk_c {k : Nat} (h1 : 1 ≤ k) (h : k ≤ 11) : k = 1 ∨ k = 2 ∨ k = 3 ∨ k = 4 ∨ k = 5 ∨ k = 6 ∨ k = 7 ∨ k = 8 ∨ k = 9 ∨ k = 10 ∨ k = 11 := by omega
theorem zk_len {k c : Nat} {t : List (Nat × Bool)} (h1 : 1 ≤ k) (h : k ≤ 11) : (zs_kids (nI k) c ++ t).length = t.length + zk_n k := by
  rcases zk_c h1 h with rfl | rfl | rfl | rfl | rfl | rfl | rfl | rfl | rfl | rfl | rfl <;> rfl
theorem zk_st {K O so sp : Nat → Int32} {r k c S : Nat} {o : Int32} {t : List (Nat × Bool)} (h1 : 1 ≤ k) (h : k ≤ 11) (hr : r ≤ c) (hK : K c = nI k) (hO : O c = o) (hS : S = t.length)
    (hst : zs_st (fun i x => sp i = nI x.1 ∧ so i = zs_so K O r x) t) :
    zs_st (fun i x => zk_sp k S (nI c) sp i = nI x.1 ∧ zk_so k S o so i = zs_so K O r x) (zs_kids (nI k) c ++ t) := by
  have hx : ∀ b, ¬ nI k = 7 → ¬ nI k = 6 → o = zs_so K O r (c, b) := fun b a1 a2 => by rw [zo_x hr (by rw [hK]; exact a1) (by rw [hK]; exact a2)]; exact hO.symm
  rcases zk_c h1 h with rfl | rfl | rfl | rfl | rfl | rfl | rfl | rfl | rfl | rfl | rfl
  · exact hst
  · exact zs_st_push (q := fun x y z => x = nI z.1 ∧ y = zs_so K O r z) (a := sp) (b := so) hS ⟨rfl, hx true (by decide) (by decide)⟩ hst
  · exact zs_st_push (q := fun x y z => x = nI z.1 ∧ y = zs_so K O r z) (n := S + 1) (s := (c, true)) (by rw [hS]; rfl) ⟨rfl, hx true (by decide) (by decide)⟩ (zs_st_push (q := fun x y z => x = nI z.1 ∧ y = zs_so K O r z) (a := sp) (b := so) (s := (c, false)) hS ⟨rfl, hx false (by decide) (by decide)⟩ hst)
  · exact zs_st_push (q := fun x y z => x = nI z.1 ∧ y = zs_so K O r z) (n := S + 1) (s := (c, true)) (by rw [hS]; rfl) ⟨rfl, hx true (by decide) (by decide)⟩ (zs_st_push (q := fun x y z => x = nI z.1 ∧ y = zs_so K O r z) (a := sp) (b := so) (s := (c, false)) hS ⟨rfl, hx false (by decide) (by decide)⟩ hst)
  · exact zs_st_push (q := fun x y z => x = nI z.1 ∧ y = zs_so K O r z) (n := S + 1) (s := (c, true)) (by rw [hS]; rfl) ⟨rfl, hx true (by decide) (by decide)⟩ (zs_st_push (q := fun x y z => x = nI z.1 ∧ y = zs_so K O r z) (a := sp) (b := so) (s := (c, false)) hS ⟨rfl, hx false (by decide) (by decide)⟩ hst)
  · exact zs_st_push (q := fun x y z => x = nI z.1 ∧ y = zs_so K O r z) (n := S + 1) (s := (c, true)) (by rw [hS]; rfl) ⟨rfl, by rw [zo_6t hr hK, hO]⟩ (zs_st_push (q := fun x y z => x = nI z.1 ∧ y = zs_so K O r z) (a := sp) (b := so) (s := (c, false)) hS ⟨rfl, by rw [zo_6f hr hK, hO]⟩ hst)
  · exact zs_st_push (q := fun x y z => x = nI z.1 ∧ y = zs_so K O r z) (a := sp) (b := so) hS ⟨rfl, by rw [zo_7 hr hK, hO]⟩ hst
  · exact zs_st_push (q := fun x y z => x = nI z.1 ∧ y = zs_so K O r z) (n := S + 1) (s := (c, true)) (by rw [hS]; rfl) ⟨rfl, hx true (by decide) (by decide)⟩ (zs_st_push (q := fun x y z => x = nI z.1 ∧ y = zs_so K O r z) (a := sp) (b := so) (s := (c, false)) hS ⟨rfl, hx false (by decide) (by decide)⟩ hst)
  · exact zs_st_push (q := fun x y z => x = nI z.1 ∧ y = zs_so K O r z) (n := S + 1) (s := (c, true)) (by rw [hS]; rfl) ⟨rfl, hx true (by decide) (by decide)⟩ (zs_st_push (q := fun x y z => x = nI z.1 ∧ y = zs_so K O r z) (a := sp) (b := so) (s := (c, false)) hS ⟨rfl, hx false (by decide) (by decide)⟩ hst)
  · exact zs_st_push (q := fun x y z => x = nI z.1 ∧ y = zs_so K O r z) (n := S + 1) (s := (c, true)) (by rw [hS]; rfl) ⟨rfl, hx true (by decide) (by decide)⟩ (zs_st_push (q := fun x y z => x = nI z.1 ∧ y = zs_so K O r z) (a := sp) (b := so) (s := (c, false)) hS ⟨rfl, hx false (by decide) (by decide)⟩ hst)
  · exact hst
section Z8
variable {N C U S : Nat} {op lv fn fi pl yne ysp yvsp ypn : Int32}
variable {K A Ow O P L cl rt en ss so sp ds ww lw vi vv ps pv pt yef yet yew yb ynb yv yx ysv ysi yvs ymo ymv yip ypN ypI : Nat → Int32}
variable {R E : Nat → Nat}
theorem zx_append {post : St2 → Prop} {x y : Int32} (hU : U < 96) (hp : post ((nI N), (nI C), (nI (U + 1)), op, (nI S), pl, lv, fn, fi, (upd K U x), (upd A U y), (upd Ow U op), O, P, L, cl, rt, en, ss, so, sp, ww, lw, vi, vv, ps, pv, pt)) : wpX_appendCell post ((nI N), (nI C), (nI U), op, (nI S), pl, lv, fn, fi, K, A, Ow, O, P, L, cl, rt, en, ss, so, sp, ww, lw, vi, vv, ps, pv, pt) x y := by
  have e : (nI U).toNatClampNeg = U := nI_clamp (by omega)
  have hin : vp_in (nI U) 96 := vp_in_nI hU (by omega)
  exact ⟨hin, nm_r (by rw [e]) ⟨hin, nm_r (by rw [e]) ⟨hin, nm_r (by rw [e]) (nm_r (nI_1 U) hp)⟩⟩⟩
theorem zx_put {post : St2 → Prop} {x y z : Int32} (hS : S < 96) (hp : post ((nI N), (nI C), (nI U), op, (nI (S + 1)), pl, lv, fn, fi, K, A, Ow, O, P, L, cl, rt, en, (upd ss S x), (upd so S y), (upd sp S z), ww, lw, vi, vv, ps, pv, pt)) : wpX_putSlot post ((nI N), (nI C), (nI U), op, (nI S), pl, lv, fn, fi, K, A, Ow, O, P, L, cl, rt, en, ss, so, sp, ww, lw, vi, vv, ps, pv, pt) x y z := by
  have e : (nI S).toNatClampNeg = S := nI_clamp (by omega)
  have hin : vp_in (nI S) 96 := vp_in_nI hS (by omega)
  exact ⟨hin, nm_r (by rw [e]) ⟨hin, nm_r (by rw [e]) ⟨hin, nm_r (by rw [e]) (nm_r (nI_1 S) hp)⟩⟩⟩
theorem zx_fill {post : St2 → Prop} {p c : Nat} {o : Int32} (hS : S < 96) (hp' : sp S = nI p) (ho : so S = o) (hp96 : p < 96) (hc : c < 96)
    (hp : post ((nI N), (nI C), (nI U), op, (nI S), pl, lv, fn, fi, K, A, Ow, (upd O c o), (upd P c (nI p)), (upd L p (nI c)), cl, rt, en, ss, so, sp, ww, lw, vi, vv, ps, pv, pt)) : wpX_fillNextSlot post ((nI N), (nI C), (nI U), op, (nI (S + 1)), pl, lv, fn, fi, K, A, Ow, O, P, L, cl, rt, en, ss, so, sp, ww, lw, vi, vv, ps, pv, pt) (nI c) := by
  have e : (nI S).toNatClampNeg = S := nI_clamp (by omega)
  have ec : (nI c).toNatClampNeg = c := nI_clamp (by omega)
  have ep : (nI p).toNatClampNeg = p := nI_clamp (by omega)
  have hin : vp_in (nI S) 96 := vp_in_nI hS (by omega)
  have hic : vp_in (nI c) 96 := vp_in_nI hc (by omega)
  have hip : vp_in (nI p) 96 := vp_in_nI hp96 (by omega)
  exact nm_r (nI_pred S) ⟨hin, nm_r (by rw [e, hp']) ⟨hin, hic, nm_r (by rw [e, ec, ho]) ⟨hic, nm_r (by rw [ec]) ⟨hip, nm_r (by rw [ep]) hp⟩⟩⟩⟩
theorem zx_kids {post : St2 → Prop} {k c : Nat} {o : Int32} (h1 : 1 ≤ k) (h : k ≤ 11) (hc : c < 96) (hK : K c = nI k) (hO : O c = o) (hS : S + 2 ≤ 96)
    (hp : post ((nI N), (nI C), (nI U), op, (nI (S + zk_n k)), pl, lv, fn, fi, K, A, Ow, O, P, L, cl, rt, en, (zk_ss k S ss), (zk_so k S o so), (zk_sp k S (nI c) sp), ww, lw, vi, vv, ps, pv, pt)) : wpX_putChildSlots post ((nI N), (nI C), (nI U), op, (nI S), pl, lv, fn, fi, K, A, Ow, O, P, L, cl, rt, en, ss, so, sp, ww, lw, vi, vv, ps, pv, pt) (nI c) := by
  have ec : (nI c).toNatClampNeg = c := nI_clamp (by omega)
  have hic : vp_in (nI c) 96 := vp_in_nI hc (by omega)
  rcases zk_c h1 h with rfl | rfl | rfl | rfl | rfl | rfl | rfl | rfl | rfl | rfl | rfl
  · exact ⟨hic, nm_r (by rw [ec, hO]) ⟨hic, nm_r (e' := nI 1) (by rw [ec, hK]) (br_t (by decide) (hp))⟩⟩
  · exact ⟨hic, nm_r (by rw [ec, hO]) ⟨hic, nm_r (e' := nI 2) (by rw [ec, hK]) (br_f (by decide) (br_f (by decide) (br_t (by decide) (zx_put (by omega) hp))))⟩⟩
  · exact ⟨hic, nm_r (by rw [ec, hO]) ⟨hic, nm_r (e' := nI 3) (by rw [ec, hK]) (br_f (by decide) (br_f (by decide) (br_f (by decide) (br_t (by decide) (zx_put (by omega) (zx_put (by omega) hp))))))⟩⟩
  · exact ⟨hic, nm_r (by rw [ec, hO]) ⟨hic, nm_r (e' := nI 4) (by rw [ec, hK]) (br_f (by decide) (br_f (by decide) (br_f (by decide) (br_f (by decide) (br_t (by decide) (zx_put (by omega) (zx_put (by omega) hp)))))))⟩⟩
  · exact ⟨hic, nm_r (by rw [ec, hO]) ⟨hic, nm_r (e' := nI 5) (by rw [ec, hK]) (br_f (by decide) (br_f (by decide) (br_f (by decide) (br_f (by decide) (br_f (by decide) (br_t (by decide) (zx_put (by omega) (zx_put (by omega) hp))))))))⟩⟩
  · exact ⟨hic, nm_r (by rw [ec, hO]) ⟨hic, nm_r (e' := nI 6) (by rw [ec, hK]) (br_f (by decide) (br_f (by decide) (br_f (by decide) (br_f (by decide) (br_f (by decide) (br_f (by decide) (br_t (by decide) (zx_put (by omega) (zx_put (by omega) hp)))))))))⟩⟩
  · exact ⟨hic, nm_r (by rw [ec, hO]) ⟨hic, nm_r (e' := nI 7) (by rw [ec, hK]) (br_f (by decide) (br_f (by decide) (br_f (by decide) (br_f (by decide) (br_f (by decide) (br_f (by decide) (br_f (by decide) (br_t (by decide) (zx_put (by omega) hp)))))))))⟩⟩
  · exact ⟨hic, nm_r (by rw [ec, hO]) ⟨hic, nm_r (e' := nI 8) (by rw [ec, hK]) (br_f (by decide) (br_f (by decide) (br_f (by decide) (br_f (by decide) (br_f (by decide) (br_f (by decide) (br_f (by decide) (br_f (by decide) (br_t (by decide) (zx_put (by omega) (zx_put (by omega) hp)))))))))))⟩⟩
  · exact ⟨hic, nm_r (by rw [ec, hO]) ⟨hic, nm_r (e' := nI 9) (by rw [ec, hK]) (br_f (by decide) (br_f (by decide) (br_f (by decide) (br_f (by decide) (br_f (by decide) (br_f (by decide) (br_f (by decide) (br_f (by decide) (br_f (by decide) (br_t (by decide) (zx_put (by omega) (zx_put (by omega) hp))))))))))))⟩⟩
  · exact ⟨hic, nm_r (by rw [ec, hO]) ⟨hic, nm_r (e' := nI 10) (by rw [ec, hK]) (br_f (by decide) (br_f (by decide) (br_f (by decide) (br_f (by decide) (br_f (by decide) (br_f (by decide) (br_f (by decide) (br_f (by decide) (br_f (by decide) (br_f (by decide) (br_t (by decide) (zx_put (by omega) (zx_put (by omega) hp)))))))))))))⟩⟩
  · exact ⟨hic, nm_r (by rw [ec, hO]) ⟨hic, nm_r (e' := nI 11) (by rw [ec, hK]) (br_f (by decide) (br_t (by decide) (hp)))⟩⟩
theorem zx_62 {post : Int32 → St2 → Prop} {k p o' : Nat} {a o : Int32} (h1 : 1 ≤ k) (h : k ≤ 11) (hU : U < 96) (ho' : o' < 8) (hS : S + 2 ≤ 96) (hp' : sp S = nI p) (ho : so S = o) (hp96 : p < 96)
    (hz : S + zk_n k = 0 → post 1 ((nI N), (nI C), (nI (U + 1)), (-1), (nI (S + zk_n k)), pl, lv, fn, fi, (upd K U (nI k)), (upd A U a), (upd Ow U (nI o')), (upd O U o), (upd P U (nI p)), (upd L p (nI U)), (upd cl o' 1), rt, (upd en o' (nI (U + 1))), (zk_ss k S ss), (zk_so k S o so), (zk_sp k S (nI U) sp), ww, lw, vi, vv, ps, pv, pt))
    (hn : S + zk_n k ≠ 0 → post 1 ((nI N), (nI C), (nI (U + 1)), (nI o'), (nI (S + zk_n k)), pl, lv, fn, fi, (upd K U (nI k)), (upd A U a), (upd Ow U (nI o')), (upd O U o), (upd P U (nI p)), (upd L p (nI U)), cl, rt, en, (zk_ss k S ss), (zk_so k S o so), (zk_sp k S (nI U) sp), ww, lw, vi, vv, ps, pv, pt)) :
    wX_token_62 post (nI U) a (nI k) (nI N) (nI C) (nI U) (nI o') (nI (S + 1)) pl lv fn fi K A Ow O P L cl rt en ss so sp ww lw vi vv ps pv pt := by
  have hn2 : zk_n k ≤ 2 := by rcases zk_c h1 h with rfl | rfl | rfl | rfl | rfl | rfl | rfl | rfl | rfl | rfl | rfl <;> decide
  unfold wX_token_62
  refine zx_append hU (zx_fill (by omega) hp' ho hp96 hU (zx_kids h1 h hU pk_us pk_us hS ?_))
  by_cases hz0 : S + zk_n k = 0
  · refine br_t (by rw [hz0]; rfl) ?_
    have e : (nI o').toNatClampNeg = o' := nI_clamp (by omega)
    have hin : vp_in (nI o') 8 := vp_in_nI ho' (by omega)
    exact ⟨hin, nm_r (by rw [e]) ⟨hin, nm_r (by rw [e]) (hz hz0)⟩⟩
  · exact br_f (nI_ne0 (by omega) (by omega)) (hn hz0)
theorem zx_26 {post : Int32 → St2 → Prop} {k : Nat} {a : Int32} (h : k ≤ 11) (hU : U < C) (hC : C ≤ 96) (hp : wX_token_62 post (nI U) (zk_a k a) (nI k) (nI N) (nI C) (nI U) op (nI S) pl lv fn fi K A Ow O P L cl rt en ss so sp ww lw vi vv ps pv pt) : wX_token_26 post (nI k) a (nI N) (nI C) (nI U) op (nI S) pl lv fn fi K A Ow O P L cl rt en ss so sp ww lw vi vv ps pv pt := by
  refine br_t (nI_lt hU (by omega)) ?_
  unfold zk_a at hp
  by_cases e1 : k = 1
  · rw [if_pos e1] at hp
    exact br_t (by rw [e1]; rfl) hp
  · rw [if_neg e1] at hp
    refine br_f (fun z => e1 (zn_im (b := 1) z (by omega) (by omega))) ?_
    by_cases e2 : k = 11
    · rw [if_pos e2] at hp
      exact br_t (by rw [e2]; rfl) hp
    · rw [if_neg e2] at hp
      exact br_f (fun z => e2 (zn_im (b := 11) z (by omega) (by omega))) hp
def zk_srt (k : Nat) : Int32 := if 5 < k then 2 else 1
theorem zx_fits {post : Int32 → Prop} {k : Nat} (h1 : 1 ≤ k) (h : k ≤ 11) (hS : S + 1 ≤ 96) (hy : zk_srt k = ss S → post 1) (hn : ¬ zk_srt k = ss S → post 0) : wpX_fitsNextSlot post ((nI N), (nI C), (nI U), op, (nI (S + 1)), pl, lv, fn, fi, K, A, Ow, O, P, L, cl, rt, en, ss, so, sp, ww, lw, vi, vv, ps, pv, pt) (nI k) := by
  have e : nI (S + 1) - 1 = nI S := nI_pred S
  have ec : (nI S).toNatClampNeg = S := nI_clamp (by omega)
  have hin : vp_in (nI (S + 1) - 1) 96 := by rw [e]; exact vp_in_nI (by omega) (by omega)
  refine br_f (nI_nlt (b := 1) (by omega) (by omega)) (br_f (nI_nlt (a := 11) (by omega) (by decide)) (br_f (nI_ne0 (by omega) (by omega)) ?_))
  unfold zk_srt at hy hn
  by_cases h5 : 5 < k
  · rw [if_pos h5] at hy hn
    refine br_t (nI_lt (a := 5) h5 (by omega)) ⟨hin, ?_⟩
    rw [e, ec]
    exact br_c hy hn
  · rw [if_neg h5] at hy hn
    refine br_f (nI_nlt (a := 5) (by omega) (by decide)) ⟨hin, ?_⟩
    rw [e, ec]
    exact br_c hy hn
theorem zx_tk {post : Int32 → St2 → Prop} {k o : Nat} {a : Int32} (h1 : 1 ≤ k) (h : k ≤ 11) (ho : o < 8) (hN : N ≤ 8) (hS : S + 1 ≤ 96) (hn : ¬ zk_srt k = ss S → post 0 ((nI N), (nI C), (nI U), (nI o), (nI (S + 1)), pl, lv, fn, fi, K, A, Ow, O, P, L, cl, rt, en, ss, so, sp, ww, lw, vi, vv, ps, pv, pt))
    (hb : zk_srt k = ss S → k = 11 → (a < 0 ∨ nI N ≤ a) → post 0 ((nI N), (nI C), (nI U), (nI o), (nI (S + 1)), pl, lv, fn, fi, K, A, Ow, O, P, L, cl, rt, en, ss, so, sp, ww, lw, vi, vv, ps, pv, pt))
    (hy : zk_srt k = ss S → (k = 11 → ∃ m, m < N ∧ a = nI m) → wX_token_26 post (nI k) a (nI N) (nI C) (nI U) (nI o) (nI (S + 1)) pl lv fn fi K A Ow O P L cl rt en ss so sp ww lw vi vv ps pv pt) : wpX_token post ((nI N), (nI C), (nI U), (nI o), (nI (S + 1)), pl, lv, fn, fi, K, A, Ow, O, P, L, cl, rt, en, ss, so, sp, ww, lw, vi, vv, ps, pv, pt) (nI k) a := by
  unfold wpX_token
  refine zx_fits h1 h hS (fun hs => br_f zn_10 ?_) (fun hs => br_t rfl (hn hs))
  by_cases h11 : k = 11
  · refine br_t (by rw [h11]; rfl) ?_
    by_cases hv : a < 0 ∨ nI N ≤ a
    · exact zx_nm0 hv (br_t rfl (hb hs h11 hv))
    · obtain ⟨m, hm, em⟩ : ∃ m : Nat, m < N ∧ a = nI m := by
        rcases pk_ix a (n := N) (by omega) with h | h | h
        · exact absurd (Or.inl h) hv
        · exact absurd (Or.inr h) hv
        · exact h
      have hw := hy hs (fun _ => ⟨m, hm, em⟩)
      rw [em] at hw ⊢
      exact zx_nm1 hm hN (br_f zn_10 hw)
  · exact br_f (fun z => h11 (zn_im (b := 11) z (by omega) (by omega))) (hy hs (fun z => absurd z h11))
end Z8
