/-! the law -/
theorem zl_pos {post : Int32 → Prop} {x m : Int32} (hm : ¬ m = 0) (hp : ∀ r : Int32, post r) : wpL_pos post () x m := ⟨hm, fun y _ => br_c (fun _ => hp _) (fun _ => hp _)⟩
theorem zl_cell {post : Int32 → Prop} {L k : Nat} {xs : Nat → Int32} (hL : L ≤ 260) (hk : k ≤ 1000) (hp : ∀ r : Int32, post r) : wpL_cell post L xs () (nI k) := by
  by_cases h : L ≤ k
  · exact br_t (nI_le h (by omega)) (hp _)
  · exact br_f (nI_ge (by omega) (by omega)) ⟨vp_in_nI (by omega) (by omega), hp _⟩
section Z24
variable {N C U S : Nat} {op lv fn fi pl yne ysp yvsp ypn : Int32}
variable {K A Ow O P L cl rt en ss so sp ds ww lw vi vv ps pv pt yef yet yew yb ynb yv yx ysv ysi yvs ymo ymv yip ypN ypI : Nat → Int32}
variable {R E : Nat → Nat}
variable {e1 e2 e3 e4 e5 e6 e7 e8 e9 : Int32} {b1 b2 b3 b4 b5 b6 b7 b8 b9 b10 b11 b12 b13 b14 b15 b16 b17 b18 b19 : Nat → Int32}
variable {L' : Nat → Int32}
theorem zl_135 {post : Int32 → Prop} {L : Nat} {xs : Nat → Int32} {J55 : Int32 → Int32 → Int32 → Int32 → Int32 → Int32 → Int32 → Int32 → Int32 → Int32 → Int32 → (Nat → Int32) → (Nat → Int32) → (Nat → Int32) → (Nat → Int32) → (Nat → Int32) → (Nat → Int32) → (Nat → Int32) → (Nat → Int32) → (Nat → Int32) → (Nat → Int32) → (Nat → Int32) → (Nat → Int32) → (Nat → Int32) → (Nat → Int32) → (Nat → Int32) → (Nat → Int32) → (Nat → Int32) → (Nat → Int32) → (Nat → Int32) → Prop} {J93 : Int32 → Int32 → Int32 → Int32 → Int32 → Int32 → Int32 → Int32 → Int32 → Int32 → Int32 → Int32 → Int32 → (Nat → Int32) → (Nat → Int32) → (Nat → Int32) → (Nat → Int32) → (Nat → Int32) → (Nat → Int32) → (Nat → Int32) → (Nat → Int32) → (Nat → Int32) → (Nat → Int32) → (Nat → Int32) → (Nat → Int32) → (Nat → Int32) → (Nat → Int32) → (Nat → Int32) → (Nat → Int32) → (Nat → Int32) → (Nat → Int32) → (Nat → Int32) → Prop} {x3 x4 x5 x6 x8 x9 x11 x12 z0 : Int32} {kc ks t : Nat} (I : zd_I (e1, e2, e3, e4, e5, e6, e7, e8, e9, b1, b2, b3, b4, b5, b6, b7, b8, b9, b10, b11, b12, b13, b14, b15, b16, b17, b18, b19))
    (hK : ∀ (x8 x9 : Int32) (e1 e2 e3 e4 e5 e6 e7 e8 e9 : Int32) (b1 b2 b3 b4 b5 b6 b7 b8 b9 b10 b11 b12 b13 b14 b15 b16 b17 b18 b19 : Nat → Int32), zd_I (e1, e2, e3, e4, e5, e6, e7, e8, e9, b1, b2, b3, b4, b5, b6, b7, b8, b9, b10, b11, b12, b13, b14, b15, b16, b17, b18, b19) → J93 x5 x8 x9 (nI (t + 1)) e1 e2 e3 e4 e5 e6 e7 e8 e9 b1 b2 b3 b4 b5 b6 b7 b8 b9 b10 b11 b12 b13 b14 b15 b16 b17 b18 b19) : wL_law_135 post L xs J55 J93 x3 x4 x5 x6 x8 x9 (nI t) x11 x12 z0 kc ks e1 e2 e3 e4 e5 e6 e7 e8 e9 b1 b2 b3 b4 b5 b6 b7 b8 b9 b10 b11 b12 b13 b14 b15 b16 b17 b18 b19 := by
  have k1 : ∀ (x8 x9 : Int32) (e1 e2 e3 e4 e5 e6 e7 e8 e9 : Int32) (b1 b2 b3 b4 b5 b6 b7 b8 b9 b10 b11 b12 b13 b14 b15 b16 b17 b18 b19 : Nat → Int32), zd_I (e1, e2, e3, e4, e5, e6, e7, e8, e9, b1, b2, b3, b4, b5, b6, b7, b8, b9, b10, b11, b12, b13, b14, b15, b16, b17, b18, b19) → ∀ y, y = nI t + 1 → J93 x5 x8 x9 y e1 e2 e3 e4 e5 e6 e7 e8 e9 b1 b2 b3 b4 b5 b6 b7 b8 b9 b10 b11 b12 b13 b14 b15 b16 b17 b18 b19 := fun x8 x9 e1 e2 e3 e4 e5 e6 e7 e8 e9 b1 b2 b3 b4 b5 b6 b7 b8 b9 b10 b11 b12 b13 b14 b15 b16 b17 b18 b19 I' => nm_r (nI_1 t) (hK x8 x9 e1 e2 e3 e4 e5 e6 e7 e8 e9 b1 b2 b3 b4 b5 b6 b7 b8 b9 b10 b11 b12 b13 b14 b15 b16 b17 b18 b19 I')
  have k2 : ∀ (x8 x9 : Int32) (e1 e2 e3 e4 e5 e6 e7 e8 e9 : Int32) (b1 b2 b3 b4 b5 b6 b7 b8 b9 b10 b11 b12 b13 b14 b15 b16 b17 b18 b19 : Nat → Int32), zd_I (e1, e2, e3, e4, e5, e6, e7, e8, e9, b1, b2, b3, b4, b5, b6, b7, b8, b9, b10, b11, b12, b13, b14, b15, b16, b17, b18, b19) → ∀ x, x = x8 + (-1) → ∀ y, y = nI t + 1 → J93 x5 x x9 y e1 e2 e3 e4 e5 e6 e7 e8 e9 b1 b2 b3 b4 b5 b6 b7 b8 b9 b10 b11 b12 b13 b14 b15 b16 b17 b18 b19 := fun x8 x9 e1 e2 e3 e4 e5 e6 e7 e8 e9 b1 b2 b3 b4 b5 b6 b7 b8 b9 b10 b11 b12 b13 b14 b15 b16 b17 b18 b19 I' x _ => k1 x x9 e1 e2 e3 e4 e5 e6 e7 e8 e9 b1 b2 b3 b4 b5 b6 b7 b8 b9 b10 b11 b12 b13 b14 b15 b16 b17 b18 b19 I'
  have a163 : wL_law_163 post L xs J55 J93 x3 x4 x5 x6 x8 x9 (nI t) x11 kc ks e1 e2 e3 e4 e5 e6 e7 e8 e9 b1 b2 b3 b4 b5 b6 b7 b8 b9 b10 b11 b12 b13 b14 b15 b16 b17 b18 b19 := zl_pos (by decide) (fun r => zd_tok I (fun _ e1 e2 e3 e4 e5 e6 e7 e8 e9 b1 b2 b3 b4 b5 b6 b7 b8 b9 b10 b11 b12 b13 b14 b15 b16 b17 b18 b19 I' => k1 x8 x9 e1 e2 e3 e4 e5 e6 e7 e8 e9 b1 b2 b3 b4 b5 b6 b7 b8 b9 b10 b11 b12 b13 b14 b15 b16 b17 b18 b19 I'))
  have a211 : ∀ x14 : Int32, wL_law_211 post L xs J55 J93 x3 x4 x5 x6 x8 x9 (nI t) x14 kc ks e1 e2 e3 e4 e5 e6 e7 e8 e9 b1 b2 b3 b4 b5 b6 b7 b8 b9 b10 b11 b12 b13 b14 b15 b16 b17 b18 b19 := fun x14 => zl_pos (by decide) (fun r => zd_tok I (fun _ e1 e2 e3 e4 e5 e6 e7 e8 e9 b1 b2 b3 b4 b5 b6 b7 b8 b9 b10 b11 b12 b13 b14 b15 b16 b17 b18 b19 I' => k2 x8 x9 e1 e2 e3 e4 e5 e6 e7 e8 e9 b1 b2 b3 b4 b5 b6 b7 b8 b9 b10 b11 b12 b13 b14 b15 b16 b17 b18 b19 I'))
  have a251 : wL_law_251 post L xs J55 J93 x3 x4 x5 x6 x8 x9 (nI t) x11 kc ks e1 e2 e3 e4 e5 e6 e7 e8 e9 b1 b2 b3 b4 b5 b6 b7 b8 b9 b10 b11 b12 b13 b14 b15 b16 b17 b18 b19 := zl_pos (by decide) (fun r => zd_tok I (fun _ e1 e2 e3 e4 e5 e6 e7 e8 e9 b1 b2 b3 b4 b5 b6 b7 b8 b9 b10 b11 b12 b13 b14 b15 b16 b17 b18 b19 I' => k1 x8 x9 e1 e2 e3 e4 e5 e6 e7 e8 e9 b1 b2 b3 b4 b5 b6 b7 b8 b9 b10 b11 b12 b13 b14 b15 b16 b17 b18 b19 I'))
  have a309 : ∀ y : Int32, wL_law_309 post L xs J55 J93 x3 x4 x5 x6 x8 x9 (nI t) y kc ks e1 e2 e3 e4 e5 e6 e7 e8 e9 b1 b2 b3 b4 b5 b6 b7 b8 b9 b10 b11 b12 b13 b14 b15 b16 b17 b18 b19 := fun y => zd_tok I (fun _ e1 e2 e3 e4 e5 e6 e7 e8 e9 b1 b2 b3 b4 b5 b6 b7 b8 b9 b10 b11 b12 b13 b14 b15 b16 b17 b18 b19 I' => k2 x8 x9 e1 e2 e3 e4 e5 e6 e7 e8 e9 b1 b2 b3 b4 b5 b6 b7 b8 b9 b10 b11 b12 b13 b14 b15 b16 b17 b18 b19 I')
  refine br_c (fun _ => zl_pos (by decide) (fun r => br_c (fun _ => a163) (fun _ => br_c (fun _ => br_c (fun _ => br_c (fun _ => zd_tok I (fun _ e1 e2 e3 e4 e5 e6 e7 e8 e9 b1 b2 b3 b4 b5 b6 b7 b8 b9 b10 b11 b12 b13 b14 b15 b16 b17 b18 b19 I' => k2 x8 1 e1 e2 e3 e4 e5 e6 e7 e8 e9 b1 b2 b3 b4 b5 b6 b7 b8 b9 b10 b11 b12 b13 b14 b15 b16 b17 b18 b19 I')) (fun _ => a211 r)) (fun _ => a211 r)) (fun _ => a163))))
    (fun _ => zl_pos (by decide) (fun r => br_c (fun _ => a251) (fun _ => br_c (fun _ => br_c (fun _ => br_c (fun _ => br_c (fun _ => zl_pos (by decide) (fun _ => zd_tok I (fun _ e1 e2 e3 e4 e5 e6 e7 e8 e9 b1 b2 b3 b4 b5 b6 b7 b8 b9 b10 b11 b12 b13 b14 b15 b16 b17 b18 b19 I' => k2 x8 1 e1 e2 e3 e4 e5 e6 e7 e8 e9 b1 b2 b3 b4 b5 b6 b7 b8 b9 b10 b11 b12 b13 b14 b15 b16 b17 b18 b19 I'))) (fun _ => zd_tok I (fun _ e1 e2 e3 e4 e5 e6 e7 e8 e9 b1 b2 b3 b4 b5 b6 b7 b8 b9 b10 b11 b12 b13 b14 b15 b16 b17 b18 b19 I' => k2 x8 x9 e1 e2 e3 e4 e5 e6 e7 e8 e9 b1 b2 b3 b4 b5 b6 b7 b8 b9 b10 b11 b12 b13 b14 b15 b16 b17 b18 b19 I'))) (fun _ => br_c (fun _ => a309 7) (fun _ => a309 6))) (fun _ => zd_tok I (fun _ e1 e2 e3 e4 e5 e6 e7 e8 e9 b1 b2 b3 b4 b5 b6 b7 b8 b9 b10 b11 b12 b13 b14 b15 b16 b17 b18 b19 I' => k2 x8 x9 e1 e2 e3 e4 e5 e6 e7 e8 e9 b1 b2 b3 b4 b5 b6 b7 b8 b9 b10 b11 b12 b13 b14 b15 b16 b17 b18 b19 I'))) (fun _ => a251))))
theorem zl_93 {post : Int32 → Prop} {L : Nat} {xs : Nat → Int32} {J55 : Int32 → Int32 → Int32 → Int32 → Int32 → Int32 → Int32 → Int32 → Int32 → Int32 → Int32 → (Nat → Int32) → (Nat → Int32) → (Nat → Int32) → (Nat → Int32) → (Nat → Int32) → (Nat → Int32) → (Nat → Int32) → (Nat → Int32) → (Nat → Int32) → (Nat → Int32) → (Nat → Int32) → (Nat → Int32) → (Nat → Int32) → (Nat → Int32) → (Nat → Int32) → (Nat → Int32) → (Nat → Int32) → (Nat → Int32) → (Nat → Int32) → Prop} {x3 x4 : Int32} {x6 kc ks B : Nat} (hL : L ≤ 260) (hB : B ≤ 500) (hJ : ∀ (k : Nat) (e1 e2 e3 e4 e5 e6 e7 e8 e9 : Int32) (b1 b2 b3 b4 b5 b6 b7 b8 b9 b10 b11 b12 b13 b14 b15 b16 b17 b18 b19 : Nat → Int32), k ≤ B + 40 → zd_I (e1, e2, e3, e4, e5, e6, e7, e8, e9, b1, b2, b3, b4, b5, b6, b7, b8, b9, b10, b11, b12, b13, b14, b15, b16, b17, b18, b19) → J55 (nI k) (nI (x6 + 1)) e1 e2 e3 e4 e5 e6 e7 e8 e9 b1 b2 b3 b4 b5 b6 b7 b8 b9 b10 b11 b12 b13 b14 b15 b16 b17 b18 b19) :
    ∀ d t k (x8 x9 : Int32) (e1 e2 e3 e4 e5 e6 e7 e8 e9 : Int32) (b1 b2 b3 b4 b5 b6 b7 b8 b9 b10 b11 b12 b13 b14 b15 b16 b17 b18 b19 : Nat → Int32), t + d = 40 → k ≤ B + t → zd_I (e1, e2, e3, e4, e5, e6, e7, e8, e9, b1, b2, b3, b4, b5, b6, b7, b8, b9, b10, b11, b12, b13, b14, b15, b16, b17, b18, b19) → wL_law_93 post L xs J55 x3 x4 (nI x6) kc ks (d + 1) (nI k) x8 x9 (nI t) e1 e2 e3 e4 e5 e6 e7 e8 e9 b1 b2 b3 b4 b5 b6 b7 b8 b9 b10 b11 b12 b13 b14 b15 b16 b17 b18 b19 := by
  intro d
  induction d with
  | zero =>
    intro t k x8 x9 e1 e2 e3 e4 e5 e6 e7 e8 e9 b1 b2 b3 b4 b5 b6 b7 b8 b9 b10 b11 b12 b13 b14 b15 b16 b17 b18 b19 ht hk I
    exact br_t (nI_le (a := 40) (by omega) (by omega)) (nm_r (nI_1 x6) (hJ k e1 e2 e3 e4 e5 e6 e7 e8 e9 b1 b2 b3 b4 b5 b6 b7 b8 b9 b10 b11 b12 b13 b14 b15 b16 b17 b18 b19 (by omega) I))
  | succ d ih =>
    intro t k x8 x9 e1 e2 e3 e4 e5 e6 e7 e8 e9 b1 b2 b3 b4 b5 b6 b7 b8 b9 b10 b11 b12 b13 b14 b15 b16 b17 b18 b19 ht hk I
    refine br_f (nI_ge (b := 40) (by omega) (by decide)) (br_c (fun _ => nm_r (nI_1 x6) (hJ k e1 e2 e3 e4 e5 e6 e7 e8 e9 b1 b2 b3 b4 b5 b6 b7 b8 b9 b10 b11 b12 b13 b14 b15 b16 b17 b18 b19 (by omega) I)) (fun _ => zl_cell hL (by omega) (fun r => nm_r (nI_1 k) (zd_slot I (fun r2 => br_c (fun _ => ?_) (fun _ => ?_))))))
    · exact zl_135 I (fun x8 x9 e1 e2 e3 e4 e5 e6 e7 e8 e9 b1 b2 b3 b4 b5 b6 b7 b8 b9 b10 b11 b12 b13 b14 b15 b16 b17 b18 b19 I' => ih (t + 1) (k + 1) x8 x9 e1 e2 e3 e4 e5 e6 e7 e8 e9 b1 b2 b3 b4 b5 b6 b7 b8 b9 b10 b11 b12 b13 b14 b15 b16 b17 b18 b19 (by omega) (by omega) I')
    · exact zl_135 I (fun x8 x9 e1 e2 e3 e4 e5 e6 e7 e8 e9 b1 b2 b3 b4 b5 b6 b7 b8 b9 b10 b11 b12 b13 b14 b15 b16 b17 b18 b19 I' => ih (t + 1) (k + 1) x8 x9 e1 e2 e3 e4 e5 e6 e7 e8 e9 b1 b2 b3 b4 b5 b6 b7 b8 b9 b10 b11 b12 b13 b14 b15 b16 b17 b18 b19 (by omega) (by omega) I')
theorem zl_444 {post : Int32 → Prop} {L : Nat} {xs : Nat → Int32} {J427 : Int32 → Int32 → Int32 → Int32 → Int32 → Int32 → Int32 → Int32 → Int32 → Int32 → (Nat → Int32) → (Nat → Int32) → (Nat → Int32) → (Nat → Int32) → (Nat → Int32) → (Nat → Int32) → (Nat → Int32) → (Nat → Int32) → (Nat → Int32) → (Nat → Int32) → (Nat → Int32) → (Nat → Int32) → (Nat → Int32) → (Nat → Int32) → (Nat → Int32) → (Nat → Int32) → (Nat → Int32) → (Nat → Int32) → (Nat → Int32) → Prop} {x6 x8 : Int32} {x kc ks : Nat} (hR : ∀ n, rt n = nI (R n)) (hE : ∀ n, en n = nI (E n)) (h : zi_inv N C U S op K A P O L' Ow cl so sp R E) (hj : zj_inv N U op K ss cl R E) (hop : op = -1) (hU0 : U ≠ 0) (hc0 : ∀ c, c < U → K c = 11 → ¬ cl (A c).toNatClampNeg = 0)
    (hnt : ¬ x6 = 0 → ∀ c, c < U → K c ≠ 7) (hneg : ∀ l, 1 ≤ l → ∀ a w, a < N → zw_k (zw_E K A O Ow cl U) l a a w → w < 0) (hx : x < N) (hx8 : cl x = 0 → x8 = 0)
    (hJ : ∀ (lv fn fi pl : Int32) (vi vv ps pv pt : Nat → Int32), J427 (nI (x + 1)) (nI N) (nI C) (nI U) op (nI S) pl lv fn fi K A Ow O P L' cl rt en ss so sp ww lw vi vv ps pv pt) :
    ∀ d i (lv fn fi pl : Int32) (vi vv ps pv pt : Nat → Int32), i + d = 6 → wL_law_444 post L xs J427 x6 (nI x) x8 kc ks (d + 1) (nI i) (nI N) (nI C) (nI U) op (nI S) pl lv fn fi K A Ow O P L' cl rt en ss so sp ww lw vi vv ps pv pt := by
  have hb := h.1
  intro d
  induction d with
  | zero => intro i lv fn fi pl vi vv ps pv pt hi; exact br_t (nI_le (a := 6) (by omega) (by omega)) (nm_r (nI_1 x) (hJ _ _ _ _ _ _ _ _ _))
  | succ d ih =>
    intro i lv fn fi pl vi vv ps pv pt hi
    refine br_f (nI_ge (b := 6) (by omega) (by decide)) (zd_eval (nt := ¬ x6 = 0) hR hE h hj hop hU0 hc0 hnt hneg hx (by omega) (fun hc => ?_) (fun hc lv pl vi vv ps pv pt => ?_) (fun hc hn lv fn fi pl vi vv ps pv pt => ?_))
    · refine br_f (by decide) ?_
      by_cases h6 : x6 = 0
      · exact br_t h6 (nm_r (nI_1 i) (ih (i + 1) _ _ _ _ _ _ _ _ _ (by omega)))
      · exact br_f h6 (br_t (hx8 hc) (nm_r (nI_1 i) (ih (i + 1) _ _ _ _ _ _ _ _ _ (by omega))))
    · refine br_f (by decide) ?_
      by_cases h6 : x6 = 0
      · exact br_t h6 (nm_r (nI_1 i) (ih (i + 1) _ _ _ _ _ _ _ _ _ (by omega)))
      · refine br_f h6 ?_
        by_cases h8 : x8 = 0
        · exact br_t h8 (nm_r (nI_1 i) (ih (i + 1) _ _ _ _ _ _ _ _ _ (by omega)))
        · exact br_f h8 (br_t rfl (br_t rfl (br_t rfl (nm_r (nI_1 i) (ih (i + 1) _ _ _ _ _ _ _ _ _ (by omega))))))
    · exact br_f (by decide) (br_t (Classical.byContradiction hn) (nm_r (nI_1 i) (ih (i + 1) _ _ _ _ _ _ _ _ _ (by omega))))
theorem zl_427 {post : Int32 → Prop} {L : Nat} {xs : Nat → Int32} {x6 : Int32} {kc ks : Nat} (hN : N = 2) (hR : ∀ n, rt n = nI (R n)) (hE : ∀ n, en n = nI (E n)) (h : zi_inv N C U S op K A P O L' Ow cl so sp R E) (hj : zj_inv N U op K ss cl R E) (hop : op = -1) (hU0 : U ≠ 0) (hc0 : ∀ c, c < U → K c = 11 → ¬ cl (A c).toNatClampNeg = 0)
    (hnt : ¬ x6 = 0 → ∀ c, c < U → K c ≠ 7) (hneg : ∀ l, 1 ≤ l → ∀ a w, a < N → zw_k (zw_E K A O Ow cl U) l a a w → w < 0) (hp : post 1) :
    ∀ d x (lv fn fi pl : Int32) (vi vv ps pv pt : Nat → Int32), x + d = 2 → wL_law_427 post L xs x6 kc ks (d + 1) (nI x) (nI N) (nI C) (nI U) op (nI S) pl lv fn fi K A Ow O P L' cl rt en ss so sp ww lw vi vv ps pv pt := by
  have hb := h.1
  intro d
  induction d with
  | zero => intro x lv fn fi pl vi vv ps pv pt hi; exact br_t (nI_le (a := 2) (by omega) (by omega)) hp
  | succ d ih =>
    intro x lv fn fi pl vi vv ps pv pt hi
    have hx : x < N := by omega
    have ex : (nI x).toNatClampNeg = x := nI_clamp (by omega)
    refine br_f (nI_ge (b := 2) (by omega) (by decide)) ?_
    unfold wpX_defined
    refine zx_nm1 hx (by omega) (br_f zn_10 ⟨vp_in_nI (by omega) (by omega), ?_⟩)
    rcases h.2.1 x with hc | hc
    · exact br_t (by rw [ex]; exact hc) ⟨_, zl_444 hR hE h hj hop hU0 hc0 hnt hneg hx (fun _ => rfl) (fun lv fn fi pl vi vv ps pv pt => ih (x + 1) lv fn fi pl vi vv ps pv pt (by omega)) 6 0 _ _ _ _ _ _ _ _ _ (by omega)⟩
    · exact br_f (by rw [ex, hc]; decide) ⟨_, zl_444 hR hE h hj hop hU0 hc0 hnt hneg hx (fun z => by rw [z] at hc; exact absurd hc (by decide)) (fun lv fn fi pl vi vv ps pv pt => ih (x + 1) lv fn fi pl vi vv ps pv pt (by omega)) 6 0 _ _ _ _ _ _ _ _ _ (by omega)⟩
theorem zl_387 {post : Int32 → Prop} {L : Nat} {xs : Nat → Int32} {kc ks : Nat} (hN : N = 2) (hR : ∀ n, rt n = nI (R n)) (hE : ∀ n, en n = nI (E n)) (h : zi_inv N C U S op K A P O L' Ow cl so sp R E) (hj : zj_inv N U op K ss cl R E) (hop : op = -1) (hU0 : U ≠ 0) (hc0 : ∀ c, c < U → K c = 11 → ¬ cl (A c).toNatClampNeg = 0)
    (hneg : ∀ l, 1 ≤ l → ∀ a w, a < N → zw_k (zw_E K A O Ow cl U) l a a w → w < 0) (hp : post 1) :
    ∀ d q (x6 : Int32), q + d = U → (¬ x6 = 0 → ∀ c, c < q → K c ≠ 7) → wL_law_387 post L xs kc ks (nI N) (nI C) (nI U) op (nI S) pl lv fn fi K A Ow O P L' cl rt en ss so sp ww lw vi vv ps pv pt (d + 1) x6 (nI q) := by
  have hb := h.1
  intro d
  induction d with
  | zero =>
    intro q x6 hq h7
    exact br_t (nI_le (by omega) (by omega)) ⟨_, zl_427 (x6 := x6) hN hR hE h hj hop hU0 hc0 (fun z c hc => h7 z c (by omega)) hneg hp 2 0 _ _ _ _ _ _ _ _ _ (by omega)⟩
  | succ d ih =>
    intro q x6 hq h7
    have e : (nI q).toNatClampNeg = q := nI_clamp (by omega)
    refine br_f (nI_ge (by omega) (by omega)) (br_f (nI_ge (b := 200) (by omega) (by decide)) ?_)
    unfold wpX_cellKind wpX_isCell
    refine br_f (nI_pos (by omega)) (br_f (nI_ge (by omega) (by omega)) (br_f zn_10 ⟨vp_in_nI (by omega) (by omega), ?_⟩))
    by_cases hk : K (nI q).toNatClampNeg = 7
    · exact br_t hk (nm_r (nI_1 q) (ih (q + 1) 0 (by omega) (fun z => absurd rfl z)))
    · refine br_f hk (nm_r (nI_1 q) (ih (q + 1) x6 (by omega) (fun z c hc => ?_)))
      rw [e] at hk
      by_cases ec : c = q
      · rw [ec]; exact hk
      · exact h7 z c (by omega)
theorem zl_55 {post : Int32 → Prop} {L : Nat} {xs : Nat → Int32} {x3 x4 : Int32} {kc ks : Nat} (hL : L ≤ 260) (hp : post 1) :
    ∀ d x k (e1 e2 e3 e4 e5 e6 e7 e8 e9 : Int32) (b1 b2 b3 b4 b5 b6 b7 b8 b9 b10 b11 b12 b13 b14 b15 b16 b17 b18 b19 : Nat → Int32), x + d = 2 → k ≤ 1 + 40 * x → zd_I (e1, e2, e3, e4, e5, e6, e7, e8, e9, b1, b2, b3, b4, b5, b6, b7, b8, b9, b10, b11, b12, b13, b14, b15, b16, b17, b18, b19) → wL_law_55 post L xs x3 x4 kc ks (d + 1) (nI k) (nI x) e1 e2 e3 e4 e5 e6 e7 e8 e9 b1 b2 b3 b4 b5 b6 b7 b8 b9 b10 b11 b12 b13 b14 b15 b16 b17 b18 b19 := by
  intro d
  induction d with
  | zero =>
    intro x k e1 e2 e3 e4 e5 e6 e7 e8 e9 b1 b2 b3 b4 b5 b6 b7 b8 b9 b10 b11 b12 b13 b14 b15 b16 b17 b18 b19 hx hk I
    refine br_t (nI_le (a := 2) (by omega) (by omega)) ?_
    obtain ⟨N, C, U, S, op, lv, fn, fi, pl, K, A, Ow, O, P, L', cl, rt, en, ss, so, sp, ww, lw, vi, vv, ps, pv, pt, R, E, hu, hN, hR, hE, h, hj⟩ := I
    rw [hu]
    refine zd_verdict h (fun r ww' lw' hr => br_f hr hp) (fun hop hU0 hc0 hg ww' lw' => br_t rfl ⟨_, zl_387 hN hR hE h hj hop hU0 hc0 ?_ hp U 0 1 (by omega) (fun _ c hc => absurd hc (Nat.not_lt_zero c))⟩)
    have hb := h.1
    have href := zi_ref h
    have hA := h.2.2.2.2.1
    have hE' : ∀ x y w, zw_E K A O Ow cl U x y w → x < N ∧ y < N := by
      intro x y w ⟨c, c1, c2, c3, c4, c5, c6, c7, c8⟩
      obtain ⟨n, n1, n2, _⟩ := h.2.2.2.2.2.1 c c1
      obtain ⟨m, m1, m2⟩ := hA c c1 c2
      rw [n2] at c3
      rw [m2] at c5
      have q1 := zn_im c3 (by omega) (by omega)
      have q2 := zn_im c5 (by omega) (by omega)
      exact ⟨by omega, by omega⟩
    have hO : ∀ c, c < U → K c = 11 → cl (Ow c).toNatClampNeg = 1 → (Ow c).toNatClampNeg < N ∧ zg_bd 96 (O c) := by
      intro c z1 z2 z3
      obtain ⟨n, w1, w2, _, _, _, w6⟩ := href c z1 z2 z3
      exact ⟨by rw [w2, nI_clamp (by omega)]; exact w1, w6⟩
    subst hN
    intro l hl a w ha hw
    refine zw_neg hE' (fun l a w h1 h2 ha hw => ?_) l l (Nat.le_refl _) hl a w ha hw
    obtain ⟨_, s2, s3⟩ := zw_seq (by omega) hO hE' ha l a w (by omega) hw
    have hcla : cl a = 1 := by
      obtain ⟨l', rfl⟩ : ∃ l', l = 1 + l' := ⟨l - 1, by omega⟩
      obtain ⟨s1, w1, _, ⟨s0, _, _, ⟨g1, _⟩, ⟨c, c1, c2, c3, c4, _⟩, _⟩, _, _⟩ := zw_split (m := 1) l' a a w hw
      rw [g1]; exact c4
    have g1 := hg a ha hcla
    have g2 := zw_g (K := K) (A := A) (O := O) (Ow := Ow) (cl := cl) (U := U) (a := a) (b := a) 2 l h1 h2
    have g3 := Int32.lt_of_le_of_lt g2 g1
    have g4 := Int32.lt_iff_toInt_lt.mp g3
    rw [show (0 : Int32).toInt = 0 by decide] at g4
    omega
  | succ d ih =>
    intro x k e1 e2 e3 e4 e5 e6 e7 e8 e9 b1 b2 b3 b4 b5 b6 b7 b8 b9 b10 b11 b12 b13 b14 b15 b16 b17 b18 b19 hx hk I
    have go : ∀ z0 : Int32, wL_law_75 post L xs (wL_law_55 post L xs x3 x4 kc ks (d + 1)) x3 x4 (nI k) (nI x) z0 kc ks e1 e2 e3 e4 e5 e6 e7 e8 e9 b1 b2 b3 b4 b5 b6 b7 b8 b9 b10 b11 b12 b13 b14 b15 b16 b17 b18 b19 := fun z0 =>
      zd_beg I (fun _ e1 e2 e3 e4 e5 e6 e7 e8 e9 b1 b2 b3 b4 b5 b6 b7 b8 b9 b10 b11 b12 b13 b14 b15 b16 b17 b18 b19 I' => ⟨_, zl_93 hL (B := k) (by omega) (fun k' e1 e2 e3 e4 e5 e6 e7 e8 e9 b1 b2 b3 b4 b5 b6 b7 b8 b9 b10 b11 b12 b13 b14 b15 b16 b17 b18 b19 hk' I'' => ih (x + 1) k' e1 e2 e3 e4 e5 e6 e7 e8 e9 b1 b2 b3 b4 b5 b6 b7 b8 b9 b10 b11 b12 b13 b14 b15 b16 b17 b18 b19 (by omega) (by omega) I'') 40 0 k 4 0 e1 e2 e3 e4 e5 e6 e7 e8 e9 b1 b2 b3 b4 b5 b6 b7 b8 b9 b10 b11 b12 b13 b14 b15 b16 b17 b18 b19 (by omega) (by omega) I'⟩)
    exact br_f (nI_ge (b := 2) (by omega) (by decide)) (br_c (fun _ => go _) (fun _ => go _))
theorem i_vc (xs : Nat → Int32) (L : Nat) (hL : L ≤ 260) : wpL_law (fun r => r = 1) L xs := by
  have I0 : zd_I ((2 : Int32), (96 : Int32), (0 : Int32), (-1 : Int32), (0 : Int32), (0 : Int32), (0 : Int32), (-1 : Int32), (-1 : Int32), (fun _ => 0), (fun _ => 0), (fun _ => 0), (fun _ => 0), (fun _ => 0), (fun _ => 0), (fun _ => 0), (fun _ => 0), (fun _ => 0), (fun _ => 0), (fun _ => 0), (fun _ => 0), (fun _ => 0), (fun _ => 0), (fun _ => 0), (fun _ => 0), (fun _ => 0), (fun _ => 0), (fun _ => 0)) :=
    zd_mk (N := 2) (C := 96) (U := 0) (S := 0) (R := fun _ => 0) (E := fun _ => 0) rfl (fun _ => rfl) (fun _ => rfl) (zi_init (by decide)) ⟨fun n _ hc => absurd (show (0 : Int32) = 1 from hc) (by decide), fun o ho eo => absurd eo.symm (zn_ne1 (by omega))⟩
  refine ⟨19, 1864, by decide, by decide, ?_⟩
  refine ⟨by decide, by decide, by decide, by decide, by decide, by decide, by decide, by decide, by decide, by decide, by decide, by decide, by decide, by decide, by decide, by decide, by decide, by decide, by decide, by decide, by decide, by decide, by decide, by decide, by decide, by decide, by decide, by decide, by decide, by decide, by decide, by decide, by decide, by decide, by decide, by decide, by decide, by decide, br_t (by decide) (br_t (by decide) (br_t (by decide) (br_t (by decide) ?_)))⟩
  refine zl_cell (k := 0) hL (by decide) (fun r => zl_pos (by decide) (fun r2 => br_c (fun _ => ?_) (fun _ => ?_)))
  · exact zl_pos (by decide) (fun r3 => br_c (fun _ => ⟨_, zl_55 (post := fun r => r = 1) hL rfl 2 0 1 _ _ _ _ _ _ _ _ _ _ _ _ _ _ _ _ _ _ _ _ _ _ _ _ _ _ _ _ (by decide) (by decide) I0⟩) (fun _ => ⟨_, zl_55 (post := fun r => r = 1) hL rfl 2 0 1 _ _ _ _ _ _ _ _ _ _ _ _ _ _ _ _ _ _ _ _ _ _ _ _ _ _ _ _ (by decide) (by decide) I0⟩))
  · exact zl_pos (by decide) (fun r3 => br_c (fun _ => ⟨_, zl_55 (post := fun r => r = 1) hL rfl 2 0 1 _ _ _ _ _ _ _ _ _ _ _ _ _ _ _ _ _ _ _ _ _ _ _ _ _ _ _ _ (by decide) (by decide) I0⟩) (fun _ => ⟨_, zl_55 (post := fun r => r = 1) hL rfl 2 0 1 _ _ _ _ _ _ _ _ _ _ _ _ _ _ _ _ _ _ _ _ _ _ _ _ _ _ _ _ (by decide) (by decide) I0⟩))
end Z24
