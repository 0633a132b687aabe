/-! eval, the reference's side -/
section Z14
variable {N C U S : Nat} {op lv fn fi pl yne ysp yvsp ypn : Int32}
variable {K A Ow O P L cl rt en ss so sp ds ww lw vi vv ps pv pt yef yet yew yb ynb yv yx ysv ysi yvs ymo ymv yip ypN ypI : Nat → Int32}
variable {R E : Nat → Nat}
theorem zy_known {post : Int32 → Prop} {z m : Nat} {a b : Int32} (ha : a = nI z) (hb : b = nI m) (hz : z < 8) (hm : m < 2 ^ 30) (h1 : m < 32 → ¬ ymo (z * 32 + m) = 0 → post 1) (h0 : ¬ (m < 32 ∧ ¬ ymo (z * 32 + m) = 0) → post 0) : wpY_known post ((nI N), (nI C), (nI U), op, (nI S), yne, ysp, yvsp, ypn, lv, fn, fi, K, A, cl, ds, en, ss, yef, yet, yew, yb, ynb, yv, yx, ysv, ysi, yvs, ymo, ymv, yip, ypN, ypI) a b := by
  subst ha hb
  refine br_f (nI_pos (by omega)) (br_f (nI_ge (b := 8) hz (by decide)) (br_f (nI_pos (by omega)) ?_))
  by_cases hm32 : m < 32
  · have eq : nI z * 32 + nI m = nI (z * 32 + m) := by rw [show (32 : Int32) = nI 32 from rfl, pk_mul, nI_add]
    have e2 : (nI (z * 32 + m)).toNatClampNeg = z * 32 + m := nI_clamp (by omega)
    refine br_f (nI_ge (b := 32) hm32 (by decide)) ⟨by rw [eq]; exact vp_in_nI (by omega) (by omega), ?_⟩
    rw [eq, e2]
    exact br_c (fun h => h0 (fun z => z.2 h)) (fun h => h1 hm32 h)
  · exact br_t (nI_le (a := 32) (by omega) (by omega)) (h0 (fun z => hm32 z.1))
theorem zy_m23 {post : Int32 → SY → Prop} {x r n j : Nat} {V PS : Nat → Int32} (hx : x < 8) (hr : 1 ≤ r) (h96 : r + n ≤ 96) (hj : j < 32) (hN : N ≤ 8) (hU : r + n ≤ U) (hU9 : U ≤ 96) (hen : en x = nI (r + n)) (hd : zs_def K P O L r n)
    (hA : ∀ c, c < U → K c = 11 → ∃ m, m < N ∧ A c = nI m) (hv : zs_vis K V r (nI j) n) (hmo : ∀ q, q < 256 → (ymo q = 0 ↔ ¬ PS q = 2))
    (hp : ∀ (fnd : Int32) (m : Nat) (yv' yx' sv si : Nat → Int32), zs_first (zf_D K A V PS) r (r + n) fnd → (∀ i, i < n → zq (yv' (r + i)) (yx' (r + i)) (V (r + i))) → post fnd ((nI N), (nI C), (nI U), op, (nI S), yne, (nI m), yvsp, ypn, lv, fn, fi, K, A, cl, ds, en, ss, yef, yet, yew, yb, ynb, yv', yx', sv, si, yvs, ymo, ymv, yip, ypN, ypI)) :
    ∀ d i (fnd : Int32) (yv' yx' sv si : Nat → Int32), i + d = n → zs_first (zf_D K A V PS) r (r + i) fnd → (∀ i', i' < i → zq (yv' (r + i')) (yx' (r + i')) (V (r + i'))) →
      zs_st (fun k s => zq (sv k) (si k) (zs_sv K V r (nI j) s)) (zs_stk K r i) → wY_markWalk_23 post (nI x) (d + 1) fnd (nI (r + i)) (nI N) (nI C) (nI U) op (nI S) yne (nI (zs_stk K r i).length) yvsp ypn lv fn fi K A cl ds en ss yef yet yew yb ynb yv' yx' sv si yvs ymo ymv yip ypN ypI := by
  have ex : (nI x).toNatClampNeg = x := nI_clamp (by omega)
  have hin8 : vp_in (nI x) 8 := vp_in_nI hx (by omega)
  have hne : ∀ i, i < n → ∃ s t, zs_stk K r i = s :: t := fun i hi => by
    obtain ⟨s, t, e, _⟩ := hd i hi
    exact ⟨s, t, e⟩
  intro d
  induction d with
  | zero =>
    intro i fnd yv' yx' sv si hi hf hz hst
    obtain rfl : i = n := by omega
    exact ⟨hin8, br_t (by rw [ex, hen]; exact nI_le (Nat.le_refl _) (by omega)) (hp fnd _ yv' yx' sv si hf hz)⟩
  | succ d ih =>
    intro i fnd yv' yx' sv si hi hf hz hst
    have e : (nI (r + i)).toNatClampNeg = r + i := nI_clamp (by omega)
    have hin : vp_in (nI (r + i)) 96 := vp_in_nI (by omega) (by omega)
    obtain ⟨s, t, es, _, _, _, k, hk1, hk11, hk⟩ := hd i (by omega)
    have hrg := zs_vis_rg hr (by omega) hj hne hv (i + 1) i (by omega) (by omega)
    have hVs := hv i (by omega) s t es
    have hlen := zs_stk_len K r i
    rw [es] at hst hlen ⊢
    rw [List.length_cons] at hlen ⊢
    have et' : (nI t.length).toNatClampNeg = t.length := nI_clamp (by omega)
    have hint : vp_in (nI t.length) 100 := vp_in_nI (by omega) (by omega)
    have hq : zq (sv t.length) (si t.length) (V (r + i)) := by rw [hVs]; exact hst.1
    have hst2 := hst.2
    have hb01 : sv t.length = 0 ∨ sv t.length = 1 := by
      rcases zq_c hq with h | h
      · exact Or.inl h.2
      · exact Or.inr h.2.1
    have hnar : vp_nar .boolean (sv t.length) = sv t.length := by rcases hb01 with h | h <;> rw [h] <;> decide
    refine ⟨hin8, br_f (by rw [ex, hen]; exact nI_ge (by omega) (by omega)) (br_f (nI_ge (by omega) (by omega)) (br_f (nI_nle (by omega) (by omega)) (nm_r (nI_pred t.length) ⟨hint, nm_r (e' := sv t.length) (by rw [et']) ⟨hint, nm_r (e' := si t.length) (by rw [et']) ⟨hin, nm_r (e' := upd yv' (r + i) (sv t.length)) (by rw [e, hnar]) ⟨hin, nm_r (e' := upd yx' (r + i) (si t.length)) (by rw [e]) ⟨hin, nm_r (e' := nI k) (by rw [e, hk]) ?_⟩⟩⟩⟩⟩)))⟩
    have ek : zs_stk K r (i + 1) = zs_kids (nI k) (r + i) ++ t := by rw [zs_tl es, hk]
    have hz' : ∀ i', i' < i + 1 → zq (upd yv' (r + i) (sv t.length) (r + i')) (upd yx' (r + i) (si t.length) (r + i')) (V (r + i')) := by
      intro i' hi'
      by_cases ei : i' = i
      · rw [ei, pk_us, pk_us]; exact hq
      · rw [pk_un (by omega), pk_un (by omega)]; exact hz i' (by omega)
    have IH := fun (fnd : Int32) (sv' si' : Nat → Int32) h1 h3 => ih (i + 1) fnd (upd yv' (r + i) (sv t.length)) (upd yx' (r + i) (si t.length)) sv' si' (by omega) h1 hz' h3
    have hr96 : r + i < 96 := by omega
    have stay : ¬ nI k = 11 → zs_first (zf_D K A V PS) r (r + (i + 1)) fnd := fun hk' => zf_n (hi := r + i) hf (fun z => hk' (hk.symm.trans z.1))
    have hp1 : V (r + i) ≠ -1 → V (r + i) + 1 ≠ -1 := fun hne1 => by
      obtain ⟨m, hm, em⟩ := hrg.resolve_left hne1
      rw [em, nI_1]; exact zn_ne1 (by omega)
    have hm1 : V (r + i) ≠ 0 → V (r + i) - 1 ≠ -1 := fun hne0 => by
      rcases hrg with h | ⟨m, hm, em⟩
      · rw [h]; decide
      · have : 0 < m := by
          rcases Nat.eq_zero_or_pos m with h | h
          · rw [h] at em; exact absurd em hne0
          · exact h
        rw [em, zn_s this]; exact zn_ne1 (by omega)
    have hl2 : t.length + 2 ≤ 100 := by omega
    clear ih hp hst
    rcases zk_c hk1 hk11 with rfl | rfl | rfl | rfl | rfl | rfl | rfl | rfl | rfl | rfl | rfl
    · have H := IH fnd sv si (stay (by decide)) (by rw [ek]; exact hst2)
      rw [ek] at H
      exact br_f (by decide) (br_f (by decide) (br_f (by decide) (br_f (by decide) (br_t (by decide) (nm_r (nI_1 (r + i)) H)))))
    · have H := IH fnd (upd sv t.length (sv t.length)) (upd si t.length (0)) (stay (by decide)) (by rw [ek]; exact zs_st_push (q := fun a b s => zq a b (zs_sv K V r (nI j) s)) (a := sv) (b := si) (n := t.length) (s := (r + i, true)) rfl (zq_2 (by omega) hk hq) hst2)
      rw [ek] at H
      exact br_f (by decide) (br_t (by decide) (zy_push (by omega) hb01 (nm_r (nI_1 (r + i)) H)))
    · have H := IH fnd (upd (upd sv t.length (sv t.length)) (t.length + 1) (sv t.length)) (upd (upd si t.length (si t.length)) (t.length + 1) (si t.length)) (stay (by decide)) (by rw [ek]; exact zs_st_push (q := fun a b s => zq a b (zs_sv K V r (nI j) s)) (n := t.length + 1) (s := (r + i, true)) rfl (zq_x (by omega) (by rw [hk]; decide) (by rw [hk]; decide) (by rw [hk]; decide) hq) (zs_st_push (q := fun a b s => zq a b (zs_sv K V r (nI j) s)) (a := sv) (b := si) (n := t.length) (s := (r + i, false)) rfl (zq_x (by omega) (by rw [hk]; decide) (by rw [hk]; decide) (by rw [hk]; decide) hq) hst2))
      rw [ek] at H
      exact br_f (by decide) (br_f (by decide) (br_f (by decide) (br_f (by decide) (br_f (by decide) (zy_push (by omega) hb01 (zy_push (by omega) hb01 (nm_r (nI_1 (r + i)) H)))))))
    · have H := IH fnd (upd (upd sv t.length (sv t.length)) (t.length + 1) (sv t.length)) (upd (upd si t.length (si t.length)) (t.length + 1) (si t.length)) (stay (by decide)) (by rw [ek]; exact zs_st_push (q := fun a b s => zq a b (zs_sv K V r (nI j) s)) (n := t.length + 1) (s := (r + i, true)) rfl (zq_x (by omega) (by rw [hk]; decide) (by rw [hk]; decide) (by rw [hk]; decide) hq) (zs_st_push (q := fun a b s => zq a b (zs_sv K V r (nI j) s)) (a := sv) (b := si) (n := t.length) (s := (r + i, false)) rfl (zq_x (by omega) (by rw [hk]; decide) (by rw [hk]; decide) (by rw [hk]; decide) hq) hst2))
      rw [ek] at H
      exact br_f (by decide) (br_f (by decide) (br_f (by decide) (br_f (by decide) (br_f (by decide) (zy_push (by omega) hb01 (zy_push (by omega) hb01 (nm_r (nI_1 (r + i)) H)))))))
    · have H := IH fnd (upd (upd sv t.length (sv t.length)) (t.length + 1) (sv t.length)) (upd (upd si t.length (si t.length)) (t.length + 1) (si t.length)) (stay (by decide)) (by rw [ek]; exact zs_st_push (q := fun a b s => zq a b (zs_sv K V r (nI j) s)) (n := t.length + 1) (s := (r + i, true)) rfl (zq_x (by omega) (by rw [hk]; decide) (by rw [hk]; decide) (by rw [hk]; decide) hq) (zs_st_push (q := fun a b s => zq a b (zs_sv K V r (nI j) s)) (a := sv) (b := si) (n := t.length) (s := (r + i, false)) rfl (zq_x (by omega) (by rw [hk]; decide) (by rw [hk]; decide) (by rw [hk]; decide) hq) hst2))
      rw [ek] at H
      exact br_f (by decide) (br_f (by decide) (br_f (by decide) (br_f (by decide) (br_f (by decide) (zy_push (by omega) hb01 (zy_push (by omega) hb01 (nm_r (nI_1 (r + i)) H)))))))
    · refine br_f (by decide) (br_f (by decide) (br_f (by decide) (br_t (by decide) (?_))))
      by_cases h0 : si t.length = 0
      · have H := IH fnd (upd (upd sv t.length 0) (t.length + 1) (sv t.length)) (upd (upd si t.length 0) (t.length + 1) 0) (stay (by decide)) (by rw [ek]; exact zs_st_push (q := fun a b s => zq a b (zs_sv K V r (nI j) s)) (n := t.length + 1) (s := (r + i, true)) rfl (zq_6a (by omega) hk hq h0) (zs_st_push (q := fun a b s => zq a b (zs_sv K V r (nI j) s)) (a := sv) (b := si) (n := t.length) (s := (r + i, false)) rfl (zq_6b (by omega) hk hq h0) hst2))
        rw [ek] at H
        exact br_t h0 (zy_push (by omega) (Or.inl rfl) (zy_push (by omega) hb01 (nm_r (nI_1 (r + i)) H)))
      · have H := IH fnd (upd (upd sv t.length (sv t.length)) (t.length + 1) 0) (upd (upd si t.length (si t.length - 1)) (t.length + 1) 0) (stay (by decide)) (by rw [ek]; exact zs_st_push (q := fun a b s => zq a b (zs_sv K V r (nI j) s)) (n := t.length + 1) (s := (r + i, true)) rfl (zq_6c (by omega) hk hq h0) (zs_st_push (q := fun a b s => zq a b (zs_sv K V r (nI j) s)) (a := sv) (b := si) (n := t.length) (s := (r + i, false)) rfl (zq_6d (by omega) hk hq h0 hm1) hst2))
        rw [ek] at H
        exact br_f h0 (zy_push (by omega) hb01 (zy_push (by omega) (Or.inl rfl) (nm_r (nI_1 (r + i)) H)))
    · have H := IH fnd (upd sv t.length (sv t.length)) (upd si t.length (si t.length + 1)) (stay (by decide)) (by rw [ek]; exact zs_st_push (q := fun a b s => zq a b (zs_sv K V r (nI j) s)) (a := sv) (b := si) (n := t.length) (s := (r + i, true)) rfl (zq_7 (by omega) hk hq hp1) hst2)
      rw [ek] at H
      exact br_f (by decide) (br_f (by decide) (br_t (by decide) (zy_push (by omega) hb01 (nm_r (nI_1 (r + i)) H))))
    · have H := IH fnd (upd (upd sv t.length (sv t.length)) (t.length + 1) (sv t.length)) (upd (upd si t.length (si t.length)) (t.length + 1) (si t.length)) (stay (by decide)) (by rw [ek]; exact zs_st_push (q := fun a b s => zq a b (zs_sv K V r (nI j) s)) (n := t.length + 1) (s := (r + i, true)) rfl (zq_x (by omega) (by rw [hk]; decide) (by rw [hk]; decide) (by rw [hk]; decide) hq) (zs_st_push (q := fun a b s => zq a b (zs_sv K V r (nI j) s)) (a := sv) (b := si) (n := t.length) (s := (r + i, false)) rfl (zq_x (by omega) (by rw [hk]; decide) (by rw [hk]; decide) (by rw [hk]; decide) hq) hst2))
      rw [ek] at H
      exact br_f (by decide) (br_f (by decide) (br_f (by decide) (br_f (by decide) (br_f (by decide) (zy_push (by omega) hb01 (zy_push (by omega) hb01 (nm_r (nI_1 (r + i)) H)))))))
    · have H := IH fnd (upd (upd sv t.length (sv t.length)) (t.length + 1) (sv t.length)) (upd (upd si t.length (si t.length)) (t.length + 1) (si t.length)) (stay (by decide)) (by rw [ek]; exact zs_st_push (q := fun a b s => zq a b (zs_sv K V r (nI j) s)) (n := t.length + 1) (s := (r + i, true)) rfl (zq_x (by omega) (by rw [hk]; decide) (by rw [hk]; decide) (by rw [hk]; decide) hq) (zs_st_push (q := fun a b s => zq a b (zs_sv K V r (nI j) s)) (a := sv) (b := si) (n := t.length) (s := (r + i, false)) rfl (zq_x (by omega) (by rw [hk]; decide) (by rw [hk]; decide) (by rw [hk]; decide) hq) hst2))
      rw [ek] at H
      exact br_f (by decide) (br_f (by decide) (br_f (by decide) (br_f (by decide) (br_f (by decide) (zy_push (by omega) hb01 (zy_push (by omega) hb01 (nm_r (nI_1 (r + i)) H)))))))
    · have H := IH fnd (upd (upd sv t.length (sv t.length)) (t.length + 1) (sv t.length)) (upd (upd si t.length (si t.length)) (t.length + 1) (si t.length)) (stay (by decide)) (by rw [ek]; exact zs_st_push (q := fun a b s => zq a b (zs_sv K V r (nI j) s)) (n := t.length + 1) (s := (r + i, true)) rfl (zq_x (by omega) (by rw [hk]; decide) (by rw [hk]; decide) (by rw [hk]; decide) hq) (zs_st_push (q := fun a b s => zq a b (zs_sv K V r (nI j) s)) (a := sv) (b := si) (n := t.length) (s := (r + i, false)) rfl (zq_x (by omega) (by rw [hk]; decide) (by rw [hk]; decide) (by rw [hk]; decide) hq) hst2))
      rw [ek] at H
      exact br_f (by decide) (br_f (by decide) (br_f (by decide) (br_f (by decide) (br_f (by decide) (zy_push (by omega) hb01 (zy_push (by omega) hb01 (nm_r (nI_1 (r + i)) H)))))))
    · refine br_t (by decide) ?_
      have H := fun fnd' hf' => IH fnd' sv si hf' (by rw [ek]; exact hst2)
      rw [ek] at H
      rcases zq_c hq with ⟨g1, g2⟩ | ⟨g1, g2, g3⟩
      · exact br_t g2 (nm_r (nI_1 (r + i)) (H fnd (zf_n (hi := r + i) hf (fun z => z.2.1 g1))))
      · refine br_f (by rw [g2]; decide) ?_
        obtain ⟨m, hm, em⟩ := hrg.resolve_left g1
        obtain ⟨z, hz8, ez⟩ := hA (r + i) (by omega) hk
        by_cases hf0 : (0 : Int32) ≤ fnd
        · exact br_t hf0 (nm_r (nI_1 (r + i)) (H fnd (zf_f (hi := r + i) hf (fun z => by rw [z] at hf0; exact absurd hf0 (by decide)))))
        · have hfm : fnd = -1 := by
            rcases hf with ⟨h1, _⟩ | ⟨c, _, h2, _, _, h5⟩
            · exact h1
            · rw [h5] at hf0; exact absurd (nI_pos' (by omega)) hf0
          subst hfm
          have eqq : (A (r + i) * 32 + V (r + i)).toNatClampNeg = z * 32 + m ∨ 32 ≤ m := by
            by_cases hm32 : m < 32
            · refine Or.inl ?_
              rw [ez, em, show (32 : Int32) = nI 32 from rfl, pk_mul, nI_add, nI_clamp (by omega)]
            · exact Or.inr (by omega)
          refine br_f hf0 ⟨hin, ?_⟩
          refine zy_known (z := z) (m := m) (by rw [e, ez]) (by rw [g3, em]) (by omega) (by omega) (fun h32 hmo1 => br_f zn_10 (nm_r (nI_1 (r + i)) (H (-1) (zf_n (hi := r + i) hf (fun w => w.2.2 ⟨?_, ?_⟩))))) (fun hnk => br_t rfl (nm_r (nI_1 (r + i)) (H (nI (r + i)) (zf_t (hi := r + i) (by omega) (by omega) hf ⟨hk, g1, fun w => hnk ?_⟩))))
          · rw [em]; exact nI_lt (b := 32) h32 (by decide)
          · rcases eqq with eqq | eqq
            · rw [eqq]
              by_cases h2 : PS (z * 32 + m) = 2
              · exact h2
              · exact absurd ((hmo _ (by omega)).mpr h2) hmo1
            · omega
          · have w1 := w.1
            have w2 := w.2
            rw [em] at w1
            have hm32 := (nI_ltI (b := 32) (by omega) (by omega)).mp w1
            rcases eqq with eqq | eqq
            · rw [eqq] at w2
              exact ⟨hm32, fun h => (hmo _ (by omega)).mp h w2⟩
            · omega
theorem zy_mark {post : Int32 → SY → Prop} {x r n j : Nat} {V PS : Nat → Int32} {y : Int32} (hx : x < 8) (hr : 1 ≤ r) (h96 : r + n ≤ 96) (hj : j < 32) (hN : N ≤ 8) (hU : r + n ≤ U) (hU9 : U ≤ 96) (hds : ds x = nI (r - 1)) (hen : en x = nI (r + n)) (hd : zs_def K P O L r n)
    (hA : ∀ c, c < U → K c = 11 → ∃ m, m < N ∧ A c = nI m) (hv : zs_vis K V r (nI j) n) (hmo : ∀ q, q < 256 → (ymo q = 0 ↔ ¬ PS q = 2)) (hy : zs_first (zf_D K A V PS) r (r + n) y)
    (hp : ∀ (ysp : Int32) (yv yx ysv ysi : Nat → Int32), (∀ i, i < n → zq (yv (r + i)) (yx (r + i)) (V (r + i))) → post y ((nI N), (nI C), (nI U), op, (nI S), yne, ysp, yvsp, ypn, lv, fn, fi, K, A, cl, ds, en, ss, yef, yet, yew, yb, ynb, yv, yx, ysv, ysi, yvs, ymo, ymv, yip, ypN, ypI)) : wpY_markWalk post ((nI N), (nI C), (nI U), op, (nI S), yne, ysp, yvsp, ypn, lv, fn, fi, K, A, cl, ds, en, ss, yef, yet, yew, yb, ynb, yv, yx, ysv, ysi, yvs, ymo, ymv, yip, ypN, ypI) (nI x) (nI j) := by
  have ex : (nI x).toNatClampNeg = x := nI_clamp (by omega)
  unfold wpY_markWalk
  refine zy_push (m := 0) (by omega) (Or.inr rfl) ⟨vp_in_nI hx (by omega), nm_r (e' := nI (r + 0)) (by rw [ex, hds, nI_1]; congr 1; omega) ⟨n + 1, ?_⟩⟩
  refine zy_m23 (V := V) (PS := PS) (P := P) (O := O) (L := L) hx hr h96 hj hN hU hU9 hen hd hA hv hmo (fun fnd m yv' yx' sv si h1 h2 => by rw [zf_un h1 hy]; exact hp _ _ _ _ _ h2) n 0 (-1) yv yx _ _ (by omega) (Or.inl ⟨rfl, fun c a b => by omega⟩) (fun i' hi' => absurd hi' (Nat.not_lt_zero i')) ⟨?_, trivial⟩
  show zq (upd ysv 0 1 0) (upd ysi 0 (nI j) 0) (zs_sv K V r (nI j) (r - 1, true))
  rw [pk_us, pk_us]
  unfold zs_sv
  rw [if_pos (by show r - 1 < r; omega)]
  exact ⟨fun z => absurd z (zn_ne1 (by omega)), fun _ => ⟨rfl, rfl⟩⟩
theorem zy_popV {post : Int32 → SY → Prop} {m : Nat} (hm : m < 100) (hp : post (yvs m) ((nI N), (nI C), (nI U), op, (nI S), yne, ysp, (nI m), ypn, lv, fn, fi, K, A, cl, ds, en, ss, yef, yet, yew, yb, ynb, yv, yx, ysv, ysi, yvs, ymo, ymv, yip, ypN, ypI)) : wpY_popV post ((nI N), (nI C), (nI U), op, (nI S), yne, ysp, (nI (m + 1)), ypn, lv, fn, fi, K, A, cl, ds, en, ss, yef, yet, yew, yb, ynb, yv, yx, ysv, ysi, yvs, ymo, ymv, yip, ypN, ypI) := by
  have e : (nI m).toNatClampNeg = m := nI_clamp (by omega)
  exact br_f (nI_nle (by omega) (by omega)) (nm_r (nI_pred m) ⟨vp_in_nI hm (by omega), by rw [e]; exact hp⟩)
theorem zy_pushV {post : SY → Prop} {m : Nat} {y y' : Int32} (hy : y = y') (hm : m < 100) (hp : post ((nI N), (nI C), (nI U), op, (nI S), yne, ysp, (nI (m + 1)), ypn, lv, fn, fi, K, A, cl, ds, en, ss, yef, yet, yew, yb, ynb, yv, yx, ysv, ysi, (upd yvs m y'), ymo, ymv, yip, ypN, ypI)) : wpY_pushV post ((nI N), (nI C), (nI U), op, (nI S), yne, ysp, (nI m), ypn, lv, fn, fi, K, A, cl, ds, en, ss, yef, yet, yew, yb, ynb, yv, yx, ysv, ysi, yvs, ymo, ymv, yip, ypN, ypI) y := by
  subst hy
  have e : (nI m).toNatClampNeg = m := nI_clamp (by omega)
  exact br_f (nI_ge (b := 100) hm (by decide)) ⟨vp_in_nI hm (by omega), nm_r (by rw [e]) (nm_r (nI_1 m) hp)⟩
theorem zy_v36 {post : Int32 → SY → Prop} {x r n j : Nat} {V PV VV : Nat → Int32} (hx : x < 8) (hr : 1 ≤ r) (h96 : r + n ≤ 96) (hj : j < 32) (hds : ds x = nI (r - 1)) (hd : zs_def K P O L r n) (he : zs_stk K r n = [])
    (hv : zs_vis K V r (nI j) n) (hvv : zs_vals K A V L PV VV r (r + n)) (hq : ∀ i, i < n → zq (yv (r + i)) (yx (r + i)) (V (r + i)))
    (hr11 : ∀ c, r ≤ c → c < r + n → K c = 11 → V c ≠ -1 → ∃ z m, z < 8 ∧ m < 32 ∧ A c = nI z ∧ V c = nI m ∧ ¬ ymo (z * 32 + m) = 0 ∧ PV (z * 32 + m) = ymv (z * 32 + m))
    (hp : ∀ (m : Int32) (vs : Nat → Int32), post (VV r) ((nI N), (nI C), (nI U), op, (nI S), yne, ysp, m, ypn, lv, fn, fi, K, A, cl, ds, en, ss, yef, yet, yew, yb, ynb, yv, yx, ysv, ysi, vs, ymo, ymv, yip, ypN, ypI)) :
    ∀ i vs, i ≤ n → zs_at vs (zs_vl (zs_sv K V r (nI j)) VV L (zs_stk K r i)) → wY_valueWalk_36 post (nI x) (i + 1) (nI (r + i - 1)) (nI N) (nI C) (nI U) op (nI S) yne ysp (nI (zs_vl (zs_sv K V r (nI j)) VV L (zs_stk K r i)).length) ypn lv fn fi K A cl ds en ss yef yet yew yb ynb yv yx ysv ysi vs ymo ymv yip ypN ypI := by
  have ex : (nI x).toNatClampNeg = x := nI_clamp (by omega)
  have hin8 : vp_in (nI x) 8 := vp_in_nI hx (by omega)
  intro i
  induction i with
  | zero =>
    intro vs _ hat
    have hl : zs_vl (zs_sv K V r (nI j)) VV L (zs_stk K r 0) = [VV r] := by
      show zs_vl (zs_sv K V r (nI j)) VV L [(r - 1, true)] = _
      rw [zs_vl_t ?_]
      · show [VV (zs_ch L (r - 1, true))] = _
        unfold zs_ch
        rw [if_pos rfl]
        show [VV (r - 1 + 1)] = _
        rw [show r - 1 + 1 = r by omega]
      · unfold zs_sv
        rw [if_pos (by show r - 1 < r; omega)]
        exact zn_ne1 (by omega)
    rw [hl] at hat ⊢
    have h0 : vs 0 = VV r := hat.1
    show wY_valueWalk_36 post (nI x) (0 + 1) (nI (r + 0 - 1)) (nI N) (nI C) (nI U) op (nI S) yne ysp (nI 1) ypn lv fn fi K A cl ds en ss yef yet yew yb ynb yv yx ysv ysi vs ymo ymv yip ypN ypI
    refine ⟨hin8, br_t (by rw [ex, hds]; exact nI_le (by omega) (by omega)) (br_f (by decide) ⟨vp_in_iff.mpr (by decide), ?_⟩)⟩
    rw [show (nI 1 - 1).toNatClampNeg = 0 by decide, h0]
    exact hp _ _
  | succ i ih =>
    intro vs hi hat
    have ei : r + (i + 1) - 1 = r + i := by omega
    rw [ei]
    have e : (nI (r + i)).toNatClampNeg = r + i := nI_clamp (by omega)
    have hin : vp_in (nI (r + i)) 96 := vp_in_nI (by omega) (by omega)
    refine ⟨hin8, br_f (by rw [ex, hds]; exact nI_ge (by omega) (by omega)) (br_f (nI_pos (by omega)) ⟨hin, ?_⟩)⟩
    obtain ⟨s, t, es, _⟩ := hd i (by omega)
    have hqi := hq i (by omega)
    have hlen : (zs_vl (zs_sv K V r (nI j)) VV L (zs_stk K r (i + 1))).length ≤ i + 2 := Nat.le_trans (zs_vl_len _) (zs_stk_len K r (i + 1))
    by_cases h1 : V (r + i) = -1
    · rw [zs_vl_un es (hv i (by omega) s t es) h1] at hat ⊢
      exact br_t (by rw [e]; exact hqi.1 h1) (nm_r (zn_m (by omega)) (ih vs (by omega) hat))
    · obtain ⟨g1, g2⟩ := hqi.2 h1
      obtain ⟨tl, htl, hcase⟩ := zs_vl_vis hr h96 hj hd he (by omega) es hv hvv h1
      refine br_f (by rw [e, g1]; decide) ⟨hin, ?_⟩
      have IH := fun vs' h => ih vs' (by omega) h
      rw [htl] at IH
      have go : ∀ vs' : Nat → Int32, zs_at vs' tl → ∀ x3 : Int32, x3 = nI (r + i) + (-1) → wY_valueWalk_36 post (nI x) (i + 1) x3 (nI N) (nI C) (nI U) op (nI S) yne ysp (nI (tl.length + 1)) ypn lv fn fi K A cl ds en ss yef yet yew yb ynb yv yx ysv ysi (upd vs' tl.length (VV (r + i))) ymo ymv yip ypN ypI := by
        intro vs' hvs
        exact nm_r (zn_m (by omega)) (IH _ (zs_at_push hvs))
      rcases hcase with ⟨hk, hvl, hval⟩ | ⟨hk, hvl, hval⟩ | ⟨hk, hvl⟩ | ⟨a, b, hvl, hop⟩
      · rw [hvl] at hat hlen ⊢
        refine nm_r (e' := 1) (by rw [e, hk]) (br_t rfl ⟨hin, ?_⟩)
        exact zy_pushV (y' := VV (r + i)) (by rw [e, hval]) (by omega) (go vs hat)
      · rw [hvl] at hat hlen ⊢
        obtain ⟨z, m, hz, hm, ez, em, hmo1, hpv⟩ := hr11 (r + i) (by omega) (by omega) hk h1
        have eq : A (r + i) * 32 + yx (r + i) = nI (z * 32 + m) := by rw [ez, g2, em, show (32 : Int32) = nI 32 from rfl, pk_mul, nI_add]
        have eq' : A (r + i) * 32 + V (r + i) = nI (z * 32 + m) := by rw [← g2]; exact eq
        have e2 : (nI (z * 32 + m)).toNatClampNeg = z * 32 + m := nI_clamp (by omega)
        refine nm_r (e' := 11) (by rw [e, hk]) (br_f (by decide) (br_t rfl ⟨hin, hin, ?_⟩))
        refine zy_known (z := z) (m := m) (by rw [e, ez]) (by rw [e, g2, em]) hz (by omega) (fun _ _ => br_f zn_10 ⟨hin, hin, by rw [e, eq]; exact vp_in_nI (by omega) (by omega), ?_⟩) (fun h => absurd ⟨hm, hmo1⟩ h)
        exact zy_pushV (y' := VV (r + i)) (by rw [e, eq, e2, hval, eq', e2, hpv]) (by omega) (go vs hat)
      · rw [hvl] at hat ⊢
        have := IH vs hat
        rcases hk with hk | hk | hk

        · exact nm_r (e' := 2) (by rw [e, hk]) (br_f (by decide) (br_f (by decide) (br_f (by decide) (br_f (by decide) (br_f (by decide) (br_f (by decide) (br_f (by decide) (br_f (by decide) (nm_r (zn_m (by omega)) this)))))))))
        · exact nm_r (e' := 7) (by rw [e, hk]) (br_f (by decide) (br_f (by decide) (br_f (by decide) (br_f (by decide) (br_f (by decide) (br_f (by decide) (br_f (by decide) (br_f (by decide) (nm_r (zn_m (by omega)) this)))))))))
        · exact nm_r (e' := 6) (by rw [e, hk]) (br_f (by decide) (br_f (by decide) (br_f (by decide) (br_f (by decide) (br_f (by decide) (br_f (by decide) (br_f (by decide) (br_f (by decide) (nm_r (zn_m (by omega)) this)))))))))
      · rw [hvl] at hat hlen ⊢
        obtain ⟨ha, hb, ht⟩ := hat
        have ha : vs (tl.length + 1) = a := ha
        rw [List.length_cons, List.length_cons] at hlen ⊢
        have hlt : tl.length + 2 ≤ 98 := by omega
        rcases hop with ⟨hk, ho⟩ | ⟨hk, ho⟩ | ⟨hk, ho⟩ <;> rcases hk with hk | hk
        · refine nm_r (e' := 3) (by rw [e, hk]) (br_f (by decide) (br_f (by decide) (br_t (by decide) (?_))))
          exact zy_popV (by omega) (zy_popV (by omega) (zy_pushV (y' := VV (r + i)) (by rw [ha, hb, ho]) (by omega) (go vs ht)))
        · refine nm_r (e' := 8) (by rw [e, hk]) (br_f (by decide) (br_f (by decide) (br_f (by decide) (br_t (by decide) (?_)))))
          exact zy_popV (by omega) (zy_popV (by omega) (zy_pushV (y' := VV (r + i)) (by rw [ha, hb, ho]) (by omega) (go vs ht)))
        · refine nm_r (e' := 4) (by rw [e, hk]) (br_f (by decide) (br_f (by decide) (br_f (by decide) (br_f (by decide) (br_t (by decide) (?_))))))
          exact zy_popV (by omega) (zy_popV (by omega) (zy_pushV (y' := VV (r + i)) (by rw [ha, hb, ho]) (by omega) (go vs ht)))
        · refine nm_r (e' := 9) (by rw [e, hk]) (br_f (by decide) (br_f (by decide) (br_f (by decide) (br_f (by decide) (br_f (by decide) (br_t (by decide) (?_)))))))
          exact zy_popV (by omega) (zy_popV (by omega) (zy_pushV (y' := VV (r + i)) (by rw [ha, hb, ho]) (by omega) (go vs ht)))
        · refine nm_r (e' := 5) (by rw [e, hk]) (br_f (by decide) (br_f (by decide) (br_f (by decide) (br_f (by decide) (br_f (by decide) (br_f (by decide) (br_t (by decide) (?_))))))))
          exact zy_popV (by omega) (zy_popV (by omega) (zy_pushV (y' := VV (r + i)) (by rw [ha, hb, ho]) (by omega) (go vs ht)))
        · refine nm_r (e' := 10) (by rw [e, hk]) (br_f (by decide) (br_f (by decide) (br_f (by decide) (br_f (by decide) (br_f (by decide) (br_f (by decide) (br_f (by decide) (br_t (by decide) (?_)))))))))
          exact zy_popV (by omega) (zy_popV (by omega) (zy_pushV (y' := VV (r + i)) (by rw [ha, hb, ho]) (by omega) (go vs ht)))
theorem zy_vals {post : Int32 → SY → Prop} {x r n j : Nat} {V PV VV : Nat → Int32} (hx : x < 8) (hr : 1 ≤ r) (hn : 1 ≤ n) (h96 : r + n ≤ 96) (hU : r + n ≤ U) (hU9 : U ≤ 96) (hj : j < 32) (hds : ds x = nI (r - 1)) (hen : en x = nI (r + n)) (hd : zs_def K P O L r n) (he : zs_stk K r n = [])
    (hv : zs_vis K V r (nI j) n) (hvv : zs_vals K A V L PV VV r (r + n)) (hq : ∀ i, i < n → zq (yv (r + i)) (yx (r + i)) (V (r + i)))
    (hr11 : ∀ c, r ≤ c → c < r + n → K c = 11 → V c ≠ -1 → ∃ z m, z < 8 ∧ m < 32 ∧ A c = nI z ∧ V c = nI m ∧ ¬ ymo (z * 32 + m) = 0 ∧ PV (z * 32 + m) = ymv (z * 32 + m))
    (hp : ∀ (m : Int32) (vs : Nat → Int32), post (VV r) ((nI N), (nI C), (nI U), op, (nI S), yne, ysp, m, ypn, lv, fn, fi, K, A, cl, ds, en, ss, yef, yet, yew, yb, ynb, yv, yx, ysv, ysi, vs, ymo, ymv, yip, ypN, ypI)) : wpY_valueWalk post ((nI N), (nI C), (nI U), op, (nI S), yne, ysp, yvsp, ypn, lv, fn, fi, K, A, cl, ds, en, ss, yef, yet, yew, yb, ynb, yv, yx, ysv, ysi, yvs, ymo, ymv, yip, ypN, ypI) (nI x) := by
  have ex : (nI x).toNatClampNeg = x := nI_clamp (by omega)
  have hin8 : vp_in (nI x) 8 := vp_in_nI hx (by omega)
  have H := zy_v36 (N := N) (C := C) (U := U) (S := S) (op := op) (lv := lv) (fn := fn) (fi := fi) (yne := yne) (ysp := ysp) (ypn := ypn) (cl := cl) (en := en) (ss := ss) (yef := yef) (yet := yet) (yew := yew) (yb := yb) (ynb := ynb) (ysv := ysv) (ysi := ysi) (yip := yip) (ypN := ypN) (ypI := ypI) hx hr h96 hj hds hd he hv hvv hq hr11 hp n yvs (Nat.le_refl _) (by rw [he]; trivial)
  rw [he] at H
  refine ⟨hin8, ?_⟩
  by_cases hc : U ≤ r + n
  · refine br_t (by rw [ex, hen]; exact nI_le hc (by omega)) (nm_r (e' := nI (r + n - 1)) (by rw [zn_s (by omega)]; congr 1; omega) ⟨_, H⟩)
  · refine br_f (by rw [ex, hen]; exact nI_ge (by omega) (by omega)) ⟨hin8, nm_r (e' := nI (r + n)) (by rw [ex, hen]) (nm_r (e' := nI (r + n - 1)) (by rw [zn_s (by omega)]) ⟨_, H⟩)⟩
end Z14
