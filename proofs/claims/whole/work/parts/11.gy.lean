/-! guard, the reference's side: the edges -/
def zy_ed (A Ow O : Nat → Int32) (ne : Nat) (ef et ew : Nat → Int32) (D : Nat → Prop) : Prop :=
  (∀ e, e < ne → ∃ c, D c ∧ ef e = Ow c ∧ et e = A c ∧ ew e = O c) ∧ (∀ c, D c → ∃ e, e < ne ∧ ef e = Ow c ∧ et e = A c ∧ ew e = O c)
theorem zy_ed_iff {A Ow O : Nat → Int32} {ne : Nat} {ef et ew : Nat → Int32} {D D' : Nat → Prop} (h : ∀ c, D c ↔ D' c) (hd : zy_ed A Ow O ne ef et ew D) : zy_ed A Ow O ne ef et ew D' := by
  refine ⟨fun e he => ?_, fun c hc => hd.2 c ((h c).mpr hc)⟩
  obtain ⟨c, hc, z⟩ := hd.1 e he
  exact ⟨c, (h c).mp hc, z⟩
theorem zy_ed_add {A Ow O : Nat → Int32} {ne c0 : Nat} {ef et ew : Nat → Int32} {D : Nat → Prop} {x : Int32} (hx : x = Ow c0) (hd : zy_ed A Ow O ne ef et ew D) :
    zy_ed A Ow O (ne + 1) (upd ef ne x) (upd et ne (A c0)) (upd ew ne (O c0)) (fun c => D c ∨ c = c0) := by
  refine ⟨fun e he => ?_, fun c hc => ?_⟩
  · by_cases h : e = ne
    · subst h; exact ⟨c0, Or.inr rfl, by rw [pk_us]; exact hx, pk_us, pk_us⟩
    · obtain ⟨c, h1, h2, h3, h4⟩ := hd.1 e (by omega)
      exact ⟨c, Or.inl h1, by rw [pk_un h]; exact h2, by rw [pk_un h]; exact h3, by rw [pk_un h]; exact h4⟩
  · rcases hc with hc | hc
    · obtain ⟨e, h1, h2, h3, h4⟩ := hd.2 c hc
      have h : e ≠ ne := by omega
      exact ⟨e, by omega, by rw [pk_un h]; exact h2, by rw [pk_un h]; exact h3, by rw [pk_un h]; exact h4⟩
    · subst hc; exact ⟨ne, by omega, by rw [pk_us]; exact hx, pk_us, pk_us⟩
def zy_Q (K O : Nat → Int32) (r : Nat) (x y : Int32) (s : Nat × Bool) : Prop := y = zs_so K O r s
section Z11
variable {N C U S : Nat} {op lv fn fi pl yne ysp yvsp ypn : Int32}
variable {K A Ow O P L cl rt en ss so sp ds ww lw vi vv ps pv pt yef yet yew yb ynb yv yx ysv ysi yvs ymo ymv yip ypN ypI : Nat → Int32}
variable {R E : Nat → Nat}
theorem zy_push {post : SY → Prop} {m : Nat} {x y : Int32} (hm : m < 100) (hx : x = 0 ∨ x = 1) (hp : post ((nI N), (nI C), (nI U), op, (nI S), yne, (nI (m + 1)), yvsp, ypn, lv, fn, fi, K, A, cl, ds, en, ss, yef, yet, yew, yb, ynb, yv, yx, (upd ysv m x), (upd ysi m y), yvs, ymo, ymv, yip, ypN, ypI)) : wpY_push post ((nI N), (nI C), (nI U), op, (nI S), yne, (nI m), yvsp, ypn, lv, fn, fi, K, A, cl, ds, en, ss, yef, yet, yew, yb, ynb, yv, yx, ysv, ysi, yvs, ymo, ymv, yip, ypN, ypI) x y := by
  have e : (nI m).toNatClampNeg = m := nI_clamp (by omega)
  have hin : vp_in (nI m) 100 := vp_in_nI hm (by omega)
  have hb : vp_nar .boolean x = x := by rcases hx with h | h <;> rw [h] <;> decide
  exact br_f (nI_ge (b := 100) hm (by decide)) ⟨hin, nm_r (by rw [e, hb]) ⟨hin, nm_r (by rw [e]) (nm_r (nI_1 m) hp)⟩⟩
/-- the cells of one definition -/
theorem zy_b47 {post : SY → Prop} {J7 : Int32 → Int32 → Int32 → Int32 → Int32 → Int32 → Int32 → Int32 → Int32 → Int32 → Int32 → Int32 → Int32 → (Nat → Int32) → (Nat → Int32) → (Nat → Int32) → (Nat → Int32) → (Nat → Int32) → (Nat → Int32) → (Nat → Int32) → (Nat → Int32) → (Nat → Int32) → (Nat → Int32) → (Nat → Int32) → (Nat → Int32) → (Nat → Int32) → (Nat → Int32) → (Nat → Int32) → (Nat → Int32) → (Nat → Int32) → (Nat → Int32) → (Nat → Int32) → (Nat → Int32) → (Nat → Int32) → Prop} {y r n base : Nat} (D : Nat → Prop) (hy : y < 8) (hr : 1 ≤ r) (hU : r + n ≤ U) (hU9 : U ≤ 96) (hbase : base + n ≤ 96) (hen : en y = nI (r + n)) (hd : zs_def K P O L r n)
    (hOw : ∀ c, r - 1 ≤ c → c < r + n → Ow c = nI y)
    (hJ : ∀ (ne m : Nat) (ef et ew sv si : Nat → Int32), ne ≤ base + n → zy_ed A Ow O ne ef et ew (fun c => D c ∨ (K c = 11 ∧ r ≤ c ∧ c < r + n)) →
      J7 (nI (y + 1)) (nI N) (nI C) (nI U) op (nI S) (nI ne) (nI m) yvsp ypn lv fn fi K A cl ds en ss ef et ew yb ynb yv yx sv si yvs ymo ymv yip ypN ypI) :
    ∀ d i (ne : Nat) (ef et ew sv si : Nat → Int32), i + d = n → ne ≤ base + i → zy_ed A Ow O ne ef et ew (fun c => D c ∨ (K c = 11 ∧ r ≤ c ∧ c < r + i)) →
      zs_st (fun j s => zy_Q K O r (sv j) (si j) s) (zs_stk K r i) →
      wY_buildEdges_47 post J7 (nI y) (d + 1) (nI (r + i)) (nI N) (nI C) (nI U) op (nI S) (nI ne) (nI (zs_stk K r i).length) yvsp ypn lv fn fi K A cl ds en ss ef et ew yb ynb yv yx sv si yvs ymo ymv yip ypN ypI := by
  have ey : (nI y).toNatClampNeg = y := nI_clamp (by omega)
  have hin8 : vp_in (nI y) 8 := vp_in_nI hy (by omega)
  intro d
  induction d with
  | zero =>
    intro i ne ef et ew sv si hi hne hed hst
    obtain rfl : i = n := by omega
    exact ⟨hin8, br_t (by rw [ey, hen]; exact nI_le (Nat.le_refl _) (by omega)) (nm_r (nI_1 y) (hJ ne _ ef et ew sv si hne hed))⟩
  | succ d ih =>
    intro i ne ef et ew sv si hi hne hed hst
    have e : (nI (r + i)).toNatClampNeg = r + i := nI_clamp (by omega)
    have hin : vp_in (nI (r + i)) 96 := vp_in_nI (by omega) (by omega)
    obtain ⟨s, t, es, _, hO, _, k, hk1, hk11, hk⟩ := hd i (by omega)
    have hlen := zs_stk_len K r i
    rw [es] at hst hlen ⊢
    rw [List.length_cons] at hlen ⊢
    have et' : (nI t.length).toNatClampNeg = t.length := nI_clamp (by omega)
    have hsi : si t.length = O (r + i) := by rw [hO]; exact hst.1
    refine ⟨hin8, br_f (by rw [ey, hen]; exact nI_ge (by omega) (by omega)) (br_f (nI_ge (by omega) (by omega)) (br_f (nI_nle (by omega) (by omega)) (nm_r (nI_pred t.length) ⟨vp_in_nI (by omega) (by omega), nm_r (e' := O (r + i)) (by rw [et', hsi]) ⟨hin, nm_r (e' := nI k) (by rw [e, hk]) ?_⟩⟩)))⟩
    have ek : zs_stk K r (i + 1) = zs_kids (nI k) (r + i) ++ t := by rw [zs_tl es, hk]
    have stay : ¬ nI k = 11 → zy_ed A Ow O ne ef et ew (fun c => D c ∨ (K c = 11 ∧ r ≤ c ∧ c < r + (i + 1))) := by
      intro hk'
      refine zy_ed_iff (fun c => ?_) hed
      constructor
      · intro z
        rcases z with z | z
        · exact Or.inl z
        · exact Or.inr ⟨z.1, z.2.1, by omega⟩
      · intro z
        rcases z with z | z
        · exact Or.inl z
        · refine Or.inr ⟨z.1, z.2.1, ?_⟩
          by_cases ec : c = r + i
          · rw [ec, hk] at z; exact absurd z.1 hk'
          · omega
    have hx : ∀ b, ¬ nI k = 7 → ¬ nI k = 6 → O (r + i) = zs_so K O r (r + i, b) := fun b a1 a2 => by rw [zo_x (by omega) (by rw [hk]; exact a1) (by rw [hk]; exact a2)]
    have IH := fun (ne : Nat) (ef et ew sv si : Nat → Int32) h1 h2 h3 => ih (i + 1) ne ef et ew sv si (by omega) h1 h2 h3
    have hl2 : t.length + 2 ≤ 100 := by omega
    clear ih hJ
    rcases zk_c hk1 hk11 with rfl | rfl | rfl | rfl | rfl | rfl | rfl | rfl | rfl | rfl | rfl
    · have H := IH ne ef et ew sv si (by omega) (stay (by decide)) (by rw [ek]; exact hst.2)
      rw [ek] at H
      exact br_f (by decide) (br_f (by decide) (br_f (by decide) (br_f (by decide) (br_t (by decide) (nm_r (nI_1 (r + i)) H)))))
    · have H := IH ne ef et ew (upd sv t.length 1) (upd si t.length (O (r + i))) (by omega) (stay (by decide)) (by rw [ek]; exact zs_st_push (q := zy_Q K O r) (a := sv) (b := si) (n := t.length) (s := (r + i, true)) rfl (hx true (by decide) (by decide)) hst.2)
      rw [ek] at H
      exact br_f (by decide) (br_t (by decide) (zy_push (by omega) (Or.inr rfl) (nm_r (nI_1 (r + i)) H)))
    · have H := IH ne ef et ew (upd (upd sv t.length 1) (t.length + 1) 1) (upd (upd si t.length (O (r + i))) (t.length + 1) (O (r + i))) (by omega) (stay (by decide)) (by rw [ek]; exact zs_st_push (q := zy_Q K O r) (n := t.length + 1) (s := (r + i, true)) rfl (hx true (by decide) (by decide)) (zs_st_push (q := zy_Q K O r) (a := sv) (b := si) (n := t.length) (s := (r + i, false)) rfl (hx false (by decide) (by decide)) hst.2))
      rw [ek] at H
      exact br_f (by decide) (br_f (by decide) (br_f (by decide) (br_f (by decide) (br_f (by decide) (zy_push (by omega) (Or.inr rfl) (zy_push (by omega) (Or.inr rfl) (nm_r (nI_1 (r + i)) H)))))))
    · have H := IH ne ef et ew (upd (upd sv t.length 1) (t.length + 1) 1) (upd (upd si t.length (O (r + i))) (t.length + 1) (O (r + i))) (by omega) (stay (by decide)) (by rw [ek]; exact zs_st_push (q := zy_Q K O r) (n := t.length + 1) (s := (r + i, true)) rfl (hx true (by decide) (by decide)) (zs_st_push (q := zy_Q K O r) (a := sv) (b := si) (n := t.length) (s := (r + i, false)) rfl (hx false (by decide) (by decide)) hst.2))
      rw [ek] at H
      exact br_f (by decide) (br_f (by decide) (br_f (by decide) (br_f (by decide) (br_f (by decide) (zy_push (by omega) (Or.inr rfl) (zy_push (by omega) (Or.inr rfl) (nm_r (nI_1 (r + i)) H)))))))
    · have H := IH ne ef et ew (upd (upd sv t.length 1) (t.length + 1) 1) (upd (upd si t.length (O (r + i))) (t.length + 1) (O (r + i))) (by omega) (stay (by decide)) (by rw [ek]; exact zs_st_push (q := zy_Q K O r) (n := t.length + 1) (s := (r + i, true)) rfl (hx true (by decide) (by decide)) (zs_st_push (q := zy_Q K O r) (a := sv) (b := si) (n := t.length) (s := (r + i, false)) rfl (hx false (by decide) (by decide)) hst.2))
      rw [ek] at H
      exact br_f (by decide) (br_f (by decide) (br_f (by decide) (br_f (by decide) (br_f (by decide) (zy_push (by omega) (Or.inr rfl) (zy_push (by omega) (Or.inr rfl) (nm_r (nI_1 (r + i)) H)))))))
    · have H := IH ne ef et ew (upd (upd sv t.length 1) (t.length + 1) 1) (upd (upd si t.length (O (r + i) - 1)) (t.length + 1) (O (r + i))) (by omega) (stay (by decide)) (by rw [ek]; exact zs_st_push (q := zy_Q K O r) (n := t.length + 1) (s := (r + i, true)) rfl ((zo_6t (by omega) hk).symm) (zs_st_push (q := zy_Q K O r) (a := sv) (b := si) (n := t.length) (s := (r + i, false)) rfl ((zo_6f (by omega) hk).symm) hst.2))
      rw [ek] at H
      exact br_f (by decide) (br_f (by decide) (br_f (by decide) (br_t (by decide) (zy_push (by omega) (Or.inr rfl) (zy_push (by omega) (Or.inr rfl) (nm_r (nI_1 (r + i)) H))))))
    · have H := IH ne ef et ew (upd sv t.length 1) (upd si t.length (O (r + i) + 1)) (by omega) (stay (by decide)) (by rw [ek]; exact zs_st_push (q := zy_Q K O r) (a := sv) (b := si) (n := t.length) (s := (r + i, true)) rfl ((zo_7 (by omega) hk).symm) hst.2)
      rw [ek] at H
      exact br_f (by decide) (br_f (by decide) (br_t (by decide) (zy_push (by omega) (Or.inr rfl) (nm_r (nI_1 (r + i)) H))))
    · have H := IH ne ef et ew (upd (upd sv t.length 1) (t.length + 1) 1) (upd (upd si t.length (O (r + i))) (t.length + 1) (O (r + i))) (by omega) (stay (by decide)) (by rw [ek]; exact zs_st_push (q := zy_Q K O r) (n := t.length + 1) (s := (r + i, true)) rfl (hx true (by decide) (by decide)) (zs_st_push (q := zy_Q K O r) (a := sv) (b := si) (n := t.length) (s := (r + i, false)) rfl (hx false (by decide) (by decide)) hst.2))
      rw [ek] at H
      exact br_f (by decide) (br_f (by decide) (br_f (by decide) (br_f (by decide) (br_f (by decide) (zy_push (by omega) (Or.inr rfl) (zy_push (by omega) (Or.inr rfl) (nm_r (nI_1 (r + i)) H)))))))
    · have H := IH ne ef et ew (upd (upd sv t.length 1) (t.length + 1) 1) (upd (upd si t.length (O (r + i))) (t.length + 1) (O (r + i))) (by omega) (stay (by decide)) (by rw [ek]; exact zs_st_push (q := zy_Q K O r) (n := t.length + 1) (s := (r + i, true)) rfl (hx true (by decide) (by decide)) (zs_st_push (q := zy_Q K O r) (a := sv) (b := si) (n := t.length) (s := (r + i, false)) rfl (hx false (by decide) (by decide)) hst.2))
      rw [ek] at H
      exact br_f (by decide) (br_f (by decide) (br_f (by decide) (br_f (by decide) (br_f (by decide) (zy_push (by omega) (Or.inr rfl) (zy_push (by omega) (Or.inr rfl) (nm_r (nI_1 (r + i)) H)))))))
    · have H := IH ne ef et ew (upd (upd sv t.length 1) (t.length + 1) 1) (upd (upd si t.length (O (r + i))) (t.length + 1) (O (r + i))) (by omega) (stay (by decide)) (by rw [ek]; exact zs_st_push (q := zy_Q K O r) (n := t.length + 1) (s := (r + i, true)) rfl (hx true (by decide) (by decide)) (zs_st_push (q := zy_Q K O r) (a := sv) (b := si) (n := t.length) (s := (r + i, false)) rfl (hx false (by decide) (by decide)) hst.2))
      rw [ek] at H
      exact br_f (by decide) (br_f (by decide) (br_f (by decide) (br_f (by decide) (br_f (by decide) (zy_push (by omega) (Or.inr rfl) (zy_push (by omega) (Or.inr rfl) (nm_r (nI_1 (r + i)) H)))))))
    · have ene : (nI ne).toNatClampNeg = ne := nI_clamp (by omega)
      have hne1 : vp_in (nI ne) 100 := vp_in_nI (by omega) (by omega)
      refine br_t (by decide) (br_f (nI_ge (b := 100) (by omega) (by decide)) ⟨hne1, nm_r (e' := upd ef ne (nI y)) (by rw [ene]) ⟨hin, hne1, nm_r (e' := upd et ne (A (r + i))) (by rw [ene, e]) ⟨hne1, nm_r (e' := upd ew ne (O (r + i))) (by rw [ene]) (nm_r (nI_1 ne) (nm_r (nI_1 (r + i)) ?_))⟩⟩⟩)
      have H := IH (ne + 1) (upd ef ne (nI y)) (upd et ne (A (r + i))) (upd ew ne (O (r + i))) sv si (by omega) (zy_ed_iff (fun c => ?_) (zy_ed_add (c0 := r + i) (hOw (r + i) (by omega) (by omega)).symm hed)) (by rw [ek]; exact hst.2)
      · rw [ek] at H; exact H
      · constructor
        · intro z
          rcases z with (z | z) | z
          · exact Or.inl z
          · exact Or.inr ⟨z.1, z.2.1, by omega⟩
          · rw [z]; exact Or.inr ⟨hk, by omega, by omega⟩
        · intro z
          rcases z with z | z
          · exact Or.inl (Or.inl z)
          · by_cases ec : c = r + i
            · exact Or.inr ec
            · exact Or.inl (Or.inr ⟨z.1, z.2.1, by omega⟩)
end Z11
