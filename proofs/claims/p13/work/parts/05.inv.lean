/-! what holds between calls of the cells and the definitions -/
def zi_un (f : Nat → Nat) (k x : Nat) : Nat → Nat := fun j => if j = k then x else f j
theorem zi_uns {f : Nat → Nat} {k x : Nat} : zi_un f k x k = x := if_pos rfl
theorem zi_unn {f : Nat → Nat} {k x j : Nat} (h : j ≠ k) : zi_un f k x j = f j := if_neg h
theorem zi_upd {a : Nat → Int32} {f : Nat → Nat} {k x : Nat} (h : ∀ n, a n = nI (f n)) : ∀ n, upd a k (nI x) n = nI (zi_un f k x n) := by
  intro n
  by_cases e : n = k
  · subst e; rw [pk_us, zi_uns]
  · rw [pk_un e, zi_unn e]; exact h n
def zi_cl (K P O L Ow : Nat → Int32) (U r e n : Nat) : Prop :=
  1 ≤ r ∧ r < e ∧ e ≤ U ∧ zs_def K P O L r (e - r) ∧ zs_stk K r (e - r) = [] ∧ K (r - 1) = 12 ∧ ∀ c, r - 1 ≤ c → c < e → Ow c = nI n
theorem zi_cl_congr {K P O L Ow K' P' O' L' Ow' : Nat → Int32} {U U' r e n : Nat} (h : ∀ c, r - 1 ≤ c → c < e → K' c = K c ∧ P' c = P c ∧ O' c = O c ∧ L' c = L c ∧ Ow' c = Ow c) (hU : U ≤ U')
    (H : zi_cl K P O L Ow U r e n) : zi_cl K' P' O' L' Ow' U' r e n := by
  obtain ⟨h1, h2, h3, h4, h5, h6, h7⟩ := H
  refine ⟨h1, h2, by omega, zs_def_congr h1 (fun c a b => ?_) h4, ?_, ?_, fun c a b => ?_⟩
  · have := h c a (by omega); exact ⟨this.1, this.2.1, this.2.2.1, this.2.2.2.1⟩
  · rw [← h5]; exact zs_stk_congr _ (fun c a b => (h c (by omega) (by omega)).1)
  · rw [(h (r - 1) (by omega) (by omega)).1]; exact h6
  · rw [(h c a b).2.2.2.2]; exact h7 c a b
def zi_op (K P O L Ow so sp : Nat → Int32) (U S r o : Nat) : Prop :=
  1 ≤ r ∧ r ≤ U ∧ zs_def K P O L r (U - r) ∧ (zs_stk K r (U - r)).length = S ∧ 1 ≤ S ∧ zs_st (fun i s => sp i = nI s.1 ∧ so i = zs_so K O r s) (zs_stk K r (U - r)) ∧
  K (r - 1) = 12 ∧ ∀ c, r - 1 ≤ c → c < U → Ow c = nI o
def zi_inv (N C U S : Nat) (op : Int32) (K A P O L Ow cl so sp : Nat → Int32) (R E : Nat → Nat) : Prop :=
  (1 ≤ N ∧ N ≤ 8 ∧ 16 ≤ C ∧ C ≤ 96 ∧ U ≤ C) ∧ (∀ n, cl n = 0 ∨ cl n = 1) ∧ (∀ n, n < N → cl n = 1 → zi_cl K P O L Ow U (R n) (E n) n) ∧
  (∀ n, R n ≤ 96 ∧ E n ≤ 96) ∧ (∀ c, c < U → K c = 11 → ∃ m, m < N ∧ A c = nI m) ∧
  (∀ c, c < U → ∃ n, n < N ∧ Ow c = nI n ∧ ((cl n = 1 ∧ R n ≤ c + 1 ∧ c < E n) ∨ (op = nI n ∧ R n ≤ c + 1))) ∧
  ((op = -1 ∧ S = 0) ∨ ∃ o, o < N ∧ op = nI o ∧ cl o = 0 ∧ zi_op K P O L Ow so sp U S (R o) o)
theorem zi_reset {N C U S : Nat} {op : Int32} {K A P O L Ow cl cl' so sp : Nat → Int32} {R E : Nat → Nat} (h : zi_inv N C U S op K A P O L Ow cl so sp R E)
    (h0 : ∀ n, n < 8 → cl' n = 0) (h1 : ∀ n, cl' n = 0 ∨ cl' n = 1) : zi_inv N C 0 0 (-1) K A P O L Ow cl' so sp R E := by
  obtain ⟨⟨a1, a2, a3, a4, a5⟩, _, _, hR, _⟩ := h
  refine ⟨⟨a1, a2, a3, a4, by omega⟩, h1, fun n hn hc => ?_, hR, fun c hc => absurd hc (Nat.not_lt_zero c), fun c hc => absurd hc (Nat.not_lt_zero c), Or.inl ⟨rfl, rfl⟩⟩
  rw [h0 n (by omega)] at hc
  exact absurd hc (by decide)
theorem zi_init {N C : Nat} (h : 1 ≤ N ∧ N ≤ 8 ∧ 16 ≤ C ∧ C ≤ 96) : zi_inv N C 0 0 (-1) (fun _ => 0) (fun _ => 0) (fun _ => 0) (fun _ => 0) (fun _ => 0) (fun _ => 0) (fun _ => 0) (fun _ => 0) (fun _ => 0) (fun _ => 0) (fun _ => 0) := by
  obtain ⟨a1, a2, a3, a4⟩ := h
  exact ⟨⟨a1, a2, a3, a4, by omega⟩, fun _ => Or.inl rfl, fun n _ hc => absurd (show (0 : Int32) = 1 from hc) (by decide), fun _ => ⟨Nat.zero_le _, Nat.zero_le _⟩, fun c hc => absurd hc (Nat.not_lt_zero c), fun c hc => absurd hc (Nat.not_lt_zero c), Or.inl ⟨rfl, rfl⟩⟩
theorem zi_begin {N C U S n : Nat} {K A P O L Ow cl so sp : Nat → Int32} {R E : Nat → Nat} (h : zi_inv N C U S (-1) K A P O L Ow cl so sp R E) (hn : n < N) (hc : cl n = 0) (hU : U < C) :
    zi_inv N C (U + 1) 1 (nI n) (upd K U 12) (upd A U (nI n)) P O L (upd Ow U (nI n)) cl (upd so 0 0) (upd sp 0 (nI U)) (zi_un R n (U + 1)) E := by
  obtain ⟨⟨a1, a2, a3, a4, a5⟩, b, c1, hR, d1, d2, _⟩ := h
  refine ⟨⟨a1, a2, a3, a4, by omega⟩, b, fun m hm hcm => ?_, fun m => ?_, fun c hcU hk => ?_, fun c hcU => ?_, Or.inr ⟨n, hn, rfl, hc, ?_⟩⟩
  · have hne : m ≠ n := fun z => by rw [z, hc] at hcm; exact absurd hcm (by decide)
    rw [zi_unn hne]
    have H := c1 m hm hcm
    exact zi_cl_congr (fun c x y => have := H.2.2.1; ⟨pk_un (by omega), rfl, rfl, rfl, pk_un (by omega)⟩) (by omega) H
  · by_cases e : m = n
    · rw [e, zi_uns]; exact ⟨by omega, (hR n).2⟩
    · rw [zi_unn e]; exact hR m
  · by_cases e : c = U
    · rw [e, pk_us] at hk; exact absurd hk (by decide)
    · rw [pk_un e] at hk ⊢; exact d1 c (by omega) hk
  · by_cases e : c = U
    · exact ⟨n, hn, by rw [e, pk_us], Or.inr ⟨rfl, by rw [zi_uns]; omega⟩⟩
    · obtain ⟨m, x, y, z⟩ := d2 c (by omega)
      refine ⟨m, x, by rw [pk_un e]; exact y, ?_⟩
      rcases z with ⟨z1, z2⟩ | z
      · have hne : m ≠ n := fun z => by rw [z, hc] at z1; exact absurd z1 (by decide)
        rw [zi_unn hne]; exact Or.inl ⟨z1, z2⟩
      · exact absurd z.1.symm (zn_ne1 (by omega))
  · rw [zi_uns]
    have e0 : U + 1 - (U + 1) = 0 := by omega
    refine ⟨by omega, Nat.le_refl _, ?_, ?_, Nat.le_refl _, ?_, pk_us, fun c x y => ?_⟩
    · rw [e0]; intro i hi; exact absurd hi (Nat.not_lt_zero i)
    · rw [e0]; rfl
    · rw [e0]
      refine ⟨⟨pk_us, ?_⟩, trivial⟩
      show upd so 0 0 0 = _
      rw [pk_us]
      unfold zs_so
      rw [if_pos (by show U + 1 - 1 < U + 1; omega)]
    · rw [show c = U by omega, pk_us]
/-- a token: what is open stays open -/
theorem zi_tok {N C U S o k : Nat} {a : Int32} {K A P O L Ow cl so sp so' sp' : Nat → Int32} {R E : Nat → Nat} {s : Nat × Bool} {t : List (Nat × Bool)} (h : zi_inv N C U S (nI o) K A P O L Ow cl so sp R E) (ho : o < N) (hU : U < C)
    (e : zs_stk K (R o) (U - R o) = s :: t) (hk1 : 1 ≤ k) (hk : k ≤ 11) (ha : k = 11 → ∃ m, m < N ∧ a = nI m) (hS : 1 ≤ (zs_kids (nI k) U ++ t).length)
    (hst : zs_st (fun i x => sp' i = nI x.1 ∧ so' i = zs_so (upd K U (nI k)) (upd O U (zs_so K O (R o) s)) (R o) x) (zs_kids (nI k) U ++ t)) :
    zi_inv N C (U + 1) (zs_kids (nI k) U ++ t).length (nI o) (upd K U (nI k)) (upd A U a) (upd P U (nI s.1)) (upd O U (zs_so K O (R o) s)) (upd L s.1 (nI U)) (upd Ow U (nI o)) cl so' sp' R E := by
  obtain ⟨⟨a1, a2, a3, a4, a5⟩, b, c1, hR, d1, d2, d3⟩ := h
  obtain ⟨o', ho', eo, hco, H⟩ : ∃ o', o' < N ∧ nI o = nI o' ∧ cl o' = 0 ∧ zi_op K P O L Ow so sp U S (R o') o' := by
    rcases d3 with d3 | d3
    · exact absurd d3.1 (zn_ne1 (by omega))
    · exact d3
  obtain rfl : o = o' := zn_im eo (by omega) (by omega)
  obtain ⟨r1, r2, r3, r4, r5, r6, r7, r8⟩ := H
  obtain ⟨d, hd⟩ : ∃ d, U = R o + d := ⟨U - R o, by omega⟩
  have ed : U - R o = d := by omega
  rw [ed] at e r3
  have hh := zs_hd r1 e
  refine ⟨⟨a1, a2, a3, a4, by omega⟩, b, fun m hm hcm => ?_, hR, fun c hcU hkc => ?_, fun c hcU => ?_, Or.inr ⟨o, ho, rfl, hco, r1, by omega, ?_, ?_, hS, ?_, ?_, fun c x y => ?_⟩⟩
  · have Hm := c1 m hm hcm
    refine zi_cl_congr (fun c x y => ?_) (by omega) Hm
    have h3 := Hm.2.2.1
    refine ⟨pk_un (by omega), pk_un (by omega), pk_un (by omega), pk_un (fun z => ?_), pk_un (by omega)⟩
    have w1 := Hm.2.2.2.2.2.2 c x y
    have w2 := r8 c (by omega) (by omega)
    rw [w1] at w2
    have := zn_im w2 (by omega) (by omega)
    rw [this, hco] at hcm
    exact absurd hcm (by decide)
  · by_cases ec : c = U
    · rw [ec, pk_us] at hkc; rw [ec, pk_us]
      exact ha (zn_im hkc (by omega) (by decide))
    · rw [pk_un ec] at hkc ⊢; exact d1 c (by omega) hkc
  · by_cases ec : c = U
    · exact ⟨o, ho, by rw [ec, pk_us], Or.inr ⟨rfl, by omega⟩⟩
    · obtain ⟨m, x, y, z⟩ := d2 c (by omega)
      exact ⟨m, x, by rw [pk_un ec]; exact y, z⟩
  · rw [show U + 1 - R o = d + 1 by omega, hd]; exact zs_def_step r1 hk1 hk e r3
  · rw [show U + 1 - R o = d + 1 by omega, hd, zs_stk_step e]
  · rw [show U + 1 - R o = d + 1 by omega, hd, zs_stk_step e, ← hd]; exact hst
  · rw [pk_un (by omega)]; exact r7
  · by_cases ec : c = U
    · rw [ec, pk_us]
    · rw [pk_un ec]; exact r8 c x (by omega)
/-- a token that fills the last slot -/
theorem zi_tok0 {N C U S o k : Nat} {a : Int32} {K A P O L Ow cl so sp so' sp' : Nat → Int32} {R E : Nat → Nat} {s : Nat × Bool} {t : List (Nat × Bool)} (h : zi_inv N C U S (nI o) K A P O L Ow cl so sp R E) (ho : o < N) (hU : U < C)
    (e : zs_stk K (R o) (U - R o) = s :: t) (hk1 : 1 ≤ k) (hk : k ≤ 11) (ha : k = 11 → ∃ m, m < N ∧ a = nI m) (hS : zs_kids (nI k) U ++ t = []) :
    zi_inv N C (U + 1) 0 (-1) (upd K U (nI k)) (upd A U a) (upd P U (nI s.1)) (upd O U (zs_so K O (R o) s)) (upd L s.1 (nI U)) (upd Ow U (nI o)) (upd cl o 1) so' sp' R (zi_un E o (U + 1)) := by
  obtain ⟨⟨a1, a2, a3, a4, a5⟩, b, c1, hR, d1, d2, d3⟩ := h
  obtain ⟨o', ho', eo, hco, H⟩ : ∃ o', o' < N ∧ nI o = nI o' ∧ cl o' = 0 ∧ zi_op K P O L Ow so sp U S (R o') o' := by
    rcases d3 with d3 | d3
    · exact absurd d3.1 (zn_ne1 (by omega))
    · exact d3
  obtain rfl : o = o' := zn_im eo (by omega) (by omega)
  obtain ⟨r1, r2, r3, r4, r5, r6, r7, r8⟩ := H
  obtain ⟨d, hd⟩ : ∃ d, U = R o + d := ⟨U - R o, by omega⟩
  have ed : U - R o = d := by omega
  rw [ed] at e r3
  have hh := zs_hd r1 e
  have hOw : ∀ c, R o - 1 ≤ c → c < U + 1 → upd Ow U (nI o) c = nI o := by
    intro c x y
    by_cases ec : c = U
    · rw [ec, pk_us]
    · rw [pk_un ec]; exact r8 c x (by omega)
  refine ⟨⟨a1, a2, a3, a4, by omega⟩, fun m => ?_, fun m hm hcm => ?_, fun m => ?_, fun c hcU hkc => ?_, fun c hcU => ?_, Or.inl ⟨rfl, rfl⟩⟩
  · by_cases em : m = o
    · rw [em, pk_us]; exact Or.inr rfl
    · rw [pk_un em]; exact b m
  · by_cases em : m = o
    · subst em
      rw [zi_uns]
      refine ⟨r1, by omega, Nat.le_refl _, ?_, ?_, ?_, hOw⟩
      · rw [show U + 1 - R m = d + 1 by omega, hd]; exact zs_def_step r1 hk1 hk e r3
      · rw [show U + 1 - R m = d + 1 by omega, hd, zs_stk_step e, ← hd]; exact hS
      · rw [pk_un (by omega)]; exact r7
    · rw [pk_un em] at hcm
      rw [zi_unn em]
      have Hm := c1 m hm hcm
      refine zi_cl_congr (fun c x y => ?_) (by omega) Hm
      have h3 := Hm.2.2.1
      refine ⟨pk_un (by omega), pk_un (by omega), pk_un (by omega), pk_un (fun z => ?_), pk_un (by omega)⟩
      have w1 := Hm.2.2.2.2.2.2 c x y
      have w2 := r8 c (by omega) (by omega)
      rw [w1] at w2
      exact em (zn_im w2 (by omega) (by omega))
  · by_cases em : m = o
    · rw [em, zi_uns]; exact ⟨(hR o).1, by omega⟩
    · rw [zi_unn em]; exact hR m
  · by_cases ec : c = U
    · rw [ec, pk_us] at hkc; rw [ec, pk_us]
      exact ha (zn_im hkc (by omega) (by decide))
    · rw [pk_un ec] at hkc ⊢; exact d1 c (by omega) hkc
  · by_cases hco2 : R o - 1 ≤ c
    · exact ⟨o, ho, hOw c hco2 hcU, Or.inl ⟨pk_us, by omega, by rw [zi_uns]; exact hcU⟩⟩
    · have ec : c ≠ U := by omega
      obtain ⟨m, x, y, z⟩ := d2 c (by omega)
      refine ⟨m, x, by rw [pk_un ec]; exact y, ?_⟩
      by_cases em : m = o
      · rcases z with z | z
        · have := z.1; rw [em, hco] at this; exact absurd this (by decide)
        · have := z.2; rw [em] at this; omega
      · rw [pk_un em, zi_unn em]
        rcases z with z | z
        · exact Or.inl z
        · exact absurd (zn_im z.1 (by omega) (by omega)).symm em
