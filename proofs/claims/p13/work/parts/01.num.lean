/-! numbers; the pk_ rows are of the kit's rows to paste -/
theorem zn_ne1 {a : Nat} (h : a < 2 ^ 31) : ¬ nI a = -1 := by
  intro e
  have h2 := nI_pos (n := a) h
  rw [e] at h2
  exact h2 (by decide)
theorem zn_im {a b : Nat} (h : nI a = nI b) (ha : a < 2 ^ 31) (hb : b < 2 ^ 31) : a = b := (nI_eq ha hb).mp h
theorem zn_s {n : Nat} (h : 0 < n) : nI n - 1 = nI (n - 1) := by
  obtain ⟨m, rfl⟩ : ∃ m, n = m + 1 := ⟨n - 1, by omega⟩
  exact nI_pred m
theorem zn_m {n : Nat} (h : 0 < n) : nI n + (-1) = nI (n - 1) := by
  obtain ⟨m, rfl⟩ : ∃ m, n = m + 1 := ⟨n - 1, by omega⟩
  exact pk_m1 m
theorem zn_eq0 {a : Nat} (h : a < 2 ^ 31) : nI a = 0 ↔ a = 0 := by
  rw [← nI_0, nI_eq h (by omega)]
theorem zn_n1 : ¬ (0 : Int32) ≤ -1 := by decide
theorem zn_n1' : (-1 : Int32) < 0 := by decide
theorem zn_10 : ¬ (1 : Int32) = 0 := by decide
theorem zn_nlt {a b : Int32} (h : ¬ a < b) : b ≤ a := Int32.not_lt.mp h
theorem zn_nle {a b : Int32} (h : ¬ a ≤ b) : b < a := Int32.not_le.mp h
theorem zn_lt0 {a : Nat} (h : a < 2 ^ 31) : ¬ nI a < 0 := nI_pos h
theorem zn_cl0 : (0 : Int32).toNatClampNeg = 0 := by decide
theorem zn_if {α : Sort _} {c : Prop} [Decidable c] {a b x : α} (h : c) (e : a = x) : (if c then a else b) = x := by rw [if_pos h]; exact e
theorem zn_el {α : Sort _} {c : Prop} [Decidable c] {a b x : α} (h : ¬ c) (e : b = x) : (if c then a else b) = x := by rw [if_neg h]; exact e
