section
/-! numbers; the pk_ rows are of the kit's rows to paste -/
theorem zn_ne1 {a : Nat} (h : a < 2 ^ 31) : ¬ nI a = -1 := by
  intro e
  have h2 := nI_pos (n := a) h
  rw [e] at h2
  exact h2 (by decide)
theorem zn_im {a b : Nat} (h : nI a = nI b) (ha : a < 2 ^ 31) (hb : b < 2 ^ 31) : a = b := (nI_eq ha hb).mp h
theorem zn_s {n : Nat} (h : 0 < n) : nI n - 1 = nI (n - 1) := by
  obtain ⟨m, rfl⟩ : ∃ m, n = m + 1 := ⟨n - 1, by omega⟩
  exact nI_pred m
theorem zn_m {n : Nat} (h : 0 < n) : nI n + (-1) = nI (n - 1) := by
  obtain ⟨m, rfl⟩ : ∃ m, n = m + 1 := ⟨n - 1, by omega⟩
  exact pk_m1 m
theorem zn_eq0 {a : Nat} (h : a < 2 ^ 31) : nI a = 0 ↔ a = 0 := by
  rw [← nI_0, nI_eq h (by omega)]
theorem zn_n1 : ¬ (0 : Int32) ≤ -1 := by decide
theorem zn_n1' : (-1 : Int32) < 0 := by decide
theorem zn_10 : ¬ (1 : Int32) = 0 := by decide
theorem zn_nlt {a b : Int32} (h : ¬ a < b) : b ≤ a := Int32.not_lt.mp h
theorem zn_nle {a b : Int32} (h : ¬ a ≤ b) : b < a := Int32.not_le.mp h
theorem zn_lt0 {a : Nat} (h : a < 2 ^ 31) : ¬ nI a < 0 := nI_pos h
theorem zn_cl0 : (0 : Int32).toNatClampNeg = 0 := by decide
theorem zn_if {α : Sort _} {c : Prop} [Decidable c] {a b x : α} (h : c) (e : a = x) : (if c then a else b) = x := by rw [if_pos h]; exact e
theorem zn_el {α : Sort _} {c : Prop} [Decidable c] {a b x : α} (h : ¬ c) (e : b = x) : (if c then a else b) = x := by rw [if_neg h]; exact e
end
section
/-! the pending slots as a list: what a walk through the cells of a definition, in prefix order, keeps on its stack -/
def zs_kids (k : Int32) (c : Nat) : List (Nat × Bool) :=
  if k = 1 ∨ k = 11 then [] else if k = 2 ∨ k = 7 then [(c, true)] else [(c, true), (c, false)]
def zs_stk (K : Nat → Int32) (r : Nat) : Nat → List (Nat × Bool)
  | 0 => [(r - 1, true)]
  | d + 1 => zs_kids (K (r + d)) (r + d) ++ (zs_stk K r d).tail
theorem zs_stk_s (K : Nat → Int32) (r d : Nat) : zs_stk K r (d + 1) = zs_kids (K (r + d)) (r + d) ++ (zs_stk K r d).tail := rfl
theorem zs_kids_c (k : Int32) (c : Nat) : zs_kids k c = [] ∨ zs_kids k c = [(c, true)] ∨ zs_kids k c = [(c, true), (c, false)] := by
  unfold zs_kids
  split
  · exact Or.inl rfl
  · split
    · exact Or.inr (Or.inl rfl)
    · exact Or.inr (Or.inr rfl)
theorem zs_kids_len (k : Int32) (c : Nat) : (zs_kids k c).length ≤ 2 := by
  rcases zs_kids_c k c with h | h | h <;> rw [h] <;> simp
theorem zs_kids_mem {k : Int32} {c : Nat} {s : Nat × Bool} (h : s ∈ zs_kids k c) : s.1 = c := by
  rcases zs_kids_c k c with e | e | e <;> rw [e] at h
  · exact absurd h (by simp)
  · rw [List.mem_singleton] at h; rw [h]
  · rcases List.mem_cons.mp h with h | h
    · rw [h]
    · rw [List.mem_singleton] at h; rw [h]
def zs_ok (r c : Nat) : List (Nat × Bool) → Prop
  | [] => True
  | h :: t => ((h.2 = true ∧ h.1 + 1 = c) ∨ (h.2 = false ∧ r ≤ h.1 ∧ h.1 + 1 < c ∧ ∀ s, s ∈ t → s.1 < h.1)) ∧
      (∀ s, s ∈ t → s.2 = false ∧ r ≤ s.1 ∧ s.1 < c) ∧ t.Pairwise (fun a b => b.1 < a.1)
theorem zs_ok_kids {r c : Nat} {k : Int32} {t : List (Nat × Bool)} (hc : r ≤ c) (h1 : ∀ s, s ∈ t → s.2 = false ∧ r ≤ s.1 ∧ s.1 < c)
    (h2 : t.Pairwise (fun a b => b.1 < a.1)) : zs_ok r (c + 1) (zs_kids k c ++ t) := by
  rcases zs_kids_c k c with e | e | e <;> rw [e]
  · rw [List.nil_append]
    cases t with
    | nil => trivial
    | cons a t =>
      rw [List.pairwise_cons] at h2
      have ha := h1 a (List.mem_cons_self ..)
      refine ⟨Or.inr ⟨ha.1, ha.2.1, by omega, h2.1⟩, fun s hs => ?_, h2.2⟩
      have hs' := h1 s (List.mem_cons_of_mem _ hs)
      exact ⟨hs'.1, hs'.2.1, by omega⟩
  · refine ⟨Or.inl ⟨rfl, rfl⟩, fun s hs => ?_, h2⟩
    have hs' := h1 s hs
    exact ⟨hs'.1, hs'.2.1, by omega⟩
  · refine ⟨Or.inl ⟨rfl, rfl⟩, fun s hs => ?_, List.pairwise_cons.mpr ⟨fun s hs => (h1 s hs).2.2, h2⟩⟩
    rcases List.mem_cons.mp hs with hs | hs
    · rw [hs]; exact ⟨rfl, hc, Nat.lt_succ_self c⟩
    · have hs' := h1 s hs
      exact ⟨hs'.1, hs'.2.1, by omega⟩
theorem zs_stk_ok (K : Nat → Int32) {r : Nat} (hr : 1 ≤ r) : ∀ d, zs_ok r (r + d) (zs_stk K r d) := by
  intro d
  induction d with
  | zero => exact ⟨Or.inl ⟨rfl, by show r - 1 + 1 = r + 0; omega⟩, fun s hs => absurd hs (by simp), List.Pairwise.nil⟩
  | succ d ih =>
    rw [zs_stk_s]
    cases e : zs_stk K r d with
    | nil => exact zs_ok_kids (Nat.le_add_right r d) (fun s hs => absurd hs (by simp)) List.Pairwise.nil
    | cons h t => rw [e] at ih; exact zs_ok_kids (Nat.le_add_right r d) ih.2.1 ih.2.2
theorem zs_stk_len (K : Nat → Int32) (r : Nat) : ∀ d, (zs_stk K r d).length ≤ d + 1 := by
  intro d
  induction d with
  | zero => exact Nat.le_refl _
  | succ d ih =>
    rw [zs_stk_s, List.length_append, List.length_tail]
    have := zs_kids_len (K (r + d)) (r + d)
    omega
theorem zs_stk_congr {K K' : Nat → Int32} {r : Nat} : ∀ d, (∀ c, r ≤ c → c < r + d → K' c = K c) → zs_stk K' r d = zs_stk K r d := by
  intro d
  induction d with
  | zero => intro _; rfl
  | succ d ih =>
    intro h
    rw [zs_stk_s, zs_stk_s, ih (fun c h1 h2 => h c h1 (by omega)), h (r + d) (by omega) (by omega)]
theorem zs_tl {K : Nat → Int32} {r d : Nat} {s : Nat × Bool} {t : List (Nat × Bool)} (e : zs_stk K r d = s :: t) : zs_stk K r (d + 1) = zs_kids (K (r + d)) (r + d) ++ t := by
  rw [zs_stk_s, e]; rfl
/-- where the head of the stack points -/
theorem zs_hd {K : Nat → Int32} {r d : Nat} {s : Nat × Bool} {t : List (Nat × Bool)} (hr : 1 ≤ r) (e : zs_stk K r d = s :: t) :
    (s.2 = true ∧ s.1 + 1 = r + d) ∨ (s.2 = false ∧ r ≤ s.1 ∧ s.1 + 1 < r + d) := by
  have h := zs_stk_ok K hr d
  rw [e] at h
  rcases h.1 with h | h
  · exact Or.inl h
  · exact Or.inr ⟨h.1, h.2.1, h.2.2.1⟩
theorem zs_mem {K : Nat → Int32} {r d : Nat} {s : Nat × Bool} (hr : 1 ≤ r) (h : s ∈ zs_stk K r d) : s.1 < r + d := by
  have ho := zs_stk_ok K hr d
  cases e : zs_stk K r d with
  | nil => rw [e] at h; exact absurd h (by simp)
  | cons a t =>
    rw [e] at h ho
    rcases List.mem_cons.mp h with h | h
    · rw [h]; rcases ho.1 with h | h <;> omega
    · exact (ho.2.1 s h).2.2
theorem zs_pop {K : Nat → Int32} {r : Nat} : ∀ m i s, s ∈ zs_stk K r i → zs_stk K r (i + m) = [] → ∃ j t, i ≤ j ∧ j < i + m ∧ zs_stk K r j = s :: t := by
  intro m
  induction m with
  | zero => intro i s h e; rw [Nat.add_zero] at e; rw [e] at h; exact absurd h (by simp)
  | succ m ih =>
    intro i s h e
    cases e2 : zs_stk K r i with
    | nil => rw [e2] at h; exact absurd h (by simp)
    | cons a t =>
      rw [e2] at h
      rcases List.mem_cons.mp h with h | h
      · exact ⟨i, t, Nat.le_refl _, by omega, by rw [h]; exact e2⟩
      · obtain ⟨j, t', h1, h2, h3⟩ := ih (i + 1) s (by rw [zs_tl e2]; exact List.mem_append_right _ h) (by rw [← e]; congr 1; omega)
        exact ⟨j, t', by omega, by omega, h3⟩
theorem zs_dead {K : Nat → Int32} {r i : Nat} {s : Nat × Bool} {t : List (Nat × Bool)} (hr : 1 ≤ r) (e : zs_stk K r i = s :: t) (hs : s.2 = false) :
    ∀ m s', s' ∈ zs_stk K r (i + 1 + m) → s'.1 ≠ s.1 := by
  have h := zs_stk_ok K hr i
  rw [e] at h
  have h1 : s.1 + 1 < r + i ∧ ∀ s', s' ∈ t → s'.1 < s.1 := by
    rcases h.1 with h | h
    · rw [hs] at h; exact absurd h.1 (by decide)
    · exact ⟨h.2.2.1, h.2.2.2⟩
  intro m
  induction m with
  | zero =>
    intro s' h'
    rw [Nat.add_zero, zs_tl e] at h'
    rcases List.mem_append.mp h' with h' | h'
    · rw [zs_kids_mem h']; omega
    · have := h1.2 s' h'; omega
  | succ m ih =>
    intro s' h'
    have e' : i + 1 + (m + 1) = (i + 1 + m) + 1 := by omega
    rw [e', zs_stk_s] at h'
    rcases List.mem_append.mp h' with h' | h'
    · rw [zs_kids_mem h']; omega
    · exact ih s' (List.mem_of_mem_tail h')
/-! an array that holds a stack: the slot above t lies at t's length -/
def zs_st (Q : Nat → Nat × Bool → Prop) : List (Nat × Bool) → Prop
  | [] => True
  | s :: t => Q t.length s ∧ zs_st Q t
theorem zs_st_mono {Q Q' : Nat → Nat × Bool → Prop} : ∀ l : List (Nat × Bool), (∀ i s, i < l.length → s ∈ l → Q i s → Q' i s) → zs_st Q l → zs_st Q' l := by
  intro l
  induction l with
  | nil => intro _ _; trivial
  | cons a t ih =>
    intro h hq
    exact ⟨h _ _ (by simp) (List.mem_cons_self ..) hq.1, ih (fun i s h1 h2 => h i s (by rw [List.length_cons]; omega) (List.mem_cons_of_mem _ h2)) hq.2⟩
def zs_at (a : Nat → Int32) : List Int32 → Prop
  | [] => True
  | x :: t => a t.length = x ∧ zs_at a t
theorem zs_at_upd {a : Nat → Int32} {k : Nat} {x : Int32} : ∀ l : List Int32, l.length ≤ k → zs_at a l → zs_at (upd a k x) l := by
  intro l
  induction l with
  | nil => intro _ _; trivial
  | cons y t ih =>
    intro h hq
    rw [List.length_cons] at h
    exact ⟨by rw [pk_un (by omega)]; exact hq.1, ih (by omega) hq.2⟩
theorem zs_at_push {a : Nat → Int32} {x : Int32} {l : List Int32} (h : zs_at a l) : zs_at (upd a l.length x) (x :: l) := ⟨pk_us, zs_at_upd l (Nat.le_refl _) h⟩
/-! what a slot asks of the cell that fills it -/
def zs_so (K O : Nat → Int32) (r : Nat) (s : Nat × Bool) : Int32 :=
  if s.1 < r then 0 else if K s.1 = 7 then O s.1 + 1 else if K s.1 = 6 ∧ s.2 = false then O s.1 - 1 else O s.1
theorem zs_so_congr {K K' O O' : Nat → Int32} {r : Nat} {s : Nat × Bool} (h : r ≤ s.1 → K' s.1 = K s.1 ∧ O' s.1 = O s.1) : zs_so K' O' r s = zs_so K O r s := by
  unfold zs_so
  by_cases hs : s.1 < r
  · rw [if_pos hs, if_pos hs]
  · obtain ⟨h1, h2⟩ := h (by omega)
    rw [if_neg hs, if_neg hs, h1, h2]
def zs_cell (K P O L : Nat → Int32) (r i : Nat) : Prop :=
  ∃ s t, zs_stk K r i = s :: t ∧ P (r + i) = nI s.1 ∧ O (r + i) = zs_so K O r s ∧ (s.2 = false → L s.1 = nI (r + i)) ∧ ∃ k, 1 ≤ k ∧ k ≤ 11 ∧ K (r + i) = nI k
def zs_def (K P O L : Nat → Int32) (r n : Nat) : Prop := ∀ i, i < n → zs_cell K P O L r i
theorem zs_def_congr {K P O L K' P' O' L' : Nat → Int32} {r n : Nat} (hr : 1 ≤ r) (h : ∀ c, r - 1 ≤ c → c < r + n → K' c = K c ∧ P' c = P c ∧ O' c = O c ∧ L' c = L c)
    (hd : zs_def K P O L r n) : zs_def K' P' O' L' r n := by
  intro i hi
  obtain ⟨s, t, e, h1, h2, h3, k, hk⟩ := hd i hi
  have hh := zs_hd hr e
  have hc := h (r + i) (by omega) (by omega)
  have hs := h s.1 (by omega) (by omega)
  refine ⟨s, t, ?_, ?_, ?_, ?_, k, hk.1, hk.2.1, ?_⟩
  · rw [← e]; exact zs_stk_congr i (fun c a b => (h c (by omega) (by omega)).1)
  · rw [hc.2.1]; exact h1
  · rw [hc.2.2.1, h2]; exact (zs_so_congr (fun _ => ⟨hs.1, hs.2.2.1⟩)).symm
  · intro hb; rw [hs.2.2.2]; exact h3 hb
  · rw [hc.1]; exact hk.2.2
/-- a token fills the slot at the head -/
theorem zs_def_step {K P O L : Nat → Int32} {r d k : Nat} {s : Nat × Bool} {t : List (Nat × Bool)} (hr : 1 ≤ r) (hk1 : 1 ≤ k) (hk : k ≤ 11) (e : zs_stk K r d = s :: t) (hd : zs_def K P O L r d) :
    zs_def (upd K (r + d) (nI k)) (upd P (r + d) (nI s.1)) (upd O (r + d) (zs_so K O r s)) (upd L s.1 (nI (r + d))) r (d + 1) := by
  intro i hi
  have hh := zs_hd hr e
  by_cases hid : i < d
  · obtain ⟨s1, t1, e1, h1, h2, h3, k1, hk1⟩ := hd i hid
    have hh1 := zs_hd hr e1
    refine ⟨s1, t1, ?_, ?_, ?_, ?_, k1, hk1.1, hk1.2.1, ?_⟩
    · rw [← e1]; exact zs_stk_congr i (fun c a b => pk_un (by omega))
    · rw [pk_un (by omega)]; exact h1
    · rw [pk_un (by omega), h2]; exact (zs_so_congr (fun _ => ⟨pk_un (by omega), pk_un (by omega)⟩)).symm
    · intro hb
      have hne := zs_dead hr e1 hb (d - (i + 1)) s (by rw [show i + 1 + (d - (i + 1)) = d by omega, e]; exact List.mem_cons_self ..)
      rw [pk_un (fun z => hne z.symm)]; exact h3 hb
    · rw [pk_un (by omega)]; exact hk1.2.2
  · obtain rfl : i = d := by omega
    refine ⟨s, t, ?_, pk_us, ?_, fun _ => pk_us, k, hk1, hk, pk_us⟩
    · rw [← e]; exact zs_stk_congr i (fun c a b => pk_un (by omega))
    · rw [pk_us]; exact (zs_so_congr (fun _ => ⟨pk_un (by omega), pk_un (by omega)⟩)).symm
theorem zs_stk_step {K : Nat → Int32} {r d : Nat} {k : Int32} {s : Nat × Bool} {t : List (Nat × Bool)} (e : zs_stk K r d = s :: t) :
    zs_stk (upd K (r + d) k) r (d + 1) = zs_kids k (r + d) ++ t := by
  have e' : zs_stk (upd K (r + d) k) r d = s :: t := by rw [← e]; exact zs_stk_congr d (fun c a b => pk_un (by omega))
  rw [zs_tl e', pk_us]
/-- offsets stay small -/
theorem zs_off {K P O L : Nat → Int32} {r n : Nat} (hr : 1 ≤ r) (hn : n ≤ 96) (hd : zs_def K P O L r n) : ∀ m i, i < m → i < n → -(i : Int) ≤ (O (r + i)).toInt ∧ (O (r + i)).toInt ≤ i := by
  intro m
  induction m with
  | zero => intro i h; omega
  | succ m ih =>
    intro i him hi
    obtain ⟨s, t, e, h1, h2, h3, k, hk⟩ := hd i hi
    have hh := zs_hd hr e
    rw [h2]
    unfold zs_so
    by_cases hs : s.1 < r
    · rw [if_pos hs, show (0 : Int32).toInt = 0 by decide]; omega
    · rw [if_neg hs]
      obtain ⟨j, hj⟩ : ∃ j, s.1 = r + j := ⟨s.1 - r, by omega⟩
      have hb := ih j (by omega) (by omega)
      rw [← hj] at hb
      have hp : (O s.1 + 1).toInt = (O s.1).toInt + 1 := by
        rw [Int32.toInt_add, show (1 : Int32).toInt = 1 by decide]; exact Int.bmod_eq_of_le (by omega) (by omega)
      have hm : (O s.1 - 1).toInt = (O s.1).toInt - 1 := by
        rw [Int32.toInt_sub, show (1 : Int32).toInt = 1 by decide]; exact Int.bmod_eq_of_le (by omega) (by omega)
      split
      · rw [hp]; omega
      · split
        · rw [hm]; omega
        · omega
end
section
/-! which cells a walk visits, and at which index; -1: not visited -/
def zs_sv (K V : Nat → Int32) (r : Nat) (j : Int32) (s : Nat × Bool) : Int32 :=
  if s.1 < r then j else if V s.1 = -1 then -1 else if K s.1 = 2 then 0 else if K s.1 = 7 then V s.1 + 1 else
  if K s.1 = 6 then (if s.2 = true then (if V s.1 = 0 then 0 else -1) else (if V s.1 = 0 then -1 else V s.1 - 1)) else V s.1
theorem zs_sv_congr {K V V' : Nat → Int32} {r : Nat} {j : Int32} {s : Nat × Bool} (h : r ≤ s.1 → V' s.1 = V s.1) : zs_sv K V' r j s = zs_sv K V r j s := by
  unfold zs_sv
  by_cases hs : s.1 < r
  · rw [if_pos hs, if_pos hs]
  · rw [if_neg hs, if_neg hs, h (by omega)]
def zs_vis (K V : Nat → Int32) (r : Nat) (j : Int32) (n : Nat) : Prop := ∀ i, i < n → ∀ s t, zs_stk K r i = s :: t → V (r + i) = zs_sv K V r j s
theorem zs_vis_step {K V : Nat → Int32} {r : Nat} {j : Int32} {n : Nat} {s : Nat × Bool} {t : List (Nat × Bool)} (hr : 1 ≤ r) (e : zs_stk K r n = s :: t) (h : zs_vis K V r j n) :
    zs_vis K (upd V (r + n) (zs_sv K V r j s)) r j (n + 1) := by
  intro i hi s1 t1 e1
  have h1 := zs_hd hr e1
  rw [zs_sv_congr (V := V) (fun _ => pk_un (by omega))]
  by_cases hin : i < n
  · rw [pk_un (by omega)]; exact h i hin s1 t1 e1
  · obtain rfl : i = n := by omega
    rw [e] at e1
    rw [pk_us, (List.cons.inj e1).1]
def zs_rg (M : Nat) (x : Int32) : Prop := x = -1 ∨ ∃ m : Nat, m ≤ M ∧ x = nI m
theorem zs_sv_rg {K V : Nat → Int32} {r M : Nat} {j : Int32} {s : Nat × Bool} (hM : M < 2 ^ 30) (hj : zs_rg M j) (h : r ≤ s.1 → zs_rg M (V s.1)) : zs_rg (M + 1) (zs_sv K V r j s) := by
  have up : ∀ x, zs_rg M x → zs_rg (M + 1) x := by
    intro x hx
    rcases hx with hx | ⟨m, h1, h2⟩
    · exact Or.inl hx
    · exact Or.inr ⟨m, by omega, h2⟩
  have z : zs_rg (M + 1) 0 := Or.inr ⟨0, by omega, rfl⟩
  unfold zs_sv
  by_cases hs : s.1 < r
  · rw [if_pos hs]; exact up _ hj
  · rw [if_neg hs]
    have hv := h (by omega)
    by_cases h1 : V s.1 = -1
    · rw [if_pos h1]; exact Or.inl rfl
    · rw [if_neg h1]
      obtain ⟨m, hm, em⟩ := hv.resolve_left h1
      by_cases h2 : K s.1 = 2
      · rw [if_pos h2]; exact z
      · rw [if_neg h2]
        by_cases h7 : K s.1 = 7
        · rw [if_pos h7, em, nI_1]; exact Or.inr ⟨m + 1, by omega, rfl⟩
        · rw [if_neg h7]
          by_cases h6 : K s.1 = 6
          · rw [if_pos h6]
            by_cases hb : s.2 = true
            · rw [if_pos hb]; split
              · exact z
              · exact Or.inl rfl
            · rw [if_neg hb]
              by_cases h0 : V s.1 = 0
              · rw [if_pos h0]; exact Or.inl rfl
              · rw [if_neg h0, em]
                have hm0 : 0 < m := by
                  rcases Nat.eq_zero_or_pos m with hz | hz
                  · rw [hz] at em; exact absurd em h0
                  · exact hz
                rw [zn_s hm0]; exact Or.inr ⟨m - 1, by omega, rfl⟩
          · rw [if_neg h6]; exact up _ hv
theorem zs_vis_rg {K V : Nat → Int32} {r j n : Nat} (hr : 1 ≤ r) (hn : n ≤ 96) (hj : j < 32) (hne : ∀ i, i < n → ∃ s t, zs_stk K r i = s :: t) (h : zs_vis K V r (nI j) n) :
    ∀ m i, i < m → i < n → zs_rg (32 + i) (V (r + i)) := by
  intro m
  induction m with
  | zero => intro i h; omega
  | succ m ih =>
    intro i him hi
    obtain ⟨s, t, e⟩ := hne i hi
    have hh := zs_hd hr e
    rw [h i hi s t e]
    rcases Nat.eq_zero_or_pos i with hz | hz
    · subst hz
      have hs : s.1 < r := by omega
      unfold zs_sv
      rw [if_pos hs]; exact Or.inr ⟨j, by omega, rfl⟩
    · have h2 : zs_rg (32 + (i - 1) + 1) (zs_sv K V r (nI j) s) := by
        refine zs_sv_rg (by omega) (Or.inr ⟨j, by omega, rfl⟩) (fun hs => ?_)
        obtain ⟨q, hq⟩ : ∃ q, s.1 = r + q := ⟨s.1 - r, by omega⟩
        rw [hq]
        rcases ih q (by omega) (by omega) with h | ⟨m', h1, h2⟩
        · exact Or.inl h
        · exact Or.inr ⟨m', by omega, h2⟩
      rw [show 32 + i = 32 + (i - 1) + 1 by omega]; exact h2
/-! the first cell of which D holds, or -1 -/
def zs_first (D : Nat → Prop) (lo hi : Nat) (x : Int32) : Prop :=
  (x = -1 ∧ ∀ c, lo ≤ c → c < hi → ¬ D c) ∨ (∃ c, lo ≤ c ∧ c < hi ∧ D c ∧ (∀ c', lo ≤ c' → c' < c → ¬ D c') ∧ x = nI c)
/-! values, from the last cell to the first -/
def zs_val (K A V L PV VV : Nat → Int32) (c : Nat) : Int32 :=
  if K c = 1 then A c else if K c = 11 then PV (A c * 32 + V c).toNatClampNeg else if K c = 2 ∨ K c = 7 then VV (c + 1) else
  if K c = 6 then (if V c = 0 then VV (c + 1) else VV (L c).toNatClampNeg) else
  if K c = 3 ∨ K c = 8 then VV (c + 1) + VV (L c).toNatClampNeg else
  if K c = 4 ∨ K c = 9 then VV (c + 1) - VV (L c).toNatClampNeg else VV (c + 1) * VV (L c).toNatClampNeg
def zs_vals (K A V L PV VV : Nat → Int32) (lo hi : Nat) : Prop := ∀ c, lo ≤ c → c < hi → V c ≠ -1 → VV c = zs_val K A V L PV VV c
theorem zs_val_congr {K A V L PV VV VV' : Nat → Int32} {c : Nat} (h1 : ¬ (K c = 1 ∨ K c = 11) → VV' (c + 1) = VV (c + 1))
    (h2 : ¬ (K c = 1 ∨ K c = 11) → ¬ (K c = 2 ∨ K c = 7) → VV' (L c).toNatClampNeg = VV (L c).toNatClampNeg) : zs_val K A V L PV VV' c = zs_val K A V L PV VV c := by
  unfold zs_val
  by_cases a1 : K c = 1
  · rw [if_pos a1, if_pos a1]
  · by_cases a2 : K c = 11
    · rw [if_neg a1, if_neg a1, if_pos a2, if_pos a2]
    · have hn : ¬ (K c = 1 ∨ K c = 11) := fun z => z.elim a1 a2
      by_cases a3 : K c = 2 ∨ K c = 7
      · rw [if_neg a1, if_neg a1, if_neg a2, if_neg a2, if_pos a3, if_pos a3, h1 hn]
      · rw [if_neg a1, if_neg a1, if_neg a2, if_neg a2, if_neg a3, if_neg a3, h1 hn, h2 hn a3]
/-- the cell that fills a slot -/
def zs_ch (L : Nat → Int32) (s : Nat × Bool) : Nat := if s.2 = true then s.1 + 1 else (L s.1).toNatClampNeg
theorem zs_ch_hd {K P O L : Nat → Int32} {r n i : Nat} {s : Nat × Bool} {t : List (Nat × Bool)} (hr : 1 ≤ r) (hn : r + n ≤ 96) (hd : zs_def K P O L r n) (hi : i < n) (e : zs_stk K r i = s :: t) : zs_ch L s = r + i := by
  have hh := zs_hd hr e
  obtain ⟨s1, t1, e1, _, _, h3, _⟩ := hd i hi
  rw [e] at e1
  have es := (List.cons.inj e1).1
  subst es
  unfold zs_ch
  rcases hh with ⟨hb, hh⟩ | ⟨hb, hh⟩
  · rw [if_pos hb]; exact hh
  · rw [if_neg (by rw [hb]; decide), h3 hb, nI_clamp (by omega)]
/-- where the children of a cell lie -/
theorem zs_kid1 {K P O L : Nat → Int32} {r n i : Nat} (hd : zs_def K P O L r n) (hi : i < n) (he : zs_stk K r n = []) (hk : ¬ (K (r + i) = 1 ∨ K (r + i) = 11)) : i + 1 < n := by
  obtain ⟨s, t, e, _⟩ := hd i hi
  by_cases h : i + 1 < n
  · exact h
  · obtain rfl : n = i + 1 := by omega
    rw [zs_tl e] at he
    unfold zs_kids at he
    rw [if_neg hk] at he
    split at he <;> exact absurd he (by simp)
theorem zs_kid2 {K P O L : Nat → Int32} {r n i : Nat} (hd : zs_def K P O L r n) (hi : i < n) (he : zs_stk K r n = []) (hk : ¬ (K (r + i) = 1 ∨ K (r + i) = 11)) (hk2 : ¬ (K (r + i) = 2 ∨ K (r + i) = 7)) :
    ∃ q, i < q ∧ q < n ∧ L (r + i) = nI (r + q) := by
  obtain ⟨s, t, e, _⟩ := hd i hi
  have hm : (r + i, false) ∈ zs_stk K r (i + 1) := by
    rw [zs_tl e]; unfold zs_kids; rw [if_neg hk, if_neg hk2]; simp
  obtain ⟨q, t', h1, h2, h3⟩ := zs_pop (n - (i + 1)) (i + 1) _ hm (by rw [show i + 1 + (n - (i + 1)) = n by omega]; exact he)
  obtain ⟨s1, t1, e1, _, _, h5, _⟩ := hd q (by omega)
  rw [h3] at e1
  have es := (List.cons.inj e1).1
  subst es
  exact ⟨q, by omega, by omega, h5 rfl⟩
/-! the reference's stack of values while it goes back -/
def zs_vl (sv : Nat × Bool → Int32) (VV L : Nat → Int32) : List (Nat × Bool) → List Int32
  | [] => []
  | s :: t => if sv s = -1 then zs_vl sv VV L t else VV (zs_ch L s) :: zs_vl sv VV L t
theorem zs_vl_t {sv : Nat × Bool → Int32} {VV L : Nat → Int32} {s : Nat × Bool} {t : List (Nat × Bool)} (h : sv s ≠ -1) : zs_vl sv VV L (s :: t) = VV (zs_ch L s) :: zs_vl sv VV L t := if_neg h
theorem zs_vl_f {sv : Nat × Bool → Int32} {VV L : Nat → Int32} {s : Nat × Bool} {t : List (Nat × Bool)} (h : sv s = -1) : zs_vl sv VV L (s :: t) = zs_vl sv VV L t := if_pos h
theorem zs_vl_len {sv : Nat × Bool → Int32} {VV L : Nat → Int32} : ∀ l : List (Nat × Bool), (zs_vl sv VV L l).length ≤ l.length := by
  intro l
  induction l with
  | nil => exact Nat.le_refl _
  | cons a t ih =>
    by_cases h : sv a = -1
    · rw [zs_vl_f h, List.length_cons]; omega
    · rw [zs_vl_t h, List.length_cons, List.length_cons]; omega
theorem zs_sv_kid {K V : Nat → Int32} {r c : Nat} {j : Int32} {b : Bool} (hc : r ≤ c) (hv : V c = -1) : zs_sv K V r j (c, b) = -1 := by
  unfold zs_sv
  rw [if_neg (by show ¬ c < r; omega), if_pos hv]
theorem zs_vl_un {K V VV L : Nat → Int32} {r i : Nat} {j : Int32} {s : Nat × Bool} {t : List (Nat × Bool)} (e : zs_stk K r i = s :: t) (hv : V (r + i) = zs_sv K V r j s) (h : V (r + i) = -1) :
    zs_vl (zs_sv K V r j) VV L (zs_stk K r (i + 1)) = zs_vl (zs_sv K V r j) VV L (zs_stk K r i) := by
  rw [zs_tl e, e, zs_vl_f (by rw [← hv]; exact h)]
  rcases zs_kids_c (K (r + i)) (r + i) with h1 | h1 | h1 <;> rw [h1]
  · rfl
  · exact zs_vl_f (zs_sv_kid (by omega) h)
  · exact (zs_vl_f (zs_sv_kid (by omega) h)).trans (zs_vl_f (zs_sv_kid (by omega) h))
/-- what the values' stack is behind a visited cell, by its kind -/
theorem zs_vl_vis {K P O A V PV VV L : Nat → Int32} {r n i j : Nat} {s : Nat × Bool} {t : List (Nat × Bool)} (hr : 1 ≤ r) (hn : r + n ≤ 96) (hj : j < 32) (hd : zs_def K P O L r n) (he : zs_stk K r n = [])
    (hi : i < n) (e : zs_stk K r i = s :: t) (hvis : zs_vis K V r (nI j) n) (hvv : zs_vals K A V L PV VV r (r + n)) (h : V (r + i) ≠ -1) :
    ∃ tl, zs_vl (zs_sv K V r (nI j)) VV L (zs_stk K r i) = VV (r + i) :: tl ∧
      ((K (r + i) = 1 ∧ zs_vl (zs_sv K V r (nI j)) VV L (zs_stk K r (i + 1)) = tl ∧ VV (r + i) = A (r + i)) ∨
       (K (r + i) = 11 ∧ zs_vl (zs_sv K V r (nI j)) VV L (zs_stk K r (i + 1)) = tl ∧ VV (r + i) = PV (A (r + i) * 32 + V (r + i)).toNatClampNeg) ∨
       ((K (r + i) = 2 ∨ K (r + i) = 7 ∨ K (r + i) = 6) ∧ zs_vl (zs_sv K V r (nI j)) VV L (zs_stk K r (i + 1)) = VV (r + i) :: tl) ∨
       (∃ a b, zs_vl (zs_sv K V r (nI j)) VV L (zs_stk K r (i + 1)) = a :: b :: tl ∧
         (((K (r + i) = 3 ∨ K (r + i) = 8) ∧ VV (r + i) = a + b) ∨ ((K (r + i) = 4 ∨ K (r + i) = 9) ∧ VV (r + i) = a - b) ∨ ((K (r + i) = 5 ∨ K (r + i) = 10) ∧ VV (r + i) = a * b)))) := by
  have hch := zs_ch_hd hr hn hd hi e
  have hv := hvis i hi s t e
  have hne : ∀ i, i < n → ∃ s t, zs_stk K r i = s :: t := fun i hi => by
    obtain ⟨s, t, e, _⟩ := hd i hi
    exact ⟨s, t, e⟩
  obtain ⟨m, hm, em⟩ := (zs_vis_rg hr (by omega) hj hne hvis (i + 1) i (by omega) hi).resolve_left h
  have hval := hvv (r + i) (by omega) (by omega) h
  have h1 : zs_vl (zs_sv K V r (nI j)) VV L (zs_stk K r i) = VV (r + i) :: zs_vl (zs_sv K V r (nI j)) VV L t := by
    rw [e, zs_vl_t (by rw [← hv]; exact h), hch]
  have hlt : ∀ b : Bool, ¬ (r + i, b).1 < r := fun b => by show ¬ r + i < r; omega
  refine ⟨_, h1, ?_⟩
  rw [zs_tl e]
  obtain ⟨_, _, _, _, _, _, k, hk1, hk2, hk⟩ := hd i hi
  unfold zs_val at hval
  rcases (by omega : k = 1 ∨ k = 11 ∨ k = 2 ∨ k = 7 ∨ k = 6 ∨ k = 3 ∨ k = 8 ∨ k = 4 ∨ k = 9 ∨ k = 5 ∨ k = 10) with rfl | rfl | rfl | rfl | rfl | rfl | rfl | rfl | rfl | rfl | rfl
  · have hk : K (r + i) = 1 := hk
    rw [if_pos hk] at hval
    refine Or.inl ⟨hk, ?_, hval⟩
    unfold zs_kids; rw [if_pos (Or.inl hk)]; rfl
  · have hk : K (r + i) = 11 := hk
    rw [if_neg (by rw [hk]; decide), if_pos hk] at hval
    refine Or.inr (Or.inl ⟨hk, ?_, hval⟩)
    unfold zs_kids; rw [if_pos (Or.inr hk)]; rfl
  · have hk : K (r + i) = 2 := hk
    rw [if_neg (by rw [hk]; decide), if_neg (by rw [hk]; decide), if_pos (Or.inl hk)] at hval
    refine Or.inr (Or.inr (Or.inl ⟨Or.inl hk, ?_⟩))
    unfold zs_kids; rw [if_neg (by rw [hk]; decide), if_pos (Or.inl hk)]
    rw [hval]
    refine zs_vl_t ?_
    unfold zs_sv; rw [if_neg (hlt _), if_neg h, if_pos hk]; decide
  · have hk : K (r + i) = 7 := hk
    rw [if_neg (by rw [hk]; decide), if_neg (by rw [hk]; decide), if_pos (Or.inr hk)] at hval
    refine Or.inr (Or.inr (Or.inl ⟨Or.inr (Or.inl hk), ?_⟩))
    unfold zs_kids; rw [if_neg (by rw [hk]; decide), if_pos (Or.inr hk)]
    rw [hval]
    refine zs_vl_t ?_
    unfold zs_sv; rw [if_neg (hlt _), if_neg h, if_neg (by rw [hk]; decide), if_pos hk]
    show V (r + i) + 1 ≠ -1
    rw [em, nI_1]; exact zn_ne1 (by omega)
  · have hk : K (r + i) = 6 := hk
    rw [if_neg (by rw [hk]; decide), if_neg (by rw [hk]; decide), if_neg (by rw [hk]; decide), if_pos hk] at hval
    refine Or.inr (Or.inr (Or.inl ⟨Or.inr (Or.inr hk), ?_⟩))
    unfold zs_kids; rw [if_neg (by rw [hk]; decide), if_neg (by rw [hk]; decide)]
    by_cases h0 : V (r + i) = 0
    · rw [if_pos h0] at hval
      have s1 : zs_sv K V r (nI j) (r + i, true) ≠ -1 := by
        unfold zs_sv; rw [if_neg (hlt _), if_neg h, if_neg (by rw [hk]; decide), if_neg (by rw [hk]; decide), if_pos hk, if_pos rfl, if_pos h0]; decide
      have s2 : zs_sv K V r (nI j) (r + i, false) = -1 := by
        unfold zs_sv; rw [if_neg (hlt _), if_neg h, if_neg (by rw [hk]; decide), if_neg (by rw [hk]; decide), if_pos hk, if_neg Bool.false_ne_true, if_pos h0]
      show zs_vl _ VV L ((r + i, true) :: (r + i, false) :: t) = _
      rw [zs_vl_t s1, zs_vl_f s2, hval]; rfl
    · rw [if_neg h0] at hval
      have s1 : zs_sv K V r (nI j) (r + i, true) = -1 := by
        unfold zs_sv; rw [if_neg (hlt _), if_neg h, if_neg (by rw [hk]; decide), if_neg (by rw [hk]; decide), if_pos hk, if_pos rfl, if_neg h0]
      have s2 : zs_sv K V r (nI j) (r + i, false) ≠ -1 := by
        unfold zs_sv; rw [if_neg (hlt _), if_neg h, if_neg (by rw [hk]; decide), if_neg (by rw [hk]; decide), if_pos hk, if_neg Bool.false_ne_true, if_neg h0]
        show V (r + i) - 1 ≠ -1
        have hm0 : 0 < m := by
          rcases Nat.eq_zero_or_pos m with hz | hz
          · rw [hz] at em; exact absurd em h0
          · exact hz
        rw [em, zn_s hm0]; exact zn_ne1 (by omega)
      show zs_vl _ VV L ((r + i, true) :: (r + i, false) :: t) = _
      rw [zs_vl_f s1, zs_vl_t s2, hval]; rfl
  all_goals
    refine Or.inr (Or.inr (Or.inr ⟨VV (r + i + 1), VV (L (r + i)).toNatClampNeg, ?_, ?_⟩))
    · unfold zs_kids; rw [if_neg (by rw [hk]; decide), if_neg (by rw [hk]; decide)]
      have sb : ∀ b, zs_sv K V r (nI j) (r + i, b) ≠ -1 := by
        intro b
        unfold zs_sv; rw [if_neg (hlt _), if_neg h, if_neg (by rw [hk]; decide), if_neg (by rw [hk]; decide), if_neg (by rw [hk]; decide)]; exact h
      show zs_vl _ VV L ((r + i, true) :: (r + i, false) :: t) = _
      rw [zs_vl_t (sb _), zs_vl_t (sb _)]; rfl
    · rw [if_neg (by rw [hk]; decide), if_neg (by rw [hk]; decide), if_neg (by rw [hk]; decide), if_neg (by rw [hk]; decide)] at hval
      first
        | (rw [if_pos (by rw [hk]; decide)] at hval; exact Or.inl ⟨by rw [hk]; decide, hval⟩)
        | (rw [if_neg (by rw [hk]; decide), if_pos (by rw [hk]; decide)] at hval; exact Or.inr (Or.inl ⟨by rw [hk]; decide, hval⟩))
        | (rw [if_neg (by rw [hk]; decide), if_neg (by rw [hk]; decide)] at hval; exact Or.inr (Or.inr ⟨by rw [hk]; decide, hval⟩))
end
section
/-! greatest weights: L t is the greatest of the candidates w with E t w, or NONE -/
def zg_mx (E : Nat → Int32 → Prop) (N : Nat) (L : Nat → Int32) : Prop := ∀ t, t < N → (∀ w, E t w → w ≤ L t) ∧ (L t = -1000000 ∨ E t (L t))
theorem zg_mx_un {E : Nat → Int32 → Prop} {N : Nat} {L L' : Nat → Int32} (hE : ∀ t w, t < N → E t w → (-1000000 : Int32) < w) (h : zg_mx E N L) (h' : zg_mx E N L') : ∀ t, t < N → L t = L' t := by
  intro t ht
  obtain ⟨a1, a2⟩ := h t ht
  obtain ⟨b1, b2⟩ := h' t ht
  rcases a2 with a2 | a2
  · rcases b2 with b2 | b2
    · rw [a2, b2]
    · have h1 := a1 _ b2
      have h2 := hE t _ ht b2
      rw [a2] at h1
      exact absurd (Int32.lt_of_lt_of_le h2 h1) (Int32.lt_irrefl)
  · rcases b2 with b2 | b2
    · have h1 := b1 _ a2
      have h2 := hE t _ ht a2
      rw [b2] at h1
      exact absurd (Int32.lt_of_lt_of_le h2 h1) (Int32.lt_irrefl)
    · exact Int32.le_antisymm (b1 _ a2) (a1 _ b2)
theorem zg_mx_iff {E E' : Nat → Int32 → Prop} {N : Nat} {L : Nat → Int32} (hE : ∀ t w, t < N → (E t w ↔ E' t w)) (h : zg_mx E N L) : zg_mx E' N L := by
  intro t ht
  obtain ⟨a1, a2⟩ := h t ht
  exact ⟨fun w hw => a1 w ((hE t w ht).mpr hw), a2.imp id (fun z => (hE t _ ht).mp z)⟩
theorem zg_mx_0 {E : Nat → Int32 → Prop} {N : Nat} {L : Nat → Int32} (hE : ∀ t w, t < N → ¬ E t w) (h : ∀ t, t < N → L t = -1000000) : zg_mx E N L :=
  fun t ht => ⟨fun w hw => absurd hw (hE t w ht), Or.inl (h t ht)⟩
/-- one more candidate, w0 into t0: taken -/
theorem zg_mx_t {E : Nat → Int32 → Prop} {N t0 : Nat} {L : Nat → Int32} {w0 : Int32} (h : zg_mx E N L) (hw : L t0 < w0) : zg_mx (fun t w => E t w ∨ (t = t0 ∧ w = w0)) N (upd L t0 w0) := by
  intro t ht
  obtain ⟨a1, a2⟩ := h t ht
  by_cases e : t = t0
  · subst e
    rw [pk_us]
    refine ⟨fun w hw' => ?_, Or.inr (Or.inr ⟨rfl, rfl⟩)⟩
    rcases hw' with hw' | hw'
    · exact Int32.le_trans (a1 w hw') (Int32.le_of_lt hw)
    · rw [hw'.2]; exact Int32.le_refl _
  · rw [pk_un e]
    refine ⟨fun w hw' => ?_, a2.imp id Or.inl⟩
    rcases hw' with hw' | hw'
    · exact a1 w hw'
    · exact absurd hw'.1 e
/-- .. and not taken -/
theorem zg_mx_n {E : Nat → Int32 → Prop} {N t0 : Nat} {L : Nat → Int32} {w0 : Int32} (h : zg_mx E N L) (hw : ¬ L t0 < w0) : zg_mx (fun t w => E t w ∨ (t = t0 ∧ w = w0)) N L := by
  intro t ht
  obtain ⟨a1, a2⟩ := h t ht
  refine ⟨fun w hw' => ?_, a2.imp id Or.inl⟩
  rcases hw' with hw' | hw'
  · exact a1 w hw'
  · rw [hw'.1, hw'.2]; exact Int32.not_lt.mp hw
/-! bounds of weights -/
def zg_bd (B : Nat) (x : Int32) : Prop := -(B : Int) ≤ x.toInt ∧ x.toInt ≤ B
theorem zg_bd_gt {B : Nat} {x : Int32} (hB : B < 1000000) (h : zg_bd B x) : (-1000000 : Int32) < x := by
  rw [Int32.lt_iff_toInt_lt, show (-1000000 : Int32).toInt = -1000000 by decide]
  have := h.1
  omega
theorem zg_bd_ne {B : Nat} {x : Int32} (hB : B < 1000000) (h : zg_bd B x) : x ≠ -1000000 := by
  intro e
  have := zg_bd_gt hB h
  rw [e] at this
  exact absurd this (by decide)
theorem zg_bd_add {B C : Nat} {x y : Int32} (hB : B + C < 1000000) (h : zg_bd B x) (h' : zg_bd C y) : zg_bd (B + C) (x + y) := by
  have e : (x + y).toInt = x.toInt + y.toInt := by
    rw [Int32.toInt_add]
    have h1 := h.1; have h2 := h.2; have h3 := h'.1; have h4 := h'.2
    exact Int.bmod_eq_of_le (by omega) (by omega)
  unfold zg_bd
  rw [e]
  have h1 := h.1; have h2 := h.2; have h3 := h'.1; have h4 := h'.2
  omega
/-! counting -/
def zg_cn (p : Nat → Bool) : Nat → Nat
  | 0 => 0
  | n + 1 => zg_cn p n + (if p n = true then 1 else 0)
theorem zg_cn_le (p : Nat → Bool) : ∀ n, zg_cn p n ≤ n := by
  intro n
  induction n with
  | zero => exact Nat.le_refl _
  | succ n ih => show zg_cn p n + (if p n = true then 1 else 0) ≤ n + 1; split <;> omega
theorem zg_cn_add {p q : Nat → Bool} {a b : Nat} (h : ∀ c, p c = true → q c = true) (hq : ∀ c, a ≤ c → c < b → q c = true ∧ p c = false) : ∀ n, b ≤ n → a ≤ b → zg_cn p n + (b - a) ≤ zg_cn q n := by
  have main : ∀ n, zg_cn p n + ((if n < b then n else b) - a) ≤ zg_cn q n := by
    intro n
    induction n with
    | zero => show 0 + ((if 0 < b then 0 else b) - a) ≤ 0; split <;> omega
    | succ n ih =>
      show zg_cn p n + (if p n = true then 1 else 0) + _ ≤ zg_cn q n + (if q n = true then 1 else 0)
      by_cases hp : p n = true
      · rw [if_pos hp, if_pos (h n hp)]
        by_cases h1 : n + 1 < b
        · rw [if_pos h1]; rw [if_pos (by omega : n < b)] at ih
          have : ¬ a ≤ n := fun z => by have := (hq n z (by omega)).2; rw [hp] at this; exact absurd this (by decide)
          omega
        · rw [if_neg h1]
          by_cases h2 : n < b
          · rw [if_pos h2] at ih
            have : ¬ a ≤ n := fun z => by have := (hq n z (by omega)).2; rw [hp] at this; exact absurd this (by decide)
            omega
          · rw [if_neg h2] at ih; omega
      · rw [if_neg hp]
        by_cases h2 : n < b
        · rw [if_pos h2] at ih
          by_cases h3 : a ≤ n
          · rw [if_pos (hq n h3 h2).1]; split <;> omega
          · split <;> split <;> omega
        · rw [if_neg h2] at ih; rw [if_neg (by omega : ¬ n + 1 < b)]; omega
  intro n hb _
  have := main n
  rw [if_neg (by omega : ¬ n < b)] at this
  exact this
/-- pairs whose state is 0 -/
theorem zg_cn_upd {p q : Nat → Bool} {k : Nat} (hp : p k = true) (hq : q k = false) (h : ∀ j, j ≠ k → q j = p j) : ∀ n, k < n → zg_cn q n + 1 = zg_cn p n := by
  have low : ∀ n, n ≤ k → zg_cn q n = zg_cn p n := by
    intro n
    induction n with
    | zero => intro _; rfl
    | succ n ih => intro hn; show zg_cn q n + _ = zg_cn p n + _; rw [ih (by omega), h n (by omega)]
  intro n
  induction n with
  | zero => intro hk; omega
  | succ n ih =>
    intro hk
    show zg_cn q n + (if q n = true then 1 else 0) + 1 = zg_cn p n + (if p n = true then 1 else 0)
    by_cases e : n = k
    · subst e; rw [low n (Nat.le_refl _), hq, hp]; rfl
    · rw [h n e, ← ih (by omega)]; omega
theorem zg_cn_eq {p q : Nat → Bool} (h : ∀ j, q j = p j) : ∀ n, zg_cn q n = zg_cn p n := by
  intro n
  induction n with
  | zero => rfl
  | succ n ih => show zg_cn q n + _ = zg_cn p n + _; rw [ih, h n]
theorem zg_cn_pos {p : Nat → Bool} {k : Nat} (hp : p k = true) : ∀ n, k < n → 1 ≤ zg_cn p n := by
  intro n
  induction n with
  | zero => intro h; omega
  | succ n ih =>
    intro h
    show 1 ≤ zg_cn p n + (if p n = true then 1 else 0)
    by_cases e : n = k
    · subst e; rw [if_pos hp]; omega
    · have := ih (by omega); omega
/-! walks of ever more edges, as the class goes through the cells -/
def zg_fe (K A O Ow cl W : Nat → Int32) (L : Nat → Int32) (c : Nat) : Nat → Int32 :=
  if K c = 11 ∧ cl (Ow c).toNatClampNeg = 1 then
    (if W (Ow c).toNatClampNeg = -1000000 then L else
      if L (A c).toNatClampNeg < W (Ow c).toNatClampNeg + O c then upd L (A c).toNatClampNeg (W (Ow c).toNatClampNeg + O c) else L)
  else L
def zg_len (K A O Ow cl W : Nat → Int32) : Nat → Nat → Int32
  | 0 => fun _ => -1000000
  | c + 1 => zg_fe K A O Ow cl W (zg_len K A O Ow cl W c) c
def zg_seq (K A O Ow cl : Nat → Int32) (U a : Nat) : Nat → Nat → Int32
  | 0 => fun t => if t = a then 0 else -1000000
  | l + 1 => zg_len K A O Ow cl (zg_seq K A O Ow cl U a l) U
def zg_g (K A O Ow cl : Nat → Int32) (U a b : Nat) : Nat → Int32
  | 0 => -1000000
  | l + 1 => if zg_g K A O Ow cl U a b l < zg_seq K A O Ow cl U a (l + 1) b then zg_seq K A O Ow cl U a (l + 1) b else zg_g K A O Ow cl U a b l
def zg_E (K A O Ow cl W : Nat → Int32) (n : Nat) (t : Nat) (w : Int32) : Prop :=
  ∃ c, c < n ∧ K c = 11 ∧ cl (Ow c).toNatClampNeg = 1 ∧ (A c).toNatClampNeg = t ∧ W (Ow c).toNatClampNeg ≠ -1000000 ∧ w = W (Ow c).toNatClampNeg + O c
theorem zg_len_mx (K A O Ow cl W : Nat → Int32) (N : Nat) : ∀ n, zg_mx (zg_E K A O Ow cl W n) N (zg_len K A O Ow cl W n) := by
  intro n
  induction n with
  | zero => exact zg_mx_0 (fun t w _ => fun ⟨c, h, _⟩ => absurd h (Nat.not_lt_zero c)) (fun t _ => rfl)
  | succ n ih =>
    have same : (¬ (K n = 11 ∧ cl (Ow n).toNatClampNeg = 1 ∧ W (Ow n).toNatClampNeg ≠ -1000000)) → zg_mx (zg_E K A O Ow cl W (n + 1)) N (zg_len K A O Ow cl W n) := by
      intro hne
      refine zg_mx_iff (fun t w _ => ⟨fun ⟨c, h, z⟩ => ⟨c, by omega, z⟩, fun ⟨c, h, z⟩ => ⟨c, ?_, z⟩⟩) ih
      by_cases e : c = n
      · subst e; exact absurd ⟨z.1, z.2.1, z.2.2.2.1⟩ hne
      · omega
    have more : K n = 11 → cl (Ow n).toNatClampNeg = 1 → W (Ow n).toNatClampNeg ≠ -1000000 → ∀ t w, (zg_E K A O Ow cl W n t w ∨ (t = (A n).toNatClampNeg ∧ w = W (Ow n).toNatClampNeg + O n)) ↔ zg_E K A O Ow cl W (n + 1) t w := by
      intro h1 h2 h3 t w
      constructor
      · intro h
        rcases h with ⟨c, h, z⟩ | ⟨h, h'⟩
        · exact ⟨c, by omega, z⟩
        · exact ⟨n, by omega, h1, h2, h.symm, h3, h'⟩
      · intro ⟨c, h, z⟩
        by_cases e : c = n
        · subst e; exact Or.inr ⟨z.2.2.1.symm, z.2.2.2.2⟩
        · exact Or.inl ⟨c, by omega, z⟩
    show zg_mx _ N (zg_fe K A O Ow cl W (zg_len K A O Ow cl W n) n)
    unfold zg_fe
    by_cases h1 : K n = 11 ∧ cl (Ow n).toNatClampNeg = 1
    · rw [if_pos h1]
      by_cases h2 : W (Ow n).toNatClampNeg = -1000000
      · rw [if_pos h2]; exact same (fun z => z.2.2 h2)
      · rw [if_neg h2]
        by_cases h3 : zg_len K A O Ow cl W n (A n).toNatClampNeg < W (Ow n).toNatClampNeg + O n
        · rw [if_pos h3]; exact zg_mx_iff (fun t w _ => more h1.1 h1.2 h2 t w) (zg_mx_t ih h3)
        · rw [if_neg h3]; exact zg_mx_iff (fun t w _ => more h1.1 h1.2 h2 t w) (zg_mx_n ih h3)
    · rw [if_neg h1]; exact same (fun z => h1 ⟨z.1, z.2.1⟩)
/-- weights stay small: the owners are names, the offsets within 96 -/
theorem zg_seq_bd {K A O Ow cl : Nat → Int32} {U N a : Nat} (hO : ∀ c, c < U → K c = 11 → cl (Ow c).toNatClampNeg = 1 → (Ow c).toNatClampNeg < N ∧ zg_bd 96 (O c)) :
    ∀ l, l ≤ 8 → ∀ t, t < N → zg_seq K A O Ow cl U a l t = -1000000 ∨ zg_bd (96 * l) (zg_seq K A O Ow cl U a l t) := by
  intro l
  induction l with
  | zero =>
    intro _ t _
    show (if t = a then (0 : Int32) else -1000000) = _ ∨ zg_bd 0 (if t = a then (0 : Int32) else -1000000)
    split
    · exact Or.inr (by unfold zg_bd; decide)
    · exact Or.inl rfl
  | succ l ih =>
    intro hl t ht
    have h := zg_len_mx K A O Ow cl (zg_seq K A O Ow cl U a l) N U t ht
    rcases h.2 with h | ⟨c, hc, h1, h2, h3, h4, h5⟩
    · exact Or.inl h
    · refine Or.inr ?_
      show zg_bd _ (zg_len K A O Ow cl (zg_seq K A O Ow cl U a l) U t)
      rw [h5]
      obtain ⟨hw, ho⟩ := hO c hc h1 h2
      have hb := (ih (by omega) _ hw).resolve_left h4
      have := zg_bd_add (by omega) hb ho
      rw [show 96 * (l + 1) = 96 * l + 96 by omega]
      exact this
end
section
/-! what holds between calls of the cells and the definitions -/
def zi_un (f : Nat → Nat) (k x : Nat) : Nat → Nat := fun j => if j = k then x else f j
theorem zi_uns {f : Nat → Nat} {k x : Nat} : zi_un f k x k = x := if_pos rfl
theorem zi_unn {f : Nat → Nat} {k x j : Nat} (h : j ≠ k) : zi_un f k x j = f j := if_neg h
theorem zi_upd {a : Nat → Int32} {f : Nat → Nat} {k x : Nat} (h : ∀ n, a n = nI (f n)) : ∀ n, upd a k (nI x) n = nI (zi_un f k x n) := by
  intro n
  by_cases e : n = k
  · subst e; rw [pk_us, zi_uns]
  · rw [pk_un e, zi_unn e]; exact h n
def zi_cl (K P O L Ow : Nat → Int32) (U r e n : Nat) : Prop :=
  1 ≤ r ∧ r < e ∧ e ≤ U ∧ zs_def K P O L r (e - r) ∧ zs_stk K r (e - r) = [] ∧ K (r - 1) = 12 ∧ ∀ c, r - 1 ≤ c → c < e → Ow c = nI n
theorem zi_cl_congr {K P O L Ow K' P' O' L' Ow' : Nat → Int32} {U U' r e n : Nat} (h : ∀ c, r - 1 ≤ c → c < e → K' c = K c ∧ P' c = P c ∧ O' c = O c ∧ L' c = L c ∧ Ow' c = Ow c) (hU : U ≤ U')
    (H : zi_cl K P O L Ow U r e n) : zi_cl K' P' O' L' Ow' U' r e n := by
  obtain ⟨h1, h2, h3, h4, h5, h6, h7⟩ := H
  refine ⟨h1, h2, by omega, zs_def_congr h1 (fun c a b => ?_) h4, ?_, ?_, fun c a b => ?_⟩
  · have := h c a (by omega); exact ⟨this.1, this.2.1, this.2.2.1, this.2.2.2.1⟩
  · rw [← h5]; exact zs_stk_congr _ (fun c a b => (h c (by omega) (by omega)).1)
  · rw [(h (r - 1) (by omega) (by omega)).1]; exact h6
  · rw [(h c a b).2.2.2.2]; exact h7 c a b
def zi_op (K P O L Ow so sp : Nat → Int32) (U S r o : Nat) : Prop :=
  1 ≤ r ∧ r ≤ U ∧ zs_def K P O L r (U - r) ∧ (zs_stk K r (U - r)).length = S ∧ 1 ≤ S ∧ zs_st (fun i s => sp i = nI s.1 ∧ so i = zs_so K O r s) (zs_stk K r (U - r)) ∧
  K (r - 1) = 12 ∧ ∀ c, r - 1 ≤ c → c < U → Ow c = nI o
def zi_inv (N C U S : Nat) (op : Int32) (K A P O L Ow cl so sp : Nat → Int32) (R E : Nat → Nat) : Prop :=
  (1 ≤ N ∧ N ≤ 8 ∧ 16 ≤ C ∧ C ≤ 96 ∧ U ≤ C) ∧ (∀ n, cl n = 0 ∨ cl n = 1) ∧ (∀ n, n < N → cl n = 1 → zi_cl K P O L Ow U (R n) (E n) n) ∧
  (∀ n, R n ≤ 96 ∧ E n ≤ 96) ∧ (∀ c, c < U → K c = 11 → ∃ m, m < N ∧ A c = nI m) ∧
  (∀ c, c < U → ∃ n, n < N ∧ Ow c = nI n ∧ ((cl n = 1 ∧ R n ≤ c + 1 ∧ c < E n) ∨ (op = nI n ∧ R n ≤ c + 1))) ∧
  ((op = -1 ∧ S = 0) ∨ ∃ o, o < N ∧ op = nI o ∧ cl o = 0 ∧ zi_op K P O L Ow so sp U S (R o) o)
theorem zi_reset {N C U S : Nat} {op : Int32} {K A P O L Ow cl cl' so sp : Nat → Int32} {R E : Nat → Nat} (h : zi_inv N C U S op K A P O L Ow cl so sp R E)
    (h0 : ∀ n, n < 8 → cl' n = 0) (h1 : ∀ n, cl' n = 0 ∨ cl' n = 1) : zi_inv N C 0 0 (-1) K A P O L Ow cl' so sp R E := by
  obtain ⟨⟨a1, a2, a3, a4, a5⟩, _, _, hR, _⟩ := h
  refine ⟨⟨a1, a2, a3, a4, by omega⟩, h1, fun n hn hc => ?_, hR, fun c hc => absurd hc (Nat.not_lt_zero c), fun c hc => absurd hc (Nat.not_lt_zero c), Or.inl ⟨rfl, rfl⟩⟩
  rw [h0 n (by omega)] at hc
  exact absurd hc (by decide)
theorem zi_init {N C : Nat} (h : 1 ≤ N ∧ N ≤ 8 ∧ 16 ≤ C ∧ C ≤ 96) : zi_inv N C 0 0 (-1) (fun _ => 0) (fun _ => 0) (fun _ => 0) (fun _ => 0) (fun _ => 0) (fun _ => 0) (fun _ => 0) (fun _ => 0) (fun _ => 0) (fun _ => 0) (fun _ => 0) := by
  obtain ⟨a1, a2, a3, a4⟩ := h
  exact ⟨⟨a1, a2, a3, a4, by omega⟩, fun _ => Or.inl rfl, fun n _ hc => absurd (show (0 : Int32) = 1 from hc) (by decide), fun _ => ⟨Nat.zero_le _, Nat.zero_le _⟩, fun c hc => absurd hc (Nat.not_lt_zero c), fun c hc => absurd hc (Nat.not_lt_zero c), Or.inl ⟨rfl, rfl⟩⟩
theorem zi_begin {N C U S n : Nat} {K A P O L Ow cl so sp : Nat → Int32} {R E : Nat → Nat} (h : zi_inv N C U S (-1) K A P O L Ow cl so sp R E) (hn : n < N) (hc : cl n = 0) (hU : U < C) :
    zi_inv N C (U + 1) 1 (nI n) (upd K U 12) (upd A U (nI n)) P O L (upd Ow U (nI n)) cl (upd so 0 0) (upd sp 0 (nI U)) (zi_un R n (U + 1)) E := by
  obtain ⟨⟨a1, a2, a3, a4, a5⟩, b, c1, hR, d1, d2, _⟩ := h
  refine ⟨⟨a1, a2, a3, a4, by omega⟩, b, fun m hm hcm => ?_, fun m => ?_, fun c hcU hk => ?_, fun c hcU => ?_, Or.inr ⟨n, hn, rfl, hc, ?_⟩⟩
  · have hne : m ≠ n := fun z => by rw [z, hc] at hcm; exact absurd hcm (by decide)
    rw [zi_unn hne]
    have H := c1 m hm hcm
    exact zi_cl_congr (fun c x y => have := H.2.2.1; ⟨pk_un (by omega), rfl, rfl, rfl, pk_un (by omega)⟩) (by omega) H
  · by_cases e : m = n
    · rw [e, zi_uns]; exact ⟨by omega, (hR n).2⟩
    · rw [zi_unn e]; exact hR m
  · by_cases e : c = U
    · rw [e, pk_us] at hk; exact absurd hk (by decide)
    · rw [pk_un e] at hk ⊢; exact d1 c (by omega) hk
  · by_cases e : c = U
    · exact ⟨n, hn, by rw [e, pk_us], Or.inr ⟨rfl, by rw [zi_uns]; omega⟩⟩
    · obtain ⟨m, x, y, z⟩ := d2 c (by omega)
      refine ⟨m, x, by rw [pk_un e]; exact y, ?_⟩
      rcases z with ⟨z1, z2⟩ | z
      · have hne : m ≠ n := fun z => by rw [z, hc] at z1; exact absurd z1 (by decide)
        rw [zi_unn hne]; exact Or.inl ⟨z1, z2⟩
      · exact absurd z.1.symm (zn_ne1 (by omega))
  · rw [zi_uns]
    have e0 : U + 1 - (U + 1) = 0 := by omega
    refine ⟨by omega, Nat.le_refl _, ?_, ?_, Nat.le_refl _, ?_, pk_us, fun c x y => ?_⟩
    · rw [e0]; intro i hi; exact absurd hi (Nat.not_lt_zero i)
    · rw [e0]; rfl
    · rw [e0]
      refine ⟨⟨pk_us, ?_⟩, trivial⟩
      show upd so 0 0 0 = _
      rw [pk_us]
      unfold zs_so
      rw [if_pos (by show U + 1 - 1 < U + 1; omega)]
    · rw [show c = U by omega, pk_us]
/-- a token: what is open stays open -/
theorem zi_tok {N C U S o k : Nat} {a : Int32} {K A P O L Ow cl so sp so' sp' : Nat → Int32} {R E : Nat → Nat} {s : Nat × Bool} {t : List (Nat × Bool)} (h : zi_inv N C U S (nI o) K A P O L Ow cl so sp R E) (ho : o < N) (hU : U < C)
    (e : zs_stk K (R o) (U - R o) = s :: t) (hk1 : 1 ≤ k) (hk : k ≤ 11) (ha : k = 11 → ∃ m, m < N ∧ a = nI m) (hS : 1 ≤ (zs_kids (nI k) U ++ t).length)
    (hst : zs_st (fun i x => sp' i = nI x.1 ∧ so' i = zs_so (upd K U (nI k)) (upd O U (zs_so K O (R o) s)) (R o) x) (zs_kids (nI k) U ++ t)) :
    zi_inv N C (U + 1) (zs_kids (nI k) U ++ t).length (nI o) (upd K U (nI k)) (upd A U a) (upd P U (nI s.1)) (upd O U (zs_so K O (R o) s)) (upd L s.1 (nI U)) (upd Ow U (nI o)) cl so' sp' R E := by
  obtain ⟨⟨a1, a2, a3, a4, a5⟩, b, c1, hR, d1, d2, d3⟩ := h
  obtain ⟨o', ho', eo, hco, H⟩ : ∃ o', o' < N ∧ nI o = nI o' ∧ cl o' = 0 ∧ zi_op K P O L Ow so sp U S (R o') o' := by
    rcases d3 with d3 | d3
    · exact absurd d3.1 (zn_ne1 (by omega))
    · exact d3
  obtain rfl : o = o' := zn_im eo (by omega) (by omega)
  obtain ⟨r1, r2, r3, r4, r5, r6, r7, r8⟩ := H
  obtain ⟨d, hd⟩ : ∃ d, U = R o + d := ⟨U - R o, by omega⟩
  have ed : U - R o = d := by omega
  rw [ed] at e r3
  have hh := zs_hd r1 e
  refine ⟨⟨a1, a2, a3, a4, by omega⟩, b, fun m hm hcm => ?_, hR, fun c hcU hkc => ?_, fun c hcU => ?_, Or.inr ⟨o, ho, rfl, hco, r1, by omega, ?_, ?_, hS, ?_, ?_, fun c x y => ?_⟩⟩
  · have Hm := c1 m hm hcm
    refine zi_cl_congr (fun c x y => ?_) (by omega) Hm
    have h3 := Hm.2.2.1
    refine ⟨pk_un (by omega), pk_un (by omega), pk_un (by omega), pk_un (fun z => ?_), pk_un (by omega)⟩
    have w1 := Hm.2.2.2.2.2.2 c x y
    have w2 := r8 c (by omega) (by omega)
    rw [w1] at w2
    have := zn_im w2 (by omega) (by omega)
    rw [this, hco] at hcm
    exact absurd hcm (by decide)
  · by_cases ec : c = U
    · rw [ec, pk_us] at hkc; rw [ec, pk_us]
      exact ha (zn_im hkc (by omega) (by decide))
    · rw [pk_un ec] at hkc ⊢; exact d1 c (by omega) hkc
  · by_cases ec : c = U
    · exact ⟨o, ho, by rw [ec, pk_us], Or.inr ⟨rfl, by omega⟩⟩
    · obtain ⟨m, x, y, z⟩ := d2 c (by omega)
      exact ⟨m, x, by rw [pk_un ec]; exact y, z⟩
  · rw [show U + 1 - R o = d + 1 by omega, hd]; exact zs_def_step r1 hk1 hk e r3
  · rw [show U + 1 - R o = d + 1 by omega, hd, zs_stk_step e]
  · rw [show U + 1 - R o = d + 1 by omega, hd, zs_stk_step e, ← hd]; exact hst
  · rw [pk_un (by omega)]; exact r7
  · by_cases ec : c = U
    · rw [ec, pk_us]
    · rw [pk_un ec]; exact r8 c x (by omega)
/-- a token that fills the last slot -/
theorem zi_tok0 {N C U S o k : Nat} {a : Int32} {K A P O L Ow cl so sp so' sp' : Nat → Int32} {R E : Nat → Nat} {s : Nat × Bool} {t : List (Nat × Bool)} (h : zi_inv N C U S (nI o) K A P O L Ow cl so sp R E) (ho : o < N) (hU : U < C)
    (e : zs_stk K (R o) (U - R o) = s :: t) (hk1 : 1 ≤ k) (hk : k ≤ 11) (ha : k = 11 → ∃ m, m < N ∧ a = nI m) (hS : zs_kids (nI k) U ++ t = []) :
    zi_inv N C (U + 1) 0 (-1) (upd K U (nI k)) (upd A U a) (upd P U (nI s.1)) (upd O U (zs_so K O (R o) s)) (upd L s.1 (nI U)) (upd Ow U (nI o)) (upd cl o 1) so' sp' R (zi_un E o (U + 1)) := by
  obtain ⟨⟨a1, a2, a3, a4, a5⟩, b, c1, hR, d1, d2, d3⟩ := h
  obtain ⟨o', ho', eo, hco, H⟩ : ∃ o', o' < N ∧ nI o = nI o' ∧ cl o' = 0 ∧ zi_op K P O L Ow so sp U S (R o') o' := by
    rcases d3 with d3 | d3
    · exact absurd d3.1 (zn_ne1 (by omega))
    · exact d3
  obtain rfl : o = o' := zn_im eo (by omega) (by omega)
  obtain ⟨r1, r2, r3, r4, r5, r6, r7, r8⟩ := H
  obtain ⟨d, hd⟩ : ∃ d, U = R o + d := ⟨U - R o, by omega⟩
  have ed : U - R o = d := by omega
  rw [ed] at e r3
  have hh := zs_hd r1 e
  have hOw : ∀ c, R o - 1 ≤ c → c < U + 1 → upd Ow U (nI o) c = nI o := by
    intro c x y
    by_cases ec : c = U
    · rw [ec, pk_us]
    · rw [pk_un ec]; exact r8 c x (by omega)
  refine ⟨⟨a1, a2, a3, a4, by omega⟩, fun m => ?_, fun m hm hcm => ?_, fun m => ?_, fun c hcU hkc => ?_, fun c hcU => ?_, Or.inl ⟨rfl, rfl⟩⟩
  · by_cases em : m = o
    · rw [em, pk_us]; exact Or.inr rfl
    · rw [pk_un em]; exact b m
  · by_cases em : m = o
    · subst em
      rw [zi_uns]
      refine ⟨r1, by omega, Nat.le_refl _, ?_, ?_, ?_, hOw⟩
      · rw [show U + 1 - R m = d + 1 by omega, hd]; exact zs_def_step r1 hk1 hk e r3
      · rw [show U + 1 - R m = d + 1 by omega, hd, zs_stk_step e, ← hd]; exact hS
      · rw [pk_un (by omega)]; exact r7
    · rw [pk_un em] at hcm
      rw [zi_unn em]
      have Hm := c1 m hm hcm
      refine zi_cl_congr (fun c x y => ?_) (by omega) Hm
      have h3 := Hm.2.2.1
      refine ⟨pk_un (by omega), pk_un (by omega), pk_un (by omega), pk_un (fun z => ?_), pk_un (by omega)⟩
      have w1 := Hm.2.2.2.2.2.2 c x y
      have w2 := r8 c (by omega) (by omega)
      rw [w1] at w2
      exact em (zn_im w2 (by omega) (by omega))
  · by_cases em : m = o
    · rw [em, zi_uns]; exact ⟨(hR o).1, by omega⟩
    · rw [zi_unn em]; exact hR m
  · by_cases ec : c = U
    · rw [ec, pk_us] at hkc; rw [ec, pk_us]
      exact ha (zn_im hkc (by omega) (by decide))
    · rw [pk_un ec] at hkc ⊢; exact d1 c (by omega) hkc
  · by_cases hco2 : R o - 1 ≤ c
    · exact ⟨o, ho, hOw c hco2 hcU, Or.inl ⟨pk_us, by omega, by rw [zi_uns]; exact hcU⟩⟩
    · have ec : c ≠ U := by omega
      obtain ⟨m, x, y, z⟩ := d2 c (by omega)
      refine ⟨m, x, by rw [pk_un ec]; exact y, ?_⟩
      by_cases em : m = o
      · rcases z with z | z
        · have := z.1; rw [em, hco] at this; exact absurd this (by decide)
        · have := z.2; rw [em] at this; omega
      · rw [pk_un em, zi_unn em]
        rcases z with z | z
        · exact Or.inl z
        · exact absurd (zn_im z.1 (by omega) (by omega)).symm em
end
section
/-! one step of a walk with a stack in two arrays -/
theorem zs_st_push {q : Int32 → Int32 → Nat × Bool → Prop} {a b : Nat → Int32} {l : List (Nat × Bool)} {s : Nat × Bool} {x y : Int32} {n : Nat} (hn : n = l.length) (hq : q x y s)
    (h : zs_st (fun i s => q (a i) (b i) s) l) : zs_st (fun i s => q (upd a n x i) (upd b n y i) s) (s :: l) := by
  subst hn
  refine ⟨?_, zs_st_mono l (fun i s' hi _ hq' => ?_) h⟩
  · show q (upd a l.length x l.length) (upd b l.length y l.length) s
    rw [pk_us, pk_us]; exact hq
  · show q (upd a l.length x i) (upd b l.length y i) s'
    rw [pk_un (by omega), pk_un (by omega)]; exact hq'
theorem zo_7 {K O : Nat → Int32} {r c : Nat} {b : Bool} (hc : r ≤ c) (hk : K c = 7) : zs_so K O r (c, b) = O c + 1 := by
  unfold zs_so; rw [if_neg (by show ¬ c < r; omega), if_pos hk]
theorem zo_6f {K O : Nat → Int32} {r c : Nat} (hc : r ≤ c) (hk : K c = 6) : zs_so K O r (c, false) = O c - 1 := by
  unfold zs_so; rw [if_neg (by show ¬ c < r; omega), if_neg (by show ¬ K c = 7; rw [hk]; decide), if_pos ⟨hk, rfl⟩]
theorem zo_6t {K O : Nat → Int32} {r c : Nat} (hc : r ≤ c) (hk : K c = 6) : zs_so K O r (c, true) = O c := by
  unfold zs_so; rw [if_neg (by show ¬ c < r; omega), if_neg (by show ¬ K c = 7; rw [hk]; decide), if_neg (fun z => Bool.noConfusion z.2)]
theorem zo_x {K O : Nat → Int32} {r c : Nat} {b : Bool} (hc : r ≤ c) (h7 : ¬ K c = 7) (h6 : ¬ K c = 6) : zs_so K O r (c, b) = O c := by
  unfold zs_so; rw [if_neg (by show ¬ c < r; omega), if_neg h7, if_neg (fun z => h6 z.1)]
/-! the pairs while they are made: X's states 0, 1, 2 against Y's two marks -/
def zp_n0 (PS : Nat → Int32) : Nat := zg_cn (fun q => decide (PS q = 0)) 256
theorem zp_n0_start {PS : Nat → Int32} {k : Nat} (h0 : k < 256) (hk : PS k = 0) : zp_n0 (upd PS k 1) + 1 = zp_n0 PS :=
  zg_cn_upd (k := k) (by show decide (PS k = 0) = true; rw [hk]; rfl) (by show decide (upd PS k 1 k = 0) = false; rw [pk_us]; rfl) (fun j hj => by show decide (upd PS k 1 j = 0) = decide (PS j = 0); rw [pk_un hj]) 256 h0
theorem zp_n0_fin {PS : Nat → Int32} {k : Nat} (hk : PS k ≠ 0) : zp_n0 (upd PS k 2) = zp_n0 PS := by
  refine zg_cn_eq (fun j => ?_) 256
  show decide (upd PS k 2 j = 0) = decide (PS j = 0)
  by_cases e : j = k
  · subst e; rw [pk_us, decide_eq_false hk]; rfl
  · rw [pk_un e]
theorem zp_n0_le (PS : Nat → Int32) : zp_n0 PS ≤ 256 := zg_cn_le _ 256
end
section
/-! the relation between the two states -/
section Z7
variable {N C U S : Nat} {op lv fn fi pl yne ysp yvsp ypn : Int32}
variable {K A Ow O P L cl rt en ss so sp ds ww lw vi vv ps pv pt yef yet yew yb ynb yv yx ysv ysi yvs ymo ymv yip ypN ypI : Nat → Int32}
variable {R E : Nat → Nat}
theorem zb_0 : vp_nar .boolean 0 = 0 := by decide
theorem zb_1 : vp_nar .boolean 1 = 1 := by decide
theorem zi_S (h : zi_inv N C U S op K A P O L Ow cl so sp R E) : S ≤ 96 := by
  obtain ⟨⟨a1, a2, a3, a4, a5⟩, _, _, _, _, _, h⟩ := h
  rcases h with h | ⟨o, _, _, _, h1, h2, _, h4, _⟩
  · omega
  · have := zs_stk_len K (R o) (U - R o)
    omega
theorem zx_nm0 {post : Int32 → Prop} {x : Int32} (h : x < 0 ∨ nI N ≤ x) (hp : post 0) : wpX_isName post ((nI N), (nI C), (nI U), op, (nI S), pl, lv, fn, fi, K, A, Ow, O, P, L, cl, rt, en, ss, so, sp, ww, lw, vi, vv, ps, pv, pt) x := by
  by_cases h0 : x < 0
  · exact br_t h0 hp
  · exact br_f h0 (br_t (h.resolve_left h0) hp)
theorem zx_nm1 {post : Int32 → Prop} {j : Nat} (h : j < N) (hN : N ≤ 8) (hp : post 1) : wpX_isName post ((nI N), (nI C), (nI U), op, (nI S), pl, lv, fn, fi, K, A, Ow, O, P, L, cl, rt, en, ss, so, sp, ww, lw, vi, vv, ps, pv, pt) (nI j) :=
  br_f (nI_pos (by omega)) (br_f (nI_ge h (by omega)) hp)
end Z7

/-! reset, begin, token -/
def zk_n : Nat → Nat
  | 1 => 0
  | 11 => 0
  | 2 => 1
  | 7 => 1
  | _ => 2
def zk_ss (k S : Nat) (ss : Nat → Int32) : Nat → Int32 := match k with
  | 1 => ss
  | 11 => ss
  | 2 => upd ss S 2
  | 7 => upd ss S 2
  | 3 => upd (upd ss S 1) (S + 1) 1
  | 4 => upd (upd ss S 1) (S + 1) 1
  | 5 => upd (upd ss S 1) (S + 1) 1
  | 6 => upd (upd ss S 2) (S + 1) 1
  | _ => upd (upd ss S 2) (S + 1) 2
def zk_so (k S : Nat) (o : Int32) (so : Nat → Int32) : Nat → Int32 := match k with
  | 1 => so
  | 11 => so
  | 2 => upd so S o
  | 7 => upd so S (o + 1)
  | 6 => upd (upd so S (o - 1)) (S + 1) o
  | _ => upd (upd so S o) (S + 1) o
def zk_sp (k S : Nat) (c : Int32) (sp : Nat → Int32) : Nat → Int32 := match k with
  | 1 => sp
  | 11 => sp
  | 2 => upd sp S c
  | 7 => upd sp S c
  | _ => upd (upd sp S c) (S + 1) c
def zk_a (k : Nat) (a : Int32) : Int32 := if k = 1 then a else if k = 11 then a else 0
theorem zk_c {k : Nat} (h1 : 1 ≤ k) (h : k ≤ 11) : k = 1 ∨ k = 2 ∨ k = 3 ∨ k = 4 ∨ k = 5 ∨ k = 6 ∨ k = 7 ∨ k = 8 ∨ k = 9 ∨ k = 10 ∨ k = 11 := by omega
theorem zk_len {k c : Nat} {t : List (Nat × Bool)} (h1 : 1 ≤ k) (h : k ≤ 11) : (zs_kids (nI k) c ++ t).length = t.length + zk_n k := by
  rcases zk_c h1 h with rfl | rfl | rfl | rfl | rfl | rfl | rfl | rfl | rfl | rfl | rfl <;> rfl
theorem zk_st {K O so sp : Nat → Int32} {r k c S : Nat} {o : Int32} {t : List (Nat × Bool)} (h1 : 1 ≤ k) (h : k ≤ 11) (hr : r ≤ c) (hK : K c = nI k) (hO : O c = o) (hS : S = t.length)
    (hst : zs_st (fun i x => sp i = nI x.1 ∧ so i = zs_so K O r x) t) :
    zs_st (fun i x => zk_sp k S (nI c) sp i = nI x.1 ∧ zk_so k S o so i = zs_so K O r x) (zs_kids (nI k) c ++ t) := by
  have hx : ∀ b, ¬ nI k = 7 → ¬ nI k = 6 → o = zs_so K O r (c, b) := fun b a1 a2 => by rw [zo_x hr (by rw [hK]; exact a1) (by rw [hK]; exact a2)]; exact hO.symm
  rcases zk_c h1 h with rfl | rfl | rfl | rfl | rfl | rfl | rfl | rfl | rfl | rfl | rfl
  · exact hst
  · exact zs_st_push (q := fun x y z => x = nI z.1 ∧ y = zs_so K O r z) (a := sp) (b := so) hS ⟨rfl, hx true (by decide) (by decide)⟩ hst
  · exact zs_st_push (q := fun x y z => x = nI z.1 ∧ y = zs_so K O r z) (n := S + 1) (s := (c, true)) (by rw [hS]; rfl) ⟨rfl, hx true (by decide) (by decide)⟩ (zs_st_push (q := fun x y z => x = nI z.1 ∧ y = zs_so K O r z) (a := sp) (b := so) (s := (c, false)) hS ⟨rfl, hx false (by decide) (by decide)⟩ hst)
  · exact zs_st_push (q := fun x y z => x = nI z.1 ∧ y = zs_so K O r z) (n := S + 1) (s := (c, true)) (by rw [hS]; rfl) ⟨rfl, hx true (by decide) (by decide)⟩ (zs_st_push (q := fun x y z => x = nI z.1 ∧ y = zs_so K O r z) (a := sp) (b := so) (s := (c, false)) hS ⟨rfl, hx false (by decide) (by decide)⟩ hst)
  · exact zs_st_push (q := fun x y z => x = nI z.1 ∧ y = zs_so K O r z) (n := S + 1) (s := (c, true)) (by rw [hS]; rfl) ⟨rfl, hx true (by decide) (by decide)⟩ (zs_st_push (q := fun x y z => x = nI z.1 ∧ y = zs_so K O r z) (a := sp) (b := so) (s := (c, false)) hS ⟨rfl, hx false (by decide) (by decide)⟩ hst)
  · exact zs_st_push (q := fun x y z => x = nI z.1 ∧ y = zs_so K O r z) (n := S + 1) (s := (c, true)) (by rw [hS]; rfl) ⟨rfl, by rw [zo_6t hr hK, hO]⟩ (zs_st_push (q := fun x y z => x = nI z.1 ∧ y = zs_so K O r z) (a := sp) (b := so) (s := (c, false)) hS ⟨rfl, by rw [zo_6f hr hK, hO]⟩ hst)
  · exact zs_st_push (q := fun x y z => x = nI z.1 ∧ y = zs_so K O r z) (a := sp) (b := so) hS ⟨rfl, by rw [zo_7 hr hK, hO]⟩ hst
  · exact zs_st_push (q := fun x y z => x = nI z.1 ∧ y = zs_so K O r z) (n := S + 1) (s := (c, true)) (by rw [hS]; rfl) ⟨rfl, hx true (by decide) (by decide)⟩ (zs_st_push (q := fun x y z => x = nI z.1 ∧ y = zs_so K O r z) (a := sp) (b := so) (s := (c, false)) hS ⟨rfl, hx false (by decide) (by decide)⟩ hst)
  · exact zs_st_push (q := fun x y z => x = nI z.1 ∧ y = zs_so K O r z) (n := S + 1) (s := (c, true)) (by rw [hS]; rfl) ⟨rfl, hx true (by decide) (by decide)⟩ (zs_st_push (q := fun x y z => x = nI z.1 ∧ y = zs_so K O r z) (a := sp) (b := so) (s := (c, false)) hS ⟨rfl, hx false (by decide) (by decide)⟩ hst)
  · exact zs_st_push (q := fun x y z => x = nI z.1 ∧ y = zs_so K O r z) (n := S + 1) (s := (c, true)) (by rw [hS]; rfl) ⟨rfl, hx true (by decide) (by decide)⟩ (zs_st_push (q := fun x y z => x = nI z.1 ∧ y = zs_so K O r z) (a := sp) (b := so) (s := (c, false)) hS ⟨rfl, hx false (by decide) (by decide)⟩ hst)
  · exact hst
section Z8
variable {N C U S : Nat} {op lv fn fi pl yne ysp yvsp ypn : Int32}
variable {K A Ow O P L cl rt en ss so sp ds ww lw vi vv ps pv pt yef yet yew yb ynb yv yx ysv ysi yvs ymo ymv yip ypN ypI : Nat → Int32}
variable {R E : Nat → Nat}
theorem zx_append {post : St2 → Prop} {x y : Int32} (hU : U < 96) (hp : post ((nI N), (nI C), (nI (U + 1)), op, (nI S), pl, lv, fn, fi, (upd K U x), (upd A U y), (upd Ow U op), O, P, L, cl, rt, en, ss, so, sp, ww, lw, vi, vv, ps, pv, pt)) : wpX_appendCell post ((nI N), (nI C), (nI U), op, (nI S), pl, lv, fn, fi, K, A, Ow, O, P, L, cl, rt, en, ss, so, sp, ww, lw, vi, vv, ps, pv, pt) x y := by
  have e : (nI U).toNatClampNeg = U := nI_clamp (by omega)
  have hin : vp_in (nI U) 96 := vp_in_nI hU (by omega)
  exact ⟨hin, nm_r (by rw [e]) ⟨hin, nm_r (by rw [e]) ⟨hin, nm_r (by rw [e]) (nm_r (nI_1 U) hp)⟩⟩⟩
theorem zx_put {post : St2 → Prop} {x y z : Int32} (hS : S < 96) (hp : post ((nI N), (nI C), (nI U), op, (nI (S + 1)), pl, lv, fn, fi, K, A, Ow, O, P, L, cl, rt, en, (upd ss S x), (upd so S y), (upd sp S z), ww, lw, vi, vv, ps, pv, pt)) : wpX_putSlot post ((nI N), (nI C), (nI U), op, (nI S), pl, lv, fn, fi, K, A, Ow, O, P, L, cl, rt, en, ss, so, sp, ww, lw, vi, vv, ps, pv, pt) x y z := by
  have e : (nI S).toNatClampNeg = S := nI_clamp (by omega)
  have hin : vp_in (nI S) 96 := vp_in_nI hS (by omega)
  exact ⟨hin, nm_r (by rw [e]) ⟨hin, nm_r (by rw [e]) ⟨hin, nm_r (by rw [e]) (nm_r (nI_1 S) hp)⟩⟩⟩
theorem zx_fill {post : St2 → Prop} {p c : Nat} {o : Int32} (hS : S < 96) (hp' : sp S = nI p) (ho : so S = o) (hp96 : p < 96) (hc : c < 96)
    (hp : post ((nI N), (nI C), (nI U), op, (nI S), pl, lv, fn, fi, K, A, Ow, (upd O c o), (upd P c (nI p)), (upd L p (nI c)), cl, rt, en, ss, so, sp, ww, lw, vi, vv, ps, pv, pt)) : wpX_fillNextSlot post ((nI N), (nI C), (nI U), op, (nI (S + 1)), pl, lv, fn, fi, K, A, Ow, O, P, L, cl, rt, en, ss, so, sp, ww, lw, vi, vv, ps, pv, pt) (nI c) := by
  have e : (nI S).toNatClampNeg = S := nI_clamp (by omega)
  have ec : (nI c).toNatClampNeg = c := nI_clamp (by omega)
  have ep : (nI p).toNatClampNeg = p := nI_clamp (by omega)
  have hin : vp_in (nI S) 96 := vp_in_nI hS (by omega)
  have hic : vp_in (nI c) 96 := vp_in_nI hc (by omega)
  have hip : vp_in (nI p) 96 := vp_in_nI hp96 (by omega)
  exact nm_r (nI_pred S) ⟨hin, nm_r (by rw [e, hp']) ⟨hin, hic, nm_r (by rw [e, ec, ho]) ⟨hic, nm_r (by rw [ec]) ⟨hip, nm_r (by rw [ep]) hp⟩⟩⟩⟩
theorem zx_kids {post : St2 → Prop} {k c : Nat} {o : Int32} (h1 : 1 ≤ k) (h : k ≤ 11) (hc : c < 96) (hK : K c = nI k) (hO : O c = o) (hS : S + 2 ≤ 96)
    (hp : post ((nI N), (nI C), (nI U), op, (nI (S + zk_n k)), pl, lv, fn, fi, K, A, Ow, O, P, L, cl, rt, en, (zk_ss k S ss), (zk_so k S o so), (zk_sp k S (nI c) sp), ww, lw, vi, vv, ps, pv, pt)) : wpX_putChildSlots post ((nI N), (nI C), (nI U), op, (nI S), pl, lv, fn, fi, K, A, Ow, O, P, L, cl, rt, en, ss, so, sp, ww, lw, vi, vv, ps, pv, pt) (nI c) := by
  have ec : (nI c).toNatClampNeg = c := nI_clamp (by omega)
  have hic : vp_in (nI c) 96 := vp_in_nI hc (by omega)
  rcases zk_c h1 h with rfl | rfl | rfl | rfl | rfl | rfl | rfl | rfl | rfl | rfl | rfl
  · exact ⟨hic, nm_r (by rw [ec, hO]) ⟨hic, nm_r (e' := nI 1) (by rw [ec, hK]) (br_t (by decide) (hp))⟩⟩
  · exact ⟨hic, nm_r (by rw [ec, hO]) ⟨hic, nm_r (e' := nI 2) (by rw [ec, hK]) (br_f (by decide) (br_f (by decide) (br_t (by decide) (zx_put (by omega) hp))))⟩⟩
  · exact ⟨hic, nm_r (by rw [ec, hO]) ⟨hic, nm_r (e' := nI 3) (by rw [ec, hK]) (br_f (by decide) (br_f (by decide) (br_f (by decide) (br_t (by decide) (zx_put (by omega) (zx_put (by omega) hp))))))⟩⟩
  · exact ⟨hic, nm_r (by rw [ec, hO]) ⟨hic, nm_r (e' := nI 4) (by rw [ec, hK]) (br_f (by decide) (br_f (by decide) (br_f (by decide) (br_f (by decide) (br_t (by decide) (zx_put (by omega) (zx_put (by omega) hp)))))))⟩⟩
  · exact ⟨hic, nm_r (by rw [ec, hO]) ⟨hic, nm_r (e' := nI 5) (by rw [ec, hK]) (br_f (by decide) (br_f (by decide) (br_f (by decide) (br_f (by decide) (br_f (by decide) (br_t (by decide) (zx_put (by omega) (zx_put (by omega) hp))))))))⟩⟩
  · exact ⟨hic, nm_r (by rw [ec, hO]) ⟨hic, nm_r (e' := nI 6) (by rw [ec, hK]) (br_f (by decide) (br_f (by decide) (br_f (by decide) (br_f (by decide) (br_f (by decide) (br_f (by decide) (br_t (by decide) (zx_put (by omega) (zx_put (by omega) hp)))))))))⟩⟩
  · exact ⟨hic, nm_r (by rw [ec, hO]) ⟨hic, nm_r (e' := nI 7) (by rw [ec, hK]) (br_f (by decide) (br_f (by decide) (br_f (by decide) (br_f (by decide) (br_f (by decide) (br_f (by decide) (br_f (by decide) (br_t (by decide) (zx_put (by omega) hp)))))))))⟩⟩
  · exact ⟨hic, nm_r (by rw [ec, hO]) ⟨hic, nm_r (e' := nI 8) (by rw [ec, hK]) (br_f (by decide) (br_f (by decide) (br_f (by decide) (br_f (by decide) (br_f (by decide) (br_f (by decide) (br_f (by decide) (br_f (by decide) (br_t (by decide) (zx_put (by omega) (zx_put (by omega) hp)))))))))))⟩⟩
  · exact ⟨hic, nm_r (by rw [ec, hO]) ⟨hic, nm_r (e' := nI 9) (by rw [ec, hK]) (br_f (by decide) (br_f (by decide) (br_f (by decide) (br_f (by decide) (br_f (by decide) (br_f (by decide) (br_f (by decide) (br_f (by decide) (br_f (by decide) (br_t (by decide) (zx_put (by omega) (zx_put (by omega) hp))))))))))))⟩⟩
  · exact ⟨hic, nm_r (by rw [ec, hO]) ⟨hic, nm_r (e' := nI 10) (by rw [ec, hK]) (br_f (by decide) (br_f (by decide) (br_f (by decide) (br_f (by decide) (br_f (by decide) (br_f (by decide) (br_f (by decide) (br_f (by decide) (br_f (by decide) (br_f (by decide) (br_t (by decide) (zx_put (by omega) (zx_put (by omega) hp)))))))))))))⟩⟩
  · exact ⟨hic, nm_r (by rw [ec, hO]) ⟨hic, nm_r (e' := nI 11) (by rw [ec, hK]) (br_f (by decide) (br_t (by decide) (hp)))⟩⟩
theorem zx_62 {post : Int32 → St2 → Prop} {k p o' : Nat} {a o : Int32} (h1 : 1 ≤ k) (h : k ≤ 11) (hU : U < 96) (ho' : o' < 8) (hS : S + 2 ≤ 96) (hp' : sp S = nI p) (ho : so S = o) (hp96 : p < 96)
    (hz : S + zk_n k = 0 → post 1 ((nI N), (nI C), (nI (U + 1)), (-1), (nI (S + zk_n k)), pl, lv, fn, fi, (upd K U (nI k)), (upd A U a), (upd Ow U (nI o')), (upd O U o), (upd P U (nI p)), (upd L p (nI U)), (upd cl o' 1), rt, (upd en o' (nI (U + 1))), (zk_ss k S ss), (zk_so k S o so), (zk_sp k S (nI U) sp), ww, lw, vi, vv, ps, pv, pt))
    (hn : S + zk_n k ≠ 0 → post 1 ((nI N), (nI C), (nI (U + 1)), (nI o'), (nI (S + zk_n k)), pl, lv, fn, fi, (upd K U (nI k)), (upd A U a), (upd Ow U (nI o')), (upd O U o), (upd P U (nI p)), (upd L p (nI U)), cl, rt, en, (zk_ss k S ss), (zk_so k S o so), (zk_sp k S (nI U) sp), ww, lw, vi, vv, ps, pv, pt)) :
    wX_token_62 post (nI U) a (nI k) (nI N) (nI C) (nI U) (nI o') (nI (S + 1)) pl lv fn fi K A Ow O P L cl rt en ss so sp ww lw vi vv ps pv pt := by
  have hn2 : zk_n k ≤ 2 := by rcases zk_c h1 h with rfl | rfl | rfl | rfl | rfl | rfl | rfl | rfl | rfl | rfl | rfl <;> decide
  unfold wX_token_62
  refine zx_append hU (zx_fill (by omega) hp' ho hp96 hU (zx_kids h1 h hU pk_us pk_us hS ?_))
  by_cases hz0 : S + zk_n k = 0
  · refine br_t (by rw [hz0]; rfl) ?_
    have e : (nI o').toNatClampNeg = o' := nI_clamp (by omega)
    have hin : vp_in (nI o') 8 := vp_in_nI ho' (by omega)
    exact ⟨hin, nm_r (by rw [e]) ⟨hin, nm_r (by rw [e]) (hz hz0)⟩⟩
  · exact br_f (nI_ne0 (by omega) (by omega)) (hn hz0)
theorem zx_26 {post : Int32 → St2 → Prop} {k : Nat} {a : Int32} (h : k ≤ 11) (hU : U < C) (hC : C ≤ 96) (hp : wX_token_62 post (nI U) (zk_a k a) (nI k) (nI N) (nI C) (nI U) op (nI S) pl lv fn fi K A Ow O P L cl rt en ss so sp ww lw vi vv ps pv pt) : wX_token_26 post (nI k) a (nI N) (nI C) (nI U) op (nI S) pl lv fn fi K A Ow O P L cl rt en ss so sp ww lw vi vv ps pv pt := by
  refine br_t (nI_lt hU (by omega)) ?_
  unfold zk_a at hp
  by_cases e1 : k = 1
  · rw [if_pos e1] at hp
    exact br_t (by rw [e1]; rfl) hp
  · rw [if_neg e1] at hp
    refine br_f (fun z => e1 (zn_im (b := 1) z (by omega) (by omega))) ?_
    by_cases e2 : k = 11
    · rw [if_pos e2] at hp
      exact br_t (by rw [e2]; rfl) hp
    · rw [if_neg e2] at hp
      exact br_f (fun z => e2 (zn_im (b := 11) z (by omega) (by omega))) hp
def zk_srt (k : Nat) : Int32 := if 5 < k then 2 else 1
theorem zx_fits {post : Int32 → Prop} {k : Nat} (h1 : 1 ≤ k) (h : k ≤ 11) (hS : S + 1 ≤ 96) (hy : zk_srt k = ss S → post 1) (hn : ¬ zk_srt k = ss S → post 0) : wpX_fitsNextSlot post ((nI N), (nI C), (nI U), op, (nI (S + 1)), pl, lv, fn, fi, K, A, Ow, O, P, L, cl, rt, en, ss, so, sp, ww, lw, vi, vv, ps, pv, pt) (nI k) := by
  have e : nI (S + 1) - 1 = nI S := nI_pred S
  have ec : (nI S).toNatClampNeg = S := nI_clamp (by omega)
  have hin : vp_in (nI (S + 1) - 1) 96 := by rw [e]; exact vp_in_nI (by omega) (by omega)
  refine br_f (nI_nlt (b := 1) (by omega) (by omega)) (br_f (nI_nlt (a := 11) (by omega) (by decide)) (br_f (nI_ne0 (by omega) (by omega)) ?_))
  unfold zk_srt at hy hn
  by_cases h5 : 5 < k
  · rw [if_pos h5] at hy hn
    refine br_t (nI_lt (a := 5) h5 (by omega)) ⟨hin, ?_⟩
    rw [e, ec]
    exact br_c hy hn
  · rw [if_neg h5] at hy hn
    refine br_f (nI_nlt (a := 5) (by omega) (by decide)) ⟨hin, ?_⟩
    rw [e, ec]
    exact br_c hy hn
theorem zx_tk {post : Int32 → St2 → Prop} {k o : Nat} {a : Int32} (h1 : 1 ≤ k) (h : k ≤ 11) (ho : o < 8) (hN : N ≤ 8) (hS : S + 1 ≤ 96) (hn : ¬ zk_srt k = ss S → post 0 ((nI N), (nI C), (nI U), (nI o), (nI (S + 1)), pl, lv, fn, fi, K, A, Ow, O, P, L, cl, rt, en, ss, so, sp, ww, lw, vi, vv, ps, pv, pt))
    (hb : zk_srt k = ss S → k = 11 → (a < 0 ∨ nI N ≤ a) → post 0 ((nI N), (nI C), (nI U), (nI o), (nI (S + 1)), pl, lv, fn, fi, K, A, Ow, O, P, L, cl, rt, en, ss, so, sp, ww, lw, vi, vv, ps, pv, pt))
    (hy : zk_srt k = ss S → (k = 11 → ∃ m, m < N ∧ a = nI m) → wX_token_26 post (nI k) a (nI N) (nI C) (nI U) (nI o) (nI (S + 1)) pl lv fn fi K A Ow O P L cl rt en ss so sp ww lw vi vv ps pv pt) : wpX_token post ((nI N), (nI C), (nI U), (nI o), (nI (S + 1)), pl, lv, fn, fi, K, A, Ow, O, P, L, cl, rt, en, ss, so, sp, ww, lw, vi, vv, ps, pv, pt) (nI k) a := by
  unfold wpX_token
  refine zx_fits h1 h hS (fun hs => br_f zn_10 ?_) (fun hs => br_t rfl (hn hs))
  by_cases h11 : k = 11
  · refine br_t (by rw [h11]; rfl) ?_
    by_cases hv : a < 0 ∨ nI N ≤ a
    · exact zx_nm0 hv (br_t rfl (hb hs h11 hv))
    · obtain ⟨m, hm, em⟩ : ∃ m : Nat, m < N ∧ a = nI m := by
        rcases pk_ix a (n := N) (by omega) with h | h | h
        · exact absurd (Or.inl h) hv
        · exact absurd (Or.inr h) hv
        · exact h
      have hw := hy hs (fun _ => ⟨m, hm, em⟩)
      rw [em] at hw ⊢
      exact zx_nm1 hm hN (br_f zn_10 hw)
  · exact br_f (fun z => h11 (zn_im (b := 11) z (by omega) (by omega))) (hy hs (fun z => absurd z h11))
end Z8
end
section
/-! guard, the component's side -/
section Z10
variable {N C U S : Nat} {op lv fn fi pl yne ysp yvsp ypn : Int32}
variable {K A Ow O P L cl rt en ss so sp ds ww lw vi vv ps pv pt yef yet yew yb ynb yv yx ysv ysi yvs ymo ymv yip ypN ypI : Nat → Int32}
variable {R E : Nat → Nat}
theorem zx_l72 {post : St2 → Prop} {Z : Nat → Int32} (hN : N ≤ 8) (hl : ∀ t, t < N → lw t = Z t) (hp : ∀ ww', (∀ t, t < N → ww' t = Z t) → post ((nI N), (nI C), (nI U), op, (nI S), pl, lv, fn, fi, K, A, Ow, O, P, L, cl, rt, en, ss, so, sp, ww', lw, vi, vv, ps, pv, pt)) :
    ∀ d i ww, i + d = N → (∀ t, t < i → ww t = Z t) → wX_lengthenWalks_72 post (nI N) (nI C) (nI U) op (nI S) pl lv fn fi (d + 1) (nI i) K A Ow O P L cl rt en ss so sp ww lw vi vv ps pv pt := by
  intro d
  induction d with
  | zero =>
    intro i ww hi hw
    exact br_t (nI_le (by omega) (by omega)) (hp ww (fun t ht => hw t (by omega)))
  | succ d ih =>
    intro i ww hi hw
    have e : (nI i).toNatClampNeg = i := nI_clamp (by omega)
    have hin : vp_in (nI i) 8 := vp_in_nI (by omega) (by omega)
    refine br_f (nI_ge (by omega) (by omega)) ⟨hin, hin, nm_r (e' := upd ww i (Z i)) (by rw [e, hl i (by omega)]) (nm_r (nI_1 i) (ih (i + 1) _ (by omega) (fun t ht => ?_)))⟩
    by_cases et : t = i
    · rw [et, pk_us]
    · rw [pk_un et]; exact hw t (by omega)
theorem zx_fol {post : St2 → Prop} {W : Nat → Int32} {i n m : Nat} (hi : i < 96) (hn : n < 8) (hm : m < 8) (eo : Ow i = nI n) (ea : A i = nI m) (ew : ww n = W n)
    (h1 : W n = -1000000 → post ((nI N), (nI C), (nI U), op, (nI S), pl, lv, fn, fi, K, A, Ow, O, P, L, cl, rt, en, ss, so, sp, ww, lw, vi, vv, ps, pv, pt)) (h2 : ¬ W n = -1000000 → ¬ lw m < W n + O i → post ((nI N), (nI C), (nI U), op, (nI S), pl, lv, fn, fi, K, A, Ow, O, P, L, cl, rt, en, ss, so, sp, ww, lw, vi, vv, ps, pv, pt)) (h3 : ¬ W n = -1000000 → lw m < W n + O i → post ((nI N), (nI C), (nI U), op, (nI S), pl, lv, fn, fi, K, A, Ow, O, P, L, cl, rt, en, ss, so, sp, ww, (upd lw m (W n + O i)), vi, vv, ps, pv, pt)) :
    wpX_followEdge post ((nI N), (nI C), (nI U), op, (nI S), pl, lv, fn, fi, K, A, Ow, O, P, L, cl, rt, en, ss, so, sp, ww, lw, vi, vv, ps, pv, pt) (nI i) := by
  have e : (nI i).toNatClampNeg = i := nI_clamp (by omega)
  have en : (nI n).toNatClampNeg = n := nI_clamp (by omega)
  have em : (nI m).toNatClampNeg = m := nI_clamp (by omega)
  have hin : vp_in (nI i) 96 := vp_in_nI hi (by omega)
  have hm8 : vp_in (nI m) 8 := vp_in_nI hm (by omega)
  refine ⟨hin, by rw [e, eo]; exact vp_in_nI hn (by omega), nm_r (e' := W n) (by rw [e, eo, en, ew]) ?_⟩
  by_cases hw : W n = -1000000
  · exact br_t hw (h1 hw)
  · refine br_f hw ⟨hin, nm_r (e' := nI m) (by rw [e, ea]) ⟨hin, nm_r (e' := W n + O i) (by rw [e]) ⟨hm8, ?_⟩⟩⟩
    by_cases hl : lw m < W n + O i
    · exact br_f (by rw [em]; exact Int32.not_le.mpr hl) ⟨hm8, nm_r (by rw [em]) (h3 hw hl)⟩
    · exact br_t (by rw [em]; exact Int32.not_lt.mp hl) (h2 hw hl)
theorem zx_l26 {post : St2 → Prop} {W : Nat → Int32} (hN : N ≤ 8) (hU : U ≤ 96) (hcl : ∀ n, cl n = 0 ∨ cl n = 1) (hA : ∀ c, c < U → K c = 11 → ∃ m, m < N ∧ A c = nI m) (hO : ∀ c, c < U → ∃ n, n < N ∧ Ow c = nI n)
    (hw : ∀ t, t < N → ww t = W t) (hp : ∀ lw', (∀ t, t < N → lw' t = zg_len K A O Ow cl W U t) → ∃ n72 : Nat, wX_lengthenWalks_72 post (nI N) (nI C) (nI U) op (nI S) pl lv fn fi n72 0 K A Ow O P L cl rt en ss so sp ww lw' vi vv ps pv pt) :
    ∀ d i lw, i + d = U → (∀ t, t < N → lw t = zg_len K A O Ow cl W i t) → wX_lengthenWalks_26 post (d + 1) (nI i) (nI N) (nI C) (nI U) op (nI S) pl lv fn fi K A Ow O P L cl rt en ss so sp ww lw vi vv ps pv pt := by
  intro d
  induction d with
  | zero =>
    intro i lw hi hl
    obtain rfl : i = U := by omega
    exact br_t (nI_le (by omega) (by omega)) (hp lw hl)
  | succ d ih =>
    intro i lw hi hl
    have e : (nI i).toNatClampNeg = i := nI_clamp (by omega)
    have hin : vp_in (nI i) 96 := vp_in_nI (by omega) (by omega)
    refine br_f (nI_ge (by omega) (by omega)) ⟨hin, ?_⟩
    have es : zg_len K A O Ow cl W (i + 1) = zg_fe K A O Ow cl W (zg_len K A O Ow cl W i) i := rfl
    by_cases hk : K (nI i).toNatClampNeg = 11
    · have hk' := hk
      rw [e] at hk'
      obtain ⟨m, hm, em⟩ := hA i (by omega) hk'
      obtain ⟨n, hn, en⟩ := hO i (by omega)
      have en8 : (nI n).toNatClampNeg = n := nI_clamp (by omega)
      have em8 : (nI m).toNatClampNeg = m := nI_clamp (by omega)
      refine br_t hk ⟨hin, by rw [e, en]; exact vp_in_nI (by omega) (by omega), ?_⟩
      by_cases hc : cl (Ow (nI i).toNatClampNeg).toNatClampNeg = 0
      · refine br_t hc (nm_r (nI_1 i) (ih (i + 1) lw (by omega) (fun t ht => ?_)))
        rw [es]; unfold zg_fe
        rw [if_neg (fun z => by have := z.2; rw [← e, hc] at this; exact absurd this (by decide))]
        exact hl t ht
      · have hc1 : cl n = 1 := by
          rw [e, en, en8] at hc
          exact (hcl n).resolve_left hc
        have hcond : K i = 11 ∧ cl (Ow i).toNatClampNeg = 1 := ⟨hk', by rw [en, en8]; exact hc1⟩
        refine br_f hc (zx_fol (W := W) (n := n) (m := m) (by omega) (by omega) (by omega) en em (hw n hn) (fun h1 => nm_r (nI_1 i) (ih (i + 1) lw (by omega) (fun t ht => ?_)))
          (fun h1 h2 => nm_r (nI_1 i) (ih (i + 1) lw (by omega) (fun t ht => ?_))) (fun h1 h2 => nm_r (nI_1 i) (ih (i + 1) _ (by omega) (fun t ht => ?_))))
        · rw [es]; unfold zg_fe
          rw [if_pos hcond, en, en8, if_pos h1]; exact hl t ht
        · rw [es]; unfold zg_fe
          rw [if_pos hcond, en, en8, if_neg h1, em, em8, if_neg (by rw [← hl m hm]; exact h2)]; exact hl t ht
        · rw [es]; unfold zg_fe
          rw [if_pos hcond, en, en8, if_neg h1, em, em8, if_pos (by rw [← hl m hm]; exact h2)]
          by_cases et : t = m
          · rw [et, pk_us, pk_us]
          · rw [pk_un et, pk_un et]; exact hl t ht
    · refine br_f hk (nm_r (nI_1 i) (ih (i + 1) lw (by omega) (fun t ht => ?_)))
      rw [es]; unfold zg_fe
      rw [if_neg (fun z => hk (by rw [e]; exact z.1))]
      exact hl t ht
theorem zx_l2 {post : St2 → Prop} (hN : N ≤ 8) (hp : ∀ lw', (∀ t, t < N → lw' t = -1000000) → ∃ n26 : Nat, wX_lengthenWalks_26 post n26 0 (nI N) (nI C) (nI U) op (nI S) pl lv fn fi K A Ow O P L cl rt en ss so sp ww lw' vi vv ps pv pt) :
    ∀ d i lw, i + d = N → (∀ t, t < i → lw t = -1000000) → wX_lengthenWalks_2 post (nI N) (nI C) (nI U) op (nI S) pl lv fn fi (d + 1) (nI i) K A Ow O P L cl rt en ss so sp ww lw vi vv ps pv pt := by
  intro d
  induction d with
  | zero =>
    intro i lw hi hl
    exact br_t (nI_le (by omega) (by omega)) (hp lw (fun t ht => hl t (by omega)))
  | succ d ih =>
    intro i lw hi hl
    have e : (nI i).toNatClampNeg = i := nI_clamp (by omega)
    refine br_f (nI_ge (by omega) (by omega)) ⟨vp_in_nI (by omega) (by omega), nm_r (e' := upd lw i (-1000000)) (by rw [e]) (nm_r (nI_1 i) (ih (i + 1) _ (by omega) (fun t ht => ?_)))⟩
    by_cases et : t = i
    · rw [et, pk_us]
    · rw [pk_un et]; exact hl t (by omega)
theorem zx_len {post : St2 → Prop} {W : Nat → Int32} (hN : N ≤ 8) (hU : U ≤ 96) (hcl : ∀ n, cl n = 0 ∨ cl n = 1) (hA : ∀ c, c < U → K c = 11 → ∃ m, m < N ∧ A c = nI m) (hO : ∀ c, c < U → ∃ n, n < N ∧ Ow c = nI n)
    (hw : ∀ t, t < N → ww t = W t) (hp : ∀ ww' lw', (∀ t, t < N → ww' t = zg_len K A O Ow cl W U t) → post ((nI N), (nI C), (nI U), op, (nI S), pl, lv, fn, fi, K, A, Ow, O, P, L, cl, rt, en, ss, so, sp, ww', lw', vi, vv, ps, pv, pt)) : wpX_lengthenWalks post ((nI N), (nI C), (nI U), op, (nI S), pl, lv, fn, fi, K, A, Ow, O, P, L, cl, rt, en, ss, so, sp, ww, lw, vi, vv, ps, pv, pt) :=
  ⟨_, zx_l2 hN (fun lw1 h1 => ⟨_, zx_l26 hN hU hcl hA hO hw (fun lw2 h2 => ⟨_, zx_l72 (Z := zg_len K A O Ow cl W U) hN h2 (fun ww' h3 => hp ww' lw2 h3) N 0 _ (by omega) (fun t ht => absurd ht (Nat.not_lt_zero t))⟩) U 0 lw1 (by omega) h1⟩) N 0 _ (by omega) (fun t ht => absurd ht (Nat.not_lt_zero t))⟩
theorem zx_st {post : St2 → Prop} {a : Nat} (hN : N ≤ 8) (ha : a < N) (hp : ∀ ww', (∀ t, t < N → ww' t = if t = a then 0 else -1000000) → post ((nI N), (nI C), (nI U), op, (nI S), pl, lv, fn, fi, K, A, Ow, O, P, L, cl, rt, en, ss, so, sp, ww', lw, vi, vv, ps, pv, pt)) :
    ∀ d i ww, i + d = N → (∀ t, t < i → ww t = -1000000) → wX_startWalksAt_2 post (nI a) (nI N) (nI C) (nI U) op (nI S) pl lv fn fi (d + 1) (nI i) K A Ow O P L cl rt en ss so sp ww lw vi vv ps pv pt := by
  intro d
  induction d with
  | zero =>
    intro i ww hi hl
    have e : (nI a).toNatClampNeg = a := nI_clamp (by omega)
    refine br_t (nI_le (by omega) (by omega)) ⟨vp_in_nI (by omega) (by omega), nm_r (e' := upd ww a 0) (by rw [e]) (hp _ (fun t ht => ?_))⟩
    by_cases et : t = a
    · rw [if_pos et, et, pk_us]
    · rw [if_neg et, pk_un et]; exact hl t (by omega)
  | succ d ih =>
    intro i ww hi hl
    have e : (nI i).toNatClampNeg = i := nI_clamp (by omega)
    refine br_f (nI_ge (by omega) (by omega)) ⟨vp_in_nI (by omega) (by omega), nm_r (e' := upd ww i (-1000000)) (by rw [e]) (nm_r (nI_1 i) (ih (i + 1) _ (by omega) (fun t ht => ?_)))⟩
    by_cases et : t = i
    · rw [et, pk_us]
    · rw [pk_un et]; exact hl t (by omega)
theorem zx_g30 {post : Int32 → St2 → Prop} {a b : Nat} (hb : b < N) (hN : N ≤ 8) (hU : U ≤ 96) (hcl : ∀ n, cl n = 0 ∨ cl n = 1) (hA : ∀ c, c < U → K c = 11 → ∃ m, m < N ∧ A c = nI m) (hO : ∀ c, c < U → ∃ n, n < N ∧ Ow c = nI n)
    (hp : ∀ ww' lw', post (zg_g K A O Ow cl U a b N) ((nI N), (nI C), (nI U), op, (nI S), pl, lv, fn, fi, K, A, Ow, O, P, L, cl, rt, en, ss, so, sp, ww', lw', vi, vv, ps, pv, pt)) :
    ∀ d l ww lw, l + d = N → (∀ t, t < N → ww t = zg_seq K A O Ow cl U a l t) → wX_guard_30 post (nI b) (d + 1) (zg_g K A O Ow cl U a b l) (nI (l + 1)) (nI N) (nI C) (nI U) op (nI S) pl lv fn fi K A Ow O P L cl rt en ss so sp ww lw vi vv ps pv pt := by
  intro d
  induction d with
  | zero =>
    intro l ww lw hl hw
    obtain rfl : l = N := by omega
    exact br_t (nI_lt (by omega) (by omega)) (hp ww lw)
  | succ d ih =>
    intro l ww lw hl hw
    have e : (nI b).toNatClampNeg = b := nI_clamp (by omega)
    have hin : vp_in (nI b) 8 := vp_in_nI (by omega) (by omega)
    refine br_f (nI_nlt (by omega) (by omega)) (zx_len hN hU hcl hA hO hw (fun ww' lw' hw' => ⟨hin, ?_⟩))
    have hg : zg_g K A O Ow cl U a b (l + 1) = if zg_g K A O Ow cl U a b l < zg_seq K A O Ow cl U a (l + 1) b then zg_seq K A O Ow cl U a (l + 1) b else zg_g K A O Ow cl U a b l := rfl
    have eb : ww' b = zg_seq K A O Ow cl U a (l + 1) b := hw' b hb
    have IH := ih (l + 1) ww' lw' (by omega) hw'
    by_cases hc : zg_g K A O Ow cl U a b l < zg_seq K A O Ow cl U a (l + 1) b
    · rw [hg, if_pos hc] at IH
      refine br_f (by rw [e, eb]; exact Int32.not_le.mpr hc) ⟨hin, nm_r (by rw [e, eb]) (nm_r (nI_1 (l + 1)) IH)⟩
    · rw [hg, if_neg hc] at IH
      exact br_t (by rw [e, eb]; exact Int32.not_lt.mp hc) (nm_r (nI_1 (l + 1)) IH)
theorem zx_guard {post : Int32 → St2 → Prop} {a b : Nat} (ha : a < N) (hb : b < N) (hN : N ≤ 8) (hU : U ≤ 96) (hcl : ∀ n, cl n = 0 ∨ cl n = 1) (hA : ∀ c, c < U → K c = 11 → ∃ m, m < N ∧ A c = nI m) (hO : ∀ c, c < U → ∃ n, n < N ∧ Ow c = nI n)
    (hp : ∀ ww' lw', post (zg_g K A O Ow cl U a b N) ((nI N), (nI C), (nI U), op, (nI S), pl, lv, fn, fi, K, A, Ow, O, P, L, cl, rt, en, ss, so, sp, ww', lw', vi, vv, ps, pv, pt)) : wpX_guard post ((nI N), (nI C), (nI U), op, (nI S), pl, lv, fn, fi, K, A, Ow, O, P, L, cl, rt, en, ss, so, sp, ww, lw, vi, vv, ps, pv, pt) (nI a) (nI b) := by
  unfold wpX_guard
  refine zx_nm1 ha hN (br_f zn_10 (zx_nm1 hb hN (br_f zn_10 ⟨_, zx_st hN ha (fun ww1 h1 => ⟨_, zx_g30 hb hN hU hcl hA hO hp N 0 ww1 _ (by omega) h1⟩) N 0 _ (by omega) (fun t ht => absurd ht (Nat.not_lt_zero t))⟩)))
theorem zx_guard0 {post : Int32 → St2 → Prop} {x y : Int32} (hN : N ≤ 8) (h : (x < 0 ∨ nI N ≤ x) ∨ (y < 0 ∨ nI N ≤ y)) (hp : post (-1000000) ((nI N), (nI C), (nI U), op, (nI S), pl, lv, fn, fi, K, A, Ow, O, P, L, cl, rt, en, ss, so, sp, ww, lw, vi, vv, ps, pv, pt)) : wpX_guard post ((nI N), (nI C), (nI U), op, (nI S), pl, lv, fn, fi, K, A, Ow, O, P, L, cl, rt, en, ss, so, sp, ww, lw, vi, vv, ps, pv, pt) x y := by
  unfold wpX_guard
  by_cases hx : x < 0 ∨ nI N ≤ x
  · exact zx_nm0 hx (br_t rfl hp)
  · obtain ⟨j, hj, rfl⟩ : ∃ j : Nat, j < N ∧ x = nI j := by
      rcases pk_ix x (n := N) (by omega) with h | h | h
      · exact absurd (Or.inl h) hx
      · exact absurd (Or.inr h) hx
      · exact h
    exact zx_nm1 hj hN (br_f zn_10 (zx_nm0 (h.resolve_left hx) (br_t rfl hp)))
end Z10

/-! guard, the reference's side: the rounds; guard and verdict -/
section Z12
variable {N C U S : Nat} {op lv fn fi pl yne ysp yvsp ypn : Int32}
variable {K A Ow O P L cl rt en ss so sp ds ww lw vi vv ps pv pt yef yet yew yb ynb yv yx ysv ysi yvs ymo ymv yip ypN ypI : Nat → Int32}
variable {R E : Nat → Nat}
theorem zi_ref (h : zi_inv N C U S op K A P O L Ow cl so sp R E) : ∀ c, c < U → K c = 11 → cl (Ow c).toNatClampNeg = 1 → ∃ n, n < N ∧ Ow c = nI n ∧ cl n = 1 ∧ R n ≤ c ∧ c < E n ∧ zg_bd 96 (O c) := by
  obtain ⟨⟨a1, a2, a3, a4, a5⟩, hcl, hcd, _, hA, hOw, ho⟩ := h
  intro c hc hk hcc
  obtain ⟨n, hn, en, hz⟩ := hOw c hc
  rw [en, nI_clamp (by omega)] at hcc
  have H := hcd n hn hcc
  obtain ⟨r1, r2, r3, r4, r5, r6, r7⟩ := H
  have hz' : R n ≤ c + 1 ∧ c < E n := by
    rcases hz with hz | hz
    · exact hz.2
    · rcases ho with ho | ⟨o, ho1, ho2, ho3, _⟩
      · have := hz.1.symm.trans ho.1
        exact absurd this (zn_ne1 (by omega))
      · have e := zn_im (hz.1.symm.trans ho2) (by omega) (by omega)
        rw [e, ho3] at hcc
        exact absurd hcc (by decide)
  have hne : c ≠ R n - 1 := fun z => by rw [z, r6] at hk; exact absurd hk (by decide)
  obtain ⟨i, hi⟩ : ∃ i, c = R n + i := ⟨c - R n, by omega⟩
  have hb := zs_off r1 (by omega) r4 (i + 1) i (by omega) (by omega)
  rw [← hi] at hb
  exact ⟨n, hn, en, hcc, by omega, hz'.2, by unfold zg_bd; omega⟩
theorem zg_g_ge {a b : Nat} : ∀ l, (-1000000 : Int32) ≤ zg_g K A O Ow cl U a b l := by
  intro l
  induction l with
  | zero => exact Int32.le_refl _
  | succ l ih =>
    show _ ≤ (if zg_g K A O Ow cl U a b l < zg_seq K A O Ow cl U a (l + 1) b then zg_seq K A O Ow cl U a (l + 1) b else zg_g K A O Ow cl U a b l)
    split
    · rename_i h; exact Int32.le_trans ih (Int32.le_of_lt h)
    · exact ih
def zv_r (K A O Ow cl : Nat → Int32) (U N : Nat) : Nat → Int32
  | 0 => 0
  | d + 1 => if cl (N - (d + 1)) = 0 then zv_r K A O Ow cl U N d else if zg_g K A O Ow cl U (N - (d + 1)) (N - (d + 1)) N < 0 then zv_r K A O Ow cl U N d else 4
theorem zv_x {post : Int32 → St2 → Prop} (hN : N ≤ 8) (hU : U ≤ 96) (hcl : ∀ n, cl n = 0 ∨ cl n = 1) (hA : ∀ c, c < U → K c = 11 → ∃ m, m < N ∧ A c = nI m) (hO : ∀ c, c < U → ∃ n, n < N ∧ Ow c = nI n) :
    ∀ d i ww lw, i + d = N → (∀ ww' lw', post (zv_r K A O Ow cl U N d) ((nI N), (nI C), (nI U), op, (nI S), pl, lv, fn, fi, K, A, Ow, O, P, L, cl, rt, en, ss, so, sp, ww', lw', vi, vv, ps, pv, pt)) → wX_verdict_13 post (d + 1) (nI i) (nI N) (nI C) (nI U) op (nI S) pl lv fn fi K A Ow O P L cl rt en ss so sp ww lw vi vv ps pv pt := by
  intro d
  induction d with
  | zero => intro i ww lw hi hp; exact br_t (nI_le (by omega) (by omega)) (hp ww lw)
  | succ d ih =>
    intro i ww lw hi hp
    have e : (nI i).toNatClampNeg = i := nI_clamp (by omega)
    have hi' : N - (d + 1) = i := by omega
    have hr : zv_r K A O Ow cl U N (d + 1) = if cl i = 0 then zv_r K A O Ow cl U N d else if zg_g K A O Ow cl U i i N < 0 then zv_r K A O Ow cl U N d else 4 := by
      show (if cl (N - (d + 1)) = 0 then _ else _) = _
      rw [hi']
    rw [hr] at hp
    refine br_f (nI_ge (by omega) (by omega)) ⟨vp_in_nI (by omega) (by omega), ?_⟩
    by_cases hc : cl (nI i).toNatClampNeg = 0
    · rw [e] at hc
      rw [if_pos hc] at hp
      exact br_t (by rw [e]; exact hc) (nm_r (nI_1 i) (ih (i + 1) ww lw (by omega) hp))
    · refine br_f hc (zx_guard (by omega) (by omega) hN hU hcl hA hO (fun ww' lw' => ?_))
      rw [e] at hc
      rw [if_neg hc] at hp
      by_cases hg : zg_g K A O Ow cl U i i N < 0
      · rw [if_pos hg] at hp
        exact br_t hg (nm_r (nI_1 i) (ih (i + 1) ww' lw' (by omega) hp))
      · rw [if_neg hg] at hp
        exact br_f hg (hp ww' lw')
end Z12
end
section
/-! eval, the component's side -/
def zf_D (K A V PS : Nat → Int32) (c : Nat) : Prop := K c = 11 ∧ V c ≠ -1 ∧ ¬ (V c < 32 ∧ PS (A c * 32 + V c).toNatClampNeg = 2)
theorem zf_n {D : Nat → Prop} {lo hi : Nat} {x : Int32} (h : zs_first D lo hi x) (hd : ¬ D hi) : zs_first D lo (hi + 1) x := by
  rcases h with ⟨h1, h2⟩ | ⟨c, h1, h2, h3⟩
  · refine Or.inl ⟨h1, fun c a b => ?_⟩
    by_cases e : c = hi
    · rw [e]; exact hd
    · exact h2 c a (by omega)
  · exact Or.inr ⟨c, h1, by omega, h3⟩
theorem zf_f {D : Nat → Prop} {lo hi : Nat} {x : Int32} (h : zs_first D lo hi x) (hx : x ≠ -1) : zs_first D lo (hi + 1) x := by
  rcases h with ⟨h1, _⟩ | ⟨c, h1, h2, h3⟩
  · exact absurd h1 hx
  · exact Or.inr ⟨c, h1, by omega, h3⟩
theorem zf_no {D : Nat → Prop} {lo hi : Nat} (hh : hi < 2 ^ 31) (h : zs_first D lo hi (-1)) : ∀ c, lo ≤ c → c < hi → ¬ D c := by
  rcases h with ⟨_, h2⟩ | ⟨c, h1, h2, h3, h4, h5⟩
  · exact h2
  · exact absurd h5.symm (zn_ne1 (by omega))
theorem zf_t {D : Nat → Prop} {lo hi : Nat} (hh : hi < 2 ^ 31) (hl : lo ≤ hi) (h : zs_first D lo hi (-1)) (hd : D hi) : zs_first D lo (hi + 1) (nI hi) :=
  Or.inr ⟨hi, hl, by omega, hd, zf_no hh h, rfl⟩
theorem zf_un {D : Nat → Prop} {lo hi : Nat} {x y : Int32} (h : zs_first D lo hi x) (h' : zs_first D lo hi y) : x = y := by
  rcases h with ⟨h1, h2⟩ | ⟨c, h1, h2, h3, h4, h5⟩
  · rcases h' with ⟨g1, g2⟩ | ⟨c', g1, g2, g3, g4, g5⟩
    · rw [h1, g1]
    · exact absurd g3 (h2 c' g1 g2)
  · rcases h' with ⟨g1, g2⟩ | ⟨c', g1, g2, g3, g4, g5⟩
    · exact absurd h3 (g2 c h1 h2)
    · have : c = c' := by
        by_cases a : c < c'
        · exact absurd h3 (g4 c h1 a)
        · by_cases b : c' < c
          · exact absurd g3 (h4 c' g1 b)
          · omega
      rw [h5, g5, this]
section Z13
variable {N C U S : Nat} {op lv fn fi pl yne ysp yvsp ypn : Int32}
variable {K A Ow O P L cl rt en ss so sp ds ww lw vi vv ps pv pt yef yet yew yb ynb yv yx ysv ysi yvs ymo ymv yip ypN ypI : Nat → Int32}
variable {R E : Nat → Nat}
theorem zx_vb {post : Int32 → Prop} {r i : Nat} {j : Int32} {s : Nat × Bool} {t : List (Nat × Bool)} (hr : 1 ≤ r) (hi : 1 ≤ i) (h96 : r + i < 96) (es : zs_stk K r i = s :: t) (hP : P (r + i) = nI s.1) (hp : post (zs_sv K vi r j s)) : wpX_visitIndexBelowParent post ((nI N), (nI C), (nI U), op, (nI S), pl, lv, fn, fi, K, A, Ow, O, P, L, cl, rt, en, ss, so, sp, ww, lw, vi, vv, ps, pv, pt) (nI (r + i)) := by
  have hh := zs_hd hr es
  have e : (nI (r + i)).toNatClampNeg = r + i := nI_clamp (by omega)
  have e1 : (nI s.1).toNatClampNeg = s.1 := nI_clamp (by omega)
  have hin : vp_in (nI (r + i)) 96 := vp_in_nI h96 (by omega)
  have hin1 : vp_in (nI s.1) 96 := vp_in_nI (by omega) (by omega)
  unfold zs_sv at hp
  rw [if_neg (by omega)] at hp
  refine ⟨hin, nm_r (e' := nI s.1) (by rw [e, hP]) ⟨hin1, nm_r (e' := vi s.1) (by rw [e1]) ?_⟩⟩
  by_cases h1 : vi s.1 = -1
  · rw [if_pos h1] at hp; exact br_t h1 hp
  · rw [if_neg h1] at hp
    refine br_f h1 ⟨hin1, nm_r (e' := K s.1) (by rw [e1]) ?_⟩
    by_cases h2 : K s.1 = 2
    · rw [if_pos h2] at hp; exact br_t h2 hp
    · rw [if_neg h2] at hp
      refine br_f h2 ?_
      by_cases h6 : K s.1 = 6
      · rw [if_neg (by rw [h6]; decide), if_pos h6] at hp
        refine br_t h6 ?_
        rcases hh with ⟨hb, hh⟩ | ⟨hb, hh⟩
        · rw [if_pos hb] at hp
          refine br_t (by rw [nI_1, hh]) ?_
          by_cases h0 : vi s.1 = 0
          · rw [if_pos h0] at hp; exact br_t h0 hp
          · rw [if_neg h0] at hp; exact br_f h0 hp
        · rw [if_neg (by rw [hb]; decide)] at hp
          refine br_f (fun z => ?_) ?_
          · rw [nI_1] at z
            have := zn_im z (by omega) (by omega)
            omega
          · by_cases h0 : vi s.1 = 0
            · rw [if_pos h0] at hp; exact br_t h0 hp
            · rw [if_neg h0] at hp; exact br_f h0 hp
      · refine br_f h6 ?_
        by_cases h7 : K s.1 = 7
        · rw [if_pos h7] at hp; exact br_t h7 hp
        · rw [if_neg h7, if_neg h6] at hp; exact br_f h7 hp
theorem zx_m19 {post : St2 → Prop} {x r n : Nat} {j : Int32} (hx : x < 8) (hr : 1 ≤ r) (h96 : r + n ≤ 96) (hen : en x = nI (r + n)) (hd : zs_def K P O L r n) (hp : ∀ vi', zs_vis K vi' r j n → post ((nI N), (nI C), (nI U), op, (nI S), pl, lv, fn, fi, K, A, Ow, O, P, L, cl, rt, en, ss, so, sp, ww, lw, vi', vv, ps, pv, pt)) :
    ∀ d i vi, i + d = n → 1 ≤ i → zs_vis K vi r j i → wX_markVisits_19 post (nI x) (nI N) (nI C) (nI U) op (nI S) pl lv fn fi (d + 1) (nI (r + i)) K A Ow O P L cl rt en ss so sp ww lw vi vv ps pv pt := by
  have ex : (nI x).toNatClampNeg = x := nI_clamp (by omega)
  have hin8 : vp_in (nI x) 8 := vp_in_nI hx (by omega)
  intro d
  induction d with
  | zero =>
    intro i vi hi h1 hv
    obtain rfl : i = n := by omega
    exact ⟨hin8, br_t (by rw [ex, hen]; exact nI_le (Nat.le_refl _) (by omega)) (hp vi hv)⟩
  | succ d ih =>
    intro i vi hi h1 hv
    have e : (nI (r + i)).toNatClampNeg = r + i := nI_clamp (by omega)
    obtain ⟨s, t, es, hP, _⟩ := hd i (by omega)
    refine ⟨hin8, br_f (by rw [ex, hen]; exact nI_ge (by omega) (by omega)) (zx_vb (j := j) hr h1 (by omega) es hP ⟨vp_in_nI (by omega) (by omega), nm_r (e' := upd vi (r + i) (zs_sv K vi r j s)) (by rw [e]) (nm_r (nI_1 (r + i)) (ih (i + 1) _ (by omega) (by omega) (zs_vis_step hr es hv)))⟩)⟩
theorem zx_mark {post : St2 → Prop} {x r n : Nat} {j : Int32} (hx : x < 8) (hr : 1 ≤ r) (hn : 1 ≤ n) (h96 : r + n ≤ 96) (hrt : rt x = nI r) (hen : en x = nI (r + n)) (hd : zs_def K P O L r n) (hp : ∀ vi', zs_vis K vi' r j n → post ((nI N), (nI C), (nI U), op, (nI S), pl, lv, fn, fi, K, A, Ow, O, P, L, cl, rt, en, ss, so, sp, ww, lw, vi', vv, ps, pv, pt)) :
    wpX_markVisits post ((nI N), (nI C), (nI U), op, (nI S), pl, lv, fn, fi, K, A, Ow, O, P, L, cl, rt, en, ss, so, sp, ww, lw, vi, vv, ps, pv, pt) (nI x) j := by
  have ex : (nI x).toNatClampNeg = x := nI_clamp (by omega)
  have er : (nI r).toNatClampNeg = r := nI_clamp (by omega)
  refine ⟨vp_in_nI hx (by omega), nm_r (e' := nI r) (by rw [ex, hrt]) ⟨vp_in_nI (by omega) (by omega), nm_r (e' := upd vi r j) (by rw [er]) (nm_r (nI_1 r) ⟨_, zx_m19 hx hr h96 hen hd hp (n - 1) 1 _ (by omega) (Nat.le_refl _) ?_⟩)⟩⟩
  intro i hi s t es
  obtain rfl : i = 0 := by omega
  have : s = (r - 1, true) := by
    have e0 : zs_stk K r 0 = [(r - 1, true)] := rfl
    rw [e0] at es
    exact (List.cons.inj es).1.symm
  subst this
  show upd vi r j (r + 0) = _
  rw [Nat.add_zero, pk_us]
  unfold zs_sv
  rw [if_pos (by show r - 1 < r; omega)]
theorem zx_met {post : Int32 → Prop} {c z m : Nat} (hc : c < 96) (hz : z < 8) (hA : A c = nI z) (hV : vi c = nI m) (hm : m < 2 ^ 30) (h1 : (vi c < 32 ∧ ps (A c * 32 + vi c).toNatClampNeg = 2) → post 1) (h0 : ¬ (vi c < 32 ∧ ps (A c * 32 + vi c).toNatClampNeg = 2) → post 0) : wpX_isMet post ((nI N), (nI C), (nI U), op, (nI S), pl, lv, fn, fi, K, A, Ow, O, P, L, cl, rt, en, ss, so, sp, ww, lw, vi, vv, ps, pv, pt) (nI c) := by
  have e : (nI c).toNatClampNeg = c := nI_clamp (by omega)
  have hin : vp_in (nI c) 96 := vp_in_nI hc (by omega)
  refine ⟨hin, nm_r (e' := vi c) (by rw [e]) ?_⟩
  by_cases h32 : (32 : Int32) ≤ vi c
  · exact br_t h32 (h0 (fun z => absurd z.1 (Int32.not_lt.mpr h32)))
  · have hlt : vi c < 32 := Int32.not_le.mp h32
    have hm32 : m < 32 := by rw [hV] at hlt; exact (nI_ltI (b := 32) (by omega) (by omega)).mp hlt
    have eq : A c * 32 + vi c = nI (z * 32 + m) := by rw [hA, hV, show (32 : Int32) = nI 32 from rfl, pk_mul, nI_add]
    refine br_f h32 ⟨hin, by rw [e, eq]; exact vp_in_nI (by omega) (by omega), ?_⟩
    rw [e]
    exact br_c (fun h => h1 ⟨hlt, h⟩) (fun h => h0 (fun z => h z.2))
theorem zx_first {post : Int32 → Prop} {x r n j : Nat} (hx : x < 8) (hr : 1 ≤ r) (h96 : r + n ≤ 96) (hj : j < 32) (hN : N ≤ 8) (hU : r + n ≤ U) (hrt : rt x = nI r) (hen : en x = nI (r + n)) (hd : zs_def K P O L r n) (hA : ∀ c, c < U → K c = 11 → ∃ m, m < N ∧ A c = nI m)
    (hv : zs_vis K vi r (nI j) n) (hp : ∀ y, zs_first (zf_D K A vi ps) r (r + n) y → post y) : wpX_firstUnmetDemand post ((nI N), (nI C), (nI U), op, (nI S), pl, lv, fn, fi, K, A, Ow, O, P, L, cl, rt, en, ss, so, sp, ww, lw, vi, vv, ps, pv, pt) (nI x) := by
  have ex : (nI x).toNatClampNeg = x := nI_clamp (by omega)
  have hin8 : vp_in (nI x) 8 := vp_in_nI hx (by omega)
  have hne : ∀ i, i < n → ∃ s t, zs_stk K r i = s :: t := fun i hi => by
    obtain ⟨s, t, e, _⟩ := hd i hi
    exact ⟨s, t, e⟩
  have loop : ∀ d i, i + d = n → zs_first (zf_D K A vi ps) r (r + i) (-1) → wX_firstUnmetDemand_7 post (nI x) (nI N) (nI C) (nI U) op (nI S) pl lv fn fi K A Ow O P L cl rt en ss so sp ww lw vi vv ps pv pt (d + 1) (nI (r + i)) := by
    intro d
    induction d with
    | zero =>
      intro i hi hf
      obtain rfl : i = n := by omega
      exact ⟨hin8, br_t (by rw [ex, hen]; exact nI_le (Nat.le_refl _) (by omega)) (hp _ hf)⟩
    | succ d ih =>
      intro i hi hf
      have e : (nI (r + i)).toNatClampNeg = r + i := nI_clamp (by omega)
      have hin : vp_in (nI (r + i)) 96 := vp_in_nI (by omega) (by omega)
      refine ⟨hin8, br_f (by rw [ex, hen]; exact nI_ge (by omega) (by omega)) ⟨hin, ?_⟩⟩
      have next : ¬ zf_D K A vi ps (r + i) → ∀ y, y = nI (r + i) + 1 → wX_firstUnmetDemand_7 post (nI x) (nI N) (nI C) (nI U) op (nI S) pl lv fn fi K A Ow O P L cl rt en ss so sp ww lw vi vv ps pv pt (d + 1) y := fun hD => nm_r (nI_1 (r + i)) (ih (i + 1) (by omega) (zf_n hf hD))
      by_cases hk : K (r + i) = 11
      · refine br_t (by rw [e]; exact hk) ⟨hin, ?_⟩
        by_cases h1 : vi (r + i) = -1
        · exact br_t (by rw [e]; exact h1) (next (fun z => z.2.1 h1))
        · obtain ⟨m, hm, em⟩ := (zs_vis_rg hr (by omega) hj hne hv (i + 1) i (by omega) (by omega)).resolve_left h1
          obtain ⟨z, hz, ez⟩ := hA (r + i) (by omega) hk
          refine br_f (by rw [e]; exact h1) (zx_met (by omega) (by omega) ez em (by omega) (fun h => br_f zn_10 (next (fun z => z.2.2 h))) (fun h => br_t rfl (hp _ ?_)))
          rcases zf_t (by omega) (by omega) hf ⟨hk, h1, h⟩ with ⟨g1, _⟩ | ⟨c, g1, g2, g3, g4, g5⟩
          · exact absurd g1 (zn_ne1 (by omega))
          · exact Or.inr ⟨c, g1, by omega, g3, g4, g5⟩
      · exact br_f (by rw [e]; exact hk) (next (fun z => hk z.1))
  refine ⟨hin8, nm_r (e' := nI (r + 0)) (by rw [ex, hrt]; rfl) ⟨_, loop n 0 (by omega) (Or.inl ⟨rfl, fun c a b => by omega⟩)⟩⟩
theorem zx_startp {post : St2 → Prop} {q l : Nat} (hq : q < 256) (hl : l < 256) (hp : post ((nI N), (nI C), (nI U), op, (nI S), (nI (l + 1)), lv, fn, fi, K, A, Ow, O, P, L, cl, rt, en, ss, so, sp, ww, lw, vi, vv, (upd ps q 1), pv, (upd pt l (nI q)))) : wpX_startPair post ((nI N), (nI C), (nI U), op, (nI S), (nI l), lv, fn, fi, K, A, Ow, O, P, L, cl, rt, en, ss, so, sp, ww, lw, vi, vv, ps, pv, pt) (nI q) := by
  have e : (nI q).toNatClampNeg = q := nI_clamp (by omega)
  have el : (nI l).toNatClampNeg = l := nI_clamp (by omega)
  exact ⟨vp_in_nI hq (by omega), nm_r (by rw [e]) ⟨vp_in_nI hl (by omega), nm_r (by rw [el]) (nm_r (nI_1 l) hp)⟩⟩
theorem zx_take {post : Int32 → St2 → Prop} {c z m l : Nat} (hc : c < 96) (hz : z < 8) (hA : A c = nI z) (hV : vi c = nI m) (hm : m < 2 ^ 30) (hl : m < 32 → ¬ ps (z * 32 + m) = 1 → l < 256)
    (h2 : 32 ≤ m → post 2 ((nI N), (nI C), (nI U), op, (nI S), (nI l), 0, (nI z), (nI m), K, A, Ow, O, P, L, cl, rt, en, ss, so, sp, ww, lw, vi, vv, ps, pv, pt)) (h1 : m < 32 → ps (z * 32 + m) = 1 → post 1 ((nI N), (nI C), (nI U), op, (nI S), (nI l), 0, (nI z), (nI m), K, A, Ow, O, P, L, cl, rt, en, ss, so, sp, ww, lw, vi, vv, ps, pv, pt))
    (h0 : m < 32 → ¬ ps (z * 32 + m) = 1 → post 0 ((nI N), (nI C), (nI U), op, (nI S), (nI (l + 1)), lv, fn, fi, K, A, Ow, O, P, L, cl, rt, en, ss, so, sp, ww, lw, vi, vv, (upd ps (z * 32 + m) 1), pv, (upd pt l (nI (z * 32 + m))))) : wpX_takeDemand post ((nI N), (nI C), (nI U), op, (nI S), (nI l), lv, fn, fi, K, A, Ow, O, P, L, cl, rt, en, ss, so, sp, ww, lw, vi, vv, ps, pv, pt) (nI c) := by
  have e : (nI c).toNatClampNeg = c := nI_clamp (by omega)
  have hin : vp_in (nI c) 96 := vp_in_nI hc (by omega)
  refine ⟨hin, nm_r (e' := nI z) (by rw [e, hA]) ⟨hin, nm_r (e' := nI m) (by rw [e, hV]) ?_⟩⟩
  by_cases hm32 : m < 32
  · have eq : nI z * 32 + nI m = nI (z * 32 + m) := by rw [show (32 : Int32) = nI 32 from rfl, pk_mul, nI_add]
    have e2 : (nI (z * 32 + m)).toNatClampNeg = z * 32 + m := nI_clamp (by omega)
    refine br_t (nI_lt (b := 32) hm32 (by decide)) (nm_r eq ⟨vp_in_nI (by omega) (by omega), ?_⟩)
    by_cases hp1 : ps (z * 32 + m) = 1
    · exact br_t (by rw [e2]; exact hp1) (h1 hm32 hp1)
    · exact br_f (by rw [e2]; exact hp1) (zx_startp (by omega) (hl hm32 hp1) (h0 hm32 hp1))
  · exact br_f (nI_nlt (b := 32) (by omega) (by omega)) (h2 (by omega))
theorem zx_val {post : Int32 → Prop} {c k : Nat} (hc : c < 96) (hk1 : 1 ≤ k) (hk11 : k ≤ 11) (hk : K c = nI k) (hr : k = 11 → ∃ z m, z < 8 ∧ m < 32 ∧ A c = nI z ∧ vi c = nI m) (hc1 : ¬ (K c = 1 ∨ K c = 11) → c + 1 < 96)
    (hc2 : ¬ (K c = 1 ∨ K c = 11) → ¬ (K c = 2 ∨ K c = 7) → ∃ q, q < 96 ∧ L c = nI q) (hp : post (zs_val K A vi L pv vv c)) : wpX_valueOfVisit post ((nI N), (nI C), (nI U), op, (nI S), pl, lv, fn, fi, K, A, Ow, O, P, L, cl, rt, en, ss, so, sp, ww, lw, vi, vv, ps, pv, pt) (nI c) := by
  have e : (nI c).toNatClampNeg = c := nI_clamp (by omega)
  have hin : vp_in (nI c) 96 := vp_in_nI hc (by omega)
  refine ⟨hin, nm_r (e' := nI k) (by rw [e, hk]) ?_⟩
  unfold zs_val at hp
  have one : ¬ (K c = 1 ∨ K c = 11) → vp_in (nI c + 1) 96 ∧ (nI c + 1).toNatClampNeg = c + 1 := fun h => by
    have := hc1 h
    rw [nI_1]; exact ⟨vp_in_nI this (by omega), nI_clamp (by omega)⟩
  have two : ¬ (K c = 1 ∨ K c = 11) → ¬ (K c = 2 ∨ K c = 7) → vp_in (L (nI c).toNatClampNeg) 96 := fun h h' => by
    obtain ⟨q, hq, eq⟩ := hc2 h h'
    rw [e, eq]; exact vp_in_nI hq (by omega)
  rcases zk_c hk1 hk11 with rfl | rfl | rfl | rfl | rfl | rfl | rfl | rfl | rfl | rfl | rfl
  · rw [if_pos (by rw [hk]; rfl)] at hp
    exact br_f (by decide) (br_f (by decide) (br_t (by decide) (⟨hin, by rw [e]; exact hp⟩)))
  · have o1 := one (by rw [hk]; decide)
    rw [if_neg (by rw [hk]; decide), if_neg (by rw [hk]; decide), if_pos (by rw [hk]; decide)] at hp
    exact br_f (by decide) (br_f (by decide) (br_f (by decide) (br_t (by decide) (⟨o1.1, by rw [o1.2]; exact hp⟩))))
  · have o1 := one (by rw [hk]; decide)
    have o2 := two (by rw [hk]; decide) (by rw [hk]; decide)
    rw [if_neg (by rw [hk]; decide), if_neg (by rw [hk]; decide), if_neg (by rw [hk]; decide), if_neg (by rw [hk]; decide), if_pos (by rw [hk]; decide)] at hp
    exact br_f (by decide) (br_f (by decide) (br_f (by decide) (br_f (by decide) (br_t (by decide) (⟨o1.1, hin, o2, by rw [o1.2, e]; exact hp⟩)))))
  · have o1 := one (by rw [hk]; decide)
    have o2 := two (by rw [hk]; decide) (by rw [hk]; decide)
    rw [if_neg (by rw [hk]; decide), if_neg (by rw [hk]; decide), if_neg (by rw [hk]; decide), if_neg (by rw [hk]; decide), if_neg (by rw [hk]; decide), if_pos (by rw [hk]; decide)] at hp
    exact br_f (by decide) (br_f (by decide) (br_f (by decide) (br_f (by decide) (br_f (by decide) (br_t (by decide) (⟨o1.1, hin, o2, by rw [o1.2, e]; exact hp⟩))))))
  · have o1 := one (by rw [hk]; decide)
    have o2 := two (by rw [hk]; decide) (by rw [hk]; decide)
    rw [if_neg (by rw [hk]; decide), if_neg (by rw [hk]; decide), if_neg (by rw [hk]; decide), if_neg (by rw [hk]; decide), if_neg (by rw [hk]; decide), if_neg (by rw [hk]; decide)] at hp
    exact br_f (by decide) (br_f (by decide) (br_f (by decide) (br_f (by decide) (br_f (by decide) (br_f (by decide) (br_t (by decide) (⟨o1.1, hin, o2, by rw [o1.2, e]; exact hp⟩)))))))
  · have o1 := one (by rw [hk]; decide)
    have o2 := two (by rw [hk]; decide) (by rw [hk]; decide)
    rw [if_neg (by rw [hk]; decide), if_neg (by rw [hk]; decide), if_neg (by rw [hk]; decide), if_pos (by rw [hk]; rfl)] at hp
    refine br_f (by decide) (br_f (by decide) (br_f (by decide) (br_f (by decide) (br_f (by decide) (br_f (by decide) (br_f (by decide) (br_t (by decide) (⟨hin, ?_⟩))))))))
    by_cases h0 : vi c = 0
    · rw [if_pos h0] at hp
      exact br_t (by rw [e]; exact h0) ⟨o1.1, by rw [o1.2]; exact hp⟩
    · rw [if_neg h0] at hp
      exact br_f (by rw [e]; exact h0) ⟨hin, o2, by rw [e]; exact hp⟩
  · have o1 := one (by rw [hk]; decide)
    rw [if_neg (by rw [hk]; decide), if_neg (by rw [hk]; decide), if_pos (by rw [hk]; decide)] at hp
    exact br_f (by decide) (br_f (by decide) (br_f (by decide) (br_f (by decide) (br_f (by decide) (br_f (by decide) (br_f (by decide) (br_f (by decide) (br_t (by decide) (⟨o1.1, by rw [o1.2]; exact hp⟩)))))))))
  · have o1 := one (by rw [hk]; decide)
    have o2 := two (by rw [hk]; decide) (by rw [hk]; decide)
    rw [if_neg (by rw [hk]; decide), if_neg (by rw [hk]; decide), if_neg (by rw [hk]; decide), if_neg (by rw [hk]; decide), if_pos (by rw [hk]; decide)] at hp
    exact br_f (by decide) (br_f (by decide) (br_f (by decide) (br_f (by decide) (br_f (by decide) (br_f (by decide) (br_f (by decide) (br_f (by decide) (br_f (by decide) (br_t (by decide) (⟨o1.1, hin, o2, by rw [o1.2, e]; exact hp⟩))))))))))
  · have o1 := one (by rw [hk]; decide)
    have o2 := two (by rw [hk]; decide) (by rw [hk]; decide)
    rw [if_neg (by rw [hk]; decide), if_neg (by rw [hk]; decide), if_neg (by rw [hk]; decide), if_neg (by rw [hk]; decide), if_neg (by rw [hk]; decide), if_pos (by rw [hk]; decide)] at hp
    exact br_f (by decide) (br_f (by decide) (br_f (by decide) (br_f (by decide) (br_f (by decide) (br_f (by decide) (br_f (by decide) (br_f (by decide) (br_f (by decide) (br_f (by decide) (br_t (by decide) (⟨o1.1, hin, o2, by rw [o1.2, e]; exact hp⟩)))))))))))
  · have o1 := one (by rw [hk]; decide)
    have o2 := two (by rw [hk]; decide) (by rw [hk]; decide)
    rw [if_neg (by rw [hk]; decide), if_neg (by rw [hk]; decide), if_neg (by rw [hk]; decide), if_neg (by rw [hk]; decide), if_neg (by rw [hk]; decide), if_neg (by rw [hk]; decide)] at hp
    exact br_f (by decide) (br_f (by decide) (br_f (by decide) (br_f (by decide) (br_f (by decide) (br_f (by decide) (br_f (by decide) (br_f (by decide) (br_f (by decide) (br_f (by decide) (br_f (by decide) (br_t (by decide) (⟨o1.1, hin, o2, by rw [o1.2, e]; exact hp⟩))))))))))))
  · obtain ⟨z, m, hz, hm, ez, em⟩ := hr rfl
    rw [if_neg (by rw [hk]; decide), if_pos (by rw [hk]; rfl)] at hp
    have eq : A c * 32 + vi c = nI (z * 32 + m) := by rw [ez, em, show (32 : Int32) = nI 32 from rfl, pk_mul, nI_add]
    exact br_f (by decide) (br_f (by decide) (br_f (by decide) (br_f (by decide) (br_f (by decide) (br_f (by decide) (br_f (by decide) (br_f (by decide) (br_f (by decide) (br_f (by decide) (br_f (by decide) (br_f (by decide) (br_t (by decide) (⟨hin, hin, by rw [e, eq]; exact vp_in_nI (by omega) (by omega), by rw [e]; exact hp⟩)))))))))))))
theorem zx_vals {post : Int32 → St2 → Prop} {x r n j : Nat} (hx : x < 8) (hr : 1 ≤ r) (hn : 1 ≤ n) (h96 : r + n ≤ 96) (hj : j < 32) (hrt : rt x = nI r) (hen : en x = nI (r + n)) (hd : zs_def K P O L r n) (he : zs_stk K r n = [])
    (hv : zs_vis K vi r (nI j) n) (hr11 : ∀ c, r ≤ c → c < r + n → K c = 11 → vi c ≠ -1 → ∃ z m, z < 8 ∧ m < 32 ∧ A c = nI z ∧ vi c = nI m)
    (hp : ∀ vv', zs_vals K A vi L pv vv' r (r + n) → post (vv' r) ((nI N), (nI C), (nI U), op, (nI S), pl, lv, fn, fi, K, A, Ow, O, P, L, cl, rt, en, ss, so, sp, ww, lw, vi, vv', ps, pv, pt)) : wpX_valueOfVisits post ((nI N), (nI C), (nI U), op, (nI S), pl, lv, fn, fi, K, A, Ow, O, P, L, cl, rt, en, ss, so, sp, ww, lw, vi, vv, ps, pv, pt) (nI x) := by
  have ex : (nI x).toNatClampNeg = x := nI_clamp (by omega)
  have er : (nI r).toNatClampNeg = r := nI_clamp (by omega)
  have hin8 : vp_in (nI x) 8 := vp_in_nI hx (by omega)
  have kid1 : ∀ c, r ≤ c → c < r + n → ¬ (K c = 1 ∨ K c = 11) → c + 1 < r + n := by
    intro c a b h
    obtain ⟨i, rfl⟩ : ∃ i, c = r + i := ⟨c - r, by omega⟩
    have := zs_kid1 hd (by omega) he h
    omega
  have kid2 : ∀ c, r ≤ c → c < r + n → ¬ (K c = 1 ∨ K c = 11) → ¬ (K c = 2 ∨ K c = 7) → ∃ q, c < q ∧ q < r + n ∧ L c = nI q := by
    intro c a b h h'
    obtain ⟨i, rfl⟩ : ∃ i, c = r + i := ⟨c - r, by omega⟩
    obtain ⟨q, h1, h2, h3⟩ := zs_kid2 hd (by omega) he h h'
    exact ⟨r + q, by omega, by omega, h3⟩
  have loop : ∀ i vv, i ≤ n → zs_vals K A vi L pv vv (r + i) (r + n) → wX_valueOfVisits_16 post (nI r) (nI N) (nI C) (nI U) op (nI S) pl lv fn fi (i + 1) (nI (r + i - 1)) K A Ow O P L cl rt en ss so sp ww lw vi vv ps pv pt := by
    intro i
    induction i with
    | zero =>
      intro vv _ hvv
      exact br_t (nI_lt (by omega) (by omega)) ⟨vp_in_nI (by omega) (by omega), by rw [er]; exact hp vv hvv⟩
    | succ i ih =>
      intro vv hi hvv
      have ei : r + (i + 1) - 1 = r + i := by omega
      rw [ei]
      have e : (nI (r + i)).toNatClampNeg = r + i := nI_clamp (by omega)
      have hin : vp_in (nI (r + i)) 96 := vp_in_nI (by omega) (by omega)
      refine br_f (nI_nlt (by omega) (by omega)) ⟨hin, ?_⟩
      by_cases h1 : vi (r + i) = -1
      · refine br_t (by rw [e]; exact h1) (nm_r (zn_m (by omega)) (ih vv (by omega) (fun c a b h => ?_)))
        by_cases ec : c = r + i
        · rw [ec] at h; exact absurd h1 h
        · exact hvv c (by omega) b h
      · obtain ⟨_, _, _, _, _, _, k, hk1, hk11, hk⟩ := hd i (by omega)
        refine br_f (by rw [e]; exact h1) (zx_val (by omega) hk1 hk11 hk (fun hk' => hr11 (r + i) (by omega) (by omega) (by rw [hk, hk']; rfl) h1) (fun h => ?_) (fun h h' => ?_) ⟨hin, nm_r (e' := upd vv (r + i) (zs_val K A vi L pv vv (r + i))) (by rw [e]) (nm_r (zn_m (by omega)) (ih _ (by omega) (fun c a b h => ?_)))⟩)
        · have := kid1 (r + i) (by omega) (by omega) h
          omega
        · obtain ⟨q, _, h2, h3⟩ := kid2 (r + i) (by omega) (by omega) h h'
          exact ⟨q, by omega, h3⟩
        · have hcong : zs_val K A vi L pv (upd vv (r + i) (zs_val K A vi L pv vv (r + i))) c = zs_val K A vi L pv vv c := by
            refine zs_val_congr (fun _ => pk_un (by omega)) (fun g g' => ?_)
            obtain ⟨q, g1, g2, g3⟩ := kid2 c (by omega) b g g'
            rw [g3, nI_clamp (by omega)]; exact pk_un (by omega)
          rw [hcong]
          by_cases ec : c = r + i
          · rw [ec, pk_us]
          · rw [pk_un ec]; exact hvv c (by omega) b h
  exact ⟨hin8, nm_r (e' := nI r) (by rw [ex, hrt]) ⟨hin8, nm_r (e' := nI (r + n - 1)) (by rw [ex, hen, zn_s (by omega)]) ⟨_, loop n vv (Nat.le_refl _) (fun c a b => by omega)⟩⟩⟩
theorem zx_fin {post : St2 → Prop} {l q : Nat} {y : Int32} (hl : l < 256) (hq : q < 256) (hpt : pt l = nI q) (hp : post ((nI N), (nI C), (nI U), op, (nI S), (nI l), lv, fn, fi, K, A, Ow, O, P, L, cl, rt, en, ss, so, sp, ww, lw, vi, vv, (upd ps q 2), (upd pv q y), pt)) : wpX_finishLastPair post ((nI N), (nI C), (nI U), op, (nI S), (nI (l + 1)), lv, fn, fi, K, A, Ow, O, P, L, cl, rt, en, ss, so, sp, ww, lw, vi, vv, ps, pv, pt) y := by
  have e : (nI q).toNatClampNeg = q := nI_clamp (by omega)
  have el : (nI l).toNatClampNeg = l := nI_clamp (by omega)
  have hin : vp_in (nI q) 256 := vp_in_nI hq (by omega)
  exact nm_r (nI_pred l) ⟨vp_in_nI hl (by omega), nm_r (e' := nI q) (by rw [el, hpt]) ⟨hin, nm_r (by rw [e]) ⟨hin, nm_r (by rw [e]) hp⟩⟩⟩
theorem zx_walk {post : Int32 → St2 → Prop} {x r n j l : Nat} (hx : x < 8) (hr : 1 ≤ r) (hn : 1 ≤ n) (h96 : r + n ≤ 96) (hj : j < 32) (hN : N ≤ 8) (hU : r + n ≤ U) (hl : l < 256) (hrt : rt x = nI r) (hen : en x = nI (r + n)) (hd : zs_def K P O L r n) (he : zs_stk K r n = [])
    (hA : ∀ c, c < U → K c = 11 → ∃ m, m < N ∧ A c = nI m) (hpt : pt l = nI (x * 32 + j)) (hroom : ∀ q, q < 256 → ps q = 0 → l + 1 < 256) (h012 : ∀ q, q < 256 → ps q = 0 ∨ ps q = 1 ∨ ps q = 2)
    (hfin : ∀ vi' vv', zs_vis K vi' r (nI j) n → zs_first (zf_D K A vi' ps) r (r + n) (-1) → zs_vals K A vi' L pv vv' r (r + n) → post 0 ((nI N), (nI C), (nI U), op, (nI S), (nI l), lv, fn, fi, K, A, Ow, O, P, L, cl, rt, en, ss, so, sp, ww, lw, vi', vv', (upd ps (x * 32 + j) 2), (upd pv (x * 32 + j) (vv' r)), pt))
    (hrange : ∀ vi' c z m, zs_vis K vi' r (nI j) n → zs_first (zf_D K A vi' ps) r (r + n) (nI c) → c < 96 → z < N → m < 2 ^ 30 → A c = nI z → vi' c = nI m → 32 ≤ m → post 2 ((nI N), (nI C), (nI U), op, (nI S), (nI (l + 1)), 0, (nI z), (nI m), K, A, Ow, O, P, L, cl, rt, en, ss, so, sp, ww, lw, vi', vv, ps, pv, pt))
    (hblack : ∀ vi' c z m, zs_vis K vi' r (nI j) n → zs_first (zf_D K A vi' ps) r (r + n) (nI c) → c < 96 → z < N → m < 32 → A c = nI z → vi' c = nI m → ps (z * 32 + m) = 1 → post 1 ((nI N), (nI C), (nI U), op, (nI S), (nI (l + 1)), 0, (nI z), (nI m), K, A, Ow, O, P, L, cl, rt, en, ss, so, sp, ww, lw, vi', vv, ps, pv, pt))
    (hstart : ∀ vi' c z m, zs_vis K vi' r (nI j) n → zs_first (zf_D K A vi' ps) r (r + n) (nI c) → r ≤ c → c < r + n → K c = 11 → z < N → m < 32 → A c = nI z → vi' c = nI m → ps (z * 32 + m) = 0 → post 0 ((nI N), (nI C), (nI U), op, (nI S), (nI (l + 2)), lv, fn, fi, K, A, Ow, O, P, L, cl, rt, en, ss, so, sp, ww, lw, vi', vv, (upd ps (z * 32 + m) 1), pv, (upd pt (l + 1) (nI (z * 32 + m))))) :
    wpX_walkLastPair post ((nI N), (nI C), (nI U), op, (nI S), (nI (l + 1)), lv, fn, fi, K, A, Ow, O, P, L, cl, rt, en, ss, so, sp, ww, lw, vi, vv, ps, pv, pt) := by
  have el : (nI l).toNatClampNeg = l := nI_clamp (by omega)
  have hne : ∀ i, i < n → ∃ s t, zs_stk K r i = s :: t := fun i hi => by
    obtain ⟨s, t, e, _⟩ := hd i hi
    exact ⟨s, t, e⟩
  have e32 : (32 : Int32) = nI 32 := rfl
  have hdiv : nI (x * 32 + j) / 32 = nI x := by rw [e32, pk_div (by omega) (by omega) (by omega)]; congr 1; omega
  have hrem : nI (x * 32 + j) - nI (x * 32 + j) / 32 * 32 = nI j := by rw [e32, pk_rem (by omega) (by omega) (by omega)]; congr 1; omega
  refine ⟨by rw [nI_pred]; exact vp_in_nI hl (by omega), nm_r (e' := nI (x * 32 + j)) (by rw [nI_pred, el, hpt]) ⟨by decide, nm_r (e' := nI x) hdiv ⟨by decide, ?_⟩⟩⟩
  rw [hrem]
  refine zx_mark (j := nI j) hx hr hn h96 hrt hen hd (fun vi' hv => zx_first hx hr h96 hj hN hU hrt hen hd hA hv (fun y hy => ?_))
  rcases hy with ⟨rfl, hy⟩ | ⟨c, g1, g2, g3, g4, rfl⟩
  · refine br_t rfl (zx_vals hx hr hn h96 hj hrt hen hd he hv (fun c a b hk hvc => ?_) (fun vv' hvv => zx_fin hl (by omega) hpt (hfin vi' vv' hv (Or.inl ⟨rfl, hy⟩) hvv)))
    obtain ⟨i, rfl⟩ : ∃ i, c = r + i := ⟨c - r, by omega⟩
    obtain ⟨m, hm, em⟩ := (zs_vis_rg hr (by omega) hj hne hv (i + 1) i (by omega) (by omega)).resolve_left hvc
    obtain ⟨z, hz, ez⟩ := hA (r + i) (by omega) hk
    refine ⟨z, m, by omega, ?_, ez, em⟩
    by_cases hm32 : m < 32
    · exact hm32
    · refine absurd ⟨hk, hvc, fun w => ?_⟩ (hy (r + i) a b)
      have := w.1
      rw [em] at this
      exact nI_nlt (b := 32) (by omega) (by omega) this
  · refine br_f (zn_ne1 (by omega)) ?_
    obtain ⟨i, rfl⟩ : ∃ i, c = r + i := ⟨c - r, by omega⟩
    obtain ⟨m, hm, em⟩ := (zs_vis_rg hr (by omega) hj hne hv (i + 1) i (by omega) (by omega)).resolve_left g3.2.1
    obtain ⟨z, hz, ez⟩ := hA (r + i) (by omega) g3.1
    have hf : zs_first (zf_D K A vi' ps) r (r + n) (nI (r + i)) := Or.inr ⟨r + i, g1, g2, g3, g4, rfl⟩
    have h0 : m < 32 → ¬ ps (z * 32 + m) = 1 → ps (z * 32 + m) = 0 := by
      intro hm32 hn1
      rcases h012 (z * 32 + m) (by omega) with h | h | h
      · exact h
      · exact absurd h hn1
      · refine absurd ⟨?_, ?_⟩ g3.2.2
        · rw [em]; exact nI_lt (b := 32) hm32 (by decide)
        · rw [ez, em, e32, pk_mul, nI_add, nI_clamp (by omega)]; exact h
    exact zx_take (by omega) (by omega) ez em (by omega) (fun a b => hroom _ (by omega) (h0 a b)) (fun a => hrange vi' _ z m hv hf (by omega) hz (by omega) ez em a) (fun a b => hblack vi' _ z m hv hf (by omega) hz a ez em b) (fun a b => hstart vi' _ z m hv hf g1 g2 g3.1 hz a ez em (h0 a b))
end Z13

/-! eval: the loop and the call -/
section Z16
variable {N C U S : Nat} {op lv fn fi pl yne ysp yvsp ypn : Int32}
variable {K A Ow O P L cl rt en ss so sp ds ww lw vi vv ps pv pt yef yet yew yb ynb yv yx ysv ysi yvs ymo ymv yip ypN ypI : Nat → Int32}
variable {R E : Nat → Nat}
theorem zx_forget {post : St2 → Prop} (hp : ∀ ps', (∀ q, q < 256 → ps' q = 0) → post ((nI N), (nI C), (nI U), op, (nI S), 0, lv, fn, fi, K, A, Ow, O, P, L, cl, rt, en, ss, so, sp, ww, lw, vi, vv, ps', pv, pt)) : ∀ d i ps, i + d = 256 → (∀ q, q < i → ps q = 0) → wX_forgetPairs_2 post (nI N) (nI C) (nI U) op (nI S) pl lv fn fi (d + 1) (nI i) K A Ow O P L cl rt en ss so sp ww lw vi vv ps pv pt := by
  intro d
  induction d with
  | zero => intro i ps hi hz; obtain rfl : i = 256 := by omega
            exact br_t (by decide) (hp ps hz)
  | succ d ih =>
    intro i ps hi hz
    have e : (nI i).toNatClampNeg = i := nI_clamp (by omega)
    refine br_f (nI_ge (b := 256) (by omega) (by decide)) ⟨vp_in_nI (by omega) (by omega), nm_r (e' := upd ps i 0) (by rw [e]) (nm_r (nI_1 i) (ih (i + 1) _ (by omega) (fun q hq => ?_)))⟩
    by_cases eq : q = i
    · rw [eq, pk_us]
    · rw [pk_un eq]; exact hz q (by omega)
end Z16
end
section
/-! sorts: an ELEM cell is visited at index 0 alone, so a visited cell's index is the pair's index plus the cell's offset -/
def zt_srt (K : Nat → Int32) (r : Nat) (s : Nat × Bool) : Int32 :=
  if s.1 < r then 2 else if K s.1 = 3 ∨ K s.1 = 4 ∨ K s.1 = 5 then 1 else if K s.1 = 6 ∧ s.2 = true then 1 else 2
theorem zt_srt_congr {K K' : Nat → Int32} {r : Nat} {s : Nat × Bool} (h : r ≤ s.1 → K' s.1 = K s.1) : zt_srt K' r s = zt_srt K r s := by
  unfold zt_srt
  by_cases hs : s.1 < r
  · rw [if_pos hs, if_pos hs]
  · rw [if_neg hs, if_neg hs, h (by omega)]
def zt_def (K : Nat → Int32) (r n : Nat) : Prop := ∀ i, i < n → ∀ s t, zs_stk K r i = s :: t → ∀ k, k ≤ 11 → K (r + i) = nI k → zk_srt k = zt_srt K r s
theorem zt_def_congr {K K' : Nat → Int32} {r n : Nat} (hr : 1 ≤ r) (h : ∀ c, r ≤ c → c < r + n → K' c = K c) (hd : zt_def K r n) : zt_def K' r n := by
  intro i hi s t es k hk ek
  have es' : zs_stk K r i = s :: t := by rw [← es]; exact (zs_stk_congr i (fun c a b => h c a (by omega))).symm
  have hh := zs_hd hr es'
  rw [h (r + i) (by omega) (by omega)] at ek
  rw [zt_srt_congr (K := K) (fun hs => h s.1 hs (by omega))]
  exact hd i hi s t es' k hk ek
theorem zt_def_step {K : Nat → Int32} {r d k : Nat} {s : Nat × Bool} {t : List (Nat × Bool)} (hr : 1 ≤ r) (hk : k ≤ 11) (e : zs_stk K r d = s :: t) (hs : zk_srt k = zt_srt K r s) (hd : zt_def K r d) :
    zt_def (upd K (r + d) (nI k)) r (d + 1) := by
  intro i hi s1 t1 es k1 hk1 ek
  have es' : zs_stk K r i = s1 :: t1 := by rw [← es]; exact (zs_stk_congr i (fun c a b => pk_un (by omega))).symm
  have hh := zs_hd hr es'
  rw [zt_srt_congr (K := K) (fun _ => pk_un (by omega))]
  by_cases hid : i < d
  · rw [pk_un (by omega)] at ek
    exact hd i hid s1 t1 es' k1 hk1 ek
  · obtain rfl : i = d := by omega
    rw [pk_us] at ek
    have e1 := zn_im ek (by omega) (by omega)
    rw [e] at es'
    rw [← e1, ← (List.cons.inj es').1]
    exact hs
def zt_Q (K : Nat → Int32) (r : Nat) (x y : Int32) (s : Nat × Bool) : Prop := x = zt_srt K r s
theorem zt_s1 {K : Nat → Int32} {r c : Nat} {b : Bool} (hr : r ≤ c) (h : K c = 3 ∨ K c = 4 ∨ K c = 5) : zt_srt K r (c, b) = 1 := by
  unfold zt_srt; rw [if_neg (by show ¬ c < r; omega), if_pos h]
theorem zt_s6 {K : Nat → Int32} {r c : Nat} (hr : r ≤ c) (h : K c = 6) : zt_srt K r (c, true) = 1 := by
  unfold zt_srt; rw [if_neg (by show ¬ c < r; omega), if_neg (by show ¬ (K c = 3 ∨ K c = 4 ∨ K c = 5); rw [h]; decide), if_pos ⟨h, rfl⟩]
theorem zt_s2 {K : Nat → Int32} {r c : Nat} {b : Bool} (hr : r ≤ c) (h : ¬ (K c = 3 ∨ K c = 4 ∨ K c = 5)) (h6 : ¬ K c = 6 ∨ b = false) : zt_srt K r (c, b) = 2 := by
  unfold zt_srt
  rw [if_neg (by show ¬ c < r; omega), if_neg h, if_neg]
  intro z
  rcases h6 with w | w
  · exact w z.1
  · have := z.2
    rw [show ((c, b) : Nat × Bool).2 = b from rfl, w] at this
    exact Bool.noConfusion this
theorem zt_st {K ss : Nat → Int32} {r k c S : Nat} {t : List (Nat × Bool)} (h1 : 1 ≤ k) (h : k ≤ 11) (hr : r ≤ c) (hK : K c = nI k) (hS : S = t.length) (hst : zs_st (fun i x => ss i = zt_srt K r x) t) :
    zs_st (fun i x => zk_ss k S ss i = zt_srt K r x) (zs_kids (nI k) c ++ t) := by
  have p1 : ∀ x : Int32, x = zt_srt K r (c, true) → zs_st (fun i y => upd ss S x i = zt_srt K r y) ((c, true) :: t) := fun x hx => zs_st_push (q := zt_Q K r) (a := ss) (b := ss) (y := 0) (s := (c, true)) hS hx hst
  have p2 : ∀ x y : Int32, x = zt_srt K r (c, false) → y = zt_srt K r (c, true) → zs_st (fun i z => upd (upd ss S x) (S + 1) y i = zt_srt K r z) ((c, true) :: (c, false) :: t) := fun x y hx hy =>
    zs_st_push (q := zt_Q K r) (a := upd ss S x) (b := upd ss S 0) (y := 0) (n := S + 1) (s := (c, true)) (by rw [hS]; rfl) hy (zs_st_push (q := zt_Q K r) (a := ss) (b := ss) (y := 0) (s := (c, false)) hS hx hst)
  rcases zk_c h1 h with rfl | rfl | rfl | rfl | rfl | rfl | rfl | rfl | rfl | rfl | rfl
  · exact hst
  · exact p1 2 (zt_s2 hr (by rw [hK]; decide) (Or.inl (by rw [hK]; decide))).symm
  · exact p2 1 1 (zt_s1 hr (by rw [hK]; decide)).symm (zt_s1 hr (by rw [hK]; decide)).symm
  · exact p2 1 1 (zt_s1 hr (by rw [hK]; decide)).symm (zt_s1 hr (by rw [hK]; decide)).symm
  · exact p2 1 1 (zt_s1 hr (by rw [hK]; decide)).symm (zt_s1 hr (by rw [hK]; decide)).symm
  · exact p2 2 1 (zt_s2 hr (by rw [hK]; decide) (Or.inr rfl)).symm (zt_s6 hr hK).symm
  · exact p1 2 (zt_s2 hr (by rw [hK]; decide) (Or.inl (by rw [hK]; decide))).symm
  · exact p2 2 2 (zt_s2 hr (by rw [hK]; decide) (Or.inr rfl)).symm (zt_s2 hr (by rw [hK]; decide) (Or.inl (by rw [hK]; decide))).symm
  · exact p2 2 2 (zt_s2 hr (by rw [hK]; decide) (Or.inr rfl)).symm (zt_s2 hr (by rw [hK]; decide) (Or.inl (by rw [hK]; decide))).symm
  · exact p2 2 2 (zt_s2 hr (by rw [hK]; decide) (Or.inr rfl)).symm (zt_s2 hr (by rw [hK]; decide) (Or.inl (by rw [hK]; decide))).symm
  · exact hst
def zj_inv (N U : Nat) (op : Int32) (K ss cl : Nat → Int32) (R E : Nat → Nat) : Prop :=
  (∀ n, n < N → cl n = 1 → zt_def K (R n) (E n - R n)) ∧ (∀ o, o < N → op = nI o → zt_def K (R o) (U - R o) ∧ zs_st (fun i s => ss i = zt_srt K (R o) s) (zs_stk K (R o) (U - R o)))
theorem zj_begin {N C U S n : Nat} {K A P O L Ow cl so sp ss : Nat → Int32} {R E : Nat → Nat} (h : zi_inv N C U S (-1) K A P O L Ow cl so sp R E) (hj : zj_inv N U (-1) K ss cl R E) (hn : n < N) (hc : cl n = 0) :
    zj_inv N (U + 1) (nI n) (upd K U 12) (upd ss 0 2) cl (zi_un R n (U + 1)) E := by
  obtain ⟨⟨a1, a2, a3, a4, a5⟩, b, c1, hR, d1, d2, _⟩ := h
  refine ⟨fun m hm hcm => ?_, fun o ho eo => ?_⟩
  · have hne : m ≠ n := fun z => by rw [z, hc] at hcm; exact absurd hcm (by decide)
    rw [zi_unn hne]
    have H := c1 m hm hcm
    have h3 := H.2.2.1
    exact zt_def_congr H.1 (fun c x y => pk_un (by omega)) (hj.1 m hm hcm)
  · obtain rfl : n = o := zn_im eo (by omega) (by omega)
    rw [zi_uns]
    have e0 : U + 1 - (U + 1) = 0 := by omega
    rw [e0]
    refine ⟨fun i hi => absurd hi (Nat.not_lt_zero i), ?_, trivial⟩
    show upd ss 0 2 0 = _
    rw [pk_us]
    unfold zt_srt
    rw [if_pos (by show U + 1 - 1 < U + 1; omega)]
theorem zj_step {N C U S o k : Nat} {K A P O L Ow cl so sp ss : Nat → Int32} {R E : Nat → Nat} {s : Nat × Bool} {t : List (Nat × Bool)} (h : zi_inv N C U S (nI o) K A P O L Ow cl so sp R E) (hj : zj_inv N U (nI o) K ss cl R E) (ho : o < N)
    (e : zs_stk K (R o) (U - R o) = s :: t) (hk1 : 1 ≤ k) (hk : k ≤ 11) (hs : zk_srt k = ss t.length) :
    (∀ m, m < N → cl m = 1 → zt_def (upd K U (nI k)) (R m) (E m - R m)) ∧ zt_def (upd K U (nI k)) (R o) (U + 1 - R o) ∧ zs_st (fun i x => zk_ss k t.length ss i = zt_srt (upd K U (nI k)) (R o) x) (zs_stk (upd K U (nI k)) (R o) (U + 1 - R o)) := by
  obtain ⟨⟨a1, a2, a3, a4, a5⟩, b, c1, hR, d1, d2, d3⟩ := h
  obtain ⟨o', ho', eo, hco, H⟩ : ∃ o', o' < N ∧ nI o = nI o' ∧ cl o' = 0 ∧ zi_op K P O L Ow so sp U S (R o') o' := by
    rcases d3 with d3 | d3
    · exact absurd d3.1 (zn_ne1 (by omega))
    · exact d3
  obtain rfl : o = o' := zn_im eo (by omega) (by omega)
  obtain ⟨r1, r2, r3, r4, r5, r6, r7, r8⟩ := H
  obtain ⟨g1, g2⟩ := hj.2 o ho rfl
  obtain ⟨d, hd⟩ : ∃ d, U = R o + d := ⟨U - R o, by omega⟩
  have ed : U - R o = d := by omega
  rw [ed] at e g1 g2
  rw [e] at g2
  have hsrt : zk_srt k = zt_srt K (R o) s := hs.trans g2.1
  refine ⟨fun m hm hcm => ?_, ?_, ?_⟩
  · have Hm := c1 m hm hcm
    have h3 := Hm.2.2.1
    exact zt_def_congr Hm.1 (fun c x y => pk_un (by omega)) (hj.1 m hm hcm)
  · rw [show U + 1 - R o = d + 1 by omega, hd]; exact zt_def_step r1 hk e hsrt g1
  · rw [show U + 1 - R o = d + 1 by omega, hd, zs_stk_step e]
    refine zt_st hk1 hk (by omega) pk_us rfl (zs_st_mono t (fun i x hi hx hq => hq.trans (zt_srt_congr (fun _ => pk_un ?_)).symm) g2.2)
    have := zs_mem r1 (K := K) (d := d) (s := x) (by rw [e]; exact List.mem_cons_of_mem _ hx)
    omega
theorem zt_vo {K P O L V : Nat → Int32} {r n j : Nat} (hr : 1 ≤ r) (hn : n ≤ 96) (hj : j < 32) (hd : zs_def K P O L r n) (ht : zt_def K r n) (hv : zs_vis K V r (nI j) n) :
    ∀ m i, i < m → i < n → V (r + i) ≠ -1 → (V (r + i)).toInt = (j : Int) + (O (r + i)).toInt ∧ (∀ k, k ≤ 5 → K (r + i) = nI k → V (r + i) = 0) := by
  have hne : ∀ i, i < n → ∃ s t, zs_stk K r i = s :: t := fun i hi => by
    obtain ⟨s, t, e, _⟩ := hd i hi
    exact ⟨s, t, e⟩
  have z0 : (0 : Int32).toInt = 0 := by decide
  intro m
  induction m with
  | zero => intro i h; omega
  | succ m ih =>
    intro i him hi hne1
    obtain ⟨s, t, es, _, hO, _, k, hk1, hk11, hk⟩ := hd i hi
    have hVs := hv i hi s t es
    have hh := zs_hd hr es
    have no1 : zt_srt K r s = 2 → ∀ k, k ≤ 5 → K (r + i) = nI k → V (r + i) = 0 := by
      intro hs2 k' hk' ek
      have h1 := ht i hi s t es k' (by omega) ek
      rw [hs2] at h1
      unfold zk_srt at h1
      rw [if_neg (by omega)] at h1
      exact absurd h1 (by decide)
    unfold zs_sv at hVs
    unfold zs_so at hO
    by_cases hs : s.1 < r
    · rw [if_pos hs] at hVs hO
      refine ⟨by rw [hVs, hO, nI_toInt (by omega), z0]; omega, no1 ?_⟩
      unfold zt_srt; rw [if_pos hs]
    · rw [if_neg hs] at hVs hO
      obtain ⟨q, hq⟩ : ∃ q, s.1 = r + q := ⟨s.1 - r, by omega⟩
      have hq' : q < i := by omega
      rw [hq] at hVs hO
      by_cases h1 : V (r + q) = -1
      · rw [if_pos h1] at hVs; exact absurd hVs hne1
      · rw [if_neg h1] at hVs
        obtain ⟨w1, w2⟩ := ih q (by omega) (by omega) h1
        obtain ⟨mq, hmq, emq⟩ := (zs_vis_rg hr hn hj hne hv (q + 1) q (by omega) (by omega)).resolve_left h1
        have hoq := zs_off hr hn hd (q + 1) q (by omega) (by omega)
        have hsr : ¬ (K (r + q) = 3 ∨ K (r + q) = 4 ∨ K (r + q) = 5) → (¬ K (r + q) = 6 ∨ s.2 = false) → zt_srt K r s = 2 := by
          intro a b
          have : s = (r + q, s.2) := by rw [← hq]
          rw [this]
          exact zt_s2 (by omega) a b
        by_cases h2 : K (r + q) = 2
        · rw [if_pos h2] at hVs
          rw [if_neg (by rw [h2]; decide), if_neg (fun z => by rw [h2] at z; exact absurd z.1 (by decide))] at hO
          have h0 := w2 2 (by omega) h2
          rw [h0, z0] at w1
          exact ⟨by rw [hVs, hO, z0]; omega, no1 (hsr (by rw [h2]; decide) (Or.inl (by rw [h2]; decide)))⟩
        · rw [if_neg h2] at hVs
          by_cases h7 : K (r + q) = 7
          · rw [if_pos h7] at hVs hO
            have e1 : (V (r + q) + 1).toInt = (V (r + q)).toInt + 1 := by
              rw [emq, nI_1, nI_toInt (by omega), nI_toInt (by omega)]; omega
            have e2 : (O (r + q) + 1).toInt = (O (r + q)).toInt + 1 := by
              rw [Int32.toInt_add, show (1 : Int32).toInt = 1 by decide]; exact Int.bmod_eq_of_le (by omega) (by omega)
            exact ⟨by rw [hVs, hO, e1, e2]; omega, no1 (hsr (by rw [h7]; decide) (Or.inl (by rw [h7]; decide)))⟩
          · rw [if_neg h7] at hVs hO
            by_cases h6 : K (r + q) = 6
            · rw [if_pos h6] at hVs
              rcases hh with ⟨hb, _⟩ | ⟨hb, _⟩
              · rw [if_pos hb] at hVs
                rw [if_neg (fun z => by rw [hb] at z; exact Bool.noConfusion z.2)] at hO
                by_cases h0 : V (r + q) = 0
                · rw [if_pos h0] at hVs
                  rw [h0, z0] at w1
                  exact ⟨by rw [hVs, hO, z0]; omega, fun _ _ _ => hVs⟩
                · rw [if_neg h0] at hVs; exact absurd hVs hne1
              · rw [if_neg (by rw [hb]; decide)] at hVs
                rw [if_pos ⟨h6, hb⟩] at hO
                by_cases h0 : V (r + q) = 0
                · rw [if_pos h0] at hVs; exact absurd hVs hne1
                · rw [if_neg h0] at hVs
                  have hm0 : 0 < mq := by
                    rcases Nat.eq_zero_or_pos mq with hz | hz
                    · rw [hz] at emq; exact absurd emq h0
                    · exact hz
                  have e1 : (V (r + q) - 1).toInt = (V (r + q)).toInt - 1 := by
                    rw [emq, zn_s hm0, nI_toInt (by omega), nI_toInt (by omega)]; omega
                  have e2 : (O (r + q) - 1).toInt = (O (r + q)).toInt - 1 := by
                    rw [Int32.toInt_sub, show (1 : Int32).toInt = 1 by decide]; exact Int.bmod_eq_of_le (by omega) (by omega)
                  exact ⟨by rw [hVs, hO, e1, e2]; omega, no1 (hsr (by rw [h6]; decide) (Or.inr hb))⟩
            · rw [if_neg h6] at hVs
              rw [if_neg (fun z => h6 z.1)] at hO
              refine ⟨by rw [hVs, hO]; exact w1, ?_⟩
              by_cases h345 : K (r + q) = 3 ∨ K (r + q) = 4 ∨ K (r + q) = 5
              · intro _ _ _
                rw [hVs]
                rcases h345 with h | h | h
                · exact w2 3 (by omega) h
                · exact w2 4 (by omega) h
                · exact w2 5 (by omega) h
              · exact no1 (hsr h345 (Or.inl h6))
theorem zt_nt {K P O L : Nat → Int32} {r n : Nat} (hr : 1 ≤ r) (hn : n ≤ 96) (hd : zs_def K P O L r n) (h7 : ∀ c, r ≤ c → c < r + n → K c ≠ 7) : ∀ m i, i < m → i < n → (O (r + i)).toInt ≤ 0 := by
  intro m
  induction m with
  | zero => intro i h; omega
  | succ m ih =>
    intro i him hi
    obtain ⟨s, t, es, _, hO, _⟩ := hd i hi
    have hh := zs_hd hr es
    unfold zs_so at hO
    by_cases hs : s.1 < r
    · rw [if_pos hs] at hO; rw [hO]; decide
    · rw [if_neg hs] at hO
      obtain ⟨q, hq⟩ : ∃ q, s.1 = r + q := ⟨s.1 - r, by omega⟩
      rw [hq] at hO
      have w := ih q (by omega) (by omega)
      have hoq := zs_off hr hn hd (q + 1) q (by omega) (by omega)
      rw [if_neg (h7 (r + q) (by omega) (by omega))] at hO
      rw [hO]
      split
      · have e2 : (O (r + q) - 1).toInt = (O (r + q)).toInt - 1 := by
          rw [Int32.toInt_sub, show (1 : Int32).toInt = 1 by decide]; exact Int.bmod_eq_of_le (by omega) (by omega)
        rw [e2]; omega
      · exact w
end
section
/-! walks of edges and their weights -/
def zw_E (K A O Ow cl : Nat → Int32) (U a b : Nat) (w : Int) : Prop := ∃ c, c < U ∧ K c = 11 ∧ Ow c = nI a ∧ cl a = 1 ∧ A c = nI b ∧ (O c).toInt = w ∧ a < 8 ∧ b < 8
def zw_k (E : Nat → Nat → Int → Prop) : Nat → Nat → Nat → Int → Prop
  | 0 => fun a b w => a = b ∧ w = 0
  | l + 1 => fun a b w => ∃ s w1 w2, zw_k E l a s w1 ∧ E s b w2 ∧ w = w1 + w2
theorem zw_app {E : Nat → Nat → Int → Prop} {m : Nat} {a s : Nat} {w1 : Int} (h : zw_k E m a s w1) : ∀ n b w2, zw_k E n s b w2 → zw_k E (m + n) a b (w1 + w2) := by
  intro n
  induction n with
  | zero => intro b w2 ⟨h1, h2⟩; rw [← h1, h2, Int.add_zero]; exact h
  | succ n ih =>
    intro b w2 ⟨t, v1, v2, h1, h2, h3⟩
    exact ⟨t, w1 + v1, v2, ih t v1 h1, h2, by omega⟩
theorem zw_split {E : Nat → Nat → Int → Prop} {m : Nat} : ∀ n a b w, zw_k E (m + n) a b w → ∃ s w1 w2, zw_k E m a s w1 ∧ zw_k E n s b w2 ∧ w = w1 + w2 := by
  intro n
  induction n with
  | zero => intro a b w h; exact ⟨b, w, 0, h, ⟨rfl, rfl⟩, by omega⟩
  | succ n ih =>
    intro a b w ⟨t, v1, v2, h1, h2, h3⟩
    obtain ⟨s, w1, w2, g1, g2, g3⟩ := ih a t v1 h1
    exact ⟨s, w1, w2 + v2, g1, ⟨t, w2, v2, g2, h2, rfl⟩, by omega⟩
theorem zw_seq {K A O Ow cl : Nat → Int32} {U N a : Nat} (hN : N ≤ 8) (hO : ∀ c, c < U → K c = 11 → cl (Ow c).toNatClampNeg = 1 → (Ow c).toNatClampNeg < N ∧ zg_bd 96 (O c)) (hE : ∀ x y w, zw_E K A O Ow cl U x y w → x < N ∧ y < N) (ha : a < N) :
    ∀ l b w, l ≤ 8 → zw_k (zw_E K A O Ow cl U) l a b w → b < N ∧ zg_seq K A O Ow cl U a l b ≠ -1000000 ∧ w ≤ (zg_seq K A O Ow cl U a l b).toInt := by
  intro l
  induction l with
  | zero =>
    intro b w _ ⟨h1, h2⟩
    subst h1
    have e : zg_seq K A O Ow cl U a 0 a = 0 := if_pos rfl
    rw [e, h2]
    exact ⟨ha, by decide, by decide⟩
  | succ l ih =>
    intro b w hl ⟨s, w1, w2, h1, h2, h3⟩
    obtain ⟨g1, g2, g3⟩ := ih s w1 (by omega) h1
    have hb := (hE s b w2 h2).2
    obtain ⟨c, c1, c2, c3, c4, c5, c6⟩ := h2
    have es : (Ow c).toNatClampNeg = s := by rw [c3]; exact nI_clamp (by omega)
    have eb : (A c).toNatClampNeg = b := by rw [c5]; exact nI_clamp (by omega)
    obtain ⟨_, ho⟩ := hO c c1 c2 (by rw [es]; exact c4)
    have hbd := (zg_seq_bd (A := A) (a := a) (N := N) hO l (by omega) s g1).resolve_left g2
    have hmx := (zg_len_mx K A O Ow cl (zg_seq K A O Ow cl U a l) N U b hb).1 (zg_seq K A O Ow cl U a l s + O c) ⟨c, c1, c2, by rw [es]; exact c4, eb, by rw [es]; exact g2, by rw [es]⟩
    have hsum : (zg_seq K A O Ow cl U a l s + O c).toInt = (zg_seq K A O Ow cl U a l s).toInt + (O c).toInt := by
      rw [Int32.toInt_add]
      have h1 := hbd.1; have h2 := hbd.2; have h3 := ho.1; have h4 := ho.2
      exact Int.bmod_eq_of_le (by omega) (by omega)
    have hgt := zg_bd_gt (B := 96 * l + 96) (by omega) (zg_bd_add (by omega) hbd ho)
    refine ⟨hb, fun z => ?_, ?_⟩
    · have z' : zg_len K A O Ow cl (zg_seq K A O Ow cl U a l) U b = -1000000 := z
      rw [z'] at hmx
      exact absurd (Int32.lt_of_lt_of_le hgt hmx) (Int32.lt_irrefl)
    · have h5 := Int32.le_iff_toInt_le.mp hmx
      rw [hsum] at h5
      show w ≤ (zg_len K A O Ow cl (zg_seq K A O Ow cl U a l) U b).toInt
      omega
theorem zw_g {K A O Ow cl : Nat → Int32} {U a b : Nat} : ∀ n l, 1 ≤ l → l ≤ n → zg_seq K A O Ow cl U a l b ≤ zg_g K A O Ow cl U a b n := by
  intro n
  induction n with
  | zero => intro l h1 h2; omega
  | succ n ih =>
    intro l h1 h2
    show _ ≤ (if zg_g K A O Ow cl U a b n < zg_seq K A O Ow cl U a (n + 1) b then zg_seq K A O Ow cl U a (n + 1) b else zg_g K A O Ow cl U a b n)
    by_cases e : l = n + 1
    · subst e
      split
      · exact Int32.le_refl _
      · rename_i h; exact Int32.not_lt.mp h
    · have := ih l h1 (by omega)
      split
      · rename_i h; exact Int32.le_trans this (Int32.le_of_lt h)
      · exact this
/-- two names: every closed walk has a weight below 0, if those of one and of two edges have -/
theorem zw_neg {E : Nat → Nat → Int → Prop} (hE : ∀ x y w, E x y w → x < 2 ∧ y < 2) (h12 : ∀ l a w, 1 ≤ l → l ≤ 2 → a < 2 → zw_k E l a a w → w < 0) : ∀ m l, l ≤ m → 1 ≤ l → ∀ a w, a < 2 → zw_k E l a a w → w < 0 := by
  have hend : ∀ l a b w, 1 ≤ l → zw_k E l a b w → b < 2 := by
    intro l a b w hl h
    cases l with
    | zero => omega
    | succ l => obtain ⟨s, w1, w2, _, h2, _⟩ := h; exact (hE s b w2 h2).2
  intro m
  induction m with
  | zero => intro l h1 h2; omega
  | succ m ih =>
    intro l hlm hl a w ha h
    by_cases h3 : l ≤ 2
    · exact h12 l a w hl h3 ha h
    · obtain ⟨n, rfl⟩ : ∃ n, l = 1 + (1 + (n + 1)) := ⟨l - 3, by omega⟩
      obtain ⟨s1, w1, v1, g1, g2, g3⟩ := zw_split (m := 1) (1 + (n + 1)) a a w h
      obtain ⟨s2, w2, w3, g4, g5, g6⟩ := zw_split (m := 1) (n + 1) s1 a v1 g2
      have hs1 := hend 1 a s1 w1 (by omega) g1
      have hs2 := hend 1 s1 s2 w2 (by omega) g4
      by_cases e1 : s1 = a
      · rw [e1] at g1 g2
        have x1 := h12 1 a w1 (by omega) (by omega) ha g1
        have x2 := ih (1 + (n + 1)) (by omega) (by omega) a v1 ha g2
        omega
      · by_cases e2 : s2 = a
        · rw [e2] at g4 g5
          have x1 := h12 2 a (w1 + w2) (by omega) (by omega) ha (zw_app g1 1 a w2 g4)
          have x2 := ih (n + 1) (by omega) (by omega) a w3 ha g5
          omega
        · have e3 : s2 = s1 := by omega
          rw [e3] at g4 g5
          have x1 := h12 1 s1 w2 (by omega) (by omega) hs1 g4
          have x2 := ih (1 + (n + 1)) (by omega) (by omega) a (w1 + w3) ha (zw_app g1 (n + 1) a w3 g5)
          omega
theorem zw_path {E : Nat → Nat → Int → Prop} {px pj : Nat → Nat} : ∀ d i, (∀ k, i ≤ k → k < i + d → E (px k) (px (k + 1)) ((pj (k + 1) : Int) - pj k)) → zw_k E d (px i) (px (i + d)) ((pj (i + d) : Int) - pj i) := by
  intro d
  induction d with
  | zero => intro i _; exact ⟨rfl, by rw [Nat.add_zero]; omega⟩
  | succ d ih =>
    intro i h
    exact ⟨px (i + d), _, _, ih i (fun k a b => h k a (by omega)), h (i + d) (by omega) (by omega), by rw [show i + (d + 1) = i + d + 1 by omega]; omega⟩
end
section
/-! obstacles, verdict, eval: the component alone -/
def ze_X (N : Nat) (cl ps pt : Nat → Int32) (px pj : Nat → Nat) (l : Nat) : Prop :=
  ∀ i, i < l → px i < N ∧ cl (px i) = 1 ∧ pj i < 32 ∧ pt i = nI (px i * 32 + pj i) ∧ ps (px i * 32 + pj i) ≠ 0
theorem zf_c {D : Nat → Prop} {lo hi c : Nat} (hc : c < 2 ^ 31) (hh : hi < 2 ^ 31) (h : zs_first D lo hi (nI c)) : lo ≤ c ∧ c < hi ∧ D c := by
  rcases h with ⟨h1, _⟩ | ⟨c', h1, h2, h3, _, h5⟩
  · exact absurd h1 (zn_ne1 hc)
  · have := zn_im h5 hc (by omega)
    subst this
    exact ⟨h1, h2, h3⟩
section Z22
variable {N C U S : Nat} {op lv fn fi pl yne ysp yvsp ypn : Int32}
variable {K A Ow O P L cl rt en ss so sp ds ww lw vi vv ps pv pt yef yet yew yb ynb yv yx ysv ysi yvs ymo ymv yip ypN ypI : Nat → Int32}
variable {R E : Nat → Nat}
theorem zd_o21 (hU : U ≤ 96) (hN : N ≤ 8) (hA : ∀ c, c < U → K c = 11 → ∃ m, m < N ∧ A c = nI m) :
    ∀ d i, i + d = U → ∃ r : Int32, (r = 0 ↔ ∀ c, i ≤ c → c < U → K c = 11 → ¬ cl (A c).toNatClampNeg = 0) ∧ (∀ post : Int32 → Prop, post r → wX_obstacleToEvaluation_21 post (nI N) (nI C) (nI U) op (nI S) pl lv fn fi K A Ow O P L cl rt en ss so sp ww lw vi vv ps pv pt (d + 1) (nI i)) := by
  intro d
  induction d with
  | zero =>
    intro i hi
    exact ⟨0, ⟨fun _ c h1 h2 => by omega, fun _ => rfl⟩, fun _ hp => br_t (nI_le (by omega) (by omega)) hp⟩
  | succ d ih =>
    intro i hi
    have h : ¬ nI U ≤ nI i := nI_ge (by omega) (by omega)
    have hin : vp_in (nI i) 96 := vp_in_nI (by omega) (by omega)
    have e : (nI i).toNatClampNeg = i := nI_clamp (by omega)
    obtain ⟨r, hr, hX⟩ := ih (i + 1) (by omega)
    by_cases hk : K (nI i).toNatClampNeg = 11
    · have hk' := hk
      rw [e] at hk'
      obtain ⟨m, hm, em⟩ := hA i (by omega) hk'
      have eA : A (nI i).toNatClampNeg = nI m := by rw [e]; exact em
      have hi8 : vp_in (A (nI i).toNatClampNeg) 8 := by rw [eA]; exact vp_in_nI (by omega) (by omega)
      by_cases hc : cl (A (nI i).toNatClampNeg).toNatClampNeg = 0
      · refine ⟨3, ⟨fun z => absurd z (by decide), fun z => ?_⟩, fun _ hp => br_f h ⟨hin, br_t hk ⟨hin, hi8, br_t hc hp⟩⟩⟩
        rw [e] at hc
        exact absurd hc (z i (Nat.le_refl _) (by omega) hk')
      · refine ⟨r, ⟨fun hr0 c h1 h2 h3 => ?_, fun z => hr.mpr (fun c h1 h2 h3 => z c (by omega) h2 h3)⟩, fun post hp => br_f h ⟨hin, br_t hk ⟨hin, hi8, br_f hc (nm_r (nI_1 i) (hX post hp))⟩⟩⟩
        by_cases ec : c = i
        · rw [ec, ← e]; exact hc
        · exact hr.mp hr0 c (by omega) h2 h3
    · refine ⟨r, ⟨fun hr0 c h1 h2 h3 => ?_, fun z => hr.mpr (fun c h1 h2 h3 => z c (by omega) h2 h3)⟩, fun post hp => br_f h ⟨hin, br_f hk (nm_r (nI_1 i) (hX post hp))⟩⟩
      by_cases ec : c = i
      · rw [ec, ← e] at h3; exact absurd h3 hk
      · exact hr.mp hr0 c (by omega) h2 h3
theorem zd_obs (h : zi_inv N C U S op K A P O L Ow cl so sp R E) : ∃ r : Int32, (r = 0 ↔ op = -1 ∧ U ≠ 0 ∧ ∀ c, c < U → K c = 11 → ¬ cl (A c).toNatClampNeg = 0) ∧ (∀ post : Int32 → Prop, post r → wpX_obstacleToEvaluation post ((nI N), (nI C), (nI U), op, (nI S), pl, lv, fn, fi, K, A, Ow, O, P, L, cl, rt, en, ss, so, sp, ww, lw, vi, vv, ps, pv, pt)) := by
  obtain ⟨⟨a1, a2, a3, a4, a5⟩, hcl, hcd, _, hA, hOw, ho⟩ := h
  by_cases hop : op = -1
  · by_cases hU : U = 0
    · exact ⟨2, ⟨fun z => absurd z (by decide), fun z => absurd hU z.2.1⟩, fun post hp => br_t hop (br_t (by rw [hU]; rfl) hp)⟩
    · obtain ⟨r, hr, hX⟩ := zd_o21 (C := C) (S := S) (op := op) (lv := lv) (fn := fn) (fi := fi) (pl := pl) (Ow := Ow) (O := O) (P := P) (L := L) (cl := cl) (rt := rt) (en := en) (ss := ss) (so := so) (sp := sp) (ww := ww) (lw := lw) (vi := vi) (vv := vv) (ps := ps) (pv := pv) (pt := pt) (by omega) a2 hA U 0 (by omega)
      exact ⟨r, ⟨fun hr0 => ⟨hop, hU, fun c hc hk => hr.mp hr0 c (by omega) hc hk⟩, fun z => hr.mpr (fun c _ h2 h3 => z.2.2 c h2 h3)⟩, fun post hp => br_t hop (br_f (nI_ne0 (by omega) (by omega)) ⟨_, hX post hp⟩)⟩
  · exact ⟨1, ⟨fun z => absurd z (by decide), fun z => absurd z.1 hop⟩, fun post hp => br_f hop hp⟩
theorem zv_r0 : ∀ d, d ≤ N → zv_r K A O Ow cl U N d = 0 → ∀ n, N - d ≤ n → n < N → cl n = 1 → zg_g K A O Ow cl U n n N < 0 := by
  intro d
  induction d with
  | zero => intro _ _ n h1 h2; omega
  | succ d ih =>
    intro hd h n h1 h2 hc
    have h' : (if cl (N - (d + 1)) = 0 then zv_r K A O Ow cl U N d else if zg_g K A O Ow cl U (N - (d + 1)) (N - (d + 1)) N < 0 then zv_r K A O Ow cl U N d else 4) = 0 := h
    by_cases e : n = N - (d + 1)
    · rw [← e, if_neg (by rw [hc]; decide)] at h'
      by_cases hg : zg_g K A O Ow cl U n n N < 0
      · exact hg
      · rw [if_neg hg] at h'; exact absurd h' (by decide)
    · refine ih (by omega) ?_ n (by omega) h2 hc
      by_cases c0 : cl (N - (d + 1)) = 0
      · rw [if_pos c0] at h'; exact h'
      · rw [if_neg c0] at h'
        by_cases hg : zg_g K A O Ow cl U (N - (d + 1)) (N - (d + 1)) N < 0
        · rw [if_pos hg] at h'; exact h'
        · rw [if_neg hg] at h'; exact absurd h' (by decide)
theorem zd_verdict {post : Int32 → St2 → Prop} (h : zi_inv N C U S op K A P O L Ow cl so sp R E) (h1 : ∀ r ww' lw', r ≠ 0 → post r ((nI N), (nI C), (nI U), op, (nI S), pl, lv, fn, fi, K, A, Ow, O, P, L, cl, rt, en, ss, so, sp, ww', lw', vi, vv, ps, pv, pt))
    (h0 : op = -1 → U ≠ 0 → (∀ c, c < U → K c = 11 → ¬ cl (A c).toNatClampNeg = 0) → (∀ n, n < N → cl n = 1 → zg_g K A O Ow cl U n n N < 0) → ∀ ww' lw', post 0 ((nI N), (nI C), (nI U), op, (nI S), pl, lv, fn, fi, K, A, Ow, O, P, L, cl, rt, en, ss, so, sp, ww', lw', vi, vv, ps, pv, pt)) : wpX_verdict post ((nI N), (nI C), (nI U), op, (nI S), pl, lv, fn, fi, K, A, Ow, O, P, L, cl, rt, en, ss, so, sp, ww, lw, vi, vv, ps, pv, pt) := by
  have hb := h.1
  have hOw : ∀ c, c < U → ∃ n, n < N ∧ Ow c = nI n := fun c hc => by
    obtain ⟨n, h1, h2, _⟩ := h.2.2.2.2.2.1 c hc
    exact ⟨n, h1, h2⟩
  obtain ⟨r, hr, hX⟩ := zd_obs (lv := lv) (fn := fn) (fi := fi) (pl := pl) (rt := rt) (en := en) (ss := ss) (ww := ww) (lw := lw) (vi := vi) (vv := vv) (ps := ps) (pv := pv) (pt := pt) h
  unfold wpX_verdict
  refine hX _ ?_
  by_cases hr0 : r = 0
  · obtain ⟨g1, g2, g3⟩ := hr.mp hr0
    refine br_t hr0 ⟨_, zv_x (by omega) (by omega) h.2.1 h.2.2.2.2.1 hOw N 0 _ _ (by omega) (fun ww' lw' => ?_)⟩
    by_cases hz : zv_r K A O Ow cl U N N = 0
    · rw [hz]; exact h0 g1 g2 g3 (fun n hn hc => zv_r0 N (Nat.le_refl _) hz n (by omega) hn hc) ww' lw'
    · exact h1 _ ww' lw' hz
  · exact br_f hr0 (h1 r ww lw hr0)
theorem zd_loop {post : Int32 → St2 → Prop} {x0 j0 : Nat} {nt : Prop} (hR : ∀ n, rt n = nI (R n)) (hE : ∀ n, en n = nI (E n)) (h : zi_inv N C U S op K A P O L Ow cl so sp R E) (hj : zj_inv N U op K ss cl R E) (hc0 : ∀ c, c < U → K c = 11 → ¬ cl (A c).toNatClampNeg = 0)
    (hnt : nt → ∀ c, c < U → K c ≠ 7) (hneg : ∀ l, 1 ≤ l → ∀ a w, a < N → zw_k (zw_E K A O Ow cl U) l a a w → w < 0) (hw256 : x0 * 32 + j0 < 256)
    (hp0 : ∀ (lv pl : Int32) (vi vv ps pv pt : Nat → Int32), post 0 ((nI N), (nI C), (nI U), op, (nI S), pl, lv, (-1), (-1), K, A, Ow, O, P, L, cl, rt, en, ss, so, sp, ww, lw, vi, vv, ps, pv, pt)) (hp2 : ¬ nt → ∀ (lv fn fi pl : Int32) (vi vv ps pv pt : Nat → Int32), post 2 ((nI N), (nI C), (nI U), op, (nI S), pl, lv, fn, fi, K, A, Ow, O, P, L, cl, rt, en, ss, so, sp, ww, lw, vi, vv, ps, pv, pt)) :
    ∀ mu it l (ps pv pt vi vv : Nat → Int32) (px pj : Nat → Nat), 2 * zp_n0 ps + (l + 1) = mu → it + mu ≤ 512 → (l + 1) + zp_n0 ps ≤ 256 → ze_X N cl ps pt px pj (l + 1) → (∀ q, q < 256 → ps q = 0 ∨ ps q = 1 ∨ ps q = 2) →
      (∀ q, q < 256 → ps q = 1 → ∃ i, i < l + 1 ∧ q = px i * 32 + pj i) → (∀ i, i < l → zw_E K A O Ow cl U (px i) (px (i + 1)) ((pj (i + 1) : Int) - pj i)) → (nt → ∀ i, i < l + 1 → pj i ≤ 5) →
      wX_evaluate_19 post (nI (x0 * 32 + j0)) (mu + 1) (nI it) (nI N) (nI C) (nI U) op (nI S) (nI (l + 1)) lv fn fi K A Ow O P L cl rt en ss so sp ww lw vi vv ps pv pt := by
  have hb := h.1
  have hA := h.2.2.2.2.1
  have hcl := h.2.1
  intro mu
  induction mu with
  | zero => intro it l ps pv pt vi vv px pj h1; omega
  | succ mu ih =>
    intro it l ps pv pt vi vv px pj hmu hit hroom hX h012 h1p hed h5
    obtain ⟨w1, w2, w3, w4, w5⟩ := hX l (by omega)
    obtain ⟨r1, r2, r3, r4, r5, r6, r7⟩ := h.2.2.1 (px l) w1 w2
    have hsrt := hj.1 (px l) w1 w2
    have en' : en (px l) = nI (R (px l) + (E (px l) - R (px l))) := by rw [hE]; congr 1; omega
    have e0 : ∀ q, q < 256 → ps q = 0 → 1 ≤ zp_n0 ps := fun q hq hz => zg_cn_pos (by show decide (ps q = 0) = true; rw [hz]; rfl) 256 hq
    have dem : ∀ (vi' : Nat → Int32) (c z m : Nat), zs_vis K vi' (R (px l)) (nI (pj l)) (E (px l) - R (px l)) → zs_first (zf_D K A vi' ps) (R (px l)) (R (px l) + (E (px l) - R (px l))) (nI c) → c < 96 → z < N → m < 2 ^ 30 → A c = nI z → vi' c = nI m →
        zw_E K A O Ow cl U (px l) z ((m : Int) - pj l) ∧ (nt → m ≤ 5) := by
      intro vi' c z m hv hf hc hz hm ez em
      obtain ⟨f1, f2, f3⟩ := zf_c (by omega) (by omega) hf
      obtain ⟨i, rfl⟩ : ∃ i, c = R (px l) + i := ⟨c - R (px l), by omega⟩
      have hvo := (zt_vo r1 (by omega) w3 r4 hsrt hv (i + 1) i (by omega) (by omega) f3.2.1).1
      rw [em, nI_toInt (by omega)] at hvo
      refine ⟨⟨R (px l) + i, by omega, f3.1, r7 _ (by omega) (by omega), w2, ez, by omega, by omega, by omega⟩, fun hn => ?_⟩
      have h6 := zt_nt r1 (by omega) r4 (fun c a b => hnt hn c (by omega)) (i + 1) i (by omega) (by omega)
      have h7 := h5 hn l (by omega)
      omega
    refine br_f (nI_ge (b := 1000000) (by omega) (by decide)) (br_f (nI_nle (by omega) (by omega)) ?_)
    refine zx_walk (x := px l) (r := R (px l)) (n := E (px l) - R (px l)) (j := pj l) (l := l) (by omega) r1 (by omega) (by omega) w3 (by omega) (by omega) (by omega) (hR _) en' r4 r5 hA w4 (fun q hq hz => by have := e0 q hq hz; omega) h012
      (fun vi' vv' hv hf hvv => br_t rfl (nm_r (nI_1 it) ?_))
      (fun vi' c z m hv hf hc hz hm ez em h32 => br_f (by decide) (hp2 (fun hn => ?_) _ _ _ _ _ _ _ _ _))
      (fun vi' c z m hv hf hc hz hm ez em hp1 => ?_)
      (fun vi' c z m hv hf hc1 hc2 hk hz hm ez em hp0 => br_t rfl (nm_r (nI_1 it) ?_))
    · cases l with
      | zero =>
        exact br_f (nI_ge (b := 1000000) (by omega) (by decide)) (br_t (by decide) ⟨vp_in_nI hw256 (by omega), hp0 _ _ _ _ _ _ _⟩)
      | succ l =>
        have hn0 := zp_n0_fin (PS := ps) w5
        refine ih (it + 1) l _ _ _ _ _ px pj (by rw [hn0]; omega) (by omega) (by rw [hn0]; omega) (fun i hi => ?_) (fun q hq => ?_) (fun q hq hq1 => ?_) (fun i hi => hed i (by omega)) (fun hn i hi => h5 hn i (by omega))
        · obtain ⟨v1, v2, v3, v4, v5⟩ := hX i (by omega)
          refine ⟨v1, v2, v3, v4, ?_⟩
          by_cases e : px i * 32 + pj i = px (l + 1) * 32 + pj (l + 1)
          · rw [e, pk_us]; decide
          · rw [pk_un e]; exact v5
        · by_cases e : q = px (l + 1) * 32 + pj (l + 1)
          · rw [e, pk_us]; exact Or.inr (Or.inr rfl)
          · rw [pk_un e]; exact h012 q hq
        · by_cases e : q = px (l + 1) * 32 + pj (l + 1)
          · rw [e, pk_us] at hq1; exact absurd hq1 (by decide)
          · rw [pk_un e] at hq1
            obtain ⟨i, hi, ei⟩ := h1p q hq hq1
            refine ⟨i, ?_, ei⟩
            by_cases el : i = l + 1
            · rw [el] at ei; exact absurd ei e
            · omega
    · have := (dem vi' c z m hv hf hc hz hm ez em).2 hn
      omega
    · exfalso
      have hedge := (dem vi' c z m hv hf hc hz (by omega) ez em).1
      obtain ⟨i, hi, ei⟩ := h1p (z * 32 + m) (by omega) hp1
      obtain ⟨v1, v2, v3, v4, v5⟩ := hX i hi
      have ez' : px i = z := by omega
      have em' : pj i = m := by omega
      have hp := zw_path (E := zw_E K A O Ow cl U) (px := px) (pj := pj) (l - i) i (fun k a b => hed k (by omega))
      rw [show i + (l - i) = l by omega] at hp
      have := hneg (l - i + 1) (by omega) (px i) 0 v1 ⟨px l, _, _, hp, by rw [ez']; exact hedge, by rw [em']; omega⟩
      omega
    · have hq256 : z * 32 + m < 256 := by omega
      have hn0 := zp_n0_start (PS := ps) hq256 hp0
      have hclz : cl z = 1 := by
        have := hc0 c (by omega) hk
        rw [ez, nI_clamp (by omega)] at this
        exact (hcl z).resolve_left this
      have hdem := dem vi' c z m hv hf (by omega) hz (by omega) ez em
      refine ih (it + 1) (l + 1) _ _ _ _ _ (zi_un px (l + 1) z) (zi_un pj (l + 1) m) (by omega) (by omega) (by omega) (fun i hi => ?_) (fun q hq => ?_) (fun q hq hq1 => ?_) (fun i hi => ?_) (fun hn i hi => ?_)
      · by_cases e : i = l + 1
        · rw [e, zi_uns, zi_uns, pk_us, pk_us]; exact ⟨hz, hclz, hm, rfl, by decide⟩
        · rw [zi_unn e, zi_unn e, pk_un e]
          obtain ⟨v1, v2, v3, v4, v5⟩ := hX i (by omega)
          refine ⟨v1, v2, v3, v4, ?_⟩
          by_cases e' : px i * 32 + pj i = z * 32 + m
          · rw [e', pk_us]; decide
          · rw [pk_un e']; exact v5
      · by_cases e : q = z * 32 + m
        · rw [e, pk_us]; exact Or.inr (Or.inl rfl)
        · rw [pk_un e]; exact h012 q hq
      · by_cases e : q = z * 32 + m
        · exact ⟨l + 1, by omega, by rw [zi_uns, zi_uns]; exact e⟩
        · rw [pk_un e] at hq1
          obtain ⟨i, hi, ei⟩ := h1p q hq hq1
          exact ⟨i, by omega, by rw [zi_unn (by omega), zi_unn (by omega)]; exact ei⟩
      · by_cases e : i = l
        · subst e
          rw [zi_uns, zi_uns, zi_unn (by omega), zi_unn (by omega)]; exact hdem.1
        · rw [zi_unn (by omega), zi_unn (by omega), zi_unn (by omega), zi_unn (by omega)]; exact hed i (by omega)
      · by_cases e : i = l + 1
        · rw [e, zi_uns]; exact hdem.2 hn
        · rw [zi_unn e]; exact h5 hn i (by omega)
theorem zd_eval {post : Int32 → St2 → Prop} {x j : Nat} {nt : Prop} (hR : ∀ n, rt n = nI (R n)) (hE : ∀ n, en n = nI (E n)) (h : zi_inv N C U S op K A P O L Ow cl so sp R E) (hj : zj_inv N U op K ss cl R E) (hop : op = -1) (hU0 : U ≠ 0) (hc0 : ∀ c, c < U → K c = 11 → ¬ cl (A c).toNatClampNeg = 0)
    (hnt : nt → ∀ c, c < U → K c ≠ 7) (hneg : ∀ l, 1 ≤ l → ∀ a w, a < N → zw_k (zw_E K A O Ow cl U) l a a w → w < 0) (hx : x < N) (hj5 : j ≤ 5) (hp4 : cl x = 0 → post 4 ((nI N), (nI C), (nI U), op, (nI S), pl, lv, fn, fi, K, A, Ow, O, P, L, cl, rt, en, ss, so, sp, ww, lw, vi, vv, ps, pv, pt))
    (hp0 : cl x = 1 → ∀ (lv pl : Int32) (vi vv ps pv pt : Nat → Int32), post 0 ((nI N), (nI C), (nI U), op, (nI S), pl, lv, (-1), (-1), K, A, Ow, O, P, L, cl, rt, en, ss, so, sp, ww, lw, vi, vv, ps, pv, pt)) (hp2 : cl x = 1 → ¬ nt → ∀ (lv fn fi pl : Int32) (vi vv ps pv pt : Nat → Int32), post 2 ((nI N), (nI C), (nI U), op, (nI S), pl, lv, fn, fi, K, A, Ow, O, P, L, cl, rt, en, ss, so, sp, ww, lw, vi, vv, ps, pv, pt)) : wpX_eval post ((nI N), (nI C), (nI U), op, (nI S), pl, lv, fn, fi, K, A, Ow, O, P, L, cl, rt, en, ss, so, sp, ww, lw, vi, vv, ps, pv, pt) (nI x) (nI j) := by
  have hb := h.1
  have hN8 : N ≤ 8 := hb.2.1
  obtain ⟨r, hr, hX⟩ := zd_obs (lv := lv) (fn := fn) (fi := fi) (pl := pl) (rt := rt) (en := en) (ss := ss) (ww := ww) (lw := lw) (vi := vi) (vv := vv) (ps := ps) (pv := pv) (pt := pt) h
  have hr0 := hr.mpr ⟨hop, hU0, hc0⟩
  unfold wpX_eval
  refine hX _ (br_t hr0 ?_)
  unfold wpX_defined
  have hin : vp_in (nI x) 8 := vp_in_nI (by omega) (by omega)
  have ex : (nI x).toNatClampNeg = x := nI_clamp (by omega)
  refine zx_nm1 hx hN8 (br_f zn_10 ⟨hin, ?_⟩)
  rcases h.2.1 x with hc | hc
  · exact br_t (by rw [ex]; exact hc) (br_t rfl (hp4 hc))
  · refine br_f (by rw [ex, hc]; decide) (br_f zn_10 (br_f (nI_pos (by omega)) (br_t (nI_lt (b := 32) (by omega) (by decide)) ?_)))
    have hq256 : x * 32 + j < 256 := by omega
    have eq : nI x * 32 + nI j = nI (x * 32 + j) := by rw [show (32 : Int32) = nI 32 from rfl, pk_mul, nI_add]
    refine nm_r (e' := nI (x * 32 + j)) eq ⟨_, zx_forget (fun ps' hps => zx_startp (l := 0) hq256 (by omega) ⟨2 * zp_n0 (upd ps' (x * 32 + j) 1) + (0 + 1) + 1, ?_⟩) 256 0 _ (by omega) (fun q hq => absurd hq (Nat.not_lt_zero q))⟩
    have hn := zp_n0_start (PS := ps') hq256 (hps _ hq256)
    have hn' := zp_n0_le ps'
    refine zd_loop (nt := nt) hR hE h hj hc0 hnt hneg hq256 (hp0 hc) (hp2 hc) _ 0 0 _ _ _ _ _ (fun _ => x) (fun _ => j) rfl (by omega) (by omega) (fun i hi => ?_) (fun q hq => ?_) (fun q hq hq1 => ?_) (fun i hi => absurd hi (Nat.not_lt_zero i)) (fun _ i _ => hj5)
    · obtain rfl : i = 0 := by omega
      exact ⟨hx, hc, (by show j < 32; omega), pk_us, by show upd ps' (x * 32 + j) 1 (x * 32 + j) ≠ 0; rw [pk_us]; decide⟩
    · by_cases e : q = x * 32 + j
      · rw [e, pk_us]; exact Or.inr (Or.inl rfl)
      · rw [pk_un e]; exact Or.inl (hps q hq)
    · by_cases e : q = x * 32 + j
      · exact ⟨0, by omega, e⟩
      · rw [pk_un e, hps q hq] at hq1; exact absurd hq1 (by decide)
end Z22
end
section
/-! any call of begin and token keeps the invariant -/
def zd_I (u : St2) : Prop :=
  ∃ (N C U S : Nat) (op lv fn fi pl : Int32) (K A Ow O P L cl rt en ss so sp ww lw vi vv ps pv pt : Nat → Int32) (R E : Nat → Nat),
    u = ((nI N), (nI C), (nI U), op, (nI S), pl, lv, fn, fi, K, A, Ow, O, P, L, cl, rt, en, ss, so, sp, ww, lw, vi, vv, ps, pv, pt) ∧ N = 2 ∧ (∀ n, rt n = nI (R n)) ∧ (∀ n, en n = nI (E n)) ∧ zi_inv N C U S op K A P O L Ow cl so sp R E ∧ zj_inv N U op K ss cl R E
section Z23
variable {N C U S : Nat} {op lv fn fi pl yne ysp yvsp ypn : Int32}
variable {K A Ow O P L cl rt en ss so sp ds ww lw vi vv ps pv pt yef yet yew yb ynb yv yx ysv ysi yvs ymo ymv yip ypN ypI : Nat → Int32}
variable {R E : Nat → Nat}
variable {e1 e2 e3 e4 e5 e6 e7 e8 e9 : Int32} {b1 b2 b3 b4 b5 b6 b7 b8 b9 b10 b11 b12 b13 b14 b15 b16 b17 b18 b19 : Nat → Int32}
theorem zd_mk (hN : N = 2) (hR : ∀ n, rt n = nI (R n)) (hE : ∀ n, en n = nI (E n)) (h : zi_inv N C U S op K A P O L Ow cl so sp R E) (hj : zj_inv N U op K ss cl R E) : zd_I ((nI N), (nI C), (nI U), op, (nI S), pl, lv, fn, fi, K, A, Ow, O, P, L, cl, rt, en, ss, so, sp, ww, lw, vi, vv, ps, pv, pt) :=
  ⟨N, C, U, S, op, lv, fn, fi, pl, K, A, Ow, O, P, L, cl, rt, en, ss, so, sp, ww, lw, vi, vv, ps, pv, pt, R, E, rfl, hN, hR, hE, h, hj⟩
theorem zd_beg {post : Int32 → St2 → Prop} {v1 : Int32} (I : zd_I (e1, e2, e3, e4, e5, e6, e7, e8, e9, b1, b2, b3, b4, b5, b6, b7, b8, b9, b10, b11, b12, b13, b14, b15, b16, b17, b18, b19)) (hp : ∀ (r : Int32) (e1 e2 e3 e4 e5 e6 e7 e8 e9 : Int32) (b1 b2 b3 b4 b5 b6 b7 b8 b9 b10 b11 b12 b13 b14 b15 b16 b17 b18 b19 : Nat → Int32), zd_I (e1, e2, e3, e4, e5, e6, e7, e8, e9, b1, b2, b3, b4, b5, b6, b7, b8, b9, b10, b11, b12, b13, b14, b15, b16, b17, b18, b19) → post r (e1, e2, e3, e4, e5, e6, e7, e8, e9, b1, b2, b3, b4, b5, b6, b7, b8, b9, b10, b11, b12, b13, b14, b15, b16, b17, b18, b19)) : wpX_begin post (e1, e2, e3, e4, e5, e6, e7, e8, e9, b1, b2, b3, b4, b5, b6, b7, b8, b9, b10, b11, b12, b13, b14, b15, b16, b17, b18, b19) v1 := by
  obtain ⟨N, C, U, S, op, lv, fn, fi, pl, K, A, Ow, O, P, L, cl, rt, en, ss, so, sp, ww, lw, vi, vv, ps, pv, pt, R, E, hu, hN, hR, hE, h, hj⟩ := I
  rw [hu]
  have J : zd_I ((nI N), (nI C), (nI U), op, (nI S), pl, lv, fn, fi, K, A, Ow, O, P, L, cl, rt, en, ss, so, sp, ww, lw, vi, vv, ps, pv, pt) := zd_mk hN hR hE h hj
  have hb := h.1
  rcases h.2.2.2.2.2.2 with ⟨rfl, rfl⟩ | ⟨o, h1, rfl, _⟩
  · refine br_t rfl ?_
    by_cases hv : v1 < 0 ∨ nI N ≤ v1
    · exact zx_nm0 hv (br_t rfl (hp 0 _ _ _ _ _ _ _ _ _ _ _ _ _ _ _ _ _ _ _ _ _ _ _ _ _ _ _ _ J))
    · obtain ⟨j, hj', rfl⟩ : ∃ j : Nat, j < N ∧ v1 = nI j := by
        rcases pk_ix v1 (n := N) (by omega) with h | h | h
        · exact absurd (Or.inl h) hv
        · exact absurd (Or.inr h) hv
        · exact h
      have hin : vp_in (nI j) 8 := vp_in_nI (by omega) (by omega)
      have ej : (nI j).toNatClampNeg = j := nI_clamp (by omega)
      refine zx_nm1 hj' (by omega) (br_f zn_10 ⟨hin, ?_⟩)
      by_cases hc : cl (nI j).toNatClampNeg = 0
      · refine br_t hc ?_
        by_cases hU : U < C
        · rw [ej] at hc
          refine br_t (nI_lt hU (by omega)) (zx_append (by omega) ⟨hin, nm_r (e' := upd rt j (nI (U + 1))) (by rw [ej]) (zx_put (S := 0) (by omega) (hp 1 _ _ _ _ _ _ _ _ _ _ _ _ _ _ _ _ _ _ _ _ _ _ _ _ _ _ _ _ ?_))⟩)
          exact zd_mk (U := U + 1) (S := 1) hN (zi_upd hR) hE (zi_begin h hj' hc hU) (zj_begin h hj hj' hc)
        · exact br_f (nI_nlt (by omega) (by omega)) (hp 0 _ _ _ _ _ _ _ _ _ _ _ _ _ _ _ _ _ _ _ _ _ _ _ _ _ _ _ _ J)
      · exact br_f hc (hp 0 _ _ _ _ _ _ _ _ _ _ _ _ _ _ _ _ _ _ _ _ _ _ _ _ _ _ _ _ J)
  · exact br_f (zn_ne1 (by omega)) (hp 0 _ _ _ _ _ _ _ _ _ _ _ _ _ _ _ _ _ _ _ _ _ _ _ _ _ _ _ _ J)
theorem zd_tok {post : Int32 → St2 → Prop} {v1 v2 : Int32} (I : zd_I (e1, e2, e3, e4, e5, e6, e7, e8, e9, b1, b2, b3, b4, b5, b6, b7, b8, b9, b10, b11, b12, b13, b14, b15, b16, b17, b18, b19)) (hp : ∀ (r : Int32) (e1 e2 e3 e4 e5 e6 e7 e8 e9 : Int32) (b1 b2 b3 b4 b5 b6 b7 b8 b9 b10 b11 b12 b13 b14 b15 b16 b17 b18 b19 : Nat → Int32), zd_I (e1, e2, e3, e4, e5, e6, e7, e8, e9, b1, b2, b3, b4, b5, b6, b7, b8, b9, b10, b11, b12, b13, b14, b15, b16, b17, b18, b19) → post r (e1, e2, e3, e4, e5, e6, e7, e8, e9, b1, b2, b3, b4, b5, b6, b7, b8, b9, b10, b11, b12, b13, b14, b15, b16, b17, b18, b19)) : wpX_token post (e1, e2, e3, e4, e5, e6, e7, e8, e9, b1, b2, b3, b4, b5, b6, b7, b8, b9, b10, b11, b12, b13, b14, b15, b16, b17, b18, b19) v1 v2 := by
  obtain ⟨N, C, U, S, op, lv, fn, fi, pl, K, A, Ow, O, P, L, cl, rt, en, ss, so, sp, ww, lw, vi, vv, ps, pv, pt, R, E, hu, hN, hR, hE, h, hj⟩ := I
  rw [hu]
  have J : zd_I ((nI N), (nI C), (nI U), op, (nI S), pl, lv, fn, fi, K, A, Ow, O, P, L, cl, rt, en, ss, so, sp, ww, lw, vi, vv, ps, pv, pt) := zd_mk hN hR hE h hj
  have hb := h.1
  have hS96 := zi_S h
  have ho := h.2.2.2.2.2.2
  by_cases hlo : v1 < 1
  · exact br_t hlo (br_t rfl (hp 0 _ _ _ _ _ _ _ _ _ _ _ _ _ _ _ _ _ _ _ _ _ _ _ _ _ _ _ _ J))
  by_cases hhi : 11 < v1
  · exact br_f hlo (br_t hhi (br_t rfl (hp 0 _ _ _ _ _ _ _ _ _ _ _ _ _ _ _ _ _ _ _ _ _ _ _ _ _ _ _ _ J)))
  rcases ho with ⟨rfl, rfl⟩ | ⟨o, h1, rfl, hco, hop⟩
  · exact br_f hlo (br_f hhi (br_t rfl (br_t rfl (hp 0 _ _ _ _ _ _ _ _ _ _ _ _ _ _ _ _ _ _ _ _ _ _ _ _ _ _ _ _ J))))
  · obtain ⟨q, hq1, hq11, rfl⟩ : ∃ q : Nat, 1 ≤ q ∧ q ≤ 11 ∧ v1 = nI q := by
      have hlo' := zn_nlt hlo
      have hhi' := zn_nlt hhi
      have h0 : ¬ v1 < 0 := Int32.not_lt.mpr (Int32.le_trans (by decide) hlo')
      obtain ⟨j, hj, rfl⟩ := nI_of h0
      have a1 := (nI_leI (a := 1) (by omega) hj).mp hlo'
      have a2 := (nI_leI (b := 11) hj (by omega)).mp hhi'
      exact ⟨j, a1, a2, rfl⟩
    obtain ⟨r1, r2, r3, r4, r5, r6, r7, r8⟩ := hop
    cases est : zs_stk K (R o) (U - R o) with
    | nil => rw [est] at r4; simp at r4; omega
    | cons s t =>
      rw [est] at r4 r6
      obtain rfl : S = t.length + 1 := r4.symm
      have hlen := zs_stk_len K (R o) (U - R o)
      rw [est, List.length_cons] at hlen
      have hs1 := zs_mem r1 (K := K) (d := U - R o) (s := s) (by rw [est]; exact List.mem_cons_self ..)
      have hT : U < C → t.length + 2 ≤ 96 := fun hU => by omega
      have hU9 : U < C → U < 96 := fun hU => by omega
      have hxU : ∀ x, x ∈ t → x.1 ≠ U := fun x hx => by
        have hx1 := zs_mem r1 (K := K) (d := U - R o) (s := x) (by rw [est]; exact List.mem_cons_of_mem _ hx)
        omega
      have hN8 : N ≤ 8 := by omega
      have hC9 : C ≤ 96 := by omega
      have ho8 : o < 8 := by omega
      have hs96 : s.1 < 96 := by omega
      have hUC : ¬ U < C → ¬ nI U < nI C := fun hU => nI_nlt (by omega) (by omega)
      refine zx_tk hq1 hq11 ho8 hN8 hS96 (fun _ => hp 0 _ _ _ _ _ _ _ _ _ _ _ _ _ _ _ _ _ _ _ _ _ _ _ _ _ _ _ _ J) (fun _ _ _ => hp 0 _ _ _ _ _ _ _ _ _ _ _ _ _ _ _ _ _ _ _ _ _ _ _ _ _ _ _ _ J) (fun hs hm => ?_)
      by_cases hU : U < C
      · have ha : q = 11 → ∃ m, m < N ∧ zk_a q v2 = nI m := fun z => by unfold zk_a; rw [if_neg (by rw [z]; decide), if_pos z]; exact hm z
        obtain ⟨j1, j2, j3⟩ := zj_step h hj h1 est hq1 hq11 hs
        refine zx_26 hq11 hU hC9 (zx_62 hq1 hq11 (hU9 hU) ho8 (hT hU) r6.1.1 r6.1.2 hs96 (fun hz => hp 1 _ _ _ _ _ _ _ _ _ _ _ _ _ _ _ _ _ _ _ _ _ _ _ _ _ _ _ _ ?_) (fun hz => hp 1 _ _ _ _ _ _ _ _ _ _ _ _ _ _ _ _ _ _ _ _ _ _ _ _ _ _ _ _ ?_))
        · have hnil : zs_kids (nI q) U ++ t = [] := List.eq_nil_of_length_eq_zero (by rw [zk_len hq1 hq11]; exact hz)
          have H := zi_tok0 (so' := zk_so q t.length (zs_so K O (R o) s) so) (sp' := zk_sp q t.length (nI U) sp) (a := zk_a q v2) h h1 hU est hq1 hq11 ha hnil
          rw [← hz] at H
          refine zd_mk (U := U + 1) (S := t.length + zk_n q) hN hR (zi_upd hE) H ⟨fun m hm' hcm => ?_, fun o' ho' eo => absurd eo.symm (zn_ne1 (by omega))⟩
          by_cases em : m = o
          · rw [em, zi_uns]; exact j2
          · rw [pk_un em] at hcm
            rw [zi_unn em]; exact j1 m hm' hcm
        · have hst := zk_st (K := upd K U (nI q)) (O := upd O U (zs_so K O (R o) s)) (so := so) (sp := sp) (r := R o) (k := q) (c := U) (S := t.length) (o := zs_so K O (R o) s) (t := t) hq1 hq11 r2 pk_us pk_us rfl
            (zs_st_mono t (fun i x hi hx hq => ⟨hq.1, hq.2.trans (zs_so_congr (fun _ => ⟨pk_un (hxU x hx), pk_un (hxU x hx)⟩)).symm⟩) r6.2)
          have H := zi_tok (so' := zk_so q t.length (zs_so K O (R o) s) so) (sp' := zk_sp q t.length (nI U) sp) (a := zk_a q v2) h h1 hU est hq1 hq11 ha (by rw [zk_len hq1 hq11]; exact Nat.pos_of_ne_zero hz) hst
          rw [zk_len hq1 hq11] at H
          refine zd_mk (U := U + 1) (S := t.length + zk_n q) hN hR hE H ⟨fun m hm' hcm => j1 m hm' hcm, fun o' ho' eo => ?_⟩
          have e : o = o' := zn_im eo (Nat.lt_trans ho8 (by decide)) (Nat.lt_trans (Nat.lt_of_lt_of_le ho' hN8) (by decide))
          rw [← e]; exact ⟨j2, j3⟩
      · exact br_f (hUC hU) (hp 0 _ _ _ _ _ _ _ _ _ _ _ _ _ _ _ _ _ _ _ _ _ _ _ _ _ _ _ _ J)
theorem zd_slot {post : Int32 → Prop} (I : zd_I (e1, e2, e3, e4, e5, e6, e7, e8, e9, b1, b2, b3, b4, b5, b6, b7, b8, b9, b10, b11, b12, b13, b14, b15, b16, b17, b18, b19)) (hp : ∀ r : Int32, post r) : wpX_slot post (e1, e2, e3, e4, e5, e6, e7, e8, e9, b1, b2, b3, b4, b5, b6, b7, b8, b9, b10, b11, b12, b13, b14, b15, b16, b17, b18, b19) 0 := by
  obtain ⟨N, C, U, S, op, lv, fn, fi, pl, K, A, Ow, O, P, L, cl, rt, en, ss, so, sp, ww, lw, vi, vv, ps, pv, pt, R, E, hu, hN, hR, hE, h, hj⟩ := I
  rw [hu]
  have hS96 := zi_S h
  refine br_f (by decide) ?_
  by_cases hS : 0 < S
  · refine br_t (nI_lt (a := 0) hS (by omega)) ⟨?_, hp _⟩
    rw [zn_s hS, Int32.sub_zero]
    exact vp_in_nI (by omega) (by omega)
  · exact br_f (nI_nlt (a := 0) (by omega) (by decide)) (hp _)
end Z23
end
section
/-! the law -/
theorem zl_pos {post : Int32 → Prop} {x m : Int32} (hm : ¬ m = 0) (hp : ∀ r : Int32, post r) : wpL_pos post () x m := ⟨hm, fun y _ => br_c (fun _ => hp _) (fun _ => hp _)⟩
theorem zl_cell {post : Int32 → Prop} {L k : Nat} {xs : Nat → Int32} (hL : L ≤ 260) (hk : k ≤ 1000) (hp : ∀ r : Int32, post r) : wpL_cell post L xs () (nI k) := by
  by_cases h : L ≤ k
  · exact br_t (nI_le h (by omega)) (hp _)
  · exact br_f (nI_ge (by omega) (by omega)) ⟨vp_in_nI (by omega) (by omega), hp _⟩
section Z24
variable {N C U S : Nat} {op lv fn fi pl yne ysp yvsp ypn : Int32}
variable {K A Ow O P L cl rt en ss so sp ds ww lw vi vv ps pv pt yef yet yew yb ynb yv yx ysv ysi yvs ymo ymv yip ypN ypI : Nat → Int32}
variable {R E : Nat → Nat}
variable {e1 e2 e3 e4 e5 e6 e7 e8 e9 : Int32} {b1 b2 b3 b4 b5 b6 b7 b8 b9 b10 b11 b12 b13 b14 b15 b16 b17 b18 b19 : Nat → Int32}
variable {L' : Nat → Int32}
theorem zl_135 {post : Int32 → Prop} {L : Nat} {xs : Nat → Int32} {J55 : Int32 → Int32 → Int32 → Int32 → Int32 → Int32 → Int32 → Int32 → Int32 → Int32 → Int32 → (Nat → Int32) → (Nat → Int32) → (Nat → Int32) → (Nat → Int32) → (Nat → Int32) → (Nat → Int32) → (Nat → Int32) → (Nat → Int32) → (Nat → Int32) → (Nat → Int32) → (Nat → Int32) → (Nat → Int32) → (Nat → Int32) → (Nat → Int32) → (Nat → Int32) → (Nat → Int32) → (Nat → Int32) → (Nat → Int32) → (Nat → Int32) → Prop} {J93 : Int32 → Int32 → Int32 → Int32 → Int32 → Int32 → Int32 → Int32 → Int32 → Int32 → Int32 → Int32 → Int32 → (Nat → Int32) → (Nat → Int32) → (Nat → Int32) → (Nat → Int32) → (Nat → Int32) → (Nat → Int32) → (Nat → Int32) → (Nat → Int32) → (Nat → Int32) → (Nat → Int32) → (Nat → Int32) → (Nat → Int32) → (Nat → Int32) → (Nat → Int32) → (Nat → Int32) → (Nat → Int32) → (Nat → Int32) → (Nat → Int32) → (Nat → Int32) → Prop} {x3 x4 x5 x6 x8 x9 x11 x12 z0 : Int32} {kc ks t : Nat} (I : zd_I (e1, e2, e3, e4, e5, e6, e7, e8, e9, b1, b2, b3, b4, b5, b6, b7, b8, b9, b10, b11, b12, b13, b14, b15, b16, b17, b18, b19))
    (hK : ∀ (x8 x9 : Int32) (e1 e2 e3 e4 e5 e6 e7 e8 e9 : Int32) (b1 b2 b3 b4 b5 b6 b7 b8 b9 b10 b11 b12 b13 b14 b15 b16 b17 b18 b19 : Nat → Int32), zd_I (e1, e2, e3, e4, e5, e6, e7, e8, e9, b1, b2, b3, b4, b5, b6, b7, b8, b9, b10, b11, b12, b13, b14, b15, b16, b17, b18, b19) → J93 x5 x8 x9 (nI (t + 1)) e1 e2 e3 e4 e5 e6 e7 e8 e9 b1 b2 b3 b4 b5 b6 b7 b8 b9 b10 b11 b12 b13 b14 b15 b16 b17 b18 b19) : wL_law_135 post L xs J55 J93 x3 x4 x5 x6 x8 x9 (nI t) x11 x12 z0 kc ks e1 e2 e3 e4 e5 e6 e7 e8 e9 b1 b2 b3 b4 b5 b6 b7 b8 b9 b10 b11 b12 b13 b14 b15 b16 b17 b18 b19 := by
  have k1 : ∀ (x8 x9 : Int32) (e1 e2 e3 e4 e5 e6 e7 e8 e9 : Int32) (b1 b2 b3 b4 b5 b6 b7 b8 b9 b10 b11 b12 b13 b14 b15 b16 b17 b18 b19 : Nat → Int32), zd_I (e1, e2, e3, e4, e5, e6, e7, e8, e9, b1, b2, b3, b4, b5, b6, b7, b8, b9, b10, b11, b12, b13, b14, b15, b16, b17, b18, b19) → ∀ y, y = nI t + 1 → J93 x5 x8 x9 y e1 e2 e3 e4 e5 e6 e7 e8 e9 b1 b2 b3 b4 b5 b6 b7 b8 b9 b10 b11 b12 b13 b14 b15 b16 b17 b18 b19 := fun x8 x9 e1 e2 e3 e4 e5 e6 e7 e8 e9 b1 b2 b3 b4 b5 b6 b7 b8 b9 b10 b11 b12 b13 b14 b15 b16 b17 b18 b19 I' => nm_r (nI_1 t) (hK x8 x9 e1 e2 e3 e4 e5 e6 e7 e8 e9 b1 b2 b3 b4 b5 b6 b7 b8 b9 b10 b11 b12 b13 b14 b15 b16 b17 b18 b19 I')
  have k2 : ∀ (x8 x9 : Int32) (e1 e2 e3 e4 e5 e6 e7 e8 e9 : Int32) (b1 b2 b3 b4 b5 b6 b7 b8 b9 b10 b11 b12 b13 b14 b15 b16 b17 b18 b19 : Nat → Int32), zd_I (e1, e2, e3, e4, e5, e6, e7, e8, e9, b1, b2, b3, b4, b5, b6, b7, b8, b9, b10, b11, b12, b13, b14, b15, b16, b17, b18, b19) → ∀ x, x = x8 + (-1) → ∀ y, y = nI t + 1 → J93 x5 x x9 y e1 e2 e3 e4 e5 e6 e7 e8 e9 b1 b2 b3 b4 b5 b6 b7 b8 b9 b10 b11 b12 b13 b14 b15 b16 b17 b18 b19 := fun x8 x9 e1 e2 e3 e4 e5 e6 e7 e8 e9 b1 b2 b3 b4 b5 b6 b7 b8 b9 b10 b11 b12 b13 b14 b15 b16 b17 b18 b19 I' x _ => k1 x x9 e1 e2 e3 e4 e5 e6 e7 e8 e9 b1 b2 b3 b4 b5 b6 b7 b8 b9 b10 b11 b12 b13 b14 b15 b16 b17 b18 b19 I'
  have a163 : wL_law_163 post L xs J55 J93 x3 x4 x5 x6 x8 x9 (nI t) x11 kc ks e1 e2 e3 e4 e5 e6 e7 e8 e9 b1 b2 b3 b4 b5 b6 b7 b8 b9 b10 b11 b12 b13 b14 b15 b16 b17 b18 b19 := zl_pos (by decide) (fun r => zd_tok I (fun _ e1 e2 e3 e4 e5 e6 e7 e8 e9 b1 b2 b3 b4 b5 b6 b7 b8 b9 b10 b11 b12 b13 b14 b15 b16 b17 b18 b19 I' => k1 x8 x9 e1 e2 e3 e4 e5 e6 e7 e8 e9 b1 b2 b3 b4 b5 b6 b7 b8 b9 b10 b11 b12 b13 b14 b15 b16 b17 b18 b19 I'))
  have a211 : ∀ x14 : Int32, wL_law_211 post L xs J55 J93 x3 x4 x5 x6 x8 x9 (nI t) x14 kc ks e1 e2 e3 e4 e5 e6 e7 e8 e9 b1 b2 b3 b4 b5 b6 b7 b8 b9 b10 b11 b12 b13 b14 b15 b16 b17 b18 b19 := fun x14 => zl_pos (by decide) (fun r => zd_tok I (fun _ e1 e2 e3 e4 e5 e6 e7 e8 e9 b1 b2 b3 b4 b5 b6 b7 b8 b9 b10 b11 b12 b13 b14 b15 b16 b17 b18 b19 I' => k2 x8 x9 e1 e2 e3 e4 e5 e6 e7 e8 e9 b1 b2 b3 b4 b5 b6 b7 b8 b9 b10 b11 b12 b13 b14 b15 b16 b17 b18 b19 I'))
  have a251 : wL_law_251 post L xs J55 J93 x3 x4 x5 x6 x8 x9 (nI t) x11 kc ks e1 e2 e3 e4 e5 e6 e7 e8 e9 b1 b2 b3 b4 b5 b6 b7 b8 b9 b10 b11 b12 b13 b14 b15 b16 b17 b18 b19 := zl_pos (by decide) (fun r => zd_tok I (fun _ e1 e2 e3 e4 e5 e6 e7 e8 e9 b1 b2 b3 b4 b5 b6 b7 b8 b9 b10 b11 b12 b13 b14 b15 b16 b17 b18 b19 I' => k1 x8 x9 e1 e2 e3 e4 e5 e6 e7 e8 e9 b1 b2 b3 b4 b5 b6 b7 b8 b9 b10 b11 b12 b13 b14 b15 b16 b17 b18 b19 I'))
  have a309 : ∀ y : Int32, wL_law_309 post L xs J55 J93 x3 x4 x5 x6 x8 x9 (nI t) y kc ks e1 e2 e3 e4 e5 e6 e7 e8 e9 b1 b2 b3 b4 b5 b6 b7 b8 b9 b10 b11 b12 b13 b14 b15 b16 b17 b18 b19 := fun y => zd_tok I (fun _ e1 e2 e3 e4 e5 e6 e7 e8 e9 b1 b2 b3 b4 b5 b6 b7 b8 b9 b10 b11 b12 b13 b14 b15 b16 b17 b18 b19 I' => k2 x8 x9 e1 e2 e3 e4 e5 e6 e7 e8 e9 b1 b2 b3 b4 b5 b6 b7 b8 b9 b10 b11 b12 b13 b14 b15 b16 b17 b18 b19 I')
  refine br_c (fun _ => zl_pos (by decide) (fun r => br_c (fun _ => a163) (fun _ => br_c (fun _ => br_c (fun _ => br_c (fun _ => zd_tok I (fun _ e1 e2 e3 e4 e5 e6 e7 e8 e9 b1 b2 b3 b4 b5 b6 b7 b8 b9 b10 b11 b12 b13 b14 b15 b16 b17 b18 b19 I' => k2 x8 1 e1 e2 e3 e4 e5 e6 e7 e8 e9 b1 b2 b3 b4 b5 b6 b7 b8 b9 b10 b11 b12 b13 b14 b15 b16 b17 b18 b19 I')) (fun _ => a211 r)) (fun _ => a211 r)) (fun _ => a163))))
    (fun _ => zl_pos (by decide) (fun r => br_c (fun _ => a251) (fun _ => br_c (fun _ => br_c (fun _ => br_c (fun _ => br_c (fun _ => zl_pos (by decide) (fun _ => zd_tok I (fun _ e1 e2 e3 e4 e5 e6 e7 e8 e9 b1 b2 b3 b4 b5 b6 b7 b8 b9 b10 b11 b12 b13 b14 b15 b16 b17 b18 b19 I' => k2 x8 1 e1 e2 e3 e4 e5 e6 e7 e8 e9 b1 b2 b3 b4 b5 b6 b7 b8 b9 b10 b11 b12 b13 b14 b15 b16 b17 b18 b19 I'))) (fun _ => zd_tok I (fun _ e1 e2 e3 e4 e5 e6 e7 e8 e9 b1 b2 b3 b4 b5 b6 b7 b8 b9 b10 b11 b12 b13 b14 b15 b16 b17 b18 b19 I' => k2 x8 x9 e1 e2 e3 e4 e5 e6 e7 e8 e9 b1 b2 b3 b4 b5 b6 b7 b8 b9 b10 b11 b12 b13 b14 b15 b16 b17 b18 b19 I'))) (fun _ => br_c (fun _ => a309 7) (fun _ => a309 6))) (fun _ => zd_tok I (fun _ e1 e2 e3 e4 e5 e6 e7 e8 e9 b1 b2 b3 b4 b5 b6 b7 b8 b9 b10 b11 b12 b13 b14 b15 b16 b17 b18 b19 I' => k2 x8 x9 e1 e2 e3 e4 e5 e6 e7 e8 e9 b1 b2 b3 b4 b5 b6 b7 b8 b9 b10 b11 b12 b13 b14 b15 b16 b17 b18 b19 I'))) (fun _ => a251))))
theorem zl_93 {post : Int32 → Prop} {L : Nat} {xs : Nat → Int32} {J55 : Int32 → Int32 → Int32 → Int32 → Int32 → Int32 → Int32 → Int32 → Int32 → Int32 → Int32 → (Nat → Int32) → (Nat → Int32) → (Nat → Int32) → (Nat → Int32) → (Nat → Int32) → (Nat → Int32) → (Nat → Int32) → (Nat → Int32) → (Nat → Int32) → (Nat → Int32) → (Nat → Int32) → (Nat → Int32) → (Nat → Int32) → (Nat → Int32) → (Nat → Int32) → (Nat → Int32) → (Nat → Int32) → (Nat → Int32) → (Nat → Int32) → Prop} {x3 x4 : Int32} {x6 kc ks B : Nat} (hL : L ≤ 260) (hB : B ≤ 500) (hJ : ∀ (k : Nat) (e1 e2 e3 e4 e5 e6 e7 e8 e9 : Int32) (b1 b2 b3 b4 b5 b6 b7 b8 b9 b10 b11 b12 b13 b14 b15 b16 b17 b18 b19 : Nat → Int32), k ≤ B + 40 → zd_I (e1, e2, e3, e4, e5, e6, e7, e8, e9, b1, b2, b3, b4, b5, b6, b7, b8, b9, b10, b11, b12, b13, b14, b15, b16, b17, b18, b19) → J55 (nI k) (nI (x6 + 1)) e1 e2 e3 e4 e5 e6 e7 e8 e9 b1 b2 b3 b4 b5 b6 b7 b8 b9 b10 b11 b12 b13 b14 b15 b16 b17 b18 b19) :
    ∀ d t k (x8 x9 : Int32) (e1 e2 e3 e4 e5 e6 e7 e8 e9 : Int32) (b1 b2 b3 b4 b5 b6 b7 b8 b9 b10 b11 b12 b13 b14 b15 b16 b17 b18 b19 : Nat → Int32), t + d = 40 → k ≤ B + t → zd_I (e1, e2, e3, e4, e5, e6, e7, e8, e9, b1, b2, b3, b4, b5, b6, b7, b8, b9, b10, b11, b12, b13, b14, b15, b16, b17, b18, b19) → wL_law_93 post L xs J55 x3 x4 (nI x6) kc ks (d + 1) (nI k) x8 x9 (nI t) e1 e2 e3 e4 e5 e6 e7 e8 e9 b1 b2 b3 b4 b5 b6 b7 b8 b9 b10 b11 b12 b13 b14 b15 b16 b17 b18 b19 := by
  intro d
  induction d with
  | zero =>
    intro t k x8 x9 e1 e2 e3 e4 e5 e6 e7 e8 e9 b1 b2 b3 b4 b5 b6 b7 b8 b9 b10 b11 b12 b13 b14 b15 b16 b17 b18 b19 ht hk I
    exact br_t (nI_le (a := 40) (by omega) (by omega)) (nm_r (nI_1 x6) (hJ k e1 e2 e3 e4 e5 e6 e7 e8 e9 b1 b2 b3 b4 b5 b6 b7 b8 b9 b10 b11 b12 b13 b14 b15 b16 b17 b18 b19 (by omega) I))
  | succ d ih =>
    intro t k x8 x9 e1 e2 e3 e4 e5 e6 e7 e8 e9 b1 b2 b3 b4 b5 b6 b7 b8 b9 b10 b11 b12 b13 b14 b15 b16 b17 b18 b19 ht hk I
    refine br_f (nI_ge (b := 40) (by omega) (by decide)) (br_c (fun _ => nm_r (nI_1 x6) (hJ k e1 e2 e3 e4 e5 e6 e7 e8 e9 b1 b2 b3 b4 b5 b6 b7 b8 b9 b10 b11 b12 b13 b14 b15 b16 b17 b18 b19 (by omega) I)) (fun _ => zl_cell hL (by omega) (fun r => nm_r (nI_1 k) (zd_slot I (fun r2 => br_c (fun _ => ?_) (fun _ => ?_))))))
    · exact zl_135 I (fun x8 x9 e1 e2 e3 e4 e5 e6 e7 e8 e9 b1 b2 b3 b4 b5 b6 b7 b8 b9 b10 b11 b12 b13 b14 b15 b16 b17 b18 b19 I' => ih (t + 1) (k + 1) x8 x9 e1 e2 e3 e4 e5 e6 e7 e8 e9 b1 b2 b3 b4 b5 b6 b7 b8 b9 b10 b11 b12 b13 b14 b15 b16 b17 b18 b19 (by omega) (by omega) I')
    · exact zl_135 I (fun x8 x9 e1 e2 e3 e4 e5 e6 e7 e8 e9 b1 b2 b3 b4 b5 b6 b7 b8 b9 b10 b11 b12 b13 b14 b15 b16 b17 b18 b19 I' => ih (t + 1) (k + 1) x8 x9 e1 e2 e3 e4 e5 e6 e7 e8 e9 b1 b2 b3 b4 b5 b6 b7 b8 b9 b10 b11 b12 b13 b14 b15 b16 b17 b18 b19 (by omega) (by omega) I')
theorem zl_444 {post : Int32 → Prop} {L : Nat} {xs : Nat → Int32} {J427 : Int32 → Int32 → Int32 → Int32 → Int32 → Int32 → Int32 → Int32 → Int32 → Int32 → (Nat → Int32) → (Nat → Int32) → (Nat → Int32) → (Nat → Int32) → (Nat → Int32) → (Nat → Int32) → (Nat → Int32) → (Nat → Int32) → (Nat → Int32) → (Nat → Int32) → (Nat → Int32) → (Nat → Int32) → (Nat → Int32) → (Nat → Int32) → (Nat → Int32) → (Nat → Int32) → (Nat → Int32) → (Nat → Int32) → (Nat → Int32) → Prop} {x6 x8 : Int32} {x kc ks : Nat} (hR : ∀ n, rt n = nI (R n)) (hE : ∀ n, en n = nI (E n)) (h : zi_inv N C U S op K A P O L' Ow cl so sp R E) (hj : zj_inv N U op K ss cl R E) (hop : op = -1) (hU0 : U ≠ 0) (hc0 : ∀ c, c < U → K c = 11 → ¬ cl (A c).toNatClampNeg = 0)
    (hnt : ¬ x6 = 0 → ∀ c, c < U → K c ≠ 7) (hneg : ∀ l, 1 ≤ l → ∀ a w, a < N → zw_k (zw_E K A O Ow cl U) l a a w → w < 0) (hx : x < N) (hx8 : cl x = 0 → x8 = 0)
    (hJ : ∀ (lv fn fi pl : Int32) (vi vv ps pv pt : Nat → Int32), J427 (nI (x + 1)) (nI N) (nI C) (nI U) op (nI S) pl lv fn fi K A Ow O P L' cl rt en ss so sp ww lw vi vv ps pv pt) :
    ∀ d i (lv fn fi pl : Int32) (vi vv ps pv pt : Nat → Int32), i + d = 6 → wL_law_444 post L xs J427 x6 (nI x) x8 kc ks (d + 1) (nI i) (nI N) (nI C) (nI U) op (nI S) pl lv fn fi K A Ow O P L' cl rt en ss so sp ww lw vi vv ps pv pt := by
  have hb := h.1
  intro d
  induction d with
  | zero => intro i lv fn fi pl vi vv ps pv pt hi; exact br_t (nI_le (a := 6) (by omega) (by omega)) (nm_r (nI_1 x) (hJ _ _ _ _ _ _ _ _ _))
  | succ d ih =>
    intro i lv fn fi pl vi vv ps pv pt hi
    refine br_f (nI_ge (b := 6) (by omega) (by decide)) (zd_eval (nt := ¬ x6 = 0) hR hE h hj hop hU0 hc0 hnt hneg hx (by omega) (fun hc => ?_) (fun hc lv pl vi vv ps pv pt => ?_) (fun hc hn lv fn fi pl vi vv ps pv pt => ?_))
    · refine br_f (by decide) ?_
      by_cases h6 : x6 = 0
      · exact br_t h6 (nm_r (nI_1 i) (ih (i + 1) _ _ _ _ _ _ _ _ _ (by omega)))
      · exact br_f h6 (br_t (hx8 hc) (nm_r (nI_1 i) (ih (i + 1) _ _ _ _ _ _ _ _ _ (by omega))))
    · refine br_f (by decide) ?_
      by_cases h6 : x6 = 0
      · exact br_t h6 (nm_r (nI_1 i) (ih (i + 1) _ _ _ _ _ _ _ _ _ (by omega)))
      · refine br_f h6 ?_
        by_cases h8 : x8 = 0
        · exact br_t h8 (nm_r (nI_1 i) (ih (i + 1) _ _ _ _ _ _ _ _ _ (by omega)))
        · exact br_f h8 (br_t rfl (br_t rfl (br_t rfl (nm_r (nI_1 i) (ih (i + 1) _ _ _ _ _ _ _ _ _ (by omega))))))
    · exact br_f (by decide) (br_t (Classical.byContradiction hn) (nm_r (nI_1 i) (ih (i + 1) _ _ _ _ _ _ _ _ _ (by omega))))
theorem zl_427 {post : Int32 → Prop} {L : Nat} {xs : Nat → Int32} {x6 : Int32} {kc ks : Nat} (hN : N = 2) (hR : ∀ n, rt n = nI (R n)) (hE : ∀ n, en n = nI (E n)) (h : zi_inv N C U S op K A P O L' Ow cl so sp R E) (hj : zj_inv N U op K ss cl R E) (hop : op = -1) (hU0 : U ≠ 0) (hc0 : ∀ c, c < U → K c = 11 → ¬ cl (A c).toNatClampNeg = 0)
    (hnt : ¬ x6 = 0 → ∀ c, c < U → K c ≠ 7) (hneg : ∀ l, 1 ≤ l → ∀ a w, a < N → zw_k (zw_E K A O Ow cl U) l a a w → w < 0) (hp : post 1) :
    ∀ d x (lv fn fi pl : Int32) (vi vv ps pv pt : Nat → Int32), x + d = 2 → wL_law_427 post L xs x6 kc ks (d + 1) (nI x) (nI N) (nI C) (nI U) op (nI S) pl lv fn fi K A Ow O P L' cl rt en ss so sp ww lw vi vv ps pv pt := by
  have hb := h.1
  intro d
  induction d with
  | zero => intro x lv fn fi pl vi vv ps pv pt hi; exact br_t (nI_le (a := 2) (by omega) (by omega)) hp
  | succ d ih =>
    intro x lv fn fi pl vi vv ps pv pt hi
    have hx : x < N := by omega
    have ex : (nI x).toNatClampNeg = x := nI_clamp (by omega)
    refine br_f (nI_ge (b := 2) (by omega) (by decide)) ?_
    unfold wpX_defined
    refine zx_nm1 hx (by omega) (br_f zn_10 ⟨vp_in_nI (by omega) (by omega), ?_⟩)
    rcases h.2.1 x with hc | hc
    · exact br_t (by rw [ex]; exact hc) ⟨_, zl_444 hR hE h hj hop hU0 hc0 hnt hneg hx (fun _ => rfl) (fun lv fn fi pl vi vv ps pv pt => ih (x + 1) lv fn fi pl vi vv ps pv pt (by omega)) 6 0 _ _ _ _ _ _ _ _ _ (by omega)⟩
    · exact br_f (by rw [ex, hc]; decide) ⟨_, zl_444 hR hE h hj hop hU0 hc0 hnt hneg hx (fun z => by rw [z] at hc; exact absurd hc (by decide)) (fun lv fn fi pl vi vv ps pv pt => ih (x + 1) lv fn fi pl vi vv ps pv pt (by omega)) 6 0 _ _ _ _ _ _ _ _ _ (by omega)⟩
theorem zl_387 {post : Int32 → Prop} {L : Nat} {xs : Nat → Int32} {kc ks : Nat} (hN : N = 2) (hR : ∀ n, rt n = nI (R n)) (hE : ∀ n, en n = nI (E n)) (h : zi_inv N C U S op K A P O L' Ow cl so sp R E) (hj : zj_inv N U op K ss cl R E) (hop : op = -1) (hU0 : U ≠ 0) (hc0 : ∀ c, c < U → K c = 11 → ¬ cl (A c).toNatClampNeg = 0)
    (hneg : ∀ l, 1 ≤ l → ∀ a w, a < N → zw_k (zw_E K A O Ow cl U) l a a w → w < 0) (hp : post 1) :
    ∀ d q (x6 : Int32), q + d = U → (¬ x6 = 0 → ∀ c, c < q → K c ≠ 7) → wL_law_387 post L xs kc ks (nI N) (nI C) (nI U) op (nI S) pl lv fn fi K A Ow O P L' cl rt en ss so sp ww lw vi vv ps pv pt (d + 1) x6 (nI q) := by
  have hb := h.1
  intro d
  induction d with
  | zero =>
    intro q x6 hq h7
    exact br_t (nI_le (by omega) (by omega)) ⟨_, zl_427 (x6 := x6) hN hR hE h hj hop hU0 hc0 (fun z c hc => h7 z c (by omega)) hneg hp 2 0 _ _ _ _ _ _ _ _ _ (by omega)⟩
  | succ d ih =>
    intro q x6 hq h7
    have e : (nI q).toNatClampNeg = q := nI_clamp (by omega)
    refine br_f (nI_ge (by omega) (by omega)) (br_f (nI_ge (b := 200) (by omega) (by decide)) ?_)
    unfold wpX_cellKind wpX_isCell
    refine br_f (nI_pos (by omega)) (br_f (nI_ge (by omega) (by omega)) (br_f zn_10 ⟨vp_in_nI (by omega) (by omega), ?_⟩))
    by_cases hk : K (nI q).toNatClampNeg = 7
    · exact br_t hk (nm_r (nI_1 q) (ih (q + 1) 0 (by omega) (fun z => absurd rfl z)))
    · refine br_f hk (nm_r (nI_1 q) (ih (q + 1) x6 (by omega) (fun z c hc => ?_)))
      rw [e] at hk
      by_cases ec : c = q
      · rw [ec]; exact hk
      · exact h7 z c (by omega)
theorem zl_55 {post : Int32 → Prop} {L : Nat} {xs : Nat → Int32} {x3 x4 : Int32} {kc ks : Nat} (hL : L ≤ 260) (hp : post 1) :
    ∀ d x k (e1 e2 e3 e4 e5 e6 e7 e8 e9 : Int32) (b1 b2 b3 b4 b5 b6 b7 b8 b9 b10 b11 b12 b13 b14 b15 b16 b17 b18 b19 : Nat → Int32), x + d = 2 → k ≤ 1 + 40 * x → zd_I (e1, e2, e3, e4, e5, e6, e7, e8, e9, b1, b2, b3, b4, b5, b6, b7, b8, b9, b10, b11, b12, b13, b14, b15, b16, b17, b18, b19) → wL_law_55 post L xs x3 x4 kc ks (d + 1) (nI k) (nI x) e1 e2 e3 e4 e5 e6 e7 e8 e9 b1 b2 b3 b4 b5 b6 b7 b8 b9 b10 b11 b12 b13 b14 b15 b16 b17 b18 b19 := by
  intro d
  induction d with
  | zero =>
    intro x k e1 e2 e3 e4 e5 e6 e7 e8 e9 b1 b2 b3 b4 b5 b6 b7 b8 b9 b10 b11 b12 b13 b14 b15 b16 b17 b18 b19 hx hk I
    refine br_t (nI_le (a := 2) (by omega) (by omega)) ?_
    obtain ⟨N, C, U, S, op, lv, fn, fi, pl, K, A, Ow, O, P, L', cl, rt, en, ss, so, sp, ww, lw, vi, vv, ps, pv, pt, R, E, hu, hN, hR, hE, h, hj⟩ := I
    rw [hu]
    refine zd_verdict h (fun r ww' lw' hr => br_f hr hp) (fun hop hU0 hc0 hg ww' lw' => br_t rfl ⟨_, zl_387 hN hR hE h hj hop hU0 hc0 ?_ hp U 0 1 (by omega) (fun _ c hc => absurd hc (Nat.not_lt_zero c))⟩)
    have hb := h.1
    have href := zi_ref h
    have hA := h.2.2.2.2.1
    have hE' : ∀ x y w, zw_E K A O Ow cl U x y w → x < N ∧ y < N := by
      intro x y w ⟨c, c1, c2, c3, c4, c5, c6, c7, c8⟩
      obtain ⟨n, n1, n2, _⟩ := h.2.2.2.2.2.1 c c1
      obtain ⟨m, m1, m2⟩ := hA c c1 c2
      rw [n2] at c3
      rw [m2] at c5
      have q1 := zn_im c3 (by omega) (by omega)
      have q2 := zn_im c5 (by omega) (by omega)
      exact ⟨by omega, by omega⟩
    have hO : ∀ c, c < U → K c = 11 → cl (Ow c).toNatClampNeg = 1 → (Ow c).toNatClampNeg < N ∧ zg_bd 96 (O c) := by
      intro c z1 z2 z3
      obtain ⟨n, w1, w2, _, _, _, w6⟩ := href c z1 z2 z3
      exact ⟨by rw [w2, nI_clamp (by omega)]; exact w1, w6⟩
    subst hN
    intro l hl a w ha hw
    refine zw_neg hE' (fun l a w h1 h2 ha hw => ?_) l l (Nat.le_refl _) hl a w ha hw
    obtain ⟨_, s2, s3⟩ := zw_seq (by omega) hO hE' ha l a w (by omega) hw
    have hcla : cl a = 1 := by
      obtain ⟨l', rfl⟩ : ∃ l', l = 1 + l' := ⟨l - 1, by omega⟩
      obtain ⟨s1, w1, _, ⟨s0, _, _, ⟨g1, _⟩, ⟨c, c1, c2, c3, c4, _⟩, _⟩, _, _⟩ := zw_split (m := 1) l' a a w hw
      rw [g1]; exact c4
    have g1 := hg a ha hcla
    have g2 := zw_g (K := K) (A := A) (O := O) (Ow := Ow) (cl := cl) (U := U) (a := a) (b := a) 2 l h1 h2
    have g3 := Int32.lt_of_le_of_lt g2 g1
    have g4 := Int32.lt_iff_toInt_lt.mp g3
    rw [show (0 : Int32).toInt = 0 by decide] at g4
    omega
  | succ d ih =>
    intro x k e1 e2 e3 e4 e5 e6 e7 e8 e9 b1 b2 b3 b4 b5 b6 b7 b8 b9 b10 b11 b12 b13 b14 b15 b16 b17 b18 b19 hx hk I
    have go : ∀ z0 : Int32, wL_law_75 post L xs (wL_law_55 post L xs x3 x4 kc ks (d + 1)) x3 x4 (nI k) (nI x) z0 kc ks e1 e2 e3 e4 e5 e6 e7 e8 e9 b1 b2 b3 b4 b5 b6 b7 b8 b9 b10 b11 b12 b13 b14 b15 b16 b17 b18 b19 := fun z0 =>
      zd_beg I (fun _ e1 e2 e3 e4 e5 e6 e7 e8 e9 b1 b2 b3 b4 b5 b6 b7 b8 b9 b10 b11 b12 b13 b14 b15 b16 b17 b18 b19 I' => ⟨_, zl_93 hL (B := k) (by omega) (fun k' e1 e2 e3 e4 e5 e6 e7 e8 e9 b1 b2 b3 b4 b5 b6 b7 b8 b9 b10 b11 b12 b13 b14 b15 b16 b17 b18 b19 hk' I'' => ih (x + 1) k' e1 e2 e3 e4 e5 e6 e7 e8 e9 b1 b2 b3 b4 b5 b6 b7 b8 b9 b10 b11 b12 b13 b14 b15 b16 b17 b18 b19 (by omega) (by omega) I'') 40 0 k 4 0 e1 e2 e3 e4 e5 e6 e7 e8 e9 b1 b2 b3 b4 b5 b6 b7 b8 b9 b10 b11 b12 b13 b14 b15 b16 b17 b18 b19 (by omega) (by omega) I'⟩)
    exact br_f (nI_ge (b := 2) (by omega) (by decide)) (br_c (fun _ => go _) (fun _ => go _))
theorem i_vc (xs : Nat → Int32) (L : Nat) (hL : L ≤ 260) : wpL_law (fun r => r = 1) L xs := by
  have I0 : zd_I ((2 : Int32), (96 : Int32), (0 : Int32), (-1 : Int32), (0 : Int32), (0 : Int32), (0 : Int32), (-1 : Int32), (-1 : Int32), (fun _ => 0), (fun _ => 0), (fun _ => 0), (fun _ => 0), (fun _ => 0), (fun _ => 0), (fun _ => 0), (fun _ => 0), (fun _ => 0), (fun _ => 0), (fun _ => 0), (fun _ => 0), (fun _ => 0), (fun _ => 0), (fun _ => 0), (fun _ => 0), (fun _ => 0), (fun _ => 0), (fun _ => 0)) :=
    zd_mk (N := 2) (C := 96) (U := 0) (S := 0) (R := fun _ => 0) (E := fun _ => 0) rfl (fun _ => rfl) (fun _ => rfl) (zi_init (by decide)) ⟨fun n _ hc => absurd (show (0 : Int32) = 1 from hc) (by decide), fun o ho eo => absurd eo.symm (zn_ne1 (by omega))⟩
  refine ⟨19, 1864, by decide, by decide, ?_⟩
  refine ⟨by decide, by decide, by decide, by decide, by decide, by decide, by decide, by decide, by decide, by decide, by decide, by decide, by decide, by decide, by decide, by decide, by decide, by decide, by decide, by decide, by decide, by decide, by decide, by decide, by decide, by decide, by decide, by decide, by decide, by decide, by decide, by decide, by decide, by decide, by decide, by decide, by decide, by decide, br_t (by decide) (br_t (by decide) (br_t (by decide) (br_t (by decide) ?_)))⟩
  refine zl_cell (k := 0) hL (by decide) (fun r => zl_pos (by decide) (fun r2 => br_c (fun _ => ?_) (fun _ => ?_)))
  · exact zl_pos (by decide) (fun r3 => br_c (fun _ => ⟨_, zl_55 (post := fun r => r = 1) hL rfl 2 0 1 _ _ _ _ _ _ _ _ _ _ _ _ _ _ _ _ _ _ _ _ _ _ _ _ _ _ _ _ (by decide) (by decide) I0⟩) (fun _ => ⟨_, zl_55 (post := fun r => r = 1) hL rfl 2 0 1 _ _ _ _ _ _ _ _ _ _ _ _ _ _ _ _ _ _ _ _ _ _ _ _ _ _ _ _ (by decide) (by decide) I0⟩))
  · exact zl_pos (by decide) (fun r3 => br_c (fun _ => ⟨_, zl_55 (post := fun r => r = 1) hL rfl 2 0 1 _ _ _ _ _ _ _ _ _ _ _ _ _ _ _ _ _ _ _ _ _ _ _ _ _ _ _ _ (by decide) (by decide) I0⟩) (fun _ => ⟨_, zl_55 (post := fun r => r = 1) hL rfl 2 0 1 _ _ _ _ _ _ _ _ _ _ _ _ _ _ _ _ _ _ _ _ _ _ _ _ _ _ _ _ (by decide) (by decide) I0⟩))
end Z24
end
