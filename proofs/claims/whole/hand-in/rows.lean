section
/-! numbers; the pk_ rows are of the kit's rows to paste -/
theorem pk_us {f : Nat → Int32} {k : Nat} {x : Int32} : upd f k x k = x := if_pos rfl
theorem pk_un {f : Nat → Int32} {k j : Nat} {x : Int32} (h : j ≠ k) : upd f k x j = f j := if_neg h
theorem pk_sub {a b : Nat} (h : b ≤ a) : nI a - nI b = nI (a - b) := by
  obtain ⟨c, rfl⟩ : ∃ c, a = c + b := ⟨a - b, by omega⟩
  rw [← nI_add, Int32.add_sub_cancel, Nat.add_sub_cancel]
theorem pk_m1 (n : Nat) : nI (n + 1) + (-1) = nI n := by
  rw [← nI_1, Int32.add_assoc, show (1 : Int32) + (-1) = 0 from rfl, Int32.add_zero]
theorem pk_mul (a b : Nat) : nI a * nI b = nI (a * b) := (Int32.ofNat_mul a b).symm
theorem pk_div {a d : Nat} (ha : a < 2 ^ 31) (h0 : 0 < d) (hd : d < 2 ^ 31) : nI a / nI d = nI (a / d) := by
  apply Int32.toInt_inj.mp
  rw [lg_idiv_nonneg (by rw [nI_toInt ha]; omega) (by rw [nI_toInt hd]; omega), nI_toInt ha, nI_toInt hd, nI_toInt (Nat.lt_of_le_of_lt (Nat.div_le_self a d) ha)]
  first | rfl | exact (Int.natCast_ediv _ _).symm
theorem pk_rem {a d : Nat} (ha : a < 2 ^ 31) (h0 : 0 < d) (hd : d < 2 ^ 31) : nI a - nI a / nI d * nI d = nI (a % d) := by
  rw [pk_div ha h0 hd, pk_mul, pk_sub (Nat.div_mul_le_self a d)]
  exact congrArg nI (by have := Nat.div_add_mod' a d; omega)
theorem pk_ix (x : Int32) {n : Nat} (hn : n < 2 ^ 31) : x < 0 ∨ nI n ≤ x ∨ ∃ j : Nat, j < n ∧ x = nI j := by
  by_cases h : x < 0
  · exact Or.inl h
  · obtain ⟨j, hj, rfl⟩ := nI_of h
    by_cases h2 : j < n
    · exact Or.inr (Or.inr ⟨j, h2, rfl⟩)
    · exact Or.inr (Or.inl (nI_le (by omega) hj))
theorem pk_le {x y : Int32} {A B : Prop} (a b : Nat) (f : a ≤ b → A) (g : b < a → B) (hx : x = nI a := by rfl) (hy : y = nI b := by rfl) (ha : a < 2 ^ 31 := by omega) (hb : b < 2 ^ 31 := by omega) : (x ≤ y → A) ∧ (¬ x ≤ y → B) := by
  subst hx hy
  rw [nI_leI ha hb]
  exact ⟨f, fun z => g (by omega)⟩
theorem pk_lt {x y : Int32} {A B : Prop} (a b : Nat) (f : a < b → A) (g : b ≤ a → B) (hx : x = nI a := by rfl) (hy : y = nI b := by rfl) (ha : a < 2 ^ 31 := by omega) (hb : b < 2 ^ 31 := by omega) : (x < y → A) ∧ (¬ x < y → B) := by
  subst hx hy
  rw [nI_ltI ha hb]
  exact ⟨f, fun z => g (by omega)⟩
theorem pk_eq {x y : Int32} {A B : Prop} (a b : Nat) (f : a = b → A) (g : a ≠ b → B) (hx : x = nI a := by rfl) (hy : y = nI b := by rfl) (ha : a < 2 ^ 31 := by omega) (hb : b < 2 ^ 31 := by omega) : (x = y → A) ∧ (¬ x = y → B) := by
  subst hx hy
  rw [nI_eq ha hb]
  exact ⟨f, g⟩
theorem pk_in {x : Int32} (n N : Nat) (h : n < N) (hx : x = nI n := by rfl) (hN : N < 2 ^ 31 := by omega) : vp_in x N := by
  subst hx
  exact vp_in_nI h hN
theorem pk_cl {x : Int32} (n : Nat) (hx : x = nI n := by rfl) (h : n < 2 ^ 31 := by omega) : x.toNatClampNeg = n := by
  subst hx
  exact nI_clamp h
theorem pk_loop {σ : Type} (W : Nat → Nat → σ → Prop) (I : Nat → σ → Prop) (e i0 : Nat) (s : σ) (hi : i0 ≤ e) (h0 : I i0 s) (hx : ∀ n s, I e s → W (n + 1) e s)
    (hs : ∀ n i s, i < e → I i s → (∀ s', I (i + 1) s' → W n (i + 1) s') → W (n + 1) i s) : ∃ n, W n i0 s :=
  ⟨e + 1, loop_i W I e hx hs (e + 1) i0 s hi (by omega) h0⟩
theorem pk_loopD {σ : Type} (W : Nat → Nat → σ → Prop) (I : Nat → σ → Prop) (hx : ∀ n s, I 0 s → W (n + 1) 0 s)
    (hs : ∀ n i s, I (i + 1) s → (∀ s', I i s' → W n i s') → W (n + 1) (i + 1) s) : ∀ (e : Nat) (s : σ), I e s → W (e + 1) e s := by
  intro e
  induction e with
  | zero => exact fun s h => hx 0 s h
  | succ e ih => exact fun s h => hs (e + 1) e s h (fun s' h' => ih s' h')
theorem pk_least (P : Nat → Prop) (h : ∃ k, P k) : ∃ k, P k ∧ ∀ j, j < k → ¬ P j := by
  obtain ⟨k, hk⟩ := h
  induction k using Nat.strongRecOn with
  | ind k ih =>
    by_cases e : ∃ j, j < k ∧ P j
    · obtain ⟨j, hj, pj⟩ := e
      exact ih j hj pj
    · exact ⟨k, hk, fun j hj pj => e ⟨j, hj, pj⟩⟩
theorem pk_sub_toInt {a b : Nat} (ha : a < 2 ^ 30) (hb : b < 2 ^ 30) : (nI a - nI b).toInt = (a : Int) - b := by
  rw [Int32.toInt_sub, nI_toInt (by omega), nI_toInt (by omega)]
  exact Int.bmod_eq_of_le (by omega) (by omega)
theorem pk_sneg {a b : Nat} (hb : b < 2 ^ 30) (h : a < b) : nI a - nI b < 0 := by
  rw [Int32.lt_iff_toInt_lt, pk_sub_toInt (by omega) hb, show (0 : Int32).toInt = 0 from by decide]
  omega
theorem zn_ne1 {a : Nat} (h : a < 2 ^ 31) : ¬ nI a = -1 := by
  intro e
  have h2 := nI_pos (n := a) h
  rw [e] at h2
  exact h2 (by decide)
theorem zn_im {a b : Nat} (h : nI a = nI b) (ha : a < 2 ^ 31) (hb : b < 2 ^ 31) : a = b := (nI_eq ha hb).mp h
theorem zn_s {n : Nat} (h : 0 < n) : nI n - 1 = nI (n - 1) := by
  obtain ⟨m, rfl⟩ : ∃ m, n = m + 1 := ⟨n - 1, by omega⟩
  exact nI_pred m
theorem zn_m {n : Nat} (h : 0 < n) : nI n + (-1) = nI (n - 1) := by
  obtain ⟨m, rfl⟩ : ∃ m, n = m + 1 := ⟨n - 1, by omega⟩
  exact pk_m1 m
theorem zn_eq0 {a : Nat} (h : a < 2 ^ 31) : nI a = 0 ↔ a = 0 := by
  rw [← nI_0, nI_eq h (by omega)]
theorem zn_n1 : ¬ (0 : Int32) ≤ -1 := by decide
theorem zn_n1' : (-1 : Int32) < 0 := by decide
theorem zn_10 : ¬ (1 : Int32) = 0 := by decide
theorem zn_nlt {a b : Int32} (h : ¬ a < b) : b ≤ a := Int32.not_lt.mp h
theorem zn_nle {a b : Int32} (h : ¬ a ≤ b) : b < a := Int32.not_le.mp h
theorem zn_lt0 {a : Nat} (h : a < 2 ^ 31) : ¬ nI a < 0 := nI_pos h
theorem zn_cl0 : (0 : Int32).toNatClampNeg = 0 := by decide
theorem zn_if {α : Sort _} {c : Prop} [Decidable c] {a b x : α} (h : c) (e : a = x) : (if c then a else b) = x := by rw [if_pos h]; exact e
theorem zn_el {α : Sort _} {c : Prop} [Decidable c] {a b x : α} (h : ¬ c) (e : b = x) : (if c then a else b) = x := by rw [if_neg h]; exact e
end
section
/-! the pending slots as a list: what a walk through the cells of a definition, in prefix order, keeps on its stack -/
def zs_kids (k : Int32) (c : Nat) : List (Nat × Bool) :=
  if k = 1 ∨ k = 11 then [] else if k = 2 ∨ k = 7 then [(c, true)] else [(c, true), (c, false)]
def zs_stk (K : Nat → Int32) (r : Nat) : Nat → List (Nat × Bool)
  | 0 => [(r - 1, true)]
  | d + 1 => zs_kids (K (r + d)) (r + d) ++ (zs_stk K r d).tail
theorem zs_stk_s (K : Nat → Int32) (r d : Nat) : zs_stk K r (d + 1) = zs_kids (K (r + d)) (r + d) ++ (zs_stk K r d).tail := rfl
theorem zs_kids_c (k : Int32) (c : Nat) : zs_kids k c = [] ∨ zs_kids k c = [(c, true)] ∨ zs_kids k c = [(c, true), (c, false)] := by
  unfold zs_kids
  split
  · exact Or.inl rfl
  · split
    · exact Or.inr (Or.inl rfl)
    · exact Or.inr (Or.inr rfl)
theorem zs_kids_len (k : Int32) (c : Nat) : (zs_kids k c).length ≤ 2 := by
  rcases zs_kids_c k c with h | h | h <;> rw [h] <;> simp
theorem zs_kids_mem {k : Int32} {c : Nat} {s : Nat × Bool} (h : s ∈ zs_kids k c) : s.1 = c := by
  rcases zs_kids_c k c with e | e | e <;> rw [e] at h
  · exact absurd h (by simp)
  · rw [List.mem_singleton] at h; rw [h]
  · rcases List.mem_cons.mp h with h | h
    · rw [h]
    · rw [List.mem_singleton] at h; rw [h]
def zs_ok (r c : Nat) : List (Nat × Bool) → Prop
  | [] => True
  | h :: t => ((h.2 = true ∧ h.1 + 1 = c) ∨ (h.2 = false ∧ r ≤ h.1 ∧ h.1 + 1 < c ∧ ∀ s, s ∈ t → s.1 < h.1)) ∧
      (∀ s, s ∈ t → s.2 = false ∧ r ≤ s.1 ∧ s.1 < c) ∧ t.Pairwise (fun a b => b.1 < a.1)
theorem zs_ok_kids {r c : Nat} {k : Int32} {t : List (Nat × Bool)} (hc : r ≤ c) (h1 : ∀ s, s ∈ t → s.2 = false ∧ r ≤ s.1 ∧ s.1 < c)
    (h2 : t.Pairwise (fun a b => b.1 < a.1)) : zs_ok r (c + 1) (zs_kids k c ++ t) := by
  rcases zs_kids_c k c with e | e | e <;> rw [e]
  · rw [List.nil_append]
    cases t with
    | nil => trivial
    | cons a t =>
      rw [List.pairwise_cons] at h2
      have ha := h1 a (List.mem_cons_self ..)
      refine ⟨Or.inr ⟨ha.1, ha.2.1, by omega, h2.1⟩, fun s hs => ?_, h2.2⟩
      have hs' := h1 s (List.mem_cons_of_mem _ hs)
      exact ⟨hs'.1, hs'.2.1, by omega⟩
  · refine ⟨Or.inl ⟨rfl, rfl⟩, fun s hs => ?_, h2⟩
    have hs' := h1 s hs
    exact ⟨hs'.1, hs'.2.1, by omega⟩
  · refine ⟨Or.inl ⟨rfl, rfl⟩, fun s hs => ?_, List.pairwise_cons.mpr ⟨fun s hs => (h1 s hs).2.2, h2⟩⟩
    rcases List.mem_cons.mp hs with hs | hs
    · rw [hs]; exact ⟨rfl, hc, Nat.lt_succ_self c⟩
    · have hs' := h1 s hs
      exact ⟨hs'.1, hs'.2.1, by omega⟩
theorem zs_stk_ok (K : Nat → Int32) {r : Nat} (hr : 1 ≤ r) : ∀ d, zs_ok r (r + d) (zs_stk K r d) := by
  intro d
  induction d with
  | zero => exact ⟨Or.inl ⟨rfl, by show r - 1 + 1 = r + 0; omega⟩, fun s hs => absurd hs (by simp), List.Pairwise.nil⟩
  | succ d ih =>
    rw [zs_stk_s]
    cases e : zs_stk K r d with
    | nil => exact zs_ok_kids (Nat.le_add_right r d) (fun s hs => absurd hs (by simp)) List.Pairwise.nil
    | cons h t => rw [e] at ih; exact zs_ok_kids (Nat.le_add_right r d) ih.2.1 ih.2.2
theorem zs_stk_len (K : Nat → Int32) (r : Nat) : ∀ d, (zs_stk K r d).length ≤ d + 1 := by
  intro d
  induction d with
  | zero => exact Nat.le_refl _
  | succ d ih =>
    rw [zs_stk_s, List.length_append, List.length_tail]
    have := zs_kids_len (K (r + d)) (r + d)
    omega
theorem zs_stk_congr {K K' : Nat → Int32} {r : Nat} : ∀ d, (∀ c, r ≤ c → c < r + d → K' c = K c) → zs_stk K' r d = zs_stk K r d := by
  intro d
  induction d with
  | zero => intro _; rfl
  | succ d ih =>
    intro h
    rw [zs_stk_s, zs_stk_s, ih (fun c h1 h2 => h c h1 (by omega)), h (r + d) (by omega) (by omega)]
theorem zs_tl {K : Nat → Int32} {r d : Nat} {s : Nat × Bool} {t : List (Nat × Bool)} (e : zs_stk K r d = s :: t) : zs_stk K r (d + 1) = zs_kids (K (r + d)) (r + d) ++ t := by
  rw [zs_stk_s, e]; rfl
/-- where the head of the stack points -/
theorem zs_hd {K : Nat → Int32} {r d : Nat} {s : Nat × Bool} {t : List (Nat × Bool)} (hr : 1 ≤ r) (e : zs_stk K r d = s :: t) :
    (s.2 = true ∧ s.1 + 1 = r + d) ∨ (s.2 = false ∧ r ≤ s.1 ∧ s.1 + 1 < r + d) := by
  have h := zs_stk_ok K hr d
  rw [e] at h
  rcases h.1 with h | h
  · exact Or.inl h
  · exact Or.inr ⟨h.1, h.2.1, h.2.2.1⟩
theorem zs_mem {K : Nat → Int32} {r d : Nat} {s : Nat × Bool} (hr : 1 ≤ r) (h : s ∈ zs_stk K r d) : s.1 < r + d := by
  have ho := zs_stk_ok K hr d
  cases e : zs_stk K r d with
  | nil => rw [e] at h; exact absurd h (by simp)
  | cons a t =>
    rw [e] at h ho
    rcases List.mem_cons.mp h with h | h
    · rw [h]; rcases ho.1 with h | h <;> omega
    · exact (ho.2.1 s h).2.2
theorem zs_pop {K : Nat → Int32} {r : Nat} : ∀ m i s, s ∈ zs_stk K r i → zs_stk K r (i + m) = [] → ∃ j t, i ≤ j ∧ j < i + m ∧ zs_stk K r j = s :: t := by
  intro m
  induction m with
  | zero => intro i s h e; rw [Nat.add_zero] at e; rw [e] at h; exact absurd h (by simp)
  | succ m ih =>
    intro i s h e
    cases e2 : zs_stk K r i with
    | nil => rw [e2] at h; exact absurd h (by simp)
    | cons a t =>
      rw [e2] at h
      rcases List.mem_cons.mp h with h | h
      · exact ⟨i, t, Nat.le_refl _, by omega, by rw [h]; exact e2⟩
      · obtain ⟨j, t', h1, h2, h3⟩ := ih (i + 1) s (by rw [zs_tl e2]; exact List.mem_append_right _ h) (by rw [← e]; congr 1; omega)
        exact ⟨j, t', by omega, by omega, h3⟩
theorem zs_dead {K : Nat → Int32} {r i : Nat} {s : Nat × Bool} {t : List (Nat × Bool)} (hr : 1 ≤ r) (e : zs_stk K r i = s :: t) (hs : s.2 = false) :
    ∀ m s', s' ∈ zs_stk K r (i + 1 + m) → s'.1 ≠ s.1 := by
  have h := zs_stk_ok K hr i
  rw [e] at h
  have h1 : s.1 + 1 < r + i ∧ ∀ s', s' ∈ t → s'.1 < s.1 := by
    rcases h.1 with h | h
    · rw [hs] at h; exact absurd h.1 (by decide)
    · exact ⟨h.2.2.1, h.2.2.2⟩
  intro m
  induction m with
  | zero =>
    intro s' h'
    rw [Nat.add_zero, zs_tl e] at h'
    rcases List.mem_append.mp h' with h' | h'
    · rw [zs_kids_mem h']; omega
    · have := h1.2 s' h'; omega
  | succ m ih =>
    intro s' h'
    have e' : i + 1 + (m + 1) = (i + 1 + m) + 1 := by omega
    rw [e', zs_stk_s] at h'
    rcases List.mem_append.mp h' with h' | h'
    · rw [zs_kids_mem h']; omega
    · exact ih s' (List.mem_of_mem_tail h')
/-! an array that holds a stack: the slot above t lies at t's length -/
def zs_st (Q : Nat → Nat × Bool → Prop) : List (Nat × Bool) → Prop
  | [] => True
  | s :: t => Q t.length s ∧ zs_st Q t
theorem zs_st_mono {Q Q' : Nat → Nat × Bool → Prop} : ∀ l : List (Nat × Bool), (∀ i s, i < l.length → s ∈ l → Q i s → Q' i s) → zs_st Q l → zs_st Q' l := by
  intro l
  induction l with
  | nil => intro _ _; trivial
  | cons a t ih =>
    intro h hq
    exact ⟨h _ _ (by simp) (List.mem_cons_self ..) hq.1, ih (fun i s h1 h2 => h i s (by rw [List.length_cons]; omega) (List.mem_cons_of_mem _ h2)) hq.2⟩
def zs_at (a : Nat → Int32) : List Int32 → Prop
  | [] => True
  | x :: t => a t.length = x ∧ zs_at a t
theorem zs_at_upd {a : Nat → Int32} {k : Nat} {x : Int32} : ∀ l : List Int32, l.length ≤ k → zs_at a l → zs_at (upd a k x) l := by
  intro l
  induction l with
  | nil => intro _ _; trivial
  | cons y t ih =>
    intro h hq
    rw [List.length_cons] at h
    exact ⟨by rw [pk_un (by omega)]; exact hq.1, ih (by omega) hq.2⟩
theorem zs_at_push {a : Nat → Int32} {x : Int32} {l : List Int32} (h : zs_at a l) : zs_at (upd a l.length x) (x :: l) := ⟨pk_us, zs_at_upd l (Nat.le_refl _) h⟩
/-! what a slot asks of the cell that fills it -/
def zs_so (K O : Nat → Int32) (r : Nat) (s : Nat × Bool) : Int32 :=
  if s.1 < r then 0 else if K s.1 = 7 then O s.1 + 1 else if K s.1 = 6 ∧ s.2 = false then O s.1 - 1 else O s.1
theorem zs_so_congr {K K' O O' : Nat → Int32} {r : Nat} {s : Nat × Bool} (h : r ≤ s.1 → K' s.1 = K s.1 ∧ O' s.1 = O s.1) : zs_so K' O' r s = zs_so K O r s := by
  unfold zs_so
  by_cases hs : s.1 < r
  · rw [if_pos hs, if_pos hs]
  · obtain ⟨h1, h2⟩ := h (by omega)
    rw [if_neg hs, if_neg hs, h1, h2]
def zs_cell (K P O L : Nat → Int32) (r i : Nat) : Prop :=
  ∃ s t, zs_stk K r i = s :: t ∧ P (r + i) = nI s.1 ∧ O (r + i) = zs_so K O r s ∧ (s.2 = false → L s.1 = nI (r + i)) ∧ ∃ k, 1 ≤ k ∧ k ≤ 11 ∧ K (r + i) = nI k
def zs_def (K P O L : Nat → Int32) (r n : Nat) : Prop := ∀ i, i < n → zs_cell K P O L r i
theorem zs_def_congr {K P O L K' P' O' L' : Nat → Int32} {r n : Nat} (hr : 1 ≤ r) (h : ∀ c, r - 1 ≤ c → c < r + n → K' c = K c ∧ P' c = P c ∧ O' c = O c ∧ L' c = L c)
    (hd : zs_def K P O L r n) : zs_def K' P' O' L' r n := by
  intro i hi
  obtain ⟨s, t, e, h1, h2, h3, k, hk⟩ := hd i hi
  have hh := zs_hd hr e
  have hc := h (r + i) (by omega) (by omega)
  have hs := h s.1 (by omega) (by omega)
  refine ⟨s, t, ?_, ?_, ?_, ?_, k, hk.1, hk.2.1, ?_⟩
  · rw [← e]; exact zs_stk_congr i (fun c a b => (h c (by omega) (by omega)).1)
  · rw [hc.2.1]; exact h1
  · rw [hc.2.2.1, h2]; exact (zs_so_congr (fun _ => ⟨hs.1, hs.2.2.1⟩)).symm
  · intro hb; rw [hs.2.2.2]; exact h3 hb
  · rw [hc.1]; exact hk.2.2
/-- a token fills the slot at the head -/
theorem zs_def_step {K P O L : Nat → Int32} {r d k : Nat} {s : Nat × Bool} {t : List (Nat × Bool)} (hr : 1 ≤ r) (hk1 : 1 ≤ k) (hk : k ≤ 11) (e : zs_stk K r d = s :: t) (hd : zs_def K P O L r d) :
    zs_def (upd K (r + d) (nI k)) (upd P (r + d) (nI s.1)) (upd O (r + d) (zs_so K O r s)) (upd L s.1 (nI (r + d))) r (d + 1) := by
  intro i hi
  have hh := zs_hd hr e
  by_cases hid : i < d
  · obtain ⟨s1, t1, e1, h1, h2, h3, k1, hk1⟩ := hd i hid
    have hh1 := zs_hd hr e1
    refine ⟨s1, t1, ?_, ?_, ?_, ?_, k1, hk1.1, hk1.2.1, ?_⟩
    · rw [← e1]; exact zs_stk_congr i (fun c a b => pk_un (by omega))
    · rw [pk_un (by omega)]; exact h1
    · rw [pk_un (by omega), h2]; exact (zs_so_congr (fun _ => ⟨pk_un (by omega), pk_un (by omega)⟩)).symm
    · intro hb
      have hne := zs_dead hr e1 hb (d - (i + 1)) s (by rw [show i + 1 + (d - (i + 1)) = d by omega, e]; exact List.mem_cons_self ..)
      rw [pk_un (fun z => hne z.symm)]; exact h3 hb
    · rw [pk_un (by omega)]; exact hk1.2.2
  · obtain rfl : i = d := by omega
    refine ⟨s, t, ?_, pk_us, ?_, fun _ => pk_us, k, hk1, hk, pk_us⟩
    · rw [← e]; exact zs_stk_congr i (fun c a b => pk_un (by omega))
    · rw [pk_us]; exact (zs_so_congr (fun _ => ⟨pk_un (by omega), pk_un (by omega)⟩)).symm
theorem zs_stk_step {K : Nat → Int32} {r d : Nat} {k : Int32} {s : Nat × Bool} {t : List (Nat × Bool)} (e : zs_stk K r d = s :: t) :
    zs_stk (upd K (r + d) k) r (d + 1) = zs_kids k (r + d) ++ t := by
  have e' : zs_stk (upd K (r + d) k) r d = s :: t := by rw [← e]; exact zs_stk_congr d (fun c a b => pk_un (by omega))
  rw [zs_tl e', pk_us]
/-- offsets stay small -/
theorem zs_off {K P O L : Nat → Int32} {r n : Nat} (hr : 1 ≤ r) (hn : n ≤ 96) (hd : zs_def K P O L r n) : ∀ m i, i < m → i < n → -(i : Int) ≤ (O (r + i)).toInt ∧ (O (r + i)).toInt ≤ i := by
  intro m
  induction m with
  | zero => intro i h; omega
  | succ m ih =>
    intro i him hi
    obtain ⟨s, t, e, h1, h2, h3, k, hk⟩ := hd i hi
    have hh := zs_hd hr e
    rw [h2]
    unfold zs_so
    by_cases hs : s.1 < r
    · rw [if_pos hs, show (0 : Int32).toInt = 0 by decide]; omega
    · rw [if_neg hs]
      obtain ⟨j, hj⟩ : ∃ j, s.1 = r + j := ⟨s.1 - r, by omega⟩
      have hb := ih j (by omega) (by omega)
      rw [← hj] at hb
      have hp : (O s.1 + 1).toInt = (O s.1).toInt + 1 := by
        rw [Int32.toInt_add, show (1 : Int32).toInt = 1 by decide]; exact Int.bmod_eq_of_le (by omega) (by omega)
      have hm : (O s.1 - 1).toInt = (O s.1).toInt - 1 := by
        rw [Int32.toInt_sub, show (1 : Int32).toInt = 1 by decide]; exact Int.bmod_eq_of_le (by omega) (by omega)
      split
      · rw [hp]; omega
      · split
        · rw [hm]; omega
        · omega
end
section
/-! which cells a walk visits, and at which index; -1: not visited -/
def zs_sv (K V : Nat → Int32) (r : Nat) (j : Int32) (s : Nat × Bool) : Int32 :=
  if s.1 < r then j else if V s.1 = -1 then -1 else if K s.1 = 2 then 0 else if K s.1 = 7 then V s.1 + 1 else
  if K s.1 = 6 then (if s.2 = true then (if V s.1 = 0 then 0 else -1) else (if V s.1 = 0 then -1 else V s.1 - 1)) else V s.1
theorem zs_sv_congr {K V V' : Nat → Int32} {r : Nat} {j : Int32} {s : Nat × Bool} (h : r ≤ s.1 → V' s.1 = V s.1) : zs_sv K V' r j s = zs_sv K V r j s := by
  unfold zs_sv
  by_cases hs : s.1 < r
  · rw [if_pos hs, if_pos hs]
  · rw [if_neg hs, if_neg hs, h (by omega)]
def zs_vis (K V : Nat → Int32) (r : Nat) (j : Int32) (n : Nat) : Prop := ∀ i, i < n → ∀ s t, zs_stk K r i = s :: t → V (r + i) = zs_sv K V r j s
theorem zs_vis_step {K V : Nat → Int32} {r : Nat} {j : Int32} {n : Nat} {s : Nat × Bool} {t : List (Nat × Bool)} (hr : 1 ≤ r) (e : zs_stk K r n = s :: t) (h : zs_vis K V r j n) :
    zs_vis K (upd V (r + n) (zs_sv K V r j s)) r j (n + 1) := by
  intro i hi s1 t1 e1
  have h1 := zs_hd hr e1
  rw [zs_sv_congr (V := V) (fun _ => pk_un (by omega))]
  by_cases hin : i < n
  · rw [pk_un (by omega)]; exact h i hin s1 t1 e1
  · obtain rfl : i = n := by omega
    rw [e] at e1
    rw [pk_us, (List.cons.inj e1).1]
def zs_rg (M : Nat) (x : Int32) : Prop := x = -1 ∨ ∃ m : Nat, m ≤ M ∧ x = nI m
theorem zs_sv_rg {K V : Nat → Int32} {r M : Nat} {j : Int32} {s : Nat × Bool} (hM : M < 2 ^ 30) (hj : zs_rg M j) (h : r ≤ s.1 → zs_rg M (V s.1)) : zs_rg (M + 1) (zs_sv K V r j s) := by
  have up : ∀ x, zs_rg M x → zs_rg (M + 1) x := by
    intro x hx
    rcases hx with hx | ⟨m, h1, h2⟩
    · exact Or.inl hx
    · exact Or.inr ⟨m, by omega, h2⟩
  have z : zs_rg (M + 1) 0 := Or.inr ⟨0, by omega, rfl⟩
  unfold zs_sv
  by_cases hs : s.1 < r
  · rw [if_pos hs]; exact up _ hj
  · rw [if_neg hs]
    have hv := h (by omega)
    by_cases h1 : V s.1 = -1
    · rw [if_pos h1]; exact Or.inl rfl
    · rw [if_neg h1]
      obtain ⟨m, hm, em⟩ := hv.resolve_left h1
      by_cases h2 : K s.1 = 2
      · rw [if_pos h2]; exact z
      · rw [if_neg h2]
        by_cases h7 : K s.1 = 7
        · rw [if_pos h7, em, nI_1]; exact Or.inr ⟨m + 1, by omega, rfl⟩
        · rw [if_neg h7]
          by_cases h6 : K s.1 = 6
          · rw [if_pos h6]
            by_cases hb : s.2 = true
            · rw [if_pos hb]; split
              · exact z
              · exact Or.inl rfl
            · rw [if_neg hb]
              by_cases h0 : V s.1 = 0
              · rw [if_pos h0]; exact Or.inl rfl
              · rw [if_neg h0, em]
                have hm0 : 0 < m := by
                  rcases Nat.eq_zero_or_pos m with hz | hz
                  · rw [hz] at em; exact absurd em h0
                  · exact hz
                rw [zn_s hm0]; exact Or.inr ⟨m - 1, by omega, rfl⟩
          · rw [if_neg h6]; exact up _ hv
theorem zs_vis_rg {K V : Nat → Int32} {r j n : Nat} (hr : 1 ≤ r) (hn : n ≤ 96) (hj : j < 32) (hne : ∀ i, i < n → ∃ s t, zs_stk K r i = s :: t) (h : zs_vis K V r (nI j) n) :
    ∀ m i, i < m → i < n → zs_rg (32 + i) (V (r + i)) := by
  intro m
  induction m with
  | zero => intro i h; omega
  | succ m ih =>
    intro i him hi
    obtain ⟨s, t, e⟩ := hne i hi
    have hh := zs_hd hr e
    rw [h i hi s t e]
    rcases Nat.eq_zero_or_pos i with hz | hz
    · subst hz
      have hs : s.1 < r := by omega
      unfold zs_sv
      rw [if_pos hs]; exact Or.inr ⟨j, by omega, rfl⟩
    · have h2 : zs_rg (32 + (i - 1) + 1) (zs_sv K V r (nI j) s) := by
        refine zs_sv_rg (by omega) (Or.inr ⟨j, by omega, rfl⟩) (fun hs => ?_)
        obtain ⟨q, hq⟩ : ∃ q, s.1 = r + q := ⟨s.1 - r, by omega⟩
        rw [hq]
        rcases ih q (by omega) (by omega) with h | ⟨m', h1, h2⟩
        · exact Or.inl h
        · exact Or.inr ⟨m', by omega, h2⟩
      rw [show 32 + i = 32 + (i - 1) + 1 by omega]; exact h2
/-! the first cell of which D holds, or -1 -/
def zs_first (D : Nat → Prop) (lo hi : Nat) (x : Int32) : Prop :=
  (x = -1 ∧ ∀ c, lo ≤ c → c < hi → ¬ D c) ∨ (∃ c, lo ≤ c ∧ c < hi ∧ D c ∧ (∀ c', lo ≤ c' → c' < c → ¬ D c') ∧ x = nI c)
/-! values, from the last cell to the first -/
def zs_val (K A V L PV VV : Nat → Int32) (c : Nat) : Int32 :=
  if K c = 1 then A c else if K c = 11 then PV (A c * 32 + V c).toNatClampNeg else if K c = 2 ∨ K c = 7 then VV (c + 1) else
  if K c = 6 then (if V c = 0 then VV (c + 1) else VV (L c).toNatClampNeg) else
  if K c = 3 ∨ K c = 8 then VV (c + 1) + VV (L c).toNatClampNeg else
  if K c = 4 ∨ K c = 9 then VV (c + 1) - VV (L c).toNatClampNeg else VV (c + 1) * VV (L c).toNatClampNeg
def zs_vals (K A V L PV VV : Nat → Int32) (lo hi : Nat) : Prop := ∀ c, lo ≤ c → c < hi → V c ≠ -1 → VV c = zs_val K A V L PV VV c
theorem zs_val_congr {K A V L PV VV VV' : Nat → Int32} {c : Nat} (h1 : ¬ (K c = 1 ∨ K c = 11) → VV' (c + 1) = VV (c + 1))
    (h2 : ¬ (K c = 1 ∨ K c = 11) → ¬ (K c = 2 ∨ K c = 7) → VV' (L c).toNatClampNeg = VV (L c).toNatClampNeg) : zs_val K A V L PV VV' c = zs_val K A V L PV VV c := by
  unfold zs_val
  by_cases a1 : K c = 1
  · rw [if_pos a1, if_pos a1]
  · by_cases a2 : K c = 11
    · rw [if_neg a1, if_neg a1, if_pos a2, if_pos a2]
    · have hn : ¬ (K c = 1 ∨ K c = 11) := fun z => z.elim a1 a2
      by_cases a3 : K c = 2 ∨ K c = 7
      · rw [if_neg a1, if_neg a1, if_neg a2, if_neg a2, if_pos a3, if_pos a3, h1 hn]
      · rw [if_neg a1, if_neg a1, if_neg a2, if_neg a2, if_neg a3, if_neg a3, h1 hn, h2 hn a3]
/-- the cell that fills a slot -/
def zs_ch (L : Nat → Int32) (s : Nat × Bool) : Nat := if s.2 = true then s.1 + 1 else (L s.1).toNatClampNeg
theorem zs_ch_hd {K P O L : Nat → Int32} {r n i : Nat} {s : Nat × Bool} {t : List (Nat × Bool)} (hr : 1 ≤ r) (hn : r + n ≤ 96) (hd : zs_def K P O L r n) (hi : i < n) (e : zs_stk K r i = s :: t) : zs_ch L s = r + i := by
  have hh := zs_hd hr e
  obtain ⟨s1, t1, e1, _, _, h3, _⟩ := hd i hi
  rw [e] at e1
  have es := (List.cons.inj e1).1
  subst es
  unfold zs_ch
  rcases hh with ⟨hb, hh⟩ | ⟨hb, hh⟩
  · rw [if_pos hb]; exact hh
  · rw [if_neg (by rw [hb]; decide), h3 hb, nI_clamp (by omega)]
/-- where the children of a cell lie -/
theorem zs_kid1 {K P O L : Nat → Int32} {r n i : Nat} (hd : zs_def K P O L r n) (hi : i < n) (he : zs_stk K r n = []) (hk : ¬ (K (r + i) = 1 ∨ K (r + i) = 11)) : i + 1 < n := by
  obtain ⟨s, t, e, _⟩ := hd i hi
  by_cases h : i + 1 < n
  · exact h
  · obtain rfl : n = i + 1 := by omega
    rw [zs_tl e] at he
    unfold zs_kids at he
    rw [if_neg hk] at he
    split at he <;> exact absurd he (by simp)
theorem zs_kid2 {K P O L : Nat → Int32} {r n i : Nat} (hd : zs_def K P O L r n) (hi : i < n) (he : zs_stk K r n = []) (hk : ¬ (K (r + i) = 1 ∨ K (r + i) = 11)) (hk2 : ¬ (K (r + i) = 2 ∨ K (r + i) = 7)) :
    ∃ q, i < q ∧ q < n ∧ L (r + i) = nI (r + q) := by
  obtain ⟨s, t, e, _⟩ := hd i hi
  have hm : (r + i, false) ∈ zs_stk K r (i + 1) := by
    rw [zs_tl e]; unfold zs_kids; rw [if_neg hk, if_neg hk2]; simp
  obtain ⟨q, t', h1, h2, h3⟩ := zs_pop (n - (i + 1)) (i + 1) _ hm (by rw [show i + 1 + (n - (i + 1)) = n by omega]; exact he)
  obtain ⟨s1, t1, e1, _, _, h5, _⟩ := hd q (by omega)
  rw [h3] at e1
  have es := (List.cons.inj e1).1
  subst es
  exact ⟨q, by omega, by omega, h5 rfl⟩
/-! the reference's stack of values while it goes back -/
def zs_vl (sv : Nat × Bool → Int32) (VV L : Nat → Int32) : List (Nat × Bool) → List Int32
  | [] => []
  | s :: t => if sv s = -1 then zs_vl sv VV L t else VV (zs_ch L s) :: zs_vl sv VV L t
theorem zs_vl_t {sv : Nat × Bool → Int32} {VV L : Nat → Int32} {s : Nat × Bool} {t : List (Nat × Bool)} (h : sv s ≠ -1) : zs_vl sv VV L (s :: t) = VV (zs_ch L s) :: zs_vl sv VV L t := if_neg h
theorem zs_vl_f {sv : Nat × Bool → Int32} {VV L : Nat → Int32} {s : Nat × Bool} {t : List (Nat × Bool)} (h : sv s = -1) : zs_vl sv VV L (s :: t) = zs_vl sv VV L t := if_pos h
theorem zs_vl_len {sv : Nat × Bool → Int32} {VV L : Nat → Int32} : ∀ l : List (Nat × Bool), (zs_vl sv VV L l).length ≤ l.length := by
  intro l
  induction l with
  | nil => exact Nat.le_refl _
  | cons a t ih =>
    by_cases h : sv a = -1
    · rw [zs_vl_f h, List.length_cons]; omega
    · rw [zs_vl_t h, List.length_cons, List.length_cons]; omega
theorem zs_sv_kid {K V : Nat → Int32} {r c : Nat} {j : Int32} {b : Bool} (hc : r ≤ c) (hv : V c = -1) : zs_sv K V r j (c, b) = -1 := by
  unfold zs_sv
  rw [if_neg (by show ¬ c < r; omega), if_pos hv]
theorem zs_vl_un {K V VV L : Nat → Int32} {r i : Nat} {j : Int32} {s : Nat × Bool} {t : List (Nat × Bool)} (e : zs_stk K r i = s :: t) (hv : V (r + i) = zs_sv K V r j s) (h : V (r + i) = -1) :
    zs_vl (zs_sv K V r j) VV L (zs_stk K r (i + 1)) = zs_vl (zs_sv K V r j) VV L (zs_stk K r i) := by
  rw [zs_tl e, e, zs_vl_f (by rw [← hv]; exact h)]
  rcases zs_kids_c (K (r + i)) (r + i) with h1 | h1 | h1 <;> rw [h1]
  · rfl
  · exact zs_vl_f (zs_sv_kid (by omega) h)
  · exact (zs_vl_f (zs_sv_kid (by omega) h)).trans (zs_vl_f (zs_sv_kid (by omega) h))
/-- what the values' stack is behind a visited cell, by its kind -/
theorem zs_vl_vis {K P O A V PV VV L : Nat → Int32} {r n i j : Nat} {s : Nat × Bool} {t : List (Nat × Bool)} (hr : 1 ≤ r) (hn : r + n ≤ 96) (hj : j < 32) (hd : zs_def K P O L r n) (he : zs_stk K r n = [])
    (hi : i < n) (e : zs_stk K r i = s :: t) (hvis : zs_vis K V r (nI j) n) (hvv : zs_vals K A V L PV VV r (r + n)) (h : V (r + i) ≠ -1) :
    ∃ tl, zs_vl (zs_sv K V r (nI j)) VV L (zs_stk K r i) = VV (r + i) :: tl ∧
      ((K (r + i) = 1 ∧ zs_vl (zs_sv K V r (nI j)) VV L (zs_stk K r (i + 1)) = tl ∧ VV (r + i) = A (r + i)) ∨
       (K (r + i) = 11 ∧ zs_vl (zs_sv K V r (nI j)) VV L (zs_stk K r (i + 1)) = tl ∧ VV (r + i) = PV (A (r + i) * 32 + V (r + i)).toNatClampNeg) ∨
       ((K (r + i) = 2 ∨ K (r + i) = 7 ∨ K (r + i) = 6) ∧ zs_vl (zs_sv K V r (nI j)) VV L (zs_stk K r (i + 1)) = VV (r + i) :: tl) ∨
       (∃ a b, zs_vl (zs_sv K V r (nI j)) VV L (zs_stk K r (i + 1)) = a :: b :: tl ∧
         (((K (r + i) = 3 ∨ K (r + i) = 8) ∧ VV (r + i) = a + b) ∨ ((K (r + i) = 4 ∨ K (r + i) = 9) ∧ VV (r + i) = a - b) ∨ ((K (r + i) = 5 ∨ K (r + i) = 10) ∧ VV (r + i) = a * b)))) := by
  have hch := zs_ch_hd hr hn hd hi e
  have hv := hvis i hi s t e
  have hne : ∀ i, i < n → ∃ s t, zs_stk K r i = s :: t := fun i hi => by
    obtain ⟨s, t, e, _⟩ := hd i hi
    exact ⟨s, t, e⟩
  obtain ⟨m, hm, em⟩ := (zs_vis_rg hr (by omega) hj hne hvis (i + 1) i (by omega) hi).resolve_left h
  have hval := hvv (r + i) (by omega) (by omega) h
  have h1 : zs_vl (zs_sv K V r (nI j)) VV L (zs_stk K r i) = VV (r + i) :: zs_vl (zs_sv K V r (nI j)) VV L t := by
    rw [e, zs_vl_t (by rw [← hv]; exact h), hch]
  have hlt : ∀ b : Bool, ¬ (r + i, b).1 < r := fun b => by show ¬ r + i < r; omega
  refine ⟨_, h1, ?_⟩
  rw [zs_tl e]
  obtain ⟨_, _, _, _, _, _, k, hk1, hk2, hk⟩ := hd i hi
  unfold zs_val at hval
  rcases (by omega : k = 1 ∨ k = 11 ∨ k = 2 ∨ k = 7 ∨ k = 6 ∨ k = 3 ∨ k = 8 ∨ k = 4 ∨ k = 9 ∨ k = 5 ∨ k = 10) with rfl | rfl | rfl | rfl | rfl | rfl | rfl | rfl | rfl | rfl | rfl
  · have hk : K (r + i) = 1 := hk
    rw [if_pos hk] at hval
    refine Or.inl ⟨hk, ?_, hval⟩
    unfold zs_kids; rw [if_pos (Or.inl hk)]; rfl
  · have hk : K (r + i) = 11 := hk
    rw [if_neg (by rw [hk]; decide), if_pos hk] at hval
    refine Or.inr (Or.inl ⟨hk, ?_, hval⟩)
    unfold zs_kids; rw [if_pos (Or.inr hk)]; rfl
  · have hk : K (r + i) = 2 := hk
    rw [if_neg (by rw [hk]; decide), if_neg (by rw [hk]; decide), if_pos (Or.inl hk)] at hval
    refine Or.inr (Or.inr (Or.inl ⟨Or.inl hk, ?_⟩))
    unfold zs_kids; rw [if_neg (by rw [hk]; decide), if_pos (Or.inl hk)]
    rw [hval]
    refine zs_vl_t ?_
    unfold zs_sv; rw [if_neg (hlt _), if_neg h, if_pos hk]; decide
  · have hk : K (r + i) = 7 := hk
    rw [if_neg (by rw [hk]; decide), if_neg (by rw [hk]; decide), if_pos (Or.inr hk)] at hval
    refine Or.inr (Or.inr (Or.inl ⟨Or.inr (Or.inl hk), ?_⟩))
    unfold zs_kids; rw [if_neg (by rw [hk]; decide), if_pos (Or.inr hk)]
    rw [hval]
    refine zs_vl_t ?_
    unfold zs_sv; rw [if_neg (hlt _), if_neg h, if_neg (by rw [hk]; decide), if_pos hk]
    show V (r + i) + 1 ≠ -1
    rw [em, nI_1]; exact zn_ne1 (by omega)
  · have hk : K (r + i) = 6 := hk
    rw [if_neg (by rw [hk]; decide), if_neg (by rw [hk]; decide), if_neg (by rw [hk]; decide), if_pos hk] at hval
    refine Or.inr (Or.inr (Or.inl ⟨Or.inr (Or.inr hk), ?_⟩))
    unfold zs_kids; rw [if_neg (by rw [hk]; decide), if_neg (by rw [hk]; decide)]
    by_cases h0 : V (r + i) = 0
    · rw [if_pos h0] at hval
      have s1 : zs_sv K V r (nI j) (r + i, true) ≠ -1 := by
        unfold zs_sv; rw [if_neg (hlt _), if_neg h, if_neg (by rw [hk]; decide), if_neg (by rw [hk]; decide), if_pos hk, if_pos rfl, if_pos h0]; decide
      have s2 : zs_sv K V r (nI j) (r + i, false) = -1 := by
        unfold zs_sv; rw [if_neg (hlt _), if_neg h, if_neg (by rw [hk]; decide), if_neg (by rw [hk]; decide), if_pos hk, if_neg Bool.false_ne_true, if_pos h0]
      show zs_vl _ VV L ((r + i, true) :: (r + i, false) :: t) = _
      rw [zs_vl_t s1, zs_vl_f s2, hval]; rfl
    · rw [if_neg h0] at hval
      have s1 : zs_sv K V r (nI j) (r + i, true) = -1 := by
        unfold zs_sv; rw [if_neg (hlt _), if_neg h, if_neg (by rw [hk]; decide), if_neg (by rw [hk]; decide), if_pos hk, if_pos rfl, if_neg h0]
      have s2 : zs_sv K V r (nI j) (r + i, false) ≠ -1 := by
        unfold zs_sv; rw [if_neg (hlt _), if_neg h, if_neg (by rw [hk]; decide), if_neg (by rw [hk]; decide), if_pos hk, if_neg Bool.false_ne_true, if_neg h0]
        show V (r + i) - 1 ≠ -1
        have hm0 : 0 < m := by
          rcases Nat.eq_zero_or_pos m with hz | hz
          · rw [hz] at em; exact absurd em h0
          · exact hz
        rw [em, zn_s hm0]; exact zn_ne1 (by omega)
      show zs_vl _ VV L ((r + i, true) :: (r + i, false) :: t) = _
      rw [zs_vl_f s1, zs_vl_t s2, hval]; rfl
  all_goals
    refine Or.inr (Or.inr (Or.inr ⟨VV (r + i + 1), VV (L (r + i)).toNatClampNeg, ?_, ?_⟩))
    · unfold zs_kids; rw [if_neg (by rw [hk]; decide), if_neg (by rw [hk]; decide)]
      have sb : ∀ b, zs_sv K V r (nI j) (r + i, b) ≠ -1 := by
        intro b
        unfold zs_sv; rw [if_neg (hlt _), if_neg h, if_neg (by rw [hk]; decide), if_neg (by rw [hk]; decide), if_neg (by rw [hk]; decide)]; exact h
      show zs_vl _ VV L ((r + i, true) :: (r + i, false) :: t) = _
      rw [zs_vl_t (sb _), zs_vl_t (sb _)]; rfl
    · rw [if_neg (by rw [hk]; decide), if_neg (by rw [hk]; decide), if_neg (by rw [hk]; decide), if_neg (by rw [hk]; decide)] at hval
      first
        | (rw [if_pos (by rw [hk]; decide)] at hval; exact Or.inl ⟨by rw [hk]; decide, hval⟩)
        | (rw [if_neg (by rw [hk]; decide), if_pos (by rw [hk]; decide)] at hval; exact Or.inr (Or.inl ⟨by rw [hk]; decide, hval⟩))
        | (rw [if_neg (by rw [hk]; decide), if_neg (by rw [hk]; decide)] at hval; exact Or.inr (Or.inr ⟨by rw [hk]; decide, hval⟩))
end
section
/-! greatest weights: L t is the greatest of the candidates w with E t w, or NONE -/
def zg_mx (E : Nat → Int32 → Prop) (N : Nat) (L : Nat → Int32) : Prop := ∀ t, t < N → (∀ w, E t w → w ≤ L t) ∧ (L t = -1000000 ∨ E t (L t))
theorem zg_mx_un {E : Nat → Int32 → Prop} {N : Nat} {L L' : Nat → Int32} (hE : ∀ t w, t < N → E t w → (-1000000 : Int32) < w) (h : zg_mx E N L) (h' : zg_mx E N L') : ∀ t, t < N → L t = L' t := by
  intro t ht
  obtain ⟨a1, a2⟩ := h t ht
  obtain ⟨b1, b2⟩ := h' t ht
  rcases a2 with a2 | a2
  · rcases b2 with b2 | b2
    · rw [a2, b2]
    · have h1 := a1 _ b2
      have h2 := hE t _ ht b2
      rw [a2] at h1
      exact absurd (Int32.lt_of_lt_of_le h2 h1) (Int32.lt_irrefl)
  · rcases b2 with b2 | b2
    · have h1 := b1 _ a2
      have h2 := hE t _ ht a2
      rw [b2] at h1
      exact absurd (Int32.lt_of_lt_of_le h2 h1) (Int32.lt_irrefl)
    · exact Int32.le_antisymm (b1 _ a2) (a1 _ b2)
theorem zg_mx_iff {E E' : Nat → Int32 → Prop} {N : Nat} {L : Nat → Int32} (hE : ∀ t w, t < N → (E t w ↔ E' t w)) (h : zg_mx E N L) : zg_mx E' N L := by
  intro t ht
  obtain ⟨a1, a2⟩ := h t ht
  exact ⟨fun w hw => a1 w ((hE t w ht).mpr hw), a2.imp id (fun z => (hE t _ ht).mp z)⟩
theorem zg_mx_0 {E : Nat → Int32 → Prop} {N : Nat} {L : Nat → Int32} (hE : ∀ t w, t < N → ¬ E t w) (h : ∀ t, t < N → L t = -1000000) : zg_mx E N L :=
  fun t ht => ⟨fun w hw => absurd hw (hE t w ht), Or.inl (h t ht)⟩
/-- one more candidate, w0 into t0: taken -/
theorem zg_mx_t {E : Nat → Int32 → Prop} {N t0 : Nat} {L : Nat → Int32} {w0 : Int32} (h : zg_mx E N L) (hw : L t0 < w0) : zg_mx (fun t w => E t w ∨ (t = t0 ∧ w = w0)) N (upd L t0 w0) := by
  intro t ht
  obtain ⟨a1, a2⟩ := h t ht
  by_cases e : t = t0
  · subst e
    rw [pk_us]
    refine ⟨fun w hw' => ?_, Or.inr (Or.inr ⟨rfl, rfl⟩)⟩
    rcases hw' with hw' | hw'
    · exact Int32.le_trans (a1 w hw') (Int32.le_of_lt hw)
    · rw [hw'.2]; exact Int32.le_refl _
  · rw [pk_un e]
    refine ⟨fun w hw' => ?_, a2.imp id Or.inl⟩
    rcases hw' with hw' | hw'
    · exact a1 w hw'
    · exact absurd hw'.1 e
/-- .. and not taken -/
theorem zg_mx_n {E : Nat → Int32 → Prop} {N t0 : Nat} {L : Nat → Int32} {w0 : Int32} (h : zg_mx E N L) (hw : ¬ L t0 < w0) : zg_mx (fun t w => E t w ∨ (t = t0 ∧ w = w0)) N L := by
  intro t ht
  obtain ⟨a1, a2⟩ := h t ht
  refine ⟨fun w hw' => ?_, a2.imp id Or.inl⟩
  rcases hw' with hw' | hw'
  · exact a1 w hw'
  · rw [hw'.1, hw'.2]; exact Int32.not_lt.mp hw
/-! bounds of weights -/
def zg_bd (B : Nat) (x : Int32) : Prop := -(B : Int) ≤ x.toInt ∧ x.toInt ≤ B
theorem zg_bd_gt {B : Nat} {x : Int32} (hB : B < 1000000) (h : zg_bd B x) : (-1000000 : Int32) < x := by
  rw [Int32.lt_iff_toInt_lt, show (-1000000 : Int32).toInt = -1000000 by decide]
  have := h.1
  omega
theorem zg_bd_ne {B : Nat} {x : Int32} (hB : B < 1000000) (h : zg_bd B x) : x ≠ -1000000 := by
  intro e
  have := zg_bd_gt hB h
  rw [e] at this
  exact absurd this (by decide)
theorem zg_bd_add {B C : Nat} {x y : Int32} (hB : B + C < 1000000) (h : zg_bd B x) (h' : zg_bd C y) : zg_bd (B + C) (x + y) := by
  have e : (x + y).toInt = x.toInt + y.toInt := by
    rw [Int32.toInt_add]
    have h1 := h.1; have h2 := h.2; have h3 := h'.1; have h4 := h'.2
    exact Int.bmod_eq_of_le (by omega) (by omega)
  unfold zg_bd
  rw [e]
  have h1 := h.1; have h2 := h.2; have h3 := h'.1; have h4 := h'.2
  omega
/-! counting -/
def zg_cn (p : Nat → Bool) : Nat → Nat
  | 0 => 0
  | n + 1 => zg_cn p n + (if p n = true then 1 else 0)
theorem zg_cn_le (p : Nat → Bool) : ∀ n, zg_cn p n ≤ n := by
  intro n
  induction n with
  | zero => exact Nat.le_refl _
  | succ n ih => show zg_cn p n + (if p n = true then 1 else 0) ≤ n + 1; split <;> omega
theorem zg_cn_add {p q : Nat → Bool} {a b : Nat} (h : ∀ c, p c = true → q c = true) (hq : ∀ c, a ≤ c → c < b → q c = true ∧ p c = false) : ∀ n, b ≤ n → a ≤ b → zg_cn p n + (b - a) ≤ zg_cn q n := by
  have main : ∀ n, zg_cn p n + ((if n < b then n else b) - a) ≤ zg_cn q n := by
    intro n
    induction n with
    | zero => show 0 + ((if 0 < b then 0 else b) - a) ≤ 0; split <;> omega
    | succ n ih =>
      show zg_cn p n + (if p n = true then 1 else 0) + _ ≤ zg_cn q n + (if q n = true then 1 else 0)
      by_cases hp : p n = true
      · rw [if_pos hp, if_pos (h n hp)]
        by_cases h1 : n + 1 < b
        · rw [if_pos h1]; rw [if_pos (by omega : n < b)] at ih
          have : ¬ a ≤ n := fun z => by have := (hq n z (by omega)).2; rw [hp] at this; exact absurd this (by decide)
          omega
        · rw [if_neg h1]
          by_cases h2 : n < b
          · rw [if_pos h2] at ih
            have : ¬ a ≤ n := fun z => by have := (hq n z (by omega)).2; rw [hp] at this; exact absurd this (by decide)
            omega
          · rw [if_neg h2] at ih; omega
      · rw [if_neg hp]
        by_cases h2 : n < b
        · rw [if_pos h2] at ih
          by_cases h3 : a ≤ n
          · rw [if_pos (hq n h3 h2).1]; split <;> omega
          · split <;> split <;> omega
        · rw [if_neg h2] at ih; rw [if_neg (by omega : ¬ n + 1 < b)]; omega
  intro n hb _
  have := main n
  rw [if_neg (by omega : ¬ n < b)] at this
  exact this
/-- pairs whose state is 0 -/
theorem zg_cn_upd {p q : Nat → Bool} {k : Nat} (hp : p k = true) (hq : q k = false) (h : ∀ j, j ≠ k → q j = p j) : ∀ n, k < n → zg_cn q n + 1 = zg_cn p n := by
  have low : ∀ n, n ≤ k → zg_cn q n = zg_cn p n := by
    intro n
    induction n with
    | zero => intro _; rfl
    | succ n ih => intro hn; show zg_cn q n + _ = zg_cn p n + _; rw [ih (by omega), h n (by omega)]
  intro n
  induction n with
  | zero => intro hk; omega
  | succ n ih =>
    intro hk
    show zg_cn q n + (if q n = true then 1 else 0) + 1 = zg_cn p n + (if p n = true then 1 else 0)
    by_cases e : n = k
    · subst e; rw [low n (Nat.le_refl _), hq, hp]; rfl
    · rw [h n e, ← ih (by omega)]; omega
theorem zg_cn_eq {p q : Nat → Bool} (h : ∀ j, q j = p j) : ∀ n, zg_cn q n = zg_cn p n := by
  intro n
  induction n with
  | zero => rfl
  | succ n ih => show zg_cn q n + _ = zg_cn p n + _; rw [ih, h n]
theorem zg_cn_pos {p : Nat → Bool} {k : Nat} (hp : p k = true) : ∀ n, k < n → 1 ≤ zg_cn p n := by
  intro n
  induction n with
  | zero => intro h; omega
  | succ n ih =>
    intro h
    show 1 ≤ zg_cn p n + (if p n = true then 1 else 0)
    by_cases e : n = k
    · subst e; rw [if_pos hp]; omega
    · have := ih (by omega); omega
/-! walks of ever more edges, as the class goes through the cells -/
def zg_fe (K A O Ow cl W : Nat → Int32) (L : Nat → Int32) (c : Nat) : Nat → Int32 :=
  if K c = 11 ∧ cl (Ow c).toNatClampNeg = 1 then
    (if W (Ow c).toNatClampNeg = -1000000 then L else
      if L (A c).toNatClampNeg < W (Ow c).toNatClampNeg + O c then upd L (A c).toNatClampNeg (W (Ow c).toNatClampNeg + O c) else L)
  else L
def zg_len (K A O Ow cl W : Nat → Int32) : Nat → Nat → Int32
  | 0 => fun _ => -1000000
  | c + 1 => zg_fe K A O Ow cl W (zg_len K A O Ow cl W c) c
def zg_seq (K A O Ow cl : Nat → Int32) (U a : Nat) : Nat → Nat → Int32
  | 0 => fun t => if t = a then 0 else -1000000
  | l + 1 => zg_len K A O Ow cl (zg_seq K A O Ow cl U a l) U
def zg_g (K A O Ow cl : Nat → Int32) (U a b : Nat) : Nat → Int32
  | 0 => -1000000
  | l + 1 => if zg_g K A O Ow cl U a b l < zg_seq K A O Ow cl U a (l + 1) b then zg_seq K A O Ow cl U a (l + 1) b else zg_g K A O Ow cl U a b l
def zg_E (K A O Ow cl W : Nat → Int32) (n : Nat) (t : Nat) (w : Int32) : Prop :=
  ∃ c, c < n ∧ K c = 11 ∧ cl (Ow c).toNatClampNeg = 1 ∧ (A c).toNatClampNeg = t ∧ W (Ow c).toNatClampNeg ≠ -1000000 ∧ w = W (Ow c).toNatClampNeg + O c
theorem zg_len_mx (K A O Ow cl W : Nat → Int32) (N : Nat) : ∀ n, zg_mx (zg_E K A O Ow cl W n) N (zg_len K A O Ow cl W n) := by
  intro n
  induction n with
  | zero => exact zg_mx_0 (fun t w _ => fun ⟨c, h, _⟩ => absurd h (Nat.not_lt_zero c)) (fun t _ => rfl)
  | succ n ih =>
    have same : (¬ (K n = 11 ∧ cl (Ow n).toNatClampNeg = 1 ∧ W (Ow n).toNatClampNeg ≠ -1000000)) → zg_mx (zg_E K A O Ow cl W (n + 1)) N (zg_len K A O Ow cl W n) := by
      intro hne
      refine zg_mx_iff (fun t w _ => ⟨fun ⟨c, h, z⟩ => ⟨c, by omega, z⟩, fun ⟨c, h, z⟩ => ⟨c, ?_, z⟩⟩) ih
      by_cases e : c = n
      · subst e; exact absurd ⟨z.1, z.2.1, z.2.2.2.1⟩ hne
      · omega
    have more : K n = 11 → cl (Ow n).toNatClampNeg = 1 → W (Ow n).toNatClampNeg ≠ -1000000 → ∀ t w, (zg_E K A O Ow cl W n t w ∨ (t = (A n).toNatClampNeg ∧ w = W (Ow n).toNatClampNeg + O n)) ↔ zg_E K A O Ow cl W (n + 1) t w := by
      intro h1 h2 h3 t w
      constructor
      · intro h
        rcases h with ⟨c, h, z⟩ | ⟨h, h'⟩
        · exact ⟨c, by omega, z⟩
        · exact ⟨n, by omega, h1, h2, h.symm, h3, h'⟩
      · intro ⟨c, h, z⟩
        by_cases e : c = n
        · subst e; exact Or.inr ⟨z.2.2.1.symm, z.2.2.2.2⟩
        · exact Or.inl ⟨c, by omega, z⟩
    show zg_mx _ N (zg_fe K A O Ow cl W (zg_len K A O Ow cl W n) n)
    unfold zg_fe
    by_cases h1 : K n = 11 ∧ cl (Ow n).toNatClampNeg = 1
    · rw [if_pos h1]
      by_cases h2 : W (Ow n).toNatClampNeg = -1000000
      · rw [if_pos h2]; exact same (fun z => z.2.2 h2)
      · rw [if_neg h2]
        by_cases h3 : zg_len K A O Ow cl W n (A n).toNatClampNeg < W (Ow n).toNatClampNeg + O n
        · rw [if_pos h3]; exact zg_mx_iff (fun t w _ => more h1.1 h1.2 h2 t w) (zg_mx_t ih h3)
        · rw [if_neg h3]; exact zg_mx_iff (fun t w _ => more h1.1 h1.2 h2 t w) (zg_mx_n ih h3)
    · rw [if_neg h1]; exact same (fun z => h1 ⟨z.1, z.2.1⟩)
/-- weights stay small: the owners are names, the offsets within 96 -/
theorem zg_seq_bd {K A O Ow cl : Nat → Int32} {U N a : Nat} (hO : ∀ c, c < U → K c = 11 → cl (Ow c).toNatClampNeg = 1 → (Ow c).toNatClampNeg < N ∧ zg_bd 96 (O c)) :
    ∀ l, l ≤ 8 → ∀ t, t < N → zg_seq K A O Ow cl U a l t = -1000000 ∨ zg_bd (96 * l) (zg_seq K A O Ow cl U a l t) := by
  intro l
  induction l with
  | zero =>
    intro _ t _
    show (if t = a then (0 : Int32) else -1000000) = _ ∨ zg_bd 0 (if t = a then (0 : Int32) else -1000000)
    split
    · exact Or.inr (by unfold zg_bd; decide)
    · exact Or.inl rfl
  | succ l ih =>
    intro hl t ht
    have h := zg_len_mx K A O Ow cl (zg_seq K A O Ow cl U a l) N U t ht
    rcases h.2 with h | ⟨c, hc, h1, h2, h3, h4, h5⟩
    · exact Or.inl h
    · refine Or.inr ?_
      show zg_bd _ (zg_len K A O Ow cl (zg_seq K A O Ow cl U a l) U t)
      rw [h5]
      obtain ⟨hw, ho⟩ := hO c hc h1 h2
      have hb := (ih (by omega) _ hw).resolve_left h4
      have := zg_bd_add (by omega) hb ho
      rw [show 96 * (l + 1) = 96 * l + 96 by omega]
      exact this
end
section
/-! what holds between calls of the cells and the definitions -/
def zi_un (f : Nat → Nat) (k x : Nat) : Nat → Nat := fun j => if j = k then x else f j
theorem zi_uns {f : Nat → Nat} {k x : Nat} : zi_un f k x k = x := if_pos rfl
theorem zi_unn {f : Nat → Nat} {k x j : Nat} (h : j ≠ k) : zi_un f k x j = f j := if_neg h
theorem zi_upd {a : Nat → Int32} {f : Nat → Nat} {k x : Nat} (h : ∀ n, a n = nI (f n)) : ∀ n, upd a k (nI x) n = nI (zi_un f k x n) := by
  intro n
  by_cases e : n = k
  · subst e; rw [pk_us, zi_uns]
  · rw [pk_un e, zi_unn e]; exact h n
def zi_cl (K P O L Ow : Nat → Int32) (U r e n : Nat) : Prop :=
  1 ≤ r ∧ r < e ∧ e ≤ U ∧ zs_def K P O L r (e - r) ∧ zs_stk K r (e - r) = [] ∧ K (r - 1) = 12 ∧ ∀ c, r - 1 ≤ c → c < e → Ow c = nI n
theorem zi_cl_congr {K P O L Ow K' P' O' L' Ow' : Nat → Int32} {U U' r e n : Nat} (h : ∀ c, r - 1 ≤ c → c < e → K' c = K c ∧ P' c = P c ∧ O' c = O c ∧ L' c = L c ∧ Ow' c = Ow c) (hU : U ≤ U')
    (H : zi_cl K P O L Ow U r e n) : zi_cl K' P' O' L' Ow' U' r e n := by
  obtain ⟨h1, h2, h3, h4, h5, h6, h7⟩ := H
  refine ⟨h1, h2, by omega, zs_def_congr h1 (fun c a b => ?_) h4, ?_, ?_, fun c a b => ?_⟩
  · have := h c a (by omega); exact ⟨this.1, this.2.1, this.2.2.1, this.2.2.2.1⟩
  · rw [← h5]; exact zs_stk_congr _ (fun c a b => (h c (by omega) (by omega)).1)
  · rw [(h (r - 1) (by omega) (by omega)).1]; exact h6
  · rw [(h c a b).2.2.2.2]; exact h7 c a b
def zi_op (K P O L Ow so sp : Nat → Int32) (U S r o : Nat) : Prop :=
  1 ≤ r ∧ r ≤ U ∧ zs_def K P O L r (U - r) ∧ (zs_stk K r (U - r)).length = S ∧ 1 ≤ S ∧ zs_st (fun i s => sp i = nI s.1 ∧ so i = zs_so K O r s) (zs_stk K r (U - r)) ∧
  K (r - 1) = 12 ∧ ∀ c, r - 1 ≤ c → c < U → Ow c = nI o
def zi_inv (N C U S : Nat) (op : Int32) (K A P O L Ow cl so sp : Nat → Int32) (R E : Nat → Nat) : Prop :=
  (1 ≤ N ∧ N ≤ 8 ∧ 16 ≤ C ∧ C ≤ 96 ∧ U ≤ C) ∧ (∀ n, cl n = 0 ∨ cl n = 1) ∧ (∀ n, n < N → cl n = 1 → zi_cl K P O L Ow U (R n) (E n) n) ∧
  (∀ n, R n ≤ 96 ∧ E n ≤ 96) ∧ (∀ c, c < U → K c = 11 → ∃ m, m < N ∧ A c = nI m) ∧
  (∀ c, c < U → ∃ n, n < N ∧ Ow c = nI n ∧ ((cl n = 1 ∧ R n ≤ c + 1 ∧ c < E n) ∨ (op = nI n ∧ R n ≤ c + 1))) ∧
  ((op = -1 ∧ S = 0) ∨ ∃ o, o < N ∧ op = nI o ∧ cl o = 0 ∧ zi_op K P O L Ow so sp U S (R o) o)
theorem zi_reset {N C U S : Nat} {op : Int32} {K A P O L Ow cl cl' so sp : Nat → Int32} {R E : Nat → Nat} (h : zi_inv N C U S op K A P O L Ow cl so sp R E)
    (h0 : ∀ n, n < 8 → cl' n = 0) (h1 : ∀ n, cl' n = 0 ∨ cl' n = 1) : zi_inv N C 0 0 (-1) K A P O L Ow cl' so sp R E := by
  obtain ⟨⟨a1, a2, a3, a4, a5⟩, _, _, hR, _⟩ := h
  refine ⟨⟨a1, a2, a3, a4, by omega⟩, h1, fun n hn hc => ?_, hR, fun c hc => absurd hc (Nat.not_lt_zero c), fun c hc => absurd hc (Nat.not_lt_zero c), Or.inl ⟨rfl, rfl⟩⟩
  rw [h0 n (by omega)] at hc
  exact absurd hc (by decide)
theorem zi_init {N C : Nat} (h : 1 ≤ N ∧ N ≤ 8 ∧ 16 ≤ C ∧ C ≤ 96) : zi_inv N C 0 0 (-1) (fun _ => 0) (fun _ => 0) (fun _ => 0) (fun _ => 0) (fun _ => 0) (fun _ => 0) (fun _ => 0) (fun _ => 0) (fun _ => 0) (fun _ => 0) (fun _ => 0) := by
  obtain ⟨a1, a2, a3, a4⟩ := h
  exact ⟨⟨a1, a2, a3, a4, by omega⟩, fun _ => Or.inl rfl, fun n _ hc => absurd (show (0 : Int32) = 1 from hc) (by decide), fun _ => ⟨Nat.zero_le _, Nat.zero_le _⟩, fun c hc => absurd hc (Nat.not_lt_zero c), fun c hc => absurd hc (Nat.not_lt_zero c), Or.inl ⟨rfl, rfl⟩⟩
theorem zi_begin {N C U S n : Nat} {K A P O L Ow cl so sp : Nat → Int32} {R E : Nat → Nat} (h : zi_inv N C U S (-1) K A P O L Ow cl so sp R E) (hn : n < N) (hc : cl n = 0) (hU : U < C) :
    zi_inv N C (U + 1) 1 (nI n) (upd K U 12) (upd A U (nI n)) P O L (upd Ow U (nI n)) cl (upd so 0 0) (upd sp 0 (nI U)) (zi_un R n (U + 1)) E := by
  obtain ⟨⟨a1, a2, a3, a4, a5⟩, b, c1, hR, d1, d2, _⟩ := h
  refine ⟨⟨a1, a2, a3, a4, by omega⟩, b, fun m hm hcm => ?_, fun m => ?_, fun c hcU hk => ?_, fun c hcU => ?_, Or.inr ⟨n, hn, rfl, hc, ?_⟩⟩
  · have hne : m ≠ n := fun z => by rw [z, hc] at hcm; exact absurd hcm (by decide)
    rw [zi_unn hne]
    have H := c1 m hm hcm
    exact zi_cl_congr (fun c x y => have := H.2.2.1; ⟨pk_un (by omega), rfl, rfl, rfl, pk_un (by omega)⟩) (by omega) H
  · by_cases e : m = n
    · rw [e, zi_uns]; exact ⟨by omega, (hR n).2⟩
    · rw [zi_unn e]; exact hR m
  · by_cases e : c = U
    · rw [e, pk_us] at hk; exact absurd hk (by decide)
    · rw [pk_un e] at hk ⊢; exact d1 c (by omega) hk
  · by_cases e : c = U
    · exact ⟨n, hn, by rw [e, pk_us], Or.inr ⟨rfl, by rw [zi_uns]; omega⟩⟩
    · obtain ⟨m, x, y, z⟩ := d2 c (by omega)
      refine ⟨m, x, by rw [pk_un e]; exact y, ?_⟩
      rcases z with ⟨z1, z2⟩ | z
      · have hne : m ≠ n := fun z => by rw [z, hc] at z1; exact absurd z1 (by decide)
        rw [zi_unn hne]; exact Or.inl ⟨z1, z2⟩
      · exact absurd z.1.symm (zn_ne1 (by omega))
  · rw [zi_uns]
    have e0 : U + 1 - (U + 1) = 0 := by omega
    refine ⟨by omega, Nat.le_refl _, ?_, ?_, Nat.le_refl _, ?_, pk_us, fun c x y => ?_⟩
    · rw [e0]; intro i hi; exact absurd hi (Nat.not_lt_zero i)
    · rw [e0]; rfl
    · rw [e0]
      refine ⟨⟨pk_us, ?_⟩, trivial⟩
      show upd so 0 0 0 = _
      rw [pk_us]
      unfold zs_so
      rw [if_pos (by show U + 1 - 1 < U + 1; omega)]
    · rw [show c = U by omega, pk_us]
/-- a token: what is open stays open -/
theorem zi_tok {N C U S o k : Nat} {a : Int32} {K A P O L Ow cl so sp so' sp' : Nat → Int32} {R E : Nat → Nat} {s : Nat × Bool} {t : List (Nat × Bool)} (h : zi_inv N C U S (nI o) K A P O L Ow cl so sp R E) (ho : o < N) (hU : U < C)
    (e : zs_stk K (R o) (U - R o) = s :: t) (hk1 : 1 ≤ k) (hk : k ≤ 11) (ha : k = 11 → ∃ m, m < N ∧ a = nI m) (hS : 1 ≤ (zs_kids (nI k) U ++ t).length)
    (hst : zs_st (fun i x => sp' i = nI x.1 ∧ so' i = zs_so (upd K U (nI k)) (upd O U (zs_so K O (R o) s)) (R o) x) (zs_kids (nI k) U ++ t)) :
    zi_inv N C (U + 1) (zs_kids (nI k) U ++ t).length (nI o) (upd K U (nI k)) (upd A U a) (upd P U (nI s.1)) (upd O U (zs_so K O (R o) s)) (upd L s.1 (nI U)) (upd Ow U (nI o)) cl so' sp' R E := by
  obtain ⟨⟨a1, a2, a3, a4, a5⟩, b, c1, hR, d1, d2, d3⟩ := h
  obtain ⟨o', ho', eo, hco, H⟩ : ∃ o', o' < N ∧ nI o = nI o' ∧ cl o' = 0 ∧ zi_op K P O L Ow so sp U S (R o') o' := by
    rcases d3 with d3 | d3
    · exact absurd d3.1 (zn_ne1 (by omega))
    · exact d3
  obtain rfl : o = o' := zn_im eo (by omega) (by omega)
  obtain ⟨r1, r2, r3, r4, r5, r6, r7, r8⟩ := H
  obtain ⟨d, hd⟩ : ∃ d, U = R o + d := ⟨U - R o, by omega⟩
  have ed : U - R o = d := by omega
  rw [ed] at e r3
  have hh := zs_hd r1 e
  refine ⟨⟨a1, a2, a3, a4, by omega⟩, b, fun m hm hcm => ?_, hR, fun c hcU hkc => ?_, fun c hcU => ?_, Or.inr ⟨o, ho, rfl, hco, r1, by omega, ?_, ?_, hS, ?_, ?_, fun c x y => ?_⟩⟩
  · have Hm := c1 m hm hcm
    refine zi_cl_congr (fun c x y => ?_) (by omega) Hm
    have h3 := Hm.2.2.1
    refine ⟨pk_un (by omega), pk_un (by omega), pk_un (by omega), pk_un (fun z => ?_), pk_un (by omega)⟩
    have w1 := Hm.2.2.2.2.2.2 c x y
    have w2 := r8 c (by omega) (by omega)
    rw [w1] at w2
    have := zn_im w2 (by omega) (by omega)
    rw [this, hco] at hcm
    exact absurd hcm (by decide)
  · by_cases ec : c = U
    · rw [ec, pk_us] at hkc; rw [ec, pk_us]
      exact ha (zn_im hkc (by omega) (by decide))
    · rw [pk_un ec] at hkc ⊢; exact d1 c (by omega) hkc
  · by_cases ec : c = U
    · exact ⟨o, ho, by rw [ec, pk_us], Or.inr ⟨rfl, by omega⟩⟩
    · obtain ⟨m, x, y, z⟩ := d2 c (by omega)
      exact ⟨m, x, by rw [pk_un ec]; exact y, z⟩
  · rw [show U + 1 - R o = d + 1 by omega, hd]; exact zs_def_step r1 hk1 hk e r3
  · rw [show U + 1 - R o = d + 1 by omega, hd, zs_stk_step e]
  · rw [show U + 1 - R o = d + 1 by omega, hd, zs_stk_step e, ← hd]; exact hst
  · rw [pk_un (by omega)]; exact r7
  · by_cases ec : c = U
    · rw [ec, pk_us]
    · rw [pk_un ec]; exact r8 c x (by omega)
/-- a token that fills the last slot -/
theorem zi_tok0 {N C U S o k : Nat} {a : Int32} {K A P O L Ow cl so sp so' sp' : Nat → Int32} {R E : Nat → Nat} {s : Nat × Bool} {t : List (Nat × Bool)} (h : zi_inv N C U S (nI o) K A P O L Ow cl so sp R E) (ho : o < N) (hU : U < C)
    (e : zs_stk K (R o) (U - R o) = s :: t) (hk1 : 1 ≤ k) (hk : k ≤ 11) (ha : k = 11 → ∃ m, m < N ∧ a = nI m) (hS : zs_kids (nI k) U ++ t = []) :
    zi_inv N C (U + 1) 0 (-1) (upd K U (nI k)) (upd A U a) (upd P U (nI s.1)) (upd O U (zs_so K O (R o) s)) (upd L s.1 (nI U)) (upd Ow U (nI o)) (upd cl o 1) so' sp' R (zi_un E o (U + 1)) := by
  obtain ⟨⟨a1, a2, a3, a4, a5⟩, b, c1, hR, d1, d2, d3⟩ := h
  obtain ⟨o', ho', eo, hco, H⟩ : ∃ o', o' < N ∧ nI o = nI o' ∧ cl o' = 0 ∧ zi_op K P O L Ow so sp U S (R o') o' := by
    rcases d3 with d3 | d3
    · exact absurd d3.1 (zn_ne1 (by omega))
    · exact d3
  obtain rfl : o = o' := zn_im eo (by omega) (by omega)
  obtain ⟨r1, r2, r3, r4, r5, r6, r7, r8⟩ := H
  obtain ⟨d, hd⟩ : ∃ d, U = R o + d := ⟨U - R o, by omega⟩
  have ed : U - R o = d := by omega
  rw [ed] at e r3
  have hh := zs_hd r1 e
  have hOw : ∀ c, R o - 1 ≤ c → c < U + 1 → upd Ow U (nI o) c = nI o := by
    intro c x y
    by_cases ec : c = U
    · rw [ec, pk_us]
    · rw [pk_un ec]; exact r8 c x (by omega)
  refine ⟨⟨a1, a2, a3, a4, by omega⟩, fun m => ?_, fun m hm hcm => ?_, fun m => ?_, fun c hcU hkc => ?_, fun c hcU => ?_, Or.inl ⟨rfl, rfl⟩⟩
  · by_cases em : m = o
    · rw [em, pk_us]; exact Or.inr rfl
    · rw [pk_un em]; exact b m
  · by_cases em : m = o
    · subst em
      rw [zi_uns]
      refine ⟨r1, by omega, Nat.le_refl _, ?_, ?_, ?_, hOw⟩
      · rw [show U + 1 - R m = d + 1 by omega, hd]; exact zs_def_step r1 hk1 hk e r3
      · rw [show U + 1 - R m = d + 1 by omega, hd, zs_stk_step e, ← hd]; exact hS
      · rw [pk_un (by omega)]; exact r7
    · rw [pk_un em] at hcm
      rw [zi_unn em]
      have Hm := c1 m hm hcm
      refine zi_cl_congr (fun c x y => ?_) (by omega) Hm
      have h3 := Hm.2.2.1
      refine ⟨pk_un (by omega), pk_un (by omega), pk_un (by omega), pk_un (fun z => ?_), pk_un (by omega)⟩
      have w1 := Hm.2.2.2.2.2.2 c x y
      have w2 := r8 c (by omega) (by omega)
      rw [w1] at w2
      exact em (zn_im w2 (by omega) (by omega))
  · by_cases em : m = o
    · rw [em, zi_uns]; exact ⟨(hR o).1, by omega⟩
    · rw [zi_unn em]; exact hR m
  · by_cases ec : c = U
    · rw [ec, pk_us] at hkc; rw [ec, pk_us]
      exact ha (zn_im hkc (by omega) (by decide))
    · rw [pk_un ec] at hkc ⊢; exact d1 c (by omega) hkc
  · by_cases hco2 : R o - 1 ≤ c
    · exact ⟨o, ho, hOw c hco2 hcU, Or.inl ⟨pk_us, by omega, by rw [zi_uns]; exact hcU⟩⟩
    · have ec : c ≠ U := by omega
      obtain ⟨m, x, y, z⟩ := d2 c (by omega)
      refine ⟨m, x, by rw [pk_un ec]; exact y, ?_⟩
      by_cases em : m = o
      · rcases z with z | z
        · have := z.1; rw [em, hco] at this; exact absurd this (by decide)
        · have := z.2; rw [em] at this; omega
      · rw [pk_un em, zi_unn em]
        rcases z with z | z
        · exact Or.inl z
        · exact absurd (zn_im z.1 (by omega) (by omega)).symm em
end
section
/-! one step of a walk with a stack in two arrays -/
theorem zs_st_push {q : Int32 → Int32 → Nat × Bool → Prop} {a b : Nat → Int32} {l : List (Nat × Bool)} {s : Nat × Bool} {x y : Int32} {n : Nat} (hn : n = l.length) (hq : q x y s)
    (h : zs_st (fun i s => q (a i) (b i) s) l) : zs_st (fun i s => q (upd a n x i) (upd b n y i) s) (s :: l) := by
  subst hn
  refine ⟨?_, zs_st_mono l (fun i s' hi _ hq' => ?_) h⟩
  · show q (upd a l.length x l.length) (upd b l.length y l.length) s
    rw [pk_us, pk_us]; exact hq
  · show q (upd a l.length x i) (upd b l.length y i) s'
    rw [pk_un (by omega), pk_un (by omega)]; exact hq'
theorem zo_7 {K O : Nat → Int32} {r c : Nat} {b : Bool} (hc : r ≤ c) (hk : K c = 7) : zs_so K O r (c, b) = O c + 1 := by
  unfold zs_so; rw [if_neg (by show ¬ c < r; omega), if_pos hk]
theorem zo_6f {K O : Nat → Int32} {r c : Nat} (hc : r ≤ c) (hk : K c = 6) : zs_so K O r (c, false) = O c - 1 := by
  unfold zs_so; rw [if_neg (by show ¬ c < r; omega), if_neg (by show ¬ K c = 7; rw [hk]; decide), if_pos ⟨hk, rfl⟩]
theorem zo_6t {K O : Nat → Int32} {r c : Nat} (hc : r ≤ c) (hk : K c = 6) : zs_so K O r (c, true) = O c := by
  unfold zs_so; rw [if_neg (by show ¬ c < r; omega), if_neg (by show ¬ K c = 7; rw [hk]; decide), if_neg (fun z => Bool.noConfusion z.2)]
theorem zo_x {K O : Nat → Int32} {r c : Nat} {b : Bool} (hc : r ≤ c) (h7 : ¬ K c = 7) (h6 : ¬ K c = 6) : zs_so K O r (c, b) = O c := by
  unfold zs_so; rw [if_neg (by show ¬ c < r; omega), if_neg h7, if_neg (fun z => h6 z.1)]
/-- x, y: visited (0 or 1) and index, for w: the index or -1 -/
def zq (x y w : Int32) : Prop := (w = -1 → x = 0) ∧ (w ≠ -1 → x = 1 ∧ y = w)
theorem zq_n {y : Int32} : zq 0 y (-1) := ⟨fun _ => rfl, fun h => absurd rfl h⟩
theorem zq_c {x y w : Int32} (h : zq x y w) : (w = -1 ∧ x = 0) ∨ (w ≠ -1 ∧ x = 1 ∧ y = w) := by
  by_cases e : w = -1
  · exact Or.inl ⟨e, h.1 e⟩
  · exact Or.inr ⟨e, h.2 e⟩
theorem zq_2 {K V : Nat → Int32} {r c : Nat} {j x y : Int32} {b : Bool} (hc : r ≤ c) (hk : K c = 2) (h : zq x y (V c)) : zq x 0 (zs_sv K V r j (c, b)) := by
  unfold zs_sv
  rw [if_neg (by show ¬ c < r; omega)]
  rcases zq_c h with ⟨h1, h2⟩ | ⟨h1, h2, h3⟩
  · rw [if_pos h1, h2]; exact zq_n
  · rw [if_neg h1, if_pos hk, h2]; exact ⟨fun z => absurd z (by decide), fun _ => ⟨rfl, rfl⟩⟩
theorem zq_7 {K V : Nat → Int32} {r c : Nat} {j x y : Int32} {b : Bool} (hc : r ≤ c) (hk : K c = 7) (h : zq x y (V c)) (hv : V c ≠ -1 → V c + 1 ≠ -1) : zq x (y + 1) (zs_sv K V r j (c, b)) := by
  unfold zs_sv
  rw [if_neg (by show ¬ c < r; omega)]
  rcases zq_c h with ⟨h1, h2⟩ | ⟨h1, h2, h3⟩
  · rw [if_pos h1, h2]; exact zq_n
  · rw [if_neg h1, if_neg (by show ¬ K c = 2; rw [hk]; decide), if_pos hk, h2, h3]; exact ⟨fun z => absurd z (hv h1), fun _ => ⟨rfl, rfl⟩⟩
theorem zq_x {K V : Nat → Int32} {r c : Nat} {j x y : Int32} {b : Bool} (hc : r ≤ c) (h2' : ¬ K c = 2) (h7 : ¬ K c = 7) (h6 : ¬ K c = 6) (h : zq x y (V c)) : zq x y (zs_sv K V r j (c, b)) := by
  unfold zs_sv
  rw [if_neg (by show ¬ c < r; omega)]
  rcases zq_c h with ⟨h1, h2⟩ | ⟨h1, h2, h3⟩
  · rw [if_pos h1, h2]; exact zq_n
  · rw [if_neg h1, if_neg h2', if_neg h7, if_neg h6]; exact h
/-- CONS, first child, index 0 -/
theorem zq_6a {K V : Nat → Int32} {r c : Nat} {j x y : Int32} (hc : r ≤ c) (hk : K c = 6) (h : zq x y (V c)) (h0 : y = 0) : zq x 0 (zs_sv K V r j (c, true)) := by
  unfold zs_sv
  rw [if_neg (by show ¬ c < r; omega)]
  rcases zq_c h with ⟨h1, h2⟩ | ⟨h1, h2, h3⟩
  · rw [if_pos h1, h2]; exact zq_n
  · rw [if_neg h1, if_neg (by show ¬ K c = 2; rw [hk]; decide), if_neg (by show ¬ K c = 7; rw [hk]; decide), if_pos hk, if_pos rfl, if_pos (by rw [← h0, h3]), h2]
    exact ⟨fun z => absurd z (by decide), fun _ => ⟨rfl, rfl⟩⟩
/-- CONS, second child, index 0 -/
theorem zq_6b {K V : Nat → Int32} {r c : Nat} {j x y : Int32} (hc : r ≤ c) (hk : K c = 6) (h : zq x y (V c)) (h0 : y = 0) : zq 0 0 (zs_sv K V r j (c, false)) := by
  unfold zs_sv
  rw [if_neg (by show ¬ c < r; omega)]
  rcases zq_c h with ⟨h1, h2⟩ | ⟨h1, h2, h3⟩
  · rw [if_pos h1]; exact zq_n
  · rw [if_neg h1, if_neg (by show ¬ K c = 2; rw [hk]; decide), if_neg (by show ¬ K c = 7; rw [hk]; decide), if_pos hk, if_neg Bool.false_ne_true, if_pos (by rw [← h0, h3])]
    exact zq_n
/-- CONS, first child, index not 0 -/
theorem zq_6c {K V : Nat → Int32} {r c : Nat} {j x y : Int32} (hc : r ≤ c) (hk : K c = 6) (h : zq x y (V c)) (h0 : ¬ y = 0) : zq 0 0 (zs_sv K V r j (c, true)) := by
  unfold zs_sv
  rw [if_neg (by show ¬ c < r; omega)]
  rcases zq_c h with ⟨h1, h2⟩ | ⟨h1, h2, h3⟩
  · rw [if_pos h1]; exact zq_n
  · rw [if_neg h1, if_neg (by show ¬ K c = 2; rw [hk]; decide), if_neg (by show ¬ K c = 7; rw [hk]; decide), if_pos hk, if_pos rfl, if_neg (fun z => h0 (h3.trans z))]
    exact zq_n
/-- CONS, second child, index not 0 -/
theorem zq_6d {K V : Nat → Int32} {r c : Nat} {j x y : Int32} (hc : r ≤ c) (hk : K c = 6) (h : zq x y (V c)) (h0 : ¬ y = 0) (hv : V c ≠ 0 → V c - 1 ≠ -1) : zq x (y - 1) (zs_sv K V r j (c, false)) := by
  unfold zs_sv
  rw [if_neg (by show ¬ c < r; omega)]
  rcases zq_c h with ⟨h1, h2⟩ | ⟨h1, h2, h3⟩
  · rw [if_pos h1, h2]; exact zq_n
  · have h4 : ¬ V c = 0 := fun z => h0 (h3.trans z)
    rw [if_neg h1, if_neg (by show ¬ K c = 2; rw [hk]; decide), if_neg (by show ¬ K c = 7; rw [hk]; decide), if_pos hk, if_neg Bool.false_ne_true, if_neg h4, h2, h3]
    exact ⟨fun z => absurd z (hv h4), fun _ => ⟨rfl, rfl⟩⟩
/-! the pairs while they are made: X's states 0, 1, 2 against Y's two marks -/
def zp_pr (PS PV MO MV IP : Nat → Int32) : Prop :=
  ∀ q, q < 256 → (PS q = 0 ∧ MO q = 0 ∧ IP q = 0) ∨ (PS q = 1 ∧ MO q = 0 ∧ IP q = 1) ∨ (PS q = 2 ∧ MO q = 1 ∧ IP q = 0 ∧ PV q = MV q)
theorem zp_start {PS PV MO MV IP : Nat → Int32} {k : Nat} (h : zp_pr PS PV MO MV IP) (h0 : k < 256) (hk : PS k = 0) : zp_pr (upd PS k 1) PV MO MV (upd IP k 1) := by
  intro q hq
  by_cases e : q = k
  · subst e
    rw [pk_us, pk_us]
    rcases h q hq with h | h | h
    · exact Or.inr (Or.inl ⟨rfl, h.2.1, rfl⟩)
    · rw [hk] at h; exact absurd h.1 (by decide)
    · rw [hk] at h; exact absurd h.1 (by decide)
  · rw [pk_un e, pk_un e]; exact h q hq
theorem zp_fin {PS PV MO MV IP : Nat → Int32} {k : Nat} {x : Int32} (h : zp_pr PS PV MO MV IP) : zp_pr (upd PS k 2) (upd PV k x) (upd MO k 1) (upd MV k x) (upd IP k 0) := by
  intro q hq
  by_cases e : q = k
  · subst e
    rw [pk_us, pk_us, pk_us, pk_us, pk_us]
    exact Or.inr (Or.inr ⟨rfl, rfl, rfl, rfl⟩)
  · rw [pk_un e, pk_un e, pk_un e, pk_un e, pk_un e]; exact h q hq
def zp_n0 (PS : Nat → Int32) : Nat := zg_cn (fun q => decide (PS q = 0)) 256
theorem zp_n0_start {PS : Nat → Int32} {k : Nat} (h0 : k < 256) (hk : PS k = 0) : zp_n0 (upd PS k 1) + 1 = zp_n0 PS :=
  zg_cn_upd (k := k) (by show decide (PS k = 0) = true; rw [hk]; rfl) (by show decide (upd PS k 1 k = 0) = false; rw [pk_us]; rfl) (fun j hj => by show decide (upd PS k 1 j = 0) = decide (PS j = 0); rw [pk_un hj]) 256 h0
theorem zp_n0_fin {PS : Nat → Int32} {k : Nat} (hk : PS k ≠ 0) : zp_n0 (upd PS k 2) = zp_n0 PS := by
  refine zg_cn_eq (fun j => ?_) 256
  show decide (upd PS k 2 j = 0) = decide (PS j = 0)
  by_cases e : j = k
  · subst e; rw [pk_us, decide_eq_false hk]; rfl
  · rw [pk_un e]
theorem zp_n0_le (PS : Nat → Int32) : zp_n0 PS ≤ 256 := zg_cn_le _ 256
end
section
/-! the relation between the two states -/
def i_Rel (k : Nat) (u : SX) (v : SY) : Prop :=
  ∃ (N C U S : Nat) (op lv fn fi : Int32) (K A Ow O P L cl rt en ss so sp ds : Nat → Int32) (R E : Nat → Nat) (pl : Int32) (ww lw vi vv ps pv pt : Nat → Int32)
    (yne ysp yvsp ypn : Int32) (yef yet yew yb ynb yv yx ysv ysi yvs ymo ymv yip ypN ypI : Nat → Int32),
    u = ((nI N), (nI C), (nI U), op, (nI S), pl, lv, fn, fi, K, A, Ow, O, P, L, cl, rt, en, ss, so, sp, ww, lw, vi, vv, ps, pv, pt) ∧ v = ((nI N), (nI C), (nI U), op, (nI S), yne, ysp, yvsp, ypn, lv, fn, fi, K, A, cl, ds, en, ss, yef, yet, yew, yb, ynb, yv, yx, ysv, ysi, yvs, ymo, ymv, yip, ypN, ypI) ∧ (∀ n, rt n = nI (R n)) ∧ (∀ n, ds n = nI (R n - 1)) ∧ (∀ n, en n = nI (E n)) ∧ zi_inv N C U S op K A P O L Ow cl so sp R E
theorem i_up {k : Nat} {u : SX} {v : SY} (h : i_Rel k u v) : i_Rel (k + 3) u v := h
section Z7
variable {N C U S : Nat} {op lv fn fi pl yne ysp yvsp ypn : Int32}
variable {K A Ow O P L cl rt en ss so sp ds ww lw vi vv ps pv pt yef yet yew yb ynb yv yx ysv ysi yvs ymo ymv yip ypN ypI : Nat → Int32}
variable {R E : Nat → Nat}
theorem zr_mk {k : Nat} (hR : ∀ n, rt n = nI (R n)) (hD : ∀ n, ds n = nI (R n - 1)) (hE : ∀ n, en n = nI (E n)) (h : zi_inv N C U S op K A P O L Ow cl so sp R E) : i_Rel k ((nI N), (nI C), (nI U), op, (nI S), pl, lv, fn, fi, K, A, Ow, O, P, L, cl, rt, en, ss, so, sp, ww, lw, vi, vv, ps, pv, pt) ((nI N), (nI C), (nI U), op, (nI S), yne, ysp, yvsp, ypn, lv, fn, fi, K, A, cl, ds, en, ss, yef, yet, yew, yb, ynb, yv, yx, ysv, ysi, yvs, ymo, ymv, yip, ypN, ypI) :=
  ⟨N, C, U, S, op, lv, fn, fi, K, A, Ow, O, P, L, cl, rt, en, ss, so, sp, ds, R, E, pl, ww, lw, vi, vv, ps, pv, pt, yne, ysp, yvsp, ypn, yef, yet, yew, yb, ynb, yv, yx, ysv, ysi, yvs, ymo, ymv, yip, ypN, ypI, rfl, rfl, hR, hD, hE, h⟩
theorem zb_0 : vp_nar .boolean 0 = 0 := by decide
theorem zb_1 : vp_nar .boolean 1 = 1 := by decide
theorem zi_S (h : zi_inv N C U S op K A P O L Ow cl so sp R E) : S ≤ 96 := by
  obtain ⟨⟨a1, a2, a3, a4, a5⟩, _, _, _, _, _, h⟩ := h
  rcases h with h | ⟨o, _, _, _, h1, h2, _, h4, _⟩
  · omega
  · have := zs_stk_len K (R o) (U - R o)
    omega
theorem zx_cl (x : Int32) (a b : Nat) (hab : a ≤ b) (hb : b < 2 ^ 31) : ∃ n, a ≤ n ∧ n ≤ b ∧ (∀ post : Int32 → Prop, post (nI n) → wpX_clamp post x (nI a) (nI b)) ∧
    ∀ F : Int32 → Prop, F (nI n) → ((nI a ≤ x → ((x ≤ nI b → F x) ∧ (¬ x ≤ nI b → F (nI b)))) ∧ (¬ nI a ≤ x → F (nI a))) := by
  by_cases h : nI a ≤ x
  · by_cases h2 : x ≤ nI b
    · have h0 : ¬ x < 0 := by
        rw [Int32.not_lt]
        exact Int32.le_trans (nI_pos' (by omega)) h
      obtain ⟨j, hj, rfl⟩ := nI_of h0
      rw [nI_leI (by omega) hj] at h
      rw [nI_leI hj (by omega)] at h2
      have h' := (nI_leI (a := a) (b := j) (by omega) hj).mpr h
      have h2' := (nI_leI (a := j) (b := b) hj (by omega)).mpr h2
      exact ⟨j, h, h2, fun post hp => br_t h' (br_t h2' hp), fun F hF => br_t h' (br_t h2' hF)⟩
    · exact ⟨b, hab, Nat.le_refl _, fun post hp => br_t h (br_f h2 hp), fun F hF => br_t h (br_f h2 hF)⟩
  · exact ⟨a, Nat.le_refl _, hab, fun post hp => br_f h hp, fun F hF => br_f h hF⟩
theorem i_vc0 (k0 : Int32) (k1 : Int32) : wpX_init (fun u => wpY_init (fun v => i_Rel 2 u v) k0 k1) k0 k1 := by
  obtain ⟨N, h1, h2, hx, hy⟩ := zx_cl k0 1 8 (by omega) (by omega)
  obtain ⟨C, h3, h4, hx', hy'⟩ := zx_cl k1 16 96 (by omega) (by omega)
  unfold wpX_init
  refine hx _ (hx' _ ?_)
  unfold wpY_init
  refine hy (fun z => wY_init_214 _ k1 z 0 0 0 (-1) 0 0 0 0 0 0 (-1) (-1) (fun _ => 0) (fun _ => 0) (fun _ => 0) (fun _ => 0) (fun _ => 0) (fun _ => 0) (fun _ => 0) (fun _ => 0) (fun _ => 0) (fun _ => 0) (fun _ => 0) (fun _ => 0) (fun _ => 0) (fun _ => 0) (fun _ => 0) (fun _ => 0) (fun _ => 0) (fun _ => 0) (fun _ => 0) (fun _ => 0) (fun _ => 0)) ?_
  refine hy' (fun z => i_Rel 2 _ (nI N, z, _)) ?_
  exact zr_mk (U := 0) (S := 0) (R := fun _ => 0) (E := fun _ => 0) (fun _ => rfl) (fun _ => rfl) (fun _ => rfl) (zi_init ⟨h1, h2, h3, h4⟩)
theorem i_vc_pending {k : Nat} {u : SX} {v : SY} (I : i_Rel k u v) (hk : k + 3 ≤ 1538) : wpX_pending (fun r => wpY_pending (fun r' => r' = r ∧ i_Rel (k + 3) u v) v) u := by
  have J := i_up I
  obtain ⟨N, C, U, S, op, lv, fn, fi, K, A, Ow, O, P, L, cl, rt, en, ss, so, sp, ds, R, E, pl, ww, lw, vi, vv, ps, pv, pt, yne, ysp, yvsp, ypn, yef, yet, yew, yb, ynb, yv, yx, ysv, ysi, yvs, ymo, ymv, yip, ypN, ypI, rfl, rfl, hR, hD, hE, h⟩ := I
  obtain ⟨a, _, _, _, _, _, ho⟩ := h
  rcases ho with ⟨rfl, rfl⟩ | ⟨o, h1, rfl, _⟩
  · exact br_t (by decide) ⟨rfl, J⟩
  · exact br_f (nI_pos (by omega)) ⟨rfl, J⟩
theorem i_vc_slot {k : Nat} {u : SX} {v : SY} (I : i_Rel k u v) (hk : k + 3 ≤ 1538) (v1 : Int32) : wpX_slot (fun r => wpY_slot (fun r' => r' = r ∧ i_Rel (k + 3) u v) v v1) u v1 := by
  have J := i_up I
  obtain ⟨N, C, U, S, op, lv, fn, fi, K, A, Ow, O, P, L, cl, rt, en, ss, so, sp, ds, R, E, pl, ww, lw, vi, vv, ps, pv, pt, yne, ysp, yvsp, ypn, yef, yet, yew, yb, ynb, yv, yx, ysv, ysi, yvs, ymo, ymv, yip, ypN, ypI, rfl, rfl, hR, hD, hE, h⟩ := I
  have hS := zi_S h
  obtain ⟨a, _, _, _, _, _, ho⟩ := h
  rcases ho with ⟨rfl, rfl⟩ | ⟨o, h1, rfl, _⟩
  · by_cases h0 : v1 < 0
    · exact br_t h0 (br_t (by decide) ⟨rfl, J⟩)
    · exact br_f h0 (br_f h0 (br_t (by decide) ⟨rfl, J⟩))
  · have hn : ¬ nI o < 0 := nI_pos (by omega)
    by_cases h0 : v1 < 0
    · exact br_t h0 (br_f hn (br_t h0 ⟨rfl, J⟩))
    · obtain ⟨j, hj, rfl⟩ := nI_of h0
      by_cases hjS : j < S
      · have e : (nI S - 1) - nI j = nI (S - 1 - j) := by rw [zn_s (by omega), pk_sub (by omega)]
        have hlt : nI j < nI S := nI_lt hjS (by omega)
        refine br_f h0 (br_t hlt ⟨by rw [e]; exact vp_in_nI (by omega) (by omega), br_f hn (br_f h0 (br_t hlt ⟨by rw [e]; exact vp_in_nI (by omega) (by omega), rfl, J⟩))⟩)
      · have hlt : ¬ nI j < nI S := nI_nlt (by omega) hj
        exact br_f h0 (br_f hlt (br_f hn (br_f h0 (br_f hlt ⟨rfl, J⟩))))
theorem i_vc_openName {k : Nat} {u : SX} {v : SY} (I : i_Rel k u v) (hk : k + 3 ≤ 1538) : wpX_openName (fun r => wpY_openName (fun r' => r' = r ∧ i_Rel (k + 3) u v) v) u := by
  have J := i_up I
  obtain ⟨N, C, U, S, op, lv, fn, fi, K, A, Ow, O, P, L, cl, rt, en, ss, so, sp, ds, R, E, pl, ww, lw, vi, vv, ps, pv, pt, yne, ysp, yvsp, ypn, yef, yet, yew, yb, ynb, yv, yx, ysv, ysi, yvs, ymo, ymv, yip, ypN, ypI, rfl, rfl, hR, hD, hE, h⟩ := I
  exact ⟨rfl, J⟩
theorem i_vc_used {k : Nat} {u : SX} {v : SY} (I : i_Rel k u v) (hk : k + 3 ≤ 1538) : wpX_used (fun r => wpY_used (fun r' => r' = r ∧ i_Rel (k + 3) u v) v) u := by
  have J := i_up I
  obtain ⟨N, C, U, S, op, lv, fn, fi, K, A, Ow, O, P, L, cl, rt, en, ss, so, sp, ds, R, E, pl, ww, lw, vi, vv, ps, pv, pt, yne, ysp, yvsp, ypn, yef, yet, yew, yb, ynb, yv, yx, ysv, ysi, yvs, ymo, ymv, yip, ypN, ypI, rfl, rfl, hR, hD, hE, h⟩ := I
  exact ⟨rfl, J⟩
theorem i_vc_value {k : Nat} {u : SX} {v : SY} (I : i_Rel k u v) (hk : k + 3 ≤ 1538) : wpX_value (fun r => wpY_value (fun r' => r' = r ∧ i_Rel (k + 3) u v) v) u := by
  have J := i_up I
  obtain ⟨N, C, U, S, op, lv, fn, fi, K, A, Ow, O, P, L, cl, rt, en, ss, so, sp, ds, R, E, pl, ww, lw, vi, vv, ps, pv, pt, yne, ysp, yvsp, ypn, yef, yet, yew, yb, ynb, yv, yx, ysv, ysi, yvs, ymo, ymv, yip, ypN, ypI, rfl, rfl, hR, hD, hE, h⟩ := I
  exact ⟨rfl, J⟩
theorem i_vc_faultName {k : Nat} {u : SX} {v : SY} (I : i_Rel k u v) (hk : k + 3 ≤ 1538) : wpX_faultName (fun r => wpY_faultName (fun r' => r' = r ∧ i_Rel (k + 3) u v) v) u := by
  have J := i_up I
  obtain ⟨N, C, U, S, op, lv, fn, fi, K, A, Ow, O, P, L, cl, rt, en, ss, so, sp, ds, R, E, pl, ww, lw, vi, vv, ps, pv, pt, yne, ysp, yvsp, ypn, yef, yet, yew, yb, ynb, yv, yx, ysv, ysi, yvs, ymo, ymv, yip, ypN, ypI, rfl, rfl, hR, hD, hE, h⟩ := I
  exact ⟨rfl, J⟩
theorem i_vc_faultIndex {k : Nat} {u : SX} {v : SY} (I : i_Rel k u v) (hk : k + 3 ≤ 1538) : wpX_faultIndex (fun r => wpY_faultIndex (fun r' => r' = r ∧ i_Rel (k + 3) u v) v) u := by
  have J := i_up I
  obtain ⟨N, C, U, S, op, lv, fn, fi, K, A, Ow, O, P, L, cl, rt, en, ss, so, sp, ds, R, E, pl, ww, lw, vi, vv, ps, pv, pt, yne, ysp, yvsp, ypn, yef, yet, yew, yb, ynb, yv, yx, ysv, ysi, yvs, ymo, ymv, yip, ypN, ypI, rfl, rfl, hR, hD, hE, h⟩ := I
  exact ⟨rfl, J⟩
theorem zx_nm0 {post : Int32 → Prop} {x : Int32} (h : x < 0 ∨ nI N ≤ x) (hp : post 0) : wpX_isName post ((nI N), (nI C), (nI U), op, (nI S), pl, lv, fn, fi, K, A, Ow, O, P, L, cl, rt, en, ss, so, sp, ww, lw, vi, vv, ps, pv, pt) x := by
  by_cases h0 : x < 0
  · exact br_t h0 hp
  · exact br_f h0 (br_t (h.resolve_left h0) hp)
theorem zx_nm1 {post : Int32 → Prop} {j : Nat} (h : j < N) (hN : N ≤ 8) (hp : post 1) : wpX_isName post ((nI N), (nI C), (nI U), op, (nI S), pl, lv, fn, fi, K, A, Ow, O, P, L, cl, rt, en, ss, so, sp, ww, lw, vi, vv, ps, pv, pt) (nI j) :=
  br_f (nI_pos (by omega)) (br_f (nI_ge h (by omega)) hp)
theorem i_vc_defined {k : Nat} {u : SX} {v : SY} (I : i_Rel k u v) (hk : k + 3 ≤ 1538) (v1 : Int32) : wpX_defined (fun r => wpY_defined (fun r' => r' = r ∧ i_Rel (k + 3) u v) v v1) u v1 := by
  have J := i_up I
  obtain ⟨N, C, U, S, op, lv, fn, fi, K, A, Ow, O, P, L, cl, rt, en, ss, so, sp, ds, R, E, pl, ww, lw, vi, vv, ps, pv, pt, yne, ysp, yvsp, ypn, yef, yet, yew, yb, ynb, yv, yx, ysv, ysi, yvs, ymo, ymv, yip, ypN, ypI, rfl, rfl, hR, hD, hE, h⟩ := I
  obtain ⟨⟨a1, a2, _⟩, _⟩ := h
  unfold wpX_defined
  by_cases hv : v1 < 0 ∨ nI N ≤ v1
  · refine zx_nm0 hv (br_t rfl ?_)
    by_cases h0 : v1 < 0
    · exact br_t h0 ⟨rfl, J⟩
    · exact br_f h0 (br_t (hv.resolve_left h0) ⟨rfl, J⟩)
  · obtain ⟨j, hj, rfl⟩ : ∃ j : Nat, j < N ∧ v1 = nI j := by
      rcases pk_ix v1 (n := N) (by omega) with h | h | h
      · exact absurd (Or.inl h) hv
      · exact absurd (Or.inr h) hv
      · exact h
    have hin : vp_in (nI j) 8 := vp_in_nI (by omega) (by omega)
    refine zx_nm1 hj a2 (br_f zn_10 ⟨hin, ?_⟩)
    by_cases hc : cl (nI j).toNatClampNeg = 0
    · exact br_t hc (br_f (nI_pos (by omega)) (br_f (nI_ge hj (by omega)) ⟨hin, br_t hc ⟨rfl, J⟩⟩))
    · exact br_f hc (br_f (nI_pos (by omega)) (br_f (nI_ge hj (by omega)) ⟨hin, br_f hc ⟨rfl, J⟩⟩))
theorem i_vc_cellKind {k : Nat} {u : SX} {v : SY} (I : i_Rel k u v) (hk : k + 3 ≤ 1538) (v1 : Int32) : wpX_cellKind (fun r => wpY_cellKind (fun r' => r' = r ∧ i_Rel (k + 3) u v) v v1) u v1 := by
  have J := i_up I
  obtain ⟨N, C, U, S, op, lv, fn, fi, K, A, Ow, O, P, L, cl, rt, en, ss, so, sp, ds, R, E, pl, ww, lw, vi, vv, ps, pv, pt, yne, ysp, yvsp, ypn, yef, yet, yew, yb, ynb, yv, yx, ysv, ysi, yvs, ymo, ymv, yip, ypN, ypI, rfl, rfl, hR, hD, hE, h⟩ := I
  obtain ⟨⟨a1, a2, a3, a4, a5⟩, _⟩ := h
  unfold wpX_cellKind wpX_isCell
  rcases pk_ix v1 (n := U) (by omega) with h | h | ⟨j, hj, rfl⟩
  · exact br_t h (br_t rfl (br_t h ⟨rfl, J⟩))
  · have h0 : ¬ v1 < 0 := Int32.not_lt.mpr (Int32.le_trans (nI_pos' (by omega)) h)
    exact br_f h0 (br_t h (br_t rfl (br_f h0 (br_f (Int32.not_lt.mpr h) ⟨rfl, J⟩))))
  · have h0 : ¬ nI j < 0 := nI_pos (by omega)
    have hin : vp_in (nI j) 96 := vp_in_nI (by omega) (by omega)
    exact br_f h0 (br_f (nI_ge hj (by omega)) (br_f zn_10 ⟨hin, br_f h0 (br_t (nI_lt hj (by omega)) ⟨hin, rfl, J⟩)⟩))
theorem i_vc_cellValue {k : Nat} {u : SX} {v : SY} (I : i_Rel k u v) (hk : k + 3 ≤ 1538) (v1 : Int32) : wpX_cellValue (fun r => wpY_cellValue (fun r' => r' = r ∧ i_Rel (k + 3) u v) v v1) u v1 := by
  have J := i_up I
  obtain ⟨N, C, U, S, op, lv, fn, fi, K, A, Ow, O, P, L, cl, rt, en, ss, so, sp, ds, R, E, pl, ww, lw, vi, vv, ps, pv, pt, yne, ysp, yvsp, ypn, yef, yet, yew, yb, ynb, yv, yx, ysv, ysi, yvs, ymo, ymv, yip, ypN, ypI, rfl, rfl, hR, hD, hE, h⟩ := I
  obtain ⟨⟨a1, a2, a3, a4, a5⟩, _⟩ := h
  unfold wpX_cellValue wpX_isCell
  rcases pk_ix v1 (n := U) (by omega) with h | h | ⟨j, hj, rfl⟩
  · exact br_t h (br_t rfl (br_t h ⟨rfl, J⟩))
  · have h0 : ¬ v1 < 0 := Int32.not_lt.mpr (Int32.le_trans (nI_pos' (by omega)) h)
    exact br_f h0 (br_t h (br_t rfl (br_f h0 (br_f (Int32.not_lt.mpr h) ⟨rfl, J⟩))))
  · have h0 : ¬ nI j < 0 := nI_pos (by omega)
    have hin : vp_in (nI j) 96 := vp_in_nI (by omega) (by omega)
    exact br_f h0 (br_f (nI_ge hj (by omega)) (br_f zn_10 ⟨hin, br_f h0 (br_t (nI_lt hj (by omega)) ⟨hin, rfl, J⟩)⟩))
end Z7
end
section
/-! reset, begin, token -/
def zk_cl (cl : Nat → Int32) : Nat → Nat → Int32
  | 0 => cl
  | i + 1 => upd (zk_cl cl i) i 0
theorem zk_cl_lo {cl : Nat → Int32} : ∀ i n, n < i → zk_cl cl i n = 0 := by
  intro i
  induction i with
  | zero => intro n h; omega
  | succ i ih =>
    intro n h
    show upd (zk_cl cl i) i 0 n = 0
    by_cases e : n = i
    · rw [e, pk_us]
    · rw [pk_un e]; exact ih n (by omega)
theorem zk_cl_hi {cl : Nat → Int32} : ∀ i n, i ≤ n → zk_cl cl i n = cl n := by
  intro i
  induction i with
  | zero => intro n _; rfl
  | succ i ih =>
    intro n h
    show upd (zk_cl cl i) i 0 n = cl n
    rw [pk_un (by omega)]; exact ih n (by omega)
def zk_n : Nat → Nat
  | 1 => 0
  | 11 => 0
  | 2 => 1
  | 7 => 1
  | _ => 2
def zk_ss (k S : Nat) (ss : Nat → Int32) : Nat → Int32 := match k with
  | 1 => ss
  | 11 => ss
  | 2 => upd ss S 2
  | 7 => upd ss S 2
  | 3 => upd (upd ss S 1) (S + 1) 1
  | 4 => upd (upd ss S 1) (S + 1) 1
  | 5 => upd (upd ss S 1) (S + 1) 1
  | 6 => upd (upd ss S 2) (S + 1) 1
  | _ => upd (upd ss S 2) (S + 1) 2
def zk_so (k S : Nat) (o : Int32) (so : Nat → Int32) : Nat → Int32 := match k with
  | 1 => so
  | 11 => so
  | 2 => upd so S o
  | 7 => upd so S (o + 1)
  | 6 => upd (upd so S (o - 1)) (S + 1) o
  | _ => upd (upd so S o) (S + 1) o
def zk_sp (k S : Nat) (c : Int32) (sp : Nat → Int32) : Nat → Int32 := match k with
  | 1 => sp
  | 11 => sp
  | 2 => upd sp S c
  | 7 => upd sp S c
  | _ => upd (upd sp S c) (S + 1) c
def zk_a (k : Nat) (a : Int32) : Int32 := if k = 1 then a else if k = 11 then a else 0
theorem zk_c {k : Nat} (h1 : 1 ≤ k) (h : k ≤ 11) : k = 1 ∨ k = 2 ∨ k = 3 ∨ k = 4 ∨ k = 5 ∨ k = 6 ∨ k = 7 ∨ k = 8 ∨ k = 9 ∨ k = 10 ∨ k = 11 := by omega
theorem zk_len {k c : Nat} {t : List (Nat × Bool)} (h1 : 1 ≤ k) (h : k ≤ 11) : (zs_kids (nI k) c ++ t).length = t.length + zk_n k := by
  rcases zk_c h1 h with rfl | rfl | rfl | rfl | rfl | rfl | rfl | rfl | rfl | rfl | rfl <;> rfl
theorem zk_st {K O so sp : Nat → Int32} {r k c S : Nat} {o : Int32} {t : List (Nat × Bool)} (h1 : 1 ≤ k) (h : k ≤ 11) (hr : r ≤ c) (hK : K c = nI k) (hO : O c = o) (hS : S = t.length)
    (hst : zs_st (fun i x => sp i = nI x.1 ∧ so i = zs_so K O r x) t) :
    zs_st (fun i x => zk_sp k S (nI c) sp i = nI x.1 ∧ zk_so k S o so i = zs_so K O r x) (zs_kids (nI k) c ++ t) := by
  have hx : ∀ b, ¬ nI k = 7 → ¬ nI k = 6 → o = zs_so K O r (c, b) := fun b a1 a2 => by rw [zo_x hr (by rw [hK]; exact a1) (by rw [hK]; exact a2)]; exact hO.symm
  rcases zk_c h1 h with rfl | rfl | rfl | rfl | rfl | rfl | rfl | rfl | rfl | rfl | rfl
  · exact hst
  · exact zs_st_push (q := fun x y z => x = nI z.1 ∧ y = zs_so K O r z) (a := sp) (b := so) hS ⟨rfl, hx true (by decide) (by decide)⟩ hst
  · exact zs_st_push (q := fun x y z => x = nI z.1 ∧ y = zs_so K O r z) (n := S + 1) (s := (c, true)) (by rw [hS]; rfl) ⟨rfl, hx true (by decide) (by decide)⟩ (zs_st_push (q := fun x y z => x = nI z.1 ∧ y = zs_so K O r z) (a := sp) (b := so) (s := (c, false)) hS ⟨rfl, hx false (by decide) (by decide)⟩ hst)
  · exact zs_st_push (q := fun x y z => x = nI z.1 ∧ y = zs_so K O r z) (n := S + 1) (s := (c, true)) (by rw [hS]; rfl) ⟨rfl, hx true (by decide) (by decide)⟩ (zs_st_push (q := fun x y z => x = nI z.1 ∧ y = zs_so K O r z) (a := sp) (b := so) (s := (c, false)) hS ⟨rfl, hx false (by decide) (by decide)⟩ hst)
  · exact zs_st_push (q := fun x y z => x = nI z.1 ∧ y = zs_so K O r z) (n := S + 1) (s := (c, true)) (by rw [hS]; rfl) ⟨rfl, hx true (by decide) (by decide)⟩ (zs_st_push (q := fun x y z => x = nI z.1 ∧ y = zs_so K O r z) (a := sp) (b := so) (s := (c, false)) hS ⟨rfl, hx false (by decide) (by decide)⟩ hst)
  · exact zs_st_push (q := fun x y z => x = nI z.1 ∧ y = zs_so K O r z) (n := S + 1) (s := (c, true)) (by rw [hS]; rfl) ⟨rfl, by rw [zo_6t hr hK, hO]⟩ (zs_st_push (q := fun x y z => x = nI z.1 ∧ y = zs_so K O r z) (a := sp) (b := so) (s := (c, false)) hS ⟨rfl, by rw [zo_6f hr hK, hO]⟩ hst)
  · exact zs_st_push (q := fun x y z => x = nI z.1 ∧ y = zs_so K O r z) (a := sp) (b := so) hS ⟨rfl, by rw [zo_7 hr hK, hO]⟩ hst
  · exact zs_st_push (q := fun x y z => x = nI z.1 ∧ y = zs_so K O r z) (n := S + 1) (s := (c, true)) (by rw [hS]; rfl) ⟨rfl, hx true (by decide) (by decide)⟩ (zs_st_push (q := fun x y z => x = nI z.1 ∧ y = zs_so K O r z) (a := sp) (b := so) (s := (c, false)) hS ⟨rfl, hx false (by decide) (by decide)⟩ hst)
  · exact zs_st_push (q := fun x y z => x = nI z.1 ∧ y = zs_so K O r z) (n := S + 1) (s := (c, true)) (by rw [hS]; rfl) ⟨rfl, hx true (by decide) (by decide)⟩ (zs_st_push (q := fun x y z => x = nI z.1 ∧ y = zs_so K O r z) (a := sp) (b := so) (s := (c, false)) hS ⟨rfl, hx false (by decide) (by decide)⟩ hst)
  · exact zs_st_push (q := fun x y z => x = nI z.1 ∧ y = zs_so K O r z) (n := S + 1) (s := (c, true)) (by rw [hS]; rfl) ⟨rfl, hx true (by decide) (by decide)⟩ (zs_st_push (q := fun x y z => x = nI z.1 ∧ y = zs_so K O r z) (a := sp) (b := so) (s := (c, false)) hS ⟨rfl, hx false (by decide) (by decide)⟩ hst)
  · exact hst
section Z8
variable {N C U S : Nat} {op lv fn fi pl yne ysp yvsp ypn : Int32}
variable {K A Ow O P L cl rt en ss so sp ds ww lw vi vv ps pv pt yef yet yew yb ynb yv yx ysv ysi yvs ymo ymv yip ypN ypI : Nat → Int32}
variable {R E : Nat → Nat}
theorem zx_reset {post : SX → Prop} (hp : post ((nI N), (nI C), (nI U), (-1), 0, pl, 0, (-1), (-1), K, A, Ow, O, P, L, (zk_cl cl 8), rt, en, ss, so, sp, ww, lw, vi, vv, ps, pv, pt)) :
    ∀ d i, i + d = 8 → wX_reset_7 post (nI N) (nI C) (nI U) op (nI S) pl lv fn fi (d + 1) (nI i) K A Ow O P L (zk_cl cl i) rt en ss so sp ww lw vi vv ps pv pt := by
  intro d
  induction d with
  | zero => intro i hi; obtain rfl : i = 8 := by omega
            exact br_t (by decide) hp
  | succ d ih => intro i hi; exact br_f (nI_ge (b := 8) (by omega) (by decide)) ⟨vp_in_nI (by omega) (by omega), nm_r (e' := zk_cl cl (i + 1)) (by rw [nI_clamp (by omega), zb_0]; rfl) (nm_r (nI_1 i) (ih (i + 1) (by omega)))⟩
theorem zy_reset {post : SY → Prop} (hp : post ((nI N), (nI C), (nI U), op, (nI S), yne, ysp, yvsp, ypn, 0, (-1), (-1), K, A, (zk_cl cl 8), ds, en, ss, yef, yet, yew, yb, ynb, yv, yx, ysv, ysi, yvs, ymo, ymv, yip, ypN, ypI)) :
    ∀ d i, i + d = 8 → wY_reset_17 post (nI N) (nI C) (nI U) op (nI S) yne ysp yvsp ypn lv fn fi (d + 1) (nI i) K A (zk_cl cl i) ds en ss yef yet yew yb ynb yv yx ysv ysi yvs ymo ymv yip ypN ypI := by
  intro d
  induction d with
  | zero => intro i hi; obtain rfl : i = 8 := by omega
            exact br_t (by decide) hp
  | succ d ih => intro i hi; exact br_f (nI_ge (b := 8) (by omega) (by decide)) ⟨vp_in_nI (by omega) (by omega), nm_r (e' := zk_cl cl (i + 1)) (by rw [nI_clamp (by omega), zb_0]; rfl) (nm_r (nI_1 i) (ih (i + 1) (by omega)))⟩
theorem i_vc_reset {k : Nat} {u : SX} {v : SY} (I : i_Rel k u v) (hk : k + 3 ≤ 1538) : wpX_reset (fun u' => wpY_reset (fun v' => i_Rel (k + 3) u' v') v) u := by
  obtain ⟨N, C, U, S, op, lv, fn, fi, K, A, Ow, O, P, L, cl, rt, en, ss, so, sp, ds, R, E, pl, ww, lw, vi, vv, ps, pv, pt, yne, ysp, yvsp, ypn, yef, yet, yew, yb, ynb, yv, yx, ysv, ysi, yvs, ymo, ymv, yip, ypN, ypI, rfl, rfl, hR, hD, hE, h⟩ := I
  refine ⟨_, zx_reset (U := 0) ?_ 8 0 rfl⟩
  refine ⟨_, zy_reset (U := 0) (S := 0) ?_ 8 0 rfl⟩
  refine zr_mk (U := 0) (S := 0) hR hD hE (zi_reset h (fun n hn => zk_cl_lo 8 n hn) (fun n => ?_))
  by_cases hn : n < 8
  · exact Or.inl (zk_cl_lo 8 n hn)
  · rw [zk_cl_hi 8 n (by omega)]; exact h.2.1 n
theorem zx_append {post : SX → Prop} {x y : Int32} (hU : U < 96) (hp : post ((nI N), (nI C), (nI (U + 1)), op, (nI S), pl, lv, fn, fi, (upd K U x), (upd A U y), (upd Ow U op), O, P, L, cl, rt, en, ss, so, sp, ww, lw, vi, vv, ps, pv, pt)) : wpX_appendCell post ((nI N), (nI C), (nI U), op, (nI S), pl, lv, fn, fi, K, A, Ow, O, P, L, cl, rt, en, ss, so, sp, ww, lw, vi, vv, ps, pv, pt) x y := by
  have e : (nI U).toNatClampNeg = U := nI_clamp (by omega)
  have hin : vp_in (nI U) 96 := vp_in_nI hU (by omega)
  exact ⟨hin, nm_r (by rw [e]) ⟨hin, nm_r (by rw [e]) ⟨hin, nm_r (by rw [e]) (nm_r (nI_1 U) hp)⟩⟩⟩
theorem zx_put {post : SX → Prop} {x y z : Int32} (hS : S < 96) (hp : post ((nI N), (nI C), (nI U), op, (nI (S + 1)), pl, lv, fn, fi, K, A, Ow, O, P, L, cl, rt, en, (upd ss S x), (upd so S y), (upd sp S z), ww, lw, vi, vv, ps, pv, pt)) : wpX_putSlot post ((nI N), (nI C), (nI U), op, (nI S), pl, lv, fn, fi, K, A, Ow, O, P, L, cl, rt, en, ss, so, sp, ww, lw, vi, vv, ps, pv, pt) x y z := by
  have e : (nI S).toNatClampNeg = S := nI_clamp (by omega)
  have hin : vp_in (nI S) 96 := vp_in_nI hS (by omega)
  exact ⟨hin, nm_r (by rw [e]) ⟨hin, nm_r (by rw [e]) ⟨hin, nm_r (by rw [e]) (nm_r (nI_1 S) hp)⟩⟩⟩
theorem i_vc_begin {k : Nat} {u : SX} {v : SY} (I : i_Rel k u v) (hk : k + 3 ≤ 1538) (v1 : Int32) : wpX_begin (fun r u' => wpY_begin (fun r' v' => r' = r ∧ i_Rel (k + 3) u' v') v v1) u v1 := by
  have J := i_up I
  obtain ⟨N, C, U, S, op, lv, fn, fi, K, A, Ow, O, P, L, cl, rt, en, ss, so, sp, ds, R, E, pl, ww, lw, vi, vv, ps, pv, pt, yne, ysp, yvsp, ypn, yef, yet, yew, yb, ynb, yv, yx, ysv, ysi, yvs, ymo, ymv, yip, ypN, ypI, rfl, rfl, hR, hD, hE, h⟩ := I
  have hb := h.1
  have ho := h.2.2.2.2.2.2
  rcases ho with ⟨rfl, rfl⟩ | ⟨o, h1, rfl, _⟩
  · refine br_t rfl ?_
    by_cases hv : v1 < 0 ∨ nI N ≤ v1
    · refine zx_nm0 hv (br_t rfl (br_f (by decide) ?_))
      by_cases h0 : v1 < 0
      · exact br_t h0 ⟨rfl, J⟩
      · exact br_f h0 (br_t (hv.resolve_left h0) ⟨rfl, J⟩)
    · obtain ⟨j, hj, rfl⟩ : ∃ j : Nat, j < N ∧ v1 = nI j := by
        rcases pk_ix v1 (n := N) (by omega) with h | h | h
        · exact absurd (Or.inl h) hv
        · exact absurd (Or.inr h) hv
        · exact h
      have hin : vp_in (nI j) 8 := vp_in_nI (by omega) (by omega)
      have ej : (nI j).toNatClampNeg = j := nI_clamp (by omega)
      have hj0 : ¬ nI j < 0 := nI_pos (by omega)
      have hjN : ¬ nI N ≤ nI j := nI_ge hj (by omega)
      refine zx_nm1 hj (by omega) (br_f zn_10 ⟨hin, ?_⟩)
      by_cases hc : cl (nI j).toNatClampNeg = 0
      · refine br_t hc ?_
        by_cases hU : U < C
        · have eU : (nI U).toNatClampNeg = U := nI_clamp (by omega)
          have hU96 : vp_in (nI U) 96 := vp_in_nI (by omega) (by omega)
          refine br_t (nI_lt hU (by omega)) (zx_append (by omega) ⟨hin, nm_r (by rw [ej]) (zx_put (S := 0) (by omega) ?_)⟩)
          refine br_f (by decide) (br_f hj0 (br_f hjN ⟨hin, br_t hc (br_f (fun z => absurd (zn_im z (by omega) (by omega)) (by omega)) ⟨hU96, nm_r (by rw [eU]) ⟨hU96, nm_r (by rw [eU]) ⟨hin, nm_r (by rw [ej]) (nm_r (nI_1 U) (nm_e ?_))⟩⟩⟩)⟩))
          rw [ej] at hc
          refine ⟨rfl, zr_mk (U := U + 1) (S := 1) (zi_upd hR) (fun n => ?_) hE (zi_begin h hj hc hU)⟩
          by_cases e : n = j
          · rw [e, pk_us, zi_uns]; rfl
          · rw [pk_un e, zi_unn e]; exact hD n
        · have eq : U = C := by omega
          refine br_f (nI_nlt (by omega) (by omega)) (br_f (by decide) (br_f hj0 (br_f hjN ⟨hin, br_t hc (br_t (by rw [eq]) ⟨rfl, J⟩)⟩)))
      · exact br_f hc (br_f (by decide) (br_f hj0 (br_f hjN ⟨hin, br_f hc ⟨rfl, J⟩⟩)))
  · exact br_f (zn_ne1 (by omega)) (br_t (nI_pos' (by omega)) ⟨rfl, J⟩)
theorem zx_fill {post : SX → Prop} {p c : Nat} {o : Int32} (hS : S < 96) (hp' : sp S = nI p) (ho : so S = o) (hp96 : p < 96) (hc : c < 96)
    (hp : post ((nI N), (nI C), (nI U), op, (nI S), pl, lv, fn, fi, K, A, Ow, (upd O c o), (upd P c (nI p)), (upd L p (nI c)), cl, rt, en, ss, so, sp, ww, lw, vi, vv, ps, pv, pt)) : wpX_fillNextSlot post ((nI N), (nI C), (nI U), op, (nI (S + 1)), pl, lv, fn, fi, K, A, Ow, O, P, L, cl, rt, en, ss, so, sp, ww, lw, vi, vv, ps, pv, pt) (nI c) := by
  have e : (nI S).toNatClampNeg = S := nI_clamp (by omega)
  have ec : (nI c).toNatClampNeg = c := nI_clamp (by omega)
  have ep : (nI p).toNatClampNeg = p := nI_clamp (by omega)
  have hin : vp_in (nI S) 96 := vp_in_nI hS (by omega)
  have hic : vp_in (nI c) 96 := vp_in_nI hc (by omega)
  have hip : vp_in (nI p) 96 := vp_in_nI hp96 (by omega)
  exact nm_r (nI_pred S) ⟨hin, nm_r (by rw [e, hp']) ⟨hin, hic, nm_r (by rw [e, ec, ho]) ⟨hic, nm_r (by rw [ec]) ⟨hip, nm_r (by rw [ep]) hp⟩⟩⟩⟩
theorem zx_kids {post : SX → Prop} {k c : Nat} {o : Int32} (h1 : 1 ≤ k) (h : k ≤ 11) (hc : c < 96) (hK : K c = nI k) (hO : O c = o) (hS : S + 2 ≤ 96)
    (hp : post ((nI N), (nI C), (nI U), op, (nI (S + zk_n k)), pl, lv, fn, fi, K, A, Ow, O, P, L, cl, rt, en, (zk_ss k S ss), (zk_so k S o so), (zk_sp k S (nI c) sp), ww, lw, vi, vv, ps, pv, pt)) : wpX_putChildSlots post ((nI N), (nI C), (nI U), op, (nI S), pl, lv, fn, fi, K, A, Ow, O, P, L, cl, rt, en, ss, so, sp, ww, lw, vi, vv, ps, pv, pt) (nI c) := by
  have ec : (nI c).toNatClampNeg = c := nI_clamp (by omega)
  have hic : vp_in (nI c) 96 := vp_in_nI hc (by omega)
  rcases zk_c h1 h with rfl | rfl | rfl | rfl | rfl | rfl | rfl | rfl | rfl | rfl | rfl
  · exact ⟨hic, nm_r (by rw [ec, hO]) ⟨hic, nm_r (e' := nI 1) (by rw [ec, hK]) (br_t (by decide) (hp))⟩⟩
  · exact ⟨hic, nm_r (by rw [ec, hO]) ⟨hic, nm_r (e' := nI 2) (by rw [ec, hK]) (br_f (by decide) (br_f (by decide) (br_t (by decide) (zx_put (by omega) hp))))⟩⟩
  · exact ⟨hic, nm_r (by rw [ec, hO]) ⟨hic, nm_r (e' := nI 3) (by rw [ec, hK]) (br_f (by decide) (br_f (by decide) (br_f (by decide) (br_t (by decide) (zx_put (by omega) (zx_put (by omega) hp))))))⟩⟩
  · exact ⟨hic, nm_r (by rw [ec, hO]) ⟨hic, nm_r (e' := nI 4) (by rw [ec, hK]) (br_f (by decide) (br_f (by decide) (br_f (by decide) (br_f (by decide) (br_t (by decide) (zx_put (by omega) (zx_put (by omega) hp)))))))⟩⟩
  · exact ⟨hic, nm_r (by rw [ec, hO]) ⟨hic, nm_r (e' := nI 5) (by rw [ec, hK]) (br_f (by decide) (br_f (by decide) (br_f (by decide) (br_f (by decide) (br_f (by decide) (br_t (by decide) (zx_put (by omega) (zx_put (by omega) hp))))))))⟩⟩
  · exact ⟨hic, nm_r (by rw [ec, hO]) ⟨hic, nm_r (e' := nI 6) (by rw [ec, hK]) (br_f (by decide) (br_f (by decide) (br_f (by decide) (br_f (by decide) (br_f (by decide) (br_f (by decide) (br_t (by decide) (zx_put (by omega) (zx_put (by omega) hp)))))))))⟩⟩
  · exact ⟨hic, nm_r (by rw [ec, hO]) ⟨hic, nm_r (e' := nI 7) (by rw [ec, hK]) (br_f (by decide) (br_f (by decide) (br_f (by decide) (br_f (by decide) (br_f (by decide) (br_f (by decide) (br_f (by decide) (br_t (by decide) (zx_put (by omega) hp)))))))))⟩⟩
  · exact ⟨hic, nm_r (by rw [ec, hO]) ⟨hic, nm_r (e' := nI 8) (by rw [ec, hK]) (br_f (by decide) (br_f (by decide) (br_f (by decide) (br_f (by decide) (br_f (by decide) (br_f (by decide) (br_f (by decide) (br_f (by decide) (br_t (by decide) (zx_put (by omega) (zx_put (by omega) hp)))))))))))⟩⟩
  · exact ⟨hic, nm_r (by rw [ec, hO]) ⟨hic, nm_r (e' := nI 9) (by rw [ec, hK]) (br_f (by decide) (br_f (by decide) (br_f (by decide) (br_f (by decide) (br_f (by decide) (br_f (by decide) (br_f (by decide) (br_f (by decide) (br_f (by decide) (br_t (by decide) (zx_put (by omega) (zx_put (by omega) hp))))))))))))⟩⟩
  · exact ⟨hic, nm_r (by rw [ec, hO]) ⟨hic, nm_r (e' := nI 10) (by rw [ec, hK]) (br_f (by decide) (br_f (by decide) (br_f (by decide) (br_f (by decide) (br_f (by decide) (br_f (by decide) (br_f (by decide) (br_f (by decide) (br_f (by decide) (br_f (by decide) (br_t (by decide) (zx_put (by omega) (zx_put (by omega) hp)))))))))))))⟩⟩
  · exact ⟨hic, nm_r (by rw [ec, hO]) ⟨hic, nm_r (e' := nI 11) (by rw [ec, hK]) (br_f (by decide) (br_t (by decide) (hp)))⟩⟩
theorem zx_62 {post : Int32 → SX → Prop} {k p o' : Nat} {a o : Int32} (h1 : 1 ≤ k) (h : k ≤ 11) (hU : U < 96) (ho' : o' < 8) (hS : S + 2 ≤ 96) (hp' : sp S = nI p) (ho : so S = o) (hp96 : p < 96)
    (hz : S + zk_n k = 0 → post 1 ((nI N), (nI C), (nI (U + 1)), (-1), (nI (S + zk_n k)), pl, lv, fn, fi, (upd K U (nI k)), (upd A U a), (upd Ow U (nI o')), (upd O U o), (upd P U (nI p)), (upd L p (nI U)), (upd cl o' 1), rt, (upd en o' (nI (U + 1))), (zk_ss k S ss), (zk_so k S o so), (zk_sp k S (nI U) sp), ww, lw, vi, vv, ps, pv, pt))
    (hn : S + zk_n k ≠ 0 → post 1 ((nI N), (nI C), (nI (U + 1)), (nI o'), (nI (S + zk_n k)), pl, lv, fn, fi, (upd K U (nI k)), (upd A U a), (upd Ow U (nI o')), (upd O U o), (upd P U (nI p)), (upd L p (nI U)), cl, rt, en, (zk_ss k S ss), (zk_so k S o so), (zk_sp k S (nI U) sp), ww, lw, vi, vv, ps, pv, pt)) :
    wX_token_62 post (nI U) a (nI k) (nI N) (nI C) (nI U) (nI o') (nI (S + 1)) pl lv fn fi K A Ow O P L cl rt en ss so sp ww lw vi vv ps pv pt := by
  have hn2 : zk_n k ≤ 2 := by rcases zk_c h1 h with rfl | rfl | rfl | rfl | rfl | rfl | rfl | rfl | rfl | rfl | rfl <;> decide
  unfold wX_token_62
  refine zx_append hU (zx_fill (by omega) hp' ho hp96 hU (zx_kids h1 h hU pk_us pk_us hS ?_))
  by_cases hz0 : S + zk_n k = 0
  · refine br_t (by rw [hz0]; rfl) ?_
    have e : (nI o').toNatClampNeg = o' := nI_clamp (by omega)
    have hin : vp_in (nI o') 8 := vp_in_nI ho' (by omega)
    exact ⟨hin, nm_r (by rw [e, zb_1]) ⟨hin, nm_r (by rw [e]) (hz hz0)⟩⟩
  · exact br_f (nI_ne0 (by omega) (by omega)) (hn hz0)
theorem zx_26 {post : Int32 → SX → Prop} {k : Nat} {a : Int32} (h : k ≤ 11) (hU : U < C) (hC : C ≤ 96) (hp : wX_token_62 post (nI U) (zk_a k a) (nI k) (nI N) (nI C) (nI U) op (nI S) pl lv fn fi K A Ow O P L cl rt en ss so sp ww lw vi vv ps pv pt) : wX_token_26 post (nI k) a (nI N) (nI C) (nI U) op (nI S) pl lv fn fi K A Ow O P L cl rt en ss so sp ww lw vi vv ps pv pt := by
  refine br_t (nI_lt hU (by omega)) ?_
  unfold zk_a at hp
  by_cases e1 : k = 1
  · rw [if_pos e1] at hp
    exact br_t (by rw [e1]; rfl) hp
  · rw [if_neg e1] at hp
    refine br_f (fun z => e1 (zn_im (b := 1) z (by omega) (by omega))) ?_
    by_cases e2 : k = 11
    · rw [if_pos e2] at hp
      exact br_t (by rw [e2]; rfl) hp
    · rw [if_neg e2] at hp
      exact br_f (fun z => e2 (zn_im (b := 11) z (by omega) (by omega))) hp
theorem zy_pushS {post : SY → Prop} {x : Int32} (hS : S < 100) (hp : post ((nI N), (nI C), (nI U), op, (nI (S + 1)), yne, ysp, yvsp, ypn, lv, fn, fi, K, A, cl, ds, en, (upd ss S x), yef, yet, yew, yb, ynb, yv, yx, ysv, ysi, yvs, ymo, ymv, yip, ypN, ypI)) : wpY_pushSlot post ((nI N), (nI C), (nI U), op, (nI S), yne, ysp, yvsp, ypn, lv, fn, fi, K, A, cl, ds, en, ss, yef, yet, yew, yb, ynb, yv, yx, ysv, ysi, yvs, ymo, ymv, yip, ypN, ypI) x := by
  have e : (nI S).toNatClampNeg = S := nI_clamp (by omega)
  exact br_f (nI_ge (b := 100) hS (by decide)) ⟨vp_in_nI hS (by omega), nm_r (by rw [e]) (nm_r (nI_1 S) hp)⟩
theorem zy_122 {post : Int32 → SY → Prop} {k : Nat} {a : Int32} (h1 : 1 ≤ k) (h : k ≤ 11) (hU : U < 96) (hS : S + 2 ≤ 96)
    (hp : wY_token_231 post (nI N) (nI C) (nI (U + 1)) op (nI (S + zk_n k)) yne ysp yvsp ypn lv fn fi K (upd A U a) cl ds en (zk_ss k S ss) yef yet yew yb ynb yv yx ysv ysi yvs ymo ymv yip ypN ypI) : wY_token_122 post (nI k) a (nI U) (nI N) (nI C) (nI U) op (nI (S + 1)) yne ysp yvsp ypn lv fn fi K A cl ds en ss yef yet yew yb ynb yv yx ysv ysi yvs ymo ymv yip ypN ypI := by
  have e : (nI U).toNatClampNeg = U := nI_clamp (by omega)
  refine ⟨vp_in_nI hU (by omega), nm_r (e' := upd A U a) (by rw [e]) (nm_r (nI_1 U) (nm_r (nI_pred S) ?_))⟩
  rcases zk_c h1 h with rfl | rfl | rfl | rfl | rfl | rfl | rfl | rfl | rfl | rfl | rfl
  · exact br_f (by decide) (br_f (by decide) (br_f (by decide) (br_f (by decide) (br_f (by decide) (br_f (by decide) (br_t (by decide) (hp)))))))
  · exact br_t (by decide) (zy_pushS (by omega) hp)
  · exact br_f (by decide) (br_f (by decide) (br_t (by decide) (zy_pushS (by omega) (zy_pushS (by omega) hp))))
  · exact br_f (by decide) (br_f (by decide) (br_f (by decide) (br_t (by decide) (zy_pushS (by omega) (zy_pushS (by omega) hp)))))
  · exact br_f (by decide) (br_f (by decide) (br_f (by decide) (br_f (by decide) (br_t (by decide) (zy_pushS (by omega) (zy_pushS (by omega) hp))))))
  · exact br_f (by decide) (br_f (by decide) (br_f (by decide) (br_f (by decide) (br_f (by decide) (br_t (by decide) (zy_pushS (by omega) (zy_pushS (by omega) hp)))))))
  · exact br_f (by decide) (br_t (by decide) (zy_pushS (by omega) hp))
  · exact br_f (by decide) (br_f (by decide) (br_f (by decide) (br_f (by decide) (br_f (by decide) (br_f (by decide) (br_f (by decide) (br_f (by decide) (zy_pushS (by omega) (zy_pushS (by omega) hp)))))))))
  · exact br_f (by decide) (br_f (by decide) (br_f (by decide) (br_f (by decide) (br_f (by decide) (br_f (by decide) (br_f (by decide) (br_f (by decide) (zy_pushS (by omega) (zy_pushS (by omega) hp)))))))))
  · exact br_f (by decide) (br_f (by decide) (br_f (by decide) (br_f (by decide) (br_f (by decide) (br_f (by decide) (br_f (by decide) (br_f (by decide) (zy_pushS (by omega) (zy_pushS (by omega) hp)))))))))
  · exact br_f (by decide) (br_f (by decide) (br_f (by decide) (br_f (by decide) (br_f (by decide) (br_f (by decide) (br_f (by decide) (br_t (by decide) (hp))))))))
theorem zy_75 {post : Int32 → SY → Prop} {k : Nat} {a : Int32} (h : k ≤ 11) (hU : U < C) (hC : C ≤ 96) (hp : wY_token_122 post (nI k) (zk_a k a) (nI U) (nI N) (nI C) (nI U) op (nI S) yne ysp yvsp ypn lv fn fi (upd K U (nI k)) A cl ds en ss yef yet yew yb ynb yv yx ysv ysi yvs ymo ymv yip ypN ypI) : wY_token_75 post (nI k) a (nI N) (nI C) (nI U) op (nI S) yne ysp yvsp ypn lv fn fi K A cl ds en ss yef yet yew yb ynb yv yx ysv ysi yvs ymo ymv yip ypN ypI := by
  have e : (nI U).toNatClampNeg = U := nI_clamp (by omega)
  refine br_f (fun z => absurd (zn_im z (by omega) (by omega)) (by omega)) ⟨vp_in_nI (by omega) (by omega), nm_r (e' := upd K U (nI k)) (by rw [e]) ?_⟩
  unfold zk_a at hp
  by_cases e1 : k = 1
  · rw [if_pos e1] at hp
    exact br_t (by rw [e1]; rfl) hp
  · rw [if_neg e1] at hp
    refine br_f (fun z => e1 (zn_im (b := 1) z (by omega) (by omega))) ?_
    by_cases e2 : k = 11
    · rw [if_pos e2] at hp
      exact br_t (by rw [e2]; rfl) hp
    · rw [if_neg e2] at hp
      exact br_f (fun z => e2 (zn_im (b := 11) z (by omega) (by omega))) hp
def zk_srt (k : Nat) : Int32 := if 5 < k then 2 else 1
theorem zx_fits {post : Int32 → Prop} {k : Nat} (h1 : 1 ≤ k) (h : k ≤ 11) (hS : S + 1 ≤ 96) (hy : zk_srt k = ss S → post 1) (hn : ¬ zk_srt k = ss S → post 0) : wpX_fitsNextSlot post ((nI N), (nI C), (nI U), op, (nI (S + 1)), pl, lv, fn, fi, K, A, Ow, O, P, L, cl, rt, en, ss, so, sp, ww, lw, vi, vv, ps, pv, pt) (nI k) := by
  have e : nI (S + 1) - 1 = nI S := nI_pred S
  have ec : (nI S).toNatClampNeg = S := nI_clamp (by omega)
  have hin : vp_in (nI (S + 1) - 1) 96 := by rw [e]; exact vp_in_nI (by omega) (by omega)
  refine br_f (nI_nlt (b := 1) (by omega) (by omega)) (br_f (nI_nlt (a := 11) (by omega) (by decide)) (br_f (nI_ne0 (by omega) (by omega)) ?_))
  unfold zk_srt at hy hn
  by_cases h5 : 5 < k
  · rw [if_pos h5] at hy hn
    refine br_t (nI_lt (a := 5) h5 (by omega)) ⟨hin, ?_⟩
    rw [e, ec]
    exact br_c hy hn
  · rw [if_neg h5] at hy hn
    refine br_f (nI_nlt (a := 5) (by omega) (by decide)) ⟨hin, ?_⟩
    rw [e, ec]
    exact br_c hy hn
theorem zy_tk {post : Int32 → SY → Prop} {k o : Nat} {a : Int32} (h1 : 1 ≤ k) (h : k ≤ 11) (ho : o < 8) (hN : N ≤ 8) (hS : S + 1 ≤ 96) (hn : ¬ zk_srt k = ss S → post 0 ((nI N), (nI C), (nI U), (nI o), (nI (S + 1)), yne, ysp, yvsp, ypn, lv, fn, fi, K, A, cl, ds, en, ss, yef, yet, yew, yb, ynb, yv, yx, ysv, ysi, yvs, ymo, ymv, yip, ypN, ypI))
    (hb : zk_srt k = ss S → k = 11 → (a < 0 ∨ nI N ≤ a) → post 0 ((nI N), (nI C), (nI U), (nI o), (nI (S + 1)), yne, ysp, yvsp, ypn, lv, fn, fi, K, A, cl, ds, en, ss, yef, yet, yew, yb, ynb, yv, yx, ysv, ysi, yvs, ymo, ymv, yip, ypN, ypI))
    (hy : zk_srt k = ss S → (k = 11 → ∃ m, m < N ∧ a = nI m) → wY_token_75 post (nI k) a (nI N) (nI C) (nI U) (nI o) (nI (S + 1)) yne ysp yvsp ypn lv fn fi K A cl ds en ss yef yet yew yb ynb yv yx ysv ysi yvs ymo ymv yip ypN ypI) : wpY_token post ((nI N), (nI C), (nI U), (nI o), (nI (S + 1)), yne, ysp, yvsp, ypn, lv, fn, fi, K, A, cl, ds, en, ss, yef, yet, yew, yb, ynb, yv, yx, ysv, ysi, yvs, ymo, ymv, yip, ypN, ypI) (nI k) a := by
  have e : nI (S + 1) - 1 = nI S := nI_pred S
  have ec : (nI S).toNatClampNeg = S := nI_clamp (by omega)
  have hin : vp_in (nI (S + 1) - 1) 100 := by rw [e]; exact vp_in_nI (by omega) (by omega)
  have go : ∀ z0 : Int32, zk_srt k = z0 → wY_token_30 post (nI k) a z0 (nI N) (nI C) (nI U) (nI o) (nI (S + 1)) yne ysp yvsp ypn lv fn fi K A cl ds en ss yef yet yew yb ynb yv yx ysv ysi yvs ymo ymv yip ypN ypI := by
    intro z0 hz
    refine br_f (nI_nle (by omega) (by omega)) ⟨hin, ?_⟩
    rw [e, ec]
    by_cases hs : ss S = z0
    · refine br_t hs ?_
      have hs' : zk_srt k = ss S := hz.trans hs.symm
      by_cases h11 : k = 11
      · refine br_t (by rw [h11]; rfl) ?_
        rcases pk_ix a (n := N) (by omega) with hx | hx | ⟨m, hm, em⟩
        · exact br_t hx (hb hs' h11 (Or.inl hx))
        · by_cases h0 : a < 0
          · exact br_t h0 (hb hs' h11 (Or.inl h0))
          · exact br_f h0 (br_f (Int32.not_lt.mpr hx) (hb hs' h11 (Or.inr hx)))
        · refine br_f (by rw [em]; exact nI_pos (by omega)) (br_t (by rw [em]; exact nI_lt hm (by omega)) (hy hs' (fun _ => ⟨m, hm, em⟩)))
      · exact br_f (fun z => h11 (zn_im (b := 11) z (by omega) (by omega))) (hy hs' (fun z => absurd z h11))
    · exact br_f hs (hn (fun z => hs (z.symm.trans hz)))
  refine br_f (nI_nlt (b := 1) (by omega) (by omega)) (br_f (nI_nlt (a := 11) (by omega) (by decide)) (br_t (nI_pos' (by omega)) ?_))
  by_cases h5 : 5 < k
  · exact br_t (nI_lt (a := 5) h5 (by omega)) (go 2 (by unfold zk_srt; rw [if_pos h5]))
  · exact br_f (nI_nlt (a := 5) (by omega) (by decide)) (go 1 (by unfold zk_srt; rw [if_neg h5]))
theorem zx_tk {post : Int32 → SX → Prop} {k o : Nat} {a : Int32} (h1 : 1 ≤ k) (h : k ≤ 11) (ho : o < 8) (hN : N ≤ 8) (hS : S + 1 ≤ 96) (hn : ¬ zk_srt k = ss S → post 0 ((nI N), (nI C), (nI U), (nI o), (nI (S + 1)), pl, lv, fn, fi, K, A, Ow, O, P, L, cl, rt, en, ss, so, sp, ww, lw, vi, vv, ps, pv, pt))
    (hb : zk_srt k = ss S → k = 11 → (a < 0 ∨ nI N ≤ a) → post 0 ((nI N), (nI C), (nI U), (nI o), (nI (S + 1)), pl, lv, fn, fi, K, A, Ow, O, P, L, cl, rt, en, ss, so, sp, ww, lw, vi, vv, ps, pv, pt))
    (hy : zk_srt k = ss S → (k = 11 → ∃ m, m < N ∧ a = nI m) → wX_token_26 post (nI k) a (nI N) (nI C) (nI U) (nI o) (nI (S + 1)) pl lv fn fi K A Ow O P L cl rt en ss so sp ww lw vi vv ps pv pt) : wpX_token post ((nI N), (nI C), (nI U), (nI o), (nI (S + 1)), pl, lv, fn, fi, K, A, Ow, O, P, L, cl, rt, en, ss, so, sp, ww, lw, vi, vv, ps, pv, pt) (nI k) a := by
  unfold wpX_token
  refine zx_fits h1 h hS (fun hs => br_f zn_10 ?_) (fun hs => br_t rfl (hn hs))
  by_cases h11 : k = 11
  · refine br_t (by rw [h11]; rfl) ?_
    by_cases hv : a < 0 ∨ nI N ≤ a
    · exact zx_nm0 hv (br_t rfl (hb hs h11 hv))
    · obtain ⟨m, hm, em⟩ : ∃ m : Nat, m < N ∧ a = nI m := by
        rcases pk_ix a (n := N) (by omega) with h | h | h
        · exact absurd (Or.inl h) hv
        · exact absurd (Or.inr h) hv
        · exact h
      have hw := hy hs (fun _ => ⟨m, hm, em⟩)
      rw [em] at hw ⊢
      exact zx_nm1 hm hN (br_f zn_10 hw)
  · exact br_f (fun z => h11 (zn_im (b := 11) z (by omega) (by omega))) (hy hs (fun z => absurd z h11))
theorem i_vc_token {k : Nat} {u : SX} {v : SY} (I : i_Rel k u v) (hk : k + 3 ≤ 1538) (v1 : Int32) (v2 : Int32) : wpX_token (fun r u' => wpY_token (fun r' v' => r' = r ∧ i_Rel (k + 3) u' v') v v1 v2) u v1 v2 := by
  have J := i_up I
  obtain ⟨N, C, U, S, op, lv, fn, fi, K, A, Ow, O, P, L, cl, rt, en, ss, so, sp, ds, R, E, pl, ww, lw, vi, vv, ps, pv, pt, yne, ysp, yvsp, ypn, yef, yet, yew, yb, ynb, yv, yx, ysv, ysi, yvs, ymo, ymv, yip, ypN, ypI, rfl, rfl, hR, hD, hE, h⟩ := I
  have hb := h.1
  have hS96 := zi_S h
  have ho := h.2.2.2.2.2.2
  by_cases hlo : v1 < 1
  · exact br_t hlo (br_t rfl (br_t hlo ⟨rfl, J⟩))
  by_cases hhi : 11 < v1
  · exact br_f hlo (br_t hhi (br_t rfl (br_f hlo (br_t hhi ⟨rfl, J⟩))))
  rcases ho with ⟨rfl, rfl⟩ | ⟨o, h1, rfl, hco, hop⟩
  · exact br_f hlo (br_f hhi (br_t rfl (br_t rfl (br_f hlo (br_f hhi (br_f (by decide) ⟨rfl, J⟩))))))
  · obtain ⟨q, hq1, hq11, rfl⟩ : ∃ q : Nat, 1 ≤ q ∧ q ≤ 11 ∧ v1 = nI q := by
      have hlo' := zn_nlt hlo
      have hhi' := zn_nlt hhi
      have h0 : ¬ v1 < 0 := Int32.not_lt.mpr (Int32.le_trans (by decide) hlo')
      obtain ⟨j, hj, rfl⟩ := nI_of h0
      have a1 := (nI_leI (a := 1) (by omega) hj).mp hlo'
      have a2 := (nI_leI (b := 11) hj (by omega)).mp hhi'
      exact ⟨j, a1, a2, rfl⟩
    obtain ⟨r1, r2, r3, r4, r5, r6, r7, r8⟩ := hop
    cases est : zs_stk K (R o) (U - R o) with
    | nil => rw [est] at r4; simp at r4; omega
    | cons s t =>
      rw [est] at r4 r6
      obtain rfl : S = t.length + 1 := r4.symm
      have hlen := zs_stk_len K (R o) (U - R o)
      rw [est, List.length_cons] at hlen
      have hs1 := zs_mem r1 (K := K) (d := U - R o) (s := s) (by rw [est]; exact List.mem_cons_self ..)
      have hT : U < C → t.length + 2 ≤ 96 := fun hU => by omega
      have hU9 : U < C → U < 96 := fun hU => by omega
      have hxU : ∀ x, x ∈ t → x.1 ≠ U := fun x hx => by
        have hx1 := zs_mem r1 (K := K) (d := U - R o) (s := x) (by rw [est]; exact List.mem_cons_of_mem _ hx)
        omega
      have hN8 : N ≤ 8 := by omega
      have hC9 : C ≤ 96 := by omega
      have ho8 : o < 8 := by omega
      refine zx_tk hq1 hq11 (by omega) (by omega) hS96 (fun hs => zy_tk hq1 hq11 (by omega) (by omega) hS96 (fun _ => ⟨rfl, J⟩) (fun z => absurd z hs) (fun z => absurd z hs))
        (fun hs e11 hv => zy_tk hq1 hq11 (by omega) (by omega) hS96 (fun z => absurd hs z) (fun _ _ _ => ⟨rfl, J⟩) (fun _ hm => ?_)) (fun hs hm => ?_)
      · obtain ⟨m, hm1, hm2⟩ := hm e11
        rcases hv with hv | hv
        · rw [hm2] at hv; exact absurd hv (nI_pos (by omega))
        · rw [hm2] at hv; exact absurd hv (nI_ge hm1 (by omega))
      · by_cases hU : U < C
        · refine zx_26 hq11 hU hC9 (zx_62 hq1 hq11 (hU9 hU) ho8 (hT hU) r6.1.1 r6.1.2 (by omega) (fun hz => ?_) (fun hz => ?_))
          all_goals refine zy_tk hq1 hq11 ho8 hN8 hS96 (fun z => absurd hs z) (fun _ z1 z2 => ?_) (fun _ _ => zy_75 hq11 hU hC9 (zy_122 hq1 hq11 (hU9 hU) (hT hU) ?_))
          · obtain ⟨m, hm1, hm2⟩ := hm z1
            rcases z2 with hv | hv
            · rw [hm2] at hv; exact absurd hv (nI_pos (by omega))
            · rw [hm2] at hv; exact absurd hv (nI_ge hm1 (by omega))
          · have e : (nI o).toNatClampNeg = o := nI_clamp (by omega)
            have hin : vp_in (nI o) 8 := vp_in_nI (by omega) (by omega)
            refine br_t (by rw [hz]; rfl) ⟨hin, nm_r (e' := upd cl o 1) (by rw [e, zb_1]) ⟨hin, nm_r (e' := upd en o (nI (U + 1))) (by rw [e]) ⟨rfl, ?_⟩⟩⟩
            have hnil : zs_kids (nI q) U ++ t = [] := List.eq_nil_of_length_eq_zero (by rw [zk_len hq1 hq11]; exact hz)
            have H := zi_tok0 (so' := zk_so q t.length (zs_so K O (R o) s) so) (sp' := zk_sp q t.length (nI U) sp) (a := zk_a q v2) h h1 hU est hq1 hq11 (fun z => by unfold zk_a; rw [if_neg (by omega), if_pos z]; exact hm z) hnil
            rw [← hz] at H
            exact zr_mk (U := U + 1) (S := t.length + zk_n q) hR hD (zi_upd hE) H
          · obtain ⟨m, hm1, hm2⟩ := hm z1
            rcases z2 with hv | hv
            · rw [hm2] at hv; exact absurd hv (nI_pos (by omega))
            · rw [hm2] at hv; exact absurd hv (nI_ge hm1 (by omega))
          · have hn2 : zk_n q ≤ 2 := by rcases zk_c hq1 hq11 with rfl | rfl | rfl | rfl | rfl | rfl | rfl | rfl | rfl | rfl | rfl <;> decide
            refine br_f (nI_ne0 (by omega) (by omega)) ⟨rfl, ?_⟩
            have hr : R o ≤ U := r2
            have hst := zk_st (K := upd K U (nI q)) (O := upd O U (zs_so K O (R o) s)) (so := so) (sp := sp) (r := R o) (k := q) (c := U) (S := t.length) (o := zs_so K O (R o) s) (t := t) hq1 hq11 hr pk_us pk_us rfl
              (zs_st_mono t (fun i x hi hx hq => ⟨hq.1, hq.2.trans (zs_so_congr (fun _ => ⟨pk_un (hxU x hx), pk_un (hxU x hx)⟩)).symm⟩) r6.2)
            have H := zi_tok (so' := zk_so q t.length (zs_so K O (R o) s) so) (sp' := zk_sp q t.length (nI U) sp) (a := zk_a q v2) h h1 hU est hq1 hq11 (fun z => by unfold zk_a; rw [if_neg (by omega), if_pos z]; exact hm z) (by rw [zk_len hq1 hq11]; omega) hst
            rw [zk_len hq1 hq11] at H
            exact zr_mk (U := U + 1) (S := t.length + zk_n q) hR hD hE H
        · have eq : U = C := by omega
          refine br_f (nI_nlt (by omega) (by omega)) (zy_tk hq1 hq11 (by omega) (by omega) hS96 (fun z => absurd hs z) (fun _ _ _ => ⟨rfl, J⟩) (fun _ _ => br_t (by rw [eq]) ⟨rfl, J⟩))
end Z8
end
section
/-! the obstacles to an evaluation -/
section Z9
variable {N C U S : Nat} {op lv fn fi pl yne ysp yvsp ypn : Int32}
variable {K A Ow O P L cl rt en ss so sp ds ww lw vi vv ps pv pt yef yet yew yb ynb yv yx ysv ysi yvs ymo ymv yip ypN ypI : Nat → Int32}
variable {R E : Nat → Nat}
theorem zo_loop (hU : U ≤ 96) (hN : N ≤ 8) (hA : ∀ c, c < U → K c = 11 → ∃ m, m < N ∧ A c = nI m) :
    ∀ d i, i + d = U → ∃ r : Int32, (r = 0 → ∀ c, i ≤ c → c < U → K c = 11 → ¬ cl (A c).toNatClampNeg = 0) ∧ (r = 0 ∨ r = 3) ∧
      (∀ post : Int32 → Prop, post r → wX_obstacleToEvaluation_21 post (nI N) (nI C) (nI U) op (nI S) pl lv fn fi K A Ow O P L cl rt en ss so sp ww lw vi vv ps pv pt (d + 1) (nI i)) ∧ (∀ post : Int32 → Prop, post r → wY_readiness_46 post (nI N) (nI C) (nI U) op (nI S) yne ysp yvsp ypn lv fn fi K A cl ds en ss yef yet yew yb ynb yv yx ysv ysi yvs ymo ymv yip ypN ypI (d + 1) (nI i)) := by
  intro d
  induction d with
  | zero =>
    intro i hi
    have h : nI U ≤ nI i := nI_le (by omega) (by omega)
    exact ⟨0, fun _ c h1 h2 => by omega, Or.inl rfl, fun _ hp => br_t h hp, fun _ hp => br_t h hp⟩
  | succ d ih =>
    intro i hi
    have h : ¬ nI U ≤ nI i := nI_ge (by omega) (by omega)
    have hin : vp_in (nI i) 96 := vp_in_nI (by omega) (by omega)
    have e : (nI i).toNatClampNeg = i := nI_clamp (by omega)
    obtain ⟨r, hr, h03, hX, hY⟩ := ih (i + 1) (by omega)
    by_cases hk : K (nI i).toNatClampNeg = 11
    · have hk' := hk
      rw [e] at hk'
      obtain ⟨m, hm, em⟩ := hA i (by omega) hk'
      have eA : A (nI i).toNatClampNeg = nI m := by rw [e]; exact em
      have hi8 : vp_in (A (nI i).toNatClampNeg) 8 := by rw [eA]; exact vp_in_nI (by omega) (by omega)
      have hn0 : ¬ A (nI i).toNatClampNeg < 0 := by rw [eA]; exact nI_pos (by omega)
      have hnN : ¬ nI N ≤ A (nI i).toNatClampNeg := by rw [eA]; exact nI_ge hm (by omega)
      by_cases hc : cl (A (nI i).toNatClampNeg).toNatClampNeg = 0
      · exact ⟨3, fun z => absurd z (by decide), Or.inr rfl, fun _ hp => br_f h ⟨hin, br_t hk ⟨hin, hi8, br_t hc hp⟩⟩, fun _ hp => br_f h ⟨hin, br_t hk ⟨hin, br_f hn0 ⟨hin, br_f hnN ⟨hin, hi8, br_t hc hp⟩⟩⟩⟩⟩
      · refine ⟨r, fun hr0 c h1 h2 h3 => ?_, h03, fun post hp => br_f h ⟨hin, br_t hk ⟨hin, hi8, br_f hc (nm_r (nI_1 i) (hX post hp))⟩⟩, fun post hp => br_f h ⟨hin, br_t hk ⟨hin, br_f hn0 ⟨hin, br_f hnN ⟨hin, hi8, br_f hc (nm_r (nI_1 i) (hY post hp))⟩⟩⟩⟩⟩
        by_cases ec : c = i
        · rw [ec, ← e]; exact hc
        · exact hr hr0 c (by omega) h2 h3
    · refine ⟨r, fun hr0 c h1 h2 h3 => ?_, h03, fun post hp => br_f h ⟨hin, br_f hk (nm_r (nI_1 i) (hX post hp))⟩, fun post hp => br_f h ⟨hin, br_f hk (nm_r (nI_1 i) (hY post hp))⟩⟩
      by_cases ec : c = i
      · rw [ec, ← e] at h3; exact absurd h3 hk
      · exact hr hr0 c (by omega) h2 h3
theorem zy_any0 {post : Int32 → Prop} (hN : N ≤ 8) (hp : post 2) (hc : ∀ n, n < N → cl n = 0) : ∀ d i, i + d = N → wY_readiness_13 post (nI N) (nI C) (nI U) op (nI S) yne ysp yvsp ypn lv fn fi K A cl ds en ss yef yet yew yb ynb yv yx ysv ysi yvs ymo ymv yip ypN ypI (d + 1) 0 (nI i) := by
  intro d
  induction d with
  | zero => intro i hi; exact br_t (nI_le (by omega) (by omega)) (br_t rfl hp)
  | succ d ih =>
    intro i hi
    have e : (nI i).toNatClampNeg = i := nI_clamp (by omega)
    exact br_f (nI_ge (by omega) (by omega)) ⟨vp_in_nI (by omega) (by omega), br_t (by rw [e]; exact hc i (by omega)) (nm_r (nI_1 i) (ih (i + 1) (by omega)))⟩
theorem zy_any1 {post : Int32 → Prop} (hN : N ≤ 8) (hp : ∃ n46 : Nat, wY_readiness_46 post (nI N) (nI C) (nI U) op (nI S) yne ysp yvsp ypn lv fn fi K A cl ds en ss yef yet yew yb ynb yv yx ysv ysi yvs ymo ymv yip ypN ypI n46 0) : ∀ d i (x : Int32), i + d = N → (x = 1 ∨ ∃ n, i ≤ n ∧ n < N ∧ ¬ cl n = 0) → wY_readiness_13 post (nI N) (nI C) (nI U) op (nI S) yne ysp yvsp ypn lv fn fi K A cl ds en ss yef yet yew yb ynb yv yx ysv ysi yvs ymo ymv yip ypN ypI (d + 1) x (nI i) := by
  intro d
  induction d with
  | zero =>
    intro i x hi hx
    refine br_t (nI_le (by omega) (by omega)) (br_f ?_ hp)
    rcases hx with hx | ⟨n, h1, h2, _⟩
    · rw [hx]; decide
    · omega
  | succ d ih =>
    intro i x hi hx
    have e : (nI i).toNatClampNeg = i := nI_clamp (by omega)
    refine br_f (nI_ge (by omega) (by omega)) ⟨vp_in_nI (by omega) (by omega), ?_⟩
    by_cases hc : cl (nI i).toNatClampNeg = 0
    · refine br_t hc (nm_r (nI_1 i) (ih (i + 1) x (by omega) ?_))
      rcases hx with hx | ⟨n, h1, h2, h3⟩
      · exact Or.inl hx
      · refine Or.inr ⟨n, ?_, h2, h3⟩
        by_cases en : n = i
        · rw [en, ← e] at h3; exact absurd hc h3
        · omega
    · exact br_f hc (nm_r (nI_1 i) (ih (i + 1) 1 (by omega) (Or.inl rfl)))
/-- both sides find the same obstacle -/
theorem zo_obs (h : zi_inv N C U S op K A P O L Ow cl so sp R E) : ∃ r : Int32, (r = 0 → op = -1 ∧ ∀ c, c < U → K c = 11 → ¬ cl (A c).toNatClampNeg = 0) ∧
    (∀ post : Int32 → Prop, post r → wpX_obstacleToEvaluation post ((nI N), (nI C), (nI U), op, (nI S), pl, lv, fn, fi, K, A, Ow, O, P, L, cl, rt, en, ss, so, sp, ww, lw, vi, vv, ps, pv, pt)) ∧ (∀ post : Int32 → Prop, post r → wpY_readiness post ((nI N), (nI C), (nI U), op, (nI S), yne, ysp, yvsp, ypn, lv, fn, fi, K, A, cl, ds, en, ss, yef, yet, yew, yb, ynb, yv, yx, ysv, ysi, yvs, ymo, ymv, yip, ypN, ypI)) := by
  obtain ⟨⟨a1, a2, a3, a4, a5⟩, hcl, hcd, _, hA, hOw, ho⟩ := h
  rcases ho with ⟨rfl, rfl⟩ | ⟨o, h1, rfl, _⟩
  · by_cases hU : U = 0
    · subst hU
      have h0 : ∀ n, n < N → cl n = 0 := by
        intro n hn
        rcases hcl n with hc | hc
        · exact hc
        · have := hcd n hn hc
          have h1 := this.2.1
          have h2 := this.2.2.1
          omega
      exact ⟨2, fun z => absurd z (by decide), fun post hp => br_t rfl (br_t rfl hp), fun post hp => br_t (by decide) ⟨_, zy_any0 a2 hp h0 N 0 (by omega)⟩⟩
    · obtain ⟨r, hr, h03, hX, hY⟩ := zo_loop (S := 0) (op := -1) (lv := lv) (fn := fn) (fi := fi) (pl := pl) (yne := yne) (ysp := ysp) (yvsp := yvsp) (ypn := ypn) (Ow := Ow) (O := O) (P := P) (L := L) (cl := cl) (rt := rt) (en := en) (ss := ss) (so := so) (sp := sp) (ds := ds) (ww := ww) (lw := lw) (vi := vi) (vv := vv) (ps := ps) (pv := pv) (pt := pt) (yef := yef) (yet := yet) (yew := yew) (yb := yb) (ynb := ynb) (yv := yv) (yx := yx) (ysv := ysv) (ysi := ysi) (yvs := yvs) (ymo := ymo) (ymv := ymv) (yip := yip) (ypN := ypN) (ypI := ypI) (C := C) (by omega) a2 hA U 0 (by omega)
      have hex : ∃ n, 0 ≤ n ∧ n < N ∧ ¬ cl n = 0 := by
        obtain ⟨n, hn, _, hz⟩ := hOw 0 (by omega)
        rcases hz with hz | hz
        · exact ⟨n, by omega, hn, by rw [hz.1]; decide⟩
        · exact absurd hz.1.symm (zn_ne1 (by omega))
      refine ⟨r, fun hr0 => ⟨rfl, fun c hc hk => hr hr0 c (by omega) hc hk⟩, fun post hp => br_t rfl (br_f (nI_ne0 (by omega) (by omega)) ⟨_, hX post hp⟩), fun post hp => br_t (by decide) ⟨_, zy_any1 a2 ⟨_, hY post hp⟩ N 0 0 (by omega) (Or.inr hex)⟩⟩
  · exact ⟨1, fun z => absurd z (by decide), fun post hp => br_f (zn_ne1 (by omega)) hp, fun post hp => br_f (nI_pos (by omega)) hp⟩
end Z9
end
section
/-! guard, the component's side -/
section Z10
variable {N C U S : Nat} {op lv fn fi pl yne ysp yvsp ypn : Int32}
variable {K A Ow O P L cl rt en ss so sp ds ww lw vi vv ps pv pt yef yet yew yb ynb yv yx ysv ysi yvs ymo ymv yip ypN ypI : Nat → Int32}
variable {R E : Nat → Nat}
theorem zx_l72 {post : SX → Prop} {Z : Nat → Int32} (hN : N ≤ 8) (hl : ∀ t, t < N → lw t = Z t) (hp : ∀ ww', (∀ t, t < N → ww' t = Z t) → post ((nI N), (nI C), (nI U), op, (nI S), pl, lv, fn, fi, K, A, Ow, O, P, L, cl, rt, en, ss, so, sp, ww', lw, vi, vv, ps, pv, pt)) :
    ∀ d i ww, i + d = N → (∀ t, t < i → ww t = Z t) → wX_lengthenWalks_72 post (nI N) (nI C) (nI U) op (nI S) pl lv fn fi (d + 1) (nI i) K A Ow O P L cl rt en ss so sp ww lw vi vv ps pv pt := by
  intro d
  induction d with
  | zero =>
    intro i ww hi hw
    exact br_t (nI_le (by omega) (by omega)) (hp ww (fun t ht => hw t (by omega)))
  | succ d ih =>
    intro i ww hi hw
    have e : (nI i).toNatClampNeg = i := nI_clamp (by omega)
    have hin : vp_in (nI i) 8 := vp_in_nI (by omega) (by omega)
    refine br_f (nI_ge (by omega) (by omega)) ⟨hin, hin, nm_r (e' := upd ww i (Z i)) (by rw [e, hl i (by omega)]) (nm_r (nI_1 i) (ih (i + 1) _ (by omega) (fun t ht => ?_)))⟩
    by_cases et : t = i
    · rw [et, pk_us]
    · rw [pk_un et]; exact hw t (by omega)
theorem zx_fol {post : SX → Prop} {W : Nat → Int32} {i n m : Nat} (hi : i < 96) (hn : n < 8) (hm : m < 8) (eo : Ow i = nI n) (ea : A i = nI m) (ew : ww n = W n)
    (h1 : W n = -1000000 → post ((nI N), (nI C), (nI U), op, (nI S), pl, lv, fn, fi, K, A, Ow, O, P, L, cl, rt, en, ss, so, sp, ww, lw, vi, vv, ps, pv, pt)) (h2 : ¬ W n = -1000000 → ¬ lw m < W n + O i → post ((nI N), (nI C), (nI U), op, (nI S), pl, lv, fn, fi, K, A, Ow, O, P, L, cl, rt, en, ss, so, sp, ww, lw, vi, vv, ps, pv, pt)) (h3 : ¬ W n = -1000000 → lw m < W n + O i → post ((nI N), (nI C), (nI U), op, (nI S), pl, lv, fn, fi, K, A, Ow, O, P, L, cl, rt, en, ss, so, sp, ww, (upd lw m (W n + O i)), vi, vv, ps, pv, pt)) :
    wpX_followEdge post ((nI N), (nI C), (nI U), op, (nI S), pl, lv, fn, fi, K, A, Ow, O, P, L, cl, rt, en, ss, so, sp, ww, lw, vi, vv, ps, pv, pt) (nI i) := by
  have e : (nI i).toNatClampNeg = i := nI_clamp (by omega)
  have en : (nI n).toNatClampNeg = n := nI_clamp (by omega)
  have em : (nI m).toNatClampNeg = m := nI_clamp (by omega)
  have hin : vp_in (nI i) 96 := vp_in_nI hi (by omega)
  have hm8 : vp_in (nI m) 8 := vp_in_nI hm (by omega)
  refine ⟨hin, by rw [e, eo]; exact vp_in_nI hn (by omega), nm_r (e' := W n) (by rw [e, eo, en, ew]) ?_⟩
  by_cases hw : W n = -1000000
  · exact br_t hw (h1 hw)
  · refine br_f hw ⟨hin, nm_r (e' := nI m) (by rw [e, ea]) ⟨hin, nm_r (e' := W n + O i) (by rw [e]) ⟨hm8, ?_⟩⟩⟩
    by_cases hl : lw m < W n + O i
    · exact br_f (by rw [em]; exact Int32.not_le.mpr hl) ⟨hm8, nm_r (by rw [em]) (h3 hw hl)⟩
    · exact br_t (by rw [em]; exact Int32.not_lt.mp hl) (h2 hw hl)
theorem zx_l26 {post : SX → Prop} {W : Nat → Int32} (hN : N ≤ 8) (hU : U ≤ 96) (hcl : ∀ n, cl n = 0 ∨ cl n = 1) (hA : ∀ c, c < U → K c = 11 → ∃ m, m < N ∧ A c = nI m) (hO : ∀ c, c < U → ∃ n, n < N ∧ Ow c = nI n)
    (hw : ∀ t, t < N → ww t = W t) (hp : ∀ lw', (∀ t, t < N → lw' t = zg_len K A O Ow cl W U t) → ∃ n72 : Nat, wX_lengthenWalks_72 post (nI N) (nI C) (nI U) op (nI S) pl lv fn fi n72 0 K A Ow O P L cl rt en ss so sp ww lw' vi vv ps pv pt) :
    ∀ d i lw, i + d = U → (∀ t, t < N → lw t = zg_len K A O Ow cl W i t) → wX_lengthenWalks_26 post (d + 1) (nI i) (nI N) (nI C) (nI U) op (nI S) pl lv fn fi K A Ow O P L cl rt en ss so sp ww lw vi vv ps pv pt := by
  intro d
  induction d with
  | zero =>
    intro i lw hi hl
    obtain rfl : i = U := by omega
    exact br_t (nI_le (by omega) (by omega)) (hp lw hl)
  | succ d ih =>
    intro i lw hi hl
    have e : (nI i).toNatClampNeg = i := nI_clamp (by omega)
    have hin : vp_in (nI i) 96 := vp_in_nI (by omega) (by omega)
    refine br_f (nI_ge (by omega) (by omega)) ⟨hin, ?_⟩
    have es : zg_len K A O Ow cl W (i + 1) = zg_fe K A O Ow cl W (zg_len K A O Ow cl W i) i := rfl
    by_cases hk : K (nI i).toNatClampNeg = 11
    · have hk' := hk
      rw [e] at hk'
      obtain ⟨m, hm, em⟩ := hA i (by omega) hk'
      obtain ⟨n, hn, en⟩ := hO i (by omega)
      have en8 : (nI n).toNatClampNeg = n := nI_clamp (by omega)
      have em8 : (nI m).toNatClampNeg = m := nI_clamp (by omega)
      refine br_t hk ⟨hin, by rw [e, en]; exact vp_in_nI (by omega) (by omega), ?_⟩
      by_cases hc : cl (Ow (nI i).toNatClampNeg).toNatClampNeg = 0
      · refine br_t hc (nm_r (nI_1 i) (ih (i + 1) lw (by omega) (fun t ht => ?_)))
        rw [es]; unfold zg_fe
        rw [if_neg (fun z => by have := z.2; rw [← e, hc] at this; exact absurd this (by decide))]
        exact hl t ht
      · have hc1 : cl n = 1 := by
          rw [e, en, en8] at hc
          exact (hcl n).resolve_left hc
        have hcond : K i = 11 ∧ cl (Ow i).toNatClampNeg = 1 := ⟨hk', by rw [en, en8]; exact hc1⟩
        refine br_f hc (zx_fol (W := W) (n := n) (m := m) (by omega) (by omega) (by omega) en em (hw n hn) (fun h1 => nm_r (nI_1 i) (ih (i + 1) lw (by omega) (fun t ht => ?_)))
          (fun h1 h2 => nm_r (nI_1 i) (ih (i + 1) lw (by omega) (fun t ht => ?_))) (fun h1 h2 => nm_r (nI_1 i) (ih (i + 1) _ (by omega) (fun t ht => ?_))))
        · rw [es]; unfold zg_fe
          rw [if_pos hcond, en, en8, if_pos h1]; exact hl t ht
        · rw [es]; unfold zg_fe
          rw [if_pos hcond, en, en8, if_neg h1, em, em8, if_neg (by rw [← hl m hm]; exact h2)]; exact hl t ht
        · rw [es]; unfold zg_fe
          rw [if_pos hcond, en, en8, if_neg h1, em, em8, if_pos (by rw [← hl m hm]; exact h2)]
          by_cases et : t = m
          · rw [et, pk_us, pk_us]
          · rw [pk_un et, pk_un et]; exact hl t ht
    · refine br_f hk (nm_r (nI_1 i) (ih (i + 1) lw (by omega) (fun t ht => ?_)))
      rw [es]; unfold zg_fe
      rw [if_neg (fun z => hk (by rw [e]; exact z.1))]
      exact hl t ht
theorem zx_l2 {post : SX → Prop} (hN : N ≤ 8) (hp : ∀ lw', (∀ t, t < N → lw' t = -1000000) → ∃ n26 : Nat, wX_lengthenWalks_26 post n26 0 (nI N) (nI C) (nI U) op (nI S) pl lv fn fi K A Ow O P L cl rt en ss so sp ww lw' vi vv ps pv pt) :
    ∀ d i lw, i + d = N → (∀ t, t < i → lw t = -1000000) → wX_lengthenWalks_2 post (nI N) (nI C) (nI U) op (nI S) pl lv fn fi (d + 1) (nI i) K A Ow O P L cl rt en ss so sp ww lw vi vv ps pv pt := by
  intro d
  induction d with
  | zero =>
    intro i lw hi hl
    exact br_t (nI_le (by omega) (by omega)) (hp lw (fun t ht => hl t (by omega)))
  | succ d ih =>
    intro i lw hi hl
    have e : (nI i).toNatClampNeg = i := nI_clamp (by omega)
    refine br_f (nI_ge (by omega) (by omega)) ⟨vp_in_nI (by omega) (by omega), nm_r (e' := upd lw i (-1000000)) (by rw [e]) (nm_r (nI_1 i) (ih (i + 1) _ (by omega) (fun t ht => ?_)))⟩
    by_cases et : t = i
    · rw [et, pk_us]
    · rw [pk_un et]; exact hl t (by omega)
theorem zx_len {post : SX → Prop} {W : Nat → Int32} (hN : N ≤ 8) (hU : U ≤ 96) (hcl : ∀ n, cl n = 0 ∨ cl n = 1) (hA : ∀ c, c < U → K c = 11 → ∃ m, m < N ∧ A c = nI m) (hO : ∀ c, c < U → ∃ n, n < N ∧ Ow c = nI n)
    (hw : ∀ t, t < N → ww t = W t) (hp : ∀ ww' lw', (∀ t, t < N → ww' t = zg_len K A O Ow cl W U t) → post ((nI N), (nI C), (nI U), op, (nI S), pl, lv, fn, fi, K, A, Ow, O, P, L, cl, rt, en, ss, so, sp, ww', lw', vi, vv, ps, pv, pt)) : wpX_lengthenWalks post ((nI N), (nI C), (nI U), op, (nI S), pl, lv, fn, fi, K, A, Ow, O, P, L, cl, rt, en, ss, so, sp, ww, lw, vi, vv, ps, pv, pt) :=
  ⟨_, zx_l2 hN (fun lw1 h1 => ⟨_, zx_l26 hN hU hcl hA hO hw (fun lw2 h2 => ⟨_, zx_l72 (Z := zg_len K A O Ow cl W U) hN h2 (fun ww' h3 => hp ww' lw2 h3) N 0 _ (by omega) (fun t ht => absurd ht (Nat.not_lt_zero t))⟩) U 0 lw1 (by omega) h1⟩) N 0 _ (by omega) (fun t ht => absurd ht (Nat.not_lt_zero t))⟩
theorem zx_st {post : SX → Prop} {a : Nat} (hN : N ≤ 8) (ha : a < N) (hp : ∀ ww', (∀ t, t < N → ww' t = if t = a then 0 else -1000000) → post ((nI N), (nI C), (nI U), op, (nI S), pl, lv, fn, fi, K, A, Ow, O, P, L, cl, rt, en, ss, so, sp, ww', lw, vi, vv, ps, pv, pt)) :
    ∀ d i ww, i + d = N → (∀ t, t < i → ww t = -1000000) → wX_startWalksAt_2 post (nI a) (nI N) (nI C) (nI U) op (nI S) pl lv fn fi (d + 1) (nI i) K A Ow O P L cl rt en ss so sp ww lw vi vv ps pv pt := by
  intro d
  induction d with
  | zero =>
    intro i ww hi hl
    have e : (nI a).toNatClampNeg = a := nI_clamp (by omega)
    refine br_t (nI_le (by omega) (by omega)) ⟨vp_in_nI (by omega) (by omega), nm_r (e' := upd ww a 0) (by rw [e]) (hp _ (fun t ht => ?_))⟩
    by_cases et : t = a
    · rw [if_pos et, et, pk_us]
    · rw [if_neg et, pk_un et]; exact hl t (by omega)
  | succ d ih =>
    intro i ww hi hl
    have e : (nI i).toNatClampNeg = i := nI_clamp (by omega)
    refine br_f (nI_ge (by omega) (by omega)) ⟨vp_in_nI (by omega) (by omega), nm_r (e' := upd ww i (-1000000)) (by rw [e]) (nm_r (nI_1 i) (ih (i + 1) _ (by omega) (fun t ht => ?_)))⟩
    by_cases et : t = i
    · rw [et, pk_us]
    · rw [pk_un et]; exact hl t (by omega)
theorem zx_g30 {post : Int32 → SX → Prop} {a b : Nat} (hb : b < N) (hN : N ≤ 8) (hU : U ≤ 96) (hcl : ∀ n, cl n = 0 ∨ cl n = 1) (hA : ∀ c, c < U → K c = 11 → ∃ m, m < N ∧ A c = nI m) (hO : ∀ c, c < U → ∃ n, n < N ∧ Ow c = nI n)
    (hp : ∀ ww' lw', post (zg_g K A O Ow cl U a b N) ((nI N), (nI C), (nI U), op, (nI S), pl, lv, fn, fi, K, A, Ow, O, P, L, cl, rt, en, ss, so, sp, ww', lw', vi, vv, ps, pv, pt)) :
    ∀ d l ww lw, l + d = N → (∀ t, t < N → ww t = zg_seq K A O Ow cl U a l t) → wX_guard_30 post (nI b) (d + 1) (zg_g K A O Ow cl U a b l) (nI (l + 1)) (nI N) (nI C) (nI U) op (nI S) pl lv fn fi K A Ow O P L cl rt en ss so sp ww lw vi vv ps pv pt := by
  intro d
  induction d with
  | zero =>
    intro l ww lw hl hw
    obtain rfl : l = N := by omega
    exact br_t (nI_lt (by omega) (by omega)) (hp ww lw)
  | succ d ih =>
    intro l ww lw hl hw
    have e : (nI b).toNatClampNeg = b := nI_clamp (by omega)
    have hin : vp_in (nI b) 8 := vp_in_nI (by omega) (by omega)
    refine br_f (nI_nlt (by omega) (by omega)) (zx_len hN hU hcl hA hO hw (fun ww' lw' hw' => ⟨hin, ?_⟩))
    have hg : zg_g K A O Ow cl U a b (l + 1) = if zg_g K A O Ow cl U a b l < zg_seq K A O Ow cl U a (l + 1) b then zg_seq K A O Ow cl U a (l + 1) b else zg_g K A O Ow cl U a b l := rfl
    have eb : ww' b = zg_seq K A O Ow cl U a (l + 1) b := hw' b hb
    have IH := ih (l + 1) ww' lw' (by omega) hw'
    by_cases hc : zg_g K A O Ow cl U a b l < zg_seq K A O Ow cl U a (l + 1) b
    · rw [hg, if_pos hc] at IH
      refine br_f (by rw [e, eb]; exact Int32.not_le.mpr hc) ⟨hin, nm_r (by rw [e, eb]) (nm_r (nI_1 (l + 1)) IH)⟩
    · rw [hg, if_neg hc] at IH
      exact br_t (by rw [e, eb]; exact Int32.not_lt.mp hc) (nm_r (nI_1 (l + 1)) IH)
theorem zx_guard {post : Int32 → SX → Prop} {a b : Nat} (ha : a < N) (hb : b < N) (hN : N ≤ 8) (hU : U ≤ 96) (hcl : ∀ n, cl n = 0 ∨ cl n = 1) (hA : ∀ c, c < U → K c = 11 → ∃ m, m < N ∧ A c = nI m) (hO : ∀ c, c < U → ∃ n, n < N ∧ Ow c = nI n)
    (hp : ∀ ww' lw', post (zg_g K A O Ow cl U a b N) ((nI N), (nI C), (nI U), op, (nI S), pl, lv, fn, fi, K, A, Ow, O, P, L, cl, rt, en, ss, so, sp, ww', lw', vi, vv, ps, pv, pt)) : wpX_guard post ((nI N), (nI C), (nI U), op, (nI S), pl, lv, fn, fi, K, A, Ow, O, P, L, cl, rt, en, ss, so, sp, ww, lw, vi, vv, ps, pv, pt) (nI a) (nI b) := by
  unfold wpX_guard
  refine zx_nm1 ha hN (br_f zn_10 (zx_nm1 hb hN (br_f zn_10 ⟨_, zx_st hN ha (fun ww1 h1 => ⟨_, zx_g30 hb hN hU hcl hA hO hp N 0 ww1 _ (by omega) h1⟩) N 0 _ (by omega) (fun t ht => absurd ht (Nat.not_lt_zero t))⟩)))
theorem zx_guard0 {post : Int32 → SX → Prop} {x y : Int32} (hN : N ≤ 8) (h : (x < 0 ∨ nI N ≤ x) ∨ (y < 0 ∨ nI N ≤ y)) (hp : post (-1000000) ((nI N), (nI C), (nI U), op, (nI S), pl, lv, fn, fi, K, A, Ow, O, P, L, cl, rt, en, ss, so, sp, ww, lw, vi, vv, ps, pv, pt)) : wpX_guard post ((nI N), (nI C), (nI U), op, (nI S), pl, lv, fn, fi, K, A, Ow, O, P, L, cl, rt, en, ss, so, sp, ww, lw, vi, vv, ps, pv, pt) x y := by
  unfold wpX_guard
  by_cases hx : x < 0 ∨ nI N ≤ x
  · exact zx_nm0 hx (br_t rfl hp)
  · obtain ⟨j, hj, rfl⟩ : ∃ j : Nat, j < N ∧ x = nI j := by
      rcases pk_ix x (n := N) (by omega) with h | h | h
      · exact absurd (Or.inl h) hx
      · exact absurd (Or.inr h) hx
      · exact h
    exact zx_nm1 hj hN (br_f zn_10 (zx_nm0 (h.resolve_left hx) (br_t rfl hp)))
end Z10
end
section
/-! guard, the reference's side: the edges -/
def zy_ed (A Ow O : Nat → Int32) (ne : Nat) (ef et ew : Nat → Int32) (D : Nat → Prop) : Prop :=
  (∀ e, e < ne → ∃ c, D c ∧ ef e = Ow c ∧ et e = A c ∧ ew e = O c) ∧ (∀ c, D c → ∃ e, e < ne ∧ ef e = Ow c ∧ et e = A c ∧ ew e = O c)
theorem zy_ed_iff {A Ow O : Nat → Int32} {ne : Nat} {ef et ew : Nat → Int32} {D D' : Nat → Prop} (h : ∀ c, D c ↔ D' c) (hd : zy_ed A Ow O ne ef et ew D) : zy_ed A Ow O ne ef et ew D' := by
  refine ⟨fun e he => ?_, fun c hc => hd.2 c ((h c).mpr hc)⟩
  obtain ⟨c, hc, z⟩ := hd.1 e he
  exact ⟨c, (h c).mp hc, z⟩
theorem zy_ed_add {A Ow O : Nat → Int32} {ne c0 : Nat} {ef et ew : Nat → Int32} {D : Nat → Prop} {x : Int32} (hx : x = Ow c0) (hd : zy_ed A Ow O ne ef et ew D) :
    zy_ed A Ow O (ne + 1) (upd ef ne x) (upd et ne (A c0)) (upd ew ne (O c0)) (fun c => D c ∨ c = c0) := by
  refine ⟨fun e he => ?_, fun c hc => ?_⟩
  · by_cases h : e = ne
    · subst h; exact ⟨c0, Or.inr rfl, by rw [pk_us]; exact hx, pk_us, pk_us⟩
    · obtain ⟨c, h1, h2, h3, h4⟩ := hd.1 e (by omega)
      exact ⟨c, Or.inl h1, by rw [pk_un h]; exact h2, by rw [pk_un h]; exact h3, by rw [pk_un h]; exact h4⟩
  · rcases hc with hc | hc
    · obtain ⟨e, h1, h2, h3, h4⟩ := hd.2 c hc
      have h : e ≠ ne := by omega
      exact ⟨e, by omega, by rw [pk_un h]; exact h2, by rw [pk_un h]; exact h3, by rw [pk_un h]; exact h4⟩
    · subst hc; exact ⟨ne, by omega, by rw [pk_us]; exact hx, pk_us, pk_us⟩
def zy_Q (K O : Nat → Int32) (r : Nat) (x y : Int32) (s : Nat × Bool) : Prop := y = zs_so K O r s
section Z11
variable {N C U S : Nat} {op lv fn fi pl yne ysp yvsp ypn : Int32}
variable {K A Ow O P L cl rt en ss so sp ds ww lw vi vv ps pv pt yef yet yew yb ynb yv yx ysv ysi yvs ymo ymv yip ypN ypI : Nat → Int32}
variable {R E : Nat → Nat}
theorem zy_push {post : SY → Prop} {m : Nat} {x y : Int32} (hm : m < 100) (hx : x = 0 ∨ x = 1) (hp : post ((nI N), (nI C), (nI U), op, (nI S), yne, (nI (m + 1)), yvsp, ypn, lv, fn, fi, K, A, cl, ds, en, ss, yef, yet, yew, yb, ynb, yv, yx, (upd ysv m x), (upd ysi m y), yvs, ymo, ymv, yip, ypN, ypI)) : wpY_push post ((nI N), (nI C), (nI U), op, (nI S), yne, (nI m), yvsp, ypn, lv, fn, fi, K, A, cl, ds, en, ss, yef, yet, yew, yb, ynb, yv, yx, ysv, ysi, yvs, ymo, ymv, yip, ypN, ypI) x y := by
  have e : (nI m).toNatClampNeg = m := nI_clamp (by omega)
  have hin : vp_in (nI m) 100 := vp_in_nI hm (by omega)
  have hb : vp_nar .boolean x = x := by rcases hx with h | h <;> rw [h] <;> decide
  exact br_f (nI_ge (b := 100) hm (by decide)) ⟨hin, nm_r (by rw [e, hb]) ⟨hin, nm_r (by rw [e]) (nm_r (nI_1 m) hp)⟩⟩
/-- the cells of one definition -/
theorem zy_b47 {post : SY → Prop} {J7 : Int32 → Int32 → Int32 → Int32 → Int32 → Int32 → Int32 → Int32 → Int32 → Int32 → Int32 → Int32 → Int32 → (Nat → Int32) → (Nat → Int32) → (Nat → Int32) → (Nat → Int32) → (Nat → Int32) → (Nat → Int32) → (Nat → Int32) → (Nat → Int32) → (Nat → Int32) → (Nat → Int32) → (Nat → Int32) → (Nat → Int32) → (Nat → Int32) → (Nat → Int32) → (Nat → Int32) → (Nat → Int32) → (Nat → Int32) → (Nat → Int32) → (Nat → Int32) → (Nat → Int32) → (Nat → Int32) → Prop} {y r n base : Nat} (D : Nat → Prop) (hy : y < 8) (hr : 1 ≤ r) (hU : r + n ≤ U) (hU9 : U ≤ 96) (hbase : base + n ≤ 96) (hen : en y = nI (r + n)) (hd : zs_def K P O L r n)
    (hOw : ∀ c, r - 1 ≤ c → c < r + n → Ow c = nI y)
    (hJ : ∀ (ne m : Nat) (ef et ew sv si : Nat → Int32), ne ≤ base + n → zy_ed A Ow O ne ef et ew (fun c => D c ∨ (K c = 11 ∧ r ≤ c ∧ c < r + n)) →
      J7 (nI (y + 1)) (nI N) (nI C) (nI U) op (nI S) (nI ne) (nI m) yvsp ypn lv fn fi K A cl ds en ss ef et ew yb ynb yv yx sv si yvs ymo ymv yip ypN ypI) :
    ∀ d i (ne : Nat) (ef et ew sv si : Nat → Int32), i + d = n → ne ≤ base + i → zy_ed A Ow O ne ef et ew (fun c => D c ∨ (K c = 11 ∧ r ≤ c ∧ c < r + i)) →
      zs_st (fun j s => zy_Q K O r (sv j) (si j) s) (zs_stk K r i) →
      wY_buildEdges_47 post J7 (nI y) (d + 1) (nI (r + i)) (nI N) (nI C) (nI U) op (nI S) (nI ne) (nI (zs_stk K r i).length) yvsp ypn lv fn fi K A cl ds en ss ef et ew yb ynb yv yx sv si yvs ymo ymv yip ypN ypI := by
  have ey : (nI y).toNatClampNeg = y := nI_clamp (by omega)
  have hin8 : vp_in (nI y) 8 := vp_in_nI hy (by omega)
  intro d
  induction d with
  | zero =>
    intro i ne ef et ew sv si hi hne hed hst
    obtain rfl : i = n := by omega
    exact ⟨hin8, br_t (by rw [ey, hen]; exact nI_le (Nat.le_refl _) (by omega)) (nm_r (nI_1 y) (hJ ne _ ef et ew sv si hne hed))⟩
  | succ d ih =>
    intro i ne ef et ew sv si hi hne hed hst
    have e : (nI (r + i)).toNatClampNeg = r + i := nI_clamp (by omega)
    have hin : vp_in (nI (r + i)) 96 := vp_in_nI (by omega) (by omega)
    obtain ⟨s, t, es, _, hO, _, k, hk1, hk11, hk⟩ := hd i (by omega)
    have hlen := zs_stk_len K r i
    rw [es] at hst hlen ⊢
    rw [List.length_cons] at hlen ⊢
    have et' : (nI t.length).toNatClampNeg = t.length := nI_clamp (by omega)
    have hsi : si t.length = O (r + i) := by rw [hO]; exact hst.1
    refine ⟨hin8, br_f (by rw [ey, hen]; exact nI_ge (by omega) (by omega)) (br_f (nI_ge (by omega) (by omega)) (br_f (nI_nle (by omega) (by omega)) (nm_r (nI_pred t.length) ⟨vp_in_nI (by omega) (by omega), nm_r (e' := O (r + i)) (by rw [et', hsi]) ⟨hin, nm_r (e' := nI k) (by rw [e, hk]) ?_⟩⟩)))⟩
    have ek : zs_stk K r (i + 1) = zs_kids (nI k) (r + i) ++ t := by rw [zs_tl es, hk]
    have stay : ¬ nI k = 11 → zy_ed A Ow O ne ef et ew (fun c => D c ∨ (K c = 11 ∧ r ≤ c ∧ c < r + (i + 1))) := by
      intro hk'
      refine zy_ed_iff (fun c => ?_) hed
      constructor
      · intro z
        rcases z with z | z
        · exact Or.inl z
        · exact Or.inr ⟨z.1, z.2.1, by omega⟩
      · intro z
        rcases z with z | z
        · exact Or.inl z
        · refine Or.inr ⟨z.1, z.2.1, ?_⟩
          by_cases ec : c = r + i
          · rw [ec, hk] at z; exact absurd z.1 hk'
          · omega
    have hx : ∀ b, ¬ nI k = 7 → ¬ nI k = 6 → O (r + i) = zs_so K O r (r + i, b) := fun b a1 a2 => by rw [zo_x (by omega) (by rw [hk]; exact a1) (by rw [hk]; exact a2)]
    have IH := fun (ne : Nat) (ef et ew sv si : Nat → Int32) h1 h2 h3 => ih (i + 1) ne ef et ew sv si (by omega) h1 h2 h3
    have hl2 : t.length + 2 ≤ 100 := by omega
    clear ih hJ
    rcases zk_c hk1 hk11 with rfl | rfl | rfl | rfl | rfl | rfl | rfl | rfl | rfl | rfl | rfl
    · have H := IH ne ef et ew sv si (by omega) (stay (by decide)) (by rw [ek]; exact hst.2)
      rw [ek] at H
      exact br_f (by decide) (br_f (by decide) (br_f (by decide) (br_f (by decide) (br_t (by decide) (nm_r (nI_1 (r + i)) H)))))
    · have H := IH ne ef et ew (upd sv t.length 1) (upd si t.length (O (r + i))) (by omega) (stay (by decide)) (by rw [ek]; exact zs_st_push (q := zy_Q K O r) (a := sv) (b := si) (n := t.length) (s := (r + i, true)) rfl (hx true (by decide) (by decide)) hst.2)
      rw [ek] at H
      exact br_f (by decide) (br_t (by decide) (zy_push (by omega) (Or.inr rfl) (nm_r (nI_1 (r + i)) H)))
    · have H := IH ne ef et ew (upd (upd sv t.length 1) (t.length + 1) 1) (upd (upd si t.length (O (r + i))) (t.length + 1) (O (r + i))) (by omega) (stay (by decide)) (by rw [ek]; exact zs_st_push (q := zy_Q K O r) (n := t.length + 1) (s := (r + i, true)) rfl (hx true (by decide) (by decide)) (zs_st_push (q := zy_Q K O r) (a := sv) (b := si) (n := t.length) (s := (r + i, false)) rfl (hx false (by decide) (by decide)) hst.2))
      rw [ek] at H
      exact br_f (by decide) (br_f (by decide) (br_f (by decide) (br_f (by decide) (br_f (by decide) (zy_push (by omega) (Or.inr rfl) (zy_push (by omega) (Or.inr rfl) (nm_r (nI_1 (r + i)) H)))))))
    · have H := IH ne ef et ew (upd (upd sv t.length 1) (t.length + 1) 1) (upd (upd si t.length (O (r + i))) (t.length + 1) (O (r + i))) (by omega) (stay (by decide)) (by rw [ek]; exact zs_st_push (q := zy_Q K O r) (n := t.length + 1) (s := (r + i, true)) rfl (hx true (by decide) (by decide)) (zs_st_push (q := zy_Q K O r) (a := sv) (b := si) (n := t.length) (s := (r + i, false)) rfl (hx false (by decide) (by decide)) hst.2))
      rw [ek] at H
      exact br_f (by decide) (br_f (by decide) (br_f (by decide) (br_f (by decide) (br_f (by decide) (zy_push (by omega) (Or.inr rfl) (zy_push (by omega) (Or.inr rfl) (nm_r (nI_1 (r + i)) H)))))))
    · have H := IH ne ef et ew (upd (upd sv t.length 1) (t.length + 1) 1) (upd (upd si t.length (O (r + i))) (t.length + 1) (O (r + i))) (by omega) (stay (by decide)) (by rw [ek]; exact zs_st_push (q := zy_Q K O r) (n := t.length + 1) (s := (r + i, true)) rfl (hx true (by decide) (by decide)) (zs_st_push (q := zy_Q K O r) (a := sv) (b := si) (n := t.length) (s := (r + i, false)) rfl (hx false (by decide) (by decide)) hst.2))
      rw [ek] at H
      exact br_f (by decide) (br_f (by decide) (br_f (by decide) (br_f (by decide) (br_f (by decide) (zy_push (by omega) (Or.inr rfl) (zy_push (by omega) (Or.inr rfl) (nm_r (nI_1 (r + i)) H)))))))
    · have H := IH ne ef et ew (upd (upd sv t.length 1) (t.length + 1) 1) (upd (upd si t.length (O (r + i) - 1)) (t.length + 1) (O (r + i))) (by omega) (stay (by decide)) (by rw [ek]; exact zs_st_push (q := zy_Q K O r) (n := t.length + 1) (s := (r + i, true)) rfl ((zo_6t (by omega) hk).symm) (zs_st_push (q := zy_Q K O r) (a := sv) (b := si) (n := t.length) (s := (r + i, false)) rfl ((zo_6f (by omega) hk).symm) hst.2))
      rw [ek] at H
      exact br_f (by decide) (br_f (by decide) (br_f (by decide) (br_t (by decide) (zy_push (by omega) (Or.inr rfl) (zy_push (by omega) (Or.inr rfl) (nm_r (nI_1 (r + i)) H))))))
    · have H := IH ne ef et ew (upd sv t.length 1) (upd si t.length (O (r + i) + 1)) (by omega) (stay (by decide)) (by rw [ek]; exact zs_st_push (q := zy_Q K O r) (a := sv) (b := si) (n := t.length) (s := (r + i, true)) rfl ((zo_7 (by omega) hk).symm) hst.2)
      rw [ek] at H
      exact br_f (by decide) (br_f (by decide) (br_t (by decide) (zy_push (by omega) (Or.inr rfl) (nm_r (nI_1 (r + i)) H))))
    · have H := IH ne ef et ew (upd (upd sv t.length 1) (t.length + 1) 1) (upd (upd si t.length (O (r + i))) (t.length + 1) (O (r + i))) (by omega) (stay (by decide)) (by rw [ek]; exact zs_st_push (q := zy_Q K O r) (n := t.length + 1) (s := (r + i, true)) rfl (hx true (by decide) (by decide)) (zs_st_push (q := zy_Q K O r) (a := sv) (b := si) (n := t.length) (s := (r + i, false)) rfl (hx false (by decide) (by decide)) hst.2))
      rw [ek] at H
      exact br_f (by decide) (br_f (by decide) (br_f (by decide) (br_f (by decide) (br_f (by decide) (zy_push (by omega) (Or.inr rfl) (zy_push (by omega) (Or.inr rfl) (nm_r (nI_1 (r + i)) H)))))))
    · have H := IH ne ef et ew (upd (upd sv t.length 1) (t.length + 1) 1) (upd (upd si t.length (O (r + i))) (t.length + 1) (O (r + i))) (by omega) (stay (by decide)) (by rw [ek]; exact zs_st_push (q := zy_Q K O r) (n := t.length + 1) (s := (r + i, true)) rfl (hx true (by decide) (by decide)) (zs_st_push (q := zy_Q K O r) (a := sv) (b := si) (n := t.length) (s := (r + i, false)) rfl (hx false (by decide) (by decide)) hst.2))
      rw [ek] at H
      exact br_f (by decide) (br_f (by decide) (br_f (by decide) (br_f (by decide) (br_f (by decide) (zy_push (by omega) (Or.inr rfl) (zy_push (by omega) (Or.inr rfl) (nm_r (nI_1 (r + i)) H)))))))
    · have H := IH ne ef et ew (upd (upd sv t.length 1) (t.length + 1) 1) (upd (upd si t.length (O (r + i))) (t.length + 1) (O (r + i))) (by omega) (stay (by decide)) (by rw [ek]; exact zs_st_push (q := zy_Q K O r) (n := t.length + 1) (s := (r + i, true)) rfl (hx true (by decide) (by decide)) (zs_st_push (q := zy_Q K O r) (a := sv) (b := si) (n := t.length) (s := (r + i, false)) rfl (hx false (by decide) (by decide)) hst.2))
      rw [ek] at H
      exact br_f (by decide) (br_f (by decide) (br_f (by decide) (br_f (by decide) (br_f (by decide) (zy_push (by omega) (Or.inr rfl) (zy_push (by omega) (Or.inr rfl) (nm_r (nI_1 (r + i)) H)))))))
    · have ene : (nI ne).toNatClampNeg = ne := nI_clamp (by omega)
      have hne1 : vp_in (nI ne) 100 := vp_in_nI (by omega) (by omega)
      refine br_t (by decide) (br_f (nI_ge (b := 100) (by omega) (by decide)) ⟨hne1, nm_r (e' := upd ef ne (nI y)) (by rw [ene]) ⟨hin, hne1, nm_r (e' := upd et ne (A (r + i))) (by rw [ene, e]) ⟨hne1, nm_r (e' := upd ew ne (O (r + i))) (by rw [ene]) (nm_r (nI_1 ne) (nm_r (nI_1 (r + i)) ?_))⟩⟩⟩)
      have H := IH (ne + 1) (upd ef ne (nI y)) (upd et ne (A (r + i))) (upd ew ne (O (r + i))) sv si (by omega) (zy_ed_iff (fun c => ?_) (zy_ed_add (c0 := r + i) (hOw (r + i) (by omega) (by omega)).symm hed)) (by rw [ek]; exact hst.2)
      · rw [ek] at H; exact H
      · constructor
        · intro z
          rcases z with (z | z) | z
          · exact Or.inl z
          · exact Or.inr ⟨z.1, z.2.1, by omega⟩
          · rw [z]; exact Or.inr ⟨hk, by omega, by omega⟩
        · intro z
          rcases z with z | z
          · exact Or.inl (Or.inl z)
          · by_cases ec : c = r + i
            · exact Or.inr ec
            · exact Or.inl (Or.inr ⟨z.1, z.2.1, by omega⟩)
end Z11
end
section
/-! guard, the reference's side: the rounds; guard and verdict -/
section Z12
variable {N C U S : Nat} {op lv fn fi pl yne ysp yvsp ypn : Int32}
variable {K A Ow O P L cl rt en ss so sp ds ww lw vi vv ps pv pt yef yet yew yb ynb yv yx ysv ysi yvs ymo ymv yip ypN ypI : Nat → Int32}
variable {R E : Nat → Nat}
theorem zi_ref (h : zi_inv N C U S op K A P O L Ow cl so sp R E) : ∀ c, c < U → K c = 11 → cl (Ow c).toNatClampNeg = 1 → ∃ n, n < N ∧ Ow c = nI n ∧ cl n = 1 ∧ R n ≤ c ∧ c < E n ∧ zg_bd 96 (O c) := by
  obtain ⟨⟨a1, a2, a3, a4, a5⟩, hcl, hcd, _, hA, hOw, ho⟩ := h
  intro c hc hk hcc
  obtain ⟨n, hn, en, hz⟩ := hOw c hc
  rw [en, nI_clamp (by omega)] at hcc
  have H := hcd n hn hcc
  obtain ⟨r1, r2, r3, r4, r5, r6, r7⟩ := H
  have hz' : R n ≤ c + 1 ∧ c < E n := by
    rcases hz with hz | hz
    · exact hz.2
    · rcases ho with ho | ⟨o, ho1, ho2, ho3, _⟩
      · have := hz.1.symm.trans ho.1
        exact absurd this (zn_ne1 (by omega))
      · have e := zn_im (hz.1.symm.trans ho2) (by omega) (by omega)
        rw [e, ho3] at hcc
        exact absurd hcc (by decide)
  have hne : c ≠ R n - 1 := fun z => by rw [z, r6] at hk; exact absurd hk (by decide)
  obtain ⟨i, hi⟩ : ∃ i, c = R n + i := ⟨c - R n, by omega⟩
  have hb := zs_off r1 (by omega) r4 (i + 1) i (by omega) (by omega)
  rw [← hi] at hb
  exact ⟨n, hn, en, hcc, by omega, hz'.2, by unfold zg_bd; omega⟩
def zy_D (K cl : Nat → Int32) (R E : Nat → Nat) (y c : Nat) : Prop := K c = 11 ∧ ∃ n, n < y ∧ cl n = 1 ∧ R n ≤ c ∧ c < E n
def zy_cn (Ow : Nat → Int32) (U y : Nat) : Nat := zg_cn (fun c => decide ((Ow c).toNatClampNeg < y)) U
theorem zy_b7 {post : SY → Prop} (hD : ∀ n, ds n = nI (R n - 1)) (hE : ∀ n, en n = nI (E n)) (h : zi_inv N C U S op K A P O L Ow cl so sp R E)
    (hp : ∀ (ne : Nat) (msp : Int32) (ef et ew sv si : Nat → Int32), ne ≤ 96 → zy_ed A Ow O ne ef et ew (zy_D K cl R E N) → post ((nI N), (nI C), (nI U), op, (nI S), (nI ne), msp, yvsp, ypn, lv, fn, fi, K, A, cl, ds, en, ss, ef, et, ew, yb, ynb, yv, yx, sv, si, yvs, ymo, ymv, yip, ypN, ypI)) :
    ∀ d y (ne : Nat) (msp : Int32) (ef et ew sv si : Nat → Int32), y + d = N → ne ≤ zy_cn Ow U y → zy_ed A Ow O ne ef et ew (zy_D K cl R E y) →
      wY_buildEdges_7 post (d + 1) (nI y) (nI N) (nI C) (nI U) op (nI S) (nI ne) msp yvsp ypn lv fn fi K A cl ds en ss ef et ew yb ynb yv yx sv si yvs ymo ymv yip ypN ypI := by
  obtain ⟨⟨a1, a2, a3, a4, a5⟩, hcl, hcd, hRE, _⟩ := h
  have hcnU : ∀ y, zy_cn Ow U y ≤ U := fun y => zg_cn_le _ U
  intro d
  induction d with
  | zero =>
    intro y ne msp ef et ew sv si hy hne hed
    obtain rfl : y = N := by omega
    have := hcnU y
    exact br_t (nI_le (by omega) (by omega)) (hp ne msp ef et ew sv si (by omega) hed)
  | succ d ih =>
    intro y ne msp ef et ew sv si hy hne hed
    have ey : (nI y).toNatClampNeg = y := nI_clamp (by omega)
    have hin8 : vp_in (nI y) 8 := vp_in_nI (by omega) (by omega)
    refine br_f (nI_ge (by omega) (by omega)) ⟨hin8, ?_⟩
    have hmono : ∀ z, zg_cn (fun c => decide ((Ow c).toNatClampNeg < y)) z ≤ zg_cn (fun c => decide ((Ow c).toNatClampNeg < y + 1)) z := fun z => by
      have := zg_cn_add (p := fun c => decide ((Ow c).toNatClampNeg < y)) (q := fun c => decide ((Ow c).toNatClampNeg < y + 1)) (a := 0) (b := 0) (fun c hc => decide_eq_true (by have := of_decide_eq_true hc; omega)) (fun c h1 h2 => by omega) z (by omega) (by omega)
      omega
    rcases hcl y with hc | hc
    · refine br_t (by rw [ey]; exact hc) (nm_r (nI_1 y) (ih (y + 1) ne msp ef et ew sv si (by omega) (Nat.le_trans hne (hmono U)) (zy_ed_iff (fun c => ?_) hed)))
      constructor
      · intro ⟨z1, n, z2, z3⟩
        exact ⟨z1, n, by omega, z3⟩
      · intro ⟨z1, n, z2, z3, z4⟩
        refine ⟨z1, n, ?_, z3, z4⟩
        by_cases e : n = y
        · rw [e, hc] at z3; exact absurd z3 (by decide)
        · omega
    · obtain ⟨r1, r2, r3, r4, r5, r6, r7⟩ := hcd y (by omega) hc
      have hadd : zy_cn Ow U y + (E y - R y) ≤ zy_cn Ow U (y + 1) :=
        zg_cn_add (p := fun c => decide ((Ow c).toNatClampNeg < y)) (q := fun c => decide ((Ow c).toNatClampNeg < y + 1)) (a := R y) (b := E y) (fun c hc => decide_eq_true (by have := of_decide_eq_true hc; omega))
          (fun c h1 h2 => by
            have e := r7 c (by omega) h2
            have e2 : (Ow c).toNatClampNeg = y := by rw [e]; exact ey
            exact ⟨decide_eq_true (by rw [e2]; omega), decide_eq_false (by rw [e2]; omega)⟩) U r3 (by omega)
      have hU1 := hcnU (y + 1)
      refine br_f (by rw [ey, hc]; decide) (zy_push (m := 0) (by omega) (Or.inr rfl) ⟨hin8, nm_r (e' := nI (R y + 0)) (by rw [ey, hD y, nI_1]; congr 1; omega) ⟨E y - R y + 1, ?_⟩⟩)
      have hst0 : zs_st (fun j s => zy_Q K O (R y) (upd sv 0 1 j) (upd si 0 0 j) s) (zs_stk K (R y) 0) := by
        refine ⟨?_, trivial⟩
        show upd si 0 0 0 = zs_so K O (R y) (R y - 1, true)
        rw [pk_us]; unfold zs_so; rw [if_pos (by show R y - 1 < R y; omega)]
      refine zy_b47 (J7 := wY_buildEdges_7 post (d + 1)) (n := E y - R y) (base := zy_cn Ow U y) (L := L) (P := P) (r := R y) (zy_D K cl R E y) (by omega) r1 (by omega) (by omega) (by omega) (by rw [hE y]; congr 1; omega) r4 (fun c x z => r7 c x (by omega))
        (fun ne' m' ef' et' ew' sv' si' h1 h2 => ih (y + 1) ne' (nI m') ef' et' ew' sv' si' (by omega) (by omega) (zy_ed_iff (fun c => ?_) h2)) (E y - R y) 0 ne ef et ew _ _ (by omega) (by omega) (zy_ed_iff (fun c => ?_) hed) hst0
      · constructor
        · intro z
          rcases z with ⟨z1, n, z2, z3⟩ | z
          · exact ⟨z1, n, by omega, z3⟩
          · exact ⟨z.1, y, by omega, hc, z.2.1, by have := z.2.2; omega⟩
        · intro ⟨z1, n, z2, z3, z4, z5⟩
          by_cases e : n = y
          · rw [e] at z4 z5; exact Or.inr ⟨z1, z4, by omega⟩
          · exact Or.inl ⟨z1, n, by omega, z3, z4, z5⟩
      · constructor
        · intro z; exact Or.inl z
        · intro z
          rcases z with z | z
          · exact z
          · omega
theorem zy_204 {post : Int32 → SY → Prop} {J37 : Int32 → Int32 → (Nat → Int32) → (Nat → Int32) → (Nat → Int32) → (Nat → Int32) → (Nat → Int32) → (Nat → Int32) → (Nat → Int32) → (Nat → Int32) → (Nat → Int32) → (Nat → Int32) → (Nat → Int32) → (Nat → Int32) → (Nat → Int32) → (Nat → Int32) → (Nat → Int32) → (Nat → Int32) → (Nat → Int32) → (Nat → Int32) → (Nat → Int32) → (Nat → Int32) → (Nat → Int32) → Prop} {b l : Nat} {Z : Nat → Int32} {x1 x3 v' : Int32} (hb : b < N) (hN : N ≤ 8) (hn : ∀ t, t < N → ynb t = Z t)
    (v1 : Z b = -1000000 → v' = x3) (v2 : Z b ≤ x3 → v' = x3) (v3 : ¬ Z b ≤ x3 → v' = Z b) (hJ : ∀ best', (∀ t, t < N → best' t = Z t) → J37 v' (nI (l + 2)) K A cl ds en ss yef yet yew best' ynb yv yx ysv ysi yvs ymo ymv yip ypN ypI) :
    ∀ d i best, i + d = N → (∀ t, t < i → best t = Z t) → wY_guard_204 post J37 x1 (nI b) x3 (nI (l + 1)) (nI N) (nI C) (nI U) op (nI S) yne ysp yvsp ypn lv fn fi (d + 1) (nI i) K A cl ds en ss yef yet yew best ynb yv yx ysv ysi yvs ymo ymv yip ypN ypI := by
  intro d
  induction d with
  | zero =>
    intro i best hi hw
    have e : (nI b).toNatClampNeg = b := nI_clamp (by omega)
    have hin : vp_in (nI b) 8 := vp_in_nI (by omega) (by omega)
    have hw' : ∀ t, t < N → best t = Z t := fun t ht => hw t (by omega)
    have eb : best (nI b).toNatClampNeg = Z b := by rw [e]; exact hw' b hb
    have J := hJ best hw'
    refine br_t (nI_le (by omega) (by omega)) ⟨hin, ?_⟩
    by_cases h1 : Z b = -1000000
    · rw [v1 h1] at J
      exact br_t (by rw [eb]; exact h1) (nm_r (nI_1 (l + 1)) J)
    · refine br_f (by rw [eb]; exact h1) ⟨hin, ?_⟩
      by_cases h2 : Z b ≤ x3
      · rw [v2 h2] at J
        exact br_t (by rw [eb]; exact h2) (nm_r (nI_1 (l + 1)) J)
      · rw [v3 h2] at J
        exact br_f (by rw [eb]; exact h2) ⟨hin, nm_r eb (nm_r (nI_1 (l + 1)) J)⟩
  | succ d ih =>
    intro i best hi hw
    have e : (nI i).toNatClampNeg = i := nI_clamp (by omega)
    have hin : vp_in (nI i) 8 := vp_in_nI (by omega) (by omega)
    refine br_f (nI_ge (by omega) (by omega)) ⟨hin, hin, nm_r (e' := upd best i (Z i)) (by rw [e, hn i (by omega)]) (nm_r (nI_1 i) (ih (i + 1) _ (by omega) (fun t ht => ?_)))⟩
    by_cases et : t = i
    · rw [et, pk_us]
    · rw [pk_un et]; exact hw t (by omega)
theorem zy_157 {post : Int32 → SY → Prop} {J37 : Int32 → Int32 → (Nat → Int32) → (Nat → Int32) → (Nat → Int32) → (Nat → Int32) → (Nat → Int32) → (Nat → Int32) → (Nat → Int32) → (Nat → Int32) → (Nat → Int32) → (Nat → Int32) → (Nat → Int32) → (Nat → Int32) → (Nat → Int32) → (Nat → Int32) → (Nat → Int32) → (Nat → Int32) → (Nat → Int32) → (Nat → Int32) → (Nat → Int32) → (Nat → Int32) → (Nat → Int32) → Prop} {J76 : Int32 → (Nat → Int32) → (Nat → Int32) → (Nat → Int32) → (Nat → Int32) → (Nat → Int32) → (Nat → Int32) → (Nat → Int32) → (Nat → Int32) → (Nat → Int32) → (Nat → Int32) → (Nat → Int32) → (Nat → Int32) → (Nat → Int32) → (Nat → Int32) → (Nat → Int32) → (Nat → Int32) → (Nat → Int32) → (Nat → Int32) → (Nat → Int32) → (Nat → Int32) → (Nat → Int32) → Prop} {e m : Nat} {x1 x2 x3 x4 x6 : Int32} (he : e < 100) (hm : m < 8) (hem : yet e = nI m) (h1 : x6 = -1000000 → J76 (nI (e + 1)) K A cl ds en ss yef yet yew yb ynb yv yx ysv ysi yvs ymo ymv yip ypN ypI)
    (h2 : ¬ x6 = -1000000 → ¬ ynb m < x6 → J76 (nI (e + 1)) K A cl ds en ss yef yet yew yb ynb yv yx ysv ysi yvs ymo ymv yip ypN ypI) (h3 : ¬ x6 = -1000000 → ynb m < x6 → J76 (nI (e + 1)) K A cl ds en ss yef yet yew yb (upd ynb m x6) yv yx ysv ysi yvs ymo ymv yip ypN ypI) : wY_guard_157 post J37 J76 x1 x2 x3 x4 (nI e) x6 (nI N) (nI C) (nI U) op (nI S) yne ysp yvsp ypn lv fn fi K A cl ds en ss yef yet yew yb ynb yv yx ysv ysi yvs ymo ymv yip ypN ypI := by
  have ee : (nI e).toNatClampNeg = e := nI_clamp (by omega)
  have em : (nI m).toNatClampNeg = m := nI_clamp (by omega)
  have hin : vp_in (nI e) 100 := vp_in_nI he (by omega)
  have hin8 : vp_in (yet (nI e).toNatClampNeg) 8 := by rw [ee, hem]; exact vp_in_nI hm (by omega)
  have e2 : (yet (nI e).toNatClampNeg).toNatClampNeg = m := by rw [ee, hem]; exact em
  by_cases hx : x6 = -1000000
  · exact br_t hx (nm_r (nI_1 e) (h1 hx))
  · refine br_f hx ⟨hin, hin8, ?_⟩
    by_cases hl : ynb m < x6
    · exact br_f (by rw [e2]; exact Int32.not_le.mpr hl) ⟨hin, hin8, nm_r (by rw [e2]) (nm_r (nI_1 e) (h3 hx hl))⟩
    · exact br_t (by rw [e2]; exact Int32.not_lt.mp hl) (nm_r (nI_1 e) (h2 hx hl))
def zy_EY (ef et ew W : Nat → Int32) (n t : Nat) (w : Int32) : Prop := ∃ e, e < n ∧ (et e).toNatClampNeg = t ∧ W (ef e).toNatClampNeg ≠ -1000000 ∧ w = W (ef e).toNatClampNeg + ew e
theorem zy_EY_n {ef et ew W : Nat → Int32} {n t : Nat} {w : Int32} (h : W (ef n).toNatClampNeg = -1000000) : zy_EY ef et ew W n t w ↔ zy_EY ef et ew W (n + 1) t w := by
  constructor
  · intro ⟨e, h1, h2⟩; exact ⟨e, by omega, h2⟩
  · intro ⟨e, h1, h2, h3, h4⟩
    by_cases en : e = n
    · rw [en] at h3; exact absurd h h3
    · exact ⟨e, by omega, h2, h3, h4⟩
theorem zy_EY_t {ef et ew W : Nat → Int32} {n m t : Nat} {w x : Int32} (hm : (et n).toNatClampNeg = m) (h : W (ef n).toNatClampNeg ≠ -1000000) (hx : x = W (ef n).toNatClampNeg + ew n) : (zy_EY ef et ew W n t w ∨ (t = m ∧ w = x)) ↔ zy_EY ef et ew W (n + 1) t w := by
  constructor
  · intro z
    rcases z with ⟨e, h1, h2⟩ | ⟨h1, h2⟩
    · exact ⟨e, by omega, h2⟩
    · exact ⟨n, by omega, by rw [hm, h1], h, by rw [h2, hx]⟩
  · intro ⟨e, h1, h2, h3, h4⟩
    by_cases en : e = n
    · rw [en] at h2 h4; exact Or.inr ⟨by rw [← h2, hm], by rw [h4, hx]⟩
    · exact Or.inl ⟨e, by omega, h2, h3, h4⟩
theorem zy_76 {post : Int32 → SY → Prop} {J37 : Int32 → Int32 → (Nat → Int32) → (Nat → Int32) → (Nat → Int32) → (Nat → Int32) → (Nat → Int32) → (Nat → Int32) → (Nat → Int32) → (Nat → Int32) → (Nat → Int32) → (Nat → Int32) → (Nat → Int32) → (Nat → Int32) → (Nat → Int32) → (Nat → Int32) → (Nat → Int32) → (Nat → Int32) → (Nat → Int32) → (Nat → Int32) → (Nat → Int32) → (Nat → Int32) → (Nat → Int32) → Prop} {a l ne : Nat} {W : Nat → Int32} {x2 x3 : Int32} (ha : a < N) (hN : N ≤ 8) (hl : l < 8) (hne : ne ≤ 96) (hW1 : l = 0 → ∀ t, t < N → W t = if t = a then 0 else -1000000) (hW2 : l ≠ 0 → ∀ t, t < N → yb t = W t)
    (hbd : ∀ t, t < N → W t = -1000000 ∨ zg_bd (96 * l) (W t)) (hE : ∀ e, e < ne → ∃ n m, n < N ∧ m < N ∧ yef e = nI n ∧ yet e = nI m ∧ zg_bd 96 (yew e))
    (hp : ∀ nb', zg_mx (zy_EY yef yet yew W ne) N nb' → ∃ n204 : Nat, wY_guard_204 post J37 (nI a) x2 x3 (nI (l + 1)) (nI N) (nI C) (nI U) op (nI S) (nI ne) ysp yvsp ypn lv fn fi n204 0 K A cl ds en ss yef yet yew yb nb' yv yx ysv ysi yvs ymo ymv yip ypN ypI) :
    ∀ d e nb, e + d = ne → zg_mx (zy_EY yef yet yew W e) N nb → wY_guard_76 post J37 (nI a) x2 x3 (nI (l + 1)) (nI N) (nI C) (nI U) op (nI S) (nI ne) ysp yvsp ypn lv fn fi (d + 1) (nI e) K A cl ds en ss yef yet yew yb nb yv yx ysv ysi yvs ymo ymv yip ypN ypI := by
  intro d
  induction d with
  | zero =>
    intro e nb he hm
    obtain rfl : e = ne := by omega
    exact br_t (nI_le (by omega) (by omega)) (hp nb hm)
  | succ d ih =>
    intro e nb he hmx
    obtain ⟨n, m, hn, hm, qn, qm, hbe⟩ := hE e (by omega)
    have ee : (nI e).toNatClampNeg = e := nI_clamp (by omega)
    have hin : vp_in (nI e) 100 := vp_in_nI (by omega) (by omega)
    have en8 : (yef e).toNatClampNeg = n := by rw [qn]; exact nI_clamp (by omega)
    have em8 : (yet e).toNatClampNeg = m := by rw [qm]; exact nI_clamp (by omega)
    have skip : W n = -1000000 → wY_guard_157 post J37 (wY_guard_76 post J37 (nI a) x2 x3 (nI (l + 1)) (nI N) (nI C) (nI U) op (nI S) (nI ne) ysp yvsp ypn lv fn fi (d + 1)) (nI a) x2 x3 (nI (l + 1)) (nI e) (-1000000) (nI N) (nI C) (nI U) op (nI S) (nI ne) ysp yvsp ypn lv fn fi K A cl ds en ss yef yet yew yb nb yv yx ysv ysi yvs ymo ymv yip ypN ypI := by
      intro hw
      exact zy_157 (by omega) (by omega) qm (fun _ => ih (e + 1) nb (by omega) (zg_mx_iff (fun t w _ => zy_EY_n (by rw [en8]; exact hw)) hmx)) (fun z => absurd rfl z) (fun z => absurd rfl z)
    have take : ∀ x6 : Int32, ¬ W n = -1000000 → x6 = W n + yew e → wY_guard_157 post J37 (wY_guard_76 post J37 (nI a) x2 x3 (nI (l + 1)) (nI N) (nI C) (nI U) op (nI S) (nI ne) ysp yvsp ypn lv fn fi (d + 1)) (nI a) x2 x3 (nI (l + 1)) (nI e) x6 (nI N) (nI C) (nI U) op (nI S) (nI ne) ysp yvsp ypn lv fn fi K A cl ds en ss yef yet yew yb nb yv yx ysv ysi yvs ymo ymv yip ypN ypI := by
      intro x6 hw hx
      have hx' : x6 = W (yef e).toNatClampNeg + yew e := by rw [en8]; exact hx
      have hw' : W (yef e).toNatClampNeg ≠ -1000000 := by rw [en8]; exact hw
      have hb := (hbd n hn).resolve_left hw
      have hbx : x6 ≠ -1000000 := by rw [hx]; exact zg_bd_ne (B := 96 * l + 96) (by omega) (zg_bd_add (by omega) hb hbe)
      exact zy_157 (by omega) (by omega) qm (fun z => absurd z hbx) (fun _ hlt => ih (e + 1) nb (by omega) (zg_mx_iff (fun t w _ => zy_EY_t em8 hw' hx') (zg_mx_n hmx hlt))) (fun _ hlt => ih (e + 1) _ (by omega) (zg_mx_iff (fun t w _ => zy_EY_t em8 hw' hx') (zg_mx_t hmx hlt)))
    refine br_f (nI_ge (by omega) (by omega)) ?_
    by_cases hl0 : l = 0
    · refine br_t (by rw [hl0]; rfl) ⟨hin, ?_⟩
      have hWn := hW1 hl0 n hn
      by_cases hna : n = a
      · rw [if_pos hna] at hWn
        refine br_t (by rw [ee, qn, hna]) ⟨hin, nm_r (e' := yew e) (by rw [ee]) (take _ (by rw [hWn]; decide) (by rw [hWn, Int32.zero_add]))⟩
      · rw [if_neg hna] at hWn
        exact br_f (fun z => hna (by rw [ee, qn] at z; exact zn_im z (by omega) (by omega))) (skip hWn)
    · have hi8 : vp_in (yef (nI e).toNatClampNeg) 8 := by rw [ee, qn]; exact vp_in_nI (by omega) (by omega)
      have ebn : yb (yef (nI e).toNatClampNeg).toNatClampNeg = W n := by rw [ee, en8]; exact hW2 hl0 n hn
      refine br_f (fun z => hl0 (by have := zn_im (a := l + 1) (b := 1) z (by omega) (by omega); omega)) ⟨hin, hi8, ?_⟩
      by_cases hw : W n = -1000000
      · exact br_t (by rw [ebn]; exact hw) (skip hw)
      · exact br_f (by rw [ebn]; exact hw) ⟨hin, hi8, hin, nm_r (e' := W n + yew e) (by rw [ebn, ee]) (take _ hw rfl)⟩
theorem zy_49 {post : Int32 → SY → Prop} {J37 : Int32 → Int32 → (Nat → Int32) → (Nat → Int32) → (Nat → Int32) → (Nat → Int32) → (Nat → Int32) → (Nat → Int32) → (Nat → Int32) → (Nat → Int32) → (Nat → Int32) → (Nat → Int32) → (Nat → Int32) → (Nat → Int32) → (Nat → Int32) → (Nat → Int32) → (Nat → Int32) → (Nat → Int32) → (Nat → Int32) → (Nat → Int32) → (Nat → Int32) → (Nat → Int32) → (Nat → Int32) → Prop} {x1 x2 x3 x4 : Int32} (hN : N ≤ 8) (hp : ∀ nb', (∀ t, t < N → nb' t = -1000000) → ∃ n76 : Nat, wY_guard_76 post J37 x1 x2 x3 x4 (nI N) (nI C) (nI U) op (nI S) yne ysp yvsp ypn lv fn fi n76 0 K A cl ds en ss yef yet yew yb nb' yv yx ysv ysi yvs ymo ymv yip ypN ypI) :
    ∀ d i nb, i + d = N → (∀ t, t < i → nb t = -1000000) → wY_guard_49 post J37 x1 x2 x3 x4 (nI N) (nI C) (nI U) op (nI S) yne ysp yvsp ypn lv fn fi (d + 1) (nI i) K A cl ds en ss yef yet yew yb nb yv yx ysv ysi yvs ymo ymv yip ypN ypI := by
  intro d
  induction d with
  | zero =>
    intro i nb hi hl
    exact br_t (nI_le (by omega) (by omega)) (hp nb (fun t ht => hl t (by omega)))
  | succ d ih =>
    intro i nb hi hl
    have e : (nI i).toNatClampNeg = i := nI_clamp (by omega)
    refine br_f (nI_ge (by omega) (by omega)) ⟨vp_in_nI (by omega) (by omega), nm_r (e' := upd nb i (-1000000)) (by rw [e]) (nm_r (nI_1 i) (ih (i + 1) _ (by omega) (fun t ht => ?_)))⟩
    by_cases et : t = i
    · rw [et, pk_us]
    · rw [pk_un et]; exact hl t (by omega)
theorem zg_g_ge {a b : Nat} : ∀ l, (-1000000 : Int32) ≤ zg_g K A O Ow cl U a b l := by
  intro l
  induction l with
  | zero => exact Int32.le_refl _
  | succ l ih =>
    show _ ≤ (if zg_g K A O Ow cl U a b l < zg_seq K A O Ow cl U a (l + 1) b then zg_seq K A O Ow cl U a (l + 1) b else zg_g K A O Ow cl U a b l)
    split
    · rename_i h; exact Int32.le_trans ih (Int32.le_of_lt h)
    · exact ih
theorem zy_37 {post : Int32 → SY → Prop} {a b ne : Nat} (h : zi_inv N C U S op K A P O L Ow cl so sp R E) (ha : a < N) (hb : b < N) (hne : ne ≤ 96) (hed : zy_ed A Ow O ne yef yet yew (zy_D K cl R E N))
    (hp : ∀ best' nb', post (zg_g K A O Ow cl U a b N) ((nI N), (nI C), (nI U), op, (nI S), (nI ne), ysp, yvsp, ypn, lv, fn, fi, K, A, cl, ds, en, ss, yef, yet, yew, best', nb', yv, yx, ysv, ysi, yvs, ymo, ymv, yip, ypN, ypI)) :
    ∀ d l best nb, l + d = N → (l ≠ 0 → ∀ t, t < N → best t = zg_seq K A O Ow cl U a l t) →
      wY_guard_37 post (nI a) (nI b) (nI N) (nI C) (nI U) op (nI S) (nI ne) ysp yvsp ypn lv fn fi (d + 1) (zg_g K A O Ow cl U a b l) (nI (l + 1)) K A cl ds en ss yef yet yew best nb yv yx ysv ysi yvs ymo ymv yip ypN ypI := by
  have href := zi_ref h
  obtain ⟨⟨a1, a2, a3, a4, a5⟩, hcl, hcd, hRE, hA, hOw, ho⟩ := h
  have hDN : ∀ c, zy_D K cl R E N c ↔ (c < U ∧ K c = 11 ∧ cl (Ow c).toNatClampNeg = 1) := by
    intro c
    constructor
    · intro ⟨z1, n, z2, z3, z4, z5⟩
      obtain ⟨r1, r2, r3, r4, r5, r6, r7⟩ := hcd n z2 z3
      exact ⟨by omega, z1, by rw [r7 c (by omega) z5, nI_clamp (by omega)]; exact z3⟩
    · intro ⟨z1, z2, z3⟩
      obtain ⟨n, w1, w2, w3, w4, w5, _⟩ := href c z1 z2 z3
      exact ⟨z2, n, w1, w3, w4, w5⟩
  have hEd : ∀ e, e < ne → ∃ n m, n < N ∧ m < N ∧ yef e = nI n ∧ yet e = nI m ∧ zg_bd 96 (yew e) := by
    intro e he
    obtain ⟨c, hc, e1, e2, e3⟩ := hed.1 e he
    obtain ⟨z1, z2, z3⟩ := (hDN c).mp hc
    obtain ⟨n, w1, w2, _, _, _, w6⟩ := href c z1 z2 z3
    obtain ⟨m, m1, m2⟩ := hA c z1 z2
    exact ⟨n, m, w1, m1, e1.trans w2, e2.trans m2, by rw [e3]; exact w6⟩
  have hOb : ∀ c, c < U → K c = 11 → cl (Ow c).toNatClampNeg = 1 → (Ow c).toNatClampNeg < N ∧ zg_bd 96 (O c) := by
    intro c z1 z2 z3
    obtain ⟨n, w1, w2, _, _, _, w6⟩ := href c z1 z2 z3
    exact ⟨by rw [w2, nI_clamp (by omega)]; exact w1, w6⟩
  have hbd := zg_seq_bd (A := A) (a := a) (N := N) hOb
  intro d
  induction d with
  | zero =>
    intro l best nb hl _
    obtain rfl : l = N := by omega
    exact br_t (nI_lt (by omega) (by omega)) (hp best nb)
  | succ d ih =>
    intro l best nb hl hbest
    refine br_f (nI_nlt (by omega) (by omega)) ⟨_, zy_49 a2 (fun nb1 h1 => ⟨_, zy_76 (W := zg_seq K A O Ow cl U a l) ha a2 (by omega) hne (fun hl0 t ht => by rw [hl0]; rfl) hbest (fun t ht => hbd l (by omega) t ht) hEd (fun nb2 h2 => ?_) ne 0 nb1 (by omega) (zg_mx_0 (fun t w _ => fun ⟨e, z, _⟩ => absurd z (Nat.not_lt_zero e)) h1)⟩) N 0 nb (by omega) (fun t ht => absurd ht (Nat.not_lt_zero t))⟩
    have hEiff : ∀ t w, t < N → (zy_EY yef yet yew (zg_seq K A O Ow cl U a l) ne t w ↔ zg_E K A O Ow cl (zg_seq K A O Ow cl U a l) U t w) := by
      intro t w _
      constructor
      · intro ⟨e, z1, z2, z3, z4⟩
        obtain ⟨c, hc, e1, e2, e3⟩ := hed.1 e z1
        obtain ⟨y1, y2, y3⟩ := (hDN c).mp hc
        exact ⟨c, y1, y2, y3, by rw [← e2]; exact z2, by rw [← e1]; exact z3, by rw [← e1, ← e3]; exact z4⟩
      · intro ⟨c, y1, y2, y3, z2, z3, z4⟩
        obtain ⟨e, z1, e1, e2, e3⟩ := hed.2 c ((hDN c).mpr ⟨y1, y2, y3⟩)
        exact ⟨e, z1, by rw [e2]; exact z2, by rw [e1]; exact z3, by rw [e1, e3]; exact z4⟩
    have hZ : ∀ t, t < N → nb2 t = zg_seq K A O Ow cl U a (l + 1) t := by
      refine zg_mx_un (E := zg_E K A O Ow cl (zg_seq K A O Ow cl U a l) U) (fun t w ht hE => ?_) (zg_mx_iff hEiff h2) (zg_len_mx K A O Ow cl (zg_seq K A O Ow cl U a l) N U)
      obtain ⟨c, y1, y2, y3, z2, z3, z4⟩ := hE
      obtain ⟨w1, w2⟩ := hOb c y1 y2 y3
      rw [z4]
      exact zg_bd_gt (B := 96 * l + 96) (by omega) (zg_bd_add (by omega) ((hbd l (by omega) _ w1).resolve_left z3) w2)
    have hg : zg_g K A O Ow cl U a b (l + 1) = if zg_g K A O Ow cl U a b l < zg_seq K A O Ow cl U a (l + 1) b then zg_seq K A O Ow cl U a (l + 1) b else zg_g K A O Ow cl U a b l := rfl
    refine ⟨_, zy_204 (v' := zg_g K A O Ow cl U a b (l + 1)) (Z := zg_seq K A O Ow cl U a (l + 1)) hb a2 hZ (fun z => ?_) (fun z => ?_) (fun z => ?_) (fun best' hb' => ih (l + 1) best' nb2 (by omega) (fun _ => hb')) N 0 best (by omega) (fun t ht => absurd ht (Nat.not_lt_zero t))⟩
    · rw [hg, if_neg (by rw [z]; exact Int32.not_lt.mpr (zg_g_ge l))]
    · rw [hg, if_neg (Int32.not_lt.mpr z)]
    · rw [hg, if_pos (Int32.not_le.mp z)]
theorem zy_guard {post : Int32 → SY → Prop} {a b : Nat} (hD : ∀ n, ds n = nI (R n - 1)) (hE : ∀ n, en n = nI (E n)) (h : zi_inv N C U S op K A P O L Ow cl so sp R E) (ha : a < N) (hb : b < N)
    (hp : ∀ (yne ysp : Int32) (yef yet yew yb ynb ysv ysi : Nat → Int32), post (zg_g K A O Ow cl U a b N) ((nI N), (nI C), (nI U), op, (nI S), yne, ysp, yvsp, ypn, lv, fn, fi, K, A, cl, ds, en, ss, yef, yet, yew, yb, ynb, yv, yx, ysv, ysi, yvs, ymo, ymv, yip, ypN, ypI)) : wpY_guard post ((nI N), (nI C), (nI U), op, (nI S), yne, ysp, yvsp, ypn, lv, fn, fi, K, A, cl, ds, en, ss, yef, yet, yew, yb, ynb, yv, yx, ysv, ysi, yvs, ymo, ymv, yip, ypN, ypI) (nI a) (nI b) := by
  have hN := h.1.2.1
  refine br_f (nI_pos (by omega)) (br_f (nI_ge ha (by omega)) (br_f (nI_pos (by omega)) (br_t (nI_lt hb (by omega)) ⟨_, zy_b7 hD hE h (fun ne msp ef et ew sv si hne hed => ⟨_, zy_37 h ha hb hne hed (fun best' nb' => hp _ _ _ _ _ _ _ _ _) N 0 _ _ (by omega) (fun z => absurd rfl z)⟩) N 0 0 ysp yef yet yew ysv ysi (by omega) (Nat.zero_le _) ?_⟩)))
  exact ⟨fun e he => absurd he (Nat.not_lt_zero e), fun c hc => by obtain ⟨_, n, z, _⟩ := hc; exact absurd z (Nat.not_lt_zero n)⟩
theorem zy_guard0 {post : Int32 → SY → Prop} {x y : Int32} (h : (x < 0 ∨ nI N ≤ x) ∨ (y < 0 ∨ nI N ≤ y)) (hp : post (-1000000) ((nI N), (nI C), (nI U), op, (nI S), yne, ysp, yvsp, ypn, lv, fn, fi, K, A, cl, ds, en, ss, yef, yet, yew, yb, ynb, yv, yx, ysv, ysi, yvs, ymo, ymv, yip, ypN, ypI)) : wpY_guard post ((nI N), (nI C), (nI U), op, (nI S), yne, ysp, yvsp, ypn, lv, fn, fi, K, A, cl, ds, en, ss, yef, yet, yew, yb, ynb, yv, yx, ysv, ysi, yvs, ymo, ymv, yip, ypN, ypI) x y := by
  by_cases h1 : x < 0
  · exact br_t h1 hp
  · refine br_f h1 ?_
    by_cases h2 : nI N ≤ x
    · exact br_t h2 hp
    · refine br_f h2 ?_
      by_cases h3 : y < 0
      · exact br_t h3 hp
      · refine br_f h3 (br_f (fun z => ?_) hp)
        rcases h with h | h
        · exact h.elim h1 h2
        · rcases h with h | h
          · exact h3 h
          · exact absurd z (Int32.not_lt.mpr h)
theorem i_vc_guard {k : Nat} {u : SX} {v : SY} (I : i_Rel k u v) (hk : k + 3 ≤ 1538) (v1 : Int32) (v2 : Int32) : wpX_guard (fun r u' => wpY_guard (fun r' v' => r' = r ∧ i_Rel (k + 3) u' v') v v1 v2) u v1 v2 := by
  have J := i_up I
  obtain ⟨N, C, U, S, op, lv, fn, fi, K, A, Ow, O, P, L, cl, rt, en, ss, so, sp, ds, R, E, pl, ww, lw, vi, vv, ps, pv, pt, yne, ysp, yvsp, ypn, yef, yet, yew, yb, ynb, yv, yx, ysv, ysi, yvs, ymo, ymv, yip, ypN, ypI, rfl, rfl, hR, hD, hE, h⟩ := I
  have hb := h.1
  have hOw : ∀ c, c < U → ∃ n, n < N ∧ Ow c = nI n := fun c hc => by
    obtain ⟨n, h1, h2, _⟩ := h.2.2.2.2.2.1 c hc
    exact ⟨n, h1, h2⟩
  by_cases hv : (v1 < 0 ∨ nI N ≤ v1) ∨ (v2 < 0 ∨ nI N ≤ v2)
  · exact zx_guard0 (by omega) hv (zy_guard0 hv ⟨rfl, J⟩)
  · obtain ⟨a, ha, rfl⟩ : ∃ j : Nat, j < N ∧ v1 = nI j := by
      rcases pk_ix v1 (n := N) (by omega) with h | h | h
      · exact absurd (Or.inl (Or.inl h)) hv
      · exact absurd (Or.inl (Or.inr h)) hv
      · exact h
    obtain ⟨b, hb', rfl⟩ : ∃ j : Nat, j < N ∧ v2 = nI j := by
      rcases pk_ix v2 (n := N) (by omega) with h | h | h
      · exact absurd (Or.inr (Or.inl h)) hv
      · exact absurd (Or.inr (Or.inr h)) hv
      · exact h
    exact zx_guard ha hb' (by omega) (by omega) h.2.1 h.2.2.2.2.1 hOw (fun ww' lw' => zy_guard hD hE h ha hb' (fun _ _ _ _ _ _ _ _ _ => ⟨rfl, zr_mk hR hD hE h⟩))
/-- the names one by one -/
def zv_r (K A O Ow cl : Nat → Int32) (U N : Nat) : Nat → Int32
  | 0 => 0
  | d + 1 => if cl (N - (d + 1)) = 0 then zv_r K A O Ow cl U N d else if zg_g K A O Ow cl U (N - (d + 1)) (N - (d + 1)) N < 0 then zv_r K A O Ow cl U N d else 4
theorem zv_x {post : Int32 → SX → Prop} (hN : N ≤ 8) (hU : U ≤ 96) (hcl : ∀ n, cl n = 0 ∨ cl n = 1) (hA : ∀ c, c < U → K c = 11 → ∃ m, m < N ∧ A c = nI m) (hO : ∀ c, c < U → ∃ n, n < N ∧ Ow c = nI n) :
    ∀ d i ww lw, i + d = N → (∀ ww' lw', post (zv_r K A O Ow cl U N d) ((nI N), (nI C), (nI U), op, (nI S), pl, lv, fn, fi, K, A, Ow, O, P, L, cl, rt, en, ss, so, sp, ww', lw', vi, vv, ps, pv, pt)) → wX_verdict_13 post (d + 1) (nI i) (nI N) (nI C) (nI U) op (nI S) pl lv fn fi K A Ow O P L cl rt en ss so sp ww lw vi vv ps pv pt := by
  intro d
  induction d with
  | zero => intro i ww lw hi hp; exact br_t (nI_le (by omega) (by omega)) (hp ww lw)
  | succ d ih =>
    intro i ww lw hi hp
    have e : (nI i).toNatClampNeg = i := nI_clamp (by omega)
    have hi' : N - (d + 1) = i := by omega
    have hr : zv_r K A O Ow cl U N (d + 1) = if cl i = 0 then zv_r K A O Ow cl U N d else if zg_g K A O Ow cl U i i N < 0 then zv_r K A O Ow cl U N d else 4 := by
      show (if cl (N - (d + 1)) = 0 then _ else _) = _
      rw [hi']
    rw [hr] at hp
    refine br_f (nI_ge (by omega) (by omega)) ⟨vp_in_nI (by omega) (by omega), ?_⟩
    by_cases hc : cl (nI i).toNatClampNeg = 0
    · rw [e] at hc
      rw [if_pos hc] at hp
      exact br_t (by rw [e]; exact hc) (nm_r (nI_1 i) (ih (i + 1) ww lw (by omega) hp))
    · refine br_f hc (zx_guard (by omega) (by omega) hN hU hcl hA hO (fun ww' lw' => ?_))
      rw [e] at hc
      rw [if_neg hc] at hp
      by_cases hg : zg_g K A O Ow cl U i i N < 0
      · rw [if_pos hg] at hp
        exact br_t hg (nm_r (nI_1 i) (ih (i + 1) ww' lw' (by omega) hp))
      · rw [if_neg hg] at hp
        exact br_f hg (hp ww' lw')
theorem zv_y {post : Int32 → SY → Prop} (hD : ∀ n, ds n = nI (R n - 1)) (hE : ∀ n, en n = nI (E n)) (h : zi_inv N C U S op K A P O L Ow cl so sp R E) :
    ∀ d i (yne ysp : Int32) (yef yet yew yb ynb ysv ysi : Nat → Int32), i + d = N → (∀ (yne ysp : Int32) (yef yet yew yb ynb ysv ysi : Nat → Int32), post (zv_r K A O Ow cl U N d) ((nI N), (nI C), (nI U), op, (nI S), yne, ysp, yvsp, ypn, lv, fn, fi, K, A, cl, ds, en, ss, yef, yet, yew, yb, ynb, yv, yx, ysv, ysi, yvs, ymo, ymv, yip, ypN, ypI)) → wY_verdict_13 post (d + 1) (nI i) (nI N) (nI C) (nI U) op (nI S) yne ysp yvsp ypn lv fn fi K A cl ds en ss yef yet yew yb ynb yv yx ysv ysi yvs ymo ymv yip ypN ypI := by
  have hN := h.1.2.1
  intro d
  induction d with
  | zero => intro i _ _ _ _ _ _ _ _ _ hi hp; exact br_t (nI_le (by omega) (by omega)) (hp _ _ _ _ _ _ _ _ _)
  | succ d ih =>
    intro i _ _ _ _ _ _ _ _ _ hi hp
    have e : (nI i).toNatClampNeg = i := nI_clamp (by omega)
    have hi' : N - (d + 1) = i := by omega
    have hr : zv_r K A O Ow cl U N (d + 1) = if cl i = 0 then zv_r K A O Ow cl U N d else if zg_g K A O Ow cl U i i N < 0 then zv_r K A O Ow cl U N d else 4 := by
      show (if cl (N - (d + 1)) = 0 then _ else _) = _
      rw [hi']
    rw [hr] at hp
    refine br_f (nI_ge (by omega) (by omega)) ⟨vp_in_nI (by omega) (by omega), ?_⟩
    by_cases hc : cl (nI i).toNatClampNeg = 0
    · rw [e] at hc
      rw [if_pos hc] at hp
      exact br_t (by rw [e]; exact hc) (nm_r (nI_1 i) (ih (i + 1) _ _ _ _ _ _ _ _ _ (by omega) hp))
    · refine br_f hc (zy_guard hD hE h (by omega) (by omega) (fun _ _ _ _ _ _ _ _ _ => ?_))
      rw [e] at hc
      rw [if_neg hc] at hp
      by_cases hg : zg_g K A O Ow cl U i i N < 0
      · rw [if_pos hg] at hp
        exact br_t hg (nm_r (nI_1 i) (ih (i + 1) _ _ _ _ _ _ _ _ _ (by omega) hp))
      · rw [if_neg hg] at hp
        exact br_f hg (hp _ _ _ _ _ _ _ _ _)
theorem i_vc_verdict {k : Nat} {u : SX} {v : SY} (I : i_Rel k u v) (hk : k + 3 ≤ 1538) : wpX_verdict (fun r u' => wpY_verdict (fun r' v' => r' = r ∧ i_Rel (k + 3) u' v') v) u := by
  have J := i_up I
  obtain ⟨N, C, U, S, op, lv, fn, fi, K, A, Ow, O, P, L, cl, rt, en, ss, so, sp, ds, R, E, pl, ww, lw, vi, vv, ps, pv, pt, yne, ysp, yvsp, ypn, yef, yet, yew, yb, ynb, yv, yx, ysv, ysi, yvs, ymo, ymv, yip, ypN, ypI, rfl, rfl, hR, hD, hE, h⟩ := I
  have hb := h.1
  have hOw : ∀ c, c < U → ∃ n, n < N ∧ Ow c = nI n := fun c hc => by
    obtain ⟨n, h1, h2, _⟩ := h.2.2.2.2.2.1 c hc
    exact ⟨n, h1, h2⟩
  obtain ⟨r, _, hX, hY⟩ := zo_obs (lv := lv) (fn := fn) (fi := fi) (pl := pl) (yne := yne) (ysp := ysp) (yvsp := yvsp) (ypn := ypn) (rt := rt) (en := en) (ss := ss) (ds := ds) (ww := ww) (lw := lw) (vi := vi) (vv := vv) (ps := ps) (pv := pv) (pt := pt) (yef := yef) (yet := yet) (yew := yew) (yb := yb) (ynb := ynb) (yv := yv) (yx := yx) (ysv := ysv) (ysi := ysi) (yvs := yvs) (ymo := ymo) (ymv := ymv) (yip := yip) (ypN := ypN) (ypI := ypI) h
  unfold wpX_verdict
  refine hX _ ?_
  by_cases hr : r = 0
  · refine br_t hr ⟨_, zv_x (by omega) (by omega) h.2.1 h.2.2.2.2.1 hOw N 0 _ _ (by omega) (fun ww' lw' => ?_)⟩
    unfold wpY_verdict
    exact hY _ (br_t hr ⟨_, zv_y hD hE h N 0 _ _ _ _ _ _ _ _ _ (by omega) (fun _ _ _ _ _ _ _ _ _ => ⟨rfl, zr_mk hR hD hE h⟩)⟩)
  · refine br_f hr ?_
    unfold wpY_verdict
    exact hY _ (br_f hr ⟨rfl, J⟩)
end Z12
end
section
/-! eval, the component's side -/
def zf_D (K A V PS : Nat → Int32) (c : Nat) : Prop := K c = 11 ∧ V c ≠ -1 ∧ ¬ (V c < 32 ∧ PS (A c * 32 + V c).toNatClampNeg = 2)
theorem zf_n {D : Nat → Prop} {lo hi : Nat} {x : Int32} (h : zs_first D lo hi x) (hd : ¬ D hi) : zs_first D lo (hi + 1) x := by
  rcases h with ⟨h1, h2⟩ | ⟨c, h1, h2, h3⟩
  · refine Or.inl ⟨h1, fun c a b => ?_⟩
    by_cases e : c = hi
    · rw [e]; exact hd
    · exact h2 c a (by omega)
  · exact Or.inr ⟨c, h1, by omega, h3⟩
theorem zf_f {D : Nat → Prop} {lo hi : Nat} {x : Int32} (h : zs_first D lo hi x) (hx : x ≠ -1) : zs_first D lo (hi + 1) x := by
  rcases h with ⟨h1, _⟩ | ⟨c, h1, h2, h3⟩
  · exact absurd h1 hx
  · exact Or.inr ⟨c, h1, by omega, h3⟩
theorem zf_no {D : Nat → Prop} {lo hi : Nat} (hh : hi < 2 ^ 31) (h : zs_first D lo hi (-1)) : ∀ c, lo ≤ c → c < hi → ¬ D c := by
  rcases h with ⟨_, h2⟩ | ⟨c, h1, h2, h3, h4, h5⟩
  · exact h2
  · exact absurd h5.symm (zn_ne1 (by omega))
theorem zf_t {D : Nat → Prop} {lo hi : Nat} (hh : hi < 2 ^ 31) (hl : lo ≤ hi) (h : zs_first D lo hi (-1)) (hd : D hi) : zs_first D lo (hi + 1) (nI hi) :=
  Or.inr ⟨hi, hl, by omega, hd, zf_no hh h, rfl⟩
theorem zf_un {D : Nat → Prop} {lo hi : Nat} {x y : Int32} (h : zs_first D lo hi x) (h' : zs_first D lo hi y) : x = y := by
  rcases h with ⟨h1, h2⟩ | ⟨c, h1, h2, h3, h4, h5⟩
  · rcases h' with ⟨g1, g2⟩ | ⟨c', g1, g2, g3, g4, g5⟩
    · rw [h1, g1]
    · exact absurd g3 (h2 c' g1 g2)
  · rcases h' with ⟨g1, g2⟩ | ⟨c', g1, g2, g3, g4, g5⟩
    · exact absurd h3 (g2 c h1 h2)
    · have : c = c' := by
        by_cases a : c < c'
        · exact absurd h3 (g4 c h1 a)
        · by_cases b : c' < c
          · exact absurd g3 (h4 c' g1 b)
          · omega
      rw [h5, g5, this]
section Z13
variable {N C U S : Nat} {op lv fn fi pl yne ysp yvsp ypn : Int32}
variable {K A Ow O P L cl rt en ss so sp ds ww lw vi vv ps pv pt yef yet yew yb ynb yv yx ysv ysi yvs ymo ymv yip ypN ypI : Nat → Int32}
variable {R E : Nat → Nat}
theorem zx_vb {post : Int32 → Prop} {r i : Nat} {j : Int32} {s : Nat × Bool} {t : List (Nat × Bool)} (hr : 1 ≤ r) (hi : 1 ≤ i) (h96 : r + i < 96) (es : zs_stk K r i = s :: t) (hP : P (r + i) = nI s.1) (hp : post (zs_sv K vi r j s)) : wpX_visitIndexBelowParent post ((nI N), (nI C), (nI U), op, (nI S), pl, lv, fn, fi, K, A, Ow, O, P, L, cl, rt, en, ss, so, sp, ww, lw, vi, vv, ps, pv, pt) (nI (r + i)) := by
  have hh := zs_hd hr es
  have e : (nI (r + i)).toNatClampNeg = r + i := nI_clamp (by omega)
  have e1 : (nI s.1).toNatClampNeg = s.1 := nI_clamp (by omega)
  have hin : vp_in (nI (r + i)) 96 := vp_in_nI h96 (by omega)
  have hin1 : vp_in (nI s.1) 96 := vp_in_nI (by omega) (by omega)
  unfold zs_sv at hp
  rw [if_neg (by omega)] at hp
  refine ⟨hin, nm_r (e' := nI s.1) (by rw [e, hP]) ⟨hin1, nm_r (e' := vi s.1) (by rw [e1]) ?_⟩⟩
  by_cases h1 : vi s.1 = -1
  · rw [if_pos h1] at hp; exact br_t h1 hp
  · rw [if_neg h1] at hp
    refine br_f h1 ⟨hin1, nm_r (e' := K s.1) (by rw [e1]) ?_⟩
    by_cases h2 : K s.1 = 2
    · rw [if_pos h2] at hp; exact br_t h2 hp
    · rw [if_neg h2] at hp
      refine br_f h2 ?_
      by_cases h6 : K s.1 = 6
      · rw [if_neg (by rw [h6]; decide), if_pos h6] at hp
        refine br_t h6 ?_
        rcases hh with ⟨hb, hh⟩ | ⟨hb, hh⟩
        · rw [if_pos hb] at hp
          refine br_t (by rw [nI_1, hh]) ?_
          by_cases h0 : vi s.1 = 0
          · rw [if_pos h0] at hp; exact br_t h0 hp
          · rw [if_neg h0] at hp; exact br_f h0 hp
        · rw [if_neg (by rw [hb]; decide)] at hp
          refine br_f (fun z => ?_) ?_
          · rw [nI_1] at z
            have := zn_im z (by omega) (by omega)
            omega
          · by_cases h0 : vi s.1 = 0
            · rw [if_pos h0] at hp; exact br_t h0 hp
            · rw [if_neg h0] at hp; exact br_f h0 hp
      · refine br_f h6 ?_
        by_cases h7 : K s.1 = 7
        · rw [if_pos h7] at hp; exact br_t h7 hp
        · rw [if_neg h7, if_neg h6] at hp; exact br_f h7 hp
theorem zx_m19 {post : SX → Prop} {x r n : Nat} {j : Int32} (hx : x < 8) (hr : 1 ≤ r) (h96 : r + n ≤ 96) (hen : en x = nI (r + n)) (hd : zs_def K P O L r n) (hp : ∀ vi', zs_vis K vi' r j n → post ((nI N), (nI C), (nI U), op, (nI S), pl, lv, fn, fi, K, A, Ow, O, P, L, cl, rt, en, ss, so, sp, ww, lw, vi', vv, ps, pv, pt)) :
    ∀ d i vi, i + d = n → 1 ≤ i → zs_vis K vi r j i → wX_markVisits_19 post (nI x) (nI N) (nI C) (nI U) op (nI S) pl lv fn fi (d + 1) (nI (r + i)) K A Ow O P L cl rt en ss so sp ww lw vi vv ps pv pt := by
  have ex : (nI x).toNatClampNeg = x := nI_clamp (by omega)
  have hin8 : vp_in (nI x) 8 := vp_in_nI hx (by omega)
  intro d
  induction d with
  | zero =>
    intro i vi hi h1 hv
    obtain rfl : i = n := by omega
    exact ⟨hin8, br_t (by rw [ex, hen]; exact nI_le (Nat.le_refl _) (by omega)) (hp vi hv)⟩
  | succ d ih =>
    intro i vi hi h1 hv
    have e : (nI (r + i)).toNatClampNeg = r + i := nI_clamp (by omega)
    obtain ⟨s, t, es, hP, _⟩ := hd i (by omega)
    refine ⟨hin8, br_f (by rw [ex, hen]; exact nI_ge (by omega) (by omega)) (zx_vb (j := j) hr h1 (by omega) es hP ⟨vp_in_nI (by omega) (by omega), nm_r (e' := upd vi (r + i) (zs_sv K vi r j s)) (by rw [e]) (nm_r (nI_1 (r + i)) (ih (i + 1) _ (by omega) (by omega) (zs_vis_step hr es hv)))⟩)⟩
theorem zx_mark {post : SX → Prop} {x r n : Nat} {j : Int32} (hx : x < 8) (hr : 1 ≤ r) (hn : 1 ≤ n) (h96 : r + n ≤ 96) (hrt : rt x = nI r) (hen : en x = nI (r + n)) (hd : zs_def K P O L r n) (hp : ∀ vi', zs_vis K vi' r j n → post ((nI N), (nI C), (nI U), op, (nI S), pl, lv, fn, fi, K, A, Ow, O, P, L, cl, rt, en, ss, so, sp, ww, lw, vi', vv, ps, pv, pt)) :
    wpX_markVisits post ((nI N), (nI C), (nI U), op, (nI S), pl, lv, fn, fi, K, A, Ow, O, P, L, cl, rt, en, ss, so, sp, ww, lw, vi, vv, ps, pv, pt) (nI x) j := by
  have ex : (nI x).toNatClampNeg = x := nI_clamp (by omega)
  have er : (nI r).toNatClampNeg = r := nI_clamp (by omega)
  refine ⟨vp_in_nI hx (by omega), nm_r (e' := nI r) (by rw [ex, hrt]) ⟨vp_in_nI (by omega) (by omega), nm_r (e' := upd vi r j) (by rw [er]) (nm_r (nI_1 r) ⟨_, zx_m19 hx hr h96 hen hd hp (n - 1) 1 _ (by omega) (Nat.le_refl _) ?_⟩)⟩⟩
  intro i hi s t es
  obtain rfl : i = 0 := by omega
  have : s = (r - 1, true) := by
    have e0 : zs_stk K r 0 = [(r - 1, true)] := rfl
    rw [e0] at es
    exact (List.cons.inj es).1.symm
  subst this
  show upd vi r j (r + 0) = _
  rw [Nat.add_zero, pk_us]
  unfold zs_sv
  rw [if_pos (by show r - 1 < r; omega)]
theorem zx_met {post : Int32 → Prop} {c z m : Nat} (hc : c < 96) (hz : z < 8) (hA : A c = nI z) (hV : vi c = nI m) (hm : m < 2 ^ 30) (h1 : (vi c < 32 ∧ ps (A c * 32 + vi c).toNatClampNeg = 2) → post 1) (h0 : ¬ (vi c < 32 ∧ ps (A c * 32 + vi c).toNatClampNeg = 2) → post 0) : wpX_isMet post ((nI N), (nI C), (nI U), op, (nI S), pl, lv, fn, fi, K, A, Ow, O, P, L, cl, rt, en, ss, so, sp, ww, lw, vi, vv, ps, pv, pt) (nI c) := by
  have e : (nI c).toNatClampNeg = c := nI_clamp (by omega)
  have hin : vp_in (nI c) 96 := vp_in_nI hc (by omega)
  refine ⟨hin, nm_r (e' := vi c) (by rw [e]) ?_⟩
  by_cases h32 : (32 : Int32) ≤ vi c
  · exact br_t h32 (h0 (fun z => absurd z.1 (Int32.not_lt.mpr h32)))
  · have hlt : vi c < 32 := Int32.not_le.mp h32
    have hm32 : m < 32 := by rw [hV] at hlt; exact (nI_ltI (b := 32) (by omega) (by omega)).mp hlt
    have eq : A c * 32 + vi c = nI (z * 32 + m) := by rw [hA, hV, show (32 : Int32) = nI 32 from rfl, pk_mul, nI_add]
    refine br_f h32 ⟨hin, by rw [e, eq]; exact vp_in_nI (by omega) (by omega), ?_⟩
    rw [e]
    exact br_c (fun h => h1 ⟨hlt, h⟩) (fun h => h0 (fun z => h z.2))
theorem zx_first {post : Int32 → Prop} {x r n j : Nat} (hx : x < 8) (hr : 1 ≤ r) (h96 : r + n ≤ 96) (hj : j < 32) (hN : N ≤ 8) (hU : r + n ≤ U) (hrt : rt x = nI r) (hen : en x = nI (r + n)) (hd : zs_def K P O L r n) (hA : ∀ c, c < U → K c = 11 → ∃ m, m < N ∧ A c = nI m)
    (hv : zs_vis K vi r (nI j) n) (hp : ∀ y, zs_first (zf_D K A vi ps) r (r + n) y → post y) : wpX_firstUnmetDemand post ((nI N), (nI C), (nI U), op, (nI S), pl, lv, fn, fi, K, A, Ow, O, P, L, cl, rt, en, ss, so, sp, ww, lw, vi, vv, ps, pv, pt) (nI x) := by
  have ex : (nI x).toNatClampNeg = x := nI_clamp (by omega)
  have hin8 : vp_in (nI x) 8 := vp_in_nI hx (by omega)
  have hne : ∀ i, i < n → ∃ s t, zs_stk K r i = s :: t := fun i hi => by
    obtain ⟨s, t, e, _⟩ := hd i hi
    exact ⟨s, t, e⟩
  have loop : ∀ d i, i + d = n → zs_first (zf_D K A vi ps) r (r + i) (-1) → wX_firstUnmetDemand_7 post (nI x) (nI N) (nI C) (nI U) op (nI S) pl lv fn fi K A Ow O P L cl rt en ss so sp ww lw vi vv ps pv pt (d + 1) (nI (r + i)) := by
    intro d
    induction d with
    | zero =>
      intro i hi hf
      obtain rfl : i = n := by omega
      exact ⟨hin8, br_t (by rw [ex, hen]; exact nI_le (Nat.le_refl _) (by omega)) (hp _ hf)⟩
    | succ d ih =>
      intro i hi hf
      have e : (nI (r + i)).toNatClampNeg = r + i := nI_clamp (by omega)
      have hin : vp_in (nI (r + i)) 96 := vp_in_nI (by omega) (by omega)
      refine ⟨hin8, br_f (by rw [ex, hen]; exact nI_ge (by omega) (by omega)) ⟨hin, ?_⟩⟩
      have next : ¬ zf_D K A vi ps (r + i) → ∀ y, y = nI (r + i) + 1 → wX_firstUnmetDemand_7 post (nI x) (nI N) (nI C) (nI U) op (nI S) pl lv fn fi K A Ow O P L cl rt en ss so sp ww lw vi vv ps pv pt (d + 1) y := fun hD => nm_r (nI_1 (r + i)) (ih (i + 1) (by omega) (zf_n hf hD))
      by_cases hk : K (r + i) = 11
      · refine br_t (by rw [e]; exact hk) ⟨hin, ?_⟩
        by_cases h1 : vi (r + i) = -1
        · exact br_t (by rw [e]; exact h1) (next (fun z => z.2.1 h1))
        · obtain ⟨m, hm, em⟩ := (zs_vis_rg hr (by omega) hj hne hv (i + 1) i (by omega) (by omega)).resolve_left h1
          obtain ⟨z, hz, ez⟩ := hA (r + i) (by omega) hk
          refine br_f (by rw [e]; exact h1) (zx_met (by omega) (by omega) ez em (by omega) (fun h => br_f zn_10 (next (fun z => z.2.2 h))) (fun h => br_t rfl (hp _ ?_)))
          rcases zf_t (by omega) (by omega) hf ⟨hk, h1, h⟩ with ⟨g1, _⟩ | ⟨c, g1, g2, g3, g4, g5⟩
          · exact absurd g1 (zn_ne1 (by omega))
          · exact Or.inr ⟨c, g1, by omega, g3, g4, g5⟩
      · exact br_f (by rw [e]; exact hk) (next (fun z => hk z.1))
  refine ⟨hin8, nm_r (e' := nI (r + 0)) (by rw [ex, hrt]; rfl) ⟨_, loop n 0 (by omega) (Or.inl ⟨rfl, fun c a b => by omega⟩)⟩⟩
theorem zx_startp {post : SX → Prop} {q l : Nat} (hq : q < 256) (hl : l < 256) (hp : post ((nI N), (nI C), (nI U), op, (nI S), (nI (l + 1)), lv, fn, fi, K, A, Ow, O, P, L, cl, rt, en, ss, so, sp, ww, lw, vi, vv, (upd ps q 1), pv, (upd pt l (nI q)))) : wpX_startPair post ((nI N), (nI C), (nI U), op, (nI S), (nI l), lv, fn, fi, K, A, Ow, O, P, L, cl, rt, en, ss, so, sp, ww, lw, vi, vv, ps, pv, pt) (nI q) := by
  have e : (nI q).toNatClampNeg = q := nI_clamp (by omega)
  have el : (nI l).toNatClampNeg = l := nI_clamp (by omega)
  exact ⟨vp_in_nI hq (by omega), nm_r (by rw [e]) ⟨vp_in_nI hl (by omega), nm_r (by rw [el]) (nm_r (nI_1 l) hp)⟩⟩
theorem zx_take {post : Int32 → SX → Prop} {c z m l : Nat} (hc : c < 96) (hz : z < 8) (hA : A c = nI z) (hV : vi c = nI m) (hm : m < 2 ^ 30) (hl : m < 32 → ¬ ps (z * 32 + m) = 1 → l < 256)
    (h2 : 32 ≤ m → post 2 ((nI N), (nI C), (nI U), op, (nI S), (nI l), 0, (nI z), (nI m), K, A, Ow, O, P, L, cl, rt, en, ss, so, sp, ww, lw, vi, vv, ps, pv, pt)) (h1 : m < 32 → ps (z * 32 + m) = 1 → post 1 ((nI N), (nI C), (nI U), op, (nI S), (nI l), 0, (nI z), (nI m), K, A, Ow, O, P, L, cl, rt, en, ss, so, sp, ww, lw, vi, vv, ps, pv, pt))
    (h0 : m < 32 → ¬ ps (z * 32 + m) = 1 → post 0 ((nI N), (nI C), (nI U), op, (nI S), (nI (l + 1)), lv, fn, fi, K, A, Ow, O, P, L, cl, rt, en, ss, so, sp, ww, lw, vi, vv, (upd ps (z * 32 + m) 1), pv, (upd pt l (nI (z * 32 + m))))) : wpX_takeDemand post ((nI N), (nI C), (nI U), op, (nI S), (nI l), lv, fn, fi, K, A, Ow, O, P, L, cl, rt, en, ss, so, sp, ww, lw, vi, vv, ps, pv, pt) (nI c) := by
  have e : (nI c).toNatClampNeg = c := nI_clamp (by omega)
  have hin : vp_in (nI c) 96 := vp_in_nI hc (by omega)
  refine ⟨hin, nm_r (e' := nI z) (by rw [e, hA]) ⟨hin, nm_r (e' := nI m) (by rw [e, hV]) ?_⟩⟩
  by_cases hm32 : m < 32
  · have eq : nI z * 32 + nI m = nI (z * 32 + m) := by rw [show (32 : Int32) = nI 32 from rfl, pk_mul, nI_add]
    have e2 : (nI (z * 32 + m)).toNatClampNeg = z * 32 + m := nI_clamp (by omega)
    refine br_t (nI_lt (b := 32) hm32 (by decide)) (nm_r eq ⟨vp_in_nI (by omega) (by omega), ?_⟩)
    by_cases hp1 : ps (z * 32 + m) = 1
    · exact br_t (by rw [e2]; exact hp1) (h1 hm32 hp1)
    · exact br_f (by rw [e2]; exact hp1) (zx_startp (by omega) (hl hm32 hp1) (h0 hm32 hp1))
  · exact br_f (nI_nlt (b := 32) (by omega) (by omega)) (h2 (by omega))
theorem zx_val {post : Int32 → Prop} {c k : Nat} (hc : c < 96) (hk1 : 1 ≤ k) (hk11 : k ≤ 11) (hk : K c = nI k) (hr : k = 11 → ∃ z m, z < 8 ∧ m < 32 ∧ A c = nI z ∧ vi c = nI m) (hc1 : ¬ (K c = 1 ∨ K c = 11) → c + 1 < 96)
    (hc2 : ¬ (K c = 1 ∨ K c = 11) → ¬ (K c = 2 ∨ K c = 7) → ∃ q, q < 96 ∧ L c = nI q) (hp : post (zs_val K A vi L pv vv c)) : wpX_valueOfVisit post ((nI N), (nI C), (nI U), op, (nI S), pl, lv, fn, fi, K, A, Ow, O, P, L, cl, rt, en, ss, so, sp, ww, lw, vi, vv, ps, pv, pt) (nI c) := by
  have e : (nI c).toNatClampNeg = c := nI_clamp (by omega)
  have hin : vp_in (nI c) 96 := vp_in_nI hc (by omega)
  refine ⟨hin, nm_r (e' := nI k) (by rw [e, hk]) ?_⟩
  unfold zs_val at hp
  have one : ¬ (K c = 1 ∨ K c = 11) → vp_in (nI c + 1) 96 ∧ (nI c + 1).toNatClampNeg = c + 1 := fun h => by
    have := hc1 h
    rw [nI_1]; exact ⟨vp_in_nI this (by omega), nI_clamp (by omega)⟩
  have two : ¬ (K c = 1 ∨ K c = 11) → ¬ (K c = 2 ∨ K c = 7) → vp_in (L (nI c).toNatClampNeg) 96 := fun h h' => by
    obtain ⟨q, hq, eq⟩ := hc2 h h'
    rw [e, eq]; exact vp_in_nI hq (by omega)
  rcases zk_c hk1 hk11 with rfl | rfl | rfl | rfl | rfl | rfl | rfl | rfl | rfl | rfl | rfl
  · rw [if_pos (by rw [hk]; rfl)] at hp
    exact br_f (by decide) (br_f (by decide) (br_t (by decide) (⟨hin, by rw [e]; exact hp⟩)))
  · have o1 := one (by rw [hk]; decide)
    rw [if_neg (by rw [hk]; decide), if_neg (by rw [hk]; decide), if_pos (by rw [hk]; decide)] at hp
    exact br_f (by decide) (br_f (by decide) (br_f (by decide) (br_t (by decide) (⟨o1.1, by rw [o1.2]; exact hp⟩))))
  · have o1 := one (by rw [hk]; decide)
    have o2 := two (by rw [hk]; decide) (by rw [hk]; decide)
    rw [if_neg (by rw [hk]; decide), if_neg (by rw [hk]; decide), if_neg (by rw [hk]; decide), if_neg (by rw [hk]; decide), if_pos (by rw [hk]; decide)] at hp
    exact br_f (by decide) (br_f (by decide) (br_f (by decide) (br_f (by decide) (br_t (by decide) (⟨o1.1, hin, o2, by rw [o1.2, e]; exact hp⟩)))))
  · have o1 := one (by rw [hk]; decide)
    have o2 := two (by rw [hk]; decide) (by rw [hk]; decide)
    rw [if_neg (by rw [hk]; decide), if_neg (by rw [hk]; decide), if_neg (by rw [hk]; decide), if_neg (by rw [hk]; decide), if_neg (by rw [hk]; decide), if_pos (by rw [hk]; decide)] at hp
    exact br_f (by decide) (br_f (by decide) (br_f (by decide) (br_f (by decide) (br_f (by decide) (br_t (by decide) (⟨o1.1, hin, o2, by rw [o1.2, e]; exact hp⟩))))))
  · have o1 := one (by rw [hk]; decide)
    have o2 := two (by rw [hk]; decide) (by rw [hk]; decide)
    rw [if_neg (by rw [hk]; decide), if_neg (by rw [hk]; decide), if_neg (by rw [hk]; decide), if_neg (by rw [hk]; decide), if_neg (by rw [hk]; decide), if_neg (by rw [hk]; decide)] at hp
    exact br_f (by decide) (br_f (by decide) (br_f (by decide) (br_f (by decide) (br_f (by decide) (br_f (by decide) (br_t (by decide) (⟨o1.1, hin, o2, by rw [o1.2, e]; exact hp⟩)))))))
  · have o1 := one (by rw [hk]; decide)
    have o2 := two (by rw [hk]; decide) (by rw [hk]; decide)
    rw [if_neg (by rw [hk]; decide), if_neg (by rw [hk]; decide), if_neg (by rw [hk]; decide), if_pos (by rw [hk]; rfl)] at hp
    refine br_f (by decide) (br_f (by decide) (br_f (by decide) (br_f (by decide) (br_f (by decide) (br_f (by decide) (br_f (by decide) (br_t (by decide) (⟨hin, ?_⟩))))))))
    by_cases h0 : vi c = 0
    · rw [if_pos h0] at hp
      exact br_t (by rw [e]; exact h0) ⟨o1.1, by rw [o1.2]; exact hp⟩
    · rw [if_neg h0] at hp
      exact br_f (by rw [e]; exact h0) ⟨hin, o2, by rw [e]; exact hp⟩
  · have o1 := one (by rw [hk]; decide)
    rw [if_neg (by rw [hk]; decide), if_neg (by rw [hk]; decide), if_pos (by rw [hk]; decide)] at hp
    exact br_f (by decide) (br_f (by decide) (br_f (by decide) (br_f (by decide) (br_f (by decide) (br_f (by decide) (br_f (by decide) (br_f (by decide) (br_t (by decide) (⟨o1.1, by rw [o1.2]; exact hp⟩)))))))))
  · have o1 := one (by rw [hk]; decide)
    have o2 := two (by rw [hk]; decide) (by rw [hk]; decide)
    rw [if_neg (by rw [hk]; decide), if_neg (by rw [hk]; decide), if_neg (by rw [hk]; decide), if_neg (by rw [hk]; decide), if_pos (by rw [hk]; decide)] at hp
    exact br_f (by decide) (br_f (by decide) (br_f (by decide) (br_f (by decide) (br_f (by decide) (br_f (by decide) (br_f (by decide) (br_f (by decide) (br_f (by decide) (br_t (by decide) (⟨o1.1, hin, o2, by rw [o1.2, e]; exact hp⟩))))))))))
  · have o1 := one (by rw [hk]; decide)
    have o2 := two (by rw [hk]; decide) (by rw [hk]; decide)
    rw [if_neg (by rw [hk]; decide), if_neg (by rw [hk]; decide), if_neg (by rw [hk]; decide), if_neg (by rw [hk]; decide), if_neg (by rw [hk]; decide), if_pos (by rw [hk]; decide)] at hp
    exact br_f (by decide) (br_f (by decide) (br_f (by decide) (br_f (by decide) (br_f (by decide) (br_f (by decide) (br_f (by decide) (br_f (by decide) (br_f (by decide) (br_f (by decide) (br_t (by decide) (⟨o1.1, hin, o2, by rw [o1.2, e]; exact hp⟩)))))))))))
  · have o1 := one (by rw [hk]; decide)
    have o2 := two (by rw [hk]; decide) (by rw [hk]; decide)
    rw [if_neg (by rw [hk]; decide), if_neg (by rw [hk]; decide), if_neg (by rw [hk]; decide), if_neg (by rw [hk]; decide), if_neg (by rw [hk]; decide), if_neg (by rw [hk]; decide)] at hp
    exact br_f (by decide) (br_f (by decide) (br_f (by decide) (br_f (by decide) (br_f (by decide) (br_f (by decide) (br_f (by decide) (br_f (by decide) (br_f (by decide) (br_f (by decide) (br_f (by decide) (br_t (by decide) (⟨o1.1, hin, o2, by rw [o1.2, e]; exact hp⟩))))))))))))
  · obtain ⟨z, m, hz, hm, ez, em⟩ := hr rfl
    rw [if_neg (by rw [hk]; decide), if_pos (by rw [hk]; rfl)] at hp
    have eq : A c * 32 + vi c = nI (z * 32 + m) := by rw [ez, em, show (32 : Int32) = nI 32 from rfl, pk_mul, nI_add]
    exact br_f (by decide) (br_f (by decide) (br_f (by decide) (br_f (by decide) (br_f (by decide) (br_f (by decide) (br_f (by decide) (br_f (by decide) (br_f (by decide) (br_f (by decide) (br_f (by decide) (br_f (by decide) (br_t (by decide) (⟨hin, hin, by rw [e, eq]; exact vp_in_nI (by omega) (by omega), by rw [e]; exact hp⟩)))))))))))))
theorem zx_vals {post : Int32 → SX → Prop} {x r n j : Nat} (hx : x < 8) (hr : 1 ≤ r) (hn : 1 ≤ n) (h96 : r + n ≤ 96) (hj : j < 32) (hrt : rt x = nI r) (hen : en x = nI (r + n)) (hd : zs_def K P O L r n) (he : zs_stk K r n = [])
    (hv : zs_vis K vi r (nI j) n) (hr11 : ∀ c, r ≤ c → c < r + n → K c = 11 → vi c ≠ -1 → ∃ z m, z < 8 ∧ m < 32 ∧ A c = nI z ∧ vi c = nI m)
    (hp : ∀ vv', zs_vals K A vi L pv vv' r (r + n) → post (vv' r) ((nI N), (nI C), (nI U), op, (nI S), pl, lv, fn, fi, K, A, Ow, O, P, L, cl, rt, en, ss, so, sp, ww, lw, vi, vv', ps, pv, pt)) : wpX_valueOfVisits post ((nI N), (nI C), (nI U), op, (nI S), pl, lv, fn, fi, K, A, Ow, O, P, L, cl, rt, en, ss, so, sp, ww, lw, vi, vv, ps, pv, pt) (nI x) := by
  have ex : (nI x).toNatClampNeg = x := nI_clamp (by omega)
  have er : (nI r).toNatClampNeg = r := nI_clamp (by omega)
  have hin8 : vp_in (nI x) 8 := vp_in_nI hx (by omega)
  have kid1 : ∀ c, r ≤ c → c < r + n → ¬ (K c = 1 ∨ K c = 11) → c + 1 < r + n := by
    intro c a b h
    obtain ⟨i, rfl⟩ : ∃ i, c = r + i := ⟨c - r, by omega⟩
    have := zs_kid1 hd (by omega) he h
    omega
  have kid2 : ∀ c, r ≤ c → c < r + n → ¬ (K c = 1 ∨ K c = 11) → ¬ (K c = 2 ∨ K c = 7) → ∃ q, c < q ∧ q < r + n ∧ L c = nI q := by
    intro c a b h h'
    obtain ⟨i, rfl⟩ : ∃ i, c = r + i := ⟨c - r, by omega⟩
    obtain ⟨q, h1, h2, h3⟩ := zs_kid2 hd (by omega) he h h'
    exact ⟨r + q, by omega, by omega, h3⟩
  have loop : ∀ i vv, i ≤ n → zs_vals K A vi L pv vv (r + i) (r + n) → wX_valueOfVisits_16 post (nI r) (nI N) (nI C) (nI U) op (nI S) pl lv fn fi (i + 1) (nI (r + i - 1)) K A Ow O P L cl rt en ss so sp ww lw vi vv ps pv pt := by
    intro i
    induction i with
    | zero =>
      intro vv _ hvv
      exact br_t (nI_lt (by omega) (by omega)) ⟨vp_in_nI (by omega) (by omega), by rw [er]; exact hp vv hvv⟩
    | succ i ih =>
      intro vv hi hvv
      have ei : r + (i + 1) - 1 = r + i := by omega
      rw [ei]
      have e : (nI (r + i)).toNatClampNeg = r + i := nI_clamp (by omega)
      have hin : vp_in (nI (r + i)) 96 := vp_in_nI (by omega) (by omega)
      refine br_f (nI_nlt (by omega) (by omega)) ⟨hin, ?_⟩
      by_cases h1 : vi (r + i) = -1
      · refine br_t (by rw [e]; exact h1) (nm_r (zn_m (by omega)) (ih vv (by omega) (fun c a b h => ?_)))
        by_cases ec : c = r + i
        · rw [ec] at h; exact absurd h1 h
        · exact hvv c (by omega) b h
      · obtain ⟨_, _, _, _, _, _, k, hk1, hk11, hk⟩ := hd i (by omega)
        refine br_f (by rw [e]; exact h1) (zx_val (by omega) hk1 hk11 hk (fun hk' => hr11 (r + i) (by omega) (by omega) (by rw [hk, hk']; rfl) h1) (fun h => ?_) (fun h h' => ?_) ⟨hin, nm_r (e' := upd vv (r + i) (zs_val K A vi L pv vv (r + i))) (by rw [e]) (nm_r (zn_m (by omega)) (ih _ (by omega) (fun c a b h => ?_)))⟩)
        · have := kid1 (r + i) (by omega) (by omega) h
          omega
        · obtain ⟨q, _, h2, h3⟩ := kid2 (r + i) (by omega) (by omega) h h'
          exact ⟨q, by omega, h3⟩
        · have hcong : zs_val K A vi L pv (upd vv (r + i) (zs_val K A vi L pv vv (r + i))) c = zs_val K A vi L pv vv c := by
            refine zs_val_congr (fun _ => pk_un (by omega)) (fun g g' => ?_)
            obtain ⟨q, g1, g2, g3⟩ := kid2 c (by omega) b g g'
            rw [g3, nI_clamp (by omega)]; exact pk_un (by omega)
          rw [hcong]
          by_cases ec : c = r + i
          · rw [ec, pk_us]
          · rw [pk_un ec]; exact hvv c (by omega) b h
  exact ⟨hin8, nm_r (e' := nI r) (by rw [ex, hrt]) ⟨hin8, nm_r (e' := nI (r + n - 1)) (by rw [ex, hen, zn_s (by omega)]) ⟨_, loop n vv (Nat.le_refl _) (fun c a b => by omega)⟩⟩⟩
theorem zx_fin {post : SX → Prop} {l q : Nat} {y : Int32} (hl : l < 256) (hq : q < 256) (hpt : pt l = nI q) (hp : post ((nI N), (nI C), (nI U), op, (nI S), (nI l), lv, fn, fi, K, A, Ow, O, P, L, cl, rt, en, ss, so, sp, ww, lw, vi, vv, (upd ps q 2), (upd pv q y), pt)) : wpX_finishLastPair post ((nI N), (nI C), (nI U), op, (nI S), (nI (l + 1)), lv, fn, fi, K, A, Ow, O, P, L, cl, rt, en, ss, so, sp, ww, lw, vi, vv, ps, pv, pt) y := by
  have e : (nI q).toNatClampNeg = q := nI_clamp (by omega)
  have el : (nI l).toNatClampNeg = l := nI_clamp (by omega)
  have hin : vp_in (nI q) 256 := vp_in_nI hq (by omega)
  exact nm_r (nI_pred l) ⟨vp_in_nI hl (by omega), nm_r (e' := nI q) (by rw [el, hpt]) ⟨hin, nm_r (by rw [e]) ⟨hin, nm_r (by rw [e]) hp⟩⟩⟩
/-- one walk of the component -/
theorem zx_walk {post : Int32 → SX → Prop} {x r n j l : Nat} (hx : x < 8) (hr : 1 ≤ r) (hn : 1 ≤ n) (h96 : r + n ≤ 96) (hj : j < 32) (hN : N ≤ 8) (hU : r + n ≤ U) (hl : l < 256) (hrt : rt x = nI r) (hen : en x = nI (r + n)) (hd : zs_def K P O L r n) (he : zs_stk K r n = [])
    (hA : ∀ c, c < U → K c = 11 → ∃ m, m < N ∧ A c = nI m) (hpt : pt l = nI (x * 32 + j)) (hroom : ∀ q, q < 256 → ps q = 0 → l + 1 < 256) (h012 : ∀ q, q < 256 → ps q = 0 ∨ ps q = 1 ∨ ps q = 2)
    (hfin : ∀ vi' vv', zs_vis K vi' r (nI j) n → zs_first (zf_D K A vi' ps) r (r + n) (-1) → zs_vals K A vi' L pv vv' r (r + n) → post 0 ((nI N), (nI C), (nI U), op, (nI S), (nI l), lv, fn, fi, K, A, Ow, O, P, L, cl, rt, en, ss, so, sp, ww, lw, vi', vv', (upd ps (x * 32 + j) 2), (upd pv (x * 32 + j) (vv' r)), pt))
    (hrange : ∀ vi' c z m, zs_vis K vi' r (nI j) n → zs_first (zf_D K A vi' ps) r (r + n) (nI c) → c < 96 → z < N → m < 2 ^ 30 → A c = nI z → vi' c = nI m → 32 ≤ m → post 2 ((nI N), (nI C), (nI U), op, (nI S), (nI (l + 1)), 0, (nI z), (nI m), K, A, Ow, O, P, L, cl, rt, en, ss, so, sp, ww, lw, vi', vv, ps, pv, pt))
    (hblack : ∀ vi' c z m, zs_vis K vi' r (nI j) n → zs_first (zf_D K A vi' ps) r (r + n) (nI c) → c < 96 → z < N → m < 32 → A c = nI z → vi' c = nI m → ps (z * 32 + m) = 1 → post 1 ((nI N), (nI C), (nI U), op, (nI S), (nI (l + 1)), 0, (nI z), (nI m), K, A, Ow, O, P, L, cl, rt, en, ss, so, sp, ww, lw, vi', vv, ps, pv, pt))
    (hstart : ∀ vi' c z m, zs_vis K vi' r (nI j) n → zs_first (zf_D K A vi' ps) r (r + n) (nI c) → r ≤ c → c < r + n → K c = 11 → z < N → m < 32 → A c = nI z → vi' c = nI m → ps (z * 32 + m) = 0 → post 0 ((nI N), (nI C), (nI U), op, (nI S), (nI (l + 2)), lv, fn, fi, K, A, Ow, O, P, L, cl, rt, en, ss, so, sp, ww, lw, vi', vv, (upd ps (z * 32 + m) 1), pv, (upd pt (l + 1) (nI (z * 32 + m))))) :
    wpX_walkLastPair post ((nI N), (nI C), (nI U), op, (nI S), (nI (l + 1)), lv, fn, fi, K, A, Ow, O, P, L, cl, rt, en, ss, so, sp, ww, lw, vi, vv, ps, pv, pt) := by
  have el : (nI l).toNatClampNeg = l := nI_clamp (by omega)
  have hne : ∀ i, i < n → ∃ s t, zs_stk K r i = s :: t := fun i hi => by
    obtain ⟨s, t, e, _⟩ := hd i hi
    exact ⟨s, t, e⟩
  have e32 : (32 : Int32) = nI 32 := rfl
  have hdiv : nI (x * 32 + j) / 32 = nI x := by rw [e32, pk_div (by omega) (by omega) (by omega)]; congr 1; omega
  have hrem : nI (x * 32 + j) - nI (x * 32 + j) / 32 * 32 = nI j := by rw [e32, pk_rem (by omega) (by omega) (by omega)]; congr 1; omega
  refine ⟨by rw [nI_pred]; exact vp_in_nI hl (by omega), nm_r (e' := nI (x * 32 + j)) (by rw [nI_pred, el, hpt]) ⟨by decide, nm_r (e' := nI x) hdiv ⟨by decide, ?_⟩⟩⟩
  rw [hrem]
  refine zx_mark (j := nI j) hx hr hn h96 hrt hen hd (fun vi' hv => zx_first hx hr h96 hj hN hU hrt hen hd hA hv (fun y hy => ?_))
  rcases hy with ⟨rfl, hy⟩ | ⟨c, g1, g2, g3, g4, rfl⟩
  · refine br_t rfl (zx_vals hx hr hn h96 hj hrt hen hd he hv (fun c a b hk hvc => ?_) (fun vv' hvv => zx_fin hl (by omega) hpt (hfin vi' vv' hv (Or.inl ⟨rfl, hy⟩) hvv)))
    obtain ⟨i, rfl⟩ : ∃ i, c = r + i := ⟨c - r, by omega⟩
    obtain ⟨m, hm, em⟩ := (zs_vis_rg hr (by omega) hj hne hv (i + 1) i (by omega) (by omega)).resolve_left hvc
    obtain ⟨z, hz, ez⟩ := hA (r + i) (by omega) hk
    refine ⟨z, m, by omega, ?_, ez, em⟩
    by_cases hm32 : m < 32
    · exact hm32
    · refine absurd ⟨hk, hvc, fun w => ?_⟩ (hy (r + i) a b)
      have := w.1
      rw [em] at this
      exact nI_nlt (b := 32) (by omega) (by omega) this
  · refine br_f (zn_ne1 (by omega)) ?_
    obtain ⟨i, rfl⟩ : ∃ i, c = r + i := ⟨c - r, by omega⟩
    obtain ⟨m, hm, em⟩ := (zs_vis_rg hr (by omega) hj hne hv (i + 1) i (by omega) (by omega)).resolve_left g3.2.1
    obtain ⟨z, hz, ez⟩ := hA (r + i) (by omega) g3.1
    have hf : zs_first (zf_D K A vi' ps) r (r + n) (nI (r + i)) := Or.inr ⟨r + i, g1, g2, g3, g4, rfl⟩
    have h0 : m < 32 → ¬ ps (z * 32 + m) = 1 → ps (z * 32 + m) = 0 := by
      intro hm32 hn1
      rcases h012 (z * 32 + m) (by omega) with h | h | h
      · exact h
      · exact absurd h hn1
      · refine absurd ⟨?_, ?_⟩ g3.2.2
        · rw [em]; exact nI_lt (b := 32) hm32 (by decide)
        · rw [ez, em, e32, pk_mul, nI_add, nI_clamp (by omega)]; exact h
    exact zx_take (by omega) (by omega) ez em (by omega) (fun a b => hroom _ (by omega) (h0 a b)) (fun a => hrange vi' _ z m hv hf (by omega) hz (by omega) ez em a) (fun a b => hblack vi' _ z m hv hf (by omega) hz a ez em b) (fun a b => hstart vi' _ z m hv hf g1 g2 g3.1 hz a ez em (h0 a b))
end Z13
end
section
/-! eval, the reference's side -/
section Z14
variable {N C U S : Nat} {op lv fn fi pl yne ysp yvsp ypn : Int32}
variable {K A Ow O P L cl rt en ss so sp ds ww lw vi vv ps pv pt yef yet yew yb ynb yv yx ysv ysi yvs ymo ymv yip ypN ypI : Nat → Int32}
variable {R E : Nat → Nat}
theorem zy_known {post : Int32 → Prop} {z m : Nat} {a b : Int32} (ha : a = nI z) (hb : b = nI m) (hz : z < 8) (hm : m < 2 ^ 30) (h1 : m < 32 → ¬ ymo (z * 32 + m) = 0 → post 1) (h0 : ¬ (m < 32 ∧ ¬ ymo (z * 32 + m) = 0) → post 0) : wpY_known post ((nI N), (nI C), (nI U), op, (nI S), yne, ysp, yvsp, ypn, lv, fn, fi, K, A, cl, ds, en, ss, yef, yet, yew, yb, ynb, yv, yx, ysv, ysi, yvs, ymo, ymv, yip, ypN, ypI) a b := by
  subst ha hb
  refine br_f (nI_pos (by omega)) (br_f (nI_ge (b := 8) hz (by decide)) (br_f (nI_pos (by omega)) ?_))
  by_cases hm32 : m < 32
  · have eq : nI z * 32 + nI m = nI (z * 32 + m) := by rw [show (32 : Int32) = nI 32 from rfl, pk_mul, nI_add]
    have e2 : (nI (z * 32 + m)).toNatClampNeg = z * 32 + m := nI_clamp (by omega)
    refine br_f (nI_ge (b := 32) hm32 (by decide)) ⟨by rw [eq]; exact vp_in_nI (by omega) (by omega), ?_⟩
    rw [eq, e2]
    exact br_c (fun h => h0 (fun z => z.2 h)) (fun h => h1 hm32 h)
  · exact br_t (nI_le (a := 32) (by omega) (by omega)) (h0 (fun z => hm32 z.1))
theorem zy_m23 {post : Int32 → SY → Prop} {x r n j : Nat} {V PS : Nat → Int32} (hx : x < 8) (hr : 1 ≤ r) (h96 : r + n ≤ 96) (hj : j < 32) (hN : N ≤ 8) (hU : r + n ≤ U) (hU9 : U ≤ 96) (hen : en x = nI (r + n)) (hd : zs_def K P O L r n)
    (hA : ∀ c, c < U → K c = 11 → ∃ m, m < N ∧ A c = nI m) (hv : zs_vis K V r (nI j) n) (hmo : ∀ q, q < 256 → (ymo q = 0 ↔ ¬ PS q = 2))
    (hp : ∀ (fnd : Int32) (m : Nat) (yv' yx' sv si : Nat → Int32), zs_first (zf_D K A V PS) r (r + n) fnd → (∀ i, i < n → zq (yv' (r + i)) (yx' (r + i)) (V (r + i))) → post fnd ((nI N), (nI C), (nI U), op, (nI S), yne, (nI m), yvsp, ypn, lv, fn, fi, K, A, cl, ds, en, ss, yef, yet, yew, yb, ynb, yv', yx', sv, si, yvs, ymo, ymv, yip, ypN, ypI)) :
    ∀ d i (fnd : Int32) (yv' yx' sv si : Nat → Int32), i + d = n → zs_first (zf_D K A V PS) r (r + i) fnd → (∀ i', i' < i → zq (yv' (r + i')) (yx' (r + i')) (V (r + i'))) →
      zs_st (fun k s => zq (sv k) (si k) (zs_sv K V r (nI j) s)) (zs_stk K r i) → wY_markWalk_23 post (nI x) (d + 1) fnd (nI (r + i)) (nI N) (nI C) (nI U) op (nI S) yne (nI (zs_stk K r i).length) yvsp ypn lv fn fi K A cl ds en ss yef yet yew yb ynb yv' yx' sv si yvs ymo ymv yip ypN ypI := by
  have ex : (nI x).toNatClampNeg = x := nI_clamp (by omega)
  have hin8 : vp_in (nI x) 8 := vp_in_nI hx (by omega)
  have hne : ∀ i, i < n → ∃ s t, zs_stk K r i = s :: t := fun i hi => by
    obtain ⟨s, t, e, _⟩ := hd i hi
    exact ⟨s, t, e⟩
  intro d
  induction d with
  | zero =>
    intro i fnd yv' yx' sv si hi hf hz hst
    obtain rfl : i = n := by omega
    exact ⟨hin8, br_t (by rw [ex, hen]; exact nI_le (Nat.le_refl _) (by omega)) (hp fnd _ yv' yx' sv si hf hz)⟩
  | succ d ih =>
    intro i fnd yv' yx' sv si hi hf hz hst
    have e : (nI (r + i)).toNatClampNeg = r + i := nI_clamp (by omega)
    have hin : vp_in (nI (r + i)) 96 := vp_in_nI (by omega) (by omega)
    obtain ⟨s, t, es, _, _, _, k, hk1, hk11, hk⟩ := hd i (by omega)
    have hrg := zs_vis_rg hr (by omega) hj hne hv (i + 1) i (by omega) (by omega)
    have hVs := hv i (by omega) s t es
    have hlen := zs_stk_len K r i
    rw [es] at hst hlen ⊢
    rw [List.length_cons] at hlen ⊢
    have et' : (nI t.length).toNatClampNeg = t.length := nI_clamp (by omega)
    have hint : vp_in (nI t.length) 100 := vp_in_nI (by omega) (by omega)
    have hq : zq (sv t.length) (si t.length) (V (r + i)) := by rw [hVs]; exact hst.1
    have hst2 := hst.2
    have hb01 : sv t.length = 0 ∨ sv t.length = 1 := by
      rcases zq_c hq with h | h
      · exact Or.inl h.2
      · exact Or.inr h.2.1
    have hnar : vp_nar .boolean (sv t.length) = sv t.length := by rcases hb01 with h | h <;> rw [h] <;> decide
    refine ⟨hin8, br_f (by rw [ex, hen]; exact nI_ge (by omega) (by omega)) (br_f (nI_ge (by omega) (by omega)) (br_f (nI_nle (by omega) (by omega)) (nm_r (nI_pred t.length) ⟨hint, nm_r (e' := sv t.length) (by rw [et']) ⟨hint, nm_r (e' := si t.length) (by rw [et']) ⟨hin, nm_r (e' := upd yv' (r + i) (sv t.length)) (by rw [e, hnar]) ⟨hin, nm_r (e' := upd yx' (r + i) (si t.length)) (by rw [e]) ⟨hin, nm_r (e' := nI k) (by rw [e, hk]) ?_⟩⟩⟩⟩⟩)))⟩
    have ek : zs_stk K r (i + 1) = zs_kids (nI k) (r + i) ++ t := by rw [zs_tl es, hk]
    have hz' : ∀ i', i' < i + 1 → zq (upd yv' (r + i) (sv t.length) (r + i')) (upd yx' (r + i) (si t.length) (r + i')) (V (r + i')) := by
      intro i' hi'
      by_cases ei : i' = i
      · rw [ei, pk_us, pk_us]; exact hq
      · rw [pk_un (by omega), pk_un (by omega)]; exact hz i' (by omega)
    have IH := fun (fnd : Int32) (sv' si' : Nat → Int32) h1 h3 => ih (i + 1) fnd (upd yv' (r + i) (sv t.length)) (upd yx' (r + i) (si t.length)) sv' si' (by omega) h1 hz' h3
    have hr96 : r + i < 96 := by omega
    have stay : ¬ nI k = 11 → zs_first (zf_D K A V PS) r (r + (i + 1)) fnd := fun hk' => zf_n (hi := r + i) hf (fun z => hk' (hk.symm.trans z.1))
    have hp1 : V (r + i) ≠ -1 → V (r + i) + 1 ≠ -1 := fun hne1 => by
      obtain ⟨m, hm, em⟩ := hrg.resolve_left hne1
      rw [em, nI_1]; exact zn_ne1 (by omega)
    have hm1 : V (r + i) ≠ 0 → V (r + i) - 1 ≠ -1 := fun hne0 => by
      rcases hrg with h | ⟨m, hm, em⟩
      · rw [h]; decide
      · have : 0 < m := by
          rcases Nat.eq_zero_or_pos m with h | h
          · rw [h] at em; exact absurd em hne0
          · exact h
        rw [em, zn_s this]; exact zn_ne1 (by omega)
    have hl2 : t.length + 2 ≤ 100 := by omega
    clear ih hp hst
    rcases zk_c hk1 hk11 with rfl | rfl | rfl | rfl | rfl | rfl | rfl | rfl | rfl | rfl | rfl
    · have H := IH fnd sv si (stay (by decide)) (by rw [ek]; exact hst2)
      rw [ek] at H
      exact br_f (by decide) (br_f (by decide) (br_f (by decide) (br_f (by decide) (br_t (by decide) (nm_r (nI_1 (r + i)) H)))))
    · have H := IH fnd (upd sv t.length (sv t.length)) (upd si t.length (0)) (stay (by decide)) (by rw [ek]; exact zs_st_push (q := fun a b s => zq a b (zs_sv K V r (nI j) s)) (a := sv) (b := si) (n := t.length) (s := (r + i, true)) rfl (zq_2 (by omega) hk hq) hst2)
      rw [ek] at H
      exact br_f (by decide) (br_t (by decide) (zy_push (by omega) hb01 (nm_r (nI_1 (r + i)) H)))
    · have H := IH fnd (upd (upd sv t.length (sv t.length)) (t.length + 1) (sv t.length)) (upd (upd si t.length (si t.length)) (t.length + 1) (si t.length)) (stay (by decide)) (by rw [ek]; exact zs_st_push (q := fun a b s => zq a b (zs_sv K V r (nI j) s)) (n := t.length + 1) (s := (r + i, true)) rfl (zq_x (by omega) (by rw [hk]; decide) (by rw [hk]; decide) (by rw [hk]; decide) hq) (zs_st_push (q := fun a b s => zq a b (zs_sv K V r (nI j) s)) (a := sv) (b := si) (n := t.length) (s := (r + i, false)) rfl (zq_x (by omega) (by rw [hk]; decide) (by rw [hk]; decide) (by rw [hk]; decide) hq) hst2))
      rw [ek] at H
      exact br_f (by decide) (br_f (by decide) (br_f (by decide) (br_f (by decide) (br_f (by decide) (zy_push (by omega) hb01 (zy_push (by omega) hb01 (nm_r (nI_1 (r + i)) H)))))))
    · have H := IH fnd (upd (upd sv t.length (sv t.length)) (t.length + 1) (sv t.length)) (upd (upd si t.length (si t.length)) (t.length + 1) (si t.length)) (stay (by decide)) (by rw [ek]; exact zs_st_push (q := fun a b s => zq a b (zs_sv K V r (nI j) s)) (n := t.length + 1) (s := (r + i, true)) rfl (zq_x (by omega) (by rw [hk]; decide) (by rw [hk]; decide) (by rw [hk]; decide) hq) (zs_st_push (q := fun a b s => zq a b (zs_sv K V r (nI j) s)) (a := sv) (b := si) (n := t.length) (s := (r + i, false)) rfl (zq_x (by omega) (by rw [hk]; decide) (by rw [hk]; decide) (by rw [hk]; decide) hq) hst2))
      rw [ek] at H
      exact br_f (by decide) (br_f (by decide) (br_f (by decide) (br_f (by decide) (br_f (by decide) (zy_push (by omega) hb01 (zy_push (by omega) hb01 (nm_r (nI_1 (r + i)) H)))))))
    · have H := IH fnd (upd (upd sv t.length (sv t.length)) (t.length + 1) (sv t.length)) (upd (upd si t.length (si t.length)) (t.length + 1) (si t.length)) (stay (by decide)) (by rw [ek]; exact zs_st_push (q := fun a b s => zq a b (zs_sv K V r (nI j) s)) (n := t.length + 1) (s := (r + i, true)) rfl (zq_x (by omega) (by rw [hk]; decide) (by rw [hk]; decide) (by rw [hk]; decide) hq) (zs_st_push (q := fun a b s => zq a b (zs_sv K V r (nI j) s)) (a := sv) (b := si) (n := t.length) (s := (r + i, false)) rfl (zq_x (by omega) (by rw [hk]; decide) (by rw [hk]; decide) (by rw [hk]; decide) hq) hst2))
      rw [ek] at H
      exact br_f (by decide) (br_f (by decide) (br_f (by decide) (br_f (by decide) (br_f (by decide) (zy_push (by omega) hb01 (zy_push (by omega) hb01 (nm_r (nI_1 (r + i)) H)))))))
    · refine br_f (by decide) (br_f (by decide) (br_f (by decide) (br_t (by decide) (?_))))
      by_cases h0 : si t.length = 0
      · have H := IH fnd (upd (upd sv t.length 0) (t.length + 1) (sv t.length)) (upd (upd si t.length 0) (t.length + 1) 0) (stay (by decide)) (by rw [ek]; exact zs_st_push (q := fun a b s => zq a b (zs_sv K V r (nI j) s)) (n := t.length + 1) (s := (r + i, true)) rfl (zq_6a (by omega) hk hq h0) (zs_st_push (q := fun a b s => zq a b (zs_sv K V r (nI j) s)) (a := sv) (b := si) (n := t.length) (s := (r + i, false)) rfl (zq_6b (by omega) hk hq h0) hst2))
        rw [ek] at H
        exact br_t h0 (zy_push (by omega) (Or.inl rfl) (zy_push (by omega) hb01 (nm_r (nI_1 (r + i)) H)))
      · have H := IH fnd (upd (upd sv t.length (sv t.length)) (t.length + 1) 0) (upd (upd si t.length (si t.length - 1)) (t.length + 1) 0) (stay (by decide)) (by rw [ek]; exact zs_st_push (q := fun a b s => zq a b (zs_sv K V r (nI j) s)) (n := t.length + 1) (s := (r + i, true)) rfl (zq_6c (by omega) hk hq h0) (zs_st_push (q := fun a b s => zq a b (zs_sv K V r (nI j) s)) (a := sv) (b := si) (n := t.length) (s := (r + i, false)) rfl (zq_6d (by omega) hk hq h0 hm1) hst2))
        rw [ek] at H
        exact br_f h0 (zy_push (by omega) hb01 (zy_push (by omega) (Or.inl rfl) (nm_r (nI_1 (r + i)) H)))
    · have H := IH fnd (upd sv t.length (sv t.length)) (upd si t.length (si t.length + 1)) (stay (by decide)) (by rw [ek]; exact zs_st_push (q := fun a b s => zq a b (zs_sv K V r (nI j) s)) (a := sv) (b := si) (n := t.length) (s := (r + i, true)) rfl (zq_7 (by omega) hk hq hp1) hst2)
      rw [ek] at H
      exact br_f (by decide) (br_f (by decide) (br_t (by decide) (zy_push (by omega) hb01 (nm_r (nI_1 (r + i)) H))))
    · have H := IH fnd (upd (upd sv t.length (sv t.length)) (t.length + 1) (sv t.length)) (upd (upd si t.length (si t.length)) (t.length + 1) (si t.length)) (stay (by decide)) (by rw [ek]; exact zs_st_push (q := fun a b s => zq a b (zs_sv K V r (nI j) s)) (n := t.length + 1) (s := (r + i, true)) rfl (zq_x (by omega) (by rw [hk]; decide) (by rw [hk]; decide) (by rw [hk]; decide) hq) (zs_st_push (q := fun a b s => zq a b (zs_sv K V r (nI j) s)) (a := sv) (b := si) (n := t.length) (s := (r + i, false)) rfl (zq_x (by omega) (by rw [hk]; decide) (by rw [hk]; decide) (by rw [hk]; decide) hq) hst2))
      rw [ek] at H
      exact br_f (by decide) (br_f (by decide) (br_f (by decide) (br_f (by decide) (br_f (by decide) (zy_push (by omega) hb01 (zy_push (by omega) hb01 (nm_r (nI_1 (r + i)) H)))))))
    · have H := IH fnd (upd (upd sv t.length (sv t.length)) (t.length + 1) (sv t.length)) (upd (upd si t.length (si t.length)) (t.length + 1) (si t.length)) (stay (by decide)) (by rw [ek]; exact zs_st_push (q := fun a b s => zq a b (zs_sv K V r (nI j) s)) (n := t.length + 1) (s := (r + i, true)) rfl (zq_x (by omega) (by rw [hk]; decide) (by rw [hk]; decide) (by rw [hk]; decide) hq) (zs_st_push (q := fun a b s => zq a b (zs_sv K V r (nI j) s)) (a := sv) (b := si) (n := t.length) (s := (r + i, false)) rfl (zq_x (by omega) (by rw [hk]; decide) (by rw [hk]; decide) (by rw [hk]; decide) hq) hst2))
      rw [ek] at H
      exact br_f (by decide) (br_f (by decide) (br_f (by decide) (br_f (by decide) (br_f (by decide) (zy_push (by omega) hb01 (zy_push (by omega) hb01 (nm_r (nI_1 (r + i)) H)))))))
    · have H := IH fnd (upd (upd sv t.length (sv t.length)) (t.length + 1) (sv t.length)) (upd (upd si t.length (si t.length)) (t.length + 1) (si t.length)) (stay (by decide)) (by rw [ek]; exact zs_st_push (q := fun a b s => zq a b (zs_sv K V r (nI j) s)) (n := t.length + 1) (s := (r + i, true)) rfl (zq_x (by omega) (by rw [hk]; decide) (by rw [hk]; decide) (by rw [hk]; decide) hq) (zs_st_push (q := fun a b s => zq a b (zs_sv K V r (nI j) s)) (a := sv) (b := si) (n := t.length) (s := (r + i, false)) rfl (zq_x (by omega) (by rw [hk]; decide) (by rw [hk]; decide) (by rw [hk]; decide) hq) hst2))
      rw [ek] at H
      exact br_f (by decide) (br_f (by decide) (br_f (by decide) (br_f (by decide) (br_f (by decide) (zy_push (by omega) hb01 (zy_push (by omega) hb01 (nm_r (nI_1 (r + i)) H)))))))
    · refine br_t (by decide) ?_
      have H := fun fnd' hf' => IH fnd' sv si hf' (by rw [ek]; exact hst2)
      rw [ek] at H
      rcases zq_c hq with ⟨g1, g2⟩ | ⟨g1, g2, g3⟩
      · exact br_t g2 (nm_r (nI_1 (r + i)) (H fnd (zf_n (hi := r + i) hf (fun z => z.2.1 g1))))
      · refine br_f (by rw [g2]; decide) ?_
        obtain ⟨m, hm, em⟩ := hrg.resolve_left g1
        obtain ⟨z, hz8, ez⟩ := hA (r + i) (by omega) hk
        by_cases hf0 : (0 : Int32) ≤ fnd
        · exact br_t hf0 (nm_r (nI_1 (r + i)) (H fnd (zf_f (hi := r + i) hf (fun z => by rw [z] at hf0; exact absurd hf0 (by decide)))))
        · have hfm : fnd = -1 := by
            rcases hf with ⟨h1, _⟩ | ⟨c, _, h2, _, _, h5⟩
            · exact h1
            · rw [h5] at hf0; exact absurd (nI_pos' (by omega)) hf0
          subst hfm
          have eqq : (A (r + i) * 32 + V (r + i)).toNatClampNeg = z * 32 + m ∨ 32 ≤ m := by
            by_cases hm32 : m < 32
            · refine Or.inl ?_
              rw [ez, em, show (32 : Int32) = nI 32 from rfl, pk_mul, nI_add, nI_clamp (by omega)]
            · exact Or.inr (by omega)
          refine br_f hf0 ⟨hin, ?_⟩
          refine zy_known (z := z) (m := m) (by rw [e, ez]) (by rw [g3, em]) (by omega) (by omega) (fun h32 hmo1 => br_f zn_10 (nm_r (nI_1 (r + i)) (H (-1) (zf_n (hi := r + i) hf (fun w => w.2.2 ⟨?_, ?_⟩))))) (fun hnk => br_t rfl (nm_r (nI_1 (r + i)) (H (nI (r + i)) (zf_t (hi := r + i) (by omega) (by omega) hf ⟨hk, g1, fun w => hnk ?_⟩))))
          · rw [em]; exact nI_lt (b := 32) h32 (by decide)
          · rcases eqq with eqq | eqq
            · rw [eqq]
              by_cases h2 : PS (z * 32 + m) = 2
              · exact h2
              · exact absurd ((hmo _ (by omega)).mpr h2) hmo1
            · omega
          · have w1 := w.1
            have w2 := w.2
            rw [em] at w1
            have hm32 := (nI_ltI (b := 32) (by omega) (by omega)).mp w1
            rcases eqq with eqq | eqq
            · rw [eqq] at w2
              exact ⟨hm32, fun h => (hmo _ (by omega)).mp h w2⟩
            · omega
theorem zy_mark {post : Int32 → SY → Prop} {x r n j : Nat} {V PS : Nat → Int32} {y : Int32} (hx : x < 8) (hr : 1 ≤ r) (h96 : r + n ≤ 96) (hj : j < 32) (hN : N ≤ 8) (hU : r + n ≤ U) (hU9 : U ≤ 96) (hds : ds x = nI (r - 1)) (hen : en x = nI (r + n)) (hd : zs_def K P O L r n)
    (hA : ∀ c, c < U → K c = 11 → ∃ m, m < N ∧ A c = nI m) (hv : zs_vis K V r (nI j) n) (hmo : ∀ q, q < 256 → (ymo q = 0 ↔ ¬ PS q = 2)) (hy : zs_first (zf_D K A V PS) r (r + n) y)
    (hp : ∀ (ysp : Int32) (yv yx ysv ysi : Nat → Int32), (∀ i, i < n → zq (yv (r + i)) (yx (r + i)) (V (r + i))) → post y ((nI N), (nI C), (nI U), op, (nI S), yne, ysp, yvsp, ypn, lv, fn, fi, K, A, cl, ds, en, ss, yef, yet, yew, yb, ynb, yv, yx, ysv, ysi, yvs, ymo, ymv, yip, ypN, ypI)) : wpY_markWalk post ((nI N), (nI C), (nI U), op, (nI S), yne, ysp, yvsp, ypn, lv, fn, fi, K, A, cl, ds, en, ss, yef, yet, yew, yb, ynb, yv, yx, ysv, ysi, yvs, ymo, ymv, yip, ypN, ypI) (nI x) (nI j) := by
  have ex : (nI x).toNatClampNeg = x := nI_clamp (by omega)
  unfold wpY_markWalk
  refine zy_push (m := 0) (by omega) (Or.inr rfl) ⟨vp_in_nI hx (by omega), nm_r (e' := nI (r + 0)) (by rw [ex, hds, nI_1]; congr 1; omega) ⟨n + 1, ?_⟩⟩
  refine zy_m23 (V := V) (PS := PS) (P := P) (O := O) (L := L) hx hr h96 hj hN hU hU9 hen hd hA hv hmo (fun fnd m yv' yx' sv si h1 h2 => by rw [zf_un h1 hy]; exact hp _ _ _ _ _ h2) n 0 (-1) yv yx _ _ (by omega) (Or.inl ⟨rfl, fun c a b => by omega⟩) (fun i' hi' => absurd hi' (Nat.not_lt_zero i')) ⟨?_, trivial⟩
  show zq (upd ysv 0 1 0) (upd ysi 0 (nI j) 0) (zs_sv K V r (nI j) (r - 1, true))
  rw [pk_us, pk_us]
  unfold zs_sv
  rw [if_pos (by show r - 1 < r; omega)]
  exact ⟨fun z => absurd z (zn_ne1 (by omega)), fun _ => ⟨rfl, rfl⟩⟩
theorem zy_popV {post : Int32 → SY → Prop} {m : Nat} (hm : m < 100) (hp : post (yvs m) ((nI N), (nI C), (nI U), op, (nI S), yne, ysp, (nI m), ypn, lv, fn, fi, K, A, cl, ds, en, ss, yef, yet, yew, yb, ynb, yv, yx, ysv, ysi, yvs, ymo, ymv, yip, ypN, ypI)) : wpY_popV post ((nI N), (nI C), (nI U), op, (nI S), yne, ysp, (nI (m + 1)), ypn, lv, fn, fi, K, A, cl, ds, en, ss, yef, yet, yew, yb, ynb, yv, yx, ysv, ysi, yvs, ymo, ymv, yip, ypN, ypI) := by
  have e : (nI m).toNatClampNeg = m := nI_clamp (by omega)
  exact br_f (nI_nle (by omega) (by omega)) (nm_r (nI_pred m) ⟨vp_in_nI hm (by omega), by rw [e]; exact hp⟩)
theorem zy_pushV {post : SY → Prop} {m : Nat} {y y' : Int32} (hy : y = y') (hm : m < 100) (hp : post ((nI N), (nI C), (nI U), op, (nI S), yne, ysp, (nI (m + 1)), ypn, lv, fn, fi, K, A, cl, ds, en, ss, yef, yet, yew, yb, ynb, yv, yx, ysv, ysi, (upd yvs m y'), ymo, ymv, yip, ypN, ypI)) : wpY_pushV post ((nI N), (nI C), (nI U), op, (nI S), yne, ysp, (nI m), ypn, lv, fn, fi, K, A, cl, ds, en, ss, yef, yet, yew, yb, ynb, yv, yx, ysv, ysi, yvs, ymo, ymv, yip, ypN, ypI) y := by
  subst hy
  have e : (nI m).toNatClampNeg = m := nI_clamp (by omega)
  exact br_f (nI_ge (b := 100) hm (by decide)) ⟨vp_in_nI hm (by omega), nm_r (by rw [e]) (nm_r (nI_1 m) hp)⟩
theorem zy_v36 {post : Int32 → SY → Prop} {x r n j : Nat} {V PV VV : Nat → Int32} (hx : x < 8) (hr : 1 ≤ r) (h96 : r + n ≤ 96) (hj : j < 32) (hds : ds x = nI (r - 1)) (hd : zs_def K P O L r n) (he : zs_stk K r n = [])
    (hv : zs_vis K V r (nI j) n) (hvv : zs_vals K A V L PV VV r (r + n)) (hq : ∀ i, i < n → zq (yv (r + i)) (yx (r + i)) (V (r + i)))
    (hr11 : ∀ c, r ≤ c → c < r + n → K c = 11 → V c ≠ -1 → ∃ z m, z < 8 ∧ m < 32 ∧ A c = nI z ∧ V c = nI m ∧ ¬ ymo (z * 32 + m) = 0 ∧ PV (z * 32 + m) = ymv (z * 32 + m))
    (hp : ∀ (m : Int32) (vs : Nat → Int32), post (VV r) ((nI N), (nI C), (nI U), op, (nI S), yne, ysp, m, ypn, lv, fn, fi, K, A, cl, ds, en, ss, yef, yet, yew, yb, ynb, yv, yx, ysv, ysi, vs, ymo, ymv, yip, ypN, ypI)) :
    ∀ i vs, i ≤ n → zs_at vs (zs_vl (zs_sv K V r (nI j)) VV L (zs_stk K r i)) → wY_valueWalk_36 post (nI x) (i + 1) (nI (r + i - 1)) (nI N) (nI C) (nI U) op (nI S) yne ysp (nI (zs_vl (zs_sv K V r (nI j)) VV L (zs_stk K r i)).length) ypn lv fn fi K A cl ds en ss yef yet yew yb ynb yv yx ysv ysi vs ymo ymv yip ypN ypI := by
  have ex : (nI x).toNatClampNeg = x := nI_clamp (by omega)
  have hin8 : vp_in (nI x) 8 := vp_in_nI hx (by omega)
  intro i
  induction i with
  | zero =>
    intro vs _ hat
    have hl : zs_vl (zs_sv K V r (nI j)) VV L (zs_stk K r 0) = [VV r] := by
      show zs_vl (zs_sv K V r (nI j)) VV L [(r - 1, true)] = _
      rw [zs_vl_t ?_]
      · show [VV (zs_ch L (r - 1, true))] = _
        unfold zs_ch
        rw [if_pos rfl]
        show [VV (r - 1 + 1)] = _
        rw [show r - 1 + 1 = r by omega]
      · unfold zs_sv
        rw [if_pos (by show r - 1 < r; omega)]
        exact zn_ne1 (by omega)
    rw [hl] at hat ⊢
    have h0 : vs 0 = VV r := hat.1
    show wY_valueWalk_36 post (nI x) (0 + 1) (nI (r + 0 - 1)) (nI N) (nI C) (nI U) op (nI S) yne ysp (nI 1) ypn lv fn fi K A cl ds en ss yef yet yew yb ynb yv yx ysv ysi vs ymo ymv yip ypN ypI
    refine ⟨hin8, br_t (by rw [ex, hds]; exact nI_le (by omega) (by omega)) (br_f (by decide) ⟨vp_in_iff.mpr (by decide), ?_⟩)⟩
    rw [show (nI 1 - 1).toNatClampNeg = 0 by decide, h0]
    exact hp _ _
  | succ i ih =>
    intro vs hi hat
    have ei : r + (i + 1) - 1 = r + i := by omega
    rw [ei]
    have e : (nI (r + i)).toNatClampNeg = r + i := nI_clamp (by omega)
    have hin : vp_in (nI (r + i)) 96 := vp_in_nI (by omega) (by omega)
    refine ⟨hin8, br_f (by rw [ex, hds]; exact nI_ge (by omega) (by omega)) (br_f (nI_pos (by omega)) ⟨hin, ?_⟩)⟩
    obtain ⟨s, t, es, _⟩ := hd i (by omega)
    have hqi := hq i (by omega)
    have hlen : (zs_vl (zs_sv K V r (nI j)) VV L (zs_stk K r (i + 1))).length ≤ i + 2 := Nat.le_trans (zs_vl_len _) (zs_stk_len K r (i + 1))
    by_cases h1 : V (r + i) = -1
    · rw [zs_vl_un es (hv i (by omega) s t es) h1] at hat ⊢
      exact br_t (by rw [e]; exact hqi.1 h1) (nm_r (zn_m (by omega)) (ih vs (by omega) hat))
    · obtain ⟨g1, g2⟩ := hqi.2 h1
      obtain ⟨tl, htl, hcase⟩ := zs_vl_vis hr h96 hj hd he (by omega) es hv hvv h1
      refine br_f (by rw [e, g1]; decide) ⟨hin, ?_⟩
      have IH := fun vs' h => ih vs' (by omega) h
      rw [htl] at IH
      have go : ∀ vs' : Nat → Int32, zs_at vs' tl → ∀ x3 : Int32, x3 = nI (r + i) + (-1) → wY_valueWalk_36 post (nI x) (i + 1) x3 (nI N) (nI C) (nI U) op (nI S) yne ysp (nI (tl.length + 1)) ypn lv fn fi K A cl ds en ss yef yet yew yb ynb yv yx ysv ysi (upd vs' tl.length (VV (r + i))) ymo ymv yip ypN ypI := by
        intro vs' hvs
        exact nm_r (zn_m (by omega)) (IH _ (zs_at_push hvs))
      rcases hcase with ⟨hk, hvl, hval⟩ | ⟨hk, hvl, hval⟩ | ⟨hk, hvl⟩ | ⟨a, b, hvl, hop⟩
      · rw [hvl] at hat hlen ⊢
        refine nm_r (e' := 1) (by rw [e, hk]) (br_t rfl ⟨hin, ?_⟩)
        exact zy_pushV (y' := VV (r + i)) (by rw [e, hval]) (by omega) (go vs hat)
      · rw [hvl] at hat hlen ⊢
        obtain ⟨z, m, hz, hm, ez, em, hmo1, hpv⟩ := hr11 (r + i) (by omega) (by omega) hk h1
        have eq : A (r + i) * 32 + yx (r + i) = nI (z * 32 + m) := by rw [ez, g2, em, show (32 : Int32) = nI 32 from rfl, pk_mul, nI_add]
        have eq' : A (r + i) * 32 + V (r + i) = nI (z * 32 + m) := by rw [← g2]; exact eq
        have e2 : (nI (z * 32 + m)).toNatClampNeg = z * 32 + m := nI_clamp (by omega)
        refine nm_r (e' := 11) (by rw [e, hk]) (br_f (by decide) (br_t rfl ⟨hin, hin, ?_⟩))
        refine zy_known (z := z) (m := m) (by rw [e, ez]) (by rw [e, g2, em]) hz (by omega) (fun _ _ => br_f zn_10 ⟨hin, hin, by rw [e, eq]; exact vp_in_nI (by omega) (by omega), ?_⟩) (fun h => absurd ⟨hm, hmo1⟩ h)
        exact zy_pushV (y' := VV (r + i)) (by rw [e, eq, e2, hval, eq', e2, hpv]) (by omega) (go vs hat)
      · rw [hvl] at hat ⊢
        have := IH vs hat
        rcases hk with hk | hk | hk

        · exact nm_r (e' := 2) (by rw [e, hk]) (br_f (by decide) (br_f (by decide) (br_f (by decide) (br_f (by decide) (br_f (by decide) (br_f (by decide) (br_f (by decide) (br_f (by decide) (nm_r (zn_m (by omega)) this)))))))))
        · exact nm_r (e' := 7) (by rw [e, hk]) (br_f (by decide) (br_f (by decide) (br_f (by decide) (br_f (by decide) (br_f (by decide) (br_f (by decide) (br_f (by decide) (br_f (by decide) (nm_r (zn_m (by omega)) this)))))))))
        · exact nm_r (e' := 6) (by rw [e, hk]) (br_f (by decide) (br_f (by decide) (br_f (by decide) (br_f (by decide) (br_f (by decide) (br_f (by decide) (br_f (by decide) (br_f (by decide) (nm_r (zn_m (by omega)) this)))))))))
      · rw [hvl] at hat hlen ⊢
        obtain ⟨ha, hb, ht⟩ := hat
        have ha : vs (tl.length + 1) = a := ha
        rw [List.length_cons, List.length_cons] at hlen ⊢
        have hlt : tl.length + 2 ≤ 98 := by omega
        rcases hop with ⟨hk, ho⟩ | ⟨hk, ho⟩ | ⟨hk, ho⟩ <;> rcases hk with hk | hk
        · refine nm_r (e' := 3) (by rw [e, hk]) (br_f (by decide) (br_f (by decide) (br_t (by decide) (?_))))
          exact zy_popV (by omega) (zy_popV (by omega) (zy_pushV (y' := VV (r + i)) (by rw [ha, hb, ho]) (by omega) (go vs ht)))
        · refine nm_r (e' := 8) (by rw [e, hk]) (br_f (by decide) (br_f (by decide) (br_f (by decide) (br_t (by decide) (?_)))))
          exact zy_popV (by omega) (zy_popV (by omega) (zy_pushV (y' := VV (r + i)) (by rw [ha, hb, ho]) (by omega) (go vs ht)))
        · refine nm_r (e' := 4) (by rw [e, hk]) (br_f (by decide) (br_f (by decide) (br_f (by decide) (br_f (by decide) (br_t (by decide) (?_))))))
          exact zy_popV (by omega) (zy_popV (by omega) (zy_pushV (y' := VV (r + i)) (by rw [ha, hb, ho]) (by omega) (go vs ht)))
        · refine nm_r (e' := 9) (by rw [e, hk]) (br_f (by decide) (br_f (by decide) (br_f (by decide) (br_f (by decide) (br_f (by decide) (br_t (by decide) (?_)))))))
          exact zy_popV (by omega) (zy_popV (by omega) (zy_pushV (y' := VV (r + i)) (by rw [ha, hb, ho]) (by omega) (go vs ht)))
        · refine nm_r (e' := 5) (by rw [e, hk]) (br_f (by decide) (br_f (by decide) (br_f (by decide) (br_f (by decide) (br_f (by decide) (br_f (by decide) (br_t (by decide) (?_))))))))
          exact zy_popV (by omega) (zy_popV (by omega) (zy_pushV (y' := VV (r + i)) (by rw [ha, hb, ho]) (by omega) (go vs ht)))
        · refine nm_r (e' := 10) (by rw [e, hk]) (br_f (by decide) (br_f (by decide) (br_f (by decide) (br_f (by decide) (br_f (by decide) (br_f (by decide) (br_f (by decide) (br_t (by decide) (?_)))))))))
          exact zy_popV (by omega) (zy_popV (by omega) (zy_pushV (y' := VV (r + i)) (by rw [ha, hb, ho]) (by omega) (go vs ht)))
theorem zy_vals {post : Int32 → SY → Prop} {x r n j : Nat} {V PV VV : Nat → Int32} (hx : x < 8) (hr : 1 ≤ r) (hn : 1 ≤ n) (h96 : r + n ≤ 96) (hU : r + n ≤ U) (hU9 : U ≤ 96) (hj : j < 32) (hds : ds x = nI (r - 1)) (hen : en x = nI (r + n)) (hd : zs_def K P O L r n) (he : zs_stk K r n = [])
    (hv : zs_vis K V r (nI j) n) (hvv : zs_vals K A V L PV VV r (r + n)) (hq : ∀ i, i < n → zq (yv (r + i)) (yx (r + i)) (V (r + i)))
    (hr11 : ∀ c, r ≤ c → c < r + n → K c = 11 → V c ≠ -1 → ∃ z m, z < 8 ∧ m < 32 ∧ A c = nI z ∧ V c = nI m ∧ ¬ ymo (z * 32 + m) = 0 ∧ PV (z * 32 + m) = ymv (z * 32 + m))
    (hp : ∀ (m : Int32) (vs : Nat → Int32), post (VV r) ((nI N), (nI C), (nI U), op, (nI S), yne, ysp, m, ypn, lv, fn, fi, K, A, cl, ds, en, ss, yef, yet, yew, yb, ynb, yv, yx, ysv, ysi, vs, ymo, ymv, yip, ypN, ypI)) : wpY_valueWalk post ((nI N), (nI C), (nI U), op, (nI S), yne, ysp, yvsp, ypn, lv, fn, fi, K, A, cl, ds, en, ss, yef, yet, yew, yb, ynb, yv, yx, ysv, ysi, yvs, ymo, ymv, yip, ypN, ypI) (nI x) := by
  have ex : (nI x).toNatClampNeg = x := nI_clamp (by omega)
  have hin8 : vp_in (nI x) 8 := vp_in_nI hx (by omega)
  have H := zy_v36 (N := N) (C := C) (U := U) (S := S) (op := op) (lv := lv) (fn := fn) (fi := fi) (yne := yne) (ysp := ysp) (ypn := ypn) (cl := cl) (en := en) (ss := ss) (yef := yef) (yet := yet) (yew := yew) (yb := yb) (ynb := ynb) (ysv := ysv) (ysi := ysi) (yip := yip) (ypN := ypN) (ypI := ypI) hx hr h96 hj hds hd he hv hvv hq hr11 hp n yvs (Nat.le_refl _) (by rw [he]; trivial)
  rw [he] at H
  refine ⟨hin8, ?_⟩
  by_cases hc : U ≤ r + n
  · refine br_t (by rw [ex, hen]; exact nI_le hc (by omega)) (nm_r (e' := nI (r + n - 1)) (by rw [zn_s (by omega)]; congr 1; omega) ⟨_, H⟩)
  · refine br_f (by rw [ex, hen]; exact nI_ge (by omega) (by omega)) ⟨hin8, nm_r (e' := nI (r + n)) (by rw [ex, hen]) (nm_r (e' := nI (r + n - 1)) (by rw [zn_s (by omega)]) ⟨_, H⟩)⟩
end Z14
end
section
/-! eval: the two loops in step -/
def ze_X (N : Nat) (cl ps pt : Nat → Int32) (px pj : Nat → Nat) (l : Nat) : Prop :=
  ∀ i, i < l → px i < N ∧ cl (px i) = 1 ∧ pj i < 32 ∧ pt i = nI (px i * 32 + pj i) ∧ ps (px i * 32 + pj i) ≠ 0
def ze_Y (ps pv : Nat → Int32) (px pj : Nat → Nat) (l : Nat) (ymo ymv yip ypN ypI : Nat → Int32) : Prop :=
  zp_pr ps pv ymo ymv yip ∧ ∀ i, i < l → ypN i = nI (px i) ∧ ypI i = nI (pj i)
section Z15
variable {N C U S : Nat} {op lv fn fi pl yne ysp yvsp ypn : Int32}
variable {K A Ow O P L cl rt en ss so sp ds ww lw vi vv ps pv pt yef yet yew yb ynb yv yx ysv ysi yvs ymo ymv yip ypN ypI : Nat → Int32}
variable {R E : Nat → Nat}
theorem zp_mo {ymo ymv yip ps pv : Nat → Int32} (h : zp_pr ps pv ymo ymv yip) : ∀ q, q < 256 → (ymo q = 0 ↔ ¬ ps q = 2) := by
  intro q hq
  rcases h q hq with ⟨h1, h2, _⟩ | ⟨h1, h2, _⟩ | ⟨h1, h2, _⟩ <;> rw [h1, h2] <;> decide
/-- one turn of the reference: a pair is finished -/
theorem zy_fin {p : Int32 → SY → Prop} {x r n j l it f : Nat} {V VV ps pv : Nat → Int32} {px pj : Nat → Nat} (hx : x < 8) (hr : 1 ≤ r) (hn : 1 ≤ n) (h96 : r + n ≤ 96) (hj : j < 32) (hN : N ≤ 8) (hU : r + n ≤ U) (hU9 : U ≤ 96) (hl : l < 256) (hit : it < 2000)
    (hds : ds x = nI (r - 1)) (hen : en x = nI (r + n)) (hd : zs_def K P O L r n) (he : zs_stk K r n = []) (hA : ∀ c, c < U → K c = 11 → ∃ m, m < N ∧ A c = nI m) (hv : zs_vis K V r (nI j) n) (hy : zs_first (zf_D K A V ps) r (r + n) (-1)) (hvv : zs_vals K A V L pv VV r (r + n))
    (hpx : px l = x) (hpj : pj l = j) (hY : ze_Y ps pv px pj (l + 1) ymo ymv yip ypN ypI)
    (h0 : l = 0 → ∀ (ysp yvsp : Int32) (yv yx ysv ysi yvs : Nat → Int32), p 0 ((nI N), (nI C), (nI U), op, (nI S), yne, ysp, yvsp, (nI 0), (VV r), (-1), (-1), K, A, cl, ds, en, ss, yef, yet, yew, yb, ynb, yv, yx, ysv, ysi, yvs, (upd ymo (x * 32 + j) 1), (upd ymv (x * 32 + j) (VV r)), (upd yip (x * 32 + j) 0), ypN, ypI))
    (h1 : l ≠ 0 → ∀ (ysp yvsp : Int32) (yv yx ysv ysi yvs : Nat → Int32), wY_eval_111 p f (nI (it + 1)) (nI N) (nI C) (nI U) op (nI S) yne ysp yvsp (nI l) lv fn fi K A cl ds en ss yef yet yew yb ynb yv yx ysv ysi yvs (upd ymo (x * 32 + j) 1) (upd ymv (x * 32 + j) (VV r)) (upd yip (x * 32 + j) 0) ypN ypI) :
    wY_eval_111 p (f + 1) (nI it) (nI N) (nI C) (nI U) op (nI S) yne ysp yvsp (nI (l + 1)) lv fn fi K A cl ds en ss yef yet yew yb ynb yv yx ysv ysi yvs ymo ymv yip ypN ypI := by
  obtain ⟨hpr, hpath⟩ := hY
  obtain ⟨g1, g2⟩ := hpath l (by omega)
  rw [hpx] at g1
  rw [hpj] at g2
  have el : (nI (l + 1) - 1).toNatClampNeg = l := by rw [nI_pred]; exact nI_clamp (by omega)
  have hin : vp_in (nI (l + 1) - 1) 260 := by rw [nI_pred]; exact vp_in_nI (by omega) (by omega)
  have eq : nI x * 32 + nI j = nI (x * 32 + j) := by rw [show (32 : Int32) = nI 32 from rfl, pk_mul, nI_add]
  have e2 : (nI x * 32 + nI j).toNatClampNeg = x * 32 + j := by rw [eq]; exact nI_clamp (by omega)
  have hin2 : vp_in (nI x * 32 + nI j) 256 := by rw [eq]; exact vp_in_nI (by omega) (by omega)
  have hno := zf_no (by omega) hy
  refine br_f (nI_ge (b := 2000) hit (by decide)) (br_f (nI_nle (by omega) (by omega)) ⟨hin, nm_r (e' := nI x) (by rw [el]; exact g1) ⟨hin, nm_r (e' := nI j) (by rw [el]; exact g2) ?_⟩⟩)
  refine zy_mark (V := V) (PS := ps) (P := P) (O := O) (L := L) hx hr h96 hj hN hU hU9 hds hen hd hA hv (zp_mo hpr) hy (fun _ _ _ _ _ hq => br_f zn_n1 (zy_vals (V := V) (PV := pv) (VV := VV) (P := P) (O := O) (L := L) hx hr hn h96 hU hU9 hj hds hen hd he hv hvv hq (fun c a b hk hvc => ?_) (fun _ _ => ⟨hin2, nm_r (e' := upd ymo (x * 32 + j) 1) (by rw [e2, zb_1]) ⟨hin2, nm_r (e' := upd ymv (x * 32 + j) (VV r)) (by rw [e2]) ⟨hin2, nm_r (e' := upd yip (x * 32 + j) 0) (by rw [e2, zb_0]) (nm_r (nI_pred l) ?_)⟩⟩⟩)))
  · have hne : ∀ i, i < n → ∃ s t, zs_stk K r i = s :: t := fun i hi => by
      obtain ⟨s, t, e, _⟩ := hd i hi
      exact ⟨s, t, e⟩
    obtain ⟨i, rfl⟩ : ∃ i, c = r + i := ⟨c - r, by omega⟩
    obtain ⟨m, hm, em⟩ := (zs_vis_rg hr (by omega) hj hne hv (i + 1) i (by omega) (by omega)).resolve_left hvc
    obtain ⟨z, hz, ez⟩ := hA (r + i) (by omega) hk
    have hnD := hno (r + i) a b
    have hmet : V (r + i) < 32 ∧ ps (A (r + i) * 32 + V (r + i)).toNatClampNeg = 2 := Classical.byContradiction (fun w => hnD ⟨hk, hvc, w⟩)
    have hm32 : m < 32 := by
      have := hmet.1
      rw [em] at this
      exact (nI_ltI (b := 32) (by omega) (by omega)).mp this
    have hps : ps (z * 32 + m) = 2 := by
      have := hmet.2
      rw [ez, em, show (32 : Int32) = nI 32 from rfl, pk_mul, nI_add, nI_clamp (by omega)] at this
      exact this
    refine ⟨z, m, by omega, hm32, ez, em, fun w => (zp_mo hpr _ (by omega)).mp w hps, ?_⟩
    rcases hpr (z * 32 + m) (by omega) with w | w | w
    · rw [hps] at w; exact absurd w.1 (by decide)
    · rw [hps] at w; exact absurd w.1 (by decide)
    · exact w.2.2.2
  · by_cases hl0 : l = 0
    · refine br_t (by rw [hl0]; rfl) ?_
      have := h0 hl0
      rw [← hl0] at this
      exact this _ _ _ _ _ _ _
    · exact br_f (nI_ne0 (by omega) (by omega)) (nm_r (nI_1 it) (h1 hl0 _ _ _ _ _ _ _))
/-- one turn of the reference: a demand -/
theorem zy_dem {p : Int32 → SY → Prop} {x r n j l it f c z m : Nat} {V ps pv : Nat → Int32} {px pj : Nat → Nat} (hx : x < 8) (hr : 1 ≤ r) (h96 : r + n ≤ 96) (hj : j < 32) (hN : N ≤ 8) (hU : r + n ≤ U) (hU9 : U ≤ 96) (hl : l + 1 < 259) (hit : it < 2000)
    (hds : ds x = nI (r - 1)) (hen : en x = nI (r + n)) (hd : zs_def K P O L r n) (hA : ∀ c, c < U → K c = 11 → ∃ m, m < N ∧ A c = nI m) (hv : zs_vis K V r (nI j) n) (hy : zs_first (zf_D K A V ps) r (r + n) (nI c)) (hc : c < 96) (hz : z < 8) (hm : m < 2 ^ 30) (ez : A c = nI z) (em : V c = nI m)
    (hpx : px l = x) (hpj : pj l = j) (hY : ze_Y ps pv px pj (l + 1) ymo ymv yip ypN ypI)
    (h2 : 32 ≤ m → ∀ (ysp yvsp : Int32) (yv yx ysv ysi yvs : Nat → Int32), p 2 ((nI N), (nI C), (nI U), op, (nI S), yne, ysp, yvsp, (nI (l + 1)), 0, (nI z), (nI m), K, A, cl, ds, en, ss, yef, yet, yew, yb, ynb, yv, yx, ysv, ysi, yvs, ymo, ymv, yip, ypN, ypI))
    (h1 : m < 32 → ps (z * 32 + m) = 1 → ∀ (ysp yvsp : Int32) (yv yx ysv ysi yvs : Nat → Int32), p 1 ((nI N), (nI C), (nI U), op, (nI S), yne, ysp, yvsp, (nI (l + 1)), 0, (nI z), (nI m), K, A, cl, ds, en, ss, yef, yet, yew, yb, ynb, yv, yx, ysv, ysi, yvs, ymo, ymv, yip, ypN, ypI))
    (h0 : m < 32 → ps (z * 32 + m) = 0 → ∀ (ysp yvsp : Int32) (yv yx ysv ysi yvs : Nat → Int32), wY_eval_111 p f (nI (it + 1)) (nI N) (nI C) (nI U) op (nI S) yne ysp yvsp (nI (l + 2)) lv fn fi K A cl ds en ss yef yet yew yb ynb yv yx ysv ysi yvs ymo ymv (upd yip (z * 32 + m) 1) (upd ypN (l + 1) (nI z)) (upd ypI (l + 1) (nI m)))
    (h01 : m < 32 → ps (z * 32 + m) = 0 ∨ ps (z * 32 + m) = 1) :
    wY_eval_111 p (f + 1) (nI it) (nI N) (nI C) (nI U) op (nI S) yne ysp yvsp (nI (l + 1)) lv fn fi K A cl ds en ss yef yet yew yb ynb yv yx ysv ysi yvs ymo ymv yip ypN ypI := by
  obtain ⟨hpr, hpath⟩ := hY
  obtain ⟨g1, g2⟩ := hpath l (by omega)
  rw [hpx] at g1
  rw [hpj] at g2
  have el : (nI (l + 1) - 1).toNatClampNeg = l := by rw [nI_pred]; exact nI_clamp (by omega)
  have hin : vp_in (nI (l + 1) - 1) 260 := by rw [nI_pred]; exact vp_in_nI (by omega) (by omega)
  have ec : (nI c).toNatClampNeg = c := nI_clamp (by omega)
  have hinc : vp_in (nI c) 96 := vp_in_nI hc (by omega)
  have hcr : ∃ i, i < n ∧ c = r + i ∧ V c ≠ -1 := by
    rcases hy with ⟨w, _⟩ | ⟨c', w1, w2, w3, _, w5⟩
    · exact absurd w (zn_ne1 (by omega))
    · have := zn_im w5 (by omega) (by omega)
      subst this
      exact ⟨c - r, by omega, by omega, w3.2.1⟩
  obtain ⟨i, hi, eci, hvc⟩ := hcr
  refine br_f (nI_ge (b := 2000) hit (by decide)) (br_f (nI_nle (by omega) (by omega)) ⟨hin, nm_r (e' := nI x) (by rw [el]; exact g1) ⟨hin, nm_r (e' := nI j) (by rw [el]; exact g2) ?_⟩⟩)
  refine zy_mark (V := V) (PS := ps) (P := P) (O := O) (L := L) hx hr h96 hj hN hU hU9 hds hen hd hA hv (zp_mo hpr) hy (fun ysp' yv' yx' ysv' ysi' hq => ?_)
  have hix : yx' c = nI m := by
    have := (hq i hi).2
    rw [← eci] at this
    rw [(this hvc).2, em]
  refine br_t (nI_pos' (by omega)) ⟨hinc, nm_r (e' := nI z) (by rw [ec, ez]) ⟨hinc, nm_r (e' := nI m) (by rw [ec, hix]) (br_f (nI_pos (by omega)) ?_)⟩⟩
  by_cases hm32 : m < 32
  · have eq : nI z * 32 + nI m = nI (z * 32 + m) := by rw [show (32 : Int32) = nI 32 from rfl, pk_mul, nI_add]
    have e2 : (nI z * 32 + nI m).toNatClampNeg = z * 32 + m := by rw [eq]; exact nI_clamp (by omega)
    have hin2 : vp_in (nI z * 32 + nI m) 256 := by rw [eq]; exact vp_in_nI (by omega) (by omega)
    have e1 : (nI (l + 1)).toNatClampNeg = l + 1 := nI_clamp (by omega)
    have hin1 : vp_in (nI (l + 1)) 260 := vp_in_nI (by omega) (by omega)
    have h32 : ¬ (32 : Int32) ≤ nI m := nI_ge (b := 32) hm32 (by decide)
    refine br_f h32 ⟨hin2, ?_⟩
    rcases h01 hm32 with hp0 | hp1
    · have hip : yip (z * 32 + m) = 0 := by
        rcases hpr (z * 32 + m) (by omega) with w | w | w
        · exact w.2.2
        · rw [hp0] at w; exact absurd w.1 (by decide)
        · exact w.2.2.1
      exact br_t (by rw [e2]; exact hip) (br_f h32 (br_t (nI_pos' (by omega)) (br_f (nI_ge (b := 260) (by omega) (by decide)) ⟨hin1, nm_r (e' := upd ypN (l + 1) (nI z)) (by rw [e1]) ⟨hin1, nm_r (e' := upd ypI (l + 1) (nI m)) (by rw [e1]) (nm_r (nI_1 (l + 1)) ⟨hin2, nm_r (e' := upd yip (z * 32 + m) 1) (by rw [e2, zb_1]) (nm_r (nI_1 it) (h0 hm32 hp0 _ _ _ _ _ _ _))⟩)⟩⟩)))
    · have hip : ¬ yip (z * 32 + m) = 0 := by
        rcases hpr (z * 32 + m) (by omega) with w | w | w
        · rw [hp1] at w; exact absurd w.1 (by decide)
        · rw [w.2.2]; decide
        · rw [hp1] at w; exact absurd w.1 (by decide)
      exact br_f (by rw [e2]; exact hip) (h1 hm32 hp1 _ _ _ _ _ _ _)
  · have h32 : (32 : Int32) ≤ nI m := nI_le (a := 32) (by omega) (by omega)
    exact br_t h32 (br_t h32 (h2 (by omega) _ _ _ _ _ _ _))
end Z15
end
section
/-! eval: the loop and the call -/
section Z16
variable {N C U S : Nat} {op lv fn fi pl yne ysp yvsp ypn : Int32}
variable {K A Ow O P L cl rt en ss so sp ds ww lw vi vv ps pv pt yef yet yew yb ynb yv yx ysv ysi yvs ymo ymv yip ypN ypI : Nat → Int32}
variable {R E : Nat → Nat}
theorem ze_loop {Q : (Int32 → SY → Prop) → Prop} {kk x0 j0 : Nat} (hR : ∀ n, rt n = nI (R n)) (hD : ∀ n, ds n = nI (R n - 1)) (hE : ∀ n, en n = nI (E n)) (h : zi_inv N C U S op K A P O L Ow cl so sp R E) (hc0 : ∀ c, c < U → K c = 11 → ¬ cl (A c).toNatClampNeg = 0) :
    ∀ mu it l (ps pv pt vi vv : Nat → Int32) (px pj : Nat → Nat), 2 * zp_n0 ps + (l + 1) = mu → it + mu ≤ 512 → (l + 1) + zp_n0 ps ≤ 256 → ze_X N cl ps pt px pj (l + 1) → px 0 = x0 → pj 0 = j0 → (∀ q, q < 256 → ps q = 0 ∨ ps q = 1 ∨ ps q = 2) →
      (∀ p : Int32 → SY → Prop, (∀ (ysp yvsp : Int32) (yv yx ysv ysi yvs ymo ymv yip ypN ypI : Nat → Int32), ze_Y ps pv px pj (l + 1) ymo ymv yip ypN ypI → wY_eval_111 p (mu + 1) (nI it) (nI N) (nI C) (nI U) op (nI S) yne ysp yvsp (nI (l + 1)) lv fn fi K A cl ds en ss yef yet yew yb ynb yv yx ysv ysi yvs ymo ymv yip ypN ypI) → Q p) →
      wX_evaluate_19 (fun r u' => Q (fun r' v' => r' = r ∧ i_Rel kk u' v')) (nI (x0 * 32 + j0)) (mu + 1) (nI it) (nI N) (nI C) (nI U) op (nI S) (nI (l + 1)) lv fn fi K A Ow O P L cl rt en ss so sp ww lw vi vv ps pv pt := by
  have hb := h.1
  have hA := h.2.2.2.2.1
  have hcl := h.2.1
  intro mu
  induction mu with
  | zero => intro it l ps pv pt vi vv px pj h1; omega
  | succ mu ih =>
    intro it l ps pv pt vi vv px pj hmu hit hroom hX hx0 hj0 h012 YR
    obtain ⟨w1, w2, w3, w4, w5⟩ := hX l (by omega)
    obtain ⟨r1, r2, r3, r4, r5, r6, r7⟩ := h.2.2.1 (px l) w1 w2
    have hx00 := hX 0 (by omega)
    rw [hx0, hj0] at hx00
    have hw256 : x0 * 32 + j0 < 256 := by omega
    have en' : en (px l) = nI (R (px l) + (E (px l) - R (px l))) := by rw [hE]; congr 1; omega
    have e0 : ∀ q, q < 256 → ps q = 0 → 1 ≤ zp_n0 ps := fun q hq hz => zg_cn_pos (by show decide (ps q = 0) = true; rw [hz]; rfl) 256 hq
    refine br_f (nI_ge (b := 1000000) (by omega) (by decide)) (br_f (nI_nle (by omega) (by omega)) ?_)
    refine zx_walk (x := px l) (r := R (px l)) (n := E (px l) - R (px l)) (j := pj l) (l := l) (by omega) r1 (by omega) (by omega) w3 (by omega) (by omega) (by omega) (hR _) en' r4 r5 hA w4 (fun q hq hz => by have := e0 q hq hz; omega) h012
      (fun vi' vv' hv hf hvv => br_t rfl (nm_r (nI_1 it) ?_))
      (fun vi' c z m hv hf hc hz hm ez em h32 => br_f (by decide) (YR _ (fun _ _ _ _ _ _ _ _ _ _ _ _ hY => zy_dem (V := vi') (P := P) (O := O) (L := L) (by omega) r1 (by omega) w3 (by omega) (by omega) (by omega) (by omega) (by omega) (hD _) en' r4 hA hv hf hc (by omega) hm ez em rfl rfl hY (fun _ _ _ _ _ _ _ _ => ⟨rfl, zr_mk hR hD hE h⟩) (fun a => by omega) (fun a => by omega) (fun a => by omega))))
      (fun vi' c z m hv hf hc hz hm ez em hp1 => br_f (by decide) (YR _ (fun _ _ _ _ _ _ _ _ _ _ _ _ hY => zy_dem (V := vi') (P := P) (O := O) (L := L) (by omega) r1 (by omega) w3 (by omega) (by omega) (by omega) (by omega) (by omega) (hD _) en' r4 hA hv hf hc (by omega) (by omega) ez em rfl rfl hY (fun a => by omega) (fun _ _ _ _ _ _ _ _ _ => ⟨rfl, zr_mk hR hD hE h⟩) (fun _ a => by rw [hp1] at a; exact absurd a (by decide)) (fun _ => Or.inr hp1))))
      (fun vi' c z m hv hf hc1 hc2 hk hz hm ez em hp0 => br_t rfl (nm_r (nI_1 it) ?_))
    · cases l with
      | zero =>
        refine br_f (nI_ge (b := 1000000) (by omega) (by decide)) (br_t (by decide) ⟨vp_in_nI hw256 (by omega), YR _ (fun _ _ _ _ _ _ _ _ _ _ _ _ hY => zy_fin (V := vi') (VV := vv') (P := P) (O := O) (L := L) (by omega) r1 (by omega) (by omega) w3 (by omega) (by omega) (by omega) (by omega) (by omega) (hD _) en' r4 r5 hA hv hf hvv rfl rfl hY (fun _ _ _ _ _ _ _ _ => ⟨rfl, ?_⟩) (fun a => absurd rfl a))⟩)
        have ev : upd pv (px 0 * 32 + pj 0) (vv' (R (px 0))) (nI (x0 * 32 + j0)).toNatClampNeg = vv' (R (px 0)) := by rw [nI_clamp (by omega), ← hx0, ← hj0, pk_us]
        rw [ev]
        exact zr_mk hR hD hE h
      | succ l =>
        have hn0 := zp_n0_fin (PS := ps) w5
        refine ih (it + 1) l _ _ _ _ _ px pj (by rw [hn0]; omega) (by omega) (by rw [hn0]; omega) (fun i hi => ?_) hx0 hj0 (fun q hq => ?_) (fun p H => YR p (fun _ _ _ _ _ _ _ _ _ _ _ _ hY => zy_fin (V := vi') (VV := vv') (P := P) (O := O) (L := L) (by omega) r1 (by omega) (by omega) w3 (by omega) (by omega) (by omega) (by omega) (by omega) (hD _) en' r4 r5 hA hv hf hvv rfl rfl hY (fun a => absurd a (by omega)) (fun _ _ _ _ _ _ _ _ => H _ _ _ _ _ _ _ _ _ _ _ _ ⟨zp_fin hY.1, fun i hi => hY.2 i (by omega)⟩)))
        · obtain ⟨v1, v2, v3, v4, v5⟩ := hX i (by omega)
          refine ⟨v1, v2, v3, v4, ?_⟩
          by_cases e : px i * 32 + pj i = px (l + 1) * 32 + pj (l + 1)
          · rw [e, pk_us]; decide
          · rw [pk_un e]; exact v5
        · by_cases e : q = px (l + 1) * 32 + pj (l + 1)
          · rw [e, pk_us]; exact Or.inr (Or.inr rfl)
          · rw [pk_un e]; exact h012 q hq
    · have hq256 : z * 32 + m < 256 := by omega
      have hn0 := zp_n0_start (PS := ps) hq256 hp0
      have hclz : cl z = 1 := by
        have := hc0 c (by omega) hk
        rw [ez, nI_clamp (by omega)] at this
        exact (hcl z).resolve_left this
      refine ih (it + 1) (l + 1) _ _ _ _ _ (zi_un px (l + 1) z) (zi_un pj (l + 1) m) (by omega) (by omega) (by omega) (fun i hi => ?_) (by rw [zi_unn (by omega)]; exact hx0) (by rw [zi_unn (by omega)]; exact hj0) (fun q hq => ?_)
        (fun p H => YR p (fun _ _ _ _ _ _ _ _ _ _ ypN' ypI' hY => zy_dem (V := vi') (P := P) (O := O) (L := L) (by omega) r1 (by omega) w3 (by omega) (by omega) (by omega) (by omega) (by omega) (hD _) en' r4 hA hv hf (by omega) (by omega) (by omega) ez em rfl rfl hY (fun a => by omega) (fun _ a => by rw [hp0] at a; exact absurd a (by decide)) (fun _ _ _ _ _ _ _ _ _ => H _ _ _ _ _ _ _ _ _ _ _ _ ⟨zp_start hY.1 hq256 hp0, fun i hi => ?_⟩) (fun _ => Or.inl hp0)))
      · by_cases e : i = l + 1
        · rw [e, zi_uns, zi_uns, pk_us, pk_us]; exact ⟨hz, hclz, hm, rfl, by decide⟩
        · rw [zi_unn e, zi_unn e, pk_un e]
          obtain ⟨v1, v2, v3, v4, v5⟩ := hX i (by omega)
          refine ⟨v1, v2, v3, v4, ?_⟩
          by_cases e' : px i * 32 + pj i = z * 32 + m
          · rw [e', pk_us]; decide
          · rw [pk_un e']; exact v5
      · by_cases e : q = z * 32 + m
        · rw [e, pk_us]; exact Or.inr (Or.inl rfl)
        · rw [pk_un e]; exact h012 q hq
      · by_cases e : i = l + 1
        · rw [e, zi_uns, zi_uns, pk_us, pk_us]; exact ⟨rfl, rfl⟩
        · rw [zi_unn e, zi_unn e, pk_un e, pk_un e]; exact hY.2 i (by omega)
theorem zx_forget {post : SX → Prop} (hp : ∀ ps', (∀ q, q < 256 → ps' q = 0) → post ((nI N), (nI C), (nI U), op, (nI S), 0, lv, fn, fi, K, A, Ow, O, P, L, cl, rt, en, ss, so, sp, ww, lw, vi, vv, ps', pv, pt)) : ∀ d i ps, i + d = 256 → (∀ q, q < i → ps q = 0) → wX_forgetPairs_2 post (nI N) (nI C) (nI U) op (nI S) pl lv fn fi (d + 1) (nI i) K A Ow O P L cl rt en ss so sp ww lw vi vv ps pv pt := by
  intro d
  induction d with
  | zero => intro i ps hi hz; obtain rfl : i = 256 := by omega
            exact br_t (by decide) (hp ps hz)
  | succ d ih =>
    intro i ps hi hz
    have e : (nI i).toNatClampNeg = i := nI_clamp (by omega)
    refine br_f (nI_ge (b := 256) (by omega) (by decide)) ⟨vp_in_nI (by omega) (by omega), nm_r (e' := upd ps i 0) (by rw [e]) (nm_r (nI_1 i) (ih (i + 1) _ (by omega) (fun q hq => ?_)))⟩
    by_cases eq : q = i
    · rw [eq, pk_us]
    · rw [pk_un eq]; exact hz q (by omega)
theorem zy_47 {p : Int32 → SY → Prop} {x j F : Nat} (hx : x < 8) (hj : j < 32) (hp : ∀ mo ip, (∀ q, q < 256 → mo q = 0 ∧ ip q = 0) → wY_eval_111 p F 0 (nI N) (nI C) (nI U) op (nI S) yne ysp yvsp 1 lv fn fi K A cl ds en ss yef yet yew yb ynb yv yx ysv ysi yvs mo ymv (upd ip (x * 32 + j) 1) (upd ypN 0 (nI x)) (upd ypI 0 (nI j))) :
    ∀ d i mo ip, i + d = 256 → (∀ q, q < i → mo q = 0 ∧ ip q = 0) → wY_eval_47 p (nI x) (nI j) (nI N) (nI C) (nI U) op (nI S) yne ysp yvsp ypn lv fn fi (d + 1) (nI i) K A cl ds en ss yef yet yew yb ynb yv yx ysv ysi yvs mo ymv ip ypN ypI := by
  have eq : nI x * 32 + nI j = nI (x * 32 + j) := by rw [show (32 : Int32) = nI 32 from rfl, pk_mul, nI_add]
  have e2 : (nI x * 32 + nI j).toNatClampNeg = x * 32 + j := by rw [eq]; exact nI_clamp (by omega)
  intro d
  induction d with
  | zero =>
    intro i mo ip hi hz
    obtain rfl : i = 256 := by omega
    exact br_t (by decide) (nm_e (nm_e ⟨by rw [eq]; exact vp_in_nI (by omega) (by omega), nm_r (e' := upd ip (x * 32 + j) 1) (by rw [e2, zb_1]) ⟨F, hp mo ip hz⟩⟩))
  | succ d ih =>
    intro i mo ip hi hz
    have e : (nI i).toNatClampNeg = i := nI_clamp (by omega)
    have hin : vp_in (nI i) 256 := vp_in_nI (by omega) (by omega)
    refine br_f (nI_ge (b := 256) (by omega) (by decide)) ⟨hin, nm_r (e' := upd mo i 0) (by rw [e, zb_0]) ⟨hin, nm_r (e' := upd ip i 0) (by rw [e, zb_0]) (nm_r (nI_1 i) (ih (i + 1) _ _ (by omega) (fun q hq => ?_)))⟩⟩
    by_cases eq : q = i
    · rw [eq, pk_us, pk_us]; exact ⟨rfl, rfl⟩
    · rw [pk_un eq, pk_un eq]; exact hz q (by omega)
theorem i_vc_eval {k : Nat} {u : SX} {v : SY} (I : i_Rel k u v) (hk : k + 3 ≤ 1538) (v1 : Int32) (v2 : Int32) : wpX_eval (fun r u' => wpY_eval (fun r' v' => r' = r ∧ i_Rel (k + 3) u' v') v v1 v2) u v1 v2 := by
  have J := i_up I
  obtain ⟨N, C, U, S, op, lv, fn, fi, K, A, Ow, O, P, L, cl, rt, en, ss, so, sp, ds, R, E, pl, ww, lw, vi, vv, ps, pv, pt, yne, ysp, yvsp, ypn, yef, yet, yew, yb, ynb, yv, yx, ysv, ysi, yvs, ymo, ymv, yip, ypN, ypI, rfl, rfl, hR, hD, hE, h⟩ := I
  have hb := h.1
  have hN8 : N ≤ 8 := hb.2.1
  obtain ⟨r, hr0, hX, hY⟩ := zo_obs (lv := lv) (fn := fn) (fi := fi) (pl := pl) (yne := yne) (ysp := ysp) (yvsp := yvsp) (ypn := ypn) (rt := rt) (en := en) (ss := ss) (ds := ds) (ww := ww) (lw := lw) (vi := vi) (vv := vv) (ps := ps) (pv := pv) (pt := pt) (yef := yef) (yet := yet) (yew := yew) (yb := yb) (ynb := ynb) (yv := yv) (yx := yx) (ysv := ysv) (ysi := ysi) (yvs := yvs) (ymo := ymo) (ymv := ymv) (yip := yip) (ypN := ypN) (ypI := ypI) h
  unfold wpX_eval
  refine hX _ ?_
  by_cases hr : r = 0
  · obtain ⟨hop, hc0⟩ := hr0 hr
    refine br_t hr ?_
    unfold wpX_defined
    by_cases hv : v1 < 0 ∨ nI N ≤ v1
    · refine zx_nm0 hv (br_t rfl (br_t rfl ?_))
      unfold wpY_eval
      refine hY _ (br_t hr ?_)
      by_cases h0 : v1 < 0
      · exact br_t h0 ⟨rfl, J⟩
      · exact br_f h0 (br_t (hv.resolve_left h0) ⟨rfl, J⟩)
    · obtain ⟨x, hx, rfl⟩ : ∃ j : Nat, j < N ∧ v1 = nI j := by
        rcases pk_ix v1 (n := N) (by omega) with h | h | h
        · exact absurd (Or.inl h) hv
        · exact absurd (Or.inr h) hv
        · exact h
      have hin : vp_in (nI x) 8 := vp_in_nI (by omega) (by omega)
      have ex : (nI x).toNatClampNeg = x := nI_clamp (by omega)
      have hx0 : ¬ nI x < 0 := nI_pos (by omega)
      have hxN : ¬ nI N ≤ nI x := nI_ge hx (by omega)
      refine zx_nm1 hx hN8 (br_f zn_10 ⟨hin, ?_⟩)
      by_cases hc : cl (nI x).toNatClampNeg = 0
      · refine br_t hc (br_t rfl ?_)
        unfold wpY_eval
        refine hY _ (br_t hr (br_f hx0 (br_f hxN ?_)))
        by_cases h1 : v2 < 0
        · exact br_t h1 ⟨rfl, J⟩
        · refine br_f h1 ?_
          by_cases h2 : (32 : Int32) ≤ v2
          · exact br_t h2 ⟨rfl, J⟩
          · exact br_f h2 ⟨hin, br_t hc ⟨rfl, J⟩⟩
      · refine br_f hc (br_f zn_10 ?_)
        rw [ex] at hc
        have hc1 : cl x = 1 := (h.2.1 x).resolve_left hc
        by_cases h1 : v2 < 0
        · refine br_t h1 ?_
          unfold wpY_eval
          exact hY _ (br_t hr (br_f hx0 (br_f hxN (br_t h1 ⟨rfl, J⟩))))
        · refine br_f h1 ?_
          by_cases h2 : v2 < 32
          · obtain ⟨j, hj', rfl⟩ := nI_of h1
            have hj : j < 32 := (nI_ltI (b := 32) hj' (by omega)).mp h2
            have hnc : ¬ cl (nI x).toNatClampNeg = 0 := by rw [ex]; exact hc
            have hq256 : x * 32 + j < 256 := by omega
            have h32 : ¬ (32 : Int32) ≤ nI j := nI_ge (b := 32) hj (by decide)
            have eq : nI x * 32 + nI j = nI (x * 32 + j) := by rw [show (32 : Int32) = nI 32 from rfl, pk_mul, nI_add]
            refine br_t h2 (nm_r (e' := nI (x * 32 + j)) eq ⟨_, zx_forget (fun ps' hps => zx_startp (l := 0) hq256 (by omega) ⟨2 * zp_n0 (upd ps' (x * 32 + j) 1) + (0 + 1) + 1, ?_⟩) 256 0 _ (by omega) (fun q hq => absurd hq (Nat.not_lt_zero q))⟩)
            have hn := zp_n0_start (PS := ps') hq256 (hps _ hq256)
            have hn' := zp_n0_le ps'
            refine ze_loop (Q := fun p => wpY_eval p ((nI N), (nI C), (nI U), op, (nI S), yne, ysp, yvsp, ypn, lv, fn, fi, K, A, cl, ds, en, ss, yef, yet, yew, yb, ynb, yv, yx, ysv, ysi, yvs, ymo, ymv, yip, ypN, ypI) (nI x) (nI j)) (yne := yne) (yef := yef) (yet := yet) (yew := yew) (yb := yb) (ynb := ynb) hR hD hE h hc0 _ 0 0 _ _ _ _ _ (fun _ => x) (fun _ => j) rfl (by omega) (by omega) (fun i hi => ?_) rfl rfl (fun q hq => ?_) (fun p H => ?_)
            · obtain rfl : i = 0 := by omega
              exact ⟨hx, hc1, hj, pk_us, by rw [pk_us]; decide⟩
            · by_cases e : q = x * 32 + j
              · rw [e, pk_us]; exact Or.inr (Or.inl rfl)
              · rw [pk_un e]; exact Or.inl (hps q hq)
            · show wpY_eval p _ _ _
              unfold wpY_eval
              refine hY _ (br_t hr (br_f hx0 (br_f hxN (br_f h1 (br_f h32 ⟨hin, br_f hnc ⟨_, zy_47 (by omega) hj (fun mo ip hz => H _ _ _ _ _ _ _ _ _ _ _ _ ⟨fun q hq => ?_, fun i hi => ?_⟩) 256 0 _ _ (by omega) (fun q hq => absurd hq (Nat.not_lt_zero q))⟩⟩)))))
              · by_cases e : q = x * 32 + j
                · rw [e, pk_us, pk_us]; exact Or.inr (Or.inl ⟨rfl, (hz _ hq256).1, rfl⟩)
                · rw [pk_un e, pk_un e]; exact Or.inl ⟨hps q hq, (hz q hq).1, (hz q hq).2⟩
              · obtain rfl : i = 0 := by omega
                exact ⟨pk_us, pk_us⟩
          · refine br_f h2 ?_
            unfold wpY_eval
            exact hY _ (br_t hr (br_f hx0 (br_f hxN (br_f h1 (br_t (Int32.not_lt.mp h2) ⟨rfl, J⟩)))))
  · refine br_f hr ?_
    unfold wpY_eval
    exact hY _ (br_f hr ⟨rfl, J⟩)
end Z16
end
