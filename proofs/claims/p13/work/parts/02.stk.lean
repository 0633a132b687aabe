/-! the pending slots as a list: what a walk through the cells of a definition, in prefix order, keeps on its stack -/
def zs_kids (k : Int32) (c : Nat) : List (Nat × Bool) :=
  if k = 1 ∨ k = 11 then [] else if k = 2 ∨ k = 7 then [(c, true)] else [(c, true), (c, false)]
def zs_stk (K : Nat → Int32) (r : Nat) : Nat → List (Nat × Bool)
  | 0 => [(r - 1, true)]
  | d + 1 => zs_kids (K (r + d)) (r + d) ++ (zs_stk K r d).tail
theorem zs_stk_s (K : Nat → Int32) (r d : Nat) : zs_stk K r (d + 1) = zs_kids (K (r + d)) (r + d) ++ (zs_stk K r d).tail := rfl
theorem zs_kids_c (k : Int32) (c : Nat) : zs_kids k c = [] ∨ zs_kids k c = [(c, true)] ∨ zs_kids k c = [(c, true), (c, false)] := by
  unfold zs_kids
  split
  · exact Or.inl rfl
  · split
    · exact Or.inr (Or.inl rfl)
    · exact Or.inr (Or.inr rfl)
theorem zs_kids_len (k : Int32) (c : Nat) : (zs_kids k c).length ≤ 2 := by
  rcases zs_kids_c k c with h | h | h <;> rw [h] <;> simp
theorem zs_kids_mem {k : Int32} {c : Nat} {s : Nat × Bool} (h : s ∈ zs_kids k c) : s.1 = c := by
  rcases zs_kids_c k c with e | e | e <;> rw [e] at h
  · exact absurd h (by simp)
  · rw [List.mem_singleton] at h; rw [h]
  · rcases List.mem_cons.mp h with h | h
    · rw [h]
    · rw [List.mem_singleton] at h; rw [h]
def zs_ok (r c : Nat) : List (Nat × Bool) → Prop
  | [] => True
  | h :: t => ((h.2 = true ∧ h.1 + 1 = c) ∨ (h.2 = false ∧ r ≤ h.1 ∧ h.1 + 1 < c ∧ ∀ s, s ∈ t → s.1 < h.1)) ∧
      (∀ s, s ∈ t → s.2 = false ∧ r ≤ s.1 ∧ s.1 < c) ∧ t.Pairwise (fun a b => b.1 < a.1)
theorem zs_ok_kids {r c : Nat} {k : Int32} {t : List (Nat × Bool)} (hc : r ≤ c) (h1 : ∀ s, s ∈ t → s.2 = false ∧ r ≤ s.1 ∧ s.1 < c)
    (h2 : t.Pairwise (fun a b => b.1 < a.1)) : zs_ok r (c + 1) (zs_kids k c ++ t) := by
  rcases zs_kids_c k c with e | e | e <;> rw [e]
  · rw [List.nil_append]
    cases t with
    | nil => trivial
    | cons a t =>
      rw [List.pairwise_cons] at h2
      have ha := h1 a (List.mem_cons_self ..)
      refine ⟨Or.inr ⟨ha.1, ha.2.1, by omega, h2.1⟩, fun s hs => ?_, h2.2⟩
      have hs' := h1 s (List.mem_cons_of_mem _ hs)
      exact ⟨hs'.1, hs'.2.1, by omega⟩
  · refine ⟨Or.inl ⟨rfl, rfl⟩, fun s hs => ?_, h2⟩
    have hs' := h1 s hs
    exact ⟨hs'.1, hs'.2.1, by omega⟩
  · refine ⟨Or.inl ⟨rfl, rfl⟩, fun s hs => ?_, List.pairwise_cons.mpr ⟨fun s hs => (h1 s hs).2.2, h2⟩⟩
    rcases List.mem_cons.mp hs with hs | hs
    · rw [hs]; exact ⟨rfl, hc, Nat.lt_succ_self c⟩
    · have hs' := h1 s hs
      exact ⟨hs'.1, hs'.2.1, by omega⟩
theorem zs_stk_ok (K : Nat → Int32) {r : Nat} (hr : 1 ≤ r) : ∀ d, zs_ok r (r + d) (zs_stk K r d) := by
  intro d
  induction d with
  | zero => exact ⟨Or.inl ⟨rfl, by show r - 1 + 1 = r + 0; omega⟩, fun s hs => absurd hs (by simp), List.Pairwise.nil⟩
  | succ d ih =>
    rw [zs_stk_s]
    cases e : zs_stk K r d with
    | nil => exact zs_ok_kids (Nat.le_add_right r d) (fun s hs => absurd hs (by simp)) List.Pairwise.nil
    | cons h t => rw [e] at ih; exact zs_ok_kids (Nat.le_add_right r d) ih.2.1 ih.2.2
theorem zs_stk_len (K : Nat → Int32) (r : Nat) : ∀ d, (zs_stk K r d).length ≤ d + 1 := by
  intro d
  induction d with
  | zero => exact Nat.le_refl _
  | succ d ih =>
    rw [zs_stk_s, List.length_append, List.length_tail]
    have := zs_kids_len (K (r + d)) (r + d)
    omega
theorem zs_stk_congr {K K' : Nat → Int32} {r : Nat} : ∀ d, (∀ c, r ≤ c → c < r + d → K' c = K c) → zs_stk K' r d = zs_stk K r d := by
  intro d
  induction d with
  | zero => intro _; rfl
  | succ d ih =>
    intro h
    rw [zs_stk_s, zs_stk_s, ih (fun c h1 h2 => h c h1 (by omega)), h (r + d) (by omega) (by omega)]
theorem zs_tl {K : Nat → Int32} {r d : Nat} {s : Nat × Bool} {t : List (Nat × Bool)} (e : zs_stk K r d = s :: t) : zs_stk K r (d + 1) = zs_kids (K (r + d)) (r + d) ++ t := by
  rw [zs_stk_s, e]; rfl
/-- where the head of the stack points -/
theorem zs_hd {K : Nat → Int32} {r d : Nat} {s : Nat × Bool} {t : List (Nat × Bool)} (hr : 1 ≤ r) (e : zs_stk K r d = s :: t) :
    (s.2 = true ∧ s.1 + 1 = r + d) ∨ (s.2 = false ∧ r ≤ s.1 ∧ s.1 + 1 < r + d) := by
  have h := zs_stk_ok K hr d
  rw [e] at h
  rcases h.1 with h | h
  · exact Or.inl h
  · exact Or.inr ⟨h.1, h.2.1, h.2.2.1⟩
theorem zs_mem {K : Nat → Int32} {r d : Nat} {s : Nat × Bool} (hr : 1 ≤ r) (h : s ∈ zs_stk K r d) : s.1 < r + d := by
  have ho := zs_stk_ok K hr d
  cases e : zs_stk K r d with
  | nil => rw [e] at h; exact absurd h (by simp)
  | cons a t =>
    rw [e] at h ho
    rcases List.mem_cons.mp h with h | h
    · rw [h]; rcases ho.1 with h | h <;> omega
    · exact (ho.2.1 s h).2.2
theorem zs_pop {K : Nat → Int32} {r : Nat} : ∀ m i s, s ∈ zs_stk K r i → zs_stk K r (i + m) = [] → ∃ j t, i ≤ j ∧ j < i + m ∧ zs_stk K r j = s :: t := by
  intro m
  induction m with
  | zero => intro i s h e; rw [Nat.add_zero] at e; rw [e] at h; exact absurd h (by simp)
  | succ m ih =>
    intro i s h e
    cases e2 : zs_stk K r i with
    | nil => rw [e2] at h; exact absurd h (by simp)
    | cons a t =>
      rw [e2] at h
      rcases List.mem_cons.mp h with h | h
      · exact ⟨i, t, Nat.le_refl _, by omega, by rw [h]; exact e2⟩
      · obtain ⟨j, t', h1, h2, h3⟩ := ih (i + 1) s (by rw [zs_tl e2]; exact List.mem_append_right _ h) (by rw [← e]; congr 1; omega)
        exact ⟨j, t', by omega, by omega, h3⟩
theorem zs_dead {K : Nat → Int32} {r i : Nat} {s : Nat × Bool} {t : List (Nat × Bool)} (hr : 1 ≤ r) (e : zs_stk K r i = s :: t) (hs : s.2 = false) :
    ∀ m s', s' ∈ zs_stk K r (i + 1 + m) → s'.1 ≠ s.1 := by
  have h := zs_stk_ok K hr i
  rw [e] at h
  have h1 : s.1 + 1 < r + i ∧ ∀ s', s' ∈ t → s'.1 < s.1 := by
    rcases h.1 with h | h
    · rw [hs] at h; exact absurd h.1 (by decide)
    · exact ⟨h.2.2.1, h.2.2.2⟩
  intro m
  induction m with
  | zero =>
    intro s' h'
    rw [Nat.add_zero, zs_tl e] at h'
    rcases List.mem_append.mp h' with h' | h'
    · rw [zs_kids_mem h']; omega
    · have := h1.2 s' h'; omega
  | succ m ih =>
    intro s' h'
    have e' : i + 1 + (m + 1) = (i + 1 + m) + 1 := by omega
    rw [e', zs_stk_s] at h'
    rcases List.mem_append.mp h' with h' | h'
    · rw [zs_kids_mem h']; omega
    · exact ih s' (List.mem_of_mem_tail h')
/-! an array that holds a stack: the slot above t lies at t's length -/
def zs_st (Q : Nat → Nat × Bool → Prop) : List (Nat × Bool) → Prop
  | [] => True
  | s :: t => Q t.length s ∧ zs_st Q t
theorem zs_st_mono {Q Q' : Nat → Nat × Bool → Prop} : ∀ l : List (Nat × Bool), (∀ i s, i < l.length → s ∈ l → Q i s → Q' i s) → zs_st Q l → zs_st Q' l := by
  intro l
  induction l with
  | nil => intro _ _; trivial
  | cons a t ih =>
    intro h hq
    exact ⟨h _ _ (by simp) (List.mem_cons_self ..) hq.1, ih (fun i s h1 h2 => h i s (by rw [List.length_cons]; omega) (List.mem_cons_of_mem _ h2)) hq.2⟩
def zs_at (a : Nat → Int32) : List Int32 → Prop
  | [] => True
  | x :: t => a t.length = x ∧ zs_at a t
theorem zs_at_upd {a : Nat → Int32} {k : Nat} {x : Int32} : ∀ l : List Int32, l.length ≤ k → zs_at a l → zs_at (upd a k x) l := by
  intro l
  induction l with
  | nil => intro _ _; trivial
  | cons y t ih =>
    intro h hq
    rw [List.length_cons] at h
    exact ⟨by rw [pk_un (by omega)]; exact hq.1, ih (by omega) hq.2⟩
theorem zs_at_push {a : Nat → Int32} {x : Int32} {l : List Int32} (h : zs_at a l) : zs_at (upd a l.length x) (x :: l) := ⟨pk_us, zs_at_upd l (Nat.le_refl _) h⟩
/-! what a slot asks of the cell that fills it -/
def zs_so (K O : Nat → Int32) (r : Nat) (s : Nat × Bool) : Int32 :=
  if s.1 < r then 0 else if K s.1 = 7 then O s.1 + 1 else if K s.1 = 6 ∧ s.2 = false then O s.1 - 1 else O s.1
theorem zs_so_congr {K K' O O' : Nat → Int32} {r : Nat} {s : Nat × Bool} (h : r ≤ s.1 → K' s.1 = K s.1 ∧ O' s.1 = O s.1) : zs_so K' O' r s = zs_so K O r s := by
  unfold zs_so
  by_cases hs : s.1 < r
  · rw [if_pos hs, if_pos hs]
  · obtain ⟨h1, h2⟩ := h (by omega)
    rw [if_neg hs, if_neg hs, h1, h2]
def zs_cell (K P O L : Nat → Int32) (r i : Nat) : Prop :=
  ∃ s t, zs_stk K r i = s :: t ∧ P (r + i) = nI s.1 ∧ O (r + i) = zs_so K O r s ∧ (s.2 = false → L s.1 = nI (r + i)) ∧ ∃ k, 1 ≤ k ∧ k ≤ 11 ∧ K (r + i) = nI k
def zs_def (K P O L : Nat → Int32) (r n : Nat) : Prop := ∀ i, i < n → zs_cell K P O L r i
theorem zs_def_congr {K P O L K' P' O' L' : Nat → Int32} {r n : Nat} (hr : 1 ≤ r) (h : ∀ c, r - 1 ≤ c → c < r + n → K' c = K c ∧ P' c = P c ∧ O' c = O c ∧ L' c = L c)
    (hd : zs_def K P O L r n) : zs_def K' P' O' L' r n := by
  intro i hi
  obtain ⟨s, t, e, h1, h2, h3, k, hk⟩ := hd i hi
  have hh := zs_hd hr e
  have hc := h (r + i) (by omega) (by omega)
  have hs := h s.1 (by omega) (by omega)
  refine ⟨s, t, ?_, ?_, ?_, ?_, k, hk.1, hk.2.1, ?_⟩
  · rw [← e]; exact zs_stk_congr i (fun c a b => (h c (by omega) (by omega)).1)
  · rw [hc.2.1]; exact h1
  · rw [hc.2.2.1, h2]; exact (zs_so_congr (fun _ => ⟨hs.1, hs.2.2.1⟩)).symm
  · intro hb; rw [hs.2.2.2]; exact h3 hb
  · rw [hc.1]; exact hk.2.2
/-- a token fills the slot at the head -/
theorem zs_def_step {K P O L : Nat → Int32} {r d k : Nat} {s : Nat × Bool} {t : List (Nat × Bool)} (hr : 1 ≤ r) (hk1 : 1 ≤ k) (hk : k ≤ 11) (e : zs_stk K r d = s :: t) (hd : zs_def K P O L r d) :
    zs_def (upd K (r + d) (nI k)) (upd P (r + d) (nI s.1)) (upd O (r + d) (zs_so K O r s)) (upd L s.1 (nI (r + d))) r (d + 1) := by
  intro i hi
  have hh := zs_hd hr e
  by_cases hid : i < d
  · obtain ⟨s1, t1, e1, h1, h2, h3, k1, hk1⟩ := hd i hid
    have hh1 := zs_hd hr e1
    refine ⟨s1, t1, ?_, ?_, ?_, ?_, k1, hk1.1, hk1.2.1, ?_⟩
    · rw [← e1]; exact zs_stk_congr i (fun c a b => pk_un (by omega))
    · rw [pk_un (by omega)]; exact h1
    · rw [pk_un (by omega), h2]; exact (zs_so_congr (fun _ => ⟨pk_un (by omega), pk_un (by omega)⟩)).symm
    · intro hb
      have hne := zs_dead hr e1 hb (d - (i + 1)) s (by rw [show i + 1 + (d - (i + 1)) = d by omega, e]; exact List.mem_cons_self ..)
      rw [pk_un (fun z => hne z.symm)]; exact h3 hb
    · rw [pk_un (by omega)]; exact hk1.2.2
  · obtain rfl : i = d := by omega
    refine ⟨s, t, ?_, pk_us, ?_, fun _ => pk_us, k, hk1, hk, pk_us⟩
    · rw [← e]; exact zs_stk_congr i (fun c a b => pk_un (by omega))
    · rw [pk_us]; exact (zs_so_congr (fun _ => ⟨pk_un (by omega), pk_un (by omega)⟩)).symm
theorem zs_stk_step {K : Nat → Int32} {r d : Nat} {k : Int32} {s : Nat × Bool} {t : List (Nat × Bool)} (e : zs_stk K r d = s :: t) :
    zs_stk (upd K (r + d) k) r (d + 1) = zs_kids k (r + d) ++ t := by
  have e' : zs_stk (upd K (r + d) k) r d = s :: t := by rw [← e]; exact zs_stk_congr d (fun c a b => pk_un (by omega))
  rw [zs_tl e', pk_us]
/-- offsets stay small -/
theorem zs_off {K P O L : Nat → Int32} {r n : Nat} (hr : 1 ≤ r) (hn : n ≤ 96) (hd : zs_def K P O L r n) : ∀ m i, i < m → i < n → -(i : Int) ≤ (O (r + i)).toInt ∧ (O (r + i)).toInt ≤ i := by
  intro m
  induction m with
  | zero => intro i h; omega
  | succ m ih =>
    intro i him hi
    obtain ⟨s, t, e, h1, h2, h3, k, hk⟩ := hd i hi
    have hh := zs_hd hr e
    rw [h2]
    unfold zs_so
    by_cases hs : s.1 < r
    · rw [if_pos hs, show (0 : Int32).toInt = 0 by decide]; omega
    · rw [if_neg hs]
      obtain ⟨j, hj⟩ : ∃ j, s.1 = r + j := ⟨s.1 - r, by omega⟩
      have hb := ih j (by omega) (by omega)
      rw [← hj] at hb
      have hp : (O s.1 + 1).toInt = (O s.1).toInt + 1 := by
        rw [Int32.toInt_add, show (1 : Int32).toInt = 1 by decide]; exact Int.bmod_eq_of_le (by omega) (by omega)
      have hm : (O s.1 - 1).toInt = (O s.1).toInt - 1 := by
        rw [Int32.toInt_sub, show (1 : Int32).toInt = 1 by decide]; exact Int.bmod_eq_of_le (by omega) (by omega)
      split
      · rw [hp]; omega
      · split
        · rw [hm]; omega
        · omega
