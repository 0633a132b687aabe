/-! greatest weights: L t is the greatest of the candidates w with E t w, or NONE -/
def zg_mx (E : Nat → Int32 → Prop) (N : Nat) (L : Nat → Int32) : Prop := ∀ t, t < N → (∀ w, E t w → w ≤ L t) ∧ (L t = -1000000 ∨ E t (L t))
theorem zg_mx_un {E : Nat → Int32 → Prop} {N : Nat} {L L' : Nat → Int32} (hE : ∀ t w, t < N → E t w → (-1000000 : Int32) < w) (h : zg_mx E N L) (h' : zg_mx E N L') : ∀ t, t < N → L t = L' t := by
  intro t ht
  obtain ⟨a1, a2⟩ := h t ht
  obtain ⟨b1, b2⟩ := h' t ht
  rcases a2 with a2 | a2
  · rcases b2 with b2 | b2
    · rw [a2, b2]
    · have h1 := a1 _ b2
      have h2 := hE t _ ht b2
      rw [a2] at h1
      exact absurd (Int32.lt_of_lt_of_le h2 h1) (Int32.lt_irrefl)
  · rcases b2 with b2 | b2
    · have h1 := b1 _ a2
      have h2 := hE t _ ht a2
      rw [b2] at h1
      exact absurd (Int32.lt_of_lt_of_le h2 h1) (Int32.lt_irrefl)
    · exact Int32.le_antisymm (b1 _ a2) (a1 _ b2)
theorem zg_mx_iff {E E' : Nat → Int32 → Prop} {N : Nat} {L : Nat → Int32} (hE : ∀ t w, t < N → (E t w ↔ E' t w)) (h : zg_mx E N L) : zg_mx E' N L := by
  intro t ht
  obtain ⟨a1, a2⟩ := h t ht
  exact ⟨fun w hw => a1 w ((hE t w ht).mpr hw), a2.imp id (fun z => (hE t _ ht).mp z)⟩
theorem zg_mx_0 {E : Nat → Int32 → Prop} {N : Nat} {L : Nat → Int32} (hE : ∀ t w, t < N → ¬ E t w) (h : ∀ t, t < N → L t = -1000000) : zg_mx E N L :=
  fun t ht => ⟨fun w hw => absurd hw (hE t w ht), Or.inl (h t ht)⟩
/-- one more candidate, w0 into t0: taken -/
theorem zg_mx_t {E : Nat → Int32 → Prop} {N t0 : Nat} {L : Nat → Int32} {w0 : Int32} (h : zg_mx E N L) (hw : L t0 < w0) : zg_mx (fun t w => E t w ∨ (t = t0 ∧ w = w0)) N (upd L t0 w0) := by
  intro t ht
  obtain ⟨a1, a2⟩ := h t ht
  by_cases e : t = t0
  · subst e
    rw [pk_us]
    refine ⟨fun w hw' => ?_, Or.inr (Or.inr ⟨rfl, rfl⟩)⟩
    rcases hw' with hw' | hw'
    · exact Int32.le_trans (a1 w hw') (Int32.le_of_lt hw)
    · rw [hw'.2]; exact Int32.le_refl _
  · rw [pk_un e]
    refine ⟨fun w hw' => ?_, a2.imp id Or.inl⟩
    rcases hw' with hw' | hw'
    · exact a1 w hw'
    · exact absurd hw'.1 e
/-- .. and not taken -/
theorem zg_mx_n {E : Nat → Int32 → Prop} {N t0 : Nat} {L : Nat → Int32} {w0 : Int32} (h : zg_mx E N L) (hw : ¬ L t0 < w0) : zg_mx (fun t w => E t w ∨ (t = t0 ∧ w = w0)) N L := by
  intro t ht
  obtain ⟨a1, a2⟩ := h t ht
  refine ⟨fun w hw' => ?_, a2.imp id Or.inl⟩
  rcases hw' with hw' | hw'
  · exact a1 w hw'
  · rw [hw'.1, hw'.2]; exact Int32.not_lt.mp hw
/-! bounds of weights -/
def zg_bd (B : Nat) (x : Int32) : Prop := -(B : Int) ≤ x.toInt ∧ x.toInt ≤ B
theorem zg_bd_gt {B : Nat} {x : Int32} (hB : B < 1000000) (h : zg_bd B x) : (-1000000 : Int32) < x := by
  rw [Int32.lt_iff_toInt_lt, show (-1000000 : Int32).toInt = -1000000 by decide]
  have := h.1
  omega
theorem zg_bd_ne {B : Nat} {x : Int32} (hB : B < 1000000) (h : zg_bd B x) : x ≠ -1000000 := by
  intro e
  have := zg_bd_gt hB h
  rw [e] at this
  exact absurd this (by decide)
theorem zg_bd_add {B C : Nat} {x y : Int32} (hB : B + C < 1000000) (h : zg_bd B x) (h' : zg_bd C y) : zg_bd (B + C) (x + y) := by
  have e : (x + y).toInt = x.toInt + y.toInt := by
    rw [Int32.toInt_add]
    have h1 := h.1; have h2 := h.2; have h3 := h'.1; have h4 := h'.2
    exact Int.bmod_eq_of_le (by omega) (by omega)
  unfold zg_bd
  rw [e]
  have h1 := h.1; have h2 := h.2; have h3 := h'.1; have h4 := h'.2
  omega
/-! counting -/
def zg_cn (p : Nat → Bool) : Nat → Nat
  | 0 => 0
  | n + 1 => zg_cn p n + (if p n = true then 1 else 0)
theorem zg_cn_le (p : Nat → Bool) : ∀ n, zg_cn p n ≤ n := by
  intro n
  induction n with
  | zero => exact Nat.le_refl _
  | succ n ih => show zg_cn p n + (if p n = true then 1 else 0) ≤ n + 1; split <;> omega
theorem zg_cn_add {p q : Nat → Bool} {a b : Nat} (h : ∀ c, p c = true → q c = true) (hq : ∀ c, a ≤ c → c < b → q c = true ∧ p c = false) : ∀ n, b ≤ n → a ≤ b → zg_cn p n + (b - a) ≤ zg_cn q n := by
  have main : ∀ n, zg_cn p n + ((if n < b then n else b) - a) ≤ zg_cn q n := by
    intro n
    induction n with
    | zero => show 0 + ((if 0 < b then 0 else b) - a) ≤ 0; split <;> omega
    | succ n ih =>
      show zg_cn p n + (if p n = true then 1 else 0) + _ ≤ zg_cn q n + (if q n = true then 1 else 0)
      by_cases hp : p n = true
      · rw [if_pos hp, if_pos (h n hp)]
        by_cases h1 : n + 1 < b
        · rw [if_pos h1]; rw [if_pos (by omega : n < b)] at ih
          have : ¬ a ≤ n := fun z => by have := (hq n z (by omega)).2; rw [hp] at this; exact absurd this (by decide)
          omega
        · rw [if_neg h1]
          by_cases h2 : n < b
          · rw [if_pos h2] at ih
            have : ¬ a ≤ n := fun z => by have := (hq n z (by omega)).2; rw [hp] at this; exact absurd this (by decide)
            omega
          · rw [if_neg h2] at ih; omega
      · rw [if_neg hp]
        by_cases h2 : n < b
        · rw [if_pos h2] at ih
          by_cases h3 : a ≤ n
          · rw [if_pos (hq n h3 h2).1]; split <;> omega
          · split <;> split <;> omega
        · rw [if_neg h2] at ih; rw [if_neg (by omega : ¬ n + 1 < b)]; omega
  intro n hb _
  have := main n
  rw [if_neg (by omega : ¬ n < b)] at this
  exact this
/-- pairs whose state is 0 -/
theorem zg_cn_upd {p q : Nat → Bool} {k : Nat} (hp : p k = true) (hq : q k = false) (h : ∀ j, j ≠ k → q j = p j) : ∀ n, k < n → zg_cn q n + 1 = zg_cn p n := by
  have low : ∀ n, n ≤ k → zg_cn q n = zg_cn p n := by
    intro n
    induction n with
    | zero => intro _; rfl
    | succ n ih => intro hn; show zg_cn q n + _ = zg_cn p n + _; rw [ih (by omega), h n (by omega)]
  intro n
  induction n with
  | zero => intro hk; omega
  | succ n ih =>
    intro hk
    show zg_cn q n + (if q n = true then 1 else 0) + 1 = zg_cn p n + (if p n = true then 1 else 0)
    by_cases e : n = k
    · subst e; rw [low n (Nat.le_refl _), hq, hp]; rfl
    · rw [h n e, ← ih (by omega)]; omega
theorem zg_cn_eq {p q : Nat → Bool} (h : ∀ j, q j = p j) : ∀ n, zg_cn q n = zg_cn p n := by
  intro n
  induction n with
  | zero => rfl
  | succ n ih => show zg_cn q n + _ = zg_cn p n + _; rw [ih, h n]
theorem zg_cn_pos {p : Nat → Bool} {k : Nat} (hp : p k = true) : ∀ n, k < n → 1 ≤ zg_cn p n := by
  intro n
  induction n with
  | zero => intro h; omega
  | succ n ih =>
    intro h
    show 1 ≤ zg_cn p n + (if p n = true then 1 else 0)
    by_cases e : n = k
    · subst e; rw [if_pos hp]; omega
    · have := ih (by omega); omega
/-! walks of ever more edges, as the class goes through the cells -/
def zg_fe (K A O Ow cl W : Nat → Int32) (L : Nat → Int32) (c : Nat) : Nat → Int32 :=
  if K c = 11 ∧ cl (Ow c).toNatClampNeg = 1 then
    (if W (Ow c).toNatClampNeg = -1000000 then L else
      if L (A c).toNatClampNeg < W (Ow c).toNatClampNeg + O c then upd L (A c).toNatClampNeg (W (Ow c).toNatClampNeg + O c) else L)
  else L
def zg_len (K A O Ow cl W : Nat → Int32) : Nat → Nat → Int32
  | 0 => fun _ => -1000000
  | c + 1 => zg_fe K A O Ow cl W (zg_len K A O Ow cl W c) c
def zg_seq (K A O Ow cl : Nat → Int32) (U a : Nat) : Nat → Nat → Int32
  | 0 => fun t => if t = a then 0 else -1000000
  | l + 1 => zg_len K A O Ow cl (zg_seq K A O Ow cl U a l) U
def zg_g (K A O Ow cl : Nat → Int32) (U a b : Nat) : Nat → Int32
  | 0 => -1000000
  | l + 1 => if zg_g K A O Ow cl U a b l < zg_seq K A O Ow cl U a (l + 1) b then zg_seq K A O Ow cl U a (l + 1) b else zg_g K A O Ow cl U a b l
def zg_E (K A O Ow cl W : Nat → Int32) (n : Nat) (t : Nat) (w : Int32) : Prop :=
  ∃ c, c < n ∧ K c = 11 ∧ cl (Ow c).toNatClampNeg = 1 ∧ (A c).toNatClampNeg = t ∧ W (Ow c).toNatClampNeg ≠ -1000000 ∧ w = W (Ow c).toNatClampNeg + O c
theorem zg_len_mx (K A O Ow cl W : Nat → Int32) (N : Nat) : ∀ n, zg_mx (zg_E K A O Ow cl W n) N (zg_len K A O Ow cl W n) := by
  intro n
  induction n with
  | zero => exact zg_mx_0 (fun t w _ => fun ⟨c, h, _⟩ => absurd h (Nat.not_lt_zero c)) (fun t _ => rfl)
  | succ n ih =>
    have same : (¬ (K n = 11 ∧ cl (Ow n).toNatClampNeg = 1 ∧ W (Ow n).toNatClampNeg ≠ -1000000)) → zg_mx (zg_E K A O Ow cl W (n + 1)) N (zg_len K A O Ow cl W n) := by
      intro hne
      refine zg_mx_iff (fun t w _ => ⟨fun ⟨c, h, z⟩ => ⟨c, by omega, z⟩, fun ⟨c, h, z⟩ => ⟨c, ?_, z⟩⟩) ih
      by_cases e : c = n
      · subst e; exact absurd ⟨z.1, z.2.1, z.2.2.2.1⟩ hne
      · omega
    have more : K n = 11 → cl (Ow n).toNatClampNeg = 1 → W (Ow n).toNatClampNeg ≠ -1000000 → ∀ t w, (zg_E K A O Ow cl W n t w ∨ (t = (A n).toNatClampNeg ∧ w = W (Ow n).toNatClampNeg + O n)) ↔ zg_E K A O Ow cl W (n + 1) t w := by
      intro h1 h2 h3 t w
      constructor
      · intro h
        rcases h with ⟨c, h, z⟩ | ⟨h, h'⟩
        · exact ⟨c, by omega, z⟩
        · exact ⟨n, by omega, h1, h2, h.symm, h3, h'⟩
      · intro ⟨c, h, z⟩
        by_cases e : c = n
        · subst e; exact Or.inr ⟨z.2.2.1.symm, z.2.2.2.2⟩
        · exact Or.inl ⟨c, by omega, z⟩
    show zg_mx _ N (zg_fe K A O Ow cl W (zg_len K A O Ow cl W n) n)
    unfold zg_fe
    by_cases h1 : K n = 11 ∧ cl (Ow n).toNatClampNeg = 1
    · rw [if_pos h1]
      by_cases h2 : W (Ow n).toNatClampNeg = -1000000
      · rw [if_pos h2]; exact same (fun z => z.2.2 h2)
      · rw [if_neg h2]
        by_cases h3 : zg_len K A O Ow cl W n (A n).toNatClampNeg < W (Ow n).toNatClampNeg + O n
        · rw [if_pos h3]; exact zg_mx_iff (fun t w _ => more h1.1 h1.2 h2 t w) (zg_mx_t ih h3)
        · rw [if_neg h3]; exact zg_mx_iff (fun t w _ => more h1.1 h1.2 h2 t w) (zg_mx_n ih h3)
    · rw [if_neg h1]; exact same (fun z => h1 ⟨z.1, z.2.1⟩)
/-- weights stay small: the owners are names, the offsets within 96 -/
theorem zg_seq_bd {K A O Ow cl : Nat → Int32} {U N a : Nat} (hO : ∀ c, c < U → K c = 11 → cl (Ow c).toNatClampNeg = 1 → (Ow c).toNatClampNeg < N ∧ zg_bd 96 (O c)) :
    ∀ l, l ≤ 8 → ∀ t, t < N → zg_seq K A O Ow cl U a l t = -1000000 ∨ zg_bd (96 * l) (zg_seq K A O Ow cl U a l t) := by
  intro l
  induction l with
  | zero =>
    intro _ t _
    show (if t = a then (0 : Int32) else -1000000) = _ ∨ zg_bd 0 (if t = a then (0 : Int32) else -1000000)
    split
    · exact Or.inr (by unfold zg_bd; decide)
    · exact Or.inl rfl
  | succ l ih =>
    intro hl t ht
    have h := zg_len_mx K A O Ow cl (zg_seq K A O Ow cl U a l) N U t ht
    rcases h.2 with h | ⟨c, hc, h1, h2, h3, h4, h5⟩
    · exact Or.inl h
    · refine Or.inr ?_
      show zg_bd _ (zg_len K A O Ow cl (zg_seq K A O Ow cl U a l) U t)
      rw [h5]
      obtain ⟨hw, ho⟩ := hO c hc h1 h2
      have hb := (ih (by omega) _ hw).resolve_left h4
      have := zg_bd_add (by omega) hb ho
      rw [show 96 * (l + 1) = 96 * l + 96 by omega]
      exact this
