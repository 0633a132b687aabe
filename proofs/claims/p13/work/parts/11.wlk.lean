/-! walks of edges and their weights -/
def zw_E (K A O Ow cl : Nat → Int32) (U a b : Nat) (w : Int) : Prop := ∃ c, c < U ∧ K c = 11 ∧ Ow c = nI a ∧ cl a = 1 ∧ A c = nI b ∧ (O c).toInt = w ∧ a < 8 ∧ b < 8
def zw_k (E : Nat → Nat → Int → Prop) : Nat → Nat → Nat → Int → Prop
  | 0 => fun a b w => a = b ∧ w = 0
  | l + 1 => fun a b w => ∃ s w1 w2, zw_k E l a s w1 ∧ E s b w2 ∧ w = w1 + w2
theorem zw_app {E : Nat → Nat → Int → Prop} {m : Nat} {a s : Nat} {w1 : Int} (h : zw_k E m a s w1) : ∀ n b w2, zw_k E n s b w2 → zw_k E (m + n) a b (w1 + w2) := by
  intro n
  induction n with
  | zero => intro b w2 ⟨h1, h2⟩; rw [← h1, h2, Int.add_zero]; exact h
  | succ n ih =>
    intro b w2 ⟨t, v1, v2, h1, h2, h3⟩
    exact ⟨t, w1 + v1, v2, ih t v1 h1, h2, by omega⟩
theorem zw_split {E : Nat → Nat → Int → Prop} {m : Nat} : ∀ n a b w, zw_k E (m + n) a b w → ∃ s w1 w2, zw_k E m a s w1 ∧ zw_k E n s b w2 ∧ w = w1 + w2 := by
  intro n
  induction n with
  | zero => intro a b w h; exact ⟨b, w, 0, h, ⟨rfl, rfl⟩, by omega⟩
  | succ n ih =>
    intro a b w ⟨t, v1, v2, h1, h2, h3⟩
    obtain ⟨s, w1, w2, g1, g2, g3⟩ := ih a t v1 h1
    exact ⟨s, w1, w2 + v2, g1, ⟨t, w2, v2, g2, h2, rfl⟩, by omega⟩
theorem zw_seq {K A O Ow cl : Nat → Int32} {U N a : Nat} (hN : N ≤ 8) (hO : ∀ c, c < U → K c = 11 → cl (Ow c).toNatClampNeg = 1 → (Ow c).toNatClampNeg < N ∧ zg_bd 96 (O c)) (hE : ∀ x y w, zw_E K A O Ow cl U x y w → x < N ∧ y < N) (ha : a < N) :
    ∀ l b w, l ≤ 8 → zw_k (zw_E K A O Ow cl U) l a b w → b < N ∧ zg_seq K A O Ow cl U a l b ≠ -1000000 ∧ w ≤ (zg_seq K A O Ow cl U a l b).toInt := by
  intro l
  induction l with
  | zero =>
    intro b w _ ⟨h1, h2⟩
    subst h1
    have e : zg_seq K A O Ow cl U a 0 a = 0 := if_pos rfl
    rw [e, h2]
    exact ⟨ha, by decide, by decide⟩
  | succ l ih =>
    intro b w hl ⟨s, w1, w2, h1, h2, h3⟩
    obtain ⟨g1, g2, g3⟩ := ih s w1 (by omega) h1
    have hb := (hE s b w2 h2).2
    obtain ⟨c, c1, c2, c3, c4, c5, c6⟩ := h2
    have es : (Ow c).toNatClampNeg = s := by rw [c3]; exact nI_clamp (by omega)
    have eb : (A c).toNatClampNeg = b := by rw [c5]; exact nI_clamp (by omega)
    obtain ⟨_, ho⟩ := hO c c1 c2 (by rw [es]; exact c4)
    have hbd := (zg_seq_bd (A := A) (a := a) (N := N) hO l (by omega) s g1).resolve_left g2
    have hmx := (zg_len_mx K A O Ow cl (zg_seq K A O Ow cl U a l) N U b hb).1 (zg_seq K A O Ow cl U a l s + O c) ⟨c, c1, c2, by rw [es]; exact c4, eb, by rw [es]; exact g2, by rw [es]⟩
    have hsum : (zg_seq K A O Ow cl U a l s + O c).toInt = (zg_seq K A O Ow cl U a l s).toInt + (O c).toInt := by
      rw [Int32.toInt_add]
      have h1 := hbd.1; have h2 := hbd.2; have h3 := ho.1; have h4 := ho.2
      exact Int.bmod_eq_of_le (by omega) (by omega)
    have hgt := zg_bd_gt (B := 96 * l + 96) (by omega) (zg_bd_add (by omega) hbd ho)
    refine ⟨hb, fun z => ?_, ?_⟩
    · have z' : zg_len K A O Ow cl (zg_seq K A O Ow cl U a l) U b = -1000000 := z
      rw [z'] at hmx
      exact absurd (Int32.lt_of_lt_of_le hgt hmx) (Int32.lt_irrefl)
    · have h5 := Int32.le_iff_toInt_le.mp hmx
      rw [hsum] at h5
      show w ≤ (zg_len K A O Ow cl (zg_seq K A O Ow cl U a l) U b).toInt
      omega
theorem zw_g {K A O Ow cl : Nat → Int32} {U a b : Nat} : ∀ n l, 1 ≤ l → l ≤ n → zg_seq K A O Ow cl U a l b ≤ zg_g K A O Ow cl U a b n := by
  intro n
  induction n with
  | zero => intro l h1 h2; omega
  | succ n ih =>
    intro l h1 h2
    show _ ≤ (if zg_g K A O Ow cl U a b n < zg_seq K A O Ow cl U a (n + 1) b then zg_seq K A O Ow cl U a (n + 1) b else zg_g K A O Ow cl U a b n)
    by_cases e : l = n + 1
    · subst e
      split
      · exact Int32.le_refl _
      · rename_i h; exact Int32.not_lt.mp h
    · have := ih l h1 (by omega)
      split
      · rename_i h; exact Int32.le_trans this (Int32.le_of_lt h)
      · exact this
/-- two names: every closed walk has a weight below 0, if those of one and of two edges have -/
theorem zw_neg {E : Nat → Nat → Int → Prop} (hE : ∀ x y w, E x y w → x < 2 ∧ y < 2) (h12 : ∀ l a w, 1 ≤ l → l ≤ 2 → a < 2 → zw_k E l a a w → w < 0) : ∀ m l, l ≤ m → 1 ≤ l → ∀ a w, a < 2 → zw_k E l a a w → w < 0 := by
  have hend : ∀ l a b w, 1 ≤ l → zw_k E l a b w → b < 2 := by
    intro l a b w hl h
    cases l with
    | zero => omega
    | succ l => obtain ⟨s, w1, w2, _, h2, _⟩ := h; exact (hE s b w2 h2).2
  intro m
  induction m with
  | zero => intro l h1 h2; omega
  | succ m ih =>
    intro l hlm hl a w ha h
    by_cases h3 : l ≤ 2
    · exact h12 l a w hl h3 ha h
    · obtain ⟨n, rfl⟩ : ∃ n, l = 1 + (1 + (n + 1)) := ⟨l - 3, by omega⟩
      obtain ⟨s1, w1, v1, g1, g2, g3⟩ := zw_split (m := 1) (1 + (n + 1)) a a w h
      obtain ⟨s2, w2, w3, g4, g5, g6⟩ := zw_split (m := 1) (n + 1) s1 a v1 g2
      have hs1 := hend 1 a s1 w1 (by omega) g1
      have hs2 := hend 1 s1 s2 w2 (by omega) g4
      by_cases e1 : s1 = a
      · rw [e1] at g1 g2
        have x1 := h12 1 a w1 (by omega) (by omega) ha g1
        have x2 := ih (1 + (n + 1)) (by omega) (by omega) a v1 ha g2
        omega
      · by_cases e2 : s2 = a
        · rw [e2] at g4 g5
          have x1 := h12 2 a (w1 + w2) (by omega) (by omega) ha (zw_app g1 1 a w2 g4)
          have x2 := ih (n + 1) (by omega) (by omega) a w3 ha g5
          omega
        · have e3 : s2 = s1 := by omega
          rw [e3] at g4 g5
          have x1 := h12 1 s1 w2 (by omega) (by omega) hs1 g4
          have x2 := ih (1 + (n + 1)) (by omega) (by omega) a (w1 + w3) ha (zw_app g1 (n + 1) a w3 g5)
          omega
theorem zw_path {E : Nat → Nat → Int → Prop} {px pj : Nat → Nat} : ∀ d i, (∀ k, i ≤ k → k < i + d → E (px k) (px (k + 1)) ((pj (k + 1) : Int) - pj k)) → zw_k E d (px i) (px (i + d)) ((pj (i + d) : Int) - pj i) := by
  intro d
  induction d with
  | zero => intro i _; exact ⟨rfl, by rw [Nat.add_zero]; omega⟩
  | succ d ih =>
    intro i h
    exact ⟨px (i + d), _, _, ih i (fun k a b => h k a (by omega)), h (i + d) (by omega) (by omega), by rw [show i + (d + 1) = i + d + 1 by omega]; omega⟩
