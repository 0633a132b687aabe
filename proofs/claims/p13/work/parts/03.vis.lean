/-! which cells a walk visits, and at which index; -1: not visited -/
def zs_sv (K V : Nat → Int32) (r : Nat) (j : Int32) (s : Nat × Bool) : Int32 :=
  if s.1 < r then j else if V s.1 = -1 then -1 else if K s.1 = 2 then 0 else if K s.1 = 7 then V s.1 + 1 else
  if K s.1 = 6 then (if s.2 = true then (if V s.1 = 0 then 0 else -1) else (if V s.1 = 0 then -1 else V s.1 - 1)) else V s.1
theorem zs_sv_congr {K V V' : Nat → Int32} {r : Nat} {j : Int32} {s : Nat × Bool} (h : r ≤ s.1 → V' s.1 = V s.1) : zs_sv K V' r j s = zs_sv K V r j s := by
  unfold zs_sv
  by_cases hs : s.1 < r
  · rw [if_pos hs, if_pos hs]
  · rw [if_neg hs, if_neg hs, h (by omega)]
def zs_vis (K V : Nat → Int32) (r : Nat) (j : Int32) (n : Nat) : Prop := ∀ i, i < n → ∀ s t, zs_stk K r i = s :: t → V (r + i) = zs_sv K V r j s
theorem zs_vis_step {K V : Nat → Int32} {r : Nat} {j : Int32} {n : Nat} {s : Nat × Bool} {t : List (Nat × Bool)} (hr : 1 ≤ r) (e : zs_stk K r n = s :: t) (h : zs_vis K V r j n) :
    zs_vis K (upd V (r + n) (zs_sv K V r j s)) r j (n + 1) := by
  intro i hi s1 t1 e1
  have h1 := zs_hd hr e1
  rw [zs_sv_congr (V := V) (fun _ => pk_un (by omega))]
  by_cases hin : i < n
  · rw [pk_un (by omega)]; exact h i hin s1 t1 e1
  · obtain rfl : i = n := by omega
    rw [e] at e1
    rw [pk_us, (List.cons.inj e1).1]
def zs_rg (M : Nat) (x : Int32) : Prop := x = -1 ∨ ∃ m : Nat, m ≤ M ∧ x = nI m
theorem zs_sv_rg {K V : Nat → Int32} {r M : Nat} {j : Int32} {s : Nat × Bool} (hM : M < 2 ^ 30) (hj : zs_rg M j) (h : r ≤ s.1 → zs_rg M (V s.1)) : zs_rg (M + 1) (zs_sv K V r j s) := by
  have up : ∀ x, zs_rg M x → zs_rg (M + 1) x := by
    intro x hx
    rcases hx with hx | ⟨m, h1, h2⟩
    · exact Or.inl hx
    · exact Or.inr ⟨m, by omega, h2⟩
  have z : zs_rg (M + 1) 0 := Or.inr ⟨0, by omega, rfl⟩
  unfold zs_sv
  by_cases hs : s.1 < r
  · rw [if_pos hs]; exact up _ hj
  · rw [if_neg hs]
    have hv := h (by omega)
    by_cases h1 : V s.1 = -1
    · rw [if_pos h1]; exact Or.inl rfl
    · rw [if_neg h1]
      obtain ⟨m, hm, em⟩ := hv.resolve_left h1
      by_cases h2 : K s.1 = 2
      · rw [if_pos h2]; exact z
      · rw [if_neg h2]
        by_cases h7 : K s.1 = 7
        · rw [if_pos h7, em, nI_1]; exact Or.inr ⟨m + 1, by omega, rfl⟩
        · rw [if_neg h7]
          by_cases h6 : K s.1 = 6
          · rw [if_pos h6]
            by_cases hb : s.2 = true
            · rw [if_pos hb]; split
              · exact z
              · exact Or.inl rfl
            · rw [if_neg hb]
              by_cases h0 : V s.1 = 0
              · rw [if_pos h0]; exact Or.inl rfl
              · rw [if_neg h0, em]
                have hm0 : 0 < m := by
                  rcases Nat.eq_zero_or_pos m with hz | hz
                  · rw [hz] at em; exact absurd em h0
                  · exact hz
                rw [zn_s hm0]; exact Or.inr ⟨m - 1, by omega, rfl⟩
          · rw [if_neg h6]; exact up _ hv
theorem zs_vis_rg {K V : Nat → Int32} {r j n : Nat} (hr : 1 ≤ r) (hn : n ≤ 96) (hj : j < 32) (hne : ∀ i, i < n → ∃ s t, zs_stk K r i = s :: t) (h : zs_vis K V r (nI j) n) :
    ∀ m i, i < m → i < n → zs_rg (32 + i) (V (r + i)) := by
  intro m
  induction m with
  | zero => intro i h; omega
  | succ m ih =>
    intro i him hi
    obtain ⟨s, t, e⟩ := hne i hi
    have hh := zs_hd hr e
    rw [h i hi s t e]
    rcases Nat.eq_zero_or_pos i with hz | hz
    · subst hz
      have hs : s.1 < r := by omega
      unfold zs_sv
      rw [if_pos hs]; exact Or.inr ⟨j, by omega, rfl⟩
    · have h2 : zs_rg (32 + (i - 1) + 1) (zs_sv K V r (nI j) s) := by
        refine zs_sv_rg (by omega) (Or.inr ⟨j, by omega, rfl⟩) (fun hs => ?_)
        obtain ⟨q, hq⟩ : ∃ q, s.1 = r + q := ⟨s.1 - r, by omega⟩
        rw [hq]
        rcases ih q (by omega) (by omega) with h | ⟨m', h1, h2⟩
        · exact Or.inl h
        · exact Or.inr ⟨m', by omega, h2⟩
      rw [show 32 + i = 32 + (i - 1) + 1 by omega]; exact h2
/-! the first cell of which D holds, or -1 -/
def zs_first (D : Nat → Prop) (lo hi : Nat) (x : Int32) : Prop :=
  (x = -1 ∧ ∀ c, lo ≤ c → c < hi → ¬ D c) ∨ (∃ c, lo ≤ c ∧ c < hi ∧ D c ∧ (∀ c', lo ≤ c' → c' < c → ¬ D c') ∧ x = nI c)
/-! values, from the last cell to the first -/
def zs_val (K A V L PV VV : Nat → Int32) (c : Nat) : Int32 :=
  if K c = 1 then A c else if K c = 11 then PV (A c * 32 + V c).toNatClampNeg else if K c = 2 ∨ K c = 7 then VV (c + 1) else
  if K c = 6 then (if V c = 0 then VV (c + 1) else VV (L c).toNatClampNeg) else
  if K c = 3 ∨ K c = 8 then VV (c + 1) + VV (L c).toNatClampNeg else
  if K c = 4 ∨ K c = 9 then VV (c + 1) - VV (L c).toNatClampNeg else VV (c + 1) * VV (L c).toNatClampNeg
def zs_vals (K A V L PV VV : Nat → Int32) (lo hi : Nat) : Prop := ∀ c, lo ≤ c → c < hi → V c ≠ -1 → VV c = zs_val K A V L PV VV c
theorem zs_val_congr {K A V L PV VV VV' : Nat → Int32} {c : Nat} (h1 : ¬ (K c = 1 ∨ K c = 11) → VV' (c + 1) = VV (c + 1))
    (h2 : ¬ (K c = 1 ∨ K c = 11) → ¬ (K c = 2 ∨ K c = 7) → VV' (L c).toNatClampNeg = VV (L c).toNatClampNeg) : zs_val K A V L PV VV' c = zs_val K A V L PV VV c := by
  unfold zs_val
  by_cases a1 : K c = 1
  · rw [if_pos a1, if_pos a1]
  · by_cases a2 : K c = 11
    · rw [if_neg a1, if_neg a1, if_pos a2, if_pos a2]
    · have hn : ¬ (K c = 1 ∨ K c = 11) := fun z => z.elim a1 a2
      by_cases a3 : K c = 2 ∨ K c = 7
      · rw [if_neg a1, if_neg a1, if_neg a2, if_neg a2, if_pos a3, if_pos a3, h1 hn]
      · rw [if_neg a1, if_neg a1, if_neg a2, if_neg a2, if_neg a3, if_neg a3, h1 hn, h2 hn a3]
/-- the cell that fills a slot -/
def zs_ch (L : Nat → Int32) (s : Nat × Bool) : Nat := if s.2 = true then s.1 + 1 else (L s.1).toNatClampNeg
theorem zs_ch_hd {K P O L : Nat → Int32} {r n i : Nat} {s : Nat × Bool} {t : List (Nat × Bool)} (hr : 1 ≤ r) (hn : r + n ≤ 96) (hd : zs_def K P O L r n) (hi : i < n) (e : zs_stk K r i = s :: t) : zs_ch L s = r + i := by
  have hh := zs_hd hr e
  obtain ⟨s1, t1, e1, _, _, h3, _⟩ := hd i hi
  rw [e] at e1
  have es := (List.cons.inj e1).1
  subst es
  unfold zs_ch
  rcases hh with ⟨hb, hh⟩ | ⟨hb, hh⟩
  · rw [if_pos hb]; exact hh
  · rw [if_neg (by rw [hb]; decide), h3 hb, nI_clamp (by omega)]
/-- where the children of a cell lie -/
theorem zs_kid1 {K P O L : Nat → Int32} {r n i : Nat} (hd : zs_def K P O L r n) (hi : i < n) (he : zs_stk K r n = []) (hk : ¬ (K (r + i) = 1 ∨ K (r + i) = 11)) : i + 1 < n := by
  obtain ⟨s, t, e, _⟩ := hd i hi
  by_cases h : i + 1 < n
  · exact h
  · obtain rfl : n = i + 1 := by omega
    rw [zs_tl e] at he
    unfold zs_kids at he
    rw [if_neg hk] at he
    split at he <;> exact absurd he (by simp)
theorem zs_kid2 {K P O L : Nat → Int32} {r n i : Nat} (hd : zs_def K P O L r n) (hi : i < n) (he : zs_stk K r n = []) (hk : ¬ (K (r + i) = 1 ∨ K (r + i) = 11)) (hk2 : ¬ (K (r + i) = 2 ∨ K (r + i) = 7)) :
    ∃ q, i < q ∧ q < n ∧ L (r + i) = nI (r + q) := by
  obtain ⟨s, t, e, _⟩ := hd i hi
  have hm : (r + i, false) ∈ zs_stk K r (i + 1) := by
    rw [zs_tl e]; unfold zs_kids; rw [if_neg hk, if_neg hk2]; simp
  obtain ⟨q, t', h1, h2, h3⟩ := zs_pop (n - (i + 1)) (i + 1) _ hm (by rw [show i + 1 + (n - (i + 1)) = n by omega]; exact he)
  obtain ⟨s1, t1, e1, _, _, h5, _⟩ := hd q (by omega)
  rw [h3] at e1
  have es := (List.cons.inj e1).1
  subst es
  exact ⟨q, by omega, by omega, h5 rfl⟩
/-! the reference's stack of values while it goes back -/
def zs_vl (sv : Nat × Bool → Int32) (VV L : Nat → Int32) : List (Nat × Bool) → List Int32
  | [] => []
  | s :: t => if sv s = -1 then zs_vl sv VV L t else VV (zs_ch L s) :: zs_vl sv VV L t
theorem zs_vl_t {sv : Nat × Bool → Int32} {VV L : Nat → Int32} {s : Nat × Bool} {t : List (Nat × Bool)} (h : sv s ≠ -1) : zs_vl sv VV L (s :: t) = VV (zs_ch L s) :: zs_vl sv VV L t := if_neg h
theorem zs_vl_f {sv : Nat × Bool → Int32} {VV L : Nat → Int32} {s : Nat × Bool} {t : List (Nat × Bool)} (h : sv s = -1) : zs_vl sv VV L (s :: t) = zs_vl sv VV L t := if_pos h
theorem zs_vl_len {sv : Nat × Bool → Int32} {VV L : Nat → Int32} : ∀ l : List (Nat × Bool), (zs_vl sv VV L l).length ≤ l.length := by
  intro l
  induction l with
  | nil => exact Nat.le_refl _
  | cons a t ih =>
    by_cases h : sv a = -1
    · rw [zs_vl_f h, List.length_cons]; omega
    · rw [zs_vl_t h, List.length_cons, List.length_cons]; omega
theorem zs_sv_kid {K V : Nat → Int32} {r c : Nat} {j : Int32} {b : Bool} (hc : r ≤ c) (hv : V c = -1) : zs_sv K V r j (c, b) = -1 := by
  unfold zs_sv
  rw [if_neg (by show ¬ c < r; omega), if_pos hv]
theorem zs_vl_un {K V VV L : Nat → Int32} {r i : Nat} {j : Int32} {s : Nat × Bool} {t : List (Nat × Bool)} (e : zs_stk K r i = s :: t) (hv : V (r + i) = zs_sv K V r j s) (h : V (r + i) = -1) :
    zs_vl (zs_sv K V r j) VV L (zs_stk K r (i + 1)) = zs_vl (zs_sv K V r j) VV L (zs_stk K r i) := by
  rw [zs_tl e, e, zs_vl_f (by rw [← hv]; exact h)]
  rcases zs_kids_c (K (r + i)) (r + i) with h1 | h1 | h1 <;> rw [h1]
  · rfl
  · exact zs_vl_f (zs_sv_kid (by omega) h)
  · exact (zs_vl_f (zs_sv_kid (by omega) h)).trans (zs_vl_f (zs_sv_kid (by omega) h))
/-- what the values' stack is behind a visited cell, by its kind -/
theorem zs_vl_vis {K P O A V PV VV L : Nat → Int32} {r n i j : Nat} {s : Nat × Bool} {t : List (Nat × Bool)} (hr : 1 ≤ r) (hn : r + n ≤ 96) (hj : j < 32) (hd : zs_def K P O L r n) (he : zs_stk K r n = [])
    (hi : i < n) (e : zs_stk K r i = s :: t) (hvis : zs_vis K V r (nI j) n) (hvv : zs_vals K A V L PV VV r (r + n)) (h : V (r + i) ≠ -1) :
    ∃ tl, zs_vl (zs_sv K V r (nI j)) VV L (zs_stk K r i) = VV (r + i) :: tl ∧
      ((K (r + i) = 1 ∧ zs_vl (zs_sv K V r (nI j)) VV L (zs_stk K r (i + 1)) = tl ∧ VV (r + i) = A (r + i)) ∨
       (K (r + i) = 11 ∧ zs_vl (zs_sv K V r (nI j)) VV L (zs_stk K r (i + 1)) = tl ∧ VV (r + i) = PV (A (r + i) * 32 + V (r + i)).toNatClampNeg) ∨
       ((K (r + i) = 2 ∨ K (r + i) = 7 ∨ K (r + i) = 6) ∧ zs_vl (zs_sv K V r (nI j)) VV L (zs_stk K r (i + 1)) = VV (r + i) :: tl) ∨
       (∃ a b, zs_vl (zs_sv K V r (nI j)) VV L (zs_stk K r (i + 1)) = a :: b :: tl ∧
         (((K (r + i) = 3 ∨ K (r + i) = 8) ∧ VV (r + i) = a + b) ∨ ((K (r + i) = 4 ∨ K (r + i) = 9) ∧ VV (r + i) = a - b) ∨ ((K (r + i) = 5 ∨ K (r + i) = 10) ∧ VV (r + i) = a * b)))) := by
  have hch := zs_ch_hd hr hn hd hi e
  have hv := hvis i hi s t e
  have hne : ∀ i, i < n → ∃ s t, zs_stk K r i = s :: t := fun i hi => by
    obtain ⟨s, t, e, _⟩ := hd i hi
    exact ⟨s, t, e⟩
  obtain ⟨m, hm, em⟩ := (zs_vis_rg hr (by omega) hj hne hvis (i + 1) i (by omega) hi).resolve_left h
  have hval := hvv (r + i) (by omega) (by omega) h
  have h1 : zs_vl (zs_sv K V r (nI j)) VV L (zs_stk K r i) = VV (r + i) :: zs_vl (zs_sv K V r (nI j)) VV L t := by
    rw [e, zs_vl_t (by rw [← hv]; exact h), hch]
  have hlt : ∀ b : Bool, ¬ (r + i, b).1 < r := fun b => by show ¬ r + i < r; omega
  refine ⟨_, h1, ?_⟩
  rw [zs_tl e]
  obtain ⟨_, _, _, _, _, _, k, hk1, hk2, hk⟩ := hd i hi
  unfold zs_val at hval
  rcases (by omega : k = 1 ∨ k = 11 ∨ k = 2 ∨ k = 7 ∨ k = 6 ∨ k = 3 ∨ k = 8 ∨ k = 4 ∨ k = 9 ∨ k = 5 ∨ k = 10) with rfl | rfl | rfl | rfl | rfl | rfl | rfl | rfl | rfl | rfl | rfl
  · have hk : K (r + i) = 1 := hk
    rw [if_pos hk] at hval
    refine Or.inl ⟨hk, ?_, hval⟩
    unfold zs_kids; rw [if_pos (Or.inl hk)]; rfl
  · have hk : K (r + i) = 11 := hk
    rw [if_neg (by rw [hk]; decide), if_pos hk] at hval
    refine Or.inr (Or.inl ⟨hk, ?_, hval⟩)
    unfold zs_kids; rw [if_pos (Or.inr hk)]; rfl
  · have hk : K (r + i) = 2 := hk
    rw [if_neg (by rw [hk]; decide), if_neg (by rw [hk]; decide), if_pos (Or.inl hk)] at hval
    refine Or.inr (Or.inr (Or.inl ⟨Or.inl hk, ?_⟩))
    unfold zs_kids; rw [if_neg (by rw [hk]; decide), if_pos (Or.inl hk)]
    rw [hval]
    refine zs_vl_t ?_
    unfold zs_sv; rw [if_neg (hlt _), if_neg h, if_pos hk]; decide
  · have hk : K (r + i) = 7 := hk
    rw [if_neg (by rw [hk]; decide), if_neg (by rw [hk]; decide), if_pos (Or.inr hk)] at hval
    refine Or.inr (Or.inr (Or.inl ⟨Or.inr (Or.inl hk), ?_⟩))
    unfold zs_kids; rw [if_neg (by rw [hk]; decide), if_pos (Or.inr hk)]
    rw [hval]
    refine zs_vl_t ?_
    unfold zs_sv; rw [if_neg (hlt _), if_neg h, if_neg (by rw [hk]; decide), if_pos hk]
    show V (r + i) + 1 ≠ -1
    rw [em, nI_1]; exact zn_ne1 (by omega)
  · have hk : K (r + i) = 6 := hk
    rw [if_neg (by rw [hk]; decide), if_neg (by rw [hk]; decide), if_neg (by rw [hk]; decide), if_pos hk] at hval
    refine Or.inr (Or.inr (Or.inl ⟨Or.inr (Or.inr hk), ?_⟩))
    unfold zs_kids; rw [if_neg (by rw [hk]; decide), if_neg (by rw [hk]; decide)]
    by_cases h0 : V (r + i) = 0
    · rw [if_pos h0] at hval
      have s1 : zs_sv K V r (nI j) (r + i, true) ≠ -1 := by
        unfold zs_sv; rw [if_neg (hlt _), if_neg h, if_neg (by rw [hk]; decide), if_neg (by rw [hk]; decide), if_pos hk, if_pos rfl, if_pos h0]; decide
      have s2 : zs_sv K V r (nI j) (r + i, false) = -1 := by
        unfold zs_sv; rw [if_neg (hlt _), if_neg h, if_neg (by rw [hk]; decide), if_neg (by rw [hk]; decide), if_pos hk, if_neg Bool.false_ne_true, if_pos h0]
      show zs_vl _ VV L ((r + i, true) :: (r + i, false) :: t) = _
      rw [zs_vl_t s1, zs_vl_f s2, hval]; rfl
    · rw [if_neg h0] at hval
      have s1 : zs_sv K V r (nI j) (r + i, true) = -1 := by
        unfold zs_sv; rw [if_neg (hlt _), if_neg h, if_neg (by rw [hk]; decide), if_neg (by rw [hk]; decide), if_pos hk, if_pos rfl, if_neg h0]
      have s2 : zs_sv K V r (nI j) (r + i, false) ≠ -1 := by
        unfold zs_sv; rw [if_neg (hlt _), if_neg h, if_neg (by rw [hk]; decide), if_neg (by rw [hk]; decide), if_pos hk, if_neg Bool.false_ne_true, if_neg h0]
        show V (r + i) - 1 ≠ -1
        have hm0 : 0 < m := by
          rcases Nat.eq_zero_or_pos m with hz | hz
          · rw [hz] at em; exact absurd em h0
          · exact hz
        rw [em, zn_s hm0]; exact zn_ne1 (by omega)
      show zs_vl _ VV L ((r + i, true) :: (r + i, false) :: t) = _
      rw [zs_vl_f s1, zs_vl_t s2, hval]; rfl
  all_goals
    refine Or.inr (Or.inr (Or.inr ⟨VV (r + i + 1), VV (L (r + i)).toNatClampNeg, ?_, ?_⟩))
    · unfold zs_kids; rw [if_neg (by rw [hk]; decide), if_neg (by rw [hk]; decide)]
      have sb : ∀ b, zs_sv K V r (nI j) (r + i, b) ≠ -1 := by
        intro b
        unfold zs_sv; rw [if_neg (hlt _), if_neg h, if_neg (by rw [hk]; decide), if_neg (by rw [hk]; decide), if_neg (by rw [hk]; decide)]; exact h
      show zs_vl _ VV L ((r + i, true) :: (r + i, false) :: t) = _
      rw [zs_vl_t (sb _), zs_vl_t (sb _)]; rfl
    · rw [if_neg (by rw [hk]; decide), if_neg (by rw [hk]; decide), if_neg (by rw [hk]; decide), if_neg (by rw [hk]; decide)] at hval
      first
        | (rw [if_pos (by rw [hk]; decide)] at hval; exact Or.inl ⟨by rw [hk]; decide, hval⟩)
        | (rw [if_neg (by rw [hk]; decide), if_pos (by rw [hk]; decide)] at hval; exact Or.inr (Or.inl ⟨by rw [hk]; decide, hval⟩))
        | (rw [if_neg (by rw [hk]; decide), if_neg (by rw [hk]; decide)] at hval; exact Or.inr (Or.inr ⟨by rw [hk]; decide, hval⟩))
