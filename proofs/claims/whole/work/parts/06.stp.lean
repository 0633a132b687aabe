/-! one step of a walk with a stack in two arrays -/
theorem zs_st_push {q : Int32 → Int32 → Nat × Bool → Prop} {a b : Nat → Int32} {l : List (Nat × Bool)} {s : Nat × Bool} {x y : Int32} {n : Nat} (hn : n = l.length) (hq : q x y s)
    (h : zs_st (fun i s => q (a i) (b i) s) l) : zs_st (fun i s => q (upd a n x i) (upd b n y i) s) (s :: l) := by
  subst hn
  refine ⟨?_, zs_st_mono l (fun i s' hi _ hq' => ?_) h⟩
  · show q (upd a l.length x l.length) (upd b l.length y l.length) s
    rw [pk_us, pk_us]; exact hq
  · show q (upd a l.length x i) (upd b l.length y i) s'
    rw [pk_un (by omega), pk_un (by omega)]; exact hq'
theorem zo_7 {K O : Nat → Int32} {r c : Nat} {b : Bool} (hc : r ≤ c) (hk : K c = 7) : zs_so K O r (c, b) = O c + 1 := by
  unfold zs_so; rw [if_neg (by show ¬ c < r; omega), if_pos hk]
theorem zo_6f {K O : Nat → Int32} {r c : Nat} (hc : r ≤ c) (hk : K c = 6) : zs_so K O r (c, false) = O c - 1 := by
  unfold zs_so; rw [if_neg (by show ¬ c < r; omega), if_neg (by show ¬ K c = 7; rw [hk]; decide), if_pos ⟨hk, rfl⟩]
theorem zo_6t {K O : Nat → Int32} {r c : Nat} (hc : r ≤ c) (hk : K c = 6) : zs_so K O r (c, true) = O c := by
  unfold zs_so; rw [if_neg (by show ¬ c < r; omega), if_neg (by show ¬ K c = 7; rw [hk]; decide), if_neg (fun z => Bool.noConfusion z.2)]
theorem zo_x {K O : Nat → Int32} {r c : Nat} {b : Bool} (hc : r ≤ c) (h7 : ¬ K c = 7) (h6 : ¬ K c = 6) : zs_so K O r (c, b) = O c := by
  unfold zs_so; rw [if_neg (by show ¬ c < r; omega), if_neg h7, if_neg (fun z => h6 z.1)]
/-- x, y: visited (0 or 1) and index, for w: the index or -1 -/
def zq (x y w : Int32) : Prop := (w = -1 → x = 0) ∧ (w ≠ -1 → x = 1 ∧ y = w)
theorem zq_n {y : Int32} : zq 0 y (-1) := ⟨fun _ => rfl, fun h => absurd rfl h⟩
theorem zq_c {x y w : Int32} (h : zq x y w) : (w = -1 ∧ x = 0) ∨ (w ≠ -1 ∧ x = 1 ∧ y = w) := by
  by_cases e : w = -1
  · exact Or.inl ⟨e, h.1 e⟩
  · exact Or.inr ⟨e, h.2 e⟩
theorem zq_2 {K V : Nat → Int32} {r c : Nat} {j x y : Int32} {b : Bool} (hc : r ≤ c) (hk : K c = 2) (h : zq x y (V c)) : zq x 0 (zs_sv K V r j (c, b)) := by
  unfold zs_sv
  rw [if_neg (by show ¬ c < r; omega)]
  rcases zq_c h with ⟨h1, h2⟩ | ⟨h1, h2, h3⟩
  · rw [if_pos h1, h2]; exact zq_n
  · rw [if_neg h1, if_pos hk, h2]; exact ⟨fun z => absurd z (by decide), fun _ => ⟨rfl, rfl⟩⟩
theorem zq_7 {K V : Nat → Int32} {r c : Nat} {j x y : Int32} {b : Bool} (hc : r ≤ c) (hk : K c = 7) (h : zq x y (V c)) (hv : V c ≠ -1 → V c + 1 ≠ -1) : zq x (y + 1) (zs_sv K V r j (c, b)) := by
  unfold zs_sv
  rw [if_neg (by show ¬ c < r; omega)]
  rcases zq_c h with ⟨h1, h2⟩ | ⟨h1, h2, h3⟩
  · rw [if_pos h1, h2]; exact zq_n
  · rw [if_neg h1, if_neg (by show ¬ K c = 2; rw [hk]; decide), if_pos hk, h2, h3]; exact ⟨fun z => absurd z (hv h1), fun _ => ⟨rfl, rfl⟩⟩
theorem zq_x {K V : Nat → Int32} {r c : Nat} {j x y : Int32} {b : Bool} (hc : r ≤ c) (h2' : ¬ K c = 2) (h7 : ¬ K c = 7) (h6 : ¬ K c = 6) (h : zq x y (V c)) : zq x y (zs_sv K V r j (c, b)) := by
  unfold zs_sv
  rw [if_neg (by show ¬ c < r; omega)]
  rcases zq_c h with ⟨h1, h2⟩ | ⟨h1, h2, h3⟩
  · rw [if_pos h1, h2]; exact zq_n
  · rw [if_neg h1, if_neg h2', if_neg h7, if_neg h6]; exact h
/-- CONS, first child, index 0 -/
theorem zq_6a {K V : Nat → Int32} {r c : Nat} {j x y : Int32} (hc : r ≤ c) (hk : K c = 6) (h : zq x y (V c)) (h0 : y = 0) : zq x 0 (zs_sv K V r j (c, true)) := by
  unfold zs_sv
  rw [if_neg (by show ¬ c < r; omega)]
  rcases zq_c h with ⟨h1, h2⟩ | ⟨h1, h2, h3⟩
  · rw [if_pos h1, h2]; exact zq_n
  · rw [if_neg h1, if_neg (by show ¬ K c = 2; rw [hk]; decide), if_neg (by show ¬ K c = 7; rw [hk]; decide), if_pos hk, if_pos rfl, if_pos (by rw [← h0, h3]), h2]
    exact ⟨fun z => absurd z (by decide), fun _ => ⟨rfl, rfl⟩⟩
/-- CONS, second child, index 0 -/
theorem zq_6b {K V : Nat → Int32} {r c : Nat} {j x y : Int32} (hc : r ≤ c) (hk : K c = 6) (h : zq x y (V c)) (h0 : y = 0) : zq 0 0 (zs_sv K V r j (c, false)) := by
  unfold zs_sv
  rw [if_neg (by show ¬ c < r; omega)]
  rcases zq_c h with ⟨h1, h2⟩ | ⟨h1, h2, h3⟩
  · rw [if_pos h1]; exact zq_n
  · rw [if_neg h1, if_neg (by show ¬ K c = 2; rw [hk]; decide), if_neg (by show ¬ K c = 7; rw [hk]; decide), if_pos hk, if_neg Bool.false_ne_true, if_pos (by rw [← h0, h3])]
    exact zq_n
/-- CONS, first child, index not 0 -/
theorem zq_6c {K V : Nat → Int32} {r c : Nat} {j x y : Int32} (hc : r ≤ c) (hk : K c = 6) (h : zq x y (V c)) (h0 : ¬ y = 0) : zq 0 0 (zs_sv K V r j (c, true)) := by
  unfold zs_sv
  rw [if_neg (by show ¬ c < r; omega)]
  rcases zq_c h with ⟨h1, h2⟩ | ⟨h1, h2, h3⟩
  · rw [if_pos h1]; exact zq_n
  · rw [if_neg h1, if_neg (by show ¬ K c = 2; rw [hk]; decide), if_neg (by show ¬ K c = 7; rw [hk]; decide), if_pos hk, if_pos rfl, if_neg (fun z => h0 (h3.trans z))]
    exact zq_n
/-- CONS, second child, index not 0 -/
theorem zq_6d {K V : Nat → Int32} {r c : Nat} {j x y : Int32} (hc : r ≤ c) (hk : K c = 6) (h : zq x y (V c)) (h0 : ¬ y = 0) (hv : V c ≠ 0 → V c - 1 ≠ -1) : zq x (y - 1) (zs_sv K V r j (c, false)) := by
  unfold zs_sv
  rw [if_neg (by show ¬ c < r; omega)]
  rcases zq_c h with ⟨h1, h2⟩ | ⟨h1, h2, h3⟩
  · rw [if_pos h1, h2]; exact zq_n
  · have h4 : ¬ V c = 0 := fun z => h0 (h3.trans z)
    rw [if_neg h1, if_neg (by show ¬ K c = 2; rw [hk]; decide), if_neg (by show ¬ K c = 7; rw [hk]; decide), if_pos hk, if_neg Bool.false_ne_true, if_neg h4, h2, h3]
    exact ⟨fun z => absurd z (hv h4), fun _ => ⟨rfl, rfl⟩⟩
/-! the pairs while they are made: X's states 0, 1, 2 against Y's two marks -/
def zp_pr (PS PV MO MV IP : Nat → Int32) : Prop :=
  ∀ q, q < 256 → (PS q = 0 ∧ MO q = 0 ∧ IP q = 0) ∨ (PS q = 1 ∧ MO q = 0 ∧ IP q = 1) ∨ (PS q = 2 ∧ MO q = 1 ∧ IP q = 0 ∧ PV q = MV q)
theorem zp_start {PS PV MO MV IP : Nat → Int32} {k : Nat} (h : zp_pr PS PV MO MV IP) (h0 : k < 256) (hk : PS k = 0) : zp_pr (upd PS k 1) PV MO MV (upd IP k 1) := by
  intro q hq
  by_cases e : q = k
  · subst e
    rw [pk_us, pk_us]
    rcases h q hq with h | h | h
    · exact Or.inr (Or.inl ⟨rfl, h.2.1, rfl⟩)
    · rw [hk] at h; exact absurd h.1 (by decide)
    · rw [hk] at h; exact absurd h.1 (by decide)
  · rw [pk_un e, pk_un e]; exact h q hq
theorem zp_fin {PS PV MO MV IP : Nat → Int32} {k : Nat} {x : Int32} (h : zp_pr PS PV MO MV IP) : zp_pr (upd PS k 2) (upd PV k x) (upd MO k 1) (upd MV k x) (upd IP k 0) := by
  intro q hq
  by_cases e : q = k
  · subst e
    rw [pk_us, pk_us, pk_us, pk_us, pk_us]
    exact Or.inr (Or.inr ⟨rfl, rfl, rfl, rfl⟩)
  · rw [pk_un e, pk_un e, pk_un e, pk_un e, pk_un e]; exact h q hq
def zp_n0 (PS : Nat → Int32) : Nat := zg_cn (fun q => decide (PS q = 0)) 256
theorem zp_n0_start {PS : Nat → Int32} {k : Nat} (h0 : k < 256) (hk : PS k = 0) : zp_n0 (upd PS k 1) + 1 = zp_n0 PS :=
  zg_cn_upd (k := k) (by show decide (PS k = 0) = true; rw [hk]; rfl) (by show decide (upd PS k 1 k = 0) = false; rw [pk_us]; rfl) (fun j hj => by show decide (upd PS k 1 j = 0) = decide (PS j = 0); rw [pk_un hj]) 256 h0
theorem zp_n0_fin {PS : Nat → Int32} {k : Nat} (hk : PS k ≠ 0) : zp_n0 (upd PS k 2) = zp_n0 PS := by
  refine zg_cn_eq (fun j => ?_) 256
  show decide (upd PS k 2 j = 0) = decide (PS j = 0)
  by_cases e : j = k
  · subst e; rw [pk_us, decide_eq_false hk]; rfl
  · rw [pk_un e]
theorem zp_n0_le (PS : Nat → Int32) : zp_n0 PS ≤ 256 := zg_cn_le _ 256
