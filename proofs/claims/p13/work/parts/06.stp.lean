/-! one step of a walk with a stack in two arrays -/
theorem zs_st_push {q : Int32 → Int32 → Nat × Bool → Prop} {a b : Nat → Int32} {l : List (Nat × Bool)} {s : Nat × Bool} {x y : Int32} {n : Nat} (hn : n = l.length) (hq : q x y s)
    (h : zs_st (fun i s => q (a i) (b i) s) l) : zs_st (fun i s => q (upd a n x i) (upd b n y i) s) (s :: l) := by
  subst hn
  refine ⟨?_, zs_st_mono l (fun i s' hi _ hq' => ?_) h⟩
  · show q (upd a l.length x l.length) (upd b l.length y l.length) s
    rw [pk_us, pk_us]; exact hq
  · show q (upd a l.length x i) (upd b l.length y i) s'
    rw [pk_un (by omega), pk_un (by omega)]; exact hq'
theorem zo_7 {K O : Nat → Int32} {r c : Nat} {b : Bool} (hc : r ≤ c) (hk : K c = 7) : zs_so K O r (c, b) = O c + 1 := by
  unfold zs_so; rw [if_neg (by show ¬ c < r; omega), if_pos hk]
theorem zo_6f {K O : Nat → Int32} {r c : Nat} (hc : r ≤ c) (hk : K c = 6) : zs_so K O r (c, false) = O c - 1 := by
  unfold zs_so; rw [if_neg (by show ¬ c < r; omega), if_neg (by show ¬ K c = 7; rw [hk]; decide), if_pos ⟨hk, rfl⟩]
theorem zo_6t {K O : Nat → Int32} {r c : Nat} (hc : r ≤ c) (hk : K c = 6) : zs_so K O r (c, true) = O c := by
  unfold zs_so; rw [if_neg (by show ¬ c < r; omega), if_neg (by show ¬ K c = 7; rw [hk]; decide), if_neg (fun z => Bool.noConfusion z.2)]
theorem zo_x {K O : Nat → Int32} {r c : Nat} {b : Bool} (hc : r ≤ c) (h7 : ¬ K c = 7) (h6 : ¬ K c = 6) : zs_so K O r (c, b) = O c := by
  unfold zs_so; rw [if_neg (by show ¬ c < r; omega), if_neg h7, if_neg (fun z => h6 z.1)]
/-! the pairs while they are made: X's states 0, 1, 2 against Y's two marks -/
def zp_n0 (PS : Nat → Int32) : Nat := zg_cn (fun q => decide (PS q = 0)) 256
theorem zp_n0_start {PS : Nat → Int32} {k : Nat} (h0 : k < 256) (hk : PS k = 0) : zp_n0 (upd PS k 1) + 1 = zp_n0 PS :=
  zg_cn_upd (k := k) (by show decide (PS k = 0) = true; rw [hk]; rfl) (by show decide (upd PS k 1 k = 0) = false; rw [pk_us]; rfl) (fun j hj => by show decide (upd PS k 1 j = 0) = decide (PS j = 0); rw [pk_un hj]) 256 h0
theorem zp_n0_fin {PS : Nat → Int32} {k : Nat} (hk : PS k ≠ 0) : zp_n0 (upd PS k 2) = zp_n0 PS := by
  refine zg_cn_eq (fun j => ?_) 256
  show decide (upd PS k 2 j = 0) = decide (PS j = 0)
  by_cases e : j = k
  · subst e; rw [pk_us, decide_eq_false hk]; rfl
  · rw [pk_un e]
theorem zp_n0_le (PS : Nat → Int32) : zp_n0 PS ≤ 256 := zg_cn_le _ 256
