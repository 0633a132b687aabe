/-! sorts: an ELEM cell is visited at index 0 alone, so a visited cell's index is the pair's index plus the cell's offset -/
def zt_srt (K : Nat → Int32) (r : Nat) (s : Nat × Bool) : Int32 :=
  if s.1 < r then 2 else if K s.1 = 3 ∨ K s.1 = 4 ∨ K s.1 = 5 then 1 else if K s.1 = 6 ∧ s.2 = true then 1 else 2
theorem zt_srt_congr {K K' : Nat → Int32} {r : Nat} {s : Nat × Bool} (h : r ≤ s.1 → K' s.1 = K s.1) : zt_srt K' r s = zt_srt K r s := by
  unfold zt_srt
  by_cases hs : s.1 < r
  · rw [if_pos hs, if_pos hs]
  · rw [if_neg hs, if_neg hs, h (by omega)]
def zt_def (K : Nat → Int32) (r n : Nat) : Prop := ∀ i, i < n → ∀ s t, zs_stk K r i = s :: t → ∀ k, k ≤ 11 → K (r + i) = nI k → zk_srt k = zt_srt K r s
theorem zt_def_congr {K K' : Nat → Int32} {r n : Nat} (hr : 1 ≤ r) (h : ∀ c, r ≤ c → c < r + n → K' c = K c) (hd : zt_def K r n) : zt_def K' r n := by
  intro i hi s t es k hk ek
  have es' : zs_stk K r i = s :: t := by rw [← es]; exact (zs_stk_congr i (fun c a b => h c a (by omega))).symm
  have hh := zs_hd hr es'
  rw [h (r + i) (by omega) (by omega)] at ek
  rw [zt_srt_congr (K := K) (fun hs => h s.1 hs (by omega))]
  exact hd i hi s t es' k hk ek
theorem zt_def_step {K : Nat → Int32} {r d k : Nat} {s : Nat × Bool} {t : List (Nat × Bool)} (hr : 1 ≤ r) (hk : k ≤ 11) (e : zs_stk K r d = s :: t) (hs : zk_srt k = zt_srt K r s) (hd : zt_def K r d) :
    zt_def (upd K (r + d) (nI k)) r (d + 1) := by
  intro i hi s1 t1 es k1 hk1 ek
  have es' : zs_stk K r i = s1 :: t1 := by rw [← es]; exact (zs_stk_congr i (fun c a b => pk_un (by omega))).symm
  have hh := zs_hd hr es'
  rw [zt_srt_congr (K := K) (fun _ => pk_un (by omega))]
  by_cases hid : i < d
  · rw [pk_un (by omega)] at ek
    exact hd i hid s1 t1 es' k1 hk1 ek
  · obtain rfl : i = d := by omega
    rw [pk_us] at ek
    have e1 := zn_im ek (by omega) (by omega)
    rw [e] at es'
    rw [← e1, ← (List.cons.inj es').1]
    exact hs
def zt_Q (K : Nat → Int32) (r : Nat) (x y : Int32) (s : Nat × Bool) : Prop := x = zt_srt K r s
theorem zt_s1 {K : Nat → Int32} {r c : Nat} {b : Bool} (hr : r ≤ c) (h : K c = 3 ∨ K c = 4 ∨ K c = 5) : zt_srt K r (c, b) = 1 := by
  unfold zt_srt; rw [if_neg (by show ¬ c < r; omega), if_pos h]
theorem zt_s6 {K : Nat → Int32} {r c : Nat} (hr : r ≤ c) (h : K c = 6) : zt_srt K r (c, true) = 1 := by
  unfold zt_srt; rw [if_neg (by show ¬ c < r; omega), if_neg (by show ¬ (K c = 3 ∨ K c = 4 ∨ K c = 5); rw [h]; decide), if_pos ⟨h, rfl⟩]
theorem zt_s2 {K : Nat → Int32} {r c : Nat} {b : Bool} (hr : r ≤ c) (h : ¬ (K c = 3 ∨ K c = 4 ∨ K c = 5)) (h6 : ¬ K c = 6 ∨ b = false) : zt_srt K r (c, b) = 2 := by
  unfold zt_srt
  rw [if_neg (by show ¬ c < r; omega), if_neg h, if_neg]
  intro z
  rcases h6 with w | w
  · exact w z.1
  · have := z.2
    rw [show ((c, b) : Nat × Bool).2 = b from rfl, w] at this
    exact Bool.noConfusion this
theorem zt_st {K ss : Nat → Int32} {r k c S : Nat} {t : List (Nat × Bool)} (h1 : 1 ≤ k) (h : k ≤ 11) (hr : r ≤ c) (hK : K c = nI k) (hS : S = t.length) (hst : zs_st (fun i x => ss i = zt_srt K r x) t) :
    zs_st (fun i x => zk_ss k S ss i = zt_srt K r x) (zs_kids (nI k) c ++ t) := by
  have p1 : ∀ x : Int32, x = zt_srt K r (c, true) → zs_st (fun i y => upd ss S x i = zt_srt K r y) ((c, true) :: t) := fun x hx => zs_st_push (q := zt_Q K r) (a := ss) (b := ss) (y := 0) (s := (c, true)) hS hx hst
  have p2 : ∀ x y : Int32, x = zt_srt K r (c, false) → y = zt_srt K r (c, true) → zs_st (fun i z => upd (upd ss S x) (S + 1) y i = zt_srt K r z) ((c, true) :: (c, false) :: t) := fun x y hx hy =>
    zs_st_push (q := zt_Q K r) (a := upd ss S x) (b := upd ss S 0) (y := 0) (n := S + 1) (s := (c, true)) (by rw [hS]; rfl) hy (zs_st_push (q := zt_Q K r) (a := ss) (b := ss) (y := 0) (s := (c, false)) hS hx hst)
  rcases zk_c h1 h with rfl | rfl | rfl | rfl | rfl | rfl | rfl | rfl | rfl | rfl | rfl
  · exact hst
  · exact p1 2 (zt_s2 hr (by rw [hK]; decide) (Or.inl (by rw [hK]; decide))).symm
  · exact p2 1 1 (zt_s1 hr (by rw [hK]; decide)).symm (zt_s1 hr (by rw [hK]; decide)).symm
  · exact p2 1 1 (zt_s1 hr (by rw [hK]; decide)).symm (zt_s1 hr (by rw [hK]; decide)).symm
  · exact p2 1 1 (zt_s1 hr (by rw [hK]; decide)).symm (zt_s1 hr (by rw [hK]; decide)).symm
  · exact p2 2 1 (zt_s2 hr (by rw [hK]; decide) (Or.inr rfl)).symm (zt_s6 hr hK).symm
  · exact p1 2 (zt_s2 hr (by rw [hK]; decide) (Or.inl (by rw [hK]; decide))).symm
  · exact p2 2 2 (zt_s2 hr (by rw [hK]; decide) (Or.inr rfl)).symm (zt_s2 hr (by rw [hK]; decide) (Or.inl (by rw [hK]; decide))).symm
  · exact p2 2 2 (zt_s2 hr (by rw [hK]; decide) (Or.inr rfl)).symm (zt_s2 hr (by rw [hK]; decide) (Or.inl (by rw [hK]; decide))).symm
  · exact p2 2 2 (zt_s2 hr (by rw [hK]; decide) (Or.inr rfl)).symm (zt_s2 hr (by rw [hK]; decide) (Or.inl (by rw [hK]; decide))).symm
  · exact hst
def zj_inv (N U : Nat) (op : Int32) (K ss cl : Nat → Int32) (R E : Nat → Nat) : Prop :=
  (∀ n, n < N → cl n = 1 → zt_def K (R n) (E n - R n)) ∧ (∀ o, o < N → op = nI o → zt_def K (R o) (U - R o) ∧ zs_st (fun i s => ss i = zt_srt K (R o) s) (zs_stk K (R o) (U - R o)))
theorem zj_begin {N C U S n : Nat} {K A P O L Ow cl so sp ss : Nat → Int32} {R E : Nat → Nat} (h : zi_inv N C U S (-1) K A P O L Ow cl so sp R E) (hj : zj_inv N U (-1) K ss cl R E) (hn : n < N) (hc : cl n = 0) :
    zj_inv N (U + 1) (nI n) (upd K U 12) (upd ss 0 2) cl (zi_un R n (U + 1)) E := by
  obtain ⟨⟨a1, a2, a3, a4, a5⟩, b, c1, hR, d1, d2, _⟩ := h
  refine ⟨fun m hm hcm => ?_, fun o ho eo => ?_⟩
  · have hne : m ≠ n := fun z => by rw [z, hc] at hcm; exact absurd hcm (by decide)
    rw [zi_unn hne]
    have H := c1 m hm hcm
    have h3 := H.2.2.1
    exact zt_def_congr H.1 (fun c x y => pk_un (by omega)) (hj.1 m hm hcm)
  · obtain rfl : n = o := zn_im eo (by omega) (by omega)
    rw [zi_uns]
    have e0 : U + 1 - (U + 1) = 0 := by omega
    rw [e0]
    refine ⟨fun i hi => absurd hi (Nat.not_lt_zero i), ?_, trivial⟩
    show upd ss 0 2 0 = _
    rw [pk_us]
    unfold zt_srt
    rw [if_pos (by show U + 1 - 1 < U + 1; omega)]
theorem zj_step {N C U S o k : Nat} {K A P O L Ow cl so sp ss : Nat → Int32} {R E : Nat → Nat} {s : Nat × Bool} {t : List (Nat × Bool)} (h : zi_inv N C U S (nI o) K A P O L Ow cl so sp R E) (hj : zj_inv N U (nI o) K ss cl R E) (ho : o < N)
    (e : zs_stk K (R o) (U - R o) = s :: t) (hk1 : 1 ≤ k) (hk : k ≤ 11) (hs : zk_srt k = ss t.length) :
    (∀ m, m < N → cl m = 1 → zt_def (upd K U (nI k)) (R m) (E m - R m)) ∧ zt_def (upd K U (nI k)) (R o) (U + 1 - R o) ∧ zs_st (fun i x => zk_ss k t.length ss i = zt_srt (upd K U (nI k)) (R o) x) (zs_stk (upd K U (nI k)) (R o) (U + 1 - R o)) := by
  obtain ⟨⟨a1, a2, a3, a4, a5⟩, b, c1, hR, d1, d2, d3⟩ := h
  obtain ⟨o', ho', eo, hco, H⟩ : ∃ o', o' < N ∧ nI o = nI o' ∧ cl o' = 0 ∧ zi_op K P O L Ow so sp U S (R o') o' := by
    rcases d3 with d3 | d3
    · exact absurd d3.1 (zn_ne1 (by omega))
    · exact d3
  obtain rfl : o = o' := zn_im eo (by omega) (by omega)
  obtain ⟨r1, r2, r3, r4, r5, r6, r7, r8⟩ := H
  obtain ⟨g1, g2⟩ := hj.2 o ho rfl
  obtain ⟨d, hd⟩ : ∃ d, U = R o + d := ⟨U - R o, by omega⟩
  have ed : U - R o = d := by omega
  rw [ed] at e g1 g2
  rw [e] at g2
  have hsrt : zk_srt k = zt_srt K (R o) s := hs.trans g2.1
  refine ⟨fun m hm hcm => ?_, ?_, ?_⟩
  · have Hm := c1 m hm hcm
    have h3 := Hm.2.2.1
    exact zt_def_congr Hm.1 (fun c x y => pk_un (by omega)) (hj.1 m hm hcm)
  · rw [show U + 1 - R o = d + 1 by omega, hd]; exact zt_def_step r1 hk e hsrt g1
  · rw [show U + 1 - R o = d + 1 by omega, hd, zs_stk_step e]
    refine zt_st hk1 hk (by omega) pk_us rfl (zs_st_mono t (fun i x hi hx hq => hq.trans (zt_srt_congr (fun _ => pk_un ?_)).symm) g2.2)
    have := zs_mem r1 (K := K) (d := d) (s := x) (by rw [e]; exact List.mem_cons_of_mem _ hx)
    omega
theorem zt_vo {K P O L V : Nat → Int32} {r n j : Nat} (hr : 1 ≤ r) (hn : n ≤ 96) (hj : j < 32) (hd : zs_def K P O L r n) (ht : zt_def K r n) (hv : zs_vis K V r (nI j) n) :
    ∀ m i, i < m → i < n → V (r + i) ≠ -1 → (V (r + i)).toInt = (j : Int) + (O (r + i)).toInt ∧ (∀ k, k ≤ 5 → K (r + i) = nI k → V (r + i) = 0) := by
  have hne : ∀ i, i < n → ∃ s t, zs_stk K r i = s :: t := fun i hi => by
    obtain ⟨s, t, e, _⟩ := hd i hi
    exact ⟨s, t, e⟩
  have z0 : (0 : Int32).toInt = 0 := by decide
  intro m
  induction m with
  | zero => intro i h; omega
  | succ m ih =>
    intro i him hi hne1
    obtain ⟨s, t, es, _, hO, _, k, hk1, hk11, hk⟩ := hd i hi
    have hVs := hv i hi s t es
    have hh := zs_hd hr es
    have no1 : zt_srt K r s = 2 → ∀ k, k ≤ 5 → K (r + i) = nI k → V (r + i) = 0 := by
      intro hs2 k' hk' ek
      have h1 := ht i hi s t es k' (by omega) ek
      rw [hs2] at h1
      unfold zk_srt at h1
      rw [if_neg (by omega)] at h1
      exact absurd h1 (by decide)
    unfold zs_sv at hVs
    unfold zs_so at hO
    by_cases hs : s.1 < r
    · rw [if_pos hs] at hVs hO
      refine ⟨by rw [hVs, hO, nI_toInt (by omega), z0]; omega, no1 ?_⟩
      unfold zt_srt; rw [if_pos hs]
    · rw [if_neg hs] at hVs hO
      obtain ⟨q, hq⟩ : ∃ q, s.1 = r + q := ⟨s.1 - r, by omega⟩
      have hq' : q < i := by omega
      rw [hq] at hVs hO
      by_cases h1 : V (r + q) = -1
      · rw [if_pos h1] at hVs; exact absurd hVs hne1
      · rw [if_neg h1] at hVs
        obtain ⟨w1, w2⟩ := ih q (by omega) (by omega) h1
        obtain ⟨mq, hmq, emq⟩ := (zs_vis_rg hr hn hj hne hv (q + 1) q (by omega) (by omega)).resolve_left h1
        have hoq := zs_off hr hn hd (q + 1) q (by omega) (by omega)
        have hsr : ¬ (K (r + q) = 3 ∨ K (r + q) = 4 ∨ K (r + q) = 5) → (¬ K (r + q) = 6 ∨ s.2 = false) → zt_srt K r s = 2 := by
          intro a b
          have : s = (r + q, s.2) := by rw [← hq]
          rw [this]
          exact zt_s2 (by omega) a b
        by_cases h2 : K (r + q) = 2
        · rw [if_pos h2] at hVs
          rw [if_neg (by rw [h2]; decide), if_neg (fun z => by rw [h2] at z; exact absurd z.1 (by decide))] at hO
          have h0 := w2 2 (by omega) h2
          rw [h0, z0] at w1
          exact ⟨by rw [hVs, hO, z0]; omega, no1 (hsr (by rw [h2]; decide) (Or.inl (by rw [h2]; decide)))⟩
        · rw [if_neg h2] at hVs
          by_cases h7 : K (r + q) = 7
          · rw [if_pos h7] at hVs hO
            have e1 : (V (r + q) + 1).toInt = (V (r + q)).toInt + 1 := by
              rw [emq, nI_1, nI_toInt (by omega), nI_toInt (by omega)]; omega
            have e2 : (O (r + q) + 1).toInt = (O (r + q)).toInt + 1 := by
              rw [Int32.toInt_add, show (1 : Int32).toInt = 1 by decide]; exact Int.bmod_eq_of_le (by omega) (by omega)
            exact ⟨by rw [hVs, hO, e1, e2]; omega, no1 (hsr (by rw [h7]; decide) (Or.inl (by rw [h7]; decide)))⟩
          · rw [if_neg h7] at hVs hO
            by_cases h6 : K (r + q) = 6
            · rw [if_pos h6] at hVs
              rcases hh with ⟨hb, _⟩ | ⟨hb, _⟩
              · rw [if_pos hb] at hVs
                rw [if_neg (fun z => by rw [hb] at z; exact Bool.noConfusion z.2)] at hO
                by_cases h0 : V (r + q) = 0
                · rw [if_pos h0] at hVs
                  rw [h0, z0] at w1
                  exact ⟨by rw [hVs, hO, z0]; omega, fun _ _ _ => hVs⟩
                · rw [if_neg h0] at hVs; exact absurd hVs hne1
              · rw [if_neg (by rw [hb]; decide)] at hVs
                rw [if_pos ⟨h6, hb⟩] at hO
                by_cases h0 : V (r + q) = 0
                · rw [if_pos h0] at hVs; exact absurd hVs hne1
                · rw [if_neg h0] at hVs
                  have hm0 : 0 < mq := by
                    rcases Nat.eq_zero_or_pos mq with hz | hz
                    · rw [hz] at emq; exact absurd emq h0
                    · exact hz
                  have e1 : (V (r + q) - 1).toInt = (V (r + q)).toInt - 1 := by
                    rw [emq, zn_s hm0, nI_toInt (by omega), nI_toInt (by omega)]; omega
                  have e2 : (O (r + q) - 1).toInt = (O (r + q)).toInt - 1 := by
                    rw [Int32.toInt_sub, show (1 : Int32).toInt = 1 by decide]; exact Int.bmod_eq_of_le (by omega) (by omega)
                  exact ⟨by rw [hVs, hO, e1, e2]; omega, no1 (hsr (by rw [h6]; decide) (Or.inr hb))⟩
            · rw [if_neg h6] at hVs
              rw [if_neg (fun z => h6 z.1)] at hO
              refine ⟨by rw [hVs, hO]; exact w1, ?_⟩
              by_cases h345 : K (r + q) = 3 ∨ K (r + q) = 4 ∨ K (r + q) = 5
              · intro _ _ _
                rw [hVs]
                rcases h345 with h | h | h
                · exact w2 3 (by omega) h
                · exact w2 4 (by omega) h
                · exact w2 5 (by omega) h
              · exact no1 (hsr h345 (Or.inl h6))
theorem zt_nt {K P O L : Nat → Int32} {r n : Nat} (hr : 1 ≤ r) (hn : n ≤ 96) (hd : zs_def K P O L r n) (h7 : ∀ c, r ≤ c → c < r + n → K c ≠ 7) : ∀ m i, i < m → i < n → (O (r + i)).toInt ≤ 0 := by
  intro m
  induction m with
  | zero => intro i h; omega
  | succ m ih =>
    intro i him hi
    obtain ⟨s, t, es, _, hO, _⟩ := hd i hi
    have hh := zs_hd hr es
    unfold zs_so at hO
    by_cases hs : s.1 < r
    · rw [if_pos hs] at hO; rw [hO]; decide
    · rw [if_neg hs] at hO
      obtain ⟨q, hq⟩ : ∃ q, s.1 = r + q := ⟨s.1 - r, by omega⟩
      rw [hq] at hO
      have w := ih q (by omega) (by omega)
      have hoq := zs_off hr hn hd (q + 1) q (by omega) (by omega)
      rw [if_neg (h7 (r + q) (by omega) (by omega))] at hO
      rw [hO]
      split
      · have e2 : (O (r + q) - 1).toInt = (O (r + q)).toInt - 1 := by
          rw [Int32.toInt_sub, show (1 : Int32).toInt = 1 by decide]; exact Int.bmod_eq_of_le (by omega) (by omega)
        rw [e2]; omega
      · exact w
