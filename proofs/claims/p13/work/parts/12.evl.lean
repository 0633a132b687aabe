/-! obstacles, verdict, eval: the component alone -/
def ze_X (N : Nat) (cl ps pt : Nat → Int32) (px pj : Nat → Nat) (l : Nat) : Prop :=
  ∀ i, i < l → px i < N ∧ cl (px i) = 1 ∧ pj i < 32 ∧ pt i = nI (px i * 32 + pj i) ∧ ps (px i * 32 + pj i) ≠ 0
theorem zf_c {D : Nat → Prop} {lo hi c : Nat} (hc : c < 2 ^ 31) (hh : hi < 2 ^ 31) (h : zs_first D lo hi (nI c)) : lo ≤ c ∧ c < hi ∧ D c := by
  rcases h with ⟨h1, _⟩ | ⟨c', h1, h2, h3, _, h5⟩
  · exact absurd h1 (zn_ne1 hc)
  · have := zn_im h5 hc (by omega)
    subst this
    exact ⟨h1, h2, h3⟩
section Z22
variable {N C U S : Nat} {op lv fn fi pl yne ysp yvsp ypn : Int32}
variable {K A Ow O P L cl rt en ss so sp ds ww lw vi vv ps pv pt yef yet yew yb ynb yv yx ysv ysi yvs ymo ymv yip ypN ypI : Nat → Int32}
variable {R E : Nat → Nat}
theorem zd_o21 (hU : U ≤ 96) (hN : N ≤ 8) (hA : ∀ c, c < U → K c = 11 → ∃ m, m < N ∧ A c = nI m) :
    ∀ d i, i + d = U → ∃ r : Int32, (r = 0 ↔ ∀ c, i ≤ c → c < U → K c = 11 → ¬ cl (A c).toNatClampNeg = 0) ∧ (∀ post : Int32 → Prop, post r → wX_obstacleToEvaluation_21 post (nI N) (nI C) (nI U) op (nI S) pl lv fn fi K A Ow O P L cl rt en ss so sp ww lw vi vv ps pv pt (d + 1) (nI i)) := by
  intro d
  induction d with
  | zero =>
    intro i hi
    exact ⟨0, ⟨fun _ c h1 h2 => by omega, fun _ => rfl⟩, fun _ hp => br_t (nI_le (by omega) (by omega)) hp⟩
  | succ d ih =>
    intro i hi
    have h : ¬ nI U ≤ nI i := nI_ge (by omega) (by omega)
    have hin : vp_in (nI i) 96 := vp_in_nI (by omega) (by omega)
    have e : (nI i).toNatClampNeg = i := nI_clamp (by omega)
    obtain ⟨r, hr, hX⟩ := ih (i + 1) (by omega)
    by_cases hk : K (nI i).toNatClampNeg = 11
    · have hk' := hk
      rw [e] at hk'
      obtain ⟨m, hm, em⟩ := hA i (by omega) hk'
      have eA : A (nI i).toNatClampNeg = nI m := by rw [e]; exact em
      have hi8 : vp_in (A (nI i).toNatClampNeg) 8 := by rw [eA]; exact vp_in_nI (by omega) (by omega)
      by_cases hc : cl (A (nI i).toNatClampNeg).toNatClampNeg = 0
      · refine ⟨3, ⟨fun z => absurd z (by decide), fun z => ?_⟩, fun _ hp => br_f h ⟨hin, br_t hk ⟨hin, hi8, br_t hc hp⟩⟩⟩
        rw [e] at hc
        exact absurd hc (z i (Nat.le_refl _) (by omega) hk')
      · refine ⟨r, ⟨fun hr0 c h1 h2 h3 => ?_, fun z => hr.mpr (fun c h1 h2 h3 => z c (by omega) h2 h3)⟩, fun post hp => br_f h ⟨hin, br_t hk ⟨hin, hi8, br_f hc (nm_r (nI_1 i) (hX post hp))⟩⟩⟩
        by_cases ec : c = i
        · rw [ec, ← e]; exact hc
        · exact hr.mp hr0 c (by omega) h2 h3
    · refine ⟨r, ⟨fun hr0 c h1 h2 h3 => ?_, fun z => hr.mpr (fun c h1 h2 h3 => z c (by omega) h2 h3)⟩, fun post hp => br_f h ⟨hin, br_f hk (nm_r (nI_1 i) (hX post hp))⟩⟩
      by_cases ec : c = i
      · rw [ec, ← e] at h3; exact absurd h3 hk
      · exact hr.mp hr0 c (by omega) h2 h3
theorem zd_obs (h : zi_inv N C U S op K A P O L Ow cl so sp R E) : ∃ r : Int32, (r = 0 ↔ op = -1 ∧ U ≠ 0 ∧ ∀ c, c < U → K c = 11 → ¬ cl (A c).toNatClampNeg = 0) ∧ (∀ post : Int32 → Prop, post r → wpX_obstacleToEvaluation post ((nI N), (nI C), (nI U), op, (nI S), pl, lv, fn, fi, K, A, Ow, O, P, L, cl, rt, en, ss, so, sp, ww, lw, vi, vv, ps, pv, pt)) := by
  obtain ⟨⟨a1, a2, a3, a4, a5⟩, hcl, hcd, _, hA, hOw, ho⟩ := h
  by_cases hop : op = -1
  · by_cases hU : U = 0
    · exact ⟨2, ⟨fun z => absurd z (by decide), fun z => absurd hU z.2.1⟩, fun post hp => br_t hop (br_t (by rw [hU]; rfl) hp)⟩
    · obtain ⟨r, hr, hX⟩ := zd_o21 (C := C) (S := S) (op := op) (lv := lv) (fn := fn) (fi := fi) (pl := pl) (Ow := Ow) (O := O) (P := P) (L := L) (cl := cl) (rt := rt) (en := en) (ss := ss) (so := so) (sp := sp) (ww := ww) (lw := lw) (vi := vi) (vv := vv) (ps := ps) (pv := pv) (pt := pt) (by omega) a2 hA U 0 (by omega)
      exact ⟨r, ⟨fun hr0 => ⟨hop, hU, fun c hc hk => hr.mp hr0 c (by omega) hc hk⟩, fun z => hr.mpr (fun c _ h2 h3 => z.2.2 c h2 h3)⟩, fun post hp => br_t hop (br_f (nI_ne0 (by omega) (by omega)) ⟨_, hX post hp⟩)⟩
  · exact ⟨1, ⟨fun z => absurd z (by decide), fun z => absurd z.1 hop⟩, fun post hp => br_f hop hp⟩
theorem zv_r0 : ∀ d, d ≤ N → zv_r K A O Ow cl U N d = 0 → ∀ n, N - d ≤ n → n < N → cl n = 1 → zg_g K A O Ow cl U n n N < 0 := by
  intro d
  induction d with
  | zero => intro _ _ n h1 h2; omega
  | succ d ih =>
    intro hd h n h1 h2 hc
    have h' : (if cl (N - (d + 1)) = 0 then zv_r K A O Ow cl U N d else if zg_g K A O Ow cl U (N - (d + 1)) (N - (d + 1)) N < 0 then zv_r K A O Ow cl U N d else 4) = 0 := h
    by_cases e : n = N - (d + 1)
    · rw [← e, if_neg (by rw [hc]; decide)] at h'
      by_cases hg : zg_g K A O Ow cl U n n N < 0
      · exact hg
      · rw [if_neg hg] at h'; exact absurd h' (by decide)
    · refine ih (by omega) ?_ n (by omega) h2 hc
      by_cases c0 : cl (N - (d + 1)) = 0
      · rw [if_pos c0] at h'; exact h'
      · rw [if_neg c0] at h'
        by_cases hg : zg_g K A O Ow cl U (N - (d + 1)) (N - (d + 1)) N < 0
        · rw [if_pos hg] at h'; exact h'
        · rw [if_neg hg] at h'; exact absurd h' (by decide)
theorem zd_verdict {post : Int32 → St2 → Prop} (h : zi_inv N C U S op K A P O L Ow cl so sp R E) (h1 : ∀ r ww' lw', r ≠ 0 → post r ((nI N), (nI C), (nI U), op, (nI S), pl, lv, fn, fi, K, A, Ow, O, P, L, cl, rt, en, ss, so, sp, ww', lw', vi, vv, ps, pv, pt))
    (h0 : op = -1 → U ≠ 0 → (∀ c, c < U → K c = 11 → ¬ cl (A c).toNatClampNeg = 0) → (∀ n, n < N → cl n = 1 → zg_g K A O Ow cl U n n N < 0) → ∀ ww' lw', post 0 ((nI N), (nI C), (nI U), op, (nI S), pl, lv, fn, fi, K, A, Ow, O, P, L, cl, rt, en, ss, so, sp, ww', lw', vi, vv, ps, pv, pt)) : wpX_verdict post ((nI N), (nI C), (nI U), op, (nI S), pl, lv, fn, fi, K, A, Ow, O, P, L, cl, rt, en, ss, so, sp, ww, lw, vi, vv, ps, pv, pt) := by
  have hb := h.1
  have hOw : ∀ c, c < U → ∃ n, n < N ∧ Ow c = nI n := fun c hc => by
    obtain ⟨n, h1, h2, _⟩ := h.2.2.2.2.2.1 c hc
    exact ⟨n, h1, h2⟩
  obtain ⟨r, hr, hX⟩ := zd_obs (lv := lv) (fn := fn) (fi := fi) (pl := pl) (rt := rt) (en := en) (ss := ss) (ww := ww) (lw := lw) (vi := vi) (vv := vv) (ps := ps) (pv := pv) (pt := pt) h
  unfold wpX_verdict
  refine hX _ ?_
  by_cases hr0 : r = 0
  · obtain ⟨g1, g2, g3⟩ := hr.mp hr0
    refine br_t hr0 ⟨_, zv_x (by omega) (by omega) h.2.1 h.2.2.2.2.1 hOw N 0 _ _ (by omega) (fun ww' lw' => ?_)⟩
    by_cases hz : zv_r K A O Ow cl U N N = 0
    · rw [hz]; exact h0 g1 g2 g3 (fun n hn hc => zv_r0 N (Nat.le_refl _) hz n (by omega) hn hc) ww' lw'
    · exact h1 _ ww' lw' hz
  · exact br_f hr0 (h1 r ww lw hr0)
theorem zd_loop {post : Int32 → St2 → Prop} {x0 j0 : Nat} {nt : Prop} (hR : ∀ n, rt n = nI (R n)) (hE : ∀ n, en n = nI (E n)) (h : zi_inv N C U S op K A P O L Ow cl so sp R E) (hj : zj_inv N U op K ss cl R E) (hc0 : ∀ c, c < U → K c = 11 → ¬ cl (A c).toNatClampNeg = 0)
    (hnt : nt → ∀ c, c < U → K c ≠ 7) (hneg : ∀ l, 1 ≤ l → ∀ a w, a < N → zw_k (zw_E K A O Ow cl U) l a a w → w < 0) (hw256 : x0 * 32 + j0 < 256)
    (hp0 : ∀ (lv pl : Int32) (vi vv ps pv pt : Nat → Int32), post 0 ((nI N), (nI C), (nI U), op, (nI S), pl, lv, (-1), (-1), K, A, Ow, O, P, L, cl, rt, en, ss, so, sp, ww, lw, vi, vv, ps, pv, pt)) (hp2 : ¬ nt → ∀ (lv fn fi pl : Int32) (vi vv ps pv pt : Nat → Int32), post 2 ((nI N), (nI C), (nI U), op, (nI S), pl, lv, fn, fi, K, A, Ow, O, P, L, cl, rt, en, ss, so, sp, ww, lw, vi, vv, ps, pv, pt)) :
    ∀ mu it l (ps pv pt vi vv : Nat → Int32) (px pj : Nat → Nat), 2 * zp_n0 ps + (l + 1) = mu → it + mu ≤ 512 → (l + 1) + zp_n0 ps ≤ 256 → ze_X N cl ps pt px pj (l + 1) → (∀ q, q < 256 → ps q = 0 ∨ ps q = 1 ∨ ps q = 2) →
      (∀ q, q < 256 → ps q = 1 → ∃ i, i < l + 1 ∧ q = px i * 32 + pj i) → (∀ i, i < l → zw_E K A O Ow cl U (px i) (px (i + 1)) ((pj (i + 1) : Int) - pj i)) → (nt → ∀ i, i < l + 1 → pj i ≤ 5) →
      wX_evaluate_19 post (nI (x0 * 32 + j0)) (mu + 1) (nI it) (nI N) (nI C) (nI U) op (nI S) (nI (l + 1)) lv fn fi K A Ow O P L cl rt en ss so sp ww lw vi vv ps pv pt := by
  have hb := h.1
  have hA := h.2.2.2.2.1
  have hcl := h.2.1
  intro mu
  induction mu with
  | zero => intro it l ps pv pt vi vv px pj h1; omega
  | succ mu ih =>
    intro it l ps pv pt vi vv px pj hmu hit hroom hX h012 h1p hed h5
    obtain ⟨w1, w2, w3, w4, w5⟩ := hX l (by omega)
    obtain ⟨r1, r2, r3, r4, r5, r6, r7⟩ := h.2.2.1 (px l) w1 w2
    have hsrt := hj.1 (px l) w1 w2
    have en' : en (px l) = nI (R (px l) + (E (px l) - R (px l))) := by rw [hE]; congr 1; omega
    have e0 : ∀ q, q < 256 → ps q = 0 → 1 ≤ zp_n0 ps := fun q hq hz => zg_cn_pos (by show decide (ps q = 0) = true; rw [hz]; rfl) 256 hq
    have dem : ∀ (vi' : Nat → Int32) (c z m : Nat), zs_vis K vi' (R (px l)) (nI (pj l)) (E (px l) - R (px l)) → zs_first (zf_D K A vi' ps) (R (px l)) (R (px l) + (E (px l) - R (px l))) (nI c) → c < 96 → z < N → m < 2 ^ 30 → A c = nI z → vi' c = nI m →
        zw_E K A O Ow cl U (px l) z ((m : Int) - pj l) ∧ (nt → m ≤ 5) := by
      intro vi' c z m hv hf hc hz hm ez em
      obtain ⟨f1, f2, f3⟩ := zf_c (by omega) (by omega) hf
      obtain ⟨i, rfl⟩ : ∃ i, c = R (px l) + i := ⟨c - R (px l), by omega⟩
      have hvo := (zt_vo r1 (by omega) w3 r4 hsrt hv (i + 1) i (by omega) (by omega) f3.2.1).1
      rw [em, nI_toInt (by omega)] at hvo
      refine ⟨⟨R (px l) + i, by omega, f3.1, r7 _ (by omega) (by omega), w2, ez, by omega, by omega, by omega⟩, fun hn => ?_⟩
      have h6 := zt_nt r1 (by omega) r4 (fun c a b => hnt hn c (by omega)) (i + 1) i (by omega) (by omega)
      have h7 := h5 hn l (by omega)
      omega
    refine br_f (nI_ge (b := 1000000) (by omega) (by decide)) (br_f (nI_nle (by omega) (by omega)) ?_)
    refine zx_walk (x := px l) (r := R (px l)) (n := E (px l) - R (px l)) (j := pj l) (l := l) (by omega) r1 (by omega) (by omega) w3 (by omega) (by omega) (by omega) (hR _) en' r4 r5 hA w4 (fun q hq hz => by have := e0 q hq hz; omega) h012
      (fun vi' vv' hv hf hvv => br_t rfl (nm_r (nI_1 it) ?_))
      (fun vi' c z m hv hf hc hz hm ez em h32 => br_f (by decide) (hp2 (fun hn => ?_) _ _ _ _ _ _ _ _ _))
      (fun vi' c z m hv hf hc hz hm ez em hp1 => ?_)
      (fun vi' c z m hv hf hc1 hc2 hk hz hm ez em hp0 => br_t rfl (nm_r (nI_1 it) ?_))
    · cases l with
      | zero =>
        exact br_f (nI_ge (b := 1000000) (by omega) (by decide)) (br_t (by decide) ⟨vp_in_nI hw256 (by omega), hp0 _ _ _ _ _ _ _⟩)
      | succ l =>
        have hn0 := zp_n0_fin (PS := ps) w5
        refine ih (it + 1) l _ _ _ _ _ px pj (by rw [hn0]; omega) (by omega) (by rw [hn0]; omega) (fun i hi => ?_) (fun q hq => ?_) (fun q hq hq1 => ?_) (fun i hi => hed i (by omega)) (fun hn i hi => h5 hn i (by omega))
        · obtain ⟨v1, v2, v3, v4, v5⟩ := hX i (by omega)
          refine ⟨v1, v2, v3, v4, ?_⟩
          by_cases e : px i * 32 + pj i = px (l + 1) * 32 + pj (l + 1)
          · rw [e, pk_us]; decide
          · rw [pk_un e]; exact v5
        · by_cases e : q = px (l + 1) * 32 + pj (l + 1)
          · rw [e, pk_us]; exact Or.inr (Or.inr rfl)
          · rw [pk_un e]; exact h012 q hq
        · by_cases e : q = px (l + 1) * 32 + pj (l + 1)
          · rw [e, pk_us] at hq1; exact absurd hq1 (by decide)
          · rw [pk_un e] at hq1
            obtain ⟨i, hi, ei⟩ := h1p q hq hq1
            refine ⟨i, ?_, ei⟩
            by_cases el : i = l + 1
            · rw [el] at ei; exact absurd ei e
            · omega
    · have := (dem vi' c z m hv hf hc hz hm ez em).2 hn
      omega
    · exfalso
      have hedge := (dem vi' c z m hv hf hc hz (by omega) ez em).1
      obtain ⟨i, hi, ei⟩ := h1p (z * 32 + m) (by omega) hp1
      obtain ⟨v1, v2, v3, v4, v5⟩ := hX i hi
      have ez' : px i = z := by omega
      have em' : pj i = m := by omega
      have hp := zw_path (E := zw_E K A O Ow cl U) (px := px) (pj := pj) (l - i) i (fun k a b => hed k (by omega))
      rw [show i + (l - i) = l by omega] at hp
      have := hneg (l - i + 1) (by omega) (px i) 0 v1 ⟨px l, _, _, hp, by rw [ez']; exact hedge, by rw [em']; omega⟩
      omega
    · have hq256 : z * 32 + m < 256 := by omega
      have hn0 := zp_n0_start (PS := ps) hq256 hp0
      have hclz : cl z = 1 := by
        have := hc0 c (by omega) hk
        rw [ez, nI_clamp (by omega)] at this
        exact (hcl z).resolve_left this
      have hdem := dem vi' c z m hv hf (by omega) hz (by omega) ez em
      refine ih (it + 1) (l + 1) _ _ _ _ _ (zi_un px (l + 1) z) (zi_un pj (l + 1) m) (by omega) (by omega) (by omega) (fun i hi => ?_) (fun q hq => ?_) (fun q hq hq1 => ?_) (fun i hi => ?_) (fun hn i hi => ?_)
      · by_cases e : i = l + 1
        · rw [e, zi_uns, zi_uns, pk_us, pk_us]; exact ⟨hz, hclz, hm, rfl, by decide⟩
        · rw [zi_unn e, zi_unn e, pk_un e]
          obtain ⟨v1, v2, v3, v4, v5⟩ := hX i (by omega)
          refine ⟨v1, v2, v3, v4, ?_⟩
          by_cases e' : px i * 32 + pj i = z * 32 + m
          · rw [e', pk_us]; decide
          · rw [pk_un e']; exact v5
      · by_cases e : q = z * 32 + m
        · rw [e, pk_us]; exact Or.inr (Or.inl rfl)
        · rw [pk_un e]; exact h012 q hq
      · by_cases e : q = z * 32 + m
        · exact ⟨l + 1, by omega, by rw [zi_uns, zi_uns]; exact e⟩
        · rw [pk_un e] at hq1
          obtain ⟨i, hi, ei⟩ := h1p q hq hq1
          exact ⟨i, by omega, by rw [zi_unn (by omega), zi_unn (by omega)]; exact ei⟩
      · by_cases e : i = l
        · subst e
          rw [zi_uns, zi_uns, zi_unn (by omega), zi_unn (by omega)]; exact hdem.1
        · rw [zi_unn (by omega), zi_unn (by omega), zi_unn (by omega), zi_unn (by omega)]; exact hed i (by omega)
      · by_cases e : i = l + 1
        · rw [e, zi_uns]; exact hdem.2 hn
        · rw [zi_unn e]; exact h5 hn i (by omega)
theorem zd_eval {post : Int32 → St2 → Prop} {x j : Nat} {nt : Prop} (hR : ∀ n, rt n = nI (R n)) (hE : ∀ n, en n = nI (E n)) (h : zi_inv N C U S op K A P O L Ow cl so sp R E) (hj : zj_inv N U op K ss cl R E) (hop : op = -1) (hU0 : U ≠ 0) (hc0 : ∀ c, c < U → K c = 11 → ¬ cl (A c).toNatClampNeg = 0)
    (hnt : nt → ∀ c, c < U → K c ≠ 7) (hneg : ∀ l, 1 ≤ l → ∀ a w, a < N → zw_k (zw_E K A O Ow cl U) l a a w → w < 0) (hx : x < N) (hj5 : j ≤ 5) (hp4 : cl x = 0 → post 4 ((nI N), (nI C), (nI U), op, (nI S), pl, lv, fn, fi, K, A, Ow, O, P, L, cl, rt, en, ss, so, sp, ww, lw, vi, vv, ps, pv, pt))
    (hp0 : cl x = 1 → ∀ (lv pl : Int32) (vi vv ps pv pt : Nat → Int32), post 0 ((nI N), (nI C), (nI U), op, (nI S), pl, lv, (-1), (-1), K, A, Ow, O, P, L, cl, rt, en, ss, so, sp, ww, lw, vi, vv, ps, pv, pt)) (hp2 : cl x = 1 → ¬ nt → ∀ (lv fn fi pl : Int32) (vi vv ps pv pt : Nat → Int32), post 2 ((nI N), (nI C), (nI U), op, (nI S), pl, lv, fn, fi, K, A, Ow, O, P, L, cl, rt, en, ss, so, sp, ww, lw, vi, vv, ps, pv, pt)) : wpX_eval post ((nI N), (nI C), (nI U), op, (nI S), pl, lv, fn, fi, K, A, Ow, O, P, L, cl, rt, en, ss, so, sp, ww, lw, vi, vv, ps, pv, pt) (nI x) (nI j) := by
  have hb := h.1
  have hN8 : N ≤ 8 := hb.2.1
  obtain ⟨r, hr, hX⟩ := zd_obs (lv := lv) (fn := fn) (fi := fi) (pl := pl) (rt := rt) (en := en) (ss := ss) (ww := ww) (lw := lw) (vi := vi) (vv := vv) (ps := ps) (pv := pv) (pt := pt) h
  have hr0 := hr.mpr ⟨hop, hU0, hc0⟩
  unfold wpX_eval
  refine hX _ (br_t hr0 ?_)
  unfold wpX_defined
  have hin : vp_in (nI x) 8 := vp_in_nI (by omega) (by omega)
  have ex : (nI x).toNatClampNeg = x := nI_clamp (by omega)
  refine zx_nm1 hx hN8 (br_f zn_10 ⟨hin, ?_⟩)
  rcases h.2.1 x with hc | hc
  · exact br_t (by rw [ex]; exact hc) (br_t rfl (hp4 hc))
  · refine br_f (by rw [ex, hc]; decide) (br_f zn_10 (br_f (nI_pos (by omega)) (br_t (nI_lt (b := 32) (by omega) (by decide)) ?_)))
    have hq256 : x * 32 + j < 256 := by omega
    have eq : nI x * 32 + nI j = nI (x * 32 + j) := by rw [show (32 : Int32) = nI 32 from rfl, pk_mul, nI_add]
    refine nm_r (e' := nI (x * 32 + j)) eq ⟨_, zx_forget (fun ps' hps => zx_startp (l := 0) hq256 (by omega) ⟨2 * zp_n0 (upd ps' (x * 32 + j) 1) + (0 + 1) + 1, ?_⟩) 256 0 _ (by omega) (fun q hq => absurd hq (Nat.not_lt_zero q))⟩
    have hn := zp_n0_start (PS := ps') hq256 (hps _ hq256)
    have hn' := zp_n0_le ps'
    refine zd_loop (nt := nt) hR hE h hj hc0 hnt hneg hq256 (hp0 hc) (hp2 hc) _ 0 0 _ _ _ _ _ (fun _ => x) (fun _ => j) rfl (by omega) (by omega) (fun i hi => ?_) (fun q hq => ?_) (fun q hq hq1 => ?_) (fun i hi => absurd hi (Nat.not_lt_zero i)) (fun _ i _ => hj5)
    · obtain rfl : i = 0 := by omega
      exact ⟨hx, hc, (by show j < 32; omega), pk_us, by show upd ps' (x * 32 + j) 1 (x * 32 + j) ≠ 0; rw [pk_us]; decide⟩
    · by_cases e : q = x * 32 + j
      · rw [e, pk_us]; exact Or.inr (Or.inl rfl)
      · rw [pk_un e]; exact Or.inl (hps q hq)
    · by_cases e : q = x * 32 + j
      · exact ⟨0, by omega, e⟩
      · rw [pk_un e, hps q hq] at hq1; exact absurd hq1 (by decide)
end Z22
