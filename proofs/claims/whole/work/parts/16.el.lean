/-! eval: the loop and the call -/
section Z16
variable {N C U S : Nat} {op lv fn fi pl yne ysp yvsp ypn : Int32}
variable {K A Ow O P L cl rt en ss so sp ds ww lw vi vv ps pv pt yef yet yew yb ynb yv yx ysv ysi yvs ymo ymv yip ypN ypI : Nat → Int32}
variable {R E : Nat → Nat}
theorem ze_loop {Q : (Int32 → SY → Prop) → Prop} {kk x0 j0 : Nat} (hR : ∀ n, rt n = nI (R n)) (hD : ∀ n, ds n = nI (R n - 1)) (hE : ∀ n, en n = nI (E n)) (h : zi_inv N C U S op K A P O L Ow cl so sp R E) (hc0 : ∀ c, c < U → K c = 11 → ¬ cl (A c).toNatClampNeg = 0) :
    ∀ mu it l (ps pv pt vi vv : Nat → Int32) (px pj : Nat → Nat), 2 * zp_n0 ps + (l + 1) = mu → it + mu ≤ 512 → (l + 1) + zp_n0 ps ≤ 256 → ze_X N cl ps pt px pj (l + 1) → px 0 = x0 → pj 0 = j0 → (∀ q, q < 256 → ps q = 0 ∨ ps q = 1 ∨ ps q = 2) →
      (∀ p : Int32 → SY → Prop, (∀ (ysp yvsp : Int32) (yv yx ysv ysi yvs ymo ymv yip ypN ypI : Nat → Int32), ze_Y ps pv px pj (l + 1) ymo ymv yip ypN ypI → wY_eval_111 p (mu + 1) (nI it) (nI N) (nI C) (nI U) op (nI S) yne ysp yvsp (nI (l + 1)) lv fn fi K A cl ds en ss yef yet yew yb ynb yv yx ysv ysi yvs ymo ymv yip ypN ypI) → Q p) →
      wX_evaluate_19 (fun r u' => Q (fun r' v' => r' = r ∧ i_Rel kk u' v')) (nI (x0 * 32 + j0)) (mu + 1) (nI it) (nI N) (nI C) (nI U) op (nI S) (nI (l + 1)) lv fn fi K A Ow O P L cl rt en ss so sp ww lw vi vv ps pv pt := by
  have hb := h.1
  have hA := h.2.2.2.2.1
  have hcl := h.2.1
  intro mu
  induction mu with
  | zero => intro it l ps pv pt vi vv px pj h1; omega
  | succ mu ih =>
    intro it l ps pv pt vi vv px pj hmu hit hroom hX hx0 hj0 h012 YR
    obtain ⟨w1, w2, w3, w4, w5⟩ := hX l (by omega)
    obtain ⟨r1, r2, r3, r4, r5, r6, r7⟩ := h.2.2.1 (px l) w1 w2
    have hx00 := hX 0 (by omega)
    rw [hx0, hj0] at hx00
    have hw256 : x0 * 32 + j0 < 256 := by omega
    have en' : en (px l) = nI (R (px l) + (E (px l) - R (px l))) := by rw [hE]; congr 1; omega
    have e0 : ∀ q, q < 256 → ps q = 0 → 1 ≤ zp_n0 ps := fun q hq hz => zg_cn_pos (by show decide (ps q = 0) = true; rw [hz]; rfl) 256 hq
    refine br_f (nI_ge (b := 1000000) (by omega) (by decide)) (br_f (nI_nle (by omega) (by omega)) ?_)
    refine zx_walk (x := px l) (r := R (px l)) (n := E (px l) - R (px l)) (j := pj l) (l := l) (by omega) r1 (by omega) (by omega) w3 (by omega) (by omega) (by omega) (hR _) en' r4 r5 hA w4 (fun q hq hz => by have := e0 q hq hz; omega) h012
      (fun vi' vv' hv hf hvv => br_t rfl (nm_r (nI_1 it) ?_))
      (fun vi' c z m hv hf hc hz hm ez em h32 => br_f (by decide) (YR _ (fun _ _ _ _ _ _ _ _ _ _ _ _ hY => zy_dem (V := vi') (P := P) (O := O) (L := L) (by omega) r1 (by omega) w3 (by omega) (by omega) (by omega) (by omega) (by omega) (hD _) en' r4 hA hv hf hc (by omega) hm ez em rfl rfl hY (fun _ _ _ _ _ _ _ _ => ⟨rfl, zr_mk hR hD hE h⟩) (fun a => by omega) (fun a => by omega) (fun a => by omega))))
      (fun vi' c z m hv hf hc hz hm ez em hp1 => br_f (by decide) (YR _ (fun _ _ _ _ _ _ _ _ _ _ _ _ hY => zy_dem (V := vi') (P := P) (O := O) (L := L) (by omega) r1 (by omega) w3 (by omega) (by omega) (by omega) (by omega) (by omega) (hD _) en' r4 hA hv hf hc (by omega) (by omega) ez em rfl rfl hY (fun a => by omega) (fun _ _ _ _ _ _ _ _ _ => ⟨rfl, zr_mk hR hD hE h⟩) (fun _ a => by rw [hp1] at a; exact absurd a (by decide)) (fun _ => Or.inr hp1))))
      (fun vi' c z m hv hf hc1 hc2 hk hz hm ez em hp0 => br_t rfl (nm_r (nI_1 it) ?_))
    · cases l with
      | zero =>
        refine br_f (nI_ge (b := 1000000) (by omega) (by decide)) (br_t (by decide) ⟨vp_in_nI hw256 (by omega), YR _ (fun _ _ _ _ _ _ _ _ _ _ _ _ hY => zy_fin (V := vi') (VV := vv') (P := P) (O := O) (L := L) (by omega) r1 (by omega) (by omega) w3 (by omega) (by omega) (by omega) (by omega) (by omega) (hD _) en' r4 r5 hA hv hf hvv rfl rfl hY (fun _ _ _ _ _ _ _ _ => ⟨rfl, ?_⟩) (fun a => absurd rfl a))⟩)
        have ev : upd pv (px 0 * 32 + pj 0) (vv' (R (px 0))) (nI (x0 * 32 + j0)).toNatClampNeg = vv' (R (px 0)) := by rw [nI_clamp (by omega), ← hx0, ← hj0, pk_us]
        rw [ev]
        exact zr_mk hR hD hE h
      | succ l =>
        have hn0 := zp_n0_fin (PS := ps) w5
        refine ih (it + 1) l _ _ _ _ _ px pj (by rw [hn0]; omega) (by omega) (by rw [hn0]; omega) (fun i hi => ?_) hx0 hj0 (fun q hq => ?_) (fun p H => YR p (fun _ _ _ _ _ _ _ _ _ _ _ _ hY => zy_fin (V := vi') (VV := vv') (P := P) (O := O) (L := L) (by omega) r1 (by omega) (by omega) w3 (by omega) (by omega) (by omega) (by omega) (by omega) (hD _) en' r4 r5 hA hv hf hvv rfl rfl hY (fun a => absurd a (by omega)) (fun _ _ _ _ _ _ _ _ => H _ _ _ _ _ _ _ _ _ _ _ _ ⟨zp_fin hY.1, fun i hi => hY.2 i (by omega)⟩)))
        · obtain ⟨v1, v2, v3, v4, v5⟩ := hX i (by omega)
          refine ⟨v1, v2, v3, v4, ?_⟩
          by_cases e : px i * 32 + pj i = px (l + 1) * 32 + pj (l + 1)
          · rw [e, pk_us]; decide
          · rw [pk_un e]; exact v5
        · by_cases e : q = px (l + 1) * 32 + pj (l + 1)
          · rw [e, pk_us]; exact Or.inr (Or.inr rfl)
          · rw [pk_un e]; exact h012 q hq
    · have hq256 : z * 32 + m < 256 := by omega
      have hn0 := zp_n0_start (PS := ps) hq256 hp0
      have hclz : cl z = 1 := by
        have := hc0 c (by omega) hk
        rw [ez, nI_clamp (by omega)] at this
        exact (hcl z).resolve_left this
      refine ih (it + 1) (l + 1) _ _ _ _ _ (zi_un px (l + 1) z) (zi_un pj (l + 1) m) (by omega) (by omega) (by omega) (fun i hi => ?_) (by rw [zi_unn (by omega)]; exact hx0) (by rw [zi_unn (by omega)]; exact hj0) (fun q hq => ?_)
        (fun p H => YR p (fun _ _ _ _ _ _ _ _ _ _ ypN' ypI' hY => zy_dem (V := vi') (P := P) (O := O) (L := L) (by omega) r1 (by omega) w3 (by omega) (by omega) (by omega) (by omega) (by omega) (hD _) en' r4 hA hv hf (by omega) (by omega) (by omega) ez em rfl rfl hY (fun a => by omega) (fun _ a => by rw [hp0] at a; exact absurd a (by decide)) (fun _ _ _ _ _ _ _ _ _ => H _ _ _ _ _ _ _ _ _ _ _ _ ⟨zp_start hY.1 hq256 hp0, fun i hi => ?_⟩) (fun _ => Or.inl hp0)))
      · by_cases e : i = l + 1
        · rw [e, zi_uns, zi_uns, pk_us, pk_us]; exact ⟨hz, hclz, hm, rfl, by decide⟩
        · rw [zi_unn e, zi_unn e, pk_un e]
          obtain ⟨v1, v2, v3, v4, v5⟩ := hX i (by omega)
          refine ⟨v1, v2, v3, v4, ?_⟩
          by_cases e' : px i * 32 + pj i = z * 32 + m
          · rw [e', pk_us]; decide
          · rw [pk_un e']; exact v5
      · by_cases e : q = z * 32 + m
        · rw [e, pk_us]; exact Or.inr (Or.inl rfl)
        · rw [pk_un e]; exact h012 q hq
      · by_cases e : i = l + 1
        · rw [e, zi_uns, zi_uns, pk_us, pk_us]; exact ⟨rfl, rfl⟩
        · rw [zi_unn e, zi_unn e, pk_un e, pk_un e]; exact hY.2 i (by omega)
theorem zx_forget {post : SX → Prop} (hp : ∀ ps', (∀ q, q < 256 → ps' q = 0) → post ((nI N), (nI C), (nI U), op, (nI S), 0, lv, fn, fi, K, A, Ow, O, P, L, cl, rt, en, ss, so, sp, ww, lw, vi, vv, ps', pv, pt)) : ∀ d i ps, i + d = 256 → (∀ q, q < i → ps q = 0) → wX_forgetPairs_2 post (nI N) (nI C) (nI U) op (nI S) pl lv fn fi (d + 1) (nI i) K A Ow O P L cl rt en ss so sp ww lw vi vv ps pv pt := by
  intro d
  induction d with
  | zero => intro i ps hi hz; obtain rfl : i = 256 := by omega
            exact br_t (by decide) (hp ps hz)
  | succ d ih =>
    intro i ps hi hz
    have e : (nI i).toNatClampNeg = i := nI_clamp (by omega)
    refine br_f (nI_ge (b := 256) (by omega) (by decide)) ⟨vp_in_nI (by omega) (by omega), nm_r (e' := upd ps i 0) (by rw [e]) (nm_r (nI_1 i) (ih (i + 1) _ (by omega) (fun q hq => ?_)))⟩
    by_cases eq : q = i
    · rw [eq, pk_us]
    · rw [pk_un eq]; exact hz q (by omega)
theorem zy_47 {p : Int32 → SY → Prop} {x j F : Nat} (hx : x < 8) (hj : j < 32) (hp : ∀ mo ip, (∀ q, q < 256 → mo q = 0 ∧ ip q = 0) → wY_eval_111 p F 0 (nI N) (nI C) (nI U) op (nI S) yne ysp yvsp 1 lv fn fi K A cl ds en ss yef yet yew yb ynb yv yx ysv ysi yvs mo ymv (upd ip (x * 32 + j) 1) (upd ypN 0 (nI x)) (upd ypI 0 (nI j))) :
    ∀ d i mo ip, i + d = 256 → (∀ q, q < i → mo q = 0 ∧ ip q = 0) → wY_eval_47 p (nI x) (nI j) (nI N) (nI C) (nI U) op (nI S) yne ysp yvsp ypn lv fn fi (d + 1) (nI i) K A cl ds en ss yef yet yew yb ynb yv yx ysv ysi yvs mo ymv ip ypN ypI := by
  have eq : nI x * 32 + nI j = nI (x * 32 + j) := by rw [show (32 : Int32) = nI 32 from rfl, pk_mul, nI_add]
  have e2 : (nI x * 32 + nI j).toNatClampNeg = x * 32 + j := by rw [eq]; exact nI_clamp (by omega)
  intro d
  induction d with
  | zero =>
    intro i mo ip hi hz
    obtain rfl : i = 256 := by omega
    exact br_t (by decide) (nm_e (nm_e ⟨by rw [eq]; exact vp_in_nI (by omega) (by omega), nm_r (e' := upd ip (x * 32 + j) 1) (by rw [e2, zb_1]) ⟨F, hp mo ip hz⟩⟩))
  | succ d ih =>
    intro i mo ip hi hz
    have e : (nI i).toNatClampNeg = i := nI_clamp (by omega)
    have hin : vp_in (nI i) 256 := vp_in_nI (by omega) (by omega)
    refine br_f (nI_ge (b := 256) (by omega) (by decide)) ⟨hin, nm_r (e' := upd mo i 0) (by rw [e, zb_0]) ⟨hin, nm_r (e' := upd ip i 0) (by rw [e, zb_0]) (nm_r (nI_1 i) (ih (i + 1) _ _ (by omega) (fun q hq => ?_)))⟩⟩
    by_cases eq : q = i
    · rw [eq, pk_us, pk_us]; exact ⟨rfl, rfl⟩
    · rw [pk_un eq, pk_un eq]; exact hz q (by omega)
theorem i_vc_eval {k : Nat} {u : SX} {v : SY} (I : i_Rel k u v) (hk : k + 3 ≤ 1538) (v1 : Int32) (v2 : Int32) : wpX_eval (fun r u' => wpY_eval (fun r' v' => r' = r ∧ i_Rel (k + 3) u' v') v v1 v2) u v1 v2 := by
  have J := i_up I
  obtain ⟨N, C, U, S, op, lv, fn, fi, K, A, Ow, O, P, L, cl, rt, en, ss, so, sp, ds, R, E, pl, ww, lw, vi, vv, ps, pv, pt, yne, ysp, yvsp, ypn, yef, yet, yew, yb, ynb, yv, yx, ysv, ysi, yvs, ymo, ymv, yip, ypN, ypI, rfl, rfl, hR, hD, hE, h⟩ := I
  have hb := h.1
  have hN8 : N ≤ 8 := hb.2.1
  obtain ⟨r, hr0, hX, hY⟩ := zo_obs (lv := lv) (fn := fn) (fi := fi) (pl := pl) (yne := yne) (ysp := ysp) (yvsp := yvsp) (ypn := ypn) (rt := rt) (en := en) (ss := ss) (ds := ds) (ww := ww) (lw := lw) (vi := vi) (vv := vv) (ps := ps) (pv := pv) (pt := pt) (yef := yef) (yet := yet) (yew := yew) (yb := yb) (ynb := ynb) (yv := yv) (yx := yx) (ysv := ysv) (ysi := ysi) (yvs := yvs) (ymo := ymo) (ymv := ymv) (yip := yip) (ypN := ypN) (ypI := ypI) h
  unfold wpX_eval
  refine hX _ ?_
  by_cases hr : r = 0
  · obtain ⟨hop, hc0⟩ := hr0 hr
    refine br_t hr ?_
    unfold wpX_defined
    by_cases hv : v1 < 0 ∨ nI N ≤ v1
    · refine zx_nm0 hv (br_t rfl (br_t rfl ?_))
      unfold wpY_eval
      refine hY _ (br_t hr ?_)
      by_cases h0 : v1 < 0
      · exact br_t h0 ⟨rfl, J⟩
      · exact br_f h0 (br_t (hv.resolve_left h0) ⟨rfl, J⟩)
    · obtain ⟨x, hx, rfl⟩ : ∃ j : Nat, j < N ∧ v1 = nI j := by
        rcases pk_ix v1 (n := N) (by omega) with h | h | h
        · exact absurd (Or.inl h) hv
        · exact absurd (Or.inr h) hv
        · exact h
      have hin : vp_in (nI x) 8 := vp_in_nI (by omega) (by omega)
      have ex : (nI x).toNatClampNeg = x := nI_clamp (by omega)
      have hx0 : ¬ nI x < 0 := nI_pos (by omega)
      have hxN : ¬ nI N ≤ nI x := nI_ge hx (by omega)
      refine zx_nm1 hx hN8 (br_f zn_10 ⟨hin, ?_⟩)
      by_cases hc : cl (nI x).toNatClampNeg = 0
      · refine br_t hc (br_t rfl ?_)
        unfold wpY_eval
        refine hY _ (br_t hr (br_f hx0 (br_f hxN ?_)))
        by_cases h1 : v2 < 0
        · exact br_t h1 ⟨rfl, J⟩
        · refine br_f h1 ?_
          by_cases h2 : (32 : Int32) ≤ v2
          · exact br_t h2 ⟨rfl, J⟩
          · exact br_f h2 ⟨hin, br_t hc ⟨rfl, J⟩⟩
      · refine br_f hc (br_f zn_10 ?_)
        rw [ex] at hc
        have hc1 : cl x = 1 := (h.2.1 x).resolve_left hc
        by_cases h1 : v2 < 0
        · refine br_t h1 ?_
          unfold wpY_eval
          exact hY _ (br_t hr (br_f hx0 (br_f hxN (br_t h1 ⟨rfl, J⟩))))
        · refine br_f h1 ?_
          by_cases h2 : v2 < 32
          · obtain ⟨j, hj', rfl⟩ := nI_of h1
            have hj : j < 32 := (nI_ltI (b := 32) hj' (by omega)).mp h2
            have hnc : ¬ cl (nI x).toNatClampNeg = 0 := by rw [ex]; exact hc
            have hq256 : x * 32 + j < 256 := by omega
            have h32 : ¬ (32 : Int32) ≤ nI j := nI_ge (b := 32) hj (by decide)
            have eq : nI x * 32 + nI j = nI (x * 32 + j) := by rw [show (32 : Int32) = nI 32 from rfl, pk_mul, nI_add]
            refine br_t h2 (nm_r (e' := nI (x * 32 + j)) eq ⟨_, zx_forget (fun ps' hps => zx_startp (l := 0) hq256 (by omega) ⟨2 * zp_n0 (upd ps' (x * 32 + j) 1) + (0 + 1) + 1, ?_⟩) 256 0 _ (by omega) (fun q hq => absurd hq (Nat.not_lt_zero q))⟩)
            have hn := zp_n0_start (PS := ps') hq256 (hps _ hq256)
            have hn' := zp_n0_le ps'
            refine ze_loop (Q := fun p => wpY_eval p ((nI N), (nI C), (nI U), op, (nI S), yne, ysp, yvsp, ypn, lv, fn, fi, K, A, cl, ds, en, ss, yef, yet, yew, yb, ynb, yv, yx, ysv, ysi, yvs, ymo, ymv, yip, ypN, ypI) (nI x) (nI j)) (yne := yne) (yef := yef) (yet := yet) (yew := yew) (yb := yb) (ynb := ynb) hR hD hE h hc0 _ 0 0 _ _ _ _ _ (fun _ => x) (fun _ => j) rfl (by omega) (by omega) (fun i hi => ?_) rfl rfl (fun q hq => ?_) (fun p H => ?_)
            · obtain rfl : i = 0 := by omega
              exact ⟨hx, hc1, hj, pk_us, by rw [pk_us]; decide⟩
            · by_cases e : q = x * 32 + j
              · rw [e, pk_us]; exact Or.inr (Or.inl rfl)
              · rw [pk_un e]; exact Or.inl (hps q hq)
            · show wpY_eval p _ _ _
              unfold wpY_eval
              refine hY _ (br_t hr (br_f hx0 (br_f hxN (br_f h1 (br_f h32 ⟨hin, br_f hnc ⟨_, zy_47 (by omega) hj (fun mo ip hz => H _ _ _ _ _ _ _ _ _ _ _ _ ⟨fun q hq => ?_, fun i hi => ?_⟩) 256 0 _ _ (by omega) (fun q hq => absurd hq (Nat.not_lt_zero q))⟩⟩)))))
              · by_cases e : q = x * 32 + j
                · rw [e, pk_us, pk_us]; exact Or.inr (Or.inl ⟨rfl, (hz _ hq256).1, rfl⟩)
                · rw [pk_un e, pk_un e]; exact Or.inl ⟨hps q hq, (hz q hq).1, (hz q hq).2⟩
              · obtain rfl : i = 0 := by omega
                exact ⟨pk_us, pk_us⟩
          · refine br_f h2 ?_
            unfold wpY_eval
            exact hY _ (br_t hr (br_f hx0 (br_f hxN (br_f h1 (br_t (Int32.not_lt.mp h2) ⟨rfl, J⟩)))))
  · refine br_f hr ?_
    unfold wpY_eval
    exact hY _ (br_f hr ⟨rfl, J⟩)
end Z16
