/-! Undo, images, what was seen; the log and the plans told. -/
section PASTC
variable {n z : Nat} {D D' : Dyn} {m m' m1 : MI} {j j' : MJ} {r r' : MR} {tp tp' : TP} {C P : Nat} {τ σ σ' : Sg} {lg lg' : LG} {acts lt : Nat} {hs : Nat → Sg} {img : Bool} {σI : Sg} {lgI : LG} {A held held' : Nat} {tx : Nat → Nat → Nat} {ln : Nat → Nat} {cls : CLS} {B : Nat} {pls : Nat → List ST} {dg dg' sn sn' : Nat} {sw sw' : Nat → Nat → Nat} {x y : Int32} {k a b : Nat} {pl : Pl}
theorem K_undo (hw : WIv C P τ σ lg acts hs img σI lgI A held tx ln cls B pls dg sn sw) (hc : CIv n D m r tp C P τ σ lg acts lt hs img σI lgI A held cls B pls dg sn sw) (hv : MIv m j tp C P τ σ lg acts hs img σI lgI A held tx ln cls B pls dg sn sw) (hn : n ≤ 1000000) : CALX 0 0 n z D m j r (f_X11_undo 0) (f_X12_undo 72) := by
  have hC := hw.1.1
  have hP := hw.1.2.1
  obtain ⟨h1, h2, h3, h4, h5⟩ := hc.2.2.2.1
  by_cases h0 : acts = 0
  · refine CALL_q hw hc hv (fun m1 hm1 hv1 => ⟨no1, QC_e ?_, ?_⟩) hn
    · unfold f_X11_undo f_X11_undo_0
      simp (disch := omega) only [obs, cN_mk, ite_true, ite_false, if_true, if_false, q0, q39, h1, h0, l0, l1, no1_e, bI_t, bI_f, ieq_f, ile_t, ile_f, ilt_t, ilt_f]
    · unfold f_X12_undo f_X12_undo_0
      refine QM_s hm1 fun m2 he h2 => QM_e h2 ?_
      have y43 : m2 72 43 = Int32.ofNat acts := by rw [he, wI_sn (by omega)]; exact hv1.2.2.2.1
      simp (disch := omega) only [obs, cN_mk, ite_true, ite_false, if_true, if_false, q72, y43, h0, l0, l1, no1_e, bI_t, bI_f, ieq_f, ile_t, ile_f, ilt_t, ilt_f]
  · obtain ⟨d, rfl⟩ : ∃ d, acts = d + 1 := ⟨acts - 1, by omega⟩
    obtain ⟨⟨s, a1, a2⟩, a3⟩ := h5 d (by omega)
    have hsl : slt lt (d + 1) d = lt := by unfold slt; omega
    rw [hsl] at a1
    obtain ⟨s1, s2, s3⟩ := hc.2.2.2.2.2.2.1 lt h3 s a1
    obtain ⟨m1, e1, hM1, f1⟩ := C_copyFrom (n := n) (z := z) (m := m) (j := j) (r := r) (s := 27) (s' := s) isSt27 s1 (by omega) hC hP a2
    have g1 : m1 39 1 = Int32.ofNat lt := by rw [f1 39 (by omega)]; exact h2
    have g2 : m1 39 2 = Int32.ofNat (d + 1) := by rw [f1 39 (by omega)]; exact h1
    generalize hlt : (if lt = 0 then 39 else lt - 1) = lt'
    have hlt40 : lt' < 40 := by rw [← hlt]; split <;> omega
    have hsl2 : ∀ k, k < d → slt lt' d k = slt lt (d + 1) k := by
      intro k hk
      rw [← hlt]
      unfold slt
      split <;> omega
    have e46 : f_X1_restore 39 27 (mkH n z D m j r) = some ((), mkH n z D (wI (wI m1 39 1 (Int32.ofNat lt')) 39 2 (Int32.ofNat d)) j r) := by
      have gg : wI m1 39 1 (Int32.ofNat lt') 39 2 = Int32.ofNat (d + 1) := by rw [wI_sn (by omega)]; exact g2
      unfold f_X1_restore f_X1_restore_0
      by_cases hl : lt = 0
      · rw [if_pos hl] at hlt
        subst hlt
        subst hl
        simp (disch := omega) only [obs, cN_mk, ite_true, ite_false, if_true, if_false, q39, h2, p40, a1, h1, l0, l1, no1_e, bI_t, bI_f, ieq_f, ile_t, ile_f, ilt_t, ilt_f, q27]
        rw [e1, cN_mk]
        simp (disch := omega) only [obs, cN_mk, ite_true, ite_false, if_true, if_false, q39, l0, l1, no1_e, bI_t, bI_f, ieq_f, ile_t, ile_f, ilt_t, ilt_f, g1, f_X1_restore_46, l39, gg, i_sub, Nat.add_sub_cancel]
      · rw [if_neg hl] at hlt
        subst hlt
        simp (disch := omega) only [obs, cN_mk, ite_true, ite_false, if_true, if_false, q39, h2, p40, a1, h1, l0, l1, no1_e, bI_t, bI_f, ieq_f, ile_t, ile_f, ilt_t, ilt_f, q27]
        rw [e1, cN_mk]
        simp (disch := omega) only [obs, cN_mk, ite_true, ite_false, if_true, if_false, q39, l0, l1, no1_e, bI_t, bI_f, ieq_f, ile_t, ile_f, ilt_t, ilt_f, g1, f_X1_restore_46, gg, i_sub, Nat.add_sub_cancel]
    generalize hm2 : wI (wI m1 39 1 (Int32.ofNat lt')) 39 2 (Int32.ofNat d) = m2 at e46
    have f2 : ∀ a, ¬ (27 ≤ a ∧ a ≤ 32) → a ≠ 39 → m2 a = m a := fun a c1 c2 => by rw [← hm2, wI_ne c2, wI_ne c2, f1 a (by omega)]
    have i1 : m2 39 1 = Int32.ofNat lt' := by rw [← hm2, wI_sn (by omega), wI_se]
    have i2 : m2 39 2 = Int32.ofNat d := by rw [← hm2, wI_se]
    have i6 : m2 39 6 = m 39 6 := by rw [← hm2, wI_sn (by omega), wI_sn (by omega), f1 39 (by omega)]
    have hc2 : CIv n D m2 r tp C P τ (hs d) lg d lt' hs img σI lgI A held cls B pls dg sn sw := by
      obtain ⟨c1, c2, c3, c4, c5⟩ := hc
      refine ⟨CR_fr c1 c5 (fun a ha => f2 a (by omega) (by omega)) (fun i _ => by rw [f2 55 (by omega) (by omega)]) i6 (fun _ _ => rfl) (fun o _ ho _ => ⟨f2 o (by omega) (by omega), rfl⟩), by rw [← hm2]; exact CS_fr hM1 (fun a ha => by rw [wI_ne (by omega), wI_ne (by omega)]), by rw [f2 41 (by omega) (by omega)]; exact a3, ⟨i2, i1, hlt40, by omega, fun k hk => ?_⟩, c5⟩
      obtain ⟨⟨s', b1, b2⟩, b3⟩ := h5 k (by omega)
      have := c5.2.2.1 _ (show slt lt (d + 1) k < 40 by unfold slt; omega) s' b1
      exact ⟨⟨s', by rw [hsl2 k hk]; exact b1, CS_fr b2 (fun a ha => f2 a (by omega) (by omega))⟩, by rw [f2 41 (by omega) (by omega)]; exact b3⟩
    have hv1 := MI_c (m' := m2) (j' := j) hv (fun a c1 c2 => f2 a (by omega) (by omega)) rfl
    have hD := hD_of hc hn
    have hLM := LMok_d (n := n) (z := z) hD hw.2.2.2.2.2.1
    have y43 : (wI m2 72 0 (Int32.ofNat 0)) 72 43 = Int32.ofNat (d + 1) := by rw [wI_sn (by omega)]; exact hv1.2.2.2.1
    obtain ⟨m3, e3, f3, r3⟩ := M_undo26 (n := n) (z := z) (D := D) (j := j) (r := r) (acts := d) (by omega) 212 0 fu (wI (wI m2 72 0 (Int32.ofNat 0)) 72 43 (Int32.ofNat d)) (by omega) (by unfold fu; omega) wI_se
    have r3' : ∀ q, q < 212 → m3 85 q = m2 90 (212 * d + q) := fun q hq => by rw [r3 q hq, if_pos (by omega), wI_ne (by omega), wI_ne (by omega)]
    have f4 : ∀ a, a ≠ 85 → a ≠ 72 → m3 a = m2 a := fun a c1 c2 => by rw [f3 a c1, wI_ne c2, wI_ne c2]
    have f5 : ∀ i, i ≠ 0 → i ≠ 43 → m3 72 i = m2 72 i := fun i c1 c2 => by rw [f3 72 (by omega), wI_sn c2, wI_sn c1]
    have f43 : m3 72 43 = Int32.ofNat d := by rw [f3 72 (by omega), wI_se]
    obtain ⟨v1, v2, v3, v4⟩ := hv1
    have hl3 : LMd A held tx ln cls m3 j := hLM.2.1 m2 m3 j j v1.2.2.2.1 (fun a ha => f4 a (by omega) (by omega)) (f5 7 (by omega) (by omega)) (f5 34 (by omega) (by omega)) rfl
    have hrow := v4.2.2 d (by omega)
    have hv3 : MIv m3 j tp C P τ (hs d) lg d hs img σI lgI A held tx ln cls B pls dg sn sw := ⟨MR_fr v1 (fun a ha => f4 a (by omega) (by omega)) (fun i hi => f5 i (by omega) (by omega)) (fun q _ => by rw [f4 83 (by omega) (by omega)]) (fun q _ => by rw [f4 84 (by omega) (by omega)]) hl3 hw.2.2.2.2.2.2.1, MS_cg hrow.1 hC hP (fun q hq => r3' q (by omega)), MLg_cg hrow.2 (fun q _ hq => r3' q hq) (fun _ _ => rfl), ⟨f43, by omega, fun k hk => by rw [f4 90 (by omega) (by omega)]; exact v4.2.2 k (by omega)⟩⟩
    obtain ⟨w1, w2, w3, w4, w5⟩ := hw
    refine ⟨Int32.ofNat d, n, z, D, m2, j, r, m3, j, r, ?_, ?_, ⟨by omega, by omega⟩, ⟨by omega, by omega⟩, tp, C, P, τ, hs d, lg, d, lt', hs, img, σI, lgI, A, held, tx, ln, cls, B, pls, dg, sn, sw, ⟨w1, w4.1 d (by omega), w3, ⟨fun k hk => w4.1 k (by omega), fun k hk => w4.2.1 k (by omega), fun k hk => by have := w4.2.1 k (by omega); rw [hk] at this; exact this⟩, w5⟩, CI_m hc2 (fun a ha => f4 a (by omega) (by omega)) (fun _ _ => rfl), hv3⟩
    · unfold f_X11_undo f_X11_undo_0
      simp (disch := omega) only [obs, cN_mk, ite_true, ite_false, if_true, if_false, q0, q39, h1, l0, l1, no1_e, bI_t, bI_f, ieq_f, ile_t, ile_f, ilt_t, ilt_f, e46, i2]
    · unfold f_X12_undo f_X12_undo_0
      rw [thr0]
      simp (disch := omega) only [obs, cN_mk, ite_true, ite_false, if_true, if_false, q72, l0, l1, no1_e, bI_t, bI_f, ieq_f, ile_t, ile_f, ilt_t, ilt_f, y43, i_sub, Nat.add_sub_cancel, e3]
theorem K_image (hw : WIv C P τ σ lg acts hs img σI lgI A held tx ln cls B pls dg sn sw) (hc : CIv n D m r tp C P τ σ lg acts lt hs img σI lgI A held cls B pls dg sn sw) (hv : MIv m j tp C P τ σ lg acts hs img σI lgI A held tx ln cls B pls dg sn sw) (hn : n ≤ 1000000) : CALX 0 0 n z D m j r (f_X11_image 0) (f_X12_image 72) := by
  have hC := hw.1.1
  have hP := hw.1.2.1
  have hY := hc.1.2.1
  by_cases hP0 : P = 0
  · refine CALL_q hw hc hv (fun m1 hm1 hv1 => ⟨no1, QC_e ?_, ?_⟩) hn
    · unfold f_X11_image f_X11_image_0
      simp (disch := omega) only [obs, cN_mk, ite_true, ite_false, if_true, if_false, q0, C_hasCity hY hP, hP0, Nat.lt_irrefl, decide_false, l0, l1, no1_e, bI_t, bI_f, ieq_f, ile_t, ile_f, ilt_t, ilt_f]
    · unfold f_X12_image f_X12_image_0
      refine QM_s hm1 fun m2 he h2 => QM_e h2 ?_
      simp (disch := omega) only [obs, cN_mk, ite_true, ite_false, if_true, if_false, q72, h2.2.2.1.2.1, hP0, l0, l1, no1_e, bI_t, bI_f, ieq_f, ile_t, ile_f, ilt_t, ilt_f]
  have hd : decide (0 < P) = true := decide_eq_true (by omega)
  obtain ⟨m1, e1, hM1, f1⟩ := C_copyFrom (n := n) (z := z) (m := m) (j := j) (r := r) (s := 42) (s' := 27) isSt42 isSt27 (by omega) hC hP hc.2.1
  have ecp : aCpy (mkH n z D m1 j r) 41 0 48 0 (Int32.ofNat 100) = some (mkH n z D (cpR m1 48 (m1 41) 100) j r) := aCpy_mk (Nb := 100) rfl (aSrc_mk rfl) (Nat.le_refl _) (Nat.le_refl _) (by omega)
  generalize hm2 : wI (cpR m1 48 (m1 41) 100) 39 6 (Int32.ofNat 1) = m2
  have f2 : ∀ a, ¬ (42 ≤ a ∧ a ≤ 48) → a ≠ 39 → m2 a = m a := fun a c1 c2 => by rw [← hm2, wI_ne c2, cpR_n (by omega), f1 a (by omega)]
  have i39 : ∀ i, i ≠ 6 → m2 39 i = m 39 i := fun i hi => by rw [← hm2, wI_sn hi, cpR_n (by omega), f1 39 (by omega)]
  have hc2 : CIv n D m2 r tp C P τ σ lg acts lt hs true σ lg A held cls B pls dg sn sw := by
    obtain ⟨⟨h1, h2, h3, h4, h5, h6, h7⟩, c2, c3, c4, c5⟩ := hc
    refine ⟨⟨TC_w h1 (f2 1 (by omega) (by omega)) (f2 2 (by omega) (by omega)), YC_fr h2 (fun a ha => f2 a (by omega) (by omega)), ⟨by rw [← hm2, wI_se]; rfl, fun _ => ⟨by rw [← hm2]; exact CS_fr hM1 (fun a ha => by rw [wI_ne (by omega), cpR_n (by omega)]), fun e he1 he2 => ?_⟩⟩, LCd_fr h4 (by rw [f2 0 (by omega) (by omega)]) (by rw [f2 0 (by omega) (by omega)]) (fun o ho => f2 o (by omega) (by omega)), ⟨by rw [f2 0 (by omega) (by omega)]; exact h5.1, fun p hp => ?_⟩, by rw [f2 0 (by omega) (by omega)]; exact h6, SNc_w h7 (fun a d1 d2 => f2 a (by omega) (by omega))⟩, CS_fr c2 (fun a ha => f2 a (by omega) (by omega)), by rw [f2 41 (by omega) (by omega)]; exact c3, HC_fr c4 c5 (i39 1 (by omega)) (i39 2 (by omega)) (fun a ha => f2 a (by omega) (by omega)) (fun k _ hr => by rw [f2 41 (by omega) (by omega)]; exact hr), c5⟩
    · rw [← hm2, wI_ne (by omega), cpR_s, if_pos (Nat.mod_lt _ (by omega)), f1 41 (by omega)]
      exact c3 e he1 he2
    · obtain ⟨o, e, hg⟩ := h5.2 p hp
      exact ⟨o, e, PG_fr2 hg (f2 o (by have := hg.2.2.1; omega) (by have := hg.2.2.1; omega)) rfl⟩
  have hv1 := MI_c (m' := m2) (j' := j) hv (fun a c1 c2 => f2 a (by omega) (by omega)) rfl
  have hD := hD_of hc hn
  have hLM := LMok_d (n := n) (z := z) hD hw.2.2.2.2.2.1
  obtain ⟨m3, e3, f3, r3⟩ := M_image16 (n := n) (z := z) (D := D) (j := j) (r := r) 212 0 fu (wI m2 72 0 (Int32.ofNat 0)) (by omega) (by unfold fu; omega)
  have y27 : (wI m2 72 0 (Int32.ofNat 0)) 72 27 = Int32.ofNat P := by rw [wI_sn (by omega)]; exact hv1.1.2.1.2.1
  have y30 : (wI m2 72 0 (Int32.ofNat 0)) 85 30 = Int32.ofNat (σ 7 0) := by rw [wI_ne (by omega)]; exact hv1.2.1.2.2.2.2
  have f4 : ∀ a, a ≠ 93 → a ≠ 72 → wI m3 72 49 (Int32.ofNat 1) a = m2 a := fun a c1 c2 => by rw [wI_ne c2, f3 a c1, wI_ne c2]
  have f5 : ∀ i, i ≠ 0 → i ≠ 49 → wI m3 72 49 (Int32.ofNat 1) 72 i = m2 72 i := fun i c1 c2 => by rw [wI_sn c2, f3 72 (by omega), wI_sn c1]
  have r93 : ∀ q, q < 212 → wI m3 72 49 (Int32.ofNat 1) 93 q = m2 85 q := fun q hq => by rw [wI_ne (by omega), r3 q hq, if_pos (by omega), wI_ne (by omega)]
  obtain ⟨⟨v1, v2, v3, v4, v5, v6, v7⟩, v8, v9, v10⟩ := hv1
  have hv3 : MIv (wI m3 72 49 (Int32.ofNat 1)) j tp C P τ σ lg acts hs true σ lg A held tx ln cls B pls dg sn sw := by
    refine ⟨⟨TMd_w v1 (f5 6 (by omega) (by omega)) (f4 73 (by omega) (by omega)), YM_fr v2 (f4 77 (by omega) (by omega)) (f4 81 (by omega) (by omega)) (f5 26 (by omega) (by omega)) (f5 27 (by omega) (by omega)), ⟨wI_se, fun _ => ⟨MS_cg v8 hC hP (fun q hq => r93 q (by omega)), MLg_cg v9 (fun q _ hq => r93 q hq) (fun _ _ => rfl)⟩⟩, hLM.2.1 m2 _ j j v4 (fun a ha => f4 a (by omega) (by omega)) (f5 7 (by omega) (by omega)) (f5 34 (by omega) (by omega)) rfl, ?_, by rw [f5 35 (by omega) (by omega)]; exact v6, SNm_w v7 (f5 46 (by omega) (by omega)) (f4 91 (by omega) (by omega))⟩, by rw [f4 85 (by omega) (by omega)]; exact v8, by rw [f4 85 (by omega) (by omega)]; exact v9, HM_fr v10 (f5 43 (by omega) (by omega)) (f4 90 (by omega) (by omega)) (fun _ _ _ _ => rfl)⟩
    unfold PLm
    rw [f5 30 (by omega) (by omega), f4 83 (by omega) (by omega), f4 84 (by omega) (by omega)]
    exact v5
  obtain ⟨w1, w2, w3, w4, w5, w6⟩ := hw
  refine ⟨Int32.ofNat (σ 7 0), n, z, D, m2, j, r, wI m3 72 49 (Int32.ofNat 1), j, r, ?_, ?_, ⟨by omega, by omega⟩, ⟨by omega, by omega⟩, tp, C, P, τ, σ, lg, acts, lt, hs, true, σ, lg, A, held, tx, ln, cls, B, pls, dg, sn, sw, ⟨w1, w2, w3, w4, fun _ => ⟨w2, w3⟩, w6⟩, CI_m hc2 (fun a ha => f4 a (by omega) (by omega)) (fun _ _ => rfl), hv3⟩
  · unfold f_X11_image f_X11_image_0 f_X1_takeImage f_X1_takeImage_0
    rw [show (0 : Int32) = Int32.ofNat 0 from rfl] at ecp
    simp (disch := omega) only [obs, cN_mk, ite_true, ite_false, if_true, if_false, q0, C_hasCity hY hP, hd, l0, l1, no1_e, bI_t, bI_f, ieq_f, ile_t, ile_f, ilt_t, ilt_f, q39, q42, l100]
    rw [e1, cN_mk]
    simp (disch := omega) only [obs, cN_mk, ite_true, ite_false, if_true, if_false, q39, ecp, q39_z6', hm2, q0, q27, CS27 hc2.2.1]
  · unfold f_X12_image f_X12_image_0
    rw [thr0]
    rw [y30] at e3
    simp (disch := omega) only [obs, cN_mk, ite_true, ite_false, if_true, if_false, q72, l0, l1, no1_e, bI_t, bI_f, ieq_f, ile_t, ile_f, ilt_t, ilt_f, y27, e3]
theorem K_back (hw : WIv C P τ σ lg acts hs img σI lgI A held tx ln cls B pls dg sn sw) (hc : CIv n D m r tp C P τ σ lg acts lt hs img σI lgI A held cls B pls dg sn sw) (hv : MIv m j tp C P τ σ lg acts hs img σI lgI A held tx ln cls B pls dg sn sw) (hn : n ≤ 1000000) : CALX 0 0 n z D m j r (f_X11_back 0) (f_X12_back 72) := by
  have hC := hw.1.1
  have hP := hw.1.2.1
  have hY := hc.1.2.1
  have h396 := hc.1.2.2.1.1
  cases img with
  | false =>
    refine CALL_q hw hc hv (fun m1 hm1 hv1 => ⟨no1, QC_e ?_, ?_⟩) hn
    · unfold f_X11_back f_X11_back_0
      simp (disch := omega) only [obs, cN_mk, ite_true, ite_false, if_true, if_false, q0, q39, h396, l0, l1, no1_e, bI_t, bI_f, ieq_f, ile_t, ile_f, ilt_t, ilt_f]
    · unfold f_X12_back f_X12_back_0
      refine QM_s hm1 fun m2 he h2 => QM_e h2 ?_
      have y49 : m2 72 49 = bI false := by rw [he, wI_sn (by omega)]; exact hv1.1.2.2.1.1
      simp (disch := omega) only [obs, cN_mk, ite_true, ite_false, if_true, if_false, q72, y49, l0, l1, no1_e, bI_t, bI_f, ieq_f, ile_t, ile_f, ilt_t, ilt_f]
  | true =>
    obtain ⟨hI, hR⟩ := hc.1.2.2.1.2 rfl
    obtain ⟨m1, e1, hM1, f1⟩ := C_copyFrom (n := n) (z := z) (m := m) (j := j) (r := r) (s := 27) (s' := 42) isSt27 isSt42 (by omega) hC hP hI
    have ecp : aCpy (mkH n z D m1 j r) 48 0 41 0 (Int32.ofNat 100) = some (mkH n z D (cpR m1 41 (m1 48) 100) j r) := aCpy_mk (Nb := 100) rfl (aSrc_mk rfl) (Nat.le_refl _) (Nat.le_refl _) (by omega)
    generalize hm2 : wI (cpR m1 41 (m1 48) 100) 39 2 (Int32.ofNat 0) = m2
    have f2 : ∀ a, ¬ (27 ≤ a ∧ a ≤ 32) → a ≠ 41 → a ≠ 39 → m2 a = m a := fun a c1 c2 c3 => by rw [← hm2, wI_ne c3, cpR_n c2, f1 a (by omega)]
    have i39 : ∀ i, i ≠ 2 → m2 39 i = m 39 i := fun i hi => by rw [← hm2, wI_sn hi, cpR_n (by omega), f1 39 (by omega)]
    have hc2 : CIv n D m2 r tp C P τ σI lgI 0 lt hs true σI lgI A held cls B pls dg sn sw := by
      obtain ⟨c1, c2, c3, c4, c5⟩ := hc
      refine ⟨CR_fr c1 c5 (fun a ha => f2 a (by omega) (by omega) (by omega)) (fun i _ => by rw [f2 55 (by omega) (by omega) (by omega)]) (i39 6 (by omega)) (fun _ _ => rfl) (fun o _ ho _ => ⟨f2 o (by omega) (by omega) (by omega), rfl⟩), by rw [← hm2]; exact CS_fr hM1 (fun a ha => by rw [wI_ne (by omega), cpR_n (by omega)]), fun e he1 he2 => ?_, ⟨by rw [← hm2, wI_se], by rw [i39 1 (by omega)]; exact c4.2.1, c4.2.2.1, by omega, fun k hk => absurd hk (by omega)⟩, c5⟩
      rw [← hm2, wI_ne (by omega), cpR_s, if_pos (Nat.mod_lt _ (by omega)), f1 48 (by omega)]
      exact hR e he1 he2
    have hv1 := MI_c (m' := m2) (j' := j) hv (fun a c1 c2 => f2 a (by omega) (by omega) (by omega)) rfl
    have hD := hD_of hc hn
    have hLM := LMok_d (n := n) (z := z) hD hw.2.2.2.2.2.1
    obtain ⟨m3, e3, f3, r3⟩ := M_back16 (n := n) (z := z) (D := D) (j := j) (r := r) 212 0 fu (wI m2 72 0 (Int32.ofNat 0)) (by omega) (by unfold fu; omega)
    have y49 : (wI m2 72 0 (Int32.ofNat 0)) 72 49 = bI true := by rw [wI_sn (by omega)]; exact hv1.1.2.2.1.1
    have f4 : ∀ a, a ≠ 85 → a ≠ 72 → wI m3 72 43 (Int32.ofNat 0) a = m2 a := fun a c1 c2 => by rw [wI_ne c2, f3 a c1, wI_ne c2]
    have f5 : ∀ i, i ≠ 0 → i ≠ 43 → wI m3 72 43 (Int32.ofNat 0) 72 i = m2 72 i := fun i c1 c2 => by rw [wI_sn c2, f3 72 (by omega), wI_sn c1]
    have r85 : ∀ q, q < 212 → wI m3 72 43 (Int32.ofNat 0) 85 q = m2 93 q := fun q hq => by rw [wI_ne (by omega), r3 q hq, if_pos (by omega), wI_ne (by omega)]
    obtain ⟨v1, v2, v3, v4⟩ := hv1
    obtain ⟨hIm, hRm⟩ := v1.2.2.1.2 rfl
    have hl3 : LMd A held tx ln cls (wI m3 72 43 (Int32.ofNat 0)) j := hLM.2.1 m2 _ j j v1.2.2.2.1 (fun a ha => f4 a (by omega) (by omega)) (f5 7 (by omega) (by omega)) (f5 34 (by omega) (by omega)) rfl
    have hM3 : MS (wI m3 72 43 (Int32.ofNat 0) 85) σI C P := MS_cg hIm hC hP (fun q hq => r85 q (by omega))
    have hv3 : MIv (wI m3 72 43 (Int32.ofNat 0)) j tp C P τ σI lgI 0 hs true σI lgI A held tx ln cls B pls dg sn sw := ⟨MR_fr v1 (fun a ha => f4 a (by omega) (by omega)) (fun i hi => f5 i (by omega) (by omega)) (fun q _ => by rw [f4 83 (by omega) (by omega)]) (fun q _ => by rw [f4 84 (by omega) (by omega)]) hl3 hw.2.2.2.2.2.2.1, hM3, MLg_cg hRm (fun q _ hq => r85 q hq) (fun _ _ => rfl), ⟨wI_se, by omega, fun k hk => absurd hk (by omega)⟩⟩
    have y30 : m3 85 30 = Int32.ofNat (σI 7 0) := by
      have := hM3.2.2.2.2
      rw [wI_ne (by omega)] at this
      exact this
    obtain ⟨w1, w2, w3, w4, w5, w6⟩ := hw
    refine ⟨Int32.ofNat (σI 7 0), n, z, D, m2, j, r, wI m3 72 43 (Int32.ofNat 0), j, r, ?_, ?_, ⟨by omega, by omega⟩, ⟨by omega, by omega⟩, tp, C, P, τ, σI, lgI, 0, lt, hs, true, σI, lgI, A, held, tx, ln, cls, B, pls, dg, sn, sw, ⟨w1, (w5 rfl).1, (w5 rfl).2, ⟨fun k hk => absurd hk (by omega), fun k hk => absurd hk (by omega), fun k hk => absurd hk (by omega)⟩, w5, w6⟩, CI_m hc2 (fun a ha => f4 a (by omega) (by omega)) (fun _ _ => rfl), hv3⟩
    · unfold f_X11_back f_X11_back_0 f_X1_showImage f_X1_showImage_0
      rw [show (0 : Int32) = Int32.ofNat 0 from rfl] at ecp
      simp (disch := omega) only [obs, cN_mk, ite_true, ite_false, if_true, if_false, q0, q39, h396, l0, l1, no1_e, bI_t, bI_f, ieq_f, ile_t, ile_f, ilt_t, ilt_f, q27, l100]
      rw [e1, cN_mk]
      simp (disch := omega) only [obs, cN_mk, ite_true, ite_false, if_true, if_false, q0, q39, ecp, hm2, q27, CS27 hc2.2.1]
    · unfold f_X12_back f_X12_back_0
      rw [thr0]
      rw [y30] at e3
      simp (disch := omega) only [obs, cN_mk, ite_true, ite_false, if_true, if_false, q72, l0, l1, no1_e, bI_t, bI_f, ieq_f, ile_t, ile_f, ilt_t, ilt_f, y49, e3]
end PASTC
