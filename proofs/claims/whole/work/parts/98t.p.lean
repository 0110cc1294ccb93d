/-! What was seen; the log, the plans, counts told. -/
section TOLD
variable {n z : Nat} {D D' : Dyn} {m m' m1 : MI} {j j' j1 : MJ} {r r' r1 : MR} {tp tp' : TP} {C P : Nat} {τ σ σ' : Sg} {lg lg' : LG} {acts lt : Nat} {hs : Nat → Sg} {img : Bool} {σI : Sg} {lgI : LG} {A held held' : Nat} {tx : Nat → Nat → Nat} {ln : Nat → Nat} {cls : CLS} {B : Nat} {pls : Nat → List ST} {dg dg' sn sn' : Nat} {sw sw' : Nat → Nat → Nat} {x y : Int32} {k a b : Nat} {pl : Pl}
theorem nar3 {b : Nat} (hb : b ≤ 1) : nar 3 (Int32.ofNat b) = Int32.ofNat b := by
  rcases (show b = 0 ∨ b = 1 by omega) with rfl | rfl <;> rfl
theorem K_seen (hw : WIv C P τ σ lg acts hs img σI lgI A held tx ln cls B pls dg sn sw) (hc : CIv n D m r tp C P τ σ lg acts lt hs img σI lgI A held cls B pls dg sn sw) (hv : MIv m j tp C P τ σ lg acts hs img σI lgI A held tx ln cls B pls dg sn sw) (hn : n ≤ 1000000) (x1 x2 x3 : Int32) (t : Nat) (ht : t ≤ 1) : CALX 0 0 n z D m j r (f_X11_seen 0 x1 x2 x3 (Int32.ofNat t)) (f_X12_seen 72 x1 x2 x3 (Int32.ofNat t)) := by
  have hW := hw.1
  have hP := hW.2.1
  have hY := hc.1.2.1
  obtain ⟨n1, n2⟩ := hc.1.2.2.2.2.2.2
  have hsn := hw.2.2.2.2.2.2.2.2.1
  cases i1 : im x1 0 P with
  | false =>
    refine CALL_q hw hc hv (fun m1 hm1 hv1 => ⟨no1, QC_e ?_, ?_⟩) hn
    · unfold f_X11_seen f_X11_seen_0
      simp (disch := omega) only [obs, cN_mk, ite_true, ite_false, if_true, if_false, q0, C_hasPerson hY, i1, l0, l1, no1_e, bI_t, bI_f, ieq_f, ile_t, ile_f, ilt_t, ilt_f]
    · unfold f_X12_seen f_X12_seen_0
      refine QM_s hm1 fun m2 he h2 => QM_e h2 ?_
      simp (disch := omega) only [obs, cN_mk, ite_true, ite_false, if_true, if_false, q72, M_isPerson h2.2.2.1, i1, l0, l1, no1_e, bI_t, bI_f, ieq_f, ile_t, ile_f, ilt_t, ilt_f]
  | true =>
    obtain ⟨p, -, hp, rfl⟩ := im_t (by omega) (by omega) i1
    cases i2 : im x2 1 10 with
    | false =>
      refine CALL_q hw hc hv (fun m1 hm1 hv1 => ⟨no1, QC_e ?_, ?_⟩) hn
      · unfold f_X11_seen f_X11_seen_0
        simp (disch := omega) only [obs, cN_mk, ite_true, ite_false, if_true, if_false, q0, C_hasPerson hY, C_isLive, i1, i2, l0, l1, no1_e, bI_t, bI_f, ieq_f, ile_t, ile_f, ilt_t, ilt_f]
      · unfold f_X12_seen f_X12_seen_0
        refine QM_s hm1 fun m2 he h2 => QM_e h2 ?_
        simp (disch := omega) only [obs, cN_mk, ite_true, ite_false, if_true, if_false, q72, M_isPerson h2.2.2.1, i64_1, i64_9, M_inK, Nat.reduceAdd, i1, i2, l0, l1, no1_e, bI_t, bI_f, ieq_f, ile_t, ile_f, ilt_t, ilt_f]
    | true =>
      obtain ⟨s, hs1, hs2, rfl⟩ := im_t (by omega) (by omega) i2
      cases i3 : im x3 1 4 with
      | false =>
        refine CALL_q hw hc hv (fun m1 hm1 hv1 => ⟨no1, QC_e ?_, ?_⟩) hn
        · unfold f_X11_seen f_X11_seen_0
          simp (disch := omega) only [obs, cN_mk, ite_true, ite_false, if_true, if_false, q0, C_hasPerson hY, C_isLive, i1, i2, l0, l1, no1_e, bI_t, bI_f, ieq_f, ile_t, ile_f, ilt_t, ilt_f, l3, rng2, Nat.reduceAdd, i3, Bool.false_eq_true]
        · unfold f_X12_seen f_X12_seen_0
          refine QM_s hm1 fun m2 he h2 => QM_e h2 ?_
          simp (disch := omega) only [obs, cN_mk, ite_true, ite_false, if_true, if_false, q72, M_isPerson h2.2.2.1, i64_1, i64_3, i64_9, M_inK, Nat.reduceAdd, i1, i2, i3, l0, l1, no1_e, bI_t, bI_f, ieq_f, ile_t, ile_f, ilt_t, ilt_f]
      | true =>
        obtain ⟨c, hc1', hc2', rfl⟩ := im_t (by omega) (by omega) i3
        by_cases h10 : sn = 10
        · refine CALL_q hw hc hv (fun m1 hm1 hv1 => ⟨no1, QC_e ?_, ?_⟩) hn
          · unfold f_X11_seen f_X11_seen_0 f_X7_add f_X7_add_0
            simp (disch := omega) only [obs, cN_mk, ite_true, ite_false, if_true, if_false, q0, C_hasPerson hY, C_isLive, i1, i2, l0, l1, no1_e, bI_t, bI_f, ieq_f, ile_t, ile_f, ilt_t, ilt_f, l3, q55, n1, l10, h10]
          · unfold f_X12_seen f_X12_seen_0
            refine QM_s hm1 fun m2 he h2 => QM_e h2 ?_
            have y46 : m2 72 46 = Int32.ofNat sn := by rw [he, wI_sn (by omega)]; exact hv1.1.2.2.2.2.2.2.1
            simp (disch := omega) only [obs, cN_mk, ite_true, ite_false, if_true, if_false, q72, M_isPerson h2.2.2.1, i64_1, i64_3, i64_9, M_inK, Nat.reduceAdd, i1, i2, i3, l0, l1, no1_e, bI_t, bI_f, ieq_f, ile_t, ile_f, ilt_t, ilt_f, y46, h10, l10]
        · -- it is kept
          generalize hm2 : wI (wI (wI (wI (wI m 56 sn (Int32.ofNat p)) 57 sn (Int32.ofNat s)) 58 sn (Int32.ofNat c)) 59 sn (nar 3 (Int32.ofNat t))) 55 6 (Int32.ofNat (sn + 1)) = m2
          have f2 : ∀ a, ¬ (55 ≤ a ∧ a ≤ 59) → m2 a = m a := fun a ha => by rw [← hm2, wI_ne (by omega), wI_ne (by omega), wI_ne (by omega), wI_ne (by omega), wI_ne (by omega)]
          have e1 : f_X11_seen 0 (Int32.ofNat p) (Int32.ofNat s) (Int32.ofNat c) (Int32.ofNat t) (mkH n z D m j r) = some (Int32.ofNat (sn + 1), mkH n z D m2 j r) := by
            have g : ∀ (mm : MI) a i v, a ≠ 55 → wI mm a i v 55 6 = mm 55 6 := fun mm a i v h => by rw [wI_ne (Ne.symm h)]
            unfold f_X11_seen f_X11_seen_0 f_X7_add f_X7_add_0
            rw [← hm2]
            simp (disch := omega) only [obs, cN_mk, ite_true, ite_false, if_true, if_false, q0, C_hasPerson hY, C_isLive, i1, i2, l0, l1, no1_e, bI_t, bI_f, ieq_f, ile_t, ile_f, ilt_t, ilt_f, l3, q55, n1, l10, p56, p57, p58, p59, g, i_add, wI_se]
          generalize hsw : (fun k i => if i = sn then (if k = 0 then p else if k = 1 then s else if k = 2 then c else t) else sw k i : Nat → Nat → Nat) = sw'
          have hS' : SNc m2 (sn + 1) sw' := by
            refine ⟨by rw [← hm2, wI_se], fun k hk => ?_⟩
            rw [← hsw, ← hm2]
            by_cases hks : k = sn
            · subst hks
              refine ⟨?_, ?_, ?_, ?_⟩
              · rw [wI_ne (by omega), wI_ne (by omega), wI_ne (by omega), wI_ne (by omega), wI_se]; simp
              · rw [wI_ne (by omega), wI_ne (by omega), wI_ne (by omega), wI_se]; simp
              · rw [wI_ne (by omega), wI_ne (by omega), wI_se]; simp
              · rw [wI_ne (by omega), wI_se, nar3 ht]; simp
            · have := n2 k (by omega)
              simp only [hks, if_false]
              refine ⟨?_, ?_, ?_, ?_⟩
              · rw [wI_ne (by omega), wI_ne (by omega), wI_ne (by omega), wI_ne (by omega), wI_sn hks]; exact this.1
              · rw [wI_ne (by omega), wI_ne (by omega), wI_ne (by omega), wI_sn hks, wI_ne (by omega)]; exact this.2.1
              · rw [wI_ne (by omega), wI_ne (by omega), wI_sn hks, wI_ne (by omega), wI_ne (by omega)]; exact this.2.2.1
              · rw [wI_ne (by omega), wI_sn hks, wI_ne (by omega), wI_ne (by omega), wI_ne (by omega)]; exact this.2.2.2
          have hc1 := CI_x (m' := m2) (r' := r) (sn' := sn + 1) (sw' := sw') hc (fun a c1 c2 => f2 a c2) (fun _ _ => rfl) (TC_w hc.1.1 (f2 1 (by omega)) (f2 2 (by omega))) (LCd_fr hc.1.2.2.2.1 (by rw [f2 0 (by omega)]) (by rw [f2 0 (by omega)]) (fun o ho => f2 o (by omega))) (by rw [f2 0 (by omega)]) (by rw [f2 0 (by omega)]; exact hc.1.2.2.2.2.2.1) hS'
          have hv1 := MI_c (m' := m2) (j' := j) hv (fun a c1 c2 => f2 a (by omega)) rfl
          have y46 : (wI m2 72 0 (Int32.ofNat 0)) 72 46 = Int32.ofNat sn := by rw [wI_sn (by omega)]; exact hv1.1.2.2.2.2.2.2.1
          generalize hm3 : wI (wI (wI (wI (wI (wI m2 72 0 (Int32.ofNat 0)) 91 (4 * sn) (Int32.ofNat p)) 91 (4 * sn + 1) (Int32.ofNat s)) 91 (4 * sn + 2) (Int32.ofNat c)) 91 (4 * sn + 3) (Int32.ofNat t)) 72 46 (Int32.ofNat (sn + 1)) = m3
          have f3 : ∀ a, a ≠ 72 → a ≠ 91 → m3 a = m2 a := fun a c1 c2 => by rw [← hm3, wI_ne c1, wI_ne c2, wI_ne c2, wI_ne c2, wI_ne c2, wI_ne c1]
          have f4 : ∀ i, i ≠ 0 → i ≠ 46 → m3 72 i = m2 72 i := fun i c1 c2 => by rw [← hm3, wI_sn c2, wI_ne (by omega), wI_ne (by omega), wI_ne (by omega), wI_ne (by omega), wI_sn c1]
          have e2 : f_X12_seen 72 (Int32.ofNat p) (Int32.ofNat s) (Int32.ofNat c) (Int32.ofNat t) (mkH n z D m2 j r) = some (Int32.ofNat (sn + 1), mkH n z D m3 j r) := by
            have g : ∀ (mm : MI) i v, wI mm 91 i v 72 46 = mm 72 46 := fun mm i v => by rw [wI_ne (by omega)]
            unfold f_X12_seen f_X12_seen_0
            rw [thr0, ← hm3]
            rcases (show t = 0 ∨ t = 1 by omega) with rfl | rfl
            · simp (disch := omega) only [obs, cN_mk, ite_true, ite_false, if_true, if_false, q72, M_isPerson (YM_fr hv1.1.2.1 (wI_ne (by omega)) (wI_ne (by omega)) (wI_sn (by omega)) (wI_sn (by omega)) : YM (wI m2 72 0 (Int32.ofNat 0)) C P τ), i64_1, i64_3, i64_9, M_inK, Nat.reduceAdd, i1, i2, i3, l0, l1, no1_e, bI_t, bI_f, ieq_f, ile_t, ile_f, ilt_t, ilt_f, l2, l3, l4, y46, l10, i_mul, i_add, p91, f_X12_seen_102, g, wI_se]
            · simp (disch := omega) only [obs, cN_mk, ite_true, ite_false, if_true, if_false, q72, M_isPerson (YM_fr hv1.1.2.1 (wI_ne (by omega)) (wI_ne (by omega)) (wI_sn (by omega)) (wI_sn (by omega)) : YM (wI m2 72 0 (Int32.ofNat 0)) C P τ), i64_1, i64_3, i64_9, M_inK, Nat.reduceAdd, i1, i2, i3, l0, l1, no1_e, bI_t, bI_f, ieq_f, ile_t, ile_f, ilt_t, ilt_f, l2, l3, l4, y46, l10, i_mul, i_add, p91, f_X12_seen_102, g, wI_se]
          have hT' : SNm m3 (sn + 1) sw' := by
            refine ⟨by rw [← hm3, wI_se], fun k hk t' ht' => ?_⟩
            rw [← hsw, ← hm3]
            rw [wI_ne (by omega)]
            by_cases hks : k = sn
            · subst hks
              rcases (show t' = 0 ∨ t' = 1 ∨ t' = 2 ∨ t' = 3 by omega) with rfl | rfl | rfl | rfl
              · rw [show 4 * k + 0 = 4 * k from rfl, wI_sn (by omega), wI_sn (by omega), wI_sn (by omega), wI_se]; simp
              · rw [wI_sn (by omega), wI_sn (by omega), wI_se]; simp
              · rw [wI_sn (by omega), wI_se]; simp
              · rw [wI_se]; simp
            · rw [wI_sn (by omega), wI_sn (by omega), wI_sn (by omega), wI_sn (by omega), wI_ne (by omega)]
              simp only [hks, if_false]
              exact hv1.1.2.2.2.2.2.2.2 k (by omega) t' ht'
          have hv2 := MI_x (m' := m3) (sn' := sn + 1) (sw' := sw') hw.2.2.2.2.2.2.1 hv1 (fun a c1 c2 c3 => f3 a (by omega) c3) (fun i hi => f4 i (by omega) (by omega)) (TMd_w hv1.1.1 (f4 6 (by omega) (by omega)) (f3 73 (by omega) (by omega))) (by rw [f4 34 (by omega) (by omega)]; exact hv1.1.2.2.2.1.2.1) (by rw [f4 35 (by omega) (by omega)]; exact hv1.1.2.2.2.2.2.1) hT'
          obtain ⟨w1, w2, w3, w4, w5, w6, w7, w8, w9⟩ := hw
          refine ⟨Int32.ofNat (sn + 1), n, z, D, m2, j, r, m3, j, r, e1, e2, ⟨by omega, by omega⟩, ⟨by omega, by omega⟩, tp, C, P, τ, σ, lg, acts, lt, hs, img, σI, lgI, A, held, tx, ln, cls, B, pls, dg, sn + 1, sw', ⟨w1, w2, w3, w4, w5, w6, w7, w8, ⟨by omega, fun k hk => ?_⟩⟩, CI_m hc1 (fun a ha => f3 a (by omega) (by omega)) (fun _ _ => rfl), hv2⟩
          rw [← hsw]
          by_cases hks : k = sn
          · subst hks
            simp
            omega
          · simp only [hks, if_false]
            exact w9.2 k (by omega)
theorem Q_log (hw : WIv C P τ σ lg acts hs img σI lgI A held tx ln cls B pls dg sn sw) (hc : CIv n D m r tp C P τ σ lg acts lt hs img σI lgI A held cls B pls dg sn sw) (hm : EM n z D (plw held cls) (LMd A held tx ln cls) m1 j C P τ σ) (hv : MIv m1 j tp C P τ σ lg acts hs img σI lgI A held tx ln cls B pls dg sn sw) (x y : Int32) : QQ n z D (LMd A held tx ln cls) m j r m1 j r (f_X11_log 0 x y) (f_X12_log 72 x y) := by
  have hM := hc.2.1
  have hR := hc.2.2.1
  have s7 := hw.2.1.2.2.2.2
  have c31 := hv.2.2.1.1
  have crow := hv.2.2.1.2
  have rk : f_X11_rowsKept 0 (mkH n z D m j r) = some (Int32.ofNat (min 60 (σ 7 0)), (mkH n z D m j r)) := by
    unfold f_X11_rowsKept f_X11_rowsKept_0
    simp (disch := omega) only [obs, cN_mk, ite_true, ite_false, if_true, if_false, q0, q27, CS27 hM, l60, J_min, Nat.min_comm]
  cases him : im x 0 (min 60 (σ 7 0)) with
  | false =>
    refine ⟨no1, QC_e ?_, ?_⟩
    · unfold f_X11_log f_X11_log_0
      simp (disch := omega) only [obs, cN_mk, ite_true, ite_false, if_true, if_false, q0, rk, l0, rng4, him, Bool.false_eq_true, l1, no1_e]
    · unfold f_X12_log f_X12_log_0
      refine QM_s hm fun m2 he h2 => QM_e h2 ?_
      have y31 : m2 85 31 = Int32.ofNat (min 60 (σ 7 0)) := by rw [he, wI_ne (by omega)]; exact c31
      simp (disch := omega) only [obs, cN_mk, ite_true, ite_false, if_true, if_false, q72, l31, p85, y31, l1, pr_sub, i64_0, M_inP, him, l0, bI_f, no1_e]
  | true =>
    obtain ⟨i, -, hi, rfl⟩ := im_t (by omega) (by omega) him
    have him' : im (Int32.ofNat i) 0 (min 60 (σ 7 0)) = true := him
    cases hiy : im y 0 3 with
    | false =>
      have hh0 : (y = Int32.ofNat 0) = False := eq_false (fun e => by rw [e, im_k (by omega)] at hiy; cases hiy)
      have hh1 : (y = Int32.ofNat 1) = False := eq_false (fun e => by rw [e, im_k (by omega)] at hiy; cases hiy)
      have hh2 : (y = Int32.ofNat 2) = False := eq_false (fun e => by rw [e, im_k (by omega)] at hiy; cases hiy)
      refine ⟨no1, QC_e ?_, ?_⟩
      · unfold f_X11_log f_X11_log_0
        simp (disch := omega) only [obs, cN_mk, ite_true, ite_false, if_true, if_false, q0, rk, l0, l1, no1_e, bI_t, bI_f, ieq_f, ile_t, ile_f, ilt_t, ilt_f, l2, hh0, hh1, hh2]
      · unfold f_X12_log f_X12_log_0
        refine QM_s hm fun m2 he h2 => QM_e h2 ?_
        have y31 : m2 85 31 = Int32.ofNat (min 60 (σ 7 0)) := by rw [he, wI_ne (by omega)]; exact c31
        simp (disch := omega) only [obs, cN_mk, ite_true, ite_false, if_true, if_false, q72, l31, p85, y31, pr_sub, i64_0, i64_2, M_inP, M_inK, Nat.reduceAdd, him', hiy, l0, l1, no1_e, bI_t, bI_f, ieq_f, ile_t, ile_f, ilt_t, ilt_f]
    | true =>
      obtain ⟨t, -, ht, rfl⟩ := im_t (by omega) (by omega) hiy
      have hok := hw.2.2.1 (σ 7 0 - 1 - i)
      have hrow := hR (σ 7 0 - 1 - i) (by omega) (by omega)
      have dE := eL_d (t := (lg (σ 7 0 - 1 - i)).1) (c := (lg (σ 7 0 - 1 - i)).2.1) (x := (lg (σ 7 0 - 1 - i)).2.2) hok
      refine ⟨Int32.ofNat (lgn (lg (σ 7 0 - 1 - i)).1 (lg (σ 7 0 - 1 - i)).2.1 (lg (σ 7 0 - 1 - i)).2.2 t), QC_e ?_, ?_⟩
      · have hidx : Int32.ofNat (σ 7 0) - Int32.ofNat 1 - Int32.ofNat i = Int32.ofNat (σ 7 0 - 1 - i) := by rw [i_sub (by omega), i_sub (by omega)]
        have r41 : aI 0 (mkH n z D m j r) 41 (Int32.ofNat ((σ 7 0 - 1 - i) % 100)) = some (Int32.ofNat (eL (lg (σ 7 0 - 1 - i)))) := by rw [p41.1 _ (by omega), hrow]
        have pl' := C_place (d := σ 7 0 - 1 - i) (h := (mkH n z D m j r)) (by omega)
        generalize lg (σ 7 0 - 1 - i) = L at *
        unfold f_X11_log f_X11_log_0
        rcases (show t = 0 ∨ t = 1 ∨ t = 2 by omega) with rfl | rfl | rfl
        · simp (disch := omega) only [obs, cN_mk, ite_true, ite_false, if_true, if_false, q0, rk, l0, l1, no1_e, bI_t, bI_f, ieq_f, ile_t, ile_f, ilt_t, ilt_f, q27, CS27 hM, hidx, q39, f_X1_takenOn, f_X1_takenOn_0, pl', r41, l63, dE]
          rfl
        · simp (disch := omega) only [obs, cN_mk, ite_true, ite_false, if_true, if_false, q0, rk, l0, l1, no1_e, bI_t, bI_f, ieq_f, ile_t, ile_f, ilt_t, ilt_f, q27, CS27 hM, hidx, q39, f_X1_canesOn, f_X1_canesOn_0, pl', r41, l6, l31, l63, dE]
          rfl
        · simp (disch := omega) only [obs, cN_mk, ite_true, ite_false, if_true, if_false, q0, rk, l0, l1, no1_e, bI_t, bI_f, ieq_f, ile_t, ile_f, ilt_t, ilt_f, l2, q27, CS27 hM, hidx, q39, f_X1_coinsOn, f_X1_coinsOn_0, pl', r41, l12, l31, dE]
          rfl
      · unfold f_X12_log f_X12_log_0
        refine QM_s hm fun m2 he h2 => QM_e h2 ?_
        have y31 : m2 85 31 = Int32.ofNat (min 60 (σ 7 0)) := by rw [he, wI_ne (by omega)]; exact c31
        have yr : m2 85 (32 + 3 * (min 60 (σ 7 0) - 1 - i) + t) = Int32.ofNat (lgn (lg (σ 7 0 - 1 - i)).1 (lg (σ 7 0 - 1 - i)).2.1 (lg (σ 7 0 - 1 - i)).2.2 t) := by
          rw [he, wI_ne (by omega), crow (min 60 (σ 7 0) - 1 - i) t (by omega) (by omega), show σ 7 0 - min 60 (σ 7 0) + (min 60 (σ 7 0) - 1 - i) = σ 7 0 - 1 - i by omega]
        have him2 : im (Int32.ofNat i) 0 (min 60 (σ 7 0) - 1 + 1) = true := by rw [show min 60 (σ 7 0) - 1 + 1 = min 60 (σ 7 0) by omega]; exact him'
        have p1 : pr (min 60 (σ 7 0)) = Int32.ofNat (min 60 (σ 7 0) - 1) := by rw [← pr_sub, i_sub (by omega)]
        simp (disch := omega) only [obs, cN_mk, ite_true, ite_false, if_true, if_false, q72, l31, p85, y31, pr_sub, i64_0, i64_2, M_inP, M_inK, Nat.reduceAdd, him', him2, hiy, l0, l1, no1_e, bI_t, bI_f, ieq_f, ile_t, ile_f, ilt_t, ilt_f, l3, l32, p1, i_sub, i_mul, i_add, yr]
theorem cdS_d {s : ST} (h : okS s) : Int32.ofNat (cdS s) / Int32.ofNat 100 = Int32.ofNat s.1 ∧ Int32.ofNat (cdS s) / Int32.ofNat 10 - Int32.ofNat (cdS s) / Int32.ofNat 10 / Int32.ofNat 10 * Int32.ofNat 10 = Int32.ofNat s.2.1 ∧ Int32.ofNat (cdS s) - Int32.ofNat (cdS s) / Int32.ofNat 10 * Int32.ofNat 10 = Int32.ofNat s.2.2 := by
  obtain ⟨h1, h2, h3⟩ := h
  have hb : cdS s = s.1 * 100 + s.2.1 * 10 + s.2.2 := rfl
  refine ⟨?_, ?_, ?_⟩
  · rw [i_div (by omega) (by omega), hb]; exact congrArg Int32.ofNat (by omega)
  · rw [i_div (by omega) (by omega), i_mod (by omega) (by omega), hb]; exact congrArg Int32.ofNat (by omega)
  · rw [i_mod (by omega) (by omega), hb]; exact congrArg Int32.ofNat (by omega)
theorem C_stepAt {o : Nat} {ps : List ST} (hg : PG D m o (ps.map cdS)) {i : Nat} (hi : i < ps.length) : aI 0 (mkH n z D m j r) o (Int32.ofNat i) = some (Int32.ofNat (cdS (ps.getD i (0, 0, 0)))) := by
  obtain ⟨h1, h2, h3, h4⟩ := hg
  rw [List.length_map] at h1 h2 h4
  rw [aIk h1 (Or.inl rfl) hi (by omega), h4 i hi]
  congr 2
  rw [List.getD_eq_getElem?_getD, List.getElem?_map, List.getD_eq_getElem?_getD, List.getElem?_eq_getElem hi]
  rfl
theorem okS_at {ps : List ST} (h : ∀ s ∈ ps, okS s) {i : Nat} (hi : i < ps.length) : okS (ps.getD i (0, 0, 0)) := by
  rw [List.getD_eq_getElem?_getD, List.getElem?_eq_getElem hi]
  exact h _ (List.getElem_mem hi)
theorem C_hasPlan (hB : m 0 15 = Int32.ofNat B) : f_X11_hasPlan 0 x (mkH n z D m j r) = some (bI (im x 0 B), (mkH n z D m j r)) := by
  unfold f_X11_hasPlan f_X11_hasPlan_0
  simp only [q0, obs, hB, l0, l1, rng3]
  cases im x 0 B <;> rfl
theorem M_isPlan (hB : m 72 30 = Int32.ofNat B) : f_X12_isPlan 72 x (mkH n z D m j r) = some (bI (im x 0 B), (mkH n z D m j r)) := by
  unfold f_X12_isPlan f_X12_isPlan_0
  simp only [q72, obs, hB, l0, l1, rng3]
  cases im x 0 B <;> rfl
theorem Q_step (hw : WIv C P τ σ lg acts hs img σI lgI A held tx ln cls B pls dg sn sw) (hc : CIv n D m r tp C P τ σ lg acts lt hs img σI lgI A held cls B pls dg sn sw) (hm : EM n z D (plw held cls) (LMd A held tx ln cls) m1 j C P τ σ) (hv : MIv m1 j tp C P τ σ lg acts hs img σI lgI A held tx ln cls B pls dg sn sw) (x1 x2 x3 : Int32) : QQ n z D (LMd A held tx ln cls) m j r m1 j r (f_X11_step 0 x1 x2 x3) (f_X12_step 72 x1 x2 x3) := by
  obtain ⟨b1, b2⟩ := hc.1.2.2.2.2.1
  obtain ⟨v1, v2⟩ := hv.1.2.2.2.2.1
  obtain ⟨w1, w2⟩ := hw.2.2.2.2.2.2.1
  cases i1 : im x1 0 B with
  | false =>
    refine ⟨noH, QC_e ?_, ?_⟩
    · unfold f_X11_step f_X11_step_0 f_X11_step_23
      simp (disch := omega) only [obs, cN_mk, ite_true, ite_false, if_true, if_false, q0, C_hasPlan b1, i1, l0, l1, no1_e, bI_t, bI_f, ieq_f, ile_t, ile_f, ilt_t, ilt_f, l1000000, noH_e]
    · unfold f_X12_step f_X12_step_0 f_X12_step_61
      refine QM_s hm fun m2 he h2 => QM_e h2 ?_
      have y30 : m2 72 30 = Int32.ofNat B := by rw [he, wI_sn (by omega)]; exact v1
      simp (disch := omega) only [obs, cN_mk, ite_true, ite_false, if_true, if_false, q72, M_isPlan y30, i1, l0, l1, no1_e, bI_t, bI_f, ieq_f, ile_t, ile_f, ilt_t, ilt_f, l1000000, noH_e]
  | true =>
    obtain ⟨p, -, hp, rfl⟩ := im_t (by omega) (by omega) i1
    obtain ⟨o, ho, hg⟩ := b2 p hp
    have hl := w2 p hp
    have hlen : aLen (mkH n z D m j r) o = some (Int32.ofNat (pls p).length) := by
      have := hg.1
      rw [List.length_map] at this
      exact aLen_mk this (by omega)
    cases i2 : im x2 0 (pls p).length with
    | false =>
      refine ⟨noH, QC_e ?_, ?_⟩
      · unfold f_X11_step f_X11_step_0 f_X11_step_23
        simp (disch := omega) only [obs, cN_mk, ite_true, ite_false, if_true, if_false, q0, C_hasPlan b1, i1, l0, l1, no1_e, bI_t, bI_f, ieq_f, ile_t, ile_f, ilt_t, ilt_f, p66, ho, hlen, rng4, i2, Bool.false_eq_true, l1000000, noH_e]
      · unfold f_X12_step f_X12_step_0 f_X12_step_61
        refine QM_s hm fun m2 he h2 => QM_e h2 ?_
        have y30 : m2 72 30 = Int32.ofNat B := by rw [he, wI_sn (by omega)]; exact v1
        have y84 : m2 84 p = Int32.ofNat (pls p).length := by rw [he, wI_ne (by omega)]; exact (v2 p hp).1
        simp (disch := omega) only [obs, cN_mk, ite_true, ite_false, if_true, if_false, q72, M_isPlan y30, i1, l0, l1, no1_e, bI_t, bI_f, ieq_f, ile_t, ile_f, ilt_t, ilt_f, p84, y84, pr_sub, i64_0, M_inP, i2, l1000000, noH_e]
    | true =>
      obtain ⟨i, -, hi, rfl⟩ := im_t (by omega) (by omega) i2
      have hok := okS_at hl.2.2 hi
      have e3 := C_stepAt (n := n) (z := z) (D := D) (j := j) (r := r) hg hi
      have v3 := (v2 p hp).2 i hi
      obtain ⟨k1, k2, k3⟩ := cdS_d hok
      generalize (pls p).getD i (0, 0, 0) = s at *
      cases i3 : im x3 0 3 with
      | false =>
        have hh0 : (x3 = Int32.ofNat 0) = False := eq_false (fun e => by rw [e, im_k (by omega)] at i3; cases i3)
        have hh1 : (x3 = Int32.ofNat 1) = False := eq_false (fun e => by rw [e, im_k (by omega)] at i3; cases i3)
        have hh2 : (x3 = Int32.ofNat 2) = False := eq_false (fun e => by rw [e, im_k (by omega)] at i3; cases i3)
        refine ⟨noH, QC_e ?_, ?_⟩
        · unfold f_X11_step f_X11_step_0
          simp (disch := omega) only [obs, cN_mk, ite_true, ite_false, if_true, if_false, q0, C_hasPlan b1, i1, l0, l1, no1_e, bI_t, bI_f, ieq_f, ile_t, ile_f, ilt_t, ilt_f, p66, ho, hlen, e3, f_X11_kindOf, f_X11_kindOf_0, l100, k1, l2, hh0, hh1, hh2, l1000000, noH_e]
        · unfold f_X12_step f_X12_step_0 f_X12_step_61
          refine QM_s hm fun m2 he h2 => QM_e h2 ?_
          have y30 : m2 72 30 = Int32.ofNat B := by rw [he, wI_sn (by omega)]; exact v1
          have y84 : m2 84 p = Int32.ofNat (pls p).length := by rw [he, wI_ne (by omega)]; exact (v2 p hp).1
          simp (disch := omega) only [obs, cN_mk, ite_true, ite_false, if_true, if_false, q72, M_isPlan y30, i1, l0, l1, no1_e, bI_t, bI_f, ieq_f, ile_t, ile_f, ilt_t, ilt_f, p84, y84, pr_sub, i64_0, i64_2, M_inP, M_inK, Nat.reduceAdd, i2, i3, l1000000, noH_e]
      | true =>
        obtain ⟨k, -, hk, rfl⟩ := im_t (by omega) (by omega) i3
        refine ⟨sv k s, QC_e ?_, ?_⟩
        · unfold f_X11_step f_X11_step_0 sv
          obtain ⟨o1, o2, o3⟩ := hok
          rcases (show k = 0 ∨ k = 1 ∨ k = 2 by omega) with rfl | rfl | rfl
          · rw [if_pos rfl]
            simp (disch := omega) only [obs, cN_mk, ite_true, ite_false, if_true, if_false, q0, C_hasPlan b1, i1, l0, l1, no1_e, bI_t, bI_f, ieq_f, ile_t, ile_f, ilt_t, ilt_f, p66, ho, hlen, e3, f_X11_kindOf, f_X11_kindOf_0, l100, k1]
          · rw [if_neg (by omega), if_pos rfl]
            by_cases h0 : s.1 = 0
            · rw [if_pos h0]
              simp (disch := omega) only [obs, cN_mk, ite_true, ite_false, if_true, if_false, q0, C_hasPlan b1, i1, l0, l1, no1_e, bI_t, bI_f, ieq_f, ile_t, ile_f, ilt_t, ilt_f, p66, ho, hlen, e3, f_X11_kindOf, f_X11_kindOf_0, l100, k1, h0]
            · rw [if_neg h0]
              simp (disch := omega) only [obs, cN_mk, ite_true, ite_false, if_true, if_false, q0, C_hasPlan b1, i1, l0, l1, no1_e, bI_t, bI_f, ieq_f, ile_t, ile_f, ilt_t, ilt_f, p66, ho, hlen, e3, f_X11_kindOf, f_X11_kindOf_0, l100, k1, f_X11_firstOf, f_X11_firstOf_0, l10, k2]
          · rw [if_neg (by omega), if_neg (by omega)]
            by_cases h0 : s.1 = 1
            · rw [if_pos h0]
              simp (disch := omega) only [obs, cN_mk, ite_true, ite_false, if_true, if_false, q0, C_hasPlan b1, i1, l0, l1, no1_e, bI_t, bI_f, ieq_f, ile_t, ile_f, ilt_t, ilt_f, l2, p66, ho, hlen, e3, f_X11_kindOf, f_X11_kindOf_0, l100, k1, h0, f_X11_secondOf, f_X11_secondOf_0, l10, k3]
            · rw [if_neg h0]
              simp (disch := omega) only [obs, cN_mk, ite_true, ite_false, if_true, if_false, q0, C_hasPlan b1, i1, l0, l1, no1_e, bI_t, bI_f, ieq_f, ile_t, ile_f, ilt_t, ilt_f, l2, p66, ho, hlen, e3, f_X11_kindOf, f_X11_kindOf_0, l100, k1]
        · unfold f_X12_step f_X12_step_0
          refine QM_s hm fun m2 he h2 => QM_e h2 ?_
          have y30 : m2 72 30 = Int32.ofNat B := by rw [he, wI_sn (by omega)]; exact v1
          have y84 : m2 84 p = Int32.ofNat (pls p).length := by rw [he, wI_ne (by omega)]; exact (v2 p hp).1
          have y83 : m2 83 (3 * (16 * p + i) + k) = sv k s := by rw [he, wI_ne (by omega)]; exact v3 k hk
          simp (disch := omega) only [obs, cN_mk, ite_true, ite_false, if_true, if_false, q72, M_isPlan y30, i1, l0, l1, no1_e, bI_t, bI_f, ieq_f, ile_t, ile_f, ilt_t, ilt_f, p84, y84, pr_sub, i64_0, i64_2, M_inP, M_inK, Nat.reduceAdd, i2, i3, l3, l16, i_mul, i_add, p83, y83]
theorem Q_count (hw : WIv C P τ σ lg acts hs img σI lgI A held tx ln cls B pls dg sn sw) (hc : CIv n D m r tp C P τ σ lg acts lt hs img σI lgI A held cls B pls dg sn sw) (hm : EM n z D (plw held cls) (LMd A held tx ln cls) m1 j C P τ σ) (hv : MIv m1 j tp C P τ σ lg acts hs img σI lgI A held tx ln cls B pls dg sn sw) (x : Int32) : QQ n z D (LMd A held tx ln cls) m j r m1 j r (f_X11_count 0 x) (f_X12_count 72 x) := by
  have hM := hc.2.1
  have hY := hc.1.2.1
  have hP := hw.1.2.1
  have s7 := hw.2.1.2.2.2.2
  have rk : f_X11_rowsKept 0 (mkH n z D m j r) = some (Int32.ofNat (min 60 (σ 7 0)), (mkH n z D m j r)) := by
    unfold f_X11_rowsKept f_X11_rowsKept_0
    simp (disch := omega) only [obs, cN_mk, ite_true, ite_false, if_true, if_false, q0, q27, CS27 hM, l60, J_min, Nat.min_comm]
  cases him : im x 0 13 with
  | false =>
    have hh0 : (x = Int32.ofNat 0) = False := eq_false (fun e => by rw [e, im_k (by omega)] at him; cases him)
    have hh1 : (x = Int32.ofNat 1) = False := eq_false (fun e => by rw [e, im_k (by omega)] at him; cases him)
    have hh2 : (x = Int32.ofNat 2) = False := eq_false (fun e => by rw [e, im_k (by omega)] at him; cases him)
    have hh3 : (x = Int32.ofNat 3) = False := eq_false (fun e => by rw [e, im_k (by omega)] at him; cases him)
    have hh4 : (x = Int32.ofNat 4) = False := eq_false (fun e => by rw [e, im_k (by omega)] at him; cases him)
    have hh5 : (x = Int32.ofNat 5) = False := eq_false (fun e => by rw [e, im_k (by omega)] at him; cases him)
    have hh6 : (x = Int32.ofNat 6) = False := eq_false (fun e => by rw [e, im_k (by omega)] at him; cases him)
    have hh7 : (x = Int32.ofNat 7) = False := eq_false (fun e => by rw [e, im_k (by omega)] at him; cases him)
    have hh8 : (x = Int32.ofNat 8) = False := eq_false (fun e => by rw [e, im_k (by omega)] at him; cases him)
    have hh9 : (x = Int32.ofNat 9) = False := eq_false (fun e => by rw [e, im_k (by omega)] at him; cases him)
    have hh10 : (x = Int32.ofNat 10) = False := eq_false (fun e => by rw [e, im_k (by omega)] at him; cases him)
    have hh11 : (x = Int32.ofNat 11) = False := eq_false (fun e => by rw [e, im_k (by omega)] at him; cases him)
    have hh12 : (x = Int32.ofNat 12) = False := eq_false (fun e => by rw [e, im_k (by omega)] at him; cases him)
    refine ⟨noH, QC_e ?_, ?_⟩
    · unfold f_X11_count f_X11_count_0
      rw [if_neg (show ¬ x = 0 from of_eq_false hh0), if_neg (show ¬ x = 1 from of_eq_false hh1), if_neg (show ¬ x = 2 from of_eq_false hh2), if_neg (show ¬ x = 3 from of_eq_false hh3), if_neg (show ¬ x = 4 from of_eq_false hh4), if_neg (show ¬ x = 5 from of_eq_false hh5), if_neg (show ¬ x = 6 from of_eq_false hh6), if_neg (show ¬ x = 7 from of_eq_false hh7), if_neg (show ¬ x = 8 from of_eq_false hh8), if_neg (show ¬ x = 9 from of_eq_false hh9), if_neg (show ¬ x = 10 from of_eq_false hh10), if_neg (show ¬ x = 11 from of_eq_false hh11), if_neg (show ¬ x = 12 from of_eq_false hh12)]
      rfl
    · unfold f_X12_count f_X12_count_0
      refine QM_s hm fun m2 he h2 => QM_e h2 ?_
      rw [if_neg (show ¬ x = 0 from of_eq_false hh0), if_neg (show ¬ x = 1 from of_eq_false hh1), if_neg (show ¬ x = 2 from of_eq_false hh2), if_neg (show ¬ x = 3 from of_eq_false hh3), if_neg (show ¬ x = 4 from of_eq_false hh4), if_neg (show ¬ x = 5 from of_eq_false hh5), if_neg (show ¬ x = 6 from of_eq_false hh6), if_neg (show ¬ x = 7 from of_eq_false hh7), if_neg (show ¬ x = 8 from of_eq_false hh8), if_neg (show ¬ x = 9 from of_eq_false hh9), if_neg (show ¬ x = 10 from of_eq_false hh10), if_neg (show ¬ x = 11 from of_eq_false hh11), if_neg (show ¬ x = 12 from of_eq_false hh12)]
      rfl
  | true =>
    obtain ⟨k, -, hk, rfl⟩ := im_t (by omega) (by omega) him
    rcases (show k = 0 ∨ k = 1 ∨ k = 2 ∨ k = 3 ∨ k = 4 ∨ k = 5 ∨ k = 6 ∨ k = 7 ∨ k = 8 ∨ k = 9 ∨ k = 10 ∨ k = 11 ∨ k = 12 by omega) with rfl | rfl | rfl | rfl | rfl | rfl | rfl | rfl | rfl | rfl | rfl | rfl | rfl
    · refine ⟨Int32.ofNat P, QC_e ?_, ?_⟩
      · unfold f_X11_count f_X11_count_0
        rw [if_pos (show Int32.ofNat 0 = 0 from rfl)]
        simp (disch := omega) only [obs, cN_mk, ite_true, ite_false, if_true, if_false, q0, q18, hY.2.1]
      · unfold f_X12_count f_X12_count_0
        refine QM_s hm fun m2 he h2 => QM_e h2 ?_
        rw [if_pos (show Int32.ofNat 0 = 0 from rfl)]
        simp (disch := omega) only [obs, cN_mk, ite_true, ite_false, if_true, if_false, q72, h2.2.2.1.2.1]
    · refine ⟨Int32.ofNat C, QC_e ?_, ?_⟩
      · unfold f_X11_count f_X11_count_0
        rw [if_neg (show ¬ Int32.ofNat 1 = 0 by decide), if_pos (show Int32.ofNat 1 = 1 from rfl)]
        simp (disch := omega) only [obs, cN_mk, ite_true, ite_false, if_true, if_false, q0, q18, hY.1]
      · unfold f_X12_count f_X12_count_0
        refine QM_s hm fun m2 he h2 => QM_e h2 ?_
        rw [if_neg (show ¬ Int32.ofNat 1 = 0 by decide), if_pos (show Int32.ofNat 1 = 1 from rfl)]
        simp (disch := omega) only [obs, cN_mk, ite_true, ite_false, if_true, if_false, q72, h2.2.2.1.1]
    · refine ⟨Int32.ofNat A, QC_e ?_, ?_⟩
      · unfold f_X11_count f_X11_count_0
        rw [if_neg (show ¬ Int32.ofNat 2 = 0 by decide), if_neg (show ¬ Int32.ofNat 2 = 1 by decide), if_pos (show Int32.ofNat 2 = 2 from rfl)]
        simp (disch := omega) only [obs, cN_mk, ite_true, ite_false, if_true, if_false, q0, hc.1.2.2.2.1.1]
      · unfold f_X12_count f_X12_count_0
        refine QM_s hm fun m2 he h2 => QM_e h2 ?_
        have y7 : m2 72 7 = Int32.ofNat A := by rw [he, wI_sn (by omega)]; exact hv.1.2.2.2.1.1
        rw [if_neg (show ¬ Int32.ofNat 2 = 0 by decide), if_neg (show ¬ Int32.ofNat 2 = 1 by decide), if_pos (show Int32.ofNat 2 = 2 from rfl)]
        simp (disch := omega) only [obs, cN_mk, ite_true, ite_false, if_true, if_false, q72, y7]
    · refine ⟨Int32.ofNat B, QC_e ?_, ?_⟩
      · unfold f_X11_count f_X11_count_0
        rw [if_neg (show ¬ Int32.ofNat 3 = 0 by decide), if_neg (show ¬ Int32.ofNat 3 = 1 by decide), if_neg (show ¬ Int32.ofNat 3 = 2 by decide), if_pos (show Int32.ofNat 3 = 3 from rfl)]
        simp (disch := omega) only [obs, cN_mk, ite_true, ite_false, if_true, if_false, q0, hc.1.2.2.2.2.1.1]
      · unfold f_X12_count f_X12_count_0
        refine QM_s hm fun m2 he h2 => QM_e h2 ?_
        have y30 : m2 72 30 = Int32.ofNat B := by rw [he, wI_sn (by omega)]; exact hv.1.2.2.2.2.1.1
        rw [if_neg (show ¬ Int32.ofNat 3 = 0 by decide), if_neg (show ¬ Int32.ofNat 3 = 1 by decide), if_neg (show ¬ Int32.ofNat 3 = 2 by decide), if_pos (show Int32.ofNat 3 = 3 from rfl)]
        simp (disch := omega) only [obs, cN_mk, ite_true, ite_false, if_true, if_false, q72, y30]
    · refine ⟨Int32.ofNat tp.2, QC_e ?_, ?_⟩
      · unfold f_X11_count f_X11_count_0
        rw [if_neg (show ¬ Int32.ofNat 4 = 0 by decide), if_neg (show ¬ Int32.ofNat 4 = 1 by decide), if_neg (show ¬ Int32.ofNat 4 = 2 by decide), if_neg (show ¬ Int32.ofNat 4 = 3 by decide), if_pos (show Int32.ofNat 4 = 4 from rfl)]
        simp (disch := omega) only [obs, cN_mk, ite_true, ite_false, if_true, if_false, q0, q1, hc.1.1.1]
      · unfold f_X12_count f_X12_count_0
        refine QM_s hm fun m2 he h2 => QM_e h2 ?_
        have y6 : m2 72 6 = Int32.ofNat tp.2 := by rw [he, wI_sn (by omega)]; exact hv.1.1.1
        rw [if_neg (show ¬ Int32.ofNat 4 = 0 by decide), if_neg (show ¬ Int32.ofNat 4 = 1 by decide), if_neg (show ¬ Int32.ofNat 4 = 2 by decide), if_neg (show ¬ Int32.ofNat 4 = 3 by decide), if_pos (show Int32.ofNat 4 = 4 from rfl)]
        simp (disch := omega) only [obs, cN_mk, ite_true, ite_false, if_true, if_false, q72, y6]
    · refine ⟨pr held, QC_e ?_, ?_⟩
      · unfold f_X11_count f_X11_count_0
        rw [if_neg (show ¬ Int32.ofNat 5 = 0 by decide), if_neg (show ¬ Int32.ofNat 5 = 1 by decide), if_neg (show ¬ Int32.ofNat 5 = 2 by decide), if_neg (show ¬ Int32.ofNat 5 = 3 by decide), if_neg (show ¬ Int32.ofNat 5 = 4 by decide), if_pos (show Int32.ofNat 5 = 5 from rfl)]
        simp (disch := omega) only [obs, cN_mk, ite_true, ite_false, if_true, if_false, q0, hc.1.2.2.2.1.2.1]
      · unfold f_X12_count f_X12_count_0
        refine QM_s hm fun m2 he h2 => QM_e h2 ?_
        have y34 : m2 72 34 = pr held := by rw [he, wI_sn (by omega)]; exact hv.1.2.2.2.1.2.1
        rw [if_neg (show ¬ Int32.ofNat 5 = 0 by decide), if_neg (show ¬ Int32.ofNat 5 = 1 by decide), if_neg (show ¬ Int32.ofNat 5 = 2 by decide), if_neg (show ¬ Int32.ofNat 5 = 3 by decide), if_neg (show ¬ Int32.ofNat 5 = 4 by decide), if_pos (show Int32.ofNat 5 = 5 from rfl)]
        simp (disch := omega) only [obs, cN_mk, ite_true, ite_false, if_true, if_false, q72, y34]
    · refine ⟨Int32.ofNat (σ 7 0), QC_e ?_, ?_⟩
      · unfold f_X11_count f_X11_count_0
        rw [if_neg (show ¬ Int32.ofNat 6 = 0 by decide), if_neg (show ¬ Int32.ofNat 6 = 1 by decide), if_neg (show ¬ Int32.ofNat 6 = 2 by decide), if_neg (show ¬ Int32.ofNat 6 = 3 by decide), if_neg (show ¬ Int32.ofNat 6 = 4 by decide), if_neg (show ¬ Int32.ofNat 6 = 5 by decide), if_pos (show Int32.ofNat 6 = 6 from rfl)]
        simp (disch := omega) only [obs, cN_mk, ite_true, ite_false, if_true, if_false, q0, q27, CS27 hM]
      · unfold f_X12_count f_X12_count_0
        refine QM_s hm fun m2 he h2 => QM_e h2 ?_
        rw [if_neg (show ¬ Int32.ofNat 6 = 0 by decide), if_neg (show ¬ Int32.ofNat 6 = 1 by decide), if_neg (show ¬ Int32.ofNat 6 = 2 by decide), if_neg (show ¬ Int32.ofNat 6 = 3 by decide), if_neg (show ¬ Int32.ofNat 6 = 4 by decide), if_neg (show ¬ Int32.ofNat 6 = 5 by decide), if_pos (show Int32.ofNat 6 = 6 from rfl)]
        simp (disch := omega) only [obs, cN_mk, ite_true, ite_false, if_true, if_false, q72, l30, p85, h2.2.2.2.1.2.2.2.2]
    · refine ⟨Int32.ofNat (sm (fun i => σ 3 i) P), QC_e ?_, ?_⟩
      · unfold f_X11_count f_X11_count_0
        rw [if_neg (show ¬ Int32.ofNat 7 = 0 by decide), if_neg (show ¬ Int32.ofNat 7 = 1 by decide), if_neg (show ¬ Int32.ofNat 7 = 2 by decide), if_neg (show ¬ Int32.ofNat 7 = 3 by decide), if_neg (show ¬ Int32.ofNat 7 = 4 by decide), if_neg (show ¬ Int32.ofNat 7 = 5 by decide), if_neg (show ¬ Int32.ofNat 7 = 6 by decide), if_pos (show Int32.ofNat 7 = 7 from rfl), show isC [11] (mkH n z D m j r) 0 = some () from isC_mk rfl (by decide), obs, C_timesOfAll hP hY hM, cN_mk]
      · unfold f_X12_count f_X12_count_0
        refine QM_s hm fun m2 he h2 => QM_e h2 ?_
        rw [if_neg (show ¬ Int32.ofNat 7 = 0 by decide), if_neg (show ¬ Int32.ofNat 7 = 1 by decide), if_neg (show ¬ Int32.ofNat 7 = 2 by decide), if_neg (show ¬ Int32.ofNat 7 = 3 by decide), if_neg (show ¬ Int32.ofNat 7 = 4 by decide), if_neg (show ¬ Int32.ofNat 7 = 5 by decide), if_neg (show ¬ Int32.ofNat 7 = 6 by decide), if_pos (show Int32.ofNat 7 = 7 from rfl)]
        exact M_timesOfAll hP h2.2.2.1 h2.2.2.2.1
    · refine ⟨pr (σ 5 0), QC_e ?_, ?_⟩
      · unfold f_X11_count f_X11_count_0
        rw [if_neg (show ¬ Int32.ofNat 8 = 0 by decide), if_neg (show ¬ Int32.ofNat 8 = 1 by decide), if_neg (show ¬ Int32.ofNat 8 = 2 by decide), if_neg (show ¬ Int32.ofNat 8 = 3 by decide), if_neg (show ¬ Int32.ofNat 8 = 4 by decide), if_neg (show ¬ Int32.ofNat 8 = 5 by decide), if_neg (show ¬ Int32.ofNat 8 = 6 by decide), if_neg (show ¬ Int32.ofNat 8 = 7 by decide), if_pos (show Int32.ofNat 8 = 8 from rfl)]
        simp (disch := omega) only [obs, cN_mk, ite_true, ite_false, if_true, if_false, q0, q27, CS27 hM]
      · unfold f_X12_count f_X12_count_0
        refine QM_s hm fun m2 he h2 => QM_e h2 ?_
        rw [if_neg (show ¬ Int32.ofNat 8 = 0 by decide), if_neg (show ¬ Int32.ofNat 8 = 1 by decide), if_neg (show ¬ Int32.ofNat 8 = 2 by decide), if_neg (show ¬ Int32.ofNat 8 = 3 by decide), if_neg (show ¬ Int32.ofNat 8 = 4 by decide), if_neg (show ¬ Int32.ofNat 8 = 5 by decide), if_neg (show ¬ Int32.ofNat 8 = 6 by decide), if_neg (show ¬ Int32.ofNat 8 = 7 by decide), if_pos (show Int32.ofNat 8 = 8 from rfl)]
        simp (disch := omega) only [obs, cN_mk, ite_true, ite_false, if_true, if_false, q72, l28, p85, h2.2.2.2.1.2.2.1, l1, pr_sub]
    · refine ⟨Int32.ofNat dg, QC_e ?_, ?_⟩
      · unfold f_X11_count f_X11_count_0
        rw [if_neg (show ¬ Int32.ofNat 9 = 0 by decide), if_neg (show ¬ Int32.ofNat 9 = 1 by decide), if_neg (show ¬ Int32.ofNat 9 = 2 by decide), if_neg (show ¬ Int32.ofNat 9 = 3 by decide), if_neg (show ¬ Int32.ofNat 9 = 4 by decide), if_neg (show ¬ Int32.ofNat 9 = 5 by decide), if_neg (show ¬ Int32.ofNat 9 = 6 by decide), if_neg (show ¬ Int32.ofNat 9 = 7 by decide), if_neg (show ¬ Int32.ofNat 9 = 8 by decide), if_pos (show Int32.ofNat 9 = 9 from rfl)]
        simp (disch := omega) only [obs, cN_mk, ite_true, ite_false, if_true, if_false, q0, hc.1.2.2.2.2.2.1]
      · unfold f_X12_count f_X12_count_0
        refine QM_s hm fun m2 he h2 => QM_e h2 ?_
        have y35 : m2 72 35 = Int32.ofNat dg := by rw [he, wI_sn (by omega)]; exact hv.1.2.2.2.2.2.1
        rw [if_neg (show ¬ Int32.ofNat 9 = 0 by decide), if_neg (show ¬ Int32.ofNat 9 = 1 by decide), if_neg (show ¬ Int32.ofNat 9 = 2 by decide), if_neg (show ¬ Int32.ofNat 9 = 3 by decide), if_neg (show ¬ Int32.ofNat 9 = 4 by decide), if_neg (show ¬ Int32.ofNat 9 = 5 by decide), if_neg (show ¬ Int32.ofNat 9 = 6 by decide), if_neg (show ¬ Int32.ofNat 9 = 7 by decide), if_neg (show ¬ Int32.ofNat 9 = 8 by decide), if_pos (show Int32.ofNat 9 = 9 from rfl)]
        simp (disch := omega) only [obs, cN_mk, ite_true, ite_false, if_true, if_false, q72, y35]
    · refine ⟨Int32.ofNat sn, QC_e ?_, ?_⟩
      · unfold f_X11_count f_X11_count_0
        rw [if_neg (show ¬ Int32.ofNat 10 = 0 by decide), if_neg (show ¬ Int32.ofNat 10 = 1 by decide), if_neg (show ¬ Int32.ofNat 10 = 2 by decide), if_neg (show ¬ Int32.ofNat 10 = 3 by decide), if_neg (show ¬ Int32.ofNat 10 = 4 by decide), if_neg (show ¬ Int32.ofNat 10 = 5 by decide), if_neg (show ¬ Int32.ofNat 10 = 6 by decide), if_neg (show ¬ Int32.ofNat 10 = 7 by decide), if_neg (show ¬ Int32.ofNat 10 = 8 by decide), if_neg (show ¬ Int32.ofNat 10 = 9 by decide), if_pos (show Int32.ofNat 10 = 10 from rfl)]
        simp (disch := omega) only [obs, cN_mk, ite_true, ite_false, if_true, if_false, q0, q55, hc.1.2.2.2.2.2.2.1]
      · unfold f_X12_count f_X12_count_0
        refine QM_s hm fun m2 he h2 => QM_e h2 ?_
        have y46 : m2 72 46 = Int32.ofNat sn := by rw [he, wI_sn (by omega)]; exact hv.1.2.2.2.2.2.2.1
        rw [if_neg (show ¬ Int32.ofNat 10 = 0 by decide), if_neg (show ¬ Int32.ofNat 10 = 1 by decide), if_neg (show ¬ Int32.ofNat 10 = 2 by decide), if_neg (show ¬ Int32.ofNat 10 = 3 by decide), if_neg (show ¬ Int32.ofNat 10 = 4 by decide), if_neg (show ¬ Int32.ofNat 10 = 5 by decide), if_neg (show ¬ Int32.ofNat 10 = 6 by decide), if_neg (show ¬ Int32.ofNat 10 = 7 by decide), if_neg (show ¬ Int32.ofNat 10 = 8 by decide), if_neg (show ¬ Int32.ofNat 10 = 9 by decide), if_pos (show Int32.ofNat 10 = 10 from rfl)]
        simp (disch := omega) only [obs, cN_mk, ite_true, ite_false, if_true, if_false, q72, y46]
    · refine ⟨Int32.ofNat (min 60 (σ 7 0)), QC_e ?_, ?_⟩
      · unfold f_X11_count f_X11_count_0
        rw [if_neg (show ¬ Int32.ofNat 11 = 0 by decide), if_neg (show ¬ Int32.ofNat 11 = 1 by decide), if_neg (show ¬ Int32.ofNat 11 = 2 by decide), if_neg (show ¬ Int32.ofNat 11 = 3 by decide), if_neg (show ¬ Int32.ofNat 11 = 4 by decide), if_neg (show ¬ Int32.ofNat 11 = 5 by decide), if_neg (show ¬ Int32.ofNat 11 = 6 by decide), if_neg (show ¬ Int32.ofNat 11 = 7 by decide), if_neg (show ¬ Int32.ofNat 11 = 8 by decide), if_neg (show ¬ Int32.ofNat 11 = 9 by decide), if_neg (show ¬ Int32.ofNat 11 = 10 by decide), if_pos (show Int32.ofNat 11 = 11 from rfl)]
        simp (disch := omega) only [obs, cN_mk, ite_true, ite_false, if_true, if_false, q0, rk]
      · unfold f_X12_count f_X12_count_0
        refine QM_s hm fun m2 he h2 => QM_e h2 ?_
        have y31 : m2 85 31 = Int32.ofNat (min 60 (σ 7 0)) := by rw [he, wI_ne (by omega)]; exact hv.2.2.1.1
        rw [if_neg (show ¬ Int32.ofNat 11 = 0 by decide), if_neg (show ¬ Int32.ofNat 11 = 1 by decide), if_neg (show ¬ Int32.ofNat 11 = 2 by decide), if_neg (show ¬ Int32.ofNat 11 = 3 by decide), if_neg (show ¬ Int32.ofNat 11 = 4 by decide), if_neg (show ¬ Int32.ofNat 11 = 5 by decide), if_neg (show ¬ Int32.ofNat 11 = 6 by decide), if_neg (show ¬ Int32.ofNat 11 = 7 by decide), if_neg (show ¬ Int32.ofNat 11 = 8 by decide), if_neg (show ¬ Int32.ofNat 11 = 9 by decide), if_neg (show ¬ Int32.ofNat 11 = 10 by decide), if_pos (show Int32.ofNat 11 = 11 from rfl)]
        simp (disch := omega) only [obs, cN_mk, ite_true, ite_false, if_true, if_false, q72, l31, p85, y31]
    · refine ⟨Int32.ofNat acts, QC_e ?_, ?_⟩
      · unfold f_X11_count f_X11_count_0
        rw [if_neg (show ¬ Int32.ofNat 12 = 0 by decide), if_neg (show ¬ Int32.ofNat 12 = 1 by decide), if_neg (show ¬ Int32.ofNat 12 = 2 by decide), if_neg (show ¬ Int32.ofNat 12 = 3 by decide), if_neg (show ¬ Int32.ofNat 12 = 4 by decide), if_neg (show ¬ Int32.ofNat 12 = 5 by decide), if_neg (show ¬ Int32.ofNat 12 = 6 by decide), if_neg (show ¬ Int32.ofNat 12 = 7 by decide), if_neg (show ¬ Int32.ofNat 12 = 8 by decide), if_neg (show ¬ Int32.ofNat 12 = 9 by decide), if_neg (show ¬ Int32.ofNat 12 = 10 by decide), if_neg (show ¬ Int32.ofNat 12 = 11 by decide), if_pos (show Int32.ofNat 12 = 12 from rfl)]
        simp (disch := omega) only [obs, cN_mk, ite_true, ite_false, if_true, if_false, q0, q39, hc.2.2.2.1.1]
      · unfold f_X12_count f_X12_count_0
        refine QM_s hm fun m2 he h2 => QM_e h2 ?_
        have y43 : m2 72 43 = Int32.ofNat acts := by rw [he, wI_sn (by omega)]; exact hv.2.2.2.1
        rw [if_neg (show ¬ Int32.ofNat 12 = 0 by decide), if_neg (show ¬ Int32.ofNat 12 = 1 by decide), if_neg (show ¬ Int32.ofNat 12 = 2 by decide), if_neg (show ¬ Int32.ofNat 12 = 3 by decide), if_neg (show ¬ Int32.ofNat 12 = 4 by decide), if_neg (show ¬ Int32.ofNat 12 = 5 by decide), if_neg (show ¬ Int32.ofNat 12 = 6 by decide), if_neg (show ¬ Int32.ofNat 12 = 7 by decide), if_neg (show ¬ Int32.ofNat 12 = 8 by decide), if_neg (show ¬ Int32.ofNat 12 = 9 by decide), if_neg (show ¬ Int32.ofNat 12 = 10 by decide), if_neg (show ¬ Int32.ofNat 12 = 11 by decide), if_pos (show Int32.ofNat 12 = 12 from rfl)]
        simp (disch := omega) only [obs, cN_mk, ite_true, ite_false, if_true, if_false, q72, y43]
end TOLD
