/-! Calls that set something. -/
section SETS
variable {n z : Nat} {D D' : Dyn} {m m' : MI} {j j' : MJ} {r r' : MR} {tp tp' : TP} {C P : Nat} {τ σ σ' : Sg} {lg lg' : LG} {acts lt : Nat} {hs : Nat → Sg} {img : Bool} {σI : Sg} {lgI : LG} {A held held' : Nat} {tx : Nat → Nat → Nat} {ln : Nat → Nat} {cls : CLS} {B : Nat} {pls : Nat → List ST} {dg dg' sn sn' : Nat} {sw sw' : Nat → Nat → Nat} {x y : Int32} {k a b : Nat} {pl : Pl}
theorem LCd_fr (h : LCd D A held cls m r) (f1 : m' 0 14 = m 0 14) (f2 : m' 0 16 = m 0 16) (f3 : ∀ o, 95 ≤ o → m' o = m o) : LCd D A held cls m' r := by
  obtain ⟨h1, h2, h3, h4⟩ := h
  refine ⟨by rw [f1]; exact h1, by rw [f2]; exact h2, fun l hl => ?_, h4⟩
  obtain ⟨o, e, hg⟩ := h3 l hl
  exact ⟨o, e, PG_fr2 hg (f3 o hg.2.2.1) rfl⟩
theorem CI_x (h : CIv n D m r tp C P τ σ lg acts lt hs img σI lgI A held cls B pls dg sn sw) (hf : ∀ a, 3 ≤ a → ¬ (55 ≤ a ∧ a ≤ 59) → m' a = m a) (hr : ∀ a, a ≠ 49 → r' a = r a) (t1 : TC m' tp'.1 tp'.2) (t4 : LCd D A held' cls m' r') (t5 : m' 0 15 = m 0 15) (t6 : m' 0 17 = Int32.ofNat dg') (t7 : SNc m' sn' sw') : CIv n D m' r' tp' C P τ σ lg acts lt hs img σI lgI A held' cls B pls dg' sn' sw' := by
  obtain ⟨⟨h1, h2, h3, h4, h5, h6, h7⟩, h8, h9, h10, h11⟩ := h
  refine ⟨⟨t1, YC_fr h2 (fun a ha => hf a (by omega) (by omega)), ⟨by rw [hf 39 (by omega) (by omega)]; exact h3.1, fun hi => ⟨CS_fr (h3.2 hi).1 (fun a ha => hf a (by omega) (by omega)), by rw [hf 48 (by omega) (by omega)]; exact (h3.2 hi).2⟩⟩, t4, ⟨by rw [t5]; exact h5.1, fun p hp => ?_⟩, t6, t7⟩, CS_fr h8 (fun a ha => hf a (by omega) (by omega)), by rw [hf 41 (by omega) (by omega)]; exact h9, ?_, ?_⟩
  · obtain ⟨o, e, hg⟩ := h5.2 p hp
    exact ⟨o, by rw [hr 66 (by omega)]; exact e, PG_fr2 hg (hf o (by have := hg.2.2.1; omega) (by have := hg.2.2.1; omega)) rfl⟩
  · have := HC_fr (m' := m') (lg' := lg) h10 h11 (by rw [hf 39 (by omega) (by omega)]) (by rw [hf 39 (by omega) (by omega)]) (fun a ha => hf a (by omega) (by omega)) (fun k _ hr => by rw [hf 41 (by omega) (by omega)]; exact hr)
    unfold HC
    rw [hr 40 (by omega)]
    exact this
  · unfold DW
    rw [hr 40 (by omega), hr 61 (by omega), hr 66 (by omega)]
    exact h11
theorem LMd_h (h : LMd A held tx ln cls m j) (f1 : m' 72 7 = m 72 7) (f2 : m' 72 34 = pr held') (f3 : ∀ a, a = 74 ∨ a = 75 ∨ a = 76 ∨ a = 88 → m' a = m a) : LMd A held' tx ln cls m' j := by
  obtain ⟨h1, h2, h3, h4, h5⟩ := h
  refine ⟨by rw [f1]; exact h1, f2, by rw [f3 74 (by omega), f3 75 (by omega)]; exact h3, ?_, by rw [f3 88 (by omega)]; exact h5⟩
  unfold LT
  rw [f3 76 (by omega)]
  exact h4
theorem MI_x (hB : WPl B pls) (h : MIv m j tp C P τ σ lg acts hs img σI lgI A held tx ln cls B pls dg sn sw) (hf : ∀ a, 74 ≤ a → a < 95 → a ≠ 91 → m' a = m a) (h72 : ∀ i, i = 7 ∨ i = 26 ∨ i = 27 ∨ i = 30 ∨ i = 43 ∨ i = 49 → m' 72 i = m 72 i) (t1 : TMd m' tp') (t4 : m' 72 34 = pr held') (t6 : m' 72 35 = Int32.ofNat dg') (t7 : SNm m' sn' sw') : MIv m' j tp' C P τ σ lg acts hs img σI lgI A held' tx ln cls B pls dg' sn' sw' := by
  obtain ⟨⟨h1, h2, h3, h4, h5, h6, h7⟩, h8, h9, h10⟩ := h
  have e := fun a c1 c2 c3 => hf a c1 c2 c3
  refine ⟨⟨t1, YM_fr h2 (e 77 (by omega) (by omega) (by omega)) (e 81 (by omega) (by omega) (by omega)) (h72 26 (by omega)) (h72 27 (by omega)), ?_, LMd_h h4 (h72 7 (by omega)) t4 (fun a ha => e a (by omega) (by omega) (by omega)), ?_, t6, t7⟩, by rw [e 85 (by omega) (by omega) (by omega)]; exact h8, by rw [e 85 (by omega) (by omega) (by omega)]; exact h9, HM_fr h10 (h72 43 (by omega)) (e 90 (by omega) (by omega) (by omega)) (fun _ _ _ _ => rfl)⟩
  · unfold IMm
    rw [h72 49 (by omega), e 93 (by omega) (by omega) (by omega)]
    exact h3
  · unfold PLm
    rw [h72 30 (by omega), e 83 (by omega) (by omega) (by omega), e 84 (by omega) (by omega) (by omega)]
    exact h5
theorem TC_w {t : Nat → Nat} {N : Nat} (h : TC m t N) (f1 : m' 1 = m 1) (f2 : m' 2 = m 2) : TC m' t N := by
  unfold TC
  rw [f1, f2]
  exact h
theorem TMd_w (h : TMd m tp) (f1 : m' 72 6 = m 72 6) (f2 : m' 73 = m 73) : TMd m' tp := by
  unfold TMd
  rw [f1, f2]
  exact h
theorem SNc_w (h : SNc m sn sw) (f1 : ∀ a, 55 ≤ a → a ≤ 59 → m' a = m a) : SNc m' sn sw := by
  unfold SNc
  rw [f1 55 (by omega) (by omega), f1 56 (by omega) (by omega), f1 57 (by omega) (by omega), f1 58 (by omega) (by omega), f1 59 (by omega) (by omega)]
  exact h
theorem SNm_w (h : SNm m sn sw) (f1 : m' 72 46 = m 72 46) (f2 : m' 91 = m 91) : SNm m' sn sw := by
  unfold SNm
  rw [f1, f2]
  exact h
theorem K_feed (hw : WIv C P τ σ lg acts hs img σI lgI A held tx ln cls B pls dg sn sw) (hc : CIv n D m r tp C P τ σ lg acts lt hs img σI lgI A held cls B pls dg sn sw) (hv : MIv m j tp C P τ σ lg acts hs img σI lgI A held tx ln cls B pls dg sn sw) (x1 x2 x3 x4 x5 : Int32) : CALX 0 0 n z D m j r (f_X11_feed 0 x1 x2 x3 x4 x5) (f_X12_feed 72 x1 x2 x3 x4 x5) := by
  obtain ⟨m1, e1, t1, f1⟩ := C_feed (n := n) (z := z) (D := D) (j := j) (r := r) (a := tp) x1 x2 x3 x4 x5 hc.1.1
  have hv1 := MI_c (m' := m1) (j' := j) hv (fun a c1 c2 => f1 a (by omega) (by omega)) rfl
  obtain ⟨m2, e2, t2, f2, f3, -⟩ := M_feed (n := n) (z := z) (D := D) (j := j) (r := r) (a := tp) x1 x2 x3 x4 x5 hv1.1.1 hc.1.1.2.1
  have hc1 := CI_x (m' := m1) (r' := r) (tp' := fdN tp x1 x2 x3 x4 x5) hc (fun a c1 _ => f1 a (by omega) (by omega)) (fun _ _ => rfl) t1 (LCd_fr hc.1.2.2.2.1 (by rw [f1 0 (by omega) (by omega)]) (by rw [f1 0 (by omega) (by omega)]) (fun o ho => f1 o (by omega) (by omega))) (by rw [f1 0 (by omega) (by omega)]) (by rw [f1 0 (by omega) (by omega)]; exact hc.1.2.2.2.2.2.1) (SNc_w hc.1.2.2.2.2.2.2 (fun a c1 c2 => f1 a (by omega) (by omega)))
  have hv2 := MI_x (m' := m2) (tp' := fdN tp x1 x2 x3 x4 x5) hw.2.2.2.2.2.2.1 hv1 (fun a c1 c2 _ => f2 a (by omega) (by omega)) (fun i hi => f3 i (by omega) (by omega)) t2 (by rw [f3 34 (by omega) (by omega)]; exact hv1.1.2.2.2.1.2.1) (by rw [f3 35 (by omega) (by omega)]; exact hv1.1.2.2.2.2.2.1) (SNm_w hv1.1.2.2.2.2.2.2 (f3 46 (by omega) (by omega)) (f2 91 (by omega) (by omega)))
  exact ⟨_, n, z, D, m1, j, r, m2, j, r, e1, e2, ⟨by omega, by omega⟩, ⟨by omega, by omega⟩, _, C, P, τ, σ, lg, acts, lt, hs, img, σI, lgI, A, held, tx, ln, cls, B, pls, dg, sn, sw, hw, CI_m hc1 (fun a ha => f2 a (by omega) (by omega)) (fun _ _ => rfl), hv2⟩
theorem K_end (hw : WIv C P τ σ lg acts hs img σI lgI A held tx ln cls B pls dg sn sw) (hc : CIv n D m r tp C P τ σ lg acts lt hs img σI lgI A held cls B pls dg sn sw) (hv : MIv m j tp C P τ σ lg acts hs img σI lgI A held tx ln cls B pls dg sn sw) (x : Int32) : CALX 0 0 n z D m j r (f_X11_end 0 x) (f_X12_end 72 x) := by
  have hN := hc.1.1.2.1
  have h11 := hc.1.1.1
  have h76 : (wI m 72 0 (Int32.ofNat 0)) 72 6 = Int32.ofNat tp.2 := by rw [wI_sn (by omega)]; exact hv.1.1.1
  cases him : im x 0 (tp.2 + 1) with
  | false =>
    refine ⟨Int32.ofNat 0, n, z, D, m, j, r, wI m 72 0 (Int32.ofNat 0), j, r, ?_, ?_, ⟨by omega, by omega⟩, ⟨by omega, by omega⟩, tp, C, P, τ, σ, lg, acts, lt, hs, img, σI, lgI, A, held, tx, ln, cls, B, pls, dg, sn, sw, hw, CI_m hc (fun a ha => wI_ne (by omega)) (fun _ _ => rfl), MI_x hw.2.2.2.2.2.2.1 hv (fun a c1 c2 _ => wI_ne (by omega)) (fun i hi => wI_sn (by omega)) (TMd_w hv.1.1 (wI_sn (by omega)) (wI_ne (by omega))) (by rw [wI_sn (by omega)]; exact hv.1.2.2.2.1.2.1) (by rw [wI_sn (by omega)]; exact hv.1.2.2.2.2.2.1) (SNm_w hv.1.2.2.2.2.2.2 (wI_sn (by omega)) (wI_ne (by omega)))⟩
    · unfold f_X11_end f_X11_end_0
      simp (disch := omega) only [obs, cN_mk, ite_true, ite_false, if_true, if_false, q0, q1, h11, l0, l1, rng2, him, Bool.false_eq_true]
    · unfold f_X12_end f_X12_end_0
      rw [thr0]
      simp (disch := omega) only [obs, cN_mk, ite_true, ite_false, if_true, if_false, q72, l0, l1, h76, rng2, him, Bool.false_eq_true]
  | true =>
    obtain ⟨k, -, hk, rfl⟩ := im_t (by omega) (by omega) him
    have hc1 := CI_x (m' := wI m 1 1 (Int32.ofNat k)) (r' := r) (tp' := (tp.1, k)) hc (fun a c1 _ => wI_ne (by omega)) (fun _ _ => rfl) ⟨wI_se, by show k ≤ 240; omega, fun q hq => by rw [wI_ne (by omega)]; exact hc.1.1.2.2 q (by have : q < k := hq; omega)⟩ (LCd_fr hc.1.2.2.2.1 (by rw [wI_ne (by omega)]) (by rw [wI_ne (by omega)]) (fun o ho => wI_ne (by omega))) (by rw [wI_ne (by omega)]) (by rw [wI_ne (by omega)]; exact hc.1.2.2.2.2.2.1) (SNc_w hc.1.2.2.2.2.2.2 (fun a c1 c2 => wI_ne (by omega)))
    have hv1 := MI_c (m' := wI m 1 1 (Int32.ofNat k)) (j' := j) hv (fun a c1 c2 => wI_ne (by omega)) rfl
    have h76' : (wI (wI m 1 1 (Int32.ofNat k)) 72 0 (Int32.ofNat 0)) 72 6 = Int32.ofNat tp.2 := by rw [wI_sn (by omega)]; exact hv1.1.1.1
    have hv2 := MI_x (m' := wI (wI (wI m 1 1 (Int32.ofNat k)) 72 0 (Int32.ofNat 0)) 72 6 (Int32.ofNat k)) (tp' := (tp.1, k)) hw.2.2.2.2.2.2.1 hv1 (fun a c1 c2 _ => by rw [wI_ne (by omega), wI_ne (by omega)]) (fun i hi => by rw [wI_sn (by omega), wI_sn (by omega)]) ⟨wI_se, fun q hq => by rw [wI_ne (by omega), wI_ne (by omega)]; exact hv1.1.1.2 q (by have : q < k := hq; omega)⟩ (by rw [wI_sn (by omega), wI_sn (by omega)]; exact hv1.1.2.2.2.1.2.1) (by rw [wI_sn (by omega), wI_sn (by omega)]; exact hv1.1.2.2.2.2.2.1) (SNm_w hv1.1.2.2.2.2.2.2 (by rw [wI_sn (by omega), wI_sn (by omega)]) (by rw [wI_ne (by omega), wI_ne (by omega)]))
    refine ⟨Int32.ofNat 1, n, z, D, wI m 1 1 (Int32.ofNat k), j, r, wI (wI (wI m 1 1 (Int32.ofNat k)) 72 0 (Int32.ofNat 0)) 72 6 (Int32.ofNat k), j, r, ?_, ?_, ⟨by omega, by omega⟩, ⟨by omega, by omega⟩, (tp.1, k), C, P, τ, σ, lg, acts, lt, hs, img, σI, lgI, A, held, tx, ln, cls, B, pls, dg, sn, sw, hw, CI_m hc1 (fun a ha => by rw [wI_ne (by omega), wI_ne (by omega)]) (fun _ _ => rfl), hv2⟩
    · unfold f_X11_end f_X11_end_0
      simp (disch := omega) only [obs, cN_mk, ite_true, ite_false, if_true, if_false, q0, q1, h11, l0, l1, no1_e, bI_t, bI_f, ieq_f, ile_t, ile_f, ilt_t, ilt_f]
    · unfold f_X12_end f_X12_end_0
      rw [thr0]
      simp (disch := omega) only [obs, cN_mk, ite_true, ite_false, if_true, if_false, q72, l0, l1, no1_e, bI_t, bI_f, ieq_f, ile_t, ile_f, ilt_t, ilt_f, h76']
theorem K_dogs (hw : WIv C P τ σ lg acts hs img σI lgI A held tx ln cls B pls dg sn sw) (hc : CIv n D m r tp C P τ σ lg acts lt hs img σI lgI A held cls B pls dg sn sw) (hv : MIv m j tp C P τ σ lg acts hs img σI lgI A held tx ln cls B pls dg sn sw) (hn : n ≤ 1000000) (x : Int32) : CALX 0 0 n z D m j r (f_X11_dogs 0 x) (f_X12_dogs 72 x) := by
  have h017 := hc.1.2.2.2.2.2.1
  have hdg := hw.2.2.2.2.2.2.2.1
  cases him : im x 0 10 with
  | false =>
    refine CALL_q hw hc hv (fun m1 hm1 hv1 => ⟨Int32.ofNat 0, QC_e ?_, ?_⟩) hn
    · unfold f_X11_dogs f_X11_dogs_0
      simp (disch := omega) only [obs, cN_mk, ite_true, ite_false, if_true, if_false, q0, l0, l1, l9, rng1, Nat.reduceAdd, him, Bool.false_eq_true]
    · unfold f_X12_dogs f_X12_dogs_0
      refine QM_s hm1 fun m2 he h2 => QM_e h2 ?_
      simp (disch := omega) only [obs, cN_mk, ite_true, ite_false, if_true, if_false, q72, i64_0, i64_9, M_inK, Nat.reduceAdd, him, l0, l1, no1_e, bI_t, bI_f, ieq_f, ile_t, ile_f, ilt_t, ilt_f]
  | true =>
    obtain ⟨k, -, hk, rfl⟩ := im_t (by omega) (by omega) him
    by_cases hkd : k = dg
    · subst hkd
      refine CALL_q hw hc hv (fun m1 hm1 hv1 => ⟨Int32.ofNat 0, QC_e ?_, ?_⟩) hn
      · unfold f_X11_dogs f_X11_dogs_0
        simp (disch := omega) only [obs, cN_mk, ite_true, ite_false, if_true, if_false, q0, l0, l1, no1_e, bI_t, bI_f, ieq_f, ile_t, ile_f, ilt_t, ilt_f, l9, h017]
      · unfold f_X12_dogs f_X12_dogs_0
        refine QM_s hm1 fun m2 he h2 => QM_e h2 ?_
        have y35 : m2 72 35 = Int32.ofNat k := by rw [he, wI_sn (by omega)]; exact hv1.1.2.2.2.2.2.1
        simp (disch := omega) only [obs, cN_mk, ite_true, ite_false, if_true, if_false, q72, i64_0, i64_9, M_inK, Nat.reduceAdd, him, l0, l1, no1_e, bI_t, bI_f, ieq_f, ile_t, ile_f, ilt_t, ilt_f, y35]
    · have hc1 := CI_x (m' := wI m 0 17 (Int32.ofNat k)) (r' := r) (dg' := k) hc (fun a c1 _ => wI_ne (by omega)) (fun _ _ => rfl) (TC_w hc.1.1 (wI_ne (by omega)) (wI_ne (by omega))) (LCd_fr hc.1.2.2.2.1 (wI_sn (by omega)) (wI_sn (by omega)) (fun o ho => wI_ne (by omega))) (wI_sn (by omega)) wI_se (SNc_w hc.1.2.2.2.2.2.2 (fun a c1 c2 => wI_ne (by omega)))
      have hv1 := MI_c (m' := wI m 0 17 (Int32.ofNat k)) (j' := j) hv (fun a c1 c2 => wI_ne (by omega)) rfl
      have y35 : (wI (wI m 0 17 (Int32.ofNat k)) 72 0 (Int32.ofNat 0)) 72 35 = Int32.ofNat dg := by rw [wI_sn (by omega)]; exact hv1.1.2.2.2.2.2.1
      have hv2 := MI_x (m' := wI (wI (wI m 0 17 (Int32.ofNat k)) 72 0 (Int32.ofNat 0)) 72 35 (Int32.ofNat k)) (dg' := k) hw.2.2.2.2.2.2.1 hv1 (fun a c1 c2 _ => by rw [wI_ne (by omega), wI_ne (by omega)]) (fun i hi => by rw [wI_sn (by omega), wI_sn (by omega)]) (TMd_w hv1.1.1 (by rw [wI_sn (by omega), wI_sn (by omega)]) (by rw [wI_ne (by omega), wI_ne (by omega)])) (by rw [wI_sn (by omega), wI_sn (by omega)]; exact hv1.1.2.2.2.1.2.1) wI_se (SNm_w hv1.1.2.2.2.2.2.2 (by rw [wI_sn (by omega), wI_sn (by omega)]) (by rw [wI_ne (by omega), wI_ne (by omega)]))
      obtain ⟨w1, w2, w3, w4, w5, w6, w7, w8, w9⟩ := hw
      refine ⟨Int32.ofNat 1, n, z, D, wI m 0 17 (Int32.ofNat k), j, r, wI (wI (wI m 0 17 (Int32.ofNat k)) 72 0 (Int32.ofNat 0)) 72 35 (Int32.ofNat k), j, r, ?_, ?_, ⟨by omega, by omega⟩, ⟨by omega, by omega⟩, tp, C, P, τ, σ, lg, acts, lt, hs, img, σI, lgI, A, held, tx, ln, cls, B, pls, k, sn, sw, ⟨w1, w2, w3, w4, w5, w6, w7, by omega, w9⟩, CI_m hc1 (fun a ha => by rw [wI_ne (by omega), wI_ne (by omega)]) (fun _ _ => rfl), hv2⟩
      · unfold f_X11_dogs f_X11_dogs_0
        simp (disch := omega) only [obs, cN_mk, ite_true, ite_false, if_true, if_false, q0, l0, l1, no1_e, bI_t, bI_f, ieq_f, ile_t, ile_f, ilt_t, ilt_f, l9, h017]
      · unfold f_X12_dogs f_X12_dogs_0
        rw [thr0]
        simp (disch := omega) only [obs, cN_mk, ite_true, ite_false, if_true, if_false, q72, i64_0, i64_9, M_inK, Nat.reduceAdd, him, l0, l1, no1_e, bI_t, bI_f, ieq_f, ile_t, ile_f, ilt_t, ilt_f, y35]
/-- a law, or none -/
theorem law_c (x : Int32) (hA : A ≤ 4) : (∃ k, k ≤ A ∧ x = pr k) ∨ ((x = no1) = False ∧ im x 0 A = false) := by
  by_cases h : x = no1
  · exact Or.inl ⟨0, by omega, h⟩
  · cases him : im x 0 A with
    | true =>
      obtain ⟨k, -, hk, rfl⟩ := im_t (by omega) (by omega) him
      exact Or.inl ⟨k + 1, by omega, rfl⟩
    | false => exact Or.inr ⟨eq_false h, rfl⟩
theorem no1_lt {A : Nat} (hA : A < 2147483648) : no1 < Int32.ofNat A := by
  rw [Int32.lt_iff_toInt_lt, i_int hA, no1_toInt]
  omega
theorem no1_nlt {x : Int32} (h1 : ¬ x = no1) (h2 : ¬ Int32.ofNat 0 ≤ x) : x < no1 := by
  have a1 : ¬ (0 ≤ x.toInt) := fun e => h2 (by rw [Int32.le_iff_toInt_le, i_int (by omega)]; exact e)
  have a2 : x.toInt ≠ -1 := fun e => h1 (by apply Int32.toInt_inj.mp; rw [e, no1_toInt])
  rw [Int32.lt_iff_toInt_lt, no1_toInt]
  omega
theorem K_law (hw : WIv C P τ σ lg acts hs img σI lgI A held tx ln cls B pls dg sn sw) (hc : CIv n D m r tp C P τ σ lg acts lt hs img σI lgI A held cls B pls dg sn sw) (hv : MIv m j tp C P τ σ lg acts hs img σI lgI A held tx ln cls B pls dg sn sw) (hn : n ≤ 1000000) (x : Int32) : CALX 0 0 n z D m j r (f_X11_law 0 x) (f_X12_law 72 x) := by
  obtain ⟨w1, w2, w3, w4, w5, w6, w7, w8, w9⟩ := hw
  have hA := w6.1
  obtain ⟨l1', l2', l3', l4'⟩ := hc.1.2.2.2.1
  rcases law_c (A := A) x hA with ⟨k, hk, rfl⟩ | ⟨hx, him⟩
  · -- it is set
    have mq : ∀ q : Option Nat, q = (if k = 0 then none else r 61 (k - 1)) → CALX 0 0 n z D m j r (f_X11_law 0 (pr k)) (f_X12_law 72 (pr k)) := by
      intro q hq
      have rq : ∀ a, a ≠ 49 → wR r 49 0 q a = r a := fun a ha => if_neg ha
      have rs : wR r 49 0 q 49 0 = q := by simp [wR, va_up]
      have hc1 := CI_x (m' := wI m 0 16 (pr k)) (r' := wR r 49 0 q) (held' := k) hc (fun a c1 _ => wI_ne (by omega)) rq (TC_w hc.1.1 (wI_ne (by omega)) (wI_ne (by omega))) ⟨by rw [wI_sn (by omega)]; exact l1', wI_se, fun l hl => by
          obtain ⟨o, e, hg⟩ := l3' l hl
          exact ⟨o, by rw [rq 61 (by omega)]; exact e, PG_fr2 hg (wI_ne (by have := hg.2.2.1; omega)) rfl⟩, by rw [rs, rq 61 (by omega)]; exact hq⟩ (wI_sn (by omega)) (by rw [wI_sn (by omega)]; exact hc.1.2.2.2.2.2.1) (SNc_w hc.1.2.2.2.2.2.2 (fun a c1 c2 => wI_ne (by omega)))
      have hv1 := MI_c (m' := wI m 0 16 (pr k)) (j' := j) hv (fun a c1 c2 => wI_ne (by omega)) rfl
      have y7 : (wI (wI m 0 16 (pr k)) 72 0 (Int32.ofNat 0)) 72 7 = Int32.ofNat A := by rw [wI_sn (by omega)]; exact hv1.1.2.2.2.1.1
      have hv2 := MI_x (m' := wI (wI (wI m 0 16 (pr k)) 72 0 (Int32.ofNat 0)) 72 34 (pr k)) (held' := k) w7 hv1 (fun a c1 c2 _ => by rw [wI_ne (by omega), wI_ne (by omega)]) (fun i hi => by rw [wI_sn (by omega), wI_sn (by omega)]) (TMd_w hv1.1.1 (by rw [wI_sn (by omega), wI_sn (by omega)]) (by rw [wI_ne (by omega), wI_ne (by omega)])) wI_se (by rw [wI_sn (by omega), wI_sn (by omega)]; exact hv1.1.2.2.2.2.2.1) (SNm_w hv1.1.2.2.2.2.2.2 (by rw [wI_sn (by omega), wI_sn (by omega)]) (by rw [wI_ne (by omega), wI_ne (by omega)]))
      refine ⟨Int32.ofNat 1, n, z, D, wI m 0 16 (pr k), j, wR r 49 0 q, wI (wI (wI m 0 16 (pr k)) 72 0 (Int32.ofNat 0)) 72 34 (pr k), j, wR r 49 0 q, ?_, ?_, ⟨by omega, by omega⟩, ⟨by omega, by omega⟩, tp, C, P, τ, σ, lg, acts, lt, hs, img, σI, lgI, A, k, tx, ln, cls, B, pls, dg, sn, sw, ⟨w1, w2, w3, w4, w5, ⟨w6.1, hk, w6.2.2⟩, w7, w8, w9⟩, CI_m hc1 (fun a ha => by rw [wI_ne (by omega), wI_ne (by omega)]) (fun _ _ => rfl), hv2⟩
      · unfold f_X11_law f_X11_law_0
        by_cases hk0 : k = 0
        · subst hk0
          rw [if_pos rfl] at hq
          subst hq
          have n1 : ¬ no1 < no1 := fun h => Int32.lt_irrefl h
          have n2 := no1_lt (A := A) (by omega)
          simp only [pr_0, l1, no1_e, n1, if_false, q0, obs, l1', n2, if_true, f_X11_law_39, q49]
        · obtain ⟨d, rfl⟩ : ∃ d, k = d + 1 := ⟨k - 1, by omega⟩
          rw [if_neg hk0, show d + 1 - 1 = d by omega] at hq
          obtain ⟨o, e, -⟩ := l3' d (by omega)
          rw [e] at hq
          subst hq
          have n1 : (Int32.ofNat d < no1) = False := eq_false (fun h => by
            have := Int32.lt_iff_toInt_lt.mp h
            rw [i_int (by omega), no1_toInt] at this
            omega)
          have n3 : (Int32.ofNat d = no1) = False := eq_false (fun h => (no1_ne (by omega)).mp h)
          simp (disch := omega) only [pr_s, l1, no1_e, n1, obs, cN_mk, ite_true, ite_false, if_true, if_false, q0, l1', ilt_t, n3, p61, e, f_X11_law_39, q49]
      · unfold f_X12_law f_X12_law_0
        rw [thr0]
        by_cases hk0 : k = 0
        · subst hk0
          simp (disch := omega) only [pr_0, obs, cN_mk, ite_true, ite_false, if_true, if_false, l0, l1, no1_e, f_X12_law_28, q72]
        · obtain ⟨d, rfl⟩ : ∃ d, k = d + 1 := ⟨k - 1, by omega⟩
          have n3 : (Int32.ofNat d = no1) = False := eq_false (fun h => (no1_ne (by omega)).mp h)
          have i1 : im (Int32.ofNat d) 0 A = true := im_k (by omega)
          rw [pr_s] at y7
          simp (disch := omega) only [pr_s, obs, cN_mk, ite_true, ite_false, if_true, if_false, l0, l1, no1_e, bI_t, bI_f, ieq_f, ile_t, ile_f, ilt_t, ilt_f, n3, q72, y7, pr_sub, i64_0, M_inP, i1, f_X12_law_28]
    exact mq _ rfl
  · refine CALL_q ⟨w1, w2, w3, w4, w5, w6, w7, w8, w9⟩ hc hv (fun m1 hm1 hv1 => ⟨Int32.ofNat 0, QC_e ?_, ?_⟩) hn
    · unfold f_X11_law f_X11_law_0
      by_cases h0 : Int32.ofNat 0 ≤ x
      · have n1 : (x < no1) = False := eq_false (fun h => by
          have a1 := Int32.lt_iff_toInt_lt.mp h
          have a2 := Int32.le_iff_toInt_le.mp h0
          rw [no1_toInt] at a1
          rw [i_int (by omega)] at a2
          omega)
        have n2 : (x < Int32.ofNat A) = False := eq_false (fun h => by
          unfold im at him
          exact of_decide_eq_false him ⟨h0, h⟩)
        simp (disch := omega) only [l0, l1, no1_e, n1, obs, cN_mk, ite_true, ite_false, if_true, if_false, q0, l1', n2]
      · have n1 := no1_nlt (of_eq_false hx) h0
        simp (disch := omega) only [l0, l1, no1_e, n1, obs, cN_mk, ite_true, ite_false, if_true, if_false]
    · unfold f_X12_law f_X12_law_0
      refine QM_s hm1 fun m2 he h2 => QM_e h2 ?_
      have y7 : m2 72 7 = Int32.ofNat A := by rw [he, wI_sn (by omega)]; exact hv1.1.2.2.2.1.1
      simp (disch := omega) only [obs, cN_mk, ite_true, ite_false, if_true, if_false, l0, l1, no1_e, bI_t, bI_f, ieq_f, ile_t, ile_f, ilt_t, ilt_f, hx, q72, y7, pr_sub, i64_0, M_inP, him]
end SETS
