/-! Pairs of answers. -/
section PRS
variable {n z : Nat} {D : Dyn} {m m1 m' : MI} {j j1 j' : MJ} {r r1 r' : MR} {pl : Pl} {LC : MI → MR → Prop} {LM : MI → MJ → Prop} {C P : Nat} {τ σ σ0 : Sg} {w p c s N cnt : Nat} {x y : Int32}
theorem Q_kinds (hc : EC n z D pl LC m r C P τ σ) (hm : EM n z D pl LM m1 j1 C P τ σ) (x : Int32) : QQ n z D LM m j r m1 j1 r1 (f_X11_kinds 0 x) (f_X12_kinds 72 x) := by
  have hW := hc.1
  have hS := hc.2.1
  have hY := hc.2.2.1
  have hM := hc.2.2.2.1
  have hP := hW.2.1
  have hC := hW.1
  by_cases hP0 : P = 0
  · refine ⟨no1, QC_e ?_, ?_⟩
    · unfold f_X11_kinds f_X11_kinds_0
      simp (disch := omega) only [obs, cN_mk, ite_true, ite_false, if_true, if_false, q0, C_hasCity hY hP, hP0, Nat.lt_irrefl, decide_false, l0, l1, no1_e, bI_t, bI_f, ieq_f, ile_t, ile_f, ilt_t, ilt_f]
    · unfold f_X12_kinds f_X12_kinds_0
      refine QM_s hm fun m2 _ h2 => QM_e h2 ?_
      simp (disch := omega) only [obs, cN_mk, ite_true, ite_false, if_true, if_false, q72, h2.2.2.1.2.1, hP0, l0, l1, no1_e, bI_t, bI_f, ieq_f, ile_t, ile_f, ilt_t, ilt_f]
  have hd : decide (0 < P) = true := decide_eq_true (by omega)
  cases him : im x 1 4 with
  | false =>
    refine ⟨no1, QC_e ?_, ?_⟩
    · unfold f_X11_kinds f_X11_kinds_0
      simp (disch := omega) only [obs, cN_mk, ite_true, ite_false, if_true, if_false, q0, C_hasCity hY hP, hd, l0, l1, no1_e, bI_t, bI_f, ieq_f, ile_t, ile_f, ilt_t, ilt_f, l3, rng2, Nat.reduceAdd, him, Bool.false_eq_true]
    · unfold f_X12_kinds f_X12_kinds_0
      refine QM_s hm fun m2 _ h2 => QM_e h2 ?_
      simp (disch := omega) only [obs, cN_mk, ite_true, ite_false, if_true, if_false, q72, h2.2.2.1.2.1, i64_1, i64_3, M_inK, Nat.reduceAdd, him, l0, l1, no1_e, bI_t, bI_f, ieq_f, ile_t, ile_f, ilt_t, ilt_f]
  | true =>
    obtain ⟨k, hk1, hk, rfl⟩ := im_t (by omega) (by omega) him
    refine ⟨Int32.ofNat (bts (fun i => decide (τ 0 i = k)) P), QC_e ?_, ?_⟩
    · unfold f_X11_kinds f_X11_kinds_0
      simp (disch := omega) only [obs, cN_mk, ite_true, ite_false, if_true, if_false, q0, C_hasCity hY hP, hd, l0, l1, no1_e, bI_t, bI_f, ieq_f, ile_t, ile_f, ilt_t, ilt_f, l3]
      exact C_kinds hP hW hY (by omega)
    · unfold f_X12_kinds f_X12_kinds_0
      refine QM_s hm fun m2 _ h2 => QM_e h2 ?_
      simp (disch := omega) only [obs, cN_mk, ite_true, ite_false, if_true, if_false, q72, h2.2.2.1.2.1, i64_1, i64_3, M_inK, Nat.reduceAdd, him, l0, l1, no1_e, bI_t, bI_f, ieq_f, ile_t, ile_f, ilt_t, ilt_f]
      exact M_kinds hW h2.2.2.1 (by omega)
theorem Q_shares (hc : EC n z D pl LC m r C P τ σ) (hm : EM n z D pl LM m1 j1 C P τ σ) (x y : Int32) : QQ n z D LM m j r m1 j1 r1 (f_X11_shares 0 x y) (f_X12_shares 72 x y) := by
  have hW := hc.1
  have hS := hc.2.1
  have hY := hc.2.2.1
  have hM := hc.2.2.2.1
  have hP := hW.2.1
  have hC := hW.1
  cases him : im x 0 C with
  | false =>
    refine ⟨no1, QC_e ?_, ?_⟩
    · unfold f_X11_shares f_X11_shares_0
      simp (disch := omega) only [obs, cN_mk, ite_true, ite_false, if_true, if_false, q0, C_hasCorner hY, him, l0, l1, no1_e, bI_t, bI_f, ieq_f, ile_t, ile_f, ilt_t, ilt_f]
    · unfold f_X12_shares f_X12_shares_0
      refine QM_s hm fun m2 _ h2 => QM_e h2 ?_
      simp (disch := omega) only [obs, cN_mk, ite_true, ite_false, if_true, if_false, q72, M_isCorner h2.2.2.1, him, l0, l1, no1_e, bI_t, bI_f, ieq_f, ile_t, ile_f, ilt_t, ilt_f]
  | true =>
    obtain ⟨c, -, hcC, rfl⟩ := im_t (by omega) (by omega) him
    cases hiy : im y 0 1000 with
    | false =>
      refine ⟨no1, QC_e ?_, ?_⟩
      · unfold f_X11_shares f_X11_shares_0
        simp (disch := omega) only [obs, cN_mk, ite_true, ite_false, if_true, if_false, q0, C_hasCorner hY, him, l0, l1, no1_e, bI_t, bI_f, ieq_f, ile_t, ile_f, ilt_t, ilt_f, l999, rng2, Nat.reduceAdd, hiy, Bool.false_eq_true]
      · unfold f_X12_shares f_X12_shares_0
        refine QM_s hm fun m2 _ h2 => QM_e h2 ?_
        simp (disch := omega) only [obs, cN_mk, ite_true, ite_false, if_true, if_false, q72, M_isCorner h2.2.2.1, him, i64_0, i64_999, M_inK, Nat.reduceAdd, hiy, l0, l1, no1_e, bI_t, bI_f, ieq_f, ile_t, ile_f, ilt_t, ilt_f]
    | true =>
      obtain ⟨v, -, hv, rfl⟩ := im_t (by omega) (by omega) hiy
      refine ⟨Int32.ofNat (v * σ 1 c / sm (fun i => σ 1 i) C), QC_e ?_, ?_⟩
      · unfold f_X11_shares f_X11_shares_0
        simp (disch := omega) only [obs, cN_mk, ite_true, ite_false, if_true, if_false, q0, C_hasCorner hY, him, l0, l1, no1_e, bI_t, bI_f, ieq_f, ile_t, ile_f, ilt_t, ilt_f, l999]
        exact C_shares hW hS hY hM hcC (by omega)
      · unfold f_X12_shares f_X12_shares_0
        refine QM_s hm fun m2 _ h2 => QM_e h2 ?_
        simp (disch := omega) only [obs, cN_mk, ite_true, ite_false, if_true, if_false, q72, M_isCorner h2.2.2.1, him, i64_0, i64_999, M_inK, Nat.reduceAdd, hiy, l0, l1, no1_e, bI_t, bI_f, ieq_f, ile_t, ile_f, ilt_t, ilt_f]
        exact M_shares hW hS h2.2.2.1 h2.2.2.2.1 hcC (by omega)
theorem Q_passes (hc : EC n z D pl LC m r C P τ σ) (hm : EM n z D pl LM m1 j1 C P τ σ) (x : Int32) : QQ n z D LM m j r m1 j1 r1 (f_X11_passes 0 x) (f_X12_passes 72 x) := by
  have hW := hc.1
  have hS := hc.2.1
  have hY := hc.2.2.1
  have hM := hc.2.2.2.1
  have hP := hW.2.1
  have hC := hW.1
  cases him : im x 0 C with
  | false =>
    refine ⟨no1, QC_e ?_, ?_⟩
    · unfold f_X11_passes f_X11_passes_0
      simp (disch := omega) only [obs, cN_mk, ite_true, ite_false, if_true, if_false, q0, C_hasCorner hY, him, l0, l1, no1_e, bI_t, bI_f, ieq_f, ile_t, ile_f, ilt_t, ilt_f]
    · unfold f_X12_passes f_X12_passes_0
      refine QM_s hm fun m2 _ h2 => QM_e h2 ?_
      simp (disch := omega) only [obs, cN_mk, ite_true, ite_false, if_true, if_false, q72, M_isCorner h2.2.2.1, him, l0, l1, no1_e, bI_t, bI_f, ieq_f, ile_t, ile_f, ilt_t, ilt_f]
  | true =>
    obtain ⟨c, -, hcC, rfl⟩ := im_t (by omega) (by omega) him
    refine ⟨Int32.ofNat (bts (fun i => by' C τ σ i c) P), QC_e ?_, ?_⟩
    · unfold f_X11_passes f_X11_passes_0
      simp (disch := omega) only [obs, cN_mk, ite_true, ite_false, if_true, if_false, q0, C_hasCorner hY, him, l0, l1, no1_e, bI_t, bI_f, ieq_f, ile_t, ile_f, ilt_t, ilt_f]
      exact C_passes hW hS hY hM hcC
    · unfold f_X12_passes f_X12_passes_0
      refine QM_s hm fun m2 _ h2 => QM_e h2 ?_
      simp (disch := omega) only [obs, cN_mk, ite_true, ite_false, if_true, if_false, q72, M_isCorner h2.2.2.1, him, l0, l1, no1_e, bI_t, bI_f, ieq_f, ile_t, ile_f, ilt_t, ilt_f, M_passers hW hS h2.2.2.1 h2.2.2.2.1 hcC]
theorem Q_all (hc : EC n z D pl LC m r C P τ σ) (hm : EM n z D pl LM m1 j1 C P τ σ) (x : Int32) : QQ n z D LM m j r m1 j1 r1 (f_X11_all 0 x) (f_X12_all 72 x) := by
  have hW := hc.1
  have hS := hc.2.1
  have hY := hc.2.2.1
  have hM := hc.2.2.2.1
  have hP := hW.2.1
  have hC := hW.1
  by_cases hP00 : P = 0
  · refine ⟨no1, QC_e ?_, ?_⟩
    · unfold f_X11_all f_X11_all_0
      rw [show isC [11] (mkH n z D m j r) 0 = some () from isC_mk rfl (by decide), obs, C_hasCity hY hP, cN_mk, if_pos (by rw [hP00]; rfl)]
      rfl
    · unfold f_X12_all f_X12_all_0
      refine QM_s hm fun m2 _ h2 => QM_e h2 ?_
      rw [show gI [12] (mkH n z D m2 j1 r1) 72 27 = some (m2 72 27) from gI_mk rfl (by decide) rfl, obs, if_pos (by rw [h2.2.2.1.2.1, hP00]; rfl)]
      rfl
  have hP0 : 0 < P := by omega
  have hd : decide (0 < P) = true := decide_eq_true (by omega)
  have h2C := hW.2.2.1 hP0
  cases him : im x 0 11 with
  | false =>
    have hh0 : (x = Int32.ofNat 0) = False := eq_false (fun e => by rw [e, im_k (by omega)] at him; cases him)
    have hh1 : (x = Int32.ofNat 1) = False := eq_false (fun e => by rw [e, im_k (by omega)] at him; cases him)
    have hh2 : (x = Int32.ofNat 2) = False := eq_false (fun e => by rw [e, im_k (by omega)] at him; cases him)
    have hh3 : (x = Int32.ofNat 3) = False := eq_false (fun e => by rw [e, im_k (by omega)] at him; cases him)
    have hh4 : (x = Int32.ofNat 4) = False := eq_false (fun e => by rw [e, im_k (by omega)] at him; cases him)
    have hh5 : (x = Int32.ofNat 5) = False := eq_false (fun e => by rw [e, im_k (by omega)] at him; cases him)
    have hh6 : (x = Int32.ofNat 6) = False := eq_false (fun e => by rw [e, im_k (by omega)] at him; cases him)
    have hh7 : (x = Int32.ofNat 7) = False := eq_false (fun e => by rw [e, im_k (by omega)] at him; cases him)
    have hh8 : (x = Int32.ofNat 8) = False := eq_false (fun e => by rw [e, im_k (by omega)] at him; cases him)
    have hh9 : (x = Int32.ofNat 9) = False := eq_false (fun e => by rw [e, im_k (by omega)] at him; cases him)
    have hh10 : (x = Int32.ofNat 10) = False := eq_false (fun e => by rw [e, im_k (by omega)] at him; cases him)
    refine ⟨no1, QC_e ?_, ?_⟩
    · unfold f_X11_all f_X11_all_0
      rw [show isC [11] (mkH n z D m j r) 0 = some () from isC_mk rfl (by decide), obs, C_hasCity hY hP, cN_mk, if_neg (show ¬ bI (decide (0 < P)) = 0 by rw [hd]; decide), if_neg (show ¬ x = 0 from of_eq_false hh0), if_neg (show ¬ x = 1 from of_eq_false hh1), if_neg (show ¬ x = 2 from of_eq_false hh2), if_neg (show ¬ x = 3 from of_eq_false hh3), if_neg (show ¬ x = 4 from of_eq_false hh4), if_neg (show ¬ x = 5 from of_eq_false hh5), if_neg (show ¬ x = 6 from of_eq_false hh6), if_neg (show ¬ x = 7 from of_eq_false hh7), if_neg (show ¬ x = 8 from of_eq_false hh8), if_neg (show ¬ x = 9 from of_eq_false hh9), if_neg (show ¬ x = 10 from of_eq_false hh10)]
      rfl
    · unfold f_X12_all f_X12_all_0
      refine QM_s hm fun m2 _ h2 => QM_e h2 ?_
      rw [show gI [12] (mkH n z D m2 j1 r1) 72 27 = some (m2 72 27) from gI_mk rfl (by decide) rfl, obs, if_neg (show ¬ m2 72 27 = 0 by rw [h2.2.2.1.2.1]; exact fun e => by have := (i_inj (by omega) (by omega)).mp (show Int32.ofNat P = Int32.ofNat 0 from e); omega), if_neg (show ¬ x = 0 from of_eq_false hh0), if_neg (show ¬ x = 1 from of_eq_false hh1), if_neg (show ¬ x = 2 from of_eq_false hh2), if_neg (show ¬ x = 3 from of_eq_false hh3), if_neg (show ¬ x = 4 from of_eq_false hh4), if_neg (show ¬ x = 5 from of_eq_false hh5), if_neg (show ¬ x = 6 from of_eq_false hh6), if_neg (show ¬ x = 7 from of_eq_false hh7), if_neg (show ¬ x = 8 from of_eq_false hh8), if_neg (show ¬ x = 9 from of_eq_false hh9), if_neg (show ¬ x = 10 from of_eq_false hh10)]
      rfl
  | true =>
    obtain ⟨k, -, hk, rfl⟩ := im_t (by omega) (by omega) him
    rcases (show k = 0 ∨ k = 1 ∨ k = 2 ∨ k = 3 ∨ k = 4 ∨ k = 5 ∨ k = 6 ∨ k = 7 ∨ k = 8 ∨ k = 9 ∨ k = 10 by omega) with rfl | rfl | rfl | rfl | rfl | rfl | rfl | rfl | rfl | rfl | rfl
    · refine ⟨Int32.ofNat (am (vO C P τ σ 0) C), QC_e ?_, ?_⟩
      · have e : f_X11_busiest 0 (mkH n z D m j r) = some (Int32.ofNat (am (vO C P τ σ 0) C), (mkH n z D m j r)) := C_busiest hW hP0 hS hY hM
        unfold f_X11_all f_X11_all_0
        rw [show isC [11] (mkH n z D m j r) 0 = some () from isC_mk rfl (by decide), obs, C_hasCity hY hP, cN_mk, if_neg (show ¬ bI (decide (0 < P)) = 0 by rw [hd]; decide), if_pos (show Int32.ofNat 0 = 0 from rfl)]
        simp (disch := omega) only [obs, cN_mk, ite_true, ite_false, if_true, if_false, q0, q27, q18, hY.1, hY.2.1]
        rw [e, cN_mk]
      · unfold f_X12_all f_X12_all_0
        refine QM_s hm fun m2 _ h2 => QM_e h2 ?_
        have e : f_X12_greatest 72 (Int32.ofNat 0) (mkH n z D m2 j1 r1) = some (Int32.ofNat (am (vO C P τ σ 0) C), mkH n z D m2 j1 r1) := M_greatest (k := 0) hW hP0 hS h2.2.2.1 h2.2.2.2.1 (by omega)
        rw [show gI [12] (mkH n z D m2 j1 r1) 72 27 = some (m2 72 27) from gI_mk rfl (by decide) rfl, obs, if_neg (show ¬ m2 72 27 = 0 by rw [h2.2.2.1.2.1]; exact fun e => by have := (i_inj (by omega) (by omega)).mp (show Int32.ofNat P = Int32.ofNat 0 from e); omega), if_pos (show Int32.ofNat 0 = 0 from rfl)]
        rw [show isC [12] (mkH n z D m2 j1 r1) 72 = some () from isC_mk rfl (by decide), obs, e, cN_mk]
    · refine ⟨Int32.ofNat (am (vO C P τ σ 1) C), QC_e ?_, ?_⟩
      · have e : f_X11_firstHighest 29 (Int32.ofNat C) (mkH n z D m j r) = some (Int32.ofNat (am (vO C P τ σ 1) C), (mkH n z D m j r)) := C_firstHighest (a := 29) (N := 5) (L := C) (f := vO C P τ σ 1) rfl (by omega) (by omega) hC (fun i hi => ⟨(CS27 hM).2.1 i hi, vO_b hW hS (by omega) (by simpa using hi)⟩)
        unfold f_X11_all f_X11_all_0
        rw [show isC [11] (mkH n z D m j r) 0 = some () from isC_mk rfl (by decide), obs, C_hasCity hY hP, cN_mk, if_neg (show ¬ bI (decide (0 < P)) = 0 by rw [hd]; decide), if_neg (show ¬ Int32.ofNat 1 = 0 by decide), if_pos (show Int32.ofNat 1 = 1 from rfl)]
        simp (disch := omega) only [obs, cN_mk, ite_true, ite_false, if_true, if_false, q0, q27, q18, hY.1, hY.2.1]
        rw [e, cN_mk]
      · unfold f_X12_all f_X12_all_0
        refine QM_s hm fun m2 _ h2 => QM_e h2 ?_
        have e : f_X12_greatest 72 (Int32.ofNat 1) (mkH n z D m2 j1 r1) = some (Int32.ofNat (am (vO C P τ σ 1) C), mkH n z D m2 j1 r1) := M_greatest (k := 1) hW hP0 hS h2.2.2.1 h2.2.2.2.1 (by omega)
        rw [show gI [12] (mkH n z D m2 j1 r1) 72 27 = some (m2 72 27) from gI_mk rfl (by decide) rfl, obs, if_neg (show ¬ m2 72 27 = 0 by rw [h2.2.2.1.2.1]; exact fun e => by have := (i_inj (by omega) (by omega)).mp (show Int32.ofNat P = Int32.ofNat 0 from e); omega), if_neg (show ¬ Int32.ofNat 1 = 0 by decide), if_pos (show Int32.ofNat 1 = 1 from rfl)]
        rw [show isC [12] (mkH n z D m2 j1 r1) 72 = some () from isC_mk rfl (by decide), obs, e, cN_mk]
    · refine ⟨Int32.ofNat (am (vO C P τ σ 2) P), QC_e ?_, ?_⟩
      · have e : f_X11_firstHighest 30 (Int32.ofNat P) (mkH n z D m j r) = some (Int32.ofNat (am (vO C P τ σ 2) P), (mkH n z D m j r)) := C_firstHighest (a := 30) (N := 6) (L := P) (f := vO C P τ σ 2) rfl (by omega) (by omega) hP (fun i hi => ⟨(CS27 hM).2.2.1 i hi, vO_b hW hS (by omega) (by simpa using hi)⟩)
        unfold f_X11_all f_X11_all_0
        rw [show isC [11] (mkH n z D m j r) 0 = some () from isC_mk rfl (by decide), obs, C_hasCity hY hP, cN_mk, if_neg (show ¬ bI (decide (0 < P)) = 0 by rw [hd]; decide), if_neg (show ¬ Int32.ofNat 2 = 0 by decide), if_neg (show ¬ Int32.ofNat 2 = 1 by decide), if_pos (show Int32.ofNat 2 = 2 from rfl)]
        simp (disch := omega) only [obs, cN_mk, ite_true, ite_false, if_true, if_false, q0, q27, q18, hY.1, hY.2.1]
        rw [e, cN_mk]
      · unfold f_X12_all f_X12_all_0
        refine QM_s hm fun m2 _ h2 => QM_e h2 ?_
        have e : f_X12_greatest 72 (Int32.ofNat 2) (mkH n z D m2 j1 r1) = some (Int32.ofNat (am (vO C P τ σ 2) P), mkH n z D m2 j1 r1) := M_greatest (k := 2) hW hP0 hS h2.2.2.1 h2.2.2.2.1 (by omega)
        rw [show gI [12] (mkH n z D m2 j1 r1) 72 27 = some (m2 72 27) from gI_mk rfl (by decide) rfl, obs, if_neg (show ¬ m2 72 27 = 0 by rw [h2.2.2.1.2.1]; exact fun e => by have := (i_inj (by omega) (by omega)).mp (show Int32.ofNat P = Int32.ofNat 0 from e); omega), if_neg (show ¬ Int32.ofNat 2 = 0 by decide), if_neg (show ¬ Int32.ofNat 2 = 1 by decide), if_pos (show Int32.ofNat 2 = 2 from rfl)]
        rw [show isC [12] (mkH n z D m2 j1 r1) 72 = some () from isC_mk rfl (by decide), obs, e, cN_mk]
    · refine ⟨Int32.ofNat (am (vO C P τ σ 3) P), QC_e ?_, ?_⟩
      · have e : f_X11_firstHighest 22 (Int32.ofNat P) (mkH n z D m j r) = some (Int32.ofNat (am (vO C P τ σ 3) P), (mkH n z D m j r)) := C_firstHighest (a := 22) (N := 6) (L := P) (f := vO C P τ σ 3) rfl (by omega) (by omega) hP (fun i hi => ⟨(hY.2.2.2.2 i hi).2.1, vO_b hW hS (by omega) (by simpa using hi)⟩)
        unfold f_X11_all f_X11_all_0
        rw [show isC [11] (mkH n z D m j r) 0 = some () from isC_mk rfl (by decide), obs, C_hasCity hY hP, cN_mk, if_neg (show ¬ bI (decide (0 < P)) = 0 by rw [hd]; decide), if_neg (show ¬ Int32.ofNat 3 = 0 by decide), if_neg (show ¬ Int32.ofNat 3 = 1 by decide), if_neg (show ¬ Int32.ofNat 3 = 2 by decide), if_pos (show Int32.ofNat 3 = 3 from rfl)]
        simp (disch := omega) only [obs, cN_mk, ite_true, ite_false, if_true, if_false, q0, q27, q18, hY.1, hY.2.1]
        rw [e, cN_mk]
      · unfold f_X12_all f_X12_all_0
        refine QM_s hm fun m2 _ h2 => QM_e h2 ?_
        have e : f_X12_greatest 72 (Int32.ofNat 3) (mkH n z D m2 j1 r1) = some (Int32.ofNat (am (vO C P τ σ 3) P), mkH n z D m2 j1 r1) := M_greatest (k := 3) hW hP0 hS h2.2.2.1 h2.2.2.2.1 (by omega)
        rw [show gI [12] (mkH n z D m2 j1 r1) 72 27 = some (m2 72 27) from gI_mk rfl (by decide) rfl, obs, if_neg (show ¬ m2 72 27 = 0 by rw [h2.2.2.1.2.1]; exact fun e => by have := (i_inj (by omega) (by omega)).mp (show Int32.ofNat P = Int32.ofNat 0 from e); omega), if_neg (show ¬ Int32.ofNat 3 = 0 by decide), if_neg (show ¬ Int32.ofNat 3 = 1 by decide), if_neg (show ¬ Int32.ofNat 3 = 2 by decide), if_pos (show Int32.ofNat 3 = 3 from rfl)]
        rw [show isC [12] (mkH n z D m2 j1 r1) 72 = some () from isC_mk rfl (by decide), obs, e, cN_mk]
    · refine ⟨Int32.ofNat (am (vO C P τ σ 4) P), QC_e ?_, ?_⟩
      · have e : f_X11_firstHighest 31 (Int32.ofNat P) (mkH n z D m j r) = some (Int32.ofNat (am (vO C P τ σ 4) P), (mkH n z D m j r)) := C_firstHighest (a := 31) (N := 6) (L := P) (f := vO C P τ σ 4) rfl (by omega) (by omega) hP (fun i hi => ⟨(CS27 hM).2.2.2.1 i hi, vO_b hW hS (by omega) (by simpa using hi)⟩)
        unfold f_X11_all f_X11_all_0
        rw [show isC [11] (mkH n z D m j r) 0 = some () from isC_mk rfl (by decide), obs, C_hasCity hY hP, cN_mk, if_neg (show ¬ bI (decide (0 < P)) = 0 by rw [hd]; decide), if_neg (show ¬ Int32.ofNat 4 = 0 by decide), if_neg (show ¬ Int32.ofNat 4 = 1 by decide), if_neg (show ¬ Int32.ofNat 4 = 2 by decide), if_neg (show ¬ Int32.ofNat 4 = 3 by decide), if_pos (show Int32.ofNat 4 = 4 from rfl)]
        simp (disch := omega) only [obs, cN_mk, ite_true, ite_false, if_true, if_false, q0, q27, q18, hY.1, hY.2.1]
        rw [e, cN_mk]
      · unfold f_X12_all f_X12_all_0
        refine QM_s hm fun m2 _ h2 => QM_e h2 ?_
        have e : f_X12_greatest 72 (Int32.ofNat 4) (mkH n z D m2 j1 r1) = some (Int32.ofNat (am (vO C P τ σ 4) P), mkH n z D m2 j1 r1) := M_greatest (k := 4) hW hP0 hS h2.2.2.1 h2.2.2.2.1 (by omega)
        rw [show gI [12] (mkH n z D m2 j1 r1) 72 27 = some (m2 72 27) from gI_mk rfl (by decide) rfl, obs, if_neg (show ¬ m2 72 27 = 0 by rw [h2.2.2.1.2.1]; exact fun e => by have := (i_inj (by omega) (by omega)).mp (show Int32.ofNat P = Int32.ofNat 0 from e); omega), if_neg (show ¬ Int32.ofNat 4 = 0 by decide), if_neg (show ¬ Int32.ofNat 4 = 1 by decide), if_neg (show ¬ Int32.ofNat 4 = 2 by decide), if_neg (show ¬ Int32.ofNat 4 = 3 by decide), if_pos (show Int32.ofNat 4 = 4 from rfl)]
        rw [show isC [12] (mkH n z D m2 j1 r1) 72 = some () from isC_mk rfl (by decide), obs, e, cN_mk]
    · refine ⟨Int32.ofNat (bts (fun i => hn C τ σ i C) P), QC_e ?_, ?_⟩
      · have e := C_honest (n := n) (z := z) (D := D) (j := j) (r := r) hW hS hY hM
        rw [bts_cg (g := fun i => hn C τ σ i C) P (fun i _ => (hn_w hC).symm)] at e
        unfold f_X11_all f_X11_all_0
        rw [show isC [11] (mkH n z D m j r) 0 = some () from isC_mk rfl (by decide), obs, C_hasCity hY hP, cN_mk, if_neg (show ¬ bI (decide (0 < P)) = 0 by rw [hd]; decide), if_neg (show ¬ Int32.ofNat 5 = 0 by decide), if_neg (show ¬ Int32.ofNat 5 = 1 by decide), if_neg (show ¬ Int32.ofNat 5 = 2 by decide), if_neg (show ¬ Int32.ofNat 5 = 3 by decide), if_neg (show ¬ Int32.ofNat 5 = 4 by decide), if_pos (show Int32.ofNat 5 = 5 from rfl)]
        rw [show isC [11] (mkH n z D m j r) 0 = some () from isC_mk rfl (by decide), obs, e, cN_mk]
      · unfold f_X12_all f_X12_all_0
        refine QM_s hm fun m2 _ h2 => QM_e h2 ?_
        rw [show gI [12] (mkH n z D m2 j1 r1) 72 27 = some (m2 72 27) from gI_mk rfl (by decide) rfl, obs, if_neg (show ¬ m2 72 27 = 0 by rw [h2.2.2.1.2.1]; exact fun e => by have := (i_inj (by omega) (by omega)).mp (show Int32.ofNat P = Int32.ofNat 0 from e); omega), if_neg (show ¬ Int32.ofNat 5 = 0 by decide), if_neg (show ¬ Int32.ofNat 5 = 1 by decide), if_neg (show ¬ Int32.ofNat 5 = 2 by decide), if_neg (show ¬ Int32.ofNat 5 = 3 by decide), if_neg (show ¬ Int32.ofNat 5 = 4 by decide), if_pos (show Int32.ofNat 5 = 5 from rfl)]
        exact M_honest hW hS h2.2.2.1 h2.2.2.2.1
    · refine ⟨Int32.ofNat (bts (fun i => decide (τ 6 2 ≤ σ 3 i)) P), QC_e ?_, ?_⟩
      · unfold f_X11_all f_X11_all_0
        rw [show isC [11] (mkH n z D m j r) 0 = some () from isC_mk rfl (by decide), obs, C_hasCity hY hP, cN_mk, if_neg (show ¬ bI (decide (0 < P)) = 0 by rw [hd]; decide), if_neg (show ¬ Int32.ofNat 6 = 0 by decide), if_neg (show ¬ Int32.ofNat 6 = 1 by decide), if_neg (show ¬ Int32.ofNat 6 = 2 by decide), if_neg (show ¬ Int32.ofNat 6 = 3 by decide), if_neg (show ¬ Int32.ofNat 6 = 4 by decide), if_neg (show ¬ Int32.ofNat 6 = 5 by decide), if_pos (show Int32.ofNat 6 = 6 from rfl)]
        rw [show isC [11] (mkH n z D m j r) 0 = some () from isC_mk rfl (by decide), obs, C_oldOnes hW hS hY hM, cN_mk]
      · unfold f_X12_all f_X12_all_0
        refine QM_s hm fun m2 _ h2 => QM_e h2 ?_
        rw [show gI [12] (mkH n z D m2 j1 r1) 72 27 = some (m2 72 27) from gI_mk rfl (by decide) rfl, obs, if_neg (show ¬ m2 72 27 = 0 by rw [h2.2.2.1.2.1]; exact fun e => by have := (i_inj (by omega) (by omega)).mp (show Int32.ofNat P = Int32.ofNat 0 from e); omega), if_neg (show ¬ Int32.ofNat 6 = 0 by decide), if_neg (show ¬ Int32.ofNat 6 = 1 by decide), if_neg (show ¬ Int32.ofNat 6 = 2 by decide), if_neg (show ¬ Int32.ofNat 6 = 3 by decide), if_neg (show ¬ Int32.ofNat 6 = 4 by decide), if_neg (show ¬ Int32.ofNat 6 = 5 by decide), if_pos (show Int32.ofNat 6 = 6 from rfl)]
        exact M_old hW hS h2.2.2.1 h2.2.2.2.1
    · refine ⟨Int32.ofNat (bts (fun i => decide (σ 0 i = 0)) C), QC_e ?_, ?_⟩
      · have e : f_X11_cornersWith 0 0 (mkH n z D m j r) = some (Int32.ofNat (bts (fun i => decide (σ 0 i = 0)) C), (mkH n z D m j r)) := C_cornersWith (k := 0) hW hS hY hM (by omega)
        unfold f_X11_all f_X11_all_0
        rw [show isC [11] (mkH n z D m j r) 0 = some () from isC_mk rfl (by decide), obs, C_hasCity hY hP, cN_mk, if_neg (show ¬ bI (decide (0 < P)) = 0 by rw [hd]; decide), if_neg (show ¬ Int32.ofNat 7 = 0 by decide), if_neg (show ¬ Int32.ofNat 7 = 1 by decide), if_neg (show ¬ Int32.ofNat 7 = 2 by decide), if_neg (show ¬ Int32.ofNat 7 = 3 by decide), if_neg (show ¬ Int32.ofNat 7 = 4 by decide), if_neg (show ¬ Int32.ofNat 7 = 5 by decide), if_neg (show ¬ Int32.ofNat 7 = 6 by decide), if_pos (show Int32.ofNat 7 = 7 from rfl)]
        unfold f_X11_emptyCorners f_X11_emptyCorners_0
        rw [show isC [11] (mkH n z D m j r) 0 = some () from isC_mk rfl (by decide), obs, obs, e, cN_mk, cN_mk]
      · unfold f_X12_all f_X12_all_0
        refine QM_s hm fun m2 _ h2 => QM_e h2 ?_
        rw [show gI [12] (mkH n z D m2 j1 r1) 72 27 = some (m2 72 27) from gI_mk rfl (by decide) rfl, obs, if_neg (show ¬ m2 72 27 = 0 by rw [h2.2.2.1.2.1]; exact fun e => by have := (i_inj (by omega) (by omega)).mp (show Int32.ofNat P = Int32.ofNat 0 from e); omega), if_neg (show ¬ Int32.ofNat 7 = 0 by decide), if_neg (show ¬ Int32.ofNat 7 = 1 by decide), if_neg (show ¬ Int32.ofNat 7 = 2 by decide), if_neg (show ¬ Int32.ofNat 7 = 3 by decide), if_neg (show ¬ Int32.ofNat 7 = 4 by decide), if_neg (show ¬ Int32.ofNat 7 = 5 by decide), if_neg (show ¬ Int32.ofNat 7 = 6 by decide), if_pos (show Int32.ofNat 7 = 7 from rfl)]
        exact M_empty hW hS h2.2.2.1 h2.2.2.2.1
    · refine ⟨Int32.ofNat (dy pl C τ σ P).2.1, ?_, ?_⟩
      · obtain ⟨m', e, -, hf, -, -, -, -, a3, a4, -⟩ := C_ply (j := j) (kn := 0) hc (Or.inl rfl) (WS_le hS (by omega)) hM (Nat.le_refl P) (by omega) (fun e => by omega)
        refine ⟨m', ?_, hf⟩
        unfold f_X11_all f_X11_all_0
        rw [show isC [11] (mkH n z D m j r) 0 = some () from isC_mk rfl (by decide), obs, C_hasCity hY hP, cN_mk, if_neg (show ¬ bI (decide (0 < P)) = 0 by rw [hd]; decide), if_neg (show ¬ Int32.ofNat 8 = 0 by decide), if_neg (show ¬ Int32.ofNat 8 = 1 by decide), if_neg (show ¬ Int32.ofNat 8 = 2 by decide), if_neg (show ¬ Int32.ofNat 8 = 3 by decide), if_neg (show ¬ Int32.ofNat 8 = 4 by decide), if_neg (show ¬ Int32.ofNat 8 = 5 by decide), if_neg (show ¬ Int32.ofNat 8 = 6 by decide), if_neg (show ¬ Int32.ofNat 8 = 7 by decide), if_pos (show Int32.ofNat 8 = 8 from rfl)]
        simp (disch := omega) only [obs, cN_mk, ite_true, ite_false, if_true, if_false, q0, q18, hY.2.1, q52, l0, e, a3, a4]
      · unfold f_X12_all f_X12_all_0
        refine QM_s hm fun m2 _ h2 => ?_
        obtain ⟨m', j', r', e, h3, hf, -, a41⟩ := M_tries (r := r1) h2
        refine ⟨m', j', r', ?_, h3.2.2.2.2.2, hf⟩
        rw [show gI [12] (mkH n z D m2 j1 r1) 72 27 = some (m2 72 27) from gI_mk rfl (by decide) rfl, obs, if_neg (show ¬ m2 72 27 = 0 by rw [h2.2.2.1.2.1]; exact fun e => by have := (i_inj (by omega) (by omega)).mp (show Int32.ofNat P = Int32.ofNat 0 from e); omega), if_neg (show ¬ Int32.ofNat 8 = 0 by decide), if_neg (show ¬ Int32.ofNat 8 = 1 by decide), if_neg (show ¬ Int32.ofNat 8 = 2 by decide), if_neg (show ¬ Int32.ofNat 8 = 3 by decide), if_neg (show ¬ Int32.ofNat 8 = 4 by decide), if_neg (show ¬ Int32.ofNat 8 = 5 by decide), if_neg (show ¬ Int32.ofNat 8 = 6 by decide), if_neg (show ¬ Int32.ofNat 8 = 7 by decide), if_pos (show Int32.ofNat 8 = 8 from rfl)]
        simp (disch := omega) only [obs, cN_mk, ite_true, ite_false, if_true, if_false, q72, e, a41]
    · refine ⟨Int32.ofNat (dy pl C τ σ P).2.2, ?_, ?_⟩
      · obtain ⟨m', e, -, hf, -, -, -, -, a3, a4, -⟩ := C_ply (j := j) (kn := 0) hc (Or.inl rfl) (WS_le hS (by omega)) hM (Nat.le_refl P) (by omega) (fun e => by omega)
        refine ⟨m', ?_, hf⟩
        unfold f_X11_all f_X11_all_0
        rw [show isC [11] (mkH n z D m j r) 0 = some () from isC_mk rfl (by decide), obs, C_hasCity hY hP, cN_mk, if_neg (show ¬ bI (decide (0 < P)) = 0 by rw [hd]; decide), if_neg (show ¬ Int32.ofNat 9 = 0 by decide), if_neg (show ¬ Int32.ofNat 9 = 1 by decide), if_neg (show ¬ Int32.ofNat 9 = 2 by decide), if_neg (show ¬ Int32.ofNat 9 = 3 by decide), if_neg (show ¬ Int32.ofNat 9 = 4 by decide), if_neg (show ¬ Int32.ofNat 9 = 5 by decide), if_neg (show ¬ Int32.ofNat 9 = 6 by decide), if_neg (show ¬ Int32.ofNat 9 = 7 by decide), if_neg (show ¬ Int32.ofNat 9 = 8 by decide), if_pos (show Int32.ofNat 9 = 9 from rfl)]
        simp (disch := omega) only [obs, cN_mk, ite_true, ite_false, if_true, if_false, q0, q18, hY.2.1, q52, l0, e, a3, a4]
      · unfold f_X12_all f_X12_all_0
        refine QM_s hm fun m2 _ h2 => ?_
        obtain ⟨m', j', r', e, h3, hf, -, a41⟩ := M_tries (r := r1) h2
        refine ⟨m', j', r', ?_, h3.2.2.2.2.2, hf⟩
        rw [show gI [12] (mkH n z D m2 j1 r1) 72 27 = some (m2 72 27) from gI_mk rfl (by decide) rfl, obs, if_neg (show ¬ m2 72 27 = 0 by rw [h2.2.2.1.2.1]; exact fun e => by have := (i_inj (by omega) (by omega)).mp (show Int32.ofNat P = Int32.ofNat 0 from e); omega), if_neg (show ¬ Int32.ofNat 9 = 0 by decide), if_neg (show ¬ Int32.ofNat 9 = 1 by decide), if_neg (show ¬ Int32.ofNat 9 = 2 by decide), if_neg (show ¬ Int32.ofNat 9 = 3 by decide), if_neg (show ¬ Int32.ofNat 9 = 4 by decide), if_neg (show ¬ Int32.ofNat 9 = 5 by decide), if_neg (show ¬ Int32.ofNat 9 = 6 by decide), if_neg (show ¬ Int32.ofNat 9 = 7 by decide), if_neg (show ¬ Int32.ofNat 9 = 8 by decide), if_pos (show Int32.ofNat 9 = 9 from rfl)]
        simp (disch := omega) only [obs, cN_mk, ite_true, ite_false, if_true, if_false, q72, e, a41]
    · refine ⟨Int32.ofNat (sm (fun k => if bts (fun c => decide (σ 0 c = k + 1)) C = 0 then 0 else 1) 3), QC_e ?_, ?_⟩
      · unfold f_X11_all f_X11_all_0
        rw [show isC [11] (mkH n z D m j r) 0 = some () from isC_mk rfl (by decide), obs, C_hasCity hY hP, cN_mk, if_neg (show ¬ bI (decide (0 < P)) = 0 by rw [hd]; decide), if_neg (show ¬ Int32.ofNat 10 = 0 by decide), if_neg (show ¬ Int32.ofNat 10 = 1 by decide), if_neg (show ¬ Int32.ofNat 10 = 2 by decide), if_neg (show ¬ Int32.ofNat 10 = 3 by decide), if_neg (show ¬ Int32.ofNat 10 = 4 by decide), if_neg (show ¬ Int32.ofNat 10 = 5 by decide), if_neg (show ¬ Int32.ofNat 10 = 6 by decide), if_neg (show ¬ Int32.ofNat 10 = 7 by decide), if_neg (show ¬ Int32.ofNat 10 = 8 by decide), if_neg (show ¬ Int32.ofNat 10 = 9 by decide), if_pos (show Int32.ofNat 10 = 10 from rfl)]
        rw [show isC [11] (mkH n z D m j r) 0 = some () from isC_mk rfl (by decide), obs, C_lie hW hS hY hM, cN_mk]
      · unfold f_X12_all f_X12_all_0
        refine QM_s hm fun m2 _ h2 => QM_e h2 ?_
        rw [show gI [12] (mkH n z D m2 j1 r1) 72 27 = some (m2 72 27) from gI_mk rfl (by decide) rfl, obs, if_neg (show ¬ m2 72 27 = 0 by rw [h2.2.2.1.2.1]; exact fun e => by have := (i_inj (by omega) (by omega)).mp (show Int32.ofNat P = Int32.ofNat 0 from e); omega), if_neg (show ¬ Int32.ofNat 10 = 0 by decide), if_neg (show ¬ Int32.ofNat 10 = 1 by decide), if_neg (show ¬ Int32.ofNat 10 = 2 by decide), if_neg (show ¬ Int32.ofNat 10 = 3 by decide), if_neg (show ¬ Int32.ofNat 10 = 4 by decide), if_neg (show ¬ Int32.ofNat 10 = 5 by decide), if_neg (show ¬ Int32.ofNat 10 = 6 by decide), if_neg (show ¬ Int32.ofNat 10 = 7 by decide), if_neg (show ¬ Int32.ofNat 10 = 8 by decide), if_neg (show ¬ Int32.ofNat 10 = 9 by decide), if_pos (show Int32.ofNat 10 = 10 from rfl)]
        rw [show isC [12] (mkH n z D m2 j1 r1) 72 = some () from isC_mk rfl (by decide), obs, M_laid hW hS h2.2.2.1 h2.2.2.2.1, cN_mk]
theorem C_free {y : Nat} (hc : EC n z D pl LC m r C P τ σ) (hp : p < P) (hy : y ≤ 1) : ∃ m', f_X11_staysFree 0 (Int32.ofNat p) (Int32.ofNat y) (mkH n z D m j r) = some (bI (decide (ax pl C τ (uS σ 4 p y) p = 0)), mkH n z D m' j r) ∧ EC n z D pl LC m' r C P τ σ ∧ FQc m m' := by
  have hW := hc.1
  have hS := hc.2.1
  have hP := hW.2.1
  have hC := hW.1
  obtain ⟨m0, e0, h0, f0, hM0, -⟩ := C_cpy (j := j) hc
  have hM1 : CS (wI m0 38 p (Int32.ofNat y)) 33 (uS σ 4 p y) C P := CS_way hM0 hC hP hp
  have fw : FQc m0 (wI m0 38 p (Int32.ofNat y)) := ⟨fun a _ h3 _ _ _ => wI_ne (by omega), fun i _ => by rw [wI_ne (by omega)]⟩
  obtain ⟨m2, e2, h2, f2, -, -, -, -, -, -, a5⟩ := C_ply (j := j) (kn := 0) (EC_q h0 fw) (Or.inr rfl) (WS_le (WS_way hS hy) (by omega)) hM1 (Nat.le_refl P) (by omega) (fun e => by omega)
  have a5 := a5 p (by omega)
  rw [if_pos hp] at a5
  have hle := ax_le (pl := pl) (σ := uS σ 4 p y) hW hp
  refine ⟨m2, ?_, h2, FQc_tr f0 (FQc_tr fw f2)⟩
  unfold f_X11_staysFree f_X11_staysFree_0
  by_cases h1 : ax pl C τ (uS σ 4 p y) p = 0
  · rw [h1, pr_0] at a5
    simp (disch := omega) only [obs, cN_mk, ite_true, ite_false, if_true, if_false, q0, q33, e0, p38, q18, h0.2.2.1.2.1, (EC_q h0 fw).2.2.1.2.1, q52, l0, l1, no1_e, bI_t, bI_f, ieq_f, ile_t, ile_f, ilt_t, ilt_f, e2, p53, a5, h1, decide_true]
  · have a6 : (m2 53 p = no1) = False := by rw [a5]; exact eq_false (fun e => h1 ((pr_no (by omega)).mp e))
    simp (disch := omega) only [obs, cN_mk, ite_true, ite_false, if_true, if_false, q0, q33, e0, p38, q18, (EC_q h0 fw).2.2.1.2.1, q52, l0, l1, no1_e, bI_t, bI_f, ieq_f, ile_t, ile_f, ilt_t, ilt_f, e2, p53, a6, h1, decide_false]
theorem M_taken {y : Nat} (hm : EM n z D pl LM m j C P τ σ) (hp : p < P) (hy : y ≤ 1) : ∃ m' j' r', f_X12_isTakenBy 72 (Int32.ofNat p) (Int32.ofNat y) (mkH n z D m j r) = some (bI (decide (ax pl C τ (uS σ 4 p y) p ≠ 0)), mkH n z D m' j' r') ∧ EM n z D pl LM m' j' C P τ σ ∧ FQm m m' j j' r r' := by
  have hW := hm.1
  have hS := hm.2.1
  have hP := hW.2.1
  have hC := hW.1
  obtain ⟨m0, e0, h0, f0, hM0, h31, -⟩ := M_cpy (r := r) hm
  obtain ⟨h1, f1⟩ := M_set86 (r := r) (i := 10 + 3 * p + 2) (x := Int32.ofNat y) h0
  have hM1 : MS (wI m0 86 (10 + 3 * p + 2) (Int32.ofNat y) 86) (uS σ 4 p y) C P := by rw [wI_eq]; exact MS_way hM0 hC hP hp
  obtain ⟨m2, j2, r2, e2, h2, f2, -⟩ := M_try (r := r) h1 (WS_le (WS_way hS hy) (by omega)) hM1 (by omega : 0 ≤ 60) (by rw [wI_sn (by omega)]; exact h31)
  have tk64 : (dy pl C τ (uS σ 4 p y) P).2.1 < 64 := Nat.lt_of_lt_of_le (dy_lt (pl := pl) (σ := uS σ 4 p y) hW P (Nat.le_refl P)).2.1 (pow6 hP)
  have ht := dy_tk (pl := pl) (C := C) (τ := τ) (σ := uS σ 4 p y) P p hp
  have hb : (dy pl C τ (uS σ 4 p y) P).2.1.testBit p = decide (ax pl C τ (uS σ 4 p y) p ≠ 0) := by
    by_cases h : ax pl C τ (uS σ 4 p y) p ≠ 0
    · rw [ht.mpr h, decide_eq_true h]
    · rw [decide_eq_false h]
      cases hb : (dy pl C τ (uS σ 4 p y) P).2.1.testBit p with
      | false => rfl
      | true => exact absurd (ht.mp hb) h
  refine ⟨m2, j2, r2, ?_, h2, FQm_tr f0 (FQm_tr f1 f2)⟩
  unfold f_X12_isTakenBy f_X12_isTakenBy_0
  simp (disch := omega) only [obs, cN_mk, ite_true, ite_false, if_true, if_false, q72, e0, l10, l3, l2, i_mul, i_add, p86, e2, M_has, hb]
  cases decide (ax pl C τ (uS σ 4 p y) p ≠ 0) <;> rfl
theorem Q_safe (hc : EC n z D pl LC m r C P τ σ) (hm : EM n z D pl LM m1 j1 C P τ σ) (x : Int32) : QQ n z D LM m j r m1 j1 r1 (f_X11_safe 0 x) (f_X12_safe 72 x) := by
  have hW := hc.1
  have hS := hc.2.1
  have hY := hc.2.2.1
  have hM := hc.2.2.2.1
  have hP := hW.2.1
  have hC := hW.1
  cases him : im x 0 P with
  | false =>
    refine ⟨no1, QC_e ?_, ?_⟩
    · unfold f_X11_safe f_X11_safe_0
      simp (disch := omega) only [obs, cN_mk, ite_true, ite_false, if_true, if_false, q0, C_hasPerson hY, him, l0, l1, no1_e, bI_t, bI_f, ieq_f, ile_t, ile_f, ilt_t, ilt_f]
    · unfold f_X12_safe f_X12_safe_0
      refine QM_s hm fun m2 _ h2 => QM_e h2 ?_
      simp (disch := omega) only [obs, cN_mk, ite_true, ite_false, if_true, if_false, q72, M_isPerson h2.2.2.1, him, l0, l1, no1_e, bI_t, bI_f, ieq_f, ile_t, ile_f, ilt_t, ilt_f]
  | true =>
    obtain ⟨p, -, hp, rfl⟩ := im_t (by omega) (by omega) him
    have h2C := hW.2.2.1 (by omega)
    have w0 := wln_lt (C := C) (τ := τ) (p := p) (w := 0) h2C
    have w1 := wln_lt (C := C) (τ := τ) (p := p) (w := 1) h2C
    have key : ∀ a b : Bool, (a = decide (ax pl C τ (uS σ 4 p 0) p ≠ 0)) → (b = decide (ax pl C τ (uS σ 4 p 1) p ≠ 0)) → (decide (ax pl C τ (uS σ 4 p 0) p = 0) = !a) ∧ (decide (ax pl C τ (uS σ 4 p 1) p = 0) = !b) := by
      intro a b ha hb
      subst ha hb
      constructor
      · by_cases h : ax pl C τ (uS σ 4 p 0) p = 0
        · simp [h]
        · simp [h]
      · by_cases h : ax pl C τ (uS σ 4 p 1) p = 0
        · simp [h]
        · simp [h]
    generalize ha : decide (ax pl C τ (uS σ 4 p 0) p ≠ 0) = a
    generalize hb : decide (ax pl C τ (uS σ 4 p 1) p ≠ 0) = b
    obtain ⟨ka, kb⟩ := key a b ha.symm hb.symm
    obtain ⟨n0, e0, g0, f0⟩ := C_free (j := j) (y := 0) hc hp (by omega)
    obtain ⟨n1, e1, g1, f1⟩ := C_free (j := j) (y := 1) g0 hp (by omega)
    rw [ka] at e0
    rw [kb] at e1
    refine ⟨if a = b then (if wln C τ p 0 ≤ wln C τ p 1 then Int32.ofNat 0 else Int32.ofNat 1) else (if a = true then Int32.ofNat 1 else Int32.ofNat 0), ⟨n1, ?_, FQc_tr f0 f1⟩, ?_⟩
    · unfold f_X11_safe f_X11_safe_0
      simp (disch := omega) only [obs, cN_mk, ite_true, ite_false, if_true, if_false, q0, C_hasPerson hY, him, l0, l1, no1_e, bI_t, bI_f, ieq_f, ile_t, ile_f, ilt_t, ilt_f, e0, e1, q18, C_walkLength hW g1.2.2.1 hp]
      cases a <;> cases b
      · simp (disch := omega) only [Bool.not_false, obs, cN_mk, ite_true, ite_false, if_true, if_false, bI_t, i_le]
        split <;> rfl
      · simp (disch := omega) only [Bool.not_false, Bool.not_true, obs, cN_mk, ite_true, ite_false, if_true, if_false, l0, l1, no1_e, bI_t, bI_f, ieq_f, ile_t, ile_f, ilt_t, ilt_f, Bool.false_eq_true]
      · simp (disch := omega) only [Bool.not_false, Bool.not_true, obs, cN_mk, ite_true, ite_false, if_true, if_false, l0, l1, no1_e, bI_t, bI_f, ieq_f, ile_t, ile_f, ilt_t, ilt_f, Bool.true_eq_false]
      · simp (disch := omega) only [Bool.not_true, obs, cN_mk, ite_true, ite_false, if_true, if_false, bI_f, i_le]
        split <;> rfl
    · unfold f_X12_safe f_X12_safe_0
      refine QM_s hm fun m2 _ h2 => ?_
      obtain ⟨m3, j3, r3, e3, g3, f3⟩ := M_taken (r := r1) (y := 0) h2 hp (by omega)
      obtain ⟨m4, j4, r4, e4, g4, f4⟩ := M_taken (r := r3) (y := 1) g3 hp (by omega)
      rw [ha] at e3
      rw [hb] at e4
      refine ⟨m4, j4, r4, ?_, g4.2.2.2.2.2, FQm_tr f3 f4⟩
      simp (disch := omega) only [obs, cN_mk, ite_true, ite_false, if_true, if_false, q72, M_isPerson h2.2.2.1, him, l0, l1, no1_e, bI_t, bI_f, ieq_f, ile_t, ile_f, ilt_t, ilt_f, e3, e4, M_longOf hW g4.2.2.1 hp]
      cases a <;> cases b
      · simp (disch := omega) only [obs, cN_mk, ite_true, ite_false, if_true, if_false, bI_f, i_le]
        split <;> rfl
      · simp (disch := omega) only [obs, cN_mk, ite_true, ite_false, if_true, if_false, l0, l1, no1_e, bI_t, bI_f, ieq_f, ile_t, ile_f, ilt_t, ilt_f, Bool.false_eq_true]
      · simp (disch := omega) only [obs, cN_mk, ite_true, ite_false, if_true, if_false, l0, l1, no1_e, bI_t, bI_f, ieq_f, ile_t, ile_f, ilt_t, ilt_f, Bool.true_eq_false]
      · simp (disch := omega) only [obs, cN_mk, ite_true, ite_false, if_true, if_false, bI_t, i_le]
        split <;> rfl
end PRS
