/-! Questions that need no day. -/
def EC (n z : Nat) (D : Dyn) (pl : Pl) (LC : MI → MR → Prop) (m : MI) (r : MR) (C P : Nat) (τ σ : Sg) : Prop := WY C P τ ∧ WS C P 999 σ ∧ YC m C P τ ∧ CS m 27 σ C P ∧ LCok n z D pl LC ∧ LC m r
def EM (n z : Nat) (D : Dyn) (pl : Pl) (LM : MI → MJ → Prop) (m : MI) (j : MJ) (C P : Nat) (τ σ : Sg) : Prop := WY C P τ ∧ WS C P 999 σ ∧ YM m C P τ ∧ MS (m 85) σ C P ∧ LMok n z D pl LM ∧ LM m j
def QQ (n z : Nat) (D : Dyn) (LM : MI → MJ → Prop) (m : MI) (j : MJ) (r : MR) (m1 : MI) (j1 : MJ) (r1 : MR) (cf mf : AH → Option (Int32 × AH)) : Prop := ∃ v, QC n z D m j r (cf (mkH n z D m j r)) v ∧ QM n z D LM m1 j1 r1 (mf (mkH n z D m1 j1 r1)) v
section QS
variable {n z : Nat} {D : Dyn} {m m1 m' : MI} {j j1 j' : MJ} {r r1 r' : MR} {pl : Pl} {LC : MI → MR → Prop} {LM : MI → MJ → Prop} {C P : Nat} {τ σ : Sg} {w p c : Nat} {x y : Int32}
theorem EC_q (h : EC n z D pl LC m r C P τ σ) (hf : FQc m m') : EC n z D pl LC m' r C P τ σ := by
  obtain ⟨h1, h2, h3, h4, h5, h6⟩ := h
  exact ⟨h1, h2, YC_fr h3 (fun a ha => hf.1 a (by omega) (by omega) (by omega) (by omega) (by omega)), CS_fr h4 (fun a ha => hf.1 a (by omega) (by omega) (by omega) (by omega) (by omega)), h5, h5.2.1 m m' r h6 (fun a ha => hf.1 a (by omega) (by omega) (by omega) (by omega) (by omega))⟩
theorem EM_q (h : EM n z D pl LM m j C P τ σ) (hf : FQm m m' j j' r r') (hl : LM m' j') : EM n z D pl LM m' j' C P τ σ := by
  obtain ⟨h1, h2, h3, h4, h5, h6⟩ := h
  exact ⟨h1, h2, YM_fr h3 (hf.1 77 (by omega)) (hf.1 81 (by omega)) (hf.2.2.2.1 26 (by omega) (by omega) (by omega) (by omega) (by omega) (by omega)) (hf.2.2.2.1 27 (by omega) (by omega) (by omega) (by omega) (by omega) (by omega)), by rw [hf.1 85 (by omega)]; exact h4, h5, hl⟩
theorem LM_0 (hL : LMok n z D pl LM) (hl : LM m j) : LM (wI m 72 0 x) j := hL.2.1 m _ j j hl (fun a ha => wI_ne (by omega)) (wI_sn (by omega)) (wI_sn (by omega)) rfl
theorem EM_0 (h : EM n z D pl LM m j C P τ σ) : EM n z D pl LM (wI m 72 0 x) j C P τ σ := EM_q (r := fun _ _ => none) (r' := fun _ _ => none) h FQm_0 (LM_0 h.2.2.2.2.1 h.2.2.2.2.2)
theorem QM_0 {res : Option (Int32 × AH)} {v : Int32} (h : QM n z D LM (wI m 72 0 x) j r res v) : QM n z D LM m j r res v := by
  obtain ⟨m', j', r', e, hl, hf⟩ := h
  exact ⟨m', j', r', e, hl, FQm_tr FQm_0 hf⟩
theorem thr0 {β : Type} {k : AH → Option β} : ((pV [12] (mkH n z D m j r) 72 0 (.int 0)).bind k) = k (mkH n z D (wI m 72 0 0) j r) := by
  rw [show pV [12] (mkH n z D m j r) 72 0 (.int 0) = some (mkH n z D (wI m 72 0 0) j r) from pI_mk rfl (by decide) rfl, obs]
theorem QM_s {v : Int32} {k : AH → Option (Int32 × AH)} (hm : EM n z D pl LM m j C P τ σ) (hk : ∀ m2, m2 = wI m 72 0 0 → EM n z D pl LM m2 j C P τ σ → QM n z D LM m2 j r (k (mkH n z D m2 j r)) v) : QM n z D LM m j r ((pV [12] (mkH n z D m j r) 72 0 (.int 0)).bind k) v := by
  rw [thr0]
  exact QM_0 (hk _ rfl (EM_0 hm))
theorem QM_e {v : Int32} {res : Option (Int32 × AH)} (hm : EM n z D pl LM m j C P τ σ) (e : res = some (v, (mkH n z D m j r))) : QM n z D LM m j r res v := ⟨m, j, r, e, hm.2.2.2.2.2, FQm_refl⟩
theorem QC_e {v : Int32} {res : Option (Int32 × AH)} (e : res = some (v, (mkH n z D m j r))) : QC n z D m j r res v := ⟨m, e, FQc_refl⟩
theorem CS27 (h : CS m 27 σ C P) : (∀ c, c < C → m 28 c = Int32.ofNat (σ 0 c)) ∧ (∀ c, c < C → m 29 c = Int32.ofNat (σ 1 c)) ∧ (∀ p, p < P → m 30 p = Int32.ofNat (σ 2 p)) ∧ (∀ p, p < P → m 31 p = Int32.ofNat (σ 3 p)) ∧ (∀ p, p < P → m 32 p = Int32.ofNat (σ 4 p)) ∧ m 27 5 = pr (σ 5 0) ∧ m 27 6 = Int32.ofNat (σ 6 0) ∧ m 27 7 = Int32.ofNat (σ 7 0) := ⟨fun c hc => (h.1 c hc).1, fun c hc => (h.1 c hc).2, fun p hp => (h.2.1 p hp).1, fun p hp => (h.2.1 p hp).2.1, fun p hp => (h.2.1 p hp).2.2, h.2.2⟩
theorem CS33 (h : CS m 33 σ C P) : (∀ c, c < C → m 34 c = Int32.ofNat (σ 0 c)) ∧ (∀ c, c < C → m 35 c = Int32.ofNat (σ 1 c)) ∧ (∀ p, p < P → m 36 p = Int32.ofNat (σ 2 p)) ∧ (∀ p, p < P → m 37 p = Int32.ofNat (σ 3 p)) ∧ (∀ p, p < P → m 38 p = Int32.ofNat (σ 4 p)) ∧ m 33 5 = pr (σ 5 0) ∧ m 33 6 = Int32.ofNat (σ 6 0) ∧ m 33 7 = Int32.ofNat (σ 7 0) := ⟨fun c hc => (h.1 c hc).1, fun c hc => (h.1 c hc).2, fun p hp => (h.2.1 p hp).1, fun p hp => (h.2.1 p hp).2.1, fun p hp => (h.2.1 p hp).2.2, h.2.2⟩
theorem YMp (h : YM m C P τ) : (∀ p, p < P → m 81 (6 * p + 0) = Int32.ofNat (τ 0 p)) ∧ (∀ p, p < P → m 81 (6 * p + 1) = Int32.ofNat (τ 1 p)) ∧ (∀ p, p < P → m 81 (6 * p + 2) = Int32.ofNat (τ 2 p)) ∧ (∀ p, p < P → m 81 (6 * p + 3) = Int32.ofNat (τ 3 p)) ∧ (∀ p, p < P → m 81 (6 * p + 4) = Int32.ofNat (τ 4 p)) := ⟨fun p hp => h.2.2.2.2 p hp 0 (by omega), fun p hp => h.2.2.2.2 p hp 1 (by omega), fun p hp => h.2.2.2.2 p hp 2 (by omega), fun p hp => h.2.2.2.2 p hp 3 (by omega), fun p hp => h.2.2.2.2 p hp 4 (by omega)⟩
theorem C_hasCity (hY : YC m C P τ) (hP : P ≤ 6) : f_X11_hasCity 0 (mkH n z D m j r) = some (bI (decide (0 < P)), (mkH n z D m j r)) := by
  unfold f_X11_hasCity f_X11_hasCity_0
  simp only [q0, obs, q18, hY.2.1, l0, l1]
  by_cases h : 0 < P
  · simp (disch := omega) only [ile_f, if_false, h, decide_true, bI_t]
  · simp (disch := omega) only [ile_t, if_true, h, decide_false, bI_f]
theorem C_hasPerson (hY : YC m C P τ) : f_X11_hasPerson 0 x (mkH n z D m j r) = some (bI (im x 0 P), (mkH n z D m j r)) := by
  unfold f_X11_hasPerson f_X11_hasPerson_0
  simp only [q0, obs, q18, hY.2.1, l0, l1, rng3]
  cases im x 0 P <;> rfl
theorem C_hasCorner (hY : YC m C P τ) : f_X11_hasCorner 0 x (mkH n z D m j r) = some (bI (im x 0 C), (mkH n z D m j r)) := by
  unfold f_X11_hasCorner f_X11_hasCorner_0
  simp only [q0, obs, q18, hY.1, l0, l1, rng3]
  cases im x 0 C <;> rfl
theorem M_isPerson (hY : YM m C P τ) : f_X12_isPerson 72 x (mkH n z D m j r) = some (bI (im x 0 P), (mkH n z D m j r)) := by
  unfold f_X12_isPerson f_X12_isPerson_0
  simp only [q72, obs, hY.2.1, l0, l1, rng3]
  cases im x 0 P <;> rfl
theorem M_isCorner (hY : YM m C P τ) : f_X12_isCorner 72 x (mkH n z D m j r) = some (bI (im x 0 C), (mkH n z D m j r)) := by
  unfold f_X12_isCorner f_X12_isCorner_0
  simp only [q72, obs, hY.1, l0, l1, rng3]
  cases im x 0 C <;> rfl
theorem C_isCrumb {h : AH} : f_X11_isCrumb x h = some (bI (im x 0 4), h) := by
  unfold f_X11_isCrumb f_X11_isCrumb_0
  rw [l0, l1, l3, rng1 (by omega)]
  cases im x 0 (3 + 1) <;> rfl
theorem C_isLive {h : AH} : f_X11_isLiveSpring x h = some (bI (im x 1 10), h) := by
  unfold f_X11_isLiveSpring f_X11_isLiveSpring_0
  rw [l0, l1, l9, rng1 (by omega)]
  cases im x 1 (9 + 1) <;> rfl
theorem Q_walk (hc : EC n z D pl LC m r C P τ σ) (hm : EM n z D pl LM m1 j1 C P τ σ) (x : Int32) : QQ n z D LM m j r m1 j1 r1 (f_X11_walk 0 x) (f_X12_walk 72 x) := by
  obtain ⟨hW, hS, hY, hM, hL, hl⟩ := hc
  have hP := hW.2.1
  cases him : im x 0 P with
  | false =>
    refine ⟨no1, QC_e ?_, ?_⟩
    · unfold f_X11_walk f_X11_walk_0
      simp (disch := omega) only [obs, cN_mk, ite_true, ite_false, if_true, if_false, q0, C_hasPerson hY, him, l0, l1, no1_e, bI_t, bI_f, ieq_f, ile_t, ile_f, ilt_t, ilt_f]
    · unfold f_X12_walk f_X12_walk_0
      refine QM_s hm fun m2 _ h2 => QM_e h2 ?_
      simp (disch := omega) only [obs, cN_mk, ite_true, ite_false, if_true, if_false, q72, M_isPerson h2.2.2.1, him, l0, l1, no1_e, bI_t, bI_f, ieq_f, ile_t, ile_f, ilt_t, ilt_f]
  | true =>
    obtain ⟨p, -, hp, rfl⟩ := im_t (by omega) (by omega) him
    have s4 := (hS.2.1 p hp).2.2
    refine ⟨Int32.ofNat (wln C τ p (σ 4 p)), QC_e ?_, ?_⟩
    · unfold f_X11_walk f_X11_walk_0
      simp (disch := omega) only [obs, cN_mk, ite_true, ite_false, if_true, if_false, q0, C_hasPerson hY, him, l0, l1, no1_e, bI_t, bI_f, ieq_f, ile_t, ile_f, ilt_t, ilt_f, q27, p32, CS27 hM, q18, C_walkLength hW hY hp s4]
    · unfold f_X12_walk f_X12_walk_0
      refine QM_s hm fun m2 _ h2 => QM_e h2 ?_
      simp (disch := omega) only [obs, cN_mk, ite_true, ite_false, if_true, if_false, q72, M_isPerson h2.2.2.1, him, l0, l1, no1_e, bI_t, bI_f, ieq_f, ile_t, ile_f, ilt_t, ilt_f, l2, M_folk (Or.inl rfl : 85 = 85 ∨ 85 = 86), h2.2.2.2.1.2.1, M_longOf hW h2.2.2.1 hp s4]
theorem Q_rule (hc : EC n z D pl LC m r C P τ σ) (hm : EM n z D pl LM m1 j1 C P τ σ) (x : Int32) : QQ n z D LM m j r m1 j1 r1 (f_X11_rule 0 x) (f_X12_rule 72 x) := by
  obtain ⟨hW, hS, hY, hM, hL, hl⟩ := hc
  have hP := hW.2.1
  by_cases hP0 : P = 0
  · refine ⟨no1, QC_e ?_, ?_⟩
    · unfold f_X11_rule f_X11_rule_0
      simp (disch := omega) only [obs, cN_mk, ite_true, ite_false, if_true, if_false, q0, C_hasCity hY hP, hP0, Nat.lt_irrefl, decide_false, l0, l1, no1_e, bI_t, bI_f, ieq_f, ile_t, ile_f, ilt_t, ilt_f]
    · unfold f_X12_rule f_X12_rule_0
      refine QM_s hm fun m2 _ h2 => QM_e h2 ?_
      simp (disch := omega) only [obs, cN_mk, ite_true, ite_false, if_true, if_false, q72, h2.2.2.1.2.1, hP0, l0, l1, no1_e, bI_t, bI_f, ieq_f, ile_t, ile_f, ilt_t, ilt_f]
  have hd : decide (0 < P) = true := decide_eq_true (by omega)
  cases him : im x 0 3 with
  | false =>
    have h0 : (x = Int32.ofNat 0) = False := eq_false (fun e => by rw [e, im_k (by omega)] at him; cases him)
    have h1 : (x = Int32.ofNat 1) = False := eq_false (fun e => by rw [e, im_k (by omega)] at him; cases him)
    have h2' : (x = Int32.ofNat 2) = False := eq_false (fun e => by rw [e, im_k (by omega)] at him; cases him)
    refine ⟨no1, QC_e ?_, ?_⟩
    · unfold f_X11_rule f_X11_rule_0
      simp (disch := omega) only [obs, cN_mk, ite_true, ite_false, if_true, if_false, q0, C_hasCity hY hP, hd, l0, l1, no1_e, bI_t, bI_f, ieq_f, ile_t, ile_f, ilt_t, ilt_f, l2, h0, h1, h2']
    · unfold f_X12_rule f_X12_rule_0
      refine QM_s hm fun m2 _ h2 => QM_e h2 ?_
      simp (disch := omega) only [obs, cN_mk, ite_true, ite_false, if_true, if_false, q72, h2.2.2.1.2.1, i64_0, i64_2, M_inK, Nat.reduceAdd, him, l0, l1, no1_e, bI_t, bI_f, ieq_f, ile_t, ile_f, ilt_t, ilt_f]
  | true =>
    obtain ⟨k, -, hk, rfl⟩ := im_t (by omega) (by omega) him
    have hk3 : k = 0 ∨ k = 1 ∨ k = 2 := by omega
    rcases hk3 with rfl | rfl | rfl
    · refine ⟨Int32.ofNat (τ 6 0), QC_e ?_, ?_⟩
      · unfold f_X11_rule f_X11_rule_0
        simp (disch := omega) only [obs, cN_mk, ite_true, ite_false, if_true, if_false, q0, C_hasCity hY hP, hd, l0, l1, no1_e, bI_t, bI_f, ieq_f, ile_t, ile_f, ilt_t, ilt_f, q18, hY.2.2.1]
      · unfold f_X12_rule f_X12_rule_0
        refine QM_s hm fun m2 _ h2 => QM_e h2 ?_
        simp (disch := omega) only [obs, cN_mk, ite_true, ite_false, if_true, if_false, q72, h2.2.2.1.2.1, i64_0, i64_2, M_inK, Nat.reduceAdd, him, l0, l1, no1_e, bI_t, bI_f, ieq_f, ile_t, ile_f, ilt_t, ilt_f, p77, h2.2.2.1.2.2.1]
    · refine ⟨Int32.ofNat (σ 6 0), QC_e ?_, ?_⟩
      · unfold f_X11_rule f_X11_rule_0
        simp (disch := omega) only [obs, cN_mk, ite_true, ite_false, if_true, if_false, q0, C_hasCity hY hP, hd, l0, l1, no1_e, bI_t, bI_f, ieq_f, ile_t, ile_f, ilt_t, ilt_f, q27, CS27 hM]
      · unfold f_X12_rule f_X12_rule_0
        refine QM_s hm fun m2 _ h2 => QM_e h2 ?_
        simp (disch := omega) only [obs, cN_mk, ite_true, ite_false, if_true, if_false, q72, h2.2.2.1.2.1, i64_0, i64_2, M_inK, Nat.reduceAdd, him, l0, l1, no1_e, bI_t, bI_f, ieq_f, ile_t, ile_f, ilt_t, ilt_f, l29, p85, h2.2.2.2.1.2.2.2.1]
    · refine ⟨Int32.ofNat (τ 6 2), QC_e ?_, ?_⟩
      · unfold f_X11_rule f_X11_rule_0
        simp (disch := omega) only [obs, cN_mk, ite_true, ite_false, if_true, if_false, q0, C_hasCity hY hP, hd, l0, l1, no1_e, bI_t, bI_f, ieq_f, ile_t, ile_f, ilt_t, ilt_f, l2, q18, hY.2.2.2.1]
      · unfold f_X12_rule f_X12_rule_0
        refine QM_s hm fun m2 _ h2 => QM_e h2 ?_
        simp (disch := omega) only [obs, cN_mk, ite_true, ite_false, if_true, if_false, q72, h2.2.2.1.2.1, i64_0, i64_2, M_inK, Nat.reduceAdd, him, l0, l1, no1_e, bI_t, bI_f, ieq_f, ile_t, ile_f, ilt_t, ilt_f, p77, h2.2.2.1.2.2.2.1]
theorem Q_corner (hc : EC n z D pl LC m r C P τ σ) (hm : EM n z D pl LM m1 j1 C P τ σ) (x y : Int32) : QQ n z D LM m j r m1 j1 r1 (f_X11_corner 0 x y) (f_X12_corner 72 x y) := by
  obtain ⟨hW, hS, hY, hM, hL, hl⟩ := hc
  have hC := hW.1
  cases him : im x 0 C with
  | false =>
    refine ⟨no1, QC_e ?_, ?_⟩
    · unfold f_X11_corner f_X11_corner_0
      simp (disch := omega) only [obs, cN_mk, ite_true, ite_false, if_true, if_false, q0, C_hasCorner hY, him, l0, l1, no1_e, bI_t, bI_f, ieq_f, ile_t, ile_f, ilt_t, ilt_f]
    · unfold f_X12_corner f_X12_corner_0
      refine QM_s hm fun m2 _ h2 => QM_e h2 ?_
      simp (disch := omega) only [obs, cN_mk, ite_true, ite_false, if_true, if_false, q72, M_isCorner h2.2.2.1, him, l0, l1, no1_e, bI_t, bI_f, ieq_f, ile_t, ile_f, ilt_t, ilt_f]
  | true =>
    obtain ⟨c, -, hcC, rfl⟩ := im_t (by omega) (by omega) him
    cases hiy : im y 0 2 with
    | false =>
      have h0 : (y = Int32.ofNat 0) = False := eq_false (fun e => by rw [e, im_k (by omega)] at hiy; cases hiy)
      have h1 : (y = Int32.ofNat 1) = False := eq_false (fun e => by rw [e, im_k (by omega)] at hiy; cases hiy)
      refine ⟨no1, QC_e ?_, ?_⟩
      · unfold f_X11_corner f_X11_corner_0
        simp (disch := omega) only [obs, cN_mk, ite_true, ite_false, if_true, if_false, q0, C_hasCorner hY, him, l0, l1, no1_e, bI_t, bI_f, ieq_f, ile_t, ile_f, ilt_t, ilt_f, h0, h1]
      · unfold f_X12_corner f_X12_corner_0
        refine QM_s hm fun m2 _ h2 => QM_e h2 ?_
        simp (disch := omega) only [obs, cN_mk, ite_true, ite_false, if_true, if_false, q72, M_isCorner h2.2.2.1, him, i64_0, i64_1, M_inK, Nat.reduceAdd, hiy, l0, l1, no1_e, bI_t, bI_f, ieq_f, ile_t, ile_f, ilt_t, ilt_f]
    | true =>
      obtain ⟨k, -, hk, rfl⟩ := im_t (by omega) (by omega) hiy
      have hk3 : k = 0 ∨ k = 1 := by omega
      rcases hk3 with rfl | rfl
      · refine ⟨Int32.ofNat (σ 0 c), QC_e ?_, ?_⟩
        · unfold f_X11_corner f_X11_corner_0
          simp (disch := omega) only [obs, cN_mk, ite_true, ite_false, if_true, if_false, q0, C_hasCorner hY, him, l0, l1, no1_e, bI_t, bI_f, ieq_f, ile_t, ile_f, ilt_t, ilt_f, q27, p28, CS27 hM]
        · unfold f_X12_corner f_X12_corner_0
          refine QM_s hm fun m2 _ h2 => QM_e h2 ?_
          simp (disch := omega) only [obs, cN_mk, ite_true, ite_false, if_true, if_false, q72, M_isCorner h2.2.2.1, him, i64_0, i64_1, M_inK, Nat.reduceAdd, hiy, l0, l1, no1_e, bI_t, bI_f, ieq_f, ile_t, ile_f, ilt_t, ilt_f, l2, i_mul, i_add, Nat.add_zero, p85, h2.2.2.2.1.1]
      · refine ⟨Int32.ofNat (σ 1 c), QC_e ?_, ?_⟩
        · unfold f_X11_corner f_X11_corner_0
          simp (disch := omega) only [obs, cN_mk, ite_true, ite_false, if_true, if_false, q0, C_hasCorner hY, him, l0, l1, no1_e, bI_t, bI_f, ieq_f, ile_t, ile_f, ilt_t, ilt_f, q27, p29, CS27 hM]
        · unfold f_X12_corner f_X12_corner_0
          refine QM_s hm fun m2 _ h2 => QM_e h2 ?_
          simp (disch := omega) only [obs, cN_mk, ite_true, ite_false, if_true, if_false, q72, M_isCorner h2.2.2.1, him, i64_0, i64_1, M_inK, Nat.reduceAdd, hiy, l0, l1, no1_e, bI_t, bI_f, ieq_f, ile_t, ile_f, ilt_t, ilt_f, l2, i_mul, i_add, p85, h2.2.2.2.1.1]
end QS
