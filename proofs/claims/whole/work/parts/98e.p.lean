/-! Days apart. -/
section APART
variable {n z : Nat} {D : Dyn} {m m1 m' : MI} {j j1 j' : MJ} {r r1 r' : MR} {pl : Pl} {LC : MI → MR → Prop} {LM : MI → MJ → Prop} {C P : Nat} {τ σ σ0 : Sg} {w p c s N cnt : Nat} {x y : Int32}
theorem WS_le {d d' : Nat} (h : WS C P d σ) (hd : d ≤ d') : WS C P d' σ := ⟨h.1, h.2.1, h.2.2.1, h.2.2.2.1, by have := h.2.2.2.2; omega⟩
theorem C_cpy (h : EC n z D pl LC m r C P τ σ) : ∃ m', f_X8_copyFrom 33 27 (mkH n z D m j r) = some ((), mkH n z D m' j r) ∧ EC n z D pl LC m' r C P τ σ ∧ FQc m m' ∧ CS m' 33 σ C P ∧ (∀ a, ¬ (33 ≤ a ∧ a ≤ 38) → m' a = m a) := by
  obtain ⟨m', e, h1, h2⟩ := C_copyFrom (n := n) (z := z) (m := m) (j := j) (r := r) (s := 33) (s' := 27) isSt33 isSt27 (by omega) h.1.1 h.1.2.1 h.2.2.2.1
  have hf : FQc m m' := ⟨fun a _ h3 _ _ _ => h2 a h3, fun i _ => by rw [h2 55 (by omega)]⟩
  exact ⟨m', e, EC_q h hf, hf, h1, fun a ha => h2 a ha⟩
theorem C_ply {kn : Nat} (h : EC n z D pl LC m r C P τ σ0) (hs : s = 27 ∨ s = 33) (hS : WS C P 1999 σ) (hM : CS m s σ C P) (hN : N ≤ P) (hk : kn ≤ 1) (hE : kn = 1 → EN m pl τ σ C P) : ∃ m', f_X6_play 52 s (Int32.ofNat N) (Int32.ofNat kn) (mkH n z D m j r) = some ((), mkH n z D m' j r) ∧ EC n z D pl LC m' r C P τ σ0 ∧ FQc m m' ∧ CS m' s σ C P ∧ FC m m' ∧ EN m' pl τ σ C P ∧ m' 52 5 = Int32.ofNat (dy pl C τ σ N).1 ∧ m' 52 3 = Int32.ofNat (dy pl C τ σ N).2.1 ∧ m' 52 4 = Int32.ofNat (dy pl C τ σ N).2.2 ∧ (∀ i, i < 6 → m' 53 i = pr (if i < N then ax pl C τ σ i else 0)) := by
  obtain ⟨m', e, hf, hr⟩ := C_play (n := n) (z := z) (j := j) (r := r) h.2.2.2.2.1 h.2.2.2.2.2 hs h.1 hS h.2.2.1 hM hN hk hE
  exact ⟨m', e, EC_q h (FQc_fc hf), FQc_fc hf, CS_fr hM (fun a ha => hf a (by omega)), hf, hr⟩
theorem C_dayS (h : EC n z D pl LC m r C P τ σ0) (hs : s = 27 ∨ s = 33) (hS : WS C P 1999 σ) (hM : CS m s σ C P) : ∃ m', f_X11_doStep 0 s (Int32.ofNat 0) x y (mkH n z D m j r) = some ((), mkH n z D m' j r) ∧ CS m' s (nxt (ax pl C τ σ) P σ) C P ∧ (∀ a, ¬ (s ≤ a ∧ a ≤ s + 5) → ¬ (49 ≤ a ∧ a ≤ 54) → m' a = m a) ∧ m' 52 3 = Int32.ofNat (dy pl C τ σ P).2.1 ∧ m' 52 4 = Int32.ofNat (dy pl C τ σ P).2.2 ∧ (∀ i, i < 6 → m' 53 i = pr (if i < P then ax pl C τ σ i else 0)) := by
  obtain ⟨m1, e1, h1, -, hM1, hf1, -, -, a3, a4, a5⟩ := C_ply (j := j) (kn := 0) h hs hS hM (Nat.le_refl P) (by omega) (fun e => by omega)
  obtain ⟨m2, e2, hf2, hM2⟩ := C_settle (n := n) (z := z) (j := j) (r := r) hs h.1 hS h1.2.2.1 hM1 a5
  refine ⟨m2, ?_, hM2, fun a ha hb => (hf2 a ha).trans (hf1 a hb), by rw [hf2 52 (by omega)]; exact a3, by rw [hf2 52 (by omega)]; exact a4, fun i hi => by rw [hf2 53 (by omega)]; exact a5 i hi⟩
  unfold f_X11_doStep f_X11_doStep_0
  simp (disch := omega) only [obs, cN_mk, ite_true, ite_false, if_true, if_false, q0, q18, h.2.2.1.2.1, q52, l0, e1]
  rw [e2, cN_mk]
theorem C_day33 (h : EC n z D pl LC m r C P τ σ0) (hS : WS C P 1999 σ) (hM : CS m 33 σ C P) : ∃ m', f_X11_doStep 0 33 (Int32.ofNat 0) x y (mkH n z D m j r) = some ((), mkH n z D m' j r) ∧ EC n z D pl LC m' r C P τ σ0 ∧ FQc m m' ∧ CS m' 33 (nxt (ax pl C τ σ) P σ) C P ∧ m' 52 3 = Int32.ofNat (dy pl C τ σ P).2.1 ∧ m' 52 4 = Int32.ofNat (dy pl C τ σ P).2.2 ∧ (∀ i, i < 6 → m' 53 i = pr (if i < P then ax pl C τ σ i else 0)) := by
  obtain ⟨m', e, h1, h2, h3⟩ := C_dayS (j := j) (x := x) (y := y) h (Or.inr rfl) hS hM
  have hf : FQc m m' := ⟨fun a _ b3 b4 _ _ => h2 a (by omega) (by omega), fun i _ => by rw [h2 55 (by omega) (by omega)]⟩
  exact ⟨m', e, EC_q h hf, hf, h1, h3⟩
theorem M_cpy (h : EM n z D pl LM m j C P τ σ) : ∃ m', f_X12_copy 85 86 (mkH n z D m j r) = some ((), mkH n z D m' j r) ∧ EM n z D pl LM m' j C P τ σ ∧ FQm m m' j j r r ∧ MS (m' 86) σ C P ∧ m' 86 31 = Int32.ofNat 0 ∧ (∀ a, a ≠ 86 → m' a = m a) := by
  obtain ⟨m', e, h1, h2, h3⟩ := M_copy (n := n) (z := z) (D := D) (j := j) (r := r) h.1.1 h.1.2.1 h.2.2.2.1
  have hf : FQm m m' j j r r := FQm_a (fun a ha _ => h3 a ha)
  exact ⟨m', e, EM_q h hf (h.2.2.2.2.1.2.1 m m' j j h.2.2.2.2.2 (fun a ha => h3 a (by omega)) (by rw [h3 72 (by omega)]) (by rw [h3 72 (by omega)]) rfl), hf, h1, h2, h3⟩
/-- a row of the trial is set -/
theorem M_set86 {i : Nat} (h : EM n z D pl LM m j C P τ σ) : EM n z D pl LM (wI m 86 i x) j C P τ σ ∧ FQm m (wI m 86 i x) j j r r := by
  have hf : FQm m (wI m 86 i x) j j r r := FQm_a (fun a ha _ => wI_ne ha)
  exact ⟨EM_q h hf (h.2.2.2.2.1.2.1 m _ j j h.2.2.2.2.2 (fun a ha => wI_ne (by omega)) (by rw [wI_ne (by omega)]) (by rw [wI_ne (by omega)]) rfl), hf⟩
theorem M_try (h : EM n z D pl LM m j C P τ σ0) (hS : WS C P 1998 σ) (hM : MS (m 86) σ C P) (hc : cnt ≤ 60) (h31 : m 86 31 = Int32.ofNat cnt) : ∃ m' j' r', f_X12_goDay 72 86 (mkH n z D m j r) = some (Int32.ofNat (dy pl C τ σ P).2.1, mkH n z D m' j' r') ∧ EM n z D pl LM m' j' C P τ σ0 ∧ FQm m m' j j' r r' ∧ MS (m' 86) (nxt (ax pl C τ σ) P σ) C P ∧ m' 86 31 = Int32.ofNat (min 60 (cnt + 1)) ∧ (∀ p, p < 6 → m' 89 p = pr (if p < P then ax pl C τ σ p else 0)) ∧ m' 72 41 = Int32.ofNat (dy pl C τ σ P).2.2 ∧ m' 92 = m 92 := by
  obtain ⟨m', j', r', e, hl', hf, h1, h2, h3, h4, h5, -⟩ := M_goDay (n := n) (z := z) (r := r) h.2.2.2.2.1 (Or.inr rfl) h.1 hS h.2.2.2.2.2 h.2.2.1 hM hc h31
  exact ⟨m', j', r', e, EM_q h (FQm_fd hf) hl', FQm_fd hf, h1, h5, h2, h4, hf.1 92 (by omega) (by omega) (by omega) (by omega) (by omega)⟩
theorem M_tries (h : EM n z D pl LM m j C P τ σ) : ∃ m' j' r', f_X12_tries 72 (mkH n z D m j r) = some (Int32.ofNat (dy pl C τ σ P).2.1, mkH n z D m' j' r') ∧ EM n z D pl LM m' j' C P τ σ ∧ FQm m m' j j' r r' ∧ (∀ p, p < 6 → m' 89 p = pr (if p < P then ax pl C τ σ p else 0)) ∧ m' 72 41 = Int32.ofNat (dy pl C τ σ P).2.2 := by
  obtain ⟨m1, e1, h1, f1, hM1, h31, -⟩ := M_cpy (r := r) h
  obtain ⟨m2, j2, r2, e2, h2, f2, -, -, a1, a2, -⟩ := M_try (r := r) h1 (WS_le h.2.1 (by omega)) hM1 (by omega : 0 ≤ 60) h31
  refine ⟨m2, j2, r2, ?_, h2, FQm_tr f1 f2, a1, a2⟩
  unfold f_X12_tries f_X12_tries_0
  simp (disch := omega) only [obs, cN_mk, ite_true, ite_false, if_true, if_false, q72, e1, e2]
def plS (pl : Pl) (τ σ : Sg) (p c s : Nat) : Nat := pl (if σ 0 c = τ 0 p then 1 else 0) (τ 1 p) (σ 2 p) s (σ 3 p) (σ 7 0)
theorem C_pbs (h : EC n z D pl LC m r C P τ σ) (hp : p < P) (hc : c < C) (hs : s ≤ 9) : ∃ m', f_X11_pullBySpring 0 (Int32.ofNat p) (Int32.ofNat c) (Int32.ofNat s) (mkH n z D m j r) = some (Int32.ofNat (plS pl τ σ p c s), mkH n z D m' j r) ∧ EC n z D pl LC m' r C P τ σ ∧ FQc m m' := by
  obtain ⟨hW, hS, hY, hM, hL, hl⟩ := h
  have hP := hW.2.1
  have hC := hW.1
  have t := hW.2.2.2.2.2.2 p hp
  have s1 := hS.1 c hc
  have s2 := hS.2.1 p hp
  have s7 := hS.2.2.2.2
  obtain ⟨m', e, hf⟩ := hL.1 m j r (if σ 0 c = τ 0 p then 1 else 0) (τ 1 p) (σ 2 p) s (σ 3 p) (σ 7 0) hl (by split <;> omega) (by omega) (by omega) hs (by omega) (by omega)
  have hq : FQc m m' := ⟨fun a _ _ b3 _ _ => hf a (by omega) (by omega) (by omega), fun i _ => by rw [hf 55 (by omega) (by omega) (by omega)]⟩
  refine ⟨m', ?_, EC_q ⟨hW, hS, hY, hM, hL, hl⟩ hq, hq⟩
  unfold f_X11_pullBySpring f_X11_pullBySpring_0
  by_cases h0 : σ 0 c = τ 0 p
  · rw [if_pos h0] at e
    simp (disch := omega) only [obs, cN_mk, ite_true, ite_false, if_true, if_false, q0, q27, q18, p28, p21, p22, p30, p31, CS27 hM, hY.2.2.2.2, h0, f_X11_pullBySpring_26, c49, l1, e, plS]
  · rw [if_neg h0] at e
    simp (disch := omega) only [obs, cN_mk, ite_true, ite_false, if_true, if_false, q0, q27, q18, p28, p21, p22, p30, p31, CS27 hM, hY.2.2.2.2, ieq_f, f_X11_pullBySpring_26, c49, l0, e, plS, h0]
theorem M_pull (hL : LMok n z D pl LM) (hl : LM m j) (hw : w = 85 ∨ w = 86) (hW : WY C P τ) (hS : WS C P 1999 σ) (hY : YM m C P τ) (hM : MS (m w) σ C P) (hp : p < P) (hc : c < C) : ∃ m' j' r', f_X12_pull 72 w (Int32.ofNat p) (Int32.ofNat c) (mkH n z D m j r) = some (Int32.ofNat (plS pl τ σ p c (σ 1 c)), mkH n z D m' j' r') ∧ LM m' j' ∧ FPm m m' j j' r r' := by
  have hP := hW.2.1
  have hC := hW.1
  have t := hW.2.2.2.2.2.2 p hp
  have s1 := hS.1 c hc
  have s2 := hS.2.1 p hp
  have s7 := hS.2.2.2.2
  obtain ⟨m', j', r', e, hl', hf⟩ := hL.1 m j r (if σ 0 c = τ 0 p then 1 else 0) (τ 1 p) (σ 2 p) (σ 1 c) (σ 3 p) (σ 7 0) hl (by split <;> omega) (by omega) (by omega) (by omega) (by omega) (by omega)
  refine ⟨m', j', r', ?_, hl', hf⟩
  unfold f_X12_pull f_X12_pull_0
  have y := YMp hY
  simp only [Nat.add_zero] at y
  by_cases h0 : σ 0 c = τ 0 p
  · rw [if_pos h0] at e
    simp (disch := omega) only [obs, cN_mk, ite_true, ite_false, if_true, if_false, q72, l2, l0, l1, l30, i_mul, i_add, Nat.add_zero, (pw hw).1, hM.1, hM.2.1, hM.2.2.2.2, M_of, y, h0, f_X12_pull_22, M_folk hw, e, plS]
  · rw [if_neg h0] at e
    simp (disch := omega) only [obs, cN_mk, ite_true, ite_false, if_true, if_false, q72, l2, l0, l1, l30, i_mul, i_add, Nat.add_zero, (pw hw).1, hM.1, hM.2.1, hM.2.2.2.2, M_of, y, ieq_f, f_X12_pull_22, M_folk hw, e, plS, h0]
theorem Q_pulled (hc : EC n z D pl LC m r C P τ σ) (hm : EM n z D pl LM m1 j1 C P τ σ) (x y : Int32) : QQ n z D LM m j r m1 j1 r1 (f_X11_pulled 0 x y) (f_X12_pulled 72 x y) := by
  have hW := hc.1
  have hS := hc.2.1
  have hY := hc.2.2.1
  have hM := hc.2.2.2.1
  have hP := hW.2.1
  have hC := hW.1
  cases him : im x 0 P with
  | false =>
    refine ⟨no1, QC_e ?_, ?_⟩
    · unfold f_X11_pulled f_X11_pulled_0
      simp (disch := omega) only [obs, cN_mk, ite_true, ite_false, if_true, if_false, q0, C_hasPerson hY, him, l0, l1, no1_e, bI_t, bI_f, ieq_f, ile_t, ile_f, ilt_t, ilt_f]
    · unfold f_X12_pulled f_X12_pulled_0
      refine QM_s hm fun m2 _ h2 => QM_e h2 ?_
      simp (disch := omega) only [obs, cN_mk, ite_true, ite_false, if_true, if_false, q72, M_isPerson h2.2.2.1, him, l0, l1, no1_e, bI_t, bI_f, ieq_f, ile_t, ile_f, ilt_t, ilt_f]
  | true =>
    obtain ⟨p, -, hp, rfl⟩ := im_t (by omega) (by omega) him
    cases hiy : im y 0 C with
    | false =>
      refine ⟨no1, QC_e ?_, ?_⟩
      · unfold f_X11_pulled f_X11_pulled_0
        simp (disch := omega) only [obs, cN_mk, ite_true, ite_false, if_true, if_false, q0, C_hasPerson hY, C_hasCorner hY, him, hiy, l0, l1, no1_e, bI_t, bI_f, ieq_f, ile_t, ile_f, ilt_t, ilt_f]
      · unfold f_X12_pulled f_X12_pulled_0
        refine QM_s hm fun m2 _ h2 => QM_e h2 ?_
        simp (disch := omega) only [obs, cN_mk, ite_true, ite_false, if_true, if_false, q72, M_isPerson h2.2.2.1, M_isCorner h2.2.2.1, him, hiy, l0, l1, no1_e, bI_t, bI_f, ieq_f, ile_t, ile_f, ilt_t, ilt_f]
    | true =>
      obtain ⟨c, -, hcC, rfl⟩ := im_t (by omega) (by omega) hiy
      have s1 := hS.1 c hcC
      refine ⟨Int32.ofNat (plS pl τ σ p c (σ 1 c)), ?_, ?_⟩
      · obtain ⟨m', e, -, hf⟩ := C_pbs (j := j) hc hp hcC s1.2
        refine ⟨m', ?_, hf⟩
        unfold f_X11_pulled f_X11_pulled_0
        simp (disch := omega) only [obs, cN_mk, ite_true, ite_false, if_true, if_false, q0, C_hasPerson hY, C_hasCorner hY, him, hiy, l0, l1, no1_e, bI_t, bI_f, ieq_f, ile_t, ile_f, ilt_t, ilt_f, q27, p29, CS27 hM, e]
      · unfold f_X12_pulled f_X12_pulled_0
        refine QM_s hm fun m2 _ h2 => ?_
        obtain ⟨m', j', r', e, hl', hf⟩ := M_pull (n := n) (z := z) (r := r1) h2.2.2.2.2.1 h2.2.2.2.2.2 (Or.inl rfl) hW (WS_le hS (by omega)) h2.2.2.1 h2.2.2.2.1 hp hcC
        refine ⟨m', j', r', ?_, hl', FQm_p hf⟩
        simp (disch := omega) only [obs, cN_mk, ite_true, ite_false, if_true, if_false, q72, M_isPerson h2.2.2.1, M_isCorner h2.2.2.1, him, hiy, l0, l1, no1_e, bI_t, bI_f, ieq_f, ile_t, ile_f, ilt_t, ilt_f, e]
theorem Q_caught (hc : EC n z D pl LC m r C P τ σ) (hm : EM n z D pl LM m1 j1 C P τ σ) (x : Int32) : QQ n z D LM m j r m1 j1 r1 (f_X11_caught 0 x) (f_X12_caught 72 x) := by
  have hW := hc.1
  have hS := hc.2.1
  have hY := hc.2.2.1
  have hM := hc.2.2.2.1
  have hP := hW.2.1
  cases him : im x 0 P with
  | false =>
    refine ⟨no1, QC_e ?_, ?_⟩
    · unfold f_X11_caught f_X11_caught_0
      simp (disch := omega) only [obs, cN_mk, ite_true, ite_false, if_true, if_false, q0, C_hasPerson hY, him, l0, l1, no1_e, bI_t, bI_f, ieq_f, ile_t, ile_f, ilt_t, ilt_f]
    · unfold f_X12_caught f_X12_caught_0
      refine QM_s hm fun m2 _ h2 => QM_e h2 ?_
      simp (disch := omega) only [obs, cN_mk, ite_true, ite_false, if_true, if_false, q72, M_isPerson h2.2.2.1, him, l0, l1, no1_e, bI_t, bI_f, ieq_f, ile_t, ile_f, ilt_t, ilt_f]
  | true =>
    obtain ⟨p, -, hp, rfl⟩ := im_t (by omega) (by omega) him
    refine ⟨pr (ax pl C τ σ p), ?_, ?_⟩
    · obtain ⟨m', e, -, hf, -, -, -, -, -, -, a5⟩ := C_ply (j := j) (kn := 0) hc (Or.inl rfl) (WS_le hS (by omega)) hM (Nat.le_refl P) (by omega) (fun e => by omega)
      have a5 := a5 p (by omega)
      rw [if_pos hp] at a5
      refine ⟨m', ?_, hf⟩
      unfold f_X11_caught f_X11_caught_0
      simp (disch := omega) only [obs, cN_mk, ite_true, ite_false, if_true, if_false, q0, C_hasPerson hY, him, l0, l1, no1_e, bI_t, bI_f, ieq_f, ile_t, ile_f, ilt_t, ilt_f, q18, hY.2.1, q52, e, p53, a5]
    · unfold f_X12_caught f_X12_caught_0
      refine QM_s hm fun m2 _ h2 => ?_
      obtain ⟨m', j', r', e, h3, hf, a5, -⟩ := M_tries (r := r1) h2
      have a5 := a5 p (by omega)
      rw [if_pos hp] at a5
      refine ⟨m', j', r', ?_, h3.2.2.2.2.2, hf⟩
      simp (disch := omega) only [obs, cN_mk, ite_true, ite_false, if_true, if_false, q72, M_isPerson h2.2.2.1, him, l0, l1, no1_e, bI_t, bI_f, ieq_f, ile_t, ile_f, ilt_t, ilt_f, e, p89, a5]
end APART
