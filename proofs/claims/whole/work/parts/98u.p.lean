/-! Needs; plans run and performed. -/
section PLANS
variable {n z : Nat} {D D' : Dyn} {m m' m1 : MI} {j j' j1 : MJ} {r r' r1 : MR} {tp tp' : TP} {C P : Nat} {τ σ σ' σ0 : Sg} {lg lg' : LG} {acts lt : Nat} {hs : Nat → Sg} {img : Bool} {σI : Sg} {lgI : LG} {A held held' : Nat} {tx : Nat → Nat → Nat} {ln : Nat → Nat} {cls : CLS} {B : Nat} {pls : Nat → List ST} {dg dg' sn sn' : Nat} {sw sw' : Nat → Nat → Nat} {x y : Int32} {k a b : Nat} {pl : Pl} {LC : MI → MR → Prop} {LM : MI → MJ → Prop}
theorem plS_u {p c s v : Nat} : plS pl τ (uS σ 1 c v) p c s = plS pl τ σ p c s := by
  unfold plS
  rw [uS_n (by omega), uS_n (by omega), uS_n (by omega), uS_n (by omega)]
theorem Q_needs (hc : EC n z D pl LC m r C P τ σ) (hm : EM n z D pl LM m1 j1 C P τ σ) (x y : Int32) : QQ n z D LM m j r m1 j1 r1 (f_X11_needs 0 x y) (f_X12_needs 72 x y) := by
  have hW := hc.1
  have hS := hc.2.1
  have hY := hc.2.2.1
  have hP := hW.2.1
  have hC := hW.1
  have t6 := hW.2.2.2.2.1
  cases him : im x 0 P with
  | false =>
    refine ⟨no1, QC_e ?_, ?_⟩
    · unfold f_X11_needs f_X11_needs_0
      simp (disch := omega) only [obs, cN_mk, ite_true, ite_false, if_true, if_false, q0, C_hasPerson hY, him, l0, l1, no1_e, bI_t, bI_f, ieq_f, ile_t, ile_f, ilt_t, ilt_f]
    · unfold f_X12_needs f_X12_needs_0
      refine QM_s hm fun m2 _ h2 => QM_e h2 ?_
      simp (disch := omega) only [obs, cN_mk, ite_true, ite_false, if_true, if_false, q72, M_isPerson h2.2.2.1, him, l0, l1, no1_e, bI_t, bI_f, ieq_f, ile_t, ile_f, ilt_t, ilt_f]
  | true =>
    obtain ⟨p, -, hp, rfl⟩ := im_t (by omega) (by omega) him
    cases hiy : im y 0 C with
    | false =>
      refine ⟨no1, QC_e ?_, ?_⟩
      · unfold f_X11_needs f_X11_needs_0
        simp (disch := omega) only [obs, cN_mk, ite_true, ite_false, if_true, if_false, q0, C_hasPerson hY, C_hasCorner hY, him, hiy, l0, l1, no1_e, bI_t, bI_f, ieq_f, ile_t, ile_f, ilt_t, ilt_f]
      · unfold f_X12_needs f_X12_needs_0
        refine QM_s hm fun m2 _ h2 => QM_e h2 ?_
        simp (disch := omega) only [obs, cN_mk, ite_true, ite_false, if_true, if_false, q72, M_isPerson h2.2.2.1, M_isCorner h2.2.2.1, him, hiy, l0, l1, no1_e, bI_t, bI_f, ieq_f, ile_t, ile_f, ilt_t, ilt_f]
    | true =>
      obtain ⟨c, -, hcC, rfl⟩ := im_t (by omega) (by omega) hiy
      generalize hF : (fun s => decide (τ 6 0 ≤ plS pl τ σ p c s)) = F
      have pb : ∀ s, plS pl τ σ p c s ≤ 40 := fun s => hc.2.2.2.2.1.2.2 _ _ _ _ _ _
      refine ⟨fst0 F 10 0, ?_, ?_⟩
      · have key : ∀ rem i fuel (mm : MI), i + rem = 10 → rem < fuel → (EC n z D pl LC mm r C P τ σ ∧ FQc m mm ∧ fst0 F (10 - i) i = fst0 F 10 0) → QC n z D m j r (f_X11_needs_20 fuel 0 (Int32.ofNat p) (Int32.ofNat c) (Int32.ofNat i) (mkH n z D mm j r)) (fst0 F 10 0) := by
          refine lpP (fun fuel i mm => f_X11_needs_20 fuel 0 (Int32.ofNat p) (Int32.ofNat c) (Int32.ofNat i) (mkH n z D mm j r)) (fun i mm => EC n z D pl LC mm r C P τ σ ∧ FQc m mm ∧ fst0 F (10 - i) i = fst0 F 10 0) (fun res => QC n z D m j r res (fst0 F 10 0)) 10 ?_ ?_
          · intro f i mm hi ⟨a1, a2, a4⟩
            rw [fst0_s hi] at a4
            obtain ⟨m', e, b1, b2⟩ := C_pbs (j := j) (s := i) a1 hp hcC (by omega)
            have hb := pb i
            by_cases h1 : τ 6 0 ≤ plS pl τ σ p c i
            · right
              rw [if_pos (by rw [← hF]; exact decide_eq_true h1)] at a4
              refine ⟨m', ?_, FQc_tr a2 b2⟩
              rw [f_X11_needs_20.eq_2, ← a4]
              simp (disch := omega) only [obs, cN_mk, ite_true, ite_false, if_true, if_false, l9, ilt_f, q0, e, q18, b1.2.2.1.2.2.1]
            · left
              rw [if_neg (by rw [← hF, decide_eq_true_iff]; exact h1)] at a4
              refine ⟨m', ?_, b1, FQc_tr a2 b2, a4⟩
              rw [f_X11_needs_20.eq_2]
              simp (disch := omega) only [obs, cN_mk, ite_true, ite_false, if_true, if_false, l9, ilt_f, ilt_t, q0, e, q18, b1.2.2.1.2.2.1, l1, i_add]
          · intro f mm ⟨a1, a2, a4⟩
            rw [← a4]
            refine ⟨mm, ?_, a2⟩
            rw [f_X11_needs_20.eq_2]
            simp (disch := omega) only [obs, cN_mk, ite_true, ite_false, if_true, if_false, l9, ilt_t, l0, l1, no1_e, bI_t, bI_f, ieq_f, ile_t, ile_f, ilt_t, ilt_f, fst0, Nat.sub_self]
        have := key 10 0 fu m (by omega) (by unfold fu; omega) ⟨hc, FQc_refl, rfl⟩
        unfold f_X11_needs f_X11_needs_0
        simp (disch := omega) only [obs, cN_mk, ite_true, ite_false, if_true, if_false, q0, C_hasPerson hY, C_hasCorner hY, him, hiy, l0, l1, no1_e, bI_t, bI_f, ieq_f, ile_t, ile_f, ilt_t, ilt_f]
        exact this
      · unfold f_X12_needs f_X12_needs_0
        refine QM_s hm fun m2 _ h2 => ?_
        obtain ⟨m0, e0, h0, f0, hM0, -, -⟩ := M_cpy (r := r1) h2
        have key : ∀ rem i fuel (mm : MI × MJ × MR), i + rem = 10 → rem < fuel → (EM n z D pl LM mm.1 mm.2.1 C P τ σ ∧ FQm m2 mm.1 j1 mm.2.1 r1 mm.2.2 ∧ (∃ v, v ≤ 9 ∧ MS (mm.1 86) (uS σ 1 c v) C P) ∧ fst0 F (10 - i) i = fst0 F 10 0) → QM n z D LM m2 j1 r1 (f_X12_needs_36 fuel 72 (Int32.ofNat p) (Int32.ofNat c) (Int32.ofNat i) (mkH n z D mm.1 mm.2.1 mm.2.2)) (fst0 F 10 0) := by
          refine lpP (fun fuel i (mm : MI × MJ × MR) => f_X12_needs_36 fuel 72 (Int32.ofNat p) (Int32.ofNat c) (Int32.ofNat i) (mkH n z D mm.1 mm.2.1 mm.2.2)) (fun i (mm : MI × MJ × MR) => EM n z D pl LM mm.1 mm.2.1 C P τ σ ∧ FQm m2 mm.1 j1 mm.2.1 r1 mm.2.2 ∧ (∃ v, v ≤ 9 ∧ MS (mm.1 86) (uS σ 1 c v) C P) ∧ fst0 F (10 - i) i = fst0 F 10 0) (fun res => QM n z D LM m2 j1 r1 res (fst0 F 10 0)) 10 ?_ ?_
          · intro f i mm hi ⟨a1, a2, ⟨v, hv, a3⟩, a4⟩
            rw [fst0_s hi] at a4
            obtain ⟨g1, g2⟩ := M_set86 (r := mm.2.2) (i := 2 * c + 1) (x := Int32.ofNat i) a1
            have hM1 : MS (wI mm.1 86 (2 * c + 1) (Int32.ofNat i) 86) (uS (uS σ 1 c v) 1 c i) C P := by rw [wI_eq]; exact MS_spring a3 hC hP hcC
            have eu : uS (uS σ 1 c v) 1 c i = uS σ 1 c i := by
              funext q w
              unfold uS
              split
              · rfl
              · rfl
            rw [eu] at hM1
            obtain ⟨m', j', r', e, hl', hf⟩ := M_pull (n := n) (z := z) (r := mm.2.2) g1.2.2.2.2.1 g1.2.2.2.2.2 (Or.inr rfl) hW (WS_le (WS_spring hS (by omega)) (by omega)) g1.2.2.1 hM1 hp hcC
            rw [uS_s, plS_u] at e
            have hq := FQm_p hf
            have g3 := EM_q g1 hq hl'
            have hb := pb i
            by_cases h1 : τ 6 0 ≤ plS pl τ σ p c i
            · right
              rw [if_pos (by rw [← hF]; exact decide_eq_true h1)] at a4
              refine ⟨m', j', r', ?_, hl', FQm_tr a2 (FQm_tr g2 hq)⟩
              rw [f_X12_needs_36.eq_2, ← a4]
              simp (disch := omega) only [obs, cN_mk, ite_true, ite_false, if_true, if_false, l9, ilt_f, q72, l2, l1, i_mul, i_add, p86, e, l0, p77, g3.2.2.1.2.2.1]
            · left
              rw [if_neg (by rw [← hF, decide_eq_true_iff]; exact h1)] at a4
              refine ⟨(m', j', r'), ?_, g3, FQm_tr a2 (FQm_tr g2 hq), ⟨i, by omega, ?_⟩, a4⟩
              · rw [f_X12_needs_36.eq_2]
                simp (disch := omega) only [obs, cN_mk, ite_true, ite_false, if_true, if_false, l9, ilt_f, ilt_t, q72, l2, l1, i_mul, i_add, p86, e, l0, p77, g3.2.2.1.2.2.1]
              · show MS (m' 86) (uS σ 1 c i) C P
                rw [hf.1 86 (by omega) (by omega) (by omega)]
                exact hM1
          · intro f mm ⟨a1, a2, a3, a4⟩
            rw [← a4]
            refine ⟨mm.1, mm.2.1, mm.2.2, ?_, a1.2.2.2.2.2, a2⟩
            rw [f_X12_needs_36.eq_2]
            simp (disch := omega) only [obs, cN_mk, ite_true, ite_false, if_true, if_false, l9, ilt_t, l0, l1, no1_e, bI_t, bI_f, ieq_f, ile_t, ile_f, ilt_t, ilt_f, fst0, Nat.sub_self]
        have := key 10 0 fu (m0, j1, r1) (by omega) (by unfold fu; omega) ⟨h0, f0, ⟨σ 1 c, (hS.1 c hcC).2, by rw [uS_id]; exact hM0⟩, rfl⟩
        simp (disch := omega) only [obs, cN_mk, ite_true, ite_false, if_true, if_false, q72, M_isPerson h2.2.2.1, M_isCorner h2.2.2.1, him, hiy, l0, l1, no1_e, bI_t, bI_f, ieq_f, ile_t, ile_f, ilt_t, ilt_f, e0]
        exact this
/-! a plan performed -/
abbrev PS : Type := Sg × LG × Nat × (Nat → Sg) × Nat
def aS (pl : Pl) (C P : Nat) (τ : Sg) (s : PS) (t : ST) : PS := (sF pl C P τ s.1 t.1 t.2.1 t.2.2, lF pl C P τ s.1 s.2.1 t.1, min 40 (s.2.2.1 + 1), kp s.2.2.1 s.2.2.2.1 s.1, (s.2.2.2.2 + 1) % 40)
def aN (pl : Pl) (C P : Nat) (τ : Sg) (ps : List ST) (s : PS) : Nat → PS
  | 0 => s
  | i + 1 => aS pl C P τ (aN pl C P τ ps s i) (ps.getD i (0, 0, 0))
/-- the first that fails, or the end -/
def fq (f : Nat → Bool) : Nat → Nat → Nat
  | 0, i => i
  | rem + 1, i => if f i = true then fq f rem (i + 1) else i
theorem fq_s {f : Nat → Bool} {N i : Nat} (h : i < N) : fq f (N - i) i = if f i = true then fq f (N - (i + 1)) (i + 1) else i := by
  obtain ⟨k, hk⟩ : ∃ k, N - i = k + 1 := ⟨N - i - 1, by omega⟩
  rw [hk, fq, show N - (i + 1) = k by omega]
theorem fq_le {f : Nat → Bool} : ∀ rem i, fq f rem i ≤ i + rem
  | 0, i => Nat.le_refl _
  | rem + 1, i => by
    rw [fq]
    split
    · have := fq_le (f := f) rem (i + 1)
      omega
    · omega
def cN' (C P : Nat) (s : PS) (t : ST) : Bool := cB C P s.1 t.1 t.2.1 t.2.2
theorem C_perf {ps : List ST} {o : Nat} {F : Nat → PS} {Q : Nat} (hl : ps.length ≤ 16) (hok : ∀ s ∈ ps, okS s) (hF : ∀ i, F (i + 1) = aS (plw held cls) C P τ (F i) (ps.getD i (0, 0, 0))) : ∀ rem i fuel n z D m r, i + rem = ps.length → rem < fuel → fq (fun i => cN' C P (F i) (ps.getD i (0, 0, 0))) rem i = Q → PG D m o (ps.map cdS) → (∃ p, p < B ∧ r 66 p = some o) → n + 6 * rem + 6 < 1000000 → WIv C P τ (F i).1 (F i).2.1 (F i).2.2.1 (F i).2.2.2.1 img σI lgI A held tx ln cls B pls dg sn sw → CIv n D m r tp C P τ (F i).1 (F i).2.1 (F i).2.2.1 (F i).2.2.2.2 (F i).2.2.2.1 img σI lgI A held cls B pls dg sn sw → ∃ n' z' D' m' r', f_X11_perform_26 fuel 0 o (Int32.ofNat i) (mkH n z D m j r) = some (Int32.ofNat Q, mkH n' z' D' m' j r') ∧ n ≤ n' ∧ n' ≤ n + 6 * rem ∧ z ≤ z' ∧ z' ≤ z + 36 * rem ∧ WIv C P τ (F Q).1 (F Q).2.1 (F Q).2.2.1 (F Q).2.2.2.1 img σI lgI A held tx ln cls B pls dg sn sw ∧ CIv n' D' m' r' tp C P τ (F Q).1 (F Q).2.1 (F Q).2.2.1 (F Q).2.2.2.2 (F Q).2.2.2.1 img σI lgI A held cls B pls dg sn sw ∧ FM m m' j j r r' := by
  intro rem
  induction rem with
  | zero =>
    intro i fuel n z D m r hi hf hq hg _ hn hw hc
    obtain ⟨f, rfl⟩ : ∃ f, fuel = f + 1 := ⟨fuel - 1, by omega⟩
    have hqi : i = Q := hq
    subst hqi
    have hlen : aLen (mkH n z D m j r) o = some (Int32.ofNat ps.length) := by
      have := hg.1
      rw [List.length_map] at this
      exact aLen_mk this (by omega)
    refine ⟨n, z, D, m, r, ?_, by omega, by omega, by omega, by omega, hw, hc, ⟨fun _ _ _ => rfl, fun _ _ => rfl, fun _ _ => rfl⟩⟩
    rw [f_X11_perform_26.eq_2]
    refine ck_ok ?_ (Nat.le_refl _) (Nat.le_refl _)
    simp (disch := omega) only [obs, cN_mk, ite_true, ite_false, if_true, if_false, hlen, ile_t]
    exact congrArg (fun v => some (Int32.ofNat v, (mkH n z D m j r))) (by omega)
  | succ rem ih =>
    intro i fuel n z D m r hi hf hq hg hro hn hw hc
    obtain ⟨f, rfl⟩ : ∃ f, fuel = f + 1 := ⟨fuel - 1, by omega⟩
    have hip : i < ps.length := by omega
    have hlen : aLen (mkH n z D m j r) o = some (Int32.ofNat ps.length) := by
      have := hg.1
      rw [List.length_map] at this
      exact aLen_mk this (by omega)
    have e3 := C_stepAt (n := n) (z := z) (D := D) (j := j) (r := r) hg hip
    have ok := okS_at hok hip
    obtain ⟨k1, k2, k3⟩ := cdS_d ok
    rw [fq] at hq
    have hFi := hF i
    unfold aS at hFi
    unfold cN' at hq
    generalize ps.getD i (0, 0, 0) = s at *
    obtain ⟨o1, o2, o3⟩ := ok
    have cb := C_canBe (n := n) (z := z) (D := D) (j := j) (r := r) (k := s.1) (a := s.2.1) (b := s.2.2) hw.1 (WS_le hw.2.1 (by omega)) hc.1.2.1 (Or.inl rfl) hc.2.1 o1 (by omega) (by omega)
    cases hcb : cB C P (F i).1 s.1 s.2.1 s.2.2 with
    | false =>
      rw [hcb] at cb hq
      have hqi : i = Q := hq
      subst hqi
      refine ⟨n, z, D, m, r, ?_, by omega, by omega, by omega, by omega, hw, hc, ⟨fun _ _ _ => rfl, fun _ _ => rfl, fun _ _ => rfl⟩⟩
      rw [f_X11_perform_26.eq_2]
      refine ck_ok ?_ (Nat.le_refl _) (Nat.le_refl _)
      simp (disch := omega) only [obs, cN_mk, ite_true, ite_false, if_true, if_false, hlen, ile_f, e3, f_X11_kindOf, f_X11_kindOf_0, f_X11_firstOf, f_X11_firstOf_0, f_X11_secondOf, f_X11_secondOf_0, l100, l10, k1, k2, k3, q0, cb, l0, l1, no1_e, bI_t, bI_f, ieq_f, ile_t, ile_f, ilt_t, ilt_f]
    | true =>
      rw [hcb] at cb hq
      rw [if_pos rfl] at hq
      obtain ⟨n1, z1, D1, m1, r1, e1, b1, b2, b3, b4, hc1, f1, -⟩ := C_actI (z := z) (j := j) (k := s.1) (a := s.2.1) (b := s.2.2) hw hc o1 hcb (by omega)
      have hw1 := WI_act (k := s.1) (a := s.2.1) (b := s.2.2) hw hc.2.2.2.1.2.2.2.1 o1 hcb
      obtain ⟨p, hp, hro⟩ := hro
      have hr1 : r1 66 p = some o := by rw [f1.2.2 66 (by omega)]; exact hro
      obtain ⟨o', eo', hpo⟩ := hc1.1.2.2.2.2.1.2 p hp
      obtain ⟨o0, eo0, hpo0⟩ := hc.1.2.2.2.2.1.2 p hp
      have ho' : o' = o := by rw [hr1] at eo'; cases eo'; rfl
      have ho0 : o0 = o := by rw [hro] at eo0; cases eo0; rfl
      subst ho'
      subst ho0
      have hco : PG D1 m1 o0 (ps.map cdS) := by
        obtain ⟨g1, g2, g3, g4⟩ := hpo
        obtain ⟨q1, q2, q3, q4⟩ := hpo0
        obtain ⟨u1, u2, u3, u4⟩ := hg
        have el : ((pls p).map cdS).length = (ps.map cdS).length := by
          rw [q1] at u1
          simpa [aT] using u1
        refine ⟨by rw [g1, el], u2, u3, fun q hq => ?_⟩
        rw [g4 q (by omega), ← u4 q hq, ← q4 q (by omega)]
      obtain ⟨n2, z2, D2, m2, r2, e2, d1, d2, d3, d4, hw2, hc2, f2⟩ := ih (i + 1) f n1 z1 D1 m1 r1 (by omega) (by omega) hq hco ⟨p, hp, hr1⟩ (by omega) (by rw [hFi]; exact hw1) (by rw [hFi]; exact hc1)
      refine ⟨n2, z2, D2, m2, r2, ?_, by omega, by omega, by omega, by omega, hw2, hc2, FM_tr f1 f2⟩
      rw [f_X11_perform_26.eq_2]
      refine ck_ok ?_ (by omega) (by omega)
      simp (disch := omega) only [obs, cN_mk, ite_true, ite_false, if_true, if_false, hlen, ile_f, e3, f_X11_kindOf, f_X11_kindOf_0, f_X11_firstOf, f_X11_firstOf_0, f_X11_secondOf, f_X11_secondOf_0, l100, l10, k1, k2, k3, q0, cb, l0, l1, no1_e, bI_t, bI_f, ieq_f, ile_t, ile_f, ilt_t, ilt_f, e1, cA_mk b1 b3]
      refine ck_ok ?_ (by omega) (by omega)
      rw [i_add]
      exact e2
theorem M_goStepI (hW : WY C P τ) (hS : WS C P 999 σ) (hLM : LMok n z D (plw held cls) (LMd A held tx ln cls)) (hB : WPl B pls) (h : MIv m j tp C P τ σ lg acts hs img σI lgI A held tx ln cls B pls dg sn sw) (hg : ∀ k, k < acts → hs k 7 0 ≤ σ 7 0) {R : Nat} (hk : k ≤ 3) (hR : SR m R k a b) (hcb : cB C P σ k a b = true) : ∃ v m' j' r', f_X12_goStep 72 85 (Int32.ofNat R) (mkH n z D m j r) = some (v, mkH n z D m' j' r') ∧ MIv m' j' tp C P τ (sF (plw held cls) C P τ σ k a b) (lF (plw held cls) C P τ σ lg k) acts hs img σI lgI A held tx ln cls B pls dg sn sw ∧ FN m m' j j' r r' := by
  obtain ⟨hR1, r0, r1', r2'⟩ := hR
  have hP := hW.2.1
  unfold f_X12_goStep f_X12_goStep_0
  rcases (show k = 0 ∨ k = 1 ∨ k = 2 ∨ k = 3 by omega) with rfl | rfl | rfl | rfl
  · have hc := of_decide_eq_true hcb
    obtain ⟨m', j', r', e, hv, hf, -⟩ := M_dayI (r := r) hW ⟨hS.1, hS.2.1, hS.2.2.1, hS.2.2.2.1, by omega⟩ hLM hB h hg
    have tk64 : (dy (plw held cls) C τ σ P).2.1 < 64 := Nat.lt_of_lt_of_le (dy_lt (pl := plw held cls) (σ := σ) hW P (Nat.le_refl P)).2.1 (pow6 hP)
    refine ⟨Int32.ofNat (popc (dy (plw held cls) C τ σ P).2.1), m', j', r', ?_, hv, hf⟩
    simp (disch := omega) only [obs, cN_mk, ite_true, ite_false, if_true, if_false, q72, p83, r0, l0, e, bc64]
  · obtain ⟨m', e, hM, f1, f2⟩ := M_lays (n := n) (z := z) (D := D) (j := j) (r := r) (pl := plw held cls) (w := 85) (Or.inl rfl) hW (WS_le hS (by omega)) h.2.1 hcb
    rw [if_neg (by omega)] at r1'
    rw [if_pos rfl] at r2'
    refine ⟨Int32.ofNat 0, m', j, r, ?_, MI_now hLM hB h hM (by rw [sF_7 (by omega)]; rfl) f1 f2, ⟨fun a ha => f1 a (by omega), fun _ _ => rfl⟩⟩
    simp (disch := omega) only [obs, cN_mk, ite_true, ite_false, if_true, if_false, q72, p83, r0, l0, l1, no1_e, bI_t, bI_f, ieq_f, ile_t, ile_f, ilt_t, ilt_f, l2, i_add, r1', r2', e]
  · obtain ⟨m', e, hM, f1, f2⟩ := M_renews (n := n) (z := z) (D := D) (j := j) (r := r) (pl := plw held cls) (w := 85) (Or.inl rfl) hW (WS_le hS (by omega)) h.2.1 hcb
    rw [if_neg (by omega)] at r1'
    refine ⟨Int32.ofNat 0, m', j, r, ?_, MI_now hLM hB h hM (by rw [sF_7 (by omega)]; rfl) f1 f2, ⟨fun a ha => f1 a (by omega), fun _ _ => rfl⟩⟩
    simp (disch := omega) only [obs, cN_mk, ite_true, ite_false, if_true, if_false, q72, p83, r0, l0, l1, no1_e, bI_t, bI_f, ieq_f, ile_t, ile_f, ilt_t, ilt_f, l2, i_add, r1', e]
  · have hc := of_decide_eq_true hcb
    obtain ⟨m', e, hM, f1, f2⟩ := M_turns (n := n) (z := z) (D := D) (j := j) (r := r) (w := 85) (Or.inl rfl) hW (WS_le hS (by omega)) h.2.1 hc
    rw [if_neg (by omega)] at r1'
    refine ⟨Int32.ofNat 0, m', j, r, ?_, MI_now hLM hB h hM (show uS σ 4 a (1 - σ 4 a) 7 0 = σ 7 0 from uS_n (by omega)) f1 f2, ⟨fun a ha => f1 a (by omega), fun _ _ => rfl⟩⟩
    simp (disch := omega) only [obs, cN_mk, ite_true, ite_false, if_true, if_false, q72, p83, r0, l0, l1, no1_e, bI_t, bI_f, ieq_f, ile_t, ile_f, ilt_t, ilt_f, l2, i_add, r1', e]
theorem SR_of (hw : WPl B pls) (hv : PLm m B pls) {p i : Nat} (hp : p < B) (hi : i < (pls p).length) : SR m (3 * (16 * p + i)) ((pls p).getD i (0, 0, 0)).1 ((pls p).getD i (0, 0, 0)).2.1 ((pls p).getD i (0, 0, 0)).2.2 := by
  have h1 := hw.1
  have h2 := hw.2 p hp
  have h3 := (hv.2 p hp).2 i hi
  exact ⟨by omega, by have := h3 0 (by omega); rw [Nat.add_zero] at this; exact this, by have := h3 1 (by omega); exact this, by have := h3 2 (by omega); exact this⟩
theorem M_perf {p : Nat} {F : Nat → PS} {Q : Nat} (hD : ∀ a, 1000000 ≤ a → D a = none) (hp : p < B) (hP0 : 0 < P) (hF : ∀ i, F (i + 1) = aS (plw held cls) C P τ (F i) ((pls p).getD i (0, 0, 0))) : ∀ rem i fuel m j r, i + rem = (pls p).length → rem < fuel → fq (fun i => cN' C P (F i) ((pls p).getD i (0, 0, 0))) rem i = Q → WIv C P τ (F i).1 (F i).2.1 (F i).2.2.1 (F i).2.2.2.1 img σI lgI A held tx ln cls B pls dg sn sw → MIv m j tp C P τ (F i).1 (F i).2.1 (F i).2.2.1 (F i).2.2.2.1 img σI lgI A held tx ln cls B pls dg sn sw → ∃ m' j' r', f_X12_perform_24 fuel 72 (Int32.ofNat p) (Int32.ofNat i) (mkH n z D m j r) = some (Int32.ofNat Q, mkH n z D m' j' r') ∧ MIv m' j' tp C P τ (F Q).1 (F Q).2.1 (F Q).2.2.1 (F Q).2.2.2.1 img σI lgI A held tx ln cls B pls dg sn sw ∧ FN m m' j j' r r' := by
  intro rem
  induction rem with
  | zero =>
    intro i fuel m j r hi hf hq hw hv
    obtain ⟨f, rfl⟩ : ∃ f, fuel = f + 1 := ⟨fuel - 1, by omega⟩
    have hqi : i = Q := hq
    subst hqi
    have hB4 := hw.2.2.2.2.2.2.1.1
    have y84 := (hv.1.2.2.2.2.1.2 p hp).1
    have hl16 := (hw.2.2.2.2.2.2.1.2 p hp).2.1
    refine ⟨m, j, r, ?_, hv, ⟨fun _ _ => rfl, fun _ _ => rfl⟩⟩
    rw [f_X12_perform_24.eq_2]
    simp (disch := omega) only [obs, cN_mk, ite_true, ite_false, if_true, if_false, q72, p84, y84, ile_t]
  | succ rem ih =>
    intro i fuel m j r hi hf hq hw hv
    obtain ⟨f, rfl⟩ : ∃ f, fuel = f + 1 := ⟨fuel - 1, by omega⟩
    have hip : i < (pls p).length := by omega
    have hB := hw.2.2.2.2.2.2.1
    have hB4 := hB.1
    have hl16 := (hB.2 p hp).2.1
    have y84 := (hv.1.2.2.2.2.1.2 p hp).1
    have hSR := SR_of hB hv.1.2.2.2.2.1 hp hip
    have ok := okS_at (hB.2 p hp).2.2 hip
    have hLM := LMok_d (n := n) (z := z) hD hw.2.2.2.2.2.1
    rw [fq] at hq
    have hFi := hF i
    unfold aS at hFi
    unfold cN' at hq
    generalize hs' : (pls p).getD i (0, 0, 0) = s at *
    obtain ⟨o1, o2, o3⟩ := ok
    have cb := M_canStep (n := n) (z := z) (D := D) (j := j) (r := r) (w := 85) (k := s.1) (a := s.2.1) (b := s.2.2) (Or.inl rfl) hw.1 (WS_le hw.2.1 (by omega)) hv.1.2.1 hv.2.1 hP0 o1 (by omega) (by omega) hSR
    cases hcb : cB C P (F i).1 s.1 s.2.1 s.2.2 with
    | false =>
      rw [hcb] at cb hq
      have hqi : i = Q := hq
      subst hqi
      refine ⟨m, j, r, ?_, hv, ⟨fun _ _ => rfl, fun _ _ => rfl⟩⟩
      rw [f_X12_perform_24.eq_2]
      simp (disch := omega) only [obs, cN_mk, ite_true, ite_false, if_true, if_false, q72, p84, y84, ile_f, l3, l16, i_mul, i_add, cb, l0, l1, no1_e, bI_t, bI_f, ieq_f, ile_t, ile_f, ilt_t, ilt_f]
    | true =>
      rw [hcb] at cb hq
      rw [if_pos rfl] at hq
      have ha : (F i).2.2.1 ≤ 40 := hv.2.2.2.2.1
      obtain ⟨m1, e1, hv1, f1⟩ := M_remI (n := n) (z := z) (r := r) hw hD hv
      have hSR1 : SR m1 (3 * (16 * p + i)) s.1 s.2.1 s.2.2 := by
        have := SR_of hB hv1.1.2.2.2.2.1 hp hip
        rw [hs'] at this
        exact this
      obtain ⟨v, m2, j2, r2, e2, hv2, f2⟩ := M_goStepI (n := n) (z := z) (r := r) hw.1 hw.2.1 hLM hB hv1 (fun k hk => (kp_gap hw.2.2.2.1 ha k hk).1) o1 hSR1 hcb
      have hw1 := WI_act (k := s.1) (a := s.2.1) (b := s.2.2) hw ha o1 hcb
      obtain ⟨m3, j3, r3, e3, hv3, f3⟩ := ih (i + 1) f m2 j2 r2 (by omega) (by omega) hq (by rw [hFi]; exact hw1) (by rw [hFi]; exact hv2)
      refine ⟨m3, j3, r3, ?_, hv3, FN_tr (FN_tr f1 f2) f3⟩
      rw [f_X12_perform_24.eq_2]
      simp (disch := omega) only [obs, cN_mk, ite_true, ite_false, if_true, if_false, q72, p84, y84, ile_f, l3, l16, i_mul, i_add, cb, l0, l1, no1_e, bI_t, bI_f, ieq_f, ile_t, ile_f, ilt_t, ilt_f, e1, e2, e3]
theorem K_perform (hw : WIv C P τ σ lg acts hs img σI lgI A held tx ln cls B pls dg sn sw) (hc : CIv n D m r tp C P τ σ lg acts lt hs img σI lgI A held cls B pls dg sn sw) (hv : MIv m j tp C P τ σ lg acts hs img σI lgI A held tx ln cls B pls dg sn sw) (hn : n + 200 ≤ 1000000) (x : Int32) : CALL n z D m j r (f_X11_perform 0 x) (f_X12_perform 72 x) := by
  have hW := hw.1
  have hP := hW.2.1
  have hY := hc.1.2.1
  have hB := hw.2.2.2.2.2.2.1
  have hB4 := hB.1
  obtain ⟨b1, b2⟩ := hc.1.2.2.2.2.1
  cases him : im x 0 B with
  | false =>
    refine CALL_q hw hc hv (fun m1 hm1 hv1 => ⟨no1, QC_e ?_, ?_⟩) (by omega)
    · unfold f_X11_perform f_X11_perform_0
      refine ck_ok ?_ (Nat.le_refl _) (Nat.le_refl _)
      simp (disch := omega) only [obs, cN_mk, ite_true, ite_false, if_true, if_false, q0, C_hasPlan b1, him, l0, l1, no1_e, bI_t, bI_f, ieq_f, ile_t, ile_f, ilt_t, ilt_f]
    · unfold f_X12_perform f_X12_perform_0
      refine QM_s hm1 fun m2 he h2 => QM_e h2 ?_
      have y30 : m2 72 30 = Int32.ofNat B := by rw [he, wI_sn (by omega)]; exact hv1.1.2.2.2.2.1.1
      simp (disch := omega) only [obs, cN_mk, ite_true, ite_false, if_true, if_false, q72, M_isPlan y30, him, l0, l1, no1_e, bI_t, bI_f, ieq_f, ile_t, ile_f, ilt_t, ilt_f]
  | true =>
    obtain ⟨p, -, hp, rfl⟩ := im_t (by omega) (by omega) him
    by_cases hP0 : P = 0
    · refine CALL_q hw hc hv (fun m1 hm1 hv1 => ⟨no1, QC_e ?_, ?_⟩) (by omega)
      · unfold f_X11_perform f_X11_perform_0
        refine ck_ok ?_ (Nat.le_refl _) (Nat.le_refl _)
        simp (disch := omega) only [obs, cN_mk, ite_true, ite_false, if_true, if_false, q0, C_hasPlan b1, him, l0, l1, no1_e, bI_t, bI_f, ieq_f, ile_t, ile_f, ilt_t, ilt_f, C_hasCity hY hP, hP0, Nat.lt_irrefl, decide_false]
      · unfold f_X12_perform f_X12_perform_0
        refine QM_s hm1 fun m2 he h2 => QM_e h2 ?_
        have y30 : m2 72 30 = Int32.ofNat B := by rw [he, wI_sn (by omega)]; exact hv1.1.2.2.2.2.1.1
        simp (disch := omega) only [obs, cN_mk, ite_true, ite_false, if_true, if_false, q72, M_isPlan y30, him, l0, l1, no1_e, bI_t, bI_f, ieq_f, ile_t, ile_f, ilt_t, ilt_f, h2.2.2.1.2.1, hP0]
    have hd : decide (0 < P) = true := decide_eq_true (by omega)
    obtain ⟨o, ho, hg⟩ := b2 p hp
    have hl := hB.2 p hp
    generalize hF : aN (plw held cls) C P τ (pls p) (σ, lg, acts, hs, lt) = F
    have hF0 : F 0 = (σ, lg, acts, hs, lt) := by rw [← hF]; rfl
    have hFs : ∀ i, F (i + 1) = aS (plw held cls) C P τ (F i) ((pls p).getD i (0, 0, 0)) := fun i => by rw [← hF]; rfl
    generalize hQ : fq (fun i => cN' C P (F i) ((pls p).getD i (0, 0, 0))) (pls p).length 0 = Q
    obtain ⟨n1, z1, D1, m1, r1, e1, d1, d2, d3, d4, hw1, hc1, f1⟩ := C_perf (j := j) (o := o) hl.2.1 hl.2.2 hFs (pls p).length 0 fu n z D m r (by omega) (by unfold fu; omega) hQ hg ⟨p, hp, ho⟩ (by omega) (by rw [hF0]; exact hw) (by rw [hF0]; exact hc)
    have hD1 := hD_of hc1 (by omega)
    have hLM := LMok_d (n := n1) (z := z1) hD1 hw.2.2.2.2.2.1
    have hv1 := MI_c hv f1.1 (f1.2.1 87 (by omega))
    have hv0 := MI_0 (x := Int32.ofNat 0) hLM hB hv1
    obtain ⟨m2, j2, r2, e2, hv2, f2⟩ := M_perf (n := n1) (z := z1) hD1 hp (by omega) hFs (pls p).length 0 fu (wI m1 72 0 (Int32.ofNat 0)) j r1 (by omega) (by unfold fu; omega) hQ (by rw [hF0]; exact hw) (by rw [hF0]; exact hv0)
    have fn := FN_tr (FN_0 (m := m1) (x := Int32.ofNat 0) (j := j) (r := r1)) f2
    have y30 : (wI m1 72 0 (Int32.ofNat 0)) 72 30 = Int32.ofNat B := hv0.1.2.2.2.2.1.1
    have y27 : (wI m1 72 0 (Int32.ofNat 0)) 72 27 = Int32.ofNat P := hv0.1.2.1.2.1
    refine ⟨Int32.ofNat Q, n1, z1, D1, m1, j, r1, m2, j2, r2, ?_, ?_, ⟨d1, by omega⟩, ⟨d3, by omega⟩, tp, C, P, τ, _, _, _, _, _, img, σI, lgI, A, held, tx, ln, cls, B, pls, dg, sn, sw, hw1, CI_m hc1 fn.1 fn.2, hv2⟩
    · unfold f_X11_perform f_X11_perform_0
      refine ck_ok ?_ d1 d3
      simp (disch := omega) only [obs, cN_mk, ite_true, ite_false, if_true, if_false, q0, C_hasPlan b1, him, l0, l1, no1_e, bI_t, bI_f, ieq_f, ile_t, ile_f, ilt_t, ilt_f, C_hasCity hY hP, hd, p66, ho]
      exact e1
    · unfold f_X12_perform f_X12_perform_0
      rw [thr0]
      simp (disch := omega) only [obs, cN_mk, ite_true, ite_false, if_true, if_false, q72, l0, l1, no1_e, bI_t, bI_f, ieq_f, ile_t, ile_f, ilt_t, ilt_f, M_isPlan y30, him, y27]
      exact e2
end PLANS
