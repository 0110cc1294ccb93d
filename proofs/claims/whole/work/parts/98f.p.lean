/-! Questions about days to come. -/
/-- the first of i .. i + rem - 1, or none -/
def fst0 (f : Nat → Bool) : Nat → Nat → Int32
  | 0, _ => no1
  | rem + 1, i => if f i = true then Int32.ofNat i else fst0 f rem (i + 1)
/-- the state behind so many days -/
def dn (pl : Pl) (C P : Nat) (τ σ : Sg) : Nat → Sg
  | 0 => σ
  | k + 1 => nxt (ax pl C τ (dn pl C P τ σ k)) P (dn pl C P τ σ k)
theorem i_hasf {s c : Nat} (hs : s < 64) (hc : c < 7) (h : s.testBit c = false) : ((Int32.ofNat s >>> (Int32.ofNat c &&& Int32.ofNat 31)) &&& Int32.ofNat 1) = Int32.ofNat 0 := by
  have : ∀ s, s < 64 → ∀ c, c < 7 → s.testBit c = false → ((Int32.ofNat s >>> (Int32.ofNat c &&& Int32.ofNat 31)) &&& Int32.ofNat 1) = Int32.ofNat 0 := by decide +kernel
  exact this s hs c hc h
section LATER
variable {n z : Nat} {D : Dyn} {m m1 m' : MI} {j j1 j' : MJ} {r r1 r' : MR} {pl : Pl} {LC : MI → MR → Prop} {LM : MI → MJ → Prop} {C P : Nat} {τ σ σ0 : Sg} {w p c s N cnt : Nat} {x y : Int32}
theorem WS_dn (hW : WY C P τ) {d : Nat} (hS : WS C P d σ) : ∀ k, WS C P (d + k) (dn pl C P τ σ k)
  | 0 => hS
  | k + 1 => WS_nxt hW (WS_dn hW hS k)
theorem fst0_s {f : Nat → Bool} {N i : Nat} (h : i < N) : fst0 f (N - i) i = if f i = true then Int32.ofNat i else fst0 f (N - (i + 1)) (i + 1) := by
  obtain ⟨k, hk⟩ : ∃ k, N - i = k + 1 := ⟨N - i - 1, by omega⟩
  rw [hk, fst0, show N - (i + 1) = k by omega]
theorem Q_lasts (hc : EC n z D pl LC m r C P τ σ) (hm : EM n z D pl LM m1 j1 C P τ σ) (x : Int32) : QQ n z D LM m j r m1 j1 r1 (f_X11_lasts 0 x) (f_X12_lasts 72 x) := by
  have hW := hc.1
  have hS := hc.2.1
  have hY := hc.2.2.1
  have hC := hW.1
  cases him : im x 0 C with
  | false =>
    refine ⟨no1, QC_e ?_, ?_⟩
    · unfold f_X11_lasts f_X11_lasts_0
      simp (disch := omega) only [obs, cN_mk, ite_true, ite_false, if_true, if_false, q0, C_hasCorner hY, him, l0, l1, no1_e, bI_t, bI_f, ieq_f, ile_t, ile_f, ilt_t, ilt_f]
    · unfold f_X12_lasts f_X12_lasts_0
      refine QM_s hm fun m2 _ h2 => QM_e h2 ?_
      simp (disch := omega) only [obs, cN_mk, ite_true, ite_false, if_true, if_false, q72, M_isCorner h2.2.2.1, him, l0, l1, no1_e, bI_t, bI_f, ieq_f, ile_t, ile_f, ilt_t, ilt_f]
  | true =>
    obtain ⟨c, -, hcC, rfl⟩ := im_t (by omega) (by omega) him
    have hd := fun k => WS_dn (pl := pl) hW hS k
    have hb : ∀ k, dn pl C P τ σ k 1 c ≤ 9 := fun k => ((hd k).1 c hcC).2
    refine ⟨fst0 (fun k => decide (dn pl C P τ σ k 1 c = 0)) 61 0, ?_, ?_⟩
    · obtain ⟨m0, e0, h0, f0, hM0, -⟩ := C_cpy (j := j) hc
      have key : ∀ rem i fuel (mm : MI), i + rem = 61 → rem < fuel → (EC n z D pl LC mm r C P τ σ ∧ FQc m mm ∧ CS mm 33 (dn pl C P τ σ i) C P ∧ fst0 (fun k => decide (dn pl C P τ σ k 1 c = 0)) (61 - i) i = fst0 (fun k => decide (dn pl C P τ σ k 1 c = 0)) 61 0) → QC n z D m j r (f_X11_lasts_23 fuel 0 (Int32.ofNat c) (Int32.ofNat i) (mkH n z D mm j r)) (fst0 (fun k => decide (dn pl C P τ σ k 1 c = 0)) 61 0) := by
        refine lpP (fun fuel i mm => f_X11_lasts_23 fuel 0 (Int32.ofNat c) (Int32.ofNat i) (mkH n z D mm j r)) (fun i mm => EC n z D pl LC mm r C P τ σ ∧ FQc m mm ∧ CS mm 33 (dn pl C P τ σ i) C P ∧ fst0 (fun k => decide (dn pl C P τ σ k 1 c = 0)) (61 - i) i = fst0 (fun k => decide (dn pl C P τ σ k 1 c = 0)) 61 0) (fun res => QC n z D m j r res (fst0 (fun k => decide (dn pl C P τ σ k 1 c = 0)) 61 0)) 61 ?_ ?_
        · intro f i mm hi ⟨a1, a2, a3, a4⟩
          rw [fst0_s hi] at a4
          by_cases h1 : dn pl C P τ σ i 1 c = 0
          · right
            rw [if_pos (decide_eq_true h1)] at a4
            refine ⟨mm, ?_, a2⟩
            rw [f_X11_lasts_23.eq_2, ← a4]
            simp (disch := omega) only [obs, cN_mk, ite_true, ite_false, if_true, if_false, l60, ilt_f, q0, q33, p35, CS33 a3, h1, l0, l1, no1_e, bI_t, bI_f, ieq_f, ile_t, ile_f, ilt_t, ilt_f]
          · left
            rw [if_neg (by rw [decide_eq_true_iff]; exact h1)] at a4
            obtain ⟨m', e, b1, b2, b3, -⟩ := C_day33 (j := j) (x := Int32.ofNat 0) (y := Int32.ofNat 0) a1 (WS_le (hd i) (by omega)) a3
            refine ⟨m', ?_, b1, FQc_tr a2 b2, b3, a4⟩
            have hbi := hb i
            rw [f_X11_lasts_23.eq_2]
            simp (disch := omega) only [obs, cN_mk, ite_true, ite_false, if_true, if_false, l60, ilt_f, q0, q33, p35, CS33 a3, l0, l1, no1_e, bI_t, bI_f, ieq_f, ile_t, ile_f, ilt_t, ilt_f, e, i_add]
        · intro f mm ⟨a1, a2, a3, a4⟩
          rw [← a4]
          refine ⟨mm, ?_, a2⟩
          rw [f_X11_lasts_23.eq_2]
          simp (disch := omega) only [obs, cN_mk, ite_true, ite_false, if_true, if_false, l60, ilt_t, l0, l1, no1_e, bI_t, bI_f, ieq_f, ile_t, ile_f, ilt_t, ilt_f, fst0, Nat.sub_self]
      have := key 61 0 fu m0 (by omega) (by unfold fu; omega) ⟨h0, f0, hM0, rfl⟩
      unfold f_X11_lasts f_X11_lasts_0
      simp (disch := omega) only [obs, cN_mk, ite_true, ite_false, if_true, if_false, q0, C_hasCorner hY, him, l0, l1, no1_e, bI_t, bI_f, ieq_f, ile_t, ile_f, ilt_t, ilt_f, q33, e0]
      exact this
    · unfold f_X12_lasts f_X12_lasts_0
      refine QM_s hm fun m2 _ h2 => ?_
      obtain ⟨m0, e0, h0, f0, hM0, h31, -⟩ := M_cpy (r := r1) h2
      have key : ∀ rem i fuel (mm : MI × MJ × MR), i + rem = 61 → rem < fuel → (EM n z D pl LM mm.1 mm.2.1 C P τ σ ∧ FQm m2 mm.1 j1 mm.2.1 r1 mm.2.2 ∧ MS (mm.1 86) (dn pl C P τ σ i) C P ∧ mm.1 86 31 = Int32.ofNat (min 60 i) ∧ fst0 (fun k => decide (dn pl C P τ σ k 1 c = 0)) (61 - i) i = fst0 (fun k => decide (dn pl C P τ σ k 1 c = 0)) 61 0) → QM n z D LM m2 j1 r1 (f_X12_lasts_28 fuel 72 (Int32.ofNat c) (Int32.ofNat i) (mkH n z D mm.1 mm.2.1 mm.2.2)) (fst0 (fun k => decide (dn pl C P τ σ k 1 c = 0)) 61 0) := by
        refine lpP (fun fuel i (mm : MI × MJ × MR) => f_X12_lasts_28 fuel 72 (Int32.ofNat c) (Int32.ofNat i) (mkH n z D mm.1 mm.2.1 mm.2.2)) (fun i (mm : MI × MJ × MR) => EM n z D pl LM mm.1 mm.2.1 C P τ σ ∧ FQm m2 mm.1 j1 mm.2.1 r1 mm.2.2 ∧ MS (mm.1 86) (dn pl C P τ σ i) C P ∧ mm.1 86 31 = Int32.ofNat (min 60 i) ∧ fst0 (fun k => decide (dn pl C P τ σ k 1 c = 0)) (61 - i) i = fst0 (fun k => decide (dn pl C P τ σ k 1 c = 0)) 61 0) (fun res => QM n z D LM m2 j1 r1 res (fst0 (fun k => decide (dn pl C P τ σ k 1 c = 0)) 61 0)) 61 ?_ ?_
        · intro f i mm hi ⟨a1, a2, a3, a31, a4⟩
          rw [fst0_s hi] at a4
          by_cases h1 : dn pl C P τ σ i 1 c = 0
          · right
            rw [if_pos (decide_eq_true h1)] at a4
            refine ⟨mm.1, mm.2.1, mm.2.2, ?_, a1.2.2.2.2.2, a2⟩
            rw [f_X12_lasts_28.eq_2, ← a4]
            simp (disch := omega) only [obs, cN_mk, ite_true, ite_false, if_true, if_false, l60, ilt_f, q72, l2, i_mul, i_add, p86, a3.1, h1, l0, l1, no1_e, bI_t, bI_f, ieq_f, ile_t, ile_f, ilt_t, ilt_f]
          · left
            rw [if_neg (by rw [decide_eq_true_iff]; exact h1)] at a4
            obtain ⟨m', j', r', e, b1, b2, b3, b31, -⟩ := M_try (r := mm.2.2) a1 (WS_le (hd i) (by omega)) a3 (by omega : min 60 i ≤ 60) a31
            refine ⟨(m', j', r'), ?_, b1, FQm_tr a2 b2, b3, b31.trans (by congr 1; omega), a4⟩
            have hbi := hb i
            rw [f_X12_lasts_28.eq_2]
            simp (disch := omega) only [obs, cN_mk, ite_true, ite_false, if_true, if_false, l60, ilt_f, q72, l2, i_mul, i_add, p86, a3.1, l0, l1, no1_e, bI_t, bI_f, ieq_f, ile_t, ile_f, ilt_t, ilt_f, e]
        · intro f mm ⟨a1, a2, a3, a31, a4⟩
          rw [← a4]
          refine ⟨mm.1, mm.2.1, mm.2.2, ?_, a1.2.2.2.2.2, a2⟩
          rw [f_X12_lasts_28.eq_2]
          simp (disch := omega) only [obs, cN_mk, ite_true, ite_false, if_true, if_false, l60, ilt_t, l0, l1, no1_e, bI_t, bI_f, ieq_f, ile_t, ile_f, ilt_t, ilt_f, fst0, Nat.sub_self]
      have := key 61 0 fu (m0, j1, r1) (by omega) (by unfold fu; omega) ⟨h0, f0, hM0, h31, rfl⟩
      simp (disch := omega) only [obs, cN_mk, ite_true, ite_false, if_true, if_false, q72, M_isCorner h2.2.2.1, him, l0, l1, no1_e, bI_t, bI_f, ieq_f, ile_t, ile_f, ilt_t, ilt_f, e0]
      exact this
theorem Q_yearly (hc : EC n z D pl LC m r C P τ σ) (hm : EM n z D pl LM m1 j1 C P τ σ) (x : Int32) : QQ n z D LM m j r m1 j1 r1 (f_X11_yearly 0 x) (f_X12_yearly 72 x) := by
  have hW := hc.1
  have hS := hc.2.1
  have hY := hc.2.2.1
  have hP := hW.2.1
  cases him : im x 0 P with
  | false =>
    refine ⟨no1, QC_e ?_, ?_⟩
    · unfold f_X11_yearly f_X11_yearly_0
      simp (disch := omega) only [obs, cN_mk, ite_true, ite_false, if_true, if_false, q0, C_hasPerson hY, him, l0, l1, no1_e, bI_t, bI_f, ieq_f, ile_t, ile_f, ilt_t, ilt_f]
    · unfold f_X12_yearly f_X12_yearly_0
      refine QM_s hm fun m2 _ h2 => QM_e h2 ?_
      simp (disch := omega) only [obs, cN_mk, ite_true, ite_false, if_true, if_false, q72, M_isPerson h2.2.2.1, him, l0, l1, no1_e, bI_t, bI_f, ieq_f, ile_t, ile_f, ilt_t, ilt_f]
  | true =>
    obtain ⟨p, -, hp, rfl⟩ := im_t (by omega) (by omega) him
    have hd := fun k => WS_dn (pl := pl) hW hS k
    have tk64 : ∀ k, (dy pl C τ (dn pl C P τ σ k) P).2.1 < 64 := fun k => Nat.lt_of_lt_of_le (dy_lt (pl := pl) (σ := dn pl C P τ σ k) hW P (Nat.le_refl P)).2.1 (show 2 ^ P ≤ 2 ^ 6 from Nat.pow_le_pow_right (by omega) (by omega))
    generalize hF : sm (fun k => if ax pl C τ (dn pl C P τ σ k) p = 0 then 0 else 1) = F
    have Fs : ∀ i, F (i + 1) = F i + (if ax pl C τ (dn pl C P τ σ i) p = 0 then 0 else 1) := fun i => by rw [← hF, sm]
    refine ⟨Int32.ofNat (F 30), ?_, ?_⟩
    · obtain ⟨m0, e0, h0, f0, hM0, -⟩ := C_cpy (j := j) hc
      have key : ∀ rem i fuel (mm : MI), i + rem = 30 → rem < fuel → (EC n z D pl LC mm r C P τ σ ∧ FQc m mm ∧ CS mm 33 (dn pl C P τ σ i) C P) → QC n z D m j r (f_X11_yearly_25 fuel 0 (Int32.ofNat p) (Int32.ofNat (F i)) (Int32.ofNat i) (mkH n z D mm j r)) (Int32.ofNat (F 30)) := by
        refine lpP (fun fuel i mm => f_X11_yearly_25 fuel 0 (Int32.ofNat p) (Int32.ofNat (F i)) (Int32.ofNat i) (mkH n z D mm j r)) (fun i mm => EC n z D pl LC mm r C P τ σ ∧ FQc m mm ∧ CS mm 33 (dn pl C P τ σ i) C P) (fun res => QC n z D m j r res (Int32.ofNat (F 30))) 30 ?_ ?_
        · intro f i mm hi ⟨a1, a2, a3⟩
          left
          obtain ⟨m', e, b1, b2, b3, -, -, b5⟩ := C_day33 (j := j) (x := Int32.ofNat 0) (y := Int32.ofNat 0) a1 (WS_le (hd i) (by omega)) a3
          have b5 := b5 p (by omega)
          rw [if_pos hp] at b5
          have hle := ax_le (pl := pl) (σ := dn pl C P τ σ i) hW hp
          have hC := hW.1
          refine ⟨m', ?_, b1, FQc_tr a2 b2, b3⟩
          rw [f_X11_yearly_25.eq_2, Fs i]
          by_cases h1 : ax pl C τ (dn pl C P τ σ i) p = 0
          · rw [h1, pr_0] at b5
            simp (disch := omega) only [obs, cN_mk, ite_true, ite_false, if_true, if_false, l30, ile_f, q0, q52, p53, b5, l0, l1, no1_e, bI_t, bI_f, ieq_f, ile_t, ile_f, ilt_t, ilt_f, e, f_X11_yearly_61, h1, i_add]
          · have b6 : (m' 53 p = no1) = False := by rw [b5]; exact eq_false (fun e => h1 ((pr_no (by omega)).mp e))
            simp (disch := omega) only [obs, cN_mk, ite_true, ite_false, if_true, if_false, l30, ile_f, q0, q52, p53, b6, l0, l1, no1_e, bI_t, bI_f, ieq_f, ile_t, ile_f, ilt_t, ilt_f, e, f_X11_yearly_61, h1, i_add]
        · intro f mm ⟨a1, a2, a3⟩
          refine ⟨mm, ?_, a2⟩
          rw [f_X11_yearly_25.eq_2]
          simp (disch := omega) only [obs, cN_mk, ite_true, ite_false, if_true, if_false, l30, ile_t]
      have := key 30 0 fu m0 (by omega) (by unfold fu; omega) ⟨h0, f0, hM0⟩
      have F0 : F 0 = 0 := by rw [← hF]; rfl
      rw [F0] at this
      unfold f_X11_yearly f_X11_yearly_0
      simp (disch := omega) only [obs, cN_mk, ite_true, ite_false, if_true, if_false, q0, C_hasPerson hY, him, l0, l1, no1_e, bI_t, bI_f, ieq_f, ile_t, ile_f, ilt_t, ilt_f, q33, e0]
      exact this
    · unfold f_X12_yearly f_X12_yearly_0
      refine QM_s hm fun m2 _ h2 => ?_
      obtain ⟨m0, e0, h0, f0, hM0, h31, -⟩ := M_cpy (r := r1) h2
      have key : ∀ rem i fuel (mm : MI × MJ × MR), i + rem = 30 → rem < fuel → (EM n z D pl LM mm.1 mm.2.1 C P τ σ ∧ FQm m2 mm.1 j1 mm.2.1 r1 mm.2.2 ∧ MS (mm.1 86) (dn pl C P τ σ i) C P ∧ mm.1 86 31 = Int32.ofNat (min 60 i)) → QM n z D LM m2 j1 r1 (f_X12_yearly_30 fuel 72 (Int32.ofNat p) (Int32.ofNat (F i)) (Int32.ofNat i) (mkH n z D mm.1 mm.2.1 mm.2.2)) (Int32.ofNat (F 30)) := by
        refine lpP (fun fuel i (mm : MI × MJ × MR) => f_X12_yearly_30 fuel 72 (Int32.ofNat p) (Int32.ofNat (F i)) (Int32.ofNat i) (mkH n z D mm.1 mm.2.1 mm.2.2)) (fun i (mm : MI × MJ × MR) => EM n z D pl LM mm.1 mm.2.1 C P τ σ ∧ FQm m2 mm.1 j1 mm.2.1 r1 mm.2.2 ∧ MS (mm.1 86) (dn pl C P τ σ i) C P ∧ mm.1 86 31 = Int32.ofNat (min 60 i)) (fun res => QM n z D LM m2 j1 r1 res (Int32.ofNat (F 30))) 30 ?_ ?_
        · intro f i mm hi ⟨a1, a2, a3, a31⟩
          left
          obtain ⟨m', j', r', e, b1, b2, b3, b31, -⟩ := M_try (r := mm.2.2) a1 (WS_le (hd i) (by omega)) a3 (by omega : min 60 i ≤ 60) a31
          refine ⟨(m', j', r'), ?_, b1, FQm_tr a2 b2, b3, b31.trans (by congr 1; omega)⟩
          have hb : ((Int32.ofNat (dy pl C τ (dn pl C P τ σ i) P).2.1 >>> (Int32.ofNat p &&& Int32.ofNat 31)) &&& Int32.ofNat 1) = Int32.ofNat (if ax pl C τ (dn pl C P τ σ i) p = 0 then 0 else 1) := by
            have h1 := i_has (c := p) (tk64 i) (by omega)
            have h2 := dy_tk (pl := pl) (C := C) (τ := τ) (σ := dn pl C P τ σ i) P p hp
            by_cases h3 : ax pl C τ (dn pl C P τ σ i) p = 0
            · rw [if_pos h3]
              have h4 : (dy pl C τ (dn pl C P τ σ i) P).2.1.testBit p = false := by
                cases hb : (dy pl C τ (dn pl C P τ σ i) P).2.1.testBit p with
                | false => rfl
                | true => exact absurd h3 (h2.mp hb)
              exact i_hasf (tk64 i) (by omega) h4
            · rw [if_neg h3]
              exact h1.mpr (h2.mpr h3)
          rw [f_X12_yearly_30.eq_2, Fs i]
          simp (disch := omega) only [obs, cN_mk, ite_true, ite_false, if_true, if_false, l30, ile_f, q72, l0, l1, no1_e, bI_t, bI_f, ieq_f, ile_t, ile_f, ilt_t, ilt_f, l31, e, hb, i_add]
        · intro f mm ⟨a1, a2, a3, a31⟩
          refine ⟨mm.1, mm.2.1, mm.2.2, ?_, a1.2.2.2.2.2, a2⟩
          rw [f_X12_yearly_30.eq_2]
          simp (disch := omega) only [obs, cN_mk, ite_true, ite_false, if_true, if_false, l30, ile_t]
      have := key 30 0 fu (m0, j1, r1) (by omega) (by unfold fu; omega) ⟨h0, f0, hM0, h31⟩
      have F0 : F 0 = 0 := by rw [← hF]; rfl
      rw [F0] at this
      simp (disch := omega) only [obs, cN_mk, ite_true, ite_false, if_true, if_false, q72, M_isPerson h2.2.2.1, him, l0, l1, no1_e, bI_t, bI_f, ieq_f, ile_t, ile_f, ilt_t, ilt_f, e0]
      exact this
end LATER
