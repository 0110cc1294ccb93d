/-! Moves and questions. -/
/-- how far those who would be taken and the others are apart -/
def lS (f w : Nat → Bool) : Nat → Int
  | 0 => 0
  | k + 1 => if f (10 + k) = true then (if w (10 + k) = true then lS f w k + 1 else lS f w k - 1) else lS f w k
theorem lS_b {f w : Nat → Bool} : ∀ k : Nat, -(k : Int) ≤ lS f w k ∧ lS f w k ≤ k
  | 0 => ⟨by simp [lS], by simp [lS]⟩
  | k + 1 => by
    have := lS_b (f := f) (w := w) k
    rw [lS]
    split
    · split <;> omega
    · omega
def aL (f w : Nat → Bool) : Nat := (lS f w 30).natAbs
def bq (A : Nat → Nat) : Nat → Nat × Nat
  | 0 => (0, 1000000)
  | k + 1 => if k = 0 ∨ A (k + 1) < (bq A k).2 then (k + 1, A (k + 1)) else bq A k
theorem J_abs {v : Int} (h : -1000 ≤ v ∧ v ≤ 1000) {hh : AH} : f_J9_abs_0f7a4 (Int32.ofInt v) hh = some (Int32.ofNat v.natAbs, hh) := by
  have t : (Int32.ofInt v).toInt = v := Int32.toInt_ofInt_of_le (by show -2147483648 ≤ v; omega) (by show v < 2147483648; omega)
  unfold f_J9_abs_0f7a4 f_J9_abs_0f7a4_0
  by_cases h0 : 0 ≤ v
  · rw [if_pos (by rw [Int32.le_iff_toInt_le, t]; exact h0)]
    have : Int32.ofInt v = Int32.ofNat v.natAbs := by
      apply Int32.toInt_inj.mp
      rw [t, i_int (by omega)]
      omega
    rw [this]
  · rw [if_neg (by rw [Int32.le_iff_toInt_le, t]; exact h0)]
    have : -(Int32.ofInt v) = Int32.ofNat v.natAbs := by
      apply Int32.toInt_inj.mp
      rw [Int32.toInt_neg, t, i_int (by omega), Int.bmod_eq_of_le (by omega) (by omega)]
      omega
    rw [this]
theorem oI_p {v : Int} : Int32.ofInt v + Int32.ofNat 1 = Int32.ofInt (v + 1) := by
  rw [Int32.ofInt_add]; rfl
theorem oI_m {v : Int} : Int32.ofInt v + no1 = Int32.ofInt (v - 1) := by
  rw [show v - 1 = v + (-1) by omega, Int32.ofInt_add]; rfl
section ASKS
variable {n z : Nat} {D : Dyn} {m m1 m' : MI} {j j1 j' : MJ} {r r1 r' : MR} {pl : Pl} {LC : MI → MR → Prop} {LM : MI → MJ → Prop} {C P : Nat} {τ σ σ0 : Sg} {w p c s e sn : Nat} {sw : Nat → Nat → Nat} {x y : Int32}
/-- the moves found among 10 .. 10 + k - 1 stand in the class's row -/
def MVc (mm : MI) (f : Nat → Bool) (k : Nat) : Prop := mm 55 8 = Int32.ofNat (cn f k) ∧ (∀ i, i < k → f (10 + i) = true → mm 60 (cn f i) = Int32.ofNat (10 + i))
theorem C_fit (h : EC n z D pl LC m r C P τ σ) (hN : WSn P sn sw) (hs : SNc m sn sw) (hp : p < P) : ∃ m', f_X7_fit 55 (Int32.ofNat p) (mkH n z D m j r) = some ((), mkH n z D m' j r) ∧ EC n z D pl LC m' r C P τ σ ∧ FQc m m' ∧ MVc m' (fun e => iM pl τ sw p e sn) 30 := by
  generalize hF : (fun e => iM pl τ sw p e sn) = F
  have Fe : ∀ e, iM pl τ sw p e sn = F e := fun e => by rw [← hF]
  have inner : ∀ (k7 : Nat → Int32 → Int32 → AH → Option (Unit × AH)) (mo : Nat), 1 ≤ mo → mo ≤ 3 → ∀ rem g fuel (mm : MI), g + rem = 10 → rem < fuel → EC n z D pl LC mm r C P τ σ → FQc m mm → MVc mm F (10 * (mo - 1) + g) → ∃ m', f_X7_fit_14 k7 fuel 55 (Int32.ofNat p) (Int32.ofNat mo) (Int32.ofNat g) (mkH n z D mm j r) = k7 55 (Int32.ofNat p) (Int32.ofNat (mo + 1)) (mkH n z D m' j r) ∧ EC n z D pl LC m' r C P τ σ ∧ FQc m m' ∧ MVc m' F (10 * mo) := by
    intro k7 mo h1 h3 rem
    induction rem with
    | zero =>
      intro g fuel mm hg hf a1 a2 a3
      obtain ⟨f, rfl⟩ : ∃ f, fuel = f + 1 := ⟨fuel - 1, by omega⟩
      refine ⟨mm, ?_, a1, a2, by rw [show 10 * mo = 10 * (mo - 1) + g by omega]; exact a3⟩
      rw [f_X7_fit_14.eq_2]
      simp (disch := omega) only [obs, cN_mk, ite_true, ite_false, if_true, if_false, l9, ilt_t, l1, i_add]
    | succ rem ih =>
      intro g fuel mm hg hf a1 a2 a3
      obtain ⟨f, rfl⟩ : ∃ f, fuel = f + 1 := ⟨fuel - 1, by omega⟩
      have hsm : SNc mm sn sw := by
        have g := a2.1
        exact ⟨by rw [a2.2 6 (by omega)]; exact hs.1, by rw [g 56 (by omega) (by omega) (by omega) (by omega) (by omega), g 57 (by omega) (by omega) (by omega) (by omega) (by omega), g 58 (by omega) (by omega) (by omega) (by omega) (by omega), g 59 (by omega) (by omega) (by omega) (by omega) (by omega)]; exact hs.2⟩
      obtain ⟨m', e, b1, b2⟩ := C_fitsAll (j := j) (e := 10 * mo + g) a1 hN hsm hp (by omega)
      rw [Fe] at e
      have hq : FQc mm m' := ⟨fun a _ _ b3 _ _ => b2 a (by omega) (by omega) (by omega), fun i _ => by rw [b2 55 (by omega) (by omega) (by omega)]⟩
      have e10 : 10 + (10 * (mo - 1) + g) = 10 * mo + g := by omega
      have hcs := cn_s (f := F) (k := 10 * (mo - 1) + g)
      have hcl := cn_le (f := F) (k := 10 * (mo - 1) + g)
      have c8 : m' 55 8 = Int32.ofNat (cn F (10 * (mo - 1) + g)) := by rw [b2 55 (by omega) (by omega) (by omega)]; exact a3.1
      have c60 : m' 60 = mm 60 := b2 60 (by omega) (by omega) (by omega)
      rw [e10] at hcs
      cases hB : F (10 * mo + g) with
      | false =>
        rw [hB] at e hcs
        simp only [Bool.false_eq_true, if_false] at hcs
        obtain ⟨m9, e9, x1, x2, x3⟩ := ih (g + 1) f m' (by omega) (by omega) b1 (FQc_tr a2 hq) ⟨by rw [show 10 * (mo - 1) + (g + 1) = 10 * (mo - 1) + g + 1 by omega, hcs]; exact c8, fun i hi hfi => by
          rw [c60]
          by_cases hii : i = 10 * (mo - 1) + g
          · rw [hii, e10, hB] at hfi; cases hfi
          · exact a3.2 i (by omega) hfi⟩
        refine ⟨m9, ?_, x1, x2, x3⟩
        rw [← e9, f_X7_fit_14.eq_2]
        simp (disch := omega) only [obs, cN_mk, ite_true, ite_false, if_true, if_false, l9, ilt_f, q55, l10, i_mul, i_add, e, l0, l1, no1_e, bI_t, bI_f, ieq_f, ile_t, ile_f, ilt_t, ilt_f, f_X7_fit_59]
      | true =>
        rw [hB] at e hcs
        simp only [if_true] at hcs
        generalize hm2 : wI (wI m' 60 (cn F (10 * (mo - 1) + g)) (Int32.ofNat (10 * mo + g))) 55 8 (Int32.ofNat (cn F (10 * (mo - 1) + g) + 1)) = m2
        have hq2 : FQc m' m2 := ⟨fun a _ _ b3 b4 _ => by rw [← hm2, wI_ne (by omega), wI_ne b4], fun i hi => by rw [← hm2, wI_sn hi, wI_ne (by omega)]⟩
        obtain ⟨m9, e9, x1, x2, x3⟩ := ih (g + 1) f m2 (by omega) (by omega) (EC_q b1 hq2) (FQc_tr a2 (FQc_tr hq hq2)) ⟨by rw [show 10 * (mo - 1) + (g + 1) = 10 * (mo - 1) + g + 1 by omega, hcs, ← hm2, wI_se], fun i hi hfi => by
          rw [← hm2, wI_ne (by omega)]
          by_cases hii : i = 10 * (mo - 1) + g
          · rw [hii, wI_se, e10]
          · have hlt : cn F i < cn F (10 * (mo - 1) + g) := by
              have h1 := cn_s (f := F) (k := i)
              rw [hfi, if_pos rfl] at h1
              have h2 := cn_mono (f := F) (k := i + 1) (10 * (mo - 1) + g - (i + 1))
              rw [show i + 1 + (10 * (mo - 1) + g - (i + 1)) = 10 * (mo - 1) + g by omega] at h2
              omega
            rw [wI_sn (by omega), c60]
            exact a3.2 i (by omega) hfi⟩
        refine ⟨m9, ?_, x1, x2, x3⟩
        have g8 : wI m' 60 (cn F (10 * (mo - 1) + g)) (Int32.ofNat (10 * mo + g)) 55 8 = Int32.ofNat (cn F (10 * (mo - 1) + g)) := by rw [wI_ne (by omega)]; exact c8
        rw [← e9, f_X7_fit_14.eq_2]
        simp (disch := omega) only [obs, cN_mk, ite_true, ite_false, if_true, if_false, l9, ilt_f, q55, l10, i_mul, i_add, e, l0, l1, no1_e, bI_t, bI_f, ieq_f, ile_t, ile_f, ilt_t, ilt_f, c8, p60, g8, hm2, f_X7_fit_59]
  have outer : ∀ rem mo fuel (mm : MI), mo + rem = 4 → 1 ≤ mo → rem < fuel → EC n z D pl LC mm r C P τ σ → FQc m mm → MVc mm F (10 * (mo - 1)) → ∃ m', f_X7_fit_7 fuel 55 (Int32.ofNat p) (Int32.ofNat mo) (mkH n z D mm j r) = some ((), mkH n z D m' j r) ∧ EC n z D pl LC m' r C P τ σ ∧ FQc m m' ∧ MVc m' F 30 := by
    intro rem
    induction rem with
    | zero =>
      intro mo fuel mm hm0 h1 hf a1 a2 a3
      obtain ⟨f, rfl⟩ : ∃ f, fuel = f + 1 := ⟨fuel - 1, by omega⟩
      refine ⟨mm, ?_, a1, a2, by rw [show 30 = 10 * (mo - 1) by omega]; exact a3⟩
      rw [f_X7_fit_7.eq_2]
      simp (disch := omega) only [obs, cN_mk, ite_true, ite_false, if_true, if_false, l3, ilt_t]
    | succ rem ih =>
      intro mo fuel mm hm0 h1 hf a1 a2 a3
      obtain ⟨f, rfl⟩ : ∃ f, fuel = f + 1 := ⟨fuel - 1, by omega⟩
      obtain ⟨m', e, b1, b2, b3⟩ := inner (f_X7_fit_7 f) mo h1 (by omega) 10 0 fu mm (by omega) (by unfold fu; omega) a1 a2 a3
      obtain ⟨m9, e9, x1, x2, x3⟩ := ih (mo + 1) f m' (by omega) (by omega) (by omega) b1 b2 b3
      refine ⟨m9, ?_, x1, x2, x3⟩
      rw [f_X7_fit_7.eq_2, ← e9, ← e]
      simp (disch := omega) only [obs, cN_mk, ite_true, ite_false, if_true, if_false, l3, ilt_f, l0]
  have hq : FQc m (wI m 55 8 (Int32.ofNat 0)) := ⟨fun a _ _ b3 _ _ => wI_ne (by omega), fun i hi => wI_sn hi⟩
  obtain ⟨m', e, b⟩ := outer 3 1 fu (wI m 55 8 (Int32.ofNat 0)) (by omega) (by omega) (by unfold fu; omega) (EC_q h hq) hq ⟨wI_se, fun i hi => absurd hi (by omega)⟩
  refine ⟨m', ?_, b⟩
  unfold f_X7_fit f_X7_fit_0
  simp (disch := omega) only [obs, cN_mk, ite_true, ite_false, if_true, if_false, q55, l0, l1, e]
theorem i_cases2 (x : Int32) : x < no1 ∨ x = no1 ∨ ∃ q, q < 2147483648 ∧ x = Int32.ofNat q := by
  rcases i_cases x with h | h
  · by_cases h1 : x = no1
    · exact Or.inr (Or.inl h1)
    · refine Or.inl (no1_nlt h1 (fun e => ?_))
      exact (i_neg0 h (by omega : 0 < 2147483648)).mp e
  · exact Or.inr (Or.inr h)
theorem no1_le_f {x : Int32} (h : x < no1) : (no1 ≤ x) = False := eq_false (fun e => Int32.not_le.mpr h e)
theorem no1_le_k {q : Nat} (h : q < 2147483648) : (no1 ≤ Int32.ofNat q) = True := eq_true (by rw [Int32.le_iff_toInt_le, no1_toInt, i_int h]; omega)
theorem no1_le_n : (no1 ≤ no1) = True := eq_true (Int32.le_refl _)
theorem Q_moves (hc : EC n z D pl LC m r C P τ σ) (hm : EM n z D pl LM m1 j1 C P τ σ) (hN : WSn P sn sw) (hs : SNc m sn sw) (hs1 : SNm m1 sn sw) (x y : Int32) : QQ n z D LM m j r m1 j1 r1 (f_X11_moves 0 x y) (f_X12_moves 72 x y) := by
  have hY := hc.2.2.1
  have hP := hc.1.2.1
  cases him : im x 0 P with
  | false =>
    refine ⟨no1, QC_e ?_, ?_⟩
    · unfold f_X11_moves f_X11_moves_0
      simp (disch := omega) only [obs, cN_mk, ite_true, ite_false, if_true, if_false, q0, C_hasPerson hY, him, l0, l1, no1_e, bI_t, bI_f, ieq_f, ile_t, ile_f, ilt_t, ilt_f]
    · unfold f_X12_moves f_X12_moves_0
      refine QM_s hm fun m2 _ h2 => QM_e h2 ?_
      simp (disch := omega) only [obs, cN_mk, ite_true, ite_false, if_true, if_false, q72, M_isPerson h2.2.2.1, him, l0, l1, no1_e, bI_t, bI_f, ieq_f, ile_t, ile_f, ilt_t, ilt_f]
  | true =>
    obtain ⟨p, -, hp, rfl⟩ := im_t (by omega) (by omega) him
    by_cases hy : y < no1
    · refine ⟨no1, QC_e ?_, ?_⟩
      · unfold f_X11_moves f_X11_moves_0
        simp (disch := omega) only [obs, cN_mk, ite_true, ite_false, if_true, if_false, q0, C_hasPerson hY, him, l0, l1, no1_e, bI_t, bI_f, ieq_f, ile_t, ile_f, ilt_t, ilt_f, no1_le_f hy]
      · unfold f_X12_moves f_X12_moves_0
        refine QM_s hm fun m2 _ h2 => QM_e h2 ?_
        simp (disch := omega) only [obs, cN_mk, ite_true, ite_false, if_true, if_false, q72, M_isPerson h2.2.2.1, him, l0, l1, no1_e, bI_t, bI_f, ieq_f, ile_t, ile_f, ilt_t, ilt_f, no1_le_f hy]
    have hyl : (no1 ≤ y) = True := eq_true (Int32.not_lt.mp hy)
    obtain ⟨m0, e0, h0, f0, v8, v60⟩ := C_fit (j := j) hc hN hs hp
    generalize hF : (fun e => iM pl τ sw p e sn) = F at *
    have Fe : ∀ e, iM pl τ sw p e sn = F e := fun e => by rw [← hF]
    have hcl := cn_le (f := F) (k := 30)
    refine ⟨mvA F y 30 0, ⟨m0, ?_, f0⟩, ?_⟩
    · unfold f_X11_moves f_X11_moves_0
      simp (disch := omega) only [obs, cN_mk, ite_true, ite_false, if_true, if_false, q0, C_hasPerson hY, him, l0, l1, no1_e, bI_t, bI_f, ieq_f, ile_t, ile_f, ilt_t, ilt_f, hyl, q55, e0, v8]
      rcases i_cases2 y with h1 | h1 | ⟨q, hq, h1⟩
      · exact absurd h1 hy
      · subst h1
        rw [mvA_n 30 0 (by omega), if_pos rfl]
      · subst h1
        have n3 : ¬ (Int32.ofNat q = no1) := fun e => (no1_ne (by omega)).mp e
        rw [if_neg n3]
        by_cases hql : q < cn F 30
        · obtain ⟨e, a1, a2, a3, a4, a5⟩ := (mvA_q (f := F) (q := q) 30 0 (by omega) (Nat.zero_le _) (by omega)).1 (by simpa using hql)
          have := v60 e (by omega) a3
          rw [a4] at this
          rw [a5, if_neg (fun h => by have := (i_le (by omega) (by omega)).mp h; omega), p60.1 q (by omega), obs, this]
        · rw [if_pos ((i_le (by omega) (by omega)).mpr (by omega))]
          by_cases hq5 : q < 100000
          · rw [(mvA_q (f := F) (q := q) 30 0 (by omega) (Nat.zero_le _) hq5).2 (by simpa using Nat.le_of_not_lt hql)]
          · -- far out
            have far : ∀ rem k, k + rem ≤ 1000 → mvA F (Int32.ofNat q) rem k = no1 := by
              intro rem
              induction rem with
              | zero => intro k hk; rw [mvA, if_neg n3]
              | succ rem ih =>
                intro k hk
                have := cn_le (f := F) (k := k)
                rw [mvA, ih (k + 1) (by omega)]
                split
                · rw [if_neg (fun e => by have := (i_inj (by omega) (by omega)).mp e; omega)]
                · rfl
            rw [far 30 0 (by omega)]
    · unfold f_X12_moves f_X12_moves_0
      refine QM_s hm fun m2 he h2 => ?_
      have hs2 : SNm m2 sn sw := SNm_w hs1 (by rw [he, wI_sn (by omega)]) (by rw [he, wI_ne (by omega)])
      have key : ∀ rem k fuel (mm : MI) (jj : MJ) (rr : MR), k + rem = 30 → rem < fuel → EM n z D pl LM mm jj C P τ σ → FQm m2 mm j1 jj r1 rr → QM n z D LM m2 j1 r1 (f_X12_moves_26 fuel 72 (Int32.ofNat p) y (Int32.ofNat (cn F k)) (Int32.ofNat (10 + k)) (mkH n z D mm jj rr)) (mvA F y rem k) := by
        intro rem
        induction rem with
        | zero =>
          intro k fuel mm jj rr hk hf a1 a2
          obtain ⟨f, rfl⟩ : ∃ f, fuel = f + 1 := ⟨fuel - 1, by omega⟩
          refine ⟨mm, jj, rr, ?_, a1.2.2.2.2.2, a2⟩
          rw [f_X12_moves_26.eq_2, mvA]
          simp (disch := omega) only [obs, cN_mk, ite_true, ite_false, if_true, if_false, l40, ile_t, l1, no1_e]
          by_cases hy0 : y = no1
          · simp [hy0]
          · simp [hy0]
        | succ rem ih =>
          intro k fuel mm jj rr hk hf a1 a2
          obtain ⟨f, rfl⟩ : ∃ f, fuel = f + 1 := ⟨fuel - 1, by omega⟩
          have hsm : SNm mm sn sw := SNm_w hs2 (a2.2.2.2.1 46 (by omega) (by omega) (by omega) (by omega) (by omega) (by omega)) (a2.1 91 (by omega))
          obtain ⟨m', j', r', e, b1, b2⟩ := M_isMove (r := rr) (e := 10 + k) a1 hN hsm hp (by omega)
          rw [Fe] at e
          have hcs := cn_s (f := F) (k := k)
          have hck := cn_le (f := F) (k := k)
          rw [mvA]
          cases hB : F (10 + k) with
          | false =>
            rw [hB] at e hcs
            simp only [Bool.false_eq_true, if_false, Nat.add_zero] at hcs ⊢
            obtain ⟨m9, j9, r9, e9, x1, x2⟩ := ih (k + 1) f m' j' r' (by omega) (by omega) b1 (FQm_tr a2 b2)
            refine ⟨m9, j9, r9, ?_, x1, x2⟩
            rw [hcs, show 10 + (k + 1) = 10 + k + 1 by omega] at e9
            rw [← e9, f_X12_moves_26.eq_2]
            simp (disch := omega) only [obs, cN_mk, ite_true, ite_false, if_true, if_false, l40, ile_f, q72, e, l0, l1, no1_e, bI_t, bI_f, ieq_f, ile_t, ile_f, ilt_t, ilt_f, f_X12_moves_57, i_add]
          | true =>
            rw [hB] at e hcs
            simp only [if_true] at hcs ⊢
            by_cases hyk : Int32.ofNat (cn F k) = y
            · rw [if_pos hyk]
              refine ⟨m', j', r', ?_, b1.2.2.2.2.2, FQm_tr a2 b2⟩
              rw [f_X12_moves_26.eq_2]
              simp (disch := omega) only [obs, cN_mk, ite_true, ite_false, if_true, if_false, l40, ile_f, q72, e, l0, l1, no1_e, bI_t, bI_f, ieq_f, ile_t, ile_f, ilt_t, ilt_f, hyk]
            · rw [if_neg hyk]
              obtain ⟨m9, j9, r9, e9, x1, x2⟩ := ih (k + 1) f m' j' r' (by omega) (by omega) b1 (FQm_tr a2 b2)
              refine ⟨m9, j9, r9, ?_, x1, x2⟩
              rw [hcs, show 10 + (k + 1) = 10 + k + 1 by omega] at e9
              rw [← e9, f_X12_moves_26.eq_2]
              simp (disch := omega) only [obs, cN_mk, ite_true, ite_false, if_true, if_false, l40, ile_f, q72, e, l0, l1, no1_e, bI_t, bI_f, ieq_f, ile_t, ile_f, ilt_t, ilt_f, hyk, f_X12_moves_57, i_add]
      have := key 30 0 fu m2 j1 r1 (by omega) (by unfold fu; omega) h2 FQm_refl
      simp (disch := omega) only [obs, cN_mk, ite_true, ite_false, if_true, if_false, q72, M_isPerson h2.2.2.1, him, l0, l1, no1_e, bI_t, bI_f, ieq_f, ile_t, ile_f, ilt_t, ilt_f, hyl, l10]
      exact this
theorem Q_ask (hc : EC n z D pl LC m r C P τ σ) (hm : EM n z D pl LM m1 j1 C P τ σ) (hN : WSn P sn sw) (hs : SNc m sn sw) (hs1 : SNm m1 sn sw) (x y : Int32) : QQ n z D LM m j r m1 j1 r1 (f_X11_ask 0 x y) (f_X12_ask 72 x y) := by
  have hY := hc.2.2.1
  have hP := hc.1.2.1
  cases him : im x 0 P with
  | false =>
    refine ⟨no1, QC_e ?_, ?_⟩
    · unfold f_X11_ask f_X11_ask_0
      simp (disch := omega) only [obs, cN_mk, ite_true, ite_false, if_true, if_false, q0, C_hasPerson hY, him, l0, l1, no1_e, bI_t, bI_f, ieq_f, ile_t, ile_f, ilt_t, ilt_f]
    · unfold f_X12_ask f_X12_ask_0
      refine QM_s hm fun m2 _ h2 => QM_e h2 ?_
      simp (disch := omega) only [obs, cN_mk, ite_true, ite_false, if_true, if_false, q72, M_isPerson h2.2.2.1, him, l0, l1, no1_e, bI_t, bI_f, ieq_f, ile_t, ile_f, ilt_t, ilt_f]
  | true =>
    obtain ⟨p, -, hp, rfl⟩ := im_t (by omega) (by omega) him
    cases hiy : im y 1 10 with
    | false =>
      refine ⟨no1, QC_e ?_, ?_⟩
      · unfold f_X11_ask f_X11_ask_0
        simp (disch := omega) only [obs, cN_mk, ite_true, ite_false, if_true, if_false, q0, C_hasPerson hY, C_isLive, him, hiy, l0, l1, no1_e, bI_t, bI_f, ieq_f, ile_t, ile_f, ilt_t, ilt_f]
      · unfold f_X12_ask f_X12_ask_0
        refine QM_s hm fun m2 _ h2 => QM_e h2 ?_
        simp (disch := omega) only [obs, cN_mk, ite_true, ite_false, if_true, if_false, q72, M_isPerson h2.2.2.1, i64_1, i64_9, M_inK, Nat.reduceAdd, him, hiy, l0, l1, no1_e, bI_t, bI_f, ieq_f, ile_t, ile_f, ilt_t, ilt_f]
    | true =>
      obtain ⟨s, hs1', hs2', rfl⟩ := im_t (by omega) (by omega) hiy
      obtain ⟨m0, e0, h0, f0, v8, v60⟩ := C_fit (j := j) hc hN hs hp
      generalize hF : (fun e => iM pl τ sw p e sn) = F at *
      have Fe : ∀ e, iM pl τ sw p e sn = F e := fun e => by rw [← hF]
      have hcl := cn_le (f := F) (k := 30)
      generalize hA : (fun c => aL F (fun e => wT pl τ p e s c)) = A
      have Ae : ∀ c, aL F (fun e => wT pl τ p e s c) = A c := fun c => by rw [← hA]
      have Ab : ∀ c, A c ≤ 30 := fun c => by
        rw [← Ae]
        have := lS_b (f := F) (w := fun e => wT pl τ p e s c) 30
        unfold aL
        omega
      refine ⟨if cn F 30 = 0 then no1 else Int32.ofNat (bq A 3).1, ?_, ?_⟩
      · by_cases hz : cn F 30 = 0
        · refine ⟨m0, ?_, f0⟩
          rw [if_pos hz]
          unfold f_X11_ask f_X11_ask_0 f_X7_bestQuestion f_X7_bestQuestion_0
          simp (disch := omega) only [obs, cN_mk, ite_true, ite_false, if_true, if_false, q0, C_hasPerson hY, C_isLive, him, hiy, l0, l1, no1_e, bI_t, bI_f, ieq_f, ile_t, ile_f, ilt_t, ilt_f, q55, e0, v8, hz]
        · rw [if_neg hz]
          -- one crumb: along the codes
          have inner : ∀ (k18 : Nat → Int32 → Int32 → Int32 → Int32 → Int32 → AH → Option (Int32 × AH)) (x3 x4 : Int32) (c : Nat), c ≤ 3 → ∀ rem k fuel (mm : MI), k + rem = 30 → rem < fuel → EC n z D pl LC mm r C P τ σ → FQc m mm → mm 55 8 = Int32.ofNat (cn F 30) → mm 60 = m0 60 → ∃ m' f', f_X7_bestQuestion_30 k18 fuel 55 (Int32.ofNat p) (Int32.ofNat s) x3 x4 (Int32.ofNat c) (Int32.ofInt (lS F (fun e => wT pl τ p e s c) k)) (Int32.ofNat (cn F k)) (mkH n z D mm j r) = f_X7_bestQuestion_30 k18 (f' + 1) 55 (Int32.ofNat p) (Int32.ofNat s) x3 x4 (Int32.ofNat c) (Int32.ofInt (lS F (fun e => wT pl τ p e s c) 30)) (Int32.ofNat (cn F 30)) (mkH n z D m' j r) ∧ EC n z D pl LC m' r C P τ σ ∧ FQc m m' ∧ m' 55 8 = Int32.ofNat (cn F 30) ∧ m' 60 = m0 60 := by
            intro k18 x3 x4 c hc3 rem
            induction rem with
            | zero =>
              intro k fuel mm hk hf a1 a2 a3 a4
              obtain ⟨f, rfl⟩ : ∃ f, fuel = f + 1 := ⟨fuel - 1, by omega⟩
              have : k = 30 := by omega
              subst this
              exact ⟨mm, f, rfl, a1, a2, a3, a4⟩
            | succ rem ih =>
              intro k fuel mm hk hf a1 a2 a3 a4
              obtain ⟨f, rfl⟩ : ∃ f, fuel = f + 1 := ⟨fuel - 1, by omega⟩
              have hcs := cn_s (f := F) (k := k)
              cases hB : F (10 + k) with
              | false =>
                rw [hB] at hcs
                simp only [Bool.false_eq_true, if_false, Nat.add_zero] at hcs
                have hl : lS F (fun e => wT pl τ p e s c) (k + 1) = lS F (fun e => wT pl τ p e s c) k := by rw [lS, hB]; rfl
                obtain ⟨m', f', e, b⟩ := ih (k + 1) (f + 1) mm (by omega) (by omega) a1 a2 a3 a4
                rw [hl, hcs] at e
                exact ⟨m', f', e, b⟩
              | true =>
                rw [hB] at hcs
                simp only [if_true] at hcs
                have hlt : cn F k < cn F 30 := by
                  have := cn_mono (f := F) (k := k + 1) (30 - (k + 1))
                  rw [show k + 1 + (30 - (k + 1)) = 30 by omega] at this
                  omega
                obtain ⟨m', ew, b1, b2⟩ := C_would (j := j) (e := 10 + k) (s := s) (c := c) a1 hp (by omega) (by omega) hc3
                have hq : FQc mm m' := ⟨fun a _ _ b3 _ _ => b2 a (by omega) (by omega) (by omega), fun i _ => by rw [b2 55 (by omega) (by omega) (by omega)]⟩
                obtain ⟨m9, f', e9, x⟩ := ih (k + 1) f m' (by omega) (by omega) b1 (FQc_tr a2 hq) (by rw [b2 55 (by omega) (by omega) (by omega)]; exact a3) (by rw [b2 60 (by omega) (by omega) (by omega)]; exact a4)
                refine ⟨m9, f', ?_, x⟩
                have u60 : mm 60 (cn F k) = Int32.ofNat (10 + k) := by rw [a4]; exact v60 k (by omega) hB
                rw [hcs] at e9
                rw [← e9, f_X7_bestQuestion_30.eq_2]
                cases hwt : wT pl τ p (10 + k) s c with
                | true =>
                  rw [hwt] at ew
                  have hl : lS F (fun e => wT pl τ p e s c) (k + 1) = lS F (fun e => wT pl τ p e s c) k + 1 := by rw [lS, hB, if_pos rfl, if_pos hwt]
                  rw [hl]
                  simp (disch := omega) only [obs, cN_mk, ite_true, ite_false, if_true, if_false, q55, a3, ile_f, p60, u60, ew, l0, l1, no1_e, bI_t, bI_f, ieq_f, ile_t, ile_f, ilt_t, ilt_f, f_X7_bestQuestion_64, i_add, oI_p]
                | false =>
                  rw [hwt] at ew
                  have hl : lS F (fun e => wT pl τ p e s c) (k + 1) = lS F (fun e => wT pl τ p e s c) k - 1 := by rw [lS, hB, if_pos rfl, if_neg (by rw [hwt]; decide)]
                  rw [hl]
                  simp (disch := omega) only [obs, cN_mk, ite_true, ite_false, if_true, if_false, q55, a3, ile_f, p60, u60, ew, l0, l1, no1_e, bI_t, bI_f, ieq_f, ile_t, ile_f, ilt_t, ilt_f, f_X7_bestQuestion_64, i_add, oI_m]
          have outer : ∀ rem k fuel (mm : MI), k + rem = 3 → rem < fuel → EC n z D pl LC mm r C P τ σ → FQc m mm → mm 55 8 = Int32.ofNat (cn F 30) → mm 60 = m0 60 → QC n z D m j r (f_X7_bestQuestion_18 fuel 55 (Int32.ofNat p) (Int32.ofNat s) (if k = 0 then no1 else Int32.ofNat (bq A k).1) (Int32.ofNat (bq A k).2) (Int32.ofNat (k + 1)) (mkH n z D mm j r)) (Int32.ofNat (bq A 3).1) := by
            have bqb : ∀ k, (bq A k).2 ≤ 1000000 := by
              intro k
              induction k with
              | zero => exact Nat.le_refl _
              | succ k ih => rw [bq]; split; · have := Ab (k + 1); show A (k + 1) ≤ _; omega
                             · exact ih
            intro rem
            induction rem with
            | zero =>
              intro k fuel mm hk hf a1 a2 a3 a4
              obtain ⟨f, rfl⟩ : ∃ f, fuel = f + 1 := ⟨fuel - 1, by omega⟩
              have : k = 3 := by omega
              subst this
              refine ⟨mm, ?_, a2⟩
              rw [f_X7_bestQuestion_18.eq_2, if_pos (show (3 : Int32) < Int32.ofNat (3 + 1) by rw [l3, i_lt (by omega) (by omega)]; omega), if_neg (show ¬ 3 = 0 by decide)]
            | succ rem ih =>
              intro k fuel mm hk hf a1 a2 a3 a4
              obtain ⟨f, rfl⟩ : ∃ f, fuel = f + 1 := ⟨fuel - 1, by omega⟩
              obtain ⟨m', f', e, b1, b2, b3, b4⟩ := inner (f_X7_bestQuestion_18 f) (if k = 0 then no1 else Int32.ofNat (bq A k).1) (Int32.ofNat (bq A k).2) (k + 1) (by omega) 30 0 fu mm (by omega) (by unfold fu; omega) a1 a2 a3 a4
              obtain ⟨m9, e9, x⟩ := ih (k + 1) f m' (by omega) (by omega) b1 b2 b3 b4
              refine ⟨m9, ?_, x⟩
              have hab := lS_b (f := F) (w := fun e => wT pl τ p e s (k + 1)) 30
              have eab : ∀ h : AH, f_J9_abs_0f7a4 (Int32.ofInt (lS F (fun e => wT pl τ p e s (k + 1)) 30)) h = some (Int32.ofNat (A (k + 1)), h) := fun h => by rw [J_abs (by omega), ← Ae]; rfl
              have hA1 := Ab (k + 1)
              have hbb := bqb k
              rw [f_X7_bestQuestion_18.eq_2, if_neg (show ¬ (3 : Int32) < Int32.ofNat (k + 1) by rw [l3, i_lt (by omega) (by omega)]; omega)]
              rw [show (0 : Int32) = Int32.ofInt (lS F (fun e => wT pl τ p e s (k + 1)) 0) from rfl]
              rw [show f_X7_bestQuestion_30 (f_X7_bestQuestion_18 f) fu 55 (Int32.ofNat p) (Int32.ofNat s) (if k = 0 then no1 else Int32.ofNat (bq A k).1) (Int32.ofNat (bq A k).2) (Int32.ofNat (k + 1)) (Int32.ofInt (lS F (fun e => wT pl τ p e s (k + 1)) 0)) (Int32.ofInt (lS F (fun e => wT pl τ p e s (k + 1)) 0)) (mkH n z D mm j r) = _ from e]
              rw [f_X7_bestQuestion_30.eq_2, ← e9, if_neg (show ¬ k + 1 = 0 by omega)]
              by_cases hup : k = 0 ∨ A (k + 1) < (bq A k).2
              · have eb : bq A (k + 1) = (k + 1, A (k + 1)) := if_pos hup
                have hlt : A (k + 1) < (bq A k).2 := by
                  rcases hup with h | h
                  · subst h; show A 1 < 1000000; have := Ab 1; omega
                  · exact h
                rw [eb]
                simp (disch := omega) only [obs, cN_mk, ite_true, ite_false, if_true, if_false, q55, b3, ile_t, eab, ile_f, f_X7_bestQuestion_93, l1, i_add]
              · have eb : bq A (k + 1) = bq A k := if_neg hup
                rw [eb, if_neg (show ¬ k = 0 from fun h => hup (Or.inl h))]
                have hge : (bq A k).2 ≤ A (k + 1) := by
                  by_cases h : A (k + 1) < (bq A k).2
                  · exact absurd (Or.inr h) hup
                  · omega
                simp (disch := omega) only [obs, cN_mk, ite_true, ite_false, if_true, if_false, q55, b3, ile_t, eab, f_X7_bestQuestion_93, l1, i_add]
          have := outer 3 0 fu m0 (by omega) (by unfold fu; omega) h0 f0 v8 rfl
          rw [if_pos rfl] at this
          unfold f_X11_ask f_X11_ask_0 f_X7_bestQuestion f_X7_bestQuestion_0
          obtain ⟨m9, e9, x⟩ := this
          refine ⟨m9, ?_, x⟩
          have e9' : f_X7_bestQuestion_18 fu 55 (Int32.ofNat p) (Int32.ofNat s) no1 (Int32.ofNat 1000000) (Int32.ofNat 1) (mkH n z D m0 j r) = some (Int32.ofNat (bq A 3).1, mkH n z D m9 j r) := e9
          simp (disch := omega) only [obs, cN_mk, ite_true, ite_false, if_true, if_false, q0, C_hasPerson hY, C_isLive, him, hiy, l0, l1, no1_e, bI_t, bI_f, ieq_f, ile_t, ile_f, ilt_t, ilt_f, q55, e0, v8, l1000000, e9']
      · unfold f_X12_ask f_X12_ask_0
        refine QM_s hm fun m2 he h2 => ?_
        have hs2 : SNm m2 sn sw := SNm_w hs1 (by rw [he, wI_sn (by omega)]) (by rw [he, wI_ne (by omega)])
        have inner : ∀ (k35 : Nat → Int32 → Int32 → Int32 → Int32 → Int32 → AH → Option (Int32 × AH)) (x3 x4 : Int32) (c : Nat), c ≤ 3 → ∀ rem k fuel (mm : MI) (jj : MJ) (rr : MR), k + rem = 30 → rem < fuel → EM n z D pl LM mm jj C P τ σ → FQm m2 mm j1 jj r1 rr → ∃ m' j' r' f', f_X12_ask_51 k35 fuel 72 (Int32.ofNat p) (Int32.ofNat s) x3 x4 (Int32.ofNat c) (Int32.ofInt (lS F (fun e => wT pl τ p e s c) k)) (if cn F k = 0 then Int32.ofNat 0 else Int32.ofNat 1) (Int32.ofNat (10 + k)) (mkH n z D mm jj rr) = f_X12_ask_51 k35 (f' + 1) 72 (Int32.ofNat p) (Int32.ofNat s) x3 x4 (Int32.ofNat c) (Int32.ofInt (lS F (fun e => wT pl τ p e s c) 30)) (if cn F 30 = 0 then Int32.ofNat 0 else Int32.ofNat 1) (Int32.ofNat 40) (mkH n z D m' j' r') ∧ EM n z D pl LM m' j' C P τ σ ∧ FQm m2 m' j1 j' r1 r' := by
          intro k35 x3 x4 c hc3 rem
          induction rem with
          | zero =>
            intro k fuel mm jj rr hk hf a1 a2
            obtain ⟨f, rfl⟩ : ∃ f, fuel = f + 1 := ⟨fuel - 1, by omega⟩
            have : k = 30 := by omega
            subst this
            exact ⟨mm, jj, rr, f, rfl, a1, a2⟩
          | succ rem ih =>
            intro k fuel mm jj rr hk hf a1 a2
            obtain ⟨f, rfl⟩ : ∃ f, fuel = f + 1 := ⟨fuel - 1, by omega⟩
            have hsm : SNm mm sn sw := SNm_w hs2 (a2.2.2.2.1 46 (by omega) (by omega) (by omega) (by omega) (by omega) (by omega)) (a2.1 91 (by omega))
            obtain ⟨m', j', r', e, b1, b2⟩ := M_isMove (r := rr) (e := 10 + k) a1 hN hsm hp (by omega)
            rw [Fe] at e
            have hcs := cn_s (f := F) (k := k)
            cases hB : F (10 + k) with
            | false =>
              rw [hB] at e hcs
              simp only [Bool.false_eq_true, if_false, Nat.add_zero] at hcs
              have hl : lS F (fun e => wT pl τ p e s c) (k + 1) = lS F (fun e => wT pl τ p e s c) k := by rw [lS, hB]; rfl
              obtain ⟨m9, j9, r9, f', e9, x1, x2⟩ := ih (k + 1) f m' j' r' (by omega) (by omega) b1 (FQm_tr a2 b2)
              refine ⟨m9, j9, r9, f', ?_, x1, x2⟩
              rw [hl, hcs, show 10 + (k + 1) = 10 + k + 1 by omega] at e9
              rw [← e9, f_X12_ask_51.eq_2]
              simp (disch := omega) only [obs, cN_mk, ite_true, ite_false, if_true, if_false, l40, ile_f, q72, e, l0, l1, no1_e, bI_t, bI_f, ieq_f, ile_t, ile_f, ilt_t, ilt_f, f_X12_ask_97, i_add]
            | true =>
              rw [hB] at e hcs
              simp only [if_true] at hcs
              obtain ⟨m3, j3, r3, ew, c1, c2⟩ := M_would (r := r') (e := 10 + k) (s := s) (c := c) b1 hp (by omega) (by omega) hc3
              obtain ⟨m9, j9, r9, f', e9, x1, x2⟩ := ih (k + 1) f m3 j3 r3 (by omega) (by omega) c1 (FQm_tr a2 (FQm_tr b2 c2))
              refine ⟨m9, j9, r9, f', ?_, x1, x2⟩
              rw [if_neg (show ¬ cn F (k + 1) = 0 by omega), show 10 + (k + 1) = 10 + k + 1 by omega] at e9
              rw [← e9, f_X12_ask_51.eq_2]
              cases hwt : wT pl τ p (10 + k) s c with
              | true =>
                rw [hwt] at ew
                have hl : lS F (fun e => wT pl τ p e s c) (k + 1) = lS F (fun e => wT pl τ p e s c) k + 1 := by rw [lS, hB, if_pos rfl, if_pos hwt]
                rw [hl]
                simp (disch := omega) only [obs, cN_mk, ite_true, ite_false, if_true, if_false, l40, ile_f, q72, e, l0, l1, no1_e, bI_t, bI_f, ieq_f, ile_t, ile_f, ilt_t, ilt_f, ew, f_X12_ask_94, f_X12_ask_97, i_add, oI_p]
              | false =>
                rw [hwt] at ew
                have hl : lS F (fun e => wT pl τ p e s c) (k + 1) = lS F (fun e => wT pl τ p e s c) k - 1 := by rw [lS, hB, if_pos rfl, if_neg (by rw [hwt]; decide)]
                rw [hl]
                simp (disch := omega) only [obs, cN_mk, ite_true, ite_false, if_true, if_false, l40, ile_f, q72, e, l0, l1, no1_e, bI_t, bI_f, ieq_f, ile_t, ile_f, ilt_t, ilt_f, ew, f_X12_ask_94, f_X12_ask_97, i_add, oI_m]
        have outer : ∀ rem k fuel (mm : MI) (jj : MJ) (rr : MR), k + rem = 3 → rem < fuel → (k ≠ 0 → cn F 30 ≠ 0) → EM n z D pl LM mm jj C P τ σ → FQm m2 mm j1 jj r1 rr → QM n z D LM m2 j1 r1 (f_X12_ask_35 fuel 72 (Int32.ofNat p) (Int32.ofNat s) (if k = 0 then no1 else Int32.ofNat (bq A k).1) (if k = 0 then Int32.ofNat 0 else Int32.ofNat (bq A k).2) (Int32.ofNat (k + 1)) (mkH n z D mm jj rr)) (if cn F 30 = 0 then no1 else Int32.ofNat (bq A 3).1) := by
          have bqb : ∀ k, (bq A k).2 ≤ 1000000 ∧ (bq A k).1 ≤ k := by
            intro k
            induction k with
            | zero => exact ⟨Nat.le_refl _, Nat.le_refl _⟩
            | succ k ih =>
              rw [bq]
              split
              · have := Ab (k + 1)
                exact ⟨by show A (k + 1) ≤ _; omega, Nat.le_refl _⟩
              · exact ⟨ih.1, by omega⟩
          intro rem
          induction rem with
          | zero =>
            intro k fuel mm jj rr hk hf hz a1 a2
            obtain ⟨f, rfl⟩ : ∃ f, fuel = f + 1 := ⟨fuel - 1, by omega⟩
            have : k = 3 := by omega
            subst this
            refine ⟨mm, jj, rr, ?_, a1.2.2.2.2.2, a2⟩
            have hz3 : ¬ cn F 30 = 0 := hz (by decide)
            rw [f_X12_ask_35.eq_2, if_neg hz3, if_pos (show (4 : Int32) ≤ Int32.ofNat (3 + 1) by rw [l4, i_le (by omega) (by omega)]; omega), if_neg (show ¬ 3 = 0 by decide)]
          | succ rem ih =>
            intro k fuel mm jj rr hk hf hz a1 a2
            obtain ⟨f, rfl⟩ : ∃ f, fuel = f + 1 := ⟨fuel - 1, by omega⟩
            obtain ⟨m', j', r', f', e, b1, b2⟩ := inner (f_X12_ask_35 f) (if k = 0 then no1 else Int32.ofNat (bq A k).1) (if k = 0 then Int32.ofNat 0 else Int32.ofNat (bq A k).2) (k + 1) (by omega) 30 0 fu mm jj rr (by omega) (by unfold fu; omega) a1 a2
            have hab := lS_b (f := F) (w := fun e => wT pl τ p e s (k + 1)) 30
            have eab : ∀ h : AH, f_J9_abs_0f7a4 (Int32.ofInt (lS F (fun e => wT pl τ p e s (k + 1)) 30)) h = some (Int32.ofNat (A (k + 1)), h) := fun h => by rw [J_abs (by omega), ← Ae]; rfl
            have hA1 := Ab (k + 1)
            have hbb := bqb k
            have estart : f_X12_ask_35 (f + 1) 72 (Int32.ofNat p) (Int32.ofNat s) (if k = 0 then no1 else Int32.ofNat (bq A k).1) (if k = 0 then Int32.ofNat 0 else Int32.ofNat (bq A k).2) (Int32.ofNat (k + 1)) (mkH n z D mm jj rr) = f_X12_ask_51 (f_X12_ask_35 f) (f' + 1) 72 (Int32.ofNat p) (Int32.ofNat s) (if k = 0 then no1 else Int32.ofNat (bq A k).1) (if k = 0 then Int32.ofNat 0 else Int32.ofNat (bq A k).2) (Int32.ofNat (k + 1)) (Int32.ofInt (lS F (fun e => wT pl τ p e s (k + 1)) 30)) (if cn F 30 = 0 then Int32.ofNat 0 else Int32.ofNat 1) (Int32.ofNat 40) (mkH n z D m' j' r') := by
              rw [f_X12_ask_35.eq_2, if_neg (show ¬ (4 : Int32) ≤ Int32.ofNat (k + 1) by rw [l4, i_le (by omega) (by omega)]; omega)]
              exact e
            rw [estart, f_X12_ask_51.eq_2]
            by_cases hz0 : cn F 30 = 0
            · refine ⟨m', j', r', ?_, b1.2.2.2.2.2, b2⟩
              rw [if_pos hz0, if_pos hz0]
              simp (disch := omega) only [obs, cN_mk, ite_true, ite_false, if_true, if_false, l40, ile_t, l0, l1, no1_e, bI_t, bI_f, ieq_f, ile_t, ile_f, ilt_t, ilt_f]
            · obtain ⟨m9, j9, r9, e9, x⟩ := ih (k + 1) f m' j' r' (by omega) (by omega) (fun _ => hz0) b1 b2
              refine ⟨m9, j9, r9, ?_, x⟩
              rw [if_neg (show ¬ k + 1 = 0 by omega), if_neg (show ¬ k + 1 = 0 by omega)] at e9
              rw [← e9, if_neg hz0]
              by_cases hk0 : k = 0
              · subst hk0
                have eb : bq A (0 + 1) = (0 + 1, A (0 + 1)) := if_pos (Or.inl rfl)
                rw [eb, if_pos rfl, if_pos rfl]
                simp (disch := omega) only [obs, cN_mk, ite_true, ite_false, if_true, if_false, l40, ile_t, l0, l1, no1_e, bI_t, bI_f, ieq_f, ile_t, ile_f, ilt_t, ilt_f, eab, f_X12_ask_132, f_X12_ask_139, i_add]
              · have n3 : (Int32.ofNat (bq A k).1 = no1) = False := eq_false (fun h => (no1_ne (by omega)).mp h)
                rw [if_neg hk0, if_neg hk0]
                by_cases hup : A (k + 1) < (bq A k).2
                · have eb : bq A (k + 1) = (k + 1, A (k + 1)) := if_pos (Or.inr hup)
                  rw [eb]
                  simp (disch := omega) only [obs, cN_mk, ite_true, ite_false, if_true, if_false, l40, ile_t, l0, l1, no1_e, bI_t, bI_f, ieq_f, ile_t, ile_f, ilt_t, ilt_f, eab, n3, f_X12_ask_132, f_X12_ask_139, i_add]
                · have eb : bq A (k + 1) = bq A k := if_neg (fun h => by rcases h with h | h; exact hk0 h; exact hup h)
                  rw [eb]
                  simp (disch := omega) only [obs, cN_mk, ite_true, ite_false, if_true, if_false, l40, ile_t, l0, l1, no1_e, bI_t, bI_f, ieq_f, ile_t, ile_f, ilt_t, ilt_f, eab, n3, f_X12_ask_139, i_add]
        have := outer 3 0 fu m2 j1 r1 (by omega) (by unfold fu; omega) (fun h => absurd rfl h) h2 FQm_refl
        rw [if_pos rfl, if_pos rfl] at this
        simp (disch := omega) only [obs, cN_mk, ite_true, ite_false, if_true, if_false, q72, M_isPerson h2.2.2.1, i64_1, i64_9, M_inK, Nat.reduceAdd, him, hiy, l0, l1, no1_e, bI_t, bI_f, ieq_f, ile_t, ile_f, ilt_t, ilt_f]
        exact this
end ASKS
