/-! Loops over corners and people: the model. -/
def popc (x : Nat) : Nat := sm (fun i => if x.testBit i = true then 1 else 0) 6
theorem bc64 {x : Nat} (hx : x < 64) {h : AH} : f_J6_bitCount_0f7a4 (Int32.ofNat x) h = some (Int32.ofNat (popc x), h) := by
  have : ∀ x, x < 64 → (f_J6_bitCount_0f7a4 (Int32.ofNat x) (0, 0, fun _ => none)).map Prod.fst = some (Int32.ofNat (popc x)) := by decide +kernel
  have h1 := this x hx
  unfold f_J6_bitCount_0f7a4 f_J6_bitCount_0f7a4_0 at h1 ⊢
  simp only [Option.map_some, Option.some.injEq] at h1
  rw [h1]
theorem sm_cg {f g : Nat → Nat} : ∀ N, (∀ i, i < N → f i = g i) → sm f N = sm g N
  | 0, _ => rfl
  | N + 1, h => by rw [sm, sm, h N (by omega), sm_cg N (fun i hi => h i (by omega))]
theorem sm_up {f : Nat → Nat} {N : Nat} : ∀ k, (∀ i, N ≤ i → f i = 0) → sm f (N + k) = sm f N
  | 0, _ => rfl
  | k + 1, h => by rw [show N + (k + 1) = N + k + 1 by omega, sm, h _ (by omega), Nat.add_zero, sm_up k h]
theorem sm3 {f : Nat → Nat} : sm f 3 = f 0 + f 1 + f 2 := by
  rw [sm, sm, sm, sm, Nat.zero_add]
theorem popc_bts {g : Nat → Bool} {P : Nat} (hP : P ≤ 6) : popc (bts g P) = sm (fun i => if g i = true then 1 else 0) P := by
  unfold popc
  rw [show 6 = P + (6 - P) by omega, sm_up (f := fun i => if (bts g P).testBit i = true then 1 else 0) (6 - P) (fun i hi => by
    show (if (bts g P).testBit i = true then 1 else 0) = 0
    rw [bts_tb, decide_eq_false (by omega)]
    rfl)]
  apply sm_cg
  intro i hi
  show (if (bts g P).testBit i = true then 1 else 0) = _
  rw [bts_tb, decide_eq_true hi, Bool.true_and]
section MLP
variable {n z : Nat} {D : Dyn} {m m1 m' : MI} {j j1 j' : MJ} {r r1 r' : MR} {C P : Nat} {τ σ : Sg} {p c k y : Nat} {x : Int32}
theorem M_timesOfAll (hP : P ≤ 6) (hY : YM m C P τ) (hM : MS (m 85) σ C P) : f_X12_count_114 fu 72 (Int32.ofNat 0) (Int32.ofNat 0) (mkH n z D m j r) = some (Int32.ofNat (sm (fun i => σ 3 i) P), (mkH n z D m j r)) := by
  refine lpI (fun f i => f_X12_count_114 f 72 (Int32.ofNat (sm (fun i => σ 3 i) i)) (Int32.ofNat i) (mkH n z D m j r)) P ?_ ?_ P 0 fu (by omega) (by unfold fu; omega)
  · intro f i hi
    rw [f_X12_count_114.eq_2]
    simp (disch := omega) only [obs, cN_mk, ite_true, ite_false, if_true, if_false, q72, hY.2.1, ile_f, l1, M_folk (Or.inl rfl : 85 = 85 ∨ 85 = 86), hM.2.1, i_add, sm]
  · intro f
    rw [f_X12_count_114.eq_2]
    simp (disch := omega) only [obs, cN_mk, ite_true, ite_false, if_true, if_false, q72, hY.2.1, ile_t]
theorem M_kinds (hW : WY C P τ) (hY : YM m C P τ) (hk : k ≤ 3) : f_X12_kinds_30 fu 72 (Int32.ofNat k) (Int32.ofNat 0) (Int32.ofNat 0) (mkH n z D m j r) = some (Int32.ofNat (bts (fun i => decide (τ 0 i = k)) P), (mkH n z D m j r)) := by
  have hP := hW.2.1
  have y := YMp hY
  refine lpI (fun f i => f_X12_kinds_30 f 72 (Int32.ofNat k) (Int32.ofNat (bts (fun i => decide (τ 0 i = k)) i)) (Int32.ofNat i) (mkH n z D m j r)) P ?_ ?_ P 0 fu (by omega) (by unfold fu; omega)
  · intro f i hi
    have t := hW.2.2.2.2.2.2 i hi
    rw [f_X12_kinds_30.eq_2]
    by_cases h : τ 0 i = k
    · simp (disch := omega) only [obs, cN_mk, ite_true, ite_false, if_true, if_false, q72, hY.2.1, ile_f, l0, M_of, y, h, f_X12_kinds_56, l1, l31, i_bit, i_or, i_add, bts, decide_true]
    · simp (disch := omega) only [obs, cN_mk, ite_true, ite_false, if_true, if_false, q72, hY.2.1, ile_f, l0, M_of, y, ieq_f, h, f_X12_kinds_56, l1, i_or, Nat.or_zero, i_add, bts, decide_false, Bool.false_eq_true]
  · intro f
    rw [f_X12_kinds_30.eq_2]
    simp (disch := omega) only [obs, cN_mk, ite_true, ite_false, if_true, if_false, q72, hY.2.1, ile_t]
theorem M_old (hW : WY C P τ) (hS : WS C P 999 σ) (hY : YM m C P τ) (hM : MS (m 85) σ C P) : f_X12_all_120 fu 72 (Int32.ofNat 0) (Int32.ofNat 0) (mkH n z D m j r) = some (Int32.ofNat (bts (fun i => decide (τ 6 2 ≤ σ 3 i)) P), (mkH n z D m j r)) := by
  have hP := hW.2.1
  have t6 := hW.2.2.2.2.2.1
  refine lpI (fun f i => f_X12_all_120 f 72 (Int32.ofNat (bts (fun i => decide (τ 6 2 ≤ σ 3 i)) i)) (Int32.ofNat i) (mkH n z D m j r)) P ?_ ?_ P 0 fu (by omega) (by unfold fu; omega)
  · intro f i hi
    have s1 := hS.2.1 i hi
    have e := M_isOld (n := n) (z := z) (D := D) (j := j) (r := r) (Or.inl rfl) hY hi hP t6 s1.2.1 (hM.2.1 i hi).2.1
    rw [f_X12_all_120.eq_2]
    cases h : decide (τ 6 2 ≤ σ 3 i) with
    | true =>
      rw [h] at e
      simp (disch := omega) only [obs, cN_mk, ite_true, ite_false, if_true, if_false, q72, hY.2.1, ile_f, e, l0, l1, no1_e, bI_t, bI_f, ieq_f, ile_t, ile_f, ilt_t, ilt_f, f_X12_all_148, l31, i_bit, i_or, i_add, bts, h]
    | false =>
      rw [h] at e
      simp (disch := omega) only [obs, cN_mk, ite_true, ite_false, if_true, if_false, q72, hY.2.1, ile_f, e, l0, l1, no1_e, bI_t, bI_f, ieq_f, ile_t, ile_f, ilt_t, ilt_f, f_X12_all_148, i_or, Nat.or_zero, i_add, bts, h, Bool.false_eq_true]
  · intro f
    rw [f_X12_all_120.eq_2]
    simp (disch := omega) only [obs, cN_mk, ite_true, ite_false, if_true, if_false, q72, hY.2.1, ile_t]
theorem M_empty (hW : WY C P τ) (hS : WS C P 999 σ) (hY : YM m C P τ) (hM : MS (m 85) σ C P) : f_X12_all_160 fu 72 (Int32.ofNat 0) (Int32.ofNat 0) (mkH n z D m j r) = some (Int32.ofNat (bts (fun i => decide (σ 0 i = 0)) C), (mkH n z D m j r)) := by
  have hC := hW.1
  refine lpI (fun f i => f_X12_all_160 f 72 (Int32.ofNat (bts (fun i => decide (σ 0 i = 0)) i)) (Int32.ofNat i) (mkH n z D m j r)) C ?_ ?_ C 0 fu (by omega) (by unfold fu; omega)
  · intro f i hi
    have s1 := hS.1 i hi
    rw [f_X12_all_160.eq_2]
    by_cases h : σ 0 i = 0
    · simp (disch := omega) only [obs, cN_mk, ite_true, ite_false, if_true, if_false, q72, hY.1, ile_f, l0, l2, i_mul, i_add, Nat.add_zero, p85, hM.1, h, f_X12_all_189, l1, l31, i_bit, i_or, bts, decide_true]
    · simp (disch := omega) only [obs, cN_mk, ite_true, ite_false, if_true, if_false, q72, hY.1, ile_f, l0, l2, i_mul, i_add, Nat.add_zero, p85, hM.1, ieq_f, h, f_X12_all_189, l1, i_or, Nat.or_zero, bts, decide_false, Bool.false_eq_true]
  · intro f
    rw [f_X12_all_160.eq_2]
    simp (disch := omega) only [obs, cN_mk, ite_true, ite_false, if_true, if_false, q72, hY.1, ile_t]
theorem pB_mono {w : Nat} : ∀ k k', k ≤ k' → pB C τ p w c k = true → pB C τ p w c k' = true
  | k, 0, h, e => by have : k = 0 := by omega
                     subst this; exact e
  | k, k' + 1, h, e => by
    by_cases hk : k = k' + 1
    · subst hk; exact e
    · rw [pB, pB_mono k k' (by omega) e]; rfl
theorem M_passesBy (hW : WY C P τ) (hS : WS C P 999 σ) (hY : YM m C P τ) (hM : MS (m 85) σ C P) (hp : p < P) (hc : c < C) : f_X12_passesBy 72 (Int32.ofNat p) (Int32.ofNat c) (mkH n z D m j r) = some (bI (by' C τ σ p c), (mkH n z D m j r)) := by
  have hP := hW.2.1
  have hC := hW.1
  have h2 := hW.2.2.1 (by omega)
  have s4 := (hS.2.1 p hp).2.2
  have hl := wln_lt (C := C) (τ := τ) (p := p) (w := σ 4 p) h2
  have key : ∀ rem i fuel, i + rem = wln C τ p (σ 4 p) → rem < fuel → pB C τ p (σ 4 p) c i = false → f_X12_passesBy_13 fuel 72 (Int32.ofNat p) (Int32.ofNat c) (Int32.ofNat (σ 4 p)) (Int32.ofNat (i + 1)) (mkH n z D m j r) = some (bI (by' C τ σ p c), (mkH n z D m j r)) := by
    intro rem
    induction rem with
    | zero =>
      intro i fuel hi hf h
      obtain ⟨f, rfl⟩ : ∃ f, fuel = f + 1 := ⟨fuel - 1, by omega⟩
      have hi' : i = wln C τ p (σ 4 p) := by omega
      rw [hi'] at h
      rw [f_X12_passesBy_13.eq_2]
      unfold by'
      rw [h]
      simp (disch := omega) only [obs, cN_mk, ite_true, ite_false, if_true, if_false, q72, M_longOf hW hY hp s4, ilt_t, bI_f, l0]
    | succ rem ih =>
      intro i fuel hi hf h
      obtain ⟨f, rfl⟩ : ∃ f, fuel = f + 1 := ⟨fuel - 1, by omega⟩
      have cl := crn_lt (τ := τ) (p := p) (w := σ 4 p) (k := i + 1) h2
      have e := M_cornerAt (n := n) (z := z) (D := D) (j := j) (r := r) (k := i + 1) hW hY hp s4 (by omega)
      rw [f_X12_passesBy_13.eq_2]
      by_cases h1 : crn C τ p (σ 4 p) (i + 1) = c
      · have : by' C τ σ p c = true := pB_mono (i + 1) _ (by omega) (by rw [pB, decide_eq_true h1, Bool.or_true])
        rw [this]
        simp (disch := omega) only [obs, cN_mk, ite_true, ite_false, if_true, if_false, q72, M_longOf hW hY hp s4, ilt_f, e, h1, bI_t, l1]
      · have ih := ih (i + 1) f (by omega) (by omega) (by rw [pB, h, decide_eq_false h1]; rfl)
        simp (disch := omega) only [obs, cN_mk, ite_true, ite_false, if_true, if_false, q72, M_longOf hW hY hp s4, ilt_f, e, ieq_f, l1, i_add, ih]
  have := key (wln C τ p (σ 4 p)) 0 fu (by omega) (by unfold fu; omega) rfl
  unfold f_X12_passesBy f_X12_passesBy_0
  simp (disch := omega) only [obs, cN_mk, ite_true, ite_false, if_true, if_false, q72, l2, M_folk (Or.inl rfl : 85 = 85 ∨ 85 = 86), hM.2.1, l1]
  exact this
theorem M_passers (hW : WY C P τ) (hS : WS C P 999 σ) (hY : YM m C P τ) (hM : MS (m 85) σ C P) (hc : c < C) : f_X12_passers 72 (Int32.ofNat c) (mkH n z D m j r) = some (Int32.ofNat (bts (fun i => by' C τ σ i c) P), (mkH n z D m j r)) := by
  have hP := hW.2.1
  unfold f_X12_passers f_X12_passers_0
  refine lpI (fun f i => f_X12_passers_4 f 72 (Int32.ofNat c) (Int32.ofNat (bts (fun i => by' C τ σ i c) i)) (Int32.ofNat i) (mkH n z D m j r)) P ?_ ?_ P 0 fu (by omega) (by unfold fu; omega)
  · intro f i hi
    rw [f_X12_passers_4.eq_2]
    have e := M_passesBy (n := n) (z := z) (D := D) (j := j) (r := r) hW hS hY hM hi hc
    cases hB : by' C τ σ i c with
    | true =>
      rw [hB] at e
      simp (disch := omega) only [obs, cN_mk, ite_true, ite_false, if_true, if_false, q72, hY.2.1, ile_f, e, l0, l1, no1_e, bI_t, bI_f, ieq_f, ile_t, ile_f, ilt_t, ilt_f, l31, f_X12_passers_29, i_bit, i_or, i_add, bts, hB]
    | false =>
      rw [hB] at e
      simp (disch := omega) only [obs, cN_mk, ite_true, ite_false, if_true, if_false, q72, hY.2.1, ile_f, e, l0, l1, no1_e, bI_t, bI_f, ieq_f, ile_t, ile_f, ilt_t, ilt_f, f_X12_passers_29, i_or, Nat.or_zero, i_add, bts, hB, Bool.false_eq_true]
  · intro f
    rw [f_X12_passers_4.eq_2]
    simp (disch := omega) only [obs, cN_mk, ite_true, ite_false, if_true, if_false, q72, hY.2.1, ile_t]
/-- what the model compares -/
def vO (C P : Nat) (τ σ : Sg) (k i : Nat) : Nat := if k = 0 then sm (fun p => if by' C τ σ p i = true then 1 else 0) P else if k = 1 then σ 1 i else if k = 2 then σ 2 i else if k = 3 then τ 1 i else σ 3 i
theorem vO_b (hW : WY C P τ) (hS : WS C P 999 σ) (hk : k ≤ 4) {i : Nat} (hi : i < (if k < 2 then C else P)) : vO C P τ σ k i < 1000000 := by
  unfold vO
  have hP := hW.2.1
  rcases (show k = 0 ∨ k = 1 ∨ k = 2 ∨ k = 3 ∨ k = 4 by omega) with rfl | rfl | rfl | rfl | rfl
  · have := sm_le (f := fun p => if by' C τ σ p i = true then 1 else 0) (b := 1) P (fun q _ => by show (if by' C τ σ q i = true then 1 else 0) ≤ 1; split <;> omega)
    simp only [if_true]
    omega
  · have := (hS.1 i (by simpa using hi)).2
    simp; omega
  · have := (hS.2.1 i (by simpa using hi)).1
    simp; omega
  · have := (hW.2.2.2.2.2.2 i (by simpa using hi)).2.1
    simp; omega
  · have := (hS.2.1 i (by simpa using hi)).2.1
    simp; omega
theorem M_valueOf (hW : WY C P τ) (hS : WS C P 999 σ) (hY : YM m C P τ) (hM : MS (m 85) σ C P) (hk : k ≤ 4) {i : Nat} (hi : i < (if k < 2 then C else P)) : f_X12_valueOf 72 (Int32.ofNat k) (Int32.ofNat i) (mkH n z D m j r) = some (Int32.ofNat (vO C P τ σ k i), (mkH n z D m j r)) := by
  have hP := hW.2.1
  have hC := hW.1
  have y := YMp hY
  have g32 : gR [12] (mkH n z D m j r) 72 32 = some 85 := gR_mk rfl (by decide) rfl
  have c72 : isC [12] (mkH n z D m j r) 72 = some () := isC_mk rfl (by decide)
  unfold f_X12_valueOf f_X12_valueOf_0
  rcases (show k = 0 ∨ k = 1 ∨ k = 2 ∨ k = 3 ∨ k = 4 by omega) with rfl | rfl | rfl | rfl | rfl
  · have hi : i < C := by simpa using hi
    have hb := bts_lt (f := fun q => by' C τ σ q i) P
    have h64 := pow6 hP
    rw [if_pos (show Int32.ofNat 0 = 0 from rfl), c72, obs, M_passers hW hS hY hM hi, cN_mk, bc64 (by omega), cN_mk, popc_bts hP]
    rfl
  · have hi : i < C := by simpa using hi
    rw [if_neg (show ¬ Int32.ofNat 1 = 0 by decide), if_pos (show Int32.ofNat 1 = 1 from rfl), g32, obs, l2, l1, i_mul, i_add, p85.1 _ (by omega), obs, (hM.1 i hi).2]
    rfl
  · have hi : i < P := by simpa using hi
    rw [if_neg (show ¬ Int32.ofNat 2 = 0 by decide), if_neg (show ¬ Int32.ofNat 2 = 1 by decide), if_pos (show Int32.ofNat 2 = 2 from rfl), g32, obs, l0, M_folk (Or.inl rfl) (by omega), cN_mk, Nat.add_zero, (hM.2.1 i hi).1]
    rfl
  · have hi : i < P := by simpa using hi
    rw [if_neg (show ¬ Int32.ofNat 3 = 0 by decide), if_neg (show ¬ Int32.ofNat 3 = 1 by decide), if_neg (show ¬ Int32.ofNat 3 = 2 by decide), if_pos (show Int32.ofNat 3 = 3 from rfl), c72, obs, l1, M_of (by omega), cN_mk, y.2.1 i hi]
    rfl
  · have hi : i < P := by simpa using hi
    rw [if_neg (show ¬ Int32.ofNat 4 = 0 by decide), if_neg (show ¬ Int32.ofNat 4 = 1 by decide), if_neg (show ¬ Int32.ofNat 4 = 2 by decide), if_neg (show ¬ Int32.ofNat 4 = 3 by decide), g32, obs, l1, M_folk (Or.inl rfl) (by omega), cN_mk, (hM.2.1 i hi).2.1]
    rfl
theorem M_greatest (hW : WY C P τ) (hP0 : 0 < P) (hS : WS C P 999 σ) (hY : YM m C P τ) (hM : MS (m 85) σ C P) (hk : k ≤ 4) : f_X12_greatest 72 (Int32.ofNat k) (mkH n z D m j r) = some (Int32.ofNat (am (vO C P τ σ k) (if k < 2 then C else P)), (mkH n z D m j r)) := by
  have hP := hW.2.1
  have hC := hW.1
  have h2 := hW.2.2.1 hP0
  generalize hN : (if k < 2 then C else P) = N
  have hN1 : 1 ≤ N := by rw [← hN]; split <;> omega
  have hN6 : N ≤ 6 := by rw [← hN]; split <;> omega
  have lp : f_X12_greatest_22 fu 72 (Int32.ofNat k) (Int32.ofNat (am (vO C P τ σ k) 1)) (Int32.ofNat N) (Int32.ofNat 1) (mkH n z D m j r) = some (Int32.ofNat (am (vO C P τ σ k) N), (mkH n z D m j r)) := by
    refine lpJ (fun f i => f_X12_greatest_22 f 72 (Int32.ofNat k) (Int32.ofNat (am (vO C P τ σ k) i)) (Int32.ofNat N) (Int32.ofNat i) (mkH n z D m j r)) 1 N ?_ ?_ (N - 1) 1 fu (by omega) (by omega) (by unfold fu; omega)
    · intro f i h1 hi
      have ha := am_lt (f := vO C P τ σ k) i (by omega)
      have e1 := M_valueOf (n := n) (z := z) (D := D) (j := j) (r := r) (i := i) hW hS hY hM hk (by omega)
      have e2 := M_valueOf (n := n) (z := z) (D := D) (j := j) (r := r) (i := am (vO C P τ σ k) i) hW hS hY hM hk (by omega)
      have b1 := vO_b (C := C) (P := P) (τ := τ) (σ := σ) (k := k) (i := i) hW hS hk (by omega)
      have b2 := vO_b (C := C) (P := P) (τ := τ) (σ := σ) (k := k) (i := am (vO C P τ σ k) i) hW hS hk (by omega)
      rw [f_X12_greatest_22.eq_2, am]
      by_cases hlt : vO C P τ σ k (am (vO C P τ σ k) i) < vO C P τ σ k i
      · simp (disch := omega) only [obs, cN_mk, ite_true, ite_false, if_true, if_false, q72, ile_f, e1, e2, f_X12_greatest_50, l1, i_add, hlt]
      · simp (disch := omega) only [obs, cN_mk, ite_true, ite_false, if_true, if_false, q72, ile_f, ile_t, e1, e2, f_X12_greatest_50, l1, i_add, hlt]
    · intro f
      rw [f_X12_greatest_22.eq_2]
      simp (disch := omega) only [obs, cN_mk, ite_true, ite_false, if_true, if_false, ile_t]
  rw [am_1] at lp
  unfold f_X12_greatest f_X12_greatest_0
  by_cases h2k : 2 ≤ k
  · rw [if_neg (by omega)] at hN
    subst hN
    simp (disch := omega) only [obs, cN_mk, ite_true, ite_false, if_true, if_false, l2, ile_t, q72, hY.2.1, f_X12_greatest_18, l0, l1, lp]
  · rw [if_pos (by omega)] at hN
    subst hN
    simp (disch := omega) only [obs, cN_mk, ite_true, ite_false, if_true, if_false, l2, ile_f, q72, hY.1, f_X12_greatest_18, l0, l1, lp]
/-- nobody on whose walk there lies what moves him -/
def hn (C : Nat) (τ σ : Sg) (p : Nat) : Nat → Bool
  | 0 => true
  | c + 1 => hn C τ σ p c && !(by' C τ σ p c && decide (σ 0 c = τ 0 p))
theorem hn_mono : ∀ k k', k ≤ k' → hn C τ σ p k = false → hn C τ σ p k' = false
  | k, 0, h, e => by have : k = 0 := by omega
                     subst this; exact e
  | k, k' + 1, h, e => by
    by_cases hk : k = k' + 1
    · subst hk; exact e
    · rw [hn, hn_mono k k' (by omega) e]; rfl
theorem hn_e : ∀ N, (hn C τ σ p N = true ↔ ∀ c, c < N → ¬ (by' C τ σ p c = true ∧ σ 0 c = τ 0 p))
  | 0 => ⟨fun _ c hc => absurd hc (by omega), fun _ => rfl⟩
  | N + 1 => by
    rw [hn, Bool.and_eq_true, hn_e N]
    constructor
    · intro ⟨h1, h2⟩ c hc ⟨a1, a2⟩
      by_cases e : c = N
      · subst e
        rw [a1, decide_eq_true a2] at h2
        cases h2
      · exact h1 c (by omega) ⟨a1, a2⟩
    · intro h
      refine ⟨fun c hc => h c (by omega), ?_⟩
      have := h N (by omega)
      cases hb : by' C τ σ p N with
      | false => rfl
      | true => rw [decide_eq_false (fun e => this ⟨hb, e⟩)]; rfl
theorem hn_w (hC : C ≤ 5) : hn C τ σ p C = decide (wB C τ p (σ 4 p) (wln C τ p (σ 4 p)) &&& bts (fun c => decide (σ 0 c = τ 0 p)) C = 0) := by
  have key : hn C τ σ p C = true ↔ (wB C τ p (σ 4 p) (wln C τ p (σ 4 p)) &&& bts (fun c => decide (σ 0 c = τ 0 p)) C = 0) := by
    rw [hn_e]
    constructor
    · intro h
      apply Nat.eq_of_testBit_eq
      intro d
      rw [Nat.testBit_and, wB_tb, bts_tb, Nat.zero_testBit]
      by_cases hd : d < C
      · have := h d hd
        cases hb : pB C τ p (σ 4 p) d (wln C τ p (σ 4 p)) with
        | false => rfl
        | true => rw [decide_eq_false (p := σ 0 d = τ 0 p) (fun e => this ⟨hb, e⟩)]; simp
      · rw [decide_eq_false hd]; simp
    · intro h c hc ⟨a1, a2⟩
      have := congrArg (fun v => Nat.testBit v c) h
      simp only [Nat.testBit_and, wB_tb, bts_tb, Nat.zero_testBit] at this
      unfold by' at a1
      rw [a1, decide_eq_true hc, decide_eq_true a2] at this
      cases this
  cases hb : hn C τ σ p C with
  | true => rw [decide_eq_true (key.mp hb)]
  | false => rw [decide_eq_false (fun e => by rw [key.mpr e] at hb; cases hb)]
theorem M_isHonest (hW : WY C P τ) (hS : WS C P 999 σ) (hY : YM m C P τ) (hM : MS (m 85) σ C P) (hp : p < P) : f_X12_isHonest 72 (Int32.ofNat p) (mkH n z D m j r) = some (bI (hn C τ σ p C), (mkH n z D m j r)) := by
  have hP := hW.2.1
  have hC := hW.1
  have y := YMp hY
  have t := hW.2.2.2.2.2.2 p hp
  have key : ∀ rem i fuel, i + rem = C → rem < fuel → hn C τ σ p i = true → f_X12_isHonest_2 fuel 72 (Int32.ofNat p) (Int32.ofNat i) (mkH n z D m j r) = some (bI (hn C τ σ p C), (mkH n z D m j r)) := by
    intro rem
    induction rem with
    | zero =>
      intro i fuel hi hf h
      obtain ⟨f, rfl⟩ : ∃ f, fuel = f + 1 := ⟨fuel - 1, by omega⟩
      have hi' : i = C := by omega
      subst hi'
      rw [f_X12_isHonest_2.eq_2, h]
      simp (disch := omega) only [obs, cN_mk, ite_true, ite_false, if_true, if_false, q72, hY.1, ile_t, bI_t, l1]
    | succ rem ih =>
      intro i fuel hi hf h
      obtain ⟨f, rfl⟩ : ∃ f, fuel = f + 1 := ⟨fuel - 1, by omega⟩
      have hiC : i < C := by omega
      have s1 := hS.1 i hiC
      have e := M_passesBy (n := n) (z := z) (D := D) (j := j) (r := r) hW hS hY hM hp hiC
      rw [f_X12_isHonest_2.eq_2]
      cases hB : by' C τ σ p i with
      | false =>
        rw [hB] at e
        have ih := ih (i + 1) f (by omega) (by omega) (by rw [hn, h, hB]; rfl)
        simp (disch := omega) only [obs, cN_mk, ite_true, ite_false, if_true, if_false, q72, hY.1, ile_f, e, l0, l1, no1_e, bI_t, bI_f, ieq_f, ile_t, ile_f, ilt_t, ilt_f, f_X12_isHonest_40, i_add, ih]
      | true =>
        rw [hB] at e
        by_cases h1 : σ 0 i = τ 0 p
        · have : hn C τ σ p C = false := hn_mono (i + 1) C (by omega) (by rw [hn, h, hB, decide_eq_true h1]; rfl)
          rw [this]
          have y0 := y.1 p hp
          rw [Nat.add_zero] at y0
          simp (disch := omega) only [obs, cN_mk, ite_true, ite_false, if_true, if_false, q72, hY.1, ile_f, e, l0, l1, no1_e, bI_t, bI_f, ieq_f, ile_t, ile_f, ilt_t, ilt_f, l2, i_mul, i_add, Nat.add_zero, p85, hM.1, M_of, y0, h1]
        · have ih := ih (i + 1) f (by omega) (by omega) (by rw [hn, h, hB, decide_eq_false h1]; rfl)
          have y0 := y.1 p hp
          rw [Nat.add_zero] at y0
          simp (disch := omega) only [obs, cN_mk, ite_true, ite_false, if_true, if_false, q72, hY.1, ile_f, e, l0, l1, no1_e, bI_t, bI_f, ieq_f, ile_t, ile_f, ilt_t, ilt_f, l2, i_mul, i_add, Nat.add_zero, p85, hM.1, M_of, y0, f_X12_isHonest_40, ih]
  unfold f_X12_isHonest f_X12_isHonest_0
  rw [l0]
  exact key C 0 fu (by omega) (by unfold fu; omega) rfl
theorem M_honest (hW : WY C P τ) (hS : WS C P 999 σ) (hY : YM m C P τ) (hM : MS (m 85) σ C P) : f_X12_all_84 fu 72 (Int32.ofNat 0) (Int32.ofNat 0) (mkH n z D m j r) = some (Int32.ofNat (bts (fun i => hn C τ σ i C) P), (mkH n z D m j r)) := by
  have hP := hW.2.1
  refine lpI (fun f i => f_X12_all_84 f 72 (Int32.ofNat (bts (fun i => hn C τ σ i C) i)) (Int32.ofNat i) (mkH n z D m j r)) P ?_ ?_ P 0 fu (by omega) (by unfold fu; omega)
  · intro f i hi
    rw [f_X12_all_84.eq_2]
    have e := M_isHonest (n := n) (z := z) (D := D) (j := j) (r := r) hW hS hY hM hi
    cases hB : hn C τ σ i C with
    | true =>
      rw [hB] at e
      simp (disch := omega) only [obs, cN_mk, ite_true, ite_false, if_true, if_false, q72, hY.2.1, ile_f, e, l0, l1, no1_e, bI_t, bI_f, ieq_f, ile_t, ile_f, ilt_t, ilt_f, l31, f_X12_all_108, i_bit, i_or, i_add, bts, hB]
    | false =>
      rw [hB] at e
      simp (disch := omega) only [obs, cN_mk, ite_true, ite_false, if_true, if_false, q72, hY.2.1, ile_f, e, l0, l1, no1_e, bI_t, bI_f, ieq_f, ile_t, ile_f, ilt_t, ilt_f, f_X12_all_108, i_or, Nat.or_zero, i_add, bts, hB, Bool.false_eq_true]
  · intro f
    rw [f_X12_all_84.eq_2]
    simp (disch := omega) only [obs, cN_mk, ite_true, ite_false, if_true, if_false, q72, hY.2.1, ile_t]
/-- the kinds that lie, as bits -/
def lk (σ : Sg) : Nat → Nat
  | 0 => 0
  | c + 1 => lk σ c ||| 1 <<< σ 0 c
theorem lk_lt (h : ∀ c, c < C → σ 0 c ≤ 3) : lk σ C < 16 := by
  induction C with
  | zero => exact Nat.zero_lt_succ 15
  | succ C ih => exact bit_lt (N := 4) (ih (fun c hc => h c (by omega))) (by have := h C (by omega); omega)
theorem lk_tb {d : Nat} : ∀ N, (lk σ N).testBit d = true ↔ ∃ c, c < N ∧ σ 0 c = d
  | 0 => by simp [lk]
  | N + 1 => by
    rw [lk, bit_tb, Bool.or_eq_true, lk_tb N, decide_eq_true_iff]
    constructor
    · rintro (⟨c, h1, h2⟩ | h)
      · exact ⟨c, by omega, h2⟩
      · exact ⟨N, by omega, h.symm⟩
    · rintro ⟨c, h1, h2⟩
      by_cases e : c = N
      · subst e; exact Or.inr h2.symm
      · exact Or.inl ⟨c, by omega, h2⟩
theorem bts_z {f : Nat → Bool} : ∀ N, (bts f N = 0 ↔ ∀ i, i < N → f i = false) := by
  intro N
  constructor
  · intro h i hi
    have := bts_tb (f := f) N i
    rw [h, Nat.zero_testBit, decide_eq_true hi, Bool.true_and] at this
    exact this.symm
  · intro h
    apply Nat.eq_of_testBit_eq
    intro d
    rw [bts_tb, Nat.zero_testBit]
    by_cases hd : d < N
    · rw [h d hd, Bool.and_false]
    · rw [decide_eq_false hd, Bool.false_and]
theorem lk_pop {x : Nat} (hx : x < 16) : popc (x &&& 14) = (if x.testBit 1 = true then 1 else 0) + (if x.testBit 2 = true then 1 else 0) + (if x.testBit 3 = true then 1 else 0) := by
  have : ∀ x, x < 16 → popc (x &&& 14) = (if x.testBit 1 = true then 1 else 0) + (if x.testBit 2 = true then 1 else 0) + (if x.testBit 3 = true then 1 else 0) := by decide +kernel
  exact this x hx
theorem M_laid (hW : WY C P τ) (hS : WS C P 999 σ) (hY : YM m C P τ) (hM : MS (m 85) σ C P) : f_X12_laidKinds 72 (mkH n z D m j r) = some (Int32.ofNat (sm (fun k => if bts (fun c => decide (σ 0 c = k + 1)) C = 0 then 0 else 1) 3), (mkH n z D m j r)) := by
  have hC := hW.1
  have hl := lk_lt (σ := σ) (C := C) (fun c hc => (hS.1 c hc).1)
  have hv : sm (fun k => if bts (fun c => decide (σ 0 c = k + 1)) C = 0 then 0 else 1) 3 = popc (lk σ C &&& 14) := by
    rw [lk_pop hl]
    have hk : ∀ k, (if bts (fun c => decide (σ 0 c = k + 1)) C = 0 then 0 else 1) = (if (lk σ C).testBit (k + 1) = true then 1 else 0) := by
      intro k
      by_cases h : (lk σ C).testBit (k + 1) = true
      · rw [if_pos h, if_neg (fun e => ?_)]
        obtain ⟨c, h1, h2⟩ := (lk_tb C).mp h
        have := (bts_z C).mp e c h1
        rw [decide_eq_true h2] at this
        cases this
      · rw [if_neg h, if_pos ((bts_z C).mpr (fun i hi => decide_eq_false (fun e => h ((lk_tb C).mpr ⟨i, hi, e⟩))))]
    rw [sm3]
    simp only [hk]
  unfold f_X12_laidKinds f_X12_laidKinds_0
  rw [hv]
  refine lpI (fun f i => f_X12_laidKinds_4 f 72 (Int32.ofNat (lk σ i)) (Int32.ofNat i) (mkH n z D m j r)) C ?_ ?_ C 0 fu (by omega) (by unfold fu; omega)
  · intro f i hi
    have s1 := hS.1 i hi
    rw [f_X12_laidKinds_4.eq_2]
    simp (disch := omega) only [obs, cN_mk, ite_true, ite_false, if_true, if_false, q72, hY.1, ile_f, l0, l2, i_mul, i_add, Nat.add_zero, p85, hM.1, l1, l31, i_bit, i_or, lk]
  · intro f
    have hle : lk σ C &&& 14 ≤ lk σ C := Nat.and_le_left
    rw [f_X12_laidKinds_4.eq_2]
    simp (disch := omega) only [obs, cN_mk, ite_true, ite_false, if_true, if_false, q72, hY.1, ile_t, l14, i_and, bc64]
theorem M_shares {v : Nat} (hW : WY C P τ) (hS : WS C P 999 σ) (hY : YM m C P τ) (hM : MS (m 85) σ C P) (hc : c < C) (hv : v ≤ 999) : f_X12_shares_32 fu 72 (Int32.ofNat c) (Int32.ofNat v) (Int32.ofNat 0) (Int32.ofNat 0) (mkH n z D m j r) = some (Int32.ofNat (v * σ 1 c / sm (fun i => σ 1 i) C), (mkH n z D m j r)) := by
  have hC := hW.1
  have s1 := hS.1 c hc
  have sb := sm_le (f := fun i => σ 1 i) (b := 9) C (fun i hi => (hS.1 i hi).2)
  have hmul : v * σ 1 c ≤ 999 * 9 := Nat.mul_le_mul hv s1.2
  refine lpI (fun f i => f_X12_shares_32 f 72 (Int32.ofNat c) (Int32.ofNat v) (Int32.ofNat (sm (fun i => σ 1 i) i)) (Int32.ofNat i) (mkH n z D m j r)) C ?_ ?_ C 0 fu (by omega) (by unfold fu; omega)
  · intro f i hi
    rw [f_X12_shares_32.eq_2]
    simp (disch := omega) only [obs, cN_mk, ite_true, ite_false, if_true, if_false, q72, hY.1, ile_f, l2, l1, i_mul, i_add, p85, hM.1, sm]
  · intro f
    rw [f_X12_shares_32.eq_2]
    by_cases h0 : sm (fun i => σ 1 i) C = 0
    · rw [h0, Nat.div_zero]
      simp (disch := omega) only [obs, cN_mk, ite_true, ite_false, if_true, if_false, q72, hY.1, ile_t, l0]
    · simp (disch := omega) only [obs, cN_mk, ite_true, ite_false, if_true, if_false, q72, hY.1, ile_t, l0, ieq_f, l2, l1, i_mul, i_add, p85, hM.1, i_div]
end MLP
