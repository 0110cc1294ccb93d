/-! Loops over corners and people: the class. -/
def wB (C : Nat) (τ : Sg) (p w : Nat) : Nat → Nat
  | 0 => 0
  | k + 1 => wB C τ p w k ||| 1 <<< crn C τ p w (k + 1)
def pB (C : Nat) (τ : Sg) (p w c : Nat) : Nat → Bool
  | 0 => false
  | k + 1 => pB C τ p w c k || decide (crn C τ p w (k + 1) = c)
/-- whether one's walk comes by a corner -/
def by' (C : Nat) (τ σ : Sg) (p c : Nat) : Bool := pB C τ p (σ 4 p) c (wln C τ p (σ 4 p))
def am (f : Nat → Nat) : Nat → Nat
  | 0 => 0
  | i + 1 => if f (am f i) < f i then i else am f i
theorem wB_tb {C : Nat} {τ : Sg} {p w c : Nat} : ∀ k, (wB C τ p w k).testBit c = pB C τ p w c k
  | 0 => by simp [wB, pB]
  | k + 1 => by
    rw [wB, bit_tb, wB_tb k, pB]
    congr 1
    by_cases h : c = crn C τ p w (k + 1)
    · rw [decide_eq_true h, decide_eq_true h.symm]
    · rw [decide_eq_false h, decide_eq_false (fun e => h e.symm)]
theorem wB_lt {C : Nat} {τ : Sg} {p w : Nat} (h2 : 2 ≤ C) : ∀ k, wB C τ p w k < 2 ^ C
  | 0 => Nat.two_pow_pos C
  | k + 1 => bit_lt (wB_lt h2 k) (crn_lt h2)
theorem am_lt {f : Nat → Nat} : ∀ i, 0 < i → am f i < i
  | 0, h => absurd h (by omega)
  | i + 1, _ => by
    rw [am]
    split
    · omega
    · by_cases h : i = 0
      · subst h; simp [am]
      · have := am_lt (f := f) i (by omega)
        omega
theorem am_1 {f : Nat → Nat} : am f 1 = 0 := by
  simp [am]
theorem pow5 {C : Nat} (h : C ≤ 5) : 2 ^ C ≤ 32 := Nat.pow_le_pow_right (by omega) h
theorem pow6 {P : Nat} (h : P ≤ 6) : 2 ^ P ≤ 64 := Nat.pow_le_pow_right (by omega) h
section CLP
variable {n z : Nat} {D : Dyn} {m m1 m' : MI} {j j1 j' : MJ} {r r1 r' : MR} {C P : Nat} {τ σ : Sg} {p c k y : Nat} {x : Int32}
theorem C_timesOfAll (hP : P ≤ 6) (hY : YC m C P τ) (hM : CS m 27 σ C P) : f_X11_timesOfAll 0 (mkH n z D m j r) = some (Int32.ofNat (sm (fun i => σ 3 i) P), (mkH n z D m j r)) := by
  unfold f_X11_timesOfAll f_X11_timesOfAll_0
  refine lpI (fun f i => f_X11_timesOfAll_4 f 0 (Int32.ofNat (sm (fun i => σ 3 i) i)) (Int32.ofNat i) (mkH n z D m j r)) P ?_ ?_ P 0 fu (by omega) (by unfold fu; omega)
  · intro f i hi
    rw [f_X11_timesOfAll_4.eq_2]
    simp (disch := omega) only [obs, cN_mk, ite_true, ite_false, if_true, if_false, q0, q18, hY.2.1, ile_f, q27, p31, CS27 hM, l1, i_add, sm]
  · intro f
    rw [f_X11_timesOfAll_4.eq_2]
    simp (disch := omega) only [obs, cN_mk, ite_true, ite_false, if_true, if_false, q0, q18, hY.2.1, ile_t]
theorem C_kinds (hP : P ≤ 6) (hW : WY C P τ) (hY : YC m C P τ) (hk : k ≤ 3) : f_X11_kinds_23 fu 0 (Int32.ofNat k) (Int32.ofNat 0) (Int32.ofNat 0) (mkH n z D m j r) = some (Int32.ofNat (bts (fun i => decide (τ 0 i = k)) P), (mkH n z D m j r)) := by
  refine lpI (fun f i => f_X11_kinds_23 f 0 (Int32.ofNat k) (Int32.ofNat (bts (fun i => decide (τ 0 i = k)) i)) (Int32.ofNat i) (mkH n z D m j r)) P ?_ ?_ P 0 fu (by omega) (by unfold fu; omega)
  · intro f i hi
    have t := hW.2.2.2.2.2.2 i hi
    rw [f_X11_kinds_23.eq_2]
    by_cases h : τ 0 i = k
    · simp (disch := omega) only [obs, cN_mk, ite_true, ite_false, if_true, if_false, q0, q18, hY.2.1, ile_f, p21, hY.2.2.2.2, h, f_X11_kinds_53, l1, l31, i_bit, i_or, i_add, bts, decide_true]
    · simp (disch := omega) only [obs, cN_mk, ite_true, ite_false, if_true, if_false, q0, q18, hY.2.1, ile_f, p21, hY.2.2.2.2, ieq_f, h, f_X11_kinds_53, l1, i_add, bts, decide_false, Bool.false_eq_true]
  · intro f
    rw [f_X11_kinds_23.eq_2]
    simp (disch := omega) only [obs, cN_mk, ite_true, ite_false, if_true, if_false, q0, q18, hY.2.1, ile_t]
theorem C_cornersWith (hW : WY C P τ) (hS : WS C P 999 σ) (hY : YC m C P τ) (hM : CS m 27 σ C P) (hk : k ≤ 3) : f_X11_cornersWith 0 (Int32.ofNat k) (mkH n z D m j r) = some (Int32.ofNat (bts (fun i => decide (σ 0 i = k)) C), (mkH n z D m j r)) := by
  have hC := hW.1
  unfold f_X11_cornersWith f_X11_cornersWith_0
  refine lpI (fun f i => f_X11_cornersWith_4 f 0 (Int32.ofNat k) (Int32.ofNat (bts (fun i => decide (σ 0 i = k)) i)) (Int32.ofNat i) (mkH n z D m j r)) C ?_ ?_ C 0 fu (by omega) (by unfold fu; omega)
  · intro f i hi
    have s1 := hS.1 i hi
    rw [f_X11_cornersWith_4.eq_2]
    by_cases h : σ 0 i = k
    · simp (disch := omega) only [obs, cN_mk, ite_true, ite_false, if_true, if_false, q0, q18, hY.1, ile_f, q27, p28, CS27 hM, h, f_X11_cornersWith_34, l1, l31, i_bit, i_or, i_add, bts, decide_true]
    · simp (disch := omega) only [obs, cN_mk, ite_true, ite_false, if_true, if_false, q0, q18, hY.1, ile_f, q27, p28, CS27 hM, ieq_f, h, f_X11_cornersWith_34, l1, i_add, bts, decide_false, Bool.false_eq_true]
  · intro f
    rw [f_X11_cornersWith_4.eq_2]
    simp (disch := omega) only [obs, cN_mk, ite_true, ite_false, if_true, if_false, q0, q18, hY.1, ile_t]
theorem C_oldOnes (hW : WY C P τ) (hS : WS C P 999 σ) (hY : YC m C P τ) (hM : CS m 27 σ C P) : f_X11_oldOnes 0 (mkH n z D m j r) = some (Int32.ofNat (bts (fun i => decide (τ 6 2 ≤ σ 3 i)) P), (mkH n z D m j r)) := by
  have hP := hW.2.1
  have t6 := hW.2.2.2.2.2.1
  unfold f_X11_oldOnes f_X11_oldOnes_0
  refine lpI (fun f i => f_X11_oldOnes_4 f 0 (Int32.ofNat (bts (fun i => decide (τ 6 2 ≤ σ 3 i)) i)) (Int32.ofNat i) (mkH n z D m j r)) P ?_ ?_ P 0 fu (by omega) (by unfold fu; omega)
  · intro f i hi
    have s1 := hS.2.1 i hi
    rw [f_X11_oldOnes_4.eq_2]
    by_cases h : τ 6 2 ≤ σ 3 i
    · simp (disch := omega) only [obs, cN_mk, ite_true, ite_false, if_true, if_false, q0, q18, hY.2.1, hY.2.2.2.1, ile_f, q27, p31, CS27 hM, ilt_f, h, f_X11_oldOnes_40, l1, l31, i_bit, i_or, i_add, bts, decide_true]
    · simp (disch := omega) only [obs, cN_mk, ite_true, ite_false, if_true, if_false, q0, q18, hY.2.1, hY.2.2.2.1, ile_f, q27, p31, CS27 hM, ilt_t, h, f_X11_oldOnes_40, l1, i_add, bts, decide_false, Bool.false_eq_true]
  · intro f
    rw [f_X11_oldOnes_4.eq_2]
    simp (disch := omega) only [obs, cN_mk, ite_true, ite_false, if_true, if_false, q0, q18, hY.2.1, ile_t]
theorem C_walkBits (hW : WY C P τ) (hY : YC m C P τ) (hp : p < P) (hy : y ≤ 1) : f_X10_walkBits 18 (Int32.ofNat p) (Int32.ofNat y) (mkH n z D m j r) = some (Int32.ofNat (wB C τ p y (wln C τ p y)), (mkH n z D m j r)) := by
  have hP := hW.2.1
  have hC := hW.1
  have h2 := hW.2.2.1 (by omega)
  have hl := wln_lt (C := C) (τ := τ) (p := p) (w := y) h2
  have lp : f_X10_walkBits_21 fu 18 (Int32.ofNat y) (Int32.ofNat 0) (Int32.ofNat (crn C τ p y 0)) (Int32.ofNat (wln C τ p y)) (Int32.ofNat 0) (mkH n z D m j r) = some (Int32.ofNat (wB C τ p y (wln C τ p y)), (mkH n z D m j r)) := by
    refine lpI (fun f i => f_X10_walkBits_21 f 18 (Int32.ofNat y) (Int32.ofNat (wB C τ p y i)) (Int32.ofNat (crn C τ p y i)) (Int32.ofNat (wln C τ p y)) (Int32.ofNat i) (mkH n z D m j r)) (wln C τ p y) ?_ ?_ (wln C τ p y) 0 fu (by omega) (by unfold fu; omega)
    · intro f i hi
      have cl := crn_lt (τ := τ) (p := p) (w := y) (k := i) h2
      have cl' := crn_lt (τ := τ) (p := p) (w := y) (k := i + 1) h2
      have e := C_beyond (n := n) (z := z) (D := D) (j := j) (r := r) (y := y) h2 hC hY cl hy
      rw [← crn_s hW hp (by omega)] at e
      rw [f_X10_walkBits_21.eq_2]
      simp (disch := omega) only [obs, cN_mk, ite_true, ite_false, if_true, if_false, q18, ile_f, e, l1, l31, i_bit, i_or, i_add, wB]
    · intro f
      rw [f_X10_walkBits_21.eq_2]
      simp (disch := omega) only [obs, cN_mk, ite_true, ite_false, if_true, if_false, ile_t]
  unfold f_X10_walkBits f_X10_walkBits_0
  rw [crn_0 hW hp] at lp
  simp (disch := omega) only [obs, cN_mk, ite_true, ite_false, if_true, if_false, q18, p24, hY.2.2.2.2, C_walkLength hW hY hp hy, l0, lp]
theorem C_walksBy (hW : WY C P τ) (hS : WS C P 999 σ) (hY : YC m C P τ) (hM : CS m 27 σ C P) (hp : p < P) (hc : c < C) : f_X11_walksBy 0 (Int32.ofNat p) (Int32.ofNat c) (mkH n z D m j r) = some (bI (by' C τ σ p c), (mkH n z D m j r)) := by
  have hP := hW.2.1
  have hC := hW.1
  have h2 := hW.2.2.1 (by omega)
  have s4 := (hS.2.1 p hp).2.2
  have hb := wB_lt (τ := τ) (p := p) (w := σ 4 p) h2 (wln C τ p (σ 4 p))
  have h32 := pow5 hC
  have hi := i_has (s := wB C τ p (σ 4 p) (wln C τ p (σ 4 p))) (c := c) (by omega) (by omega)
  have ht := wB_tb (C := C) (τ := τ) (p := p) (w := σ 4 p) (c := c) (wln C τ p (σ 4 p))
  unfold f_X11_walksBy f_X11_walksBy_0
  cases hB : by' C τ σ p c with
  | true =>
    have e := hi.mpr (by rw [ht]; exact hB)
    simp (disch := omega) only [obs, cN_mk, ite_true, ite_false, if_true, if_false, q0, q27, p32, CS27 hM, q18, C_walkBits hW hY hp s4, l1, l31, e, bI_t]
  | false =>
    have e : ((Int32.ofNat (wB C τ p (σ 4 p) (wln C τ p (σ 4 p))) >>> (Int32.ofNat c &&& Int32.ofNat 31)) &&& Int32.ofNat 1 = Int32.ofNat 1) = False := eq_false (fun h => by have := hi.mp h; rw [ht] at this; unfold by' at hB; rw [hB] at this; cases this)
    simp (disch := omega) only [obs, cN_mk, ite_true, ite_false, if_true, if_false, q0, q27, p32, CS27 hM, q18, C_walkBits hW hY hp s4, l1, l31, e, bI_f, l0]
theorem C_passes (hW : WY C P τ) (hS : WS C P 999 σ) (hY : YC m C P τ) (hM : CS m 27 σ C P) (hc : c < C) : f_X11_passes_14 fu 0 (Int32.ofNat c) (Int32.ofNat 0) (Int32.ofNat 0) (mkH n z D m j r) = some (Int32.ofNat (bts (fun i => by' C τ σ i c) P), (mkH n z D m j r)) := by
  have hP := hW.2.1
  refine lpI (fun f i => f_X11_passes_14 f 0 (Int32.ofNat c) (Int32.ofNat (bts (fun i => by' C τ σ i c) i)) (Int32.ofNat i) (mkH n z D m j r)) P ?_ ?_ P 0 fu (by omega) (by unfold fu; omega)
  · intro f i hi
    rw [f_X11_passes_14.eq_2]
    have e := C_walksBy (n := n) (z := z) (D := D) (j := j) (r := r) hW hS hY hM hi hc
    cases hB : by' C τ σ i c with
    | true =>
      rw [hB] at e
      simp (disch := omega) only [obs, cN_mk, ite_true, ite_false, if_true, if_false, q0, q18, hY.2.1, ile_f, e, l0, l1, no1_e, bI_t, bI_f, ieq_f, ile_t, ile_f, ilt_t, ilt_f, l31, f_X11_passes_40, i_bit, i_or, i_add, bts, hB]
    | false =>
      rw [hB] at e
      simp (disch := omega) only [obs, cN_mk, ite_true, ite_false, if_true, if_false, q0, q18, hY.2.1, ile_f, e, l0, l1, no1_e, bI_t, bI_f, ieq_f, ile_t, ile_f, ilt_t, ilt_f, f_X11_passes_40, i_add, bts, hB, Bool.false_eq_true]
  · intro f
    rw [f_X11_passes_14.eq_2]
    simp (disch := omega) only [obs, cN_mk, ite_true, ite_false, if_true, if_false, q0, q18, hY.2.1, ile_t]
theorem C_firstHighest {a N L : Nat} {f : Nat → Nat} (hs : SHP D a = some (aT N)) (hN : N ≤ 100) (hL : 1 ≤ L) (hLN : L ≤ N) (hf : ∀ i, i < L → m a i = Int32.ofNat (f i) ∧ f i < 1000000) : f_X11_firstHighest a (Int32.ofNat L) (mkH n z D m j r) = some (Int32.ofNat (am f L), (mkH n z D m j r)) := by
  unfold f_X11_firstHighest f_X11_firstHighest_0
  have lp : f_X11_firstHighest_4 fu a (Int32.ofNat L) (Int32.ofNat (am f 1)) (Int32.ofNat 1) (mkH n z D m j r) = some (Int32.ofNat (am f L), (mkH n z D m j r)) := by
    refine lpJ (fun fu i => f_X11_firstHighest_4 fu a (Int32.ofNat L) (Int32.ofNat (am f i)) (Int32.ofNat i) (mkH n z D m j r)) 1 L ?_ ?_ (L - 1) 1 fu (by omega) (by omega) (by unfold fu; omega)
    · intro fu i h1 hi
      have ha := am_lt (f := f) i (by omega)
      have b1 := hf i hi
      have b2 := hf (am f i) (by omega)
      have r1 : aI 0 (mkH n z D m j r) a (Int32.ofNat i) = some (Int32.ofNat (f i)) := by rw [aIk hs (Or.inl rfl) (by omega) (by omega), b1.1]
      have r2 : aI 0 (mkH n z D m j r) a (Int32.ofNat (am f i)) = some (Int32.ofNat (f (am f i))) := by rw [aIk hs (Or.inl rfl) (by omega) (by omega), b2.1]
      rw [f_X11_firstHighest_4.eq_2, am]
      by_cases hlt : f (am f i) < f i
      · simp (disch := omega) only [obs, cN_mk, ite_true, ite_false, if_true, if_false, ile_f, aLen_mk hs, r1, r2, f_X11_firstHighest_26, l1, i_add, hlt]
      · simp (disch := omega) only [obs, cN_mk, ite_true, ite_false, if_true, if_false, ile_f, ile_t, aLen_mk hs, r1, r2, f_X11_firstHighest_26, l1, i_add, hlt]
    · intro fu
      rw [f_X11_firstHighest_4.eq_2]
      simp (disch := omega) only [obs, cN_mk, ite_true, ite_false, if_true, if_false, ile_t]
  rw [am_1] at lp
  rw [l0, l1, lp]
theorem C_busiest (hW : WY C P τ) (hP0 : 0 < P) (hS : WS C P 999 σ) (hY : YC m C P τ) (hM : CS m 27 σ C P) : f_X11_busiest 0 (mkH n z D m j r) = some (Int32.ofNat (am (fun c => sm (fun i => if by' C τ σ i c = true then 1 else 0) P) C), (mkH n z D m j r)) := by
  have hP := hW.2.1
  have hC := hW.1
  have h2 := hW.2.2.1 hP0
  have sb : ∀ c, sm (fun i => if by' C τ σ i c = true then 1 else 0) P ≤ 6 := fun c => by
    have := sm_le (f := fun i => if by' C τ σ i c = true then 1 else 0) (b := 1) P (fun i _ => by show (if by' C τ σ i c = true then 1 else 0) ≤ 1; split <;> omega)
    omega
  unfold f_X11_busiest f_X11_busiest_0
  -- the inner loop
  have inner : ∀ (k6 : Nat → Int32 → Int32 → Int32 → AH → Option (Int32 × AH)) (x1 : Int32) (x2 : Int32) (c : Nat), c < C → f_X11_busiest_23 k6 fu 0 x1 x2 (Int32.ofNat c) (Int32.ofNat 0) (Int32.ofNat 0) (mkH n z D m j r) = if Int32.ofNat (sm (fun i => if by' C τ σ i c = true then 1 else 0) P) ≤ x2 then f_X11_busiest_72 k6 0 x1 x2 (Int32.ofNat c) (mkH n z D m j r) else f_X11_busiest_72 k6 0 (Int32.ofNat c) (Int32.ofNat (sm (fun i => if by' C τ σ i c = true then 1 else 0) P)) (Int32.ofNat c) (mkH n z D m j r) := by
    intro k6 x1 x2 c hc
    refine lpI (fun f i => f_X11_busiest_23 k6 f 0 x1 x2 (Int32.ofNat c) (Int32.ofNat (sm (fun i => if by' C τ σ i c = true then 1 else 0) i)) (Int32.ofNat i) (mkH n z D m j r)) P ?_ ?_ P 0 fu (by omega) (by unfold fu; omega)
    · intro f i hi
      have e := C_walksBy (n := n) (z := z) (D := D) (j := j) (r := r) hW hS hY hM hi hc
      rw [f_X11_busiest_23.eq_2]
      cases hB : by' C τ σ i c with
      | true =>
        rw [hB] at e
        simp (disch := omega) only [obs, cN_mk, ite_true, ite_false, if_true, if_false, q0, q18, hY.2.1, ile_f, e, l0, l1, no1_e, bI_t, bI_f, ieq_f, ile_t, ile_f, ilt_t, ilt_f, f_X11_busiest_52, i_add, sm, hB]
      | false =>
        rw [hB] at e
        simp (disch := omega) only [obs, cN_mk, ite_true, ite_false, if_true, if_false, q0, q18, hY.2.1, ile_f, e, l0, l1, no1_e, bI_t, bI_f, ieq_f, ile_t, ile_f, ilt_t, ilt_f, f_X11_busiest_52, i_add, sm, hB, Bool.false_eq_true]
    · intro f
      rw [f_X11_busiest_23.eq_2]
      simp (disch := omega) only [obs, cN_mk, ite_true, ite_false, if_true, if_false, q0, q18, hY.2.1, ile_t]
  generalize hF : (fun c => sm (fun i => if by' C τ σ i c = true then 1 else 0) P) = F at *
  have Fc : ∀ c, sm (fun i => if by' C τ σ i c = true then 1 else 0) P = F c := fun c => by rw [← hF]
  simp only [Fc] at inner sb
  have lp : f_X11_busiest_6 (fu - 1) 0 (Int32.ofNat (am F 1)) (Int32.ofNat (F (am F 1))) (Int32.ofNat 1) (mkH n z D m j r) = some (Int32.ofNat (am F C), (mkH n z D m j r)) := by
    refine lpJ (fun f i => f_X11_busiest_6 f 0 (Int32.ofNat (am F i)) (Int32.ofNat (F (am F i))) (Int32.ofNat i) (mkH n z D m j r)) 1 C ?_ ?_ (C - 1) 1 (fu - 1) (by omega) (by omega) (by unfold fu; omega)
    · intro f i h1 hi
      have b1 := sb i
      have b2 := sb (am F i)
      rw [f_X11_busiest_6.eq_2]
      simp (disch := omega) only [obs, cN_mk, ite_true, ite_false, if_true, if_false, q0, q18, hY.1, ile_f, l0]
      rw [inner _ _ _ i hi]
      unfold f_X11_busiest_72
      by_cases hlt : F (am F i) < F i
      · rw [if_neg (by rw [i_le (by omega) (by omega)]; omega), l1, i_add, show am F (i + 1) = i from if_pos hlt]
      · rw [if_pos (by rw [i_le (by omega) (by omega)]; omega), l1, i_add, show am F (i + 1) = am F i from if_neg hlt]
    · intro f
      rw [f_X11_busiest_6.eq_2]
      simp (disch := omega) only [obs, cN_mk, ite_true, ite_false, if_true, if_false, q0, q18, hY.1, ile_t]
  rw [am_1] at lp
  have b0 := sb 0
  rw [show fu = (fu - 1) + 1 from rfl, f_X11_busiest_6.eq_2]
  simp (disch := omega) only [obs, cN_mk, ite_true, ite_false, if_true, if_false, q0, q18, hY.1, ile_f, l0, l1, no1_e, bI_t, bI_f, ieq_f, ile_t, ile_f, ilt_t, ilt_f]
  rw [inner _ _ _ 0 (by omega)]
  rw [if_neg (fun h => by
    have a1 := Int32.le_iff_toInt_le.mp h
    rw [i_int (by omega), no1_toInt] at a1
    omega)]
  unfold f_X11_busiest_72
  rw [l1, i_add]
  exact lp
theorem C_honest (hW : WY C P τ) (hS : WS C P 999 σ) (hY : YC m C P τ) (hM : CS m 27 σ C P) : f_X11_honest 0 (mkH n z D m j r) = some (Int32.ofNat (bts (fun i => decide (wB C τ i (σ 4 i) (wln C τ i (σ 4 i)) &&& bts (fun c => decide (σ 0 c = τ 0 i)) C = 0)) P), (mkH n z D m j r)) := by
  have hP := hW.2.1
  have hC := hW.1
  unfold f_X11_honest f_X11_honest_0
  refine lpI (fun f i => f_X11_honest_4 f 0 (Int32.ofNat (bts (fun i => decide (wB C τ i (σ 4 i) (wln C τ i (σ 4 i)) &&& bts (fun c => decide (σ 0 c = τ 0 i)) C = 0)) i)) (Int32.ofNat i) (mkH n z D m j r)) P ?_ ?_ P 0 fu (by omega) (by unfold fu; omega)
  · intro f i hi
    have t := hW.2.2.2.2.2.2 i hi
    have s4 := (hS.2.1 i hi).2.2
    have h2 := hW.2.2.1 (by omega)
    have hb := wB_lt (τ := τ) (p := i) (w := σ 4 i) h2 (wln C τ i (σ 4 i))
    have h32 := pow5 hC
    have hle : wB C τ i (σ 4 i) (wln C τ i (σ 4 i)) &&& bts (fun c => decide (σ 0 c = τ 0 i)) C ≤ wB C τ i (σ 4 i) (wln C τ i (σ 4 i)) := Nat.and_le_left
    have e1 := C_walkBits (n := n) (z := z) (D := D) (j := j) (r := r) hW hY hi s4
    have e2 := C_cornersWith (n := n) (z := z) (D := D) (j := j) (r := r) (k := τ 0 i) hW hS hY hM t.1
    have e3 : Int32.ofNat (wB C τ i (σ 4 i) (wln C τ i (σ 4 i))) &&& Int32.ofNat (bts (fun c => decide (σ 0 c = τ 0 i)) C) = Int32.ofNat (wB C τ i (σ 4 i) (wln C τ i (σ 4 i)) &&& bts (fun c => decide (σ 0 c = τ 0 i)) C) := i_and
    rw [f_X11_honest_4.eq_2]
    by_cases h : wB C τ i (σ 4 i) (wln C τ i (σ 4 i)) &&& bts (fun c => decide (σ 0 c = τ 0 i)) C = 0
    · simp (disch := omega) only [obs, cN_mk, ite_true, ite_false, if_true, if_false, q0, q18, hY.2.1, ile_f, q27, p32, CS27 hM, e1, p21, hY.2.2.2.2, e2, e3, h, f_X11_honest_55, l0, l1, l31, i_bit, i_or, i_add, bts, decide_true]
    · simp (disch := omega) only [obs, cN_mk, ite_true, ite_false, if_true, if_false, q0, q18, hY.2.1, ile_f, q27, p32, CS27 hM, e1, p21, hY.2.2.2.2, e2, e3, ieq_f, h, f_X11_honest_55, l0, l1, i_add, bts, decide_false, Bool.false_eq_true]
  · intro f
    rw [f_X11_honest_4.eq_2]
    simp (disch := omega) only [obs, cN_mk, ite_true, ite_false, if_true, if_false, q0, q18, hY.2.1, ile_t]
theorem C_lie (hW : WY C P τ) (hS : WS C P 999 σ) (hY : YC m C P τ) (hM : CS m 27 σ C P) : f_X11_crumbsThatLie 0 (mkH n z D m j r) = some (Int32.ofNat (sm (fun k => if bts (fun c => decide (σ 0 c = k + 1)) C = 0 then 0 else 1) 3), (mkH n z D m j r)) := by
  have hC := hW.1
  have h32 := pow5 hC
  unfold f_X11_crumbsThatLie f_X11_crumbsThatLie_0
  refine lpI (fun f i => f_X11_crumbsThatLie_4 f 0 (Int32.ofNat (sm (fun k => if bts (fun c => decide (σ 0 c = k + 1)) C = 0 then 0 else 1) i)) (Int32.ofNat (i + 1)) (mkH n z D m j r)) 3 ?_ ?_ 3 0 fu (by omega) (by unfold fu; omega)
  · intro f i hi
    have e2 := C_cornersWith (n := n) (z := z) (D := D) (j := j) (r := r) (k := i + 1) hW hS hY hM (by omega)
    have hb := bts_lt (f := fun c => decide (σ 0 c = i + 1)) C
    rw [f_X11_crumbsThatLie_4.eq_2]
    by_cases h : bts (fun c => decide (σ 0 c = i + 1)) C = 0
    · simp (disch := omega) only [obs, cN_mk, ite_true, ite_false, if_true, if_false, q0, l3, ilt_f, e2, h, f_X11_crumbsThatLie_23, l0, l1, i_add, sm]
    · simp (disch := omega) only [obs, cN_mk, ite_true, ite_false, if_true, if_false, q0, l3, ilt_f, e2, ieq_f, h, f_X11_crumbsThatLie_23, l0, l1, i_add, sm]
  · intro f
    rw [f_X11_crumbsThatLie_4.eq_2]
    simp (disch := omega) only [obs, cN_mk, ite_true, ite_false, if_true, if_false, l3, ilt_t]
theorem C_shares {v : Nat} (hW : WY C P τ) (hS : WS C P 999 σ) (hY : YC m C P τ) (hM : CS m 27 σ C P) (hc : c < C) (hv : v ≤ 999) : f_X11_shares_26 fu 0 (Int32.ofNat c) (Int32.ofNat v) (Int32.ofNat 0) (Int32.ofNat 0) (mkH n z D m j r) = some (Int32.ofNat (v * σ 1 c / sm (fun i => σ 1 i) C), (mkH n z D m j r)) := by
  have hC := hW.1
  have s1 := hS.1 c hc
  have sb := sm_le (f := fun i => σ 1 i) (b := 9) C (fun i hi => (hS.1 i hi).2)
  have hmul : v * σ 1 c ≤ 999 * 9 := Nat.mul_le_mul hv s1.2
  refine lpI (fun f i => f_X11_shares_26 f 0 (Int32.ofNat c) (Int32.ofNat v) (Int32.ofNat (sm (fun i => σ 1 i) i)) (Int32.ofNat i) (mkH n z D m j r)) C ?_ ?_ C 0 fu (by omega) (by unfold fu; omega)
  · intro f i hi
    rw [f_X11_shares_26.eq_2]
    simp (disch := omega) only [obs, cN_mk, ite_true, ite_false, if_true, if_false, q0, q18, hY.1, ile_f, q27, p29, CS27 hM, l1, i_add, sm]
  · intro f
    rw [f_X11_shares_26.eq_2]
    by_cases h0 : sm (fun i => σ 1 i) C = 0
    · rw [h0, Nat.div_zero]
      simp (disch := omega) only [obs, cN_mk, ite_true, ite_false, if_true, if_false, q0, q18, hY.1, ile_t, l0]
    · simp (disch := omega) only [obs, cN_mk, ite_true, ite_false, if_true, if_false, q0, q18, hY.1, ile_t, l0, ieq_f, q27, p29, CS27 hM, i_mul, i_div]
end CLP
