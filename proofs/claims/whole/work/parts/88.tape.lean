/-! The tape. -/
def bt (x : Int32) (k : Nat) : Nat := (x.toBitVec >>> k &&& 255#32).toNat
theorem bt_lt {x : Int32} {k : Nat} : bt x k < 256 := by
  unfold bt
  rw [BitVec.toNat_and]
  exact Nat.lt_of_le_of_lt Nat.and_le_right (by decide)
theorem lsb255 : ∀ i, i < 32 → 8 ≤ i → (255#32).getLsbD i = false := by decide
theorem bt_C {x : Int32} {k : Nat} (hk : k = 0 ∨ k = 8 ∨ k = 16 ∨ k = 24) : ((x.toUInt32 >>> ((Int32.ofNat k).toUInt32 &&& Int32.toUInt32 31)).toInt32) &&& 255 = Int32.ofNat (bt x k) := by
  apply Int32.toBitVec_inj.mp
  show _ = BitVec.ofNat 32 (bt x k)
  unfold bt
  rw [BitVec.ofNat_toNat]
  rcases hk with rfl | rfl | rfl | rfl
  · simp
  · simp
  · simp
  · simp
theorem bt_S {x : Int32} {k : Nat} (hk : k = 0 ∨ k = 8 ∨ k = 16 ∨ k = 24) : (x >>> (Int32.ofNat k &&& 31)).toBitVec = x.toBitVec.sshiftRight k := by
  rw [Int32.toBitVec_shiftRight]
  rcases hk with rfl | rfl | rfl | rfl
  · rw [show (Int32.ofNat 0 &&& 31).toBitVec.smod 32 = 0#32 by decide]; rfl
  · rw [show (Int32.ofNat 8 &&& 31).toBitVec.smod 32 = 8#32 by decide]; rfl
  · rw [show (Int32.ofNat 16 &&& 31).toBitVec.smod 32 = 16#32 by decide]; rfl
  · rw [show (Int32.ofNat 24 &&& 31).toBitVec.smod 32 = 24#32 by decide]; rfl
theorem bt_M {x : Int32} {k : Nat} (hk : k = 0 ∨ k = 8 ∨ k = 16 ∨ k = 24) : (x >>> (Int32.ofNat k &&& 31)) &&& 255 = Int32.ofNat (bt x k) := by
  apply Int32.toBitVec_inj.mp
  show _ = BitVec.ofNat 32 (bt x k)
  unfold bt
  rw [BitVec.ofNat_toNat, Int32.toBitVec_and, bt_S hk, show (255 : Int32).toBitVec = 255#32 from rfl]
  apply BitVec.eq_of_getLsbD_eq
  intro i hi
  simp only [BitVec.getLsbD_and, BitVec.getLsbD_sshiftRight, BitVec.getLsbD_ushiftRight, BitVec.setWidth_eq]
  by_cases h8 : 8 ≤ i
  · rw [lsb255 i hi h8]; simp
  · rw [if_pos (by omega)]
    simp [show ¬ 32 ≤ i by omega]
theorem nar_and : ∀ z : Int32, nar 1 z = nar 1 (z &&& 255) := by
  intro z
  show z.toInt8.toInt32 = (z &&& 255).toInt8.toInt32
  congr 1
  apply Int8.toBitVec_inj.mp
  rw [Int32.toBitVec_toInt8, Int32.toBitVec_toInt8, Int32.toBitVec_and, show (255 : Int32).toBitVec = 255#32 from rfl]
  apply BitVec.eq_of_getLsbD_eq
  intro i hi
  have : ∀ i, i < 8 → (255#32).getLsbD i = true := by decide
  have t8 : ∀ i, i < 8 → (255#8).getLsbD i = true := by decide
  simp [BitVec.getLsbD_signExtend, this i hi, show i < 32 by omega]
  intro _ _
  exact t8 i hi
theorem nar_nar {z : Int32} : nar 1 (z.toInt8.toInt32) = nar 1 z := by
  show z.toInt8.toInt32.toInt8.toInt32 = z.toInt8.toInt32
  congr 1
  exact Int8.toInt8_toInt32 _
theorem nar_bt {x : Int32} {k : Nat} (hk : k = 0 ∨ k = 8 ∨ k = 16 ∨ k = 24) : nar 1 ((x >>> (Int32.ofNat k &&& 31)).toInt8.toInt32) = nar 1 (Int32.ofNat (bt x k)) := by
  rw [nar_nar, nar_and, bt_M hk]
abbrev TP : Type := (Nat → Nat) × Nat
def pt1 (a : TP) (b : Nat) : TP := if b = 0 then a else (fun q => if q = a.2 then b else a.1 q, a.2 + 1)
def pt4 (a : TP) (x : Int32) : TP := pt1 (pt1 (pt1 (pt1 a (bt x 24)) (bt x 16)) (bt x 8)) (bt x 0)
def c1 (b : Nat) : Nat := if b = 0 then 0 else 1
def c4 (x : Int32) : Nat := c1 (bt x 24) + c1 (bt x 16) + c1 (bt x 8) + c1 (bt x 0)
def pt20 (a : TP) (x1 x2 x3 x4 x5 : Int32) : TP := pt4 (pt4 (pt4 (pt4 (pt4 a x1) x2) x3) x4) x5
theorem pt1_l {a : TP} {b : Nat} : (pt1 a b).2 = a.2 + c1 b := by
  unfold pt1 c1
  split <;> rfl
theorem pt4_l {a : TP} {x : Int32} : (pt4 a x).2 = a.2 + c4 x := by
  unfold pt4 c4
  simp only [pt1_l]
  omega
theorem c4_le {x : Int32} : c4 x ≤ 4 := by
  unfold c4 c1
  repeat' split
  all_goals omega
/-- the model's tape -/
def TMd (m : MI) (a : TP) : Prop := m 72 6 = Int32.ofNat a.2 ∧ (∀ q, q < a.2 → m 73 q = nar 1 (Int32.ofNat (a.1 q)))
section TAPE
variable {n z : Nat} {D : Dyn} {m : MI} {j : MJ} {r : MR} {a : TP} {x : Int32} {k f : Nat}
theorem sh8 {k : Nat} (hk : k = 8 ∨ k = 16 ∨ k = 24) : Int32.ofNat k + -8 = Int32.ofNat (k - 8) := by
  rcases hk with rfl | rfl | rfl <;> decide
theorem C_bytesIn : f_X9_bytesIn 1 x (mkH n z D m j r) = some (Int32.ofNat (c4 x), (mkH n z D m j r)) := by
  have st : ∀ k f c, (k = 0 ∨ k = 8 ∨ k = 16 ∨ k = 24) → f_X9_bytesIn_5 (f + 1) x (Int32.ofNat c) (Int32.ofNat k) (mkH n z D m j r) = f_X9_bytesIn_5 f x (Int32.ofNat (c + c1 (bt x k))) (Int32.ofNat k + -8) (mkH n z D m j r) := by
    intro k f c hk
    rw [f_X9_bytesIn_5.eq_2, if_neg (i_nn (by omega)), bt_C hk]
    unfold f_X9_bytesIn_25 c1
    have hb := bt_lt (x := x) (k := k)
    by_cases h : bt x k = 0
    · rw [if_pos (by rw [h]; rfl), if_pos h, l0, i_add]
    · rw [if_neg (by rw [l0, i_inj (by omega) (by omega)]; exact h), if_neg h, l1, i_add]
  unfold f_X9_bytesIn f_X9_bytesIn_0
  rw [show fu = 9995 + 1 + 1 + 1 + 1 + 1 from rfl, l0, l24, st 24 _ 0 (by omega), sh8 (by omega), st 16 _ _ (by omega), sh8 (by omega), st 8 _ _ (by omega), sh8 (by omega), st 0 _ _ (by omega), f_X9_bytesIn_5.eq_2, if_pos (by decide)]
  unfold c4
  rw [Nat.zero_add]
theorem M_bytesIn : f_X12_bytesIn x (mkH n z D m j r) = some (Int32.ofNat (c4 x), (mkH n z D m j r)) := by
  have st : ∀ k f c, (k = 0 ∨ k = 8 ∨ k = 16 ∨ k = 24) → f_X12_bytesIn_5 (f + 1) x (Int32.ofNat c) (Int32.ofNat k) (mkH n z D m j r) = f_X12_bytesIn_5 f x (Int32.ofNat (c + c1 (bt x k))) (Int32.ofNat k + -8) (mkH n z D m j r) := by
    intro k f c hk
    rw [f_X12_bytesIn_5.eq_2, if_neg (i_nn (by omega)), bt_M hk]
    unfold f_X12_bytesIn_25 c1
    have hb := bt_lt (x := x) (k := k)
    by_cases h : bt x k = 0
    · rw [if_pos (by rw [h]; rfl), if_pos h, l0, i_add]
    · rw [if_neg (by rw [l0, i_inj (by omega) (by omega)]; exact h), if_neg h, l1, i_add]
  unfold f_X12_bytesIn f_X12_bytesIn_0
  rw [show fu = 9995 + 1 + 1 + 1 + 1 + 1 from rfl, l0, l24, st 24 _ 0 (by omega), sh8 (by omega), st 16 _ _ (by omega), sh8 (by omega), st 8 _ _ (by omega), sh8 (by omega), st 0 _ _ (by omega), f_X12_bytesIn_5.eq_2, if_pos (by decide)]
  unfold c4
  rw [Nat.zero_add]
theorem C_put1 (hk : k = 0 ∨ k = 8 ∨ k = 16 ∨ k = 24) (hT : TC m a.1 a.2) (hl : a.2 + c1 (bt x k) ≤ 240) : ∃ m', f_X9_put_3 (f + 1) 1 x (Int32.ofNat k) (mkH n z D m j r) = f_X9_put_3 f 1 x (Int32.ofNat k + -8) (mkH n z D m' j r) ∧ TC m' (pt1 a (bt x k)).1 (pt1 a (bt x k)).2 ∧ (∀ b, b ≠ 1 → b ≠ 2 → m' b = m b) := by
  have hb := bt_lt (x := x) (k := k)
  rw [f_X9_put_3.eq_2, if_neg (i_nn (by omega)), bt_C hk]
  unfold f_X9_put_51 pt1
  unfold c1 at hl
  by_cases h : bt x k = 0
  · rw [if_pos (by rw [h]; rfl), if_pos h]
    exact ⟨m, rfl, hT, fun _ _ _ => rfl⟩
  · rw [if_neg (by rw [l0, i_inj (by omega) (by omega)]; exact h), if_neg h]
    rw [if_neg h] at hl
    have el : aLen (mkH n z D m j r) 2 = some (Int32.ofNat 240) := aLen_mk rfl (by decide)
    have g1 : gI [9] (mkH n z D m j r) 1 1 = some (Int32.ofNat a.2) := by rw [gI_mk rfl (by decide) rfl, hT.1]
    have g0 : gR [9] (mkH n z D m j r) 1 0 = some 2 := gR_mk rfl (by decide) rfl
    have g1' : ∀ y, gI [9] (mkH n z D (wI m 2 a.2 y) j r) 1 1 = some (Int32.ofNat a.2) := fun y => by rw [gI_mk rfl (by decide) rfl, wI_ne (by omega), hT.1]
    have pv : ∀ (mm : MI) y, pV [9] (mkH n z D mm j r) 1 1 (.int y) = some (mkH n z D (wI mm 1 1 y) j r) := fun mm y => pI_mk rfl (by decide) rfl
    rw [g1, obs, g0, obs, el, obs, if_neg (fun e => by have := (i_le (by omega) (by omega)).mp e; omega), obs, obs, p2.2 a.2 _ (by omega), obs, g1', obs, pv, obs, l1, i_add]
    refine ⟨_, rfl, ⟨by rw [wI_se], by dsimp only; omega, fun q hq => ?_⟩, fun b h1 h2 => by rw [wI_ne h1, wI_ne h2]⟩
    dsimp only at hq ⊢
    rw [wI_ne (by omega)]
    by_cases hqa : q = a.2
    · subst hqa
      rw [wI_se, if_pos rfl]
      exact ⟨rfl, by omega, hb⟩
    · rw [wI_sn hqa, if_neg hqa]
      exact hT.2.2 q (by omega)
theorem C_put (hT : TC m a.1 a.2) (hl : a.2 + c4 x ≤ 240) : ∃ m', f_X9_put 1 x (mkH n z D m j r) = some ((), mkH n z D m' j r) ∧ TC m' (pt4 a x).1 (pt4 a x).2 ∧ (∀ b, b ≠ 1 → b ≠ 2 → m' b = m b) := by
  unfold c4 at hl
  obtain ⟨m1, e1, t1, f1⟩ := C_put1 (n := n) (z := z) (D := D) (j := j) (r := r) (x := x) (k := 24) (f := 9995 + 1 + 1 + 1 + 1) (by omega) hT (by omega)
  obtain ⟨m2, e2, t2, f2⟩ := C_put1 (n := n) (z := z) (D := D) (j := j) (r := r) (x := x) (k := 16) (f := 9995 + 1 + 1 + 1) (by omega) t1 (by rw [pt1_l]; omega)
  obtain ⟨m3, e3, t3, f3⟩ := C_put1 (n := n) (z := z) (D := D) (j := j) (r := r) (x := x) (k := 8) (f := 9995 + 1 + 1) (by omega) t2 (by rw [pt1_l, pt1_l]; omega)
  obtain ⟨m4, e4, t4, f4⟩ := C_put1 (n := n) (z := z) (D := D) (j := j) (r := r) (x := x) (k := 0) (f := 9995 + 1) (by omega) t3 (by rw [pt1_l, pt1_l, pt1_l]; omega)
  refine ⟨m4, ?_, t4, fun b h1 h2 => by rw [f4 b h1 h2, f3 b h1 h2, f2 b h1 h2, f1 b h1 h2]⟩
  unfold f_X9_put f_X9_put_0
  rw [show fu = 9995 + 1 + 1 + 1 + 1 + 1 from rfl, l24, e1, sh8 (by omega), e2, sh8 (by omega), e3, sh8 (by omega), e4, f_X9_put_3.eq_2, if_pos (by decide)]
theorem M_put1 (hk : k = 0 ∨ k = 8 ∨ k = 16 ∨ k = 24) (hT : TMd m a) (hl : a.2 + c1 (bt x k) ≤ 240) : ∃ m', f_X12_put_3 (f + 1) 72 x (Int32.ofNat k) (mkH n z D m j r) = f_X12_put_3 f 72 x (Int32.ofNat k + -8) (mkH n z D m' j r) ∧ TMd m' (pt1 a (bt x k)) ∧ (∀ b, b ≠ 72 → b ≠ 73 → m' b = m b) ∧ (∀ i, i ≠ 6 → m' 72 i = m 72 i) := by
  have hb := bt_lt (x := x) (k := k)
  rw [f_X12_put_3.eq_2, if_neg (i_nn (by omega)), bt_M hk]
  unfold f_X12_put_43 pt1
  unfold c1 at hl
  by_cases h : bt x k = 0
  · rw [if_pos (by rw [h]; rfl), if_pos h]
    exact ⟨m, rfl, hT, fun _ _ _ => rfl, fun _ _ => rfl⟩
  · rw [if_neg (by rw [l0, i_inj (by omega) (by omega)]; exact h), if_neg h]
    rw [if_neg h] at hl
    have g1 : gI [12] (mkH n z D m j r) 72 6 = some (Int32.ofNat a.2) := by rw [gI_mk rfl (by decide) rfl, hT.1]
    have g0 : gR [12] (mkH n z D m j r) 72 1 = some 73 := gR_mk rfl (by decide) rfl
    have g1' : ∀ y, gI [12] (mkH n z D (wI m 73 a.2 y) j r) 72 6 = some (Int32.ofNat a.2) := fun y => by rw [gI_mk rfl (by decide) rfl, wI_ne (by omega), hT.1]
    have pv : ∀ (mm : MI) y, pV [12] (mkH n z D mm j r) 72 6 (.int y) = some (mkH n z D (wI mm 72 6 y) j r) := fun mm y => pI_mk rfl (by decide) rfl
    rw [g0, obs, g1, obs, p73.2 a.2 _ (by omega), obs, g1', obs, pv, obs, l1, i_add, nar_bt hk]
    refine ⟨_, rfl, ⟨by rw [wI_se], fun q hq => ?_⟩, fun b h1 h2 => by rw [wI_ne h1, wI_ne h2], fun i hi => by rw [wI_sn hi, wI_ne (by omega)]⟩
    dsimp only at hq ⊢
    rw [wI_ne (by omega)]
    by_cases hqa : q = a.2
    · subst hqa
      rw [wI_se, if_pos rfl]
    · rw [wI_sn hqa, if_neg hqa]
      exact hT.2 q (by omega)
theorem M_put (hT : TMd m a) (hl : a.2 + c4 x ≤ 240) : ∃ m', f_X12_put 72 x (mkH n z D m j r) = some ((), mkH n z D m' j r) ∧ TMd m' (pt4 a x) ∧ (∀ b, b ≠ 72 → b ≠ 73 → m' b = m b) ∧ (∀ i, i ≠ 6 → m' 72 i = m 72 i) := by
  unfold c4 at hl
  obtain ⟨m1, e1, t1, f1, g1⟩ := M_put1 (n := n) (z := z) (D := D) (j := j) (r := r) (x := x) (k := 24) (f := 9995 + 1 + 1 + 1 + 1) (by omega) hT (by omega)
  obtain ⟨m2, e2, t2, f2, g2⟩ := M_put1 (n := n) (z := z) (D := D) (j := j) (r := r) (x := x) (k := 16) (f := 9995 + 1 + 1 + 1) (by omega) t1 (by rw [pt1_l]; omega)
  obtain ⟨m3, e3, t3, f3, g3⟩ := M_put1 (n := n) (z := z) (D := D) (j := j) (r := r) (x := x) (k := 8) (f := 9995 + 1 + 1) (by omega) t2 (by rw [pt1_l, pt1_l]; omega)
  obtain ⟨m4, e4, t4, f4, g4⟩ := M_put1 (n := n) (z := z) (D := D) (j := j) (r := r) (x := x) (k := 0) (f := 9995 + 1) (by omega) t3 (by rw [pt1_l, pt1_l, pt1_l]; omega)
  refine ⟨m4, ?_, t4, fun b h1 h2 => by rw [f4 b h1 h2, f3 b h1 h2, f2 b h1 h2, f1 b h1 h2], fun i hi => by rw [g4 i hi, g3 i hi, g2 i hi, g1 i hi]⟩
  unfold f_X12_put f_X12_put_0
  rw [show fu = 9995 + 1 + 1 + 1 + 1 + 1 from rfl, l24, e1, sh8 (by omega), e2, sh8 (by omega), e3, sh8 (by omega), e4, f_X12_put_3.eq_2, if_pos (by decide)]
def fdN (a : TP) (x1 x2 x3 x4 x5 : Int32) : TP := if a.2 + (c4 x1 + c4 x2 + c4 x3 + c4 x4 + c4 x5) ≤ 240 then pt20 a x1 x2 x3 x4 x5 else a
def fdA (a : TP) (x1 x2 x3 x4 x5 : Int32) : Int32 := if a.2 + (c4 x1 + c4 x2 + c4 x3 + c4 x4 + c4 x5) ≤ 240 then Int32.ofNat (pt20 a x1 x2 x3 x4 x5).2 else no1
theorem C_feed (x1 x2 x3 x4 x5 : Int32) (hT : TC m a.1 a.2) : ∃ m', f_X11_feed 0 x1 x2 x3 x4 x5 (mkH n z D m j r) = some (fdA a x1 x2 x3 x4 x5, mkH n z D m' j r) ∧ TC m' (fdN a x1 x2 x3 x4 x5).1 (fdN a x1 x2 x3 x4 x5).2 ∧ (∀ b, b ≠ 1 → b ≠ 2 → m' b = m b) := by
  have g0 : ∀ mm : MI, gR [11] (mkH n z D mm j r) 0 0 = some 1 := fun _ => gR_mk rfl (by decide) rfl
  have c9 : ∀ mm : MI, isC [9] (mkH n z D mm j r) 1 = some () := fun _ => isC_mk rfl (by decide)
  have g1 : ∀ mm : MI, gI [9] (mkH n z D mm j r) 1 1 = some (mm 1 1) := fun _ => gI_mk rfl (by decide) rfl
  have h1 := c4_le (x := x1)
  have h2 := c4_le (x := x2)
  have h3 := c4_le (x := x3)
  have h4 := c4_le (x := x4)
  have h5 := c4_le (x := x5)
  have hN := hT.2.1
  unfold f_X11_feed f_X11_feed_0 fdA fdN
  rw [g0, obs, c9, obs, C_bytesIn, cN_mk, g0, obs, c9, obs, C_bytesIn, cN_mk, g0, obs, c9, obs, C_bytesIn, cN_mk, g0, obs, c9, obs, C_bytesIn, cN_mk, g0, obs, c9, obs, C_bytesIn, cN_mk, g0, obs, g1, obs, hT.1, i_add, i_add, i_add, i_add, i_add]
  by_cases hl : a.2 + (c4 x1 + c4 x2 + c4 x3 + c4 x4 + c4 x5) ≤ 240
  · rw [if_pos (by rw [l240]; exact (i_le (by omega) (by omega)).mpr hl), if_pos hl, if_pos hl]
    obtain ⟨m1, e1, t1, f1⟩ := C_put (n := n) (z := z) (D := D) (j := j) (r := r) (x := x1) hT (by omega)
    obtain ⟨m2, e2, t2, f2⟩ := C_put (n := n) (z := z) (D := D) (j := j) (r := r) (x := x2) t1 (by rw [pt4_l]; omega)
    obtain ⟨m3, e3, t3, f3⟩ := C_put (n := n) (z := z) (D := D) (j := j) (r := r) (x := x3) t2 (by rw [pt4_l, pt4_l]; omega)
    obtain ⟨m4, e4, t4, f4⟩ := C_put (n := n) (z := z) (D := D) (j := j) (r := r) (x := x4) t3 (by rw [pt4_l, pt4_l, pt4_l]; omega)
    obtain ⟨m5, e5, t5, f5⟩ := C_put (n := n) (z := z) (D := D) (j := j) (r := r) (x := x5) t4 (by rw [pt4_l, pt4_l, pt4_l, pt4_l]; omega)
    refine ⟨m5, ?_, t5, fun b b1 b2 => by rw [f5 b b1 b2, f4 b b1 b2, f3 b b1 b2, f2 b b1 b2, f1 b b1 b2]⟩
    rw [obs, c9, obs, e1, cN_mk, g0, obs, c9, obs, e2, cN_mk, g0, obs, c9, obs, e3, cN_mk, g0, obs, c9, obs, e4, cN_mk, g0, obs, c9, obs, e5, cN_mk, g0, obs, g1, obs, t5.1]
    rfl
  · rw [if_neg (by rw [l240]; exact fun e => hl ((i_le (by omega) (by omega)).mp e)), if_neg hl, if_neg hl]
    exact ⟨m, rfl, hT, fun _ _ _ => rfl⟩
theorem M_feed (x1 x2 x3 x4 x5 : Int32) (hT : TMd m a) (hN : a.2 ≤ 240) : ∃ m', f_X12_feed 72 x1 x2 x3 x4 x5 (mkH n z D m j r) = some (fdA a x1 x2 x3 x4 x5, mkH n z D m' j r) ∧ TMd m' (fdN a x1 x2 x3 x4 x5) ∧ (∀ b, b ≠ 72 → b ≠ 73 → m' b = m b) ∧ (∀ i, i ≠ 0 → i ≠ 6 → m' 72 i = m 72 i) ∧ m' 72 0 = Int32.ofNat 0 := by
  have pv : ∀ (mm : MI) y, pV [12] (mkH n z D mm j r) 72 0 (.int y) = some (mkH n z D (wI mm 72 0 y) j r) := fun mm y => pI_mk rfl (by decide) rfl
  have g6 : ∀ mm : MI, gI [12] (mkH n z D mm j r) 72 6 = some (mm 72 6) := fun _ => gI_mk rfl (by decide) rfl
  have h1 := c4_le (x := x1)
  have h2 := c4_le (x := x2)
  have h3 := c4_le (x := x3)
  have h4 := c4_le (x := x4)
  have h5 := c4_le (x := x5)
  have t0 : TMd (wI m 72 0 0) a := ⟨by rw [wI_sn (by omega)]; exact hT.1, by rw [wI_ne (by omega)]; exact hT.2⟩
  unfold f_X12_feed f_X12_feed_0 fdA fdN
  rw [pv, obs, g6, obs, M_bytesIn, cN_mk, M_bytesIn, cN_mk, M_bytesIn, cN_mk, M_bytesIn, cN_mk, M_bytesIn, cN_mk, t0.1, i_add, i_add, i_add, i_add, i_add]
  have ea : a.2 + c4 x1 + c4 x2 + c4 x3 + c4 x4 + c4 x5 = a.2 + (c4 x1 + c4 x2 + c4 x3 + c4 x4 + c4 x5) := by omega
  rw [ea]
  by_cases hl : a.2 + (c4 x1 + c4 x2 + c4 x3 + c4 x4 + c4 x5) ≤ 240
  · rw [if_pos (by rw [l240]; exact (i_le (by omega) (by omega)).mpr hl), if_pos hl, if_pos hl]
    obtain ⟨m1, e1, t1, f1, k1⟩ := M_put (n := n) (z := z) (D := D) (j := j) (r := r) (x := x1) t0 (by omega)
    obtain ⟨m2, e2, t2, f2, k2⟩ := M_put (n := n) (z := z) (D := D) (j := j) (r := r) (x := x2) t1 (by rw [pt4_l]; omega)
    obtain ⟨m3, e3, t3, f3, k3⟩ := M_put (n := n) (z := z) (D := D) (j := j) (r := r) (x := x3) t2 (by rw [pt4_l, pt4_l]; omega)
    obtain ⟨m4, e4, t4, f4, k4⟩ := M_put (n := n) (z := z) (D := D) (j := j) (r := r) (x := x4) t3 (by rw [pt4_l, pt4_l, pt4_l]; omega)
    obtain ⟨m5, e5, t5, f5, k5⟩ := M_put (n := n) (z := z) (D := D) (j := j) (r := r) (x := x5) t4 (by rw [pt4_l, pt4_l, pt4_l, pt4_l]; omega)
    refine ⟨m5, ?_, t5, fun b b1 b2 => by rw [f5 b b1 b2, f4 b b1 b2, f3 b b1 b2, f2 b b1 b2, f1 b b1 b2, wI_ne b1], fun i i0 i6 => by rw [k5 i i6, k4 i i6, k3 i i6, k2 i i6, k1 i i6, wI_sn i0], by rw [k5 0 (by omega), k4 0 (by omega), k3 0 (by omega), k2 0 (by omega), k1 0 (by omega), wI_se]; rfl⟩
    rw [q72_c, obs, e1, cN_mk, q72_c, obs, e2, cN_mk, q72_c, obs, e3, cN_mk, q72_c, obs, e4, cN_mk, q72_c, obs, e5, cN_mk, g6, obs, t5.1]
    rfl
  · rw [if_neg (by rw [l240]; exact fun e => hl ((i_le (by omega) (by omega)).mp e)), if_neg hl, if_neg hl]
    exact ⟨wI m 72 0 0, rfl, t0, fun b b1 _ => wI_ne b1, fun i i0 _ => wI_sn i0, by rw [wI_se]; rfl⟩
end TAPE
