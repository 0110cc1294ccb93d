/-! The model keeps an act; undo; images; rows of the log. -/
theorem smd : ∀ k, k < 32 → (Int32.ofNat k &&& Int32.ofNat 31).toBitVec.smod 32 = BitVec.ofNat 32 k := by decide +kernel
theorem i_shr {a k : Nat} (ha : a < 2147483648) (hk : k < 32) : Int32.ofNat a >>> (Int32.ofNat k &&& Int32.ofNat 31) = Int32.ofNat (a / 2 ^ k) := by
  apply Int32.toBitVec_inj.mp
  rw [Int32.toBitVec_shiftRight, smd k hk]
  show (BitVec.ofNat 32 a).sshiftRight ((BitVec.ofNat 32 k).toNat) = BitVec.ofNat 32 (a / 2 ^ k)
  have hm : (BitVec.ofNat 32 a).msb = false := by
    rw [BitVec.msb_eq_false_iff_two_mul_lt, BitVec.toNat_ofNat]
    omega
  rw [BitVec.toNat_ofNat, Nat.mod_eq_of_lt (by omega), BitVec.sshiftRight_eq_of_msb_false hm]
  apply BitVec.eq_of_toNat_eq
  have h1 : a / 2 ^ k ≤ a := Nat.div_le_self a (2 ^ k)
  rw [BitVec.toNat_ushiftRight, BitVec.toNat_ofNat, BitVec.toNat_ofNat, Nat.shiftRight_eq_div_pow, Nat.mod_eq_of_lt (by omega), Nat.mod_eq_of_lt (by omega)]
theorem i_shl {a k : Nat} (hk : k < 32) : Int32.ofNat a <<< (Int32.ofNat k &&& Int32.ofNat 31) = Int32.ofNat (a * 2 ^ k) := by
  apply Int32.toBitVec_inj.mp
  rw [Int32.toBitVec_shiftLeft, smd k hk]
  show (BitVec.ofNat 32 a) <<< ((BitVec.ofNat 32 k).toNat) = BitVec.ofNat 32 (a * 2 ^ k)
  rw [BitVec.toNat_ofNat, Nat.mod_eq_of_lt (by omega)]
  apply BitVec.eq_of_toNat_eq
  rw [BitVec.toNat_shiftLeft, BitVec.toNat_ofNat, BitVec.toNat_ofNat, Nat.shiftLeft_eq, Nat.mod_mul_mod]
theorem eL_e {t c x : Nat} (h : okL (t, c, x)) : (Int32.ofNat t ||| (Int32.ofNat c <<< (Int32.ofNat 6 &&& Int32.ofNat 31))) ||| (Int32.ofNat x <<< (Int32.ofNat 12 &&& Int32.ofNat 31)) = Int32.ofNat (eL (t, c, x)) := by
  obtain ⟨h1, h2, h3⟩ := h
  rw [i_shl (by omega), i_shl (by omega), i_or, i_or]
  congr 1
  have e1 : t ||| c * 2 ^ 6 = c * 2 ^ 6 + t := by
    rw [Nat.or_comm, ← Nat.shiftLeft_eq, Nat.shiftLeft_add_eq_or_of_lt (by simpa using h1)]
  have e2 : (c * 2 ^ 6 + t) ||| x * 2 ^ 12 = x * 2 ^ 12 + (c * 2 ^ 6 + t) := by
    rw [Nat.or_comm, ← Nat.shiftLeft_eq x, Nat.shiftLeft_add_eq_or_of_lt (by simp only at h1 h2; omega)]
  rw [e1, e2]
  unfold eL
  simp only
  omega
theorem eL_d {t c x : Nat} (h : okL (t, c, x)) : (Int32.ofNat (eL (t, c, x)) &&& Int32.ofNat 63 = Int32.ofNat t) ∧ ((Int32.ofNat (eL (t, c, x)) >>> (Int32.ofNat 6 &&& Int32.ofNat 31)) &&& Int32.ofNat 63 = Int32.ofNat c) ∧ (Int32.ofNat (eL (t, c, x)) >>> (Int32.ofNat 12 &&& Int32.ofNat 31) = Int32.ofNat x) := by
  obtain ⟨h1, h2, h3⟩ := h
  simp only at h1 h2 h3
  have hb : eL (t, c, x) = t + 64 * c + 4096 * x := rfl
  have a63 : ∀ v, v &&& 63 = v % 64 := fun v => Nat.and_two_pow_sub_one_eq_mod v 6
  refine ⟨?_, ?_, ?_⟩
  · rw [i_and, a63, hb]
    exact congrArg Int32.ofNat (by omega)
  · rw [i_shr (by omega) (by omega), i_and, a63, hb]
    exact congrArg Int32.ofNat (by omega)
  · rw [i_shr (by omega) (by omega), hb]
    exact congrArg Int32.ofNat (by omega)
theorem C_place {d : Nat} (hd : d < 65536) {h : AH} : f_X1_place (Int32.ofNat d) h = some (Int32.ofNat (d % 100), h) := by
  have hx : Int32.ofNat d ^^^ Int32.ofNat 100 = Int32.ofNat (d ^^^ 100) := by
    apply Int32.toBitVec_inj.mp
    show BitVec.ofNat 32 d ^^^ BitVec.ofNat 32 100 = BitVec.ofNat 32 (d ^^^ 100)
    apply BitVec.eq_of_toNat_eq
    simp [BitVec.toNat_xor]
  have hlt : d ^^^ 100 < 65536 := Nat.xor_lt_two_pow (n := 16) hd (by decide)
  have e1 : ¬ ((100 : Int32) = 0) := by decide
  have e2 : (0 : Int32) ≤ Int32.ofNat d ^^^ 100 := by
    rw [show (100 : Int32) = Int32.ofNat 100 from rfl, hx, show (0 : Int32) = Int32.ofNat 0 from rfl, i_le (by omega) (by omega)]
    omega
  have e3 : f_J9_floorMod_7cf53 (Int32.ofNat d) 100 h = some (Int32.ofNat (d % 100), h) := by
    unfold f_J9_floorMod_7cf53 f_J9_floorMod_7cf53_0
    rw [if_neg e1, if_pos e2, show (100 : Int32) = Int32.ofNat 100 from rfl, i_mod (by omega) (by omega)]
  unfold f_X1_place f_X1_place_0
  rw [e3]
  unfold cN
  exact if_pos ⟨rfl, rfl⟩
section PAST
variable {n z : Nat} {D : Dyn} {m m' : MI} {j : MJ} {r : MR} {C P A B acts lt : Nat} {hs : Nat → Sg} {σ : Sg} {lg : LG} {s : Nat}
theorem M_shift : ∀ rem k fuel (m : MI), k + rem = 8268 → rem < fuel → ∃ m', f_X12_remember_11 fuel 72 (Int32.ofNat k) (mkH n z D m j r) = f_X12_remember_50 72 (mkH n z D (wI m' 72 43 (m 72 43 - Int32.ofNat 1)) j r) ∧ (∀ a, a ≠ 90 → m' a = m a) ∧ (∀ q, m' 90 q = if k ≤ q ∧ q < 8268 then m 90 (q + 212) else m 90 q) := by
  intro rem
  induction rem with
  | zero =>
    intro k fuel m hk hf
    obtain ⟨f, rfl⟩ : ∃ f, fuel = f + 1 := ⟨fuel - 1, by omega⟩
    refine ⟨m, ?_, fun _ _ => rfl, fun q => by rw [if_neg (by omega)]⟩
    rw [f_X12_remember_11.eq_2, if_pos (by rw [l8268, i_le (by omega) (by omega)]; omega)]
    simp (disch := omega) only [obs, cN_mk, ite_true, ite_false, if_true, if_false, q72, l1]
  | succ rem ih =>
    intro k fuel m hk hf
    obtain ⟨f, rfl⟩ : ∃ f, fuel = f + 1 := ⟨fuel - 1, by omega⟩
    obtain ⟨m', e, h1, h2⟩ := ih (k + 1) f (wI m 90 k (m 90 (k + 212))) (by omega) (by omega)
    refine ⟨m', ?_, fun a ha => by rw [h1 a ha, wI_ne ha], fun q => ?_⟩
    · rw [f_X12_remember_11.eq_2, if_neg (by rw [l8268, i_le (by omega) (by omega)]; omega)]
      rw [wI_ne (show (72 : Nat) ≠ 90 by omega)] at e
      simp (disch := omega) only [obs, cN_mk, ite_true, ite_false, if_true, if_false, q72, l1, l212, i_add, p90, e]
    · rw [h2 q]
      by_cases c1 : k + 1 ≤ q ∧ q < 8268
      · rw [if_pos c1, if_pos (by omega), wI_sn (by omega)]
      · rw [if_neg c1]
        by_cases c2 : q = k
        · subst c2
          rw [wI_se, if_pos (by omega)]
        · rw [wI_sn c2, if_neg (by omega)]
theorem M_rem52 {acts : Nat} (ha : acts < 40) : ∀ rem k fuel (m : MI), k + rem = 212 → rem < fuel → m 72 43 = Int32.ofNat acts → ∃ m', f_X12_remember_52 fuel 72 (Int32.ofNat k) (mkH n z D m j r) = some ((), mkH n z D (wI m' 72 43 (Int32.ofNat (acts + 1))) j r) ∧ (∀ a, a ≠ 90 → m' a = m a) ∧ (∀ q, m' 90 q = if 212 * acts + k ≤ q ∧ q < 212 * acts + 212 then m 85 (q - 212 * acts) else m 90 q) := by
  intro rem
  induction rem with
  | zero =>
    intro k fuel m hk hf h43
    obtain ⟨f, rfl⟩ : ∃ f, fuel = f + 1 := ⟨fuel - 1, by omega⟩
    refine ⟨m, ?_, fun _ _ => rfl, fun q => by rw [if_neg (by omega)]⟩
    rw [f_X12_remember_52.eq_2, if_pos (by rw [l212, i_le (by omega) (by omega)]; omega)]
    simp (disch := omega) only [obs, cN_mk, ite_true, ite_false, if_true, if_false, q72, l1, h43, i_add]
  | succ rem ih =>
    intro k fuel m hk hf h43
    obtain ⟨f, rfl⟩ : ∃ f, fuel = f + 1 := ⟨fuel - 1, by omega⟩
    obtain ⟨m', e, h1, h2⟩ := ih (k + 1) f (wI m 90 (212 * acts + k) (m 85 k)) (by omega) (by omega) (by rw [wI_ne (by omega)]; exact h43)
    refine ⟨m', ?_, fun a ha => by rw [h1 a ha, wI_ne ha], fun q => ?_⟩
    · rw [f_X12_remember_52.eq_2, if_neg (by rw [l212, i_le (by omega) (by omega)]; omega)]
      simp (disch := omega) only [obs, cN_mk, ite_true, ite_false, if_true, if_false, q72, l1, l212, h43, i_mul, i_add, p85, p90, e]
    · rw [h2 q]
      by_cases c1 : 212 * acts + (k + 1) ≤ q ∧ q < 212 * acts + 212
      · rw [if_pos c1, if_pos (by omega), wI_ne (by omega)]
      · rw [if_neg c1]
        by_cases c2 : q = 212 * acts + k
        · subst c2
          rw [wI_se, if_pos (by omega), show 212 * acts + k - 212 * acts = k by omega]
        · rw [wI_sn c2, if_neg (by omega)]
theorem M_remember (hC : C ≤ 5) (hP : P ≤ 6) (hH : HM m C P acts hs lg) (hM : MS (m 85) σ C P) (hL : MLg (m 85) (σ 7 0) lg) : ∃ m', f_X12_remember 72 (mkH n z D m j r) = some ((), mkH n z D m' j r) ∧ HM m' C P (min 40 (acts + 1)) (kp acts hs σ) lg ∧ (∀ a, a ≠ 72 → a ≠ 90 → m' a = m a) ∧ (∀ i, i ≠ 43 → m' 72 i = m 72 i) := by
  obtain ⟨h1, h2, h3⟩ := hH
  unfold f_X12_remember f_X12_remember_0
  by_cases h40 : acts = 40
  · subst h40
    obtain ⟨m1, e1, a1, a2⟩ := M_shift (n := n) (z := z) (D := D) (j := j) (r := r) 8268 0 fu m (by omega) (by unfold fu; omega)
    have e39 : m 72 43 - Int32.ofNat 1 = Int32.ofNat 39 := by rw [h1]; rfl
    rw [e39] at e1
    obtain ⟨m2, e2, b1, b2⟩ := M_rem52 (n := n) (z := z) (D := D) (j := j) (r := r) (acts := 39) (by omega) 212 0 fu (wI m1 72 43 (Int32.ofNat 39)) (by omega) (by unfold fu; omega) wI_se
    refine ⟨wI m2 72 43 (Int32.ofNat (39 + 1)), ?_, ⟨wI_se, by omega, fun k hk => ?_⟩, fun a ha hb => ?_, fun i hi => ?_⟩
    · rw [l0] at *
      simp (disch := omega) only [obs, cN_mk, ite_true, ite_false, if_true, if_false, q72, h1, l40, e1]
      unfold f_X12_remember_50
      rw [l0, e2]
    · have hk : k < 40 := by omega
      have rowE : ∀ q, q < 212 → wI m2 72 43 (Int32.ofNat (39 + 1)) 90 (212 * k + q) = if k = 39 then m 85 q else m 90 (212 * (k + 1) + q) := by
        intro q hq
        rw [wI_ne (by omega), b2]
        by_cases k39 : k = 39
        · subst k39
          rw [if_pos (by omega), if_pos rfl, wI_ne (by omega), a1 85 (by omega), show 212 * 39 + q - 212 * 39 = q by omega]
        · rw [if_neg (by omega), if_neg k39, wI_ne (by omega), a2, if_pos (by omega), show 212 * k + q + 212 = 212 * (k + 1) + q by omega]
      unfold kp
      by_cases k39 : k = 39
      · subst k39
        rw [if_pos (by omega)]
        exact ⟨MS_cg hM hC hP (fun q hq => by rw [rowE q (by omega), if_pos rfl]), MLg_cg hL (fun q _ hq => by rw [rowE q hq, if_pos rfl]) (fun _ _ => rfl)⟩
      · rw [if_neg (by omega), if_pos rfl]
        have := h3 (k + 1) (by omega)
        exact ⟨MS_cg this.1 hC hP (fun q hq => by rw [rowE q (by omega), if_neg k39]), MLg_cg this.2 (fun q _ hq => by rw [rowE q hq, if_neg k39]) (fun _ _ => rfl)⟩
    · rw [wI_ne ha, b1 a hb, wI_ne ha, a1 a hb]
    · rw [wI_sn hi, b1 72 (by omega), wI_sn hi, a1 72 (by omega)]
  · obtain ⟨m2, e2, b1, b2⟩ := M_rem52 (n := n) (z := z) (D := D) (j := j) (r := r) (acts := acts) (by omega) 212 0 fu m (by omega) (by unfold fu; omega) h1
    refine ⟨wI m2 72 43 (Int32.ofNat (acts + 1)), ?_, ⟨by rw [wI_se]; exact congrArg Int32.ofNat (by omega), by omega, fun k hk => ?_⟩, fun a ha hb => ?_, fun i hi => ?_⟩
    · simp (disch := omega) only [obs, cN_mk, ite_true, ite_false, if_true, if_false, q72, h1, l40, ieq_f]
      unfold f_X12_remember_50
      rw [l0, e2]
    · have rowE : ∀ q, q < 212 → wI m2 72 43 (Int32.ofNat (acts + 1)) 90 (212 * k + q) = if k = acts then m 85 q else m 90 (212 * k + q) := by
        intro q hq
        rw [wI_ne (by omega), b2]
        by_cases ka : k = acts
        · subst ka
          rw [if_pos (by omega), if_pos rfl, show 212 * k + q - 212 * k = q by omega]
        · rw [if_neg (by omega), if_neg ka]
      unfold kp
      by_cases ka : k = acts
      · subst ka
        rw [if_pos (by omega)]
        exact ⟨MS_cg hM hC hP (fun q hq => by rw [rowE q (by omega), if_pos rfl]), MLg_cg hL (fun q _ hq => by rw [rowE q hq, if_pos rfl]) (fun _ _ => rfl)⟩
      · rw [if_neg (by omega), if_neg h40]
        have := h3 k (by omega)
        exact ⟨MS_cg this.1 hC hP (fun q hq => by rw [rowE q (by omega), if_neg ka]), MLg_cg this.2 (fun q _ hq => by rw [rowE q hq, if_neg ka]) (fun _ _ => rfl)⟩
    · rw [wI_ne ha, b1 a hb]
    · rw [wI_sn hi, b1 72 (by omega)]
theorem M_undo26 {acts : Nat} (ha : acts < 40) : ∀ rem k fuel (m : MI), k + rem = 212 → rem < fuel → m 72 43 = Int32.ofNat acts → ∃ m', f_X12_undo_26 fuel 72 (Int32.ofNat k) (mkH n z D m j r) = some (Int32.ofNat acts, mkH n z D m' j r) ∧ (∀ a, a ≠ 85 → m' a = m a) ∧ (∀ q, q < 212 → m' 85 q = if k ≤ q then m 90 (212 * acts + q) else m 85 q) := by
  intro rem
  induction rem with
  | zero =>
    intro k fuel m hk hf h43
    obtain ⟨f, rfl⟩ : ∃ f, fuel = f + 1 := ⟨fuel - 1, by omega⟩
    refine ⟨m, ?_, fun _ _ => rfl, fun q hq => by rw [if_neg (by omega)]⟩
    rw [f_X12_undo_26.eq_2, if_pos (by rw [l212, i_le (by omega) (by omega)]; omega)]
    simp (disch := omega) only [obs, cN_mk, ite_true, ite_false, if_true, if_false, q72, h43]
  | succ rem ih =>
    intro k fuel m hk hf h43
    obtain ⟨f, rfl⟩ : ∃ f, fuel = f + 1 := ⟨fuel - 1, by omega⟩
    obtain ⟨m', e, h1, h2⟩ := ih (k + 1) f (wI m 85 k (m 90 (212 * acts + k))) (by omega) (by omega) (by rw [wI_ne (by omega)]; exact h43)
    refine ⟨m', ?_, fun a ha => by rw [h1 a ha, wI_ne ha], fun q hq => ?_⟩
    · rw [f_X12_undo_26.eq_2, if_neg (by rw [l212, i_le (by omega) (by omega)]; omega)]
      simp (disch := omega) only [obs, cN_mk, ite_true, ite_false, if_true, if_false, q72, l1, l212, h43, i_mul, i_add, p85, p90, e]
    · rw [h2 q hq]
      by_cases c1 : k + 1 ≤ q
      · rw [if_pos c1, if_pos (by omega), wI_ne (by omega)]
      · rw [if_neg c1]
        by_cases c2 : q = k
        · subst c2
          rw [wI_se, if_pos (by omega)]
        · rw [wI_sn c2, if_neg (by omega)]
theorem M_image16 : ∀ rem k fuel (m : MI), k + rem = 212 → rem < fuel → ∃ m', f_X12_image_16 fuel 72 (Int32.ofNat k) (mkH n z D m j r) = some (m 85 30, mkH n z D (wI m' 72 49 (Int32.ofNat 1)) j r) ∧ (∀ a, a ≠ 93 → m' a = m a) ∧ (∀ q, q < 212 → m' 93 q = if k ≤ q then m 85 q else m 93 q) := by
  intro rem
  induction rem with
  | zero =>
    intro k fuel m hk hf
    obtain ⟨f, rfl⟩ : ∃ f, fuel = f + 1 := ⟨fuel - 1, by omega⟩
    refine ⟨m, ?_, fun _ _ => rfl, fun q hq => by rw [if_neg (by omega)]⟩
    rw [f_X12_image_16.eq_2, if_pos (by rw [l212, i_le (by omega) (by omega)]; omega)]
    simp (disch := omega) only [obs, cN_mk, ite_true, ite_false, if_true, if_false, q72, q72_z49', l1, l30, p85]
    rw [wI_ne (by omega)]
  | succ rem ih =>
    intro k fuel m hk hf
    obtain ⟨f, rfl⟩ : ∃ f, fuel = f + 1 := ⟨fuel - 1, by omega⟩
    obtain ⟨m', e, h1, h2⟩ := ih (k + 1) f (wI m 93 k (m 85 k)) (by omega) (by omega)
    refine ⟨m', ?_, fun a ha => by rw [h1 a ha, wI_ne ha], fun q hq => ?_⟩
    · rw [f_X12_image_16.eq_2, if_neg (by rw [l212, i_le (by omega) (by omega)]; omega)]
      rw [wI_ne (show (85 : Nat) ≠ 93 by omega)] at e
      simp (disch := omega) only [obs, cN_mk, ite_true, ite_false, if_true, if_false, q72, l1, i_add, p85, p93, e]
    · rw [h2 q hq]
      by_cases c1 : k + 1 ≤ q
      · rw [if_pos c1, if_pos (by omega), wI_ne (by omega)]
      · rw [if_neg c1]
        by_cases c2 : q = k
        · subst c2
          rw [wI_se, if_pos (by omega)]
        · rw [wI_sn c2, if_neg (by omega)]
theorem M_back16 : ∀ rem k fuel (m : MI), k + rem = 212 → rem < fuel → ∃ m', f_X12_back_16 fuel 72 (Int32.ofNat k) (mkH n z D m j r) = some (m' 85 30, mkH n z D (wI m' 72 43 (Int32.ofNat 0)) j r) ∧ (∀ a, a ≠ 85 → m' a = m a) ∧ (∀ q, q < 212 → m' 85 q = if k ≤ q then m 93 q else m 85 q) := by
  intro rem
  induction rem with
  | zero =>
    intro k fuel m hk hf
    obtain ⟨f, rfl⟩ : ∃ f, fuel = f + 1 := ⟨fuel - 1, by omega⟩
    refine ⟨m, ?_, fun _ _ => rfl, fun q hq => by rw [if_neg (by omega)]⟩
    rw [f_X12_back_16.eq_2, if_pos (by rw [l212, i_le (by omega) (by omega)]; omega)]
    simp (disch := omega) only [obs, cN_mk, ite_true, ite_false, if_true, if_false, q72, l0, l30, p85]
    rw [wI_ne (by omega)]
  | succ rem ih =>
    intro k fuel m hk hf
    obtain ⟨f, rfl⟩ : ∃ f, fuel = f + 1 := ⟨fuel - 1, by omega⟩
    obtain ⟨m', e, h1, h2⟩ := ih (k + 1) f (wI m 85 k (m 93 k)) (by omega) (by omega)
    refine ⟨m', ?_, fun a ha => by rw [h1 a ha, wI_ne ha], fun q hq => ?_⟩
    · rw [f_X12_back_16.eq_2, if_neg (by rw [l212, i_le (by omega) (by omega)]; omega)]
      simp (disch := omega) only [obs, cN_mk, ite_true, ite_false, if_true, if_false, q72, l1, i_add, p85, p93, e]
    · rw [h2 q hq]
      by_cases c1 : k + 1 ≤ q
      · rw [if_pos c1, if_pos (by omega), wI_ne (by omega)]
      · rw [if_neg c1]
        by_cases c2 : q = k
        · subst c2
          rw [wI_se, if_pos (by omega)]
        · rw [wI_sn c2, if_neg (by omega)]
end PAST
