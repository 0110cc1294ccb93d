/-! The model reads a law: sums. -/
section MSUM
variable {n z : Nat} {D : Dyn} {m : MI} {j : MJ} {r : MR} {t : Nat → Nat} {N a b i : Nat} {e d : Int32} {x : Int32}
theorem M_within {v : Int} (hv : -4611686018427387904 ≤ v ∧ v ≤ 4611686018427387904) {h : AH} (hh : h = mkH n z D m j r) : f_X12_within (Int64.ofInt v) h = some (Int32.ofInt (cli v), h) := by
  subst hh
  have e1 : (1000000 : Int64) = Int64.ofInt 1000000 := rfl
  have e2 : (-1000000 : Int64) = Int64.ofInt (-1000000) := rfl
  unfold f_X12_within f_X12_within_0 f_J9_min_f86c9 f_J9_min_f86c9_0 f_J9_max_f86c9 f_J9_max_f86c9_0 f_J9_min_f86c9_11 f_J9_max_f86c9_11
  rw [e2, e1]
  simp only [lg_lt, oj_int (show -9223372036854775808 ≤ v ∧ v < 9223372036854775808 by omega), oj_int (show -9223372036854775808 ≤ (1000000 : Int) ∧ (1000000 : Int) < 9223372036854775808 by omega)]
  by_cases h1 : v < 1000000
  · rw [if_pos h1]
    simp only [cN_mk, lg_lt, oj_int (show -9223372036854775808 ≤ v ∧ v < 9223372036854775808 by omega), oj_int (show -9223372036854775808 ≤ (-1000000 : Int) ∧ (-1000000 : Int) < 9223372036854775808 by omega)]
    by_cases h2 : -1000000 < v
    · rw [if_pos h2]
      simp only [cN_mk]
      rw [oj_32 (by omega), show cli v = v by unfold cli; omega]
    · rw [if_neg h2]
      simp only [cN_mk]
      rw [oj_32 (by omega), show cli v = -1000000 by unfold cli; omega]
  · rw [if_neg h1]
    simp only [cN_mk, lg_lt, oj_int (show -9223372036854775808 ≤ (1000000 : Int) ∧ (1000000 : Int) < 9223372036854775808 by omega), oj_int (show -9223372036854775808 ≤ (-1000000 : Int) ∧ (-1000000 : Int) < 9223372036854775808 by omega)]
    rw [if_pos (by omega)]
    simp only [cN_mk]
    rw [oj_32 (by omega), show cli v = 1000000 by unfold cli; omega]
theorem M_withinA {y : Int64} : ∃ w, f_X12_within y (mkH n z D m j r) = some (w, mkH n z D m j r) := by
  unfold f_X12_within f_X12_within_0 f_J9_min_f86c9 f_J9_min_f86c9_0 f_J9_max_f86c9 f_J9_max_f86c9_0 f_J9_min_f86c9_11 f_J9_max_f86c9_11
  split
  · simp only [cN_mk]
    split
    · simp only [cN_mk]
      exact ⟨_, rfl⟩
    · simp only [cN_mk]
      exact ⟨_, rfl⟩
  · simp only [cN_mk]
    split
    · simp only [cN_mk]
      exact ⟨_, rfl⟩
    · simp only [cN_mk]
      exact ⟨_, rfl⟩
theorem nm_val : ∀ (q i v : Nat), (∀ p, p < N → t p < 256) → (nm t N q i v).1 + 1 ≤ (v + 1) * 10 ^ q
  | 0, i, v, _ => by simp [nm]
  | q + 1, i, v, h => by
    rw [nm]
    split
    · rename_i hd
      have hd' : i < N ∧ 48 ≤ t i ∧ t i ≤ 57 := by
        unfold dig at hd
        simpa [Bool.and_eq_true] using hd
      have ih := nm_val q (i + 1) (10 * v + t i - 48) h
      refine Nat.le_trans ih ?_
      have : 10 * v + t i - 48 + 1 ≤ (v + 1) * 10 := by omega
      rw [Nat.pow_succ, Nat.mul_comm (10 ^ q) 10, ← Nat.mul_assoc]
      exact Nat.mul_le_mul_right _ this
    · show v + 1 ≤ (v + 1) * 10 ^ (q + 1)
      exact Nat.le_mul_of_pos_right _ (Nat.pow_pos (by omega))
theorem dg_b {q v c : Nat} (hq : q ≤ 3) (hc : c ≤ 10 * v + 9) (h : v * 10 ^ (q + 1) ≤ 9999) : c * 10 ^ q ≤ 9999 := by
  have h4 : q = 0 ∨ q = 1 ∨ q = 2 ∨ q = 3 := by omega
  rcases h4 with rfl | rfl | rfl | rfl
  · have e : (10 : Nat) ^ (0 + 1) = 10 := rfl
    have e' : (10 : Nat) ^ 0 = 1 := rfl
    rw [e] at h
    rw [e']
    omega
  · have e : (10 : Nat) ^ (1 + 1) = 100 := rfl
    have e' : (10 : Nat) ^ 1 = 10 := rfl
    rw [e] at h
    rw [e']
    omega
  · have e : (10 : Nat) ^ (2 + 1) = 1000 := rfl
    have e' : (10 : Nat) ^ 2 = 100 := rfl
    rw [e] at h
    rw [e']
    omega
  · have e : (10 : Nat) ^ (3 + 1) = 10000 := rfl
    have e' : (10 : Nat) ^ 3 = 1000 := rfl
    rw [e] at h
    rw [e']
    have hv : v = 0 := by
      by_cases hv : v = 0
      · exact hv
      · exfalso
        have := Nat.mul_le_mul_right 10000 (Nat.pos_of_ne_zero hv)
        omega
    subst hv
    have : c ≤ 9 := hc
    exact Nat.le_trans (Nat.mul_le_mul_right 1000 this) (by decide)
theorem M_digits {fS : Nat → AH → Option (Int32 × AH)} (hT : TX m r t N a b) : ∀ (q i v fuel : Nat), i ≤ N → q < fuel → q ≤ 4 → v * 10 ^ q ≤ 9999 → f_X12_atom_90 fS fuel 72 (Int32.ofNat v) (Int32.ofNat (4 - q)) (mkH n z D (s3 m (Int32.ofNat i) no1 d) j r) = if dig t N (nm t N q i v).2 = true then some (Int32.ofNat 0, mkH n z D (s3 m (Int32.ofNat (nm t N q i v).2) (Int32.ofNat (nm t N q i v).2) d) j r) else some (Int32.ofNat (nm t N q i v).1, mkH n z D (s3 m (Int32.ofNat (nm t N q i v).2) no1 d) j r) := by
  have hN := hT.2.2.2.1
  have hb : b ≤ 720 := by rcases hT.2.2.2.2.1 with ⟨_, h⟩ | ⟨_, h⟩ <;> omega
  intro q
  induction q with
  | zero =>
    intro i v fuel hi hf hq hv
    obtain ⟨f, rfl⟩ : ∃ f, fuel = f + 1 := ⟨fuel - 1, by omega⟩
    rw [f_X12_atom_90.eq_2, nm]
    simp (disch := omega) only [obs, cN_mk, ite_true, ite_false, if_true, if_false, q72, M_isDigit hT hi, l0, bI_0, s3_11, l1, l4, no1_e, reduceIte, Nat.sub_zero, M_fails0]
    cases dig t N i <;> rfl
  | succ q ih =>
    intro i v fuel hi hf hq hv
    obtain ⟨f, rfl⟩ : ∃ f, fuel = f + 1 := ⟨fuel - 1, by omega⟩
    rw [f_X12_atom_90.eq_2, nm]
    simp (disch := omega) only [obs, cN_mk, ite_true, ite_false, if_true, if_false, q72, M_isDigit hT hi, l0, bI_0, s3_11, l1, l4, no1_e, reduceIte, i_inj]
    by_cases hd : dig t N i = true
    · have hd' : i < N ∧ 48 ≤ t i ∧ t i ≤ 57 := by
        unfold dig at hd
        simpa [Bool.and_eq_true] using hd
      have hq' := hT.2.2.2.2.2 i hd'.1
      have hp : 1 ≤ 10 ^ q := Nat.pow_pos (by omega)
      have hv' : v * 10 * 10 ^ q ≤ 9999 := by rw [Nat.mul_assoc, Nat.mul_comm 10, ← Nat.pow_succ]; exact hv
      have hv2 : v * 10 ≤ 9999 := Nat.le_trans (Nat.le_mul_of_pos_right _ hp) hv'
      rw [if_pos hd, if_neg (by simp [hd]), if_neg (by omega)]
      simp (disch := omega) only [obs, cN_mk, ite_true, ite_false, if_true, if_false, q72, hT.1, hT.2.1, s3_10, s3_o, i_add, TX_rd hT hd'.1, (byt (t i) hq'.2.2).2.2.2.2 (by omega), l10, l48, i_mul, i_sub, w10]
      have := ih (i + 1) (10 * v + t i - 48) f (by omega) (by omega) (by omega) (dg_b (by omega) (by omega) hv)
      rw [← this]
      congr 2
      omega
    · rw [if_neg hd, if_pos (by simpa using hd)]
      rw [if_neg hd]
theorem hD_s {s : Nat} (hD : ∀ a, 1000000 ≤ a → D a = none) (hs : s < 7) : aLen (mkH n z D m j r) (3000000 + s) = some (Int32.ofNat (strT.getD s []).length) ∧ (∀ k, k < (strT.getD s []).length → aI 1 (mkH n z D m j r) (3000000 + s) (Int32.ofNat k) = some ((strT.getD s []).getD k 0)) := by
  have h0 : (mkH n z D m j r).2.2 (3000000 + s) = none := by
    show (SHP D (3000000 + s)).map _ = none
    unfold SHP
    rw [if_neg (by omega), hD _ (by omega)]
    rfl
  have h1 : sarr (3000000 + s) = some (1, strT.getD s []) := by
    unfold sarr
    rw [if_neg (by omega), if_neg (by omega), if_neg (by omega), Nat.add_sub_cancel_left]
    have : strT[s]? = some (strT.getD s []) := by
      rw [List.getD_eq_getElem?_getD]
      have hl : s < strT.length := hs
      rw [List.getElem?_eq_getElem hl]
      rfl
    rw [this]
    rfl
  refine ⟨?_, fun k hk => ?_⟩
  · unfold aLen
    rw [h0, h1]
    rfl
  · unfold aI
    rw [h0, h1]
    have hl : (strT.getD s []).length ≤ 12 := by
      have : ∀ s, s < 7 → (strT.getD s []).length ≤ 12 := by decide
      exact this s hs
    show (if 1 = 1 ∧ ¬ (Int32.ofNat k < 0 ∨ (strT.getD s []).length ≤ (Int32.ofNat k).toNatClampNeg) then some ((strT.getD s []).getD (Int32.ofNat k).toNatClampNeg 0) else none) = _
    rw [if_pos ⟨rfl, i_ix hk (by omega)⟩, i_toNat (by omega)]
theorem S_all : ∀ s, s < 7 → ∀ k, k < (strT.getD s []).length → ∃ c, c < 128 ∧ 1 ≤ c ∧ (strT.getD s []).getD k 0 = Int32.ofNat c := by
  have : ∀ s, s < 7 → ∀ k, k < (strT.getD s []).length → ((strT.getD s []).getD k 0).toInt.toNat < 128 ∧ 1 ≤ ((strT.getD s []).getD k 0).toInt.toNat ∧ (strT.getD s []).getD k 0 = Int32.ofNat ((strT.getD s []).getD k 0).toInt.toNat := by decide +kernel
  intro s hs k hk
  exact ⟨_, (this s hs k hk).1, (this s hs k hk).2⟩
theorem sStr_s {s : Nat} (hs : s < 7) : sStr (2000000 + s) = some s := by
  unfold sStr
  rw [if_pos (by omega), Nat.add_sub_cancel_left]
theorem rTb {c : Nat} {h : AH} (hc : c < 128) : rT .byte (Int32.ofNat c) h = some (Int32.ofNat c, h) ∧ rT .char (Int32.ofNat c) h = some (Int32.ofNat c, h) := by
  have : ∀ c, c < 128 → narrow .byte (.int (Int32.ofNat c)) = .int (Int32.ofNat c) ∧ narrow .char (.int (Int32.ofNat c)) = .int (Int32.ofNat c) := by decide +kernel
  unfold rT
  exact ⟨if_pos (this c hc).1, if_pos (this c hc).2⟩
theorem S_len {s : Nat} (hD : ∀ a, 1000000 ≤ a → D a = none) (hs : s < 7) : f_J0_length_8abf5 (2000000 + s) (mkH n z D m j r) = some (Int32.ofNat (strT.getD s []).length, mkH n z D m j r) := by
  unfold f_J0_length_8abf5 f_J0_length_8abf5_0 f_J0_coder_7d493 f_J0_coder_7d493_0
  have e0 : (0 : Int32) = Int32.ofNat 0 := rfl
  rw [if_neg (by decide), sStr_s hs]
  simp only [obs, cN_mk, ite_true, ite_false, if_true, if_false, (hD_s hD hs).1, e0, rTb (show 0 < 128 by omega)]
  have : ∀ s, s < 7 → Int32.ofNat (strT.getD s []).length >>> (Int32.ofNat 0 &&& 31) = Int32.ofNat (strT.getD s []).length := by decide +kernel
  rw [this s hs]
theorem S_char {s k : Nat} (hD : ∀ a, 1000000 ≤ a → D a = none) (hs : s < 7) (hk : k < (strT.getD s []).length) : f_J0_charAt_5068e (2000000 + s) (Int32.ofNat k) (mkH n z D m j r) = some ((strT.getD s []).getD k 0, mkH n z D m j r) := by
  have hl : (strT.getD s []).length ≤ 12 := by
    have : ∀ s, s < 7 → (strT.getD s []).length ≤ 12 := by decide
    exact this s hs
  obtain ⟨c, hc, hc1, ec⟩ := S_all s hs k hk
  have ec2 : ((Int32.ofNat c &&& 255).toUInt32 % 65536).toInt32 = Int32.ofNat c := by
    have : ∀ c, c < 128 → ((Int32.ofNat c &&& 255).toUInt32 % 65536).toInt32 = Int32.ofNat c := by decide +kernel
    exact this c hc
  have e1 : f_J1_charAt_3b067 (3000000 + s) (Int32.ofNat k) (mkH n z D m j r) = some (Int32.ofNat c, mkH n z D m j r) := by
    unfold f_J1_charAt_3b067 f_J1_charAt_3b067_0 f_J0_checkIndex_df160 f_J3_checkIndex_8e157
    rw [(hD_s hD hs).1]
    simp only [obs, cN_mk, ite_true, ite_false, if_true, if_false]
    rw [if_neg (i_nn (by omega)), if_pos ((i_lt (by omega) (by omega)).mpr hk)]
    simp only [obs, cN_mk, ite_true, ite_false, if_true, if_false, (hD_s hD hs).2 k hk, ec, ec2, rTb hc]
  unfold f_J0_charAt_5068e f_J0_charAt_5068e_0 f_J0_isLatin1_aae02 f_J0_isLatin1_aae02_0
  rw [if_neg (by decide), if_pos rfl, sStr_s hs]
  simp only [obs, cN_mk, ite_true, ite_false, if_true, if_false, sStr_s hs]
  rw [if_neg (by decide)]
  simp only [obs, cN_mk, ite_true, ite_false, if_true, if_false, e1, rTb hc, ec]
theorem getD_g (l : List Int32) (k : Nat) (h : k < l.length) : l[k] = l.getD k 0 := by
  simp [List.getD, h]
theorem M_among {s : Nat} {x : Int32} (hD : ∀ a, 1000000 ≤ a → D a = none) (hs : s < 7) : f_X12_isAmong (2000000 + s) x (mkH n z D m j r) = some (bI (decide (x ∈ strT.getD s [])), mkH n z D m j r) := by
  have hl : (strT.getD s []).length ≤ 12 := by
    have : ∀ s, s < 7 → (strT.getD s []).length ≤ 12 := by decide
    exact this s hs
  have lp : ∀ (rem k fuel : Nat), k + rem = (strT.getD s []).length → rem < fuel → f_X12_isAmong_2 fuel (2000000 + s) x (Int32.ofNat k) (mkH n z D m j r) = some (bI (decide (x ∈ (strT.getD s []).drop k)), mkH n z D m j r) := by
    intro rem
    induction rem with
    | zero =>
      intro k fuel hk hf
      obtain ⟨f, rfl⟩ : ∃ f, fuel = f + 1 := ⟨fuel - 1, by omega⟩
      rw [f_X12_isAmong_2.eq_2, sStr_s hs]
      simp (disch := omega) only [obs, cN_mk, ite_true, ite_false, if_true, if_false, S_len hD hs, i_le]
      rw [if_pos (by omega), List.drop_eq_nil_of_le (by omega)]
      rfl
    | succ rem ih =>
      intro k fuel hk hf
      obtain ⟨f, rfl⟩ : ∃ f, fuel = f + 1 := ⟨fuel - 1, by omega⟩
      rw [f_X12_isAmong_2.eq_2, sStr_s hs]
      simp (disch := omega) only [obs, cN_mk, ite_true, ite_false, if_true, if_false, S_len hD hs, i_le, S_char hD hs]
      rw [if_neg (by omega)]
      have hk' : k < (strT.getD s []).length := by omega
      have ed : (strT.getD s []).drop k = (strT.getD s []).getD k 0 :: (strT.getD s []).drop (k + 1) := by
        rw [List.drop_eq_getElem_cons hk']
        congr 1
        exact getD_g _ k hk'
      rw [ed, l1, i_add, ih (k + 1) f (by omega) (by omega)]
      by_cases hx : (strT.getD s []).getD k 0 = x
      · rw [if_pos hx, hx]
        simp [bI, l1]
      · rw [if_neg hx]
        have : x ≠ (strT.getD s []).getD k 0 := fun e => hx e.symm
        simp only [List.mem_cons, this, false_or]
  unfold f_X12_isAmong f_X12_isAmong_0
  rw [l0, lp _ 0 fu (Nat.zero_add _) (by unfold fu; omega)]
  rfl
/-- the letters that the model holds -/
def LT (m : MI) (L : Nat → Int) : Prop := (∀ k, k < 6 → -1000000 ≤ L k ∧ L k ≤ 1000000) ∧ m 76 109 = Int32.ofInt (L 0) ∧ m 76 103 = Int32.ofInt (L 1) ∧ m 76 119 = Int32.ofInt (L 2) ∧ m 76 115 = Int32.ofInt (L 3) ∧ m 76 110 = Int32.ofInt (L 4) ∧ m 76 100 = Int32.ofInt (L 5)
theorem ltr_s {s : Nat} (hs : s < 256) : decide (sgI s ∈ strT.getD 3 []) = decide (ltr s < 6) := by
  have : ∀ s, s < 256 → decide (sgI s ∈ strT.getD 3 []) = decide (ltr s < 6) := by decide +kernel
  exact this s hs
theorem LT_rd {L : Nat → Int} {s : Nat} (hL : LT m L) (hl : ltr s < 6) : s < 128 ∧ s ≠ 0 ∧ m 76 s = Int32.ofInt (L (ltr s)) := by
  obtain ⟨_, h0, h1, h2, h3, h4, h5⟩ := hL
  unfold ltr at hl ⊢
  by_cases e0 : s = 109
  · subst e0; exact ⟨by omega, by omega, h0⟩
  by_cases e1 : s = 103
  · subst e1; exact ⟨by omega, by omega, h1⟩
  by_cases e2 : s = 119
  · subst e2; exact ⟨by omega, by omega, h2⟩
  by_cases e3 : s = 115
  · subst e3; exact ⟨by omega, by omega, h3⟩
  by_cases e4 : s = 110
  · subst e4; exact ⟨by omega, by omega, h4⟩
  by_cases e5 : s = 100
  · subst e5; exact ⟨by omega, by omega, h5⟩
  simp [e0, e1, e2, e3, e4, e5] at hl
theorem M_atom {fS : Nat → AH → Option (Int32 × AH)} {L : Nat → Int} {sumf : Nat → PR} {k d : Nat} (hD : ∀ a, 1000000 ≤ a → D a = none) (hT : TX m r t N a b) (hL : LT m L) (hdk : d + k = 6) (hS : k ≠ 0 → ∀ i, i ≤ N → MO n z D m j r (fS 72 (mkH n z D (s3 m (Int32.ofNat i) no1 (Int32.ofNat (d + 1))) j r)) (sumf i) (d + 1) (fun c v => Ev L c v (2 * k + 1))) (hP : k ≠ 0 → ∀ i, i ≤ N → PA N i (sumf i) 1) (hi : i ≤ N) :
    MO n z D m j r (f_X12_atom fS 72 (mkH n z D (s3 m (Int32.ofNat i) no1 (Int32.ofNat d)) j r)) (pAtom t N sumf k i) d (fun c v => Ev L c v (2 * k + 1)) := by
  have hs := sg_lt hT hi
  have hN := hT.2.2.2.1
  have hk := sk_le (t := t) hi
  have b256 : ∀ p, p < N → t p < 256 := fun p hp => (hT.2.2.2.2.2 p hp).2.2
  have e3 : f_X12_isAmong 2000003 (sgI (sg t N i)) (mkH n z D (s3 m (Int32.ofNat (sk t N i)) no1 (Int32.ofNat d)) j r) = some (bI (decide (ltr (sg t N i) < 6)), mkH n z D (s3 m (Int32.ofNat (sk t N i)) no1 (Int32.ofNat d)) j r) := by
    rw [show 2000003 = 2000000 + 3 from rfl, M_among hD (by omega), ltr_s hs]
  unfold f_X12_atom f_X12_atom_0 pAtom
  simp (disch := omega) only [obs, cN_mk, ite_true, ite_false, if_true, if_false, q72, M_look hT hi, e3, l0, bI_0, decide_eq_false_iff_not]
  by_cases hl : ltr (sg t N i) < 6
  · rw [if_pos hl, if_neg (by simpa using hl)]
    have hr := LT_rd hL hl
    refine ⟨L (ltr (sg t N i)), Ev_let hl (by omega) (hL.1 _ hl), ?_⟩
    unfold sgI
    rw [if_neg hr.2.1]
    simp (disch := omega) only [obs, cN_mk, ite_true, ite_false, if_true, if_false, q72, s3_10, w10, l1, i_add, p76, s3_a, hr.2.2]
  · rw [if_neg hl, if_pos hl]
    simp (disch := omega) only [l91, sgI_c]
    by_cases h91 : sg t N i = 91
    · rw [if_pos h91, if_pos h91]
      simp (disch := omega) only [obs, cN_mk, ite_true, ite_false, if_true, if_false, q72, M_goesIn]
      by_cases hk0 : k = 0
      · rw [if_pos hk0, if_pos (by omega)]
        refine ⟨by omega, ?_⟩
        simp (disch := omega) only [obs, cN_mk, ite_true, ite_false, if_true, if_false, reduceIte]
        exact ⟨_, _, _, rfl⟩
      · have hp := sg_pos (t := t) (N := N) (i := i) (by omega)
        rw [if_neg hk0, if_neg (by omega)]
        simp (disch := omega) only [obs, cN_mk, ite_true, ite_false, if_true, if_false, q72, i_inj, Nat.reduceEqDiff, reduceIte]
        have hm := hS hk0 (sk t N i + 1) (by omega)
        have hpa := hP hk0 (sk t N i + 1) (by omega)
        cases hx : sumf (sk t N i + 1) with
        | inl e =>
          rw [hx] at hm
          obtain ⟨he, v, x, dd, hv⟩ := hm
          refine ⟨he, ?_⟩
          simp (disch := omega) only [hv, obs, cN_mk, ite_true, ite_false, if_true, if_false, q72, l93, M_takes1, reduceIte]
          exact ⟨_, _, _, rfl⟩
        | inr q =>
          obtain ⟨c, j1⟩ := q
          rw [hx] at hm
          obtain ⟨v, hv, ev⟩ := hm
          have hj := hpa c j1 hx
          simp (disch := omega) only [ev, obs, cN_mk, ite_true, ite_false, if_true, if_false, q72, l93, M_takes0 hT hj.2.1]
          show MO n z D m j r _ (pTk t N 93 c j1) d _
          unfold pTk
          by_cases h93 : sg t N j1 = 93
          · rw [if_pos h93, if_pos h93]
            simp (disch := omega) only [obs, cN_mk, ite_true, ite_false, if_true, if_false, q72, i_inj, Nat.reduceEqDiff, reduceIte, s3_12, l1, i_sub, Nat.add_sub_cancel, w12]
            exact ⟨v, hv, rfl⟩
          · rw [if_neg h93, if_neg h93]
            have hk1 := sk_le (t := t) hj.2.1
            refine ⟨by omega, ?_⟩
            simp (disch := omega) only [obs, cN_mk, ite_true, ite_false, if_true, if_false, reduceIte]
            exact ⟨_, _, _, rfl⟩
    · rw [if_neg h91, if_neg h91]
      have hval := nm_val 4 (sk t N i) 0 b256
      have hle := nm_le (t := t) 4 (sk t N i) 0 hk.2
      simp (disch := omega) only [obs, cN_mk, ite_true, ite_false, if_true, if_false, q72, M_isDigit hT hk.2, bI_0, f_X12_atom_86, l0]
      unfold pNum
      by_cases hd : dig t N (sk t N i) = true
      · rw [if_neg (by simp [hd])]
        have := M_digits (n := n) (z := z) (D := D) (j := j) (d := Int32.ofNat d) (fS := fS) hT 4 (sk t N i) 0 fu hk.2 (by unfold fu; omega) (by omega) (by rw [Nat.zero_mul]; exact Nat.zero_le _)
        rw [Nat.sub_self] at this
        rw [this]
        have hne : (nm t N 4 (sk t N i) 0).2 ≠ sk t N i := by
          rw [nm, if_pos hd]
          have hlt : sk t N i < N := by
            unfold dig at hd
            simp only [Bool.and_eq_true, decide_eq_true_eq] at hd
            exact hd.1
          have := nm_le (t := t) (N := N) 3 (sk t N i + 1) (10 * 0 + t (sk t N i) - 48) (by omega)
          exact Nat.ne_of_gt (Nat.lt_of_lt_of_le (Nat.lt_succ_self _) this.1)
        by_cases h5 : dig t N (nm t N 4 (sk t N i) 0).2 = true
        · rw [if_pos h5, if_pos (Or.inr h5)]
          exact ⟨by omega, _, _, _, rfl⟩
        · rw [if_neg h5, if_neg (by simp [hne, h5])]
          refine ⟨((nm t N 4 (sk t N i) 0).1 : Int), Ev_num (by omega) (by omega), ?_⟩
          rw [oi_nat]
      · have hd' : dig t N (sk t N i) = false := by simpa using hd
        rw [if_pos hd']
        have e0 : nm t N 4 (sk t N i) 0 = (0, sk t N i) := by rw [nm, if_neg hd]
        rw [e0, if_pos (Or.inl rfl)]
        refine ⟨by omega, ?_⟩
        obtain ⟨f, hf⟩ : ∃ f, fu = f + 1 := ⟨9999, rfl⟩
        rw [hf, M_fails0]
        simp only [obs, cN_mk, ite_true, ite_false, if_true, if_false]
        rw [f_X12_atom_90.eq_2]
        simp (disch := omega) only [obs, cN_mk, ite_true, ite_false, if_true, if_false, q72, M_isDigit hT hk.2, bI_0, hd', l0, reduceIte]
        exact ⟨_, _, _, rfl⟩
end MSUM
