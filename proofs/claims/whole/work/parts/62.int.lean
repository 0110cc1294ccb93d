/-! Numbers. -/
theorem i_toNat {k : Nat} (h : k < 2147483648) : (Int32.ofNat k).toNatClampNeg = k := by
  show (Int32.ofNat k).toInt.toNat = k
  rw [Int32.toInt_ofNat_of_lt (by simpa using h)]
  rfl
theorem i_int {k : Nat} (h : k < 2147483648) : (Int32.ofNat k).toInt = (k : Int) := Int32.toInt_ofNat_of_lt (by simpa using h)
theorem i_lt {a b : Nat} (ha : a < 2147483648) (hb : b < 2147483648) : (Int32.ofNat a < Int32.ofNat b) ↔ a < b := by
  rw [Int32.lt_iff_toInt_lt, i_int ha, i_int hb]
  omega
theorem i_le {a b : Nat} (ha : a < 2147483648) (hb : b < 2147483648) : (Int32.ofNat a ≤ Int32.ofNat b) ↔ a ≤ b := by
  rw [Int32.le_iff_toInt_le, i_int ha, i_int hb]
  omega
theorem i_nn {a : Nat} (ha : a < 2147483648) : ¬ Int32.ofNat a < 0 := by
  rw [show (0 : Int32) = Int32.ofNat 0 from rfl, i_lt ha (by decide)]
  omega
theorem i_inj {a b : Nat} (ha : a < 2147483648) (hb : b < 2147483648) : (Int32.ofNat a = Int32.ofNat b) ↔ a = b := by
  constructor
  · intro h
    have := congrArg Int32.toInt h
    rw [i_int ha, i_int hb] at this
    omega
  · rintro rfl
    rfl
theorem i_add {a b : Nat} : Int32.ofNat a + Int32.ofNat b = Int32.ofNat (a + b) := by
  exact (Int32.ofNat_add a b).symm
theorem i_add1 {a : Nat} : Int32.ofNat a + 1 = Int32.ofNat (a + 1) := i_add (a := a) (b := 1)
theorem i_ix {k N : Nat} (h : k < N) (hN : N ≤ 100000) : ¬ (Int32.ofNat k < 0 ∨ N ≤ (Int32.ofNat k).toNatClampNeg) := by
  rw [i_toNat (by omega)]
  rintro (h1 | h1)
  · exact i_nn (by omega) h1
  · omega
/-- an int is negative, or a small number -/
theorem i_cases (x : Int32) : x < 0 ∨ ∃ k, k < 2147483648 ∧ x = Int32.ofNat k := by
  by_cases h : x < 0
  · exact Or.inl h
  · right
    have h0 : 0 ≤ x.toInt := by
      have := Int32.le_iff_toInt_le.mp (Int32.not_lt.mp h)
      simpa using this
    have h1 := Int32.toInt_lt x
    refine ⟨x.toInt.toNat, by omega, ?_⟩
    apply Int32.toInt_inj.mp
    rw [i_int (by omega)]
    omega
theorem i_neg_lt {x : Int32} {k : Nat} (h : x < 0) (hk : k < 2147483648) : x < Int32.ofNat k := by
  rw [Int32.lt_iff_toInt_lt, i_int hk]
  have := Int32.lt_iff_toInt_lt.mp h
  have e : (0 : Int32).toInt = 0 := rfl
  omega
