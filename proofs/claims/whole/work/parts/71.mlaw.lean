/-! The model reads a law. -/
theorem byt : ∀ t, t < 256 → ((nar 1 (Int32.ofNat t) = 32) ↔ t = 32) ∧ nar 1 (Int32.ofNat t) &&& 255 = Int32.ofNat t ∧ ((nar 1 (Int32.ofNat t) < 48) ↔ (t < 48 ∨ 128 ≤ t)) ∧ ((57 < nar 1 (Int32.ofNat t)) ↔ (57 < t ∧ t < 128)) ∧ (t < 128 → nar 1 (Int32.ofNat t) = Int32.ofNat t) := by decide +kernel
def sgI (s : Nat) : Int32 := if s = 0 then no1 else Int32.ofNat s
theorem sgI_c {s c : Nat} (hs : s < 256) (hc : c < 256) (h0 : c ≠ 0) : (sgI s = Int32.ofNat c) ↔ s = c := by
  unfold sgI
  by_cases h : s = 0
  · subst h
    rw [if_pos rfl, no1_ne' (by omega)]
    simp
    omega
  · rw [if_neg h, i_inj (by omega) (by omega)]
theorem sgI_n {s : Nat} (hs : s < 256) : (sgI s = no1) ↔ s = 0 := by
  unfold sgI
  by_cases h : s = 0
  · simp [h]
  · rw [if_neg h, no1_ne (by omega)]
    simp [h]
def s3 (m : MI) (x e d : Int32) : MI := fun a => if a = 72 then (fun i => if i = 10 then x else if i = 11 then e else if i = 12 then d else m 72 i) else m a
section S3
variable {m : MI} {x e d y : Int32}
theorem s3_10 : s3 m x e d 72 10 = x := by simp [s3]
theorem s3_11 : s3 m x e d 72 11 = e := by simp [s3]
theorem s3_12 : s3 m x e d 72 12 = d := by simp [s3]
theorem s3_o {i : Nat} (h : ¬ (10 ≤ i ∧ i ≤ 12)) : s3 m x e d 72 i = m 72 i := by
  simp [s3, show i ≠ 10 by omega, show i ≠ 11 by omega, show i ≠ 12 by omega]
theorem s3_a {a : Nat} (h : a ≠ 72) : s3 m x e d a = m a := by simp [s3, h]
theorem w10 : wI (s3 m x e d) 72 10 y = s3 m y e d := by
  funext a i
  by_cases h : a = 72
  · subst h
    by_cases h' : i = 10
    · subst h'; rw [wI_se, s3_10]
    · rw [wI_sn h']; simp [s3, h']
  · rw [wI_ne h]; simp [s3, h]
theorem w11 : wI (s3 m x e d) 72 11 y = s3 m x y d := by
  funext a i
  by_cases h : a = 72
  · subst h
    by_cases h' : i = 11
    · subst h'; rw [wI_se, s3_11]
    · rw [wI_sn h']; simp [s3, h']
  · rw [wI_ne h]; simp [s3, h]
theorem w12 : wI (s3 m x e d) 72 12 y = s3 m x e y := by
  funext a i
  by_cases h : a = 72
  · subst h
    by_cases h' : i = 12
    · subst h'; rw [wI_se, s3_12]
    · rw [wI_sn h']; simp [s3, h']
  · rw [wI_ne h]; simp [s3, h]
theorem s3_s : s3 m (m 72 10) (m 72 11) (m 72 12) = m := by
  funext a i
  unfold s3
  by_cases h : a = 72
  · subst h
    simp only [if_true]
    split
    · rename_i h; rw [h]
    split
    · rename_i h; rw [h]
    split
    · rename_i h; rw [h]
    rfl
  · rw [if_neg h]
end S3
/-- the text that the model reads -/
def TX (m : MI) (r : MR) (t : Nat → Nat) (N a b : Nat) : Prop := r 72 5 = some a ∧ m 72 8 = Int32.ofNat b ∧ m 72 9 = Int32.ofNat N ∧ N ≤ 240 ∧ ((a = 73 ∧ b = 0) ∨ (a = 74 ∧ b ≤ 720)) ∧ (∀ q, q < N → m a (b + q) = nar 1 (Int32.ofNat (t q)) ∧ 1 ≤ t q ∧ t q < 256)
def MO (n z : Nat) (D : Dyn) (m : MI) (j : MJ) (r : MR) (res : Option (Int32 × AH)) (p : PR) (d : Nat) (Q : List Nat → Int → Prop) : Prop := match p with
  | .inl e => e ≤ 1000 ∧ ∃ v x dd, res = some (v, mkH n z D (s3 m x (Int32.ofNat e) dd) j r)
  | .inr q => ∃ v : Int, Q q.1 v ∧ res = some (Int32.ofInt v, mkH n z D (s3 m (Int32.ofNat q.2) no1 (Int32.ofNat d)) j r)
section MPAR
variable {n z : Nat} {D : Dyn} {m : MI} {j : MJ} {r : MR} {t : Nat → Nat} {N a b i : Nat} {e d : Int32} {x : Int32}
theorem sg_lt (hT : TX m r t N a b) (hi : i ≤ N) : sg t N i < 256 := by
  unfold sg
  split
  · rename_i h
    exact (hT.2.2.2.2.2 _ h).2.2
  · omega
theorem TX_rd (hT : TX m r t N a b) (hi : i < N) : aI 1 (mkH n z D (s3 m x e d) j r) a (Int32.ofNat (b + i)) = some (nar 1 (Int32.ofNat (t i))) := by
  obtain ⟨h1, h2, h3, h4, h5, h6⟩ := hT
  rcases h5 with ⟨rfl, rfl⟩ | ⟨rfl, h5⟩
  · rw [p73.1 _ (by omega), s3_a (by omega), (h6 i hi).1]
  · rw [p74.1 _ (by omega), s3_a (by omega), (h6 i hi).1]
theorem M_look43 (hT : TX m r t N a b) (hi : i ≤ N) (hs : sk t N i = i) : f_X12_look_43 72 (mkH n z D (s3 m (Int32.ofNat i) e d) j r) = some (sgI (sg t N i), mkH n z D (s3 m (Int32.ofNat i) e d) j r) := by
  have hN := hT.2.2.2.1
  have hb : b ≤ 720 := by rcases hT.2.2.2.2.1 with ⟨_, h⟩ | ⟨_, h⟩ <;> omega
  unfold f_X12_look_43 sg sgI
  rw [hs]
  by_cases h : i < N
  · have hq := hT.2.2.2.2.2 i h
    simp (disch := omega) only [obs, cN_mk, ite_true, ite_false, if_true, if_false, q72, s3_10, s3_o, hT.1, hT.2.1, hT.2.2.1, i_le, i_add, TX_rd hT h, (byt (t i) hq.2.2).2.1]
    rw [if_neg (by omega), if_pos h, if_neg (by omega)]
  · simp (disch := omega) only [obs, cN_mk, ite_true, ite_false, if_true, if_false, q72, s3_10, s3_o, hT.2.2.1, i_le, l1, no1_e]
    rw [if_pos (by omega), if_neg h]
    rfl
theorem M_look (hT : TX m r t N a b) (hi : i ≤ N) : f_X12_look 72 (mkH n z D (s3 m (Int32.ofNat i) e d) j r) = some (sgI (sg t N i), mkH n z D (s3 m (Int32.ofNat (sk t N i)) e d) j r) := by
  have hN := hT.2.2.2.1
  have hb : b ≤ 720 := by rcases hT.2.2.2.2.1 with ⟨_, h⟩ | ⟨_, h⟩ <;> omega
  have lp : ∀ (q i fuel : Nat), N - i = q → i ≤ N → q < fuel → f_X12_look_0 fuel 72 (mkH n z D (s3 m (Int32.ofNat i) e d) j r) = some (sgI (sg t N i), mkH n z D (s3 m (Int32.ofNat (sk t N i)) e d) j r) := by
    intro q
    induction q with
    | zero =>
      intro i fuel hq hi hf
      obtain ⟨f, rfl⟩ : ∃ f, fuel = f + 1 := ⟨fuel - 1, by omega⟩
      have hs : sk t N i = i := sk_n (by omega)
      rw [f_X12_look_0.eq_2]
      simp (disch := omega) only [obs, cN_mk, ite_true, ite_false, if_true, if_false, q72, s3_10, s3_o, hT.2.2.1, i_le]
      rw [if_pos (by omega), M_look43 hT hi hs, hs]
    | succ q ih =>
      intro i fuel hq hi hf
      obtain ⟨f, rfl⟩ : ∃ f, fuel = f + 1 := ⟨fuel - 1, by omega⟩
      have hq' := hT.2.2.2.2.2 i (by omega)
      rw [f_X12_look_0.eq_2]
      simp (disch := omega) only [obs, cN_mk, ite_true, ite_false, if_true, if_false, q72, s3_10, s3_o, hT.1, hT.2.1, hT.2.2.1, i_le, i_add, TX_rd hT (show i < N by omega), (byt (t i) hq'.2.2).1]
      rw [if_neg (by omega)]
      by_cases h32 : t i = 32
      · rw [if_pos h32]
        simp (disch := omega) only [obs, cN_mk, ite_true, ite_false, if_true, if_false, q72, s3_10, w10, l1, i_add]
        have es : sg t N i = sg t N (i + 1) := by
          unfold sg
          rw [sk_y (by omega) h32]
        rw [ih (i + 1) f (by omega) (by omega) (by omega), ← sk_y (by omega) h32, es]
      · have hs : sk t N i = i := sk_n (by simp [h32])
        rw [if_neg h32, M_look43 hT hi hs, hs]
  exact lp (N - i) i fu rfl hi (by unfold fu; omega)
theorem M_isDigit (hT : TX m r t N a b) (hi : i ≤ N) : f_X12_isDigit 72 (mkH n z D (s3 m (Int32.ofNat i) e d) j r) = some (bI (dig t N i), mkH n z D (s3 m (Int32.ofNat i) e d) j r) := by
  have hN := hT.2.2.2.1
  have hb : b ≤ 720 := by rcases hT.2.2.2.2.1 with ⟨_, h⟩ | ⟨_, h⟩ <;> omega
  unfold f_X12_isDigit f_X12_isDigit_0 dig
  by_cases h : i < N
  · have hq := hT.2.2.2.2.2 i h
    simp (disch := omega) only [obs, cN_mk, ite_true, ite_false, if_true, if_false, q72, s3_10, s3_o, hT.1, hT.2.1, hT.2.2.1, i_le, i_add, TX_rd hT h, (byt (t i) hq.2.2).2.2.1, (byt (t i) hq.2.2).2.2.2.1]
    rw [if_neg (by omega)]
    by_cases h1 : t i < 48 ∨ 128 ≤ t i
    · rw [if_pos h1]
      have : ¬ (48 ≤ t i ∧ t i ≤ 57) := by omega
      simp only [h, decide_true, Bool.true_and, ← Bool.decide_and, this, decide_false]
      rfl
    · rw [if_neg h1]
      by_cases h2 : 57 < t i
      · have : ¬ (48 ≤ t i ∧ t i ≤ 57) := by omega
        simp only [h, decide_true, Bool.true_and, ← Bool.decide_and, this, decide_false]
        rw [if_pos (by omega)]
        rfl
      · have : (48 ≤ t i ∧ t i ≤ 57) := by omega
        simp only [h, decide_true, Bool.true_and, ← Bool.decide_and, this, and_self]
        rw [if_neg (by omega)]
        rfl
  · simp (disch := omega) only [obs, cN_mk, ite_true, ite_false, if_true, if_false, q72, s3_10, s3_o, hT.2.2.1, i_le]
    rw [if_pos (by omega)]
    simp only [h, decide_false, Bool.false_and]
    rfl
theorem M_fails0 : f_X12_fails 72 (mkH n z D (s3 m x no1 d) j r) = some (Int32.ofNat 0, mkH n z D (s3 m x x d) j r) := by
  unfold f_X12_fails f_X12_fails_0
  simp (disch := omega) only [obs, cN_mk, ite_true, ite_false, if_true, if_false, q72, s3_11, s3_10, w11, l0, l1, no1_e, reduceIte]
theorem M_fails1 {e : Nat} (he : e ≤ 1000) : f_X12_fails 72 (mkH n z D (s3 m x (Int32.ofNat e) d) j r) = some (Int32.ofNat 0, mkH n z D (s3 m x (Int32.ofNat e) d) j r) := by
  unfold f_X12_fails f_X12_fails_0
  simp (disch := omega) only [obs, cN_mk, ite_true, ite_false, if_true, if_false, q72, s3_11, s3_10, w11, l0, l1, no1_e, no1_ne, reduceIte]
theorem rZ0 {h : AH} : rZ (Int32.ofNat 0) h = some (Int32.ofNat 0, h) := by
  unfold rZ
  exact if_pos (Or.inl rfl)
theorem rZ1 {h : AH} : rZ (Int32.ofNat 1) h = some (Int32.ofNat 1, h) := by
  unfold rZ
  exact if_pos (Or.inr rfl)
theorem rZb {c : Bool} {h : AH} : rZ (bI c) h = some (bI c, h) := by
  cases c
  · exact rZ0
  · exact rZ1
theorem M_takes0 {ch : Nat} (hT : TX m r t N a b) (hi : i ≤ N) (hc : ch < 256) (hc0 : ch ≠ 0) : f_X12_takes 72 (Int32.ofNat ch) (mkH n z D (s3 m (Int32.ofNat i) no1 d) j r) = if sg t N i = ch then some (Int32.ofNat 1, mkH n z D (s3 m (Int32.ofNat (sk t N i + 1)) no1 d) j r) else some (Int32.ofNat 0, mkH n z D (s3 m (Int32.ofNat (sk t N i)) (Int32.ofNat (sk t N i)) d) j r) := by
  have hs := sg_lt hT hi
  unfold f_X12_takes f_X12_takes_0
  simp (disch := omega) only [obs, cN_mk, ite_true, ite_false, if_true, if_false, q72, s3_11, l0, l1, no1_e, reduceIte, M_look hT hi, sgI_c, s3_10, w10, i_add, f_X12_takes_16, M_fails0, rZ0]
theorem M_takes1 {e : Nat} {ch : Int32} (he : e ≤ 1000) : f_X12_takes 72 ch (mkH n z D (s3 m x (Int32.ofNat e) d) j r) = some (Int32.ofNat 0, mkH n z D (s3 m x (Int32.ofNat e) d) j r) := by
  unfold f_X12_takes f_X12_takes_0
  simp (disch := omega) only [obs, cN_mk, ite_true, ite_false, if_true, if_false, q72, s3_11, l0, l1, no1_e, no1_ne, reduceIte, f_X12_takes_16, M_fails1, rZ0]
theorem M_goesIn {k : Nat} (hk : k ≤ 6) : f_X12_goesIn 72 (mkH n z D (s3 m (Int32.ofNat i) no1 (Int32.ofNat k)) j r) = if k = 6 then some (Int32.ofNat 0, mkH n z D (s3 m (Int32.ofNat i) (Int32.ofNat i) (Int32.ofNat k)) j r) else some (Int32.ofNat 1, mkH n z D (s3 m (Int32.ofNat (i + 1)) no1 (Int32.ofNat (k + 1))) j r) := by
  unfold f_X12_goesIn f_X12_goesIn_0
  simp (disch := omega) only [obs, cN_mk, ite_true, ite_false, if_true, if_false, q72, s3_12, l0, l1, l6, i_inj, M_fails0, rZ0, w12, s3_10, w10, i_add]
theorem oi_nat {k : Nat} : Int32.ofInt (k : Int) = Int32.ofNat k := by
  apply Int32.toBitVec_inj.mp
  rfl
theorem oi_int {v : Int} (h : -2147483648 ≤ v ∧ v < 2147483648) : (Int32.ofInt v).toInt = v := by
  rw [Int32.toInt_ofInt, show Int32.size = 4294967296 from rfl, Int.bmod_eq_of_le] <;> omega
theorem oj_int {v : Int} (h : -9223372036854775808 ≤ v ∧ v < 9223372036854775808) : (Int64.ofInt v).toInt = v := by
  rw [Int64.toInt_ofInt, show Int64.size = 18446744073709551616 from rfl, Int.bmod_eq_of_le] <;> omega
theorem oi_64 {v : Int} (h : -2147483648 ≤ v ∧ v < 2147483648) : (Int32.ofInt v).toInt64 = Int64.ofInt v := by
  apply Int64.toInt_inj.mp
  rw [Int32.toInt_toInt64, oi_int h, oj_int (by omega)]
theorem oj_32 {v : Int} (h : -2147483648 ≤ v ∧ v < 2147483648) : (Int64.ofInt v).toInt32 = Int32.ofInt v := by
  apply Int32.toInt_inj.mp
  rw [Int64.toInt_toInt32, oj_int (by omega), oi_int h, Int.bmod_eq_of_le] <;> omega
theorem lg_lt {y w : Int64} : (lg_cmp y w < 0 ↔ y.toInt < w.toInt) ∧ (0 < lg_cmp y w ↔ w.toInt < y.toInt) ∧ (lg_cmp y w = 0 ↔ y.toInt = w.toInt) := by
  unfold lg_cmp
  by_cases h1 : w < y
  · have := Int64.lt_iff_toInt_lt.mp h1
    rw [if_pos h1]
    refine ⟨⟨fun h => absurd h (by decide), fun h => by omega⟩, ⟨fun _ => this, fun _ => by decide⟩, ⟨fun h => absurd h (by decide), fun h => by omega⟩⟩
  · have h1' : ¬ w.toInt < y.toInt := fun h => h1 (Int64.lt_iff_toInt_lt.mpr h)
    rw [if_neg h1]
    by_cases h2 : y = w
    · subst h2
      rw [if_pos rfl]
      refine ⟨⟨fun h => absurd h (by decide), fun h => by omega⟩, ⟨fun h => absurd h (by decide), fun h => by omega⟩, ⟨fun _ => rfl, fun _ => rfl⟩⟩
    · have h2' : y.toInt ≠ w.toInt := fun h => h2 (Int64.toInt_inj.mp h)
      rw [if_neg h2]
      refine ⟨⟨fun _ => by omega, fun _ => by decide⟩, ⟨fun h => absurd h (by decide), fun h => absurd h h1'⟩, ⟨fun h => absurd h (by decide), fun h => absurd h h2'⟩⟩
end MPAR
