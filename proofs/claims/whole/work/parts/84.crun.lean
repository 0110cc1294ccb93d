/-! The class runs a law. -/
/-- the stack -/
def SKx (m : MI) (s : List Int) : Prop := m 49 3 = Int32.ofNat s.length ∧ s.length ≤ 32 ∧ (∀ q, q < s.length → m 51 q = Int32.ofInt (s.getD (s.length - 1 - q) 0)) ∧ (∀ v ∈ s, -1000000 ≤ v ∧ v ≤ 1000000)
/-- a program in an array -/
def PG (D : Dyn) (m : MI) (o : Nat) (code : List Nat) : Prop := SHP D o = some (aT code.length) ∧ code.length ≤ 240 ∧ 95 ≤ o ∧ (∀ q, q < code.length → m o q = Int32.ofNat (code.getD q 0))
def LSx (m : MI) (L : Nat → Int) : Prop := ∀ k, k < 6 → m 50 k = Int32.ofInt (L k) ∧ -1000000 ≤ L k ∧ L k ≤ 1000000
section CRUN
variable {n z : Nat} {D : Dyn} {m : MI} {j : MJ} {r : MR} {L : Nat → Int} {o : Nat} {code : List Nat}
theorem C_push {s : List Int} {v : Int} (hs : SKx m s) (hl : s.length < 32) (hv : -1000000 ≤ v ∧ v ≤ 1000000) : ∃ m', f_X4_push 49 (Int32.ofInt v) (mkH n z D m j r) = some ((), mkH n z D m' j r) ∧ SKx m' (v :: s) ∧ (∀ a, a ≠ 49 → a ≠ 51 → m' a = m a) := by
  have el : aLen (mkH n z D m j r) 51 = some (Int32.ofNat 32) := aLen_mk rfl (by decide)
  refine ⟨wI (wI m 51 s.length (Int32.ofInt v)) 49 3 (Int32.ofNat (s.length + 1)), ?_, ⟨?_, ?_, fun q hq => ?_, ?_⟩, fun a h1 h2 => by rw [wI_ne h1, wI_ne h2]⟩
  · unfold f_X4_push f_X4_push_0
    simp (disch := omega) only [obs, cN_mk, ite_true, ite_false, if_true, if_false, q49, el, hs.1, i_le, p51, wI_ne, l1, i_add]
    rw [if_neg (by omega)]
  · rw [wI_se]; rfl
  · simp only [List.length_cons]; omega
  · rw [wI_ne (by omega)]
    simp only [List.length_cons] at hq ⊢
    by_cases h : q = s.length
    · subst h
      rw [wI_se]
      simp
    · rw [wI_sn h, hs.2.2.1 q (by omega)]
      have : s.length + 1 - 1 - q = (s.length - 1 - q) + 1 := by omega
      rw [this]
      rfl
  · intro x hx
    rcases List.mem_cons.mp hx with h | h
    · subst h; exact hv
    · exact hs.2.2.2 x h
theorem C_pop {s : List Int} {v : Int} (hs : SKx m (v :: s)) : f_X4_pop 49 (mkH n z D m j r) = some (Int32.ofInt v, mkH n z D (wI m 49 3 (Int32.ofNat s.length)) j r) ∧ SKx (wI m 49 3 (Int32.ofNat s.length)) s := by
  obtain ⟨h1, h2, h3, h4⟩ := hs
  simp only [List.length_cons] at h1 h2 h3
  have ev : m 51 s.length = Int32.ofInt v := by
    rw [h3 s.length (by omega)]
    congr 1
    simp
  refine ⟨?_, ?_, by omega, fun q hq => ?_, fun x hx => h4 x (List.mem_cons_of_mem _ hx)⟩
  · unfold f_X4_pop f_X4_pop_0
    simp (disch := omega) only [obs, cN_mk, ite_true, ite_false, if_true, if_false, q49, h1, l0, i_inj, l1, i_sub, Nat.add_sub_cancel, wI_se, p51, wI_ne, ev]
    rw [if_neg (by omega)]
  · rw [wI_se]
  · rw [wI_ne (by omega), h3 q (by omega)]
    congr 1
    have : s.length + 1 - 1 - q = (s.length - 1 - q) + 1 := by omega
    rw [this]
    rfl
theorem J144 {v : Int} (hv : -4611686018427387904 ≤ v ∧ v ≤ 4611686018427387904) {h : AH} : f_X4_joined_144 (Int64.ofInt v) h = some (Int32.ofInt (cli v), h) := by
  have e1 : (1000000 : Int64) = Int64.ofInt 1000000 := rfl
  have e2 : (-1000000 : Int64) = Int64.ofInt (-1000000) := rfl
  have nl : ∀ y w : Int64, (0 ≤ lg_cmp y w ↔ ¬ y.toInt < w.toInt) ∧ (lg_cmp y w ≤ 0 ↔ ¬ w.toInt < y.toInt) := fun y w => ⟨by rw [← lg_lt.1, Int32.not_lt], by rw [← lg_lt.2.1, Int32.not_lt]⟩
  unfold f_X4_joined_144 f_X4_joined_173
  rw [e2, e1]
  simp only [nl, oj_int (show -9223372036854775808 ≤ v ∧ v < 9223372036854775808 by omega), oj_int (show -9223372036854775808 ≤ (-1000000 : Int) ∧ (-1000000 : Int) < 9223372036854775808 by omega), oj_int (show -9223372036854775808 ≤ (1000000 : Int) ∧ (1000000 : Int) < 9223372036854775808 by omega)]
  by_cases h1 : v < -1000000
  · rw [if_neg (by omega), oj_32 (by omega), show cli v = -1000000 by unfold cli; omega]
  · rw [if_pos h1]
    by_cases h2 : 1000000 < v
    · rw [if_neg (by omega), oj_32 (by omega), show cli v = 1000000 by unfold cli; omega]
    · rw [if_pos h2, oj_32 (by omega), show cli v = v by unfold cli; omega]
theorem oi_add {a b : Int} (ha : -1000000 ≤ a ∧ a ≤ 1000000) (hb : -1000000 ≤ b ∧ b ≤ 1000000) : Int32.ofInt a + Int32.ofInt b = Int32.ofInt (a + b) := by
  apply Int32.toInt_inj.mp
  rw [Int32.toInt_add, oi_int (by omega), oi_int (by omega), oi_int (by omega), Int.bmod_eq_of_le] <;> omega
theorem oi_sub {a b : Int} (ha : -1000000 ≤ a ∧ a ≤ 1000000) (hb : -1000000 ≤ b ∧ b ≤ 1000000) : Int32.ofInt a - Int32.ofInt b = Int32.ofInt (a - b) := by
  apply Int32.toInt_inj.mp
  rw [Int32.toInt_sub, oi_int (by omega), oi_int (by omega), oi_int (by omega), Int.bmod_eq_of_le] <;> omega
theorem oi_div {a b : Int} (ha : -1000000 ≤ a ∧ a ≤ 1000000) (hb : -1000000 ≤ b ∧ b ≤ 1000000) : Int32.ofInt a / Int32.ofInt b = Int32.ofInt (a.tdiv b) := by
  have hm := tdiv_b (b := b) ha
  apply Int32.toInt_inj.mp
  rw [Int32.toInt_div, oi_int (by omega), oi_int (by omega), oi_int (by omega)]
  generalize a.tdiv b = c at *
  rw [Int.bmod_eq_of_le] <;> omega
theorem C_joined {op : Nat} {a b : Int} (ha : -1000000 ≤ a ∧ a ≤ 1000000) (hb : -1000000 ≤ b ∧ b ≤ 1000000) (ho : 10006 ≤ op ∧ op ≤ 10014) (h01 : 10013 ≤ op → (a = 0 ∨ a = 1) ∧ (b = 0 ∨ b = 1)) {h : AH} : f_X4_joined (Int32.ofNat op) (Int32.ofInt a) (Int32.ofInt b) h = some (Int32.ofInt (jn op a b), h) := by
  have i0 : (0 : Int64) = Int64.ofInt 0 := rfl
  have i1 : (1 : Int64) = Int64.ofInt 1 := rfl
  have c0 : cli 0 = 0 := rfl
  have c1 : cli 1 = 1 := rfl
  have hop : op = 10006 ∨ op = 10007 ∨ op = 10008 ∨ op = 10009 ∨ op = 10010 ∨ op = 10011 ∨ op = 10012 ∨ op = 10013 ∨ op = 10014 := by omega
  unfold f_X4_joined f_X4_joined_0 f_X4_joined_85 f_X4_joined_99 f_X4_joined_113 f_X4_joined_127
  have hmb := mul_b ha hb
  have hdb := tdiv_b (b := b) ha
  rcases hop with rfl | rfl | rfl | rfl | rfl | rfl | rfl | rfl | rfl
  · rw [if_pos l10006.symm, oi_add ha hb, oi_64 (by omega), J144 (by omega)]; rfl
  · rw [if_neg (by decide), if_pos l10007.symm, oi_sub ha hb, oi_64 (by omega), J144 (by omega)]; rfl
  · rw [if_neg (by decide), if_neg (by decide), if_pos l10008.symm, oj_mul ha hb, J144 (by omega)]; rfl
  · rw [if_neg (by decide), if_neg (by decide), if_neg (by decide), if_pos l10009.symm]
    by_cases hb0 : b = 0
    · subst hb0
      rw [if_pos (show Int32.ofInt 0 = 0 from rfl), i0, J144 (by omega)]
      simp [jn]
    · have hb0' : ¬ Int32.ofInt b = 0 := fun h => hb0 ((oi_z hb).mp h)
      rw [if_neg hb0', if_neg hb0', oi_div ha hb, oi_64 (by omega), J144 (by omega)]
      simp [jn, hb0]
  · rw [if_neg (by decide), if_neg (by decide), if_neg (by decide), if_neg (by decide), if_pos l10010.symm]
    simp only [oi_inj ha hb, i0, i1, J144 (show -4611686018427387904 ≤ (0 : Int) ∧ (0 : Int) ≤ 4611686018427387904 by omega), J144 (show -4611686018427387904 ≤ (1 : Int) ∧ (1 : Int) ≤ 4611686018427387904 by omega), c0, c1]
    by_cases h : a = b
    · simp [h, jn]
    · simp [h, jn]
  · rw [if_neg (by decide), if_neg (by decide), if_neg (by decide), if_neg (by decide), if_neg (by decide), if_pos l10011.symm]
    simp only [oi_le hb ha, i0, i1, J144 (show -4611686018427387904 ≤ (0 : Int) ∧ (0 : Int) ≤ 4611686018427387904 by omega), J144 (show -4611686018427387904 ≤ (1 : Int) ∧ (1 : Int) ≤ 4611686018427387904 by omega), c0, c1]
    by_cases h : b ≤ a
    · simp [h, jn, show ¬ a < b by omega]
    · simp [h, jn, show a < b by omega]
  · rw [if_neg (by decide), if_neg (by decide), if_neg (by decide), if_neg (by decide), if_neg (by decide), if_neg (by decide), if_pos l10012.symm]
    simp only [oi_le ha hb, i0, i1, J144 (show -4611686018427387904 ≤ (0 : Int) ∧ (0 : Int) ≤ 4611686018427387904 by omega), J144 (show -4611686018427387904 ≤ (1 : Int) ∧ (1 : Int) ≤ 4611686018427387904 by omega), c0, c1]
    by_cases h : a ≤ b
    · simp [h, jn, show ¬ b < a by omega]
    · simp [h, jn, show b < a by omega]
  · obtain ⟨ha01, hb01⟩ := h01 (by omega)
    rw [if_neg (by decide), if_neg (by decide), if_neg (by decide), if_neg (by decide), if_neg (by decide), if_neg (by decide), if_neg (by decide), if_pos l10013.symm]
    have key : (Int32.ofInt a &&& Int32.ofInt b).toInt64 = Int64.ofInt (jn 10013 a b) := by
      rcases ha01 with rfl | rfl <;> rcases hb01 with rfl | rfl <;> decide
    rw [key, J144 (by have := jn_b (op := 10013) (a := a) (b := b); omega), show cli (jn 10013 a b) = jn 10013 a b by have := jn_b (op := 10013) (a := a) (b := b); unfold cli; omega]
  · obtain ⟨ha01, hb01⟩ := h01 (by omega)
    rw [if_neg (by decide), if_neg (by decide), if_neg (by decide), if_neg (by decide), if_neg (by decide), if_neg (by decide), if_neg (by decide), if_neg (by decide)]
    have key : (Int32.ofInt a ||| Int32.ofInt b).toInt64 = Int64.ofInt (jn 10014 a b) := by
      rcases ha01 with rfl | rfl <;> rcases hb01 with rfl | rfl <;> decide
    rw [key, J144 (by have := jn_b (op := 10014) (a := a) (b := b); omega), show cli (jn 10014 a b) = jn 10014 a b by have := jn_b (op := 10014) (a := a) (b := b); unfold cli; omega]
end CRUN
