/-! The class's readers. -/
def rs (m : MI) (o : Nat) (x w : Int32) : MI := fun a => if a = o then (fun i => if i = 1 then x else if i = 2 then w else m o i) else m a
/-- the code that the reader of laws has written -/
def lb (m : MI) (c : List Nat) : MI := fun a => if a = 14 then (fun i => if i = 4 then Int32.ofNat c.length else m 14 i) else if a = 15 then (fun q => if q < c.length then Int32.ofNat (c.getD q 0) else m 15 q) else m a
section RS
variable {m : MI} {o : Nat} {x w y : Int32} {c : List Nat}
theorem rs_1 : rs m o x w o 1 = x := by simp [rs]
theorem rs_2 : rs m o x w o 2 = w := by simp [rs]
theorem rs_o {i : Nat} (h1 : i ≠ 1) (h2 : i ≠ 2) : rs m o x w o i = m o i := by simp [rs, h1, h2]
theorem rs_a {a : Nat} (h : a ≠ o) : rs m o x w a = m a := by simp [rs, h]
theorem v1 : wI (rs m o x w) o 1 y = rs m o y w := by
  funext a i
  by_cases h : a = o
  · subst h
    by_cases h' : i = 1
    · subst h'; rw [wI_se, rs_1]
    · rw [wI_sn h']; simp [rs, h']
  · rw [wI_ne h]; simp [rs, h]
theorem v2 : wI (rs m o x w) o 2 y = rs m o x y := by
  funext a i
  by_cases h : a = o
  · subst h
    by_cases h' : i = 2
    · subst h'; rw [wI_se, rs_2]
    · rw [wI_sn h']; simp [rs, h']
  · rw [wI_ne h]; simp [rs, h]
theorem lb_4 : lb m c 14 4 = Int32.ofNat c.length := by simp [lb]
theorem lb_o {i : Nat} (h : i ≠ 4) : lb m c 14 i = m 14 i := by simp [lb, h]
theorem lb_15 {q : Nat} : lb m c 15 q = if q < c.length then Int32.ofNat (c.getD q 0) else m 15 q := by simp [lb]
theorem lb_a {a : Nat} (h : a ≠ 14) (h' : a ≠ 15) : lb m c a = m a := by simp [lb, h, h']
theorem lb_app {op : Nat} : wI (wI (rs (lb m c) 14 x w) 15 c.length (Int32.ofNat op)) 14 4 (Int32.ofNat (c.length + 1)) = rs (lb m (c ++ [op])) 14 x w := by
  funext a i
  by_cases h14 : a = 14
  · subst h14
    by_cases h4 : i = 4
    · subst h4
      rw [wI_se, rs_o (by omega) (by omega), lb_4]
      simp
    · rw [wI_sn h4, wI_ne (by omega)]
      by_cases h1 : i = 1
      · subst h1; rw [rs_1, rs_1]
      by_cases h2 : i = 2
      · subst h2; rw [rs_2, rs_2]
      rw [rs_o h1 h2, rs_o h1 h2, lb_o h4, lb_o h4]
  · rw [wI_ne h14]
    by_cases h15 : a = 15
    · subst h15
      rw [rs_a (by omega), lb_15]
      by_cases hi : i = c.length
      · subst hi
        rw [wI_se, if_pos (by simp)]
        simp
      · rw [wI_sn hi, rs_a (by omega), lb_15]
        by_cases hl : i < c.length
        · rw [if_pos hl, if_pos (by simp; omega)]
          congr 1
          simp [List.getD, List.getElem?_append_left hl]
        · rw [if_neg hl, if_neg (by simp; omega)]
    · rw [wI_ne h15, rs_a h14, rs_a h14, lb_a h14 h15, lb_a h14 h15]
end RS
/-- the text that the class reads -/
def TC (m : MI) (t : Nat → Nat) (N : Nat) : Prop := m 1 1 = Int32.ofNat N ∧ N ≤ 240 ∧ (∀ q, q < N → m 2 q = Int32.ofNat (t q) ∧ 1 ≤ t q ∧ t q < 256)
section CRD
variable {n z : Nat} {D : Dyn} {m : MI} {j : MJ} {r : MR} {t : Nat → Nat} {N i o : Nat} {x w : Int32}
theorem rq (ho : o = 3 ∨ o = 14 ∨ o = 16) : isC [0, 2, 3] (mkH n z D m j r) o = some () ∧ gI [0, 2, 3] (mkH n z D m j r) o 1 = some (m o 1) ∧ gR [0, 2, 3] (mkH n z D m j r) o 0 = some 1 ∧ (∀ x, pV [0, 2, 3] (mkH n z D m j r) o 1 (.int x) = some (mkH n z D (wI m o 1 x) j r)) ∧ (∀ x, pV [0, 2, 3] (mkH n z D m j r) o 2 (.int x) = some (mkH n z D (wI m o 2 x) j r)) := by
  rcases ho with rfl | rfl | rfl
  · exact ⟨isC_mk rfl (by decide), gI_mk rfl (by decide) rfl, gR_mk rfl (by decide) rfl, fun x => pI_mk rfl (by decide) rfl, fun x => pI_mk rfl (by decide) rfl⟩
  · exact ⟨isC_mk rfl (by decide), gI_mk rfl (by decide) rfl, gR_mk rfl (by decide) rfl, fun x => pI_mk rfl (by decide) rfl, fun x => pI_mk rfl (by decide) rfl⟩
  · exact ⟨isC_mk rfl (by decide), gI_mk rfl (by decide) rfl, gR_mk rfl (by decide) rfl, fun x => pI_mk rfl (by decide) rfl, fun x => pI_mk rfl (by decide) rfl⟩
theorem TC_rs (ho : o = 3 ∨ o = 14 ∨ o = 16) (hT : TC m t N) : TC (rs m o x w) t N := by
  unfold TC
  rw [rs_a (by omega), rs_a (by omega)]
  exact hT
theorem TC_lb {c : List Nat} (hT : TC m t N) : TC (lb m c) t N := by
  unfold TC
  rw [lb_a (by omega) (by omega), lb_a (by omega) (by omega)]
  exact hT
theorem sg_ltC (hT : TC m t N) : sg t N i < 256 := by
  unfold sg
  split
  · rename_i h
    exact (hT.2.2 _ h).2.2
  · omega
theorem C_sign44 (ho : o = 3 ∨ o = 14 ∨ o = 16) (hT : TC m t N) (hi : i ≤ N) (hs : sk t N i = i) : f_X5_sign_44 o (mkH n z D (rs m o (Int32.ofNat i) w) j r) = some (sgI (sg t N i), mkH n z D (rs m o (Int32.ofNat i) w) j r) := by
  have hT' := TC_rs (x := Int32.ofNat i) (w := w) ho hT
  have hN := hT.2.1
  unfold f_X5_sign_44 sg sgI
  rw [hs]
  by_cases h : i < N
  · have hq := hT'.2.2 i h
    simp (disch := omega) only [obs, cN_mk, ite_true, ite_false, if_true, if_false, rq ho, q1, hT'.1, rs_1, i_le, p2, hq]
    rw [if_neg (by omega), if_pos h, if_neg (by omega)]
  · simp (disch := omega) only [obs, cN_mk, ite_true, ite_false, if_true, if_false, rq ho, q1, hT'.1, rs_1, i_le, l1, no1_e]
    rw [if_pos (by omega), if_neg h]
    rfl
theorem C_sign (ho : o = 3 ∨ o = 14 ∨ o = 16) (hT : TC m t N) (hi : i ≤ N) : f_X5_sign o (mkH n z D (rs m o (Int32.ofNat i) w) j r) = some (sgI (sg t N i), mkH n z D (rs m o (Int32.ofNat (sk t N i)) w) j r) := by
  have hN := hT.2.1
  have lp : ∀ (q i fuel : Nat), N - i = q → i ≤ N → q < fuel → f_X5_sign_0 fuel o (mkH n z D (rs m o (Int32.ofNat i) w) j r) = some (sgI (sg t N i), mkH n z D (rs m o (Int32.ofNat (sk t N i)) w) j r) := by
    intro q
    induction q with
    | zero =>
      intro i fuel hq hi hf
      obtain ⟨f, rfl⟩ : ∃ f, fuel = f + 1 := ⟨fuel - 1, by omega⟩
      have hT' := TC_rs (x := Int32.ofNat i) (w := w) ho hT
      have hs : sk t N i = i := sk_n (by omega)
      rw [f_X5_sign_0.eq_2]
      simp (disch := omega) only [obs, cN_mk, ite_true, ite_false, if_true, if_false, rq ho, q1, hT'.1, rs_1, i_le]
      rw [if_pos (by omega), C_sign44 ho hT hi hs, hs]
    | succ q ih =>
      intro i fuel hq hi hf
      obtain ⟨f, rfl⟩ : ∃ f, fuel = f + 1 := ⟨fuel - 1, by omega⟩
      have hT' := TC_rs (x := Int32.ofNat i) (w := w) ho hT
      have hq' := hT'.2.2 i (by omega)
      rw [f_X5_sign_0.eq_2]
      simp (disch := omega) only [obs, cN_mk, ite_true, ite_false, if_true, if_false, rq ho, q1, hT'.1, rs_1, i_le, p2, hq', l32, i_inj]
      rw [if_neg (by omega)]
      by_cases h32 : t i = 32
      · rw [if_pos h32]
        simp (disch := omega) only [obs, cN_mk, ite_true, ite_false, if_true, if_false, rq ho, rs_1, v1, l1, i_add]
        have es : sg t N i = sg t N (i + 1) := by
          unfold sg
          rw [sk_y (by omega) h32]
        rw [ih (i + 1) f (by omega) (by omega) (by omega), ← sk_y (by omega) h32, es]
      · have hs : sk t N i = i := sk_n (by simp [h32])
        rw [if_neg h32, C_sign44 ho hT hi hs, hs]
  exact lp (N - i) i fu rfl hi (by unfold fu; omega)
theorem C_fails (ho : o = 3 ∨ o = 14 ∨ o = 16) {y : Int32} : f_X5_fails o y (mkH n z D (rs m o x w) j r) = some (Int32.ofNat 0, mkH n z D (rs m o x y) j r) := by
  unfold f_X5_fails f_X5_fails_0
  simp (disch := omega) only [obs, cN_mk, ite_true, ite_false, if_true, if_false, rq ho, v2, l0]
theorem C_takes {ch : Nat} (ho : o = 3 ∨ o = 14 ∨ o = 16) (hT : TC m t N) (hi : i ≤ N) (hc : ch < 256) (hc0 : ch ≠ 0) : f_X5_takes o (Int32.ofNat ch) (mkH n z D (rs m o (Int32.ofNat i) w) j r) = if sg t N i = ch then some (Int32.ofNat 1, mkH n z D (rs m o (Int32.ofNat (sk t N i + 1)) w) j r) else some (Int32.ofNat 0, mkH n z D (rs m o (Int32.ofNat (sk t N i)) (Int32.ofNat (sk t N i))) j r) := by
  have hs := sg_ltC (i := i) hT
  unfold f_X5_takes f_X5_takes_0
  simp (disch := omega) only [obs, cN_mk, ite_true, ite_false, if_true, if_false, rq ho, C_sign ho hT hi, sgI_c, rs_1, v1, l1, i_add, C_fails ho, rZ0]
theorem C_digit (ho : o = 3 ∨ o = 14 ∨ o = 16) (hT : TC m t N) (hi : i ≤ N) : f_X5_digitHere o (mkH n z D (rs m o (Int32.ofNat i) w) j r) = some (bI (dig t N i), mkH n z D (rs m o (Int32.ofNat i) w) j r) := by
  have hT' := TC_rs (x := Int32.ofNat i) (w := w) ho hT
  have hN := hT.2.1
  unfold f_X5_digitHere f_X5_digitHere_0 dig
  by_cases h : i < N
  · have hq := hT'.2.2 i h
    simp (disch := omega) only [obs, cN_mk, ite_true, ite_false, if_true, if_false, rq ho, q1, hT'.1, rs_1, i_le, p2, hq, l48, l57, i_lt]
    rw [if_neg (by omega)]
    by_cases h1 : t i < 48
    · rw [if_pos h1]
      have : ¬ (48 ≤ t i ∧ t i ≤ 57) := by omega
      simp only [h, decide_true, Bool.true_and, ← Bool.decide_and, this, decide_false]
      rfl
    · rw [if_neg h1]
      by_cases h2 : 57 < t i
      · have : ¬ (48 ≤ t i ∧ t i ≤ 57) := by omega
        simp only [h, decide_true, Bool.true_and, ← Bool.decide_and, this, decide_false]
        rw [if_pos h2]
        rfl
      · have : (48 ≤ t i ∧ t i ≤ 57) := by omega
        simp only [h, decide_true, Bool.true_and, ← Bool.decide_and, this, and_self]
        rw [if_neg h2]
        rfl
  · simp (disch := omega) only [obs, cN_mk, ite_true, ite_false, if_true, if_false, rq ho, q1, hT'.1, rs_1, i_le]
    rw [if_pos (by omega)]
    simp only [h, decide_false, Bool.false_and]
    rfl
theorem nm_d (t : Nat → Nat) (N : Nat) : ∀ q i v, (nm t N q i v).2 = i ∨ i < (nm t N q i v).2
  | 0, i, v => Or.inl rfl
  | q + 1, i, v => by
    rw [nm]
    split
    · rcases nm_d t N q (i + 1) (10 * v + t i - 48) with h | h <;> omega
    · exact Or.inl rfl
/-- digits, at most Q of them -/
theorem C_num9 (ho : o = 3 ∨ o = 14 ∨ o = 16) (hT : TC m t N) {Q : Nat} (hQ : Q ≤ 4) : ∀ (q i v fuel : Nat), i ≤ N → q < fuel → q ≤ Q → v * 10 ^ q ≤ 9999 → f_X5_number_9 fuel o (Int32.ofNat Q) (Int32.ofNat v) (Int32.ofNat (Q - q)) (mkH n z D (rs m o (Int32.ofNat i) w) j r) = f_X5_number_58 o (Int32.ofNat (nm t N q i v).1) (Int32.ofNat (Q - q + ((nm t N q i v).2 - i))) (mkH n z D (rs m o (Int32.ofNat (nm t N q i v).2) w) j r) := by
  intro q
  induction q with
  | zero =>
    intro i v fuel hi hf hq hv
    obtain ⟨f, rfl⟩ : ∃ f, fuel = f + 1 := ⟨fuel - 1, by omega⟩
    rw [f_X5_number_9.eq_2, nm]
    have hle : Int32.ofNat Q ≤ Int32.ofNat (Q - 0) := (i_le (by omega) (by omega)).mpr (by omega)
    rw [if_pos hle]
    simp
  | succ q ih =>
    intro i v fuel hi hf hq hv
    obtain ⟨f, rfl⟩ : ∃ f, fuel = f + 1 := ⟨fuel - 1, by omega⟩
    have hle : ¬ Int32.ofNat Q ≤ Int32.ofNat (Q - (q + 1)) := fun h => by have := (i_le (by omega) (by omega)).mp h; omega
    rw [f_X5_number_9.eq_2, nm, if_neg hle]
    simp only [obs, cN_mk, ite_true, ite_false, if_true, if_false, rq ho, C_digit ho hT hi]
    by_cases hd : dig t N i = true
    · have hd' : i < N ∧ 48 ≤ t i ∧ t i ≤ 57 := by
        unfold dig at hd
        simpa [Bool.and_eq_true] using hd
      have hT' := TC_rs (x := Int32.ofNat i) (w := w) ho hT
      have hq' := hT'.2.2 i hd'.1
      have hp : 1 ≤ 10 ^ q := Nat.pow_pos (by omega)
      have hv' : v * 10 * 10 ^ q ≤ 9999 := by rw [Nat.mul_assoc, Nat.mul_comm 10, ← Nat.pow_succ]; exact hv
      have hv2 : v * 10 ≤ 9999 := Nat.le_trans (Nat.le_mul_of_pos_right _ hp) hv'
      have hN := hT.2.1
      rw [if_pos hd, if_neg (by simp [hd, bI])]
      simp (disch := omega) only [obs, cN_mk, ite_true, ite_false, if_true, if_false, rq ho, q1, rs_1, p2, hq', v1, l1, l10, l48, i_add, i_mul, i_sub]
      have hb := ih (i + 1) (10 * v + t i - 48) f (by omega) (by omega) (by omega) (dg_b (by omega) (by omega) hv)
      have e1 : v * 10 + t i - 48 = 10 * v + t i - 48 := by omega
      have e2 : Q - (q + 1) + 1 = Q - q := by omega
      rw [e1, e2, hb]
      have hnd := nm_d t N q (i + 1) (10 * v + t i - 48)
      congr 2
      omega
    · rw [if_neg hd, if_pos (by simp [hd, bI])]
      simp
theorem C_number {Q : Nat} (ho : o = 3 ∨ o = 14 ∨ o = 16) (hT : TC m t N) (hQ : Q ≤ 4) (hi : i ≤ N) : f_X5_number o (Int32.ofNat Q) (mkH n z D (rs m o (Int32.ofNat i) w) j r) = match pNum t N Q (sk t N i) with
    | .inl e => some (no1, mkH n z D (rs m o (Int32.ofNat e) (Int32.ofNat e)) j r)
    | .inr q => some (Int32.ofNat (nm t N Q (sk t N i) 0).1, mkH n z D (rs m o (Int32.ofNat q.2) w) j r) := by
  have hk := sk_le (t := t) hi
  have hN := hT.2.1
  have hle := nm_le (t := t) Q (sk t N i) 0 hk.2
  unfold f_X5_number f_X5_number_0
  have h9 := C_num9 (n := n) (z := z) (D := D) (j := j) (r := r) (w := w) ho hT hQ Q (sk t N i) 0 fu hk.2 (by unfold fu; omega) (Nat.le_refl _) (by rw [Nat.zero_mul]; exact Nat.zero_le _)
  rw [Nat.sub_self, Nat.zero_add] at h9
  simp only [obs, cN_mk, ite_true, ite_false, if_true, if_false, rq ho, C_sign ho hT hi, l0, h9]
  unfold f_X5_number_58 f_X5_number_69 pNum
  by_cases h0 : (nm t N Q (sk t N i) 0).2 = sk t N i
  · rw [if_pos (Or.inl h0), h0, Nat.sub_self, l0, if_pos rfl]
    simp only [obs, cN_mk, ite_true, ite_false, if_true, if_false, rq ho, rs_1, C_fails ho, l1, no1_e]
  · rw [if_neg (show ¬ Int32.ofNat ((nm t N Q (sk t N i) 0).2 - sk t N i) = 0 by rw [l0, i_inj (by omega) (by omega)]; omega)]
    simp only [obs, cN_mk, ite_true, ite_false, if_true, if_false, rq ho, C_digit ho hT hle.2.1]
    by_cases hd : dig t N (nm t N Q (sk t N i) 0).2 = true
    · rw [if_pos (Or.inr hd), if_neg (by simp [hd, bI])]
      simp only [obs, cN_mk, ite_true, ite_false, if_true, if_false, rq ho, rs_1, C_fails ho, l1, no1_e]
    · rw [if_pos (by simp [hd, bI]), if_neg (by simp [h0, hd])]
end CRD
