/-! One step, on both sides. -/
def cB (C P : Nat) (σ : Sg) (k a b : Nat) : Bool := if k = 0 then decide (0 < P ∧ σ 7 0 < 999) else if k = 1 then decide (a < C ∧ b ≤ 3 ∧ σ 0 a ≠ b ∧ (b = 0 ∨ 2 ≤ σ 6 0)) else if k = 2 then decide (a < C ∧ σ 1 a < 9 ∧ 1 ≤ σ 6 0) else decide (a < P)
def sF (pl : Pl) (C P : Nat) (τ σ : Sg) (k a b : Nat) : Sg := if k = 0 then nxt (ax pl C τ σ) P σ else if k = 1 then (if b = 0 then uS σ 0 a 0 else uS (uS σ 0 a b) 6 0 (σ 6 0 - 2)) else if k = 2 then uS (uS σ 1 a (σ 1 a + 1)) 6 0 (σ 6 0 - 1) else uS σ 4 a (1 - σ 4 a)
theorem cB0 {C P : Nat} {σ : Sg} {a b : Nat} : cB C P σ 0 a b = decide (0 < P ∧ σ 7 0 < 999) := rfl
theorem cB1 {C P : Nat} {σ : Sg} {a b : Nat} : cB C P σ 1 a b = decide (a < C ∧ b ≤ 3 ∧ σ 0 a ≠ b ∧ (b = 0 ∨ 2 ≤ σ 6 0)) := rfl
theorem cB2 {C P : Nat} {σ : Sg} {a b : Nat} : cB C P σ 2 a b = decide (a < C ∧ σ 1 a < 9 ∧ 1 ≤ σ 6 0) := rfl
theorem cB3 {C P : Nat} {σ : Sg} {a b : Nat} : cB C P σ 3 a b = decide (a < P) := rfl
theorem sF0 {pl : Pl} {C P : Nat} {τ σ : Sg} {a b : Nat} : sF pl C P τ σ 0 a b = nxt (ax pl C τ σ) P σ := rfl
theorem sF1 {pl : Pl} {C P : Nat} {τ σ : Sg} {a b : Nat} : sF pl C P τ σ 1 a b = (if b = 0 then uS σ 0 a 0 else uS (uS σ 0 a b) 6 0 (σ 6 0 - 2)) := rfl
theorem sF2 {pl : Pl} {C P : Nat} {τ σ : Sg} {a b : Nat} : sF pl C P τ σ 2 a b = uS (uS σ 1 a (σ 1 a + 1)) 6 0 (σ 6 0 - 1) := rfl
theorem sF3 {pl : Pl} {C P : Nat} {τ σ : Sg} {a b : Nat} : sF pl C P τ σ 3 a b = uS σ 4 a (1 - σ 4 a) := rfl
theorem uS_id {σ : Sg} {k i : Nat} : uS σ k i (σ k i) = σ := by
  funext a b
  unfold uS
  split
  · rename_i h; rw [h.1, h.2]
  · rfl
section STEP
variable {n z : Nat} {D : Dyn} {m m1 m' : MI} {j j1 j' : MJ} {r r1 r' : MR} {pl : Pl} {LC : MI → MR → Prop} {LM : MI → MJ → Prop} {C P : Nat} {τ σ σ0 : Sg} {w p c s N cnt k a b : Nat} {x y : Int32}
theorem WS_sF {d : Nat} (hW : WY C P τ) (hS : WS C P d σ) (hk : k ≤ 3) (h : cB C P σ k a b = true) : WS C P (if k = 0 then d + 1 else d) (sF pl C P τ σ k a b) := by
  unfold cB at h
  unfold sF
  rcases (show k = 0 ∨ k = 1 ∨ k = 2 ∨ k = 3 by omega) with rfl | rfl | rfl | rfl
  · exact WS_nxt hW hS
  · have h := of_decide_eq_true h
    show WS C P d (if b = 0 then uS σ 0 a 0 else uS (uS σ 0 a b) 6 0 (σ 6 0 - 2))
    split
    · exact WS_crumb hS (by omega)
    · exact WS_coins (WS_crumb hS h.2.1) (by have := hS.2.2.2.1; omega)
  · have h := of_decide_eq_true h
    exact WS_coins (WS_spring hS (by omega)) (by have := hS.2.2.2.1; omega)
  · exact WS_way hS (by omega)
theorem C_canBe (hW : WY C P τ) (hS : WS C P 1999 σ) (hY : YC m C P τ) (hs : s = 27 ∨ s = 33) (hM : CS m s σ C P) (hk : k ≤ 3) (ha : a < 1000000) (hb : b < 1000000) : f_X11_canBe 0 s (Int32.ofNat k) (Int32.ofNat a) (Int32.ofNat b) (mkH n z D m j r) = some (bI (cB C P σ k a b), (mkH n z D m j r)) := by
  have hP := hW.2.1
  have hC := hW.1
  have st := stg (n := n) (z := z) (m := m) (j := j) (r := r) (stOf (D := D) hs)
  have sa := sta (n := n) (z := z) (m := m) (j := j) (r := r) (stOf (D := D) hs)
  have s6 := hS.2.2.2.1
  have s7 := hS.2.2.2.2
  unfold f_X11_canBe f_X11_canBe_0
  rcases (show k = 0 ∨ k = 1 ∨ k = 2 ∨ k = 3 by omega) with rfl | rfl | rfl | rfl
  · rw [cB0]
    by_cases h1 : 0 < P
    · by_cases h2 : σ 7 0 < 999
      · simp (disch := omega) only [obs, cN_mk, ite_true, ite_false, if_true, if_false, l0, l1, no1_e, bI_t, bI_f, ieq_f, ile_t, ile_f, ilt_t, ilt_f, l999, q0, C_hasCity hY hP, h1, h2, decide_true, st, hM.2.2.2.2, and_self]
      · simp (disch := omega) only [obs, cN_mk, ite_true, ite_false, if_true, if_false, l0, l1, no1_e, bI_t, bI_f, ieq_f, ile_t, ile_f, ilt_t, ilt_f, l999, q0, C_hasCity hY hP, h1, h2, decide_true, decide_false, st, hM.2.2.2.2, and_false]
    · simp (disch := omega) only [obs, cN_mk, ite_true, ite_false, if_true, if_false, l0, l1, no1_e, bI_t, bI_f, ieq_f, ile_t, ile_f, ilt_t, ilt_f, q0, C_hasCity hY hP, h1, decide_false, false_and]
  · rw [cB1]
    by_cases h1 : a < C
    · have s1 := hS.1 a h1
      have i1 : im (Int32.ofNat a) 0 C = true := im_k (by omega)
      by_cases h2 : b ≤ 3
      · have i2 : im (Int32.ofNat b) 0 4 = true := im_k (by omega)
        by_cases h3 : σ 0 a = b
        · rw [decide_eq_false (by omega)]
          simp (disch := omega) only [obs, cN_mk, ite_true, ite_false, if_true, if_false, l0, l1, no1_e, bI_t, bI_f, ieq_f, ile_t, ile_f, ilt_t, ilt_f, q0, C_hasCorner hY, C_isCrumb, i1, i2, st, sa, hM.1, ieq_t]
        · by_cases h4 : b = 0
          · subst h4
            rw [decide_eq_true (by omega)]
            simp (disch := omega) only [obs, cN_mk, ite_true, ite_false, if_true, if_false, l0, l1, no1_e, bI_t, bI_f, ieq_f, ile_t, ile_f, ilt_t, ilt_f, q0, C_hasCorner hY, C_isCrumb, i1, i2, st, sa, hM.1, hM.2.2.2.1, f_X11_priceOf, f_X11_priceOf_0]
          · by_cases h5 : 2 ≤ σ 6 0
            · rw [decide_eq_true (by omega)]
              simp (disch := omega) only [obs, cN_mk, ite_true, ite_false, if_true, if_false, l0, l1, no1_e, bI_t, bI_f, ieq_f, ile_t, ile_f, ilt_t, ilt_f, l2, q0, C_hasCorner hY, C_isCrumb, i1, i2, st, sa, hM.1, hM.2.2.2.1, f_X11_priceOf, f_X11_priceOf_0]
            · rw [decide_eq_false (by omega)]
              simp (disch := omega) only [obs, cN_mk, ite_true, ite_false, if_true, if_false, l0, l1, no1_e, bI_t, bI_f, ieq_f, ile_t, ile_f, ilt_t, ilt_f, l2, q0, C_hasCorner hY, C_isCrumb, i1, i2, st, sa, hM.1, hM.2.2.2.1, f_X11_priceOf, f_X11_priceOf_0]
      · have i2 : im (Int32.ofNat b) 0 4 = false := im_n (by omega)
        rw [decide_eq_false (by omega)]
        simp (disch := omega) only [obs, cN_mk, ite_true, ite_false, if_true, if_false, l0, l1, no1_e, bI_t, bI_f, ieq_f, ile_t, ile_f, ilt_t, ilt_f, q0, C_hasCorner hY, C_isCrumb, i1, i2]
    · have i1 : im (Int32.ofNat a) 0 C = false := im_n (by omega)
      rw [decide_eq_false (by omega)]
      simp (disch := omega) only [obs, cN_mk, ite_true, ite_false, if_true, if_false, l0, l1, no1_e, bI_t, bI_f, ieq_f, ile_t, ile_f, ilt_t, ilt_f, q0, C_hasCorner hY, i1]
  · rw [cB2]
    by_cases h1 : a < C
    · have s1 := hS.1 a h1
      have i1 : im (Int32.ofNat a) 0 C = true := im_k (by omega)
      by_cases h2 : σ 1 a < 9
      · by_cases h3 : 1 ≤ σ 6 0
        · rw [decide_eq_true ⟨h1, h2, h3⟩]
          simp (disch := omega) only [obs, cN_mk, ite_true, ite_false, if_true, if_false, l0, l1, no1_e, bI_t, bI_f, ieq_f, ile_t, ile_f, ilt_t, ilt_f, l2, l9, q0, C_hasCorner hY, i1, st, sa, hM.1, hM.2.2.2.1]
        · rw [decide_eq_false (by omega)]
          simp (disch := omega) only [obs, cN_mk, ite_true, ite_false, if_true, if_false, l0, l1, no1_e, bI_t, bI_f, ieq_f, ile_t, ile_f, ilt_t, ilt_f, l2, l9, q0, C_hasCorner hY, i1, st, sa, hM.1, hM.2.2.2.1]
      · rw [decide_eq_false (by omega)]
        simp (disch := omega) only [obs, cN_mk, ite_true, ite_false, if_true, if_false, l0, l1, no1_e, bI_t, bI_f, ieq_f, ile_t, ile_f, ilt_t, ilt_f, l2, l9, q0, C_hasCorner hY, i1, st, sa, hM.1, hM.2.2.2.1]
    · have i1 : im (Int32.ofNat a) 0 C = false := im_n (by omega)
      rw [decide_eq_false (by omega)]
      simp (disch := omega) only [obs, cN_mk, ite_true, ite_false, if_true, if_false, l0, l1, no1_e, bI_t, bI_f, ieq_f, ile_t, ile_f, ilt_t, ilt_f, l2, q0, C_hasCorner hY, i1]
  · rw [cB3]
    by_cases h1 : a < P
    · have i1 : im (Int32.ofNat a) 0 P = true := im_k (by omega)
      rw [decide_eq_true h1]
      simp (disch := omega) only [obs, cN_mk, ite_true, ite_false, if_true, if_false, l0, l1, no1_e, bI_t, bI_f, ieq_f, ile_t, ile_f, ilt_t, ilt_f, l2, l3, q0, C_hasPerson hY, i1, rZ, or_true]
    · have i1 : im (Int32.ofNat a) 0 P = false := im_n (by omega)
      rw [decide_eq_false h1]
      simp (disch := omega) only [obs, cN_mk, ite_true, ite_false, if_true, if_false, l0, l1, no1_e, bI_t, bI_f, ieq_f, ile_t, ile_f, ilt_t, ilt_f, l2, l3, q0, C_hasPerson hY, i1, rZ, true_or]
theorem C_do (hW : WY C P τ) (hS : WS C P 1999 σ) (hs : s = 27 ∨ s = 33) (hM : CS m s σ C P) (hk : k ≤ 3) (hk0 : k ≠ 0) (h : cB C P σ k a b = true) : ∃ m', f_X11_doStep 0 s (Int32.ofNat k) (Int32.ofNat a) (Int32.ofNat b) (mkH n z D m j r) = some ((), mkH n z D m' j r) ∧ CS m' s (sF pl C P τ σ k a b) C P ∧ (∀ a, ¬ (s ≤ a ∧ a ≤ s + 5) → m' a = m a) := by
  have hP := hW.2.1
  have hC := hW.1
  have st := fun m => stg (n := n) (z := z) (m := m) (j := j) (r := r) (stOf (D := D) hs)
  have sa := fun m => sta (n := n) (z := z) (m := m) (j := j) (r := r) (stOf (D := D) hs)
  have su := fun m => stu (n := n) (z := z) (m := m) (j := j) (r := r) (stOf (D := D) hs)
  have s6 := hS.2.2.2.1
  unfold f_X11_doStep f_X11_doStep_0 sF
  unfold cB at h
  rcases (show k = 1 ∨ k = 2 ∨ k = 3 by omega) with rfl | rfl | rfl
  · have h := of_decide_eq_true h
    have hw6 : wI m (s + 1) a (Int32.ofNat b) s 6 = Int32.ofNat (σ 6 0) := by rw [wI_ne (by omega)]; exact hM.2.2.2.1
    by_cases h4 : b = 0
    · subst h4
      refine ⟨wI (wI m (s + 1) a (Int32.ofNat 0)) s 6 (Int32.ofNat (σ 6 0)), ?_, ?_, fun x hx => by rw [wI_ne (by omega), wI_ne (by omega)]⟩
      · simp (disch := omega) only [obs, cN_mk, ite_true, ite_false, if_true, if_false, l0, l1, no1_e, bI_t, bI_f, ieq_f, ile_t, ile_f, ilt_t, ilt_f, st, su, hw6, f_X11_priceOf, f_X11_priceOf_0, i_sub, Nat.sub_zero]
      · have := CS_coins (v := σ 6 0) (CS_crumb (v := 0) hM hC hP h.1) hC hP
        rw [show uS (uS σ 0 a 0) 6 0 (σ 6 0) = uS σ 0 a 0 from by
          have e : uS σ 0 a 0 6 0 = σ 6 0 := uS_n (by omega)
          rw [← e, uS_id]] at this
        exact this
    · refine ⟨wI (wI m (s + 1) a (Int32.ofNat b)) s 6 (Int32.ofNat (σ 6 0 - 2)), ?_, ?_, fun x hx => by rw [wI_ne (by omega), wI_ne (by omega)]⟩
      · simp (disch := omega) only [obs, cN_mk, ite_true, ite_false, if_true, if_false, l0, l1, no1_e, bI_t, bI_f, ieq_f, ile_t, ile_f, ilt_t, ilt_f, l2, st, su, hw6, f_X11_priceOf, f_X11_priceOf_0, i_sub]
      · simp only [show ¬ ((1 : Nat) = 0) by omega, if_false, if_true, h4]
        exact CS_coins (CS_crumb hM hC hP h.1) hC hP
  · have h := of_decide_eq_true h
    have hw6 : wI m (s + 2) a (Int32.ofNat (σ 1 a + 1)) s 6 = Int32.ofNat (σ 6 0) := by rw [wI_ne (by omega)]; exact hM.2.2.2.1
    refine ⟨wI (wI m (s + 2) a (Int32.ofNat (σ 1 a + 1))) s 6 (Int32.ofNat (σ 6 0 - 1)), ?_, ?_, fun x hx => by rw [wI_ne (by omega), wI_ne (by omega)]⟩
    · simp (disch := omega) only [obs, cN_mk, ite_true, ite_false, if_true, if_false, l0, l1, no1_e, bI_t, bI_f, ieq_f, ile_t, ile_f, ilt_t, ilt_f, l2, st, sa, su, (hM.1 a h.1).2, i_add, hw6, i_sub]
    · exact CS_coins (CS_spring hM hC hP h.1) hC hP
  · have h := of_decide_eq_true h
    have s4 := (hS.2.1 a h).2.2
    refine ⟨wI m (s + 5) a (Int32.ofNat (1 - σ 4 a)), ?_, CS_way hM hC hP h, fun x hx => by rw [wI_ne (by omega)]⟩
    simp (disch := omega) only [obs, cN_mk, ite_true, ite_false, if_true, if_false, l0, l1, no1_e, bI_t, bI_f, ieq_f, ile_t, ile_f, ilt_t, ilt_f, l2, st, sa, su, (hM.2.1 a h).2.2, i_sub]
/-! the model's -/
theorem M_canLay (hw : w = 85 ∨ w = 86) (hW : WY C P τ) (hS : WS C P 1999 σ) (hY : YM m C P τ) (hM : MS (m w) σ C P) (ha : a < 1000000) (hb : b < 1000000) : f_X12_canLay 72 w (Int32.ofNat a) (Int32.ofNat b) (mkH n z D m j r) = some (bI (cB C P σ 1 a b), (mkH n z D m j r)) := by
  have hP := hW.2.1
  have hC := hW.1
  have s6 := hS.2.2.2.1
  unfold f_X12_canLay f_X12_canLay_0 cB
  simp only [show ¬ ((1 : Nat) = 0) by omega, if_false, if_true]
  by_cases h1 : a < C
  · have s1 := hS.1 a h1
    have i1 : im (Int32.ofNat a) 0 C = true := im_k (by omega)
    by_cases h2 : b ≤ 3
    · have i2 : im (Int32.ofNat b) 0 4 = true := im_k (by omega)
      by_cases h3 : σ 0 a = b
      · rw [decide_eq_false (by omega)]
        simp (disch := omega) only [obs, cN_mk, ite_true, ite_false, if_true, if_false, l0, l1, no1_e, bI_t, bI_f, ieq_f, ile_t, ile_f, ilt_t, ilt_f, l2, i64_0, i64_3, M_inK, Nat.reduceAdd, q72, M_isCorner hY, i1, i2, i_mul, i_add, Nat.add_zero, (pw hw).1, hM.1, ieq_t]
      · by_cases h4 : b = 0
        · subst h4
          rw [decide_eq_true (by omega)]
          simp (disch := omega) only [obs, cN_mk, ite_true, ite_false, if_true, if_false, l0, l1, no1_e, bI_t, bI_f, ieq_f, ile_t, ile_f, ilt_t, ilt_f, l2, i64_0, i64_3, M_inK, Nat.reduceAdd, q72, M_isCorner hY, i1, i2, i_mul, i_add, Nat.add_zero, (pw hw).1, hM.1, f_X12_canLay_43]
        · by_cases h5 : 2 ≤ σ 6 0
          · rw [decide_eq_true (by omega)]
            simp (disch := omega) only [obs, cN_mk, ite_true, ite_false, if_true, if_false, l0, l1, no1_e, bI_t, bI_f, ieq_f, ile_t, ile_f, ilt_t, ilt_f, l2, l29, i64_0, i64_3, M_inK, Nat.reduceAdd, q72, M_isCorner hY, i1, i2, i_mul, i_add, Nat.add_zero, (pw hw).1, hM.1, hM.2.2.2.1, f_X12_canLay_43]
          · rw [decide_eq_false (by omega)]
            simp (disch := omega) only [obs, cN_mk, ite_true, ite_false, if_true, if_false, l0, l1, no1_e, bI_t, bI_f, ieq_f, ile_t, ile_f, ilt_t, ilt_f, l2, l29, i64_0, i64_3, M_inK, Nat.reduceAdd, q72, M_isCorner hY, i1, i2, i_mul, i_add, Nat.add_zero, (pw hw).1, hM.1, hM.2.2.2.1, f_X12_canLay_43]
    · have i2 : im (Int32.ofNat b) 0 4 = false := im_n (by omega)
      rw [decide_eq_false (by omega)]
      simp (disch := omega) only [obs, cN_mk, ite_true, ite_false, if_true, if_false, l0, l1, no1_e, bI_t, bI_f, ieq_f, ile_t, ile_f, ilt_t, ilt_f, i64_0, i64_3, M_inK, Nat.reduceAdd, q72, M_isCorner hY, i1, i2]
  · have i1 : im (Int32.ofNat a) 0 C = false := im_n (by omega)
    rw [decide_eq_false (by omega)]
    simp (disch := omega) only [obs, cN_mk, ite_true, ite_false, if_true, if_false, l0, l1, no1_e, bI_t, bI_f, ieq_f, ile_t, ile_f, ilt_t, ilt_f, q72, M_isCorner hY, i1]
theorem M_canRenew (hw : w = 85 ∨ w = 86) (hW : WY C P τ) (hS : WS C P 1999 σ) (hY : YM m C P τ) (hM : MS (m w) σ C P) (ha : a < 1000000) : f_X12_canRenew 72 w (Int32.ofNat a) (mkH n z D m j r) = some (bI (cB C P σ 2 a b), (mkH n z D m j r)) := by
  have hP := hW.2.1
  have hC := hW.1
  have s6 := hS.2.2.2.1
  unfold f_X12_canRenew f_X12_canRenew_0 cB
  simp only [show ¬ ((2 : Nat) = 0) by omega, show ¬ ((2 : Nat) = 1) by omega, if_false, if_true]
  by_cases h1 : a < C
  · have s1 := hS.1 a h1
    have i1 : im (Int32.ofNat a) 0 C = true := im_k (by omega)
    by_cases h2 : σ 1 a < 9
    · by_cases h3 : 1 ≤ σ 6 0
      · rw [decide_eq_true ⟨h1, h2, h3⟩]
        simp (disch := omega) only [obs, cN_mk, ite_true, ite_false, if_true, if_false, l0, l1, no1_e, bI_t, bI_f, ieq_f, ile_t, ile_f, ilt_t, ilt_f, l2, l9, l29, q72, M_isCorner hY, i1, i_mul, i_add, (pw hw).1, hM.1, hM.2.2.2.1]
      · rw [decide_eq_false (by omega)]
        simp (disch := omega) only [obs, cN_mk, ite_true, ite_false, if_true, if_false, l0, l1, no1_e, bI_t, bI_f, ieq_f, ile_t, ile_f, ilt_t, ilt_f, l2, l9, l29, q72, M_isCorner hY, i1, i_mul, i_add, (pw hw).1, hM.1, hM.2.2.2.1]
    · rw [decide_eq_false (by omega)]
      simp (disch := omega) only [obs, cN_mk, ite_true, ite_false, if_true, if_false, l0, l1, no1_e, bI_t, bI_f, ieq_f, ile_t, ile_f, ilt_t, ilt_f, l2, l9, l29, q72, M_isCorner hY, i1, i_mul, i_add, (pw hw).1, hM.1, hM.2.2.2.1]
  · have i1 : im (Int32.ofNat a) 0 C = false := im_n (by omega)
    rw [decide_eq_false (by omega)]
    simp (disch := omega) only [obs, cN_mk, ite_true, ite_false, if_true, if_false, l0, l1, no1_e, bI_t, bI_f, ieq_f, ile_t, ile_f, ilt_t, ilt_f, q72, M_isCorner hY, i1]
theorem M_lays (hw : w = 85 ∨ w = 86) (hW : WY C P τ) (hS : WS C P 1999 σ) (hM : MS (m w) σ C P) (h : cB C P σ 1 a b = true) : ∃ m', f_X12_lays w (Int32.ofNat a) (Int32.ofNat b) (mkH n z D m j r) = some ((), mkH n z D m' j r) ∧ MS (m' w) (sF pl C P τ σ 1 a b) C P ∧ (∀ a, a ≠ w → m' a = m a) ∧ (∀ i, 31 ≤ i → m' w i = m w i) := by
  have hP := hW.2.1
  have hC := hW.1
  have s6 := hS.2.2.2.1
  have h := of_decide_eq_true h
  unfold f_X12_lays f_X12_lays_0 sF
  simp only [show ¬ ((1 : Nat) = 0) by omega, if_false, if_true]
  by_cases h4 : b = 0
  · subst h4
    refine ⟨wI m w (2 * a) (Int32.ofNat 0), ?_, ?_, fun x hx => wI_ne hx, fun i hi => wI_sn (by omega)⟩
    · simp (disch := omega) only [obs, cN_mk, ite_true, ite_false, if_true, if_false, l0, l1, no1_e, bI_t, bI_f, ieq_f, ile_t, ile_f, ilt_t, ilt_f, l2, i_mul, i_add, Nat.add_zero, (pw hw).2]
    · rw [if_pos rfl, wI_eq]
      exact MS_crumb hM hC hP h.1
  · refine ⟨wI (wI m w (2 * a) (Int32.ofNat b)) w 29 (Int32.ofNat (σ 6 0 - 2)), ?_, ?_, fun x hx => by rw [wI_ne hx, wI_ne hx], fun i hi => by rw [wI_sn (by omega), wI_sn (by omega)]⟩
    · have hw6 : wI m w (2 * a) (Int32.ofNat b) w 29 = Int32.ofNat (σ 6 0) := by rw [wI_sn (by omega)]; exact hM.2.2.2.1
      simp (disch := omega) only [obs, cN_mk, ite_true, ite_false, if_true, if_false, l0, l1, no1_e, bI_t, bI_f, ieq_f, ile_t, ile_f, ilt_t, ilt_f, l2, l29, i_mul, i_add, Nat.add_zero, (pw hw).2, (pw hw).1, hw6, i_sub]
    · rw [if_neg h4, wI_eq, wI_eq]
      exact MS_coins (MS_crumb hM hC hP h.1) hC hP
theorem M_renews (hw : w = 85 ∨ w = 86) (hW : WY C P τ) (hS : WS C P 1999 σ) (hM : MS (m w) σ C P) (h : cB C P σ 2 a b = true) : ∃ m', f_X12_renews w (Int32.ofNat a) (mkH n z D m j r) = some ((), mkH n z D m' j r) ∧ MS (m' w) (sF pl C P τ σ 2 a b) C P ∧ (∀ a, a ≠ w → m' a = m a) ∧ (∀ i, 31 ≤ i → m' w i = m w i) := by
  have hP := hW.2.1
  have hC := hW.1
  have s6 := hS.2.2.2.1
  have h := of_decide_eq_true h
  unfold f_X12_renews f_X12_renews_0 sF
  simp only [show ¬ ((2 : Nat) = 0) by omega, show ¬ ((2 : Nat) = 1) by omega, if_false, if_true]
  refine ⟨wI (wI m w (2 * a + 1) (Int32.ofNat (σ 1 a + 1))) w 29 (Int32.ofNat (σ 6 0 - 1)), ?_, ?_, fun x hx => by rw [wI_ne hx, wI_ne hx], fun i hi => by rw [wI_sn (by omega), wI_sn (by omega)]⟩
  · have hw6 : wI m w (2 * a + 1) (Int32.ofNat (σ 1 a + 1)) w 29 = Int32.ofNat (σ 6 0) := by rw [wI_sn (by omega)]; exact hM.2.2.2.1
    simp (disch := omega) only [obs, cN_mk, ite_true, ite_false, if_true, if_false, l0, l1, no1_e, bI_t, bI_f, ieq_f, ile_t, ile_f, ilt_t, ilt_f, l2, l29, i_mul, i_add, (pw hw).2, (pw hw).1, (hM.1 a h.1).2, hw6, i_sub]
  · rw [wI_eq, wI_eq]
    exact MS_coins (MS_spring hM hC hP h.1) hC hP
theorem M_turns (hw : w = 85 ∨ w = 86) (hW : WY C P τ) (hS : WS C P 1999 σ) (hM : MS (m w) σ C P) (h : a < P) : ∃ m', f_X12_turns w (Int32.ofNat a) (mkH n z D m j r) = some ((), mkH n z D m' j r) ∧ MS (m' w) (uS σ 4 a (1 - σ 4 a)) C P ∧ (∀ a, a ≠ w → m' a = m a) ∧ (∀ i, 31 ≤ i → m' w i = m w i) := by
  have hP := hW.2.1
  have hC := hW.1
  have s4 := (hS.2.1 a h).2.2
  unfold f_X12_turns f_X12_turns_0
  refine ⟨wI m w (10 + 3 * a + 2) (Int32.ofNat (1 - σ 4 a)), ?_, ?_, fun x hx => wI_ne hx, fun i hi => wI_sn (by omega)⟩
  · simp (disch := omega) only [obs, cN_mk, ite_true, ite_false, if_true, if_false, l0, l1, no1_e, bI_t, bI_f, ieq_f, ile_t, ile_f, ilt_t, ilt_f, l2, l3, l10, i_mul, i_add, (pw hw).2, (pw hw).1, (hM.2.1 a h).2.2, i_sub]
  · rw [wI_eq]
    exact MS_way hM hC hP h
/-- a step of a plan in the model's rows -/
def SR (m : MI) (R k a b : Nat) : Prop := R + 3 ≤ 240 ∧ m 83 R = Int32.ofNat k ∧ m 83 (R + 1) = (if k = 0 then no1 else Int32.ofNat a) ∧ m 83 (R + 2) = (if k = 1 then Int32.ofNat b else no1)
theorem M_canStep {R : Nat} (hw : w = 85 ∨ w = 86) (hW : WY C P τ) (hS : WS C P 1999 σ) (hY : YM m C P τ) (hM : MS (m w) σ C P) (hP0 : 0 < P) (hk : k ≤ 3) (ha : a < 1000000) (hb : b < 1000000) (hR : SR m R k a b) : f_X12_canStep 72 w (Int32.ofNat R) (mkH n z D m j r) = some (bI (cB C P σ k a b), (mkH n z D m j r)) := by
  obtain ⟨hR1, r0, r1, r2⟩ := hR
  have s7 := hS.2.2.2.2
  unfold f_X12_canStep f_X12_canStep_0
  rcases (show k = 0 ∨ k = 1 ∨ k = 2 ∨ k = 3 by omega) with rfl | rfl | rfl | rfl
  · unfold cB
    by_cases h2 : σ 7 0 < 999
    · rw [if_pos rfl, decide_eq_true ⟨hP0, h2⟩]
      simp (disch := omega) only [obs, cN_mk, ite_true, ite_false, if_true, if_false, l0, l1, no1_e, bI_t, bI_f, ieq_f, ile_t, ile_f, ilt_t, ilt_f, l30, l999, q72, p83, r0, (pw hw).1, hM.2.2.2.2]
    · rw [if_pos rfl, decide_eq_false (by omega)]
      simp (disch := omega) only [obs, cN_mk, ite_true, ite_false, if_true, if_false, l0, l1, no1_e, bI_t, bI_f, ieq_f, ile_t, ile_f, ilt_t, ilt_f, l30, l999, q72, p83, r0, (pw hw).1, hM.2.2.2.2]
  · simp only [show ¬ ((1 : Nat) = 0) by omega, if_false, if_true] at r1 r2
    have e := M_canLay (n := n) (z := z) (D := D) (j := j) (r := r) hw hW hS hY hM ha hb
    cases hc : cB C P σ 1 a b with
    | true =>
      rw [hc] at e
      simp (disch := omega) only [obs, cN_mk, ite_true, ite_false, if_true, if_false, l0, l1, no1_e, bI_t, bI_f, ieq_f, ile_t, ile_f, ilt_t, ilt_f, l2, q72, p83, i_add, r0, r1, r2, e, rZ, or_true]
    | false =>
      rw [hc] at e
      simp (disch := omega) only [obs, cN_mk, ite_true, ite_false, if_true, if_false, l0, l1, no1_e, bI_t, bI_f, ieq_f, ile_t, ile_f, ilt_t, ilt_f, l2, q72, p83, i_add, r0, r1, r2, e, rZ, true_or]
  · simp only [show ¬ ((2 : Nat) = 0) by omega, show ¬ ((2 : Nat) = 1) by omega, if_false, if_true] at r1 r2
    have e := M_canRenew (n := n) (z := z) (D := D) (j := j) (r := r) (b := b) hw hW hS hY hM ha
    cases hc : cB C P σ 2 a b with
    | true =>
      rw [hc] at e
      simp (disch := omega) only [obs, cN_mk, ite_true, ite_false, if_true, if_false, l0, l1, no1_e, bI_t, bI_f, ieq_f, ile_t, ile_f, ilt_t, ilt_f, l2, q72, p83, i_add, r0, r1, e, rZ, or_true]
    | false =>
      rw [hc] at e
      simp (disch := omega) only [obs, cN_mk, ite_true, ite_false, if_true, if_false, l0, l1, no1_e, bI_t, bI_f, ieq_f, ile_t, ile_f, ilt_t, ilt_f, l2, q72, p83, i_add, r0, r1, e, rZ, true_or]
  · simp only [show ¬ ((3 : Nat) = 0) by omega, show ¬ ((3 : Nat) = 1) by omega, if_false, if_true] at r1 r2
    unfold cB
    have hP := hW.2.1
    by_cases h1 : a < P
    · have i1 : im (Int32.ofNat a) 0 P = true := im_k (by omega)
      simp only [show ¬ ((3 : Nat) = 0) by omega, show ¬ ((3 : Nat) = 1) by omega, show ¬ ((3 : Nat) = 2) by omega, if_false]
      rw [decide_eq_true h1]
      simp (disch := omega) only [obs, cN_mk, ite_true, ite_false, if_true, if_false, l0, l1, no1_e, bI_t, bI_f, ieq_f, ile_t, ile_f, ilt_t, ilt_f, l2, q72, p83, i_add, r0, r1, M_isPerson hY, i1, rZ, or_true]
    · have i1 : im (Int32.ofNat a) 0 P = false := im_n (by omega)
      simp only [show ¬ ((3 : Nat) = 0) by omega, show ¬ ((3 : Nat) = 1) by omega, show ¬ ((3 : Nat) = 2) by omega, if_false]
      rw [decide_eq_false h1]
      simp (disch := omega) only [obs, cN_mk, ite_true, ite_false, if_true, if_false, l0, l1, no1_e, bI_t, bI_f, ieq_f, ile_t, ile_f, ilt_t, ilt_f, l2, q72, p83, i_add, r0, r1, M_isPerson hY, i1, rZ, true_or]
end STEP
