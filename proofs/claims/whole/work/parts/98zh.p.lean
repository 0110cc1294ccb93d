/-! The model keeps a law or a plan. -/
def wb (m : MI) (A : Nat) : Nat → MI
  | 0 => m
  | i + 1 => wI (wb m A i) 74 (240 * A + i) (nar 1 (m 73 i))
def wq (m : MI) (B : Nat) : Nat → MI
  | 0 => m
  | i + 1 => wI (wq m B i) 83 (48 * B + i) (m 83 (192 + i))
section MKEEPS
variable {n z : Nat} {D : Dyn} {m m' : MI} {j : MJ} {r r' : MR} {A B N : Nat}
theorem wb_n : ∀ i a, a ≠ 74 → wb m A i a = m a
  | 0, _, _ => rfl
  | i + 1, a, h => by
    unfold wb
    rw [wI_ne h]
    exact wb_n i a h
theorem wb_o : ∀ i q, q < 240 * A → wb m A i 74 q = m 74 q
  | 0, _, _ => rfl
  | i + 1, q, h => by
    unfold wb
    rw [wI_sn (by omega)]
    exact wb_o i q h
theorem wb_v : ∀ i q, q < i → wb m A i 74 (240 * A + q) = nar 1 (m 73 q)
  | 0, _, h => absurd h (Nat.not_lt_zero _)
  | i + 1, q, h => by
    unfold wb
    by_cases e : q = i
    · subst e; rw [wI_se]
    · rw [wI_sn (by omega)]
      exact wb_v i q (by omega)
theorem wq_n : ∀ i a, a ≠ 83 → wq m B i a = m a
  | 0, _, _ => rfl
  | i + 1, a, h => by
    unfold wq
    rw [wI_ne h]
    exact wq_n i a h
theorem wq_o : ∀ i q, q < 48 * B ∨ 48 * B + i ≤ q → wq m B i 83 q = m 83 q
  | 0, _, _ => rfl
  | i + 1, q, h => by
    unfold wq
    rw [wI_sn (by omega)]
    exact wq_o i q (by omega)
theorem wq_v : ∀ i q, q < i → wq m B i 83 (48 * B + q) = m 83 (192 + q)
  | 0, _, h => absurd h (Nat.not_lt_zero _)
  | i + 1, q, h => by
    unfold wq
    by_cases e : q = i
    · subst e; rw [wI_se]
    · rw [wI_sn (by omega)]
      exact wq_v i q (by omega)
theorem T71 (h7 : m 72 7 = Int32.ofNat A) (hA : A < 4) (hN : N ≤ 240) : f_X12_text_71 fu 72 (Int32.ofNat N) (Int32.ofNat 0) (mkH n z D m j r) = some (Int32.ofNat A, mkH n z D (wI (wI (wb m A N) 75 A (Int32.ofNat N)) 72 7 (Int32.ofNat (A + 1))) j r) := by
  have e240 : (240 : Int32) = Int32.ofNat 240 := rfl
  have h := lpI (fun f i => f_X12_text_71 f 72 (Int32.ofNat N) (Int32.ofNat i) (mkH n z D (wb m A i) j r)) N (res := some (Int32.ofNat A, mkH n z D (wI (wI (wb m A N) 75 A (Int32.ofNat N)) 72 7 (Int32.ofNat (A + 1))) j r)) ?_ ?_ N 0 fu (by omega) (by unfold fu; omega)
  · exact h
  · intro f i hi
    show f_X12_text_71 (f + 1) 72 (Int32.ofNat N) (Int32.ofNat i) _ = _
    rw [f_X12_text_71.eq_2]
    simp (disch := omega) only [obs, cN_mk, ite_true, ite_false, if_true, if_false, ile_f, q72, wb_n, h7, p73, e240, i_mul, i_add, p74, l1]
    rfl
  · intro f
    show f_X12_text_71 (f + 1) 72 (Int32.ofNat N) (Int32.ofNat N) _ = _
    rw [f_X12_text_71.eq_2]
    simp (disch := omega) only [obs, cN_mk, ite_true, ite_false, if_true, if_false, ile_t, q72, wb_n, h7, p75, wI_ne, wI_se, l1, i_add, i_sub, Nat.add_sub_cancel]
theorem T137 (h7 : m 72 30 = Int32.ofNat B) (hB : B < 4) : f_X12_text_137 fu 72 (Int32.ofNat 0) (mkH n z D m j r) = some (Int32.ofNat B, mkH n z D (wI (wI (wq m B 48) 84 B (m 84 4)) 72 30 (Int32.ofNat (B + 1))) j r) := by
  have e48 : (48 : Int32) = Int32.ofNat 48 := rfl
  have e192 : (192 : Int32) = Int32.ofNat 192 := rfl
  have h := lpI (fun f i => f_X12_text_137 f 72 (Int32.ofNat i) (mkH n z D (wq m B i) j r)) 48 (res := some (Int32.ofNat B, mkH n z D (wI (wI (wq m B 48) 84 B (m 84 4)) 72 30 (Int32.ofNat (B + 1))) j r)) ?_ ?_ 48 0 fu (by omega) (by unfold fu; omega)
  · exact h
  · intro f i hi
    show f_X12_text_137 (f + 1) 72 (Int32.ofNat i) _ = _
    rw [f_X12_text_137.eq_2]
    simp (disch := omega) only [obs, cN_mk, ite_true, ite_false, if_true, if_false, e48, ile_f, q72, wq_n, h7, e192, i_mul, i_add, p83, wq_o, l1]
    rfl
  · intro f
    show f_X12_text_137 (f + 1) 72 (Int32.ofNat 48) _ = _
    rw [f_X12_text_137.eq_2]
    simp (disch := omega) only [obs, cN_mk, ite_true, ite_false, if_true, if_false, e48, ile_t, q72, wq_n, h7, l4, p84, wI_ne, wI_se, l1, i_add, i_sub, Nat.add_sub_cancel]
theorem M_tx0 : f_X12_text 72 (Int32.ofNat 0) (mkH n z D m j r) = f_X12_text_43 72 (Int32.ofNat 0) (mkH n z D (wI m 72 0 0) j r) := by
  unfold f_X12_text f_X12_text_0
  rw [thr0, M_fin (x := 0) (by omega), if_neg (by decide), if_neg (by decide)]
  unfold f_X12_text_30
  rw [if_neg (by decide)]
theorem M_tx1 (h7 : m 72 7 = Int32.ofNat A) (hA : A < 4) : f_X12_text 72 (Int32.ofNat 1) (mkH n z D m j r) = f_X12_text_43 72 (Int32.ofNat 1) (mkH n z D (wI m 72 0 0) j r) := by
  unfold f_X12_text f_X12_text_0
  rw [thr0, M_fin (x := 0) (by omega), if_neg (by decide), if_pos (by decide), gI_mk (i := 7) rfl (by decide) rfl, obs, wI_sn (by omega), h7, if_neg (show ¬ Int32.ofNat A = 4 from fun e => by have := (i_inj (b := 4) (by omega) (by omega)).mp e; omega)]
  unfold f_X12_text_30
  rw [if_neg (by decide)]
theorem M_tx1f (h7 : m 72 7 = Int32.ofNat 4) : f_X12_text 72 (Int32.ofNat 1) (mkH n z D m j r) = some (no1, mkH n z D (wI m 72 0 0) j r) := by
  unfold f_X12_text f_X12_text_0
  rw [thr0, M_fin (x := 0) (by omega), if_neg (by decide), if_pos (by decide), gI_mk (i := 7) rfl (by decide) rfl, obs, wI_sn (by omega), h7, if_pos (by decide)]
  rfl
theorem M_tx2 (h7 : m 72 30 = Int32.ofNat A) (hA : A < 4) : f_X12_text 72 (Int32.ofNat 2) (mkH n z D m j r) = f_X12_text_43 72 (Int32.ofNat 2) (mkH n z D (wI m 72 0 0) j r) := by
  unfold f_X12_text f_X12_text_0
  rw [thr0, M_fin (x := 0) (by omega), if_neg (by decide), if_neg (by decide)]
  unfold f_X12_text_30
  rw [if_pos (by decide), gI_mk (i := 30) rfl (by decide) rfl, obs, wI_sn (by omega), h7, if_neg (show ¬ Int32.ofNat A = 4 from fun e => by have := (i_inj (b := 4) (by omega) (by omega)).mp e; omega)]
theorem M_tx2f (h7 : m 72 30 = Int32.ofNat 4) : f_X12_text 72 (Int32.ofNat 2) (mkH n z D m j r) = some (no1, mkH n z D (wI m 72 0 0) j r) := by
  unfold f_X12_text f_X12_text_0
  rw [thr0, M_fin (x := 0) (by omega), if_neg (by decide), if_neg (by decide)]
  unfold f_X12_text_30
  rw [if_pos (by decide), gI_mk (i := 30) rfl (by decide) rfl, obs, wI_sn (by omega), h7, if_pos (by decide)]
  rfl
end MKEEPS
