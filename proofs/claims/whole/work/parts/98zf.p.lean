/-! A city is founded: the model. -/
def wp (m : MI) : Nat → MI
  | 0 => m
  | i + 1 => wI (wI (wp m i) 85 (10 + 3 * i) (m 81 (6 * i + 2))) 85 (10 + 3 * i + 2) (m 81 (6 * i + 5))
section MFOUND
variable {n z : Nat} {D : Dyn} {m m' : MI} {j : MJ} {r : MR} {c : CY} {C P : Nat}
theorem cpR_0 {b : Nat} {f : Nat → Int32} : cpR m b f 0 = m := by
  funext a q
  by_cases h : a = b
  · subst h; rw [cpR_s, if_neg (by omega)]
  · rw [cpR_n h]
theorem cpR_w {b i : Nat} {f : Nat → Int32} : wI (cpR m b f i) b i (f i) = cpR m b f (i + 1) := by
  funext a q
  by_cases h : a = b
  · subst h
    rw [cpR_s]
    by_cases hq : q = i
    · subst hq; rw [wI_se, if_pos (by omega)]
    · rw [wI_sn hq, cpR_s]
      by_cases h1 : q < i
      · rw [if_pos h1, if_pos (by omega)]
      · rw [if_neg h1, if_neg (by omega)]
  · rw [wI_ne h, cpR_n h, cpR_n h]
theorem wp_n : ∀ i a, a ≠ 85 → wp m i a = m a
  | 0, _, _ => rfl
  | i + 1, a, h => by
    unfold wp
    rw [wI_ne h, wI_ne h]
    exact wp_n i a h
theorem wp_o : ∀ i q, q < 10 ∨ 10 + 3 * i ≤ q → wp m i 85 q = m 85 q
  | 0, _, _ => rfl
  | i + 1, q, h => by
    unfold wp
    rw [wI_sn (by omega), wI_sn (by omega)]
    exact wp_o i q (by omega)
theorem wp_v : ∀ i p, p < i → wp m i 85 (10 + 3 * p) = m 81 (6 * p + 2) ∧ wp m i 85 (10 + 3 * p + 1) = m 85 (10 + 3 * p + 1) ∧ wp m i 85 (10 + 3 * p + 2) = m 81 (6 * p + 5)
  | 0, _, h => absurd h (Nat.not_lt_zero _)
  | i + 1, p, h => by
    unfold wp
    by_cases e : p = i
    · subst e
      refine ⟨by rw [wI_sn (by omega), wI_se], ?_, by rw [wI_se]⟩
      rw [wI_sn (by omega), wI_sn (by omega)]
      exact wp_o p _ (by omega)
    · have := wp_v i p (by omega)
      refine ⟨?_, ?_, ?_⟩
      · rw [wI_sn (by omega), wI_sn (by omega)]; exact this.1
      · rw [wI_sn (by omega), wI_sn (by omega)]; exact this.2.1
      · rw [wI_sn (by omega), wI_sn (by omega)]; exact this.2.2
theorem T223 : f_X12_text_223 fu 72 (Int32.ofNat 0) (mkH n z D m j r) = f_X12_text_248 fu 72 (Int32.ofNat 0) (mkH n z D (cpR m 77 (m 78) 3) j r) := by
  have h := lpI (fun f i => f_X12_text_223 f 72 (Int32.ofNat i) (mkH n z D (cpR m 77 (m 78) i) j r)) 3 (res := f_X12_text_248 fu 72 (Int32.ofNat 0) (mkH n z D (cpR m 77 (m 78) 3) j r)) ?_ ?_ 3 0 fu (by omega) (by unfold fu; omega)
  · simp only [cpR_0] at h
    exact h
  · intro f i hi
    show f_X12_text_223 (f + 1) 72 (Int32.ofNat i) _ = _
    rw [f_X12_text_223.eq_2]
    simp (disch := omega) only [obs, cN_mk, ite_true, ite_false, if_true, if_false, l3, ile_f, q72, p77, p78, cpR_n, cpR_w, l1, i_add]
  · intro f
    show f_X12_text_223 (f + 1) 72 (Int32.ofNat 3) _ = _
    rw [f_X12_text_223.eq_2]
    simp (disch := omega) only [obs, cN_mk, ite_true, ite_false, if_true, if_false, l3, ile_t, l0]
theorem T248 : f_X12_text_248 fu 72 (Int32.ofNat 0) (mkH n z D m j r) = f_X12_text_274 fu 72 (Int32.ofNat 0) (mkH n z D (cpR m 79 (m 80) 10) j r) := by
  have h := lpI (fun f i => f_X12_text_248 f 72 (Int32.ofNat i) (mkH n z D (cpR m 79 (m 80) i) j r)) 10 (res := f_X12_text_274 fu 72 (Int32.ofNat 0) (mkH n z D (cpR m 79 (m 80) 10) j r)) ?_ ?_ 10 0 fu (by omega) (by unfold fu; omega)
  · simp only [cpR_0] at h
    exact h
  · intro f i hi
    show f_X12_text_248 (f + 1) 72 (Int32.ofNat i) _ = _
    rw [f_X12_text_248.eq_2]
    simp (disch := omega) only [obs, cN_mk, ite_true, ite_false, if_true, if_false, l10, ile_f, q72, p79, p80, cpR_n, cpR_w, l1, i_add]
  · intro f
    show f_X12_text_248 (f + 1) 72 (Int32.ofNat 10) _ = _
    rw [f_X12_text_248.eq_2]
    simp (disch := omega) only [obs, cN_mk, ite_true, ite_false, if_true, if_false, l10, ile_t, l0]
theorem T274 : f_X12_text_274 fu 72 (Int32.ofNat 0) (mkH n z D m j r) = f_X12_text_300 fu 72 (Int32.ofNat 0) (mkH n z D (cpR m 81 (m 82) 36) j r) := by
  have e36 : (36 : Int32) = Int32.ofNat 36 := rfl
  have h := lpI (fun f i => f_X12_text_274 f 72 (Int32.ofNat i) (mkH n z D (cpR m 81 (m 82) i) j r)) 36 (res := f_X12_text_300 fu 72 (Int32.ofNat 0) (mkH n z D (cpR m 81 (m 82) 36) j r)) ?_ ?_ 36 0 fu (by omega) (by unfold fu; omega)
  · simp only [cpR_0] at h
    exact h
  · intro f i hi
    show f_X12_text_274 (f + 1) 72 (Int32.ofNat i) _ = _
    rw [f_X12_text_274.eq_2]
    simp (disch := omega) only [obs, cN_mk, ite_true, ite_false, if_true, if_false, e36, ile_f, q72, p81, p82, cpR_n, cpR_w, l1, i_add]
  · intro f
    show f_X12_text_274 (f + 1) 72 (Int32.ofNat 36) _ = _
    rw [f_X12_text_274.eq_2]
    simp (disch := omega) only [obs, cN_mk, ite_true, ite_false, if_true, if_false, e36, ile_t, l0]
theorem T300 : f_X12_text_300 fu 72 (Int32.ofNat 0) (mkH n z D m j r) = f_X12_text_322 fu 72 (Int32.ofNat 0) (mkH n z D (cpR m 85 (fun _ => Int32.ofNat 0) 212) j r) := by
  have e212 : (212 : Int32) = Int32.ofNat 212 := rfl
  have cw : ∀ i, wI (cpR m 85 (fun _ => Int32.ofNat 0) i) 85 i (Int32.ofNat 0) = cpR m 85 (fun _ => Int32.ofNat 0) (i + 1) := fun i => cpR_w (f := fun _ => Int32.ofNat 0)
  have h := lpI (fun f i => f_X12_text_300 f 72 (Int32.ofNat i) (mkH n z D (cpR m 85 (fun _ => Int32.ofNat 0) i) j r)) 212 (res := f_X12_text_322 fu 72 (Int32.ofNat 0) (mkH n z D (cpR m 85 (fun _ => Int32.ofNat 0) 212) j r)) ?_ ?_ 212 0 fu (by omega) (by unfold fu; omega)
  · simp only [cpR_0] at h
    exact h
  · intro f i hi
    show f_X12_text_300 (f + 1) 72 (Int32.ofNat i) _ = _
    rw [f_X12_text_300.eq_2]
    simp (disch := omega) only [obs, cN_mk, ite_true, ite_false, if_true, if_false, e212, ile_f, q72, l0, p85, cw, l1, i_add]
  · intro f
    show f_X12_text_300 (f + 1) 72 (Int32.ofNat 212) _ = _
    rw [f_X12_text_300.eq_2]
    simp (disch := omega) only [obs, cN_mk, ite_true, ite_false, if_true, if_false, e212, ile_t, l0]
theorem T322 (hC : m 72 26 = Int32.ofNat C) (h5 : C ≤ 5) : f_X12_text_322 fu 72 (Int32.ofNat 0) (mkH n z D m j r) = f_X12_text_352 fu 72 (Int32.ofNat 0) (mkH n z D (cpR m 85 (m 79) (2 * C)) j r) := by
  have h := lpI (fun f i => f_X12_text_322 f 72 (Int32.ofNat i) (mkH n z D (cpR m 85 (m 79) i) j r)) (2 * C) (res := f_X12_text_352 fu 72 (Int32.ofNat 0) (mkH n z D (cpR m 85 (m 79) (2 * C)) j r)) ?_ ?_ (2 * C) 0 fu (by omega) (by unfold fu; omega)
  · simp only [cpR_0] at h
    exact h
  · intro f i hi
    show f_X12_text_322 (f + 1) 72 (Int32.ofNat i) _ = _
    rw [f_X12_text_322.eq_2]
    simp (disch := omega) only [obs, cN_mk, ite_true, ite_false, if_true, if_false, q72, cpR_n, hC, l2, i_mul, ile_f, p79, p85, cpR_w, l1, i_add]
  · intro f
    show f_X12_text_322 (f + 1) 72 (Int32.ofNat (2 * C)) _ = _
    rw [f_X12_text_322.eq_2]
    simp (disch := omega) only [obs, cN_mk, ite_true, ite_false, if_true, if_false, q72, cpR_n, hC, l2, i_mul, ile_t, l0]
theorem T352 (hP : m 72 27 = Int32.ofNat P) (h6 : P ≤ 6) : ∃ m', f_X12_text_352 fu 72 (Int32.ofNat 0) (mkH n z D m j r) = some (Int32.ofNat P, mkH n z D m' j r) ∧ m' = wI (wI (wI (wI (wp m P) 85 29 (m 77 1)) 72 46 (Int32.ofNat 0)) 72 43 (Int32.ofNat 0)) 72 49 (bI false) := by
  have e29 : (29 : Int32) = Int32.ofNat 29 := rfl
  refine ⟨_, ?_, rfl⟩
  have h := lpI (fun f i => f_X12_text_352 f 72 (Int32.ofNat i) (mkH n z D (wp m i) j r)) P (res := some (Int32.ofNat P, mkH n z D (wI (wI (wI (wI (wp m P) 85 29 (m 77 1)) 72 46 (Int32.ofNat 0)) 72 43 (Int32.ofNat 0)) 72 49 (bI false)) j r)) ?_ ?_ P 0 fu (by omega) (by unfold fu; omega)
  · exact h
  · intro f i hi
    show f_X12_text_352 (f + 1) 72 (Int32.ofNat i) _ = _
    rw [f_X12_text_352.eq_2]
    simp (disch := omega) only [obs, cN_mk, ite_true, ite_false, if_true, if_false, q72, wp_n, hP, ile_f, l6, l2, l5, l10, l3, l0, i_mul, i_add, Nat.add_zero, p81, p85, wI_ne, l1]
    rfl
  · intro f
    show f_X12_text_352 (f + 1) 72 (Int32.ofNat P) _ = _
    rw [f_X12_text_352.eq_2]
    simp (disch := omega) only [obs, cN_mk, ite_true, ite_false, if_true, if_false, q72, wp_n, hP, ile_t, l1, p77, e29, p85, wI_ne, wI_sn]
    rfl
theorem M_found (hC : MCY m c) (hk : okC c) (h26 : m 72 26 = Int32.ofNat c.2.2.1) (h27 : m 72 27 = Int32.ofNat c.2.2.2.2.1) : ∃ m', f_X12_text_223 fu 72 (Int32.ofNat 0) (mkH n z D m j r) = some (Int32.ofNat c.2.2.2.2.1, mkH n z D m' j r) ∧ YM m' c.2.2.1 c.2.2.2.2.1 (τN c) ∧ MS (m' 85) (σN c) c.2.2.1 c.2.2.2.2.1 ∧ m' 85 31 = Int32.ofNat 0 ∧ m' 72 46 = Int32.ofNat 0 ∧ m' 72 43 = Int32.ofNat 0 ∧ m' 72 49 = bI false ∧ (∀ a, a ≠ 72 → a ≠ 77 → a ≠ 79 → a ≠ 81 → a ≠ 85 → m' a = m a) ∧ (∀ i, i ≠ 43 → i ≠ 46 → i ≠ 49 → m' 72 i = m 72 i) := by
  obtain ⟨-, -, -, c4, c5, c6⟩ := hC
  have h5 := hk.1
  have h6 := hk.2.1
  generalize hm1 : cpR m 77 (m 78) 3 = m1
  generalize hm2 : cpR m1 79 (m1 80) 10 = m2
  generalize hm3 : cpR m2 81 (m2 82) 36 = m3
  generalize hm4 : cpR m3 85 (fun _ => Int32.ofNat 0) 212 = m4
  generalize hm5 : cpR m4 85 (m4 79) (2 * c.2.2.1) = m5
  have f1 : ∀ a, a ≠ 77 → m1 a = m a := fun a h => by rw [← hm1, cpR_n h]
  have f2 : ∀ a, a ≠ 79 → m2 a = m1 a := fun a h => by rw [← hm2, cpR_n h]
  have f3 : ∀ a, a ≠ 81 → m3 a = m2 a := fun a h => by rw [← hm3, cpR_n h]
  have f4 : ∀ a, a ≠ 85 → m4 a = m3 a := fun a h => by rw [← hm4, cpR_n h]
  have f5 : ∀ a, a ≠ 85 → m5 a = m4 a := fun a h => by rw [← hm5, cpR_n h]
  have g72 : m5 72 = m 72 := by rw [f5 _ (by omega), f4 _ (by omega), f3 _ (by omega), f2 _ (by omega), f1 _ (by omega)]
  have g472 : m4 72 = m 72 := by rw [f4 _ (by omega), f3 _ (by omega), f2 _ (by omega), f1 _ (by omega)]
  have g77 : ∀ k, k < 3 → m5 77 k = Int32.ofNat (c.2.1 k) := fun k hk => by rw [f5 _ (by omega), f4 _ (by omega), f3 _ (by omega), f2 _ (by omega), ← hm1, cpR_s, if_pos hk, c4 k hk]
  have g79 : ∀ q, q < c.2.2.1 → ∀ k, k < 2 → m4 79 (2 * q + k) = Int32.ofNat (c.2.2.2.1 q k) := fun q hq k hk => by rw [f4 _ (by omega), f3 _ (by omega), ← hm2, cpR_s, if_pos (by omega), f1 _ (by omega), c5 q hq k hk]
  have g81 : ∀ q, q < c.2.2.2.2.1 → ∀ k, k < 6 → m5 81 (6 * q + k) = Int32.ofNat (c.2.2.2.2.2 q k) := fun q hq k hk => by rw [f5 _ (by omega), f4 _ (by omega), ← hm3, cpR_s, if_pos (by omega), f2 _ (by omega), f1 _ (by omega), c6 q hq k hk]
  have g85 : ∀ q, 2 * c.2.2.1 ≤ q → q < 212 → m5 85 q = Int32.ofNat 0 := fun q h1 h2 => by rw [← hm5, cpR_s, if_neg (by omega), ← hm4, cpR_s, if_pos h2]
  have g85b : ∀ q, q < 2 * c.2.2.1 → m5 85 q = m4 79 q := fun q h1 => by rw [← hm5, cpR_s, if_pos h1]
  obtain ⟨m', e, he⟩ := T352 (n := n) (z := z) (D := D) (m := m5) (j := j) (r := r) (P := c.2.2.2.2.1) (by rw [g72]; exact h27) h6
  have k85 : ∀ q, q ≠ 29 → m' 85 q = wp m5 c.2.2.2.2.1 85 q := fun q h => by rw [he, wI_ne (by omega), wI_ne (by omega), wI_ne (by omega), wI_sn h]
  have ko : ∀ a, a ≠ 72 → a ≠ 85 → m' a = m5 a := fun a h1 h2 => by rw [he, wI_ne h1, wI_ne h1, wI_ne h1, wI_ne h2, wp_n _ _ h2]
  have k72 : ∀ i, i ≠ 43 → i ≠ 46 → i ≠ 49 → m' 72 i = m 72 i := fun i h1 h2 h3 => by rw [he, wI_sn h3, wI_sn h1, wI_sn h2, wI_ne (by omega), wp_n _ _ (by omega), g72]
  refine ⟨m', ?_, ⟨?_, ?_, ?_, ?_, fun p hp k hk => ?_⟩, ⟨fun q hq => ⟨?_, ?_⟩, fun p hp => ?_, ?_, ?_, ?_⟩, ?_, ?_, ?_, ?_, fun a h1 h2 h3 h4 h5 => ?_, k72⟩
  · rw [T223, hm1, T248, hm2, T274, hm3, T300, hm4, T322 (by rw [g472]; exact h26) h5, hm5, e]
  · rw [k72 26 (by omega) (by omega) (by omega)]; exact h26
  · rw [k72 27 (by omega) (by omega) (by omega)]; exact h27
  · rw [ko 77 (by omega) (by omega), g77 0 (by omega)]; rfl
  · rw [ko 77 (by omega) (by omega), g77 2 (by omega)]; rfl
  · rw [ko 81 (by omega) (by omega), g81 p hp k (by omega)]
    unfold τN
    rw [if_neg (by omega)]
  · rw [k85 _ (by omega), wp_o _ _ (by omega), g85b _ (by omega)]
    exact g79 q hq 0 (by omega)
  · rw [k85 _ (by omega), wp_o _ _ (by omega), g85b _ (by omega)]
    exact g79 q hq 1 (by omega)
  · have v := wp_v (m := m5) _ p hp
    rw [k85 _ (by omega), k85 _ (by omega), k85 _ (by omega), v.1, v.2.1, v.2.2, g81 p hp 2 (by omega), g81 p hp 5 (by omega), g85 _ (by omega) (by omega)]
    exact ⟨rfl, rfl, rfl⟩
  · rw [k85 _ (by omega), wp_o _ _ (by omega), g85 _ (by omega) (by omega)]; rfl
  · rw [he, wI_ne (by omega), wI_ne (by omega), wI_ne (by omega), wI_se, g77 1 (by omega)]; rfl
  · rw [k85 _ (by omega), wp_o _ _ (by omega), g85 _ (by omega) (by omega)]; rfl
  · rw [k85 _ (by omega), wp_o _ _ (by omega), g85 _ (by omega) (by omega)]
  · rw [he, wI_sn (by omega), wI_sn (by omega), wI_se]
  · rw [he, wI_sn (by omega), wI_se]
  · rw [he, wI_se]
  · rw [ko a h1 h5, f5 a h5, f4 a h5, f3 a h4, f2 a h3, f1 a h2]
end MFOUND
