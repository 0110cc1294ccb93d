/-! A city is founded. -/
def τN (c : CY) : Sg := fun k p => if k = 6 then c.2.1 p else c.2.2.2.2.2 p k
def σN (c : CY) : Sg := fun k i => if k = 0 then c.2.2.2.1 i 0 else if k = 1 then c.2.2.2.1 i 1 else if k = 2 then c.2.2.2.2.2 i 2 else if k = 4 then c.2.2.2.2.2 i 5 else if k = 6 then c.2.1 1 else 0
theorem wh_at {nc : Nat} {pv : Nat → VS} : ∀ P, wh nc pv P = true → ∀ p, p < P → pv p 3 < nc ∧ pv p 4 < nc ∧ pv p 3 ≠ pv p 4
  | 0, _, p, hp => absurd hp (Nat.not_lt_zero _)
  | P + 1, h, p, hp => by
    unfold wh at h
    have h := Bool.and_eq_true_iff.mp h
    by_cases e : p = P
    · rw [e]
      exact of_decide_eq_true h.2
    · exact wh_at P h.1 p (by omega)
theorem WY_N {c : CY} (h : okC c) (hw : whole c = true) : WY c.2.2.1 c.2.2.2.2.1 (τN c) := by
  obtain ⟨h1, h2, h3, h4, h5⟩ := h
  have hw := Bool.and_eq_true_iff.mp hw
  have hd := of_decide_eq_true hw.2
  have l0 := h3 0 (by omega)
  have l2 := h3 2 (by omega)
  refine ⟨h1, h2, fun _ => hd.1, fun e => by omega, ?_, ?_, fun p hp => ?_⟩
  · exact Nat.le_trans l0.2 (by decide)
  · exact Nat.le_trans l2.2 (by decide)
  · have a := wh_at _ hw.1 p hp
    have b0 := h5 p hp 0 (by omega)
    have b1 := h5 p hp 1 (by omega)
    have b2 := h5 p hp 2 (by omega)
    exact ⟨Nat.le_trans b0.2 (by decide), Nat.le_trans b1.2 (by decide), Nat.le_trans b2.2 (by decide), a.1, a.2.1, a.2.2, Nat.le_trans (by decide) b0.1⟩
theorem WS_N {c : CY} (h : okC c) : WS c.2.2.1 c.2.2.2.2.1 999 (σN c) := by
  obtain ⟨h1, h2, h3, h4, h5⟩ := h
  have l1 := h3 1 (by omega)
  refine ⟨fun q hq => ⟨Nat.le_trans (h4 q hq 0 (by omega)).2 (by decide), Nat.le_trans (h4 q hq 1 (by omega)).2 (by decide)⟩, fun p hp => ⟨Nat.le_trans (h5 p hp 2 (by omega)).2 (by decide), Nat.zero_le _, Nat.le_trans (h5 p hp 5 (by omega)).2 (by decide)⟩, Nat.zero_le _, Nat.le_trans l1.2 (by decide), Nat.zero_le _⟩
section FOUND
variable {n z : Nat} {D : Dyn} {m m' : MI} {j : MJ} {r : MR} {c : CY}
theorem cpy_mk {a b L k : Nat} (h1 : SHP D a = some (aT L)) (h2 : SHP D b = some (aT k)) (hk : k ≤ L) (h3 : k ≤ 1000) : aCpy (mkH n z D m j r) a 0 b 0 (Int32.ofNat k) = some (mkH n z D (cpR m b (m a) k) j r) := aCpy_mk h2 (aSrc_mk h1) hk (Nat.le_refl _) h3
def tw (m : MI) : MI := cpR (cpR (cpR (cpR (cpR (cpR (cpR (cpR (wI (wI (wI (wI (wI m 18 0 (m 4 0)) 18 1 (m 4 1)) 18 2 (m 4 2)) 18 3 (m 4 3)) 18 4 (m 4 4)) 19 (m 5) 5) 20 (m 6) 5) 21 (m 7) 6) 22 (m 8) 6) 23 (m 9) 6) 24 (m 10) 6) 25 (m 11) 6) 26 (m 12) 6
theorem C_twn : f_X10_copyFrom 18 4 (mkH n z D m j r) = some ((), mkH n z D (tw m) j r) := by
  have e5 : (5 : Int32) = Int32.ofNat 5 := rfl
  have e6 : (6 : Int32) = Int32.ofNat 6 := rfl
  have d1 : ∀ mm, aCpy (mkH n z D mm j r) 5 0 19 0 (Int32.ofNat 5) = some (mkH n z D (cpR mm 19 (mm 5) 5) j r) := fun mm => cpy_mk rfl rfl (Nat.le_refl _) (by omega)
  have d2 : ∀ mm, aCpy (mkH n z D mm j r) 6 0 20 0 (Int32.ofNat 5) = some (mkH n z D (cpR mm 20 (mm 6) 5) j r) := fun mm => cpy_mk rfl rfl (Nat.le_refl _) (by omega)
  have d3 : ∀ mm, aCpy (mkH n z D mm j r) 7 0 21 0 (Int32.ofNat 6) = some (mkH n z D (cpR mm 21 (mm 7) 6) j r) := fun mm => cpy_mk rfl rfl (Nat.le_refl _) (by omega)
  have d4 : ∀ mm, aCpy (mkH n z D mm j r) 8 0 22 0 (Int32.ofNat 6) = some (mkH n z D (cpR mm 22 (mm 8) 6) j r) := fun mm => cpy_mk rfl rfl (Nat.le_refl _) (by omega)
  have d5 : ∀ mm, aCpy (mkH n z D mm j r) 9 0 23 0 (Int32.ofNat 6) = some (mkH n z D (cpR mm 23 (mm 9) 6) j r) := fun mm => cpy_mk rfl rfl (Nat.le_refl _) (by omega)
  have d6 : ∀ mm, aCpy (mkH n z D mm j r) 10 0 24 0 (Int32.ofNat 6) = some (mkH n z D (cpR mm 24 (mm 10) 6) j r) := fun mm => cpy_mk rfl rfl (Nat.le_refl _) (by omega)
  have d7 : ∀ mm, aCpy (mkH n z D mm j r) 11 0 25 0 (Int32.ofNat 6) = some (mkH n z D (cpR mm 25 (mm 11) 6) j r) := fun mm => cpy_mk rfl rfl (Nat.le_refl _) (by omega)
  have d8 : ∀ mm, aCpy (mkH n z D mm j r) 12 0 26 0 (Int32.ofNat 6) = some (mkH n z D (cpR mm 26 (mm 12) 6) j r) := fun mm => cpy_mk rfl rfl (Nat.le_refl _) (by omega)
  unfold f_X10_copyFrom f_X10_copyFrom_0 tw
  simp (disch := omega) only [obs, cN_mk, ite_true, ite_false, if_true, if_false, q4, q18, e5, e6, d1, d2, d3, d4, d5, d6, d7, d8, wI_ne, cpR_n]
theorem tw_v : (∀ i, i < 5 → tw m 18 i = m 4 i) ∧ (∀ q, q < 5 → tw m 19 q = m 5 q ∧ tw m 20 q = m 6 q) ∧ (∀ q, q < 6 → tw m 21 q = m 7 q ∧ tw m 22 q = m 8 q ∧ tw m 23 q = m 9 q ∧ tw m 24 q = m 10 q ∧ tw m 25 q = m 11 q ∧ tw m 26 q = m 12 q) ∧ (∀ a, ¬ (18 ≤ a ∧ a ≤ 26) → tw m a = m a) := by
  refine ⟨fun i hi => ?_, fun q hq => ⟨?_, ?_⟩, fun q hq => ⟨?_, ?_, ?_, ?_, ?_, ?_⟩, fun a ha => ?_⟩
  · unfold tw
    simp (disch := omega) only [cpR_n]
    have : i = 0 ∨ i = 1 ∨ i = 2 ∨ i = 3 ∨ i = 4 := by omega
    rcases this with rfl | rfl | rfl | rfl | rfl <;> simp (disch := omega) only [wI_se, wI_sn]
  · unfold tw; simp (disch := omega) only [cpR_n, cpR_s, hq, if_true]
  · unfold tw; simp (disch := omega) only [cpR_n, cpR_s, hq, if_true]
  · unfold tw; simp (disch := omega) only [cpR_n, cpR_s, hq, if_true]
  · unfold tw; simp (disch := omega) only [cpR_n, cpR_s, hq, if_true]
  · unfold tw; simp (disch := omega) only [cpR_n, cpR_s, hq, if_true]
  · unfold tw; simp (disch := omega) only [cpR_n, cpR_s, hq, if_true]
  · unfold tw; simp (disch := omega) only [cpR_n, cpR_s, hq, if_true]
  · unfold tw; simp (disch := omega) only [cpR_n, cpR_s, hq, if_true]
  · unfold tw; simp (disch := omega) only [cpR_n, wI_ne]
def bg (m : MI) : MI := cpR (cpR (cpR (cpR m 28 (m 19) 5) 29 (m 20) 5) 30 (m 23) 6) 32 (m 26) 6
theorem C_bgn : ∃ m', f_X8_begin 27 18 (mkH n z D m j r) = some ((), mkH n z D m' j r) ∧ (∀ q, q < 5 → m' 28 q = m 19 q ∧ m' 29 q = m 20 q) ∧ (∀ q, q < 6 → m' 30 q = m 23 q ∧ m' 31 q = Int32.ofNat 0 ∧ m' 32 q = m 26 q) ∧ m' 27 5 = no1 ∧ m' 27 6 = m 18 3 ∧ m' 27 7 = Int32.ofNat 0 ∧ (∀ a, ¬ (27 ≤ a ∧ a ≤ 32) → m' a = m a) := by
  have e5 : (5 : Int32) = Int32.ofNat 5 := rfl
  have e6 : (6 : Int32) = Int32.ofNat 6 := rfl
  have em1 : (-1 : Int32) = no1 := rfl
  have d1 : ∀ mm, aCpy (mkH n z D mm j r) 19 0 28 0 (Int32.ofNat 5) = some (mkH n z D (cpR mm 28 (mm 19) 5) j r) := fun mm => cpy_mk rfl rfl (Nat.le_refl _) (by omega)
  have d2 : ∀ mm, aCpy (mkH n z D mm j r) 20 0 29 0 (Int32.ofNat 5) = some (mkH n z D (cpR mm 29 (mm 20) 5) j r) := fun mm => cpy_mk rfl rfl (Nat.le_refl _) (by omega)
  have d3 : ∀ mm, aCpy (mkH n z D mm j r) 23 0 30 0 (Int32.ofNat 6) = some (mkH n z D (cpR mm 30 (mm 23) 6) j r) := fun mm => cpy_mk rfl rfl (Nat.le_refl _) (by omega)
  have d4 : ∀ mm, aCpy (mkH n z D mm j r) 26 0 32 0 (Int32.ofNat 6) = some (mkH n z D (cpR mm 32 (mm 26) 6) j r) := fun mm => cpy_mk rfl rfl (Nat.le_refl _) (by omega)
  generalize hb : bg m = mb
  have hmb : cpR (cpR (cpR (cpR m 28 (m 19) 5) 29 (m 20) 5) 30 (m 23) 6) 32 (m 26) 6 = mb := hb
  obtain ⟨m1, ef, f1, f2⟩ := J_fill (n := n) (z := z) (D := D) (m := mb) (j := j) (r := r) (a := 31) (N := 6) (x := 0) rfl (by omega)
  have fb : ∀ a, a ≠ 28 → a ≠ 29 → a ≠ 30 → a ≠ 32 → mb a = m a := fun a h1 h2 h3 h4 => by rw [← hmb, cpR_n h4, cpR_n h3, cpR_n h2, cpR_n h1]
  refine ⟨wI (wI (wI m1 27 5 no1) 27 6 (m1 18 3)) 27 7 (Int32.ofNat 0), ?_, fun q hq => ⟨?_, ?_⟩, fun q hq => ⟨?_, ?_, ?_⟩, ?_, ?_, ?_, fun a ha => ?_⟩
  · unfold f_X8_begin f_X8_begin_0
    simp (disch := omega) only [obs, cN_mk, ite_true, ite_false, if_true, if_false, q18, q27, e5, e6, d1, d2, d3, d4, cpR_n, hmb]
    rw [ef, cN_mk]
    simp (disch := omega) only [obs, cN_mk, ite_true, ite_false, if_true, if_false, q18, q27, em1, wI_ne]
    rfl
  · rw [wI_ne (by omega), wI_ne (by omega), wI_ne (by omega), f1 28 (by omega), ← hmb]; simp (disch := omega) only [cpR_n, cpR_s, hq, if_true]
  · rw [wI_ne (by omega), wI_ne (by omega), wI_ne (by omega), f1 29 (by omega), ← hmb]; simp (disch := omega) only [cpR_n, cpR_s, hq, if_true]
  · rw [wI_ne (by omega), wI_ne (by omega), wI_ne (by omega), f1 30 (by omega), ← hmb]; simp (disch := omega) only [cpR_n, cpR_s, hq, if_true]
  · rw [wI_ne (by omega), wI_ne (by omega), wI_ne (by omega), f2 q, if_pos hq]; rfl
  · rw [wI_ne (by omega), wI_ne (by omega), wI_ne (by omega), f1 32 (by omega), ← hmb]; simp (disch := omega) only [cpR_n, cpR_s, hq, if_true]
  · simp (disch := omega) only [wI_se, wI_sn]
  · simp (disch := omega) only [wI_se, wI_sn]
    rw [f1 18 (by omega), fb 18 (by omega) (by omega) (by omega) (by omega)]
  · simp (disch := omega) only [wI_se]
  · rw [wI_ne (by omega), wI_ne (by omega), wI_ne (by omega), f1 a (by omega), fb a (by omega) (by omega) (by omega) (by omega)]
theorem C_found (hC : CCY m c) (h5 : c.2.2.1 ≤ 5) (h6 : c.2.2.2.2.1 ≤ 6) : ∃ m', f_X11_foundCity 0 (mkH n z D m j r) = some (Int32.ofNat c.2.2.2.2.1, mkH n z D m' j r) ∧ YC m' c.2.2.1 c.2.2.2.2.1 (τN c) ∧ CS m' 27 (σN c) c.2.2.1 c.2.2.2.2.1 ∧ m' 39 2 = Int32.ofNat 0 ∧ m' 39 6 = bI false ∧ m' 55 6 = Int32.ofNat 0 ∧ m' 1 1 = Int32.ofNat 0 ∧ (∀ a, a ≠ 1 → ¬ (18 ≤ a ∧ a ≤ 32) → a ≠ 39 → a ≠ 55 → m' a = m a) ∧ m' 39 1 = m 39 1 := by
  obtain ⟨c1, c2, c3, c4, c5, -, c7, c8⟩ := hC
  obtain ⟨t1, t2, t3, t4⟩ := tw_v (m := m)
  obtain ⟨m1, eb, b1, b2, b3, b4, b5, b6⟩ := C_bgn (n := n) (z := z) (D := D) (m := tw m) (j := j) (r := r)
  have g18 : ∀ a, 18 ≤ a → a ≤ 26 → m1 a = tw m a := fun a h1 h2 => b6 a (by omega)
  have fr : ∀ (mm : MI) x1 x2 x3 x4 a, a ≠ 1 → a ≠ 39 → a ≠ 55 → wI (wI (wI (wI mm 39 2 x1) 39 6 x2) 55 6 x3) 1 1 x4 a = mm a := fun mm x1 x2 x3 x4 a h1 h2 h3 => by rw [wI_ne h1, wI_ne h3, wI_ne h2, wI_ne h2]
  refine ⟨wI (wI (wI (wI m1 39 2 (Int32.ofNat 0)) 39 6 (bI false)) 55 6 (Int32.ofNat 0)) 1 1 (Int32.ofNat 0), ?_, ⟨?_, ?_, ?_, ?_, fun p hp => ?_⟩, ⟨fun q hq => ?_, fun p hp => ?_, ?_, ?_, ?_⟩, ?_, ?_, ?_, ?_, fun a h1 h2 h3 h4 => ?_, ?_⟩
  · unfold f_X11_foundCity f_X11_foundCity_0
    rw [q0.2.2.2.2.2.1, obs, q0.2.2.1, obs]
    simp (disch := omega) only [obs, cN_mk, ite_true, ite_false, if_true, if_false, q3, q18]
    rw [C_twn, cN_mk]
    simp (disch := omega) only [obs, cN_mk, ite_true, ite_false, if_true, if_false, q0, q27]
    rw [eb, cN_mk]
    simp (disch := omega) only [obs, cN_mk, ite_true, ite_false, if_true, if_false, q0, q39, q55, q1, q18, f_X1_clear, f_X1_clear_0, f_X7_clear, f_X7_clear_0, wI_ne, g18, t1, c2]
    rfl
  · rw [fr _ _ _ _ _ 18 (by omega) (by omega) (by omega), g18 18 (by omega) (by omega), t1 0 (by omega)]; exact c1
  · rw [fr _ _ _ _ _ 18 (by omega) (by omega) (by omega), g18 18 (by omega) (by omega), t1 1 (by omega)]; exact c2
  · rw [fr _ _ _ _ _ 18 (by omega) (by omega) (by omega), g18 18 (by omega) (by omega), t1 2 (by omega)]; exact c3
  · rw [fr _ _ _ _ _ 18 (by omega) (by omega) (by omega), g18 18 (by omega) (by omega), t1 4 (by omega)]; exact c5
  · have hp6 : p < 6 := by omega
    have a := t3 p hp6
    have b := c8 p hp
    rw [fr _ _ _ _ _ 21 (by omega) (by omega) (by omega), fr _ _ _ _ _ 22 (by omega) (by omega) (by omega), fr _ _ _ _ _ 23 (by omega) (by omega) (by omega), fr _ _ _ _ _ 24 (by omega) (by omega) (by omega), fr _ _ _ _ _ 25 (by omega) (by omega) (by omega), g18 21 (by omega) (by omega), g18 22 (by omega) (by omega), g18 23 (by omega) (by omega), g18 24 (by omega) (by omega), g18 25 (by omega) (by omega), a.1, a.2.1, a.2.2.1, a.2.2.2.1, a.2.2.2.2.1]
    exact ⟨b.1, b.2.1, b.2.2.1, b.2.2.2.1, b.2.2.2.2.1⟩
  · have h := b1 q (by omega)
    have a := t2 q (by omega)
    have b := c7 q hq
    rw [fr _ _ _ _ _ (27 + 1) (by omega) (by omega) (by omega), fr _ _ _ _ _ (27 + 2) (by omega) (by omega) (by omega)]
    exact ⟨(h.1.trans a.1).trans b.1, (h.2.trans a.2).trans b.2⟩
  · have h := b2 p (by omega)
    have a := t3 p (by omega)
    have b := c8 p hp
    rw [fr _ _ _ _ _ (27 + 3) (by omega) (by omega) (by omega), fr _ _ _ _ _ (27 + 4) (by omega) (by omega) (by omega), fr _ _ _ _ _ (27 + 5) (by omega) (by omega) (by omega)]
    exact ⟨(h.1.trans a.2.2.1).trans b.2.2.1, h.2.1, (h.2.2.trans a.2.2.2.2.2).trans b.2.2.2.2.2⟩
  · rw [fr _ _ _ _ _ 27 (by omega) (by omega) (by omega), b3]; rfl
  · rw [fr _ _ _ _ _ 27 (by omega) (by omega) (by omega), b4, t1 3 (by omega), c4]; rfl
  · rw [fr _ _ _ _ _ 27 (by omega) (by omega) (by omega), b5]; rfl
  · simp (disch := omega) only [wI_ne, wI_sn, wI_se]
  · simp (disch := omega) only [wI_ne, wI_sn, wI_se]
  · simp (disch := omega) only [wI_ne, wI_sn, wI_se]
  · simp (disch := omega) only [wI_ne, wI_sn, wI_se]
  · rw [fr _ _ _ _ _ a h1 h3 h4, b6 a (by omega), t4 a (by omega)]
  · simp (disch := omega) only [wI_ne, wI_sn]
    rw [b6 39 (by omega), t4 39 (by omega)]
end FOUND
