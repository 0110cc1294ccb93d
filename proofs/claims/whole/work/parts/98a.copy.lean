/-! States are copied. -/
section CPY
variable {n z : Nat} {D : Dyn} {m : MI} {j : MJ} {r : MR} {C P : Nat} {σ : Sg}
theorem C_copyFrom {s s' : Nat} (hs : isSt D s) (hs' : isSt D s') (hd : s + 5 < s' ∨ s' + 5 < s) (hC : C ≤ 5) (hP : P ≤ 6) (hM : CS m s' σ C P) : ∃ m', f_X8_copyFrom s s' (mkH n z D m j r) = some ((), mkH n z D m' j r) ∧ CS m' s σ C P ∧ (∀ a, ¬ (s ≤ a ∧ a ≤ s + 5) → m' a = m a) := by
  have e5 : (5 : Int32) = Int32.ofNat 5 := rfl
  have e6 : (6 : Int32) = Int32.ofNat 6 := rfl
  have cp : ∀ (mm : MI) (k L : Nat), SHP D (s + k) = some (aT L) → SHP D (s' + k) = some (aT L) → L ≤ 6 → aCpy (mkH n z D mm j r) (s' + k) 0 (s + k) 0 (Int32.ofNat L) = some (mkH n z D (cpR mm (s + k) (mm (s' + k)) L) j r) := fun mm k L h1 h2 hL => aCpy_mk h1 (aSrc_mk h2) (Nat.le_refl _) (Nat.le_refl _) (by omega)
  generalize hm1 : cpR m (s + 1) (m (s' + 1)) 5 = m1
  generalize hm2 : cpR m1 (s + 2) (m1 (s' + 2)) 5 = m2
  generalize hm3 : cpR m2 (s + 3) (m2 (s' + 3)) 6 = m3
  generalize hm4 : cpR m3 (s + 4) (m3 (s' + 4)) 6 = m4
  generalize hm5 : cpR m4 (s + 5) (m4 (s' + 5)) 6 = m5
  generalize hm8 : wI (wI (wI m5 s 5 (m5 s' 5)) s 6 (m5 s' 6)) s 7 (m5 s' 7) = m8
  have f1 : ∀ a, a ≠ s + 1 → m1 a = m a := fun a h => by rw [← hm1, cpR_n h]
  have f2 : ∀ a, a ≠ s + 2 → m2 a = m1 a := fun a h => by rw [← hm2, cpR_n h]
  have f3 : ∀ a, a ≠ s + 3 → m3 a = m2 a := fun a h => by rw [← hm3, cpR_n h]
  have f4 : ∀ a, a ≠ s + 4 → m4 a = m3 a := fun a h => by rw [← hm4, cpR_n h]
  have f5 : ∀ a, a ≠ s + 5 → m5 a = m4 a := fun a h => by rw [← hm5, cpR_n h]
  have f8 : ∀ a, a ≠ s → m8 a = m5 a := fun a h => by rw [← hm8, wI_ne h, wI_ne h, wI_ne h]
  obtain ⟨a1, a2, a5, a6, a7⟩ := hM
  have fs' : m5 s' = m s' := by rw [f5 s' (by omega), f4 s' (by omega), f3 s' (by omega), f2 s' (by omega), f1 s' (by omega)]
  refine ⟨m8, ?_, ⟨fun c hc => ⟨?_, ?_⟩, fun p hp => ⟨?_, ?_, ?_⟩, ?_, ?_, ?_⟩, fun a ha => ?_⟩
  · unfold f_X8_copyFrom f_X8_copyFrom_0
    simp only [obs, cN_mk, ite_true, ite_false, if_true, if_false, stg hs, stg hs', e5, e6, cp _ 1 5 hs.2.1 hs'.2.1 (by omega), cp _ 2 5 hs.2.2.1 hs'.2.2.1 (by omega), cp _ 3 6 hs.2.2.2.1 hs'.2.2.2.1 (by omega), cp _ 4 6 hs.2.2.2.2.1 hs'.2.2.2.2.1 (by omega), cp _ 5 6 hs.2.2.2.2.2 hs'.2.2.2.2.2 (by omega), hm1, hm2, hm3, hm4, hm5]
    have n1 : ∀ (mm : MI) i v, wI mm s i v s' = mm s' := fun mm i v => wI_ne (by omega)
    simp only [n1, hm8]
  · rw [f8 _ (by omega), f5 _ (by omega), f4 _ (by omega), f3 _ (by omega), f2 _ (by omega), ← hm1, cpR_s, if_pos (by omega)]; exact (a1 c hc).1
  · rw [f8 _ (by omega), f5 _ (by omega), f4 _ (by omega), f3 _ (by omega), ← hm2, cpR_s, if_pos (by omega), f1 _ (by omega)]; exact (a1 c hc).2
  · rw [f8 _ (by omega), f5 _ (by omega), f4 _ (by omega), ← hm3, cpR_s, if_pos (by omega), f2 _ (by omega), f1 _ (by omega)]; exact (a2 p hp).1
  · rw [f8 _ (by omega), f5 _ (by omega), ← hm4, cpR_s, if_pos (by omega), f3 _ (by omega), f2 _ (by omega), f1 _ (by omega)]; exact (a2 p hp).2.1
  · rw [f8 _ (by omega), ← hm5, cpR_s, if_pos (by omega), f4 _ (by omega), f3 _ (by omega), f2 _ (by omega), f1 _ (by omega)]; exact (a2 p hp).2.2
  · rw [← hm8, wI_sn (by omega), wI_sn (by omega), wI_se, fs']; exact a5
  · rw [← hm8, wI_sn (by omega), wI_se, fs']; exact a6
  · rw [← hm8, wI_se, fs']; exact a7
  · rw [f8 _ (by omega), f5 _ (by omega), f4 _ (by omega), f3 _ (by omega), f2 _ (by omega), f1 _ (by omega)]
theorem M_copy (hC : C ≤ 5) (hP : P ≤ 6) (hM : MS (m 85) σ C P) : ∃ m', f_X12_copy 85 86 (mkH n z D m j r) = some ((), mkH n z D m' j r) ∧ MS (m' 86) σ C P ∧ m' 86 31 = Int32.ofNat 0 ∧ (∀ a, a ≠ 86 → m' a = m a) := by
  have lp : ∀ (rem k fuel : Nat) (m : MI), k + rem = 31 → rem < fuel → ∃ m', f_X12_copy_2 fuel 85 86 (Int32.ofNat k) (mkH n z D m j r) = some ((), mkH n z D m' j r) ∧ (∀ q, q < k → m' 86 q = m 86 q) ∧ (∀ q, k ≤ q → q < 31 → m' 86 q = m 85 q) ∧ m' 86 31 = Int32.ofNat 0 ∧ (∀ a, a ≠ 86 → m' a = m a) := by
    intro rem
    induction rem with
    | zero =>
      intro k fuel m hk hf
      obtain ⟨f, rfl⟩ : ∃ f, fuel = f + 1 := ⟨fuel - 1, by omega⟩
      refine ⟨wI m 86 31 (Int32.ofNat 0), ?_, fun q hq => wI_sn (by omega), fun q h1 h2 => by omega, wI_se, fun a ha => wI_ne ha⟩
      rw [f_X12_copy_2.eq_2, if_pos (show (31 : Int32) ≤ Int32.ofNat k by rw [l31, i_le (by omega) (by omega)]; omega), l31, l0, p86.2 31 _ (by omega), obs]
    | succ rem ih =>
      intro k fuel m hk hf
      obtain ⟨f, rfl⟩ : ∃ f, fuel = f + 1 := ⟨fuel - 1, by omega⟩
      obtain ⟨m', e, h1, h2, h3, h4⟩ := ih (k + 1) f (wI m 86 k (m 85 k)) (by omega) (by omega)
      refine ⟨m', ?_, fun q hq => by rw [h1 q (by omega), wI_sn (by omega)], fun q hq1 hq2 => ?_, h3, fun a ha => by rw [h4 a ha, wI_ne ha]⟩
      · rw [f_X12_copy_2.eq_2, if_neg (show ¬ (31 : Int32) ≤ Int32.ofNat k by rw [l31, i_le (by omega) (by omega)]; omega), p85.1 k (by omega), obs, p86.2 k _ (by omega), obs, l1, i_add, e]
      · by_cases hqk : q = k
        · subst hqk; rw [h1 q (by omega), wI_se]
        · rw [h2 q (by omega) hq2, wI_ne (by omega)]
  obtain ⟨m', e, _, h2, h3, h4⟩ := lp 31 0 fu m (by omega) (by unfold fu; omega)
  obtain ⟨a1, a2, a5, a6, a7⟩ := hM
  refine ⟨m', ?_, ⟨fun c hc => ⟨?_, ?_⟩, fun p hp => ⟨?_, ?_, ?_⟩, ?_, ?_, ?_⟩, h3, h4⟩
  · unfold f_X12_copy f_X12_copy_0
    rw [l0]
    exact e
  · rw [h2 _ (by omega) (by omega)]; exact (a1 c hc).1
  · rw [h2 _ (by omega) (by omega)]; exact (a1 c hc).2
  · rw [h2 _ (by omega) (by omega)]; exact (a2 p hp).1
  · rw [h2 _ (by omega) (by omega)]; exact (a2 p hp).2.1
  · rw [h2 _ (by omega) (by omega)]; exact (a2 p hp).2.2
  · rw [h2 _ (by omega) (by omega)]; exact a5
  · rw [h2 _ (by omega) (by omega)]; exact a6
  · rw [h2 _ (by omega) (by omega)]; exact a7
/-- the day leaves what is well-formed well-formed -/
theorem WS_nxt {pl : Pl} {τ : Sg} {d : Nat} (hW : WY C P τ) (hS : WS C P d σ) : WS C P (d + 1) (nxt (ax pl C τ σ) P σ) := by
  obtain ⟨s1, s2, s5, s6, s7⟩ := hS
  refine ⟨fun c hc => ⟨?_, ?_⟩, fun p hp => ⟨?_, ?_, ?_⟩, ?_, ?_, ?_⟩
  · show nxt _ P σ 0 c ≤ 3
    simp only [nxt, wry, cur]
    exact (s1 c hc).1
  · have := (s1 c hc).2
    simp only [nxt, wry, cur]
    simp only [show ¬ (1 = 7) by omega, show ¬ (1 = 2) by omega, if_false, if_true]
    split <;> omega
  · have := (s2 p hp).1
    simp only [nxt, wry, cur]
    simp only [show ¬ (2 = 7) by omega, show ¬ (2 = 1) by omega, show ¬ (2 = 3) by omega, show ¬ (2 = 6) by omega, if_false, if_true]
    split <;> omega
  · have := (s2 p hp).2.1
    simp only [nxt, wry, cur]
    simp only [show ¬ (3 = 7) by omega, show ¬ (3 = 2) by omega, show ¬ (3 = 1) by omega, if_false, if_true]
    split <;> omega
  · show nxt _ P σ 4 p ≤ 1
    simp only [nxt, wry, cur]
    exact (s2 p hp).2.2
  · show nxt _ P σ 5 0 ≤ C
    simp only [nxt, wry, cur]
    exact s5
  · show nxt _ P σ 6 0 ≤ 999
    simp only [nxt, wry, cur]
    exact cns_le _ s6 P
  · show nxt _ P σ 7 0 ≤ d + 1
    simp only [nxt]
    simp
    omega
end CPY
