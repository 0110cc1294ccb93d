/-! The law that holds, the model's side. -/
section LAWM
variable {n z : Nat} {D : Dyn} {m : MI} {j : MJ} {r : MR} {A held : Nat} {tx : Nat → Nat → Nat} {ln : Nat → Nat} {cls : CLS}
theorem kN_inj {l mt g w s t d l' mt' g' w' s' t' d' : Nat} (h1 : mt ≤ 1) (h2 : g ≤ 9) (h3 : w ≤ 9) (h4 : s ≤ 9) (h5 : t ≤ 99) (h6 : d ≤ 1999) (h1' : mt' ≤ 1) (h2' : g' ≤ 9) (h3' : w' ≤ 9) (h4' : s' ≤ 9) (h5' : t' ≤ 99) (h6' : d' ≤ 1999) (h : kN l mt g w s t d = kN l' mt' g' w' s' t' d') : l = l' ∧ mt = mt' ∧ g = g' ∧ w = w' ∧ s = s' ∧ t = t' ∧ d = d' := by
  unfold kN at h
  omega
theorem kN_b {l mt g w s t d : Nat} (h0 : l < 4) (h1 : mt ≤ 1) (h2 : g ≤ 9) (h3 : w ≤ 9) (h4 : s ≤ 9) (h5 : t ≤ 99) (h6 : d ≤ 1999) : kN l mt g w s t d < 2147483648 ∧ 0 < kN l mt g w s t d := by
  unfold kN
  omega
theorem wJ_se {j : MJ} {a i : Nat} {x : Int64} : wJ j a i x a i = x := by simp [wJ, vp_updL]
theorem wJ_sn {j : MJ} {a i k : Nat} {x : Int64} (h : k ≠ i) : wJ j a i x a k = j a k := by simp [wJ, vp_updL, h]
theorem wJ_ne {j : MJ} {a i b : Nat} {x : Int64} (h : b ≠ a) : wJ j a i x b = j b := by simp [wJ, h]
theorem M_worthOf (hD : ∀ a, 1000000 ≤ a → D a = none) (hW : WL A held tx ln cls) (hl : LMd A held tx ln cls m j) (hh : held ≠ 0) {mt g w s t d : Nat} (h1 : mt ≤ 1) (h2 : g ≤ 9) (h3 : w ≤ 9) (h4 : s ≤ 9) (h5 : t ≤ 99) (h6 : d ≤ 1999) : ∃ m' j' r', f_X12_worthOf 72 (Int32.ofNat mt) (Int32.ofNat g) (Int32.ofNat w) (Int32.ofNat s) (Int32.ofNat t) (Int32.ofNat d) (mkH n z D m j r) = some (Int32.ofInt (vl (Lf mt g w s t d) (cls (held - 1))), mkH n z D m' j' r') ∧ LMd A held tx ln cls m' j' ∧ FPm m m' j j' r r' := by
  obtain ⟨q1', q2', q3', q4', q5'⟩ := hl
  have hA4 := hW.1
  have hhA := hW.2.1
  generalize hlv : held - 1 = l at *
  have hlA : l < A := by omega
  have e34 : m 72 34 = Int32.ofNat l := by
    rw [q2', show held = l + 1 by omega, pr_s]
  have hk := kN_b (l := l) (by omega) h1 h2 h3 h4 h5 h6
  have i10 : (10 : Int64) = Int64.ofNat 10 := rfl
  have i100 : (100 : Int64) = Int64.ofNat 100 := rfl
  have i2000 : (2000 : Int64) = Int64.ofNat 2000 := rfl
  have i8191 : (8191 : Int64) = Int64.ofNat 8191 := rfl
  have i2 : (2 : Int64) = Int64.ofNat 2 := rfl
  have key : ∀ x : Int32, x = Int32.ofNat mt → (2000 * ((100 * ((10 * ((10 * ((10 * ((2 + (2 * Int32.ofNat l).toInt64) + x.toInt64)) + (Int32.ofNat g).toInt64)) + (Int32.ofNat w).toInt64)) + (Int32.ofNat s).toInt64)) + (Int32.ofNat t).toInt64)) + (Int32.ofNat d).toInt64 = Int64.ofNat (kN l mt g w s t d) := by
    intro x hx
    rw [hx, l2, i_mul, k_of (by omega), k_of (by omega), k_of (by omega), k_of (by omega), k_of (by omega), k_of (by omega), k_of (by omega), i10, i100, i2000, i2]
    simp only [k_add, k_mul]
    rfl
  have g34 : gI [12] (mkH n z D m j r) 72 34 = some (Int32.ofNat l) := by rw [gI_mk rfl (by decide) rfl, e34]
  have w20 : ∀ x : Int32, x = Int32.ofNat mt → ∃ m' j' r', f_X12_worthOf_20 72 (Int32.ofNat mt) (Int32.ofNat g) (Int32.ofNat w) (Int32.ofNat s) (Int32.ofNat t) (Int32.ofNat d) (2 + (2 * Int32.ofNat l).toInt64) x (mkH n z D m j r) = some (Int32.ofInt (vl (Lf mt g w s t d) (cls l)), mkH n z D m' j' r') ∧ LMd A held tx ln cls m' j' ∧ FPm m m' j j' r r' := by
    intro x hx
    have gr36 : ∀ mm jj rr, gR [12] (mkH n z D mm jj rr) 72 36 = some 87 := fun _ _ _ => gR_mk rfl (by decide) rfl
    have gr37 : ∀ mm jj rr, gR [12] (mkH n z D mm jj rr) 72 37 = some 88 := fun _ _ _ => gR_mk rfl (by decide) rfl
    have gr4 : ∀ mm jj rr, gR [12] (mkH n z D mm jj rr) 72 4 = some 76 := fun _ _ _ => gR_mk rfl (by decide) rfl
    have gr2 : ∀ mm jj rr, gR [12] (mkH n z D mm jj rr) 72 2 = some 74 := fun _ _ _ => gR_mk rfl (by decide) rfl
    have gr3 : ∀ mm jj rr, gR [12] (mkH n z D mm jj rr) 72 3 = some 75 := fun _ _ _ => gR_mk rfl (by decide) rfl
    unfold f_X12_worthOf_20
    rw [key x hx, i8191, k_mod (by omega) (by omega), k_32 (by have := Nat.mod_lt (kN l mt g w s t d) (show 0 < 8191 by omega); omega), gr36, obs]
    generalize hK : kN l mt g w s t d = K at *
    generalize hsp : K % 8191 = sp
    have hspl : sp < 8191 := by rw [← hsp]; exact Nat.mod_lt _ (by omega)
    rw [p87.1 sp hspl, obs]
    have hcmp : (lg_cmp (j 87 sp) (Int64.ofNat K) = 0) ↔ j 87 sp = Int64.ofNat K := by
      rw [lg_lt.2.2]
      exact ⟨fun h => Int64.toInt_inj.mp h, fun h => by rw [h]⟩
    by_cases hj : j 87 sp = Int64.ofNat K
    · rw [if_pos (hcmp.mpr hj), gr37, obs, p88.1 sp hspl, obs]
      refine ⟨m, j, r, ?_, ⟨q1', q2', q3', q4', q5'⟩, fun _ _ _ _ => rfl, fun _ _ => rfl, fun _ _ => rfl, fun _ _ => rfl⟩
      rcases q5' sp hspl with h0 | ⟨l2, mt2, g2, w2, s2, t2, d2, a0, a1, a2, a3, a4, a5, a6, a7, a8⟩
      · rw [hj] at h0
        have : Int64.ofNat K = Int64.ofNat 0 := h0
        rw [k_inj (by omega) (by omega)] at this
        omega
      · have hkk := kN_b (l := l2) (by omega) a1 a2 a3 a4 a5 a6
        rw [hj, k_inj (by omega) (by omega), ← hK] at a7
        obtain ⟨rfl, rfl, rfl, rfl, rfl, rfl, rfl⟩ := kN_inj h1 h2 h3 h4 h5 h6 a1 a2 a3 a4 a5 a6 a7
        rw [a8]
    · rw [if_neg (fun e => hj (hcmp.mp e)), gr4, obs]
      have w127 : ∃ m' j' r', f_X12_worthOf_127 72 (Int32.ofNat g) (Int32.ofNat w) (Int32.ofNat s) (Int32.ofNat t) (Int32.ofNat d) (Int64.ofNat K) (Int32.ofNat sp) 76 109 (Int32.ofNat mt) (mkH n z D m j r) = some (Int32.ofInt (vl (Lf mt g w s t d) (cls l)), mkH n z D m' j' r') ∧ LMd A held tx ln cls m' j' ∧ FPm m m' j j' r r' := by
        generalize hm2 : wI (wI (wI (wI (wI (wI m 76 109 (Int32.ofNat mt)) 76 103 (Int32.ofNat g)) 76 119 (Int32.ofNat w)) 76 115 (Int32.ofNat s)) 76 110 (Int32.ofNat t)) 76 100 (Int32.ofNat d) = m2
        have fr2 : ∀ a, a ≠ 76 → m2 a = m a := fun a ha => by rw [← hm2, wI_ne ha, wI_ne ha, wI_ne ha, wI_ne ha, wI_ne ha, wI_ne ha]
        have hLT : LT m2 (Lf mt g w s t d) := by
          refine ⟨fun k _ => Lf_b h1 h2 h3 h4 h5 h6, ?_, ?_, ?_, ?_, ?_, ?_⟩
          · rw [← hm2]; simp (disch := omega) only [wI_sn, wI_se]; rw [← oi_nat]; rfl
          · rw [← hm2]; simp (disch := omega) only [wI_sn, wI_se]; rw [← oi_nat]; rfl
          · rw [← hm2]; simp (disch := omega) only [wI_sn, wI_se]; rw [← oi_nat]; rfl
          · rw [← hm2]; simp (disch := omega) only [wI_sn, wI_se]; rw [← oi_nat]; rfl
          · rw [← hm2]; simp (disch := omega) only [wI_sn, wI_se]; rw [← oi_nat]; rfl
          · rw [← hm2]; simp (disch := omega) only [wI_sn, wI_se]; rw [← oi_nat]; rfl
        have hwl := hW.2.2 l hlA
        obtain ⟨m3, e3, f3, f3', hgo⟩ := M_go (n := n) (z := z) (D := D) (m := m2) (j := j) (r := r) (a := 74) (b := 240 * l) (t := tx l) (N := ln l) hD hLT hwl.1 (Or.inr ⟨rfl, by omega⟩) (fun q hq => ⟨by rw [fr2 74 (by omega)]; exact (q3' l hlA).2 q hq, hwl.2.1 q hq⟩)
        rw [hwl.2.2] at hgo
        obtain ⟨hgo1, hgo2⟩ := hgo
        have u : ∀ (mm : MI) (k : Nat) (x : Int32), k < 128 → uI 0 (mkH n z D mm j r) 76 (Int32.ofNat k) x = some (mkH n z D (wI mm 76 k x) j r) := fun mm k x hk => p76.2 k x hk
        have g34' : gI [12] (mkH n z D m2 j r) 72 34 = some (Int32.ofNat l) := by rw [gI_mk rfl (by decide) rfl, fr2 72 (by omega), e34]
        have a75 : aI 0 (mkH n z D m2 j r) 75 (Int32.ofNat l) = some (Int32.ofNat (ln l)) := by rw [p75.1 l (by omega), fr2 75 (by omega), (q3' l hlA).1]
        have g14 : ∀ mm jj rr, gI [12] (mkH n z D mm jj rr) 72 14 = some (mm 72 14) := fun _ _ _ => gI_mk rfl (by decide) rfl
        have e240 : (240 : Int32) * Int32.ofNat l = Int32.ofNat (240 * l) := by rw [l240, i_mul]
        refine ⟨wI m3 88 sp (m3 72 14), wJ j 87 sp (Int64.ofNat K), wR r 72 5 (some 74), ?_, ?_, ?_, ?_, ?_, ?_⟩
        · unfold f_X12_worthOf_127
          rw [l109, u _ 109 _ (by omega), obs, gr4, obs, l103, u _ 103 _ (by omega), obs, gr4, obs, l119, u _ 119 _ (by omega), obs, gr4, obs, l115, u _ 115 _ (by omega), obs, gr4, obs, l110, u _ 110 _ (by omega), obs, gr4, obs, l100, u _ 100 _ (by omega), obs, hm2, gr2, obs, g34', obs, gr3, obs, obs, a75, obs, q72_c, obs, e240, e3, cN_mk, gr36, obs, p87.2 sp _ hspl, obs, gr37, obs, g14, obs, p88.2 sp _ hspl, obs, g14, obs, wI_ne (by omega), hgo2]
        · refine ⟨?_, ?_, fun l' hl' => ?_, ?_, fun p hp => ?_⟩
          · rw [wI_ne (by omega), f3' 7 (by omega), fr2 72 (by omega)]; exact q1'
          · rw [wI_ne (by omega), f3' 34 (by omega), fr2 72 (by omega)]; exact q2'
          · rw [wI_ne (by omega), wI_ne (by omega), f3 75 (by omega), f3 74 (by omega), fr2 75 (by omega), fr2 74 (by omega)]; exact q3' l' hl'
          · refine ⟨Lf mt g w s t d, ?_⟩
            unfold LT
            rw [wI_ne (by omega), f3 76 (by omega)]
            exact hLT
          · by_cases hpp : p = sp
            · subst hpp
              right
              refine ⟨l, mt, g, w, s, t, d, hlA, h1, h2, h3, h4, h5, h6, ?_, ?_⟩
              · rw [wJ_se, hK]
              · rw [wI_se, hgo2]
            · rw [wJ_sn hpp, wI_sn hpp, f3 88 (by omega), fr2 88 (by omega)]
              exact q5' p hp
        · intro a h72 h76 h88
          rw [wI_ne h88, f3 a h72, fr2 a h76]
        · intro i hi
          rw [wI_ne (by omega), f3' i hi, fr2 72 (by omega)]
        · intro a ha
          rw [wJ_ne ha]
        · intro a ha
          simp [wR, ha]
      have hmt : mt = 0 ∨ mt = 1 := by omega
      rcases hmt with rfl | rfl
      · rw [if_pos (show Int32.ofNat 0 = 0 from rfl)]
        exact w127
      · rw [if_neg (show ¬ Int32.ofNat 1 = 0 by decide)]
        exact w127
  unfold f_X12_worthOf f_X12_worthOf_0
  rw [g34, obs]
  have hmt : mt = 0 ∨ mt = 1 := by omega
  rcases hmt with rfl | rfl
  · rw [if_pos (show Int32.ofNat 0 = 0 from rfl)]
    exact w20 0 rfl
  · rw [if_neg (show ¬ Int32.ofNat 1 = 0 by decide)]
    exact w20 1 rfl
theorem LMok_d (hD : ∀ a, 1000000 ≤ a → D a = none) (hW : WL A held tx ln cls) : LMok n z D (plw held cls) (LMd A held tx ln cls) := by
  refine ⟨?_, ?_, fun _ _ _ _ _ _ => pl_40⟩
  · intro m j r mt g w s t d hl h1 h2 h3 h4 h5 h6
    have e34 : gI [12] (mkH n z D m j r) 72 34 = some (pr held) := by rw [gI_mk rfl (by decide) rfl, hl.2.1]
    have hA4 := hW.1
    have hhA := hW.2.1
    unfold f_X12_pullBy f_X12_pullBy_0
    rw [e34, obs]
    by_cases h0 : held = 0
    · rw [if_pos (show pr held = -1 by rw [h0]; rfl)]
      have hb : mt * 2 * g ≤ 18 := by
        have : mt * 2 * g ≤ 2 * 9 := Nat.mul_le_mul (by omega) h2
        omega
      have fin : ∀ x : Int32, x = Int32.ofNat (mt * 2 * g) → ∃ m' j' r', f_X12_pullBy_19 (Int32.ofNat w) (Int32.ofNat s) x (mkH n z D m j r) = some (Int32.ofNat (plw held cls mt g w s t d), mkH n z D m' j' r') ∧ LMd A held tx ln cls m' j' ∧ FPm m m' j j' r r' := by
        intro x hx
        refine ⟨m, j, r, ?_, hl, fun _ _ _ _ => rfl, fun _ _ => rfl, fun _ _ => rfl, fun _ _ => rfl⟩
        unfold f_X12_pullBy_19 f_X12_pullBy_40
        have hv : (Int32.ofNat (mt * 2 * g) + Int32.ofNat s) - Int32.ofNat w = Int32.ofInt (((mt * 2 * g + s : Nat) : Int) - (w : Int)) := by
          rw [i_add, ← oi_nat, ← oi_nat]
          exact oi_sub (by omega) (by omega)
        rw [hx, hv, (J_clamp (by omega)).1, cN_mk, (J_clamp (by omega)).2, cN_mk]
        unfold plw
        rw [if_pos h0]
      have hmt : mt = 0 ∨ mt = 1 := by omega
      rcases hmt with rfl | rfl
      · rw [if_pos (show Int32.ofNat 0 = 0 from rfl)]
        exact fin 0 (by simp)
      · rw [if_neg (show ¬ Int32.ofNat 1 = 0 by decide)]
        exact fin (2 * Int32.ofNat g) (by rw [l2, i_mul])
    · rw [if_neg (show ¬ pr held = -1 from fun h => h0 ((pr_no (by omega)).mp h)), q72_c, obs]
      obtain ⟨m', j', r', e', hl', hf'⟩ := M_worthOf (n := n) (z := z) (D := D) (m := m) (j := j) (r := r) hD hW hl h0 h1 h2 h3 h4 h5 h6
      have hwl := hW.2.2 (held - 1) (by omega)
      have hLb : ∀ k, k < 6 → -1000000 ≤ Lf mt g w s t d k ∧ Lf mt g w s t d k ≤ 1000000 := fun k _ => Lf_b h1 h2 h3 h4 h5 h6
      have hvb := vl_b _ (OKl_of hwl.2.1 hwl.1 hLb 300 0 _ (Nat.zero_le _) hwl.2.2)
      refine ⟨m', j', r', ?_, hl', hf'⟩
      rw [e', cN_mk]
      unfold f_X12_pullBy_40
      rw [(J_clamp hvb).1, cN_mk, (J_clamp hvb).2, cN_mk]
      unfold plw
      rw [if_neg h0]
  · intro m m' j j' h hf h7 h34 hj
    obtain ⟨a1, a2, a3, a4, a5⟩ := h
    refine ⟨by rw [h7]; exact a1, by rw [h34]; exact a2, by rw [hf 74 (by omega), hf 75 (by omega)]; exact a3, ?_, by rw [hj, hf 88 (by omega)]; exact a5⟩
    obtain ⟨L, hL⟩ := a4
    refine ⟨L, ?_⟩
    unfold LT
    rw [hf 76 (by omega)]
    exact hL
end LAWM
