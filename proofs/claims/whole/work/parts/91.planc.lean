/-! The class reads plans. -/
def pb (m : MI) (c : List Nat) : MI := fun a => if a = 16 then (fun i => if i = 4 then Int32.ofNat c.length else m 16 i) else if a = 17 then (fun q => if q < c.length then Int32.ofNat (c.getD q 0) else m 17 q) else m a
section PB
variable {m : MI} {x w y : Int32} {c : List Nat}
theorem pb_4 : pb m c 16 4 = Int32.ofNat c.length := by simp [pb]
theorem pb_o {i : Nat} (h : i ≠ 4) : pb m c 16 i = m 16 i := by simp [pb, h]
theorem pb_17 {q : Nat} : pb m c 17 q = if q < c.length then Int32.ofNat (c.getD q 0) else m 17 q := by simp [pb]
theorem pb_a {a : Nat} (h : a ≠ 16) (h' : a ≠ 17) : pb m c a = m a := by simp [pb, h, h']
theorem pb_app {op : Nat} : wI (wI (rs (pb m c) 16 x w) 17 c.length (Int32.ofNat op)) 16 4 (Int32.ofNat (c.length + 1)) = rs (pb m (c ++ [op])) 16 x w := by
  funext a i
  by_cases h14 : a = 16
  · subst h14
    by_cases h4 : i = 4
    · subst h4
      rw [wI_se, rs_o (by omega) (by omega), pb_4]
      simp
    · rw [wI_sn h4, wI_ne (by omega)]
      by_cases h1 : i = 1
      · subst h1; rw [rs_1, rs_1]
      by_cases h2 : i = 2
      · subst h2; rw [rs_2, rs_2]
      rw [rs_o h1 h2, rs_o h1 h2, pb_o h4, pb_o h4]
  · rw [wI_ne h14]
    by_cases h15 : a = 17
    · subst h15
      rw [rs_a (by omega), pb_17]
      by_cases hi : i = c.length
      · subst hi
        rw [wI_se, if_pos (by simp)]
        simp
      · rw [wI_sn hi, rs_a (by omega), pb_17]
        by_cases hl : i < c.length
        · rw [if_pos hl, if_pos (by simp; omega)]
          congr 1
          simp [List.getD, List.getElem?_append_left hl]
        · rw [if_neg hl, if_neg (by simp; omega)]
    · rw [wI_ne h15, rs_a h14, rs_a h14, pb_a h14 h15, pb_a h14 h15]
end PB
section CPL
variable {n z : Nat} {D : Dyn} {m : MI} {j : MJ} {r : MR} {t : Nat → Nat} {N i : Nat} {x w : Int32}
theorem o16 : 16 = 3 ∨ 16 = 14 ∨ 16 = 16 := Or.inr (Or.inr rfl)
theorem c16 : isC [3] (mkH n z D m j r) 16 = some () := isC_mk rfl (by decide)
theorem TC_pb {c : List Nat} (hT : TC m t N) : TC (pb m c) t N := by
  unfold TC
  rw [pb_a (by omega) (by omega), pb_a (by omega) (by omega)]
  exact hT
theorem R_pos {y : Int32} : gI [3] (mkH n z D (rs m 16 y w) j r) 16 1 = some y ∧ (∀ v, pV [3] (mkH n z D (rs m 16 y w) j r) 16 1 (.int v) = some (mkH n z D (rs m 16 v w) j r)) := by
  refine ⟨?_, fun v => ?_⟩
  · rw [gI_mk (ci := 3) rfl (by decide) rfl, rs_1]
  · rw [pI_mk (ci := 3) rfl (by decide) rfl, v1]
theorem C_pdigit (hT : TC m t N) (hi : i ≤ N) : f_X3_digit 16 (mkH n z D (rs m 16 (Int32.ofNat i) w) j r) = match pDg t N i with
    | .inl e => some (no1, mkH n z D (rs m 16 (Int32.ofNat e) (Int32.ofNat e)) j r)
    | .inr q => some (Int32.ofNat q.1, mkH n z D (rs m 16 (Int32.ofNat q.2) w) j r) := by
  have hk := sk_le (t := t) hi
  have hN := hT.2.1
  unfold f_X3_digit f_X3_digit_0 pDg
  rw [c16, obs, C_sign o16 hT hi, cN_mk, c16, obs, C_digit o16 hT hk.2, cN_mk]
  by_cases hd : dig t N (sk t N i) = true
  · have hd' : sk t N i < N ∧ 48 ≤ t (sk t N i) ∧ t (sk t N i) ≤ 57 := by
      unfold dig at hd
      simpa [Bool.and_eq_true] using hd
    have hT' := TC_rs (x := Int32.ofNat (sk t N i + 1)) (w := w) o16 hT
    have g0 : ∀ mm, gR [3] (mkH n z D mm j r) 16 0 = some 1 := fun mm => gR_mk rfl (by decide) rfl
    have g9 : ∀ mm, gR [9] (mkH n z D mm j r) 1 0 = some 2 := fun mm => gR_mk rfl (by decide) rfl
    rw [if_neg (by simp [hd, bI]), if_pos hd, R_pos.1, obs, R_pos.2, obs, l1, i_add, g0, obs, g9, obs, R_pos.1, obs, i_sub (by omega), Nat.add_sub_cancel, p2.1 _ (by omega), obs, (hT'.2.2 _ hd'.1).1, l48, i_sub (by omega)]
  · rw [if_pos (by simp [hd, bI]), if_neg hd, R_pos.1, obs, c16, obs, C_fails o16, cN_mk]
    rfl
theorem C_76 {c : List Nat} {k a b : Nat} (hk : k ≤ 3) (ha : a ≤ 9) (hb : b ≤ 9) (hc : c.length < 16) : f_X3_readsStep_76 16 (Int32.ofNat k) (Int32.ofNat a) (Int32.ofNat b) (mkH n z D (rs (pb m c) 16 x w) j r) = some (1, mkH n z D (rs (pb m (c ++ [k * 100 + a * 10 + b])) 16 x w) j r) := by
  have e4 : rs (pb m c) 16 x w 16 4 = Int32.ofNat c.length := by rw [rs_o (by omega) (by omega), pb_4]
  have g4 : gI [3] (mkH n z D (rs (pb m c) 16 x w) j r) 16 4 = some (Int32.ofNat c.length) := by rw [gI_mk (ci := 3) rfl (by decide) rfl, e4]
  have g3 : gR [3] (mkH n z D (rs (pb m c) 16 x w) j r) 16 3 = some 17 := gR_mk rfl (by decide) rfl
  have el : aLen (mkH n z D (rs (pb m c) 16 x w) j r) 17 = some (Int32.ofNat 16) := aLen_mk rfl (by decide)
  have g4' : ∀ v, gI [3] (mkH n z D (wI (rs (pb m c) 16 x w) 17 c.length v) j r) 16 4 = some (Int32.ofNat c.length) := fun v => by rw [gI_mk (ci := 3) rfl (by decide) rfl, wI_ne (by omega), e4]
  have p4 : ∀ mm v, pV [3] (mkH n z D mm j r) 16 4 (.int v) = some (mkH n z D (wI mm 16 4 v) j r) := fun mm v => pI_mk rfl (by decide) rfl
  unfold f_X3_readsStep_76 f_X11_stepOf f_X11_stepOf_0
  rw [if_neg (show ¬ Int32.ofNat a = -1 from fun h => (no1_ne (by omega)).mp h), if_neg (show ¬ Int32.ofNat b = -1 from fun h => (no1_ne (by omega)).mp h), g4, obs, g3, obs, el, obs, if_neg (fun h => by have := (i_le (by omega) (by omega)).mp h; omega), obs, obs, cN_mk, l100, l10, i_mul, i_mul, i_add, i_add, p17.2 _ _ hc, obs, g4', obs, p4, obs, l1, i_add, pb_app]
theorem C_pstep {c : List Nat} (hD : ∀ a, 1000000 ≤ a → D a = none) (hT : TC m t N) (hi : i ≤ N) (hc : c.length < 16) : match pSt t N i with
    | .inl e => e ≤ 1000 ∧ ∃ x, f_X3_readsStep 16 (mkH n z D (rs (pb m c) 16 (Int32.ofNat i) w) j r) = some (Int32.ofNat 0, mkH n z D (rs (pb m c) 16 x (Int32.ofNat e)) j r)
    | .inr q => f_X3_readsStep 16 (mkH n z D (rs (pb m c) 16 (Int32.ofNat i) w) j r) = some (Int32.ofNat 1, mkH n z D (rs (pb m (c ++ [cdS q.1])) 16 (Int32.ofNat q.2) w) j r) := by
  have hTl := TC_pb (c := c) hT
  have hN := hT.2.1
  have hs := sg_ltC (i := i) hT
  have hk := sk_le (t := t) hi
  have h4 := kd_le (s := sg t N i)
  unfold f_X3_readsStep f_X3_readsStep_0 pSt
  rw [c16, obs, C_sign o16 hTl hi, cN_mk]
  have main : match (if kd (sg t N i) = 0 then .inl (sk t N i) else if kd (sg t N i) = 1 then .inr ((0, 0, 0), sk t N i + 1) else pSt1 t N (kd (sg t N i)) (pDg t N (sk t N i + 1)) : Nat ⊕ (ST × Nat)) with
    | .inl e => e ≤ 1000 ∧ ∃ x, f_X3_readsStep_21 16 (pr (kd (sg t N i))) (mkH n z D (rs (pb m c) 16 (Int32.ofNat (sk t N i)) w) j r) = some (Int32.ofNat 0, mkH n z D (rs (pb m c) 16 x (Int32.ofNat e)) j r)
    | .inr q => f_X3_readsStep_21 16 (pr (kd (sg t N i))) (mkH n z D (rs (pb m c) 16 (Int32.ofNat (sk t N i)) w) j r) = some (Int32.ofNat 1, mkH n z D (rs (pb m (c ++ [cdS q.1])) 16 (Int32.ofNat q.2) w) j r) := by
    unfold f_X3_readsStep_21
    by_cases h0 : kd (sg t N i) = 0
    · rw [if_pos h0, h0, pr_0, if_neg (by decide), R_pos.1, obs, c16, obs, C_fails o16, cN_mk, rZ0]
      exact ⟨by omega, _, rfl⟩
    · have hp := sg_pos (t := t) (N := N) (i := i) (by intro e; rw [e] at h0; exact h0 rfl)
      obtain ⟨k0, hk0⟩ : ∃ k0, kd (sg t N i) = k0 + 1 := ⟨kd (sg t N i) - 1, by omega⟩
      rw [if_neg h0, hk0, pr_s, if_pos (show (0 : Int32) ≤ Int32.ofNat k0 by rw [l0, i_le (by omega) (by omega)]; omega), R_pos.1, obs, l1, i_add, R_pos.2, obs]
      by_cases hk1 : k0 = 0
      · rw [if_pos (show Int32.ofNat k0 = 0 by rw [hk1]; rfl), if_pos (by omega)]
        unfold f_X3_readsStep_57 f_X3_readsStep_75
        rw [hk1, if_neg (by decide), l0, C_76 (by omega) (by omega) (by omega) hc]
        rfl
      · rw [if_neg (show ¬ Int32.ofNat k0 = 0 by rw [l0, i_inj (by omega) (by omega)]; exact hk1), if_neg (by omega), c16, obs, C_pdigit hTl (by omega)]
        cases hd : pDg t N (sk t N i + 1) with
        | inl e =>
          have he := pDg_e hd (by omega)
          dsimp only
          rw [cN_mk]
          unfold f_X3_readsStep_57 f_X3_readsStep_75 f_X3_readsStep_76
          refine ⟨by omega, Int32.ofNat e, ?_⟩
          rw [if_pos (show no1 = -1 from rfl), if_pos (show no1 = -1 from rfl)]
          split <;> rfl
        | inr q =>
          obtain ⟨av, j1⟩ := q
          have hb := pDg_b hd (by omega)
          dsimp only
          rw [cN_mk]
          unfold f_X3_readsStep_57 pSt1
          dsimp only
          by_cases hk2 : k0 = 1
          · rw [if_pos (show Int32.ofNat k0 = 1 by rw [hk2]; rfl), if_neg (show ¬ Int32.ofNat av = -1 from fun h => (no1_ne (by omega)).mp h), if_pos (by omega), c16, obs, C_pdigit hTl hb.2.2]
            cases hd2 : pDg t N j1 with
            | inl e =>
              have he := pDg_e hd2 hb.2.2
              dsimp only [pSt2]
              rw [cN_mk]
              unfold f_X3_readsStep_76
              rw [if_neg (show ¬ Int32.ofNat av = -1 from fun h => (no1_ne (by omega)).mp h), if_pos (show no1 = -1 from rfl)]
              exact ⟨by omega, _, rfl⟩
            | inr q =>
              obtain ⟨bv, j2⟩ := q
              have hb2 := pDg_b hd2 hb.2.2
              dsimp only [pSt2]
              rw [cN_mk, C_76 (by omega) hb.1 hb2.1 hc, hk2]
              rfl
          · rw [if_neg (show ¬ Int32.ofNat k0 = 1 by rw [l1, i_inj (by omega) (by omega)]; exact hk2), if_neg (by omega)]
            unfold f_X3_readsStep_75
            rw [l0, C_76 (by omega) hb.1 (by omega) hc]
            show _ = some (Int32.ofNat 1, mkH n z D (rs (pb m (c ++ [cdS (k0 + 1 - 1, av, 0)])) 16 (Int32.ofNat j1) w) j r)
            simp [cdS, l1]
  by_cases h0 : sg t N i = 0
  · have e1 : sgI (sg t N i) = -1 := by rw [h0]; rfl
    have hk0 : kd (sg t N i) = 0 := by rw [h0]; rfl
    rw [if_pos e1]
    rw [hk0, pr_0] at main
    rw [hk0]
    exact main
  · have e1 : ¬ sgI (sg t N i) = -1 := fun h => h0 ((sgI_n hs).mp h)
    have es : sgI (sg t N i) = Int32.ofNat (sg t N i) := if_neg h0
    rw [if_neg e1, show (2000004 : Nat) = 2000000 + 4 from rfl, sStr_s (by omega), obs, es, ch_16 hs, S_index hD (by omega) hs, cN_mk, kd_c hs]
    exact main
theorem C_preads (hD : ∀ a, 1000000 ≤ a → D a = none) (hT : TC m t N) : ∀ (g i k fuel : Nat) (c : List Nat), g < fuel → k + g = 16 → 1 ≤ g → i ≤ N → c.length = k → match pPl t N g i with
    | .inl e => e ≤ 1000 ∧ ∃ x c', f_X3_reads_32 (f_X3_reads_11 fuel) 16 (Int32.ofNat k) (mkH n z D (rs (pb m c) 16 (Int32.ofNat i) w) j r) = some (Int32.ofNat 0, mkH n z D (rs (pb m c') 16 x (Int32.ofNat e)) j r)
    | .inr l => ∃ x, f_X3_reads_32 (f_X3_reads_11 fuel) 16 (Int32.ofNat k) (mkH n z D (rs (pb m c) 16 (Int32.ofNat i) w) j r) = some (Int32.ofNat 1, mkH n z D (rs (pb m (c ++ l.map cdS)) 16 x w) j r) := by
  have hN := hT.2.1
  intro g
  induction g with
  | zero => intro i k fuel c _ _ h; omega
  | succ g ih =>
    intro i k fuel c hf hkg _ hi hc
    obtain ⟨f, rfl⟩ : ∃ f, fuel = f + 1 := ⟨fuel - 1, by omega⟩
    have hst := C_pstep (n := n) (z := z) (D := D) (m := m) (j := j) (r := r) (w := w) (c := c) hD hT hi (by omega)
    unfold f_X3_reads_32
    rw [c16, obs, pPl]
    cases hp : pSt t N i with
    | inl e =>
      rw [hp] at hst
      obtain ⟨he, x1, e1⟩ := hst
      rw [e1, cN_mk, if_pos (show Int32.ofNat 0 = 0 from rfl)]
      exact ⟨he, x1, c, rfl⟩
    | inr q =>
      obtain ⟨s, j1⟩ := q
      rw [hp] at hst
      dsimp only at hst
      have hb := pSt_b hp hi
      have hTl := TC_pb (c := c ++ [cdS s]) hT
      have hs1 := sg_ltC (i := j1) hT
      have hk1 := sk_le (t := t) hb.2.2
      have hl : (c ++ [cdS s]).length = k + 1 := by simp [hc]
      rw [hst, cN_mk, if_neg (show ¬ Int32.ofNat 1 = 0 by decide), c16, obs, C_sign o16 hTl hb.2.2, cN_mk]
      dsimp only
      by_cases h0 : sg t N j1 = 0
      · rw [if_pos (show sgI (sg t N j1) = -1 from (sgI_n hs1).mpr h0), if_pos h0]
        exact ⟨_, by simp [l1]; rfl⟩
      · rw [if_neg (show ¬ sgI (sg t N j1) = -1 from fun h => h0 ((sgI_n hs1).mp h)), if_neg h0, l1, i_add, f_X3_reads_11.eq_2]
        by_cases hg0 : g = 0
        · rw [if_pos (show (16 : Int32) ≤ Int32.ofNat (k + 1) by rw [l16, i_le (by omega) (by omega)]; omega), R_pos.1, obs, c16, obs, C_fails o16, cN_mk, rZ0]
          by_cases h59 : sg t N j1 = 59
          · rw [if_pos h59, if_pos hg0]
            exact ⟨by omega, _, _, rfl⟩
          · rw [if_neg h59]
            exact ⟨by omega, _, _, rfl⟩
        · rw [if_neg (show ¬ (16 : Int32) ≤ Int32.ofNat (k + 1) by rw [l16, i_le (by omega) (by omega)]; omega), if_neg (show ¬ Int32.ofNat (k + 1) ≤ 0 by rw [l0, i_le (by omega) (by omega)]; omega), c16, obs, l59, C_takes o16 hTl hk1.2 (by omega) (by omega), sg_sk hb.2.2, sk_sk hb.2.2]
          by_cases h59 : sg t N j1 = 59
          · have hp1 := sg_pos (t := t) (N := N) (i := j1) (by omega)
            rw [if_pos h59, if_pos h59, if_neg hg0, cN_mk, if_neg (show ¬ Int32.ofNat 1 = 0 by decide)]
            have hih := ih (sk t N j1 + 1) (k + 1) f (c ++ [cdS s]) (by omega) (by omega) (by omega) (by omega) hl
            cases hr : pPl t N g (sk t N j1 + 1) with
            | inl e =>
              rw [hr] at hih
              exact hih
            | inr l =>
              rw [hr] at hih
              obtain ⟨x, hx⟩ := hih
              refine ⟨x, ?_⟩
              rw [hx]
              simp
          · rw [if_neg h59, if_neg h59, cN_mk, if_pos (show Int32.ofNat 0 = 0 from rfl)]
            exact ⟨by omega, _, _, rfl⟩
/-- the class's reader of plans -/
theorem C_readsP (hD : ∀ a, 1000000 ≤ a → D a = none) (hT : TC m t N) : ∃ m', f_X3_reads 16 (mkH n z D m j r) = some (bI (match pPl t N 16 0 with | .inl _ => false | .inr _ => true), mkH n z D m' j r) ∧ (∀ a, a ≠ 16 → a ≠ 17 → m' a = m a) ∧ (match pPl t N 16 0 with
      | .inl e => m' 16 2 = Int32.ofNat e
      | .inr l => m' 16 4 = Int32.ofNat l.length ∧ (∀ q, q < l.length → m' 17 q = Int32.ofNat ((l.map cdS).getD q 0))) := by
  have hN := hT.2.1
  have h := C_preads (n := n) (z := z) (D := D) (m := m) (j := j) (r := r) (w := no1) hD hT 16 0 0 9999 [] (by omega) (by omega) (by omega) (Nat.zero_le _) rfl
  have hst : f_X3_reads 16 (mkH n z D m j r) = f_X3_reads_32 (f_X3_reads_11 9999) 16 (Int32.ofNat 0) (mkH n z D (rs (pb m []) 16 (Int32.ofNat 0) no1) j r) := by
    have hmem : wI (wI (wI m 16 1 (Int32.ofNat 0)) 16 2 no1) 16 4 (Int32.ofNat 0) = rs (pb m []) 16 (Int32.ofNat 0) no1 := by
      funext a q
      by_cases h14 : a = 16
      · subst h14
        by_cases h4 : q = 4
        · subst h4; rw [wI_se, rs_o (by omega) (by omega), pb_4]; rfl
        rw [wI_sn h4]
        by_cases h2 : q = 2
        · subst h2; rw [wI_se, rs_2]
        rw [wI_sn h2]
        by_cases h1 : q = 1
        · subst h1; rw [wI_se, rs_1]
        rw [wI_sn h1, rs_o h1 h2, pb_o h4]
      · rw [wI_ne h14, wI_ne h14, wI_ne h14, rs_a h14]
        by_cases h15 : a = 17
        · subst h15; rw [pb_17]; simp
        · rw [pb_a h14 h15]
    have h16 : ¬ (16 : Int32) ≤ Int32.ofNat 0 := by rw [l16, i_le (by omega) (by omega)]; omega
    have h00 : Int32.ofNat 0 ≤ (0 : Int32) := by rw [l0, i_le (by omega) (by omega)]; omega
    unfold f_X3_reads f_X3_reads_0 f_X5_start f_X5_start_0
    rw [← hmem]
    simp (disch := omega) only [obs, cN_mk, ite_true, ite_false, if_true, if_false, q16, l0, l1, no1_e]
    rw [show fu = 9999 + 1 from rfl, f_X3_reads_11.eq_2, if_neg h16, if_pos h00]
  rw [hst]
  cases hr : pPl t N 16 0 with
  | inl e =>
    rw [hr] at h
    obtain ⟨he, x, c, hv⟩ := h
    exact ⟨_, hv, fun a h1 h2 => by rw [rs_a h1, pb_a h1 h2], rs_2⟩
  | inr l =>
    rw [hr] at h
    obtain ⟨x, hv⟩ := h
    rw [List.nil_append] at hv
    refine ⟨_, hv, fun a h1 h2 => by rw [rs_a h1, pb_a h1 h2], by rw [rs_o (by omega) (by omega), pb_4, List.length_map], fun q hq => by rw [rs_a (by omega), pb_17, if_pos (by rw [List.length_map]; exact hq)]⟩
end CPL
