/-! Plans are read: the whole. -/
section MPW
variable {n z : Nat} {D : Dyn} {m : MI} {j : MJ} {r : MR} {t : Nat → Nat} {N a b i : Nat} {d x e : Int32}
/-- only the row that is being read has changed -/
def FPl (m m' : MI) : Prop := (∀ a, a ≠ 83 → a ≠ 84 → m' a = m a) ∧ (∀ q, q < 192 → m' 83 q = m 83 q) ∧ (∀ q, q ≠ 4 → m' 84 q = m 84 q)
theorem FPl_tr {m m' m'' : MI} (h : FPl m m') (h' : FPl m' m'') : FPl m m'' := ⟨fun a h1 h2 => (h'.1 a h1 h2).trans (h.1 a h1 h2), fun q hq => (h'.2.1 q hq).trans (h.2.1 q hq), fun q hq => (h'.2.2 q hq).trans (h.2.2 q hq)⟩
theorem FPl_83 {m m' : MI} {R : Nat} (h : F83 m m' R) (hR : 192 ≤ R) : FPl m m' := ⟨fun a h1 _ => h.1 a h1, fun q hq => h.2 q (by omega), fun q _ => by rw [h.1 84 (by omega)]⟩
theorem M_plan17 (hD : ∀ a, 1000000 ≤ a → D a = none) : ∀ (g i k fuel : Nat) (m : MI), g < fuel → k + g = 16 → 1 ≤ g → i ≤ N → TX m r t N a b → match pPl t N g i with
    | .inl e => e ≤ 1000 ∧ ∃ m' x, f_X12_readPlan_17 fuel 72 (Int32.ofNat k) 1 (mkH n z D (s3 m (Int32.ofNat i) no1 d) j r) = some ((), mkH n z D (s3 m' x (Int32.ofNat e) d) j r) ∧ FPl m m'
    | .inr l => ∃ m' x, f_X12_readPlan_17 fuel 72 (Int32.ofNat k) 1 (mkH n z D (s3 m (Int32.ofNat i) no1 d) j r) = some ((), mkH n z D (s3 m' x no1 d) j r) ∧ FPl m m' ∧ (∀ q, q < 192 + 3 * k → m' 83 q = m 83 q) ∧ l.length ≤ g ∧ 1 ≤ l.length ∧ m' 84 4 = Int32.ofNat (k + l.length) ∧ (∀ q c, q < l.length → c < 3 → m' 83 (192 + 3 * (k + q) + c) = sv c (l.getD q (0, 0, 0))) ∧ (∀ s ∈ l, okS s) := by
  have g11 : ∀ mm y e, gI [12] (mkH n z D (s3 mm y e d) j r) 72 11 = some e := fun mm y e => by rw [q72_11, s3_11]
  have g10 : ∀ mm y, gI [12] (mkH n z D (s3 mm y no1 d) j r) 72 10 = some y := fun mm y => by rw [q72_10, s3_10]
  have p10 : ∀ mm y v, pV [12] (mkH n z D (s3 mm y no1 d) j r) 72 10 (.int v) = some (mkH n z D (s3 mm v no1 d) j r) := fun mm y v => by rw [q72_p10, w10]
  have g25 : ∀ mm, gR [12] (mkH n z D mm j r) 72 25 = some 84 := fun mm => gR_mk rfl (by decide) rfl
  have u84 : ∀ mm y e v, uI 0 (mkH n z D (s3 mm y e d) j r) 84 4 v = some (mkH n z D (s3 (wI mm 84 4 v) y e d) j r) := fun mm y e v => by rw [l4, p84.2 4 v (by omega), s3_w (by omega)]
  have em1 : (-1 : Int32) = no1 := rfl
  intro g
  induction g with
  | zero => intro i k fuel m _ _ h; omega
  | succ g ih =>
    intro i k fuel m hf hkg _ hi hT
    obtain ⟨f, rfl⟩ : ∃ f, fuel = f + 1 := ⟨fuel - 1, by omega⟩
    have hN := hT.2.2.2.1
    have hab := hT.2.2.2.2.1
    have ek : (3 : Int32) * (64 + Int32.ofNat k) = Int32.ofNat (192 + 3 * k) := by
      rw [l3, l64, i_add, i_mul]
      congr 1
      omega
    have hst := M_pstep (n := n) (z := z) (D := D) (m := m) (j := j) (r := r) (d := d) (R := 192 + 3 * k) hD hT (by omega) hi
    rw [f_X12_readPlan_17.eq_2, if_neg (by decide), q72_c, obs, ek, pPl]
    cases hp : pSt t N i with
    | inl e =>
      rw [hp] at hst
      obtain ⟨he, m1, x1, e1, fr1⟩ := hst
      rw [e1, cN_mk, g11, obs, if_neg (show ¬ Int32.ofNat e = -1 from fun h => (no1_ne (by omega)).mp h)]
      exact ⟨he, m1, x1, rfl, FPl_83 fr1 (by omega)⟩
    | inr q =>
      obtain ⟨s, j1⟩ := q
      rw [hp] at hst
      obtain ⟨m1, e1, fr1, hv1⟩ := hst
      dsimp only at e1 hv1
      have hb := pSt_b hp hi
      have hT1 : TX m1 r t N a b := TX_fr hT (by rw [fr1.1 72 (by omega)]) (by rw [fr1.1 72 (by omega)]) (fr1.1 a (by omega))
      have hs1 := sg_lt hT hb.2.2
      have hk1 := sk_le (t := t) hb.2.2
      rw [e1, cN_mk, g11, obs, if_pos em1.symm, q72_c, obs, M_look hT1 hb.2.2, cN_mk]
      dsimp only
      have c59 : (sgI (sg t N j1) = 59) ↔ sg t N j1 = 59 := by rw [l59]; exact sgI_c hs1 (by omega) (by omega)
      have fin0 : ∀ f', f_X12_readPlan_17 (f' + 1) 72 (Int32.ofNat (k + 1)) 0 (mkH n z D (s3 m1 (Int32.ofNat (sk t N j1)) no1 d) j r) = if sg t N j1 = 0 then some ((), mkH n z D (s3 (wI m1 84 4 (Int32.ofNat (k + 1))) (Int32.ofNat (sk t N j1)) no1 d) j r) else some ((), mkH n z D (s3 (wI m1 84 4 (Int32.ofNat (k + 1))) (Int32.ofNat (sk t N j1)) (Int32.ofNat (sk t N j1)) d) j r) := by
        intro f'
        have hT2 : TX (wI m1 84 4 (Int32.ofNat (k + 1))) r t N a b := TX_fr hT1 (by rw [wI_ne (by omega)]) (by rw [wI_ne (by omega)]) (wI_ne (by omega))
        rw [f_X12_readPlan_17.eq_2, if_pos rfl, g25, obs, u84, obs, q72_c, obs, M_look hT2 hk1.2, cN_mk, sk_sk hb.2.2, sg_sk hb.2.2]
        by_cases h0 : sg t N j1 = 0
        · rw [if_pos (show sgI (sg t N j1) = -1 from (sgI_n hs1).mpr h0), if_pos h0]
        · rw [if_neg (show ¬ sgI (sg t N j1) = -1 from fun h => h0 ((sgI_n hs1).mp h)), if_neg h0, q72_c, obs, M_fails0, cN_mk]
      have fr2 : FPl m (wI m1 84 4 (Int32.ofNat (k + 1))) := ⟨fun a h1 h2 => by rw [wI_ne h2, fr1.1 a h1], fun q hq => by rw [wI_ne (by omega), fr1.2 q (by omega)], fun q hq => by rw [wI_sn hq, fr1.1 84 (by omega)]⟩
      obtain ⟨f', hf'⟩ : ∃ f', f = f' + 1 := ⟨f - 1, by omega⟩
      by_cases h59 : sg t N j1 = 59
      · have hp1 := sg_pos (t := t) (N := N) (i := j1) (by omega)
        rw [if_pos (c59.mpr h59), if_neg (by omega), if_pos h59]
        unfold f_X12_readPlan_57
        rw [if_neg (show ¬ (1 : Int32) = 0 by decide), l1, i_add]
        by_cases hg0 : g = 0
        · rw [if_pos hg0, if_pos (show Int32.ofNat (k + 1) = 16 by rw [show k + 1 = 16 by omega]; rfl), q72_c, obs, M_fails0, cN_mk]
          exact ⟨by omega, m1, _, rfl, FPl_83 fr1 (by omega)⟩
        · rw [if_neg hg0, if_neg (show ¬ Int32.ofNat (k + 1) = 16 by rw [l16, i_inj (by omega) (by omega)]; omega)]
          unfold f_X12_readPlan_74
          rw [if_neg (show ¬ Int32.ofNat 1 = 0 by decide), g10, obs, l1, i_add, p10, obs, ← l1]
          have hih := ih (sk t N j1 + 1) (k + 1) f m1 (by omega) (by omega) (by omega) (by omega) hT1
          cases hr : pPl t N g (sk t N j1 + 1) with
          | inl e =>
            rw [hr] at hih
            obtain ⟨he, m2, x2, e2, f2⟩ := hih
            exact ⟨he, m2, x2, e2, FPl_tr (FPl_83 fr1 (by omega)) f2⟩
          | inr l =>
            rw [hr] at hih
            obtain ⟨m2, x2, e2, f2, h3, h4, h5, h6, h7, h8⟩ := hih
            refine ⟨m2, x2, e2, FPl_tr (FPl_83 fr1 (by omega)) f2, fun q hq => by rw [h3 q (by omega), fr1.2 q (by omega)], by simp only [List.length_cons]; omega, by simp, ?_, fun q c hq hc => ?_, fun s' hs' => ?_⟩
            · rw [h6]
              simp only [List.length_cons]
              congr 1
              omega
            · cases q with
              | zero =>
                rw [h3 _ (by omega), Nat.add_zero, hv1 c hc]
                rfl
              | succ q =>
                simp only [List.length_cons] at hq
                have := h7 q c (by omega) hc
                rw [show 192 + 3 * (k + (q + 1)) + c = 192 + 3 * (k + 1 + q) + c by omega, this]
                rfl
            · rcases List.mem_cons.mp hs' with h | h
              · rw [h]; exact hb.1
              · exact h8 s' h
      · rw [if_neg (fun h => h59 (c59.mp h))]
        unfold f_X12_readPlan_57 f_X12_readPlan_74
        rw [if_pos rfl, if_pos rfl, l1, i_add, hf', fin0]
        by_cases h0 : sg t N j1 = 0
        · rw [if_pos h0, if_pos h0]
          refine ⟨_, _, rfl, fr2, fun q hq => by rw [wI_ne (by omega), fr1.2 q (by omega)], by simp, by simp, by rw [wI_se]; rfl, fun q c hq hc => ?_, fun s' hs' => ?_⟩
          · simp only [List.length_cons, List.length_nil] at hq
            have : q = 0 := by omega
            subst this
            rw [wI_ne (by omega), Nat.add_zero, hv1 c hc]
            rfl
          · rcases List.mem_cons.mp hs' with h | h
            · rw [h]; exact hb.1
            · exact absurd h (List.not_mem_nil)
        · rw [if_neg h0, if_neg h0, if_neg h59]
          exact ⟨by omega, _, _, rfl, fr2⟩
/-- the model reads a plan -/
theorem M_readPlan {tp : TP} (hD : ∀ a, 1000000 ≤ a → D a = none) (hT : TMd m tp) (hN : tp.2 ≤ 240) (hb : ∀ q, q < tp.2 → 1 ≤ tp.1 q ∧ tp.1 q < 256) : ∃ m', f_X12_readPlan 72 (mkH n z D m j r) = some ((), mkH n z D m' j (wR r 72 5 (some 73))) ∧ (∀ a, a ≠ 72 → a ≠ 83 → a ≠ 84 → m' a = m a) ∧ (∀ i, ¬ (8 ≤ i ∧ i ≤ 11) → m' 72 i = m 72 i) ∧ (∀ q, q < 192 → m' 83 q = m 83 q) ∧ (∀ q, q ≠ 4 → m' 84 q = m 84 q) ∧ (match pPl tp.1 tp.2 16 0 with
    | .inl e => e ≤ 1000 ∧ m' 72 11 = Int32.ofNat e
    | .inr l => m' 72 11 = no1 ∧ l.length ≤ 16 ∧ 1 ≤ l.length ∧ m' 84 4 = Int32.ofNat l.length ∧ (∀ q c, q < l.length → c < 3 → m' 83 (192 + 3 * q + c) = sv c (l.getD q (0, 0, 0))) ∧ (∀ s ∈ l, okS s)) := by
  have em1 : ((-1 : Int32)) = no1 := rfl
  generalize hm1 : wI (wI m 72 8 (Int32.ofNat 0)) 72 9 (Int32.ofNat tp.2) = m1
  have a1 : ∀ a', a' ≠ 72 → m1 a' = m a' := fun a' h => by rw [← hm1, wI_ne h, wI_ne h]
  have f1 : ∀ i, i ≠ 8 → i ≠ 9 → m1 72 i = m 72 i := fun i h8 h9 => by rw [← hm1, wI_sn h9, wI_sn h8]
  have hTX : TX m1 (wR r 72 5 (some 73)) tp.1 tp.2 73 0 := by
    refine ⟨by simp [wR, va_up], ?_, ?_, hN, Or.inl ⟨rfl, rfl⟩, fun q hq => ?_⟩
    · rw [← hm1, wI_sn (by omega), wI_se]
    · rw [← hm1, wI_se]
    · rw [a1 73 (by omega), Nat.zero_add]
      exact ⟨hT.2 q hq, hb q hq⟩
  have hmem : wI (wI (wI (wI m 72 8 (Int32.ofNat 0)) 72 9 (Int32.ofNat tp.2)) 72 10 (Int32.ofNat 0)) 72 11 no1 = s3 m1 (Int32.ofNat 0) no1 (m 72 12) := by
    rw [hm1]
    funext a' i
    by_cases h : a' = 72
    · subst h
      by_cases h11 : i = 11
      · subst h11; rw [wI_se, s3_11]
      rw [wI_sn h11]
      by_cases h10 : i = 10
      · subst h10; rw [wI_se, s3_10]
      rw [wI_sn h10]
      by_cases h12 : i = 12
      · subst h12; rw [s3_12, f1 12 (by omega) (by omega)]
      rw [s3_o (by omega)]
    · rw [wI_ne h, wI_ne h, s3_a h]
  have g1 : gR [12] (mkH n z D m j r) 72 1 = some 73 := gR_mk rfl (by decide) rfl
  have g6 : gI [12] (mkH n z D m j r) 72 6 = some (Int32.ofNat tp.2) := by rw [gI_mk rfl (by decide) rfl, hT.1]
  have start : f_X12_readPlan 72 (mkH n z D m j r) = f_X12_readPlan_17 fu 72 (Int32.ofNat 0) 1 (mkH n z D (s3 m1 (Int32.ofNat 0) no1 (m 72 12)) j (wR r 72 5 (some 73))) := by
    rw [← hmem]
    unfold f_X12_readPlan f_X12_readPlan_0 f_X12_starts f_X12_starts_0
    rw [g1, obs, g6, obs, q72_c, obs]
    simp only [obs, cN_mk, ite_true, ite_false, if_true, if_false, q72, em1, l0]
  rw [start]
  have h := M_plan17 (n := n) (z := z) (D := D) (j := j) (d := m 72 12) hD 16 0 0 fu m1 (by unfold fu; omega) (by omega) (by omega) (Nat.zero_le _) hTX
  cases hp : pPl tp.1 tp.2 16 0 with
  | inl e =>
    rw [hp] at h
    obtain ⟨he, m2, x2, e2, f2⟩ := h
    refine ⟨_, e2, fun a h1 h2 h3 => by rw [s3_a h1, f2.1 a h2 h3, a1 a h1], fun i hi => ?_, fun q hq => by rw [s3_a (by omega), f2.2.1 q hq, a1 83 (by omega)], fun q hq => by rw [s3_a (by omega), f2.2.2 q hq, a1 84 (by omega)], he, s3_11⟩
    by_cases h12 : i = 12
    · subst h12; rw [s3_12]
    · rw [s3_o (by omega), f2.1 72 (by omega) (by omega), f1 i (by omega) (by omega)]
  | inr l =>
    rw [hp] at h
    obtain ⟨m2, x2, e2, f2, h3, h4, h5, h6, h7, h8⟩ := h
    refine ⟨_, e2, fun a h1 h2 h3 => by rw [s3_a h1, f2.1 a h2 h3, a1 a h1], fun i hi => ?_, fun q hq => by rw [s3_a (by omega), f2.2.1 q hq, a1 83 (by omega)], fun q hq => by rw [s3_a (by omega), f2.2.2 q hq, a1 84 (by omega)], s3_11, h4, h5, by rw [s3_a (by omega), h6, Nat.zero_add], fun q c hq hc => ?_, h8⟩
    · by_cases h12 : i = 12
      · subst h12; rw [s3_12]
      · rw [s3_o (by omega), f2.1 72 (by omega) (by omega), f1 i (by omega) (by omega)]
    · rw [s3_a (by omega)]
      have := h7 q c hq hc
      rw [Nat.zero_add] at this
      exact this
end MPW
