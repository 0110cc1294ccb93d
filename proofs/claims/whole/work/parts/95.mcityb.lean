/-! The model reads the city: all clauses. -/
section MCZ
variable {n z : Nat} {D : Dyn} {m : MI} {j : MJ} {r : MR} {t : Nat → Nat} {N a b i : Nat} {d x e : Int32}
theorem M_111 {c : CY} (hT : TX m r t N a b) (hc : okC c) (hM : MCY m c) (hi0 : i ≤ N) : f_X12_readCity_111 72 (mkH n z D (s3 m (Int32.ofNat i) no1 d) j r) = if sg t N i = 0 ∧ whole c = true then some ((), mkH n z D (s3 m (Int32.ofNat (sk t N i)) no1 d) j r) else some ((), mkH n z D (s3 m (Int32.ofNat (sk t N i)) (Int32.ofNat (sk t N i)) d) j r) := by
  have hs := sg_lt hT hi0
  have g11 : ∀ mm y e, gI [12] (mkH n z D (s3 mm y e d) j r) 72 11 = some e := fun mm y e => by rw [q72_11, s3_11]
  unfold f_X12_readCity_111 f_X12_readCity_134
  rw [g11, obs, if_pos (show no1 = -1 from rfl), q72_c, obs, M_look hT hi0, cN_mk]
  by_cases h0 : sg t N i = 0
  · rw [if_pos (show sgI (sg t N i) = -1 from (sgI_n hs).mpr h0), q72_c, obs, M_whole hc hM, cN_mk]
    by_cases hw : whole c = true
    · rw [if_neg (by simp [hw, bI]), if_pos ⟨h0, hw⟩]
    · rw [if_pos (by simp [hw, bI]), if_neg (fun h => hw h.2), q72_c, obs, M_fails0, cN_mk]
  · rw [if_neg (show ¬ sgI (sg t N i) = -1 from fun h => h0 ((sgI_n hs).mp h)), if_neg (fun h => h0 h.1), q72_c, obs, M_fails0, cN_mk]
theorem M_111e {e : Nat} {x : Int32} (he : e ≤ 1000) : f_X12_readCity_111 72 (mkH n z D (s3 m x (Int32.ofNat e) d) j r) = some ((), mkH n z D (s3 m x (Int32.ofNat e) d) j r) := by
  have g11 : ∀ mm y e, gI [12] (mkH n z D (s3 mm y e d) j r) 72 11 = some e := fun mm y e => by rw [q72_11, s3_11]
  unfold f_X12_readCity_111
  rw [g11, obs, if_neg (show ¬ Int32.ofNat e = -1 from fun h => (no1_ne (by omega)).mp h)]
theorem M_55z {f : Nat} {h : AH} : f_X12_readCity_55 (f + 1) 72 0 h = f_X12_readCity_111 72 h := by
  rw [f_X12_readCity_55.eq_2, if_pos rfl]
def GCY (n z : Nat) (D : Dyn) (m : MI) (j : MJ) (r : MR) (d : Int32) (res : Option (Unit × AH)) (p : Nat ⊕ CY) : Prop := match p with
  | .inl e => e ≤ 1000 ∧ ∃ m' x, FCy m m' ∧ res = some ((), mkH n z D (s3 m' x (Int32.ofNat e) d) j r)
  | .inr c => ∃ m' x, FCy m m' ∧ res = some ((), mkH n z D (s3 m' x no1 d) j r) ∧ MCY m' c ∧ okC c ∧ whole c = true
theorem M_city55 (hD : ∀ a, 1000000 ≤ a → D a = none) : ∀ (g i fuel : Nat) (c : CY) (m : MI), N - i < g → N - i < fuel → 1 < fuel → i ≤ N → TX m r t N a b → okC c → MCY m c → GCY n z D m j r d (f_X12_readCity_55 fuel 72 1 (mkH n z D (s3 m (Int32.ofNat i) no1 d) j r)) (pCy t N g c i) := by
  have g11 : ∀ mm y e, gI [12] (mkH n z D (s3 mm y e d) j r) 72 11 = some e := fun mm y e => by rw [q72_11, s3_11]
  have g10 : ∀ mm y, gI [12] (mkH n z D (s3 mm y no1 d) j r) 72 10 = some y := fun mm y => by rw [q72_10, s3_10]
  have p10 : ∀ mm y v, pV [12] (mkH n z D (s3 mm y no1 d) j r) 72 10 (.int v) = some (mkH n z D (s3 mm v no1 d) j r) := fun mm y v => by rw [q72_p10, w10]
  intro g
  induction g with
  | zero => intro i fuel c m h; omega
  | succ g ih =>
    intro i fuel c m hg hf hf1 hi0 hT hc hM
    obtain ⟨f, rfl⟩ : ∃ f, fuel = f + 1 + 1 := ⟨fuel - 2, by omega⟩
    have hab := hT.2.2.2.2.1
    have hN := hT.2.2.2.1
    have hk := sk_le (t := t) hi0
    obtain ⟨cl0, cl1⟩ := M_rdClause (n := n) (z := z) (D := D) (m := m) (j := j) (r := r) (d := d) hD hT hc hM hi0
    rw [f_X12_readCity_55.eq_2, if_neg (show ¬ (1 : Int32) = 0 by decide), g11, obs, if_pos (show no1 = -1 from rfl), q72_c, obs, pCy]
    have err : ∀ (mm : MI) (x : Int32) (e : Nat), e ≤ 1000 → f_X12_readCity_92 (f_X12_readCity_55 (f + 1)) 72 (mkH n z D (s3 mm x (Int32.ofNat e) d) j r) = some ((), mkH n z D (s3 mm x (Int32.ofNat e) d) j r) := by
      intro mm x e he
      unfold f_X12_readCity_92 f_X12_readCity_93
      rw [if_pos rfl, M_55z, M_111e he]
    by_cases h0 : kndC (sg t N i) c = 0
    · rw [if_pos h0, cl0 h0, cN_mk, g11, obs, if_neg (show ¬ Int32.ofNat (sk t N i) = -1 from fun h => (no1_ne (by omega)).mp h), err _ _ _ (by omega)]
      exact ⟨by omega, m, _, ⟨fun _ _ _ _ _ => rfl, fun _ _ _ _ => rfl⟩, rfl⟩
    · rw [if_neg h0]
      have hp := sg_pos (t := t) (N := N) (i := i) (by
        intro e; apply h0; rw [e]; unfold kndC; rw [if_neg (by omega), if_neg (by omega), if_neg (by omega)])
      have hcl := cl1 h0
      have hK3 : kndC (sg t N i) c - 1 < 3 := by rcases knd_b h0 with ⟨h, _⟩ | ⟨h, _⟩ | ⟨h, _⟩ <;> omega
      have hkl := kl_all _ hK3
      have hpb := pIt_b (t := t) (N := N) hK3 300 0 (us (kndC (sg t N i) c - 1)) (sk t N i + 1) (by omega) (fun k hk => ⟨(hkl.2.2.2 k hk).1, (hkl.2.2.2 k hk).2.1⟩)
      cases hp0 : pIt t N (kndC (sg t N i) c - 1) 300 0 (us (kndC (sg t N i) c - 1)) (sk t N i + 1) with
      | inl e =>
        have he := hpb.2 e hp0
        rw [hp0] at hcl
        obtain ⟨m', fr, hh⟩ := hcl
        dsimp only
        refine ⟨by omega, m', ?_⟩
        rcases hh with ⟨x, hx⟩ | ⟨hx, h3, h4, h5⟩
        · refine ⟨x, fr, ?_⟩
          rw [hx, cN_mk, g11, obs, if_neg (show ¬ Int32.ofNat e = -1 from fun h => (no1_ne (by omega)).mp h), err _ _ _ (by omega)]
        · have hT' : TX m' r t N a b := TX_fr hT (fr.2 8 (by omega) (by omega) (by omega)) (fr.2 9 (by omega) (by omega) (by omega)) (fr.1 a (by omega) (by omega) (by omega) (by omega))
          have hs' := sg_lt hT' he
          refine ⟨Int32.ofNat e, fr, ?_⟩
          rw [hx, cN_mk, g11, obs, if_pos (show no1 = -1 from rfl), q72_c, obs, M_look hT' he, cN_mk, h3, if_neg (show ¬ sgI (sg t N e) = 59 by rw [l59]; exact fun h => h5 ((sgI_c hs' (by omega) (by omega)).mp h))]
          unfold f_X12_readCity_92 f_X12_readCity_93
          rw [if_pos rfl, M_55z]
          unfold f_X12_readCity_111 f_X12_readCity_134
          rw [g11, obs, if_pos (show no1 = -1 from rfl), q72_c, obs, M_look hT' he, cN_mk, h3, if_neg (show ¬ sgI (sg t N e) = -1 from fun h => h4 ((sgI_n hs').mp h)), q72_c, obs, M_fails0, cN_mk]
      | inr q =>
        obtain ⟨vs, j1⟩ := q
        obtain ⟨hv, hj0, hj1, hj2, hj3⟩ := hpb.1 vs j1 hp0
        rw [hp0] at hcl
        obtain ⟨m', fr, hx, hM'⟩ := hcl
        dsimp only at hx hM' ⊢
        have hc' := okC_add h0 hc hv
        have hT' : TX m' r t N a b := TX_fr hT (fr.2 8 (by omega) (by omega) (by omega)) (fr.2 9 (by omega) (by omega) (by omega)) (fr.1 a (by omega) (by omega) (by omega) (by omega))
        have hs' := sg_lt hT' hj1
        rw [hx, cN_mk, g11, obs, if_pos (show no1 = -1 from rfl), q72_c, obs, M_look hT' hj1, cN_mk, hj2]
        by_cases hz : sg t N j1 = 0
        · rw [if_neg (show ¬ sgI (sg t N j1) = 59 by rw [l59]; exact fun h => by have := (sgI_c hs' (by omega) (by omega)).mp h; omega), if_pos hz]
          unfold f_X12_readCity_92 f_X12_readCity_93
          rw [if_pos rfl, M_55z, M_111 hT' hc' hM' hj1, hj2]
          by_cases hw : whole (addK (kndC (sg t N i) c - 1) vs c) = true
          · rw [if_pos ⟨hz, hw⟩, if_pos hw]
            exact ⟨m', _, fr, rfl, hM', hc', hw⟩
          · rw [if_neg (fun h => hw h.2), if_neg hw]
            exact ⟨by omega, m', _, fr, rfl⟩
        · have h59 : sg t N j1 = 59 := by omega
          have hp1 := sg_pos (t := t) (N := N) (i := j1) (by omega)
          rw [if_pos (show sgI (sg t N j1) = 59 by rw [l59]; exact (sgI_c hs' (by omega) (by omega)).mpr h59), if_neg hz]
          unfold f_X12_readCity_93
          rw [if_neg (show ¬ (1 : Int32) = 0 by decide), g10, obs, show Int32.ofNat j1 + 1 = Int32.ofNat (j1 + 1) by rw [l1, i_add], p10, obs]
          rw [hj2] at hp1
          have hih := ih (j1 + 1) (f + 1) (addK (kndC (sg t N i) c - 1) vs c) m' (by omega) (by omega) (by omega) (by omega) hT' hc' hM'
          cases hr : pCy t N g (addK (kndC (sg t N i) c - 1) vs c) (j1 + 1) with
          | inl e =>
            rw [hr] at hih
            obtain ⟨he, m2, x2, f2, h2⟩ := hih
            exact ⟨he, m2, x2, FCy_tr fr f2, h2⟩
          | inr c2 =>
            rw [hr] at hih
            obtain ⟨m2, x2, f2, h2, h3⟩ := hih
            exact ⟨m2, x2, FCy_tr fr f2, h2, h3⟩
theorem M_readCity {tp : TP} (hD : ∀ a, 1000000 ≤ a → D a = none) (hT : TMd m tp) (hN : tp.2 ≤ 240) (hb : ∀ q, q < tp.2 → 1 ≤ tp.1 q ∧ tp.1 q < 256) : ∃ m', f_X12_readCity 72 (mkH n z D m j r) = some ((), mkH n z D m' j (wR r 72 5 (some 73))) ∧ (∀ a, a ≠ 72 → a ≠ 78 → a ≠ 80 → a ≠ 82 → m' a = m a) ∧ (∀ i, ¬ (8 ≤ i ∧ i ≤ 11) → i ≠ 28 → i ≠ 29 → i ≠ 31 → m' 72 i = m 72 i) ∧ (match pCy tp.1 tp.2 300 cy0 0 with
    | .inl e => e ≤ 1000 ∧ m' 72 11 = Int32.ofNat e
    | .inr c => m' 72 11 = no1 ∧ MCY m' c ∧ okC c ∧ whole c = true) := by
  have em1 : ((-1 : Int32)) = no1 := rfl
  generalize hm1 : wI (wI (wI (wI (wI (wI (wI (wI m 72 8 (Int32.ofNat 0)) 72 9 (Int32.ofNat tp.2)) 72 28 (Int32.ofNat 0)) 72 29 (Int32.ofNat 0)) 72 31 (Int32.ofNat 0)) 78 0 (Int32.ofNat 8)) 78 1 (Int32.ofNat 20)) 78 2 (Int32.ofNat 3) = m1
  have a1 : ∀ a', a' ≠ 72 → a' ≠ 78 → m1 a' = m a' := fun a' h h' => by rw [← hm1, wI_ne h', wI_ne h', wI_ne h', wI_ne h, wI_ne h, wI_ne h, wI_ne h, wI_ne h]
  have f1 : ∀ i, i ≠ 8 → i ≠ 9 → i ≠ 28 → i ≠ 29 → i ≠ 31 → m1 72 i = m 72 i := fun i h8 h9 h28 h29 h31 => by rw [← hm1, wI_ne (by omega), wI_ne (by omega), wI_ne (by omega), wI_sn h31, wI_sn h29, wI_sn h28, wI_sn h9, wI_sn h8]
  have hTX : TX m1 (wR r 72 5 (some 73)) tp.1 tp.2 73 0 := by
    refine ⟨by simp [wR, va_up], ?_, ?_, hN, Or.inl ⟨rfl, rfl⟩, fun q hq => ?_⟩
    · rw [← hm1]; simp (disch := omega) only [wI_ne, wI_sn, wI_se]
    · rw [← hm1]; simp (disch := omega) only [wI_ne, wI_sn, wI_se]
    · rw [a1 73 (by omega) (by omega), Nat.zero_add]
      exact ⟨hT.2 q hq, hb q hq⟩
  have hM0 : MCY m1 cy0 := by
    refine ⟨?_, ?_, ?_, fun k hk => ?_, fun q hq => absurd hq (Nat.not_lt_zero _), fun q hq => absurd hq (Nat.not_lt_zero _)⟩
    · rw [← hm1]; simp (disch := omega) only [wI_ne, wI_sn, wI_se]; rfl
    · rw [← hm1]; simp (disch := omega) only [wI_ne, wI_sn, wI_se]; rfl
    · rw [← hm1]; simp (disch := omega) only [wI_ne, wI_sn, wI_se]; rfl
    · have : k = 0 ∨ k = 1 ∨ k = 2 := by omega
      rcases this with rfl | rfl | rfl
      · rw [← hm1]; simp (disch := omega) only [wI_ne, wI_sn, wI_se]; rfl
      · rw [← hm1]; simp (disch := omega) only [wI_ne, wI_sn, wI_se]; rfl
      · rw [← hm1]; simp (disch := omega) only [wI_ne, wI_sn, wI_se]; rfl
  generalize hm0 : wI (wI (wI (wI (wI (wI (wI m 72 8 (Int32.ofNat 0)) 72 9 (Int32.ofNat tp.2)) 72 10 (Int32.ofNat 0)) 72 11 no1) 72 28 (Int32.ofNat 0)) 72 29 (Int32.ofNat 0)) 72 31 (Int32.ofNat 0) = m0
  have hmem : wI (wI (wI m0 78 0 (Int32.ofNat 8)) 78 1 (Int32.ofNat 20)) 78 2 (Int32.ofNat 3) = s3 m1 (Int32.ofNat 0) no1 (m 72 12) := by
    funext a' i
    by_cases h : a' = 72
    · subst h
      rw [wI_ne (by omega), wI_ne (by omega), wI_ne (by omega), ← hm0]
      by_cases h11 : i = 11
      · subst h11; rw [s3_11]; simp (disch := omega) only [wI_sn, wI_se]
      by_cases h10 : i = 10
      · subst h10; rw [s3_10]; simp (disch := omega) only [wI_sn, wI_se]
      by_cases h12 : i = 12
      · subst h12; rw [s3_12]; simp (disch := omega) only [wI_sn, wI_se]
      rw [s3_o (by omega), ← hm1]
      by_cases h31 : i = 31
      · subst h31; simp (disch := omega) only [wI_ne, wI_sn, wI_se]
      by_cases h29 : i = 29
      · subst h29; simp (disch := omega) only [wI_ne, wI_sn, wI_se]
      by_cases h28 : i = 28
      · subst h28; simp (disch := omega) only [wI_ne, wI_sn, wI_se]
      by_cases h9 : i = 9
      · subst h9; simp (disch := omega) only [wI_ne, wI_sn, wI_se]
      by_cases h8 : i = 8
      · subst h8; simp (disch := omega) only [wI_ne, wI_sn, wI_se]
      simp (disch := omega) only [wI_ne, wI_sn]
    · rw [s3_a h, ← hm1]
      have e0 : ∀ q, m0 a' q = m a' q := fun q => by rw [← hm0, wI_ne h, wI_ne h, wI_ne h, wI_ne h, wI_ne h, wI_ne h, wI_ne h]
      by_cases h78 : a' = 78
      · subst h78
        by_cases q2 : i = 2
        · subst q2; rw [wI_se, wI_se]
        rw [wI_sn q2, wI_sn q2]
        by_cases q1 : i = 1
        · subst q1; rw [wI_se, wI_se]
        rw [wI_sn q1, wI_sn q1]
        by_cases q0 : i = 0
        · subst q0; rw [wI_se, wI_se]
        rw [wI_sn q0, wI_sn q0, e0, wI_ne (by omega), wI_ne (by omega), wI_ne (by omega), wI_ne (by omega), wI_ne (by omega)]
      · rw [wI_ne h78, wI_ne h78, wI_ne h78, wI_ne h78, wI_ne h78, wI_ne h78, e0, wI_ne h, wI_ne h, wI_ne h, wI_ne h, wI_ne h]
  have g1 : gR [12] (mkH n z D m j r) 72 1 = some 73 := gR_mk rfl (by decide) rfl
  have g6 : gI [12] (mkH n z D m j r) 72 6 = some (Int32.ofNat tp.2) := by rw [gI_mk rfl (by decide) rfl, hT.1]
  have z31 : ∀ (m : MI) (r : MR), pZ [12] (mkH n z D m j r) 72 31 (Int32.ofNat 0) = some (mkH n z D (wI m 72 31 (Int32.ofNat 0)) j r) := fun m r => q72_z31
  have s30 : f_X12_readCity 72 (mkH n z D m j r) = f_X12_readCity_30 fu 72 (Int32.ofNat 0) (mkH n z D m0 j (wR r 72 5 (some 73))) := by
    rw [← hm0]
    unfold f_X12_readCity f_X12_readCity_0 f_X12_starts f_X12_starts_0
    rw [g1, obs, g6, obs, q72_c, obs]
    simp only [obs, cN_mk, ite_true, ite_false, if_true, if_false, q72, em1, l0, z31]
  have g19 : ∀ mm rr, gR [12] (mkH n z D mm j rr) 72 19 = some 78 := fun mm rr => gR_mk rfl (by decide) rfl
  have st30 : ∀ (k f : Nat) (mm : MI) (rr : MR), k < 3 → f_X12_readCity_30 (f + 1) 72 (Int32.ofNat k) (mkH n z D mm j rr) = f_X12_readCity_30 f 72 (Int32.ofNat (k + 1)) (mkH n z D (wI mm 78 k (Int32.ofNat (us 0 k))) j rr) := by
    intro k f mm rr hk
    have e3 := (M_least (h := mkH n z D mm j rr) (K := 0) (k := k) (by omega) hk).2.2
    rw [f_X12_readCity_30.eq_2, if_neg (show ¬ (3 : Int32) ≤ Int32.ofNat k by rw [l3, i_le (by omega) (by omega)]; omega), g19, obs, l115]
    have ech : Int32.ofNat (chK 0) = Int32.ofNat 115 := rfl
    rw [← ech, e3, cN_mk, p78.2 k _ hk, obs, l1, i_add]
  have start : f_X12_readCity 72 (mkH n z D m j r) = f_X12_readCity_55 fu 72 1 (mkH n z D (s3 m1 (Int32.ofNat 0) no1 (m 72 12)) j (wR r 72 5 (some 73))) := by
    rw [s30, ← hmem]
    have ef : ∀ h, f_X12_readCity_30 fu 72 (Int32.ofNat 0) h = f_X12_readCity_30 (9996 + 1 + 1 + 1 + 1) 72 (Int32.ofNat 0) h := fun _ => rfl
    rw [ef, st30 0 _ _ _ (by omega), st30 1 _ _ _ (by omega), st30 2 _ _ _ (by omega), f_X12_readCity_30.eq_2, if_pos (show (3 : Int32) ≤ Int32.ofNat (2 + 1) by rw [l3, i_le (by omega) (by omega)]; omega)]
    rfl
  rw [start]
  have h := M_city55 (n := n) (z := z) (D := D) (j := j) (d := m 72 12) hD 300 0 fu cy0 m1 (by omega) (by unfold fu; omega) (by unfold fu; omega) (Nat.zero_le _) hTX okC_0 hM0
  have fr3 : ∀ m2 x2 e2, FCy m1 m2 → (∀ a, a ≠ 72 → a ≠ 78 → a ≠ 80 → a ≠ 82 → s3 m2 x2 e2 (m 72 12) a = m a) ∧ (∀ i, ¬ (8 ≤ i ∧ i ≤ 11) → i ≠ 28 → i ≠ 29 → i ≠ 31 → s3 m2 x2 e2 (m 72 12) 72 i = m 72 i) := by
    intro m2 x2 e2 hf
    refine ⟨fun a h1 h2 h3 h4 => by rw [s3_a h1, hf.1 a h1 h2 h3 h4, a1 a h1 h2], fun i h1 h2 h3 h4 => ?_⟩
    by_cases h12 : i = 12
    · subst h12; rw [s3_12]
    · rw [s3_o (by omega), hf.2 i h2 h3 h4, f1 i (by omega) (by omega) h2 h3 h4]
  cases hp : pCy tp.1 tp.2 300 cy0 0 with
  | inl e =>
    rw [hp] at h
    obtain ⟨he, m2, x2, f2, e2⟩ := h
    exact ⟨_, e2, (fr3 m2 x2 _ f2).1, (fr3 m2 x2 _ f2).2, he, s3_11⟩
  | inr c =>
    rw [hp] at h
    obtain ⟨m2, x2, f2, e2, hM2, hc2, hw2⟩ := h
    refine ⟨_, e2, (fr3 m2 x2 _ f2).1, (fr3 m2 x2 _ f2).2, s3_11, ?_, hc2, hw2⟩
    obtain ⟨b1, b2, b3, b4, b5, b6⟩ := hM2
    exact ⟨by rw [s3_o (by omega)]; exact b1, by rw [s3_o (by omega)]; exact b2, by rw [s3_o (by omega)]; exact b3, by rw [s3_a (by omega)]; exact b4, by rw [s3_a (by omega)]; exact b5, by rw [s3_a (by omega)]; exact b6⟩
end MCZ
