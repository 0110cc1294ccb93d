/-! The class reads the city: all clauses. -/
section CCZ
variable {n z : Nat} {D : Dyn} {m : MI} {j : MJ} {r : MR} {t : Nat → Nat} {N i : Nat} {x w : Int32}
theorem JC_rZ {K : Nat} {c : CY} {res : Option (Int32 × AH)} {p : Nat ⊕ (VS × Nat)} {m0 : MI} (h : JC n z D m j r w K c res p) : JC n z D m j r w K c (cN res (mkH n z D m0 j r) fun v h => rZ v h) p := by
  cases p with
  | inl e =>
    obtain ⟨m', x', hf, hx⟩ := h
    exact ⟨m', x', hf, by rw [hx, cN_mk, rZ0]⟩
  | inr q =>
    obtain ⟨m', hf, hx, hv⟩ := h
    exact ⟨m', hf, by rw [hx, cN_mk, rZ1], hv⟩
theorem C_rdClause {c : CY} (hD : ∀ a, 1000000 ≤ a → D a = none) (hT : TC m t N) (hc : okC c) (hM : CCY m c) (hi0 : i ≤ N) :
    (kndC (sg t N i) c = 0 → f_X0_readsClause 3 (mkH n z D (rs m 3 (Int32.ofNat i) w) j r) = some (Int32.ofNat 0, mkH n z D (rs m 3 (Int32.ofNat (sk t N i)) (Int32.ofNat (sk t N i))) j r)) ∧
    (kndC (sg t N i) c ≠ 0 → JC n z D m j r w (kndC (sg t N i) c - 1) c (f_X0_readsClause 3 (mkH n z D (rs m 3 (Int32.ofNat i) w) j r)) (pIt t N (kndC (sg t N i) c - 1) 300 0 (us (kndC (sg t N i) c - 1)) (sk t N i + 1))) := by
  have hs := sg_ltC (i := i) hT
  have hk := sk_le (t := t) hi0
  obtain ⟨b1, b2, b3, b4, b5⟩ := hc
  have hM' := hM
  obtain ⟨m1, m2, m3, m4, m5, m6, m7, m8⟩ := hM
  have g5 : ∀ y, gI [0] (mkH n z D (rs m 3 y w) j r) 3 5 = some (bI c.1) := fun y => by rw [gI_mk (ci := 0) rfl (by decide) rfl, rs_o (by omega) (by omega), m6]
  have g3 : ∀ mm : MI, gR [0] (mkH n z D mm j r) 3 3 = some 4 := fun mm => gR_mk rfl (by decide) rfl
  have g40 : ∀ y, gI [10] (mkH n z D (rs m 3 y w) j r) 4 0 = some (Int32.ofNat c.2.2.1) := fun y => by rw [gI_mk rfl (by decide) rfl, rs_a (by omega), m1]
  have g41 : ∀ y, gI [10] (mkH n z D (rs m 3 y w) j r) 4 1 = some (Int32.ofNat c.2.2.2.2.1) := fun y => by rw [gI_mk rfl (by decide) rfl, rs_a (by omega), m2]
  have c115 : (sgI (sg t N i) = 115) ↔ sg t N i = 115 := by rw [l115]; exact sgI_c hs (by omega) (by omega)
  have c99 : (sgI (sg t N i) = 99) ↔ sg t N i = 99 := by rw [l99]; exact sgI_c hs (by omega) (by omega)
  have c112 : (sgI (sg t N i) = 112) ↔ sg t N i = 112 := by rw [l112]; exact sgI_c hs (by omega) (by omega)
  have h68 : f_X0_readsClause_68 3 (mkH n z D (rs m 3 (Int32.ofNat (sk t N i)) w) j r) = some (Int32.ofNat 0, mkH n z D (rs m 3 (Int32.ofNat (sk t N i)) (Int32.ofNat (sk t N i))) j r) := by
    unfold f_X0_readsClause_68
    rw [Q_pos.1, obs, c3, obs, C_fails o3, cN_mk, rZ0]
  have k115 : ∀ h : sg t N i = 115, kndC (sg t N i) c = if c.1 = false then 1 else 0 := by
    intro h
    unfold kndC
    by_cases h2 : c.1 = false
    · rw [if_pos ⟨h, h2⟩, if_pos h2]
    · rw [if_neg (fun e => h2 e.2), if_neg (fun e => by omega), if_neg (fun e => by omega), if_neg h2]
  have k99 : ∀ h : sg t N i = 99, kndC (sg t N i) c = if c.2.2.1 < 5 then 2 else 0 := by
    intro h
    unfold kndC
    rw [if_neg (fun e => by omega)]
    by_cases h2 : c.2.2.1 < 5
    · rw [if_pos ⟨h, h2⟩, if_pos h2]
    · rw [if_neg (fun e => h2 e.2), if_neg (fun e => by omega), if_neg h2]
  have k112 : ∀ h : sg t N i = 112, kndC (sg t N i) c = if c.2.2.2.2.1 < 6 then 3 else 0 := by
    intro h
    unfold kndC
    rw [if_neg (fun e => by omega), if_neg (fun e => by omega)]
    by_cases h2 : c.2.2.2.2.1 < 6
    · rw [if_pos ⟨h, h2⟩, if_pos h2]
    · rw [if_neg (fun e => h2 e.2), if_neg h2]
  have kno : ∀ (_ : sg t N i ≠ 115) (_ : sg t N i ≠ 99) (_ : sg t N i ≠ 112), kndC (sg t N i) c = 0 := by
    intro h1 h2 h3
    unfold kndC
    rw [if_neg (fun e => h1 e.1), if_neg (fun e => h2 e.1), if_neg (fun e => h3 e.1)]
  unfold f_X0_readsClause f_X0_readsClause_0 f_X0_readsClause_23 f_X0_readsClause_45
  rw [c3, obs, C_sign o3 hT hi0, cN_mk]
  by_cases h1 : sg t N i = 115
  · have hp := sg_pos (t := t) (N := N) (i := i) (by omega)
    rw [if_pos (c115.mpr h1), g5, obs, k115 h1]
    by_cases h2 : c.1 = false
    · rw [if_pos (show bI c.1 = 0 by rw [h2]; rfl), if_pos h2, c3, obs]
      refine ⟨fun h => absurd h (by decide), fun _ => ?_⟩
      exact JC_rZ (C_rules hD hT hM' (by omega))
    · rw [if_neg (show ¬ bI c.1 = 0 by rw [l0, bI_0]; exact h2), if_neg h2, if_neg (show ¬ sgI (sg t N i) = 99 from fun h => by have := c99.mp h; omega), if_neg (show ¬ sgI (sg t N i) = 112 from fun h => by have := c112.mp h; omega), h68]
      exact ⟨fun _ => rfl, fun h => absurd rfl h⟩
  rw [if_neg (fun h => h1 (c115.mp h))]
  by_cases h3 : sg t N i = 99
  · have hp := sg_pos (t := t) (N := N) (i := i) (by omega)
    rw [if_pos (c99.mpr h3), g3, obs, g40, obs, k99 h3]
    by_cases h4 : c.2.2.1 < 5
    · rw [if_neg (show ¬ (5 : Int32) ≤ Int32.ofNat c.2.2.1 by rw [l5, i_le (by omega) (by omega)]; omega), if_pos h4, c3, obs]
      refine ⟨fun h => absurd h (by decide), fun _ => ?_⟩
      exact JC_rZ (C_corner hD hT hM' h4 (by omega))
    · rw [if_pos (show (5 : Int32) ≤ Int32.ofNat c.2.2.1 by rw [l5, i_le (by omega) (by omega)]; omega), if_neg h4, if_neg (show ¬ sgI (sg t N i) = 112 from fun h => by have := c112.mp h; omega), h68]
      exact ⟨fun _ => rfl, fun h => absurd rfl h⟩
  rw [if_neg (show ¬ sgI (sg t N i) = 99 from fun h => h3 (c99.mp h))]
  by_cases h5 : sg t N i = 112
  · have hp := sg_pos (t := t) (N := N) (i := i) (by omega)
    rw [if_pos (c112.mpr h5), g3, obs, g41, obs, k112 h5]
    by_cases h6 : c.2.2.2.2.1 < 6
    · rw [if_neg (show ¬ (6 : Int32) ≤ Int32.ofNat c.2.2.2.2.1 by rw [l6, i_le (by omega) (by omega)]; omega), if_pos h6, c3, obs]
      refine ⟨fun h => absurd h (by decide), fun _ => ?_⟩
      exact JC_rZ (C_person hD hT hM' h6 (by omega))
    · rw [if_pos (show (6 : Int32) ≤ Int32.ofNat c.2.2.2.2.1 by rw [l6, i_le (by omega) (by omega)]; omega), if_neg h6, h68]
      exact ⟨fun _ => rfl, fun h => absurd rfl h⟩
  rw [if_neg (show ¬ sgI (sg t N i) = 112 from fun h => h5 (c112.mp h)), h68, kno h1 h3 h5]
  exact ⟨fun _ => rfl, fun h => absurd rfl h⟩
def GCc (n z : Nat) (D : Dyn) (m : MI) (j : MJ) (r : MR) (w : Int32) (res : Option (Int32 × AH)) (p : Nat ⊕ CY) : Prop := match p with
  | .inl e => ∃ m' x, FCc m m' ∧ res = some (Int32.ofNat 0, mkH n z D (rs m' 3 x (Int32.ofNat e)) j r)
  | .inr c => ∃ m' x, FCc m m' ∧ res = some (Int32.ofNat 1, mkH n z D (rs m' 3 x w) j r) ∧ CCY m' c
theorem C_city28 (hD : ∀ a, 1000000 ≤ a → D a = none) : ∀ (g i cnt fuel : Nat) (c : CY) (m : MI), N - i < g → N - i < fuel → i ≤ N → cnt + (N - i) ≤ 240 → TC m t N → okC c → CCY m c → GCc n z D m j r w (f_X0_reads_28 fuel 3 (Int32.ofNat cnt) (mkH n z D (rs m 3 (Int32.ofNat i) w) j r)) (pCy t N g c i) := by
  intro g
  induction g with
  | zero => intro i cnt fuel c m h; omega
  | succ g ih =>
    intro i cnt fuel c m hg hf hi0 hcnt hT hc hM
    obtain ⟨f, rfl⟩ : ∃ f, fuel = f + 1 := ⟨fuel - 1, by omega⟩
    have hN := hT.2.1
    have hk := sk_le (t := t) hi0
    obtain ⟨cl0, cl1⟩ := C_rdClause (n := n) (z := z) (D := D) (m := m) (j := j) (r := r) (w := w) hD hT hc hM hi0
    rw [f_X0_reads_28.eq_2, if_neg (show ¬ (240 : Int32) < Int32.ofNat cnt by rw [l240, i_lt (by omega) (by omega)]; omega), c3, obs, pCy]
    by_cases h0 : kndC (sg t N i) c = 0
    · rw [if_pos h0, cl0 h0, cN_mk, if_pos (show Int32.ofNat 0 = 0 from rfl)]
      exact ⟨m, _, fun _ _ => rfl, rfl⟩
    · rw [if_neg h0]
      have hp := sg_pos (t := t) (N := N) (i := i) (by
        intro e; apply h0; rw [e]; unfold kndC; rw [if_neg (by omega), if_neg (by omega), if_neg (by omega)])
      have hcl := cl1 h0
      have hK3 : kndC (sg t N i) c - 1 < 3 := by rcases knd_b h0 with ⟨h, _⟩ | ⟨h, _⟩ | ⟨h, _⟩ <;> omega
      have hkl := kl_all _ hK3
      have hpb := pIt_b (t := t) (N := N) hK3 300 0 (us (kndC (sg t N i) c - 1)) (sk t N i + 1) (by omega) (fun k hk => ⟨(hkl.2.2.2 k hk).1, (hkl.2.2.2 k hk).2.1⟩)
      cases hp0 : pIt t N (kndC (sg t N i) c - 1) 300 0 (us (kndC (sg t N i) c - 1)) (sk t N i + 1) with
      | inl e =>
        rw [hp0] at hcl
        obtain ⟨m', x', fr, hx⟩ := hcl
        rw [hx, cN_mk, if_pos (show Int32.ofNat 0 = 0 from rfl)]
        exact ⟨m', x', fr, rfl⟩
      | inr q =>
        obtain ⟨vs, j1⟩ := q
        obtain ⟨hv, hj0, hj1, hj2, hj3⟩ := hpb.1 vs j1 hp0
        rw [hp0] at hcl
        obtain ⟨m', fr, hx, hM'⟩ := hcl
        dsimp only at hx hM' ⊢
        have hc' := okC_add h0 hc hv
        have hT' : TC m' t N := TC_fc hT fr
        have hs' := sg_ltC (i := j1) hT'
        have g3 : ∀ mm : MI, gR [0] (mkH n z D mm j r) 3 3 = some 4 := fun mm => gR_mk rfl (by decide) rfl
        have c10 : ∀ mm : MI, isC [10] (mkH n z D mm j r) 4 = some () := fun mm => isC_mk rfl (by decide)
        rw [hx, cN_mk, if_neg (show ¬ Int32.ofNat 1 = 0 by decide), c3, obs, C_sign o3 hT' hj1, cN_mk, hj2]
        by_cases hz : sg t N j1 = 0
        · rw [if_pos (show sgI (sg t N j1) = -1 from (sgI_n hs').mpr hz), if_pos hz, g3, obs, c10, obs, C_stands hc' hM', cN_mk]
          by_cases hw : whole (addK (kndC (sg t N i) c - 1) vs c) = true
          · rw [if_neg (by simp [hw, bI]), if_pos hw]
            exact ⟨m', _, fr, rfl, hM'⟩
          · rw [if_pos (by simp [hw, bI]), if_neg hw, Q_pos.1, obs, c3, obs, C_fails o3, cN_mk, if_pos (show Int32.ofNat 0 = 0 from rfl)]
            exact ⟨m', _, fr, rfl⟩
        · have h59 : sg t N j1 = 59 := by omega
          have hp1 := sg_pos (t := t) (N := N) (i := j1) (by omega)
          rw [hj2] at hp1
          rw [if_neg (show ¬ sgI (sg t N j1) = -1 from fun h => hz ((sgI_n hs').mp h)), if_neg hz, Q_pos.1, obs, show Int32.ofNat j1 + 1 = Int32.ofNat (j1 + 1) by rw [l1, i_add], Q_pos.2, obs, show Int32.ofNat cnt + 1 = Int32.ofNat (cnt + 1) by rw [l1, i_add]]
          have hih := ih (j1 + 1) (cnt + 1) f (addK (kndC (sg t N i) c - 1) vs c) m' (by omega) (by omega) (by omega) (by omega) hT' hc' hM'
          cases hr : pCy t N g (addK (kndC (sg t N i) c - 1) vs c) (j1 + 1) with
          | inl e =>
            rw [hr] at hih
            obtain ⟨m2, x2, f2, h2⟩ := hih
            exact ⟨m2, x2, FCc_tr fr f2, h2⟩
          | inr c2 =>
            rw [hr] at hih
            obtain ⟨m2, x2, f2, h2, h3⟩ := hih
            exact ⟨m2, x2, FCc_tr fr f2, h2, h3⟩
theorem C_readsC (hD : ∀ a, 1000000 ≤ a → D a = none) (hT : TC m t N) : ∃ m', f_X0_reads 3 (mkH n z D m j r) = some (bI (match pCy t N 300 cy0 0 with | .inl _ => false | .inr _ => true), mkH n z D m' j r) ∧ (∀ a, ¬ (3 ≤ a ∧ a ≤ 13) → m' a = m a) ∧ (match pCy t N 300 cy0 0 with
      | .inl e => m' 3 2 = Int32.ofNat e
      | .inr c => CCY m' c) := by
  have hN := hT.2.1
  have em1 : ((-1 : Int32)) = no1 := rfl
  generalize hm1 : wI (wI (wI (wI (wI (wI m 4 0 (Int32.ofNat 0)) 4 1 (Int32.ofNat 0)) 4 2 (Int32.ofNat 8)) 4 3 (Int32.ofNat 20)) 4 4 (Int32.ofNat 3)) 3 5 (Int32.ofNat 0) = m1
  have fr1 : FCc m m1 := fun a ha => by rw [← hm1]; simp (disch := omega) only [wI_ne]
  have hM0 : CCY m1 cy0 := by
    refine ⟨?_, ?_, ?_, ?_, ?_, ?_, fun q hq => absurd hq (Nat.not_lt_zero _), fun q hq => absurd hq (Nat.not_lt_zero _)⟩
    · rw [← hm1]; simp (disch := omega) only [wI_ne, wI_sn, wI_se]; rfl
    · rw [← hm1]; simp (disch := omega) only [wI_ne, wI_sn, wI_se]; rfl
    · rw [← hm1]; simp (disch := omega) only [wI_ne, wI_sn, wI_se]; rfl
    · rw [← hm1]; simp (disch := omega) only [wI_ne, wI_sn, wI_se]; rfl
    · rw [← hm1]; simp (disch := omega) only [wI_ne, wI_sn, wI_se]; rfl
    · rw [← hm1]; simp (disch := omega) only [wI_ne, wI_sn, wI_se]; rfl
  have start : f_X0_reads 3 (mkH n z D m j r) = f_X0_reads_28 fu 3 (Int32.ofNat 0) (mkH n z D (rs m1 3 (Int32.ofNat 0) no1) j r) := by
    have hmem0 : wI (wI m 3 1 (Int32.ofNat 0)) 3 2 no1 = rs m 3 (Int32.ofNat 0) no1 := by
      funext a q
      by_cases h3 : a = 3
      · subst h3
        by_cases h2 : q = 2
        · subst h2; rw [wI_se, rs_2]
        rw [wI_sn h2]
        by_cases h1 : q = 1
        · subst h1; rw [wI_se, rs_1]
        rw [wI_sn h1, rs_o h1 h2]
      · rw [wI_ne h3, wI_ne h3, rs_a h3]
    have hst := fun mm : MI => st_a (n := n) (z := z) (m := mm) (j := j) (r := r) hD (show 2 < 9 by omega)
    have hv := (st_v 0 (by omega)).2.2
    have r0 : ∀ (mm : MI) k, k < 3 → aI 0 (mkH n z D mm j r) 1000002 (Int32.ofNat k) = some (Int32.ofNat (us 0 k)) := fun mm k hk => by
      have h1 := (hst mm).2.2 k (by rw [show (2 : Nat) = 3 * 0 + 2 from rfl, hv.1]; exact hk)
      rw [show (2 : Nat) = 3 * 0 + 2 from rfl, (hv.2 k hk).2.2] at h1
      exact h1
    have hset : ∀ mm : MI, f_X10_setRules 4 1000002 (mkH n z D mm j r) = some ((), mkH n z D (wI (wI (wI mm 4 2 (Int32.ofNat 8)) 4 3 (Int32.ofNat 20)) 4 4 (Int32.ofNat 3)) j r) := fun mm => by
      have pv : ∀ (mm : MI) k v, (k = 2 ∨ k = 3 ∨ k = 4) → pV [10] (mkH n z D mm j r) 4 k (.int v) = some (mkH n z D (wI mm 4 k v) j r) := fun mm k v hk => by rcases hk with rfl | rfl | rfl <;> exact pI_mk rfl (by decide) rfl
      unfold f_X10_setRules f_X10_setRules_0
      rw [l0, l1, l2, r0 _ 0 (by omega), obs, pv _ 2 _ (by omega), obs, r0 _ 1 (by omega), obs, pv _ 3 _ (by omega), obs, r0 _ 2 (by omega), obs, pv _ 4 _ (by omega), obs]
      rfl
    have z5 : ∀ mm : MI, pZ [0] (mkH n z D mm j r) 3 5 0 = some (mkH n z D (wI mm 3 5 0) j r) := fun mm => pZ_mk (Or.inl rfl) rfl (by decide) rfl
    have hstart : f_X5_start 3 (mkH n z D m j r) = some ((), mkH n z D (rs m 3 (Int32.ofNat 0) no1) j r) := by
      unfold f_X5_start f_X5_start_0
      rw [(rq o3).2.2.2.1, obs, (rq o3).2.2.2.2, obs, em1, l0, hmem0]
    have hclear : ∀ mm : MI, f_X10_clear 4 (mkH n z D mm j r) = some ((), mkH n z D (wI (wI mm 4 0 (Int32.ofNat 0)) 4 1 (Int32.ofNat 0)) j r) := fun mm => by
      unfold f_X10_clear f_X10_clear_0
      simp (disch := omega) only [obs, cN_mk, ite_true, ite_false, if_true, if_false, q4, l0]
    have g3 : ∀ mm : MI, gR [0] (mkH n z D mm j r) 3 3 = some 4 := fun mm => gR_mk rfl (by decide) rfl
    have c10 : ∀ mm : MI, isC [10] (mkH n z D mm j r) 4 = some () := fun mm => isC_mk rfl (by decide)
    unfold f_X0_reads f_X0_reads_0
    rw [c3, obs, hstart, cN_mk, g3, obs, c10, obs, hclear, cN_mk, g3, obs, c10, obs, hset, cN_mk, z5, obs, l0]
    congr 2
    rw [← hm1, rs_w (by omega), rs_w (by omega), rs_w (by omega), rs_w (by omega), rs_w (by omega), rs_w3 (by omega) (by omega)]
  rw [start]
  have h := C_city28 (n := n) (z := z) (D := D) (j := j) (r := r) (w := no1) hD 300 0 0 fu cy0 m1 (by omega) (by unfold fu; omega) (Nat.zero_le _) (by omega) (TC_fc hT fr1) okC_0 hM0
  cases hp : pCy t N 300 cy0 0 with
  | inl e =>
    rw [hp] at h
    obtain ⟨m2, x2, f2, e2⟩ := h
    exact ⟨_, e2, fun a ha => by rw [rs_a (by omega), f2 a ha, fr1 a ha], rs_2⟩
  | inr c =>
    rw [hp] at h
    obtain ⟨m2, x2, f2, e2, hM2⟩ := h
    refine ⟨_, e2, fun a ha => by rw [rs_a (by omega), f2 a ha, fr1 a ha], ?_⟩
    obtain ⟨a1, a2, a3, a4, a5, a6, a7, a8⟩ := hM2
    exact ⟨by rw [rs_a (by omega)]; exact a1, by rw [rs_a (by omega)]; exact a2, by rw [rs_a (by omega)]; exact a3, by rw [rs_a (by omega)]; exact a4, by rw [rs_a (by omega)]; exact a5, by rw [rs_o (by omega) (by omega)]; exact a6, by rw [rs_a (by omega), rs_a (by omega)]; exact a7, by rw [rs_a (by omega), rs_a (by omega), rs_a (by omega), rs_a (by omega), rs_a (by omega), rs_a (by omega)]; exact a8⟩
end CCZ
