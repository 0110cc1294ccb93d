/-! The class reads the city. -/
def CCY (m : MI) (c : CY) : Prop := m 4 0 = Int32.ofNat c.2.2.1 ∧ m 4 1 = Int32.ofNat c.2.2.2.2.1 ∧ m 4 2 = Int32.ofNat (c.2.1 0) ∧ m 4 3 = Int32.ofNat (c.2.1 1) ∧ m 4 4 = Int32.ofNat (c.2.1 2) ∧ m 3 5 = bI c.1 ∧ (∀ q, q < c.2.2.1 → m 5 q = Int32.ofNat (c.2.2.2.1 q 0) ∧ m 6 q = Int32.ofNat (c.2.2.2.1 q 1)) ∧ (∀ q, q < c.2.2.2.2.1 → m 7 q = Int32.ofNat (c.2.2.2.2.2 q 0) ∧ m 8 q = Int32.ofNat (c.2.2.2.2.2 q 1) ∧ m 9 q = Int32.ofNat (c.2.2.2.2.2 q 2) ∧ m 10 q = Int32.ofNat (c.2.2.2.2.2 q 3) ∧ m 11 q = Int32.ofNat (c.2.2.2.2.2 q 4) ∧ m 12 q = Int32.ofNat (c.2.2.2.2.2 q 5))
def FCc (m m' : MI) : Prop := ∀ a, ¬ (3 ≤ a ∧ a ≤ 13) → m' a = m a
theorem FCc_tr {m m' m'' : MI} (h : FCc m m') (h' : FCc m' m'') : FCc m m'' := fun a ha => (h' a ha).trans (h a ha)
section CCI
variable {n z : Nat} {D : Dyn} {m : MI} {j : MJ} {r : MR} {t : Nat → Nat} {N i : Nat} {x w : Int32}
theorem rs_w3 {q : Nat} {y : Int32} (h1 : q ≠ 1) (h2 : q ≠ 2) : wI (rs m 3 x w) 3 q y = rs (wI m 3 q y) 3 x w := by
  funext b k
  by_cases hb : b = 3
  · subst hb
    by_cases hk : k = q
    · subst hk; rw [wI_se, rs_o h1 h2, wI_se]
    · rw [wI_sn hk]
      unfold rs
      rw [if_pos rfl, if_pos rfl, wI_sn hk]
  · rw [wI_ne hb, rs_a hb, rs_a hb, wI_ne hb]
theorem TC_fc {m m' : MI} (hT : TC m t N) (h : FCc m m') : TC m' t N := by
  unfold TC
  rw [h 1 (by omega), h 2 (by omega)]
  exact hT
theorem C_stands {c : CY} (hc : okC c) (hM : CCY m c) : f_X10_stands 4 (mkH n z D (rs m 3 x w) j r) = some (bI (whole c), mkH n z D (rs m 3 x w) j r) := by
  obtain ⟨b1, b2, b3, b4, b5⟩ := hc
  obtain ⟨m1, m2, m3, m4, m5, m6, m7, m8⟩ := hM
  have g0 : gI [10] (mkH n z D (rs m 3 x w) j r) 4 0 = some (Int32.ofNat c.2.2.1) := by rw [gI_mk rfl (by decide) rfl, rs_a (by omega), m1]
  have g1 : gI [10] (mkH n z D (rs m 3 x w) j r) 4 1 = some (Int32.ofNat c.2.2.2.2.1) := by rw [gI_mk rfl (by decide) rfl, rs_a (by omega), m2]
  have g10 : gR [10] (mkH n z D (rs m 3 x w) j r) 4 10 = some 10 := gR_mk rfl (by decide) rfl
  have g11 : gR [10] (mkH n z D (rs m 3 x w) j r) 4 11 = some 11 := gR_mk rfl (by decide) rfl
  have whF : ∀ q p, p ≤ q → wh c.2.2.1 c.2.2.2.2.2 p = false → wh c.2.2.1 c.2.2.2.2.2 q = false := by
    intro q p hpq hp
    induction q with
    | zero => have : p = 0 := by omega
              subst this; exact hp
    | succ q ih =>
      by_cases h : p = q + 1
      · rw [← h]; exact hp
      · rw [wh, ih (by omega)]; rfl
  unfold f_X10_stands f_X10_stands_0
  rw [g0, obs]
  by_cases h2 : c.2.2.1 < 2
  · rw [if_pos (by rw [l2, i_lt (by omega) (by omega)]; exact h2)]
    unfold whole
    rw [decide_eq_false (show ¬ (2 ≤ c.2.2.1 ∧ 1 ≤ c.2.2.2.2.1) by omega), Bool.and_false]
    rfl
  rw [if_neg (by rw [l2, i_lt (by omega) (by omega)]; exact h2), g1, obs]
  by_cases h1 : 1 ≤ c.2.2.2.2.1
  · rw [if_pos (by rw [l1, i_le (by omega) (by omega)]; exact h1)]
    have lp : ∀ (rem p fuel : Nat), p + rem = c.2.2.2.2.1 → rem < fuel → wh c.2.2.1 c.2.2.2.2.2 p = true → f_X10_stands_20 fuel 4 (Int32.ofNat p) (mkH n z D (rs m 3 x w) j r) = some (bI (whole c), mkH n z D (rs m 3 x w) j r) := by
      intro rem
      induction rem with
      | zero =>
        intro p fuel hp hf hw
        obtain ⟨f, rfl⟩ : ∃ f, fuel = f + 1 := ⟨fuel - 1, by omega⟩
        have hp' : p = c.2.2.2.2.1 := by omega
        rw [f_X10_stands_20.eq_2, g1, obs, if_pos ((i_le (by omega) (by omega)).mpr (by omega))]
        unfold whole
        rw [decide_eq_true (show (2 ≤ c.2.2.1 ∧ 1 ≤ c.2.2.2.2.1) by omega), ← hp', hw]
        rfl
      | succ rem ih =>
        intro p fuel hp hf hw
        obtain ⟨f, rfl⟩ : ∃ f, fuel = f + 1 := ⟨fuel - 1, by omega⟩
        have hpl : p < c.2.2.2.2.1 := by omega
        have v3 := b5 p hpl 3 (by omega)
        have v4 := b5 p hpl 4 (by omega)
        have h34 : hi 2 3 = 4 ∧ hi 2 4 = 4 := by decide
        have r3 : aI 0 (mkH n z D (rs m 3 x w) j r) 10 (Int32.ofNat p) = some (Int32.ofNat (c.2.2.2.2.2 p 3)) := by rw [p10.1 _ (by omega), rs_a (by omega), (m8 p hpl).2.2.2.1]
        have r4 : aI 0 (mkH n z D (rs m 3 x w) j r) 11 (Int32.ofNat p) = some (Int32.ofNat (c.2.2.2.2.2 p 4)) := by rw [p11.1 _ (by omega), rs_a (by omega), (m8 p hpl).2.2.2.2.1]
        have fin : (¬ (c.2.2.2.2.2 p 3 < c.2.2.1 ∧ c.2.2.2.2.2 p 4 < c.2.2.1 ∧ c.2.2.2.2.2 p 3 ≠ c.2.2.2.2.2 p 4)) → whole c = false := by
          intro hn
          unfold whole
          have : wh c.2.2.1 c.2.2.2.2.2 (p + 1) = false := by rw [wh, hw, decide_eq_false hn]; rfl
          rw [whF c.2.2.2.2.1 (p + 1) (by omega) this]
          rfl
        rw [f_X10_stands_20.eq_2, g1, obs, if_neg (fun h => by have := (i_le (by omega) (by omega)).mp h; omega), g10, obs, r3, obs, g11, obs, r4, obs]
        by_cases e34 : c.2.2.2.2.2 p 3 = c.2.2.2.2.2 p 4
        · rw [if_pos (by rw [e34]), fin (by omega)]
          rfl
        rw [if_neg (fun h => e34 ((i_inj (by omega) (by omega)).mp h))]
        simp only [obs, g0, g10, g11, r3, r4]
        by_cases h3 : c.2.2.1 ≤ c.2.2.2.2.2 p 3
        · rw [if_pos ((i_le (by omega) (by omega)).mpr h3), fin (by omega)]
          rfl
        rw [if_neg (fun h => h3 ((i_le (by omega) (by omega)).mp h))]
        by_cases h4 : c.2.2.2.2.2 p 4 < c.2.2.1
        · rw [if_pos ((i_lt (by omega) (by omega)).mpr h4), l1, i_add]
          exact ih (p + 1) f (by omega) (by omega) (by rw [wh, hw, decide_eq_true (by omega)]; rfl)
        · rw [if_neg (fun h => h4 ((i_lt (by omega) (by omega)).mp h)), fin (by omega)]
          rfl
    rw [l0]
    exact lp c.2.2.2.2.1 0 fu (by omega) (by unfold fu; omega) rfl
  · rw [if_neg (by rw [l1, i_le (by omega) (by omega)]; exact h1)]
    unfold whole
    rw [decide_eq_false (show ¬ (2 ≤ c.2.2.1 ∧ 1 ≤ c.2.2.2.2.1) by omega), Bool.and_false]
    rfl
def JC (n z : Nat) (D : Dyn) (m : MI) (j : MJ) (r : MR) (w : Int32) (K : Nat) (c : CY) (res : Option (Int32 × AH)) (p : Nat ⊕ (VS × Nat)) : Prop := match p with
  | .inl e => ∃ m' x, FCc m m' ∧ res = some (Int32.ofNat 0, mkH n z D (rs m' 3 x (Int32.ofNat e)) j r)
  | .inr q => ∃ m', FCc m m' ∧ res = some (Int32.ofNat 1, mkH n z D (rs m' 3 (Int32.ofNat q.2) w) j r) ∧ CCY m' (addK K q.1 c)
theorem C_rules {c : CY} (hD : ∀ a, 1000000 ≤ a → D a = none) (hT : TC m t N) (hM : CCY m c) (hi0 : i + 1 ≤ N) : JC n z D m j r w 0 c (f_X0_readsRules 3 (mkH n z D (rs m 3 (Int32.ofNat i) w) j r)) (pIt t N 0 300 0 (us 0) (i + 1)) := by
  obtain ⟨m1, m2, m3, m4, m5, m6, m7, m8⟩ := hM
  have z5 : ∀ y, pZ [0] (mkH n z D (rs m 3 y w) j r) 3 5 1 = some (mkH n z D (rs (wI m 3 5 1) 3 y w) j r) := fun y => by rw [pZ_mk (Or.inr rfl) rfl (by decide) rfl, rs_w3 (by omega) (by omega)]
  have hT1 : TC (wI m 3 5 1) t N := by unfold TC; rw [wI_ne (by omega), wI_ne (by omega)]; exact hT
  have h := C_items (n := n) (z := z) (D := D) (m := wI m 3 5 1) (j := j) (r := r) (w := w) (K := 0) hD (by omega) hT1 hi0
  unfold f_X0_readsRules f_X0_readsRules_0
  rw [Q_pos.1, obs, show Int32.ofNat i + 1 = Int32.ofNat (i + 1) by rw [l1, i_add], Q_pos.2, obs, z5, obs, c3, obs]
  cases hr : pIt t N 0 300 0 (us 0) (i + 1) with
  | inl e =>
    rw [hr] at h
    obtain ⟨m', x', hf', hx⟩ := h
    refine ⟨m', x', fun a ha => by rw [hf' a (by omega), wI_ne (by omega)], ?_⟩
    have hx' : f_X0_readsItems 3 2000000 1000000 1000001 1000002 (mkH n z D (rs (wI m 3 5 1) 3 (Int32.ofNat (i + 1)) w) j r) = _ := hx
    rw [hx', cN_mk, if_pos (show Int32.ofNat 0 = 0 from rfl)]
    rfl
  | inr q =>
    rw [hr] at h
    obtain ⟨m', hf', hx, hv⟩ := h
    have hx' : f_X0_readsItems 3 2000000 1000000 1000001 1000002 (mkH n z D (rs (wI m 3 5 1) 3 (Int32.ofNat (i + 1)) w) j r) = _ := hx
    have g3 : gR [0] (mkH n z D (rs m' 3 (Int32.ofNat q.2) w) j r) 3 3 = some 4 := gR_mk rfl (by decide) rfl
    have g4 : gR [0] (mkH n z D (rs m' 3 (Int32.ofNat q.2) w) j r) 3 4 = some 13 := gR_mk rfl (by decide) rfl
    have c10 : ∀ mm : MI, isC [10] (mkH n z D mm j r) 4 = some () := fun mm => isC_mk rfl (by decide)
    have a13 : ∀ (mm : MI) k, k < 6 → aI 0 (mkH n z D mm j r) 13 (Int32.ofNat k) = some (mm 13 k) := fun mm k hk => p13.1 k hk
    have pv : ∀ (mm : MI) k v, (k = 2 ∨ k = 3 ∨ k = 4) → pV [10] (mkH n z D mm j r) 4 k (.int v) = some (mkH n z D (wI mm 4 k v) j r) := fun mm k v hk => by rcases hk with rfl | rfl | rfl <;> exact pI_mk rfl (by decide) rfl
    have hset : f_X10_setRules 4 13 (mkH n z D (rs m' 3 (Int32.ofNat q.2) w) j r) = some ((), mkH n z D (rs (wI (wI (wI m' 4 2 (m' 13 0)) 4 3 (m' 13 1)) 4 4 (m' 13 2)) 3 (Int32.ofNat q.2) w) j r) := by
      unfold f_X10_setRules f_X10_setRules_0
      rw [l0, l1, l2, a13 _ 0 (by omega), obs, pv _ 2 _ (by omega), obs, a13 _ 1 (by omega), obs, pv _ 3 _ (by omega), obs, a13 _ 2 (by omega), obs, pv _ 4 _ (by omega), obs]
      simp (disch := omega) only [rs_w, rs_a, wI_ne]
    have fr : ∀ a, a ≠ 4 → a ≠ 13 → a ≠ 3 → m' a = m a := fun a _ h13 h3 => by rw [hf' a h13, wI_ne h3]
    refine ⟨wI (wI (wI m' 4 2 (m' 13 0)) 4 3 (m' 13 1)) 4 4 (m' 13 2), fun a ha => ?_, ?_, ?_⟩
    · simp (disch := omega) only [wI_ne]; exact fr a (by omega) (by omega) (by omega)
    · rw [hx', cN_mk, if_neg (show ¬ Int32.ofNat 1 = 0 by decide), g3, obs, g4, obs, c10, obs, hset, cN_mk]
      rfl
    · have k0 := hv 0 (by decide)
      have k1 := hv 1 (by decide)
      have k2 := hv 2 (by decide)
      have h4 : ∀ q, m' 4 q = m 4 q := fun q => by rw [hf' 4 (by omega), wI_ne (by omega)]
      have h35 : m' 3 5 = bI true := by rw [hf' 3 (by omega), wI_se]; rfl
      refine ⟨?_, ?_, ?_, ?_, ?_, ?_, fun q' hq => ?_, fun q' hq => ?_⟩
      · simp (disch := omega) only [wI_sn]; rw [h4]; exact m1
      · simp (disch := omega) only [wI_sn]; rw [h4]; exact m2
      · simp (disch := omega) only [wI_sn, wI_se]; exact k0
      · simp (disch := omega) only [wI_sn, wI_se]; exact k1
      · simp (disch := omega) only [wI_sn, wI_se]; exact k2
      · simp (disch := omega) only [wI_ne]; exact h35
      · simp (disch := omega) only [wI_ne]; rw [fr 5 (by omega) (by omega) (by omega), fr 6 (by omega) (by omega) (by omega)]; exact m7 q' hq
      · simp (disch := omega) only [wI_ne]; rw [fr 7 (by omega) (by omega) (by omega), fr 8 (by omega) (by omega) (by omega), fr 9 (by omega) (by omega) (by omega), fr 10 (by omega) (by omega) (by omega), fr 11 (by omega) (by omega) (by omega), fr 12 (by omega) (by omega) (by omega)]; exact m8 q' hq
theorem C_corner {c : CY} (hD : ∀ a, 1000000 ≤ a → D a = none) (hT : TC m t N) (hM : CCY m c) (hlt : c.2.2.1 < 5) (hi0 : i + 1 ≤ N) : JC n z D m j r w 1 c (f_X0_readsCorner 3 (mkH n z D (rs m 3 (Int32.ofNat i) w) j r)) (pIt t N 1 300 0 (us 1) (i + 1)) := by
  obtain ⟨m1, m2, m3, m4, m5, m6, m7, m8⟩ := hM
  have h := C_items (n := n) (z := z) (D := D) (m := m) (j := j) (r := r) (w := w) (K := 1) hD (by omega) hT hi0
  unfold f_X0_readsCorner f_X0_readsCorner_0
  rw [Q_pos.1, obs, show Int32.ofNat i + 1 = Int32.ofNat (i + 1) by rw [l1, i_add], Q_pos.2, obs, c3, obs]
  cases hr : pIt t N 1 300 0 (us 1) (i + 1) with
  | inl e =>
    rw [hr] at h
    obtain ⟨m', x', hf', hx⟩ := h
    refine ⟨m', x', fun a ha => hf' a (by omega), ?_⟩
    have hx' : f_X0_readsItems 3 2000001 1000003 1000004 1000005 (mkH n z D (rs m 3 (Int32.ofNat (i + 1)) w) j r) = _ := hx
    rw [hx', cN_mk, if_pos (show Int32.ofNat 0 = 0 from rfl)]
    rfl
  | inr q =>
    rw [hr] at h
    obtain ⟨m', hf', hx, hv⟩ := h
    have hx' : f_X0_readsItems 3 2000001 1000003 1000004 1000005 (mkH n z D (rs m 3 (Int32.ofNat (i + 1)) w) j r) = _ := hx
    have g3 : gR [0] (mkH n z D (rs m' 3 (Int32.ofNat q.2) w) j r) 3 3 = some 4 := gR_mk rfl (by decide) rfl
    have g4 : gR [0] (mkH n z D (rs m' 3 (Int32.ofNat q.2) w) j r) 3 4 = some 13 := gR_mk rfl (by decide) rfl
    have c10 : ∀ mm : MI, isC [10] (mkH n z D mm j r) 4 = some () := fun mm => isC_mk rfl (by decide)
    have h4 : m' 4 = m 4 := hf' 4 (by omega)
    generalize hm2 : wI (wI (wI m' 5 c.2.2.1 (m' 13 0)) 6 c.2.2.1 (m' 13 1)) 4 0 (Int32.ofNat (c.2.2.1 + 1)) = m2'
    have hadd : f_X10_addCorner 4 13 (mkH n z D (rs m' 3 (Int32.ofNat q.2) w) j r) = some ((), mkH n z D (rs m2' 3 (Int32.ofNat q.2) w) j r) := by
      have r0 : m' 4 0 = Int32.ofNat c.2.2.1 := by rw [h4, m1]
      unfold f_X10_addCorner f_X10_addCorner_0
      simp (disch := omega) only [obs, cN_mk, ite_true, ite_false, if_true, if_false, q4, r0, l0, l1, p13, rs_a, p5, p6, wI_ne, i_add, rs_w, hm2]
    have fr : ∀ a, a ≠ 4 → a ≠ 5 → a ≠ 6 → a ≠ 13 → m2' a = m a := fun a h4 h5 h6 h13 => by rw [← hm2, wI_ne h4, wI_ne h6, wI_ne h5, hf' a h13]
    refine ⟨m2', fun a ha => fr a (by omega) (by omega) (by omega) (by omega), ?_, ?_⟩
    · rw [hx', cN_mk, if_neg (show ¬ Int32.ofNat 1 = 0 by decide), g3, obs, g4, obs, c10, obs, hadd, cN_mk]
      rfl
    · have k0 := hv 0 (by decide)
      have k1 := hv 1 (by decide)
      refine ⟨?_, ?_, ?_, ?_, ?_, ?_, fun q' hq => ?_, fun q' hq => ?_⟩
      · rw [← hm2, wI_se]; rfl
      · rw [← hm2, wI_sn (by omega), wI_ne (by omega), wI_ne (by omega), h4]; exact m2
      · rw [← hm2, wI_sn (by omega), wI_ne (by omega), wI_ne (by omega), h4]; exact m3
      · rw [← hm2, wI_sn (by omega), wI_ne (by omega), wI_ne (by omega), h4]; exact m4
      · rw [← hm2, wI_sn (by omega), wI_ne (by omega), wI_ne (by omega), h4]; exact m5
      · rw [fr 3 (by omega) (by omega) (by omega) (by omega)]; exact m6
      · have hq2 : q' < c.2.2.1 + 1 := hq
        show m2' 5 q' = Int32.ofNat (uV2 c.2.2.2.1 c.2.2.1 q.1 q' 0) ∧ m2' 6 q' = Int32.ofNat (uV2 c.2.2.2.1 c.2.2.1 q.1 q' 1)
        unfold uV2
        rw [← hm2]
        by_cases hqc : q' = c.2.2.1
        · subst hqc
          simp (disch := omega) only [wI_ne, wI_se, if_true]
          exact ⟨k0, k1⟩
        · simp (disch := omega) only [wI_ne, wI_sn]
          rw [if_neg hqc, hf' 5 (by omega), hf' 6 (by omega)]
          exact m7 q' (by omega)
      · rw [fr 7 (by omega) (by omega) (by omega) (by omega), fr 8 (by omega) (by omega) (by omega) (by omega), fr 9 (by omega) (by omega) (by omega) (by omega), fr 10 (by omega) (by omega) (by omega) (by omega), fr 11 (by omega) (by omega) (by omega) (by omega), fr 12 (by omega) (by omega) (by omega) (by omega)]; exact m8 q' hq
theorem C_person {c : CY} (hD : ∀ a, 1000000 ≤ a → D a = none) (hT : TC m t N) (hM : CCY m c) (hlt : c.2.2.2.2.1 < 6) (hi0 : i + 1 ≤ N) : JC n z D m j r w 2 c (f_X0_readsPerson 3 (mkH n z D (rs m 3 (Int32.ofNat i) w) j r)) (pIt t N 2 300 0 (us 2) (i + 1)) := by
  obtain ⟨m1, m2, m3, m4, m5, m6, m7, m8⟩ := hM
  have h := C_items (n := n) (z := z) (D := D) (m := m) (j := j) (r := r) (w := w) (K := 2) hD (by omega) hT hi0
  unfold f_X0_readsPerson f_X0_readsPerson_0
  rw [Q_pos.1, obs, show Int32.ofNat i + 1 = Int32.ofNat (i + 1) by rw [l1, i_add], Q_pos.2, obs, c3, obs]
  cases hr : pIt t N 2 300 0 (us 2) (i + 1) with
  | inl e =>
    rw [hr] at h
    obtain ⟨m', x', hf', hx⟩ := h
    refine ⟨m', x', fun a ha => hf' a (by omega), ?_⟩
    have hx' : f_X0_readsItems 3 2000002 1000006 1000007 1000008 (mkH n z D (rs m 3 (Int32.ofNat (i + 1)) w) j r) = _ := hx
    rw [hx', cN_mk, if_pos (show Int32.ofNat 0 = 0 from rfl)]
    rfl
  | inr q =>
    rw [hr] at h
    obtain ⟨m', hf', hx, hv⟩ := h
    have hx' : f_X0_readsItems 3 2000002 1000006 1000007 1000008 (mkH n z D (rs m 3 (Int32.ofNat (i + 1)) w) j r) = _ := hx
    have g3 : gR [0] (mkH n z D (rs m' 3 (Int32.ofNat q.2) w) j r) 3 3 = some 4 := gR_mk rfl (by decide) rfl
    have g4 : gR [0] (mkH n z D (rs m' 3 (Int32.ofNat q.2) w) j r) 3 4 = some 13 := gR_mk rfl (by decide) rfl
    have c10 : ∀ mm : MI, isC [10] (mkH n z D mm j r) 4 = some () := fun mm => isC_mk rfl (by decide)
    have h4 : m' 4 = m 4 := hf' 4 (by omega)
    generalize hm2 : wI (wI (wI (wI (wI (wI (wI m' 7 c.2.2.2.2.1 (m' 13 0)) 8 c.2.2.2.2.1 (m' 13 1)) 9 c.2.2.2.2.1 (m' 13 2)) 10 c.2.2.2.2.1 (m' 13 3)) 11 c.2.2.2.2.1 (m' 13 4)) 12 c.2.2.2.2.1 (m' 13 5)) 4 1 (Int32.ofNat (c.2.2.2.2.1 + 1)) = m2'
    have hadd : f_X10_addPerson 4 13 (mkH n z D (rs m' 3 (Int32.ofNat q.2) w) j r) = some ((), mkH n z D (rs m2' 3 (Int32.ofNat q.2) w) j r) := by
      have r0 : m' 4 1 = Int32.ofNat c.2.2.2.2.1 := by rw [h4, m2]
      unfold f_X10_addPerson f_X10_addPerson_0
      simp (disch := omega) only [obs, cN_mk, ite_true, ite_false, if_true, if_false, q4, r0, l0, l1, l2, l3, l4, l5, p13, rs_a, p7, p8, p9, p10, p11, p12, wI_ne, i_add, rs_w, hm2]
    have fr : ∀ a, a ≠ 4 → ¬ (7 ≤ a ∧ a ≤ 13) → m2' a = m a := fun a h4 h7 => by rw [← hm2, wI_ne h4, wI_ne (by omega), wI_ne (by omega), wI_ne (by omega), wI_ne (by omega), wI_ne (by omega), wI_ne (by omega), hf' a (by omega)]
    refine ⟨m2', fun a ha => fr a (by omega) (by omega), ?_, ?_⟩
    · rw [hx', cN_mk, if_neg (show ¬ Int32.ofNat 1 = 0 by decide), g3, obs, g4, obs, c10, obs, hadd, cN_mk]
      rfl
    · have k0 := hv 0 (by decide)
      have k1 := hv 1 (by decide)
      have k2 := hv 2 (by decide)
      have k3 := hv 3 (by decide)
      have k4 := hv 4 (by decide)
      have k5 := hv 5 (by decide)
      have e4 : ∀ q, q ≠ 1 → m2' 4 q = m 4 q := fun q hq => by rw [← hm2, wI_sn hq, wI_ne (by omega), wI_ne (by omega), wI_ne (by omega), wI_ne (by omega), wI_ne (by omega), wI_ne (by omega), h4]
      refine ⟨?_, ?_, ?_, ?_, ?_, ?_, fun q' hq => ?_, fun q' hq => ?_⟩
      · rw [e4 0 (by omega)]; exact m1
      · rw [← hm2, wI_se]; rfl
      · rw [e4 2 (by omega)]; exact m3
      · rw [e4 3 (by omega)]; exact m4
      · rw [e4 4 (by omega)]; exact m5
      · rw [fr 3 (by omega) (by omega)]; exact m6
      · rw [fr 5 (by omega) (by omega), fr 6 (by omega) (by omega)]; exact m7 q' hq
      · have hq2 : q' < c.2.2.2.2.1 + 1 := hq
        show m2' 7 q' = Int32.ofNat (uV2 c.2.2.2.2.2 c.2.2.2.2.1 q.1 q' 0) ∧ m2' 8 q' = Int32.ofNat (uV2 c.2.2.2.2.2 c.2.2.2.2.1 q.1 q' 1) ∧ m2' 9 q' = Int32.ofNat (uV2 c.2.2.2.2.2 c.2.2.2.2.1 q.1 q' 2) ∧ m2' 10 q' = Int32.ofNat (uV2 c.2.2.2.2.2 c.2.2.2.2.1 q.1 q' 3) ∧ m2' 11 q' = Int32.ofNat (uV2 c.2.2.2.2.2 c.2.2.2.2.1 q.1 q' 4) ∧ m2' 12 q' = Int32.ofNat (uV2 c.2.2.2.2.2 c.2.2.2.2.1 q.1 q' 5)
        unfold uV2
        rw [← hm2]
        by_cases hqc : q' = c.2.2.2.2.1
        · subst hqc
          simp (disch := omega) only [wI_ne, wI_se, if_true]
          exact ⟨k0, k1, k2, k3, k4, k5⟩
        · simp (disch := omega) only [wI_ne, wI_sn]
          rw [if_neg hqc, hf' 7 (by omega), hf' 8 (by omega), hf' 9 (by omega), hf' 10 (by omega), hf' 11 (by omega), hf' 12 (by omega)]
          exact m8 q' (by omega)
end CCI
