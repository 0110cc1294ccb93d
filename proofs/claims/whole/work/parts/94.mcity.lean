/-! The model reads the city: the whole. -/
/-- rules told, rules, how many corners, corners, how many people, people -/
abbrev CY : Type := Bool × VS × Nat × (Nat → VS) × Nat × (Nat → VS)
def uV2 (v : Nat → VS) (k : Nat) (x : VS) : Nat → VS := fun q => if q = k then x else v q
def cy0 : CY := (false, us 0, 0, fun _ _ => 0, 0, fun _ _ => 0)
def kndC (s : Nat) (c : CY) : Nat := if s = 115 ∧ c.1 = false then 1 else if s = 99 ∧ c.2.2.1 < 5 then 2 else if s = 112 ∧ c.2.2.2.2.1 < 6 then 3 else 0
def addK (K : Nat) (vs : VS) (c : CY) : CY := if K = 0 then (true, vs, c.2.2.1, c.2.2.2.1, c.2.2.2.2.1, c.2.2.2.2.2) else if K = 1 then (c.1, c.2.1, c.2.2.1 + 1, uV2 c.2.2.2.1 c.2.2.1 vs, c.2.2.2.2.1, c.2.2.2.2.2) else (c.1, c.2.1, c.2.2.1, c.2.2.2.1, c.2.2.2.2.1 + 1, uV2 c.2.2.2.2.2 c.2.2.2.2.1 vs)
def wh (nc : Nat) (pv : Nat → VS) : Nat → Bool
  | 0 => true
  | p + 1 => wh nc pv p && decide (pv p 3 < nc ∧ pv p 4 < nc ∧ pv p 3 ≠ pv p 4)
def whole (c : CY) : Bool := wh c.2.2.1 c.2.2.2.2.2 c.2.2.2.2.1 && decide (2 ≤ c.2.2.1 ∧ 1 ≤ c.2.2.2.2.1)
def pCy (t : Nat → Nat) (N : Nat) : Nat → CY → Nat → Nat ⊕ CY
  | 0, _, _ => .inl 0
  | g + 1, c, i => if kndC (sg t N i) c = 0 then .inl (sk t N i) else match pIt t N (kndC (sg t N i) c - 1) 300 0 (us (kndC (sg t N i) c - 1)) (sk t N i + 1) with
    | .inl e => .inl e
    | .inr q => if sg t N q.2 = 0 then (if whole (addK (kndC (sg t N i) c - 1) q.1 c) = true then .inr (addK (kndC (sg t N i) c - 1) q.1 c) else .inl q.2) else pCy t N g (addK (kndC (sg t N i) c - 1) q.1 c) (q.2 + 1)
/-- a city whose values keep their bounds -/
def okC (c : CY) : Prop := c.2.2.1 ≤ 5 ∧ c.2.2.2.2.1 ≤ 6 ∧ (∀ k, k < 3 → lo 0 k ≤ c.2.1 k ∧ c.2.1 k ≤ hi 0 k) ∧ (∀ q, q < c.2.2.1 → ∀ k, k < 2 → lo 1 k ≤ c.2.2.2.1 q k ∧ c.2.2.2.1 q k ≤ hi 1 k) ∧ (∀ q, q < c.2.2.2.2.1 → ∀ k, k < 6 → lo 2 k ≤ c.2.2.2.2.2 q k ∧ c.2.2.2.2.2 q k ≤ hi 2 k)
theorem okC_0 : okC cy0 := ⟨by decide, by decide, fun k hk => by have : ∀ k, k < 3 → lo 0 k ≤ us 0 k ∧ us 0 k ≤ hi 0 k := by decide
                                                                 exact this k hk, fun q hq => absurd hq (Nat.not_lt_zero _), fun q hq => absurd hq (Nat.not_lt_zero _)⟩
theorem knd_b {s : Nat} {c : CY} (h : kndC s c ≠ 0) : (kndC s c = 1 ∧ s = 115 ∧ c.1 = false) ∨ (kndC s c = 2 ∧ s = 99 ∧ c.2.2.1 < 5) ∨ (kndC s c = 3 ∧ s = 112 ∧ c.2.2.2.2.1 < 6) := by
  unfold kndC at h ⊢
  by_cases h1 : s = 115 ∧ c.1 = false
  · rw [if_pos h1]; exact Or.inl ⟨rfl, h1⟩
  · rw [if_neg h1] at h ⊢
    by_cases h2 : s = 99 ∧ c.2.2.1 < 5
    · rw [if_pos h2]; exact Or.inr (Or.inl ⟨rfl, h2⟩)
    · rw [if_neg h2] at h ⊢
      by_cases h3 : s = 112 ∧ c.2.2.2.2.1 < 6
      · rw [if_pos h3]; exact Or.inr (Or.inr ⟨rfl, h3⟩)
      · rw [if_neg h3] at h; exact absurd rfl h
theorem okC_add {s : Nat} {c : CY} {vs : VS} (hk : kndC s c ≠ 0) (hc : okC c) (hv : ∀ k, k < kl (kndC s c - 1) → lo (kndC s c - 1) k ≤ vs k ∧ vs k ≤ hi (kndC s c - 1) k) : okC (addK (kndC s c - 1) vs c) := by
  obtain ⟨a1, a2, a3, a4, a5⟩ := hc
  rcases knd_b hk with ⟨h, _, _⟩ | ⟨h, _, h2⟩ | ⟨h, _, h2⟩ <;> rw [h] at hv ⊢
  · exact ⟨a1, a2, hv, a4, a5⟩
  · refine ⟨by show c.2.2.1 + 1 ≤ 5; omega, a2, a3, fun q hq k hk' => ?_, a5⟩
    have hq' : q < c.2.2.1 + 1 := hq
    show lo 1 k ≤ uV2 c.2.2.2.1 c.2.2.1 vs q k ∧ uV2 c.2.2.2.1 c.2.2.1 vs q k ≤ hi 1 k
    unfold uV2
    split
    · exact hv k hk'
    · exact a4 q (by omega) k hk'
  · refine ⟨a1, by show c.2.2.2.2.1 + 1 ≤ 6; omega, a3, a4, fun q hq k hk' => ?_⟩
    have hq' : q < c.2.2.2.2.1 + 1 := hq
    show lo 2 k ≤ uV2 c.2.2.2.2.2 c.2.2.2.2.1 vs q k ∧ uV2 c.2.2.2.2.2 c.2.2.2.2.1 vs q k ≤ hi 2 k
    unfold uV2
    split
    · exact hv k hk'
    · exact a5 q (by omega) k hk'
def MCY (m : MI) (c : CY) : Prop := m 72 28 = Int32.ofNat c.2.2.1 ∧ m 72 29 = Int32.ofNat c.2.2.2.2.1 ∧ m 72 31 = bI c.1 ∧ (∀ k, k < 3 → m 78 k = Int32.ofNat (c.2.1 k)) ∧ (∀ q, q < c.2.2.1 → ∀ k, k < 2 → m 80 (2 * q + k) = Int32.ofNat (c.2.2.2.1 q k)) ∧ (∀ q, q < c.2.2.2.2.1 → ∀ k, k < 6 → m 82 (6 * q + k) = Int32.ofNat (c.2.2.2.2.2 q k))
def FCy (m m' : MI) : Prop := (∀ a, a ≠ 72 → a ≠ 78 → a ≠ 80 → a ≠ 82 → m' a = m a) ∧ (∀ i, i ≠ 28 → i ≠ 29 → i ≠ 31 → m' 72 i = m 72 i)
theorem FCy_tr {m m' m'' : MI} (h : FCy m m') (h' : FCy m' m'') : FCy m m'' := ⟨fun a h1 h2 h3 h4 => (h'.1 a h1 h2 h3 h4).trans (h.1 a h1 h2 h3 h4), fun i h1 h2 h3 => (h'.2 i h1 h2 h3).trans (h.2 i h1 h2 h3)⟩
section MCW
variable {n z : Nat} {D : Dyn} {m : MI} {j : MJ} {r : MR} {t : Nat → Nat} {N a b i : Nat} {d x e : Int32}
theorem s3_w72 {q : Nat} {y : Int32} (h : ¬ (10 ≤ q ∧ q ≤ 12)) : wI (s3 m x e d) 72 q y = s3 (wI m 72 q y) x e d := by
  funext b k
  by_cases hb : b = 72
  · subst hb
    by_cases hk : k = q
    · subst hk; rw [wI_se, s3_o h, wI_se]
    · rw [wI_sn hk]
      unfold s3
      rw [if_pos rfl, if_pos rfl, wI_sn hk]
  · rw [wI_ne hb, s3_a hb, s3_a hb, wI_ne hb]
theorem M_whole {c : CY} (hc : okC c) (hM : MCY m c) : f_X12_isWhole 72 (mkH n z D (s3 m x e d) j r) = some (bI (whole c), mkH n z D (s3 m x e d) j r) := by
  obtain ⟨b1, b2, b3, b4, b5⟩ := hc
  obtain ⟨m1, m2, m3, m4, m5, m6⟩ := hM
  have g28 : gI [12] (mkH n z D (s3 m x e d) j r) 72 28 = some (Int32.ofNat c.2.2.1) := by rw [gI_mk rfl (by decide) rfl, s3_o (by omega), m1]
  have g29 : gI [12] (mkH n z D (s3 m x e d) j r) 72 29 = some (Int32.ofNat c.2.2.2.2.1) := by rw [gI_mk rfl (by decide) rfl, s3_o (by omega), m2]
  have g23 : gR [12] (mkH n z D (s3 m x e d) j r) 72 23 = some 82 := gR_mk rfl (by decide) rfl
  have whF : ∀ q p, p ≤ q → wh c.2.2.1 c.2.2.2.2.2 p = false → wh c.2.2.1 c.2.2.2.2.2 q = false := by
    intro q p hpq hp
    induction q with
    | zero => have : p = 0 := by omega
              subst this; exact hp
    | succ q ih =>
      by_cases h : p = q + 1
      · rw [← h]; exact hp
      · rw [wh, ih (by omega)]; rfl
  have lp : ∀ (rem p fuel : Nat), p + rem = c.2.2.2.2.1 → rem < fuel → wh c.2.2.1 c.2.2.2.2.2 p = true → f_X12_isWhole_2 fuel 72 (Int32.ofNat p) (mkH n z D (s3 m x e d) j r) = some (bI (whole c), mkH n z D (s3 m x e d) j r) := by
    intro rem
    induction rem with
    | zero =>
      intro p fuel hp hf hw
      obtain ⟨f, rfl⟩ : ∃ f, fuel = f + 1 := ⟨fuel - 1, by omega⟩
      have hp' : p = c.2.2.2.2.1 := by omega
      rw [f_X12_isWhole_2.eq_2, g29, obs, if_pos ((i_le (by omega) (by omega)).mpr (by omega)), g28, obs]
      unfold whole
      rw [← hp', hw, Bool.true_and]
      by_cases h1 : c.2.2.1 ≤ 1
      · rw [if_pos (by rw [l1, i_le (by omega) (by omega)]; exact h1), decide_eq_false (by omega)]
        rfl
      · rw [if_neg (by rw [l1, i_le (by omega) (by omega)]; exact h1), obs]
        by_cases h2 : c.2.2.2.2.1 ≤ 0
        · rw [if_pos (by rw [l0, i_le (by omega) (by omega)]; omega), decide_eq_false (by omega)]
          rfl
        · rw [if_neg (by rw [l0, i_le (by omega) (by omega)]; omega), decide_eq_true (by omega)]
          rfl
    | succ rem ih =>
      intro p fuel hp hf hw
      obtain ⟨f, rfl⟩ : ∃ f, fuel = f + 1 := ⟨fuel - 1, by omega⟩
      have hpl : p < c.2.2.2.2.1 := by omega
      have v3 := b5 p hpl 3 (by omega)
      have v4 := b5 p hpl 4 (by omega)
      have h34 : hi 2 3 = 4 ∧ hi 2 4 = 4 := by decide
      have r3 : aI 0 (mkH n z D (s3 m x e d) j r) 82 (6 * Int32.ofNat p + 3) = some (Int32.ofNat (c.2.2.2.2.2 p 3)) := by
        rw [l6, l3, i_mul, i_add, p82.1 _ (by omega), s3_a (by omega), m6 p hpl 3 (by omega)]
      have r4 : aI 0 (mkH n z D (s3 m x e d) j r) 82 (6 * Int32.ofNat p + 4) = some (Int32.ofNat (c.2.2.2.2.2 p 4)) := by
        rw [l6, l4, i_mul, i_add, p82.1 _ (by omega), s3_a (by omega), m6 p hpl 4 (by omega)]
      have fin : (¬ (c.2.2.2.2.2 p 3 < c.2.2.1 ∧ c.2.2.2.2.2 p 4 < c.2.2.1 ∧ c.2.2.2.2.2 p 3 ≠ c.2.2.2.2.2 p 4)) → whole c = false := by
        intro hn
        unfold whole
        have : wh c.2.2.1 c.2.2.2.2.2 (p + 1) = false := by rw [wh, hw, decide_eq_false hn]; rfl
        rw [whF c.2.2.2.2.1 (p + 1) (by omega) this]
        rfl
      rw [f_X12_isWhole_2.eq_2, g29, obs, if_neg (fun h => by have := (i_le (by omega) (by omega)).mp h; omega), g23, obs, r3, obs, obs, r4, obs, g28, obs]
      by_cases h1 : c.2.2.1 ≤ c.2.2.2.2.2 p 3
      · rw [if_pos ((i_le (by omega) (by omega)).mpr h1), fin (by omega)]
        rfl
      rw [if_neg (fun h => h1 ((i_le (by omega) (by omega)).mp h)), obs]
      by_cases h2 : c.2.2.1 ≤ c.2.2.2.2.2 p 4
      · rw [if_pos ((i_le (by omega) (by omega)).mpr h2), fin (by omega)]
        rfl
      rw [if_neg (fun h => h2 ((i_le (by omega) (by omega)).mp h))]
      by_cases h3 : c.2.2.2.2.2 p 3 = c.2.2.2.2.2 p 4
      · rw [if_pos (by rw [h3]), fin (by omega)]
        rfl
      rw [if_neg (fun h => h3 ((i_inj (by omega) (by omega)).mp h)), l1, i_add]
      exact ih (p + 1) f (by omega) (by omega) (by rw [wh, hw, decide_eq_true (by omega)]; rfl)
  unfold f_X12_isWhole f_X12_isWhole_0
  rw [l0]
  exact lp c.2.2.2.2.1 0 fu (by omega) (by unfold fu; omega) rfl
/-- one clause: what may be read is read -/
theorem M_rdClause {c : CY} (hD : ∀ a, 1000000 ≤ a → D a = none) (hT : TX m r t N a b) (hc : okC c) (hM : MCY m c) (hi0 : i ≤ N) :
    (kndC (sg t N i) c = 0 → f_X12_readClause 72 (mkH n z D (s3 m (Int32.ofNat i) no1 d) j r) = some ((), mkH n z D (s3 m (Int32.ofNat (sk t N i)) (Int32.ofNat (sk t N i)) d) j r)) ∧
    (kndC (sg t N i) c ≠ 0 → match pIt t N (kndC (sg t N i) c - 1) 300 0 (us (kndC (sg t N i) c - 1)) (sk t N i + 1) with
      | .inl e => ∃ m', FCy m m' ∧ ((∃ x, f_X12_readClause 72 (mkH n z D (s3 m (Int32.ofNat i) no1 d) j r) = some ((), mkH n z D (s3 m' x (Int32.ofNat e) d) j r)) ∨ (f_X12_readClause 72 (mkH n z D (s3 m (Int32.ofNat i) no1 d) j r) = some ((), mkH n z D (s3 m' (Int32.ofNat e) no1 d) j r) ∧ sk t N e = e ∧ sg t N e ≠ 0 ∧ sg t N e ≠ 59))
      | .inr q => ∃ m', FCy m m' ∧ f_X12_readClause 72 (mkH n z D (s3 m (Int32.ofNat i) no1 d) j r) = some ((), mkH n z D (s3 m' (Int32.ofNat q.2) no1 d) j r) ∧ MCY m' (addK (kndC (sg t N i) c - 1) q.1 c)) := by
  have hab := hT.2.2.2.2.1
  have hs := sg_lt hT hi0
  have hk := sk_le (t := t) hi0
  obtain ⟨b1, b2, b3, b4, b5⟩ := hc
  obtain ⟨m1, m2, m3, m4, m5, m6⟩ := hM
  have g10 : ∀ mm y, gI [12] (mkH n z D (s3 mm y no1 d) j r) 72 10 = some y := fun mm y => by rw [q72_10, s3_10]
  have p10 : ∀ mm y v, pV [12] (mkH n z D (s3 mm y no1 d) j r) 72 10 (.int v) = some (mkH n z D (s3 mm v no1 d) j r) := fun mm y v => by rw [q72_p10, w10]
  have g28 : ∀ mm y, gI [12] (mkH n z D (s3 mm y no1 d) j r) 72 28 = some (mm 72 28) := fun mm y => by rw [gI_mk rfl (by decide) rfl, s3_o (by omega)]
  have g29 : ∀ mm y, gI [12] (mkH n z D (s3 mm y no1 d) j r) 72 29 = some (mm 72 29) := fun mm y => by rw [gI_mk rfl (by decide) rfl, s3_o (by omega)]
  have g31 : ∀ mm y, gI [12] (mkH n z D (s3 mm y no1 d) j r) 72 31 = some (mm 72 31) := fun mm y => by rw [gI_mk rfl (by decide) rfl, s3_o (by omega)]
  have w28 : ∀ mm y v, pV [12] (mkH n z D (s3 mm y no1 d) j r) 72 28 (.int v) = some (mkH n z D (s3 (wI mm 72 28 v) y no1 d) j r) := fun mm y v => by rw [pI_mk rfl (by decide) rfl, s3_w72 (by omega)]
  have w29 : ∀ mm y v, pV [12] (mkH n z D (s3 mm y no1 d) j r) 72 29 (.int v) = some (mkH n z D (s3 (wI mm 72 29 v) y no1 d) j r) := fun mm y v => by rw [pI_mk rfl (by decide) rfl, s3_w72 (by omega)]
  have z31 : ∀ mm y, pZ [12] (mkH n z D (s3 mm y no1 d) j r) 72 31 1 = some (mkH n z D (s3 (wI mm 72 31 1) y no1 d) j r) := fun mm y => by rw [pZ_mk (Or.inr rfl) rfl (by decide) rfl, s3_w72 (by omega)]
  have gr : ∀ mm, gR [12] (mkH n z D mm j r) 72 19 = some 78 ∧ gR [12] (mkH n z D mm j r) 72 21 = some 80 ∧ gR [12] (mkH n z D mm j r) 72 23 = some 82 := fun mm => ⟨gR_mk rfl (by decide) rfl, gR_mk rfl (by decide) rfl, gR_mk rfl (by decide) rfl⟩
  have c115 : (sgI (sg t N i) = 115) ↔ sg t N i = 115 := by rw [l115]; exact sgI_c hs (by omega) (by omega)
  have c99 : (sgI (sg t N i) = 99) ↔ sg t N i = 99 := by rw [l99]; exact sgI_c hs (by omega) (by omega)
  have c112 : (sgI (sg t N i) = 112) ↔ sg t N i = 112 := by rw [l112]; exact sgI_c hs (by omega) (by omega)
  have b31 : (m 72 31 = 0) ↔ c.1 = false := by rw [m3, l0, bI_0]
  have l5' : (m 72 28 < 5) ↔ c.2.2.1 < 5 := by rw [m1, l5, i_lt (by omega) (by omega)]
  have l6' : (6 ≤ m 72 29) ↔ 6 ≤ c.2.2.2.2.1 := by rw [m2, l6, i_le (by omega) (by omega)]
  have route : f_X12_readClause 72 (mkH n z D (s3 m (Int32.ofNat i) no1 d) j r) = f_X12_readClause_52 72 (sgI (sg t N i)) (if kndC (sg t N i) c = 0 then 0 else 1) (mkH n z D (s3 m (Int32.ofNat (sk t N i)) no1 d) j r) := by
    unfold f_X12_readClause f_X12_readClause_0 f_X12_readClause_18 f_X12_readClause_32 f_X12_readClause_47 f_X12_readClause_51
    rw [q72_c, obs, M_look hT hi0, cN_mk, g31, obs, g28, obs, g29, obs]
    have y1 : ∀ v : Nat, kndC (sg t N i) c = v → v ≠ 0 → (if kndC (sg t N i) c = 0 then (0 : Int32) else 1) = 1 := fun v h h' => if_neg (by omega)
    have y0 : kndC (sg t N i) c = 0 → (if kndC (sg t N i) c = 0 then (0 : Int32) else 1) = 0 := fun h => if_pos h
    by_cases h1 : sg t N i = 115
    · rw [if_pos (c115.mpr h1)]
      by_cases h2 : c.1 = false
      · rw [if_pos (b31.mpr h2), y1 1 (by unfold kndC; rw [if_pos ⟨h1, h2⟩]) (by omega)]
      · rw [if_neg (fun h => h2 (b31.mp h)), if_neg (show ¬ sgI (sg t N i) = 99 from fun h => by have := c99.mp h; omega), if_neg (show ¬ sgI (sg t N i) = 112 from fun h => by have := c112.mp h; omega), y0 (by unfold kndC; rw [if_neg (fun h => h2 h.2), if_neg (fun h => by omega), if_neg (fun h => by omega)])]
    · rw [if_neg (fun h => h1 (c115.mp h))]
      by_cases h3 : sg t N i = 99
      · rw [if_pos (c99.mpr h3)]
        by_cases h4 : c.2.2.1 < 5
        · rw [if_pos (l5'.mpr h4), y1 2 (by unfold kndC; rw [if_neg (fun h => h1 h.1), if_pos ⟨h3, h4⟩]) (by omega)]
        · rw [if_neg (fun h => h4 (l5'.mp h)), if_neg (show ¬ sgI (sg t N i) = 112 from fun h => by have := c112.mp h; omega), y0 (by unfold kndC; rw [if_neg (fun h => h1 h.1), if_neg (fun h => h4 h.2), if_neg (fun h => by omega)])]
      · rw [if_neg (show ¬ sgI (sg t N i) = 99 from fun h => h3 (c99.mp h))]
        by_cases h5 : sg t N i = 112
        · rw [if_pos (c112.mpr h5)]
          by_cases h6 : c.2.2.2.2.1 < 6
          · rw [if_neg (fun h => by have := l6'.mp h; omega), y1 3 (by unfold kndC; rw [if_neg (fun h => h1 h.1), if_neg (fun h => h3 h.1), if_pos ⟨h5, h6⟩]) (by omega)]
          · rw [if_pos (l6'.mpr (by omega)), y0 (by unfold kndC; rw [if_neg (fun h => h1 h.1), if_neg (fun h => h3 h.1), if_neg (fun h => h6 h.2)])]
        · rw [if_neg (show ¬ sgI (sg t N i) = 112 from fun h => h5 (c112.mp h)), y0 (by unfold kndC; rw [if_neg (fun h => h1 h.1), if_neg (fun h => h3 h.1), if_neg (fun h => h5 h.1)])]
  refine ⟨fun h0 => ?_, fun h0 => ?_⟩
  · rw [route, if_pos h0]
    unfold f_X12_readClause_52
    rw [if_pos rfl, q72_c, obs, M_fails0, cN_mk]
  · have hp := sg_pos (t := t) (N := N) (i := i) (by
      intro e; apply h0; rw [e]; unfold kndC; rw [if_neg (by omega), if_neg (by omega), if_neg (by omega)])
    rw [route, if_neg h0]
    have step : f_X12_readClause_52 72 (sgI (sg t N i)) 1 (mkH n z D (s3 m (Int32.ofNat (sk t N i)) no1 d) j r) = if sgI (sg t N i) = 115 then cN (f_X12_readItems 72 (sgI (sg t N i)) 78 0 2000000 (mkH n z D (s3 (wI m 72 31 1) (Int32.ofNat (sk t N i + 1)) no1 d) j r)) (mkH n z D (s3 (wI m 72 31 1) (Int32.ofNat (sk t N i + 1)) no1 d) j r) (fun _ h39 => some ((), h39)) else if sgI (sg t N i) = 99 then cN (f_X12_readItems 72 (sgI (sg t N i)) 80 (Int32.ofNat (2 * c.2.2.1)) 2000001 (mkH n z D (s3 (wI m 72 28 (Int32.ofNat (c.2.2.1 + 1))) (Int32.ofNat (sk t N i + 1)) no1 d) j r)) (mkH n z D (s3 (wI m 72 28 (Int32.ofNat (c.2.2.1 + 1))) (Int32.ofNat (sk t N i + 1)) no1 d) j r) (fun _ h39 => some ((), h39)) else cN (f_X12_readItems 72 (sgI (sg t N i)) 82 (Int32.ofNat (6 * c.2.2.2.2.1)) 2000002 (mkH n z D (s3 (wI m 72 29 (Int32.ofNat (c.2.2.2.2.1 + 1))) (Int32.ofNat (sk t N i + 1)) no1 d) j r)) (mkH n z D (s3 (wI m 72 29 (Int32.ofNat (c.2.2.2.2.1 + 1))) (Int32.ofNat (sk t N i + 1)) no1 d) j r) (fun _ h39 => some ((), h39)) := by
      unfold f_X12_readClause_52
      have e1 : Int32.ofNat (sk t N i) + 1 = Int32.ofNat (sk t N i + 1) := by rw [l1, i_add]
      have e2 : Int32.ofNat c.2.2.1 + 1 = Int32.ofNat (c.2.2.1 + 1) := by rw [l1, i_add]
      have e3 : Int32.ofNat c.2.2.2.2.1 + 1 = Int32.ofNat (c.2.2.2.2.1 + 1) := by rw [l1, i_add]
      have e4 : (2 : Int32) * (Int32.ofNat (c.2.2.1 + 1) - 1) = Int32.ofNat (2 * c.2.2.1) := by rw [l1, i_sub (by omega), Nat.add_sub_cancel, l2, i_mul]
      have e5 : (6 : Int32) * (Int32.ofNat (c.2.2.2.2.1 + 1) - 1) = Int32.ofNat (6 * c.2.2.2.2.1) := by rw [l1, i_sub (by omega), Nat.add_sub_cancel, l6, i_mul]
      rw [if_neg (show ¬ (1 : Int32) = 0 by decide), g10, obs, e1, p10, obs, z31, obs, (gr _).1, obs, q72_c, obs, g28, obs, m1, e2, w28, obs, (gr _).2.1, obs, g28, obs, wI_se, e4, q72_c, obs, g29, obs, m2, e3, w29, obs, (gr _).2.2, obs, g29, obs, wI_se, e5, q72_c, obs]
    rw [step]
    have ech : ∀ K, sg t N i = chK K → 1 ≤ chK K → sgI (sg t N i) = Int32.ofNat (chK K) := fun K h h1 => by rw [h]; exact if_neg (by omega)
    rcases knd_b h0 with ⟨h, hsg, hru⟩ | ⟨h, hsg, hlt⟩ | ⟨h, hsg, hlt⟩ <;> rw [h]
    · rw [if_pos (c115.mpr hsg), ech 0 hsg (by decide)]
      have hT1 : TX (wI m 72 31 1) r t N a b := TX_fr hT (wI_sn (by omega)) (wI_sn (by omega)) (wI_ne (by omega))
      have hio := M_items (n := n) (z := z) (j := j) (d := d) (K := 0) (aK := 78) (R := 0) (Z := 3) hD (by omega) rfl (by decide) (by omega) (by omega) (by omega) hT1 (show sk t N i + 1 ≤ N by omega)
      rw [← l0] at hio
      have fr0 : FCy m (wI m 72 31 1) := ⟨fun a h1 _ _ _ => wI_ne h1, fun i _ _ h31 => wI_sn h31⟩
      have frI : ∀ m', FI (wI m 72 31 1) m' 78 0 0 → FCy m m' := fun m' hf => FCy_tr fr0 ⟨fun a _ h2 _ _ => hf.1 a h2, fun i _ _ _ => by rw [hf.1 72 (by omega)]⟩
      show match pIt t N 0 300 0 (us 0) (sk t N i + 1) with | .inl e => _ | .inr q => _
      cases hp0 : pIt t N 0 300 0 (us 0) (sk t N i + 1) with
      | inl e =>
        rw [hp0] at hio
        obtain ⟨m', hf, hh⟩ := hio
        refine ⟨m', frI m' hf, ?_⟩
        rcases hh with ⟨x, hx⟩ | ⟨hx, h3⟩
        · exact Or.inl ⟨x, by rw [hx, cN_mk]⟩
        · exact Or.inr ⟨by rw [hx, cN_mk], h3⟩
      | inr q =>
        rw [hp0] at hio
        obtain ⟨m', hf, hx, hv⟩ := hio
        refine ⟨m', frI m' hf, by rw [hx, cN_mk], ?_, ?_, ?_, fun k hk => ?_, fun q' hq' k hk => ?_, fun q' hq' k hk => ?_⟩
        · rw [hf.1 72 (by omega), wI_sn (by omega)]; exact m1
        · rw [hf.1 72 (by omega), wI_sn (by omega)]; exact m2
        · rw [hf.1 72 (by omega), wI_se]; rfl
        · have := hv k hk; rw [Nat.zero_add] at this; exact this
        · rw [hf.1 80 (by omega), wI_ne (by omega)]; exact m5 q' hq' k hk
        · rw [hf.1 82 (by omega), wI_ne (by omega)]; exact m6 q' hq' k hk
    · rw [if_neg (fun h => by have := c115.mp h; omega), if_pos (c99.mpr hsg), ech 1 hsg (by decide)]
      have hT1 : TX (wI m 72 28 (Int32.ofNat (c.2.2.1 + 1))) r t N a b := TX_fr hT (wI_sn (by omega)) (wI_sn (by omega)) (wI_ne (by omega))
      have hio := M_items (n := n) (z := z) (j := j) (d := d) (K := 1) (aK := 80) (R := 2 * c.2.2.1) (Z := 10) hD (by omega) rfl (by have : kl 1 = 2 := rfl; omega) (by omega) (by omega) (by omega) hT1 (show sk t N i + 1 ≤ N by omega)
      have fr0 : FCy m (wI m 72 28 (Int32.ofNat (c.2.2.1 + 1))) := ⟨fun a h1 _ _ _ => wI_ne h1, fun i h28 _ _ => wI_sn h28⟩
      have frI : ∀ m', FI (wI m 72 28 (Int32.ofNat (c.2.2.1 + 1))) m' 80 (2 * c.2.2.1) 1 → FCy m m' := fun m' hf => FCy_tr fr0 ⟨fun a _ _ h3 _ => hf.1 a h3, fun i _ _ _ => by rw [hf.1 72 (by omega)]⟩
      show match pIt t N 1 300 0 (us 1) (sk t N i + 1) with | .inl e => _ | .inr q => _
      cases hp0 : pIt t N 1 300 0 (us 1) (sk t N i + 1) with
      | inl e =>
        rw [hp0] at hio
        obtain ⟨m', hf, hh⟩ := hio
        refine ⟨m', frI m' hf, ?_⟩
        rcases hh with ⟨x, hx⟩ | ⟨hx, h3⟩
        · exact Or.inl ⟨x, by rw [hx, cN_mk]⟩
        · exact Or.inr ⟨by rw [hx, cN_mk], h3⟩
      | inr q =>
        rw [hp0] at hio
        obtain ⟨m', hf, hx, hv⟩ := hio
        have k1 : kl 1 = 2 := rfl
        refine ⟨m', frI m' hf, by rw [hx, cN_mk], ?_, ?_, ?_, fun k hk => ?_, fun q' hq' k hk => ?_, fun q' hq' k hk => ?_⟩
        · rw [hf.1 72 (by omega), wI_se]; rfl
        · rw [hf.1 72 (by omega), wI_sn (by omega)]; exact m2
        · rw [hf.1 72 (by omega), wI_sn (by omega)]; exact m3
        · rw [hf.1 78 (by omega), wI_ne (by omega)]; exact m4 k hk
        · have hq2 : q' < c.2.2.1 + 1 := hq'
          show m' 80 (2 * q' + k) = Int32.ofNat (uV2 c.2.2.2.1 c.2.2.1 q.1 q' k)
          unfold uV2
          by_cases hqc : q' = c.2.2.1
          · rw [if_pos hqc, hqc]; exact hv k (by omega)
          · rw [if_neg hqc, hf.2 _ (by omega), wI_ne (by omega)]; exact m5 q' (by omega) k hk
        · rw [hf.1 82 (by omega), wI_ne (by omega)]; exact m6 q' hq' k hk
    · rw [if_neg (fun h => by have := c115.mp h; omega), if_neg (fun h => by have := c99.mp h; omega), ech 2 hsg (by decide)]
      have hT1 : TX (wI m 72 29 (Int32.ofNat (c.2.2.2.2.1 + 1))) r t N a b := TX_fr hT (wI_sn (by omega)) (wI_sn (by omega)) (wI_ne (by omega))
      have hio := M_items (n := n) (z := z) (j := j) (d := d) (K := 2) (aK := 82) (R := 6 * c.2.2.2.2.1) (Z := 36) hD (by omega) rfl (by have : kl 2 = 6 := rfl; omega) (by omega) (by omega) (by omega) hT1 (show sk t N i + 1 ≤ N by omega)
      have fr0 : FCy m (wI m 72 29 (Int32.ofNat (c.2.2.2.2.1 + 1))) := ⟨fun a h1 _ _ _ => wI_ne h1, fun i _ h29 _ => wI_sn h29⟩
      have frI : ∀ m', FI (wI m 72 29 (Int32.ofNat (c.2.2.2.2.1 + 1))) m' 82 (6 * c.2.2.2.2.1) 2 → FCy m m' := fun m' hf => FCy_tr fr0 ⟨fun a _ _ _ h4 => hf.1 a h4, fun i _ _ _ => by rw [hf.1 72 (by omega)]⟩
      show match pIt t N 2 300 0 (us 2) (sk t N i + 1) with | .inl e => _ | .inr q => _
      cases hp0 : pIt t N 2 300 0 (us 2) (sk t N i + 1) with
      | inl e =>
        rw [hp0] at hio
        obtain ⟨m', hf, hh⟩ := hio
        refine ⟨m', frI m' hf, ?_⟩
        rcases hh with ⟨x, hx⟩ | ⟨hx, h3⟩
        · exact Or.inl ⟨x, by rw [hx, cN_mk]⟩
        · exact Or.inr ⟨by rw [hx, cN_mk], h3⟩
      | inr q =>
        rw [hp0] at hio
        obtain ⟨m', hf, hx, hv⟩ := hio
        have k1 : kl 2 = 6 := rfl
        refine ⟨m', frI m' hf, by rw [hx, cN_mk], ?_, ?_, ?_, fun k hk => ?_, fun q' hq' k hk => ?_, fun q' hq' k hk => ?_⟩
        · rw [hf.1 72 (by omega), wI_sn (by omega)]; exact m1
        · rw [hf.1 72 (by omega), wI_se]; rfl
        · rw [hf.1 72 (by omega), wI_sn (by omega)]; exact m3
        · rw [hf.1 78 (by omega), wI_ne (by omega)]; exact m4 k hk
        · rw [hf.1 80 (by omega), wI_ne (by omega)]; exact m5 q' hq' k hk
        · have hq2 : q' < c.2.2.2.2.1 + 1 := hq'
          show m' 82 (6 * q' + k) = Int32.ofNat (uV2 c.2.2.2.2.2 c.2.2.2.2.1 q.1 q' k)
          unfold uV2
          by_cases hqc : q' = c.2.2.2.2.1
          · rw [if_pos hqc, hqc]; exact hv k (by omega)
          · rw [if_neg hqc, hf.2 _ (by omega), wI_ne (by omega)]; exact m6 q' (by omega) k hk
end MCW
