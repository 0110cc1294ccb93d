/-! The model's day. -/
def FPm (m m' : MI) (j j' : MJ) (r r' : MR) : Prop := (∀ a, a ≠ 72 → a ≠ 76 → a ≠ 88 → m' a = m a) ∧ (∀ i, ¬ (8 ≤ i ∧ i ≤ 17) → m' 72 i = m 72 i) ∧ (∀ a, a ≠ 87 → j' a = j a) ∧ (∀ a, a ≠ 72 → r' a = r a)
def LMok (n z : Nat) (D : Dyn) (pl : Pl) (LM : MI → MJ → Prop) : Prop :=
  (∀ m j r mt g w s t d, LM m j → mt ≤ 1 → g ≤ 9 → w ≤ 9 → s ≤ 9 → t ≤ 99 → d ≤ 1999 → ∃ m' j' r', f_X12_pullBy 72 (Int32.ofNat mt) (Int32.ofNat g) (Int32.ofNat w) (Int32.ofNat s) (Int32.ofNat t) (Int32.ofNat d) (mkH n z D m j r) = some (Int32.ofNat (pl mt g w s t d), mkH n z D m' j' r') ∧ LM m' j' ∧ FPm m m' j j' r r') ∧
  (∀ m m' j j', LM m j → (∀ a, a = 74 ∨ a = 75 ∨ a = 76 ∨ a = 88 → m' a = m a) → m' 72 7 = m 72 7 → m' 72 34 = m 72 34 → j' 87 = j 87 → LM m' j') ∧
  (∀ mt g w s t d, pl mt g w s t d ≤ 40)
def FD (w : Nat) (m m' : MI) (j j' : MJ) (r r' : MR) : Prop := (∀ a, a ≠ 72 → a ≠ 76 → a ≠ 88 → a ≠ 89 → a ≠ w → m' a = m a) ∧ (∀ i, ¬ (8 ≤ i ∧ i ≤ 17) → ¬ (39 ≤ i ∧ i ≤ 41) → m' 72 i = m 72 i) ∧ (∀ a, a ≠ 87 → j' a = j a) ∧ (∀ a, a ≠ 72 → r' a = r a)
theorem FD_refl {w : Nat} {m : MI} {j : MJ} {r : MR} : FD w m m j j r r := ⟨fun _ _ _ _ _ _ => rfl, fun _ _ _ => rfl, fun _ _ => rfl, fun _ _ => rfl⟩
theorem FD_tr {w : Nat} {m m' m'' : MI} {j j' j'' : MJ} {r r' r'' : MR} (h : FD w m m' j j' r r') (h' : FD w m' m'' j' j'' r' r'') : FD w m m'' j j'' r r'' :=
  ⟨fun a h1 h2 h3 h4 h5 => (h'.1 a h1 h2 h3 h4 h5).trans (h.1 a h1 h2 h3 h4 h5), fun i h1 h2 => (h'.2.1 i h1 h2).trans (h.2.1 i h1 h2), fun a h1 => (h'.2.2.1 a h1).trans (h.2.2.1 a h1), fun a h1 => (h'.2.2.2 a h1).trans (h.2.2.2 a h1)⟩
theorem FD_p {w : Nat} {m m' : MI} {j j' : MJ} {r r' : MR} (h : FPm m m' j j' r r') : FD w m m' j j' r r' :=
  ⟨fun a h1 h2 h3 _ _ => h.1 a h1 h2 h3, fun i h1 _ => h.2.1 i h1, h.2.2.1, h.2.2.2⟩
theorem YM_fr {m m' : MI} {C P : Nat} {τ : Sg} (h : YM m C P τ) (h1 : m' 77 = m 77) (h2 : m' 81 = m 81) (h3 : m' 72 26 = m 72 26) (h4 : m' 72 27 = m 72 27) : YM m' C P τ := by
  unfold YM
  rw [h1, h2, h3, h4]
  exact h
theorem YM_fd {w : Nat} {m m' : MI} {j j' : MJ} {r r' : MR} {C P : Nat} {τ : Sg} (hw : w = 85 ∨ w = 86) (h : YM m C P τ) (hf : FD w m m' j j' r r') : YM m' C P τ :=
  YM_fr h (hf.1 77 (by omega) (by omega) (by omega) (by omega) (by omega)) (hf.1 81 (by omega) (by omega) (by omega) (by omega) (by omega)) (hf.2.1 26 (by omega) (by omega)) (hf.2.1 27 (by omega) (by omega))
section MDAY
variable {n z : Nat} {D : Dyn} {m : MI} {j : MJ} {r : MR} {pl : Pl} {LM : MI → MJ → Prop} {C P : Nat} {τ σ : Sg} {w p c : Nat}
theorem pw (hw : w = 85 ∨ w = 86) : (∀ k : Nat, k < 212 → aI 0 (mkH n z D m j r) w (Int32.ofNat k) = some (m w k)) ∧ (∀ (k : Nat) (x : Int32), k < 212 → uI 0 (mkH n z D m j r) w (Int32.ofNat k) x = some (mkH n z D (wI m w k x) j r)) := by
  rcases hw with rfl | rfl
  · exact p85
  · exact p86
theorem wI_s {m : MI} {a i k : Nat} {x : Int32} : wI m a i x a k = if k = i then x else m a k := by
  rw [wI_eq]; rfl
theorem wI_se {m : MI} {a i : Nat} {x : Int32} : wI m a i x a i = x := by
  rw [wI_s, if_pos rfl]
theorem wI_sn {m : MI} {a i k : Nat} {x : Int32} (h : k ≠ i) : wI m a i x a k = m a k := by
  rw [wI_s, if_neg h]
theorem J_min {a b : Nat} (ha : a < 2147483648) (hb : b < 2147483648) {h : AH} : f_J9_min_7cf53 (Int32.ofNat a) (Int32.ofNat b) h = some (Int32.ofNat (min a b), h) := by
  unfold f_J9_min_7cf53 f_J9_min_7cf53_0
  rw [← i_min ha hb]
  split <;> rfl
theorem M_has {s c : Nat} (hs : s < 64) (hc : c < 7) {h : AH} : f_X12_has (Int32.ofNat s) (Int32.ofNat c) h = some (bI (s.testBit c), h) := by
  unfold f_X12_has f_X12_has_0
  simp (disch := omega) only [l31, l1, l0, i_has]
  cases s.testBit c <;> rfl
theorem M_of {p k : Nat} (h : 6 * p + k < 36) : f_X12_of 72 (Int32.ofNat p) (Int32.ofNat k) (mkH n z D m j r) = some (m 81 (6 * p + k), (mkH n z D m j r)) := by
  simp (disch := omega) only [f_X12_of, f_X12_of_0, q72, p81, obs, cN_mk, ite_true, ite_false, if_true, if_false, l6, i_mul, i_add]
theorem M_folk (hw : w = 85 ∨ w = 86) {p k : Nat} (h : 10 + 3 * p + k < 212) : f_X12_folk w (Int32.ofNat p) (Int32.ofNat k) (mkH n z D m j r) = some (m w (10 + 3 * p + k), (mkH n z D m j r)) := by
  simp (disch := omega) only [f_X12_folk, f_X12_folk_0, pw hw, obs, cN_mk, ite_true, ite_false, if_true, if_false, l10, l3, i_mul, i_add]
theorem M_longOf {y : Nat} (hW : WY C P τ) (hY : YM m C P τ) (hp : p < P) (hy1 : y ≤ 1) : f_X12_longOf 72 (Int32.ofNat p) (Int32.ofNat y) (mkH n z D m j r) = some (Int32.ofNat (wln C τ p y), (mkH n z D m j r)) := by
  obtain ⟨hC, hP, h2, -, -, -, ht⟩ := hW
  have ht := ht p hp
  have h2 := h2 (by omega)
  have hY5 := hY.2.2.2.2 p hp
  have e3 := hY5 3 (by omega)
  have e4 := hY5 4 (by omega)
  unfold f_X12_longOf f_X12_longOf_0 wln
  by_cases hy : y = 0
  · subst hy
    simp (disch := omega) only [f_X12_longOf_24, obs, cN_mk, ite_true, ite_false, if_true, if_false, l0, l3, l4, M_of, q72, e3, e4, hY.1, i_inj, i_sa, i_mod, reduceIte]
    simp [show C ≠ 0 by omega]
  · simp (disch := omega) only [f_X12_longOf_24, obs, cN_mk, ite_true, ite_false, if_true, if_false, l0, l3, l4, M_of, q72, e3, e4, hY.1, i_inj, i_nsa, i_mod, reduceIte, hy]
    simp [show C ≠ 0 by omega]
theorem M_cornerAt {y k : Nat} (hW : WY C P τ) (hY : YM m C P τ) (hp : p < P) (hy1 : y ≤ 1) (hk : k ≤ C) : f_X12_cornerAt 72 (Int32.ofNat p) (Int32.ofNat y) (Int32.ofNat k) (mkH n z D m j r) = some (Int32.ofNat (crn C τ p y k), (mkH n z D m j r)) := by
  obtain ⟨hC, hP, h2, -, -, -, ht⟩ := hW
  have ht := ht p hp
  have h2 := h2 (by omega)
  have hY5 := hY.2.2.2.2 p hp
  have e3 := hY5 3 (by omega)
  unfold f_X12_cornerAt f_X12_cornerAt_0 crn
  by_cases hy : y = 0
  · subst hy
    simp (disch := omega) only [f_X12_cornerAt_20, obs, cN_mk, ite_true, ite_false, if_true, if_false, l0, l3, M_of, q72, e3, hY.1, i_inj, i_add, i_mod, reduceIte]
    simp [show C ≠ 0 by omega]
  · simp (disch := omega) only [f_X12_cornerAt_20, obs, cN_mk, ite_true, ite_false, if_true, if_false, l0, l3, M_of, q72, e3, hY.1, i_inj, i_sub, i_add, i_mod, reduceIte, hy]
    simp [show C ≠ 0 by omega]
theorem M_isOld (hw : w = 85 ∨ w = 86) (hY : YM m C P τ) (hp : p < P) (hP : P ≤ 6) (ht : τ 6 2 ≤ 9) (hs : σ 3 p ≤ 99) (h3 : m w (10 + 3 * p + 1) = Int32.ofNat (σ 3 p)) : f_X12_isOld 72 w (Int32.ofNat p) (mkH n z D m j r) = some (bI (decide (τ 6 2 ≤ σ 3 p)), (mkH n z D m j r)) := by
  unfold f_X12_isOld f_X12_isOld_0
  simp (disch := omega) only [obs, cN_mk, ite_true, ite_false, if_true, if_false, l1, l2, l0, M_folk hw, q72, p77, hY.2.2.2.1, h3, i_lt]
  by_cases h : σ 3 p < τ 6 2
  · simp [h, bI, show ¬ τ 6 2 ≤ σ 3 p by omega]
  · simp [h, bI, show τ 6 2 ≤ σ 3 p by omega]
theorem M_cane (hw : w = 85 ∨ w = 86) (hW : WY C P τ) (hY : YM m C P τ) (hp : p < P) (hc : c < C) (hs : σ 3 p ≤ 99) (h3 : m w (10 + 3 * p + 1) = Int32.ofNat (σ 3 p)) (h5 : m w 28 = Int32.ofNat (σ 5 0)) (h5' : σ 5 0 ≤ C) : f_X12_usesCane 72 w (Int32.ofNat p) (Int32.ofNat c) (mkH n z D m j r) = some (bI (cnb τ σ p c), (mkH n z D m j r)) := by
  obtain ⟨hC, hP, -, -, -, ht, -⟩ := hW
  unfold f_X12_usesCane f_X12_usesCane_0
  simp (disch := omega) only [obs, cN_mk, ite_true, ite_false, if_true, if_false, M_isOld hw hY hp hP ht hs h3, l0, l1, l28, q72, pw hw, h5, i_add, i_inj, bI_0]
  unfold cnb
  by_cases h : τ 6 2 ≤ σ 3 p
  · by_cases h' : σ 5 0 = c + 1
    · simp [h, h', bI]
    · simp [h, h', bI]
  · simp [h, bI]
theorem M_trap (hL : LMok n z D pl LM) (hl : LM m j) (hw : w = 85 ∨ w = 86) (hW : WY C P τ) (hY : YM m C P τ) (hp : p < P) (hc : c < C) {sp : Nat} (hsp : m 72 39 = Int32.ofNat sp) (hsp' : sp < 32) (h0 : m w (2 * c) = Int32.ofNat (σ 0 c)) (h1 : sp.testBit c = false → m w (2 * c + 1) = Int32.ofNat (σ 1 c)) (h2 : m w (10 + 3 * p) = Int32.ofNat (σ 2 p)) (h3 : m w (10 + 3 * p + 1) = Int32.ofNat (σ 3 p)) (h7 : m w 30 = Int32.ofNat (σ 7 0)) (b0 : σ 0 c ≤ 3) (b1 : σ 1 c ≤ 9) (b2 : σ 2 p ≤ 9) (b3 : σ 3 p ≤ 99) (b7 : σ 7 0 ≤ 1999) : ∃ m' j' r', f_X12_isTrap 72 w (Int32.ofNat p) (Int32.ofNat c) (mkH n z D m j r) = some (bI (trp pl τ σ sp p c), mkH n z D m' j' r') ∧ LM m' j' ∧ FPm m m' j j' r r' := by
  obtain ⟨hC, hP, -, -, ht6, -, ht⟩ := hW
  have ht := ht p hp
  have hY5 := hY.2.2.2.2 p hp
  have e0 : m 81 (6 * p) = Int32.ofNat (τ 0 p) := hY5 0 (by omega)
  have e1 := hY5 1 (by omega)
  have refl : LM m j ∧ FPm m m j j r r := ⟨hl, fun _ _ _ _ => rfl, fun _ _ => rfl, fun _ _ => rfl, fun _ _ => rfl⟩
  unfold f_X12_isTrap f_X12_isTrap_0 trp
  simp (disch := omega) only [obs, cN_mk, ite_true, ite_false, if_true, if_false, q72, hsp, M_has, l0, l1, l2, bI_0]
  by_cases hb : sp.testBit c = false
  · have h1 := h1 hb
    simp (disch := omega) only [hb, reduceIte, i_mul, i_add, pw hw, obs, cN_mk, ite_true, ite_false, if_true, if_false, h1, h0, Nat.add_zero, i_le]
    by_cases g1 : σ 1 c ≤ 0
    · refine ⟨m, j, r, ?_, refl⟩
      simp [g1, bI, show ¬ 0 < σ 1 c by omega]
    by_cases g0 : σ 0 c ≤ 0
    · refine ⟨m, j, r, ?_, refl⟩
      simp [g1, g0, bI, show ¬ 0 < σ 0 c by omega]
    simp (disch := omega) only [g0, g1, reduceIte]
    obtain ⟨m', j', r', e, hl', hf⟩ := hL.1 m j r (if σ 0 c = τ 0 p then 1 else 0) (τ 1 p) (σ 2 p) (σ 1 c) (σ 3 p) (σ 7 0) hl (by split <;> omega) (by omega) b2 b1 b3 b7
    refine ⟨m', j', r', ?_, hl', hf⟩
    have ep : f_X12_pull 72 w (Int32.ofNat p) (Int32.ofNat c) (mkH n z D m j r) = some (Int32.ofNat (pl (if σ 0 c = τ 0 p then 1 else 0) (τ 1 p) (σ 2 p) (σ 1 c) (σ 3 p) (σ 7 0)), mkH n z D m' j' r') := by
      unfold f_X12_pull f_X12_pull_0
      simp (disch := omega) only [obs, cN_mk, ite_true, ite_false, if_true, if_false, q72, pw hw, M_of, l0, l2, i_mul, i_add, Nat.add_zero, h0, e0, i_inj]
      by_cases g : σ 0 c = τ 0 p
      · rw [if_pos g] at e ⊢
        simp (disch := omega) only [g, reduceIte, f_X12_pull_22, obs, cN_mk, ite_true, ite_false, if_true, if_false, q72, M_of, l1, l0, l2, l30, i_mul, i_add, M_folk hw, Nat.add_zero, pw hw, e1, h2, h3, h1, h7, e]
      · rw [if_neg g] at e ⊢
        simp (disch := omega) only [g, reduceIte, f_X12_pull_22, obs, cN_mk, ite_true, ite_false, if_true, if_false, q72, M_of, l1, l0, l2, l30, i_mul, i_add, M_folk hw, Nat.add_zero, pw hw, e1, h2, h3, h1, h7, e]
    have hpl := hL.2.2 (if σ 0 c = τ 0 p then 1 else 0) (τ 1 p) (σ 2 p) (σ 1 c) (σ 3 p) (σ 7 0)
    have e77 : m' 77 0 = Int32.ofNat (τ 6 0) := by rw [hf.1 77 (by omega) (by omega) (by omega)]; exact hY.2.2.1
    simp (disch := omega) only [ep, obs, cN_mk, ite_true, ite_false, if_true, if_false, q72, p77, e77, i_lt]
    generalize pl _ _ _ _ _ _ = x at *
    by_cases g : x < τ 6 0
    · simp [g, bI, show ¬ τ 6 0 ≤ x by omega]
    · simp [g, bI, show τ 6 0 ≤ x by omega, show 0 < σ 1 c by omega, show 0 < σ 0 c by omega]
  · have hb' : sp.testBit c = true := by simpa using hb
    refine ⟨m, j, r, ?_, refl⟩
    simp [hb', bI]

/-- the row when one is taken -/
def tkr (g : Nat → Int32) (p c t x : Nat) : Nat → Int32 := upd (upd (upd g (2 * c + 1) (g (2 * c + 1) - Int32.ofNat 1)) (10 + 3 * p + 1) (Int32.ofNat (min 99 (t + 1)))) 29 (Int32.ofNat (min 999 (x + 1)))
theorem LM_d (hL : LMok n z D pl LM) {m m' : MI} {j j' : MJ} (hl : LM m j) (h1 : ∀ a, a ≠ 72 → a ≠ 89 → a ≠ w → m' a = m a) (hw : w = 85 ∨ w = 86) (h2 : ∀ i, ¬ (39 ≤ i ∧ i ≤ 41) → m' 72 i = m 72 i) (h3 : j' = j) : LM m' j' :=
  hL.2.1 m m' j j' hl (fun a h => h1 a (by omega) (by omega) (by omega)) (h2 7 (by omega)) (h2 34 (by omega)) (by rw [h3])
theorem M_walk (hL : LMok n z D pl LM) (hw : w = 85 ∨ w = 86) (hW : WY C P τ) (hS : WS C P 1999 σ) (hp : p < P) {y tk x : Nat} (hy : y ≤ 1) (htk : tk < 64) (hx : x ≤ 999) : ∀ (rem k fuel sp cn : Nat) (m : MI) (j : MJ) (r : MR), rem < fuel → k + rem = wln C τ p y + 1 → 1 ≤ k → LM m j → YM m C P τ → sp < 2 ^ C → cn + rem ≤ 1000 →
    m 72 39 = Int32.ofNat sp → m 72 40 = Int32.ofNat tk → m 72 41 = Int32.ofNat cn →
    (∀ c, c < C → m w (2 * c) = Int32.ofNat (σ 0 c)) → (∀ c, c < C → sp.testBit c = false → m w (2 * c + 1) = Int32.ofNat (σ 1 c)) → m w (10 + 3 * p) = Int32.ofNat (σ 2 p) → m w (10 + 3 * p + 1) = Int32.ofNat (σ 3 p) → m w 28 = Int32.ofNat (σ 5 0) → m w 29 = Int32.ofNat x → m w 30 = Int32.ofNat (σ 7 0) →
    ∃ m' j' r', f_X12_goWalk_10 fuel 72 w (Int32.ofNat p) (Int32.ofNat y) (Int32.ofNat k) (mkH n z D m j r) = some ((), mkH n z D m' j' r') ∧ LM m' j' ∧ FD w m m' j j' r r' ∧
      m' 72 39 = Int32.ofNat (wk pl C τ σ p y rem k sp cn).1 ∧ m' 72 40 = Int32.ofNat (if (wk pl C τ σ p y rem k sp cn).2.2 = 0 then tk else tk ||| 1 <<< p) ∧ m' 72 41 = Int32.ofNat (wk pl C τ σ p y rem k sp cn).2.1 ∧
      m' 89 = (if (wk pl C τ σ p y rem k sp cn).2.2 = 0 then m 89 else upd (m 89) p (Int32.ofNat ((wk pl C τ σ p y rem k sp cn).2.2 - 1))) ∧
      m' w = (if (wk pl C τ σ p y rem k sp cn).2.2 = 0 then m w else tkr (m w) p ((wk pl C τ σ p y rem k sp cn).2.2 - 1) (σ 3 p) x)
  | _, _, 0, _, _, _, _, _, hf, _, _, _, _, _, _, _, _, _, _, _, _, _, _, _, _ => absurd hf (Nat.not_lt_zero _)
  | 0, k, fuel + 1, sp, cn, m, j, r, hf, hk, hk1, hl, hY, hsp, hcn, h39, h40, h41, g0, g1, g2, g3, g5, g6, g7 => by
    have h2 := hW.2.2.1 (by omega)
    have hC := hW.1
    have hwl := wln_lt (C := C) (τ := τ) (p := p) (w := y) h2
    refine ⟨m, j, r, ?_, hl, FD_refl, h39, h40, h41, rfl, rfl⟩
    rw [f_X12_goWalk_10.eq_2]
    simp (disch := omega) only [obs, cN_mk, ite_true, ite_false, if_true, if_false, q72, M_longOf hW hY hp hy, i_lt]
    rw [if_pos (by omega)]
  | rem + 1, k, fuel + 1, sp, cn, m, j, r, hf, hk, hk1, hl, hY, hsp, hcn, h39, h40, h41, g0, g1, g2, g3, g5, g6, g7 => by
    have h2 := hW.2.2.1 (by omega)
    have hC := hW.1
    have hP := hW.2.1
    have hwl := wln_lt (C := C) (τ := τ) (p := p) (w := y) h2
    have hc := crn_lt (τ := τ) (p := p) (w := y) (k := k) h2
    have hsp32 : sp < 32 := Nat.lt_of_lt_of_le hsp (Nat.pow_le_pow_right (by omega) hC)
    obtain ⟨s1, s2, s5, s6, s7⟩ := hS
    have sc := s1 _ hc
    have sp2 := s2 p hp
    obtain ⟨m1, j1, r1, e1, hl1, hf1⟩ := M_trap (r := r) hL hl hw hW hY hp hc h39 hsp32 (g0 _ hc) (g1 _ hc) g2 g3 g7 sc.1 sc.2 sp2.1 sp2.2.1 (by omega)
    have hwk := wk.eq_2 pl C τ σ p y k sp cn rem
    rw [hwk, f_X12_goWalk_10.eq_2]
    simp (disch := omega) only [obs, cN_mk, ite_true, ite_false, if_true, if_false, q72, M_longOf hW hY hp hy, i_lt]
    rw [if_neg (by omega)]
    simp (disch := omega) only [obs, cN_mk, ite_true, ite_false, if_true, if_false, M_cornerAt hW hY hp hy, q72, e1, l0, bI_0]
    have f72 := hf1.2.1
    have fw : m1 w = m w := hf1.1 w (by omega) (by omega) (by omega)
    have hY1 : YM m1 C P τ := YM_fd hw hY (FD_p hf1)
    by_cases ht : trp pl τ σ sp p (crn C τ p y k) = true
    · rw [if_pos ht, if_neg (by simp [ht])]
      simp (disch := omega) only [q72, obs, cN_mk, ite_true, ite_false, if_true, if_false, f72, h39, l1, l31, i_bit, i_or]
      have hbl := bit_lt hsp hc
      have hc1 : f_X12_usesCane 72 w (Int32.ofNat p) (Int32.ofNat (crn C τ p y k)) (mkH n z D (wI m1 72 39 (Int32.ofNat (sp ||| 1 <<< crn C τ p y k))) j1 r1) = some (bI (cnb τ σ p (crn C τ p y k)), mkH n z D (wI m1 72 39 (Int32.ofNat (sp ||| 1 <<< crn C τ p y k))) j1 r1) :=
        M_cane hw hW (YM_fr hY1 (wI_ne (by omega)) (wI_ne (by omega)) (by simp [wI_s]) (by simp [wI_s])) hp hc sp2.2.1 (by rw [wI_ne (by omega), fw]; exact g3) (by rw [wI_ne (by omega), fw]; exact g5) s5
      simp (disch := omega) only [hc1, obs, cN_mk, ite_true, ite_false, if_true, if_false, bI_0]
      by_cases hcb : cnb τ σ p (crn C τ p y k) = true
      · rw [if_pos hcb, if_neg (by simp [hcb])]
        simp (disch := omega) only [q72, obs, cN_mk, ite_true, ite_false, if_true, if_false, wI_s, Nat.reduceEqDiff, reduceIte, f72, h41, l1, i_add, f_X12_goWalk_154]
        generalize hm2 : wI (wI m1 72 39 (Int32.ofNat (sp ||| 1 <<< crn C τ p y k))) 72 41 (Int32.ofNat (cn + 1)) = m2
        have w72 : ∀ i, m2 72 i = if i = 41 then Int32.ofNat (cn + 1) else if i = 39 then Int32.ofNat (sp ||| 1 <<< crn C τ p y k) else m1 72 i := by
          intro i
          rw [← hm2, wI_s, wI_s]
        have wa : ∀ a, a ≠ 72 → m2 a = m1 a := by
          intro a ha
          rw [← hm2, wI_ne ha, wI_ne ha]
        have w2w : m2 w = m w := (wa w (by omega)).trans fw
        have hl2 : LM m2 j1 := LM_d hL hl1 (fun a h _ _ => wa a h) hw (fun i hi => by rw [w72, if_neg (by omega), if_neg (by omega)]) rfl
        have hY2 : YM m2 C P τ := YM_fr hY1 (wa 77 (by omega)) (wa 81 (by omega)) (by rw [w72]; rfl) (by rw [w72]; rfl)
        obtain ⟨m3, j3, r3, e3, hl3, hf3, a1, a2, a3, a4, a5⟩ := M_walk hL hw hW ⟨s1, s2, s5, s6, s7⟩ hp hy htk hx rem (k + 1) fuel (sp ||| 1 <<< crn C τ p y k) (cn + 1) m2 j1 r1 (by omega) (by omega) (by omega) hl2 hY2 hbl (by omega) (by rw [w72]; rfl) (by rw [w72]; simp only [Nat.reduceEqDiff, if_false]; rw [f72 40 (by omega)]; exact h40) (by rw [w72]; rfl) (by rw [w2w]; exact g0) (by
            rw [w2w]; intro c hc hb
            rw [bit_tb] at hb
            simp only [Bool.or_eq_false_iff] at hb
            exact g1 c hc hb.1) (by rw [w2w]; exact g2) (by rw [w2w]; exact g3) (by rw [w2w]; exact g5) (by rw [w2w]; exact g6) (by rw [w2w]; exact g7)
        refine ⟨m3, j3, r3, e3, hl3, ?_, a1, a2, a3, ?_, ?_⟩
        · refine FD_tr (FD_tr (FD_p hf1) ?_) hf3
          exact ⟨fun a h _ _ _ _ => wa a h, fun i _ hi => by rw [w72, if_neg (by omega), if_neg (by omega)], fun _ _ => rfl, fun _ _ => rfl⟩
        · rw [a4, wa 89 (by omega), hf1.1 89 (by omega) (by omega) (by omega)]
        · rw [a5, w2w]
      · rw [if_neg hcb, if_pos (by simpa using hcb)]
        have gs : m w (2 * crn C τ p y k + 1) = Int32.ofNat (σ 1 (crn C τ p y k)) := by
          refine g1 _ hc ?_
          unfold trp at ht
          simp only [Bool.and_eq_true, Bool.not_eq_true'] at ht
          exact ht.1
        simp (disch := omega) only [q72, obs, cN_mk, ite_true, ite_false, if_true, if_false, wI_se, wI_sn, wI_ne, f72, h40, l1, l2, l3, l10, l29, l31, l99, l999, i_bit, i_or, p89, pw hw, i_mul, i_add, M_folk hw, fw, g3, g6, J_min]
        refine ⟨_, _, _, rfl, LM_d hL hl1 (fun a h1 h2 h3 => ?_) hw (fun i hi => ?_) rfl, FD_tr (FD_p hf1) ⟨fun a h1 _ _ h2 h3 => ?_, fun i _ hi => ?_, fun _ _ => rfl, fun _ _ => rfl⟩, ?_, ?_, ?_, ?_, ?_⟩
        · simp (disch := omega) only [wI_ne]
        · simp (disch := omega) only [wI_ne, wI_sn]
        · simp (disch := omega) only [wI_ne]
        · simp (disch := omega) only [wI_ne, wI_sn]
        · simp (disch := omega) only [wI_ne, wI_sn, wI_se]
        · simp (disch := omega) only [wI_ne, wI_sn, wI_se]
          rw [if_neg (by omega)]
        · simp (disch := omega) only [wI_ne, wI_sn, wI_se, f72, h41]
        · rw [wI_ne (by omega), wI_ne (by omega), wI_ne (by omega), wI_eq, wI_ne (by omega), wI_ne (by omega), hf1.1 89 (by omega) (by omega) (by omega)]
          rfl
        · rw [wI_eq, wI_eq, wI_eq, wI_ne (by omega), wI_ne (by omega), wI_ne (by omega), fw]
          rfl
    · rw [if_neg ht, if_pos (by simpa using ht)]
      simp (disch := omega) only [f_X12_goWalk_154, l1, i_add]
      obtain ⟨m3, j3, r3, e3, hl3, hf3, a1, a2, a3, a4, a5⟩ := M_walk hL hw hW ⟨s1, s2, s5, s6, s7⟩ hp hy htk hx rem (k + 1) fuel sp cn m1 j1 r1 (by omega) (by omega) (by omega) hl1 hY1 hsp (by omega) ((f72 39 (by omega)).trans h39) ((f72 40 (by omega)).trans h40) ((f72 41 (by omega)).trans h41) (by rw [fw]; exact g0) (by rw [fw]; exact g1) (by rw [fw]; exact g2) (by rw [fw]; exact g3) (by rw [fw]; exact g5) (by rw [fw]; exact g6) (by rw [fw]; exact g7)
      refine ⟨m3, j3, r3, e3, hl3, FD_tr (FD_p hf1) hf3, a1, a2, a3, ?_, ?_⟩
      · rw [a4, hf1.1 89 (by omega) (by omega) (by omega)]
      · rw [a5, fw]

theorem M_begin : ∃ m', f_X12_beginsDay 72 (mkH n z D m j r) = some ((), mkH n z D m' j r) ∧ (∀ a, a ≠ 72 → a ≠ 89 → m' a = m a) ∧ (∀ i, ¬ (39 ≤ i ∧ i ≤ 41) → m' 72 i = m 72 i) ∧ m' 72 39 = Int32.ofNat 0 ∧ m' 72 40 = Int32.ofNat 0 ∧ m' 72 41 = Int32.ofNat 0 ∧ (∀ i, i < 6 → m' 89 i = no1) := by
  have lp : ∀ (rem k fuel : Nat) (m : MI), rem < fuel → k + rem = 6 → ∃ m', f_X12_beginsDay_17 fuel 72 (Int32.ofNat k) (mkH n z D m j r) = some ((), mkH n z D m' j r) ∧ (∀ a, a ≠ 89 → m' a = m a) ∧ (∀ i, m' 89 i = if k ≤ i ∧ i < 6 then no1 else m 89 i) := by
    intro rem
    induction rem with
    | zero =>
      intro k fuel m hf hk
      obtain ⟨f, rfl⟩ : ∃ f, fuel = f + 1 := ⟨fuel - 1, by omega⟩
      refine ⟨m, ?_, fun _ _ => rfl, fun i => by rw [if_neg (by omega)]⟩
      rw [f_X12_beginsDay_17.eq_2]
      simp (disch := omega) only [l6, i_le]
      rw [if_pos (by omega)]
    | succ rem ih =>
      intro k fuel m hf hk
      obtain ⟨f, rfl⟩ : ∃ f, fuel = f + 1 := ⟨fuel - 1, by omega⟩
      obtain ⟨m', e, h1, h2⟩ := ih (k + 1) f (wI m 89 k no1) (by omega) (by omega)
      refine ⟨m', ?_, fun a ha => by rw [h1 a ha, wI_ne ha], fun i => ?_⟩
      · rw [f_X12_beginsDay_17.eq_2]
        simp (disch := omega) only [l6, l1, i_le, no1_e, q72, obs, cN_mk, ite_true, ite_false, if_true, if_false, p89, i_add, e]
        rw [if_neg (by omega)]
      · rw [h2]
        by_cases h : i = k
        · subst h
          rw [if_neg (by omega), if_pos (by omega), wI_se]
        · rw [wI_sn h]
          by_cases h' : k ≤ i ∧ i < 6
          · rw [if_pos h', if_pos (by omega)]
          · rw [if_neg h', if_neg (by omega)]
  obtain ⟨m', e, h1, h2⟩ := lp 6 0 fu (wI (wI (wI m 72 39 (Int32.ofNat 0)) 72 40 (Int32.ofNat 0)) 72 41 (Int32.ofNat 0)) (by decide) rfl
  refine ⟨m', ?_, fun a h72 h89 => by rw [h1 a h89, wI_ne h72, wI_ne h72, wI_ne h72], fun i hi => ?_, ?_, ?_, ?_, fun i hi => by rw [h2, if_pos (by omega)]⟩
  · unfold f_X12_beginsDay f_X12_beginsDay_0
    simp (disch := omega) only [obs, cN_mk, ite_true, ite_false, if_true, if_false, q72, l0, e]
  all_goals rw [h1 72 (by omega)]
  all_goals simp (disch := omega) only [wI_sn, wI_se]
theorem MS_tk {at_ : Nat → Nat} {g : Nat → Int32} (hC : C ≤ 5) (hP : P ≤ 6) (hM : MS g (cur at_ σ p) C P) (hp : p < P) (h : ∀ c, at_ p = c + 1 → c < C ∧ usd at_ p c = false ∧ 0 < σ 1 c) : MS (if at_ p = 0 then g else tkr g p (at_ p - 1) (σ 3 p) (cns at_ (σ 6 0) p)) (cur at_ σ (p + 1)) C P ∧ (∀ i, 31 ≤ i → (if at_ p = 0 then g else tkr g p (at_ p - 1) (σ 3 p) (cns at_ (σ 6 0) p)) i = g i) := by
  by_cases h0 : at_ p = 0
  · rw [if_pos h0]
    have e : cur at_ σ (p + 1) = cur at_ σ p := by
      funext k i
      unfold cur
      by_cases k1 : k = 1
      · simp [k1, usd, h0]
      by_cases k3 : k = 3
      · have : (i < p + 1 ∧ at_ i ≠ 0) = (i < p ∧ at_ i ≠ 0) := by
          apply propext
          constructor
          · rintro ⟨h1, h2⟩
            refine ⟨?_, h2⟩
            by_cases hi : i = p
            · subst hi; exact absurd h0 h2
            · omega
          · rintro ⟨h1, h2⟩; exact ⟨by omega, h2⟩
        simp [k3, this]
      by_cases k6 : k = 6
      · simp [k6, cns, h0]
      simp [k1, k3, k6]
    rw [e]
    exact ⟨hM, fun _ _ => rfl⟩
  · obtain ⟨c, hc⟩ : ∃ c, at_ p = c + 1 := ⟨at_ p - 1, by omega⟩
    obtain ⟨hcC, hu, hs⟩ := h c hc
    rw [if_neg h0, hc, Nat.add_sub_cancel]
    obtain ⟨a1, a2, a5, a6, a7⟩ := hM
    have ec : ∀ d, d < C → (cur at_ σ (p + 1) 1 d = if d = c then σ 1 c - 1 else cur at_ σ p 1 d) := by
      intro d _
      by_cases hd : d = c
      · subst hd
        simp [cur, usd, hc]
      · simp [cur, usd, hc, hd, show ¬ c = d from fun e => hd e.symm]
    refine ⟨⟨fun d hd => ⟨?_, ?_⟩, fun q hq => ⟨?_, ?_, ?_⟩, ?_, ?_, ?_⟩, fun i hi => ?_⟩
    · simp only [tkr, upd]
      rw [if_neg (by omega), if_neg (by omega), if_neg (by omega), (a1 d hd).1]
      simp [cur]
    · simp only [tkr, upd]
      rw [if_neg (by omega), if_neg (by omega), ec d hd]
      by_cases hdc : d = c
      · subst hdc
        rw [if_pos rfl, if_pos rfl, (a1 d hd).2]
        simp only [cur, hu, if_true, Bool.false_eq_true, if_false]
        rw [i_sub (by omega)]
      · rw [if_neg (by omega), if_neg hdc, (a1 d hd).2]
    · simp only [tkr, upd]
      rw [if_neg (by omega), if_neg (by omega), if_neg (by omega), (a2 q hq).1]
      simp [cur]
    · simp only [tkr, upd]
      rw [if_neg (by omega)]
      by_cases hqp : q = p
      · subst hqp
        rw [if_pos rfl]
        simp [cur, hc]
      · rw [if_neg (by omega), if_neg (by omega), (a2 q hq).2.1]
        have : (q < p + 1 ∧ at_ q ≠ 0) = (q < p ∧ at_ q ≠ 0) := by
          apply propext
          constructor
          · rintro ⟨h1, h2⟩; exact ⟨by omega, h2⟩
          · rintro ⟨h1, h2⟩; exact ⟨by omega, h2⟩
        simp [cur, this]
    · simp only [tkr, upd]
      rw [if_neg (by omega), if_neg (by omega), if_neg (by omega), (a2 q hq).2.2]
      simp [cur]
    · simp only [tkr, upd]
      rw [if_neg (by omega), if_neg (by omega), if_neg (by omega), a5]
      simp [cur]
    · simp only [tkr, upd, if_true]
      simp [cur, cns, hc]
    · simp only [tkr, upd]
      rw [if_neg (by omega), if_neg (by omega), if_neg (by omega), a7]
      simp [cur]
    · simp only [tkr, upd]
      rw [if_neg (by omega), if_neg (by omega), if_neg (by omega)]
end MDAY
