/-! The class's day. -/
def LCok (n z : Nat) (D : Dyn) (pl : Pl) (LC : MI → MR → Prop) : Prop :=
  (∀ m j r mt g w s t d, LC m r → mt ≤ 1 → g ≤ 9 → w ≤ 9 → s ≤ 9 → t ≤ 99 → d ≤ 1999 → ∃ m', f_X4_strength 49 (Int32.ofNat mt) (Int32.ofNat g) (Int32.ofNat w) (Int32.ofNat s) (Int32.ofNat t) (Int32.ofNat d) (mkH n z D m j r) = some (Int32.ofNat (pl mt g w s t d), mkH n z D m' j r) ∧ (∀ a, a ≠ 49 → a ≠ 50 → a ≠ 51 → m' a = m a)) ∧
  (∀ m m' r, LC m r → (∀ a, a = 0 ∨ 95 ≤ a → m' a = m a) → LC m' r) ∧
  (∀ mt g w s t d, pl mt g w s t d ≤ 40)
/-- only the day's own rows have changed -/
def FC (m m' : MI) : Prop := ∀ a, ¬ (49 ≤ a ∧ a ≤ 54) → m' a = m a
theorem FC_refl {m : MI} : FC m m := fun _ _ => rfl
theorem FC_tr {m m' m'' : MI} (h : FC m m') (h' : FC m' m'') : FC m m'' := fun a ha => (h' a ha).trans (h a ha)
theorem YC_fr {m m' : MI} {C P : Nat} {τ : Sg} (h : YC m C P τ) (h1 : ∀ a, 18 ≤ a ∧ a ≤ 25 → m' a = m a) : YC m' C P τ := by
  unfold YC
  rw [h1 18 (by omega), h1 21 (by omega), h1 22 (by omega), h1 23 (by omega), h1 24 (by omega), h1 25 (by omega)]
  exact h
theorem CS_fr {m m' : MI} {s C P : Nat} {σ : Sg} (h : CS m s σ C P) (h1 : ∀ a, s ≤ a ∧ a ≤ s + 5 → m' a = m a) : CS m' s σ C P := by
  unfold CS
  rw [h1 s (by omega), h1 (s + 1) (by omega), h1 (s + 2) (by omega), h1 (s + 3) (by omega), h1 (s + 4) (by omega), h1 (s + 5) (by omega)]
  exact h
/-- is the pull enough -/
def enf (pl : Pl) (τ σ : Sg) (p c mt : Nat) : Bool := decide (τ 6 0 ≤ pl mt (τ 1 p) (σ 2 p) (σ 1 c) (σ 3 p) (σ 7 0))
/-- what is known of it is right -/
def EN (m : MI) (pl : Pl) (τ σ : Sg) (C P : Nat) : Prop := ∀ p c mt, p < P → c < C → mt ≤ 1 → m 54 ((p * 5 + c) * 2 + mt) = Int32.ofNat 0 ∨ m 54 ((p * 5 + c) * 2 + mt) = Int32.ofNat (if enf pl τ σ p c mt then 2 else 1)
section CDAY
variable {n z : Nat} {D : Dyn} {m : MI} {j : MJ} {r : MR} {pl : Pl} {LC : MI → MR → Prop} {C P : Nat} {τ σ : Sg} {s p c : Nat}
theorem stOf (hs : s = 27 ∨ s = 33) : isSt D s := by
  rcases hs with rfl | rfl
  · exact isSt27
  · exact isSt33
theorem C_walkLength {y : Nat} (hW : WY C P τ) (hY : YC m C P τ) (hp : p < P) (hy1 : y ≤ 1) : f_X10_walkLength 18 (Int32.ofNat p) (Int32.ofNat y) (mkH n z D m j r) = some (Int32.ofNat (wln C τ p y), (mkH n z D m j r)) := by
  obtain ⟨hC, hP, h2, -, -, -, ht⟩ := hW
  have ht := ht p hp
  have h2 := h2 (by omega)
  have e := hY.2.2.2.2 p hp
  unfold f_X10_walkLength f_X10_walkLength_0 wln
  simp (disch := omega) only [obs, cN_mk, ite_true, ite_false, if_true, if_false, q18, p24, p25, e.2.2.2.1, e.2.2.2.2, l0, i_inj, f_X10_walkLength_24, i_snn, i_ns, i_sa, hY.1]
  by_cases hy : y = 0
  · rw [if_pos hy, if_pos hy]
    by_cases hle : τ 3 p ≤ τ 4 p
    · rw [if_pos hle, i_sub hle, Nat.sub_add_comm hle, Nat.add_mod_right, Nat.mod_eq_of_lt (by omega)]
    · rw [if_neg hle, Nat.mod_eq_of_lt (by omega)]
  · rw [if_neg hy, if_neg hy]
    by_cases hle : τ 4 p ≤ τ 3 p
    · rw [if_pos hle, i_sub hle, Nat.sub_add_comm hle, Nat.add_mod_right, Nat.mod_eq_of_lt (by omega)]
    · rw [if_neg hle, Nat.mod_eq_of_lt (by omega)]
theorem C_beyond {y : Nat} (h2 : 2 ≤ C) (hC : C ≤ 5) (hY : YC m C P τ) (hc : c < C) (hy1 : y ≤ 1) : f_X10_beyond 18 (Int32.ofNat c) (Int32.ofNat y) (mkH n z D m j r) = some (Int32.ofNat (nxc C y c), (mkH n z D m j r)) := by
  unfold f_X10_beyond f_X10_beyond_0 nxc
  simp (disch := omega) only [obs, cN_mk, ite_true, ite_false, if_true, if_false, q18, l0, l1, i_inj, hY.1, i_add, i_le, i_sub]
  by_cases hy : y = 0
  · rw [if_pos hy, if_pos hy]
    split <;> rfl
  · rw [if_neg hy, if_neg hy]
    by_cases h0 : c = 0
    · rw [if_pos (by omega), if_pos h0]
    · rw [if_neg (by omega), if_neg h0]
theorem C_meets (hL : LCok n z D pl LC) (hl : LC m r) (hs : s = 27 ∨ s = 33) (hW : WY C P τ) (hY : YC m C P τ) (hS : WS C P 1999 σ) (hM : CS m s σ C P) (hE : EN m pl τ σ C P) (hp : p < P) (hc : c < C) {sp : Nat} (hsp : m 52 5 = Int32.ofNat sp) (hsp' : sp < 32) :
    ∃ m', f_X6_meets 52 s (Int32.ofNat p) (Int32.ofNat c) (mkH n z D m j r) = some (Int32.ofNat (if trp pl τ σ sp p c then (if cnb τ σ p c then 1 else 2) else 0), mkH n z D m' j r) ∧ (∀ a, ¬ (49 ≤ a ∧ a ≤ 51) → a ≠ 54 → m' a = m a) ∧ EN m' pl τ σ C P := by
  obtain ⟨hC, hP, -, -, ht6, ht62, ht⟩ := hW
  have ht := ht p hp
  have hSt : isSt D s := stOf hs
  have e := hY.2.2.2.2 p hp
  have mc := hM.1 c hc
  have mp := hM.2.1 p hp
  have sc := hS.1 c hc
  have sp2 := hS.2.1 p hp
  have s5 := hS.2.2.1
  have s7 := hS.2.2.2.2
  unfold f_X6_meets f_X6_meets_0 trp
  simp (disch := omega) only [obs, cN_mk, ite_true, ite_false, if_true, if_false, q52, hsp, l31, l1, i_has]
  by_cases hb : sp.testBit c = true
  · refine ⟨m, ?_, fun _ _ _ => rfl, hE⟩
    simp [hb, l0]
  have hbf : sp.testBit c = false := by simpa using hb
  simp (disch := omega) only [hbf, Bool.false_eq_true, reduceIte, stg hSt, sta hSt, obs, cN_mk, ite_true, ite_false, if_true, if_false, mc, l0, i_inj]
  by_cases g1 : σ 1 c = 0
  · refine ⟨m, ?_, fun _ _ _ => rfl, hE⟩
    simp [g1]
  by_cases g0 : σ 0 c = 0
  · refine ⟨m, ?_, fun _ _ _ => rfl, hE⟩
    simp [g1, g0]
  simp (disch := omega) only [g0, g1, reduceIte, q18, p21, e.1, i_inj, obs, cN_mk, ite_true, ite_false, if_true, if_false]
  have key : ∀ mt, mt ≤ 1 → ∃ m', f_X6_meets_55 52 s (Int32.ofNat p) (Int32.ofNat c) (Int32.ofNat mt) (mkH n z D m j r) = some (Int32.ofNat (if enf pl τ σ p c mt then (if cnb τ σ p c then 1 else 2) else 0), mkH n z D m' j r) ∧ (∀ a, ¬ (49 ≤ a ∧ a ≤ 51) → a ≠ 54 → m' a = m a) ∧ EN m' pl τ σ C P := by
    intro mt hmt
    have last : ∀ m1 : MI, (∀ a, ¬ (49 ≤ a ∧ a ≤ 51) → a ≠ 54 → m1 a = m a) → m1 54 ((p * 5 + c) * 2 + mt) = Int32.ofNat (if enf pl τ σ p c mt then 2 else 1) → f_X6_meets_145 52 s (Int32.ofNat p) (Int32.ofNat c) (Int32.ofNat ((p * 5 + c) * 2 + mt)) (mkH n z D m1 j r) = some (Int32.ofNat (if enf pl τ σ p c mt then (if cnb τ σ p c then 1 else 2) else 0), mkH n z D m1 j r) := by
      intro m1 h1 h54
      have hM1 : CS m1 s σ C P := CS_fr hM (fun a ha => h1 a (by omega) (by omega))
      have mp1 := hM1.2.1 p hp
      unfold f_X6_meets_145
      simp (disch := omega) only [obs, cN_mk, ite_true, ite_false, if_true, if_false, q52, p54, h54, l1]
      by_cases hen : enf pl τ σ p c mt = true
      · simp (disch := omega) only [hen, reduceIte, i_inj, Nat.reduceEqDiff, stg hSt, sta hSt, obs, cN_mk, ite_true, ite_false, if_true, if_false, mp1, q18, h1 18, hY.2.2.2.1, i_lt, hM1.2.2.1, pr_k]
        unfold cnb
        by_cases ho : σ 3 p < τ 6 2
        · simp [ho, show ¬ τ 6 2 ≤ σ 3 p by omega, l2]
        · by_cases h5 : σ 5 0 = c + 1
          · simp [ho, h5, show τ 6 2 ≤ σ 3 p by omega, l2]
          · simp [ho, h5, show τ 6 2 ≤ σ 3 p by omega]
      · simp (disch := omega) only [hen, Bool.false_eq_true, reduceIte, l0]
    unfold f_X6_meets_55
    simp (disch := omega) only [obs, cN_mk, ite_true, ite_false, if_true, if_false, q52, l5, l2, l0, i_mul, i_add, p54]
    by_cases hz : m 54 ((p * 5 + c) * 2 + mt) = Int32.ofNat 0
    · rw [if_pos hz]
      obtain ⟨m1, e1, hf1⟩ := hL.1 m j r mt (τ 1 p) (σ 2 p) (σ 1 c) (σ 3 p) (σ 7 0) hl hmt (by omega) sp2.1 sc.2 sp2.2.1 s7
      have hpl := hL.2.2 mt (τ 1 p) (σ 2 p) (σ 1 c) (σ 3 p) (σ 7 0)
      have e18 : m1 18 2 = Int32.ofNat (τ 6 0) := by rw [hf1 18 (by omega) (by omega) (by omega)]; exact hY.2.2.1
      simp (disch := omega) only [obs, cN_mk, ite_true, ite_false, if_true, if_false, q18, p22, q49, e.2.1, stg hSt, sta hSt, mp, mc, hM.2.2.2.2, e1, q52, e18, i_lt, f_X6_meets_144, p54]
      have fin : ∀ x, x = (if enf pl τ σ p c mt then 2 else 1) → ∃ m', f_X6_meets_145 52 s (Int32.ofNat p) (Int32.ofNat c) (Int32.ofNat ((p * 5 + c) * 2 + mt)) (mkH n z D (wI m1 54 ((p * 5 + c) * 2 + mt) (Int32.ofNat x)) j r) = some (Int32.ofNat (if enf pl τ σ p c mt then (if cnb τ σ p c then 1 else 2) else 0), mkH n z D m' j r) ∧ (∀ a, ¬ (49 ≤ a ∧ a ≤ 51) → a ≠ 54 → m' a = m a) ∧ EN m' pl τ σ C P := by
        intro x hx
        refine ⟨_, last _ (fun a h h' => by rw [wI_ne h', hf1 a (by omega) (by omega) (by omega)]) (by rw [wI_se, hx]), fun a h h' => by rw [wI_ne h', hf1 a (by omega) (by omega) (by omega)], ?_⟩
        intro p' c' mt' hp' hc' hmt'
        by_cases hk : (p' * 5 + c') * 2 + mt' = (p * 5 + c) * 2 + mt
        · have : p' = p ∧ c' = c ∧ mt' = mt := by omega
          obtain ⟨rfl, rfl, rfl⟩ := this
          right
          rw [wI_se, hx]
        · rw [wI_sn hk, hf1 54 (by omega) (by omega) (by omega)]
          exact hE p' c' mt' hp' hc' hmt'
      unfold enf at fin ⊢
      by_cases hlt : pl mt (τ 1 p) (σ 2 p) (σ 1 c) (σ 3 p) (σ 7 0) < τ 6 0
      · rw [if_pos hlt, l1]
        exact fin 1 (by simp; omega)
      · rw [if_neg hlt]
        exact fin 2 (by simp; omega)
    · rw [if_neg hz]
      refine ⟨m, last m (fun _ _ _ => rfl) ?_, fun _ _ _ => rfl, hE⟩
      exact (hE p c mt hp hc hmt).resolve_left hz
  have et : ∀ b : Bool, (if (!false && (decide (0 < σ 1 c) && (decide (0 < σ 0 c) && b))) = true then (if cnb τ σ p c then 1 else 2) else 0) = (if b then (if cnb τ σ p c then 1 else 2) else 0) := by
    intro b
    simp [show 0 < σ 1 c by omega, show 0 < σ 0 c by omega]
  rw [et]
  by_cases hm : σ 0 c = τ 0 p
  · rw [if_pos hm, if_pos hm]
    exact key 1 (by omega)
  · rw [if_neg hm, if_neg hm]
    exact key 0 (by omega)

theorem C_snaps {g a sp cn tk : Nat} (hp : p < 6) (hc : c < 5) (hsp : sp < 32) (h5 : m 52 5 = Int32.ofNat sp) (h4 : m 52 4 = Int32.ofNat cn) (h3 : m 52 3 = Int32.ofNat tk) : ∃ m', f_X6_snaps 52 (Int32.ofNat p) (Int32.ofNat c) (Int32.ofNat g) (mkH n z D m j r) = some ((), mkH n z D m' j r) ∧ (∀ a, a ≠ 52 → a ≠ 53 → m' a = m a) ∧
    (g = 0 → m' 52 = m 52 ∧ m' 53 = m 53) ∧ (g = 1 → m' 52 5 = Int32.ofNat (sp ||| 1 <<< c) ∧ m' 52 4 = Int32.ofNat (cn + 1) ∧ m' 52 3 = Int32.ofNat tk ∧ m' 53 = m 53) ∧ (g = 2 → m' 52 5 = Int32.ofNat (sp ||| 1 <<< c) ∧ m' 52 4 = Int32.ofNat cn ∧ m' 52 3 = Int32.ofNat (tk ||| 1 <<< p) ∧ m' 53 = upd (m 53) p (Int32.ofNat c)) ∨ 2 < g := by
  by_cases hg : 2 < g
  · exact ⟨m, Or.inr hg⟩
  unfold f_X6_snaps f_X6_snaps_0
  simp (disch := omega) only [obs, cN_mk, ite_true, ite_false, if_true, if_false, q52, l0, l1, l31, i_inj, h5, i_bit, i_or, wI_sn, wI_se, h4, h3, i_add, p53, wI_ne]
  have : g = 0 ∨ g = 1 ∨ g = 2 := by omega
  rcases this with rfl | rfl | rfl
  · exact ⟨m, Or.inl ⟨rfl, fun _ _ _ => rfl, fun _ => ⟨rfl, rfl⟩, fun h => absurd h (by decide), fun h => absurd h (by decide)⟩⟩
  · refine ⟨_, Or.inl ⟨rfl, fun a h1 h2 => ?_, fun h => absurd h (by decide), fun _ => ⟨?_, ?_, ?_, ?_⟩, fun h => absurd h (by decide)⟩⟩
    · simp (disch := omega) only [wI_ne]
    · simp (disch := omega) only [wI_sn, wI_se]
    · simp (disch := omega) only [wI_se]
    · simp (disch := omega) only [wI_sn, h3]
    · simp (disch := omega) only [wI_ne]
  · refine ⟨_, Or.inl ⟨rfl, fun a h1 h2 => ?_, fun h => absurd h (by decide), fun h => absurd h (by decide), fun _ => ⟨?_, ?_, ?_, ?_⟩⟩⟩
    · simp (disch := omega) only [wI_ne]
    · simp (disch := omega) only [wI_ne, wI_sn, wI_se]
    · simp (disch := omega) only [wI_ne, wI_sn, h4]
    · simp (disch := omega) only [wI_se]
    · rw [wI_ne (by omega), wI_eq, wI_ne (by omega)]
theorem C_play77 (hL : LCok n z D pl LC) (hs : s = 27 ∨ s = 33) (hW : WY C P τ) (hS : WS C P 1999 σ) (hp : p < P) {y tk : Nat} (hy : y ≤ 1) (hy4 : σ 4 p = y) (k38 : Nat → Nat → Int32 → Int32 → AH → Option (Unit × AH)) (x2 : Int32) : ∀ (rem k fuel sp cn : Nat) (m : MI), rem < fuel → k + rem = wln C τ p y → LC m r → YC m C P τ → CS m s σ C P → EN m pl τ σ C P → sp < 2 ^ C → cn + rem ≤ 1000 → m 52 5 = Int32.ofNat sp → m 52 3 = Int32.ofNat tk → m 52 4 = Int32.ofNat cn → m 53 p = no1 →
    ∃ m', f_X6_play_77 k38 fuel 52 s x2 (Int32.ofNat p) (Int32.ofNat (crn C τ p y k)) (Int32.ofNat (wln C τ p y)) (Int32.ofNat k) (mkH n z D m j r) = k38 52 s x2 (Int32.ofNat (p + 1)) (mkH n z D m' j r) ∧ FC m m' ∧ EN m' pl τ σ C P ∧ m' 52 5 = Int32.ofNat (wk pl C τ σ p y rem (k + 1) sp cn).1 ∧ m' 52 3 = Int32.ofNat (if (wk pl C τ σ p y rem (k + 1) sp cn).2.2 = 0 then tk else tk ||| 1 <<< p) ∧ m' 52 4 = Int32.ofNat (wk pl C τ σ p y rem (k + 1) sp cn).2.1 ∧
      m' 53 = (if (wk pl C τ σ p y rem (k + 1) sp cn).2.2 = 0 then m 53 else upd (m 53) p (Int32.ofNat ((wk pl C τ σ p y rem (k + 1) sp cn).2.2 - 1))) := by
  have h2 := hW.2.2.1 (by omega)
  have hC := hW.1
  have hP := hW.2.1
  have hSt : isSt D s := stOf hs
  have hwl := wln_lt (C := C) (τ := τ) (p := p) (w := y) h2
  intro rem
  induction rem with
  | zero =>
    intro k fuel sp cn m hf hk hl hY hM hE hsp hcn h5 h3 h4 h53
    obtain ⟨f, rfl⟩ : ∃ f, fuel = f + 1 := ⟨fuel - 1, by omega⟩
    refine ⟨m, ?_, FC_refl, hE, h5, h3, h4, rfl⟩
    rw [f_X6_play_77.eq_2]
    simp (disch := omega) only [i_le, f_X6_play_136, l1, i_add]
    rw [if_pos (by omega)]
  | succ rem ih =>
    intro k fuel sp cn m hf hk hl hY hM hE hsp hcn h5 h3 h4 h53
    obtain ⟨f, rfl⟩ : ∃ f, fuel = f + 1 := ⟨fuel - 1, by omega⟩
    have hsp32 : sp < 32 := Nat.lt_of_lt_of_le hsp (Nat.pow_le_pow_right (by omega) hC)
    have hc0 := crn_lt (τ := τ) (p := p) (w := y) (k := k) h2
    have hc := crn_lt (τ := τ) (p := p) (w := y) (k := k + 1) h2
    have hcs := crn_s (w := y) hW hp (show k < C by omega)
    have mp := hM.2.1 p hp
    rw [hy4] at mp
    obtain ⟨m1, e1, f1, hE1⟩ := C_meets (j := j) hL hl hs hW hY hS hM hE hp hc h5 hsp32
    have h53' : m1 53 p = no1 := by rw [f1 53 (by omega) (by omega)]; exact h53
    have h5' : m1 52 5 = Int32.ofNat sp := by rw [f1 52 (by omega) (by omega)]; exact h5
    have h3' : m1 52 3 = Int32.ofNat tk := by rw [f1 52 (by omega) (by omega)]; exact h3
    have h4' : m1 52 4 = Int32.ofNat cn := by rw [f1 52 (by omega) (by omega)]; exact h4
    obtain ⟨m2, h⟩ := C_snaps (n := n) (z := z) (D := D) (j := j) (r := r) (a := 0) (g := if trp pl τ σ sp p (crn C τ p y (k + 1)) then (if cnb τ σ p (crn C τ p y (k + 1)) then 1 else 2) else 0) (show p < 6 by omega) (show crn C τ p y (k + 1) < 5 by omega) hsp32 h5' h4' h3'
    have hg : ¬ 2 < (if trp pl τ σ sp p (crn C τ p y (k + 1)) then (if cnb τ σ p (crn C τ p y (k + 1)) then 1 else 2) else 0) := by
      split
      · split <;> omega
      · omega
    obtain ⟨e2, f2, z0, z1, z2⟩ := h.resolve_right hg
    have fr2 : FC m m2 := fun a ha => by rw [f2 a (by omega) (by omega), f1 a (by omega) (by omega)]
    have hE2 : EN m2 pl τ σ C P := by
      unfold EN
      rw [f2 54 (by omega) (by omega)]
      exact hE1
    have hl2 : LC m2 r := hL.2.1 m m2 r hl (fun a ha => fr2 a (by omega))
    have hY2 : YC m2 C P τ := YC_fr hY (fun a ha => fr2 a (by omega))
    have hM2 : CS m2 s σ C P := CS_fr hM (fun a ha => fr2 a (by omega))
    have step : f_X6_play_77 k38 (f + 1) 52 s x2 (Int32.ofNat p) (Int32.ofNat (crn C τ p y k)) (Int32.ofNat (wln C τ p y)) (Int32.ofNat k) (mkH n z D m j r) = f_X6_play_77 k38 f 52 s x2 (Int32.ofNat p) (Int32.ofNat (crn C τ p y (k + 1))) (Int32.ofNat (wln C τ p y)) (Int32.ofNat (k + 1)) (mkH n z D m2 j r) := by
      rw [f_X6_play_77.eq_2]
      simp (disch := omega) only [i_le, obs, cN_mk, ite_true, ite_false, if_true, if_false, q52, p53, h53, l1, no1_e, reduceIte, stg hSt, sta hSt, mp, q18, C_beyond h2 hC hY hc0 hy, ← hcs, e1, e2, i_add]
      rw [if_neg (by omega)]
    have hwk := wk.eq_2 pl C τ σ p y (k + 1) sp cn rem
    rw [hwk, step]
    by_cases ht : trp pl τ σ sp p (crn C τ p y (k + 1)) = true
    · rw [if_pos ht]
      rw [if_pos ht] at z0 z1 z2
      by_cases hcb : cnb τ σ p (crn C τ p y (k + 1)) = true
      · rw [if_pos hcb]
        rw [if_pos hcb] at z1
        obtain ⟨y1, y2, y3, y4⟩ := z1 rfl
        obtain ⟨m3, e3, fr3, hE3, a1, a2, a3, a4⟩ := ih (k + 1) f _ _ m2 (by omega) (by omega) hl2 hY2 hM2 hE2 (bit_lt hsp hc) (by omega) y1 y3 y2 (by rw [y4]; exact h53')
        exact ⟨m3, e3, FC_tr fr2 fr3, hE3, a1, a2, a3, by rw [a4, y4, f1 53 (by omega) (by omega)]⟩
      · rw [if_neg hcb]
        rw [if_neg hcb] at z2
        obtain ⟨y1, y2, y3, y4⟩ := z2 rfl
        obtain ⟨f', rfl⟩ : ∃ f', f = f' + 1 := ⟨f - 1, by omega⟩
        refine ⟨m2, ?_, fr2, hE2, y1, ?_, y2, ?_⟩
        · rw [f_X6_play_77.eq_2]
          have h2p : m2 53 p = Int32.ofNat (crn C τ p y (k + 1)) := by rw [y4]; simp [upd]
          simp (disch := omega) only [i_le, obs, cN_mk, ite_true, ite_false, if_true, if_false, q52, p53, h2p, l1, no1_e, no1_ne, reduceIte, f_X6_play_136, i_add]
          split <;> rfl
        · rw [y3, if_neg (Nat.succ_ne_zero _)]
        · rw [y4, if_neg (Nat.succ_ne_zero _), f1 53 (by omega) (by omega)]
          rfl
    · rw [if_neg ht]
      rw [if_neg ht] at z0
      obtain ⟨y1, y2⟩ := z0 rfl
      obtain ⟨m3, e3, fr3, hE3, a1, a2, a3, a4⟩ := ih (k + 1) f sp cn m2 (by omega) (by omega) hl2 hY2 hM2 hE2 hsp (by omega) (by rw [y1]; exact h5') (by rw [y1]; exact h3') (by rw [y1]; exact h4') (by rw [y2]; exact h53')
      exact ⟨m3, e3, FC_tr fr2 fr3, hE3, a1, a2, a3, by rw [a4, y2, f1 53 (by omega) (by omega)]⟩
end CDAY
