/-! What fits what was seen: moves. -/
def wT (pl : Pl) (τ : Sg) (p e s c : Nat) : Bool := decide (τ 6 0 ≤ pl (if e / 10 = c then 1 else 0) (e % 10) (τ 2 p) s 0 0)
def iM (pl : Pl) (τ : Sg) (sw : Nat → Nat → Nat) (p e : Nat) : Nat → Bool
  | 0 => true
  | k + 1 => iM pl τ sw p e k && !(decide (sw 0 k = p) && !decide (wT pl τ p e (sw 1 k) (sw 2 k) = decide (sw 3 k = 1)))
/-- how many of 10 .. 10 + k - 1 fit -/
def cn (f : Nat → Bool) (k : Nat) : Nat := sm (fun i => if f (10 + i) = true then 1 else 0) k
def mvA (f : Nat → Bool) (i : Int32) : Nat → Nat → Int32
  | 0, k => if i = no1 then Int32.ofNat (cn f k) else no1
  | rem + 1, k => if f (10 + k) = true then (if Int32.ofNat (cn f k) = i then Int32.ofNat (10 + k) else mvA f i rem (k + 1)) else mvA f i rem (k + 1)
theorem cn_s {f : Nat → Bool} {k : Nat} : cn f (k + 1) = cn f k + (if f (10 + k) = true then 1 else 0) := rfl
theorem cn_le {f : Nat → Bool} {k : Nat} : cn f k ≤ k := by
  have := sm_le (f := fun i => if f (10 + i) = true then 1 else 0) (b := 1) k (fun i _ => by show (if f (10 + i) = true then 1 else 0) ≤ 1; split <;> omega)
  unfold cn
  omega
theorem cn_mono {f : Nat → Bool} {k : Nat} : ∀ d, cn f k ≤ cn f (k + d)
  | 0 => Nat.le_refl _
  | d + 1 => by
    have := cn_mono (f := f) (k := k) d
    rw [show k + (d + 1) = k + d + 1 by omega, cn_s]
    omega
theorem mvA_n {f : Nat → Bool} : ∀ rem k, k + rem ≤ 1000 → mvA f no1 rem k = Int32.ofNat (cn f (k + rem))
  | 0, k, h => by rw [mvA, if_pos rfl]; rfl
  | rem + 1, k, h => by
    have hk := cn_le (f := f) (k := k)
    rw [mvA]
    have n3 : ¬ (Int32.ofNat (cn f k) = no1) := fun e => (no1_ne (by omega)).mp e
    rw [if_neg n3, mvA_n rem (k + 1) (by omega), show k + 1 + rem = k + (rem + 1) by omega]
    split <;> rfl
theorem mvA_q {f : Nat → Bool} {q : Nat} : ∀ rem k, k + rem ≤ 1000 → cn f k ≤ q → q < 100000 → (q < cn f (k + rem) → ∃ e, k ≤ e ∧ e < k + rem ∧ f (10 + e) = true ∧ cn f e = q ∧ mvA f (Int32.ofNat q) rem k = Int32.ofNat (10 + e)) ∧ (cn f (k + rem) ≤ q → mvA f (Int32.ofNat q) rem k = no1)
  | 0, k, h, h1, h2 => ⟨fun h3 => absurd h3 (by rw [Nat.add_zero]; omega), fun _ => by rw [mvA, if_neg (fun e => (no1_ne (by omega)).mp e)]⟩
  | rem + 1, k, h, h1, h2 => by
    have hk := cn_le (f := f) (k := k)
    have hs := cn_s (f := f) (k := k)
    have es : k + 1 + rem = k + (rem + 1) := by omega
    rw [mvA]
    cases hf : f (10 + k) with
    | false =>
      rw [hf] at hs
      simp only [Bool.false_eq_true, if_false] at hs ⊢
      have ih := mvA_q (f := f) (q := q) rem (k + 1) (by omega) (by omega) h2
      rw [es] at ih
      refine ⟨fun h3 => ?_, ih.2⟩
      obtain ⟨e, a1, a2, a3⟩ := ih.1 h3
      exact ⟨e, by omega, by omega, a3⟩
    | true =>
      rw [hf] at hs
      simp only [if_true] at hs ⊢
      by_cases hq : cn f k = q
      · rw [if_pos (by rw [hq])]
        refine ⟨fun _ => ⟨k, by omega, by omega, hf, hq, rfl⟩, fun h3 => ?_⟩
        have := cn_mono (f := f) (k := k + 1) rem
        rw [es] at this
        omega
      · rw [if_neg (fun e => hq ((i_inj (by omega) (by omega)).mp e))]
        have ih := mvA_q (f := f) (q := q) rem (k + 1) (by omega) (by omega) h2
        rw [es] at ih
        refine ⟨fun h3 => ?_, ih.2⟩
        obtain ⟨e, a1, a2, a3⟩ := ih.1 h3
        exact ⟨e, by omega, by omega, a3⟩
section MOVES
variable {n z : Nat} {D : Dyn} {m m1 m' : MI} {j j1 j' : MJ} {r r1 r' : MR} {pl : Pl} {LC : MI → MR → Prop} {LM : MI → MJ → Prop} {C P : Nat} {τ σ σ0 : Sg} {w p c s e sn : Nat} {sw : Nat → Nat → Nat} {x y : Int32}
theorem dm10 {e : Nat} (he : e < 1000) : Int32.ofNat e / Int32.ofNat 10 = Int32.ofNat (e / 10) ∧ Int32.ofNat e - Int32.ofNat (e / 10) * Int32.ofNat 10 = Int32.ofNat (e % 10) := by
  refine ⟨i_div (by omega) (by omega), ?_⟩
  have := i_mod (a := e) (b := 10) (by omega) (by omega)
  rw [i_div (by omega) (by omega)] at this
  exact this
theorem C_would (h : EC n z D pl LC m r C P τ σ) (hp : p < P) (he : e < 40) (hs : s ≤ 9) (hc : c ≤ 3) : ∃ m', f_X7_wouldTake 55 (Int32.ofNat p) (Int32.ofNat e) (Int32.ofNat s) (Int32.ofNat c) (mkH n z D m j r) = some (bI (wT pl τ p e s c), mkH n z D m' j r) ∧ EC n z D pl LC m' r C P τ σ ∧ (∀ a, a ≠ 49 → a ≠ 50 → a ≠ 51 → m' a = m a) := by
  obtain ⟨hW, hS, hY, hM, hL, hl⟩ := h
  have hP := hW.2.1
  have t := hW.2.2.2.2.2.2 p hp
  have t6 := hW.2.2.2.2.1
  obtain ⟨m', e1, hf⟩ := hL.1 m j r (if e / 10 = c then 1 else 0) (e % 10) (τ 2 p) s 0 0 hl (by split <;> omega) (by omega) (by omega) hs (by omega) (by omega)
  have hb := hL.2.2 (if e / 10 = c then 1 else 0) (e % 10) (τ 2 p) s 0 0
  have hq : FQc m m' := ⟨fun a _ _ b3 _ _ => hf a (by omega) (by omega) (by omega), fun i _ => by rw [hf 55 (by omega) (by omega) (by omega)]⟩
  have h' := EC_q ⟨hW, hS, hY, hM, hL, hl⟩ hq
  refine ⟨m', ?_, h', hf⟩
  obtain ⟨d1, d2⟩ := dm10 (e := e) (by omega)
  have y2 := h'.2.2.1.2.2.1
  have key : ∀ mt, (if e / 10 = c then 1 else 0) = mt → f_X7_wouldTake_14 55 (Int32.ofNat p) (Int32.ofNat e) (Int32.ofNat s) (Int32.ofNat mt) (mkH n z D m j r) = some (bI (wT pl τ p e s c), mkH n z D m' j r) := by
    intro mt hmt
    unfold wT f_X7_wouldTake_14
    rw [hmt] at e1 hb ⊢
    by_cases h1 : τ 6 0 ≤ pl mt (e % 10) (τ 2 p) s 0 0
    · rw [decide_eq_true h1]
      simp (disch := omega) only [obs, cN_mk, ite_true, ite_false, if_true, if_false, q55, q18, p23, hY.2.2.2.2, c49, l10, d1, d2, l0, e1, y2, ilt_f, l1, bI_t]
    · rw [decide_eq_false h1]
      simp (disch := omega) only [obs, cN_mk, ite_true, ite_false, if_true, if_false, q55, q18, p23, hY.2.2.2.2, c49, l10, d1, d2, l0, e1, y2, ilt_t, bI_f]
  unfold f_X7_wouldTake f_X7_wouldTake_0
  rw [l10, d1]
  by_cases hec : e / 10 = c
  · rw [if_pos (by rw [hec]), l1]
    exact key 1 (if_pos hec)
  · rw [if_neg (fun h => hec ((i_inj (by omega) (by omega)).mp h).symm), l0]
    exact key 0 (if_neg hec)
theorem M_would (h : EM n z D pl LM m j C P τ σ) (hp : p < P) (he : e < 40) (hs : s ≤ 9) (hc : c ≤ 3) : ∃ m' j' r', f_X12_wouldBe 72 (Int32.ofNat p) (Int32.ofNat e) (Int32.ofNat s) (Int32.ofNat c) (mkH n z D m j r) = some (bI (wT pl τ p e s c), mkH n z D m' j' r') ∧ EM n z D pl LM m' j' C P τ σ ∧ FQm m m' j j' r r' := by
  obtain ⟨hW, hS, hY, hM, hL, hl⟩ := h
  have hP := hW.2.1
  have t := hW.2.2.2.2.2.2 p hp
  have t6 := hW.2.2.2.2.1
  obtain ⟨m', j', r', e1, hl', hf⟩ := hL.1 m j r (if e / 10 = c then 1 else 0) (e % 10) (τ 2 p) s 0 0 hl (by split <;> omega) (by omega) (by omega) hs (by omega) (by omega)
  have hb := hL.2.2 (if e / 10 = c then 1 else 0) (e % 10) (τ 2 p) s 0 0
  have hq := FQm_p hf
  have h' := EM_q ⟨hW, hS, hY, hM, hL, hl⟩ hq hl'
  refine ⟨m', j', r', ?_, h', hq⟩
  obtain ⟨d1, d2⟩ := dm10 (e := e) (by omega)
  have y2 := h'.2.2.1.2.2.1
  have y := YMp hY
  have key : ∀ mt, (if e / 10 = c then 1 else 0) = mt → f_X12_wouldBe_15 72 (Int32.ofNat p) (Int32.ofNat e) (Int32.ofNat s) 72 (Int32.ofNat mt) (mkH n z D m j r) = some (bI (wT pl τ p e s c), mkH n z D m' j' r') := by
    intro mt hmt
    unfold wT f_X12_wouldBe_15
    rw [hmt] at e1 hb ⊢
    by_cases h1 : τ 6 0 ≤ pl mt (e % 10) (τ 2 p) s 0 0
    · rw [decide_eq_true h1]
      simp (disch := omega) only [obs, cN_mk, ite_true, ite_false, if_true, if_false, q72, l2, M_of, y, l10, d1, d2, l0, e1, p77, y2, ilt_f, l1, bI_t]
    · rw [decide_eq_false h1]
      simp (disch := omega) only [obs, cN_mk, ite_true, ite_false, if_true, if_false, q72, l2, M_of, y, l10, d1, d2, l0, e1, p77, y2, ilt_t, bI_f]
  unfold f_X12_wouldBe f_X12_wouldBe_0
  rw [l10, d1]
  by_cases hec : e / 10 = c
  · rw [if_pos (by rw [hec]), l1]
    exact key 1 (if_pos hec)
  · rw [if_neg (fun h => hec ((i_inj (by omega) (by omega)).mp h)), l0]
    exact key 0 (if_neg hec)
theorem iM_mono {k : Nat} : ∀ d, iM pl τ sw p e k = false → iM pl τ sw p e (k + d) = false
  | 0, h => h
  | d + 1, h => by rw [show k + (d + 1) = k + d + 1 by omega, iM, iM_mono d h]; rfl
theorem C_fitsAll (h : EC n z D pl LC m r C P τ σ) (hN : WSn P sn sw) (hs : SNc m sn sw) (hp : p < P) (he : e < 40) : ∃ m', f_X7_fitsAll 55 (Int32.ofNat p) (Int32.ofNat e) (mkH n z D m j r) = some (bI (iM pl τ sw p e sn), mkH n z D m' j r) ∧ EC n z D pl LC m' r C P τ σ ∧ (∀ a, a ≠ 49 → a ≠ 50 → a ≠ 51 → m' a = m a) := by
  have hsn := hN.1
  have hP := h.1.2.1
  have key : ∀ rem k fuel (mm : MI), k + rem = sn → rem < fuel → iM pl τ sw p e k = true → EC n z D pl LC mm r C P τ σ → (∀ a, a ≠ 49 → a ≠ 50 → a ≠ 51 → mm a = m a) → ∃ m', f_X7_fitsAll_2 fuel 55 (Int32.ofNat p) (Int32.ofNat e) (Int32.ofNat k) (mkH n z D mm j r) = some (bI (iM pl τ sw p e sn), mkH n z D m' j r) ∧ EC n z D pl LC m' r C P τ σ ∧ (∀ a, a ≠ 49 → a ≠ 50 → a ≠ 51 → m' a = m a) := by
    intro rem
    induction rem with
    | zero =>
      intro k fuel mm hk hf hi a1 a2
      obtain ⟨f, rfl⟩ : ∃ f, fuel = f + 1 := ⟨fuel - 1, by omega⟩
      have : k = sn := by omega
      subst this
      refine ⟨mm, ?_, a1, a2⟩
      have n1 : mm 55 6 = Int32.ofNat k := by rw [a2 55 (by omega) (by omega) (by omega)]; exact hs.1
      rw [f_X7_fitsAll_2.eq_2, hi]
      simp (disch := omega) only [obs, cN_mk, ite_true, ite_false, if_true, if_false, q55, n1, ile_t, l1, bI_t]
    | succ rem ih =>
      intro k fuel mm hk hf hi a1 a2
      obtain ⟨f, rfl⟩ : ∃ f, fuel = f + 1 := ⟨fuel - 1, by omega⟩
      have hks : k < sn := by omega
      have w := hN.2 k hks
      obtain ⟨s1, s2, s3, s4⟩ := hs.2 k hks
      have n1 : mm 55 6 = Int32.ofNat sn := by rw [a2 55 (by omega) (by omega) (by omega)]; exact hs.1
      have u1 : mm 56 k = Int32.ofNat (sw 0 k) := by rw [a2 56 (by omega) (by omega) (by omega)]; exact s1
      have u2 : mm 57 k = Int32.ofNat (sw 1 k) := by rw [a2 57 (by omega) (by omega) (by omega)]; exact s2
      have u3 : mm 58 k = Int32.ofNat (sw 2 k) := by rw [a2 58 (by omega) (by omega) (by omega)]; exact s3
      have u4 : mm 59 k = Int32.ofNat (sw 3 k) := by rw [a2 59 (by omega) (by omega) (by omega)]; exact s4
      rw [f_X7_fitsAll_2.eq_2]
      by_cases hwp : sw 0 k = p
      · obtain ⟨m', ew, b1, b2⟩ := C_would (j := j) (e := e) (s := sw 1 k) (c := sw 2 k) a1 hp he w.2.1.2 w.2.2.1.2
        have v4 : m' 59 k = bI (decide (sw 3 k = 1)) := by
          rw [b2 59 (by omega) (by omega) (by omega), u4]
          rcases (show sw 3 k = 0 ∨ sw 3 k = 1 by omega) with h3 | h3 <;> rw [h3] <;> rfl
        by_cases hb : wT pl τ p e (sw 1 k) (sw 2 k) = decide (sw 3 k = 1)
        · obtain ⟨m9, e9, c1, c2⟩ := ih (k + 1) f m' (by omega) (by omega) (by rw [iM, hi, decide_eq_true hwp, decide_eq_true hb]; rfl) b1 (fun a x1 x2 x3 => (b2 a x1 x2 x3).trans (a2 a x1 x2 x3))
          refine ⟨m9, ?_, c1, c2⟩
          rw [hb] at ew
          rw [← e9]
          simp (disch := omega) only [obs, cN_mk, ite_true, ite_false, if_true, if_false, q55, n1, ile_f, p56, u1, hwp, p57, u2, p58, u3, ew, p59, v4, f_X7_fitsAll_49, l1, i_add]
        · refine ⟨m', ?_, b1, fun a x1 x2 x3 => (b2 a x1 x2 x3).trans (a2 a x1 x2 x3)⟩
          have hF : iM pl τ sw p e sn = false := by
            have := iM_mono (pl := pl) (τ := τ) (sw := sw) (p := p) (e := e) (k := k + 1) (sn - (k + 1)) (by rw [iM, hi, decide_eq_true hwp, decide_eq_false hb]; rfl)
            rw [show k + 1 + (sn - (k + 1)) = sn by omega] at this
            exact this
          have hne : (bI (wT pl τ p e (sw 1 k) (sw 2 k)) = bI (decide (sw 3 k = 1))) = False := by
            revert hb
            cases wT pl τ p e (sw 1 k) (sw 2 k) <;> cases decide (sw 3 k = 1) <;> simp <;> decide
          rw [hF]
          simp (disch := omega) only [obs, cN_mk, ite_true, ite_false, if_true, if_false, q55, n1, ile_f, p56, u1, hwp, p57, u2, p58, u3, ew, p59, v4, hne, l0, bI_f]
      · obtain ⟨m9, e9, c1, c2⟩ := ih (k + 1) f mm (by omega) (by omega) (by rw [iM, hi, decide_eq_false hwp]; rfl) a1 a2
        refine ⟨m9, ?_, c1, c2⟩
        rw [← e9]
        simp (disch := omega) only [obs, cN_mk, ite_true, ite_false, if_true, if_false, q55, n1, ile_f, p56, u1, ieq_f, f_X7_fitsAll_49, l1, i_add]
  unfold f_X7_fitsAll f_X7_fitsAll_0
  rw [l0]
  exact key sn 0 fu m (by omega) (by unfold fu; omega) rfl h (fun _ _ _ _ => rfl)
theorem M_isMove (h : EM n z D pl LM m j C P τ σ) (hN : WSn P sn sw) (hs : SNm m sn sw) (hp : p < P) (he : e < 40) : ∃ m' j' r', f_X12_isMove 72 (Int32.ofNat p) (Int32.ofNat e) (mkH n z D m j r) = some (bI (iM pl τ sw p e sn), mkH n z D m' j' r') ∧ EM n z D pl LM m' j' C P τ σ ∧ FQm m m' j j' r r' := by
  have hsn := hN.1
  have hP := h.1.2.1
  have key : ∀ rem k fuel (mm : MI) (jj : MJ) (rr : MR), k + rem = sn → rem < fuel → iM pl τ sw p e k = true → EM n z D pl LM mm jj C P τ σ → FQm m mm j jj r rr → ∃ m' j' r', f_X12_isMove_2 fuel 72 (Int32.ofNat p) (Int32.ofNat e) (Int32.ofNat k) (mkH n z D mm jj rr) = some (bI (iM pl τ sw p e sn), mkH n z D m' j' r') ∧ EM n z D pl LM m' j' C P τ σ ∧ FQm m m' j j' r r' := by
    intro rem
    induction rem with
    | zero =>
      intro k fuel mm jj rr hk hf hi a1 a2
      obtain ⟨f, rfl⟩ : ∃ f, fuel = f + 1 := ⟨fuel - 1, by omega⟩
      have : k = sn := by omega
      subst this
      refine ⟨mm, jj, rr, ?_, a1, a2⟩
      have n1 : mm 72 46 = Int32.ofNat k := by rw [a2.2.2.2.1 46 (by omega) (by omega) (by omega) (by omega) (by omega) (by omega)]; exact hs.1
      rw [f_X12_isMove_2.eq_2, hi]
      simp (disch := omega) only [obs, cN_mk, ite_true, ite_false, if_true, if_false, q72, n1, ile_t, l1, bI_t]
    | succ rem ih =>
      intro k fuel mm jj rr hk hf hi a1 a2
      obtain ⟨f, rfl⟩ : ∃ f, fuel = f + 1 := ⟨fuel - 1, by omega⟩
      have hks : k < sn := by omega
      have w := hN.2 k hks
      have n1 : mm 72 46 = Int32.ofNat sn := by rw [a2.2.2.2.1 46 (by omega) (by omega) (by omega) (by omega) (by omega) (by omega)]; exact hs.1
      have u0 : ∀ t, t < 4 → mm 91 (4 * k + t) = Int32.ofNat (sw t k) := fun t ht => by rw [a2.1 91 (by omega)]; exact hs.2 k hks t ht
      have u1 : mm 91 (4 * k) = Int32.ofNat (sw 0 k) := u0 0 (by omega)
      have u2 := u0 1 (by omega)
      have u3 := u0 2 (by omega)
      rw [f_X12_isMove_2.eq_2]
      by_cases hwp : sw 0 k = p
      · obtain ⟨m', j', r', ew, b1, b2⟩ := M_would (r := rr) (e := e) (s := sw 1 k) (c := sw 2 k) a1 hp he w.2.1.2 w.2.2.1.2
        have v4 : m' 91 (4 * k + 3) = Int32.ofNat (sw 3 k) := by rw [b2.1 91 (by omega)]; exact u0 3 (by omega)
        have m67 : ∀ kk : Nat → Int32 → Int32 → Int32 → AH → Option (Int32 × AH), ∀ h0 : AH, (if Int32.ofNat (sw 3 k) = Int32.ofNat 1 then f_X12_isMove_67 kk 72 (Int32.ofNat p) (Int32.ofNat e) (Int32.ofNat k) (bI (wT pl τ p e (sw 1 k) (sw 2 k))) (Int32.ofNat 1) h0 else f_X12_isMove_67 kk 72 (Int32.ofNat p) (Int32.ofNat e) (Int32.ofNat k) (bI (wT pl τ p e (sw 1 k) (sw 2 k))) (Int32.ofNat 0) h0) = if wT pl τ p e (sw 1 k) (sw 2 k) = decide (sw 3 k = 1) then f_X12_isMove_72 kk 72 (Int32.ofNat p) (Int32.ofNat e) (Int32.ofNat k) h0 else some (Int32.ofNat 0, h0) := by
          intro kk h0
          unfold f_X12_isMove_67
          rcases (show sw 3 k = 0 ∨ sw 3 k = 1 by omega) with h3 | h3
          · rw [h3]
            cases wT pl τ p e (sw 1 k) (sw 2 k) <;> simp [bI, l0]
          · rw [h3]
            cases wT pl τ p e (sw 1 k) (sw 2 k) <;> simp [bI, l0]
        by_cases hb : wT pl τ p e (sw 1 k) (sw 2 k) = decide (sw 3 k = 1)
        · obtain ⟨m9, j9, r9, e9, c1, c2⟩ := ih (k + 1) f m' j' r' (by omega) (by omega) (by rw [iM, hi, decide_eq_true hwp, decide_eq_true hb]; rfl) b1 (FQm_tr a2 b2)
          refine ⟨m9, j9, r9, ?_, c1, c2⟩
          rw [← e9]
          simp (disch := omega) only [obs, cN_mk, ite_true, ite_false, if_true, if_false, q72, n1, ile_f, l4, i_mul, p91, u1, hwp, l1, l2, l3, i_add, u2, u3, ew, v4, l0, m67]
          rw [if_pos hb]
          unfold f_X12_isMove_72
          rw [l1, i_add]
        · refine ⟨m', j', r', ?_, b1, FQm_tr a2 b2⟩
          have hF : iM pl τ sw p e sn = false := by
            have := iM_mono (pl := pl) (τ := τ) (sw := sw) (p := p) (e := e) (k := k + 1) (sn - (k + 1)) (by rw [iM, hi, decide_eq_true hwp, decide_eq_false hb]; rfl)
            rw [show k + 1 + (sn - (k + 1)) = sn by omega] at this
            exact this
          rw [hF]
          simp (disch := omega) only [obs, cN_mk, ite_true, ite_false, if_true, if_false, q72, n1, ile_f, l4, i_mul, p91, u1, hwp, l1, l2, l3, i_add, u2, u3, ew, v4, l0, m67]
          rw [if_neg hb]
          rfl
      · obtain ⟨m9, j9, r9, e9, c1, c2⟩ := ih (k + 1) f mm jj rr (by omega) (by omega) (by rw [iM, hi, decide_eq_false hwp]; rfl) a1 a2
        refine ⟨m9, j9, r9, ?_, c1, c2⟩
        rw [← e9]
        simp (disch := omega) only [obs, cN_mk, ite_true, ite_false, if_true, if_false, q72, n1, ile_f, l4, i_mul, p91, u1, ieq_f, f_X12_isMove_72, l1, i_add]
  unfold f_X12_isMove f_X12_isMove_0
  rw [l0]
  exact key sn 0 fu m j r (by omega) (by unfold fu; omega) rfl h FQm_refl
end MOVES
