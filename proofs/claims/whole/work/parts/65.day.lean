/-! A day, as a function of numbers. -/
abbrev Sg : Type := Nat → Nat → Nat
abbrev Pl : Type := Nat → Nat → Nat → Nat → Nat → Nat → Nat
def bI (b : Bool) : Int32 := if b then Int32.ofNat 1 else Int32.ofNat 0
theorem bI_0 {b : Bool} : (bI b = Int32.ofNat 0) ↔ b = false := by
  cases b <;> decide
theorem bI_1 {b : Bool} : (bI b = Int32.ofNat 1) ↔ b = true := by
  cases b <;> decide
theorem i_sa {a b c : Nat} (h : b ≤ a + c) : Int32.ofNat a - Int32.ofNat b + Int32.ofNat c = Int32.ofNat (a + c - b) := by
  rw [← i_sub h, ← i_add]
  apply Int32.toBitVec_inj.mp
  show BitVec.ofNat 32 a - BitVec.ofNat 32 b + BitVec.ofNat 32 c = BitVec.ofNat 32 a + BitVec.ofNat 32 c - BitVec.ofNat 32 b
  bv_omega
theorem i_nsa {a b c : Nat} (h : a ≤ b + c) : -(Int32.ofNat a - Int32.ofNat b) + Int32.ofNat c = Int32.ofNat (b + c - a) := by
  rw [← i_sub h, ← i_add]
  apply Int32.toBitVec_inj.mp
  show -(BitVec.ofNat 32 a - BitVec.ofNat 32 b) + BitVec.ofNat 32 c = BitVec.ofNat 32 b + BitVec.ofNat 32 c - BitVec.ofNat 32 a
  bv_omega
theorem i_ns {a b : Nat} : -(Int32.ofNat a - Int32.ofNat b) = Int32.ofNat b - Int32.ofNat a := by
  apply Int32.toBitVec_inj.mp
  show -(BitVec.ofNat 32 a - BitVec.ofNat 32 b) = BitVec.ofNat 32 b - BitVec.ofNat 32 a
  bv_omega
theorem i_snn {a b : Nat} (ha : a < 1000000000) (hb : b < 1000000000) : (Int32.ofNat 0 ≤ Int32.ofNat a - Int32.ofNat b) ↔ b ≤ a := by
  rw [Int32.le_iff_toInt_le, Int32.toInt_sub, i_int (by omega), i_int (by omega), i_int (by omega), Int.bmod_eq_of_le] <;> omega
def crn (C : Nat) (τ : Sg) (p w k : Nat) : Nat := if w = 0 then (τ 3 p + k) % C else (τ 3 p + (C - k)) % C
def wln (C : Nat) (τ : Sg) (p w : Nat) : Nat := if w = 0 then (τ 4 p + C - τ 3 p) % C else (τ 3 p + C - τ 4 p) % C
def nxc (C w c : Nat) : Nat := if w = 0 then (if C ≤ c + 1 then 0 else c + 1) else (if c = 0 then C - 1 else c - 1)
def trp (pl : Pl) (τ σ : Sg) (sp p c : Nat) : Bool := !sp.testBit c && (decide (0 < σ 1 c) && (decide (0 < σ 0 c) && decide (τ 6 0 ≤ pl (if σ 0 c = τ 0 p then 1 else 0) (τ 1 p) (σ 2 p) (σ 1 c) (σ 3 p) (σ 7 0))))
def cnb (τ σ : Sg) (p c : Nat) : Bool := decide (τ 6 2 ≤ σ 3 p) && decide (σ 5 0 ≠ c + 1)
def wk (pl : Pl) (C : Nat) (τ σ : Sg) (p w : Nat) : Nat → Nat → Nat → Nat → Nat × Nat × Nat
  | 0, _, sp, cn => (sp, cn, 0)
  | rem + 1, k, sp, cn =>
    if trp pl τ σ sp p (crn C τ p w k) = true then
      if cnb τ σ p (crn C τ p w k) = true then wk pl C τ σ p w rem (k + 1) (sp ||| 1 <<< crn C τ p w k) (cn + 1)
      else (sp ||| 1 <<< crn C τ p w k, cn, crn C τ p w k + 1)
    else wk pl C τ σ p w rem (k + 1) sp cn
/-- the sprung corners, the taken, the canes, when the first p have gone -/
def dy (pl : Pl) (C : Nat) (τ σ : Sg) : Nat → Nat × Nat × Nat
  | 0 => (0, 0, 0)
  | p + 1 =>
    let d := dy pl C τ σ p
    let x := wk pl C τ σ p (σ 4 p) (wln C τ p (σ 4 p)) 1 d.1 d.2.2
    (x.1, (if x.2.2 = 0 then d.2.1 else d.2.1 ||| 1 <<< p), x.2.1)
/-- where one is taken: the corner and one, or nought -/
def ax (pl : Pl) (C : Nat) (τ σ : Sg) (p : Nat) : Nat := (wk pl C τ σ p (σ 4 p) (wln C τ p (σ 4 p)) 1 (dy pl C τ σ p).1 (dy pl C τ σ p).2.2).2.2
def usd (at_ : Nat → Nat) : Nat → Nat → Bool
  | 0, _ => false
  | p + 1, c => usd at_ p c || decide (at_ p = c + 1)
def cns (at_ : Nat → Nat) (x : Nat) : Nat → Nat
  | 0 => x
  | p + 1 => if at_ p = 0 then cns at_ x p else min 999 (cns at_ x p + 1)
/-- the state when the first p have gone (their being wary and the day not yet) -/
def cur (at_ : Nat → Nat) (σ : Sg) (p : Nat) : Sg := fun k i =>
  if k = 1 then (if usd at_ p i then σ 1 i - 1 else σ 1 i)
  else if k = 3 then (if i < p ∧ at_ i ≠ 0 then min 99 (σ 3 i + 1) else σ 3 i)
  else if k = 6 then cns at_ (σ 6 0) p
  else σ k i
/-- and when the first q of them are warier -/
def wry (at_ : Nat → Nat) (σ : Sg) (q : Nat) : Sg := fun k i =>
  if k = 2 then (if i < q ∧ at_ i ≠ 0 then min 9 (σ 2 i + 1) else σ 2 i) else σ k i
def nxt (at_ : Nat → Nat) (P : Nat) (σ : Sg) : Sg := fun k i =>
  if k = 7 then σ 7 0 + 1 else wry at_ (cur at_ σ P) P k i
def WY (C P : Nat) (τ : Sg) : Prop := C ≤ 5 ∧ P ≤ 6 ∧ (0 < P → 2 ≤ C) ∧ (P = 0 → C = 0) ∧ τ 6 0 ≤ 30 ∧ τ 6 2 ≤ 9 ∧ (∀ p, p < P → τ 0 p ≤ 3 ∧ τ 1 p ≤ 9 ∧ τ 2 p ≤ 9 ∧ τ 3 p < C ∧ τ 4 p < C ∧ τ 3 p ≠ τ 4 p ∧ 1 ≤ τ 0 p)
def WS (C P d : Nat) (σ : Sg) : Prop := (∀ c, c < C → σ 0 c ≤ 3 ∧ σ 1 c ≤ 9) ∧ (∀ p, p < P → σ 2 p ≤ 9 ∧ σ 3 p ≤ 99 ∧ σ 4 p ≤ 1) ∧ σ 5 0 ≤ C ∧ σ 6 0 ≤ 999 ∧ σ 7 0 ≤ d
def YC (m : MI) (C P : Nat) (τ : Sg) : Prop := m 18 0 = Int32.ofNat C ∧ m 18 1 = Int32.ofNat P ∧ m 18 2 = Int32.ofNat (τ 6 0) ∧ m 18 4 = Int32.ofNat (τ 6 2) ∧ (∀ p, p < P → m 21 p = Int32.ofNat (τ 0 p) ∧ m 22 p = Int32.ofNat (τ 1 p) ∧ m 23 p = Int32.ofNat (τ 2 p) ∧ m 24 p = Int32.ofNat (τ 3 p) ∧ m 25 p = Int32.ofNat (τ 4 p))
def YM (m : MI) (C P : Nat) (τ : Sg) : Prop := m 72 26 = Int32.ofNat C ∧ m 72 27 = Int32.ofNat P ∧ m 77 0 = Int32.ofNat (τ 6 0) ∧ m 77 2 = Int32.ofNat (τ 6 2) ∧ (∀ p, p < P → ∀ k, k < 5 → m 81 (6 * p + k) = Int32.ofNat (τ k p))
def CS (m : MI) (s : Nat) (σ : Sg) (C P : Nat) : Prop := (∀ c, c < C → m (s + 1) c = Int32.ofNat (σ 0 c) ∧ m (s + 2) c = Int32.ofNat (σ 1 c)) ∧ (∀ p, p < P → m (s + 3) p = Int32.ofNat (σ 2 p) ∧ m (s + 4) p = Int32.ofNat (σ 3 p) ∧ m (s + 5) p = Int32.ofNat (σ 4 p)) ∧ m s 5 = pr (σ 5 0) ∧ m s 6 = Int32.ofNat (σ 6 0) ∧ m s 7 = Int32.ofNat (σ 7 0)
def MS (f : Nat → Int32) (σ : Sg) (C P : Nat) : Prop := (∀ c, c < C → f (2 * c) = Int32.ofNat (σ 0 c) ∧ f (2 * c + 1) = Int32.ofNat (σ 1 c)) ∧ (∀ p, p < P → f (10 + 3 * p) = Int32.ofNat (σ 2 p) ∧ f (10 + 3 * p + 1) = Int32.ofNat (σ 3 p) ∧ f (10 + 3 * p + 2) = Int32.ofNat (σ 4 p)) ∧ f 28 = Int32.ofNat (σ 5 0) ∧ f 29 = Int32.ofNat (σ 6 0) ∧ f 30 = Int32.ofNat (σ 7 0)
theorem crn_0 {C P : Nat} {τ : Sg} {p w : Nat} (h : WY C P τ) (hp : p < P) : crn C τ p w 0 = τ 3 p := by
  obtain ⟨hC, hP, h2, -, -, -, ht⟩ := h
  have := ht p hp
  unfold crn
  split
  · exact Nat.mod_eq_of_lt (by omega)
  · rw [Nat.sub_zero, Nat.add_mod_right, Nat.mod_eq_of_lt (by omega)]
theorem crn_lt {C : Nat} {τ : Sg} {p w k : Nat} (h : 2 ≤ C) : crn C τ p w k < C := by
  unfold crn
  split <;> exact Nat.mod_lt _ (by omega)
theorem crn_s {C P : Nat} {τ : Sg} {p w k : Nat} (h : WY C P τ) (hp : p < P) (hk : k < C) : crn C τ p w (k + 1) = nxc C w (crn C τ p w k) := by
  obtain ⟨hC, hP, h2, -, -, -, ht⟩ := h
  have := ht p hp
  have h2 := h2 (by omega)
  unfold crn nxc
  have hCs : C = 2 ∨ C = 3 ∨ C = 4 ∨ C = 5 := by omega
  generalize τ 3 p = f at *
  by_cases hw : w = 0
  · simp only [hw, if_true]
    rcases hCs with rfl | rfl | rfl | rfl <;> split <;> omega
  · simp only [hw, if_false]
    rcases hCs with rfl | rfl | rfl | rfl <;> split <;> omega
theorem wln_lt {C : Nat} {τ : Sg} {p w : Nat} (h : 2 ≤ C) : wln C τ p w < C := by
  unfold wln
  split <;> exact Nat.mod_lt _ (by omega)
theorem bit_lt {s c N : Nat} (hs : s < 2 ^ N) (hc : c < N) : s ||| 1 <<< c < 2 ^ N := by
  apply Nat.or_lt_two_pow hs
  rw [Nat.one_shiftLeft]
  exact Nat.pow_lt_pow_right (by omega) hc
theorem bit_tb {s c d : Nat} : (s ||| 1 <<< c).testBit d = (s.testBit d || decide (d = c)) := by
  rw [Nat.testBit_or, Nat.one_shiftLeft, Nat.testBit_two_pow]
  by_cases h : c = d
  · subst h
    simp
  · simp [h, Ne.symm h]
section DAYF
variable {pl : Pl} {C P : Nat} {τ σ : Sg} {p w : Nat}
theorem wk_lt (h2 : 2 ≤ C) : ∀ (rem k sp cn : Nat), sp < 2 ^ C → (wk pl C τ σ p w rem k sp cn).1 < 2 ^ C ∧ (wk pl C τ σ p w rem k sp cn).2.1 ≤ cn + rem ∧ (wk pl C τ σ p w rem k sp cn).2.2 ≤ C
  | 0, k, sp, cn, h => ⟨h, Nat.le_refl _, Nat.zero_le _⟩
  | rem + 1, k, sp, cn, h => by
    have hb := bit_lt h (crn_lt (τ := τ) (p := p) (w := w) (k := k) h2)
    have hc := crn_lt (τ := τ) (p := p) (w := w) (k := k) h2
    rw [wk]
    split
    · split
      · have := wk_lt h2 rem (k + 1) _ (cn + 1) hb
        exact ⟨this.1, by omega, this.2.2⟩
      · exact ⟨hb, by simp, hc⟩
    · have := wk_lt h2 rem (k + 1) sp cn h
      exact ⟨this.1, by omega, this.2.2⟩
/-- bits stay, and who is taken at a corner found it unsprung and with a spring -/
theorem wk_bits : ∀ (rem k sp cn : Nat), (∀ d, sp.testBit d = true → (wk pl C τ σ p w rem k sp cn).1.testBit d = true) ∧ (∀ d, (wk pl C τ σ p w rem k sp cn).2.2 = d + 1 → sp.testBit d = false ∧ 0 < σ 1 d ∧ (wk pl C τ σ p w rem k sp cn).1.testBit d = true)
  | 0, k, sp, cn => ⟨fun d h => h, fun d h => by simp [wk] at h⟩
  | rem + 1, k, sp, cn => by
    rw [wk]
    split
    · rename_i ht
      split
      · have ih := wk_bits rem (k + 1) (sp ||| 1 <<< crn C τ p w k) (cn + 1)
        refine ⟨fun d h => ih.1 d (by rw [bit_tb, h]; rfl), fun d h => ?_⟩
        have := ih.2 d h
        rw [bit_tb] at this
        simp only [Bool.or_eq_false_iff] at this
        exact ⟨this.1.1, this.2⟩
      · refine ⟨fun d h => by rw [bit_tb, h]; rfl, fun d h => ?_⟩
        have e : crn C τ p w k = d := by simpa using h
        unfold trp at ht
        simp only [Bool.and_eq_true, Bool.not_eq_true', decide_eq_true_eq] at ht
        rw [e] at ht
        exact ⟨ht.1, ht.2.1, by rw [bit_tb]; simp [e]⟩
    · exact wk_bits rem (k + 1) sp cn
theorem dy_lt (hW : WY C P τ) : ∀ p, p ≤ P → (dy pl C τ σ p).1 < 2 ^ C ∧ (dy pl C τ σ p).2.1 < 2 ^ p ∧ (dy pl C τ σ p).2.2 ≤ 5 * p
  | 0, _ => ⟨Nat.two_pow_pos C, Nat.zero_lt_one, Nat.le_refl _⟩
  | p + 1, hp => by
    have h2 : 2 ≤ C := hW.2.2.1 (by omega)
    have ih := dy_lt hW p (by omega)
    have hw := wk_lt (pl := pl) (C := C) (τ := τ) (σ := σ) (p := p) (w := σ 4 p) h2 (wln C τ p (σ 4 p)) 1 _ (dy pl C τ σ p).2.2 ih.1
    have hl := wln_lt (C := C) (τ := τ) (p := p) (w := σ 4 p) h2
    have hC := hW.1
    refine ⟨hw.1, ?_, ?_⟩
    · show (if _ = 0 then _ else _) < _
      have h1 : 2 ^ (p + 1) = 2 ^ p + 2 ^ p := by rw [Nat.pow_succ]; omega
      split
      · omega
      · exact bit_lt (by omega) (by omega)
    · show (wk _ _ _ _ _ _ _ _ _ _).2.1 ≤ _
      omega
theorem ax_le (hW : WY C P τ) (hp : p < P) : ax pl C τ σ p ≤ C :=
  (wk_lt (hW.2.2.1 (by omega)) _ _ _ _ (dy_lt hW p (by omega)).1).2.2
theorem usd_bit : ∀ p c, usd (ax pl C τ σ) p c = true → (dy pl C τ σ p).1.testBit c = true
  | 0, c, h => by simp [usd] at h
  | p + 1, c, h => by
    have hb := wk_bits (pl := pl) (C := C) (τ := τ) (σ := σ) (p := p) (w := σ 4 p) (wln C τ p (σ 4 p)) 1 (dy pl C τ σ p).1 (dy pl C τ σ p).2.2
    simp only [usd, Bool.or_eq_true, decide_eq_true_eq] at h
    rcases h with h | h
    · exact hb.1 c (usd_bit p c h)
    · exact (hb.2 c h).2.2
theorem ax_usd {c : Nat} (h : ax pl C τ σ p = c + 1) : usd (ax pl C τ σ) p c = false ∧ 0 < σ 1 c := by
  have hb := (wk_bits (pl := pl) (C := C) (τ := τ) (σ := σ) (p := p) (w := σ 4 p) (wln C τ p (σ 4 p)) 1 (dy pl C τ σ p).1 (dy pl C τ σ p).2.2).2 c h
  refine ⟨?_, hb.2.1⟩
  cases hu : usd (ax pl C τ σ) p c with
  | false => rfl
  | true =>
    have := usd_bit p c hu
    rw [hb.1] at this
    exact absurd this (by decide)
theorem dy_tk : ∀ q p, p < q → ((dy pl C τ σ q).2.1.testBit p = true ↔ ax pl C τ σ p ≠ 0)
  | 0, p, h => absurd h (Nat.not_lt_zero _)
  | q + 1, p, h => by
    have e : (dy pl C τ σ (q + 1)).2.1 = if ax pl C τ σ q = 0 then (dy pl C τ σ q).2.1 else (dy pl C τ σ q).2.1 ||| 1 <<< q := rfl
    rw [e]
    by_cases hq : p = q
    · subst hq
      split
      · rename_i h0
        have hz : ∀ q, ∀ d, q ≤ d → (dy pl C τ σ q).2.1.testBit d = false := by
          intro q
          induction q with
          | zero => intro d _; exact Nat.zero_testBit d
          | succ q ih =>
            intro d hd
            show (if _ = 0 then _ else _ : Nat).testBit d = false
            split
            · exact ih d (by omega)
            · rw [bit_tb, ih d (by omega)]
              simp
              omega
        rw [hz p p (Nat.le_refl _)]
        simp [h0]
      · rename_i h0
        rw [bit_tb]
        simp [h0]
    · split
      · exact dy_tk q p (by omega)
      · rw [bit_tb]
        simp only [decide_eq_false hq, Bool.or_false]
        exact dy_tk q p (by omega)
theorem usd_le (at_ : Nat → Nat) : ∀ p c, usd at_ p c = true → ∃ q, q < p ∧ at_ q = c + 1
  | 0, c, h => by simp [usd] at h
  | p + 1, c, h => by
    simp only [usd, Bool.or_eq_true, decide_eq_true_eq] at h
    rcases h with h | h
    · obtain ⟨q, h1, h2⟩ := usd_le at_ p c h
      exact ⟨q, by omega, h2⟩
    · exact ⟨p, by omega, h⟩
theorem cns_le (at_ : Nat → Nat) {x : Nat} (h : x ≤ 999) : ∀ p, cns at_ x p ≤ 999
  | 0 => h
  | p + 1 => by
    rw [cns]
    split
    · exact cns_le at_ h p
    · omega
end DAYF
