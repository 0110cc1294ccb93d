/-! What the calls share: ranges, loops, frames. -/
theorem ck_ok {ρ : Type} {n z n' z' : Nat} {D D' : Dyn} {m m' : MI} {j j' : MJ} {r r' : MR} {x : Option (ρ × AH)} {v : ρ} (e : x = some (v, mkH n' z' D' m' j' r')) (hn : n ≤ n') (hz : z ≤ z') : ck (mkH n z D m j r) x = some (v, mkH n' z' D' m' j' r') := by
  subst e
  unfold ck
  exact if_pos ⟨hn, hz⟩
theorem cA_mk {α ρ : Type} {n z n' z' : Nat} {D D' : Dyn} {m m' : MI} {j j' : MJ} {r r' : MR} {v : α} {k : α → AH → Option (ρ × AH)} (hn : n ≤ n') (hz : z ≤ z') : cA (some (v, mkH n' z' D' m' j' r')) (mkH n z D m j r) k = ck (mkH n' z' D' m' j' r') (k v (mkH n' z' D' m' j' r')) := by
  unfold cA
  exact if_pos ⟨hn, hz⟩
theorem ck_same {ρ : Type} {n z : Nat} {D D' : Dyn} {m m' : MI} {j j' : MJ} {r r' : MR} {v : ρ} : ck (mkH n z D m j r) (some (v, mkH n z D' m' j' r')) = some (v, mkH n z D' m' j' r') := ck_ok rfl (Nat.le_refl _) (Nat.le_refl _)
theorem cA_same {α ρ : Type} {n z : Nat} {D D' : Dyn} {m m' : MI} {j j' : MJ} {r r' : MR} {v : α} {k : α → AH → Option (ρ × AH)} : cA (some (v, mkH n z D' m' j' r')) (mkH n z D m j r) k = ck (mkH n z D' m' j' r') (k v (mkH n z D' m' j' r')) := cA_mk (Nat.le_refl _) (Nat.le_refl _)
theorem ile_t {a b : Nat} (h : a ≤ b ∧ b < 2147483648) : (Int32.ofNat a ≤ Int32.ofNat b) = True := eq_true ((i_le (by omega) h.2).mpr h.1)
theorem ile_f {a b : Nat} (h : b < a ∧ a < 2147483648) : (Int32.ofNat a ≤ Int32.ofNat b) = False := eq_false (fun e => by have := (i_le h.2 (by omega)).mp e; omega)
theorem ilt_t {a b : Nat} (h : a < b ∧ b < 2147483648) : (Int32.ofNat a < Int32.ofNat b) = True := eq_true ((i_lt (by omega) h.2).mpr h.1)
theorem ilt_f {a b : Nat} (h : b ≤ a ∧ a < 2147483648) : (Int32.ofNat a < Int32.ofNat b) = False := eq_false (fun e => by have := (i_lt h.2 (by omega)).mp e; omega)
theorem ieq_f {a b : Nat} (h : a ≠ b ∧ a < 2147483648 ∧ b < 2147483648) : (Int32.ofNat a = Int32.ofNat b) = False := eq_false (fun e => h.1 ((i_inj h.2.1 h.2.2).mp e))
theorem ieq_t {a b : Nat} (h : a = b) : (Int32.ofNat a = Int32.ofNat b) = True := eq_true (by rw [h])
theorem bI_t : bI true = Int32.ofNat 1 := rfl
theorem bI_f : bI false = Int32.ofNat 0 := rfl
/-- whether an int is one of a .. b - 1 -/
def im (x : Int32) (a b : Nat) : Bool := decide (Int32.ofNat a ≤ x ∧ x < Int32.ofNat b)
theorem im_t {x : Int32} {a b : Nat} (hb : b < 2147483648) (ha : a < 2147483648) (h : im x a b = true) : ∃ k, a ≤ k ∧ k < b ∧ x = Int32.ofNat k := by
  unfold im at h
  have h := of_decide_eq_true h
  rcases i_cases x with h1 | ⟨k, hk, rfl⟩
  · exact absurd h.1 (fun e => by
      have a1 := Int32.le_iff_toInt_le.mp e
      have a2 := Int32.lt_iff_toInt_lt.mp h1
      rw [i_int ha] at a1
      have e0 : (0 : Int32).toInt = 0 := rfl
      omega)
  · exact ⟨k, (i_le ha hk).mp h.1, (i_lt hk hb).mp h.2, rfl⟩
theorem im_k {k a b : Nat} (h : a ≤ k ∧ k < b ∧ b < 2147483648) : im (Int32.ofNat k) a b = true := by
  unfold im
  exact decide_eq_true ⟨(i_le (by omega) (by omega)).mpr h.1, (i_lt (by omega) h.2.2).mpr h.2.1⟩
theorem im_n {k a b : Nat} (h : (k < a ∨ b ≤ k) ∧ k < 2147483648 ∧ a < 2147483648 ∧ b < 2147483648) : im (Int32.ofNat k) a b = false := by
  unfold im
  refine decide_eq_false (fun e => ?_)
  have e1 := (i_le h.2.2.1 h.2.1).mp e.1
  have e2 := (i_lt h.2.1 h.2.2.2).mp e.2
  omega
theorem im_no1 {a b : Nat} (ha : a < 2147483648) : im no1 a b = false := by
  unfold im
  refine decide_eq_false (fun e => ?_)
  have a1 := Int32.le_iff_toInt_le.mp e.1
  rw [i_int ha, no1_toInt] at a1
  omega
section RNG
variable {α : Type} {x : Int32} {a b : Nat} {A B : α}
theorem rng3 : (if x < Int32.ofNat a then A else if Int32.ofNat b ≤ x then A else B) = if im x a b = true then B else A := by
  unfold im
  by_cases h1 : x < Int32.ofNat a
  · rw [if_pos h1, if_neg (by rw [decide_eq_true_iff]; exact fun h => Int32.not_le.mpr h1 h.1)]
  · rw [if_neg h1]
    by_cases h2 : Int32.ofNat b ≤ x
    · rw [if_pos h2, if_neg (by rw [decide_eq_true_iff]; exact fun h => Int32.not_le.mpr h.2 h2)]
    · rw [if_neg h2, if_pos (by rw [decide_eq_true_iff]; exact ⟨Int32.not_lt.mp h1, Int32.not_le.mp h2⟩)]
theorem rng4 : (if x < Int32.ofNat a then A else if x < Int32.ofNat b then B else A) = if im x a b = true then B else A := by
  rw [← rng3]
  by_cases h1 : x < Int32.ofNat a
  · rw [if_pos h1, if_pos h1]
  · rw [if_neg h1, if_neg h1]
    by_cases h2 : x < Int32.ofNat b
    · rw [if_pos h2, if_neg (Int32.not_le.mpr h2)]
    · rw [if_neg h2, if_pos (Int32.not_lt.mp h2)]
theorem le_lt1 (hb : b + 1 < 2147483648) : (x ≤ Int32.ofNat b) = (x < Int32.ofNat (b + 1)) := by
  rw [Int32.le_iff_toInt_le, Int32.lt_iff_toInt_lt, i_int (by omega), i_int hb]
  exact propext ⟨fun h => by omega, fun h => by omega⟩
theorem lt_le1 (hb : b + 1 < 2147483648) : (Int32.ofNat b < x) = (Int32.ofNat (b + 1) ≤ x) := by
  rw [Int32.le_iff_toInt_le, Int32.lt_iff_toInt_lt, i_int (by omega), i_int hb]
  exact propext ⟨fun h => by omega, fun h => by omega⟩
theorem rng1 (hb : b + 1 < 2147483648) : (if x < Int32.ofNat a then A else if Int32.ofNat b < x then A else B) = if im x a (b + 1) = true then B else A := by
  rw [← rng3]
  simp only [lt_le1 hb]
theorem rng2 (hb : b + 1 < 2147483648) : (if x < Int32.ofNat a then A else if x ≤ Int32.ofNat b then B else A) = if im x a (b + 1) = true then B else A := by
  rw [← rng4]
  simp only [le_lt1 hb]
end RNG
theorem i64_0 : (0 : Int64) = (Int32.ofNat 0).toInt64 := by decide
theorem i64_1 : (1 : Int64) = (Int32.ofNat 1).toInt64 := by decide
theorem i64_2 : (2 : Int64) = (Int32.ofNat 2).toInt64 := by decide
theorem i64_3 : (3 : Int64) = (Int32.ofNat 3).toInt64 := by decide
theorem i64_6 : (6 : Int64) = (Int32.ofNat 6).toInt64 := by decide
theorem i64_9 : (9 : Int64) = (Int32.ofNat 9).toInt64 := by decide
theorem i64_30 : (30 : Int64) = (Int32.ofNat 30).toInt64 := by decide
theorem i64_50 : (50 : Int64) = (Int32.ofNat 50).toInt64 := by decide
theorem i64_100 : (100 : Int64) = (Int32.ofNat 100).toInt64 := by decide
theorem i64_999 : (999 : Int64) = (Int32.ofNat 999).toInt64 := by decide
theorem M_inK {x : Int32} {a b : Nat} (hb : b + 1 < 2147483648) {h : AH} : f_X12_isIn x.toInt64 (Int32.ofNat a).toInt64 (Int32.ofNat b).toInt64 h = some (bI (im x a (b + 1)), h) := by
  rw [M_isIn]
  unfold im
  simp only [le_lt1 hb]
theorem M_inP {x : Int32} {a b : Nat} (hb : b < 2147483648) {h : AH} : f_X12_isIn x.toInt64 (Int32.ofNat a).toInt64 (pr b).toInt64 h = some (bI (im x a b), h) := by
  rw [M_isIn]
  unfold im
  have : (x ≤ pr b) = (x < Int32.ofNat b) := by
    by_cases h0 : b = 0
    · subst h0
      rw [pr_0, Int32.le_iff_toInt_le, Int32.lt_iff_toInt_lt, no1_toInt, i_int (by omega)]
      exact propext ⟨fun h => by omega, fun h => by omega⟩
    · obtain ⟨c, rfl⟩ : ∃ c, b = c + 1 := ⟨b - 1, by omega⟩
      rw [pr_s, le_lt1 hb]
  simp only [this]
/-- a loop that counts up -/
theorem lpP {α β : Type} (F : Nat → Nat → β → Option α) (I : Nat → β → Prop) (Q : Option α → Prop) (N : Nat) (hs : ∀ f i s, i < N → I i s → (∃ s', F (f + 1) i s = F f (i + 1) s' ∧ I (i + 1) s') ∨ Q (F (f + 1) i s)) (he : ∀ f s, I N s → Q (F (f + 1) N s)) : ∀ rem i fuel s, i + rem = N → rem < fuel → I i s → Q (F fuel i s) := by
  intro rem
  induction rem with
  | zero =>
    intro i fuel s hi hf h
    obtain ⟨f, rfl⟩ : ∃ f, fuel = f + 1 := ⟨fuel - 1, by omega⟩
    have : i = N := by omega
    subst this
    exact he f s h
  | succ rem ih =>
    intro i fuel s hi hf h
    obtain ⟨f, rfl⟩ : ∃ f, fuel = f + 1 := ⟨fuel - 1, by omega⟩
    rcases hs f i s (by omega) h with ⟨s', e, h'⟩ | hq
    · rw [e]
      exact ih (i + 1) f s' (by omega) (by omega) h'
    · exact hq
/-- one that changes nothing -/
theorem lpI {α : Type} (F : Nat → Nat → α) (N : Nat) {res : α} (hs : ∀ f i, i < N → F (f + 1) i = F f (i + 1)) (he : ∀ f, F (f + 1) N = res) : ∀ rem i fuel, i + rem = N → rem < fuel → F fuel i = res := by
  intro rem
  induction rem with
  | zero =>
    intro i fuel hi hf
    obtain ⟨f, rfl⟩ : ∃ f, fuel = f + 1 := ⟨fuel - 1, by omega⟩
    have : i = N := by omega
    subst this
    exact he f
  | succ rem ih =>
    intro i fuel hi hf
    obtain ⟨f, rfl⟩ : ∃ f, fuel = f + 1 := ⟨fuel - 1, by omega⟩
    rw [hs f i (by omega)]
    exact ih (i + 1) f (by omega) (by omega)
theorem lpJ {α : Type} (F : Nat → Nat → α) (i0 N : Nat) {res : α} (hs : ∀ f i, i0 ≤ i → i < N → F (f + 1) i = F f (i + 1)) (he : ∀ f, F (f + 1) N = res) : ∀ rem i fuel, i0 ≤ i → i + rem = N → rem < fuel → F fuel i = res := by
  intro rem
  induction rem with
  | zero =>
    intro i fuel h0 hi hf
    obtain ⟨f, rfl⟩ : ∃ f, fuel = f + 1 := ⟨fuel - 1, by omega⟩
    have : i = N := by omega
    subst this
    exact he f
  | succ rem ih =>
    intro i fuel h0 hi hf
    obtain ⟨f, rfl⟩ : ∃ f, fuel = f + 1 := ⟨fuel - 1, by omega⟩
    rw [hs f i h0 (by omega)]
    exact ih (i + 1) f (by omega) (by omega) (by omega)
def bts (f : Nat → Bool) : Nat → Nat
  | 0 => 0
  | i + 1 => if f i = true then bts f i ||| 1 <<< i else bts f i
def sm (f : Nat → Nat) : Nat → Nat
  | 0 => 0
  | i + 1 => sm f i + f i
theorem bts_lt {f : Nat → Bool} : ∀ i, bts f i < 2 ^ i
  | 0 => Nat.zero_lt_one
  | i + 1 => by
    have ih := bts_lt (f := f) i
    have h1 : 2 ^ (i + 1) = 2 ^ i + 2 ^ i := by rw [Nat.pow_succ]; omega
    rw [bts]
    split
    · exact bit_lt (by omega) (by omega)
    · omega
theorem bts_tb {f : Nat → Bool} : ∀ i d, (bts f i).testBit d = (decide (d < i) && f d)
  | 0, d => by simp [bts]
  | i + 1, d => by
    rw [bts]
    split
    · rename_i h
      rw [bit_tb, bts_tb i d]
      by_cases hd : d = i
      · subst hd
        simp [h]
      · have : decide (d < i + 1) = decide (d < i) := by
          by_cases hl : d < i
          · rw [decide_eq_true hl, decide_eq_true (by omega)]
          · rw [decide_eq_false hl, decide_eq_false (by omega)]
        rw [this, decide_eq_false hd, Bool.or_false]
    · rename_i h
      rw [bts_tb i d]
      by_cases hd : d = i
      · subst hd
        simp [h]
      · have : decide (d < i + 1) = decide (d < i) := by
          by_cases hl : d < i
          · rw [decide_eq_true hl, decide_eq_true (by omega)]
          · rw [decide_eq_false hl, decide_eq_false (by omega)]
        rw [this]
theorem sm_le {f : Nat → Nat} {b : Nat} : ∀ N, (∀ i, i < N → f i ≤ b) → sm f N ≤ N * b
  | 0, _ => by simp [sm]
  | N + 1, h => by
    have := sm_le N (fun i hi => h i (by omega))
    have := h N (by omega)
    rw [sm, Nat.add_mul]
    omega
theorem bts_cg {f g : Nat → Bool} : ∀ N, (∀ i, i < N → f i = g i) → bts f N = bts g N
  | 0, _ => rfl
  | N + 1, h => by
    rw [bts, bts, h N (by omega), bts_cg N (fun i hi => h i (by omega))]
/-- the class's own rows that a question may change -/
def FQc (m m' : MI) : Prop := (∀ a, ¬ (3 ≤ a ∧ a ≤ 17) → ¬ (33 ≤ a ∧ a ≤ 38) → ¬ (49 ≤ a ∧ a ≤ 55) → a ≠ 60 → a ≠ 71 → m' a = m a) ∧ (∀ i, i ≠ 8 → m' 55 i = m 55 i)
def FQm (m m' : MI) (j j' : MJ) (r r' : MR) : Prop := (∀ a, ¬ (72 ≤ a ∧ a < 95) ∨ a = 73 ∨ a = 74 ∨ a = 75 ∨ a = 77 ∨ a = 79 ∨ a = 81 ∨ a = 85 ∨ a = 87 ∨ a = 90 ∨ a = 91 ∨ a = 93 → m' a = m a) ∧ (∀ q, q < 192 → m' 83 q = m 83 q) ∧ (∀ q, q ≠ 4 → m' 84 q = m 84 q) ∧ (∀ i, i ≠ 0 → ¬ (8 ≤ i ∧ i ≤ 17) → i ≠ 28 → i ≠ 29 → i ≠ 31 → ¬ (39 ≤ i ∧ i ≤ 41) → m' 72 i = m 72 i) ∧ (∀ a, a ≠ 87 → j' a = j a) ∧ (∀ a, a ≠ 72 → r' a = r a)
theorem FQc_refl {m : MI} : FQc m m := ⟨fun _ _ _ _ _ _ => rfl, fun _ _ => rfl⟩
theorem FQc_tr {m m' m'' : MI} (h : FQc m m') (h' : FQc m' m'') : FQc m m'' := ⟨fun a h1 h2 h3 h4 h5 => (h'.1 a h1 h2 h3 h4 h5).trans (h.1 a h1 h2 h3 h4 h5), fun i hi => (h'.2 i hi).trans (h.2 i hi)⟩
theorem FQc_fc {m m' : MI} (h : FC m m') : FQc m m' := ⟨fun a _ _ h3 _ _ => h a (by omega), fun i _ => by rw [h 55 (by omega)]⟩
theorem FQm_refl {m : MI} {j : MJ} {r : MR} : FQm m m j j r r := ⟨fun _ _ => rfl, fun _ _ => rfl, fun _ _ => rfl, fun _ _ _ _ _ _ _ => rfl, fun _ _ => rfl, fun _ _ => rfl⟩
theorem FQm_tr {m m' m'' : MI} {j j' j'' : MJ} {r r' r'' : MR} (h : FQm m m' j j' r r') (h' : FQm m' m'' j' j'' r' r'') : FQm m m'' j j'' r r'' := ⟨fun a ha => (h'.1 a ha).trans (h.1 a ha), fun q hq => (h'.2.1 q hq).trans (h.2.1 q hq), fun q hq => (h'.2.2.1 q hq).trans (h.2.2.1 q hq), fun i a1 a2 a3 a4 a5 a6 => (h'.2.2.2.1 i a1 a2 a3 a4 a5 a6).trans (h.2.2.2.1 i a1 a2 a3 a4 a5 a6), fun a ha => (h'.2.2.2.2.1 a ha).trans (h.2.2.2.2.1 a ha), fun a ha => (h'.2.2.2.2.2 a ha).trans (h.2.2.2.2.2 a ha)⟩
theorem FQm_fd {m m' : MI} {j j' : MJ} {r r' : MR} (h : FD 86 m m' j j' r r') : FQm m m' j j' r r' := ⟨fun a ha => h.1 a (by omega) (by omega) (by omega) (by omega) (by omega), fun q _ => by rw [h.1 83 (by omega) (by omega) (by omega) (by omega) (by omega)], fun q _ => by rw [h.1 84 (by omega) (by omega) (by omega) (by omega) (by omega)], fun i _ a2 _ _ _ a6 => h.2.1 i a2 a6, h.2.2.1, h.2.2.2⟩
theorem FQm_p {m m' : MI} {j j' : MJ} {r r' : MR} (h : FPm m m' j j' r r') : FQm m m' j j' r r' := FQm_fd (FD_p h)
/-- one cell of the model's own rows -/
theorem FQm_a {m m' : MI} {j : MJ} {r : MR} (h : ∀ a, a ≠ 86 → a ≠ 92 → m' a = m a) : FQm m m' j j r r := ⟨fun a ha => h a (by omega) (by omega), fun q _ => by rw [h 83 (by omega) (by omega)], fun q _ => by rw [h 84 (by omega) (by omega)], fun i _ _ _ _ _ _ => by rw [h 72 (by omega) (by omega)], fun _ _ => rfl, fun _ _ => rfl⟩
theorem FQm_0 {m : MI} {j : MJ} {r : MR} {x : Int32} : FQm m (wI m 72 0 x) j j r r := ⟨fun a ha => wI_ne (by omega), fun q _ => by rw [wI_ne (by omega)], fun q _ => by rw [wI_ne (by omega)], fun i a1 _ _ _ _ _ => wI_sn a1, fun _ _ => rfl, fun _ _ => rfl⟩
def QC (n z : Nat) (D : Dyn) (m : MI) (j : MJ) (r : MR) (res : Option (Int32 × AH)) (v : Int32) : Prop := ∃ m', res = some (v, mkH n z D m' j r) ∧ FQc m m'
def QM (n z : Nat) (D : Dyn) (LM : MI → MJ → Prop) (m : MI) (j : MJ) (r : MR) (res : Option (Int32 × AH)) (v : Int32) : Prop := ∃ m' j' r', res = some (v, mkH n z D m' j' r') ∧ LM m' j' ∧ FQm m m' j j' r r'
