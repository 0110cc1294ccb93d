/-! Arithmetic of small numbers; arrays at numbers. -/
theorem obs {α β : Type} (a : α) (f : α → Option β) : (some a).bind f = f a := by
  rw [Option.bind_some]
theorem i_mul {a b : Nat} : Int32.ofNat a * Int32.ofNat b = Int32.ofNat (a * b) := (Int32.ofNat_mul a b).symm
theorem i_sub {a b : Nat} (h : b ≤ a) : Int32.ofNat a - Int32.ofNat b = Int32.ofNat (a - b) := (Int32.ofNat_sub a b h).symm
theorem i_div {a b : Nat} (ha : a < 2147483648) (hb : b < 2147483648) : Int32.ofNat a / Int32.ofNat b = Int32.ofNat (a / b) := by
  apply Int32.toInt_inj.mp
  have h1 : a / b ≤ a := Nat.div_le_self a b
  rw [Int32.toInt_div, i_int ha, i_int hb, i_int (Nat.lt_of_le_of_lt h1 ha)]
  rw [show (a : Int).tdiv b = ((a / b : Nat) : Int) from (Int.ofNat_tdiv a b).symm]
  generalize a / b = q at *
  rw [Int.bmod_eq_of_le] <;> omega
theorem i_mod {a b : Nat} (ha : a < 2147483648) (hb : b < 2147483648) : Int32.ofNat a - Int32.ofNat a / Int32.ofNat b * Int32.ofNat b = Int32.ofNat (a % b) := by
  rw [i_div ha hb, i_mul, i_sub (by exact Nat.div_mul_le_self a b)]
  congr 1
  have := Nat.div_add_mod a b
  rw [Nat.mul_comm] at this
  omega
theorem i_or {a b : Nat} : Int32.ofNat a ||| Int32.ofNat b = Int32.ofNat (a ||| b) := by
  apply Int32.toBitVec_inj.mp
  show BitVec.ofNat 32 a ||| BitVec.ofNat 32 b = BitVec.ofNat 32 (a ||| b)
  apply BitVec.eq_of_toNat_eq
  simp [BitVec.toNat_or]
theorem i_and {a b : Nat} : Int32.ofNat a &&& Int32.ofNat b = Int32.ofNat (a &&& b) := by
  apply Int32.toBitVec_inj.mp
  show BitVec.ofNat 32 a &&& BitVec.ofNat 32 b = BitVec.ofNat 32 (a &&& b)
  apply BitVec.eq_of_toNat_eq
  simp [BitVec.toNat_and]
/-- a bit of a small set -/
theorem i_has {s c : Nat} (hs : s < 64) (hc : c < 7) : (((Int32.ofNat s >>> (Int32.ofNat c &&& Int32.ofNat 31)) &&& Int32.ofNat 1) = Int32.ofNat 1) ↔ s.testBit c = true := by
  have : ∀ s, s < 64 → ∀ c, c < 7 → ((((Int32.ofNat s >>> (Int32.ofNat c &&& Int32.ofNat 31)) &&& Int32.ofNat 1) = Int32.ofNat 1) ↔ s.testBit c = true) := by decide +kernel
  exact this s hs c hc
theorem i_bit {c : Nat} (hc : c < 7) : Int32.ofNat 1 <<< (Int32.ofNat c &&& Int32.ofNat 31) = Int32.ofNat (1 <<< c) := by
  have : ∀ c, c < 7 → Int32.ofNat 1 <<< (Int32.ofNat c &&& Int32.ofNat 31) = Int32.ofNat (1 <<< c) := by decide +kernel
  exact this c hc
def no1 : Int32 := -1
def no2 : Int32 := -2
def noH : Int32 := -1000000
theorem no1_e : -(Int32.ofNat 1) = no1 := rfl
theorem no2_e : -(Int32.ofNat 2) = no2 := rfl
theorem noH_e : -(Int32.ofNat 1000000) = noH := rfl
/-- one less: nought is none -/
def pr (k : Nat) : Int32 := if k = 0 then no1 else Int32.ofNat (k - 1)
theorem no1_toInt : no1.toInt = -1 := by decide
theorem no1_ne {a : Nat} (h : a < 2147483648) : (Int32.ofNat a = no1) ↔ False := by
  constructor
  · intro e
    have := congrArg Int32.toInt e
    rw [i_int h, no1_toInt] at this
    omega
  · exact False.elim
theorem no1_ne' {a : Nat} (h : a < 2147483648) : (no1 = Int32.ofNat a) ↔ False := by
  rw [eq_comm, no1_ne h]
theorem pr_0 : pr 0 = no1 := rfl
theorem pr_s {c : Nat} : pr (c + 1) = Int32.ofNat c := rfl
theorem pr_sub {k : Nat} : Int32.ofNat k - Int32.ofNat 1 = pr k := by
  unfold pr
  by_cases h : k = 0
  · subst h
    rfl
  · rw [if_neg h, i_sub (by omega)]
theorem pr_no {k : Nat} (h : k ≤ 2147483648) : (pr k = no1) ↔ k = 0 := by
  unfold pr
  by_cases h0 : k = 0
  · simp [h0]
  · rw [if_neg h0, no1_ne (by omega)]
    simp [h0]
theorem pr_k {k c : Nat} (h : k ≤ 2147483648) (hc : c < 2147483648) : (pr k = Int32.ofNat c) ↔ k = c + 1 := by
  unfold pr
  by_cases h0 : k = 0
  · subst h0
    rw [if_pos rfl, no1_ne' hc]
    simp
  · rw [if_neg h0, i_inj (by omega) hc]
    omega
theorem pr_inj {k c : Nat} (h : k ≤ 2147483648) (hc : c ≤ 2147483648) : (pr k = pr c) ↔ k = c := by
  by_cases h0 : c = 0
  · subst h0
    exact pr_no h
  · obtain ⟨d, rfl⟩ : ∃ d, c = d + 1 := ⟨c - 1, by omega⟩
    rw [pr_s, pr_k h (by omega)]
theorem i_neg0 {x : Int32} (h : x < 0) {k : Nat} (hk : k < 2147483648) : (Int32.ofNat k ≤ x) ↔ False := by
  constructor
  · intro h1
    have a1 := Int32.le_iff_toInt_le.mp h1
    have a2 := Int32.lt_iff_toInt_lt.mp h
    rw [i_int hk] at a1
    have e : (0 : Int32).toInt = 0 := rfl
    omega
  · exact False.elim
theorem i_min {a b : Nat} (ha : a < 2147483648) (hb : b < 2147483648) : (if Int32.ofNat b < Int32.ofNat a then (Int32.ofNat b) else (Int32.ofNat a)) = Int32.ofNat (min a b) := by
  by_cases h : b < a
  · rw [if_pos ((i_lt hb ha).mpr h), Nat.min_eq_right (by omega)]
  · rw [if_neg (fun e => h ((i_lt hb ha).mp e)), Nat.min_eq_left (by omega)]
section ARK
variable {n z : Nat} {D : Dyn} {m : MI} {j : MJ} {r : MR}
theorem nar0 {x : Int32} : nar 0 x = x := rfl
theorem aIk {t a N k : Nat} (hs : SHP D a = some (.inl (t, N))) (ht : t = 0 ∨ t = 1 ∨ t = 3) (hk : k < N) (hN : N ≤ 100000) : aI t (mkH n z D m j r) a (Int32.ofNat k) = some (m a k) := by
  rw [aI_mk hs ht (i_ix hk hN), i_toNat (by omega)]
theorem uIk {t a N k : Nat} {x : Int32} (hs : SHP D a = some (.inl (t, N))) (ht : t = 0 ∨ t = 1 ∨ t = 3) (hk : k < N) (hN : N ≤ 100000) : uI t (mkH n z D m j r) a (Int32.ofNat k) x = some (mkH n z D (wI m a k (nar t x)) j r) := by
  rw [uI_mk hs ht (i_ix hk hN), i_toNat (by omega)]
theorem aJk {a N k : Nat} (hs : SHP D a = some (.inl (2, N))) (hk : k < N) (hN : N ≤ 100000) : aJ (mkH n z D m j r) a (Int32.ofNat k) = some (j a k) := by
  rw [aJ_mk hs (i_ix hk hN), i_toNat (by omega)]
theorem uJk {a N k : Nat} {x : Int64} (hs : SHP D a = some (.inl (2, N))) (hk : k < N) (hN : N ≤ 100000) : uJ (mkH n z D m j r) a (Int32.ofNat k) x = some (mkH n z D m (wJ j a k x) r) := by
  rw [uJ_mk hs (i_ix hk hN), i_toNat (by omega)]
theorem aQk {t a N k : Nat} (hs : SHP D a = some (.inl (t, N))) (ht : t = 4 ∨ t = 5) (hk : k < N) (hN : N ≤ 100000) : aQ t (mkH n z D m j r) a (Int32.ofNat k) = some (r a k) := by
  rw [aQ_mk hs ht (i_ix hk hN), i_toNat (by omega)]
/-- the cells of a State -/
def isSt (D : Dyn) (s : Nat) : Prop := SHP D s = some (oState s) ∧ SHP D (s + 1) = some (aT 5) ∧ SHP D (s + 2) = some (aT 5) ∧ SHP D (s + 3) = some (aT 6) ∧ SHP D (s + 4) = some (aT 6) ∧ SHP D (s + 5) = some (aT 6)
theorem isSt27 : isSt D 27 := ⟨rfl, rfl, rfl, rfl, rfl, rfl⟩
theorem isSt33 : isSt D 33 := ⟨rfl, rfl, rfl, rfl, rfl, rfl⟩
theorem isSt42 : isSt D 42 := ⟨rfl, rfl, rfl, rfl, rfl, rfl⟩
theorem stg {s : Nat} (h : isSt D s) : gR [8] (mkH n z D m j r) s 0 = some (s + 1) ∧ gR [8] (mkH n z D m j r) s 1 = some (s + 2) ∧ gR [8] (mkH n z D m j r) s 2 = some (s + 3) ∧ gR [8] (mkH n z D m j r) s 3 = some (s + 4) ∧ gR [8] (mkH n z D m j r) s 4 = some (s + 5) ∧ gI [8] (mkH n z D m j r) s 5 = some (m s 5) ∧ gI [8] (mkH n z D m j r) s 6 = some (m s 6) ∧ gI [8] (mkH n z D m j r) s 7 = some (m s 7) ∧ isC [8] (mkH n z D m j r) s = some () ∧ (∀ x, pV [8] (mkH n z D m j r) s 5 (.int x) = some (mkH n z D (wI m s 5 x) j r)) ∧ (∀ x, pV [8] (mkH n z D m j r) s 6 (.int x) = some (mkH n z D (wI m s 6 x) j r)) ∧ (∀ x, pV [8] (mkH n z D m j r) s 7 (.int x) = some (mkH n z D (wI m s 7 x) j r)) :=
  ⟨gR_mk h.1 (by decide) rfl, gR_mk h.1 (by decide) rfl, gR_mk h.1 (by decide) rfl, gR_mk h.1 (by decide) rfl, gR_mk h.1 (by decide) rfl, gI_mk h.1 (by decide) rfl, gI_mk h.1 (by decide) rfl, gI_mk h.1 (by decide) rfl, isC_mk h.1 (by decide), fun x => pI_mk h.1 (by decide) rfl, fun x => pI_mk h.1 (by decide) rfl, fun x => pI_mk h.1 (by decide) rfl⟩
theorem sta {s : Nat} (h : isSt D s) : (∀ k, k < 5 → aI 0 (mkH n z D m j r) (s + 1) (Int32.ofNat k) = some (m (s + 1) k)) ∧ (∀ k, k < 5 → aI 0 (mkH n z D m j r) (s + 2) (Int32.ofNat k) = some (m (s + 2) k)) ∧ (∀ k, k < 6 → aI 0 (mkH n z D m j r) (s + 3) (Int32.ofNat k) = some (m (s + 3) k)) ∧ (∀ k, k < 6 → aI 0 (mkH n z D m j r) (s + 4) (Int32.ofNat k) = some (m (s + 4) k)) ∧ (∀ k, k < 6 → aI 0 (mkH n z D m j r) (s + 5) (Int32.ofNat k) = some (m (s + 5) k)) :=
  ⟨fun k hk => aIk h.2.1 (by decide) hk (by decide), fun k hk => aIk h.2.2.1 (by decide) hk (by decide), fun k hk => aIk h.2.2.2.1 (by decide) hk (by decide), fun k hk => aIk h.2.2.2.2.1 (by decide) hk (by decide), fun k hk => aIk h.2.2.2.2.2 (by decide) hk (by decide)⟩
theorem stu {s : Nat} (h : isSt D s) : (∀ k x, k < 5 → uI 0 (mkH n z D m j r) (s + 1) (Int32.ofNat k) x = some (mkH n z D (wI m (s + 1) k x) j r)) ∧ (∀ k x, k < 5 → uI 0 (mkH n z D m j r) (s + 2) (Int32.ofNat k) x = some (mkH n z D (wI m (s + 2) k x) j r)) ∧ (∀ k x, k < 6 → uI 0 (mkH n z D m j r) (s + 3) (Int32.ofNat k) x = some (mkH n z D (wI m (s + 3) k x) j r)) ∧ (∀ k x, k < 6 → uI 0 (mkH n z D m j r) (s + 4) (Int32.ofNat k) x = some (mkH n z D (wI m (s + 4) k x) j r)) ∧ (∀ k x, k < 6 → uI 0 (mkH n z D m j r) (s + 5) (Int32.ofNat k) x = some (mkH n z D (wI m (s + 5) k x) j r)) :=
  ⟨fun k x hk => uIk h.2.1 (by decide) hk (by decide), fun k x hk => uIk h.2.2.1 (by decide) hk (by decide), fun k x hk => uIk h.2.2.2.1 (by decide) hk (by decide), fun k x hk => uIk h.2.2.2.2.1 (by decide) hk (by decide), fun k x hk => uIk h.2.2.2.2.2 (by decide) hk (by decide)⟩
end ARK
theorem l0 : (0 : Int32) = Int32.ofNat 0 := rfl
theorem l1 : (1 : Int32) = Int32.ofNat 1 := rfl
theorem l2 : (2 : Int32) = Int32.ofNat 2 := rfl
theorem l3 : (3 : Int32) = Int32.ofNat 3 := rfl
theorem l4 : (4 : Int32) = Int32.ofNat 4 := rfl
theorem l5 : (5 : Int32) = Int32.ofNat 5 := rfl
theorem l6 : (6 : Int32) = Int32.ofNat 6 := rfl
theorem l7 : (7 : Int32) = Int32.ofNat 7 := rfl
theorem l8 : (8 : Int32) = Int32.ofNat 8 := rfl
theorem l9 : (9 : Int32) = Int32.ofNat 9 := rfl
theorem l10 : (10 : Int32) = Int32.ofNat 10 := rfl
theorem l11 : (11 : Int32) = Int32.ofNat 11 := rfl
theorem l12 : (12 : Int32) = Int32.ofNat 12 := rfl
theorem l13 : (13 : Int32) = Int32.ofNat 13 := rfl
theorem l14 : (14 : Int32) = Int32.ofNat 14 := rfl
theorem l15 : (15 : Int32) = Int32.ofNat 15 := rfl
theorem l16 : (16 : Int32) = Int32.ofNat 16 := rfl
theorem l17 : (17 : Int32) = Int32.ofNat 17 := rfl
theorem l18 : (18 : Int32) = Int32.ofNat 18 := rfl
theorem l19 : (19 : Int32) = Int32.ofNat 19 := rfl
theorem l20 : (20 : Int32) = Int32.ofNat 20 := rfl
theorem l21 : (21 : Int32) = Int32.ofNat 21 := rfl
theorem l22 : (22 : Int32) = Int32.ofNat 22 := rfl
theorem l23 : (23 : Int32) = Int32.ofNat 23 := rfl
theorem l24 : (24 : Int32) = Int32.ofNat 24 := rfl
theorem l25 : (25 : Int32) = Int32.ofNat 25 := rfl
theorem l26 : (26 : Int32) = Int32.ofNat 26 := rfl
theorem l27 : (27 : Int32) = Int32.ofNat 27 := rfl
theorem l28 : (28 : Int32) = Int32.ofNat 28 := rfl
theorem l29 : (29 : Int32) = Int32.ofNat 29 := rfl
theorem l30 : (30 : Int32) = Int32.ofNat 30 := rfl
theorem l31 : (31 : Int32) = Int32.ofNat 31 := rfl
theorem l32 : (32 : Int32) = Int32.ofNat 32 := rfl
theorem l33 : (33 : Int32) = Int32.ofNat 33 := rfl
theorem l34 : (34 : Int32) = Int32.ofNat 34 := rfl
theorem l35 : (35 : Int32) = Int32.ofNat 35 := rfl
theorem l36 : (36 : Int32) = Int32.ofNat 36 := rfl
theorem l37 : (37 : Int32) = Int32.ofNat 37 := rfl
theorem l38 : (38 : Int32) = Int32.ofNat 38 := rfl
theorem l39 : (39 : Int32) = Int32.ofNat 39 := rfl
theorem l40 : (40 : Int32) = Int32.ofNat 40 := rfl
theorem l41 : (41 : Int32) = Int32.ofNat 41 := rfl
theorem l42 : (42 : Int32) = Int32.ofNat 42 := rfl
theorem l43 : (43 : Int32) = Int32.ofNat 43 := rfl
theorem l44 : (44 : Int32) = Int32.ofNat 44 := rfl
theorem l45 : (45 : Int32) = Int32.ofNat 45 := rfl
theorem l46 : (46 : Int32) = Int32.ofNat 46 := rfl
theorem l47 : (47 : Int32) = Int32.ofNat 47 := rfl
theorem l48 : (48 : Int32) = Int32.ofNat 48 := rfl
theorem l49 : (49 : Int32) = Int32.ofNat 49 := rfl
theorem l50 : (50 : Int32) = Int32.ofNat 50 := rfl
theorem l51 : (51 : Int32) = Int32.ofNat 51 := rfl
theorem l52 : (52 : Int32) = Int32.ofNat 52 := rfl
theorem l53 : (53 : Int32) = Int32.ofNat 53 := rfl
theorem l54 : (54 : Int32) = Int32.ofNat 54 := rfl
theorem l55 : (55 : Int32) = Int32.ofNat 55 := rfl
theorem l56 : (56 : Int32) = Int32.ofNat 56 := rfl
theorem l57 : (57 : Int32) = Int32.ofNat 57 := rfl
theorem l58 : (58 : Int32) = Int32.ofNat 58 := rfl
theorem l59 : (59 : Int32) = Int32.ofNat 59 := rfl
theorem l60 : (60 : Int32) = Int32.ofNat 60 := rfl
theorem l61 : (61 : Int32) = Int32.ofNat 61 := rfl
theorem l62 : (62 : Int32) = Int32.ofNat 62 := rfl
theorem l63 : (63 : Int32) = Int32.ofNat 63 := rfl
theorem l64 : (64 : Int32) = Int32.ofNat 64 := rfl
theorem l91 : (91 : Int32) = Int32.ofNat 91 := rfl
theorem l93 : (93 : Int32) = Int32.ofNat 93 := rfl
theorem l97 : (97 : Int32) = Int32.ofNat 97 := rfl
theorem l98 : (98 : Int32) = Int32.ofNat 98 := rfl
theorem l99 : (99 : Int32) = Int32.ofNat 99 := rfl
theorem l100 : (100 : Int32) = Int32.ofNat 100 := rfl
theorem l103 : (103 : Int32) = Int32.ofNat 103 := rfl
theorem l107 : (107 : Int32) = Int32.ofNat 107 := rfl
theorem l109 : (109 : Int32) = Int32.ofNat 109 := rfl
theorem l110 : (110 : Int32) = Int32.ofNat 110 := rfl
theorem l111 : (111 : Int32) = Int32.ofNat 111 := rfl
theorem l112 : (112 : Int32) = Int32.ofNat 112 := rfl
theorem l114 : (114 : Int32) = Int32.ofNat 114 := rfl
theorem l115 : (115 : Int32) = Int32.ofNat 115 := rfl
theorem l116 : (116 : Int32) = Int32.ofNat 116 := rfl
theorem l119 : (119 : Int32) = Int32.ofNat 119 := rfl
theorem l121 : (121 : Int32) = Int32.ofNat 121 := rfl
theorem l124 : (124 : Int32) = Int32.ofNat 124 := rfl
theorem l127 : (127 : Int32) = Int32.ofNat 127 := rfl
theorem l128 : (128 : Int32) = Int32.ofNat 128 := rfl
theorem l160 : (160 : Int32) = Int32.ofNat 160 := rfl
theorem l177 : (177 : Int32) = Int32.ofNat 177 := rfl
theorem l192 : (192 : Int32) = Int32.ofNat 192 := rfl
theorem l212 : (212 : Int32) = Int32.ofNat 212 := rfl
theorem l240 : (240 : Int32) = Int32.ofNat 240 := rfl
theorem l255 : (255 : Int32) = Int32.ofNat 255 := rfl
theorem l256 : (256 : Int32) = Int32.ofNat 256 := rfl
theorem l768 : (768 : Int32) = Int32.ofNat 768 := rfl
theorem l960 : (960 : Int32) = Int32.ofNat 960 := rfl
theorem l999 : (999 : Int32) = Int32.ofNat 999 := rfl
theorem l8191 : (8191 : Int32) = Int32.ofNat 8191 := rfl
theorem l8267 : (8267 : Int32) = Int32.ofNat 8267 := rfl
theorem l8268 : (8268 : Int32) = Int32.ofNat 8268 := rfl
theorem l8480 : (8480 : Int32) = Int32.ofNat 8480 := rfl
theorem l10000 : (10000 : Int32) = Int32.ofNat 10000 := rfl
theorem l10006 : (10006 : Int32) = Int32.ofNat 10006 := rfl
theorem l10007 : (10007 : Int32) = Int32.ofNat 10007 := rfl
theorem l10008 : (10008 : Int32) = Int32.ofNat 10008 := rfl
theorem l10009 : (10009 : Int32) = Int32.ofNat 10009 := rfl
theorem l10010 : (10010 : Int32) = Int32.ofNat 10010 := rfl
theorem l10011 : (10011 : Int32) = Int32.ofNat 10011 := rfl
theorem l10012 : (10012 : Int32) = Int32.ofNat 10012 := rfl
theorem l10013 : (10013 : Int32) = Int32.ofNat 10013 := rfl
theorem l10014 : (10014 : Int32) = Int32.ofNat 10014 := rfl
theorem l10015 : (10015 : Int32) = Int32.ofNat 10015 := rfl
theorem l10016 : (10016 : Int32) = Int32.ofNat 10016 := rfl
theorem l10017 : (10017 : Int32) = Int32.ofNat 10017 := rfl
theorem l1000000 : (1000000 : Int32) = Int32.ofNat 1000000 := rfl
theorem l1000000000 : (1000000000 : Int32) = Int32.ofNat 1000000000 := rfl
section ARR
variable {n z : Nat} {D : Dyn} {m : MI} {j : MJ} {r : MR}
theorem p2 : (∀ k : Nat, k < 240 → aI 0 (mkH n z D m j r) 2 (Int32.ofNat k) = some (m 2 k)) ∧ (∀ (k : Nat) (x : Int32), k < 240 → uI 0 (mkH n z D m j r) 2 (Int32.ofNat k) x = some (mkH n z D (wI m 2 k x) j r)) :=
  ⟨fun k h => aIk rfl (by decide) h (by decide), fun k x h => uIk rfl (by decide) h (by decide)⟩
theorem p5 : (∀ k : Nat, k < 5 → aI 0 (mkH n z D m j r) 5 (Int32.ofNat k) = some (m 5 k)) ∧ (∀ (k : Nat) (x : Int32), k < 5 → uI 0 (mkH n z D m j r) 5 (Int32.ofNat k) x = some (mkH n z D (wI m 5 k x) j r)) :=
  ⟨fun k h => aIk rfl (by decide) h (by decide), fun k x h => uIk rfl (by decide) h (by decide)⟩
theorem p6 : (∀ k : Nat, k < 5 → aI 0 (mkH n z D m j r) 6 (Int32.ofNat k) = some (m 6 k)) ∧ (∀ (k : Nat) (x : Int32), k < 5 → uI 0 (mkH n z D m j r) 6 (Int32.ofNat k) x = some (mkH n z D (wI m 6 k x) j r)) :=
  ⟨fun k h => aIk rfl (by decide) h (by decide), fun k x h => uIk rfl (by decide) h (by decide)⟩
theorem p7 : (∀ k : Nat, k < 6 → aI 0 (mkH n z D m j r) 7 (Int32.ofNat k) = some (m 7 k)) ∧ (∀ (k : Nat) (x : Int32), k < 6 → uI 0 (mkH n z D m j r) 7 (Int32.ofNat k) x = some (mkH n z D (wI m 7 k x) j r)) :=
  ⟨fun k h => aIk rfl (by decide) h (by decide), fun k x h => uIk rfl (by decide) h (by decide)⟩
theorem p8 : (∀ k : Nat, k < 6 → aI 0 (mkH n z D m j r) 8 (Int32.ofNat k) = some (m 8 k)) ∧ (∀ (k : Nat) (x : Int32), k < 6 → uI 0 (mkH n z D m j r) 8 (Int32.ofNat k) x = some (mkH n z D (wI m 8 k x) j r)) :=
  ⟨fun k h => aIk rfl (by decide) h (by decide), fun k x h => uIk rfl (by decide) h (by decide)⟩
theorem p9 : (∀ k : Nat, k < 6 → aI 0 (mkH n z D m j r) 9 (Int32.ofNat k) = some (m 9 k)) ∧ (∀ (k : Nat) (x : Int32), k < 6 → uI 0 (mkH n z D m j r) 9 (Int32.ofNat k) x = some (mkH n z D (wI m 9 k x) j r)) :=
  ⟨fun k h => aIk rfl (by decide) h (by decide), fun k x h => uIk rfl (by decide) h (by decide)⟩
theorem p10 : (∀ k : Nat, k < 6 → aI 0 (mkH n z D m j r) 10 (Int32.ofNat k) = some (m 10 k)) ∧ (∀ (k : Nat) (x : Int32), k < 6 → uI 0 (mkH n z D m j r) 10 (Int32.ofNat k) x = some (mkH n z D (wI m 10 k x) j r)) :=
  ⟨fun k h => aIk rfl (by decide) h (by decide), fun k x h => uIk rfl (by decide) h (by decide)⟩
theorem p11 : (∀ k : Nat, k < 6 → aI 0 (mkH n z D m j r) 11 (Int32.ofNat k) = some (m 11 k)) ∧ (∀ (k : Nat) (x : Int32), k < 6 → uI 0 (mkH n z D m j r) 11 (Int32.ofNat k) x = some (mkH n z D (wI m 11 k x) j r)) :=
  ⟨fun k h => aIk rfl (by decide) h (by decide), fun k x h => uIk rfl (by decide) h (by decide)⟩
theorem p12 : (∀ k : Nat, k < 6 → aI 0 (mkH n z D m j r) 12 (Int32.ofNat k) = some (m 12 k)) ∧ (∀ (k : Nat) (x : Int32), k < 6 → uI 0 (mkH n z D m j r) 12 (Int32.ofNat k) x = some (mkH n z D (wI m 12 k x) j r)) :=
  ⟨fun k h => aIk rfl (by decide) h (by decide), fun k x h => uIk rfl (by decide) h (by decide)⟩
theorem p13 : (∀ k : Nat, k < 6 → aI 0 (mkH n z D m j r) 13 (Int32.ofNat k) = some (m 13 k)) ∧ (∀ (k : Nat) (x : Int32), k < 6 → uI 0 (mkH n z D m j r) 13 (Int32.ofNat k) x = some (mkH n z D (wI m 13 k x) j r)) :=
  ⟨fun k h => aIk rfl (by decide) h (by decide), fun k x h => uIk rfl (by decide) h (by decide)⟩
theorem p15 : (∀ k : Nat, k < 240 → aI 0 (mkH n z D m j r) 15 (Int32.ofNat k) = some (m 15 k)) ∧ (∀ (k : Nat) (x : Int32), k < 240 → uI 0 (mkH n z D m j r) 15 (Int32.ofNat k) x = some (mkH n z D (wI m 15 k x) j r)) :=
  ⟨fun k h => aIk rfl (by decide) h (by decide), fun k x h => uIk rfl (by decide) h (by decide)⟩
theorem p17 : (∀ k : Nat, k < 16 → aI 0 (mkH n z D m j r) 17 (Int32.ofNat k) = some (m 17 k)) ∧ (∀ (k : Nat) (x : Int32), k < 16 → uI 0 (mkH n z D m j r) 17 (Int32.ofNat k) x = some (mkH n z D (wI m 17 k x) j r)) :=
  ⟨fun k h => aIk rfl (by decide) h (by decide), fun k x h => uIk rfl (by decide) h (by decide)⟩
theorem p19 : (∀ k : Nat, k < 5 → aI 0 (mkH n z D m j r) 19 (Int32.ofNat k) = some (m 19 k)) ∧ (∀ (k : Nat) (x : Int32), k < 5 → uI 0 (mkH n z D m j r) 19 (Int32.ofNat k) x = some (mkH n z D (wI m 19 k x) j r)) :=
  ⟨fun k h => aIk rfl (by decide) h (by decide), fun k x h => uIk rfl (by decide) h (by decide)⟩
theorem p20 : (∀ k : Nat, k < 5 → aI 0 (mkH n z D m j r) 20 (Int32.ofNat k) = some (m 20 k)) ∧ (∀ (k : Nat) (x : Int32), k < 5 → uI 0 (mkH n z D m j r) 20 (Int32.ofNat k) x = some (mkH n z D (wI m 20 k x) j r)) :=
  ⟨fun k h => aIk rfl (by decide) h (by decide), fun k x h => uIk rfl (by decide) h (by decide)⟩
theorem p21 : (∀ k : Nat, k < 6 → aI 0 (mkH n z D m j r) 21 (Int32.ofNat k) = some (m 21 k)) ∧ (∀ (k : Nat) (x : Int32), k < 6 → uI 0 (mkH n z D m j r) 21 (Int32.ofNat k) x = some (mkH n z D (wI m 21 k x) j r)) :=
  ⟨fun k h => aIk rfl (by decide) h (by decide), fun k x h => uIk rfl (by decide) h (by decide)⟩
theorem p22 : (∀ k : Nat, k < 6 → aI 0 (mkH n z D m j r) 22 (Int32.ofNat k) = some (m 22 k)) ∧ (∀ (k : Nat) (x : Int32), k < 6 → uI 0 (mkH n z D m j r) 22 (Int32.ofNat k) x = some (mkH n z D (wI m 22 k x) j r)) :=
  ⟨fun k h => aIk rfl (by decide) h (by decide), fun k x h => uIk rfl (by decide) h (by decide)⟩
theorem p23 : (∀ k : Nat, k < 6 → aI 0 (mkH n z D m j r) 23 (Int32.ofNat k) = some (m 23 k)) ∧ (∀ (k : Nat) (x : Int32), k < 6 → uI 0 (mkH n z D m j r) 23 (Int32.ofNat k) x = some (mkH n z D (wI m 23 k x) j r)) :=
  ⟨fun k h => aIk rfl (by decide) h (by decide), fun k x h => uIk rfl (by decide) h (by decide)⟩
theorem p24 : (∀ k : Nat, k < 6 → aI 0 (mkH n z D m j r) 24 (Int32.ofNat k) = some (m 24 k)) ∧ (∀ (k : Nat) (x : Int32), k < 6 → uI 0 (mkH n z D m j r) 24 (Int32.ofNat k) x = some (mkH n z D (wI m 24 k x) j r)) :=
  ⟨fun k h => aIk rfl (by decide) h (by decide), fun k x h => uIk rfl (by decide) h (by decide)⟩
theorem p25 : (∀ k : Nat, k < 6 → aI 0 (mkH n z D m j r) 25 (Int32.ofNat k) = some (m 25 k)) ∧ (∀ (k : Nat) (x : Int32), k < 6 → uI 0 (mkH n z D m j r) 25 (Int32.ofNat k) x = some (mkH n z D (wI m 25 k x) j r)) :=
  ⟨fun k h => aIk rfl (by decide) h (by decide), fun k x h => uIk rfl (by decide) h (by decide)⟩
theorem p26 : (∀ k : Nat, k < 6 → aI 0 (mkH n z D m j r) 26 (Int32.ofNat k) = some (m 26 k)) ∧ (∀ (k : Nat) (x : Int32), k < 6 → uI 0 (mkH n z D m j r) 26 (Int32.ofNat k) x = some (mkH n z D (wI m 26 k x) j r)) :=
  ⟨fun k h => aIk rfl (by decide) h (by decide), fun k x h => uIk rfl (by decide) h (by decide)⟩
theorem p28 : (∀ k : Nat, k < 5 → aI 0 (mkH n z D m j r) 28 (Int32.ofNat k) = some (m 28 k)) ∧ (∀ (k : Nat) (x : Int32), k < 5 → uI 0 (mkH n z D m j r) 28 (Int32.ofNat k) x = some (mkH n z D (wI m 28 k x) j r)) :=
  ⟨fun k h => aIk rfl (by decide) h (by decide), fun k x h => uIk rfl (by decide) h (by decide)⟩
theorem p29 : (∀ k : Nat, k < 5 → aI 0 (mkH n z D m j r) 29 (Int32.ofNat k) = some (m 29 k)) ∧ (∀ (k : Nat) (x : Int32), k < 5 → uI 0 (mkH n z D m j r) 29 (Int32.ofNat k) x = some (mkH n z D (wI m 29 k x) j r)) :=
  ⟨fun k h => aIk rfl (by decide) h (by decide), fun k x h => uIk rfl (by decide) h (by decide)⟩
theorem p30 : (∀ k : Nat, k < 6 → aI 0 (mkH n z D m j r) 30 (Int32.ofNat k) = some (m 30 k)) ∧ (∀ (k : Nat) (x : Int32), k < 6 → uI 0 (mkH n z D m j r) 30 (Int32.ofNat k) x = some (mkH n z D (wI m 30 k x) j r)) :=
  ⟨fun k h => aIk rfl (by decide) h (by decide), fun k x h => uIk rfl (by decide) h (by decide)⟩
theorem p31 : (∀ k : Nat, k < 6 → aI 0 (mkH n z D m j r) 31 (Int32.ofNat k) = some (m 31 k)) ∧ (∀ (k : Nat) (x : Int32), k < 6 → uI 0 (mkH n z D m j r) 31 (Int32.ofNat k) x = some (mkH n z D (wI m 31 k x) j r)) :=
  ⟨fun k h => aIk rfl (by decide) h (by decide), fun k x h => uIk rfl (by decide) h (by decide)⟩
theorem p32 : (∀ k : Nat, k < 6 → aI 0 (mkH n z D m j r) 32 (Int32.ofNat k) = some (m 32 k)) ∧ (∀ (k : Nat) (x : Int32), k < 6 → uI 0 (mkH n z D m j r) 32 (Int32.ofNat k) x = some (mkH n z D (wI m 32 k x) j r)) :=
  ⟨fun k h => aIk rfl (by decide) h (by decide), fun k x h => uIk rfl (by decide) h (by decide)⟩
theorem p34 : (∀ k : Nat, k < 5 → aI 0 (mkH n z D m j r) 34 (Int32.ofNat k) = some (m 34 k)) ∧ (∀ (k : Nat) (x : Int32), k < 5 → uI 0 (mkH n z D m j r) 34 (Int32.ofNat k) x = some (mkH n z D (wI m 34 k x) j r)) :=
  ⟨fun k h => aIk rfl (by decide) h (by decide), fun k x h => uIk rfl (by decide) h (by decide)⟩
theorem p35 : (∀ k : Nat, k < 5 → aI 0 (mkH n z D m j r) 35 (Int32.ofNat k) = some (m 35 k)) ∧ (∀ (k : Nat) (x : Int32), k < 5 → uI 0 (mkH n z D m j r) 35 (Int32.ofNat k) x = some (mkH n z D (wI m 35 k x) j r)) :=
  ⟨fun k h => aIk rfl (by decide) h (by decide), fun k x h => uIk rfl (by decide) h (by decide)⟩
theorem p36 : (∀ k : Nat, k < 6 → aI 0 (mkH n z D m j r) 36 (Int32.ofNat k) = some (m 36 k)) ∧ (∀ (k : Nat) (x : Int32), k < 6 → uI 0 (mkH n z D m j r) 36 (Int32.ofNat k) x = some (mkH n z D (wI m 36 k x) j r)) :=
  ⟨fun k h => aIk rfl (by decide) h (by decide), fun k x h => uIk rfl (by decide) h (by decide)⟩
theorem p37 : (∀ k : Nat, k < 6 → aI 0 (mkH n z D m j r) 37 (Int32.ofNat k) = some (m 37 k)) ∧ (∀ (k : Nat) (x : Int32), k < 6 → uI 0 (mkH n z D m j r) 37 (Int32.ofNat k) x = some (mkH n z D (wI m 37 k x) j r)) :=
  ⟨fun k h => aIk rfl (by decide) h (by decide), fun k x h => uIk rfl (by decide) h (by decide)⟩
theorem p38 : (∀ k : Nat, k < 6 → aI 0 (mkH n z D m j r) 38 (Int32.ofNat k) = some (m 38 k)) ∧ (∀ (k : Nat) (x : Int32), k < 6 → uI 0 (mkH n z D m j r) 38 (Int32.ofNat k) x = some (mkH n z D (wI m 38 k x) j r)) :=
  ⟨fun k h => aIk rfl (by decide) h (by decide), fun k x h => uIk rfl (by decide) h (by decide)⟩
theorem p40 : ∀ k : Nat, k < 40 → aQ 4 (mkH n z D m j r) 40 (Int32.ofNat k) = some (r 40 k) := fun k h => aQk rfl (by decide) h (by decide)
theorem p41 : (∀ k : Nat, k < 100 → aI 0 (mkH n z D m j r) 41 (Int32.ofNat k) = some (m 41 k)) ∧ (∀ (k : Nat) (x : Int32), k < 100 → uI 0 (mkH n z D m j r) 41 (Int32.ofNat k) x = some (mkH n z D (wI m 41 k x) j r)) :=
  ⟨fun k h => aIk rfl (by decide) h (by decide), fun k x h => uIk rfl (by decide) h (by decide)⟩
theorem p43 : (∀ k : Nat, k < 5 → aI 0 (mkH n z D m j r) 43 (Int32.ofNat k) = some (m 43 k)) ∧ (∀ (k : Nat) (x : Int32), k < 5 → uI 0 (mkH n z D m j r) 43 (Int32.ofNat k) x = some (mkH n z D (wI m 43 k x) j r)) :=
  ⟨fun k h => aIk rfl (by decide) h (by decide), fun k x h => uIk rfl (by decide) h (by decide)⟩
theorem p44 : (∀ k : Nat, k < 5 → aI 0 (mkH n z D m j r) 44 (Int32.ofNat k) = some (m 44 k)) ∧ (∀ (k : Nat) (x : Int32), k < 5 → uI 0 (mkH n z D m j r) 44 (Int32.ofNat k) x = some (mkH n z D (wI m 44 k x) j r)) :=
  ⟨fun k h => aIk rfl (by decide) h (by decide), fun k x h => uIk rfl (by decide) h (by decide)⟩
theorem p45 : (∀ k : Nat, k < 6 → aI 0 (mkH n z D m j r) 45 (Int32.ofNat k) = some (m 45 k)) ∧ (∀ (k : Nat) (x : Int32), k < 6 → uI 0 (mkH n z D m j r) 45 (Int32.ofNat k) x = some (mkH n z D (wI m 45 k x) j r)) :=
  ⟨fun k h => aIk rfl (by decide) h (by decide), fun k x h => uIk rfl (by decide) h (by decide)⟩
theorem p46 : (∀ k : Nat, k < 6 → aI 0 (mkH n z D m j r) 46 (Int32.ofNat k) = some (m 46 k)) ∧ (∀ (k : Nat) (x : Int32), k < 6 → uI 0 (mkH n z D m j r) 46 (Int32.ofNat k) x = some (mkH n z D (wI m 46 k x) j r)) :=
  ⟨fun k h => aIk rfl (by decide) h (by decide), fun k x h => uIk rfl (by decide) h (by decide)⟩
theorem p47 : (∀ k : Nat, k < 6 → aI 0 (mkH n z D m j r) 47 (Int32.ofNat k) = some (m 47 k)) ∧ (∀ (k : Nat) (x : Int32), k < 6 → uI 0 (mkH n z D m j r) 47 (Int32.ofNat k) x = some (mkH n z D (wI m 47 k x) j r)) :=
  ⟨fun k h => aIk rfl (by decide) h (by decide), fun k x h => uIk rfl (by decide) h (by decide)⟩
theorem p48 : (∀ k : Nat, k < 100 → aI 0 (mkH n z D m j r) 48 (Int32.ofNat k) = some (m 48 k)) ∧ (∀ (k : Nat) (x : Int32), k < 100 → uI 0 (mkH n z D m j r) 48 (Int32.ofNat k) x = some (mkH n z D (wI m 48 k x) j r)) :=
  ⟨fun k h => aIk rfl (by decide) h (by decide), fun k x h => uIk rfl (by decide) h (by decide)⟩
theorem p50 : (∀ k : Nat, k < 6 → aI 0 (mkH n z D m j r) 50 (Int32.ofNat k) = some (m 50 k)) ∧ (∀ (k : Nat) (x : Int32), k < 6 → uI 0 (mkH n z D m j r) 50 (Int32.ofNat k) x = some (mkH n z D (wI m 50 k x) j r)) :=
  ⟨fun k h => aIk rfl (by decide) h (by decide), fun k x h => uIk rfl (by decide) h (by decide)⟩
theorem p51 : (∀ k : Nat, k < 32 → aI 0 (mkH n z D m j r) 51 (Int32.ofNat k) = some (m 51 k)) ∧ (∀ (k : Nat) (x : Int32), k < 32 → uI 0 (mkH n z D m j r) 51 (Int32.ofNat k) x = some (mkH n z D (wI m 51 k x) j r)) :=
  ⟨fun k h => aIk rfl (by decide) h (by decide), fun k x h => uIk rfl (by decide) h (by decide)⟩
theorem p53 : (∀ k : Nat, k < 6 → aI 0 (mkH n z D m j r) 53 (Int32.ofNat k) = some (m 53 k)) ∧ (∀ (k : Nat) (x : Int32), k < 6 → uI 0 (mkH n z D m j r) 53 (Int32.ofNat k) x = some (mkH n z D (wI m 53 k x) j r)) :=
  ⟨fun k h => aIk rfl (by decide) h (by decide), fun k x h => uIk rfl (by decide) h (by decide)⟩
theorem p54 : (∀ k : Nat, k < 60 → aI 0 (mkH n z D m j r) 54 (Int32.ofNat k) = some (m 54 k)) ∧ (∀ (k : Nat) (x : Int32), k < 60 → uI 0 (mkH n z D m j r) 54 (Int32.ofNat k) x = some (mkH n z D (wI m 54 k x) j r)) :=
  ⟨fun k h => aIk rfl (by decide) h (by decide), fun k x h => uIk rfl (by decide) h (by decide)⟩
theorem p56 : (∀ k : Nat, k < 10 → aI 0 (mkH n z D m j r) 56 (Int32.ofNat k) = some (m 56 k)) ∧ (∀ (k : Nat) (x : Int32), k < 10 → uI 0 (mkH n z D m j r) 56 (Int32.ofNat k) x = some (mkH n z D (wI m 56 k x) j r)) :=
  ⟨fun k h => aIk rfl (by decide) h (by decide), fun k x h => uIk rfl (by decide) h (by decide)⟩
theorem p57 : (∀ k : Nat, k < 10 → aI 0 (mkH n z D m j r) 57 (Int32.ofNat k) = some (m 57 k)) ∧ (∀ (k : Nat) (x : Int32), k < 10 → uI 0 (mkH n z D m j r) 57 (Int32.ofNat k) x = some (mkH n z D (wI m 57 k x) j r)) :=
  ⟨fun k h => aIk rfl (by decide) h (by decide), fun k x h => uIk rfl (by decide) h (by decide)⟩
theorem p58 : (∀ k : Nat, k < 10 → aI 0 (mkH n z D m j r) 58 (Int32.ofNat k) = some (m 58 k)) ∧ (∀ (k : Nat) (x : Int32), k < 10 → uI 0 (mkH n z D m j r) 58 (Int32.ofNat k) x = some (mkH n z D (wI m 58 k x) j r)) :=
  ⟨fun k h => aIk rfl (by decide) h (by decide), fun k x h => uIk rfl (by decide) h (by decide)⟩
theorem p59 : (∀ k : Nat, k < 10 → aI 3 (mkH n z D m j r) 59 (Int32.ofNat k) = some (m 59 k)) ∧ (∀ (k : Nat) (x : Int32), k < 10 → uI 3 (mkH n z D m j r) 59 (Int32.ofNat k) x = some (mkH n z D (wI m 59 k (nar 3 x)) j r)) :=
  ⟨fun k h => aIk rfl (by decide) h (by decide), fun k x h => uIk rfl (by decide) h (by decide)⟩
theorem p60 : (∀ k : Nat, k < 30 → aI 0 (mkH n z D m j r) 60 (Int32.ofNat k) = some (m 60 k)) ∧ (∀ (k : Nat) (x : Int32), k < 30 → uI 0 (mkH n z D m j r) 60 (Int32.ofNat k) x = some (mkH n z D (wI m 60 k x) j r)) :=
  ⟨fun k h => aIk rfl (by decide) h (by decide), fun k x h => uIk rfl (by decide) h (by decide)⟩
theorem p61 : ∀ k : Nat, k < 4 → aQ 5 (mkH n z D m j r) 61 (Int32.ofNat k) = some (r 61 k) := fun k h => aQk rfl (by decide) h (by decide)
theorem p66 : ∀ k : Nat, k < 4 → aQ 5 (mkH n z D m j r) 66 (Int32.ofNat k) = some (r 66 k) := fun k h => aQk rfl (by decide) h (by decide)
theorem p71 : (∀ k : Nat, k < 16 → aI 0 (mkH n z D m j r) 71 (Int32.ofNat k) = some (m 71 k)) ∧ (∀ (k : Nat) (x : Int32), k < 16 → uI 0 (mkH n z D m j r) 71 (Int32.ofNat k) x = some (mkH n z D (wI m 71 k x) j r)) :=
  ⟨fun k h => aIk rfl (by decide) h (by decide), fun k x h => uIk rfl (by decide) h (by decide)⟩
theorem p73 : (∀ k : Nat, k < 240 → aI 1 (mkH n z D m j r) 73 (Int32.ofNat k) = some (m 73 k)) ∧ (∀ (k : Nat) (x : Int32), k < 240 → uI 1 (mkH n z D m j r) 73 (Int32.ofNat k) x = some (mkH n z D (wI m 73 k (nar 1 x)) j r)) :=
  ⟨fun k h => aIk rfl (by decide) h (by decide), fun k x h => uIk rfl (by decide) h (by decide)⟩
theorem p74 : (∀ k : Nat, k < 960 → aI 1 (mkH n z D m j r) 74 (Int32.ofNat k) = some (m 74 k)) ∧ (∀ (k : Nat) (x : Int32), k < 960 → uI 1 (mkH n z D m j r) 74 (Int32.ofNat k) x = some (mkH n z D (wI m 74 k (nar 1 x)) j r)) :=
  ⟨fun k h => aIk rfl (by decide) h (by decide), fun k x h => uIk rfl (by decide) h (by decide)⟩
theorem p75 : (∀ k : Nat, k < 4 → aI 0 (mkH n z D m j r) 75 (Int32.ofNat k) = some (m 75 k)) ∧ (∀ (k : Nat) (x : Int32), k < 4 → uI 0 (mkH n z D m j r) 75 (Int32.ofNat k) x = some (mkH n z D (wI m 75 k x) j r)) :=
  ⟨fun k h => aIk rfl (by decide) h (by decide), fun k x h => uIk rfl (by decide) h (by decide)⟩
theorem p76 : (∀ k : Nat, k < 128 → aI 0 (mkH n z D m j r) 76 (Int32.ofNat k) = some (m 76 k)) ∧ (∀ (k : Nat) (x : Int32), k < 128 → uI 0 (mkH n z D m j r) 76 (Int32.ofNat k) x = some (mkH n z D (wI m 76 k x) j r)) :=
  ⟨fun k h => aIk rfl (by decide) h (by decide), fun k x h => uIk rfl (by decide) h (by decide)⟩
theorem p77 : (∀ k : Nat, k < 3 → aI 0 (mkH n z D m j r) 77 (Int32.ofNat k) = some (m 77 k)) ∧ (∀ (k : Nat) (x : Int32), k < 3 → uI 0 (mkH n z D m j r) 77 (Int32.ofNat k) x = some (mkH n z D (wI m 77 k x) j r)) :=
  ⟨fun k h => aIk rfl (by decide) h (by decide), fun k x h => uIk rfl (by decide) h (by decide)⟩
theorem p78 : (∀ k : Nat, k < 3 → aI 0 (mkH n z D m j r) 78 (Int32.ofNat k) = some (m 78 k)) ∧ (∀ (k : Nat) (x : Int32), k < 3 → uI 0 (mkH n z D m j r) 78 (Int32.ofNat k) x = some (mkH n z D (wI m 78 k x) j r)) :=
  ⟨fun k h => aIk rfl (by decide) h (by decide), fun k x h => uIk rfl (by decide) h (by decide)⟩
theorem p79 : (∀ k : Nat, k < 10 → aI 0 (mkH n z D m j r) 79 (Int32.ofNat k) = some (m 79 k)) ∧ (∀ (k : Nat) (x : Int32), k < 10 → uI 0 (mkH n z D m j r) 79 (Int32.ofNat k) x = some (mkH n z D (wI m 79 k x) j r)) :=
  ⟨fun k h => aIk rfl (by decide) h (by decide), fun k x h => uIk rfl (by decide) h (by decide)⟩
theorem p80 : (∀ k : Nat, k < 10 → aI 0 (mkH n z D m j r) 80 (Int32.ofNat k) = some (m 80 k)) ∧ (∀ (k : Nat) (x : Int32), k < 10 → uI 0 (mkH n z D m j r) 80 (Int32.ofNat k) x = some (mkH n z D (wI m 80 k x) j r)) :=
  ⟨fun k h => aIk rfl (by decide) h (by decide), fun k x h => uIk rfl (by decide) h (by decide)⟩
theorem p81 : (∀ k : Nat, k < 36 → aI 0 (mkH n z D m j r) 81 (Int32.ofNat k) = some (m 81 k)) ∧ (∀ (k : Nat) (x : Int32), k < 36 → uI 0 (mkH n z D m j r) 81 (Int32.ofNat k) x = some (mkH n z D (wI m 81 k x) j r)) :=
  ⟨fun k h => aIk rfl (by decide) h (by decide), fun k x h => uIk rfl (by decide) h (by decide)⟩
theorem p82 : (∀ k : Nat, k < 36 → aI 0 (mkH n z D m j r) 82 (Int32.ofNat k) = some (m 82 k)) ∧ (∀ (k : Nat) (x : Int32), k < 36 → uI 0 (mkH n z D m j r) 82 (Int32.ofNat k) x = some (mkH n z D (wI m 82 k x) j r)) :=
  ⟨fun k h => aIk rfl (by decide) h (by decide), fun k x h => uIk rfl (by decide) h (by decide)⟩
theorem p83 : (∀ k : Nat, k < 240 → aI 0 (mkH n z D m j r) 83 (Int32.ofNat k) = some (m 83 k)) ∧ (∀ (k : Nat) (x : Int32), k < 240 → uI 0 (mkH n z D m j r) 83 (Int32.ofNat k) x = some (mkH n z D (wI m 83 k x) j r)) :=
  ⟨fun k h => aIk rfl (by decide) h (by decide), fun k x h => uIk rfl (by decide) h (by decide)⟩
theorem p84 : (∀ k : Nat, k < 5 → aI 0 (mkH n z D m j r) 84 (Int32.ofNat k) = some (m 84 k)) ∧ (∀ (k : Nat) (x : Int32), k < 5 → uI 0 (mkH n z D m j r) 84 (Int32.ofNat k) x = some (mkH n z D (wI m 84 k x) j r)) :=
  ⟨fun k h => aIk rfl (by decide) h (by decide), fun k x h => uIk rfl (by decide) h (by decide)⟩
theorem p85 : (∀ k : Nat, k < 212 → aI 0 (mkH n z D m j r) 85 (Int32.ofNat k) = some (m 85 k)) ∧ (∀ (k : Nat) (x : Int32), k < 212 → uI 0 (mkH n z D m j r) 85 (Int32.ofNat k) x = some (mkH n z D (wI m 85 k x) j r)) :=
  ⟨fun k h => aIk rfl (by decide) h (by decide), fun k x h => uIk rfl (by decide) h (by decide)⟩
theorem p86 : (∀ k : Nat, k < 212 → aI 0 (mkH n z D m j r) 86 (Int32.ofNat k) = some (m 86 k)) ∧ (∀ (k : Nat) (x : Int32), k < 212 → uI 0 (mkH n z D m j r) 86 (Int32.ofNat k) x = some (mkH n z D (wI m 86 k x) j r)) :=
  ⟨fun k h => aIk rfl (by decide) h (by decide), fun k x h => uIk rfl (by decide) h (by decide)⟩
theorem p87 : (∀ k : Nat, k < 8191 → aJ (mkH n z D m j r) 87 (Int32.ofNat k) = some (j 87 k)) ∧ (∀ (k : Nat) (x : Int64), k < 8191 → uJ (mkH n z D m j r) 87 (Int32.ofNat k) x = some (mkH n z D m (wJ j 87 k x) r)) :=
  ⟨fun k h => aJk rfl h (by decide), fun k x h => uJk rfl h (by decide)⟩
theorem p88 : (∀ k : Nat, k < 8191 → aI 0 (mkH n z D m j r) 88 (Int32.ofNat k) = some (m 88 k)) ∧ (∀ (k : Nat) (x : Int32), k < 8191 → uI 0 (mkH n z D m j r) 88 (Int32.ofNat k) x = some (mkH n z D (wI m 88 k x) j r)) :=
  ⟨fun k h => aIk rfl (by decide) h (by decide), fun k x h => uIk rfl (by decide) h (by decide)⟩
theorem p89 : (∀ k : Nat, k < 6 → aI 0 (mkH n z D m j r) 89 (Int32.ofNat k) = some (m 89 k)) ∧ (∀ (k : Nat) (x : Int32), k < 6 → uI 0 (mkH n z D m j r) 89 (Int32.ofNat k) x = some (mkH n z D (wI m 89 k x) j r)) :=
  ⟨fun k h => aIk rfl (by decide) h (by decide), fun k x h => uIk rfl (by decide) h (by decide)⟩
theorem p90 : (∀ k : Nat, k < 8480 → aI 0 (mkH n z D m j r) 90 (Int32.ofNat k) = some (m 90 k)) ∧ (∀ (k : Nat) (x : Int32), k < 8480 → uI 0 (mkH n z D m j r) 90 (Int32.ofNat k) x = some (mkH n z D (wI m 90 k x) j r)) :=
  ⟨fun k h => aIk rfl (by decide) h (by decide), fun k x h => uIk rfl (by decide) h (by decide)⟩
theorem p91 : (∀ k : Nat, k < 40 → aI 0 (mkH n z D m j r) 91 (Int32.ofNat k) = some (m 91 k)) ∧ (∀ (k : Nat) (x : Int32), k < 40 → uI 0 (mkH n z D m j r) 91 (Int32.ofNat k) x = some (mkH n z D (wI m 91 k x) j r)) :=
  ⟨fun k h => aIk rfl (by decide) h (by decide), fun k x h => uIk rfl (by decide) h (by decide)⟩
theorem p92 : (∀ k : Nat, k < 16 → aI 0 (mkH n z D m j r) 92 (Int32.ofNat k) = some (m 92 k)) ∧ (∀ (k : Nat) (x : Int32), k < 16 → uI 0 (mkH n z D m j r) 92 (Int32.ofNat k) x = some (mkH n z D (wI m 92 k x) j r)) :=
  ⟨fun k h => aIk rfl (by decide) h (by decide), fun k x h => uIk rfl (by decide) h (by decide)⟩
theorem p93 : (∀ k : Nat, k < 212 → aI 0 (mkH n z D m j r) 93 (Int32.ofNat k) = some (m 93 k)) ∧ (∀ (k : Nat) (x : Int32), k < 212 → uI 0 (mkH n z D m j r) 93 (Int32.ofNat k) x = some (mkH n z D (wI m 93 k x) j r)) :=
  ⟨fun k h => aIk rfl (by decide) h (by decide), fun k x h => uIk rfl (by decide) h (by decide)⟩
theorem p94 : (∀ k : Nat, k < 1 → aJ (mkH n z D m j r) 94 (Int32.ofNat k) = some (j 94 k)) ∧ (∀ (k : Nat) (x : Int64), k < 1 → uJ (mkH n z D m j r) 94 (Int32.ofNat k) x = some (mkH n z D m (wJ j 94 k x) r)) :=
  ⟨fun k h => aJk rfl h (by decide), fun k x h => uJk rfl h (by decide)⟩
theorem q72_z17 : pZ [12] (mkH n z D m j r) 72 17 (Int32.ofNat 0) = some (mkH n z D (wI m 72 17 (Int32.ofNat 0)) j r) := pZ_mk (Or.inl rfl) rfl (by decide) rfl
theorem q72_z17' : pZ [12] (mkH n z D m j r) 72 17 (Int32.ofNat 1) = some (mkH n z D (wI m 72 17 (Int32.ofNat 1)) j r) := pZ_mk (Or.inr rfl) rfl (by decide) rfl
theorem q72_z31 : pZ [12] (mkH n z D m j r) 72 31 (Int32.ofNat 0) = some (mkH n z D (wI m 72 31 (Int32.ofNat 0)) j r) := pZ_mk (Or.inl rfl) rfl (by decide) rfl
theorem q72_z31' : pZ [12] (mkH n z D m j r) 72 31 (Int32.ofNat 1) = some (mkH n z D (wI m 72 31 (Int32.ofNat 1)) j r) := pZ_mk (Or.inr rfl) rfl (by decide) rfl
theorem q72_z49 : pZ [12] (mkH n z D m j r) 72 49 (Int32.ofNat 0) = some (mkH n z D (wI m 72 49 (Int32.ofNat 0)) j r) := pZ_mk (Or.inl rfl) rfl (by decide) rfl
theorem q72_z49' : pZ [12] (mkH n z D m j r) 72 49 (Int32.ofNat 1) = some (mkH n z D (wI m 72 49 (Int32.ofNat 1)) j r) := pZ_mk (Or.inr rfl) rfl (by decide) rfl
theorem q3_z5 : pZ [0] (mkH n z D m j r) 3 5 (Int32.ofNat 0) = some (mkH n z D (wI m 3 5 (Int32.ofNat 0)) j r) := pZ_mk (Or.inl rfl) rfl (by decide) rfl
theorem q3_z5' : pZ [0] (mkH n z D m j r) 3 5 (Int32.ofNat 1) = some (mkH n z D (wI m 3 5 (Int32.ofNat 1)) j r) := pZ_mk (Or.inr rfl) rfl (by decide) rfl
theorem q39_z6 : pZ [1] (mkH n z D m j r) 39 6 (Int32.ofNat 0) = some (mkH n z D (wI m 39 6 (Int32.ofNat 0)) j r) := pZ_mk (Or.inl rfl) rfl (by decide) rfl
theorem q39_z6' : pZ [1] (mkH n z D m j r) 39 6 (Int32.ofNat 1) = some (mkH n z D (wI m 39 6 (Int32.ofNat 1)) j r) := pZ_mk (Or.inr rfl) rfl (by decide) rfl
end ARR
