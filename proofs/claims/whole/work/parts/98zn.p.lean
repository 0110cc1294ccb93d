/-! The law: the loop. -/
section LOOP2
variable {n z : Nat} {D : Dyn} {m m1 m' : MI} {j : MJ} {r r' : MR} {tp : TP} {C P : Nat} {τ σ : Sg} {lg : LG} {acts lt : Nat} {hs : Nat → Sg} {img : Bool} {σI : Sg} {lgI : LG} {A held : Nat} {tx : Nat → Nat → Nat} {ln : Nat → Nat} {cls : CLS} {B : Nat} {pls : Nat → List ST} {dg sn : Nat} {sw : Nat → Nat → Nat} {xs : Nat → Int32} {L i bN bZ : Nat} {k23 : Nat → Nat → Nat → Int32 → AH → Option (Int32 × AH)}
theorem L23 (hL : L ≤ 3072) : ∀ rem i fuel n z D m j r, L < i + 6 * rem + 6 → rem < fuel → i ≤ 4000 → INV n D m j r → n + 181 * rem + 200 ≤ 1000000 → RES n z (n + 181 * rem) (z + 1086 * rem) (f_L_law_23 xs L fuel 0 72 94 (Int32.ofNat i) (mkH n z D m j r)) := by
  have cmp : ∀ i, i ≤ 4000 → ((Int32.ofNat L - 6 < Int32.ofNat i) ↔ L < i + 6) := fun i hi => by
    by_cases h6 : 6 ≤ L
    · rw [show (6 : Int32) = Int32.ofNat 6 from rfl, i_sub h6, i_lt (by omega) (by omega)]
      omega
    · have hneg : (Int32.ofNat L - 6).toInt < 0 := by
        rcases (show L = 0 ∨ L = 1 ∨ L = 2 ∨ L = 3 ∨ L = 4 ∨ L = 5 by omega) with rfl | rfl | rfl | rfl | rfl | rfl <;> decide
      rw [Int32.lt_iff_toInt_lt, i_int (by omega)]
      omega
  intro rem
  induction rem with
  | zero =>
    intro i fuel n z D m j r h1 h2 h3 hI hn
    obtain ⟨f, rfl⟩ : ∃ f, fuel = f + 1 := ⟨fuel - 1, by omega⟩
    rw [f_L_law_23.eq_2]
    refine ck_res ?_
    rw [if_pos ((cmp i h3).mpr (by omega))]
    exact ⟨_, rfl, ⟨Nat.le_refl _, Nat.le_refl _⟩, ⟨Nat.le_refl _, Nat.le_refl _⟩⟩
  | succ rem ih =>
    intro i fuel n z D m j r h1 h2 h3 hI hn
    obtain ⟨f, rfl⟩ : ∃ f, fuel = f + 1 := ⟨fuel - 1, by omega⟩
    rw [f_L_law_23.eq_2]
    refine ck_res ?_
    by_cases hl : L < i + 6
    · rw [if_pos ((cmp i h3).mpr hl)]
      exact ⟨_, rfl, ⟨Nat.le_refl _, Nat.le_add_right _ _⟩, ⟨Nat.le_refl _, Nat.le_add_right _ _⟩⟩
    · rw [if_neg (fun e => hl ((cmp i h3).mp e))]
      have hi : i + 6 ≤ L := by omega
      have s0 : sx xs L (Int32.ofNat i) = some (xs i) := by
        have := sxk (xs := xs) (k := 0) hi hL (by omega)
        rw [i_add] at this
        exact this
      rw [s0, obs]
      have hk : CONT n z (n + 181 * (rem + 1)) (z + 1086 * (rem + 1)) (f_L_law_23 xs L f 0 72 94 (Int32.ofNat i + 6)) := by
        intro n' z' D' m' j' r' hI' a1 a2 b1 b2
        rw [show (6 : Int32) = Int32.ofNat 6 from rfl, i_add]
        obtain ⟨h1', e, c1, c2⟩ := ih (i + 6) f n' z' D' m' j' r' (by omega) (by omega) (by omega) hI' (by omega)
        exact ⟨h1', e, ⟨c1.1, by omega⟩, ⟨c2.1, by omega⟩⟩
      have hn2 : n + 200 ≤ 1000000 := by omega
      have hI2 := hI
      obtain ⟨tp, C, P, τ, σ, lg, acts, lt, hs, img, σI, lgI, A, held, tx, ln, cls, B, pls, dg, sn, sw, hw, hc, hv⟩ := hI
      generalize xs i &&& 63 = op
      by_cases h0 : op = 0
      · rw [if_pos h0]
        exact G224 hw hc hv hn2 hi hL hk
      rw [if_neg h0]
      by_cases h1 : op = 1
      · rw [if_pos h1]
        exact G297 hw hc hv hn2 hi hL hk
      rw [if_neg h1]
      by_cases h2 : op = 2
      · rw [if_pos h2]
        exact G322 hw hc hv hn2 hi hL hk
      rw [if_neg h2]
      by_cases h3 : op = 3
      · rw [if_pos h3]
        exact G347 hw hc hv hn2 hi hL hk
      rw [if_neg h3]
      by_cases h4 : op = 4
      · rw [if_pos h4]
        exact G372 hw hc hv hn2 hi hL hk
      rw [if_neg h4]
      by_cases h5 : op = 5
      · rw [if_pos h5]
        exact G397 hw hc hv hn2 hi hL hk
      rw [if_neg h5]
      by_cases h6 : op = 6
      · rw [if_pos h6]
        exact G434 hw hc hv hn2 hi hL hk
      rw [if_neg h6]
      by_cases h7 : op = 7
      · rw [if_pos h7]
        exact G502 hw hc hv hn2 hi hL hk
      rw [if_neg h7]
      by_cases h8 : op = 8
      · rw [if_pos h8]
        exact G527 hw hc hv hn2 hi hL hk
      rw [if_neg h8]
      by_cases h9 : op = 9
      · rw [if_pos h9]
        exact G552 hw hc hv hn2 hi hL hk
      rw [if_neg h9]
      by_cases h10 : op = 10
      · rw [if_pos h10]
        exact G565 hw hc hv hn2 hi hL hk
      rw [if_neg h10]
      by_cases h11 : op = 11
      · rw [if_pos h11]
        exact G602 hw hc hv hn2 hi hL hk
      rw [if_neg h11]
      by_cases h12 : op = 12
      · rw [if_pos h12]
        exact G627 hw hc hv hn2 hi hL hk
      rw [if_neg h12]
      by_cases h13 : op = 13
      · rw [if_pos h13]
        exact G652 hw hc hv hn2 hi hL hk
      rw [if_neg h13]
      by_cases h14 : op = 14
      · rw [if_pos h14]
        exact G677 hw hc hv hn2 hi hL hk
      rw [if_neg h14]
      by_cases h15 : op = 15
      · rw [if_pos h15]
        exact G702 hw hc hv hn2 hi hL hk
      rw [if_neg h15]
      by_cases h16 : op = 16
      · rw [if_pos h16]
        exact G771 hw hc hv hn2 hi hL hk
      rw [if_neg h16]
      by_cases h17 : op = 17
      · rw [if_pos h17]
        exact G784 hw hc hv hn2 hi hL hk
      rw [if_neg h17]
      by_cases h18 : op = 18
      · rw [if_pos h18]
        exact G821 hw hc hv hn2 hi hL hk
      rw [if_neg h18]
      by_cases h19 : op = 19
      · rw [if_pos h19]
        exact G870 hw hc hv hn2 hi hL hk
      rw [if_neg h19]
      by_cases h20 : op = 20
      · rw [if_pos h20]
        exact G907 hw hc hv hn2 hi hL hk
      rw [if_neg h20]
      by_cases h21 : op = 21
      · rw [if_pos h21]
        exact G932 hw hc hv hn2 hi hL hk
      rw [if_neg h21]
      by_cases h22 : op = 22
      · rw [if_pos h22]
        exact G969 hw hc hv hn2 hi hL hk
      rw [if_neg h22]
      by_cases h23 : op = 23
      · rw [if_pos h23]
        exact G994 hw hc hv hn2 hi hL hk
      rw [if_neg h23]
      by_cases h24 : op = 24
      · rw [if_pos h24]
        exact G1031 hw hc hv hn2 hi hL hk
      rw [if_neg h24]
      by_cases h25 : op = 25
      · rw [if_pos h25]
        exact G1108 hw hc hv hn2 hi hL hk
      rw [if_neg h25]
      by_cases h26 : op = 26
      · rw [if_pos h26]
        exact G1145 hw hc hv hn2 hi hL hk
      rw [if_neg h26]
      by_cases h27 : op = 27
      · rw [if_pos h27]
        exact G1182 hw hc hv hn2 hi hL hk
      rw [if_neg h27]
      by_cases h28 : op = 28
      · rw [if_pos h28]
        exact G1207 hw hc hv hn2 hi hL hk
      rw [if_neg h28]
      by_cases h29 : op = 29
      · rw [if_pos h29]
        exact G1232 hw hc hv hn2 hi hL hk
      rw [if_neg h29]
      by_cases h30 : op = 30
      · rw [if_pos h30]
        exact G1257 hw hc hv hn2 hi hL hk
      rw [if_neg h30]
      by_cases h31 : op = 31
      · rw [if_pos h31]
        exact G1330 hw hc hv hn2 hi hL hk
      rw [if_neg h31]
      by_cases h32 : op = 32
      · rw [if_pos h32]
        exact G1379 hw hc hv hn2 hi hL hk
      rw [if_neg h32]
      by_cases h33 : op = 33
      · rw [if_pos h33]
        exact G1416 hw hc hv hn2 hi hL hk
      rw [if_neg h33]
      by_cases h34 : op = 34
      · rw [if_pos h34]
        exact G1441 hw hc hv hn2 hi hL hk
      rw [if_neg h34]
      by_cases h35 : op = 35
      · rw [if_pos h35]
        exact G1466 hw hc hv hn2 hi hL hk
      rw [if_neg h35]
      by_cases h36 : op = 36
      · rw [if_pos h36]
        exact G1491 hw hc hv hn2 hi hL hk
      rw [if_neg h36]
      by_cases h37 : op = 37
      · rw [if_pos h37]
        exact G1516 hw hc hv hn2 hi hL hk
      rw [if_neg h37]
      by_cases h38 : op = 38
      · rw [if_pos h38]
        exact G1553 hw hc hv hn2 hi hL hk
      rw [if_neg h38]
      by_cases h39 : op = 39
      · rw [if_pos h39]
        exact G1590 hw hc hv hn2 hi hL hk
      rw [if_neg h39]
      by_cases h40 : op = 40
      · rw [if_pos h40]
        exact G1603 hw hc hv hn2 hi hL hk
      rw [if_neg h40]
      by_cases h41 : op = 41
      · rw [if_pos h41]
        exact G1616 hw hc hv hn2 hi hL hk
      rw [if_neg h41]
      exact L1641 hk hI2 (by omega) (by omega) (by omega) (by omega)
end LOOP2
