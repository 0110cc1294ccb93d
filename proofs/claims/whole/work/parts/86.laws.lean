/-! The law that holds, on both sides. -/
theorem k_int {k : Nat} (h : k < 9223372036854775808) : (Int64.ofNat k).toInt = (k : Int) := Int64.toInt_ofNat_of_lt (by simpa using h)
theorem k_add {a b : Nat} : Int64.ofNat a + Int64.ofNat b = Int64.ofNat (a + b) := (Int64.ofNat_add a b).symm
theorem k_mul {a b : Nat} : Int64.ofNat a * Int64.ofNat b = Int64.ofNat (a * b) := (Int64.ofNat_mul a b).symm
theorem k_sub {a b : Nat} (h : b ≤ a) : Int64.ofNat a - Int64.ofNat b = Int64.ofNat (a - b) := (Int64.ofNat_sub a b h).symm
theorem k_inj {a b : Nat} (ha : a < 9223372036854775808) (hb : b < 9223372036854775808) : (Int64.ofNat a = Int64.ofNat b) ↔ a = b := by
  constructor
  · intro h
    have := congrArg Int64.toInt h
    rw [k_int ha, k_int hb] at this
    omega
  · intro h; rw [h]
theorem k_of {a : Nat} (h : a < 2147483648) : (Int32.ofNat a).toInt64 = Int64.ofNat a := by
  apply Int64.toInt_inj.mp
  rw [Int32.toInt_toInt64, i_int h, k_int (by omega)]
theorem k_32 {a : Nat} (h : a < 2147483648) : (Int64.ofNat a).toInt32 = Int32.ofNat a := by
  apply Int32.toInt_inj.mp
  rw [Int64.toInt_toInt32, k_int (by omega), i_int h, Int.bmod_eq_of_le] <;> omega
theorem k_div {a b : Nat} (ha : a < 9223372036854775808) (hb : b < 9223372036854775808) : Int64.ofNat a / Int64.ofNat b = Int64.ofNat (a / b) := by
  apply Int64.toInt_inj.mp
  have h1 : a / b ≤ a := Nat.div_le_self a b
  rw [Int64.toInt_div, k_int ha, k_int hb, k_int (Nat.lt_of_le_of_lt h1 ha)]
  rw [show (a : Int).tdiv b = ((a / b : Nat) : Int) from (Int.ofNat_tdiv a b).symm]
  generalize a / b = q at *
  rw [Int.bmod_eq_of_le] <;> omega
theorem k_mod {a b : Nat} (ha : a < 9223372036854775808) (hb : b < 9223372036854775808) : Int64.ofNat a - Int64.ofNat a / Int64.ofNat b * Int64.ofNat b = Int64.ofNat (a % b) := by
  rw [k_div ha hb, k_mul, k_sub (by exact Nat.div_mul_le_self a b)]
  congr 1
  have := Nat.div_add_mod a b
  rw [Nat.mul_comm] at this
  omega
abbrev CLS : Type := Nat → List (List Nat × List Nat)
def Lf (mt g w s t d : Nat) : Nat → Int := fun k => if k = 0 then mt else if k = 1 then g else if k = 2 then w else if k = 3 then s else if k = 4 then t else d
def cl40 (v : Int) : Nat := (max 0 (min 40 v)).toNat
def plw (held : Nat) (cls : CLS) : Pl := fun mt g w s t d => cl40 (if held = 0 then ((mt * 2 * g + s : Nat) : Int) - (w : Int) else vl (Lf mt g w s t d) (cls (held - 1)))
def kN (l mt g w s t d : Nat) : Nat := 2000 * (100 * (10 * (10 * (10 * (2 + 2 * l + mt) + g) + w) + s) + t) + d
def WL (A held : Nat) (tx : Nat → Nat → Nat) (ln : Nat → Nat) (cls : CLS) : Prop := A ≤ 4 ∧ held ≤ A ∧ (∀ l, l < A → ln l ≤ 240 ∧ (∀ q, q < ln l → 1 ≤ tx l q ∧ tx l q < 256) ∧ pLw (tx l) (ln l) 300 0 = .inr (cls l))
def LMd (A held : Nat) (tx : Nat → Nat → Nat) (ln : Nat → Nat) (cls : CLS) (m : MI) (j : MJ) : Prop := m 72 7 = Int32.ofNat A ∧ m 72 34 = pr held ∧ (∀ l, l < A → m 75 l = Int32.ofNat (ln l) ∧ (∀ q, q < ln l → m 74 (240 * l + q) = nar 1 (Int32.ofNat (tx l q)))) ∧ (∃ L, LT m L) ∧ (∀ p, p < 8191 → j 87 p = 0 ∨ ∃ l mt g w s t d, l < A ∧ mt ≤ 1 ∧ g ≤ 9 ∧ w ≤ 9 ∧ s ≤ 9 ∧ t ≤ 99 ∧ d ≤ 1999 ∧ j 87 p = Int64.ofNat (kN l mt g w s t d) ∧ m 88 p = Int32.ofInt (vl (Lf mt g w s t d) (cls l)))
def LCd (D : Dyn) (A held : Nat) (cls : CLS) (m : MI) (r : MR) : Prop := m 0 14 = Int32.ofNat A ∧ m 0 16 = pr held ∧ (∀ l, l < A → ∃ o, r 61 l = some o ∧ PG D m o (cdP (cls l))) ∧ r 49 0 = (if held = 0 then none else r 61 (held - 1))
theorem Lf_b {mt g w s t d k : Nat} (h1 : mt ≤ 1) (h2 : g ≤ 9) (h3 : w ≤ 9) (h4 : s ≤ 9) (h5 : t ≤ 99) (h6 : d ≤ 1999) : -1000000 ≤ Lf mt g w s t d k ∧ Lf mt g w s t d k ≤ 1000000 := by
  unfold Lf
  repeat' split
  all_goals omega
theorem topv_b {L : Nat → Int} {c : List Nat} {v : Int} {h : Nat} (e : Ev L c v h) (hh : h ≤ 32) : -1000000 ≤ topv L c ∧ topv L c ≤ 1000000 := by
  rw [Ev_top e hh]
  exact ⟨e.1, e.2.1⟩
theorem vl_b {L : Nat → Int} : ∀ cl, OKl L cl → -1000000 ≤ vl L cl ∧ vl L cl ≤ 1000000
  | [], _ => by simp [vl]
  | q :: cl, h => by
    rw [vl]
    split
    · obtain ⟨v, hv⟩ := (h q (List.mem_cons_self)).2
      exact topv_b hv (by omega)
    · exact vl_b cl (fun q hq => h q (List.mem_cons_of_mem _ hq))
theorem OKl_of {t : Nat → Nat} {N : Nat} {L : Nat → Int} (ht : ∀ q, q < N → 1 ≤ t q ∧ t q < 256) (hN : N ≤ 240) (hL : ∀ k, k < 6 → -1000000 ≤ L k ∧ L k ≤ 1000000) : ∀ (g i : Nat) (cl : List (List Nat × List Nat)), i ≤ N → pLw t N g i = .inr cl → OKl L cl
  | 0, i, cl, hi, h => absurd h (by simp [pLw])
  | g + 1, i, cl, hi, h => by
    have hok := OKp ht hN hL hi
    rw [pLw_eq] at h
    cases hq : pCl t N i with
    | inl e => rw [hq] at h; exact absurd h (by simp)
    | inr q =>
      obtain ⟨cc, sc, j⟩ := q
      rw [hq] at h
      obtain ⟨h1, h2, h3, h4⟩ := hok cc sc j hq
      dsimp only at h
      have hk := sk_le (t := t) h4
      cases hr : pRest t N g j with
      | inl e => rw [hr] at h; exact absurd h (by simp)
      | inr cl2 =>
        rw [hr] at h
        simp only [Sum.inr.injEq] at h
        subst h
        intro q hq2
        rcases List.mem_cons.mp hq2 with e | e
        · rw [e]; exact ⟨h1, h2⟩
        · unfold pRest at hr
          split at hr
          · simp only [Sum.inr.injEq] at hr
            subst hr
            exact absurd e (List.not_mem_nil)
          · split at hr
            · rename_i h59
              have hp := sg_pos (t := t) (N := N) (i := j) (by omega)
              exact OKl_of ht hN hL g (sk t N j + 1) cl2 (by omega) hr q e
            · exact absurd hr (by simp)
section LAWS
variable {n z : Nat} {D : Dyn} {m : MI} {j : MJ} {r : MR} {A held : Nat} {tx : Nat → Nat → Nat} {ln : Nat → Nat} {cls : CLS}
theorem J_clamp {v : Int} (hv : -1000000 ≤ v ∧ v ≤ 1000000) {h : AH} : (f_J9_min_7cf53 40 (Int32.ofInt v) h = some (Int32.ofInt (min 40 v), h)) ∧ (f_J9_max_7cf53 0 (Int32.ofInt (min 40 v)) h = some (Int32.ofNat (cl40 v), h)) := by
  have e40 : (40 : Int32) = Int32.ofInt 40 := rfl
  have e0 : (0 : Int32) = Int32.ofInt 0 := rfl
  have lt : ∀ a b : Int, -1000000 ≤ a ∧ a ≤ 1000000 → -1000000 ≤ b ∧ b ≤ 1000000 → ((Int32.ofInt a < Int32.ofInt b) ↔ a < b) := fun a b ha hb => by rw [Int32.lt_iff_toInt_lt, oi_int (by omega), oi_int (by omega)]
  refine ⟨?_, ?_⟩
  · unfold f_J9_min_7cf53 f_J9_min_7cf53_0
    rw [e40]
    by_cases h1 : v < 40
    · rw [if_pos ((lt v 40 hv (by omega)).mpr h1), show min 40 v = v by omega]
    · rw [if_neg (fun e => h1 ((lt v 40 hv (by omega)).mp e)), show min 40 v = 40 by omega]
  · unfold f_J9_max_7cf53 f_J9_max_7cf53_0
    rw [e0]
    have hn : ((cl40 v : Nat) : Int) = max 0 (min 40 v) := by unfold cl40; omega
    by_cases h1 : 0 < min 40 v
    · rw [if_pos ((lt 0 (min 40 v) (by omega) (by omega)).mpr h1), ← oi_nat, hn, show max 0 (min 40 v) = min 40 v by omega]
    · rw [if_neg (fun e => h1 ((lt 0 (min 40 v) (by omega) (by omega)).mp e)), ← oi_nat, hn, show max 0 (min 40 v) = 0 by omega]
theorem pl_40 {mt g w s t d : Nat} : plw held cls mt g w s t d ≤ 40 := by
  unfold plw cl40
  omega
theorem LCok_d (hW : WL A held tx ln cls) : LCok n z D (plw held cls) (LCd D A held cls) := by
  refine ⟨?_, ?_, fun _ _ _ _ _ _ => pl_40⟩
  · intro m j r mt g w s t d hl h1 h2 h3 h4 h5 h6
    obtain ⟨l1', l2', l3', l4'⟩ := hl
    have gq : gQ [4] (mkH n z D m j r) 49 0 = some (r 49 0) := gQ_mk rfl (by decide) rfl
    unfold f_X4_strength f_X4_strength_0
    rw [gq, obs, l4']
    by_cases h0 : held = 0
    · rw [if_pos h0]
      dsimp only
      have hv : (Int32.ofNat mt * 2 * Int32.ofNat g + Int32.ofNat s) - Int32.ofNat w = Int32.ofInt (((mt * 2 * g + s : Nat) : Int) - (w : Int)) := by
        rw [l2, i_mul, i_mul, i_add, ← oi_nat, ← oi_nat]
        have : mt * 2 * g ≤ 18 := by
          have : mt * 2 * g ≤ 2 * 9 := Nat.mul_le_mul (by omega) h2
          omega
        exact oi_sub (by omega) (by omega)
      have hb : mt * 2 * g ≤ 18 := by
        have : mt * 2 * g ≤ 2 * 9 := Nat.mul_le_mul (by omega) h2
        omega
      unfold f_X4_strength_77
      rw [hv, (J_clamp (by omega)).1, cN_mk, (J_clamp (by omega)).2, cN_mk]
      refine ⟨m, ?_, fun _ _ _ _ => rfl⟩
      unfold plw
      rw [if_pos h0]
    · rw [if_neg h0]
      have hA := hW.2.1
      obtain ⟨o, ho, hp⟩ := l3' (held - 1) (by omega)
      rw [ho]
      dsimp only
      have hwl := hW.2.2 (held - 1) (by omega)
      have hLb : ∀ k, k < 6 → -1000000 ≤ Lf mt g w s t d k ∧ Lf mt g w s t d k ≤ 1000000 := fun k _ => Lf_b h1 h2 h3 h4 h5 h6
      have hok := OKl_of hwl.2.1 hwl.1 hLb 300 0 _ (Nat.zero_le _) hwl.2.2
      have ho95 : 95 ≤ o := hp.2.2.1
      generalize hm2 : wI (wI (wI (wI (wI (wI m 50 0 (Int32.ofNat mt)) 50 1 (Int32.ofNat g)) 50 2 (Int32.ofNat w)) 50 3 (Int32.ofNat s)) 50 4 (Int32.ofNat t)) 50 5 (Int32.ofNat d) = m2
      have fr2 : ∀ a, a ≠ 50 → m2 a = m a := fun a ha => by rw [← hm2, wI_ne ha, wI_ne ha, wI_ne ha, wI_ne ha, wI_ne ha, wI_ne ha]
      have hL2 : LSx m2 (Lf mt g w s t d) := by
        intro k hk
        refine ⟨?_, hLb k hk⟩
        have : k = 0 ∨ k = 1 ∨ k = 2 ∨ k = 3 ∨ k = 4 ∨ k = 5 := by omega
        rw [← hm2]
        rcases this with rfl | rfl | rfl | rfl | rfl | rfl
        · simp (disch := omega) only [wI_sn, wI_se, Lf, ← oi_nat, reduceIte]
        · simp (disch := omega) only [wI_sn, wI_se, Lf, ← oi_nat, reduceIte, Nat.reduceEqDiff]
        · simp (disch := omega) only [wI_sn, wI_se, Lf, ← oi_nat, reduceIte, Nat.reduceEqDiff]
        · simp (disch := omega) only [wI_sn, wI_se, Lf, ← oi_nat, reduceIte, Nat.reduceEqDiff]
        · simp (disch := omega) only [wI_sn, wI_se, Lf, ← oi_nat, reduceIte, Nat.reduceEqDiff]
        · simp (disch := omega) only [wI_sn, wI_se, Lf, ← oi_nat, reduceIte, Nat.reduceEqDiff]
      obtain ⟨m3, e3, f3⟩ := C_worth (n := n) (z := z) (D := D) (m := m2) (j := j) (r := r) (PG_fr hp (fr2 o (by omega))) hL2 hok
      have hvb := vl_b _ hok
      have gr : ∀ mm : MI, gR [4] (mkH n z D mm j r) 49 0 = some o := fun mm => by
        rw [gRq_mk rfl (by decide) rfl, l4', if_neg h0, ho]
      have g1 : ∀ mm : MI, gR [4] (mkH n z D mm j r) 49 1 = some 50 := fun mm => gR_mk rfl (by decide) rfl
      have u : ∀ (mm : MI) (k : Nat) (x : Int32), k < 6 → uI 0 (mkH n z D mm j r) 50 (Int32.ofNat k) x = some (mkH n z D (wI mm 50 k x) j r) := fun mm k x hk => p50.2 k x hk
      refine ⟨m3, ?_, fun a a1 a2 a3 => by rw [f3 a a1 a3, fr2 a a2]⟩
      have e0 : (0 : Int32) = Int32.ofNat 0 := rfl
      have e1 : (1 : Int32) = Int32.ofNat 1 := rfl
      have e2 : (2 : Int32) = Int32.ofNat 2 := rfl
      have e3' : (3 : Int32) = Int32.ofNat 3 := rfl
      have e4 : (4 : Int32) = Int32.ofNat 4 := rfl
      have e5 : (5 : Int32) = Int32.ofNat 5 := rfl
      rw [g1, obs, e0, u _ 0 _ (by omega), obs, g1, obs, e1, u _ 1 _ (by omega), obs, g1, obs, e2, u _ 2 _ (by omega), obs, g1, obs, e3', u _ 3 _ (by omega), obs, g1, obs, e4, u _ 4 _ (by omega), obs, g1, obs, e5, u _ 5 _ (by omega), obs, hm2, gr, obs, c49, obs, e3, cN_mk]
      unfold f_X4_strength_77
      rw [(J_clamp hvb).1, cN_mk, (J_clamp hvb).2, cN_mk]
      unfold plw
      rw [if_neg h0]
  · intro m m' r h hf
    obtain ⟨a1, a2, a3, a4⟩ := h
    refine ⟨by rw [hf 0 (Or.inl rfl)]; exact a1, by rw [hf 0 (Or.inl rfl)]; exact a2, fun l hl => ?_, a4⟩
    obtain ⟨o, ho, hp⟩ := a3 l hl
    exact ⟨o, ho, PG_fr hp (hf o (Or.inr hp.2.2.1))⟩
end LAWS
