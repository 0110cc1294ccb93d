/-! The city is read: items. -/
def usL (K : Nat) : List Nat := if K = 0 then [8, 20, 3] else if K = 1 then [0, 5] else [1, 4, 2, 0, 1, 0]
def loL (K : Nat) : List Nat := if K = 0 then [1, 0, 1] else if K = 1 then [0, 0] else [1, 0, 0, 0, 0, 0]
def hiL (K : Nat) : List Nat := if K = 0 then [30, 99, 9] else if K = 1 then [3, 9] else [3, 9, 9, 4, 4, 1]
def us (K k : Nat) : Nat := (usL K).getD k 0
def lo (K k : Nat) : Nat := (loL K).getD k 0
def hi (K k : Nat) : Nat := (hiL K).getD k 0
def kl (K : Nat) : Nat := if K = 0 then 3 else if K = 1 then 2 else 6
def sp (K s : Nat) : Nat := sptL (strT.getD K []) (Int32.ofNat s) 0
def chK (K : Nat) : Nat := if K = 0 then 115 else if K = 1 then 99 else 112
theorem sp_all : ∀ K, K < 3 → ∀ s, s < 256 → sptL (strT.getD K []) (sgI s) 0 = sp K s ∧ sp K s ≤ kl K := by decide +kernel
theorem kl_all : ∀ K, K < 3 → kl K = (strT.getD K []).length ∧ kl K ≤ 6 ∧ 2 ≤ kl K ∧ (∀ k, k < kl K → lo K k ≤ us K k ∧ us K k ≤ hi K k ∧ hi K k ≤ 99) := by decide +kernel
def pNb2 (K k : Nat) (t : Nat → Nat) (N i : Nat) (x : PR) : Nat ⊕ (Nat × Nat) := match x with
  | .inl e => .inl e
  | .inr q => if (nm t N 2 (sk t N i) 0).1 < lo K k ∨ hi K k < (nm t N 2 (sk t N i) 0).1 then .inl (q.2 - 1) else .inr ((nm t N 2 (sk t N i) 0).1, q.2)
def pNb (t : Nat → Nat) (N K k i : Nat) : Nat ⊕ (Nat × Nat) := pNb2 K k t N i (pNum t N 2 (sk t N i))
abbrev VS : Type := Nat → Nat
def uV (v : VS) (k x : Nat) : VS := fun q => if q = k then x else v q
def pIt (t : Nat → Nat) (N K : Nat) : Nat → Nat → VS → Nat → Nat ⊕ (VS × Nat)
  | 0, _, _, _ => .inl 0
  | g + 1, met, vs, i =>
    if sg t N i = 0 ∨ sg t N i = 59 then .inr (vs, sk t N i)
    else if sp K (sg t N i) = 0 then .inl (sk t N i)
    else if met.testBit (sp K (sg t N i) - 1) = true then .inl (sk t N i)
    else match pNb t N K (sp K (sg t N i) - 1) (sk t N i + 1) with
      | .inl e => .inl e
      | .inr q => pIt t N K g (met ||| 1 <<< (sp K (sg t N i) - 1)) (uV vs (sp K (sg t N i) - 1) q.1) q.2
section ITP
variable {t : Nat → Nat} {N i K k : Nat}
theorem pNb_b {v j : Nat} (h : pNb t N K k i = .inr (v, j)) (hi0 : i ≤ N) : lo K k ≤ v ∧ v ≤ hi K k ∧ i < j ∧ j ≤ N := by
  have hk := sk_le (t := t) hi0
  unfold pNb at h
  cases hp : pNum t N 2 (sk t N i) with
  | inl e => rw [hp] at h; exact absurd h (by simp [pNb2])
  | inr q =>
    obtain ⟨c, j1⟩ := q
    have hpa := PA_num (t := t) (q := 2) hk.2 c j1 hp
    rw [hp] at h
    unfold pNb2 at h
    dsimp only at h
    split at h
    · exact absurd h (by simp)
    · rename_i hn
      simp only [Sum.inr.injEq, Prod.mk.injEq] at h
      omega
theorem pNb_e {e : Nat} (h : pNb t N K k i = .inl e) (hi0 : i ≤ N) : e ≤ N := by
  have hk := sk_le (t := t) hi0
  unfold pNb at h
  cases hp : pNum t N 2 (sk t N i) with
  | inl e' =>
    rw [hp] at h
    simp only [pNb2, Sum.inl.injEq] at h
    subst h
    unfold pNum at hp
    split at hp
    · simp only [Sum.inl.injEq] at hp
      have := nm_le (t := t) 2 (sk t N i) 0 hk.2
      omega
    · exact absurd hp (by simp)
  | inr q =>
    obtain ⟨c, j1⟩ := q
    have hpa := PA_num (t := t) (q := 2) hk.2 c j1 hp
    rw [hp] at h
    unfold pNb2 at h
    dsimp only at h
    split at h
    · simp only [Sum.inl.injEq] at h
      omega
    · exact absurd h (by simp)
/-- what items give: values within bounds, and a place where the clause ends -/
theorem pIt_b (hK : K < 3) : ∀ (g met : Nat) (vs : VS) (i : Nat), i ≤ N → (∀ k, k < kl K → lo K k ≤ vs k ∧ vs k ≤ hi K k) → (∀ vs' j, pIt t N K g met vs i = .inr (vs', j) → (∀ k, k < kl K → lo K k ≤ vs' k ∧ vs' k ≤ hi K k) ∧ i ≤ j ∧ j ≤ N ∧ sk t N j = j ∧ (sg t N j = 0 ∨ sg t N j = 59)) ∧ (∀ e, pIt t N K g met vs i = .inl e → e ≤ N)
  | 0, met, vs, i, hi0, hv => ⟨fun vs' j h => absurd h (by simp [pIt]), fun e h => by simp only [pIt, Sum.inl.injEq] at h; omega⟩
  | g + 1, met, vs, i, hi0, hv => by
    have hk := sk_le (t := t) hi0
    rw [pIt]
    by_cases h0 : sg t N i = 0 ∨ sg t N i = 59
    · rw [if_pos h0]
      refine ⟨fun vs' j h => ?_, fun e h => absurd h (by simp)⟩
      simp only [Sum.inr.injEq, Prod.mk.injEq] at h
      obtain ⟨rfl, rfl⟩ := h
      exact ⟨hv, hk.1, hk.2, sk_sk hi0, by rw [sg_sk hi0]; exact h0⟩
    · rw [if_neg h0]
      have hp := sg_pos (t := t) (N := N) (i := i) (by omega)
      by_cases h1 : sp K (sg t N i) = 0
      · rw [if_pos h1]
        exact ⟨fun vs' j h => absurd h (by simp), fun e h => by simp only [Sum.inl.injEq] at h; omega⟩
      rw [if_neg h1]
      by_cases h2 : met.testBit (sp K (sg t N i) - 1) = true
      · rw [if_pos h2]
        exact ⟨fun vs' j h => absurd h (by simp), fun e h => by simp only [Sum.inl.injEq] at h; omega⟩
      rw [if_neg h2]
      cases hn : pNb t N K (sp K (sg t N i) - 1) (sk t N i + 1) with
      | inl e =>
        have he := pNb_e hn (by omega)
        exact ⟨fun vs' j h => absurd h (by simp), fun e' h => by simp only [Sum.inl.injEq] at h; omega⟩
      | inr q =>
        obtain ⟨v, j1⟩ := q
        have hb := pNb_b hn (by omega)
        dsimp only
        have ih := pIt_b hK g (met ||| 1 <<< (sp K (sg t N i) - 1)) (uV vs (sp K (sg t N i) - 1) v) j1 hb.2.2.2 (fun k hk' => by
          unfold uV
          split
          · rename_i e; rw [e]; exact ⟨hb.1, hb.2.1⟩
          · exact hv k hk')
        refine ⟨fun vs' j h => ?_, ih.2⟩
        have := ih.1 vs' j h
        exact ⟨this.1, by omega, this.2.2⟩
end ITP
section MIT
variable {n z : Nat} {D : Dyn} {m : MI} {j : MJ} {r : MR} {t : Nat → Nat} {N a b i K : Nat} {d x e : Int32}
theorem M_isIn {x y w : Int32} {h : AH} : f_X12_isIn x.toInt64 y.toInt64 w.toInt64 h = some (bI (decide (y ≤ x ∧ x ≤ w)), h) := by
  unfold f_X12_isIn f_X12_isIn_0
  have l1' : (lg_cmp x.toInt64 y.toInt64 < 0) ↔ ¬ y ≤ x := by
    rw [lg_lt.1, Int32.toInt_toInt64, Int32.toInt_toInt64, ← Int32.lt_iff_toInt_lt, Int32.not_le]
  have l2' : (0 < lg_cmp x.toInt64 w.toInt64) ↔ ¬ x ≤ w := by
    rw [lg_lt.2.1, Int32.toInt_toInt64, Int32.toInt_toInt64, ← Int32.lt_iff_toInt_lt, Int32.not_le]
  by_cases h1 : y ≤ x
  · rw [if_neg (fun e => (l1'.mp e) h1)]
    by_cases h2 : x ≤ w
    · rw [if_neg (fun e => (l2'.mp e) h2)]
      simp [h1, h2, bI, l1]
    · rw [if_pos (l2'.mpr h2)]
      simp [h2, bI, l0]
  · rw [if_pos (l1'.mpr h1)]
    simp [h1, bI, l0]
theorem M_here (hT : TX m r t N a b) (hi0 : i < N) : f_X12_here 72 (mkH n z D (s3 m (Int32.ofNat i) e d) j r) = some (Int32.ofNat (t i), mkH n z D (s3 m (Int32.ofNat i) e d) j r) := by
  have hN := hT.2.2.2.1
  have hb : b ≤ 720 := by rcases hT.2.2.2.2.1 with ⟨_, h⟩ | ⟨_, h⟩ <;> omega
  have hq := hT.2.2.2.2.2 i hi0
  unfold f_X12_here f_X12_here_0
  simp (disch := omega) only [obs, cN_mk, ite_true, ite_false, if_true, if_false, q72, s3_10, s3_o, hT.1, hT.2.1, hT.2.2.1, i_le, i_add, TX_rd hT hi0, (byt (t i) hq.2.2).2.1]
  rw [if_neg (by omega)]
theorem M_number {k : Nat} (hT : TX m r t N a b) (hi0 : i ≤ N) (hlo : lo K k ≤ 99) (hhi : hi K k ≤ 99) : match pNb t N K k i with
    | .inl e => ∃ v, f_X12_number 72 (Int32.ofNat (lo K k)) (Int32.ofNat (hi K k)) (mkH n z D (s3 m (Int32.ofNat i) no1 d) j r) = some (v, mkH n z D (s3 m (Int32.ofNat e) (Int32.ofNat e) d) j r)
    | .inr q => f_X12_number 72 (Int32.ofNat (lo K k)) (Int32.ofNat (hi K k)) (mkH n z D (s3 m (Int32.ofNat i) no1 d) j r) = some (Int32.ofNat q.1, mkH n z D (s3 m (Int32.ofNat q.2) no1 d) j r) := by
  have hk := sk_le (t := t) hi0
  have g10 : ∀ mm y, gI [12] (mkH n z D (s3 mm y no1 d) j r) 72 10 = some y := fun mm y => by rw [q72_10, s3_10]
  have p10 : ∀ mm y v, pV [12] (mkH n z D (s3 mm y no1 d) j r) 72 10 (.int v) = some (mkH n z D (s3 mm v no1 d) j r) := fun mm y v => by rw [q72_p10, w10]
  have h67 : ∀ v j1, v ≤ 99 → j1 ≤ N → 1 ≤ j1 → f_X12_number_67 72 (Int32.ofNat (lo K k)) (Int32.ofNat (hi K k)) (Int32.ofNat v) (mkH n z D (s3 m (Int32.ofNat j1) no1 d) j r) = if dig t N j1 = true then some (Int32.ofNat 0, mkH n z D (s3 m (Int32.ofNat j1) (Int32.ofNat j1) d) j r) else if v < lo K k ∨ hi K k < v then some (Int32.ofNat v, mkH n z D (s3 m (Int32.ofNat (j1 - 1)) (Int32.ofNat (j1 - 1)) d) j r) else some (Int32.ofNat v, mkH n z D (s3 m (Int32.ofNat j1) no1 d) j r) := by
    intro v j1 hv hj1 hj2
    have hN := hT.2.2.2.1
    unfold f_X12_number_67
    rw [q72_c, obs, M_isDigit hT hj1, cN_mk]
    by_cases hd : dig t N j1 = true
    · rw [if_neg (by simp [hd, bI]), if_pos hd, q72_c, obs, M_fails0, cN_mk]
      rfl
    · rw [if_pos (by simp [hd, bI]), if_neg hd, M_isIn, cN_mk]
      by_cases hr : v < lo K k ∨ hi K k < v
      · rw [if_pos hr, if_pos (show bI _ = 0 from ?_), g10, obs, l1, i_sub hj2, p10, obs, q72_c, obs, M_fails0, cN_mk]
        have : ¬ (Int32.ofNat (lo K k) ≤ Int32.ofNat v ∧ Int32.ofNat v ≤ Int32.ofNat (hi K k)) := by
          rw [i_le (by omega) (by omega), i_le (by omega) (by omega)]; omega
        rw [decide_eq_false this]
        rfl
      · rw [if_neg hr, if_neg (show ¬ bI _ = 0 from ?_)]
        have : (Int32.ofNat (lo K k) ≤ Int32.ofNat v ∧ Int32.ofNat v ≤ Int32.ofNat (hi K k)) := by
          rw [i_le (by omega) (by omega), i_le (by omega) (by omega)]; omega
        rw [decide_eq_true this]
        decide
  have start : f_X12_number 72 (Int32.ofNat (lo K k)) (Int32.ofNat (hi K k)) (mkH n z D (s3 m (Int32.ofNat i) no1 d) j r) = if dig t N (sk t N i) = true then f_X12_number_67 72 (Int32.ofNat (lo K k)) (Int32.ofNat (hi K k)) (Int32.ofNat (nm t N 2 (sk t N i) 0).1) (mkH n z D (s3 m (Int32.ofNat (nm t N 2 (sk t N i) 0).2) no1 d) j r) else some (Int32.ofNat 0, mkH n z D (s3 m (Int32.ofNat (sk t N i)) (Int32.ofNat (sk t N i)) d) j r) := by
    unfold f_X12_number f_X12_number_0
    rw [q72_c, obs, M_look hT hi0, cN_mk, q72_c, obs, M_isDigit hT hk.2, cN_mk]
    by_cases hd : dig t N (sk t N i) = true
    · have hd' : sk t N i < N ∧ 48 ≤ t (sk t N i) ∧ t (sk t N i) ≤ 57 := by
        unfold dig at hd
        simpa [Bool.and_eq_true] using hd
      have esg : sgI (sg t N i) = Int32.ofNat (t (sk t N i)) := by
        have : sg t N i = t (sk t N i) := if_pos hd'.1
        rw [this]
        exact if_neg (by omega)
      rw [if_neg (by simp [hd, bI]), if_pos hd, g10, obs, p10, obs, q72_c, obs, l1, i_add, M_isDigit hT (by omega), cN_mk, esg, l48, i_sub (by omega)]
      by_cases hd2 : dig t N (sk t N i + 1) = true
      · have hd2' : sk t N i + 1 < N ∧ 48 ≤ t (sk t N i + 1) ∧ t (sk t N i + 1) ≤ 57 := by
          unfold dig at hd2
          simpa [Bool.and_eq_true] using hd2
        rw [if_neg (by simp [hd2, bI]), q72_c, obs, M_here hT hd2'.1, cN_mk, g10, obs, i_add, p10, obs, l10, i_mul, i_add, i_sub (by omega)]
        rw [nm, if_pos hd, nm, if_pos hd2, nm]
        dsimp only
        rw [show 10 * 0 + t (sk t N i) - 48 = t (sk t N i) - 48 by omega]
      · rw [if_pos (by simp [hd2, bI]), nm, if_pos hd, nm, if_neg hd2]
        dsimp only
        rw [show 10 * 0 + t (sk t N i) - 48 = t (sk t N i) - 48 by omega]
    · rw [if_pos (by simp [hd, bI]), if_neg hd, q72_c, obs, M_fails0, cN_mk]
      rfl
  have b256 : ∀ p, p < N → t p < 256 := fun p hp => (hT.2.2.2.2.2 p hp).2.2
  have hval := nm_val (t := t) (N := N) 2 (sk t N i) 0 b256
  have hle := nm_le (t := t) (N := N) 2 (sk t N i) 0 hk.2
  rw [start]
  unfold pNb pNum
  by_cases hd : dig t N (sk t N i) = true
  · have hne : (nm t N 2 (sk t N i) 0).2 ≠ sk t N i := by
      rw [nm, if_pos hd]
      have hlt : sk t N i < N := by
        unfold dig at hd
        simp only [Bool.and_eq_true, decide_eq_true_eq] at hd
        exact hd.1
      have := nm_le (t := t) (N := N) 1 (sk t N i + 1) (10 * 0 + t (sk t N i) - 48) (by omega)
      exact Nat.ne_of_gt (Nat.lt_of_lt_of_le (Nat.lt_succ_self _) this.1)
    rw [if_pos hd, h67 _ _ (by omega) hle.2.1 (by omega)]
    by_cases hd3 : dig t N (nm t N 2 (sk t N i) 0).2 = true
    · rw [if_pos hd3, if_pos (Or.inr hd3)]
      exact ⟨_, rfl⟩
    · rw [if_neg hd3, if_neg (by simp [hne, hd3])]
      unfold pNb2
      dsimp only
      by_cases hr : (nm t N 2 (sk t N i) 0).1 < lo K k ∨ hi K k < (nm t N 2 (sk t N i) 0).1
      · rw [if_pos hr, if_pos hr]
        exact ⟨_, rfl⟩
      · rw [if_neg hr, if_neg hr]
  · have e0 : nm t N 2 (sk t N i) 0 = (0, sk t N i) := by rw [nm, if_neg hd]
    rw [if_neg hd, e0, if_pos (Or.inl rfl)]
    exact ⟨_, rfl⟩
end MIT
