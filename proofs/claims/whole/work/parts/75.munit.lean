/-! The model reads a law: units, clauses, the whole. -/
section MUNI
variable {n z : Nat} {D : Dyn} {m : MI} {j : MJ} {r : MR} {t : Nat → Nat} {N a b i : Nat} {L : Nat → Int}
theorem M_part0 {fS : Nat → AH → Option (Int32 × AH)} {uf : Nat → PR} {d H : Nat} (hT : TX m r t N a b) (hA : ∀ i, i ≤ N → MB n z D m j r (fS 72 (mkH n z D (s3 m (Int32.ofNat i) no1 (Int32.ofNat d)) j r)) (uf i) d (HB L H)) (hP : ∀ i, i ≤ N → PA N i (uf i) 1) (hi : i ≤ N) : MB n z D m j r (f_X12_part fS 72 0 0 (mkH n z D (s3 m (Int32.ofNat i) no1 (Int32.ofNat d)) j r)) (pPart t N uf (uf i)) d (HB L (H + 1)) := by
  unfold f_X12_part f_X12_part_0
  rw [if_pos rfl]
  simp (disch := omega) only [obs, cN_mk, ite_true, ite_false, if_true, if_false, q72]
  exact M_partX hT hA hP (hA i hi) (fun c j h => (hP i hi c j h).2.1)
theorem M_cond0 {fS : Nat → AH → Option (Int32 × AH)} {uf : Nat → PR} {d H : Nat} (hT : TX m r t N a b) (hA : ∀ i, i ≤ N → MB n z D m j r (fS 72 (mkH n z D (s3 m (Int32.ofNat i) no1 (Int32.ofNat d)) j r)) (uf i) d (HB L H)) (hP : ∀ i, i ≤ N → PA N i (uf i) 1) (hi : i ≤ N) : MB n z D m j r (f_X12_condition fS 72 0 0 (mkH n z D (s3 m (Int32.ofNat i) no1 (Int32.ofNat d)) j r)) (pCond t N uf (uf i)) d (HB L (H + 2)) := by
  unfold f_X12_condition f_X12_condition_0
  simp (disch := omega) only [obs, cN_mk, ite_true, ite_false, if_true, if_false, q72]
  exact M_condX hT (fun i hi => M_part0 hT hA hP hi) (fun i hi => PA_part hP (hP i hi)) (M_part0 hT hA hP hi) (fun c j h => (PA_part hP (hP i hi) c j h).2.1)
theorem M_cond1 {fS : Nat → AH → Option (Int32 × AH)} {uf : Nat → PR} {k d : Nat} {c0 : List Nat} {v0 : Int} (hD : ∀ a, 1000000 ≤ a → D a = none) (hT : TX m r t N a b) (hL : LT m L) (hdk : d + k = 6) (hE : Ev L c0 v0 (2 * k + 3)) (hA : ∀ i, i ≤ N → MB n z D m j r (fS 72 (mkH n z D (s3 m (Int32.ofNat i) no1 (Int32.ofNat d)) j r)) (uf i) d (HB L (2 * k + 4))) (hP : ∀ i, i ≤ N → PA N i (uf i) 1) (hi : i ≤ N) : MB n z D m j r (f_X12_condition fS 72 1 (Int32.ofInt v0) (mkH n z D (s3 m (Int32.ofNat i) no1 (Int32.ofNat d)) j r)) (pCond t N uf (pCmpR t N k c0 i)) d (HB L (2 * k + 6)) := by
  have hx : ∀ c j, pCmpR t N k c0 i = .inr (c, j) → j ≤ N := by
    intro c' j' h
    unfold pCmpR at h
    have hk := sk_le (t := t) hi
    split at h
    · rename_i hs
      have hp := sg_pos (t := t) (N := N) (i := i) (by omega)
      obtain ⟨c1, j1, e1, e2⟩ := bnd_inr h
      have a1 := PA_sum (t := t) (N := N) k _ (by omega) c1 j1 e1
      simp only [Sum.inr.injEq, Prod.mk.injEq] at e2
      obtain ⟨rfl, rfl⟩ := e2
      exact a1.2.1
    · exact absurd h (by simp)
  have hpt : ∀ c j, pPart t N uf (pCmpR t N k c0 i) = .inr (c, j) → j ≤ N := by
    intro c' j' h
    obtain ⟨c1, j1, e1, e2⟩ := bnd_inr h
    obtain ⟨c2, j2, e3, e4⟩ := bnd_inr e2
    have a2 := PA_partR hP 300 j1 (hx c1 j1 e1) c2 j2 e3
    simp only [Sum.inr.injEq, Prod.mk.injEq] at e4
    obtain ⟨rfl, rfl⟩ := e4
    exact a2.2.1
  have h1 : MB n z D m j r (f_X12_part fS 72 1 (Int32.ofInt v0) (mkH n z D (s3 m (Int32.ofNat i) no1 (Int32.ofNat d)) j r)) (pPart t N uf (pCmpR t N k c0 i)) d (HB L (2 * k + 4 + 1)) := by
    unfold f_X12_part f_X12_part_0
    rw [if_neg (by decide)]
    simp (disch := omega) only [obs, cN_mk, ite_true, ite_false, if_true, if_false, q72]
    have hc : f_X12_compares fS 72 1 (Int32.ofInt v0) (mkH n z D (s3 m (Int32.ofNat i) no1 (Int32.ofNat d)) j r) = f_X12_compares_12 fS 72 (Int32.ofInt v0) (mkH n z D (s3 m (Int32.ofNat i) no1 (Int32.ofNat d)) j r) := by
      unfold f_X12_compares f_X12_compares_0
      rw [if_neg (by decide)]
    rw [hc]
    exact M_partX hT hA hP (M_cmp12 hD hT hL hdk hE hi) hx
  unfold f_X12_condition f_X12_condition_0
  simp (disch := omega) only [obs, cN_mk, ite_true, ite_false, if_true, if_false, q72]
  exact M_condX hT (fun i hi => M_part0 hT hA hP hi) (fun i hi => PA_part hP (hP i hi)) h1 hpt
theorem M_unitA {fS : Nat → AH → Option (Int32 × AH)} {uf : Nat → PR} {k d : Nat} (hD : ∀ a, 1000000 ≤ a → D a = none) (hT : TX m r t N a b) (hL : LT m L) (hdk : d + k = 6) (hA : k ≠ 0 → ∀ i, i ≤ N → MB n z D m j r (fS 72 (mkH n z D (s3 m (Int32.ofNat i) no1 (Int32.ofNat (d + 1))) j r)) (uf i) (d + 1) (HB L (2 * k + 2))) (hP : k ≠ 0 → ∀ i, i ≤ N → PA N i (uf i) 1) (hi : i ≤ N) :
    MB n z D m j r (f_X12_unit fS 72 (mkH n z D (s3 m (Int32.ofNat i) no1 (Int32.ofNat d)) j r)) (pUnitA t N uf k i) d (HB L (2 * k + 4)) := by
  have hs := sg_lt hT hi
  have hN := hT.2.2.2.1
  have hk := sk_le (t := t) hi
  unfold f_X12_unit f_X12_unit_0 pUnitA
  simp (disch := omega) only [obs, cN_mk, ite_true, ite_false, if_true, if_false, q72, M_look hT hi, l33, l40, sgI_c, M_goesIn]
  by_cases h33 : sg t N i = 33
  · have hp := sg_pos (t := t) (N := N) (i := i) (by omega)
    rw [if_pos h33, if_pos h33]
    by_cases hk0 : k = 0
    · rw [if_pos hk0, if_pos (by omega)]
      refine ⟨by omega, ?_⟩
      simp only [obs, cN_mk, ite_true, ite_false, if_true, if_false, ← l0, reduceIte]
      exact ⟨_, _, _, Or.inl rfl, rfl⟩
    · rw [if_neg hk0, if_neg (by omega)]
      have e10 : ¬ Int32.ofNat 1 = 0 := by decide
      simp only [obs, cN_mk, ite_true, ite_false, if_true, if_false, e10]
      simp (disch := omega) only [obs, cN_mk, ite_true, ite_false, if_true, if_false, q72]
      have hm := hA hk0 (sk t N i + 1) (by omega)
      cases hx : uf (sk t N i + 1) with
      | inl e =>
        rw [hx] at hm
        obtain ⟨he, v, x, dd, hv01, hv⟩ := hm
        refine ⟨he, ?_⟩
        simp (disch := omega) only [hv, obs, cN_mk, ite_true, ite_false, if_true, if_false, q72, s3_12, w12]
        split
        · exact ⟨_, _, _, Or.inr rfl, rfl⟩
        · exact ⟨_, _, _, Or.inl rfl, rfl⟩
      | inr q =>
        obtain ⟨c, j1⟩ := q
        rw [hx] at hm
        obtain ⟨v, hv, ev⟩ := hm
        dsimp only at ev
        have bv : -1000000 ≤ v ∧ v ≤ 1000000 := ⟨hv.1.1, hv.1.2.1⟩
        refine ⟨if v = 0 then 1 else 0, ⟨Ev_mono (Ev_not hv.1) (by omega), by split <;> omega⟩, ?_⟩
        simp (disch := omega) only [ev, obs, cN_mk, ite_true, ite_false, if_true, if_false, q72, s3_12, w12, l1, i_sub, Nat.add_sub_cancel]
        rw [oi_b01]
        simp only [oi_z bv]
  · rw [if_neg h33, if_neg h33]
    by_cases h40 : sg t N i = 40
    · have hp := sg_pos (t := t) (N := N) (i := i) (by omega)
      rw [if_pos h40, if_pos h40]
      by_cases hk0 : k = 0
      · rw [if_pos hk0, if_pos (by omega)]
        refine ⟨by omega, ?_⟩
        simp only [obs, cN_mk, ite_true, ite_false, if_true, if_false, ← l0, reduceIte]
        exact ⟨_, _, _, Or.inl rfl, rfl⟩
      · rw [if_neg hk0, if_neg (by omega)]
        have e10 : ¬ Int32.ofNat 1 = 0 := by decide
        simp only [obs, cN_mk, ite_true, ite_false, if_true, if_false, e10]
        simp (disch := omega) only [obs, cN_mk, ite_true, ite_false, if_true, if_false, q72]
        have hm := M_cond0 hT (hA hk0) (hP hk0) (show sk t N i + 1 ≤ N by omega)
        have hpa := PA_cond (hP hk0) (hP hk0 (sk t N i + 1) (by omega)) (t := t) (uf := uf)
        cases hx : pCond t N uf (uf (sk t N i + 1)) with
        | inl e =>
          rw [hx] at hm
          obtain ⟨he, v, x, dd, hv01, hv⟩ := hm
          refine ⟨he, ?_⟩
          simp (disch := omega) only [hv, obs, cN_mk, ite_true, ite_false, if_true, if_false, q72, M_takes1]
          simp only [← l0, reduceIte]
          exact ⟨_, _, _, Or.inl rfl, rfl⟩
        | inr q =>
          obtain ⟨c, j1⟩ := q
          rw [hx] at hm
          obtain ⟨v, hv, ev⟩ := hm
          dsimp only at ev
          have hj := hpa c j1 hx
          simp (disch := omega) only [ev, obs, cN_mk, ite_true, ite_false, if_true, if_false, q72, l41, M_takes0 hT hj.2.1]
          show MB n z D m j r _ (pTk t N 41 c j1) d _
          unfold pTk
          by_cases h41 : sg t N j1 = 41
          · rw [if_pos h41, if_pos h41]
            simp only [obs, cN_mk, ite_true, ite_false, if_true, if_false, e10]
            simp (disch := omega) only [obs, cN_mk, ite_true, ite_false, if_true, if_false, q72, s3_12, l1, i_sub, Nat.add_sub_cancel, w12]
            exact ⟨v, ⟨Ev_mono hv.1 (by omega), hv.2⟩, rZi hv.2⟩
          · rw [if_neg h41, if_neg h41]
            have hk1 := sk_le (t := t) hj.2.1
            refine ⟨by omega, ?_⟩
            simp only [obs, cN_mk, ite_true, ite_false, if_true, if_false, ← l0, reduceIte]
            exact ⟨_, _, _, Or.inl rfl, rfl⟩
    · rw [if_neg h40, if_neg h40]
      have hm := M_cmp (n := n) (z := z) (j := j) (fS := fS) (x2 := 0) hD hT hL hdk hk.2
      cases hx : pCmp t N k (sk t N i) with
      | inl e =>
        rw [hx] at hm
        obtain ⟨he, v, x, dd, hv01, hv⟩ := hm
        refine ⟨he, v, x, dd, hv01, ?_⟩
        rw [hv]
        simp only [obs, cN_mk, ite_true, ite_false, if_true, if_false]
        exact if_pos hv01
      | inr q =>
        obtain ⟨c, j1⟩ := q
        rw [hx] at hm
        obtain ⟨v, hv, ev⟩ := hm
        dsimp only at ev
        refine ⟨v, hv, ?_⟩
        rw [ev]
        simp only [obs, cN_mk, ite_true, ite_false, if_true, if_false]
        exact rZi hv.2
theorem M_unit (hD : ∀ a, 1000000 ≤ a → D a = none) (hT : TX m r t N a b) (hL : LT m L) : ∀ (k e i d : Nat), k ≤ e → d + k = 6 → i ≤ N → MB n z D m j r (r_X12_unit (e + 1) 72 (mkH n z D (s3 m (Int32.ofNat i) no1 (Int32.ofNat d)) j r)) (pUnit t N k i) d (HB L (2 * k + 4)) := by
  intro k
  induction k with
  | zero =>
    intro e i d he hd hi
    rw [r_X12_unit]
    exact M_unitA hD hT hL (by omega) (fun h => absurd rfl h) (fun h => absurd rfl h) hi
  | succ k ih =>
    intro e i d he hd hi
    obtain ⟨f, rfl⟩ : ∃ f, e = f + 1 := ⟨e - 1, by omega⟩
    rw [r_X12_unit]
    exact M_unitA hD hT hL (by omega) (fun _ i hi => ih f i (d + 1) (by omega) (by omega) hi) (fun _ i hi => PA_unit k i hi) hi
end MUNI
