/-! The class reads a law: conditions. -/
section CCN
variable {n z : Nat} {D : Dyn} {m : MI} {j : MJ} {r : MR} {t : Nat → Nat} {N i : Nat} {w : Int32}
theorem C_sumA {fS : Nat → Int32 → AH → Option (Int32 × AH)} {af : Nat → PR} {d : Nat} {c0 : List Nat} (hT : TC m t N) (hA : ∀ i c0, i ≤ N → c0.length ≤ i → KO n z D m j r (f_X2_readsAtom fS 14 (Int32.ofNat d) (mkH n z D (rs (lb m c0) 14 (Int32.ofNat i) w) j r)) (af i) w c0) (hP : ∀ i, i ≤ N → PA N i (af i) 1) (hi : i ≤ N) (hc0 : c0.length ≤ i) : KO n z D m j r (f_X2_readsSum fS 14 (Int32.ofNat d) (mkH n z D (rs (lb m c0) 14 (Int32.ofNat i) w) j r)) (pSumA t N af i) w c0 := by
  have hN := hT.2.1
  have h := C_sum7 (n := n) (z := z) (D := D) (j := j) (r := r) hT hA hP fu 300 300 i 0 0 0 c0 (by unfold fu; omega) (by omega) (by omega) hi (by omega) (by omega) (by omega) (by simpa using hc0)
  unfold f_X2_readsSum f_X2_readsSum_0
  have e0 : pd 0 = -1 := rfl
  rw [e0, ← l0] at h
  have hre : (bnd (af i) fun c j => bnd (pTermR t N af 300 j) fun c1 j1 => bnd (pSumR t N af 300 j1) fun c2 j2 => .inr (c ++ opl 0 ++ c1 ++ opl 0 ++ c2, j2)) = pSumA t N af i := by
    unfold pSumA pTerm
    have ho0 : opl 0 = [] := rfl
    rw [ho0]
    cases af i with
    | inl e => rfl
    | inr q =>
      simp only [bnd_r]
      cases pTermR t N af 300 q.2 with
      | inl e => rfl
      | inr q2 =>
        simp only [bnd_r]
        cases pSumR t N af 300 q2.2 with
        | inl e => rfl
        | inr q3 => simp [bnd]
  rw [hre] at h
  exact h
theorem C_sum (hD : ∀ a, 1000000 ≤ a → D a = none) (hT : TC m t N) : ∀ (k e i d : Nat) (c0 : List Nat), k ≤ e → d + k = 6 → i ≤ N → c0.length ≤ i → KO n z D m j r (r_X2_readsSum (e + 1) 14 (Int32.ofNat d) (mkH n z D (rs (lb m c0) 14 (Int32.ofNat i) w) j r)) (pSum t N k i) w c0 := by
  intro k
  induction k with
  | zero =>
    intro e i d c0 he hd hi hc
    rw [r_X2_readsSum]
    exact C_sumA hT (fun i c0 hi hc => C_atom hD hT (by omega) (fun h => absurd rfl h) (fun h => absurd rfl h) hi hc) (fun i hi => PA_atom (sumf := fun _ => .inl 0) (fun h => absurd rfl h) hi) hi hc
  | succ k ih =>
    intro e i d c0 he hd hi hc
    obtain ⟨f, rfl⟩ : ∃ f, e = f + 1 := ⟨e - 1, by omega⟩
    rw [r_X2_readsSum]
    exact C_sumA hT (fun i c0 hi hc => C_atom hD hT (by omega) (fun _ i c0 hi hc => ih f i (d + 1) c0 (by omega) (by omega) hi hc) (fun _ i hi => PA_sum k i hi) hi hc) (fun i hi => PA_atom (fun _ i hi => PA_sum k i hi) hi) hi hc
theorem C_comp {s : Nat} (hs : s < 256) {h : AH} : f_X2_comparing (sgI s) h = some (pd (if s = 60 ∨ s = 61 ∨ s = 62 then opC s else 0), h) := by
  unfold f_X2_comparing f_X2_comparing_0
  have c60 : (sgI s = 60) ↔ s = 60 := by rw [l60]; exact sgI_c hs (by omega) (by omega)
  have c61 : (sgI s = 61) ↔ s = 61 := by rw [l61]; exact sgI_c hs (by omega) (by omega)
  have c62 : (sgI s = 62) ↔ s = 62 := by rw [l62]; exact sgI_c hs (by omega) (by omega)
  by_cases h0 : s = 60
  · rw [if_pos (c60.mpr h0), if_pos (Or.inl h0), h0]; rfl
  by_cases h1 : s = 61
  · rw [if_neg (fun e => h0 (c60.mp e)), if_pos (c61.mpr h1), if_pos (Or.inr (Or.inl h1)), h1]; rfl
  by_cases h2 : s = 62
  · rw [if_neg (fun e => h0 (c60.mp e)), if_neg (fun e => h1 (c61.mp e)), if_pos (c62.mpr h2), if_pos (Or.inr (Or.inr h2)), h2]; rfl
  rw [if_neg (fun e => h0 (c60.mp e)), if_neg (fun e => h1 (c61.mp e)), if_neg (fun e => h2 (c62.mp e)), if_neg (by simp [h0, h1, h2])]
  rfl
theorem C_starts {s : Nat} (hs : s < 256) {h : AH} : f_X2_startsUnit (sgI s) h = some (bI (decide (s = 33 ∨ s = 40)), h) := by
  unfold f_X2_startsUnit f_X2_startsUnit_0 f_X2_startsUnit_12
  have c33 : (sgI s = 33) ↔ s = 33 := by rw [l33]; exact sgI_c hs (by omega) (by omega)
  have c40 : (sgI s = 40) ↔ s = 40 := by rw [l40]; exact sgI_c hs (by omega) (by omega)
  by_cases h0 : s = 33
  · rw [if_pos (c33.mpr h0)]; simp [h0, bI, l1]
  by_cases h1 : s = 40
  · rw [if_neg (fun e => h0 (c33.mp e)), if_pos (c40.mpr h1)]; simp [h1, bI, l1]
  rw [if_neg (fun e => h0 (c33.mp e)), if_neg (fun e => h1 (c40.mp e))]
  simp [h0, h1, bI, l0]
theorem C_pos {c : List Nat} : gI [2] (mkH n z D (rs (lb m c) 14 (Int32.ofNat i) w) j r) 14 1 = some (Int32.ofNat i) ∧ pV [2] (mkH n z D (rs (lb m c) 14 (Int32.ofNat i) w) j r) 14 1 (.int (Int32.ofNat i + 1)) = some (mkH n z D (rs (lb m c) 14 (Int32.ofNat (i + 1)) w) j r) := by
  refine ⟨?_, ?_⟩
  · rw [gI_mk (ci := 2) rfl (by decide) rfl, rs_1]
  · rw [pI_mk (ci := 2) rfl (by decide) rfl, v1, l1, i_add]
theorem C_u33 {fS : Nat → Int32 → Int32 → AH → Option (Int32 × AH)} {k d jj : Nat} {c0 c : List Nat} (hD : ∀ a, 1000000 ≤ a → D a = none) (hT : TC m t N) (hdk : d + k = 6) (hj : jj ≤ N) (hc : (c0 ++ c).length ≤ jj) : KO n z D m j r (f_X2_readsUnit_33 fS 14 (Int32.ofNat d) (mkH n z D (rs (lb m (c0 ++ c)) 14 (Int32.ofNat jj) w) j r)) (pCmpR t N k c jj) w c0 := by
  have hTc := TC_lb (c := c0 ++ c) hT
  have hN := hT.2.1
  have hs := sg_ltC (i := jj) hT
  have hk := sk_le (t := t) hj
  have hfs : ∀ x h, fc_X2_readsSum 14 x h = r_X2_readsSum (7 + 1) 14 x h := fun _ _ => rfl
  unfold f_X2_readsUnit_33 pCmpR
  rw [c14, obs, C_sign o14 hTc hj, cN_mk, C_comp hs, cN_mk]
  by_cases hop : sg t N jj = 60 ∨ sg t N jj = 61 ∨ sg t N jj = 62
  · have hp := sg_pos (t := t) (N := N) (i := jj) (by omega)
    have hb := opC_b (s := sg t N jj)
    rw [if_pos hop, if_neg (fun h => by have := (pd_n (by omega)).mp h; omega), C_pos.1, obs, C_pos.2, obs, c14, obs, hfs, if_pos hop]
    have hm := C_sum (n := n) (z := z) (D := D) (j := j) (r := r) (w := w) hD hT k 7 (sk t N jj + 1) d (c0 ++ c) (by omega) hdk (by omega) (by omega)
    have hpa := PA_sum (t := t) (N := N) k (sk t N jj + 1) (by omega)
    cases hx : pSum t N k (sk t N jj + 1) with
    | inl e =>
      rw [hx] at hm
      obtain ⟨x, c', hv⟩ := hm
      rw [hv, cN_mk, if_pos (show Int32.ofNat 0 = 0 from rfl)]
      exact ⟨_, _, rfl⟩
    | inr q =>
      obtain ⟨c', j1⟩ := q
      rw [hx] at hm
      have hm' : r_X2_readsSum (7 + 1) 14 (Int32.ofNat d) (mkH n z D (rs (lb m (c0 ++ c)) 14 (Int32.ofNat (sk t N jj + 1)) w) j r) = some (Int32.ofNat 1, mkH n z D (rs (lb m (c0 ++ c ++ c')) 14 (Int32.ofNat j1) w) j r) := hm
      have hj1 := hpa c' j1 hx
      have hl : (c0 ++ c ++ c').length = (c0 ++ c).length + c'.length := List.length_append
      have epd : pd (opC (sg t N jj)) = Int32.ofNat (opC (sg t N jj)) := if_neg (by omega)
      rw [hm', cN_mk, if_neg (show ¬ Int32.ofNat 1 = 0 by decide), c14, obs, epd, C_emit (by omega), cN_mk]
      show some (1, _) = some (Int32.ofNat 1, mkH n z D (rs (lb m (c0 ++ (c ++ (c' ++ [opC (sg t N jj)])))) 14 (Int32.ofNat j1) w) j r)
      simp [l1]
  · rw [if_neg hop, if_pos (show pd 0 = -1 from rfl), C_pos.1, obs, c14, obs, C_fails o14, cN_mk, rZ0, if_neg hop]
    exact ⟨_, _, rfl⟩
theorem C_unit0 {fS : Nat → Int32 → Int32 → AH → Option (Int32 × AH)} {uf : Nat → PR} {k d : Nat} {c0 : List Nat} (hD : ∀ a, 1000000 ≤ a → D a = none) (hT : TC m t N) (hdk : d + k = 6)
    (hU : k ≠ 0 → ∀ i c0, i ≤ N → c0.length ≤ i → KO n z D m j r (fS 14 (Int32.ofNat (d + 1)) 0 (mkH n z D (rs (lb m c0) 14 (Int32.ofNat i) w) j r)) (uf i) w c0)
    (hC : k ≠ 0 → ∀ i c0, i ≤ N → c0.length ≤ i → KO n z D m j r (f_X2_readsCondition fS 14 (Int32.ofNat (d + 1)) 0 (mkH n z D (rs (lb m c0) 14 (Int32.ofNat i) w) j r)) (pCond t N uf (uf i)) w c0)
    (hP : k ≠ 0 → ∀ i, i ≤ N → PA N i (uf i) 1) (hi : i ≤ N) (hc0 : c0.length ≤ i) :
    KO n z D m j r (f_X2_readsUnit fS 14 (Int32.ofNat d) 0 (mkH n z D (rs (lb m c0) 14 (Int32.ofNat i) w) j r)) (pUnitA t N uf k i) w c0 := by
  have hTl := TC_lb (c := c0) hT
  have hs := sg_ltC (i := i) hT
  have hN := hT.2.1
  have hk := sk_le (t := t) hi
  have hfs : ∀ x h, fc_X2_readsSum 14 x h = r_X2_readsSum (7 + 1) 14 x h := fun _ _ => rfl
  unfold f_X2_readsUnit f_X2_readsUnit_0 pUnitA
  rw [if_pos rfl, c14, obs, C_sign o14 hTl hi, cN_mk, C_starts hs, cN_mk]
  by_cases hu : sg t N i = 33 ∨ sg t N i = 40
  · have hp := sg_pos (t := t) (N := N) (i := i) (by omega)
    rw [if_neg (by simp [hu, bI]), c14, obs]
    have main : KO n z D m j r (f_X2_readsNested fS 14 (sgI (sg t N i)) (Int32.ofNat d) (mkH n z D (rs (lb m c0) 14 (Int32.ofNat (sk t N i)) w) j r)) (if sg t N i = 33 then (if k = 0 then .inl (sk t N i) else bnd (uf (sk t N i + 1)) fun c j => .inr (c ++ [10015], j)) else if sg t N i = 40 then (if k = 0 then .inl (sk t N i) else bnd (pCond t N uf (uf (sk t N i + 1))) (pTk t N 41)) else pCmp t N k (sk t N i)) w c0 := by
      unfold f_X2_readsNested f_X2_readsNested_0
      by_cases hk0 : k = 0
      · rw [if_neg (by rw [l6, i_lt (by omega) (by omega)]; omega), C_pos.1, obs, c14, obs, C_fails o14, cN_mk, rZ0]
        simp only [hk0, if_true]
        rcases hu with h | h
        · rw [if_pos h]; exact ⟨_, _, rfl⟩
        · rw [if_neg (by omega), if_pos h]; exact ⟨_, _, rfl⟩
      · rw [if_pos (by rw [l6, i_lt (by omega) (by omega)]; omega), C_pos.1, obs, C_pos.2, obs]
        rw [if_neg hk0, if_neg hk0]
        have ed : Int32.ofNat d + 1 = Int32.ofNat (d + 1) := by rw [l1, i_add]
        by_cases h40 : sg t N i = 40
        · rw [if_pos (show sgI (sg t N i) = 40 by rw [l40]; exact (sgI_c hs (by omega) (by omega)).mpr h40), if_neg (by omega), if_pos h40, c14, obs, ed]
          have hm := hC hk0 (sk t N i + 1) c0 (by omega) (by omega)
          have hpa := PA_cond (t := t) (uf := uf) (hP hk0) (hP hk0 (sk t N i + 1) (by omega))
          cases hx : pCond t N uf (uf (sk t N i + 1)) with
          | inl e =>
            rw [hx] at hm
            obtain ⟨x, c', hv⟩ := hm
            rw [hv, cN_mk, if_pos (show Int32.ofNat 0 = 0 from rfl)]
            exact ⟨_, _, rfl⟩
          | inr q =>
            obtain ⟨c, j1⟩ := q
            rw [hx] at hm
            have hm' : f_X2_readsCondition fS 14 (Int32.ofNat (d + 1)) 0 (mkH n z D (rs (lb m c0) 14 (Int32.ofNat (sk t N i + 1)) w) j r) = some (Int32.ofNat 1, mkH n z D (rs (lb m (c0 ++ c)) 14 (Int32.ofNat j1) w) j r) := hm
            have hj := hpa c j1 hx
            have hTc := TC_lb (c := c0 ++ c) hT
            rw [hm', cN_mk, if_neg (show ¬ Int32.ofNat 1 = 0 by decide), c14, obs, l41, C_takes o14 hTc hj.2.1 (by omega) (by omega)]
            show KO n z D m j r _ (pTk t N 41 c j1) w c0
            unfold pTk
            by_cases h93 : sg t N j1 = 41
            · rw [if_pos h93, if_pos h93, cN_mk, if_neg (show ¬ Int32.ofNat 1 = 0 by decide)]
              rfl
            · rw [if_neg h93, if_neg h93, cN_mk, if_pos (show Int32.ofNat 0 = 0 from rfl)]
              exact ⟨_, _, rfl⟩
        · have h33 : sg t N i = 33 := by omega
          rw [if_neg (show ¬ sgI (sg t N i) = 40 by rw [l40]; exact fun h => h40 ((sgI_c hs (by omega) (by omega)).mp h)), if_pos h33, c14, obs, ed]
          have hm := hU hk0 (sk t N i + 1) c0 (by omega) (by omega)
          have hpa := hP hk0 (sk t N i + 1) (by omega)
          cases hx : uf (sk t N i + 1) with
          | inl e =>
            rw [hx] at hm
            obtain ⟨x, c', hv⟩ := hm
            rw [hv, cN_mk, if_pos (show Int32.ofNat 0 = 0 from rfl)]
            exact ⟨_, _, rfl⟩
          | inr q =>
            obtain ⟨c, j1⟩ := q
            rw [hx] at hm
            have hm' : fS 14 (Int32.ofNat (d + 1)) 0 (mkH n z D (rs (lb m c0) 14 (Int32.ofNat (sk t N i + 1)) w) j r) = some (Int32.ofNat 1, mkH n z D (rs (lb m (c0 ++ c)) 14 (Int32.ofNat j1) w) j r) := hm
            have hj := hpa c j1 hx
            have hl : (c0 ++ c).length = c0.length + c.length := List.length_append
            rw [hm', cN_mk, if_neg (show ¬ Int32.ofNat 1 = 0 by decide), c14, obs, l10015, C_emit (by omega), cN_mk]
            show some (1, _) = some (Int32.ofNat 1, mkH n z D (rs (lb m (c0 ++ (c ++ [10015]))) 14 (Int32.ofNat j1) w) j r)
            simp [l1]
    generalize hX : (if sg t N i = 33 then (if k = 0 then .inl (sk t N i) else bnd (uf (sk t N i + 1)) fun c j => .inr (c ++ [10015], j)) else if sg t N i = 40 then (if k = 0 then .inl (sk t N i) else bnd (pCond t N uf (uf (sk t N i + 1))) (pTk t N 41)) else pCmp t N k (sk t N i) : PR) = X at main ⊢
    cases X with
    | inl e =>
      obtain ⟨x, c', hv⟩ := main
      rw [hv, cN_mk, rZ0]
      exact ⟨_, _, rfl⟩
    | inr q =>
      have hv : f_X2_readsNested fS 14 (sgI (sg t N i)) (Int32.ofNat d) (mkH n z D (rs (lb m c0) 14 (Int32.ofNat (sk t N i)) w) j r) = _ := main
      rw [hv, cN_mk, rZ1]
      rfl
  · rw [if_pos (by simp [hu, bI]), c14, obs, hfs, if_neg (by simp at hu; exact hu.1), if_neg (by simp at hu; exact hu.2)]
    have hm := C_sum (n := n) (z := z) (D := D) (j := j) (r := r) (w := w) hD hT k 7 (sk t N i) d c0 (by omega) hdk hk.2 (by omega)
    have hpa := PA_sum (t := t) (N := N) k (sk t N i) hk.2
    unfold pCmp
    cases hx : pSum t N k (sk t N i) with
    | inl e =>
      rw [hx] at hm
      obtain ⟨x, c', hv⟩ := hm
      rw [hv, cN_mk, if_pos (show Int32.ofNat 0 = 0 from rfl)]
      exact ⟨_, _, rfl⟩
    | inr q =>
      obtain ⟨c, j1⟩ := q
      rw [hx] at hm
      have hm' : r_X2_readsSum (7 + 1) 14 (Int32.ofNat d) (mkH n z D (rs (lb m c0) 14 (Int32.ofNat (sk t N i)) w) j r) = some (Int32.ofNat 1, mkH n z D (rs (lb m (c0 ++ c)) 14 (Int32.ofNat j1) w) j r) := hm
      have hj := hpa c j1 hx
      have hl : (c0 ++ c).length = c0.length + c.length := List.length_append
      rw [hm', cN_mk, if_neg (show ¬ Int32.ofNat 1 = 0 by decide)]
      exact C_u33 hD hT hdk hj.2.1 (by omega)
end CCN
