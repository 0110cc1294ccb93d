/-! The class reads a law: conditions, the whole. -/
section CCD
variable {n z : Nat} {D : Dyn} {m : MI} {j : MJ} {r : MR} {t : Nat → Nat} {N i : Nat} {w : Int32}
theorem C_emitb {c : List Nat} {a op : Nat} {x : Int32} (ha : a = 0 ∨ a = op) (hop : op ≠ 0 ∧ op < 20000) (h : a ≠ 0 → c.length < 240) {β : Type} {k : AH → Option β} : (if bI (decide (a ≠ 0)) = 0 then k (mkH n z D (rs (lb m c) 14 x w) j r) else (isC [2] (mkH n z D (rs (lb m c) 14 x w) j r) 14).bind fun _ => cN (f_X2_emit 14 (Int32.ofNat op) (mkH n z D (rs (lb m c) 14 x w) j r)) (mkH n z D (rs (lb m c) 14 x w) j r) fun _ h => k h) = k (mkH n z D (rs (lb m (c ++ opl a)) 14 x w) j r) := by
  by_cases h0 : a = 0
  · rw [if_pos (by simp [h0, bI])]
    unfold opl
    rw [if_pos h0, List.append_nil]
  · have ha' : a = op := by omega
    rw [if_neg (by simp [h0, bI]), c14, obs]
    unfold opl
    rw [if_neg h0, C_emit (h h0), cN_mk, ha']
theorem C_cond11 {fS : Nat → Int32 → Int32 → AH → Option (Int32 × AH)} {uf : Nat → PR} {d : Nat} (hT : TC m t N) (hU : ∀ i c0, i ≤ N → c0.length ≤ i → KO n z D m j r (fS 14 (Int32.ofNat d) 0 (mkH n z D (rs (lb m c0) 14 (Int32.ofNat i) w) j r)) (uf i) w c0) (hP : ∀ i, i ≤ N → PA N i (uf i) 1) : ∀ (fuel g1 g2 i cnt A S : Nat) (c0 : List Nat) (lr : Int32) (mm : MI) (x : PR), N - i < fuel → N - i < g1 → N - i < g2 → i ≤ N → cnt + (N - i) ≤ 240 → (A = 0 ∨ A = 10014) → (S = 0 ∨ S = 10013) → c0.length + (if A = 0 then 0 else 1) + (if S = 0 then 0 else 1) ≤ i → KO n z D m j r (fS 14 (Int32.ofNat d) lr (mkH n z D mm j r)) x w c0 → PA N i x 1 →
    KO n z D m j r (f_X2_readsCondition_11 fS fuel 14 (Int32.ofNat d) (bI (decide (A ≠ 0))) (bI (decide (S ≠ 0))) lr (Int32.ofNat cnt) (mkH n z D mm j r)) (bnd x fun c j => bnd (pPartR t N uf g1 j) fun c1 j1 => bnd (pCondR t N uf g2 j1) fun c2 j2 => .inr (c ++ opl S ++ c1 ++ opl A ++ c2, j2)) w c0 := by
  have hN := hT.2.1
  intro fuel
  induction fuel with
  | zero => intro g1 g2 i cnt A S c0 lr mm x h; omega
  | succ f ih =>
    intro g1 g2 i cnt A S c0 lr mm x hf hg1 hg2 hi hcnt hA2 hS2 hc0 hm hpa
    obtain ⟨g1', rfl⟩ : ∃ g, g1 = g + 1 := ⟨g1 - 1, by omega⟩
    obtain ⟨g2', rfl⟩ : ∃ g, g2 = g + 1 := ⟨g2 - 1, by omega⟩
    rw [f_X2_readsCondition_11.eq_2, if_neg (by rw [l240, i_lt (by omega) (by omega)]; omega), c14, obs]
    cases x with
    | inl e =>
      obtain ⟨x, c, hv⟩ := hm
      rw [hv, cN_mk, if_pos (show Int32.ofNat 0 = 0 from rfl)]
      exact ⟨_, _, rfl⟩
    | inr q =>
      obtain ⟨c, j1⟩ := q
      have hm' : fS 14 (Int32.ofNat d) lr (mkH n z D mm j r) = some (Int32.ofNat 1, mkH n z D (rs (lb m (c0 ++ c)) 14 (Int32.ofNat j1) w) j r) := hm
      have hj := hpa c j1 rfl
      have hlen : (c0 ++ c).length = c0.length + c.length := List.length_append
      have hoS : (opl S).length = if S = 0 then 0 else 1 := by unfold opl; split <;> rfl
      have hoA : (opl A).length = if A = 0 then 0 else 1 := by unfold opl; split <;> rfl
      rw [hm', cN_mk, if_neg (show ¬ Int32.ofNat 1 = 0 by decide), l10013, C_emitb hS2 (by omega) (fun h => by rw [if_neg h] at hc0; omega)]
      generalize hcS : c0 ++ c ++ opl S = cS
      have hcSl : cS.length = c0.length + c.length + (if S = 0 then 0 else 1) := by rw [← hcS, List.length_append, hlen, hoS]
      have hTc := TC_lb (c := cS) hT
      have hs := sg_ltC (i := j1) hT
      have hk := sk_le (t := t) hj.2.1
      show KO n z D m j r (f_X2_readsCondition_46 fS (f_X2_readsCondition_11 fS f) 14 (Int32.ofNat d) (bI (decide (A ≠ 0))) 0 (Int32.ofNat cnt) (mkH n z D (rs (lb m cS) 14 (Int32.ofNat j1) w) j r)) (bnd (pPartR t N uf (g1' + 1) j1) fun c1 j1 => bnd (pCondR t N uf (g2' + 1) j1) fun c2 j2 => .inr (c ++ opl S ++ c1 ++ opl A ++ c2, j2)) w c0
      unfold f_X2_readsCondition_46
      rw [c14, obs, C_sign o14 hTc hj.2.1, cN_mk, pPartR]
      have nxt112 : ∀ (cA : List Nat) (s0 x4 : Int32), f_X2_readsCondition_112 fS (f_X2_readsCondition_11 fS f) 14 (Int32.ofNat d) x4 0 (Int32.ofNat cnt) s0 (mkH n z D (rs (lb m cA) 14 (Int32.ofNat (sk t N j1)) w) j r) = f_X2_readsCondition_11 fS f 14 (Int32.ofNat d) s0 x4 0 (Int32.ofNat (cnt + 1)) (mkH n z D (rs (lb m cA) 14 (Int32.ofNat (sk t N j1 + 1)) w) j r) := by
        intro cA s0 x4
        unfold f_X2_readsCondition_112
        rw [C_pos.1, obs, C_pos.2, obs, l1, i_add]
      by_cases hop : sg t N j1 = 38
      · have hp := sg_pos (t := t) (N := N) (i := j1) (by omega)
        rw [if_pos (show sgI (sg t N j1) = 38 by rw [l38]; exact (sgI_c hs (by omega) (by omega)).mpr hop), if_pos hop]
        have h64 : f_X2_readsCondition_64 fS (f_X2_readsCondition_11 fS f) 14 (Int32.ofNat d) (bI (decide (A ≠ 0))) 0 (Int32.ofNat cnt) (sgI (sg t N j1)) 1 (mkH n z D (rs (lb m cS) 14 (Int32.ofNat (sk t N j1)) w) j r) = f_X2_readsCondition_11 fS f 14 (Int32.ofNat d) (bI (decide (A ≠ 0))) (bI (decide (10013 ≠ 0))) 0 (Int32.ofNat (cnt + 1)) (mkH n z D (rs (lb m cS) 14 (Int32.ofNat (sk t N j1 + 1)) w) j r) := by
          unfold f_X2_readsCondition_64 f_X2_readsCondition_82 f_X2_readsCondition_96 f_X2_readsCondition_107
          have hn124 : ¬ sgI (sg t N j1) = 124 := by rw [l124]; exact fun h => by have := (sgI_c hs (by omega) (by omega)).mp h; omega
          have e1 : (1 : Int32) = bI (decide (10013 ≠ 0)) := rfl
          rw [if_neg (by decide), if_neg (by decide), if_neg hn124]
          by_cases hA0 : A = 0
          · rw [if_pos (by simp [hA0, bI]), nxt112, ← e1]
            have : bI (decide (A ≠ 0)) = 0 := by simp [hA0, bI]
            rw [this]
          · rw [if_neg (by simp [hA0, bI]), nxt112, ← e1]
            have : bI (decide (A ≠ 0)) = 1 := by simp [hA0, bI]
            rw [this]
        rw [h64]
        have hih := ih g1' (g2' + 1) (sk t N j1 + 1) (cnt + 1) A 10013 cS 0 _ (uf (sk t N j1 + 1)) (by omega) (by omega) (by omega) (by omega) (by omega) hA2 (Or.inr rfl) (by rw [if_neg (show ¬ 10013 = 0 by omega)]; split at hc0 <;> split at hc0 <;> simp_all <;> omega) (hU (sk t N j1 + 1) cS (by omega) (by split at hc0 <;> split at hc0 <;> simp_all <;> omega)) (hP _ (by omega))
        have hcS' : c0 ++ (c ++ opl S) = cS := by rw [← hcS, List.append_assoc]
        rw [← hcS'] at hih
        have := KO_pre hih
        rw [hcS'] at this
        have hre : ∀ (X : PR), (bnd (bnd X fun c j => bnd (pPartR t N uf g1' j) fun c1 k1 => bnd (pCondR t N uf (g2' + 1) k1) fun c2 j2 => .inr (c ++ opl 10013 ++ c1 ++ opl A ++ c2, j2)) fun c' j' => .inr (c ++ opl S ++ c', j')) = bnd (bnd X fun c_1 j => bnd (pPartR t N uf g1' j) fun c' j' => .inr (c_1 ++ [10013] ++ c', j')) fun c1 j1 => bnd (pCondR t N uf (g2' + 1) j1) fun c2 j2 => .inr (c ++ opl S ++ c1 ++ opl A ++ c2, j2) := by
          intro X
          have ho : opl 10013 = [10013] := rfl
          rw [ho]
          cases X with
          | inl e => rfl
          | inr q =>
            simp only [bnd_r]
            cases pPartR t N uf g1' q.2 with
            | inl e => rfl
            | inr q2 =>
              simp only [bnd_r]
              cases pCondR t N uf (g2' + 1) q2.2 with
              | inl e => rfl
              | inr q3 => simp [bnd]
        rw [hre] at this
        exact this
      · rw [if_neg (show ¬ sgI (sg t N j1) = 38 by rw [l38]; exact fun h => hop ((sgI_c hs (by omega) (by omega)).mp h)), if_neg hop]
        unfold f_X2_readsCondition_64
        rw [if_pos rfl, l10014, C_emitb hA2 (by omega) (fun h => by rw [if_neg h] at hc0; omega)]
        generalize hcA : cS ++ opl A = cA
        have hcAl : cA.length = c0.length + c.length + (if S = 0 then 0 else 1) + (if A = 0 then 0 else 1) := by rw [← hcA, List.length_append, hcSl, hoA]
        show KO n z D m j r (f_X2_readsCondition_82 fS (f_X2_readsCondition_11 fS f) 14 (Int32.ofNat d) (bI (decide (A ≠ 0))) 0 0 (Int32.ofNat cnt) (sgI (sg t N j1)) (mkH n z D (rs (lb m cA) 14 (Int32.ofNat (sk t N j1)) w) j r)) (bnd (pCondR t N uf (g2' + 1) (sk t N j1)) fun c2 j2 => .inr (c ++ opl S ++ [] ++ opl A ++ c2, j2)) w c0
        rw [pCondR, sg_sk hj.2.1, sk_sk hj.2.1]
        unfold f_X2_readsCondition_82
        rw [if_pos rfl]
        by_cases hos : sg t N j1 = 124
        · have hp := sg_pos (t := t) (N := N) (i := j1) (by omega)
          have e124 : sgI (sg t N j1) = 124 := by rw [l124]; exact (sgI_c hs (by omega) (by omega)).mpr hos
          have h96 : f_X2_readsCondition_96 fS (f_X2_readsCondition_11 fS f) 14 (Int32.ofNat d) (bI (decide (A ≠ 0))) 0 0 (Int32.ofNat cnt) (sgI (sg t N j1)) (mkH n z D (rs (lb m cA) 14 (Int32.ofNat (sk t N j1)) w) j r) = f_X2_readsCondition_11 fS f 14 (Int32.ofNat d) (bI (decide (10014 ≠ 0))) (bI (decide (0 ≠ 0))) 0 (Int32.ofNat (cnt + 1)) (mkH n z D (rs (lb m cA) 14 (Int32.ofNat (sk t N j1 + 1)) w) j r) := by
            unfold f_X2_readsCondition_96 f_X2_readsCondition_107
            have e1 : (1 : Int32) = bI (decide (10014 ≠ 0)) := rfl
            have e0 : (0 : Int32) = bI (decide (0 ≠ 0)) := rfl
            rw [if_pos e124, nxt112]
            split
            · rw [← e1, ← e0]
            · rw [← e1, ← e0]
          rw [if_pos e124, h96, if_pos hos]
          have hih := ih 300 g2' (sk t N j1 + 1) (cnt + 1) 10014 0 cA 0 _ (uf (sk t N j1 + 1)) (by omega) (by omega) (by omega) (by omega) (by omega) (Or.inr rfl) (Or.inl rfl) (by rw [if_neg (show ¬ 10014 = 0 by omega), if_pos rfl]; split at hc0 <;> split at hc0 <;> simp_all <;> omega) (hU (sk t N j1 + 1) cA (by omega) (by split at hc0 <;> split at hc0 <;> simp_all <;> omega)) (hP _ (by omega))
          have hcA' : c0 ++ (c ++ (opl S ++ opl A)) = cA := by rw [← hcA, ← hcS, List.append_assoc, List.append_assoc]
          rw [← hcA'] at hih
          have := KO_pre hih
          rw [hcA'] at this
          have hre : ∀ (X : PR), (bnd (bnd X fun c j => bnd (pPartR t N uf 300 j) fun c1 k1 => bnd (pCondR t N uf g2' k1) fun c2 j2 => .inr (c ++ opl 0 ++ c1 ++ opl 10014 ++ c2, j2)) fun c' j' => .inr (c ++ (opl S ++ opl A) ++ c', j')) = bnd (bnd (bnd X fun c j => bnd (pPartR t N uf 300 j) fun c' j' => .inr (c ++ c', j')) fun c j => bnd (pCondR t N uf g2' j) fun c' j' => .inr (c ++ [10014] ++ c', j')) fun c2 j2 => .inr (c ++ opl S ++ [] ++ opl A ++ c2, j2) := by
            intro X
            have ho : opl 10014 = [10014] := rfl
            have ho0 : opl 0 = [] := rfl
            rw [ho, ho0]
            cases X with
            | inl e => rfl
            | inr q =>
              simp only [bnd_r]
              cases pPartR t N uf 300 q.2 with
              | inl e => rfl
              | inr q2 =>
                simp only [bnd_r]
                cases pCondR t N uf g2' q2.2 with
                | inl e => rfl
                | inr q3 => simp [bnd]
          rw [hre] at this
          unfold pPart
          exact this
        · rw [if_neg (show ¬ sgI (sg t N j1) = 124 by rw [l124]; exact fun h => hos ((sgI_c hs (by omega) (by omega)).mp h)), if_neg hos]
          show some (1, _) = some (Int32.ofNat 1, mkH n z D (rs (lb m (c0 ++ (c ++ opl S ++ [] ++ opl A ++ []))) 14 (Int32.ofNat (sk t N j1)) w) j r)
          rw [← hcA, ← hcS]
          simp [l1]
theorem C_condX {fS : Nat → Int32 → Int32 → AH → Option (Int32 × AH)} {uf : Nat → PR} {d : Nat} {c0 : List Nat} {lr : Int32} {mm : MI} {x : PR} (hT : TC m t N) (hU : ∀ i c0, i ≤ N → c0.length ≤ i → KO n z D m j r (fS 14 (Int32.ofNat d) 0 (mkH n z D (rs (lb m c0) 14 (Int32.ofNat i) w) j r)) (uf i) w c0) (hP : ∀ i, i ≤ N → PA N i (uf i) 1) (hi : i ≤ N) (hc0 : c0.length ≤ i) (hx : KO n z D m j r (fS 14 (Int32.ofNat d) lr (mkH n z D mm j r)) x w c0) (hxP : PA N i x 1) : KO n z D m j r (f_X2_readsCondition fS 14 (Int32.ofNat d) lr (mkH n z D mm j r)) (pCond t N uf x) w c0 := by
  have hN := hT.2.1
  have h := C_cond11 (n := n) (z := z) (D := D) (j := j) (r := r) hT hU hP fu 300 300 i 0 0 0 c0 lr mm x (by unfold fu; omega) (by omega) (by omega) hi (by omega) (Or.inl rfl) (Or.inl rfl) (by simpa using hc0) hx hxP
  unfold f_X2_readsCondition f_X2_readsCondition_0
  have e0 : bI (decide (0 ≠ 0)) = 0 := rfl
  rw [e0, ← l0] at h
  have hre : (bnd x fun c j => bnd (pPartR t N uf 300 j) fun c1 j1 => bnd (pCondR t N uf 300 j1) fun c2 j2 => .inr (c ++ opl 0 ++ c1 ++ opl 0 ++ c2, j2)) = pCond t N uf x := by
    unfold pCond pPart
    have ho0 : opl 0 = [] := rfl
    rw [ho0]
    cases x with
    | inl e => rfl
    | inr q =>
      simp only [bnd_r]
      cases pPartR t N uf 300 q.2 with
      | inl e => rfl
      | inr q2 =>
        simp only [bnd_r]
        cases pCondR t N uf 300 q2.2 with
        | inl e => rfl
        | inr q3 => simp [bnd]
  rw [hre] at h
  exact h
theorem C_unit (hD : ∀ a, 1000000 ≤ a → D a = none) (hT : TC m t N) : ∀ (k e i d : Nat) (c0 : List Nat), k ≤ e → d + k = 6 → i ≤ N → c0.length ≤ i → KO n z D m j r (r_X2_readsUnit (e + 1) 14 (Int32.ofNat d) 0 (mkH n z D (rs (lb m c0) 14 (Int32.ofNat i) w) j r)) (pUnit t N k i) w c0 := by
  intro k
  induction k with
  | zero =>
    intro e i d c0 he hd hi hc
    rw [r_X2_readsUnit]
    exact C_unit0 hD hT (by omega) (fun h => absurd rfl h) (fun h => absurd rfl h) (fun h => absurd rfl h) hi hc
  | succ k ih =>
    intro e i d c0 he hd hi hc
    obtain ⟨f, rfl⟩ : ∃ f, e = f + 1 := ⟨e - 1, by omega⟩
    rw [r_X2_readsUnit]
    have hU : ∀ i c0, i ≤ N → c0.length ≤ i → KO n z D m j r (r_X2_readsUnit (f + 1) 14 (Int32.ofNat (d + 1)) 0 (mkH n z D (rs (lb m c0) 14 (Int32.ofNat i) w) j r)) (pUnit t N k i) w c0 := fun i c0 hi hc => ih f i (d + 1) c0 (by omega) (by omega) hi hc
    have hP : ∀ i, i ≤ N → PA N i (pUnit t N k i) 1 := fun i hi => PA_unit k i hi
    exact C_unit0 hD hT (by omega) (fun _ => hU) (fun _ i c0 hi hc => C_condX hT hU hP hi hc (hU i c0 hi hc) (hP i hi)) (fun _ => hP) hi hc
end CCD
