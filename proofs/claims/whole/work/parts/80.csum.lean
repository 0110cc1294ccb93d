/-! The class reads a law: sums, conditions. -/
def opl (a : Nat) : List Nat := if a = 0 then [] else [a]
def pd (a : Nat) : Int32 := if a = 0 then no1 else Int32.ofNat a
theorem bnd_r {q : List Nat × Nat} {f : List Nat → Nat → PR} : bnd (.inr q) f = f q.1 q.2 := by cases q; simp [bnd]
section CSM
variable {n z : Nat} {D : Dyn} {m : MI} {j : MJ} {r : MR} {t : Nat → Nat} {N i : Nat} {w : Int32}
theorem c14 : isC [2] (mkH n z D m j r) 14 = some () := isC_mk rfl (by decide)
theorem pd_n {a : Nat} (h : a < 20000) : (pd a = -1) ↔ a = 0 := by
  unfold pd
  by_cases h0 : a = 0
  · simp [h0]; rfl
  · rw [if_neg h0]
    constructor
    · intro e; exact absurd e (fun h => (no1_ne (by omega)).mp h)
    · intro e; exact absurd e h0
theorem KO_pre {res : Option (Int32 × AH)} {p : PR} {c0 c1 : List Nat} (h : KO n z D m j r res p w (c0 ++ c1)) : KO n z D m j r res (bnd p fun c j => .inr (c1 ++ c, j)) w c0 := by
  cases p with
  | inl e => exact h
  | inr q =>
    have h' : res = some (Int32.ofNat 1, mkH n z D (rs (lb m (c0 ++ c1 ++ q.1)) 14 (Int32.ofNat q.2) w) j r) := h
    show res = some (Int32.ofNat 1, mkH n z D (rs (lb m (c0 ++ (c1 ++ q.1))) 14 (Int32.ofNat q.2) w) j r)
    rw [h', List.append_assoc]
/-- emit, if there is what -/
theorem C_emits {c : List Nat} {a : Nat} {x : Int32} (ha : a < 20000) (h : a ≠ 0 → c.length < 240) {β : Type} {k : AH → Option β} : (if pd a = -1 then k (mkH n z D (rs (lb m c) 14 x w) j r) else (isC [2] (mkH n z D (rs (lb m c) 14 x w) j r) 14).bind fun _ => cN (f_X2_emit 14 (pd a) (mkH n z D (rs (lb m c) 14 x w) j r)) (mkH n z D (rs (lb m c) 14 x w) j r) fun _ h => k h) = k (mkH n z D (rs (lb m (c ++ opl a)) 14 x w) j r) := by
  by_cases h0 : a = 0
  · rw [if_pos ((pd_n ha).mpr h0)]
    unfold opl
    rw [if_pos h0, List.append_nil]
  · rw [if_neg (fun e => h0 ((pd_n ha).mp e)), c14, obs]
    unfold pd opl
    rw [if_neg h0, if_neg h0, C_emit (h h0), cN_mk]
theorem C_sum7 {fS : Nat → Int32 → AH → Option (Int32 × AH)} {af : Nat → PR} {d : Nat} (hT : TC m t N) (hA : ∀ i c0, i ≤ N → c0.length ≤ i → KO n z D m j r (f_X2_readsAtom fS 14 (Int32.ofNat d) (mkH n z D (rs (lb m c0) 14 (Int32.ofNat i) w) j r)) (af i) w c0) (hP : ∀ i, i ≤ N → PA N i (af i) 1) : ∀ (fuel g1 g2 i cnt A S : Nat) (c0 : List Nat), N - i < fuel → N - i < g1 → N - i < g2 → i ≤ N → cnt + (N - i) ≤ 240 → A < 20000 → S < 20000 → c0.length + (if A = 0 then 0 else 1) + (if S = 0 then 0 else 1) ≤ i →
    KO n z D m j r (f_X2_readsSum_7 fS fuel 14 (Int32.ofNat d) (pd A) (pd S) (Int32.ofNat cnt) (mkH n z D (rs (lb m c0) 14 (Int32.ofNat i) w) j r)) (bnd (af i) fun c j => bnd (pTermR t N af g1 j) fun c1 j1 => bnd (pSumR t N af g2 j1) fun c2 j2 => .inr (c ++ opl S ++ c1 ++ opl A ++ c2, j2)) w c0 := by
  have hN := hT.2.1
  intro fuel
  induction fuel with
  | zero => intro g1 g2 i cnt A S c0 h; omega
  | succ f ih =>
    intro g1 g2 i cnt A S c0 hf hg1 hg2 hi hcnt hA2 hS2 hc0
    obtain ⟨g1', rfl⟩ : ∃ g, g1 = g + 1 := ⟨g1 - 1, by omega⟩
    obtain ⟨g2', rfl⟩ : ∃ g, g2 = g + 1 := ⟨g2 - 1, by omega⟩
    rw [f_X2_readsSum_7.eq_2, if_neg (by rw [l240, i_lt (by omega) (by omega)]; omega), c14, obs]
    have hm := hA i c0 hi (by omega)
    have hpa := hP i hi
    cases hx : af i with
    | inl e =>
      rw [hx] at hm
      obtain ⟨x, c, hv⟩ := hm
      rw [hv, cN_mk, if_pos (show Int32.ofNat 0 = 0 from rfl)]
      exact ⟨_, _, rfl⟩
    | inr q =>
      obtain ⟨c, j1⟩ := q
      rw [hx] at hm
      have hm' : f_X2_readsAtom fS 14 (Int32.ofNat d) (mkH n z D (rs (lb m c0) 14 (Int32.ofNat i) w) j r) = some (Int32.ofNat 1, mkH n z D (rs (lb m (c0 ++ c)) 14 (Int32.ofNat j1) w) j r) := hm
      have hj := hpa c j1 hx
      have hlen : (c0 ++ c).length = c0.length + c.length := List.length_append
      have hoS : (opl S).length = if S = 0 then 0 else 1 := by unfold opl; split <;> rfl
      have hoA : (opl A).length = if A = 0 then 0 else 1 := by unfold opl; split <;> rfl
      rw [hm', cN_mk, if_neg (show ¬ Int32.ofNat 1 = 0 by decide), C_emits hS2 (fun h => by rw [if_neg h] at hc0; omega)]
      generalize hcS : c0 ++ c ++ opl S = cS
      have hcSl : cS.length = c0.length + c.length + (if S = 0 then 0 else 1) := by rw [← hcS, List.length_append, hlen, hoS]
      have hTc := TC_lb (c := cS) hT
      have hs := sg_ltC (i := j1) hT
      have hk := sk_le (t := t) hj.2.1
      show KO n z D m j r (f_X2_readsSum_35 fS (f_X2_readsSum_7 fS f) 14 (Int32.ofNat d) (pd A) (Int32.ofNat cnt) (mkH n z D (rs (lb m cS) 14 (Int32.ofNat j1) w) j r)) (bnd (pTermR t N af (g1' + 1) j1) fun c1 j1 => bnd (pSumR t N af (g2' + 1) j1) fun c2 j2 => .inr (c ++ opl S ++ c1 ++ opl A ++ c2, j2)) w c0
      unfold f_X2_readsSum_35
      rw [c14, obs, C_sign o14 hTc hj.2.1, cN_mk, pTermR]
      by_cases hop : sg t N j1 = 42 ∨ sg t N j1 = 47
      · have hp := sg_pos (t := t) (N := N) (i := j1) (by omega)
        have h68 : (if sgI (sg t N j1) = 42 then f_X2_readsSum_68 fS (f_X2_readsSum_7 fS f) 14 (Int32.ofNat d) (pd A) (Int32.ofNat cnt) (sgI (sg t N j1)) 10008 (mkH n z D (rs (lb m cS) 14 (Int32.ofNat (sk t N j1)) w) j r) else if sgI (sg t N j1) = 47 then f_X2_readsSum_68 fS (f_X2_readsSum_7 fS f) 14 (Int32.ofNat d) (pd A) (Int32.ofNat cnt) (sgI (sg t N j1)) 10009 (mkH n z D (rs (lb m cS) 14 (Int32.ofNat (sk t N j1)) w) j r) else f_X2_readsSum_68 fS (f_X2_readsSum_7 fS f) 14 (Int32.ofNat d) (pd A) (Int32.ofNat cnt) (sgI (sg t N j1)) (-1) (mkH n z D (rs (lb m cS) 14 (Int32.ofNat (sk t N j1)) w) j r)) = f_X2_readsSum_7 fS f 14 (Int32.ofNat d) (pd A) (pd (opT (sg t N j1))) (Int32.ofNat (cnt + 1)) (mkH n z D (rs (lb m cS) 14 (Int32.ofNat (sk t N j1 + 1)) w) j r) := by
          have hgo : ∀ op : Nat, op = opT (sg t N j1) → f_X2_readsSum_68 fS (f_X2_readsSum_7 fS f) 14 (Int32.ofNat d) (pd A) (Int32.ofNat cnt) (sgI (sg t N j1)) (Int32.ofNat op) (mkH n z D (rs (lb m cS) 14 (Int32.ofNat (sk t N j1)) w) j r) = f_X2_readsSum_7 fS f 14 (Int32.ofNat d) (pd A) (pd (opT (sg t N j1))) (Int32.ofNat (cnt + 1)) (mkH n z D (rs (lb m cS) 14 (Int32.ofNat (sk t N j1 + 1)) w) j r) := by
            intro op hop'
            have hob : op = 10008 ∨ op = 10009 := by rw [hop']; unfold opT; split <;> omega
            unfold f_X2_readsSum_68 f_X2_readsSum_119
            rw [if_neg (show ¬ Int32.ofNat op = -1 from fun h => (no1_ne (by omega)).mp h)]
            have epd : pd (opT (sg t N j1)) = Int32.ofNat op := by rw [← hop']; exact if_neg (by omega)
            have g1 : gI [2] (mkH n z D (rs (lb m cS) 14 (Int32.ofNat (sk t N j1)) w) j r) 14 1 = some (Int32.ofNat (sk t N j1)) := by rw [gI_mk (ci := 2) rfl (by decide) rfl, rs_1]
            have g2 : ∀ x, pV [2] (mkH n z D (rs (lb m cS) 14 (Int32.ofNat (sk t N j1)) w) j r) 14 1 (.int x) = some (mkH n z D (rs (lb m cS) 14 x w) j r) := fun x => by rw [pI_mk (ci := 2) rfl (by decide) rfl, v1]
            rw [epd, g1, obs, l1, i_add, g2, obs, i_add]
          by_cases h42 : sg t N j1 = 42
          · rw [if_pos (show sgI (sg t N j1) = 42 by rw [l42]; exact (sgI_c hs (by omega) (by omega)).mpr h42)]
            exact hgo 10008 (by unfold opT; rw [if_pos h42])
          · rw [if_neg (show ¬ sgI (sg t N j1) = 42 by rw [l42]; exact fun h => h42 ((sgI_c hs (by omega) (by omega)).mp h)), if_pos (show sgI (sg t N j1) = 47 by rw [l47]; exact (sgI_c hs (by omega) (by omega)).mpr (by omega))]
            exact hgo 10009 (by unfold opT; rw [if_neg h42])
        rw [h68, if_pos hop]
        have hotb : opT (sg t N j1) ≠ 0 ∧ opT (sg t N j1) < 20000 := by unfold opT; split <;> omega
        have hih := ih g1' (g2' + 1) (sk t N j1 + 1) (cnt + 1) A (opT (sg t N j1)) cS (by omega) (by omega) (by omega) (by omega) (by omega) hA2 hotb.2 (by rw [if_neg hotb.1]; split at hc0 <;> split at hc0 <;> simp_all <;> omega)
        have hcS' : c0 ++ (c ++ opl S) = cS := by rw [← hcS, List.append_assoc]
        rw [← hcS'] at hih
        have := KO_pre hih
        rw [hcS'] at this
        have hre : ∀ (X : PR), (bnd (bnd X fun c j => bnd (pTermR t N af g1' j) fun c1 k1 => bnd (pSumR t N af (g2' + 1) k1) fun c2 j2 => .inr (c ++ opl (opT (sg t N j1)) ++ c1 ++ opl A ++ c2, j2)) fun c' j' => .inr (c ++ opl S ++ c', j')) = bnd (bnd X fun c_1 j => bnd (pTermR t N af g1' j) fun c' j' => .inr (c_1 ++ [opT (sg t N j1)] ++ c', j')) fun c1 j1 => bnd (pSumR t N af (g2' + 1) j1) fun c2 j2 => .inr (c ++ opl S ++ c1 ++ opl A ++ c2, j2) := by
          intro X
          have ho : opl (opT (sg t N j1)) = [opT (sg t N j1)] := if_neg hotb.1
          rw [ho]
          cases X with
          | inl e => rfl
          | inr q =>
            simp only [bnd_r]
            cases pTermR t N af g1' q.2 with
            | inl e => rfl
            | inr q2 =>
              simp only [bnd_r]
              cases pSumR t N af (g2' + 1) q2.2 with
              | inl e => rfl
              | inr q3 => simp [bnd]
        rw [hre] at this
        exact this
      · have hn42 : ¬ sgI (sg t N j1) = 42 := by rw [l42]; exact fun h => hop (Or.inl ((sgI_c hs (by omega) (by omega)).mp h))
        have hn47 : ¬ sgI (sg t N j1) = 47 := by rw [l47]; exact fun h => hop (Or.inr ((sgI_c hs (by omega) (by omega)).mp h))
        rw [if_neg hn42, if_neg hn47, if_neg hop]
        unfold f_X2_readsSum_68
        rw [if_pos rfl, C_emits hA2 (fun h => by rw [if_neg h] at hc0; omega)]
        generalize hcA : cS ++ opl A = cA
        have hcAl : cA.length = c0.length + c.length + (if S = 0 then 0 else 1) + (if A = 0 then 0 else 1) := by rw [← hcA, List.length_append, hcSl, hoA]
        show KO n z D m j r (f_X2_readsSum_84 fS (f_X2_readsSum_7 fS f) 14 (Int32.ofNat d) (-1) (Int32.ofNat cnt) (sgI (sg t N j1)) (mkH n z D (rs (lb m cA) 14 (Int32.ofNat (sk t N j1)) w) j r)) (bnd (pSumR t N af (g2' + 1) (sk t N j1)) fun c2 j2 => .inr (c ++ opl S ++ [] ++ opl A ++ c2, j2)) w c0
        rw [pSumR, sg_sk hj.2.1, sk_sk hj.2.1]
        by_cases hos : sg t N j1 = 43 ∨ sg t N j1 = 45
        · have hp := sg_pos (t := t) (N := N) (i := j1) (by omega)
          have h84 : f_X2_readsSum_84 fS (f_X2_readsSum_7 fS f) 14 (Int32.ofNat d) (-1) (Int32.ofNat cnt) (sgI (sg t N j1)) (mkH n z D (rs (lb m cA) 14 (Int32.ofNat (sk t N j1)) w) j r) = f_X2_readsSum_7 fS f 14 (Int32.ofNat d) (pd (opS (sg t N j1))) (pd 0) (Int32.ofNat (cnt + 1)) (mkH n z D (rs (lb m cA) 14 (Int32.ofNat (sk t N j1 + 1)) w) j r) := by
            have hgo : ∀ op : Nat, op = opS (sg t N j1) → f_X2_readsSum_111 fS (f_X2_readsSum_7 fS f) 14 (Int32.ofNat d) (-1) (Int32.ofNat cnt) (Int32.ofNat op) (mkH n z D (rs (lb m cA) 14 (Int32.ofNat (sk t N j1)) w) j r) = f_X2_readsSum_7 fS f 14 (Int32.ofNat d) (pd (opS (sg t N j1))) (pd 0) (Int32.ofNat (cnt + 1)) (mkH n z D (rs (lb m cA) 14 (Int32.ofNat (sk t N j1 + 1)) w) j r) := by
              intro op hop'
              have hob : op = 10006 ∨ op = 10007 := by rw [hop']; unfold opS; split <;> omega
              unfold f_X2_readsSum_111 f_X2_readsSum_119
              rw [if_neg (show ¬ Int32.ofNat op = -1 from fun h => (no1_ne (by omega)).mp h)]
              have epd : pd (opS (sg t N j1)) = Int32.ofNat op := by rw [← hop']; exact if_neg (by omega)
              have ep0 : pd 0 = -1 := rfl
              have g1 : gI [2] (mkH n z D (rs (lb m cA) 14 (Int32.ofNat (sk t N j1)) w) j r) 14 1 = some (Int32.ofNat (sk t N j1)) := by rw [gI_mk (ci := 2) rfl (by decide) rfl, rs_1]
              have g2 : ∀ x, pV [2] (mkH n z D (rs (lb m cA) 14 (Int32.ofNat (sk t N j1)) w) j r) 14 1 (.int x) = some (mkH n z D (rs (lb m cA) 14 x w) j r) := fun x => by rw [pI_mk (ci := 2) rfl (by decide) rfl, v1]
              rw [epd, ep0, g1, obs, l1, i_add, g2, obs, i_add]
            unfold f_X2_readsSum_84
            by_cases h43 : sg t N j1 = 43
            · rw [if_pos (show sgI (sg t N j1) = 43 by rw [l43]; exact (sgI_c hs (by omega) (by omega)).mpr h43)]
              exact hgo 10006 (by unfold opS; rw [if_pos h43])
            · rw [if_neg (show ¬ sgI (sg t N j1) = 43 by rw [l43]; exact fun h => h43 ((sgI_c hs (by omega) (by omega)).mp h)), if_pos (show sgI (sg t N j1) = 45 by rw [l45]; exact (sgI_c hs (by omega) (by omega)).mpr (by omega))]
              exact hgo 10007 (by unfold opS; rw [if_neg h43])
          rw [h84, if_pos hos]
          have hosb : opS (sg t N j1) ≠ 0 ∧ opS (sg t N j1) < 20000 := by unfold opS; split <;> omega
          have hih := ih 300 g2' (sk t N j1 + 1) (cnt + 1) (opS (sg t N j1)) 0 cA (by omega) (by omega) (by omega) (by omega) (by omega) hosb.2 (by omega) (by rw [if_neg hosb.1, if_pos rfl]; split at hc0 <;> split at hc0 <;> simp_all <;> omega)
          have hcA' : c0 ++ (c ++ (opl S ++ opl A)) = cA := by rw [← hcA, ← hcS, List.append_assoc, List.append_assoc]
          rw [← hcA'] at hih
          have := KO_pre hih
          rw [hcA'] at this
          have hre : ∀ (X : PR), (bnd (bnd X fun c j => bnd (pTermR t N af 300 j) fun c1 k1 => bnd (pSumR t N af g2' k1) fun c2 j2 => .inr (c ++ opl 0 ++ c1 ++ opl (opS (sg t N j1)) ++ c2, j2)) fun c' j' => .inr (c ++ (opl S ++ opl A) ++ c', j')) = bnd (bnd (bnd X fun c j => bnd (pTermR t N af 300 j) fun c' j' => .inr (c ++ c', j')) fun c j => bnd (pSumR t N af g2' j) fun c' j' => .inr (c ++ [opS (sg t N j1)] ++ c', j')) fun c2 j2 => .inr (c ++ opl S ++ [] ++ opl A ++ c2, j2) := by
            intro X
            have ho : opl (opS (sg t N j1)) = [opS (sg t N j1)] := if_neg hosb.1
            have ho0 : opl 0 = [] := rfl
            rw [ho, ho0]
            cases X with
            | inl e => rfl
            | inr q =>
              simp only [bnd_r]
              cases pTermR t N af 300 q.2 with
              | inl e => rfl
              | inr q2 =>
                simp only [bnd_r]
                cases pSumR t N af g2' q2.2 with
                | inl e => rfl
                | inr q3 => simp [bnd]
          rw [hre] at this
          unfold pTerm
          exact this
        · rw [if_neg hos]
          unfold f_X2_readsSum_84
          rw [if_neg (show ¬ sgI (sg t N j1) = 43 by rw [l43]; exact fun h => hos (Or.inl ((sgI_c hs (by omega) (by omega)).mp h))), if_neg (show ¬ sgI (sg t N j1) = 45 by rw [l45]; exact fun h => hos (Or.inr ((sgI_c hs (by omega) (by omega)).mp h)))]
          unfold f_X2_readsSum_111
          rw [if_pos rfl]
          show some (1, _) = some (Int32.ofNat 1, mkH n z D (rs (lb m (c0 ++ (c ++ opl S ++ [] ++ opl A ++ []))) 14 (Int32.ofNat (sk t N j1)) w) j r)
          rw [← hcA, ← hcS]
          simp [l1]
end CSM
