/-! The class reads a law: the whole. -/
theorem OKp {t : Nat → Nat} {N i : Nat} {L : Nat → Int} (ht : ∀ q, q < N → 1 ≤ t q ∧ t q < 256) (hN : N ≤ 240) (hL : ∀ k, k < 6 → -1000000 ≤ L k ∧ L k ≤ 1000000) (hi : i ≤ N) : OKc L N i (pCl t N i) := by
  let m0 : MI := fun a i => if a = 72 then (if i = 8 then Int32.ofNat 0 else Int32.ofNat N) else if a = 76 then (if i = 109 then Int32.ofInt (L 0) else if i = 103 then Int32.ofInt (L 1) else if i = 119 then Int32.ofInt (L 2) else if i = 115 then Int32.ofInt (L 3) else if i = 110 then Int32.ofInt (L 4) else Int32.ofInt (L 5)) else nar 1 (Int32.ofNat (t i))
  have hT : TX m0 (fun _ _ => some 73) t N 73 0 := by
    refine ⟨rfl, rfl, rfl, hN, Or.inl ⟨rfl, rfl⟩, fun q hq => ⟨?_, ht q hq⟩⟩
    show nar 1 (Int32.ofNat (t (0 + q))) = _
    rw [Nat.zero_add]
  have hL0 : LT m0 L := ⟨hL, rfl, rfl, rfl, rfl, rfl, rfl⟩
  exact OK_cl (D := fun _ => none) (fun _ _ => rfl) hT hL0 hi
def cdB (cc sc : List Nat) : List Nat := if cc = [] then sc else cc ++ (10016 :: sc)
def cdP : List (List Nat × List Nat) → List Nat
  | [] => []
  | q :: cl => cdB q.1 q.2 ++ (10017 :: cdP cl)
section CWH
variable {n z : Nat} {D : Dyn} {m : MI} {j : MJ} {r : MR} {t : Nat → Nat} {N i : Nat} {w : Int32}
def KB (n z : Nat) (D : Dyn) (m : MI) (j : MJ) (r : MR) (res : Option (Int32 × AH)) (p : PC) (w : Int32) (c0 : List Nat) : Prop := match p with
  | .inl e => ∃ x c, res = some (Int32.ofNat 0, mkH n z D (rs (lb m c) 14 x (Int32.ofNat e)) j r)
  | .inr q => res = some (Int32.ofNat 1, mkH n z D (rs (lb m (c0 ++ cdB q.1 q.2.1)) 14 (Int32.ofNat q.2.2) w) j r)
def pTl (t : Nat → Nat) (N : Nat) (x : PR) : PC := match x with
  | .inl e => .inl e
  | .inr q => pTail t N q.1 q.2
theorem C_46 {c0 cc : List Nat} {lr : Int32} {mm : MI} {jj : Nat} (hD : ∀ a, 1000000 ≤ a → D a = none) (hT : TC m t N) (x : PR) (hx : KO n z D m j r (f_X2_readsCondition (r_X2_readsUnit (7 + 1)) 14 (Int32.ofNat 0) lr (mkH n z D mm j r)) x w c0) (hb : ∀ c j, x = .inr (c, j) → c ≠ [] ∧ j ≤ N ∧ c0.length + c.length ≤ j) : KB n z D m j r (f_X2_readsBody_46 14 14 0 lr (mkH n z D mm j r)) (pTl t N x) w c0 := by
  have hN := hT.2.1
  have hfs : ∀ x h, fc_X2_readsSum 14 x h = r_X2_readsSum (7 + 1) 14 x h := fun _ _ => rfl
  have hfc : ∀ x y h, fc_X2_readsCondition 14 x y h = f_X2_readsCondition (r_X2_readsUnit (7 + 1)) 14 x y h := fun _ _ _ => rfl
  unfold f_X2_readsBody_46
  rw [c14, obs, hfc, l0]
  cases x with
  | inl e =>
    obtain ⟨x, c, hv⟩ := hx
    rw [hv, cN_mk, if_pos (show Int32.ofNat 0 = Int32.ofNat 0 from rfl)]
    exact ⟨_, _, rfl⟩
  | inr q =>
    obtain ⟨c, j1⟩ := q
    obtain ⟨hne, hj, hl⟩ := hb c j1 rfl
    have hv : f_X2_readsCondition (r_X2_readsUnit (7 + 1)) 14 (Int32.ofNat 0) lr (mkH n z D mm j r) = some (Int32.ofNat 1, mkH n z D (rs (lb m (c0 ++ c)) 14 (Int32.ofNat j1) w) j r) := hx
    have hTc := TC_lb (c := c0 ++ c) hT
    have hk := sk_le (t := t) hj
    rw [hv, cN_mk, if_neg (show ¬ Int32.ofNat 1 = Int32.ofNat 0 by decide), c14, obs, l63, C_takes o14 hTc hj (by omega) (by omega)]
    show KB n z D m j r _ (pTail t N c j1) w c0
    unfold pTail
    by_cases hq : sg t N j1 = 63
    · have hp := sg_pos (t := t) (N := N) (i := j1) (by omega)
      have hlen : (c0 ++ c).length = c0.length + c.length := List.length_append
      have hlen2 : (c0 ++ c ++ [10016]).length = c0.length + c.length + 1 := by rw [List.length_append, hlen]; rfl
      rw [if_pos hq, if_pos hq, cN_mk, if_neg (show ¬ Int32.ofNat 1 = Int32.ofNat 0 by decide), c14, obs, l10016, C_emit (by omega), cN_mk, c14, obs, hfs]
      have hm := C_sum (n := n) (z := z) (D := D) (j := j) (r := r) (w := w) hD hT 6 7 (sk t N j1 + 1) 0 (c0 ++ c ++ [10016]) (by omega) (by omega) (by omega) (by omega)
      cases hs : pSum t N 6 (sk t N j1 + 1) with
      | inl e =>
        rw [hs] at hm
        obtain ⟨x, c', hv⟩ := hm
        rw [hv, cN_mk, rZ0]
        exact ⟨_, _, rfl⟩
      | inr q =>
        obtain ⟨sc, j2⟩ := q
        rw [hs] at hm
        have hv2 : r_X2_readsSum (7 + 1) 14 (Int32.ofNat 0) (mkH n z D (rs (lb m (c0 ++ c ++ [10016])) 14 (Int32.ofNat (sk t N j1 + 1)) w) j r) = some (Int32.ofNat 1, mkH n z D (rs (lb m (c0 ++ c ++ [10016] ++ sc)) 14 (Int32.ofNat j2) w) j r) := hm
        rw [hv2, cN_mk, rZ1]
        show _ = some (Int32.ofNat 1, mkH n z D (rs (lb m (c0 ++ cdB c sc)) 14 (Int32.ofNat j2) w) j r)
        unfold cdB
        rw [if_neg hne]
        simp
    · rw [if_neg hq, if_neg hq, cN_mk, if_pos (show Int32.ofNat 0 = Int32.ofNat 0 from rfl)]
      exact ⟨_, _, rfl⟩
theorem C_body {c0 : List Nat} (hD : ∀ a, 1000000 ≤ a → D a = none) (hT : TC m t N) (hi : i ≤ N) (hc0 : c0.length ≤ i) : KB n z D m j r (f_X2_readsBody 14 (mkH n z D (rs (lb m c0) 14 (Int32.ofNat i) w) j r)) (pBody t N i) w c0 := by
  have hTl := TC_lb (c := c0) hT
  have hN := hT.2.1
  have hs := sg_ltC (i := i) hT
  have hk := sk_le (t := t) hi
  have hfs : ∀ x h, fc_X2_readsSum 14 x h = r_X2_readsSum (7 + 1) 14 x h := fun _ _ => rfl
  have hPU : ∀ i, i ≤ N → PA N i (pUnit t N 6 i) 1 := fun i hi => PA_unit 6 i hi
  have hU : ∀ i c0, i ≤ N → c0.length ≤ i → KO n z D m j r (r_X2_readsUnit (7 + 1) 14 (Int32.ofNat 0) 0 (mkH n z D (rs (lb m c0) 14 (Int32.ofNat i) w) j r)) (pUnit t N 6 i) w c0 := fun i c0 hi hc => C_unit hD hT 6 7 i 0 c0 (by omega) (by omega) hi hc
  unfold f_X2_readsBody f_X2_readsBody_0 pBody
  rw [c14, obs, C_sign o14 hTl hi, cN_mk, C_starts hs, cN_mk]
  by_cases hu : sg t N i = 33 ∨ sg t N i = 40
  · rw [if_neg (by simp [hu, bI]), if_pos hu]
    unfold f_X2_readsBody_35
    rw [if_neg (by simp [hu, bI])]
    show KB n z D m j r _ (pTl t N (pCond t N (pUnit t N 6) (pUnit t N 6 (sk t N i)))) w c0
    refine C_46 (cc := []) (jj := 0) hD hT _ (C_condX hT hU hPU hk.2 (by omega) (hU (sk t N i) c0 hk.2 (by omega)) (hPU _ hk.2)) (fun c j h => ?_)
    have := PA_cond (t := t) hPU (hPU _ hk.2) c j h
    exact ⟨by intro e; rw [e] at this; simp at this, this.2.1, by omega⟩
  · rw [if_pos (by simp [hu, bI]), if_neg hu, c14, obs, hfs, l0]
    have hm := C_sum (n := n) (z := z) (D := D) (j := j) (r := r) (w := w) hD hT 6 7 (sk t N i) 0 c0 (by omega) (by omega) hk.2 (by omega)
    have hpa := PA_sum (t := t) (N := N) 6 (sk t N i) hk.2
    cases hx : pSum t N 6 (sk t N i) with
    | inl e =>
      rw [hx] at hm
      obtain ⟨x, c', hv⟩ := hm
      rw [hv, cN_mk, if_pos (show Int32.ofNat 0 = Int32.ofNat 0 from rfl)]
      exact ⟨_, _, rfl⟩
    | inr q =>
      obtain ⟨c, j1⟩ := q
      rw [hx] at hm
      have hm' : r_X2_readsSum (7 + 1) 14 (Int32.ofNat 0) (mkH n z D (rs (lb m c0) 14 (Int32.ofNat (sk t N i)) w) j r) = some (Int32.ofNat 1, mkH n z D (rs (lb m (c0 ++ c)) 14 (Int32.ofNat j1) w) j r) := hm
      have hj := hpa c j1 hx
      have hl : (c0 ++ c).length = c0.length + c.length := List.length_append
      have hTc := TC_lb (c := c0 ++ c) hT
      have hs1 := sg_ltC (i := j1) hT
      have hk1 := sk_le (t := t) hj.2.1
      have hob := opC_b (s := sg t N j1)
      rw [hm', cN_mk, if_neg (show ¬ Int32.ofNat 1 = Int32.ofNat 0 by decide), c14, obs, C_sign o14 hTc hj.2.1, cN_mk, C_comp hs1, cN_mk]
      dsimp only
      by_cases hop : sg t N j1 = 60 ∨ sg t N j1 = 61 ∨ sg t N j1 = 62
      · rw [if_pos hop, if_neg (fun h => by have := (pd_n (by omega)).mp h; omega), if_pos hop]
        unfold f_X2_readsBody_35
        rw [if_pos (by simp [hu, bI, l0])]
        have hfirst : KO n z D m j r (r_X2_readsUnit (7 + 1) 14 (Int32.ofNat 0) 1 (mkH n z D (rs (lb m (c0 ++ c)) 14 (Int32.ofNat (sk t N j1)) w) j r)) (pCmpR t N 6 c (sk t N j1)) w c0 := by
          rw [r_X2_readsUnit]
          unfold f_X2_readsUnit f_X2_readsUnit_0
          rw [if_neg (by decide)]
          exact C_u33 hD hT (by omega) hk1.2 (by omega)
        have hPx : PA N (sk t N i) (pCmpR t N 6 c (sk t N j1)) 1 := fun c' j' h => PA_cmpR (t := t) (k := 6) (i := sk t N i) hk1.2 (by omega) c' j' h
        show KB n z D m j r _ (pTl t N (pCond t N (pUnit t N 6) (pCmpR t N 6 c (sk t N j1)))) w c0
        refine C_46 (cc := []) (jj := 0) hD hT _ (C_condX hT hU hPU hk.2 (by omega) hfirst hPx) (fun c' j' h => ?_)
        have := PA_cond (t := t) hPU hPx c' j' h
        exact ⟨by intro e; rw [e] at this; simp at this, this.2.1, by omega⟩
      · rw [if_neg hop, if_pos (show pd 0 = -1 from rfl), if_neg hop]
        rfl
def KL (n z : Nat) (D : Dyn) (m : MI) (j : MJ) (r : MR) (res : Option (Int32 × AH)) (p : Nat ⊕ List (List Nat × List Nat)) (w : Int32) (c0 : List Nat) : Prop := match p with
  | .inl e => ∃ x c, res = some (Int32.ofNat 0, mkH n z D (rs (lb m c) 14 x (Int32.ofNat e)) j r)
  | .inr cl => (c0 ++ cdP cl).length ≤ 240 ∧ ∃ x, res = some (Int32.ofNat 1, mkH n z D (rs (lb m (c0 ++ cdP cl)) 14 x w) j r)
theorem C_reads11 (hD : ∀ a, 1000000 ≤ a → D a = none) (hT : TC m t N) : ∀ (fuel g i cnt : Nat) (c0 : List Nat), N - i < fuel → N - i < g → i ≤ N → cnt + (N - i) ≤ 240 → c0.length ≤ i → KL n z D m j r (f_X2_reads_11 fuel 14 (Int32.ofNat cnt) (mkH n z D (rs (lb m c0) 14 (Int32.ofNat i) w) j r)) (pLw t N g i) w c0 := by
  have hN := hT.2.1
  have ht : ∀ q, q < N → 1 ≤ t q ∧ t q < 256 := fun q hq => (hT.2.2 q hq).2
  intro fuel
  induction fuel with
  | zero => intro g i cnt c0 h; omega
  | succ f ih =>
    intro g i cnt c0 hf hg hi hcnt hc0
    obtain ⟨g', rfl⟩ : ∃ g', g = g' + 1 := ⟨g - 1, by omega⟩
    have hTl := TC_lb (c := c0) hT
    have hk := sk_le (t := t) hi
    rw [f_X2_reads_11.eq_2, if_neg (by rw [l240, i_lt (by omega) (by omega)]; omega), c14, obs, l121, C_takes o14 hTl hi (by omega) (by omega), pLw_eq]
    have hok := OKp (L := fun _ => 0) ht hN (fun _ _ => ⟨by omega, by omega⟩) hi
    unfold pCl at hok ⊢
    by_cases h1 : sg t N i = 121
    · have hp1 := sg_pos (t := t) (N := N) (i := i) (by omega)
      have hk1 := sk_le (t := t) (N := N) (i := sk t N i + 1) (by omega)
      rw [if_pos h1] at hok
      rw [if_pos h1, if_pos h1, cN_mk, if_neg (show ¬ Int32.ofNat 1 = 0 by decide), c14, obs, l58, C_takes o14 hTl (by omega) (by omega) (by omega)]
      by_cases h2 : sg t N (sk t N i + 1) = 58
      · have hp2 := sg_pos (t := t) (N := N) (i := sk t N i + 1) (by omega)
        rw [if_pos h2] at hok
        rw [if_pos h2, if_pos h2, cN_mk, if_neg (show ¬ Int32.ofNat 1 = 0 by decide), c14, obs]
        have hb := C_body (n := n) (z := z) (D := D) (m := m) (j := j) (r := r) (w := w) (c0 := c0) hD hT (show sk t N (sk t N i + 1) + 1 ≤ N by omega) (by omega)
        cases hq : pBody t N (sk t N (sk t N i + 1) + 1) with
        | inl e =>
          rw [hq] at hb
          obtain ⟨x, c, hv⟩ := hb
          rw [hv, cN_mk, if_pos (show Int32.ofNat 0 = 0 from rfl)]
          exact ⟨_, _, rfl⟩
        | inr q =>
          obtain ⟨cc, sc, j1⟩ := q
          rw [hq] at hb hok
          have hv : f_X2_readsBody 14 (mkH n z D (rs (lb m c0) 14 (Int32.ofNat (sk t N (sk t N i + 1) + 1)) w) j r) = some (Int32.ofNat 1, mkH n z D (rs (lb m (c0 ++ cdB cc sc)) 14 (Int32.ofNat j1) w) j r) := hb
          obtain ⟨_, _, hl, hj1⟩ := hok cc sc j1 rfl
          have hcl : (cdB cc sc).length = cc.length + sc.length + (if cc = [] then 0 else 1) := by
            unfold cdB
            split
            · rename_i hcc; rw [hcc]; simp
            · simp; omega
          have hlen : (c0 ++ cdB cc sc).length = c0.length + (cdB cc sc).length := List.length_append
          have hlen2 : (c0 ++ cdB cc sc ++ [10017]).length = c0.length + (cdB cc sc).length + 1 := by rw [List.length_append, hlen]; rfl
          have hTc := TC_lb (c := c0 ++ cdB cc sc ++ [10017]) hT
          have hs1 := sg_ltC (i := j1) hT
          have hk3 := sk_le (t := t) hj1
          rw [hv, cN_mk, if_neg (show ¬ Int32.ofNat 1 = 0 by decide), c14, obs, l10017, C_emit (by omega), cN_mk, c14, obs, C_sign o14 hTc hj1, cN_mk]
          dsimp only
          unfold pRest
          by_cases h0 : sg t N j1 = 0
          · rw [if_pos (show sgI (sg t N j1) = -1 from (sgI_n hs1).mpr h0), if_pos h0]
            refine ⟨?_, Int32.ofNat (sk t N j1), ?_⟩
            · simp only [cdP, List.length_append, List.length_cons, List.length_nil]
              omega
            · simp [cdP, l1]
          · rw [if_neg (show ¬ sgI (sg t N j1) = -1 from fun h => h0 ((sgI_n hs1).mp h)), if_neg h0, c14, obs, l59, C_takes o14 hTc hk3.2 (by omega) (by omega), sg_sk hj1, sk_sk hj1]
            by_cases h59 : sg t N j1 = 59
            · have hp3 := sg_pos (t := t) (N := N) (i := j1) (by omega)
              rw [if_pos h59, if_pos h59, cN_mk, if_neg (show ¬ Int32.ofNat 1 = 0 by decide), l1, i_add]
              have hih := ih g' (sk t N j1 + 1) (cnt + 1) (c0 ++ cdB cc sc ++ [10017]) (by omega) (by omega) (by omega) (by omega) (by omega)
              cases hr : pLw t N g' (sk t N j1 + 1) with
              | inl e =>
                rw [hr] at hih
                exact hih
              | inr cl =>
                rw [hr] at hih
                obtain ⟨hl2, x, hx⟩ := hih
                have e2 : c0 ++ cdB cc sc ++ [10017] ++ cdP cl = c0 ++ cdP ((cc, sc) :: cl) := by simp [cdP]
                rw [e2] at hl2 hx
                exact ⟨hl2, x, hx⟩
            · rw [if_neg h59, if_neg h59, cN_mk, if_pos (show Int32.ofNat 0 = 0 from rfl)]
              exact ⟨_, _, rfl⟩
      · rw [if_neg h2, if_neg h2, cN_mk, if_pos (show Int32.ofNat 0 = 0 from rfl)]
        exact ⟨_, _, rfl⟩
    · rw [if_neg h1, if_neg h1, cN_mk, if_pos (show Int32.ofNat 0 = 0 from rfl)]
      exact ⟨_, _, rfl⟩
/-- the class's reader of laws -/
theorem C_reads (hD : ∀ a, 1000000 ≤ a → D a = none) (hT : TC m t N) : ∃ m', f_X2_reads 14 (mkH n z D m j r) = some (bI (match pLw t N 300 0 with | .inl _ => false | .inr _ => true), mkH n z D m' j r) ∧ (∀ a, a ≠ 14 → a ≠ 15 → m' a = m a) ∧ (match pLw t N 300 0 with
      | .inl e => m' 14 2 = Int32.ofNat e
      | .inr cl => (cdP cl).length ≤ 240 ∧ m' 14 4 = Int32.ofNat (cdP cl).length ∧ (∀ q, q < (cdP cl).length → m' 15 q = Int32.ofNat ((cdP cl).getD q 0))) := by
  have hN := hT.2.1
  have h := C_reads11 (n := n) (z := z) (D := D) (m := m) (j := j) (r := r) (w := no1) hD hT fu 300 0 0 [] (by unfold fu; omega) (by omega) (Nat.zero_le _) (by omega) (by simp)
  have hst : f_X2_reads 14 (mkH n z D m j r) = f_X2_reads_11 fu 14 (Int32.ofNat 0) (mkH n z D (rs (lb m []) 14 (Int32.ofNat 0) no1) j r) := by
    have hmem : wI (wI (wI m 14 1 (Int32.ofNat 0)) 14 2 no1) 14 4 (Int32.ofNat 0) = rs (lb m []) 14 (Int32.ofNat 0) no1 := by
      funext a q
      by_cases h14 : a = 14
      · subst h14
        by_cases h4 : q = 4
        · subst h4; rw [wI_se, rs_o (by omega) (by omega), lb_4]; rfl
        rw [wI_sn h4]
        by_cases h2 : q = 2
        · subst h2; rw [wI_se, rs_2]
        rw [wI_sn h2]
        by_cases h1 : q = 1
        · subst h1; rw [wI_se, rs_1]
        rw [wI_sn h1, rs_o h1 h2, lb_o h4]
      · rw [wI_ne h14, wI_ne h14, wI_ne h14, rs_a h14]
        by_cases h15 : a = 15
        · subst h15; rw [lb_15]; simp
        · rw [lb_a h14 h15]
    rw [← hmem]
    unfold f_X2_reads f_X2_reads_0 f_X5_start f_X5_start_0
    simp (disch := omega) only [obs, cN_mk, ite_true, ite_false, if_true, if_false, q14, l0, l1, no1_e]
  rw [hst]
  cases hr : pLw t N 300 0 with
  | inl e =>
    rw [hr] at h
    obtain ⟨x, c, hv⟩ := h
    refine ⟨_, hv, fun a h1 h2 => by rw [rs_a h1, lb_a h1 h2], rs_2⟩
  | inr cl =>
    rw [hr] at h
    obtain ⟨hl, x, hv⟩ := h
    rw [List.nil_append] at hl hv
    refine ⟨_, hv, fun a h1 h2 => by rw [rs_a h1, lb_a h1 h2], hl, by rw [rs_o (by omega) (by omega), lb_4], fun q hq => by rw [rs_a (by omega), lb_15, if_pos hq]⟩
end CWH
