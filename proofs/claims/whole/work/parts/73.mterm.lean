/-! The model reads a law: terms, sums, conditions. -/
section MCND
variable {n z : Nat} {D : Dyn} {m : MI} {j : MJ} {r : MR} {t : Nat → Nat} {N a b i : Nat} {L : Nat → Int}
theorem mul_b {a b : Int} (ha : -1000000 ≤ a ∧ a ≤ 1000000) (hb : -1000000 ≤ b ∧ b ≤ 1000000) : -1000000000000 ≤ a * b ∧ a * b ≤ 1000000000000 := by
  have h1 : a.natAbs ≤ 1000000 := by omega
  have h2 : b.natAbs ≤ 1000000 := by omega
  have h3 : (a * b).natAbs ≤ 1000000 * 1000000 := by
    rw [Int.natAbs_mul]
    exact Nat.mul_le_mul h1 h2
  omega
theorem tdiv_b {a b : Int} (ha : -1000000 ≤ a ∧ a ≤ 1000000) : -1000000 ≤ a.tdiv b ∧ a.tdiv b ≤ 1000000 := by
  have h1 : a.natAbs ≤ 1000000 := by omega
  have h3 : (a.tdiv b).natAbs ≤ 1000000 := by
    rw [Int.natAbs_tdiv]
    exact Nat.le_trans (Nat.div_le_self _ _) h1
  omega
theorem oj_mul {a b : Int} (ha : -1000000 ≤ a ∧ a ≤ 1000000) (hb : -1000000 ≤ b ∧ b ≤ 1000000) : (Int32.ofInt a).toInt64 * (Int32.ofInt b).toInt64 = Int64.ofInt (a * b) := by
  have hm := mul_b ha hb
  rw [oi_64 (by omega), oi_64 (by omega)]
  apply Int64.toInt_inj.mp
  rw [Int64.toInt_mul, oj_int (by omega), oj_int (by omega), oj_int (by omega)]
  generalize a * b = c at *
  rw [Int.bmod_eq_of_le] <;> omega
theorem oj_add {a b : Int} (ha : -1000000 ≤ a ∧ a ≤ 1000000) (hb : -1000000 ≤ b ∧ b ≤ 1000000) : (Int32.ofInt a).toInt64 + (Int32.ofInt b).toInt64 = Int64.ofInt (a + b) := by
  rw [oi_64 (by omega), oi_64 (by omega)]
  apply Int64.toInt_inj.mp
  rw [Int64.toInt_add, oj_int (by omega), oj_int (by omega), oj_int (by omega), Int.bmod_eq_of_le] <;> omega
theorem oj_sub {a b : Int} (ha : -1000000 ≤ a ∧ a ≤ 1000000) (hb : -1000000 ≤ b ∧ b ≤ 1000000) : (Int32.ofInt a).toInt64 - (Int32.ofInt b).toInt64 = Int64.ofInt (a - b) := by
  rw [oi_64 (by omega), oi_64 (by omega)]
  apply Int64.toInt_inj.mp
  rw [Int64.toInt_sub, oj_int (by omega), oj_int (by omega), oj_int (by omega), Int.bmod_eq_of_le] <;> omega
theorem oj_div {a b : Int} (ha : -1000000 ≤ a ∧ a ≤ 1000000) (hb : -1000000 ≤ b ∧ b ≤ 1000000) : (Int32.ofInt a).toInt64 / (Int32.ofInt b).toInt64 = Int64.ofInt (a.tdiv b) := by
  have hm := tdiv_b (b := b) ha
  rw [oi_64 (by omega), oi_64 (by omega)]
  apply Int64.toInt_inj.mp
  rw [Int64.toInt_div, oj_int (by omega), oj_int (by omega), oj_int (by omega)]
  generalize a.tdiv b = c at *
  rw [Int.bmod_eq_of_le] <;> omega
theorem oj_0 {b : Int} (hb : -1000000 ≤ b ∧ b ≤ 1000000) : ((Int32.ofInt b).toInt64 = 0) ↔ b = 0 := by
  rw [oi_64 (by omega)]
  constructor
  · intro h
    have := congrArg Int64.toInt h
    rw [oj_int (by omega)] at this
    simpa using this
  · intro h
    rw [h]
    rfl
theorem lg_0 {y : Int64} : (lg_cmp y 0 = 0) ↔ y = 0 := by
  rw [lg_lt.2.2]
  exact ⟨fun h => Int64.toInt_inj.mp h, fun h => by rw [h]⟩
theorem MO_bnd {res : Option (Int32 × AH)} {x : PR} {d : Nat} {Q : List Nat → Int → Prop} {f : List Nat → Nat → PR} {e : Nat} (hx : x = .inl e) (h : e ≤ 1000 ∧ ∃ v y dd, res = some (v, mkH n z D (s3 m y (Int32.ofNat e) dd) j r)) : MO n z D m j r res (bnd x f) d Q := by
  subst hx
  exact h
/-- the rest of a term -/
theorem M_termR {fS : Nat → AH → Option (Int32 × AH)} {af : Nat → PR} {d H : Nat} (hT : TX m r t N a b) (hA : ∀ i, i ≤ N → MO n z D m j r (f_X12_atom fS 72 (mkH n z D (s3 m (Int32.ofNat i) no1 (Int32.ofNat d)) j r)) (af i) d (fun c v => Ev L c v H)) (hP : ∀ i, i ≤ N → PA N i (af i) 1) : ∀ (g i fuel : Nat) (c0 : List Nat) (v0 : Int), N - i < g → N - i < fuel → i ≤ N → Ev L c0 v0 (H + 1) →
    MO n z D m j r (f_X12_term_5 fS fuel 72 (Int32.ofInt v0) (mkH n z D (s3 m (Int32.ofNat i) no1 (Int32.ofNat d)) j r)) (bnd (pTermR t N af g i) fun c' j' => .inr (c0 ++ c', j')) d (fun c v => Ev L c v (H + 1)) := by
  intro g
  induction g with
  | zero => intro i fuel c0 v0 h; omega
  | succ g ih =>
    intro i fuel c0 v0 hg hf hi hE
    obtain ⟨f, rfl⟩ : ∃ f, fuel = f + 1 := ⟨fuel - 1, by omega⟩
    have hs := sg_lt hT hi
    have hk := sk_le (t := t) hi
    rw [f_X12_term_5.eq_2, pTermR]
    simp (disch := omega) only [obs, cN_mk, ite_true, ite_false, if_true, if_false, q72, s3_11, l1, no1_e, reduceIte, M_look hT hi, M_look hT hk.2, sk_sk, sg_sk, l42, l47, sgI_c]
    by_cases hop : sg t N i = 42 ∨ sg t N i = 47
    · have hp := sg_pos (t := t) (N := N) (i := i) (by omega)
      rw [if_pos hop]
      have hboth : (if sg t N i = 42 then f_X12_term_31 fS (f_X12_term_5 fS f) 72 (Int32.ofInt v0) (mkH n z D (s3 m (Int32.ofNat (sk t N i)) no1 (Int32.ofNat d)) j r) else if sg t N i = 47 then f_X12_term_31 fS (f_X12_term_5 fS f) 72 (Int32.ofInt v0) (mkH n z D (s3 m (Int32.ofNat (sk t N i)) no1 (Int32.ofNat d)) j r) else some (Int32.ofInt v0, mkH n z D (s3 m (Int32.ofNat (sk t N i)) no1 (Int32.ofNat d)) j r)) = f_X12_term_45 fS (f_X12_term_5 fS f) 72 (Int32.ofInt v0) (bI (decide (sg t N i = 42))) (mkH n z D (s3 m (Int32.ofNat (sk t N i)) no1 (Int32.ofNat d)) j r) := by
        unfold f_X12_term_31
        simp (disch := omega) only [obs, cN_mk, ite_true, ite_false, if_true, if_false, q72, M_look hT hk.2, sk_sk, sg_sk, l42, sgI_c, l1, l0]
        by_cases h42 : sg t N i = 42
        · simp [h42, bI]
        · have h47 : sg t N i = 47 := by omega
          simp [h47, bI]
      rw [hboth]
      unfold f_X12_term_45
      simp (disch := omega) only [obs, cN_mk, ite_true, ite_false, if_true, if_false, q72, s3_10, w10, l1, i_add]
      have hm := hA (sk t N i + 1) (by omega)
      have hpa := hP (sk t N i + 1) (by omega)
      cases hx : af (sk t N i + 1) with
      | inl e =>
        rw [hx] at hm
        obtain ⟨he, v, x, dd, hv⟩ := hm
        refine ⟨he, ?_⟩
        obtain ⟨f', hf'⟩ : ∃ f', f = f' + 1 := ⟨f - 1, by omega⟩
        have fin : ∀ y : Int64, ∃ v' x' dd', f_X12_term_87 fS (f_X12_term_5 fS f) 72 y (mkH n z D (s3 m x (Int32.ofNat e) dd) j r) = some (v', mkH n z D (s3 m x' (Int32.ofNat e) dd') j r) := by
          intro y
          obtain ⟨w, hw⟩ := M_withinA (n := n) (z := z) (D := D) (m := s3 m x (Int32.ofNat e) dd) (j := j) (r := r) (y := y)
          refine ⟨w, x, dd, ?_⟩
          unfold f_X12_term_87
          rw [hw, hf']
          simp only [obs, cN_mk, ite_true, ite_false, if_true, if_false]
          rw [f_X12_term_5.eq_2]
          simp (disch := omega) only [obs, cN_mk, ite_true, ite_false, if_true, if_false, q72, s3_11, l1, no1_e, no1_ne, reduceIte]
        rw [hv]
        simp only [obs, cN_mk, ite_true, ite_false, if_true, if_false]
        split
        · split
          · exact fin _
          · rename_i h0
            rw [if_neg (fun h => h0 (lg_0.mpr h))]
            exact fin _
        · exact fin _
      | inr q =>
        obtain ⟨c, j1⟩ := q
        rw [hx] at hm
        obtain ⟨v, hv, ev⟩ := hm
        have hj := hpa c j1 hx
        have bv : -1000000 ≤ v ∧ v ≤ 1000000 := ⟨hv.1, hv.2.1⟩
        have bv0 : -1000000 ≤ v0 ∧ v0 ≤ 1000000 := ⟨hE.1, hE.2.1⟩
        have hE' : Ev L (c0 ++ (c ++ [opT (sg t N i)])) (jn (opT (sg t N i)) v0 v) (H + 1) := Ev_bin hE hv (by unfold opT; split <;> omega) (fun h => by unfold opT at h; split at h <;> omega) (by omega) (by omega)
        have hih := ih j1 f (c0 ++ (c ++ [opT (sg t N i)])) (jn (opT (sg t N i)) v0 v) (by omega) (by omega) hj.2.1 hE'
        have hre : (bnd (bnd (Sum.inr (c, j1)) fun c j => bnd (pTermR t N af g j) fun c' j' => Sum.inr (c ++ [opT (sg t N i)] ++ c', j')) fun c' j' => Sum.inr (c0 ++ c', j')) = (bnd (pTermR t N af g j1) fun c' j' => .inr ((c0 ++ (c ++ [opT (sg t N i)])) ++ c', j')) := by
          show bnd (bnd (pTermR t N af g j1) fun c' j' => Sum.inr (c ++ [opT (sg t N i)] ++ c', j')) (fun c' j' => Sum.inr (c0 ++ c', j')) = _
          cases pTermR t N af g j1 with
          | inl e => rfl
          | inr q => simp [bnd]
        rw [hre]
        have hval : (cN (some (Int32.ofInt v, mkH n z D (s3 m (Int32.ofNat j1) no1 (Int32.ofNat d)) j r)) (mkH n z D (s3 m (Int32.ofNat (sk t N i + 1)) no1 (Int32.ofNat d)) j r) fun v5 h6 => if bI (decide (sg t N i = 42)) = 0 then if lg_cmp v5.toInt64 0 = 0 then f_X12_term_87 fS (f_X12_term_5 fS f) 72 0 h6 else if v5.toInt64 = 0 then none else f_X12_term_87 fS (f_X12_term_5 fS f) 72 ((Int32.ofInt v0).toInt64 / v5.toInt64) h6 else f_X12_term_87 fS (f_X12_term_5 fS f) 72 ((Int32.ofInt v0).toInt64 * v5.toInt64) h6) = f_X12_term_5 fS f 72 (Int32.ofInt (jn (opT (sg t N i)) v0 v)) (mkH n z D (s3 m (Int32.ofNat j1) no1 (Int32.ofNat d)) j r) := by
          simp only [obs, cN_mk, ite_true, ite_false, if_true, if_false, f_X12_term_87]
          by_cases h42 : sg t N i = 42
          · have hmb := mul_b bv0 bv
            rw [if_neg (by simp [h42, bI]), oj_mul bv0 bv, M_within (by omega) rfl]
            simp only [obs, cN_mk, ite_true, ite_false, if_true, if_false]
            simp [opT, h42, jn]
          · rw [if_pos (by simp [h42, bI])]
            by_cases hv0 : v = 0
            · have h00 : (Int32.ofInt v).toInt64 = 0 := (oj_0 bv).mpr hv0
              rw [if_pos (lg_0.mpr h00), show (0 : Int64) = Int64.ofInt 0 from rfl, M_within (by omega) rfl]
              simp only [obs, cN_mk, ite_true, ite_false, if_true, if_false]
              simp [opT, h42, jn, hv0]
            · have h00 : ¬ (Int32.ofInt v).toInt64 = 0 := fun h => hv0 ((oj_0 bv).mp h)
              have hdb := tdiv_b (b := v) bv0
              rw [if_neg (fun h => h00 (lg_0.mp h)), if_neg h00, oj_div bv0 bv, M_within (by omega) rfl]
              simp only [obs, cN_mk, ite_true, ite_false, if_true, if_false]
              simp [opT, h42, jn, hv0]
        dsimp only at ev
        rw [ev, hval]
        exact hih
    · rw [if_neg hop, if_neg (by omega), if_neg (by omega)]
      refine ⟨v0, ?_, rfl⟩
      show Ev L (c0 ++ []) v0 (H + 1)
      rw [List.append_nil]
      exact hE
theorem M_term {fS : Nat → AH → Option (Int32 × AH)} {af : Nat → PR} {d H : Nat} (hT : TX m r t N a b) (hA : ∀ i, i ≤ N → MO n z D m j r (f_X12_atom fS 72 (mkH n z D (s3 m (Int32.ofNat i) no1 (Int32.ofNat d)) j r)) (af i) d (fun c v => Ev L c v H)) (hP : ∀ i, i ≤ N → PA N i (af i) 1) (hi : i ≤ N) :
    MO n z D m j r (f_X12_term fS 72 (mkH n z D (s3 m (Int32.ofNat i) no1 (Int32.ofNat d)) j r)) (pTerm t N af i) d (fun c v => Ev L c v (H + 1)) := by
  have hN := hT.2.2.2.1
  unfold f_X12_term f_X12_term_0 pTerm
  have hm := hA i hi
  cases hx : af i with
  | inl e =>
    rw [hx] at hm
    obtain ⟨he, v, x, dd, hv⟩ := hm
    refine ⟨he, v, x, dd, ?_⟩
    obtain ⟨f', hf'⟩ : ∃ f', fu = f' + 1 := ⟨9999, rfl⟩
    rw [hf']
    simp (disch := omega) only [obs, cN_mk, ite_true, ite_false, if_true, if_false, q72, hv]
    rw [f_X12_term_5.eq_2]
    simp (disch := omega) only [obs, cN_mk, ite_true, ite_false, if_true, if_false, q72, s3_11, l1, no1_e, no1_ne, reduceIte]
  | inr q =>
    obtain ⟨c, j1⟩ := q
    rw [hx] at hm
    obtain ⟨v, hv, ev⟩ := hm
    have hj := hP i hi c j1 hx
    have := M_termR hT hA hP 300 j1 fu c v (by omega) (by unfold fu; omega) hj.2.1 (Ev_mono hv (by omega))
    simp (disch := omega) only [obs, cN_mk, ite_true, ite_false, if_true, if_false, q72, ev]
    exact this
/-- the rest of a sum -/
theorem M_sumR {fS : Nat → AH → Option (Int32 × AH)} {af : Nat → PR} {d H : Nat} (hT : TX m r t N a b) (hA : ∀ i, i ≤ N → MO n z D m j r (f_X12_term fS 72 (mkH n z D (s3 m (Int32.ofNat i) no1 (Int32.ofNat d)) j r)) (pTerm t N af i) d (fun c v => Ev L c v H)) (hP : ∀ i, i ≤ N → PA N i (pTerm t N af i) 1) : ∀ (g i fuel : Nat) (c0 : List Nat) (v0 : Int), N - i < g → N - i < fuel → i ≤ N → Ev L c0 v0 (H + 1) →
    MO n z D m j r (f_X12_sum_5 fS fuel 72 (Int32.ofInt v0) (mkH n z D (s3 m (Int32.ofNat i) no1 (Int32.ofNat d)) j r)) (bnd (pSumR t N af g i) fun c' j' => .inr (c0 ++ c', j')) d (fun c v => Ev L c v (H + 1)) := by
  intro g
  induction g with
  | zero => intro i fuel c0 v0 h; omega
  | succ g ih =>
    intro i fuel c0 v0 hg hf hi hE
    obtain ⟨f, rfl⟩ : ∃ f, fuel = f + 1 := ⟨fuel - 1, by omega⟩
    have hs := sg_lt hT hi
    have hk := sk_le (t := t) hi
    rw [f_X12_sum_5.eq_2, pSumR]
    simp (disch := omega) only [obs, cN_mk, ite_true, ite_false, if_true, if_false, q72, s3_11, l1, no1_e, reduceIte, M_look hT hi, M_look hT hk.2, sk_sk, sg_sk, l43, l45, sgI_c]
    by_cases hop : sg t N i = 43 ∨ sg t N i = 45
    · have hp := sg_pos (t := t) (N := N) (i := i) (by omega)
      rw [if_pos hop]
      have hboth : (if sg t N i = 43 then f_X12_sum_31 fS (f_X12_sum_5 fS f) 72 (Int32.ofInt v0) (mkH n z D (s3 m (Int32.ofNat (sk t N i)) no1 (Int32.ofNat d)) j r) else if sg t N i = 45 then f_X12_sum_31 fS (f_X12_sum_5 fS f) 72 (Int32.ofInt v0) (mkH n z D (s3 m (Int32.ofNat (sk t N i)) no1 (Int32.ofNat d)) j r) else some (Int32.ofInt v0, mkH n z D (s3 m (Int32.ofNat (sk t N i)) no1 (Int32.ofNat d)) j r)) = f_X12_sum_45 fS (f_X12_sum_5 fS f) 72 (Int32.ofInt v0) (bI (decide (sg t N i = 43))) (mkH n z D (s3 m (Int32.ofNat (sk t N i)) no1 (Int32.ofNat d)) j r) := by
        unfold f_X12_sum_31
        simp (disch := omega) only [obs, cN_mk, ite_true, ite_false, if_true, if_false, q72, M_look hT hk.2, sk_sk, sg_sk, l43, sgI_c, l1, l0]
        by_cases h43 : sg t N i = 43
        · simp [h43, bI]
        · have h45 : sg t N i = 45 := by omega
          simp [h45, bI]
      rw [hboth]
      unfold f_X12_sum_45
      simp (disch := omega) only [obs, cN_mk, ite_true, ite_false, if_true, if_false, q72, s3_10, w10, l1, i_add]
      have hm := hA (sk t N i + 1) (by omega)
      have hpa := hP (sk t N i + 1) (by omega)
      cases hx : pTerm t N af (sk t N i + 1) with
      | inl e =>
        rw [hx] at hm
        obtain ⟨he, v, x, dd, hv⟩ := hm
        refine ⟨he, ?_⟩
        obtain ⟨f', hf'⟩ : ∃ f', f = f' + 1 := ⟨f - 1, by omega⟩
        have fin : ∀ y : Int64, ∃ v' x' dd', f_X12_sum_77 fS (f_X12_sum_5 fS f) 72 y (mkH n z D (s3 m x (Int32.ofNat e) dd) j r) = some (v', mkH n z D (s3 m x' (Int32.ofNat e) dd') j r) := by
          intro y
          obtain ⟨w, hw⟩ := M_withinA (n := n) (z := z) (D := D) (m := s3 m x (Int32.ofNat e) dd) (j := j) (r := r) (y := y)
          refine ⟨w, x, dd, ?_⟩
          unfold f_X12_sum_77
          rw [hw, hf']
          simp only [obs, cN_mk, ite_true, ite_false, if_true, if_false]
          rw [f_X12_sum_5.eq_2]
          simp (disch := omega) only [obs, cN_mk, ite_true, ite_false, if_true, if_false, q72, s3_11, l1, no1_e, no1_ne, reduceIte]
        rw [hv]
        simp only [obs, cN_mk, ite_true, ite_false, if_true, if_false]
        split
        · exact fin _
        · exact fin _
      | inr q =>
        obtain ⟨c, j1⟩ := q
        rw [hx] at hm
        obtain ⟨v, hv, ev⟩ := hm
        have hj := hpa c j1 hx
        have bv : -1000000 ≤ v ∧ v ≤ 1000000 := ⟨hv.1, hv.2.1⟩
        have bv0 : -1000000 ≤ v0 ∧ v0 ≤ 1000000 := ⟨hE.1, hE.2.1⟩
        have hE' : Ev L (c0 ++ (c ++ [opS (sg t N i)])) (jn (opS (sg t N i)) v0 v) (H + 1) := Ev_bin hE hv (by unfold opS; split <;> omega) (fun h => by unfold opS at h; split at h <;> omega) (by omega) (by omega)
        have hih := ih j1 f (c0 ++ (c ++ [opS (sg t N i)])) (jn (opS (sg t N i)) v0 v) (by omega) (by omega) hj.2.1 hE'
        have hre : (bnd (bnd (Sum.inr (c, j1)) fun c j => bnd (pSumR t N af g j) fun c' j' => Sum.inr (c ++ [opS (sg t N i)] ++ c', j')) fun c' j' => Sum.inr (c0 ++ c', j')) = (bnd (pSumR t N af g j1) fun c' j' => .inr ((c0 ++ (c ++ [opS (sg t N i)])) ++ c', j')) := by
          show bnd (bnd (pSumR t N af g j1) fun c' j' => Sum.inr (c ++ [opS (sg t N i)] ++ c', j')) (fun c' j' => Sum.inr (c0 ++ c', j')) = _
          cases pSumR t N af g j1 with
          | inl e => rfl
          | inr q => simp [bnd]
        rw [hre]
        have hval : (cN (some (Int32.ofInt v, mkH n z D (s3 m (Int32.ofNat j1) no1 (Int32.ofNat d)) j r)) (mkH n z D (s3 m (Int32.ofNat (sk t N i + 1)) no1 (Int32.ofNat d)) j r) fun v5 h6 => if bI (decide (sg t N i = 43)) = 0 then f_X12_sum_77 fS (f_X12_sum_5 fS f) 72 ((Int32.ofInt v0).toInt64 - v5.toInt64) h6 else f_X12_sum_77 fS (f_X12_sum_5 fS f) 72 ((Int32.ofInt v0).toInt64 + v5.toInt64) h6) = f_X12_sum_5 fS f 72 (Int32.ofInt (jn (opS (sg t N i)) v0 v)) (mkH n z D (s3 m (Int32.ofNat j1) no1 (Int32.ofNat d)) j r) := by
          simp only [obs, cN_mk, ite_true, ite_false, if_true, if_false, f_X12_sum_77]
          by_cases h43 : sg t N i = 43
          · rw [if_neg (by simp [h43, bI]), oj_add bv0 bv, M_within (by omega) rfl]
            simp only [obs, cN_mk, ite_true, ite_false, if_true, if_false]
            simp [opS, h43, jn]
          · rw [if_pos (by simp [h43, bI]), oj_sub bv0 bv, M_within (by omega) rfl]
            simp only [obs, cN_mk, ite_true, ite_false, if_true, if_false]
            simp [opS, h43, jn]
        dsimp only at ev
        rw [ev, hval]
        exact hih
    · rw [if_neg hop, if_neg (by omega), if_neg (by omega)]
      refine ⟨v0, ?_, rfl⟩
      show Ev L (c0 ++ []) v0 (H + 1)
      rw [List.append_nil]
      exact hE
theorem M_sumA {fS : Nat → AH → Option (Int32 × AH)} {af : Nat → PR} {d H : Nat} (hT : TX m r t N a b) (hA : ∀ i, i ≤ N → MO n z D m j r (f_X12_term fS 72 (mkH n z D (s3 m (Int32.ofNat i) no1 (Int32.ofNat d)) j r)) (pTerm t N af i) d (fun c v => Ev L c v H)) (hP : ∀ i, i ≤ N → PA N i (pTerm t N af i) 1) (hi : i ≤ N) :
    MO n z D m j r (f_X12_sum fS 72 (mkH n z D (s3 m (Int32.ofNat i) no1 (Int32.ofNat d)) j r)) (pSumA t N af i) d (fun c v => Ev L c v (H + 1)) := by
  have hN := hT.2.2.2.1
  unfold f_X12_sum f_X12_sum_0 pSumA
  have hm := hA i hi
  cases hx : pTerm t N af i with
  | inl e =>
    rw [hx] at hm
    obtain ⟨he, v, x, dd, hv⟩ := hm
    refine ⟨he, v, x, dd, ?_⟩
    obtain ⟨f', hf'⟩ : ∃ f', fu = f' + 1 := ⟨9999, rfl⟩
    rw [hf']
    simp (disch := omega) only [obs, cN_mk, ite_true, ite_false, if_true, if_false, q72, hv]
    rw [f_X12_sum_5.eq_2]
    simp (disch := omega) only [obs, cN_mk, ite_true, ite_false, if_true, if_false, q72, s3_11, l1, no1_e, no1_ne, reduceIte]
  | inr q =>
    obtain ⟨c, j1⟩ := q
    rw [hx] at hm
    obtain ⟨v, hv, ev⟩ := hm
    have hj := hP i hi c j1 hx
    have := M_sumR hT hA hP 300 j1 fu c v (by omega) (by unfold fu; omega) hj.2.1 (Ev_mono hv (by omega))
    simp (disch := omega) only [obs, cN_mk, ite_true, ite_false, if_true, if_false, q72, ev]
    exact this
theorem M_sum (hD : ∀ a, 1000000 ≤ a → D a = none) (hT : TX m r t N a b) (hL : LT m L) : ∀ (k e i d : Nat), k ≤ e → d + k = 6 → i ≤ N → MO n z D m j r (r_X12_sum (e + 1) 72 (mkH n z D (s3 m (Int32.ofNat i) no1 (Int32.ofNat d)) j r)) (pSum t N k i) d (fun c v => Ev L c v (2 * k + 3)) := by
  intro k
  induction k with
  | zero =>
    intro e i d he hd hi
    rw [r_X12_sum]
    exact M_sumA (H := 2) hT (fun i hi => M_term (H := 1) hT (fun i hi => M_atom hD hT hL (by omega) (fun h => absurd rfl h) (fun h => absurd rfl h) hi) (fun i hi => PA_atom (sumf := fun _ => .inl 0) (fun h => absurd rfl h) hi) hi) (fun i hi => PA_term (fun i hi => PA_atom (sumf := fun _ => .inl 0) (fun h => absurd rfl h) hi) hi) hi
  | succ k ih =>
    intro e i d he hd hi
    obtain ⟨f, rfl⟩ : ∃ f, e = f + 1 := ⟨e - 1, by omega⟩
    rw [r_X12_sum]
    have hA : ∀ i, i ≤ N → MO n z D m j r (f_X12_atom (r_X12_sum (f + 1)) 72 (mkH n z D (s3 m (Int32.ofNat i) no1 (Int32.ofNat d)) j r)) (pAtom t N (pSum t N k) (k + 1) i) d (fun c v => Ev L c v (2 * (k + 1) + 1)) := fun i hi => M_atom hD hT hL (by omega) (fun _ i hi => ih f i (d + 1) (by omega) (by omega) hi) (fun _ i hi => PA_sum k i hi) hi
    have hPa : ∀ i, i ≤ N → PA N i (pAtom t N (pSum t N k) (k + 1) i) 1 := fun i hi => PA_atom (fun _ i hi => PA_sum k i hi) hi
    exact M_sumA (H := 2 * (k + 1) + 2) hT (fun i hi => M_term (H := 2 * (k + 1) + 1) hT hA hPa hi) (fun i hi => PA_term hPa hi) hi
end MCND
