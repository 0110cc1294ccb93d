/-! The model reads a law: conditions. -/
theorem oi_inj {a b : Int} (ha : -1000000 ≤ a ∧ a ≤ 1000000) (hb : -1000000 ≤ b ∧ b ≤ 1000000) : (Int32.ofInt a = Int32.ofInt b) ↔ a = b := by
  constructor
  · intro h
    have := congrArg Int32.toInt h
    rwa [oi_int (by omega), oi_int (by omega)] at this
  · intro h; rw [h]
theorem oi_le {a b : Int} (ha : -1000000 ≤ a ∧ a ≤ 1000000) (hb : -1000000 ≤ b ∧ b ≤ 1000000) : (Int32.ofInt a ≤ Int32.ofInt b) ↔ a ≤ b := by
  rw [Int32.le_iff_toInt_le, oi_int (by omega), oi_int (by omega)]
theorem oi_z {a : Int} (ha : -1000000 ≤ a ∧ a ≤ 1000000) : (Int32.ofInt a = 0) ↔ a = 0 := by
  rw [show (0 : Int32) = Int32.ofInt 0 from rfl, oi_inj ha (by omega)]
theorem rZi {v : Int} {h : AH} (hv : v = 0 ∨ v = 1) : rZ (Int32.ofInt v) h = some (Int32.ofInt v, h) := by
  rcases hv with rfl | rfl
  · exact rZ0
  · exact rZ1
theorem oi_b01 {c : Prop} {inst : Decidable c} {h : AH} : (if c then some (Int32.ofNat 1, h) else some (0, h) : Option (Int32 × AH)) = some (Int32.ofInt (if c then 1 else 0), h) := by
  split <;> rfl
theorem oi_b10 {c : Prop} {inst : Decidable c} {h : AH} : (if c then some (0, h) else some (Int32.ofNat 1, h) : Option (Int32 × AH)) = some (Int32.ofInt (if c then 0 else 1), h) := by
  split <;> rfl
def HB (L : Nat → Int) (h : Nat) (c : List Nat) (v : Int) : Prop := Ev L c v h ∧ (v = 0 ∨ v = 1)
def MB (n z : Nat) (D : Dyn) (m : MI) (j : MJ) (r : MR) (res : Option (Int32 × AH)) (p : PR) (d : Nat) (Q : List Nat → Int → Prop) : Prop := match p with
  | .inl e => e ≤ 1000 ∧ ∃ v x dd, (v = 0 ∨ v = 1) ∧ res = some (v, mkH n z D (s3 m x (Int32.ofNat e) dd) j r)
  | .inr q => ∃ v : Int, Q q.1 v ∧ res = some (Int32.ofInt v, mkH n z D (s3 m (Int32.ofNat q.2) no1 (Int32.ofNat d)) j r)
theorem opC_b {s : Nat} : 10010 ≤ opC s ∧ opC s ≤ 10012 := by
  unfold opC
  split
  · omega
  · split <;> omega
section MCN2
variable {n z : Nat} {D : Dyn} {m : MI} {j : MJ} {r : MR} {t : Nat → Nat} {N a b i : Nat} {L : Nat → Int}
theorem M_isSign {s : Nat} (hs : s < 256) {h : AH} : f_X12_isSign (sgI s) h = some (bI (decide (s = 60 ∨ s = 61 ∨ s = 62)), h) := by
  unfold f_X12_isSign f_X12_isSign_0 f_X12_isSign_18
  simp (disch := omega) only [l60, l61, l62, sgI_c]
  by_cases h1 : s = 61
  · simp [h1, bI, l1]
  by_cases h2 : s = 60
  · simp [h2, bI, l1]
  by_cases h3 : s = 62
  · simp [h3, bI, l1]
  simp [h1, h2, h3, bI, l0]
theorem M_cmp12 {fS : Nat → AH → Option (Int32 × AH)} {k d : Nat} {c0 : List Nat} {v0 : Int} (hD : ∀ a, 1000000 ≤ a → D a = none) (hT : TX m r t N a b) (hL : LT m L) (hdk : d + k = 6) (hE : Ev L c0 v0 (2 * k + 3)) (hi : i ≤ N) :
    MB n z D m j r (f_X12_compares_12 fS 72 (Int32.ofInt v0) (mkH n z D (s3 m (Int32.ofNat i) no1 (Int32.ofNat d)) j r)) (pCmpR t N k c0 i) d (HB L (2 * k + 4)) := by
  have hs := sg_lt hT hi
  have hN := hT.2.2.2.1
  have hk := sk_le (t := t) hi
  unfold f_X12_compares_12 pCmpR
  simp (disch := omega) only [obs, cN_mk, ite_true, ite_false, if_true, if_false, q72, s3_11, l1, no1_e, reduceIte, M_look hT hi, M_isSign hs]
  by_cases hc : sg t N i = 60 ∨ sg t N i = 61 ∨ sg t N i = 62
  · have hp := sg_pos (t := t) (N := N) (i := i) (by omega)
    rw [if_pos hc, if_neg (by simp [hc, bI])]
    simp (disch := omega) only [obs, cN_mk, ite_true, ite_false, if_true, if_false, q72, s3_10, w10, i_add]
    have hm := M_sum (n := n) (z := z) (j := j) hD hT hL k 7 (sk t N i + 1) d (by omega) hdk (by omega)
    have hfc : fc_X12_sum 72 (mkH n z D (s3 m (Int32.ofNat (sk t N i + 1)) no1 (Int32.ofNat d)) j r) = r_X12_sum (7 + 1) 72 (mkH n z D (s3 m (Int32.ofNat (sk t N i + 1)) no1 (Int32.ofNat d)) j r) := rfl
    rw [hfc]
    cases hx : pSum t N k (sk t N i + 1) with
    | inl e =>
      rw [hx] at hm
      obtain ⟨he, v, x, dd, hv⟩ := hm
      refine ⟨he, ?_⟩
      rw [hv]
      simp only [obs, cN_mk, ite_true, ite_false, if_true, if_false]
      split
      · split
        · exact ⟨_, _, _, Or.inr rfl, rfl⟩
        · exact ⟨_, _, _, Or.inl rfl, rfl⟩
      · split
        · split
          · exact ⟨_, _, _, Or.inl rfl, rfl⟩
          · exact ⟨_, _, _, Or.inr rfl, rfl⟩
        · split
          · exact ⟨_, _, _, Or.inl rfl, rfl⟩
          · exact ⟨_, _, _, Or.inr rfl, rfl⟩
    | inr q =>
      obtain ⟨c, j1⟩ := q
      rw [hx] at hm
      obtain ⟨v, hv, ev⟩ := hm
      dsimp only at ev
      have bv : -1000000 ≤ v ∧ v ≤ 1000000 := ⟨hv.1, hv.2.1⟩
      have bv0 : -1000000 ≤ v0 ∧ v0 ≤ 1000000 := ⟨hE.1, hE.2.1⟩
      refine ⟨jn (opC (sg t N i)) v0 v, ⟨Ev_bin hE hv (by have := opC_b (s := sg t N i); omega) (fun h => by have := opC_b (s := sg t N i); omega) (by omega) (by omega), ?_⟩, ?_⟩
      · rcases hc with h | h | h <;> simp only [h, opC, jn] <;> simp <;> omega
      · rw [ev]
        simp only [obs, cN_mk, ite_true, ite_false, if_true, if_false]
        rcases hc with h | h | h
        · rw [h, if_neg (by decide), if_pos (by decide), oi_b10]
          simp only [oi_le bv bv0, opC, jn]
          by_cases hvv : v ≤ v0
          · simp [hvv, show ¬ v0 < v by omega]
          · simp [hvv, show v0 < v by omega]
        · rw [h, if_pos (by decide), oi_b01]
          simp only [oi_inj bv0 bv, opC, jn]
          simp
        · rw [h, if_neg (by decide), if_neg (by decide), oi_b10]
          simp only [oi_le bv0 bv, opC, jn]
          by_cases hvv : v0 ≤ v
          · simp [hvv, show ¬ v < v0 by omega]
          · simp [hvv, show v < v0 by omega]
  · rw [if_neg hc, if_pos (by simp [hc, bI])]
    refine ⟨by omega, ?_⟩
    simp (disch := omega) only [obs, cN_mk, ite_true, ite_false, if_true, if_false, q72, M_fails0, rZ0]
    exact ⟨_, _, _, Or.inl rfl, rfl⟩
theorem M_cmp {fS : Nat → AH → Option (Int32 × AH)} {k d : Nat} {x2 : Int32} (hD : ∀ a, 1000000 ≤ a → D a = none) (hT : TX m r t N a b) (hL : LT m L) (hdk : d + k = 6) (hi : i ≤ N) :
    MB n z D m j r (f_X12_compares fS 72 0 x2 (mkH n z D (s3 m (Int32.ofNat i) no1 (Int32.ofNat d)) j r)) (pCmp t N k i) d (HB L (2 * k + 4)) := by
  unfold f_X12_compares f_X12_compares_0 pCmp
  rw [if_pos rfl]
  have hm := M_sum (n := n) (z := z) (j := j) hD hT hL k 7 i d (by omega) hdk hi
  have hfc : fc_X12_sum 72 (mkH n z D (s3 m (Int32.ofNat i) no1 (Int32.ofNat d)) j r) = r_X12_sum (7 + 1) 72 (mkH n z D (s3 m (Int32.ofNat i) no1 (Int32.ofNat d)) j r) := rfl
  rw [hfc]
  have hpa := PA_sum (t := t) (N := N) k i hi
  cases hx : pSum t N k i with
  | inl e =>
    rw [hx] at hm
    obtain ⟨he, v, x, dd, hv⟩ := hm
    refine ⟨he, ?_⟩
    rw [hv]
    simp (disch := omega) only [obs, cN_mk, ite_true, ite_false, if_true, if_false, q72, f_X12_compares_12, s3_11, l1, no1_e, no1_ne, reduceIte]
    exact ⟨_, _, _, Or.inl rfl, rfl⟩
  | inr q =>
    obtain ⟨c, j1⟩ := q
    rw [hx] at hm
    obtain ⟨v, hv, ev⟩ := hm
    dsimp only at ev
    rw [ev]
    simp (disch := omega) only [obs, cN_mk, ite_true, ite_false, if_true, if_false, q72]
    exact M_cmp12 hD hT hL hdk hv (hpa c j1 hx).2.1
theorem M_partR {fS : Nat → AH → Option (Int32 × AH)} {uf : Nat → PR} {d H : Nat} (hT : TX m r t N a b) (hA : ∀ i, i ≤ N → MB n z D m j r (fS 72 (mkH n z D (s3 m (Int32.ofNat i) no1 (Int32.ofNat d)) j r)) (uf i) d (HB L H)) (hP : ∀ i, i ≤ N → PA N i (uf i) 1) : ∀ (g i fuel : Nat) (c0 : List Nat) (v0 : Int), N - i < g → N - i < fuel → i ≤ N → HB L (H + 1) c0 v0 →
    MB n z D m j r (f_X12_part_18 fS fuel 72 (Int32.ofInt v0) (mkH n z D (s3 m (Int32.ofNat i) no1 (Int32.ofNat d)) j r)) (bnd (pPartR t N uf g i) fun c' j' => .inr (c0 ++ c', j')) d (HB L (H + 1)) := by
  intro g
  induction g with
  | zero => intro i fuel c0 v0 h; omega
  | succ g ih =>
    intro i fuel c0 v0 hg hf hi hE
    obtain ⟨f, rfl⟩ : ∃ f, fuel = f + 1 := ⟨fuel - 1, by omega⟩
    have hs := sg_lt hT hi
    have hk := sk_le (t := t) hi
    have bv0 : -1000000 ≤ v0 ∧ v0 ≤ 1000000 := ⟨hE.1.1, hE.1.2.1⟩
    rw [f_X12_part_18.eq_2, pPartR]
    simp (disch := omega) only [obs, cN_mk, ite_true, ite_false, if_true, if_false, q72, s3_11, l1, no1_e, reduceIte, M_look hT hi, l38, sgI_c]
    by_cases hop : sg t N i = 38
    · have hp := sg_pos (t := t) (N := N) (i := i) (by omega)
      rw [if_pos hop, if_pos hop]
      simp (disch := omega) only [obs, cN_mk, ite_true, ite_false, if_true, if_false, q72, s3_10, w10, l1, i_add]
      have hm := hA (sk t N i + 1) (by omega)
      have hpa := hP (sk t N i + 1) (by omega)
      cases hx : uf (sk t N i + 1) with
      | inl e =>
        rw [hx] at hm
        obtain ⟨he, v, x, dd, hv01, hv⟩ := hm
        refine ⟨he, ?_⟩
        obtain ⟨f', hf'⟩ : ∃ f', f = f' + 1 := ⟨f - 1, by omega⟩
        have fin : ∀ y : Int, y = 0 ∨ y = 1 → ∃ v' x' dd', (v' = 0 ∨ v' = 1) ∧ f_X12_part_18 fS f 72 (Int32.ofInt y) (mkH n z D (s3 m x (Int32.ofNat e) dd) j r) = some (v', mkH n z D (s3 m x' (Int32.ofNat e) dd') j r) := by
          intro y hy
          refine ⟨Int32.ofInt y, x, dd, by rcases hy with rfl | rfl <;> first | exact Or.inl rfl | exact Or.inr rfl, ?_⟩
          rw [hf', f_X12_part_18.eq_2]
          simp (disch := omega) only [obs, cN_mk, ite_true, ite_false, if_true, if_false, q72, s3_11, l1, no1_e, no1_ne, reduceIte]
          exact rZi hy
        rw [hv]
        simp only [obs, cN_mk, ite_true, ite_false, if_true, if_false, f_X12_part_64, f_X12_part_65]
        split
        · exact fin 0 (Or.inl rfl)
        · split
          · exact fin 0 (Or.inl rfl)
          · exact fin 1 (Or.inr rfl)
      | inr q =>
        obtain ⟨c, j1⟩ := q
        rw [hx] at hm
        obtain ⟨v, hv, ev⟩ := hm
        dsimp only at ev
        have hj := hpa c j1 hx
        have bv : -1000000 ≤ v ∧ v ≤ 1000000 := ⟨hv.1.1, hv.1.2.1⟩
        have hE' : HB L (H + 1) (c0 ++ (c ++ [10013])) (jn 10013 v0 v) := ⟨Ev_bin hE.1 hv.1 (by omega) (fun _ => ⟨hE.2, hv.2⟩) (by omega) (by omega), by simp only [jn]; simp; omega⟩
        have hih := ih j1 f (c0 ++ (c ++ [10013])) (jn 10013 v0 v) (by omega) (by omega) hj.2.1 hE'
        have hre : (bnd (bnd (Sum.inr (c, j1)) fun c j => bnd (pPartR t N uf g j) fun c' j' => Sum.inr (c ++ [10013] ++ c', j')) fun c' j' => Sum.inr (c0 ++ c', j')) = (bnd (pPartR t N uf g j1) fun c' j' => .inr ((c0 ++ (c ++ [10013])) ++ c', j')) := by
          show bnd (bnd (pPartR t N uf g j1) fun c' j' => Sum.inr (c ++ [10013] ++ c', j')) (fun c' j' => Sum.inr (c0 ++ c', j')) = _
          cases pPartR t N uf g j1 with
          | inl e => rfl
          | inr q => simp [bnd]
        rw [hre, ev]
        simp only [obs, cN_mk, ite_true, ite_false, if_true, if_false, f_X12_part_64, f_X12_part_65, ← l0]
        rcases hE.2 with rfl | rfl
        · rw [if_pos (show Int32.ofInt 0 = 0 from rfl)]
          exact hih
        · rw [if_neg (by decide)]
          rcases hv.2 with rfl | rfl
          · rw [if_pos (show Int32.ofInt 0 = 0 from rfl)]
            exact hih
          · rw [if_neg (by decide)]
            exact hih
    · rw [if_neg hop, if_neg hop]
      refine ⟨v0, ?_, rZi hE.2⟩
      show HB L (H + 1) (c0 ++ []) v0
      rw [List.append_nil]
      exact hE
theorem M_partX {fS : Nat → AH → Option (Int32 × AH)} {uf : Nat → PR} {d H : Nat} {res : Option (Int32 × AH)} {x : PR} {m0 : MI} (hT : TX m r t N a b) (hA : ∀ i, i ≤ N → MB n z D m j r (fS 72 (mkH n z D (s3 m (Int32.ofNat i) no1 (Int32.ofNat d)) j r)) (uf i) d (HB L H)) (hP : ∀ i, i ≤ N → PA N i (uf i) 1) (hx : MB n z D m j r res x d (HB L H)) (hxP : ∀ c j, x = .inr (c, j) → j ≤ N) :
    MB n z D m j r (cN res (mkH n z D m0 j r) fun v h => f_X12_part_17 fS 72 v h) (pPart t N uf x) d (HB L (H + 1)) := by
  have hN := hT.2.2.2.1
  unfold pPart f_X12_part_17
  cases x with
  | inl e =>
    obtain ⟨he, v, y, dd, hv01, hv⟩ := hx
    refine ⟨he, ?_⟩
    obtain ⟨f', hf'⟩ : ∃ f', fu = f' + 1 := ⟨9999, rfl⟩
    rw [hv, hf']
    simp only [obs, cN_mk, ite_true, ite_false, if_true, if_false]
    rw [f_X12_part_18.eq_2]
    simp (disch := omega) only [obs, cN_mk, ite_true, ite_false, if_true, if_false, q72, s3_11, l1, no1_e, no1_ne, reduceIte]
    refine ⟨v, y, dd, hv01, ?_⟩
    exact if_pos hv01
  | inr q =>
    obtain ⟨c, j1⟩ := q
    obtain ⟨v, hv, ev⟩ := hx
    dsimp only at ev
    rw [ev]
    simp only [obs, cN_mk, ite_true, ite_false, if_true, if_false]
    exact M_partR hT hA hP 300 j1 fu c v (by omega) (by unfold fu; omega) (hxP c j1 rfl) ⟨Ev_mono hv.1 (by omega), hv.2⟩
theorem M_condR {fS : Nat → AH → Option (Int32 × AH)} {uf : Nat → PR} {d H : Nat} (hT : TX m r t N a b) (hA : ∀ i, i ≤ N → MB n z D m j r (f_X12_part fS 72 0 0 (mkH n z D (s3 m (Int32.ofNat i) no1 (Int32.ofNat d)) j r)) (pPart t N uf (uf i)) d (HB L H)) (hP : ∀ i, i ≤ N → PA N i (pPart t N uf (uf i)) 1) : ∀ (g i fuel : Nat) (c0 : List Nat) (v0 : Int), N - i < g → N - i < fuel → i ≤ N → HB L (H + 1) c0 v0 →
    MB n z D m j r (f_X12_condition_7 fS fuel 72 (Int32.ofInt v0) (mkH n z D (s3 m (Int32.ofNat i) no1 (Int32.ofNat d)) j r)) (bnd (pCondR t N uf g i) fun c' j' => .inr (c0 ++ c', j')) d (HB L (H + 1)) := by
  intro g
  induction g with
  | zero => intro i fuel c0 v0 h; omega
  | succ g ih =>
    intro i fuel c0 v0 hg hf hi hE
    obtain ⟨f, rfl⟩ : ∃ f, fuel = f + 1 := ⟨fuel - 1, by omega⟩
    have hs := sg_lt hT hi
    have hk := sk_le (t := t) hi
    have bv0 : -1000000 ≤ v0 ∧ v0 ≤ 1000000 := ⟨hE.1.1, hE.1.2.1⟩
    rw [f_X12_condition_7.eq_2, pCondR]
    simp (disch := omega) only [obs, cN_mk, ite_true, ite_false, if_true, if_false, q72, s3_11, l1, no1_e, reduceIte, M_look hT hi, l124, sgI_c]
    by_cases hop : sg t N i = 124
    · have hp := sg_pos (t := t) (N := N) (i := i) (by omega)
      rw [if_pos hop, if_pos hop]
      simp (disch := omega) only [obs, cN_mk, ite_true, ite_false, if_true, if_false, q72, s3_10, w10, l1, i_add]
      have hm := hA (sk t N i + 1) (by omega)
      have hpa := hP (sk t N i + 1) (by omega)
      cases hx : pPart t N uf (uf (sk t N i + 1)) with
      | inl e =>
        rw [hx] at hm
        obtain ⟨he, v, x, dd, hv01, hv⟩ := hm
        refine ⟨he, ?_⟩
        obtain ⟨f', hf'⟩ : ∃ f', f = f' + 1 := ⟨f - 1, by omega⟩
        have fin : ∀ y : Int, y = 0 ∨ y = 1 → ∃ v' x' dd', (v' = 0 ∨ v' = 1) ∧ f_X12_condition_7 fS f 72 (Int32.ofInt y) (mkH n z D (s3 m x (Int32.ofNat e) dd) j r) = some (v', mkH n z D (s3 m x' (Int32.ofNat e) dd') j r) := by
          intro y hy
          refine ⟨Int32.ofInt y, x, dd, by rcases hy with rfl | rfl <;> first | exact Or.inl rfl | exact Or.inr rfl, ?_⟩
          rw [hf', f_X12_condition_7.eq_2]
          simp (disch := omega) only [obs, cN_mk, ite_true, ite_false, if_true, if_false, q72, s3_11, l1, no1_e, no1_ne, reduceIte]
          exact rZi hy
        rw [hv]
        simp only [obs, cN_mk, ite_true, ite_false, if_true, if_false, f_X12_condition_51, f_X12_condition_56]
        split
        · split
          · exact fin 0 (Or.inl rfl)
          · exact fin 1 (Or.inr rfl)
        · exact fin 1 (Or.inr rfl)
      | inr q =>
        obtain ⟨c, j1⟩ := q
        rw [hx] at hm
        obtain ⟨v, hv, ev⟩ := hm
        dsimp only at ev
        have hj := hpa c j1 hx
        have bv : -1000000 ≤ v ∧ v ≤ 1000000 := ⟨hv.1.1, hv.1.2.1⟩
        have hE' : HB L (H + 1) (c0 ++ (c ++ [10014])) (jn 10014 v0 v) := ⟨Ev_bin hE.1 hv.1 (by omega) (fun _ => ⟨hE.2, hv.2⟩) (by omega) (by omega), by simp only [jn]; simp; omega⟩
        have hih := ih j1 f (c0 ++ (c ++ [10014])) (jn 10014 v0 v) (by omega) (by omega) hj.2.1 hE'
        have hre : (bnd (bnd (Sum.inr (c, j1)) fun c j => bnd (pCondR t N uf g j) fun c' j' => Sum.inr (c ++ [10014] ++ c', j')) fun c' j' => Sum.inr (c0 ++ c', j')) = (bnd (pCondR t N uf g j1) fun c' j' => .inr ((c0 ++ (c ++ [10014])) ++ c', j')) := by
          show bnd (bnd (pCondR t N uf g j1) fun c' j' => Sum.inr (c ++ [10014] ++ c', j')) (fun c' j' => Sum.inr (c0 ++ c', j')) = _
          cases pCondR t N uf g j1 with
          | inl e => rfl
          | inr q => simp [bnd]
        rw [hre, ev]
        simp only [obs, cN_mk, ite_true, ite_false, if_true, if_false, f_X12_condition_51, f_X12_condition_56, ← l0]
        rcases hE.2 with rfl | rfl
        · rw [if_pos (show Int32.ofInt 0 = 0 from rfl)]
          rcases hv.2 with rfl | rfl
          · rw [if_pos (show Int32.ofInt 0 = 0 from rfl)]
            exact hih
          · rw [if_neg (by decide)]
            exact hih
        · rw [if_neg (by decide)]
          exact hih
    · rw [if_neg hop, if_neg hop]
      refine ⟨v0, ?_, rZi hE.2⟩
      show HB L (H + 1) (c0 ++ []) v0
      rw [List.append_nil]
      exact hE
theorem M_condX {fS : Nat → AH → Option (Int32 × AH)} {uf : Nat → PR} {d H : Nat} {res : Option (Int32 × AH)} {x : PR} {m0 : MI} (hT : TX m r t N a b) (hA : ∀ i, i ≤ N → MB n z D m j r (f_X12_part fS 72 0 0 (mkH n z D (s3 m (Int32.ofNat i) no1 (Int32.ofNat d)) j r)) (pPart t N uf (uf i)) d (HB L H)) (hP : ∀ i, i ≤ N → PA N i (pPart t N uf (uf i)) 1) (hx : MB n z D m j r res (pPart t N uf x) d (HB L H)) (hxP : ∀ c j, pPart t N uf x = .inr (c, j) → j ≤ N) :
    MB n z D m j r (cN res (mkH n z D m0 j r) fun v h => f_X12_condition_7 fS fu 72 v h) (pCond t N uf x) d (HB L (H + 1)) := by
  have hN := hT.2.2.2.1
  unfold pCond
  cases hq : pPart t N uf x with
  | inl e =>
    rw [hq] at hx
    obtain ⟨he, v, y, dd, hv01, hv⟩ := hx
    refine ⟨he, ?_⟩
    obtain ⟨f', hf'⟩ : ∃ f', fu = f' + 1 := ⟨9999, rfl⟩
    rw [hv, hf']
    simp only [obs, cN_mk, ite_true, ite_false, if_true, if_false]
    rw [f_X12_condition_7.eq_2]
    simp (disch := omega) only [obs, cN_mk, ite_true, ite_false, if_true, if_false, q72, s3_11, l1, no1_e, no1_ne, reduceIte]
    refine ⟨v, y, dd, hv01, ?_⟩
    exact if_pos hv01
  | inr q =>
    obtain ⟨c, j1⟩ := q
    rw [hq] at hx
    obtain ⟨v, hv, ev⟩ := hx
    dsimp only at ev
    rw [ev]
    simp only [obs, cN_mk, ite_true, ite_false, if_true, if_false]
    exact M_condR hT hA hP 300 j1 fu c v (by omega) (by unfold fu; omega) (hxP c j1 hq) ⟨Ev_mono hv.1 (by omega), hv.2⟩
end MCN2
