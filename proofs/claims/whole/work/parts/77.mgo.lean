/-! The model reads a law: the whole. -/
section MGO
variable {n z : Nat} {D : Dyn} {m : MI} {j : MJ} {r : MR} {t : Nat → Nat} {N a b i : Nat} {L : Nat → Int}
theorem q72_11 : gI [12] (mkH n z D m j r) 72 11 = some (m 72 11) := gI_mk rfl (by decide) rfl
theorem q72_10 : gI [12] (mkH n z D m j r) 72 10 = some (m 72 10) := gI_mk rfl (by decide) rfl
theorem q72_p10 {x : Int32} : pV [12] (mkH n z D m j r) 72 10 (.int x) = some (mkH n z D (wI m 72 10 x) j r) := pI_mk rfl (by decide) rfl
theorem q72_c : isC [12] (mkH n z D m j r) 72 = some () := isC_mk rfl (by decide)
theorem y_s {s : Nat} (hs : s < 256) : decide (sgI s ∈ strT.getD 5 []) = decide (s = 121) := by
  have : ∀ s, s < 256 → decide (sgI s ∈ strT.getD 5 []) = decide (s = 121) := by decide +kernel
  exact this s hs
theorem M_clause {f : Bool} {v : Int} (hD : ∀ a, 1000000 ≤ a → D a = none) (hT : TX m r t N a b) (hL : LT m L) (h13 : m 72 13 = 121) (hi : i ≤ N) : CO n z D m j r f v L (f_X12_clause 72 (mkH n z D (s3 (fb m (bI f) (Int32.ofInt v)) (Int32.ofNat i) no1 (Int32.ofNat 0)) j r)) (pCl t N i) := by
  have hT' := TX_fb (f := bI f) (v := Int32.ofInt v) hT
  have hN := hT.2.2.2.1
  have hk := sk_le (t := t) hi
  have hs := sg_lt hT hi
  have e5 : f_X12_isAmong 2000005 (sgI (sg t N i)) (mkH n z D (s3 (fb m (bI f) (Int32.ofInt v)) (Int32.ofNat (sk t N i)) no1 (Int32.ofNat 0)) j r) = some (bI (decide (sg t N i = 121)), mkH n z D (s3 (fb m (bI f) (Int32.ofInt v)) (Int32.ofNat (sk t N i)) no1 (Int32.ofNat 0)) j r) := by
    rw [show 2000005 = 2000000 + 5 from rfl, M_among hD (by omega), y_s hs]
  unfold f_X12_clause f_X12_clause_0 pCl
  simp only [obs, cN_mk, ite_true, ite_false, if_true, if_false, q72, M_look hT' hi, e5]
  by_cases h1 : sg t N i = 121
  · have hp1 := sg_pos (t := t) (N := N) (i := i) (by omega)
    have hk1 := sk_le (t := t) (N := N) (i := sk t N i + 1) (by omega)
    rw [if_pos h1, if_neg (by simp [h1, bI])]
    simp only [s3_10, w10, l1, i_add, q72, obs, cN_mk, ite_true, ite_false, if_true, if_false, l58]
    rw [M_takes0 hT' (by omega) (by omega) (by omega)]
    by_cases h2 : sg t N (sk t N i + 1) = 58
    · have hp2 := sg_pos (t := t) (N := N) (i := sk t N i + 1) (by omega)
      rw [if_pos h2, if_pos h2]
      have e10 : ¬ Int32.ofNat 1 = 0 := by decide
      simp only [obs, cN_mk, ite_true, ite_false, if_true, if_false, e10, q72]
      have hsg : sgI (sg t N i) = Int32.ofNat 121 := by rw [h1]; rfl
      rw [hsg]
      exact M_body hD hT hL h13 (by omega)
    · rw [if_neg h2, if_neg h2]
      refine ⟨by omega, ?_⟩
      simp only [obs, cN_mk, ite_true, ite_false, if_true, if_false, ← l0, reduceIte]
      exact ⟨_, _, rfl⟩
  · rw [if_neg h1, if_pos (by simp [h1, bI])]
    refine ⟨by omega, ?_⟩
    simp only [obs, cN_mk, ite_true, ite_false, if_true, if_false, q72, M_fails0]
    exact ⟨_, _, rfl⟩
def pRest (t : Nat → Nat) (N g i : Nat) : Nat ⊕ List (List Nat × List Nat) := if sg t N i = 0 then .inr [] else if sg t N i = 59 then pLw t N g (sk t N i + 1) else .inl (sk t N i)
theorem pLw_eq {g i : Nat} : pLw t N (g + 1) i = match pCl t N i with
    | .inl e => .inl e
    | .inr (cc, sc, j) => (match pRest t N g j with | .inl e => .inl e | .inr cl => .inr ((cc, sc) :: cl)) := by
  rw [pLw]
  cases pCl t N i with
  | inl e => rfl
  | inr q =>
    obtain ⟨cc, sc, j⟩ := q
    dsimp only
    unfold pRest
    split
    · rfl
    · split
      · rfl
      · rfl
def GO (n z : Nat) (D : Dyn) (m : MI) (j : MJ) (r : MR) (f : Bool) (v : Int) (L : Nat → Int) (res : Option (Unit × AH)) (p : Nat ⊕ List (List Nat × List Nat)) : Prop := match p with
  | .inl e => e ≤ 1000 ∧ ∃ f' v' x dd, res = some ((), mkH n z D (s3 (fb m f' v') x (Int32.ofNat e) dd) j r)
  | .inr cl => ∃ f' x dd, res = some ((), mkH n z D (s3 (fb m f' (Int32.ofInt (if f then v else vl L cl))) x no1 dd) j r)
theorem M_goR (hD : ∀ a, 1000000 ≤ a → D a = none) (hT : TX m r t N a b) (hL : LT m L) (h13 : m 72 13 = 121) : ∀ (g i fuel : Nat) (f : Bool) (v : Int), N - i < g → N - i < fuel → i ≤ N → (f = false → v = 0) →
    GO n z D m j r f v L (f_X12_goThrough_32 fuel 72 (mkH n z D (s3 (fb m (bI f) (Int32.ofInt v)) (Int32.ofNat i) no1 (Int32.ofNat 0)) j r)) (pRest t N g i) := by
  have hN := hT.2.2.2.1
  have em1 : ((-1 : Int32)) = no1 := rfl
  intro g
  induction g with
  | zero => intro i fuel f v h; omega
  | succ g ih =>
    intro i fuel f v hg hf hi hfv
    obtain ⟨fl, rfl⟩ : ∃ fl, fuel = fl + 1 := ⟨fuel - 1, by omega⟩
    have hT' := TX_fb (f := bI f) (v := Int32.ofInt v) hT
    have hs := sg_lt hT hi
    have hk := sk_le (t := t) hi
    have stepY : sg t N i = 59 → f_X12_goThrough_32 (fl + 1) 72 (mkH n z D (s3 (fb m (bI f) (Int32.ofInt v)) (Int32.ofNat i) no1 (Int32.ofNat 0)) j r) = cN (f_X12_clause 72 (mkH n z D (s3 (fb m (bI f) (Int32.ofInt v)) (Int32.ofNat (sk t N i + 1)) no1 (Int32.ofNat 0)) j r)) (mkH n z D (s3 (fb m (bI f) (Int32.ofInt v)) (Int32.ofNat (sk t N i + 1)) no1 (Int32.ofNat 0)) j r) (fun _ h15 => f_X12_goThrough_32 fl 72 h15) := by
      intro h59
      have c1 : sgI (sg t N i) = 59 := by rw [l59]; exact (sgI_c hs (by omega) (by omega)).mpr h59
      rw [f_X12_goThrough_32.eq_2, q72_11, obs, s3_11, if_pos em1.symm, q72_c, obs, M_look hT' hi, cN_mk, if_pos c1, q72_10, obs, s3_10, q72_p10, obs, w10, q72_c, obs, l1, i_add]
    have stepN : sg t N i ≠ 59 → f_X12_goThrough_32 (fl + 1) 72 (mkH n z D (s3 (fb m (bI f) (Int32.ofInt v)) (Int32.ofNat i) no1 (Int32.ofNat 0)) j r) = f_X12_goThrough_66 72 (mkH n z D (s3 (fb m (bI f) (Int32.ofInt v)) (Int32.ofNat (sk t N i)) no1 (Int32.ofNat 0)) j r) := by
      intro h59
      have c1 : ¬ sgI (sg t N i) = 59 := by rw [l59]; exact fun h => h59 ((sgI_c hs (by omega) (by omega)).mp h)
      rw [f_X12_goThrough_32.eq_2, q72_11, obs, s3_11, if_pos em1.symm, q72_c, obs, M_look hT' hi, cN_mk, if_neg c1]
    unfold pRest
    by_cases h59 : sg t N i = 59
    · have hp := sg_pos (t := t) (N := N) (i := i) (by omega)
      rw [stepY h59, if_neg (by omega), if_pos h59, pLw_eq]
      have hc := M_clause (n := n) (z := z) (j := j) (f := f) (v := v) hD hT hL h13 (show sk t N i + 1 ≤ N by omega)
      have hok := OK_cl hD hT hL (show sk t N i + 1 ≤ N by omega)
      cases hq : pCl t N (sk t N i + 1) with
      | inl e =>
        rw [hq] at hc
        obtain ⟨he, x, dd, hv⟩ := hc
        refine ⟨he, bI f, Int32.ofInt v, x, dd, ?_⟩
        rw [hv]
        simp only [obs, cN_mk, ite_true, ite_false, if_true, if_false]
        obtain ⟨f', hf'⟩ : ∃ f', fl = f' + 1 := ⟨fl - 1, by omega⟩
        rw [hf', f_X12_goThrough_32.eq_2]
        simp (disch := omega) only [obs, cN_mk, ite_true, ite_false, if_true, if_false, q72, s3_11, em1, no1_ne, reduceIte, f_X12_goThrough_66]
      | inr q =>
        obtain ⟨cc, sc, j1⟩ := q
        rw [hq] at hc
        have hj := hok cc sc j1 hq
        have hc' : f_X12_clause 72 (mkH n z D (s3 (fb m (bI f) (Int32.ofInt v)) (Int32.ofNat (sk t N i + 1)) no1 (Int32.ofNat 0)) j r) = _ := hc
        rw [hc']
        simp only [obs, cN_mk, ite_true, ite_false, if_true, if_false]
        have hih := ih j1 fl (f || decide (cc = [] ∨ topv L cc ≠ 0)) (if f then v else if cc = [] ∨ topv L cc ≠ 0 then topv L sc else v) (by omega) (by omega) hj.2.2.2 (by
          intro hff
          simp only [Bool.or_eq_false_iff, decide_eq_false_iff_not] at hff
          rw [hff.1, if_neg (by decide), if_neg hff.2]
          exact hfv hff.1)
        cases hr : pRest t N g j1 with
        | inl e =>
          rw [hr] at hih
          obtain ⟨he, f', v', x, dd, hx⟩ := hih
          exact ⟨he, f', v', x, dd, hx⟩
        | inr cl =>
          rw [hr] at hih
          obtain ⟨f', x, dd, hx⟩ := hih
          have hv2 : (if (f || decide (cc = [] ∨ topv L cc ≠ 0)) = true then (if f = true then v else if cc = [] ∨ topv L cc ≠ 0 then topv L sc else v) else vl L cl) = (if f = true then v else vl L ((cc, sc) :: cl)) := by
            cases f
            · by_cases hcd : cc = [] ∨ topv L cc ≠ 0
              · simp [vl, hcd]
              · simp [vl, hcd]
            · simp
          rw [hv2] at hx
          exact ⟨f', x, dd, hx⟩
    · rw [stepN h59]
      unfold f_X12_goThrough_66
      simp only [obs, cN_mk, ite_true, ite_false, if_true, if_false, q72, s3_11, em1, reduceIte, M_look hT' hk.2, sk_sk hi, sg_sk hi]
      simp (disch := omega) only [sgI_n]
      by_cases h0 : sg t N i = 0
      · rw [if_pos h0, if_pos h0]
        have hv2 : v = (if f = true then v else vl L []) := by
          cases f
          · rw [hfv rfl]; rfl
          · rfl
        refine ⟨bI f, Int32.ofNat (sk t N i), Int32.ofNat 0, ?_⟩
        rw [← hv2]
      · rw [if_neg h0, if_neg h0, if_neg h59]
        refine ⟨by omega, ?_⟩
        simp only [obs, cN_mk, ite_true, ite_false, if_true, if_false, q72, M_fails0]
        exact ⟨_, _, _, _, rfl⟩
/-- a law in a row of bytes is gone through -/
theorem M_go (hD : ∀ a, 1000000 ≤ a → D a = none) (hL : LT m L) (hN : N ≤ 240) (hab : (a = 73 ∧ b = 0) ∨ (a = 74 ∧ b ≤ 720)) (hx : ∀ q, q < N → m a (b + q) = nar 1 (Int32.ofNat (t q)) ∧ 1 ≤ t q ∧ t q < 256) :
    ∃ m', f_X12_goThrough 72 a (Int32.ofNat b) (Int32.ofNat N) (mkH n z D m j r) = some ((), mkH n z D m' j (wR r 72 5 (some a))) ∧ (∀ a', a' ≠ 72 → m' a' = m a') ∧ (∀ i, ¬ (8 ≤ i ∧ i ≤ 17) → m' 72 i = m 72 i) ∧ (match pLw t N 300 0 with
      | .inl e => e ≤ 1000 ∧ m' 72 11 = Int32.ofNat e
      | .inr cl => m' 72 11 = no1 ∧ m' 72 14 = Int32.ofInt (vl L cl)) := by
  have em1 : ((-1 : Int32)) = no1 := rfl
  generalize hm1 : wI (wI (wI m 72 8 (Int32.ofNat b)) 72 9 (Int32.ofNat N)) 72 13 121 = m1
  have a1 : ∀ a', a' ≠ 72 → m1 a' = m a' := fun a' h => by rw [← hm1, wI_ne h, wI_ne h, wI_ne h]
  have f1 : ∀ i, i ≠ 8 → i ≠ 9 → i ≠ 13 → m1 72 i = m 72 i := fun i h8 h9 h13 => by rw [← hm1, wI_sn h13, wI_sn h9, wI_sn h8]
  have hT : TX m1 (wR r 72 5 (some a)) t N a b := by
    refine ⟨by simp [wR, va_up], ?_, ?_, hN, hab, fun q hq => ?_⟩
    · rw [← hm1, wI_sn (by omega), wI_sn (by omega), wI_se]
    · rw [← hm1, wI_sn (by omega), wI_se]
    · rw [a1 a (by omega)]
      exact hx q hq
  have hL1 : LT m1 L := by
    unfold LT
    rw [a1 76 (by omega)]
    exact hL
  have h13 : m1 72 13 = 121 := by rw [← hm1, wI_se]
  have hmem : wI (wI (wI (wI (wI (wI (wI (wI m 72 8 (Int32.ofNat b)) 72 9 (Int32.ofNat N)) 72 10 (Int32.ofNat 0)) 72 11 no1) 72 13 121) 72 12 (Int32.ofNat 0)) 72 17 (Int32.ofNat 0)) 72 14 (Int32.ofNat 0) = s3 (fb m1 (bI false) (Int32.ofInt 0)) (Int32.ofNat 0) no1 (Int32.ofNat 0) := by
    funext a' i
    by_cases h : a' = 72
    · subst h
      by_cases h14 : i = 14
      · subst h14; rw [wI_se, s3_o (by omega), fb_14]; rfl
      rw [wI_sn h14]
      by_cases h17 : i = 17
      · subst h17; rw [wI_se, s3_o (by omega), fb_17]; rfl
      rw [wI_sn h17]
      by_cases h12 : i = 12
      · subst h12; rw [wI_se, s3_12]
      rw [wI_sn h12]
      by_cases h11 : i = 11
      · subst h11; rw [wI_sn (by omega), wI_se, s3_11]
      by_cases h10 : i = 10
      · subst h10; rw [wI_sn (by omega), wI_sn (by omega), wI_se, s3_10]
      rw [s3_o (by omega), fb_o h17 h14, ← hm1]
      by_cases h13' : i = 13
      · subst h13'; rw [wI_se, wI_se]
      rw [wI_sn h13', wI_sn h11, wI_sn h10, wI_sn h13']
    · rw [wI_ne h, wI_ne h, wI_ne h, wI_ne h, wI_ne h, wI_ne h, wI_ne h, wI_ne h, s3_a h, fb_a h, a1 a' h]
  have z17 : ∀ (m : MI) (r : MR), pZ [12] (mkH n z D m j r) 72 17 (Int32.ofNat 0) = some (mkH n z D (wI m 72 17 (Int32.ofNat 0)) j r) := fun m r => q72_z17
  have fin : ∀ x, (∃ f' v' x' e dd, x = s3 (fb m1 f' v') x' e dd) → (∀ a', a' ≠ 72 → x a' = m a') ∧ (∀ i, ¬ (8 ≤ i ∧ i ≤ 17) → x 72 i = m 72 i) := by
    rintro x ⟨f', v', x', e, dd, rfl⟩
    refine ⟨fun a' h => by rw [s3_a h, fb_a h, a1 a' h], fun i hi => by rw [s3_o (by omega), fb_o (by omega) (by omega), f1 i (by omega) (by omega) (by omega)]⟩
  have start : f_X12_goThrough 72 a (Int32.ofNat b) (Int32.ofNat N) (mkH n z D m j r) = cN (f_X12_clause 72 (mkH n z D (s3 (fb m1 (bI false) (Int32.ofInt 0)) (Int32.ofNat 0) no1 (Int32.ofNat 0)) j (wR r 72 5 (some a)))) (mkH n z D (s3 (fb m1 (bI false) (Int32.ofInt 0)) (Int32.ofNat 0) no1 (Int32.ofNat 0)) j (wR r 72 5 (some a))) fun _ h15 => f_X12_goThrough_32 fu 72 h15 := by
    rw [← hmem]
    unfold f_X12_goThrough f_X12_goThrough_0 f_X12_starts f_X12_starts_0
    simp only [obs, cN_mk, ite_true, ite_false, if_true, if_false, q72, em1, l0, z17]
  rw [start, pLw_eq]
  have hc := M_clause (n := n) (z := z) (j := j) (f := false) (v := 0) hD hT hL1 h13 (Nat.zero_le _)
  have hok := OK_cl hD hT hL1 (Nat.zero_le N)
  cases hq : pCl t N 0 with
  | inl e =>
    rw [hq] at hc
    obtain ⟨he, x, dd, hv⟩ := hc
    refine ⟨s3 (fb m1 (bI false) (Int32.ofInt 0)) x (Int32.ofNat e) dd, ?_, (fin _ ⟨_, _, _, _, _, rfl⟩).1, (fin _ ⟨_, _, _, _, _, rfl⟩).2, he, s3_11⟩
    rw [hv]
    simp only [obs, cN_mk, ite_true, ite_false, if_true, if_false]
    obtain ⟨f', hf'⟩ : ∃ f', fu = f' + 1 := ⟨9999, rfl⟩
    rw [hf', f_X12_goThrough_32.eq_2]
    simp (disch := omega) only [obs, cN_mk, ite_true, ite_false, if_true, if_false, q72, s3_11, em1, no1_ne, reduceIte, f_X12_goThrough_66]
  | inr q =>
    obtain ⟨cc, sc, j1⟩ := q
    rw [hq] at hc
    have hj := hok cc sc j1 hq
    have hc' : f_X12_clause 72 (mkH n z D (s3 (fb m1 (bI false) (Int32.ofInt 0)) (Int32.ofNat 0) no1 (Int32.ofNat 0)) j (wR r 72 5 (some a))) = _ := hc
    rw [hc']
    simp only [obs, cN_mk, ite_true, ite_false, if_true, if_false]
    have hg := M_goR (n := n) (z := z) (j := j) hD hT hL1 h13 299 j1 fu (false || decide (cc = [] ∨ topv L cc ≠ 0)) (if false then 0 else if cc = [] ∨ topv L cc ≠ 0 then topv L sc else 0) (by omega) (by unfold fu; omega) hj.2.2.2 (by
      intro hff
      simp only [Bool.or_eq_false_iff, decide_eq_false_iff_not] at hff
      rw [if_neg (by decide), if_neg hff.2])
    cases hr : pRest t N 299 j1 with
    | inl e =>
      rw [hr] at hg
      obtain ⟨he, f', v', x, dd, hv⟩ := hg
      exact ⟨_, hv, (fin _ ⟨_, _, _, _, _, rfl⟩).1, (fin _ ⟨_, _, _, _, _, rfl⟩).2, he, s3_11⟩
    | inr cl =>
      rw [hr] at hg
      obtain ⟨f', x, dd, hv⟩ := hg
      refine ⟨_, hv, (fin _ ⟨_, _, _, _, _, rfl⟩).1, (fin _ ⟨_, _, _, _, _, rfl⟩).2, s3_11, ?_⟩
      rw [s3_o (by omega), fb_14]
      congr 1
      by_cases hcd : cc = [] ∨ topv L cc ≠ 0
      · simp [vl, hcd]
      · simp [vl, hcd]
end MGO
