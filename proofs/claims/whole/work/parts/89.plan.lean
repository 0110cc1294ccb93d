/-! Plans are read. -/
abbrev ST : Type := Nat × Nat × Nat
def pDg (t : Nat → Nat) (N i : Nat) : Nat ⊕ (Nat × Nat) := if dig t N (sk t N i) = true then .inr (t (sk t N i) - 48, sk t N i + 1) else .inl (sk t N i)
def kd (s : Nat) : Nat := if s = 100 then 1 else if s = 107 then 2 else if s = 115 then 3 else if s = 114 then 4 else 0
def pSt2 (t : Nat → Nat) (N a : Nat) (x : Nat ⊕ (Nat × Nat)) : Nat ⊕ (ST × Nat) := match x with
  | .inl e => .inl e
  | .inr q => .inr ((1, a, q.1), q.2)
def pSt1 (t : Nat → Nat) (N k : Nat) (x : Nat ⊕ (Nat × Nat)) : Nat ⊕ (ST × Nat) := match x with
  | .inl e => .inl e
  | .inr q => if k = 2 then pSt2 t N q.1 (pDg t N q.2) else .inr ((k - 1, q.1, 0), q.2)
def pSt (t : Nat → Nat) (N i : Nat) : Nat ⊕ (ST × Nat) := if kd (sg t N i) = 0 then .inl (sk t N i) else if kd (sg t N i) = 1 then .inr ((0, 0, 0), sk t N i + 1) else pSt1 t N (kd (sg t N i)) (pDg t N (sk t N i + 1))
def pPl (t : Nat → Nat) (N : Nat) : Nat → Nat → Nat ⊕ List ST
  | 0, _ => .inl 0
  | g + 1, i => match pSt t N i with
    | .inl e => .inl e
    | .inr q => if sg t N q.2 = 0 then .inr [q.1] else if sg t N q.2 = 59 then (if g = 0 then .inl (sk t N q.2) else match pPl t N g (sk t N q.2 + 1) with | .inl e => .inl e | .inr l => .inr (q.1 :: l)) else .inl (sk t N q.2)
/-- a step that can be told -/
def okS (s : ST) : Prop := s.1 ≤ 3 ∧ s.2.1 ≤ 9 ∧ s.2.2 ≤ 9
def cdS (s : ST) : Nat := s.1 * 100 + s.2.1 * 10 + s.2.2
def sv (k : Nat) (s : ST) : Int32 := if k = 0 then Int32.ofNat s.1 else if k = 1 then (if s.1 = 0 then no1 else Int32.ofNat s.2.1) else (if s.1 = 1 then Int32.ofNat s.2.2 else no1)
section PLP
variable {t : Nat → Nat} {N i : Nat}
theorem pDg_b {v j : Nat} (h : pDg t N i = .inr (v, j)) (hi : i ≤ N) : v ≤ 9 ∧ i < j ∧ j ≤ N := by
  have hk := sk_le (t := t) hi
  unfold pDg at h
  split at h
  · rename_i hd
    unfold dig at hd
    simp only [Bool.and_eq_true, decide_eq_true_eq] at hd
    simp only [Sum.inr.injEq, Prod.mk.injEq] at h
    omega
  · exact absurd h (by simp)
theorem pDg_e {e : Nat} (h : pDg t N i = .inl e) (hi : i ≤ N) : e = sk t N i ∧ e ≤ N ∧ dig t N (sk t N i) = false := by
  have hk := sk_le (t := t) hi
  unfold pDg at h
  split at h
  · exact absurd h (by simp)
  · rename_i hd
    simp only [Sum.inl.injEq] at h
    exact ⟨h.symm, by omega, by simpa using hd⟩
theorem kd_le {s : Nat} : kd s ≤ 4 := by
  unfold kd
  repeat' split
  all_goals omega
theorem pSt_b {s : ST} {j : Nat} (h : pSt t N i = .inr (s, j)) (hi : i ≤ N) : okS s ∧ i < j ∧ j ≤ N := by
  have hk := sk_le (t := t) hi
  unfold pSt at h
  split at h
  · exact absurd h (by simp)
  · rename_i h0
    have hp := sg_pos (t := t) (N := N) (i := i) (by intro e; rw [e] at h0; exact h0 rfl)
    split at h
    · simp only [Sum.inr.injEq, Prod.mk.injEq] at h
      obtain ⟨rfl, rfl⟩ := h
      exact ⟨⟨by decide, by decide, by decide⟩, by omega, by omega⟩
    · rename_i h1
      have h4 := kd_le (s := sg t N i)
      cases hd : pDg t N (sk t N i + 1) with
      | inl e => rw [hd] at h; exact absurd h (by simp [pSt1])
      | inr q =>
        obtain ⟨a, j1⟩ := q
        have b1 := pDg_b hd (by omega)
        rw [hd] at h
        unfold pSt1 at h
        dsimp only at h
        split at h
        · cases hd2 : pDg t N j1 with
          | inl e => rw [hd2] at h; exact absurd h (by simp [pSt2])
          | inr q =>
            obtain ⟨b, j2⟩ := q
            have b2 := pDg_b hd2 b1.2.2
            rw [hd2] at h
            simp only [pSt2, Sum.inr.injEq, Prod.mk.injEq] at h
            obtain ⟨rfl, rfl⟩ := h
            exact ⟨⟨by dsimp only; omega, b1.1, b2.1⟩, by omega, by omega⟩
        · simp only [Sum.inr.injEq, Prod.mk.injEq] at h
          obtain ⟨rfl, rfl⟩ := h
          exact ⟨⟨by dsimp only; omega, b1.1, Nat.zero_le _⟩, by omega, by omega⟩
end PLP
section MPL
variable {n z : Nat} {D : Dyn} {m : MI} {j : MJ} {r : MR} {t : Nat → Nat} {N a b i : Nat} {d x e : Int32}
theorem s3_w {a q : Nat} {y : Int32} (h : a ≠ 72) : wI (s3 m x e d) a q y = s3 (wI m a q y) x e d := by
  funext b k
  by_cases hb : b = 72
  · subst hb
    rw [wI_ne (Ne.symm h)]
    unfold s3
    rw [wI_ne (Ne.symm h)]
  · rw [s3_a hb]
    by_cases hba : b = a
    · subst hba
      by_cases hk : k = q
      · subst hk; rw [wI_se, wI_se]
      · rw [wI_sn hk, wI_sn hk, s3_a hb]
    · rw [wI_ne hba, wI_ne hba, s3_a hb]
theorem TX_fr {m m' : MI} (h : TX m r t N a b) (h1 : m' 72 8 = m 72 8) (h2 : m' 72 9 = m 72 9) (h3 : m' a = m a) : TX m' r t N a b := by
  obtain ⟨a1, a2, a3, a4, a5, a6⟩ := h
  exact ⟨a1, by rw [h1]; exact a2, by rw [h2]; exact a3, a4, a5, by rw [h3]; exact a6⟩
theorem M_spot {s : Nat} {x : Int32} (hD : ∀ a, 1000000 ≤ a → D a = none) (hs : s < 7) : f_X12_spotOf (2000000 + s) x (mkH n z D m j r) = some (pr (sptL (strT.getD s []) x 0), (mkH n z D m j r)) := by
  have hl : (strT.getD s []).length ≤ 12 := by
    have : ∀ s, s < 7 → (strT.getD s []).length ≤ 12 := by decide
    exact this s hs
  have lp : ∀ (rem k fuel : Nat), k + rem = (strT.getD s []).length → rem < fuel → f_X12_spotOf_2 fuel (2000000 + s) x (Int32.ofNat k) (mkH n z D m j r) = some (pr (sptL ((strT.getD s []).drop k) x k), (mkH n z D m j r)) := by
    intro rem
    induction rem with
    | zero =>
      intro k fuel hk hf
      obtain ⟨f, rfl⟩ : ∃ f, fuel = f + 1 := ⟨fuel - 1, by omega⟩
      rw [f_X12_spotOf_2.eq_2, sStr_s hs, obs, S_len hD hs, cN_mk, if_pos ((i_le (by omega) (by omega)).mpr (by omega)), List.drop_eq_nil_of_le (by omega)]
      rfl
    | succ rem ih =>
      intro k fuel hk hf
      obtain ⟨f, rfl⟩ : ∃ f, fuel = f + 1 := ⟨fuel - 1, by omega⟩
      have hk' : k < (strT.getD s []).length := by omega
      have ed : (strT.getD s []).drop k = (strT.getD s []).getD k 0 :: (strT.getD s []).drop (k + 1) := by
        rw [List.drop_eq_getElem_cons hk']
        congr 1
        exact getD_g _ k hk'
      rw [f_X12_spotOf_2.eq_2, sStr_s hs, obs, S_len hD hs, cN_mk, if_neg (fun h => by have := (i_le (by omega) (by omega)).mp h; omega), obs, S_char hD hs hk', cN_mk, ed, sptL]
      by_cases hx : (strT.getD s []).getD k 0 = x
      · rw [if_pos hx, if_pos hx]
        rfl
      · rw [if_neg hx, if_neg hx, l1, i_add, ih (k + 1) f (by omega) (by omega)]
  unfold f_X12_spotOf f_X12_spotOf_0
  rw [l0, lp _ 0 fu (Nat.zero_add _) (by unfold fu; omega)]
  rfl
theorem kd_m {s : Nat} (hs : s < 256) : sptL (strT.getD 4 []) (sgI s) 0 = kd s := by
  have : ∀ s, s < 256 → sptL (strT.getD 4 []) (sgI s) 0 = kd s := by decide +kernel
  exact this s hs
theorem kd_c {s : Nat} (hs : s < 256) : sptL (strT.getD 4 []) (Int32.ofNat s) 0 = kd s := by
  have : ∀ s, s < 256 → sptL (strT.getD 4 []) (Int32.ofNat s) 0 = kd s := by decide +kernel
  exact this s hs
theorem M_digit (hT : TX m r t N a b) (hi : i ≤ N) : f_X12_digit 72 (mkH n z D (s3 m (Int32.ofNat i) no1 d) j r) = match pDg t N i with
    | .inl e => some (Int32.ofNat 0, mkH n z D (s3 m (Int32.ofNat e) (Int32.ofNat e) d) j r)
    | .inr q => some (Int32.ofNat q.1, mkH n z D (s3 m (Int32.ofNat q.2) no1 d) j r) := by
  have hk := sk_le (t := t) hi
  have g10 : ∀ y, gI [12] (mkH n z D (s3 m y no1 d) j r) 72 10 = some y := fun y => by rw [q72_10, s3_10]
  have p10 : ∀ y v, pV [12] (mkH n z D (s3 m y no1 d) j r) 72 10 (.int v) = some (mkH n z D (s3 m v no1 d) j r) := fun y v => by rw [q72_p10, w10]
  unfold f_X12_digit f_X12_digit_0 pDg
  rw [q72_c, obs, M_look hT hi, cN_mk, q72_c, obs, M_isDigit hT hk.2, cN_mk]
  by_cases hd : dig t N (sk t N i) = true
  · have hd' : sk t N i < N ∧ 48 ≤ t (sk t N i) ∧ t (sk t N i) ≤ 57 := by
      unfold dig at hd
      simpa [Bool.and_eq_true] using hd
    have esg : sgI (sg t N i) = Int32.ofNat (t (sk t N i)) := by
      have : sg t N i = t (sk t N i) := if_pos hd'.1
      rw [this]
      exact if_neg (by omega)
    rw [if_neg (by simp [hd, bI]), if_pos hd, g10, obs, p10, obs, l1, i_add, esg, l48, i_sub (by omega)]
  · rw [if_pos (by simp [hd, bI]), if_neg hd, q72_c, obs, M_fails0, cN_mk]
    rfl
def F83 (m m' : MI) (R : Nat) : Prop := (∀ a, a ≠ 83 → m' a = m a) ∧ (∀ q, ¬ (R ≤ q ∧ q < R + 3) → m' 83 q = m 83 q)
theorem M_pstep {R : Nat} (hD : ∀ a, 1000000 ≤ a → D a = none) (hT : TX m r t N a b) (hR : R + 3 ≤ 240) (hi : i ≤ N) : match pSt t N i with
    | .inl e => e ≤ 1000 ∧ ∃ m' x, f_X12_readStep 72 (Int32.ofNat R) (mkH n z D (s3 m (Int32.ofNat i) no1 d) j r) = some ((), mkH n z D (s3 m' x (Int32.ofNat e) d) j r) ∧ F83 m m' R
    | .inr q => ∃ m', f_X12_readStep 72 (Int32.ofNat R) (mkH n z D (s3 m (Int32.ofNat i) no1 d) j r) = some ((), mkH n z D (s3 m' (Int32.ofNat q.2) no1 d) j r) ∧ F83 m m' R ∧ (∀ k, k < 3 → m' 83 (R + k) = sv k q.1) := by
  have hN := hT.2.2.2.1
  have hk := sk_le (t := t) hi
  have hs := sg_lt hT hi
  have g10 : ∀ mm y, gI [12] (mkH n z D (s3 mm y no1 d) j r) 72 10 = some y := fun mm y => by rw [q72_10, s3_10]
  have p10 : ∀ mm y v, pV [12] (mkH n z D (s3 mm y no1 d) j r) 72 10 (.int v) = some (mkH n z D (s3 mm v no1 d) j r) := fun mm y v => by rw [q72_p10, w10]
  have g11 : ∀ mm y e, gI [12] (mkH n z D (s3 mm y e d) j r) 72 11 = some e := fun mm y e => by rw [q72_11, s3_11]
  have g24 : ∀ mm, gR [12] (mkH n z D mm j r) 72 24 = some 83 := fun mm => gR_mk rfl (by decide) rfl
  have u83 : ∀ mm y e k v, k < 240 → uI 0 (mkH n z D (s3 mm y e d) j r) 83 (Int32.ofNat k) v = some (mkH n z D (s3 (wI mm 83 k v) y e d) j r) := fun mm y e k v hk => by rw [p83.2 k v hk, s3_w (by omega)]
  have esp : f_X12_spotOf 2000004 (sgI (sg t N i)) (mkH n z D (s3 m (Int32.ofNat (sk t N i)) no1 d) j r) = some (pr (kd (sg t N i)), mkH n z D (s3 m (Int32.ofNat (sk t N i)) no1 d) j r) := by
    rw [show (2000004 : Nat) = 2000000 + 4 from rfl, M_spot hD (by omega), kd_m hs]
  have h4 := kd_le (s := sg t N i)
  have em1 : (-1 : Int32) = no1 := rfl
  unfold f_X12_readStep f_X12_readStep_0 pSt
  rw [q72_c, obs, M_look hT hi, cN_mk, esp, cN_mk]
  by_cases h0 : kd (sg t N i) = 0
  · rw [if_pos h0, if_pos (show pr (kd (sg t N i)) = -1 by rw [h0]; rfl), q72_c, obs, M_fails0, cN_mk]
    exact ⟨by omega, m, _, rfl, fun _ _ => rfl, fun _ _ => rfl⟩
  · have hp := sg_pos (t := t) (N := N) (i := i) (by intro e; rw [e] at h0; exact h0 rfl)
    obtain ⟨k0, hk0⟩ : ∃ k0, kd (sg t N i) = k0 + 1 := ⟨kd (sg t N i) - 1, by omega⟩
    rw [if_neg h0, if_neg (show ¬ pr (kd (sg t N i)) = -1 from fun h => h0 ((pr_no (by omega)).mp h)), hk0, pr_s, g10, obs, p10, obs, l1, i_add, g24, obs, u83 _ _ _ _ _ (by omega), obs, g24, obs, i_add, no1_e, u83 _ _ _ _ _ (by omega), obs, g24, obs, l2, i_add, u83 _ _ _ _ _ (by omega), obs]
    generalize hm1 : wI (wI (wI m 83 R (Int32.ofNat k0)) 83 (R + 1) no1) 83 (R + 2) no1 = m1
    have fr1 : F83 m m1 R := ⟨fun a ha => by rw [← hm1, wI_ne ha, wI_ne ha, wI_ne ha], fun q hq => by rw [← hm1, wI_sn (by omega), wI_sn (by omega), wI_sn (by omega)]⟩
    have e0 : m1 83 R = Int32.ofNat k0 := by rw [← hm1, wI_sn (by omega), wI_sn (by omega), wI_se]
    have e1 : m1 83 (R + 1) = no1 := by rw [← hm1, wI_sn (by omega), wI_se]
    have e2 : m1 83 (R + 2) = no1 := by rw [← hm1, wI_se]
    have hT1 : TX m1 r t N a b := TX_fr hT (by rw [fr1.1 72 (by omega)]) (by rw [fr1.1 72 (by omega)]) (fr1.1 a (by have := hT.2.2.2.2.1; omega))
    by_cases hk1 : k0 = 0
    · rw [if_pos (show Int32.ofNat k0 = 0 by rw [hk1]; rfl), if_pos (by omega)]
      refine ⟨m1, rfl, fr1, fun k hk => ?_⟩
      have : k = 0 ∨ k = 1 ∨ k = 2 := by omega
      rcases this with rfl | rfl | rfl
      · rw [Nat.add_zero, e0, hk1]; rfl
      · rw [e1]; rfl
      · rw [e2]; rfl
    · rw [if_neg (show ¬ Int32.ofNat k0 = 0 by rw [l0, i_inj (by omega) (by omega)]; exact hk1), if_neg (by omega), g24, obs, q72_c, obs, M_digit hT1 (by omega)]
      cases hd : pDg t N (sk t N i + 1) with
      | inl e =>
        have he := pDg_e hd (by omega)
        dsimp only
        rw [cN_mk, u83 _ _ _ _ _ (by omega), obs, g11, obs, if_neg (show ¬ Int32.ofNat e = no1 from fun h => (no1_ne (by omega)).mp h)]
        refine ⟨by omega, _, _, rfl, fun a ha => by rw [wI_ne ha, fr1.1 a ha], fun q hq => by rw [wI_sn (by omega), fr1.2 q hq]⟩
      | inr q =>
        obtain ⟨av, j1⟩ := q
        have hb := pDg_b hd (by omega)
        dsimp only
        rw [cN_mk, u83 _ _ _ _ _ (by omega), obs, g11, obs, if_pos rfl]
        generalize hm2 : wI m1 83 (R + 1) (Int32.ofNat av) = m2
        have fr2 : F83 m m2 R := ⟨fun a ha => by rw [← hm2, wI_ne ha, fr1.1 a ha], fun q hq => by rw [← hm2, wI_sn (by omega), fr1.2 q hq]⟩
        have f0 : m2 83 R = Int32.ofNat k0 := by rw [← hm2, wI_sn (by omega), e0]
        have f1 : m2 83 (R + 1) = Int32.ofNat av := by rw [← hm2, wI_se]
        have f2 : m2 83 (R + 2) = no1 := by rw [← hm2, wI_sn (by omega), e2]
        have hT2 : TX m2 r t N a b := TX_fr hT (by rw [fr2.1 72 (by omega)]) (by rw [fr2.1 72 (by omega)]) (fr2.1 a (by have := hT.2.2.2.2.1; omega))
        unfold pSt1
        dsimp only
        by_cases hk2 : k0 = 1
        · rw [if_pos (show Int32.ofNat k0 = Int32.ofNat 1 by rw [hk2]), if_pos (by omega), g24, obs, q72_c, obs, M_digit hT2 hb.2.2]
          cases hd2 : pDg t N j1 with
          | inl e =>
            have he := pDg_e hd2 hb.2.2
            dsimp only [pSt2]
            rw [cN_mk, u83 _ _ _ _ _ (by omega), obs]
            refine ⟨by omega, _, _, rfl, fun a ha => by rw [wI_ne ha, fr2.1 a ha], fun q hq => by rw [wI_sn (by omega), fr2.2 q hq]⟩
          | inr q =>
            obtain ⟨bv, j2⟩ := q
            have hb2 := pDg_b hd2 hb.2.2
            dsimp only [pSt2]
            rw [cN_mk, u83 _ _ _ _ _ (by omega), obs]
            refine ⟨_, rfl, ⟨fun a ha => by rw [wI_ne ha, fr2.1 a ha], fun q hq => by rw [wI_sn (by omega), fr2.2 q hq]⟩, fun k hk => ?_⟩
            have : k = 0 ∨ k = 1 ∨ k = 2 := by omega
            rcases this with rfl | rfl | rfl
            · rw [wI_sn (by omega), Nat.add_zero, f0, hk2]; rfl
            · rw [wI_sn (by omega), f1]; rfl
            · rw [wI_se]; rfl
        · rw [if_neg (show ¬ Int32.ofNat k0 = Int32.ofNat 1 by rw [i_inj (by omega) (by omega)]; exact hk2), if_neg (by omega)]
          refine ⟨m2, rfl, fr2, fun k hk => ?_⟩
          have : k = 0 ∨ k = 1 ∨ k = 2 := by omega
          rcases this with rfl | rfl | rfl
          · rw [Nat.add_zero, f0]; simp [sv]
          · rw [f1]; simp [sv, hk1]
          · rw [f2]; simp [sv, hk2]
end MPL
