/-! The class reads a law: sums. -/
def sptL : List Int32 → Int32 → Nat → Nat
  | [], _, _ => 0
  | y :: l, x, k => if y = x then k + 1 else sptL l x (k + 1)
section CLW
variable {n z : Nat} {D : Dyn} {m : MI} {j : MJ} {r : MR} {t : Nat → Nat} {N i o : Nat} {x w : Int32}
theorem ch_8 {c ch : Nat} (hc : c < 128) (hh : ch < 256) : (Int32.ofNat c = (Int32.ofNat ch).toInt8.toInt32) ↔ Int32.ofNat c = Int32.ofNat ch := by
  have h1 : ∀ ch, ch < 128 → (Int32.ofNat ch).toInt8.toInt32 = Int32.ofNat ch := by decide +kernel
  have h2 : ∀ ch, ch < 128 → (Int32.ofNat (128 + ch)).toInt8.toInt32 < 0 := by decide +kernel
  by_cases h : ch < 128
  · rw [h1 ch h]
  · obtain ⟨d, rfl⟩ : ∃ d, ch = 128 + d := ⟨ch - 128, by omega⟩
    have h3 := h2 d (by omega)
    rw [i_inj (by omega) (by omega)]
    constructor
    · intro e
      rw [← e] at h3
      exact absurd h3 (i_nn (by omega))
    · intro e; omega
theorem ch_16 {ch : Nat} (hh : ch < 256) : ((Int32.ofNat ch).toUInt32 % 65536).toInt32 = Int32.ofNat ch := by
  have : ∀ ch, ch < 256 → ((Int32.ofNat ch).toUInt32 % 65536).toInt32 = Int32.ofNat ch := by decide +kernel
  exact this ch hh
theorem S_index {s ch : Nat} (hD : ∀ a, 1000000 ≤ a → D a = none) (hs : s < 6) (hh : ch < 256) : f_J0_indexOf_0f7a4 (2000000 + s) (Int32.ofNat ch) (mkH n z D m j r) = some (pr (sptL (strT.getD s []) (Int32.ofNat ch) 0), (mkH n z D m j r)) := by
  have hl : (strT.getD s []).length ≤ 12 := by
    have : ∀ s, s < 7 → (strT.getD s []).length ≤ 12 := by decide
    exact this s (by omega)
  have hl1 : 0 < (strT.getD s []).length := by
    have : ∀ s, s < 6 → 0 < (strT.getD s []).length := by decide
    exact this s hs
  have lp : ∀ (rem k fuel : Nat), k + rem = (strT.getD s []).length → rem < fuel → f_J1_indexOfChar_4cfef_7 fuel (3000000 + s) (Int32.ofNat (strT.getD s []).length) ((Int32.ofNat ch).toInt8.toInt32) (Int32.ofNat k) (mkH n z D m j r) = some (pr (sptL ((strT.getD s []).drop k) (Int32.ofNat ch) k), (mkH n z D m j r)) := by
    intro rem
    induction rem with
    | zero =>
      intro k fuel hk hf
      obtain ⟨f, rfl⟩ : ∃ f, fuel = f + 1 := ⟨fuel - 1, by omega⟩
      rw [f_J1_indexOfChar_4cfef_7.eq_2, if_pos ((i_le (by omega) (by omega)).mpr (by omega)), List.drop_eq_nil_of_le (by omega)]
      rfl
    | succ rem ih =>
      intro k fuel hk hf
      obtain ⟨f, rfl⟩ : ∃ f, fuel = f + 1 := ⟨fuel - 1, by omega⟩
      have hk' : k < (strT.getD s []).length := by omega
      obtain ⟨c, hc, hc1, ec⟩ := S_all s (by omega) k hk'
      have ed : (strT.getD s []).drop k = (strT.getD s []).getD k 0 :: (strT.getD s []).drop (k + 1) := by
        rw [List.drop_eq_getElem_cons hk']
        congr 1
        exact getD_g _ k hk'
      rw [f_J1_indexOfChar_4cfef_7.eq_2, if_neg (fun h => by have := (i_le (by omega) (by omega)).mp h; omega), (hD_s hD (by omega)).2 k hk', obs, ed, ec, sptL]
      by_cases he : Int32.ofNat c = Int32.ofNat ch
      · rw [if_pos ((ch_8 hc hh).mpr he), if_pos he]
        rfl
      · rw [if_neg (fun h => he ((ch_8 hc hh).mp h)), if_neg he, l1, i_add, ih (k + 1) f (by omega) (by omega)]
  have e0 : sptL ((strT.getD s []).drop 0) (Int32.ofNat ch) 0 = sptL (strT.getD s []) (Int32.ofNat ch) 0 := rfl
  have hlp := lp (strT.getD s []).length 0 fu (Nat.zero_add _) (by unfold fu; omega)
  rw [e0] at hlp
  have hcan : f_J1_canEncode_9a6ad (Int32.ofNat ch) (mkH n z D m j r) = some (1, (mkH n z D m j r)) := by
    unfold f_J1_canEncode_9a6ad f_J1_canEncode_9a6ad_0
    rw [if_neg (i_nn (by omega)), if_neg (by rw [l255, i_lt (by omega) (by omega)]; omega)]
  have hmax : f_J9_max_7cf53 0 0 (mkH n z D m j r) = some (Int32.ofNat 0, (mkH n z D m j r)) := by
    unfold f_J9_max_7cf53 f_J9_max_7cf53_0
    split <;> rfl
  have hidx : f_J1_indexOfChar_4cfef (3000000 + s) (Int32.ofNat ch) (Int32.ofNat 0) (Int32.ofNat (strT.getD s []).length) (mkH n z D m j r) = some (pr (sptL (strT.getD s []) (Int32.ofNat ch) 0), (mkH n z D m j r)) := by
    unfold f_J1_indexOfChar_4cfef f_J1_indexOfChar_4cfef_0
    exact hlp
  have hj1 : f_J1_indexOf_4cfef (3000000 + s) (Int32.ofNat ch) 0 (Int32.ofNat (strT.getD s []).length) (mkH n z D m j r) = some (pr (sptL (strT.getD s []) (Int32.ofNat ch) 0), (mkH n z D m j r)) := by
    unfold f_J1_indexOf_4cfef f_J1_indexOf_4cfef_0
    rw [hcan, cN_mk, if_neg (by decide), hmax, cN_mk, (hD_s hD (by omega)).1, obs, J_min (by omega) (by omega), cN_mk, Nat.min_self, if_pos ((i_lt (by omega) (by omega)).mpr hl1), hidx, cN_mk]
  have hlat : f_J0_isLatin1_aae02 (2000000 + s) (mkH n z D m j r) = some (1, (mkH n z D m j r)) := by
    unfold f_J0_isLatin1_aae02 f_J0_isLatin1_aae02_0
    rw [if_neg (by decide), if_pos rfl, sStr_s (by omega)]
    rfl
  have hj7 : f_J0_indexOf_7cf53 (2000000 + s) (Int32.ofNat ch) 0 (mkH n z D m j r) = some (pr (sptL (strT.getD s []) (Int32.ofNat ch) 0), (mkH n z D m j r)) := by
    unfold f_J0_indexOf_7cf53 f_J0_indexOf_7cf53_0
    rw [sStr_s (by omega), obs, hlat, cN_mk, if_neg (by decide), obs, obs, S_len hD (by omega), cN_mk, hj1, cN_mk]
  unfold f_J0_indexOf_0f7a4 f_J0_indexOf_0f7a4_0
  rw [sStr_s (by omega), obs, hj7, cN_mk]
theorem C_emit {c : List Nat} {op : Nat} (h : c.length < 240) : f_X2_emit 14 (Int32.ofNat op) (mkH n z D (rs (lb m c) 14 x w) j r) = some ((), mkH n z D (rs (lb m (c ++ [op])) 14 x w) j r) := by
  unfold f_X2_emit f_X2_emit_0
  have e4 : rs (lb m c) 14 x w 14 4 = Int32.ofNat c.length := by rw [rs_o (by omega) (by omega), lb_4]
  have el : aLen (mkH n z D (rs (lb m c) 14 x w) j r) 15 = some (Int32.ofNat 240) := aLen_mk rfl (by decide)
  simp (disch := omega) only [obs, cN_mk, ite_true, ite_false, if_true, if_false, q14, e4, el, i_le, p15, wI_ne, l1, i_add, lb_app]
  rw [if_neg (by omega)]
def KO (n z : Nat) (D : Dyn) (m : MI) (j : MJ) (r : MR) (res : Option (Int32 × AH)) (p : PR) (w : Int32) (c0 : List Nat) : Prop := match p with
  | .inl e => ∃ x c, res = some (Int32.ofNat 0, mkH n z D (rs (lb m c) 14 x (Int32.ofNat e)) j r)
  | .inr q => res = some (Int32.ofNat 1, mkH n z D (rs (lb m (c0 ++ q.1)) 14 (Int32.ofNat q.2) w) j r)
theorem ltr_i {s : Nat} (hs : s < 256) : sptL (strT.getD 3 []) (Int32.ofNat s) 0 = if ltr s < 6 then ltr s + 1 else 0 := by
  have : ∀ s, s < 256 → sptL (strT.getD 3 []) (Int32.ofNat s) 0 = if ltr s < 6 then ltr s + 1 else 0 := by decide +kernel
  exact this s hs
theorem o14 : 14 = 3 ∨ 14 = 14 ∨ 14 = 16 := Or.inr (Or.inl rfl)
theorem C_atom {fS : Nat → Int32 → AH → Option (Int32 × AH)} {sumf : Nat → PR} {k d : Nat} {c0 : List Nat} (hD : ∀ a, 1000000 ≤ a → D a = none) (hT : TC m t N) (hdk : d + k = 6) (hS : k ≠ 0 → ∀ i c0, i ≤ N → c0.length ≤ i → KO n z D m j r (fS 14 (Int32.ofNat (d + 1)) (mkH n z D (rs (lb m c0) 14 (Int32.ofNat i) w) j r)) (sumf i) w c0) (hP : k ≠ 0 → ∀ i, i ≤ N → PA N i (sumf i) 1) (hi : i ≤ N) (hc0 : c0.length ≤ i) :
    KO n z D m j r (f_X2_readsAtom fS 14 (Int32.ofNat d) (mkH n z D (rs (lb m c0) 14 (Int32.ofNat i) w) j r)) (pAtom t N sumf k i) w c0 := by
  have hTl := TC_lb (c := c0) hT
  have hs := sg_ltC (i := i) hT
  have hN := hT.2.1
  have hk := sk_le (t := t) hi
  have c14 : ∀ (m : MI), isC [2] (mkH n z D m j r) 14 = some () := fun m => isC_mk rfl (by decide)
  unfold f_X2_readsAtom f_X2_readsAtom_0 pAtom
  rw [c14, obs, C_sign o14 hTl hi, cN_mk]
  by_cases h91 : sg t N i = 91
  · have hp := sg_pos (t := t) (N := N) (i := i) (by omega)
    have e91 : sgI (sg t N i) = 91 := by rw [l91]; exact (sgI_c hs (by omega) (by omega)).mpr h91
    rw [if_pos e91, if_neg (show ¬ ltr (sg t N i) < 6 by rw [h91]; decide), if_pos h91]
    by_cases hk0 : k = 0
    · rw [if_pos hk0, if_neg (by rw [l6, i_lt (by omega) (by omega)]; omega)]
      simp (disch := omega) only [obs, cN_mk, ite_true, ite_false, if_true, if_false, q14, rs_1, C_fails o14, rZ0]
      exact ⟨_, _, rfl⟩
    · rw [if_neg hk0, if_pos (by rw [l6, i_lt (by omega) (by omega)]; omega)]
      simp (disch := omega) only [obs, cN_mk, ite_true, ite_false, if_true, if_false, q14, rs_1, v1, l1, i_add]
      have hm := hS hk0 (sk t N i + 1) c0 (by omega) (by omega)
      have hpa := hP hk0 (sk t N i + 1) (by omega)
      cases hx : sumf (sk t N i + 1) with
      | inl e =>
        rw [hx] at hm
        obtain ⟨x, c, hv⟩ := hm
        rw [hv, cN_mk, if_pos (show Int32.ofNat 0 = 0 from rfl)]
        exact ⟨_, _, rfl⟩
      | inr q =>
        obtain ⟨c, j1⟩ := q
        rw [hx] at hm
        have hm' : fS 14 (Int32.ofNat (d + 1)) (mkH n z D (rs (lb m c0) 14 (Int32.ofNat (sk t N i + 1)) w) j r) = some (Int32.ofNat 1, mkH n z D (rs (lb m (c0 ++ c)) 14 (Int32.ofNat j1) w) j r) := hm
        have hj := hpa c j1 hx
        have hTc := TC_lb (c := c0 ++ c) hT
        rw [hm', cN_mk, if_neg (show ¬ Int32.ofNat 1 = 0 by decide), c14, obs, l93, C_takes o14 hTc hj.2.1 (by omega) (by omega)]
        show KO n z D m j r _ (pTk t N 93 c j1) w c0
        unfold pTk
        by_cases h93 : sg t N j1 = 93
        · rw [if_pos h93, if_pos h93, cN_mk, if_neg (show ¬ Int32.ofNat 1 = 0 by decide)]
          rfl
        · rw [if_neg h93, if_neg h93, cN_mk, if_pos (show Int32.ofNat 0 = 0 from rfl)]
          exact ⟨_, _, rfl⟩
  · have e91 : ¬ sgI (sg t N i) = 91 := by rw [l91]; exact fun h => h91 ((sgI_c hs (by omega) (by omega)).mp h)
    rw [if_neg e91]
    have h77 : ∀ p, p = (if ltr (sg t N i) < 6 then ltr (sg t N i) + 1 else 0) → KO n z D m j r (f_X2_readsAtom_77 fS 14 (pr p) (mkH n z D (rs (lb m c0) 14 (Int32.ofNat (sk t N i)) w) j r)) (if ltr (sg t N i) < 6 then .inr ([10000 + ltr (sg t N i)], sk t N i + 1) else if sg t N i = 91 then (if k = 0 then .inl (sk t N i) else bnd (sumf (sk t N i + 1)) (pTk t N 93)) else pNum t N 4 (sk t N i)) w c0 := by
      intro p hp
      unfold f_X2_readsAtom_77
      by_cases hl : ltr (sg t N i) < 6
      · have hp1 := sg_pos (t := t) (N := N) (i := i) (by intro e; rw [e] at hl; simp [ltr] at hl)
        rw [if_pos hl] at hp
        rw [hp, pr_s, if_neg (i_nn (by omega)), if_pos hl]
        have el : (10000 : Int32) + Int32.ofNat (ltr (sg t N i)) = Int32.ofNat (10000 + ltr (sg t N i)) := by rw [l10000, i_add]
        simp (disch := omega) only [obs, cN_mk, ite_true, ite_false, if_true, if_false, q14, rs_1, v1, l1, i_add, el, C_emit]
        rfl
      · rw [if_neg hl] at hp
        rw [hp, pr_0, if_pos (show no1 < 0 by decide), if_neg hl, if_neg h91, c14, obs, l4, C_number o14 hTl (by omega) hk.2, sk_sk hi]
        cases hx : pNum t N 4 (sk t N i) with
        | inl e =>
          dsimp only
          rw [cN_mk, if_pos (show no1 = -1 from rfl)]
          exact ⟨_, _, rfl⟩
        | inr q =>
          obtain ⟨c, j1⟩ := q
          have hpa := PA_num (t := t) (q := 4) hk.2 c j1 hx
          have hc : c = [(nm t N 4 (sk t N i) 0).1] := by
            unfold pNum at hx
            split at hx
            · exact absurd hx (by simp)
            · simp only [Sum.inr.injEq, Prod.mk.injEq] at hx
              exact hx.1.symm
          have b256 : ∀ p, p < N → t p < 256 := fun p hp => (hT.2.2 p hp).2.2
          have hval := nm_val (t := t) (N := N) 4 (sk t N i) 0 b256
          have hl1 : c.length = 1 := by rw [hc]; rfl
          dsimp only
          rw [cN_mk, if_neg (show ¬ Int32.ofNat (nm t N 4 (sk t N i) 0).1 = -1 from fun h => (no1_ne (by omega)).mp h), c14, obs, C_emit (by omega), cN_mk, hc]
          rfl
    by_cases h0 : sg t N i = 0
    · have e1 : sgI (sg t N i) = -1 := by rw [h0]; rfl
      rw [if_pos e1]
      exact h77 0 (by rw [h0]; rfl)
    · have e1 : ¬ sgI (sg t N i) = -1 := fun h => h0 ((sgI_n hs).mp h)
      have es : sgI (sg t N i) = Int32.ofNat (sg t N i) := if_neg h0
      rw [if_neg e1, show (2000003 : Nat) = 2000000 + 3 from rfl, sStr_s (by omega), obs, es, ch_16 hs, S_index hD (by omega) hs, cN_mk]
      exact h77 _ (ltr_i hs)
end CLW
