/-! The model's day, whole. -/
section MDAYB
variable {n z : Nat} {D : Dyn} {m : MI} {j : MJ} {r : MR} {pl : Pl} {LM : MI → MJ → Prop} {C P : Nat} {τ σ : Sg} {w p c : Nat}
theorem M_days6 (hL : LMok n z D pl LM) (hw : w = 85 ∨ w = 86) (hW : WY C P τ) (hS : WS C P 1999 σ) : ∀ (rem p fuel : Nat) (m : MI) (j : MJ) (r : MR), rem < fuel → p + rem = P → LM m j → YM m C P τ → MS (m w) (cur (ax pl C τ σ) σ p) C P → m 72 39 = Int32.ofNat (dy pl C τ σ p).1 → m 72 40 = Int32.ofNat (dy pl C τ σ p).2.1 → m 72 41 = Int32.ofNat (dy pl C τ σ p).2.2 → (∀ i, i < 6 → m 89 i = pr (if i < p then ax pl C τ σ i else 0)) →
    ∃ m' j' r', f_X12_goDay_6 fuel 72 w (Int32.ofNat p) (mkH n z D m j r) = f_X12_goDay_28 fu 72 w (Int32.ofNat 0) (mkH n z D m' j' r') ∧ LM m' j' ∧ FD w m m' j j' r r' ∧ MS (m' w) (cur (ax pl C τ σ) σ P) C P ∧ (∀ i, 31 ≤ i → m' w i = m w i) ∧ m' 72 40 = Int32.ofNat (dy pl C τ σ P).2.1 ∧ m' 72 41 = Int32.ofNat (dy pl C τ σ P).2.2 ∧ (∀ i, i < 6 → m' 89 i = pr (if i < P then ax pl C τ σ i else 0)) := by
  intro rem
  induction rem with
  | zero =>
    intro p fuel m j r hf hp hl hY hM h39 h40 h41 h89
    obtain ⟨f, rfl⟩ : ∃ f, fuel = f + 1 := ⟨fuel - 1, by omega⟩
    have hpP : p = P := by omega
    subst hpP
    refine ⟨m, j, r, ?_, hl, FD_refl, hM, fun _ _ => rfl, h40, h41, h89⟩
    have hP := hW.2.1
    rw [f_X12_goDay_6.eq_2]
    simp (disch := omega) only [obs, cN_mk, ite_true, ite_false, if_true, if_false, q72, hY.2.1, l0, i_le]
    rw [if_pos (by omega)]
  | succ rem ih =>
    intro p fuel m j r hf hp hl hY hM h39 h40 h41 h89
    obtain ⟨f, rfl⟩ : ∃ f, fuel = f + 1 := ⟨fuel - 1, by omega⟩
    have hP := hW.2.1
    have hC := hW.1
    have hpP : p < P := by omega
    have h2 := hW.2.2.1 (by omega)
    have dl := dy_lt (pl := pl) (σ := σ) hW p (by omega)
    have s2 := hS.2.1 p hpP
    have tk64 : (dy pl C τ σ p).2.1 < 64 := Nat.lt_of_lt_of_le dl.2.1 (show 2 ^ p ≤ 2 ^ 6 from Nat.pow_le_pow_right (by omega) (by omega))
    have hwl := wln_lt (C := C) (τ := τ) (p := p) (w := σ 4 p) h2
    obtain ⟨m1, j1, r1, e1, hl1, hf1, a1, a2, a3, a4, a5⟩ := M_walk (x := cns (ax pl C τ σ) (σ 6 0) p) hL hw hW hS hpP s2.2.2 tk64 (cns_le _ hS.2.2.2.1 p) (wln C τ p (σ 4 p)) 1 fu (dy pl C τ σ p).1 (dy pl C τ σ p).2.2 m j r (by unfold fu; omega) (by omega) (by omega) hl hY dl.1 (by omega) h39 h40 h41
      (fun c hc => by rw [(hM.1 c hc).1]; simp [cur]) (fun c hc hb => by
        rw [(hM.1 c hc).2]
        have hu : usd (ax pl C τ σ) p c = false := by
          cases hu : usd (ax pl C τ σ) p c with
          | false => rfl
          | true => rw [usd_bit p c hu] at hb; exact absurd hb (by decide)
        simp [cur, hu]) (by rw [(hM.2.1 p hpP).1]; simp [cur]) (by rw [(hM.2.1 p hpP).2.1]; simp [cur]) (by rw [hM.2.2.1]; simp [cur]) (by rw [hM.2.2.2.1]; simp [cur]) (by rw [hM.2.2.2.2]; simp [cur])
    have hax : (wk pl C τ σ p (σ 4 p) (wln C τ p (σ 4 p)) 1 (dy pl C τ σ p).1 (dy pl C τ σ p).2.2).2.2 = ax pl C τ σ p := rfl
    rw [hax] at a2 a4 a5
    have hY1 := YM_fd hw hY hf1
    have htk := MS_tk (σ := σ) (at_ := ax pl C τ σ) hC hP hM hpP (fun c hc => ⟨by have := ax_le (pl := pl) (σ := σ) hW hpP; omega, ax_usd hc⟩)
    rw [← a5] at htk
    obtain ⟨m2, j2, r2, e2, hl2, hf2, b1, b2, b3, b4, b5⟩ := ih (p + 1) f m1 j1 r1 (by omega) (by omega) hl1 hY1 htk.1 a1 a2 a3 (fun i hi => by
      rw [a4]
      by_cases h0 : ax pl C τ σ p = 0
      · rw [if_pos h0, h89 i hi]
        by_cases hip : i = p
        · subst hip; simp [h0]
        · by_cases hlt : i < p
          · rw [if_pos hlt, if_pos (by omega)]
          · rw [if_neg hlt, if_neg (by omega)]
      · rw [if_neg h0]
        by_cases hip : i = p
        · subst hip
          simp [upd, pr, h0]
        · simp only [upd, hip, if_false]
          rw [h89 i hi]
          by_cases hlt : i < p
          · rw [if_pos hlt, if_pos (by omega)]
          · rw [if_neg hlt, if_neg (by omega)])
    refine ⟨m2, j2, r2, ?_, hl2, FD_tr hf1 hf2, b1, fun i hi => (b2 i hi).trans (htk.2 i hi), b3, b4, b5⟩
    rw [f_X12_goDay_6.eq_2]
    have e4 := (hM.2.1 p hpP).2.2
    have c4 : cur (ax pl C τ σ) σ p 4 p = σ 4 p := by simp [cur]
    rw [c4] at e4
    have eg : f_X12_goWalk 72 w (Int32.ofNat p) (mkH n z D m j r) = some ((), mkH n z D m1 j1 r1) := by
      unfold f_X12_goWalk f_X12_goWalk_0
      simp (disch := omega) only [l2, l1, M_folk hw, obs, cN_mk, ite_true, ite_false, if_true, if_false, e4, e1]
    simp (disch := omega) only [obs, cN_mk, ite_true, ite_false, if_true, if_false, q72, hY.2.1, l1, i_le, eg, i_add, e2]
    rw [if_neg (by omega)]
theorem M_28 (hw : w = 85 ∨ w = 86) (hW : WY C P τ) {at_ : Nat → Nat} {tk : Nat} (htk : tk < 64) (hat : ∀ p, p < P → (tk.testBit p = true ↔ at_ p ≠ 0)) (hS : ∀ p, p < P → σ 2 p ≤ 9) : ∀ (rem q fuel : Nat) (m : MI), rem < fuel → q + rem = P → YM m C P τ → m 72 40 = Int32.ofNat tk → MS (m w) (wry at_ σ q) C P →
    ∃ m' fuel', 0 < fuel' ∧ f_X12_goDay_28 fuel 72 w (Int32.ofNat q) (mkH n z D m j r) = f_X12_goDay_28 fuel' 72 w (Int32.ofNat P) (mkH n z D m' j r) ∧ (∀ a, a ≠ w → m' a = m a) ∧ MS (m' w) (wry at_ σ P) C P ∧ (∀ i, 31 ≤ i → m' w i = m w i) := by
  intro rem
  induction rem with
  | zero =>
    intro q fuel m hf hq hY h40 hM
    have : q = P := by omega
    subst this
    exact ⟨m, fuel, by omega, rfl, fun _ _ => rfl, hM, fun _ _ => rfl⟩
  | succ rem ih =>
    intro q fuel m hf hq hY h40 hM
    obtain ⟨f, rfl⟩ : ∃ f, fuel = f + 1 := ⟨fuel - 1, by omega⟩
    have hP := hW.2.1
    have hC := hW.1
    have hqP : q < P := by omega
    have hs := hS q hqP
    have h2 := (hM.2.1 q hqP).1
    have e2 : wry at_ σ q 2 q = σ 2 q := by simp [wry]
    rw [e2] at h2
    have hb := hat q hqP
    by_cases h0 : at_ q = 0
    · have hM' : MS (m w) (wry at_ σ (q + 1)) C P := by
        have e : wry at_ σ (q + 1) = wry at_ σ q := by
          funext k i
          unfold wry
          by_cases k2 : k = 2
          · have : (i < q + 1 ∧ at_ i ≠ 0) = (i < q ∧ at_ i ≠ 0) := by
              apply propext
              constructor
              · rintro ⟨h1, h3⟩
                refine ⟨?_, h3⟩
                by_cases hi : i = q
                · rw [hi] at h3; exact absurd h0 h3
                · omega
              · rintro ⟨h1, h2⟩; exact ⟨by omega, h2⟩
            simp [k2, this]
          · simp [k2]
        rw [e]; exact hM
      obtain ⟨m', fuel', hf', e', h1, h3, h4⟩ := ih (q + 1) f m (by omega) (by omega) hY h40 hM'
      refine ⟨m', fuel', hf', ?_, h1, h3, h4⟩
      rw [← e', f_X12_goDay_28.eq_2]
      have hbf : tk.testBit q = false := by
        cases hx : tk.testBit q with
        | false => rfl
        | true => exact absurd h0 (hb.mp hx)
      simp (disch := omega) only [obs, cN_mk, ite_true, ite_false, if_true, if_false, q72, hY.2.1, i_le, h40, M_has, hbf, l0, bI_0, reduceIte, f_X12_goDay_70, l1, i_add]
      rw [if_neg (by omega)]
    · have hbt : tk.testBit q = true := hb.mpr h0
      have hM' : MS (wI m w (10 + 3 * q) (Int32.ofNat (min 9 (σ 2 q + 1))) w) (wry at_ σ (q + 1)) C P := by
        obtain ⟨a1, a2, a5, a6, a7⟩ := hM
        have ek : ∀ k i, k ≠ 2 → wry at_ σ (q + 1) k i = wry at_ σ q k i := by
          intro k i hk; simp [wry, hk]
        refine ⟨fun d hd => ⟨?_, ?_⟩, fun p hp => ⟨?_, ?_, ?_⟩, ?_, ?_, ?_⟩
        · rw [wI_sn (by omega), ek _ _ (by omega)]; exact (a1 d hd).1
        · rw [wI_sn (by omega), ek _ _ (by omega)]; exact (a1 d hd).2
        · by_cases hpq : p = q
          · subst hpq
            rw [wI_se]
            simp [wry, h0]
          · rw [wI_sn (by omega), (a2 p hp).1]
            have : (p < q + 1 ∧ at_ p ≠ 0) = (p < q ∧ at_ p ≠ 0) := by
              apply propext
              constructor
              · rintro ⟨h1, h2⟩; exact ⟨by omega, h2⟩
              · rintro ⟨h1, h2⟩; exact ⟨by omega, h2⟩
            simp [wry, this]
        · rw [wI_sn (by omega), ek _ _ (by omega)]; exact (a2 p hp).2.1
        · rw [wI_sn (by omega), ek _ _ (by omega)]; exact (a2 p hp).2.2
        · rw [wI_sn (by omega), ek _ _ (by omega)]; exact a5
        · rw [wI_sn (by omega), ek _ _ (by omega)]; exact a6
        · rw [wI_sn (by omega), ek _ _ (by omega)]; exact a7
      obtain ⟨m', fuel', hf', e', h1, h3, h4⟩ := ih (q + 1) f (wI m w (10 + 3 * q) (Int32.ofNat (min 9 (σ 2 q + 1)))) (by omega) (by omega) (YM_fr hY (wI_ne (by omega)) (wI_ne (by omega)) (by rw [wI_ne (by omega)]) (by rw [wI_ne (by omega)])) (by rw [wI_ne (by omega)]; exact h40) hM'
      refine ⟨m', fuel', hf', ?_, fun a ha => by rw [h1 a ha, wI_ne ha], h3, fun i hi => by rw [h4 i hi, wI_sn (by omega)]⟩
      rw [← e', f_X12_goDay_28.eq_2]
      simp (disch := omega) only [obs, cN_mk, ite_true, ite_false, if_true, if_false, q72, hY.2.1, i_le, h40, M_has, hbt, l0, bI_0, reduceIte, f_X12_goDay_70, l1, l3, l9, l10, i_add, i_mul, M_folk hw, Nat.add_zero, h2, J_min, pw hw, Bool.true_eq_false]
      rw [if_neg (by omega)]
theorem M_95 (hw : w = 85 ∨ w = 86) : ∀ (rem k fuel : Nat) (m : MI), rem < fuel → k + rem = 178 → 1 ≤ k → ∃ m' fuel', 0 < fuel' ∧ f_X12_goDay_95 fuel 72 w (Int32.ofNat k) (mkH n z D m j r) = f_X12_goDay_95 fuel' 72 w (Int32.ofNat 178) (mkH n z D m' j r) ∧ (∀ a, a ≠ w → m' a = m a) ∧ (∀ i, m' w i = if 31 + k ≤ i ∧ i < 209 then m w (i + 3) else m w i) := by
  intro rem
  induction rem with
  | zero =>
    intro k fuel m hf hk hk1
    have : k = 178 := by omega
    subst this
    exact ⟨m, fuel, by omega, rfl, fun _ _ => rfl, fun i => by rw [if_neg (by omega)]⟩
  | succ rem ih =>
    intro k fuel m hf hk hk1
    obtain ⟨f, rfl⟩ : ∃ f, fuel = f + 1 := ⟨fuel - 1, by omega⟩
    obtain ⟨m', fuel', hf', e', h1, h2⟩ := ih (k + 1) f (wI m w (31 + k) (m w (31 + k + 3))) (by omega) (by omega) (by omega)
    refine ⟨m', fuel', hf', ?_, fun a ha => by rw [h1 a ha, wI_ne ha], fun i => ?_⟩
    · have h177 : ¬ ((177 : Int32) < Int32.ofNat k) := by
        rw [l177, i_lt (by omega) (by omega)]
        omega
      rw [← e', f_X12_goDay_95.eq_2, if_neg h177]
      simp (disch := omega) only [obs, cN_mk, ite_true, ite_false, if_true, if_false, l31, l3, l1, i_add, pw hw]
    · rw [h2]
      by_cases hi : i = 31 + k
      · subst hi
        rw [if_neg (by omega), if_pos (by omega), wI_se]
      · by_cases hi2 : 31 + k ≤ i ∧ i < 209
        · rw [if_pos hi2, if_pos (by omega), wI_sn (by omega)]
        · rw [if_neg hi2, if_neg (by omega), wI_sn (by omega)]
theorem M_95e (hw : w = 85 ∨ w = 86) {f k : Nat} (hk : 177 < k) (hk2 : k < 1000) (h31 : m w 31 = Int32.ofNat (c + 1)) : f_X12_goDay_95 (f + 1) 72 w (Int32.ofNat k) (mkH n z D m j r) = f_X12_goDay_130 72 w (mkH n z D (wI m w 31 (Int32.ofNat c)) j r) := by
  have h177 : (177 : Int32) < Int32.ofNat k := by
    rw [l177, i_lt (by omega) (by omega)]
    omega
  rw [f_X12_goDay_95.eq_2, if_pos h177]
  simp (disch := omega) only [obs, cN_mk, ite_true, ite_false, if_true, if_false, l31, l1, pw hw, h31, i_sub, Nat.add_sub_cancel]
def lgn (tk cn x t : Nat) : Nat := if t = 0 then tk else if t = 1 then cn else x
theorem M_130 (hw : w = 85 ∨ w = 86) {cnt tk cn x : Nat} (hc : cnt < 60) (h31 : m w 31 = Int32.ofNat cnt) (h40 : m 72 40 = Int32.ofNat tk) (h41 : m 72 41 = Int32.ofNat cn) (h29 : m w 29 = Int32.ofNat x) : ∃ m', f_X12_goDay_130 72 w (mkH n z D m j r) = some (Int32.ofNat tk, mkH n z D m' j r) ∧ (∀ a, a ≠ w → m' a = m a) ∧ (∀ i, i < 31 → m' w i = m w i) ∧ m' w 31 = Int32.ofNat (cnt + 1) ∧ (∀ i t, t < 3 → m' w (32 + 3 * i + t) = if i = cnt then Int32.ofNat (lgn tk cn x t) else m w (32 + 3 * i + t)) := by
  unfold f_X12_goDay_130
  simp (disch := omega) only [obs, cN_mk, ite_true, ite_false, if_true, if_false, q72, pw hw, l31, l32, l3, l1, l2, l29, h31, h40, h41, i_mul, i_add, wI_ne, wI_se, wI_sn, h29]
  refine ⟨_, rfl, fun a ha => ?_, fun i hi => ?_, ?_, fun i t ht => ?_⟩
  · simp (disch := omega) only [wI_ne]
  · simp (disch := omega) only [wI_sn]
  · rw [wI_se]
  · rw [wI_sn (by omega)]
    by_cases hi : i = cnt
    · subst hi
      rw [if_pos rfl]
      have : t = 0 ∨ t = 1 ∨ t = 2 := by omega
      rcases this with rfl | rfl | rfl
      · simp (disch := omega) only [wI_sn, wI_se, Nat.add_zero]; rfl
      · simp (disch := omega) only [wI_sn, wI_se]; rfl
      · simp (disch := omega) only [wI_sn, wI_se]; rfl
    · rw [if_neg hi]
      simp (disch := omega) only [wI_sn]
theorem M_goDay (hL : LMok n z D pl LM) (hw : w = 85 ∨ w = 86) (hW : WY C P τ) (hS : WS C P 1998 σ) {cnt : Nat} (hl : LM m j) (hY : YM m C P τ) (hM : MS (m w) σ C P) (hc : cnt ≤ 60) (h31 : m w 31 = Int32.ofNat cnt) :
    ∃ m' j' r', f_X12_goDay 72 w (mkH n z D m j r) = some (Int32.ofNat (dy pl C τ σ P).2.1, mkH n z D m' j' r') ∧ LM m' j' ∧ FD w m m' j j' r r' ∧ MS (m' w) (nxt (ax pl C τ σ) P σ) C P ∧ (∀ p, p < 6 → m' 89 p = pr (if p < P then ax pl C τ σ p else 0)) ∧ m' 72 40 = Int32.ofNat (dy pl C τ σ P).2.1 ∧ m' 72 41 = Int32.ofNat (dy pl C τ σ P).2.2 ∧ m' w 31 = Int32.ofNat (min 60 (cnt + 1)) ∧ (∀ i t, t < 3 → i < min 60 (cnt + 1) → m' w (32 + 3 * i + t) = if i + 1 = min 60 (cnt + 1) then Int32.ofNat (lgn (dy pl C τ σ P).2.1 (dy pl C τ σ P).2.2 (nxt (ax pl C τ σ) P σ 6 0) t) else if cnt < 60 then m w (32 + 3 * i + t) else m w (32 + 3 * (i + 1) + t)) := by
  have hS' : WS C P 1999 σ := ⟨hS.1, hS.2.1, hS.2.2.1, hS.2.2.2.1, by have := hS.2.2.2.2; omega⟩
  have hP := hW.2.1
  obtain ⟨m0, e0, b1, b2, b3, b4, b5, b6⟩ := M_begin (n := n) (z := z) (D := D) (m := m) (j := j) (r := r)
  have hw0 : m0 w = m w := b1 w (by omega) (by omega)
  have hl0 : LM m0 j := hL.2.1 m m0 j j hl (fun a h => b1 a (by omega) (by omega)) (b2 7 (by omega)) (b2 34 (by omega)) rfl
  have hY0 : YM m0 C P τ := YM_fr hY (b1 77 (by omega) (by omega)) (b1 81 (by omega) (by omega)) (b2 26 (by omega)) (b2 27 (by omega))
  have c0 : cur (ax pl C τ σ) σ 0 = σ ∨ True := Or.inr trivial
  have hM0 : MS (m0 w) (cur (ax pl C τ σ) σ 0) C P := by
    rw [hw0]
    obtain ⟨a1, a2, a5, a6, a7⟩ := hM
    refine ⟨fun c hc => ⟨?_, ?_⟩, fun p hp => ⟨?_, ?_, ?_⟩, ?_, ?_, ?_⟩
    · rw [(a1 c hc).1]; simp [cur]
    · rw [(a1 c hc).2]; simp [cur, usd]
    · rw [(a2 p hp).1]; simp [cur]
    · rw [(a2 p hp).2.1]; simp [cur]
    · rw [(a2 p hp).2.2]; simp [cur]
    · rw [a5]; simp [cur]
    · rw [a6]; simp [cur, cns]
    · rw [a7]; simp [cur]
  obtain ⟨m1, j1, r1, e1, hl1, hf1, d1, d2, d3, d4, d5⟩ := M_days6 hL hw hW hS' P 0 fu m0 j r (by unfold fu; omega) (by omega) hl0 hY0 hM0 b3 b4 b5 (fun i hi => by rw [b6 i hi]; simp [pr])
  have dl := dy_lt (pl := pl) (σ := σ) hW P (Nat.le_refl _)
  have tk64 : (dy pl C τ σ P).2.1 < 64 := Nat.lt_of_lt_of_le dl.2.1 (show 2 ^ P ≤ 2 ^ 6 from Nat.pow_le_pow_right (by omega) (by omega))
  have hY1 := YM_fd hw hY0 hf1
  have hM1 : MS (m1 w) (wry (ax pl C τ σ) (cur (ax pl C τ σ) σ P) 0) C P := by
    obtain ⟨a1, a2, a5, a6, a7⟩ := d1
    exact ⟨fun c hc => ⟨(a1 c hc).1, (a1 c hc).2⟩, fun p hp => ⟨by rw [(a2 p hp).1]; simp [wry], (a2 p hp).2.1, (a2 p hp).2.2⟩, a5, a6, a7⟩
  obtain ⟨m2, f2, hf2, e2, g1, g2, g3⟩ := M_28 (n := n) (z := z) (D := D) (j := j1) (r := r1) hw hW tk64 (fun p hp => dy_tk P p hp) (σ := cur (ax pl C τ σ) σ P) (fun p hp => by simp [cur]; exact (hS.2.1 p hp).1) P 0 fu m1 (by unfold fu; omega) (by omega) hY1 d3 hM1
  obtain ⟨f, rfl⟩ : ∃ f, f2 = f + 1 := ⟨f2 - 1, by omega⟩
  have hY2 : YM m2 C P τ := YM_fr hY1 (g1 77 (by omega)) (g1 81 (by omega)) (by rw [g1 72 (by omega)]) (by rw [g1 72 (by omega)])
  have h30 : m2 w 30 = Int32.ofNat (σ 7 0) := by rw [g2.2.2.2.2]; simp [wry, cur]
  have h31' : m2 w 31 = Int32.ofNat cnt := by rw [g3 31 (by omega), d2 31 (by omega), hw0, h31]
  have s7 := hS.2.2.2.2
  have x999 := cns_le (ax pl C τ σ) hS.2.2.2.1 P
  have fr2 : FD w m m2 j j1 r r1 := by
    refine FD_tr (FD_tr (m' := m0) ⟨fun a h1 _ _ h2 _ => b1 a h1 h2, fun i _ hi => b2 i hi, fun _ _ => rfl, fun _ _ => rfl⟩ hf1) ⟨fun a _ _ _ _ h => g1 a h, fun i _ _ => by rw [g1 72 (by omega)], fun _ _ => rfl, fun _ _ => rfl⟩
  -- the day goes on by one
  generalize hm3 : wI m2 w 30 (Int32.ofNat (σ 7 0 + 1)) = m3
  have m3w : ∀ i, i ≠ 30 → m3 w i = m2 w i := fun i hi => by rw [← hm3, wI_sn hi]
  have m3a : ∀ a, a ≠ w → m3 a = m2 a := fun a ha => by rw [← hm3, wI_ne ha]
  have hM3 : MS (m3 w) (nxt (ax pl C τ σ) P σ) C P := by
    obtain ⟨a1, a2, a5, a6, a7⟩ := g2
    have ek : ∀ k i, k ≠ 7 → nxt (ax pl C τ σ) P σ k i = wry (ax pl C τ σ) (cur (ax pl C τ σ) σ P) P k i := by
      intro k i hk; simp [nxt, hk]
    refine ⟨fun d hd => ⟨?_, ?_⟩, fun p hp => ⟨?_, ?_, ?_⟩, ?_, ?_, ?_⟩
    · rw [m3w _ (by have := hW.1; omega), ek _ _ (by omega)]; exact (a1 d hd).1
    · rw [m3w _ (by have := hW.1; omega), ek _ _ (by omega)]; exact (a1 d hd).2
    · rw [m3w _ (by omega), ek _ _ (by omega)]; exact (a2 p hp).1
    · rw [m3w _ (by omega), ek _ _ (by omega)]; exact (a2 p hp).2.1
    · rw [m3w _ (by omega), ek _ _ (by omega)]; exact (a2 p hp).2.2
    · rw [m3w _ (by omega), ek _ _ (by omega)]; exact a5
    · rw [m3w _ (by omega), ek _ _ (by omega)]; exact a6
    · rw [← hm3, wI_se]; simp [nxt]
  have start : f_X12_goDay 72 w (mkH n z D m j r) = if Int32.ofNat cnt = 60 then f_X12_goDay_95 fu 72 w (Int32.ofNat 1) (mkH n z D m3 j1 r1) else f_X12_goDay_130 72 w (mkH n z D m3 j1 r1) := by
    unfold f_X12_goDay f_X12_goDay_0
    simp (disch := omega) only [obs, cN_mk, ite_true, ite_false, if_true, if_false, q72, e0, l0]
    rw [e1, e2, f_X12_goDay_28.eq_2]
    simp (disch := omega) only [obs, cN_mk, ite_true, ite_false, if_true, if_false, q72, hY2.2.1, i_le, l30, l31, l1, pw hw, h30, i_add, hm3, m3w, h31']
    rw [if_pos (Nat.le_refl _)]
  have xe : nxt (ax pl C τ σ) P σ 6 0 = cns (ax pl C τ σ) (σ 6 0) P := by simp [nxt, wry, cur]
  have lgs : ∀ i, 31 ≤ i → m3 w i = m w i := fun i hi => by rw [m3w i (by omega), g3 i hi, d2 i hi, hw0]
  by_cases h60 : cnt = 60
  · subst h60
    rw [if_pos l60.symm] at start
    obtain ⟨m4, f4, hf4, e4, k1, k2⟩ := M_95 (n := n) (z := z) (D := D) (j := j1) (r := r1) hw 177 1 fu m3 (by unfold fu; omega) (by omega) (by omega)
    obtain ⟨f, rfl⟩ : ∃ f, f4 = f + 1 := ⟨f4 - 1, by omega⟩
    have e95 : f_X12_goDay_95 (f + 1) 72 w (Int32.ofNat 178) (mkH n z D m4 j1 r1) = f_X12_goDay_130 72 w (mkH n z D (wI m4 w 31 (Int32.ofNat 59)) j1 r1) := by
      exact M_95e hw (by omega) (by omega) (c := 59) (by rw [k2, if_neg (by omega), lgs 31 (by omega), h31])
    have k72 : m4 72 = m2 72 := by rw [k1 72 (by omega), m3a 72 (by omega)]
    obtain ⟨m5, e5, n1, n2, n3, n4⟩ := M_130 (n := n) (z := z) (D := D) (m := wI m4 w 31 (Int32.ofNat 59)) (j := j1) (r := r1) (tk := (dy pl C τ σ P).2.1) (cn := (dy pl C τ σ P).2.2) (x := cns (ax pl C τ σ) (σ 6 0) P) hw (cnt := 59) (by omega) (by rw [wI_se]) (by rw [wI_ne (by omega), k72, g1 72 (by omega), d3]) (by rw [wI_ne (by omega), k72, g1 72 (by omega), d4]) (by rw [wI_sn (by omega), k2, if_neg (by omega), hM3.2.2.2.1, xe])
    have a5 : ∀ a, a ≠ w → m5 a = m2 a := fun a ha => by rw [n1 a ha, wI_ne ha, k1 a ha, m3a a ha]
    have w5 : ∀ i, i < 31 → m5 w i = m3 w i := fun i hi => by rw [n2 i hi, wI_sn (by omega), k2, if_neg (by omega)]
    refine ⟨m5, j1, r1, by rw [start, e4, e95, e5], ?_, ?_, ?_, fun p hp => ?_, ?_, ?_, ?_, fun i t ht hi => ?_⟩
    · exact hL.2.1 m1 m5 j1 j1 hl1 (fun a h => by rw [a5 a (by omega), g1 a (by omega)]) (by rw [a5 72 (by omega), g1 72 (by omega)]) (by rw [a5 72 (by omega), g1 72 (by omega)]) rfl
    · exact FD_tr fr2 ⟨fun a _ _ _ _ h => a5 a h, fun i _ _ => by rw [a5 72 (by omega)], fun _ _ => rfl, fun _ _ => rfl⟩
    · obtain ⟨a1, a2, q5, q6, q7⟩ := hM3
      have hC := hW.1
      exact ⟨fun d hd => ⟨by rw [w5 _ (by omega)]; exact (a1 d hd).1, by rw [w5 _ (by omega)]; exact (a1 d hd).2⟩, fun p hp => ⟨by rw [w5 _ (by omega)]; exact (a2 p hp).1, by rw [w5 _ (by omega)]; exact (a2 p hp).2.1, by rw [w5 _ (by omega)]; exact (a2 p hp).2.2⟩, by rw [w5 _ (by omega)]; exact q5, by rw [w5 _ (by omega)]; exact q6, by rw [w5 _ (by omega)]; exact q7⟩
    · rw [a5 89 (by omega), g1 89 (by omega), d5 p hp]
    · rw [a5 72 (by omega), g1 72 (by omega), d3]
    · rw [a5 72 (by omega), g1 72 (by omega), d4]
    · rw [n3]; exact congrArg Int32.ofNat (by omega)
    · rw [n4 i t ht, xe]
      by_cases hi9 : i = 59
      · rw [if_pos hi9, if_pos (by omega)]
      · rw [if_neg hi9, if_neg (by omega), if_neg (by omega), wI_sn (by omega), k2, if_pos (by omega), lgs _ (by omega)]
        congr 1
        omega
  · rw [if_neg (by rw [l60, i_inj (by omega) (by omega)]; exact h60)] at start
    have k72 : m3 72 = m2 72 := m3a 72 (by omega)
    obtain ⟨m5, e5, n1, n2, n3, n4⟩ := M_130 (n := n) (z := z) (D := D) (m := m3) (j := j1) (r := r1) (tk := (dy pl C τ σ P).2.1) (cn := (dy pl C τ σ P).2.2) (x := cns (ax pl C τ σ) (σ 6 0) P) hw (cnt := cnt) (by omega) (by rw [m3w _ (by omega), h31']) (by rw [k72, g1 72 (by omega), d3]) (by rw [k72, g1 72 (by omega), d4]) (by rw [hM3.2.2.2.1, xe])
    have a5 : ∀ a, a ≠ w → m5 a = m2 a := fun a ha => by rw [n1 a ha, m3a a ha]
    refine ⟨m5, j1, r1, by rw [start, e5], ?_, ?_, ?_, fun p hp => ?_, ?_, ?_, ?_, fun i t ht hi => ?_⟩
    · exact hL.2.1 m1 m5 j1 j1 hl1 (fun a h => by rw [a5 a (by omega), g1 a (by omega)]) (by rw [a5 72 (by omega), g1 72 (by omega)]) (by rw [a5 72 (by omega), g1 72 (by omega)]) rfl
    · exact FD_tr fr2 ⟨fun a _ _ _ _ h => a5 a h, fun i _ _ => by rw [a5 72 (by omega)], fun _ _ => rfl, fun _ _ => rfl⟩
    · obtain ⟨a1, a2, q5, q6, q7⟩ := hM3
      have hC := hW.1
      exact ⟨fun d hd => ⟨by rw [n2 _ (by omega)]; exact (a1 d hd).1, by rw [n2 _ (by omega)]; exact (a1 d hd).2⟩, fun p hp => ⟨by rw [n2 _ (by omega)]; exact (a2 p hp).1, by rw [n2 _ (by omega)]; exact (a2 p hp).2.1, by rw [n2 _ (by omega)]; exact (a2 p hp).2.2⟩, by rw [n2 _ (by omega)]; exact q5, by rw [n2 _ (by omega)]; exact q6, by rw [n2 _ (by omega)]; exact q7⟩
    · rw [a5 89 (by omega), g1 89 (by omega), d5 p hp]
    · rw [a5 72 (by omega), g1 72 (by omega), d3]
    · rw [a5 72 (by omega), g1 72 (by omega), d4]
    · rw [n3]; exact congrArg Int32.ofNat (by omega)
    · rw [n4 i t ht, xe]
      by_cases hi9 : i = cnt
      · rw [if_pos hi9, if_pos (by omega)]
      · rw [if_neg hi9, if_neg (by omega), if_pos (by omega), lgs _ (by omega)]
end MDAYB
