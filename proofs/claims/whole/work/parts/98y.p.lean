/-! Odds. -/
def oT (pl : Pl) (C : Nat) (τ σ : Sg) (p i : Nat) : Bool := trp pl τ σ (dy pl C τ σ p).1 p (crn C τ p (σ 4 p) i) && !cnb τ σ p (crn C τ p (σ 4 p) i)
def oL (pl : Pl) (C : Nat) (τ σ : Sg) (p ch : Nat) : Nat → Nat
  | 0 => 1000000000
  | i + 1 => if oT pl C τ σ p (i + 1) = true then oL pl C τ σ p ch i * ch / 100 else oL pl C τ σ p ch i
theorem oL_le {pl : Pl} {C : Nat} {τ σ : Sg} {p ch : Nat} (h : ch ≤ 100) : ∀ i, oL pl C τ σ p ch i ≤ 1000000000
  | 0 => Nat.le_refl _
  | i + 1 => by
    have ih := oL_le (pl := pl) (C := C) (τ := τ) (σ := σ) (p := p) h i
    rw [oL]
    split
    · have : oL pl C τ σ p ch i * ch ≤ oL pl C τ σ p ch i * 100 := Nat.mul_le_mul_left _ h
      omega
    · exact ih
section ODDS
variable {n z : Nat} {D : Dyn} {m m1 m' : MI} {j j1 j' : MJ} {r r1 r' : MR} {pl : Pl} {LC : MI → MR → Prop} {LM : MI → MJ → Prop} {C P : Nat} {τ σ σ0 : Sg} {w p c s N cnt : Nat} {x y : Int32}
theorem M_goWalk1 (hL : LMok n z D pl LM) (hw : w = 85 ∨ w = 86) (hW : WY C P τ) (hS : WS C P 1999 σ) (hpP : p < P) (hl : LM m j) (hY : YM m C P τ) (hM : MS (m w) (cur (ax pl C τ σ) σ p) C P) (h39 : m 72 39 = Int32.ofNat (dy pl C τ σ p).1) (h40 : m 72 40 = Int32.ofNat (dy pl C τ σ p).2.1) (h41 : m 72 41 = Int32.ofNat (dy pl C τ σ p).2.2) : ∃ m' j' r', f_X12_goWalk 72 w (Int32.ofNat p) (mkH n z D m j r) = some ((), mkH n z D m' j' r') ∧ LM m' j' ∧ FD w m m' j j' r r' ∧ MS (m' w) (cur (ax pl C τ σ) σ (p + 1)) C P ∧ m' 72 39 = Int32.ofNat (dy pl C τ σ (p + 1)).1 ∧ m' 72 40 = Int32.ofNat (dy pl C τ σ (p + 1)).2.1 ∧ m' 72 41 = Int32.ofNat (dy pl C τ σ (p + 1)).2.2 := by
  have hP := hW.2.1
  have hC := hW.1
  have h2 := hW.2.2.1 (by omega)
  have dl := dy_lt (pl := pl) (σ := σ) hW p (by omega)
  have s2 := hS.2.1 p hpP
  have tk64 : (dy pl C τ σ p).2.1 < 64 := Nat.lt_of_lt_of_le dl.2.1 (show 2 ^ p ≤ 2 ^ 6 from Nat.pow_le_pow_right (by omega) (by omega))
  have hwl := wln_lt (C := C) (τ := τ) (p := p) (w := σ 4 p) h2
  obtain ⟨m1, j1, r1, e1, hl1, hf1, a1, a2, a3, a4, a5⟩ := M_walk (x := cns (ax pl C τ σ) (σ 6 0) p) hL hw hW hS hpP s2.2.2 tk64 (cns_le _ hS.2.2.2.1 p) (wln C τ p (σ 4 p)) 1 fu (dy pl C τ σ p).1 (dy pl C τ σ p).2.2 m j r (by unfold fu; omega) (by omega) (by omega) hl hY dl.1 (by omega) h39 h40 h41
      (fun c hc => by rw [(hM.1 c hc).1]; simp [cur]) (fun c hc hb => by
        rw [(hM.1 c hc).2]
        have hu : usd (ax pl C τ σ) p c = false := by
          cases hu : usd (ax pl C τ σ) p c with
          | false => rfl
          | true => rw [usd_bit p c hu] at hb; exact absurd hb (by decide)
        simp [cur, hu]) (by rw [(hM.2.1 p hpP).1]; simp [cur]) (by rw [(hM.2.1 p hpP).2.1]; simp [cur]) (by rw [hM.2.2.1]; simp [cur]) (by rw [hM.2.2.2.1]; simp [cur]) (by rw [hM.2.2.2.2]; simp [cur])
  have hax : (wk pl C τ σ p (σ 4 p) (wln C τ p (σ 4 p)) 1 (dy pl C τ σ p).1 (dy pl C τ σ p).2.2).2.2 = ax pl C τ σ p := rfl
  rw [hax] at a2 a4 a5
  have htk := MS_tk (σ := σ) (at_ := ax pl C τ σ) hC hP hM hpP (fun c hc => ⟨by have := ax_le (pl := pl) (σ := σ) hW hpP; omega, ax_usd hc⟩)
  rw [← a5] at htk
  have e4 := (hM.2.1 p hpP).2.2
  have c4 : cur (ax pl C τ σ) σ p 4 p = σ 4 p := by simp [cur]
  rw [c4] at e4
  refine ⟨m1, j1, r1, ?_, hl1, hf1, htk.1, a1, a2, a3⟩
  unfold f_X12_goWalk f_X12_goWalk_0
  simp (disch := omega) only [l2, l1, M_folk hw, obs, cN_mk, ite_true, ite_false, if_true, if_false, e4, e1]
theorem Q_odds (hc : EC n z D pl LC m r C P τ σ) (hm : EM n z D pl LM m1 j1 C P τ σ) (x y : Int32) : QQ n z D LM m j r m1 j1 r1 (f_X11_odds 0 x y) (f_X12_odds 72 x y) := by
  have hW := hc.1
  have hS := hc.2.1
  have hY := hc.2.2.1
  have hM := hc.2.2.2.1
  have hP := hW.2.1
  have hC := hW.1
  cases him : im x 0 P with
  | false =>
    refine ⟨no1, QC_e ?_, ?_⟩
    · unfold f_X11_odds f_X11_odds_0
      simp (disch := omega) only [obs, cN_mk, ite_true, ite_false, if_true, if_false, q0, C_hasPerson hY, him, l0, l1, no1_e, bI_t, bI_f, ieq_f, ile_t, ile_f, ilt_t, ilt_f]
    · unfold f_X12_odds f_X12_odds_0
      refine QM_s hm fun m2 _ h2 => QM_e h2 ?_
      simp (disch := omega) only [obs, cN_mk, ite_true, ite_false, if_true, if_false, q72, M_isPerson h2.2.2.1, him, l0, l1, no1_e, bI_t, bI_f, ieq_f, ile_t, ile_f, ilt_t, ilt_f]
  | true =>
    obtain ⟨p, -, hp, rfl⟩ := im_t (by omega) (by omega) him
    cases hiy : im y 0 101 with
    | false =>
      refine ⟨no1, QC_e ?_, ?_⟩
      · unfold f_X11_odds f_X11_odds_0
        simp (disch := omega) only [obs, cN_mk, ite_true, ite_false, if_true, if_false, q0, C_hasPerson hY, him, l0, l1, no1_e, bI_t, bI_f, ieq_f, ile_t, ile_f, ilt_t, ilt_f, l100, rng2, Nat.reduceAdd, hiy, Bool.false_eq_true]
      · unfold f_X12_odds f_X12_odds_0
        refine QM_s hm fun m2 _ h2 => QM_e h2 ?_
        simp (disch := omega) only [obs, cN_mk, ite_true, ite_false, if_true, if_false, q72, M_isPerson h2.2.2.1, i64_0, i64_100, M_inK, Nat.reduceAdd, him, hiy, l0, l1, no1_e, bI_t, bI_f, ieq_f, ile_t, ile_f, ilt_t, ilt_f]
    | true =>
      obtain ⟨ch, -, hch, rfl⟩ := im_t (by omega) (by omega) hiy
      have h2C := hW.2.2.1 (by omega)
      have s4 := (hS.2.1 p hp).2.2
      have hwl := wln_lt (C := C) (τ := τ) (p := p) (w := σ 4 p) h2C
      have dl := dy_lt (pl := pl) (σ := σ) hW p (by omega)
      have h32 := pow5 hC
      have oLb := fun i => oL_le (pl := pl) (C := C) (τ := τ) (σ := σ) (p := p) (show ch ≤ 100 by omega) i
      generalize hF : oL pl C τ σ p ch = F at *
      have Fs : ∀ i, F (i + 1) = if oT pl C τ σ p (i + 1) = true then F i * ch / 100 else F i := fun i => by rw [← hF]; rfl
      have F0 : F 0 = 1000000000 := by rw [← hF]; rfl
      refine ⟨Int32.ofNat (1000000000 - F (wln C τ p (σ 4 p))), ?_, ?_⟩
      · obtain ⟨m0, e0, h0, f0, hM0, -, hE0, s5, -⟩ := C_ply (j := j) (kn := 0) (N := p) hc (Or.inl rfl) (WS_le hS (by omega)) hM (by omega) (by omega) (fun e => by omega)
        have key : ∀ rem i fuel (mm : MI), i + rem = wln C τ p (σ 4 p) → rem < fuel → (EC n z D pl LC mm r C P τ σ ∧ FQc m mm ∧ EN mm pl τ σ C P ∧ mm 52 5 = Int32.ofNat (dy pl C τ σ p).1) → QC n z D m j r (f_X11_odds_70 fuel 0 (Int32.ofNat p) (Int32.ofNat ch) (Int64.ofNat (F i)) (Int32.ofNat (crn C τ p (σ 4 p) i)) (Int32.ofNat (wln C τ p (σ 4 p))) (Int32.ofNat i) (mkH n z D mm j r)) (Int32.ofNat (1000000000 - F (wln C τ p (σ 4 p)))) := by
          refine lpP (fun fuel i mm => f_X11_odds_70 fuel 0 (Int32.ofNat p) (Int32.ofNat ch) (Int64.ofNat (F i)) (Int32.ofNat (crn C τ p (σ 4 p) i)) (Int32.ofNat (wln C τ p (σ 4 p))) (Int32.ofNat i) (mkH n z D mm j r)) (fun i mm => EC n z D pl LC mm r C P τ σ ∧ FQc m mm ∧ EN mm pl τ σ C P ∧ mm 52 5 = Int32.ofNat (dy pl C τ σ p).1) (fun res => QC n z D m j r res (Int32.ofNat (1000000000 - F (wln C τ p (σ 4 p))))) (wln C τ p (σ 4 p)) ?_ ?_
          · intro f i mm hi ⟨a1, a2, a3, a4⟩
            left
            have cl := crn_lt (τ := τ) (p := p) (w := σ 4 p) (k := i) h2C
            have cl' := crn_lt (τ := τ) (p := p) (w := σ 4 p) (k := i + 1) h2C
            have eb := C_beyond (n := n) (z := z) (D := D) (j := j) (r := r) (y := σ 4 p) h2C hC a1.2.2.1 cl s4
            rw [← crn_s hW hp (by omega)] at eb
            obtain ⟨m', em, g1, g2⟩ := C_meets (n := n) (z := z) (j := j) a1.2.2.2.2.1 a1.2.2.2.2.2 (Or.inl rfl) hW a1.2.2.1 (WS_le hS (by omega)) a1.2.2.2.1 a3 hp cl' a4 (by omega)
            have hq : FQc mm m' := ⟨fun a _ _ b3 _ _ => g1 a (by omega) (by omega), fun i _ => by rw [g1 55 (by omega) (by omega)]⟩
            refine ⟨m', ?_, EC_q a1 hq, FQc_tr a2 hq, g2, by rw [g1 52 (by omega) (by omega)]; exact a4⟩
            have hFi := Fs i
            have hb := oLb i
            have e7 := (CS27 a1.2.2.2.1).2.2.2.2.1 p hp
            unfold oT at hFi
            rw [f_X11_odds_70.eq_2]
            have em' : f_X6_meets 52 27 (Int32.ofNat p) (Int32.ofNat (crn C τ p (σ 4 p) (i + 1))) (mkH n z D mm j r) = some (Int32.ofNat (if trp pl τ σ (dy pl C τ σ p).1 p (crn C τ p (σ 4 p) (i + 1)) then (if cnb τ σ p (crn C τ p (σ 4 p) (i + 1)) then 1 else 2) else 0), mkH n z D m' j r) := em
            cases ht : trp pl τ σ (dy pl C τ σ p).1 p (crn C τ p (σ 4 p) (i + 1)) with
            | false =>
              rw [ht] at hFi em'
              simp only [Bool.false_and, Bool.false_eq_true, if_false] at hFi em'
              rw [hFi]
              simp (disch := omega) only [obs, cN_mk, ite_true, ite_false, if_true, if_false, ile_f, q0, q27, p32, e7, q18, eb, q52, em', l2, ieq_f, f_X11_odds_124, l1, i_add]
            | true =>
              cases hcn : cnb τ σ p (crn C τ p (σ 4 p) (i + 1)) with
              | true =>
                rw [ht, hcn] at hFi em'
                simp only [Bool.true_and, Bool.not_true, Bool.false_eq_true, if_false, if_true] at hFi em'
                rw [hFi]
                simp (disch := omega) only [obs, cN_mk, ite_true, ite_false, if_true, if_false, ile_f, q0, q27, p32, e7, q18, eb, q52, em', l2, ieq_f, f_X11_odds_124, l1, i_add]
              | false =>
                rw [ht, hcn] at hFi em'
                simp only [Bool.true_and, Bool.not_false, Bool.false_eq_true, if_false, if_true] at hFi em'
                have hmul : F i * ch ≤ 1000000000 * 100 := Nat.mul_le_mul hb (by omega)
                have hk : Int64.ofNat (F i) * (Int32.ofNat ch).toInt64 / 100 = Int64.ofNat (F (i + 1)) := by
                  rw [k_of (by omega), k_mul, show (100 : Int64) = Int64.ofNat 100 from rfl, k_div (by omega) (by omega), hFi]
                simp (disch := omega) only [obs, cN_mk, ite_true, ite_false, if_true, if_false, ile_f, q0, q27, p32, e7, q18, eb, q52, em', l2, f_X11_odds_124, l1, i_add, hk]
          · intro f mm ⟨a1, a2, a3, a4⟩
            refine ⟨mm, ?_, a2⟩
            have hb := oLb (wln C τ p (σ 4 p))
            rw [f_X11_odds_70.eq_2, if_pos ((i_le (by omega) (by omega)).mpr (Nat.le_refl _)), k_32 (by omega), l1000000000, i_sub hb]
        have := key (wln C τ p (σ 4 p)) 0 fu m0 (by omega) (by unfold fu; omega) ⟨h0, f0, hE0, s5⟩
        rw [crn_0 hW hp, F0] at this
        have e7 := (CS27 h0.2.2.2.1).2.2.2.2.1 p hp
        unfold f_X11_odds f_X11_odds_0
        simp (disch := omega) only [obs, cN_mk, ite_true, ite_false, if_true, if_false, q0, C_hasPerson hY, him, l0, l1, no1_e, bI_t, bI_f, ieq_f, ile_t, ile_f, ilt_t, ilt_f, l100, q52, e0, q18, p24, h0.2.2.1.2.2.2.2, q27, p32, e7, C_walkLength hW h0.2.2.1 hp s4]
        exact this
      · unfold f_X12_odds f_X12_odds_0
        refine QM_s hm fun m2 _ h2 => ?_
        obtain ⟨m0, e0, h0, f0, hM0, -, -⟩ := M_cpy (r := r1) h2
        obtain ⟨m3, e3, g1, g2, g39, g40, g41, -⟩ := M_begin (n := n) (z := z) (D := D) (m := m0) (j := j1) (r := r1)
        have hq3 : FQm m0 m3 j1 j1 r1 r1 := ⟨fun a ha => g1 a (by omega) (by omega), fun q _ => by rw [g1 83 (by omega) (by omega)], fun q _ => by rw [g1 84 (by omega) (by omega)], fun i _ _ _ _ _ a6 => g2 i a6, fun _ _ => rfl, fun _ _ => rfl⟩
        have h3 := EM_q h0 hq3 (h0.2.2.2.2.1.2.1 m0 m3 j1 j1 h0.2.2.2.2.2 (fun a ha => g1 a (by omega) (by omega)) (g2 7 (by omega)) (g2 34 (by omega)) rfl)
        -- those ahead of him
        have walk : ∀ rem q fuel (mm : MI) (jj : MJ) (rr : MR), q + rem = p → rem < fuel → EM n z D pl LM mm jj C P τ σ → FQm m2 mm j1 jj r1 rr → MS (mm 86) (cur (ax pl C τ σ) σ q) C P → mm 72 39 = Int32.ofNat (dy pl C τ σ q).1 → mm 72 40 = Int32.ofNat (dy pl C τ σ q).2.1 → mm 72 41 = Int32.ofNat (dy pl C τ σ q).2.2 → ∃ m' j' r', f_X12_odds_44 fuel 72 (Int32.ofNat p) (Int32.ofNat ch) (Int32.ofNat q) (mkH n z D mm jj rr) = f_X12_odds_85 fu 72 (Int32.ofNat p) (Int32.ofNat ch) (Int32.ofNat (σ 4 p)) (Int32.ofNat 1000000000) (Int32.ofNat 0) (Int32.ofNat 1) (mkH n z D m' j' r') ∧ EM n z D pl LM m' j' C P τ σ ∧ FQm m2 m' j1 j' r1 r' ∧ MS (m' 86) (cur (ax pl C τ σ) σ p) C P ∧ m' 72 39 = Int32.ofNat (dy pl C τ σ p).1 := by
          intro rem
          induction rem with
          | zero =>
            intro q fuel mm jj rr hq hf a1 a2 a3 a4 a5 a6
            obtain ⟨f, rfl⟩ : ∃ f, fuel = f + 1 := ⟨fuel - 1, by omega⟩
            have : q = p := by omega
            subst this
            refine ⟨mm, jj, rr, ?_, a1, a2, a3, a4⟩
            rw [f_X12_odds_44.eq_2]
            simp (disch := omega) only [obs, cN_mk, ite_true, ite_false, if_true, if_false, ile_t, q72, l2, M_folk (Or.inl rfl : 85 = 85 ∨ 85 = 86), a1.2.2.2.1.2.1, l0, l1, l1000000000]
          | succ rem ih =>
            intro q fuel mm jj rr hq hf a1 a2 a3 a4 a5 a6
            obtain ⟨f, rfl⟩ : ∃ f, fuel = f + 1 := ⟨fuel - 1, by omega⟩
            obtain ⟨m', j', r', e, hl, hfd, b1, b2, b3, b4⟩ := M_goWalk1 (r := rr) a1.2.2.2.2.1 (Or.inr rfl) hW (WS_le hS (by omega)) (show q < P by omega) a1.2.2.2.2.2 a1.2.2.1 a3 a4 a5 a6
            obtain ⟨m9, j9, r9, e9, c1, c2, c3, c4⟩ := ih (q + 1) f m' j' r' (by omega) (by omega) (EM_q a1 (FQm_fd hfd) hl) (FQm_tr a2 (FQm_fd hfd)) b1 b2 b3 b4
            refine ⟨m9, j9, r9, ?_, c1, c2, c3, c4⟩
            rw [f_X12_odds_44.eq_2, ← e9]
            simp (disch := omega) only [obs, cN_mk, ite_true, ite_false, if_true, if_false, ile_f, q72, l1, e, i_add]
        obtain ⟨m4, j4, r4, e4, h4, f4, hM4, s39⟩ := walk p 0 fu m3 j1 r1 (by omega) (by unfold fu; omega) h3 (FQm_tr f0 hq3) (by
          rw [g1 86 (by omega) (by omega)]
          refine MS_cg (σ := cur (ax pl C τ σ) σ 0) (f := m0 86) ?_ hC hP (fun _ _ => rfl)
          have ec : ∀ k i, (k ≠ 6 ∨ i = 0) → cur (ax pl C τ σ) σ 0 k i = σ k i := by
            intro k i hki
            unfold cur
            by_cases k1 : k = 1
            · subst k1; simp [usd]
            · by_cases k3 : k = 3
              · subst k3; simp
              · by_cases k6 : k = 6
                · subst k6
                  rcases hki with h | h
                  · exact absurd rfl h
                  · subst h; simp [cns]
                · simp [k1, k3, k6]
          obtain ⟨z1, z2, z5, z6, z7⟩ := hM0
          exact ⟨fun c hc => ⟨by rw [ec _ _ (by omega)]; exact (z1 c hc).1, by rw [ec _ _ (by omega)]; exact (z1 c hc).2⟩, fun p hp => ⟨by rw [ec _ _ (by omega)]; exact (z2 p hp).1, by rw [ec _ _ (by omega)]; exact (z2 p hp).2.1, by rw [ec _ _ (by omega)]; exact (z2 p hp).2.2⟩, by rw [ec _ _ (by omega)]; exact z5, by rw [ec _ _ (by omega)]; exact z6, by rw [ec _ _ (by omega)]; exact z7⟩) g39 g40 g41
        have key : ∀ rem i fuel (mm : MI × MJ × MR), i + rem = wln C τ p (σ 4 p) → rem < fuel → (EM n z D pl LM mm.1 mm.2.1 C P τ σ ∧ FQm m2 mm.1 j1 mm.2.1 r1 mm.2.2 ∧ MS (mm.1 86) (cur (ax pl C τ σ) σ p) C P ∧ mm.1 72 39 = Int32.ofNat (dy pl C τ σ p).1) → QM n z D LM m2 j1 r1 (f_X12_odds_85 fuel 72 (Int32.ofNat p) (Int32.ofNat ch) (Int32.ofNat (σ 4 p)) (Int32.ofNat (F i)) (Int32.ofNat (1000000000 - F i)) (Int32.ofNat (i + 1)) (mkH n z D mm.1 mm.2.1 mm.2.2)) (Int32.ofNat (1000000000 - F (wln C τ p (σ 4 p)))) := by
          refine lpP (fun fuel i (mm : MI × MJ × MR) => f_X12_odds_85 fuel 72 (Int32.ofNat p) (Int32.ofNat ch) (Int32.ofNat (σ 4 p)) (Int32.ofNat (F i)) (Int32.ofNat (1000000000 - F i)) (Int32.ofNat (i + 1)) (mkH n z D mm.1 mm.2.1 mm.2.2)) (fun i (mm : MI × MJ × MR) => EM n z D pl LM mm.1 mm.2.1 C P τ σ ∧ FQm m2 mm.1 j1 mm.2.1 r1 mm.2.2 ∧ MS (mm.1 86) (cur (ax pl C τ σ) σ p) C P ∧ mm.1 72 39 = Int32.ofNat (dy pl C τ σ p).1) (fun res => QM n z D LM m2 j1 r1 res (Int32.ofNat (1000000000 - F (wln C τ p (σ 4 p))))) (wln C τ p (σ 4 p)) ?_ ?_
          · intro f i mm hi ⟨a1, a2, a3, a4⟩
            left
            have cl' := crn_lt (τ := τ) (p := p) (w := σ 4 p) (k := i + 1) h2C
            have s1 := hS.1 _ cl'
            have s2 := hS.2.1 p hp
            have s5 := hS.2.2.1
            have s7 := hS.2.2.2.2
            have y0 : mm.1 86 (2 * crn C τ p (σ 4 p) (i + 1)) = Int32.ofNat (σ 0 (crn C τ p (σ 4 p) (i + 1))) := by rw [(a3.1 _ cl').1]; simp [cur]
            have y3 : mm.1 86 (10 + 3 * p + 1) = Int32.ofNat (σ 3 p) := by rw [(a3.2.1 p hp).2.1]; simp [cur]
            have y5 : mm.1 86 28 = Int32.ofNat (σ 5 0) := by rw [a3.2.2.1]; simp [cur]
            obtain ⟨m', j', r', et, hl', hfp⟩ := M_trap (n := n) (z := z) (r := mm.2.2) (σ := σ) (w := 86) a1.2.2.2.2.1 a1.2.2.2.2.2 (Or.inr rfl) hW a1.2.2.1 hp cl' a4 (by omega) y0 (fun hb => by
              rw [(a3.1 _ cl').2]
              have hu : usd (ax pl C τ σ) p (crn C τ p (σ 4 p) (i + 1)) = false := by
                cases hu : usd (ax pl C τ σ) p (crn C τ p (σ 4 p) (i + 1)) with
                | false => rfl
                | true => rw [usd_bit p _ hu] at hb; exact absurd hb (by decide)
              simp [cur, hu]) (by rw [(a3.2.1 p hp).1]; simp [cur]) y3 (by rw [a3.2.2.2.2]; simp [cur]) s1.1 s1.2 (by omega) (by omega) (by omega)
            have hq := FQm_p hfp
            have h5 := EM_q a1 hq hl'
            have m86 : m' 86 = mm.1 86 := hfp.1 86 (by omega) (by omega) (by omega)
            have ec := M_cane (n := n) (z := z) (D := D) (j := j') (r := r') (σ := σ) (w := 86) (Or.inr rfl) hW h5.2.2.1 hp cl' (by omega) (by rw [m86]; exact y3) (by rw [m86]; exact y5) s5
            have ea := M_cornerAt (n := n) (z := z) (D := D) (j := mm.2.1) (r := mm.2.2) (k := i + 1) hW a1.2.2.1 hp s4 (by omega)
            have el := M_longOf (n := n) (z := z) (D := D) (j := mm.2.1) (r := mm.2.2) hW a1.2.2.1 hp s4
            refine ⟨(m', j', r'), ?_, h5, FQm_tr a2 hq, by show MS (m' 86) _ C P; rw [m86]; exact a3, by show m' 72 39 = _; rw [hfp.2.1 39 (by omega)]; exact a4⟩
            have hFi := Fs i
            have hb := oLb i
            unfold oT at hFi
            rw [f_X12_odds_85.eq_2]
            cases ht : trp pl τ σ (dy pl C τ σ p).1 p (crn C τ p (σ 4 p) (i + 1)) with
            | false =>
              rw [ht] at hFi et
              simp only [Bool.false_and, Bool.false_eq_true, if_false] at hFi
              rw [hFi]
              simp (disch := omega) only [obs, cN_mk, ite_true, ite_false, if_true, if_false, q72, el, ilt_f, ea, et, l0, l1, no1_e, bI_t, bI_f, ieq_f, ile_t, ile_f, ilt_t, ilt_f, f_X12_odds_164, i_add]
            | true =>
              cases hcn : cnb τ σ p (crn C τ p (σ 4 p) (i + 1)) with
              | true =>
                rw [ht] at et
                rw [ht, hcn] at hFi
                rw [hcn] at ec
                simp only [Bool.true_and, Bool.not_true, Bool.false_eq_true, if_false] at hFi
                rw [hFi]
                simp (disch := omega) only [obs, cN_mk, ite_true, ite_false, if_true, if_false, q72, el, ilt_f, ea, et, l0, l1, no1_e, bI_t, bI_f, ieq_f, ile_t, ile_f, ilt_t, ilt_f, ec, f_X12_odds_164, i_add]
              | false =>
                rw [ht] at et
                rw [ht, hcn] at hFi
                rw [hcn] at ec
                simp only [Bool.true_and, Bool.not_false, if_true] at hFi
                have hmul : F i * ch ≤ 1000000000 * 100 := Nat.mul_le_mul hb (by omega)
                have hb' := oLb (i + 1)
                have hle : F (i + 1) ≤ F i := by
                  rw [hFi]
                  have : F i * ch ≤ F i * 100 := Nat.mul_le_mul_left _ (by omega)
                  omega
                have hk : (((Int32.ofNat (F i)).toInt64 * (Int32.ofNat ch).toInt64) / 100).toInt32 = Int32.ofNat (F (i + 1)) := by
                  rw [k_of (by omega), k_of (by omega), k_mul, show (100 : Int64) = Int64.ofNat 100 from rfl, k_div (by omega) (by omega), ← hFi, k_32 (by omega)]
                have hsum : Int32.ofNat (1000000000 - F i) + (Int32.ofNat (F i) - Int32.ofNat (F (i + 1))) = Int32.ofNat (1000000000 - F (i + 1)) := by
                  rw [i_sub hle, i_add]
                  exact congrArg Int32.ofNat (by omega)
                simp (disch := omega) only [obs, cN_mk, ite_true, ite_false, if_true, if_false, q72, el, ilt_f, ea, et, l0, l1, no1_e, bI_t, bI_f, ieq_f, ile_t, ile_f, ilt_t, ilt_f, ec, f_X12_odds_164, hk, hsum, i_add]
          · intro f mm ⟨a1, a2, a3, a4⟩
            refine ⟨mm.1, mm.2.1, mm.2.2, ?_, a1.2.2.2.2.2, a2⟩
            have el := M_longOf (n := n) (z := z) (D := D) (j := mm.2.1) (r := mm.2.2) hW a1.2.2.1 hp s4
            rw [f_X12_odds_85.eq_2]
            simp (disch := omega) only [obs, cN_mk, ite_true, ite_false, if_true, if_false, q72, el, ilt_t]
        have := key (wln C τ p (σ 4 p)) 0 fu (m4, j4, r4) (by omega) (by unfold fu; omega) ⟨h4, f4, hM4, s39⟩
        rw [F0, show 1000000000 - 1000000000 = 0 from rfl] at this
        rw [← e4] at this
        simp (disch := omega) only [obs, cN_mk, ite_true, ite_false, if_true, if_false, q72, M_isPerson h2.2.2.1, i64_0, i64_100, M_inK, Nat.reduceAdd, him, hiy, l0, l1, no1_e, bI_t, bI_f, ieq_f, ile_t, ile_f, ilt_t, ilt_f, e0, e3]
        exact this
end ODDS
