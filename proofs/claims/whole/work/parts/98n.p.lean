/-! Games. -/
/-- what the baiter has, what he who goes has -/
def gB (a c x : Nat) : Int32 := (if a = c + 1 then Int32.ofNat 6 else Int32.ofNat 0) - (if x = 0 then Int32.ofNat 0 else Int32.ofNat 2)
def gG (a l : Nat) : Int32 := (if a = 0 then Int32.ofNat 0 else -(Int32.ofNat 6)) - Int32.ofNat l
def gS (σ : Sg) (p c x y : Nat) : Sg := uS (uS σ 0 c x) 4 p y
section GAME
variable {n z : Nat} {D : Dyn} {m m1 m' : MI} {j j1 j' : MJ} {r r1 r' : MR} {pl : Pl} {LC : MI → MR → Prop} {LM : MI → MJ → Prop} {C P : Nat} {τ σ σ0 : Sg} {w p c s N cnt x y : Nat}
theorem i_sub0 {v : Int32} : v - Int32.ofNat 0 = v := by
  rw [show Int32.ofNat 0 = (0 : Int32) from rfl, Int32.sub_zero]
theorem i_neg00 : -(Int32.ofNat 0) = Int32.ofNat 0 := rfl
theorem C_playGame (hc : EC n z D pl LC m r C P τ σ) (hp : p < P) (hcC : c < C) (hx : x ≤ 3) (hy : y ≤ 1) : ∃ m', f_X11_playGame 0 (Int32.ofNat p) (Int32.ofNat c) (Int32.ofNat x) (Int32.ofNat y) (mkH n z D m j r) = some ((), mkH n z D m' j r) ∧ EC n z D pl LC m' r C P τ σ ∧ FQc m m' ∧ (∀ i, m' 71 i = if i = 2 * x + y then gB (ax pl C τ (gS σ p c x y) p) c x else if i = 8 + 2 * x + y then gG (ax pl C τ (gS σ p c x y) p) (wln C τ p y) else m 71 i) := by
  have hW := hc.1
  have hS := hc.2.1
  have hP := hW.2.1
  have hC := hW.1
  obtain ⟨m0, e0, h0, f0, hM0, fr0⟩ := C_cpy (j := j) hc
  have hM1 : CS (wI m0 34 c (Int32.ofNat x)) 33 (uS σ 0 c x) C P := CS_crumb hM0 hC hP hcC
  have hM2 : CS (wI (wI m0 34 c (Int32.ofNat x)) 38 p (Int32.ofNat y)) 33 (gS σ p c x y) C P := CS_way hM1 hC hP hp
  have fw : FQc m0 (wI (wI m0 34 c (Int32.ofNat x)) 38 p (Int32.ofNat y)) := ⟨fun a _ h3 _ _ _ => by rw [wI_ne (by omega), wI_ne (by omega)], fun i _ => by rw [wI_ne (by omega), wI_ne (by omega)]⟩
  obtain ⟨m2, e2, h2, f2, -, fc2, -, -, -, -, a5⟩ := C_ply (j := j) (kn := 0) (σ := gS σ p c x y) (EC_q h0 fw) (Or.inr rfl) (WS_le (WS_way (WS_crumb hS hx) hy) (by omega)) hM2 (Nat.le_refl P) (by omega) (fun e => by omega)
  have a5 := a5 p (by omega)
  rw [if_pos hp] at a5
  have hle := ax_le (pl := pl) (σ := gS σ p c x y) hW hp
  have y1 := (EC_q h0 fw).2.2.1.2.1
  have m71 : m2 71 = m 71 := by rw [fc2 71 (by omega), wI_ne (by omega), wI_ne (by omega), fr0 71 (by omega)]
  generalize hA : ax pl C τ (gS σ p c x y) p = A at *
  have bw : ∀ v, f_X11_playGame_91 0 (Int32.ofNat p) (Int32.ofNat x) (Int32.ofNat y) v (if A = 0 then Int32.ofNat 0 else Int32.ofNat 6) (mkH n z D m2 j r) = some ((), mkH n z D (wI (wI m2 71 (2 * x + y) (v - (if x = 0 then Int32.ofNat 0 else Int32.ofNat 2))) 71 (8 + 2 * x + y) (gG A (wln C τ p y))) j r) := by
    intro v
    have yW : YC (wI m2 71 (2 * x + y) (v - (if x = 0 then Int32.ofNat 0 else Int32.ofNat 2))) C P τ := YC_fr h2.2.2.1 (fun a ha => wI_ne (by omega))
    have e3 := C_walkLength (n := n) (z := z) (D := D) (j := j) (r := r) hW yW hp hy
    have hg : (-(if A = 0 then Int32.ofNat 0 else Int32.ofNat 6)) - Int32.ofNat (wln C τ p y) = gG A (wln C τ p y) := by
      unfold gG
      split
      · rfl
      · rfl
    unfold f_X11_playGame_91
    by_cases hx0 : x = 0
    · subst hx0
      rw [if_pos rfl, i_sub0] at e3 ⊢
      simp (disch := omega) only [obs, cN_mk, ite_true, ite_false, if_true, if_false, q0, l0, l1, no1_e, bI_t, bI_f, ieq_f, ile_t, ile_f, ilt_t, ilt_f, f_X11_playGame_116, l2, l8, i_mul, i_add, p71, q18, e3, hg]
    · rw [if_neg hx0] at e3 ⊢
      simp (disch := omega) only [obs, cN_mk, ite_true, ite_false, if_true, if_false, q0, l0, l1, no1_e, bI_t, bI_f, ieq_f, ile_t, ile_f, ilt_t, ilt_f, f_X11_playGame_116, l2, l8, i_mul, i_add, p71, q18, e3, hg]
  have b70 : ∀ v, f_X11_playGame_70 0 (Int32.ofNat p) (Int32.ofNat x) (Int32.ofNat y) v (mkH n z D m2 j r) = f_X11_playGame_91 0 (Int32.ofNat p) (Int32.ofNat x) (Int32.ofNat y) v (if A = 0 then Int32.ofNat 0 else Int32.ofNat 6) (mkH n z D m2 j r) := by
    intro v
    unfold f_X11_playGame_70
    by_cases h1 : A = 0
    · rw [h1, pr_0] at a5
      rw [if_pos h1]
      simp (disch := omega) only [obs, cN_mk, ite_true, ite_false, if_true, if_false, q0, q52, p53, a5, l0, l1, no1_e, bI_t, bI_f, ieq_f, ile_t, ile_f, ilt_t, ilt_f]
    · have a6 : (m2 53 p = no1) = False := by rw [a5]; exact eq_false (fun e => h1 ((pr_no (by omega)).mp e))
      rw [if_neg h1]
      simp (disch := omega) only [obs, cN_mk, ite_true, ite_false, if_true, if_false, q0, q52, p53, a6, l0, l1, no1_e, bI_t, bI_f, ieq_f, ile_t, ile_f, ilt_t, ilt_f, l6]
  have f3 : FQc m2 (wI (wI m2 71 (2 * x + y) (gB A c x)) 71 (8 + 2 * x + y) (gG A (wln C τ p y))) := ⟨fun a _ _ _ _ h5 => by rw [wI_ne h5, wI_ne h5], fun i _ => by rw [wI_ne (by omega), wI_ne (by omega)]⟩
  refine ⟨wI (wI m2 71 (2 * x + y) (gB A c x)) 71 (8 + 2 * x + y) (gG A (wln C τ p y)), ?_, EC_q h2 f3, FQc_tr f0 (FQc_tr fw (FQc_tr f2 f3)), fun i => ?_⟩
  · unfold f_X11_playGame f_X11_playGame_0
    unfold gB
    by_cases h1 : A = c + 1
    · have a6 : m2 53 p = Int32.ofNat c := by rw [a5, h1, pr_s]
      rw [if_pos h1, ← bw (Int32.ofNat 6), ← b70]
      simp (disch := omega) only [obs, cN_mk, ite_true, ite_false, if_true, if_false, q0, q33, e0, p34, p38, q18, y1, q52, l0, l1, no1_e, bI_t, bI_f, ieq_f, ile_t, ile_f, ilt_t, ilt_f, l6, e2, p53, a6]
    · have a6 : (m2 53 p = Int32.ofNat c) = False := by rw [a5]; exact eq_false (fun e => h1 ((pr_k (by omega) (by omega)).mp e))
      rw [if_neg h1, ← bw (Int32.ofNat 0), ← b70]
      simp (disch := omega) only [obs, cN_mk, ite_true, ite_false, if_true, if_false, q0, q33, e0, p34, p38, q18, y1, q52, l0, l1, no1_e, bI_t, bI_f, ieq_f, ile_t, ile_f, ilt_t, ilt_f, e2, p53, a6]
  · rw [wI_s, wI_s, m71]
    by_cases c1 : i = 8 + 2 * x + y
    · rw [if_pos c1, if_neg (by omega), if_pos c1]
    · rw [if_neg c1]
      by_cases c2 : i = 2 * x + y
      · rw [if_pos c2, if_pos c2]
      · rw [if_neg c2, if_neg c2, if_neg c1]
def gV2 (a c x l k : Nat) : Int32 := if k = 0 then gB a c x else gG a l
theorem M_gameOf {k : Nat} (hm : EM n z D pl LM m j C P τ σ) (hp : p < P) (hcC : c < C) (hx : x ≤ 3) (hy : y ≤ 1) (hk : k ≤ 1) : ∃ m' j' r', f_X12_gameOf 72 (Int32.ofNat p) (Int32.ofNat c) (Int32.ofNat x) (Int32.ofNat y) (Int32.ofNat k) (mkH n z D m j r) = some (gV2 (ax pl C τ (gS σ p c x y) p) c x (wln C τ p y) k, mkH n z D m' j' r') ∧ EM n z D pl LM m' j' C P τ σ ∧ FQm m m' j j' r r' ∧ m' 92 = m 92 := by
  have hW := hm.1
  have hS := hm.2.1
  have hP := hW.2.1
  have hC := hW.1
  obtain ⟨m0, e0, h0, f0, hM0, h31, fr0⟩ := M_cpy (r := r) hm
  obtain ⟨h1, f1⟩ := M_set86 (r := r) (i := 2 * c) (x := Int32.ofNat x) h0
  obtain ⟨h2, f2⟩ := M_set86 (r := r) (i := 10 + 3 * p + 2) (x := Int32.ofNat y) h1
  have hM1 : MS (wI (wI m0 86 (2 * c) (Int32.ofNat x)) 86 (10 + 3 * p + 2) (Int32.ofNat y) 86) (gS σ p c x y) C P := by rw [wI_eq, wI_eq]; exact MS_way (MS_crumb hM0 hC hP hcC) hC hP hp
  obtain ⟨m3, j3, r3, e3, h3, f3, -, -, a5, -, a92⟩ := M_try (r := r) (σ := gS σ p c x y) h2 (WS_le (WS_way (WS_crumb hS hx) hy) (by omega)) hM1 (by omega : 0 ≤ 60) (by rw [wI_sn (by omega), wI_sn (by omega)]; exact h31)
  have a5 := a5 p (by omega)
  rw [if_pos hp] at a5
  have hle := ax_le (pl := pl) (σ := gS σ p c x y) hW hp
  have tk64 : (dy pl C τ (gS σ p c x y) P).2.1 < 64 := Nat.lt_of_lt_of_le (dy_lt (pl := pl) (σ := gS σ p c x y) hW P (Nat.le_refl P)).2.1 (pow6 hP)
  have ht := dy_tk (pl := pl) (C := C) (τ := τ) (σ := gS σ p c x y) P p hp
  refine ⟨m3, j3, r3, ?_, h3, FQm_tr f0 (FQm_tr f1 (FQm_tr f2 f3)), by rw [a92, wI_ne (by omega), wI_ne (by omega), fr0 92 (by omega)]⟩
  have e4 := M_longOf (n := n) (z := z) (D := D) (j := j3) (r := r3) hW h3.2.2.1 hp hy
  unfold f_X12_gameOf f_X12_gameOf_0 gV2
  rcases (show k = 0 ∨ k = 1 by omega) with rfl | rfl
  · rw [if_pos rfl]
    unfold gB
    have b68 : ∀ v, f_X12_gameOf_68 (Int32.ofNat x) v (mkH n z D m3 j3 r3) = some (v - (if x = 0 then Int32.ofNat 0 else Int32.ofNat 2), mkH n z D m3 j3 r3) := by
      intro v
      unfold f_X12_gameOf_68 f_X12_gameOf_77
      by_cases hx0 : x = 0
      · rw [if_pos hx0]
        simp (disch := omega) only [l0, ile_t, if_true]
      · rw [if_neg hx0]
        simp (disch := omega) only [l0, l2, ile_f, if_false]
    by_cases hA : ax pl C τ (gS σ p c x y) p = c + 1
    · have a6 : m3 89 p = Int32.ofNat c := by rw [a5, hA, pr_s]
      rw [if_pos hA]
      simp (disch := omega) only [obs, cN_mk, ite_true, ite_false, if_true, if_false, q72, e0, l0, l2, l3, l6, l10, i_mul, i_add, Nat.add_zero, p86, e3, p89, a6, b68]
    · have a6 : (m3 89 p = Int32.ofNat c) = False := by rw [a5]; exact eq_false (fun e => hA ((pr_k (by omega) (by omega)).mp e))
      rw [if_neg hA]
      simp (disch := omega) only [obs, cN_mk, ite_true, ite_false, if_true, if_false, q72, e0, l0, l2, l3, l6, l10, i_mul, i_add, Nat.add_zero, p86, e3, p89, a6, b68]
  · rw [if_neg (by omega)]
    unfold gG
    by_cases hA : ax pl C τ (gS σ p c x y) p = 0
    · have hb : (dy pl C τ (gS σ p c x y) P).2.1.testBit p = false := by
        cases hb : (dy pl C τ (gS σ p c x y) P).2.1.testBit p with
        | false => rfl
        | true => exact absurd hA (ht.mp hb)
      rw [if_pos hA]
      simp (disch := omega) only [obs, cN_mk, ite_true, ite_false, if_true, if_false, q72, e0, l0, l1, no1_e, bI_t, bI_f, ieq_f, ile_t, ile_f, ilt_t, ilt_f, l2, l3, l10, i_mul, i_add, Nat.add_zero, p86, e3, M_has, hb, f_X12_gameOf_94, e4]
    · have hb : (dy pl C τ (gS σ p c x y) P).2.1.testBit p = true := ht.mpr hA
      rw [if_neg hA]
      simp (disch := omega) only [obs, cN_mk, ite_true, ite_false, if_true, if_false, q72, e0, l0, l1, no1_e, bI_t, bI_f, ieq_f, ile_t, ile_f, ilt_t, ilt_f, l2, l3, l6, l10, i_mul, i_add, Nat.add_zero, p86, e3, M_has, hb, f_X12_gameOf_94, e4]
theorem Q_game (hc : EC n z D pl LC m r C P τ σ) (hm : EM n z D pl LM m1 j1 C P τ σ) (x1 x2 x3 x4 x5 : Int32) : QQ n z D LM m j r m1 j1 r1 (f_X11_game 0 x1 x2 x3 x4 x5) (f_X12_game 72 x1 x2 x3 x4 x5) := by
  have hW := hc.1
  have hY := hc.2.2.1
  have hP := hW.2.1
  have hC := hW.1
  cases i1 : im x1 0 P with
  | false =>
    refine ⟨noH, QC_e ?_, ?_⟩
    · unfold f_X11_game f_X11_game_0 f_X11_game_23
      simp (disch := omega) only [obs, cN_mk, ite_true, ite_false, if_true, if_false, q0, C_hasPerson hY, i1, l0, l1, no1_e, bI_t, bI_f, ieq_f, ile_t, ile_f, ilt_t, ilt_f, l1000000, noH_e]
    · unfold f_X12_game f_X12_game_0 f_X12_game_69
      refine QM_s hm fun m2 _ h2 => QM_e h2 ?_
      simp (disch := omega) only [obs, cN_mk, ite_true, ite_false, if_true, if_false, q72, M_isPerson h2.2.2.1, i1, l0, l1, no1_e, bI_t, bI_f, ieq_f, ile_t, ile_f, ilt_t, ilt_f, l1000000, noH_e]
  | true =>
    obtain ⟨p, -, hp, rfl⟩ := im_t (by omega) (by omega) i1
    cases i2 : im x2 0 C with
    | false =>
      refine ⟨noH, QC_e ?_, ?_⟩
      · unfold f_X11_game f_X11_game_0 f_X11_game_23
        simp (disch := omega) only [obs, cN_mk, ite_true, ite_false, if_true, if_false, q0, C_hasPerson hY, C_hasCorner hY, i1, i2, l0, l1, no1_e, bI_t, bI_f, ieq_f, ile_t, ile_f, ilt_t, ilt_f, l1000000, noH_e]
      · unfold f_X12_game f_X12_game_0 f_X12_game_69
        refine QM_s hm fun m2 _ h2 => QM_e h2 ?_
        simp (disch := omega) only [obs, cN_mk, ite_true, ite_false, if_true, if_false, q72, M_isPerson h2.2.2.1, M_isCorner h2.2.2.1, i1, i2, l0, l1, no1_e, bI_t, bI_f, ieq_f, ile_t, ile_f, ilt_t, ilt_f, l1000000, noH_e]
    | true =>
      obtain ⟨c, -, hcC, rfl⟩ := im_t (by omega) (by omega) i2
      cases i3 : im x3 0 4 with
      | false =>
        refine ⟨noH, QC_e ?_, ?_⟩
        · unfold f_X11_game f_X11_game_0 f_X11_game_23
          simp (disch := omega) only [obs, cN_mk, ite_true, ite_false, if_true, if_false, q0, C_hasPerson hY, C_hasCorner hY, C_isCrumb, i1, i2, i3, l0, l1, no1_e, bI_t, bI_f, ieq_f, ile_t, ile_f, ilt_t, ilt_f, l1000000, noH_e]
        · unfold f_X12_game f_X12_game_0 f_X12_game_69
          refine QM_s hm fun m2 _ h2 => QM_e h2 ?_
          simp (disch := omega) only [obs, cN_mk, ite_true, ite_false, if_true, if_false, q72, M_isPerson h2.2.2.1, M_isCorner h2.2.2.1, i64_0, i64_3, M_inK, Nat.reduceAdd, i1, i2, i3, l0, l1, no1_e, bI_t, bI_f, ieq_f, ile_t, ile_f, ilt_t, ilt_f, l1000000, noH_e]
      | true =>
        obtain ⟨x, -, hx, rfl⟩ := im_t (by omega) (by omega) i3
        cases i4 : im x4 0 2 with
        | false =>
          refine ⟨noH, QC_e ?_, ?_⟩
          · unfold f_X11_game f_X11_game_0 f_X11_game_48
            simp (disch := omega) only [obs, cN_mk, ite_true, ite_false, if_true, if_false, q0, C_hasPerson hY, C_hasCorner hY, C_isCrumb, i1, i2, i3, l0, l1, no1_e, bI_t, bI_f, ieq_f, ile_t, ile_f, ilt_t, ilt_f, rng1, Nat.reduceAdd, i4, Bool.false_eq_true, l1000000, noH_e]
          · unfold f_X12_game f_X12_game_0 f_X12_game_69
            refine QM_s hm fun m2 _ h2 => QM_e h2 ?_
            simp (disch := omega) only [obs, cN_mk, ite_true, ite_false, if_true, if_false, q72, M_isPerson h2.2.2.1, M_isCorner h2.2.2.1, i64_0, i64_1, i64_3, M_inK, Nat.reduceAdd, i1, i2, i3, i4, l0, l1, no1_e, bI_t, bI_f, ieq_f, ile_t, ile_f, ilt_t, ilt_f, l1000000, noH_e]
        | true =>
          obtain ⟨y, -, hy, rfl⟩ := im_t (by omega) (by omega) i4
          cases i5 : im x5 0 2 with
          | false =>
            refine ⟨noH, QC_e ?_, ?_⟩
            · unfold f_X11_game f_X11_game_0 f_X11_game_48
              simp (disch := omega) only [obs, cN_mk, ite_true, ite_false, if_true, if_false, q0, C_hasPerson hY, C_hasCorner hY, C_isCrumb, i1, i2, i3, l0, l1, no1_e, bI_t, bI_f, ieq_f, ile_t, ile_f, ilt_t, ilt_f, rng2, Nat.reduceAdd, i5, Bool.false_eq_true, l1000000, noH_e]
            · unfold f_X12_game f_X12_game_0 f_X12_game_69
              refine QM_s hm fun m2 _ h2 => QM_e h2 ?_
              simp (disch := omega) only [obs, cN_mk, ite_true, ite_false, if_true, if_false, q72, M_isPerson h2.2.2.1, M_isCorner h2.2.2.1, i64_0, i64_1, i64_3, M_inK, Nat.reduceAdd, i1, i2, i3, i4, i5, l0, l1, no1_e, bI_t, bI_f, ieq_f, ile_t, ile_f, ilt_t, ilt_f, l1000000, noH_e]
          | true =>
            obtain ⟨k, -, hk, rfl⟩ := im_t (by omega) (by omega) i5
            refine ⟨gV2 (ax pl C τ (gS σ p c x y) p) c x (wln C τ p y) k, ?_, ?_⟩
            · obtain ⟨m', e, h', hf, h71⟩ := C_playGame (j := j) hc hp hcC (show x ≤ 3 by omega) (show y ≤ 1 by omega)
              refine ⟨m', ?_, hf⟩
              have g1 := h71 (2 * x + y)
              have g2 := h71 (8 + 2 * x + y)
              rw [if_pos rfl] at g1
              rw [if_neg (by omega), if_pos rfl] at g2
              unfold f_X11_game f_X11_game_0 gV2
              rcases (show k = 0 ∨ k = 1 by omega) with rfl | rfl
              · rw [if_pos rfl]
                simp (disch := omega) only [obs, cN_mk, ite_true, ite_false, if_true, if_false, q0, C_hasPerson hY, C_hasCorner hY, C_isCrumb, i1, i2, i3, l0, l1, no1_e, bI_t, bI_f, ieq_f, ile_t, ile_f, ilt_t, ilt_f, e, f_X11_baiterStake, f_X11_baiterStake_0, l2, i_mul, i_add, p71, g1]
              · rw [if_neg (by omega)]
                simp (disch := omega) only [obs, cN_mk, ite_true, ite_false, if_true, if_false, q0, C_hasPerson hY, C_hasCorner hY, C_isCrumb, i1, i2, i3, l0, l1, no1_e, bI_t, bI_f, ieq_f, ile_t, ile_f, ilt_t, ilt_f, e, f_X11_goerStake, f_X11_goerStake_0, l2, l8, i_mul, i_add, p71, g2]
            · unfold f_X12_game f_X12_game_0
              refine QM_s hm fun m2 _ h2 => ?_
              obtain ⟨m', j', r', e, h', hf, -⟩ := M_gameOf (r := r1) (k := k) h2 hp hcC (show x ≤ 3 by omega) (show y ≤ 1 by omega) (by omega)
              refine ⟨m', j', r', ?_, h'.2.2.2.2.2, hf⟩
              simp (disch := omega) only [obs, cN_mk, ite_true, ite_false, if_true, if_false, q72, M_isPerson h2.2.2.1, M_isCorner h2.2.2.1, i64_0, i64_1, i64_3, M_inK, Nat.reduceAdd, i1, i2, i3, i4, i5, l0, l1, no1_e, bI_t, bI_f, ieq_f, ile_t, ile_f, ilt_t, ilt_f, e]
end GAME
