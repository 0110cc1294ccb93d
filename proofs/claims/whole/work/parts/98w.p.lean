/-! Years by draws. -/
def nx (v : Int64) : Int64 := v * 6364136223846793005 + 1442695040888963407
def dQ (v : Int64) : Nat := (v.toUInt64 >>> ((33 : Int32).toInt64.toUInt64 &&& Int64.toUInt64 63)).toNat
def dN (v : Int64) (N : Nat) : Nat := dQ v % N
theorem dQ_lt (v : Int64) : dQ v < 2147483648 := by
  unfold dQ
  rw [UInt64.toNat_shiftRight, show ((33 : Int32).toInt64.toUInt64 &&& Int64.toUInt64 63).toNat % 64 = 33 by decide, Nat.shiftRight_eq_div_pow]
  have := UInt64.toNat_lt v.toUInt64
  omega
theorem u64_i (v : UInt64) : v.toInt64 = Int64.ofNat v.toNat := by
  apply Int64.toBitVec_inj.mp
  show v.toBitVec = BitVec.ofNat 64 v.toNat
  exact (BitVec.ofNat_toNat 64 v.toBitVec).symm ▸ (by simp)
theorem dr_e {v : Int64} {N : Nat} (hN : N < 1000) : (((v.toUInt64 >>> ((33 : Int32).toInt64.toUInt64 &&& Int64.toUInt64 63)).toInt64) - ((v.toUInt64 >>> ((33 : Int32).toInt64.toUInt64 &&& Int64.toUInt64 63)).toInt64) / ((Int32.ofNat N).toInt64) * ((Int32.ofNat N).toInt64)).toInt32 = Int32.ofNat (dN v N) := by
  have h := dQ_lt v
  rw [u64_i, show (v.toUInt64 >>> ((33 : Int32).toInt64.toUInt64 &&& Int64.toUInt64 63)).toNat = dQ v from rfl, k_of (by omega), k_mod (by omega) (by omega)]
  have : dQ v % N ≤ dQ v := Nat.mod_le _ _
  rw [k_32 (by omega)]
  rfl
theorem dN_lt {v : Int64} {N : Nat} (h : 0 < N) : dN v N < N := Nat.mod_lt _ h
abbrev YS : Type := PS × Int64
/-- the state ahead of the day, and the draws then -/
def yD (C P dg : Nat) (σ : Sg) (v : Int64) : Sg × Int64 := if dg ≤ dN (nx (nx (nx v))) 10 then (uS σ 0 (dN (nx v) C) (dN (nx (nx v)) 4), nx (nx (nx v))) else (uS (uS σ 0 (dN (nx v) C) (dN (nx (nx v)) 4)) 4 (dN (nx (nx (nx (nx v)))) P) (1 - uS σ 0 (dN (nx v) C) (dN (nx (nx v)) 4) 4 (dN (nx (nx (nx (nx v)))) P)), nx (nx (nx (nx v))))
def yA (pl : Pl) (C P dg : Nat) (τ : Sg) (s : YS) : YS := ((nxt (ax pl C τ (yD C P dg s.1.1 s.2).1) P (yD C P dg s.1.1 s.2).1, lgD s.1.2.1 (s.1.1 7 0) (rwD pl C P τ (yD C P dg s.1.1 s.2).1), min 40 (s.1.2.2.1 + 1), kp s.1.2.2.1 s.1.2.2.2.1 s.1.1, (s.1.2.2.2.2 + 1) % 40), (yD C P dg s.1.1 s.2).2)
section YEARS
variable {n z : Nat} {D D' : Dyn} {m m' m1 : MI} {j j' j1 : MJ} {r r' r1 : MR} {tp tp' : TP} {C P : Nat} {τ σ σ' σ0 : Sg} {lg lg' : LG} {acts lt : Nat} {hs : Nat → Sg} {img : Bool} {σI : Sg} {lgI : LG} {A held held' : Nat} {tx : Nat → Nat → Nat} {ln : Nat → Nat} {cls : CLS} {B : Nat} {pls : Nat → List ST} {dg dg' sn sn' : Nat} {sw sw' : Nat → Nat → Nat} {x y : Int32} {k a b cnt : Nat} {pl : Pl} {LC : MI → MR → Prop} {LM : MI → MJ → Prop}
theorem gJ0 : gJ [11] (mkH n z D m j r) 0 18 = some (j 0 18) := gJ_mk rfl (by decide) rfl
theorem gJ72 : gJ [12] (mkH n z D m j r) 72 44 = some (j 72 44) := gJ_mk rfl (by decide) rfl
theorem pJ0 {v : Int64} : pV [11] (mkH n z D m j r) 0 18 (.long v) = some (mkH n z D m (wJ j 0 18 v) r) := pJ_mk rfl (by decide) rfl
theorem pJ72 {v : Int64} : pV [12] (mkH n z D m j r) 72 44 (.long v) = some (mkH n z D m (wJ j 72 44 v) r) := pJ_mk rfl (by decide) rfl
theorem C_draw {N : Nat} (h0 : 0 < N) (hN : N < 1000) : f_X11_draw 0 (Int32.ofNat N) (mkH n z D m j r) = some (Int32.ofNat (dN (nx (j 0 18)) N), mkH n z D m (wJ j 0 18 (nx (j 0 18))) r) := by
  have e1 : ¬ (Int32.ofNat N).toInt64 = 0 := by
    rw [k_of (by omega)]
    exact fun e => by have := (k_inj (by omega) (by omega)).mp (show Int64.ofNat N = Int64.ofNat 0 from e); omega
  have e2 : (0 : Int32) < Int32.ofNat N := (i_lt (a := 0) (by omega) (by omega)).mpr h0
  unfold f_X11_draw f_X11_draw_0
  rw [gJ0, obs, pJ0, obs, if_pos e2, gJ0, obs, if_neg e1, wJ_se]
  exact congrArg (fun v => some (v, _)) (dr_e hN)
theorem M_draw {N : Nat} (h0 : 0 < N) (hN : N < 1000) : f_X12_draw 72 (Int32.ofNat N) (mkH n z D m j r) = some (Int32.ofNat (dN (nx (j 72 44)) N), mkH n z D m (wJ j 72 44 (nx (j 72 44))) r) := by
  have e1 : ¬ (Int32.ofNat N).toInt64 = 0 := by
    rw [k_of (by omega)]
    exact fun e => by have := (k_inj (by omega) (by omega)).mp (show Int64.ofNat N = Int64.ofNat 0 from e); omega
  unfold f_X12_draw f_X12_draw_0
  rw [gJ72, obs, pJ72, obs, gJ72, obs, if_neg e1, wJ_se]
  exact congrArg (fun v => some (v, _)) (dr_e hN)
theorem yD7 {v : Int64} : (yD C P dg σ v).1 7 0 = σ 7 0 := by
  unfold yD
  split
  · show uS σ 0 (dN (nx v) C) (dN (nx (nx v)) 4) 7 0 = σ 7 0
    exact uS_n (by omega)
  · show uS (uS σ 0 (dN (nx v) C) (dN (nx (nx v)) 4)) 4 (dN (nx (nx (nx (nx v)))) P) (1 - uS σ 0 (dN (nx v) C) (dN (nx (nx v)) 4) 4 (dN (nx (nx (nx (nx v)))) P)) 7 0 = σ 7 0
    rw [uS_n (by omega), uS_n (by omega)]
theorem WS_yD {v : Int64} {d : Nat} (hS : WS C P d σ) : WS C P d (yD C P dg σ v).1 := by
  have h4 : dN (nx (nx v)) 4 < 4 := dN_lt (by omega)
  unfold yD
  split
  · exact WS_crumb hS (by omega)
  · exact WS_way (WS_crumb hS (by omega)) (by omega)
theorem C_ahead (hW : WY C P τ) (hP0 : 0 < P) (hS : WS C P 999 σ) (hdg : dg ≤ 9) (h : CIv n D m r tp C P τ σ lg acts lt hs img σI lgI A held cls B pls dg sn sw) : ∃ m' j', f_X11_drawAheadOfDay 0 (mkH n z D m j r) = some ((), mkH n z D m' j' r) ∧ CIv n D m' r tp C P τ (yD C P dg σ (j 0 18)).1 lg acts lt hs img σI lgI A held cls B pls dg sn sw ∧ (∀ a, ¬ (27 ≤ a ∧ a ≤ 32) → m' a = m a) ∧ (∀ a, a ≠ 0 → j' a = j a) ∧ j' 0 18 = (yD C P dg σ (j 0 18)).2 := by
  have hP := hW.2.1
  have hC := hW.1
  have h2 := hW.2.2.1 hP0
  have hY := h.1.2.1
  have hM := h.2.1
  have h17 := h.1.2.2.2.2.2.1
  generalize hv : j 0 18 = v
  have c1 : dN (nx v) C < C := dN_lt (by omega)
  have c2 : dN (nx (nx v)) 4 < 4 := dN_lt (by omega)
  have c3 : dN (nx (nx (nx v))) 10 < 10 := dN_lt (by omega)
  have c4 : dN (nx (nx (nx (nx v)))) P < P := dN_lt hP0
  have d1 : f_X11_draw 0 (Int32.ofNat C) (mkH n z D m j r) = some (Int32.ofNat (dN (nx v) C), mkH n z D m (wJ j 0 18 (nx v)) r) := by rw [← hv]; exact C_draw (by omega) (by omega)
  generalize hj1 : wJ j 0 18 (nx v) = j1 at d1
  have v1 : j1 0 18 = nx v := by rw [← hj1, wJ_se]
  have d2 : f_X11_draw 0 (Int32.ofNat 4) (mkH n z D m j1 r) = some (Int32.ofNat (dN (nx (nx v)) 4), mkH n z D m (wJ j1 0 18 (nx (nx v))) r) := by
    have := C_draw (n := n) (z := z) (D := D) (m := m) (j := j1) (r := r) (N := 4) (by omega) (by omega)
    rw [v1] at this; exact this
  generalize hj2 : wJ j1 0 18 (nx (nx v)) = j2 at d2
  have v2 : j2 0 18 = nx (nx v) := by rw [← hj2, wJ_se]
  generalize hm1 : wI m 28 (dN (nx v) C) (Int32.ofNat (dN (nx (nx v)) 4)) = m1
  have d3 : f_X11_draw 0 (Int32.ofNat 10) (mkH n z D m1 j2 r) = some (Int32.ofNat (dN (nx (nx (nx v))) 10), mkH n z D m1 (wJ j2 0 18 (nx (nx (nx v)))) r) := by
    have := C_draw (n := n) (z := z) (D := D) (m := m1) (j := j2) (r := r) (N := 10) (by omega) (by omega)
    rw [v2] at this; exact this
  generalize hj3 : wJ j2 0 18 (nx (nx (nx v))) = j3 at d3
  have v3 : j3 0 18 = nx (nx (nx v)) := by rw [← hj3, wJ_se]
  have hM1 : CS m1 27 (uS σ 0 (dN (nx v) C) (dN (nx (nx v)) 4)) C P := by rw [← hm1]; exact CS_crumb hM hC hP c1
  have f1 : ∀ a, ¬ (27 ≤ a ∧ a ≤ 32) → m1 a = m a := fun a ha => by rw [← hm1, wI_ne (by omega)]
  have jf3 : ∀ a, a ≠ 0 → j3 a = j a := fun a ha => by rw [← hj3, wJ_ne ha, ← hj2, wJ_ne ha, ← hj1, wJ_ne ha]
  have h17' : m1 0 17 = Int32.ofNat dg := by rw [f1 0 (by omega)]; exact h17
  have hYC1 : YC m1 C P τ := YC_fr hY (fun a ha => f1 a (by omega))
  have w28 : ∀ mm jj rr, aI 0 (mkH n z D mm jj rr) 28 (Int32.ofNat (dN (nx v) C)) = some (mm 28 (dN (nx v) C)) := fun mm jj rr => p28.1 _ (by omega)
  by_cases hd : dg ≤ dN (nx (nx (nx v))) 10
  · have ey : yD C P dg σ v = (uS σ 0 (dN (nx v) C) (dN (nx (nx v)) 4), nx (nx (nx v))) := if_pos hd
    rw [ey]
    refine ⟨m1, j3, ?_, CI_now h hM1 (show uS σ 0 (dN (nx v) C) (dN (nx (nx v)) 4) 7 0 = σ 7 0 from uS_n (by omega)) f1, f1, jf3, v3⟩
    unfold f_X11_drawAheadOfDay f_X11_drawAheadOfDay_0
    simp (disch := omega) only [obs, cN_mk, ite_true, ite_false, if_true, if_false, q0, q18, hY.1, d1, q27, l4, d2, p28, hm1, l10, d3, h17', ile_t]
  · have ey : yD C P dg σ v = (uS (uS σ 0 (dN (nx v) C) (dN (nx (nx v)) 4)) 4 (dN (nx (nx (nx (nx v)))) P) (1 - uS σ 0 (dN (nx v) C) (dN (nx (nx v)) 4) 4 (dN (nx (nx (nx (nx v)))) P)), nx (nx (nx (nx v)))) := if_neg hd
    rw [ey]
    have d4 : f_X11_draw 0 (Int32.ofNat P) (mkH n z D m1 j3 r) = some (Int32.ofNat (dN (nx (nx (nx (nx v)))) P), mkH n z D m1 (wJ j3 0 18 (nx (nx (nx (nx v))))) r) := by
      have := C_draw (n := n) (z := z) (D := D) (m := m1) (j := j3) (r := r) (N := P) (by omega) (by omega)
      rw [v3] at this; exact this
    generalize hj4 : wJ j3 0 18 (nx (nx (nx (nx v)))) = j4 at d4
    have v4 : j4 0 18 = nx (nx (nx (nx v))) := by rw [← hj4, wJ_se]
    have s4 := ((WS_crumb (c := dN (nx v) C) (v := dN (nx (nx v)) 4) hS (by omega)).2.1 _ c4).2.2
    have g4 := (hM1.2.1 _ c4).2.2
    generalize hp : dN (nx (nx (nx (nx v)))) P = p at *
    generalize hσ1 : uS σ 0 (dN (nx v) C) (dN (nx (nx v)) 4) = σ1 at *
    have g4' : m1 32 p = Int32.ofNat (σ1 4 p) := g4
    have h71 : σ1 7 0 = σ 7 0 := by rw [← hσ1]; exact uS_n (by omega)
    refine ⟨wI m1 32 p (Int32.ofNat (1 - σ1 4 p)), j4, ?_, CI_now h (CS_way hM1 hC hP c4) (show uS σ1 4 p (1 - σ1 4 p) 7 0 = σ 7 0 from (uS_n (by omega)).trans h71) (fun a ha => by rw [wI_ne (by omega), f1 a ha]), fun a ha => by rw [wI_ne (by omega), f1 a ha], fun a ha => by rw [← hj4, wJ_ne ha, jf3 a ha], v4⟩
    unfold f_X11_drawAheadOfDay f_X11_drawAheadOfDay_0
    simp (disch := omega) only [obs, cN_mk, ite_true, ite_false, if_true, if_false, q0, q18, hY.1, d1, q27, l4, d2, p28, hm1, l10, d3, h17', ile_f, hYC1.2.1, d4, p32, g4', l1, i_sub]
theorem C_years {F : Nat → YS} {N : Nat} (hP0 : 0 < P) (hN : N ≤ 30) (hF : ∀ i, F (i + 1) = yA (plw held cls) C P dg τ (F i)) : ∀ rem i fuel n z D m j r, i + rem = N → rem < fuel → n + 6 * rem + 6 < 1000000 → (F i).1.1 7 0 + rem ≤ 999 → j 0 18 = (F i).2 → WIv C P τ (F i).1.1 (F i).1.2.1 (F i).1.2.2.1 (F i).1.2.2.2.1 img σI lgI A held tx ln cls B pls dg sn sw → CIv n D m r tp C P τ (F i).1.1 (F i).1.2.1 (F i).1.2.2.1 (F i).1.2.2.2.2 (F i).1.2.2.2.1 img σI lgI A held cls B pls dg sn sw → ∃ n' z' D' m' j' r', f_X11_years_43 fuel 0 (Int32.ofNat N) (Int32.ofNat i) (mkH n z D m j r) = some (Int32.ofNat ((F N).1.1 7 0), mkH n' z' D' m' j' r') ∧ n ≤ n' ∧ n' ≤ n + 6 * rem ∧ z ≤ z' ∧ z' ≤ z + 36 * rem ∧ WIv C P τ (F N).1.1 (F N).1.2.1 (F N).1.2.2.1 (F N).1.2.2.2.1 img σI lgI A held tx ln cls B pls dg sn sw ∧ CIv n' D' m' r' tp C P τ (F N).1.1 (F N).1.2.1 (F N).1.2.2.1 (F N).1.2.2.2.2 (F N).1.2.2.2.1 img σI lgI A held cls B pls dg sn sw ∧ FM m m' j j' r r' := by
  intro rem
  induction rem with
  | zero =>
    intro i fuel n z D m j r hi hf hn h9 hj hw hc
    obtain ⟨f, rfl⟩ : ∃ f, fuel = f + 1 := ⟨fuel - 1, by omega⟩
    have : i = N := by omega
    subst this
    refine ⟨n, z, D, m, j, r, ?_, by omega, by omega, by omega, by omega, hw, hc, ⟨fun _ _ _ => rfl, fun _ _ => rfl, fun _ _ => rfl⟩⟩
    rw [f_X11_years_43.eq_2]
    refine ck_ok ?_ (Nat.le_refl _) (Nat.le_refl _)
    simp (disch := omega) only [obs, cN_mk, ite_true, ite_false, if_true, if_false, ile_t, q0, q27, CS27 hc.2.1]
  | succ rem ih =>
    intro i fuel n z D m j r hi hf hn h9 hj hw hc
    obtain ⟨f, rfl⟩ : ∃ f, fuel = f + 1 := ⟨fuel - 1, by omega⟩
    obtain ⟨n1, z1, D1, m1, r1, e1, b1, b2, b3, b4, hc1, f1⟩ := C_keepI (z := z) (j := j) hw hc (by omega)
    have ha : (F i).1.2.2.1 ≤ 40 := hc.2.2.2.1.2.2.2.1
    obtain ⟨m2, j2, e2, hc2, f2, g2, v2⟩ := C_ahead (z := z1) (j := j) hw.1 hP0 hw.2.1 hw.2.2.2.2.2.2.2.1 hc1
    rw [hj] at hc2 v2
    have hS8 : WS C P 998 (yD C P dg (F i).1.1 (F i).2).1 := by
      have := WS_yD (dg := dg) (v := (F i).2) hw.2.1
      exact ⟨this.1, this.2.1, this.2.2.1, this.2.2.2.1, by rw [yD7]; omega⟩
    have gap := kp_gap hw.2.2.2.1 ha
    obtain ⟨m3, m4, e3, e4, hc4, f4, -⟩ := C_dayI (z := z1) (j := j2) (x := Int32.ofNat 0) (y := Int32.ofNat 0) hw.1 hS8 hw.2.2.2.2.2.1 hc2 (fun k hk => by rw [yD7]; exact gap k hk)
    rw [yD7] at hc4
    have hFi := hF i
    unfold yA at hFi
    have h7 : (F (i + 1)).1.1 7 0 = (F i).1.1 7 0 + 1 := by rw [hFi]; show nxt (ax (plw held cls) C τ (yD C P dg (F i).1.1 (F i).2).1) P (yD C P dg (F i).1.1 (F i).2).1 7 0 = _; rw [nxt7, yD7]
    have hw1 : WIv C P τ (F (i + 1)).1.1 (F (i + 1)).1.2.1 (F (i + 1)).1.2.2.1 (F (i + 1)).1.2.2.2.1 img σI lgI A held tx ln cls B pls dg sn sw := by
      have h7' := h7
      rw [hFi] at h7' ⊢
      obtain ⟨w1, w2, w3, w4, w5⟩ := hw
      refine ⟨w1, ?_, fun e => ?_, WH_kp w4 w2 ha ⟨by omega, by omega⟩, w5⟩
      · have := WS_nxt (pl := plw held cls) w1 hS8
        exact this
      · show okL (lgD _ _ _ e)
        unfold lgD
        split
        · exact okR w1 (WS_le hS8 (by omega))
        · exact w3 e
    obtain ⟨n5, z5, D5, m5, j5, r5, e5, d1, d2, d3, d4, hw5, hc5, f5⟩ := ih (i + 1) f n1 z1 D1 m4 j2 r1 (by omega) (by omega) (by omega) (by omega) (by rw [hFi]; exact v2) hw1 (by rw [hFi]; exact hc4)
    have fm2 : FM m1 m2 j j2 r1 r1 := ⟨fun a _ _ => f2 a (by omega), g2, fun _ _ => rfl⟩
    refine ⟨n5, z5, D5, m5, j5, r5, ?_, by omega, by omega, by omega, by omega, hw5, hc5, FM_tr (FM_tr (FM_tr f1 fm2) f4) f5⟩
    rw [f_X11_years_43.eq_2]
    refine ck_ok ?_ (by omega) (by omega)
    simp (disch := omega) only [obs, cN_mk, ite_true, ite_false, if_true, if_false, ile_f, q0, q39, e1, cA_mk b1 b3]
    refine ck_ok ?_ (by omega) (by omega)
    simp (disch := omega) only [obs, cN_mk, ite_true, ite_false, if_true, if_false, q0, e2, l0, e3, e4, l1, i_add]
    exact e5
theorem M_ahead (hW : WY C P τ) (hP0 : 0 < P) (hS : WS C P 999 σ) (hdg : dg ≤ 9) (hLM : LMok n z D pl (LMd A held tx ln cls)) (hB : WPl B pls) (h : MIv m j tp C P τ σ lg acts hs img σI lgI A held tx ln cls B pls dg sn sw) (k : Nat → Int32 → Int32 → AH → Option (Int32 × AH)) (x1 x4 : Int32) : ∃ m' j', (∀ a, ¬ (72 ≤ a ∧ a < 95) → m' a = m a) ∧ MIv m' j' tp C P τ (yD C P dg σ (j 72 44)).1 lg acts hs img σI lgI A held tx ln cls B pls dg sn sw ∧ j' 72 44 = (yD C P dg σ (j 72 44)).2 ∧ ((gI [12] (mkH n z D m j r) 72 26).bind fun v11 =>
    (isC [12] (mkH n z D m j r) 72).bind fun _ =>
    cN (f_X12_draw 72 v11 (mkH n z D m j r)) (mkH n z D m j r) fun v13 h14 =>
    (gR [12] h14 72 32).bind fun v18 =>
    (isC [12] h14 72).bind fun _ =>
    cN (f_X12_draw 72 4 h14) h14 fun v20 h21 =>
    (uI 0 h21 v18 ((2 * v13) + 0) v20).bind fun h25 =>
    (isC [12] h25 72).bind fun _ =>
    cN (f_X12_draw 72 10 h25) h25 fun v27 h28 =>
    (gI [12] h28 72 35).bind fun v32 =>
    if v32 ≤ v27 then
      f_X12_years_113 k 72 x1 x4 h28
    else
      (gR [12] h28 72 32).bind fun v35 =>
      (gI [12] h28 72 27).bind fun v37 =>
      (isC [12] h28 72).bind fun _ =>
      cN (f_X12_draw 72 v37 h28) h28 fun v39 h40 =>
      cN (f_X12_turns v35 v39 h40) h40 fun _ h45 =>
      f_X12_years_113 k 72 x1 x4 h45) = f_X12_years_113 k 72 x1 x4 (mkH n z D m' j' r) := by
  have hP := hW.2.1
  have hC := hW.1
  have h2 := hW.2.2.1 hP0
  have hY := h.1.2.1
  have hM := h.2.1
  have h35 := h.1.2.2.2.2.2.1
  generalize hv : j 72 44 = v
  have c1 : dN (nx v) C < C := dN_lt (by omega)
  have c2 : dN (nx (nx v)) 4 < 4 := dN_lt (by omega)
  have c3 : dN (nx (nx (nx v))) 10 < 10 := dN_lt (by omega)
  have c4 : dN (nx (nx (nx (nx v)))) P < P := dN_lt hP0
  have d1 : f_X12_draw 72 (Int32.ofNat C) (mkH n z D m j r) = some (Int32.ofNat (dN (nx v) C), mkH n z D m (wJ j 72 44 (nx v)) r) := by rw [← hv]; exact M_draw (by omega) (by omega)
  generalize hj1 : wJ j 72 44 (nx v) = j1 at d1
  have v1 : j1 72 44 = nx v := by rw [← hj1, wJ_se]
  have d2 : f_X12_draw 72 (Int32.ofNat 4) (mkH n z D m j1 r) = some (Int32.ofNat (dN (nx (nx v)) 4), mkH n z D m (wJ j1 72 44 (nx (nx v))) r) := by
    have := M_draw (n := n) (z := z) (D := D) (m := m) (j := j1) (r := r) (N := 4) (by omega) (by omega)
    rw [v1] at this; exact this
  generalize hj2 : wJ j1 72 44 (nx (nx v)) = j2 at d2
  have v2 : j2 72 44 = nx (nx v) := by rw [← hj2, wJ_se]
  generalize hm1 : wI m 85 (2 * dN (nx v) C) (Int32.ofNat (dN (nx (nx v)) 4)) = m1
  have d3 : f_X12_draw 72 (Int32.ofNat 10) (mkH n z D m1 j2 r) = some (Int32.ofNat (dN (nx (nx (nx v))) 10), mkH n z D m1 (wJ j2 72 44 (nx (nx (nx v)))) r) := by
    have := M_draw (n := n) (z := z) (D := D) (m := m1) (j := j2) (r := r) (N := 10) (by omega) (by omega)
    rw [v2] at this; exact this
  generalize hj3 : wJ j2 72 44 (nx (nx (nx v))) = j3 at d3
  have v3 : j3 72 44 = nx (nx (nx v)) := by rw [← hj3, wJ_se]
  have hM1 : MS (m1 85) (uS σ 0 (dN (nx v) C) (dN (nx (nx v)) 4)) C P := by rw [← hm1, wI_eq]; exact MS_crumb hM hC hP c1
  have f1 : ∀ a, a ≠ 85 → m1 a = m a := fun a ha => by rw [← hm1, wI_ne ha]
  have f1' : ∀ i, 31 ≤ i → m1 85 i = m 85 i := fun i hi => by rw [← hm1, wI_sn (by omega)]
  have jf3 : j3 87 = j 87 := by rw [← hj3, wJ_ne (by omega), ← hj2, wJ_ne (by omega), ← hj1, wJ_ne (by omega)]
  have hv1 := MI_now hLM hB h hM1 (uS_n (by omega)) f1 f1'
  have h35' : m1 72 35 = Int32.ofNat dg := by rw [f1 72 (by omega)]; exact h35
  have hYM1 := hv1.1.2.1
  have g26 : gI [12] (mkH n z D m j r) 72 26 = some (Int32.ofNat C) := by rw [show gI [12] (mkH n z D m j r) 72 26 = some (m 72 26) from gI_mk rfl (by decide) rfl, hY.1]
  have g27 : ∀ jj, gI [12] (mkH n z D m1 jj r) 72 27 = some (Int32.ofNat P) := fun jj => by rw [show gI [12] (mkH n z D m1 jj r) 72 27 = some (m1 72 27) from gI_mk rfl (by decide) rfl, hYM1.2.1]
  have g35 : ∀ jj, gI [12] (mkH n z D m1 jj r) 72 35 = some (Int32.ofNat dg) := fun jj => by rw [show gI [12] (mkH n z D m1 jj r) 72 35 = some (m1 72 35) from gI_mk rfl (by decide) rfl, h35']
  have c72 : ∀ mm jj, isC [12] (mkH n z D mm jj r) 72 = some () := fun mm jj => isC_mk rfl (by decide)
  have g32 : ∀ mm jj, gR [12] (mkH n z D mm jj r) 72 32 = some 85 := fun mm jj => gR_mk rfl (by decide) rfl
  have ix : (2 : Int32) * Int32.ofNat (dN (nx v) C) + 0 = Int32.ofNat (2 * dN (nx v) C) := by rw [l2, l0, i_mul, i_add, Nat.add_zero]
  rw [← l4] at d2
  rw [← l10] at d3
  by_cases hd : dg ≤ dN (nx (nx (nx v))) 10
  · have ey : yD C P dg σ v = (uS σ 0 (dN (nx v) C) (dN (nx (nx v)) 4), nx (nx (nx v))) := if_pos hd
    rw [ey]
    refine ⟨m1, j3, fun a ha => f1 a (by omega), MI_c hv1 (fun _ _ _ => rfl) jf3, v3, ?_⟩
    rw [g26, obs, c72, obs, d1, cN_mk, g32, obs, c72, obs, d2, cN_mk, ix, p85.2 _ _ (by omega), hm1, obs, c72, obs, d3, cN_mk, g35, obs, if_pos ((i_le (by omega) (by omega)).mpr hd)]
  · have ey : yD C P dg σ v = (uS (uS σ 0 (dN (nx v) C) (dN (nx (nx v)) 4)) 4 (dN (nx (nx (nx (nx v)))) P) (1 - uS σ 0 (dN (nx v) C) (dN (nx (nx v)) 4) 4 (dN (nx (nx (nx (nx v)))) P)), nx (nx (nx (nx v)))) := if_neg hd
    rw [ey]
    have d4 : f_X12_draw 72 (Int32.ofNat P) (mkH n z D m1 j3 r) = some (Int32.ofNat (dN (nx (nx (nx (nx v)))) P), mkH n z D m1 (wJ j3 72 44 (nx (nx (nx (nx v))))) r) := by
      have := M_draw (n := n) (z := z) (D := D) (m := m1) (j := j3) (r := r) (N := P) (by omega) (by omega)
      rw [v3] at this; exact this
    generalize hj4 : wJ j3 72 44 (nx (nx (nx (nx v)))) = j4 at d4
    have v4 : j4 72 44 = nx (nx (nx (nx v))) := by rw [← hj4, wJ_se]
    have jf4 : j4 87 = j 87 := by rw [← hj4, wJ_ne (by omega)]; exact jf3
    obtain ⟨m2, e5, hM2, f2, f2'⟩ := M_turns (n := n) (z := z) (D := D) (j := j4) (r := r) (w := 85) (Or.inl rfl) hW (WS_le (WS_crumb (c := dN (nx v) C) (v := dN (nx (nx v)) 4) hS (by omega)) (by omega)) hM1 c4
    have hv2 := MI_now hLM hB hv1 hM2 (uS_n (by omega)) f2 f2'
    refine ⟨m2, j4, fun a ha => by rw [f2 a (by omega), f1 a (by omega)], MI_c hv2 (fun _ _ _ => rfl) jf4, v4, ?_⟩
    rw [g26, obs, c72, obs, d1, cN_mk, g32, obs, c72, obs, d2, cN_mk, ix, p85.2 _ _ (by omega), hm1, obs, c72, obs, d3, cN_mk, g35, obs, if_neg (fun e => hd ((i_le (by omega) (by omega)).mp e)), g32, obs, g27, obs, c72, obs, d4, cN_mk, e5, cN_mk]
theorem M_years {F : Nat → YS} {N : Nat} (hD : ∀ a, 1000000 ≤ a → D a = none) (hP0 : 0 < P) (hN : N ≤ 30) (hF : ∀ i, F (i + 1) = yA (plw held cls) C P dg τ (F i)) : ∀ rem i fuel m j r, i + rem = N → rem < fuel → (F i).1.1 7 0 + rem ≤ 999 → j 72 44 = (F i).2 → WIv C P τ (F i).1.1 (F i).1.2.1 (F i).1.2.2.1 (F i).1.2.2.2.1 img σI lgI A held tx ln cls B pls dg sn sw → MIv m j tp C P τ (F i).1.1 (F i).1.2.1 (F i).1.2.2.1 (F i).1.2.2.2.1 img σI lgI A held tx ln cls B pls dg sn sw → ∃ m' j' r', f_X12_years_49 fuel 72 (Int32.ofNat N) (Int32.ofNat i) (mkH n z D m j r) = some (Int32.ofNat ((F N).1.1 7 0), mkH n z D m' j' r') ∧ MIv m' j' tp C P τ (F N).1.1 (F N).1.2.1 (F N).1.2.2.1 (F N).1.2.2.2.1 img σI lgI A held tx ln cls B pls dg sn sw ∧ FN m m' j j' r r' := by
  intro rem
  induction rem with
  | zero =>
    intro i fuel m j r hi hf h9 hj hw hv
    obtain ⟨f, rfl⟩ : ∃ f, fuel = f + 1 := ⟨fuel - 1, by omega⟩
    have : i = N := by omega
    subst this
    refine ⟨m, j, r, ?_, hv, ⟨fun _ _ => rfl, fun _ _ => rfl⟩⟩
    rw [f_X12_years_49.eq_2]
    simp (disch := omega) only [obs, cN_mk, ite_true, ite_false, if_true, if_false, ile_t, q72, l30, p85, hv.2.1.2.2.2.2]
  | succ rem ih =>
    intro i fuel m j r hi hf h9 hj hw hv
    obtain ⟨f, rfl⟩ : ∃ f, fuel = f + 1 := ⟨fuel - 1, by omega⟩
    have ha : (F i).1.2.2.1 ≤ 40 := hv.2.2.2.2.1
    have hB := hw.2.2.2.2.2.2.1
    have hLM := LMok_d (n := n) (z := z) hD hw.2.2.2.2.2.1
    obtain ⟨m1, e1, hv1, f1⟩ := M_remI (n := n) (z := z) (r := r) hw hD hv
    obtain ⟨m2, j2, f2, hv2, v2, e2⟩ := M_ahead (r := r) hw.1 hP0 hw.2.1 hw.2.2.2.2.2.2.2.1 hLM hB hv1 (f_X12_years_49 f) (Int32.ofNat N) (Int32.ofNat i)
    rw [hj] at hv2 v2
    have hS8 : WS C P 998 (yD C P dg (F i).1.1 (F i).2).1 := by
      have := WS_yD (dg := dg) (v := (F i).2) hw.2.1
      exact ⟨this.1, this.2.1, this.2.2.1, this.2.2.2.1, by rw [yD7]; omega⟩
    have gap := kp_gap hw.2.2.2.1 ha
    obtain ⟨m3, j3, r3, e3, hv3, f3, j3e'⟩ := M_dayI (r := r) hw.1 hS8 hLM hB hv2 (fun k hk => by rw [yD7]; exact (gap k hk).1)
    rw [yD7] at hv3
    have hFi := hF i
    unfold yA at hFi
    have h7 : (F (i + 1)).1.1 7 0 = (F i).1.1 7 0 + 1 := by rw [hFi]; show nxt (ax (plw held cls) C τ (yD C P dg (F i).1.1 (F i).2).1) P (yD C P dg (F i).1.1 (F i).2).1 7 0 = _; rw [nxt7, yD7]
    have hw1 : WIv C P τ (F (i + 1)).1.1 (F (i + 1)).1.2.1 (F (i + 1)).1.2.2.1 (F (i + 1)).1.2.2.2.1 img σI lgI A held tx ln cls B pls dg sn sw := by
      have h7' := h7
      rw [hFi] at h7' ⊢
      obtain ⟨w1, w2, w3, w4, w5⟩ := hw
      refine ⟨w1, ?_, fun e => ?_, WH_kp w4 w2 ha ⟨by omega, by omega⟩, w5⟩
      · have := WS_nxt (pl := plw held cls) w1 hS8
        exact this
      · show okL (lgD _ _ _ e)
        unfold lgD
        split
        · exact okR w1 (WS_le hS8 (by omega))
        · exact w3 e
    have j3e : j3 72 44 = j2 72 44 := by rw [j3e']
    obtain ⟨m4, j4, r4, e4, hv4, f4⟩ := ih (i + 1) f m3 j3 r3 (by omega) (by omega) (by omega) (by rw [hFi, j3e]; exact v2) hw1 (by rw [hFi]; exact hv3)
    refine ⟨m4, j4, r4, ?_, hv4, FN_tr (FN_tr (FN_tr f1 (⟨f2, fun _ _ => rfl⟩ : FN m1 m2 j j2 r r)) f3) f4⟩
    rw [f_X12_years_49.eq_2]
    simp (disch := omega) only [obs, cN_mk, ite_true, ite_false, if_true, if_false, ile_f, show isC [12] (mkH n z D m j r) 72 = some () from isC_mk rfl (by decide), e1]
    rw [e2]
    unfold f_X12_years_113
    simp (disch := omega) only [obs, cN_mk, ite_true, ite_false, if_true, if_false, q72, e3, l1, i_add, e4]
end YEARS
