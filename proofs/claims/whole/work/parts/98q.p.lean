/-! Calls that are acts. -/
section CALLS
variable {n z : Nat} {D D' : Dyn} {m m' : MI} {j j' : MJ} {r r' : MR} {tp : TP} {C P : Nat} {τ σ σ' : Sg} {lg lg' : LG} {acts lt : Nat} {hs : Nat → Sg} {img : Bool} {σI : Sg} {lgI : LG} {A held : Nat} {tx : Nat → Nat → Nat} {ln : Nat → Nat} {cls : CLS} {B : Nat} {pls : Nat → List ST} {dg sn : Nat} {sw : Nat → Nat → Nat} {x y : Int32} {k a b : Nat} {pl : Pl}
theorem MI_0 (hLM : LMok n z D pl (LMd A held tx ln cls)) (hB : WPl B pls) (h : MIv m j tp C P τ σ lg acts hs img σI lgI A held tx ln cls B pls dg sn sw) : MIv (wI m 72 0 x) j tp C P τ σ lg acts hs img σI lgI A held tx ln cls B pls dg sn sw := MI_q (r := fun _ _ => none) (r' := fun _ _ => none) h FQm_0 (LM_0 hLM h.1.2.2.2.1) hB
theorem FN_0 : FN m (wI m 72 0 x) j j r r := FN_q FQm_0
/-- a refused call -/
theorem CALL_r {cf : AH → Option (Int32 × AH)} {mf : AH → AH → Option (Int32 × AH)} {v : Int32} (hw : WIv C P τ σ lg acts hs img σI lgI A held tx ln cls B pls dg sn sw) (hc : CIv n D m r tp C P τ σ lg acts lt hs img σI lgI A held cls B pls dg sn sw) (hv : MIv m j tp C P τ σ lg acts hs img σI lgI A held tx ln cls B pls dg sn sw) (hn : n ≤ 1000000) (e1 : cf (mkH n z D m j r) = some (v, (mkH n z D m j r))) (e2 : ∀ m2, EM n z D (plw held cls) (LMd A held tx ln cls) m2 j C P τ σ → MIv m2 j tp C P τ σ lg acts hs img σI lgI A held tx ln cls B pls dg sn sw → mf (mkH n z D m2 j r) (mkH n z D m2 j r) = some (v, mkH n z D m2 j r)) : CALL n z D m j r cf (fun h => (pV [12] h 72 0 (.int 0)).bind fun h1 => mf h1 h1) := by
  have hD : ∀ a, 1000000 ≤ a → D a = none := fun a ha => hc.2.2.2.2.2.1 a (by omega)
  refine CALL_q hw hc hv (fun m1 hm1 hv1 => ⟨v, QC_e e1, ?_⟩) hn
  refine QM_s hm1 fun m2 he h2 => QM_e h2 ?_
  subst he
  exact e2 _ h2 (MI_0 hm1.2.2.2.2.1 hw.2.2.2.2.2.2.1 hv1)
theorem hD_of (hc : CIv n D m r tp C P τ σ lg acts lt hs img σI lgI A held cls B pls dg sn sw) (hn : n ≤ 1000000) : ∀ a, 1000000 ≤ a → D a = none := fun a ha => hc.2.2.2.2.2.1 a (by omega)
theorem K_day (hw : WIv C P τ σ lg acts hs img σI lgI A held tx ln cls B pls dg sn sw) (hc : CIv n D m r tp C P τ σ lg acts lt hs img σI lgI A held cls B pls dg sn sw) (hv : MIv m j tp C P τ σ lg acts hs img σI lgI A held tx ln cls B pls dg sn sw) (hn : n + 200 ≤ 1000000) : CALL n z D m j r (f_X11_day 0) (f_X12_day 72) := by
  have hW := hw.1
  have hS := hw.2.1
  have hP := hW.2.1
  have ha : acts ≤ 40 := hc.2.2.2.1.2.2.2.1
  have s7 := hS.2.2.2.2
  have hB := hw.2.2.2.2.2.2.1
  have cb := C_canBe (n := n) (z := z) (D := D) (j := j) (r := r) (k := 0) (a := 0) (b := 0) hW (WS_le hS (by omega)) hc.1.2.1 (Or.inl rfl) hc.2.1 (by omega) (by omega) (by omega)
  cases hcb : cB C P σ 0 0 0 with
  | false =>
    rw [hcb] at cb
    refine CALL_q hw hc hv (fun m1 hm1 hv1 => ⟨no1, QC_e ?_, ?_⟩) (by omega)
    · unfold f_X11_day f_X11_day_0
      refine ck_ok ?_ (Nat.le_refl _) (Nat.le_refl _)
      simp (disch := omega) only [obs, cN_mk, ite_true, ite_false, if_true, if_false, q0, l0, cb, l0, l1, no1_e, bI_t, bI_f, ieq_f, ile_t, ile_f, ilt_t, ilt_f]
    · unfold f_X12_day f_X12_day_0
      refine QM_s hm1 fun m2 he h2 => QM_e h2 ?_
      have hcb := of_decide_eq_false hcb
      by_cases hP0 : P = 0
      · simp (disch := omega) only [obs, cN_mk, ite_true, ite_false, if_true, if_false, q72, h2.2.2.1.2.1, hP0, l0, l1, no1_e, bI_t, bI_f, ieq_f, ile_t, ile_f, ilt_t, ilt_f]
      · have h9 : σ 7 0 = 999 := by omega
        simp (disch := omega) only [obs, cN_mk, ite_true, ite_false, if_true, if_false, q72, h2.2.2.1.2.1, l0, l1, no1_e, bI_t, bI_f, ieq_f, ile_t, ile_f, ilt_t, ilt_f, l30, p85, h2.2.2.2.1.2.2.2.2, h9, l999]
  | true =>
    rw [hcb] at cb
    obtain ⟨n1, z1, D1, m1, r1, e1, b1, b2, b3, b4, hc1, f1, t1⟩ := C_actI (z := z) (j := j) (k := 0) (a := 0) (b := 0) hw hc (by omega) hcb (by omega)
    have hd := of_decide_eq_true hcb
    have hS8 : WS C P 998 σ := ⟨hS.1, hS.2.1, hS.2.2.1, hS.2.2.2.1, by omega⟩
    have hD1 := hD_of hc1 (by omega)
    have hLM := LMok_d (n := n1) (z := z1) hD1 hw.2.2.2.2.2.1
    have hv1 := MI_c hv f1.1 (f1.2.1 87 (by omega))
    have hv0 := MI_0 (x := Int32.ofNat 0) hLM hB hv1
    obtain ⟨m2, e2, hv2, f2⟩ := M_remI (n := n1) (z := z1) (r := r1) hw hD1 hv0
    obtain ⟨m3, j3, r3, e3, hv3, f3, -⟩ := M_dayI (r := r1) hW hS8 hLM hB hv2 (fun k hk => (kp_gap hw.2.2.2.1 ha k hk).1)
    have tk64 : (dy (plw held cls) C τ σ P).2.1 < 64 := Nat.lt_of_lt_of_le (dy_lt (pl := plw held cls) (σ := σ) hW P (Nat.le_refl P)).2.1 (pow6 hP)
    have fn := FN_tr (j'' := j3) (FN_tr (FN_0 (m := m1) (x := Int32.ofNat 0) (j := j) (r := r1)) f2) f3
    have t1 := t1 rfl
    have y27 : (wI m1 72 0 (Int32.ofNat 0)) 72 27 = Int32.ofNat P := hv0.1.2.1.2.1
    have y30 : (wI m1 72 0 (Int32.ofNat 0)) 85 30 = Int32.ofNat (σ 7 0) := hv0.2.1.2.2.2.2
    refine ⟨Int32.ofNat (popc (dy (plw held cls) C τ σ P).2.1), n1, z1, D1, m1, j, r1, m3, j3, r3, ?_, ?_, ⟨b1, by omega⟩, ⟨b3, by omega⟩, tp, C, P, τ, _, _, _, _, _, img, σI, lgI, A, held, tx, ln, cls, B, pls, dg, sn, sw, WI_act hw ha (by omega) hcb, CI_m hc1 fn.1 fn.2, hv3⟩
    · unfold f_X11_day f_X11_day_0
      refine ck_ok ?_ b1 b3
      simp (disch := omega) only [obs, cN_mk, ite_true, ite_false, if_true, if_false, q0, l0, cb, l0, l1, no1_e, bI_t, bI_f, ieq_f, ile_t, ile_f, ilt_t, ilt_f, e1, cA_mk b1 b3]
      refine ck_ok ?_ (Nat.le_refl _) (Nat.le_refl _)
      simp (disch := omega) only [obs, cN_mk, ite_true, ite_false, if_true, if_false, q0, q52, t1, bc64]
    · unfold f_X12_day f_X12_day_0
      rw [thr0]
      simp (disch := omega) only [obs, cN_mk, ite_true, ite_false, if_true, if_false, q72, y27, l0, l1, no1_e, bI_t, bI_f, ieq_f, ile_t, ile_f, ilt_t, ilt_f, l30, p85, y30, l999, e2, e3, bc64]
theorem K_crumb (hw : WIv C P τ σ lg acts hs img σI lgI A held tx ln cls B pls dg sn sw) (hc : CIv n D m r tp C P τ σ lg acts lt hs img σI lgI A held cls B pls dg sn sw) (hv : MIv m j tp C P τ σ lg acts hs img σI lgI A held tx ln cls B pls dg sn sw) (hn : n + 200 ≤ 1000000) (x y : Int32) : CALL n z D m j r (f_X11_crumb 0 x y) (f_X12_crumb 72 x y) := by
  have hW := hw.1
  have hS := hw.2.1
  have hP := hW.2.1
  have hC := hW.1
  have hY := hc.1.2.1
  have ha : acts ≤ 40 := hc.2.2.2.1.2.2.2.1
  have hB := hw.2.2.2.2.2.2.1
  cases him : im x 0 C with
  | false =>
    refine CALL_q hw hc hv (fun m1 hm1 hv1 => ⟨no1, QC_e ?_, ?_⟩) (by omega)
    · unfold f_X11_crumb f_X11_crumb_0 f_X11_canBe f_X11_canBe_0
      refine ck_ok ?_ (Nat.le_refl _) (Nat.le_refl _)
      simp (disch := omega) only [obs, cN_mk, ite_true, ite_false, if_true, if_false, q0, C_hasCorner hY, him, l0, l1, no1_e, bI_t, bI_f, ieq_f, ile_t, ile_f, ilt_t, ilt_f]
    · unfold f_X12_crumb f_X12_crumb_0 f_X12_canLay f_X12_canLay_0
      refine QM_s hm1 fun m2 he h2 => QM_e h2 ?_
      simp (disch := omega) only [obs, cN_mk, ite_true, ite_false, if_true, if_false, q72, M_isCorner h2.2.2.1, him, l0, l1, no1_e, bI_t, bI_f, ieq_f, ile_t, ile_f, ilt_t, ilt_f]
  | true =>
    obtain ⟨a, -, haC, rfl⟩ := im_t (by omega) (by omega) him
    cases hiy : im y 0 4 with
    | false =>
      refine CALL_q hw hc hv (fun m1 hm1 hv1 => ⟨no1, QC_e ?_, ?_⟩) (by omega)
      · unfold f_X11_crumb f_X11_crumb_0 f_X11_canBe f_X11_canBe_0
        refine ck_ok ?_ (Nat.le_refl _) (Nat.le_refl _)
        simp (disch := omega) only [obs, cN_mk, ite_true, ite_false, if_true, if_false, q0, C_hasCorner hY, C_isCrumb, him, hiy, l0, l1, no1_e, bI_t, bI_f, ieq_f, ile_t, ile_f, ilt_t, ilt_f]
      · unfold f_X12_crumb f_X12_crumb_0 f_X12_canLay f_X12_canLay_0
        refine QM_s hm1 fun m2 he h2 => QM_e h2 ?_
        simp (disch := omega) only [obs, cN_mk, ite_true, ite_false, if_true, if_false, q72, M_isCorner h2.2.2.1, i64_0, i64_3, M_inK, Nat.reduceAdd, him, hiy, l0, l1, no1_e, bI_t, bI_f, ieq_f, ile_t, ile_f, ilt_t, ilt_f]
    | true =>
      obtain ⟨b, -, hbC, rfl⟩ := im_t (by omega) (by omega) hiy
      have cb := C_canBe (n := n) (z := z) (D := D) (j := j) (r := r) (k := 1) (a := a) (b := b) hW (WS_le hS (by omega)) hY (Or.inl rfl) hc.2.1 (by omega) (by omega) (by omega)
      cases hcb : cB C P σ 1 a b with
      | false =>
        rw [hcb] at cb
        refine CALL_q hw hc hv (fun m1 hm1 hv1 => ⟨no1, QC_e ?_, ?_⟩) (by omega)
        · unfold f_X11_crumb f_X11_crumb_0
          refine ck_ok ?_ (Nat.le_refl _) (Nat.le_refl _)
          simp (disch := omega) only [obs, cN_mk, ite_true, ite_false, if_true, if_false, q0, l0, l1, no1_e, bI_t, bI_f, ieq_f, ile_t, ile_f, ilt_t, ilt_f, cb]
        · unfold f_X12_crumb f_X12_crumb_0
          refine QM_s hm1 fun m2 he h2 => QM_e h2 ?_
          have mb := M_canLay (n := n) (z := z) (D := D) (j := j) (r := r) (w := 85) (a := a) (b := b) (Or.inl rfl) hW (WS_le hS (by omega)) h2.2.2.1 h2.2.2.2.1 (by omega) (by omega)
          rw [hcb] at mb
          simp (disch := omega) only [obs, cN_mk, ite_true, ite_false, if_true, if_false, q72, l0, l1, no1_e, bI_t, bI_f, ieq_f, ile_t, ile_f, ilt_t, ilt_f, mb]
      | true =>
        rw [hcb] at cb
        obtain ⟨n1, z1, D1, m1, r1, e1, b1, b2, b3, b4, hc1, f1, -⟩ := C_actI (z := z) (j := j) (k := 1) (a := a) (b := b) hw hc (by omega) hcb (by omega)
        have hD1 := hD_of hc1 (by omega)
        have hLM := LMok_d (n := n1) (z := z1) hD1 hw.2.2.2.2.2.1
        have hv1 := MI_c hv f1.1 (f1.2.1 87 (by omega))
        have hv0 := MI_0 (x := Int32.ofNat 0) hLM hB hv1
        have mb := M_canLay (n := n1) (z := z1) (D := D1) (j := j) (r := r1) (w := 85) (a := a) (b := b) (Or.inl rfl) hW (WS_le hS (by omega)) hv0.1.2.1 hv0.2.1 (by omega) (by omega)
        rw [hcb] at mb
        obtain ⟨m2, e2, hv2, f2⟩ := M_remI (n := n1) (z := z1) (r := r1) hw hD1 hv0
        obtain ⟨m3, e3, hM3, f3, g3⟩ := M_lays (n := n1) (z := z1) (D := D1) (j := j) (r := r1) (pl := plw held cls) (w := 85) (Or.inl rfl) hW (WS_le hS (by omega)) hv2.2.1 hcb
        have hv3 := MI_now hLM hB hv2 hM3 (by rw [sF_7 (by omega)]; rfl) f3 g3
        have fn := FN_tr (j'' := j) (FN_tr (FN_0 (m := m1) (x := Int32.ofNat 0) (j := j) (r := r1)) f2) (⟨fun a ha => f3 a (by omega), fun _ _ => rfl⟩ : FN m2 m3 j j r1 r1)
        refine ⟨Int32.ofNat (σ 0 a), n1, z1, D1, m1, j, r1, m3, j, r1, ?_, ?_, ⟨b1, by omega⟩, ⟨b3, by omega⟩, tp, C, P, τ, _, _, _, _, _, img, σI, lgI, A, held, tx, ln, cls, B, pls, dg, sn, sw, WI_act hw ha (by omega) hcb, CI_m hc1 fn.1 fn.2, hv3⟩
        · unfold f_X11_crumb f_X11_crumb_0
          refine ck_ok ?_ b1 b3
          simp (disch := omega) only [obs, cN_mk, ite_true, ite_false, if_true, if_false, q0, l0, l1, no1_e, bI_t, bI_f, ieq_f, ile_t, ile_f, ilt_t, ilt_f, cb, q27, p28, CS27 hc.2.1, e1, cA_mk b1 b3]
          refine ck_ok rfl (Nat.le_refl _) (Nat.le_refl _)
        · unfold f_X12_crumb f_X12_crumb_0
          rw [thr0]
          simp (disch := omega) only [obs, cN_mk, ite_true, ite_false, if_true, if_false, q72, l0, l1, no1_e, bI_t, bI_f, ieq_f, ile_t, ile_f, ilt_t, ilt_f, mb, e2, l2, i_mul, i_add, Nat.add_zero, p85, hv2.2.1.1, e3]
theorem K_renew (hw : WIv C P τ σ lg acts hs img σI lgI A held tx ln cls B pls dg sn sw) (hc : CIv n D m r tp C P τ σ lg acts lt hs img σI lgI A held cls B pls dg sn sw) (hv : MIv m j tp C P τ σ lg acts hs img σI lgI A held tx ln cls B pls dg sn sw) (hn : n + 200 ≤ 1000000) (x : Int32) : CALL n z D m j r (f_X11_renew 0 x) (f_X12_renew 72 x) := by
  have hW := hw.1
  have hS := hw.2.1
  have hP := hW.2.1
  have hC := hW.1
  have hY := hc.1.2.1
  have ha : acts ≤ 40 := hc.2.2.2.1.2.2.2.1
  have hB := hw.2.2.2.2.2.2.1
  cases him : im x 0 C with
  | false =>
    refine CALL_q hw hc hv (fun m1 hm1 hv1 => ⟨no1, QC_e ?_, ?_⟩) (by omega)
    · unfold f_X11_renew f_X11_renew_0 f_X11_canBe f_X11_canBe_0
      refine ck_ok ?_ (Nat.le_refl _) (Nat.le_refl _)
      simp (disch := omega) only [obs, cN_mk, ite_true, ite_false, if_true, if_false, q0, C_hasCorner hY, him, l0, l1, no1_e, bI_t, bI_f, ieq_f, ile_t, ile_f, ilt_t, ilt_f, l2]
    · unfold f_X12_renew f_X12_renew_0 f_X12_canRenew f_X12_canRenew_0
      refine QM_s hm1 fun m2 he h2 => QM_e h2 ?_
      simp (disch := omega) only [obs, cN_mk, ite_true, ite_false, if_true, if_false, q72, M_isCorner h2.2.2.1, him, l0, l1, no1_e, bI_t, bI_f, ieq_f, ile_t, ile_f, ilt_t, ilt_f]
  | true =>
    obtain ⟨a, -, haC, rfl⟩ := im_t (by omega) (by omega) him
    have cb := C_canBe (n := n) (z := z) (D := D) (j := j) (r := r) (k := 2) (a := a) (b := 0) hW (WS_le hS (by omega)) hY (Or.inl rfl) hc.2.1 (by omega) (by omega) (by omega)
    cases hcb : cB C P σ 2 a 0 with
    | false =>
      rw [hcb] at cb
      refine CALL_q hw hc hv (fun m1 hm1 hv1 => ⟨no1, QC_e ?_, ?_⟩) (by omega)
      · unfold f_X11_renew f_X11_renew_0
        refine ck_ok ?_ (Nat.le_refl _) (Nat.le_refl _)
        simp (disch := omega) only [obs, cN_mk, ite_true, ite_false, if_true, if_false, q0, l0, l1, no1_e, bI_t, bI_f, ieq_f, ile_t, ile_f, ilt_t, ilt_f, l2, cb]
      · unfold f_X12_renew f_X12_renew_0
        refine QM_s hm1 fun m2 he h2 => QM_e h2 ?_
        have mb := M_canRenew (n := n) (z := z) (D := D) (j := j) (r := r) (w := 85) (a := a) (b := 0) (Or.inl rfl) hW (WS_le hS (by omega)) h2.2.2.1 h2.2.2.2.1 (by omega)
        rw [hcb] at mb
        simp (disch := omega) only [obs, cN_mk, ite_true, ite_false, if_true, if_false, q72, l0, l1, no1_e, bI_t, bI_f, ieq_f, ile_t, ile_f, ilt_t, ilt_f, mb]
    | true =>
      rw [hcb] at cb
      obtain ⟨n1, z1, D1, m1, r1, e1, b1, b2, b3, b4, hc1, f1, -⟩ := C_actI (z := z) (j := j) (k := 2) (a := a) (b := 0) hw hc (by omega) hcb (by omega)
      have hD1 := hD_of hc1 (by omega)
      have hLM := LMok_d (n := n1) (z := z1) hD1 hw.2.2.2.2.2.1
      have hv1 := MI_c hv f1.1 (f1.2.1 87 (by omega))
      have hv0 := MI_0 (x := Int32.ofNat 0) hLM hB hv1
      have mb := M_canRenew (n := n1) (z := z1) (D := D1) (j := j) (r := r1) (w := 85) (a := a) (b := 0) (Or.inl rfl) hW (WS_le hS (by omega)) hv0.1.2.1 hv0.2.1 (by omega)
      rw [hcb] at mb
      obtain ⟨m2, e2, hv2, f2⟩ := M_remI (n := n1) (z := z1) (r := r1) hw hD1 hv0
      obtain ⟨m3, e3, hM3, f3, g3⟩ := M_renews (n := n1) (z := z1) (D := D1) (j := j) (r := r1) (pl := plw held cls) (w := 85) (Or.inl rfl) hW (WS_le hS (by omega)) hv2.2.1 hcb
      have hv3 := MI_now hLM hB hv2 hM3 (by rw [sF_7 (by omega)]; rfl) f3 g3
      have fn := FN_tr (j'' := j) (FN_tr (FN_0 (m := m1) (x := Int32.ofNat 0) (j := j) (r := r1)) f2) (⟨fun a ha => f3 a (by omega), fun _ _ => rfl⟩ : FN m2 m3 j j r1 r1)
      refine ⟨Int32.ofNat (sF (plw held cls) C P τ σ 2 a 0 1 a), n1, z1, D1, m1, j, r1, m3, j, r1, ?_, ?_, ⟨b1, by omega⟩, ⟨b3, by omega⟩, tp, C, P, τ, _, _, _, _, _, img, σI, lgI, A, held, tx, ln, cls, B, pls, dg, sn, sw, WI_act hw ha (by omega) hcb, CI_m hc1 fn.1 fn.2, hv3⟩
      · unfold f_X11_renew f_X11_renew_0
        refine ck_ok ?_ b1 b3
        simp (disch := omega) only [obs, cN_mk, ite_true, ite_false, if_true, if_false, q0, l0, l1, no1_e, bI_t, bI_f, ieq_f, ile_t, ile_f, ilt_t, ilt_f, l2, cb, e1, cA_mk b1 b3]
        refine ck_ok ?_ (Nat.le_refl _) (Nat.le_refl _)
        simp (disch := omega) only [obs, cN_mk, ite_true, ite_false, if_true, if_false, q0, q27, p29, CS27 hc1.2.1]
      · unfold f_X12_renew f_X12_renew_0
        rw [thr0]
        simp (disch := omega) only [obs, cN_mk, ite_true, ite_false, if_true, if_false, q72, l0, l1, no1_e, bI_t, bI_f, ieq_f, ile_t, ile_f, ilt_t, ilt_f, mb, e2, e3, l2, i_mul, i_add, p85, hM3.1]
theorem K_about (hw : WIv C P τ σ lg acts hs img σI lgI A held tx ln cls B pls dg sn sw) (hc : CIv n D m r tp C P τ σ lg acts lt hs img σI lgI A held cls B pls dg sn sw) (hv : MIv m j tp C P τ σ lg acts hs img σI lgI A held tx ln cls B pls dg sn sw) (hn : n + 200 ≤ 1000000) (x : Int32) : CALL n z D m j r (f_X11_about 0 x) (f_X12_about 72 x) := by
  have hW := hw.1
  have hS := hw.2.1
  have hP := hW.2.1
  have hC := hW.1
  have hY := hc.1.2.1
  have ha : acts ≤ 40 := hc.2.2.2.1.2.2.2.1
  have hB := hw.2.2.2.2.2.2.1
  cases him : im x 0 P with
  | false =>
    refine CALL_q hw hc hv (fun m1 hm1 hv1 => ⟨no1, QC_e ?_, ?_⟩) (by omega)
    · unfold f_X11_about f_X11_about_0 f_X11_canBe f_X11_canBe_0
      refine ck_ok ?_ (Nat.le_refl _) (Nat.le_refl _)
      simp (disch := omega) only [obs, cN_mk, ite_true, ite_false, if_true, if_false, q0, C_hasPerson hY, him, l0, l1, no1_e, bI_t, bI_f, ieq_f, ile_t, ile_f, ilt_t, ilt_f, l2, l3, rZ, true_or]
    · unfold f_X12_about f_X12_about_0
      refine QM_s hm1 fun m2 he h2 => QM_e h2 ?_
      simp (disch := omega) only [obs, cN_mk, ite_true, ite_false, if_true, if_false, q72, M_isPerson h2.2.2.1, him, l0, l1, no1_e, bI_t, bI_f, ieq_f, ile_t, ile_f, ilt_t, ilt_f]
  | true =>
    obtain ⟨a, -, haC, rfl⟩ := im_t (by omega) (by omega) him
    have hcb : cB C P σ 3 a 0 = true := decide_eq_true haC
    have cb := C_canBe (n := n) (z := z) (D := D) (j := j) (r := r) (k := 3) (a := a) (b := 0) hW (WS_le hS (by omega)) hY (Or.inl rfl) hc.2.1 (by omega) (by omega) (by omega)
    rw [hcb] at cb
    obtain ⟨n1, z1, D1, m1, r1, e1, b1, b2, b3, b4, hc1, f1, -⟩ := C_actI (z := z) (j := j) (k := 3) (a := a) (b := 0) hw hc (by omega) hcb (by omega)
    have hD1 := hD_of hc1 (by omega)
    have hLM := LMok_d (n := n1) (z := z1) hD1 hw.2.2.2.2.2.1
    have hv1 := MI_c hv f1.1 (f1.2.1 87 (by omega))
    have hv0 := MI_0 (x := Int32.ofNat 0) hLM hB hv1
    obtain ⟨m2, e2, hv2, f2⟩ := M_remI (n := n1) (z := z1) (r := r1) hw hD1 hv0
    obtain ⟨m3, e3, hM3, f3, g3⟩ := M_turns (n := n1) (z := z1) (D := D1) (j := j) (r := r1) (w := 85) (Or.inl rfl) hW (WS_le hS (by omega)) hv2.2.1 haC
    have hv3 := MI_now hLM hB hv2 hM3 (uS_n (by omega)) f3 g3
    have fn := FN_tr (j'' := j) (FN_tr (FN_0 (m := m1) (x := Int32.ofNat 0) (j := j) (r := r1)) f2) (⟨fun a ha => f3 a (by omega), fun _ _ => rfl⟩ : FN m2 m3 j j r1 r1)
    refine ⟨Int32.ofNat (uS σ 4 a (1 - σ 4 a) 4 a), n1, z1, D1, m1, j, r1, m3, j, r1, ?_, ?_, ⟨b1, by omega⟩, ⟨b3, by omega⟩, tp, C, P, τ, _, _, _, _, _, img, σI, lgI, A, held, tx, ln, cls, B, pls, dg, sn, sw, WI_act hw ha (by omega) hcb, CI_m hc1 fn.1 fn.2, hv3⟩
    · unfold f_X11_about f_X11_about_0
      refine ck_ok ?_ b1 b3
      simp (disch := omega) only [obs, cN_mk, ite_true, ite_false, if_true, if_false, q0, l0, l1, no1_e, bI_t, bI_f, ieq_f, ile_t, ile_f, ilt_t, ilt_f, l3, cb, e1, cA_mk b1 b3]
      refine ck_ok ?_ (Nat.le_refl _) (Nat.le_refl _)
      simp (disch := omega) only [obs, cN_mk, ite_true, ite_false, if_true, if_false, q0, q27, p32, CS27 hc1.2.1, sF3]
    · unfold f_X12_about f_X12_about_0
      rw [thr0]
      simp (disch := omega) only [obs, cN_mk, ite_true, ite_false, if_true, if_false, q72, M_isPerson hv0.1.2.1, him, l0, l1, no1_e, bI_t, bI_f, ieq_f, ile_t, ile_f, ilt_t, ilt_f, e2, e3, l2, M_folk (Or.inl rfl : 85 = 85 ∨ 85 = 86), hM3.2.1]
theorem K_constable (hw : WIv C P τ σ lg acts hs img σI lgI A held tx ln cls B pls dg sn sw) (hc : CIv n D m r tp C P τ σ lg acts lt hs img σI lgI A held cls B pls dg sn sw) (hv : MIv m j tp C P τ σ lg acts hs img σI lgI A held tx ln cls B pls dg sn sw) (hn : n + 200 ≤ 1000000) (x : Int32) : CALL n z D m j r (f_X11_constable 0 x) (f_X12_constable 72 x) := by
  have hW := hw.1
  have hS := hw.2.1
  have hP := hW.2.1
  have hC := hW.1
  have hY := hc.1.2.1
  have s5 := hS.2.2.1
  have ha : acts ≤ 40 := hc.2.2.2.1.2.2.2.1
  have hB := hw.2.2.2.2.2.2.1
  cases him : im x 0 C with
  | false =>
    refine CALL_q hw hc hv (fun m1 hm1 hv1 => ⟨no2, QC_e ?_, ?_⟩) (by omega)
    · unfold f_X11_constable f_X11_constable_0
      refine ck_ok ?_ (Nat.le_refl _) (Nat.le_refl _)
      simp (disch := omega) only [obs, cN_mk, ite_true, ite_false, if_true, if_false, q0, C_hasCorner hY, him, l0, l1, no1_e, bI_t, bI_f, ieq_f, ile_t, ile_f, ilt_t, ilt_f, l2, no2_e]
    · unfold f_X12_constable f_X12_constable_0
      refine QM_s hm1 fun m2 he h2 => QM_e h2 ?_
      simp (disch := omega) only [obs, cN_mk, ite_true, ite_false, if_true, if_false, q72, M_isCorner h2.2.2.1, him, l0, l1, no1_e, bI_t, bI_f, ieq_f, ile_t, ile_f, ilt_t, ilt_f, l2, no2_e]
  | true =>
    obtain ⟨a, -, haC, rfl⟩ := im_t (by omega) (by omega) him
    by_cases h5 : σ 5 0 = a + 1
    · refine CALL_q hw hc hv (fun m1 hm1 hv1 => ⟨no2, QC_e ?_, ?_⟩) (by omega)
      · have q5 : Int32.ofNat a = m 27 5 := by rw [hc.2.1.2.2.1, h5, pr_s]
        unfold f_X11_constable f_X11_constable_0
        refine ck_ok ?_ (Nat.le_refl _) (Nat.le_refl _)
        simp (disch := omega) only [obs, cN_mk, ite_true, ite_false, if_true, if_false, q0, C_hasCorner hY, him, l0, l1, no1_e, bI_t, bI_f, ieq_f, ile_t, ile_f, ilt_t, ilt_f, l2, no2_e, q27, ← q5]
      · unfold f_X12_constable f_X12_constable_0
        refine QM_s hm1 fun m2 he h2 => QM_e h2 ?_
        simp (disch := omega) only [obs, cN_mk, ite_true, ite_false, if_true, if_false, q72, M_isCorner h2.2.2.1, him, l0, l1, no1_e, bI_t, bI_f, ieq_f, ile_t, ile_f, ilt_t, ilt_f, l2, no2_e, l28, p85, h2.2.2.2.1.2.2.1, h5, i_add]
    · obtain ⟨n1, z1, D1, m1, r1, e1, b1, b2, b3, b4, hc1, f1⟩ := C_keepI (z := z) (j := j) hw hc (by omega)
      have q5 : (Int32.ofNat a = m 27 5) = False := by
        rw [hc.2.1.2.2.1]
        exact eq_false (fun e => h5 ((pr_k (by omega) (by omega)).mp e.symm))
      have hM2 : CS (wI m1 27 5 (pr (a + 1))) 27 (uS σ 5 0 (a + 1)) C P := CS_post hc1.2.1 hC hP
      have hc2 := CI_now hc1 hM2 (uS_n (by omega)) (fun a ha => wI_ne (by omega))
      have f2 : FM m1 (wI m1 27 5 (pr (a + 1))) j j r1 r1 := ⟨fun a _ _ => wI_ne (by omega), fun _ _ => rfl, fun _ _ => rfl⟩
      have hD1 := hD_of hc1 (by omega)
      have hLM := LMok_d (n := n1) (z := z1) hD1 hw.2.2.2.2.2.1
      have fm := FM_tr f1 f2
      have hv1 := MI_c hv fm.1 (fm.2.1 87 (by omega))
      have hv0 := MI_0 (x := Int32.ofNat 0) hLM hB hv1
      obtain ⟨m2, e2, hv2, g2⟩ := M_remI (n := n1) (z := z1) (r := r1) hw hD1 hv0
      have hM3 : MS (wI m2 85 28 (Int32.ofNat (a + 1)) 85) (uS σ 5 0 (a + 1)) C P := by rw [wI_eq]; exact MS_post hv2.2.1 hC hP
      have hv3 := MI_now hLM hB hv2 hM3 (uS_n (by omega)) (fun a ha => wI_ne ha) (fun i hi => wI_sn (by omega))
      have fn := FN_tr (j'' := j) (FN_tr (FN_0 (m := wI m1 27 5 (pr (a + 1))) (x := Int32.ofNat 0) (j := j) (r := r1)) g2) (⟨fun a ha => wI_ne (by omega), fun _ _ => rfl⟩ : FN m2 (wI m2 85 28 (Int32.ofNat (a + 1))) j j r1 r1)
      obtain ⟨w1, w2, w3, w4, w5⟩ := hw
      refine ⟨pr (σ 5 0), n1, z1, D1, wI m1 27 5 (pr (a + 1)), j, r1, wI m2 85 28 (Int32.ofNat (a + 1)), j, r1, ?_, ?_, ⟨b1, by omega⟩, ⟨b3, by omega⟩, tp, C, P, τ, _, _, _, _, _, img, σI, lgI, A, held, tx, ln, cls, B, pls, dg, sn, sw, ⟨w1, WS_post w2 (by omega), w3, WH_kp w4 w2 ha ⟨by rw [uS_n (by omega)]; omega, by rw [uS_n (by omega)]; omega⟩, w5⟩, CI_m hc2 fn.1 fn.2, hv3⟩
      · unfold f_X11_constable f_X11_constable_0
        refine ck_ok ?_ b1 b3
        simp (disch := omega) only [obs, cN_mk, ite_true, ite_false, if_true, if_false, q0, C_hasCorner hY, him, l0, l1, no1_e, bI_t, bI_f, ieq_f, ile_t, ile_f, ilt_t, ilt_f, q27, q5, q39, e1, cA_mk b1 b3]
        refine ck_ok ?_ (Nat.le_refl _) (Nat.le_refl _)
        simp (disch := omega) only [obs, cN_mk, ite_true, ite_false, if_true, if_false, q0, q27, CS27 hc1.2.1, pr_s]
      · unfold f_X12_constable f_X12_constable_0
        rw [thr0]
        simp (disch := omega) only [obs, cN_mk, ite_true, ite_false, if_true, if_false, q72, M_isCorner hv0.1.2.1, him, l0, l1, no1_e, bI_t, bI_f, ieq_f, ile_t, ile_f, ilt_t, ilt_f, l28, p85, hv0.2.1.2.2.1, i_add, e2, hv2.2.1.2.2.1, pr_sub]
theorem K_give (hw : WIv C P τ σ lg acts hs img σI lgI A held tx ln cls B pls dg sn sw) (hc : CIv n D m r tp C P τ σ lg acts lt hs img σI lgI A held cls B pls dg sn sw) (hv : MIv m j tp C P τ σ lg acts hs img σI lgI A held tx ln cls B pls dg sn sw) (hn : n + 200 ≤ 1000000) (x : Int32) : CALL n z D m j r (f_X11_give 0 x) (f_X12_give 72 x) := by
  have hW := hw.1
  have hS := hw.2.1
  have hP := hW.2.1
  have hC := hW.1
  have hY := hc.1.2.1
  have s6 := hS.2.2.2.1
  have ha : acts ≤ 40 := hc.2.2.2.1.2.2.2.1
  have hB := hw.2.2.2.2.2.2.1
  by_cases hP0 : P = 0
  · refine CALL_q hw hc hv (fun m1 hm1 hv1 => ⟨no1, QC_e ?_, ?_⟩) (by omega)
    · unfold f_X11_give f_X11_give_0
      refine ck_ok ?_ (Nat.le_refl _) (Nat.le_refl _)
      simp (disch := omega) only [obs, cN_mk, ite_true, ite_false, if_true, if_false, q0, C_hasCity hY hP, hP0, Nat.lt_irrefl, decide_false, l0, l1, no1_e, bI_t, bI_f, ieq_f, ile_t, ile_f, ilt_t, ilt_f]
    · unfold f_X12_give f_X12_give_0
      refine QM_s hm1 fun m2 he h2 => QM_e h2 ?_
      simp (disch := omega) only [obs, cN_mk, ite_true, ite_false, if_true, if_false, q72, h2.2.2.1.2.1, hP0, l0, l1, no1_e, bI_t, bI_f, ieq_f, ile_t, ile_f, ilt_t, ilt_f]
  have hd : decide (0 < P) = true := decide_eq_true (by omega)
  cases him : im x 1 51 with
  | false =>
    refine CALL_q hw hc hv (fun m1 hm1 hv1 => ⟨no1, QC_e ?_, ?_⟩) (by omega)
    · unfold f_X11_give f_X11_give_0
      refine ck_ok ?_ (Nat.le_refl _) (Nat.le_refl _)
      simp (disch := omega) only [obs, cN_mk, ite_true, ite_false, if_true, if_false, q0, C_hasCity hY hP, hd, l0, l1, no1_e, bI_t, bI_f, ieq_f, ile_t, ile_f, ilt_t, ilt_f, l50, rng1, Nat.reduceAdd, him, Bool.false_eq_true]
    · unfold f_X12_give f_X12_give_0
      refine QM_s hm1 fun m2 he h2 => QM_e h2 ?_
      simp (disch := omega) only [obs, cN_mk, ite_true, ite_false, if_true, if_false, q72, h2.2.2.1.2.1, i64_1, i64_50, M_inK, Nat.reduceAdd, him, l0, l1, no1_e, bI_t, bI_f, ieq_f, ile_t, ile_f, ilt_t, ilt_f]
  | true =>
    obtain ⟨v, hv1', hvv, rfl⟩ := im_t (by omega) (by omega) him
    by_cases h9 : σ 6 0 + v ≤ 999
    · obtain ⟨n1, z1, D1, m1, r1, e1, b1, b2, b3, b4, hc1, f1⟩ := C_keepI (z := z) (j := j) hw hc (by omega)
      have hM2 : CS (wI m1 27 6 (Int32.ofNat (σ 6 0 + v))) 27 (uS σ 6 0 (σ 6 0 + v)) C P := CS_coins hc1.2.1 hC hP
      have hc2 := CI_now hc1 hM2 (uS_n (by omega)) (fun a ha => wI_ne (by omega))
      have f2 : FM m1 (wI m1 27 6 (Int32.ofNat (σ 6 0 + v))) j j r1 r1 := ⟨fun a _ _ => wI_ne (by omega), fun _ _ => rfl, fun _ _ => rfl⟩
      have hD1 := hD_of hc1 (by omega)
      have hLM := LMok_d (n := n1) (z := z1) hD1 hw.2.2.2.2.2.1
      have fm := FM_tr f1 f2
      have hv1 := MI_c hv fm.1 (fm.2.1 87 (by omega))
      have hv0 := MI_0 (x := Int32.ofNat 0) hLM hB hv1
      obtain ⟨m2, e2, hv2, g2⟩ := M_remI (n := n1) (z := z1) (r := r1) hw hD1 hv0
      have hM3 : MS (wI m2 85 29 (Int32.ofNat (σ 6 0 + v)) 85) (uS σ 6 0 (σ 6 0 + v)) C P := by rw [wI_eq]; exact MS_coins hv2.2.1 hC hP
      have hv3 := MI_now hLM hB hv2 hM3 (uS_n (by omega)) (fun a ha => wI_ne ha) (fun i hi => wI_sn (by omega))
      have fn := FN_tr (j'' := j) (FN_tr (FN_0 (m := wI m1 27 6 (Int32.ofNat (σ 6 0 + v))) (x := Int32.ofNat 0) (j := j) (r := r1)) g2) (⟨fun a ha => wI_ne (by omega), fun _ _ => rfl⟩ : FN m2 (wI m2 85 29 (Int32.ofNat (σ 6 0 + v))) j j r1 r1)
      have y27 : (wI (wI m1 27 6 (Int32.ofNat (σ 6 0 + v))) 72 0 (Int32.ofNat 0)) 72 27 = Int32.ofNat P := hv0.1.2.1.2.1
      have y29 : (wI (wI m1 27 6 (Int32.ofNat (σ 6 0 + v))) 72 0 (Int32.ofNat 0)) 85 29 = Int32.ofNat (σ 6 0) := hv0.2.1.2.2.2.1
      have y29' : m2 85 29 = Int32.ofNat (σ 6 0) := hv2.2.1.2.2.2.1
      obtain ⟨w1, w2, w3, w4, w5⟩ := hw
      refine ⟨Int32.ofNat (σ 6 0 + v), n1, z1, D1, wI m1 27 6 (Int32.ofNat (σ 6 0 + v)), j, r1, wI m2 85 29 (Int32.ofNat (σ 6 0 + v)), j, r1, ?_, ?_, ⟨b1, by omega⟩, ⟨b3, by omega⟩, tp, C, P, τ, _, _, _, _, _, img, σI, lgI, A, held, tx, ln, cls, B, pls, dg, sn, sw, ⟨w1, WS_coins w2 (by omega), w3, WH_kp w4 w2 ha ⟨by rw [uS_n (by omega)]; omega, by rw [uS_n (by omega)]; omega⟩, w5⟩, CI_m hc2 fn.1 fn.2, hv3⟩
      · unfold f_X11_give f_X11_give_0
        refine ck_ok ?_ b1 b3
        simp (disch := omega) only [obs, cN_mk, ite_true, ite_false, if_true, if_false, q0, C_hasCity hY hP, hd, l0, l1, no1_e, bI_t, bI_f, ieq_f, ile_t, ile_f, ilt_t, ilt_f, l50, l999, q27, CS27 hc.2.1, i_add, q39, e1, cA_mk b1 b3]
        refine ck_ok ?_ (Nat.le_refl _) (Nat.le_refl _)
        simp (disch := omega) only [obs, cN_mk, ite_true, ite_false, if_true, if_false, q0, q27, CS27 hc1.2.1, i_add, wI_se]
      · unfold f_X12_give f_X12_give_0
        rw [thr0]
        simp (disch := omega) only [obs, cN_mk, ite_true, ite_false, if_true, if_false, q72, y27, i64_1, i64_50, M_inK, Nat.reduceAdd, him, l0, l1, no1_e, bI_t, bI_f, ieq_f, ile_t, ile_f, ilt_t, ilt_f, l29, p85, y29, i_add, l999, e2, y29', wI_se]
    · refine CALL_q hw hc hv (fun m1 hm1 hv1 => ⟨no1, QC_e ?_, ?_⟩) (by omega)
      · unfold f_X11_give f_X11_give_0
        refine ck_ok ?_ (Nat.le_refl _) (Nat.le_refl _)
        simp (disch := omega) only [obs, cN_mk, ite_true, ite_false, if_true, if_false, q0, C_hasCity hY hP, hd, l0, l1, no1_e, bI_t, bI_f, ieq_f, ile_t, ile_f, ilt_t, ilt_f, l50, l999, q27, CS27 hc.2.1, i_add]
      · unfold f_X12_give f_X12_give_0
        refine QM_s hm1 fun m2 he h2 => QM_e h2 ?_
        simp (disch := omega) only [obs, cN_mk, ite_true, ite_false, if_true, if_false, q72, h2.2.2.1.2.1, i64_1, i64_50, M_inK, Nat.reduceAdd, him, l0, l1, no1_e, bI_t, bI_f, ieq_f, ile_t, ile_f, ilt_t, ilt_f, l29, p85, h2.2.2.2.1.2.2.2.1, i_add, l999]
end CALLS
