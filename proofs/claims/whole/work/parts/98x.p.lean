/-! Years; odds. -/
section YRS
variable {n z : Nat} {D D' : Dyn} {m m' m1 : MI} {j j' j1 : MJ} {r r' r1 : MR} {tp tp' : TP} {C P : Nat} {τ σ σ' σ0 : Sg} {lg lg' : LG} {acts lt : Nat} {hs : Nat → Sg} {img : Bool} {σI : Sg} {lgI : LG} {A held held' : Nat} {tx : Nat → Nat → Nat} {ln : Nat → Nat} {cls : CLS} {B : Nat} {pls : Nat → List ST} {dg dg' sn sn' : Nat} {sw sw' : Nat → Nat → Nat} {x y : Int32} {k a b cnt : Nat} {pl : Pl} {LC : MI → MR → Prop} {LM : MI → MJ → Prop}
def yN (pl : Pl) (C P dg : Nat) (τ : Sg) (s : YS) : Nat → YS
  | 0 => s
  | i + 1 => yA pl C P dg τ (yN pl C P dg τ s i)
theorem K_years (hw : WIv C P τ σ lg acts hs img σI lgI A held tx ln cls B pls dg sn sw) (hc : CIv n D m r tp C P τ σ lg acts lt hs img σI lgI A held cls B pls dg sn sw) (hv : MIv m j tp C P τ σ lg acts hs img σI lgI A held tx ln cls B pls dg sn sw) (hn : n + 200 ≤ 1000000) (x : Int32) (v : Int64) : CALL n z D m j r (f_X11_years 0 x v) (f_X12_years 72 x v) := by
  have hW := hw.1
  have hS := hw.2.1
  have hP := hW.2.1
  have hY := hc.1.2.1
  have s7 := hS.2.2.2.2
  have hB := hw.2.2.2.2.2.2.1
  by_cases hP0 : P = 0
  · refine CALL_q hw hc hv (fun m1 hm1 hv1 => ⟨no1, QC_e ?_, ?_⟩) (by omega)
    · unfold f_X11_years f_X11_years_0
      refine ck_ok ?_ (Nat.le_refl _) (Nat.le_refl _)
      simp (disch := omega) only [obs, cN_mk, ite_true, ite_false, if_true, if_false, q0, C_hasCity hY hP, hP0, Nat.lt_irrefl, decide_false, l0, l1, no1_e, bI_t, bI_f, ieq_f, ile_t, ile_f, ilt_t, ilt_f]
    · unfold f_X12_years f_X12_years_0
      refine QM_s hm1 fun m2 he h2 => QM_e h2 ?_
      simp (disch := omega) only [obs, cN_mk, ite_true, ite_false, if_true, if_false, q72, h2.2.2.1.2.1, hP0, l0, l1, no1_e, bI_t, bI_f, ieq_f, ile_t, ile_f, ilt_t, ilt_f]
  have hd : decide (0 < P) = true := decide_eq_true (by omega)
  cases him : im x 1 31 with
  | false =>
    refine CALL_q hw hc hv (fun m1 hm1 hv1 => ⟨no1, QC_e ?_, ?_⟩) (by omega)
    · unfold f_X11_years f_X11_years_0
      refine ck_ok ?_ (Nat.le_refl _) (Nat.le_refl _)
      simp (disch := omega) only [obs, cN_mk, ite_true, ite_false, if_true, if_false, q0, C_hasCity hY hP, hd, l0, l1, no1_e, bI_t, bI_f, ieq_f, ile_t, ile_f, ilt_t, ilt_f, l30, rng1, Nat.reduceAdd, him, Bool.false_eq_true]
    · unfold f_X12_years f_X12_years_0
      refine QM_s hm1 fun m2 he h2 => QM_e h2 ?_
      simp (disch := omega) only [obs, cN_mk, ite_true, ite_false, if_true, if_false, q72, h2.2.2.1.2.1, i64_1, i64_30, M_inK, Nat.reduceAdd, him, l0, l1, no1_e, bI_t, bI_f, ieq_f, ile_t, ile_f, ilt_t, ilt_f]
  | true =>
    obtain ⟨N, hN1, hN2, rfl⟩ := im_t (by omega) (by omega) him
    by_cases h9 : σ 7 0 + N ≤ 999
    · generalize hF : yN (plw held cls) C P dg τ ((σ, lg, acts, hs, lt), v) = F
      have hF0 : F 0 = ((σ, lg, acts, hs, lt), v) := by rw [← hF]; rfl
      have hFs : ∀ i, F (i + 1) = yA (plw held cls) C P dg τ (F i) := fun i => by rw [← hF]; rfl
      obtain ⟨n1, z1, D1, m1, j1, r1, e1, d1, d2, d3, d4, hw1, hc1, f1⟩ := C_years (N := N) (by omega) (by omega) hFs N 0 fu n z D m (wJ j 0 18 v) r (by omega) (by unfold fu; omega) (by omega) (by rw [hF0]; exact h9) (by rw [hF0]; exact wJ_se) (by rw [hF0]; exact hw) (by rw [hF0]; exact hc)
      have hD1 := hD_of hc1 (by omega)
      have hLM := LMok_d (n := n1) (z := z1) hD1 hw.2.2.2.2.2.1
      have j87 : j1 87 = j 87 := by rw [f1.2.1 87 (by omega), wJ_ne (by omega)]
      have hv1 := MI_c hv f1.1 j87
      have hv0 := MI_0 (x := Int32.ofNat 0) hLM hB hv1
      have hv0' := MI_c (m' := wI m1 72 0 (Int32.ofNat 0)) (j' := wJ j1 72 44 v) hv0 (fun _ _ _ => rfl) (wJ_ne (by omega))
      obtain ⟨m2, j2, r2, e2, hv2, f2⟩ := M_years (N := N) (n := n1) (z := z1) hD1 (by omega) (by omega) hFs N 0 fu (wI m1 72 0 (Int32.ofNat 0)) (wJ j1 72 44 v) r1 (by omega) (by unfold fu; omega) (by rw [hF0]; exact h9) (by rw [hF0]; exact wJ_se) (by rw [hF0]; exact hw) (by rw [hF0]; exact hv0')
      have fn := FN_tr (j := j1) (j'' := j1) (FN_0 (m := m1) (x := Int32.ofNat 0) (j := j1) (r := r1)) f2
      have y27 : (wI m1 72 0 (Int32.ofNat 0)) 72 27 = Int32.ofNat P := hv0.1.2.1.2.1
      have y30 : (wI m1 72 0 (Int32.ofNat 0)) 85 30 = Int32.ofNat (σ 7 0) := hv0.2.1.2.2.2.2
      refine ⟨Int32.ofNat ((F N).1.1 7 0), n1, z1, D1, m1, j1, r1, m2, j2, r2, ?_, ?_, ⟨d1, by omega⟩, ⟨d3, by omega⟩, tp, C, P, τ, _, _, _, _, _, img, σI, lgI, A, held, tx, ln, cls, B, pls, dg, sn, sw, hw1, CI_m hc1 fn.1 fn.2, hv2⟩
      · unfold f_X11_years f_X11_years_0
        refine ck_ok ?_ d1 d3
        simp (disch := omega) only [obs, cN_mk, ite_true, ite_false, if_true, if_false, q0, C_hasCity hY hP, hd, l0, l1, no1_e, bI_t, bI_f, ieq_f, ile_t, ile_f, ilt_t, ilt_f, l30, l999, q27, CS27 hc.2.1, i_add]
        exact e1
      · unfold f_X12_years f_X12_years_0
        rw [thr0]
        simp (disch := omega) only [obs, cN_mk, ite_true, ite_false, if_true, if_false, q72, y27, i64_1, i64_30, M_inK, Nat.reduceAdd, him, l0, l1, no1_e, bI_t, bI_f, ieq_f, ile_t, ile_f, ilt_t, ilt_f, l30, p85, y30, i_add, l999]
        exact e2
    · refine CALL_q hw hc hv (fun m1 hm1 hv1 => ⟨no1, QC_e ?_, ?_⟩) (by omega)
      · unfold f_X11_years f_X11_years_0
        refine ck_ok ?_ (Nat.le_refl _) (Nat.le_refl _)
        simp (disch := omega) only [obs, cN_mk, ite_true, ite_false, if_true, if_false, q0, C_hasCity hY hP, hd, l0, l1, no1_e, bI_t, bI_f, ieq_f, ile_t, ile_f, ilt_t, ilt_f, l30, l999, q27, CS27 hc.2.1, i_add]
      · unfold f_X12_years f_X12_years_0
        refine QM_s hm1 fun m2 he h2 => QM_e h2 ?_
        simp (disch := omega) only [obs, cN_mk, ite_true, ite_false, if_true, if_false, q72, h2.2.2.1.2.1, i64_1, i64_30, M_inK, Nat.reduceAdd, him, l0, l1, no1_e, bI_t, bI_f, ieq_f, ile_t, ile_f, ilt_t, ilt_f, l30, p85, h2.2.2.2.1.2.2.2.2, i_add, l999]
end YRS
