/-! The law: a sighting, a person, the loop. -/
section LOOP
variable {n z : Nat} {D : Dyn} {m m1 m' : MI} {j : MJ} {r r' : MR} {tp : TP} {C P : Nat} {τ σ : Sg} {lg : LG} {acts lt : Nat} {hs : Nat → Sg} {img : Bool} {σI : Sg} {lgI : LG} {A held : Nat} {tx : Nat → Nat → Nat} {ln : Nat → Nat} {cls : CLS} {B : Nat} {pls : Nat → List ST} {dg sn : Nat} {sw : Nat → Nat → Nat} {xs : Nat → Int32} {L i bN bZ : Nat} {k23 : Nat → Nat → Nat → Int32 → AH → Option (Int32 × AH)}
theorem cc {α β : Type} {v : α} {D1 D2 : Dyn} {m1 m2 : MI} {j1 j2 : MJ} {r1 r2 : MR} {k : α → AH → Option β} : cN (some (v, mkH n z D1 m1 j1 r1)) (mkH n z D2 m2 j2 r2) k = k v (mkH n z D1 m1 j1 r1) := by
  unfold cN
  exact if_pos ⟨rfl, rfl⟩
theorem G1031 (hw : WIv C P τ σ lg acts hs img σI lgI A held tx ln cls B pls dg sn sw) (hc : CIv n D m r tp C P τ σ lg acts lt hs img σI lgI A held cls B pls dg sn sw) (hv : MIv m j tp C P τ σ lg acts hs img σI lgI A held tx ln cls B pls dg sn sw) (hn : n + 200 ≤ 1000000) (hi : i + 6 ≤ L) (hL : L ≤ 3072) (hk : CONT n z bN bZ (k23 0 72 94 (Int32.ofNat i + 6))) : RES n z bN bZ (f_L_law_1031 xs L k23 0 72 94 (Int32.ofNat i) (mkH n z D m j r)) := by
  have s1 : sx xs L (Int32.ofNat i + 1) = some (xs (i + 1)) := sxk (k := 1) hi hL (by omega)
  have s2 : sx xs L (Int32.ofNat i + 2) = some (xs (i + 2)) := sxk (k := 2) hi hL (by omega)
  have s3 : sx xs L (Int32.ofNat i + 3) = some (xs (i + 3)) := sxk (k := 3) hi hL (by omega)
  have s4 : sx xs L (Int32.ofNat i + 4) = some (xs (i + 4)) := sxk (k := 4) hi hL (by omega)
  unfold f_L_law_1031
  refine ck_res ?_
  simp only [s1, s2, s3, s4, obs]
  by_cases h4 : xs (i + 4) = 0
  · rw [if_pos h4]
    have hK : CALX 0 0 n z D m j r (f_X11_seen 0 (xs (i + 1)) (xs (i + 2)) (xs (i + 3)) 0) (f_X12_seen 72 (xs (i + 1)) (xs (i + 2)) (xs (i + 3)) 0) := K_seen hw hc hv (by omega) _ _ _ 0 (by omega)
    obtain ⟨v, n', z', D', m', j', r', m'', j'', r'', e1, e2, ⟨a1, a2⟩, ⟨b1, b2⟩, hI⟩ := hK
    have en : n' = n := by omega
    have ez : z' = z := by omega
    subst en ez
    unfold f_L_law_1064
    refine ck_res ?_
    simp only [s1, s2, s3, s4, obs]
    rw [q0.1, obs, e1, cc, if_pos h4]
    unfold f_L_law_1100
    refine ck_res ?_
    rw [q72.1, obs, e2, cc, if_pos rfl]
    exact L1641 hk hI (by omega) (by omega) (by omega) (by omega)
  · rw [if_neg h4]
    have hK : CALX 0 0 n z D m j r (f_X11_seen 0 (xs (i + 1)) (xs (i + 2)) (xs (i + 3)) 1) (f_X12_seen 72 (xs (i + 1)) (xs (i + 2)) (xs (i + 3)) 1) := K_seen hw hc hv (by omega) _ _ _ 1 (by omega)
    obtain ⟨v, n', z', D', m', j', r', m'', j'', r'', e1, e2, ⟨a1, a2⟩, ⟨b1, b2⟩, hI⟩ := hK
    have en : n' = n := by omega
    have ez : z' = z := by omega
    subst en ez
    unfold f_L_law_1064
    refine ck_res ?_
    simp only [s1, s2, s3, s4, obs]
    rw [q0.1, obs, e1, cc, if_neg h4]
    unfold f_L_law_1100
    refine ck_res ?_
    rw [q72.1, obs, e2, cc, if_pos rfl]
    exact L1641 hk hI (by omega) (by omega) (by omega) (by omega)
theorem CI_up (hc : CIv n D m r tp C P τ σ lg acts lt hs img σI lgI A held cls B pls dg sn sw) : CIv (n + 1) D m r tp C P τ σ lg acts lt hs img σI lgI A held cls B pls dg sn sw := by
  obtain ⟨h1, h2, h3, h4, d1, d2, d3, d4, d5, d6, d7⟩ := hc
  exact ⟨h1, h2, h3, h4, by omega, fun a ha => d2 a (by omega), fun i hi s hs => ⟨(d3 i hi s hs).1, (d3 i hi s hs).2.1, by have := d3 i hi s hs; omega⟩, d4, fun l hl o ho => ⟨by have := d5 l hl o ho; omega, (d5 l hl o ho).2⟩, fun l hl o ho => ⟨by have := d6 l hl o ho; omega, (d6 l hl o ho).2⟩, fun s hs h95 => by have := d7 s hs h95; omega⟩
theorem lg_s {v : Int64} : lg_cmp v v = 0 := by simp [lg_cmp]
theorem im7 {y : Int32} (h : im y 0 7 = false) (h0 : ¬ y < 0) : ¬ y ≤ 6 := by
  intro h6
  unfold im at h
  refine of_decide_eq_false h ⟨?_, ?_⟩
  · exact Int32.not_lt.mp h0
  · rw [← le_lt1 (b := 6) (by omega)]
    exact h6
theorem C_persV (hw : WIv C P τ σ lg acts hs img σI lgI A held tx ln cls B pls dg sn sw) (hc : CIv n D m r tp C P τ σ lg acts lt hs img σI lgI A held cls B pls dg sn sw) (hv : MIv m j tp C P τ σ lg acts hs img σI lgI A held tx ln cls B pls dg sn sw) {p k : Nat} (hp : p < P) (hk7 : k < 7) : ∃ V, ∀ j, f_X11_person 0 (Int32.ofNat p) (Int32.ofNat k) (mkH n z D m j r) = some (Int32.ofNat V, (mkH n z D m j r)) ∧ f_X12_person_26 72 (Int32.ofNat p) (Int32.ofNat k) 72 0 (mkH n z D m j r) = some (Int32.ofNat V, mkH n z D (wI m 72 0 0) j r) := by
  have hP6 := hw.1.2.1
  have hP : ∀ j, f_X11_hasPerson 0 (Int32.ofNat p) (mkH n z D m j r) = some (bI true, (mkH n z D m j r)) := fun j => by rw [C_hasPerson hc.1.2.1, im_k (by omega)]
  have cs := CS27 hc.2.1
  have y5 := hc.1.2.1.2.2.2.2 p hp
  have ym := YMp hv.1.2.1
  have ms := hv.2.1.2.1 p hp
  have z0 : (Int32.ofNat 0 ≤ Int32.ofNat 0) = True := ile_t (by omega)
  rcases (show k = 0 ∨ k = 1 ∨ k = 2 ∨ k = 3 ∨ k = 4 ∨ k = 5 ∨ k = 6 by omega) with rfl | rfl | rfl | rfl | rfl | rfl | rfl
  · have u1 := y5.1
    have u2 := ym.1 p hp
    refine ⟨τ 0 p, fun j => ⟨?_, ?_⟩⟩
    · unfold f_X11_person f_X11_person_0
      simp (disch := omega) only [obs, cN_mk, ite_true, ite_false, if_true, if_false, q0, hP, bI_t, l0, l1, l2, l3, l4, l5, l6, eq_self, ieq_f, ilt_f, ile_t, q18, q27, p21, u1]
    · unfold f_X12_person_26
      simp (disch := omega) only [obs, cN_mk, ite_true, ite_false, if_true, if_false, q72, wI_se, l0, l1, l2, l3, l4, l5, l6, eq_self, ieq_f, ile_t, M_of, wI_ne, u2]
  · have u1 := y5.2.1
    have u2 := ym.2.1 p hp
    refine ⟨τ 1 p, fun j => ⟨?_, ?_⟩⟩
    · unfold f_X11_person f_X11_person_0
      simp (disch := omega) only [obs, cN_mk, ite_true, ite_false, if_true, if_false, q0, hP, bI_t, l0, l1, l2, l3, l4, l5, l6, eq_self, ieq_f, ilt_f, ile_t, q18, q27, p22, u1]
    · unfold f_X12_person_26
      simp (disch := omega) only [obs, cN_mk, ite_true, ite_false, if_true, if_false, q72, wI_se, l0, l1, l2, l3, l4, l5, l6, eq_self, ieq_f, ile_t, M_of, wI_ne, u2]
  · have u1 := cs.2.2.1 p hp
    have u2 := ms.1
    refine ⟨σ 2 p, fun j => ⟨?_, ?_⟩⟩
    · unfold f_X11_person f_X11_person_0
      simp (disch := omega) only [obs, cN_mk, ite_true, ite_false, if_true, if_false, q0, hP, bI_t, l0, l1, l2, l3, l4, l5, l6, eq_self, ieq_f, ilt_f, ile_t, q18, q27, p30, u1]
    · unfold f_X12_person_26
      simp (disch := omega) only [obs, cN_mk, ite_true, ite_false, if_true, if_false, q72, wI_se, l0, l1, l2, l3, l4, l5, l6, eq_self, ieq_f, ile_t, M_folk (Or.inl rfl), wI_ne, Nat.add_zero, u2]
  · have u1 := y5.2.2.2.1
    have u2 := ym.2.2.2.1 p hp
    refine ⟨τ 3 p, fun j => ⟨?_, ?_⟩⟩
    · unfold f_X11_person f_X11_person_0
      simp (disch := omega) only [obs, cN_mk, ite_true, ite_false, if_true, if_false, q0, hP, bI_t, l0, l1, l2, l3, l4, l5, l6, eq_self, ieq_f, ilt_f, ile_t, q18, q27, p24, u1]
    · unfold f_X12_person_26
      simp (disch := omega) only [obs, cN_mk, ite_true, ite_false, if_true, if_false, q72, wI_se, l0, l1, l2, l3, l4, l5, l6, eq_self, ieq_f, ile_t, M_of, wI_ne, u2]
  · have u1 := y5.2.2.2.2
    have u2 := ym.2.2.2.2 p hp
    refine ⟨τ 4 p, fun j => ⟨?_, ?_⟩⟩
    · unfold f_X11_person f_X11_person_0
      simp (disch := omega) only [obs, cN_mk, ite_true, ite_false, if_true, if_false, q0, hP, bI_t, l0, l1, l2, l3, l4, l5, l6, eq_self, ieq_f, ilt_f, ile_t, q18, q27, p25, u1]
    · unfold f_X12_person_26
      simp (disch := omega) only [obs, cN_mk, ite_true, ite_false, if_true, if_false, q72, wI_se, l0, l1, l2, l3, l4, l5, l6, eq_self, ieq_f, ile_t, M_of, wI_ne, u2]
  · have u1 := cs.2.2.2.2.1 p hp
    have u2 := ms.2.2
    refine ⟨σ 4 p, fun j => ⟨?_, ?_⟩⟩
    · unfold f_X11_person f_X11_person_0
      simp (disch := omega) only [obs, cN_mk, ite_true, ite_false, if_true, if_false, q0, hP, bI_t, l0, l1, l2, l3, l4, l5, l6, eq_self, ieq_f, ilt_f, ile_t, q18, q27, p32, u1]
    · unfold f_X12_person_26
      simp (disch := omega) only [obs, cN_mk, ite_true, ite_false, if_true, if_false, q72, wI_se, l0, l1, l2, l3, l4, l5, l6, eq_self, ieq_f, ile_t, M_folk (Or.inl rfl), wI_ne, Nat.add_zero, u2]
  · have u1 := cs.2.2.2.1 p hp
    have u2 := ms.2.1
    refine ⟨σ 3 p, fun j => ⟨?_, ?_⟩⟩
    · unfold f_X11_person f_X11_person_0
      simp (disch := omega) only [obs, cN_mk, ite_true, ite_false, if_true, if_false, q0, hP, bI_t, l0, l1, l2, l3, l4, l5, l6, eq_self, ieq_f, ilt_f, ile_t, q18, q27, p31, u1]
    · unfold f_X12_person_26
      simp (disch := omega) only [obs, cN_mk, ite_true, ite_false, if_true, if_false, q72, wI_se, l0, l1, l2, l3, l4, l5, l6, eq_self, ieq_f, ile_t, M_folk (Or.inl rfl), wI_ne, Nat.add_zero, u2]
theorem G434 (hw : WIv C P τ σ lg acts hs img σI lgI A held tx ln cls B pls dg sn sw) (hc : CIv n D m r tp C P τ σ lg acts lt hs img σI lgI A held cls B pls dg sn sw) (hv : MIv m j tp C P τ σ lg acts hs img σI lgI A held tx ln cls B pls dg sn sw) (hn : n + 200 ≤ 1000000) (hi : i + 6 ≤ L) (hL : L ≤ 3072) (hk : CONT n z bN bZ (k23 0 72 94 (Int32.ofNat i + 6))) : RES n z bN bZ (f_L_law_434 xs L k23 0 72 94 (Int32.ofNat i) (mkH n z D m j r)) := by
  have s1 : sx xs L (Int32.ofNat i + 1) = some (xs (i + 1)) := sxk (k := 1) hi hL (by omega)
  have s2 : sx xs L (Int32.ofNat i + 2) = some (xs (i + 2)) := sxk (k := 2) hi hL (by omega)
  have s3 : sx xs L (Int32.ofNat i + 3) = some (xs (i + 3)) := sxk (k := 3) hi hL (by omega)
  have s4 : sx xs L (Int32.ofNat i + 4) = some (xs (i + 4)) := sxk (k := 4) hi hL (by omega)
  unfold f_L_law_434
  refine ck_res ?_
  simp only [s1, s2, obs]
  generalize xs (i + 1) = x
  generalize xs (i + 2) = y
  have hD := hD_of hc (by omega)
  have hP := C_hasPerson (n := n) (z := z) (D := D) (j := j) (r := r) (x := x) hc.1.2.1
  have hM : ∀ n z, f_X12_isPerson 72 x (mkH n z D m j r) = some (bI (im x 0 P), mkH n z D m j r) := fun n z => M_isPerson hv.1.2.1
  cases hb : (im x 0 P && im y 0 7) with
  | false =>
    have eT : f_X11_personT 0 x y (mkH n z D m j r) = some ((), (mkH n z D m j r)) := by
      unfold f_X11_personT
      rw [q0.1, obs, hP, cN_mk]
      cases h1 : im x 0 P with
      | false => rw [if_pos (by decide)]
      | true =>
        rw [h1, Bool.true_and] at hb
        rw [if_neg (by decide)]
        by_cases h0 : y < 0
        · rw [if_pos h0]
        · rw [if_neg h0, if_neg (im7 hb h0)]
    have eL : f_L_person 0 x y 94 (mkH n z D m j r) = some (1, mkH (n + 1) (z + 6) D m j r) := by
      unfold f_L_person
      rw [eT]
      rfl
    have e25 : f_X12_person_25 72 x y 72 (mkH (n + 1) (z + 6) D m j r) = some (0, mkH (n + 1) (z + 6) D (wI m 72 0 1) j r) := by
      unfold f_X12_person_25 f_X12_person_26
      simp only [q72, obs, wI_se]
      rw [if_neg (by decide)]
    have eM : f_X12_person 72 x y (mkH (n + 1) (z + 6) D m j r) = some (0, mkH (n + 1) (z + 6) D (wI m 72 0 1) j r) := by
      unfold f_X12_person f_X12_person_0
      rw [q72.1, obs, hM, cN_mk]
      cases h1 : im x 0 P with
      | false => rw [if_pos (by decide), e25]
      | true =>
        rw [h1, Bool.true_and] at hb
        rw [if_neg (by decide), i64_0, i64_6, M_inK (by omega), hb, cN_mk, if_pos (by decide), e25]
    have eH : f_X12_thrown 72 (mkH (n + 1) (z + 6) D (wI m 72 0 1) j r) = some (1, mkH (n + 1) (z + 6) D (wI m 72 0 1) j r) := by
      unfold f_X12_thrown f_X12_thrown_0
      rw [gI_mk (i := 0) rfl (by decide) rfl, obs, wI_se]
    rw [eL, cA_mk (by omega) (by omega)]
    refine RES_le (n' := n + 1) (z' := z + 6) (ck_res ?_) (by omega) (by omega)
    rw [q72.1, obs, eM, cN_mk, q72.1, obs, eH, cN_mk, if_pos rfl, if_neg (by decide)]
    unfold f_L_law_499
    refine ck_res (L1641 hk ⟨tp, C, P, τ, σ, lg, acts, lt, hs, img, σI, lgI, A, held, tx, ln, cls, B, pls, dg, sn, sw, hw, CI_m (CI_up hc) (fun a ha => wI_ne (by omega)) (fun _ _ => rfl), MI_0 (n := n) (z := z) (LMok_d hD hw.2.2.2.2.2.1) hw.2.2.2.2.2.2.1 hv⟩ (by omega) (by omega) (by omega) (by omega))
  | true =>
    have hb := Bool.and_eq_true_iff.mp hb
    have hP6 := hw.1.2.1
    obtain ⟨p, -, hp, rfl⟩ := im_t (by omega) (by omega) hb.1
    obtain ⟨k, -, hk7, rfl⟩ := im_t (by omega) (by omega) hb.2
    obtain ⟨V, eV⟩ := C_persV (n := n) (z := z) (D := D) (j := j) (r := r) hw hc hv hp hk7
    have eC := (eV j).1
    have eT : f_X11_personT 0 (Int32.ofNat p) (Int32.ofNat k) (mkH n z D m j r) = none := by
      unfold f_X11_personT
      rw [q0.1, obs, hP, cN_mk, hb.1, if_neg (by decide), if_neg (show ¬ Int32.ofNat k < 0 from i_nn (by omega)), if_pos (show Int32.ofNat k ≤ 6 from (i_le (b := 6) (by omega) (by omega)).mpr (by omega))]
    have eL : f_L_person 0 (Int32.ofNat p) (Int32.ofNat k) 94 (mkH n z D m j r) = some (0, mkH n z D m (wJ j 94 0 (Int32.ofNat V).toInt64) r) := by
      unfold f_L_person
      rw [eT]
      show (isC [11] (mkH n z D m j r) 0).bind _ = _
      rw [q0.1, obs, eC, cN_mk, show (0 : Int32) = Int32.ofNat 0 from rfl, p94.2 0 _ (by omega), obs]
    generalize hj : wJ j 94 0 (Int32.ofNat V).toInt64 = j1 at eL
    have j87 : j1 87 = j 87 := by rw [← hj]; exact if_neg (by omega)
    have j94 : j1 94 0 = (Int32.ofNat V).toInt64 := by rw [← hj]; simp [wJ, vp_updL]
    have hv1 : MIv m j1 tp C P τ σ lg acts hs img σI lgI A held tx ln cls B pls dg sn sw := MI_c hv (fun _ _ _ => rfl) j87
    have e26' := (eV j1).2
    have eM : f_X12_person 72 (Int32.ofNat p) (Int32.ofNat k) (mkH n z D m j1 r) = some (Int32.ofNat V, mkH n z D (wI m 72 0 0) j1 r) := by
      unfold f_X12_person f_X12_person_0
      rw [q72.1, obs, M_isPerson hv1.1.2.1, hb.1, cN_mk, if_neg (by decide), i64_0, i64_6, M_inK (by omega), hb.2, cN_mk, if_neg (by decide), e26']
    have eH : f_X12_thrown 72 (mkH n z D (wI m 72 0 0) j1 r) = some (0, mkH n z D (wI m 72 0 0) j1 r) := by
      unfold f_X12_thrown f_X12_thrown_0
      rw [gI_mk (i := 0) rfl (by decide) rfl, obs, wI_se]
    have eJ : aJ (mkH n z D (wI m 72 0 0) j1 r) 94 0 = some (Int32.ofNat V).toInt64 := by
      rw [show (0 : Int32) = Int32.ofNat 0 from rfl, p94.1 0 (by omega), j94]
    rw [eL, cA_mk (Nat.le_refl _) (Nat.le_refl _)]
    refine ck_res ?_
    rw [q72.1, obs, eM, cN_mk, q72.1, obs, eH, cN_mk, if_pos rfl, if_pos rfl, eJ, obs, lg_s, if_pos rfl]
    unfold f_L_law_499
    refine ck_res (L1641 hk ⟨tp, C, P, τ, σ, lg, acts, lt, hs, img, σI, lgI, A, held, tx, ln, cls, B, pls, dg, sn, sw, hw, CI_m hc (fun a ha => wI_ne (by omega)) (fun _ _ => rfl), MI_0 (n := n) (z := z) (LMok_d hD hw.2.2.2.2.2.1) hw.2.2.2.2.2.2.1 hv1⟩ (by omega) (by omega) (by omega) (by omega))
end LOOP
