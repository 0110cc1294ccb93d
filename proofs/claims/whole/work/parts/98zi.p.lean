/-! The call that takes a text: a city, and what is refused. -/
section TXT
variable {n z : Nat} {D : Dyn} {m m1 m' : MI} {j : MJ} {r r' : MR} {tp : TP} {C P : Nat} {τ σ : Sg} {lg : LG} {acts lt : Nat} {hs : Nat → Sg} {img : Bool} {σI : Sg} {lgI : LG} {A held : Nat} {tx : Nat → Nat → Nat} {ln : Nat → Nat} {cls : CLS} {B : Nat} {pls : Nat → List ST} {dg sn : Nat} {sw : Nat → Nat → Nat} {v : Int32} {k : Nat}
theorem LM_g (hl : LMd A held tx ln cls m j) (g : GZ m m' j r r') : LMd A held tx ln cls m' j := by
  obtain ⟨g1, g76, g88⟩ := g
  unfold LMd LT at hl ⊢
  rw [g1.2.2.2.1 7 (by omega) (by omega) (by omega) (by omega) (by omega) (by omega), g1.2.2.2.1 34 (by omega) (by omega) (by omega) (by omega) (by omega) (by omega), g1.1 74 (by omega), g1.1 75 (by omega), g76, g88]
  exact hl
theorem GZ_0 {x : Int32} : GZ m (wI m 72 0 x) j r r := ⟨FQm_0, wI_ne (by omega), wI_ne (by omega)⟩
theorem GZ_tr {m'' : MI} {r'' : MR} (h : GZ m m' j r r') (h' : GZ m' m'' j r' r'') : GZ m m'' j r r'' := ⟨FQm_tr h.1 h'.1, h'.2.1.trans h.2.1, h'.2.2.trans h.2.2⟩
theorem MI_g (hB : WPl B pls) (h : MIv m j tp C P τ σ lg acts hs img σI lgI A held tx ln cls B pls dg sn sw) (g : GZ m m' j r r') : MIv m' j tp C P τ σ lg acts hs img σI lgI A held tx ln cls B pls dg sn sw := MI_q h g.1 (LM_g h.1.2.2.2.1 g) hB
theorem fe0 (hD : ∀ a, 1000000 ≤ a → D a = none) (hT : TMd m tp) (hN : tp.2 ≤ 240) (hb : ∀ q, q < tp.2 → 1 ≤ tp.1 q ∧ tp.1 q < 256) {e : Nat} (h : pCy tp.1 tp.2 300 cy0 0 = .inl e) : ¬ fv0 tp.1 tp.2 = -1 := by
  obtain ⟨m', -, -, -, v⟩ := M_readCity (n := 0) (z := 0) (j := fun _ _ => 0) (r := fun _ _ => none) hD hT hN hb
  simp only [h] at v
  unfold fv0
  rw [h]
  exact fun e => (no1_ne (by omega)).mp e
theorem fe1 {L : Nat → Int} (hD : ∀ a, 1000000 ≤ a → D a = none) (hL : LT m L) (hT : TMd m tp) (hN : tp.2 ≤ 240) (hb : ∀ q, q < tp.2 → 1 ≤ tp.1 q ∧ tp.1 q < 256) {e : Nat} (h : pLw tp.1 tp.2 300 0 = .inl e) : ¬ fv1 tp.1 tp.2 = -1 := by
  obtain ⟨m', -, -, -, v⟩ := M_go (n := 0) (z := 0) (j := fun _ _ => 0) (r := fun _ _ => none) (a := 73) (b := 0) (t := tp.1) hD hL hN (Or.inl ⟨rfl, rfl⟩) (fun q hq => by rw [Nat.zero_add]; exact ⟨hT.2 q hq, hb q hq⟩)
  simp only [h] at v
  unfold fv1
  rw [h]
  exact fun e => (no1_ne (by omega)).mp e
theorem fe2 (hD : ∀ a, 1000000 ≤ a → D a = none) (hT : TMd m tp) (hN : tp.2 ≤ 240) (hb : ∀ q, q < tp.2 → 1 ≤ tp.1 q ∧ tp.1 q < 256) {e : Nat} (h : pPl tp.1 tp.2 16 0 = .inl e) : ¬ fv2 tp.1 tp.2 = -1 := by
  obtain ⟨m', -, -, -, -, -, v⟩ := M_readPlan (n := 0) (z := 0) (j := fun _ _ => 0) (r := fun _ _ => none) hD hT hN hb
  simp only [h] at v
  unfold fv2
  rw [h]
  exact fun e => (no1_ne (by omega)).mp e
theorem C_txf {x : Int32} (e : f_X11_fault 0 x (mkH n z D m j r) = some (v, mkH n z D m1 j r)) (hv : ¬ v = -1) : f_X11_text 0 x (mkH n z D m j r) = some (no1, mkH n z D m1 j r) := by
  unfold f_X11_text f_X11_text_0
  refine ck_ok ?_ (Nat.le_refl _) (Nat.le_refl _)
  rw [q0.1, obs, e, cN_mk, if_neg hv]
  rfl
theorem M_txf {x : Int32} (e : f_X12_fault 72 x (mkH n z D m j r) = some (v, mkH n z D m1 j r')) (hv : ¬ v = -1) : f_X12_text_43 72 x (mkH n z D m j r) = some (no1, mkH n z D m1 j r') := by
  unfold f_X12_text_43
  rw [q72.1, obs, e, cN_mk, if_neg hv]
  rfl
/-- a refused text -/
theorem K_ref {x : Int32} {m2 : MI} (hw : WIv C P τ σ lg acts hs img σI lgI A held tx ln cls B pls dg sn sw) (hc : CIv n D m r tp C P τ σ lg acts lt hs img σI lgI A held cls B pls dg sn sw) (hv : MIv m j tp C P τ σ lg acts hs img σI lgI A held tx ln cls B pls dg sn sw) (e1 : f_X11_text 0 x (mkH n z D m j r) = some (v, mkH n z D m1 j r)) (f1 : FZ m m1) (e2 : f_X12_text 72 x (mkH n z D m1 j r) = some (v, mkH n z D m2 j r')) (g : GZ m1 m2 j r r') : CALL n z D m j r (f_X11_text 0 x) (f_X12_text 72 x) := by
  have hv1 : MIv m1 j tp C P τ σ lg acts hs img σI lgI A held tx ln cls B pls dg sn sw := MI_c hv (fun a c1 c2 => f1 a (by omega)) rfl
  exact ⟨v, n, z, D, m1, j, r, m2, j, r', e1, e2, ⟨by omega, by omega⟩, ⟨by omega, by omega⟩, tp, C, P, τ, σ, lg, acts, lt, hs, img, σI, lgI, A, held, tx, ln, cls, B, pls, dg, sn, sw, hw, CI_m (CI_q hc (FZ_q f1)) (FN_q g.1).1 (FN_q g.1).2, MI_g hw.2.2.2.2.2.2.1 hv1 g⟩
theorem bt_of (hc : CIv n D m r tp C P τ σ lg acts lt hs img σI lgI A held cls B pls dg sn sw) : tp.2 ≤ 240 ∧ (∀ q, q < tp.2 → 1 ≤ tp.1 q ∧ tp.1 q < 256) := ⟨hc.1.1.2.1, fun q hq => (hc.1.1.2.2 q hq).2⟩
theorem Q_fault (hw : WIv C P τ σ lg acts hs img σI lgI A held tx ln cls B pls dg sn sw) (hc : CIv n D m r tp C P τ σ lg acts lt hs img σI lgI A held cls B pls dg sn sw) (hm : EM n z D (plw held cls) (LMd A held tx ln cls) m1 j C P τ σ) (hv : MIv m1 j tp C P τ σ lg acts hs img σI lgI A held tx ln cls B pls dg sn sw) (hn : n ≤ 1000000) (x : Int32) : QQ n z D (LMd A held tx ln cls) m j r m1 j r (f_X11_fault 0 x) (f_X12_fault 72 x) := by
  have hD := hD_of hc hn
  obtain ⟨hN, hb⟩ := bt_of hc
  cases him : im x 0 3 with
  | false =>
    have hh0 : ¬ x = 0 := fun e => by rw [e, show (0 : Int32) = Int32.ofNat 0 from rfl, im_k (by omega)] at him; cases him
    have hh1 : ¬ x = 1 := fun e => by rw [e, show (1 : Int32) = Int32.ofNat 1 from rfl, im_k (by omega)] at him; cases him
    have hh2 : ¬ x = 2 := fun e => by rw [e, show (2 : Int32) = Int32.ofNat 2 from rfl, im_k (by omega)] at him; cases him
    refine ⟨no2, QC_e ?_, ?_⟩
    · unfold f_X11_fault f_X11_fault_0 f_X11_readerOf f_X11_readerOf_0
      rw [q0.1, obs, if_neg hh0, if_neg hh1, if_neg hh2, cN_mk]
      rfl
    · unfold f_X12_fault f_X12_fault_0
      refine QM_s hm (fun m2 _ h2 => QM_e h2 ?_)
      rw [i64_0, i64_2, M_inK (by omega), him, cN_mk, if_pos (by decide)]
      rfl
  | true =>
    obtain ⟨k, -, hk, rfl⟩ := im_t (by omega) (by omega) him
    rcases (show k = 0 ∨ k = 1 ∨ k = 2 by omega) with rfl | rfl | rfl
    · obtain ⟨m2, e2, f2, -⟩ := C_fl0 (n := n) (z := z) (j := j) (r := r) hD hc.1.1
      obtain ⟨m3, e3, g3, -⟩ := M_fl0 (n := n) (z := z) (j := j) (r := r) hD hv.1.1 hN hb
      exact ⟨_, ⟨m2, e2, FZ_q f2⟩, m3, j, _, e3, LM_g hv.1.2.2.2.1 g3, g3.1⟩
    · obtain ⟨m2, e2, f2, -⟩ := C_fl1 (n := n) (z := z) (j := j) (r := r) hD hc.1.1
      obtain ⟨L, hL⟩ := hv.1.2.2.2.1.2.2.2.1
      obtain ⟨m3, e3, g3, -⟩ := M_fl1 (n := n) (z := z) (j := j) (r := r) hD hL hv.1.1 hN hb
      exact ⟨_, ⟨m2, e2, FZ_q f2⟩, m3, j, _, e3, LM_g hv.1.2.2.2.1 g3, g3.1⟩
    · obtain ⟨m2, e2, f2, -⟩ := C_fl2 (n := n) (z := z) (j := j) (r := r) hD hc.1.1
      obtain ⟨m3, e3, g3, -⟩ := M_fl2 (n := n) (z := z) (j := j) (r := r) hD hv.1.1 hN hb
      exact ⟨_, ⟨m2, e2, FZ_q f2⟩, m3, j, _, e3, LM_g hv.1.2.2.2.1 g3, g3.1⟩
theorem K_text0 (hw : WIv C P τ σ lg acts hs img σI lgI A held tx ln cls B pls dg sn sw) (hc : CIv n D m r tp C P τ σ lg acts lt hs img σI lgI A held cls B pls dg sn sw) (hv : MIv m j tp C P τ σ lg acts hs img σI lgI A held tx ln cls B pls dg sn sw) (hn : n ≤ 1000000) : CALL n z D m j r (f_X11_text 0 (Int32.ofNat 0)) (f_X12_text 72 (Int32.ofNat 0)) := by
  have hD := hD_of hc hn
  obtain ⟨hN, hb⟩ := bt_of hc
  obtain ⟨m1, e1, f1, v1⟩ := C_fl0 (n := n) (z := z) (j := j) (r := r) hD hc.1.1
  cases hp : pCy tp.1 tp.2 300 cy0 0 with
  | inl e =>
    have hne := fe0 hD hv.1.1 hN hb hp
    have hv1 : MIv m1 j tp C P τ σ lg acts hs img σI lgI A held tx ln cls B pls dg sn sw := MI_c hv (fun a c1 c2 => f1 a (by omega)) rfl
    obtain ⟨m3, e3, g3, -⟩ := M_fl0 (n := n) (z := z) (j := j) (r := r) hD (TMd_0 (x := 0) hv1.1.1) hN hb
    exact K_ref hw hc hv (C_txf e1 hne) f1 (by rw [M_tx0]; exact M_txf e3 hne) (GZ_tr GZ_0 g3)
  | inr c =>
    have hfv : fv0 tp.1 tp.2 = -1 := by
      unfold fv0
      rw [hp]
      rfl
    obtain ⟨_, -, -, -, v0⟩ := M_readCity (n := n) (z := z) (j := j) (r := r) hD hv.1.1 hN hb
    simp only [hp] at v0
    have hok := v0.2.2.1
    have hwh := v0.2.2.2
    obtain ⟨m3, e3, y3, s3, a3, i3, n3, t3, f3, l3⟩ := C_found (n := n) (z := z) (D := D) (j := j) (r := r) (v1 c hp) hok.1 hok.2.1
    have g3 : ∀ a, a ≠ 1 → ¬ (3 ≤ a ∧ a ≤ 32) → a ≠ 39 → a ≠ 55 → m3 a = m a := fun a b1 b2 b3 b4 => by rw [f3 a b1 (by omega) b3 b4, f1 a (by omega)]
    have hv3 : MIv m3 j tp C P τ σ lg acts hs img σI lgI A held tx ln cls B pls dg sn sw := MI_c hv (fun a c1 c2 => g3 a (by omega) (by omega) (by omega) (by omega)) rfl
    obtain ⟨m4, e4, g4, v4⟩ := M_fl0 (n := n) (z := z) (j := j) (r := r) hD (TMd_0 (x := 0) hv3.1.1) hN hb
    have g4 := GZ_tr GZ_0 g4
    have hv4 : MIv m4 j tp C P τ σ lg acts hs img σI lgI A held tx ln cls B pls dg sn sw := MI_g hw.2.2.2.2.2.2.1 hv3 g4
    obtain ⟨c4, -, -⟩ := v4 c hp
    generalize hm5 : wI (wI (wI m4 72 6 (Int32.ofNat 0)) 72 26 (m4 72 28)) 72 27 (m4 72 29) = m5
    have o5 : ∀ a, a ≠ 72 → m5 a = m4 a := fun a h => by rw [← hm5, wI_ne h, wI_ne h, wI_ne h]
    have p5 : ∀ i, i ≠ 6 → i ≠ 26 → i ≠ 27 → m5 72 i = m4 72 i := fun i h1 h2 h3 => by rw [← hm5, wI_sn h3, wI_sn h2, wI_sn h1]
    have c5 : MCY m5 c := by
      obtain ⟨b1, b2, b3, b4, b5, b6⟩ := c4
      refine ⟨by rw [p5 28 (by omega) (by omega) (by omega)]; exact b1, by rw [p5 29 (by omega) (by omega) (by omega)]; exact b2, by rw [p5 31 (by omega) (by omega) (by omega)]; exact b3, by rw [o5 78 (by omega)]; exact b4, by rw [o5 80 (by omega)]; exact b5, by rw [o5 82 (by omega)]; exact b6⟩
    obtain ⟨m6, e6, y6, s6, x6, n6, a6, i6, f6, h6⟩ := M_found (n := n) (z := z) (D := D) (j := j) (r := wR r 72 5 (some 73)) c5 hok (by rw [← hm5, wI_sn (by omega), wI_se]; exact c4.1) (by rw [← hm5, wI_se]; exact c4.2.1)
    have f64 : ∀ a, a ≠ 72 → a ≠ 77 → a ≠ 79 → a ≠ 81 → a ≠ 85 → m6 a = m4 a := fun a b1 b2 b3 b4 b5 => by rw [f6 a b1 b2 b3 b4 b5, o5 a b1]
    have h64 : ∀ i, i ≠ 6 → i ≠ 26 → i ≠ 27 → i ≠ 43 → i ≠ 46 → i ≠ 49 → m6 72 i = m4 72 i := fun i b1 b2 b3 b4 b5 b6 => by rw [h6 i b4 b5 b6, p5 i b1 b2 b3]
    have E1 : f_X11_text 0 (Int32.ofNat 0) (mkH n z D m j r) = some (Int32.ofNat c.2.2.2.2.1, mkH n z D m3 j r) := by
      unfold f_X11_text f_X11_text_0
      refine ck_ok ?_ (Nat.le_refl _) (Nat.le_refl _)
      rw [q0.1, obs, e1, cN_mk, if_pos hfv, if_pos (by decide), q0.1, obs, e3, cN_mk]
    have E2 : f_X12_text 72 (Int32.ofNat 0) (mkH n z D m3 j r) = some (Int32.ofNat c.2.2.2.2.1, mkH n z D m6 j (wR r 72 5 (some 73))) := by
      rw [M_tx0]
      unfold f_X12_text_43
      rw [q72.1, obs, e4, cN_mk, if_pos hfv]
      simp only [q72, obs]
      rw [if_neg (by decide), if_neg (by decide)]
      have z0 : wI (wI (wI m4 72 6 0) 72 26 (m4 72 28)) 72 27 (m4 72 29) = m5 := hm5
      simp (disch := omega) only [wI_sn, z0]
      exact e6
    obtain ⟨w1, w2, w3, w4, w5, w6, w7, w8, w9⟩ := hw
    obtain ⟨⟨q1, q2, q3, q4, q5, q6, q7⟩, q8, q9, q10, q11⟩ := hc
    have C3 : CIv n D m3 r (tp.1, 0) c.2.2.1 c.2.2.2.2.1 (τN c) (σN c) lg 0 lt hs false σI lgI A held cls B pls dg 0 sw := by
      refine ⟨⟨⟨t3, Nat.zero_le _, fun q hq => absurd hq (Nat.not_lt_zero _)⟩, y3, ⟨i3, fun h => by cases h⟩, LCd_fr q4 (by rw [g3 0 (by omega) (by omega) (by omega) (by omega)]) (by rw [g3 0 (by omega) (by omega) (by omega) (by omega)]) (fun o ho => g3 o (by omega) (by omega) (by omega) (by omega)), ⟨by rw [g3 0 (by omega) (by omega) (by omega) (by omega)]; exact q5.1, fun p hp => ?_⟩, by rw [g3 0 (by omega) (by omega) (by omega) (by omega)]; exact q6, ⟨n3, fun k hk => absurd hk (Nat.not_lt_zero _)⟩⟩, s3, fun e he => absurd he (Nat.not_lt_zero _), ⟨a3, by rw [l3, f1 39 (by omega)]; exact q10.2.1, q10.2.2.1, Nat.zero_le _, fun k hk => absurd hk (Nat.not_lt_zero _)⟩, q11⟩
      obtain ⟨o, eo, hg⟩ := q5.2 p hp
      have ho := hg.2.2.1
      exact ⟨o, eo, PG_fr2 hg (g3 o (by omega) (by omega) (by omega) (by omega)) rfl⟩
    obtain ⟨⟨r1, r2, r3, r4, r5, r6, r7⟩, r8, r9, r10⟩ := hv4
    have V6 : MIv m6 j (tp.1, 0) c.2.2.1 c.2.2.2.2.1 (τN c) (σN c) lg 0 hs false σI lgI A held tx ln cls B pls dg 0 sw := by
      refine ⟨⟨⟨by rw [h6 6 (by omega) (by omega) (by omega), ← hm5, wI_sn (by omega), wI_sn (by omega), wI_se], fun q hq => absurd hq (Nat.not_lt_zero _)⟩, y6, ⟨i6, fun h => by cases h⟩, ?_, ?_, by rw [h64 35 (by omega) (by omega) (by omega) (by omega) (by omega) (by omega)]; exact r6, ⟨n6, fun k hk => absurd hk (Nat.not_lt_zero _)⟩⟩, s6, ⟨x6, fun i t _ hi => absurd (Nat.lt_of_lt_of_le hi (Nat.min_le_right _ _)) (Nat.not_lt_zero _)⟩, a6, Nat.zero_le _, fun k hk => absurd hk (Nat.not_lt_zero _)⟩
      · unfold LMd LT at r4 ⊢
        rw [h64 7 (by omega) (by omega) (by omega) (by omega) (by omega) (by omega), h64 34 (by omega) (by omega) (by omega) (by omega) (by omega) (by omega), f64 74 (by omega) (by omega) (by omega) (by omega) (by omega), f64 75 (by omega) (by omega) (by omega) (by omega) (by omega), f64 76 (by omega) (by omega) (by omega) (by omega) (by omega), f64 88 (by omega) (by omega) (by omega) (by omega) (by omega)]
        exact r4
      · unfold PLm at r5 ⊢
        rw [h64 30 (by omega) (by omega) (by omega) (by omega) (by omega) (by omega), f64 83 (by omega) (by omega) (by omega) (by omega) (by omega), f64 84 (by omega) (by omega) (by omega) (by omega) (by omega)]
        exact r5
    refine ⟨_, n, z, D, m3, j, r, m6, j, wR r 72 5 (some 73), E1, E2, ⟨by omega, by omega⟩, ⟨by omega, by omega⟩, (tp.1, 0), c.2.2.1, c.2.2.2.2.1, τN c, σN c, lg, 0, lt, hs, false, σI, lgI, A, held, tx, ln, cls, B, pls, dg, 0, sw, ⟨WY_N hok hwh, WS_N hok, w3, ⟨fun k hk => absurd hk (Nat.not_lt_zero _), fun k hk => absurd hk (Nat.not_lt_zero _), fun k hk => absurd hk (Nat.succ_ne_zero _)⟩, (fun h => by cases h), w6, w7, w8, Nat.zero_le _, fun k hk => absurd hk (Nat.not_lt_zero _)⟩, CI_m C3 (fun a ha => ?_) (fun a ha => wR_ne ha), V6⟩
    rw [f64 a (by omega) (by omega) (by omega) (by omega) (by omega), g4.1.1 a (by omega)]
end TXT
