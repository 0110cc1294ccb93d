/-! Acts. -/
def lgD (lg : LG) (d : Nat) (x : Nat × Nat × Nat) : LG := fun e => if e = d then x else lg e
def rwD (pl : Pl) (C P : Nat) (τ σ : Sg) : Nat × Nat × Nat := ((dy pl C τ σ P).2.1, (dy pl C τ σ P).2.2, nxt (ax pl C τ σ) P σ 6 0)
def lF (pl : Pl) (C P : Nat) (τ σ : Sg) (lg : LG) (k : Nat) : LG := if k = 0 then lgD lg (σ 7 0) (rwD pl C P τ σ) else lg
section ACT
variable {n z : Nat} {D D' : Dyn} {m m' : MI} {j j' : MJ} {r r' : MR} {tp : TP} {C P : Nat} {τ σ σ' : Sg} {lg lg' : LG} {acts lt : Nat} {hs : Nat → Sg} {img : Bool} {σI : Sg} {lgI : LG} {A held : Nat} {tx : Nat → Nat → Nat} {ln : Nat → Nat} {cls : CLS} {B : Nat} {pls : Nat → List ST} {dg sn : Nat} {sw : Nat → Nat → Nat} {x y : Int32} {k a b : Nat} {pl : Pl}
theorem WH_gap (h : WH C P acts hs σ) : ∀ d k, k + d + 1 = acts → hs k 7 0 ≤ σ 7 0 ∧ σ 7 0 ≤ hs k 7 0 + (d + 1)
  | 0, k, e => h.2.2 k (by omega)
  | d + 1, k, e => by
    have h1 := WH_gap h d (k + 1) (by omega)
    have h2 := h.2.1 k (by omega)
    omega
theorem kp_gap (h : WH C P acts hs σ) (ha : acts ≤ 40) : ∀ k, k < min 40 (acts + 1) → kp acts hs σ k 7 0 ≤ σ 7 0 ∧ σ 7 0 ≤ kp acts hs σ k 7 0 + 39 := by
  intro k hk
  unfold kp
  by_cases h1 : k + 1 = min 40 (acts + 1)
  · rw [if_pos h1]; omega
  · rw [if_neg h1]
    by_cases h2 : acts = 40
    · rw [if_pos h2]
      have := WH_gap h (acts - (k + 1) - 1) (k + 1) (by omega)
      omega
    · rw [if_neg h2]
      have := WH_gap h (acts - k - 1) k (by omega)
      omega
theorem WH_kp (h : WH C P acts hs σ) (hS : WS C P 999 σ) (ha : acts ≤ 40) (h' : σ 7 0 ≤ σ' 7 0 ∧ σ' 7 0 ≤ σ 7 0 + 1) : WH C P (min 40 (acts + 1)) (kp acts hs σ) σ' := by
  refine ⟨fun k hk => ?_, fun k hk => ?_, fun k hk => ?_⟩
  · unfold kp
    by_cases h1 : k + 1 = min 40 (acts + 1)
    · rw [if_pos h1]; exact hS
    · rw [if_neg h1]
      by_cases h2 : acts = 40
      · rw [if_pos h2]; exact h.1 _ (by omega)
      · rw [if_neg h2]; exact h.1 _ (by omega)
  · unfold kp
    rw [if_neg (show ¬ k + 1 = min 40 (acts + 1) by omega)]
    by_cases h1 : k + 1 + 1 = min 40 (acts + 1)
    · rw [if_pos h1]
      by_cases h2 : acts = 40
      · rw [if_pos h2]; exact h.2.2 (k + 1) (by omega)
      · rw [if_neg h2]; exact h.2.2 k (by omega)
    · rw [if_neg h1]
      by_cases h2 : acts = 40
      · rw [if_pos h2, if_pos h2]; exact h.2.1 (k + 1) (by omega)
      · rw [if_neg h2, if_neg h2]; exact h.2.1 k (by omega)
  · unfold kp
    rw [if_pos hk]; exact h'
theorem nxt7 : nxt (ax pl C τ σ) P σ 7 0 = σ 7 0 + 1 := rfl
theorem sF_7 (hk : k ≤ 3) : sF pl C P τ σ k a b 7 0 = if k = 0 then σ 7 0 + 1 else σ 7 0 := by
  rcases (show k = 0 ∨ k = 1 ∨ k = 2 ∨ k = 3 by omega) with rfl | rfl | rfl | rfl
  · rfl
  · rw [sF1]
    split
    · exact uS_n (by omega)
    · rw [uS_n (by omega), uS_n (by omega)]; rfl
  · rw [sF2, uS_n (by omega), uS_n (by omega)]; rfl
  · rw [sF3, uS_n (by omega)]; rfl
theorem okR (hW : WY C P τ) (hS : WS C P 999 σ) : okL (rwD pl C P τ σ) := by
  have d := dy_lt (pl := pl) (σ := σ) hW P (Nat.le_refl P)
  have hP := hW.2.1
  have p6 := pow6 hP
  exact ⟨Nat.lt_of_lt_of_le d.2.1 p6, by show (dy pl C τ σ P).2.2 < 64; omega, cns_le _ hS.2.2.2.1 P⟩
theorem WI_act (hw : WIv C P τ σ lg acts hs img σI lgI A held tx ln cls B pls dg sn sw) (ha : acts ≤ 40) (hk : k ≤ 3) (hc : cB C P σ k a b = true) : WIv C P τ (sF (plw held cls) C P τ σ k a b) (lF (plw held cls) C P τ σ lg k) (min 40 (acts + 1)) (kp acts hs σ) img σI lgI A held tx ln cls B pls dg sn sw := by
  obtain ⟨h1, h2, h3, h4, h5⟩ := hw
  refine ⟨h1, ?_, fun e => ?_, WH_kp h4 h2 ha ?_, h5⟩
  · by_cases hk0 : k = 0
    · subst hk0
      have hc := of_decide_eq_true hc
      have := WS_sF (pl := plw held cls) (k := 0) (a := a) (b := b) (d := 998) h1 ⟨h2.1, h2.2.1, h2.2.2.1, h2.2.2.2.1, by omega⟩ (by omega) (decide_eq_true hc)
      exact this
    · have := WS_sF (pl := plw held cls) h1 h2 hk hc
      rw [if_neg hk0] at this
      exact this
  · unfold lF
    split
    · unfold lgD
      split
      · exact okR h1 h2
      · exact h3 e
    · exact h3 e
  · rw [sF_7 hk]
    split <;> omega
theorem C_keepI (hw : WIv C P τ σ lg acts hs img σI lgI A held tx ln cls B pls dg sn sw) (h : CIv n D m r tp C P τ σ lg acts lt hs img σI lgI A held cls B pls dg sn sw) (hn : n + 6 < 1000000) : ∃ n' z' D' m' r', f_X1_keep 39 27 (mkH n z D m j r) = some ((), mkH n' z' D' m' j r') ∧ n ≤ n' ∧ n' ≤ n + 6 ∧ z ≤ z' ∧ z' ≤ z + 36 ∧ CIv n' D' m' r' tp C P τ σ lg (min 40 (acts + 1)) ((lt + 1) % 40) (kp acts hs σ) img σI lgI A held cls B pls dg sn sw ∧ FM m m' j j r r' := by
  obtain ⟨h1, h2, h3, h4, h5⟩ := h
  obtain ⟨n', z', D', m', r', e, b1, b2, b3, b4, b5, b6, b7, b8, b9, b10, b11⟩ := C_keep (z := z) (j := j) hw.1.1 hw.1.2.1 h5 h4 h2 h3 hn
  refine ⟨n', z', D', m', r', e, b1, b2, b3, b4, ⟨CR_fr h1 h5 (fun a ha => b7 a (by omega) (by omega)) (fun i _ => by rw [b7 55 (by omega) (by omega)]) (b8 6 (by omega) (by omega)) b9 (fun o ho1 ho2 ho3 => ⟨b10 o ho1 ho2 ho3, b11 o ho1⟩), CS_fr h2 (fun a ha => b7 a (by omega) (by omega)), by rw [b7 41 (by omega) (by omega)]; exact h3, b6, b5⟩, ⟨fun a _ h2 => b7 a h2 (by omega), fun _ _ => rfl, b9⟩⟩
theorem CI_now (h : CIv n D m r tp C P τ σ lg acts lt hs img σI lgI A held cls B pls dg sn sw) (hM : CS m' 27 σ' C P) (h7 : σ' 7 0 = σ 7 0) (hf : ∀ a, ¬ (27 ≤ a ∧ a ≤ 32) → m' a = m a) : CIv n D m' r tp C P τ σ' lg acts lt hs img σI lgI A held cls B pls dg sn sw := by
  obtain ⟨h1, h2, h3, h4, h5⟩ := h
  exact ⟨CR_fr h1 h5 (fun a ha => hf a (by omega)) (fun i _ => by rw [hf 55 (by omega)]) (by rw [hf 39 (by omega)]) (fun _ _ => rfl) (fun o _ ho _ => ⟨hf o (by omega), rfl⟩), hM, by rw [hf 41 (by omega), h7]; exact h3, HC_fr h4 h5 (by rw [hf 39 (by omega)]) (by rw [hf 39 (by omega)]) (fun a ha => hf a (by omega)) (fun k _ hr => by rw [hf 41 (by omega)]; exact hr), h5⟩
theorem C_dayI (hW : WY C P τ) (hS : WS C P 998 σ) (hWL : WL A held tx ln cls) (h : CIv n D m r tp C P τ σ lg acts lt hs img σI lgI A held cls B pls dg sn sw) (hg : ∀ k, k < acts → hs k 7 0 ≤ σ 7 0 ∧ σ 7 0 ≤ hs k 7 0 + 39) : ∃ m2 m3, f_X11_doStep 0 27 (Int32.ofNat 0) x y (mkH n z D m j r) = some ((), mkH n z D m2 j r) ∧ f_X11_writeRow 0 (mkH n z D m2 j r) = some ((), mkH n z D m3 j r) ∧ CIv n D m3 r tp C P τ (nxt (ax (plw held cls) C τ σ) P σ) (lgD lg (σ 7 0) (rwD (plw held cls) C P τ σ)) acts lt hs img σI lgI A held cls B pls dg sn sw ∧ FM m m3 j j r r ∧ m3 52 3 = Int32.ofNat (dy (plw held cls) C τ σ P).2.1 := by
  have hE : EC n z D (plw held cls) (LCd D A held cls) m r C P τ σ := ⟨hW, WS_le hS (by omega), h.1.2.1, h.2.1, LCok_d hWL, h.1.2.2.2.1⟩
  obtain ⟨m2, e2, hM2, f2, a3, a4, -⟩ := C_dayS (j := j) (x := x) (y := y) hE (Or.inl rfl) (WS_le hS (by omega)) h.2.1
  have hok := okR (pl := plw held cls) hW (WS_le hS (by omega : 998 ≤ 999))
  have s7 := hS.2.2.2.2
  refine ⟨m2, wI m2 41 (σ 7 0 % 100) (Int32.ofNat (eL (rwD (plw held cls) C P τ σ))), e2, ?_, ?_, ?_, by rw [wI_ne (by omega)]; exact a3⟩
  · have t7 : m2 27 7 = Int32.ofNat (σ 7 0 + 1) := hM2.2.2.2.2
    have t6 : m2 27 6 = Int32.ofNat (nxt (ax (plw held cls) C τ σ) P σ 6 0) := hM2.2.2.2.1
    have eE := eL_e hok
    have p7 : Int32.ofNat (σ 7 0 + 1) - Int32.ofNat 1 = Int32.ofNat (σ 7 0) := by rw [i_sub (by omega)]; rfl
    unfold f_X11_writeRow f_X11_writeRow_0 f_X1_write f_X1_write_0
    unfold rwD at eE ⊢
    simp (disch := omega) only [obs, cN_mk, ite_true, ite_false, if_true, if_false, q0, q27, t7, t6, q52, a3, a4, q39, l1, p7, C_place, l6, l12, l31, p41, eE]
  · obtain ⟨h1, h2, h3, h4, h5⟩ := h
    have g : ∀ a, ¬ (27 ≤ a ∧ a ≤ 32) → ¬ (49 ≤ a ∧ a ≤ 54) → a ≠ 41 → wI m2 41 (σ 7 0 % 100) (Int32.ofNat (eL (rwD (plw held cls) C P τ σ))) a = m a := fun a c1 c2 c3 => by rw [wI_ne c3, f2 a (by omega) c2]
    have r41 : ∀ q, q ≠ σ 7 0 % 100 → wI m2 41 (σ 7 0 % 100) (Int32.ofNat (eL (rwD (plw held cls) C P τ σ))) 41 q = m 41 q := fun q hq => by rw [wI_sn hq, f2 41 (by omega) (by omega)]
    refine ⟨CR_fr h1 h5 (fun a ha => g a (by omega) (by omega) (by omega)) (fun i _ => by rw [wI_ne (by omega), f2 55 (by omega) (by omega)]) (by rw [g 39 (by omega) (by omega) (by omega)]) (fun _ _ => rfl) (fun o _ ho _ => ⟨g o (by omega) (by omega) (by omega), rfl⟩), CS_fr hM2 (fun a ha => wI_ne (by omega)), ?_, HC_fr h4 h5 (by rw [g 39 (by omega) (by omega) (by omega)]) (by rw [g 39 (by omega) (by omega) (by omega)]) (fun a ha => g a (by omega) (by omega) (by omega)) (fun k hk hr => ?_), h5⟩
    · intro e he1 he2
      rw [nxt7] at he1 he2
      unfold lgD
      by_cases hd : e = σ 7 0
      · subst hd
        rw [if_pos rfl, wI_se]
      · rw [if_neg hd, r41 _ (by omega)]
        exact h3 e (by omega) (by omega)
    · have := hg k hk
      exact RW_cg hr (fun e he1 he2 => r41 _ (by omega)) (fun e he => if_neg (by omega))
  · exact ⟨fun a c1 c2 => by rw [wI_ne (by omega), f2 a (by omega) (by omega)], fun _ _ => rfl, fun _ _ => rfl⟩
theorem C_actI (hw : WIv C P τ σ lg acts hs img σI lgI A held tx ln cls B pls dg sn sw) (h : CIv n D m r tp C P τ σ lg acts lt hs img σI lgI A held cls B pls dg sn sw) (hk : k ≤ 3) (hc : cB C P σ k a b = true) (hn : n + 6 < 1000000) : ∃ n' z' D' m' r', f_X11_act 0 (Int32.ofNat k) (Int32.ofNat a) (Int32.ofNat b) (mkH n z D m j r) = some ((), mkH n' z' D' m' j r') ∧ n ≤ n' ∧ n' ≤ n + 6 ∧ z ≤ z' ∧ z' ≤ z + 36 ∧ CIv n' D' m' r' tp C P τ (sF (plw held cls) C P τ σ k a b) (lF (plw held cls) C P τ σ lg k) (min 40 (acts + 1)) ((lt + 1) % 40) (kp acts hs σ) img σI lgI A held cls B pls dg sn sw ∧ FM m m' j j r r' ∧ (k = 0 → m' 52 3 = Int32.ofNat (dy (plw held cls) C τ σ P).2.1) := by
  obtain ⟨n1, z1, D1, m1, r1, e1, b1, b2, b3, b4, h1, f1⟩ := C_keepI (z := z) (j := j) hw h hn
  have ha : acts ≤ 40 := h.2.2.2.1.2.2.2.1
  by_cases hk0 : k = 0
  · subst hk0
    have hc := of_decide_eq_true hc
    have hS8 : WS C P 998 σ := ⟨hw.2.1.1, hw.2.1.2.1, hw.2.1.2.2.1, hw.2.1.2.2.2.1, by omega⟩
    obtain ⟨m2, m3, e2, e3, h3, f3, a3⟩ := C_dayI (z := z1) (j := j) (x := Int32.ofNat a) (y := Int32.ofNat b) hw.1 hS8 hw.2.2.2.2.2.1 h1 (kp_gap hw.2.2.2.1 ha)
    refine ⟨n1, z1, D1, m3, r1, ?_, b1, b2, b3, b4, h3, FM_tr f1 f3, fun _ => a3⟩
    unfold f_X11_act f_X11_act_0
    refine ck_ok ?_ b1 b3
    simp (disch := omega) only [obs, cN_mk, ite_true, ite_false, if_true, if_false, q0, q39, e1, cA_mk b1 b3]
    refine ck_ok ?_ (Nat.le_refl _) (Nat.le_refl _)
    simp (disch := omega) only [obs, cN_mk, ite_true, ite_false, if_true, if_false, q0, l0, e2, e3]
  · obtain ⟨m2, e2, hM2, f2⟩ := C_do (n := n1) (z := z1) (D := D1) (j := j) (r := r1) (pl := plw held cls) hw.1 (WS_le hw.2.1 (by omega)) (Or.inl rfl) h1.2.1 hk hk0 hc
    have h7 : sF (plw held cls) C P τ σ k a b 7 0 = σ 7 0 := by rw [sF_7 hk, if_neg hk0]
    have hl : lF (plw held cls) C P τ σ lg k = lg := if_neg hk0
    refine ⟨n1, z1, D1, m2, r1, ?_, b1, b2, b3, b4, ?_, FM_tr f1 ⟨fun a c1 c2 => f2 a (by omega), fun _ _ => rfl, fun _ _ => rfl⟩, fun e => absurd e hk0⟩
    · unfold f_X11_act f_X11_act_0
      refine ck_ok ?_ b1 b3
      simp (disch := omega) only [obs, cN_mk, ite_true, ite_false, if_true, if_false, q0, q39, e1, cA_mk b1 b3]
      refine ck_ok ?_ (Nat.le_refl _) (Nat.le_refl _)
      simp (disch := omega) only [obs, cN_mk, ite_true, ite_false, if_true, if_false, q0, l0, e2, ieq_f]
    · rw [hl]
      exact CI_now h1 hM2 h7 f2
/-! the model's -/
theorem M_remI (hw : WIv C P τ σ lg acts hs img σI lgI A held tx ln cls B pls dg sn sw) (hD : ∀ a, 1000000 ≤ a → D a = none) (h : MIv m j tp C P τ σ lg acts hs img σI lgI A held tx ln cls B pls dg sn sw) : ∃ m', f_X12_remember 72 (mkH n z D m j r) = some ((), mkH n z D m' j r) ∧ MIv m' j tp C P τ σ lg (min 40 (acts + 1)) (kp acts hs σ) img σI lgI A held tx ln cls B pls dg sn sw ∧ FN m m' j j r r := by
  obtain ⟨h1, h2, h3, h4⟩ := h
  obtain ⟨m', e, hH, f1, f2⟩ := M_remember (n := n) (z := z) (D := D) (j := j) (r := r) hw.1.1 hw.1.2.1 h4 h2 h3
  have hl : LMd A held tx ln cls m' j := (LMok_d (n := n) (z := z) hD hw.2.2.2.2.2.1).2.1 m m' j j h1.2.2.2.1 (fun a ha => f1 a (by omega) (by omega)) (f2 7 (by omega)) (f2 34 (by omega)) rfl
  exact ⟨m', e, ⟨MR_fr h1 (fun a ha => f1 a (by omega) (by omega)) (fun i hi => f2 i (by omega)) (fun q _ => by rw [f1 83 (by omega) (by omega)]) (fun q _ => by rw [f1 84 (by omega) (by omega)]) hl hw.2.2.2.2.2.2.1, by rw [f1 85 (by omega) (by omega)]; exact h2, by rw [f1 85 (by omega) (by omega)]; exact h3, hH⟩, ⟨fun a ha => f1 a (by omega) (by omega), fun _ _ => rfl⟩⟩
theorem MI_now (hWL : LMok n z D pl (LMd A held tx ln cls)) (hB : WPl B pls) (h : MIv m j tp C P τ σ lg acts hs img σI lgI A held tx ln cls B pls dg sn sw) (hM : MS (m' 85) σ' C P) (h7 : σ' 7 0 = σ 7 0) (hf : ∀ a, a ≠ 85 → m' a = m a) (hf2 : ∀ i, 31 ≤ i → m' 85 i = m 85 i) : MIv m' j tp C P τ σ' lg acts hs img σI lgI A held tx ln cls B pls dg sn sw := by
  obtain ⟨h1, h2, h3, h4⟩ := h
  have hl : LMd A held tx ln cls m' j := hWL.2.1 m m' j j h1.2.2.2.1 (fun a ha => hf a (by omega)) (by rw [hf 72 (by omega)]) (by rw [hf 72 (by omega)]) rfl
  exact ⟨MR_fr h1 (fun a ha => hf a (by omega)) (fun i hi => by rw [hf 72 (by omega)]) (fun q _ => by rw [hf 83 (by omega)]) (fun q _ => by rw [hf 84 (by omega)]) hl hB, hM, by rw [h7]; exact MLg_cg h3 (fun q hq _ => hf2 q hq) (fun _ _ => rfl), HM_fr h4 (by rw [hf 72 (by omega)]) (hf 90 (by omega)) (fun _ _ _ _ => rfl)⟩
theorem M_dayI (hW : WY C P τ) (hS : WS C P 998 σ) (hLM : LMok n z D (plw held cls) (LMd A held tx ln cls)) (hB : WPl B pls) (h : MIv m j tp C P τ σ lg acts hs img σI lgI A held tx ln cls B pls dg sn sw) (hg : ∀ k, k < acts → hs k 7 0 ≤ σ 7 0) : ∃ m' j' r', f_X12_goDay 72 85 (mkH n z D m j r) = some (Int32.ofNat (dy (plw held cls) C τ σ P).2.1, mkH n z D m' j' r') ∧ MIv m' j' tp C P τ (nxt (ax (plw held cls) C τ σ) P σ) (lgD lg (σ 7 0) (rwD (plw held cls) C P τ σ)) acts hs img σI lgI A held tx ln cls B pls dg sn sw ∧ FN m m' j j' r r' ∧ j' 72 = j 72 := by
  obtain ⟨h1, h2, h3, h4⟩ := h
  obtain ⟨m', j', r', e, hl, hf, hM, -, -, -, c31, crow⟩ := M_goDay (n := n) (z := z) (r := r) (cnt := min 60 (σ 7 0)) hLM (Or.inl rfl) hW (WS_le hS (by omega)) h1.2.2.2.1 h1.2.1 h2 (by omega) h3.1
  obtain ⟨g1, g2, g3, g4⟩ := hf
  refine ⟨m', j', r', e, ⟨MR_fr h1 (fun a ha => g1 a (by omega) (by omega) (by omega) (by omega) (by omega)) (fun i hi => g2 i (by omega) (by omega)) (fun q _ => by rw [g1 83 (by omega) (by omega) (by omega) (by omega) (by omega)]) (fun q _ => by rw [g1 84 (by omega) (by omega) (by omega) (by omega) (by omega)]) hl hB, hM, ⟨?_, fun i t ht hi => ?_⟩, HM_fr h4 (g2 43 (by omega) (by omega)) (g1 90 (by omega) (by omega) (by omega) (by omega) (by omega)) (fun k hk e he => if_neg (by have := hg k hk; omega))⟩, ⟨fun a ha => g1 a (by omega) (by omega) (by omega) (by omega) (by omega), g4⟩, g3 72 (by omega)⟩
  · rw [c31, nxt7]
    exact congrArg Int32.ofNat (by omega)
  · rw [nxt7] at hi ⊢
    rw [crow i t ht (by omega)]
    by_cases c1 : i + 1 = min 60 (min 60 (σ 7 0) + 1)
    · rw [if_pos c1]
      have : σ 7 0 + 1 - min 60 (σ 7 0 + 1) + i = σ 7 0 := by omega
      rw [this]
      unfold lgD
      rw [if_pos rfl]
      rfl
    · rw [if_neg c1]
      have ne : ¬ σ 7 0 + 1 - min 60 (σ 7 0 + 1) + i = σ 7 0 := by omega
      unfold lgD
      rw [if_neg ne]
      by_cases c2 : min 60 (σ 7 0) < 60
      · rw [if_pos c2, h3.2 i t ht (by omega), show σ 7 0 - min 60 (σ 7 0) + i = σ 7 0 + 1 - min 60 (σ 7 0 + 1) + i by omega]
      · rw [if_neg c2, h3.2 (i + 1) t ht (by omega), show σ 7 0 - min 60 (σ 7 0) + (i + 1) = σ 7 0 + 1 - min 60 (σ 7 0 + 1) + i by omega]
theorem M_mid (hw : WIv C P τ σ lg acts hs img σI lgI A held tx ln cls B pls dg sn sw) (ha : acts ≤ 40) : WIv C P τ σ lg (min 40 (acts + 1)) (kp acts hs σ) img σI lgI A held tx ln cls B pls dg sn sw := by
  obtain ⟨h1, h2, h3, h4, h5⟩ := hw
  exact ⟨h1, h2, h3, WH_kp h4 h2 ha ⟨by omega, by omega⟩, h5⟩
end ACT
