/-! Plans run apart; years by draws. -/
def rN (pl : Pl) (C P : Nat) (τ : Sg) (ps : List ST) (σ : Sg) : Nat → Sg
  | 0 => σ
  | i + 1 => sF pl C P τ (rN pl C P τ ps σ i) (ps.getD i (0, 0, 0)).1 (ps.getD i (0, 0, 0)).2.1 (ps.getD i (0, 0, 0)).2.2
def tk1 (pl : Pl) (C P : Nat) (τ σ : Sg) (k : Nat) : Nat := if k = 0 then popc (dy pl C τ σ P).2.1 else 0
section RUN
variable {n z : Nat} {D D' : Dyn} {m m' m1 : MI} {j j' j1 : MJ} {r r' r1 : MR} {tp tp' : TP} {C P : Nat} {τ σ σ' σ0 : Sg} {lg lg' : LG} {acts lt : Nat} {hs : Nat → Sg} {img : Bool} {σI : Sg} {lgI : LG} {A held held' : Nat} {tx : Nat → Nat → Nat} {ln : Nat → Nat} {cls : CLS} {B : Nat} {pls : Nat → List ST} {dg dg' sn sn' : Nat} {sw sw' : Nat → Nat → Nat} {x y : Int32} {k a b cnt : Nat} {pl : Pl} {LC : MI → MR → Prop} {LM : MI → MJ → Prop}
theorem popc_le {v : Nat} : popc v ≤ 6 := by
  have := sm_le (f := fun i => if v.testBit i = true then 1 else 0) (b := 1) 6 (fun i _ => by show (if v.testBit i = true then 1 else 0) ≤ 1; split <;> omega)
  unfold popc
  omega
theorem M_goStepT {R : Nat} (h : EM n z D pl LM m j C P τ σ0) (hS : WS C P 1998 σ) (hM : MS (m 86) σ C P) (hc : cnt ≤ 60) (h31 : m 86 31 = Int32.ofNat cnt) (hk : k ≤ 3) (hR : SR m R k a b) (hcb : cB C P σ k a b = true) : ∃ m' j' r', f_X12_goStep 72 86 (Int32.ofNat R) (mkH n z D m j r) = some (Int32.ofNat (tk1 pl C P τ σ k), mkH n z D m' j' r') ∧ EM n z D pl LM m' j' C P τ σ0 ∧ FQm m m' j j' r r' ∧ MS (m' 86) (sF pl C P τ σ k a b) C P ∧ (∃ c', c' ≤ 60 ∧ m' 86 31 = Int32.ofNat c') := by
  obtain ⟨hR1, r0, r1', r2'⟩ := hR
  have hW := h.1
  have hP := hW.2.1
  have fin : ∀ m', (∀ a, a ≠ 86 → m' a = m a) → EM n z D pl LM m' j C P τ σ0 ∧ FQm m m' j j r r := by
    intro m' hf
    have hq : FQm m m' j j r r := FQm_a (fun a ha _ => hf a ha)
    exact ⟨EM_q h hq (h.2.2.2.2.1.2.1 m m' j j h.2.2.2.2.2 (fun a ha => hf a (by omega)) (by rw [hf 72 (by omega)]) (by rw [hf 72 (by omega)]) rfl), hq⟩
  unfold f_X12_goStep f_X12_goStep_0 tk1
  rcases (show k = 0 ∨ k = 1 ∨ k = 2 ∨ k = 3 by omega) with rfl | rfl | rfl | rfl
  · obtain ⟨m', j', r', e, h1, f1, h2, h3, -⟩ := M_try (r := r) h hS hM hc h31
    have tk64 : (dy pl C τ σ P).2.1 < 64 := Nat.lt_of_lt_of_le (dy_lt (pl := pl) (σ := σ) hW P (Nat.le_refl P)).2.1 (pow6 hP)
    refine ⟨m', j', r', ?_, h1, f1, h2, ⟨_, by omega, h3⟩⟩
    rw [if_pos rfl]
    simp (disch := omega) only [obs, cN_mk, ite_true, ite_false, if_true, if_false, q72, p83, r0, l0, e, bc64]
  · obtain ⟨m', e, hM', f1, f2⟩ := M_lays (n := n) (z := z) (D := D) (j := j) (r := r) (pl := pl) (w := 86) (Or.inr rfl) hW (WS_le hS (by omega)) hM hcb
    rw [if_neg (by omega)] at r1'
    rw [if_pos rfl] at r2'
    obtain ⟨g1, g2⟩ := fin m' f1
    refine ⟨m', j, r, ?_, g1, g2, hM', ⟨cnt, hc, by rw [f2 31 (by omega)]; exact h31⟩⟩
    rw [if_neg (by omega)]
    simp (disch := omega) only [obs, cN_mk, ite_true, ite_false, if_true, if_false, q72, p83, r0, l0, l1, no1_e, bI_t, bI_f, ieq_f, ile_t, ile_f, ilt_t, ilt_f, l2, i_add, r1', r2', e]
  · obtain ⟨m', e, hM', f1, f2⟩ := M_renews (n := n) (z := z) (D := D) (j := j) (r := r) (pl := pl) (w := 86) (Or.inr rfl) hW (WS_le hS (by omega)) hM hcb
    rw [if_neg (by omega)] at r1'
    obtain ⟨g1, g2⟩ := fin m' f1
    refine ⟨m', j, r, ?_, g1, g2, hM', ⟨cnt, hc, by rw [f2 31 (by omega)]; exact h31⟩⟩
    rw [if_neg (by omega)]
    simp (disch := omega) only [obs, cN_mk, ite_true, ite_false, if_true, if_false, q72, p83, r0, l0, l1, no1_e, bI_t, bI_f, ieq_f, ile_t, ile_f, ilt_t, ilt_f, l2, i_add, r1', e]
  · have hc' := of_decide_eq_true hcb
    obtain ⟨m', e, hM', f1, f2⟩ := M_turns (n := n) (z := z) (D := D) (j := j) (r := r) (w := 86) (Or.inr rfl) hW (WS_le hS (by omega)) hM hc'
    rw [if_neg (by omega)] at r1'
    obtain ⟨g1, g2⟩ := fin m' f1
    refine ⟨m', j, r, ?_, g1, g2, hM', ⟨cnt, hc, by rw [f2 31 (by omega)]; exact h31⟩⟩
    rw [if_neg (by omega)]
    simp (disch := omega) only [obs, cN_mk, ite_true, ite_false, if_true, if_false, q72, p83, r0, l0, l1, no1_e, bI_t, bI_f, ieq_f, ile_t, ile_f, ilt_t, ilt_f, l2, i_add, r1', e]
theorem C_doT (h : EC n z D pl LC m r C P τ σ0) (hS : WS C P 1998 σ) (hM : CS m 33 σ C P) (hk : k ≤ 3) (hcb : cB C P σ k a b = true) : ∃ m', f_X11_doStep 0 33 (Int32.ofNat k) (Int32.ofNat a) (Int32.ofNat b) (mkH n z D m j r) = some ((), mkH n z D m' j r) ∧ EC n z D pl LC m' r C P τ σ0 ∧ FQc m m' ∧ CS m' 33 (sF pl C P τ σ k a b) C P ∧ (k = 0 → m' 52 3 = Int32.ofNat (dy pl C τ σ P).2.1) := by
  by_cases hk0 : k = 0
  · subst hk0
    obtain ⟨m', e, h1, f1, h2, h3, -⟩ := C_day33 (j := j) (x := Int32.ofNat a) (y := Int32.ofNat b) h (WS_le hS (by omega)) hM
    exact ⟨m', e, h1, f1, h2, fun _ => h3⟩
  · obtain ⟨m', e, h1, f1⟩ := C_do (n := n) (z := z) (D := D) (j := j) (r := r) (pl := pl) h.1 (WS_le hS (by omega)) (Or.inr rfl) hM hk hk0 hcb
    have hq : FQc m m' := ⟨fun a _ h3 _ _ _ => f1 a (by omega), fun i _ => by rw [f1 55 (by omega)]⟩
    exact ⟨m', e, EC_q h hq, hq, h1, fun e => absurd e hk0⟩
theorem WS_rN {ps : List ST} (hW : WY C P τ) (hS : WS C P 999 σ) (hok : ∀ s ∈ ps, okS s) : ∀ i, i ≤ ps.length → (∀ q, q < i → cB C P (rN pl C P τ ps σ q) (ps.getD q (0, 0, 0)).1 (ps.getD q (0, 0, 0)).2.1 (ps.getD q (0, 0, 0)).2.2 = true) → WS C P (999 + i) (rN pl C P τ ps σ i)
  | 0, _, _ => hS
  | i + 1, hi, h => by
    have ih := WS_rN hW hS hok i (by omega) (fun q hq => h q (by omega))
    have := WS_sF (pl := pl) hW ih (okS_at hok (show i < ps.length by omega)).1 (h i (by omega))
    rw [rN]
    split at this
    · exact this
    · exact WS_le this (by omega)
theorem Q_run (hw : WIv C P τ σ lg acts hs img σI lgI A held tx ln cls B pls dg sn sw) (hc : CIv n D m r tp C P τ σ lg acts lt hs img σI lgI A held cls B pls dg sn sw) (hm : EM n z D (plw held cls) (LMd A held tx ln cls) m1 j C P τ σ) (hv : MIv m1 j tp C P τ σ lg acts hs img σI lgI A held tx ln cls B pls dg sn sw) (x1 x2 : Int32) : QQ n z D (LMd A held tx ln cls) m j r m1 j r (f_X11_run 0 x1 x2) (f_X12_run 72 x1 x2) := by
  have hW := hw.1
  have hS := hw.2.1
  have hP := hW.2.1
  have hY := hc.1.2.1
  have hB := hw.2.2.2.2.2.2.1
  have hB4 := hB.1
  have hE := EC_of (z := z) hw hc
  obtain ⟨b1, b2⟩ := hc.1.2.2.2.2.1
  obtain ⟨v1, v2⟩ := hv.1.2.2.2.2.1
  cases i1 : im x1 0 B with
  | false =>
    refine ⟨noH, QC_e ?_, ?_⟩
    · unfold f_X11_run f_X11_run_0 f_X11_run_24
      simp (disch := omega) only [obs, cN_mk, ite_true, ite_false, if_true, if_false, q0, C_hasPlan b1, i1, l0, l1, no1_e, bI_t, bI_f, ieq_f, ile_t, ile_f, ilt_t, ilt_f, l1000000, noH_e]
    · unfold f_X12_run f_X12_run_0 f_X12_run_30
      refine QM_s hm fun m2 he h2 => QM_e h2 ?_
      have y30 : m2 72 30 = Int32.ofNat B := by rw [he, wI_sn (by omega)]; exact v1
      simp (disch := omega) only [obs, cN_mk, ite_true, ite_false, if_true, if_false, q72, M_isPlan y30, i1, l0, l1, no1_e, bI_t, bI_f, ieq_f, ile_t, ile_f, ilt_t, ilt_f, l1000000, noH_e]
  | true =>
    obtain ⟨p, -, hp, rfl⟩ := im_t (by omega) (by omega) i1
    by_cases hP0 : P = 0
    · refine ⟨noH, QC_e ?_, ?_⟩
      · unfold f_X11_run f_X11_run_0 f_X11_run_24
        simp (disch := omega) only [obs, cN_mk, ite_true, ite_false, if_true, if_false, q0, C_hasPlan b1, i1, l0, l1, no1_e, bI_t, bI_f, ieq_f, ile_t, ile_f, ilt_t, ilt_f, C_hasCity hY hP, hP0, Nat.lt_irrefl, decide_false, l1000000, noH_e]
      · unfold f_X12_run f_X12_run_0 f_X12_run_30
        refine QM_s hm fun m2 he h2 => QM_e h2 ?_
        have y30 : m2 72 30 = Int32.ofNat B := by rw [he, wI_sn (by omega)]; exact v1
        simp (disch := omega) only [obs, cN_mk, ite_true, ite_false, if_true, if_false, q72, M_isPlan y30, i1, l0, l1, no1_e, bI_t, bI_f, ieq_f, ile_t, ile_f, ilt_t, ilt_f, h2.2.2.1.2.1, hP0, l1000000, noH_e]
    have hd : decide (0 < P) = true := decide_eq_true (by omega)
    cases i2 : im x2 0 2 with
    | false =>
      refine ⟨noH, QC_e ?_, ?_⟩
      · unfold f_X11_run f_X11_run_0 f_X11_run_24
        simp (disch := omega) only [obs, cN_mk, ite_true, ite_false, if_true, if_false, q0, C_hasPlan b1, i1, l0, l1, no1_e, bI_t, bI_f, ieq_f, ile_t, ile_f, ilt_t, ilt_f, C_hasCity hY hP, hd, rng2, Nat.reduceAdd, i2, Bool.false_eq_true, l1000000, noH_e]
      · unfold f_X12_run f_X12_run_0 f_X12_run_30
        refine QM_s hm fun m2 he h2 => QM_e h2 ?_
        have y30 : m2 72 30 = Int32.ofNat B := by rw [he, wI_sn (by omega)]; exact v1
        simp (disch := omega) only [obs, cN_mk, ite_true, ite_false, if_true, if_false, q72, M_isPlan y30, i1, l0, l1, no1_e, bI_t, bI_f, ieq_f, ile_t, ile_f, ilt_t, ilt_f, h2.2.2.1.2.1, i64_0, i64_1, M_inK, Nat.reduceAdd, i2, l1000000, noH_e]
    | true =>
      obtain ⟨w, -, hw2, rfl⟩ := im_t (by omega) (by omega) i2
      obtain ⟨o, ho, hg⟩ := b2 p hp
      have hl := hB.2 p hp
      generalize hps : pls p = ps at *
      generalize hF : rN (plw held cls) C P τ ps σ = F
      have hF0 : F 0 = σ := by rw [← hF]; rfl
      have hFs : ∀ i, F (i + 1) = sF (plw held cls) C P τ (F i) (ps.getD i (0, 0, 0)).1 (ps.getD i (0, 0, 0)).2.1 (ps.getD i (0, 0, 0)).2.2 := fun i => by rw [← hF]; rfl
      generalize hT : sm (fun i => tk1 (plw held cls) C P τ (F i) (ps.getD i (0, 0, 0)).1) = T
      have hTs : ∀ i, T (i + 1) = T i + tk1 (plw held cls) C P τ (F i) (ps.getD i (0, 0, 0)).1 := fun i => by rw [← hT, sm]
      have hT0 : T 0 = 0 := by rw [← hT]; rfl
      generalize hf' : (fun i => cB C P (F i) (ps.getD i (0, 0, 0)).1 (ps.getD i (0, 0, 0)).2.1 (ps.getD i (0, 0, 0)).2.2) = f'
      have hf'i : ∀ i, f' i = cB C P (F i) (ps.getD i (0, 0, 0)).1 (ps.getD i (0, 0, 0)).2.1 (ps.getD i (0, 0, 0)).2.2 := fun i => by rw [← hf']
      generalize hQ : fq f' ps.length 0 = Q
      have hQle : Q ≤ ps.length := by have := fq_le (f := f') ps.length 0; omega
      have hWSi : ∀ i, i ≤ ps.length → (∀ q, q < i → f' q = true) → WS C P (999 + i) (F i) := by
        intro i hi h
        have := WS_rN (pl := plw held cls) hW hS hl.2.2 i hi (fun q hq => by rw [hF, ← hf'i]; exact h q hq)
        rw [hF] at this
        exact this
      refine ⟨if w = 0 then (if Q = ps.length then no1 else Int32.ofNat Q) else Int32.ofNat (T Q), ?_, ?_⟩
      · obtain ⟨m0, e0, h0, f0, hM0, -⟩ := C_cpy (j := j) hE
        have key : ∀ rem i fuel (mm : MI), i + rem = ps.length → rem + 1 < fuel → fq f' rem i = Q → (∀ q, q < i → f' q = true) → EC n z D (plw held cls) (LCd D A held cls) mm r C P τ σ → FQc m mm → CS mm 33 (F i) C P → QC n z D m j r (f_X11_run_54 fuel 0 (Int32.ofNat w) o (Int32.ofNat (T i)) no1 (Int32.ofNat i) (mkH n z D mm j r)) (if w = 0 then (if Q = ps.length then no1 else Int32.ofNat Q) else Int32.ofNat (T Q)) := by
          intro rem
          induction rem with
          | zero =>
            intro i fuel mm hi hf hq hall a1 a2 a3
            obtain ⟨f, rfl⟩ : ∃ f, fuel = f + 1 := ⟨fuel - 1, by omega⟩
            have hqi : i = Q := hq
            have hgm := PG_fr2 (m' := mm) hg (a2.1 o (by have := hg.2.2.1; omega) (by have := hg.2.2.1; omega) (by have := hg.2.2.1; omega) (by have := hg.2.2.1; omega) (by have := hg.2.2.1; omega)) rfl
            have hlen : aLen (mkH n z D mm j r) o = some (Int32.ofNat ps.length) := by
              have := hgm.1
              rw [List.length_map] at this
              exact aLen_mk this (by omega)
            refine ⟨mm, ?_, a2⟩
            rw [f_X11_run_54.eq_2, ← hqi]
            simp (disch := omega) only [obs, cN_mk, ite_true, ite_false, if_true, if_false, hlen, ile_t, f_X11_run_162]
            rw [if_pos (show i = ps.length by omega)]
            by_cases hw0 : w = 0
            · rw [if_pos hw0, if_pos (by rw [hw0]; rfl)]
            · rw [if_neg hw0, if_neg (show ¬ Int32.ofNat w = 0 from fun e => hw0 ((i_inj (by omega) (by omega)).mp (show Int32.ofNat w = Int32.ofNat 0 from e)))]
          | succ rem ih =>
            intro i fuel mm hi hf hq hall a1 a2 a3
            obtain ⟨f, rfl⟩ : ∃ f, fuel = f + 1 := ⟨fuel - 1, by omega⟩
            have hip : i < ps.length := by omega
            have hgm := PG_fr2 (m' := mm) hg (a2.1 o (by have := hg.2.2.1; omega) (by have := hg.2.2.1; omega) (by have := hg.2.2.1; omega) (by have := hg.2.2.1; omega) (by have := hg.2.2.1; omega)) rfl
            have hlen : aLen (mkH n z D mm j r) o = some (Int32.ofNat ps.length) := by
              have := hgm.1
              rw [List.length_map] at this
              exact aLen_mk this (by omega)
            have e3 := C_stepAt (n := n) (z := z) (D := D) (j := j) (r := r) hgm hip
            have ok := okS_at hl.2.2 hip
            obtain ⟨k1, k2, k3⟩ := cdS_d ok
            have hFi := hFs i
            have hTi := hTs i
            have hfi := hf'i i
            have hWS := hWSi i (by omega) hall
            rw [fq] at hq
            generalize ps.getD i (0, 0, 0) = s at *
            obtain ⟨o1, o2, o3⟩ := ok
            have cb := C_canBe (n := n) (z := z) (D := D) (j := j) (r := r) (k := s.1) (a := s.2.1) (b := s.2.2) hW (WS_le hWS (by omega)) a1.2.2.1 (Or.inr rfl) a3 o1 (by omega) (by omega)
            cases hcb : f' i with
            | false =>
              rw [← hfi, hcb] at cb
              rw [hcb] at hq
              have hqi : i = Q := hq
              refine ⟨mm, ?_, a2⟩
              obtain ⟨f2, rfl⟩ : ∃ f2, f = f2 + 1 := ⟨f - 1, by omega⟩
              have n3 : (Int32.ofNat i = no1) = False := eq_false (fun h => (no1_ne (by omega)).mp h)
              rw [f_X11_run_54.eq_2]
              simp (disch := omega) only [obs, cN_mk, ite_true, ite_false, if_true, if_false, hlen, ile_f, l0, l1, no1_e, bI_t, bI_f, ieq_f, ile_t, ile_f, ilt_t, ilt_f, e3, f_X11_kindOf, f_X11_kindOf_0, f_X11_firstOf, f_X11_firstOf_0, f_X11_secondOf, f_X11_secondOf_0, l100, l10, k1, k2, k3, q0, cb, f_X11_run_156]
              rw [f_X11_run_54.eq_2]
              have fin : f_X11_run_162 (Int32.ofNat w) (Int32.ofNat (T i)) (Int32.ofNat i) (mkH n z D mm j r) = some (if w = 0 then (if Q = ps.length then no1 else Int32.ofNat Q) else Int32.ofNat (T Q), mkH n z D mm j r) := by
                rw [← hqi]
                unfold f_X11_run_162
                rw [if_neg (show ¬ i = ps.length by omega)]
                by_cases hw0 : w = 0
                · rw [if_pos hw0, if_pos (by rw [hw0]; rfl)]
                · rw [if_neg hw0, if_neg (show ¬ Int32.ofNat w = 0 from fun e => hw0 ((i_inj (by omega) (by omega)).mp (show Int32.ofNat w = Int32.ofNat 0 from e)))]
              simp (disch := omega) only [obs, cN_mk, ite_true, ite_false, if_true, if_false, hlen, l1, no1_e, n3, fin, i_add, ite_self]
            | true =>
              rw [← hfi, hcb] at cb
              rw [hcb, if_pos rfl] at hq
              obtain ⟨m', e, c1, c2, c3, c4⟩ := C_doT (j := j) (k := s.1) (a := s.2.1) (b := s.2.2) a1 (WS_le hWS (by omega)) a3 o1 (by rw [← hfi]; exact hcb)
              obtain ⟨m9, e9, f9⟩ := ih (i + 1) f m' (by omega) (by omega) hq (fun q hq => by
                by_cases hqi : q = i
                · rw [hqi]; exact hcb
                · exact hall q (by omega)) c1 (FQc_tr a2 c2) (by rw [hFi]; exact c3)
              refine ⟨m9, ?_, f9⟩
              rw [← e9, f_X11_run_54.eq_2, hTi]
              unfold tk1
              by_cases hs0 : s.1 = 0
              · have c4 := c4 hs0
                have tk64 : (dy (plw held cls) C τ (F i) P).2.1 < 64 := Nat.lt_of_lt_of_le (dy_lt (pl := plw held cls) (σ := F i) hW P (Nat.le_refl P)).2.1 (pow6 hP)
                rw [hs0] at e cb k1
                rw [if_pos hs0]
                simp (disch := omega) only [obs, cN_mk, ite_true, ite_false, if_true, if_false, hlen, ile_f, l0, l1, no1_e, bI_t, bI_f, ieq_f, ile_t, ile_f, ilt_t, ilt_f, e3, f_X11_kindOf, f_X11_kindOf_0, f_X11_firstOf, f_X11_firstOf_0, f_X11_secondOf, f_X11_secondOf_0, l100, l10, k1, k2, k3, q0, cb, e, q52, c4, bc64, f_X11_run_146, f_X11_run_156, i_add]
              · rw [if_neg hs0]
                simp (disch := omega) only [obs, cN_mk, ite_true, ite_false, if_true, if_false, hlen, ile_f, l0, l1, no1_e, bI_t, bI_f, ieq_f, ile_t, ile_f, ilt_t, ilt_f, e3, f_X11_kindOf, f_X11_kindOf_0, f_X11_firstOf, f_X11_firstOf_0, f_X11_secondOf, f_X11_secondOf_0, l100, l10, k1, k2, k3, q0, cb, e, f_X11_run_146, f_X11_run_156, i_add]
        have := key ps.length 0 fu m0 (by omega) (by unfold fu; omega) hQ (fun q hq => absurd hq (by omega)) h0 f0 (by rw [hF0]; exact hM0)
        rw [hT0] at this
        unfold f_X11_run f_X11_run_0
        simp (disch := omega) only [obs, cN_mk, ite_true, ite_false, if_true, if_false, q0, C_hasPlan b1, i1, l0, l1, no1_e, bI_t, bI_f, ieq_f, ile_t, ile_f, ilt_t, ilt_f, C_hasCity hY hP, hd, p66, ho, q33, e0]
        exact this
      · unfold f_X12_run f_X12_run_0
        refine QM_s hm fun m2 he h2 => ?_
        have y30 : m2 72 30 = Int32.ofNat B := by rw [he, wI_sn (by omega)]; exact v1
        have y84 : m2 84 p = Int32.ofNat ps.length := by rw [he, wI_ne (by omega), ← hps]; exact (v2 p hp).1
        have hpl2 : PLm m2 B pls := by
          unfold PLm
          rw [he, wI_sn (by omega), wI_ne (by omega), wI_ne (by omega)]
          exact ⟨v1, v2⟩
        obtain ⟨m0, e0, h0, f0, hM0, h31, -⟩ := M_cpy (r := r) h2
        have key : ∀ rem i fuel (mm : MI) (jj : MJ) (rr : MR) (cnt : Nat), i + rem = ps.length → rem < fuel → fq f' rem i = Q → (∀ q, q < i → f' q = true) → EM n z D (plw held cls) (LMd A held tx ln cls) mm jj C P τ σ → FQm m2 mm j jj r rr → MS (mm 86) (F i) C P → cnt ≤ 60 → mm 86 31 = Int32.ofNat cnt → QM n z D (LMd A held tx ln cls) m2 j r (f_X12_run_50 fuel 72 (Int32.ofNat p) (Int32.ofNat w) (Int32.ofNat i) (Int32.ofNat (T i)) (mkH n z D mm jj rr)) (if w = 0 then (if Q = ps.length then no1 else Int32.ofNat Q) else Int32.ofNat (T Q)) := by
          have fin : ∀ i (mm : MI) (jj : MJ) (rr : MR), i = Q → FQm m2 mm j jj r rr → f_X12_run_106 72 (Int32.ofNat p) (Int32.ofNat w) (Int32.ofNat i) (Int32.ofNat (T i)) (mkH n z D mm jj rr) = some (if w = 0 then (if Q = ps.length then no1 else Int32.ofNat Q) else Int32.ofNat (T Q), mkH n z D mm jj rr) := by
            intro i mm jj rr hqi a2
            rw [← hqi]
            have y84' : mm 84 p = Int32.ofNat ps.length := by rw [a2.2.2.1 p (by omega)]; exact y84
            unfold f_X12_run_106
            by_cases hw0 : w = 0
            · subst hw0
              rw [if_pos rfl]
              by_cases hil : i = ps.length
              · rw [if_pos hil]
                simp (disch := omega) only [obs, cN_mk, ite_true, ite_false, if_true, if_false, l0, l1, no1_e, bI_t, bI_f, ieq_f, ile_t, ile_f, ilt_t, ilt_f, q72, p84, y84', hil]
              · rw [if_neg hil]
                simp (disch := omega) only [obs, cN_mk, ite_true, ite_false, if_true, if_false, l0, l1, no1_e, bI_t, bI_f, ieq_f, ile_t, ile_f, ilt_t, ilt_f, q72, p84, y84']
            · have hw1 : w = 1 := by omega
              subst hw1
              rw [if_neg hw0]
              simp (disch := omega) only [obs, cN_mk, ite_true, ite_false, if_true, if_false, l1]
          intro rem
          induction rem with
          | zero =>
            intro i fuel mm jj rr cnt hi hf hq hall a1 a2 a3 a4 a5
            obtain ⟨f, rfl⟩ : ∃ f, fuel = f + 1 := ⟨fuel - 1, by omega⟩
            have hqi : i = Q := hq
            have y84' : mm 84 p = Int32.ofNat ps.length := by rw [a2.2.2.1 p (by omega)]; exact y84
            refine ⟨mm, jj, rr, ?_, a1.2.2.2.2.2, a2⟩
            rw [f_X12_run_50.eq_2, ← fin i mm jj rr hqi a2]
            simp (disch := omega) only [obs, cN_mk, ite_true, ite_false, if_true, if_false, q72, p84, y84', ile_t]
          | succ rem ih =>
            intro i fuel mm jj rr cnt hi hf hq hall a1 a2 a3 a4 a5
            obtain ⟨f, rfl⟩ : ∃ f, fuel = f + 1 := ⟨fuel - 1, by omega⟩
            have hip : i < ps.length := by omega
            have y84' : mm 84 p = Int32.ofNat ps.length := by rw [a2.2.2.1 p (by omega)]; exact y84
            have hSR : SR mm (3 * (16 * p + i)) (ps.getD i (0, 0, 0)).1 (ps.getD i (0, 0, 0)).2.1 (ps.getD i (0, 0, 0)).2.2 := by
              have hs3 := SR_of hB hpl2 hp (by rw [hps]; exact hip)
              rw [hps] at hs3
              obtain ⟨g1, g2, g3, g4⟩ := hs3
              exact ⟨g1, by rw [a2.2.1 _ (by omega)]; exact g2, by rw [a2.2.1 _ (by omega)]; exact g3, by rw [a2.2.1 _ (by omega)]; exact g4⟩
            have ok := okS_at hl.2.2 hip
            have hFi := hFs i
            have hTi := hTs i
            have hfi := hf'i i
            have hWS := hWSi i (by omega) hall
            rw [fq] at hq
            generalize ps.getD i (0, 0, 0) = s at *
            obtain ⟨o1, o2, o3⟩ := ok
            have cb := M_canStep (n := n) (z := z) (D := D) (j := jj) (r := rr) (w := 86) (k := s.1) (a := s.2.1) (b := s.2.2) (Or.inr rfl) hW (WS_le hWS (by omega)) a1.2.2.1 a3 (by omega) o1 (by omega) (by omega) hSR
            cases hcb : f' i with
            | false =>
              rw [← hfi, hcb] at cb
              rw [hcb] at hq
              have hqi : i = Q := hq
              refine ⟨mm, jj, rr, ?_, a1.2.2.2.2.2, a2⟩
              rw [f_X12_run_50.eq_2, ← fin i mm jj rr hqi a2]
              simp (disch := omega) only [obs, cN_mk, ite_true, ite_false, if_true, if_false, q72, p84, y84', ile_f, l3, l16, i_mul, i_add, cb, l0, l1, no1_e, bI_t, bI_f, ieq_f, ile_t, ile_f, ilt_t, ilt_f]
            | true =>
              rw [← hfi, hcb] at cb
              rw [hcb, if_pos rfl] at hq
              obtain ⟨m', j', r', e, c1, c2, c3, ⟨c', c4, c5⟩⟩ := M_goStepT (r := rr) (k := s.1) (a := s.2.1) (b := s.2.2) a1 (WS_le hWS (by omega)) a3 a4 a5 o1 hSR (by rw [← hfi]; exact hcb)
              obtain ⟨m9, j9, r9, e9, l9', f9⟩ := ih (i + 1) f m' j' r' c' (by omega) (by omega) hq (fun q hq => by
                by_cases hqi : q = i
                · rw [hqi]; exact hcb
                · exact hall q (by omega)) c1 (FQm_tr a2 c2) (by rw [hFi]; exact c3) c4 c5
              refine ⟨m9, j9, r9, ?_, l9', f9⟩
              rw [← e9, f_X12_run_50.eq_2, hTi]
              simp (disch := omega) only [obs, cN_mk, ite_true, ite_false, if_true, if_false, q72, p84, y84', ile_f, l3, l16, i_mul, i_add, cb, l0, l1, no1_e, bI_t, bI_f, ieq_f, ile_t, ile_f, ilt_t, ilt_f, e]
        have := key ps.length 0 fu m0 j r 0 (by omega) (by unfold fu; omega) hQ (fun q hq => absurd hq (by omega)) h0 f0 (by rw [hF0]; exact hM0) (by omega) h31
        rw [hT0] at this
        simp (disch := omega) only [obs, cN_mk, ite_true, ite_false, if_true, if_false, q72, M_isPlan y30, i1, l0, l1, no1_e, bI_t, bI_f, ieq_f, ile_t, ile_f, ilt_t, ilt_f, h2.2.2.1.2.1, i64_0, i64_1, M_inK, Nat.reduceAdd, i2, e0]
        exact this
end RUN
