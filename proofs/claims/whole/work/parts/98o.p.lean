/-! The whole state, on both sides. -/
def IMc (m : MI) (C P : Nat) (img : Bool) (σI : Sg) (lgI : LG) : Prop := m 39 6 = bI img ∧ (img = true → CS m 42 σI C P ∧ RW (m 48) (σI 7 0) lgI)
def IMm (m : MI) (C P : Nat) (img : Bool) (σI : Sg) (lgI : LG) : Prop := m 72 49 = bI img ∧ (img = true → MS (m 93) σI C P ∧ MLg (m 93) (σI 7 0) lgI)
def PLc (D : Dyn) (m : MI) (r : MR) (B : Nat) (pls : Nat → List ST) : Prop := m 0 15 = Int32.ofNat B ∧ (∀ p, p < B → ∃ o, r 66 p = some o ∧ PG D m o ((pls p).map cdS))
def PLm (m : MI) (B : Nat) (pls : Nat → List ST) : Prop := m 72 30 = Int32.ofNat B ∧ (∀ p, p < B → m 84 p = Int32.ofNat (pls p).length ∧ (∀ i, i < (pls p).length → ∀ k, k < 3 → m 83 (3 * (16 * p + i) + k) = sv k ((pls p).getD i (0, 0, 0))))
def WPl (B : Nat) (pls : Nat → List ST) : Prop := B ≤ 4 ∧ (∀ p, p < B → 1 ≤ (pls p).length ∧ (pls p).length ≤ 16 ∧ (∀ s ∈ pls p, okS s))
def SNc (m : MI) (sn : Nat) (sw : Nat → Nat → Nat) : Prop := m 55 6 = Int32.ofNat sn ∧ (∀ k, k < sn → m 56 k = Int32.ofNat (sw 0 k) ∧ m 57 k = Int32.ofNat (sw 1 k) ∧ m 58 k = Int32.ofNat (sw 2 k) ∧ m 59 k = Int32.ofNat (sw 3 k))
def SNm (m : MI) (sn : Nat) (sw : Nat → Nat → Nat) : Prop := m 72 46 = Int32.ofNat sn ∧ (∀ k, k < sn → ∀ t, t < 4 → m 91 (4 * k + t) = Int32.ofNat (sw t k))
def WSn (P sn : Nat) (sw : Nat → Nat → Nat) : Prop := sn ≤ 10 ∧ (∀ k, k < sn → sw 0 k < P ∧ (1 ≤ sw 1 k ∧ sw 1 k ≤ 9) ∧ (1 ≤ sw 2 k ∧ sw 2 k ≤ 3) ∧ sw 3 k ≤ 1)
def CRv (D : Dyn) (m : MI) (r : MR) (tp : TP) (C P : Nat) (τ : Sg) (img : Bool) (σI : Sg) (lgI : LG) (A held : Nat) (cls : CLS) (B : Nat) (pls : Nat → List ST) (dg sn : Nat) (sw : Nat → Nat → Nat) : Prop := TC m tp.1 tp.2 ∧ YC m C P τ ∧ IMc m C P img σI lgI ∧ LCd D A held cls m r ∧ PLc D m r B pls ∧ m 0 17 = Int32.ofNat dg ∧ SNc m sn sw
def CIv (n : Nat) (D : Dyn) (m : MI) (r : MR) (tp : TP) (C P : Nat) (τ σ : Sg) (lg : LG) (acts lt : Nat) (hs : Nat → Sg) (img : Bool) (σI : Sg) (lgI : LG) (A held : Nat) (cls : CLS) (B : Nat) (pls : Nat → List ST) (dg sn : Nat) (sw : Nat → Nat → Nat) : Prop := CRv D m r tp C P τ img σI lgI A held cls B pls dg sn sw ∧ CS m 27 σ C P ∧ RW (m 41) (σ 7 0) lg ∧ HC m r C P acts lt hs lg ∧ DW n D r A B
def MRv (m : MI) (j : MJ) (tp : TP) (C P : Nat) (τ : Sg) (img : Bool) (σI : Sg) (lgI : LG) (A held : Nat) (tx : Nat → Nat → Nat) (ln : Nat → Nat) (cls : CLS) (B : Nat) (pls : Nat → List ST) (dg sn : Nat) (sw : Nat → Nat → Nat) : Prop := TMd m tp ∧ YM m C P τ ∧ IMm m C P img σI lgI ∧ LMd A held tx ln cls m j ∧ PLm m B pls ∧ m 72 35 = Int32.ofNat dg ∧ SNm m sn sw
def MIv (m : MI) (j : MJ) (tp : TP) (C P : Nat) (τ σ : Sg) (lg : LG) (acts : Nat) (hs : Nat → Sg) (img : Bool) (σI : Sg) (lgI : LG) (A held : Nat) (tx : Nat → Nat → Nat) (ln : Nat → Nat) (cls : CLS) (B : Nat) (pls : Nat → List ST) (dg sn : Nat) (sw : Nat → Nat → Nat) : Prop := MRv m j tp C P τ img σI lgI A held tx ln cls B pls dg sn sw ∧ MS (m 85) σ C P ∧ MLg (m 85) (σ 7 0) lg ∧ HM m C P acts hs lg
def WIv (C P : Nat) (τ σ : Sg) (lg : LG) (acts : Nat) (hs : Nat → Sg) (img : Bool) (σI : Sg) (lgI : LG) (A held : Nat) (tx : Nat → Nat → Nat) (ln : Nat → Nat) (cls : CLS) (B : Nat) (pls : Nat → List ST) (dg sn : Nat) (sw : Nat → Nat → Nat) : Prop := WY C P τ ∧ WS C P 999 σ ∧ (∀ e, okL (lg e)) ∧ WH C P acts hs σ ∧ (img = true → WS C P 999 σI ∧ ∀ e, okL (lgI e)) ∧ WL A held tx ln cls ∧ WPl B pls ∧ dg ≤ 9 ∧ WSn P sn sw
section WHOLE
variable {n z : Nat} {D D' : Dyn} {m m' : MI} {j j' : MJ} {r r' : MR} {tp : TP} {C P : Nat} {τ σ σ' : Sg} {lg lg' : LG} {acts lt : Nat} {hs : Nat → Sg} {img : Bool} {σI : Sg} {lgI : LG} {A held : Nat} {tx : Nat → Nat → Nat} {ln : Nat → Nat} {cls : CLS} {B : Nat} {pls : Nat → List ST} {dg sn : Nat} {sw : Nat → Nat → Nat} {x y : Int32}
theorem PG_fr2 {o : Nat} {code : List Nat} (h : PG D m o code) (h1 : m' o = m o) (h2 : D' o = D o) : PG D' m' o code := by
  obtain ⟨a1, a2, a3, a4⟩ := h
  exact ⟨by rw [SHP_lt (fun _ => h2)]; exact a1, a2, a3, by rw [h1]; exact a4⟩
theorem CR_fr (h : CRv D m r tp C P τ img σI lgI A held cls B pls dg sn sw) (hD : DW n D r A B) (f1 : ∀ a, a ≤ 2 ∨ (18 ≤ a ∧ a ≤ 26) ∨ (42 ≤ a ∧ a ≤ 48) ∨ (56 ≤ a ∧ a ≤ 59) → m' a = m a) (f5 : ∀ i, i ≠ 8 → m' 55 i = m 55 i) (f2 : m' 39 6 = m 39 6) (f3 : ∀ a, a ≠ 40 → r' a = r a) (f4 : ∀ o, o < n → 95 ≤ o → NS D o → m' o = m o ∧ D' o = D o) : CRv D' m' r' tp C P τ img σI lgI A held cls B pls dg sn sw := by
  obtain ⟨h1, h2, h3, h4, h5, h6, h7⟩ := h
  obtain ⟨d1, d2, d3, d4, d5, d6, d7⟩ := hD
  refine ⟨?_, YC_fr h2 (fun a ha => f1 a (by omega)), ⟨by rw [f2]; exact h3.1, fun hi => ⟨CS_fr (h3.2 hi).1 (fun a ha => f1 a (by omega)), by rw [f1 48 (by omega)]; exact (h3.2 hi).2⟩⟩, ⟨by rw [f1 0 (by omega)]; exact h4.1, by rw [f1 0 (by omega)]; exact h4.2.1, fun l hl => ?_, by rw [f3 49 (by omega), f3 61 (by omega)]; exact h4.2.2.2⟩, ⟨by rw [f1 0 (by omega)]; exact h5.1, fun p hp => ?_⟩, by rw [f1 0 (by omega)]; exact h6, ⟨by rw [f5 6 (by omega)]; exact h7.1, by rw [f1 56 (by omega), f1 57 (by omega), f1 58 (by omega), f1 59 (by omega)]; exact h7.2⟩⟩
  · unfold TC
    rw [f1 1 (by omega), f1 2 (by omega)]
    exact h1
  · obtain ⟨o, e, hg⟩ := h4.2.2.1 l hl
    have := d5 l hl o e
    have f := f4 o this.1 this.2.1 this.2.2
    exact ⟨o, by rw [f3 61 (by omega)]; exact e, PG_fr2 hg f.1 f.2⟩
  · obtain ⟨o, e, hg⟩ := h5.2 p hp
    have := d6 p hp o e
    have f := f4 o this.1 this.2.1 this.2.2
    exact ⟨o, by rw [f3 66 (by omega)]; exact e, PG_fr2 hg f.1 f.2⟩
theorem HC_fr (h : HC m r C P acts lt hs lg) (hD : DW n D r A B) (f1 : m' 39 1 = m 39 1) (f2 : m' 39 2 = m 39 2) (f3 : ∀ a, 95 ≤ a → m' a = m a) (f4 : ∀ k, k < acts → RW (m 41) (hs k 7 0) lg → RW (m' 41) (hs k 7 0) lg') : HC m' r C P acts lt hs lg' := by
  obtain ⟨h1, h2, h3, h4, h5⟩ := h
  refine ⟨by rw [f2]; exact h1, by rw [f1]; exact h2, h3, h4, fun k hk => ?_⟩
  obtain ⟨⟨s, a1, a2⟩, a3⟩ := h5 k hk
  have := hD.2.2.1 _ (by unfold slt; omega) s a1
  exact ⟨⟨s, a1, CS_fr a2 (fun a ha => f3 a (by omega))⟩, f4 k hk a3⟩
/-- what a question may change leaves the class's state -/
theorem CI_q (h : CIv n D m r tp C P τ σ lg acts lt hs img σI lgI A held cls B pls dg sn sw) (hf : FQc m m') : CIv n D m' r tp C P τ σ lg acts lt hs img σI lgI A held cls B pls dg sn sw := by
  obtain ⟨h1, h2, h3, h4, h5⟩ := h
  have g : ∀ a, ¬ (3 ≤ a ∧ a ≤ 17) → ¬ (33 ≤ a ∧ a ≤ 38) → ¬ (49 ≤ a ∧ a ≤ 55) → a ≠ 60 → a ≠ 71 → m' a = m a := hf.1
  refine ⟨CR_fr (n := n) h1 h5 (fun a ha => g a (by omega) (by omega) (by omega) (by omega) (by omega)) hf.2 (by rw [g 39 (by omega) (by omega) (by omega) (by omega) (by omega)]) (fun _ _ => rfl) (fun o _ ho _ => ⟨g o (by omega) (by omega) (by omega) (by omega) (by omega), rfl⟩), CS_fr h2 (fun a ha => g a (by omega) (by omega) (by omega) (by omega) (by omega)), by rw [g 41 (by omega) (by omega) (by omega) (by omega) (by omega)]; exact h3, HC_fr h4 h5 (by rw [g 39 (by omega) (by omega) (by omega) (by omega) (by omega)]) (by rw [g 39 (by omega) (by omega) (by omega) (by omega) (by omega)]) (fun a ha => g a (by omega) (by omega) (by omega) (by omega) (by omega)) (fun k _ hr => by rw [g 41 (by omega) (by omega) (by omega) (by omega) (by omega)]; exact hr), h5⟩
/-- what the model changes leaves the class's state -/
theorem CI_m (h : CIv n D m r tp C P τ σ lg acts lt hs img σI lgI A held cls B pls dg sn sw) (hf : ∀ a, ¬ (72 ≤ a ∧ a < 95) → m' a = m a) (hr : ∀ a, a ≠ 72 → r' a = r a) : CIv n D m' r' tp C P τ σ lg acts lt hs img σI lgI A held cls B pls dg sn sw := by
  obtain ⟨h1, h2, h3, h4, h5⟩ := h
  have e40 := hr 40 (by omega)
  have e61 := hr 61 (by omega)
  have e66 := hr 66 (by omega)
  have e49 := hr 49 (by omega)
  have h5' : DW n D r' A B := by
    unfold DW
    rw [e40, e61, e66]
    exact h5
  refine ⟨?_, CS_fr h2 (fun a ha => hf a (by omega)), by rw [hf 41 (by omega)]; exact h3, ?_, h5'⟩
  · obtain ⟨a1, a2, a3, a4, a5, a6, a7⟩ := CR_fr (n := n) (r' := r) (D' := D) h1 h5 (m' := m') (fun a ha => hf a (by omega)) (fun i _ => by rw [hf 55 (by omega)]) (by rw [hf 39 (by omega)]) (fun _ _ => rfl) (fun o _ ho _ => ⟨hf o (by omega), rfl⟩)
    refine ⟨a1, a2, a3, ?_, ?_, a6, a7⟩
    · unfold LCd
      rw [e61, e49]
      exact a4
    · unfold PLc
      rw [e66]
      exact a5
  · have := HC_fr (m' := m') (lg' := lg) h4 h5 (by rw [hf 39 (by omega)]) (by rw [hf 39 (by omega)]) (fun a ha => hf a (by omega)) (fun k _ hr => by rw [hf 41 (by omega)]; exact hr)
    unfold HC
    rw [e40]
    exact this
theorem MR_fr (h : MRv m j tp C P τ img σI lgI A held tx ln cls B pls dg sn sw) (f1 : ∀ a, a = 73 ∨ a = 77 ∨ a = 81 ∨ a = 91 ∨ a = 93 → m' a = m a) (f2 : ∀ i, i = 6 ∨ i = 26 ∨ i = 27 ∨ i = 30 ∨ i = 35 ∨ i = 46 ∨ i = 49 → m' 72 i = m 72 i) (f3 : ∀ q, q < 192 → m' 83 q = m 83 q) (f4 : ∀ q, q ≠ 4 → m' 84 q = m 84 q) (hl : LMd A held tx ln cls m' j') (hB : WPl B pls) : MRv m' j' tp C P τ img σI lgI A held tx ln cls B pls dg sn sw := by
  obtain ⟨h1, h2, h3, h4, h5, h6, h7⟩ := h
  refine ⟨⟨by rw [f2 6 (by omega)]; exact h1.1, by rw [f1 73 (by omega)]; exact h1.2⟩, YM_fr h2 (f1 77 (by omega)) (f1 81 (by omega)) (f2 26 (by omega)) (f2 27 (by omega)), ⟨by rw [f2 49 (by omega)]; exact h3.1, by rw [f1 93 (by omega)]; exact h3.2⟩, hl, ⟨by rw [f2 30 (by omega)]; exact h5.1, fun p hp => ⟨by rw [f4 p (by have := hB.1; omega)]; exact (h5.2 p hp).1, fun i hi k hk => by rw [f3 _ (by have := hB.1; have := (hB.2 p hp).2.1; omega)]; exact (h5.2 p hp).2 i hi k hk⟩⟩, by rw [f2 35 (by omega)]; exact h6, ⟨by rw [f2 46 (by omega)]; exact h7.1, by rw [f1 91 (by omega)]; exact h7.2⟩⟩
theorem HM_fr (h : HM m C P acts hs lg) (f1 : m' 72 43 = m 72 43) (f2 : m' 90 = m 90) (f3 : ∀ k, k < acts → ∀ e, e < hs k 7 0 → lg' e = lg e) : HM m' C P acts hs lg' := by
  obtain ⟨h1, h2, h3⟩ := h
  refine ⟨by rw [f1]; exact h1, h2, fun k hk => ?_⟩
  rw [f2]
  exact ⟨(h3 k hk).1, MLg_cg (h3 k hk).2 (fun _ _ _ => rfl) (f3 k hk)⟩
theorem MI_q (h : MIv m j tp C P τ σ lg acts hs img σI lgI A held tx ln cls B pls dg sn sw) (hf : FQm m m' j j' r r') (hl : LMd A held tx ln cls m' j') (hB : WPl B pls) : MIv m' j' tp C P τ σ lg acts hs img σI lgI A held tx ln cls B pls dg sn sw := by
  obtain ⟨h1, h2, h3, h4⟩ := h
  obtain ⟨g1, g2, g3, g4, -, -⟩ := hf
  exact ⟨MR_fr h1 (fun a ha => g1 a (by omega)) (fun i hi => g4 i (by omega) (by omega) (by omega) (by omega) (by omega) (by omega)) g2 g3 hl hB, by rw [g1 85 (by omega)]; exact h2, by rw [g1 85 (by omega)]; exact h3, HM_fr h4 (g4 43 (by omega) (by omega) (by omega) (by omega) (by omega) (by omega)) (g1 90 (by omega)) (fun _ _ _ _ => rfl)⟩
/-- what the class changes leaves the model's state -/
theorem MI_c (h : MIv m j tp C P τ σ lg acts hs img σI lgI A held tx ln cls B pls dg sn sw) (hf : ∀ a, 72 ≤ a → a < 95 → m' a = m a) (hj : j' 87 = j 87) : MIv m' j' tp C P τ σ lg acts hs img σI lgI A held tx ln cls B pls dg sn sw := by
  obtain ⟨⟨h1, h2, h3, h4, h5, h6, h7⟩, h8, h9, h10⟩ := h
  have e := fun a h1 h2 => hf a h1 h2
  have l72 := e 72 (by omega) (by omega)
  refine ⟨⟨?_, YM_fr h2 (e 77 (by omega) (by omega)) (e 81 (by omega) (by omega)) (by rw [l72]) (by rw [l72]), ?_, ?_, ?_, by rw [l72]; exact h6, ?_⟩, by rw [e 85 (by omega) (by omega)]; exact h8, by rw [e 85 (by omega) (by omega)]; exact h9, HM_fr h10 (by rw [l72]) (e 90 (by omega) (by omega)) (fun _ _ _ _ => rfl)⟩
  · unfold TMd
    rw [l72, e 73 (by omega) (by omega)]
    exact h1
  · unfold IMm
    rw [l72, e 93 (by omega) (by omega)]
    exact h3
  · unfold LMd LT
    rw [l72, e 74 (by omega) (by omega), e 75 (by omega) (by omega), e 76 (by omega) (by omega), e 88 (by omega) (by omega), hj]
    exact h4
  · unfold PLm
    rw [l72, e 83 (by omega) (by omega), e 84 (by omega) (by omega)]
    exact h5
  · unfold SNm
    rw [l72, e 91 (by omega) (by omega)]
    exact h7
theorem EC_of (hw : WIv C P τ σ lg acts hs img σI lgI A held tx ln cls B pls dg sn sw) (h : CIv n D m r tp C P τ σ lg acts lt hs img σI lgI A held cls B pls dg sn sw) : EC n z D (plw held cls) (LCd D A held cls) m r C P τ σ := ⟨hw.1, hw.2.1, h.1.2.1, h.2.1, LCok_d hw.2.2.2.2.2.1, h.1.2.2.2.1⟩
theorem EM_of (hD : ∀ a, 1000000 ≤ a → D a = none) (hw : WIv C P τ σ lg acts hs img σI lgI A held tx ln cls B pls dg sn sw) (h : MIv m j tp C P τ σ lg acts hs img σI lgI A held tx ln cls B pls dg sn sw) : EM n z D (plw held cls) (LMd A held tx ln cls) m j C P τ σ := ⟨hw.1, hw.2.1, h.1.2.1, h.2.1, LMok_d hD hw.2.2.2.2.2.1, h.1.2.2.2.1⟩
/-- all that holds between two calls -/
def INV (n : Nat) (D : Dyn) (m : MI) (j : MJ) (r : MR) : Prop := ∃ tp C P τ σ lg acts lt hs img σI lgI A held tx ln cls B pls dg sn sw, WIv C P τ σ lg acts hs img σI lgI A held tx ln cls B pls dg sn sw ∧ CIv n D m r tp C P τ σ lg acts lt hs img σI lgI A held cls B pls dg sn sw ∧ MIv m j tp C P τ σ lg acts hs img σI lgI A held tx ln cls B pls dg sn sw
/-- a call of both: they answer alike, and all holds again -/
def CALX (d e n z : Nat) (D : Dyn) (m : MI) (j : MJ) (r : MR) (cf mf : AH → Option (Int32 × AH)) : Prop := ∃ v n' z' D' m' j' r' m'' j'' r'', cf (mkH n z D m j r) = some (v, mkH n' z' D' m' j' r') ∧ mf (mkH n' z' D' m' j' r') = some (v, mkH n' z' D' m'' j'' r'') ∧ (n ≤ n' ∧ n' ≤ n + d) ∧ (z ≤ z' ∧ z' ≤ z + e) ∧ INV n' D' m'' j'' r''
abbrev CALL (n z : Nat) (D : Dyn) (m : MI) (j : MJ) (r : MR) (cf mf : AH → Option (Int32 × AH)) : Prop := CALX 180 1080 n z D m j r cf mf
/-- what the class leaves of the model's -/
def FM (m m' : MI) (j j' : MJ) (r r' : MR) : Prop := (∀ a, 72 ≤ a → a < 95 → m' a = m a) ∧ (∀ a, a ≠ 0 → j' a = j a) ∧ (∀ a, a ≠ 40 → r' a = r a)
def FN (m m' : MI) (j j' : MJ) (r r' : MR) : Prop := (∀ a, ¬ (72 ≤ a ∧ a < 95) → m' a = m a) ∧ (∀ a, a ≠ 72 → r' a = r a)
theorem FM_q (h : FQc m m') : FM m m' j j r r := ⟨fun a h1 h2 => h.1 a (by omega) (by omega) (by omega) (by omega) (by omega), fun _ _ => rfl, fun _ _ => rfl⟩
theorem FN_q (h : FQm m m' j j' r r') : FN m m' j j' r r' := ⟨fun a ha => h.1 a (by omega), h.2.2.2.2.2⟩
theorem FN_tr {m'' : MI} {j'' : MJ} {r'' : MR} (h : FN m m' j j' r r') (h' : FN m' m'' j' j'' r' r'') : FN m m'' j j'' r r'' := ⟨fun a ha => (h'.1 a ha).trans (h.1 a ha), fun a ha => (h'.2 a ha).trans (h.2 a ha)⟩
theorem FM_tr {m'' : MI} {j'' : MJ} {r'' : MR} (h : FM m m' j j' r r') (h' : FM m' m'' j' j'' r' r'') : FM m m'' j j'' r r'' := ⟨fun a h1 h2 => (h'.1 a h1 h2).trans (h.1 a h1 h2), fun a ha => (h'.2.1 a ha).trans (h.2.1 a ha), fun a ha => (h'.2.2 a ha).trans (h.2.2 a ha)⟩
/-- a question -/
theorem CALL_q {d e : Nat} {cf mf : AH → Option (Int32 × AH)} (hw : WIv C P τ σ lg acts hs img σI lgI A held tx ln cls B pls dg sn sw) (hc : CIv n D m r tp C P τ σ lg acts lt hs img σI lgI A held cls B pls dg sn sw) (hv : MIv m j tp C P τ σ lg acts hs img σI lgI A held tx ln cls B pls dg sn sw) (h : ∀ m1, EM n z D (plw held cls) (LMd A held tx ln cls) m1 j C P τ σ → MIv m1 j tp C P τ σ lg acts hs img σI lgI A held tx ln cls B pls dg sn sw → QQ n z D (LMd A held tx ln cls) m j r m1 j r cf mf) (hn : n ≤ 1000000) : CALX d e n z D m j r cf mf := by
  have hD : ∀ a, 1000000 ≤ a → D a = none := fun a ha => hc.2.2.2.2.2.1 a (by omega)
  obtain ⟨v, ⟨m', e1, f1⟩, -⟩ := h m (EM_of hD hw hv) hv
  have hv' : MIv m' j tp C P τ σ lg acts hs img σI lgI A held tx ln cls B pls dg sn sw := MI_c hv (FM_q (j := j) (r := r) f1).1 rfl
  obtain ⟨v2, ⟨m'2, e1', -⟩, ⟨m'', j'', r'', e2, hl, f2⟩⟩ := h m' (EM_of hD hw hv') hv'
  rw [e1] at e1'
  have hvv : v = v2 := by
    have := Option.some.inj e1'
    exact congrArg Prod.fst this
  subst hvv
  exact ⟨v, n, z, D, m', j, r, m'', j'', r'', e1, e2, ⟨by omega, by omega⟩, ⟨by omega, by omega⟩, tp, C, P, τ, σ, lg, acts, lt, hs, img, σI, lgI, A, held, tx, ln, cls, B, pls, dg, sn, sw, hw, CI_m (CI_q hc f1) (FN_q f2).1 (FN_q f2).2, MI_q hv' f2 hl hw.2.2.2.2.2.2.1⟩
end WHOLE
