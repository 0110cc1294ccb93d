/-! Baits. -/
def cr (C e c : Nat) : Nat := e / 2 ^ (2 * (C - 1 - c)) % 4
/-- the first q corners bear the row's crumbs -/
def rwS (C e q : Nat) (σ : Sg) : Sg := fun k i => if k = 0 ∧ i < q then cr C e i else σ k i
def dgt (C e : Nat) : Nat → Nat
  | 0 => 0
  | c + 1 => dgt C e c * 10 + cr C e c
def lad (C e : Nat) : Nat → Nat
  | 0 => 0
  | c + 1 => lad C e c + (if cr C e c = 0 then 0 else 1)
def tkE (pl : Pl) (C P : Nat) (τ σ : Sg) (e : Nat) : Nat := (dy pl C τ (rwS C e C σ) P).2.1
def oth (pl : Pl) (C P : Nat) (τ σ : Sg) (S e : Nat) : Nat := popc (tkE pl C P τ σ e &&& (63 ^^^ S))
def cst (pl : Pl) (C P : Nat) (τ σ : Sg) (S e : Nat) : Nat := oth pl C P τ σ S e * 10 + lad C e C
/-- the best row so far, and one; or nought -/
def bs (pl : Pl) (C P : Nat) (τ σ : Sg) (S : Nat) : Nat → Nat
  | 0 => 0
  | e + 1 => if tkE pl C P τ σ e &&& S = S ∧ (bs pl C P τ σ S e = 0 ∨ cst pl C P τ σ S e < cst pl C P τ σ S (bs pl C P τ σ S e - 1)) then e + 1 else bs pl C P τ σ S e
theorem cr_le {C e c : Nat} : cr C e c ≤ 3 := by
  unfold cr
  have := Nat.mod_lt (e / 2 ^ (2 * (C - 1 - c))) (show 0 < 4 by omega)
  omega
theorem lad_le {C e : Nat} : ∀ c, lad C e c ≤ c
  | 0 => Nat.le_refl _
  | c + 1 => by
    have := lad_le (C := C) (e := e) c
    rw [lad]
    split <;> omega
theorem dgt_le {C e : Nat} : ∀ c, c ≤ 5 → dgt C e c < 10 ^ c
  | 0, _ => by simp [dgt]
  | c + 1, h => by
    have := dgt_le (C := C) (e := e) c (by omega)
    have := cr_le (C := C) (e := e) (c := c)
    rw [dgt, Nat.pow_succ]
    omega
theorem set64 {T S : Nat} (hT : T < 64) (hS : S < 64) : (Int32.ofNat T &&& (Int32.ofNat S ^^^ no1) = Int32.ofNat (T &&& (63 ^^^ S))) ∧ ((Int32.ofNat T &&& Int32.ofNat S = Int32.ofNat S) ↔ T &&& S = S) ∧ ((Int32.ofNat S &&& (Int32.ofNat T ^^^ no1) = Int32.ofNat 0) ↔ T &&& S = S) ∧ T &&& (63 ^^^ S) < 64 := by
  have : ∀ T, T < 64 → ∀ S, S < 64 → (Int32.ofNat T &&& (Int32.ofNat S ^^^ no1) = Int32.ofNat (T &&& (63 ^^^ S))) ∧ ((Int32.ofNat T &&& Int32.ofNat S = Int32.ofNat S) ↔ T &&& S = S) ∧ ((Int32.ofNat S &&& (Int32.ofNat T ^^^ no1) = Int32.ofNat 0) ↔ T &&& S = S) ∧ T &&& (63 ^^^ S) < 64 := by decide +kernel
  exact this T hT S hS
theorem cr_i {C e c : Nat} (hC : C ≤ 5) (hc : c < C) (he : e < 2000) : (Int32.ofNat e >>> ((Int32.ofNat 2 * ((Int32.ofNat C - Int32.ofNat 1) - Int32.ofNat c)) &&& Int32.ofNat 31)) &&& Int32.ofNat 3 = Int32.ofNat (cr C e c) := by
  rw [i_sub (by omega), i_sub (by omega), i_mul, i_shr (by omega) (by omega), i_and]
  have : ∀ v, v &&& 3 = v % 4 := fun v => Nat.and_two_pow_sub_one_eq_mod v 2
  rw [this]
  rfl
theorem i_not3 : (3 : Int32) = Int32.ofNat 3 := rfl
section BAITS
variable {n z : Nat} {D : Dyn} {m m1 m' : MI} {j j1 j' : MJ} {r r1 r' : MR} {pl : Pl} {LC : MI → MR → Prop} {LM : MI → MJ → Prop} {C P : Nat} {τ σ σ0 κ : Sg} {w p c s e S : Nat} {x y : Int32}
theorem WS_rw {d q : Nat} (hS : WS C P d σ) : WS C P d (rwS C e q σ) := by
  obtain ⟨a1, a2, a5, a6, a7⟩ := hS
  have n0 : ∀ k i, k ≠ 0 → rwS C e q σ k i = σ k i := fun k i h => if_neg (fun x => h x.1)
  refine ⟨fun c hc => ⟨?_, by rw [n0 _ _ (by omega)]; exact (a1 c hc).2⟩, fun p hp => ⟨by rw [n0 _ _ (by omega)]; exact (a2 p hp).1, by rw [n0 _ _ (by omega)]; exact (a2 p hp).2.1, by rw [n0 _ _ (by omega)]; exact (a2 p hp).2.2⟩, by rw [n0 _ _ (by omega)]; exact a5, by rw [n0 _ _ (by omega)]; exact a6, by rw [n0 _ _ (by omega)]; exact a7⟩
  unfold rwS
  split
  · exact cr_le
  · exact (a1 c hc).1
theorem rw_s {q : Nat} : uS (rwS C e q σ) 0 q (cr C e q) = rwS C e (q + 1) σ := by
  funext k i
  unfold uS rwS
  by_cases h : k = 0 ∧ i = q
  · rw [if_pos h, if_pos ⟨h.1, by omega⟩, h.2]
  · rw [if_neg h]
    by_cases h2 : k = 0 ∧ i < q
    · rw [if_pos h2, if_pos ⟨h2.1, by omega⟩]
    · rw [if_neg h2, if_neg (fun x => h2 ⟨x.1, by
        have : ¬ i = q := fun e => h ⟨x.1, e⟩
        omega⟩)]
theorem rw_0 : rwS C e 0 σ = σ := by
  funext k i
  exact if_neg (fun x => by omega)
/-- what the crumbs are of no account for -/
theorem EN_cr (h : EN m pl τ σ C P) (hk : ∀ k i, k ≠ 0 → κ k i = σ k i) : EN m pl τ κ C P := by
  intro p c mt hp hc hmt
  have := h p c mt hp hc hmt
  unfold enf at this ⊢
  rw [hk 2 p (by omega), hk 1 c (by omega), hk 3 p (by omega), hk 7 0 (by omega)]
  exact this
theorem CS_c {κ' : Sg} (h : CS m s κ C P) (e : ∀ k i, (k = 0 → i < C) → κ' k i = κ k i) : CS m s κ' C P := by
  obtain ⟨a1, a2, a5, a6, a7⟩ := h
  exact ⟨fun c hc => ⟨by rw [e _ _ (fun _ => hc)]; exact (a1 c hc).1, by rw [e _ _ (fun x => by omega)]; exact (a1 c hc).2⟩, fun p hp => ⟨by rw [e _ _ (fun x => by omega)]; exact (a2 p hp).1, by rw [e _ _ (fun x => by omega)]; exact (a2 p hp).2.1, by rw [e _ _ (fun x => by omega)]; exact (a2 p hp).2.2⟩, by rw [e _ _ (fun x => by omega)]; exact a5, by rw [e _ _ (fun x => by omega)]; exact a6, by rw [e _ _ (fun x => by omega)]; exact a7⟩
theorem C_layRow (hW : WY C P τ) (hY : YC m C P τ) (he : e < 2000) (hM : CS m 33 κ C P) (hκ : ∀ k i, k ≠ 0 → κ k i = σ k i) : ∃ m', f_X11_layRow 0 (Int32.ofNat e) (mkH n z D m j r) = some (Int32.ofNat (lad C e C), mkH n z D m' j r) ∧ CS m' 33 (rwS C e C σ) C P ∧ (∀ a, a ≠ 34 → m' a = m a) := by
  have hC := hW.1
  have hP := hW.2.1
  have key : ∀ rem q fuel (mm : MI), q + rem = C → rem < fuel → YC mm C P τ → CS mm 33 (rwS C e q κ) C P → (∀ a, a ≠ 34 → mm a = m a) → ∃ m', f_X11_layRow_4 fuel 0 (Int32.ofNat e) (Int32.ofNat (lad C e q)) (Int32.ofNat q) (mkH n z D mm j r) = some (Int32.ofNat (lad C e C), mkH n z D m' j r) ∧ CS m' 33 (rwS C e C κ) C P ∧ (∀ a, a ≠ 34 → m' a = m a) := by
    intro rem
    induction rem with
    | zero =>
      intro q fuel mm hq hf a1 a2 a3
      obtain ⟨f, rfl⟩ : ∃ f, fuel = f + 1 := ⟨fuel - 1, by omega⟩
      have : q = C := by omega
      subst this
      refine ⟨mm, ?_, a2, a3⟩
      rw [f_X11_layRow_4.eq_2]
      simp (disch := omega) only [obs, cN_mk, ite_true, ite_false, if_true, if_false, q0, q18, a1.1, ile_t]
    | succ rem ih =>
      intro q fuel mm hq hf a1 a2 a3
      obtain ⟨f, rfl⟩ : ∃ f, fuel = f + 1 := ⟨fuel - 1, by omega⟩
      have hM1 : CS (wI mm 34 q (Int32.ofNat (cr C e q))) 33 (rwS C e (q + 1) κ) C P := by rw [← rw_s]; exact CS_crumb a2 hC hP (by omega)
      obtain ⟨m9, e9, d⟩ := ih (q + 1) f (wI mm 34 q (Int32.ofNat (cr C e q))) (by omega) (by omega) (YC_fr a1 (fun a ha => wI_ne (by omega))) hM1 (fun a ha => by rw [wI_ne ha]; exact a3 a ha)
      refine ⟨m9, ?_, d⟩
      have ec := cr_i (C := C) (e := e) (c := q) hC (by omega) he
      have hcl := cr_le (C := C) (e := e) (c := q)
      rw [f_X11_layRow_4.eq_2, ← e9, lad]
      by_cases h0 : cr C e q = 0
      · rw [if_pos h0]
        rw [h0] at ec ⊢
        simp (disch := omega) only [obs, cN_mk, ite_true, ite_false, if_true, if_false, q0, q18, a1.1, ile_f, q33, l1, l2, l3, l31, ec, p34, l0, f_X11_layRow_56, i_add]
      · rw [if_neg h0]
        simp (disch := omega) only [obs, cN_mk, ite_true, ite_false, if_true, if_false, q0, q18, a1.1, ile_f, q33, l1, l2, l3, l31, ec, p34, l0, ieq_f, f_X11_layRow_56, i_add]
  obtain ⟨m', e1, h1, h2⟩ := key C 0 fu m (by omega) (by unfold fu; omega) hY (by rw [rw_0]; exact hM) (fun _ _ => rfl)
  refine ⟨m', ?_, CS_c h1 (fun k i hi => ?_), h2⟩
  · unfold f_X11_layRow f_X11_layRow_0
    rw [l0]
    exact e1
  · unfold rwS
    by_cases hk : k = 0
    · rw [if_pos ⟨hk, hi hk⟩, if_pos ⟨hk, hi hk⟩]
    · rw [if_neg (fun x => hk x.1), if_neg (fun x => hk x.1), hκ k i hk]
theorem C_digits (hW : WY C P τ) (hY : YC m C P τ) (hM : CS m 33 (rwS C e C σ) C P) : f_X11_digitsOfRow 0 (mkH n z D m j r) = some (Int32.ofNat (dgt C e C), (mkH n z D m j r)) := by
  have hC := hW.1
  unfold f_X11_digitsOfRow f_X11_digitsOfRow_0
  refine lpI (fun f i => f_X11_digitsOfRow_4 f 0 (Int32.ofNat (dgt C e i)) (Int32.ofNat i) (mkH n z D m j r)) C ?_ ?_ C 0 fu (by omega) (by unfold fu; omega)
  · intro f i hi
    have u : m 34 i = Int32.ofNat (cr C e i) := by
      rw [(CS33 hM).1 i hi]
      unfold rwS
      rw [if_pos ⟨rfl, hi⟩]
    rw [f_X11_digitsOfRow_4.eq_2]
    simp (disch := omega) only [obs, cN_mk, ite_true, ite_false, if_true, if_false, q0, q18, hY.1, ile_f, q33, p34, u, l10, l1, i_mul, i_add, dgt]
  · intro f
    rw [f_X11_digitsOfRow_4.eq_2]
    simp (disch := omega) only [obs, cN_mk, ite_true, ite_false, if_true, if_false, q0, q18, hY.1, ile_t]
theorem Q_baits (hc : EC n z D pl LC m r C P τ σ) (hm : EM n z D pl LM m1 j1 C P τ σ) (x y : Int32) : QQ n z D LM m j r m1 j1 r1 (f_X11_baits 0 x y) (f_X12_baits 72 x y) := by
  have hW := hc.1
  have hS := hc.2.1
  have hY := hc.2.2.1
  have hP := hW.2.1
  have hC := hW.1
  by_cases hP00 : P = 0
  · refine ⟨no1, QC_e ?_, ?_⟩
    · unfold f_X11_baits f_X11_baits_0
      rw [show isC [11] (mkH n z D m j r) 0 = some () from isC_mk rfl (by decide), obs, C_hasCity hY hP, cN_mk, if_pos (by rw [hP00]; rfl)]
      rfl
    · unfold f_X12_baits f_X12_baits_0
      refine QM_s hm fun m2 _ h2 => QM_e h2 ?_
      rw [show gI [12] (mkH n z D m2 j1 r1) 72 27 = some (m2 72 27) from gI_mk rfl (by decide) rfl, obs, if_pos (by rw [h2.2.2.1.2.1, hP00]; rfl)]
      rfl
  have hd : decide (0 < P) = true := decide_eq_true (by omega)
  have h2C := hW.2.2.1 (by omega)
  have p6 := pow6 hP
  have pp : 0 < 2 ^ P := Nat.two_pow_pos P
  have sh1 : Int32.ofNat 1 <<< (Int32.ofNat P &&& Int32.ofNat 31) = Int32.ofNat (2 ^ P) := by rw [i_shl (by omega), Nat.one_mul]
  have sh2 : Int32.ofNat 1 <<< (Int32.ofNat (2 * C) &&& Int32.ofNat 31) = Int32.ofNat (2 ^ (2 * C)) := by rw [i_shl (by omega), Nat.one_mul]
  cases i1 : im x 0 (2 ^ P) with
  | false =>
    refine ⟨no1, QC_e ?_, ?_⟩
    · unfold f_X11_baits f_X11_baits_0
      simp (disch := omega) only [obs, cN_mk, ite_true, ite_false, if_true, if_false, q0, C_hasCity hY hP, hd, l0, l1, no1_e, bI_t, bI_f, ieq_f, ile_t, ile_f, ilt_t, ilt_f, q18, hY.2.1, l31, sh1, rng3, i1, Bool.false_eq_true]
    · unfold f_X12_baits f_X12_baits_0
      refine QM_s hm fun m2 _ h2 => QM_e h2 ?_
      simp (disch := omega) only [obs, cN_mk, ite_true, ite_false, if_true, if_false, q72, h2.2.2.1.2.1, l0, l1, no1_e, bI_t, bI_f, ieq_f, ile_t, ile_f, ilt_t, ilt_f, l31, sh1, pr_sub, i64_0, M_inP, i1]
  | true =>
    obtain ⟨S, -, hSP, rfl⟩ := im_t (by omega) (by omega) i1
    cases i2 : im y 0 2 with
    | false =>
      refine ⟨no1, QC_e ?_, ?_⟩
      · unfold f_X11_baits f_X11_baits_0
        simp (disch := omega) only [obs, cN_mk, ite_true, ite_false, if_true, if_false, q0, C_hasCity hY hP, hd, l0, l1, no1_e, bI_t, bI_f, ieq_f, ile_t, ile_f, ilt_t, ilt_f, q18, hY.2.1, l31, sh1, rng2, Nat.reduceAdd, i2, Bool.false_eq_true]
      · unfold f_X12_baits f_X12_baits_0
        refine QM_s hm fun m2 _ h2 => QM_e h2 ?_
        simp (disch := omega) only [obs, cN_mk, ite_true, ite_false, if_true, if_false, q72, h2.2.2.1.2.1, l0, l1, no1_e, bI_t, bI_f, ieq_f, ile_t, ile_f, ilt_t, ilt_f, l31, sh1, pr_sub, i64_0, i64_1, M_inP, M_inK, Nat.reduceAdd, i1, i2]
    | true =>
      obtain ⟨w, -, hw, rfl⟩ := im_t (by omega) (by omega) i2
      have hN : 2 ^ (2 * C) ≤ 1024 := Nat.pow_le_pow_right (by omega) (show 2 * C ≤ 10 by omega)
      generalize hNN : 2 ^ (2 * C) = N at *
      have T64 : ∀ e, tkE pl C P τ σ e < 64 := fun e => Nat.lt_of_lt_of_le (dy_lt (pl := pl) (σ := rwS C e C σ) hW P (Nat.le_refl P)).2.1 p6
      have ob : ∀ e, oth pl C P τ σ S e ≤ 6 := fun e => popc_le
      have lb : ∀ e, lad C e C ≤ 5 := fun e => Nat.le_trans (lad_le C) hC
      have db : ∀ e, dgt C e C < 100000 := fun e => Nat.lt_of_lt_of_le (dgt_le C hC) (show 10 ^ C ≤ 10 ^ 5 from Nat.pow_le_pow_right (by omega) hC)
      have cE : ∀ e, cst pl C P τ σ S e = oth pl C P τ σ S e * 10 + lad C e C := fun e => rfl
      generalize hBs : bs pl C P τ σ S = Bs
      have Bs0 : Bs 0 = 0 := by rw [← hBs]; rfl
      have BsS : ∀ e, Bs (e + 1) = if tkE pl C P τ σ e &&& S = S ∧ (Bs e = 0 ∨ cst pl C P τ σ S e < cst pl C P τ σ S (Bs e - 1)) then e + 1 else Bs e := fun e => by rw [← hBs]; rfl
      refine ⟨if Bs N = 0 then no1 else if w = 0 then Int32.ofNat (dgt C (Bs N - 1) C) else Int32.ofNat (oth pl C P τ σ S (Bs N - 1)), ?_, ?_⟩
      · obtain ⟨m0, e0, h0, f0, hM0, -⟩ := C_cpy (j := j) hc
        have key : ∀ rem e fuel (mm : MI), e + rem = N → rem < fuel → EC n z D pl LC mm r C P τ σ → FQc m mm → (∃ κ : Sg, CS mm 33 κ C P ∧ ∀ k i, k ≠ 0 → κ k i = σ k i) → (e ≠ 0 → EN mm pl τ σ C P) → QC n z D m j r (f_X11_baits_69 fuel 0 (Int32.ofNat S) (Int32.ofNat w) (Int32.ofNat (if Bs e = 0 then 1000000 else cst pl C P τ σ S (Bs e - 1))) (if Bs e = 0 then no1 else if w = 0 then Int32.ofNat (dgt C (Bs e - 1) C) else Int32.ofNat (oth pl C P τ σ S (Bs e - 1))) (Int32.ofNat N) (Int32.ofNat e) (mkH n z D mm j r)) (if Bs N = 0 then no1 else if w = 0 then Int32.ofNat (dgt C (Bs N - 1) C) else Int32.ofNat (oth pl C P τ σ S (Bs N - 1))) := by
          intro rem
          induction rem with
          | zero =>
            intro e fuel mm he hf a1 a2 a3 a4
            obtain ⟨f, rfl⟩ : ∃ f, fuel = f + 1 := ⟨fuel - 1, by omega⟩
            have : e = N := by omega
            subst this
            refine ⟨mm, ?_, a2⟩
            rw [f_X11_baits_69.eq_2, if_pos ((i_le (by omega) (by omega)).mpr (Nat.le_refl _))]
          | succ rem ih =>
            intro e fuel mm he hf a1 a2 ⟨κ, a3, a3'⟩ a4
            obtain ⟨f, rfl⟩ : ∃ f, fuel = f + 1 := ⟨fuel - 1, by omega⟩
            obtain ⟨m2, e2, g1, g2⟩ := C_layRow (n := n) (z := z) (D := D) (j := j) (r := r) (σ := σ) (e := e) hW a1.2.2.1 (by omega) a3 a3'
            have hq2 : FQc mm m2 := ⟨fun a _ h3 _ _ _ => g2 a (by omega), fun i _ => by rw [g2 55 (by omega)]⟩
            have h2 := EC_q a1 hq2
            have nk : ∀ k i, k ≠ 0 → rwS C e C σ k i = σ k i := fun k i h => if_neg (fun x => h x.1)
            have enM : e ≠ 0 → EN m2 pl τ (rwS C e C σ) C P := fun he0 => EN_cr (σ := σ) (by
              have := a4 he0
              intro p c mt hp hc hmt
              rw [g2 54 (by omega)]
              exact this p c mt hp hc hmt) nk
            obtain ⟨m3, e3, h3, f3, c3, -, en3, -, t3, -⟩ := C_ply (j := j) (kn := if e = 0 then 0 else 1) (N := P) (σ := rwS C e C σ) h2 (Or.inr rfl) (WS_le (WS_rw hS) (by omega)) g1 (Nat.le_refl P) (by split <;> omega) (fun hk => enM (fun h0 => by rw [if_pos h0] at hk; omega))
            have t3' : m3 52 3 = Int32.ofNat (tkE pl C P τ σ e) := t3
            have en3' : EN m3 pl τ σ C P := EN_cr en3 (fun k i h => (nk k i h).symm)
            obtain ⟨s1, s2, -, s4⟩ := set64 (T64 e) (show S < 64 by omega)
            have bo := ob e
            have bl := lb e
            have bC := cE e
            have hBS := BsS e
            have bp : ∀ h : AH, f_J6_bitCount_0f7a4 (Int32.ofNat (tkE pl C P τ σ e &&& (63 ^^^ S))) h = some (Int32.ofNat (oth pl C P τ σ S e), h) := fun h => bc64 s4
            have dg3 := C_digits (n := n) (z := z) (D := D) (j := j) (r := r) hW h3.2.2.1 c3
            obtain ⟨m9, e9, d⟩ := ih (e + 1) f m3 (by omega) (by omega) h3 (FQc_tr a2 (FQc_tr hq2 f3)) ⟨rwS C e C σ, c3, nk⟩ (fun _ => en3')
            refine ⟨m9, ?_, d⟩
            rw [← e9]
            have b109 : ∀ k69 x3 x4, f_X11_baits_109 k69 0 (Int32.ofNat S) (Int32.ofNat w) x3 x4 (Int32.ofNat N) (Int32.ofNat e) (Int32.ofNat (lad C e C)) 52 33 (Int32.ofNat P) (Int32.ofNat (if e = 0 then 0 else 1)) (mkH n z D m2 j r) = if tkE pl C P τ σ e &&& S = S then (if x3 ≤ Int32.ofNat (cst pl C P τ σ S e) then k69 0 (Int32.ofNat S) (Int32.ofNat w) x3 x4 (Int32.ofNat N) (Int32.ofNat (e + 1)) (mkH n z D m3 j r) else k69 0 (Int32.ofNat S) (Int32.ofNat w) (Int32.ofNat (cst pl C P τ σ S e)) (if w = 0 then Int32.ofNat (dgt C e C) else Int32.ofNat (oth pl C P τ σ S e)) (Int32.ofNat N) (Int32.ofNat (e + 1)) (mkH n z D m3 j r)) else k69 0 (Int32.ofNat S) (Int32.ofNat w) x3 x4 (Int32.ofNat N) (Int32.ofNat (e + 1)) (mkH n z D m3 j r) := by
              intro k69 x3 x4
              have ec : Int32.ofNat (oth pl C P τ σ S e) * Int32.ofNat 10 + Int32.ofNat (lad C e C) = Int32.ofNat (cst pl C P τ σ S e) := by rw [i_mul, i_add, cE]
              unfold f_X11_baits_109
              by_cases hok : tkE pl C P τ σ e &&& S = S
              · rw [if_pos hok]
                simp (disch := omega) only [obs, cN_mk, ite_true, ite_false, if_true, if_false, q52, e3, q0, t3', l1, no1_e, s1, bp, eq_true (s2.mpr hok), l10, ec, f_X11_baits_175, f_X11_baits_173, i_add]
                by_cases hw0 : w = 0
                · subst hw0
                  simp (disch := omega) only [obs, cN_mk, ite_true, ite_false, if_true, if_false, l0, dg3]
                · simp (disch := omega) only [obs, cN_mk, ite_true, ite_false, if_true, if_false, l0, ieq_f, hw0]
              · rw [if_neg hok]
                simp (disch := omega) only [obs, cN_mk, ite_true, ite_false, if_true, if_false, q52, e3, q0, t3', l1, no1_e, s1, bp, eq_false (fun h => hok (s2.mp h)), f_X11_baits_175, i_add]
            rw [f_X11_baits_69.eq_2]
            have e109 : f_X11_baits_69 (f + 1) 0 (Int32.ofNat S) (Int32.ofNat w) (Int32.ofNat (if Bs e = 0 then 1000000 else cst pl C P τ σ S (Bs e - 1))) (if Bs e = 0 then no1 else if w = 0 then Int32.ofNat (dgt C (Bs e - 1) C) else Int32.ofNat (oth pl C P τ σ S (Bs e - 1))) (Int32.ofNat N) (Int32.ofNat e) (mkH n z D mm j r) = f_X11_baits_109 (f_X11_baits_69 f) 0 (Int32.ofNat S) (Int32.ofNat w) (Int32.ofNat (if Bs e = 0 then 1000000 else cst pl C P τ σ S (Bs e - 1))) (if Bs e = 0 then no1 else if w = 0 then Int32.ofNat (dgt C (Bs e - 1) C) else Int32.ofNat (oth pl C P τ σ S (Bs e - 1))) (Int32.ofNat N) (Int32.ofNat e) (Int32.ofNat (lad C e C)) 52 33 (Int32.ofNat P) (Int32.ofNat (if e = 0 then 0 else 1)) (mkH n z D m2 j r) := by
              rw [f_X11_baits_69.eq_2]
              by_cases he0 : e = 0
              · rw [if_pos he0]
                simp (disch := omega) only [obs, cN_mk, ite_true, ite_false, if_true, if_false, ile_f, q0, e2, q18, h2.2.2.1.2.1, l0, ile_t]
              · rw [if_neg he0]
                simp (disch := omega) only [obs, cN_mk, ite_true, ite_false, if_true, if_false, ile_f, q0, e2, q18, h2.2.2.1.2.1, l0, l1]
            have hbig : cst pl C P τ σ S (Bs e - 1) < 2147483648 := by
              rw [cE]
              have := ob (Bs e - 1)
              have := lb (Bs e - 1)
              omega
            have hbig2 : (if Bs e = 0 then 1000000 else cst pl C P τ σ S (Bs e - 1)) < 2147483648 := by
              split
              · omega
              · exact hbig
            rw [← f_X11_baits_69.eq_2, e109, b109]
            by_cases hok : tkE pl C P τ σ e &&& S = S
            · rw [if_pos hok]
              by_cases hup : Bs e = 0 ∨ cst pl C P τ σ S e < cst pl C P τ σ S (Bs e - 1)
              · rw [if_pos ⟨hok, hup⟩] at hBS
                rw [hBS, if_neg (fun h => by
                  have h1 := (i_le hbig2 (by omega)).mp h
                  rcases hup with h2 | h2
                  · rw [if_pos h2] at h1; omega
                  · by_cases h3 : Bs e = 0
                    · rw [if_pos h3] at h1; omega
                    · rw [if_neg h3] at h1; omega), if_neg (show ¬ e + 1 = 0 by omega), if_neg (show ¬ e + 1 = 0 by omega), show e + 1 - 1 = e from rfl]
              · rw [if_neg (fun h => hup h.2)] at hBS
                have hb0 : ¬ Bs e = 0 := fun h => hup (Or.inl h)
                have hge : cst pl C P τ σ S (Bs e - 1) ≤ cst pl C P τ σ S e := by
                  by_cases h : cst pl C P τ σ S e < cst pl C P τ σ S (Bs e - 1)
                  · exact absurd (Or.inr h) hup
                  · omega
                rw [hBS, if_pos ((i_le (by rw [if_neg hb0]; exact hbig) (by omega)).mpr (by rw [if_neg hb0]; exact hge))]
            · rw [if_neg (fun h => hok h.1)] at hBS
              rw [if_neg hok, hBS]
        have := key N 0 fu m0 (by omega) (by unfold fu; omega) h0 f0 ⟨σ, hM0, fun _ _ _ => rfl⟩ (fun h => absurd rfl h)
        rw [Bs0, if_pos rfl, if_pos rfl] at this
        have hy0 := h0.2.2.1.1
        unfold f_X11_baits f_X11_baits_0
        simp (disch := omega) only [obs, cN_mk, ite_true, ite_false, if_true, if_false, q0, C_hasCity hY hP, hd, l0, l1, no1_e, bI_t, bI_f, ieq_f, ile_t, ile_f, ilt_t, ilt_f, q18, hY.2.1, l31, sh1, q33, e0, hy0, l2, i_mul, sh2, l1000000]
        exact this
      · unfold f_X12_baits f_X12_baits_0
        refine QM_s hm fun m2 _ h2 => ?_
        have key : ∀ rem e fuel (mm : MI) (jj : MJ) (rr : MR), e + rem = N → rem < fuel → EM n z D pl LM mm jj C P τ σ → FQm m2 mm j1 jj r1 rr → QM n z D LM m2 j1 r1 (f_X12_baits_53 fuel 72 (Int32.ofNat S) (Int32.ofNat w) (if Bs e = 0 then no1 else Int32.ofNat (dgt C (Bs e - 1) C)) (if Bs e = 0 then Int32.ofNat 0 else Int32.ofNat (oth pl C P τ σ S (Bs e - 1))) (if Bs e = 0 then Int32.ofNat 0 else Int32.ofNat (lad C (Bs e - 1) C)) (Int32.ofNat e) (mkH n z D mm jj rr)) (if Bs N = 0 then no1 else if w = 0 then Int32.ofNat (dgt C (Bs N - 1) C) else Int32.ofNat (oth pl C P τ σ S (Bs N - 1))) := by
          intro rem
          induction rem with
          | zero =>
            intro e fuel mm jj rr he hf a1 a2
            obtain ⟨f, rfl⟩ : ∃ f, fuel = f + 1 := ⟨fuel - 1, by omega⟩
            have : e = N := by omega
            subst this
            refine ⟨mm, jj, rr, ?_, a1.2.2.2.2.2, a2⟩
            rw [f_X12_baits_53.eq_2]
            by_cases hb0 : Bs e = 0
            · simp only [hb0, if_true]
              simp (disch := omega) only [obs, cN_mk, ite_true, ite_false, if_true, if_false, q72, a1.2.2.1.1, l2, l1, l31, i_mul, sh2, ile_t, no1_e, f_X12_baits_245]
            · have := db (Bs e - 1)
              simp only [hb0, if_false]
              have n3 : (Int32.ofNat (dgt C (Bs e - 1) C) = no1) = False := eq_false (fun h => (no1_ne (by omega)).mp h)
              by_cases hw0 : w = 0
              · subst hw0
                simp (disch := omega) only [obs, cN_mk, ite_true, ite_false, if_true, if_false, q72, a1.2.2.1.1, l2, l1, l31, i_mul, sh2, ile_t, no1_e, n3, l0, f_X12_baits_245]
              · simp (disch := omega) only [obs, cN_mk, ite_true, ite_false, if_true, if_false, q72, a1.2.2.1.1, l2, l1, l31, i_mul, sh2, ile_t, no1_e, n3, l0, ieq_f, hw0]
          | succ rem ih =>
            intro e fuel mm jj rr he hf a1 a2
            obtain ⟨f, rfl⟩ : ∃ f, fuel = f + 1 := ⟨fuel - 1, by omega⟩
            obtain ⟨m0, e0, h0, f0, hM0, h31, -⟩ := M_cpy (r := rr) a1
            -- the crumbs are laid
            have lay : ∀ (k53 : Nat → Int32 → Int32 → Int32 → Int32 → Int32 → Int32 → AH → Option (Int32 × AH)) (x3 x4 x5 : Int32) rem q fuel (m5 : MI), q + rem = C → rem < fuel → EM n z D pl LM m5 jj C P τ σ → FQm m2 m5 j1 jj r1 rr → MS (m5 86) (rwS C e q σ) C P → m5 86 31 = Int32.ofNat 0 → ∃ m' f', f_X12_baits_86 k53 fuel 72 (Int32.ofNat S) (Int32.ofNat w) x3 x4 x5 (Int32.ofNat e) (Int32.ofNat (dgt C e q)) (Int32.ofNat (lad C e q)) (Int32.ofNat q) (mkH n z D m5 jj rr) = f_X12_baits_86 k53 (f' + 1) 72 (Int32.ofNat S) (Int32.ofNat w) x3 x4 x5 (Int32.ofNat e) (Int32.ofNat (dgt C e C)) (Int32.ofNat (lad C e C)) (Int32.ofNat C) (mkH n z D m' jj rr) ∧ EM n z D pl LM m' jj C P τ σ ∧ FQm m2 m' j1 jj r1 rr ∧ MS (m' 86) (rwS C e C σ) C P ∧ m' 86 31 = Int32.ofNat 0 := by
              intro k53 x3 x4 x5 rem
              induction rem with
              | zero =>
                intro q fuel m5 hq hf b1 b2 b3 b4
                obtain ⟨f, rfl⟩ : ∃ f, fuel = f + 1 := ⟨fuel - 1, by omega⟩
                have : q = C := by omega
                subst this
                exact ⟨m5, f, rfl, b1, b2, b3, b4⟩
              | succ rem ih2 =>
                intro q fuel m5 hq hf b1 b2 b3 b4
                obtain ⟨f, rfl⟩ : ∃ f, fuel = f + 1 := ⟨fuel - 1, by omega⟩
                obtain ⟨g1, g2⟩ := M_set86 (r := rr) (i := 2 * q) (x := Int32.ofNat (cr C e q)) b1
                obtain ⟨m9, f', e9, d⟩ := ih2 (q + 1) f (wI m5 86 (2 * q) (Int32.ofNat (cr C e q))) (by omega) (by omega) g1 (FQm_tr b2 g2) (by rw [wI_eq, ← rw_s]; exact MS_crumb b3 hC hP (by omega)) (by rw [wI_sn (by omega)]; exact b4)
                refine ⟨m9, f', ?_, d⟩
                have ec := cr_i (C := C) (e := e) (c := q) hC (by omega) (by omega)
                have hcl := cr_le (C := C) (e := e) (c := q)
                have ed : Int32.ofNat 10 * Int32.ofNat (dgt C e q) + Int32.ofNat (cr C e q) = Int32.ofNat (dgt C e (q + 1)) := by
                  rw [i_mul, i_add, dgt, Nat.mul_comm]
                rw [f_X12_baits_86.eq_2, ← e9]
                by_cases hz : cr C e q = 0
                · have el : lad C e (q + 1) = lad C e q := by rw [lad, if_pos hz]; rfl
                  rw [el]
                  rw [hz] at ec ed ⊢
                  simp (disch := omega) only [obs, cN_mk, ite_true, ite_false, if_true, if_false, q72, b1.2.2.1.1, ile_f, l1, l2, l3, l31, ec, l0, i_mul, i_add, Nat.add_zero, p86, ile_t, l10, f_X12_baits_148]
                  rw [i_mul, i_add, Nat.add_zero] at ed
                  rw [ed]
                · have el : lad C e (q + 1) = lad C e q + 1 := by rw [lad, if_neg hz]
                  rw [el]
                  rw [i_mul, i_add] at ed
                  simp (disch := omega) only [obs, cN_mk, ite_true, ite_false, if_true, if_false, q72, b1.2.2.1.1, ile_f, l1, l2, l3, l31, ec, l0, i_mul, i_add, Nat.add_zero, p86, l10, ed, f_X12_baits_148]
            obtain ⟨m5, f', e5, h5, f5, hM5, h315⟩ := lay (f_X12_baits_53 f) (if Bs e = 0 then no1 else Int32.ofNat (dgt C (Bs e - 1) C)) (if Bs e = 0 then Int32.ofNat 0 else Int32.ofNat (oth pl C P τ σ S (Bs e - 1))) (if Bs e = 0 then Int32.ofNat 0 else Int32.ofNat (lad C (Bs e - 1) C)) C 0 fu m0 (by omega) (by unfold fu; omega) h0 (FQm_tr a2 f0) (by rw [rw_0]; exact hM0) h31
            obtain ⟨m6, j6, r6, e6, h6, f6, -⟩ := M_try (r := rr) (σ := rwS C e C σ) h5 (WS_le (WS_rw hS) (by omega)) hM5 (by omega : 0 ≤ 60) h315
            have e6' : f_X12_goDay 72 86 (mkH n z D m5 jj rr) = some (Int32.ofNat (tkE pl C P τ σ e), mkH n z D m6 j6 r6) := e6
            obtain ⟨s1, -, s3, s4⟩ := set64 (T64 e) (show S < 64 by omega)
            have bo := ob e
            have bl := lb e
            have hBS := BsS e
            have bp : ∀ h : AH, f_J6_bitCount_0f7a4 (Int32.ofNat (tkE pl C P τ σ e &&& (63 ^^^ S))) h = some (Int32.ofNat (oth pl C P τ σ S e), h) := fun h => bc64 s4
            obtain ⟨m9, j9, r9, e9, d⟩ := ih (e + 1) f m6 j6 r6 (by omega) (by omega) h6 (FQm_tr f5 f6)
            refine ⟨m9, j9, r9, ?_, d⟩
            have estart : f_X12_baits_53 (f + 1) 72 (Int32.ofNat S) (Int32.ofNat w) (if Bs e = 0 then no1 else Int32.ofNat (dgt C (Bs e - 1) C)) (if Bs e = 0 then Int32.ofNat 0 else Int32.ofNat (oth pl C P τ σ S (Bs e - 1))) (if Bs e = 0 then Int32.ofNat 0 else Int32.ofNat (lad C (Bs e - 1) C)) (Int32.ofNat e) (mkH n z D mm jj rr) = f_X12_baits_86 (f_X12_baits_53 f) (f' + 1) 72 (Int32.ofNat S) (Int32.ofNat w) (if Bs e = 0 then no1 else Int32.ofNat (dgt C (Bs e - 1) C)) (if Bs e = 0 then Int32.ofNat 0 else Int32.ofNat (oth pl C P τ σ S (Bs e - 1))) (if Bs e = 0 then Int32.ofNat 0 else Int32.ofNat (lad C (Bs e - 1) C)) (Int32.ofNat e) (Int32.ofNat (dgt C e C)) (Int32.ofNat (lad C e C)) (Int32.ofNat C) (mkH n z D m5 jj rr) := by
              rw [← e5, f_X12_baits_53.eq_2]
              simp (disch := omega) only [obs, cN_mk, ite_true, ite_false, if_true, if_false, q72, a1.2.2.1.1, l2, l1, l31, i_mul, sh2, ile_f, e0, l0]
              rfl
            rw [estart, f_X12_baits_86.eq_2, ← e9]
            by_cases hok : tkE pl C P τ σ e &&& S = S
            · by_cases hb0 : Bs e = 0
              · rw [if_pos ⟨hok, Or.inl hb0⟩] at hBS
                simp only [hBS, hb0, if_true, show ¬ e + 1 = 0 by omega, if_false, show e + 1 - 1 = e from rfl]
                simp (disch := omega) only [obs, cN_mk, ite_true, ite_false, if_true, if_false, q72, h5.2.2.1.1, ile_t, e6', l1, no1_e, l0, eq_true (s3.mpr hok), s1, bp, f_X12_baits_219, f_X12_baits_230, i_add]
              · have b1 := ob (Bs e - 1)
                have b2 := lb (Bs e - 1)
                have b3 := db (Bs e - 1)
                have n3 : (Int32.ofNat (dgt C (Bs e - 1) C) = no1) = False := eq_false (fun h => (no1_ne (by omega)).mp h)
                have c1 := cE e
                have c2 := cE (Bs e - 1)
                by_cases hup : cst pl C P τ σ S e < cst pl C P τ σ S (Bs e - 1)
                · rw [if_pos ⟨hok, Or.inr hup⟩] at hBS
                  simp only [hBS, hb0, show ¬ e + 1 = 0 by omega, if_false, show e + 1 - 1 = e from rfl]
                  by_cases heq : oth pl C P τ σ S e = oth pl C P τ σ S (Bs e - 1)
                  · simp (disch := omega) only [obs, cN_mk, ite_true, ite_false, if_true, if_false, q72, h5.2.2.1.1, ile_t, e6', l1, no1_e, l0, eq_true (s3.mpr hok), s1, bp, n3, ilt_f, ilt_t, ieq_t, f_X12_baits_219, f_X12_baits_230, i_add]
                  · simp (disch := omega) only [obs, cN_mk, ite_true, ite_false, if_true, if_false, q72, h5.2.2.1.1, ile_t, e6', l1, no1_e, l0, eq_true (s3.mpr hok), s1, bp, n3, ilt_f, ieq_f, f_X12_baits_219, f_X12_baits_230, i_add]
                · rw [if_neg (fun h => by rcases h.2 with h | h; exact hb0 h; exact hup h)] at hBS
                  simp only [hBS, hb0, if_false]
                  by_cases heq : oth pl C P τ σ S e = oth pl C P τ σ S (Bs e - 1)
                  · simp (disch := omega) only [obs, cN_mk, ite_true, ite_false, if_true, if_false, q72, h5.2.2.1.1, ile_t, e6', l1, no1_e, l0, eq_true (s3.mpr hok), s1, bp, n3, ilt_f, ieq_t, f_X12_baits_219, f_X12_baits_230, i_add]
                  · simp (disch := omega) only [obs, cN_mk, ite_true, ite_false, if_true, if_false, q72, h5.2.2.1.1, ile_t, e6', l1, no1_e, l0, eq_true (s3.mpr hok), s1, bp, n3, ilt_t, f_X12_baits_219, f_X12_baits_230, i_add]
            · rw [if_neg (fun h => hok h.1)] at hBS
              rw [hBS]
              simp (disch := omega) only [obs, cN_mk, ite_true, ite_false, if_true, if_false, q72, h5.2.2.1.1, ile_t, e6', l1, no1_e, l0, eq_false (fun h => hok (s3.mp h)), f_X12_baits_230, i_add]
        have := key N 0 fu m2 j1 r1 (by omega) (by unfold fu; omega) h2 FQm_refl
        rw [Bs0, if_pos rfl, if_pos rfl, if_pos rfl] at this
        simp (disch := omega) only [obs, cN_mk, ite_true, ite_false, if_true, if_false, q72, h2.2.2.1.2.1, l0, l1, no1_e, bI_t, bI_f, ieq_f, ile_t, ile_f, ilt_t, ilt_f, l31, sh1, pr_sub, i64_0, i64_1, M_inP, M_inK, Nat.reduceAdd, i1, i2]
        exact this
end BAITS
