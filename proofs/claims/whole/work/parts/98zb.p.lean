/-! Rests. -/
def aG (G : Nat → Nat → Int32) (x y : Nat) : Nat → Bool
  | 0 => true
  | k + 1 => aG G x y k && decide (G k y ≤ G x y)
def iR (G H : Nat → Nat → Int32) (x y : Nat) : Bool := decide (H x (1 - y) ≤ H x y) && aG G x y 4
def rsl (g : Nat → Nat → Bool) (i : Int32) : Nat → Nat → Nat → Int32
  | 0, _, fd => if i = no1 then Int32.ofNat fd else no1
  | rem + 1, k, fd => if g (k / 2) (k % 2) = true then (if Int32.ofNat fd = i then Int32.ofNat (10 * (k / 2) + k % 2) else rsl g i rem (k + 1) (fd + 1)) else rsl g i rem (k + 1) fd
theorem aG_mono {G : Nat → Nat → Int32} {x y k : Nat} : ∀ d, aG G x y k = false → aG G x y (k + d) = false
  | 0, h => h
  | d + 1, h => by rw [show k + (d + 1) = k + d + 1 by omega, aG, aG_mono d h]; rfl
section RESTS
variable {n z : Nat} {D : Dyn} {m m1 m' : MI} {j j1 j' : MJ} {r r1 r' : MR} {pl : Pl} {LC : MI → MR → Prop} {LM : MI → MJ → Prop} {C P : Nat} {τ σ σ0 : Sg} {w p c s e : Nat} {x y : Int32} {G H : Nat → Nat → Int32}
def S71 (mm : MI) (G H : Nat → Nat → Int32) (X : Nat) : Prop := ∀ x y, x < X → y < 2 → mm 71 (2 * x + y) = G x y ∧ mm 71 (8 + 2 * x + y) = H x y
theorem C_isRest {x y : Nat} (h71 : S71 m G H 4) (hx : x < 4) (hy : y < 2) : f_X11_isRest 0 (Int32.ofNat x) (Int32.ofNat y) (mkH n z D m j r) = some (bI (iR G H x y), (mkH n z D m j r)) := by
  have b : ∀ x y, x < 4 → y < 2 → f_X11_baiterStake 0 (Int32.ofNat x) (Int32.ofNat y) (mkH n z D m j r) = some (G x y, (mkH n z D m j r)) := by
    intro x y hx hy
    have := (h71 x y hx hy).1
    unfold f_X11_baiterStake f_X11_baiterStake_0
    simp (disch := omega) only [obs, cN_mk, ite_true, ite_false, if_true, if_false, q0, l2, i_mul, i_add, p71, this]
  have g : ∀ x y, x < 4 → y < 2 → f_X11_goerStake 0 (Int32.ofNat x) (Int32.ofNat y) (mkH n z D m j r) = some (H x y, (mkH n z D m j r)) := by
    intro x y hx hy
    have := (h71 x y hx hy).2
    unfold f_X11_goerStake f_X11_goerStake_0
    simp (disch := omega) only [obs, cN_mk, ite_true, ite_false, if_true, if_false, q0, l2, l8, i_mul, i_add, p71, this]
  have key : ∀ rem k fuel, k + rem = 4 → rem < fuel → aG G x y k = true → f_X11_isRest_2 fuel 0 (Int32.ofNat x) (Int32.ofNat y) (Int32.ofNat k) (mkH n z D m j r) = some (bI (iR G H x y), (mkH n z D m j r)) := by
    intro rem
    induction rem with
    | zero =>
      intro k fuel hk hf ha
      obtain ⟨f, rfl⟩ : ∃ f, fuel = f + 1 := ⟨fuel - 1, by omega⟩
      have : k = 4 := by omega
      subst this
      rw [f_X11_isRest_2.eq_2]
      unfold iR
      rw [ha, Bool.and_true]
      by_cases hh : H x (1 - y) ≤ H x y
      · rw [decide_eq_true hh]
        simp (disch := omega) only [obs, cN_mk, ite_true, ite_false, if_true, if_false, l3, ilt_t, q0, l1, i_sub, g, eq_false (Int32.not_lt.mpr hh), bI_t]
      · rw [decide_eq_false hh]
        simp (disch := omega) only [obs, cN_mk, ite_true, ite_false, if_true, if_false, l3, ilt_t, q0, l1, i_sub, g, eq_true (Int32.not_le.mp hh), bI_f, l0]
    | succ rem ih =>
      intro k fuel hk hf ha
      obtain ⟨f, rfl⟩ : ∃ f, fuel = f + 1 := ⟨fuel - 1, by omega⟩
      rw [f_X11_isRest_2.eq_2]
      by_cases hh : G k y ≤ G x y
      · have ih := ih (k + 1) f (by omega) (by omega) (by rw [aG, ha, decide_eq_true hh]; rfl)
        simp (disch := omega) only [obs, cN_mk, ite_true, ite_false, if_true, if_false, l3, ilt_f, q0, b, eq_true hh, l1, i_add, ih]
      · have hF : iR G H x y = false := by
          unfold iR
          have := aG_mono (G := G) (x := x) (y := y) (k := k + 1) (4 - (k + 1)) (by rw [aG, ha, decide_eq_false hh]; rfl)
          rw [show k + 1 + (4 - (k + 1)) = 4 by omega] at this
          rw [this, Bool.and_false]
        rw [hF]
        simp (disch := omega) only [obs, cN_mk, ite_true, ite_false, if_true, if_false, l3, ilt_f, q0, b, eq_false hh, l0, bI_f]
  unfold f_X11_isRest f_X11_isRest_0
  rw [l0]
  exact key 4 0 fu (by omega) (by unfold fu; omega) rfl
theorem C_rests {i : Int32} (h71 : S71 m G H 4) : ∀ rem x fuel fd, x + rem = 4 → rem < fuel → fd ≤ 2 * x → f_X11_rests_62 fuel 0 i (Int32.ofNat fd) (Int32.ofNat x) (mkH n z D m j r) = some (rsl (iR G H) i (2 * rem) (2 * x) fd, (mkH n z D m j r)) := by
  have st : ∀ (k62 : Nat → Int32 → Int32 → Int32 → AH → Option (Int32 × AH)) f x y fd, x < 4 → y < 2 → fd < 100 → f_X11_rests_71 k62 (f + 1) 0 i (Int32.ofNat fd) (Int32.ofNat x) (Int32.ofNat y) (mkH n z D m j r) = if iR G H x y = true then (if Int32.ofNat fd = i then some (Int32.ofNat (10 * x + y), (mkH n z D m j r)) else f_X11_rests_71 k62 f 0 i (Int32.ofNat (fd + 1)) (Int32.ofNat x) (Int32.ofNat (y + 1)) (mkH n z D m j r)) else f_X11_rests_71 k62 f 0 i (Int32.ofNat fd) (Int32.ofNat x) (Int32.ofNat (y + 1)) (mkH n z D m j r) := by
    intro k62 f x y fd hx hy hfd
    have e := C_isRest (n := n) (z := z) (D := D) (j := j) (r := r) h71 hx hy
    rw [f_X11_rests_71.eq_2]
    cases hB : iR G H x y with
    | false =>
      rw [hB] at e
      simp (disch := omega) only [obs, cN_mk, ite_true, ite_false, if_true, if_false, l0, l1, no1_e, bI_t, bI_f, ieq_f, ile_t, ile_f, ilt_t, ilt_f, q0, e, f_X11_rests_106, i_add, Bool.false_eq_true]
    | true =>
      rw [hB] at e
      simp (disch := omega) only [obs, cN_mk, ite_true, ite_false, if_true, if_false, l0, l1, no1_e, bI_t, bI_f, ieq_f, ile_t, ile_f, ilt_t, ilt_f, q0, e, f_X11_rests_106, i_add, l10, i_mul]
  have en : ∀ (k62 : Nat → Int32 → Int32 → Int32 → AH → Option (Int32 × AH)) f x fd, f_X11_rests_71 k62 (f + 1) 0 i (Int32.ofNat fd) (Int32.ofNat x) (Int32.ofNat 2) (mkH n z D m j r) = k62 0 i (Int32.ofNat fd) (Int32.ofNat (x + 1)) (mkH n z D m j r) := by
    intro k62 f x fd
    rw [f_X11_rests_71.eq_2]
    simp (disch := omega) only [obs, cN_mk, ite_true, ite_false, if_true, if_false, l0, l1, no1_e, bI_t, bI_f, ieq_f, ile_t, ile_f, ilt_t, ilt_f, i_add]
  intro rem
  induction rem with
  | zero =>
    intro x fuel fd hx hf hfd
    obtain ⟨f, rfl⟩ : ∃ f, fuel = f + 1 := ⟨fuel - 1, by omega⟩
    rw [f_X11_rests_62.eq_2]
    show _ = some (if i = no1 then _ else _, _)
    simp (disch := omega) only [obs, cN_mk, ite_true, ite_false, if_true, if_false, l3, ilt_t, l1, no1_e]
    by_cases hi : i = no1
    · simp [hi]
    · simp [hi]
  | succ rem ih =>
    intro x fuel fd hx hf hfd
    obtain ⟨f, rfl⟩ : ∃ f, fuel = f + 1 := ⟨fuel - 1, by omega⟩
    rw [f_X11_rests_62.eq_2, if_neg (show ¬ (3 : Int32) < Int32.ofNat x by rw [l3, i_lt (by omega) (by omega)]; omega), l0]
    have q0' : 2 * x / 2 = x ∧ 2 * x % 2 = 0 := by omega
    have q1' : (2 * x + 1) / 2 = x ∧ (2 * x + 1) % 2 = 1 := by omega
    rw [show 2 * (rem + 1) = 2 * rem + 1 + 1 by omega, rsl, rsl, rsl, q0'.1, q0'.2, q1'.1, q1'.2]
    have nxt : ∀ fd, fd ≤ 2 * (x + 1) → f_X11_rests_71 (f_X11_rests_62 f) (fu - 2) 0 i (Int32.ofNat fd) (Int32.ofNat x) (Int32.ofNat (1 + 1)) (mkH n z D m j r) = some (rsl (iR G H) i (2 * rem) (2 * x + 1 + 1) fd, (mkH n z D m j r)) := by
      intro fd hfd
      rw [show fu - 2 = (fu - 3) + 1 from rfl, show (1 + 1) = 2 from rfl, en, ih (x + 1) f fd (by omega) (by omega) hfd]
      rfl
    have mid : ∀ fd, fd ≤ 2 * x + 1 → f_X11_rests_71 (f_X11_rests_62 f) (fu - 1) 0 i (Int32.ofNat fd) (Int32.ofNat x) (Int32.ofNat (0 + 1)) (mkH n z D m j r) = some (if iR G H x 1 = true then (if Int32.ofNat fd = i then Int32.ofNat (10 * x + 1) else rsl (iR G H) i (2 * rem) (2 * x + 1 + 1) (fd + 1)) else rsl (iR G H) i (2 * rem) (2 * x + 1 + 1) fd, (mkH n z D m j r)) := by
      intro fd hfd
      rw [show fu - 1 = (fu - 2) + 1 from rfl, show (0 + 1) = 1 from rfl, st _ _ x 1 fd (by omega) (by omega) (by omega), nxt fd (by omega), nxt (fd + 1) (by omega)]
      split
      · split <;> rfl
      · rfl
    rw [show fu = (fu - 1) + 1 from rfl, st _ _ x 0 fd (by omega) (by omega) (by omega), mid fd (by omega), mid (fd + 1) (by omega)]
    split
    · split <;> rfl
    · rfl
def S92 (mm : MI) (G H : Nat → Nat → Int32) : Prop := ∀ x y, x < 4 → y < 2 → mm 92 (4 * x + 2 * y) = G x y ∧ mm 92 (4 * x + 2 * y + 1) = H x y
theorem M_rests {i : Int32} (h92 : S92 m G H) : ∀ rem x fuel fd, x + rem = 4 → rem < fuel → fd ≤ 2 * x → f_X12_rests_77 fuel 72 i (Int32.ofNat fd) (Int32.ofNat x) (mkH n z D m j r) = some (rsl (iR G H) i (2 * rem) (2 * x) fd, (mkH n z D m j r)) := by
  have lp : ∀ (k77 : Nat → Int32 → Int32 → Int32 → AH → Option (Int32 × AH)) (k86 : Nat → Int32 → Int32 → Int32 → Int32 → AH → Option (Int32 × AH)) x y fd (t : Bool), x < 4 → y < 2 → fd < 100 → ∀ rem k fuel, k + rem = 4 → rem < fuel → f_X12_rests_139 k77 k86 fuel 72 i (Int32.ofNat fd) (Int32.ofNat x) (Int32.ofNat y) (bI (t && aG G x y k)) (Int32.ofNat k) (mkH n z D m j r) = if (t && aG G x y 4) = true then (if Int32.ofNat fd = i then some (Int32.ofNat (10 * x + y), (mkH n z D m j r)) else k86 72 i (Int32.ofNat (fd + 1)) (Int32.ofNat x) (Int32.ofNat (y + 1)) (mkH n z D m j r)) else k86 72 i (Int32.ofNat fd) (Int32.ofNat x) (Int32.ofNat (y + 1)) (mkH n z D m j r) := by
    intro k77 k86 x y fd t hx hy hfd rem
    induction rem with
    | zero =>
      intro k fuel hk hf
      obtain ⟨f, rfl⟩ : ∃ f, fuel = f + 1 := ⟨fuel - 1, by omega⟩
      have : k = 4 := by omega
      subst this
      rw [f_X12_rests_139.eq_2]
      cases hB : (t && aG G x y 4) with
      | false => simp (disch := omega) only [obs, cN_mk, ite_true, ite_false, if_true, if_false, l0, l1, no1_e, bI_t, bI_f, ieq_f, ile_t, ile_f, ilt_t, ilt_f, l4, f_X12_rests_220, i_add, Bool.false_eq_true]
      | true => simp (disch := omega) only [obs, cN_mk, ite_true, ite_false, if_true, if_false, l0, l1, no1_e, bI_t, bI_f, ieq_f, ile_t, ile_f, ilt_t, ilt_f, l4, f_X12_rests_220, i_add, l10, i_mul]
    | succ rem ih =>
      intro k fuel hk hf
      obtain ⟨f, rfl⟩ : ∃ f, fuel = f + 1 := ⟨fuel - 1, by omega⟩
      have ih := ih (k + 1) f (by omega) (by omega)
      have u1 := (h92 k y (by omega) hy).1
      have u2 := (h92 x y hx hy).1
      rw [f_X12_rests_139.eq_2, ← ih, aG, ← Bool.and_assoc]
      cases hB : (t && aG G x y k) with
      | false => simp (disch := omega) only [obs, cN_mk, ite_true, ite_false, if_true, if_false, l0, l1, no1_e, bI_t, bI_f, ieq_f, ile_t, ile_f, ilt_t, ilt_f, l4, f_X12_rests_185, f_X12_rests_186, i_add, Bool.false_and]
      | true =>
        by_cases hh : G k y ≤ G x y
        · simp (disch := omega) only [obs, cN_mk, ite_true, ite_false, if_true, if_false, l0, l1, no1_e, bI_t, bI_f, ieq_f, ile_t, ile_f, ilt_t, ilt_f, l4, l2, q72, i_mul, i_add, p92, u1, u2, eq_false (Int32.not_lt.mpr hh), f_X12_rests_186, Bool.true_and, decide_eq_true hh]
        · simp (disch := omega) only [obs, cN_mk, ite_true, ite_false, if_true, if_false, l0, l1, no1_e, bI_t, bI_f, ieq_f, ile_t, ile_f, ilt_t, ilt_f, l4, l2, q72, i_mul, i_add, p92, u1, u2, eq_true (Int32.not_le.mp hh), f_X12_rests_185, f_X12_rests_186, Bool.true_and, decide_eq_false hh]
  have st : ∀ (k77 : Nat → Int32 → Int32 → Int32 → AH → Option (Int32 × AH)) f x y fd, x < 4 → y < 2 → fd < 100 → f_X12_rests_86 k77 (f + 1) 72 i (Int32.ofNat fd) (Int32.ofNat x) (Int32.ofNat y) (mkH n z D m j r) = if iR G H x y = true then (if Int32.ofNat fd = i then some (Int32.ofNat (10 * x + y), (mkH n z D m j r)) else f_X12_rests_86 k77 f 72 i (Int32.ofNat (fd + 1)) (Int32.ofNat x) (Int32.ofNat (y + 1)) (mkH n z D m j r)) else f_X12_rests_86 k77 f 72 i (Int32.ofNat fd) (Int32.ofNat x) (Int32.ofNat (y + 1)) (mkH n z D m j r) := by
    intro k77 f x y fd hx hy hfd
    have u1 := (h92 x (1 - y) hx (by omega)).2
    have u2 := (h92 x y hx hy).2
    have e := lp k77 (f_X12_rests_86 k77 f) x y fd (decide (H x (1 - y) ≤ H x y)) hx hy hfd 4 0 fu (by omega) (by unfold fu; omega)
    rw [aG, Bool.and_true] at e
    rw [f_X12_rests_86.eq_2]
    unfold iR
    rw [← e]
    by_cases hh : H x (1 - y) ≤ H x y
    · simp (disch := omega) only [obs, cN_mk, ite_true, ite_false, if_true, if_false, l0, l1, no1_e, bI_t, bI_f, ieq_f, ile_t, ile_f, ilt_t, ilt_f, l4, l2, q72, i_mul, i_sub, i_add, p92, u1, u2, eq_false (Int32.not_lt.mpr hh), f_X12_rests_134, decide_eq_true hh]
    · simp (disch := omega) only [obs, cN_mk, ite_true, ite_false, if_true, if_false, l0, l1, no1_e, bI_t, bI_f, ieq_f, ile_t, ile_f, ilt_t, ilt_f, l4, l2, q72, i_mul, i_sub, i_add, p92, u1, u2, eq_true (Int32.not_le.mp hh), f_X12_rests_134, decide_eq_false hh]
  have en : ∀ (k77 : Nat → Int32 → Int32 → Int32 → AH → Option (Int32 × AH)) f x fd, f_X12_rests_86 k77 (f + 1) 72 i (Int32.ofNat fd) (Int32.ofNat x) (Int32.ofNat 2) (mkH n z D m j r) = k77 72 i (Int32.ofNat fd) (Int32.ofNat (x + 1)) (mkH n z D m j r) := by
    intro k77 f x fd
    rw [f_X12_rests_86.eq_2]
    simp (disch := omega) only [obs, cN_mk, ite_true, ite_false, if_true, if_false, l0, l1, no1_e, bI_t, bI_f, ieq_f, ile_t, ile_f, ilt_t, ilt_f, l2, i_add]
  intro rem
  induction rem with
  | zero =>
    intro x fuel fd hx hf hfd
    obtain ⟨f, rfl⟩ : ∃ f, fuel = f + 1 := ⟨fuel - 1, by omega⟩
    rw [f_X12_rests_77.eq_2]
    show _ = some (if i = no1 then _ else _, _)
    simp (disch := omega) only [obs, cN_mk, ite_true, ite_false, if_true, if_false, l4, ile_t, l1, no1_e]
    by_cases hi : i = no1
    · simp [hi]
    · simp [hi]
  | succ rem ih =>
    intro x fuel fd hx hf hfd
    obtain ⟨f, rfl⟩ : ∃ f, fuel = f + 1 := ⟨fuel - 1, by omega⟩
    rw [f_X12_rests_77.eq_2, if_neg (show ¬ (4 : Int32) ≤ Int32.ofNat x by rw [l4, i_le (by omega) (by omega)]; omega), l0]
    have q0' : 2 * x / 2 = x ∧ 2 * x % 2 = 0 := by omega
    have q1' : (2 * x + 1) / 2 = x ∧ (2 * x + 1) % 2 = 1 := by omega
    rw [show 2 * (rem + 1) = 2 * rem + 1 + 1 by omega, rsl, rsl, rsl, q0'.1, q0'.2, q1'.1, q1'.2]
    have nxt : ∀ fd, fd ≤ 2 * (x + 1) → f_X12_rests_86 (f_X12_rests_77 f) (fu - 2) 72 i (Int32.ofNat fd) (Int32.ofNat x) (Int32.ofNat (1 + 1)) (mkH n z D m j r) = some (rsl (iR G H) i (2 * rem) (2 * x + 1 + 1) fd, (mkH n z D m j r)) := by
      intro fd hfd
      rw [show fu - 2 = (fu - 3) + 1 from rfl, show (1 + 1) = 2 from rfl, en, ih (x + 1) f fd (by omega) (by omega) hfd]
      rfl
    have mid : ∀ fd, fd ≤ 2 * x + 1 → f_X12_rests_86 (f_X12_rests_77 f) (fu - 1) 72 i (Int32.ofNat fd) (Int32.ofNat x) (Int32.ofNat (0 + 1)) (mkH n z D m j r) = some (if iR G H x 1 = true then (if Int32.ofNat fd = i then Int32.ofNat (10 * x + 1) else rsl (iR G H) i (2 * rem) (2 * x + 1 + 1) (fd + 1)) else rsl (iR G H) i (2 * rem) (2 * x + 1 + 1) fd, (mkH n z D m j r)) := by
      intro fd hfd
      rw [show fu - 1 = (fu - 2) + 1 from rfl, show (0 + 1) = 1 from rfl, st _ _ x 1 fd (by omega) (by omega) (by omega), nxt fd (by omega), nxt (fd + 1) (by omega)]
      split
      · split <;> rfl
      · rfl
    rw [show fu = (fu - 1) + 1 from rfl, st _ _ x 0 fd (by omega) (by omega) (by omega), mid fd (by omega), mid (fd + 1) (by omega)]
    split
    · split <;> rfl
    · rfl
theorem Q_rests (hc : EC n z D pl LC m r C P τ σ) (hm : EM n z D pl LM m1 j1 C P τ σ) (x1 x2 x3 : Int32) : QQ n z D LM m j r m1 j1 r1 (f_X11_rests 0 x1 x2 x3) (f_X12_rests 72 x1 x2 x3) := by
  have hW := hc.1
  have hY := hc.2.2.1
  have hP := hW.2.1
  have hC := hW.1
  cases i1 : im x1 0 P with
  | false =>
    refine ⟨no1, QC_e ?_, ?_⟩
    · unfold f_X11_rests f_X11_rests_0
      simp (disch := omega) only [obs, cN_mk, ite_true, ite_false, if_true, if_false, q0, C_hasPerson hY, i1, l0, l1, no1_e, bI_t, bI_f, ieq_f, ile_t, ile_f, ilt_t, ilt_f]
    · unfold f_X12_rests f_X12_rests_0
      refine QM_s hm fun m2 _ h2 => QM_e h2 ?_
      simp (disch := omega) only [obs, cN_mk, ite_true, ite_false, if_true, if_false, q72, M_isPerson h2.2.2.1, i1, l0, l1, no1_e, bI_t, bI_f, ieq_f, ile_t, ile_f, ilt_t, ilt_f]
  | true =>
    obtain ⟨p, -, hp, rfl⟩ := im_t (by omega) (by omega) i1
    cases i2 : im x2 0 C with
    | false =>
      refine ⟨no1, QC_e ?_, ?_⟩
      · unfold f_X11_rests f_X11_rests_0
        simp (disch := omega) only [obs, cN_mk, ite_true, ite_false, if_true, if_false, q0, C_hasPerson hY, C_hasCorner hY, i1, i2, l0, l1, no1_e, bI_t, bI_f, ieq_f, ile_t, ile_f, ilt_t, ilt_f]
      · unfold f_X12_rests f_X12_rests_0
        refine QM_s hm fun m2 _ h2 => QM_e h2 ?_
        simp (disch := omega) only [obs, cN_mk, ite_true, ite_false, if_true, if_false, q72, M_isPerson h2.2.2.1, M_isCorner h2.2.2.1, i1, i2, l0, l1, no1_e, bI_t, bI_f, ieq_f, ile_t, ile_f, ilt_t, ilt_f]
    | true =>
      obtain ⟨c, -, hcC, rfl⟩ := im_t (by omega) (by omega) i2
      by_cases hy : x3 < no1
      · refine ⟨no1, QC_e ?_, ?_⟩
        · unfold f_X11_rests f_X11_rests_0
          simp (disch := omega) only [obs, cN_mk, ite_true, ite_false, if_true, if_false, q0, C_hasPerson hY, C_hasCorner hY, i1, i2, l0, l1, no1_e, bI_t, bI_f, ieq_f, ile_t, ile_f, ilt_t, ilt_f, no1_le_f hy]
        · unfold f_X12_rests f_X12_rests_0
          refine QM_s hm fun m2 _ h2 => QM_e h2 ?_
          simp (disch := omega) only [obs, cN_mk, ite_true, ite_false, if_true, if_false, q72, M_isPerson h2.2.2.1, M_isCorner h2.2.2.1, i1, i2, l0, l1, no1_e, bI_t, bI_f, ieq_f, ile_t, ile_f, ilt_t, ilt_f, no1_le_f hy]
      have hyl : (no1 ≤ x3) = True := eq_true (Int32.not_lt.mp hy)
      generalize hG : (fun x y => gB (ax pl C τ (gS σ p c x y) p) c x) = G
      generalize hH : (fun x y => gG (ax pl C τ (gS σ p c x y) p) (wln C τ p y)) = H
      have Ge : ∀ x y, gB (ax pl C τ (gS σ p c x y) p) c x = G x y := fun x y => by rw [← hG]
      have He : ∀ x y, gG (ax pl C τ (gS σ p c x y) p) (wln C τ p y) = H x y := fun x y => by rw [← hH]
      refine ⟨rsl (iR G H) x3 8 0 0, ?_, ?_⟩
      · have key : ∀ rem x fuel (mm : MI), x + rem = 4 → rem < fuel → EC n z D pl LC mm r C P τ σ → FQc m mm → S71 mm G H x → ∃ m', f_X11_rests_26 fuel 0 (Int32.ofNat p) (Int32.ofNat c) x3 (Int32.ofNat x) (mkH n z D mm j r) = f_X11_rests_62 fu 0 x3 (Int32.ofNat 0) (Int32.ofNat 0) (mkH n z D m' j r) ∧ FQc m m' ∧ S71 m' G H 4 := by
          intro rem
          induction rem with
          | zero =>
            intro x fuel mm hx hf a1 a2 a3
            obtain ⟨f, rfl⟩ : ∃ f, fuel = f + 1 := ⟨fuel - 1, by omega⟩
            have : x = 4 := by omega
            subst this
            refine ⟨mm, ?_, a2, a3⟩
            rw [f_X11_rests_26.eq_2]
            simp (disch := omega) only [obs, cN_mk, ite_true, ite_false, if_true, if_false, l3, ilt_t, l0]
          | succ rem ih =>
            intro x fuel mm hx hf a1 a2 a3
            obtain ⟨f, rfl⟩ : ∃ f, fuel = f + 1 := ⟨fuel - 1, by omega⟩
            obtain ⟨m', e, b1, b2, b3⟩ := C_playGame (j := j) (x := x) (y := 0) a1 hp hcC (by omega) (by omega)
            obtain ⟨m'', e', c1, c2, c3⟩ := C_playGame (j := j) (x := x) (y := 1) b1 hp hcC (by omega) (by omega)
            rw [Ge, He] at b3 c3
            have hS' : S71 m'' G H (x + 1) := by
              intro x' y' hx' hy'
              by_cases hxx : x' = x
              · subst hxx
                rcases (show y' = 0 ∨ y' = 1 by omega) with rfl | rfl
                · refine ⟨?_, ?_⟩
                  · rw [c3, if_neg (by omega), if_neg (by omega), b3, if_pos rfl]
                  · rw [c3, if_neg (by omega), if_neg (by omega), b3, if_neg (by omega), if_pos rfl]
                · refine ⟨?_, ?_⟩
                  · rw [c3, if_pos rfl]
                  · rw [c3, if_neg (by omega), if_pos rfl]
              · have := a3 x' y' (by omega) hy'
                refine ⟨?_, ?_⟩
                · rw [c3, if_neg (by omega), if_neg (by omega), b3, if_neg (by omega), if_neg (by omega)]; exact this.1
                · rw [c3, if_neg (by omega), if_neg (by omega), b3, if_neg (by omega), if_neg (by omega)]; exact this.2
            obtain ⟨m9, e9, d⟩ := ih (x + 1) f m'' (by omega) (by omega) c1 (FQc_tr a2 (FQc_tr b2 c2)) hS'
            refine ⟨m9, ?_, d⟩
            rw [f_X11_rests_26.eq_2, ← e9]
            simp (disch := omega) only [obs, cN_mk, ite_true, ite_false, if_true, if_false, l3, ilt_f, q0, l0, l1, e, e', i_add]
        obtain ⟨m', e, f', h71⟩ := key 4 0 fu m (by omega) (by unfold fu; omega) hc FQc_refl (fun x y hx => absurd hx (by omega))
        refine ⟨m', ?_, f'⟩
        have e2 := C_rests (n := n) (z := z) (D := D) (j := j) (r := r) (i := x3) h71 4 0 fu 0 (by omega) (by unfold fu; omega) (by omega)
        unfold f_X11_rests f_X11_rests_0
        simp (disch := omega) only [obs, cN_mk, ite_true, ite_false, if_true, if_false, q0, C_hasPerson hY, C_hasCorner hY, i1, i2, l0, l1, no1_e, bI_t, bI_f, ieq_f, ile_t, ile_f, ilt_t, ilt_f, hyl]
        rw [e]
        exact e2
      · unfold f_X12_rests f_X12_rests_0
        refine QM_s hm fun m2 _ h2 => ?_
        have key : ∀ rem k fuel (mm : MI) (jj : MJ) (rr : MR), k + rem = 16 → rem < fuel → EM n z D pl LM mm jj C P τ σ → FQm m2 mm j1 jj r1 rr → (∀ q, q < k → mm 92 q = if q % 2 = 0 then G (q / 4) (q / 2 % 2) else H (q / 4) (q / 2 % 2)) → ∃ m' j' r', f_X12_rests_31 fuel 72 (Int32.ofNat p) (Int32.ofNat c) x3 (Int32.ofNat k) (mkH n z D mm jj rr) = f_X12_rests_77 fu 72 x3 (Int32.ofNat 0) (Int32.ofNat 0) (mkH n z D m' j' r') ∧ LM m' j' ∧ FQm m2 m' j1 j' r1 r' ∧ (∀ q, q < 16 → m' 92 q = if q % 2 = 0 then G (q / 4) (q / 2 % 2) else H (q / 4) (q / 2 % 2)) := by
          intro rem
          induction rem with
          | zero =>
            intro k fuel mm jj rr hk hf a1 a2 a3
            obtain ⟨f, rfl⟩ : ∃ f, fuel = f + 1 := ⟨fuel - 1, by omega⟩
            have : k = 16 := by omega
            subst this
            refine ⟨mm, jj, rr, ?_, a1.2.2.2.2.2, a2, a3⟩
            rw [f_X12_rests_31.eq_2]
            simp (disch := omega) only [obs, cN_mk, ite_true, ite_false, if_true, if_false, l16, ile_t, l0]
          | succ rem ih =>
            intro k fuel mm jj rr hk hf a1 a2 a3
            obtain ⟨f, rfl⟩ : ∃ f, fuel = f + 1 := ⟨fuel - 1, by omega⟩
            obtain ⟨m', j', r', e, b1, b2, b3⟩ := M_gameOf (r := rr) (x := k / 4) (y := k / 2 % 2) (k := k % 2) a1 hp hcC (by omega) (by omega) (by omega)
            have eV : gV2 (ax pl C τ (gS σ p c (k / 4) (k / 2 % 2)) p) c (k / 4) (wln C τ p (k / 2 % 2)) (k % 2) = if k % 2 = 0 then G (k / 4) (k / 2 % 2) else H (k / 4) (k / 2 % 2) := by
              unfold gV2
              rw [Ge, He]
            rw [eV] at e
            have hq : FQm m' (wI m' 92 k (if k % 2 = 0 then G (k / 4) (k / 2 % 2) else H (k / 4) (k / 2 % 2))) j' j' r' r' := FQm_a (fun a _ ha => wI_ne ha)
            have hl9 : LM (wI m' 92 k (if k % 2 = 0 then G (k / 4) (k / 2 % 2) else H (k / 4) (k / 2 % 2))) j' := b1.2.2.2.2.1.2.1 m' _ j' j' b1.2.2.2.2.2 (fun a ha => wI_ne (by omega)) (by rw [wI_ne (by omega)]) (by rw [wI_ne (by omega)]) rfl
            obtain ⟨m9, j9, r9, e9, d⟩ := ih (k + 1) f (wI m' 92 k (if k % 2 = 0 then G (k / 4) (k / 2 % 2) else H (k / 4) (k / 2 % 2))) j' r' (by omega) (by omega) (EM_q b1 hq hl9) (FQm_tr a2 (FQm_tr b2 hq)) (fun q hq => by
              by_cases hqk : q = k
              · subst hqk; rw [wI_se]
              · rw [wI_sn hqk, b3]; exact a3 q (by omega))
            refine ⟨m9, j9, r9, ?_, d⟩
            have d1 : Int32.ofNat k / Int32.ofNat 4 = Int32.ofNat (k / 4) := i_div (by omega) (by omega)
            have d2 : Int32.ofNat k / Int32.ofNat 2 = Int32.ofNat (k / 2) := i_div (by omega) (by omega)
            have d4 : Int32.ofNat (k / 2) / Int32.ofNat 2 = Int32.ofNat (k / 2 / 2) := i_div (by omega) (by omega)
            have d3 : Int32.ofNat (k / 2) - Int32.ofNat (k / 2 / 2) * Int32.ofNat 2 = Int32.ofNat (k / 2 % 2) := by
              rw [← d4]; exact i_mod (by omega) (by omega)
            have d5 : Int32.ofNat k - Int32.ofNat (k / 2) * Int32.ofNat 2 = Int32.ofNat (k % 2) := by
              rw [← d2]; exact i_mod (by omega) (by omega)
            rw [f_X12_rests_31.eq_2, ← e9]
            simp (disch := omega) only [obs, cN_mk, ite_true, ite_false, if_true, if_false, l16, ile_f, q72, l4, l2, d1, d2, d4, d3, d5, e, p92, l1, i_add]
        obtain ⟨m', j', r', e, hl, f', h92⟩ := key 16 0 fu m2 j1 r1 (by omega) (by unfold fu; omega) h2 FQm_refl (fun q hq => absurd hq (by omega))
        have h92' : S92 m' G H := by
          intro x y hx hy
          have g1 := h92 (4 * x + 2 * y) (by omega)
          have g2 := h92 (4 * x + 2 * y + 1) (by omega)
          rw [if_pos (by omega), show (4 * x + 2 * y) / 4 = x by omega, show (4 * x + 2 * y) / 2 % 2 = y by omega] at g1
          rw [if_neg (by omega), show (4 * x + 2 * y + 1) / 4 = x by omega, show (4 * x + 2 * y + 1) / 2 % 2 = y by omega] at g2
          exact ⟨g1, g2⟩
        refine ⟨m', j', r', ?_, hl, f'⟩
        have e2 := M_rests (n := n) (z := z) (D := D) (j := j') (r := r') (i := x3) h92' 4 0 fu 0 (by omega) (by unfold fu; omega) (by omega)
        simp (disch := omega) only [obs, cN_mk, ite_true, ite_false, if_true, if_false, q72, M_isPerson h2.2.2.1, M_isCorner h2.2.2.1, i1, i2, l0, l1, no1_e, bI_t, bI_f, ieq_f, ile_t, ile_f, ilt_t, ilt_f, hyl]
        rw [e]
        exact e2
end RESTS
