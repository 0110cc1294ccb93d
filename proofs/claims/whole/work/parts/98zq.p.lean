/-! The start holds, and the law of the whole. -/
def vI (o : Option Value) : Int32 := match o with | some (.int x) => x | _ => 0
def vJ (o : Option Value) : Int64 := match o with | some (.long x) => x | _ => 0
def vR (o : Option Value) : Option Nat := match o with | some (.ref x) => some x | _ => none
theorem okV_of {v : Value} {p : FK} {i : Nat} {x : Nat → Int32} {y : Nat → Int64} {q : Nat → Option Nat} (h : okV v p = true) (hx : x i = vI (some v)) (hy : y i = vJ (some v)) (hq : q i = vR (some v)) : v = fvOf p i x y q := by
  rcases p with ⟨_ | _ | _ | _ | a, b⟩
  · cases v <;> first | (show _ = Value.int (x i); rw [hx]; rfl) | (simp [okV] at h)
  · cases v <;> first | (simp [okV] at h; done) | (exact congrArg Value.ref (of_decide_eq_true h))
  · cases v <;> first | (show _ = Value.long (y i); rw [hy]; rfl) | (simp [okV] at h)
  · cases v <;> first | (show _ = qV (q i); rw [hq]; rfl) | (simp [okV] at h)
  · cases v <;> simp [okV] at h
theorem okFs_of {x : Nat → Int32} {y : Nat → Int64} {q : Nat → Option Nat} : ∀ (fs : List Value) (ps : List FK) (i : Nat), okFs fs ps = true → (∀ t, t < fs.length → x (i + t) = vI fs[t]? ∧ y (i + t) = vJ fs[t]? ∧ q (i + t) = vR fs[t]?) → fs = fsOf x y q i ps
  | [], [], _, _, _ => rfl
  | [], _ :: _, _, h, _ => by simp [okFs] at h
  | _ :: _, [], _, h, _ => by simp [okFs] at h
  | v :: vs, p :: ps, i, h, hx => by
    have h := Bool.and_eq_true_iff.mp (show (okV v p && okFs vs ps) = true from h)
    have h0 := hx 0 (by simp)
    have e1 : v = fvOf p i x y q := okV_of h.1 (by simpa using h0.1) (by simpa using h0.2.1) (by simpa using h0.2.2)
    have e2 : vs = fsOf x y q (i + 1) ps := okFs_of vs ps (i + 1) h.2 (fun t ht => by
      have := hx (t + 1) (by simp; omega)
      rw [show i + 1 + t = i + (t + 1) by omega]
      simpa using this)
    show v :: vs = fvOf p i x y q :: fsOf x y q (i + 1) ps
    rw [← e1, ← e2]
theorem okE_of {e : Option AE} {s : Option Shp} (h : okE e s = true) : e = s.map (fun s => cellOf s (mOf e) (jOf e) (rOf e)) := by
  rcases e with _ | ⟨⟨t, k, d⟩ | ⟨ci, fs⟩⟩
  · rcases s with _ | s
    · rfl
    · simp [okE] at h
  · rcases s with _ | ⟨⟨t', k'⟩ | ⟨ci', ps⟩⟩
    · rcases d with f | f | f | f | f <;> simp [okE] at h
    · rcases d with f | f | f | f | f
      · obtain ⟨rfl, rfl, h1, h2, h3⟩ := of_decide_eq_true (show decide _ = true from h)
        simp [cellOf, h1, h2, h3]
        rfl
      · obtain ⟨rfl, rfl, rfl⟩ := of_decide_eq_true (show decide _ = true from h)
        rfl
      · simp [okE] at h
      · simp [okE] at h
      · obtain ⟨rfl, rfl, h1⟩ := of_decide_eq_true (show decide _ = true from h)
        rcases h1 with rfl | rfl <;> rfl
    · rcases d with f | f | f | f | f <;> simp [okE] at h
  · rcases s with _ | ⟨⟨t', k'⟩ | ⟨ci', ps⟩⟩
    · simp [okE] at h
    · simp [okE] at h
    · have h := Bool.and_eq_true_iff.mp (show (decide (ci = ci') && okFs fs ps) = true from h)
      have e1 : ci = ci' := of_decide_eq_true h.1
      subst e1
      show some (Sum.inr (ci, fs)) = some (Sum.inr (ci, fsOf _ _ _ 0 ps))
      rw [← okFs_of fs ps 0 h.2 (fun t _ => by rw [Nat.zero_add]; exact ⟨rfl, rfl, rfl⟩)]
def m0 : MI := fun k => mOf (hE.2.2 k)
def j0 : MJ := fun k => jOf (hE.2.2 k)
def r0 : MR := fun k => rOf (hE.2.2 k)
theorem hE_mk : hE = mkH 95 hE.2.1 (fun _ => none) m0 j0 r0 := by
  have h1 : hE.1 = 95 := by decide +kernel
  have h2 : hE.2.2 = fun k => (SHP (fun _ => none) k).map (fun s => cellOf s (m0 k) (j0 k) (r0 k)) := funext fun k => by
    by_cases h : k < 95
    · exact okE_of (allOk k h)
    · obtain ⟨q, rfl⟩ : ∃ q, k = q + 95 := ⟨k - 95, by omega⟩
      rw [hE_n]
      unfold SHP
      rw [if_neg (by omega)]
      rfl
  exact Prod.ext h1 (Prod.ext rfl h2)
theorem INV0 : INV 95 (fun _ => none) m0 j0 r0 := by
  refine ⟨(fun _ => 1, 0), 0, 0, fun _ _ => 0, fun _ _ => 0, fun _ => (0, 0, 0), 0, 0, fun _ _ _ => 0, false, fun _ _ => 0, fun _ => (0, 0, 0), 0, 0, fun _ _ => 0, fun _ => 0, fun _ => [], 0, fun _ => [], 2, 0, fun _ _ => 0, ?_, ?_, ?_⟩
  · exact ⟨⟨by omega, by omega, fun h => absurd h (Nat.not_lt_zero _), fun _ => rfl, Nat.zero_le _, Nat.zero_le _, fun p hp => absurd hp (Nat.not_lt_zero _)⟩, ⟨fun p hp => absurd hp (Nat.not_lt_zero _), fun p hp => absurd hp (Nat.not_lt_zero _), Nat.zero_le _, Nat.zero_le _, Nat.zero_le _⟩, fun _ => ⟨(by show (0 : Nat) < 64; omega), (by show (0 : Nat) < 64; omega), Nat.zero_le _⟩, ⟨fun p hp => absurd hp (Nat.not_lt_zero _), fun p hp => absurd hp (Nat.not_lt_zero _), fun k hk => absurd hk (Nat.succ_ne_zero _)⟩, (fun h => by cases h), ⟨by omega, by omega, fun p hp => absurd hp (Nat.not_lt_zero _)⟩, ⟨by omega, fun p hp => absurd hp (Nat.not_lt_zero _)⟩, by omega, by omega, fun p hp => absurd hp (Nat.not_lt_zero _)⟩
  · have r40 : ∀ i, i < 40 → r0 40 i = none := by decide +kernel
    exact ⟨⟨⟨by decide +kernel, by omega, fun p hp => absurd hp (Nat.not_lt_zero _)⟩, ⟨by decide +kernel, by decide +kernel, by decide +kernel, by decide +kernel, fun p hp => absurd hp (Nat.not_lt_zero _)⟩, ⟨by decide +kernel, fun h => by cases h⟩, ⟨by decide +kernel, by decide +kernel, fun p hp => absurd hp (Nat.not_lt_zero _), by decide +kernel⟩, ⟨by decide +kernel, fun p hp => absurd hp (Nat.not_lt_zero _)⟩, by decide +kernel, ⟨by decide +kernel, fun p hp => absurd hp (Nat.not_lt_zero _)⟩⟩, ⟨fun p hp => absurd hp (Nat.not_lt_zero _), fun p hp => absurd hp (Nat.not_lt_zero _), by decide +kernel, by decide +kernel, by decide +kernel⟩, fun p hp => absurd hp (Nat.not_lt_zero _), ⟨by decide +kernel, by decide +kernel, by omega, by omega, fun p hp => absurd hp (Nat.not_lt_zero _)⟩, by omega, fun _ _ => rfl, (fun i hi s hs => by rw [r40 i hi] at hs; cases hs), (fun i i' s hi _ hs _ => by rw [r40 i hi] at hs; cases hs), fun p hp => absurd hp (Nat.not_lt_zero _), fun p hp => absurd hp (Nat.not_lt_zero _), (fun s hs => by cases hs)⟩
  · exact ⟨⟨⟨by decide +kernel, fun p hp => absurd hp (Nat.not_lt_zero _)⟩, ⟨by decide +kernel, by decide +kernel, by decide +kernel, by decide +kernel, fun p hp => absurd hp (Nat.not_lt_zero _)⟩, ⟨by decide +kernel, fun h => by cases h⟩, ⟨by decide +kernel, by decide +kernel, fun p hp => absurd hp (Nat.not_lt_zero _), ⟨fun _ => 0, fun _ _ => ⟨(by show (-1000000 : Int) ≤ 0; omega), (by show (0 : Int) ≤ 1000000; omega)⟩, by decide +kernel, by decide +kernel, by decide +kernel, by decide +kernel, by decide +kernel, by decide +kernel⟩, fun p _ => Or.inl (j87 p)⟩, ⟨by decide +kernel, fun p hp => absurd hp (Nat.not_lt_zero _)⟩, by decide +kernel, ⟨by decide +kernel, fun p hp => absurd hp (Nat.not_lt_zero _)⟩⟩, ⟨fun p hp => absurd hp (Nat.not_lt_zero _), fun p hp => absurd hp (Nat.not_lt_zero _), by decide +kernel, by decide +kernel, by decide +kernel⟩, ⟨by decide +kernel, fun i t _ hi => absurd (Nat.lt_of_lt_of_le hi (Nat.min_le_right _ _)) (Nat.not_lt_zero _)⟩, by decide +kernel, by omega, fun p hp => absurd hp (Nat.not_lt_zero _)⟩
theorem cA_eq0 {α ρ : Type} {h h1 : AH} {v : α} {k : α → AH → Option (ρ × AH)} (hh : h.1 ≤ h1.1 ∧ h.2.1 ≤ h1.2.1) : cA (some (v, h1)) h k = ck h1 (k v h1) := if_pos hh
theorem pure_main (xs : Nat → Int32) (L : Nat) (hL : L ≤ 3072) : ∃ h1, f_L_law xs L h0 = some (1, h1) ∧ h1.1 ≤ 601024 ∧ h1.2.1 ≤ 7293033 := by
  obtain ⟨h1, e, ⟨a1, a2⟩, ⟨b1, b2⟩⟩ := L23 (xs := xs) (L := L) hL 512 0 fu 95 hE.2.1 (fun _ => none) m0 j0 r0 (by omega) (by unfold fu; omega) (by omega) INV0 (by omega)
  have z1 := hE_z
  have z2 := hB_z
  have z3 := hF_z
  have z4 : hE.2.1 = hF.2.1 + 1 := rfl
  have n1 := hB_1
  have n2 := hF_1
  refine ⟨h1, ?_, by omega, by omega⟩
  unfold f_L_law f_L_law_0
  refine ck_eq ?_ ⟨Nat.zero_le _, Nat.zero_le _⟩
  refine (if_pos (show (0 : Nat) < 1000000 by omega)).trans ?_
  refine ck_eq ?_ ⟨show 1 ≤ h1.1 by omega, show 19 ≤ h1.2.1 by omega⟩
  show cA (f_X11_init 0 hA) hA _ = _
  rw [hB_e, cA_eq0 ⟨show 1 ≤ hB.1 by omega, show 19 ≤ hB.2.1 by omega⟩]
  refine ck_eq ?_ ⟨by show hB.1 ≤ h1.1; omega, by show hB.2.1 ≤ h1.2.1; omega⟩
  refine (if_pos (show hB.1 < 1000000 by omega)).trans ?_
  refine ck_eq ?_ ⟨show hB.1 + 1 ≤ h1.1 by omega, show hB.2.1 + 50 ≤ h1.2.1 by omega⟩
  show cA (f_X12_init hB.1 hC) hC (fun _ h13 => nA 2 1 h13 fun w17 h18 => f_L_law_23 xs L fu 0 hB.1 w17 0 h18) = _
  rw [hB_1, hF_e, cA_eq0 ⟨show hB.1 + 1 ≤ hF.1 by omega, show hB.2.1 + 50 ≤ hF.2.1 by omega⟩]
  refine ck_eq ?_ ⟨by show hF.1 ≤ h1.1; omega, by show hF.2.1 ≤ h1.2.1; omega⟩
  refine (if_pos (show hF.1 < 1000000 ∧ ¬ (1 : Int32) < 0 ∧ (1 : Int32).toNatClampNeg ≤ 100000 from ⟨by omega, by decide, by decide⟩)).trans ?_
  refine ck_eq ?_ ⟨show hF.1 + 1 ≤ h1.1 by omega, show hF.2.1 + 1 ≤ h1.2.1 by omega⟩
  show f_L_law_23 xs L fu 0 72 hF.1 0 hE = _
  rw [hF_1, hE_mk]
  exact e
