/-! What was: acts, the log, the image. -/
abbrev LG : Type := Nat → Nat × Nat × Nat
def eL (x : Nat × Nat × Nat) : Nat := x.1 + 64 * x.2.1 + 4096 * x.2.2
def okL (x : Nat × Nat × Nat) : Prop := x.1 < 64 ∧ x.2.1 < 64 ∧ x.2.2 ≤ 999
/-- the class's rows tell the sixty days ahead of d -/
def RW (f : Nat → Int32) (d : Nat) (lg : LG) : Prop := ∀ e, e < d → d ≤ e + 60 → f (e % 100) = Int32.ofNat (eL (lg e))
def MLg (f : Nat → Int32) (d : Nat) (lg : LG) : Prop := f 31 = Int32.ofNat (min 60 d) ∧ ∀ i t, t < 3 → i < min 60 d → f (32 + 3 * i + t) = Int32.ofNat (lgn (lg (d - min 60 d + i)).1 (lg (d - min 60 d + i)).2.1 (lg (d - min 60 d + i)).2.2 t)
def slt (lt acts k : Nat) : Nat := (lt + 41 + k - acts) % 40
/-- an array that is no part of a State -/
def NS (D : Dyn) (o : Nat) : Prop := ∀ s, isSt D s → ¬ (s ≤ o ∧ o ≤ s + 5)
def DW (n : Nat) (D : Dyn) (r : MR) (A B : Nat) : Prop := 95 ≤ n ∧ (∀ a, n ≤ a → D a = none) ∧ (∀ i, i < 40 → ∀ s, r 40 i = some s → isSt D s ∧ 95 ≤ s ∧ s + 5 < n) ∧ (∀ i i' s, i < 40 → i' < 40 → r 40 i = some s → r 40 i' = some s → i = i') ∧ (∀ l, l < A → ∀ o, r 61 l = some o → o < n ∧ 95 ≤ o ∧ NS D o) ∧ (∀ p, p < B → ∀ o, r 66 p = some o → o < n ∧ 95 ≤ o ∧ NS D o) ∧ (∀ s, D s = some (oState s) → 95 ≤ s → s + 5 < n)
def HC (m : MI) (r : MR) (C P acts lt : Nat) (hs : Nat → Sg) (lg : LG) : Prop := m 39 2 = Int32.ofNat acts ∧ m 39 1 = Int32.ofNat lt ∧ lt < 40 ∧ acts ≤ 40 ∧ (∀ k, k < acts → (∃ s, r 40 (slt lt acts k) = some s ∧ CS m s (hs k) C P) ∧ RW (m 41) (hs k 7 0) lg)
def HM (m : MI) (C P acts : Nat) (hs : Nat → Sg) (lg : LG) : Prop := m 72 43 = Int32.ofNat acts ∧ acts ≤ 40 ∧ (∀ k, k < acts → MS (fun q => m 90 (212 * k + q)) (hs k) C P ∧ MLg (fun q => m 90 (212 * k + q)) (hs k 7 0) lg)
/-- the days of what was go up by at most one -/
def WH (C P acts : Nat) (hs : Nat → Sg) (σ : Sg) : Prop := (∀ k, k < acts → WS C P 999 (hs k)) ∧ (∀ k, k + 1 < acts → hs k 7 0 ≤ hs (k + 1) 7 0 ∧ hs (k + 1) 7 0 ≤ hs k 7 0 + 1) ∧ (∀ k, k + 1 = acts → hs k 7 0 ≤ σ 7 0 ∧ σ 7 0 ≤ hs k 7 0 + 1)
def kp (acts : Nat) (hs : Nat → Sg) (σ : Sg) : Nat → Sg := fun k => if k + 1 = min 40 (acts + 1) then σ else if acts = 40 then hs (k + 1) else hs k
theorem isSt_d {D : Dyn} {s s' : Nat} (h : isSt D s) (h' : isSt D s') (hn : s ≠ s') : s + 5 < s' ∨ s' + 5 < s := by
  have key : ∀ a b, isSt D a → isSt D b → a < b → a + 5 < b := by
    intro a b ha hb hab
    by_cases h5 : a + 5 < b
    · exact h5
    · exfalso
      have hb1 := hb.1
      obtain ⟨-, a1, a2, a3, a4, a5⟩ := ha
      rcases (show b = a + 1 ∨ b = a + 2 ∨ b = a + 3 ∨ b = a + 4 ∨ b = a + 5 by omega) with rfl | rfl | rfl | rfl | rfl
      · rw [a1] at hb1; cases hb1
      · rw [a2] at hb1; cases hb1
      · rw [a3] at hb1; cases hb1
      · rw [a4] at hb1; cases hb1
      · rw [a5] at hb1; cases hb1
  rcases Nat.lt_or_gt_of_ne hn with h1 | h1
  · exact Or.inl (key s s' h h' h1)
  · exact Or.inr (key s' s h' h h1)
theorem MS_cg {f f' : Nat → Int32} {σ : Sg} {C P : Nat} (h : MS f σ C P) (hC : C ≤ 5) (hP : P ≤ 6) (e : ∀ q, q < 31 → f' q = f q) : MS f' σ C P := by
  obtain ⟨a1, a2, a5, a6, a7⟩ := h
  exact ⟨fun c hc => ⟨by rw [e _ (by omega)]; exact (a1 c hc).1, by rw [e _ (by omega)]; exact (a1 c hc).2⟩, fun p hp => ⟨by rw [e _ (by omega)]; exact (a2 p hp).1, by rw [e _ (by omega)]; exact (a2 p hp).2.1, by rw [e _ (by omega)]; exact (a2 p hp).2.2⟩, by rw [e _ (by omega)]; exact a5, by rw [e _ (by omega)]; exact a6, by rw [e _ (by omega)]; exact a7⟩
theorem MLg_cg {f f' : Nat → Int32} {d : Nat} {lg lg' : LG} (h : MLg f d lg) (e : ∀ q, 31 ≤ q → q < 212 → f' q = f q) (el : ∀ k, k < d → lg' k = lg k) : MLg f' d lg' := by
  refine ⟨by rw [e 31 (by omega) (by omega)]; exact h.1, fun i t ht hi => ?_⟩
  rw [e _ (by omega) (by omega), el _ (by omega)]
  exact h.2 i t ht hi
theorem RW_cg {f f' : Nat → Int32} {d : Nat} {lg lg' : LG} (h : RW f d lg) (e : ∀ k, k < d → d ≤ k + 60 → f' (k % 100) = f (k % 100)) (el : ∀ k, k < d → lg' k = lg k) : RW f' d lg' := fun k h1 h2 => by
  rw [e k h1 h2, el k h1]
  exact h k h1 h2
/-! new cells -/
def uD (D : Dyn) (n : Nat) (s : Shp) : Dyn := fun a => if a = n then some s else D a
def uM (m : MI) (n : Nat) (f : Nat → Int32) : MI := fun a => if a = n then f else m a
def uR (r : MR) (n : Nat) (f : Nat → Option Nat) : MR := fun a => if a = n then f else r a
section NEW
variable {n z : Nat} {D : Dyn} {m : MI} {j : MJ} {r : MR}
theorem push_mk {N : Nat} {e : AE} {s : Shp} {x : Nat → Int32} {q : Nat → Option Nat} (hn : 95 ≤ n) (he : e = cellOf s x (j n) q) : hpush (mkH n z D m j r) N e = mkH (n + 1) (z + N) (uD D n s) (uM m n x) j (uR r n q) := by
  unfold hpush mkH
  refine congrArg (fun f => (n + 1, z + N, f)) (funext fun k => ?_)
  show (if k = n then some e else (SHP D k).map _) = _
  by_cases h : k = n
  · subst h
    simp [SHP, Nat.not_lt.mpr hn, uD, uM, uR, he]
  · simp [SHP, uD, uM, uR, h]
theorem nO_mk {ρ : Type} {ci N : Nat} {fs : List Value} {s : Shp} {x : Nat → Int32} {q : Nat → Option Nat} {k : Nat → AH → Option (ρ × AH)} (hn : 95 ≤ n) (hn2 : n < 1000000) (he : (Sum.inr (ci, fs) : AE) = cellOf s x (j n) q) : nO ci N fs (mkH n z D m j r) k = ck (mkH (n + 1) (z + N) (uD D n s) (uM m n x) j (uR r n q)) (k n (mkH (n + 1) (z + N) (uD D n s) (uM m n x) j (uR r n q))) := by
  unfold nO
  rw [push_mk hn he]
  exact if_pos hn2
theorem nA_mk {ρ : Type} {N : Nat} {k : Nat → AH → Option (ρ × AH)} (hn : 95 ≤ n) (hn2 : n < 1000000) (hN : N ≤ 100000) : nA 0 (Int32.ofNat N) (mkH n z D m j r) k = ck (mkH (n + 1) (z + N) (uD D n (aT N)) (uM m n (fun _ => 0)) j (uR r n (r n))) (k n (mkH (n + 1) (z + N) (uD D n (aT N)) (uM m n (fun _ => 0)) j (uR r n (r n)))) := by
  unfold nA
  have e : (Int32.ofNat N).toNatClampNeg = N := i_toNat (by omega)
  rw [e, push_mk (s := aT N) (x := fun _ => 0) (q := r n) hn (by simp [cellOf, aT, a0])]
  exact if_pos ⟨hn2, i_nn (by omega), hN⟩
theorem mk_re {D' : Dyn} {r' : MR} (h : ∀ k, (SHP D k).map (fun s => cellOf s (m k) (j k) (r k)) = (SHP D' k).map (fun s => cellOf s (m k) (j k) (r' k))) : (mkH n z D m j r) = mkH n z D' m j r' := by
  unfold mkH
  exact congrArg (fun f => (n, z, f)) (funext h)
theorem uR_id {a : Nat} : uR r a (r a) = r := funext fun b => by
  unfold uR
  split
  · rename_i h; rw [h]
  · rfl
def shQ : Shp := .inr (8, [fQ, fQ, fQ, fQ, fQ, fI, fI, fI])
/-- the shapes with a new State at n -/
def nD (D : Dyn) (n : Nat) : Dyn := fun a => if a = n then some (oState n) else if a = n + 1 ∨ a = n + 2 then some (aT 5) else if a = n + 3 ∨ a = n + 4 ∨ a = n + 5 then some (aT 6) else D a
theorem nD_lt {a : Nat} (h : a < n) : nD D n a = D a := by
  unfold nD
  rw [if_neg (by omega), if_neg (by omega), if_neg (by omega)]
theorem nD_gt {a : Nat} (h : n + 6 ≤ a) : nD D n a = D a := by
  unfold nD
  rw [if_neg (by omega), if_neg (by omega), if_neg (by omega)]
theorem SHP_lt {D' : Dyn} {a : Nat} (h : 95 ≤ a → D' a = D a) : SHP D' a = SHP D a := by
  unfold SHP
  split
  · rfl
  · exact h (by omega)
theorem isSt_n (hn : 95 ≤ n) : isSt (nD D n) n := by
  refine ⟨?_, ?_, ?_, ?_, ?_, ?_⟩ <;> (unfold SHP nD; rw [if_neg (by omega)]) <;> simp
theorem C_newSt (hn : 95 ≤ n) (hn2 : n + 6 < 1000000) : ∃ m', f_X8_init n (mkH (n + 1) (z + 8) (uD D n shQ) (uM m n (fun _ => 0)) j (uR r n (fun _ => none))) = some ((), mkH (n + 6) (z + 36) (nD D n) m' j r) ∧ (∀ a, a < n → m' a = m a) := by
  generalize hm : wI (uM (uM (uM (uM (uM (uM m n (fun _ => 0)) (n + 1) (fun _ => 0)) (n + 1 + 1) (fun _ => 0)) (n + 1 + 1 + 1) (fun _ => 0)) (n + 1 + 1 + 1 + 1) (fun _ => 0)) (n + 1 + 1 + 1 + 1 + 1) (fun _ => 0)) n 5 (-1) = mE
  refine ⟨mE, ?_, fun a ha => ?_⟩
  · have n2 : ¬ n = n + 1 + 1 := by omega
    have n3 : ¬ n = n + 1 + 1 + 1 := by omega
    have n4 : ¬ n = n + 1 + 1 + 1 + 1 := by omega
    have n5 : ¬ n = n + 1 + 1 + 1 + 1 + 1 := by omega
    have sN : ∀ (D0 : Dyn), D0 n = some shQ → SHP D0 n = some shQ := fun D0 h => by
      unfold SHP
      rw [if_neg (by omega)]
      exact h
    unfold f_X8_init f_X8_init_0
    refine ck_ok ?_ (by omega) (by omega)
    rw [l5, l6, nA_mk (by omega) (by omega) (by omega)]
    refine ck_ok ?_ (by omega) (by omega)
    rw [show (Value.ref (n + 1)) = qV (some (n + 1)) from rfl, pQ_mk (sN _ (by simp [uD, n2, n3, n4, n5])) (by decide) rfl, obs, nA_mk (by omega) (by omega) (by omega)]
    refine ck_ok ?_ (by omega) (by omega)
    rw [show (Value.ref (n + 1 + 1)) = qV (some (n + 1 + 1)) from rfl, pQ_mk (sN _ (by simp [uD, n2, n3, n4, n5])) (by decide) rfl, obs, nA_mk (by omega) (by omega) (by omega)]
    refine ck_ok ?_ (by omega) (by omega)
    rw [show (Value.ref (n + 1 + 1 + 1)) = qV (some (n + 1 + 1 + 1)) from rfl, pQ_mk (sN _ (by simp [uD, n2, n3, n4, n5])) (by decide) rfl, obs, nA_mk (by omega) (by omega) (by omega)]
    refine ck_ok ?_ (by omega) (by omega)
    rw [show (Value.ref (n + 1 + 1 + 1 + 1)) = qV (some (n + 1 + 1 + 1 + 1)) from rfl, pQ_mk (sN _ (by simp [uD, n2, n3, n4, n5])) (by decide) rfl, obs, nA_mk (by omega) (by omega) (by omega)]
    refine ck_ok ?_ (by omega) (by omega)
    rw [show (Value.ref (n + 1 + 1 + 1 + 1 + 1)) = qV (some (n + 1 + 1 + 1 + 1 + 1)) from rfl, pQ_mk (sN _ (by simp [uD, n2, n3, n4, n5])) (by decide) rfl, obs, pI_mk (sN _ (by simp [uD, n2, n3, n4, n5])) (by decide) rfl, obs, hm]
    refine congrArg (fun h => some ((), h)) ?_
    show mkH (n + 6) (z + 36) _ mE j _ = _
    refine mk_re fun k => ?_
    unfold SHP
    by_cases h95 : k < 95
    · rw [if_pos h95, if_pos h95]
      simp only [uR_id, wR, uR, show ¬ k = n by omega, show ¬ k = n + 1 by omega, show ¬ k = n + 1 + 1 by omega, show ¬ k = n + 1 + 1 + 1 by omega, show ¬ k = n + 1 + 1 + 1 + 1 by omega, show ¬ k = n + 1 + 1 + 1 + 1 + 1 by omega, if_false]
    · rw [if_neg h95, if_neg h95]
      unfold uD nD
      by_cases k0 : k = n
      · subst k0
        simp [shQ, oState, cellOf, fsOf, fvOf, fQ, fI, fR, qV, wR, uR, va_up, n2, n3, n4, n5]
      · by_cases k1 : k = n + 1
        · subst k1
          simp [aT, cellOf]
        · by_cases k2 : k = n + 2
          · subst k2
            simp [aT, cellOf]
          · by_cases k3 : k = n + 3
            · subst k3
              simp [aT, cellOf]
            · by_cases k4 : k = n + 4
              · subst k4
                simp [aT, cellOf]
              · by_cases k5 : k = n + 5
                · subst k5
                  simp [aT, cellOf]
                · simp only [wR, uR, k0, k1, k2, k3, k4, k5, show ¬ k = n + 1 + 1 by omega, show ¬ k = n + 1 + 1 + 1 by omega, show ¬ k = n + 1 + 1 + 1 + 1 by omega, show ¬ k = n + 1 + 1 + 1 + 1 + 1 by omega, if_false, or_self]
  · rw [← hm, wI_ne (by omega)]
    unfold uM
    simp only [show ¬ a = n by omega, show ¬ a = n + 1 by omega, show ¬ a = n + 1 + 1 by omega, show ¬ a = n + 1 + 1 + 1 by omega, show ¬ a = n + 1 + 1 + 1 + 1 by omega, show ¬ a = n + 1 + 1 + 1 + 1 + 1 by omega, if_false]
end NEW
