/-! The pure heap as a memory: the shape of every cell (what is fixed at the law's start, what came later), and what the cells hold. -/
abbrev FK : Type := Nat × Nat
abbrev Shp : Type := (Nat × Nat) ⊕ (Nat × List FK)
def fI : FK := (0, 0)
def fR (k : Nat) : FK := (1, k)
def fJ : FK := (2, 0)
def fQ : FK := (3, 0)
def oTown (k : Nat) : Shp := .inr (10, [fI, fI, fI, fI, fI, fR (k + 1), fR (k + 2), fR (k + 3), fR (k + 4), fR (k + 5), fR (k + 6), fR (k + 7), fR (k + 8)])
def oState (k : Nat) : Shp := .inr (8, [fR (k + 1), fR (k + 2), fR (k + 3), fR (k + 4), fR (k + 5), fI, fI, fI])
def aT (n : Nat) : Shp := .inl (0, n)
def shpL : List Shp := [
  .inr (11, [fR 1, fR 3, fR 14, fR 16, fR 18, fR 27, fR 33, fR 39, fR 49, fR 52, fR 55, fR 61, fR 66, fR 71, fI, fI, fI, fI, fJ]),
  .inr (9, [fR 2, fI]), aT 240,
  .inr (0, [fR 1, fI, fI, fR 4, fR 13, fI]), oTown 4, aT 5, aT 5, aT 6, aT 6, aT 6, aT 6, aT 6, aT 6, aT 6,
  .inr (2, [fR 1, fI, fI, fR 15, fI]), aT 240,
  .inr (3, [fR 1, fI, fI, fR 17, fI]), aT 16,
  oTown 18, aT 5, aT 5, aT 6, aT 6, aT 6, aT 6, aT 6, aT 6,
  oState 27, aT 5, aT 5, aT 6, aT 6, aT 6,
  oState 33, aT 5, aT 5, aT 6, aT 6, aT 6,
  .inr (1, [fR 40, fI, fI, fR 41, fR 42, fR 48, fI]), .inl (4, 40), aT 100,
  oState 42, aT 5, aT 5, aT 6, aT 6, aT 6, aT 100,
  .inr (4, [fQ, fR 50, fR 51, fI]), aT 6, aT 32,
  .inr (6, [fR 18, fR 49, fR 53, fI, fI, fI, fR 54]), aT 6, aT 60,
  .inr (7, [fR 18, fR 49, fR 56, fR 57, fR 58, fR 59, fI, fR 60, fI]), aT 10, aT 10, aT 10, .inl (3, 10), aT 30,
  .inl (5, 4), aT 0, aT 0, aT 0, aT 0, .inl (5, 4), aT 0, aT 0, aT 0, aT 0, aT 16,
  .inr (12, [fI, fR 73, fR 74, fR 75, fR 76, fQ, fI, fI, fI, fI, fI, fI, fI, fI, fI, fR 2000005, fR 2000003, fI, fR 77, fR 78, fR 79, fR 80, fR 81, fR 82, fR 83, fR 84, fI, fI, fI, fI, fI, fI, fR 85, fR 86, fI, fI, fR 87, fR 88, fR 89, fI, fI, fI, fR 90, fI, fJ, fR 91, fI, fR 92, fR 93, fI]),
  .inl (1, 240), .inl (1, 960), aT 4, aT 128, aT 3, aT 3, aT 10, aT 10, aT 36, aT 36, aT 240, aT 5, aT 212, aT 212, .inl (2, 8191), aT 8191, aT 6, aT 8480, aT 40, aT 16, aT 212, .inl (2, 1)]
abbrev MI : Type := Nat → Nat → Int32
abbrev MJ : Type := Nat → Nat → Int64
abbrev MR : Type := Nat → Nat → Option Nat
def fvOf (p : FK) (i : Nat) (x : Nat → Int32) (y : Nat → Int64) (q : Nat → Option Nat) : Value := match p.1 with
  | 0 => .int (x i)
  | 1 => .ref p.2
  | 2 => .long (y i)
  | _ => qV (q i)
def fsOf (x : Nat → Int32) (y : Nat → Int64) (q : Nat → Option Nat) : Nat → List FK → List Value
  | _, [] => []
  | i, p :: ps => fvOf p i x y q :: fsOf x y q (i + 1) ps
def cellOf (s : Shp) (x : Nat → Int32) (y : Nat → Int64) (q : Nat → Option Nat) : AE := match s with
  | .inl (t, n) => .inl (t, n, if t = 2 then .inr (.inl y) else if t = 4 ∨ t = 5 then .inr (.inr (.inr (.inr q))) else .inl x)
  | .inr (ci, ps) => .inr (ci, fsOf x y q 0 ps)
abbrev Dyn : Type := Nat → Option Shp
def SHP (D : Dyn) (k : Nat) : Option Shp := if k < 95 then shpL[k]? else D k
def mkH (n z : Nat) (D : Dyn) (m : MI) (j : MJ) (r : MR) : AH := (n, z, fun k => (SHP D k).map (fun s => cellOf s (m k) (j k) (r k)))
def wI (m : MI) (a i : Nat) (x : Int32) : MI := fun b => if b = a then upd (m a) i x else m b
def wJ (m : MJ) (a i : Nat) (x : Int64) : MJ := fun b => if b = a then vp_updL (m a) i x else m b
def wR (m : MR) (a i : Nat) (x : Option Nat) : MR := fun b => if b = a then va_up (m a) i x else m b
theorem wI_ne {m : MI} {a i b : Nat} {x : Int32} (h : b ≠ a) : wI m a i x b = m b := if_neg h
theorem wI_eq {m : MI} {a i : Nat} {x : Int32} : wI m a i x a = upd (m a) i x := if_pos rfl
theorem wI_at {m : MI} {a i b k : Nat} {x : Int32} : wI m a i x b k = if b = a ∧ k = i then x else m b k := by
  unfold wI
  by_cases h : b = a
  · subst h
    simp [upd]
  · simp [h]
theorem fs_get {x : Nat → Int32} {y : Nat → Int64} {q : Nat → Option Nat} : ∀ (ps : List FK) (b i : Nat), (fsOf x y q b ps)[i]? = (ps[i]?).map (fun p => fvOf p (b + i) x y q)
  | [], b, i => by simp [fsOf]
  | p :: ps, b, 0 => by simp [fsOf]
  | p :: ps, b, i + 1 => by
    simp only [fsOf, List.getElem?_cons_succ]
    rw [fs_get ps (b + 1) i, show b + 1 + i = b + (i + 1) by omega]
theorem fs_len {x : Nat → Int32} {y : Nat → Int64} {q : Nat → Option Nat} : ∀ (ps : List FK) (b : Nat), (fsOf x y q b ps).length = ps.length
  | [], b => rfl
  | p :: ps, b => by simp only [fsOf, List.length_cons, fs_len ps (b + 1)]
theorem fs_set {x x' : Nat → Int32} {y y' : Nat → Int64} {q q' : Nat → Option Nat} {ps : List FK} {i : Nat} {v : Value} (hv : ∀ p, ps[i]? = some p → fvOf p i x' y' q' = v) (ho : ∀ k p, k ≠ i → ps[k]? = some p → fvOf p k x' y' q' = fvOf p k x y q) : (fsOf x y q 0 ps).set i v = fsOf x' y' q' 0 ps := by
  apply List.ext_getElem?
  intro k
  rw [fs_get, List.getElem?_set, fs_get, fs_len]
  by_cases h : i = k
  · subst h
    simp only [if_true, Nat.zero_add]
    cases hp : ps[i]? with
    | none =>
      have : ps.length ≤ i := List.getElem?_eq_none_iff.mp hp
      simp [Nat.not_lt.mpr this]
    | some p =>
      have : i < ps.length := (List.getElem?_eq_some_iff.mp hp).1
      simp [this, hv p hp]
  · simp only [h, if_false, Nat.zero_add]
    cases hp : ps[k]? with
    | none => rfl
    | some p => simp [ho k p (fun e => h e.symm) hp]
section MEM
variable {n z : Nat} {D : Dyn} {m : MI} {j : MJ} {r : MR}
theorem mk_at {k : Nat} {s : Shp} (hs : SHP D k = some s) : (mkH n z D m j r).2.2 k = some (cellOf s (m k) (j k) (r k)) := by
  show (SHP D k).map _ = _
  rw [hs]; rfl
/-- a new cell's contents: the rest as it was -/
theorem mk_set {k : Nat} {s : Shp} (hs : SHP D k = some s) {m' : MI} {j' : MJ} {r' : MR} (ho : ∀ b, b ≠ k → m' b = m b ∧ j' b = j b ∧ r' b = r b) {e : AE} (he : e = cellOf s (m' k) (j' k) (r' k)) : hset (mkH n z D m j r) k e = mkH n z D m' j' r' := by
  unfold hset mkH
  refine congrArg (fun f => (n, z, f)) (funext fun b => ?_)
  by_cases h : b = k
  · subst h
    simp [hs, he]
  · have := ho b h
    simp [h, this.1, this.2.1, this.2.2]
theorem gV_mk {cs : List Nat} {k i ci : Nat} {ps : List FK} {p : FK} (hs : SHP D k = some (.inr (ci, ps))) (hc : ci ∈ cs) (hp : ps[i]? = some p) : gV cs (mkH n z D m j r) k i = some (fvOf p i (m k) (j k) (r k)) := by
  unfold gV
  rw [mk_at hs]
  show (if ci ∈ cs then (fsOf (m k) (j k) (r k) 0 ps)[i]? else none) = _
  rw [if_pos hc, fs_get, hp, Nat.zero_add]
  rfl
theorem gI_mk {cs : List Nat} {k i ci : Nat} {ps : List FK} (hs : SHP D k = some (.inr (ci, ps))) (hc : ci ∈ cs) (hp : ps[i]? = some fI) : gI cs (mkH n z D m j r) k i = some (m k i) := by
  unfold gI
  rw [gV_mk hs hc hp]
  rfl
theorem gJ_mk {cs : List Nat} {k i ci : Nat} {ps : List FK} (hs : SHP D k = some (.inr (ci, ps))) (hc : ci ∈ cs) (hp : ps[i]? = some fJ) : gJ cs (mkH n z D m j r) k i = some (j k i) := by
  unfold gJ
  rw [gV_mk hs hc hp]
  rfl
theorem gR_mk {cs : List Nat} {k i ci a : Nat} {ps : List FK} (hs : SHP D k = some (.inr (ci, ps))) (hc : ci ∈ cs) (hp : ps[i]? = some (fR a)) : gR cs (mkH n z D m j r) k i = some a := by
  unfold gR
  rw [gV_mk hs hc hp]
  rfl
theorem gRq_mk {cs : List Nat} {k i ci : Nat} {ps : List FK} (hs : SHP D k = some (.inr (ci, ps))) (hc : ci ∈ cs) (hp : ps[i]? = some fQ) : gR cs (mkH n z D m j r) k i = r k i := by
  unfold gR
  rw [gV_mk hs hc hp]
  show (match some (qV (r k i)) with | some (.ref x) => some x | _ => none) = r k i
  cases r k i <;> rfl
theorem gQ_mk {cs : List Nat} {k i ci : Nat} {ps : List FK} (hs : SHP D k = some (.inr (ci, ps))) (hc : ci ∈ cs) (hp : ps[i]? = some fQ) : gQ cs (mkH n z D m j r) k i = some (r k i) := by
  unfold gQ
  rw [gV_mk hs hc hp]
  show (match some (qV (r k i)) with | some (.ref x) => some (some x) | some .null => some none | _ => none) = some (r k i)
  cases r k i <;> rfl
theorem isC_mk {cs : List Nat} {k ci : Nat} {ps : List FK} (hs : SHP D k = some (.inr (ci, ps))) (hc : ci ∈ cs) : isC cs (mkH n z D m j r) k = some () := by
  unfold isC
  rw [mk_at hs]
  show (if ci ∈ cs then some () else none) = _
  rw [if_pos hc]
theorem fv_oI {p : FK} {x x' : Nat → Int32} {y : Nat → Int64} {q : Nat → Option Nat} {k : Nat} (h : x' k = x k) : fvOf p k x' y q = fvOf p k x y q := by
  unfold fvOf
  split <;> simp [h]
theorem pI_mk {cs : List Nat} {k i ci : Nat} {ps : List FK} {x : Int32} (hs : SHP D k = some (.inr (ci, ps))) (hc : ci ∈ cs) (hp : ps[i]? = some fI) : pV cs (mkH n z D m j r) k i (.int x) = some (mkH n z D (wI m k i x) j r) := by
  unfold pV
  rw [mk_at hs]
  have hl : i < ps.length := (List.getElem?_eq_some_iff.mp hp).1
  show (if ci ∈ cs ∧ i < (fsOf (m k) (j k) (r k) 0 ps).length then some (hset (mkH n z D m j r) k (.inr (ci, (fsOf (m k) (j k) (r k) 0 ps).set i (.int x)))) else none) = _
  rw [if_pos ⟨hc, by rw [fs_len]; exact hl⟩]
  refine congrArg some (mk_set hs (fun b hb => ⟨wI_ne hb, rfl, rfl⟩) ?_)
  show _ = Sum.inr (ci, fsOf (wI m k i x k) (j k) (r k) 0 ps)
  rw [wI_eq]
  refine congrArg (fun l => Sum.inr (ci, l)) (fs_set (fun p h => ?_) (fun b p hb h => fv_oI (if_neg hb)))
  rw [hp] at h
  cases h
  show Value.int (upd (m k) i x i) = _
  simp [upd]
theorem pZ_mk {cs : List Nat} {k i ci : Nat} {ps : List FK} {x : Int32} (hx : x = 0 ∨ x = 1) (hs : SHP D k = some (.inr (ci, ps))) (hc : ci ∈ cs) (hp : ps[i]? = some fI) : pZ cs (mkH n z D m j r) k i x = some (mkH n z D (wI m k i x) j r) := by
  unfold pZ
  rw [if_pos hx, pI_mk hs hc hp]
theorem pJ_mk {cs : List Nat} {k i ci : Nat} {ps : List FK} {x : Int64} (hs : SHP D k = some (.inr (ci, ps))) (hc : ci ∈ cs) (hp : ps[i]? = some fJ) : pV cs (mkH n z D m j r) k i (.long x) = some (mkH n z D m (wJ j k i x) r) := by
  unfold pV
  rw [mk_at hs]
  have hl : i < ps.length := (List.getElem?_eq_some_iff.mp hp).1
  show (if ci ∈ cs ∧ i < (fsOf (m k) (j k) (r k) 0 ps).length then some (hset (mkH n z D m j r) k (.inr (ci, (fsOf (m k) (j k) (r k) 0 ps).set i (.long x)))) else none) = _
  rw [if_pos ⟨hc, by rw [fs_len]; exact hl⟩]
  refine congrArg some (mk_set hs (fun b hb => ⟨rfl, if_neg hb, rfl⟩) ?_)
  show _ = Sum.inr (ci, fsOf (m k) (wJ j k i x k) (r k) 0 ps)
  refine congrArg (fun l => Sum.inr (ci, l)) (fs_set (fun p h => ?_) (fun b p hb h => ?_))
  · rw [hp] at h
    cases h
    show Value.long (wJ j k i x k i) = _
    simp [wJ, vp_updL]
  · have : wJ j k i x k b = j k b := by simp [wJ, vp_updL, hb]
    unfold fvOf
    split <;> simp [this]
theorem pQ_mk {cs : List Nat} {k i ci : Nat} {ps : List FK} {q : Option Nat} (hs : SHP D k = some (.inr (ci, ps))) (hc : ci ∈ cs) (hp : ps[i]? = some fQ) : pV cs (mkH n z D m j r) k i (qV q) = some (mkH n z D m j (wR r k i q)) := by
  unfold pV
  rw [mk_at hs]
  have hl : i < ps.length := (List.getElem?_eq_some_iff.mp hp).1
  show (if ci ∈ cs ∧ i < (fsOf (m k) (j k) (r k) 0 ps).length then some (hset (mkH n z D m j r) k (.inr (ci, (fsOf (m k) (j k) (r k) 0 ps).set i (qV q)))) else none) = _
  rw [if_pos ⟨hc, by rw [fs_len]; exact hl⟩]
  refine congrArg some (mk_set hs (fun b hb => ⟨rfl, rfl, if_neg hb⟩) ?_)
  show _ = Sum.inr (ci, fsOf (m k) (j k) (wR r k i q k) 0 ps)
  refine congrArg (fun l => Sum.inr (ci, l)) (fs_set (fun p h => ?_) (fun b p hb h => ?_))
  · rw [hp] at h
    cases h
    show qV (wR r k i q k i) = _
    simp [wR, va_up]
  · have : wR r k i q k b = r k b := by simp [wR, va_up, hb]
    unfold fvOf
    split <;> simp [this]
theorem aI_mk {t a n' : Nat} {i : Int32} (hs : SHP D a = some (.inl (t, n'))) (ht : t = 0 ∨ t = 1 ∨ t = 3) (hi : ¬ (i < 0 ∨ n' ≤ i.toNatClampNeg)) : aI t (mkH n z D m j r) a i = some (m a i.toNatClampNeg) := by
  unfold aI
  rw [mk_at hs]
  rcases ht with rfl | rfl | rfl <;> exact if_pos ⟨rfl, hi⟩
theorem uI_mk {t a n' : Nat} {i x : Int32} (hs : SHP D a = some (.inl (t, n'))) (ht : t = 0 ∨ t = 1 ∨ t = 3) (hi : ¬ (i < 0 ∨ n' ≤ i.toNatClampNeg)) : uI t (mkH n z D m j r) a i x = some (mkH n z D (wI m a i.toNatClampNeg (nar t x)) j r) := by
  unfold uI
  rw [mk_at hs]
  have key : hset (mkH n z D m j r) a (.inl (t, n', .inl (upd (m a) i.toNatClampNeg (nar t x)))) = mkH n z D (wI m a i.toNatClampNeg (nar t x)) j r :=
    mk_set hs (fun b hb => ⟨wI_ne hb, rfl, rfl⟩) (by rw [wI_eq]; rcases ht with rfl | rfl | rfl <;> simp [cellOf])
  rcases ht with rfl | rfl | rfl <;> exact (if_pos ⟨rfl, hi⟩).trans (congrArg some key)
theorem aJ_mk {a n' : Nat} {i : Int32} (hs : SHP D a = some (.inl (2, n'))) (hi : ¬ (i < 0 ∨ n' ≤ i.toNatClampNeg)) : aJ (mkH n z D m j r) a i = some (j a i.toNatClampNeg) := by
  unfold aJ
  rw [mk_at hs]
  exact if_pos ⟨rfl, hi⟩
theorem uJ_mk {a n' : Nat} {i : Int32} {x : Int64} (hs : SHP D a = some (.inl (2, n'))) (hi : ¬ (i < 0 ∨ n' ≤ i.toNatClampNeg)) : uJ (mkH n z D m j r) a i x = some (mkH n z D m (wJ j a i.toNatClampNeg x) r) := by
  unfold uJ
  rw [mk_at hs]
  have key : hset (mkH n z D m j r) a (.inl (2, n', .inr (.inl (vp_updL (j a) i.toNatClampNeg x)))) = mkH n z D m (wJ j a i.toNatClampNeg x) r :=
    mk_set hs (fun b hb => ⟨rfl, if_neg hb, rfl⟩) (by simp [cellOf, wJ])
  exact (if_pos ⟨rfl, hi⟩).trans (congrArg some key)
theorem aQ_mk {t a n' : Nat} {i : Int32} (hs : SHP D a = some (.inl (t, n'))) (ht : t = 4 ∨ t = 5) (hi : ¬ (i < 0 ∨ n' ≤ i.toNatClampNeg)) : aQ t (mkH n z D m j r) a i = some (r a i.toNatClampNeg) := by
  unfold aQ
  rw [mk_at hs]
  rcases ht with rfl | rfl <;> exact if_pos ⟨rfl, hi⟩
theorem aLen_mk {t a n' : Nat} (hs : SHP D a = some (.inl (t, n'))) (ht : t < 6) : aLen (mkH n z D m j r) a = some (Int32.ofNat n') := by
  unfold aLen
  rw [mk_at hs]
  show (if t < 6 then some (Int32.ofNat n') else none) = _
  rw [if_pos ht]
theorem cN_mk {α β : Type} {v : α} {m' : MI} {j' : MJ} {r' : MR} {k : α → AH → Option β} : cN (some (v, mkH n z D m' j' r')) (mkH n z D m j r) k = k v (mkH n z D m' j' r') := by
  unfold cN
  exact if_pos ⟨rfl, rfl⟩
end MEM
