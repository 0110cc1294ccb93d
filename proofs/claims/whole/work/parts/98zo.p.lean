/-! The start: what the constructors make. -/
def h0 : AH := (0, 0, fun _ => none)
def fs11 : List Value := [.null, .null, .null, .null, .null, .null, .null, .null, .null, .null, .null, .null, .null, .null, .int 0, .int 0, .int 0, .int 0, .long 0]
def fs12 : List Value := [.int 0, .null, .null, .null, .null, .null, .int 0, .int 0, .int 0, .int 0, .int 0, .int 0, .int 0, .int 0, .int 0, .null, .null, .int 0, .null, .null, .null, .null, .null, .null, .null, .null, .int 0, .int 0, .int 0, .int 0, .int 0, .int 0, .null, .null, .int 0, .int 0, .null, .null, .null, .int 0, .int 0, .int 0, .null, .int 0, .long 0, .null, .int 0, .null, .null, .int 0]
def hA : AH := hpush h0 19 (.inr (11, fs11))
def hB : AH := ((f_X11_init 0 hA).getD ((), hA)).2
def hC : AH := hpush hB 50 (.inr (12, fs12))
def hF : AH := ((f_X12_init 72 hC).getD ((), hC)).2
def hE : AH := hpush hF 1 (.inl (2, 1, a0 2))
theorem getD_some {α : Type} {o : Option (Unit × α)} {d : Unit × α} (h : o.isSome = true) : o = some ((), (o.getD d).2) := by
  cases o with
  | none => cases h
  | some x => rfl
theorem hB_e : f_X11_init 0 hA = some ((), hB) := getD_some (by decide +kernel)
theorem hB_1 : hB.1 = 72 := by decide +kernel
theorem hF_e : f_X12_init 72 hC = some ((), hF) := getD_some (by decide +kernel)
theorem hF_1 : hF.1 = 94 := by decide +kernel
theorem hE_z : hE.2.1 ≤ 100000 := by decide +kernel
theorem hB_z : 19 ≤ hB.2.1 := by decide +kernel
theorem hF_z : hB.2.1 + 50 ≤ hF.2.1 := by decide +kernel
def mOf (e : Option AE) (i : Nat) : Int32 := match e with
  | some (.inl (_, _, .inl f)) => f i
  | some (.inr (_, fs)) => (match fs[i]? with | some (.int x) => x | _ => 0)
  | _ => 0
def jOf (e : Option AE) (i : Nat) : Int64 := match e with
  | some (.inl (_, _, .inr (.inl f))) => f i
  | some (.inr (_, fs)) => (match fs[i]? with | some (.long x) => x | _ => 0)
  | _ => 0
def rOf (e : Option AE) (i : Nat) : Option Nat := match e with
  | some (.inl (_, _, .inr (.inr (.inr (.inr f))))) => f i
  | some (.inr (_, fs)) => (match fs[i]? with | some (.ref x) => some x | _ => none)
  | _ => none
def okV (v : Value) (p : FK) : Bool := match p.1, v with
  | 0, .int _ => true
  | 1, .ref x => decide (x = p.2)
  | 2, .long _ => true
  | 3, .ref _ => true
  | 3, .null => true
  | _, _ => false
def okFs : List Value → List FK → Bool
  | [], [] => true
  | v :: vs, p :: ps => okV v p && okFs vs ps
  | _, _ => false
def okE (e : Option AE) (s : Option Shp) : Bool := match e, s with
  | none, none => true
  | some (.inl (t, n, .inl _)), some (.inl (t', n')) => decide (t = t' ∧ n = n' ∧ t ≠ 2 ∧ t ≠ 4 ∧ t ≠ 5)
  | some (.inl (t, n, .inr (.inl _))), some (.inl (t', n')) => decide (t = t' ∧ n = n' ∧ t = 2)
  | some (.inl (t, n, .inr (.inr (.inr (.inr _))))), some (.inl (t', n')) => decide (t = t' ∧ n = n' ∧ (t = 4 ∨ t = 5))
  | some (.inr (ci, fs)), some (.inr (ci', ps)) => decide (ci = ci') && okFs fs ps
  | _, _ => false
theorem allOk : ∀ k, k < 95 → okE (hE.2.2 k) (SHP (fun _ => none) k) = true := by decide +kernel
