/-! Laws as texts: what they are read as (a code, or the place of the first fault), and what a code gives. -/
abbrev PR : Type := Nat ⊕ (List Nat × Nat)
def bnd (x : PR) (f : List Nat → Nat → PR) : PR := match x with
  | .inl e => .inl e
  | .inr p => f p.1 p.2
def skf (t : Nat → Nat) (N : Nat) : Nat → Nat → Nat
  | 0, i => i
  | g + 1, i => if i < N ∧ t i = 32 then skf t N g (i + 1) else i
def sk (t : Nat → Nat) (N i : Nat) : Nat := skf t N (N - i) i
def sg (t : Nat → Nat) (N i : Nat) : Nat := if sk t N i < N then t (sk t N i) else 0
def dig (t : Nat → Nat) (N i : Nat) : Bool := decide (i < N) && (decide (48 ≤ t i) && decide (t i ≤ 57))
def nm (t : Nat → Nat) (N : Nat) : Nat → Nat → Nat → Nat × Nat
  | 0, i, v => (v, i)
  | q + 1, i, v => if dig t N i = true then nm t N q (i + 1) (10 * v + t i - 48) else (v, i)
def pNum (t : Nat → Nat) (N q i : Nat) : PR := if (nm t N q i 0).2 = i ∨ dig t N (nm t N q i 0).2 = true then .inl (nm t N q i 0).2 else .inr ([(nm t N q i 0).1], (nm t N q i 0).2)
def ltr (s : Nat) : Nat := if s = 109 then 0 else if s = 103 then 1 else if s = 119 then 2 else if s = 115 then 3 else if s = 110 then 4 else if s = 100 then 5 else 6
def pTk (t : Nat → Nat) (N ch : Nat) (c : List Nat) (i : Nat) : PR := if sg t N i = ch then .inr (c, sk t N i + 1) else .inl (sk t N i)
def pAtom (t : Nat → Nat) (N : Nat) (sumf : Nat → PR) (k i : Nat) : PR :=
  if ltr (sg t N i) < 6 then .inr ([10000 + ltr (sg t N i)], sk t N i + 1)
  else if sg t N i = 91 then (if k = 0 then .inl (sk t N i) else bnd (sumf (sk t N i + 1)) (pTk t N 93))
  else pNum t N 4 (sk t N i)
def opT (s : Nat) : Nat := if s = 42 then 10008 else 10009
def opS (s : Nat) : Nat := if s = 43 then 10006 else 10007
def opC (s : Nat) : Nat := if s = 60 then 10011 else if s = 61 then 10010 else 10012
def pTermR (t : Nat → Nat) (N : Nat) (af : Nat → PR) : Nat → Nat → PR
  | 0, _ => .inl 0
  | g + 1, i => if sg t N i = 42 ∨ sg t N i = 47 then bnd (af (sk t N i + 1)) fun c j => bnd (pTermR t N af g j) fun c' j' => .inr (c ++ [opT (sg t N i)] ++ c', j') else .inr ([], sk t N i)
def pTerm (t : Nat → Nat) (N : Nat) (af : Nat → PR) (i : Nat) : PR := bnd (af i) fun c j => bnd (pTermR t N af 300 j) fun c' j' => .inr (c ++ c', j')
def pSumR (t : Nat → Nat) (N : Nat) (af : Nat → PR) : Nat → Nat → PR
  | 0, _ => .inl 0
  | g + 1, i => if sg t N i = 43 ∨ sg t N i = 45 then bnd (pTerm t N af (sk t N i + 1)) fun c j => bnd (pSumR t N af g j) fun c' j' => .inr (c ++ [opS (sg t N i)] ++ c', j') else .inr ([], sk t N i)
def pSumA (t : Nat → Nat) (N : Nat) (af : Nat → PR) (i : Nat) : PR := bnd (pTerm t N af i) fun c j => bnd (pSumR t N af 300 j) fun c' j' => .inr (c ++ c', j')
def pSum (t : Nat → Nat) (N : Nat) : Nat → Nat → PR
  | 0, i => pSumA t N (pAtom t N (fun _ => .inl 0) 0) i
  | k + 1, i => pSumA t N (pAtom t N (pSum t N k) (k + 1)) i
def pAt (t : Nat → Nat) (N : Nat) : Nat → Nat → PR
  | 0, i => pAtom t N (fun _ => .inl 0) 0 i
  | k + 1, i => pAtom t N (pSum t N k) (k + 1) i
theorem pSum_eq {t : Nat → Nat} {N k i : Nat} : pSum t N k i = pSumA t N (pAt t N k) i := by
  cases k <;> rfl
def pCmpR (t : Nat → Nat) (N k : Nat) (c : List Nat) (j : Nat) : PR :=
  if sg t N j = 60 ∨ sg t N j = 61 ∨ sg t N j = 62 then bnd (pSum t N k (sk t N j + 1)) fun c' j' => .inr (c ++ (c' ++ [opC (sg t N j)]), j') else .inl (sk t N j)
def pCmp (t : Nat → Nat) (N k i : Nat) : PR := bnd (pSum t N k i) (pCmpR t N k)
def pPartR (t : Nat → Nat) (N : Nat) (uf : Nat → PR) : Nat → Nat → PR
  | 0, _ => .inl 0
  | g + 1, i => if sg t N i = 38 then bnd (uf (sk t N i + 1)) fun c j => bnd (pPartR t N uf g j) fun c' j' => .inr (c ++ [10013] ++ c', j') else .inr ([], sk t N i)
def pPart (t : Nat → Nat) (N : Nat) (uf : Nat → PR) (x : PR) : PR := bnd x fun c j => bnd (pPartR t N uf 300 j) fun c' j' => .inr (c ++ c', j')
def pCondR (t : Nat → Nat) (N : Nat) (uf : Nat → PR) : Nat → Nat → PR
  | 0, _ => .inl 0
  | g + 1, i => if sg t N i = 124 then bnd (pPart t N uf (uf (sk t N i + 1))) fun c j => bnd (pCondR t N uf g j) fun c' j' => .inr (c ++ [10014] ++ c', j') else .inr ([], sk t N i)
/-- a condition whose first unit is read as x -/
def pCond (t : Nat → Nat) (N : Nat) (uf : Nat → PR) (x : PR) : PR := bnd (pPart t N uf x) fun c j => bnd (pCondR t N uf 300 j) fun c' j' => .inr (c ++ c', j')
def pUnitA (t : Nat → Nat) (N : Nat) (uf : Nat → PR) (k i : Nat) : PR :=
  if sg t N i = 33 then (if k = 0 then .inl (sk t N i) else bnd (uf (sk t N i + 1)) fun c j => .inr (c ++ [10015], j))
  else if sg t N i = 40 then (if k = 0 then .inl (sk t N i) else bnd (pCond t N uf (uf (sk t N i + 1))) (pTk t N 41))
  else pCmp t N k (sk t N i)
def pUnit (t : Nat → Nat) (N : Nat) : Nat → Nat → PR
  | 0, i => pUnitA t N (fun _ => .inl 0) 0 i
  | k + 1, i => pUnitA t N (pUnit t N k) (k + 1) i
/-- what a code does -/
def cli (v : Int) : Int := max (-1000000) (min 1000000 v)
def jn (op : Nat) (a b : Int) : Int :=
  if op = 10006 then cli (a + b) else if op = 10007 then cli (a - b) else if op = 10008 then cli (a * b) else if op = 10009 then cli (if b = 0 then 0 else a.tdiv b)
  else if op = 10010 then (if a = b then 1 else 0) else if op = 10011 then (if a < b then 1 else 0) else if op = 10012 then (if b < a then 1 else 0)
  else if op = 10013 then (if a ≠ 0 ∧ b ≠ 0 then 1 else 0) else (if a ≠ 0 ∨ b ≠ 0 then 1 else 0)
def stp (L : Nat → Int) (op : Nat) (s : List Int) : Option (List Int) :=
  if op < 10000 then (if s.length < 32 then some ((op : Int) :: s) else none)
  else if op < 10006 then (if s.length < 32 then some (L (op - 10000) :: s) else none)
  else if op = 10015 then (match s with | a :: s' => some ((if a = 0 then 1 else 0) :: s') | [] => none)
  else if op < 10015 then (match s with | b :: a :: s' => if (10013 ≤ op → (a = 0 ∨ a = 1) ∧ (b = 0 ∨ b = 1)) then some (jn op a b :: s') else none | _ => none)
  else none
def runs (L : Nat → Int) : List Nat → List Int → Option (List Int)
  | [], s => some s
  | op :: c, s => (stp L op s).bind (runs L c)
def Ev (L : Nat → Int) (c : List Nat) (v : Int) (h : Nat) : Prop := -1000000 ≤ v ∧ v ≤ 1000000 ∧ 1 ≤ h ∧ ∀ s : List Int, s.length + h ≤ 32 → runs L c s = some (v :: s)
theorem runs_app {L : Nat → Int} : ∀ (c d : List Nat) (s : List Int), runs L (c ++ d) s = (runs L c s).bind (runs L d)
  | [], d, s => by simp [runs]
  | op :: c, d, s => by
    simp only [List.cons_append, runs]
    cases stp L op s with
    | none => rfl
    | some s' => simp [runs_app c d s']
theorem cli_b {v : Int} : -1000000 ≤ cli v ∧ cli v ≤ 1000000 := by
  unfold cli
  omega
theorem jn_b {op : Nat} {a b : Int} : -1000000 ≤ jn op a b ∧ jn op a b ≤ 1000000 := by
  unfold jn
  repeat' split
  all_goals first | exact cli_b | omega
theorem Ev_num {L : Nat → Int} {v h : Nat} (hv : v ≤ 9999) (hh : 1 ≤ h) : Ev L [v] v h := by
  refine ⟨by omega, by omega, hh, fun s hs => ?_⟩
  simp [runs, stp, show v < 10000 by omega, show s.length < 32 by omega]
theorem Ev_let {L : Nat → Int} {k h : Nat} (hk : k < 6) (hh : 1 ≤ h) (hL : -1000000 ≤ L k ∧ L k ≤ 1000000) : Ev L [10000 + k] (L k) h := by
  refine ⟨hL.1, hL.2, hh, fun s hs => ?_⟩
  simp [runs, stp, show 10000 + k < 10006 by omega, show s.length < 32 by omega]
  omega
theorem Ev_mono {L : Nat → Int} {c : List Nat} {v : Int} {h h' : Nat} (e : Ev L c v h) (hh : h ≤ h') : Ev L c v h' :=
  ⟨e.1, e.2.1, by have := e.2.2.1; omega, fun s hs => e.2.2.2 s (by omega)⟩
theorem Ev_bin {L : Nat → Int} {c1 c2 : List Nat} {a b : Int} {h1 h2 h op : Nat} (e1 : Ev L c1 a h1) (e2 : Ev L c2 b h2) (ho : 10006 ≤ op ∧ op ≤ 10014) (hb : 10013 ≤ op → (a = 0 ∨ a = 1) ∧ (b = 0 ∨ b = 1)) (hh1 : h1 ≤ h) (hh2 : h2 + 1 ≤ h) : Ev L (c1 ++ (c2 ++ [op])) (jn op a b) h := by
  refine ⟨jn_b.1, jn_b.2, by omega, fun s hs => ?_⟩
  rw [runs_app, e1.2.2.2 s (by omega), Option.bind_some, runs_app, e2.2.2.2 (a :: s) (by simp; omega), Option.bind_some]
  have s1 : stp L op (b :: a :: s) = some (jn op a b :: s) := by
    unfold stp
    rw [if_neg (by omega), if_neg (by omega), if_neg (by omega), if_pos (by omega)]
    exact if_pos hb
  show (stp L op (b :: a :: s)).bind (runs L []) = _
  rw [s1]
  rfl
theorem Ev_not {L : Nat → Int} {c : List Nat} {a : Int} {h : Nat} (e : Ev L c a h) : Ev L (c ++ [10015]) (if a = 0 then 1 else 0) h := by
  refine ⟨by split <;> omega, by split <;> omega, e.2.2.1, fun s hs => ?_⟩
  rw [runs_app, e.2.2.2 s hs, Option.bind_some]
  rfl
/-! Where reading leads. -/
section PURE
variable {t : Nat → Nat} {N : Nat}
theorem sk_n {i : Nat} (h : ¬ (i < N ∧ t i = 32)) : sk t N i = i := by
  unfold sk
  cases hg : N - i with
  | zero => rfl
  | succ g => rw [skf, if_neg h]
theorem sk_y {i : Nat} (h1 : i < N) (h2 : t i = 32) : sk t N i = sk t N (i + 1) := by
  unfold sk
  obtain ⟨g, hg⟩ : ∃ g, N - i = g + 1 := ⟨N - i - 1, by omega⟩
  rw [hg, skf, if_pos ⟨h1, h2⟩, show N - (i + 1) = g by omega]
theorem sk_le {i : Nat} (h : i ≤ N) : i ≤ sk t N i ∧ sk t N i ≤ N := by
  have key : ∀ q i, N - i = q → i ≤ N → i ≤ sk t N i ∧ sk t N i ≤ N := by
    intro q
    induction q with
    | zero =>
      intro i hq hi
      rw [sk_n (by omega)]
      omega
    | succ q ih =>
      intro i hq hi
      by_cases hc : t i = 32
      · rw [sk_y (by omega) hc]
        have := ih (i + 1) (by omega) (by omega)
        omega
      · rw [sk_n (by simp [hc])]
        omega
  exact key _ i rfl h
theorem sk_st {i : Nat} (h : i ≤ N) : ¬ (sk t N i < N ∧ t (sk t N i) = 32) := by
  have key : ∀ q i, N - i = q → i ≤ N → ¬ (sk t N i < N ∧ t (sk t N i) = 32) := by
    intro q
    induction q with
    | zero =>
      intro i hq hi
      rw [sk_n (by omega)]
      omega
    | succ q ih =>
      intro i hq hi
      by_cases hc : t i = 32
      · rw [sk_y (by omega) hc]
        exact ih (i + 1) (by omega) (by omega)
      · rw [sk_n (by simp [hc])]
        simp [hc]
  exact key _ i rfl h
theorem sk_sk {i : Nat} (h : i ≤ N) : sk t N (sk t N i) = sk t N i := sk_n (sk_st h)
theorem sg_sk {i : Nat} (h : i ≤ N) : sg t N (sk t N i) = sg t N i := by
  unfold sg
  rw [sk_sk h]
theorem sg_pos {i : Nat} (h : sg t N i ≠ 0) : sk t N i < N := by
  unfold sg at h
  by_cases hc : sk t N i < N
  · exact hc
  · rw [if_neg hc] at h
    exact absurd rfl h
/-- a reading goes on from i, not beyond N, with at least l ops and no more than bytes -/
def PA (N i : Nat) (x : PR) (l : Nat) : Prop := ∀ c j, x = .inr (c, j) → i + c.length ≤ j ∧ j ≤ N ∧ l ≤ c.length
theorem bnd_inr {x : PR} {f : List Nat → Nat → PR} {c : List Nat} {j : Nat} (h : bnd x f = .inr (c, j)) : ∃ c1 j1, x = .inr (c1, j1) ∧ f c1 j1 = .inr (c, j) := by
  cases x with
  | inl e => exact absurd h (by simp [bnd])
  | inr p => exact ⟨p.1, p.2, rfl, h⟩
theorem nm_le : ∀ (q i v : Nat), i ≤ N → i ≤ (nm t N q i v).2 ∧ (nm t N q i v).2 ≤ N ∧ (nm t N q i v).2 ≤ i + q
  | 0, i, v, h => ⟨Nat.le_refl _, h, Nat.le_refl _⟩
  | q + 1, i, v, h => by
    rw [nm]
    split
    · rename_i hd
      have : i < N := by
        unfold dig at hd
        simp only [Bool.and_eq_true, decide_eq_true_eq] at hd
        exact hd.1
      have := nm_le q (i + 1) (10 * v + t i - 48) (by omega)
      omega
    · exact ⟨Nat.le_refl _, h, by omega⟩
theorem PA_num {q i : Nat} (h : i ≤ N) : PA N i (pNum t N q i) 1 := by
  intro c j hx
  unfold pNum at hx
  split at hx
  · exact absurd hx (by simp)
  · rename_i hn
    have := nm_le (t := t) q i 0 h
    simp only [Sum.inr.injEq, Prod.mk.injEq] at hx
    obtain ⟨rfl, rfl⟩ := hx
    simp only [List.length_cons, List.length_nil]
    omega
theorem pTk_inr {ch i j : Nat} {c c' : List Nat} (hch : ch ≠ 0) (h : pTk t N ch c i = .inr (c', j)) (hi : i ≤ N) : c' = c ∧ sg t N i = ch ∧ j = sk t N i + 1 ∧ j ≤ N ∧ i < j := by
  unfold pTk at h
  split at h
  · rename_i hs
    simp only [Sum.inr.injEq, Prod.mk.injEq] at h
    obtain ⟨rfl, rfl⟩ := h
    have h1 := sg_pos (t := t) (N := N) (i := i) (by rw [hs]; exact hch)
    have := sk_le (t := t) hi
    exact ⟨rfl, hs, rfl, by omega, by omega⟩
  · exact absurd h (by simp)
theorem PA_atom {sumf : Nat → PR} {k i : Nat} (hs : k ≠ 0 → ∀ i, i ≤ N → PA N i (sumf i) 1) (h : i ≤ N) : PA N i (pAtom t N sumf k i) 1 := by
  intro c j hx
  have hk := sk_le (t := t) h
  unfold pAtom at hx
  split at hx
  · rename_i hl
    simp only [Sum.inr.injEq, Prod.mk.injEq] at hx
    obtain ⟨rfl, rfl⟩ := hx
    have := sg_pos (t := t) (N := N) (i := i) (by intro e; rw [e] at hl; simp [ltr] at hl)
    simp only [List.length_cons, List.length_nil]
    omega
  · split at hx
    · rename_i h91
      have hp := sg_pos (t := t) (N := N) (i := i) (by omega)
      split at hx
      · exact absurd hx (by simp)
      · rename_i hk0
        obtain ⟨c1, j1, e1, e2⟩ := bnd_inr hx
        have a1 := hs hk0 _ (by omega) c1 j1 e1
        obtain ⟨rfl, b1, b2, b3, b4⟩ := pTk_inr (by omega) e2 a1.2.1
        omega
    · have := PA_num (t := t) (q := 4) hk.2 c j hx
      omega
theorem PA_termR {af : Nat → PR} (ha : ∀ i, i ≤ N → PA N i (af i) 1) : ∀ (g i : Nat), i ≤ N → PA N i (pTermR t N af g i) 0
  | 0, i, h => fun c j hx => absurd hx (by simp [pTermR])
  | g + 1, i, h => by
    intro c j hx
    have hk := sk_le (t := t) h
    rw [pTermR] at hx
    split at hx
    · rename_i hs
      have hp := sg_pos (t := t) (N := N) (i := i) (by omega)
      obtain ⟨c1, j1, e1, e2⟩ := bnd_inr hx
      obtain ⟨c2, j2, e3, e4⟩ := bnd_inr e2
      have a1 := ha _ (by omega) c1 j1 e1
      have a2 := PA_termR ha g j1 a1.2.1 c2 j2 e3
      simp only [Sum.inr.injEq, Prod.mk.injEq] at e4
      obtain ⟨rfl, rfl⟩ := e4
      simp only [List.length_append, List.length_cons, List.length_nil]
      omega
    · simp only [Sum.inr.injEq, Prod.mk.injEq] at hx
      obtain ⟨rfl, rfl⟩ := hx
      simp only [List.length_nil]
      omega
theorem PA_term {af : Nat → PR} (ha : ∀ i, i ≤ N → PA N i (af i) 1) {i : Nat} (h : i ≤ N) : PA N i (pTerm t N af i) 1 := by
  intro c j hx
  obtain ⟨c1, j1, e1, e2⟩ := bnd_inr hx
  obtain ⟨c2, j2, e3, e4⟩ := bnd_inr e2
  have a1 := ha _ h c1 j1 e1
  have a2 := PA_termR ha 300 j1 a1.2.1 c2 j2 e3
  simp only [Sum.inr.injEq, Prod.mk.injEq] at e4
  obtain ⟨rfl, rfl⟩ := e4
  simp only [List.length_append]
  omega
theorem PA_sumR {af : Nat → PR} (ha : ∀ i, i ≤ N → PA N i (af i) 1) : ∀ (g i : Nat), i ≤ N → PA N i (pSumR t N af g i) 0
  | 0, i, h => fun c j hx => absurd hx (by simp [pSumR])
  | g + 1, i, h => by
    intro c j hx
    have hk := sk_le (t := t) h
    rw [pSumR] at hx
    split at hx
    · rename_i hs
      have hp := sg_pos (t := t) (N := N) (i := i) (by omega)
      obtain ⟨c1, j1, e1, e2⟩ := bnd_inr hx
      obtain ⟨c2, j2, e3, e4⟩ := bnd_inr e2
      have a1 := PA_term ha (i := sk t N i + 1) (by omega) c1 j1 e1
      have a2 := PA_sumR ha g j1 a1.2.1 c2 j2 e3
      simp only [Sum.inr.injEq, Prod.mk.injEq] at e4
      obtain ⟨rfl, rfl⟩ := e4
      simp only [List.length_append, List.length_cons, List.length_nil]
      omega
    · simp only [Sum.inr.injEq, Prod.mk.injEq] at hx
      obtain ⟨rfl, rfl⟩ := hx
      simp only [List.length_nil]
      omega
theorem PA_sumA {af : Nat → PR} (ha : ∀ i, i ≤ N → PA N i (af i) 1) {i : Nat} (h : i ≤ N) : PA N i (pSumA t N af i) 1 := by
  intro c j hx
  obtain ⟨c1, j1, e1, e2⟩ := bnd_inr hx
  obtain ⟨c2, j2, e3, e4⟩ := bnd_inr e2
  have a1 := PA_term ha h c1 j1 e1
  have a2 := PA_sumR ha 300 j1 a1.2.1 c2 j2 e3
  simp only [Sum.inr.injEq, Prod.mk.injEq] at e4
  obtain ⟨rfl, rfl⟩ := e4
  simp only [List.length_append]
  omega
theorem PA_sum : ∀ (k i : Nat), i ≤ N → PA N i (pSum t N k i) 1
  | 0, i, h => PA_sumA (fun i hi => PA_atom (fun h0 => absurd rfl h0) hi) h
  | k + 1, i, h => PA_sumA (fun i hi => PA_atom (fun _ i hi => PA_sum k i hi) hi) h
theorem PA_at {k i : Nat} (h : i ≤ N) : PA N i (pAt t N k i) 1 := by
  cases k with
  | zero => exact PA_atom (sumf := fun _ => .inl 0) (fun h0 => absurd rfl h0) h
  | succ k => exact PA_atom (fun _ i hi => PA_sum k i hi) h
theorem PA_cmpR {k i j : Nat} {c : List Nat} (h : j ≤ N) (hc : i + c.length ≤ j) : ∀ c' j', pCmpR t N k c j = .inr (c', j') → i + c'.length ≤ j' ∧ j' ≤ N ∧ 1 ≤ c'.length := by
  intro c' j' hx
  have hk := sk_le (t := t) h
  unfold pCmpR at hx
  split at hx
  · rename_i hs
    have hp := sg_pos (t := t) (N := N) (i := j) (by omega)
    obtain ⟨c1, j1, e1, e2⟩ := bnd_inr hx
    have a1 := PA_sum k _ (by omega) c1 j1 e1
    simp only [Sum.inr.injEq, Prod.mk.injEq] at e2
    obtain ⟨rfl, rfl⟩ := e2
    simp only [List.length_append, List.length_cons, List.length_nil]
    omega
  · exact absurd hx (by simp)
theorem PA_cmp {k i : Nat} (h : i ≤ N) : PA N i (pCmp t N k i) 1 := by
  intro c j hx
  obtain ⟨c1, j1, e1, e2⟩ := bnd_inr hx
  have a1 := PA_sum k i h c1 j1 e1
  exact PA_cmpR a1.2.1 a1.1 c j e2
theorem PA_partR {uf : Nat → PR} (ha : ∀ i, i ≤ N → PA N i (uf i) 1) : ∀ (g i : Nat), i ≤ N → PA N i (pPartR t N uf g i) 0
  | 0, i, h => fun c j hx => absurd hx (by simp [pPartR])
  | g + 1, i, h => by
    intro c j hx
    have hk := sk_le (t := t) h
    rw [pPartR] at hx
    split at hx
    · rename_i hs
      have hp := sg_pos (t := t) (N := N) (i := i) (by omega)
      obtain ⟨c1, j1, e1, e2⟩ := bnd_inr hx
      obtain ⟨c2, j2, e3, e4⟩ := bnd_inr e2
      have a1 := ha _ (by omega) c1 j1 e1
      have a2 := PA_partR ha g j1 a1.2.1 c2 j2 e3
      simp only [Sum.inr.injEq, Prod.mk.injEq] at e4
      obtain ⟨rfl, rfl⟩ := e4
      simp only [List.length_append, List.length_cons, List.length_nil]
      omega
    · simp only [Sum.inr.injEq, Prod.mk.injEq] at hx
      obtain ⟨rfl, rfl⟩ := hx
      simp only [List.length_nil]
      omega
theorem PA_part {uf : Nat → PR} (ha : ∀ i, i ≤ N → PA N i (uf i) 1) {i : Nat} {x : PR} (hx0 : PA N i x 1) : PA N i (pPart t N uf x) 1 := by
  intro c j hx
  obtain ⟨c1, j1, e1, e2⟩ := bnd_inr hx
  obtain ⟨c2, j2, e3, e4⟩ := bnd_inr e2
  have a1 := hx0 c1 j1 e1
  have a2 := PA_partR ha 300 j1 a1.2.1 c2 j2 e3
  simp only [Sum.inr.injEq, Prod.mk.injEq] at e4
  obtain ⟨rfl, rfl⟩ := e4
  simp only [List.length_append]
  omega
theorem PA_condR {uf : Nat → PR} (ha : ∀ i, i ≤ N → PA N i (uf i) 1) : ∀ (g i : Nat), i ≤ N → PA N i (pCondR t N uf g i) 0
  | 0, i, h => fun c j hx => absurd hx (by simp [pCondR])
  | g + 1, i, h => by
    intro c j hx
    have hk := sk_le (t := t) h
    rw [pCondR] at hx
    split at hx
    · rename_i hs
      have hp := sg_pos (t := t) (N := N) (i := i) (by omega)
      obtain ⟨c1, j1, e1, e2⟩ := bnd_inr hx
      obtain ⟨c2, j2, e3, e4⟩ := bnd_inr e2
      have a1 := PA_part ha (ha (sk t N i + 1) (by omega)) c1 j1 e1
      have a2 := PA_condR ha g j1 a1.2.1 c2 j2 e3
      simp only [Sum.inr.injEq, Prod.mk.injEq] at e4
      obtain ⟨rfl, rfl⟩ := e4
      simp only [List.length_append, List.length_cons, List.length_nil]
      omega
    · simp only [Sum.inr.injEq, Prod.mk.injEq] at hx
      obtain ⟨rfl, rfl⟩ := hx
      simp only [List.length_nil]
      omega
theorem PA_cond {uf : Nat → PR} (ha : ∀ i, i ≤ N → PA N i (uf i) 1) {i : Nat} {x : PR} (hx0 : PA N i x 1) : PA N i (pCond t N uf x) 1 := by
  intro c j hx
  obtain ⟨c1, j1, e1, e2⟩ := bnd_inr hx
  obtain ⟨c2, j2, e3, e4⟩ := bnd_inr e2
  have a1 := PA_part ha hx0 c1 j1 e1
  have a2 := PA_condR ha 300 j1 a1.2.1 c2 j2 e3
  simp only [Sum.inr.injEq, Prod.mk.injEq] at e4
  obtain ⟨rfl, rfl⟩ := e4
  simp only [List.length_append]
  omega
theorem PA_unitA {uf : Nat → PR} {k i : Nat} (ha : k ≠ 0 → ∀ i, i ≤ N → PA N i (uf i) 1) (h : i ≤ N) : PA N i (pUnitA t N uf k i) 1 := by
  intro c j hx
  have hk := sk_le (t := t) h
  unfold pUnitA at hx
  split at hx
  · have hp := sg_pos (t := t) (N := N) (i := i) (by omega)
    split at hx
    · exact absurd hx (by simp)
    · rename_i hk0
      obtain ⟨c1, j1, e1, e2⟩ := bnd_inr hx
      have a1 := ha hk0 _ (by omega) c1 j1 e1
      simp only [Sum.inr.injEq, Prod.mk.injEq] at e2
      obtain ⟨rfl, rfl⟩ := e2
      simp only [List.length_append, List.length_cons, List.length_nil]
      omega
  · split at hx
    · have hp := sg_pos (t := t) (N := N) (i := i) (by omega)
      split at hx
      · exact absurd hx (by simp)
      · rename_i hk0
        obtain ⟨c1, j1, e1, e2⟩ := bnd_inr hx
        have a1 := PA_cond (ha hk0) (ha hk0 (sk t N i + 1) (by omega)) c1 j1 e1
        obtain ⟨rfl, b1, b2, b3, b4⟩ := pTk_inr (by omega) e2 a1.2.1
        omega
    · have := PA_cmp hk.2 c j hx
      omega
theorem PA_unit : ∀ (k i : Nat), i ≤ N → PA N i (pUnit t N k i) 1
  | 0, i, h => PA_unitA (fun h0 => absurd rfl h0) h
  | k + 1, i, h => PA_unitA (fun _ i hi => PA_unit k i hi) h
end PURE
