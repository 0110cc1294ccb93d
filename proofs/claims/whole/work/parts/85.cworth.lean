/-! The class runs a law: the whole. -/
section CWO
variable {n z : Nat} {D : Dyn} {m : MI} {j : MJ} {r : MR} {L : Nat → Int} {o : Nat} {code : List Nat}
theorem PG_fr {m m' : MI} (h : PG D m o code) (hf : m' o = m o) : PG D m' o code := ⟨h.1, h.2.1, h.2.2.1, by rw [hf]; exact h.2.2.2⟩
theorem LS_fr {m m' : MI} (h : LSx m L) (hf : m' 50 = m 50) : LSx m' L := by
  unfold LSx
  rw [hf]
  exact h
theorem PG_at {pre suf : List Nat} {op : Nat} (h : PG D m o code) (hc : code = pre ++ (op :: suf)) : pre.length < code.length ∧ m o pre.length = Int32.ofNat op := by
  have hl : pre.length < code.length := by rw [hc]; simp
  refine ⟨hl, ?_⟩
  rw [h.2.2.2 _ hl, hc]
  congr 1
  simp
/-- the frame of a run -/
def FW (m m' : MI) : Prop := ∀ a, a ≠ 49 → a ≠ 51 → m' a = m a
theorem FW_tr {m m' m'' : MI} (h : FW m m') (h' : FW m' m'') : FW m m'' := fun a h1 h2 => (h' a h1 h2).trans (h a h1 h2)
theorem c49 : isC [4] (mkH n z D m j r) 49 = some () := isC_mk rfl (by decide)
theorem C_step {pre suf : List Nat} {op f : Nat} {s s' : List Int} (hp : PG D m o code) (hL : LSx m L) (hc : code = pre ++ (op :: suf)) (hs : SKx m s) (h : stp L op s = some s') : ∃ m', f_X4_worth_9 (f + 1) 49 o 0 (Int32.ofNat pre.length) (mkH n z D m j r) = f_X4_worth_9 f 49 o 0 (Int32.ofNat (pre.length + 1)) (mkH n z D m' j r) ∧ SKx m' s' ∧ FW m m' ∧ op ≤ 10015 := by
  obtain ⟨hl, ho⟩ := PG_at hp hc
  have hlen : aLen (mkH n z D m j r) o = some (Int32.ofNat code.length) := aLen_mk hp.1 (by decide)
  have hrd : aI 0 (mkH n z D m j r) o (Int32.ofNat pre.length) = some (Int32.ofNat op) := by rw [aIk hp.1 (by decide) hl (by have := hp.2.1; omega), ho]
  have h240 := hp.2.1
  have hb : op ≤ 10015 := by
    unfold stp at h
    split at h
    · omega
    split at h
    · omega
    split at h
    · omega
    split at h
    · omega
    · exact absurd h (by simp)
  have nx : ∀ mm : MI, f_X4_worth_173 (f_X4_worth_9 f) 49 o 0 (Int32.ofNat pre.length) (mkH n z D mm j r) = f_X4_worth_9 f 49 o 0 (Int32.ofNat (pre.length + 1)) (mkH n z D mm j r) := by
    intro mm
    unfold f_X4_worth_173
    rw [l1, i_add]
  have cle : ∀ k : Nat, k < 20000 → ((Int32.ofNat k ≤ Int32.ofNat op) ↔ k ≤ op) := fun k hk => i_le (by omega) (by omega)
  have ceq : ∀ k : Nat, k < 20000 → ((Int32.ofNat op = Int32.ofNat k) ↔ op = k) := fun k hk => i_inj (by omega) (by omega)
  rw [f_X4_worth_9.eq_2, hlen, obs, if_neg (fun e => by have := (i_le (by omega) (by omega)).mp e; omega), hrd, obs, if_pos rfl, if_neg (fun e => by rw [l10017, ceq 10017 (by omega)] at e; omega), if_neg (fun e => by rw [l10016, ceq 10016 (by omega)] at e; omega)]
  unfold stp at h
  by_cases h1 : op < 10000
  · rw [if_pos h1] at h
    rw [if_neg (fun e => by rw [l10000, cle 10000 (by omega)] at e; omega), c49, obs]
    split at h
    · rename_i hl32
      obtain ⟨m', e', hs', hf'⟩ := C_push (n := n) (z := z) (D := D) (j := j) (r := r) (v := (op : Int)) hs hl32 (by omega)
      rw [oi_nat] at e'
      refine ⟨m', ?_, ?_, hf', hb⟩
      · rw [e', cN_mk, nx]
      · simp only [Option.some.injEq] at h; rw [← h]; exact hs'
    · exact absurd h (by simp)
  rw [if_neg h1] at h
  rw [if_pos (by rw [l10000, cle 10000 (by omega)]; omega)]
  by_cases h2 : op < 10006
  · rw [if_pos h2] at h
    rw [if_neg (fun e => by rw [l10006, cle 10006 (by omega)] at e; omega)]
    split at h
    · rename_i hl32
      have hk := hL (op - 10000) (by omega)
      obtain ⟨m', e', hs', hf'⟩ := C_push (n := n) (z := z) (D := D) (j := j) (r := r) (v := L (op - 10000)) hs hl32 hk.2
      refine ⟨m', ?_, ?_, hf', hb⟩
      · have e50 : gR [4] (mkH n z D m j r) 49 1 = some 50 := gR_mk rfl (by decide) rfl
        have esub : Int32.ofNat op - 10000 = Int32.ofNat (op - 10000) := by rw [l10000, i_sub (by omega)]
        rw [e50, obs, esub, p50.1 _ (by omega), obs, hk.1, c49, obs, e', cN_mk, nx]
      · simp only [Option.some.injEq] at h; rw [← h]; exact hs'
    · exact absurd h (by simp)
  rw [if_neg h2] at h
  rw [if_pos (by rw [l10006, cle 10006 (by omega)]; omega)]
  by_cases h3 : op = 10015
  · rw [if_pos h3] at h
    rw [if_pos (by rw [l10015, ceq 10015 (by omega)]; exact h3), c49, obs]
    cases s with
    | nil => exact absurd h (by simp)
    | cons a s1 =>
      simp only [Option.some.injEq] at h
      obtain ⟨e1, hs1⟩ := C_pop (n := n) (z := z) (D := D) (j := j) (r := r) hs
      have ba := hs.2.2.2 a (List.mem_cons_self)
      have hl32 : s1.length < 32 := by have := hs.2.1; simp at this; omega
      rw [e1, cN_mk]
      have fin : ∀ x : Int, x = (if a = 0 then 1 else 0) → ∃ m', f_X4_worth_142 (f_X4_worth_9 f) 49 o 0 (Int32.ofNat pre.length) 49 (Int32.ofInt x) (mkH n z D (wI m 49 3 (Int32.ofNat s1.length)) j r) = f_X4_worth_9 f 49 o 0 (Int32.ofNat (pre.length + 1)) (mkH n z D m' j r) ∧ SKx m' s' ∧ FW m m' ∧ op ≤ 10015 := by
        intro x hx
        obtain ⟨m', e', hs', hf'⟩ := C_push (n := n) (z := z) (D := D) (j := j) (r := r) (v := x) hs1 hl32 (by rw [hx]; split <;> omega)
        refine ⟨m', ?_, ?_, ?_, hb⟩
        · unfold f_X4_worth_142
          rw [c49, obs, e', cN_mk, nx]
        · rw [← h, ← hx]; exact hs'
        · intro b hb1 hb2; rw [hf' b hb1 hb2, wI_ne hb1]
      by_cases ha0 : a = 0
      · rw [if_pos ((oi_z ba).mpr ha0)]
        exact fin 1 (by rw [if_pos ha0])
      · rw [if_neg (fun e => ha0 ((oi_z ba).mp e))]
        exact fin 0 (by rw [if_neg ha0])
  rw [if_neg h3] at h
  rw [if_neg (fun e => by rw [l10015, ceq 10015 (by omega)] at e; exact h3 e), c49, obs]
  rw [if_pos (by omega)] at h
  match s, hs, h with
  | [], _, h => exact absurd h (by simp)
  | [_], _, h => exact absurd h (by simp)
  | b :: a :: s1, hs, h =>
    dsimp only at h
    split at h
    · rename_i h01
      simp only [Option.some.injEq] at h
      obtain ⟨e1, hs1⟩ := C_pop (n := n) (z := z) (D := D) (j := j) (r := r) hs
      obtain ⟨e2, hs2⟩ := C_pop (n := n) (z := z) (D := D) (j := j) (r := r) hs1
      have bb := hs.2.2.2 b (List.mem_cons_self)
      have ba := hs.2.2.2 a (List.mem_cons_of_mem _ (List.mem_cons_self))
      have hl32 : s1.length < 32 := by have := hs.2.1; simp at this; omega
      obtain ⟨m', e', hs', hf'⟩ := C_push (n := n) (z := z) (D := D) (j := j) (r := r) (v := jn op a b) hs2 hl32 jn_b
      refine ⟨m', ?_, ?_, ?_, hb⟩
      · rw [e1, cN_mk, c49, obs, e2, cN_mk, C_joined ba bb (by omega) h01, cN_mk, c49, obs, e', cN_mk, nx]
      · rw [← h]; exact hs'
      · intro c hc1 hc2; rw [hf' c hc1 hc2, wI_ne hc1, wI_ne hc1]
    · exact absurd h (by simp)
theorem C_runs : ∀ (c pre suf : List Nat) (f : Nat) (m : MI) (s s' : List Int), PG D m o code → LSx m L → code = pre ++ (c ++ suf) → SKx m s → runs L c s = some s' → ∃ m', f_X4_worth_9 (f + c.length) 49 o 0 (Int32.ofNat pre.length) (mkH n z D m j r) = f_X4_worth_9 f 49 o 0 (Int32.ofNat (pre.length + c.length)) (mkH n z D m' j r) ∧ SKx m' s' ∧ FW m m' ∧ (∀ op ∈ c, op ≤ 10015)
  | [], pre, suf, f, m, s, s', hp, hL, hc, hs, h => by
    simp only [runs, Option.some.injEq] at h
    subst h
    exact ⟨m, rfl, hs, fun _ _ _ => rfl, fun _ h => absurd h (List.not_mem_nil)⟩
  | op :: c, pre, suf, f, m, s, s', hp, hL, hc, hs, h => by
    simp only [runs] at h
    cases h1 : stp L op s with
    | none => rw [h1] at h; exact absurd h (by simp)
    | some s1 =>
      rw [h1, Option.bind_some] at h
      obtain ⟨m1, e1, hs1, f1, hb⟩ := C_step (n := n) (z := z) (D := D) (m := m) (j := j) (r := r) (f := f + c.length) hp hL (suf := c ++ suf) hc hs h1
      have ho : 95 ≤ o := hp.2.2.1
      obtain ⟨m2, e2, hs2, f2, hb2⟩ := C_runs c (pre ++ [op]) suf f m1 s1 s' (PG_fr hp (f1 o (by omega) (by omega))) (LS_fr hL (f1 50 (by omega) (by omega))) (by rw [hc]; simp) hs1 h
      refine ⟨m2, ?_, hs2, FW_tr f1 f2, fun x hx => ?_⟩
      · rw [show f + (op :: c).length = f + c.length + 1 from rfl, e1]
        rw [List.length_append] at e2
        have e3 : pre.length + (op :: c).length = pre.length + 1 + c.length := by simp; omega
        rw [e3]
        exact e2
      · rcases List.mem_cons.mp hx with h | h
        · rw [h]; exact hb
        · exact hb2 x h
theorem C_skip : ∀ (c pre suf : List Nat) (f : Nat) (m : MI), PG D m o code → code = pre ++ (c ++ suf) → (∀ op ∈ c, op ≤ 10015) → f_X4_worth_9 (f + c.length) 49 o 1 (Int32.ofNat pre.length) (mkH n z D m j r) = f_X4_worth_9 f 49 o 1 (Int32.ofNat (pre.length + c.length)) (mkH n z D m j r)
  | [], pre, suf, f, m, hp, hc, hb => rfl
  | op :: c, pre, suf, f, m, hp, hc, hb => by
    obtain ⟨hl, ho⟩ := PG_at hp (suf := c ++ suf) hc
    have h240 := hp.2.1
    have hlen : aLen (mkH n z D m j r) o = some (Int32.ofNat code.length) := aLen_mk hp.1 (by decide)
    have hrd : aI 0 (mkH n z D m j r) o (Int32.ofNat pre.length) = some (Int32.ofNat op) := by rw [aIk hp.1 (by decide) hl (by omega), ho]
    have hop := hb op (List.mem_cons_self)
    have ih := C_skip c (pre ++ [op]) suf f m hp (by rw [hc]; simp) (fun x hx => hb x (List.mem_cons_of_mem _ hx))
    rw [List.length_append] at ih
    have e3 : pre.length + (op :: c).length = pre.length + 1 + c.length := by simp; omega
    rw [show f + (op :: c).length = f + c.length + 1 from rfl, f_X4_worth_9.eq_2, hlen, obs, if_neg (fun e => by have := (i_le (by omega) (by omega)).mp e; omega), hrd, obs, if_neg (by decide), if_neg (fun e => by rw [l10017, i_inj (by omega) (by omega)] at e; omega), e3]
    unfold f_X4_worth_37 f_X4_worth_173
    rw [show Int32.ofNat pre.length + 1 = Int32.ofNat (pre.length + 1) by rw [l1, i_add]]
    exact ih
/-- clauses that run -/
def OKl (L : Nat → Int) (cl : List (List Nat × List Nat)) : Prop := ∀ q ∈ cl, (q.1 = [] ∨ (q.1 ≠ [] ∧ ∃ v, HB L 18 q.1 v)) ∧ (∃ v, Ev L q.2 v 15)
theorem C_give {pre suf : List Nat} {f : Nat} {v : Int} {s : List Int} (hp : PG D m o code) (hc : code = pre ++ (10017 :: suf)) (hs : SKx m (v :: s)) : ∃ m', f_X4_worth_9 (f + 1) 49 o 0 (Int32.ofNat pre.length) (mkH n z D m j r) = some (Int32.ofInt v, mkH n z D m' j r) ∧ FW m m' := by
  obtain ⟨hl, ho⟩ := PG_at hp hc
  have h240 := hp.2.1
  have hlen : aLen (mkH n z D m j r) o = some (Int32.ofNat code.length) := aLen_mk hp.1 (by decide)
  have hrd : aI 0 (mkH n z D m j r) o (Int32.ofNat pre.length) = some (Int32.ofNat 10017) := by rw [aIk hp.1 (by decide) hl (by omega), ho]
  obtain ⟨e1, hs1⟩ := C_pop (n := n) (z := z) (D := D) (j := j) (r := r) hs
  refine ⟨wI m 49 3 (Int32.ofNat s.length), ?_, fun a h1 h2 => wI_ne h1⟩
  rw [f_X4_worth_9.eq_2, hlen, obs, if_neg (fun e => by have := (i_le (by omega) (by omega)).mp e; omega), hrd, obs, if_pos rfl, if_pos l10017.symm, c49, obs, e1, cN_mk]
theorem C_worthL : ∀ (cl : List (List Nat × List Nat)) (pre : List Nat) (fuel : Nat) (m : MI), PG D m o code → LSx m L → code = pre ++ cdP cl → SKx m [] → OKl L cl → (cdP cl).length < fuel → ∃ m', f_X4_worth_9 fuel 49 o 0 (Int32.ofNat pre.length) (mkH n z D m j r) = some (Int32.ofInt (vl L cl), mkH n z D m' j r) ∧ FW m m'
  | [], pre, fuel, m, hp, hL, hc, hs, hok, hf => by
    obtain ⟨f, rfl⟩ : ∃ f, fuel = f + 1 := ⟨fuel - 1, by omega⟩
    have hlen : aLen (mkH n z D m j r) o = some (Int32.ofNat code.length) := aLen_mk hp.1 (by decide)
    have h240 := hp.2.1
    have e : code.length = pre.length := by rw [hc]; simp [cdP]
    refine ⟨m, ?_, fun _ _ _ => rfl⟩
    rw [f_X4_worth_9.eq_2, hlen, obs, if_pos ((i_le (by omega) (by omega)).mpr (by omega))]
    rfl
  | (cc, sc) :: cl, pre, fuel, m, hp, hL, hc, hs, hok, hf => by
    have hq := hok (cc, sc) (List.mem_cons_self)
    have hok2 : OKl L cl := fun q h => hok q (List.mem_cons_of_mem _ h)
    have ho : 95 ≤ o := hp.2.2.1
    obtain ⟨w, hw⟩ := hq.2
    have tsc : topv L sc = w := Ev_top hw (by omega)
    have rsc : runs L sc [] = some [w] := hw.2.2.2 [] (by simp)
    rcases hq.1 with hcc | ⟨hcc, v, hv⟩
    · have hcc' : cc = [] := hcc
      subst hcc'
      have hcd : cdP (([], sc) :: cl) = sc ++ (10017 :: cdP cl) := by simp [cdP, cdB]
      rw [hcd] at hc hf
      simp only [List.length_append, List.length_cons] at hf
      obtain ⟨f, rfl⟩ : ∃ f, fuel = (f + 1) + sc.length := ⟨fuel - sc.length - 1, by omega⟩
      obtain ⟨m1, e1, hs1, f1, _⟩ := C_runs (n := n) (z := z) (D := D) (j := j) (r := r) sc pre (10017 :: cdP cl) (f + 1) m [] [w] hp hL hc hs rsc
      obtain ⟨m2, e2, f2⟩ := C_give (n := n) (z := z) (D := D) (j := j) (r := r) (f := f) (pre := pre ++ sc) (suf := cdP cl) (PG_fr hp (f1 o (by omega) (by omega))) (by rw [hc]; simp) hs1
      rw [List.length_append] at e2
      refine ⟨m2, ?_, FW_tr f1 f2⟩
      rw [e1, e2]
      simp [vl, tsc]
    · have hcd : cdP ((cc, sc) :: cl) = cc ++ (10016 :: (sc ++ (10017 :: cdP cl))) := by simp [cdP, cdB, show cc ≠ [] from hcc]
      have tcc : topv L cc = v := Ev_top hv.1 (by omega)
      have rcc : runs L cc [] = some [v] := hv.1.2.2.2 [] (by simp)
      rw [hcd] at hc hf
      simp only [List.length_append, List.length_cons] at hf
      obtain ⟨f, rfl⟩ : ∃ f, fuel = (((f + 1) + sc.length) + 1) + cc.length := ⟨fuel - cc.length - sc.length - 2, by omega⟩
      obtain ⟨m1, e1, hs1, f1, _⟩ := C_runs (n := n) (z := z) (D := D) (j := j) (r := r) cc pre (10016 :: (sc ++ (10017 :: cdP cl))) (((f + 1) + sc.length) + 1) m [] [v] hp hL hc hs rcc
      have hp1 := PG_fr hp (f1 o (by omega) (by omega))
      have hL1 := LS_fr hL (f1 50 (by omega) (by omega))
      have hc1 : code = (pre ++ cc) ++ (10016 :: (sc ++ (10017 :: cdP cl))) := by rw [hc]; simp
      obtain ⟨hl, hov⟩ := PG_at hp1 hc1
      have h240 := hp.2.1
      have hlen : aLen (mkH n z D m1 j r) o = some (Int32.ofNat code.length) := aLen_mk hp.1 (by decide)
      have hrd : aI 0 (mkH n z D m1 j r) o (Int32.ofNat (pre ++ cc).length) = some (Int32.ofNat 10016) := by rw [aIk hp.1 (by decide) hl (by omega), hov]
      obtain ⟨e2, hs2⟩ := C_pop (n := n) (z := z) (D := D) (j := j) (r := r) hs1
      generalize hm2 : wI m1 49 3 (Int32.ofNat ([] : List Int).length) = m2 at e2 hs2
      have f2 : FW m1 m2 := fun a h1 h2 => by rw [← hm2, wI_ne h1]
      have bv : -1000000 ≤ v ∧ v ≤ 1000000 := ⟨hv.1.1, hv.1.2.1⟩
      have hp2 := PG_fr hp1 (f2 o (by omega) (by omega))
      have hL2 := LS_fr hL1 (f2 50 (by omega) (by omega))
      have hc2 : code = (pre ++ cc ++ [10016]) ++ (sc ++ (10017 :: cdP cl)) := by rw [hc]; simp
      have lp1 : (pre ++ cc).length = pre.length + cc.length := List.length_append
      have lp2 : (pre ++ cc ++ [10016]).length = pre.length + cc.length + 1 := by rw [List.length_append, lp1]; rfl
      have step : f_X4_worth_9 (((f + 1) + sc.length) + 1) 49 o 0 (Int32.ofNat (pre.length + cc.length)) (mkH n z D m1 j r) = f_X4_worth_9 ((f + 1) + sc.length) 49 o (if v = 0 then 1 else 0) (Int32.ofNat (pre ++ cc ++ [10016]).length) (mkH n z D m2 j r) := by
        rw [← lp1, f_X4_worth_9.eq_2, hlen, obs, if_neg (fun e => by have := (i_le (by omega) (by omega)).mp e; omega), hrd, obs, if_pos rfl, if_neg (by decide), if_pos l10016.symm, c49, obs, e2, cN_mk]
        unfold f_X4_worth_74 f_X4_worth_173
        rw [lp2, lp1, show Int32.ofNat (pre.length + cc.length) + 1 = Int32.ofNat (pre.length + cc.length + 1) by rw [l1, i_add]]
        by_cases hv0 : v = 0
        · rw [if_pos ((oi_z bv).mpr hv0), if_pos hv0]
        · rw [if_neg (fun e => hv0 ((oi_z bv).mp e)), if_neg hv0]
      rw [e1, step]
      by_cases hv0 : v = 0
      · rw [if_pos hv0]
        obtain ⟨_, _, _, _, hops⟩ := C_runs (n := n) (z := z) (D := D) (j := j) (r := r) sc (pre ++ cc ++ [10016]) (10017 :: cdP cl) (f + 1) m2 [] [w] hp2 hL2 hc2 hs2 rsc
        rw [C_skip sc (pre ++ cc ++ [10016]) (10017 :: cdP cl) (f + 1) m2 hp2 hc2 hops]
        have hc3 : code = (pre ++ cc ++ [10016] ++ sc) ++ (10017 :: cdP cl) := by rw [hc]; simp
        obtain ⟨hl3, hov3⟩ := PG_at hp2 hc3
        have hlen3 : aLen (mkH n z D m2 j r) o = some (Int32.ofNat code.length) := aLen_mk hp.1 (by decide)
        have hrd3 : aI 0 (mkH n z D m2 j r) o (Int32.ofNat (pre ++ cc ++ [10016] ++ sc).length) = some (Int32.ofNat 10017) := by rw [aIk hp.1 (by decide) hl3 (by omega), hov3]
        have lp3 : (pre ++ cc ++ [10016] ++ sc).length = (pre ++ cc ++ [10016]).length + sc.length := List.length_append
        obtain ⟨m3, e3, f3⟩ := C_worthL cl (pre ++ cc ++ [10016] ++ sc ++ [10017]) f m2 hp2 hL2 (by rw [hc]; simp) hs2 hok2 (by omega)
        refine ⟨m3, ?_, FW_tr (FW_tr f1 f2) f3⟩
        have lp4 : (pre ++ cc ++ [10016] ++ sc ++ [10017]).length = (pre ++ cc ++ [10016] ++ sc).length + 1 := by rw [List.length_append]; rfl
        rw [← lp3, f_X4_worth_9.eq_2, hlen3, obs, if_neg (fun e => by have := (i_le (by omega) (by omega)).mp e; omega), hrd3, obs, if_neg (by decide), if_pos l10017.symm]
        unfold f_X4_worth_37 f_X4_worth_173
        have e5 : Int32.ofNat (pre ++ cc ++ [10016] ++ sc).length + 1 = Int32.ofNat (pre ++ cc ++ [10016] ++ sc ++ [10017]).length := by rw [lp4, l1, i_add]
        rw [e5, e3]
        have : ¬ (cc = [] ∨ topv L cc ≠ 0) := by rw [tcc]; simp [show cc ≠ [] from hcc, hv0]
        simp only [vl]
        rw [if_neg this]
      · rw [if_neg hv0]
        obtain ⟨m3, e3, hs3, f3, _⟩ := C_runs (n := n) (z := z) (D := D) (j := j) (r := r) sc (pre ++ cc ++ [10016]) (10017 :: cdP cl) (f + 1) m2 [] [w] hp2 hL2 hc2 hs2 rsc
        obtain ⟨m4, e4, f4⟩ := C_give (n := n) (z := z) (D := D) (j := j) (r := r) (f := f) (pre := pre ++ cc ++ [10016] ++ sc) (suf := cdP cl) (PG_fr hp2 (f3 o (by omega) (by omega))) (by rw [hc]; simp) hs3
        refine ⟨m4, ?_, FW_tr (FW_tr (FW_tr f1 f2) f3) f4⟩
        rw [e3]
        rw [List.length_append] at e4
        rw [e4]
        have : (cc = [] ∨ topv L cc ≠ 0) := by rw [tcc]; exact Or.inr hv0
        simp only [vl]
        rw [if_pos this, tsc]
theorem C_worth {cl : List (List Nat × List Nat)} (hp : PG D m o (cdP cl)) (hL : LSx m L) (hok : OKl L cl) : ∃ m', f_X4_worth 49 o (mkH n z D m j r) = some (Int32.ofInt (vl L cl), mkH n z D m' j r) ∧ FW m m' := by
  have ho : 95 ≤ o := hp.2.2.1
  have hs : SKx (wI m 49 3 (Int32.ofNat 0)) [] := ⟨by rw [wI_se]; rfl, by simp, fun q hq => absurd hq (by simp), fun v hv => absurd hv (List.not_mem_nil)⟩
  obtain ⟨m', e, hf⟩ := C_worthL (n := n) (z := z) (D := D) (j := j) (r := r) cl [] fu (wI m 49 3 (Int32.ofNat 0)) (PG_fr hp (wI_ne (by omega))) (LS_fr hL (wI_ne (by omega))) rfl hs hok (by have := hp.2.1; unfold fu; omega)
  refine ⟨m', ?_, fun a h1 h2 => by rw [hf a h1 h2, wI_ne h1]⟩
  unfold f_X4_worth f_X4_worth_0
  have e0 : pV [4] (mkH n z D m j r) 49 3 (.int 0) = some (mkH n z D (wI m 49 3 (Int32.ofNat 0)) j r) := pI_mk rfl (by decide) rfl
  rw [e0, obs]
  exact e
end CWO
