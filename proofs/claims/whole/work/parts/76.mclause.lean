/-! The model reads a law: clauses, the whole. -/
abbrev PC : Type := Nat ⊕ (List Nat × List Nat × Nat)
def pTail (t : Nat → Nat) (N : Nat) (cc : List Nat) (i : Nat) : PC := if sg t N i = 63 then (match pSum t N 6 (sk t N i + 1) with | .inl e => .inl e | .inr q => .inr (cc, q.1, q.2)) else .inl (sk t N i)
def pBody (t : Nat → Nat) (N i : Nat) : PC :=
  if sg t N i = 33 ∨ sg t N i = 40 then (match pCond t N (pUnit t N 6) (pUnit t N 6 (sk t N i)) with | .inl e => .inl e | .inr q => pTail t N q.1 q.2)
  else match pSum t N 6 (sk t N i) with
    | .inl e => .inl e
    | .inr q => if sg t N q.2 = 60 ∨ sg t N q.2 = 61 ∨ sg t N q.2 = 62 then (match pCond t N (pUnit t N 6) (pCmpR t N 6 q.1 (sk t N q.2)) with | .inl e => .inl e | .inr q => pTail t N q.1 q.2) else .inr ([], q.1, sk t N q.2)
def pCl (t : Nat → Nat) (N i : Nat) : PC := if sg t N i = 121 then (if sg t N (sk t N i + 1) = 58 then pBody t N (sk t N (sk t N i + 1) + 1) else .inl (sk t N (sk t N i + 1))) else .inl (sk t N i)
def pLw (t : Nat → Nat) (N : Nat) : Nat → Nat → Nat ⊕ List (List Nat × List Nat)
  | 0, _ => .inl 0
  | g + 1, i => match pCl t N i with
    | .inl e => .inl e
    | .inr (cc, sc, j) => if sg t N j = 0 then .inr [(cc, sc)] else if sg t N j = 59 then (match pLw t N g (sk t N j + 1) with | .inl e => .inl e | .inr cl => .inr ((cc, sc) :: cl)) else .inl (sk t N j)
def topv (L : Nat → Int) (c : List Nat) : Int := match runs L c [] with
  | some (v :: _) => v
  | _ => 0
def vl (L : Nat → Int) : List (List Nat × List Nat) → Int
  | [] => 0
  | q :: cl => if q.1 = [] ∨ topv L q.1 ≠ 0 then topv L q.2 else vl L cl
theorem Ev_top {L : Nat → Int} {c : List Nat} {v : Int} {h : Nat} (e : Ev L c v h) (hh : h ≤ 32) : topv L c = v := by
  unfold topv
  rw [e.2.2.2 [] (by simpa using hh)]
/-- a clause that is read well -/
def OKc (L : Nat → Int) (N i : Nat) (x : PC) : Prop := ∀ cc sc j, x = .inr (cc, sc, j) → (cc = [] ∨ (cc ≠ [] ∧ ∃ v, HB L 18 cc v)) ∧ (∃ v, Ev L sc v 15) ∧ i + cc.length + sc.length + (if cc = [] then 0 else 1) + 2 ≤ j ∧ j ≤ N
/-- what the model holds of what it has found -/
def fb (m : MI) (f v : Int32) : MI := fun a => if a = 72 then (fun i => if i = 17 then f else if i = 14 then v else m 72 i) else m a
section FB
variable {m : MI} {f v x e d y : Int32}
theorem fb_17 : fb m f v 72 17 = f := by simp [fb]
theorem fb_14 : fb m f v 72 14 = v := by simp [fb]
theorem fb_o {i : Nat} (h1 : i ≠ 17) (h2 : i ≠ 14) : fb m f v 72 i = m 72 i := by simp [fb, h1, h2]
theorem fb_a {a : Nat} (h : a ≠ 72) : fb m f v a = m a := by simp [fb, h]
theorem w17 : wI (s3 (fb m f v) x e d) 72 17 y = s3 (fb m y v) x e d := by
  funext a i
  by_cases h : a = 72
  · subst h
    by_cases h' : i = 17
    · subst h'; rw [wI_se, s3_o (by omega), fb_17]
    · rw [wI_sn h']; simp [s3, fb, h']
  · rw [wI_ne h]; simp [s3, fb, h]
theorem w14 : wI (s3 (fb m f v) x e d) 72 14 y = s3 (fb m f y) x e d := by
  funext a i
  by_cases h : a = 72
  · subst h
    by_cases h' : i = 14
    · subst h'; rw [wI_se, s3_o (by omega), fb_14]
    · rw [wI_sn h']; simp [s3, fb, h']
  · rw [wI_ne h]; simp [s3, fb, h]
end FB
section MCLA
variable {n z : Nat} {D : Dyn} {m : MI} {j : MJ} {r : MR} {t : Nat → Nat} {N a b i : Nat} {L : Nat → Int}
theorem TX_fb {f v : Int32} (h : TX m r t N a b) : TX (fb m f v) r t N a b := by
  obtain ⟨h1, h2, h3, h4, h5, h6⟩ := h
  refine ⟨h1, by rw [fb_o (by omega) (by omega)]; exact h2, by rw [fb_o (by omega) (by omega)]; exact h3, h4, h5, fun q hq => ?_⟩
  rw [fb_a (by omega)]
  exact h6 q hq
theorem LT_fb {f v : Int32} (h : LT m L) : LT (fb m f v) L := by
  unfold LT
  rw [fb_a (by omega)]
  exact h
def CO (n z : Nat) (D : Dyn) (m : MI) (j : MJ) (r : MR) (f : Bool) (v : Int) (L : Nat → Int) (res : Option (Unit × AH)) (p : PC) : Prop := match p with
  | .inl e => e ≤ 1000 ∧ ∃ x dd, res = some ((), mkH n z D (s3 (fb m (bI f) (Int32.ofInt v)) x (Int32.ofNat e) dd) j r)
  | .inr q => res = some ((), mkH n z D (s3 (fb m (bI (f || decide (q.1 = [] ∨ topv L q.1 ≠ 0))) (Int32.ofInt (if f then v else if q.1 = [] ∨ topv L q.1 ≠ 0 then topv L q.2.1 else v))) (Int32.ofNat q.2.2) no1 (Int32.ofNat 0)) j r)
theorem M_134 {f : Bool} {v w is_ : Int} (h13 : m 72 13 = 121) (his : is_ = 0 ∨ is_ = 1) : f_X12_clause_134 72 (Int32.ofNat 121) (Int32.ofInt is_) (Int32.ofInt w) (mkH n z D (s3 (fb m (bI f) (Int32.ofInt v)) (Int32.ofNat i) no1 (Int32.ofNat 0)) j r) = some ((), mkH n z D (s3 (fb m (bI (f || decide (is_ ≠ 0))) (Int32.ofInt (if f then v else if is_ ≠ 0 then w else v))) (Int32.ofNat i) no1 (Int32.ofNat 0)) j r) := by
  have e13 : s3 (fb m (bI f) (Int32.ofInt v)) (Int32.ofNat i) no1 (Int32.ofNat 0) 72 13 = Int32.ofNat 121 := by
    rw [s3_o (by omega), fb_o (by omega) (by omega), h13]; rfl
  unfold f_X12_clause_134
  simp (disch := omega) only [obs, cN_mk, ite_true, ite_false, if_true, if_false, q72, s3_11, l1, no1_e, reduceIte, e13, s3_o, fb_17]
  cases f
  · rw [if_pos (by decide)]
    rcases his with rfl | rfl
    · rw [if_pos (by decide)]
      rfl
    · rw [if_neg (by decide), ← l1]
      simp only [obs, cN_mk, ite_true, ite_false, if_true, if_false, q72, w17, w14]
      rfl
  · rw [if_neg (by decide)]
    rfl
theorem M_134e {f : Bool} {v : Int} {x1 x2 x3 x dd : Int32} {e : Nat} (he : e ≤ 1000) : f_X12_clause_134 72 x1 x2 x3 (mkH n z D (s3 (fb m (bI f) (Int32.ofInt v)) x (Int32.ofNat e) dd) j r) = some ((), mkH n z D (s3 (fb m (bI f) (Int32.ofInt v)) x (Int32.ofNat e) dd) j r) := by
  unfold f_X12_clause_134
  simp (disch := omega) only [obs, cN_mk, ite_true, ite_false, if_true, if_false, q72, s3_11, l1, no1_e, no1_ne, reduceIte]
theorem OK_tail {cc : List Nat} {i0 : Nat} (hD : ∀ a, 1000000 ≤ a → D a = none) (hT : TX m r t N a b) (hL : LT m L) (hcc : cc ≠ [] ∧ ∃ v, HB L 18 cc v) (hi : i ≤ N) (hl : i0 + cc.length + 2 ≤ i) : OKc L N i0 (pTail t N cc i) := by
  intro cc' sc j' hx
  have hk := sk_le (t := t) hi
  unfold pTail at hx
  split at hx
  · rename_i hs
    have hp := sg_pos (t := t) (N := N) (i := i) (by omega)
    have hm := M_sum (n := 0) (z := 0) (j := fun _ _ => 0) hD hT hL 6 7 (sk t N i + 1) 0 (by omega) (by omega) (by omega)
    have hpa := PA_sum (t := t) (N := N) 6 (sk t N i + 1) (by omega)
    cases hq : pSum t N 6 (sk t N i + 1) with
    | inl e => rw [hq] at hx; exact absurd hx (by simp)
    | inr q =>
      obtain ⟨c, j1⟩ := q
      rw [hq] at hx hm
      obtain ⟨v, hv, _⟩ := hm
      have hj := hpa c j1 hq
      simp only [Sum.inr.injEq, Prod.mk.injEq] at hx
      obtain ⟨rfl, rfl, rfl⟩ := hx
      refine ⟨Or.inr hcc, ⟨v, hv⟩, ?_, hj.2.1⟩
      rw [if_neg hcc.1]
      omega
  · exact absurd hx (by simp)
theorem M_tail {cc : List Nat} {f : Bool} {v is_ : Int} (hD : ∀ a, 1000000 ≤ a → D a = none) (hT : TX m r t N a b) (hL : LT m L) (h13 : m 72 13 = 121) (hcc : cc ≠ []) (his : HB L 18 cc is_) (hi : i ≤ N) :
    CO n z D m j r f v L (cN (f_X12_takes 72 63 (mkH n z D (s3 (fb m (bI f) (Int32.ofInt v)) (Int32.ofNat i) no1 (Int32.ofNat 0)) j r)) (mkH n z D (s3 (fb m (bI f) (Int32.ofInt v)) (Int32.ofNat i) no1 (Int32.ofNat 0)) j r) fun v6 h7 => if v6 = 0 then some ((), h7) else (isC [12] h7 72).bind fun _ => cN (fc_X12_sum 72 h7) h7 fun v12 h13 => f_X12_clause_134 72 (Int32.ofNat 121) (Int32.ofInt is_) v12 h13) (pTail t N cc i) := by
  have hT' := TX_fb (f := bI f) (v := Int32.ofInt v) hT
  have hL' := LT_fb (f := bI f) (v := Int32.ofInt v) hL
  have hN := hT.2.2.2.1
  have hk := sk_le (t := t) hi
  unfold pTail
  rw [l63, M_takes0 hT' hi (by omega) (by omega)]
  by_cases hs : sg t N i = 63
  · have hp := sg_pos (t := t) (N := N) (i := i) (by omega)
    rw [if_pos hs, if_pos hs]
    have e10 : ¬ Int32.ofNat 1 = 0 := by decide
    simp only [obs, cN_mk, ite_true, ite_false, if_true, if_false, e10, q72]
    have hm := M_sum (n := n) (z := z) (j := j) hD hT' hL' 6 7 (sk t N i + 1) 0 (by omega) (by omega) (by omega)
    have hfc : ∀ h, fc_X12_sum 72 h = r_X12_sum (7 + 1) 72 h := fun _ => rfl
    rw [hfc]
    cases hq : pSum t N 6 (sk t N i + 1) with
    | inl e =>
      rw [hq] at hm
      obtain ⟨he, w, x, dd, hv⟩ := hm
      refine ⟨he, x, dd, ?_⟩
      rw [hv]
      simp only [obs, cN_mk, ite_true, ite_false, if_true, if_false]
      exact M_134e he
    | inr q =>
      obtain ⟨c, j1⟩ := q
      rw [hq] at hm
      obtain ⟨w, hw, ev⟩ := hm
      dsimp only at ev
      rw [ev]
      simp only [obs, cN_mk, ite_true, ite_false, if_true, if_false]
      rw [M_134 h13 his.2]
      show _ = some ((), _)
      rw [Ev_top his.1 (by omega), Ev_top hw (by omega)]
      simp only [hcc, false_or]
  · rw [if_neg hs, if_neg hs]
    refine ⟨by omega, ?_⟩
    simp only [obs, cN_mk, ite_true, ite_false, if_true, if_false, ← l0, reduceIte]
    exact ⟨_, _, rfl⟩
theorem cond_ne {uf : Nat → PR} {x : PR} {c : List Nat} {j1 : Nat} (hP : ∀ i, i ≤ N → PA N i (uf i) 1) (hx : ∀ c j, x = .inr (c, j) → j ≤ N ∧ i + c.length ≤ j ∧ 1 ≤ c.length) (h : pCond t N uf x = .inr (c, j1)) : c ≠ [] ∧ j1 ≤ N ∧ i + c.length ≤ j1 := by
  have := PA_cond (t := t) (N := N) (i := i) hP (x := x) (fun c j h => ⟨(hx c j h).2.1, (hx c j h).1, (hx c j h).2.2⟩) c j1 h
  exact ⟨by intro e; rw [e] at this; simp at this, this.2.1, this.1⟩
theorem OK_cl (hD : ∀ a, 1000000 ≤ a → D a = none) (hT : TX m r t N a b) (hL : LT m L) (hi : i ≤ N) : OKc L N i (pCl t N i) := by
  have hk := sk_le (t := t) hi
  unfold pCl
  split
  · rename_i hs1
    have hp1 := sg_pos (t := t) (N := N) (i := i) (by omega)
    have hk1 := sk_le (t := t) (N := N) (i := sk t N i + 1) (by omega)
    split
    · rename_i hs2
      have hp2 := sg_pos (t := t) (N := N) (i := sk t N i + 1) (by omega)
      generalize hb0 : sk t N (sk t N i + 1) + 1 = i2
      have hi2 : i2 ≤ N := by omega
      have hk2 := sk_le (t := t) hi2
      have hU : ∀ i, i ≤ N → MB 0 0 D m (fun _ _ => 0) r (r_X12_unit (7 + 1) 72 (mkH 0 0 D (s3 m (Int32.ofNat i) no1 (Int32.ofNat 0)) (fun _ _ => 0) r)) (pUnit t N 6 i) 0 (HB L 16) := fun i hi => M_unit hD hT hL 6 7 i 0 (by omega) (by omega) hi
      have hPU : ∀ i, i ≤ N → PA N i (pUnit t N 6 i) 1 := fun i hi => PA_unit 6 i hi
      unfold pBody
      split
      · intro cc sc j' hx
        have hc := M_cond0 hT hU hPU hk2.2
        cases hq : pCond t N (pUnit t N 6) (pUnit t N 6 (sk t N i2)) with
        | inl e => rw [hq] at hx; exact absurd hx (by simp)
        | inr q =>
          obtain ⟨c, j1⟩ := q
          rw [hq] at hx hc
          obtain ⟨v, hv, _⟩ := hc
          have hne := cond_ne (t := t) (i := sk t N i2) hPU (fun c j h => by have := hPU _ hk2.2 c j h; exact ⟨this.2.1, this.1, this.2.2⟩) hq
          have := OK_tail (i0 := i) hD hT hL ⟨hne.1, v, hv⟩ hne.2.1 (by omega)
          exact this cc sc j' hx
      · intro cc sc j' hx
        have hm := M_sum (n := 0) (z := 0) (j := fun _ _ => 0) hD hT hL 6 7 (sk t N i2) 0 (by omega) (by omega) hk2.2
        have hpa := PA_sum (t := t) (N := N) 6 (sk t N i2) hk2.2
        cases hq : pSum t N 6 (sk t N i2) with
        | inl e => rw [hq] at hx; exact absurd hx (by simp)
        | inr q =>
          obtain ⟨c, j1⟩ := q
          rw [hq] at hx hm
          obtain ⟨v, hv, _⟩ := hm
          have hj := hpa c j1 hq
          have hk3 := sk_le (t := t) hj.2.1
          dsimp only at hx
          split at hx
          · have hc := M_cond1 hD hT hL (by omega) hv hU hPU hk3.2
            cases hq2 : pCond t N (pUnit t N 6) (pCmpR t N 6 c (sk t N j1)) with
            | inl e => rw [hq2] at hx; exact absurd hx (by simp)
            | inr q =>
              obtain ⟨c2, j2⟩ := q
              rw [hq2] at hx hc
              obtain ⟨v2, hv2, _⟩ := hc
              have hne := cond_ne (t := t) (i := sk t N i2) hPU (fun c' j' h => by have := PA_cmpR (t := t) (k := 6) (i := sk t N i2) hk3.2 (by omega) c' j' h; exact ⟨this.2.1, this.1, this.2.2⟩) hq2
              have := OK_tail (i0 := i) hD hT hL ⟨hne.1, v2, hv2⟩ hne.2.1 (by omega)
              exact this cc sc j' hx
          · simp only [Sum.inr.injEq, Prod.mk.injEq] at hx
            obtain ⟨rfl, rfl, rfl⟩ := hx
            refine ⟨Or.inl rfl, ⟨v, hv⟩, ?_, hk3.2⟩
            simp only [List.length_nil, if_true]
            omega
    · intro cc sc j' hx; exact absurd hx (by simp)
  · intro cc sc j' hx; exact absurd hx (by simp)
theorem M_body {f : Bool} {v : Int} (hD : ∀ a, 1000000 ≤ a → D a = none) (hT : TX m r t N a b) (hL : LT m L) (h13 : m 72 13 = 121) (hi : i ≤ N) : CO n z D m j r f v L (cN (f_X12_look 72 (mkH n z D (s3 (fb m (bI f) (Int32.ofInt v)) (Int32.ofNat i) no1 (Int32.ofNat 0)) j r)) (mkH n z D (s3 (fb m (bI f) (Int32.ofInt v)) (Int32.ofNat i) no1 (Int32.ofNat 0)) j r) fun v21 h22 =>
      if v21 = 33 then
        f_X12_clause_64 72 (Int32.ofNat 121) h22
      else
        if v21 = 40 then
          f_X12_clause_64 72 (Int32.ofNat 121) h22
        else
          (isC [12] h22 72).bind fun _ =>
          cN (fc_X12_sum 72 h22) h22 fun v28 h29 =>
          (gI [12] h29 72 11).bind fun v33 =>
          if v33 = ((-1)) then
            (isC [12] h29 72).bind fun _ =>
            cN (f_X12_look 72 h29) h29 fun v36 h37 =>
            cN (f_X12_isSign v36 h37) h37 fun v41 h42 =>
            if v41 = 0 then
              f_X12_clause_134 72 (Int32.ofNat 121) 1 v28 h42
            else
              (isC [12] h42 72).bind fun _ =>
              cN (fc_X12_condition 72 1 v28 h42) h42 fun v46 h47 =>
              (isC [12] h47 72).bind fun _ =>
              cN (f_X12_takes 72 63 h47) h47 fun v51 h52 =>
              if v51 = 0 then
                some ((), h52)
              else
                (isC [12] h52 72).bind fun _ =>
                cN (fc_X12_sum 72 h52) h52 fun v57 h58 =>
                f_X12_clause_134 72 (Int32.ofNat 121) v46 v57 h58
          else
            f_X12_clause_134 72 (Int32.ofNat 121) 1 v28 h29) (pBody t N i) := by
  have hT' := TX_fb (f := bI f) (v := Int32.ofInt v) hT
  have hL' := LT_fb (f := bI f) (v := Int32.ofInt v) hL
  have hN := hT.2.2.2.1
  have hk := sk_le (t := t) hi
  have hs := sg_lt hT hi
  have hU : ∀ i, i ≤ N → MB n z D (fb m (bI f) (Int32.ofInt v)) j r (r_X12_unit (7 + 1) 72 (mkH n z D (s3 (fb m (bI f) (Int32.ofInt v)) (Int32.ofNat i) no1 (Int32.ofNat 0)) j r)) (pUnit t N 6 i) 0 (HB L 16) := fun i hi => M_unit hD hT' hL' 6 7 i 0 (by omega) (by omega) hi
  have hPU : ∀ i, i ≤ N → PA N i (pUnit t N 6 i) 1 := fun i hi => PA_unit 6 i hi
  have hfs : ∀ h, fc_X12_sum 72 h = r_X12_sum (7 + 1) 72 h := fun _ => rfl
  have hfc : ∀ x y h, fc_X12_condition 72 x y h = f_X12_condition (r_X12_unit (7 + 1)) 72 x y h := fun _ _ _ => rfl
  unfold pBody
  rw [M_look hT' hi]
  simp only [obs, cN_mk, ite_true, ite_false, if_true, if_false]
  simp (disch := omega) only [l33, l40, sgI_c]
  have h64 : sg t N i = 33 ∨ sg t N i = 40 → CO n z D m j r f v L (f_X12_clause_64 72 (Int32.ofNat 121) (mkH n z D (s3 (fb m (bI f) (Int32.ofInt v)) (Int32.ofNat (sk t N i)) no1 (Int32.ofNat 0)) j r)) (match pCond t N (pUnit t N 6) (pUnit t N 6 (sk t N i)) with | .inl e => .inl e | .inr q => pTail t N q.1 q.2) := by
    intro _
    have hc := M_cond0 hT' hU hPU hk.2
    unfold f_X12_clause_64
    simp only [obs, cN_mk, ite_true, ite_false, if_true, if_false, q72]
    rw [hfc]
    cases hq : pCond t N (pUnit t N 6) (pUnit t N 6 (sk t N i)) with
    | inl e =>
      rw [hq] at hc
      obtain ⟨he, w, x, dd, hw01, hw⟩ := hc
      refine ⟨he, x, dd, ?_⟩
      rw [hw]
      simp only [obs, cN_mk, ite_true, ite_false, if_true, if_false, q72, M_takes1 he, ← l0, reduceIte]
    | inr q =>
      obtain ⟨c, j1⟩ := q
      rw [hq] at hc
      obtain ⟨w, hw, ev⟩ := hc
      dsimp only at ev
      have hne := cond_ne (t := t) (i := sk t N i) hPU (fun c j h => by have := hPU _ hk.2 c j h; exact ⟨this.2.1, this.1, this.2.2⟩) hq
      rw [ev]
      simp only [obs, cN_mk, ite_true, ite_false, if_true, if_false, q72]
      exact M_tail hD hT hL h13 hne.1 hw hne.2.1
  by_cases h33 : sg t N i = 33
  · rw [if_pos h33, if_pos (Or.inl h33)]
    exact h64 (Or.inl h33)
  by_cases h40 : sg t N i = 40
  · rw [if_neg h33, if_pos h40, if_pos (Or.inr h40)]
    exact h64 (Or.inr h40)
  rw [if_neg h33, if_neg h40, if_neg (by simp [h33, h40])]
  simp only [obs, cN_mk, ite_true, ite_false, if_true, if_false, q72]
  have hm := M_sum (n := n) (z := z) (j := j) hD hT' hL' 6 7 (sk t N i) 0 (by omega) (by omega) hk.2
  have hpa := PA_sum (t := t) (N := N) 6 (sk t N i) hk.2
  rw [hfs]
  cases hq : pSum t N 6 (sk t N i) with
  | inl e =>
    rw [hq] at hm
    obtain ⟨he, w, x, dd, hw⟩ := hm
    refine ⟨he, x, dd, ?_⟩
    rw [hw]
    simp (disch := omega) only [obs, cN_mk, ite_true, ite_false, if_true, if_false, q72, s3_11, no1_e, l1, no1_ne, reduceIte]
    exact M_134e he
  | inr q =>
    obtain ⟨c, j1⟩ := q
    rw [hq] at hm
    obtain ⟨w, hw, ev⟩ := hm
    dsimp only at ev
    have hj := hpa c j1 hq
    have hk3 := sk_le (t := t) hj.2.1
    have hs3 := sg_lt hT hj.2.1
    rw [ev]
    have em1 : ((-1 : Int32)) = no1 := rfl
    simp only [obs, cN_mk, ite_true, ite_false, if_true, if_false, q72, s3_11, em1, reduceIte, M_look hT' hj.2.1, M_isSign hs3]
    by_cases hc3 : sg t N j1 = 60 ∨ sg t N j1 = 61 ∨ sg t N j1 = 62
    · rw [if_neg (by simp [hc3, bI]), if_pos hc3]
      have hc := M_cond1 hD hT' hL' (by omega) hw hU hPU hk3.2
      rw [hfc]
      cases hq2 : pCond t N (pUnit t N 6) (pCmpR t N 6 c (sk t N j1)) with
      | inl e =>
        rw [hq2] at hc
        obtain ⟨he, w2, x, dd, hw01, hw2⟩ := hc
        refine ⟨he, x, dd, ?_⟩
        rw [hw2]
        simp only [obs, cN_mk, ite_true, ite_false, if_true, if_false, q72, M_takes1 he, ← l0, reduceIte]
      | inr q =>
        obtain ⟨c2, j2⟩ := q
        rw [hq2] at hc
        obtain ⟨w2, hw2, ev2⟩ := hc
        dsimp only at ev2
        have hne := cond_ne (t := t) (i := sk t N i) hPU (fun c' j' h => by have := PA_cmpR (t := t) (k := 6) (i := sk t N i) hk3.2 (by omega) c' j' h; exact ⟨this.2.1, this.1, this.2.2⟩) hq2
        rw [ev2]
        simp only [obs, cN_mk, ite_true, ite_false, if_true, if_false, q72]
        exact M_tail hD hT hL h13 hne.1 hw2 hne.2.1
    · rw [if_pos (by simp [hc3, bI]), if_neg hc3]
      have h1 : (1 : Int32) = Int32.ofInt 1 := rfl
      rw [h1, M_134 h13 (Or.inr rfl)]
      show _ = some ((), _)
      rw [Ev_top hw (by omega)]
      simp
end MCLA
