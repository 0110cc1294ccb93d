/-! new int[4][0]. -/
theorem nm_outer (c : ClassId) (N h0 : Nat) : ∀ i : Nat, Jvm.Free.Multi.outerC c N h0 i = arrV c N (fun j => va_rf (if j < i then some (h0 + 1 + j) else none))
  | 0 => by
    show ({ cls := c, slots := Array.replicate N .null, vm := .none } : Cell) = _
    rw [arrV_new]
    refine congrArg (arrV c N) (funext fun j => ?_)
    simp [va_rf]
  | i + 1 => by
    show (Jvm.Free.Multi.outerC c N h0 i).setSlot i (.ref (h0 + 1 + i)) = _
    rw [nm_outer c N h0 i, arrV_store]
    refine congrArg (arrV c N) (funext fun j => ?_)
    by_cases e : j = i
    · subst e
      simp [updV, va_rf]
    · by_cases h : j < i
      · simp [updV, e, h, Nat.lt_succ_of_lt h]
      · simp [updV, e, h, show ¬ j < i + 1 by omega]
section MULTI
variable {g : GG} {p : Program} {l : Launch} {e : Env} {R : Room} {s : State} {m : MethodId} {args : Array Value} {below : List Frame} {meth : Method} {c : Code} {H : Heap} {locs : List Loc} {cells slots : Nat} {Q : State → Prop}
variable {cc : ByteArray} {nL : Nat} {own : String} {pc : Nat} {ls : Array Slot} {rest st0 : List Value} {n0 z0 : Nat} {h h1 h2 h' : AH}
theorem r_nM (X : Cx g p s m args meth c cc nL own) (I : Iv g s n0 z0 h H locs cells slots) {o idx : Nat} (hn : o = h.1 ∧ h2 = nMh h ∧ h.1 + 5 < 1000000) {N9 Z9 : Nat} (hA : R.cells + n0 = N9 ∧ R.slots + z0 = Z9) (hb : h2.1 ≤ N9 ∧ h2.2.1 ≤ Z9) (hcl : Cond.classLink own idx "[[I" ∈ TB) (hdg : decode cc pc = .ok (.multianewarray idx 2, 4))
    (kk : ∀ (H : Heap), Iv g s n0 z0 h2 H locs (cells + 1 + 4) (slots + 4 + 0) → W p l e R s m args below meth c H locs (cells + 1 + 4) (slots + 4 + 0) Q (F0 m (pc + 4) ls (.ref (rfG g o) :: rest))) : W p l e R s m args below meth c H locs cells slots Q (F0 m pc ls (.int 0 :: .int 4 :: rest)) := by
  obtain ⟨rfl, rfl, hlt⟩ := hn
  have hb' : h.1 + 5 ≤ N9 ∧ h.2.1 + 4 ≤ Z9 := hb
  obtain ⟨hx, hb9, hml, hown, hT, hSF, -⟩ := X
  have hsz : H.size = g.2.2.2 + h.1 := I.1.2
  have hcs : cells + 5 ≤ R.cells ∧ slots + 4 ≤ R.slots := by
    obtain ⟨-, -, -, a, b⟩ := I
    omega
  have e4 : (4 : Int32).toNatClampNeg = 4 := by decide
  have e0 : (0 : Int32).toNatClampNeg = 0 := by decide
  have hcl' : (Cond.classLink own idx ("[" ++ (FieldType.array .int).toString)).before args s = true := by
    have e9 : "[" ++ (FieldType.array .int).toString = "[[I" := by decide
    rw [e9]
    exact hT _ hcl
  have harr : Cond.arrayClass .int ∈ TB := tw_52
  intro T hTh Xs
  obtain ⟨vm₁, cA, comp, -, fA, fC, -, -, X', step⟩ := Xs.multianewarray2F (ty := .int) hx hown hcl' hSF.2.2.1.2.2.2.2 (hT _ harr) (g := F0 m pc ls (.int 0 :: .int 4 :: rest)) rfl (by rw [hb9]; exact hdg) rfl (by decide) (by decide) (by decide) (by decide) (by decide) rfl rfl (by rw [e4]; omega) (by rw [e4, e0]; omega)
  have hcA : cA = g.2.1 5 := Option.some.inj (fA.symm.trans (hSF.1.2 5 (g.2.1 5, .array .int) rfl).2)
  have hcc : comp = g.2.1 0 := Option.some.inj (fC.symm.trans (hSF.1.2 0 (g.2.1 0, .int) rfl).2)
  subst hcA
  subst hcc
  rw [e4, e0] at X' step
  have hTs : (T.setVm vm₁).heap = H := hTh
  obtain ⟨f1, f2, -, -⟩ := Jvm.Free.Multi.fill_facts (T.setVm vm₁) (g.2.1 5) (g.2.1 0) 4 0 (defaultValue .int) 4
  have f3 : ∀ x : Nat, x < H.size → (Jvm.Free.Multi.fill (T.setVm vm₁) (g.2.1 5) (g.2.1 0) 4 0 (defaultValue .int) 4).heap[x]? = H[x]? := fun x hx9 => by
    have := Jvm.Free.Multi.fill_old (T.setVm vm₁) (g.2.1 5) (g.2.1 0) 4 0 (defaultValue .int) (a := x) (by rw [hTs]; exact hx9) 4
    rw [hTs] at this
    exact this
  have f4 : ∀ j : Nat, j < 4 → (Jvm.Free.Multi.fill (T.setVm vm₁) (g.2.1 5) (g.2.1 0) 4 0 (defaultValue .int) 4).heap[H.size + 1 + j]? = some (vp_cell (g.2.1 0) (0, .inl (fun _ => 0))) := fun j hj => by
    have := Jvm.Free.Multi.fill_inner (T.setVm vm₁) (g.2.1 5) (g.2.1 0) 4 0 (defaultValue .int) 4 j hj
    rw [hTs] at this
    exact this.trans (congrArg some (arrV_new _ _ _))
  rw [hTs] at f1 f2
  rw [nm_outer] at f2
  generalize Jvm.Free.Multi.fill (T.setVm vm₁) (g.2.1 5) (g.2.1 0) 4 0 (defaultValue .int) 4 = F at X' step f1 f2 f3 f4
  obtain ⟨hP, hS, hn0, hcl9, hsl9⟩ := I
  have I2 : Iv g s n0 z0 (nMh h) F.heap locs (cells + 1 + 4) (slots + 4 + 0) := by
    refine ⟨⟨fun k x hxk => ?_, by rw [f1, hsz]; show _ = _ + (h.1 + 5); omega⟩, ⟨by rw [f1]; have := hS.1; omega, fun q q1 q2 => (f3 q (Nat.lt_of_lt_of_le q1 hS.1)).trans (hS.2.1 q q1 q2), hS.2.2⟩, hn0, by show _ = h.1 + 5; omega, by show _ = h.2.1 + 4; omega⟩
    by_cases hk : k = h.1
    · subst hk
      have hx' : some (Sum.inl (5, 4, Sum.inr (Sum.inr (Sum.inr (Sum.inr (fun i => if i < 4 then some (h.1 + 1 + i) else none)))))) = some x := by simpa [nMh] using hxk
      cases hx'
      refine ⟨by omega, ?_⟩
      show F.heap[g.2.2.2 + h.1]? = some (vp_cell (g.2.1 5) (4, .inr (.inr (.inr (.inr (fun i => (if i < 4 then some (h.1 + 1 + i) else none).map (rfG g)))))))
      rw [← hsz, f2, vp_cell_q]
      refine congrArg some (congrArg (arrV _ _) (funext fun j => ?_))
      by_cases hj : j < 4
      · simp only [hj, if_true, Option.map_some]
        rw [rf_lt (by omega), hsz]
        exact congrArg (fun z => va_rf (some z)) (by omega)
      · simp [hj]
    · by_cases hk2 : h.1 < k ∧ k < h.1 + 5
      · have hx' : some (Sum.inl (0, 0, Sum.inl (fun _ => 0))) = some x := by simpa [nMh, hk, hk2] using hxk
        cases hx'
        refine ⟨by omega, ?_⟩
        have h9 := f4 (k - h.1 - 1) (by omega)
        show F.heap[g.2.2.2 + k]? = some (vp_cell (g.2.1 0) (0, .inl (fun _ => 0)))
        rw [hsz, show g.2.2.2 + h.1 + 1 + (k - h.1 - 1) = g.2.2.2 + k by omega] at h9
        exact h9
      · have hx' : h.2.2 k = some x := by
          have h9 := hxk
          simp only [nMh, hk, hk2, if_false] at h9
          exact h9
        have h9 := hP.1 k x hx'
        exact ⟨h9.1, h9.2.kept (f3 _ h9.2.lt)⟩
  obtain ⟨t, a1, b1⟩ := kk F.heap I2 F rfl X'
  refine ⟨t, step t ?_, b1⟩
  rw [rf_lt (by omega), ← hsz] at a1
  rw [hTh]
  exact a1
end MULTI
