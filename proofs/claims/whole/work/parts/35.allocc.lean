/-! new arrays by kind; rows of rows; a clone. -/
/-- new int[4][0] -/
def nMh (h : AH) : AH := (h.1 + 5, h.2.1 + 4, fun j => if j = h.1 then some (.inl (5, 4, .inr (.inr (.inr (.inr (fun i => if i < 4 then some (h.1 + 1 + i) else none)))))) else if h.1 < j ∧ j < h.1 + 5 then some (.inl (0, 0, .inl (fun _ => 0))) else h.2.2 j)
def nM {ρ : Type} (h : AH) (k : Nat → AH → Option (ρ × AH)) : Option (ρ × AH) := if h.1 + 5 < 1000000 then ck (nMh h) (k h.1 (nMh h)) else none
theorem nM_ex {ρ : Type} {h : AH} {k : Nat → AH → Option (ρ × AH)} {y : ρ × AH} (hx : nM h k = some y) : ∃ o h2, (o = h.1 ∧ h2 = nMh h ∧ h.1 + 5 < 1000000) ∧ (h2.1 ≤ y.2.1 ∧ h2.2.1 ≤ y.2.2.1) ∧ k o h2 = some y := by
  unfold nM at hx
  split at hx
  · rename_i hc
    obtain ⟨a, b⟩ := ck_spec hx
    exact ⟨_, _, ⟨rfl, rfl, hc⟩, a, b⟩
  · cases hx
/-- an int array's clone -/
def nC {ρ : Type} (a : Nat) (h : AH) (k : Nat → AH → Option (ρ × AH)) : Option (ρ × AH) := match h.2.2 a with
  | some (.inl (t, n, .inl f)) => if t = 0 ∧ h.1 < 1000000 then ck (hpush h n (.inl (0, n, .inl f))) (k h.1 (hpush h n (.inl (0, n, .inl f)))) else none
  | _ => none
theorem nC_ex {ρ : Type} {a : Nat} {h : AH} {k : Nat → AH → Option (ρ × AH)} {y : ρ × AH} (hx : nC a h k = some y) : ∃ o h2, (∃ n f, h.2.2 a = some (.inl (0, n, .inl f)) ∧ o = h.1 ∧ h2 = hpush h n (.inl (0, n, .inl f)) ∧ h.1 < 1000000) ∧ (h2.1 ≤ y.2.1 ∧ h2.2.1 ≤ y.2.2.1) ∧ k o h2 = some y := by
  unfold nC at hx
  split at hx
  · rename_i t n f he
    split at hx
    · rename_i hc
      obtain ⟨rfl, hc⟩ := hc
      obtain ⟨a, b⟩ := ck_spec hx
      exact ⟨_, _, ⟨n, f, he, rfl, rfl, hc⟩, a, b⟩
    · cases hx
  · cases hx
def isI (h : AH) (a : Nat) : Option Unit := match h.2.2 a with
  | some (.inl (t, _)) => if t = 0 then some () else none
  | _ => none
section ALLOCC
variable {g : GG} {p : Program} {l : Launch} {e : Env} {R : Room} {s : State} {m : MethodId} {args : Array Value} {below : List Frame} {meth : Method} {c : Code} {H : Heap} {locs : List Loc} {cells slots : Nat} {Q : State → Prop}
variable {cc : ByteArray} {nL : Nat} {own : String} {pc : Nat} {ls : Array Slot} {rest st0 : List Value} {n0 z0 : Nat} {h h1 h2 h' : AH}
theorem r_nA0 (X : Cx g p s m args meth c cc nL own) (I : Iv g s n0 z0 h H locs cells slots) {o : Nat} {n : Int32} (hn : o = h.1 ∧ h2 = hpush h n.toNatClampNeg (.inl (0, n.toNatClampNeg, a0 0)) ∧ (h.1 < 1000000 ∧ ¬ n < 0 ∧ n.toNatClampNeg ≤ 100000)) {N9 Z9 : Nat} (hA : R.cells + n0 = N9 ∧ R.slots + z0 = Z9) (hb : h2.1 ≤ N9 ∧ h2.2.1 ≤ Z9) (harr : Cond.arrayClass .int ∈ TB) (hdg : decode cc pc = .ok (.newarray .int, 2))
    (kk : ∀ (H : Heap), Iv g s n0 z0 h2 H locs (cells + 1) (slots + n.toNatClampNeg) → W p l e R s m args below meth c H locs (cells + 1) (slots + n.toNatClampNeg) Q (F0 m (pc + 2) ls (.ref (rfG g o) :: rest))) : W p l e R s m args below meth c H locs cells slots Q (F0 m pc ls (.int n :: rest)) :=
  r_nAg (atype := .int) (ty := .int) X I hn hA hb harr rfl rfl (fun _ _ z => z) (fun _ _ => rfl) (by decide) hdg kk
theorem r_nA1 (X : Cx g p s m args meth c cc nL own) (I : Iv g s n0 z0 h H locs cells slots) {o : Nat} {n : Int32} (hn : o = h.1 ∧ h2 = hpush h n.toNatClampNeg (.inl (1, n.toNatClampNeg, a0 1)) ∧ (h.1 < 1000000 ∧ ¬ n < 0 ∧ n.toNatClampNeg ≤ 100000)) {N9 Z9 : Nat} (hA : R.cells + n0 = N9 ∧ R.slots + z0 = Z9) (hb : h2.1 ≤ N9 ∧ h2.2.1 ≤ Z9) (harr : Cond.arrayClass .byte ∈ TB) (hdg : decode cc pc = .ok (.newarray .byte, 2))
    (kk : ∀ (H : Heap), Iv g s n0 z0 h2 H locs (cells + 1) (slots + n.toNatClampNeg) → W p l e R s m args below meth c H locs (cells + 1) (slots + n.toNatClampNeg) Q (F0 m (pc + 2) ls (.ref (rfG g o) :: rest))) : W p l e R s m args below meth c H locs cells slots Q (F0 m pc ls (.int n :: rest)) :=
  r_nAg (atype := .byte) (ty := .byte) X I hn hA hb harr rfl rfl (fun _ _ z => z) (fun _ _ => rfl) (by decide) hdg kk
theorem r_nA2 (X : Cx g p s m args meth c cc nL own) (I : Iv g s n0 z0 h H locs cells slots) {o : Nat} {n : Int32} (hn : o = h.1 ∧ h2 = hpush h n.toNatClampNeg (.inl (2, n.toNatClampNeg, a0 2)) ∧ (h.1 < 1000000 ∧ ¬ n < 0 ∧ n.toNatClampNeg ≤ 100000)) {N9 Z9 : Nat} (hA : R.cells + n0 = N9 ∧ R.slots + z0 = Z9) (hb : h2.1 ≤ N9 ∧ h2.2.1 ≤ Z9) (harr : Cond.arrayClass .long ∈ TB) (hdg : decode cc pc = .ok (.newarray .long, 2))
    (kk : ∀ (H : Heap), Iv g s n0 z0 h2 H locs (cells + 1) (slots + n.toNatClampNeg) → W p l e R s m args below meth c H locs (cells + 1) (slots + n.toNatClampNeg) Q (F0 m (pc + 2) ls (.ref (rfG g o) :: rest))) : W p l e R s m args below meth c H locs cells slots Q (F0 m pc ls (.int n :: rest)) :=
  r_nAg (atype := .long) (ty := .long) X I hn hA hb harr rfl rfl (fun _ _ z => z) (fun _ _ => rfl) (by decide) hdg kk
theorem r_nA3 (X : Cx g p s m args meth c cc nL own) (I : Iv g s n0 z0 h H locs cells slots) {o : Nat} {n : Int32} (hn : o = h.1 ∧ h2 = hpush h n.toNatClampNeg (.inl (3, n.toNatClampNeg, a0 3)) ∧ (h.1 < 1000000 ∧ ¬ n < 0 ∧ n.toNatClampNeg ≤ 100000)) {N9 Z9 : Nat} (hA : R.cells + n0 = N9 ∧ R.slots + z0 = Z9) (hb : h2.1 ≤ N9 ∧ h2.2.1 ≤ Z9) (harr : Cond.arrayClass .boolean ∈ TB) (hdg : decode cc pc = .ok (.newarray .boolean, 2))
    (kk : ∀ (H : Heap), Iv g s n0 z0 h2 H locs (cells + 1) (slots + n.toNatClampNeg) → W p l e R s m args below meth c H locs (cells + 1) (slots + n.toNatClampNeg) Q (F0 m (pc + 2) ls (.ref (rfG g o) :: rest))) : W p l e R s m args below meth c H locs cells slots Q (F0 m pc ls (.int n :: rest)) :=
  r_nAg (atype := .boolean) (ty := .boolean) X I hn hA hb harr rfl rfl (fun _ _ z => z) (fun _ _ => rfl) (by decide) hdg kk
theorem r_nA4 (X : Cx g p s m args meth c cc nL own) (I : Iv g s n0 z0 h H locs cells slots) {o idx : Nat} {n : Int32} (hn : o = h.1 ∧ h2 = hpush h n.toNatClampNeg (.inl (4, n.toNatClampNeg, a0 4)) ∧ (h.1 < 1000000 ∧ ¬ n < 0 ∧ n.toNatClampNeg ≤ 100000)) {N9 Z9 : Nat} (hA : R.cells + n0 = N9 ∧ R.slots + z0 = Z9) (hb : h2.1 ≤ N9 ∧ h2.2.1 ≤ Z9) (hcl : Cond.classLink own idx "TrapCorner$State" ∈ TB) (hdg : decode cc pc = .ok (.anewarray idx, 3))
    (kk : ∀ (H : Heap), Iv g s n0 z0 h2 H locs (cells + 1) (slots + n.toNatClampNeg) → W p l e R s m args below meth c H locs (cells + 1) (slots + n.toNatClampNeg) Q (F0 m (pc + 3) ls (.ref (rfG g o) :: rest))) : W p l e R s m args below meth c H locs cells slots Q (F0 m pc ls (.int n :: rest)) := by
  obtain ⟨rfl, rfl, hlt⟩ := hn
  have hb' : h.1 + 1 ≤ N9 ∧ h.2.1 + n.toNatClampNeg ≤ Z9 := hb
  obtain ⟨hx, hb9, hml, hown, hT, hSF, -⟩ := X
  have hsz : H.size = g.2.2.2 + h.1 := I.1.2
  have hcs : cells + 1 ≤ R.cells ∧ slots + n.toNatClampNeg ≤ R.slots := by
    obtain ⟨-, -, -, a, b⟩ := I
    omega
  refine W.anew hx hb9 hown (hT _ hcl) (va_AO.use hSF.2.2.1.2.2.2.1) rfl hdg rfl hlt.2.1 (by omega) hcs.1 hcs.2 fun cA kA comp f1 f2 f3 f4 => ?_
  obtain ⟨kA2, comp2, g1, g2, g3, g4⟩ := (hSF.1.2 4 (g.2.1 4, .object "TrapCorner$State") rfl).2
  have hcA : cA = g.2.1 4 := by
    first
      | exact Option.some.inj (f4.symm.trans g4)
      | exact Option.some.inj (f3.symm.trans g4)
      | exact Option.some.inj (f2.symm.trans g4)
      | exact Option.some.inj (f1.symm.trans g4)
  subst hcA
  have k1 := kk (H.push ({ cls := g.2.1 4, slots := Array.replicate n.toNatClampNeg .null, vm := .none } : Cell)) (I.push hlt.1 (e1 := .inl (4, n.toNatClampNeg, a0 4)) (by
    show (H.push _)[_]? = some (vp_cell _ _)
    rw [← hsz, Array.getElem?_push, if_pos rfl]
    exact congrArg some (arrV_new _ _ _)) (by rw [Array.size_push]) (fun q hq => by rw [Array.getElem?_push, if_neg (Nat.ne_of_lt hq)]))
  rw [rf_lt hlt.1, ← hsz] at k1
  exact k1
theorem r_uQ5 (X : Cx g p s m args meth c cc nL own) (I : Iv g s n0 z0 h H locs cells slots) {a v : Nat} {i : Int32} (e1 : uQ 5 h a i v = some h') (hdg : decode cc pc = .ok (.aastore, 1))
    (kk : ∀ (H : Heap) (locs : List Loc), Iv g s n0 z0 h' H locs cells slots → W p l e R s m args below meth c H locs cells slots Q (F0 m (pc + 1) ls rest)) : W p l e R s m args below meth c H locs cells slots Q (F0 m pc ls (.ref (rfG g v) :: .int i :: .ref (rfG g a) :: rest)) := by
  obtain ⟨hx, hb, hml, hown, hT, hSF, -⟩ := X
  obtain ⟨n, f, he, hin, rfl, hv⟩ := uQ_spec e1
  rcases hv with ⟨h9, -⟩ | ⟨-, k2, f2, hv⟩
  · cases h9
  · obtain ⟨q, hq⟩ := wv_get I.1 he
    obtain ⟨qv, hqv⟩ := wv_get I.1 hv
    have hva : H[rfG g v]? = some (vp_cell (g.2.1 0) (k2, .inl f2)) := by
      rw [rf_lt (I.1.1 v _ hv).1]
      exact wv_P I.1 qv _ hqv
    have hca : H[rfG g a]? = some (vp_cell (g.2.1 5) (n, .inr (.inr (.inr (.inr (fun j => (f j).map (rfG g))))))) := by
      rw [rf_lt (I.1.1 a _ he).1]
      exact wv_P I.1 q _ hq
    obtain ⟨comp, cA, k, a1, -, a3, a4, a5⟩ := aoi_spec hSF.2.2.1.2.2.2.2
    have hc5 : cA = g.2.1 5 := Option.some.inj (a5.symm.trans (hSF.1.2 5 (g.2.1 5, .array .int) rfl).2)
    have hc0 : comp = g.2.1 0 := Option.some.inj (a1.symm.trans (hSF.1.2 0 (g.2.1 0, .int) rfl).2)
    subst hc5
    subst hc0
    obtain ⟨-, k0, hk0, cm0, hkk0⟩ := (hSF.1.2 0 (g.2.1 0, .int) rfl).1 k2 (fun j => .int (f2 j))
    have hlt : i.toNatClampNeg < n := Nat.not_le.mp fun z => hin (Or.inr z)
    have h0 : ¬ i < 0 := fun z => hin (Or.inl z)
    refine W.aast hx hb hca (fun z h => by cases h) (fun h => by cases h) a3 a4 rfl hk0 ⟨h0, by show _ < (arrV _ _ _).slots.size; rw [arrV_size]; exact hlt⟩ hva (fun z h => by cases h) hk0 (va_asg _ _) rfl rfl hdg fun H1 e9 z9 oq => W.sz fun hz => kk H1 _ ?_
    have hra : rfG g a = g.2.2.2 + a := rf_lt (I.1.1 a _ he).1
    rw [hra] at e9 oq ⊢
    refine I.wr he hq (wv_P I.1 |>.set wv_D hq ?_ oq) ((va_S.now I.2.1).put z9 oq (wv_D.2 q _ hq)) hz
    show H1[_]? = some (vp_cell _ _)
    rw [e9]
    show some (Cell.setSlot (vp_cell (g.2.1 5) (n, .inr (.inr (.inr (.inr (fun j => (f j).map (rfG g))))))) i.toNatClampNeg (.ref (rfG g v))) = some (vp_cell (g.2.1 5) (n, .inr (.inr (.inr (.inr (fun j => (va_up f i.toNatClampNeg (some v) j).map (rfG g)))))))
    rw [up_map, vp_cell_q, vp_cell_q, arrV_store]
    congr 2
    funext z
    by_cases hzi : z = i.toNatClampNeg
    · subst hzi
      simp [updV, va_up, va_rf]
    · simp [updV, va_up, hzi]
theorem r_cl (X : Cx g p s m args meth c cc nL own) (I : Iv g s n0 z0 h H locs cells slots) {a o idx : Nat} (hn : ∃ n f, h.2.2 a = some (.inl (0, n, .inl f)) ∧ o = h.1 ∧ h2 = hpush h n (.inl (0, n, .inl f)) ∧ h.1 < 1000000) {N9 Z9 : Nat} (hA : R.cells + n0 = N9 ∧ R.slots + z0 = Z9) (hb : h2.1 ≤ N9 ∧ h2.2.1 ≤ Z9)
    (w1 : Cond.methodLink own idx ⟨"[I", "clone", "()Ljava/lang/Object;"⟩ ∈ TB) (w2 : Cond.sameMethod "[I" "java/lang/Object" "clone" "()Ljava/lang/Object;" ∈ TB) (w3 : Cond.native ⟨"java/lang/Object", "clone", "()Ljava/lang/Object;"⟩ ∈ TB) (w4 : Cond.instanceMethod ⟨"java/lang/Object", "clone", "()Ljava/lang/Object;"⟩ ∈ TB) (w5 : Cond.selects "[I" ⟨"[I", "clone", "()Ljava/lang/Object;"⟩ ⟨"java/lang/Object", "clone", "()Ljava/lang/Object;"⟩ ∈ TB) (hR : 1 ≤ R.frames ∧ 64 ≤ R.locals) (hls : ls.size = nL) (hroom : (rest.map fun v => v.category).sum ≤ 8) (hdg : decode cc pc = .ok (.invokevirtual idx, 3))
    (kk : ∀ (H : Heap) (cells slots : Nat), Iv g s n0 z0 h2 H locs cells slots → W p l e R s m args below meth c H locs cells slots Q (F0 m (pc + 3) ls (.ref (rfG g o) :: rest))) : W p l e R s m args below meth c H locs cells slots Q (F0 m pc ls (.ref (rfG g a) :: rest)) := by
  obtain ⟨n, f, he, rfl, rfl, hlt⟩ := hn
  have hb' : h.1 + 1 ≤ N9 ∧ h.2.1 + n ≤ Z9 := hb
  obtain ⟨hx, hb9, hml, hown, hT, hSF, -⟩ := X
  have hsz : H.size = g.2.2.2 + h.1 := I.1.2
  have hcs : cells + 1 ≤ R.cells ∧ slots + n ≤ R.slots := by
    obtain ⟨-, -, -, a, b⟩ := I
    omega
  have hcell : H[g.2.2.2 + a]? = some (arrV (g.2.1 0) n (fun j => .int (f j))) := (I.1.1 a _ he).2
  have hra : rfG g a = g.2.2.2 + a := rf_lt (I.1.1 a _ he).1
  rw [hra]
  have hnm : s.vm.findClass "[I" = some (g.2.1 0) := by
    have e9 : "[" ++ FieldType.int.toString = "[I" := by decide
    have h9 : s.vm.findClass ("[" ++ FieldType.int.toString) = some (g.2.1 0) := (hSF.1.2 0 (g.2.1 0, .int) rfl).2
    rw [e9] at h9
    exact h9
  obtain ⟨c0, t0', f1, f2, f3⟩ := Cond.castable_spec (va_Nw.use (A := args) rfl (hSF.2.2.1.2.2.1 ("[I", "java/lang/Cloneable") (by decide)))
  have ec : g.2.1 0 = c0 := Option.some.inj (hnm.symm.trans f1)
  rw [← ec] at f3
  obtain ⟨-, kS, hkS, compS, hkindS⟩ := (hSF.1.2 0 (g.2.1 0, .int) rfl).1 n (fun j => .int (f j))
  intro T hTh Xs
  obtain ⟨-, kA, hkA, comp, hkind⟩ := State.isArrayOf_alike Xs.warmed.alike ((hSF.1.2 0 (g.2.1 0, .int) rfl).1 n (fun j => .int (f j)))
  have hcellT : T.heap[g.2.2.2 + a]? = some (arrV (g.2.1 0) n (fun j => .int (f j))) := by rw [hTh]; exact hcell
  obtain ⟨vm', X', st⟩ := Xs.cloneArray hx hown (hT _ w1) (hT _ w2) (hT _ w3) (hT _ w4) (hT _ w5) (a := g.2.2.2 + a) (cell := arrV (g.2.1 0) n (fun j => .int (f j))) hcellT (fun k z => by cases z) (fun z => by cases z) hnm f2 f3
    (fun i v hv => by
      have hi : i < n := by
        have h9 := (Array.getElem?_eq_some_iff.mp hv).1
        rw [arrV_size] at h9
        exact h9
      rw [arrV_read _ _ hi] at hv
      cases hv
      have hk' : T.vm.classes[g.2.1 0]? = some kA := hkA
      show T.fitsSlot (g.2.1 0) _ i _ = true
      simp [State.fitsSlot, State.slotType?, hk', hkind, fits])
    (g := F0 m pc ls (.ref (g.2.2.2 + a) :: rest)) rfl (hls.trans hml.symm) rfl (by rw [hb9]; exact hdg) hR.1 (by show 2 * 0 + _ + 14 ≤ _; omega) hcs.1 (by rw [arrV_size]; exact hcs.2) (hloader := Vm.clonesLoader_of_array hkS hkindS)
  rw [arrV_size] at X'
  have e9 : ({ cls := (arrV (g.2.1 0) n (fun j => Value.int (f j))).cls, slots := (arrV (g.2.1 0) n (fun j => Value.int (f j))).slots } : Cell) = arrV (g.2.1 0) n (fun j => Value.int (f j)) := rfl
  rw [e9] at X' st
  obtain ⟨t, b1, b2⟩ := kk (H.push (arrV (g.2.1 0) n (fun j => .int (f j)))) (cells + 1) (slots + n) (I.push hlt (e1 := .inl (0, n, .inl f)) (by
    show (H.push _)[_]? = some (vp_cell _ _)
    rw [← hsz, Array.getElem?_push, if_pos rfl]
    rfl) (by rw [Array.size_push]) (fun q hq => by rw [Array.getElem?_push, if_neg (Nat.ne_of_lt hq)])) ((T.setVm vm').pushCell (arrV (g.2.1 0) n (fun j => .int (f j)))) (by rw [← hTh]; rfl) X'
  refine ⟨t, st t ?_, b2⟩
  rw [rf_lt hlt, ← hsz] at b1
  rw [hTh]
  exact b1
theorem r_cast (X : Cx g p s m args meth c cc nL own) (I : Iv g s n0 z0 h H locs cells slots) {a idx : Nat} (e1 : isI h a = some ()) (hl : Cond.classLink own idx "[I" ∈ TB) (hdg : decode cc pc = .ok (.checkcast idx, 3))
    (kk : W p l e R s m args below meth c H locs cells slots Q (F0 m (pc + 3) ls (.ref (rfG g a) :: rest))) : W p l e R s m args below meth c H locs cells slots Q (F0 m pc ls (.ref (rfG g a) :: rest)) := by
  obtain ⟨hx, hb, hml, hown, hT, hSF, -⟩ := X
  have hnm : s.vm.findClass "[I" = some (g.2.1 0) := by
    have e9 : "[" ++ FieldType.int.toString = "[I" := by decide
    have h9 : s.vm.findClass ("[" ++ FieldType.int.toString) = some (g.2.1 0) := (hSF.1.2 0 (g.2.1 0, .int) rfl).2
    rw [e9] at h9
    exact h9
  unfold isI at e1
  split at e1
  · rename_i t y he
    split at e1
    · rename_i ht
      subst ht
      obtain ⟨q, hq⟩ := wv_get I.1 he
      have hra : rfG g a = g.2.2.2 + a := rf_lt (I.1.1 a _ he).1
      rw [hra] at kk ⊢
      exact va_castA hx hb hown (hT _ hl) (wv_P I.1) q hq hnm hdg kk
    · cases e1
  · cases e1
end ALLOCC
