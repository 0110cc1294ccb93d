/-! What holds in every method: the tables' words, the classes, the statics. -/
def sarrT : List (String × List Int32) := [("RULE_LOW", [1, 0, 1]), ("RULE_HIGH", [30, 99, 9]), ("RULE_USUAL", [8, 20, 3]), ("CORNER_LOW", [0, 0]), ("CORNER_HIGH", [3, 9]), ("CORNER_USUAL", [0, 5]), ("PERSON_LOW", [1, 0, 0, 0, 0, 0]), ("PERSON_HIGH", [3, 9, 9, 4, 4, 1]), ("PERSON_USUAL", [1, 4, 2, 0, 1, 0])]
def strT : List (List Int32) := [[116, 99, 111], [107, 115], [109, 103, 119, 97, 98, 114], [109, 103, 119, 115, 110, 100], [100, 107, 115, 114], [121], [110, 111, 32, 115, 117, 99, 104, 32, 111, 110, 101, 115]]
/-- static arrays: kind 0 of ints (from 1000000 on), kind 1 of bytes (the Strings' own, from 3000000 on) -/
def sarr (a : Nat) : Option (Nat × List Int32) := if a < 1000000 then none else if a < 2000000 then (sarrT[a - 1000000]?).map (fun q => (0, q.2)) else if a < 3000000 then none else (strT[a - 3000000]?).map (fun xs => (1, xs))
def STg (g : GG) (U : State) (H : Heap) : Prop := ∀ (j : Nat) (q : String × List Int32), sarrT[j]? = some q → va_Z "TrapCorner$CityReader" q.1 "[I" (.ref (g.2.2.1 (1000000 + j))) (AG g) U H ∧ va_T .int (g.2.2.1 (1000000 + j)) q.2.length (fun i => .int (q.2.getD i 0)) (AG g) U H
def softD : List MethodName := [⟨"TrapCorner$Reader", "reads", "()Z"⟩]
def softM : List (String × Nat × MethodName) := [("TrapCorner$PlanReader", 58, ⟨"TrapCorner", "stepOf", "(III)I"⟩), ("TrapCorner$History", 21, ⟨"TrapCorner$State", "<init>", "()V"⟩), ("TrapCorner", 9, ⟨"TrapCorner$Tape", "<init>", "()V"⟩), ("TrapCorner$CityReader", 11, ⟨"TrapCorner$Town", "<init>", "()V"⟩), ("TrapCorner", 41, ⟨"TrapCorner$Town", "<init>", "()V"⟩), ("TrapCorner", 48, ⟨"TrapCorner$State", "<init>", "()V"⟩), ("TrapCorner", 58, ⟨"TrapCorner$History", "<init>", "()V"⟩), ("TrapCorner", 65, ⟨"TrapCorner$Pull", "<init>", "()V"⟩)]
def softC : List (String × String) := [("[I", "java/lang/Cloneable")]
/-- rows of int rows: what the tables say of their class -/
def AOI (U : State) : Prop := (Cond.arrayOver (.array .int)).before #[] U = true
theorem aoi_spec {U : State} (h : AOI U) : ∃ comp c k, U.vm.findClass (FieldType.array .int).toString = some comp ∧ (U.vm.classes.findIdx? fun (x : Class) => match x.kind with | .array component _ => component == comp | _ => false) = some c ∧ U.vm.classes[c]? = some k ∧ k.kind = .array comp (.array .int) ∧ U.vm.findClass ("[" ++ (FieldType.array .int).toString) = some c := by
  unfold AOI at h
  simp only [Cond.before, Cond.holds, Cond.value, beq_iff_eq] at h
  cases hc : U.vm.findClass (FieldType.array .int).toString with
  | none => simp [hc] at h
  | some comp =>
    simp only [hc, Option.bind_some, Option.bind_eq_some_iff, Option.map_eq_some_iff] at h
    obtain ⟨c, hi, k, hk, hb⟩ := h
    obtain ⟨hlt, hp, -⟩ := Array.findIdx?_eq_some_iff_getElem.mp hi
    have hkk : U.vm.classes[c] = k := (Array.getElem?_eq_some_iff.mp hk).2
    rw [hkk] at hp
    cases hkind : k.kind with
    | array component ty =>
      rw [hkind] at hb hp
      simp at hb hp
      exact ⟨comp, c, k, rfl, hi, hk, by rw [hkind, hp, hb.1], hb.2⟩
    | _ => rw [hkind] at hb; simp at hb
theorem AOI.moved {u U : State} (hvm : u.vm.Alike U.vm) (h : AOI u) : AOI U := by
  obtain ⟨comp, c, k, h1, h2, h3, h4, h5⟩ := aoi_spec h
  obtain ⟨k', hk', he⟩ := hvm.2.2 _ _ h3
  have hi : (U.vm.classes.findIdx? fun (x : Class) => match x.kind with | .array component _ => component == comp | _ => false) = some c := by
    have e1 := va_idx_bare U.vm comp
    have e2 := va_idx_bare u.vm comp
    have e3 : U.vm.bare = u.vm.bare := by first | exact hvm.bare_eq | exact hvm.bare_eq.symm
    rw [e3] at e1
    exact (e1.symm.trans e2).trans h2
  have hkind : k'.kind = .array comp (.array .int) := by rw [he]; exact h4
  have f1 : U.vm.findClass (FieldType.array .int).toString = some comp := by rw [hvm.findClass]; exact h1
  have f2 : U.vm.findClass ("[" ++ (FieldType.array .int).toString) = some c := by rw [hvm.findClass]; exact h5
  unfold AOI Cond.before Cond.holds
  simp only [Cond.value]
  rw [f1, Option.bind_some]
  refine (congrArg (fun o : Option Nat => (o.bind (fun c => (U.vm.classes[c]?).map fun (k : Class) => match k.kind with | .array _ ty => decide (ty = FieldType.array .int) && decide (U.vm.findClass ("[" ++ (FieldType.array .int).toString) = some c) | _ => false) == some true)) hi).trans ?_
  simp [hk', hkind, f2]
def SOg (U : State) : Prop := (∀ y ∈ softD, va_Nw (.declares y) U) ∧ (∀ q ∈ softM, va_Nw (.methodLinkNest q.1 q.2.1 q.2.2 "TrapCorner") U) ∧ (∀ q ∈ softC, va_Nw (.castable q.1 q.2) U) ∧ va_AO "TrapCorner$State" U ∧ AOI U
/-- the String constants: whose, at which entry, its text, which of strT -/
def strR : List (String × Nat × String × Nat) := [("TrapCorner$CityReader", 75, "tco", 0), ("TrapCorner$CityReader", 87, "ks", 1), ("TrapCorner$CityReader", 101, "mgwabr", 2), ("TrapCorner$LawReader", 77, "mgwsnd", 3), ("TrapCorner$PlanReader", 47, "dksr", 4), ("TrapCorner", 199, "no such ones", 6), ("TrapCornerModel", 26, "y", 5), ("TrapCornerModel", 32, "mgwsnd", 3), ("TrapCornerModel", 251, "tco", 0), ("TrapCornerModel", 257, "ks", 1), ("TrapCornerModel", 259, "mgwabr", 2), ("TrapCornerModel", 267, "dksr", 4)]
def SRg (g : GG) (U : State) (H : Heap) : Prop := vk_S 7 (strT.map List.length) strT (fun i => g.2.2.1 (2000000 + i)) (fun i => g.2.2.1 (3000000 + i)) (AG g) U H ∧ (∀ q ∈ strR, vk_R q.1 q.2.1 q.2.2.1 (g.2.2.1 (2000000 + q.2.2.2)) U) ∧ va_Z "java/lang/String" "COMPACT_STRINGS" "Z" (.int 1) (AG g) U H ∧ va_Zq "jdk/internal/util/Preconditions" "SIOOBE_FORMATTER" "Ljava/util/function/BiFunction;" (AG g) U H
def SF (g : GG) (U : State) (H : Heap) : Prop := va_K g.1 classes (tysG g) U ∧ STg g U H ∧ SOg U ∧ SRg g U H
theorem SF.moved {g : GG} {s U : State} {H : Heap} (hW : s.WarmedH U.vm) (h : SF g s H) : SF g U H :=
  ⟨va_K.moved hW.alike h.1, fun j q hq => ⟨va_Z.moved hW.alike (h.2.1 j q hq).1, va_T.moved hW.alike (h.2.1 j q hq).2⟩, ⟨fun y hy => va_Nw.warmD hW (h.2.2.1.1 y hy), fun q hq => va_Nw.warmM hW (h.2.2.1.2.1 q hq), fun q hq => va_Nw.warmC hW (h.2.2.1.2.2.1 q hq), va_AO.moved hW.alike h.2.2.1.2.2.2.1, AOI.moved hW.alike h.2.2.1.2.2.2.2⟩, ⟨vk_S.moved hW.alike h.2.2.2.1, fun q hq => vk_R.warm hW (h.2.2.2.2.1 q hq), va_Z.moved hW.alike h.2.2.2.2.2.1, va_Zq.moved hW.alike h.2.2.2.2.2.2⟩⟩
theorem SF.kept {g : GG} {U : State} {H H1 : Heap} (h : SF g U H) (hq : ∀ a : Nat, a < H.size → ¬ AG g a → H1[a]? = H[a]?) : SF g U H1 :=
  ⟨h.1, fun j q hj => ⟨va_Z.kept (h.2.1 j q hj).1 hq, va_T.kept (h.2.1 j q hj).2 hq⟩, h.2.2.1, ⟨vk_S.kept h.2.2.2.1 hq, h.2.2.2.2.1, va_Z.kept h.2.2.2.2.2.1 hq, va_Zq.kept h.2.2.2.2.2.2 hq⟩⟩
theorem SF.call {g : GG} {U : State} {H : Heap} {f : JFrame} {mk : MethodId} {a : Array Value} (h : SF g U H) : SF g (U.calling f mk a) H :=
  ⟨va_K.moved (u := U) (U := U.calling f mk a) (Vm.Alike.refl U.vm) h.1, fun j q hj => ⟨va_Z.moved (u := U) (U := U.calling f mk a) (Vm.Alike.refl U.vm) (h.2.1 j q hj).1, va_T.moved (u := U) (U := U.calling f mk a) (Vm.Alike.refl U.vm) (h.2.1 j q hj).2⟩, ⟨fun y hy => va_Nw.same (u := U) (U := U.calling f mk a) rfl rfl (h.2.2.1.1 y hy), fun q hq => va_Nw.same (u := U) (U := U.calling f mk a) rfl rfl (h.2.2.1.2.1 q hq), fun q hq => va_Nw.same (u := U) (U := U.calling f mk a) rfl rfl (h.2.2.1.2.2.1 q hq), va_AO.moved (u := U) (U := U.calling f mk a) (Vm.Alike.refl U.vm) h.2.2.1.2.2.2.1, AOI.moved (u := U) (U := U.calling f mk a) (Vm.Alike.refl U.vm) h.2.2.1.2.2.2.2⟩, ⟨vk_S.moved (u := U) (U := U.calling f mk a) (Vm.Alike.refl U.vm) h.2.2.2.1, fun q hq => vk_R.same (u := U) (U := U.calling f mk a) rfl (h.2.2.2.2.1 q hq), va_Z.moved (u := U) (U := U.calling f mk a) (Vm.Alike.refl U.vm) h.2.2.2.2.2.1, va_Zq.moved (u := U) (U := U.calling f mk a) (Vm.Alike.refl U.vm) h.2.2.2.2.2.2⟩⟩
def Cx (g : GG) (p : Program) (s : State) (m : MethodId) (args : Array Value) (meth : Method) (c : Code) (cc : ByteArray) (nL : Nat) (own : String) : Prop :=
  p.tables.exec = Jvm.exec ∧ c.code = cc ∧ c.maxLocals = nL ∧ s.vm.findClass own = some m.cls ∧ (∀ w ∈ TB, w.before args s = true) ∧ SF g s s.heap ∧ meth.locks = false
/-- the pure heap and the machine's, n0 cells and z0 slots at the method's start -/
def Iv (g : GG) (s : State) (n0 z0 : Nat) (h : AH) (H : Heap) (locs : List Loc) (cells slots : Nat) : Prop :=
  PPg g h H ∧ va_S (AG g) s.heap H locs ∧ s.heap.size = g.2.2.2 + n0 ∧ cells + n0 = h.1 ∧ slots + z0 = h.2.1
/-! What a method's instructions do to the pure heap. -/
def gV (cs : List Nat) (h : AH) (o k : Nat) : Option Value := match h.2.2 o with
  | some (.inr (ci, fs)) => if ci ∈ cs then fs[k]? else none
  | _ => none
def gI (cs : List Nat) (h : AH) (o k : Nat) : Option Int32 := match gV cs h o k with
  | some (.int x) => some x
  | _ => none
def gJ (cs : List Nat) (h : AH) (o k : Nat) : Option Int64 := match gV cs h o k with
  | some (.long x) => some x
  | _ => none
def gR (cs : List Nat) (h : AH) (o k : Nat) : Option Nat := match gV cs h o k with
  | some (.ref x) => some x
  | _ => none
def gQ (cs : List Nat) (h : AH) (o k : Nat) : Option (Option Nat) := match gV cs h o k with
  | some (.ref x) => some (some x)
  | some .null => some none
  | _ => none
def pV (cs : List Nat) (h : AH) (o k : Nat) (v : Value) : Option AH := match h.2.2 o with
  | some (.inr (ci, fs)) => if ci ∈ cs ∧ k < fs.length then some (hset h o (.inr (ci, fs.set k v))) else none
  | _ => none
/-- the object's class is one of these -/
def isC (cs : List Nat) (h : AH) (o : Nat) : Option Unit := match h.2.2 o with
  | some (.inr (ci, _)) => if ci ∈ cs then some () else none
  | _ => none
def aI (t : Nat) (h : AH) (a : Nat) (i : Int32) : Option Int32 := match h.2.2 a with
  | some (.inl (t', n, .inl f)) => if t' = t ∧ ¬ (i < 0 ∨ n ≤ i.toNatClampNeg) then some (f i.toNatClampNeg) else none
  | some _ => none
  | none => match sarr a with
    | some (k, xs) => if t = k ∧ ¬ (i < 0 ∨ xs.length ≤ i.toNatClampNeg) then some (xs.getD i.toNatClampNeg 0) else none
    | none => none
def aJ (h : AH) (a : Nat) (i : Int32) : Option Int64 := match h.2.2 a with
  | some (.inl (t', n, .inr (.inl f))) => if t' = 2 ∧ ¬ (i < 0 ∨ n ≤ i.toNatClampNeg) then some (f i.toNatClampNeg) else none
  | _ => none
def aQ (t : Nat) (h : AH) (a : Nat) (i : Int32) : Option (Option Nat) := match h.2.2 a with
  | some (.inl (t', n, .inr (.inr (.inr (.inr f))))) => if t' = t ∧ ¬ (i < 0 ∨ n ≤ i.toNatClampNeg) then some (f i.toNatClampNeg) else none
  | _ => none
def nar (t : Nat) (x : Int32) : Int32 := if t = 1 then vp_nar .byte x else if t = 3 then vp_nar .boolean x else x
def uI (t : Nat) (h : AH) (a : Nat) (i x : Int32) : Option AH := match h.2.2 a with
  | some (.inl (t', n, .inl f)) => if t' = t ∧ ¬ (i < 0 ∨ n ≤ i.toNatClampNeg) then some (hset h a (.inl (t', n, .inl (upd f i.toNatClampNeg (nar t x))))) else none
  | _ => none
def uJ (h : AH) (a : Nat) (i : Int32) (x : Int64) : Option AH := match h.2.2 a with
  | some (.inl (t', n, .inr (.inl f))) => if t' = 2 ∧ ¬ (i < 0 ∨ n ≤ i.toNatClampNeg) then some (hset h a (.inl (t', n, .inr (.inl (vp_updL f i.toNatClampNeg x))))) else none
  | _ => none
def aLen (h : AH) (a : Nat) : Option Int32 := match h.2.2 a with
  | some (.inl (t', x)) => if t' < 6 then some (Int32.ofNat x.1) else none
  | some _ => none
  | none => (sarr a).map (fun q => Int32.ofNat q.2.length)
/-! Rows: an instruction over the pure heap. -/
def CK (ci : Nat) (C : String) (T : u_T) (N : Nat) : Prop := classes[ci]? = some (C, T, N) ∧ (∀ w ∈ u_ws C T N, w ∈ TB) ∧ (∃ ty0 : Nat → FieldType, ∀ k, k < N → parseFieldDescriptor (T k).2.2.1 = some (ty0 k)) ∧ ∀ a, a < N → ∀ b, b < N → a ≠ b → (T a).2.1 ≠ (T b).2.1
/-- the field that an instruction of 'own' links at idx, in objects of these classes -/
def LK (own : String) (idx : Nat) (cs : List Nat) (k : Nat) : Prop := ∀ ci ∈ cs, ∃ (C : String) (T : u_T) (N : Nat) (ref : String), CK ci C T N ∧ k < N ∧ Cond.fieldLink own idx ref (T k).2.1 (T k).2.2.1 ∈ TB ∧ (ref = (T k).1 ∨ Cond.sameField ref (T k).1 (T k).2.1 (T k).2.2.1 ∈ TB)
section ROWS
variable {g : GG} {p : Program} {l : Launch} {e : Env} {R : Room} {s : State} {m : MethodId} {args : Array Value} {below : List Frame} {meth : Method} {c : Code} {H : Heap} {locs : List Loc} {cells slots : Nat} {Q : State → Prop}
variable {cc : ByteArray} {nL : Nat} {own : String} {pc : Nat} {ls : Array Slot} {rest : List Value} {n0 z0 : Nat} {h : AH}
theorem W.sz {f : JFrame} (k : H.size ≤ s.heap.size + cells → W p l e R s m args below meth c H locs cells slots Q f) : W p l e R s m args below meth c H locs cells slots Q f := by
  intro T hT X
  exact k (by rw [← hT]; exact X.heapSize) T hT X
theorem sf_same {ref : String} {o n d : String} (hT : ∀ w ∈ TB, w.before args s = true) (h : ref = o ∨ Cond.sameField ref o n d ∈ TB) : ∀ x, s.fieldFound? o n d = some x → s.fieldFound? ref n d = some x := by
  intro x hx
  rcases h with rfl | h
  · exact hx
  · exact u_same (hT _ h) x hx
theorem gV_spec {cs : List Nat} {o k : Nat} {v : Value} (h1 : gV cs h o k = some v) : ∃ ci fs, h.2.2 o = some (.inr (ci, fs)) ∧ ci ∈ cs ∧ fs[k]? = some v := by
  unfold gV at h1
  split at h1
  · rename_i ci fs he
    split at h1
    · exact ⟨ci, fs, he, by assumption, h1⟩
    · cases h1
  · cases h1
theorem rf_lt {k : Nat} (hk : k < 1000000) : rfG g k = g.2.2.2 + k := if_pos hk
theorem r_get (X : Cx g p s m args meth c cc nL own) (I : Iv g s n0 z0 h H locs cells slots) {cs : List Nat} {idx o k : Nat} {v : Value} (e1 : gV cs h o k = some v) (L : LK own idx cs k) (hdg : decode cc pc = .ok (.getfield idx, 3))
    (kk : W p l e R s m args below meth c H locs cells slots Q (F0 m (pc + 3) ls (vG g v :: rest))) : W p l e R s m args below meth c H locs cells slots Q (F0 m pc ls (.ref (rfG g o) :: rest)) := by
  obtain ⟨ci, fs, he, hci, hv⟩ := gV_spec e1
  obtain ⟨C, T, N, ref, ⟨hc, hin, -, -⟩, hk, hl, hs⟩ := L ci hci
  obtain ⟨hx, hb, hml, hown, hT, hSF, -⟩ := X
  obtain ⟨hP, hS, hn, hcl, hsl⟩ := I
  obtain ⟨i, hi⟩ := wv_get hP he
  rw [rf_lt (hP.1 o _ he).1]
  exact va_get (Ts := TB) hx hb hT hin hown hSF.1 (wv_P hP) i hi hc k hk (hT _ hl) (sf_same hT hs) (by rw [List.getElem?_map, hv]; rfl) hdg kk
theorem r_gI (X : Cx g p s m args meth c cc nL own) (I : Iv g s n0 z0 h H locs cells slots) {cs : List Nat} {idx o k : Nat} {x : Int32} (e1 : gI cs h o k = some x) (L : LK own idx cs k) (hdg : decode cc pc = .ok (.getfield idx, 3))
    (kk : W p l e R s m args below meth c H locs cells slots Q (F0 m (pc + 3) ls (.int x :: rest))) : W p l e R s m args below meth c H locs cells slots Q (F0 m pc ls (.ref (rfG g o) :: rest)) := by
  unfold gI at e1
  split at e1
  · rename_i y hy
    cases e1
    exact r_get X I hy L hdg kk
  · cases e1
theorem r_gJ (X : Cx g p s m args meth c cc nL own) (I : Iv g s n0 z0 h H locs cells slots) {cs : List Nat} {idx o k : Nat} {x : Int64} (e1 : gJ cs h o k = some x) (L : LK own idx cs k) (hdg : decode cc pc = .ok (.getfield idx, 3))
    (kk : W p l e R s m args below meth c H locs cells slots Q (F0 m (pc + 3) ls (.long x :: rest))) : W p l e R s m args below meth c H locs cells slots Q (F0 m pc ls (.ref (rfG g o) :: rest)) := by
  unfold gJ at e1
  split at e1
  · rename_i y hy
    cases e1
    exact r_get X I hy L hdg kk
  · cases e1
theorem r_gR (X : Cx g p s m args meth c cc nL own) (I : Iv g s n0 z0 h H locs cells slots) {cs : List Nat} {idx o k x : Nat} (e1 : gR cs h o k = some x) (L : LK own idx cs k) (hdg : decode cc pc = .ok (.getfield idx, 3))
    (kk : W p l e R s m args below meth c H locs cells slots Q (F0 m (pc + 3) ls (.ref (rfG g x) :: rest))) : W p l e R s m args below meth c H locs cells slots Q (F0 m pc ls (.ref (rfG g o) :: rest)) := by
  unfold gR at e1
  split at e1
  · rename_i y hy
    cases e1
    exact r_get X I hy L hdg kk
  · cases e1
theorem r_gQ (X : Cx g p s m args meth c cc nL own) (I : Iv g s n0 z0 h H locs cells slots) {cs : List Nat} {idx o k : Nat} {x : Option Nat} (e1 : gQ cs h o k = some x) (L : LK own idx cs k) (hdg : decode cc pc = .ok (.getfield idx, 3))
    (kk : W p l e R s m args below meth c H locs cells slots Q (F0 m (pc + 3) ls (va_rf (x.map (rfG g)) :: rest))) : W p l e R s m args below meth c H locs cells slots Q (F0 m pc ls (.ref (rfG g o) :: rest)) := by
  unfold gQ at e1
  split at e1
  · rename_i y hy
    cases e1
    exact r_get X I hy L hdg kk
  · rename_i hy
    cases e1
    exact r_get X I hy L hdg kk
  · cases e1
end ROWS
