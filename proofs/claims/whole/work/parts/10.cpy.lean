/-! arraycopy of ints; rows of int rows. -/
def aSrc (h : AH) (a : Nat) : Option (Nat × (Nat → Int32)) := match h.2.2 a with
  | some (.inl (t, n, .inl f)) => if t = 0 then some (n, f) else none
  | some _ => none
  | none => match sarr a with
    | some (t, xs) => if t = 0 then some (xs.length, fun i => xs.getD i 0) else none
    | none => none
def aCpy (h : AH) (a : Nat) (sp : Int32) (b : Nat) (dp n : Int32) : Option AH := match aSrc h a with
  | some (k, f) => (match h.2.2 b with
    | some (.inl (t, k2, .inl f2)) => if t = 0 ∧ ¬ sp < 0 ∧ ¬ dp < 0 ∧ ¬ n < 0 ∧ sp.toNatClampNeg + n.toNatClampNeg ≤ k ∧ dp.toNatClampNeg + n.toNatClampNeg ≤ k2 then some (hset h b (.inl (0, k2, .inl (va_cpy f f2 sp.toNatClampNeg dp.toNatClampNeg n.toNatClampNeg)))) else none
    | _ => none)
  | none => none
section CPY
variable {g : GG} {p : Program} {l : Launch} {e : Env} {R : Room} {s : State} {m : MethodId} {args : Array Value} {below : List Frame} {meth : Method} {c : Code} {H : Heap} {locs : List Loc} {cells slots : Nat} {Q : State → Prop}
variable {cc : ByteArray} {nL : Nat} {own : String} {pc : Nat} {ls : Array Slot} {rest : List Value} {n0 z0 : Nat} {h h' : AH}
theorem nn_of {z : Int32} (hz : ¬ z < 0) : z.toInt = (z.toNatClampNeg : Int) := by
  have hz0 : (0 : Int) ≤ z.toInt := by
    have := Int32.not_lt.mp hz
    simpa using Int32.le_iff_toInt_le.mp this
  show z.toInt = ((z.toInt.toNat : Nat) : Int)
  omega
/-- a static int array's ints into an int row of ours -/
theorem r_cpyT (X : Cx g p s m args meth c cc nL own) (hS : va_S (AG g) s.heap H locs) {ws : va_W} (hP : va_P g.1 classes ws H) (hD : va_D (AG g) ws) {idx a b k k2 : Nat} {f f2 : Nat → Int32} (hX : va_T .int a k (fun j => .int (f j)) (AG g) s s.heap) (q : Nat) (hq : ws[q]? = some (b, .inl (g.2.1 0, k2, .inl f2)))
    (hlink : Cond.methodLink own idx arraycopyName ∈ TB) (hw1 : Cond.native arraycopyName ∈ TB) (hw2 : Cond.static arraycopyName ∈ TB) (hw3 : Cond.initialized "java/lang/System" ∈ TB) {sp dp n : Int32} (h1 : ¬ sp < 0) (h2 : ¬ dp < 0) (h3 : ¬ n < 0) (h4 : sp.toNatClampNeg + n.toNatClampNeg ≤ k) (h5 : dp.toNatClampNeg + n.toNatClampNeg ≤ k2)
    (hls : ls.size = nL) (hframes : 1 ≤ R.frames) (hlocals : (rest.map fun v => v.category).sum + (nativeFrameWords "java/lang/System" "arraycopy" 5 + 11) ≤ R.locals) (hdg : decode cc pc = .ok (.invokestatic idx, 3))
    (kk : ∀ (H1 : Heap) (locs1 : List Loc), va_P g.1 classes (ws.set q (b, .inl (g.2.1 0, k2, .inl (va_cpy f f2 sp.toNatClampNeg dp.toNatClampNeg n.toNatClampNeg)))) H1 → va_S (AG g) H H1 locs1 → W p l e R s m args below meth c H1 locs1 cells slots Q (F0 m (pc + 3) ls rest)) : W p l e R s m args below meth c H locs cells slots Q (F0 m pc ls (.int n :: .int dp :: .ref b :: .int sp :: .ref a :: rest)) := by
  obtain ⟨hx, hb, hml, hown, hT, hSF, -⟩ := X
  intro T hTh Xs
  obtain ⟨scr, q1, q2, q3, q4, -, q5, q6⟩ := hX
  obtain ⟨q7, k0, hk0, cm0, hkk0⟩ := q2
  have c0 : H[a]? = some scr := by rw [hS.2.1 a (Array.getElem?_eq_some_iff.mp q1).1 q6]; exact q1
  have c1 : H[b]? = some (vp_cell (g.2.1 0) (k2, .inl f2)) := hP q _ hq
  obtain ⟨-, k1, hk1, cm1, hkk1⟩ := (hSF.1.2 0 (g.2.1 0, .int) rfl).1 k2 (fun j => .int (f2 j))
  obtain ⟨vm', X', step⟩ := Xs.arraycopy hx hown (hT _ hlink) (hT _ hw1) (hT _ hw2) (hT _ hw3) (src := a) (dst := b) (cs := scr) (cd := vp_cell (g.2.1 0) (k2, .inl f2)) (srcPos := sp) (destPos := dp) (n := n) (by rw [hTh]; exact c0) (by rw [hTh]; exact c1)
    q7 (fun _ z => by cases z) q3 (fun z => by cases z) hk0 hk1 hkk0 hkk1 (by simp [refKind]) h1 h2 h3
    (by rw [nn_of h1, nn_of h3]; omega)
    (by rw [nn_of h2, nn_of h3]; show ¬ _ > ((arrV (g.2.1 0) k2 (fun j => .int (f2 j))).slots.size : Int); rw [arrV_size]; omega)
    (fun vm₁ _ i hi => by
      have e9 : scr.slots.getD (sp.toNatClampNeg + i) .null = .int (f (sp.toNatClampNeg + i)) := by
        rw [Array.getD_eq_getD_getElem?, q5 _ (by omega)]
        rfl
      rw [e9]
      exact ⟨rfl, trivial⟩)
    (g := F0 m pc ls (.int n :: .int dp :: .ref b :: .int sp :: .ref a :: rest)) rfl (hls.trans hml.symm) (rest := rest) rfl (by rw [hb]; exact hdg) hframes (by show 2 * 0 + _ + _ ≤ _; omega)
  have e1 : copied scr (vp_cell (g.2.1 0) (k2, .inl f2)) sp dp n = vp_cell (g.2.1 0) (k2, .inl (va_cpy f f2 sp.toNatClampNeg dp.toNatClampNeg n.toNatClampNeg)) := va_copiedX (fun z => .int z) scr (g.2.1 0) f f2 q5 h4
  rw [e1] at X' step
  have hl : b < H.size := (Array.getElem?_eq_some_iff.mp c1).1
  have oq : ∀ x : Nat, x ≠ b → (H.setIfInBounds b (vp_cell (g.2.1 0) (k2, .inl (va_cpy f f2 sp.toNatClampNeg dp.toNatClampNeg n.toNatClampNeg))))[x]? = H[x]? := fun x hxb => by simp [Array.getElem?_setIfInBounds, Ne.symm hxb]
  obtain ⟨t, a1, b1⟩ := kk _ _ (hP.set hD hq (show (H.setIfInBounds b _)[b]? = some _ by simp [Array.getElem?_setIfInBounds, hl]) oq) ⟨by simp, fun x _ g2 => oq x (fun z => g2 (by rw [z]; exact hD.2 q _ hq)), fun x hx9 => by
      rcases List.mem_append.mp hx9 with z | z
      · exact hS.2.2 x z
      · obtain ⟨w, -, hw⟩ := List.mem_map.mp z
        rw [← hw]
        exact hD.2 q _ hq⟩ _ (show ((T.setVm vm').setCell b _).heap = _ by rw [← hTh]; rfl) X'
  exact ⟨t, step t a1, b1⟩
theorem r_cpy (X : Cx g p s m args meth c cc nL own) (I : Iv g s n0 z0 h H locs cells slots) {idx a b : Nat} {sp dp n : Int32} (e1 : aCpy h a sp b dp n = some h') (hlink : Cond.methodLink own idx arraycopyName ∈ TB) (hR : 1 ≤ R.frames ∧ 64 ≤ R.locals) (hls : ls.size = nL) (hroom : (rest.map fun v => v.category).sum ≤ 8) (hdg : decode cc pc = .ok (.invokestatic idx, 3))
    (kk : ∀ (H : Heap) (locs : List Loc), Iv g s n0 z0 h' H locs cells slots → W p l e R s m args below meth c H locs cells slots Q (F0 m (pc + 3) ls rest)) : W p l e R s m args below meth c H locs cells slots Q (F0 m pc ls (.int n :: .int dp :: .ref (rfG g b) :: .int sp :: .ref (rfG g a) :: rest)) := by
  have hw1 : Cond.native arraycopyName ∈ TB := tw_494
  have hw2 : Cond.static arraycopyName ∈ TB := tw_493
  have hw3 : Cond.initialized "java/lang/System" ∈ TB := tw_14
  have hlo : (rest.map fun v => v.category).sum + (nativeFrameWords "java/lang/System" "arraycopy" 5 + 11) ≤ R.locals := by
    have h9 : nativeFrameWords "java/lang/System" "arraycopy" 5 + 11 ≤ 56 := by decide
    omega
  unfold aCpy at e1
  split at e1
  · rename_i k f hsrc
    split at e1
    · rename_i t k2 f2 hb2
      split at e1
      · rename_i hc
        obtain ⟨rfl, h1, h2, h3, h4, h5⟩ := hc
        cases e1
        obtain ⟨q, hq⟩ := wv_get I.1 hb2
        rw [rf_lt (I.1.1 b _ hb2).1]
        unfold aSrc at hsrc
        split at hsrc
        · rename_i t n' f' ha
          split at hsrc
          · rename_i ht
            subst ht
            cases hsrc
            obtain ⟨qa, hqa⟩ := wv_get I.1 ha
            rw [rf_lt (I.1.1 a _ ha).1]
            have X' := X
            obtain ⟨hx, hb, hml, hown, hT, hSF, -⟩ := X'
            exact va_copyi hx hb (hml.trans hls.symm) hown (hT _ hlink) (hT _ hw1) (hT _ hw2) (hT _ hw3) hSF.1 (wv_P I.1) wv_D I.2.1.now qa q 0 0 (ty := .int) hqa hq rfl rfl rfl h1 h2 h3 h4 h5 (fun i hi => rfl) hR.1 hlo hdg (fun H1 locs1 g1 _ hS => W.sz fun hz => kk H1 locs1 (I.wr hb2 hq g1 hS hz))
          · cases hsrc
        · cases hsrc
        · split at hsrc
          · rename_i t xs hxs
            split at hsrc
            · rename_i ht
              subst ht
              cases hsrc
              exact r_cpyT X I.2.1 (wv_P I.1) wv_D (sarr_spec X.2.2.2.2.2.1 hxs) q hq hlink hw1 hw2 hw3 h1 h2 h3 h4 h5 hls hR.1 hlo hdg (fun H1 locs1 g1 hS => W.sz fun hz => kk H1 locs1 (I.wr hb2 hq g1 hS hz))
            · cases hsrc
          · cases hsrc
      · cases e1
    · cases e1
  · cases e1
theorem r_aQ5 (X : Cx g p s m args meth c cc nL own) (I : Iv g s n0 z0 h H locs cells slots) {a : Nat} {i : Int32} {x : Option Nat} (e1 : aQ 5 h a i = some x) (hdg : decode cc pc = .ok (.aaload, 1))
    (kk : W p l e R s m args below meth c H locs cells slots Q (F0 m (pc + 1) ls (va_rf (x.map (rfG g)) :: rest))) : W p l e R s m args below meth c H locs cells slots Q (F0 m pc ls (.int i :: .ref (rfG g a) :: rest)) := by
  obtain ⟨hx, hb, hml, hown, hT, hSF, -⟩ := X
  unfold aQ at e1
  split at e1
  · rename_i t' n f he
    split at e1
    · rename_i hc
      obtain ⟨rfl, hin⟩ := hc
      cases e1
      obtain ⟨q, hq⟩ := wv_get I.1 he
      rw [rf_lt (I.1.1 a _ he).1]
      have hlt : i.toNatClampNeg < n := Nat.not_le.mp fun z => hin (Or.inr z)
      exact W.aald (v := va_rf ((f i.toNatClampNeg).map (rfG g))) (ty := .array .int) hx hb (wv_P I.1 q _ hq) ((hSF.1.2 5 (g.2.1 5, .array .int) rfl).1 n (fun j => va_rf ((f j).map (rfG g)))) rfl (fun z => by cases z) (by show ¬ (i < 0 ∨ (arrV _ _ _).slots.size ≤ _); rw [arrV_size]; exact hin) (by show (arrV (g.2.1 5) n (fun j => va_rf ((f j).map (rfG g)))).slots[_]? = _; rw [arrV_read _ _ hlt]) rfl rfl hdg kk
    · cases e1
  · cases e1
end CPY
theorem ne_toInt {x : Int32} {k : Int} (h : ¬ x = Int32.ofInt k) : ¬ x.toInt = k := fun e => h (by rw [← e]; exact (Int32.ofInt_toInt x).symm)
theorem k_bodyF {l : Launch} {g : GG} {y : MethodName} {bytes : ByteArray} {maxL fr lo mc ms : Nat} {ret : Option FieldType} {vals : List Value} {h : AH} {v : Option Value} {h1 : AH} (hy : plainFor y = true) (hlen : (lg_sl vals).length ≤ maxL)
    (body : ∀ (p : Program) (e : Env) (s : State) (m : MethodId) (below : List Frame) (meth : Method) (c : Code) (R : Room) (ls : Array Slot), R.frames = fr ∧ R.locals = lo ∧ R.cells = mc ∧ R.slots = ms → meth.sig.returnType = ret → Cx g p s m vals.toArray meth c bytes maxL y.cls → Iv g s h.1 h.2.1 h s.heap [] 0 0 → lv_has ls maxL (lv_args 0 vals) →
      W p l e R s m vals.toArray below meth c s.heap [] 0 0 (MQ below (QG g v h1) vals.toArray s mc ms (AG g)) (F0 m 0 ls [])) : CM l g y bytes maxL ret fr lo mc ms vals h v h1 := by
  refine va_MetF (cc := bytes) (maxL := maxL) (ret := ret) hy rfl ?_
  intro p e s m args below meth c s₁ B hml hv
  obtain ⟨rfl, hP, hSF⟩ := hv
  have hts := atoms_spec (ws := Cond.code y bytes maxL ret :: TB) B.pre
  have hl := lv_entry vals (n := maxL) hlen
  rw [lg_entry_eq]
  exact body p e s m below meth c _ _ ⟨rfl, rfl, rfl, rfl⟩ B.returns ⟨B.exec, B.bytes, hml, findClass_of_methodNamed B.named, fun w hw => hts w (List.mem_cons_of_mem _ hw), hSF, B.notSynchronized⟩ ⟨hP, va_S.rf, hP.2, by omega, by omega⟩ hl
theorem ret_eq {α : Type} {a res : α} (h : some a = some res) : res = a := (Option.some.inj h).symm
