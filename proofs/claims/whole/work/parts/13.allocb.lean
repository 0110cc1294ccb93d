/-! Calls that make cells, by what they answer; constructors. -/
theorem nO_ex {ρ : Type} {ci N : Nat} {fs : List Value} {h : AH} {k : Nat → AH → Option (ρ × AH)} {y : ρ × AH} (hx : nO ci N fs h k = some y) : ∃ o h2, (o = h.1 ∧ h2 = hpush h N (.inr (ci, fs)) ∧ h.1 < 1000000) ∧ (h2.1 ≤ y.2.1 ∧ h2.2.1 ≤ y.2.2.1) ∧ k o h2 = some y := by
  obtain ⟨a, b, c⟩ := nO_spec hx
  exact ⟨_, _, ⟨rfl, rfl, a⟩, b, c⟩
theorem nA_ex {ρ : Type} {t : Nat} {n : Int32} {h : AH} {k : Nat → AH → Option (ρ × AH)} {y : ρ × AH} (hx : nA t n h k = some y) : ∃ o h2, (o = h.1 ∧ h2 = hpush h n.toNatClampNeg (.inl (t, n.toNatClampNeg, a0 t)) ∧ (h.1 < 1000000 ∧ ¬ n < 0 ∧ n.toNatClampNeg ≤ 100000)) ∧ (h2.1 ≤ y.2.1 ∧ h2.2.1 ≤ y.2.2.1) ∧ k o h2 = some y := by
  obtain ⟨a, b, c⟩ := nA_spec hx
  exact ⟨_, _, ⟨rfl, rfl, a⟩, b, c⟩
section ALLOCB
variable {g : GG} {p : Program} {l : Launch} {e : Env} {R : Room} {s : State} {m : MethodId} {args : Array Value} {below : List Frame} {meth : Method} {c : Code} {H : Heap} {locs : List Loc} {cells slots : Nat} {Q : State → Prop}
variable {cc : ByteArray} {nL : Nat} {own : String} {pc : Nat} {ls : Array Slot} {rest st0 : List Value} {n0 z0 : Nat} {h h1 h2 h' : AH}
theorem Iv.le2 (I : Iv g s n0 z0 h H locs cells slots) {N Z : Nat} (hA : R.cells + n0 = N ∧ R.slots + z0 = Z) (hz : h.1 ≤ h1.1 ∧ h.2.1 ≤ h1.2.1) (hb : h1.1 ≤ N ∧ h1.2.1 ≤ Z) : cells + (h1.1 - h.1) ≤ R.cells ∧ slots + (h1.2.1 - h.2.1) ≤ R.slots := by
  obtain ⟨-, -, -, a, b⟩ := I
  omega
theorem Iv.fin (I : Iv g s n0 z0 h H locs cells slots) (hA : R.cells + n0 = h.1 ∧ R.slots + z0 = h.2.1) : cells = R.cells ∧ slots = R.slots := by
  obtain ⟨-, -, -, a, b⟩ := I
  omega
theorem k_fin {Qc : Array Value → State → Outcome → State → Prop} {free : Addr → Prop} {f : JFrame} {mc ms : Nat} (hc : cells = mc ∧ slots = ms) (k : W p l e R s m args below meth c H locs cells slots (MQ below Qc args s cells slots free) f) : W p l e R s m args below meth c H locs cells slots (MQ below Qc args s mc ms free) f := by
  obtain ⟨rfl, rfl⟩ := hc
  exact k
theorem r_nO (X : Cx g p s m args meth c cc nL own) (I : Iv g s n0 z0 h H locs cells slots) {idx ci N o : Nat} {C : String} {T : u_T} {fs : List Value} (hn : o = h.1 ∧ h2 = hpush h N (.inr (ci, fs)) ∧ h.1 < 1000000) {N9 Z9 : Nat} (hA : R.cells + n0 = N9 ∧ R.slots + z0 = Z9) (hb : h2.1 ≤ N9 ∧ h2.2.1 ≤ Z9) (hCK : CK ci C T N) (ty : Nat → FieldType) (hty : ∀ k, k < N → parseFieldDescriptor (T k).2.2.1 = some (ty k)) (hcl : Cond.classLink own idx C ∈ TB) (hinst : Cond.instantiable C N ∈ TB) (hini : Cond.initialized C ∈ TB)
    (hfs : ∀ j, j < N → defaultValue (ty j) = vp_V (fs.map (vG g)) j) (hdg : decode cc pc = .ok (.new idx, 3))
    (kk : ∀ (H : Heap), Iv g s n0 z0 h2 H locs (cells + 1) (slots + N) → W p l e R s m args below meth c H locs (cells + 1) (slots + N) Q (F0 m (pc + 3) ls (.ref (rfG g o) :: rest))) : W p l e R s m args below meth c H locs cells slots Q (F0 m pc ls rest) := by
  obtain ⟨rfl, rfl, hlt⟩ := hn
  have hb' : h.1 + 1 ≤ N9 ∧ h.2.1 + N ≤ Z9 := hb
  refine r_new X I hlt hCK ty hty hcl hinst hini hfs ?_ hdg kk
  obtain ⟨-, -, -, a, b⟩ := I
  omega
theorem r_nAg (X : Cx g p s m args meth c cc nL own) (I : Iv g s n0 z0 h H locs cells slots) {t o : Nat} {n : Int32} {atype : ArrayType} {ty : FieldType} (hn : o = h.1 ∧ h2 = hpush h n.toNatClampNeg (.inl (t, n.toNatClampNeg, a0 t)) ∧ (h.1 < 1000000 ∧ ¬ n < 0 ∧ n.toNatClampNeg ≤ 100000)) {N9 Z9 : Nat} (hA : R.cells + n0 = N9 ∧ R.slots + z0 = Z9) (hb : h2.1 ≤ N9 ∧ h2.2.1 ≤ Z9) (harr : Cond.arrayClass (newarray.typeOf atype) ∈ TB) (hty : newarray.typeOf atype = ty) (ht : (tysG g)[t]? = some (g.2.1 t, ty)) (hra : ∀ (U : State) (cA : ClassId), va_RA U cA ty → U.vm.findClass ("[" ++ ty.toString) = some cA)
    (ha : ∀ (cA : ClassId) (N : Nat), vp_cell cA (arG g (N, a0 t)) = arrV cA N (fun _ => defaultValue ty)) (hby : componentBytes ty ≤ 8) (hdg : decode cc pc = .ok (.newarray atype, 2))
    (kk : ∀ (H : Heap), Iv g s n0 z0 h2 H locs (cells + 1) (slots + n.toNatClampNeg) → W p l e R s m args below meth c H locs (cells + 1) (slots + n.toNatClampNeg) Q (F0 m (pc + 2) ls (.ref (rfG g o) :: rest))) : W p l e R s m args below meth c H locs cells slots Q (F0 m pc ls (.int n :: rest)) := by
  obtain ⟨rfl, rfl, hlt⟩ := hn
  have hb' : h.1 + 1 ≤ N9 ∧ h.2.1 + n.toNatClampNeg ≤ Z9 := hb
  refine r_newa X I hlt harr hty ht hra ha hby ?_ hdg kk
  obtain ⟨-, -, -, a, b⟩ := I
  omega
theorem r_obj (X : Cx g p s m args meth c cc nL own) {idx a : Nat} (hl : Cond.methodLink own idx objectInit ∈ TB) (hin : Cond.instanceMethod objectInit ∈ TB) (hcode : Cond.code objectInit ⟨#[0xb1]⟩ 1 none ∈ TB) (hR : 1 ≤ R.frames ∧ 64 ≤ R.locals) (hls : ls.size = nL) (hdg : decode cc pc = .ok (.invokespecial idx, 3))
    (kk : W p l e R s m args below meth c H locs cells slots Q (F0 m (pc + 3) ls [])) : W p l e R s m args below meth c H locs cells slots Q (F0 m pc ls [.ref a]) := by
  obtain ⟨hx, hb, hml, hown, hT, hSF, -⟩ := X
  exact W.objInit hx hb hown (hT _ hl) (hT _ hin) (hT _ hcode) (g := F0 m pc ls [.ref a]) rfl (hls.trans hml.symm) rfl hdg hR.1 (by show 2 * 0 + 0 + 12 ≤ _; omega) kk
theorem k_VAi (X : Cx g p s m args meth c cc nL own) (I : Iv g s n0 z0 h H locs cells slots) {y : MethodName} {bytes : ByteArray} {maxL fr lo idx o n : Nat} {ret : Option FieldType} {cs : List Nat} {As : List Value} {r : Int32}
    (hM : CM l g y bytes maxL ret fr lo (h1.1 - h.1) (h1.2.1 - h.2.1) (.ref (rfG g o) :: As) h (some (.int r)) h1) (hz : h.1 ≤ h1.1 ∧ h.2.1 ≤ h1.2.1) {N9 Z9 : Nat} (hA : R.cells + n0 = N9 ∧ R.slots + z0 = Z9) (hb : h1.1 ≤ N9 ∧ h1.2.1 ≤ Z9) (hc : isC cs h o = some ()) (V : VK own idx cs y n) (hcode : Cond.code y bytes maxL ret ∈ TB) (hR : fr + 1 ≤ R.frames ∧ 8 + (maxL + 11) + lo ≤ R.locals) 
    (hn : As.length = n) (hls : ls.size = nL) (hst : st0 = As.reverse ++ .ref (rfG g o) :: rest) (hroom : (rest.map fun v => v.category).sum ≤ 8) (hdg : decode cc pc = .ok (.invokevirtual idx, 3))
    (kk : ∀ (H : Heap) (locs : List Loc), Iv g s n0 z0 h1 H locs (cells + (h1.1 - h.1)) (slots + (h1.2.1 - h.2.1)) → W p l e R s m args below meth c H locs (cells + (h1.1 - h.1)) (slots + (h1.2.1 - h.2.1)) Q (F0 m (pc + 3) ls (.int r :: rest))) : W p l e R s m args below meth c H locs cells slots Q (F0 m pc ls st0) := k_V X I hM ⟨by omega, by omega⟩ hc V hcode hR (I.le2 hA hz hb) hn hls hst hroom hdg kk
theorem k_SAi (X : Cx g p s m args meth c cc nL own) (I : Iv g s n0 z0 h H locs cells slots) {y : MethodName} {bytes : ByteArray} {maxL fr lo idx n : Nat} {ret : Option FieldType} {As : List Value} {r : Int32}
    (hM : CM l g y bytes maxL ret fr lo (h1.1 - h.1) (h1.2.1 - h.2.1) As h (some (.int r)) h1) (hz : h.1 ≤ h1.1 ∧ h.2.1 ≤ h1.2.1) {N9 Z9 : Nat} (hA : R.cells + n0 = N9 ∧ R.slots + z0 = Z9) (hb : h1.1 ≤ N9 ∧ h1.2.1 ≤ Z9) (V : SK own idx y n) (hcode : Cond.code y bytes maxL ret ∈ TB) (hR : fr + 1 ≤ R.frames ∧ 8 + (maxL + 11) + lo ≤ R.locals) 
    (hn : As.length = n) (hls : ls.size = nL) (hst : st0 = As.reverse ++ rest) (hroom : (rest.map fun v => v.category).sum ≤ 8) (hdg : decode cc pc = .ok (.invokestatic idx, 3))
    (kk : ∀ (H : Heap) (locs : List Loc), Iv g s n0 z0 h1 H locs (cells + (h1.1 - h.1)) (slots + (h1.2.1 - h.2.1)) → W p l e R s m args below meth c H locs (cells + (h1.1 - h.1)) (slots + (h1.2.1 - h.2.1)) Q (F0 m (pc + 3) ls (.int r :: rest))) : W p l e R s m args below meth c H locs cells slots Q (F0 m pc ls st0) := k_S X I hM ⟨by omega, by omega⟩ V hcode hR (I.le2 hA hz hb) hn hls hst hroom hdg kk
theorem k_VAr (X : Cx g p s m args meth c cc nL own) (I : Iv g s n0 z0 h H locs cells slots) {y : MethodName} {bytes : ByteArray} {maxL fr lo idx o n : Nat} {ret : Option FieldType} {cs : List Nat} {As : List Value} {r : Nat}
    (hM : CM l g y bytes maxL ret fr lo (h1.1 - h.1) (h1.2.1 - h.2.1) (.ref (rfG g o) :: As) h (some (.ref r)) h1) (hz : h.1 ≤ h1.1 ∧ h.2.1 ≤ h1.2.1) {N9 Z9 : Nat} (hA : R.cells + n0 = N9 ∧ R.slots + z0 = Z9) (hb : h1.1 ≤ N9 ∧ h1.2.1 ≤ Z9) (hc : isC cs h o = some ()) (V : VK own idx cs y n) (hcode : Cond.code y bytes maxL ret ∈ TB) (hR : fr + 1 ≤ R.frames ∧ 8 + (maxL + 11) + lo ≤ R.locals) 
    (hn : As.length = n) (hls : ls.size = nL) (hst : st0 = As.reverse ++ .ref (rfG g o) :: rest) (hroom : (rest.map fun v => v.category).sum ≤ 8) (hdg : decode cc pc = .ok (.invokevirtual idx, 3))
    (kk : ∀ (H : Heap) (locs : List Loc), Iv g s n0 z0 h1 H locs (cells + (h1.1 - h.1)) (slots + (h1.2.1 - h.2.1)) → W p l e R s m args below meth c H locs (cells + (h1.1 - h.1)) (slots + (h1.2.1 - h.2.1)) Q (F0 m (pc + 3) ls (.ref (rfG g r) :: rest))) : W p l e R s m args below meth c H locs cells slots Q (F0 m pc ls st0) := k_V X I hM ⟨by omega, by omega⟩ hc V hcode hR (I.le2 hA hz hb) hn hls hst hroom hdg kk
theorem k_SAr (X : Cx g p s m args meth c cc nL own) (I : Iv g s n0 z0 h H locs cells slots) {y : MethodName} {bytes : ByteArray} {maxL fr lo idx n : Nat} {ret : Option FieldType} {As : List Value} {r : Nat}
    (hM : CM l g y bytes maxL ret fr lo (h1.1 - h.1) (h1.2.1 - h.2.1) As h (some (.ref r)) h1) (hz : h.1 ≤ h1.1 ∧ h.2.1 ≤ h1.2.1) {N9 Z9 : Nat} (hA : R.cells + n0 = N9 ∧ R.slots + z0 = Z9) (hb : h1.1 ≤ N9 ∧ h1.2.1 ≤ Z9) (V : SK own idx y n) (hcode : Cond.code y bytes maxL ret ∈ TB) (hR : fr + 1 ≤ R.frames ∧ 8 + (maxL + 11) + lo ≤ R.locals) 
    (hn : As.length = n) (hls : ls.size = nL) (hst : st0 = As.reverse ++ rest) (hroom : (rest.map fun v => v.category).sum ≤ 8) (hdg : decode cc pc = .ok (.invokestatic idx, 3))
    (kk : ∀ (H : Heap) (locs : List Loc), Iv g s n0 z0 h1 H locs (cells + (h1.1 - h.1)) (slots + (h1.2.1 - h.2.1)) → W p l e R s m args below meth c H locs (cells + (h1.1 - h.1)) (slots + (h1.2.1 - h.2.1)) Q (F0 m (pc + 3) ls (.ref (rfG g r) :: rest))) : W p l e R s m args below meth c H locs cells slots Q (F0 m pc ls st0) := k_S X I hM ⟨by omega, by omega⟩ V hcode hR (I.le2 hA hz hb) hn hls hst hroom hdg kk
theorem k_VAv (X : Cx g p s m args meth c cc nL own) (I : Iv g s n0 z0 h H locs cells slots) {y : MethodName} {bytes : ByteArray} {maxL fr lo idx o n : Nat} {ret : Option FieldType} {cs : List Nat} {As : List Value} 
    (hM : CM l g y bytes maxL ret fr lo (h1.1 - h.1) (h1.2.1 - h.2.1) (.ref (rfG g o) :: As) h none h1) (hz : h.1 ≤ h1.1 ∧ h.2.1 ≤ h1.2.1) {N9 Z9 : Nat} (hA : R.cells + n0 = N9 ∧ R.slots + z0 = Z9) (hb : h1.1 ≤ N9 ∧ h1.2.1 ≤ Z9) (hc : isC cs h o = some ()) (V : VK own idx cs y n) (hcode : Cond.code y bytes maxL ret ∈ TB) (hR : fr + 1 ≤ R.frames ∧ 8 + (maxL + 11) + lo ≤ R.locals) 
    (hn : As.length = n) (hls : ls.size = nL) (hst : st0 = As.reverse ++ .ref (rfG g o) :: rest) (hroom : (rest.map fun v => v.category).sum ≤ 8) (hdg : decode cc pc = .ok (.invokevirtual idx, 3))
    (kk : ∀ (H : Heap) (locs : List Loc), Iv g s n0 z0 h1 H locs (cells + (h1.1 - h.1)) (slots + (h1.2.1 - h.2.1)) → W p l e R s m args below meth c H locs (cells + (h1.1 - h.1)) (slots + (h1.2.1 - h.2.1)) Q (F0 m (pc + 3) ls (rest))) : W p l e R s m args below meth c H locs cells slots Q (F0 m pc ls st0) := k_V X I hM ⟨by omega, by omega⟩ hc V hcode hR (I.le2 hA hz hb) hn hls hst hroom hdg kk
theorem k_SAv (X : Cx g p s m args meth c cc nL own) (I : Iv g s n0 z0 h H locs cells slots) {y : MethodName} {bytes : ByteArray} {maxL fr lo idx n : Nat} {ret : Option FieldType} {As : List Value} 
    (hM : CM l g y bytes maxL ret fr lo (h1.1 - h.1) (h1.2.1 - h.2.1) As h none h1) (hz : h.1 ≤ h1.1 ∧ h.2.1 ≤ h1.2.1) {N9 Z9 : Nat} (hA : R.cells + n0 = N9 ∧ R.slots + z0 = Z9) (hb : h1.1 ≤ N9 ∧ h1.2.1 ≤ Z9) (V : SK own idx y n) (hcode : Cond.code y bytes maxL ret ∈ TB) (hR : fr + 1 ≤ R.frames ∧ 8 + (maxL + 11) + lo ≤ R.locals) 
    (hn : As.length = n) (hls : ls.size = nL) (hst : st0 = As.reverse ++ rest) (hroom : (rest.map fun v => v.category).sum ≤ 8) (hdg : decode cc pc = .ok (.invokestatic idx, 3))
    (kk : ∀ (H : Heap) (locs : List Loc), Iv g s n0 z0 h1 H locs (cells + (h1.1 - h.1)) (slots + (h1.2.1 - h.2.1)) → W p l e R s m args below meth c H locs (cells + (h1.1 - h.1)) (slots + (h1.2.1 - h.2.1)) Q (F0 m (pc + 3) ls (rest))) : W p l e R s m args below meth c H locs cells slots Q (F0 m pc ls st0) := k_S X I hM ⟨by omega, by omega⟩ V hcode hR (I.le2 hA hz hb) hn hls hst hroom hdg kk
theorem k_IAv (X : Cx g p s m args meth c cc nL own) (I : Iv g s n0 z0 h H locs cells slots) {y : MethodName} {bytes : ByteArray} {maxL fr lo idx o n : Nat} {As : List Value}
    (hM : CM l g y bytes maxL none fr lo (h1.1 - h.1) (h1.2.1 - h.2.1) (.ref (rfG g o) :: As) h none h1) (hz : h.1 ≤ h1.1 ∧ h.2.1 ≤ h1.2.1) {N9 Z9 : Nat} (hA : R.cells + n0 = N9 ∧ R.slots + z0 = Z9) (hb : h1.1 ≤ N9 ∧ h1.2.1 ≤ Z9) (hl : Cond.methodLink own idx y ∈ TB) (hy1 : y.name = "<init>") (hin : Cond.instanceMethod y ∈ TB) (hini : Cond.initialized y.cls ∈ TB) (hne : y.cls ≠ "java/lang/invoke/MethodHandle" ∧ y.cls ≠ "java/lang/invoke/VarHandle") (hpl : (parseMethodDescriptor y.desc).map (fun d => d.parameters.length) = some n) (hcode : Cond.code y bytes maxL none ∈ TB) (hR : fr + 1 ≤ R.frames ∧ 8 + (maxL + 11) + lo ≤ R.locals)
    (hn : As.length = n) (hls : ls.size = nL) (hst : st0 = As.reverse ++ .ref (rfG g o) :: rest) (hroom : (rest.map fun v => v.category).sum ≤ 8) (hdg : decode cc pc = .ok (.invokespecial idx, 3))
    (kk : ∀ (H : Heap) (locs : List Loc), Iv g s n0 z0 h1 H locs (cells + (h1.1 - h.1)) (slots + (h1.2.1 - h.2.1)) → W p l e R s m args below meth c H locs (cells + (h1.1 - h.1)) (slots + (h1.2.1 - h.2.1)) Q (F0 m (pc + 3) ls rest)) : W p l e R s m args below meth c H locs cells slots Q (F0 m pc ls st0) := k_Ig X I hM ⟨by omega, by omega⟩ hl hy1 hin hini hne hpl hcode hR (I.le2 hA hz hb) hn hls hst hroom hdg kk
theorem k_INAv (X : Cx g p s m args meth c cc nL own) (I : Iv g s n0 z0 h H locs cells slots) {y : MethodName} {bytes : ByteArray} {maxL fr lo idx o n : Nat} {As : List Value}
    (hM : CM l g y bytes maxL none fr lo (h1.1 - h.1) (h1.2.1 - h.2.1) (.ref (rfG g o) :: As) h none h1) (hz : h.1 ≤ h1.1 ∧ h.2.1 ≤ h1.2.1) {N9 Z9 : Nat} (hA : R.cells + n0 = N9 ∧ R.slots + z0 = Z9) (hb : h1.1 ≤ N9 ∧ h1.2.1 ≤ Z9) (hl : (own, idx, y) ∈ softM) (hy1 : y.name = "<init>") (hin : Cond.instanceMethod y ∈ TB) (hini : Cond.initialized y.cls ∈ TB) (hne : y.cls ≠ "java/lang/invoke/MethodHandle" ∧ y.cls ≠ "java/lang/invoke/VarHandle") (hpl : (parseMethodDescriptor y.desc).map (fun d => d.parameters.length) = some n) (hcode : Cond.code y bytes maxL none ∈ TB) (hR : fr + 1 ≤ R.frames ∧ 8 + (maxL + 11) + lo ≤ R.locals)
    (hn : As.length = n) (hls : ls.size = nL) (hst : st0 = As.reverse ++ .ref (rfG g o) :: rest) (hroom : (rest.map fun v => v.category).sum ≤ 8) (hdg : decode cc pc = .ok (.invokespecial idx, 3))
    (kk : ∀ (H : Heap) (locs : List Loc), Iv g s n0 z0 h1 H locs (cells + (h1.1 - h.1)) (slots + (h1.2.1 - h.2.1)) → W p l e R s m args below meth c H locs (cells + (h1.1 - h.1)) (slots + (h1.2.1 - h.2.1)) Q (F0 m (pc + 3) ls rest)) : W p l e R s m args below meth c H locs cells slots Q (F0 m pc ls st0) := k_INg X I hM ⟨by omega, by omega⟩ hl hy1 hin hini hne hpl hcode hR (I.le2 hA hz hb) hn hls hst hroom hdg kk
end ALLOCB
/-- a constructor's body -/
theorem k_bodyC {l : Launch} {g : GG} {y : MethodName} {bytes : ByteArray} {maxL fr lo mc ms : Nat} {ret : Option FieldType} {vals : List Value} {h : AH} {v : Option Value} {h1 : AH} (hy : plainName y.cls = true) (hlen : (lg_sl vals).length ≤ maxL)
    (body : ∀ (p : Program) (e : Env) (s : State) (m : MethodId) (below : List Frame) (meth : Method) (c : Code) (R : Room) (ls : Array Slot), R.frames = fr ∧ R.locals = lo ∧ R.cells = mc ∧ R.slots = ms → meth.sig.returnType = ret → meth.name = y.name → Cx g p s m vals.toArray meth c bytes maxL y.cls → Iv g s h.1 h.2.1 h s.heap [] 0 0 → lv_has ls maxL (lv_args 0 vals) →
      W p l e R s m vals.toArray below meth c s.heap [] 0 0 (MQ below (QG g v h1) vals.toArray s mc ms (AG g)) (F0 m 0 ls [])) : CM l g y bytes maxL ret fr lo mc ms vals h v h1 := by
  refine Met.ofW (cc := bytes) (maxL := maxL) (ret := ret) hy rfl ?_
  intro p e s m args below meth c s₁ B hml hv
  obtain ⟨rfl, hP, hSF⟩ := hv
  have hts := atoms_spec (ws := Cond.code y bytes maxL ret :: TB) B.pre
  have hl := lv_entry vals (n := maxL) hlen
  rw [lg_entry_eq]
  exact body p e s m below meth c _ _ ⟨rfl, rfl, rfl, rfl⟩ B.returns (name_of_methodNamed B.named B.method).1 ⟨B.exec, B.bytes, hml, findClass_of_methodNamed B.named, fun w hw => hts w (List.mem_cons_of_mem _ hw), hSF, B.notSynchronized⟩ ⟨hP, va_S.rf, hP.2, by omega, by omega⟩ hl
