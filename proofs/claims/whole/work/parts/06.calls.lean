/-! Contracts over the pure heap, calls, returns. -/
def PcG (g : GG) (vals : List Value) (h : AH) : Array Value → State → Prop := va_Pc vals (fun U => PPg g h U.heap ∧ SF g U U.heap)
def QG (g : GG) (v : Option Value) (h1 : AH) : Array Value → State → Outcome → State → Prop := fun _ st oc t => (oc = .returned (v.map (vG g)) ∧ PPg g h1 t.heap) ∧ va_F (AG g) st t
/-- the method returns v, the pure heap h becomes h1; mc cells of ms slots come -/
def CM (l : Launch) (g : GG) (y : MethodName) (bytes : ByteArray) (maxL : Nat) (ret : Option FieldType) (fr lo mc ms : Nat) (vals : List Value) (h : AH) (v : Option Value) (h1 : AH) : Prop :=
  Met l y (Cond.code y bytes maxL ret :: TB) { frames := fr, cells := mc, slots := ms, locals := lo } (PcG g vals h) (QG g v h1) mc ms (AG g)
theorem PcG.blind {g : GG} {vals : List Value} {h : AH} : FrameBlind (PcG g vals h) := fun _ _ _ _ q => ⟨q.1, q.2.1, q.2.2.call⟩
/-- the words of a virtual call -/
def VK (own : String) (idx : Nat) (cs : List Nat) (y : MethodName) (n : Nat) : Prop := Cond.methodLink own idx y ∈ TB ∧ Cond.instanceMethod y ∈ TB ∧ Cond.initialized y.cls ∈ TB ∧ (y.cls ≠ "java/lang/invoke/MethodHandle" ∧ y.cls ≠ "java/lang/invoke/VarHandle") ∧ (parseMethodDescriptor y.desc).map (fun d => d.parameters.length) = some n ∧ ∀ ci ∈ cs, ∃ q : vw_C, classes[ci]? = some q ∧ Cond.selects q.1 y y ∈ TB
/-- the words of a virtual call of an inherited method -/
def UK (own : String) (idx : Nat) (ci : Nat) (x y : MethodName) (owner : String) (n : Nat) : Prop := Cond.methodLink own idx x ∈ TB ∧ Cond.sameMethod x.cls owner x.name x.desc ∈ TB ∧ Cond.instanceMethod y ∈ TB ∧ Cond.initialized y.cls ∈ TB ∧ (owner ≠ "java/lang/invoke/MethodHandle" ∧ owner ≠ "java/lang/invoke/VarHandle") ∧ (parseMethodDescriptor x.desc).map (fun d => d.parameters.length) = some n ∧ y = ⟨owner, x.name, x.desc⟩ ∧ ∃ q : vw_C, classes[ci]? = some q ∧ Cond.selects q.1 x y ∈ TB
/-- the words of a static call -/
def SK (own : String) (idx : Nat) (y : MethodName) (n : Nat) : Prop := Cond.methodLink own idx y ∈ TB ∧ Cond.static y ∈ TB ∧ Cond.initialized y.cls ∈ TB ∧ (y.cls ≠ "java/lang/invoke/MethodHandle" ∧ y.cls ≠ "java/lang/invoke/VarHandle") ∧ (parseMethodDescriptor y.desc).map (fun d => d.parameters.length) = some n
section CALLS
variable {g : GG} {p : Program} {l : Launch} {e : Env} {R : Room} {s : State} {m : MethodId} {args : Array Value} {below : List Frame} {meth : Method} {c : Code} {H : Heap} {locs : List Loc} {cells slots : Nat} {Q : State → Prop}
variable {cc : ByteArray} {nL : Nat} {own : String} {pc : Nat} {ls : Array Slot} {rest st0 : List Value} {n0 z0 mc ms : Nat} {h h1 : AH} {v : Option Value}
theorem k_run {a : Array Value} (hr : va_Run p l e R s m args below meth c H locs cells slots mc ms (F0 m pc ls st0) rest (QG g v h1 a) (AG g)) (I : Iv g s n0 z0 h H locs cells slots) (hz : h1.1 = h.1 + mc ∧ h1.2.1 = h.2.1 + ms)
    (kk : ∀ (H : Heap) (locs : List Loc), Iv g s n0 z0 h1 H locs (cells + mc) (slots + ms) → W p l e R s m args below meth c H locs (cells + mc) (slots + ms) Q (F0 m (pc + 3) ls ((v.map (vG g)).toList ++ rest))) : W p l e R s m args below meth c H locs cells slots Q (F0 m pc ls st0) := by
  obtain ⟨hP, hS, hn, hcl, hsl⟩ := I
  intro T hT X
  obtain ⟨v', st₀, t, T', L, h0, X', hL, e1, e2, ⟨⟨hv, hp⟩, hz1, hk⟩, st⟩ := hr T hT X
  cases hv
  rw [h0] at hz1 hk
  obtain ⟨t2, a1, b1⟩ := kk T'.heap (locs ++ L) ⟨by rw [e1]; exact hp, ⟨Nat.le_trans hS.1 (by rw [e1]; exact hz1), fun q q1 q2 => by rw [e1, hk q (Nat.lt_of_lt_of_le q1 hS.1) q2]; exact hS.2.1 q q1 q2, fun q hq => by
      rcases List.mem_append.mp hq with q1 | q1
      · exact hS.2.2 q q1
      · exact hL q q1⟩, hn, by omega, by omega⟩ T' rfl X'
  exact ⟨t2, st t2 a1, b1⟩
theorem k_pre {As : List Value} (X : Cx g p s m args meth c cc nL own) (I : Iv g s n0 z0 h H locs cells slots) : ∀ U : State, U.heap = H → s.WarmedH U.vm → PcG g As h As.toArray U := by
  intro U hU hW
  exact ⟨rfl, by rw [hU]; exact I.1, by rw [hU]; exact (X.2.2.2.2.2.1.moved hW).kept (fun a q1 q2 => I.2.1.2.1 a q1 q2)⟩
theorem isC_spec {cs : List Nat} {o : Nat} (h1 : isC cs h o = some ()) : ∃ ci fs, h.2.2 o = some (.inr (ci, fs)) ∧ ci ∈ cs := by
  unfold isC at h1
  split at h1
  · rename_i ci fs he
    split at h1
    · exact ⟨ci, fs, he, by assumption⟩
    · cases h1
  · cases h1
theorem k_V (X : Cx g p s m args meth c cc nL own) (I : Iv g s n0 z0 h H locs cells slots) {y : MethodName} {bytes : ByteArray} {maxL fr lo idx o n : Nat} {ret : Option FieldType} {cs : List Nat} {As : List Value}
    (hM : CM l g y bytes maxL ret fr lo mc ms (.ref (rfG g o) :: As) h v h1) (hz : h1.1 = h.1 + mc ∧ h1.2.1 = h.2.1 + ms) (hc : isC cs h o = some ()) (V : VK own idx cs y n) (hcode : Cond.code y bytes maxL ret ∈ TB) (hR : fr + 1 ≤ R.frames ∧ 8 + (maxL + 11) + lo ≤ R.locals) (hf : cells + mc ≤ R.cells ∧ slots + ms ≤ R.slots)
    (hn : As.length = n) (hls : ls.size = nL) (hst : st0 = As.reverse ++ .ref (rfG g o) :: rest) (hroom : (rest.map fun v => v.category).sum ≤ 8) (hdg : decode cc pc = .ok (.invokevirtual idx, 3))
    (kk : ∀ (H : Heap) (locs : List Loc), Iv g s n0 z0 h1 H locs (cells + mc) (slots + ms) → W p l e R s m args below meth c H locs (cells + mc) (slots + ms) Q (F0 m (pc + 3) ls ((v.map (vG g)).toList ++ rest))) : W p l e R s m args below meth c H locs cells slots Q (F0 m pc ls st0) := by
  obtain ⟨ci, fs, he, hci⟩ := isC_spec hc
  obtain ⟨hl, hin, hini, hne, hpl, hsel⟩ := V
  obtain ⟨q, hq, hsl⟩ := hsel ci hci
  have X' := X
  obtain ⟨hx, hb, hml, hown, hT, hSF, -⟩ := X'
  obtain ⟨i, hi⟩ := wv_get I.1 he
  have hrec : ∃ cellB : Cell, H[rfG g o]? = some cellB ∧ cellB.vm.isStatics = false ∧ s.vm.findClass q.1 = some cellB.cls := by
    rw [rf_lt (I.1.1 o _ he).1]
    exact va_recv hSF.1 (wv_P I.1) hq hi
  have hlen : ∀ sig, parseMethodDescriptor y.desc = some sig → n = sig.parameters.length := fun sig h9 => by
    rw [h9] at hpl
    exact (Option.some.inj hpl).symm
  exact k_run (va_runV (Ts := TB) (C := q.1) (As := As) (rest := rest) ⟨hx, hb, hml, hown, hT⟩ hM ⟨⟨rfl, rfl, hR.1, hR.2, tb_pay hT hcode, List.mem_cons_self, hT _ hcode, hT _ hini, hne, hlen, hT _ hl⟩, hT _ hin, hT _ hsl⟩ ⟨PcG.blind, hrec, k_pre X I⟩ rfl hn hls hst (lv_room hroom) hdg hf) I hz kk
theorem k_U (X : Cx g p s m args meth c cc nL own) (I : Iv g s n0 z0 h H locs cells slots) {x y : MethodName} {owner : String} {bytes : ByteArray} {maxL fr lo idx o n ci : Nat} {ret : Option FieldType} {As : List Value}
    (hM : CM l g y bytes maxL ret fr lo mc ms (.ref (rfG g o) :: As) h v h1) (hz : h1.1 = h.1 + mc ∧ h1.2.1 = h.2.1 + ms) (hc : isC [ci] h o = some ()) (V : UK own idx ci x y owner n) (hcode : Cond.code y bytes maxL ret ∈ TB) (hR : fr + 1 ≤ R.frames ∧ 8 + (maxL + 11) + lo ≤ R.locals) (hf : cells + mc ≤ R.cells ∧ slots + ms ≤ R.slots)
    (hn : As.length = n) (hls : ls.size = nL) (hst : st0 = As.reverse ++ .ref (rfG g o) :: rest) (hroom : (rest.map fun v => v.category).sum ≤ 8) (hdg : decode cc pc = .ok (.invokevirtual idx, 3))
    (kk : ∀ (H : Heap) (locs : List Loc), Iv g s n0 z0 h1 H locs (cells + mc) (slots + ms) → W p l e R s m args below meth c H locs (cells + mc) (slots + ms) Q (F0 m (pc + 3) ls ((v.map (vG g)).toList ++ rest))) : W p l e R s m args below meth c H locs cells slots Q (F0 m pc ls st0) := by
  obtain ⟨ci', fs, he, hci⟩ := isC_spec hc
  have hci := List.mem_singleton.mp hci
  subst hci
  obtain ⟨hl, hsm, hin, hini, hne, hpl, hyx, q, hq, hsl⟩ := V
  have X' := X
  obtain ⟨hx, hb, hml, hown, hT, hSF, -⟩ := X'
  obtain ⟨i, hi⟩ := wv_get I.1 he
  have hrec : ∃ cellB : Cell, H[rfG g o]? = some cellB ∧ cellB.vm.isStatics = false ∧ s.vm.findClass q.1 = some cellB.cls := by
    rw [rf_lt (I.1.1 o _ he).1]
    exact va_recv hSF.1 (wv_P I.1) hq hi
  have hlen : ∀ sig, parseMethodDescriptor x.desc = some sig → n = sig.parameters.length := fun sig h9 => by
    rw [h9] at hpl
    exact (Option.some.inj hpl).symm
  exact k_run (va_runU (Ts := TB) (C := q.1) (As := As) (rest := rest) ⟨hx, hb, hml, hown, hT⟩ hM ⟨⟨rfl, rfl, hR.1, hR.2, tb_pay hT hcode, List.mem_cons_self⟩, hT _ hcode, hT _ hini, hne, hlen, hT _ hl, hT _ hsm, by rw [← hyx]; exact va_Decl.of (hT _ hin) (hT _ hcode), hT _ hsl, hT _ hin⟩ ⟨PcG.blind, hrec, k_pre X I⟩ rfl hn hls hst (lv_room hroom) hdg hf) I hz kk
theorem k_S (X : Cx g p s m args meth c cc nL own) (I : Iv g s n0 z0 h H locs cells slots) {y : MethodName} {bytes : ByteArray} {maxL fr lo idx n : Nat} {ret : Option FieldType} {As : List Value}
    (hM : CM l g y bytes maxL ret fr lo mc ms As h v h1) (hz : h1.1 = h.1 + mc ∧ h1.2.1 = h.2.1 + ms) (V : SK own idx y n) (hcode : Cond.code y bytes maxL ret ∈ TB) (hR : fr + 1 ≤ R.frames ∧ 8 + (maxL + 11) + lo ≤ R.locals) (hf : cells + mc ≤ R.cells ∧ slots + ms ≤ R.slots)
    (hn : As.length = n) (hls : ls.size = nL) (hst : st0 = As.reverse ++ rest) (hroom : (rest.map fun v => v.category).sum ≤ 8) (hdg : decode cc pc = .ok (.invokestatic idx, 3))
    (kk : ∀ (H : Heap) (locs : List Loc), Iv g s n0 z0 h1 H locs (cells + mc) (slots + ms) → W p l e R s m args below meth c H locs (cells + mc) (slots + ms) Q (F0 m (pc + 3) ls ((v.map (vG g)).toList ++ rest))) : W p l e R s m args below meth c H locs cells slots Q (F0 m pc ls st0) := by
  obtain ⟨hl, hstt, hini, hne, hpl⟩ := V
  have X' := X
  obtain ⟨hx, hb, hml, hown, hT, hSF, -⟩ := X'
  have hlen : ∀ sig, parseMethodDescriptor y.desc = some sig → n = sig.parameters.length := fun sig h9 => by
    rw [h9] at hpl
    exact (Option.some.inj hpl).symm
  exact k_run (va_runS (Ts := TB) (As := As) (rest := rest) ⟨hx, hb, hml, hown, hT⟩ hM ⟨⟨rfl, rfl, hR.1, hR.2, tb_pay hT hcode, List.mem_cons_self, hT _ hcode, hT _ hini, hne, hlen, hT _ hl⟩, hT _ hstt⟩ ⟨PcG.blind, k_pre X I⟩ rfl hn hls hst (lv_room hroom) hdg hf) I hz kk
/-! returns -/
theorem k_end (I : Iv g s n0 z0 h H locs cells slots) : ∀ t : State, t.heap = H → s.WarmedH t.vm → QG g v h args s (.returned (v.map (vG g))) t := fun t ht _ => ⟨⟨rfl, by rw [ht]; exact I.1⟩, I.2.1.F ht⟩
theorem k_ri (X : Cx g p s m args meth c cc nL own) (I : Iv g s n0 z0 h H locs cells slots) (hr : meth.sig.returnType = some .int) {x : Int32} (hdg : decode cc pc = .ok (.ireturn, 1)) : W p l e R s m args below meth c H locs cells slots (MQ below (QG g (some (.int x)) h) args s cells slots (AG g)) (F0 m pc ls [.int x]) :=
  W.iret (v := x) X.1 X.2.1 hr (k_end (v := some (.int x)) I) I.2.1.2.2 hdg X.2.2.2.2.2.2
theorem k_rl (X : Cx g p s m args meth c cc nL own) (I : Iv g s n0 z0 h H locs cells slots) (hr : meth.sig.returnType = some .long) {x : Int64} (hdg : decode cc pc = .ok (.lreturn, 1)) : W p l e R s m args below meth c H locs cells slots (MQ below (QG g (some (.long x)) h) args s cells slots (AG g)) (F0 m pc ls [.long x]) :=
  W.lret (v := x) X.1 X.2.1 hr (k_end (v := some (.long x)) I) I.2.1.2.2 hdg X.2.2.2.2.2.2
theorem k_rz (X : Cx g p s m args meth c cc nL own) (I : Iv g s n0 z0 h H locs cells slots) (hr : meth.sig.returnType = some .boolean) {x : Int32} (hx : x = 0 ∨ x = 1) (hdg : decode cc pc = .ok (.ireturn, 1)) : W p l e R s m args below meth c H locs cells slots (MQ below (QG g (some (.int x)) h) args s cells slots (AG g)) (F0 m pc ls [.int x]) :=
  W.zret (v := x) (ty := .boolean) X.1 X.2.1 hr (by rcases hx with rfl | rfl <;> rfl) (k_end (v := some (.int x)) I) I.2.1.2.2 hdg X.2.2.2.2.2.2
theorem k_rv (X : Cx g p s m args meth c cc nL own) (I : Iv g s n0 z0 h H locs cells slots) (hr : meth.sig.returnType = none) (hdg : decode cc pc = .ok (.return_, 1)) : W p l e R s m args below meth c H locs cells slots (MQ below (QG g none h) args s cells slots (AG g)) (F0 m pc ls []) :=
  W.vret X.1 X.2.1 hr (k_end (v := none) I) I.2.1.2.2 hdg X.2.2.2.2.2.2
end CALLS
/-! a method's body: from the entry's frame -/
theorem k_body {l : Launch} {g : GG} {y : MethodName} {bytes : ByteArray} {maxL fr lo mc ms : Nat} {ret : Option FieldType} {vals : List Value} {h : AH} {v : Option Value} {h1 : AH} (hy : plainName y.cls = true) (hlen : (lg_sl vals).length ≤ maxL)
    (body : ∀ (p : Program) (e : Env) (s : State) (m : MethodId) (below : List Frame) (meth : Method) (c : Code) (R : Room) (ls : Array Slot), R.frames = fr ∧ R.locals = lo ∧ R.cells = mc ∧ R.slots = ms → meth.sig.returnType = ret → Cx g p s m vals.toArray meth c bytes maxL y.cls → Iv g s h.1 h.2.1 h s.heap [] 0 0 → lv_has ls maxL (lv_args 0 vals) →
      W p l e R s m vals.toArray below meth c s.heap [] 0 0 (MQ below (QG g v h1) vals.toArray s mc ms (AG g)) (F0 m 0 ls [])) : CM l g y bytes maxL ret fr lo mc ms vals h v h1 := by
  refine Met.ofW (cc := bytes) (maxL := maxL) (ret := ret) hy rfl ?_
  intro p e s m args below meth c s₁ B hml hv
  obtain ⟨rfl, hP, hSF⟩ := hv
  have hts := atoms_spec (ws := Cond.code y bytes maxL ret :: TB) B.pre
  have hl := lv_entry vals (n := maxL) hlen
  rw [lg_entry_eq]
  exact body p e s m below meth c _ _ ⟨rfl, rfl, rfl, rfl⟩ B.returns ⟨B.exec, B.bytes, hml, findClass_of_methodNamed B.named, fun w hw => hts w (List.mem_cons_of_mem _ hw), hSF, B.notSynchronized⟩ ⟨hP, va_S.rf, hP.2, by omega, by omega⟩ hl
