/-! String constants, statics, calls on Strings; a static call of a nest mate's private method; an abstract method's call. -/
def sStr (a : Nat) : Option Nat := if 2000000 ≤ a ∧ a < 2000007 then some (a - 2000000) else none
def rT (ty : FieldType) (x : Int32) (h : AH) : Option (Int32 × AH) := if narrow ty (.int x) = .int x then some (x, h) else none
theorem rT_spec {ty : FieldType} {x : Int32} {h : AH} {res : Int32 × AH} (hf : rT ty x h = some res) : narrow ty (.int x) = .int x ∧ res = (x, h) := by
  unfold rT at hf
  split at hf
  · exact ⟨by assumption, (Option.some.inj hf).symm⟩
  · cases hf
theorem sStr_spec {a i : Nat} (h : sStr a = some i) : i < 7 ∧ a = 2000000 + i := by
  unfold sStr at h
  split at h
  · have := Option.some.inj h
    omega
  · cases h
/-- the words of a call on a String -/
def TK (own : String) (idx : Nat) (y : MethodName) (n : Nat) : Prop := Cond.methodLink own idx y ∈ TB ∧ Cond.instanceMethod y ∈ TB ∧ Cond.initialized y.cls ∈ TB ∧ (y.cls ≠ "java/lang/invoke/MethodHandle" ∧ y.cls ≠ "java/lang/invoke/VarHandle") ∧ (parseMethodDescriptor y.desc).map (fun d => d.parameters.length) = some n ∧ Cond.selects "java/lang/String" y y ∈ TB
section STR
variable {g : GG} {p : Program} {l : Launch} {e : Env} {R : Room} {s : State} {m : MethodId} {args : Array Value} {below : List Frame} {meth : Method} {c : Code} {H : Heap} {locs : List Loc} {cells slots : Nat} {Q : State → Prop}
variable {cc : ByteArray} {nL : Nat} {own : String} {pc : Nat} {ls : Array Slot} {rest st0 : List Value} {n0 z0 : Nat} {h h1 : AH}
theorem rf_ge {k : Nat} (hk : ¬ k < 1000000) : rfG g k = g.2.2.1 k := if_neg hk
theorem r_ldcS (X : Cx g p s m args meth c cc nL own) {idx i : Nat} {tx : String} (hq : (own, idx, tx, i) ∈ strR) (hdg : decode cc pc = .ok (.ldc idx, 2))
    (kk : W p l e R s m args below meth c H locs cells slots Q (F0 m (pc + 2) ls (.ref (rfG g (2000000 + i)) :: rest))) : W p l e R s m args below meth c H locs cells slots Q (F0 m pc ls rest) := by
  rw [rf_ge (by omega)] at kk
  exact va_ldcS X.1 X.2.1 X.2.2.2.1 (X.2.2.2.2.2.1.2.2.2.2.1 _ hq) hdg kk
theorem r_ldcwS (X : Cx g p s m args meth c cc nL own) {idx i : Nat} {tx : String} (hq : (own, idx, tx, i) ∈ strR) (hdg : decode cc pc = .ok (.ldc_w idx, 3))
    (kk : W p l e R s m args below meth c H locs cells slots Q (F0 m (pc + 3) ls (.ref (rfG g (2000000 + i)) :: rest))) : W p l e R s m args below meth c H locs cells slots Q (F0 m pc ls rest) := by
  rw [rf_ge (by omega)] at kk
  have hZ := X.2.2.2.2.2.1.2.2.2.2.1 _ hq
  intro T hT Xs
  obtain ⟨t, a1, b1⟩ := kk T hT Xs
  exact ⟨t, Xs.ldcStringW X.1 (own := own) (text := tx) (index := idx) (a := g.2.2.1 (2000000 + i)) X.2.2.2.1 hZ.1 hZ.2 (g := F0 m pc ls rest) rfl (by rw [X.2.1]; exact hdg) t a1, b1⟩
theorem r_gSv (X : Cx g p s m args meth c cc nL own) (I : Iv g s n0 z0 h H locs cells slots) {idx o i : Nat} (e1 : sStr o = some i) (hl : Cond.fieldLink own idx "java/lang/String" "value" "[B" ∈ TB) (hdg : decode cc pc = .ok (.getfield idx, 3))
    (kk : W p l e R s m args below meth c H locs cells slots Q (F0 m (pc + 3) ls (.ref (rfG g (3000000 + i)) :: rest))) : W p l e R s m args below meth c H locs cells slots Q (F0 m pc ls (.ref (rfG g o) :: rest)) := by
  obtain ⟨hi, rfl⟩ := sStr_spec e1
  rw [rf_ge (by omega)] at kk ⊢
  exact vk_getf X.1 X.2.1 (X.2.2.2.2.2.1.2.2.2.1.1 i hi).2.2.1 I.2.1 X.2.2.2.1 (X.2.2.2.2.1 _ hl) (fun _ z => z) hdg kk
theorem r_gSc (X : Cx g p s m args meth c cc nL own) (I : Iv g s n0 z0 h H locs cells slots) {idx o i : Nat} (e1 : sStr o = some i) (hl : Cond.fieldLink own idx "java/lang/String" "coder" "B" ∈ TB) (hdg : decode cc pc = .ok (.getfield idx, 3))
    (kk : W p l e R s m args below meth c H locs cells slots Q (F0 m (pc + 3) ls (.int 0 :: rest))) : W p l e R s m args below meth c H locs cells slots Q (F0 m pc ls (.ref (rfG g o) :: rest)) := by
  obtain ⟨hi, rfl⟩ := sStr_spec e1
  rw [rf_ge (by omega)]
  exact vk_getf X.1 X.2.1 (X.2.2.2.2.2.1.2.2.2.1.1 i hi).2.1 I.2.1 X.2.2.2.1 (X.2.2.2.2.1 _ hl) (fun _ z => z) hdg kk
theorem r_sC (X : Cx g p s m args meth c cc nL own) (I : Iv g s n0 z0 h H locs cells slots) {idx : Nat} (hl : Cond.fieldLink own idx "java/lang/String" "COMPACT_STRINGS" "Z" ∈ TB) (hdg : decode cc pc = .ok (.getstatic idx, 3))
    (kk : W p l e R s m args below meth c H locs cells slots Q (F0 m (pc + 3) ls (.int 1 :: rest))) : W p l e R s m args below meth c H locs cells slots Q (F0 m pc ls rest) :=
  va_gets X.1 X.2.1 X.2.2.2.2.2.1.2.2.2.2.2.1 I.2.1 X.2.2.2.1 (X.2.2.2.2.1 _ hl) (fun _ z => z) hdg kk
theorem r_sA (X : Cx g p s m args meth c cc nL own) (I : Iv g s n0 z0 h H locs cells slots) {idx j : Nat} {nm : String} {xs : List Int32} (hq : sarrT[j]? = some (nm, xs)) (hl : Cond.fieldLink own idx "TrapCorner$CityReader" nm "[I" ∈ TB) (hdg : decode cc pc = .ok (.getstatic idx, 3))
    (kk : W p l e R s m args below meth c H locs cells slots Q (F0 m (pc + 3) ls (.ref (rfG g (1000000 + j)) :: rest))) : W p l e R s m args below meth c H locs cells slots Q (F0 m pc ls rest) := by
  rw [rf_ge (by omega)] at kk
  exact va_gets X.1 X.2.1 (X.2.2.2.2.2.1.2.1 j _ hq).1 I.2.1 X.2.2.2.1 (X.2.2.2.2.1 _ hl) (fun _ z => z) hdg kk
theorem k_rt (X : Cx g p s m args meth c cc nL own) (I : Iv g s n0 z0 h H locs cells slots) {ty : FieldType} (hr : meth.sig.returnType = some ty) {x : Int32} (hx : narrow ty (.int x) = .int x) (hdg : decode cc pc = .ok (.ireturn, 1)) : W p l e R s m args below meth c H locs cells slots (MQ below (QG g (some (.int x)) h) args s cells slots (AG g)) (F0 m pc ls [.int x]) :=
  W.zret (v := x) (ty := ty) X.1 X.2.1 hr hx (k_end (v := some (.int x)) I) I.2.1.2.2 hdg X.2.2.2.2.2.2
theorem k_Ti (X : Cx g p s m args meth c cc nL own) (I : Iv g s n0 z0 h H locs cells slots) {y : MethodName} {bytes : ByteArray} {maxL fr lo idx o n i : Nat} {ret : Option FieldType} {As : List Value} {r : Int32}
    (hM : CM l g y bytes maxL ret fr lo 0 0 (.ref (rfG g o) :: As) h (some (.int r)) h1) (hz : h1.1 = h.1 ∧ h1.2.1 = h.2.1) (hc : sStr o = some i) (V : TK own idx y n) (hcode : Cond.code y bytes maxL ret ∈ TB) (hR : fr + 1 ≤ R.frames ∧ 8 + (maxL + 11) + lo ≤ R.locals) (hf : cells ≤ R.cells ∧ slots ≤ R.slots)
    (hn : As.length = n) (hls : ls.size = nL) (hst : st0 = As.reverse ++ .ref (rfG g o) :: rest) (hroom : (rest.map fun v => v.category).sum ≤ 8) (hdg : decode cc pc = .ok (.invokevirtual idx, 3))
    (kk : ∀ (H : Heap) (locs : List Loc), Iv g s n0 z0 h1 H locs cells slots → W p l e R s m args below meth c H locs cells slots Q (F0 m (pc + 3) ls (.int r :: rest))) : W p l e R s m args below meth c H locs cells slots Q (F0 m pc ls st0) := by
  obtain ⟨hi, rfl⟩ := sStr_spec hc
  obtain ⟨hl, hin, hini, hne, hpl, hsl⟩ := V
  have X' := X
  obtain ⟨hx, hb, hml, hown, hT, hSF, -⟩ := X'
  have hrec : ∃ cellB : Cell, H[rfG g (2000000 + i)]? = some cellB ∧ cellB.vm.isStatics = false ∧ s.vm.findClass "java/lang/String" = some cellB.cls := by
    rw [rf_ge (by omega)]
    exact vk_recv (adK := fun i => g.2.2.1 (2000000 + i)) (i := i) hSF.2.2.2.1 hi I.2.1
  have hlen : ∀ sig, parseMethodDescriptor y.desc = some sig → n = sig.parameters.length := fun sig h9 => by
    rw [h9] at hpl
    exact (Option.some.inj hpl).symm
  exact k_run (mc := 0) (ms := 0) (v := some (.int r)) (va_runV (Ts := TB) (C := "java/lang/String") (As := As) (rest := rest) ⟨hx, hb, hml, hown, hT⟩ hM ⟨⟨rfl, rfl, hR.1, hR.2, tb_pay hT hcode, List.mem_cons_self, hT _ hcode, hT _ hini, hne, hlen, hT _ hl⟩, hT _ hin, hT _ hsl⟩ ⟨PcG.blind, hrec, k_pre X I⟩ rfl hn hls hst (lv_room hroom) hdg hf) I hz kk
theorem k_SNi (X : Cx g p s m args meth c cc nL own) (I : Iv g s n0 z0 h H locs cells slots) {y : MethodName} {bytes : ByteArray} {maxL fr lo idx n : Nat} {ret : Option FieldType} {As : List Value} {r : Int32}
    (hM : CM l g y bytes maxL ret fr lo 0 0 As h (some (.int r)) h1) (hz : h1.1 = h.1 ∧ h1.2.1 = h.2.1) (hl : (own, idx, y) ∈ softM) (hstt : Cond.static y ∈ TB) (hini : Cond.initialized y.cls ∈ TB) (hne : y.cls ≠ "java/lang/invoke/MethodHandle" ∧ y.cls ≠ "java/lang/invoke/VarHandle") (hpl : (parseMethodDescriptor y.desc).map (fun d => d.parameters.length) = some n) (hcode : Cond.code y bytes maxL ret ∈ TB) (hR : fr + 1 ≤ R.frames ∧ 8 + (maxL + 11) + lo ≤ R.locals) (hf : cells ≤ R.cells ∧ slots ≤ R.slots)
    (hn : As.length = n) (hls : ls.size = nL) (hst : st0 = As.reverse ++ rest) (hroom : (rest.map fun v => v.category).sum ≤ 8) (hdg : decode cc pc = .ok (.invokestatic idx, 3))
    (kk : ∀ (H : Heap) (locs : List Loc), Iv g s n0 z0 h1 H locs cells slots → W p l e R s m args below meth c H locs cells slots Q (F0 m (pc + 3) ls (.int r :: rest))) : W p l e R s m args below meth c H locs cells slots Q (F0 m pc ls st0) := by
  have X' := X
  obtain ⟨hx, hb, hml, hown, hT, hSF, -⟩ := X'
  have hlen : ∀ sig, parseMethodDescriptor y.desc = some sig → n = sig.parameters.length := fun sig h9 => by
    rw [h9] at hpl
    exact (Option.some.inj hpl).symm
  exact k_run (mc := 0) (ms := 0) (v := some (.int r)) (va_runSN (Ts := TB) (host := "TrapCorner") (As := As) (rest := rest) ⟨hx, hb, hml, hown, hT⟩ hM ⟨⟨⟨rfl, rfl, hR.1, hR.2, tb_pay hT hcode, List.mem_cons_self⟩, hT _ hcode, hT _ hini, hne, hlen, va_Nw.use rfl (hSF.2.2.1.2.1 _ hl)⟩, hT _ hstt, trivial⟩ ⟨PcG.blind, k_pre X I⟩ rfl hn hls hst (lv_room hroom) hdg hf) I hz kk
/-- an abstract method: the receiver's class chooses y -/
theorem k_Oi (X : Cx g p s m args meth c cc nL own) (I : Iv g s n0 z0 h H locs cells slots) {x y : MethodName} {bytes : ByteArray} {maxL fr lo idx o n ci : Nat} {ret : Option FieldType} {As : List Value} {r : Int32} {q : vw_C}
    (hM : CM l g y bytes maxL ret fr lo 0 0 (.ref (rfG g o) :: As) h (some (.int r)) h1) (hz : h1.1 = h.1 ∧ h1.2.1 = h.2.1) (hc : isC [ci] h o = some ()) (hd : x ∈ softD) (hw : Cond.methodLink own idx x ∈ TB ∧ Cond.sameMethod x.cls x.cls x.name x.desc ∈ TB ∧ Cond.instanceMethod y ∈ TB ∧ Cond.initialized y.cls ∈ TB ∧ Cond.selects q.1 x y ∈ TB) (hq : classes[ci]? = some q) (hne : x.cls ≠ "java/lang/invoke/MethodHandle" ∧ x.cls ≠ "java/lang/invoke/VarHandle") (hpl : (parseMethodDescriptor x.desc).map (fun d => d.parameters.length) = some n) (hcode : Cond.code y bytes maxL ret ∈ TB) (hR : fr + 1 ≤ R.frames ∧ 8 + (maxL + 11) + lo ≤ R.locals) (hf : cells ≤ R.cells ∧ slots ≤ R.slots)
    (hn : As.length = n) (hls : ls.size = nL) (hst : st0 = As.reverse ++ .ref (rfG g o) :: rest) (hroom : (rest.map fun v => v.category).sum ≤ 8) (hdg : decode cc pc = .ok (.invokevirtual idx, 3))
    (kk : ∀ (H : Heap) (locs : List Loc), Iv g s n0 z0 h1 H locs cells slots → W p l e R s m args below meth c H locs cells slots Q (F0 m (pc + 3) ls (.int r :: rest))) : W p l e R s m args below meth c H locs cells slots Q (F0 m pc ls st0) := by
  obtain ⟨ci', fs, he, hci⟩ := isC_spec hc
  have hci := List.mem_singleton.mp hci
  subst hci
  obtain ⟨hl, hsm, hin, hini, hsl⟩ := hw
  have X' := X
  obtain ⟨hx, hb, hml, hown, hT, hSF, -⟩ := X'
  obtain ⟨i, hi⟩ := wv_get I.1 he
  have hrec : ∃ cellB : Cell, H[rfG g o]? = some cellB ∧ cellB.vm.isStatics = false ∧ s.vm.findClass q.1 = some cellB.cls := by
    rw [rf_lt (I.1.1 o _ he).1]
    exact va_recv hSF.1 (wv_P I.1) hq hi
  have hlen : ∀ sig, parseMethodDescriptor x.desc = some sig → n = sig.parameters.length := fun sig h9 => by
    rw [h9] at hpl
    exact (Option.some.inj hpl).symm
  exact k_run (mc := 0) (ms := 0) (v := some (.int r)) (va_runU (Ts := TB) (C := q.1) (owner := x.cls) (As := As) (rest := rest) ⟨hx, hb, hml, hown, hT⟩ hM ⟨⟨rfl, rfl, hR.1, hR.2, tb_pay hT hcode, List.mem_cons_self⟩, hT _ hcode, hT _ hini, hne, hlen, hT _ hl, hT _ hsm, va_Decl.abs (hSF.2.2.1.1 x hd), hT _ hsl, hT _ hin⟩ ⟨PcG.blind, hrec, k_pre X I⟩ rfl hn hls hst (lv_room hroom) hdg hf) I hz kk
end STR
theorem ne_toInt2 {x : Int32} {k : Int} (h : ¬ x = Int32.ofInt k) : ¬ k = x.toInt := fun e => h (by rw [e]; exact (Int32.ofInt_toInt x).symm)
