/-! The law itself. -/
def sx (xs : Nat → Int32) (L : Nat) (i : Int32) : Option Int32 := if i < 0 ∨ L ≤ i.toNatClampNeg then none else some (xs i.toNatClampNeg)
theorem lt2 {a b N Z c d : Nat} (h : a ≤ c ∧ b ≤ d) (hr : c ≤ N ∧ d ≤ Z) : a ≤ N ∧ b ≤ Z := ⟨Nat.le_trans h.1 hr.1, Nat.le_trans h.2 hr.2⟩
section LAWROWS
variable {g : GG} {p : Program} {l : Launch} {e : Env} {R : Room} {s : State} {m : MethodId} {args : Array Value} {below : List Frame} {meth : Method} {c : Code} {H : Heap} {locs : List Loc} {cells slots : Nat} {Q : State → Prop}
variable {cc : ByteArray} {nL : Nat} {own : String} {pc : Nat} {ls : Array Slot} {rest st0 : List Value} {n0 z0 : Nat} {h h1 : AH} {b L : Nat} {xs : Nat → Int32}
theorem r_sx (X : Cx g p s m args meth c cc nL own) (I : Iv g s n0 z0 h H locs cells slots) (hS : va_X b L xs s s.heap ∧ b < s.heap.size ∧ ¬ AG g b) {i v : Int32} (e1 : sx xs L i = some v) (hdg : decode cc pc = .ok (.iaload, 1))
    (kk : W p l e R s m args below meth c H locs cells slots Q (F0 m (pc + 1) ls (.int v :: rest))) : W p l e R s m args below meth c H locs cells slots Q (F0 m pc ls (.int i :: .ref b :: rest)) := by
  unfold sx at e1
  split at e1
  · cases e1
  · rename_i hc
    cases e1
    exact va_sld X.1 X.2.1 hS.1 hS.2.1 hS.2.2 I.2.1 hc hdg kk
theorem r_sl (X : Cx g p s m args meth c cc nL own) (I : Iv g s n0 z0 h H locs cells slots) (hS : va_X b L xs s s.heap ∧ b < s.heap.size ∧ ¬ AG g b) (hdg : decode cc pc = .ok (.arraylength, 1))
    (kk : W p l e R s m args below meth c H locs cells slots Q (F0 m (pc + 1) ls (.int (Int32.ofNat L) :: rest))) : W p l e R s m args below meth c H locs cells slots Q (F0 m pc ls (.ref b :: rest)) :=
  va_slen X.1 X.2.1 hS.1 hS.2.1 hS.2.2 I.2.1 hdg kk
theorem k_LP (hl9 : l.stackTraces = false) (X : Cx g p s m args meth c cc nL own) (hX : SX g s s.heap) (I : Iv g s n0 z0 h H locs cells slots) {idx o0 o3 : Nat} {x1 x2 v : Int32} (e1 : f_L_person o0 x1 x2 o3 h = some (v, h1)) (hz : h.1 ≤ h1.1 ∧ h.2.1 ≤ h1.2.1) {N9 Z9 : Nat} (hA : R.cells + n0 = N9 ∧ R.slots + z0 = Z9) (hb : h1.1 ≤ N9 ∧ h1.2.1 ≤ Z9)
    (V : SK own idx yL_person 4) (hR : 9 + 1 ≤ R.frames ∧ 8 + (5 + 11) + 600 ≤ R.locals) (hls : ls.size = nL) (hst : st0 = [.ref (rfG g o3), .int x2, .int x1, .ref (rfG g o0)] ++ rest) (hroom : (rest.map fun v => v.category).sum ≤ 8) (hdg : decode cc pc = .ok (.invokestatic idx, 3))
    (kk : ∀ (H : Heap) (locs : List Loc), Iv g s n0 z0 h1 H locs (cells + (h1.1 - h.1)) (slots + (h1.2.1 - h.2.1)) → W p l e R s m args below meth c H locs (cells + (h1.1 - h.1)) (slots + (h1.2.1 - h.2.1)) Q (F0 m (pc + 3) ls (.int v :: rest))) : W p l e R s m args below meth c H locs cells slots Q (F0 m pc ls st0) := by
  obtain ⟨hl, hstt, hini, hne, hpl⟩ := V
  have X' := X
  obtain ⟨hx, hb9, hml, hown, hT, hSF, -⟩ := X'
  have hlen : ∀ sig, parseMethodDescriptor yL_person.desc = some sig → 4 = sig.parameters.length := fun sig h9 => by
    rw [h9] at hpl
    exact (Option.some.inj hpl).symm
  exact k_run (vx_runSW (Ts := TB) (As := [.ref (rfG g o0), .int x1, .int x2, .ref (rfG g o3)]) (rest := rest) (hh := LH) ⟨hx, hb9, hml, hown, hT⟩ (c_L_person l hl9 g o0 x1 x2 o3 e1) ⟨⟨rfl, rfl, hR.1, hR.2, tb_pay hT lp_code, List.mem_cons_self⟩, hT _ lp_code, hT _ hini, hne, hlen, hT _ hl, hT _ hstt⟩ ⟨PcX.blind, k_preX hX I⟩ rfl rfl hls hst (lv_room hroom) hdg (I.le2 hA hz hb)) I ⟨by show h1.1 = h.1 + (h1.1 - h.1); omega, by show h1.2.1 = h.2.1 + (h1.2.1 - h.2.1); omega⟩ kk
end LAWROWS
/-! THE CLAIM OUT OF ONE WALK OF THE LAW'S BODY. Your part is whole_start (and what it stands on); all else here is the same for every law, but numbers. -/
def R_law : String := "TrapCornerLaw"
def lw_P (b : Addr) (xs : List Int32) (args : Array Value) (s : State) : Prop := args = #[.ref b] ∧ s.IntsAt b xs ∧ xs.length ≤ 3072 ∧ (Jvm.Cond.and given_1 narrow_1).before args s = true
def lw_Q (_ : Array Value) (s : State) (o : Outcome) (t : State) : Prop := o = .returned (some (.int 1)) ∧ Framed s o t [] 601024 7293033
def lw_Z (below : List Frame) (a : Array Value) (s : State) : State → Prop := fun t => ∃ o, t.status = .running ∧ Ended t below o ∧ lw_Q a s o t
/-- the law's own end, with 1 on the stack, nothing written that was there before, its room as the claim has it -/
theorem lw_ret {p : Program} {l : Launch} {e : Env} {s : State} {m : MethodId} {below : List Frame} {meth : Method} {c : Code} {b : Nat} (hx : p.tables.exec = Jvm.exec) (hb : c.code = code) (hr : meth.sig.returnType = ret) (hlocks : meth.locks = false) {pc : Nat} {H : Heap} {ls : Array Slot} (hdg : decode code pc = .ok (.ireturn, 1)) : W p l e room_1 s m #[Value.ref b] below meth c H [] 601024 7293033 (lw_Z below #[Value.ref b] s) (F0 m pc ls [.int 1]) := by
  intro T hT X
  obtain ⟨fs, hret, hrun, hended, hW, hframe⟩ := X.leave (v := some (.int 1)) (hlocks := hlocks) (fun h => by rw [hr] at h; cases h)
  have hmeth' : T.vm.method? m = some meth := X.method'
  refine ⟨T.setFrames fs, ?_, .returned (some (.int 1)), hrun, hended, rfl, ⟨_, rfl⟩, hW, hframe⟩
  jvm_step X.here [X.here.top, hx, hb, hdg, hmeth', hr, ret, narrow_b1]
  (try refine ⟨rfl, ?_⟩); (try refine ⟨rfl, ?_⟩)
  first | (intro acts; rw [hret _ acts rfl rfl rfl]) | rw [hret _ _ rfl rfl rfl]
  exact Steps.refl _
/-- what holds at the law's entry: the machine, the code, the tables' words (any of lw_tbl by 'hts w (by decide +kernel)'), the script of L ints xs at the cell b, what the Statement gives of the start (any of its parts by flat_of_before) -/
def lw_At (p : Program) (s : State) (m : MethodId) (meth : Method) (c : Code) (b L : Nat) (xs : Nat → Int32) : Prop :=
  p.tables.exec = Jvm.exec ∧ c.code = code ∧ meth.sig.returnType = ret ∧ c.maxLocals = 7 ∧ s.vm.findClass R_law = some m.cls ∧ (∀ w ∈ lw_tbl, w.before #[Value.ref b] s = true) ∧ va_X b L xs s s.heap ∧ b < s.heap.size ∧ meth.locks = false ∧ (Jvm.Cond.and given_1 narrow_1).before #[Value.ref b] s = true
