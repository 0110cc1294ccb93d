/-! TrapCornerLaw.person: catches what person throws. -/
theorem dL_person_0 : decode cL_person 0 = .ok (.aload_n 3, 1) := by decide +kernel
theorem dL_person_1 : decode cL_person 1 = .ok (.iconst 0, 1) := by decide +kernel
theorem dL_person_2 : decode cL_person 2 = .ok (.aload_n 0, 1) := by decide +kernel
theorem dL_person_3 : decode cL_person 3 = .ok (.iload_n 1, 1) := by decide +kernel
theorem dL_person_4 : decode cL_person 4 = .ok (.iload_n 2, 1) := by decide +kernel
theorem dL_person_5 : decode cL_person 5 = .ok (.invokevirtual 7, 3) := by decide +kernel
theorem dL_person_8 : decode cL_person 8 = .ok (.i2l, 1) := by decide +kernel
theorem dL_person_9 : decode cL_person 9 = .ok (.lastore, 1) := by decide +kernel
theorem dL_person_10 : decode cL_person 10 = .ok (.goto 7, 3) := by decide +kernel
theorem dL_person_13 : decode cL_person 13 = .ok (.astore 4, 2) := by decide +kernel
theorem dL_person_15 : decode cL_person 15 = .ok (.iconst 1, 1) := by decide +kernel
theorem dL_person_16 : decode cL_person 16 = .ok (.ireturn, 1) := by decide +kernel
theorem dL_person_17 : decode cL_person 17 = .ok (.iconst 0, 1) := by decide +kernel
theorem dL_person_18 : decode cL_person 18 = .ok (.ireturn, 1) := by decide +kernel
theorem vk_TrapCornerLaw_7 : VK "TrapCornerLaw" 7 [11] yX11_person 2 := ⟨tw_1210, tw_1211, tw_1, ⟨by decide, by decide⟩, by decide +kernel, fun ci hci => by
  have hci := List.mem_singleton.mp hci
  subst hci
  exact ⟨_, rfl, tw_1212⟩⟩
def LH : List (Nat × Nat × Nat × Nat) := [(0, 10, 13, 13)]
theorem lp_code : Cond.codeWith yL_person cL_person 5 (some .int) LH ∈ TB := tw_1208
/-- a body with handlers -/
theorem met_ofWH {l : Launch} {y : MethodName} {ws ws' : List Cond} {rm : Room} {Pc : Array Value → State → Prop} {Qc : Array Value → State → Outcome → State → Prop} {mc ms : Nat} {free : Addr → Prop} {cc : ByteArray} {maxL : Nat} {ret : Option FieldType} {hh : List (Nat × Nat × Nat × Nat)}
    (hy : plainName y.cls = true) (hw : ws = Cond.codeWith y cc maxL ret hh :: ws')
    (body : ∀ p e s m args below meth c s₁, BodyLoose p l y (headSpec ws rm) cc maxL ret e s m args below meth c s₁ → c.maxLocals = maxL → Pc args s →
      W p l e (headSpec ws rm).room s m args below meth c s.heap [] 0 0 (MQ below Qc args s mc ms free) (entryFrame m args maxL)) : Met l y ws rm Pc Qc mc ms free := by
  refine MetFree.of_bodyS (code := cc) (maxLocals := maxL) (ret := ret) hy ?_ ?_
  · intro args s m h hn
    obtain ⟨m9, meth, c, hn9, h1, h2, h3, h4, -, h5, h6, -⟩ := Cond.codeWith_spec (atoms_spec (ws := ws) h _ (by rw [hw]; exact List.mem_cons_self))
    cases hn.symm.trans hn9
    exact ⟨meth, c, h1, h2, h3, h4, h5, h6⟩
  · intro p e s m args below meth c s₁ B hml hP _
    have hh0 : s₁.heap = s.heap := by rw [B.state]; rfl
    obtain ⟨t, a1, o, b1, b2, b3⟩ := body p e s m args below meth c s₁ B hml hP s₁ hh0 (Stand.of_body B)
    exact ⟨t, o, a1, b1, b2, b3⟩
def f_L_person (o0 : Nat) (x1 x2 : Int32) (o3 : Nat) (h : AH) : Option (Int32 × AH) :=
  match f_X11_personT o0 x1 x2 h with
  | some (_, h1) => some (1, hjunk h1)
  | none => (isC [11] h o0).bind fun _ => cN (f_X11_person o0 x1 x2 h) h fun v h1 => (uJ h1 o3 0 v.toInt64).bind fun h2 => some (0, h2)
theorem uJ_sz {h h' : AH} {a : Nat} {i : Int32} {x : Int64} (e : uJ h a i x = some h') : h'.1 = h.1 ∧ h'.2.1 = h.2.1 := by
  unfold uJ at e
  split at e
  · split at e
    · cases e
      exact ⟨rfl, rfl⟩
    · cases e
  · cases e
section LP
variable {g : GG} {p : Program} {l : Launch} {e : Env} {R : Room} {s : State} {m : MethodId} {args : Array Value} {below : List Frame} {meth : Method} {c : Code} {H : Heap} {locs : List Loc} {cells slots : Nat} {Q : State → Prop}
variable {cc : ByteArray} {nL : Nat} {own : String} {pc : Nat} {ls : Array Slot} {rest st0 : List Value} {n0 z0 mc ms : Nat} {h h1 : AH}
theorem k_preX {As : List Value} (hX : SX g s s.heap) (I : Iv g s n0 z0 h H locs cells slots) : ∀ U : State, U.heap = H → s.WarmedH U.vm → PcX g As h As.toArray U := by
  intro U hU hW
  exact ⟨rfl, by rw [hU]; exact I.1, by rw [hU]; exact (hX.moved hW).kept (fun a q1 q2 => I.2.1.2.1 a q1 q2)⟩
end LP
theorem c_L_person (l : Launch) (hl9 : l.stackTraces = false) (g : GG) (o0 : Nat) (x1 x2 : Int32) (o3 : Nat) {h : AH} {res : Int32 × AH} (hf : f_L_person o0 x1 x2 o3 h = some res) :
    Met l yL_person (Cond.codeWith yL_person cL_person 5 (some .int) LH :: TB) { frames := 9, cells := res.2.1 - h.1, slots := res.2.2.1 - h.2.1, locals := 600 } (PcX g [.ref (rfG g o0), .int x1, .int x2, .ref (rfG g o3)] h) (QG g (some (.int res.1)) res.2) (res.2.1 - h.1) (res.2.2.1 - h.2.1) (AG g) := by
  refine met_ofWH (cc := cL_person) (maxL := 5) (ret := some .int) (by decide) rfl ?_
  intro p e s m args below meth c s₁ B hml hv
  obtain ⟨rfl, hP, hSX⟩ := hv
  have hts := atoms_spec (ws := Cond.codeWith yL_person cL_person 5 (some .int) LH :: TB) B.pre
  have htab := vx_table (x := yL_person) B (hts _ List.mem_cons_self)
  have hl : lv_has _ 5 [(0, Value.ref (rfG g o0)), (1, .int x1), (2, .int x2), (3, .ref (rfG g o3))] := lv_entry [Value.ref (rfG g o0), .int x1, .int x2, .ref (rfG g o3)] (n := 5) (Nat.le_of_ble_eq_true rfl)
  rw [lg_entry_eq]
  generalize (lg_sl [Value.ref (rfG g o0), .int x1, .int x2, .ref (rfG g o3)] ++ List.replicate (5 - (lg_sl [Value.ref (rfG g o0), .int x1, .int x2, .ref (rfG g o3)]).length) Slot.unset).toArray = ls at hl ⊢
  generalize hRm : (headSpec (Cond.codeWith yL_person cL_person 5 (some .int) LH :: TB) { frames := 9, cells := res.2.1 - h.1, slots := res.2.2.1 - h.2.1, locals := 600 }).room = R
  have r1 : R.frames = 9 := by rw [← hRm]; rfl
  have r2 : R.locals = 600 := by rw [← hRm]; rfl
  have r3 : R.cells = res.2.1 - h.1 := by rw [← hRm]; rfl
  have r4 : R.slots = res.2.2.1 - h.2.1 := by rw [← hRm]; rfl
  clear hRm
  have X : Cx g p s m #[Value.ref (rfG g o0), .int x1, .int x2, .ref (rfG g o3)] meth c cL_person 5 "TrapCornerLaw" := ⟨B.exec, B.bytes, hml, findClass_of_methodNamed B.named, fun w hw => hts w (List.mem_cons_of_mem _ hw), hSX.1, B.notSynchronized⟩
  have I : Iv g s h.1 h.2.1 h s.heap [] 0 0 := ⟨hP, va_S.rf, hP.2, by omega, by omega⟩
  have hx := X.1
  have hb := X.2.1
  have hr := B.returns
  refine lv_aload_n hx hb dL_person_0 rfl (lv_at hl 3 rfl) ?_
  refine lv_iconst (v := 0) hx hb dL_person_1 (by decide) ?_
  refine lv_aload_n hx hb dL_person_2 rfl (lv_at hl 0 rfl) ?_
  refine lv_iload_n hx hb dL_person_3 rfl (lv_at hl 1 rfl) ?_
  refine lv_iload_n hx hb dL_person_4 rfl (lv_at hl 2 rfl) ?_
  unfold f_L_person at hf
  split at hf
  · rename_i u h1 e1
    cases hf
    have e1' := e1
    obtain ⟨_, e0, e1'⟩ := Option.bind_eq_some_iff.mp e1'
    obtain ⟨r9, h9, e9, z9, hf9⟩ := cN_spec e1'
    have hh9 : h9 = h1 := by
      split at hf9
      · cases hf9; rfl
      · split at hf9
        · cases hf9; rfl
        · split at hf9
          · cases hf9
          · cases hf9; rfl
    subst hh9
    obtain ⟨ci, fs, he, hci⟩ := isC_spec e0
    have hci := List.mem_singleton.mp hci
    subst hci
    obtain ⟨i, hi⟩ := wv_get I.1 he
    have V : VK "TrapCornerLaw" 7 [11] yX11_person 2 := vk_TrapCornerLaw_7
    obtain ⟨hlk, hin, hini, hne, hpl, hsel⟩ := V
    have hrec : ∃ cellB : Cell, s.heap[rfG g o0]? = some cellB ∧ cellB.vm.isStatics = false ∧ s.vm.findClass "TrapCorner" = some cellB.cls := by
      rw [rf_lt (I.1.1 o0 _ he).1]
      exact va_recv (q := ("TrapCorner", TX11, 19)) hSX.1.1 (wv_P I.1) rfl hi
    have hlen : ∀ sig, parseMethodDescriptor yX11_person.desc = some sig → 2 = sig.parameters.length := fun sig q => by
      rw [q] at hpl
      exact (Option.some.inj hpl).symm
    have hT := X.2.2.2.2.1
    have hmc : (hjunk h9).1 - h.1 = 1 ∧ (hjunk h9).2.1 - h.2.1 = 6 := ⟨by show h9.1 + 1 - h.1 = 1; omega, by show h9.2.1 + 6 - h.2.1 = 6; omega⟩
    have hrun : vx_Run p l e R s m #[Value.ref (rfG g o0), .int x1, .int x2, .ref (rfG g o3)] below meth c s.heap [] 0 0 1 6 (F0 m 5 ls ([.int x2, .int x1] ++ .ref (rfG g o0) :: [.int 0, .ref (rfG g o3)])) [.int 0, .ref (rfG g o3)] (fun _ _ _ => False) (XCp g h9) (AG g) :=
      vx_runV (Ts := TB) (C := "TrapCorner") (As := [.int x1, .int x2]) (rest := [.int 0, .ref (rfG g o3)]) (n := 2) ⟨hx, hb, X.2.2.1, X.2.2.2.1, hT⟩ (c_X11_personT l hl9 g o0 x1 x2 e1) ⟨⟨rfl, rfl, by rw [r1]; decide, by rw [r2]; decide, tb_pay hT tw_1213, List.mem_cons_self, hT _ tw_1213, hT _ hini, hne, hlen, hT _ hlk⟩, hT _ hin, hT _ tw_1212⟩ ⟨PcX.blind, hrec, k_preX hSX I⟩ rfl rfl hl.1 rfl (lv_room (Nat.le_of_ble_eq_true rfl)) dL_person_5 (by
        rw [r3, r4]
        show 0 + 1 ≤ (hjunk h9).1 - h.1 ∧ 0 + 6 ≤ (hjunk h9).2.1 - h.2.1
        rw [hmc.1, hmc.2]
        exact ⟨by decide, by decide⟩)
    intro T hT9 X9
    rcases hrun T hT9 X9 with ⟨v, st₀, t, T', L, h0, X', hL, a1, a2, hq, st⟩ | ⟨q, st₀, t, T', L, E, ce, h0, X', hL, a1, a2, ⟨rfl, hp, hz1, hk⟩, hce, hcv, hcl, st⟩
    · exact absurd hq id
    · rw [h0] at hz1 hk
      have I2 : Iv g s h.1 h.2.1 (hjunk h9) T'.heap ([] ++ L) (0 + 1) (0 + 6) := ⟨by rw [a1]; exact hp, ⟨by rw [a1]; exact hz1, fun q q1 q2 => by rw [a1]; exact hk q q1 q2, fun q hq => hL q hq⟩, hP.2, by show 0 + 1 + h.1 = h9.1 + 1; omega, by show 0 + 6 + h.2.1 = h9.2.1 + 6; omega⟩
      have kk : W p l e R s m #[Value.ref (rfG g o0), .int x1, .int x2, .ref (rfG g o3)] below meth c T'.heap ([] ++ L) (0 + 1) (0 + 6) (MQ below (QG g (some (.int 1)) (hjunk h9)) #[Value.ref (rfG g o0), .int x1, .int x2, .ref (rfG g o3)] s ((hjunk h9).1 - h.1) ((hjunk h9).2.1 - h.2.1) (AG g)) (F0 m 13 ls [.ref q]) := by
        refine lv_astore hx hb dL_person_13 hl (by decide) rfl (fun ls hl => ?_)
        refine lv_iconst (v := 1) hx hb dL_person_15 (by decide) ?_
        exact k_fin ⟨hmc.1.symm, hmc.2.symm⟩ (k_ri X I2 hr dL_person_16)
      obtain ⟨t2, b1, b2⟩ := vx_catch (pc := 5) (own := "TrapCornerLaw") (name := "java/util/NoSuchElementException") (E := "java/util/NoSuchElementException") (ce := ce) X.2.2.2.1 [] ⟨0, 10, 13, 13⟩ [] htab (fun z hz => nomatch hz) (by decide) (by decide) (hT _ tw_1209) (nw_at rfl hSX.2.2.1) (by rw [a1]; exact hce) hcv hcl kk T' rfl X'
      exact ⟨t2, st.trans b1, b2⟩
  · obtain ⟨_, e0, hf⟩ := Option.bind_eq_some_iff.mp hf
    obtain ⟨v, h1, e1, z1, hf⟩ := cN_spec hf
    obtain ⟨h2, e2, hf⟩ := Option.bind_eq_some_iff.mp hf
    cases hf
    have z2 := uJ_sz e2
    have hmc : h2.1 - h.1 = 0 ∧ h2.2.1 - h.2.1 = 0 := by omega
    refine k_Vi (As := [.int x1, .int x2]) (rest := [.int 0, .ref (rfG g o3)]) X I (c_X11_person l g o0 x1 x2 e1) z1 e0 vk_TrapCornerLaw_7 tw_1213 ⟨by rw [r1]; decide, by rw [r2]; decide⟩ ⟨Nat.zero_le _, Nat.zero_le _⟩ rfl hl.1 rfl (Nat.le_of_ble_eq_true rfl) dL_person_5 (fun H locs I => ?_)
    refine lv_i2l hx hb dL_person_8 rfl ?_
    refine r_uJ X I e2 dL_person_9 (fun H locs I => ?_)
    refine lv_goto (tgt := 17) hx hb dL_person_10 (by decide) ?_
    refine lv_iconst (v := 0) hx hb dL_person_17 (by decide) ?_
    exact k_fin ⟨hmc.1.symm, hmc.2.symm⟩ (k_ri X I hr dL_person_18)
