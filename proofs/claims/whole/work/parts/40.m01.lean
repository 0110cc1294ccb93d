/-! java/util/Arrays.copyOf([II)[I -/
theorem dJ7_copyOf_59c91_0 : decode cJ7_copyOf_59c91 0 = .ok (.iload_n 1, 1) := by decide +kernel
theorem dJ7_copyOf_59c91_1 : decode cJ7_copyOf_59c91 1 = .ok (.aload_n 0, 1) := by decide +kernel
theorem dJ7_copyOf_59c91_2 : decode cJ7_copyOf_59c91 2 = .ok (.arraylength, 1) := by decide +kernel
theorem dJ7_copyOf_59c91_3 : decode cJ7_copyOf_59c91 3 = .ok (.if_icmp .ne 11, 3) := by decide +kernel
theorem dJ7_copyOf_59c91_6 : decode cJ7_copyOf_59c91 6 = .ok (.aload_n 0, 1) := by decide +kernel
theorem dJ7_copyOf_59c91_7 : decode cJ7_copyOf_59c91 7 = .ok (.invokevirtual 316, 3) := by decide +kernel
theorem dJ7_copyOf_59c91_10 : decode cJ7_copyOf_59c91 10 = .ok (.checkcast 317, 3) := by decide +kernel
theorem dJ7_copyOf_59c91_13 : decode cJ7_copyOf_59c91 13 = .ok (.areturn, 1) := by decide +kernel
theorem dJ7_copyOf_59c91_14 : decode cJ7_copyOf_59c91 14 = .ok (.iload_n 1, 1) := by decide +kernel
theorem dJ7_copyOf_59c91_15 : decode cJ7_copyOf_59c91 15 = .ok (.newarray .int, 2) := by decide +kernel
theorem dJ7_copyOf_59c91_17 : decode cJ7_copyOf_59c91 17 = .ok (.astore_n 2, 1) := by decide +kernel
theorem dJ7_copyOf_59c91_18 : decode cJ7_copyOf_59c91 18 = .ok (.aload_n 0, 1) := by decide +kernel
theorem dJ7_copyOf_59c91_19 : decode cJ7_copyOf_59c91 19 = .ok (.iconst 0, 1) := by decide +kernel
theorem dJ7_copyOf_59c91_20 : decode cJ7_copyOf_59c91 20 = .ok (.aload_n 2, 1) := by decide +kernel
theorem dJ7_copyOf_59c91_21 : decode cJ7_copyOf_59c91 21 = .ok (.iconst 0, 1) := by decide +kernel
theorem dJ7_copyOf_59c91_22 : decode cJ7_copyOf_59c91 22 = .ok (.aload_n 0, 1) := by decide +kernel
theorem dJ7_copyOf_59c91_23 : decode cJ7_copyOf_59c91 23 = .ok (.arraylength, 1) := by decide +kernel
theorem dJ7_copyOf_59c91_24 : decode cJ7_copyOf_59c91 24 = .ok (.iload_n 1, 1) := by decide +kernel
theorem dJ7_copyOf_59c91_25 : decode cJ7_copyOf_59c91 25 = .ok (.invokestatic 304, 3) := by decide +kernel
theorem dJ7_copyOf_59c91_28 : decode cJ7_copyOf_59c91 28 = .ok (.invokestatic 150, 3) := by decide +kernel
theorem dJ7_copyOf_59c91_31 : decode cJ7_copyOf_59c91 31 = .ok (.aload_n 2, 1) := by decide +kernel
theorem dJ7_copyOf_59c91_32 : decode cJ7_copyOf_59c91 32 = .ok (.areturn, 1) := by decide +kernel
theorem sk_java_util_Arrays_304 : SK "java/util/Arrays" 304 yJ9_min_7cf53 2 := ⟨tw_775, tw_528, tw_17, ⟨by decide, by decide⟩, by decide +kernel⟩
section
variable {g : GG} {p : Program} {l : Launch} {e : Env} {R : Room} {s : State} {m : MethodId} {args : Array Value} {below : List Frame} {meth : Method} {c : Code} {n0 z0 : Nat}
def f_J7_copyOf_59c91_0  (o0 : Nat) (x1 : Int32) (h : AH) : Option (Nat × AH) :=
  ck h (
  (aLen h o0).bind fun v1 =>
  if x1 = v1 then
    nC o0 h fun w16 h17 =>
    (isI h17 w16).bind fun _ =>
    some (w16, h17)
  else
    nA 0 x1 h fun w4 h5 =>
    (aLen h5 o0).bind fun v8 =>
    cN (f_J9_min_7cf53 v8 x1 h5) h5 fun v10 h11 =>
    (aCpy h11 o0 0 w4 0 v10).bind fun h14 =>
    some (w4, h14))
set_option maxHeartbeats 1000000 in
theorem w_J7_copyOf_59c91_0 (X : Cx g p s m args meth c cJ7_copyOf_59c91 3 "java/util/Arrays") (hR : 2 ≤ R.frames ∧ 128 ≤ R.locals) (hr : meth.sig.returnType = (some (.array (.int)))) {res : Nat × AH} (hA : R.cells + n0 = res.2.1 ∧ R.slots + z0 = res.2.2.1) : ∀ (o0 : Nat) (x1 : Int32) (h : AH) (ls : Array Slot) (H : Heap) (locs : List Loc) (cells slots : Nat), f_J7_copyOf_59c91_0 o0 x1 h = some res → Iv g s n0 z0 h H locs cells slots → lv_has ls 3 [(0, .ref (rfG g o0)), (1, .int x1)] → W p l e R s m args below meth c H locs cells slots (MQ below (QG g (some (.ref res.1)) res.2) args s R.cells R.slots (AG g)) (F0 m 0 ls []) := by
  have hx := X.1
  have hb := X.2.1
  intro o0 x1 h ls H locs cells slots hf I hl
  unfold f_J7_copyOf_59c91_0 at hf
  obtain ⟨hbd, hf⟩ := ck_spec hf
  have hle := I.le hA hbd
  refine lv_iload_n hx hb dJ7_copyOf_59c91_0 rfl (lv_at hl 1 rfl) ?_
  refine lv_aload_n hx hb dJ7_copyOf_59c91_1 rfl (lv_at hl 0 rfl) ?_
  obtain ⟨v1, e2, hf⟩ := Option.bind_eq_some_iff.mp hf
  refine r_len X I e2 dJ7_copyOf_59c91_2 ?_
  refine lv_icmp_ne (tgt := 14) hx hb dJ7_copyOf_59c91_3 (by decide) (fun c3 => ?_) (fun c3 => ?_)
  · rw [if_neg c3] at hf
    refine lv_iload_n hx hb dJ7_copyOf_59c91_14 rfl (lv_at hl 1 rfl) ?_
    obtain ⟨w4, h5, e6, b7, hf⟩ := nA_ex hf
    refine r_nA0 X I e6 hA b7 tw_52 dJ7_copyOf_59c91_15 (fun H I => ?_)
    have hle := I.le hA b7
    refine lv_astore_n (lv' := [(2, .ref (rfG g w4)), (0, .ref (rfG g o0)), (1, .int x1)]) hx hb dJ7_copyOf_59c91_17 rfl hl (by decide) rfl (fun ls hl => ?_)
    refine lv_aload_n hx hb dJ7_copyOf_59c91_18 rfl (lv_at hl 1 rfl) ?_
    refine lv_iconst (v := 0) hx hb dJ7_copyOf_59c91_19 (by decide) ?_
    refine lv_aload_n hx hb dJ7_copyOf_59c91_20 rfl (lv_at hl 0 rfl) ?_
    refine lv_iconst (v := 0) hx hb dJ7_copyOf_59c91_21 (by decide) ?_
    refine lv_aload_n hx hb dJ7_copyOf_59c91_22 rfl (lv_at hl 1 rfl) ?_
    obtain ⟨v8, e9, hf⟩ := Option.bind_eq_some_iff.mp hf
    refine r_len X I e9 dJ7_copyOf_59c91_23 ?_
    refine lv_iload_n hx hb dJ7_copyOf_59c91_24 rfl (lv_at hl 2 rfl) ?_
    obtain ⟨v10, h11, e12, z13, hf⟩ := cN_spec hf
    refine k_Si (As := [.int v8, .int x1]) (rest := [.int 0, .ref (rfG g w4), .int 0, .ref (rfG g o0)]) X I (c_J9_min_7cf53 l g v8 x1 e12) z13 sk_java_util_Arrays_304 tw_529 ⟨Nat.le_trans (by decide) hR.1, Nat.le_trans (by decide) hR.2⟩ hle rfl hl.1 rfl (Nat.le_of_ble_eq_true rfl) dJ7_copyOf_59c91_25 (fun H locs I => ?_)
    obtain ⟨h14, e15, hf⟩ := Option.bind_eq_some_iff.mp hf
    refine r_cpy X I e15 tw_776 ⟨Nat.le_trans (by decide) hR.1, Nat.le_trans (by decide) hR.2⟩ hl.1 (Nat.le_of_ble_eq_true rfl) dJ7_copyOf_59c91_28 (fun H locs I => ?_)
    refine lv_aload_n hx hb dJ7_copyOf_59c91_31 rfl (lv_at hl 0 rfl) ?_
    cases hf
    exact k_fin (I.fin hA) (k_rr X I hr (by first | exact Or.inl ⟨_, rfl⟩ | exact Or.inr ⟨_, rfl⟩) dJ7_copyOf_59c91_32)
  · rw [if_pos c3] at hf
    refine lv_aload_n hx hb dJ7_copyOf_59c91_6 rfl (lv_at hl 0 rfl) ?_
    obtain ⟨w16, h17, e18, b19, hf⟩ := nC_ex hf
    refine r_cl X I e18 hA b19 tw_768 tw_769 tw_770 tw_771 tw_772 ⟨Nat.le_trans (by decide) hR.1, Nat.le_trans (by decide) hR.2⟩ hl.1 (Nat.le_of_ble_eq_true rfl) dJ7_copyOf_59c91_7 (fun H cells slots I => ?_)
    have hle := I.le hA b19
    obtain ⟨_, g20, hf⟩ := Option.bind_eq_some_iff.mp hf
    refine r_cast X I g20 tw_774 dJ7_copyOf_59c91_10 ?_
    cases hf
    exact k_fin (I.fin hA) (k_rr X I hr (by first | exact Or.inl ⟨_, rfl⟩ | exact Or.inr ⟨_, rfl⟩) dJ7_copyOf_59c91_13)
def f_J7_copyOf_59c91 (o0 : Nat) (x1 : Int32) (h : AH) : Option (Nat × AH) := f_J7_copyOf_59c91_0 o0 x1 h
end
theorem c_J7_copyOf_59c91 (l : Launch) (g : GG) (o0 : Nat) (x1 : Int32) {h : AH} {res : Nat × AH} (hf : f_J7_copyOf_59c91 o0 x1 h = some res) : CM l g yJ7_copyOf_59c91 cJ7_copyOf_59c91 3 (some (.array (.int))) 2 128 (res.2.1 - h.1) (res.2.2.1 - h.2.1) [.ref (rfG g o0), .int x1] h (some (.ref res.1)) res.2 := by
  have hbd := (ck_spec (show ck h _ = some res from hf)).1
  exact k_bodyF (by decide +kernel) (Nat.le_of_ble_eq_true rfl) (fun p e s m below meth c R ls hR hr X I hl => by
    obtain ⟨r1, r2, r3, r4⟩ := hR
    rw [← r3, ← r4]
    exact w_J7_copyOf_59c91_0 X ⟨Nat.le_of_eq r1.symm, Nat.le_of_eq r2.symm⟩ hr ⟨by omega, by omega⟩ o0 x1 h ls s.heap [] 0 0 hf I (lv_sub hl [0, 1] rfl))
/-! TrapCorner$LawReader.program()[I -/
theorem dX2_program_0 : decode cX2_program 0 = .ok (.aload_n 0, 1) := by decide +kernel
theorem dX2_program_1 : decode cX2_program 1 = .ok (.getfield 9, 3) := by decide +kernel
theorem dX2_program_4 : decode cX2_program 4 = .ok (.aload_n 0, 1) := by decide +kernel
theorem dX2_program_5 : decode cX2_program 5 = .ok (.getfield 15, 3) := by decide +kernel
theorem dX2_program_8 : decode cX2_program 8 = .ok (.invokestatic 19, 3) := by decide +kernel
theorem dX2_program_11 : decode cX2_program 11 = .ok (.areturn, 1) := by decide +kernel
theorem sk_TrapCorner_LawReader_19 : SK "TrapCorner$LawReader" 19 yJ7_copyOf_59c91 2 := ⟨tw_765, tw_766, tw_21, ⟨by decide, by decide⟩, by decide +kernel⟩
section
variable {g : GG} {p : Program} {l : Launch} {e : Env} {R : Room} {s : State} {m : MethodId} {args : Array Value} {below : List Frame} {meth : Method} {c : Code} {n0 z0 : Nat}
def f_X2_program_0  (o0 : Nat) (h : AH) : Option (Nat × AH) :=
  ck h (
  (gR [2] h o0 3).bind fun v1 =>
  (gI [2] h o0 4).bind fun v3 =>
  cA (f_J7_copyOf_59c91 v1 v3 h) h fun v5 h6 =>
  some (v5, h6))
set_option maxHeartbeats 1000000 in
theorem w_X2_program_0 (X : Cx g p s m args meth c cX2_program 1 "TrapCorner$LawReader") (hR : 3 ≤ R.frames ∧ 192 ≤ R.locals) (hr : meth.sig.returnType = (some (.array (.int)))) {res : Nat × AH} (hA : R.cells + n0 = res.2.1 ∧ R.slots + z0 = res.2.2.1) : ∀ (o0 : Nat) (h : AH) (ls : Array Slot) (H : Heap) (locs : List Loc) (cells slots : Nat), f_X2_program_0 o0 h = some res → Iv g s n0 z0 h H locs cells slots → lv_has ls 1 [(0, .ref (rfG g o0))] → W p l e R s m args below meth c H locs cells slots (MQ below (QG g (some (.ref res.1)) res.2) args s R.cells R.slots (AG g)) (F0 m 0 ls []) := by
  have hx := X.1
  have hb := X.2.1
  intro o0 h ls H locs cells slots hf I hl
  unfold f_X2_program_0 at hf
  obtain ⟨hbd, hf⟩ := ck_spec hf
  have hle := I.le hA hbd
  refine lv_aload_n hx hb dX2_program_0 rfl (lv_at hl 0 rfl) ?_
  obtain ⟨v1, e2, hf⟩ := Option.bind_eq_some_iff.mp hf
  refine r_gR X I e2 lk_TrapCorner_LawReader_9 dX2_program_1 ?_
  refine lv_aload_n hx hb dX2_program_4 rfl (lv_at hl 0 rfl) ?_
  obtain ⟨v3, e4, hf⟩ := Option.bind_eq_some_iff.mp hf
  refine r_gI X I e4 lk_TrapCorner_LawReader_15 dX2_program_5 ?_
  obtain ⟨v5, h6, e7, z8, b9, hf⟩ := cA_spec hf
  refine k_SAr (As := [.ref (rfG g v1), .int v3]) (rest := []) X I (c_J7_copyOf_59c91 l g v1 v3 e7) z8 hA b9 sk_TrapCorner_LawReader_19 tw_767 ⟨Nat.le_trans (by decide) hR.1, Nat.le_trans (by decide) hR.2⟩ rfl hl.1 rfl (Nat.le_of_ble_eq_true rfl) dX2_program_8 (fun H locs I => ?_)
  have hle := I.le hA b9
  cases hf
  exact k_fin (I.fin hA) (k_rr X I hr (by first | exact Or.inl ⟨_, rfl⟩ | exact Or.inr ⟨_, rfl⟩) dX2_program_11)
def f_X2_program (o0 : Nat) (h : AH) : Option (Nat × AH) := f_X2_program_0 o0 h
end
theorem c_X2_program (l : Launch) (g : GG) (o0 : Nat) {h : AH} {res : Nat × AH} (hf : f_X2_program o0 h = some res) : CM l g yX2_program cX2_program 1 (some (.array (.int))) 3 192 (res.2.1 - h.1) (res.2.2.1 - h.2.1) [.ref (rfG g o0)] h (some (.ref res.1)) res.2 := by
  have hbd := (ck_spec (show ck h _ = some res from hf)).1
  exact k_body (by decide) (Nat.le_of_ble_eq_true rfl) (fun p e s m below meth c R ls hR hr X I hl => by
    obtain ⟨r1, r2, r3, r4⟩ := hR
    rw [← r3, ← r4]
    exact w_X2_program_0 X ⟨Nat.le_of_eq r1.symm, Nat.le_of_eq r2.symm⟩ hr ⟨by omega, by omega⟩ o0 h ls s.heap [] 0 0 hf I (lv_sub hl [0] rfl))
/-! TrapCorner$PlanReader.steps()[I -/
theorem dX3_steps_0 : decode cX3_steps 0 = .ok (.aload_n 0, 1) := by decide +kernel
theorem dX3_steps_1 : decode cX3_steps 1 = .ok (.getfield 9, 3) := by decide +kernel
theorem dX3_steps_4 : decode cX3_steps 4 = .ok (.aload_n 0, 1) := by decide +kernel
theorem dX3_steps_5 : decode cX3_steps 5 = .ok (.getfield 15, 3) := by decide +kernel
theorem dX3_steps_8 : decode cX3_steps 8 = .ok (.invokestatic 19, 3) := by decide +kernel
theorem dX3_steps_11 : decode cX3_steps 11 = .ok (.areturn, 1) := by decide +kernel
theorem sk_TrapCorner_PlanReader_19 : SK "TrapCorner$PlanReader" 19 yJ7_copyOf_59c91 2 := ⟨tw_785, tw_766, tw_21, ⟨by decide, by decide⟩, by decide +kernel⟩
section
variable {g : GG} {p : Program} {l : Launch} {e : Env} {R : Room} {s : State} {m : MethodId} {args : Array Value} {below : List Frame} {meth : Method} {c : Code} {n0 z0 : Nat}
def f_X3_steps_0  (o0 : Nat) (h : AH) : Option (Nat × AH) :=
  ck h (
  (gR [3] h o0 3).bind fun v1 =>
  (gI [3] h o0 4).bind fun v3 =>
  cA (f_J7_copyOf_59c91 v1 v3 h) h fun v5 h6 =>
  some (v5, h6))
set_option maxHeartbeats 1000000 in
theorem w_X3_steps_0 (X : Cx g p s m args meth c cX3_steps 1 "TrapCorner$PlanReader") (hR : 3 ≤ R.frames ∧ 192 ≤ R.locals) (hr : meth.sig.returnType = (some (.array (.int)))) {res : Nat × AH} (hA : R.cells + n0 = res.2.1 ∧ R.slots + z0 = res.2.2.1) : ∀ (o0 : Nat) (h : AH) (ls : Array Slot) (H : Heap) (locs : List Loc) (cells slots : Nat), f_X3_steps_0 o0 h = some res → Iv g s n0 z0 h H locs cells slots → lv_has ls 1 [(0, .ref (rfG g o0))] → W p l e R s m args below meth c H locs cells slots (MQ below (QG g (some (.ref res.1)) res.2) args s R.cells R.slots (AG g)) (F0 m 0 ls []) := by
  have hx := X.1
  have hb := X.2.1
  intro o0 h ls H locs cells slots hf I hl
  unfold f_X3_steps_0 at hf
  obtain ⟨hbd, hf⟩ := ck_spec hf
  have hle := I.le hA hbd
  refine lv_aload_n hx hb dX3_steps_0 rfl (lv_at hl 0 rfl) ?_
  obtain ⟨v1, e2, hf⟩ := Option.bind_eq_some_iff.mp hf
  refine r_gR X I e2 lk_TrapCorner_PlanReader_9 dX3_steps_1 ?_
  refine lv_aload_n hx hb dX3_steps_4 rfl (lv_at hl 0 rfl) ?_
  obtain ⟨v3, e4, hf⟩ := Option.bind_eq_some_iff.mp hf
  refine r_gI X I e4 lk_TrapCorner_PlanReader_15 dX3_steps_5 ?_
  obtain ⟨v5, h6, e7, z8, b9, hf⟩ := cA_spec hf
  refine k_SAr (As := [.ref (rfG g v1), .int v3]) (rest := []) X I (c_J7_copyOf_59c91 l g v1 v3 e7) z8 hA b9 sk_TrapCorner_PlanReader_19 tw_767 ⟨Nat.le_trans (by decide) hR.1, Nat.le_trans (by decide) hR.2⟩ rfl hl.1 rfl (Nat.le_of_ble_eq_true rfl) dX3_steps_8 (fun H locs I => ?_)
  have hle := I.le hA b9
  cases hf
  exact k_fin (I.fin hA) (k_rr X I hr (by first | exact Or.inl ⟨_, rfl⟩ | exact Or.inr ⟨_, rfl⟩) dX3_steps_11)
def f_X3_steps (o0 : Nat) (h : AH) : Option (Nat × AH) := f_X3_steps_0 o0 h
end
theorem c_X3_steps (l : Launch) (g : GG) (o0 : Nat) {h : AH} {res : Nat × AH} (hf : f_X3_steps o0 h = some res) : CM l g yX3_steps cX3_steps 1 (some (.array (.int))) 3 192 (res.2.1 - h.1) (res.2.2.1 - h.2.1) [.ref (rfG g o0)] h (some (.ref res.1)) res.2 := by
  have hbd := (ck_spec (show ck h _ = some res from hf)).1
  exact k_body (by decide) (Nat.le_of_ble_eq_true rfl) (fun p e s m below meth c R ls hR hr X I hl => by
    obtain ⟨r1, r2, r3, r4⟩ := hR
    rw [← r3, ← r4]
    exact w_X3_steps_0 X ⟨Nat.le_of_eq r1.symm, Nat.le_of_eq r2.symm⟩ hr ⟨by omega, by omega⟩ o0 h ls s.heap [] 0 0 hf I (lv_sub hl [0] rfl))
/-! TrapCorner.keepLaw()I -/
theorem dX11_keepLaw_0 : decode cX11_keepLaw 0 = .ok (.aload_n 0, 1) := by decide +kernel
theorem dX11_keepLaw_1 : decode cX11_keepLaw 1 = .ok (.getfield 159, 3) := by decide +kernel
theorem dX11_keepLaw_4 : decode cX11_keepLaw 4 = .ok (.iconst 4, 1) := by decide +kernel
theorem dX11_keepLaw_5 : decode cX11_keepLaw 5 = .ok (.if_icmp .lt 5, 3) := by decide +kernel
theorem dX11_keepLaw_8 : decode cX11_keepLaw 8 = .ok (.iconst (-1), 1) := by decide +kernel
theorem dX11_keepLaw_9 : decode cX11_keepLaw 9 = .ok (.ireturn, 1) := by decide +kernel
theorem dX11_keepLaw_10 : decode cX11_keepLaw 10 = .ok (.aload_n 0, 1) := by decide +kernel
theorem dX11_keepLaw_11 : decode cX11_keepLaw 11 = .ok (.getfield 88, 3) := by decide +kernel
theorem dX11_keepLaw_14 : decode cX11_keepLaw 14 = .ok (.aload_n 0, 1) := by decide +kernel
theorem dX11_keepLaw_15 : decode cX11_keepLaw 15 = .ok (.getfield 159, 3) := by decide +kernel
theorem dX11_keepLaw_18 : decode cX11_keepLaw 18 = .ok (.aload_n 0, 1) := by decide +kernel
theorem dX11_keepLaw_19 : decode cX11_keepLaw 19 = .ok (.getfield 28, 3) := by decide +kernel
theorem dX11_keepLaw_22 : decode cX11_keepLaw 22 = .ok (.invokevirtual 162, 3) := by decide +kernel
theorem dX11_keepLaw_25 : decode cX11_keepLaw 25 = .ok (.aastore, 1) := by decide +kernel
theorem dX11_keepLaw_26 : decode cX11_keepLaw 26 = .ok (.aload_n 0, 1) := by decide +kernel
theorem dX11_keepLaw_27 : decode cX11_keepLaw 27 = .ok (.getfield 10, 3) := by decide +kernel
theorem dX11_keepLaw_30 : decode cX11_keepLaw 30 = .ok (.iconst 0, 1) := by decide +kernel
theorem dX11_keepLaw_31 : decode cX11_keepLaw 31 = .ok (.putfield 109, 3) := by decide +kernel
theorem dX11_keepLaw_34 : decode cX11_keepLaw 34 = .ok (.aload_n 0, 1) := by decide +kernel
theorem dX11_keepLaw_35 : decode cX11_keepLaw 35 = .ok (.dup, 1) := by decide +kernel
theorem dX11_keepLaw_36 : decode cX11_keepLaw 36 = .ok (.getfield 159, 3) := by decide +kernel
theorem dX11_keepLaw_39 : decode cX11_keepLaw 39 = .ok (.iconst 1, 1) := by decide +kernel
theorem dX11_keepLaw_40 : decode cX11_keepLaw 40 = .ok (.iadd, 1) := by decide +kernel
theorem dX11_keepLaw_41 : decode cX11_keepLaw 41 = .ok (.putfield 159, 3) := by decide +kernel
theorem dX11_keepLaw_44 : decode cX11_keepLaw 44 = .ok (.aload_n 0, 1) := by decide +kernel
theorem dX11_keepLaw_45 : decode cX11_keepLaw 45 = .ok (.getfield 159, 3) := by decide +kernel
theorem dX11_keepLaw_48 : decode cX11_keepLaw 48 = .ok (.iconst 1, 1) := by decide +kernel
theorem dX11_keepLaw_49 : decode cX11_keepLaw 49 = .ok (.isub, 1) := by decide +kernel
theorem dX11_keepLaw_50 : decode cX11_keepLaw 50 = .ok (.ireturn, 1) := by decide +kernel
theorem vk_TrapCorner_162 : VK "TrapCorner" 162 [2] yX2_program 0 := ⟨tw_761, tw_762, tw_6, ⟨by decide, by decide⟩, by decide +kernel, fun ci hci => by
  have hci := List.mem_singleton.mp hci
  subst hci
  exact ⟨_, rfl, tw_763⟩⟩
theorem lp_TrapCorner_159 : LKP "TrapCorner" 159 [11] 14 (.int) := by
  intro ci hci
  have hci := List.mem_singleton.mp hci
  subst hci
  exact ⟨RX11, TX11, 19, "TrapCorner", ck_11, by decide, tw_379, Or.inl rfl, rfl, by decide +kernel⟩
section
variable {g : GG} {p : Program} {l : Launch} {e : Env} {R : Room} {s : State} {m : MethodId} {args : Array Value} {below : List Frame} {meth : Method} {c : Code} {n0 z0 : Nat}
def f_X11_keepLaw_0  (o0 : Nat) (h : AH) : Option (Int32 × AH) :=
  ck h (
  (gI [11] h o0 14).bind fun v1 =>
  if v1 < 4 then
    (gR [11] h o0 11).bind fun v4 =>
    (gI [11] h o0 14).bind fun v6 =>
    (gR [11] h o0 2).bind fun v8 =>
    (isC [2] h v8).bind fun _ =>
    cA (f_X2_program v8 h) h fun v10 h11 =>
    (uQ 5 h11 v4 v6 v10).bind fun h16 =>
    (gR [11] h16 o0 0).bind fun v18 =>
    (pV [9] h16 v18 1 (.int 0)).bind fun h20 =>
    (gI [11] h20 o0 14).bind fun v22 =>
    (pV [11] h20 o0 14 (.int (v22 + 1))).bind fun h24 =>
    (gI [11] h24 o0 14).bind fun v26 =>
    some (v26 - 1, h24)
  else
    some ((-1), h))
set_option maxHeartbeats 1000000 in
theorem w_X11_keepLaw_0 (X : Cx g p s m args meth c cX11_keepLaw 1 "TrapCorner") (hR : 4 ≤ R.frames ∧ 256 ≤ R.locals) (hr : meth.sig.returnType = (some (.int))) {res : Int32 × AH} (hA : R.cells + n0 = res.2.1 ∧ R.slots + z0 = res.2.2.1) : ∀ (o0 : Nat) (h : AH) (ls : Array Slot) (H : Heap) (locs : List Loc) (cells slots : Nat), f_X11_keepLaw_0 o0 h = some res → Iv g s n0 z0 h H locs cells slots → lv_has ls 1 [(0, .ref (rfG g o0))] → W p l e R s m args below meth c H locs cells slots (MQ below (QG g (some (.int res.1)) res.2) args s R.cells R.slots (AG g)) (F0 m 0 ls []) := by
  have hx := X.1
  have hb := X.2.1
  intro o0 h ls H locs cells slots hf I hl
  unfold f_X11_keepLaw_0 at hf
  obtain ⟨hbd, hf⟩ := ck_spec hf
  have hle := I.le hA hbd
  refine lv_aload_n hx hb dX11_keepLaw_0 rfl (lv_at hl 0 rfl) ?_
  obtain ⟨v1, e2, hf⟩ := Option.bind_eq_some_iff.mp hf
  refine r_gI X I e2 lk_TrapCorner_159 dX11_keepLaw_1 ?_
  refine lv_iconst (v := 4) hx hb dX11_keepLaw_4 (by decide) ?_
  refine lv_icmp_lt (tgt := 10) hx hb dX11_keepLaw_5 (by decide) (fun c3 => ?_) (fun c3 => ?_)
  · rw [if_pos c3] at hf
    refine lv_aload_n hx hb dX11_keepLaw_10 rfl (lv_at hl 0 rfl) ?_
    obtain ⟨v4, e5, hf⟩ := Option.bind_eq_some_iff.mp hf
    refine r_gR X I e5 lk_TrapCorner_88 dX11_keepLaw_11 ?_
    refine lv_aload_n hx hb dX11_keepLaw_14 rfl (lv_at hl 0 rfl) ?_
    obtain ⟨v6, e7, hf⟩ := Option.bind_eq_some_iff.mp hf
    refine r_gI X I e7 lk_TrapCorner_159 dX11_keepLaw_15 ?_
    refine lv_aload_n hx hb dX11_keepLaw_18 rfl (lv_at hl 0 rfl) ?_
    obtain ⟨v8, e9, hf⟩ := Option.bind_eq_some_iff.mp hf
    refine r_gR X I e9 lk_TrapCorner_28 dX11_keepLaw_19 ?_
    obtain ⟨_, g14, hf⟩ := Option.bind_eq_some_iff.mp hf
    obtain ⟨v10, h11, e12, z13, b15, hf⟩ := cA_spec hf
    refine k_VAr (As := []) (rest := [.int v6, .ref (rfG g v4)]) X I (c_X2_program l g v8 e12) z13 hA b15 g14 vk_TrapCorner_162 tw_764 ⟨Nat.le_trans (by decide) hR.1, Nat.le_trans (by decide) hR.2⟩ rfl hl.1 rfl (Nat.le_of_ble_eq_true rfl) dX11_keepLaw_22 (fun H locs I => ?_)
    have hle := I.le hA b15
    obtain ⟨h16, e17, hf⟩ := Option.bind_eq_some_iff.mp hf
    refine r_uQ5 X I e17 dX11_keepLaw_25 (fun H locs I => ?_)
    refine lv_aload_n hx hb dX11_keepLaw_26 rfl (lv_at hl 0 rfl) ?_
    obtain ⟨v18, e19, hf⟩ := Option.bind_eq_some_iff.mp hf
    refine r_gR X I e19 lk_TrapCorner_10 dX11_keepLaw_27 ?_
    refine lv_iconst (v := 0) hx hb dX11_keepLaw_30 (by decide) ?_
    obtain ⟨h20, e21, hf⟩ := Option.bind_eq_some_iff.mp hf
    refine r_pI X I e21 lp_TrapCorner_109 dX11_keepLaw_31 (fun H locs I => ?_)
    refine lv_aload_n hx hb dX11_keepLaw_34 rfl (lv_at hl 0 rfl) ?_
    refine lv_dup hx hb dX11_keepLaw_35 rfl ?_
    obtain ⟨v22, e23, hf⟩ := Option.bind_eq_some_iff.mp hf
    refine r_gI X I e23 lk_TrapCorner_159 dX11_keepLaw_36 ?_
    refine lv_iconst (v := 1) hx hb dX11_keepLaw_39 (by decide) ?_
    refine lv_iadd hx hb dX11_keepLaw_40 ?_
    obtain ⟨h24, e25, hf⟩ := Option.bind_eq_some_iff.mp hf
    refine r_pI X I e25 lp_TrapCorner_159 dX11_keepLaw_41 (fun H locs I => ?_)
    refine lv_aload_n hx hb dX11_keepLaw_44 rfl (lv_at hl 0 rfl) ?_
    obtain ⟨v26, e27, hf⟩ := Option.bind_eq_some_iff.mp hf
    refine r_gI X I e27 lk_TrapCorner_159 dX11_keepLaw_45 ?_
    refine lv_iconst (v := 1) hx hb dX11_keepLaw_48 (by decide) ?_
    refine lv_isub hx hb dX11_keepLaw_49 ?_
    cases hf
    exact k_fin (I.fin hA) (k_ri X I hr dX11_keepLaw_50)
  · rw [if_neg c3] at hf
    refine lv_iconst (v := (-1)) hx hb dX11_keepLaw_8 (by decide) ?_
    cases hf
    exact k_fin (I.fin hA) (k_ri X I hr dX11_keepLaw_9)
def f_X11_keepLaw (o0 : Nat) (h : AH) : Option (Int32 × AH) := f_X11_keepLaw_0 o0 h
end
theorem c_X11_keepLaw (l : Launch) (g : GG) (o0 : Nat) {h : AH} {res : Int32 × AH} (hf : f_X11_keepLaw o0 h = some res) : CM l g yX11_keepLaw cX11_keepLaw 1 (some (.int)) 4 256 (res.2.1 - h.1) (res.2.2.1 - h.2.1) [.ref (rfG g o0)] h (some (.int res.1)) res.2 := by
  have hbd := (ck_spec (show ck h _ = some res from hf)).1
  exact k_body (by decide) (Nat.le_of_ble_eq_true rfl) (fun p e s m below meth c R ls hR hr X I hl => by
    obtain ⟨r1, r2, r3, r4⟩ := hR
    rw [← r3, ← r4]
    exact w_X11_keepLaw_0 X ⟨Nat.le_of_eq r1.symm, Nat.le_of_eq r2.symm⟩ hr ⟨by omega, by omega⟩ o0 h ls s.heap [] 0 0 hf I (lv_sub hl [0] rfl))
/-! TrapCorner.keepPlan()I -/
theorem dX11_keepPlan_0 : decode cX11_keepPlan 0 = .ok (.aload_n 0, 1) := by decide +kernel
theorem dX11_keepPlan_1 : decode cX11_keepPlan 1 = .ok (.getfield 166, 3) := by decide +kernel
theorem dX11_keepPlan_4 : decode cX11_keepPlan 4 = .ok (.iconst 4, 1) := by decide +kernel
theorem dX11_keepPlan_5 : decode cX11_keepPlan 5 = .ok (.if_icmp .lt 5, 3) := by decide +kernel
theorem dX11_keepPlan_8 : decode cX11_keepPlan 8 = .ok (.iconst (-1), 1) := by decide +kernel
theorem dX11_keepPlan_9 : decode cX11_keepPlan 9 = .ok (.ireturn, 1) := by decide +kernel
theorem dX11_keepPlan_10 : decode cX11_keepPlan 10 = .ok (.aload_n 0, 1) := by decide +kernel
theorem dX11_keepPlan_11 : decode cX11_keepPlan 11 = .ok (.getfield 91, 3) := by decide +kernel
theorem dX11_keepPlan_14 : decode cX11_keepPlan 14 = .ok (.aload_n 0, 1) := by decide +kernel
theorem dX11_keepPlan_15 : decode cX11_keepPlan 15 = .ok (.getfield 166, 3) := by decide +kernel
theorem dX11_keepPlan_18 : decode cX11_keepPlan 18 = .ok (.aload_n 0, 1) := by decide +kernel
theorem dX11_keepPlan_19 : decode cX11_keepPlan 19 = .ok (.getfield 35, 3) := by decide +kernel
theorem dX11_keepPlan_22 : decode cX11_keepPlan 22 = .ok (.invokevirtual 169, 3) := by decide +kernel
theorem dX11_keepPlan_25 : decode cX11_keepPlan 25 = .ok (.aastore, 1) := by decide +kernel
theorem dX11_keepPlan_26 : decode cX11_keepPlan 26 = .ok (.aload_n 0, 1) := by decide +kernel
theorem dX11_keepPlan_27 : decode cX11_keepPlan 27 = .ok (.getfield 10, 3) := by decide +kernel
theorem dX11_keepPlan_30 : decode cX11_keepPlan 30 = .ok (.iconst 0, 1) := by decide +kernel
theorem dX11_keepPlan_31 : decode cX11_keepPlan 31 = .ok (.putfield 109, 3) := by decide +kernel
theorem dX11_keepPlan_34 : decode cX11_keepPlan 34 = .ok (.aload_n 0, 1) := by decide +kernel
theorem dX11_keepPlan_35 : decode cX11_keepPlan 35 = .ok (.dup, 1) := by decide +kernel
theorem dX11_keepPlan_36 : decode cX11_keepPlan 36 = .ok (.getfield 166, 3) := by decide +kernel
theorem dX11_keepPlan_39 : decode cX11_keepPlan 39 = .ok (.iconst 1, 1) := by decide +kernel
theorem dX11_keepPlan_40 : decode cX11_keepPlan 40 = .ok (.iadd, 1) := by decide +kernel
theorem dX11_keepPlan_41 : decode cX11_keepPlan 41 = .ok (.putfield 166, 3) := by decide +kernel
theorem dX11_keepPlan_44 : decode cX11_keepPlan 44 = .ok (.aload_n 0, 1) := by decide +kernel
theorem dX11_keepPlan_45 : decode cX11_keepPlan 45 = .ok (.getfield 166, 3) := by decide +kernel
theorem dX11_keepPlan_48 : decode cX11_keepPlan 48 = .ok (.iconst 1, 1) := by decide +kernel
theorem dX11_keepPlan_49 : decode cX11_keepPlan 49 = .ok (.isub, 1) := by decide +kernel
theorem dX11_keepPlan_50 : decode cX11_keepPlan 50 = .ok (.ireturn, 1) := by decide +kernel
theorem vk_TrapCorner_169 : VK "TrapCorner" 169 [3] yX3_steps 0 := ⟨tw_781, tw_782, tw_7, ⟨by decide, by decide⟩, by decide +kernel, fun ci hci => by
  have hci := List.mem_singleton.mp hci
  subst hci
  exact ⟨_, rfl, tw_783⟩⟩
theorem lp_TrapCorner_166 : LKP "TrapCorner" 166 [11] 15 (.int) := by
  intro ci hci
  have hci := List.mem_singleton.mp hci
  subst hci
  exact ⟨RX11, TX11, 19, "TrapCorner", ck_11, by decide, tw_380, Or.inl rfl, rfl, by decide +kernel⟩
section
variable {g : GG} {p : Program} {l : Launch} {e : Env} {R : Room} {s : State} {m : MethodId} {args : Array Value} {below : List Frame} {meth : Method} {c : Code} {n0 z0 : Nat}
def f_X11_keepPlan_0  (o0 : Nat) (h : AH) : Option (Int32 × AH) :=
  ck h (
  (gI [11] h o0 15).bind fun v1 =>
  if v1 < 4 then
    (gR [11] h o0 12).bind fun v4 =>
    (gI [11] h o0 15).bind fun v6 =>
    (gR [11] h o0 3).bind fun v8 =>
    (isC [3] h v8).bind fun _ =>
    cA (f_X3_steps v8 h) h fun v10 h11 =>
    (uQ 5 h11 v4 v6 v10).bind fun h16 =>
    (gR [11] h16 o0 0).bind fun v18 =>
    (pV [9] h16 v18 1 (.int 0)).bind fun h20 =>
    (gI [11] h20 o0 15).bind fun v22 =>
    (pV [11] h20 o0 15 (.int (v22 + 1))).bind fun h24 =>
    (gI [11] h24 o0 15).bind fun v26 =>
    some (v26 - 1, h24)
  else
    some ((-1), h))
set_option maxHeartbeats 1000000 in
theorem w_X11_keepPlan_0 (X : Cx g p s m args meth c cX11_keepPlan 1 "TrapCorner") (hR : 4 ≤ R.frames ∧ 256 ≤ R.locals) (hr : meth.sig.returnType = (some (.int))) {res : Int32 × AH} (hA : R.cells + n0 = res.2.1 ∧ R.slots + z0 = res.2.2.1) : ∀ (o0 : Nat) (h : AH) (ls : Array Slot) (H : Heap) (locs : List Loc) (cells slots : Nat), f_X11_keepPlan_0 o0 h = some res → Iv g s n0 z0 h H locs cells slots → lv_has ls 1 [(0, .ref (rfG g o0))] → W p l e R s m args below meth c H locs cells slots (MQ below (QG g (some (.int res.1)) res.2) args s R.cells R.slots (AG g)) (F0 m 0 ls []) := by
  have hx := X.1
  have hb := X.2.1
  intro o0 h ls H locs cells slots hf I hl
  unfold f_X11_keepPlan_0 at hf
  obtain ⟨hbd, hf⟩ := ck_spec hf
  have hle := I.le hA hbd
  refine lv_aload_n hx hb dX11_keepPlan_0 rfl (lv_at hl 0 rfl) ?_
  obtain ⟨v1, e2, hf⟩ := Option.bind_eq_some_iff.mp hf
  refine r_gI X I e2 lk_TrapCorner_166 dX11_keepPlan_1 ?_
  refine lv_iconst (v := 4) hx hb dX11_keepPlan_4 (by decide) ?_
  refine lv_icmp_lt (tgt := 10) hx hb dX11_keepPlan_5 (by decide) (fun c3 => ?_) (fun c3 => ?_)
  · rw [if_pos c3] at hf
    refine lv_aload_n hx hb dX11_keepPlan_10 rfl (lv_at hl 0 rfl) ?_
    obtain ⟨v4, e5, hf⟩ := Option.bind_eq_some_iff.mp hf
    refine r_gR X I e5 lk_TrapCorner_91 dX11_keepPlan_11 ?_
    refine lv_aload_n hx hb dX11_keepPlan_14 rfl (lv_at hl 0 rfl) ?_
    obtain ⟨v6, e7, hf⟩ := Option.bind_eq_some_iff.mp hf
    refine r_gI X I e7 lk_TrapCorner_166 dX11_keepPlan_15 ?_
    refine lv_aload_n hx hb dX11_keepPlan_18 rfl (lv_at hl 0 rfl) ?_
    obtain ⟨v8, e9, hf⟩ := Option.bind_eq_some_iff.mp hf
    refine r_gR X I e9 lk_TrapCorner_35 dX11_keepPlan_19 ?_
    obtain ⟨_, g14, hf⟩ := Option.bind_eq_some_iff.mp hf
    obtain ⟨v10, h11, e12, z13, b15, hf⟩ := cA_spec hf
    refine k_VAr (As := []) (rest := [.int v6, .ref (rfG g v4)]) X I (c_X3_steps l g v8 e12) z13 hA b15 g14 vk_TrapCorner_169 tw_784 ⟨Nat.le_trans (by decide) hR.1, Nat.le_trans (by decide) hR.2⟩ rfl hl.1 rfl (Nat.le_of_ble_eq_true rfl) dX11_keepPlan_22 (fun H locs I => ?_)
    have hle := I.le hA b15
    obtain ⟨h16, e17, hf⟩ := Option.bind_eq_some_iff.mp hf
    refine r_uQ5 X I e17 dX11_keepPlan_25 (fun H locs I => ?_)
    refine lv_aload_n hx hb dX11_keepPlan_26 rfl (lv_at hl 0 rfl) ?_
    obtain ⟨v18, e19, hf⟩ := Option.bind_eq_some_iff.mp hf
    refine r_gR X I e19 lk_TrapCorner_10 dX11_keepPlan_27 ?_
    refine lv_iconst (v := 0) hx hb dX11_keepPlan_30 (by decide) ?_
    obtain ⟨h20, e21, hf⟩ := Option.bind_eq_some_iff.mp hf
    refine r_pI X I e21 lp_TrapCorner_109 dX11_keepPlan_31 (fun H locs I => ?_)
    refine lv_aload_n hx hb dX11_keepPlan_34 rfl (lv_at hl 0 rfl) ?_
    refine lv_dup hx hb dX11_keepPlan_35 rfl ?_
    obtain ⟨v22, e23, hf⟩ := Option.bind_eq_some_iff.mp hf
    refine r_gI X I e23 lk_TrapCorner_166 dX11_keepPlan_36 ?_
    refine lv_iconst (v := 1) hx hb dX11_keepPlan_39 (by decide) ?_
    refine lv_iadd hx hb dX11_keepPlan_40 ?_
    obtain ⟨h24, e25, hf⟩ := Option.bind_eq_some_iff.mp hf
    refine r_pI X I e25 lp_TrapCorner_166 dX11_keepPlan_41 (fun H locs I => ?_)
    refine lv_aload_n hx hb dX11_keepPlan_44 rfl (lv_at hl 0 rfl) ?_
    obtain ⟨v26, e27, hf⟩ := Option.bind_eq_some_iff.mp hf
    refine r_gI X I e27 lk_TrapCorner_166 dX11_keepPlan_45 ?_
    refine lv_iconst (v := 1) hx hb dX11_keepPlan_48 (by decide) ?_
    refine lv_isub hx hb dX11_keepPlan_49 ?_
    cases hf
    exact k_fin (I.fin hA) (k_ri X I hr dX11_keepPlan_50)
  · rw [if_neg c3] at hf
    refine lv_iconst (v := (-1)) hx hb dX11_keepPlan_8 (by decide) ?_
    cases hf
    exact k_fin (I.fin hA) (k_ri X I hr dX11_keepPlan_9)
def f_X11_keepPlan (o0 : Nat) (h : AH) : Option (Int32 × AH) := f_X11_keepPlan_0 o0 h
end
theorem c_X11_keepPlan (l : Launch) (g : GG) (o0 : Nat) {h : AH} {res : Int32 × AH} (hf : f_X11_keepPlan o0 h = some res) : CM l g yX11_keepPlan cX11_keepPlan 1 (some (.int)) 4 256 (res.2.1 - h.1) (res.2.2.1 - h.2.1) [.ref (rfG g o0)] h (some (.int res.1)) res.2 := by
  have hbd := (ck_spec (show ck h _ = some res from hf)).1
  exact k_body (by decide) (Nat.le_of_ble_eq_true rfl) (fun p e s m below meth c R ls hR hr X I hl => by
    obtain ⟨r1, r2, r3, r4⟩ := hR
    rw [← r3, ← r4]
    exact w_X11_keepPlan_0 X ⟨Nat.le_of_eq r1.symm, Nat.le_of_eq r2.symm⟩ hr ⟨by omega, by omega⟩ o0 h ls s.heap [] 0 0 hf I (lv_sub hl [0] rfl))
/-! TrapCorner.text(I)I -/
theorem dX11_text_0 : decode cX11_text 0 = .ok (.aload_n 0, 1) := by decide +kernel
theorem dX11_text_1 : decode cX11_text 1 = .ok (.iload_n 1, 1) := by decide +kernel
theorem dX11_text_2 : decode cX11_text 2 = .ok (.invokevirtual 129, 3) := by decide +kernel
theorem dX11_text_5 : decode cX11_text 5 = .ok (.iconst (-1), 1) := by decide +kernel
theorem dX11_text_6 : decode cX11_text 6 = .ok (.if_icmp .eq 5, 3) := by decide +kernel
theorem dX11_text_9 : decode cX11_text 9 = .ok (.iconst (-1), 1) := by decide +kernel
theorem dX11_text_10 : decode cX11_text 10 = .ok (.ireturn, 1) := by decide +kernel
theorem dX11_text_11 : decode cX11_text 11 = .ok (.iload_n 1, 1) := by decide +kernel
theorem dX11_text_12 : decode cX11_text 12 = .ok (.tableswitch 43 0 2 #[28, 33, 38], 28) := by decide +kernel
theorem dX11_text_40 : decode cX11_text 40 = .ok (.aload_n 0, 1) := by decide +kernel
theorem dX11_text_41 : decode cX11_text 41 = .ok (.invokevirtual 132, 3) := by decide +kernel
theorem dX11_text_44 : decode cX11_text 44 = .ok (.ireturn, 1) := by decide +kernel
theorem dX11_text_45 : decode cX11_text 45 = .ok (.aload_n 0, 1) := by decide +kernel
theorem dX11_text_46 : decode cX11_text 46 = .ok (.invokevirtual 136, 3) := by decide +kernel
theorem dX11_text_49 : decode cX11_text 49 = .ok (.ireturn, 1) := by decide +kernel
theorem dX11_text_50 : decode cX11_text 50 = .ok (.aload_n 0, 1) := by decide +kernel
theorem dX11_text_51 : decode cX11_text 51 = .ok (.invokevirtual 139, 3) := by decide +kernel
theorem dX11_text_54 : decode cX11_text 54 = .ok (.ireturn, 1) := by decide +kernel
theorem dX11_text_55 : decode cX11_text 55 = .ok (.iconst (-1), 1) := by decide +kernel
theorem dX11_text_56 : decode cX11_text 56 = .ok (.ireturn, 1) := by decide +kernel
theorem vk_TrapCorner_129 : VK "TrapCorner" 129 [11] yX11_fault 1 := ⟨tw_731, tw_440, tw_1, ⟨by decide, by decide⟩, by decide +kernel, fun ci hci => by
  have hci := List.mem_singleton.mp hci
  subst hci
  exact ⟨_, rfl, tw_441⟩⟩
theorem vk_TrapCorner_132 : VK "TrapCorner" 132 [11] yX11_foundCity 0 := ⟨tw_732, tw_734, tw_1, ⟨by decide, by decide⟩, by decide +kernel, fun ci hci => by
  have hci := List.mem_singleton.mp hci
  subst hci
  exact ⟨_, rfl, tp_15⟩⟩
theorem vk_TrapCorner_136 : VK "TrapCorner" 136 [11] yX11_keepLaw 0 := ⟨tw_757, tw_759, tw_1, ⟨by decide, by decide⟩, by decide +kernel, fun ci hci => by
  have hci := List.mem_singleton.mp hci
  subst hci
  exact ⟨_, rfl, tp_16⟩⟩
theorem vk_TrapCorner_139 : VK "TrapCorner" 139 [11] yX11_keepPlan 0 := ⟨tw_777, tw_779, tw_1, ⟨by decide, by decide⟩, by decide +kernel, fun ci hci => by
  have hci := List.mem_singleton.mp hci
  subst hci
  exact ⟨_, rfl, tp_17⟩⟩
section
variable {g : GG} {p : Program} {l : Launch} {e : Env} {R : Room} {s : State} {m : MethodId} {args : Array Value} {below : List Frame} {meth : Method} {c : Code} {n0 z0 : Nat}
def f_X11_text_0  (o0 : Nat) (x1 : Int32) (h : AH) : Option (Int32 × AH) :=
  ck h (
  (isC [11] h o0).bind fun _ =>
  cN (f_X11_fault o0 x1 h) h fun v1 h2 =>
  if v1 = ((-1)) then
    if x1 = 0 then
      (isC [11] h2 o0).bind fun _ =>
      cN (f_X11_foundCity o0 h2) h2 fun v8 h9 =>
      some (v8, h9)
    else
      if x1 = 1 then
        (isC [11] h2 o0).bind fun _ =>
        cA (f_X11_keepLaw o0 h2) h2 fun v14 h15 =>
        some (v14, h15)
      else
        if x1 = 2 then
          (isC [11] h2 o0).bind fun _ =>
          cA (f_X11_keepPlan o0 h2) h2 fun v21 h22 =>
          some (v21, h22)
        else
          some ((-1), h2)
  else
    some ((-1), h2))
set_option maxHeartbeats 1000000 in
theorem w_X11_text_0 (X : Cx g p s m args meth c cX11_text 2 "TrapCorner") (hR : 69 ≤ R.frames ∧ 4416 ≤ R.locals) (hr : meth.sig.returnType = (some (.int))) {res : Int32 × AH} (hA : R.cells + n0 = res.2.1 ∧ R.slots + z0 = res.2.2.1) : ∀ (o0 : Nat) (x1 : Int32) (h : AH) (ls : Array Slot) (H : Heap) (locs : List Loc) (cells slots : Nat), f_X11_text_0 o0 x1 h = some res → Iv g s n0 z0 h H locs cells slots → lv_has ls 2 [(0, .ref (rfG g o0)), (1, .int x1)] → W p l e R s m args below meth c H locs cells slots (MQ below (QG g (some (.int res.1)) res.2) args s R.cells R.slots (AG g)) (F0 m 0 ls []) := by
  have hx := X.1
  have hb := X.2.1
  intro o0 x1 h ls H locs cells slots hf I hl
  unfold f_X11_text_0 at hf
  obtain ⟨hbd, hf⟩ := ck_spec hf
  have hle := I.le hA hbd
  refine lv_aload_n hx hb dX11_text_0 rfl (lv_at hl 0 rfl) ?_
  refine lv_iload_n hx hb dX11_text_1 rfl (lv_at hl 1 rfl) ?_
  obtain ⟨_, g5, hf⟩ := Option.bind_eq_some_iff.mp hf
  obtain ⟨v1, h2, e3, z4, hf⟩ := cN_spec hf
  refine k_Vi (As := [.int x1]) (rest := []) X I (c_X11_fault l g o0 x1 e3) z4 g5 vk_TrapCorner_129 tw_442 ⟨Nat.le_trans (by decide) hR.1, Nat.le_trans (by decide) hR.2⟩ hle rfl hl.1 rfl (Nat.le_of_ble_eq_true rfl) dX11_text_2 (fun H locs I => ?_)
  refine lv_iconst (v := (-1)) hx hb dX11_text_5 (by decide) ?_
  refine lv_icmp_eq (tgt := 11) hx hb dX11_text_6 (by decide) (fun c6 => ?_) (fun c6 => ?_)
  · rw [if_pos c6] at hf
    refine lv_iload_n hx hb dX11_text_11 rfl (lv_at hl 1 rfl) ?_
    by_cases c7 : x1 = 0
    · rw [if_pos c7] at hf
      refine lv_tableIn (tgt := 40) hx hb dX11_text_12 (by rw [c7]; decide) (by rw [c7]; decide) (by rw [c7]; rfl) (by decide) ?_
      refine lv_aload_n hx hb dX11_text_40 rfl (lv_at hl 0 rfl) ?_
      obtain ⟨_, g12, hf⟩ := Option.bind_eq_some_iff.mp hf
      obtain ⟨v8, h9, e10, z11, hf⟩ := cN_spec hf
      refine k_Vi (As := []) (rest := []) X I (c_X11_foundCity l g o0 e10) z11 g12 vk_TrapCorner_132 tw_735 ⟨Nat.le_trans (by decide) hR.1, Nat.le_trans (by decide) hR.2⟩ hle rfl hl.1 rfl (Nat.le_of_ble_eq_true rfl) dX11_text_41 (fun H locs I => ?_)
      cases hf
      exact k_fin (I.fin hA) (k_ri X I hr dX11_text_44)
    · rw [if_neg c7] at hf
      by_cases c13 : x1 = 1
      · rw [if_pos c13] at hf
        refine lv_tableIn (tgt := 45) hx hb dX11_text_12 (by rw [c13]; decide) (by rw [c13]; decide) (by rw [c13]; rfl) (by decide) ?_
        refine lv_aload_n hx hb dX11_text_45 rfl (lv_at hl 0 rfl) ?_
        obtain ⟨_, g18, hf⟩ := Option.bind_eq_some_iff.mp hf
        obtain ⟨v14, h15, e16, z17, b19, hf⟩ := cA_spec hf
        refine k_VAi (As := []) (rest := []) X I (c_X11_keepLaw l g o0 e16) z17 hA b19 g18 vk_TrapCorner_136 tw_760 ⟨Nat.le_trans (by decide) hR.1, Nat.le_trans (by decide) hR.2⟩ rfl hl.1 rfl (Nat.le_of_ble_eq_true rfl) dX11_text_46 (fun H locs I => ?_)
        have hle := I.le hA b19
        cases hf
        exact k_fin (I.fin hA) (k_ri X I hr dX11_text_49)
      · rw [if_neg c13] at hf
        by_cases c20 : x1 = 2
        · rw [if_pos c20] at hf
          refine lv_tableIn (tgt := 50) hx hb dX11_text_12 (by rw [c20]; decide) (by rw [c20]; decide) (by rw [c20]; rfl) (by decide) ?_
          refine lv_aload_n hx hb dX11_text_50 rfl (lv_at hl 0 rfl) ?_
          obtain ⟨_, g25, hf⟩ := Option.bind_eq_some_iff.mp hf
          obtain ⟨v21, h22, e23, z24, b26, hf⟩ := cA_spec hf
          refine k_VAi (As := []) (rest := []) X I (c_X11_keepPlan l g o0 e23) z24 hA b26 g25 vk_TrapCorner_139 tw_780 ⟨Nat.le_trans (by decide) hR.1, Nat.le_trans (by decide) hR.2⟩ rfl hl.1 rfl (Nat.le_of_ble_eq_true rfl) dX11_text_51 (fun H locs I => ?_)
          have hle := I.le hA b26
          cases hf
          exact k_fin (I.fin hA) (k_ri X I hr dX11_text_54)
        · rw [if_neg c20] at hf
          refine lv_tableOut (tgt := 55) hx hb dX11_text_12 (sw_out (fun k k1 k2 => by rcases (show k = 0 ∨ k = 1 ∨ k = 2 by omega) with rfl | rfl | rfl <;> assumption)) (by decide) ?_
          refine lv_iconst (v := (-1)) hx hb dX11_text_55 (by decide) ?_
          cases hf
          exact k_fin (I.fin hA) (k_ri X I hr dX11_text_56)
  · rw [if_neg c6] at hf
    refine lv_iconst (v := (-1)) hx hb dX11_text_9 (by decide) ?_
    cases hf
    exact k_fin (I.fin hA) (k_ri X I hr dX11_text_10)
def f_X11_text (o0 : Nat) (x1 : Int32) (h : AH) : Option (Int32 × AH) := f_X11_text_0 o0 x1 h
end
theorem c_X11_text (l : Launch) (g : GG) (o0 : Nat) (x1 : Int32) {h : AH} {res : Int32 × AH} (hf : f_X11_text o0 x1 h = some res) : CM l g yX11_text cX11_text 2 (some (.int)) 69 4416 (res.2.1 - h.1) (res.2.2.1 - h.2.1) [.ref (rfG g o0), .int x1] h (some (.int res.1)) res.2 := by
  have hbd := (ck_spec (show ck h _ = some res from hf)).1
  exact k_body (by decide) (Nat.le_of_ble_eq_true rfl) (fun p e s m below meth c R ls hR hr X I hl => by
    obtain ⟨r1, r2, r3, r4⟩ := hR
    rw [← r3, ← r4]
    exact w_X11_text_0 X ⟨Nat.le_of_eq r1.symm, Nat.le_of_eq r2.symm⟩ hr ⟨by omega, by omega⟩ o0 x1 h ls s.heap [] 0 0 hf I (lv_sub hl [0, 1] rfl))
/-! TrapCorner$History.keep(LTrapCorner$State;)V -/
theorem dX1_keep_0 : decode cX1_keep 0 = .ok (.aload_n 0, 1) := by decide +kernel
theorem dX1_keep_1 : decode cX1_keep 1 = .ok (.aload_n 0, 1) := by decide +kernel
theorem dX1_keep_2 : decode cX1_keep 2 = .ok (.getfield 37, 3) := by decide +kernel
theorem dX1_keep_5 : decode cX1_keep 5 = .ok (.iconst 1, 1) := by decide +kernel
theorem dX1_keep_6 : decode cX1_keep 6 = .ok (.iadd, 1) := by decide +kernel
theorem dX1_keep_7 : decode cX1_keep 7 = .ok (.bipush 40, 2) := by decide +kernel
theorem dX1_keep_9 : decode cX1_keep 9 = .ok (.if_icmp .ge 12, 3) := by decide +kernel
theorem dX1_keep_12 : decode cX1_keep 12 = .ok (.aload_n 0, 1) := by decide +kernel
theorem dX1_keep_13 : decode cX1_keep 13 = .ok (.getfield 37, 3) := by decide +kernel
theorem dX1_keep_16 : decode cX1_keep 16 = .ok (.iconst 1, 1) := by decide +kernel
theorem dX1_keep_17 : decode cX1_keep 17 = .ok (.iadd, 1) := by decide +kernel
theorem dX1_keep_18 : decode cX1_keep 18 = .ok (.goto 4, 3) := by decide +kernel
theorem dX1_keep_21 : decode cX1_keep 21 = .ok (.iconst 0, 1) := by decide +kernel
theorem dX1_keep_22 : decode cX1_keep 22 = .ok (.putfield 37, 3) := by decide +kernel
theorem dX1_keep_25 : decode cX1_keep 25 = .ok (.aload_n 0, 1) := by decide +kernel
theorem dX1_keep_26 : decode cX1_keep 26 = .ok (.getfield 11, 3) := by decide +kernel
theorem dX1_keep_29 : decode cX1_keep 29 = .ok (.aload_n 0, 1) := by decide +kernel
theorem dX1_keep_30 : decode cX1_keep 30 = .ok (.getfield 37, 3) := by decide +kernel
theorem dX1_keep_33 : decode cX1_keep 33 = .ok (.aaload, 1) := by decide +kernel
theorem dX1_keep_34 : decode cX1_keep 34 = .ok (.astore_n 2, 1) := by decide +kernel
theorem dX1_keep_35 : decode cX1_keep 35 = .ok (.aload_n 2, 1) := by decide +kernel
theorem dX1_keep_36 : decode cX1_keep 36 = .ok (.ifnonnull 21, 3) := by decide +kernel
theorem dX1_keep_39 : decode cX1_keep 39 = .ok (.new 9, 3) := by decide +kernel
theorem dX1_keep_42 : decode cX1_keep 42 = .ok (.dup, 1) := by decide +kernel
theorem dX1_keep_43 : decode cX1_keep 43 = .ok (.invokespecial 21, 3) := by decide +kernel
theorem dX1_keep_46 : decode cX1_keep 46 = .ok (.astore_n 2, 1) := by decide +kernel
theorem dX1_keep_47 : decode cX1_keep 47 = .ok (.aload_n 0, 1) := by decide +kernel
theorem dX1_keep_48 : decode cX1_keep 48 = .ok (.getfield 11, 3) := by decide +kernel
theorem dX1_keep_51 : decode cX1_keep 51 = .ok (.aload_n 0, 1) := by decide +kernel
theorem dX1_keep_52 : decode cX1_keep 52 = .ok (.getfield 37, 3) := by decide +kernel
theorem dX1_keep_55 : decode cX1_keep 55 = .ok (.aload_n 2, 1) := by decide +kernel
theorem dX1_keep_56 : decode cX1_keep 56 = .ok (.aastore, 1) := by decide +kernel
theorem dX1_keep_57 : decode cX1_keep 57 = .ok (.aload_n 2, 1) := by decide +kernel
theorem dX1_keep_58 : decode cX1_keep 58 = .ok (.aload_n 1, 1) := by decide +kernel
theorem dX1_keep_59 : decode cX1_keep 59 = .ok (.invokevirtual 40, 3) := by decide +kernel
theorem dX1_keep_62 : decode cX1_keep 62 = .ok (.aload_n 0, 1) := by decide +kernel
theorem dX1_keep_63 : decode cX1_keep 63 = .ok (.bipush 40, 2) := by decide +kernel
theorem dX1_keep_65 : decode cX1_keep 65 = .ok (.aload_n 0, 1) := by decide +kernel
theorem dX1_keep_66 : decode cX1_keep 66 = .ok (.getfield 29, 3) := by decide +kernel
theorem dX1_keep_69 : decode cX1_keep 69 = .ok (.iconst 1, 1) := by decide +kernel
theorem dX1_keep_70 : decode cX1_keep 70 = .ok (.iadd, 1) := by decide +kernel
theorem dX1_keep_71 : decode cX1_keep 71 = .ok (.invokestatic 44, 3) := by decide +kernel
theorem dX1_keep_74 : decode cX1_keep 74 = .ok (.putfield 29, 3) := by decide +kernel
theorem dX1_keep_77 : decode cX1_keep 77 = .ok (.return_, 1) := by decide +kernel
theorem sk_TrapCorner_History_44 : SK "TrapCorner$History" 44 yJ9_min_7cf53 2 := ⟨tw_893, tw_528, tw_17, ⟨by decide, by decide⟩, by decide +kernel⟩
section
variable {g : GG} {p : Program} {l : Launch} {e : Env} {R : Room} {s : State} {m : MethodId} {args : Array Value} {below : List Frame} {meth : Method} {c : Code} {n0 z0 : Nat}
def f_X1_keep_57  (o0 : Nat) (o1 : Nat) (o2 : Nat) (h : AH) : Option (Unit × AH) :=
  ck h (
  (isC [8] h o2).bind fun _ =>
  cN (f_X8_copyFrom o2 o1 h) h fun _ h2 =>
  (gI [1] h2 o0 2).bind fun v6 =>
  cN (f_J9_min_7cf53 40 (v6 + 1) h2) h2 fun v8 h9 =>
  (pV [1] h9 o0 2 (.int v8)).bind fun h12 =>
  some ((), h12))
set_option maxHeartbeats 1000000 in
theorem w_X1_keep_57 (X : Cx g p s m args meth c cX1_keep 3 "TrapCorner$History") (hR : 2 ≤ R.frames ∧ 128 ≤ R.locals) (hr : meth.sig.returnType = none) {res : Unit × AH} (hA : R.cells + n0 = res.2.1 ∧ R.slots + z0 = res.2.2.1) : ∀ (o0 : Nat) (o1 : Nat) (o2 : Nat) (h : AH) (ls : Array Slot) (H : Heap) (locs : List Loc) (cells slots : Nat), f_X1_keep_57 o0 o1 o2 h = some res → Iv g s n0 z0 h H locs cells slots → lv_has ls 3 [(0, .ref (rfG g o0)), (1, .ref (rfG g o1)), (2, .ref (rfG g o2))] → W p l e R s m args below meth c H locs cells slots (MQ below (QG g none res.2) args s R.cells R.slots (AG g)) (F0 m 57 ls []) := by
  have hx := X.1
  have hb := X.2.1
  intro o0 o1 o2 h ls H locs cells slots hf I hl
  unfold f_X1_keep_57 at hf
  obtain ⟨hbd, hf⟩ := ck_spec hf
  have hle := I.le hA hbd
  refine lv_aload_n hx hb dX1_keep_57 rfl (lv_at hl 2 rfl) ?_
  refine lv_aload_n hx hb dX1_keep_58 rfl (lv_at hl 1 rfl) ?_
  obtain ⟨_, g5, hf⟩ := Option.bind_eq_some_iff.mp hf
  obtain ⟨⟨⟩, h2, e3, z4, hf⟩ := cN_spec hf
  refine k_Vv (As := [.ref (rfG g o1)]) (rest := []) X I (c_X8_copyFrom l g o2 o1 e3) z4 g5 vk_TrapCorner_History_40 tw_892 ⟨Nat.le_trans (by decide) hR.1, Nat.le_trans (by decide) hR.2⟩ hle rfl hl.1 rfl (Nat.le_of_ble_eq_true rfl) dX1_keep_59 (fun H locs I => ?_)
  refine lv_aload_n hx hb dX1_keep_62 rfl (lv_at hl 0 rfl) ?_
  refine lv_bipush (v := 40) hx hb dX1_keep_63 (by decide) ?_
  refine lv_aload_n hx hb dX1_keep_65 rfl (lv_at hl 0 rfl) ?_
  obtain ⟨v6, e7, hf⟩ := Option.bind_eq_some_iff.mp hf
  refine r_gI X I e7 lk_TrapCorner_History_29 dX1_keep_66 ?_
  refine lv_iconst (v := 1) hx hb dX1_keep_69 (by decide) ?_
  refine lv_iadd hx hb dX1_keep_70 ?_
  obtain ⟨v8, h9, e10, z11, hf⟩ := cN_spec hf
  refine k_Si (As := [.int 40, .int (v6 + 1)]) (rest := [.ref (rfG g o0)]) X I (c_J9_min_7cf53 l g 40 (v6 + 1) e10) z11 sk_TrapCorner_History_44 tw_529 ⟨Nat.le_trans (by decide) hR.1, Nat.le_trans (by decide) hR.2⟩ hle rfl hl.1 rfl (Nat.le_of_ble_eq_true rfl) dX1_keep_71 (fun H locs I => ?_)
  obtain ⟨h12, e13, hf⟩ := Option.bind_eq_some_iff.mp hf
  refine r_pI X I e13 lp_TrapCorner_History_29 dX1_keep_74 (fun H locs I => ?_)
  cases hf
  exact k_fin (I.fin hA) (k_rv X I hr dX1_keep_77)
def f_X1_keep_22  (o0 : Nat) (o1 : Nat) (s0 : Nat) (s1 : Int32) (h : AH) : Option (Unit × AH) :=
  ck h (
  (pV [1] h s0 1 (.int s1)).bind fun h1 =>
  (gR [1] h1 o0 0).bind fun v3 =>
  (gI [1] h1 o0 1).bind fun v5 =>
  (aQ 4 h1 v3 v5).bind fun v7 =>
  match v7 with
  | none =>
    nO 8 8 [.null, .null, .null, .null, .null, .int 0, .int 0, .int 0] h1 fun w10 h11 =>
    cA (f_X8_init w10 h11) h11 fun _ h14 =>
    (gR [1] h14 o0 0).bind fun v18 =>
    (gI [1] h14 o0 1).bind fun v20 =>
    (uQ 4 h14 v18 v20 w10).bind fun h22 =>
    f_X1_keep_57 o0 o1 w10 h22
  | some o9 =>
    f_X1_keep_57 o0 o1 o9 h1)
set_option maxHeartbeats 1000000 in
theorem w_X1_keep_22 (X : Cx g p s m args meth c cX1_keep 3 "TrapCorner$History") (hR : 2 ≤ R.frames ∧ 128 ≤ R.locals) (hr : meth.sig.returnType = none) {res : Unit × AH} (hA : R.cells + n0 = res.2.1 ∧ R.slots + z0 = res.2.2.1) : ∀ (o0 : Nat) (o1 : Nat) (s0 : Nat) (s1 : Int32) (h : AH) (ls : Array Slot) (H : Heap) (locs : List Loc) (cells slots : Nat), f_X1_keep_22 o0 o1 s0 s1 h = some res → Iv g s n0 z0 h H locs cells slots → lv_has ls 3 [(0, .ref (rfG g o0)), (1, .ref (rfG g o1))] → W p l e R s m args below meth c H locs cells slots (MQ below (QG g none res.2) args s R.cells R.slots (AG g)) (F0 m 22 ls [.int s1, .ref (rfG g s0)]) := by
  have hx := X.1
  have hb := X.2.1
  intro o0 o1 s0 s1 h ls H locs cells slots hf I hl
  unfold f_X1_keep_22 at hf
  obtain ⟨hbd, hf⟩ := ck_spec hf
  have hle := I.le hA hbd
  obtain ⟨h1, e2, hf⟩ := Option.bind_eq_some_iff.mp hf
  refine r_pI X I e2 lp_TrapCorner_History_37 dX1_keep_22 (fun H locs I => ?_)
  refine lv_aload_n hx hb dX1_keep_25 rfl (lv_at hl 0 rfl) ?_
  obtain ⟨v3, e4, hf⟩ := Option.bind_eq_some_iff.mp hf
  refine r_gR X I e4 lk_TrapCorner_History_11 dX1_keep_26 ?_
  refine lv_aload_n hx hb dX1_keep_29 rfl (lv_at hl 0 rfl) ?_
  obtain ⟨v5, e6, hf⟩ := Option.bind_eq_some_iff.mp hf
  refine r_gI X I e6 lk_TrapCorner_History_37 dX1_keep_30 ?_
  obtain ⟨v7, e8, hf⟩ := Option.bind_eq_some_iff.mp hf
  refine r_aQ4 X I e8 dX1_keep_33 ?_
  cases v7 with
  | none =>
    dsimp only at hf
    refine lv_astore_nN (lv' := [(2, .null), (0, .ref (rfG g o0)), (1, .ref (rfG g o1))]) hx hb dX1_keep_34 rfl hl (by decide) rfl (fun ls hl => ?_)
    refine lv_aload_nN hx hb dX1_keep_35 rfl (lv_at hl 0 rfl) ?_
    refine lv_ifnonnullN hx hb dX1_keep_36 ?_
    obtain ⟨w10, h11, e12, b13, hf⟩ := nO_ex hf
    refine r_nO X I e12 hA b13 ck_8 tyX8 tyX8_ok tw_247 tw_195 tw_8 (df_8 g) dX1_keep_39 (fun H I => ?_)
    have hle := I.le hA b13
    refine lv_dup hx hb dX1_keep_42 rfl ?_
    obtain ⟨⟨⟩, h14, e15, z16, b17, hf⟩ := cA_spec hf
    refine k_INAv (n := 0) (As := []) (rest := [.ref (rfG g w10)]) X I (c_X8_init l g w10 e15) z16 hA b17 (by decide) rfl tw_197 tw_8 ⟨by decide, by decide⟩ (by decide +kernel) tw_198 ⟨Nat.le_trans (by decide) hR.1, Nat.le_trans (by decide) hR.2⟩ rfl hl.1 rfl (Nat.le_of_ble_eq_true rfl) dX1_keep_43 (fun H locs I => ?_)
    have hle := I.le hA b17
    refine lv_astore_n (lv' := [(2, .ref (rfG g w10)), (0, .ref (rfG g o0)), (1, .ref (rfG g o1))]) hx hb dX1_keep_46 rfl hl (by decide) rfl (fun ls hl => ?_)
    refine lv_aload_n hx hb dX1_keep_47 rfl (lv_at hl 1 rfl) ?_
    obtain ⟨v18, e19, hf⟩ := Option.bind_eq_some_iff.mp hf
    refine r_gR X I e19 lk_TrapCorner_History_11 dX1_keep_48 ?_
    refine lv_aload_n hx hb dX1_keep_51 rfl (lv_at hl 1 rfl) ?_
    obtain ⟨v20, e21, hf⟩ := Option.bind_eq_some_iff.mp hf
    refine r_gI X I e21 lk_TrapCorner_History_37 dX1_keep_52 ?_
    refine lv_aload_n hx hb dX1_keep_55 rfl (lv_at hl 0 rfl) ?_
    obtain ⟨h22, e23, hf⟩ := Option.bind_eq_some_iff.mp hf
    refine r_uQ4 X I e23 dX1_keep_56 (fun H locs I => ?_)
    exact w_X1_keep_57 X hR hr hA o0 o1 w10 h22 ls H locs _ _ hf I (lv_sub hl [1, 2, 0] rfl)
  | some o9 =>
    dsimp only at hf
    refine lv_astore_n (lv' := [(2, .ref (rfG g o9)), (0, .ref (rfG g o0)), (1, .ref (rfG g o1))]) hx hb dX1_keep_34 rfl hl (by decide) rfl (fun ls hl => ?_)
    refine lv_aload_n hx hb dX1_keep_35 rfl (lv_at hl 0 rfl) ?_
    refine lv_ifnonnull (tgt := 57) hx hb dX1_keep_36 (by decide) ?_
    exact w_X1_keep_57 X hR hr hA o0 o1 o9 h1 ls H locs _ _ hf I (lv_sub hl [1, 2, 0] rfl)
def f_X1_keep_0  (o0 : Nat) (o1 : Nat) (h : AH) : Option (Unit × AH) :=
  ck h (
  (gI [1] h o0 1).bind fun v1 =>
  if 40 ≤ (v1 + 1) then
    f_X1_keep_22 o0 o1 o0 0 h
  else
    (gI [1] h o0 1).bind fun v4 =>
    f_X1_keep_22 o0 o1 o0 (v4 + 1) h)
set_option maxHeartbeats 1000000 in
theorem w_X1_keep_0 (X : Cx g p s m args meth c cX1_keep 3 "TrapCorner$History") (hR : 2 ≤ R.frames ∧ 128 ≤ R.locals) (hr : meth.sig.returnType = none) {res : Unit × AH} (hA : R.cells + n0 = res.2.1 ∧ R.slots + z0 = res.2.2.1) : ∀ (o0 : Nat) (o1 : Nat) (h : AH) (ls : Array Slot) (H : Heap) (locs : List Loc) (cells slots : Nat), f_X1_keep_0 o0 o1 h = some res → Iv g s n0 z0 h H locs cells slots → lv_has ls 3 [(0, .ref (rfG g o0)), (1, .ref (rfG g o1))] → W p l e R s m args below meth c H locs cells slots (MQ below (QG g none res.2) args s R.cells R.slots (AG g)) (F0 m 0 ls []) := by
  have hx := X.1
  have hb := X.2.1
  intro o0 o1 h ls H locs cells slots hf I hl
  unfold f_X1_keep_0 at hf
  obtain ⟨hbd, hf⟩ := ck_spec hf
  have hle := I.le hA hbd
  refine lv_aload_n hx hb dX1_keep_0 rfl (lv_at hl 0 rfl) ?_
  refine lv_aload_n hx hb dX1_keep_1 rfl (lv_at hl 0 rfl) ?_
  obtain ⟨v1, e2, hf⟩ := Option.bind_eq_some_iff.mp hf
  refine r_gI X I e2 lk_TrapCorner_History_37 dX1_keep_2 ?_
  refine lv_iconst (v := 1) hx hb dX1_keep_5 (by decide) ?_
  refine lv_iadd hx hb dX1_keep_6 ?_
  refine lv_bipush (v := 40) hx hb dX1_keep_7 (by decide) ?_
  refine lv_icmp_ge (tgt := 21) hx hb dX1_keep_9 (by decide) (fun c3 => ?_) (fun c3 => ?_)
  · rw [if_pos c3] at hf
    refine lv_iconst (v := 0) hx hb dX1_keep_21 (by decide) ?_
    exact w_X1_keep_22 X hR hr hA o0 o1 o0 0 h ls H locs _ _ hf I (lv_sub hl [0, 1] rfl)
  · rw [if_neg c3] at hf
    refine lv_aload_n hx hb dX1_keep_12 rfl (lv_at hl 0 rfl) ?_
    obtain ⟨v4, e5, hf⟩ := Option.bind_eq_some_iff.mp hf
    refine r_gI X I e5 lk_TrapCorner_History_37 dX1_keep_13 ?_
    refine lv_iconst (v := 1) hx hb dX1_keep_16 (by decide) ?_
    refine lv_iadd hx hb dX1_keep_17 ?_
    refine lv_goto (tgt := 22) hx hb dX1_keep_18 (by decide) ?_
    exact w_X1_keep_22 X hR hr hA o0 o1 o0 (v4 + 1) h ls H locs _ _ hf I (lv_sub hl [0, 1] rfl)
def f_X1_keep (o0 : Nat) (o1 : Nat) (h : AH) : Option (Unit × AH) := f_X1_keep_0 o0 o1 h
end
theorem c_X1_keep (l : Launch) (g : GG) (o0 : Nat) (o1 : Nat) {h : AH} {res : Unit × AH} (hf : f_X1_keep o0 o1 h = some res) : CM l g yX1_keep cX1_keep 3 none 2 128 (res.2.1 - h.1) (res.2.2.1 - h.2.1) [.ref (rfG g o0), .ref (rfG g o1)] h none res.2 := by
  have hbd := (ck_spec (show ck h _ = some res from hf)).1
  exact k_body (by decide) (Nat.le_of_ble_eq_true rfl) (fun p e s m below meth c R ls hR hr X I hl => by
    obtain ⟨r1, r2, r3, r4⟩ := hR
    rw [← r3, ← r4]
    exact w_X1_keep_0 X ⟨Nat.le_of_eq r1.symm, Nat.le_of_eq r2.symm⟩ hr ⟨by omega, by omega⟩ o0 o1 h ls s.heap [] 0 0 hf I (lv_sub hl [0, 1] rfl))
/-! TrapCorner.act(III)V -/
theorem dX11_act_0 : decode cX11_act 0 = .ok (.aload_n 0, 1) := by decide +kernel
theorem dX11_act_1 : decode cX11_act 1 = .ok (.getfield 59, 3) := by decide +kernel
theorem dX11_act_4 : decode cX11_act 4 = .ok (.aload_n 0, 1) := by decide +kernel
theorem dX11_act_5 : decode cX11_act 5 = .ok (.getfield 49, 3) := by decide +kernel
theorem dX11_act_8 : decode cX11_act 8 = .ok (.invokevirtual 292, 3) := by decide +kernel
theorem dX11_act_11 : decode cX11_act 11 = .ok (.aload_n 0, 1) := by decide +kernel
theorem dX11_act_12 : decode cX11_act 12 = .ok (.aload_n 0, 1) := by decide +kernel
theorem dX11_act_13 : decode cX11_act 13 = .ok (.getfield 49, 3) := by decide +kernel
theorem dX11_act_16 : decode cX11_act 16 = .ok (.iload_n 1, 1) := by decide +kernel
theorem dX11_act_17 : decode cX11_act 17 = .ok (.iload_n 2, 1) := by decide +kernel
theorem dX11_act_18 : decode cX11_act 18 = .ok (.iload_n 3, 1) := by decide +kernel
theorem dX11_act_19 : decode cX11_act 19 = .ok (.invokevirtual 303, 3) := by decide +kernel
theorem dX11_act_22 : decode cX11_act 22 = .ok (.iload_n 1, 1) := by decide +kernel
theorem dX11_act_23 : decode cX11_act 23 = .ok (.ifCond .ne 7, 3) := by decide +kernel
theorem dX11_act_26 : decode cX11_act 26 = .ok (.aload_n 0, 1) := by decide +kernel
theorem dX11_act_27 : decode cX11_act 27 = .ok (.invokevirtual 307, 3) := by decide +kernel
theorem dX11_act_30 : decode cX11_act 30 = .ok (.return_, 1) := by decide +kernel
theorem vk_TrapCorner_292 : VK "TrapCorner" 292 [1] yX1_keep 1 := ⟨tw_885, tw_886, tw_9, ⟨by decide, by decide⟩, by decide +kernel, fun ci hci => by
  have hci := List.mem_singleton.mp hci
  subst hci
  exact ⟨_, rfl, tw_887⟩⟩
theorem vk_TrapCorner_307 : VK "TrapCorner" 307 [11] yX11_writeRow 0 := ⟨tw_947, tw_949, tw_1, ⟨by decide, by decide⟩, by decide +kernel, fun ci hci => by
  have hci := List.mem_singleton.mp hci
  subst hci
  exact ⟨_, rfl, tp_31⟩⟩
section
variable {g : GG} {p : Program} {l : Launch} {e : Env} {R : Room} {s : State} {m : MethodId} {args : Array Value} {below : List Frame} {meth : Method} {c : Code} {n0 z0 : Nat}
def f_X11_act_0  (o0 : Nat) (x1 : Int32) (x2 : Int32) (x3 : Int32) (h : AH) : Option (Unit × AH) :=
  ck h (
  (gR [11] h o0 7).bind fun v1 =>
  (gR [11] h o0 5).bind fun v3 =>
  (isC [1] h v1).bind fun _ =>
  cA (f_X1_keep v1 v3 h) h fun _ h6 =>
  (gR [11] h6 o0 5).bind fun v11 =>
  (isC [11] h6 o0).bind fun _ =>
  cN (f_X11_doStep o0 v11 x1 x2 x3 h6) h6 fun _ h14 =>
  if x1 = 0 then
    (isC [11] h14 o0).bind fun _ =>
    cN (f_X11_writeRow o0 h14) h14 fun _ h20 =>
    some ((), h20)
  else
    some ((), h14))
set_option maxHeartbeats 1000000 in
theorem w_X11_act_0 (X : Cx g p s m args meth c cX11_act 4 "TrapCorner") (hR : 7 ≤ R.frames ∧ 448 ≤ R.locals) (hr : meth.sig.returnType = none) {res : Unit × AH} (hA : R.cells + n0 = res.2.1 ∧ R.slots + z0 = res.2.2.1) : ∀ (o0 : Nat) (x1 : Int32) (x2 : Int32) (x3 : Int32) (h : AH) (ls : Array Slot) (H : Heap) (locs : List Loc) (cells slots : Nat), f_X11_act_0 o0 x1 x2 x3 h = some res → Iv g s n0 z0 h H locs cells slots → lv_has ls 4 [(0, .ref (rfG g o0)), (1, .int x1), (2, .int x2), (3, .int x3)] → W p l e R s m args below meth c H locs cells slots (MQ below (QG g none res.2) args s R.cells R.slots (AG g)) (F0 m 0 ls []) := by
  have hx := X.1
  have hb := X.2.1
  intro o0 x1 x2 x3 h ls H locs cells slots hf I hl
  unfold f_X11_act_0 at hf
  obtain ⟨hbd, hf⟩ := ck_spec hf
  have hle := I.le hA hbd
  refine lv_aload_n hx hb dX11_act_0 rfl (lv_at hl 0 rfl) ?_
  obtain ⟨v1, e2, hf⟩ := Option.bind_eq_some_iff.mp hf
  refine r_gR X I e2 lk_TrapCorner_59 dX11_act_1 ?_
  refine lv_aload_n hx hb dX11_act_4 rfl (lv_at hl 0 rfl) ?_
  obtain ⟨v3, e4, hf⟩ := Option.bind_eq_some_iff.mp hf
  refine r_gR X I e4 lk_TrapCorner_49 dX11_act_5 ?_
  obtain ⟨_, g9, hf⟩ := Option.bind_eq_some_iff.mp hf
  obtain ⟨⟨⟩, h6, e7, z8, b10, hf⟩ := cA_spec hf
  refine k_VAv (As := [.ref (rfG g v3)]) (rest := []) X I (c_X1_keep l g v1 v3 e7) z8 hA b10 g9 vk_TrapCorner_292 tw_888 ⟨Nat.le_trans (by decide) hR.1, Nat.le_trans (by decide) hR.2⟩ rfl hl.1 rfl (Nat.le_of_ble_eq_true rfl) dX11_act_8 (fun H locs I => ?_)
  have hle := I.le hA b10
  refine lv_aload_n hx hb dX11_act_11 rfl (lv_at hl 0 rfl) ?_
  refine lv_aload_n hx hb dX11_act_12 rfl (lv_at hl 0 rfl) ?_
  obtain ⟨v11, e12, hf⟩ := Option.bind_eq_some_iff.mp hf
  refine r_gR X I e12 lk_TrapCorner_49 dX11_act_13 ?_
  refine lv_iload_n hx hb dX11_act_16 rfl (lv_at hl 1 rfl) ?_
  refine lv_iload_n hx hb dX11_act_17 rfl (lv_at hl 2 rfl) ?_
  refine lv_iload_n hx hb dX11_act_18 rfl (lv_at hl 3 rfl) ?_
  obtain ⟨_, g17, hf⟩ := Option.bind_eq_some_iff.mp hf
  obtain ⟨⟨⟩, h14, e15, z16, hf⟩ := cN_spec hf
  refine k_Vv (As := [.ref (rfG g v11), .int x1, .int x2, .int x3]) (rest := []) X I (c_X11_doStep l g o0 v11 x1 x2 x3 e15) z16 g17 vk_TrapCorner_303 tw_897 ⟨Nat.le_trans (by decide) hR.1, Nat.le_trans (by decide) hR.2⟩ hle rfl hl.1 rfl (Nat.le_of_ble_eq_true rfl) dX11_act_19 (fun H locs I => ?_)
  refine lv_iload_n hx hb dX11_act_22 rfl (lv_at hl 1 rfl) ?_
  refine lv_if_ne (tgt := 30) hx hb dX11_act_23 (by decide) (fun c18 => ?_) (fun c18 => ?_)
  · rw [if_neg c18] at hf
    cases hf
    exact k_fin (I.fin hA) (k_rv X I hr dX11_act_30)
  · rw [if_pos c18] at hf
    refine lv_aload_n hx hb dX11_act_26 rfl (lv_at hl 0 rfl) ?_
    obtain ⟨_, g23, hf⟩ := Option.bind_eq_some_iff.mp hf
    obtain ⟨⟨⟩, h20, e21, z22, hf⟩ := cN_spec hf
    refine k_Vv (As := []) (rest := []) X I (c_X11_writeRow l g o0 e21) z22 g23 vk_TrapCorner_307 tw_950 ⟨Nat.le_trans (by decide) hR.1, Nat.le_trans (by decide) hR.2⟩ hle rfl hl.1 rfl (Nat.le_of_ble_eq_true rfl) dX11_act_27 (fun H locs I => ?_)
    cases hf
    exact k_fin (I.fin hA) (k_rv X I hr dX11_act_30)
def f_X11_act (o0 : Nat) (x1 : Int32) (x2 : Int32) (x3 : Int32) (h : AH) : Option (Unit × AH) := f_X11_act_0 o0 x1 x2 x3 h
end
theorem c_X11_act (l : Launch) (g : GG) (o0 : Nat) (x1 : Int32) (x2 : Int32) (x3 : Int32) {h : AH} {res : Unit × AH} (hf : f_X11_act o0 x1 x2 x3 h = some res) : CM l g yX11_act cX11_act 4 none 7 448 (res.2.1 - h.1) (res.2.2.1 - h.2.1) [.ref (rfG g o0), .int x1, .int x2, .int x3] h none res.2 := by
  have hbd := (ck_spec (show ck h _ = some res from hf)).1
  exact k_body (by decide) (Nat.le_of_ble_eq_true rfl) (fun p e s m below meth c R ls hR hr X I hl => by
    obtain ⟨r1, r2, r3, r4⟩ := hR
    rw [← r3, ← r4]
    exact w_X11_act_0 X ⟨Nat.le_of_eq r1.symm, Nat.le_of_eq r2.symm⟩ hr ⟨by omega, by omega⟩ o0 x1 x2 x3 h ls s.heap [] 0 0 hf I (lv_sub hl [0, 1, 2, 3] rfl))
/-! TrapCorner.day()I -/
theorem dX11_day_0 : decode cX11_day 0 = .ok (.aload_n 0, 1) := by decide +kernel
theorem dX11_day_1 : decode cX11_day 1 = .ok (.aload_n 0, 1) := by decide +kernel
theorem dX11_day_2 : decode cX11_day 2 = .ok (.getfield 49, 3) := by decide +kernel
theorem dX11_day_5 : decode cX11_day 5 = .ok (.iconst 0, 1) := by decide +kernel
theorem dX11_day_6 : decode cX11_day 6 = .ok (.iconst 0, 1) := by decide +kernel
theorem dX11_day_7 : decode cX11_day 7 = .ok (.iconst 0, 1) := by decide +kernel
theorem dX11_day_8 : decode cX11_day 8 = .ok (.invokevirtual 276, 3) := by decide +kernel
theorem dX11_day_11 : decode cX11_day 11 = .ok (.ifCond .ne 5, 3) := by decide +kernel
theorem dX11_day_14 : decode cX11_day 14 = .ok (.iconst (-1), 1) := by decide +kernel
theorem dX11_day_15 : decode cX11_day 15 = .ok (.ireturn, 1) := by decide +kernel
theorem dX11_day_16 : decode cX11_day 16 = .ok (.aload_n 0, 1) := by decide +kernel
theorem dX11_day_17 : decode cX11_day 17 = .ok (.iconst 0, 1) := by decide +kernel
theorem dX11_day_18 : decode cX11_day 18 = .ok (.iconst 0, 1) := by decide +kernel
theorem dX11_day_19 : decode cX11_day 19 = .ok (.iconst 0, 1) := by decide +kernel
theorem dX11_day_20 : decode cX11_day 20 = .ok (.invokevirtual 280, 3) := by decide +kernel
theorem dX11_day_23 : decode cX11_day 23 = .ok (.aload_n 0, 1) := by decide +kernel
theorem dX11_day_24 : decode cX11_day 24 = .ok (.getfield 75, 3) := by decide +kernel
theorem dX11_day_27 : decode cX11_day 27 = .ok (.getfield 284, 3) := by decide +kernel
theorem dX11_day_30 : decode cX11_day 30 = .ok (.invokestatic 287, 3) := by decide +kernel
theorem dX11_day_33 : decode cX11_day 33 = .ok (.ireturn, 1) := by decide +kernel
theorem vk_TrapCorner_280 : VK "TrapCorner" 280 [11] yX11_act 3 := ⟨tw_881, tw_883, tw_1, ⟨by decide, by decide⟩, by decide +kernel, fun ci hci => by
  have hci := List.mem_singleton.mp hci
  subst hci
  exact ⟨_, rfl, tp_25⟩⟩
section
variable {g : GG} {p : Program} {l : Launch} {e : Env} {R : Room} {s : State} {m : MethodId} {args : Array Value} {below : List Frame} {meth : Method} {c : Code} {n0 z0 : Nat}
def f_X11_day_0  (o0 : Nat) (h : AH) : Option (Int32 × AH) :=
  ck h (
  (gR [11] h o0 5).bind fun v1 =>
  (isC [11] h o0).bind fun _ =>
  cN (f_X11_canBe o0 v1 0 0 0 h) h fun v3 h4 =>
  if v3 = 0 then
    some ((-1), h4)
  else
    (isC [11] h4 o0).bind fun _ =>
    cA (f_X11_act o0 0 0 0 h4) h4 fun _ h10 =>
    (gR [11] h10 o0 9).bind fun v15 =>
    (gI [6] h10 v15 3).bind fun v17 =>
    cN (f_J6_bitCount_0f7a4 v17 h10) h10 fun v19 h20 =>
    some (v19, h20))
set_option maxHeartbeats 1000000 in
theorem w_X11_day_0 (X : Cx g p s m args meth c cX11_day 1 "TrapCorner") (hR : 8 ≤ R.frames ∧ 512 ≤ R.locals) (hr : meth.sig.returnType = (some (.int))) {res : Int32 × AH} (hA : R.cells + n0 = res.2.1 ∧ R.slots + z0 = res.2.2.1) : ∀ (o0 : Nat) (h : AH) (ls : Array Slot) (H : Heap) (locs : List Loc) (cells slots : Nat), f_X11_day_0 o0 h = some res → Iv g s n0 z0 h H locs cells slots → lv_has ls 1 [(0, .ref (rfG g o0))] → W p l e R s m args below meth c H locs cells slots (MQ below (QG g (some (.int res.1)) res.2) args s R.cells R.slots (AG g)) (F0 m 0 ls []) := by
  have hx := X.1
  have hb := X.2.1
  intro o0 h ls H locs cells slots hf I hl
  unfold f_X11_day_0 at hf
  obtain ⟨hbd, hf⟩ := ck_spec hf
  have hle := I.le hA hbd
  refine lv_aload_n hx hb dX11_day_0 rfl (lv_at hl 0 rfl) ?_
  refine lv_aload_n hx hb dX11_day_1 rfl (lv_at hl 0 rfl) ?_
  obtain ⟨v1, e2, hf⟩ := Option.bind_eq_some_iff.mp hf
  refine r_gR X I e2 lk_TrapCorner_49 dX11_day_2 ?_
  refine lv_iconst (v := 0) hx hb dX11_day_5 (by decide) ?_
  refine lv_iconst (v := 0) hx hb dX11_day_6 (by decide) ?_
  refine lv_iconst (v := 0) hx hb dX11_day_7 (by decide) ?_
  obtain ⟨_, g7, hf⟩ := Option.bind_eq_some_iff.mp hf
  obtain ⟨v3, h4, e5, z6, hf⟩ := cN_spec hf
  refine k_Vi (As := [.ref (rfG g v1), .int 0, .int 0, .int 0]) (rest := []) X I (c_X11_canBe l g o0 v1 0 0 0 e5) z6 g7 vk_TrapCorner_276 tw_870 ⟨Nat.le_trans (by decide) hR.1, Nat.le_trans (by decide) hR.2⟩ hle rfl hl.1 rfl (Nat.le_of_ble_eq_true rfl) dX11_day_8 (fun H locs I => ?_)
  refine lv_if_ne (tgt := 16) hx hb dX11_day_11 (by decide) (fun c8 => ?_) (fun c8 => ?_)
  · rw [if_neg c8] at hf
    refine lv_aload_n hx hb dX11_day_16 rfl (lv_at hl 0 rfl) ?_
    refine lv_iconst (v := 0) hx hb dX11_day_17 (by decide) ?_
    refine lv_iconst (v := 0) hx hb dX11_day_18 (by decide) ?_
    refine lv_iconst (v := 0) hx hb dX11_day_19 (by decide) ?_
    obtain ⟨_, g13, hf⟩ := Option.bind_eq_some_iff.mp hf
    obtain ⟨⟨⟩, h10, e11, z12, b14, hf⟩ := cA_spec hf
    refine k_VAv (As := [.int 0, .int 0, .int 0]) (rest := []) X I (c_X11_act l g o0 0 0 0 e11) z12 hA b14 g13 vk_TrapCorner_280 tw_884 ⟨Nat.le_trans (by decide) hR.1, Nat.le_trans (by decide) hR.2⟩ rfl hl.1 rfl (Nat.le_of_ble_eq_true rfl) dX11_day_20 (fun H locs I => ?_)
    have hle := I.le hA b14
    refine lv_aload_n hx hb dX11_day_23 rfl (lv_at hl 0 rfl) ?_
    obtain ⟨v15, e16, hf⟩ := Option.bind_eq_some_iff.mp hf
    refine r_gR X I e16 lk_TrapCorner_75 dX11_day_24 ?_
    obtain ⟨v17, e18, hf⟩ := Option.bind_eq_some_iff.mp hf
    refine r_gI X I e18 lk_TrapCorner_284 dX11_day_27 ?_
    obtain ⟨v19, h20, e21, z22, hf⟩ := cN_spec hf
    refine k_Si (As := [.int v17]) (rest := []) X I (c_J6_bitCount_0f7a4 l g v17 e21) z22 sk_TrapCorner_287 tw_957 ⟨Nat.le_trans (by decide) hR.1, Nat.le_trans (by decide) hR.2⟩ hle rfl hl.1 rfl (Nat.le_of_ble_eq_true rfl) dX11_day_30 (fun H locs I => ?_)
    cases hf
    exact k_fin (I.fin hA) (k_ri X I hr dX11_day_33)
  · rw [if_pos c8] at hf
    refine lv_iconst (v := (-1)) hx hb dX11_day_14 (by decide) ?_
    cases hf
    exact k_fin (I.fin hA) (k_ri X I hr dX11_day_15)
def f_X11_day (o0 : Nat) (h : AH) : Option (Int32 × AH) := f_X11_day_0 o0 h
end
theorem c_X11_day (l : Launch) (g : GG) (o0 : Nat) {h : AH} {res : Int32 × AH} (hf : f_X11_day o0 h = some res) : CM l g yX11_day cX11_day 1 (some (.int)) 8 512 (res.2.1 - h.1) (res.2.2.1 - h.2.1) [.ref (rfG g o0)] h (some (.int res.1)) res.2 := by
  have hbd := (ck_spec (show ck h _ = some res from hf)).1
  exact k_body (by decide) (Nat.le_of_ble_eq_true rfl) (fun p e s m below meth c R ls hR hr X I hl => by
    obtain ⟨r1, r2, r3, r4⟩ := hR
    rw [← r3, ← r4]
    exact w_X11_day_0 X ⟨Nat.le_of_eq r1.symm, Nat.le_of_eq r2.symm⟩ hr ⟨by omega, by omega⟩ o0 h ls s.heap [] 0 0 hf I (lv_sub hl [0] rfl))
/-! TrapCorner.crumb(II)I -/
theorem dX11_crumb_0 : decode cX11_crumb 0 = .ok (.aload_n 0, 1) := by decide +kernel
theorem dX11_crumb_1 : decode cX11_crumb 1 = .ok (.aload_n 0, 1) := by decide +kernel
theorem dX11_crumb_2 : decode cX11_crumb 2 = .ok (.getfield 49, 3) := by decide +kernel
theorem dX11_crumb_5 : decode cX11_crumb 5 = .ok (.iconst 1, 1) := by decide +kernel
theorem dX11_crumb_6 : decode cX11_crumb 6 = .ok (.iload_n 1, 1) := by decide +kernel
theorem dX11_crumb_7 : decode cX11_crumb 7 = .ok (.iload_n 2, 1) := by decide +kernel
theorem dX11_crumb_8 : decode cX11_crumb 8 = .ok (.invokevirtual 276, 3) := by decide +kernel
theorem dX11_crumb_11 : decode cX11_crumb 11 = .ok (.ifCond .ne 5, 3) := by decide +kernel
theorem dX11_crumb_14 : decode cX11_crumb 14 = .ok (.iconst (-1), 1) := by decide +kernel
theorem dX11_crumb_15 : decode cX11_crumb 15 = .ok (.ireturn, 1) := by decide +kernel
theorem dX11_crumb_16 : decode cX11_crumb 16 = .ok (.aload_n 0, 1) := by decide +kernel
theorem dX11_crumb_17 : decode cX11_crumb 17 = .ok (.getfield 49, 3) := by decide +kernel
theorem dX11_crumb_20 : decode cX11_crumb 20 = .ok (.getfield 188, 3) := by decide +kernel
theorem dX11_crumb_23 : decode cX11_crumb 23 = .ok (.iload_n 1, 1) := by decide +kernel
theorem dX11_crumb_24 : decode cX11_crumb 24 = .ok (.iaload, 1) := by decide +kernel
theorem dX11_crumb_25 : decode cX11_crumb 25 = .ok (.istore_n 3, 1) := by decide +kernel
theorem dX11_crumb_26 : decode cX11_crumb 26 = .ok (.aload_n 0, 1) := by decide +kernel
theorem dX11_crumb_27 : decode cX11_crumb 27 = .ok (.iconst 1, 1) := by decide +kernel
theorem dX11_crumb_28 : decode cX11_crumb 28 = .ok (.iload_n 1, 1) := by decide +kernel
theorem dX11_crumb_29 : decode cX11_crumb 29 = .ok (.iload_n 2, 1) := by decide +kernel
theorem dX11_crumb_30 : decode cX11_crumb 30 = .ok (.invokevirtual 280, 3) := by decide +kernel
theorem dX11_crumb_33 : decode cX11_crumb 33 = .ok (.iload_n 3, 1) := by decide +kernel
theorem dX11_crumb_34 : decode cX11_crumb 34 = .ok (.ireturn, 1) := by decide +kernel
section
variable {g : GG} {p : Program} {l : Launch} {e : Env} {R : Room} {s : State} {m : MethodId} {args : Array Value} {below : List Frame} {meth : Method} {c : Code} {n0 z0 : Nat}
def f_X11_crumb_0  (o0 : Nat) (x1 : Int32) (x2 : Int32) (h : AH) : Option (Int32 × AH) :=
  ck h (
  (gR [11] h o0 5).bind fun v1 =>
  (isC [11] h o0).bind fun _ =>
  cN (f_X11_canBe o0 v1 1 x1 x2 h) h fun v3 h4 =>
  if v3 = 0 then
    some ((-1), h4)
  else
    (gR [11] h4 o0 5).bind fun v9 =>
    (gR [8] h4 v9 0).bind fun v11 =>
    (aI 0 h4 v11 x1).bind fun v13 =>
    (isC [11] h4 o0).bind fun _ =>
    cA (f_X11_act o0 1 x1 x2 h4) h4 fun _ h16 =>
    some (v13, h16))
set_option maxHeartbeats 1000000 in
theorem w_X11_crumb_0 (X : Cx g p s m args meth c cX11_crumb 4 "TrapCorner") (hR : 8 ≤ R.frames ∧ 512 ≤ R.locals) (hr : meth.sig.returnType = (some (.int))) {res : Int32 × AH} (hA : R.cells + n0 = res.2.1 ∧ R.slots + z0 = res.2.2.1) : ∀ (o0 : Nat) (x1 : Int32) (x2 : Int32) (h : AH) (ls : Array Slot) (H : Heap) (locs : List Loc) (cells slots : Nat), f_X11_crumb_0 o0 x1 x2 h = some res → Iv g s n0 z0 h H locs cells slots → lv_has ls 4 [(0, .ref (rfG g o0)), (1, .int x1), (2, .int x2)] → W p l e R s m args below meth c H locs cells slots (MQ below (QG g (some (.int res.1)) res.2) args s R.cells R.slots (AG g)) (F0 m 0 ls []) := by
  have hx := X.1
  have hb := X.2.1
  intro o0 x1 x2 h ls H locs cells slots hf I hl
  unfold f_X11_crumb_0 at hf
  obtain ⟨hbd, hf⟩ := ck_spec hf
  have hle := I.le hA hbd
  refine lv_aload_n hx hb dX11_crumb_0 rfl (lv_at hl 0 rfl) ?_
  refine lv_aload_n hx hb dX11_crumb_1 rfl (lv_at hl 0 rfl) ?_
  obtain ⟨v1, e2, hf⟩ := Option.bind_eq_some_iff.mp hf
  refine r_gR X I e2 lk_TrapCorner_49 dX11_crumb_2 ?_
  refine lv_iconst (v := 1) hx hb dX11_crumb_5 (by decide) ?_
  refine lv_iload_n hx hb dX11_crumb_6 rfl (lv_at hl 1 rfl) ?_
  refine lv_iload_n hx hb dX11_crumb_7 rfl (lv_at hl 2 rfl) ?_
  obtain ⟨_, g7, hf⟩ := Option.bind_eq_some_iff.mp hf
  obtain ⟨v3, h4, e5, z6, hf⟩ := cN_spec hf
  refine k_Vi (As := [.ref (rfG g v1), .int 1, .int x1, .int x2]) (rest := []) X I (c_X11_canBe l g o0 v1 1 x1 x2 e5) z6 g7 vk_TrapCorner_276 tw_870 ⟨Nat.le_trans (by decide) hR.1, Nat.le_trans (by decide) hR.2⟩ hle rfl hl.1 rfl (Nat.le_of_ble_eq_true rfl) dX11_crumb_8 (fun H locs I => ?_)
  refine lv_if_ne (tgt := 16) hx hb dX11_crumb_11 (by decide) (fun c8 => ?_) (fun c8 => ?_)
  · rw [if_neg c8] at hf
    refine lv_aload_n hx hb dX11_crumb_16 rfl (lv_at hl 0 rfl) ?_
    obtain ⟨v9, e10, hf⟩ := Option.bind_eq_some_iff.mp hf
    refine r_gR X I e10 lk_TrapCorner_49 dX11_crumb_17 ?_
    obtain ⟨v11, e12, hf⟩ := Option.bind_eq_some_iff.mp hf
    refine r_gR X I e12 lk_TrapCorner_188 dX11_crumb_20 ?_
    refine lv_iload_n hx hb dX11_crumb_23 rfl (lv_at hl 1 rfl) ?_
    obtain ⟨v13, e14, hf⟩ := Option.bind_eq_some_iff.mp hf
    refine r_aI0 X I e14 dX11_crumb_24 ?_
    refine lv_istore_n (lv' := [(3, .int v13), (0, .ref (rfG g o0)), (1, .int x1), (2, .int x2)]) hx hb dX11_crumb_25 rfl hl (by decide) rfl (fun ls hl => ?_)
    refine lv_aload_n hx hb dX11_crumb_26 rfl (lv_at hl 1 rfl) ?_
    refine lv_iconst (v := 1) hx hb dX11_crumb_27 (by decide) ?_
    refine lv_iload_n hx hb dX11_crumb_28 rfl (lv_at hl 2 rfl) ?_
    refine lv_iload_n hx hb dX11_crumb_29 rfl (lv_at hl 3 rfl) ?_
    obtain ⟨_, g19, hf⟩ := Option.bind_eq_some_iff.mp hf
    obtain ⟨⟨⟩, h16, e17, z18, b20, hf⟩ := cA_spec hf
    refine k_VAv (As := [.int 1, .int x1, .int x2]) (rest := []) X I (c_X11_act l g o0 1 x1 x2 e17) z18 hA b20 g19 vk_TrapCorner_280 tw_884 ⟨Nat.le_trans (by decide) hR.1, Nat.le_trans (by decide) hR.2⟩ rfl hl.1 rfl (Nat.le_of_ble_eq_true rfl) dX11_crumb_30 (fun H locs I => ?_)
    have hle := I.le hA b20
    refine lv_iload_n hx hb dX11_crumb_33 rfl (lv_at hl 0 rfl) ?_
    cases hf
    exact k_fin (I.fin hA) (k_ri X I hr dX11_crumb_34)
  · rw [if_pos c8] at hf
    refine lv_iconst (v := (-1)) hx hb dX11_crumb_14 (by decide) ?_
    cases hf
    exact k_fin (I.fin hA) (k_ri X I hr dX11_crumb_15)
def f_X11_crumb (o0 : Nat) (x1 : Int32) (x2 : Int32) (h : AH) : Option (Int32 × AH) := f_X11_crumb_0 o0 x1 x2 h
end
theorem c_X11_crumb (l : Launch) (g : GG) (o0 : Nat) (x1 : Int32) (x2 : Int32) {h : AH} {res : Int32 × AH} (hf : f_X11_crumb o0 x1 x2 h = some res) : CM l g yX11_crumb cX11_crumb 4 (some (.int)) 8 512 (res.2.1 - h.1) (res.2.2.1 - h.2.1) [.ref (rfG g o0), .int x1, .int x2] h (some (.int res.1)) res.2 := by
  have hbd := (ck_spec (show ck h _ = some res from hf)).1
  exact k_body (by decide) (Nat.le_of_ble_eq_true rfl) (fun p e s m below meth c R ls hR hr X I hl => by
    obtain ⟨r1, r2, r3, r4⟩ := hR
    rw [← r3, ← r4]
    exact w_X11_crumb_0 X ⟨Nat.le_of_eq r1.symm, Nat.le_of_eq r2.symm⟩ hr ⟨by omega, by omega⟩ o0 x1 x2 h ls s.heap [] 0 0 hf I (lv_sub hl [0, 1, 2] rfl))
/-! TrapCorner.renew(I)I -/
theorem dX11_renew_0 : decode cX11_renew 0 = .ok (.aload_n 0, 1) := by decide +kernel
theorem dX11_renew_1 : decode cX11_renew 1 = .ok (.aload_n 0, 1) := by decide +kernel
theorem dX11_renew_2 : decode cX11_renew 2 = .ok (.getfield 49, 3) := by decide +kernel
theorem dX11_renew_5 : decode cX11_renew 5 = .ok (.iconst 2, 1) := by decide +kernel
theorem dX11_renew_6 : decode cX11_renew 6 = .ok (.iload_n 1, 1) := by decide +kernel
theorem dX11_renew_7 : decode cX11_renew 7 = .ok (.iconst 0, 1) := by decide +kernel
theorem dX11_renew_8 : decode cX11_renew 8 = .ok (.invokevirtual 276, 3) := by decide +kernel
theorem dX11_renew_11 : decode cX11_renew 11 = .ok (.ifCond .ne 5, 3) := by decide +kernel
theorem dX11_renew_14 : decode cX11_renew 14 = .ok (.iconst (-1), 1) := by decide +kernel
theorem dX11_renew_15 : decode cX11_renew 15 = .ok (.ireturn, 1) := by decide +kernel
theorem dX11_renew_16 : decode cX11_renew 16 = .ok (.aload_n 0, 1) := by decide +kernel
theorem dX11_renew_17 : decode cX11_renew 17 = .ok (.iconst 2, 1) := by decide +kernel
theorem dX11_renew_18 : decode cX11_renew 18 = .ok (.iload_n 1, 1) := by decide +kernel
theorem dX11_renew_19 : decode cX11_renew 19 = .ok (.iconst 0, 1) := by decide +kernel
theorem dX11_renew_20 : decode cX11_renew 20 = .ok (.invokevirtual 280, 3) := by decide +kernel
theorem dX11_renew_23 : decode cX11_renew 23 = .ok (.aload_n 0, 1) := by decide +kernel
theorem dX11_renew_24 : decode cX11_renew 24 = .ok (.getfield 49, 3) := by decide +kernel
theorem dX11_renew_27 : decode cX11_renew 27 = .ok (.getfield 191, 3) := by decide +kernel
theorem dX11_renew_30 : decode cX11_renew 30 = .ok (.iload_n 1, 1) := by decide +kernel
theorem dX11_renew_31 : decode cX11_renew 31 = .ok (.iaload, 1) := by decide +kernel
theorem dX11_renew_32 : decode cX11_renew 32 = .ok (.ireturn, 1) := by decide +kernel
section
variable {g : GG} {p : Program} {l : Launch} {e : Env} {R : Room} {s : State} {m : MethodId} {args : Array Value} {below : List Frame} {meth : Method} {c : Code} {n0 z0 : Nat}
def f_X11_renew_0  (o0 : Nat) (x1 : Int32) (h : AH) : Option (Int32 × AH) :=
  ck h (
  (gR [11] h o0 5).bind fun v1 =>
  (isC [11] h o0).bind fun _ =>
  cN (f_X11_canBe o0 v1 2 x1 0 h) h fun v3 h4 =>
  if v3 = 0 then
    some ((-1), h4)
  else
    (isC [11] h4 o0).bind fun _ =>
    cA (f_X11_act o0 2 x1 0 h4) h4 fun _ h10 =>
    (gR [11] h10 o0 5).bind fun v15 =>
    (gR [8] h10 v15 1).bind fun v17 =>
    (aI 0 h10 v17 x1).bind fun v19 =>
    some (v19, h10))
set_option maxHeartbeats 1000000 in
theorem w_X11_renew_0 (X : Cx g p s m args meth c cX11_renew 2 "TrapCorner") (hR : 8 ≤ R.frames ∧ 512 ≤ R.locals) (hr : meth.sig.returnType = (some (.int))) {res : Int32 × AH} (hA : R.cells + n0 = res.2.1 ∧ R.slots + z0 = res.2.2.1) : ∀ (o0 : Nat) (x1 : Int32) (h : AH) (ls : Array Slot) (H : Heap) (locs : List Loc) (cells slots : Nat), f_X11_renew_0 o0 x1 h = some res → Iv g s n0 z0 h H locs cells slots → lv_has ls 2 [(0, .ref (rfG g o0)), (1, .int x1)] → W p l e R s m args below meth c H locs cells slots (MQ below (QG g (some (.int res.1)) res.2) args s R.cells R.slots (AG g)) (F0 m 0 ls []) := by
  have hx := X.1
  have hb := X.2.1
  intro o0 x1 h ls H locs cells slots hf I hl
  unfold f_X11_renew_0 at hf
  obtain ⟨hbd, hf⟩ := ck_spec hf
  have hle := I.le hA hbd
  refine lv_aload_n hx hb dX11_renew_0 rfl (lv_at hl 0 rfl) ?_
  refine lv_aload_n hx hb dX11_renew_1 rfl (lv_at hl 0 rfl) ?_
  obtain ⟨v1, e2, hf⟩ := Option.bind_eq_some_iff.mp hf
  refine r_gR X I e2 lk_TrapCorner_49 dX11_renew_2 ?_
  refine lv_iconst (v := 2) hx hb dX11_renew_5 (by decide) ?_
  refine lv_iload_n hx hb dX11_renew_6 rfl (lv_at hl 1 rfl) ?_
  refine lv_iconst (v := 0) hx hb dX11_renew_7 (by decide) ?_
  obtain ⟨_, g7, hf⟩ := Option.bind_eq_some_iff.mp hf
  obtain ⟨v3, h4, e5, z6, hf⟩ := cN_spec hf
  refine k_Vi (As := [.ref (rfG g v1), .int 2, .int x1, .int 0]) (rest := []) X I (c_X11_canBe l g o0 v1 2 x1 0 e5) z6 g7 vk_TrapCorner_276 tw_870 ⟨Nat.le_trans (by decide) hR.1, Nat.le_trans (by decide) hR.2⟩ hle rfl hl.1 rfl (Nat.le_of_ble_eq_true rfl) dX11_renew_8 (fun H locs I => ?_)
  refine lv_if_ne (tgt := 16) hx hb dX11_renew_11 (by decide) (fun c8 => ?_) (fun c8 => ?_)
  · rw [if_neg c8] at hf
    refine lv_aload_n hx hb dX11_renew_16 rfl (lv_at hl 0 rfl) ?_
    refine lv_iconst (v := 2) hx hb dX11_renew_17 (by decide) ?_
    refine lv_iload_n hx hb dX11_renew_18 rfl (lv_at hl 1 rfl) ?_
    refine lv_iconst (v := 0) hx hb dX11_renew_19 (by decide) ?_
    obtain ⟨_, g13, hf⟩ := Option.bind_eq_some_iff.mp hf
    obtain ⟨⟨⟩, h10, e11, z12, b14, hf⟩ := cA_spec hf
    refine k_VAv (As := [.int 2, .int x1, .int 0]) (rest := []) X I (c_X11_act l g o0 2 x1 0 e11) z12 hA b14 g13 vk_TrapCorner_280 tw_884 ⟨Nat.le_trans (by decide) hR.1, Nat.le_trans (by decide) hR.2⟩ rfl hl.1 rfl (Nat.le_of_ble_eq_true rfl) dX11_renew_20 (fun H locs I => ?_)
    have hle := I.le hA b14
    refine lv_aload_n hx hb dX11_renew_23 rfl (lv_at hl 0 rfl) ?_
    obtain ⟨v15, e16, hf⟩ := Option.bind_eq_some_iff.mp hf
    refine r_gR X I e16 lk_TrapCorner_49 dX11_renew_24 ?_
    obtain ⟨v17, e18, hf⟩ := Option.bind_eq_some_iff.mp hf
    refine r_gR X I e18 lk_TrapCorner_191 dX11_renew_27 ?_
    refine lv_iload_n hx hb dX11_renew_30 rfl (lv_at hl 1 rfl) ?_
    obtain ⟨v19, e20, hf⟩ := Option.bind_eq_some_iff.mp hf
    refine r_aI0 X I e20 dX11_renew_31 ?_
    cases hf
    exact k_fin (I.fin hA) (k_ri X I hr dX11_renew_32)
  · rw [if_pos c8] at hf
    refine lv_iconst (v := (-1)) hx hb dX11_renew_14 (by decide) ?_
    cases hf
    exact k_fin (I.fin hA) (k_ri X I hr dX11_renew_15)
def f_X11_renew (o0 : Nat) (x1 : Int32) (h : AH) : Option (Int32 × AH) := f_X11_renew_0 o0 x1 h
end
theorem c_X11_renew (l : Launch) (g : GG) (o0 : Nat) (x1 : Int32) {h : AH} {res : Int32 × AH} (hf : f_X11_renew o0 x1 h = some res) : CM l g yX11_renew cX11_renew 2 (some (.int)) 8 512 (res.2.1 - h.1) (res.2.2.1 - h.2.1) [.ref (rfG g o0), .int x1] h (some (.int res.1)) res.2 := by
  have hbd := (ck_spec (show ck h _ = some res from hf)).1
  exact k_body (by decide) (Nat.le_of_ble_eq_true rfl) (fun p e s m below meth c R ls hR hr X I hl => by
    obtain ⟨r1, r2, r3, r4⟩ := hR
    rw [← r3, ← r4]
    exact w_X11_renew_0 X ⟨Nat.le_of_eq r1.symm, Nat.le_of_eq r2.symm⟩ hr ⟨by omega, by omega⟩ o0 x1 h ls s.heap [] 0 0 hf I (lv_sub hl [0, 1] rfl))
/-! TrapCorner.constable(I)I -/
theorem dX11_constable_0 : decode cX11_constable 0 = .ok (.aload_n 0, 1) := by decide +kernel
theorem dX11_constable_1 : decode cX11_constable 1 = .ok (.iload_n 1, 1) := by decide +kernel
theorem dX11_constable_2 : decode cX11_constable 2 = .ok (.invokevirtual 184, 3) := by decide +kernel
theorem dX11_constable_5 : decode cX11_constable 5 = .ok (.ifCond .eq 14, 3) := by decide +kernel
theorem dX11_constable_8 : decode cX11_constable 8 = .ok (.iload_n 1, 1) := by decide +kernel
theorem dX11_constable_9 : decode cX11_constable 9 = .ok (.aload_n 0, 1) := by decide +kernel
theorem dX11_constable_10 : decode cX11_constable 10 = .ok (.getfield 49, 3) := by decide +kernel
theorem dX11_constable_13 : decode cX11_constable 13 = .ok (.getfield 259, 3) := by decide +kernel
theorem dX11_constable_16 : decode cX11_constable 16 = .ok (.if_icmp .ne 6, 3) := by decide +kernel
theorem dX11_constable_19 : decode cX11_constable 19 = .ok (.bipush (-2), 2) := by decide +kernel
theorem dX11_constable_21 : decode cX11_constable 21 = .ok (.ireturn, 1) := by decide +kernel
theorem dX11_constable_22 : decode cX11_constable 22 = .ok (.aload_n 0, 1) := by decide +kernel
theorem dX11_constable_23 : decode cX11_constable 23 = .ok (.getfield 59, 3) := by decide +kernel
theorem dX11_constable_26 : decode cX11_constable 26 = .ok (.aload_n 0, 1) := by decide +kernel
theorem dX11_constable_27 : decode cX11_constable 27 = .ok (.getfield 49, 3) := by decide +kernel
theorem dX11_constable_30 : decode cX11_constable 30 = .ok (.invokevirtual 292, 3) := by decide +kernel
theorem dX11_constable_33 : decode cX11_constable 33 = .ok (.aload_n 0, 1) := by decide +kernel
theorem dX11_constable_34 : decode cX11_constable 34 = .ok (.getfield 49, 3) := by decide +kernel
theorem dX11_constable_37 : decode cX11_constable 37 = .ok (.getfield 259, 3) := by decide +kernel
theorem dX11_constable_40 : decode cX11_constable 40 = .ok (.istore_n 2, 1) := by decide +kernel
theorem dX11_constable_41 : decode cX11_constable 41 = .ok (.aload_n 0, 1) := by decide +kernel
theorem dX11_constable_42 : decode cX11_constable 42 = .ok (.getfield 49, 3) := by decide +kernel
theorem dX11_constable_45 : decode cX11_constable 45 = .ok (.iload_n 1, 1) := by decide +kernel
theorem dX11_constable_46 : decode cX11_constable 46 = .ok (.putfield 259, 3) := by decide +kernel
theorem dX11_constable_49 : decode cX11_constable 49 = .ok (.iload_n 2, 1) := by decide +kernel
theorem dX11_constable_50 : decode cX11_constable 50 = .ok (.ireturn, 1) := by decide +kernel
theorem lp_TrapCorner_259 : LKP "TrapCorner" 259 [8] 5 (.int) := by
  intro ci hci
  have hci := List.mem_singleton.mp hci
  subst hci
  exact ⟨RX8, TX8, 8, "TrapCorner$State", ck_8, by decide, tw_217, Or.inl rfl, rfl, by decide +kernel⟩
section
variable {g : GG} {p : Program} {l : Launch} {e : Env} {R : Room} {s : State} {m : MethodId} {args : Array Value} {below : List Frame} {meth : Method} {c : Code} {n0 z0 : Nat}
def f_X11_constable_0  (o0 : Nat) (x1 : Int32) (h : AH) : Option (Int32 × AH) :=
  ck h (
  (isC [11] h o0).bind fun _ =>
  cN (f_X11_hasCorner o0 x1 h) h fun v1 h2 =>
  if v1 = 0 then
    some ((-2), h2)
  else
    (gR [11] h2 o0 5).bind fun v7 =>
    (gI [8] h2 v7 5).bind fun v9 =>
    if x1 = v9 then
      some ((-2), h2)
    else
      (gR [11] h2 o0 7).bind fun v12 =>
      (gR [11] h2 o0 5).bind fun v14 =>
      (isC [1] h2 v12).bind fun _ =>
      cA (f_X1_keep v12 v14 h2) h2 fun _ h17 =>
      (gR [11] h17 o0 5).bind fun v22 =>
      (gI [8] h17 v22 5).bind fun v24 =>
      (gR [11] h17 o0 5).bind fun v26 =>
      (pV [8] h17 v26 5 (.int x1)).bind fun h28 =>
      some (v24, h28))
set_option maxHeartbeats 1000000 in
theorem w_X11_constable_0 (X : Cx g p s m args meth c cX11_constable 3 "TrapCorner") (hR : 3 ≤ R.frames ∧ 192 ≤ R.locals) (hr : meth.sig.returnType = (some (.int))) {res : Int32 × AH} (hA : R.cells + n0 = res.2.1 ∧ R.slots + z0 = res.2.2.1) : ∀ (o0 : Nat) (x1 : Int32) (h : AH) (ls : Array Slot) (H : Heap) (locs : List Loc) (cells slots : Nat), f_X11_constable_0 o0 x1 h = some res → Iv g s n0 z0 h H locs cells slots → lv_has ls 3 [(0, .ref (rfG g o0)), (1, .int x1)] → W p l e R s m args below meth c H locs cells slots (MQ below (QG g (some (.int res.1)) res.2) args s R.cells R.slots (AG g)) (F0 m 0 ls []) := by
  have hx := X.1
  have hb := X.2.1
  intro o0 x1 h ls H locs cells slots hf I hl
  unfold f_X11_constable_0 at hf
  obtain ⟨hbd, hf⟩ := ck_spec hf
  have hle := I.le hA hbd
  refine lv_aload_n hx hb dX11_constable_0 rfl (lv_at hl 0 rfl) ?_
  refine lv_iload_n hx hb dX11_constable_1 rfl (lv_at hl 1 rfl) ?_
  obtain ⟨_, g5, hf⟩ := Option.bind_eq_some_iff.mp hf
  obtain ⟨v1, h2, e3, z4, hf⟩ := cN_spec hf
  refine k_Vi (As := [.int x1]) (rest := []) X I (c_X11_hasCorner l g o0 x1 e3) z4 g5 vk_TrapCorner_184 tw_801 ⟨Nat.le_trans (by decide) hR.1, Nat.le_trans (by decide) hR.2⟩ hle rfl hl.1 rfl (Nat.le_of_ble_eq_true rfl) dX11_constable_2 (fun H locs I => ?_)
  refine lv_if_eq (tgt := 19) hx hb dX11_constable_5 (by decide) (fun c6 => ?_) (fun c6 => ?_)
  · rw [if_pos c6] at hf
    refine lv_bipush (v := (-2)) hx hb dX11_constable_19 (by decide) ?_
    cases hf
    exact k_fin (I.fin hA) (k_ri X I hr dX11_constable_21)
  · rw [if_neg c6] at hf
    refine lv_iload_n hx hb dX11_constable_8 rfl (lv_at hl 1 rfl) ?_
    refine lv_aload_n hx hb dX11_constable_9 rfl (lv_at hl 0 rfl) ?_
    obtain ⟨v7, e8, hf⟩ := Option.bind_eq_some_iff.mp hf
    refine r_gR X I e8 lk_TrapCorner_49 dX11_constable_10 ?_
    obtain ⟨v9, e10, hf⟩ := Option.bind_eq_some_iff.mp hf
    refine r_gI X I e10 lk_TrapCorner_259 dX11_constable_13 ?_
    refine lv_icmp_ne (tgt := 22) hx hb dX11_constable_16 (by decide) (fun c11 => ?_) (fun c11 => ?_)
    · rw [if_neg c11] at hf
      refine lv_aload_n hx hb dX11_constable_22 rfl (lv_at hl 0 rfl) ?_
      obtain ⟨v12, e13, hf⟩ := Option.bind_eq_some_iff.mp hf
      refine r_gR X I e13 lk_TrapCorner_59 dX11_constable_23 ?_
      refine lv_aload_n hx hb dX11_constable_26 rfl (lv_at hl 0 rfl) ?_
      obtain ⟨v14, e15, hf⟩ := Option.bind_eq_some_iff.mp hf
      refine r_gR X I e15 lk_TrapCorner_49 dX11_constable_27 ?_
      obtain ⟨_, g20, hf⟩ := Option.bind_eq_some_iff.mp hf
      obtain ⟨⟨⟩, h17, e18, z19, b21, hf⟩ := cA_spec hf
      refine k_VAv (As := [.ref (rfG g v14)]) (rest := []) X I (c_X1_keep l g v12 v14 e18) z19 hA b21 g20 vk_TrapCorner_292 tw_888 ⟨Nat.le_trans (by decide) hR.1, Nat.le_trans (by decide) hR.2⟩ rfl hl.1 rfl (Nat.le_of_ble_eq_true rfl) dX11_constable_30 (fun H locs I => ?_)
      have hle := I.le hA b21
      refine lv_aload_n hx hb dX11_constable_33 rfl (lv_at hl 0 rfl) ?_
      obtain ⟨v22, e23, hf⟩ := Option.bind_eq_some_iff.mp hf
      refine r_gR X I e23 lk_TrapCorner_49 dX11_constable_34 ?_
      obtain ⟨v24, e25, hf⟩ := Option.bind_eq_some_iff.mp hf
      refine r_gI X I e25 lk_TrapCorner_259 dX11_constable_37 ?_
      refine lv_istore_n (lv' := [(2, .int v24), (0, .ref (rfG g o0)), (1, .int x1)]) hx hb dX11_constable_40 rfl hl (by decide) rfl (fun ls hl => ?_)
      refine lv_aload_n hx hb dX11_constable_41 rfl (lv_at hl 1 rfl) ?_
      obtain ⟨v26, e27, hf⟩ := Option.bind_eq_some_iff.mp hf
      refine r_gR X I e27 lk_TrapCorner_49 dX11_constable_42 ?_
      refine lv_iload_n hx hb dX11_constable_45 rfl (lv_at hl 2 rfl) ?_
      obtain ⟨h28, e29, hf⟩ := Option.bind_eq_some_iff.mp hf
      refine r_pI X I e29 lp_TrapCorner_259 dX11_constable_46 (fun H locs I => ?_)
      refine lv_iload_n hx hb dX11_constable_49 rfl (lv_at hl 0 rfl) ?_
      cases hf
      exact k_fin (I.fin hA) (k_ri X I hr dX11_constable_50)
    · rw [if_pos c11] at hf
      refine lv_bipush (v := (-2)) hx hb dX11_constable_19 (by decide) ?_
      cases hf
      exact k_fin (I.fin hA) (k_ri X I hr dX11_constable_21)
def f_X11_constable (o0 : Nat) (x1 : Int32) (h : AH) : Option (Int32 × AH) := f_X11_constable_0 o0 x1 h
end
theorem c_X11_constable (l : Launch) (g : GG) (o0 : Nat) (x1 : Int32) {h : AH} {res : Int32 × AH} (hf : f_X11_constable o0 x1 h = some res) : CM l g yX11_constable cX11_constable 3 (some (.int)) 3 192 (res.2.1 - h.1) (res.2.2.1 - h.2.1) [.ref (rfG g o0), .int x1] h (some (.int res.1)) res.2 := by
  have hbd := (ck_spec (show ck h _ = some res from hf)).1
  exact k_body (by decide) (Nat.le_of_ble_eq_true rfl) (fun p e s m below meth c R ls hR hr X I hl => by
    obtain ⟨r1, r2, r3, r4⟩ := hR
    rw [← r3, ← r4]
    exact w_X11_constable_0 X ⟨Nat.le_of_eq r1.symm, Nat.le_of_eq r2.symm⟩ hr ⟨by omega, by omega⟩ o0 x1 h ls s.heap [] 0 0 hf I (lv_sub hl [0, 1] rfl))
/-! TrapCorner.about(I)I -/
theorem dX11_about_0 : decode cX11_about 0 = .ok (.aload_n 0, 1) := by decide +kernel
theorem dX11_about_1 : decode cX11_about 1 = .ok (.aload_n 0, 1) := by decide +kernel
theorem dX11_about_2 : decode cX11_about 2 = .ok (.getfield 49, 3) := by decide +kernel
theorem dX11_about_5 : decode cX11_about 5 = .ok (.iconst 3, 1) := by decide +kernel
theorem dX11_about_6 : decode cX11_about 6 = .ok (.iload_n 1, 1) := by decide +kernel
theorem dX11_about_7 : decode cX11_about 7 = .ok (.iconst 0, 1) := by decide +kernel
theorem dX11_about_8 : decode cX11_about 8 = .ok (.invokevirtual 276, 3) := by decide +kernel
theorem dX11_about_11 : decode cX11_about 11 = .ok (.ifCond .ne 5, 3) := by decide +kernel
theorem dX11_about_14 : decode cX11_about 14 = .ok (.iconst (-1), 1) := by decide +kernel
theorem dX11_about_15 : decode cX11_about 15 = .ok (.ireturn, 1) := by decide +kernel
theorem dX11_about_16 : decode cX11_about 16 = .ok (.aload_n 0, 1) := by decide +kernel
theorem dX11_about_17 : decode cX11_about 17 = .ok (.iconst 3, 1) := by decide +kernel
theorem dX11_about_18 : decode cX11_about 18 = .ok (.iload_n 1, 1) := by decide +kernel
theorem dX11_about_19 : decode cX11_about 19 = .ok (.iconst 0, 1) := by decide +kernel
theorem dX11_about_20 : decode cX11_about 20 = .ok (.invokevirtual 280, 3) := by decide +kernel
theorem dX11_about_23 : decode cX11_about 23 = .ok (.aload_n 0, 1) := by decide +kernel
theorem dX11_about_24 : decode cX11_about 24 = .ok (.getfield 49, 3) := by decide +kernel
theorem dX11_about_27 : decode cX11_about 27 = .ok (.getfield 219, 3) := by decide +kernel
theorem dX11_about_30 : decode cX11_about 30 = .ok (.iload_n 1, 1) := by decide +kernel
theorem dX11_about_31 : decode cX11_about 31 = .ok (.iaload, 1) := by decide +kernel
theorem dX11_about_32 : decode cX11_about 32 = .ok (.ireturn, 1) := by decide +kernel
section
variable {g : GG} {p : Program} {l : Launch} {e : Env} {R : Room} {s : State} {m : MethodId} {args : Array Value} {below : List Frame} {meth : Method} {c : Code} {n0 z0 : Nat}
def f_X11_about_0  (o0 : Nat) (x1 : Int32) (h : AH) : Option (Int32 × AH) :=
  ck h (
  (gR [11] h o0 5).bind fun v1 =>
  (isC [11] h o0).bind fun _ =>
  cN (f_X11_canBe o0 v1 3 x1 0 h) h fun v3 h4 =>
  if v3 = 0 then
    some ((-1), h4)
  else
    (isC [11] h4 o0).bind fun _ =>
    cA (f_X11_act o0 3 x1 0 h4) h4 fun _ h10 =>
    (gR [11] h10 o0 5).bind fun v15 =>
    (gR [8] h10 v15 4).bind fun v17 =>
    (aI 0 h10 v17 x1).bind fun v19 =>
    some (v19, h10))
set_option maxHeartbeats 1000000 in
theorem w_X11_about_0 (X : Cx g p s m args meth c cX11_about 2 "TrapCorner") (hR : 8 ≤ R.frames ∧ 512 ≤ R.locals) (hr : meth.sig.returnType = (some (.int))) {res : Int32 × AH} (hA : R.cells + n0 = res.2.1 ∧ R.slots + z0 = res.2.2.1) : ∀ (o0 : Nat) (x1 : Int32) (h : AH) (ls : Array Slot) (H : Heap) (locs : List Loc) (cells slots : Nat), f_X11_about_0 o0 x1 h = some res → Iv g s n0 z0 h H locs cells slots → lv_has ls 2 [(0, .ref (rfG g o0)), (1, .int x1)] → W p l e R s m args below meth c H locs cells slots (MQ below (QG g (some (.int res.1)) res.2) args s R.cells R.slots (AG g)) (F0 m 0 ls []) := by
  have hx := X.1
  have hb := X.2.1
  intro o0 x1 h ls H locs cells slots hf I hl
  unfold f_X11_about_0 at hf
  obtain ⟨hbd, hf⟩ := ck_spec hf
  have hle := I.le hA hbd
  refine lv_aload_n hx hb dX11_about_0 rfl (lv_at hl 0 rfl) ?_
  refine lv_aload_n hx hb dX11_about_1 rfl (lv_at hl 0 rfl) ?_
  obtain ⟨v1, e2, hf⟩ := Option.bind_eq_some_iff.mp hf
  refine r_gR X I e2 lk_TrapCorner_49 dX11_about_2 ?_
  refine lv_iconst (v := 3) hx hb dX11_about_5 (by decide) ?_
  refine lv_iload_n hx hb dX11_about_6 rfl (lv_at hl 1 rfl) ?_
  refine lv_iconst (v := 0) hx hb dX11_about_7 (by decide) ?_
  obtain ⟨_, g7, hf⟩ := Option.bind_eq_some_iff.mp hf
  obtain ⟨v3, h4, e5, z6, hf⟩ := cN_spec hf
  refine k_Vi (As := [.ref (rfG g v1), .int 3, .int x1, .int 0]) (rest := []) X I (c_X11_canBe l g o0 v1 3 x1 0 e5) z6 g7 vk_TrapCorner_276 tw_870 ⟨Nat.le_trans (by decide) hR.1, Nat.le_trans (by decide) hR.2⟩ hle rfl hl.1 rfl (Nat.le_of_ble_eq_true rfl) dX11_about_8 (fun H locs I => ?_)
  refine lv_if_ne (tgt := 16) hx hb dX11_about_11 (by decide) (fun c8 => ?_) (fun c8 => ?_)
  · rw [if_neg c8] at hf
    refine lv_aload_n hx hb dX11_about_16 rfl (lv_at hl 0 rfl) ?_
    refine lv_iconst (v := 3) hx hb dX11_about_17 (by decide) ?_
    refine lv_iload_n hx hb dX11_about_18 rfl (lv_at hl 1 rfl) ?_
    refine lv_iconst (v := 0) hx hb dX11_about_19 (by decide) ?_
    obtain ⟨_, g13, hf⟩ := Option.bind_eq_some_iff.mp hf
    obtain ⟨⟨⟩, h10, e11, z12, b14, hf⟩ := cA_spec hf
    refine k_VAv (As := [.int 3, .int x1, .int 0]) (rest := []) X I (c_X11_act l g o0 3 x1 0 e11) z12 hA b14 g13 vk_TrapCorner_280 tw_884 ⟨Nat.le_trans (by decide) hR.1, Nat.le_trans (by decide) hR.2⟩ rfl hl.1 rfl (Nat.le_of_ble_eq_true rfl) dX11_about_20 (fun H locs I => ?_)
    have hle := I.le hA b14
    refine lv_aload_n hx hb dX11_about_23 rfl (lv_at hl 0 rfl) ?_
    obtain ⟨v15, e16, hf⟩ := Option.bind_eq_some_iff.mp hf
    refine r_gR X I e16 lk_TrapCorner_49 dX11_about_24 ?_
    obtain ⟨v17, e18, hf⟩ := Option.bind_eq_some_iff.mp hf
    refine r_gR X I e18 lk_TrapCorner_219 dX11_about_27 ?_
    refine lv_iload_n hx hb dX11_about_30 rfl (lv_at hl 1 rfl) ?_
    obtain ⟨v19, e20, hf⟩ := Option.bind_eq_some_iff.mp hf
    refine r_aI0 X I e20 dX11_about_31 ?_
    cases hf
    exact k_fin (I.fin hA) (k_ri X I hr dX11_about_32)
  · rw [if_pos c8] at hf
    refine lv_iconst (v := (-1)) hx hb dX11_about_14 (by decide) ?_
    cases hf
    exact k_fin (I.fin hA) (k_ri X I hr dX11_about_15)
def f_X11_about (o0 : Nat) (x1 : Int32) (h : AH) : Option (Int32 × AH) := f_X11_about_0 o0 x1 h
end
theorem c_X11_about (l : Launch) (g : GG) (o0 : Nat) (x1 : Int32) {h : AH} {res : Int32 × AH} (hf : f_X11_about o0 x1 h = some res) : CM l g yX11_about cX11_about 2 (some (.int)) 8 512 (res.2.1 - h.1) (res.2.2.1 - h.2.1) [.ref (rfG g o0), .int x1] h (some (.int res.1)) res.2 := by
  have hbd := (ck_spec (show ck h _ = some res from hf)).1
  exact k_body (by decide) (Nat.le_of_ble_eq_true rfl) (fun p e s m below meth c R ls hR hr X I hl => by
    obtain ⟨r1, r2, r3, r4⟩ := hR
    rw [← r3, ← r4]
    exact w_X11_about_0 X ⟨Nat.le_of_eq r1.symm, Nat.le_of_eq r2.symm⟩ hr ⟨by omega, by omega⟩ o0 x1 h ls s.heap [] 0 0 hf I (lv_sub hl [0, 1] rfl))
/-! TrapCorner.give(I)I -/
theorem dX11_give_0 : decode cX11_give 0 = .ok (.aload_n 0, 1) := by decide +kernel
theorem dX11_give_1 : decode cX11_give 1 = .ok (.invokevirtual 172, 3) := by decide +kernel
theorem dX11_give_4 : decode cX11_give 4 = .ok (.ifCond .eq 29, 3) := by decide +kernel
theorem dX11_give_7 : decode cX11_give 7 = .ok (.iload_n 1, 1) := by decide +kernel
theorem dX11_give_8 : decode cX11_give 8 = .ok (.iconst 1, 1) := by decide +kernel
theorem dX11_give_9 : decode cX11_give 9 = .ok (.if_icmp .lt 24, 3) := by decide +kernel
theorem dX11_give_12 : decode cX11_give 12 = .ok (.iload_n 1, 1) := by decide +kernel
theorem dX11_give_13 : decode cX11_give 13 = .ok (.bipush 50, 2) := by decide +kernel
theorem dX11_give_15 : decode cX11_give 15 = .ok (.if_icmp .gt 18, 3) := by decide +kernel
theorem dX11_give_18 : decode cX11_give 18 = .ok (.aload_n 0, 1) := by decide +kernel
theorem dX11_give_19 : decode cX11_give 19 = .ok (.getfield 49, 3) := by decide +kernel
theorem dX11_give_22 : decode cX11_give 22 = .ok (.getfield 178, 3) := by decide +kernel
theorem dX11_give_25 : decode cX11_give 25 = .ok (.iload_n 1, 1) := by decide +kernel
theorem dX11_give_26 : decode cX11_give 26 = .ok (.iadd, 1) := by decide +kernel
theorem dX11_give_27 : decode cX11_give 27 = .ok (.sipush 999, 3) := by decide +kernel
theorem dX11_give_30 : decode cX11_give 30 = .ok (.if_icmp .le 5, 3) := by decide +kernel
theorem dX11_give_33 : decode cX11_give 33 = .ok (.iconst (-1), 1) := by decide +kernel
theorem dX11_give_34 : decode cX11_give 34 = .ok (.ireturn, 1) := by decide +kernel
theorem dX11_give_35 : decode cX11_give 35 = .ok (.aload_n 0, 1) := by decide +kernel
theorem dX11_give_36 : decode cX11_give 36 = .ok (.getfield 59, 3) := by decide +kernel
theorem dX11_give_39 : decode cX11_give 39 = .ok (.aload_n 0, 1) := by decide +kernel
theorem dX11_give_40 : decode cX11_give 40 = .ok (.getfield 49, 3) := by decide +kernel
theorem dX11_give_43 : decode cX11_give 43 = .ok (.invokevirtual 292, 3) := by decide +kernel
theorem dX11_give_46 : decode cX11_give 46 = .ok (.aload_n 0, 1) := by decide +kernel
theorem dX11_give_47 : decode cX11_give 47 = .ok (.getfield 49, 3) := by decide +kernel
theorem dX11_give_50 : decode cX11_give 50 = .ok (.dup, 1) := by decide +kernel
theorem dX11_give_51 : decode cX11_give 51 = .ok (.getfield 178, 3) := by decide +kernel
theorem dX11_give_54 : decode cX11_give 54 = .ok (.iload_n 1, 1) := by decide +kernel
theorem dX11_give_55 : decode cX11_give 55 = .ok (.iadd, 1) := by decide +kernel
theorem dX11_give_56 : decode cX11_give 56 = .ok (.putfield 178, 3) := by decide +kernel
theorem dX11_give_59 : decode cX11_give 59 = .ok (.aload_n 0, 1) := by decide +kernel
theorem dX11_give_60 : decode cX11_give 60 = .ok (.getfield 49, 3) := by decide +kernel
theorem dX11_give_63 : decode cX11_give 63 = .ok (.getfield 178, 3) := by decide +kernel
theorem dX11_give_66 : decode cX11_give 66 = .ok (.ireturn, 1) := by decide +kernel
section
variable {g : GG} {p : Program} {l : Launch} {e : Env} {R : Room} {s : State} {m : MethodId} {args : Array Value} {below : List Frame} {meth : Method} {c : Code} {n0 z0 : Nat}
def f_X11_give_0  (o0 : Nat) (x1 : Int32) (h : AH) : Option (Int32 × AH) :=
  ck h (
  (isC [11] h o0).bind fun _ =>
  cN (f_X11_hasCity o0 h) h fun v1 h2 =>
  if v1 = 0 then
    some ((-1), h2)
  else
    if x1 < 1 then
      some ((-1), h2)
    else
      if 50 < x1 then
        some ((-1), h2)
      else
        (gR [11] h2 o0 5).bind fun v9 =>
        (gI [8] h2 v9 6).bind fun v11 =>
        if (v11 + x1) ≤ 999 then
          (gR [11] h2 o0 7).bind fun v14 =>
          (gR [11] h2 o0 5).bind fun v16 =>
          (isC [1] h2 v14).bind fun _ =>
          cA (f_X1_keep v14 v16 h2) h2 fun _ h19 =>
          (gR [11] h19 o0 5).bind fun v24 =>
          (gI [8] h19 v24 6).bind fun v26 =>
          (pV [8] h19 v24 6 (.int (v26 + x1))).bind fun h28 =>
          (gR [11] h28 o0 5).bind fun v30 =>
          (gI [8] h28 v30 6).bind fun v32 =>
          some (v32, h28)
        else
          some ((-1), h2))
set_option maxHeartbeats 1000000 in
theorem w_X11_give_0 (X : Cx g p s m args meth c cX11_give 2 "TrapCorner") (hR : 3 ≤ R.frames ∧ 192 ≤ R.locals) (hr : meth.sig.returnType = (some (.int))) {res : Int32 × AH} (hA : R.cells + n0 = res.2.1 ∧ R.slots + z0 = res.2.2.1) : ∀ (o0 : Nat) (x1 : Int32) (h : AH) (ls : Array Slot) (H : Heap) (locs : List Loc) (cells slots : Nat), f_X11_give_0 o0 x1 h = some res → Iv g s n0 z0 h H locs cells slots → lv_has ls 2 [(0, .ref (rfG g o0)), (1, .int x1)] → W p l e R s m args below meth c H locs cells slots (MQ below (QG g (some (.int res.1)) res.2) args s R.cells R.slots (AG g)) (F0 m 0 ls []) := by
  have hx := X.1
  have hb := X.2.1
  intro o0 x1 h ls H locs cells slots hf I hl
  unfold f_X11_give_0 at hf
  obtain ⟨hbd, hf⟩ := ck_spec hf
  have hle := I.le hA hbd
  refine lv_aload_n hx hb dX11_give_0 rfl (lv_at hl 0 rfl) ?_
  obtain ⟨_, g5, hf⟩ := Option.bind_eq_some_iff.mp hf
  obtain ⟨v1, h2, e3, z4, hf⟩ := cN_spec hf
  refine k_Vi (As := []) (rest := []) X I (c_X11_hasCity l g o0 e3) z4 g5 vk_TrapCorner_172 tw_793 ⟨Nat.le_trans (by decide) hR.1, Nat.le_trans (by decide) hR.2⟩ hle rfl hl.1 rfl (Nat.le_of_ble_eq_true rfl) dX11_give_1 (fun H locs I => ?_)
  refine lv_if_eq (tgt := 33) hx hb dX11_give_4 (by decide) (fun c6 => ?_) (fun c6 => ?_)
  · rw [if_pos c6] at hf
    refine lv_iconst (v := (-1)) hx hb dX11_give_33 (by decide) ?_
    cases hf
    exact k_fin (I.fin hA) (k_ri X I hr dX11_give_34)
  · rw [if_neg c6] at hf
    refine lv_iload_n hx hb dX11_give_7 rfl (lv_at hl 1 rfl) ?_
    refine lv_iconst (v := 1) hx hb dX11_give_8 (by decide) ?_
    refine lv_icmp_lt (tgt := 33) hx hb dX11_give_9 (by decide) (fun c7 => ?_) (fun c7 => ?_)
    · rw [if_pos c7] at hf
      refine lv_iconst (v := (-1)) hx hb dX11_give_33 (by decide) ?_
      cases hf
      exact k_fin (I.fin hA) (k_ri X I hr dX11_give_34)
    · rw [if_neg c7] at hf
      refine lv_iload_n hx hb dX11_give_12 rfl (lv_at hl 1 rfl) ?_
      refine lv_bipush (v := 50) hx hb dX11_give_13 (by decide) ?_
      refine lv_icmp_gt (tgt := 33) hx hb dX11_give_15 (by decide) (fun c8 => ?_) (fun c8 => ?_)
      · rw [if_pos c8] at hf
        refine lv_iconst (v := (-1)) hx hb dX11_give_33 (by decide) ?_
        cases hf
        exact k_fin (I.fin hA) (k_ri X I hr dX11_give_34)
      · rw [if_neg c8] at hf
        refine lv_aload_n hx hb dX11_give_18 rfl (lv_at hl 0 rfl) ?_
        obtain ⟨v9, e10, hf⟩ := Option.bind_eq_some_iff.mp hf
        refine r_gR X I e10 lk_TrapCorner_49 dX11_give_19 ?_
        obtain ⟨v11, e12, hf⟩ := Option.bind_eq_some_iff.mp hf
        refine r_gI X I e12 lk_TrapCorner_178 dX11_give_22 ?_
        refine lv_iload_n hx hb dX11_give_25 rfl (lv_at hl 1 rfl) ?_
        refine lv_iadd hx hb dX11_give_26 ?_
        refine lv_sipush (v := 999) hx hb dX11_give_27 (by decide) ?_
        refine lv_icmp_le (tgt := 35) hx hb dX11_give_30 (by decide) (fun c13 => ?_) (fun c13 => ?_)
        · rw [if_pos c13] at hf
          refine lv_aload_n hx hb dX11_give_35 rfl (lv_at hl 0 rfl) ?_
          obtain ⟨v14, e15, hf⟩ := Option.bind_eq_some_iff.mp hf
          refine r_gR X I e15 lk_TrapCorner_59 dX11_give_36 ?_
          refine lv_aload_n hx hb dX11_give_39 rfl (lv_at hl 0 rfl) ?_
          obtain ⟨v16, e17, hf⟩ := Option.bind_eq_some_iff.mp hf
          refine r_gR X I e17 lk_TrapCorner_49 dX11_give_40 ?_
          obtain ⟨_, g22, hf⟩ := Option.bind_eq_some_iff.mp hf
          obtain ⟨⟨⟩, h19, e20, z21, b23, hf⟩ := cA_spec hf
          refine k_VAv (As := [.ref (rfG g v16)]) (rest := []) X I (c_X1_keep l g v14 v16 e20) z21 hA b23 g22 vk_TrapCorner_292 tw_888 ⟨Nat.le_trans (by decide) hR.1, Nat.le_trans (by decide) hR.2⟩ rfl hl.1 rfl (Nat.le_of_ble_eq_true rfl) dX11_give_43 (fun H locs I => ?_)
          have hle := I.le hA b23
          refine lv_aload_n hx hb dX11_give_46 rfl (lv_at hl 0 rfl) ?_
          obtain ⟨v24, e25, hf⟩ := Option.bind_eq_some_iff.mp hf
          refine r_gR X I e25 lk_TrapCorner_49 dX11_give_47 ?_
          refine lv_dup hx hb dX11_give_50 rfl ?_
          obtain ⟨v26, e27, hf⟩ := Option.bind_eq_some_iff.mp hf
          refine r_gI X I e27 lk_TrapCorner_178 dX11_give_51 ?_
          refine lv_iload_n hx hb dX11_give_54 rfl (lv_at hl 1 rfl) ?_
          refine lv_iadd hx hb dX11_give_55 ?_
          obtain ⟨h28, e29, hf⟩ := Option.bind_eq_some_iff.mp hf
          refine r_pI X I e29 lp_TrapCorner_178 dX11_give_56 (fun H locs I => ?_)
          refine lv_aload_n hx hb dX11_give_59 rfl (lv_at hl 0 rfl) ?_
          obtain ⟨v30, e31, hf⟩ := Option.bind_eq_some_iff.mp hf
          refine r_gR X I e31 lk_TrapCorner_49 dX11_give_60 ?_
          obtain ⟨v32, e33, hf⟩ := Option.bind_eq_some_iff.mp hf
          refine r_gI X I e33 lk_TrapCorner_178 dX11_give_63 ?_
          cases hf
          exact k_fin (I.fin hA) (k_ri X I hr dX11_give_66)
        · rw [if_neg c13] at hf
          refine lv_iconst (v := (-1)) hx hb dX11_give_33 (by decide) ?_
          cases hf
          exact k_fin (I.fin hA) (k_ri X I hr dX11_give_34)
def f_X11_give (o0 : Nat) (x1 : Int32) (h : AH) : Option (Int32 × AH) := f_X11_give_0 o0 x1 h
end
theorem c_X11_give (l : Launch) (g : GG) (o0 : Nat) (x1 : Int32) {h : AH} {res : Int32 × AH} (hf : f_X11_give o0 x1 h = some res) : CM l g yX11_give cX11_give 2 (some (.int)) 3 192 (res.2.1 - h.1) (res.2.2.1 - h.2.1) [.ref (rfG g o0), .int x1] h (some (.int res.1)) res.2 := by
  have hbd := (ck_spec (show ck h _ = some res from hf)).1
  exact k_body (by decide) (Nat.le_of_ble_eq_true rfl) (fun p e s m below meth c R ls hR hr X I hl => by
    obtain ⟨r1, r2, r3, r4⟩ := hR
    rw [← r3, ← r4]
    exact w_X11_give_0 X ⟨Nat.le_of_eq r1.symm, Nat.le_of_eq r2.symm⟩ hr ⟨by omega, by omega⟩ o0 x1 h ls s.heap [] 0 0 hf I (lv_sub hl [0, 1] rfl))
/-! TrapCorner.years(IJ)I -/
theorem dX11_years_0 : decode cX11_years 0 = .ok (.aload_n 0, 1) := by decide +kernel
theorem dX11_years_1 : decode cX11_years 1 = .ok (.invokevirtual 172, 3) := by decide +kernel
theorem dX11_years_4 : decode cX11_years 4 = .ok (.ifCond .eq 29, 3) := by decide +kernel
theorem dX11_years_7 : decode cX11_years 7 = .ok (.iload_n 1, 1) := by decide +kernel
theorem dX11_years_8 : decode cX11_years 8 = .ok (.iconst 1, 1) := by decide +kernel
theorem dX11_years_9 : decode cX11_years 9 = .ok (.if_icmp .lt 24, 3) := by decide +kernel
theorem dX11_years_12 : decode cX11_years 12 = .ok (.iload_n 1, 1) := by decide +kernel
theorem dX11_years_13 : decode cX11_years 13 = .ok (.bipush 30, 2) := by decide +kernel
theorem dX11_years_15 : decode cX11_years 15 = .ok (.if_icmp .gt 18, 3) := by decide +kernel
theorem dX11_years_18 : decode cX11_years 18 = .ok (.aload_n 0, 1) := by decide +kernel
theorem dX11_years_19 : decode cX11_years 19 = .ok (.getfield 49, 3) := by decide +kernel
theorem dX11_years_22 : decode cX11_years 22 = .ok (.getfield 228, 3) := by decide +kernel
theorem dX11_years_25 : decode cX11_years 25 = .ok (.iload_n 1, 1) := by decide +kernel
theorem dX11_years_26 : decode cX11_years 26 = .ok (.iadd, 1) := by decide +kernel
theorem dX11_years_27 : decode cX11_years 27 = .ok (.sipush 999, 3) := by decide +kernel
theorem dX11_years_30 : decode cX11_years 30 = .ok (.if_icmp .le 5, 3) := by decide +kernel
theorem dX11_years_33 : decode cX11_years 33 = .ok (.iconst (-1), 1) := by decide +kernel
theorem dX11_years_34 : decode cX11_years 34 = .ok (.ireturn, 1) := by decide +kernel
theorem dX11_years_35 : decode cX11_years 35 = .ok (.aload_n 0, 1) := by decide +kernel
theorem dX11_years_36 : decode cX11_years 36 = .ok (.lload_n 2, 1) := by decide +kernel
theorem dX11_years_37 : decode cX11_years 37 = .ok (.putfield 296, 3) := by decide +kernel
theorem dX11_years_40 : decode cX11_years 40 = .ok (.iconst 0, 1) := by decide +kernel
theorem dX11_years_41 : decode cX11_years 41 = .ok (.istore 4, 2) := by decide +kernel
theorem dX11_years_43 : decode cX11_years 43 = .ok (.iload 4, 2) := by decide +kernel
theorem dX11_years_45 : decode cX11_years 45 = .ok (.iload_n 1, 1) := by decide +kernel
theorem dX11_years_46 : decode cX11_years 46 = .ok (.if_icmp .ge 39, 3) := by decide +kernel
theorem dX11_years_49 : decode cX11_years 49 = .ok (.aload_n 0, 1) := by decide +kernel
theorem dX11_years_50 : decode cX11_years 50 = .ok (.getfield 59, 3) := by decide +kernel
theorem dX11_years_53 : decode cX11_years 53 = .ok (.aload_n 0, 1) := by decide +kernel
theorem dX11_years_54 : decode cX11_years 54 = .ok (.getfield 49, 3) := by decide +kernel
theorem dX11_years_57 : decode cX11_years 57 = .ok (.invokevirtual 292, 3) := by decide +kernel
theorem dX11_years_60 : decode cX11_years 60 = .ok (.aload_n 0, 1) := by decide +kernel
theorem dX11_years_61 : decode cX11_years 61 = .ok (.invokevirtual 300, 3) := by decide +kernel
theorem dX11_years_64 : decode cX11_years 64 = .ok (.aload_n 0, 1) := by decide +kernel
theorem dX11_years_65 : decode cX11_years 65 = .ok (.aload_n 0, 1) := by decide +kernel
theorem dX11_years_66 : decode cX11_years 66 = .ok (.getfield 49, 3) := by decide +kernel
theorem dX11_years_69 : decode cX11_years 69 = .ok (.iconst 0, 1) := by decide +kernel
theorem dX11_years_70 : decode cX11_years 70 = .ok (.iconst 0, 1) := by decide +kernel
theorem dX11_years_71 : decode cX11_years 71 = .ok (.iconst 0, 1) := by decide +kernel
theorem dX11_years_72 : decode cX11_years 72 = .ok (.invokevirtual 303, 3) := by decide +kernel
theorem dX11_years_75 : decode cX11_years 75 = .ok (.aload_n 0, 1) := by decide +kernel
theorem dX11_years_76 : decode cX11_years 76 = .ok (.invokevirtual 307, 3) := by decide +kernel
theorem dX11_years_79 : decode cX11_years 79 = .ok (.iinc 4 1, 3) := by decide +kernel
theorem dX11_years_82 : decode cX11_years 82 = .ok (.goto (-39), 3) := by decide +kernel
theorem dX11_years_85 : decode cX11_years 85 = .ok (.aload_n 0, 1) := by decide +kernel
theorem dX11_years_86 : decode cX11_years 86 = .ok (.getfield 49, 3) := by decide +kernel
theorem dX11_years_89 : decode cX11_years 89 = .ok (.getfield 228, 3) := by decide +kernel
theorem dX11_years_92 : decode cX11_years 92 = .ok (.ireturn, 1) := by decide +kernel
theorem vk_TrapCorner_300 : VK "TrapCorner" 300 [11] yX11_drawAheadOfDay 0 := ⟨tw_985, tw_987, tw_1, ⟨by decide, by decide⟩, by decide +kernel, fun ci hci => by
  have hci := List.mem_singleton.mp hci
  subst hci
  exact ⟨_, rfl, tp_32⟩⟩
section
variable {g : GG} {p : Program} {l : Launch} {e : Env} {R : Room} {s : State} {m : MethodId} {args : Array Value} {below : List Frame} {meth : Method} {c : Code} {n0 z0 : Nat}
def f_X11_years_43  : Nat → Nat → Int32 → Int32 → AH → Option (Int32 × AH)
  | 0, _, _, _, _ => none
  | n + 1, o0, x1, x4, h =>
  ck h (
  if x1 ≤ x4 then
    (gR [11] h o0 5).bind fun v2 =>
    (gI [8] h v2 7).bind fun v4 =>
    some (v4, h)
  else
    (gR [11] h o0 7).bind fun v6 =>
    (gR [11] h o0 5).bind fun v8 =>
    (isC [1] h v6).bind fun _ =>
    cA (f_X1_keep v6 v8 h) h fun _ h11 =>
    (isC [11] h11 o0).bind fun _ =>
    cN (f_X11_drawAheadOfDay o0 h11) h11 fun _ h17 =>
    (gR [11] h17 o0 5).bind fun v21 =>
    (isC [11] h17 o0).bind fun _ =>
    cN (f_X11_doStep o0 v21 0 0 0 h17) h17 fun _ h24 =>
    (isC [11] h24 o0).bind fun _ =>
    cN (f_X11_writeRow o0 h24) h24 fun _ h29 =>
    f_X11_years_43  n o0 x1 (x4 + 1) h29)
set_option maxHeartbeats 1000000 in
theorem w_X11_years_43 (X : Cx g p s m args meth c cX11_years 5 "TrapCorner") (hR : 7 ≤ R.frames ∧ 448 ≤ R.locals) (hr : meth.sig.returnType = (some (.int))) {res : Int32 × AH} (hA : R.cells + n0 = res.2.1 ∧ R.slots + z0 = res.2.2.1) : ∀ (n : Nat) (o0 : Nat) (x1 : Int32) (x4 : Int32) (h : AH) (ls : Array Slot) (H : Heap) (locs : List Loc) (cells slots : Nat), f_X11_years_43 n o0 x1 x4 h = some res → Iv g s n0 z0 h H locs cells slots → lv_has ls 5 [(0, .ref (rfG g o0)), (1, .int x1), (4, .int x4)] → W p l e R s m args below meth c H locs cells slots (MQ below (QG g (some (.int res.1)) res.2) args s R.cells R.slots (AG g)) (F0 m 43 ls []) := by
  have hx := X.1
  have hb := X.2.1
  intro n
  induction n with
  | zero =>
    intro o0 x1 x4 h ls H locs cells slots hf
    rw [f_X11_years_43.eq_1] at hf
    cases hf
  | succ n ih =>
    intro o0 x1 x4 h ls H locs cells slots hf I hl
    rw [f_X11_years_43.eq_2] at hf
    obtain ⟨hbd, hf⟩ := ck_spec hf
    have hle := I.le hA hbd
    refine lv_iload hx hb dX11_years_43 (lv_at hl 2 rfl) ?_
    refine lv_iload_n hx hb dX11_years_45 rfl (lv_at hl 1 rfl) ?_
    refine lv_icmp_ge (tgt := 85) hx hb dX11_years_46 (by decide) (fun c1 => ?_) (fun c1 => ?_)
    · rw [if_pos c1] at hf
      refine lv_aload_n hx hb dX11_years_85 rfl (lv_at hl 0 rfl) ?_
      obtain ⟨v2, e3, hf⟩ := Option.bind_eq_some_iff.mp hf
      refine r_gR X I e3 lk_TrapCorner_49 dX11_years_86 ?_
      obtain ⟨v4, e5, hf⟩ := Option.bind_eq_some_iff.mp hf
      refine r_gI X I e5 lk_TrapCorner_228 dX11_years_89 ?_
      cases hf
      exact k_fin (I.fin hA) (k_ri X I hr dX11_years_92)
    · rw [if_neg c1] at hf
      refine lv_aload_n hx hb dX11_years_49 rfl (lv_at hl 0 rfl) ?_
      obtain ⟨v6, e7, hf⟩ := Option.bind_eq_some_iff.mp hf
      refine r_gR X I e7 lk_TrapCorner_59 dX11_years_50 ?_
      refine lv_aload_n hx hb dX11_years_53 rfl (lv_at hl 0 rfl) ?_
      obtain ⟨v8, e9, hf⟩ := Option.bind_eq_some_iff.mp hf
      refine r_gR X I e9 lk_TrapCorner_49 dX11_years_54 ?_
      obtain ⟨_, g14, hf⟩ := Option.bind_eq_some_iff.mp hf
      obtain ⟨⟨⟩, h11, e12, z13, b15, hf⟩ := cA_spec hf
      refine k_VAv (As := [.ref (rfG g v8)]) (rest := []) X I (c_X1_keep l g v6 v8 e12) z13 hA b15 g14 vk_TrapCorner_292 tw_888 ⟨Nat.le_trans (by decide) hR.1, Nat.le_trans (by decide) hR.2⟩ rfl hl.1 rfl (Nat.le_of_ble_eq_true rfl) dX11_years_57 (fun H locs I => ?_)
      have hle := I.le hA b15
      refine lv_aload_n hx hb dX11_years_60 rfl (lv_at hl 0 rfl) ?_
      obtain ⟨_, g20, hf⟩ := Option.bind_eq_some_iff.mp hf
      obtain ⟨⟨⟩, h17, e18, z19, hf⟩ := cN_spec hf
      refine k_Vv (As := []) (rest := []) X I (c_X11_drawAheadOfDay l g o0 e18) z19 g20 vk_TrapCorner_300 tw_988 ⟨Nat.le_trans (by decide) hR.1, Nat.le_trans (by decide) hR.2⟩ hle rfl hl.1 rfl (Nat.le_of_ble_eq_true rfl) dX11_years_61 (fun H locs I => ?_)
      refine lv_aload_n hx hb dX11_years_64 rfl (lv_at hl 0 rfl) ?_
      refine lv_aload_n hx hb dX11_years_65 rfl (lv_at hl 0 rfl) ?_
      obtain ⟨v21, e22, hf⟩ := Option.bind_eq_some_iff.mp hf
      refine r_gR X I e22 lk_TrapCorner_49 dX11_years_66 ?_
      refine lv_iconst (v := 0) hx hb dX11_years_69 (by decide) ?_
      refine lv_iconst (v := 0) hx hb dX11_years_70 (by decide) ?_
      refine lv_iconst (v := 0) hx hb dX11_years_71 (by decide) ?_
      obtain ⟨_, g27, hf⟩ := Option.bind_eq_some_iff.mp hf
      obtain ⟨⟨⟩, h24, e25, z26, hf⟩ := cN_spec hf
      refine k_Vv (As := [.ref (rfG g v21), .int 0, .int 0, .int 0]) (rest := []) X I (c_X11_doStep l g o0 v21 0 0 0 e25) z26 g27 vk_TrapCorner_303 tw_897 ⟨Nat.le_trans (by decide) hR.1, Nat.le_trans (by decide) hR.2⟩ hle rfl hl.1 rfl (Nat.le_of_ble_eq_true rfl) dX11_years_72 (fun H locs I => ?_)
      refine lv_aload_n hx hb dX11_years_75 rfl (lv_at hl 0 rfl) ?_
      obtain ⟨_, g32, hf⟩ := Option.bind_eq_some_iff.mp hf
      obtain ⟨⟨⟩, h29, e30, z31, hf⟩ := cN_spec hf
      refine k_Vv (As := []) (rest := []) X I (c_X11_writeRow l g o0 e30) z31 g32 vk_TrapCorner_307 tw_950 ⟨Nat.le_trans (by decide) hR.1, Nat.le_trans (by decide) hR.2⟩ hle rfl hl.1 rfl (Nat.le_of_ble_eq_true rfl) dX11_years_76 (fun H locs I => ?_)
      refine lv_iinc (v := x4 + 1) (lv' := [(4, .int (x4 + 1)), (0, .ref (rfG g o0)), (1, .int x1)]) hx hb dX11_years_79 hl (k := 2) rfl rfl (by decide) rfl (fun ls hl => ?_)
      refine lv_goto (tgt := 43) hx hb dX11_years_82 (by decide) ?_
      exact ih o0 x1 (x4 + 1) h29 ls H locs _ _ hf I (lv_sub hl [1, 2, 0] rfl)
def f_X11_years_0  (o0 : Nat) (x1 : Int32) (y2 : Int64) (h : AH) : Option (Int32 × AH) :=
  ck h (
  (isC [11] h o0).bind fun _ =>
  cN (f_X11_hasCity o0 h) h fun v1 h2 =>
  if v1 = 0 then
    some ((-1), h2)
  else
    if x1 < 1 then
      some ((-1), h2)
    else
      if 30 < x1 then
        some ((-1), h2)
      else
        (gR [11] h2 o0 5).bind fun v9 =>
        (gI [8] h2 v9 7).bind fun v11 =>
        if (v11 + x1) ≤ 999 then
          (pV [11] h2 o0 18 (.long y2)).bind fun h14 =>
          f_X11_years_43 fu o0 x1 0 h14
        else
          some ((-1), h2))
set_option maxHeartbeats 1000000 in
theorem w_X11_years_0 (X : Cx g p s m args meth c cX11_years 5 "TrapCorner") (hR : 7 ≤ R.frames ∧ 448 ≤ R.locals) (hr : meth.sig.returnType = (some (.int))) {res : Int32 × AH} (hA : R.cells + n0 = res.2.1 ∧ R.slots + z0 = res.2.2.1) : ∀ (o0 : Nat) (x1 : Int32) (y2 : Int64) (h : AH) (ls : Array Slot) (H : Heap) (locs : List Loc) (cells slots : Nat), f_X11_years_0 o0 x1 y2 h = some res → Iv g s n0 z0 h H locs cells slots → lv_has ls 5 [(0, .ref (rfG g o0)), (1, .int x1), (2, .long y2)] → W p l e R s m args below meth c H locs cells slots (MQ below (QG g (some (.int res.1)) res.2) args s R.cells R.slots (AG g)) (F0 m 0 ls []) := by
  have hx := X.1
  have hb := X.2.1
  intro o0 x1 y2 h ls H locs cells slots hf I hl
  unfold f_X11_years_0 at hf
  obtain ⟨hbd, hf⟩ := ck_spec hf
  have hle := I.le hA hbd
  refine lv_aload_n hx hb dX11_years_0 rfl (lv_at hl 0 rfl) ?_
  obtain ⟨_, g5, hf⟩ := Option.bind_eq_some_iff.mp hf
  obtain ⟨v1, h2, e3, z4, hf⟩ := cN_spec hf
  refine k_Vi (As := []) (rest := []) X I (c_X11_hasCity l g o0 e3) z4 g5 vk_TrapCorner_172 tw_793 ⟨Nat.le_trans (by decide) hR.1, Nat.le_trans (by decide) hR.2⟩ hle rfl hl.1 rfl (Nat.le_of_ble_eq_true rfl) dX11_years_1 (fun H locs I => ?_)
  refine lv_if_eq (tgt := 33) hx hb dX11_years_4 (by decide) (fun c6 => ?_) (fun c6 => ?_)
  · rw [if_pos c6] at hf
    refine lv_iconst (v := (-1)) hx hb dX11_years_33 (by decide) ?_
    cases hf
    exact k_fin (I.fin hA) (k_ri X I hr dX11_years_34)
  · rw [if_neg c6] at hf
    refine lv_iload_n hx hb dX11_years_7 rfl (lv_at hl 1 rfl) ?_
    refine lv_iconst (v := 1) hx hb dX11_years_8 (by decide) ?_
    refine lv_icmp_lt (tgt := 33) hx hb dX11_years_9 (by decide) (fun c7 => ?_) (fun c7 => ?_)
    · rw [if_pos c7] at hf
      refine lv_iconst (v := (-1)) hx hb dX11_years_33 (by decide) ?_
      cases hf
      exact k_fin (I.fin hA) (k_ri X I hr dX11_years_34)
    · rw [if_neg c7] at hf
      refine lv_iload_n hx hb dX11_years_12 rfl (lv_at hl 1 rfl) ?_
      refine lv_bipush (v := 30) hx hb dX11_years_13 (by decide) ?_
      refine lv_icmp_gt (tgt := 33) hx hb dX11_years_15 (by decide) (fun c8 => ?_) (fun c8 => ?_)
      · rw [if_pos c8] at hf
        refine lv_iconst (v := (-1)) hx hb dX11_years_33 (by decide) ?_
        cases hf
        exact k_fin (I.fin hA) (k_ri X I hr dX11_years_34)
      · rw [if_neg c8] at hf
        refine lv_aload_n hx hb dX11_years_18 rfl (lv_at hl 0 rfl) ?_
        obtain ⟨v9, e10, hf⟩ := Option.bind_eq_some_iff.mp hf
        refine r_gR X I e10 lk_TrapCorner_49 dX11_years_19 ?_
        obtain ⟨v11, e12, hf⟩ := Option.bind_eq_some_iff.mp hf
        refine r_gI X I e12 lk_TrapCorner_228 dX11_years_22 ?_
        refine lv_iload_n hx hb dX11_years_25 rfl (lv_at hl 1 rfl) ?_
        refine lv_iadd hx hb dX11_years_26 ?_
        refine lv_sipush (v := 999) hx hb dX11_years_27 (by decide) ?_
        refine lv_icmp_le (tgt := 35) hx hb dX11_years_30 (by decide) (fun c13 => ?_) (fun c13 => ?_)
        · rw [if_pos c13] at hf
          refine lv_aload_n hx hb dX11_years_35 rfl (lv_at hl 0 rfl) ?_
          refine lv_lload_n hx hb dX11_years_36 rfl (lv_at hl 2 rfl) ?_
          obtain ⟨h14, e15, hf⟩ := Option.bind_eq_some_iff.mp hf
          refine r_pJ X I e15 lp_TrapCorner_296 dX11_years_37 (fun H locs I => ?_)
          refine lv_iconst (v := 0) hx hb dX11_years_40 (by decide) ?_
          refine lv_istore (lv' := [(4, .int 0), (0, .ref (rfG g o0)), (1, .int x1), (2, .long y2)]) hx hb dX11_years_41 hl (by decide) rfl (fun ls hl => ?_)
          exact w_X11_years_43 X hR hr hA fu o0 x1 0 h14 ls H locs _ _ hf I (lv_sub hl [1, 2, 0] rfl)
        · rw [if_neg c13] at hf
          refine lv_iconst (v := (-1)) hx hb dX11_years_33 (by decide) ?_
          cases hf
          exact k_fin (I.fin hA) (k_ri X I hr dX11_years_34)
def f_X11_years (o0 : Nat) (x1 : Int32) (y2 : Int64) (h : AH) : Option (Int32 × AH) := f_X11_years_0 o0 x1 y2 h
end
theorem c_X11_years (l : Launch) (g : GG) (o0 : Nat) (x1 : Int32) (y2 : Int64) {h : AH} {res : Int32 × AH} (hf : f_X11_years o0 x1 y2 h = some res) : CM l g yX11_years cX11_years 5 (some (.int)) 7 448 (res.2.1 - h.1) (res.2.2.1 - h.2.1) [.ref (rfG g o0), .int x1, .long y2] h (some (.int res.1)) res.2 := by
  have hbd := (ck_spec (show ck h _ = some res from hf)).1
  exact k_body (by decide) (Nat.le_of_ble_eq_true rfl) (fun p e s m below meth c R ls hR hr X I hl => by
    obtain ⟨r1, r2, r3, r4⟩ := hR
    rw [← r3, ← r4]
    exact w_X11_years_0 X ⟨Nat.le_of_eq r1.symm, Nat.le_of_eq r2.symm⟩ hr ⟨by omega, by omega⟩ o0 x1 y2 h ls s.heap [] 0 0 hf I (lv_sub hl [0, 1, 2] rfl))
