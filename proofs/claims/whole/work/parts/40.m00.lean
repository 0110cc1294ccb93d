/-! TrapCorner$Tape.<init>()V -/
theorem dX9_init_0 : decode cX9_init 0 = .ok (.aload_n 0, 1) := by decide +kernel
theorem dX9_init_1 : decode cX9_init 1 = .ok (.invokespecial 3, 3) := by decide +kernel
theorem dX9_init_4 : decode cX9_init 4 = .ok (.aload_n 0, 1) := by decide +kernel
theorem dX9_init_5 : decode cX9_init 5 = .ok (.sipush 240, 3) := by decide +kernel
theorem dX9_init_8 : decode cX9_init 8 = .ok (.newarray .int, 2) := by decide +kernel
theorem dX9_init_10 : decode cX9_init 10 = .ok (.putfield 9, 3) := by decide +kernel
theorem dX9_init_13 : decode cX9_init 13 = .ok (.return_, 1) := by decide +kernel
theorem lf_TrapCorner_Tape_9 : LKF "TrapCorner$Tape" 9 [9] 0 (.array .int) := by
  intro ci hci
  have hci := List.mem_singleton.mp hci
  subst hci
  exact ⟨RX9, TX9, 2, "TrapCorner$Tape", ck_9, by decide, tw_41, Or.inl rfl, rfl, rfl, by decide +kernel⟩
section
variable {g : GG} {p : Program} {l : Launch} {e : Env} {R : Room} {s : State} {m : MethodId} {args : Array Value} {below : List Frame} {meth : Method} {c : Code} {n0 z0 : Nat}
def f_X9_init_0  (o0 : Nat) (h : AH) : Option (Unit × AH) :=
  ck h (
  nA 0 240 h fun w1 h2 =>
  (pV [9] h2 o0 0 (.ref w1)).bind fun h5 =>
  some ((), h5))
set_option maxHeartbeats 1000000 in
theorem w_X9_init_0 (X : Cx g p s m args meth c cX9_init 1 "TrapCorner$Tape") (hR : 1 ≤ R.frames ∧ 64 ≤ R.locals) (hr : meth.sig.returnType = none) {res : Unit × AH} (hA : R.cells + n0 = res.2.1 ∧ R.slots + z0 = res.2.2.1) (hin : meth.name = "<init>") : ∀ (o0 : Nat) (h : AH) (ls : Array Slot) (H : Heap) (locs : List Loc) (cells slots : Nat), f_X9_init_0 o0 h = some res → Iv g s n0 z0 h H locs cells slots → lv_has ls 1 [(0, .ref (rfG g o0))] → W p l e R s m args below meth c H locs cells slots (MQ below (QG g none res.2) args s R.cells R.slots (AG g)) (F0 m 0 ls []) := by
  have hx := X.1
  have hb := X.2.1
  intro o0 h ls H locs cells slots hf I hl
  unfold f_X9_init_0 at hf
  obtain ⟨hbd, hf⟩ := ck_spec hf
  have hle := I.le hA hbd
  refine lv_aload_n hx hb dX9_init_0 rfl (lv_at hl 0 rfl) ?_
  refine r_obj X tw_40 tw_33 tw_34 ⟨Nat.le_trans (by decide) hR.1, Nat.le_trans (by decide) hR.2⟩ hl.1 dX9_init_1 ?_
  refine lv_aload_n hx hb dX9_init_4 rfl (lv_at hl 0 rfl) ?_
  refine lv_sipush (v := 240) hx hb dX9_init_5 (by decide) ?_
  obtain ⟨w1, h2, e3, b4, hf⟩ := nA_ex hf
  refine r_nA0 X I e3 hA b4 tw_52 dX9_init_8 (fun H I => ?_)
  have hle := I.le hA b4
  obtain ⟨h5, e6, hf⟩ := Option.bind_eq_some_iff.mp hf
  refine r_pFR X hin I e6 lf_TrapCorner_Tape_9 rfl dX9_init_10 (fun H locs I => ?_)
  cases hf
  exact k_fin (I.fin hA) (k_rv X I hr dX9_init_13)
def f_X9_init (o0 : Nat) (h : AH) : Option (Unit × AH) := f_X9_init_0 o0 h
end
theorem c_X9_init (l : Launch) (g : GG) (o0 : Nat) {h : AH} {res : Unit × AH} (hf : f_X9_init o0 h = some res) : CM l g yX9_init cX9_init 1 none 1 64 (res.2.1 - h.1) (res.2.2.1 - h.2.1) [.ref (rfG g o0)] h none res.2 := by
  have hbd := (ck_spec (show ck h _ = some res from hf)).1
  exact k_bodyC (by decide) (Nat.le_of_ble_eq_true rfl) (fun p e s m below meth c R ls hR hr hnm X I hl => by
    obtain ⟨r1, r2, r3, r4⟩ := hR
    rw [← r3, ← r4]
    exact w_X9_init_0 X ⟨Nat.le_of_eq r1.symm, Nat.le_of_eq r2.symm⟩ hr ⟨by omega, by omega⟩ hnm o0 h ls s.heap [] 0 0 hf I (lv_sub hl [0] rfl))
/-! TrapCorner$Town.<init>()V -/
theorem dX10_init_0 : decode cX10_init 0 = .ok (.aload_n 0, 1) := by decide +kernel
theorem dX10_init_1 : decode cX10_init 1 = .ok (.invokespecial 3, 3) := by decide +kernel
theorem dX10_init_4 : decode cX10_init 4 = .ok (.aload_n 0, 1) := by decide +kernel
theorem dX10_init_5 : decode cX10_init 5 = .ok (.iconst 5, 1) := by decide +kernel
theorem dX10_init_6 : decode cX10_init 6 = .ok (.newarray .int, 2) := by decide +kernel
theorem dX10_init_8 : decode cX10_init 8 = .ok (.putfield 9, 3) := by decide +kernel
theorem dX10_init_11 : decode cX10_init 11 = .ok (.aload_n 0, 1) := by decide +kernel
theorem dX10_init_12 : decode cX10_init 12 = .ok (.iconst 5, 1) := by decide +kernel
theorem dX10_init_13 : decode cX10_init 13 = .ok (.newarray .int, 2) := by decide +kernel
theorem dX10_init_15 : decode cX10_init 15 = .ok (.putfield 15, 3) := by decide +kernel
theorem dX10_init_18 : decode cX10_init 18 = .ok (.aload_n 0, 1) := by decide +kernel
theorem dX10_init_19 : decode cX10_init 19 = .ok (.bipush 6, 2) := by decide +kernel
theorem dX10_init_21 : decode cX10_init 21 = .ok (.newarray .int, 2) := by decide +kernel
theorem dX10_init_23 : decode cX10_init 23 = .ok (.putfield 18, 3) := by decide +kernel
theorem dX10_init_26 : decode cX10_init 26 = .ok (.aload_n 0, 1) := by decide +kernel
theorem dX10_init_27 : decode cX10_init 27 = .ok (.bipush 6, 2) := by decide +kernel
theorem dX10_init_29 : decode cX10_init 29 = .ok (.newarray .int, 2) := by decide +kernel
theorem dX10_init_31 : decode cX10_init 31 = .ok (.putfield 21, 3) := by decide +kernel
theorem dX10_init_34 : decode cX10_init 34 = .ok (.aload_n 0, 1) := by decide +kernel
theorem dX10_init_35 : decode cX10_init 35 = .ok (.bipush 6, 2) := by decide +kernel
theorem dX10_init_37 : decode cX10_init 37 = .ok (.newarray .int, 2) := by decide +kernel
theorem dX10_init_39 : decode cX10_init 39 = .ok (.putfield 24, 3) := by decide +kernel
theorem dX10_init_42 : decode cX10_init 42 = .ok (.aload_n 0, 1) := by decide +kernel
theorem dX10_init_43 : decode cX10_init 43 = .ok (.bipush 6, 2) := by decide +kernel
theorem dX10_init_45 : decode cX10_init 45 = .ok (.newarray .int, 2) := by decide +kernel
theorem dX10_init_47 : decode cX10_init 47 = .ok (.putfield 27, 3) := by decide +kernel
theorem dX10_init_50 : decode cX10_init 50 = .ok (.aload_n 0, 1) := by decide +kernel
theorem dX10_init_51 : decode cX10_init 51 = .ok (.bipush 6, 2) := by decide +kernel
theorem dX10_init_53 : decode cX10_init 53 = .ok (.newarray .int, 2) := by decide +kernel
theorem dX10_init_55 : decode cX10_init 55 = .ok (.putfield 30, 3) := by decide +kernel
theorem dX10_init_58 : decode cX10_init 58 = .ok (.aload_n 0, 1) := by decide +kernel
theorem dX10_init_59 : decode cX10_init 59 = .ok (.bipush 6, 2) := by decide +kernel
theorem dX10_init_61 : decode cX10_init 61 = .ok (.newarray .int, 2) := by decide +kernel
theorem dX10_init_63 : decode cX10_init 63 = .ok (.putfield 33, 3) := by decide +kernel
theorem dX10_init_66 : decode cX10_init 66 = .ok (.return_, 1) := by decide +kernel
theorem lf_TrapCorner_Town_9 : LKF "TrapCorner$Town" 9 [10] 5 (.array .int) := by
  intro ci hci
  have hci := List.mem_singleton.mp hci
  subst hci
  exact ⟨RX10, TX10, 13, "TrapCorner$Town", ck_10, by decide, tw_84, Or.inl rfl, rfl, rfl, by decide +kernel⟩
theorem lf_TrapCorner_Town_15 : LKF "TrapCorner$Town" 15 [10] 6 (.array .int) := by
  intro ci hci
  have hci := List.mem_singleton.mp hci
  subst hci
  exact ⟨RX10, TX10, 13, "TrapCorner$Town", ck_10, by decide, tw_86, Or.inl rfl, rfl, rfl, by decide +kernel⟩
theorem lf_TrapCorner_Town_18 : LKF "TrapCorner$Town" 18 [10] 7 (.array .int) := by
  intro ci hci
  have hci := List.mem_singleton.mp hci
  subst hci
  exact ⟨RX10, TX10, 13, "TrapCorner$Town", ck_10, by decide, tw_88, Or.inl rfl, rfl, rfl, by decide +kernel⟩
theorem lf_TrapCorner_Town_21 : LKF "TrapCorner$Town" 21 [10] 8 (.array .int) := by
  intro ci hci
  have hci := List.mem_singleton.mp hci
  subst hci
  exact ⟨RX10, TX10, 13, "TrapCorner$Town", ck_10, by decide, tw_91, Or.inl rfl, rfl, rfl, by decide +kernel⟩
theorem lf_TrapCorner_Town_24 : LKF "TrapCorner$Town" 24 [10] 9 (.array .int) := by
  intro ci hci
  have hci := List.mem_singleton.mp hci
  subst hci
  exact ⟨RX10, TX10, 13, "TrapCorner$Town", ck_10, by decide, tw_94, Or.inl rfl, rfl, rfl, by decide +kernel⟩
theorem lf_TrapCorner_Town_27 : LKF "TrapCorner$Town" 27 [10] 10 (.array .int) := by
  intro ci hci
  have hci := List.mem_singleton.mp hci
  subst hci
  exact ⟨RX10, TX10, 13, "TrapCorner$Town", ck_10, by decide, tw_97, Or.inl rfl, rfl, rfl, by decide +kernel⟩
theorem lf_TrapCorner_Town_30 : LKF "TrapCorner$Town" 30 [10] 11 (.array .int) := by
  intro ci hci
  have hci := List.mem_singleton.mp hci
  subst hci
  exact ⟨RX10, TX10, 13, "TrapCorner$Town", ck_10, by decide, tw_100, Or.inl rfl, rfl, rfl, by decide +kernel⟩
theorem lf_TrapCorner_Town_33 : LKF "TrapCorner$Town" 33 [10] 12 (.array .int) := by
  intro ci hci
  have hci := List.mem_singleton.mp hci
  subst hci
  exact ⟨RX10, TX10, 13, "TrapCorner$Town", ck_10, by decide, tw_102, Or.inl rfl, rfl, rfl, by decide +kernel⟩
section
variable {g : GG} {p : Program} {l : Launch} {e : Env} {R : Room} {s : State} {m : MethodId} {args : Array Value} {below : List Frame} {meth : Method} {c : Code} {n0 z0 : Nat}
def f_X10_init_0  (o0 : Nat) (h : AH) : Option (Unit × AH) :=
  ck h (
  nA 0 5 h fun w1 h2 =>
  (pV [10] h2 o0 5 (.ref w1)).bind fun h5 =>
  nA 0 5 h5 fun w7 h8 =>
  (pV [10] h8 o0 6 (.ref w7)).bind fun h11 =>
  nA 0 6 h11 fun w13 h14 =>
  (pV [10] h14 o0 7 (.ref w13)).bind fun h17 =>
  nA 0 6 h17 fun w19 h20 =>
  (pV [10] h20 o0 8 (.ref w19)).bind fun h23 =>
  nA 0 6 h23 fun w25 h26 =>
  (pV [10] h26 o0 9 (.ref w25)).bind fun h29 =>
  nA 0 6 h29 fun w31 h32 =>
  (pV [10] h32 o0 10 (.ref w31)).bind fun h35 =>
  nA 0 6 h35 fun w37 h38 =>
  (pV [10] h38 o0 11 (.ref w37)).bind fun h41 =>
  nA 0 6 h41 fun w43 h44 =>
  (pV [10] h44 o0 12 (.ref w43)).bind fun h47 =>
  some ((), h47))
set_option maxHeartbeats 1000000 in
theorem w_X10_init_0 (X : Cx g p s m args meth c cX10_init 1 "TrapCorner$Town") (hR : 1 ≤ R.frames ∧ 64 ≤ R.locals) (hr : meth.sig.returnType = none) {res : Unit × AH} (hA : R.cells + n0 = res.2.1 ∧ R.slots + z0 = res.2.2.1) (hin : meth.name = "<init>") : ∀ (o0 : Nat) (h : AH) (ls : Array Slot) (H : Heap) (locs : List Loc) (cells slots : Nat), f_X10_init_0 o0 h = some res → Iv g s n0 z0 h H locs cells slots → lv_has ls 1 [(0, .ref (rfG g o0))] → W p l e R s m args below meth c H locs cells slots (MQ below (QG g none res.2) args s R.cells R.slots (AG g)) (F0 m 0 ls []) := by
  have hx := X.1
  have hb := X.2.1
  intro o0 h ls H locs cells slots hf I hl
  unfold f_X10_init_0 at hf
  obtain ⟨hbd, hf⟩ := ck_spec hf
  have hle := I.le hA hbd
  refine lv_aload_n hx hb dX10_init_0 rfl (lv_at hl 0 rfl) ?_
  refine r_obj X tw_67 tw_33 tw_34 ⟨Nat.le_trans (by decide) hR.1, Nat.le_trans (by decide) hR.2⟩ hl.1 dX10_init_1 ?_
  refine lv_aload_n hx hb dX10_init_4 rfl (lv_at hl 0 rfl) ?_
  refine lv_iconst (v := 5) hx hb dX10_init_5 (by decide) ?_
  obtain ⟨w1, h2, e3, b4, hf⟩ := nA_ex hf
  refine r_nA0 X I e3 hA b4 tw_52 dX10_init_6 (fun H I => ?_)
  have hle := I.le hA b4
  obtain ⟨h5, e6, hf⟩ := Option.bind_eq_some_iff.mp hf
  refine r_pFR X hin I e6 lf_TrapCorner_Town_9 rfl dX10_init_8 (fun H locs I => ?_)
  refine lv_aload_n hx hb dX10_init_11 rfl (lv_at hl 0 rfl) ?_
  refine lv_iconst (v := 5) hx hb dX10_init_12 (by decide) ?_
  obtain ⟨w7, h8, e9, b10, hf⟩ := nA_ex hf
  refine r_nA0 X I e9 hA b10 tw_52 dX10_init_13 (fun H I => ?_)
  have hle := I.le hA b10
  obtain ⟨h11, e12, hf⟩ := Option.bind_eq_some_iff.mp hf
  refine r_pFR X hin I e12 lf_TrapCorner_Town_15 rfl dX10_init_15 (fun H locs I => ?_)
  refine lv_aload_n hx hb dX10_init_18 rfl (lv_at hl 0 rfl) ?_
  refine lv_bipush (v := 6) hx hb dX10_init_19 (by decide) ?_
  obtain ⟨w13, h14, e15, b16, hf⟩ := nA_ex hf
  refine r_nA0 X I e15 hA b16 tw_52 dX10_init_21 (fun H I => ?_)
  have hle := I.le hA b16
  obtain ⟨h17, e18, hf⟩ := Option.bind_eq_some_iff.mp hf
  refine r_pFR X hin I e18 lf_TrapCorner_Town_18 rfl dX10_init_23 (fun H locs I => ?_)
  refine lv_aload_n hx hb dX10_init_26 rfl (lv_at hl 0 rfl) ?_
  refine lv_bipush (v := 6) hx hb dX10_init_27 (by decide) ?_
  obtain ⟨w19, h20, e21, b22, hf⟩ := nA_ex hf
  refine r_nA0 X I e21 hA b22 tw_52 dX10_init_29 (fun H I => ?_)
  have hle := I.le hA b22
  obtain ⟨h23, e24, hf⟩ := Option.bind_eq_some_iff.mp hf
  refine r_pFR X hin I e24 lf_TrapCorner_Town_21 rfl dX10_init_31 (fun H locs I => ?_)
  refine lv_aload_n hx hb dX10_init_34 rfl (lv_at hl 0 rfl) ?_
  refine lv_bipush (v := 6) hx hb dX10_init_35 (by decide) ?_
  obtain ⟨w25, h26, e27, b28, hf⟩ := nA_ex hf
  refine r_nA0 X I e27 hA b28 tw_52 dX10_init_37 (fun H I => ?_)
  have hle := I.le hA b28
  obtain ⟨h29, e30, hf⟩ := Option.bind_eq_some_iff.mp hf
  refine r_pFR X hin I e30 lf_TrapCorner_Town_24 rfl dX10_init_39 (fun H locs I => ?_)
  refine lv_aload_n hx hb dX10_init_42 rfl (lv_at hl 0 rfl) ?_
  refine lv_bipush (v := 6) hx hb dX10_init_43 (by decide) ?_
  obtain ⟨w31, h32, e33, b34, hf⟩ := nA_ex hf
  refine r_nA0 X I e33 hA b34 tw_52 dX10_init_45 (fun H I => ?_)
  have hle := I.le hA b34
  obtain ⟨h35, e36, hf⟩ := Option.bind_eq_some_iff.mp hf
  refine r_pFR X hin I e36 lf_TrapCorner_Town_27 rfl dX10_init_47 (fun H locs I => ?_)
  refine lv_aload_n hx hb dX10_init_50 rfl (lv_at hl 0 rfl) ?_
  refine lv_bipush (v := 6) hx hb dX10_init_51 (by decide) ?_
  obtain ⟨w37, h38, e39, b40, hf⟩ := nA_ex hf
  refine r_nA0 X I e39 hA b40 tw_52 dX10_init_53 (fun H I => ?_)
  have hle := I.le hA b40
  obtain ⟨h41, e42, hf⟩ := Option.bind_eq_some_iff.mp hf
  refine r_pFR X hin I e42 lf_TrapCorner_Town_30 rfl dX10_init_55 (fun H locs I => ?_)
  refine lv_aload_n hx hb dX10_init_58 rfl (lv_at hl 0 rfl) ?_
  refine lv_bipush (v := 6) hx hb dX10_init_59 (by decide) ?_
  obtain ⟨w43, h44, e45, b46, hf⟩ := nA_ex hf
  refine r_nA0 X I e45 hA b46 tw_52 dX10_init_61 (fun H I => ?_)
  have hle := I.le hA b46
  obtain ⟨h47, e48, hf⟩ := Option.bind_eq_some_iff.mp hf
  refine r_pFR X hin I e48 lf_TrapCorner_Town_33 rfl dX10_init_63 (fun H locs I => ?_)
  cases hf
  exact k_fin (I.fin hA) (k_rv X I hr dX10_init_66)
def f_X10_init (o0 : Nat) (h : AH) : Option (Unit × AH) := f_X10_init_0 o0 h
end
theorem c_X10_init (l : Launch) (g : GG) (o0 : Nat) {h : AH} {res : Unit × AH} (hf : f_X10_init o0 h = some res) : CM l g yX10_init cX10_init 1 none 1 64 (res.2.1 - h.1) (res.2.2.1 - h.2.1) [.ref (rfG g o0)] h none res.2 := by
  have hbd := (ck_spec (show ck h _ = some res from hf)).1
  exact k_bodyC (by decide) (Nat.le_of_ble_eq_true rfl) (fun p e s m below meth c R ls hR hr hnm X I hl => by
    obtain ⟨r1, r2, r3, r4⟩ := hR
    rw [← r3, ← r4]
    exact w_X10_init_0 X ⟨Nat.le_of_eq r1.symm, Nat.le_of_eq r2.symm⟩ hr ⟨by omega, by omega⟩ hnm o0 h ls s.heap [] 0 0 hf I (lv_sub hl [0] rfl))
/-! TrapCorner$State.<init>()V -/
theorem dX8_init_0 : decode cX8_init 0 = .ok (.aload_n 0, 1) := by decide +kernel
theorem dX8_init_1 : decode cX8_init 1 = .ok (.invokespecial 3, 3) := by decide +kernel
theorem dX8_init_4 : decode cX8_init 4 = .ok (.aload_n 0, 1) := by decide +kernel
theorem dX8_init_5 : decode cX8_init 5 = .ok (.iconst 5, 1) := by decide +kernel
theorem dX8_init_6 : decode cX8_init 6 = .ok (.newarray .int, 2) := by decide +kernel
theorem dX8_init_8 : decode cX8_init 8 = .ok (.putfield 9, 3) := by decide +kernel
theorem dX8_init_11 : decode cX8_init 11 = .ok (.aload_n 0, 1) := by decide +kernel
theorem dX8_init_12 : decode cX8_init 12 = .ok (.iconst 5, 1) := by decide +kernel
theorem dX8_init_13 : decode cX8_init 13 = .ok (.newarray .int, 2) := by decide +kernel
theorem dX8_init_15 : decode cX8_init 15 = .ok (.putfield 15, 3) := by decide +kernel
theorem dX8_init_18 : decode cX8_init 18 = .ok (.aload_n 0, 1) := by decide +kernel
theorem dX8_init_19 : decode cX8_init 19 = .ok (.bipush 6, 2) := by decide +kernel
theorem dX8_init_21 : decode cX8_init 21 = .ok (.newarray .int, 2) := by decide +kernel
theorem dX8_init_23 : decode cX8_init 23 = .ok (.putfield 18, 3) := by decide +kernel
theorem dX8_init_26 : decode cX8_init 26 = .ok (.aload_n 0, 1) := by decide +kernel
theorem dX8_init_27 : decode cX8_init 27 = .ok (.bipush 6, 2) := by decide +kernel
theorem dX8_init_29 : decode cX8_init 29 = .ok (.newarray .int, 2) := by decide +kernel
theorem dX8_init_31 : decode cX8_init 31 = .ok (.putfield 21, 3) := by decide +kernel
theorem dX8_init_34 : decode cX8_init 34 = .ok (.aload_n 0, 1) := by decide +kernel
theorem dX8_init_35 : decode cX8_init 35 = .ok (.bipush 6, 2) := by decide +kernel
theorem dX8_init_37 : decode cX8_init 37 = .ok (.newarray .int, 2) := by decide +kernel
theorem dX8_init_39 : decode cX8_init 39 = .ok (.putfield 24, 3) := by decide +kernel
theorem dX8_init_42 : decode cX8_init 42 = .ok (.aload_n 0, 1) := by decide +kernel
theorem dX8_init_43 : decode cX8_init 43 = .ok (.iconst (-1), 1) := by decide +kernel
theorem dX8_init_44 : decode cX8_init 44 = .ok (.putfield 27, 3) := by decide +kernel
theorem dX8_init_47 : decode cX8_init 47 = .ok (.return_, 1) := by decide +kernel
theorem lf_TrapCorner_State_9 : LKF "TrapCorner$State" 9 [8] 0 (.array .int) := by
  intro ci hci
  have hci := List.mem_singleton.mp hci
  subst hci
  exact ⟨RX8, TX8, 8, "TrapCorner$State", ck_8, by decide, tw_200, Or.inl rfl, rfl, rfl, by decide +kernel⟩
theorem lf_TrapCorner_State_15 : LKF "TrapCorner$State" 15 [8] 1 (.array .int) := by
  intro ci hci
  have hci := List.mem_singleton.mp hci
  subst hci
  exact ⟨RX8, TX8, 8, "TrapCorner$State", ck_8, by decide, tw_203, Or.inl rfl, rfl, rfl, by decide +kernel⟩
theorem lf_TrapCorner_State_18 : LKF "TrapCorner$State" 18 [8] 2 (.array .int) := by
  intro ci hci
  have hci := List.mem_singleton.mp hci
  subst hci
  exact ⟨RX8, TX8, 8, "TrapCorner$State", ck_8, by decide, tw_206, Or.inl rfl, rfl, rfl, by decide +kernel⟩
theorem lf_TrapCorner_State_21 : LKF "TrapCorner$State" 21 [8] 3 (.array .int) := by
  intro ci hci
  have hci := List.mem_singleton.mp hci
  subst hci
  exact ⟨RX8, TX8, 8, "TrapCorner$State", ck_8, by decide, tw_209, Or.inl rfl, rfl, rfl, by decide +kernel⟩
theorem lf_TrapCorner_State_24 : LKF "TrapCorner$State" 24 [8] 4 (.array .int) := by
  intro ci hci
  have hci := List.mem_singleton.mp hci
  subst hci
  exact ⟨RX8, TX8, 8, "TrapCorner$State", ck_8, by decide, tw_212, Or.inl rfl, rfl, rfl, by decide +kernel⟩
section
variable {g : GG} {p : Program} {l : Launch} {e : Env} {R : Room} {s : State} {m : MethodId} {args : Array Value} {below : List Frame} {meth : Method} {c : Code} {n0 z0 : Nat}
def f_X8_init_0  (o0 : Nat) (h : AH) : Option (Unit × AH) :=
  ck h (
  nA 0 5 h fun w1 h2 =>
  (pV [8] h2 o0 0 (.ref w1)).bind fun h5 =>
  nA 0 5 h5 fun w7 h8 =>
  (pV [8] h8 o0 1 (.ref w7)).bind fun h11 =>
  nA 0 6 h11 fun w13 h14 =>
  (pV [8] h14 o0 2 (.ref w13)).bind fun h17 =>
  nA 0 6 h17 fun w19 h20 =>
  (pV [8] h20 o0 3 (.ref w19)).bind fun h23 =>
  nA 0 6 h23 fun w25 h26 =>
  (pV [8] h26 o0 4 (.ref w25)).bind fun h29 =>
  (pV [8] h29 o0 5 (.int ((-1)))).bind fun h31 =>
  some ((), h31))
set_option maxHeartbeats 1000000 in
theorem w_X8_init_0 (X : Cx g p s m args meth c cX8_init 1 "TrapCorner$State") (hR : 1 ≤ R.frames ∧ 64 ≤ R.locals) (hr : meth.sig.returnType = none) {res : Unit × AH} (hA : R.cells + n0 = res.2.1 ∧ R.slots + z0 = res.2.2.1) (hin : meth.name = "<init>") : ∀ (o0 : Nat) (h : AH) (ls : Array Slot) (H : Heap) (locs : List Loc) (cells slots : Nat), f_X8_init_0 o0 h = some res → Iv g s n0 z0 h H locs cells slots → lv_has ls 1 [(0, .ref (rfG g o0))] → W p l e R s m args below meth c H locs cells slots (MQ below (QG g none res.2) args s R.cells R.slots (AG g)) (F0 m 0 ls []) := by
  have hx := X.1
  have hb := X.2.1
  intro o0 h ls H locs cells slots hf I hl
  unfold f_X8_init_0 at hf
  obtain ⟨hbd, hf⟩ := ck_spec hf
  have hle := I.le hA hbd
  refine lv_aload_n hx hb dX8_init_0 rfl (lv_at hl 0 rfl) ?_
  refine r_obj X tw_199 tw_33 tw_34 ⟨Nat.le_trans (by decide) hR.1, Nat.le_trans (by decide) hR.2⟩ hl.1 dX8_init_1 ?_
  refine lv_aload_n hx hb dX8_init_4 rfl (lv_at hl 0 rfl) ?_
  refine lv_iconst (v := 5) hx hb dX8_init_5 (by decide) ?_
  obtain ⟨w1, h2, e3, b4, hf⟩ := nA_ex hf
  refine r_nA0 X I e3 hA b4 tw_52 dX8_init_6 (fun H I => ?_)
  have hle := I.le hA b4
  obtain ⟨h5, e6, hf⟩ := Option.bind_eq_some_iff.mp hf
  refine r_pFR X hin I e6 lf_TrapCorner_State_9 rfl dX8_init_8 (fun H locs I => ?_)
  refine lv_aload_n hx hb dX8_init_11 rfl (lv_at hl 0 rfl) ?_
  refine lv_iconst (v := 5) hx hb dX8_init_12 (by decide) ?_
  obtain ⟨w7, h8, e9, b10, hf⟩ := nA_ex hf
  refine r_nA0 X I e9 hA b10 tw_52 dX8_init_13 (fun H I => ?_)
  have hle := I.le hA b10
  obtain ⟨h11, e12, hf⟩ := Option.bind_eq_some_iff.mp hf
  refine r_pFR X hin I e12 lf_TrapCorner_State_15 rfl dX8_init_15 (fun H locs I => ?_)
  refine lv_aload_n hx hb dX8_init_18 rfl (lv_at hl 0 rfl) ?_
  refine lv_bipush (v := 6) hx hb dX8_init_19 (by decide) ?_
  obtain ⟨w13, h14, e15, b16, hf⟩ := nA_ex hf
  refine r_nA0 X I e15 hA b16 tw_52 dX8_init_21 (fun H I => ?_)
  have hle := I.le hA b16
  obtain ⟨h17, e18, hf⟩ := Option.bind_eq_some_iff.mp hf
  refine r_pFR X hin I e18 lf_TrapCorner_State_18 rfl dX8_init_23 (fun H locs I => ?_)
  refine lv_aload_n hx hb dX8_init_26 rfl (lv_at hl 0 rfl) ?_
  refine lv_bipush (v := 6) hx hb dX8_init_27 (by decide) ?_
  obtain ⟨w19, h20, e21, b22, hf⟩ := nA_ex hf
  refine r_nA0 X I e21 hA b22 tw_52 dX8_init_29 (fun H I => ?_)
  have hle := I.le hA b22
  obtain ⟨h23, e24, hf⟩ := Option.bind_eq_some_iff.mp hf
  refine r_pFR X hin I e24 lf_TrapCorner_State_21 rfl dX8_init_31 (fun H locs I => ?_)
  refine lv_aload_n hx hb dX8_init_34 rfl (lv_at hl 0 rfl) ?_
  refine lv_bipush (v := 6) hx hb dX8_init_35 (by decide) ?_
  obtain ⟨w25, h26, e27, b28, hf⟩ := nA_ex hf
  refine r_nA0 X I e27 hA b28 tw_52 dX8_init_37 (fun H I => ?_)
  have hle := I.le hA b28
  obtain ⟨h29, e30, hf⟩ := Option.bind_eq_some_iff.mp hf
  refine r_pFR X hin I e30 lf_TrapCorner_State_24 rfl dX8_init_39 (fun H locs I => ?_)
  refine lv_aload_n hx hb dX8_init_42 rfl (lv_at hl 0 rfl) ?_
  refine lv_iconst (v := (-1)) hx hb dX8_init_43 (by decide) ?_
  obtain ⟨h31, e32, hf⟩ := Option.bind_eq_some_iff.mp hf
  refine r_pI X I e32 lp_TrapCorner_State_27 dX8_init_44 (fun H locs I => ?_)
  cases hf
  exact k_fin (I.fin hA) (k_rv X I hr dX8_init_47)
def f_X8_init (o0 : Nat) (h : AH) : Option (Unit × AH) := f_X8_init_0 o0 h
end
theorem c_X8_init (l : Launch) (g : GG) (o0 : Nat) {h : AH} {res : Unit × AH} (hf : f_X8_init o0 h = some res) : CM l g yX8_init cX8_init 1 none 1 64 (res.2.1 - h.1) (res.2.2.1 - h.2.1) [.ref (rfG g o0)] h none res.2 := by
  have hbd := (ck_spec (show ck h _ = some res from hf)).1
  exact k_bodyC (by decide) (Nat.le_of_ble_eq_true rfl) (fun p e s m below meth c R ls hR hr hnm X I hl => by
    obtain ⟨r1, r2, r3, r4⟩ := hR
    rw [← r3, ← r4]
    exact w_X8_init_0 X ⟨Nat.le_of_eq r1.symm, Nat.le_of_eq r2.symm⟩ hr ⟨by omega, by omega⟩ hnm o0 h ls s.heap [] 0 0 hf I (lv_sub hl [0] rfl))
/-! TrapCorner$Reader.<init>(LTrapCorner$Tape;)V -/
theorem dX5_init_0 : decode cX5_init 0 = .ok (.aload_n 0, 1) := by decide +kernel
theorem dX5_init_1 : decode cX5_init 1 = .ok (.invokespecial 3, 3) := by decide +kernel
theorem dX5_init_4 : decode cX5_init 4 = .ok (.aload_n 0, 1) := by decide +kernel
theorem dX5_init_5 : decode cX5_init 5 = .ok (.aload_n 1, 1) := by decide +kernel
theorem dX5_init_6 : decode cX5_init 6 = .ok (.putfield 9, 3) := by decide +kernel
theorem dX5_init_9 : decode cX5_init 9 = .ok (.return_, 1) := by decide +kernel
theorem lf_TrapCorner_Reader_9 : LKF "TrapCorner$Reader" 9 [0, 2, 3] 0 (.object "TrapCorner$Tape") := by
  intro ci hci
  simp only [List.mem_cons, List.not_mem_nil, or_false] at hci
  rcases hci with rfl | rfl | rfl
  · exact ⟨RX0, TX0, 6, "TrapCorner$Reader", ck_0, by decide, tw_135, Or.inl rfl, rfl, rfl, by decide +kernel⟩
  · exact ⟨RX2, TX2, 5, "TrapCorner$Reader", ck_2, by decide, tw_135, Or.inl rfl, rfl, rfl, by decide +kernel⟩
  · exact ⟨RX3, TX3, 5, "TrapCorner$Reader", ck_3, by decide, tw_135, Or.inl rfl, rfl, rfl, by decide +kernel⟩
section
variable {g : GG} {p : Program} {l : Launch} {e : Env} {R : Room} {s : State} {m : MethodId} {args : Array Value} {below : List Frame} {meth : Method} {c : Code} {n0 z0 : Nat}
def f_X5_init_0  (o0 : Nat) (o1 : Nat) (h : AH) : Option (Unit × AH) :=
  ck h (
  (pV [0, 2, 3] h o0 0 (.ref o1)).bind fun h1 =>
  some ((), h1))
set_option maxHeartbeats 1000000 in
theorem w_X5_init_0 (X : Cx g p s m args meth c cX5_init 2 "TrapCorner$Reader") (hR : 1 ≤ R.frames ∧ 64 ≤ R.locals) (hr : meth.sig.returnType = none) {res : Unit × AH} (hA : R.cells + n0 = res.2.1 ∧ R.slots + z0 = res.2.2.1) (hin : meth.name = "<init>") : ∀ (o0 : Nat) (o1 : Nat) (h : AH) (ls : Array Slot) (H : Heap) (locs : List Loc) (cells slots : Nat), f_X5_init_0 o0 o1 h = some res → Iv g s n0 z0 h H locs cells slots → lv_has ls 2 [(0, .ref (rfG g o0)), (1, .ref (rfG g o1))] → W p l e R s m args below meth c H locs cells slots (MQ below (QG g none res.2) args s R.cells R.slots (AG g)) (F0 m 0 ls []) := by
  have hx := X.1
  have hb := X.2.1
  intro o0 o1 h ls H locs cells slots hf I hl
  unfold f_X5_init_0 at hf
  obtain ⟨hbd, hf⟩ := ck_spec hf
  have hle := I.le hA hbd
  refine lv_aload_n hx hb dX5_init_0 rfl (lv_at hl 0 rfl) ?_
  refine r_obj X tw_61 tw_33 tw_34 ⟨Nat.le_trans (by decide) hR.1, Nat.le_trans (by decide) hR.2⟩ hl.1 dX5_init_1 ?_
  refine lv_aload_n hx hb dX5_init_4 rfl (lv_at hl 0 rfl) ?_
  refine lv_aload_n hx hb dX5_init_5 rfl (lv_at hl 1 rfl) ?_
  obtain ⟨h1, e2, hf⟩ := Option.bind_eq_some_iff.mp hf
  refine r_pFR X hin I e2 lf_TrapCorner_Reader_9 rfl dX5_init_6 (fun H locs I => ?_)
  cases hf
  exact k_fin (I.fin hA) (k_rv X I hr dX5_init_9)
def f_X5_init (o0 : Nat) (o1 : Nat) (h : AH) : Option (Unit × AH) := f_X5_init_0 o0 o1 h
end
theorem c_X5_init (l : Launch) (g : GG) (o0 : Nat) (o1 : Nat) {h : AH} {res : Unit × AH} (hf : f_X5_init o0 o1 h = some res) : CM l g yX5_init cX5_init 2 none 1 64 (res.2.1 - h.1) (res.2.2.1 - h.2.1) [.ref (rfG g o0), .ref (rfG g o1)] h none res.2 := by
  have hbd := (ck_spec (show ck h _ = some res from hf)).1
  exact k_bodyC (by decide) (Nat.le_of_ble_eq_true rfl) (fun p e s m below meth c R ls hR hr hnm X I hl => by
    obtain ⟨r1, r2, r3, r4⟩ := hR
    rw [← r3, ← r4]
    exact w_X5_init_0 X ⟨Nat.le_of_eq r1.symm, Nat.le_of_eq r2.symm⟩ hr ⟨by omega, by omega⟩ hnm o0 o1 h ls s.heap [] 0 0 hf I (lv_sub hl [0, 1] rfl))
/-! TrapCorner$Pull.<init>()V -/
theorem dX4_init_0 : decode cX4_init 0 = .ok (.aload_n 0, 1) := by decide +kernel
theorem dX4_init_1 : decode cX4_init 1 = .ok (.invokespecial 3, 3) := by decide +kernel
theorem dX4_init_4 : decode cX4_init 4 = .ok (.aload_n 0, 1) := by decide +kernel
theorem dX4_init_5 : decode cX4_init 5 = .ok (.bipush 6, 2) := by decide +kernel
theorem dX4_init_7 : decode cX4_init 7 = .ok (.newarray .int, 2) := by decide +kernel
theorem dX4_init_9 : decode cX4_init 9 = .ok (.putfield 9, 3) := by decide +kernel
theorem dX4_init_12 : decode cX4_init 12 = .ok (.aload_n 0, 1) := by decide +kernel
theorem dX4_init_13 : decode cX4_init 13 = .ok (.bipush 32, 2) := by decide +kernel
theorem dX4_init_15 : decode cX4_init 15 = .ok (.newarray .int, 2) := by decide +kernel
theorem dX4_init_17 : decode cX4_init 17 = .ok (.putfield 15, 3) := by decide +kernel
theorem dX4_init_20 : decode cX4_init 20 = .ok (.return_, 1) := by decide +kernel
theorem lf_TrapCorner_Pull_9 : LKF "TrapCorner$Pull" 9 [4] 1 (.array .int) := by
  intro ci hci
  have hci := List.mem_singleton.mp hci
  subst hci
  exact ⟨RX4, TX4, 4, "TrapCorner$Pull", ck_4, by decide, tw_282, Or.inl rfl, rfl, rfl, by decide +kernel⟩
theorem lf_TrapCorner_Pull_15 : LKF "TrapCorner$Pull" 15 [4] 2 (.array .int) := by
  intro ci hci
  have hci := List.mem_singleton.mp hci
  subst hci
  exact ⟨RX4, TX4, 4, "TrapCorner$Pull", ck_4, by decide, tw_283, Or.inl rfl, rfl, rfl, by decide +kernel⟩
section
variable {g : GG} {p : Program} {l : Launch} {e : Env} {R : Room} {s : State} {m : MethodId} {args : Array Value} {below : List Frame} {meth : Method} {c : Code} {n0 z0 : Nat}
def f_X4_init_0  (o0 : Nat) (h : AH) : Option (Unit × AH) :=
  ck h (
  nA 0 6 h fun w1 h2 =>
  (pV [4] h2 o0 1 (.ref w1)).bind fun h5 =>
  nA 0 32 h5 fun w7 h8 =>
  (pV [4] h8 o0 2 (.ref w7)).bind fun h11 =>
  some ((), h11))
set_option maxHeartbeats 1000000 in
theorem w_X4_init_0 (X : Cx g p s m args meth c cX4_init 1 "TrapCorner$Pull") (hR : 1 ≤ R.frames ∧ 64 ≤ R.locals) (hr : meth.sig.returnType = none) {res : Unit × AH} (hA : R.cells + n0 = res.2.1 ∧ R.slots + z0 = res.2.2.1) (hin : meth.name = "<init>") : ∀ (o0 : Nat) (h : AH) (ls : Array Slot) (H : Heap) (locs : List Loc) (cells slots : Nat), f_X4_init_0 o0 h = some res → Iv g s n0 z0 h H locs cells slots → lv_has ls 1 [(0, .ref (rfG g o0))] → W p l e R s m args below meth c H locs cells slots (MQ below (QG g none res.2) args s R.cells R.slots (AG g)) (F0 m 0 ls []) := by
  have hx := X.1
  have hb := X.2.1
  intro o0 h ls H locs cells slots hf I hl
  unfold f_X4_init_0 at hf
  obtain ⟨hbd, hf⟩ := ck_spec hf
  have hle := I.le hA hbd
  refine lv_aload_n hx hb dX4_init_0 rfl (lv_at hl 0 rfl) ?_
  refine r_obj X tw_279 tw_33 tw_34 ⟨Nat.le_trans (by decide) hR.1, Nat.le_trans (by decide) hR.2⟩ hl.1 dX4_init_1 ?_
  refine lv_aload_n hx hb dX4_init_4 rfl (lv_at hl 0 rfl) ?_
  refine lv_bipush (v := 6) hx hb dX4_init_5 (by decide) ?_
  obtain ⟨w1, h2, e3, b4, hf⟩ := nA_ex hf
  refine r_nA0 X I e3 hA b4 tw_52 dX4_init_7 (fun H I => ?_)
  have hle := I.le hA b4
  obtain ⟨h5, e6, hf⟩ := Option.bind_eq_some_iff.mp hf
  refine r_pFR X hin I e6 lf_TrapCorner_Pull_9 rfl dX4_init_9 (fun H locs I => ?_)
  refine lv_aload_n hx hb dX4_init_12 rfl (lv_at hl 0 rfl) ?_
  refine lv_bipush (v := 32) hx hb dX4_init_13 (by decide) ?_
  obtain ⟨w7, h8, e9, b10, hf⟩ := nA_ex hf
  refine r_nA0 X I e9 hA b10 tw_52 dX4_init_15 (fun H I => ?_)
  have hle := I.le hA b10
  obtain ⟨h11, e12, hf⟩ := Option.bind_eq_some_iff.mp hf
  refine r_pFR X hin I e12 lf_TrapCorner_Pull_15 rfl dX4_init_17 (fun H locs I => ?_)
  cases hf
  exact k_fin (I.fin hA) (k_rv X I hr dX4_init_20)
def f_X4_init (o0 : Nat) (h : AH) : Option (Unit × AH) := f_X4_init_0 o0 h
end
theorem c_X4_init (l : Launch) (g : GG) (o0 : Nat) {h : AH} {res : Unit × AH} (hf : f_X4_init o0 h = some res) : CM l g yX4_init cX4_init 1 none 1 64 (res.2.1 - h.1) (res.2.2.1 - h.2.1) [.ref (rfG g o0)] h none res.2 := by
  have hbd := (ck_spec (show ck h _ = some res from hf)).1
  exact k_bodyC (by decide) (Nat.le_of_ble_eq_true rfl) (fun p e s m below meth c R ls hR hr hnm X I hl => by
    obtain ⟨r1, r2, r3, r4⟩ := hR
    rw [← r3, ← r4]
    exact w_X4_init_0 X ⟨Nat.le_of_eq r1.symm, Nat.le_of_eq r2.symm⟩ hr ⟨by omega, by omega⟩ hnm o0 h ls s.heap [] 0 0 hf I (lv_sub hl [0] rfl))
/-! TrapCorner$CityReader.<init>(LTrapCorner$Tape;)V -/
theorem dX0_init_0 : decode cX0_init 0 = .ok (.aload_n 0, 1) := by decide +kernel
theorem dX0_init_1 : decode cX0_init 1 = .ok (.aload_n 1, 1) := by decide +kernel
theorem dX0_init_2 : decode cX0_init 2 = .ok (.invokespecial 3, 3) := by decide +kernel
theorem dX0_init_5 : decode cX0_init 5 = .ok (.aload_n 0, 1) := by decide +kernel
theorem dX0_init_6 : decode cX0_init 6 = .ok (.new 9, 3) := by decide +kernel
theorem dX0_init_9 : decode cX0_init 9 = .ok (.dup, 1) := by decide +kernel
theorem dX0_init_10 : decode cX0_init 10 = .ok (.invokespecial 11, 3) := by decide +kernel
theorem dX0_init_13 : decode cX0_init 13 = .ok (.putfield 14, 3) := by decide +kernel
theorem dX0_init_16 : decode cX0_init 16 = .ok (.aload_n 0, 1) := by decide +kernel
theorem dX0_init_17 : decode cX0_init 17 = .ok (.bipush 6, 2) := by decide +kernel
theorem dX0_init_19 : decode cX0_init 19 = .ok (.newarray .int, 2) := by decide +kernel
theorem dX0_init_21 : decode cX0_init 21 = .ok (.putfield 20, 3) := by decide +kernel
theorem dX0_init_24 : decode cX0_init 24 = .ok (.return_, 1) := by decide +kernel
theorem lf_TrapCorner_CityReader_14 : LKF "TrapCorner$CityReader" 14 [0] 3 (.object "TrapCorner$Town") := by
  intro ci hci
  have hci := List.mem_singleton.mp hci
  subst hci
  exact ⟨RX0, TX0, 6, "TrapCorner$CityReader", ck_0, by decide, tw_131, Or.inl rfl, rfl, rfl, by decide +kernel⟩
theorem lf_TrapCorner_CityReader_20 : LKF "TrapCorner$CityReader" 20 [0] 4 (.array .int) := by
  intro ci hci
  have hci := List.mem_singleton.mp hci
  subst hci
  exact ⟨RX0, TX0, 6, "TrapCorner$CityReader", ck_0, by decide, tw_133, Or.inl rfl, rfl, rfl, by decide +kernel⟩
section
variable {g : GG} {p : Program} {l : Launch} {e : Env} {R : Room} {s : State} {m : MethodId} {args : Array Value} {below : List Frame} {meth : Method} {c : Code} {n0 z0 : Nat}
def f_X0_init_0  (o0 : Nat) (o1 : Nat) (h : AH) : Option (Unit × AH) :=
  ck h (
  cA (f_X5_init o0 o1 h) h fun _ h1 =>
  nO 10 13 [.int 0, .int 0, .int 0, .int 0, .int 0, .null, .null, .null, .null, .null, .null, .null, .null] h1 fun w5 h6 =>
  cA (f_X10_init w5 h6) h6 fun _ h9 =>
  (pV [0] h9 o0 3 (.ref w5)).bind fun h13 =>
  nA 0 6 h13 fun w15 h16 =>
  (pV [0] h16 o0 4 (.ref w15)).bind fun h19 =>
  some ((), h19))
set_option maxHeartbeats 1000000 in
theorem w_X0_init_0 (X : Cx g p s m args meth c cX0_init 2 "TrapCorner$CityReader") (hR : 2 ≤ R.frames ∧ 128 ≤ R.locals) (hr : meth.sig.returnType = none) {res : Unit × AH} (hA : R.cells + n0 = res.2.1 ∧ R.slots + z0 = res.2.2.1) (hin : meth.name = "<init>") : ∀ (o0 : Nat) (o1 : Nat) (h : AH) (ls : Array Slot) (H : Heap) (locs : List Loc) (cells slots : Nat), f_X0_init_0 o0 o1 h = some res → Iv g s n0 z0 h H locs cells slots → lv_has ls 2 [(0, .ref (rfG g o0)), (1, .ref (rfG g o1))] → W p l e R s m args below meth c H locs cells slots (MQ below (QG g none res.2) args s R.cells R.slots (AG g)) (F0 m 0 ls []) := by
  have hx := X.1
  have hb := X.2.1
  intro o0 o1 h ls H locs cells slots hf I hl
  unfold f_X0_init_0 at hf
  obtain ⟨hbd, hf⟩ := ck_spec hf
  have hle := I.le hA hbd
  refine lv_aload_n hx hb dX0_init_0 rfl (lv_at hl 0 rfl) ?_
  refine lv_aload_n hx hb dX0_init_1 rfl (lv_at hl 1 rfl) ?_
  obtain ⟨⟨⟩, h1, e2, z3, b4, hf⟩ := cA_spec hf
  refine k_IAv (n := 1) (As := [.ref (rfG g o1)]) (rest := []) X I (c_X5_init l g o0 o1 e2) z3 hA b4 tw_58 rfl tw_59 tw_3 ⟨by decide, by decide⟩ (by decide +kernel) tw_60 ⟨Nat.le_trans (by decide) hR.1, Nat.le_trans (by decide) hR.2⟩ rfl hl.1 rfl (Nat.le_of_ble_eq_true rfl) dX0_init_2 (fun H locs I => ?_)
  have hle := I.le hA b4
  refine lv_aload_n hx hb dX0_init_5 rfl (lv_at hl 0 rfl) ?_
  obtain ⟨w5, h6, e7, b8, hf⟩ := nO_ex hf
  refine r_nO X I e7 hA b8 ck_10 tyX10 tyX10_ok tw_62 tw_63 tw_5 (df_10 g) dX0_init_6 (fun H I => ?_)
  have hle := I.le hA b8
  refine lv_dup hx hb dX0_init_9 rfl ?_
  obtain ⟨⟨⟩, h9, e10, z11, b12, hf⟩ := cA_spec hf
  refine k_INAv (n := 0) (As := []) (rest := [.ref (rfG g w5), .ref (rfG g o0)]) X I (c_X10_init l g w5 e10) z11 hA b12 (by decide) rfl tw_65 tw_5 ⟨by decide, by decide⟩ (by decide +kernel) tw_66 ⟨Nat.le_trans (by decide) hR.1, Nat.le_trans (by decide) hR.2⟩ rfl hl.1 rfl (Nat.le_of_ble_eq_true rfl) dX0_init_10 (fun H locs I => ?_)
  have hle := I.le hA b12
  obtain ⟨h13, e14, hf⟩ := Option.bind_eq_some_iff.mp hf
  refine r_pFR X hin I e14 lf_TrapCorner_CityReader_14 rfl dX0_init_13 (fun H locs I => ?_)
  refine lv_aload_n hx hb dX0_init_16 rfl (lv_at hl 0 rfl) ?_
  refine lv_bipush (v := 6) hx hb dX0_init_17 (by decide) ?_
  obtain ⟨w15, h16, e17, b18, hf⟩ := nA_ex hf
  refine r_nA0 X I e17 hA b18 tw_52 dX0_init_19 (fun H I => ?_)
  have hle := I.le hA b18
  obtain ⟨h19, e20, hf⟩ := Option.bind_eq_some_iff.mp hf
  refine r_pFR X hin I e20 lf_TrapCorner_CityReader_20 rfl dX0_init_21 (fun H locs I => ?_)
  cases hf
  exact k_fin (I.fin hA) (k_rv X I hr dX0_init_24)
def f_X0_init (o0 : Nat) (o1 : Nat) (h : AH) : Option (Unit × AH) := f_X0_init_0 o0 o1 h
end
theorem c_X0_init (l : Launch) (g : GG) (o0 : Nat) (o1 : Nat) {h : AH} {res : Unit × AH} (hf : f_X0_init o0 o1 h = some res) : CM l g yX0_init cX0_init 2 none 2 128 (res.2.1 - h.1) (res.2.2.1 - h.2.1) [.ref (rfG g o0), .ref (rfG g o1)] h none res.2 := by
  have hbd := (ck_spec (show ck h _ = some res from hf)).1
  exact k_bodyC (by decide) (Nat.le_of_ble_eq_true rfl) (fun p e s m below meth c R ls hR hr hnm X I hl => by
    obtain ⟨r1, r2, r3, r4⟩ := hR
    rw [← r3, ← r4]
    exact w_X0_init_0 X ⟨Nat.le_of_eq r1.symm, Nat.le_of_eq r2.symm⟩ hr ⟨by omega, by omega⟩ hnm o0 o1 h ls s.heap [] 0 0 hf I (lv_sub hl [0, 1] rfl))
/-! TrapCorner$LawReader.<init>(LTrapCorner$Tape;)V -/
theorem dX2_init_0 : decode cX2_init 0 = .ok (.aload_n 0, 1) := by decide +kernel
theorem dX2_init_1 : decode cX2_init 1 = .ok (.aload_n 1, 1) := by decide +kernel
theorem dX2_init_2 : decode cX2_init 2 = .ok (.invokespecial 3, 3) := by decide +kernel
theorem dX2_init_5 : decode cX2_init 5 = .ok (.aload_n 0, 1) := by decide +kernel
theorem dX2_init_6 : decode cX2_init 6 = .ok (.sipush 240, 3) := by decide +kernel
theorem dX2_init_9 : decode cX2_init 9 = .ok (.newarray .int, 2) := by decide +kernel
theorem dX2_init_11 : decode cX2_init 11 = .ok (.putfield 9, 3) := by decide +kernel
theorem dX2_init_14 : decode cX2_init 14 = .ok (.return_, 1) := by decide +kernel
theorem lf_TrapCorner_LawReader_9 : LKF "TrapCorner$LawReader" 9 [2] 3 (.array .int) := by
  intro ci hci
  have hci := List.mem_singleton.mp hci
  subst hci
  exact ⟨RX2, TX2, 5, "TrapCorner$LawReader", ck_2, by decide, tw_166, Or.inl rfl, rfl, rfl, by decide +kernel⟩
section
variable {g : GG} {p : Program} {l : Launch} {e : Env} {R : Room} {s : State} {m : MethodId} {args : Array Value} {below : List Frame} {meth : Method} {c : Code} {n0 z0 : Nat}
def f_X2_init_0  (o0 : Nat) (o1 : Nat) (h : AH) : Option (Unit × AH) :=
  ck h (
  cA (f_X5_init o0 o1 h) h fun _ h1 =>
  nA 0 240 h1 fun w5 h6 =>
  (pV [2] h6 o0 3 (.ref w5)).bind fun h9 =>
  some ((), h9))
set_option maxHeartbeats 1000000 in
theorem w_X2_init_0 (X : Cx g p s m args meth c cX2_init 2 "TrapCorner$LawReader") (hR : 2 ≤ R.frames ∧ 128 ≤ R.locals) (hr : meth.sig.returnType = none) {res : Unit × AH} (hA : R.cells + n0 = res.2.1 ∧ R.slots + z0 = res.2.2.1) (hin : meth.name = "<init>") : ∀ (o0 : Nat) (o1 : Nat) (h : AH) (ls : Array Slot) (H : Heap) (locs : List Loc) (cells slots : Nat), f_X2_init_0 o0 o1 h = some res → Iv g s n0 z0 h H locs cells slots → lv_has ls 2 [(0, .ref (rfG g o0)), (1, .ref (rfG g o1))] → W p l e R s m args below meth c H locs cells slots (MQ below (QG g none res.2) args s R.cells R.slots (AG g)) (F0 m 0 ls []) := by
  have hx := X.1
  have hb := X.2.1
  intro o0 o1 h ls H locs cells slots hf I hl
  unfold f_X2_init_0 at hf
  obtain ⟨hbd, hf⟩ := ck_spec hf
  have hle := I.le hA hbd
  refine lv_aload_n hx hb dX2_init_0 rfl (lv_at hl 0 rfl) ?_
  refine lv_aload_n hx hb dX2_init_1 rfl (lv_at hl 1 rfl) ?_
  obtain ⟨⟨⟩, h1, e2, z3, b4, hf⟩ := cA_spec hf
  refine k_IAv (n := 1) (As := [.ref (rfG g o1)]) (rest := []) X I (c_X5_init l g o0 o1 e2) z3 hA b4 tw_165 rfl tw_59 tw_3 ⟨by decide, by decide⟩ (by decide +kernel) tw_60 ⟨Nat.le_trans (by decide) hR.1, Nat.le_trans (by decide) hR.2⟩ rfl hl.1 rfl (Nat.le_of_ble_eq_true rfl) dX2_init_2 (fun H locs I => ?_)
  have hle := I.le hA b4
  refine lv_aload_n hx hb dX2_init_5 rfl (lv_at hl 0 rfl) ?_
  refine lv_sipush (v := 240) hx hb dX2_init_6 (by decide) ?_
  obtain ⟨w5, h6, e7, b8, hf⟩ := nA_ex hf
  refine r_nA0 X I e7 hA b8 tw_52 dX2_init_9 (fun H I => ?_)
  have hle := I.le hA b8
  obtain ⟨h9, e10, hf⟩ := Option.bind_eq_some_iff.mp hf
  refine r_pFR X hin I e10 lf_TrapCorner_LawReader_9 rfl dX2_init_11 (fun H locs I => ?_)
  cases hf
  exact k_fin (I.fin hA) (k_rv X I hr dX2_init_14)
def f_X2_init (o0 : Nat) (o1 : Nat) (h : AH) : Option (Unit × AH) := f_X2_init_0 o0 o1 h
end
theorem c_X2_init (l : Launch) (g : GG) (o0 : Nat) (o1 : Nat) {h : AH} {res : Unit × AH} (hf : f_X2_init o0 o1 h = some res) : CM l g yX2_init cX2_init 2 none 2 128 (res.2.1 - h.1) (res.2.2.1 - h.2.1) [.ref (rfG g o0), .ref (rfG g o1)] h none res.2 := by
  have hbd := (ck_spec (show ck h _ = some res from hf)).1
  exact k_bodyC (by decide) (Nat.le_of_ble_eq_true rfl) (fun p e s m below meth c R ls hR hr hnm X I hl => by
    obtain ⟨r1, r2, r3, r4⟩ := hR
    rw [← r3, ← r4]
    exact w_X2_init_0 X ⟨Nat.le_of_eq r1.symm, Nat.le_of_eq r2.symm⟩ hr ⟨by omega, by omega⟩ hnm o0 o1 h ls s.heap [] 0 0 hf I (lv_sub hl [0, 1] rfl))
/-! TrapCorner$PlanReader.<init>(LTrapCorner$Tape;)V -/
theorem dX3_init_0 : decode cX3_init 0 = .ok (.aload_n 0, 1) := by decide +kernel
theorem dX3_init_1 : decode cX3_init 1 = .ok (.aload_n 1, 1) := by decide +kernel
theorem dX3_init_2 : decode cX3_init 2 = .ok (.invokespecial 3, 3) := by decide +kernel
theorem dX3_init_5 : decode cX3_init 5 = .ok (.aload_n 0, 1) := by decide +kernel
theorem dX3_init_6 : decode cX3_init 6 = .ok (.bipush 16, 2) := by decide +kernel
theorem dX3_init_8 : decode cX3_init 8 = .ok (.newarray .int, 2) := by decide +kernel
theorem dX3_init_10 : decode cX3_init 10 = .ok (.putfield 9, 3) := by decide +kernel
theorem dX3_init_13 : decode cX3_init 13 = .ok (.return_, 1) := by decide +kernel
theorem lf_TrapCorner_PlanReader_9 : LKF "TrapCorner$PlanReader" 9 [3] 3 (.array .int) := by
  intro ci hci
  have hci := List.mem_singleton.mp hci
  subst hci
  exact ⟨RX3, TX3, 5, "TrapCorner$PlanReader", ck_3, by decide, tw_182, Or.inl rfl, rfl, rfl, by decide +kernel⟩
section
variable {g : GG} {p : Program} {l : Launch} {e : Env} {R : Room} {s : State} {m : MethodId} {args : Array Value} {below : List Frame} {meth : Method} {c : Code} {n0 z0 : Nat}
def f_X3_init_0  (o0 : Nat) (o1 : Nat) (h : AH) : Option (Unit × AH) :=
  ck h (
  cA (f_X5_init o0 o1 h) h fun _ h1 =>
  nA 0 16 h1 fun w5 h6 =>
  (pV [3] h6 o0 3 (.ref w5)).bind fun h9 =>
  some ((), h9))
set_option maxHeartbeats 1000000 in
theorem w_X3_init_0 (X : Cx g p s m args meth c cX3_init 2 "TrapCorner$PlanReader") (hR : 2 ≤ R.frames ∧ 128 ≤ R.locals) (hr : meth.sig.returnType = none) {res : Unit × AH} (hA : R.cells + n0 = res.2.1 ∧ R.slots + z0 = res.2.2.1) (hin : meth.name = "<init>") : ∀ (o0 : Nat) (o1 : Nat) (h : AH) (ls : Array Slot) (H : Heap) (locs : List Loc) (cells slots : Nat), f_X3_init_0 o0 o1 h = some res → Iv g s n0 z0 h H locs cells slots → lv_has ls 2 [(0, .ref (rfG g o0)), (1, .ref (rfG g o1))] → W p l e R s m args below meth c H locs cells slots (MQ below (QG g none res.2) args s R.cells R.slots (AG g)) (F0 m 0 ls []) := by
  have hx := X.1
  have hb := X.2.1
  intro o0 o1 h ls H locs cells slots hf I hl
  unfold f_X3_init_0 at hf
  obtain ⟨hbd, hf⟩ := ck_spec hf
  have hle := I.le hA hbd
  refine lv_aload_n hx hb dX3_init_0 rfl (lv_at hl 0 rfl) ?_
  refine lv_aload_n hx hb dX3_init_1 rfl (lv_at hl 1 rfl) ?_
  obtain ⟨⟨⟩, h1, e2, z3, b4, hf⟩ := cA_spec hf
  refine k_IAv (n := 1) (As := [.ref (rfG g o1)]) (rest := []) X I (c_X5_init l g o0 o1 e2) z3 hA b4 tw_181 rfl tw_59 tw_3 ⟨by decide, by decide⟩ (by decide +kernel) tw_60 ⟨Nat.le_trans (by decide) hR.1, Nat.le_trans (by decide) hR.2⟩ rfl hl.1 rfl (Nat.le_of_ble_eq_true rfl) dX3_init_2 (fun H locs I => ?_)
  have hle := I.le hA b4
  refine lv_aload_n hx hb dX3_init_5 rfl (lv_at hl 0 rfl) ?_
  refine lv_bipush (v := 16) hx hb dX3_init_6 (by decide) ?_
  obtain ⟨w5, h6, e7, b8, hf⟩ := nA_ex hf
  refine r_nA0 X I e7 hA b8 tw_52 dX3_init_8 (fun H I => ?_)
  have hle := I.le hA b8
  obtain ⟨h9, e10, hf⟩ := Option.bind_eq_some_iff.mp hf
  refine r_pFR X hin I e10 lf_TrapCorner_PlanReader_9 rfl dX3_init_10 (fun H locs I => ?_)
  cases hf
  exact k_fin (I.fin hA) (k_rv X I hr dX3_init_13)
def f_X3_init (o0 : Nat) (o1 : Nat) (h : AH) : Option (Unit × AH) := f_X3_init_0 o0 o1 h
end
theorem c_X3_init (l : Launch) (g : GG) (o0 : Nat) (o1 : Nat) {h : AH} {res : Unit × AH} (hf : f_X3_init o0 o1 h = some res) : CM l g yX3_init cX3_init 2 none 2 128 (res.2.1 - h.1) (res.2.2.1 - h.2.1) [.ref (rfG g o0), .ref (rfG g o1)] h none res.2 := by
  have hbd := (ck_spec (show ck h _ = some res from hf)).1
  exact k_bodyC (by decide) (Nat.le_of_ble_eq_true rfl) (fun p e s m below meth c R ls hR hr hnm X I hl => by
    obtain ⟨r1, r2, r3, r4⟩ := hR
    rw [← r3, ← r4]
    exact w_X3_init_0 X ⟨Nat.le_of_eq r1.symm, Nat.le_of_eq r2.symm⟩ hr ⟨by omega, by omega⟩ hnm o0 o1 h ls s.heap [] 0 0 hf I (lv_sub hl [0, 1] rfl))
/-! TrapCorner$Round.<init>(LTrapCorner$Town;LTrapCorner$Pull;)V -/
theorem dX6_init_0 : decode cX6_init 0 = .ok (.aload_n 0, 1) := by decide +kernel
theorem dX6_init_1 : decode cX6_init 1 = .ok (.invokespecial 3, 3) := by decide +kernel
theorem dX6_init_4 : decode cX6_init 4 = .ok (.aload_n 0, 1) := by decide +kernel
theorem dX6_init_5 : decode cX6_init 5 = .ok (.bipush 6, 2) := by decide +kernel
theorem dX6_init_7 : decode cX6_init 7 = .ok (.newarray .int, 2) := by decide +kernel
theorem dX6_init_9 : decode cX6_init 9 = .ok (.putfield 9, 3) := by decide +kernel
theorem dX6_init_12 : decode cX6_init 12 = .ok (.aload_n 0, 1) := by decide +kernel
theorem dX6_init_13 : decode cX6_init 13 = .ok (.bipush 60, 2) := by decide +kernel
theorem dX6_init_15 : decode cX6_init 15 = .ok (.newarray .int, 2) := by decide +kernel
theorem dX6_init_17 : decode cX6_init 17 = .ok (.putfield 15, 3) := by decide +kernel
theorem dX6_init_20 : decode cX6_init 20 = .ok (.aload_n 0, 1) := by decide +kernel
theorem dX6_init_21 : decode cX6_init 21 = .ok (.aload_n 1, 1) := by decide +kernel
theorem dX6_init_22 : decode cX6_init 22 = .ok (.putfield 18, 3) := by decide +kernel
theorem dX6_init_25 : decode cX6_init 25 = .ok (.aload_n 0, 1) := by decide +kernel
theorem dX6_init_26 : decode cX6_init 26 = .ok (.aload_n 2, 1) := by decide +kernel
theorem dX6_init_27 : decode cX6_init 27 = .ok (.putfield 22, 3) := by decide +kernel
theorem dX6_init_30 : decode cX6_init 30 = .ok (.return_, 1) := by decide +kernel
theorem lf_TrapCorner_Round_9 : LKF "TrapCorner$Round" 9 [6] 2 (.array .int) := by
  intro ci hci
  have hci := List.mem_singleton.mp hci
  subst hci
  exact ⟨RX6, TX6, 7, "TrapCorner$Round", ck_6, by decide, tw_302, Or.inl rfl, rfl, rfl, by decide +kernel⟩
theorem lf_TrapCorner_Round_15 : LKF "TrapCorner$Round" 15 [6] 6 (.array .int) := by
  intro ci hci
  have hci := List.mem_singleton.mp hci
  subst hci
  exact ⟨RX6, TX6, 7, "TrapCorner$Round", ck_6, by decide, tw_309, Or.inl rfl, rfl, rfl, by decide +kernel⟩
theorem lf_TrapCorner_Round_18 : LKF "TrapCorner$Round" 18 [6] 0 (.object "TrapCorner$Town") := by
  intro ci hci
  have hci := List.mem_singleton.mp hci
  subst hci
  exact ⟨RX6, TX6, 7, "TrapCorner$Round", ck_6, by decide, tw_300, Or.inl rfl, rfl, rfl, by decide +kernel⟩
theorem lf_TrapCorner_Round_22 : LKF "TrapCorner$Round" 22 [6] 1 (.object "TrapCorner$Pull") := by
  intro ci hci
  have hci := List.mem_singleton.mp hci
  subst hci
  exact ⟨RX6, TX6, 7, "TrapCorner$Round", ck_6, by decide, tw_301, Or.inl rfl, rfl, rfl, by decide +kernel⟩
section
variable {g : GG} {p : Program} {l : Launch} {e : Env} {R : Room} {s : State} {m : MethodId} {args : Array Value} {below : List Frame} {meth : Method} {c : Code} {n0 z0 : Nat}
def f_X6_init_0  (o0 : Nat) (o1 : Nat) (o2 : Nat) (h : AH) : Option (Unit × AH) :=
  ck h (
  nA 0 6 h fun w1 h2 =>
  (pV [6] h2 o0 2 (.ref w1)).bind fun h5 =>
  nA 0 60 h5 fun w7 h8 =>
  (pV [6] h8 o0 6 (.ref w7)).bind fun h11 =>
  (pV [6] h11 o0 0 (.ref o1)).bind fun h13 =>
  (pV [6] h13 o0 1 (.ref o2)).bind fun h15 =>
  some ((), h15))
set_option maxHeartbeats 1000000 in
theorem w_X6_init_0 (X : Cx g p s m args meth c cX6_init 3 "TrapCorner$Round") (hR : 1 ≤ R.frames ∧ 64 ≤ R.locals) (hr : meth.sig.returnType = none) {res : Unit × AH} (hA : R.cells + n0 = res.2.1 ∧ R.slots + z0 = res.2.2.1) (hin : meth.name = "<init>") : ∀ (o0 : Nat) (o1 : Nat) (o2 : Nat) (h : AH) (ls : Array Slot) (H : Heap) (locs : List Loc) (cells slots : Nat), f_X6_init_0 o0 o1 o2 h = some res → Iv g s n0 z0 h H locs cells slots → lv_has ls 3 [(0, .ref (rfG g o0)), (1, .ref (rfG g o1)), (2, .ref (rfG g o2))] → W p l e R s m args below meth c H locs cells slots (MQ below (QG g none res.2) args s R.cells R.slots (AG g)) (F0 m 0 ls []) := by
  have hx := X.1
  have hb := X.2.1
  intro o0 o1 o2 h ls H locs cells slots hf I hl
  unfold f_X6_init_0 at hf
  obtain ⟨hbd, hf⟩ := ck_spec hf
  have hle := I.le hA hbd
  refine lv_aload_n hx hb dX6_init_0 rfl (lv_at hl 0 rfl) ?_
  refine r_obj X tw_299 tw_33 tw_34 ⟨Nat.le_trans (by decide) hR.1, Nat.le_trans (by decide) hR.2⟩ hl.1 dX6_init_1 ?_
  refine lv_aload_n hx hb dX6_init_4 rfl (lv_at hl 0 rfl) ?_
  refine lv_bipush (v := 6) hx hb dX6_init_5 (by decide) ?_
  obtain ⟨w1, h2, e3, b4, hf⟩ := nA_ex hf
  refine r_nA0 X I e3 hA b4 tw_52 dX6_init_7 (fun H I => ?_)
  have hle := I.le hA b4
  obtain ⟨h5, e6, hf⟩ := Option.bind_eq_some_iff.mp hf
  refine r_pFR X hin I e6 lf_TrapCorner_Round_9 rfl dX6_init_9 (fun H locs I => ?_)
  refine lv_aload_n hx hb dX6_init_12 rfl (lv_at hl 0 rfl) ?_
  refine lv_bipush (v := 60) hx hb dX6_init_13 (by decide) ?_
  obtain ⟨w7, h8, e9, b10, hf⟩ := nA_ex hf
  refine r_nA0 X I e9 hA b10 tw_52 dX6_init_15 (fun H I => ?_)
  have hle := I.le hA b10
  obtain ⟨h11, e12, hf⟩ := Option.bind_eq_some_iff.mp hf
  refine r_pFR X hin I e12 lf_TrapCorner_Round_15 rfl dX6_init_17 (fun H locs I => ?_)
  refine lv_aload_n hx hb dX6_init_20 rfl (lv_at hl 0 rfl) ?_
  refine lv_aload_n hx hb dX6_init_21 rfl (lv_at hl 1 rfl) ?_
  obtain ⟨h13, e14, hf⟩ := Option.bind_eq_some_iff.mp hf
  refine r_pFR X hin I e14 lf_TrapCorner_Round_18 rfl dX6_init_22 (fun H locs I => ?_)
  refine lv_aload_n hx hb dX6_init_25 rfl (lv_at hl 0 rfl) ?_
  refine lv_aload_n hx hb dX6_init_26 rfl (lv_at hl 2 rfl) ?_
  obtain ⟨h15, e16, hf⟩ := Option.bind_eq_some_iff.mp hf
  refine r_pFR X hin I e16 lf_TrapCorner_Round_22 rfl dX6_init_27 (fun H locs I => ?_)
  cases hf
  exact k_fin (I.fin hA) (k_rv X I hr dX6_init_30)
def f_X6_init (o0 : Nat) (o1 : Nat) (o2 : Nat) (h : AH) : Option (Unit × AH) := f_X6_init_0 o0 o1 o2 h
end
theorem c_X6_init (l : Launch) (g : GG) (o0 : Nat) (o1 : Nat) (o2 : Nat) {h : AH} {res : Unit × AH} (hf : f_X6_init o0 o1 o2 h = some res) : CM l g yX6_init cX6_init 3 none 1 64 (res.2.1 - h.1) (res.2.2.1 - h.2.1) [.ref (rfG g o0), .ref (rfG g o1), .ref (rfG g o2)] h none res.2 := by
  have hbd := (ck_spec (show ck h _ = some res from hf)).1
  exact k_bodyC (by decide) (Nat.le_of_ble_eq_true rfl) (fun p e s m below meth c R ls hR hr hnm X I hl => by
    obtain ⟨r1, r2, r3, r4⟩ := hR
    rw [← r3, ← r4]
    exact w_X6_init_0 X ⟨Nat.le_of_eq r1.symm, Nat.le_of_eq r2.symm⟩ hr ⟨by omega, by omega⟩ hnm o0 o1 o2 h ls s.heap [] 0 0 hf I (lv_sub hl [0, 1, 2] rfl))
/-! TrapCorner$Sightings.<init>(LTrapCorner$Town;LTrapCorner$Pull;)V -/
theorem dX7_init_0 : decode cX7_init 0 = .ok (.aload_n 0, 1) := by decide +kernel
theorem dX7_init_1 : decode cX7_init 1 = .ok (.invokespecial 3, 3) := by decide +kernel
theorem dX7_init_4 : decode cX7_init 4 = .ok (.aload_n 0, 1) := by decide +kernel
theorem dX7_init_5 : decode cX7_init 5 = .ok (.bipush 10, 2) := by decide +kernel
theorem dX7_init_7 : decode cX7_init 7 = .ok (.newarray .int, 2) := by decide +kernel
theorem dX7_init_9 : decode cX7_init 9 = .ok (.putfield 9, 3) := by decide +kernel
theorem dX7_init_12 : decode cX7_init 12 = .ok (.aload_n 0, 1) := by decide +kernel
theorem dX7_init_13 : decode cX7_init 13 = .ok (.bipush 10, 2) := by decide +kernel
theorem dX7_init_15 : decode cX7_init 15 = .ok (.newarray .int, 2) := by decide +kernel
theorem dX7_init_17 : decode cX7_init 17 = .ok (.putfield 15, 3) := by decide +kernel
theorem dX7_init_20 : decode cX7_init 20 = .ok (.aload_n 0, 1) := by decide +kernel
theorem dX7_init_21 : decode cX7_init 21 = .ok (.bipush 10, 2) := by decide +kernel
theorem dX7_init_23 : decode cX7_init 23 = .ok (.newarray .int, 2) := by decide +kernel
theorem dX7_init_25 : decode cX7_init 25 = .ok (.putfield 18, 3) := by decide +kernel
theorem dX7_init_28 : decode cX7_init 28 = .ok (.aload_n 0, 1) := by decide +kernel
theorem dX7_init_29 : decode cX7_init 29 = .ok (.bipush 10, 2) := by decide +kernel
theorem dX7_init_31 : decode cX7_init 31 = .ok (.newarray .boolean, 2) := by decide +kernel
theorem dX7_init_33 : decode cX7_init 33 = .ok (.putfield 21, 3) := by decide +kernel
theorem dX7_init_36 : decode cX7_init 36 = .ok (.aload_n 0, 1) := by decide +kernel
theorem dX7_init_37 : decode cX7_init 37 = .ok (.bipush 30, 2) := by decide +kernel
theorem dX7_init_39 : decode cX7_init 39 = .ok (.newarray .int, 2) := by decide +kernel
theorem dX7_init_41 : decode cX7_init 41 = .ok (.putfield 25, 3) := by decide +kernel
theorem dX7_init_44 : decode cX7_init 44 = .ok (.aload_n 0, 1) := by decide +kernel
theorem dX7_init_45 : decode cX7_init 45 = .ok (.aload_n 1, 1) := by decide +kernel
theorem dX7_init_46 : decode cX7_init 46 = .ok (.putfield 28, 3) := by decide +kernel
theorem dX7_init_49 : decode cX7_init 49 = .ok (.aload_n 0, 1) := by decide +kernel
theorem dX7_init_50 : decode cX7_init 50 = .ok (.aload_n 2, 1) := by decide +kernel
theorem dX7_init_51 : decode cX7_init 51 = .ok (.putfield 32, 3) := by decide +kernel
theorem dX7_init_54 : decode cX7_init 54 = .ok (.return_, 1) := by decide +kernel
theorem lf_TrapCorner_Sightings_9 : LKF "TrapCorner$Sightings" 9 [7] 2 (.array .int) := by
  intro ci hci
  have hci := List.mem_singleton.mp hci
  subst hci
  exact ⟨RX7, TX7, 9, "TrapCorner$Sightings", ck_7, by decide, tw_333, Or.inl rfl, rfl, rfl, by decide +kernel⟩
theorem lf_TrapCorner_Sightings_15 : LKF "TrapCorner$Sightings" 15 [7] 3 (.array .int) := by
  intro ci hci
  have hci := List.mem_singleton.mp hci
  subst hci
  exact ⟨RX7, TX7, 9, "TrapCorner$Sightings", ck_7, by decide, tw_334, Or.inl rfl, rfl, rfl, by decide +kernel⟩
theorem lf_TrapCorner_Sightings_18 : LKF "TrapCorner$Sightings" 18 [7] 4 (.array .int) := by
  intro ci hci
  have hci := List.mem_singleton.mp hci
  subst hci
  exact ⟨RX7, TX7, 9, "TrapCorner$Sightings", ck_7, by decide, tw_335, Or.inl rfl, rfl, rfl, by decide +kernel⟩
theorem lf_TrapCorner_Sightings_21 : LKF "TrapCorner$Sightings" 21 [7] 5 (.array .boolean) := by
  intro ci hci
  have hci := List.mem_singleton.mp hci
  subst hci
  exact ⟨RX7, TX7, 9, "TrapCorner$Sightings", ck_7, by decide, tw_336, Or.inl rfl, rfl, rfl, by decide +kernel⟩
theorem lf_TrapCorner_Sightings_25 : LKF "TrapCorner$Sightings" 25 [7] 7 (.array .int) := by
  intro ci hci
  have hci := List.mem_singleton.mp hci
  subst hci
  exact ⟨RX7, TX7, 9, "TrapCorner$Sightings", ck_7, by decide, tw_339, Or.inl rfl, rfl, rfl, by decide +kernel⟩
theorem lf_TrapCorner_Sightings_28 : LKF "TrapCorner$Sightings" 28 [7] 0 (.object "TrapCorner$Town") := by
  intro ci hci
  have hci := List.mem_singleton.mp hci
  subst hci
  exact ⟨RX7, TX7, 9, "TrapCorner$Sightings", ck_7, by decide, tw_331, Or.inl rfl, rfl, rfl, by decide +kernel⟩
theorem lf_TrapCorner_Sightings_32 : LKF "TrapCorner$Sightings" 32 [7] 1 (.object "TrapCorner$Pull") := by
  intro ci hci
  have hci := List.mem_singleton.mp hci
  subst hci
  exact ⟨RX7, TX7, 9, "TrapCorner$Sightings", ck_7, by decide, tw_332, Or.inl rfl, rfl, rfl, by decide +kernel⟩
section
variable {g : GG} {p : Program} {l : Launch} {e : Env} {R : Room} {s : State} {m : MethodId} {args : Array Value} {below : List Frame} {meth : Method} {c : Code} {n0 z0 : Nat}
def f_X7_init_0  (o0 : Nat) (o1 : Nat) (o2 : Nat) (h : AH) : Option (Unit × AH) :=
  ck h (
  nA 0 10 h fun w1 h2 =>
  (pV [7] h2 o0 2 (.ref w1)).bind fun h5 =>
  nA 0 10 h5 fun w7 h8 =>
  (pV [7] h8 o0 3 (.ref w7)).bind fun h11 =>
  nA 0 10 h11 fun w13 h14 =>
  (pV [7] h14 o0 4 (.ref w13)).bind fun h17 =>
  nA 3 10 h17 fun w19 h20 =>
  (pV [7] h20 o0 5 (.ref w19)).bind fun h23 =>
  nA 0 30 h23 fun w25 h26 =>
  (pV [7] h26 o0 7 (.ref w25)).bind fun h29 =>
  (pV [7] h29 o0 0 (.ref o1)).bind fun h31 =>
  (pV [7] h31 o0 1 (.ref o2)).bind fun h33 =>
  some ((), h33))
set_option maxHeartbeats 1000000 in
theorem w_X7_init_0 (X : Cx g p s m args meth c cX7_init 3 "TrapCorner$Sightings") (hR : 1 ≤ R.frames ∧ 64 ≤ R.locals) (hr : meth.sig.returnType = none) {res : Unit × AH} (hA : R.cells + n0 = res.2.1 ∧ R.slots + z0 = res.2.2.1) (hin : meth.name = "<init>") : ∀ (o0 : Nat) (o1 : Nat) (o2 : Nat) (h : AH) (ls : Array Slot) (H : Heap) (locs : List Loc) (cells slots : Nat), f_X7_init_0 o0 o1 o2 h = some res → Iv g s n0 z0 h H locs cells slots → lv_has ls 3 [(0, .ref (rfG g o0)), (1, .ref (rfG g o1)), (2, .ref (rfG g o2))] → W p l e R s m args below meth c H locs cells slots (MQ below (QG g none res.2) args s R.cells R.slots (AG g)) (F0 m 0 ls []) := by
  have hx := X.1
  have hb := X.2.1
  intro o0 o1 o2 h ls H locs cells slots hf I hl
  unfold f_X7_init_0 at hf
  obtain ⟨hbd, hf⟩ := ck_spec hf
  have hle := I.le hA hbd
  refine lv_aload_n hx hb dX7_init_0 rfl (lv_at hl 0 rfl) ?_
  refine r_obj X tw_330 tw_33 tw_34 ⟨Nat.le_trans (by decide) hR.1, Nat.le_trans (by decide) hR.2⟩ hl.1 dX7_init_1 ?_
  refine lv_aload_n hx hb dX7_init_4 rfl (lv_at hl 0 rfl) ?_
  refine lv_bipush (v := 10) hx hb dX7_init_5 (by decide) ?_
  obtain ⟨w1, h2, e3, b4, hf⟩ := nA_ex hf
  refine r_nA0 X I e3 hA b4 tw_52 dX7_init_7 (fun H I => ?_)
  have hle := I.le hA b4
  obtain ⟨h5, e6, hf⟩ := Option.bind_eq_some_iff.mp hf
  refine r_pFR X hin I e6 lf_TrapCorner_Sightings_9 rfl dX7_init_9 (fun H locs I => ?_)
  refine lv_aload_n hx hb dX7_init_12 rfl (lv_at hl 0 rfl) ?_
  refine lv_bipush (v := 10) hx hb dX7_init_13 (by decide) ?_
  obtain ⟨w7, h8, e9, b10, hf⟩ := nA_ex hf
  refine r_nA0 X I e9 hA b10 tw_52 dX7_init_15 (fun H I => ?_)
  have hle := I.le hA b10
  obtain ⟨h11, e12, hf⟩ := Option.bind_eq_some_iff.mp hf
  refine r_pFR X hin I e12 lf_TrapCorner_Sightings_15 rfl dX7_init_17 (fun H locs I => ?_)
  refine lv_aload_n hx hb dX7_init_20 rfl (lv_at hl 0 rfl) ?_
  refine lv_bipush (v := 10) hx hb dX7_init_21 (by decide) ?_
  obtain ⟨w13, h14, e15, b16, hf⟩ := nA_ex hf
  refine r_nA0 X I e15 hA b16 tw_52 dX7_init_23 (fun H I => ?_)
  have hle := I.le hA b16
  obtain ⟨h17, e18, hf⟩ := Option.bind_eq_some_iff.mp hf
  refine r_pFR X hin I e18 lf_TrapCorner_Sightings_18 rfl dX7_init_25 (fun H locs I => ?_)
  refine lv_aload_n hx hb dX7_init_28 rfl (lv_at hl 0 rfl) ?_
  refine lv_bipush (v := 10) hx hb dX7_init_29 (by decide) ?_
  obtain ⟨w19, h20, e21, b22, hf⟩ := nA_ex hf
  refine r_nA3 X I e21 hA b22 tw_362 dX7_init_31 (fun H I => ?_)
  have hle := I.le hA b22
  obtain ⟨h23, e24, hf⟩ := Option.bind_eq_some_iff.mp hf
  refine r_pFR X hin I e24 lf_TrapCorner_Sightings_21 rfl dX7_init_33 (fun H locs I => ?_)
  refine lv_aload_n hx hb dX7_init_36 rfl (lv_at hl 0 rfl) ?_
  refine lv_bipush (v := 30) hx hb dX7_init_37 (by decide) ?_
  obtain ⟨w25, h26, e27, b28, hf⟩ := nA_ex hf
  refine r_nA0 X I e27 hA b28 tw_52 dX7_init_39 (fun H I => ?_)
  have hle := I.le hA b28
  obtain ⟨h29, e30, hf⟩ := Option.bind_eq_some_iff.mp hf
  refine r_pFR X hin I e30 lf_TrapCorner_Sightings_25 rfl dX7_init_41 (fun H locs I => ?_)
  refine lv_aload_n hx hb dX7_init_44 rfl (lv_at hl 0 rfl) ?_
  refine lv_aload_n hx hb dX7_init_45 rfl (lv_at hl 1 rfl) ?_
  obtain ⟨h31, e32, hf⟩ := Option.bind_eq_some_iff.mp hf
  refine r_pFR X hin I e32 lf_TrapCorner_Sightings_28 rfl dX7_init_46 (fun H locs I => ?_)
  refine lv_aload_n hx hb dX7_init_49 rfl (lv_at hl 0 rfl) ?_
  refine lv_aload_n hx hb dX7_init_50 rfl (lv_at hl 2 rfl) ?_
  obtain ⟨h33, e34, hf⟩ := Option.bind_eq_some_iff.mp hf
  refine r_pFR X hin I e34 lf_TrapCorner_Sightings_32 rfl dX7_init_51 (fun H locs I => ?_)
  cases hf
  exact k_fin (I.fin hA) (k_rv X I hr dX7_init_54)
def f_X7_init (o0 : Nat) (o1 : Nat) (o2 : Nat) (h : AH) : Option (Unit × AH) := f_X7_init_0 o0 o1 o2 h
end
theorem c_X7_init (l : Launch) (g : GG) (o0 : Nat) (o1 : Nat) (o2 : Nat) {h : AH} {res : Unit × AH} (hf : f_X7_init o0 o1 o2 h = some res) : CM l g yX7_init cX7_init 3 none 1 64 (res.2.1 - h.1) (res.2.2.1 - h.2.1) [.ref (rfG g o0), .ref (rfG g o1), .ref (rfG g o2)] h none res.2 := by
  have hbd := (ck_spec (show ck h _ = some res from hf)).1
  exact k_bodyC (by decide) (Nat.le_of_ble_eq_true rfl) (fun p e s m below meth c R ls hR hr hnm X I hl => by
    obtain ⟨r1, r2, r3, r4⟩ := hR
    rw [← r3, ← r4]
    exact w_X7_init_0 X ⟨Nat.le_of_eq r1.symm, Nat.le_of_eq r2.symm⟩ hr ⟨by omega, by omega⟩ hnm o0 o1 o2 h ls s.heap [] 0 0 hf I (lv_sub hl [0, 1, 2] rfl))
/-! TrapCorner$History.<init>()V -/
theorem dX1_init_0 : decode cX1_init 0 = .ok (.aload_n 0, 1) := by decide +kernel
theorem dX1_init_1 : decode cX1_init 1 = .ok (.invokespecial 3, 3) := by decide +kernel
theorem dX1_init_4 : decode cX1_init 4 = .ok (.aload_n 0, 1) := by decide +kernel
theorem dX1_init_5 : decode cX1_init 5 = .ok (.bipush 40, 2) := by decide +kernel
theorem dX1_init_7 : decode cX1_init 7 = .ok (.anewarray 9, 3) := by decide +kernel
theorem dX1_init_10 : decode cX1_init 10 = .ok (.putfield 11, 3) := by decide +kernel
theorem dX1_init_13 : decode cX1_init 13 = .ok (.aload_n 0, 1) := by decide +kernel
theorem dX1_init_14 : decode cX1_init 14 = .ok (.bipush 100, 2) := by decide +kernel
theorem dX1_init_16 : decode cX1_init 16 = .ok (.newarray .int, 2) := by decide +kernel
theorem dX1_init_18 : decode cX1_init 18 = .ok (.putfield 17, 3) := by decide +kernel
theorem dX1_init_21 : decode cX1_init 21 = .ok (.aload_n 0, 1) := by decide +kernel
theorem dX1_init_22 : decode cX1_init 22 = .ok (.new 9, 3) := by decide +kernel
theorem dX1_init_25 : decode cX1_init 25 = .ok (.dup, 1) := by decide +kernel
theorem dX1_init_26 : decode cX1_init 26 = .ok (.invokespecial 21, 3) := by decide +kernel
theorem dX1_init_29 : decode cX1_init 29 = .ok (.putfield 22, 3) := by decide +kernel
theorem dX1_init_32 : decode cX1_init 32 = .ok (.aload_n 0, 1) := by decide +kernel
theorem dX1_init_33 : decode cX1_init 33 = .ok (.bipush 100, 2) := by decide +kernel
theorem dX1_init_35 : decode cX1_init 35 = .ok (.newarray .int, 2) := by decide +kernel
theorem dX1_init_37 : decode cX1_init 37 = .ok (.putfield 26, 3) := by decide +kernel
theorem dX1_init_40 : decode cX1_init 40 = .ok (.return_, 1) := by decide +kernel
theorem lf_TrapCorner_History_11 : LKF "TrapCorner$History" 11 [1] 0 (.array (.object "TrapCorner$State")) := by
  intro ci hci
  have hci := List.mem_singleton.mp hci
  subst hci
  exact ⟨RX1, TX1, 7, "TrapCorner$History", ck_1, by decide, tw_250, Or.inl rfl, rfl, rfl, by decide +kernel⟩
theorem lf_TrapCorner_History_17 : LKF "TrapCorner$History" 17 [1] 3 (.array .int) := by
  intro ci hci
  have hci := List.mem_singleton.mp hci
  subst hci
  exact ⟨RX1, TX1, 7, "TrapCorner$History", ck_1, by decide, tw_254, Or.inl rfl, rfl, rfl, by decide +kernel⟩
theorem lf_TrapCorner_History_22 : LKF "TrapCorner$History" 22 [1] 4 (.object "TrapCorner$State") := by
  intro ci hci
  have hci := List.mem_singleton.mp hci
  subst hci
  exact ⟨RX1, TX1, 7, "TrapCorner$History", ck_1, by decide, tw_255, Or.inl rfl, rfl, rfl, by decide +kernel⟩
theorem lf_TrapCorner_History_26 : LKF "TrapCorner$History" 26 [1] 5 (.array .int) := by
  intro ci hci
  have hci := List.mem_singleton.mp hci
  subst hci
  exact ⟨RX1, TX1, 7, "TrapCorner$History", ck_1, by decide, tw_256, Or.inl rfl, rfl, rfl, by decide +kernel⟩
section
variable {g : GG} {p : Program} {l : Launch} {e : Env} {R : Room} {s : State} {m : MethodId} {args : Array Value} {below : List Frame} {meth : Method} {c : Code} {n0 z0 : Nat}
def f_X1_init_0  (o0 : Nat) (h : AH) : Option (Unit × AH) :=
  ck h (
  nA 4 40 h fun w1 h2 =>
  (pV [1] h2 o0 0 (.ref w1)).bind fun h5 =>
  nA 0 100 h5 fun w7 h8 =>
  (pV [1] h8 o0 3 (.ref w7)).bind fun h11 =>
  nO 8 8 [.null, .null, .null, .null, .null, .int 0, .int 0, .int 0] h11 fun w13 h14 =>
  cA (f_X8_init w13 h14) h14 fun _ h17 =>
  (pV [1] h17 o0 4 (.ref w13)).bind fun h21 =>
  nA 0 100 h21 fun w23 h24 =>
  (pV [1] h24 o0 5 (.ref w23)).bind fun h27 =>
  some ((), h27))
set_option maxHeartbeats 1000000 in
theorem w_X1_init_0 (X : Cx g p s m args meth c cX1_init 1 "TrapCorner$History") (hR : 2 ≤ R.frames ∧ 128 ≤ R.locals) (hr : meth.sig.returnType = none) {res : Unit × AH} (hA : R.cells + n0 = res.2.1 ∧ R.slots + z0 = res.2.2.1) (hin : meth.name = "<init>") : ∀ (o0 : Nat) (h : AH) (ls : Array Slot) (H : Heap) (locs : List Loc) (cells slots : Nat), f_X1_init_0 o0 h = some res → Iv g s n0 z0 h H locs cells slots → lv_has ls 1 [(0, .ref (rfG g o0))] → W p l e R s m args below meth c H locs cells slots (MQ below (QG g none res.2) args s R.cells R.slots (AG g)) (F0 m 0 ls []) := by
  have hx := X.1
  have hb := X.2.1
  intro o0 h ls H locs cells slots hf I hl
  unfold f_X1_init_0 at hf
  obtain ⟨hbd, hf⟩ := ck_spec hf
  have hle := I.le hA hbd
  refine lv_aload_n hx hb dX1_init_0 rfl (lv_at hl 0 rfl) ?_
  refine r_obj X tw_246 tw_33 tw_34 ⟨Nat.le_trans (by decide) hR.1, Nat.le_trans (by decide) hR.2⟩ hl.1 dX1_init_1 ?_
  refine lv_aload_n hx hb dX1_init_4 rfl (lv_at hl 0 rfl) ?_
  refine lv_bipush (v := 40) hx hb dX1_init_5 (by decide) ?_
  obtain ⟨w1, h2, e3, b4, hf⟩ := nA_ex hf
  refine r_nA4 X I e3 hA b4 tw_247 dX1_init_7 (fun H I => ?_)
  have hle := I.le hA b4
  obtain ⟨h5, e6, hf⟩ := Option.bind_eq_some_iff.mp hf
  refine r_pFR X hin I e6 lf_TrapCorner_History_11 rfl dX1_init_10 (fun H locs I => ?_)
  refine lv_aload_n hx hb dX1_init_13 rfl (lv_at hl 0 rfl) ?_
  refine lv_bipush (v := 100) hx hb dX1_init_14 (by decide) ?_
  obtain ⟨w7, h8, e9, b10, hf⟩ := nA_ex hf
  refine r_nA0 X I e9 hA b10 tw_52 dX1_init_16 (fun H I => ?_)
  have hle := I.le hA b10
  obtain ⟨h11, e12, hf⟩ := Option.bind_eq_some_iff.mp hf
  refine r_pFR X hin I e12 lf_TrapCorner_History_17 rfl dX1_init_18 (fun H locs I => ?_)
  refine lv_aload_n hx hb dX1_init_21 rfl (lv_at hl 0 rfl) ?_
  obtain ⟨w13, h14, e15, b16, hf⟩ := nO_ex hf
  refine r_nO X I e15 hA b16 ck_8 tyX8 tyX8_ok tw_247 tw_195 tw_8 (df_8 g) dX1_init_22 (fun H I => ?_)
  have hle := I.le hA b16
  refine lv_dup hx hb dX1_init_25 rfl ?_
  obtain ⟨⟨⟩, h17, e18, z19, b20, hf⟩ := cA_spec hf
  refine k_INAv (n := 0) (As := []) (rest := [.ref (rfG g w13), .ref (rfG g o0)]) X I (c_X8_init l g w13 e18) z19 hA b20 (by decide) rfl tw_197 tw_8 ⟨by decide, by decide⟩ (by decide +kernel) tw_198 ⟨Nat.le_trans (by decide) hR.1, Nat.le_trans (by decide) hR.2⟩ rfl hl.1 rfl (Nat.le_of_ble_eq_true rfl) dX1_init_26 (fun H locs I => ?_)
  have hle := I.le hA b20
  obtain ⟨h21, e22, hf⟩ := Option.bind_eq_some_iff.mp hf
  refine r_pFR X hin I e22 lf_TrapCorner_History_22 rfl dX1_init_29 (fun H locs I => ?_)
  refine lv_aload_n hx hb dX1_init_32 rfl (lv_at hl 0 rfl) ?_
  refine lv_bipush (v := 100) hx hb dX1_init_33 (by decide) ?_
  obtain ⟨w23, h24, e25, b26, hf⟩ := nA_ex hf
  refine r_nA0 X I e25 hA b26 tw_52 dX1_init_35 (fun H I => ?_)
  have hle := I.le hA b26
  obtain ⟨h27, e28, hf⟩ := Option.bind_eq_some_iff.mp hf
  refine r_pFR X hin I e28 lf_TrapCorner_History_26 rfl dX1_init_37 (fun H locs I => ?_)
  cases hf
  exact k_fin (I.fin hA) (k_rv X I hr dX1_init_40)
def f_X1_init (o0 : Nat) (h : AH) : Option (Unit × AH) := f_X1_init_0 o0 h
end
theorem c_X1_init (l : Launch) (g : GG) (o0 : Nat) {h : AH} {res : Unit × AH} (hf : f_X1_init o0 h = some res) : CM l g yX1_init cX1_init 1 none 2 128 (res.2.1 - h.1) (res.2.2.1 - h.2.1) [.ref (rfG g o0)] h none res.2 := by
  have hbd := (ck_spec (show ck h _ = some res from hf)).1
  exact k_bodyC (by decide) (Nat.le_of_ble_eq_true rfl) (fun p e s m below meth c R ls hR hr hnm X I hl => by
    obtain ⟨r1, r2, r3, r4⟩ := hR
    rw [← r3, ← r4]
    exact w_X1_init_0 X ⟨Nat.le_of_eq r1.symm, Nat.le_of_eq r2.symm⟩ hr ⟨by omega, by omega⟩ hnm o0 h ls s.heap [] 0 0 hf I (lv_sub hl [0] rfl))
/-! TrapCorner.<init>()V -/
theorem dX11_init_0 : decode cX11_init 0 = .ok (.aload_n 0, 1) := by decide +kernel
theorem dX11_init_1 : decode cX11_init 1 = .ok (.invokespecial 1, 3) := by decide +kernel
theorem dX11_init_4 : decode cX11_init 4 = .ok (.aload_n 0, 1) := by decide +kernel
theorem dX11_init_5 : decode cX11_init 5 = .ok (.new 7, 3) := by decide +kernel
theorem dX11_init_8 : decode cX11_init 8 = .ok (.dup, 1) := by decide +kernel
theorem dX11_init_9 : decode cX11_init 9 = .ok (.invokespecial 9, 3) := by decide +kernel
theorem dX11_init_12 : decode cX11_init 12 = .ok (.putfield 10, 3) := by decide +kernel
theorem dX11_init_15 : decode cX11_init 15 = .ok (.aload_n 0, 1) := by decide +kernel
theorem dX11_init_16 : decode cX11_init 16 = .ok (.new 16, 3) := by decide +kernel
theorem dX11_init_19 : decode cX11_init 19 = .ok (.dup, 1) := by decide +kernel
theorem dX11_init_20 : decode cX11_init 20 = .ok (.aload_n 0, 1) := by decide +kernel
theorem dX11_init_21 : decode cX11_init 21 = .ok (.getfield 10, 3) := by decide +kernel
theorem dX11_init_24 : decode cX11_init 24 = .ok (.invokespecial 18, 3) := by decide +kernel
theorem dX11_init_27 : decode cX11_init 27 = .ok (.putfield 21, 3) := by decide +kernel
theorem dX11_init_30 : decode cX11_init 30 = .ok (.aload_n 0, 1) := by decide +kernel
theorem dX11_init_31 : decode cX11_init 31 = .ok (.new 25, 3) := by decide +kernel
theorem dX11_init_34 : decode cX11_init 34 = .ok (.dup, 1) := by decide +kernel
theorem dX11_init_35 : decode cX11_init 35 = .ok (.aload_n 0, 1) := by decide +kernel
theorem dX11_init_36 : decode cX11_init 36 = .ok (.getfield 10, 3) := by decide +kernel
theorem dX11_init_39 : decode cX11_init 39 = .ok (.invokespecial 27, 3) := by decide +kernel
theorem dX11_init_42 : decode cX11_init 42 = .ok (.putfield 28, 3) := by decide +kernel
theorem dX11_init_45 : decode cX11_init 45 = .ok (.aload_n 0, 1) := by decide +kernel
theorem dX11_init_46 : decode cX11_init 46 = .ok (.new 32, 3) := by decide +kernel
theorem dX11_init_49 : decode cX11_init 49 = .ok (.dup, 1) := by decide +kernel
theorem dX11_init_50 : decode cX11_init 50 = .ok (.aload_n 0, 1) := by decide +kernel
theorem dX11_init_51 : decode cX11_init 51 = .ok (.getfield 10, 3) := by decide +kernel
theorem dX11_init_54 : decode cX11_init 54 = .ok (.invokespecial 34, 3) := by decide +kernel
theorem dX11_init_57 : decode cX11_init 57 = .ok (.putfield 35, 3) := by decide +kernel
theorem dX11_init_60 : decode cX11_init 60 = .ok (.aload_n 0, 1) := by decide +kernel
theorem dX11_init_61 : decode cX11_init 61 = .ok (.new 39, 3) := by decide +kernel
theorem dX11_init_64 : decode cX11_init 64 = .ok (.dup, 1) := by decide +kernel
theorem dX11_init_65 : decode cX11_init 65 = .ok (.invokespecial 41, 3) := by decide +kernel
theorem dX11_init_68 : decode cX11_init 68 = .ok (.putfield 42, 3) := by decide +kernel
theorem dX11_init_71 : decode cX11_init 71 = .ok (.aload_n 0, 1) := by decide +kernel
theorem dX11_init_72 : decode cX11_init 72 = .ok (.new 46, 3) := by decide +kernel
theorem dX11_init_75 : decode cX11_init 75 = .ok (.dup, 1) := by decide +kernel
theorem dX11_init_76 : decode cX11_init 76 = .ok (.invokespecial 48, 3) := by decide +kernel
theorem dX11_init_79 : decode cX11_init 79 = .ok (.putfield 49, 3) := by decide +kernel
theorem dX11_init_82 : decode cX11_init 82 = .ok (.aload_n 0, 1) := by decide +kernel
theorem dX11_init_83 : decode cX11_init 83 = .ok (.new 46, 3) := by decide +kernel
theorem dX11_init_86 : decode cX11_init 86 = .ok (.dup, 1) := by decide +kernel
theorem dX11_init_87 : decode cX11_init 87 = .ok (.invokespecial 48, 3) := by decide +kernel
theorem dX11_init_90 : decode cX11_init 90 = .ok (.putfield 53, 3) := by decide +kernel
theorem dX11_init_93 : decode cX11_init 93 = .ok (.aload_n 0, 1) := by decide +kernel
theorem dX11_init_94 : decode cX11_init 94 = .ok (.new 56, 3) := by decide +kernel
theorem dX11_init_97 : decode cX11_init 97 = .ok (.dup, 1) := by decide +kernel
theorem dX11_init_98 : decode cX11_init 98 = .ok (.invokespecial 58, 3) := by decide +kernel
theorem dX11_init_101 : decode cX11_init 101 = .ok (.putfield 59, 3) := by decide +kernel
theorem dX11_init_104 : decode cX11_init 104 = .ok (.aload_n 0, 1) := by decide +kernel
theorem dX11_init_105 : decode cX11_init 105 = .ok (.new 63, 3) := by decide +kernel
theorem dX11_init_108 : decode cX11_init 108 = .ok (.dup, 1) := by decide +kernel
theorem dX11_init_109 : decode cX11_init 109 = .ok (.invokespecial 65, 3) := by decide +kernel
theorem dX11_init_112 : decode cX11_init 112 = .ok (.putfield 66, 3) := by decide +kernel
theorem dX11_init_115 : decode cX11_init 115 = .ok (.aload_n 0, 1) := by decide +kernel
theorem dX11_init_116 : decode cX11_init 116 = .ok (.new 70, 3) := by decide +kernel
theorem dX11_init_119 : decode cX11_init 119 = .ok (.dup, 1) := by decide +kernel
theorem dX11_init_120 : decode cX11_init 120 = .ok (.aload_n 0, 1) := by decide +kernel
theorem dX11_init_121 : decode cX11_init 121 = .ok (.getfield 42, 3) := by decide +kernel
theorem dX11_init_124 : decode cX11_init 124 = .ok (.aload_n 0, 1) := by decide +kernel
theorem dX11_init_125 : decode cX11_init 125 = .ok (.getfield 66, 3) := by decide +kernel
theorem dX11_init_128 : decode cX11_init 128 = .ok (.invokespecial 72, 3) := by decide +kernel
theorem dX11_init_131 : decode cX11_init 131 = .ok (.putfield 75, 3) := by decide +kernel
theorem dX11_init_134 : decode cX11_init 134 = .ok (.aload_n 0, 1) := by decide +kernel
theorem dX11_init_135 : decode cX11_init 135 = .ok (.new 79, 3) := by decide +kernel
theorem dX11_init_138 : decode cX11_init 138 = .ok (.dup, 1) := by decide +kernel
theorem dX11_init_139 : decode cX11_init 139 = .ok (.aload_n 0, 1) := by decide +kernel
theorem dX11_init_140 : decode cX11_init 140 = .ok (.getfield 42, 3) := by decide +kernel
theorem dX11_init_143 : decode cX11_init 143 = .ok (.aload_n 0, 1) := by decide +kernel
theorem dX11_init_144 : decode cX11_init 144 = .ok (.getfield 66, 3) := by decide +kernel
theorem dX11_init_147 : decode cX11_init 147 = .ok (.invokespecial 81, 3) := by decide +kernel
theorem dX11_init_150 : decode cX11_init 150 = .ok (.putfield 82, 3) := by decide +kernel
theorem dX11_init_153 : decode cX11_init 153 = .ok (.aload_n 0, 1) := by decide +kernel
theorem dX11_init_154 : decode cX11_init 154 = .ok (.iconst 4, 1) := by decide +kernel
theorem dX11_init_155 : decode cX11_init 155 = .ok (.iconst 0, 1) := by decide +kernel
theorem dX11_init_156 : decode cX11_init 156 = .ok (.multianewarray 86 2, 4) := by decide +kernel
theorem dX11_init_160 : decode cX11_init 160 = .ok (.putfield 88, 3) := by decide +kernel
theorem dX11_init_163 : decode cX11_init 163 = .ok (.aload_n 0, 1) := by decide +kernel
theorem dX11_init_164 : decode cX11_init 164 = .ok (.iconst 4, 1) := by decide +kernel
theorem dX11_init_165 : decode cX11_init 165 = .ok (.iconst 0, 1) := by decide +kernel
theorem dX11_init_166 : decode cX11_init 166 = .ok (.multianewarray 86 2, 4) := by decide +kernel
theorem dX11_init_170 : decode cX11_init 170 = .ok (.putfield 91, 3) := by decide +kernel
theorem dX11_init_173 : decode cX11_init 173 = .ok (.aload_n 0, 1) := by decide +kernel
theorem dX11_init_174 : decode cX11_init 174 = .ok (.bipush 16, 2) := by decide +kernel
theorem dX11_init_176 : decode cX11_init 176 = .ok (.newarray .int, 2) := by decide +kernel
theorem dX11_init_178 : decode cX11_init 178 = .ok (.putfield 94, 3) := by decide +kernel
theorem dX11_init_181 : decode cX11_init 181 = .ok (.aload_n 0, 1) := by decide +kernel
theorem dX11_init_182 : decode cX11_init 182 = .ok (.iconst (-1), 1) := by decide +kernel
theorem dX11_init_183 : decode cX11_init 183 = .ok (.putfield 98, 3) := by decide +kernel
theorem dX11_init_186 : decode cX11_init 186 = .ok (.aload_n 0, 1) := by decide +kernel
theorem dX11_init_187 : decode cX11_init 187 = .ok (.iconst 2, 1) := by decide +kernel
theorem dX11_init_188 : decode cX11_init 188 = .ok (.putfield 102, 3) := by decide +kernel
theorem dX11_init_191 : decode cX11_init 191 = .ok (.return_, 1) := by decide +kernel
theorem lf_TrapCorner_10 : LKF "TrapCorner" 10 [11] 0 (.object "TrapCorner$Tape") := by
  intro ci hci
  have hci := List.mem_singleton.mp hci
  subst hci
  exact ⟨RX11, TX11, 19, "TrapCorner", ck_11, by decide, tw_365, Or.inl rfl, rfl, rfl, by decide +kernel⟩
theorem lf_TrapCorner_21 : LKF "TrapCorner" 21 [11] 1 (.object "TrapCorner$CityReader") := by
  intro ci hci
  have hci := List.mem_singleton.mp hci
  subst hci
  exact ⟨RX11, TX11, 19, "TrapCorner", ck_11, by decide, tw_366, Or.inl rfl, rfl, rfl, by decide +kernel⟩
theorem lf_TrapCorner_28 : LKF "TrapCorner" 28 [11] 2 (.object "TrapCorner$LawReader") := by
  intro ci hci
  have hci := List.mem_singleton.mp hci
  subst hci
  exact ⟨RX11, TX11, 19, "TrapCorner", ck_11, by decide, tw_367, Or.inl rfl, rfl, rfl, by decide +kernel⟩
theorem lf_TrapCorner_35 : LKF "TrapCorner" 35 [11] 3 (.object "TrapCorner$PlanReader") := by
  intro ci hci
  have hci := List.mem_singleton.mp hci
  subst hci
  exact ⟨RX11, TX11, 19, "TrapCorner", ck_11, by decide, tw_368, Or.inl rfl, rfl, rfl, by decide +kernel⟩
theorem lf_TrapCorner_42 : LKF "TrapCorner" 42 [11] 4 (.object "TrapCorner$Town") := by
  intro ci hci
  have hci := List.mem_singleton.mp hci
  subst hci
  exact ⟨RX11, TX11, 19, "TrapCorner", ck_11, by decide, tw_369, Or.inl rfl, rfl, rfl, by decide +kernel⟩
theorem lf_TrapCorner_49 : LKF "TrapCorner" 49 [11] 5 (.object "TrapCorner$State") := by
  intro ci hci
  have hci := List.mem_singleton.mp hci
  subst hci
  exact ⟨RX11, TX11, 19, "TrapCorner", ck_11, by decide, tw_370, Or.inl rfl, rfl, rfl, by decide +kernel⟩
theorem lf_TrapCorner_53 : LKF "TrapCorner" 53 [11] 6 (.object "TrapCorner$State") := by
  intro ci hci
  have hci := List.mem_singleton.mp hci
  subst hci
  exact ⟨RX11, TX11, 19, "TrapCorner", ck_11, by decide, tw_371, Or.inl rfl, rfl, rfl, by decide +kernel⟩
theorem lf_TrapCorner_59 : LKF "TrapCorner" 59 [11] 7 (.object "TrapCorner$History") := by
  intro ci hci
  have hci := List.mem_singleton.mp hci
  subst hci
  exact ⟨RX11, TX11, 19, "TrapCorner", ck_11, by decide, tw_372, Or.inl rfl, rfl, rfl, by decide +kernel⟩
theorem lf_TrapCorner_66 : LKF "TrapCorner" 66 [11] 8 (.object "TrapCorner$Pull") := by
  intro ci hci
  have hci := List.mem_singleton.mp hci
  subst hci
  exact ⟨RX11, TX11, 19, "TrapCorner", ck_11, by decide, tw_373, Or.inl rfl, rfl, rfl, by decide +kernel⟩
theorem lf_TrapCorner_75 : LKF "TrapCorner" 75 [11] 9 (.object "TrapCorner$Round") := by
  intro ci hci
  have hci := List.mem_singleton.mp hci
  subst hci
  exact ⟨RX11, TX11, 19, "TrapCorner", ck_11, by decide, tw_374, Or.inl rfl, rfl, rfl, by decide +kernel⟩
theorem lf_TrapCorner_82 : LKF "TrapCorner" 82 [11] 10 (.object "TrapCorner$Sightings") := by
  intro ci hci
  have hci := List.mem_singleton.mp hci
  subst hci
  exact ⟨RX11, TX11, 19, "TrapCorner", ck_11, by decide, tw_375, Or.inl rfl, rfl, rfl, by decide +kernel⟩
theorem lf_TrapCorner_88 : LKF "TrapCorner" 88 [11] 11 (.array (.array .int)) := by
  intro ci hci
  have hci := List.mem_singleton.mp hci
  subst hci
  exact ⟨RX11, TX11, 19, "TrapCorner", ck_11, by decide, tw_376, Or.inl rfl, rfl, rfl, by decide +kernel⟩
theorem lf_TrapCorner_91 : LKF "TrapCorner" 91 [11] 12 (.array (.array .int)) := by
  intro ci hci
  have hci := List.mem_singleton.mp hci
  subst hci
  exact ⟨RX11, TX11, 19, "TrapCorner", ck_11, by decide, tw_377, Or.inl rfl, rfl, rfl, by decide +kernel⟩
theorem lf_TrapCorner_94 : LKF "TrapCorner" 94 [11] 13 (.array .int) := by
  intro ci hci
  have hci := List.mem_singleton.mp hci
  subst hci
  exact ⟨RX11, TX11, 19, "TrapCorner", ck_11, by decide, tw_378, Or.inl rfl, rfl, rfl, by decide +kernel⟩
section
variable {g : GG} {p : Program} {l : Launch} {e : Env} {R : Room} {s : State} {m : MethodId} {args : Array Value} {below : List Frame} {meth : Method} {c : Code} {n0 z0 : Nat}
def f_X11_init_0  (o0 : Nat) (h : AH) : Option (Unit × AH) :=
  ck h (
  nO 9 2 [.null, .int 0] h fun w1 h2 =>
  cA (f_X9_init w1 h2) h2 fun _ h5 =>
  (pV [11] h5 o0 0 (.ref w1)).bind fun h9 =>
  nO 0 6 [.null, .int 0, .int 0, .null, .null, .int 0] h9 fun w11 h12 =>
  (gR [11] h12 o0 0).bind fun v15 =>
  cA (f_X0_init w11 v15 h12) h12 fun _ h17 =>
  (pV [11] h17 o0 1 (.ref w11)).bind fun h21 =>
  nO 2 5 [.null, .int 0, .int 0, .null, .int 0] h21 fun w23 h24 =>
  (gR [11] h24 o0 0).bind fun v27 =>
  cA (f_X2_init w23 v27 h24) h24 fun _ h29 =>
  (pV [11] h29 o0 2 (.ref w23)).bind fun h33 =>
  nO 3 5 [.null, .int 0, .int 0, .null, .int 0] h33 fun w35 h36 =>
  (gR [11] h36 o0 0).bind fun v39 =>
  cA (f_X3_init w35 v39 h36) h36 fun _ h41 =>
  (pV [11] h41 o0 3 (.ref w35)).bind fun h45 =>
  nO 10 13 [.int 0, .int 0, .int 0, .int 0, .int 0, .null, .null, .null, .null, .null, .null, .null, .null] h45 fun w47 h48 =>
  cA (f_X10_init w47 h48) h48 fun _ h51 =>
  (pV [11] h51 o0 4 (.ref w47)).bind fun h55 =>
  nO 8 8 [.null, .null, .null, .null, .null, .int 0, .int 0, .int 0] h55 fun w57 h58 =>
  cA (f_X8_init w57 h58) h58 fun _ h61 =>
  (pV [11] h61 o0 5 (.ref w57)).bind fun h65 =>
  nO 8 8 [.null, .null, .null, .null, .null, .int 0, .int 0, .int 0] h65 fun w67 h68 =>
  cA (f_X8_init w67 h68) h68 fun _ h71 =>
  (pV [11] h71 o0 6 (.ref w67)).bind fun h75 =>
  nO 1 7 [.null, .int 0, .int 0, .null, .null, .null, .int 0] h75 fun w77 h78 =>
  cA (f_X1_init w77 h78) h78 fun _ h81 =>
  (pV [11] h81 o0 7 (.ref w77)).bind fun h85 =>
  nO 4 4 [.null, .null, .null, .int 0] h85 fun w87 h88 =>
  cA (f_X4_init w87 h88) h88 fun _ h91 =>
  (pV [11] h91 o0 8 (.ref w87)).bind fun h95 =>
  nO 6 7 [.null, .null, .null, .int 0, .int 0, .int 0, .null] h95 fun w97 h98 =>
  (gR [11] h98 o0 4).bind fun v101 =>
  (gR [11] h98 o0 8).bind fun v103 =>
  cA (f_X6_init w97 v101 v103 h98) h98 fun _ h105 =>
  (pV [11] h105 o0 9 (.ref w97)).bind fun h109 =>
  nO 7 9 [.null, .null, .null, .null, .null, .null, .int 0, .null, .int 0] h109 fun w111 h112 =>
  (gR [11] h112 o0 4).bind fun v115 =>
  (gR [11] h112 o0 8).bind fun v117 =>
  cA (f_X7_init w111 v115 v117 h112) h112 fun _ h119 =>
  (pV [11] h119 o0 10 (.ref w111)).bind fun h123 =>
  nM h123 fun w125 h126 =>
  (pV [11] h126 o0 11 (.ref w125)).bind fun h129 =>
  nM h129 fun w131 h132 =>
  (pV [11] h132 o0 12 (.ref w131)).bind fun h135 =>
  nA 0 16 h135 fun w137 h138 =>
  (pV [11] h138 o0 13 (.ref w137)).bind fun h141 =>
  (pV [11] h141 o0 16 (.int ((-1)))).bind fun h143 =>
  (pV [11] h143 o0 17 (.int 2)).bind fun h145 =>
  some ((), h145))
set_option maxHeartbeats 1000000 in
theorem w_X11_init_0 (X : Cx g p s m args meth c cX11_init 1 "TrapCorner") (hR : 3 ≤ R.frames ∧ 192 ≤ R.locals) (hr : meth.sig.returnType = none) {res : Unit × AH} (hA : R.cells + n0 = res.2.1 ∧ R.slots + z0 = res.2.2.1) (hin : meth.name = "<init>") : ∀ (o0 : Nat) (h : AH) (ls : Array Slot) (H : Heap) (locs : List Loc) (cells slots : Nat), f_X11_init_0 o0 h = some res → Iv g s n0 z0 h H locs cells slots → lv_has ls 1 [(0, .ref (rfG g o0))] → W p l e R s m args below meth c H locs cells slots (MQ below (QG g none res.2) args s R.cells R.slots (AG g)) (F0 m 0 ls []) := by
  have hx := X.1
  have hb := X.2.1
  intro o0 h ls H locs cells slots hf I hl
  unfold f_X11_init_0 at hf
  obtain ⟨hbd, hf⟩ := ck_spec hf
  have hle := I.le hA hbd
  refine lv_aload_n hx hb dX11_init_0 rfl (lv_at hl 0 rfl) ?_
  refine r_obj X tw_32 tw_33 tw_34 ⟨Nat.le_trans (by decide) hR.1, Nat.le_trans (by decide) hR.2⟩ hl.1 dX11_init_1 ?_
  refine lv_aload_n hx hb dX11_init_4 rfl (lv_at hl 0 rfl) ?_
  obtain ⟨w1, h2, e3, b4, hf⟩ := nO_ex hf
  refine r_nO X I e3 hA b4 ck_9 tyX9 tyX9_ok tw_35 tw_36 tw_2 (df_9 g) dX11_init_5 (fun H I => ?_)
  have hle := I.le hA b4
  refine lv_dup hx hb dX11_init_8 rfl ?_
  obtain ⟨⟨⟩, h5, e6, z7, b8, hf⟩ := cA_spec hf
  refine k_INAv (n := 0) (As := []) (rest := [.ref (rfG g w1), .ref (rfG g o0)]) X I (c_X9_init l g w1 e6) z7 hA b8 (by decide) rfl tw_38 tw_2 ⟨by decide, by decide⟩ (by decide +kernel) tw_39 ⟨Nat.le_trans (by decide) hR.1, Nat.le_trans (by decide) hR.2⟩ rfl hl.1 rfl (Nat.le_of_ble_eq_true rfl) dX11_init_9 (fun H locs I => ?_)
  have hle := I.le hA b8
  obtain ⟨h9, e10, hf⟩ := Option.bind_eq_some_iff.mp hf
  refine r_pFR X hin I e10 lf_TrapCorner_10 rfl dX11_init_12 (fun H locs I => ?_)
  refine lv_aload_n hx hb dX11_init_15 rfl (lv_at hl 0 rfl) ?_
  obtain ⟨w11, h12, e13, b14, hf⟩ := nO_ex hf
  refine r_nO X I e13 hA b14 ck_0 tyX0 tyX0_ok tw_53 tw_54 tw_4 (df_0 g) dX11_init_16 (fun H I => ?_)
  have hle := I.le hA b14
  refine lv_dup hx hb dX11_init_19 rfl ?_
  refine lv_aload_n hx hb dX11_init_20 rfl (lv_at hl 0 rfl) ?_
  obtain ⟨v15, e16, hf⟩ := Option.bind_eq_some_iff.mp hf
  refine r_gR X I e16 lk_TrapCorner_10 dX11_init_21 ?_
  obtain ⟨⟨⟩, h17, e18, z19, b20, hf⟩ := cA_spec hf
  refine k_IAv (n := 1) (As := [.ref (rfG g v15)]) (rest := [.ref (rfG g w11), .ref (rfG g o0)]) X I (c_X0_init l g w11 v15 e18) z19 hA b20 tw_55 rfl tw_56 tw_4 ⟨by decide, by decide⟩ (by decide +kernel) tw_57 ⟨Nat.le_trans (by decide) hR.1, Nat.le_trans (by decide) hR.2⟩ rfl hl.1 rfl (Nat.le_of_ble_eq_true rfl) dX11_init_24 (fun H locs I => ?_)
  have hle := I.le hA b20
  obtain ⟨h21, e22, hf⟩ := Option.bind_eq_some_iff.mp hf
  refine r_pFR X hin I e22 lf_TrapCorner_21 rfl dX11_init_27 (fun H locs I => ?_)
  refine lv_aload_n hx hb dX11_init_30 rfl (lv_at hl 0 rfl) ?_
  obtain ⟨w23, h24, e25, b26, hf⟩ := nO_ex hf
  refine r_nO X I e25 hA b26 ck_2 tyX2 tyX2_ok tw_160 tw_161 tw_6 (df_2 g) dX11_init_31 (fun H I => ?_)
  have hle := I.le hA b26
  refine lv_dup hx hb dX11_init_34 rfl ?_
  refine lv_aload_n hx hb dX11_init_35 rfl (lv_at hl 0 rfl) ?_
  obtain ⟨v27, e28, hf⟩ := Option.bind_eq_some_iff.mp hf
  refine r_gR X I e28 lk_TrapCorner_10 dX11_init_36 ?_
  obtain ⟨⟨⟩, h29, e30, z31, b32, hf⟩ := cA_spec hf
  refine k_IAv (n := 1) (As := [.ref (rfG g v27)]) (rest := [.ref (rfG g w23), .ref (rfG g o0)]) X I (c_X2_init l g w23 v27 e30) z31 hA b32 tw_162 rfl tw_163 tw_6 ⟨by decide, by decide⟩ (by decide +kernel) tw_164 ⟨Nat.le_trans (by decide) hR.1, Nat.le_trans (by decide) hR.2⟩ rfl hl.1 rfl (Nat.le_of_ble_eq_true rfl) dX11_init_39 (fun H locs I => ?_)
  have hle := I.le hA b32
  obtain ⟨h33, e34, hf⟩ := Option.bind_eq_some_iff.mp hf
  refine r_pFR X hin I e34 lf_TrapCorner_28 rfl dX11_init_42 (fun H locs I => ?_)
  refine lv_aload_n hx hb dX11_init_45 rfl (lv_at hl 0 rfl) ?_
  obtain ⟨w35, h36, e37, b38, hf⟩ := nO_ex hf
  refine r_nO X I e37 hA b38 ck_3 tyX3 tyX3_ok tw_176 tw_177 tw_7 (df_3 g) dX11_init_46 (fun H I => ?_)
  have hle := I.le hA b38
  refine lv_dup hx hb dX11_init_49 rfl ?_
  refine lv_aload_n hx hb dX11_init_50 rfl (lv_at hl 0 rfl) ?_
  obtain ⟨v39, e40, hf⟩ := Option.bind_eq_some_iff.mp hf
  refine r_gR X I e40 lk_TrapCorner_10 dX11_init_51 ?_
  obtain ⟨⟨⟩, h41, e42, z43, b44, hf⟩ := cA_spec hf
  refine k_IAv (n := 1) (As := [.ref (rfG g v39)]) (rest := [.ref (rfG g w35), .ref (rfG g o0)]) X I (c_X3_init l g w35 v39 e42) z43 hA b44 tw_178 rfl tw_179 tw_7 ⟨by decide, by decide⟩ (by decide +kernel) tw_180 ⟨Nat.le_trans (by decide) hR.1, Nat.le_trans (by decide) hR.2⟩ rfl hl.1 rfl (Nat.le_of_ble_eq_true rfl) dX11_init_54 (fun H locs I => ?_)
  have hle := I.le hA b44
  obtain ⟨h45, e46, hf⟩ := Option.bind_eq_some_iff.mp hf
  refine r_pFR X hin I e46 lf_TrapCorner_35 rfl dX11_init_57 (fun H locs I => ?_)
  refine lv_aload_n hx hb dX11_init_60 rfl (lv_at hl 0 rfl) ?_
  obtain ⟨w47, h48, e49, b50, hf⟩ := nO_ex hf
  refine r_nO X I e49 hA b50 ck_10 tyX10 tyX10_ok tw_192 tw_63 tw_5 (df_10 g) dX11_init_61 (fun H I => ?_)
  have hle := I.le hA b50
  refine lv_dup hx hb dX11_init_64 rfl ?_
  obtain ⟨⟨⟩, h51, e52, z53, b54, hf⟩ := cA_spec hf
  refine k_INAv (n := 0) (As := []) (rest := [.ref (rfG g w47), .ref (rfG g o0)]) X I (c_X10_init l g w47 e52) z53 hA b54 (by decide) rfl tw_65 tw_5 ⟨by decide, by decide⟩ (by decide +kernel) tw_66 ⟨Nat.le_trans (by decide) hR.1, Nat.le_trans (by decide) hR.2⟩ rfl hl.1 rfl (Nat.le_of_ble_eq_true rfl) dX11_init_65 (fun H locs I => ?_)
  have hle := I.le hA b54
  obtain ⟨h55, e56, hf⟩ := Option.bind_eq_some_iff.mp hf
  refine r_pFR X hin I e56 lf_TrapCorner_42 rfl dX11_init_68 (fun H locs I => ?_)
  refine lv_aload_n hx hb dX11_init_71 rfl (lv_at hl 0 rfl) ?_
  obtain ⟨w57, h58, e59, b60, hf⟩ := nO_ex hf
  refine r_nO X I e59 hA b60 ck_8 tyX8 tyX8_ok tw_194 tw_195 tw_8 (df_8 g) dX11_init_72 (fun H I => ?_)
  have hle := I.le hA b60
  refine lv_dup hx hb dX11_init_75 rfl ?_
  obtain ⟨⟨⟩, h61, e62, z63, b64, hf⟩ := cA_spec hf
  refine k_INAv (n := 0) (As := []) (rest := [.ref (rfG g w57), .ref (rfG g o0)]) X I (c_X8_init l g w57 e62) z63 hA b64 (by decide) rfl tw_197 tw_8 ⟨by decide, by decide⟩ (by decide +kernel) tw_198 ⟨Nat.le_trans (by decide) hR.1, Nat.le_trans (by decide) hR.2⟩ rfl hl.1 rfl (Nat.le_of_ble_eq_true rfl) dX11_init_76 (fun H locs I => ?_)
  have hle := I.le hA b64
  obtain ⟨h65, e66, hf⟩ := Option.bind_eq_some_iff.mp hf
  refine r_pFR X hin I e66 lf_TrapCorner_49 rfl dX11_init_79 (fun H locs I => ?_)
  refine lv_aload_n hx hb dX11_init_82 rfl (lv_at hl 0 rfl) ?_
  obtain ⟨w67, h68, e69, b70, hf⟩ := nO_ex hf
  refine r_nO X I e69 hA b70 ck_8 tyX8 tyX8_ok tw_194 tw_195 tw_8 (df_8 g) dX11_init_83 (fun H I => ?_)
  have hle := I.le hA b70
  refine lv_dup hx hb dX11_init_86 rfl ?_
  obtain ⟨⟨⟩, h71, e72, z73, b74, hf⟩ := cA_spec hf
  refine k_INAv (n := 0) (As := []) (rest := [.ref (rfG g w67), .ref (rfG g o0)]) X I (c_X8_init l g w67 e72) z73 hA b74 (by decide) rfl tw_197 tw_8 ⟨by decide, by decide⟩ (by decide +kernel) tw_198 ⟨Nat.le_trans (by decide) hR.1, Nat.le_trans (by decide) hR.2⟩ rfl hl.1 rfl (Nat.le_of_ble_eq_true rfl) dX11_init_87 (fun H locs I => ?_)
  have hle := I.le hA b74
  obtain ⟨h75, e76, hf⟩ := Option.bind_eq_some_iff.mp hf
  refine r_pFR X hin I e76 lf_TrapCorner_53 rfl dX11_init_90 (fun H locs I => ?_)
  refine lv_aload_n hx hb dX11_init_93 rfl (lv_at hl 0 rfl) ?_
  obtain ⟨w77, h78, e79, b80, hf⟩ := nO_ex hf
  refine r_nO X I e79 hA b80 ck_1 tyX1 tyX1_ok tw_241 tw_242 tw_9 (df_1 g) dX11_init_94 (fun H I => ?_)
  have hle := I.le hA b80
  refine lv_dup hx hb dX11_init_97 rfl ?_
  obtain ⟨⟨⟩, h81, e82, z83, b84, hf⟩ := cA_spec hf
  refine k_INAv (n := 0) (As := []) (rest := [.ref (rfG g w77), .ref (rfG g o0)]) X I (c_X1_init l g w77 e82) z83 hA b84 (by decide) rfl tw_244 tw_9 ⟨by decide, by decide⟩ (by decide +kernel) tw_245 ⟨Nat.le_trans (by decide) hR.1, Nat.le_trans (by decide) hR.2⟩ rfl hl.1 rfl (Nat.le_of_ble_eq_true rfl) dX11_init_98 (fun H locs I => ?_)
  have hle := I.le hA b84
  obtain ⟨h85, e86, hf⟩ := Option.bind_eq_some_iff.mp hf
  refine r_pFR X hin I e86 lf_TrapCorner_59 rfl dX11_init_101 (fun H locs I => ?_)
  refine lv_aload_n hx hb dX11_init_104 rfl (lv_at hl 0 rfl) ?_
  obtain ⟨w87, h88, e89, b90, hf⟩ := nO_ex hf
  refine r_nO X I e89 hA b90 ck_4 tyX4 tyX4_ok tw_274 tw_275 tw_10 (df_4 g) dX11_init_105 (fun H I => ?_)
  have hle := I.le hA b90
  refine lv_dup hx hb dX11_init_108 rfl ?_
  obtain ⟨⟨⟩, h91, e92, z93, b94, hf⟩ := cA_spec hf
  refine k_INAv (n := 0) (As := []) (rest := [.ref (rfG g w87), .ref (rfG g o0)]) X I (c_X4_init l g w87 e92) z93 hA b94 (by decide) rfl tw_277 tw_10 ⟨by decide, by decide⟩ (by decide +kernel) tw_278 ⟨Nat.le_trans (by decide) hR.1, Nat.le_trans (by decide) hR.2⟩ rfl hl.1 rfl (Nat.le_of_ble_eq_true rfl) dX11_init_109 (fun H locs I => ?_)
  have hle := I.le hA b94
  obtain ⟨h95, e96, hf⟩ := Option.bind_eq_some_iff.mp hf
  refine r_pFR X hin I e96 lf_TrapCorner_66 rfl dX11_init_112 (fun H locs I => ?_)
  refine lv_aload_n hx hb dX11_init_115 rfl (lv_at hl 0 rfl) ?_
  obtain ⟨w97, h98, e99, b100, hf⟩ := nO_ex hf
  refine r_nO X I e99 hA b100 ck_6 tyX6 tyX6_ok tw_294 tw_295 tw_11 (df_6 g) dX11_init_116 (fun H I => ?_)
  have hle := I.le hA b100
  refine lv_dup hx hb dX11_init_119 rfl ?_
  refine lv_aload_n hx hb dX11_init_120 rfl (lv_at hl 0 rfl) ?_
  obtain ⟨v101, e102, hf⟩ := Option.bind_eq_some_iff.mp hf
  refine r_gR X I e102 lk_TrapCorner_42 dX11_init_121 ?_
  refine lv_aload_n hx hb dX11_init_124 rfl (lv_at hl 0 rfl) ?_
  obtain ⟨v103, e104, hf⟩ := Option.bind_eq_some_iff.mp hf
  refine r_gR X I e104 lk_TrapCorner_66 dX11_init_125 ?_
  obtain ⟨⟨⟩, h105, e106, z107, b108, hf⟩ := cA_spec hf
  refine k_IAv (n := 2) (As := [.ref (rfG g v101), .ref (rfG g v103)]) (rest := [.ref (rfG g w97), .ref (rfG g o0)]) X I (c_X6_init l g w97 v101 v103 e106) z107 hA b108 tw_296 rfl tw_297 tw_11 ⟨by decide, by decide⟩ (by decide +kernel) tw_298 ⟨Nat.le_trans (by decide) hR.1, Nat.le_trans (by decide) hR.2⟩ rfl hl.1 rfl (Nat.le_of_ble_eq_true rfl) dX11_init_128 (fun H locs I => ?_)
  have hle := I.le hA b108
  obtain ⟨h109, e110, hf⟩ := Option.bind_eq_some_iff.mp hf
  refine r_pFR X hin I e110 lf_TrapCorner_75 rfl dX11_init_131 (fun H locs I => ?_)
  refine lv_aload_n hx hb dX11_init_134 rfl (lv_at hl 0 rfl) ?_
  obtain ⟨w111, h112, e113, b114, hf⟩ := nO_ex hf
  refine r_nO X I e113 hA b114 ck_7 tyX7 tyX7_ok tw_325 tw_326 tw_12 (df_7 g) dX11_init_135 (fun H I => ?_)
  have hle := I.le hA b114
  refine lv_dup hx hb dX11_init_138 rfl ?_
  refine lv_aload_n hx hb dX11_init_139 rfl (lv_at hl 0 rfl) ?_
  obtain ⟨v115, e116, hf⟩ := Option.bind_eq_some_iff.mp hf
  refine r_gR X I e116 lk_TrapCorner_42 dX11_init_140 ?_
  refine lv_aload_n hx hb dX11_init_143 rfl (lv_at hl 0 rfl) ?_
  obtain ⟨v117, e118, hf⟩ := Option.bind_eq_some_iff.mp hf
  refine r_gR X I e118 lk_TrapCorner_66 dX11_init_144 ?_
  obtain ⟨⟨⟩, h119, e120, z121, b122, hf⟩ := cA_spec hf
  refine k_IAv (n := 2) (As := [.ref (rfG g v115), .ref (rfG g v117)]) (rest := [.ref (rfG g w111), .ref (rfG g o0)]) X I (c_X7_init l g w111 v115 v117 e120) z121 hA b122 tw_327 rfl tw_328 tw_12 ⟨by decide, by decide⟩ (by decide +kernel) tw_329 ⟨Nat.le_trans (by decide) hR.1, Nat.le_trans (by decide) hR.2⟩ rfl hl.1 rfl (Nat.le_of_ble_eq_true rfl) dX11_init_147 (fun H locs I => ?_)
  have hle := I.le hA b122
  obtain ⟨h123, e124, hf⟩ := Option.bind_eq_some_iff.mp hf
  refine r_pFR X hin I e124 lf_TrapCorner_82 rfl dX11_init_150 (fun H locs I => ?_)
  refine lv_aload_n hx hb dX11_init_153 rfl (lv_at hl 0 rfl) ?_
  refine lv_iconst (v := 4) hx hb dX11_init_154 (by decide) ?_
  refine lv_iconst (v := 0) hx hb dX11_init_155 (by decide) ?_
  obtain ⟨w125, h126, e127, b128, hf⟩ := nM_ex hf
  refine r_nM X I e127 hA b128 tw_363 dX11_init_156 (fun H I => ?_)
  have hle := I.le hA b128
  obtain ⟨h129, e130, hf⟩ := Option.bind_eq_some_iff.mp hf
  refine r_pFR X hin I e130 lf_TrapCorner_88 rfl dX11_init_160 (fun H locs I => ?_)
  refine lv_aload_n hx hb dX11_init_163 rfl (lv_at hl 0 rfl) ?_
  refine lv_iconst (v := 4) hx hb dX11_init_164 (by decide) ?_
  refine lv_iconst (v := 0) hx hb dX11_init_165 (by decide) ?_
  obtain ⟨w131, h132, e133, b134, hf⟩ := nM_ex hf
  refine r_nM X I e133 hA b134 tw_363 dX11_init_166 (fun H I => ?_)
  have hle := I.le hA b134
  obtain ⟨h135, e136, hf⟩ := Option.bind_eq_some_iff.mp hf
  refine r_pFR X hin I e136 lf_TrapCorner_91 rfl dX11_init_170 (fun H locs I => ?_)
  refine lv_aload_n hx hb dX11_init_173 rfl (lv_at hl 0 rfl) ?_
  refine lv_bipush (v := 16) hx hb dX11_init_174 (by decide) ?_
  obtain ⟨w137, h138, e139, b140, hf⟩ := nA_ex hf
  refine r_nA0 X I e139 hA b140 tw_52 dX11_init_176 (fun H I => ?_)
  have hle := I.le hA b140
  obtain ⟨h141, e142, hf⟩ := Option.bind_eq_some_iff.mp hf
  refine r_pFR X hin I e142 lf_TrapCorner_94 rfl dX11_init_178 (fun H locs I => ?_)
  refine lv_aload_n hx hb dX11_init_181 rfl (lv_at hl 0 rfl) ?_
  refine lv_iconst (v := (-1)) hx hb dX11_init_182 (by decide) ?_
  obtain ⟨h143, e144, hf⟩ := Option.bind_eq_some_iff.mp hf
  refine r_pI X I e144 lp_TrapCorner_98 dX11_init_183 (fun H locs I => ?_)
  refine lv_aload_n hx hb dX11_init_186 rfl (lv_at hl 0 rfl) ?_
  refine lv_iconst (v := 2) hx hb dX11_init_187 (by decide) ?_
  obtain ⟨h145, e146, hf⟩ := Option.bind_eq_some_iff.mp hf
  refine r_pI X I e146 lp_TrapCorner_102 dX11_init_188 (fun H locs I => ?_)
  cases hf
  exact k_fin (I.fin hA) (k_rv X I hr dX11_init_191)
def f_X11_init (o0 : Nat) (h : AH) : Option (Unit × AH) := f_X11_init_0 o0 h
end
theorem c_X11_init (l : Launch) (g : GG) (o0 : Nat) {h : AH} {res : Unit × AH} (hf : f_X11_init o0 h = some res) : CM l g yX11_init cX11_init 1 none 3 192 (res.2.1 - h.1) (res.2.2.1 - h.2.1) [.ref (rfG g o0)] h none res.2 := by
  have hbd := (ck_spec (show ck h _ = some res from hf)).1
  exact k_bodyC (by decide) (Nat.le_of_ble_eq_true rfl) (fun p e s m below meth c R ls hR hr hnm X I hl => by
    obtain ⟨r1, r2, r3, r4⟩ := hR
    rw [← r3, ← r4]
    exact w_X11_init_0 X ⟨Nat.le_of_eq r1.symm, Nat.le_of_eq r2.symm⟩ hr ⟨by omega, by omega⟩ hnm o0 h ls s.heap [] 0 0 hf I (lv_sub hl [0] rfl))
/-! TrapCornerModel.<init>()V -/
theorem dX12_init_0 : decode cX12_init 0 = .ok (.aload_n 0, 1) := by decide +kernel
theorem dX12_init_1 : decode cX12_init 1 = .ok (.invokespecial 3, 3) := by decide +kernel
theorem dX12_init_4 : decode cX12_init 4 = .ok (.aload_n 0, 1) := by decide +kernel
theorem dX12_init_5 : decode cX12_init 5 = .ok (.sipush 240, 3) := by decide +kernel
theorem dX12_init_8 : decode cX12_init 8 = .ok (.newarray .byte, 2) := by decide +kernel
theorem dX12_init_10 : decode cX12_init 10 = .ok (.putfield 9, 3) := by decide +kernel
theorem dX12_init_13 : decode cX12_init 13 = .ok (.aload_n 0, 1) := by decide +kernel
theorem dX12_init_14 : decode cX12_init 14 = .ok (.sipush 960, 3) := by decide +kernel
theorem dX12_init_17 : decode cX12_init 17 = .ok (.newarray .byte, 2) := by decide +kernel
theorem dX12_init_19 : decode cX12_init 19 = .ok (.putfield 13, 3) := by decide +kernel
theorem dX12_init_22 : decode cX12_init 22 = .ok (.aload_n 0, 1) := by decide +kernel
theorem dX12_init_23 : decode cX12_init 23 = .ok (.iconst 4, 1) := by decide +kernel
theorem dX12_init_24 : decode cX12_init 24 = .ok (.newarray .int, 2) := by decide +kernel
theorem dX12_init_26 : decode cX12_init 26 = .ok (.putfield 16, 3) := by decide +kernel
theorem dX12_init_29 : decode cX12_init 29 = .ok (.aload_n 0, 1) := by decide +kernel
theorem dX12_init_30 : decode cX12_init 30 = .ok (.sipush 128, 3) := by decide +kernel
theorem dX12_init_33 : decode cX12_init 33 = .ok (.newarray .int, 2) := by decide +kernel
theorem dX12_init_35 : decode cX12_init 35 = .ok (.putfield 20, 3) := by decide +kernel
theorem dX12_init_38 : decode cX12_init 38 = .ok (.aload_n 0, 1) := by decide +kernel
theorem dX12_init_39 : decode cX12_init 39 = .ok (.aload_n 0, 1) := by decide +kernel
theorem dX12_init_40 : decode cX12_init 40 = .ok (.getfield 9, 3) := by decide +kernel
theorem dX12_init_43 : decode cX12_init 43 = .ok (.putfield 23, 3) := by decide +kernel
theorem dX12_init_46 : decode cX12_init 46 = .ok (.aload_n 0, 1) := by decide +kernel
theorem dX12_init_47 : decode cX12_init 47 = .ok (.ldc 26, 2) := by decide +kernel
theorem dX12_init_49 : decode cX12_init 49 = .ok (.putfield 28, 3) := by decide +kernel
theorem dX12_init_52 : decode cX12_init 52 = .ok (.aload_n 0, 1) := by decide +kernel
theorem dX12_init_53 : decode cX12_init 53 = .ok (.ldc 32, 2) := by decide +kernel
theorem dX12_init_55 : decode cX12_init 55 = .ok (.putfield 34, 3) := by decide +kernel
theorem dX12_init_58 : decode cX12_init 58 = .ok (.aload_n 0, 1) := by decide +kernel
theorem dX12_init_59 : decode cX12_init 59 = .ok (.iconst 3, 1) := by decide +kernel
theorem dX12_init_60 : decode cX12_init 60 = .ok (.newarray .int, 2) := by decide +kernel
theorem dX12_init_62 : decode cX12_init 62 = .ok (.putfield 37, 3) := by decide +kernel
theorem dX12_init_65 : decode cX12_init 65 = .ok (.aload_n 0, 1) := by decide +kernel
theorem dX12_init_66 : decode cX12_init 66 = .ok (.iconst 3, 1) := by decide +kernel
theorem dX12_init_67 : decode cX12_init 67 = .ok (.newarray .int, 2) := by decide +kernel
theorem dX12_init_69 : decode cX12_init 69 = .ok (.putfield 40, 3) := by decide +kernel
theorem dX12_init_72 : decode cX12_init 72 = .ok (.aload_n 0, 1) := by decide +kernel
theorem dX12_init_73 : decode cX12_init 73 = .ok (.bipush 10, 2) := by decide +kernel
theorem dX12_init_75 : decode cX12_init 75 = .ok (.newarray .int, 2) := by decide +kernel
theorem dX12_init_77 : decode cX12_init 77 = .ok (.putfield 43, 3) := by decide +kernel
theorem dX12_init_80 : decode cX12_init 80 = .ok (.aload_n 0, 1) := by decide +kernel
theorem dX12_init_81 : decode cX12_init 81 = .ok (.bipush 10, 2) := by decide +kernel
theorem dX12_init_83 : decode cX12_init 83 = .ok (.newarray .int, 2) := by decide +kernel
theorem dX12_init_85 : decode cX12_init 85 = .ok (.putfield 46, 3) := by decide +kernel
theorem dX12_init_88 : decode cX12_init 88 = .ok (.aload_n 0, 1) := by decide +kernel
theorem dX12_init_89 : decode cX12_init 89 = .ok (.bipush 36, 2) := by decide +kernel
theorem dX12_init_91 : decode cX12_init 91 = .ok (.newarray .int, 2) := by decide +kernel
theorem dX12_init_93 : decode cX12_init 93 = .ok (.putfield 49, 3) := by decide +kernel
theorem dX12_init_96 : decode cX12_init 96 = .ok (.aload_n 0, 1) := by decide +kernel
theorem dX12_init_97 : decode cX12_init 97 = .ok (.bipush 36, 2) := by decide +kernel
theorem dX12_init_99 : decode cX12_init 99 = .ok (.newarray .int, 2) := by decide +kernel
theorem dX12_init_101 : decode cX12_init 101 = .ok (.putfield 52, 3) := by decide +kernel
theorem dX12_init_104 : decode cX12_init 104 = .ok (.aload_n 0, 1) := by decide +kernel
theorem dX12_init_105 : decode cX12_init 105 = .ok (.sipush 240, 3) := by decide +kernel
theorem dX12_init_108 : decode cX12_init 108 = .ok (.newarray .int, 2) := by decide +kernel
theorem dX12_init_110 : decode cX12_init 110 = .ok (.putfield 55, 3) := by decide +kernel
theorem dX12_init_113 : decode cX12_init 113 = .ok (.aload_n 0, 1) := by decide +kernel
theorem dX12_init_114 : decode cX12_init 114 = .ok (.iconst 5, 1) := by decide +kernel
theorem dX12_init_115 : decode cX12_init 115 = .ok (.newarray .int, 2) := by decide +kernel
theorem dX12_init_117 : decode cX12_init 117 = .ok (.putfield 58, 3) := by decide +kernel
theorem dX12_init_120 : decode cX12_init 120 = .ok (.aload_n 0, 1) := by decide +kernel
theorem dX12_init_121 : decode cX12_init 121 = .ok (.sipush 212, 3) := by decide +kernel
theorem dX12_init_124 : decode cX12_init 124 = .ok (.newarray .int, 2) := by decide +kernel
theorem dX12_init_126 : decode cX12_init 126 = .ok (.putfield 61, 3) := by decide +kernel
theorem dX12_init_129 : decode cX12_init 129 = .ok (.aload_n 0, 1) := by decide +kernel
theorem dX12_init_130 : decode cX12_init 130 = .ok (.sipush 212, 3) := by decide +kernel
theorem dX12_init_133 : decode cX12_init 133 = .ok (.newarray .int, 2) := by decide +kernel
theorem dX12_init_135 : decode cX12_init 135 = .ok (.putfield 64, 3) := by decide +kernel
theorem dX12_init_138 : decode cX12_init 138 = .ok (.aload_n 0, 1) := by decide +kernel
theorem dX12_init_139 : decode cX12_init 139 = .ok (.iconst (-1), 1) := by decide +kernel
theorem dX12_init_140 : decode cX12_init 140 = .ok (.putfield 67, 3) := by decide +kernel
theorem dX12_init_143 : decode cX12_init 143 = .ok (.aload_n 0, 1) := by decide +kernel
theorem dX12_init_144 : decode cX12_init 144 = .ok (.iconst 2, 1) := by decide +kernel
theorem dX12_init_145 : decode cX12_init 145 = .ok (.putfield 71, 3) := by decide +kernel
theorem dX12_init_148 : decode cX12_init 148 = .ok (.aload_n 0, 1) := by decide +kernel
theorem dX12_init_149 : decode cX12_init 149 = .ok (.sipush 8191, 3) := by decide +kernel
theorem dX12_init_152 : decode cX12_init 152 = .ok (.newarray .long, 2) := by decide +kernel
theorem dX12_init_154 : decode cX12_init 154 = .ok (.putfield 74, 3) := by decide +kernel
theorem dX12_init_157 : decode cX12_init 157 = .ok (.aload_n 0, 1) := by decide +kernel
theorem dX12_init_158 : decode cX12_init 158 = .ok (.sipush 8191, 3) := by decide +kernel
theorem dX12_init_161 : decode cX12_init 161 = .ok (.newarray .int, 2) := by decide +kernel
theorem dX12_init_163 : decode cX12_init 163 = .ok (.putfield 78, 3) := by decide +kernel
theorem dX12_init_166 : decode cX12_init 166 = .ok (.aload_n 0, 1) := by decide +kernel
theorem dX12_init_167 : decode cX12_init 167 = .ok (.bipush 6, 2) := by decide +kernel
theorem dX12_init_169 : decode cX12_init 169 = .ok (.newarray .int, 2) := by decide +kernel
theorem dX12_init_171 : decode cX12_init 171 = .ok (.putfield 81, 3) := by decide +kernel
theorem dX12_init_174 : decode cX12_init 174 = .ok (.aload_n 0, 1) := by decide +kernel
theorem dX12_init_175 : decode cX12_init 175 = .ok (.sipush 8480, 3) := by decide +kernel
theorem dX12_init_178 : decode cX12_init 178 = .ok (.newarray .int, 2) := by decide +kernel
theorem dX12_init_180 : decode cX12_init 180 = .ok (.putfield 84, 3) := by decide +kernel
theorem dX12_init_183 : decode cX12_init 183 = .ok (.aload_n 0, 1) := by decide +kernel
theorem dX12_init_184 : decode cX12_init 184 = .ok (.bipush 40, 2) := by decide +kernel
theorem dX12_init_186 : decode cX12_init 186 = .ok (.newarray .int, 2) := by decide +kernel
theorem dX12_init_188 : decode cX12_init 188 = .ok (.putfield 87, 3) := by decide +kernel
theorem dX12_init_191 : decode cX12_init 191 = .ok (.aload_n 0, 1) := by decide +kernel
theorem dX12_init_192 : decode cX12_init 192 = .ok (.bipush 16, 2) := by decide +kernel
theorem dX12_init_194 : decode cX12_init 194 = .ok (.newarray .int, 2) := by decide +kernel
theorem dX12_init_196 : decode cX12_init 196 = .ok (.putfield 90, 3) := by decide +kernel
theorem dX12_init_199 : decode cX12_init 199 = .ok (.aload_n 0, 1) := by decide +kernel
theorem dX12_init_200 : decode cX12_init 200 = .ok (.sipush 212, 3) := by decide +kernel
theorem dX12_init_203 : decode cX12_init 203 = .ok (.newarray .int, 2) := by decide +kernel
theorem dX12_init_205 : decode cX12_init 205 = .ok (.putfield 93, 3) := by decide +kernel
theorem dX12_init_208 : decode cX12_init 208 = .ok (.return_, 1) := by decide +kernel
theorem lf_TrapCornerModel_9 : LKF "TrapCornerModel" 9 [12] 1 (.array .byte) := by
  intro ci hci
  have hci := List.mem_singleton.mp hci
  subst hci
  exact ⟨RX12, TX12, 50, "TrapCornerModel", ck_12, by decide, tw_1288, Or.inl rfl, rfl, rfl, by decide +kernel⟩
theorem lf_TrapCornerModel_13 : LKF "TrapCornerModel" 13 [12] 2 (.array .byte) := by
  intro ci hci
  have hci := List.mem_singleton.mp hci
  subst hci
  exact ⟨RX12, TX12, 50, "TrapCornerModel", ck_12, by decide, tw_1289, Or.inl rfl, rfl, rfl, by decide +kernel⟩
theorem lf_TrapCornerModel_16 : LKF "TrapCornerModel" 16 [12] 3 (.array .int) := by
  intro ci hci
  have hci := List.mem_singleton.mp hci
  subst hci
  exact ⟨RX12, TX12, 50, "TrapCornerModel", ck_12, by decide, tw_1290, Or.inl rfl, rfl, rfl, by decide +kernel⟩
theorem lf_TrapCornerModel_20 : LKF "TrapCornerModel" 20 [12] 4 (.array .int) := by
  intro ci hci
  have hci := List.mem_singleton.mp hci
  subst hci
  exact ⟨RX12, TX12, 50, "TrapCornerModel", ck_12, by decide, tw_1291, Or.inl rfl, rfl, rfl, by decide +kernel⟩
theorem lf_TrapCornerModel_28 : LKF "TrapCornerModel" 28 [12] 15 (.object "java/lang/String") := by
  intro ci hci
  have hci := List.mem_singleton.mp hci
  subst hci
  exact ⟨RX12, TX12, 50, "TrapCornerModel", ck_12, by decide, tw_1302, Or.inl rfl, rfl, rfl, by decide +kernel⟩
theorem lf_TrapCornerModel_34 : LKF "TrapCornerModel" 34 [12] 16 (.object "java/lang/String") := by
  intro ci hci
  have hci := List.mem_singleton.mp hci
  subst hci
  exact ⟨RX12, TX12, 50, "TrapCornerModel", ck_12, by decide, tw_1303, Or.inl rfl, rfl, rfl, by decide +kernel⟩
theorem lf_TrapCornerModel_37 : LKF "TrapCornerModel" 37 [12] 18 (.array .int) := by
  intro ci hci
  have hci := List.mem_singleton.mp hci
  subst hci
  exact ⟨RX12, TX12, 50, "TrapCornerModel", ck_12, by decide, tw_1305, Or.inl rfl, rfl, rfl, by decide +kernel⟩
theorem lf_TrapCornerModel_40 : LKF "TrapCornerModel" 40 [12] 19 (.array .int) := by
  intro ci hci
  have hci := List.mem_singleton.mp hci
  subst hci
  exact ⟨RX12, TX12, 50, "TrapCornerModel", ck_12, by decide, tw_1306, Or.inl rfl, rfl, rfl, by decide +kernel⟩
theorem lf_TrapCornerModel_43 : LKF "TrapCornerModel" 43 [12] 20 (.array .int) := by
  intro ci hci
  have hci := List.mem_singleton.mp hci
  subst hci
  exact ⟨RX12, TX12, 50, "TrapCornerModel", ck_12, by decide, tw_1307, Or.inl rfl, rfl, rfl, by decide +kernel⟩
theorem lf_TrapCornerModel_46 : LKF "TrapCornerModel" 46 [12] 21 (.array .int) := by
  intro ci hci
  have hci := List.mem_singleton.mp hci
  subst hci
  exact ⟨RX12, TX12, 50, "TrapCornerModel", ck_12, by decide, tw_1308, Or.inl rfl, rfl, rfl, by decide +kernel⟩
theorem lf_TrapCornerModel_49 : LKF "TrapCornerModel" 49 [12] 22 (.array .int) := by
  intro ci hci
  have hci := List.mem_singleton.mp hci
  subst hci
  exact ⟨RX12, TX12, 50, "TrapCornerModel", ck_12, by decide, tw_1309, Or.inl rfl, rfl, rfl, by decide +kernel⟩
theorem lf_TrapCornerModel_52 : LKF "TrapCornerModel" 52 [12] 23 (.array .int) := by
  intro ci hci
  have hci := List.mem_singleton.mp hci
  subst hci
  exact ⟨RX12, TX12, 50, "TrapCornerModel", ck_12, by decide, tw_1310, Or.inl rfl, rfl, rfl, by decide +kernel⟩
theorem lf_TrapCornerModel_55 : LKF "TrapCornerModel" 55 [12] 24 (.array .int) := by
  intro ci hci
  have hci := List.mem_singleton.mp hci
  subst hci
  exact ⟨RX12, TX12, 50, "TrapCornerModel", ck_12, by decide, tw_1311, Or.inl rfl, rfl, rfl, by decide +kernel⟩
theorem lf_TrapCornerModel_58 : LKF "TrapCornerModel" 58 [12] 25 (.array .int) := by
  intro ci hci
  have hci := List.mem_singleton.mp hci
  subst hci
  exact ⟨RX12, TX12, 50, "TrapCornerModel", ck_12, by decide, tw_1312, Or.inl rfl, rfl, rfl, by decide +kernel⟩
theorem lf_TrapCornerModel_61 : LKF "TrapCornerModel" 61 [12] 32 (.array .int) := by
  intro ci hci
  have hci := List.mem_singleton.mp hci
  subst hci
  exact ⟨RX12, TX12, 50, "TrapCornerModel", ck_12, by decide, tw_1319, Or.inl rfl, rfl, rfl, by decide +kernel⟩
theorem lf_TrapCornerModel_64 : LKF "TrapCornerModel" 64 [12] 33 (.array .int) := by
  intro ci hci
  have hci := List.mem_singleton.mp hci
  subst hci
  exact ⟨RX12, TX12, 50, "TrapCornerModel", ck_12, by decide, tw_1320, Or.inl rfl, rfl, rfl, by decide +kernel⟩
theorem lf_TrapCornerModel_74 : LKF "TrapCornerModel" 74 [12] 36 (.array .long) := by
  intro ci hci
  have hci := List.mem_singleton.mp hci
  subst hci
  exact ⟨RX12, TX12, 50, "TrapCornerModel", ck_12, by decide, tw_1323, Or.inl rfl, rfl, rfl, by decide +kernel⟩
theorem lf_TrapCornerModel_78 : LKF "TrapCornerModel" 78 [12] 37 (.array .int) := by
  intro ci hci
  have hci := List.mem_singleton.mp hci
  subst hci
  exact ⟨RX12, TX12, 50, "TrapCornerModel", ck_12, by decide, tw_1324, Or.inl rfl, rfl, rfl, by decide +kernel⟩
theorem lf_TrapCornerModel_81 : LKF "TrapCornerModel" 81 [12] 38 (.array .int) := by
  intro ci hci
  have hci := List.mem_singleton.mp hci
  subst hci
  exact ⟨RX12, TX12, 50, "TrapCornerModel", ck_12, by decide, tw_1325, Or.inl rfl, rfl, rfl, by decide +kernel⟩
theorem lf_TrapCornerModel_84 : LKF "TrapCornerModel" 84 [12] 42 (.array .int) := by
  intro ci hci
  have hci := List.mem_singleton.mp hci
  subst hci
  exact ⟨RX12, TX12, 50, "TrapCornerModel", ck_12, by decide, tw_1329, Or.inl rfl, rfl, rfl, by decide +kernel⟩
theorem lf_TrapCornerModel_87 : LKF "TrapCornerModel" 87 [12] 45 (.array .int) := by
  intro ci hci
  have hci := List.mem_singleton.mp hci
  subst hci
  exact ⟨RX12, TX12, 50, "TrapCornerModel", ck_12, by decide, tw_1332, Or.inl rfl, rfl, rfl, by decide +kernel⟩
theorem lf_TrapCornerModel_90 : LKF "TrapCornerModel" 90 [12] 47 (.array .int) := by
  intro ci hci
  have hci := List.mem_singleton.mp hci
  subst hci
  exact ⟨RX12, TX12, 50, "TrapCornerModel", ck_12, by decide, tw_1334, Or.inl rfl, rfl, rfl, by decide +kernel⟩
theorem lf_TrapCornerModel_93 : LKF "TrapCornerModel" 93 [12] 48 (.array .int) := by
  intro ci hci
  have hci := List.mem_singleton.mp hci
  subst hci
  exact ⟨RX12, TX12, 50, "TrapCornerModel", ck_12, by decide, tw_1335, Or.inl rfl, rfl, rfl, by decide +kernel⟩
section
variable {g : GG} {p : Program} {l : Launch} {e : Env} {R : Room} {s : State} {m : MethodId} {args : Array Value} {below : List Frame} {meth : Method} {c : Code} {n0 z0 : Nat}
def f_X12_init_0  (o0 : Nat) (h : AH) : Option (Unit × AH) :=
  ck h (
  nA 1 240 h fun w1 h2 =>
  (pV [12] h2 o0 1 (.ref w1)).bind fun h5 =>
  nA 1 960 h5 fun w7 h8 =>
  (pV [12] h8 o0 2 (.ref w7)).bind fun h11 =>
  nA 0 4 h11 fun w13 h14 =>
  (pV [12] h14 o0 3 (.ref w13)).bind fun h17 =>
  nA 0 128 h17 fun w19 h20 =>
  (pV [12] h20 o0 4 (.ref w19)).bind fun h23 =>
  (gR [12] h23 o0 1).bind fun v25 =>
  (pV [12] h23 o0 5 (.ref v25)).bind fun h27 =>
  (pV [12] h27 o0 15 (.ref 2000005)).bind fun h29 =>
  (pV [12] h29 o0 16 (.ref 2000003)).bind fun h31 =>
  nA 0 3 h31 fun w33 h34 =>
  (pV [12] h34 o0 18 (.ref w33)).bind fun h37 =>
  nA 0 3 h37 fun w39 h40 =>
  (pV [12] h40 o0 19 (.ref w39)).bind fun h43 =>
  nA 0 10 h43 fun w45 h46 =>
  (pV [12] h46 o0 20 (.ref w45)).bind fun h49 =>
  nA 0 10 h49 fun w51 h52 =>
  (pV [12] h52 o0 21 (.ref w51)).bind fun h55 =>
  nA 0 36 h55 fun w57 h58 =>
  (pV [12] h58 o0 22 (.ref w57)).bind fun h61 =>
  nA 0 36 h61 fun w63 h64 =>
  (pV [12] h64 o0 23 (.ref w63)).bind fun h67 =>
  nA 0 240 h67 fun w69 h70 =>
  (pV [12] h70 o0 24 (.ref w69)).bind fun h73 =>
  nA 0 5 h73 fun w75 h76 =>
  (pV [12] h76 o0 25 (.ref w75)).bind fun h79 =>
  nA 0 212 h79 fun w81 h82 =>
  (pV [12] h82 o0 32 (.ref w81)).bind fun h85 =>
  nA 0 212 h85 fun w87 h88 =>
  (pV [12] h88 o0 33 (.ref w87)).bind fun h91 =>
  (pV [12] h91 o0 34 (.int ((-1)))).bind fun h93 =>
  (pV [12] h93 o0 35 (.int 2)).bind fun h95 =>
  nA 2 8191 h95 fun w97 h98 =>
  (pV [12] h98 o0 36 (.ref w97)).bind fun h101 =>
  nA 0 8191 h101 fun w103 h104 =>
  (pV [12] h104 o0 37 (.ref w103)).bind fun h107 =>
  nA 0 6 h107 fun w109 h110 =>
  (pV [12] h110 o0 38 (.ref w109)).bind fun h113 =>
  nA 0 8480 h113 fun w115 h116 =>
  (pV [12] h116 o0 42 (.ref w115)).bind fun h119 =>
  nA 0 40 h119 fun w121 h122 =>
  (pV [12] h122 o0 45 (.ref w121)).bind fun h125 =>
  nA 0 16 h125 fun w127 h128 =>
  (pV [12] h128 o0 47 (.ref w127)).bind fun h131 =>
  nA 0 212 h131 fun w133 h134 =>
  (pV [12] h134 o0 48 (.ref w133)).bind fun h137 =>
  some ((), h137))
set_option maxHeartbeats 1000000 in
theorem w_X12_init_0 (X : Cx g p s m args meth c cX12_init 1 "TrapCornerModel") (hR : 1 ≤ R.frames ∧ 64 ≤ R.locals) (hr : meth.sig.returnType = none) {res : Unit × AH} (hA : R.cells + n0 = res.2.1 ∧ R.slots + z0 = res.2.2.1) (hin : meth.name = "<init>") : ∀ (o0 : Nat) (h : AH) (ls : Array Slot) (H : Heap) (locs : List Loc) (cells slots : Nat), f_X12_init_0 o0 h = some res → Iv g s n0 z0 h H locs cells slots → lv_has ls 1 [(0, .ref (rfG g o0))] → W p l e R s m args below meth c H locs cells slots (MQ below (QG g none res.2) args s R.cells R.slots (AG g)) (F0 m 0 ls []) := by
  have hx := X.1
  have hb := X.2.1
  intro o0 h ls H locs cells slots hf I hl
  unfold f_X12_init_0 at hf
  obtain ⟨hbd, hf⟩ := ck_spec hf
  have hle := I.le hA hbd
  refine lv_aload_n hx hb dX12_init_0 rfl (lv_at hl 0 rfl) ?_
  refine r_obj X tw_1284 tw_33 tw_34 ⟨Nat.le_trans (by decide) hR.1, Nat.le_trans (by decide) hR.2⟩ hl.1 dX12_init_1 ?_
  refine lv_aload_n hx hb dX12_init_4 rfl (lv_at hl 0 rfl) ?_
  refine lv_sipush (v := 240) hx hb dX12_init_5 (by decide) ?_
  obtain ⟨w1, h2, e3, b4, hf⟩ := nA_ex hf
  refine r_nA1 X I e3 hA b4 tw_726 dX12_init_8 (fun H I => ?_)
  have hle := I.le hA b4
  obtain ⟨h5, e6, hf⟩ := Option.bind_eq_some_iff.mp hf
  refine r_pFR X hin I e6 lf_TrapCornerModel_9 rfl dX12_init_10 (fun H locs I => ?_)
  refine lv_aload_n hx hb dX12_init_13 rfl (lv_at hl 0 rfl) ?_
  refine lv_sipush (v := 960) hx hb dX12_init_14 (by decide) ?_
  obtain ⟨w7, h8, e9, b10, hf⟩ := nA_ex hf
  refine r_nA1 X I e9 hA b10 tw_726 dX12_init_17 (fun H I => ?_)
  have hle := I.le hA b10
  obtain ⟨h11, e12, hf⟩ := Option.bind_eq_some_iff.mp hf
  refine r_pFR X hin I e12 lf_TrapCornerModel_13 rfl dX12_init_19 (fun H locs I => ?_)
  refine lv_aload_n hx hb dX12_init_22 rfl (lv_at hl 0 rfl) ?_
  refine lv_iconst (v := 4) hx hb dX12_init_23 (by decide) ?_
  obtain ⟨w13, h14, e15, b16, hf⟩ := nA_ex hf
  refine r_nA0 X I e15 hA b16 tw_52 dX12_init_24 (fun H I => ?_)
  have hle := I.le hA b16
  obtain ⟨h17, e18, hf⟩ := Option.bind_eq_some_iff.mp hf
  refine r_pFR X hin I e18 lf_TrapCornerModel_16 rfl dX12_init_26 (fun H locs I => ?_)
  refine lv_aload_n hx hb dX12_init_29 rfl (lv_at hl 0 rfl) ?_
  refine lv_sipush (v := 128) hx hb dX12_init_30 (by decide) ?_
  obtain ⟨w19, h20, e21, b22, hf⟩ := nA_ex hf
  refine r_nA0 X I e21 hA b22 tw_52 dX12_init_33 (fun H I => ?_)
  have hle := I.le hA b22
  obtain ⟨h23, e24, hf⟩ := Option.bind_eq_some_iff.mp hf
  refine r_pFR X hin I e24 lf_TrapCornerModel_20 rfl dX12_init_35 (fun H locs I => ?_)
  refine lv_aload_n hx hb dX12_init_38 rfl (lv_at hl 0 rfl) ?_
  refine lv_aload_n hx hb dX12_init_39 rfl (lv_at hl 0 rfl) ?_
  obtain ⟨v25, e26, hf⟩ := Option.bind_eq_some_iff.mp hf
  refine r_gR X I e26 lk_TrapCornerModel_9 dX12_init_40 ?_
  obtain ⟨h27, e28, hf⟩ := Option.bind_eq_some_iff.mp hf
  refine r_pR X I e28 lp_TrapCornerModel_23 rfl dX12_init_43 (fun H locs I => ?_)
  refine lv_aload_n hx hb dX12_init_46 rfl (lv_at hl 0 rfl) ?_
  refine r_ldcS (tx := "y") (i := 5) X (by decide) dX12_init_47 ?_
  obtain ⟨h29, e30, hf⟩ := Option.bind_eq_some_iff.mp hf
  refine r_pFR X hin I e30 lf_TrapCornerModel_28 rfl dX12_init_49 (fun H locs I => ?_)
  refine lv_aload_n hx hb dX12_init_52 rfl (lv_at hl 0 rfl) ?_
  refine r_ldcS (tx := "mgwsnd") (i := 3) X (by decide) dX12_init_53 ?_
  obtain ⟨h31, e32, hf⟩ := Option.bind_eq_some_iff.mp hf
  refine r_pFR X hin I e32 lf_TrapCornerModel_34 rfl dX12_init_55 (fun H locs I => ?_)
  refine lv_aload_n hx hb dX12_init_58 rfl (lv_at hl 0 rfl) ?_
  refine lv_iconst (v := 3) hx hb dX12_init_59 (by decide) ?_
  obtain ⟨w33, h34, e35, b36, hf⟩ := nA_ex hf
  refine r_nA0 X I e35 hA b36 tw_52 dX12_init_60 (fun H I => ?_)
  have hle := I.le hA b36
  obtain ⟨h37, e38, hf⟩ := Option.bind_eq_some_iff.mp hf
  refine r_pFR X hin I e38 lf_TrapCornerModel_37 rfl dX12_init_62 (fun H locs I => ?_)
  refine lv_aload_n hx hb dX12_init_65 rfl (lv_at hl 0 rfl) ?_
  refine lv_iconst (v := 3) hx hb dX12_init_66 (by decide) ?_
  obtain ⟨w39, h40, e41, b42, hf⟩ := nA_ex hf
  refine r_nA0 X I e41 hA b42 tw_52 dX12_init_67 (fun H I => ?_)
  have hle := I.le hA b42
  obtain ⟨h43, e44, hf⟩ := Option.bind_eq_some_iff.mp hf
  refine r_pFR X hin I e44 lf_TrapCornerModel_40 rfl dX12_init_69 (fun H locs I => ?_)
  refine lv_aload_n hx hb dX12_init_72 rfl (lv_at hl 0 rfl) ?_
  refine lv_bipush (v := 10) hx hb dX12_init_73 (by decide) ?_
  obtain ⟨w45, h46, e47, b48, hf⟩ := nA_ex hf
  refine r_nA0 X I e47 hA b48 tw_52 dX12_init_75 (fun H I => ?_)
  have hle := I.le hA b48
  obtain ⟨h49, e50, hf⟩ := Option.bind_eq_some_iff.mp hf
  refine r_pFR X hin I e50 lf_TrapCornerModel_43 rfl dX12_init_77 (fun H locs I => ?_)
  refine lv_aload_n hx hb dX12_init_80 rfl (lv_at hl 0 rfl) ?_
  refine lv_bipush (v := 10) hx hb dX12_init_81 (by decide) ?_
  obtain ⟨w51, h52, e53, b54, hf⟩ := nA_ex hf
  refine r_nA0 X I e53 hA b54 tw_52 dX12_init_83 (fun H I => ?_)
  have hle := I.le hA b54
  obtain ⟨h55, e56, hf⟩ := Option.bind_eq_some_iff.mp hf
  refine r_pFR X hin I e56 lf_TrapCornerModel_46 rfl dX12_init_85 (fun H locs I => ?_)
  refine lv_aload_n hx hb dX12_init_88 rfl (lv_at hl 0 rfl) ?_
  refine lv_bipush (v := 36) hx hb dX12_init_89 (by decide) ?_
  obtain ⟨w57, h58, e59, b60, hf⟩ := nA_ex hf
  refine r_nA0 X I e59 hA b60 tw_52 dX12_init_91 (fun H I => ?_)
  have hle := I.le hA b60
  obtain ⟨h61, e62, hf⟩ := Option.bind_eq_some_iff.mp hf
  refine r_pFR X hin I e62 lf_TrapCornerModel_49 rfl dX12_init_93 (fun H locs I => ?_)
  refine lv_aload_n hx hb dX12_init_96 rfl (lv_at hl 0 rfl) ?_
  refine lv_bipush (v := 36) hx hb dX12_init_97 (by decide) ?_
  obtain ⟨w63, h64, e65, b66, hf⟩ := nA_ex hf
  refine r_nA0 X I e65 hA b66 tw_52 dX12_init_99 (fun H I => ?_)
  have hle := I.le hA b66
  obtain ⟨h67, e68, hf⟩ := Option.bind_eq_some_iff.mp hf
  refine r_pFR X hin I e68 lf_TrapCornerModel_52 rfl dX12_init_101 (fun H locs I => ?_)
  refine lv_aload_n hx hb dX12_init_104 rfl (lv_at hl 0 rfl) ?_
  refine lv_sipush (v := 240) hx hb dX12_init_105 (by decide) ?_
  obtain ⟨w69, h70, e71, b72, hf⟩ := nA_ex hf
  refine r_nA0 X I e71 hA b72 tw_52 dX12_init_108 (fun H I => ?_)
  have hle := I.le hA b72
  obtain ⟨h73, e74, hf⟩ := Option.bind_eq_some_iff.mp hf
  refine r_pFR X hin I e74 lf_TrapCornerModel_55 rfl dX12_init_110 (fun H locs I => ?_)
  refine lv_aload_n hx hb dX12_init_113 rfl (lv_at hl 0 rfl) ?_
  refine lv_iconst (v := 5) hx hb dX12_init_114 (by decide) ?_
  obtain ⟨w75, h76, e77, b78, hf⟩ := nA_ex hf
  refine r_nA0 X I e77 hA b78 tw_52 dX12_init_115 (fun H I => ?_)
  have hle := I.le hA b78
  obtain ⟨h79, e80, hf⟩ := Option.bind_eq_some_iff.mp hf
  refine r_pFR X hin I e80 lf_TrapCornerModel_58 rfl dX12_init_117 (fun H locs I => ?_)
  refine lv_aload_n hx hb dX12_init_120 rfl (lv_at hl 0 rfl) ?_
  refine lv_sipush (v := 212) hx hb dX12_init_121 (by decide) ?_
  obtain ⟨w81, h82, e83, b84, hf⟩ := nA_ex hf
  refine r_nA0 X I e83 hA b84 tw_52 dX12_init_124 (fun H I => ?_)
  have hle := I.le hA b84
  obtain ⟨h85, e86, hf⟩ := Option.bind_eq_some_iff.mp hf
  refine r_pFR X hin I e86 lf_TrapCornerModel_61 rfl dX12_init_126 (fun H locs I => ?_)
  refine lv_aload_n hx hb dX12_init_129 rfl (lv_at hl 0 rfl) ?_
  refine lv_sipush (v := 212) hx hb dX12_init_130 (by decide) ?_
  obtain ⟨w87, h88, e89, b90, hf⟩ := nA_ex hf
  refine r_nA0 X I e89 hA b90 tw_52 dX12_init_133 (fun H I => ?_)
  have hle := I.le hA b90
  obtain ⟨h91, e92, hf⟩ := Option.bind_eq_some_iff.mp hf
  refine r_pFR X hin I e92 lf_TrapCornerModel_64 rfl dX12_init_135 (fun H locs I => ?_)
  refine lv_aload_n hx hb dX12_init_138 rfl (lv_at hl 0 rfl) ?_
  refine lv_iconst (v := (-1)) hx hb dX12_init_139 (by decide) ?_
  obtain ⟨h93, e94, hf⟩ := Option.bind_eq_some_iff.mp hf
  refine r_pI X I e94 lp_TrapCornerModel_67 dX12_init_140 (fun H locs I => ?_)
  refine lv_aload_n hx hb dX12_init_143 rfl (lv_at hl 0 rfl) ?_
  refine lv_iconst (v := 2) hx hb dX12_init_144 (by decide) ?_
  obtain ⟨h95, e96, hf⟩ := Option.bind_eq_some_iff.mp hf
  refine r_pI X I e96 lp_TrapCornerModel_71 dX12_init_145 (fun H locs I => ?_)
  refine lv_aload_n hx hb dX12_init_148 rfl (lv_at hl 0 rfl) ?_
  refine lv_sipush (v := 8191) hx hb dX12_init_149 (by decide) ?_
  obtain ⟨w97, h98, e99, b100, hf⟩ := nA_ex hf
  refine r_nA2 X I e99 hA b100 tw_1438 dX12_init_152 (fun H I => ?_)
  have hle := I.le hA b100
  obtain ⟨h101, e102, hf⟩ := Option.bind_eq_some_iff.mp hf
  refine r_pFR X hin I e102 lf_TrapCornerModel_74 rfl dX12_init_154 (fun H locs I => ?_)
  refine lv_aload_n hx hb dX12_init_157 rfl (lv_at hl 0 rfl) ?_
  refine lv_sipush (v := 8191) hx hb dX12_init_158 (by decide) ?_
  obtain ⟨w103, h104, e105, b106, hf⟩ := nA_ex hf
  refine r_nA0 X I e105 hA b106 tw_52 dX12_init_161 (fun H I => ?_)
  have hle := I.le hA b106
  obtain ⟨h107, e108, hf⟩ := Option.bind_eq_some_iff.mp hf
  refine r_pFR X hin I e108 lf_TrapCornerModel_78 rfl dX12_init_163 (fun H locs I => ?_)
  refine lv_aload_n hx hb dX12_init_166 rfl (lv_at hl 0 rfl) ?_
  refine lv_bipush (v := 6) hx hb dX12_init_167 (by decide) ?_
  obtain ⟨w109, h110, e111, b112, hf⟩ := nA_ex hf
  refine r_nA0 X I e111 hA b112 tw_52 dX12_init_169 (fun H I => ?_)
  have hle := I.le hA b112
  obtain ⟨h113, e114, hf⟩ := Option.bind_eq_some_iff.mp hf
  refine r_pFR X hin I e114 lf_TrapCornerModel_81 rfl dX12_init_171 (fun H locs I => ?_)
  refine lv_aload_n hx hb dX12_init_174 rfl (lv_at hl 0 rfl) ?_
  refine lv_sipush (v := 8480) hx hb dX12_init_175 (by decide) ?_
  obtain ⟨w115, h116, e117, b118, hf⟩ := nA_ex hf
  refine r_nA0 X I e117 hA b118 tw_52 dX12_init_178 (fun H I => ?_)
  have hle := I.le hA b118
  obtain ⟨h119, e120, hf⟩ := Option.bind_eq_some_iff.mp hf
  refine r_pFR X hin I e120 lf_TrapCornerModel_84 rfl dX12_init_180 (fun H locs I => ?_)
  refine lv_aload_n hx hb dX12_init_183 rfl (lv_at hl 0 rfl) ?_
  refine lv_bipush (v := 40) hx hb dX12_init_184 (by decide) ?_
  obtain ⟨w121, h122, e123, b124, hf⟩ := nA_ex hf
  refine r_nA0 X I e123 hA b124 tw_52 dX12_init_186 (fun H I => ?_)
  have hle := I.le hA b124
  obtain ⟨h125, e126, hf⟩ := Option.bind_eq_some_iff.mp hf
  refine r_pFR X hin I e126 lf_TrapCornerModel_87 rfl dX12_init_188 (fun H locs I => ?_)
  refine lv_aload_n hx hb dX12_init_191 rfl (lv_at hl 0 rfl) ?_
  refine lv_bipush (v := 16) hx hb dX12_init_192 (by decide) ?_
  obtain ⟨w127, h128, e129, b130, hf⟩ := nA_ex hf
  refine r_nA0 X I e129 hA b130 tw_52 dX12_init_194 (fun H I => ?_)
  have hle := I.le hA b130
  obtain ⟨h131, e132, hf⟩ := Option.bind_eq_some_iff.mp hf
  refine r_pFR X hin I e132 lf_TrapCornerModel_90 rfl dX12_init_196 (fun H locs I => ?_)
  refine lv_aload_n hx hb dX12_init_199 rfl (lv_at hl 0 rfl) ?_
  refine lv_sipush (v := 212) hx hb dX12_init_200 (by decide) ?_
  obtain ⟨w133, h134, e135, b136, hf⟩ := nA_ex hf
  refine r_nA0 X I e135 hA b136 tw_52 dX12_init_203 (fun H I => ?_)
  have hle := I.le hA b136
  obtain ⟨h137, e138, hf⟩ := Option.bind_eq_some_iff.mp hf
  refine r_pFR X hin I e138 lf_TrapCornerModel_93 rfl dX12_init_205 (fun H locs I => ?_)
  cases hf
  exact k_fin (I.fin hA) (k_rv X I hr dX12_init_208)
def f_X12_init (o0 : Nat) (h : AH) : Option (Unit × AH) := f_X12_init_0 o0 h
end
theorem c_X12_init (l : Launch) (g : GG) (o0 : Nat) {h : AH} {res : Unit × AH} (hf : f_X12_init o0 h = some res) : CM l g yX12_init cX12_init 1 none 1 64 (res.2.1 - h.1) (res.2.2.1 - h.2.1) [.ref (rfG g o0)] h none res.2 := by
  have hbd := (ck_spec (show ck h _ = some res from hf)).1
  exact k_bodyC (by decide) (Nat.le_of_ble_eq_true rfl) (fun p e s m below meth c R ls hR hr hnm X I hl => by
    obtain ⟨r1, r2, r3, r4⟩ := hR
    rw [← r3, ← r4]
    exact w_X12_init_0 X ⟨Nat.le_of_eq r1.symm, Nat.le_of_eq r2.symm⟩ hr ⟨by omega, by omega⟩ hnm o0 h ls s.heap [] 0 0 hf I (lv_sub hl [0] rfl))
