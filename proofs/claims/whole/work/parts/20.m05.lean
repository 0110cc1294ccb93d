/-! TrapCornerModel.number(II)I -/
theorem dX12_number_0 : decode cX12_number 0 = .ok (.aload_n 0, 1) := by decide +kernel
theorem dX12_number_1 : decode cX12_number 1 = .ok (.invokevirtual 138, 3) := by decide +kernel
theorem dX12_number_4 : decode cX12_number 4 = .ok (.istore_n 3, 1) := by decide +kernel
theorem dX12_number_5 : decode cX12_number 5 = .ok (.aload_n 0, 1) := by decide +kernel
theorem dX12_number_6 : decode cX12_number 6 = .ok (.invokevirtual 168, 3) := by decide +kernel
theorem dX12_number_9 : decode cX12_number 9 = .ok (.ifCond .ne 10, 3) := by decide +kernel
theorem dX12_number_12 : decode cX12_number 12 = .ok (.aload_n 0, 1) := by decide +kernel
theorem dX12_number_13 : decode cX12_number 13 = .ok (.invokevirtual 134, 3) := by decide +kernel
theorem dX12_number_16 : decode cX12_number 16 = .ok (.pop, 1) := by decide +kernel
theorem dX12_number_17 : decode cX12_number 17 = .ok (.iconst 0, 1) := by decide +kernel
theorem dX12_number_18 : decode cX12_number 18 = .ok (.ireturn, 1) := by decide +kernel
theorem dX12_number_19 : decode cX12_number 19 = .ok (.iload_n 3, 1) := by decide +kernel
theorem dX12_number_20 : decode cX12_number 20 = .ok (.bipush 48, 2) := by decide +kernel
theorem dX12_number_22 : decode cX12_number 22 = .ok (.isub, 1) := by decide +kernel
theorem dX12_number_23 : decode cX12_number 23 = .ok (.istore 4, 2) := by decide +kernel
theorem dX12_number_25 : decode cX12_number 25 = .ok (.aload_n 0, 1) := by decide +kernel
theorem dX12_number_26 : decode cX12_number 26 = .ok (.dup, 1) := by decide +kernel
theorem dX12_number_27 : decode cX12_number 27 = .ok (.getfield 119, 3) := by decide +kernel
theorem dX12_number_30 : decode cX12_number 30 = .ok (.iconst 1, 1) := by decide +kernel
theorem dX12_number_31 : decode cX12_number 31 = .ok (.iadd, 1) := by decide +kernel
theorem dX12_number_32 : decode cX12_number 32 = .ok (.putfield 119, 3) := by decide +kernel
theorem dX12_number_35 : decode cX12_number 35 = .ok (.aload_n 0, 1) := by decide +kernel
theorem dX12_number_36 : decode cX12_number 36 = .ok (.invokevirtual 168, 3) := by decide +kernel
theorem dX12_number_39 : decode cX12_number 39 = .ok (.ifCond .eq 28, 3) := by decide +kernel
theorem dX12_number_42 : decode cX12_number 42 = .ok (.bipush 10, 2) := by decide +kernel
theorem dX12_number_44 : decode cX12_number 44 = .ok (.iload 4, 2) := by decide +kernel
theorem dX12_number_46 : decode cX12_number 46 = .ok (.imul, 1) := by decide +kernel
theorem dX12_number_47 : decode cX12_number 47 = .ok (.aload_n 0, 1) := by decide +kernel
theorem dX12_number_48 : decode cX12_number 48 = .ok (.invokevirtual 214, 3) := by decide +kernel
theorem dX12_number_51 : decode cX12_number 51 = .ok (.iadd, 1) := by decide +kernel
theorem dX12_number_52 : decode cX12_number 52 = .ok (.bipush 48, 2) := by decide +kernel
theorem dX12_number_54 : decode cX12_number 54 = .ok (.isub, 1) := by decide +kernel
theorem dX12_number_55 : decode cX12_number 55 = .ok (.istore 4, 2) := by decide +kernel
theorem dX12_number_57 : decode cX12_number 57 = .ok (.aload_n 0, 1) := by decide +kernel
theorem dX12_number_58 : decode cX12_number 58 = .ok (.dup, 1) := by decide +kernel
theorem dX12_number_59 : decode cX12_number 59 = .ok (.getfield 119, 3) := by decide +kernel
theorem dX12_number_62 : decode cX12_number 62 = .ok (.iconst 1, 1) := by decide +kernel
theorem dX12_number_63 : decode cX12_number 63 = .ok (.iadd, 1) := by decide +kernel
theorem dX12_number_64 : decode cX12_number 64 = .ok (.putfield 119, 3) := by decide +kernel
theorem dX12_number_67 : decode cX12_number 67 = .ok (.aload_n 0, 1) := by decide +kernel
theorem dX12_number_68 : decode cX12_number 68 = .ok (.invokevirtual 168, 3) := by decide +kernel
theorem dX12_number_71 : decode cX12_number 71 = .ok (.ifCond .eq 10, 3) := by decide +kernel
theorem dX12_number_74 : decode cX12_number 74 = .ok (.aload_n 0, 1) := by decide +kernel
theorem dX12_number_75 : decode cX12_number 75 = .ok (.invokevirtual 134, 3) := by decide +kernel
theorem dX12_number_78 : decode cX12_number 78 = .ok (.pop, 1) := by decide +kernel
theorem dX12_number_79 : decode cX12_number 79 = .ok (.iconst 0, 1) := by decide +kernel
theorem dX12_number_80 : decode cX12_number 80 = .ok (.ireturn, 1) := by decide +kernel
theorem dX12_number_81 : decode cX12_number 81 = .ok (.iload 4, 2) := by decide +kernel
theorem dX12_number_83 : decode cX12_number 83 = .ok (.i2l, 1) := by decide +kernel
theorem dX12_number_84 : decode cX12_number 84 = .ok (.iload_n 1, 1) := by decide +kernel
theorem dX12_number_85 : decode cX12_number 85 = .ok (.i2l, 1) := by decide +kernel
theorem dX12_number_86 : decode cX12_number 86 = .ok (.iload_n 2, 1) := by decide +kernel
theorem dX12_number_87 : decode cX12_number 87 = .ok (.i2l, 1) := by decide +kernel
theorem dX12_number_88 : decode cX12_number 88 = .ok (.invokestatic 217, 3) := by decide +kernel
theorem dX12_number_91 : decode cX12_number 91 = .ok (.ifCond .ne 18, 3) := by decide +kernel
theorem dX12_number_94 : decode cX12_number 94 = .ok (.aload_n 0, 1) := by decide +kernel
theorem dX12_number_95 : decode cX12_number 95 = .ok (.dup, 1) := by decide +kernel
theorem dX12_number_96 : decode cX12_number 96 = .ok (.getfield 119, 3) := by decide +kernel
theorem dX12_number_99 : decode cX12_number 99 = .ok (.iconst 1, 1) := by decide +kernel
theorem dX12_number_100 : decode cX12_number 100 = .ok (.isub, 1) := by decide +kernel
theorem dX12_number_101 : decode cX12_number 101 = .ok (.putfield 119, 3) := by decide +kernel
theorem dX12_number_104 : decode cX12_number 104 = .ok (.aload_n 0, 1) := by decide +kernel
theorem dX12_number_105 : decode cX12_number 105 = .ok (.invokevirtual 134, 3) := by decide +kernel
theorem dX12_number_108 : decode cX12_number 108 = .ok (.pop, 1) := by decide +kernel
theorem dX12_number_109 : decode cX12_number 109 = .ok (.iload 4, 2) := by decide +kernel
theorem dX12_number_111 : decode cX12_number 111 = .ok (.ireturn, 1) := by decide +kernel
theorem vk_TrapCornerModel_168 : VK "TrapCornerModel" 168 [12] yX12_isDigit 0 := ⟨tw_1531, tw_1533, tw_13, ⟨by decide, by decide⟩, by decide +kernel, fun ci hci => by
  have hci := List.mem_singleton.mp hci
  subst hci
  exact ⟨_, rfl, tp_60⟩⟩
theorem sk_TrapCornerModel_217 : SK "TrapCornerModel" 217 yX12_isIn 3 := ⟨tw_1463, tw_1464, tw_13, ⟨by decide, by decide⟩, by decide +kernel⟩
theorem vk_TrapCornerModel_214 : VK "TrapCornerModel" 214 [12] yX12_here 0 := ⟨tw_1535, tw_1537, tw_13, ⟨by decide, by decide⟩, by decide +kernel, fun ci hci => by
  have hci := List.mem_singleton.mp hci
  subst hci
  exact ⟨_, rfl, tp_61⟩⟩
section
variable {g : GG} {p : Program} {l : Launch} {e : Env} {R : Room} {s : State} {m : MethodId} {args : Array Value} {below : List Frame} {meth : Method} {c : Code} {n0 z0 : Nat}
def f_X12_number_67  (o0 : Nat) (x1 : Int32) (x2 : Int32) (x4 : Int32) (h : AH) : Option (Int32 × AH) :=
  (isC [12] h o0).bind fun _ =>
  cN (f_X12_isDigit o0 h) h fun v1 h2 =>
  if v1 = 0 then
    cN (f_X12_isIn (x4.toInt64) (x1.toInt64) (x2.toInt64) h2) h2 fun v7 h8 =>
    if v7 = 0 then
      (gI [12] h8 o0 10).bind fun v12 =>
      (pV [12] h8 o0 10 (.int (v12 - 1))).bind fun h14 =>
      (isC [12] h14 o0).bind fun _ =>
      cN (f_X12_fails o0 h14) h14 fun v16 h17 =>
      some (x4, h17)
    else
      some (x4, h8)
  else
    (isC [12] h2 o0).bind fun _ =>
    cN (f_X12_fails o0 h2) h2 fun v21 h22 =>
    some (0, h22)
set_option maxHeartbeats 1000000 in
theorem w_X12_number_67 (X : Cx g p s m args meth c cX12_number 5 "TrapCornerModel") (hR : 2 ≤ R.frames ∧ 128 ≤ R.locals) (hr : meth.sig.returnType = (some (.int))) {res : Int32 × AH} : ∀ (o0 : Nat) (x1 : Int32) (x2 : Int32) (x4 : Int32) (h : AH) (ls : Array Slot) (H : Heap) (locs : List Loc), f_X12_number_67 o0 x1 x2 x4 h = some res → Iv g s n0 z0 h H locs 0 0 → lv_has ls 5 [(0, .ref (rfG g o0)), (1, .int x1), (2, .int x2), (4, .int x4)] → W p l e R s m args below meth c H locs 0 0 (MQ below (QG g (some (.int res.1)) res.2) args s 0 0 (AG g)) (F0 m 67 ls []) := by
  have hx := X.1
  have hb := X.2.1
  intro o0 x1 x2 x4 h ls H locs hf I hl
  unfold f_X12_number_67 at hf
  refine lv_aload_n hx hb dX12_number_67 rfl (lv_at hl 0 rfl) ?_
  obtain ⟨_, g5, hf⟩ := Option.bind_eq_some_iff.mp hf
  obtain ⟨v1, h2, e3, z4, hf⟩ := cN_spec hf
  refine k_Vi (As := []) (rest := []) X I (c_X12_isDigit l g o0 e3) z4 g5 vk_TrapCornerModel_168 tw_1534 ⟨Nat.le_trans (by decide) hR.1, Nat.le_trans (by decide) hR.2⟩ ⟨Nat.zero_le _, Nat.zero_le _⟩ rfl hl.1 rfl (Nat.le_of_ble_eq_true rfl) dX12_number_68 (fun H locs I => ?_)
  refine lv_if_eq (tgt := 81) hx hb dX12_number_71 (by decide) (fun c6 => ?_) (fun c6 => ?_)
  · rw [if_pos c6] at hf
    refine lv_iload hx hb dX12_number_81 (lv_at hl 3 rfl) ?_
    refine lv_i2l hx hb dX12_number_83 rfl ?_
    refine lv_iload_n hx hb dX12_number_84 rfl (lv_at hl 1 rfl) ?_
    refine lv_i2l hx hb dX12_number_85 rfl ?_
    refine lv_iload_n hx hb dX12_number_86 rfl (lv_at hl 2 rfl) ?_
    refine lv_i2l hx hb dX12_number_87 rfl ?_
    obtain ⟨v7, h8, e9, z10, hf⟩ := cN_spec hf
    refine k_Si (As := [.long (x4.toInt64), .long (x1.toInt64), .long (x2.toInt64)]) (rest := []) X I (c_X12_isIn l g (x4.toInt64) (x1.toInt64) (x2.toInt64) e9) z10 sk_TrapCornerModel_217 tw_1465 ⟨Nat.le_trans (by decide) hR.1, Nat.le_trans (by decide) hR.2⟩ ⟨Nat.zero_le _, Nat.zero_le _⟩ rfl hl.1 rfl (Nat.le_of_ble_eq_true rfl) dX12_number_88 (fun H locs I => ?_)
    refine lv_if_ne (tgt := 109) hx hb dX12_number_91 (by decide) (fun c11 => ?_) (fun c11 => ?_)
    · rw [if_neg c11] at hf
      refine lv_iload hx hb dX12_number_109 (lv_at hl 3 rfl) ?_
      cases hf
      exact k_ri X I hr dX12_number_111
    · rw [if_pos c11] at hf
      refine lv_aload_n hx hb dX12_number_94 rfl (lv_at hl 0 rfl) ?_
      refine lv_dup hx hb dX12_number_95 rfl ?_
      obtain ⟨v12, e13, hf⟩ := Option.bind_eq_some_iff.mp hf
      refine r_gI X I e13 lk_TrapCornerModel_119 dX12_number_96 ?_
      refine lv_iconst (v := 1) hx hb dX12_number_99 (by decide) ?_
      refine lv_isub hx hb dX12_number_100 ?_
      obtain ⟨h14, e15, hf⟩ := Option.bind_eq_some_iff.mp hf
      refine r_pI X I e15 lp_TrapCornerModel_119 dX12_number_101 (fun H locs I => ?_)
      refine lv_aload_n hx hb dX12_number_104 rfl (lv_at hl 0 rfl) ?_
      obtain ⟨_, g20, hf⟩ := Option.bind_eq_some_iff.mp hf
      obtain ⟨v16, h17, e18, z19, hf⟩ := cN_spec hf
      refine k_Vi (As := []) (rest := []) X I (c_X12_fails l g o0 e18) z19 g20 vk_TrapCornerModel_134 tw_1488 ⟨Nat.le_trans (by decide) hR.1, Nat.le_trans (by decide) hR.2⟩ ⟨Nat.zero_le _, Nat.zero_le _⟩ rfl hl.1 rfl (Nat.le_of_ble_eq_true rfl) dX12_number_105 (fun H locs I => ?_)
      refine lv_pop hx hb dX12_number_108 rfl ?_
      refine lv_iload hx hb dX12_number_109 (lv_at hl 3 rfl) ?_
      cases hf
      exact k_ri X I hr dX12_number_111
  · rw [if_neg c6] at hf
    refine lv_aload_n hx hb dX12_number_74 rfl (lv_at hl 0 rfl) ?_
    obtain ⟨_, g25, hf⟩ := Option.bind_eq_some_iff.mp hf
    obtain ⟨v21, h22, e23, z24, hf⟩ := cN_spec hf
    refine k_Vi (As := []) (rest := []) X I (c_X12_fails l g o0 e23) z24 g25 vk_TrapCornerModel_134 tw_1488 ⟨Nat.le_trans (by decide) hR.1, Nat.le_trans (by decide) hR.2⟩ ⟨Nat.zero_le _, Nat.zero_le _⟩ rfl hl.1 rfl (Nat.le_of_ble_eq_true rfl) dX12_number_75 (fun H locs I => ?_)
    refine lv_pop hx hb dX12_number_78 rfl ?_
    refine lv_iconst (v := 0) hx hb dX12_number_79 (by decide) ?_
    cases hf
    exact k_ri X I hr dX12_number_80
def f_X12_number_0  (o0 : Nat) (x1 : Int32) (x2 : Int32) (h : AH) : Option (Int32 × AH) :=
  (isC [12] h o0).bind fun _ =>
  cN (f_X12_look o0 h) h fun v1 h2 =>
  (isC [12] h2 o0).bind fun _ =>
  cN (f_X12_isDigit o0 h2) h2 fun v6 h7 =>
  if v6 = 0 then
    (isC [12] h7 o0).bind fun _ =>
    cN (f_X12_fails o0 h7) h7 fun v31 h32 =>
    some (0, h32)
  else
    (gI [12] h7 o0 10).bind fun v12 =>
    (pV [12] h7 o0 10 (.int (v12 + 1))).bind fun h14 =>
    (isC [12] h14 o0).bind fun _ =>
    cN (f_X12_isDigit o0 h14) h14 fun v16 h17 =>
    if v16 = 0 then
      f_X12_number_67 o0 x1 x2 (v1 - 48) h17
    else
      (isC [12] h17 o0).bind fun _ =>
      cN (f_X12_here o0 h17) h17 fun v22 h23 =>
      (gI [12] h23 o0 10).bind fun v27 =>
      (pV [12] h23 o0 10 (.int (v27 + 1))).bind fun h29 =>
      f_X12_number_67 o0 x1 x2 (((10 * (v1 - 48)) + v22) - 48) h29
set_option maxHeartbeats 1000000 in
theorem w_X12_number_0 (X : Cx g p s m args meth c cX12_number 5 "TrapCornerModel") (hR : 2 ≤ R.frames ∧ 128 ≤ R.locals) (hr : meth.sig.returnType = (some (.int))) {res : Int32 × AH} : ∀ (o0 : Nat) (x1 : Int32) (x2 : Int32) (h : AH) (ls : Array Slot) (H : Heap) (locs : List Loc), f_X12_number_0 o0 x1 x2 h = some res → Iv g s n0 z0 h H locs 0 0 → lv_has ls 5 [(0, .ref (rfG g o0)), (1, .int x1), (2, .int x2)] → W p l e R s m args below meth c H locs 0 0 (MQ below (QG g (some (.int res.1)) res.2) args s 0 0 (AG g)) (F0 m 0 ls []) := by
  have hx := X.1
  have hb := X.2.1
  intro o0 x1 x2 h ls H locs hf I hl
  unfold f_X12_number_0 at hf
  refine lv_aload_n hx hb dX12_number_0 rfl (lv_at hl 0 rfl) ?_
  obtain ⟨_, g5, hf⟩ := Option.bind_eq_some_iff.mp hf
  obtain ⟨v1, h2, e3, z4, hf⟩ := cN_spec hf
  refine k_Vi (As := []) (rest := []) X I (c_X12_look l g o0 e3) z4 g5 vk_TrapCornerModel_138 tw_1484 ⟨Nat.le_trans (by decide) hR.1, Nat.le_trans (by decide) hR.2⟩ ⟨Nat.zero_le _, Nat.zero_le _⟩ rfl hl.1 rfl (Nat.le_of_ble_eq_true rfl) dX12_number_1 (fun H locs I => ?_)
  refine lv_istore_n (lv' := [(3, .int v1), (0, .ref (rfG g o0)), (1, .int x1), (2, .int x2)]) hx hb dX12_number_4 rfl hl (by decide) rfl (fun ls hl => ?_)
  refine lv_aload_n hx hb dX12_number_5 rfl (lv_at hl 1 rfl) ?_
  obtain ⟨_, g10, hf⟩ := Option.bind_eq_some_iff.mp hf
  obtain ⟨v6, h7, e8, z9, hf⟩ := cN_spec hf
  refine k_Vi (As := []) (rest := []) X I (c_X12_isDigit l g o0 e8) z9 g10 vk_TrapCornerModel_168 tw_1534 ⟨Nat.le_trans (by decide) hR.1, Nat.le_trans (by decide) hR.2⟩ ⟨Nat.zero_le _, Nat.zero_le _⟩ rfl hl.1 rfl (Nat.le_of_ble_eq_true rfl) dX12_number_6 (fun H locs I => ?_)
  refine lv_if_ne (tgt := 19) hx hb dX12_number_9 (by decide) (fun c11 => ?_) (fun c11 => ?_)
  · rw [if_neg c11] at hf
    refine lv_iload_n hx hb dX12_number_19 rfl (lv_at hl 0 rfl) ?_
    refine lv_bipush (v := 48) hx hb dX12_number_20 (by decide) ?_
    refine lv_isub hx hb dX12_number_22 ?_
    refine lv_istore (lv' := [(4, .int (v1 - 48)), (3, .int v1), (0, .ref (rfG g o0)), (1, .int x1), (2, .int x2)]) hx hb dX12_number_23 hl (by decide) rfl (fun ls hl => ?_)
    refine lv_aload_n hx hb dX12_number_25 rfl (lv_at hl 2 rfl) ?_
    refine lv_dup hx hb dX12_number_26 rfl ?_
    obtain ⟨v12, e13, hf⟩ := Option.bind_eq_some_iff.mp hf
    refine r_gI X I e13 lk_TrapCornerModel_119 dX12_number_27 ?_
    refine lv_iconst (v := 1) hx hb dX12_number_30 (by decide) ?_
    refine lv_iadd hx hb dX12_number_31 ?_
    obtain ⟨h14, e15, hf⟩ := Option.bind_eq_some_iff.mp hf
    refine r_pI X I e15 lp_TrapCornerModel_119 dX12_number_32 (fun H locs I => ?_)
    refine lv_aload_n hx hb dX12_number_35 rfl (lv_at hl 2 rfl) ?_
    obtain ⟨_, g20, hf⟩ := Option.bind_eq_some_iff.mp hf
    obtain ⟨v16, h17, e18, z19, hf⟩ := cN_spec hf
    refine k_Vi (As := []) (rest := []) X I (c_X12_isDigit l g o0 e18) z19 g20 vk_TrapCornerModel_168 tw_1534 ⟨Nat.le_trans (by decide) hR.1, Nat.le_trans (by decide) hR.2⟩ ⟨Nat.zero_le _, Nat.zero_le _⟩ rfl hl.1 rfl (Nat.le_of_ble_eq_true rfl) dX12_number_36 (fun H locs I => ?_)
    refine lv_if_eq (tgt := 67) hx hb dX12_number_39 (by decide) (fun c21 => ?_) (fun c21 => ?_)
    · rw [if_pos c21] at hf
      exact w_X12_number_67 X hR hr  o0 x1 x2 (v1 - 48) h17 ls H locs hf I (lv_sub hl [2, 3, 4, 0] rfl)
    · rw [if_neg c21] at hf
      refine lv_bipush (v := 10) hx hb dX12_number_42 (by decide) ?_
      refine lv_iload hx hb dX12_number_44 (lv_at hl 0 rfl) ?_
      refine lv_imul hx hb dX12_number_46 ?_
      refine lv_aload_n hx hb dX12_number_47 rfl (lv_at hl 2 rfl) ?_
      obtain ⟨_, g26, hf⟩ := Option.bind_eq_some_iff.mp hf
      obtain ⟨v22, h23, e24, z25, hf⟩ := cN_spec hf
      refine k_Vi (As := []) (rest := [.int (10 * (v1 - 48))]) X I (c_X12_here l g o0 e24) z25 g26 vk_TrapCornerModel_214 tw_1538 ⟨Nat.le_trans (by decide) hR.1, Nat.le_trans (by decide) hR.2⟩ ⟨Nat.zero_le _, Nat.zero_le _⟩ rfl hl.1 rfl (Nat.le_of_ble_eq_true rfl) dX12_number_48 (fun H locs I => ?_)
      refine lv_iadd hx hb dX12_number_51 ?_
      refine lv_bipush (v := 48) hx hb dX12_number_52 (by decide) ?_
      refine lv_isub hx hb dX12_number_54 ?_
      refine lv_istore (lv' := [(4, .int (((10 * (v1 - 48)) + v22) - 48)), (3, .int v1), (0, .ref (rfG g o0)), (1, .int x1), (2, .int x2)]) hx hb dX12_number_55 hl (by decide) rfl (fun ls hl => ?_)
      refine lv_aload_n hx hb dX12_number_57 rfl (lv_at hl 2 rfl) ?_
      refine lv_dup hx hb dX12_number_58 rfl ?_
      obtain ⟨v27, e28, hf⟩ := Option.bind_eq_some_iff.mp hf
      refine r_gI X I e28 lk_TrapCornerModel_119 dX12_number_59 ?_
      refine lv_iconst (v := 1) hx hb dX12_number_62 (by decide) ?_
      refine lv_iadd hx hb dX12_number_63 ?_
      obtain ⟨h29, e30, hf⟩ := Option.bind_eq_some_iff.mp hf
      refine r_pI X I e30 lp_TrapCornerModel_119 dX12_number_64 (fun H locs I => ?_)
      exact w_X12_number_67 X hR hr  o0 x1 x2 (((10 * (v1 - 48)) + v22) - 48) h29 ls H locs hf I (lv_sub hl [2, 3, 4, 0] rfl)
  · rw [if_pos c11] at hf
    refine lv_aload_n hx hb dX12_number_12 rfl (lv_at hl 1 rfl) ?_
    obtain ⟨_, g35, hf⟩ := Option.bind_eq_some_iff.mp hf
    obtain ⟨v31, h32, e33, z34, hf⟩ := cN_spec hf
    refine k_Vi (As := []) (rest := []) X I (c_X12_fails l g o0 e33) z34 g35 vk_TrapCornerModel_134 tw_1488 ⟨Nat.le_trans (by decide) hR.1, Nat.le_trans (by decide) hR.2⟩ ⟨Nat.zero_le _, Nat.zero_le _⟩ rfl hl.1 rfl (Nat.le_of_ble_eq_true rfl) dX12_number_13 (fun H locs I => ?_)
    refine lv_pop hx hb dX12_number_16 rfl ?_
    refine lv_iconst (v := 0) hx hb dX12_number_17 (by decide) ?_
    cases hf
    exact k_ri X I hr dX12_number_18
def f_X12_number (o0 : Nat) (x1 : Int32) (x2 : Int32) (h : AH) : Option (Int32 × AH) := f_X12_number_0 o0 x1 x2 h
end
theorem c_X12_number (l : Launch) (g : GG) (o0 : Nat) (x1 : Int32) (x2 : Int32) {h : AH} {res : Int32 × AH} (hf : f_X12_number o0 x1 x2 h = some res) : CM l g yX12_number cX12_number 5 (some (.int)) 2 128 0 0 [.ref (rfG g o0), .int x1, .int x2] h (some (.int res.1)) res.2 :=
  k_body (by decide) (Nat.le_of_ble_eq_true rfl) (fun p e s m below meth c R ls hR hr X I hl => w_X12_number_0 X ⟨Nat.le_of_eq hR.1.symm, Nat.le_of_eq hR.2.1.symm⟩ hr o0 x1 x2 h ls s.heap [] hf I (lv_sub hl [0, 1, 2] rfl))
/-! TrapCornerModel.mostOf(II)I -/
theorem dX12_mostOf_0 : decode cX12_mostOf 0 = .ok (.iload_n 0, 1) := by decide +kernel
theorem dX12_mostOf_1 : decode cX12_mostOf 1 = .ok (.bipush 115, 2) := by decide +kernel
theorem dX12_mostOf_3 : decode cX12_mostOf 3 = .ok (.if_icmp .ne 25, 3) := by decide +kernel
theorem dX12_mostOf_6 : decode cX12_mostOf 6 = .ok (.iload_n 1, 1) := by decide +kernel
theorem dX12_mostOf_7 : decode cX12_mostOf 7 = .ok (.ifCond .ne 8, 3) := by decide +kernel
theorem dX12_mostOf_10 : decode cX12_mostOf 10 = .ok (.bipush 30, 2) := by decide +kernel
theorem dX12_mostOf_12 : decode cX12_mostOf 12 = .ok (.goto 15, 3) := by decide +kernel
theorem dX12_mostOf_15 : decode cX12_mostOf 15 = .ok (.iload_n 1, 1) := by decide +kernel
theorem dX12_mostOf_16 : decode cX12_mostOf 16 = .ok (.iconst 1, 1) := by decide +kernel
theorem dX12_mostOf_17 : decode cX12_mostOf 17 = .ok (.if_icmp .ne 8, 3) := by decide +kernel
theorem dX12_mostOf_20 : decode cX12_mostOf 20 = .ok (.bipush 99, 2) := by decide +kernel
theorem dX12_mostOf_22 : decode cX12_mostOf 22 = .ok (.goto 5, 3) := by decide +kernel
theorem dX12_mostOf_25 : decode cX12_mostOf 25 = .ok (.bipush 9, 2) := by decide +kernel
theorem dX12_mostOf_27 : decode cX12_mostOf 27 = .ok (.ireturn, 1) := by decide +kernel
theorem dX12_mostOf_28 : decode cX12_mostOf 28 = .ok (.iload_n 0, 1) := by decide +kernel
theorem dX12_mostOf_29 : decode cX12_mostOf 29 = .ok (.bipush 99, 2) := by decide +kernel
theorem dX12_mostOf_31 : decode cX12_mostOf 31 = .ok (.if_icmp .ne 14, 3) := by decide +kernel
theorem dX12_mostOf_34 : decode cX12_mostOf 34 = .ok (.iload_n 1, 1) := by decide +kernel
theorem dX12_mostOf_35 : decode cX12_mostOf 35 = .ok (.ifCond .ne 7, 3) := by decide +kernel
theorem dX12_mostOf_38 : decode cX12_mostOf 38 = .ok (.iconst 3, 1) := by decide +kernel
theorem dX12_mostOf_39 : decode cX12_mostOf 39 = .ok (.goto 5, 3) := by decide +kernel
theorem dX12_mostOf_42 : decode cX12_mostOf 42 = .ok (.bipush 9, 2) := by decide +kernel
theorem dX12_mostOf_44 : decode cX12_mostOf 44 = .ok (.ireturn, 1) := by decide +kernel
theorem dX12_mostOf_45 : decode cX12_mostOf 45 = .ok (.iload_n 1, 1) := by decide +kernel
theorem dX12_mostOf_46 : decode cX12_mostOf 46 = .ok (.ifCond .ne 7, 3) := by decide +kernel
theorem dX12_mostOf_49 : decode cX12_mostOf 49 = .ok (.iconst 3, 1) := by decide +kernel
theorem dX12_mostOf_50 : decode cX12_mostOf 50 = .ok (.goto 28, 3) := by decide +kernel
theorem dX12_mostOf_53 : decode cX12_mostOf 53 = .ok (.iload_n 1, 1) := by decide +kernel
theorem dX12_mostOf_54 : decode cX12_mostOf 54 = .ok (.iconst 3, 1) := by decide +kernel
theorem dX12_mostOf_55 : decode cX12_mostOf 55 = .ok (.if_icmp .eq 8, 3) := by decide +kernel
theorem dX12_mostOf_58 : decode cX12_mostOf 58 = .ok (.iload_n 1, 1) := by decide +kernel
theorem dX12_mostOf_59 : decode cX12_mostOf 59 = .ok (.iconst 4, 1) := by decide +kernel
theorem dX12_mostOf_60 : decode cX12_mostOf 60 = .ok (.if_icmp .ne 7, 3) := by decide +kernel
theorem dX12_mostOf_63 : decode cX12_mostOf 63 = .ok (.iconst 4, 1) := by decide +kernel
theorem dX12_mostOf_64 : decode cX12_mostOf 64 = .ok (.goto 14, 3) := by decide +kernel
theorem dX12_mostOf_67 : decode cX12_mostOf 67 = .ok (.iload_n 1, 1) := by decide +kernel
theorem dX12_mostOf_68 : decode cX12_mostOf 68 = .ok (.iconst 5, 1) := by decide +kernel
theorem dX12_mostOf_69 : decode cX12_mostOf 69 = .ok (.if_icmp .ne 7, 3) := by decide +kernel
theorem dX12_mostOf_72 : decode cX12_mostOf 72 = .ok (.iconst 1, 1) := by decide +kernel
theorem dX12_mostOf_73 : decode cX12_mostOf 73 = .ok (.goto 5, 3) := by decide +kernel
theorem dX12_mostOf_76 : decode cX12_mostOf 76 = .ok (.bipush 9, 2) := by decide +kernel
theorem dX12_mostOf_78 : decode cX12_mostOf 78 = .ok (.ireturn, 1) := by decide +kernel
section
variable {g : GG} {p : Program} {l : Launch} {e : Env} {R : Room} {s : State} {m : MethodId} {args : Array Value} {below : List Frame} {meth : Method} {c : Code} {n0 z0 : Nat}
def f_X12_mostOf_63  (h : AH) : Option (Int32 × AH) :=
  some (4, h)
set_option maxHeartbeats 1000000 in
theorem w_X12_mostOf_63 (X : Cx g p s m args meth c cX12_mostOf 2 "TrapCornerModel") (hR : 1 ≤ R.frames ∧ 64 ≤ R.locals) (hr : meth.sig.returnType = (some (.int))) {res : Int32 × AH} : ∀ (h : AH) (ls : Array Slot) (H : Heap) (locs : List Loc), f_X12_mostOf_63  h = some res → Iv g s n0 z0 h H locs 0 0 → lv_has ls 2 [] → W p l e R s m args below meth c H locs 0 0 (MQ below (QG g (some (.int res.1)) res.2) args s 0 0 (AG g)) (F0 m 63 ls []) := by
  have hx := X.1
  have hb := X.2.1
  intro  h ls H locs hf I hl
  unfold f_X12_mostOf_63 at hf
  refine lv_iconst (v := 4) hx hb dX12_mostOf_63 (by decide) ?_
  refine lv_goto (tgt := 78) hx hb dX12_mostOf_64 (by decide) ?_
  cases hf
  exact k_ri X I hr dX12_mostOf_78
def f_X12_mostOf_0  (x0 : Int32) (x1 : Int32) (h : AH) : Option (Int32 × AH) :=
  if x0 = 115 then
    if x1 = 0 then
      some (30, h)
    else
      if x1 = 1 then
        some (99, h)
      else
        some (9, h)
  else
    if x0 = 99 then
      if x1 = 0 then
        some (3, h)
      else
        some (9, h)
    else
      if x1 = 0 then
        some (3, h)
      else
        if x1 = 3 then
          f_X12_mostOf_63 h
        else
          if x1 = 4 then
            f_X12_mostOf_63 h
          else
            if x1 = 5 then
              some (1, h)
            else
              some (9, h)
set_option maxHeartbeats 1000000 in
theorem w_X12_mostOf_0 (X : Cx g p s m args meth c cX12_mostOf 2 "TrapCornerModel") (hR : 1 ≤ R.frames ∧ 64 ≤ R.locals) (hr : meth.sig.returnType = (some (.int))) {res : Int32 × AH} : ∀ (x0 : Int32) (x1 : Int32) (h : AH) (ls : Array Slot) (H : Heap) (locs : List Loc), f_X12_mostOf_0 x0 x1 h = some res → Iv g s n0 z0 h H locs 0 0 → lv_has ls 2 [(0, .int x0), (1, .int x1)] → W p l e R s m args below meth c H locs 0 0 (MQ below (QG g (some (.int res.1)) res.2) args s 0 0 (AG g)) (F0 m 0 ls []) := by
  have hx := X.1
  have hb := X.2.1
  intro x0 x1 h ls H locs hf I hl
  unfold f_X12_mostOf_0 at hf
  refine lv_iload_n hx hb dX12_mostOf_0 rfl (lv_at hl 0 rfl) ?_
  refine lv_bipush (v := 115) hx hb dX12_mostOf_1 (by decide) ?_
  refine lv_icmp_ne (tgt := 28) hx hb dX12_mostOf_3 (by decide) (fun c1 => ?_) (fun c1 => ?_)
  · rw [if_neg c1] at hf
    refine lv_iload_n hx hb dX12_mostOf_28 rfl (lv_at hl 0 rfl) ?_
    refine lv_bipush (v := 99) hx hb dX12_mostOf_29 (by decide) ?_
    refine lv_icmp_ne (tgt := 45) hx hb dX12_mostOf_31 (by decide) (fun c2 => ?_) (fun c2 => ?_)
    · rw [if_neg c2] at hf
      refine lv_iload_n hx hb dX12_mostOf_45 rfl (lv_at hl 1 rfl) ?_
      refine lv_if_ne (tgt := 53) hx hb dX12_mostOf_46 (by decide) (fun c3 => ?_) (fun c3 => ?_)
      · rw [if_neg c3] at hf
        refine lv_iload_n hx hb dX12_mostOf_53 rfl (lv_at hl 1 rfl) ?_
        refine lv_iconst (v := 3) hx hb dX12_mostOf_54 (by decide) ?_
        refine lv_icmp_eq (tgt := 63) hx hb dX12_mostOf_55 (by decide) (fun c4 => ?_) (fun c4 => ?_)
        · rw [if_pos c4] at hf
          exact w_X12_mostOf_63 X hR hr  h ls H locs hf I (lv_sub hl [] rfl)
        · rw [if_neg c4] at hf
          refine lv_iload_n hx hb dX12_mostOf_58 rfl (lv_at hl 1 rfl) ?_
          refine lv_iconst (v := 4) hx hb dX12_mostOf_59 (by decide) ?_
          refine lv_icmp_ne (tgt := 67) hx hb dX12_mostOf_60 (by decide) (fun c5 => ?_) (fun c5 => ?_)
          · rw [if_neg c5] at hf
            refine lv_iload_n hx hb dX12_mostOf_67 rfl (lv_at hl 1 rfl) ?_
            refine lv_iconst (v := 5) hx hb dX12_mostOf_68 (by decide) ?_
            refine lv_icmp_ne (tgt := 76) hx hb dX12_mostOf_69 (by decide) (fun c6 => ?_) (fun c6 => ?_)
            · rw [if_neg c6] at hf
              refine lv_bipush (v := 9) hx hb dX12_mostOf_76 (by decide) ?_
              cases hf
              exact k_ri X I hr dX12_mostOf_78
            · rw [if_pos c6] at hf
              refine lv_iconst (v := 1) hx hb dX12_mostOf_72 (by decide) ?_
              refine lv_goto (tgt := 78) hx hb dX12_mostOf_73 (by decide) ?_
              cases hf
              exact k_ri X I hr dX12_mostOf_78
          · rw [if_pos c5] at hf
            exact w_X12_mostOf_63 X hR hr  h ls H locs hf I (lv_sub hl [] rfl)
      · rw [if_pos c3] at hf
        refine lv_iconst (v := 3) hx hb dX12_mostOf_49 (by decide) ?_
        refine lv_goto (tgt := 78) hx hb dX12_mostOf_50 (by decide) ?_
        cases hf
        exact k_ri X I hr dX12_mostOf_78
    · rw [if_pos c2] at hf
      refine lv_iload_n hx hb dX12_mostOf_34 rfl (lv_at hl 1 rfl) ?_
      refine lv_if_ne (tgt := 42) hx hb dX12_mostOf_35 (by decide) (fun c7 => ?_) (fun c7 => ?_)
      · rw [if_neg c7] at hf
        refine lv_bipush (v := 9) hx hb dX12_mostOf_42 (by decide) ?_
        cases hf
        exact k_ri X I hr dX12_mostOf_44
      · rw [if_pos c7] at hf
        refine lv_iconst (v := 3) hx hb dX12_mostOf_38 (by decide) ?_
        refine lv_goto (tgt := 44) hx hb dX12_mostOf_39 (by decide) ?_
        cases hf
        exact k_ri X I hr dX12_mostOf_44
  · rw [if_pos c1] at hf
    refine lv_iload_n hx hb dX12_mostOf_6 rfl (lv_at hl 1 rfl) ?_
    refine lv_if_ne (tgt := 15) hx hb dX12_mostOf_7 (by decide) (fun c8 => ?_) (fun c8 => ?_)
    · rw [if_neg c8] at hf
      refine lv_iload_n hx hb dX12_mostOf_15 rfl (lv_at hl 1 rfl) ?_
      refine lv_iconst (v := 1) hx hb dX12_mostOf_16 (by decide) ?_
      refine lv_icmp_ne (tgt := 25) hx hb dX12_mostOf_17 (by decide) (fun c9 => ?_) (fun c9 => ?_)
      · rw [if_neg c9] at hf
        refine lv_bipush (v := 9) hx hb dX12_mostOf_25 (by decide) ?_
        cases hf
        exact k_ri X I hr dX12_mostOf_27
      · rw [if_pos c9] at hf
        refine lv_bipush (v := 99) hx hb dX12_mostOf_20 (by decide) ?_
        refine lv_goto (tgt := 27) hx hb dX12_mostOf_22 (by decide) ?_
        cases hf
        exact k_ri X I hr dX12_mostOf_27
    · rw [if_pos c8] at hf
      refine lv_bipush (v := 30) hx hb dX12_mostOf_10 (by decide) ?_
      refine lv_goto (tgt := 27) hx hb dX12_mostOf_12 (by decide) ?_
      cases hf
      exact k_ri X I hr dX12_mostOf_27
def f_X12_mostOf (x0 : Int32) (x1 : Int32) (h : AH) : Option (Int32 × AH) := f_X12_mostOf_0 x0 x1 h
end
theorem c_X12_mostOf (l : Launch) (g : GG) (x0 : Int32) (x1 : Int32) {h : AH} {res : Int32 × AH} (hf : f_X12_mostOf x0 x1 h = some res) : CM l g yX12_mostOf cX12_mostOf 2 (some (.int)) 1 64 0 0 [.int x0, .int x1] h (some (.int res.1)) res.2 :=
  k_body (by decide) (Nat.le_of_ble_eq_true rfl) (fun p e s m below meth c R ls hR hr X I hl => w_X12_mostOf_0 X ⟨Nat.le_of_eq hR.1.symm, Nat.le_of_eq hR.2.1.symm⟩ hr x0 x1 h ls s.heap [] hf I (lv_sub hl [0, 1] rfl))
/-! TrapCornerModel.leastOf(II)I -/
theorem dX12_leastOf_0 : decode cX12_leastOf 0 = .ok (.iload_n 0, 1) := by decide +kernel
theorem dX12_leastOf_1 : decode cX12_leastOf 1 = .ok (.bipush 115, 2) := by decide +kernel
theorem dX12_leastOf_3 : decode cX12_leastOf 3 = .ok (.if_icmp .ne 8, 3) := by decide +kernel
theorem dX12_leastOf_6 : decode cX12_leastOf 6 = .ok (.iload_n 1, 1) := by decide +kernel
theorem dX12_leastOf_7 : decode cX12_leastOf 7 = .ok (.iconst 1, 1) := by decide +kernel
theorem dX12_leastOf_8 : decode cX12_leastOf 8 = .ok (.if_icmp .ne 13, 3) := by decide +kernel
theorem dX12_leastOf_11 : decode cX12_leastOf 11 = .ok (.iload_n 0, 1) := by decide +kernel
theorem dX12_leastOf_12 : decode cX12_leastOf 12 = .ok (.bipush 112, 2) := by decide +kernel
theorem dX12_leastOf_14 : decode cX12_leastOf 14 = .ok (.if_icmp .ne 11, 3) := by decide +kernel
theorem dX12_leastOf_17 : decode cX12_leastOf 17 = .ok (.iload_n 1, 1) := by decide +kernel
theorem dX12_leastOf_18 : decode cX12_leastOf 18 = .ok (.ifCond .ne 7, 3) := by decide +kernel
theorem dX12_leastOf_21 : decode cX12_leastOf 21 = .ok (.iconst 1, 1) := by decide +kernel
theorem dX12_leastOf_22 : decode cX12_leastOf 22 = .ok (.goto 4, 3) := by decide +kernel
theorem dX12_leastOf_25 : decode cX12_leastOf 25 = .ok (.iconst 0, 1) := by decide +kernel
theorem dX12_leastOf_26 : decode cX12_leastOf 26 = .ok (.ireturn, 1) := by decide +kernel
section
variable {g : GG} {p : Program} {l : Launch} {e : Env} {R : Room} {s : State} {m : MethodId} {args : Array Value} {below : List Frame} {meth : Method} {c : Code} {n0 z0 : Nat}
def f_X12_leastOf_21  (h : AH) : Option (Int32 × AH) :=
  some (1, h)
set_option maxHeartbeats 1000000 in
theorem w_X12_leastOf_21 (X : Cx g p s m args meth c cX12_leastOf 2 "TrapCornerModel") (hR : 1 ≤ R.frames ∧ 64 ≤ R.locals) (hr : meth.sig.returnType = (some (.int))) {res : Int32 × AH} : ∀ (h : AH) (ls : Array Slot) (H : Heap) (locs : List Loc), f_X12_leastOf_21  h = some res → Iv g s n0 z0 h H locs 0 0 → lv_has ls 2 [] → W p l e R s m args below meth c H locs 0 0 (MQ below (QG g (some (.int res.1)) res.2) args s 0 0 (AG g)) (F0 m 21 ls []) := by
  have hx := X.1
  have hb := X.2.1
  intro  h ls H locs hf I hl
  unfold f_X12_leastOf_21 at hf
  refine lv_iconst (v := 1) hx hb dX12_leastOf_21 (by decide) ?_
  refine lv_goto (tgt := 26) hx hb dX12_leastOf_22 (by decide) ?_
  cases hf
  exact k_ri X I hr dX12_leastOf_26
def f_X12_leastOf_11  (x0 : Int32) (x1 : Int32) (h : AH) : Option (Int32 × AH) :=
  if x0 = 112 then
    if x1 = 0 then
      f_X12_leastOf_21 h
    else
      some (0, h)
  else
    some (0, h)
set_option maxHeartbeats 1000000 in
theorem w_X12_leastOf_11 (X : Cx g p s m args meth c cX12_leastOf 2 "TrapCornerModel") (hR : 1 ≤ R.frames ∧ 64 ≤ R.locals) (hr : meth.sig.returnType = (some (.int))) {res : Int32 × AH} : ∀ (x0 : Int32) (x1 : Int32) (h : AH) (ls : Array Slot) (H : Heap) (locs : List Loc), f_X12_leastOf_11 x0 x1 h = some res → Iv g s n0 z0 h H locs 0 0 → lv_has ls 2 [(0, .int x0), (1, .int x1)] → W p l e R s m args below meth c H locs 0 0 (MQ below (QG g (some (.int res.1)) res.2) args s 0 0 (AG g)) (F0 m 11 ls []) := by
  have hx := X.1
  have hb := X.2.1
  intro x0 x1 h ls H locs hf I hl
  unfold f_X12_leastOf_11 at hf
  refine lv_iload_n hx hb dX12_leastOf_11 rfl (lv_at hl 0 rfl) ?_
  refine lv_bipush (v := 112) hx hb dX12_leastOf_12 (by decide) ?_
  refine lv_icmp_ne (tgt := 25) hx hb dX12_leastOf_14 (by decide) (fun c1 => ?_) (fun c1 => ?_)
  · rw [if_neg c1] at hf
    refine lv_iconst (v := 0) hx hb dX12_leastOf_25 (by decide) ?_
    cases hf
    exact k_ri X I hr dX12_leastOf_26
  · rw [if_pos c1] at hf
    refine lv_iload_n hx hb dX12_leastOf_17 rfl (lv_at hl 1 rfl) ?_
    refine lv_if_ne (tgt := 25) hx hb dX12_leastOf_18 (by decide) (fun c2 => ?_) (fun c2 => ?_)
    · rw [if_neg c2] at hf
      refine lv_iconst (v := 0) hx hb dX12_leastOf_25 (by decide) ?_
      cases hf
      exact k_ri X I hr dX12_leastOf_26
    · rw [if_pos c2] at hf
      exact w_X12_leastOf_21 X hR hr  h ls H locs hf I (lv_sub hl [] rfl)
def f_X12_leastOf_0  (x0 : Int32) (x1 : Int32) (h : AH) : Option (Int32 × AH) :=
  if x0 = 115 then
    if x1 = 1 then
      f_X12_leastOf_11 x0 x1 h
    else
      f_X12_leastOf_21 h
  else
    f_X12_leastOf_11 x0 x1 h
set_option maxHeartbeats 1000000 in
theorem w_X12_leastOf_0 (X : Cx g p s m args meth c cX12_leastOf 2 "TrapCornerModel") (hR : 1 ≤ R.frames ∧ 64 ≤ R.locals) (hr : meth.sig.returnType = (some (.int))) {res : Int32 × AH} : ∀ (x0 : Int32) (x1 : Int32) (h : AH) (ls : Array Slot) (H : Heap) (locs : List Loc), f_X12_leastOf_0 x0 x1 h = some res → Iv g s n0 z0 h H locs 0 0 → lv_has ls 2 [(0, .int x0), (1, .int x1)] → W p l e R s m args below meth c H locs 0 0 (MQ below (QG g (some (.int res.1)) res.2) args s 0 0 (AG g)) (F0 m 0 ls []) := by
  have hx := X.1
  have hb := X.2.1
  intro x0 x1 h ls H locs hf I hl
  unfold f_X12_leastOf_0 at hf
  refine lv_iload_n hx hb dX12_leastOf_0 rfl (lv_at hl 0 rfl) ?_
  refine lv_bipush (v := 115) hx hb dX12_leastOf_1 (by decide) ?_
  refine lv_icmp_ne (tgt := 11) hx hb dX12_leastOf_3 (by decide) (fun c1 => ?_) (fun c1 => ?_)
  · rw [if_neg c1] at hf
    exact w_X12_leastOf_11 X hR hr  x0 x1 h ls H locs hf I (lv_sub hl [0, 1] rfl)
  · rw [if_pos c1] at hf
    refine lv_iload_n hx hb dX12_leastOf_6 rfl (lv_at hl 1 rfl) ?_
    refine lv_iconst (v := 1) hx hb dX12_leastOf_7 (by decide) ?_
    refine lv_icmp_ne (tgt := 21) hx hb dX12_leastOf_8 (by decide) (fun c2 => ?_) (fun c2 => ?_)
    · rw [if_neg c2] at hf
      exact w_X12_leastOf_21 X hR hr  h ls H locs hf I (lv_sub hl [] rfl)
    · rw [if_pos c2] at hf
      exact w_X12_leastOf_11 X hR hr  x0 x1 h ls H locs hf I (lv_sub hl [0, 1] rfl)
def f_X12_leastOf (x0 : Int32) (x1 : Int32) (h : AH) : Option (Int32 × AH) := f_X12_leastOf_0 x0 x1 h
end
theorem c_X12_leastOf (l : Launch) (g : GG) (x0 : Int32) (x1 : Int32) {h : AH} {res : Int32 × AH} (hf : f_X12_leastOf x0 x1 h = some res) : CM l g yX12_leastOf cX12_leastOf 2 (some (.int)) 1 64 0 0 [.int x0, .int x1] h (some (.int res.1)) res.2 :=
  k_body (by decide) (Nat.le_of_ble_eq_true rfl) (fun p e s m below meth c R ls hR hr X I hl => w_X12_leastOf_0 X ⟨Nat.le_of_eq hR.1.symm, Nat.le_of_eq hR.2.1.symm⟩ hr x0 x1 h ls s.heap [] hf I (lv_sub hl [0, 1] rfl))
/-! TrapCornerModel.usual(II)I -/
theorem dX12_usual_0 : decode cX12_usual 0 = .ok (.iload_n 0, 1) := by decide +kernel
theorem dX12_usual_1 : decode cX12_usual 1 = .ok (.bipush 115, 2) := by decide +kernel
theorem dX12_usual_3 : decode cX12_usual 3 = .ok (.if_icmp .ne 24, 3) := by decide +kernel
theorem dX12_usual_6 : decode cX12_usual 6 = .ok (.iload_n 1, 1) := by decide +kernel
theorem dX12_usual_7 : decode cX12_usual 7 = .ok (.ifCond .ne 8, 3) := by decide +kernel
theorem dX12_usual_10 : decode cX12_usual 10 = .ok (.bipush 8, 2) := by decide +kernel
theorem dX12_usual_12 : decode cX12_usual 12 = .ok (.goto 14, 3) := by decide +kernel
theorem dX12_usual_15 : decode cX12_usual 15 = .ok (.iload_n 1, 1) := by decide +kernel
theorem dX12_usual_16 : decode cX12_usual 16 = .ok (.iconst 1, 1) := by decide +kernel
theorem dX12_usual_17 : decode cX12_usual 17 = .ok (.if_icmp .ne 8, 3) := by decide +kernel
theorem dX12_usual_20 : decode cX12_usual 20 = .ok (.bipush 20, 2) := by decide +kernel
theorem dX12_usual_22 : decode cX12_usual 22 = .ok (.goto 4, 3) := by decide +kernel
theorem dX12_usual_25 : decode cX12_usual 25 = .ok (.iconst 3, 1) := by decide +kernel
theorem dX12_usual_26 : decode cX12_usual 26 = .ok (.ireturn, 1) := by decide +kernel
theorem dX12_usual_27 : decode cX12_usual 27 = .ok (.iload_n 0, 1) := by decide +kernel
theorem dX12_usual_28 : decode cX12_usual 28 = .ok (.bipush 99, 2) := by decide +kernel
theorem dX12_usual_30 : decode cX12_usual 30 = .ok (.if_icmp .ne 13, 3) := by decide +kernel
theorem dX12_usual_33 : decode cX12_usual 33 = .ok (.iload_n 1, 1) := by decide +kernel
theorem dX12_usual_34 : decode cX12_usual 34 = .ok (.ifCond .ne 7, 3) := by decide +kernel
theorem dX12_usual_37 : decode cX12_usual 37 = .ok (.iconst 0, 1) := by decide +kernel
theorem dX12_usual_38 : decode cX12_usual 38 = .ok (.goto 4, 3) := by decide +kernel
theorem dX12_usual_41 : decode cX12_usual 41 = .ok (.iconst 5, 1) := by decide +kernel
theorem dX12_usual_42 : decode cX12_usual 42 = .ok (.ireturn, 1) := by decide +kernel
theorem dX12_usual_43 : decode cX12_usual 43 = .ok (.iload_n 1, 1) := by decide +kernel
theorem dX12_usual_44 : decode cX12_usual 44 = .ok (.ifCond .eq 8, 3) := by decide +kernel
theorem dX12_usual_47 : decode cX12_usual 47 = .ok (.iload_n 1, 1) := by decide +kernel
theorem dX12_usual_48 : decode cX12_usual 48 = .ok (.iconst 4, 1) := by decide +kernel
theorem dX12_usual_49 : decode cX12_usual 49 = .ok (.if_icmp .ne 7, 3) := by decide +kernel
theorem dX12_usual_52 : decode cX12_usual 52 = .ok (.iconst 1, 1) := by decide +kernel
theorem dX12_usual_53 : decode cX12_usual 53 = .ok (.goto 22, 3) := by decide +kernel
theorem dX12_usual_56 : decode cX12_usual 56 = .ok (.iload_n 1, 1) := by decide +kernel
theorem dX12_usual_57 : decode cX12_usual 57 = .ok (.iconst 1, 1) := by decide +kernel
theorem dX12_usual_58 : decode cX12_usual 58 = .ok (.if_icmp .ne 7, 3) := by decide +kernel
theorem dX12_usual_61 : decode cX12_usual 61 = .ok (.iconst 4, 1) := by decide +kernel
theorem dX12_usual_62 : decode cX12_usual 62 = .ok (.goto 13, 3) := by decide +kernel
theorem dX12_usual_65 : decode cX12_usual 65 = .ok (.iload_n 1, 1) := by decide +kernel
theorem dX12_usual_66 : decode cX12_usual 66 = .ok (.iconst 2, 1) := by decide +kernel
theorem dX12_usual_67 : decode cX12_usual 67 = .ok (.if_icmp .ne 7, 3) := by decide +kernel
theorem dX12_usual_70 : decode cX12_usual 70 = .ok (.iconst 2, 1) := by decide +kernel
theorem dX12_usual_71 : decode cX12_usual 71 = .ok (.goto 4, 3) := by decide +kernel
theorem dX12_usual_74 : decode cX12_usual 74 = .ok (.iconst 0, 1) := by decide +kernel
theorem dX12_usual_75 : decode cX12_usual 75 = .ok (.ireturn, 1) := by decide +kernel
section
variable {g : GG} {p : Program} {l : Launch} {e : Env} {R : Room} {s : State} {m : MethodId} {args : Array Value} {below : List Frame} {meth : Method} {c : Code} {n0 z0 : Nat}
def f_X12_usual_52  (h : AH) : Option (Int32 × AH) :=
  some (1, h)
set_option maxHeartbeats 1000000 in
theorem w_X12_usual_52 (X : Cx g p s m args meth c cX12_usual 2 "TrapCornerModel") (hR : 1 ≤ R.frames ∧ 64 ≤ R.locals) (hr : meth.sig.returnType = (some (.int))) {res : Int32 × AH} : ∀ (h : AH) (ls : Array Slot) (H : Heap) (locs : List Loc), f_X12_usual_52  h = some res → Iv g s n0 z0 h H locs 0 0 → lv_has ls 2 [] → W p l e R s m args below meth c H locs 0 0 (MQ below (QG g (some (.int res.1)) res.2) args s 0 0 (AG g)) (F0 m 52 ls []) := by
  have hx := X.1
  have hb := X.2.1
  intro  h ls H locs hf I hl
  unfold f_X12_usual_52 at hf
  refine lv_iconst (v := 1) hx hb dX12_usual_52 (by decide) ?_
  refine lv_goto (tgt := 75) hx hb dX12_usual_53 (by decide) ?_
  cases hf
  exact k_ri X I hr dX12_usual_75
def f_X12_usual_0  (x0 : Int32) (x1 : Int32) (h : AH) : Option (Int32 × AH) :=
  if x0 = 115 then
    if x1 = 0 then
      some (8, h)
    else
      if x1 = 1 then
        some (20, h)
      else
        some (3, h)
  else
    if x0 = 99 then
      if x1 = 0 then
        some (0, h)
      else
        some (5, h)
    else
      if x1 = 0 then
        f_X12_usual_52 h
      else
        if x1 = 4 then
          f_X12_usual_52 h
        else
          if x1 = 1 then
            some (4, h)
          else
            if x1 = 2 then
              some (2, h)
            else
              some (0, h)
set_option maxHeartbeats 1000000 in
theorem w_X12_usual_0 (X : Cx g p s m args meth c cX12_usual 2 "TrapCornerModel") (hR : 1 ≤ R.frames ∧ 64 ≤ R.locals) (hr : meth.sig.returnType = (some (.int))) {res : Int32 × AH} : ∀ (x0 : Int32) (x1 : Int32) (h : AH) (ls : Array Slot) (H : Heap) (locs : List Loc), f_X12_usual_0 x0 x1 h = some res → Iv g s n0 z0 h H locs 0 0 → lv_has ls 2 [(0, .int x0), (1, .int x1)] → W p l e R s m args below meth c H locs 0 0 (MQ below (QG g (some (.int res.1)) res.2) args s 0 0 (AG g)) (F0 m 0 ls []) := by
  have hx := X.1
  have hb := X.2.1
  intro x0 x1 h ls H locs hf I hl
  unfold f_X12_usual_0 at hf
  refine lv_iload_n hx hb dX12_usual_0 rfl (lv_at hl 0 rfl) ?_
  refine lv_bipush (v := 115) hx hb dX12_usual_1 (by decide) ?_
  refine lv_icmp_ne (tgt := 27) hx hb dX12_usual_3 (by decide) (fun c1 => ?_) (fun c1 => ?_)
  · rw [if_neg c1] at hf
    refine lv_iload_n hx hb dX12_usual_27 rfl (lv_at hl 0 rfl) ?_
    refine lv_bipush (v := 99) hx hb dX12_usual_28 (by decide) ?_
    refine lv_icmp_ne (tgt := 43) hx hb dX12_usual_30 (by decide) (fun c2 => ?_) (fun c2 => ?_)
    · rw [if_neg c2] at hf
      refine lv_iload_n hx hb dX12_usual_43 rfl (lv_at hl 1 rfl) ?_
      refine lv_if_eq (tgt := 52) hx hb dX12_usual_44 (by decide) (fun c3 => ?_) (fun c3 => ?_)
      · rw [if_pos c3] at hf
        exact w_X12_usual_52 X hR hr  h ls H locs hf I (lv_sub hl [] rfl)
      · rw [if_neg c3] at hf
        refine lv_iload_n hx hb dX12_usual_47 rfl (lv_at hl 1 rfl) ?_
        refine lv_iconst (v := 4) hx hb dX12_usual_48 (by decide) ?_
        refine lv_icmp_ne (tgt := 56) hx hb dX12_usual_49 (by decide) (fun c4 => ?_) (fun c4 => ?_)
        · rw [if_neg c4] at hf
          refine lv_iload_n hx hb dX12_usual_56 rfl (lv_at hl 1 rfl) ?_
          refine lv_iconst (v := 1) hx hb dX12_usual_57 (by decide) ?_
          refine lv_icmp_ne (tgt := 65) hx hb dX12_usual_58 (by decide) (fun c5 => ?_) (fun c5 => ?_)
          · rw [if_neg c5] at hf
            refine lv_iload_n hx hb dX12_usual_65 rfl (lv_at hl 1 rfl) ?_
            refine lv_iconst (v := 2) hx hb dX12_usual_66 (by decide) ?_
            refine lv_icmp_ne (tgt := 74) hx hb dX12_usual_67 (by decide) (fun c6 => ?_) (fun c6 => ?_)
            · rw [if_neg c6] at hf
              refine lv_iconst (v := 0) hx hb dX12_usual_74 (by decide) ?_
              cases hf
              exact k_ri X I hr dX12_usual_75
            · rw [if_pos c6] at hf
              refine lv_iconst (v := 2) hx hb dX12_usual_70 (by decide) ?_
              refine lv_goto (tgt := 75) hx hb dX12_usual_71 (by decide) ?_
              cases hf
              exact k_ri X I hr dX12_usual_75
          · rw [if_pos c5] at hf
            refine lv_iconst (v := 4) hx hb dX12_usual_61 (by decide) ?_
            refine lv_goto (tgt := 75) hx hb dX12_usual_62 (by decide) ?_
            cases hf
            exact k_ri X I hr dX12_usual_75
        · rw [if_pos c4] at hf
          exact w_X12_usual_52 X hR hr  h ls H locs hf I (lv_sub hl [] rfl)
    · rw [if_pos c2] at hf
      refine lv_iload_n hx hb dX12_usual_33 rfl (lv_at hl 1 rfl) ?_
      refine lv_if_ne (tgt := 41) hx hb dX12_usual_34 (by decide) (fun c7 => ?_) (fun c7 => ?_)
      · rw [if_neg c7] at hf
        refine lv_iconst (v := 5) hx hb dX12_usual_41 (by decide) ?_
        cases hf
        exact k_ri X I hr dX12_usual_42
      · rw [if_pos c7] at hf
        refine lv_iconst (v := 0) hx hb dX12_usual_37 (by decide) ?_
        refine lv_goto (tgt := 42) hx hb dX12_usual_38 (by decide) ?_
        cases hf
        exact k_ri X I hr dX12_usual_42
  · rw [if_pos c1] at hf
    refine lv_iload_n hx hb dX12_usual_6 rfl (lv_at hl 1 rfl) ?_
    refine lv_if_ne (tgt := 15) hx hb dX12_usual_7 (by decide) (fun c8 => ?_) (fun c8 => ?_)
    · rw [if_neg c8] at hf
      refine lv_iload_n hx hb dX12_usual_15 rfl (lv_at hl 1 rfl) ?_
      refine lv_iconst (v := 1) hx hb dX12_usual_16 (by decide) ?_
      refine lv_icmp_ne (tgt := 25) hx hb dX12_usual_17 (by decide) (fun c9 => ?_) (fun c9 => ?_)
      · rw [if_neg c9] at hf
        refine lv_iconst (v := 3) hx hb dX12_usual_25 (by decide) ?_
        cases hf
        exact k_ri X I hr dX12_usual_26
      · rw [if_pos c9] at hf
        refine lv_bipush (v := 20) hx hb dX12_usual_20 (by decide) ?_
        refine lv_goto (tgt := 26) hx hb dX12_usual_22 (by decide) ?_
        cases hf
        exact k_ri X I hr dX12_usual_26
    · rw [if_pos c8] at hf
      refine lv_bipush (v := 8) hx hb dX12_usual_10 (by decide) ?_
      refine lv_goto (tgt := 26) hx hb dX12_usual_12 (by decide) ?_
      cases hf
      exact k_ri X I hr dX12_usual_26
def f_X12_usual (x0 : Int32) (x1 : Int32) (h : AH) : Option (Int32 × AH) := f_X12_usual_0 x0 x1 h
end
theorem c_X12_usual (l : Launch) (g : GG) (x0 : Int32) (x1 : Int32) {h : AH} {res : Int32 × AH} (hf : f_X12_usual x0 x1 h = some res) : CM l g yX12_usual cX12_usual 2 (some (.int)) 1 64 0 0 [.int x0, .int x1] h (some (.int res.1)) res.2 :=
  k_body (by decide) (Nat.le_of_ble_eq_true rfl) (fun p e s m below meth c R ls hR hr X I hl => w_X12_usual_0 X ⟨Nat.le_of_eq hR.1.symm, Nat.le_of_eq hR.2.1.symm⟩ hr x0 x1 h ls s.heap [] hf I (lv_sub hl [0, 1] rfl))
/-! TrapCornerModel.isWhole()Z -/
theorem dX12_isWhole_0 : decode cX12_isWhole 0 = .ok (.iconst 0, 1) := by decide +kernel
theorem dX12_isWhole_1 : decode cX12_isWhole 1 = .ok (.istore_n 1, 1) := by decide +kernel
theorem dX12_isWhole_2 : decode cX12_isWhole 2 = .ok (.iload_n 1, 1) := by decide +kernel
theorem dX12_isWhole_3 : decode cX12_isWhole 3 = .ok (.aload_n 0, 1) := by decide +kernel
theorem dX12_isWhole_4 : decode cX12_isWhole 4 = .ok (.getfield 248, 3) := by decide +kernel
theorem dX12_isWhole_7 : decode cX12_isWhole 7 = .ok (.if_icmp .ge 56, 3) := by decide +kernel
theorem dX12_isWhole_10 : decode cX12_isWhole 10 = .ok (.aload_n 0, 1) := by decide +kernel
theorem dX12_isWhole_11 : decode cX12_isWhole 11 = .ok (.getfield 52, 3) := by decide +kernel
theorem dX12_isWhole_14 : decode cX12_isWhole 14 = .ok (.bipush 6, 2) := by decide +kernel
theorem dX12_isWhole_16 : decode cX12_isWhole 16 = .ok (.iload_n 1, 1) := by decide +kernel
theorem dX12_isWhole_17 : decode cX12_isWhole 17 = .ok (.imul, 1) := by decide +kernel
theorem dX12_isWhole_18 : decode cX12_isWhole 18 = .ok (.iconst 3, 1) := by decide +kernel
theorem dX12_isWhole_19 : decode cX12_isWhole 19 = .ok (.iadd, 1) := by decide +kernel
theorem dX12_isWhole_20 : decode cX12_isWhole 20 = .ok (.iaload, 1) := by decide +kernel
theorem dX12_isWhole_21 : decode cX12_isWhole 21 = .ok (.istore_n 2, 1) := by decide +kernel
theorem dX12_isWhole_22 : decode cX12_isWhole 22 = .ok (.aload_n 0, 1) := by decide +kernel
theorem dX12_isWhole_23 : decode cX12_isWhole 23 = .ok (.getfield 52, 3) := by decide +kernel
theorem dX12_isWhole_26 : decode cX12_isWhole 26 = .ok (.bipush 6, 2) := by decide +kernel
theorem dX12_isWhole_28 : decode cX12_isWhole 28 = .ok (.iload_n 1, 1) := by decide +kernel
theorem dX12_isWhole_29 : decode cX12_isWhole 29 = .ok (.imul, 1) := by decide +kernel
theorem dX12_isWhole_30 : decode cX12_isWhole 30 = .ok (.iconst 4, 1) := by decide +kernel
theorem dX12_isWhole_31 : decode cX12_isWhole 31 = .ok (.iadd, 1) := by decide +kernel
theorem dX12_isWhole_32 : decode cX12_isWhole 32 = .ok (.iaload, 1) := by decide +kernel
theorem dX12_isWhole_33 : decode cX12_isWhole 33 = .ok (.istore_n 3, 1) := by decide +kernel
theorem dX12_isWhole_34 : decode cX12_isWhole 34 = .ok (.iload_n 2, 1) := by decide +kernel
theorem dX12_isWhole_35 : decode cX12_isWhole 35 = .ok (.aload_n 0, 1) := by decide +kernel
theorem dX12_isWhole_36 : decode cX12_isWhole 36 = .ok (.getfield 245, 3) := by decide +kernel
theorem dX12_isWhole_39 : decode cX12_isWhole 39 = .ok (.if_icmp .ge 16, 3) := by decide +kernel
theorem dX12_isWhole_42 : decode cX12_isWhole 42 = .ok (.iload_n 3, 1) := by decide +kernel
theorem dX12_isWhole_43 : decode cX12_isWhole 43 = .ok (.aload_n 0, 1) := by decide +kernel
theorem dX12_isWhole_44 : decode cX12_isWhole 44 = .ok (.getfield 245, 3) := by decide +kernel
theorem dX12_isWhole_47 : decode cX12_isWhole 47 = .ok (.if_icmp .ge 8, 3) := by decide +kernel
theorem dX12_isWhole_50 : decode cX12_isWhole 50 = .ok (.iload_n 2, 1) := by decide +kernel
theorem dX12_isWhole_51 : decode cX12_isWhole 51 = .ok (.iload_n 3, 1) := by decide +kernel
theorem dX12_isWhole_52 : decode cX12_isWhole 52 = .ok (.if_icmp .ne 5, 3) := by decide +kernel
theorem dX12_isWhole_55 : decode cX12_isWhole 55 = .ok (.iconst 0, 1) := by decide +kernel
theorem dX12_isWhole_56 : decode cX12_isWhole 56 = .ok (.ireturn, 1) := by decide +kernel
theorem dX12_isWhole_57 : decode cX12_isWhole 57 = .ok (.iinc 1 1, 3) := by decide +kernel
theorem dX12_isWhole_60 : decode cX12_isWhole 60 = .ok (.goto (-58), 3) := by decide +kernel
theorem dX12_isWhole_63 : decode cX12_isWhole 63 = .ok (.aload_n 0, 1) := by decide +kernel
theorem dX12_isWhole_64 : decode cX12_isWhole 64 = .ok (.getfield 245, 3) := by decide +kernel
theorem dX12_isWhole_67 : decode cX12_isWhole 67 = .ok (.iconst 1, 1) := by decide +kernel
theorem dX12_isWhole_68 : decode cX12_isWhole 68 = .ok (.if_icmp .le 14, 3) := by decide +kernel
theorem dX12_isWhole_71 : decode cX12_isWhole 71 = .ok (.aload_n 0, 1) := by decide +kernel
theorem dX12_isWhole_72 : decode cX12_isWhole 72 = .ok (.getfield 248, 3) := by decide +kernel
theorem dX12_isWhole_75 : decode cX12_isWhole 75 = .ok (.ifCond .le 7, 3) := by decide +kernel
theorem dX12_isWhole_78 : decode cX12_isWhole 78 = .ok (.iconst 1, 1) := by decide +kernel
theorem dX12_isWhole_79 : decode cX12_isWhole 79 = .ok (.goto 4, 3) := by decide +kernel
theorem dX12_isWhole_82 : decode cX12_isWhole 82 = .ok (.iconst 0, 1) := by decide +kernel
theorem dX12_isWhole_83 : decode cX12_isWhole 83 = .ok (.ireturn, 1) := by decide +kernel
theorem lk_TrapCornerModel_248 : LK "TrapCornerModel" 248 [12] 29 := by
  intro ci hci
  have hci := List.mem_singleton.mp hci
  subst hci
  exact ⟨RX12, TX12, 50, "TrapCornerModel", ck_12, by decide, tw_1316, Or.inl rfl⟩
theorem lk_TrapCornerModel_245 : LK "TrapCornerModel" 245 [12] 28 := by
  intro ci hci
  have hci := List.mem_singleton.mp hci
  subst hci
  exact ⟨RX12, TX12, 50, "TrapCornerModel", ck_12, by decide, tw_1315, Or.inl rfl⟩
theorem lk_TrapCornerModel_52 : LK "TrapCornerModel" 52 [12] 23 := by
  intro ci hci
  have hci := List.mem_singleton.mp hci
  subst hci
  exact ⟨RX12, TX12, 50, "TrapCornerModel", ck_12, by decide, tw_1310, Or.inl rfl⟩
section
variable {g : GG} {p : Program} {l : Launch} {e : Env} {R : Room} {s : State} {m : MethodId} {args : Array Value} {below : List Frame} {meth : Method} {c : Code} {n0 z0 : Nat}
def f_X12_isWhole_2  : Nat → Nat → Int32 → AH → Option (Int32 × AH)
  | 0, _, _, _ => none
  | n + 1, o0, x1, h =>
  (gI [12] h o0 29).bind fun v1 =>
  if v1 ≤ x1 then
    (gI [12] h o0 28).bind fun v4 =>
    if v4 ≤ 1 then
      some (0, h)
    else
      (gI [12] h o0 29).bind fun v7 =>
      if v7 ≤ 0 then
        some (0, h)
      else
        some (1, h)
  else
    (gR [12] h o0 23).bind fun v10 =>
    (aI 0 h v10 ((6 * x1) + 3)).bind fun v12 =>
    (gR [12] h o0 23).bind fun v14 =>
    (aI 0 h v14 ((6 * x1) + 4)).bind fun v16 =>
    (gI [12] h o0 28).bind fun v18 =>
    if v18 ≤ v12 then
      some (0, h)
    else
      (gI [12] h o0 28).bind fun v21 =>
      if v21 ≤ v16 then
        some (0, h)
      else
        if v12 = v16 then
          some (0, h)
        else
          f_X12_isWhole_2  n o0 (x1 + 1) h
set_option maxHeartbeats 1000000 in
theorem w_X12_isWhole_2 (X : Cx g p s m args meth c cX12_isWhole 4 "TrapCornerModel") (hR : 1 ≤ R.frames ∧ 64 ≤ R.locals) (hr : meth.sig.returnType = (some (.boolean))) {res : Int32 × AH} : ∀ (n : Nat) (o0 : Nat) (x1 : Int32) (h : AH) (ls : Array Slot) (H : Heap) (locs : List Loc), f_X12_isWhole_2 n o0 x1 h = some res → Iv g s n0 z0 h H locs 0 0 → lv_has ls 4 [(0, .ref (rfG g o0)), (1, .int x1)] → W p l e R s m args below meth c H locs 0 0 (MQ below (QG g (some (.int res.1)) res.2) args s 0 0 (AG g)) (F0 m 2 ls []) := by
  have hx := X.1
  have hb := X.2.1
  intro n
  induction n with
  | zero =>
    intro o0 x1 h ls H locs hf
    rw [f_X12_isWhole_2.eq_1] at hf
    cases hf
  | succ n ih =>
    intro o0 x1 h ls H locs hf I hl
    rw [f_X12_isWhole_2.eq_2] at hf
    refine lv_iload_n hx hb dX12_isWhole_2 rfl (lv_at hl 1 rfl) ?_
    refine lv_aload_n hx hb dX12_isWhole_3 rfl (lv_at hl 0 rfl) ?_
    obtain ⟨v1, e2, hf⟩ := Option.bind_eq_some_iff.mp hf
    refine r_gI X I e2 lk_TrapCornerModel_248 dX12_isWhole_4 ?_
    refine lv_icmp_ge (tgt := 63) hx hb dX12_isWhole_7 (by decide) (fun c3 => ?_) (fun c3 => ?_)
    · rw [if_pos c3] at hf
      refine lv_aload_n hx hb dX12_isWhole_63 rfl (lv_at hl 0 rfl) ?_
      obtain ⟨v4, e5, hf⟩ := Option.bind_eq_some_iff.mp hf
      refine r_gI X I e5 lk_TrapCornerModel_245 dX12_isWhole_64 ?_
      refine lv_iconst (v := 1) hx hb dX12_isWhole_67 (by decide) ?_
      refine lv_icmp_le (tgt := 82) hx hb dX12_isWhole_68 (by decide) (fun c6 => ?_) (fun c6 => ?_)
      · rw [if_pos c6] at hf
        refine lv_iconst (v := 0) hx hb dX12_isWhole_82 (by decide) ?_
        cases hf
        exact k_rz X I hr (Or.inl rfl) dX12_isWhole_83
      · rw [if_neg c6] at hf
        refine lv_aload_n hx hb dX12_isWhole_71 rfl (lv_at hl 0 rfl) ?_
        obtain ⟨v7, e8, hf⟩ := Option.bind_eq_some_iff.mp hf
        refine r_gI X I e8 lk_TrapCornerModel_248 dX12_isWhole_72 ?_
        refine lv_if_le (tgt := 82) hx hb dX12_isWhole_75 (by decide) (fun c9 => ?_) (fun c9 => ?_)
        · rw [if_pos c9] at hf
          refine lv_iconst (v := 0) hx hb dX12_isWhole_82 (by decide) ?_
          cases hf
          exact k_rz X I hr (Or.inl rfl) dX12_isWhole_83
        · rw [if_neg c9] at hf
          refine lv_iconst (v := 1) hx hb dX12_isWhole_78 (by decide) ?_
          refine lv_goto (tgt := 83) hx hb dX12_isWhole_79 (by decide) ?_
          cases hf
          exact k_rz X I hr (Or.inr rfl) dX12_isWhole_83
    · rw [if_neg c3] at hf
      refine lv_aload_n hx hb dX12_isWhole_10 rfl (lv_at hl 0 rfl) ?_
      obtain ⟨v10, e11, hf⟩ := Option.bind_eq_some_iff.mp hf
      refine r_gR X I e11 lk_TrapCornerModel_52 dX12_isWhole_11 ?_
      refine lv_bipush (v := 6) hx hb dX12_isWhole_14 (by decide) ?_
      refine lv_iload_n hx hb dX12_isWhole_16 rfl (lv_at hl 1 rfl) ?_
      refine lv_imul hx hb dX12_isWhole_17 ?_
      refine lv_iconst (v := 3) hx hb dX12_isWhole_18 (by decide) ?_
      refine lv_iadd hx hb dX12_isWhole_19 ?_
      obtain ⟨v12, e13, hf⟩ := Option.bind_eq_some_iff.mp hf
      refine r_aI0 X I e13 dX12_isWhole_20 ?_
      refine lv_istore_n (lv' := [(2, .int v12), (0, .ref (rfG g o0)), (1, .int x1)]) hx hb dX12_isWhole_21 rfl hl (by decide) rfl (fun ls hl => ?_)
      refine lv_aload_n hx hb dX12_isWhole_22 rfl (lv_at hl 1 rfl) ?_
      obtain ⟨v14, e15, hf⟩ := Option.bind_eq_some_iff.mp hf
      refine r_gR X I e15 lk_TrapCornerModel_52 dX12_isWhole_23 ?_
      refine lv_bipush (v := 6) hx hb dX12_isWhole_26 (by decide) ?_
      refine lv_iload_n hx hb dX12_isWhole_28 rfl (lv_at hl 2 rfl) ?_
      refine lv_imul hx hb dX12_isWhole_29 ?_
      refine lv_iconst (v := 4) hx hb dX12_isWhole_30 (by decide) ?_
      refine lv_iadd hx hb dX12_isWhole_31 ?_
      obtain ⟨v16, e17, hf⟩ := Option.bind_eq_some_iff.mp hf
      refine r_aI0 X I e17 dX12_isWhole_32 ?_
      refine lv_istore_n (lv' := [(3, .int v16), (2, .int v12), (0, .ref (rfG g o0)), (1, .int x1)]) hx hb dX12_isWhole_33 rfl hl (by decide) rfl (fun ls hl => ?_)
      refine lv_iload_n hx hb dX12_isWhole_34 rfl (lv_at hl 1 rfl) ?_
      refine lv_aload_n hx hb dX12_isWhole_35 rfl (lv_at hl 2 rfl) ?_
      obtain ⟨v18, e19, hf⟩ := Option.bind_eq_some_iff.mp hf
      refine r_gI X I e19 lk_TrapCornerModel_245 dX12_isWhole_36 ?_
      refine lv_icmp_ge (tgt := 55) hx hb dX12_isWhole_39 (by decide) (fun c20 => ?_) (fun c20 => ?_)
      · rw [if_pos c20] at hf
        refine lv_iconst (v := 0) hx hb dX12_isWhole_55 (by decide) ?_
        cases hf
        exact k_rz X I hr (Or.inl rfl) dX12_isWhole_56
      · rw [if_neg c20] at hf
        refine lv_iload_n hx hb dX12_isWhole_42 rfl (lv_at hl 0 rfl) ?_
        refine lv_aload_n hx hb dX12_isWhole_43 rfl (lv_at hl 2 rfl) ?_
        obtain ⟨v21, e22, hf⟩ := Option.bind_eq_some_iff.mp hf
        refine r_gI X I e22 lk_TrapCornerModel_245 dX12_isWhole_44 ?_
        refine lv_icmp_ge (tgt := 55) hx hb dX12_isWhole_47 (by decide) (fun c23 => ?_) (fun c23 => ?_)
        · rw [if_pos c23] at hf
          refine lv_iconst (v := 0) hx hb dX12_isWhole_55 (by decide) ?_
          cases hf
          exact k_rz X I hr (Or.inl rfl) dX12_isWhole_56
        · rw [if_neg c23] at hf
          refine lv_iload_n hx hb dX12_isWhole_50 rfl (lv_at hl 1 rfl) ?_
          refine lv_iload_n hx hb dX12_isWhole_51 rfl (lv_at hl 0 rfl) ?_
          refine lv_icmp_ne (tgt := 57) hx hb dX12_isWhole_52 (by decide) (fun c24 => ?_) (fun c24 => ?_)
          · rw [if_neg c24] at hf
            refine lv_iinc (v := x1 + 1) (lv' := [(1, .int (x1 + 1)), (3, .int v16), (2, .int v12), (0, .ref (rfG g o0))]) hx hb dX12_isWhole_57 hl (k := 3) rfl rfl (by decide) rfl (fun ls hl => ?_)
            refine lv_goto (tgt := 2) hx hb dX12_isWhole_60 (by decide) ?_
            exact ih o0 (x1 + 1) h ls H locs hf I (lv_sub hl [3, 0] rfl)
          · rw [if_pos c24] at hf
            refine lv_iconst (v := 0) hx hb dX12_isWhole_55 (by decide) ?_
            cases hf
            exact k_rz X I hr (Or.inl rfl) dX12_isWhole_56
def f_X12_isWhole_0  (o0 : Nat) (h : AH) : Option (Int32 × AH) :=
  f_X12_isWhole_2 fu o0 0 h
set_option maxHeartbeats 1000000 in
theorem w_X12_isWhole_0 (X : Cx g p s m args meth c cX12_isWhole 4 "TrapCornerModel") (hR : 1 ≤ R.frames ∧ 64 ≤ R.locals) (hr : meth.sig.returnType = (some (.boolean))) {res : Int32 × AH} : ∀ (o0 : Nat) (h : AH) (ls : Array Slot) (H : Heap) (locs : List Loc), f_X12_isWhole_0 o0 h = some res → Iv g s n0 z0 h H locs 0 0 → lv_has ls 4 [(0, .ref (rfG g o0))] → W p l e R s m args below meth c H locs 0 0 (MQ below (QG g (some (.int res.1)) res.2) args s 0 0 (AG g)) (F0 m 0 ls []) := by
  have hx := X.1
  have hb := X.2.1
  intro o0 h ls H locs hf I hl
  unfold f_X12_isWhole_0 at hf
  refine lv_iconst (v := 0) hx hb dX12_isWhole_0 (by decide) ?_
  refine lv_istore_n (lv' := [(1, .int 0), (0, .ref (rfG g o0))]) hx hb dX12_isWhole_1 rfl hl (by decide) rfl (fun ls hl => ?_)
  exact w_X12_isWhole_2 X hR hr fu o0 0 h ls H locs hf I (lv_sub hl [1, 0] rfl)
def f_X12_isWhole (o0 : Nat) (h : AH) : Option (Int32 × AH) := f_X12_isWhole_0 o0 h
end
theorem c_X12_isWhole (l : Launch) (g : GG) (o0 : Nat) {h : AH} {res : Int32 × AH} (hf : f_X12_isWhole o0 h = some res) : CM l g yX12_isWhole cX12_isWhole 4 (some (.boolean)) 1 64 0 0 [.ref (rfG g o0)] h (some (.int res.1)) res.2 :=
  k_body (by decide) (Nat.le_of_ble_eq_true rfl) (fun p e s m below meth c R ls hR hr X I hl => w_X12_isWhole_0 X ⟨Nat.le_of_eq hR.1.symm, Nat.le_of_eq hR.2.1.symm⟩ hr o0 h ls s.heap [] hf I (lv_sub hl [0] rfl))
/-! TrapCornerModel.digit()I -/
theorem dX12_digit_0 : decode cX12_digit 0 = .ok (.aload_n 0, 1) := by decide +kernel
theorem dX12_digit_1 : decode cX12_digit 1 = .ok (.invokevirtual 138, 3) := by decide +kernel
theorem dX12_digit_4 : decode cX12_digit 4 = .ok (.istore_n 1, 1) := by decide +kernel
theorem dX12_digit_5 : decode cX12_digit 5 = .ok (.aload_n 0, 1) := by decide +kernel
theorem dX12_digit_6 : decode cX12_digit 6 = .ok (.invokevirtual 168, 3) := by decide +kernel
theorem dX12_digit_9 : decode cX12_digit 9 = .ok (.ifCond .ne 10, 3) := by decide +kernel
theorem dX12_digit_12 : decode cX12_digit 12 = .ok (.aload_n 0, 1) := by decide +kernel
theorem dX12_digit_13 : decode cX12_digit 13 = .ok (.invokevirtual 134, 3) := by decide +kernel
theorem dX12_digit_16 : decode cX12_digit 16 = .ok (.pop, 1) := by decide +kernel
theorem dX12_digit_17 : decode cX12_digit 17 = .ok (.iconst 0, 1) := by decide +kernel
theorem dX12_digit_18 : decode cX12_digit 18 = .ok (.ireturn, 1) := by decide +kernel
theorem dX12_digit_19 : decode cX12_digit 19 = .ok (.aload_n 0, 1) := by decide +kernel
theorem dX12_digit_20 : decode cX12_digit 20 = .ok (.dup, 1) := by decide +kernel
theorem dX12_digit_21 : decode cX12_digit 21 = .ok (.getfield 119, 3) := by decide +kernel
theorem dX12_digit_24 : decode cX12_digit 24 = .ok (.iconst 1, 1) := by decide +kernel
theorem dX12_digit_25 : decode cX12_digit 25 = .ok (.iadd, 1) := by decide +kernel
theorem dX12_digit_26 : decode cX12_digit 26 = .ok (.putfield 119, 3) := by decide +kernel
theorem dX12_digit_29 : decode cX12_digit 29 = .ok (.iload_n 1, 1) := by decide +kernel
theorem dX12_digit_30 : decode cX12_digit 30 = .ok (.bipush 48, 2) := by decide +kernel
theorem dX12_digit_32 : decode cX12_digit 32 = .ok (.isub, 1) := by decide +kernel
theorem dX12_digit_33 : decode cX12_digit 33 = .ok (.ireturn, 1) := by decide +kernel
section
variable {g : GG} {p : Program} {l : Launch} {e : Env} {R : Room} {s : State} {m : MethodId} {args : Array Value} {below : List Frame} {meth : Method} {c : Code} {n0 z0 : Nat}
def f_X12_digit_0  (o0 : Nat) (h : AH) : Option (Int32 × AH) :=
  (isC [12] h o0).bind fun _ =>
  cN (f_X12_look o0 h) h fun v1 h2 =>
  (isC [12] h2 o0).bind fun _ =>
  cN (f_X12_isDigit o0 h2) h2 fun v6 h7 =>
  if v6 = 0 then
    (isC [12] h7 o0).bind fun _ =>
    cN (f_X12_fails o0 h7) h7 fun v16 h17 =>
    some (0, h17)
  else
    (gI [12] h7 o0 10).bind fun v12 =>
    (pV [12] h7 o0 10 (.int (v12 + 1))).bind fun h14 =>
    some (v1 - 48, h14)
set_option maxHeartbeats 1000000 in
theorem w_X12_digit_0 (X : Cx g p s m args meth c cX12_digit 2 "TrapCornerModel") (hR : 2 ≤ R.frames ∧ 128 ≤ R.locals) (hr : meth.sig.returnType = (some (.int))) {res : Int32 × AH} : ∀ (o0 : Nat) (h : AH) (ls : Array Slot) (H : Heap) (locs : List Loc), f_X12_digit_0 o0 h = some res → Iv g s n0 z0 h H locs 0 0 → lv_has ls 2 [(0, .ref (rfG g o0))] → W p l e R s m args below meth c H locs 0 0 (MQ below (QG g (some (.int res.1)) res.2) args s 0 0 (AG g)) (F0 m 0 ls []) := by
  have hx := X.1
  have hb := X.2.1
  intro o0 h ls H locs hf I hl
  unfold f_X12_digit_0 at hf
  refine lv_aload_n hx hb dX12_digit_0 rfl (lv_at hl 0 rfl) ?_
  obtain ⟨_, g5, hf⟩ := Option.bind_eq_some_iff.mp hf
  obtain ⟨v1, h2, e3, z4, hf⟩ := cN_spec hf
  refine k_Vi (As := []) (rest := []) X I (c_X12_look l g o0 e3) z4 g5 vk_TrapCornerModel_138 tw_1484 ⟨Nat.le_trans (by decide) hR.1, Nat.le_trans (by decide) hR.2⟩ ⟨Nat.zero_le _, Nat.zero_le _⟩ rfl hl.1 rfl (Nat.le_of_ble_eq_true rfl) dX12_digit_1 (fun H locs I => ?_)
  refine lv_istore_n (lv' := [(1, .int v1), (0, .ref (rfG g o0))]) hx hb dX12_digit_4 rfl hl (by decide) rfl (fun ls hl => ?_)
  refine lv_aload_n hx hb dX12_digit_5 rfl (lv_at hl 1 rfl) ?_
  obtain ⟨_, g10, hf⟩ := Option.bind_eq_some_iff.mp hf
  obtain ⟨v6, h7, e8, z9, hf⟩ := cN_spec hf
  refine k_Vi (As := []) (rest := []) X I (c_X12_isDigit l g o0 e8) z9 g10 vk_TrapCornerModel_168 tw_1534 ⟨Nat.le_trans (by decide) hR.1, Nat.le_trans (by decide) hR.2⟩ ⟨Nat.zero_le _, Nat.zero_le _⟩ rfl hl.1 rfl (Nat.le_of_ble_eq_true rfl) dX12_digit_6 (fun H locs I => ?_)
  refine lv_if_ne (tgt := 19) hx hb dX12_digit_9 (by decide) (fun c11 => ?_) (fun c11 => ?_)
  · rw [if_neg c11] at hf
    refine lv_aload_n hx hb dX12_digit_19 rfl (lv_at hl 1 rfl) ?_
    refine lv_dup hx hb dX12_digit_20 rfl ?_
    obtain ⟨v12, e13, hf⟩ := Option.bind_eq_some_iff.mp hf
    refine r_gI X I e13 lk_TrapCornerModel_119 dX12_digit_21 ?_
    refine lv_iconst (v := 1) hx hb dX12_digit_24 (by decide) ?_
    refine lv_iadd hx hb dX12_digit_25 ?_
    obtain ⟨h14, e15, hf⟩ := Option.bind_eq_some_iff.mp hf
    refine r_pI X I e15 lp_TrapCornerModel_119 dX12_digit_26 (fun H locs I => ?_)
    refine lv_iload_n hx hb dX12_digit_29 rfl (lv_at hl 0 rfl) ?_
    refine lv_bipush (v := 48) hx hb dX12_digit_30 (by decide) ?_
    refine lv_isub hx hb dX12_digit_32 ?_
    cases hf
    exact k_ri X I hr dX12_digit_33
  · rw [if_pos c11] at hf
    refine lv_aload_n hx hb dX12_digit_12 rfl (lv_at hl 1 rfl) ?_
    obtain ⟨_, g20, hf⟩ := Option.bind_eq_some_iff.mp hf
    obtain ⟨v16, h17, e18, z19, hf⟩ := cN_spec hf
    refine k_Vi (As := []) (rest := []) X I (c_X12_fails l g o0 e18) z19 g20 vk_TrapCornerModel_134 tw_1488 ⟨Nat.le_trans (by decide) hR.1, Nat.le_trans (by decide) hR.2⟩ ⟨Nat.zero_le _, Nat.zero_le _⟩ rfl hl.1 rfl (Nat.le_of_ble_eq_true rfl) dX12_digit_13 (fun H locs I => ?_)
    refine lv_pop hx hb dX12_digit_16 rfl ?_
    refine lv_iconst (v := 0) hx hb dX12_digit_17 (by decide) ?_
    cases hf
    exact k_ri X I hr dX12_digit_18
def f_X12_digit (o0 : Nat) (h : AH) : Option (Int32 × AH) := f_X12_digit_0 o0 h
end
theorem c_X12_digit (l : Launch) (g : GG) (o0 : Nat) {h : AH} {res : Int32 × AH} (hf : f_X12_digit o0 h = some res) : CM l g yX12_digit cX12_digit 2 (some (.int)) 2 128 0 0 [.ref (rfG g o0)] h (some (.int res.1)) res.2 :=
  k_body (by decide) (Nat.le_of_ble_eq_true rfl) (fun p e s m below meth c R ls hR hr X I hl => w_X12_digit_0 X ⟨Nat.le_of_eq hR.1.symm, Nat.le_of_eq hR.2.1.symm⟩ hr o0 h ls s.heap [] hf I (lv_sub hl [0] rfl))
/-! TrapCornerModel.copy([I[I)V -/
theorem dX12_copy_0 : decode cX12_copy 0 = .ok (.iconst 0, 1) := by decide +kernel
theorem dX12_copy_1 : decode cX12_copy 1 = .ok (.istore_n 2, 1) := by decide +kernel
theorem dX12_copy_2 : decode cX12_copy 2 = .ok (.iload_n 2, 1) := by decide +kernel
theorem dX12_copy_3 : decode cX12_copy 3 = .ok (.bipush 31, 2) := by decide +kernel
theorem dX12_copy_5 : decode cX12_copy 5 = .ok (.if_icmp .ge 15, 3) := by decide +kernel
theorem dX12_copy_8 : decode cX12_copy 8 = .ok (.aload_n 1, 1) := by decide +kernel
theorem dX12_copy_9 : decode cX12_copy 9 = .ok (.iload_n 2, 1) := by decide +kernel
theorem dX12_copy_10 : decode cX12_copy 10 = .ok (.aload_n 0, 1) := by decide +kernel
theorem dX12_copy_11 : decode cX12_copy 11 = .ok (.iload_n 2, 1) := by decide +kernel
theorem dX12_copy_12 : decode cX12_copy 12 = .ok (.iaload, 1) := by decide +kernel
theorem dX12_copy_13 : decode cX12_copy 13 = .ok (.iastore, 1) := by decide +kernel
theorem dX12_copy_14 : decode cX12_copy 14 = .ok (.iinc 2 1, 3) := by decide +kernel
theorem dX12_copy_17 : decode cX12_copy 17 = .ok (.goto (-15), 3) := by decide +kernel
theorem dX12_copy_20 : decode cX12_copy 20 = .ok (.aload_n 1, 1) := by decide +kernel
theorem dX12_copy_21 : decode cX12_copy 21 = .ok (.bipush 31, 2) := by decide +kernel
theorem dX12_copy_23 : decode cX12_copy 23 = .ok (.iconst 0, 1) := by decide +kernel
theorem dX12_copy_24 : decode cX12_copy 24 = .ok (.iastore, 1) := by decide +kernel
theorem dX12_copy_25 : decode cX12_copy 25 = .ok (.return_, 1) := by decide +kernel
section
variable {g : GG} {p : Program} {l : Launch} {e : Env} {R : Room} {s : State} {m : MethodId} {args : Array Value} {below : List Frame} {meth : Method} {c : Code} {n0 z0 : Nat}
def f_X12_copy_2  : Nat → Nat → Nat → Int32 → AH → Option (Unit × AH)
  | 0, _, _, _, _ => none
  | n + 1, o0, o1, x2, h =>
  if 31 ≤ x2 then
    (uI 0 h o1 31 0).bind fun h2 =>
    some ((), h2)
  else
    (aI 0 h o0 x2).bind fun v4 =>
    (uI 0 h o1 x2 v4).bind fun h6 =>
    f_X12_copy_2  n o0 o1 (x2 + 1) h6
set_option maxHeartbeats 1000000 in
theorem w_X12_copy_2 (X : Cx g p s m args meth c cX12_copy 3 "TrapCornerModel") (hR : 1 ≤ R.frames ∧ 64 ≤ R.locals) (hr : meth.sig.returnType = none) {res : Unit × AH} : ∀ (n : Nat) (o0 : Nat) (o1 : Nat) (x2 : Int32) (h : AH) (ls : Array Slot) (H : Heap) (locs : List Loc), f_X12_copy_2 n o0 o1 x2 h = some res → Iv g s n0 z0 h H locs 0 0 → lv_has ls 3 [(0, .ref (rfG g o0)), (1, .ref (rfG g o1)), (2, .int x2)] → W p l e R s m args below meth c H locs 0 0 (MQ below (QG g none res.2) args s 0 0 (AG g)) (F0 m 2 ls []) := by
  have hx := X.1
  have hb := X.2.1
  intro n
  induction n with
  | zero =>
    intro o0 o1 x2 h ls H locs hf
    rw [f_X12_copy_2.eq_1] at hf
    cases hf
  | succ n ih =>
    intro o0 o1 x2 h ls H locs hf I hl
    rw [f_X12_copy_2.eq_2] at hf
    refine lv_iload_n hx hb dX12_copy_2 rfl (lv_at hl 2 rfl) ?_
    refine lv_bipush (v := 31) hx hb dX12_copy_3 (by decide) ?_
    refine lv_icmp_ge (tgt := 20) hx hb dX12_copy_5 (by decide) (fun c1 => ?_) (fun c1 => ?_)
    · rw [if_pos c1] at hf
      refine lv_aload_n hx hb dX12_copy_20 rfl (lv_at hl 1 rfl) ?_
      refine lv_bipush (v := 31) hx hb dX12_copy_21 (by decide) ?_
      refine lv_iconst (v := 0) hx hb dX12_copy_23 (by decide) ?_
      obtain ⟨h2, e3, hf⟩ := Option.bind_eq_some_iff.mp hf
      refine r_uI0 X I e3 dX12_copy_24 (fun H locs I => ?_)
      cases hf
      exact k_rv X I hr dX12_copy_25
    · rw [if_neg c1] at hf
      refine lv_aload_n hx hb dX12_copy_8 rfl (lv_at hl 1 rfl) ?_
      refine lv_iload_n hx hb dX12_copy_9 rfl (lv_at hl 2 rfl) ?_
      refine lv_aload_n hx hb dX12_copy_10 rfl (lv_at hl 0 rfl) ?_
      refine lv_iload_n hx hb dX12_copy_11 rfl (lv_at hl 2 rfl) ?_
      obtain ⟨v4, e5, hf⟩ := Option.bind_eq_some_iff.mp hf
      refine r_aI0 X I e5 dX12_copy_12 ?_
      obtain ⟨h6, e7, hf⟩ := Option.bind_eq_some_iff.mp hf
      refine r_uI0 X I e7 dX12_copy_13 (fun H locs I => ?_)
      refine lv_iinc (v := x2 + 1) (lv' := [(2, .int (x2 + 1)), (0, .ref (rfG g o0)), (1, .ref (rfG g o1))]) hx hb dX12_copy_14 hl (k := 2) rfl rfl (by decide) rfl (fun ls hl => ?_)
      refine lv_goto (tgt := 2) hx hb dX12_copy_17 (by decide) ?_
      exact ih o0 o1 (x2 + 1) h6 ls H locs hf I (lv_sub hl [1, 2, 0] rfl)
def f_X12_copy_0  (o0 : Nat) (o1 : Nat) (h : AH) : Option (Unit × AH) :=
  f_X12_copy_2 fu o0 o1 0 h
set_option maxHeartbeats 1000000 in
theorem w_X12_copy_0 (X : Cx g p s m args meth c cX12_copy 3 "TrapCornerModel") (hR : 1 ≤ R.frames ∧ 64 ≤ R.locals) (hr : meth.sig.returnType = none) {res : Unit × AH} : ∀ (o0 : Nat) (o1 : Nat) (h : AH) (ls : Array Slot) (H : Heap) (locs : List Loc), f_X12_copy_0 o0 o1 h = some res → Iv g s n0 z0 h H locs 0 0 → lv_has ls 3 [(0, .ref (rfG g o0)), (1, .ref (rfG g o1))] → W p l e R s m args below meth c H locs 0 0 (MQ below (QG g none res.2) args s 0 0 (AG g)) (F0 m 0 ls []) := by
  have hx := X.1
  have hb := X.2.1
  intro o0 o1 h ls H locs hf I hl
  unfold f_X12_copy_0 at hf
  refine lv_iconst (v := 0) hx hb dX12_copy_0 (by decide) ?_
  refine lv_istore_n (lv' := [(2, .int 0), (0, .ref (rfG g o0)), (1, .ref (rfG g o1))]) hx hb dX12_copy_1 rfl hl (by decide) rfl (fun ls hl => ?_)
  exact w_X12_copy_2 X hR hr fu o0 o1 0 h ls H locs hf I (lv_sub hl [1, 2, 0] rfl)
def f_X12_copy (o0 : Nat) (o1 : Nat) (h : AH) : Option (Unit × AH) := f_X12_copy_0 o0 o1 h
end
theorem c_X12_copy (l : Launch) (g : GG) (o0 : Nat) (o1 : Nat) {h : AH} {res : Unit × AH} (hf : f_X12_copy o0 o1 h = some res) : CM l g yX12_copy cX12_copy 3 none 1 64 0 0 [.ref (rfG g o0), .ref (rfG g o1)] h none res.2 :=
  k_body (by decide) (Nat.le_of_ble_eq_true rfl) (fun p e s m below meth c R ls hR hr X I hl => w_X12_copy_0 X ⟨Nat.le_of_eq hR.1.symm, Nat.le_of_eq hR.2.1.symm⟩ hr o0 o1 h ls s.heap [] hf I (lv_sub hl [0, 1] rfl))
/-! TrapCornerModel.isCorner(I)Z -/
theorem dX12_isCorner_0 : decode cX12_isCorner 0 = .ok (.iload_n 1, 1) := by decide +kernel
theorem dX12_isCorner_1 : decode cX12_isCorner 1 = .ok (.ifCond .lt 15, 3) := by decide +kernel
theorem dX12_isCorner_4 : decode cX12_isCorner 4 = .ok (.iload_n 1, 1) := by decide +kernel
theorem dX12_isCorner_5 : decode cX12_isCorner 5 = .ok (.aload_n 0, 1) := by decide +kernel
theorem dX12_isCorner_6 : decode cX12_isCorner 6 = .ok (.getfield 294, 3) := by decide +kernel
theorem dX12_isCorner_9 : decode cX12_isCorner 9 = .ok (.if_icmp .ge 7, 3) := by decide +kernel
theorem dX12_isCorner_12 : decode cX12_isCorner 12 = .ok (.iconst 1, 1) := by decide +kernel
theorem dX12_isCorner_13 : decode cX12_isCorner 13 = .ok (.goto 4, 3) := by decide +kernel
theorem dX12_isCorner_16 : decode cX12_isCorner 16 = .ok (.iconst 0, 1) := by decide +kernel
theorem dX12_isCorner_17 : decode cX12_isCorner 17 = .ok (.ireturn, 1) := by decide +kernel
theorem lk_TrapCornerModel_294 : LK "TrapCornerModel" 294 [12] 26 := by
  intro ci hci
  have hci := List.mem_singleton.mp hci
  subst hci
  exact ⟨RX12, TX12, 50, "TrapCornerModel", ck_12, by decide, tw_1313, Or.inl rfl⟩
section
variable {g : GG} {p : Program} {l : Launch} {e : Env} {R : Room} {s : State} {m : MethodId} {args : Array Value} {below : List Frame} {meth : Method} {c : Code} {n0 z0 : Nat}
def f_X12_isCorner_0  (o0 : Nat) (x1 : Int32) (h : AH) : Option (Int32 × AH) :=
  if x1 < 0 then
    some (0, h)
  else
    (gI [12] h o0 26).bind fun v2 =>
    if v2 ≤ x1 then
      some (0, h)
    else
      some (1, h)
set_option maxHeartbeats 1000000 in
theorem w_X12_isCorner_0 (X : Cx g p s m args meth c cX12_isCorner 2 "TrapCornerModel") (hR : 1 ≤ R.frames ∧ 64 ≤ R.locals) (hr : meth.sig.returnType = (some (.boolean))) {res : Int32 × AH} : ∀ (o0 : Nat) (x1 : Int32) (h : AH) (ls : Array Slot) (H : Heap) (locs : List Loc), f_X12_isCorner_0 o0 x1 h = some res → Iv g s n0 z0 h H locs 0 0 → lv_has ls 2 [(0, .ref (rfG g o0)), (1, .int x1)] → W p l e R s m args below meth c H locs 0 0 (MQ below (QG g (some (.int res.1)) res.2) args s 0 0 (AG g)) (F0 m 0 ls []) := by
  have hx := X.1
  have hb := X.2.1
  intro o0 x1 h ls H locs hf I hl
  unfold f_X12_isCorner_0 at hf
  refine lv_iload_n hx hb dX12_isCorner_0 rfl (lv_at hl 1 rfl) ?_
  refine lv_if_lt (tgt := 16) hx hb dX12_isCorner_1 (by decide) (fun c1 => ?_) (fun c1 => ?_)
  · rw [if_pos c1] at hf
    refine lv_iconst (v := 0) hx hb dX12_isCorner_16 (by decide) ?_
    cases hf
    exact k_rz X I hr (Or.inl rfl) dX12_isCorner_17
  · rw [if_neg c1] at hf
    refine lv_iload_n hx hb dX12_isCorner_4 rfl (lv_at hl 1 rfl) ?_
    refine lv_aload_n hx hb dX12_isCorner_5 rfl (lv_at hl 0 rfl) ?_
    obtain ⟨v2, e3, hf⟩ := Option.bind_eq_some_iff.mp hf
    refine r_gI X I e3 lk_TrapCornerModel_294 dX12_isCorner_6 ?_
    refine lv_icmp_ge (tgt := 16) hx hb dX12_isCorner_9 (by decide) (fun c4 => ?_) (fun c4 => ?_)
    · rw [if_pos c4] at hf
      refine lv_iconst (v := 0) hx hb dX12_isCorner_16 (by decide) ?_
      cases hf
      exact k_rz X I hr (Or.inl rfl) dX12_isCorner_17
    · rw [if_neg c4] at hf
      refine lv_iconst (v := 1) hx hb dX12_isCorner_12 (by decide) ?_
      refine lv_goto (tgt := 17) hx hb dX12_isCorner_13 (by decide) ?_
      cases hf
      exact k_rz X I hr (Or.inr rfl) dX12_isCorner_17
def f_X12_isCorner (o0 : Nat) (x1 : Int32) (h : AH) : Option (Int32 × AH) := f_X12_isCorner_0 o0 x1 h
end
theorem c_X12_isCorner (l : Launch) (g : GG) (o0 : Nat) (x1 : Int32) {h : AH} {res : Int32 × AH} (hf : f_X12_isCorner o0 x1 h = some res) : CM l g yX12_isCorner cX12_isCorner 2 (some (.boolean)) 1 64 0 0 [.ref (rfG g o0), .int x1] h (some (.int res.1)) res.2 :=
  k_body (by decide) (Nat.le_of_ble_eq_true rfl) (fun p e s m below meth c R ls hR hr X I hl => w_X12_isCorner_0 X ⟨Nat.le_of_eq hR.1.symm, Nat.le_of_eq hR.2.1.symm⟩ hr o0 x1 h ls s.heap [] hf I (lv_sub hl [0, 1] rfl))
/-! TrapCornerModel.isPerson(I)Z -/
theorem dX12_isPerson_0 : decode cX12_isPerson 0 = .ok (.iload_n 1, 1) := by decide +kernel
theorem dX12_isPerson_1 : decode cX12_isPerson 1 = .ok (.ifCond .lt 15, 3) := by decide +kernel
theorem dX12_isPerson_4 : decode cX12_isPerson 4 = .ok (.iload_n 1, 1) := by decide +kernel
theorem dX12_isPerson_5 : decode cX12_isPerson 5 = .ok (.aload_n 0, 1) := by decide +kernel
theorem dX12_isPerson_6 : decode cX12_isPerson 6 = .ok (.getfield 297, 3) := by decide +kernel
theorem dX12_isPerson_9 : decode cX12_isPerson 9 = .ok (.if_icmp .ge 7, 3) := by decide +kernel
theorem dX12_isPerson_12 : decode cX12_isPerson 12 = .ok (.iconst 1, 1) := by decide +kernel
theorem dX12_isPerson_13 : decode cX12_isPerson 13 = .ok (.goto 4, 3) := by decide +kernel
theorem dX12_isPerson_16 : decode cX12_isPerson 16 = .ok (.iconst 0, 1) := by decide +kernel
theorem dX12_isPerson_17 : decode cX12_isPerson 17 = .ok (.ireturn, 1) := by decide +kernel
theorem lk_TrapCornerModel_297 : LK "TrapCornerModel" 297 [12] 27 := by
  intro ci hci
  have hci := List.mem_singleton.mp hci
  subst hci
  exact ⟨RX12, TX12, 50, "TrapCornerModel", ck_12, by decide, tw_1314, Or.inl rfl⟩
section
variable {g : GG} {p : Program} {l : Launch} {e : Env} {R : Room} {s : State} {m : MethodId} {args : Array Value} {below : List Frame} {meth : Method} {c : Code} {n0 z0 : Nat}
def f_X12_isPerson_0  (o0 : Nat) (x1 : Int32) (h : AH) : Option (Int32 × AH) :=
  if x1 < 0 then
    some (0, h)
  else
    (gI [12] h o0 27).bind fun v2 =>
    if v2 ≤ x1 then
      some (0, h)
    else
      some (1, h)
set_option maxHeartbeats 1000000 in
theorem w_X12_isPerson_0 (X : Cx g p s m args meth c cX12_isPerson 2 "TrapCornerModel") (hR : 1 ≤ R.frames ∧ 64 ≤ R.locals) (hr : meth.sig.returnType = (some (.boolean))) {res : Int32 × AH} : ∀ (o0 : Nat) (x1 : Int32) (h : AH) (ls : Array Slot) (H : Heap) (locs : List Loc), f_X12_isPerson_0 o0 x1 h = some res → Iv g s n0 z0 h H locs 0 0 → lv_has ls 2 [(0, .ref (rfG g o0)), (1, .int x1)] → W p l e R s m args below meth c H locs 0 0 (MQ below (QG g (some (.int res.1)) res.2) args s 0 0 (AG g)) (F0 m 0 ls []) := by
  have hx := X.1
  have hb := X.2.1
  intro o0 x1 h ls H locs hf I hl
  unfold f_X12_isPerson_0 at hf
  refine lv_iload_n hx hb dX12_isPerson_0 rfl (lv_at hl 1 rfl) ?_
  refine lv_if_lt (tgt := 16) hx hb dX12_isPerson_1 (by decide) (fun c1 => ?_) (fun c1 => ?_)
  · rw [if_pos c1] at hf
    refine lv_iconst (v := 0) hx hb dX12_isPerson_16 (by decide) ?_
    cases hf
    exact k_rz X I hr (Or.inl rfl) dX12_isPerson_17
  · rw [if_neg c1] at hf
    refine lv_iload_n hx hb dX12_isPerson_4 rfl (lv_at hl 1 rfl) ?_
    refine lv_aload_n hx hb dX12_isPerson_5 rfl (lv_at hl 0 rfl) ?_
    obtain ⟨v2, e3, hf⟩ := Option.bind_eq_some_iff.mp hf
    refine r_gI X I e3 lk_TrapCornerModel_297 dX12_isPerson_6 ?_
    refine lv_icmp_ge (tgt := 16) hx hb dX12_isPerson_9 (by decide) (fun c4 => ?_) (fun c4 => ?_)
    · rw [if_pos c4] at hf
      refine lv_iconst (v := 0) hx hb dX12_isPerson_16 (by decide) ?_
      cases hf
      exact k_rz X I hr (Or.inl rfl) dX12_isPerson_17
    · rw [if_neg c4] at hf
      refine lv_iconst (v := 1) hx hb dX12_isPerson_12 (by decide) ?_
      refine lv_goto (tgt := 17) hx hb dX12_isPerson_13 (by decide) ?_
      cases hf
      exact k_rz X I hr (Or.inr rfl) dX12_isPerson_17
def f_X12_isPerson (o0 : Nat) (x1 : Int32) (h : AH) : Option (Int32 × AH) := f_X12_isPerson_0 o0 x1 h
end
theorem c_X12_isPerson (l : Launch) (g : GG) (o0 : Nat) (x1 : Int32) {h : AH} {res : Int32 × AH} (hf : f_X12_isPerson o0 x1 h = some res) : CM l g yX12_isPerson cX12_isPerson 2 (some (.boolean)) 1 64 0 0 [.ref (rfG g o0), .int x1] h (some (.int res.1)) res.2 :=
  k_body (by decide) (Nat.le_of_ble_eq_true rfl) (fun p e s m below meth c R ls hR hr X I hl => w_X12_isPerson_0 X ⟨Nat.le_of_eq hR.1.symm, Nat.le_of_eq hR.2.1.symm⟩ hr o0 x1 h ls s.heap [] hf I (lv_sub hl [0, 1] rfl))
/-! TrapCornerModel.of(II)I -/
theorem dX12_of_0 : decode cX12_of 0 = .ok (.aload_n 0, 1) := by decide +kernel
theorem dX12_of_1 : decode cX12_of 1 = .ok (.getfield 49, 3) := by decide +kernel
theorem dX12_of_4 : decode cX12_of 4 = .ok (.bipush 6, 2) := by decide +kernel
theorem dX12_of_6 : decode cX12_of 6 = .ok (.iload_n 1, 1) := by decide +kernel
theorem dX12_of_7 : decode cX12_of 7 = .ok (.imul, 1) := by decide +kernel
theorem dX12_of_8 : decode cX12_of 8 = .ok (.iload_n 2, 1) := by decide +kernel
theorem dX12_of_9 : decode cX12_of 9 = .ok (.iadd, 1) := by decide +kernel
theorem dX12_of_10 : decode cX12_of 10 = .ok (.iaload, 1) := by decide +kernel
theorem dX12_of_11 : decode cX12_of 11 = .ok (.ireturn, 1) := by decide +kernel
theorem lk_TrapCornerModel_49 : LK "TrapCornerModel" 49 [12] 22 := by
  intro ci hci
  have hci := List.mem_singleton.mp hci
  subst hci
  exact ⟨RX12, TX12, 50, "TrapCornerModel", ck_12, by decide, tw_1309, Or.inl rfl⟩
section
variable {g : GG} {p : Program} {l : Launch} {e : Env} {R : Room} {s : State} {m : MethodId} {args : Array Value} {below : List Frame} {meth : Method} {c : Code} {n0 z0 : Nat}
def f_X12_of_0  (o0 : Nat) (x1 : Int32) (x2 : Int32) (h : AH) : Option (Int32 × AH) :=
  (gR [12] h o0 22).bind fun v1 =>
  (aI 0 h v1 ((6 * x1) + x2)).bind fun v3 =>
  some (v3, h)
set_option maxHeartbeats 1000000 in
theorem w_X12_of_0 (X : Cx g p s m args meth c cX12_of 3 "TrapCornerModel") (hR : 1 ≤ R.frames ∧ 64 ≤ R.locals) (hr : meth.sig.returnType = (some (.int))) {res : Int32 × AH} : ∀ (o0 : Nat) (x1 : Int32) (x2 : Int32) (h : AH) (ls : Array Slot) (H : Heap) (locs : List Loc), f_X12_of_0 o0 x1 x2 h = some res → Iv g s n0 z0 h H locs 0 0 → lv_has ls 3 [(0, .ref (rfG g o0)), (1, .int x1), (2, .int x2)] → W p l e R s m args below meth c H locs 0 0 (MQ below (QG g (some (.int res.1)) res.2) args s 0 0 (AG g)) (F0 m 0 ls []) := by
  have hx := X.1
  have hb := X.2.1
  intro o0 x1 x2 h ls H locs hf I hl
  unfold f_X12_of_0 at hf
  refine lv_aload_n hx hb dX12_of_0 rfl (lv_at hl 0 rfl) ?_
  obtain ⟨v1, e2, hf⟩ := Option.bind_eq_some_iff.mp hf
  refine r_gR X I e2 lk_TrapCornerModel_49 dX12_of_1 ?_
  refine lv_bipush (v := 6) hx hb dX12_of_4 (by decide) ?_
  refine lv_iload_n hx hb dX12_of_6 rfl (lv_at hl 1 rfl) ?_
  refine lv_imul hx hb dX12_of_7 ?_
  refine lv_iload_n hx hb dX12_of_8 rfl (lv_at hl 2 rfl) ?_
  refine lv_iadd hx hb dX12_of_9 ?_
  obtain ⟨v3, e4, hf⟩ := Option.bind_eq_some_iff.mp hf
  refine r_aI0 X I e4 dX12_of_10 ?_
  cases hf
  exact k_ri X I hr dX12_of_11
def f_X12_of (o0 : Nat) (x1 : Int32) (x2 : Int32) (h : AH) : Option (Int32 × AH) := f_X12_of_0 o0 x1 x2 h
end
theorem c_X12_of (l : Launch) (g : GG) (o0 : Nat) (x1 : Int32) (x2 : Int32) {h : AH} {res : Int32 × AH} (hf : f_X12_of o0 x1 x2 h = some res) : CM l g yX12_of cX12_of 3 (some (.int)) 1 64 0 0 [.ref (rfG g o0), .int x1, .int x2] h (some (.int res.1)) res.2 :=
  k_body (by decide) (Nat.le_of_ble_eq_true rfl) (fun p e s m below meth c R ls hR hr X I hl => w_X12_of_0 X ⟨Nat.le_of_eq hR.1.symm, Nat.le_of_eq hR.2.1.symm⟩ hr o0 x1 x2 h ls s.heap [] hf I (lv_sub hl [0, 1, 2] rfl))
/-! TrapCornerModel.folk([III)I -/
theorem dX12_folk_0 : decode cX12_folk 0 = .ok (.aload_n 0, 1) := by decide +kernel
theorem dX12_folk_1 : decode cX12_folk 1 = .ok (.bipush 10, 2) := by decide +kernel
theorem dX12_folk_3 : decode cX12_folk 3 = .ok (.iconst 3, 1) := by decide +kernel
theorem dX12_folk_4 : decode cX12_folk 4 = .ok (.iload_n 1, 1) := by decide +kernel
theorem dX12_folk_5 : decode cX12_folk 5 = .ok (.imul, 1) := by decide +kernel
theorem dX12_folk_6 : decode cX12_folk 6 = .ok (.iadd, 1) := by decide +kernel
theorem dX12_folk_7 : decode cX12_folk 7 = .ok (.iload_n 2, 1) := by decide +kernel
theorem dX12_folk_8 : decode cX12_folk 8 = .ok (.iadd, 1) := by decide +kernel
theorem dX12_folk_9 : decode cX12_folk 9 = .ok (.iaload, 1) := by decide +kernel
theorem dX12_folk_10 : decode cX12_folk 10 = .ok (.ireturn, 1) := by decide +kernel
section
variable {g : GG} {p : Program} {l : Launch} {e : Env} {R : Room} {s : State} {m : MethodId} {args : Array Value} {below : List Frame} {meth : Method} {c : Code} {n0 z0 : Nat}
def f_X12_folk_0  (o0 : Nat) (x1 : Int32) (x2 : Int32) (h : AH) : Option (Int32 × AH) :=
  (aI 0 h o0 ((10 + (3 * x1)) + x2)).bind fun v1 =>
  some (v1, h)
set_option maxHeartbeats 1000000 in
theorem w_X12_folk_0 (X : Cx g p s m args meth c cX12_folk 3 "TrapCornerModel") (hR : 1 ≤ R.frames ∧ 64 ≤ R.locals) (hr : meth.sig.returnType = (some (.int))) {res : Int32 × AH} : ∀ (o0 : Nat) (x1 : Int32) (x2 : Int32) (h : AH) (ls : Array Slot) (H : Heap) (locs : List Loc), f_X12_folk_0 o0 x1 x2 h = some res → Iv g s n0 z0 h H locs 0 0 → lv_has ls 3 [(0, .ref (rfG g o0)), (1, .int x1), (2, .int x2)] → W p l e R s m args below meth c H locs 0 0 (MQ below (QG g (some (.int res.1)) res.2) args s 0 0 (AG g)) (F0 m 0 ls []) := by
  have hx := X.1
  have hb := X.2.1
  intro o0 x1 x2 h ls H locs hf I hl
  unfold f_X12_folk_0 at hf
  refine lv_aload_n hx hb dX12_folk_0 rfl (lv_at hl 0 rfl) ?_
  refine lv_bipush (v := 10) hx hb dX12_folk_1 (by decide) ?_
  refine lv_iconst (v := 3) hx hb dX12_folk_3 (by decide) ?_
  refine lv_iload_n hx hb dX12_folk_4 rfl (lv_at hl 1 rfl) ?_
  refine lv_imul hx hb dX12_folk_5 ?_
  refine lv_iadd hx hb dX12_folk_6 ?_
  refine lv_iload_n hx hb dX12_folk_7 rfl (lv_at hl 2 rfl) ?_
  refine lv_iadd hx hb dX12_folk_8 ?_
  obtain ⟨v1, e2, hf⟩ := Option.bind_eq_some_iff.mp hf
  refine r_aI0 X I e2 dX12_folk_9 ?_
  cases hf
  exact k_ri X I hr dX12_folk_10
def f_X12_folk (o0 : Nat) (x1 : Int32) (x2 : Int32) (h : AH) : Option (Int32 × AH) := f_X12_folk_0 o0 x1 x2 h
end
theorem c_X12_folk (l : Launch) (g : GG) (o0 : Nat) (x1 : Int32) (x2 : Int32) {h : AH} {res : Int32 × AH} (hf : f_X12_folk o0 x1 x2 h = some res) : CM l g yX12_folk cX12_folk 3 (some (.int)) 1 64 0 0 [.ref (rfG g o0), .int x1, .int x2] h (some (.int res.1)) res.2 :=
  k_body (by decide) (Nat.le_of_ble_eq_true rfl) (fun p e s m below meth c R ls hR hr X I hl => w_X12_folk_0 X ⟨Nat.le_of_eq hR.1.symm, Nat.le_of_eq hR.2.1.symm⟩ hr o0 x1 x2 h ls s.heap [] hf I (lv_sub hl [0, 1, 2] rfl))
/-! TrapCornerModel.isOld([II)Z -/
theorem dX12_isOld_0 : decode cX12_isOld 0 = .ok (.aload_n 1, 1) := by decide +kernel
theorem dX12_isOld_1 : decode cX12_isOld 1 = .ok (.iload_n 2, 1) := by decide +kernel
theorem dX12_isOld_2 : decode cX12_isOld 2 = .ok (.iconst 1, 1) := by decide +kernel
theorem dX12_isOld_3 : decode cX12_isOld 3 = .ok (.invokestatic 328, 3) := by decide +kernel
theorem dX12_isOld_6 : decode cX12_isOld 6 = .ok (.aload_n 0, 1) := by decide +kernel
theorem dX12_isOld_7 : decode cX12_isOld 7 = .ok (.getfield 37, 3) := by decide +kernel
theorem dX12_isOld_10 : decode cX12_isOld 10 = .ok (.iconst 2, 1) := by decide +kernel
theorem dX12_isOld_11 : decode cX12_isOld 11 = .ok (.iaload, 1) := by decide +kernel
theorem dX12_isOld_12 : decode cX12_isOld 12 = .ok (.if_icmp .lt 7, 3) := by decide +kernel
theorem dX12_isOld_15 : decode cX12_isOld 15 = .ok (.iconst 1, 1) := by decide +kernel
theorem dX12_isOld_16 : decode cX12_isOld 16 = .ok (.goto 4, 3) := by decide +kernel
theorem dX12_isOld_19 : decode cX12_isOld 19 = .ok (.iconst 0, 1) := by decide +kernel
theorem dX12_isOld_20 : decode cX12_isOld 20 = .ok (.ireturn, 1) := by decide +kernel
theorem sk_TrapCornerModel_328 : SK "TrapCornerModel" 328 yX12_folk 3 := ⟨tw_1645, tw_1646, tw_13, ⟨by decide, by decide⟩, by decide +kernel⟩
theorem lk_TrapCornerModel_37 : LK "TrapCornerModel" 37 [12] 18 := by
  intro ci hci
  have hci := List.mem_singleton.mp hci
  subst hci
  exact ⟨RX12, TX12, 50, "TrapCornerModel", ck_12, by decide, tw_1305, Or.inl rfl⟩
section
variable {g : GG} {p : Program} {l : Launch} {e : Env} {R : Room} {s : State} {m : MethodId} {args : Array Value} {below : List Frame} {meth : Method} {c : Code} {n0 z0 : Nat}
def f_X12_isOld_0  (o0 : Nat) (o1 : Nat) (x2 : Int32) (h : AH) : Option (Int32 × AH) :=
  cN (f_X12_folk o1 x2 1 h) h fun v1 h2 =>
  (gR [12] h2 o0 18).bind fun v5 =>
  (aI 0 h2 v5 2).bind fun v7 =>
  if v1 < v7 then
    some (0, h2)
  else
    some (1, h2)
set_option maxHeartbeats 1000000 in
theorem w_X12_isOld_0 (X : Cx g p s m args meth c cX12_isOld 3 "TrapCornerModel") (hR : 2 ≤ R.frames ∧ 128 ≤ R.locals) (hr : meth.sig.returnType = (some (.boolean))) {res : Int32 × AH} : ∀ (o0 : Nat) (o1 : Nat) (x2 : Int32) (h : AH) (ls : Array Slot) (H : Heap) (locs : List Loc), f_X12_isOld_0 o0 o1 x2 h = some res → Iv g s n0 z0 h H locs 0 0 → lv_has ls 3 [(0, .ref (rfG g o0)), (1, .ref (rfG g o1)), (2, .int x2)] → W p l e R s m args below meth c H locs 0 0 (MQ below (QG g (some (.int res.1)) res.2) args s 0 0 (AG g)) (F0 m 0 ls []) := by
  have hx := X.1
  have hb := X.2.1
  intro o0 o1 x2 h ls H locs hf I hl
  unfold f_X12_isOld_0 at hf
  refine lv_aload_n hx hb dX12_isOld_0 rfl (lv_at hl 1 rfl) ?_
  refine lv_iload_n hx hb dX12_isOld_1 rfl (lv_at hl 2 rfl) ?_
  refine lv_iconst (v := 1) hx hb dX12_isOld_2 (by decide) ?_
  obtain ⟨v1, h2, e3, z4, hf⟩ := cN_spec hf
  refine k_Si (As := [.ref (rfG g o1), .int x2, .int 1]) (rest := []) X I (c_X12_folk l g o1 x2 1 e3) z4 sk_TrapCornerModel_328 tw_1647 ⟨Nat.le_trans (by decide) hR.1, Nat.le_trans (by decide) hR.2⟩ ⟨Nat.zero_le _, Nat.zero_le _⟩ rfl hl.1 rfl (Nat.le_of_ble_eq_true rfl) dX12_isOld_3 (fun H locs I => ?_)
  refine lv_aload_n hx hb dX12_isOld_6 rfl (lv_at hl 0 rfl) ?_
  obtain ⟨v5, e6, hf⟩ := Option.bind_eq_some_iff.mp hf
  refine r_gR X I e6 lk_TrapCornerModel_37 dX12_isOld_7 ?_
  refine lv_iconst (v := 2) hx hb dX12_isOld_10 (by decide) ?_
  obtain ⟨v7, e8, hf⟩ := Option.bind_eq_some_iff.mp hf
  refine r_aI0 X I e8 dX12_isOld_11 ?_
  refine lv_icmp_lt (tgt := 19) hx hb dX12_isOld_12 (by decide) (fun c9 => ?_) (fun c9 => ?_)
  · rw [if_pos c9] at hf
    refine lv_iconst (v := 0) hx hb dX12_isOld_19 (by decide) ?_
    cases hf
    exact k_rz X I hr (Or.inl rfl) dX12_isOld_20
  · rw [if_neg c9] at hf
    refine lv_iconst (v := 1) hx hb dX12_isOld_15 (by decide) ?_
    refine lv_goto (tgt := 20) hx hb dX12_isOld_16 (by decide) ?_
    cases hf
    exact k_rz X I hr (Or.inr rfl) dX12_isOld_20
def f_X12_isOld (o0 : Nat) (o1 : Nat) (x2 : Int32) (h : AH) : Option (Int32 × AH) := f_X12_isOld_0 o0 o1 x2 h
end
theorem c_X12_isOld (l : Launch) (g : GG) (o0 : Nat) (o1 : Nat) (x2 : Int32) {h : AH} {res : Int32 × AH} (hf : f_X12_isOld o0 o1 x2 h = some res) : CM l g yX12_isOld cX12_isOld 3 (some (.boolean)) 2 128 0 0 [.ref (rfG g o0), .ref (rfG g o1), .int x2] h (some (.int res.1)) res.2 :=
  k_body (by decide) (Nat.le_of_ble_eq_true rfl) (fun p e s m below meth c R ls hR hr X I hl => w_X12_isOld_0 X ⟨Nat.le_of_eq hR.1.symm, Nat.le_of_eq hR.2.1.symm⟩ hr o0 o1 x2 h ls s.heap [] hf I (lv_sub hl [0, 1, 2] rfl))
/-! TrapCornerModel.longOf(II)I -/
theorem dX12_longOf_0 : decode cX12_longOf 0 = .ok (.aload_n 0, 1) := by decide +kernel
theorem dX12_longOf_1 : decode cX12_longOf 1 = .ok (.iload_n 1, 1) := by decide +kernel
theorem dX12_longOf_2 : decode cX12_longOf 2 = .ok (.iconst 4, 1) := by decide +kernel
theorem dX12_longOf_3 : decode cX12_longOf 3 = .ok (.invokevirtual 325, 3) := by decide +kernel
theorem dX12_longOf_6 : decode cX12_longOf 6 = .ok (.aload_n 0, 1) := by decide +kernel
theorem dX12_longOf_7 : decode cX12_longOf 7 = .ok (.iload_n 1, 1) := by decide +kernel
theorem dX12_longOf_8 : decode cX12_longOf 8 = .ok (.iconst 3, 1) := by decide +kernel
theorem dX12_longOf_9 : decode cX12_longOf 9 = .ok (.invokevirtual 325, 3) := by decide +kernel
theorem dX12_longOf_12 : decode cX12_longOf 12 = .ok (.isub, 1) := by decide +kernel
theorem dX12_longOf_13 : decode cX12_longOf 13 = .ok (.istore_n 3, 1) := by decide +kernel
theorem dX12_longOf_14 : decode cX12_longOf 14 = .ok (.iload_n 2, 1) := by decide +kernel
theorem dX12_longOf_15 : decode cX12_longOf 15 = .ok (.ifCond .ne 7, 3) := by decide +kernel
theorem dX12_longOf_18 : decode cX12_longOf 18 = .ok (.iload_n 3, 1) := by decide +kernel
theorem dX12_longOf_19 : decode cX12_longOf 19 = .ok (.goto 5, 3) := by decide +kernel
theorem dX12_longOf_22 : decode cX12_longOf 22 = .ok (.iload_n 3, 1) := by decide +kernel
theorem dX12_longOf_23 : decode cX12_longOf 23 = .ok (.ineg, 1) := by decide +kernel
theorem dX12_longOf_24 : decode cX12_longOf 24 = .ok (.aload_n 0, 1) := by decide +kernel
theorem dX12_longOf_25 : decode cX12_longOf 25 = .ok (.getfield 294, 3) := by decide +kernel
theorem dX12_longOf_28 : decode cX12_longOf 28 = .ok (.iadd, 1) := by decide +kernel
theorem dX12_longOf_29 : decode cX12_longOf 29 = .ok (.aload_n 0, 1) := by decide +kernel
theorem dX12_longOf_30 : decode cX12_longOf 30 = .ok (.getfield 294, 3) := by decide +kernel
theorem dX12_longOf_33 : decode cX12_longOf 33 = .ok (.irem, 1) := by decide +kernel
theorem dX12_longOf_34 : decode cX12_longOf 34 = .ok (.ireturn, 1) := by decide +kernel
theorem vk_TrapCornerModel_325 : VK "TrapCornerModel" 325 [12] yX12_of 2 := ⟨tw_1648, tw_1650, tw_13, ⟨by decide, by decide⟩, by decide +kernel, fun ci hci => by
  have hci := List.mem_singleton.mp hci
  subst hci
  exact ⟨_, rfl, tp_79⟩⟩
section
variable {g : GG} {p : Program} {l : Launch} {e : Env} {R : Room} {s : State} {m : MethodId} {args : Array Value} {below : List Frame} {meth : Method} {c : Code} {n0 z0 : Nat}
def f_X12_longOf_24  (o0 : Nat) (s0 : Int32) (h : AH) : Option (Int32 × AH) :=
  (gI [12] h o0 26).bind fun v1 =>
  (gI [12] h o0 26).bind fun v3 =>
  if v3 = 0 then none else
  some ((s0 + v1) - (s0 + v1) / v3 * v3, h)
set_option maxHeartbeats 1000000 in
theorem w_X12_longOf_24 (X : Cx g p s m args meth c cX12_longOf 4 "TrapCornerModel") (hR : 2 ≤ R.frames ∧ 128 ≤ R.locals) (hr : meth.sig.returnType = (some (.int))) {res : Int32 × AH} : ∀ (o0 : Nat) (s0 : Int32) (h : AH) (ls : Array Slot) (H : Heap) (locs : List Loc), f_X12_longOf_24 o0 s0 h = some res → Iv g s n0 z0 h H locs 0 0 → lv_has ls 4 [(0, .ref (rfG g o0))] → W p l e R s m args below meth c H locs 0 0 (MQ below (QG g (some (.int res.1)) res.2) args s 0 0 (AG g)) (F0 m 24 ls [.int s0]) := by
  have hx := X.1
  have hb := X.2.1
  intro o0 s0 h ls H locs hf I hl
  unfold f_X12_longOf_24 at hf
  refine lv_aload_n hx hb dX12_longOf_24 rfl (lv_at hl 0 rfl) ?_
  obtain ⟨v1, e2, hf⟩ := Option.bind_eq_some_iff.mp hf
  refine r_gI X I e2 lk_TrapCornerModel_294 dX12_longOf_25 ?_
  refine lv_iadd hx hb dX12_longOf_28 ?_
  refine lv_aload_n hx hb dX12_longOf_29 rfl (lv_at hl 0 rfl) ?_
  obtain ⟨v3, e4, hf⟩ := Option.bind_eq_some_iff.mp hf
  refine r_gI X I e4 lk_TrapCornerModel_294 dX12_longOf_30 ?_
  have c5 : ¬ v3 = 0 := fun z => by rw [if_pos z] at hf; cases hf
  rw [if_neg c5] at hf
  refine lv_irem hx hb dX12_longOf_33 c5 ?_
  cases hf
  exact k_ri X I hr dX12_longOf_34
def f_X12_longOf_0  (o0 : Nat) (x1 : Int32) (x2 : Int32) (h : AH) : Option (Int32 × AH) :=
  (isC [12] h o0).bind fun _ =>
  cN (f_X12_of o0 x1 4 h) h fun v1 h2 =>
  (isC [12] h2 o0).bind fun _ =>
  cN (f_X12_of o0 x1 3 h2) h2 fun v6 h7 =>
  if x2 = 0 then
    f_X12_longOf_24 o0 (v1 - v6) h7
  else
    f_X12_longOf_24 o0 (-(v1 - v6)) h7
set_option maxHeartbeats 1000000 in
theorem w_X12_longOf_0 (X : Cx g p s m args meth c cX12_longOf 4 "TrapCornerModel") (hR : 2 ≤ R.frames ∧ 128 ≤ R.locals) (hr : meth.sig.returnType = (some (.int))) {res : Int32 × AH} : ∀ (o0 : Nat) (x1 : Int32) (x2 : Int32) (h : AH) (ls : Array Slot) (H : Heap) (locs : List Loc), f_X12_longOf_0 o0 x1 x2 h = some res → Iv g s n0 z0 h H locs 0 0 → lv_has ls 4 [(0, .ref (rfG g o0)), (1, .int x1), (2, .int x2)] → W p l e R s m args below meth c H locs 0 0 (MQ below (QG g (some (.int res.1)) res.2) args s 0 0 (AG g)) (F0 m 0 ls []) := by
  have hx := X.1
  have hb := X.2.1
  intro o0 x1 x2 h ls H locs hf I hl
  unfold f_X12_longOf_0 at hf
  refine lv_aload_n hx hb dX12_longOf_0 rfl (lv_at hl 0 rfl) ?_
  refine lv_iload_n hx hb dX12_longOf_1 rfl (lv_at hl 1 rfl) ?_
  refine lv_iconst (v := 4) hx hb dX12_longOf_2 (by decide) ?_
  obtain ⟨_, g5, hf⟩ := Option.bind_eq_some_iff.mp hf
  obtain ⟨v1, h2, e3, z4, hf⟩ := cN_spec hf
  refine k_Vi (As := [.int x1, .int 4]) (rest := []) X I (c_X12_of l g o0 x1 4 e3) z4 g5 vk_TrapCornerModel_325 tw_1651 ⟨Nat.le_trans (by decide) hR.1, Nat.le_trans (by decide) hR.2⟩ ⟨Nat.zero_le _, Nat.zero_le _⟩ rfl hl.1 rfl (Nat.le_of_ble_eq_true rfl) dX12_longOf_3 (fun H locs I => ?_)
  refine lv_aload_n hx hb dX12_longOf_6 rfl (lv_at hl 0 rfl) ?_
  refine lv_iload_n hx hb dX12_longOf_7 rfl (lv_at hl 1 rfl) ?_
  refine lv_iconst (v := 3) hx hb dX12_longOf_8 (by decide) ?_
  obtain ⟨_, g10, hf⟩ := Option.bind_eq_some_iff.mp hf
  obtain ⟨v6, h7, e8, z9, hf⟩ := cN_spec hf
  refine k_Vi (As := [.int x1, .int 3]) (rest := [.int v1]) X I (c_X12_of l g o0 x1 3 e8) z9 g10 vk_TrapCornerModel_325 tw_1651 ⟨Nat.le_trans (by decide) hR.1, Nat.le_trans (by decide) hR.2⟩ ⟨Nat.zero_le _, Nat.zero_le _⟩ rfl hl.1 rfl (Nat.le_of_ble_eq_true rfl) dX12_longOf_9 (fun H locs I => ?_)
  refine lv_isub hx hb dX12_longOf_12 ?_
  refine lv_istore_n (lv' := [(3, .int (v1 - v6)), (0, .ref (rfG g o0)), (1, .int x1), (2, .int x2)]) hx hb dX12_longOf_13 rfl hl (by decide) rfl (fun ls hl => ?_)
  refine lv_iload_n hx hb dX12_longOf_14 rfl (lv_at hl 3 rfl) ?_
  refine lv_if_ne (tgt := 22) hx hb dX12_longOf_15 (by decide) (fun c11 => ?_) (fun c11 => ?_)
  · rw [if_neg c11] at hf
    refine lv_iload_n hx hb dX12_longOf_22 rfl (lv_at hl 0 rfl) ?_
    refine lv_ineg hx hb dX12_longOf_23 ?_
    exact w_X12_longOf_24 X hR hr  o0 (-(v1 - v6)) h7 ls H locs hf I (lv_sub hl [1] rfl)
  · rw [if_pos c11] at hf
    refine lv_iload_n hx hb dX12_longOf_18 rfl (lv_at hl 0 rfl) ?_
    refine lv_goto (tgt := 24) hx hb dX12_longOf_19 (by decide) ?_
    exact w_X12_longOf_24 X hR hr  o0 (v1 - v6) h7 ls H locs hf I (lv_sub hl [1] rfl)
def f_X12_longOf (o0 : Nat) (x1 : Int32) (x2 : Int32) (h : AH) : Option (Int32 × AH) := f_X12_longOf_0 o0 x1 x2 h
end
theorem c_X12_longOf (l : Launch) (g : GG) (o0 : Nat) (x1 : Int32) (x2 : Int32) {h : AH} {res : Int32 × AH} (hf : f_X12_longOf o0 x1 x2 h = some res) : CM l g yX12_longOf cX12_longOf 4 (some (.int)) 2 128 0 0 [.ref (rfG g o0), .int x1, .int x2] h (some (.int res.1)) res.2 :=
  k_body (by decide) (Nat.le_of_ble_eq_true rfl) (fun p e s m below meth c R ls hR hr X I hl => w_X12_longOf_0 X ⟨Nat.le_of_eq hR.1.symm, Nat.le_of_eq hR.2.1.symm⟩ hr o0 x1 x2 h ls s.heap [] hf I (lv_sub hl [0, 1, 2] rfl))
/-! TrapCornerModel.cornerAt(III)I -/
theorem dX12_cornerAt_0 : decode cX12_cornerAt 0 = .ok (.aload_n 0, 1) := by decide +kernel
theorem dX12_cornerAt_1 : decode cX12_cornerAt 1 = .ok (.iload_n 1, 1) := by decide +kernel
theorem dX12_cornerAt_2 : decode cX12_cornerAt 2 = .ok (.iconst 3, 1) := by decide +kernel
theorem dX12_cornerAt_3 : decode cX12_cornerAt 3 = .ok (.invokevirtual 325, 3) := by decide +kernel
theorem dX12_cornerAt_6 : decode cX12_cornerAt 6 = .ok (.iload_n 2, 1) := by decide +kernel
theorem dX12_cornerAt_7 : decode cX12_cornerAt 7 = .ok (.ifCond .ne 7, 3) := by decide +kernel
theorem dX12_cornerAt_10 : decode cX12_cornerAt 10 = .ok (.iload_n 3, 1) := by decide +kernel
theorem dX12_cornerAt_11 : decode cX12_cornerAt 11 = .ok (.goto 9, 3) := by decide +kernel
theorem dX12_cornerAt_14 : decode cX12_cornerAt 14 = .ok (.aload_n 0, 1) := by decide +kernel
theorem dX12_cornerAt_15 : decode cX12_cornerAt 15 = .ok (.getfield 294, 3) := by decide +kernel
theorem dX12_cornerAt_18 : decode cX12_cornerAt 18 = .ok (.iload_n 3, 1) := by decide +kernel
theorem dX12_cornerAt_19 : decode cX12_cornerAt 19 = .ok (.isub, 1) := by decide +kernel
theorem dX12_cornerAt_20 : decode cX12_cornerAt 20 = .ok (.iadd, 1) := by decide +kernel
theorem dX12_cornerAt_21 : decode cX12_cornerAt 21 = .ok (.aload_n 0, 1) := by decide +kernel
theorem dX12_cornerAt_22 : decode cX12_cornerAt 22 = .ok (.getfield 294, 3) := by decide +kernel
theorem dX12_cornerAt_25 : decode cX12_cornerAt 25 = .ok (.irem, 1) := by decide +kernel
theorem dX12_cornerAt_26 : decode cX12_cornerAt 26 = .ok (.ireturn, 1) := by decide +kernel
section
variable {g : GG} {p : Program} {l : Launch} {e : Env} {R : Room} {s : State} {m : MethodId} {args : Array Value} {below : List Frame} {meth : Method} {c : Code} {n0 z0 : Nat}
def f_X12_cornerAt_20  (o0 : Nat) (s0 : Int32) (s1 : Int32) (h : AH) : Option (Int32 × AH) :=
  (gI [12] h o0 26).bind fun v1 =>
  if v1 = 0 then none else
  some ((s0 + s1) - (s0 + s1) / v1 * v1, h)
set_option maxHeartbeats 1000000 in
theorem w_X12_cornerAt_20 (X : Cx g p s m args meth c cX12_cornerAt 4 "TrapCornerModel") (hR : 2 ≤ R.frames ∧ 128 ≤ R.locals) (hr : meth.sig.returnType = (some (.int))) {res : Int32 × AH} : ∀ (o0 : Nat) (s0 : Int32) (s1 : Int32) (h : AH) (ls : Array Slot) (H : Heap) (locs : List Loc), f_X12_cornerAt_20 o0 s0 s1 h = some res → Iv g s n0 z0 h H locs 0 0 → lv_has ls 4 [(0, .ref (rfG g o0))] → W p l e R s m args below meth c H locs 0 0 (MQ below (QG g (some (.int res.1)) res.2) args s 0 0 (AG g)) (F0 m 20 ls [.int s1, .int s0]) := by
  have hx := X.1
  have hb := X.2.1
  intro o0 s0 s1 h ls H locs hf I hl
  unfold f_X12_cornerAt_20 at hf
  refine lv_iadd hx hb dX12_cornerAt_20 ?_
  refine lv_aload_n hx hb dX12_cornerAt_21 rfl (lv_at hl 0 rfl) ?_
  obtain ⟨v1, e2, hf⟩ := Option.bind_eq_some_iff.mp hf
  refine r_gI X I e2 lk_TrapCornerModel_294 dX12_cornerAt_22 ?_
  have c3 : ¬ v1 = 0 := fun z => by rw [if_pos z] at hf; cases hf
  rw [if_neg c3] at hf
  refine lv_irem hx hb dX12_cornerAt_25 c3 ?_
  cases hf
  exact k_ri X I hr dX12_cornerAt_26
def f_X12_cornerAt_0  (o0 : Nat) (x1 : Int32) (x2 : Int32) (x3 : Int32) (h : AH) : Option (Int32 × AH) :=
  (isC [12] h o0).bind fun _ =>
  cN (f_X12_of o0 x1 3 h) h fun v1 h2 =>
  if x2 = 0 then
    f_X12_cornerAt_20 o0 v1 x3 h2
  else
    (gI [12] h2 o0 26).bind fun v7 =>
    f_X12_cornerAt_20 o0 v1 (v7 - x3) h2
set_option maxHeartbeats 1000000 in
theorem w_X12_cornerAt_0 (X : Cx g p s m args meth c cX12_cornerAt 4 "TrapCornerModel") (hR : 2 ≤ R.frames ∧ 128 ≤ R.locals) (hr : meth.sig.returnType = (some (.int))) {res : Int32 × AH} : ∀ (o0 : Nat) (x1 : Int32) (x2 : Int32) (x3 : Int32) (h : AH) (ls : Array Slot) (H : Heap) (locs : List Loc), f_X12_cornerAt_0 o0 x1 x2 x3 h = some res → Iv g s n0 z0 h H locs 0 0 → lv_has ls 4 [(0, .ref (rfG g o0)), (1, .int x1), (2, .int x2), (3, .int x3)] → W p l e R s m args below meth c H locs 0 0 (MQ below (QG g (some (.int res.1)) res.2) args s 0 0 (AG g)) (F0 m 0 ls []) := by
  have hx := X.1
  have hb := X.2.1
  intro o0 x1 x2 x3 h ls H locs hf I hl
  unfold f_X12_cornerAt_0 at hf
  refine lv_aload_n hx hb dX12_cornerAt_0 rfl (lv_at hl 0 rfl) ?_
  refine lv_iload_n hx hb dX12_cornerAt_1 rfl (lv_at hl 1 rfl) ?_
  refine lv_iconst (v := 3) hx hb dX12_cornerAt_2 (by decide) ?_
  obtain ⟨_, g5, hf⟩ := Option.bind_eq_some_iff.mp hf
  obtain ⟨v1, h2, e3, z4, hf⟩ := cN_spec hf
  refine k_Vi (As := [.int x1, .int 3]) (rest := []) X I (c_X12_of l g o0 x1 3 e3) z4 g5 vk_TrapCornerModel_325 tw_1651 ⟨Nat.le_trans (by decide) hR.1, Nat.le_trans (by decide) hR.2⟩ ⟨Nat.zero_le _, Nat.zero_le _⟩ rfl hl.1 rfl (Nat.le_of_ble_eq_true rfl) dX12_cornerAt_3 (fun H locs I => ?_)
  refine lv_iload_n hx hb dX12_cornerAt_6 rfl (lv_at hl 2 rfl) ?_
  refine lv_if_ne (tgt := 14) hx hb dX12_cornerAt_7 (by decide) (fun c6 => ?_) (fun c6 => ?_)
  · rw [if_neg c6] at hf
    refine lv_aload_n hx hb dX12_cornerAt_14 rfl (lv_at hl 0 rfl) ?_
    obtain ⟨v7, e8, hf⟩ := Option.bind_eq_some_iff.mp hf
    refine r_gI X I e8 lk_TrapCornerModel_294 dX12_cornerAt_15 ?_
    refine lv_iload_n hx hb dX12_cornerAt_18 rfl (lv_at hl 3 rfl) ?_
    refine lv_isub hx hb dX12_cornerAt_19 ?_
    exact w_X12_cornerAt_20 X hR hr  o0 v1 (v7 - x3) h2 ls H locs hf I (lv_sub hl [0] rfl)
  · rw [if_pos c6] at hf
    refine lv_iload_n hx hb dX12_cornerAt_10 rfl (lv_at hl 3 rfl) ?_
    refine lv_goto (tgt := 20) hx hb dX12_cornerAt_11 (by decide) ?_
    exact w_X12_cornerAt_20 X hR hr  o0 v1 x3 h2 ls H locs hf I (lv_sub hl [0] rfl)
def f_X12_cornerAt (o0 : Nat) (x1 : Int32) (x2 : Int32) (x3 : Int32) (h : AH) : Option (Int32 × AH) := f_X12_cornerAt_0 o0 x1 x2 x3 h
end
theorem c_X12_cornerAt (l : Launch) (g : GG) (o0 : Nat) (x1 : Int32) (x2 : Int32) (x3 : Int32) {h : AH} {res : Int32 × AH} (hf : f_X12_cornerAt o0 x1 x2 x3 h = some res) : CM l g yX12_cornerAt cX12_cornerAt 4 (some (.int)) 2 128 0 0 [.ref (rfG g o0), .int x1, .int x2, .int x3] h (some (.int res.1)) res.2 :=
  k_body (by decide) (Nat.le_of_ble_eq_true rfl) (fun p e s m below meth c R ls hR hr X I hl => w_X12_cornerAt_0 X ⟨Nat.le_of_eq hR.1.symm, Nat.le_of_eq hR.2.1.symm⟩ hr o0 x1 x2 x3 h ls s.heap [] hf I (lv_sub hl [0, 1, 2, 3] rfl))
