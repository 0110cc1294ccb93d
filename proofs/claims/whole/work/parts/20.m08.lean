/-! TrapCornerModel.seen(IIIZ)I -/
theorem dX12_seen_0 : decode cX12_seen 0 = .ok (.aload_n 0, 1) := by decide +kernel
theorem dX12_seen_1 : decode cX12_seen 1 = .ok (.iconst 0, 1) := by decide +kernel
theorem dX12_seen_2 : decode cX12_seen 2 = .ok (.putfield 96, 3) := by decide +kernel
theorem dX12_seen_5 : decode cX12_seen 5 = .ok (.aload_n 0, 1) := by decide +kernel
theorem dX12_seen_6 : decode cX12_seen 6 = .ok (.iload_n 1, 1) := by decide +kernel
theorem dX12_seen_7 : decode cX12_seen 7 = .ok (.invokevirtual 383, 3) := by decide +kernel
theorem dX12_seen_10 : decode cX12_seen 10 = .ok (.ifCond .eq 36, 3) := by decide +kernel
theorem dX12_seen_13 : decode cX12_seen 13 = .ok (.iload_n 2, 1) := by decide +kernel
theorem dX12_seen_14 : decode cX12_seen 14 = .ok (.i2l, 1) := by decide +kernel
theorem dX12_seen_15 : decode cX12_seen 15 = .ok (.lconst 1, 1) := by decide +kernel
theorem dX12_seen_16 : decode cX12_seen 16 = .ok (.ldc2_w 388, 3) := by decide +kernel
theorem dX12_seen_19 : decode cX12_seen 19 = .ok (.invokestatic 217, 3) := by decide +kernel
theorem dX12_seen_22 : decode cX12_seen 22 = .ok (.ifCond .eq 24, 3) := by decide +kernel
theorem dX12_seen_25 : decode cX12_seen 25 = .ok (.iload_n 3, 1) := by decide +kernel
theorem dX12_seen_26 : decode cX12_seen 26 = .ok (.i2l, 1) := by decide +kernel
theorem dX12_seen_27 : decode cX12_seen 27 = .ok (.lconst 1, 1) := by decide +kernel
theorem dX12_seen_28 : decode cX12_seen 28 = .ok (.ldc2_w 398, 3) := by decide +kernel
theorem dX12_seen_31 : decode cX12_seen 31 = .ok (.invokestatic 217, 3) := by decide +kernel
theorem dX12_seen_34 : decode cX12_seen 34 = .ok (.ifCond .eq 12, 3) := by decide +kernel
theorem dX12_seen_37 : decode cX12_seen 37 = .ok (.aload_n 0, 1) := by decide +kernel
theorem dX12_seen_38 : decode cX12_seen 38 = .ok (.getfield 300, 3) := by decide +kernel
theorem dX12_seen_41 : decode cX12_seen 41 = .ok (.bipush 10, 2) := by decide +kernel
theorem dX12_seen_43 : decode cX12_seen 43 = .ok (.if_icmp .ne 5, 3) := by decide +kernel
theorem dX12_seen_46 : decode cX12_seen 46 = .ok (.iconst (-1), 1) := by decide +kernel
theorem dX12_seen_47 : decode cX12_seen 47 = .ok (.ireturn, 1) := by decide +kernel
theorem dX12_seen_48 : decode cX12_seen 48 = .ok (.iconst 4, 1) := by decide +kernel
theorem dX12_seen_49 : decode cX12_seen 49 = .ok (.aload_n 0, 1) := by decide +kernel
theorem dX12_seen_50 : decode cX12_seen 50 = .ok (.getfield 300, 3) := by decide +kernel
theorem dX12_seen_53 : decode cX12_seen 53 = .ok (.imul, 1) := by decide +kernel
theorem dX12_seen_54 : decode cX12_seen 54 = .ok (.istore 5, 2) := by decide +kernel
theorem dX12_seen_56 : decode cX12_seen 56 = .ok (.aload_n 0, 1) := by decide +kernel
theorem dX12_seen_57 : decode cX12_seen 57 = .ok (.getfield 87, 3) := by decide +kernel
theorem dX12_seen_60 : decode cX12_seen 60 = .ok (.iload 5, 2) := by decide +kernel
theorem dX12_seen_62 : decode cX12_seen 62 = .ok (.iload_n 1, 1) := by decide +kernel
theorem dX12_seen_63 : decode cX12_seen 63 = .ok (.iastore, 1) := by decide +kernel
theorem dX12_seen_64 : decode cX12_seen 64 = .ok (.aload_n 0, 1) := by decide +kernel
theorem dX12_seen_65 : decode cX12_seen 65 = .ok (.getfield 87, 3) := by decide +kernel
theorem dX12_seen_68 : decode cX12_seen 68 = .ok (.iload 5, 2) := by decide +kernel
theorem dX12_seen_70 : decode cX12_seen 70 = .ok (.iconst 1, 1) := by decide +kernel
theorem dX12_seen_71 : decode cX12_seen 71 = .ok (.iadd, 1) := by decide +kernel
theorem dX12_seen_72 : decode cX12_seen 72 = .ok (.iload_n 2, 1) := by decide +kernel
theorem dX12_seen_73 : decode cX12_seen 73 = .ok (.iastore, 1) := by decide +kernel
theorem dX12_seen_74 : decode cX12_seen 74 = .ok (.aload_n 0, 1) := by decide +kernel
theorem dX12_seen_75 : decode cX12_seen 75 = .ok (.getfield 87, 3) := by decide +kernel
theorem dX12_seen_78 : decode cX12_seen 78 = .ok (.iload 5, 2) := by decide +kernel
theorem dX12_seen_80 : decode cX12_seen 80 = .ok (.iconst 2, 1) := by decide +kernel
theorem dX12_seen_81 : decode cX12_seen 81 = .ok (.iadd, 1) := by decide +kernel
theorem dX12_seen_82 : decode cX12_seen 82 = .ok (.iload_n 3, 1) := by decide +kernel
theorem dX12_seen_83 : decode cX12_seen 83 = .ok (.iastore, 1) := by decide +kernel
theorem dX12_seen_84 : decode cX12_seen 84 = .ok (.aload_n 0, 1) := by decide +kernel
theorem dX12_seen_85 : decode cX12_seen 85 = .ok (.getfield 87, 3) := by decide +kernel
theorem dX12_seen_88 : decode cX12_seen 88 = .ok (.iload 5, 2) := by decide +kernel
theorem dX12_seen_90 : decode cX12_seen 90 = .ok (.iconst 3, 1) := by decide +kernel
theorem dX12_seen_91 : decode cX12_seen 91 = .ok (.iadd, 1) := by decide +kernel
theorem dX12_seen_92 : decode cX12_seen 92 = .ok (.iload 4, 2) := by decide +kernel
theorem dX12_seen_94 : decode cX12_seen 94 = .ok (.ifCond .eq 7, 3) := by decide +kernel
theorem dX12_seen_97 : decode cX12_seen 97 = .ok (.iconst 1, 1) := by decide +kernel
theorem dX12_seen_98 : decode cX12_seen 98 = .ok (.goto 4, 3) := by decide +kernel
theorem dX12_seen_101 : decode cX12_seen 101 = .ok (.iconst 0, 1) := by decide +kernel
theorem dX12_seen_102 : decode cX12_seen 102 = .ok (.iastore, 1) := by decide +kernel
theorem dX12_seen_103 : decode cX12_seen 103 = .ok (.aload_n 0, 1) := by decide +kernel
theorem dX12_seen_104 : decode cX12_seen 104 = .ok (.dup, 1) := by decide +kernel
theorem dX12_seen_105 : decode cX12_seen 105 = .ok (.getfield 300, 3) := by decide +kernel
theorem dX12_seen_108 : decode cX12_seen 108 = .ok (.iconst 1, 1) := by decide +kernel
theorem dX12_seen_109 : decode cX12_seen 109 = .ok (.iadd, 1) := by decide +kernel
theorem dX12_seen_110 : decode cX12_seen 110 = .ok (.putfield 300, 3) := by decide +kernel
theorem dX12_seen_113 : decode cX12_seen 113 = .ok (.aload_n 0, 1) := by decide +kernel
theorem dX12_seen_114 : decode cX12_seen 114 = .ok (.getfield 300, 3) := by decide +kernel
theorem dX12_seen_117 : decode cX12_seen 117 = .ok (.ireturn, 1) := by decide +kernel
theorem lk_TrapCornerModel_300 : LK "TrapCornerModel" 300 [12] 46 := by
  intro ci hci
  have hci := List.mem_singleton.mp hci
  subst hci
  exact ⟨RX12, TX12, 50, "TrapCornerModel", ck_12, by decide, tw_1333, Or.inl rfl⟩
theorem lp_TrapCornerModel_300 : LKP "TrapCornerModel" 300 [12] 46 (.int) := by
  intro ci hci
  have hci := List.mem_singleton.mp hci
  subst hci
  exact ⟨RX12, TX12, 50, "TrapCornerModel", ck_12, by decide, tw_1333, Or.inl rfl, rfl, by decide +kernel⟩
theorem lk_TrapCornerModel_87 : LK "TrapCornerModel" 87 [12] 45 := by
  intro ci hci
  have hci := List.mem_singleton.mp hci
  subst hci
  exact ⟨RX12, TX12, 50, "TrapCornerModel", ck_12, by decide, tw_1332, Or.inl rfl⟩
section
variable {g : GG} {p : Program} {l : Launch} {e : Env} {R : Room} {s : State} {m : MethodId} {args : Array Value} {below : List Frame} {meth : Method} {c : Code} {n0 z0 : Nat}
def f_X12_seen_102  (o0 : Nat) (s0 : Nat) (s1 : Int32) (s2 : Int32) (h : AH) : Option (Int32 × AH) :=
  (uI 0 h s0 s1 s2).bind fun h1 =>
  (gI [12] h1 o0 46).bind fun v3 =>
  (pV [12] h1 o0 46 (.int (v3 + 1))).bind fun h5 =>
  (gI [12] h5 o0 46).bind fun v7 =>
  some (v7, h5)
set_option maxHeartbeats 1000000 in
theorem w_X12_seen_102 (X : Cx g p s m args meth c cX12_seen 6 "TrapCornerModel") (hR : 2 ≤ R.frames ∧ 128 ≤ R.locals) (hr : meth.sig.returnType = (some (.int))) {res : Int32 × AH} : ∀ (o0 : Nat) (s0 : Nat) (s1 : Int32) (s2 : Int32) (h : AH) (ls : Array Slot) (H : Heap) (locs : List Loc), f_X12_seen_102 o0 s0 s1 s2 h = some res → Iv g s n0 z0 h H locs 0 0 → lv_has ls 6 [(0, .ref (rfG g o0))] → W p l e R s m args below meth c H locs 0 0 (MQ below (QG g (some (.int res.1)) res.2) args s 0 0 (AG g)) (F0 m 102 ls [.int s2, .int s1, .ref (rfG g s0)]) := by
  have hx := X.1
  have hb := X.2.1
  intro o0 s0 s1 s2 h ls H locs hf I hl
  unfold f_X12_seen_102 at hf
  obtain ⟨h1, e2, hf⟩ := Option.bind_eq_some_iff.mp hf
  refine r_uI0 X I e2 dX12_seen_102 (fun H locs I => ?_)
  refine lv_aload_n hx hb dX12_seen_103 rfl (lv_at hl 0 rfl) ?_
  refine lv_dup hx hb dX12_seen_104 rfl ?_
  obtain ⟨v3, e4, hf⟩ := Option.bind_eq_some_iff.mp hf
  refine r_gI X I e4 lk_TrapCornerModel_300 dX12_seen_105 ?_
  refine lv_iconst (v := 1) hx hb dX12_seen_108 (by decide) ?_
  refine lv_iadd hx hb dX12_seen_109 ?_
  obtain ⟨h5, e6, hf⟩ := Option.bind_eq_some_iff.mp hf
  refine r_pI X I e6 lp_TrapCornerModel_300 dX12_seen_110 (fun H locs I => ?_)
  refine lv_aload_n hx hb dX12_seen_113 rfl (lv_at hl 0 rfl) ?_
  obtain ⟨v7, e8, hf⟩ := Option.bind_eq_some_iff.mp hf
  refine r_gI X I e8 lk_TrapCornerModel_300 dX12_seen_114 ?_
  cases hf
  exact k_ri X I hr dX12_seen_117
def f_X12_seen_0  (o0 : Nat) (x1 : Int32) (x2 : Int32) (x3 : Int32) (x4 : Int32) (h : AH) : Option (Int32 × AH) :=
  (pV [12] h o0 0 (.int 0)).bind fun h1 =>
  (isC [12] h1 o0).bind fun _ =>
  cN (f_X12_isPerson o0 x1 h1) h1 fun v3 h4 =>
  if v3 = 0 then
    some ((-1), h4)
  else
    cN (f_X12_isIn (x2.toInt64) 1 9 h4) h4 fun v9 h10 =>
    if v9 = 0 then
      some ((-1), h10)
    else
      cN (f_X12_isIn (x3.toInt64) 1 3 h10) h10 fun v14 h15 =>
      if v14 = 0 then
        some ((-1), h15)
      else
        (gI [12] h15 o0 46).bind fun v19 =>
        if v19 = 10 then
          some ((-1), h15)
        else
          (gI [12] h15 o0 46).bind fun v22 =>
          (gR [12] h15 o0 45).bind fun v24 =>
          (uI 0 h15 v24 (4 * v22) x1).bind fun h26 =>
          (gR [12] h26 o0 45).bind fun v28 =>
          (uI 0 h26 v28 ((4 * v22) + 1) x2).bind fun h30 =>
          (gR [12] h30 o0 45).bind fun v32 =>
          (uI 0 h30 v32 ((4 * v22) + 2) x3).bind fun h34 =>
          (gR [12] h34 o0 45).bind fun v36 =>
          if x4 = 0 then
            f_X12_seen_102 o0 v36 ((4 * v22) + 3) 0 h34
          else
            f_X12_seen_102 o0 v36 ((4 * v22) + 3) 1 h34
set_option maxHeartbeats 1000000 in
theorem w_X12_seen_0 (X : Cx g p s m args meth c cX12_seen 6 "TrapCornerModel") (hR : 2 ≤ R.frames ∧ 128 ≤ R.locals) (hr : meth.sig.returnType = (some (.int))) {res : Int32 × AH} : ∀ (o0 : Nat) (x1 : Int32) (x2 : Int32) (x3 : Int32) (x4 : Int32) (h : AH) (ls : Array Slot) (H : Heap) (locs : List Loc), f_X12_seen_0 o0 x1 x2 x3 x4 h = some res → Iv g s n0 z0 h H locs 0 0 → lv_has ls 6 [(0, .ref (rfG g o0)), (1, .int x1), (2, .int x2), (3, .int x3), (4, .int x4)] → W p l e R s m args below meth c H locs 0 0 (MQ below (QG g (some (.int res.1)) res.2) args s 0 0 (AG g)) (F0 m 0 ls []) := by
  have hx := X.1
  have hb := X.2.1
  intro o0 x1 x2 x3 x4 h ls H locs hf I hl
  unfold f_X12_seen_0 at hf
  refine lv_aload_n hx hb dX12_seen_0 rfl (lv_at hl 0 rfl) ?_
  refine lv_iconst (v := 0) hx hb dX12_seen_1 (by decide) ?_
  obtain ⟨h1, e2, hf⟩ := Option.bind_eq_some_iff.mp hf
  refine r_pI X I e2 lp_TrapCornerModel_96 dX12_seen_2 (fun H locs I => ?_)
  refine lv_aload_n hx hb dX12_seen_5 rfl (lv_at hl 0 rfl) ?_
  refine lv_iload_n hx hb dX12_seen_6 rfl (lv_at hl 1 rfl) ?_
  obtain ⟨_, g7, hf⟩ := Option.bind_eq_some_iff.mp hf
  obtain ⟨v3, h4, e5, z6, hf⟩ := cN_spec hf
  refine k_Vi (As := [.int x1]) (rest := []) X I (c_X12_isPerson l g o0 x1 e5) z6 g7 vk_TrapCornerModel_383 tw_1643 ⟨Nat.le_trans (by decide) hR.1, Nat.le_trans (by decide) hR.2⟩ ⟨Nat.zero_le _, Nat.zero_le _⟩ rfl hl.1 rfl (Nat.le_of_ble_eq_true rfl) dX12_seen_7 (fun H locs I => ?_)
  refine lv_if_eq (tgt := 46) hx hb dX12_seen_10 (by decide) (fun c8 => ?_) (fun c8 => ?_)
  · rw [if_pos c8] at hf
    refine lv_iconst (v := (-1)) hx hb dX12_seen_46 (by decide) ?_
    cases hf
    exact k_ri X I hr dX12_seen_47
  · rw [if_neg c8] at hf
    refine lv_iload_n hx hb dX12_seen_13 rfl (lv_at hl 2 rfl) ?_
    refine lv_i2l hx hb dX12_seen_14 rfl ?_
    refine lv_lconst (v := 1) hx hb dX12_seen_15 (by decide) ?_
    refine lv_ldc2 (v := 9) hx hb X.2.2.2.1 (X.2.2.2.2.1 _ tw_1660) dX12_seen_16 ?_
    obtain ⟨v9, h10, e11, z12, hf⟩ := cN_spec hf
    refine k_Si (As := [.long (x2.toInt64), .long 1, .long 9]) (rest := []) X I (c_X12_isIn l g (x2.toInt64) 1 9 e11) z12 sk_TrapCornerModel_217 tw_1465 ⟨Nat.le_trans (by decide) hR.1, Nat.le_trans (by decide) hR.2⟩ ⟨Nat.zero_le _, Nat.zero_le _⟩ rfl hl.1 rfl (Nat.le_of_ble_eq_true rfl) dX12_seen_19 (fun H locs I => ?_)
    refine lv_if_eq (tgt := 46) hx hb dX12_seen_22 (by decide) (fun c13 => ?_) (fun c13 => ?_)
    · rw [if_pos c13] at hf
      refine lv_iconst (v := (-1)) hx hb dX12_seen_46 (by decide) ?_
      cases hf
      exact k_ri X I hr dX12_seen_47
    · rw [if_neg c13] at hf
      refine lv_iload_n hx hb dX12_seen_25 rfl (lv_at hl 3 rfl) ?_
      refine lv_i2l hx hb dX12_seen_26 rfl ?_
      refine lv_lconst (v := 1) hx hb dX12_seen_27 (by decide) ?_
      refine lv_ldc2 (v := 3) hx hb X.2.2.2.1 (X.2.2.2.2.1 _ tw_1728) dX12_seen_28 ?_
      obtain ⟨v14, h15, e16, z17, hf⟩ := cN_spec hf
      refine k_Si (As := [.long (x3.toInt64), .long 1, .long 3]) (rest := []) X I (c_X12_isIn l g (x3.toInt64) 1 3 e16) z17 sk_TrapCornerModel_217 tw_1465 ⟨Nat.le_trans (by decide) hR.1, Nat.le_trans (by decide) hR.2⟩ ⟨Nat.zero_le _, Nat.zero_le _⟩ rfl hl.1 rfl (Nat.le_of_ble_eq_true rfl) dX12_seen_31 (fun H locs I => ?_)
      refine lv_if_eq (tgt := 46) hx hb dX12_seen_34 (by decide) (fun c18 => ?_) (fun c18 => ?_)
      · rw [if_pos c18] at hf
        refine lv_iconst (v := (-1)) hx hb dX12_seen_46 (by decide) ?_
        cases hf
        exact k_ri X I hr dX12_seen_47
      · rw [if_neg c18] at hf
        refine lv_aload_n hx hb dX12_seen_37 rfl (lv_at hl 0 rfl) ?_
        obtain ⟨v19, e20, hf⟩ := Option.bind_eq_some_iff.mp hf
        refine r_gI X I e20 lk_TrapCornerModel_300 dX12_seen_38 ?_
        refine lv_bipush (v := 10) hx hb dX12_seen_41 (by decide) ?_
        refine lv_icmp_ne (tgt := 48) hx hb dX12_seen_43 (by decide) (fun c21 => ?_) (fun c21 => ?_)
        · rw [if_neg c21] at hf
          refine lv_iconst (v := 4) hx hb dX12_seen_48 (by decide) ?_
          refine lv_aload_n hx hb dX12_seen_49 rfl (lv_at hl 0 rfl) ?_
          obtain ⟨v22, e23, hf⟩ := Option.bind_eq_some_iff.mp hf
          refine r_gI X I e23 lk_TrapCornerModel_300 dX12_seen_50 ?_
          refine lv_imul hx hb dX12_seen_53 ?_
          refine lv_istore (lv' := [(5, .int (4 * v22)), (0, .ref (rfG g o0)), (1, .int x1), (2, .int x2), (3, .int x3), (4, .int x4)]) hx hb dX12_seen_54 hl (by decide) rfl (fun ls hl => ?_)
          refine lv_aload_n hx hb dX12_seen_56 rfl (lv_at hl 1 rfl) ?_
          obtain ⟨v24, e25, hf⟩ := Option.bind_eq_some_iff.mp hf
          refine r_gR X I e25 lk_TrapCornerModel_87 dX12_seen_57 ?_
          refine lv_iload hx hb dX12_seen_60 (lv_at hl 0 rfl) ?_
          refine lv_iload_n hx hb dX12_seen_62 rfl (lv_at hl 2 rfl) ?_
          obtain ⟨h26, e27, hf⟩ := Option.bind_eq_some_iff.mp hf
          refine r_uI0 X I e27 dX12_seen_63 (fun H locs I => ?_)
          refine lv_aload_n hx hb dX12_seen_64 rfl (lv_at hl 1 rfl) ?_
          obtain ⟨v28, e29, hf⟩ := Option.bind_eq_some_iff.mp hf
          refine r_gR X I e29 lk_TrapCornerModel_87 dX12_seen_65 ?_
          refine lv_iload hx hb dX12_seen_68 (lv_at hl 0 rfl) ?_
          refine lv_iconst (v := 1) hx hb dX12_seen_70 (by decide) ?_
          refine lv_iadd hx hb dX12_seen_71 ?_
          refine lv_iload_n hx hb dX12_seen_72 rfl (lv_at hl 3 rfl) ?_
          obtain ⟨h30, e31, hf⟩ := Option.bind_eq_some_iff.mp hf
          refine r_uI0 X I e31 dX12_seen_73 (fun H locs I => ?_)
          refine lv_aload_n hx hb dX12_seen_74 rfl (lv_at hl 1 rfl) ?_
          obtain ⟨v32, e33, hf⟩ := Option.bind_eq_some_iff.mp hf
          refine r_gR X I e33 lk_TrapCornerModel_87 dX12_seen_75 ?_
          refine lv_iload hx hb dX12_seen_78 (lv_at hl 0 rfl) ?_
          refine lv_iconst (v := 2) hx hb dX12_seen_80 (by decide) ?_
          refine lv_iadd hx hb dX12_seen_81 ?_
          refine lv_iload_n hx hb dX12_seen_82 rfl (lv_at hl 4 rfl) ?_
          obtain ⟨h34, e35, hf⟩ := Option.bind_eq_some_iff.mp hf
          refine r_uI0 X I e35 dX12_seen_83 (fun H locs I => ?_)
          refine lv_aload_n hx hb dX12_seen_84 rfl (lv_at hl 1 rfl) ?_
          obtain ⟨v36, e37, hf⟩ := Option.bind_eq_some_iff.mp hf
          refine r_gR X I e37 lk_TrapCornerModel_87 dX12_seen_85 ?_
          refine lv_iload hx hb dX12_seen_88 (lv_at hl 0 rfl) ?_
          refine lv_iconst (v := 3) hx hb dX12_seen_90 (by decide) ?_
          refine lv_iadd hx hb dX12_seen_91 ?_
          refine lv_iload hx hb dX12_seen_92 (lv_at hl 5 rfl) ?_
          refine lv_if_eq (tgt := 101) hx hb dX12_seen_94 (by decide) (fun c38 => ?_) (fun c38 => ?_)
          · rw [if_pos c38] at hf
            refine lv_iconst (v := 0) hx hb dX12_seen_101 (by decide) ?_
            exact w_X12_seen_102 X hR hr  o0 v36 ((4 * v22) + 3) 0 h34 ls H locs hf I (lv_sub hl [1] rfl)
          · rw [if_neg c38] at hf
            refine lv_iconst (v := 1) hx hb dX12_seen_97 (by decide) ?_
            refine lv_goto (tgt := 102) hx hb dX12_seen_98 (by decide) ?_
            exact w_X12_seen_102 X hR hr  o0 v36 ((4 * v22) + 3) 1 h34 ls H locs hf I (lv_sub hl [1] rfl)
        · rw [if_pos c21] at hf
          refine lv_iconst (v := (-1)) hx hb dX12_seen_46 (by decide) ?_
          cases hf
          exact k_ri X I hr dX12_seen_47
def f_X12_seen (o0 : Nat) (x1 : Int32) (x2 : Int32) (x3 : Int32) (x4 : Int32) (h : AH) : Option (Int32 × AH) := f_X12_seen_0 o0 x1 x2 x3 x4 h
end
theorem c_X12_seen (l : Launch) (g : GG) (o0 : Nat) (x1 : Int32) (x2 : Int32) (x3 : Int32) (x4 : Int32) {h : AH} {res : Int32 × AH} (hf : f_X12_seen o0 x1 x2 x3 x4 h = some res) : CM l g yX12_seen cX12_seen 6 (some (.int)) 2 128 0 0 [.ref (rfG g o0), .int x1, .int x2, .int x3, .int x4] h (some (.int res.1)) res.2 :=
  k_body (by decide) (Nat.le_of_ble_eq_true rfl) (fun p e s m below meth c R ls hR hr X I hl => w_X12_seen_0 X ⟨Nat.le_of_eq hR.1.symm, Nat.le_of_eq hR.2.1.symm⟩ hr o0 x1 x2 x3 x4 h ls s.heap [] hf I (lv_sub hl [0, 1, 2, 3, 4] rfl))
/-! TrapCornerModel.passesBy(II)Z -/
theorem dX12_passesBy_0 : decode cX12_passesBy 0 = .ok (.aload_n 0, 1) := by decide +kernel
theorem dX12_passesBy_1 : decode cX12_passesBy 1 = .ok (.getfield 61, 3) := by decide +kernel
theorem dX12_passesBy_4 : decode cX12_passesBy 4 = .ok (.iload_n 1, 1) := by decide +kernel
theorem dX12_passesBy_5 : decode cX12_passesBy 5 = .ok (.iconst 2, 1) := by decide +kernel
theorem dX12_passesBy_6 : decode cX12_passesBy 6 = .ok (.invokestatic 328, 3) := by decide +kernel
theorem dX12_passesBy_9 : decode cX12_passesBy 9 = .ok (.istore_n 3, 1) := by decide +kernel
theorem dX12_passesBy_10 : decode cX12_passesBy 10 = .ok (.iconst 1, 1) := by decide +kernel
theorem dX12_passesBy_11 : decode cX12_passesBy 11 = .ok (.istore 4, 2) := by decide +kernel
theorem dX12_passesBy_13 : decode cX12_passesBy 13 = .ok (.iload 4, 2) := by decide +kernel
theorem dX12_passesBy_15 : decode cX12_passesBy 15 = .ok (.aload_n 0, 1) := by decide +kernel
theorem dX12_passesBy_16 : decode cX12_passesBy 16 = .ok (.iload_n 1, 1) := by decide +kernel
theorem dX12_passesBy_17 : decode cX12_passesBy 17 = .ok (.iload_n 3, 1) := by decide +kernel
theorem dX12_passesBy_18 : decode cX12_passesBy 18 = .ok (.invokevirtual 345, 3) := by decide +kernel
theorem dX12_passesBy_21 : decode cX12_passesBy 21 = .ok (.if_icmp .gt 23, 3) := by decide +kernel
theorem dX12_passesBy_24 : decode cX12_passesBy 24 = .ok (.aload_n 0, 1) := by decide +kernel
theorem dX12_passesBy_25 : decode cX12_passesBy 25 = .ok (.iload_n 1, 1) := by decide +kernel
theorem dX12_passesBy_26 : decode cX12_passesBy 26 = .ok (.iload_n 3, 1) := by decide +kernel
theorem dX12_passesBy_27 : decode cX12_passesBy 27 = .ok (.iload 4, 2) := by decide +kernel
theorem dX12_passesBy_29 : decode cX12_passesBy 29 = .ok (.invokevirtual 348, 3) := by decide +kernel
theorem dX12_passesBy_32 : decode cX12_passesBy 32 = .ok (.iload_n 2, 1) := by decide +kernel
theorem dX12_passesBy_33 : decode cX12_passesBy 33 = .ok (.if_icmp .ne 5, 3) := by decide +kernel
theorem dX12_passesBy_36 : decode cX12_passesBy 36 = .ok (.iconst 1, 1) := by decide +kernel
theorem dX12_passesBy_37 : decode cX12_passesBy 37 = .ok (.ireturn, 1) := by decide +kernel
theorem dX12_passesBy_38 : decode cX12_passesBy 38 = .ok (.iinc 4 1, 3) := by decide +kernel
theorem dX12_passesBy_41 : decode cX12_passesBy 41 = .ok (.goto (-28), 3) := by decide +kernel
theorem dX12_passesBy_44 : decode cX12_passesBy 44 = .ok (.iconst 0, 1) := by decide +kernel
theorem dX12_passesBy_45 : decode cX12_passesBy 45 = .ok (.ireturn, 1) := by decide +kernel
theorem vk_TrapCornerModel_345 : VK "TrapCornerModel" 345 [12] yX12_longOf 2 := ⟨tw_1681, tw_1683, tw_13, ⟨by decide, by decide⟩, by decide +kernel, fun ci hci => by
  have hci := List.mem_singleton.mp hci
  subst hci
  exact ⟨_, rfl, tp_84⟩⟩
theorem vk_TrapCornerModel_348 : VK "TrapCornerModel" 348 [12] yX12_cornerAt 3 := ⟨tw_1685, tw_1687, tw_13, ⟨by decide, by decide⟩, by decide +kernel, fun ci hci => by
  have hci := List.mem_singleton.mp hci
  subst hci
  exact ⟨_, rfl, tp_85⟩⟩
section
variable {g : GG} {p : Program} {l : Launch} {e : Env} {R : Room} {s : State} {m : MethodId} {args : Array Value} {below : List Frame} {meth : Method} {c : Code} {n0 z0 : Nat}
def f_X12_passesBy_13  : Nat → Nat → Int32 → Int32 → Int32 → Int32 → AH → Option (Int32 × AH)
  | 0, _, _, _, _, _, _ => none
  | n + 1, o0, x1, x2, x3, x4, h =>
  (isC [12] h o0).bind fun _ =>
  cN (f_X12_longOf o0 x1 x3 h) h fun v1 h2 =>
  if v1 < x4 then
    some (0, h2)
  else
    (isC [12] h2 o0).bind fun _ =>
    cN (f_X12_cornerAt o0 x1 x3 x4 h2) h2 fun v7 h8 =>
    if v7 = x2 then
      some (1, h8)
    else
      f_X12_passesBy_13  n o0 x1 x2 x3 (x4 + 1) h8
set_option maxHeartbeats 1000000 in
theorem w_X12_passesBy_13 (X : Cx g p s m args meth c cX12_passesBy 5 "TrapCornerModel") (hR : 3 ≤ R.frames ∧ 192 ≤ R.locals) (hr : meth.sig.returnType = (some (.boolean))) {res : Int32 × AH} : ∀ (n : Nat) (o0 : Nat) (x1 : Int32) (x2 : Int32) (x3 : Int32) (x4 : Int32) (h : AH) (ls : Array Slot) (H : Heap) (locs : List Loc), f_X12_passesBy_13 n o0 x1 x2 x3 x4 h = some res → Iv g s n0 z0 h H locs 0 0 → lv_has ls 5 [(0, .ref (rfG g o0)), (1, .int x1), (2, .int x2), (3, .int x3), (4, .int x4)] → W p l e R s m args below meth c H locs 0 0 (MQ below (QG g (some (.int res.1)) res.2) args s 0 0 (AG g)) (F0 m 13 ls []) := by
  have hx := X.1
  have hb := X.2.1
  intro n
  induction n with
  | zero =>
    intro o0 x1 x2 x3 x4 h ls H locs hf
    rw [f_X12_passesBy_13.eq_1] at hf
    cases hf
  | succ n ih =>
    intro o0 x1 x2 x3 x4 h ls H locs hf I hl
    rw [f_X12_passesBy_13.eq_2] at hf
    refine lv_iload hx hb dX12_passesBy_13 (lv_at hl 4 rfl) ?_
    refine lv_aload_n hx hb dX12_passesBy_15 rfl (lv_at hl 0 rfl) ?_
    refine lv_iload_n hx hb dX12_passesBy_16 rfl (lv_at hl 1 rfl) ?_
    refine lv_iload_n hx hb dX12_passesBy_17 rfl (lv_at hl 3 rfl) ?_
    obtain ⟨_, g5, hf⟩ := Option.bind_eq_some_iff.mp hf
    obtain ⟨v1, h2, e3, z4, hf⟩ := cN_spec hf
    refine k_Vi (As := [.int x1, .int x3]) (rest := [.int x4]) X I (c_X12_longOf l g o0 x1 x3 e3) z4 g5 vk_TrapCornerModel_345 tw_1684 ⟨Nat.le_trans (by decide) hR.1, Nat.le_trans (by decide) hR.2⟩ ⟨Nat.zero_le _, Nat.zero_le _⟩ rfl hl.1 rfl (Nat.le_of_ble_eq_true rfl) dX12_passesBy_18 (fun H locs I => ?_)
    refine lv_icmp_gt (tgt := 44) hx hb dX12_passesBy_21 (by decide) (fun c6 => ?_) (fun c6 => ?_)
    · rw [if_pos c6] at hf
      refine lv_iconst (v := 0) hx hb dX12_passesBy_44 (by decide) ?_
      cases hf
      exact k_rz X I hr (Or.inl rfl) dX12_passesBy_45
    · rw [if_neg c6] at hf
      refine lv_aload_n hx hb dX12_passesBy_24 rfl (lv_at hl 0 rfl) ?_
      refine lv_iload_n hx hb dX12_passesBy_25 rfl (lv_at hl 1 rfl) ?_
      refine lv_iload_n hx hb dX12_passesBy_26 rfl (lv_at hl 3 rfl) ?_
      refine lv_iload hx hb dX12_passesBy_27 (lv_at hl 4 rfl) ?_
      obtain ⟨_, g11, hf⟩ := Option.bind_eq_some_iff.mp hf
      obtain ⟨v7, h8, e9, z10, hf⟩ := cN_spec hf
      refine k_Vi (As := [.int x1, .int x3, .int x4]) (rest := []) X I (c_X12_cornerAt l g o0 x1 x3 x4 e9) z10 g11 vk_TrapCornerModel_348 tw_1688 ⟨Nat.le_trans (by decide) hR.1, Nat.le_trans (by decide) hR.2⟩ ⟨Nat.zero_le _, Nat.zero_le _⟩ rfl hl.1 rfl (Nat.le_of_ble_eq_true rfl) dX12_passesBy_29 (fun H locs I => ?_)
      refine lv_iload_n hx hb dX12_passesBy_32 rfl (lv_at hl 2 rfl) ?_
      refine lv_icmp_ne (tgt := 38) hx hb dX12_passesBy_33 (by decide) (fun c12 => ?_) (fun c12 => ?_)
      · rw [if_neg c12] at hf
        refine lv_iinc (v := x4 + 1) (lv' := [(4, .int (x4 + 1)), (0, .ref (rfG g o0)), (1, .int x1), (2, .int x2), (3, .int x3)]) hx hb dX12_passesBy_38 hl (k := 4) rfl rfl (by decide) rfl (fun ls hl => ?_)
        refine lv_goto (tgt := 13) hx hb dX12_passesBy_41 (by decide) ?_
        exact ih o0 x1 x2 x3 (x4 + 1) h8 ls H locs hf I (lv_sub hl [1, 2, 3, 4, 0] rfl)
      · rw [if_pos c12] at hf
        refine lv_iconst (v := 1) hx hb dX12_passesBy_36 (by decide) ?_
        cases hf
        exact k_rz X I hr (Or.inr rfl) dX12_passesBy_37
def f_X12_passesBy_0  (o0 : Nat) (x1 : Int32) (x2 : Int32) (h : AH) : Option (Int32 × AH) :=
  (gR [12] h o0 32).bind fun v1 =>
  cN (f_X12_folk v1 x1 2 h) h fun v3 h4 =>
  f_X12_passesBy_13 fu o0 x1 x2 v3 1 h4
set_option maxHeartbeats 1000000 in
theorem w_X12_passesBy_0 (X : Cx g p s m args meth c cX12_passesBy 5 "TrapCornerModel") (hR : 3 ≤ R.frames ∧ 192 ≤ R.locals) (hr : meth.sig.returnType = (some (.boolean))) {res : Int32 × AH} : ∀ (o0 : Nat) (x1 : Int32) (x2 : Int32) (h : AH) (ls : Array Slot) (H : Heap) (locs : List Loc), f_X12_passesBy_0 o0 x1 x2 h = some res → Iv g s n0 z0 h H locs 0 0 → lv_has ls 5 [(0, .ref (rfG g o0)), (1, .int x1), (2, .int x2)] → W p l e R s m args below meth c H locs 0 0 (MQ below (QG g (some (.int res.1)) res.2) args s 0 0 (AG g)) (F0 m 0 ls []) := by
  have hx := X.1
  have hb := X.2.1
  intro o0 x1 x2 h ls H locs hf I hl
  unfold f_X12_passesBy_0 at hf
  refine lv_aload_n hx hb dX12_passesBy_0 rfl (lv_at hl 0 rfl) ?_
  obtain ⟨v1, e2, hf⟩ := Option.bind_eq_some_iff.mp hf
  refine r_gR X I e2 lk_TrapCornerModel_61 dX12_passesBy_1 ?_
  refine lv_iload_n hx hb dX12_passesBy_4 rfl (lv_at hl 1 rfl) ?_
  refine lv_iconst (v := 2) hx hb dX12_passesBy_5 (by decide) ?_
  obtain ⟨v3, h4, e5, z6, hf⟩ := cN_spec hf
  refine k_Si (As := [.ref (rfG g v1), .int x1, .int 2]) (rest := []) X I (c_X12_folk l g v1 x1 2 e5) z6 sk_TrapCornerModel_328 tw_1647 ⟨Nat.le_trans (by decide) hR.1, Nat.le_trans (by decide) hR.2⟩ ⟨Nat.zero_le _, Nat.zero_le _⟩ rfl hl.1 rfl (Nat.le_of_ble_eq_true rfl) dX12_passesBy_6 (fun H locs I => ?_)
  refine lv_istore_n (lv' := [(3, .int v3), (0, .ref (rfG g o0)), (1, .int x1), (2, .int x2)]) hx hb dX12_passesBy_9 rfl hl (by decide) rfl (fun ls hl => ?_)
  refine lv_iconst (v := 1) hx hb dX12_passesBy_10 (by decide) ?_
  refine lv_istore (lv' := [(4, .int 1), (3, .int v3), (0, .ref (rfG g o0)), (1, .int x1), (2, .int x2)]) hx hb dX12_passesBy_11 hl (by decide) rfl (fun ls hl => ?_)
  exact w_X12_passesBy_13 X hR hr fu o0 x1 x2 v3 1 h4 ls H locs hf I (lv_sub hl [2, 3, 4, 1, 0] rfl)
def f_X12_passesBy (o0 : Nat) (x1 : Int32) (x2 : Int32) (h : AH) : Option (Int32 × AH) := f_X12_passesBy_0 o0 x1 x2 h
end
theorem c_X12_passesBy (l : Launch) (g : GG) (o0 : Nat) (x1 : Int32) (x2 : Int32) {h : AH} {res : Int32 × AH} (hf : f_X12_passesBy o0 x1 x2 h = some res) : CM l g yX12_passesBy cX12_passesBy 5 (some (.boolean)) 3 192 0 0 [.ref (rfG g o0), .int x1, .int x2] h (some (.int res.1)) res.2 :=
  k_body (by decide) (Nat.le_of_ble_eq_true rfl) (fun p e s m below meth c R ls hR hr X I hl => w_X12_passesBy_0 X ⟨Nat.le_of_eq hR.1.symm, Nat.le_of_eq hR.2.1.symm⟩ hr o0 x1 x2 h ls s.heap [] hf I (lv_sub hl [0, 1, 2] rfl))
/-! TrapCornerModel.passers(I)I -/
theorem dX12_passers_0 : decode cX12_passers 0 = .ok (.iconst 0, 1) := by decide +kernel
theorem dX12_passers_1 : decode cX12_passers 1 = .ok (.istore_n 2, 1) := by decide +kernel
theorem dX12_passers_2 : decode cX12_passers 2 = .ok (.iconst 0, 1) := by decide +kernel
theorem dX12_passers_3 : decode cX12_passers 3 = .ok (.istore_n 3, 1) := by decide +kernel
theorem dX12_passers_4 : decode cX12_passers 4 = .ok (.iload_n 3, 1) := by decide +kernel
theorem dX12_passers_5 : decode cX12_passers 5 = .ok (.aload_n 0, 1) := by decide +kernel
theorem dX12_passers_6 : decode cX12_passers 6 = .ok (.getfield 297, 3) := by decide +kernel
theorem dX12_passers_9 : decode cX12_passers 9 = .ok (.if_icmp .ge 28, 3) := by decide +kernel
theorem dX12_passers_12 : decode cX12_passers 12 = .ok (.iload_n 2, 1) := by decide +kernel
theorem dX12_passers_13 : decode cX12_passers 13 = .ok (.aload_n 0, 1) := by decide +kernel
theorem dX12_passers_14 : decode cX12_passers 14 = .ok (.iload_n 3, 1) := by decide +kernel
theorem dX12_passers_15 : decode cX12_passers 15 = .ok (.iload_n 1, 1) := by decide +kernel
theorem dX12_passers_16 : decode cX12_passers 16 = .ok (.invokevirtual 458, 3) := by decide +kernel
theorem dX12_passers_19 : decode cX12_passers 19 = .ok (.ifCond .eq 9, 3) := by decide +kernel
theorem dX12_passers_22 : decode cX12_passers 22 = .ok (.iconst 1, 1) := by decide +kernel
theorem dX12_passers_23 : decode cX12_passers 23 = .ok (.iload_n 3, 1) := by decide +kernel
theorem dX12_passers_24 : decode cX12_passers 24 = .ok (.ishl, 1) := by decide +kernel
theorem dX12_passers_25 : decode cX12_passers 25 = .ok (.goto 4, 3) := by decide +kernel
theorem dX12_passers_28 : decode cX12_passers 28 = .ok (.iconst 0, 1) := by decide +kernel
theorem dX12_passers_29 : decode cX12_passers 29 = .ok (.ior, 1) := by decide +kernel
theorem dX12_passers_30 : decode cX12_passers 30 = .ok (.istore_n 2, 1) := by decide +kernel
theorem dX12_passers_31 : decode cX12_passers 31 = .ok (.iinc 3 1, 3) := by decide +kernel
theorem dX12_passers_34 : decode cX12_passers 34 = .ok (.goto (-30), 3) := by decide +kernel
theorem dX12_passers_37 : decode cX12_passers 37 = .ok (.iload_n 2, 1) := by decide +kernel
theorem dX12_passers_38 : decode cX12_passers 38 = .ok (.ireturn, 1) := by decide +kernel
theorem vk_TrapCornerModel_458 : VK "TrapCornerModel" 458 [12] yX12_passesBy 2 := ⟨tw_1859, tw_1861, tw_13, ⟨by decide, by decide⟩, by decide +kernel, fun ci hci => by
  have hci := List.mem_singleton.mp hci
  subst hci
  exact ⟨_, rfl, tp_103⟩⟩
section
variable {g : GG} {p : Program} {l : Launch} {e : Env} {R : Room} {s : State} {m : MethodId} {args : Array Value} {below : List Frame} {meth : Method} {c : Code} {n0 z0 : Nat}
def f_X12_passers_29 (k4 : Nat → Int32 → Int32 → Int32 → AH → Option (Int32 × AH)) (o0 : Nat) (x1 : Int32) (x3 : Int32) (s0 : Int32) (s1 : Int32) (h : AH) : Option (Int32 × AH) :=
  k4 o0 x1 (s0 ||| s1) (x3 + 1) h
set_option maxHeartbeats 1000000 in
theorem w_X12_passers_29 (X : Cx g p s m args meth c cX12_passers 4 "TrapCornerModel") (hR : 4 ≤ R.frames ∧ 256 ≤ R.locals) (hr : meth.sig.returnType = (some (.int))) {res : Int32 × AH} {k4 : Nat → Int32 → Int32 → Int32 → AH → Option (Int32 × AH)} (hk4 : ∀ (o0 : Nat) (x1 : Int32) (x2 : Int32) (x3 : Int32) (h : AH) (ls : Array Slot) (H : Heap) (locs : List Loc), k4 o0 x1 x2 x3 h = some res → Iv g s n0 z0 h H locs 0 0 → lv_has ls 4 [(0, .ref (rfG g o0)), (1, .int x1), (2, .int x2), (3, .int x3)] → W p l e R s m args below meth c H locs 0 0 (MQ below (QG g (some (.int res.1)) res.2) args s 0 0 (AG g)) (F0 m 4 ls [])) : ∀ (o0 : Nat) (x1 : Int32) (x3 : Int32) (s0 : Int32) (s1 : Int32) (h : AH) (ls : Array Slot) (H : Heap) (locs : List Loc), f_X12_passers_29 k4 o0 x1 x3 s0 s1 h = some res → Iv g s n0 z0 h H locs 0 0 → lv_has ls 4 [(0, .ref (rfG g o0)), (1, .int x1), (3, .int x3)] → W p l e R s m args below meth c H locs 0 0 (MQ below (QG g (some (.int res.1)) res.2) args s 0 0 (AG g)) (F0 m 29 ls [.int s1, .int s0]) := by
  have hx := X.1
  have hb := X.2.1
  intro o0 x1 x3 s0 s1 h ls H locs hf I hl
  unfold f_X12_passers_29 at hf
  refine lv_ior hx hb dX12_passers_29 ?_
  refine lv_istore_n (lv' := [(2, .int (s0 ||| s1)), (0, .ref (rfG g o0)), (1, .int x1), (3, .int x3)]) hx hb dX12_passers_30 rfl hl (by decide) rfl (fun ls hl => ?_)
  refine lv_iinc (v := x3 + 1) (lv' := [(3, .int (x3 + 1)), (2, .int (s0 ||| s1)), (0, .ref (rfG g o0)), (1, .int x1)]) hx hb dX12_passers_31 hl (k := 3) rfl rfl (by decide) rfl (fun ls hl => ?_)
  refine lv_goto (tgt := 4) hx hb dX12_passers_34 (by decide) ?_
  exact hk4 o0 x1 (s0 ||| s1) (x3 + 1) h ls H locs hf I (lv_sub hl [2, 3, 1, 0] rfl)
def f_X12_passers_4  : Nat → Nat → Int32 → Int32 → Int32 → AH → Option (Int32 × AH)
  | 0, _, _, _, _, _ => none
  | n + 1, o0, x1, x2, x3, h =>
  (gI [12] h o0 27).bind fun v1 =>
  if v1 ≤ x3 then
    some (x2, h)
  else
    (isC [12] h o0).bind fun _ =>
    cN (f_X12_passesBy o0 x3 x1 h) h fun v4 h5 =>
    if v4 = 0 then
      f_X12_passers_29 (f_X12_passers_4 n) o0 x1 x3 x2 0 h5
    else
      f_X12_passers_29 (f_X12_passers_4 n) o0 x1 x3 x2 (1 <<< (x3 &&& 31)) h5
set_option maxHeartbeats 1000000 in
theorem w_X12_passers_4 (X : Cx g p s m args meth c cX12_passers 4 "TrapCornerModel") (hR : 4 ≤ R.frames ∧ 256 ≤ R.locals) (hr : meth.sig.returnType = (some (.int))) {res : Int32 × AH} : ∀ (n : Nat) (o0 : Nat) (x1 : Int32) (x2 : Int32) (x3 : Int32) (h : AH) (ls : Array Slot) (H : Heap) (locs : List Loc), f_X12_passers_4 n o0 x1 x2 x3 h = some res → Iv g s n0 z0 h H locs 0 0 → lv_has ls 4 [(0, .ref (rfG g o0)), (1, .int x1), (2, .int x2), (3, .int x3)] → W p l e R s m args below meth c H locs 0 0 (MQ below (QG g (some (.int res.1)) res.2) args s 0 0 (AG g)) (F0 m 4 ls []) := by
  have hx := X.1
  have hb := X.2.1
  intro n
  induction n with
  | zero =>
    intro o0 x1 x2 x3 h ls H locs hf
    rw [f_X12_passers_4.eq_1] at hf
    cases hf
  | succ n ih =>
    intro o0 x1 x2 x3 h ls H locs hf I hl
    rw [f_X12_passers_4.eq_2] at hf
    refine lv_iload_n hx hb dX12_passers_4 rfl (lv_at hl 3 rfl) ?_
    refine lv_aload_n hx hb dX12_passers_5 rfl (lv_at hl 0 rfl) ?_
    obtain ⟨v1, e2, hf⟩ := Option.bind_eq_some_iff.mp hf
    refine r_gI X I e2 lk_TrapCornerModel_297 dX12_passers_6 ?_
    refine lv_icmp_ge (tgt := 37) hx hb dX12_passers_9 (by decide) (fun c3 => ?_) (fun c3 => ?_)
    · rw [if_pos c3] at hf
      refine lv_iload_n hx hb dX12_passers_37 rfl (lv_at hl 2 rfl) ?_
      cases hf
      exact k_ri X I hr dX12_passers_38
    · rw [if_neg c3] at hf
      refine lv_iload_n hx hb dX12_passers_12 rfl (lv_at hl 2 rfl) ?_
      refine lv_aload_n hx hb dX12_passers_13 rfl (lv_at hl 0 rfl) ?_
      refine lv_iload_n hx hb dX12_passers_14 rfl (lv_at hl 3 rfl) ?_
      refine lv_iload_n hx hb dX12_passers_15 rfl (lv_at hl 1 rfl) ?_
      obtain ⟨_, g8, hf⟩ := Option.bind_eq_some_iff.mp hf
      obtain ⟨v4, h5, e6, z7, hf⟩ := cN_spec hf
      refine k_Vi (As := [.int x3, .int x1]) (rest := [.int x2]) X I (c_X12_passesBy l g o0 x3 x1 e6) z7 g8 vk_TrapCornerModel_458 tw_1862 ⟨Nat.le_trans (by decide) hR.1, Nat.le_trans (by decide) hR.2⟩ ⟨Nat.zero_le _, Nat.zero_le _⟩ rfl hl.1 rfl (Nat.le_of_ble_eq_true rfl) dX12_passers_16 (fun H locs I => ?_)
      refine lv_if_eq (tgt := 28) hx hb dX12_passers_19 (by decide) (fun c9 => ?_) (fun c9 => ?_)
      · rw [if_pos c9] at hf
        refine lv_iconst (v := 0) hx hb dX12_passers_28 (by decide) ?_
        exact w_X12_passers_29 X hR hr ih o0 x1 x3 x2 0 h5 ls H locs hf I (lv_sub hl [0, 1, 3] rfl)
      · rw [if_neg c9] at hf
        refine lv_iconst (v := 1) hx hb dX12_passers_22 (by decide) ?_
        refine lv_iload_n hx hb dX12_passers_23 rfl (lv_at hl 3 rfl) ?_
        refine lv_ishl hx hb dX12_passers_24 ?_
        refine lv_goto (tgt := 29) hx hb dX12_passers_25 (by decide) ?_
        exact w_X12_passers_29 X hR hr ih o0 x1 x3 x2 (1 <<< (x3 &&& 31)) h5 ls H locs hf I (lv_sub hl [0, 1, 3] rfl)
def f_X12_passers_0  (o0 : Nat) (x1 : Int32) (h : AH) : Option (Int32 × AH) :=
  f_X12_passers_4 fu o0 x1 0 0 h
set_option maxHeartbeats 1000000 in
theorem w_X12_passers_0 (X : Cx g p s m args meth c cX12_passers 4 "TrapCornerModel") (hR : 4 ≤ R.frames ∧ 256 ≤ R.locals) (hr : meth.sig.returnType = (some (.int))) {res : Int32 × AH} : ∀ (o0 : Nat) (x1 : Int32) (h : AH) (ls : Array Slot) (H : Heap) (locs : List Loc), f_X12_passers_0 o0 x1 h = some res → Iv g s n0 z0 h H locs 0 0 → lv_has ls 4 [(0, .ref (rfG g o0)), (1, .int x1)] → W p l e R s m args below meth c H locs 0 0 (MQ below (QG g (some (.int res.1)) res.2) args s 0 0 (AG g)) (F0 m 0 ls []) := by
  have hx := X.1
  have hb := X.2.1
  intro o0 x1 h ls H locs hf I hl
  unfold f_X12_passers_0 at hf
  refine lv_iconst (v := 0) hx hb dX12_passers_0 (by decide) ?_
  refine lv_istore_n (lv' := [(2, .int 0), (0, .ref (rfG g o0)), (1, .int x1)]) hx hb dX12_passers_1 rfl hl (by decide) rfl (fun ls hl => ?_)
  refine lv_iconst (v := 0) hx hb dX12_passers_2 (by decide) ?_
  refine lv_istore_n (lv' := [(3, .int 0), (2, .int 0), (0, .ref (rfG g o0)), (1, .int x1)]) hx hb dX12_passers_3 rfl hl (by decide) rfl (fun ls hl => ?_)
  exact w_X12_passers_4 X hR hr fu o0 x1 0 0 h ls H locs hf I (lv_sub hl [2, 3, 1, 0] rfl)
def f_X12_passers (o0 : Nat) (x1 : Int32) (h : AH) : Option (Int32 × AH) := f_X12_passers_0 o0 x1 h
end
theorem c_X12_passers (l : Launch) (g : GG) (o0 : Nat) (x1 : Int32) {h : AH} {res : Int32 × AH} (hf : f_X12_passers o0 x1 h = some res) : CM l g yX12_passers cX12_passers 4 (some (.int)) 4 256 0 0 [.ref (rfG g o0), .int x1] h (some (.int res.1)) res.2 :=
  k_body (by decide) (Nat.le_of_ble_eq_true rfl) (fun p e s m below meth c R ls hR hr X I hl => w_X12_passers_0 X ⟨Nat.le_of_eq hR.1.symm, Nat.le_of_eq hR.2.1.symm⟩ hr o0 x1 h ls s.heap [] hf I (lv_sub hl [0, 1] rfl))
/-! TrapCornerModel.passes(I)I -/
theorem dX12_passes_0 : decode cX12_passes 0 = .ok (.aload_n 0, 1) := by decide +kernel
theorem dX12_passes_1 : decode cX12_passes 1 = .ok (.iconst 0, 1) := by decide +kernel
theorem dX12_passes_2 : decode cX12_passes 2 = .ok (.putfield 96, 3) := by decide +kernel
theorem dX12_passes_5 : decode cX12_passes 5 = .ok (.aload_n 0, 1) := by decide +kernel
theorem dX12_passes_6 : decode cX12_passes 6 = .ok (.iload_n 1, 1) := by decide +kernel
theorem dX12_passes_7 : decode cX12_passes 7 = .ok (.invokevirtual 380, 3) := by decide +kernel
theorem dX12_passes_10 : decode cX12_passes 10 = .ok (.ifCond .eq 11, 3) := by decide +kernel
theorem dX12_passes_13 : decode cX12_passes 13 = .ok (.aload_n 0, 1) := by decide +kernel
theorem dX12_passes_14 : decode cX12_passes 14 = .ok (.iload_n 1, 1) := by decide +kernel
theorem dX12_passes_15 : decode cX12_passes 15 = .ok (.invokevirtual 461, 3) := by decide +kernel
theorem dX12_passes_18 : decode cX12_passes 18 = .ok (.goto 4, 3) := by decide +kernel
theorem dX12_passes_21 : decode cX12_passes 21 = .ok (.iconst (-1), 1) := by decide +kernel
theorem dX12_passes_22 : decode cX12_passes 22 = .ok (.ireturn, 1) := by decide +kernel
theorem vk_TrapCornerModel_461 : VK "TrapCornerModel" 461 [12] yX12_passers 1 := ⟨tw_1855, tw_1857, tw_13, ⟨by decide, by decide⟩, by decide +kernel, fun ci hci => by
  have hci := List.mem_singleton.mp hci
  subst hci
  exact ⟨_, rfl, tp_102⟩⟩
section
variable {g : GG} {p : Program} {l : Launch} {e : Env} {R : Room} {s : State} {m : MethodId} {args : Array Value} {below : List Frame} {meth : Method} {c : Code} {n0 z0 : Nat}
def f_X12_passes_0  (o0 : Nat) (x1 : Int32) (h : AH) : Option (Int32 × AH) :=
  (pV [12] h o0 0 (.int 0)).bind fun h1 =>
  (isC [12] h1 o0).bind fun _ =>
  cN (f_X12_isCorner o0 x1 h1) h1 fun v3 h4 =>
  if v3 = 0 then
    some ((-1), h4)
  else
    (isC [12] h4 o0).bind fun _ =>
    cN (f_X12_passers o0 x1 h4) h4 fun v9 h10 =>
    some (v9, h10)
set_option maxHeartbeats 1000000 in
theorem w_X12_passes_0 (X : Cx g p s m args meth c cX12_passes 2 "TrapCornerModel") (hR : 5 ≤ R.frames ∧ 320 ≤ R.locals) (hr : meth.sig.returnType = (some (.int))) {res : Int32 × AH} : ∀ (o0 : Nat) (x1 : Int32) (h : AH) (ls : Array Slot) (H : Heap) (locs : List Loc), f_X12_passes_0 o0 x1 h = some res → Iv g s n0 z0 h H locs 0 0 → lv_has ls 2 [(0, .ref (rfG g o0)), (1, .int x1)] → W p l e R s m args below meth c H locs 0 0 (MQ below (QG g (some (.int res.1)) res.2) args s 0 0 (AG g)) (F0 m 0 ls []) := by
  have hx := X.1
  have hb := X.2.1
  intro o0 x1 h ls H locs hf I hl
  unfold f_X12_passes_0 at hf
  refine lv_aload_n hx hb dX12_passes_0 rfl (lv_at hl 0 rfl) ?_
  refine lv_iconst (v := 0) hx hb dX12_passes_1 (by decide) ?_
  obtain ⟨h1, e2, hf⟩ := Option.bind_eq_some_iff.mp hf
  refine r_pI X I e2 lp_TrapCornerModel_96 dX12_passes_2 (fun H locs I => ?_)
  refine lv_aload_n hx hb dX12_passes_5 rfl (lv_at hl 0 rfl) ?_
  refine lv_iload_n hx hb dX12_passes_6 rfl (lv_at hl 1 rfl) ?_
  obtain ⟨_, g7, hf⟩ := Option.bind_eq_some_iff.mp hf
  obtain ⟨v3, h4, e5, z6, hf⟩ := cN_spec hf
  refine k_Vi (As := [.int x1]) (rest := []) X I (c_X12_isCorner l g o0 x1 e5) z6 g7 vk_TrapCornerModel_380 tw_1635 ⟨Nat.le_trans (by decide) hR.1, Nat.le_trans (by decide) hR.2⟩ ⟨Nat.zero_le _, Nat.zero_le _⟩ rfl hl.1 rfl (Nat.le_of_ble_eq_true rfl) dX12_passes_7 (fun H locs I => ?_)
  refine lv_if_eq (tgt := 21) hx hb dX12_passes_10 (by decide) (fun c8 => ?_) (fun c8 => ?_)
  · rw [if_pos c8] at hf
    refine lv_iconst (v := (-1)) hx hb dX12_passes_21 (by decide) ?_
    cases hf
    exact k_ri X I hr dX12_passes_22
  · rw [if_neg c8] at hf
    refine lv_aload_n hx hb dX12_passes_13 rfl (lv_at hl 0 rfl) ?_
    refine lv_iload_n hx hb dX12_passes_14 rfl (lv_at hl 1 rfl) ?_
    obtain ⟨_, g13, hf⟩ := Option.bind_eq_some_iff.mp hf
    obtain ⟨v9, h10, e11, z12, hf⟩ := cN_spec hf
    refine k_Vi (As := [.int x1]) (rest := []) X I (c_X12_passers l g o0 x1 e11) z12 g13 vk_TrapCornerModel_461 tw_1858 ⟨Nat.le_trans (by decide) hR.1, Nat.le_trans (by decide) hR.2⟩ ⟨Nat.zero_le _, Nat.zero_le _⟩ rfl hl.1 rfl (Nat.le_of_ble_eq_true rfl) dX12_passes_15 (fun H locs I => ?_)
    refine lv_goto (tgt := 22) hx hb dX12_passes_18 (by decide) ?_
    cases hf
    exact k_ri X I hr dX12_passes_22
def f_X12_passes (o0 : Nat) (x1 : Int32) (h : AH) : Option (Int32 × AH) := f_X12_passes_0 o0 x1 h
end
theorem c_X12_passes (l : Launch) (g : GG) (o0 : Nat) (x1 : Int32) {h : AH} {res : Int32 × AH} (hf : f_X12_passes o0 x1 h = some res) : CM l g yX12_passes cX12_passes 2 (some (.int)) 5 320 0 0 [.ref (rfG g o0), .int x1] h (some (.int res.1)) res.2 :=
  k_body (by decide) (Nat.le_of_ble_eq_true rfl) (fun p e s m below meth c R ls hR hr X I hl => w_X12_passes_0 X ⟨Nat.le_of_eq hR.1.symm, Nat.le_of_eq hR.2.1.symm⟩ hr o0 x1 h ls s.heap [] hf I (lv_sub hl [0, 1] rfl))
/-! TrapCornerModel.walk(I)I -/
theorem dX12_walk_0 : decode cX12_walk 0 = .ok (.aload_n 0, 1) := by decide +kernel
theorem dX12_walk_1 : decode cX12_walk 1 = .ok (.iconst 0, 1) := by decide +kernel
theorem dX12_walk_2 : decode cX12_walk 2 = .ok (.putfield 96, 3) := by decide +kernel
theorem dX12_walk_5 : decode cX12_walk 5 = .ok (.aload_n 0, 1) := by decide +kernel
theorem dX12_walk_6 : decode cX12_walk 6 = .ok (.iload_n 1, 1) := by decide +kernel
theorem dX12_walk_7 : decode cX12_walk 7 = .ok (.invokevirtual 383, 3) := by decide +kernel
theorem dX12_walk_10 : decode cX12_walk 10 = .ok (.ifCond .eq 20, 3) := by decide +kernel
theorem dX12_walk_13 : decode cX12_walk 13 = .ok (.aload_n 0, 1) := by decide +kernel
theorem dX12_walk_14 : decode cX12_walk 14 = .ok (.iload_n 1, 1) := by decide +kernel
theorem dX12_walk_15 : decode cX12_walk 15 = .ok (.aload_n 0, 1) := by decide +kernel
theorem dX12_walk_16 : decode cX12_walk 16 = .ok (.getfield 61, 3) := by decide +kernel
theorem dX12_walk_19 : decode cX12_walk 19 = .ok (.iload_n 1, 1) := by decide +kernel
theorem dX12_walk_20 : decode cX12_walk 20 = .ok (.iconst 2, 1) := by decide +kernel
theorem dX12_walk_21 : decode cX12_walk 21 = .ok (.invokestatic 328, 3) := by decide +kernel
theorem dX12_walk_24 : decode cX12_walk 24 = .ok (.invokevirtual 345, 3) := by decide +kernel
theorem dX12_walk_27 : decode cX12_walk 27 = .ok (.goto 4, 3) := by decide +kernel
theorem dX12_walk_30 : decode cX12_walk 30 = .ok (.iconst (-1), 1) := by decide +kernel
theorem dX12_walk_31 : decode cX12_walk 31 = .ok (.ireturn, 1) := by decide +kernel
section
variable {g : GG} {p : Program} {l : Launch} {e : Env} {R : Room} {s : State} {m : MethodId} {args : Array Value} {below : List Frame} {meth : Method} {c : Code} {n0 z0 : Nat}
def f_X12_walk_0  (o0 : Nat) (x1 : Int32) (h : AH) : Option (Int32 × AH) :=
  (pV [12] h o0 0 (.int 0)).bind fun h1 =>
  (isC [12] h1 o0).bind fun _ =>
  cN (f_X12_isPerson o0 x1 h1) h1 fun v3 h4 =>
  if v3 = 0 then
    some ((-1), h4)
  else
    (gR [12] h4 o0 32).bind fun v9 =>
    cN (f_X12_folk v9 x1 2 h4) h4 fun v11 h12 =>
    (isC [12] h12 o0).bind fun _ =>
    cN (f_X12_longOf o0 x1 v11 h12) h12 fun v15 h16 =>
    some (v15, h16)
set_option maxHeartbeats 1000000 in
theorem w_X12_walk_0 (X : Cx g p s m args meth c cX12_walk 2 "TrapCornerModel") (hR : 3 ≤ R.frames ∧ 192 ≤ R.locals) (hr : meth.sig.returnType = (some (.int))) {res : Int32 × AH} : ∀ (o0 : Nat) (x1 : Int32) (h : AH) (ls : Array Slot) (H : Heap) (locs : List Loc), f_X12_walk_0 o0 x1 h = some res → Iv g s n0 z0 h H locs 0 0 → lv_has ls 2 [(0, .ref (rfG g o0)), (1, .int x1)] → W p l e R s m args below meth c H locs 0 0 (MQ below (QG g (some (.int res.1)) res.2) args s 0 0 (AG g)) (F0 m 0 ls []) := by
  have hx := X.1
  have hb := X.2.1
  intro o0 x1 h ls H locs hf I hl
  unfold f_X12_walk_0 at hf
  refine lv_aload_n hx hb dX12_walk_0 rfl (lv_at hl 0 rfl) ?_
  refine lv_iconst (v := 0) hx hb dX12_walk_1 (by decide) ?_
  obtain ⟨h1, e2, hf⟩ := Option.bind_eq_some_iff.mp hf
  refine r_pI X I e2 lp_TrapCornerModel_96 dX12_walk_2 (fun H locs I => ?_)
  refine lv_aload_n hx hb dX12_walk_5 rfl (lv_at hl 0 rfl) ?_
  refine lv_iload_n hx hb dX12_walk_6 rfl (lv_at hl 1 rfl) ?_
  obtain ⟨_, g7, hf⟩ := Option.bind_eq_some_iff.mp hf
  obtain ⟨v3, h4, e5, z6, hf⟩ := cN_spec hf
  refine k_Vi (As := [.int x1]) (rest := []) X I (c_X12_isPerson l g o0 x1 e5) z6 g7 vk_TrapCornerModel_383 tw_1643 ⟨Nat.le_trans (by decide) hR.1, Nat.le_trans (by decide) hR.2⟩ ⟨Nat.zero_le _, Nat.zero_le _⟩ rfl hl.1 rfl (Nat.le_of_ble_eq_true rfl) dX12_walk_7 (fun H locs I => ?_)
  refine lv_if_eq (tgt := 30) hx hb dX12_walk_10 (by decide) (fun c8 => ?_) (fun c8 => ?_)
  · rw [if_pos c8] at hf
    refine lv_iconst (v := (-1)) hx hb dX12_walk_30 (by decide) ?_
    cases hf
    exact k_ri X I hr dX12_walk_31
  · rw [if_neg c8] at hf
    refine lv_aload_n hx hb dX12_walk_13 rfl (lv_at hl 0 rfl) ?_
    refine lv_iload_n hx hb dX12_walk_14 rfl (lv_at hl 1 rfl) ?_
    refine lv_aload_n hx hb dX12_walk_15 rfl (lv_at hl 0 rfl) ?_
    obtain ⟨v9, e10, hf⟩ := Option.bind_eq_some_iff.mp hf
    refine r_gR X I e10 lk_TrapCornerModel_61 dX12_walk_16 ?_
    refine lv_iload_n hx hb dX12_walk_19 rfl (lv_at hl 1 rfl) ?_
    refine lv_iconst (v := 2) hx hb dX12_walk_20 (by decide) ?_
    obtain ⟨v11, h12, e13, z14, hf⟩ := cN_spec hf
    refine k_Si (As := [.ref (rfG g v9), .int x1, .int 2]) (rest := [.int x1, .ref (rfG g o0)]) X I (c_X12_folk l g v9 x1 2 e13) z14 sk_TrapCornerModel_328 tw_1647 ⟨Nat.le_trans (by decide) hR.1, Nat.le_trans (by decide) hR.2⟩ ⟨Nat.zero_le _, Nat.zero_le _⟩ rfl hl.1 rfl (Nat.le_of_ble_eq_true rfl) dX12_walk_21 (fun H locs I => ?_)
    obtain ⟨_, g19, hf⟩ := Option.bind_eq_some_iff.mp hf
    obtain ⟨v15, h16, e17, z18, hf⟩ := cN_spec hf
    refine k_Vi (As := [.int x1, .int v11]) (rest := []) X I (c_X12_longOf l g o0 x1 v11 e17) z18 g19 vk_TrapCornerModel_345 tw_1684 ⟨Nat.le_trans (by decide) hR.1, Nat.le_trans (by decide) hR.2⟩ ⟨Nat.zero_le _, Nat.zero_le _⟩ rfl hl.1 rfl (Nat.le_of_ble_eq_true rfl) dX12_walk_24 (fun H locs I => ?_)
    refine lv_goto (tgt := 31) hx hb dX12_walk_27 (by decide) ?_
    cases hf
    exact k_ri X I hr dX12_walk_31
def f_X12_walk (o0 : Nat) (x1 : Int32) (h : AH) : Option (Int32 × AH) := f_X12_walk_0 o0 x1 h
end
theorem c_X12_walk (l : Launch) (g : GG) (o0 : Nat) (x1 : Int32) {h : AH} {res : Int32 × AH} (hf : f_X12_walk o0 x1 h = some res) : CM l g yX12_walk cX12_walk 2 (some (.int)) 3 192 0 0 [.ref (rfG g o0), .int x1] h (some (.int res.1)) res.2 :=
  k_body (by decide) (Nat.le_of_ble_eq_true rfl) (fun p e s m below meth c R ls hR hr X I hl => w_X12_walk_0 X ⟨Nat.le_of_eq hR.1.symm, Nat.le_of_eq hR.2.1.symm⟩ hr o0 x1 h ls s.heap [] hf I (lv_sub hl [0, 1] rfl))
/-! TrapCornerModel.isHonest(I)Z -/
theorem dX12_isHonest_0 : decode cX12_isHonest 0 = .ok (.iconst 0, 1) := by decide +kernel
theorem dX12_isHonest_1 : decode cX12_isHonest 1 = .ok (.istore_n 2, 1) := by decide +kernel
theorem dX12_isHonest_2 : decode cX12_isHonest 2 = .ok (.iload_n 2, 1) := by decide +kernel
theorem dX12_isHonest_3 : decode cX12_isHonest 3 = .ok (.aload_n 0, 1) := by decide +kernel
theorem dX12_isHonest_4 : decode cX12_isHonest 4 = .ok (.getfield 294, 3) := by decide +kernel
theorem dX12_isHonest_7 : decode cX12_isHonest 7 = .ok (.if_icmp .ge 39, 3) := by decide +kernel
theorem dX12_isHonest_10 : decode cX12_isHonest 10 = .ok (.aload_n 0, 1) := by decide +kernel
theorem dX12_isHonest_11 : decode cX12_isHonest 11 = .ok (.iload_n 1, 1) := by decide +kernel
theorem dX12_isHonest_12 : decode cX12_isHonest 12 = .ok (.iload_n 2, 1) := by decide +kernel
theorem dX12_isHonest_13 : decode cX12_isHonest 13 = .ok (.invokevirtual 458, 3) := by decide +kernel
theorem dX12_isHonest_16 : decode cX12_isHonest 16 = .ok (.ifCond .eq 24, 3) := by decide +kernel
theorem dX12_isHonest_19 : decode cX12_isHonest 19 = .ok (.aload_n 0, 1) := by decide +kernel
theorem dX12_isHonest_20 : decode cX12_isHonest 20 = .ok (.getfield 61, 3) := by decide +kernel
theorem dX12_isHonest_23 : decode cX12_isHonest 23 = .ok (.iconst 2, 1) := by decide +kernel
theorem dX12_isHonest_24 : decode cX12_isHonest 24 = .ok (.iload_n 2, 1) := by decide +kernel
theorem dX12_isHonest_25 : decode cX12_isHonest 25 = .ok (.imul, 1) := by decide +kernel
theorem dX12_isHonest_26 : decode cX12_isHonest 26 = .ok (.iconst 0, 1) := by decide +kernel
theorem dX12_isHonest_27 : decode cX12_isHonest 27 = .ok (.iadd, 1) := by decide +kernel
theorem dX12_isHonest_28 : decode cX12_isHonest 28 = .ok (.iaload, 1) := by decide +kernel
theorem dX12_isHonest_29 : decode cX12_isHonest 29 = .ok (.aload_n 0, 1) := by decide +kernel
theorem dX12_isHonest_30 : decode cX12_isHonest 30 = .ok (.iload_n 1, 1) := by decide +kernel
theorem dX12_isHonest_31 : decode cX12_isHonest 31 = .ok (.iconst 0, 1) := by decide +kernel
theorem dX12_isHonest_32 : decode cX12_isHonest 32 = .ok (.invokevirtual 325, 3) := by decide +kernel
theorem dX12_isHonest_35 : decode cX12_isHonest 35 = .ok (.if_icmp .ne 5, 3) := by decide +kernel
theorem dX12_isHonest_38 : decode cX12_isHonest 38 = .ok (.iconst 0, 1) := by decide +kernel
theorem dX12_isHonest_39 : decode cX12_isHonest 39 = .ok (.ireturn, 1) := by decide +kernel
theorem dX12_isHonest_40 : decode cX12_isHonest 40 = .ok (.iinc 2 1, 3) := by decide +kernel
theorem dX12_isHonest_43 : decode cX12_isHonest 43 = .ok (.goto (-41), 3) := by decide +kernel
theorem dX12_isHonest_46 : decode cX12_isHonest 46 = .ok (.iconst 1, 1) := by decide +kernel
theorem dX12_isHonest_47 : decode cX12_isHonest 47 = .ok (.ireturn, 1) := by decide +kernel
section
variable {g : GG} {p : Program} {l : Launch} {e : Env} {R : Room} {s : State} {m : MethodId} {args : Array Value} {below : List Frame} {meth : Method} {c : Code} {n0 z0 : Nat}
def f_X12_isHonest_40 (k2 : Nat → Int32 → Int32 → AH → Option (Int32 × AH)) (o0 : Nat) (x1 : Int32) (x2 : Int32) (h : AH) : Option (Int32 × AH) :=
  k2 o0 x1 (x2 + 1) h
set_option maxHeartbeats 1000000 in
theorem w_X12_isHonest_40 (X : Cx g p s m args meth c cX12_isHonest 3 "TrapCornerModel") (hR : 4 ≤ R.frames ∧ 256 ≤ R.locals) (hr : meth.sig.returnType = (some (.boolean))) {res : Int32 × AH} {k2 : Nat → Int32 → Int32 → AH → Option (Int32 × AH)} (hk2 : ∀ (o0 : Nat) (x1 : Int32) (x2 : Int32) (h : AH) (ls : Array Slot) (H : Heap) (locs : List Loc), k2 o0 x1 x2 h = some res → Iv g s n0 z0 h H locs 0 0 → lv_has ls 3 [(0, .ref (rfG g o0)), (1, .int x1), (2, .int x2)] → W p l e R s m args below meth c H locs 0 0 (MQ below (QG g (some (.int res.1)) res.2) args s 0 0 (AG g)) (F0 m 2 ls [])) : ∀ (o0 : Nat) (x1 : Int32) (x2 : Int32) (h : AH) (ls : Array Slot) (H : Heap) (locs : List Loc), f_X12_isHonest_40 k2 o0 x1 x2 h = some res → Iv g s n0 z0 h H locs 0 0 → lv_has ls 3 [(0, .ref (rfG g o0)), (1, .int x1), (2, .int x2)] → W p l e R s m args below meth c H locs 0 0 (MQ below (QG g (some (.int res.1)) res.2) args s 0 0 (AG g)) (F0 m 40 ls []) := by
  have hx := X.1
  have hb := X.2.1
  intro o0 x1 x2 h ls H locs hf I hl
  unfold f_X12_isHonest_40 at hf
  refine lv_iinc (v := x2 + 1) (lv' := [(2, .int (x2 + 1)), (0, .ref (rfG g o0)), (1, .int x1)]) hx hb dX12_isHonest_40 hl (k := 2) rfl rfl (by decide) rfl (fun ls hl => ?_)
  refine lv_goto (tgt := 2) hx hb dX12_isHonest_43 (by decide) ?_
  exact hk2 o0 x1 (x2 + 1) h ls H locs hf I (lv_sub hl [1, 2, 0] rfl)
def f_X12_isHonest_2  : Nat → Nat → Int32 → Int32 → AH → Option (Int32 × AH)
  | 0, _, _, _, _ => none
  | n + 1, o0, x1, x2, h =>
  (gI [12] h o0 26).bind fun v1 =>
  if v1 ≤ x2 then
    some (1, h)
  else
    (isC [12] h o0).bind fun _ =>
    cN (f_X12_passesBy o0 x1 x2 h) h fun v4 h5 =>
    if v4 = 0 then
      f_X12_isHonest_40 (f_X12_isHonest_2 n) o0 x1 x2 h5
    else
      (gR [12] h5 o0 32).bind fun v10 =>
      (aI 0 h5 v10 ((2 * x2) + 0)).bind fun v12 =>
      (isC [12] h5 o0).bind fun _ =>
      cN (f_X12_of o0 x1 0 h5) h5 fun v14 h15 =>
      if v12 = v14 then
        some (0, h15)
      else
        f_X12_isHonest_40 (f_X12_isHonest_2 n) o0 x1 x2 h15
set_option maxHeartbeats 1000000 in
theorem w_X12_isHonest_2 (X : Cx g p s m args meth c cX12_isHonest 3 "TrapCornerModel") (hR : 4 ≤ R.frames ∧ 256 ≤ R.locals) (hr : meth.sig.returnType = (some (.boolean))) {res : Int32 × AH} : ∀ (n : Nat) (o0 : Nat) (x1 : Int32) (x2 : Int32) (h : AH) (ls : Array Slot) (H : Heap) (locs : List Loc), f_X12_isHonest_2 n o0 x1 x2 h = some res → Iv g s n0 z0 h H locs 0 0 → lv_has ls 3 [(0, .ref (rfG g o0)), (1, .int x1), (2, .int x2)] → W p l e R s m args below meth c H locs 0 0 (MQ below (QG g (some (.int res.1)) res.2) args s 0 0 (AG g)) (F0 m 2 ls []) := by
  have hx := X.1
  have hb := X.2.1
  intro n
  induction n with
  | zero =>
    intro o0 x1 x2 h ls H locs hf
    rw [f_X12_isHonest_2.eq_1] at hf
    cases hf
  | succ n ih =>
    intro o0 x1 x2 h ls H locs hf I hl
    rw [f_X12_isHonest_2.eq_2] at hf
    refine lv_iload_n hx hb dX12_isHonest_2 rfl (lv_at hl 2 rfl) ?_
    refine lv_aload_n hx hb dX12_isHonest_3 rfl (lv_at hl 0 rfl) ?_
    obtain ⟨v1, e2, hf⟩ := Option.bind_eq_some_iff.mp hf
    refine r_gI X I e2 lk_TrapCornerModel_294 dX12_isHonest_4 ?_
    refine lv_icmp_ge (tgt := 46) hx hb dX12_isHonest_7 (by decide) (fun c3 => ?_) (fun c3 => ?_)
    · rw [if_pos c3] at hf
      refine lv_iconst (v := 1) hx hb dX12_isHonest_46 (by decide) ?_
      cases hf
      exact k_rz X I hr (Or.inr rfl) dX12_isHonest_47
    · rw [if_neg c3] at hf
      refine lv_aload_n hx hb dX12_isHonest_10 rfl (lv_at hl 0 rfl) ?_
      refine lv_iload_n hx hb dX12_isHonest_11 rfl (lv_at hl 1 rfl) ?_
      refine lv_iload_n hx hb dX12_isHonest_12 rfl (lv_at hl 2 rfl) ?_
      obtain ⟨_, g8, hf⟩ := Option.bind_eq_some_iff.mp hf
      obtain ⟨v4, h5, e6, z7, hf⟩ := cN_spec hf
      refine k_Vi (As := [.int x1, .int x2]) (rest := []) X I (c_X12_passesBy l g o0 x1 x2 e6) z7 g8 vk_TrapCornerModel_458 tw_1862 ⟨Nat.le_trans (by decide) hR.1, Nat.le_trans (by decide) hR.2⟩ ⟨Nat.zero_le _, Nat.zero_le _⟩ rfl hl.1 rfl (Nat.le_of_ble_eq_true rfl) dX12_isHonest_13 (fun H locs I => ?_)
      refine lv_if_eq (tgt := 40) hx hb dX12_isHonest_16 (by decide) (fun c9 => ?_) (fun c9 => ?_)
      · rw [if_pos c9] at hf
        exact w_X12_isHonest_40 X hR hr ih o0 x1 x2 h5 ls H locs hf I (lv_sub hl [0, 1, 2] rfl)
      · rw [if_neg c9] at hf
        refine lv_aload_n hx hb dX12_isHonest_19 rfl (lv_at hl 0 rfl) ?_
        obtain ⟨v10, e11, hf⟩ := Option.bind_eq_some_iff.mp hf
        refine r_gR X I e11 lk_TrapCornerModel_61 dX12_isHonest_20 ?_
        refine lv_iconst (v := 2) hx hb dX12_isHonest_23 (by decide) ?_
        refine lv_iload_n hx hb dX12_isHonest_24 rfl (lv_at hl 2 rfl) ?_
        refine lv_imul hx hb dX12_isHonest_25 ?_
        refine lv_iconst (v := 0) hx hb dX12_isHonest_26 (by decide) ?_
        refine lv_iadd hx hb dX12_isHonest_27 ?_
        obtain ⟨v12, e13, hf⟩ := Option.bind_eq_some_iff.mp hf
        refine r_aI0 X I e13 dX12_isHonest_28 ?_
        refine lv_aload_n hx hb dX12_isHonest_29 rfl (lv_at hl 0 rfl) ?_
        refine lv_iload_n hx hb dX12_isHonest_30 rfl (lv_at hl 1 rfl) ?_
        refine lv_iconst (v := 0) hx hb dX12_isHonest_31 (by decide) ?_
        obtain ⟨_, g18, hf⟩ := Option.bind_eq_some_iff.mp hf
        obtain ⟨v14, h15, e16, z17, hf⟩ := cN_spec hf
        refine k_Vi (As := [.int x1, .int 0]) (rest := [.int v12]) X I (c_X12_of l g o0 x1 0 e16) z17 g18 vk_TrapCornerModel_325 tw_1651 ⟨Nat.le_trans (by decide) hR.1, Nat.le_trans (by decide) hR.2⟩ ⟨Nat.zero_le _, Nat.zero_le _⟩ rfl hl.1 rfl (Nat.le_of_ble_eq_true rfl) dX12_isHonest_32 (fun H locs I => ?_)
        refine lv_icmp_ne (tgt := 40) hx hb dX12_isHonest_35 (by decide) (fun c19 => ?_) (fun c19 => ?_)
        · rw [if_neg c19] at hf
          exact w_X12_isHonest_40 X hR hr ih o0 x1 x2 h15 ls H locs hf I (lv_sub hl [0, 1, 2] rfl)
        · rw [if_pos c19] at hf
          refine lv_iconst (v := 0) hx hb dX12_isHonest_38 (by decide) ?_
          cases hf
          exact k_rz X I hr (Or.inl rfl) dX12_isHonest_39
def f_X12_isHonest_0  (o0 : Nat) (x1 : Int32) (h : AH) : Option (Int32 × AH) :=
  f_X12_isHonest_2 fu o0 x1 0 h
set_option maxHeartbeats 1000000 in
theorem w_X12_isHonest_0 (X : Cx g p s m args meth c cX12_isHonest 3 "TrapCornerModel") (hR : 4 ≤ R.frames ∧ 256 ≤ R.locals) (hr : meth.sig.returnType = (some (.boolean))) {res : Int32 × AH} : ∀ (o0 : Nat) (x1 : Int32) (h : AH) (ls : Array Slot) (H : Heap) (locs : List Loc), f_X12_isHonest_0 o0 x1 h = some res → Iv g s n0 z0 h H locs 0 0 → lv_has ls 3 [(0, .ref (rfG g o0)), (1, .int x1)] → W p l e R s m args below meth c H locs 0 0 (MQ below (QG g (some (.int res.1)) res.2) args s 0 0 (AG g)) (F0 m 0 ls []) := by
  have hx := X.1
  have hb := X.2.1
  intro o0 x1 h ls H locs hf I hl
  unfold f_X12_isHonest_0 at hf
  refine lv_iconst (v := 0) hx hb dX12_isHonest_0 (by decide) ?_
  refine lv_istore_n (lv' := [(2, .int 0), (0, .ref (rfG g o0)), (1, .int x1)]) hx hb dX12_isHonest_1 rfl hl (by decide) rfl (fun ls hl => ?_)
  exact w_X12_isHonest_2 X hR hr fu o0 x1 0 h ls H locs hf I (lv_sub hl [1, 2, 0] rfl)
def f_X12_isHonest (o0 : Nat) (x1 : Int32) (h : AH) : Option (Int32 × AH) := f_X12_isHonest_0 o0 x1 h
end
theorem c_X12_isHonest (l : Launch) (g : GG) (o0 : Nat) (x1 : Int32) {h : AH} {res : Int32 × AH} (hf : f_X12_isHonest o0 x1 h = some res) : CM l g yX12_isHonest cX12_isHonest 3 (some (.boolean)) 4 256 0 0 [.ref (rfG g o0), .int x1] h (some (.int res.1)) res.2 :=
  k_body (by decide) (Nat.le_of_ble_eq_true rfl) (fun p e s m below meth c R ls hR hr X I hl => w_X12_isHonest_0 X ⟨Nat.le_of_eq hR.1.symm, Nat.le_of_eq hR.2.1.symm⟩ hr o0 x1 h ls s.heap [] hf I (lv_sub hl [0, 1] rfl))
/-! TrapCornerModel.kinds(I)I -/
theorem dX12_kinds_0 : decode cX12_kinds 0 = .ok (.aload_n 0, 1) := by decide +kernel
theorem dX12_kinds_1 : decode cX12_kinds 1 = .ok (.iconst 0, 1) := by decide +kernel
theorem dX12_kinds_2 : decode cX12_kinds 2 = .ok (.putfield 96, 3) := by decide +kernel
theorem dX12_kinds_5 : decode cX12_kinds 5 = .ok (.aload_n 0, 1) := by decide +kernel
theorem dX12_kinds_6 : decode cX12_kinds 6 = .ok (.getfield 297, 3) := by decide +kernel
theorem dX12_kinds_9 : decode cX12_kinds 9 = .ok (.ifCond .eq 15, 3) := by decide +kernel
theorem dX12_kinds_12 : decode cX12_kinds 12 = .ok (.iload_n 1, 1) := by decide +kernel
theorem dX12_kinds_13 : decode cX12_kinds 13 = .ok (.i2l, 1) := by decide +kernel
theorem dX12_kinds_14 : decode cX12_kinds 14 = .ok (.lconst 1, 1) := by decide +kernel
theorem dX12_kinds_15 : decode cX12_kinds 15 = .ok (.ldc2_w 398, 3) := by decide +kernel
theorem dX12_kinds_18 : decode cX12_kinds 18 = .ok (.invokestatic 217, 3) := by decide +kernel
theorem dX12_kinds_21 : decode cX12_kinds 21 = .ok (.ifCond .ne 5, 3) := by decide +kernel
theorem dX12_kinds_24 : decode cX12_kinds 24 = .ok (.iconst (-1), 1) := by decide +kernel
theorem dX12_kinds_25 : decode cX12_kinds 25 = .ok (.ireturn, 1) := by decide +kernel
theorem dX12_kinds_26 : decode cX12_kinds 26 = .ok (.iconst 0, 1) := by decide +kernel
theorem dX12_kinds_27 : decode cX12_kinds 27 = .ok (.istore_n 2, 1) := by decide +kernel
theorem dX12_kinds_28 : decode cX12_kinds 28 = .ok (.iconst 0, 1) := by decide +kernel
theorem dX12_kinds_29 : decode cX12_kinds 29 = .ok (.istore_n 3, 1) := by decide +kernel
theorem dX12_kinds_30 : decode cX12_kinds 30 = .ok (.iload_n 3, 1) := by decide +kernel
theorem dX12_kinds_31 : decode cX12_kinds 31 = .ok (.aload_n 0, 1) := by decide +kernel
theorem dX12_kinds_32 : decode cX12_kinds 32 = .ok (.getfield 297, 3) := by decide +kernel
theorem dX12_kinds_35 : decode cX12_kinds 35 = .ok (.if_icmp .ge 29, 3) := by decide +kernel
theorem dX12_kinds_38 : decode cX12_kinds 38 = .ok (.iload_n 2, 1) := by decide +kernel
theorem dX12_kinds_39 : decode cX12_kinds 39 = .ok (.aload_n 0, 1) := by decide +kernel
theorem dX12_kinds_40 : decode cX12_kinds 40 = .ok (.iload_n 3, 1) := by decide +kernel
theorem dX12_kinds_41 : decode cX12_kinds 41 = .ok (.iconst 0, 1) := by decide +kernel
theorem dX12_kinds_42 : decode cX12_kinds 42 = .ok (.invokevirtual 325, 3) := by decide +kernel
theorem dX12_kinds_45 : decode cX12_kinds 45 = .ok (.iload_n 1, 1) := by decide +kernel
theorem dX12_kinds_46 : decode cX12_kinds 46 = .ok (.if_icmp .ne 9, 3) := by decide +kernel
theorem dX12_kinds_49 : decode cX12_kinds 49 = .ok (.iconst 1, 1) := by decide +kernel
theorem dX12_kinds_50 : decode cX12_kinds 50 = .ok (.iload_n 3, 1) := by decide +kernel
theorem dX12_kinds_51 : decode cX12_kinds 51 = .ok (.ishl, 1) := by decide +kernel
theorem dX12_kinds_52 : decode cX12_kinds 52 = .ok (.goto 4, 3) := by decide +kernel
theorem dX12_kinds_55 : decode cX12_kinds 55 = .ok (.iconst 0, 1) := by decide +kernel
theorem dX12_kinds_56 : decode cX12_kinds 56 = .ok (.ior, 1) := by decide +kernel
theorem dX12_kinds_57 : decode cX12_kinds 57 = .ok (.istore_n 2, 1) := by decide +kernel
theorem dX12_kinds_58 : decode cX12_kinds 58 = .ok (.iinc 3 1, 3) := by decide +kernel
theorem dX12_kinds_61 : decode cX12_kinds 61 = .ok (.goto (-31), 3) := by decide +kernel
theorem dX12_kinds_64 : decode cX12_kinds 64 = .ok (.iload_n 2, 1) := by decide +kernel
theorem dX12_kinds_65 : decode cX12_kinds 65 = .ok (.ireturn, 1) := by decide +kernel
section
variable {g : GG} {p : Program} {l : Launch} {e : Env} {R : Room} {s : State} {m : MethodId} {args : Array Value} {below : List Frame} {meth : Method} {c : Code} {n0 z0 : Nat}
def f_X12_kinds_56 (k30 : Nat → Int32 → Int32 → Int32 → AH → Option (Int32 × AH)) (o0 : Nat) (x1 : Int32) (x3 : Int32) (s0 : Int32) (s1 : Int32) (h : AH) : Option (Int32 × AH) :=
  k30 o0 x1 (s0 ||| s1) (x3 + 1) h
set_option maxHeartbeats 1000000 in
theorem w_X12_kinds_56 (X : Cx g p s m args meth c cX12_kinds 4 "TrapCornerModel") (hR : 2 ≤ R.frames ∧ 128 ≤ R.locals) (hr : meth.sig.returnType = (some (.int))) {res : Int32 × AH} {k30 : Nat → Int32 → Int32 → Int32 → AH → Option (Int32 × AH)} (hk30 : ∀ (o0 : Nat) (x1 : Int32) (x2 : Int32) (x3 : Int32) (h : AH) (ls : Array Slot) (H : Heap) (locs : List Loc), k30 o0 x1 x2 x3 h = some res → Iv g s n0 z0 h H locs 0 0 → lv_has ls 4 [(0, .ref (rfG g o0)), (1, .int x1), (2, .int x2), (3, .int x3)] → W p l e R s m args below meth c H locs 0 0 (MQ below (QG g (some (.int res.1)) res.2) args s 0 0 (AG g)) (F0 m 30 ls [])) : ∀ (o0 : Nat) (x1 : Int32) (x3 : Int32) (s0 : Int32) (s1 : Int32) (h : AH) (ls : Array Slot) (H : Heap) (locs : List Loc), f_X12_kinds_56 k30 o0 x1 x3 s0 s1 h = some res → Iv g s n0 z0 h H locs 0 0 → lv_has ls 4 [(0, .ref (rfG g o0)), (1, .int x1), (3, .int x3)] → W p l e R s m args below meth c H locs 0 0 (MQ below (QG g (some (.int res.1)) res.2) args s 0 0 (AG g)) (F0 m 56 ls [.int s1, .int s0]) := by
  have hx := X.1
  have hb := X.2.1
  intro o0 x1 x3 s0 s1 h ls H locs hf I hl
  unfold f_X12_kinds_56 at hf
  refine lv_ior hx hb dX12_kinds_56 ?_
  refine lv_istore_n (lv' := [(2, .int (s0 ||| s1)), (0, .ref (rfG g o0)), (1, .int x1), (3, .int x3)]) hx hb dX12_kinds_57 rfl hl (by decide) rfl (fun ls hl => ?_)
  refine lv_iinc (v := x3 + 1) (lv' := [(3, .int (x3 + 1)), (2, .int (s0 ||| s1)), (0, .ref (rfG g o0)), (1, .int x1)]) hx hb dX12_kinds_58 hl (k := 3) rfl rfl (by decide) rfl (fun ls hl => ?_)
  refine lv_goto (tgt := 30) hx hb dX12_kinds_61 (by decide) ?_
  exact hk30 o0 x1 (s0 ||| s1) (x3 + 1) h ls H locs hf I (lv_sub hl [2, 3, 1, 0] rfl)
def f_X12_kinds_30  : Nat → Nat → Int32 → Int32 → Int32 → AH → Option (Int32 × AH)
  | 0, _, _, _, _, _ => none
  | n + 1, o0, x1, x2, x3, h =>
  (gI [12] h o0 27).bind fun v1 =>
  if v1 ≤ x3 then
    some (x2, h)
  else
    (isC [12] h o0).bind fun _ =>
    cN (f_X12_of o0 x3 0 h) h fun v4 h5 =>
    if v4 = x1 then
      f_X12_kinds_56 (f_X12_kinds_30 n) o0 x1 x3 x2 (1 <<< (x3 &&& 31)) h5
    else
      f_X12_kinds_56 (f_X12_kinds_30 n) o0 x1 x3 x2 0 h5
set_option maxHeartbeats 1000000 in
theorem w_X12_kinds_30 (X : Cx g p s m args meth c cX12_kinds 4 "TrapCornerModel") (hR : 2 ≤ R.frames ∧ 128 ≤ R.locals) (hr : meth.sig.returnType = (some (.int))) {res : Int32 × AH} : ∀ (n : Nat) (o0 : Nat) (x1 : Int32) (x2 : Int32) (x3 : Int32) (h : AH) (ls : Array Slot) (H : Heap) (locs : List Loc), f_X12_kinds_30 n o0 x1 x2 x3 h = some res → Iv g s n0 z0 h H locs 0 0 → lv_has ls 4 [(0, .ref (rfG g o0)), (1, .int x1), (2, .int x2), (3, .int x3)] → W p l e R s m args below meth c H locs 0 0 (MQ below (QG g (some (.int res.1)) res.2) args s 0 0 (AG g)) (F0 m 30 ls []) := by
  have hx := X.1
  have hb := X.2.1
  intro n
  induction n with
  | zero =>
    intro o0 x1 x2 x3 h ls H locs hf
    rw [f_X12_kinds_30.eq_1] at hf
    cases hf
  | succ n ih =>
    intro o0 x1 x2 x3 h ls H locs hf I hl
    rw [f_X12_kinds_30.eq_2] at hf
    refine lv_iload_n hx hb dX12_kinds_30 rfl (lv_at hl 3 rfl) ?_
    refine lv_aload_n hx hb dX12_kinds_31 rfl (lv_at hl 0 rfl) ?_
    obtain ⟨v1, e2, hf⟩ := Option.bind_eq_some_iff.mp hf
    refine r_gI X I e2 lk_TrapCornerModel_297 dX12_kinds_32 ?_
    refine lv_icmp_ge (tgt := 64) hx hb dX12_kinds_35 (by decide) (fun c3 => ?_) (fun c3 => ?_)
    · rw [if_pos c3] at hf
      refine lv_iload_n hx hb dX12_kinds_64 rfl (lv_at hl 2 rfl) ?_
      cases hf
      exact k_ri X I hr dX12_kinds_65
    · rw [if_neg c3] at hf
      refine lv_iload_n hx hb dX12_kinds_38 rfl (lv_at hl 2 rfl) ?_
      refine lv_aload_n hx hb dX12_kinds_39 rfl (lv_at hl 0 rfl) ?_
      refine lv_iload_n hx hb dX12_kinds_40 rfl (lv_at hl 3 rfl) ?_
      refine lv_iconst (v := 0) hx hb dX12_kinds_41 (by decide) ?_
      obtain ⟨_, g8, hf⟩ := Option.bind_eq_some_iff.mp hf
      obtain ⟨v4, h5, e6, z7, hf⟩ := cN_spec hf
      refine k_Vi (As := [.int x3, .int 0]) (rest := [.int x2]) X I (c_X12_of l g o0 x3 0 e6) z7 g8 vk_TrapCornerModel_325 tw_1651 ⟨Nat.le_trans (by decide) hR.1, Nat.le_trans (by decide) hR.2⟩ ⟨Nat.zero_le _, Nat.zero_le _⟩ rfl hl.1 rfl (Nat.le_of_ble_eq_true rfl) dX12_kinds_42 (fun H locs I => ?_)
      refine lv_iload_n hx hb dX12_kinds_45 rfl (lv_at hl 1 rfl) ?_
      refine lv_icmp_ne (tgt := 55) hx hb dX12_kinds_46 (by decide) (fun c9 => ?_) (fun c9 => ?_)
      · rw [if_neg c9] at hf
        refine lv_iconst (v := 0) hx hb dX12_kinds_55 (by decide) ?_
        exact w_X12_kinds_56 X hR hr ih o0 x1 x3 x2 0 h5 ls H locs hf I (lv_sub hl [0, 1, 3] rfl)
      · rw [if_pos c9] at hf
        refine lv_iconst (v := 1) hx hb dX12_kinds_49 (by decide) ?_
        refine lv_iload_n hx hb dX12_kinds_50 rfl (lv_at hl 3 rfl) ?_
        refine lv_ishl hx hb dX12_kinds_51 ?_
        refine lv_goto (tgt := 56) hx hb dX12_kinds_52 (by decide) ?_
        exact w_X12_kinds_56 X hR hr ih o0 x1 x3 x2 (1 <<< (x3 &&& 31)) h5 ls H locs hf I (lv_sub hl [0, 1, 3] rfl)
def f_X12_kinds_0  (o0 : Nat) (x1 : Int32) (h : AH) : Option (Int32 × AH) :=
  (pV [12] h o0 0 (.int 0)).bind fun h1 =>
  (gI [12] h1 o0 27).bind fun v3 =>
  if v3 = 0 then
    some ((-1), h1)
  else
    cN (f_X12_isIn (x1.toInt64) 1 3 h1) h1 fun v6 h7 =>
    if v6 = 0 then
      some ((-1), h7)
    else
      f_X12_kinds_30 fu o0 x1 0 0 h7
set_option maxHeartbeats 1000000 in
theorem w_X12_kinds_0 (X : Cx g p s m args meth c cX12_kinds 4 "TrapCornerModel") (hR : 2 ≤ R.frames ∧ 128 ≤ R.locals) (hr : meth.sig.returnType = (some (.int))) {res : Int32 × AH} : ∀ (o0 : Nat) (x1 : Int32) (h : AH) (ls : Array Slot) (H : Heap) (locs : List Loc), f_X12_kinds_0 o0 x1 h = some res → Iv g s n0 z0 h H locs 0 0 → lv_has ls 4 [(0, .ref (rfG g o0)), (1, .int x1)] → W p l e R s m args below meth c H locs 0 0 (MQ below (QG g (some (.int res.1)) res.2) args s 0 0 (AG g)) (F0 m 0 ls []) := by
  have hx := X.1
  have hb := X.2.1
  intro o0 x1 h ls H locs hf I hl
  unfold f_X12_kinds_0 at hf
  refine lv_aload_n hx hb dX12_kinds_0 rfl (lv_at hl 0 rfl) ?_
  refine lv_iconst (v := 0) hx hb dX12_kinds_1 (by decide) ?_
  obtain ⟨h1, e2, hf⟩ := Option.bind_eq_some_iff.mp hf
  refine r_pI X I e2 lp_TrapCornerModel_96 dX12_kinds_2 (fun H locs I => ?_)
  refine lv_aload_n hx hb dX12_kinds_5 rfl (lv_at hl 0 rfl) ?_
  obtain ⟨v3, e4, hf⟩ := Option.bind_eq_some_iff.mp hf
  refine r_gI X I e4 lk_TrapCornerModel_297 dX12_kinds_6 ?_
  refine lv_if_eq (tgt := 24) hx hb dX12_kinds_9 (by decide) (fun c5 => ?_) (fun c5 => ?_)
  · rw [if_pos c5] at hf
    refine lv_iconst (v := (-1)) hx hb dX12_kinds_24 (by decide) ?_
    cases hf
    exact k_ri X I hr dX12_kinds_25
  · rw [if_neg c5] at hf
    refine lv_iload_n hx hb dX12_kinds_12 rfl (lv_at hl 1 rfl) ?_
    refine lv_i2l hx hb dX12_kinds_13 rfl ?_
    refine lv_lconst (v := 1) hx hb dX12_kinds_14 (by decide) ?_
    refine lv_ldc2 (v := 3) hx hb X.2.2.2.1 (X.2.2.2.2.1 _ tw_1728) dX12_kinds_15 ?_
    obtain ⟨v6, h7, e8, z9, hf⟩ := cN_spec hf
    refine k_Si (As := [.long (x1.toInt64), .long 1, .long 3]) (rest := []) X I (c_X12_isIn l g (x1.toInt64) 1 3 e8) z9 sk_TrapCornerModel_217 tw_1465 ⟨Nat.le_trans (by decide) hR.1, Nat.le_trans (by decide) hR.2⟩ ⟨Nat.zero_le _, Nat.zero_le _⟩ rfl hl.1 rfl (Nat.le_of_ble_eq_true rfl) dX12_kinds_18 (fun H locs I => ?_)
    refine lv_if_ne (tgt := 26) hx hb dX12_kinds_21 (by decide) (fun c10 => ?_) (fun c10 => ?_)
    · rw [if_neg c10] at hf
      refine lv_iconst (v := 0) hx hb dX12_kinds_26 (by decide) ?_
      refine lv_istore_n (lv' := [(2, .int 0), (0, .ref (rfG g o0)), (1, .int x1)]) hx hb dX12_kinds_27 rfl hl (by decide) rfl (fun ls hl => ?_)
      refine lv_iconst (v := 0) hx hb dX12_kinds_28 (by decide) ?_
      refine lv_istore_n (lv' := [(3, .int 0), (2, .int 0), (0, .ref (rfG g o0)), (1, .int x1)]) hx hb dX12_kinds_29 rfl hl (by decide) rfl (fun ls hl => ?_)
      exact w_X12_kinds_30 X hR hr fu o0 x1 0 0 h7 ls H locs hf I (lv_sub hl [2, 3, 1, 0] rfl)
    · rw [if_pos c10] at hf
      refine lv_iconst (v := (-1)) hx hb dX12_kinds_24 (by decide) ?_
      cases hf
      exact k_ri X I hr dX12_kinds_25
def f_X12_kinds (o0 : Nat) (x1 : Int32) (h : AH) : Option (Int32 × AH) := f_X12_kinds_0 o0 x1 h
end
theorem c_X12_kinds (l : Launch) (g : GG) (o0 : Nat) (x1 : Int32) {h : AH} {res : Int32 × AH} (hf : f_X12_kinds o0 x1 h = some res) : CM l g yX12_kinds cX12_kinds 4 (some (.int)) 2 128 0 0 [.ref (rfG g o0), .int x1] h (some (.int res.1)) res.2 :=
  k_body (by decide) (Nat.le_of_ble_eq_true rfl) (fun p e s m below meth c R ls hR hr X I hl => w_X12_kinds_0 X ⟨Nat.le_of_eq hR.1.symm, Nat.le_of_eq hR.2.1.symm⟩ hr o0 x1 h ls s.heap [] hf I (lv_sub hl [0, 1] rfl))
/-! TrapCornerModel.shares(II)I -/
theorem dX12_shares_0 : decode cX12_shares 0 = .ok (.aload_n 0, 1) := by decide +kernel
theorem dX12_shares_1 : decode cX12_shares 1 = .ok (.iconst 0, 1) := by decide +kernel
theorem dX12_shares_2 : decode cX12_shares 2 = .ok (.putfield 96, 3) := by decide +kernel
theorem dX12_shares_5 : decode cX12_shares 5 = .ok (.aload_n 0, 1) := by decide +kernel
theorem dX12_shares_6 : decode cX12_shares 6 = .ok (.iload_n 1, 1) := by decide +kernel
theorem dX12_shares_7 : decode cX12_shares 7 = .ok (.invokevirtual 380, 3) := by decide +kernel
theorem dX12_shares_10 : decode cX12_shares 10 = .ok (.ifCond .eq 15, 3) := by decide +kernel
theorem dX12_shares_13 : decode cX12_shares 13 = .ok (.iload_n 2, 1) := by decide +kernel
theorem dX12_shares_14 : decode cX12_shares 14 = .ok (.i2l, 1) := by decide +kernel
theorem dX12_shares_15 : decode cX12_shares 15 = .ok (.lconst 0, 1) := by decide +kernel
theorem dX12_shares_16 : decode cX12_shares 16 = .ok (.ldc2_w 481, 3) := by decide +kernel
theorem dX12_shares_19 : decode cX12_shares 19 = .ok (.invokestatic 217, 3) := by decide +kernel
theorem dX12_shares_22 : decode cX12_shares 22 = .ok (.ifCond .ne 5, 3) := by decide +kernel
theorem dX12_shares_25 : decode cX12_shares 25 = .ok (.iconst (-1), 1) := by decide +kernel
theorem dX12_shares_26 : decode cX12_shares 26 = .ok (.ireturn, 1) := by decide +kernel
theorem dX12_shares_27 : decode cX12_shares 27 = .ok (.iconst 0, 1) := by decide +kernel
theorem dX12_shares_28 : decode cX12_shares 28 = .ok (.istore_n 3, 1) := by decide +kernel
theorem dX12_shares_29 : decode cX12_shares 29 = .ok (.iconst 0, 1) := by decide +kernel
theorem dX12_shares_30 : decode cX12_shares 30 = .ok (.istore 4, 2) := by decide +kernel
theorem dX12_shares_32 : decode cX12_shares 32 = .ok (.iload 4, 2) := by decide +kernel
theorem dX12_shares_34 : decode cX12_shares 34 = .ok (.aload_n 0, 1) := by decide +kernel
theorem dX12_shares_35 : decode cX12_shares 35 = .ok (.getfield 294, 3) := by decide +kernel
theorem dX12_shares_38 : decode cX12_shares 38 = .ok (.if_icmp .ge 23, 3) := by decide +kernel
theorem dX12_shares_41 : decode cX12_shares 41 = .ok (.iload_n 3, 1) := by decide +kernel
theorem dX12_shares_42 : decode cX12_shares 42 = .ok (.aload_n 0, 1) := by decide +kernel
theorem dX12_shares_43 : decode cX12_shares 43 = .ok (.getfield 61, 3) := by decide +kernel
theorem dX12_shares_46 : decode cX12_shares 46 = .ok (.iconst 2, 1) := by decide +kernel
theorem dX12_shares_47 : decode cX12_shares 47 = .ok (.iload 4, 2) := by decide +kernel
theorem dX12_shares_49 : decode cX12_shares 49 = .ok (.imul, 1) := by decide +kernel
theorem dX12_shares_50 : decode cX12_shares 50 = .ok (.iconst 1, 1) := by decide +kernel
theorem dX12_shares_51 : decode cX12_shares 51 = .ok (.iadd, 1) := by decide +kernel
theorem dX12_shares_52 : decode cX12_shares 52 = .ok (.iaload, 1) := by decide +kernel
theorem dX12_shares_53 : decode cX12_shares 53 = .ok (.iadd, 1) := by decide +kernel
theorem dX12_shares_54 : decode cX12_shares 54 = .ok (.istore_n 3, 1) := by decide +kernel
theorem dX12_shares_55 : decode cX12_shares 55 = .ok (.iinc 4 1, 3) := by decide +kernel
theorem dX12_shares_58 : decode cX12_shares 58 = .ok (.goto (-26), 3) := by decide +kernel
theorem dX12_shares_61 : decode cX12_shares 61 = .ok (.iload_n 3, 1) := by decide +kernel
theorem dX12_shares_62 : decode cX12_shares 62 = .ok (.ifCond .ne 7, 3) := by decide +kernel
theorem dX12_shares_65 : decode cX12_shares 65 = .ok (.iconst 0, 1) := by decide +kernel
theorem dX12_shares_66 : decode cX12_shares 66 = .ok (.goto 17, 3) := by decide +kernel
theorem dX12_shares_69 : decode cX12_shares 69 = .ok (.iload_n 2, 1) := by decide +kernel
theorem dX12_shares_70 : decode cX12_shares 70 = .ok (.aload_n 0, 1) := by decide +kernel
theorem dX12_shares_71 : decode cX12_shares 71 = .ok (.getfield 61, 3) := by decide +kernel
theorem dX12_shares_74 : decode cX12_shares 74 = .ok (.iconst 2, 1) := by decide +kernel
theorem dX12_shares_75 : decode cX12_shares 75 = .ok (.iload_n 1, 1) := by decide +kernel
theorem dX12_shares_76 : decode cX12_shares 76 = .ok (.imul, 1) := by decide +kernel
theorem dX12_shares_77 : decode cX12_shares 77 = .ok (.iconst 1, 1) := by decide +kernel
theorem dX12_shares_78 : decode cX12_shares 78 = .ok (.iadd, 1) := by decide +kernel
theorem dX12_shares_79 : decode cX12_shares 79 = .ok (.iaload, 1) := by decide +kernel
theorem dX12_shares_80 : decode cX12_shares 80 = .ok (.imul, 1) := by decide +kernel
theorem dX12_shares_81 : decode cX12_shares 81 = .ok (.iload_n 3, 1) := by decide +kernel
theorem dX12_shares_82 : decode cX12_shares 82 = .ok (.idiv, 1) := by decide +kernel
theorem dX12_shares_83 : decode cX12_shares 83 = .ok (.ireturn, 1) := by decide +kernel
section
variable {g : GG} {p : Program} {l : Launch} {e : Env} {R : Room} {s : State} {m : MethodId} {args : Array Value} {below : List Frame} {meth : Method} {c : Code} {n0 z0 : Nat}
def f_X12_shares_32  : Nat → Nat → Int32 → Int32 → Int32 → Int32 → AH → Option (Int32 × AH)
  | 0, _, _, _, _, _, _ => none
  | n + 1, o0, x1, x2, x3, x4, h =>
  (gI [12] h o0 26).bind fun v1 =>
  if v1 ≤ x4 then
    if x3 = 0 then
      some (0, h)
    else
      (gR [12] h o0 32).bind fun v5 =>
      (aI 0 h v5 ((2 * x1) + 1)).bind fun v7 =>
      if x3 = 0 then none else
      some ((x2 * v7) / x3, h)
  else
    (gR [12] h o0 32).bind fun v10 =>
    (aI 0 h v10 ((2 * x4) + 1)).bind fun v12 =>
    f_X12_shares_32  n o0 x1 x2 (x3 + v12) (x4 + 1) h
set_option maxHeartbeats 1000000 in
theorem w_X12_shares_32 (X : Cx g p s m args meth c cX12_shares 5 "TrapCornerModel") (hR : 2 ≤ R.frames ∧ 128 ≤ R.locals) (hr : meth.sig.returnType = (some (.int))) {res : Int32 × AH} : ∀ (n : Nat) (o0 : Nat) (x1 : Int32) (x2 : Int32) (x3 : Int32) (x4 : Int32) (h : AH) (ls : Array Slot) (H : Heap) (locs : List Loc), f_X12_shares_32 n o0 x1 x2 x3 x4 h = some res → Iv g s n0 z0 h H locs 0 0 → lv_has ls 5 [(0, .ref (rfG g o0)), (1, .int x1), (2, .int x2), (3, .int x3), (4, .int x4)] → W p l e R s m args below meth c H locs 0 0 (MQ below (QG g (some (.int res.1)) res.2) args s 0 0 (AG g)) (F0 m 32 ls []) := by
  have hx := X.1
  have hb := X.2.1
  intro n
  induction n with
  | zero =>
    intro o0 x1 x2 x3 x4 h ls H locs hf
    rw [f_X12_shares_32.eq_1] at hf
    cases hf
  | succ n ih =>
    intro o0 x1 x2 x3 x4 h ls H locs hf I hl
    rw [f_X12_shares_32.eq_2] at hf
    refine lv_iload hx hb dX12_shares_32 (lv_at hl 4 rfl) ?_
    refine lv_aload_n hx hb dX12_shares_34 rfl (lv_at hl 0 rfl) ?_
    obtain ⟨v1, e2, hf⟩ := Option.bind_eq_some_iff.mp hf
    refine r_gI X I e2 lk_TrapCornerModel_294 dX12_shares_35 ?_
    refine lv_icmp_ge (tgt := 61) hx hb dX12_shares_38 (by decide) (fun c3 => ?_) (fun c3 => ?_)
    · rw [if_pos c3] at hf
      refine lv_iload_n hx hb dX12_shares_61 rfl (lv_at hl 3 rfl) ?_
      refine lv_if_ne (tgt := 69) hx hb dX12_shares_62 (by decide) (fun c4 => ?_) (fun c4 => ?_)
      · rw [if_neg c4] at hf
        refine lv_iload_n hx hb dX12_shares_69 rfl (lv_at hl 2 rfl) ?_
        refine lv_aload_n hx hb dX12_shares_70 rfl (lv_at hl 0 rfl) ?_
        obtain ⟨v5, e6, hf⟩ := Option.bind_eq_some_iff.mp hf
        refine r_gR X I e6 lk_TrapCornerModel_61 dX12_shares_71 ?_
        refine lv_iconst (v := 2) hx hb dX12_shares_74 (by decide) ?_
        refine lv_iload_n hx hb dX12_shares_75 rfl (lv_at hl 1 rfl) ?_
        refine lv_imul hx hb dX12_shares_76 ?_
        refine lv_iconst (v := 1) hx hb dX12_shares_77 (by decide) ?_
        refine lv_iadd hx hb dX12_shares_78 ?_
        obtain ⟨v7, e8, hf⟩ := Option.bind_eq_some_iff.mp hf
        refine r_aI0 X I e8 dX12_shares_79 ?_
        refine lv_imul hx hb dX12_shares_80 ?_
        refine lv_iload_n hx hb dX12_shares_81 rfl (lv_at hl 3 rfl) ?_
        have c9 : ¬ x3 = 0 := fun z => by rw [if_pos z] at hf; cases hf
        rw [if_neg c9] at hf
        refine lv_idiv hx hb dX12_shares_82 c9 ?_
        cases hf
        exact k_ri X I hr dX12_shares_83
      · rw [if_pos c4] at hf
        refine lv_iconst (v := 0) hx hb dX12_shares_65 (by decide) ?_
        refine lv_goto (tgt := 83) hx hb dX12_shares_66 (by decide) ?_
        cases hf
        exact k_ri X I hr dX12_shares_83
    · rw [if_neg c3] at hf
      refine lv_iload_n hx hb dX12_shares_41 rfl (lv_at hl 3 rfl) ?_
      refine lv_aload_n hx hb dX12_shares_42 rfl (lv_at hl 0 rfl) ?_
      obtain ⟨v10, e11, hf⟩ := Option.bind_eq_some_iff.mp hf
      refine r_gR X I e11 lk_TrapCornerModel_61 dX12_shares_43 ?_
      refine lv_iconst (v := 2) hx hb dX12_shares_46 (by decide) ?_
      refine lv_iload hx hb dX12_shares_47 (lv_at hl 4 rfl) ?_
      refine lv_imul hx hb dX12_shares_49 ?_
      refine lv_iconst (v := 1) hx hb dX12_shares_50 (by decide) ?_
      refine lv_iadd hx hb dX12_shares_51 ?_
      obtain ⟨v12, e13, hf⟩ := Option.bind_eq_some_iff.mp hf
      refine r_aI0 X I e13 dX12_shares_52 ?_
      refine lv_iadd hx hb dX12_shares_53 ?_
      refine lv_istore_n (lv' := [(3, .int (x3 + v12)), (0, .ref (rfG g o0)), (1, .int x1), (2, .int x2), (4, .int x4)]) hx hb dX12_shares_54 rfl hl (by decide) rfl (fun ls hl => ?_)
      refine lv_iinc (v := x4 + 1) (lv' := [(4, .int (x4 + 1)), (3, .int (x3 + v12)), (0, .ref (rfG g o0)), (1, .int x1), (2, .int x2)]) hx hb dX12_shares_55 hl (k := 4) rfl rfl (by decide) rfl (fun ls hl => ?_)
      refine lv_goto (tgt := 32) hx hb dX12_shares_58 (by decide) ?_
      exact ih o0 x1 x2 (x3 + v12) (x4 + 1) h ls H locs hf I (lv_sub hl [2, 3, 4, 1, 0] rfl)
def f_X12_shares_0  (o0 : Nat) (x1 : Int32) (x2 : Int32) (h : AH) : Option (Int32 × AH) :=
  (pV [12] h o0 0 (.int 0)).bind fun h1 =>
  (isC [12] h1 o0).bind fun _ =>
  cN (f_X12_isCorner o0 x1 h1) h1 fun v3 h4 =>
  if v3 = 0 then
    some ((-1), h4)
  else
    cN (f_X12_isIn (x2.toInt64) 0 999 h4) h4 fun v9 h10 =>
    if v9 = 0 then
      some ((-1), h10)
    else
      f_X12_shares_32 fu o0 x1 x2 0 0 h10
set_option maxHeartbeats 1000000 in
theorem w_X12_shares_0 (X : Cx g p s m args meth c cX12_shares 5 "TrapCornerModel") (hR : 2 ≤ R.frames ∧ 128 ≤ R.locals) (hr : meth.sig.returnType = (some (.int))) {res : Int32 × AH} : ∀ (o0 : Nat) (x1 : Int32) (x2 : Int32) (h : AH) (ls : Array Slot) (H : Heap) (locs : List Loc), f_X12_shares_0 o0 x1 x2 h = some res → Iv g s n0 z0 h H locs 0 0 → lv_has ls 5 [(0, .ref (rfG g o0)), (1, .int x1), (2, .int x2)] → W p l e R s m args below meth c H locs 0 0 (MQ below (QG g (some (.int res.1)) res.2) args s 0 0 (AG g)) (F0 m 0 ls []) := by
  have hx := X.1
  have hb := X.2.1
  intro o0 x1 x2 h ls H locs hf I hl
  unfold f_X12_shares_0 at hf
  refine lv_aload_n hx hb dX12_shares_0 rfl (lv_at hl 0 rfl) ?_
  refine lv_iconst (v := 0) hx hb dX12_shares_1 (by decide) ?_
  obtain ⟨h1, e2, hf⟩ := Option.bind_eq_some_iff.mp hf
  refine r_pI X I e2 lp_TrapCornerModel_96 dX12_shares_2 (fun H locs I => ?_)
  refine lv_aload_n hx hb dX12_shares_5 rfl (lv_at hl 0 rfl) ?_
  refine lv_iload_n hx hb dX12_shares_6 rfl (lv_at hl 1 rfl) ?_
  obtain ⟨_, g7, hf⟩ := Option.bind_eq_some_iff.mp hf
  obtain ⟨v3, h4, e5, z6, hf⟩ := cN_spec hf
  refine k_Vi (As := [.int x1]) (rest := []) X I (c_X12_isCorner l g o0 x1 e5) z6 g7 vk_TrapCornerModel_380 tw_1635 ⟨Nat.le_trans (by decide) hR.1, Nat.le_trans (by decide) hR.2⟩ ⟨Nat.zero_le _, Nat.zero_le _⟩ rfl hl.1 rfl (Nat.le_of_ble_eq_true rfl) dX12_shares_7 (fun H locs I => ?_)
  refine lv_if_eq (tgt := 25) hx hb dX12_shares_10 (by decide) (fun c8 => ?_) (fun c8 => ?_)
  · rw [if_pos c8] at hf
    refine lv_iconst (v := (-1)) hx hb dX12_shares_25 (by decide) ?_
    cases hf
    exact k_ri X I hr dX12_shares_26
  · rw [if_neg c8] at hf
    refine lv_iload_n hx hb dX12_shares_13 rfl (lv_at hl 2 rfl) ?_
    refine lv_i2l hx hb dX12_shares_14 rfl ?_
    refine lv_lconst (v := 0) hx hb dX12_shares_15 (by decide) ?_
    refine lv_ldc2 (v := 999) hx hb X.2.2.2.1 (X.2.2.2.2.1 _ tw_1924) dX12_shares_16 ?_
    obtain ⟨v9, h10, e11, z12, hf⟩ := cN_spec hf
    refine k_Si (As := [.long (x2.toInt64), .long 0, .long 999]) (rest := []) X I (c_X12_isIn l g (x2.toInt64) 0 999 e11) z12 sk_TrapCornerModel_217 tw_1465 ⟨Nat.le_trans (by decide) hR.1, Nat.le_trans (by decide) hR.2⟩ ⟨Nat.zero_le _, Nat.zero_le _⟩ rfl hl.1 rfl (Nat.le_of_ble_eq_true rfl) dX12_shares_19 (fun H locs I => ?_)
    refine lv_if_ne (tgt := 27) hx hb dX12_shares_22 (by decide) (fun c13 => ?_) (fun c13 => ?_)
    · rw [if_neg c13] at hf
      refine lv_iconst (v := 0) hx hb dX12_shares_27 (by decide) ?_
      refine lv_istore_n (lv' := [(3, .int 0), (0, .ref (rfG g o0)), (1, .int x1), (2, .int x2)]) hx hb dX12_shares_28 rfl hl (by decide) rfl (fun ls hl => ?_)
      refine lv_iconst (v := 0) hx hb dX12_shares_29 (by decide) ?_
      refine lv_istore (lv' := [(4, .int 0), (3, .int 0), (0, .ref (rfG g o0)), (1, .int x1), (2, .int x2)]) hx hb dX12_shares_30 hl (by decide) rfl (fun ls hl => ?_)
      exact w_X12_shares_32 X hR hr fu o0 x1 x2 0 0 h10 ls H locs hf I (lv_sub hl [2, 3, 4, 1, 0] rfl)
    · rw [if_pos c13] at hf
      refine lv_iconst (v := (-1)) hx hb dX12_shares_25 (by decide) ?_
      cases hf
      exact k_ri X I hr dX12_shares_26
def f_X12_shares (o0 : Nat) (x1 : Int32) (x2 : Int32) (h : AH) : Option (Int32 × AH) := f_X12_shares_0 o0 x1 x2 h
end
theorem c_X12_shares (l : Launch) (g : GG) (o0 : Nat) (x1 : Int32) (x2 : Int32) {h : AH} {res : Int32 × AH} (hf : f_X12_shares o0 x1 x2 h = some res) : CM l g yX12_shares cX12_shares 5 (some (.int)) 2 128 0 0 [.ref (rfG g o0), .int x1, .int x2] h (some (.int res.1)) res.2 :=
  k_body (by decide) (Nat.le_of_ble_eq_true rfl) (fun p e s m below meth c R ls hR hr X I hl => w_X12_shares_0 X ⟨Nat.le_of_eq hR.1.symm, Nat.le_of_eq hR.2.1.symm⟩ hr o0 x1 x2 h ls s.heap [] hf I (lv_sub hl [0, 1, 2] rfl))
/-! TrapCornerModel.image()I -/
theorem dX12_image_0 : decode cX12_image 0 = .ok (.aload_n 0, 1) := by decide +kernel
theorem dX12_image_1 : decode cX12_image 1 = .ok (.iconst 0, 1) := by decide +kernel
theorem dX12_image_2 : decode cX12_image 2 = .ok (.putfield 96, 3) := by decide +kernel
theorem dX12_image_5 : decode cX12_image 5 = .ok (.aload_n 0, 1) := by decide +kernel
theorem dX12_image_6 : decode cX12_image 6 = .ok (.getfield 297, 3) := by decide +kernel
theorem dX12_image_9 : decode cX12_image 9 = .ok (.ifCond .ne 5, 3) := by decide +kernel
theorem dX12_image_12 : decode cX12_image 12 = .ok (.iconst (-1), 1) := by decide +kernel
theorem dX12_image_13 : decode cX12_image 13 = .ok (.ireturn, 1) := by decide +kernel
theorem dX12_image_14 : decode cX12_image 14 = .ok (.iconst 0, 1) := by decide +kernel
theorem dX12_image_15 : decode cX12_image 15 = .ok (.istore_n 1, 1) := by decide +kernel
theorem dX12_image_16 : decode cX12_image 16 = .ok (.iload_n 1, 1) := by decide +kernel
theorem dX12_image_17 : decode cX12_image 17 = .ok (.sipush 212, 3) := by decide +kernel
theorem dX12_image_20 : decode cX12_image 20 = .ok (.if_icmp .ge 21, 3) := by decide +kernel
theorem dX12_image_23 : decode cX12_image 23 = .ok (.aload_n 0, 1) := by decide +kernel
theorem dX12_image_24 : decode cX12_image 24 = .ok (.getfield 93, 3) := by decide +kernel
theorem dX12_image_27 : decode cX12_image 27 = .ok (.iload_n 1, 1) := by decide +kernel
theorem dX12_image_28 : decode cX12_image 28 = .ok (.aload_n 0, 1) := by decide +kernel
theorem dX12_image_29 : decode cX12_image 29 = .ok (.getfield 61, 3) := by decide +kernel
theorem dX12_image_32 : decode cX12_image 32 = .ok (.iload_n 1, 1) := by decide +kernel
theorem dX12_image_33 : decode cX12_image 33 = .ok (.iaload, 1) := by decide +kernel
theorem dX12_image_34 : decode cX12_image 34 = .ok (.iastore, 1) := by decide +kernel
theorem dX12_image_35 : decode cX12_image 35 = .ok (.iinc 1 1, 3) := by decide +kernel
theorem dX12_image_38 : decode cX12_image 38 = .ok (.goto (-22), 3) := by decide +kernel
theorem dX12_image_41 : decode cX12_image 41 = .ok (.aload_n 0, 1) := by decide +kernel
theorem dX12_image_42 : decode cX12_image 42 = .ok (.iconst 1, 1) := by decide +kernel
theorem dX12_image_43 : decode cX12_image 43 = .ok (.putfield 306, 3) := by decide +kernel
theorem dX12_image_46 : decode cX12_image 46 = .ok (.aload_n 0, 1) := by decide +kernel
theorem dX12_image_47 : decode cX12_image 47 = .ok (.getfield 61, 3) := by decide +kernel
theorem dX12_image_50 : decode cX12_image 50 = .ok (.bipush 30, 2) := by decide +kernel
theorem dX12_image_52 : decode cX12_image 52 = .ok (.iaload, 1) := by decide +kernel
theorem dX12_image_53 : decode cX12_image 53 = .ok (.ireturn, 1) := by decide +kernel
theorem lp_TrapCornerModel_306 : LKP "TrapCornerModel" 306 [12] 49 (.boolean) := by
  intro ci hci
  have hci := List.mem_singleton.mp hci
  subst hci
  exact ⟨RX12, TX12, 50, "TrapCornerModel", ck_12, by decide, tw_1336, Or.inl rfl, rfl, by decide +kernel⟩
theorem lk_TrapCornerModel_93 : LK "TrapCornerModel" 93 [12] 48 := by
  intro ci hci
  have hci := List.mem_singleton.mp hci
  subst hci
  exact ⟨RX12, TX12, 50, "TrapCornerModel", ck_12, by decide, tw_1335, Or.inl rfl⟩
section
variable {g : GG} {p : Program} {l : Launch} {e : Env} {R : Room} {s : State} {m : MethodId} {args : Array Value} {below : List Frame} {meth : Method} {c : Code} {n0 z0 : Nat}
def f_X12_image_16  : Nat → Nat → Int32 → AH → Option (Int32 × AH)
  | 0, _, _, _ => none
  | n + 1, o0, x1, h =>
  if 212 ≤ x1 then
    (pZ [12] h o0 49 1).bind fun h2 =>
    (gR [12] h2 o0 32).bind fun v4 =>
    (aI 0 h2 v4 30).bind fun v6 =>
    some (v6, h2)
  else
    (gR [12] h o0 48).bind fun v8 =>
    (gR [12] h o0 32).bind fun v10 =>
    (aI 0 h v10 x1).bind fun v12 =>
    (uI 0 h v8 x1 v12).bind fun h14 =>
    f_X12_image_16  n o0 (x1 + 1) h14
set_option maxHeartbeats 1000000 in
theorem w_X12_image_16 (X : Cx g p s m args meth c cX12_image 2 "TrapCornerModel") (hR : 1 ≤ R.frames ∧ 64 ≤ R.locals) (hr : meth.sig.returnType = (some (.int))) {res : Int32 × AH} : ∀ (n : Nat) (o0 : Nat) (x1 : Int32) (h : AH) (ls : Array Slot) (H : Heap) (locs : List Loc), f_X12_image_16 n o0 x1 h = some res → Iv g s n0 z0 h H locs 0 0 → lv_has ls 2 [(0, .ref (rfG g o0)), (1, .int x1)] → W p l e R s m args below meth c H locs 0 0 (MQ below (QG g (some (.int res.1)) res.2) args s 0 0 (AG g)) (F0 m 16 ls []) := by
  have hx := X.1
  have hb := X.2.1
  intro n
  induction n with
  | zero =>
    intro o0 x1 h ls H locs hf
    rw [f_X12_image_16.eq_1] at hf
    cases hf
  | succ n ih =>
    intro o0 x1 h ls H locs hf I hl
    rw [f_X12_image_16.eq_2] at hf
    refine lv_iload_n hx hb dX12_image_16 rfl (lv_at hl 1 rfl) ?_
    refine lv_sipush (v := 212) hx hb dX12_image_17 (by decide) ?_
    refine lv_icmp_ge (tgt := 41) hx hb dX12_image_20 (by decide) (fun c1 => ?_) (fun c1 => ?_)
    · rw [if_pos c1] at hf
      refine lv_aload_n hx hb dX12_image_41 rfl (lv_at hl 0 rfl) ?_
      refine lv_iconst (v := 1) hx hb dX12_image_42 (by decide) ?_
      obtain ⟨h2, e3, hf⟩ := Option.bind_eq_some_iff.mp hf
      refine r_pZ X I e3 lp_TrapCornerModel_306 dX12_image_43 (fun H locs I => ?_)
      refine lv_aload_n hx hb dX12_image_46 rfl (lv_at hl 0 rfl) ?_
      obtain ⟨v4, e5, hf⟩ := Option.bind_eq_some_iff.mp hf
      refine r_gR X I e5 lk_TrapCornerModel_61 dX12_image_47 ?_
      refine lv_bipush (v := 30) hx hb dX12_image_50 (by decide) ?_
      obtain ⟨v6, e7, hf⟩ := Option.bind_eq_some_iff.mp hf
      refine r_aI0 X I e7 dX12_image_52 ?_
      cases hf
      exact k_ri X I hr dX12_image_53
    · rw [if_neg c1] at hf
      refine lv_aload_n hx hb dX12_image_23 rfl (lv_at hl 0 rfl) ?_
      obtain ⟨v8, e9, hf⟩ := Option.bind_eq_some_iff.mp hf
      refine r_gR X I e9 lk_TrapCornerModel_93 dX12_image_24 ?_
      refine lv_iload_n hx hb dX12_image_27 rfl (lv_at hl 1 rfl) ?_
      refine lv_aload_n hx hb dX12_image_28 rfl (lv_at hl 0 rfl) ?_
      obtain ⟨v10, e11, hf⟩ := Option.bind_eq_some_iff.mp hf
      refine r_gR X I e11 lk_TrapCornerModel_61 dX12_image_29 ?_
      refine lv_iload_n hx hb dX12_image_32 rfl (lv_at hl 1 rfl) ?_
      obtain ⟨v12, e13, hf⟩ := Option.bind_eq_some_iff.mp hf
      refine r_aI0 X I e13 dX12_image_33 ?_
      obtain ⟨h14, e15, hf⟩ := Option.bind_eq_some_iff.mp hf
      refine r_uI0 X I e15 dX12_image_34 (fun H locs I => ?_)
      refine lv_iinc (v := x1 + 1) (lv' := [(1, .int (x1 + 1)), (0, .ref (rfG g o0))]) hx hb dX12_image_35 hl (k := 1) rfl rfl (by decide) rfl (fun ls hl => ?_)
      refine lv_goto (tgt := 16) hx hb dX12_image_38 (by decide) ?_
      exact ih o0 (x1 + 1) h14 ls H locs hf I (lv_sub hl [1, 0] rfl)
def f_X12_image_0  (o0 : Nat) (h : AH) : Option (Int32 × AH) :=
  (pV [12] h o0 0 (.int 0)).bind fun h1 =>
  (gI [12] h1 o0 27).bind fun v3 =>
  if v3 = 0 then
    some ((-1), h1)
  else
    f_X12_image_16 fu o0 0 h1
set_option maxHeartbeats 1000000 in
theorem w_X12_image_0 (X : Cx g p s m args meth c cX12_image 2 "TrapCornerModel") (hR : 1 ≤ R.frames ∧ 64 ≤ R.locals) (hr : meth.sig.returnType = (some (.int))) {res : Int32 × AH} : ∀ (o0 : Nat) (h : AH) (ls : Array Slot) (H : Heap) (locs : List Loc), f_X12_image_0 o0 h = some res → Iv g s n0 z0 h H locs 0 0 → lv_has ls 2 [(0, .ref (rfG g o0))] → W p l e R s m args below meth c H locs 0 0 (MQ below (QG g (some (.int res.1)) res.2) args s 0 0 (AG g)) (F0 m 0 ls []) := by
  have hx := X.1
  have hb := X.2.1
  intro o0 h ls H locs hf I hl
  unfold f_X12_image_0 at hf
  refine lv_aload_n hx hb dX12_image_0 rfl (lv_at hl 0 rfl) ?_
  refine lv_iconst (v := 0) hx hb dX12_image_1 (by decide) ?_
  obtain ⟨h1, e2, hf⟩ := Option.bind_eq_some_iff.mp hf
  refine r_pI X I e2 lp_TrapCornerModel_96 dX12_image_2 (fun H locs I => ?_)
  refine lv_aload_n hx hb dX12_image_5 rfl (lv_at hl 0 rfl) ?_
  obtain ⟨v3, e4, hf⟩ := Option.bind_eq_some_iff.mp hf
  refine r_gI X I e4 lk_TrapCornerModel_297 dX12_image_6 ?_
  refine lv_if_ne (tgt := 14) hx hb dX12_image_9 (by decide) (fun c5 => ?_) (fun c5 => ?_)
  · rw [if_neg c5] at hf
    refine lv_iconst (v := 0) hx hb dX12_image_14 (by decide) ?_
    refine lv_istore_n (lv' := [(1, .int 0), (0, .ref (rfG g o0))]) hx hb dX12_image_15 rfl hl (by decide) rfl (fun ls hl => ?_)
    exact w_X12_image_16 X hR hr fu o0 0 h1 ls H locs hf I (lv_sub hl [1, 0] rfl)
  · rw [if_pos c5] at hf
    refine lv_iconst (v := (-1)) hx hb dX12_image_12 (by decide) ?_
    cases hf
    exact k_ri X I hr dX12_image_13
def f_X12_image (o0 : Nat) (h : AH) : Option (Int32 × AH) := f_X12_image_0 o0 h
end
theorem c_X12_image (l : Launch) (g : GG) (o0 : Nat) {h : AH} {res : Int32 × AH} (hf : f_X12_image o0 h = some res) : CM l g yX12_image cX12_image 2 (some (.int)) 1 64 0 0 [.ref (rfG g o0)] h (some (.int res.1)) res.2 :=
  k_body (by decide) (Nat.le_of_ble_eq_true rfl) (fun p e s m below meth c R ls hR hr X I hl => w_X12_image_0 X ⟨Nat.le_of_eq hR.1.symm, Nat.le_of_eq hR.2.1.symm⟩ hr o0 h ls s.heap [] hf I (lv_sub hl [0] rfl))
/-! TrapCornerModel.back()I -/
theorem dX12_back_0 : decode cX12_back 0 = .ok (.aload_n 0, 1) := by decide +kernel
theorem dX12_back_1 : decode cX12_back 1 = .ok (.iconst 0, 1) := by decide +kernel
theorem dX12_back_2 : decode cX12_back 2 = .ok (.putfield 96, 3) := by decide +kernel
theorem dX12_back_5 : decode cX12_back 5 = .ok (.aload_n 0, 1) := by decide +kernel
theorem dX12_back_6 : decode cX12_back 6 = .ok (.getfield 306, 3) := by decide +kernel
theorem dX12_back_9 : decode cX12_back 9 = .ok (.ifCond .ne 5, 3) := by decide +kernel
theorem dX12_back_12 : decode cX12_back 12 = .ok (.iconst (-1), 1) := by decide +kernel
theorem dX12_back_13 : decode cX12_back 13 = .ok (.ireturn, 1) := by decide +kernel
theorem dX12_back_14 : decode cX12_back 14 = .ok (.iconst 0, 1) := by decide +kernel
theorem dX12_back_15 : decode cX12_back 15 = .ok (.istore_n 1, 1) := by decide +kernel
theorem dX12_back_16 : decode cX12_back 16 = .ok (.iload_n 1, 1) := by decide +kernel
theorem dX12_back_17 : decode cX12_back 17 = .ok (.sipush 212, 3) := by decide +kernel
theorem dX12_back_20 : decode cX12_back 20 = .ok (.if_icmp .ge 21, 3) := by decide +kernel
theorem dX12_back_23 : decode cX12_back 23 = .ok (.aload_n 0, 1) := by decide +kernel
theorem dX12_back_24 : decode cX12_back 24 = .ok (.getfield 61, 3) := by decide +kernel
theorem dX12_back_27 : decode cX12_back 27 = .ok (.iload_n 1, 1) := by decide +kernel
theorem dX12_back_28 : decode cX12_back 28 = .ok (.aload_n 0, 1) := by decide +kernel
theorem dX12_back_29 : decode cX12_back 29 = .ok (.getfield 93, 3) := by decide +kernel
theorem dX12_back_32 : decode cX12_back 32 = .ok (.iload_n 1, 1) := by decide +kernel
theorem dX12_back_33 : decode cX12_back 33 = .ok (.iaload, 1) := by decide +kernel
theorem dX12_back_34 : decode cX12_back 34 = .ok (.iastore, 1) := by decide +kernel
theorem dX12_back_35 : decode cX12_back 35 = .ok (.iinc 1 1, 3) := by decide +kernel
theorem dX12_back_38 : decode cX12_back 38 = .ok (.goto (-22), 3) := by decide +kernel
theorem dX12_back_41 : decode cX12_back 41 = .ok (.aload_n 0, 1) := by decide +kernel
theorem dX12_back_42 : decode cX12_back 42 = .ok (.iconst 0, 1) := by decide +kernel
theorem dX12_back_43 : decode cX12_back 43 = .ok (.putfield 303, 3) := by decide +kernel
theorem dX12_back_46 : decode cX12_back 46 = .ok (.aload_n 0, 1) := by decide +kernel
theorem dX12_back_47 : decode cX12_back 47 = .ok (.getfield 61, 3) := by decide +kernel
theorem dX12_back_50 : decode cX12_back 50 = .ok (.bipush 30, 2) := by decide +kernel
theorem dX12_back_52 : decode cX12_back 52 = .ok (.iaload, 1) := by decide +kernel
theorem dX12_back_53 : decode cX12_back 53 = .ok (.ireturn, 1) := by decide +kernel
theorem lk_TrapCornerModel_306 : LK "TrapCornerModel" 306 [12] 49 := by
  intro ci hci
  have hci := List.mem_singleton.mp hci
  subst hci
  exact ⟨RX12, TX12, 50, "TrapCornerModel", ck_12, by decide, tw_1336, Or.inl rfl⟩
section
variable {g : GG} {p : Program} {l : Launch} {e : Env} {R : Room} {s : State} {m : MethodId} {args : Array Value} {below : List Frame} {meth : Method} {c : Code} {n0 z0 : Nat}
def f_X12_back_16  : Nat → Nat → Int32 → AH → Option (Int32 × AH)
  | 0, _, _, _ => none
  | n + 1, o0, x1, h =>
  if 212 ≤ x1 then
    (pV [12] h o0 43 (.int 0)).bind fun h2 =>
    (gR [12] h2 o0 32).bind fun v4 =>
    (aI 0 h2 v4 30).bind fun v6 =>
    some (v6, h2)
  else
    (gR [12] h o0 32).bind fun v8 =>
    (gR [12] h o0 48).bind fun v10 =>
    (aI 0 h v10 x1).bind fun v12 =>
    (uI 0 h v8 x1 v12).bind fun h14 =>
    f_X12_back_16  n o0 (x1 + 1) h14
set_option maxHeartbeats 1000000 in
theorem w_X12_back_16 (X : Cx g p s m args meth c cX12_back 2 "TrapCornerModel") (hR : 1 ≤ R.frames ∧ 64 ≤ R.locals) (hr : meth.sig.returnType = (some (.int))) {res : Int32 × AH} : ∀ (n : Nat) (o0 : Nat) (x1 : Int32) (h : AH) (ls : Array Slot) (H : Heap) (locs : List Loc), f_X12_back_16 n o0 x1 h = some res → Iv g s n0 z0 h H locs 0 0 → lv_has ls 2 [(0, .ref (rfG g o0)), (1, .int x1)] → W p l e R s m args below meth c H locs 0 0 (MQ below (QG g (some (.int res.1)) res.2) args s 0 0 (AG g)) (F0 m 16 ls []) := by
  have hx := X.1
  have hb := X.2.1
  intro n
  induction n with
  | zero =>
    intro o0 x1 h ls H locs hf
    rw [f_X12_back_16.eq_1] at hf
    cases hf
  | succ n ih =>
    intro o0 x1 h ls H locs hf I hl
    rw [f_X12_back_16.eq_2] at hf
    refine lv_iload_n hx hb dX12_back_16 rfl (lv_at hl 1 rfl) ?_
    refine lv_sipush (v := 212) hx hb dX12_back_17 (by decide) ?_
    refine lv_icmp_ge (tgt := 41) hx hb dX12_back_20 (by decide) (fun c1 => ?_) (fun c1 => ?_)
    · rw [if_pos c1] at hf
      refine lv_aload_n hx hb dX12_back_41 rfl (lv_at hl 0 rfl) ?_
      refine lv_iconst (v := 0) hx hb dX12_back_42 (by decide) ?_
      obtain ⟨h2, e3, hf⟩ := Option.bind_eq_some_iff.mp hf
      refine r_pI X I e3 lp_TrapCornerModel_303 dX12_back_43 (fun H locs I => ?_)
      refine lv_aload_n hx hb dX12_back_46 rfl (lv_at hl 0 rfl) ?_
      obtain ⟨v4, e5, hf⟩ := Option.bind_eq_some_iff.mp hf
      refine r_gR X I e5 lk_TrapCornerModel_61 dX12_back_47 ?_
      refine lv_bipush (v := 30) hx hb dX12_back_50 (by decide) ?_
      obtain ⟨v6, e7, hf⟩ := Option.bind_eq_some_iff.mp hf
      refine r_aI0 X I e7 dX12_back_52 ?_
      cases hf
      exact k_ri X I hr dX12_back_53
    · rw [if_neg c1] at hf
      refine lv_aload_n hx hb dX12_back_23 rfl (lv_at hl 0 rfl) ?_
      obtain ⟨v8, e9, hf⟩ := Option.bind_eq_some_iff.mp hf
      refine r_gR X I e9 lk_TrapCornerModel_61 dX12_back_24 ?_
      refine lv_iload_n hx hb dX12_back_27 rfl (lv_at hl 1 rfl) ?_
      refine lv_aload_n hx hb dX12_back_28 rfl (lv_at hl 0 rfl) ?_
      obtain ⟨v10, e11, hf⟩ := Option.bind_eq_some_iff.mp hf
      refine r_gR X I e11 lk_TrapCornerModel_93 dX12_back_29 ?_
      refine lv_iload_n hx hb dX12_back_32 rfl (lv_at hl 1 rfl) ?_
      obtain ⟨v12, e13, hf⟩ := Option.bind_eq_some_iff.mp hf
      refine r_aI0 X I e13 dX12_back_33 ?_
      obtain ⟨h14, e15, hf⟩ := Option.bind_eq_some_iff.mp hf
      refine r_uI0 X I e15 dX12_back_34 (fun H locs I => ?_)
      refine lv_iinc (v := x1 + 1) (lv' := [(1, .int (x1 + 1)), (0, .ref (rfG g o0))]) hx hb dX12_back_35 hl (k := 1) rfl rfl (by decide) rfl (fun ls hl => ?_)
      refine lv_goto (tgt := 16) hx hb dX12_back_38 (by decide) ?_
      exact ih o0 (x1 + 1) h14 ls H locs hf I (lv_sub hl [1, 0] rfl)
def f_X12_back_0  (o0 : Nat) (h : AH) : Option (Int32 × AH) :=
  (pV [12] h o0 0 (.int 0)).bind fun h1 =>
  (gI [12] h1 o0 49).bind fun v3 =>
  if v3 = 0 then
    some ((-1), h1)
  else
    f_X12_back_16 fu o0 0 h1
set_option maxHeartbeats 1000000 in
theorem w_X12_back_0 (X : Cx g p s m args meth c cX12_back 2 "TrapCornerModel") (hR : 1 ≤ R.frames ∧ 64 ≤ R.locals) (hr : meth.sig.returnType = (some (.int))) {res : Int32 × AH} : ∀ (o0 : Nat) (h : AH) (ls : Array Slot) (H : Heap) (locs : List Loc), f_X12_back_0 o0 h = some res → Iv g s n0 z0 h H locs 0 0 → lv_has ls 2 [(0, .ref (rfG g o0))] → W p l e R s m args below meth c H locs 0 0 (MQ below (QG g (some (.int res.1)) res.2) args s 0 0 (AG g)) (F0 m 0 ls []) := by
  have hx := X.1
  have hb := X.2.1
  intro o0 h ls H locs hf I hl
  unfold f_X12_back_0 at hf
  refine lv_aload_n hx hb dX12_back_0 rfl (lv_at hl 0 rfl) ?_
  refine lv_iconst (v := 0) hx hb dX12_back_1 (by decide) ?_
  obtain ⟨h1, e2, hf⟩ := Option.bind_eq_some_iff.mp hf
  refine r_pI X I e2 lp_TrapCornerModel_96 dX12_back_2 (fun H locs I => ?_)
  refine lv_aload_n hx hb dX12_back_5 rfl (lv_at hl 0 rfl) ?_
  obtain ⟨v3, e4, hf⟩ := Option.bind_eq_some_iff.mp hf
  refine r_gI X I e4 lk_TrapCornerModel_306 dX12_back_6 ?_
  refine lv_if_ne (tgt := 14) hx hb dX12_back_9 (by decide) (fun c5 => ?_) (fun c5 => ?_)
  · rw [if_neg c5] at hf
    refine lv_iconst (v := 0) hx hb dX12_back_14 (by decide) ?_
    refine lv_istore_n (lv' := [(1, .int 0), (0, .ref (rfG g o0))]) hx hb dX12_back_15 rfl hl (by decide) rfl (fun ls hl => ?_)
    exact w_X12_back_16 X hR hr fu o0 0 h1 ls H locs hf I (lv_sub hl [1, 0] rfl)
  · rw [if_pos c5] at hf
    refine lv_iconst (v := (-1)) hx hb dX12_back_12 (by decide) ?_
    cases hf
    exact k_ri X I hr dX12_back_13
def f_X12_back (o0 : Nat) (h : AH) : Option (Int32 × AH) := f_X12_back_0 o0 h
end
theorem c_X12_back (l : Launch) (g : GG) (o0 : Nat) {h : AH} {res : Int32 × AH} (hf : f_X12_back o0 h = some res) : CM l g yX12_back cX12_back 2 (some (.int)) 1 64 0 0 [.ref (rfG g o0)] h (some (.int res.1)) res.2 :=
  k_body (by decide) (Nat.le_of_ble_eq_true rfl) (fun p e s m below meth c R ls hR hr X I hl => w_X12_back_0 X ⟨Nat.le_of_eq hR.1.symm, Nat.le_of_eq hR.2.1.symm⟩ hr o0 h ls s.heap [] hf I (lv_sub hl [0] rfl))
