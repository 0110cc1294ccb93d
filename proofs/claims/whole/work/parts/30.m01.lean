/-! TrapCornerModel.readStep(I)V -/
theorem dX12_readStep_0 : decode cX12_readStep 0 = .ok (.ldc_w 267, 3) := by decide +kernel
theorem dX12_readStep_3 : decode cX12_readStep 3 = .ok (.aload_n 0, 1) := by decide +kernel
theorem dX12_readStep_4 : decode cX12_readStep 4 = .ok (.invokevirtual 138, 3) := by decide +kernel
theorem dX12_readStep_7 : decode cX12_readStep 7 = .ok (.invokestatic 225, 3) := by decide +kernel
theorem dX12_readStep_10 : decode cX12_readStep 10 = .ok (.istore_n 2, 1) := by decide +kernel
theorem dX12_readStep_11 : decode cX12_readStep 11 = .ok (.iload_n 2, 1) := by decide +kernel
theorem dX12_readStep_12 : decode cX12_readStep 12 = .ok (.iconst (-1), 1) := by decide +kernel
theorem dX12_readStep_13 : decode cX12_readStep 13 = .ok (.if_icmp .ne 9, 3) := by decide +kernel
theorem dX12_readStep_16 : decode cX12_readStep 16 = .ok (.aload_n 0, 1) := by decide +kernel
theorem dX12_readStep_17 : decode cX12_readStep 17 = .ok (.invokevirtual 134, 3) := by decide +kernel
theorem dX12_readStep_20 : decode cX12_readStep 20 = .ok (.pop, 1) := by decide +kernel
theorem dX12_readStep_21 : decode cX12_readStep 21 = .ok (.return_, 1) := by decide +kernel
theorem dX12_readStep_22 : decode cX12_readStep 22 = .ok (.aload_n 0, 1) := by decide +kernel
theorem dX12_readStep_23 : decode cX12_readStep 23 = .ok (.dup, 1) := by decide +kernel
theorem dX12_readStep_24 : decode cX12_readStep 24 = .ok (.getfield 119, 3) := by decide +kernel
theorem dX12_readStep_27 : decode cX12_readStep 27 = .ok (.iconst 1, 1) := by decide +kernel
theorem dX12_readStep_28 : decode cX12_readStep 28 = .ok (.iadd, 1) := by decide +kernel
theorem dX12_readStep_29 : decode cX12_readStep 29 = .ok (.putfield 119, 3) := by decide +kernel
theorem dX12_readStep_32 : decode cX12_readStep 32 = .ok (.aload_n 0, 1) := by decide +kernel
theorem dX12_readStep_33 : decode cX12_readStep 33 = .ok (.getfield 55, 3) := by decide +kernel
theorem dX12_readStep_36 : decode cX12_readStep 36 = .ok (.iload_n 1, 1) := by decide +kernel
theorem dX12_readStep_37 : decode cX12_readStep 37 = .ok (.iload_n 2, 1) := by decide +kernel
theorem dX12_readStep_38 : decode cX12_readStep 38 = .ok (.iastore, 1) := by decide +kernel
theorem dX12_readStep_39 : decode cX12_readStep 39 = .ok (.aload_n 0, 1) := by decide +kernel
theorem dX12_readStep_40 : decode cX12_readStep 40 = .ok (.getfield 55, 3) := by decide +kernel
theorem dX12_readStep_43 : decode cX12_readStep 43 = .ok (.iload_n 1, 1) := by decide +kernel
theorem dX12_readStep_44 : decode cX12_readStep 44 = .ok (.iconst 1, 1) := by decide +kernel
theorem dX12_readStep_45 : decode cX12_readStep 45 = .ok (.iadd, 1) := by decide +kernel
theorem dX12_readStep_46 : decode cX12_readStep 46 = .ok (.iconst (-1), 1) := by decide +kernel
theorem dX12_readStep_47 : decode cX12_readStep 47 = .ok (.iastore, 1) := by decide +kernel
theorem dX12_readStep_48 : decode cX12_readStep 48 = .ok (.aload_n 0, 1) := by decide +kernel
theorem dX12_readStep_49 : decode cX12_readStep 49 = .ok (.getfield 55, 3) := by decide +kernel
theorem dX12_readStep_52 : decode cX12_readStep 52 = .ok (.iload_n 1, 1) := by decide +kernel
theorem dX12_readStep_53 : decode cX12_readStep 53 = .ok (.iconst 2, 1) := by decide +kernel
theorem dX12_readStep_54 : decode cX12_readStep 54 = .ok (.iadd, 1) := by decide +kernel
theorem dX12_readStep_55 : decode cX12_readStep 55 = .ok (.iconst (-1), 1) := by decide +kernel
theorem dX12_readStep_56 : decode cX12_readStep 56 = .ok (.iastore, 1) := by decide +kernel
theorem dX12_readStep_57 : decode cX12_readStep 57 = .ok (.iload_n 2, 1) := by decide +kernel
theorem dX12_readStep_58 : decode cX12_readStep 58 = .ok (.ifCond .ne 4, 3) := by decide +kernel
theorem dX12_readStep_61 : decode cX12_readStep 61 = .ok (.return_, 1) := by decide +kernel
theorem dX12_readStep_62 : decode cX12_readStep 62 = .ok (.aload_n 0, 1) := by decide +kernel
theorem dX12_readStep_63 : decode cX12_readStep 63 = .ok (.getfield 55, 3) := by decide +kernel
theorem dX12_readStep_66 : decode cX12_readStep 66 = .ok (.iload_n 1, 1) := by decide +kernel
theorem dX12_readStep_67 : decode cX12_readStep 67 = .ok (.iconst 1, 1) := by decide +kernel
theorem dX12_readStep_68 : decode cX12_readStep 68 = .ok (.iadd, 1) := by decide +kernel
theorem dX12_readStep_69 : decode cX12_readStep 69 = .ok (.aload_n 0, 1) := by decide +kernel
theorem dX12_readStep_70 : decode cX12_readStep 70 = .ok (.invokevirtual 269, 3) := by decide +kernel
theorem dX12_readStep_73 : decode cX12_readStep 73 = .ok (.iastore, 1) := by decide +kernel
theorem dX12_readStep_74 : decode cX12_readStep 74 = .ok (.aload_n 0, 1) := by decide +kernel
theorem dX12_readStep_75 : decode cX12_readStep 75 = .ok (.getfield 128, 3) := by decide +kernel
theorem dX12_readStep_78 : decode cX12_readStep 78 = .ok (.iconst (-1), 1) := by decide +kernel
theorem dX12_readStep_79 : decode cX12_readStep 79 = .ok (.if_icmp .ne 20, 3) := by decide +kernel
theorem dX12_readStep_82 : decode cX12_readStep 82 = .ok (.iload_n 2, 1) := by decide +kernel
theorem dX12_readStep_83 : decode cX12_readStep 83 = .ok (.iconst 1, 1) := by decide +kernel
theorem dX12_readStep_84 : decode cX12_readStep 84 = .ok (.if_icmp .ne 15, 3) := by decide +kernel
theorem dX12_readStep_87 : decode cX12_readStep 87 = .ok (.aload_n 0, 1) := by decide +kernel
theorem dX12_readStep_88 : decode cX12_readStep 88 = .ok (.getfield 55, 3) := by decide +kernel
theorem dX12_readStep_91 : decode cX12_readStep 91 = .ok (.iload_n 1, 1) := by decide +kernel
theorem dX12_readStep_92 : decode cX12_readStep 92 = .ok (.iconst 2, 1) := by decide +kernel
theorem dX12_readStep_93 : decode cX12_readStep 93 = .ok (.iadd, 1) := by decide +kernel
theorem dX12_readStep_94 : decode cX12_readStep 94 = .ok (.aload_n 0, 1) := by decide +kernel
theorem dX12_readStep_95 : decode cX12_readStep 95 = .ok (.invokevirtual 269, 3) := by decide +kernel
theorem dX12_readStep_98 : decode cX12_readStep 98 = .ok (.iastore, 1) := by decide +kernel
theorem dX12_readStep_99 : decode cX12_readStep 99 = .ok (.return_, 1) := by decide +kernel
theorem vk_TrapCornerModel_269 : VK "TrapCornerModel" 269 [12] yX12_digit 0 := ⟨tw_1615, tw_1617, tw_13, ⟨by decide, by decide⟩, by decide +kernel, fun ci hci => by
  have hci := List.mem_singleton.mp hci
  subst hci
  exact ⟨_, rfl, tp_76⟩⟩
section
variable {g : GG} {p : Program} {l : Launch} {e : Env} {R : Room} {s : State} {m : MethodId} {args : Array Value} {below : List Frame} {meth : Method} {c : Code} {n0 z0 : Nat}
def f_X12_readStep_0  (o0 : Nat) (x1 : Int32) (h : AH) : Option (Unit × AH) :=
  (isC [12] h o0).bind fun _ =>
  cN (f_X12_look o0 h) h fun v1 h2 =>
  cN (f_X12_spotOf 2000004 v1 h2) h2 fun v6 h7 =>
  if v6 = ((-1)) then
    (isC [12] h7 o0).bind fun _ =>
    cN (f_X12_fails o0 h7) h7 fun v50 h51 =>
    some ((), h51)
  else
    (gI [12] h7 o0 10).bind fun v11 =>
    (pV [12] h7 o0 10 (.int (v11 + 1))).bind fun h13 =>
    (gR [12] h13 o0 24).bind fun v15 =>
    (uI 0 h13 v15 x1 v6).bind fun h17 =>
    (gR [12] h17 o0 24).bind fun v19 =>
    (uI 0 h17 v19 (x1 + 1) ((-1))).bind fun h21 =>
    (gR [12] h21 o0 24).bind fun v23 =>
    (uI 0 h21 v23 (x1 + 2) ((-1))).bind fun h25 =>
    if v6 = 0 then
      some ((), h25)
    else
      (gR [12] h25 o0 24).bind fun v28 =>
      (isC [12] h25 o0).bind fun _ =>
      cN (f_X12_digit o0 h25) h25 fun v30 h31 =>
      (uI 0 h31 v28 (x1 + 1) v30).bind fun h35 =>
      (gI [12] h35 o0 11).bind fun v37 =>
      if v37 = ((-1)) then
        if v6 = 1 then
          (gR [12] h35 o0 24).bind fun v41 =>
          (isC [12] h35 o0).bind fun _ =>
          cN (f_X12_digit o0 h35) h35 fun v43 h44 =>
          (uI 0 h44 v41 (x1 + 2) v43).bind fun h48 =>
          some ((), h48)
        else
          some ((), h35)
      else
        some ((), h35)
set_option maxHeartbeats 1000000 in
theorem w_X12_readStep_0 (X : Cx g p s m args meth c cX12_readStep 3 "TrapCornerModel") (hR : 6 ≤ R.frames ∧ 384 ≤ R.locals) (hr : meth.sig.returnType = none) {res : Unit × AH} : ∀ (o0 : Nat) (x1 : Int32) (h : AH) (ls : Array Slot) (H : Heap) (locs : List Loc), f_X12_readStep_0 o0 x1 h = some res → Iv g s n0 z0 h H locs 0 0 → lv_has ls 3 [(0, .ref (rfG g o0)), (1, .int x1)] → W p l e R s m args below meth c H locs 0 0 (MQ below (QG g none res.2) args s 0 0 (AG g)) (F0 m 0 ls []) := by
  have hx := X.1
  have hb := X.2.1
  intro o0 x1 h ls H locs hf I hl
  unfold f_X12_readStep_0 at hf
  refine r_ldcwS (tx := "dksr") (i := 4) X (by decide) dX12_readStep_0 ?_
  refine lv_aload_n hx hb dX12_readStep_3 rfl (lv_at hl 0 rfl) ?_
  obtain ⟨_, g5, hf⟩ := Option.bind_eq_some_iff.mp hf
  obtain ⟨v1, h2, e3, z4, hf⟩ := cN_spec hf
  refine k_Vi (As := []) (rest := [.ref (rfG g 2000004)]) X I (c_X12_look l g o0 e3) z4 g5 vk_TrapCornerModel_138 tw_1484 ⟨Nat.le_trans (by decide) hR.1, Nat.le_trans (by decide) hR.2⟩ ⟨Nat.zero_le _, Nat.zero_le _⟩ rfl hl.1 rfl (Nat.le_of_ble_eq_true rfl) dX12_readStep_4 (fun H locs I => ?_)
  obtain ⟨v6, h7, e8, z9, hf⟩ := cN_spec hf
  refine k_Si (As := [.ref (rfG g 2000004), .int v1]) (rest := []) X I (c_X12_spotOf l g 2000004 v1 e8) z9 sk_TrapCornerModel_225 tw_1497 ⟨Nat.le_trans (by decide) hR.1, Nat.le_trans (by decide) hR.2⟩ ⟨Nat.zero_le _, Nat.zero_le _⟩ rfl hl.1 rfl (Nat.le_of_ble_eq_true rfl) dX12_readStep_7 (fun H locs I => ?_)
  refine lv_istore_n (lv' := [(2, .int v6), (0, .ref (rfG g o0)), (1, .int x1)]) hx hb dX12_readStep_10 rfl hl (by decide) rfl (fun ls hl => ?_)
  refine lv_iload_n hx hb dX12_readStep_11 rfl (lv_at hl 0 rfl) ?_
  refine lv_iconst (v := (-1)) hx hb dX12_readStep_12 (by decide) ?_
  refine lv_icmp_ne (tgt := 22) hx hb dX12_readStep_13 (by decide) (fun c10 => ?_) (fun c10 => ?_)
  · rw [if_neg c10] at hf
    refine lv_aload_n hx hb dX12_readStep_22 rfl (lv_at hl 1 rfl) ?_
    refine lv_dup hx hb dX12_readStep_23 rfl ?_
    obtain ⟨v11, e12, hf⟩ := Option.bind_eq_some_iff.mp hf
    refine r_gI X I e12 lk_TrapCornerModel_119 dX12_readStep_24 ?_
    refine lv_iconst (v := 1) hx hb dX12_readStep_27 (by decide) ?_
    refine lv_iadd hx hb dX12_readStep_28 ?_
    obtain ⟨h13, e14, hf⟩ := Option.bind_eq_some_iff.mp hf
    refine r_pI X I e14 lp_TrapCornerModel_119 dX12_readStep_29 (fun H locs I => ?_)
    refine lv_aload_n hx hb dX12_readStep_32 rfl (lv_at hl 1 rfl) ?_
    obtain ⟨v15, e16, hf⟩ := Option.bind_eq_some_iff.mp hf
    refine r_gR X I e16 lk_TrapCornerModel_55 dX12_readStep_33 ?_
    refine lv_iload_n hx hb dX12_readStep_36 rfl (lv_at hl 2 rfl) ?_
    refine lv_iload_n hx hb dX12_readStep_37 rfl (lv_at hl 0 rfl) ?_
    obtain ⟨h17, e18, hf⟩ := Option.bind_eq_some_iff.mp hf
    refine r_uI0 X I e18 dX12_readStep_38 (fun H locs I => ?_)
    refine lv_aload_n hx hb dX12_readStep_39 rfl (lv_at hl 1 rfl) ?_
    obtain ⟨v19, e20, hf⟩ := Option.bind_eq_some_iff.mp hf
    refine r_gR X I e20 lk_TrapCornerModel_55 dX12_readStep_40 ?_
    refine lv_iload_n hx hb dX12_readStep_43 rfl (lv_at hl 2 rfl) ?_
    refine lv_iconst (v := 1) hx hb dX12_readStep_44 (by decide) ?_
    refine lv_iadd hx hb dX12_readStep_45 ?_
    refine lv_iconst (v := (-1)) hx hb dX12_readStep_46 (by decide) ?_
    obtain ⟨h21, e22, hf⟩ := Option.bind_eq_some_iff.mp hf
    refine r_uI0 X I e22 dX12_readStep_47 (fun H locs I => ?_)
    refine lv_aload_n hx hb dX12_readStep_48 rfl (lv_at hl 1 rfl) ?_
    obtain ⟨v23, e24, hf⟩ := Option.bind_eq_some_iff.mp hf
    refine r_gR X I e24 lk_TrapCornerModel_55 dX12_readStep_49 ?_
    refine lv_iload_n hx hb dX12_readStep_52 rfl (lv_at hl 2 rfl) ?_
    refine lv_iconst (v := 2) hx hb dX12_readStep_53 (by decide) ?_
    refine lv_iadd hx hb dX12_readStep_54 ?_
    refine lv_iconst (v := (-1)) hx hb dX12_readStep_55 (by decide) ?_
    obtain ⟨h25, e26, hf⟩ := Option.bind_eq_some_iff.mp hf
    refine r_uI0 X I e26 dX12_readStep_56 (fun H locs I => ?_)
    refine lv_iload_n hx hb dX12_readStep_57 rfl (lv_at hl 0 rfl) ?_
    refine lv_if_ne (tgt := 62) hx hb dX12_readStep_58 (by decide) (fun c27 => ?_) (fun c27 => ?_)
    · rw [if_neg c27] at hf
      refine lv_aload_n hx hb dX12_readStep_62 rfl (lv_at hl 1 rfl) ?_
      obtain ⟨v28, e29, hf⟩ := Option.bind_eq_some_iff.mp hf
      refine r_gR X I e29 lk_TrapCornerModel_55 dX12_readStep_63 ?_
      refine lv_iload_n hx hb dX12_readStep_66 rfl (lv_at hl 2 rfl) ?_
      refine lv_iconst (v := 1) hx hb dX12_readStep_67 (by decide) ?_
      refine lv_iadd hx hb dX12_readStep_68 ?_
      refine lv_aload_n hx hb dX12_readStep_69 rfl (lv_at hl 1 rfl) ?_
      obtain ⟨_, g34, hf⟩ := Option.bind_eq_some_iff.mp hf
      obtain ⟨v30, h31, e32, z33, hf⟩ := cN_spec hf
      refine k_Vi (As := []) (rest := [.int (x1 + 1), .ref (rfG g v28)]) X I (c_X12_digit l g o0 e32) z33 g34 vk_TrapCornerModel_269 tw_1618 ⟨Nat.le_trans (by decide) hR.1, Nat.le_trans (by decide) hR.2⟩ ⟨Nat.zero_le _, Nat.zero_le _⟩ rfl hl.1 rfl (Nat.le_of_ble_eq_true rfl) dX12_readStep_70 (fun H locs I => ?_)
      obtain ⟨h35, e36, hf⟩ := Option.bind_eq_some_iff.mp hf
      refine r_uI0 X I e36 dX12_readStep_73 (fun H locs I => ?_)
      refine lv_aload_n hx hb dX12_readStep_74 rfl (lv_at hl 1 rfl) ?_
      obtain ⟨v37, e38, hf⟩ := Option.bind_eq_some_iff.mp hf
      refine r_gI X I e38 lk_TrapCornerModel_128 dX12_readStep_75 ?_
      refine lv_iconst (v := (-1)) hx hb dX12_readStep_78 (by decide) ?_
      refine lv_icmp_ne (tgt := 99) hx hb dX12_readStep_79 (by decide) (fun c39 => ?_) (fun c39 => ?_)
      · rw [if_neg c39] at hf
        cases hf
        exact k_rv X I hr dX12_readStep_99
      · rw [if_pos c39] at hf
        refine lv_iload_n hx hb dX12_readStep_82 rfl (lv_at hl 0 rfl) ?_
        refine lv_iconst (v := 1) hx hb dX12_readStep_83 (by decide) ?_
        refine lv_icmp_ne (tgt := 99) hx hb dX12_readStep_84 (by decide) (fun c40 => ?_) (fun c40 => ?_)
        · rw [if_neg c40] at hf
          cases hf
          exact k_rv X I hr dX12_readStep_99
        · rw [if_pos c40] at hf
          refine lv_aload_n hx hb dX12_readStep_87 rfl (lv_at hl 1 rfl) ?_
          obtain ⟨v41, e42, hf⟩ := Option.bind_eq_some_iff.mp hf
          refine r_gR X I e42 lk_TrapCornerModel_55 dX12_readStep_88 ?_
          refine lv_iload_n hx hb dX12_readStep_91 rfl (lv_at hl 2 rfl) ?_
          refine lv_iconst (v := 2) hx hb dX12_readStep_92 (by decide) ?_
          refine lv_iadd hx hb dX12_readStep_93 ?_
          refine lv_aload_n hx hb dX12_readStep_94 rfl (lv_at hl 1 rfl) ?_
          obtain ⟨_, g47, hf⟩ := Option.bind_eq_some_iff.mp hf
          obtain ⟨v43, h44, e45, z46, hf⟩ := cN_spec hf
          refine k_Vi (As := []) (rest := [.int (x1 + 2), .ref (rfG g v41)]) X I (c_X12_digit l g o0 e45) z46 g47 vk_TrapCornerModel_269 tw_1618 ⟨Nat.le_trans (by decide) hR.1, Nat.le_trans (by decide) hR.2⟩ ⟨Nat.zero_le _, Nat.zero_le _⟩ rfl hl.1 rfl (Nat.le_of_ble_eq_true rfl) dX12_readStep_95 (fun H locs I => ?_)
          obtain ⟨h48, e49, hf⟩ := Option.bind_eq_some_iff.mp hf
          refine r_uI0 X I e49 dX12_readStep_98 (fun H locs I => ?_)
          cases hf
          exact k_rv X I hr dX12_readStep_99
    · rw [if_pos c27] at hf
      cases hf
      exact k_rv X I hr dX12_readStep_61
  · rw [if_pos c10] at hf
    refine lv_aload_n hx hb dX12_readStep_16 rfl (lv_at hl 1 rfl) ?_
    obtain ⟨_, g54, hf⟩ := Option.bind_eq_some_iff.mp hf
    obtain ⟨v50, h51, e52, z53, hf⟩ := cN_spec hf
    refine k_Vi (As := []) (rest := []) X I (c_X12_fails l g o0 e52) z53 g54 vk_TrapCornerModel_134 tw_1488 ⟨Nat.le_trans (by decide) hR.1, Nat.le_trans (by decide) hR.2⟩ ⟨Nat.zero_le _, Nat.zero_le _⟩ rfl hl.1 rfl (Nat.le_of_ble_eq_true rfl) dX12_readStep_17 (fun H locs I => ?_)
    refine lv_pop hx hb dX12_readStep_20 rfl ?_
    cases hf
    exact k_rv X I hr dX12_readStep_21
def f_X12_readStep (o0 : Nat) (x1 : Int32) (h : AH) : Option (Unit × AH) := f_X12_readStep_0 o0 x1 h
end
theorem c_X12_readStep (l : Launch) (g : GG) (o0 : Nat) (x1 : Int32) {h : AH} {res : Unit × AH} (hf : f_X12_readStep o0 x1 h = some res) : CM l g yX12_readStep cX12_readStep 3 none 6 384 0 0 [.ref (rfG g o0), .int x1] h none res.2 :=
  k_body (by decide) (Nat.le_of_ble_eq_true rfl) (fun p e s m below meth c R ls hR hr X I hl => w_X12_readStep_0 X ⟨Nat.le_of_eq hR.1.symm, Nat.le_of_eq hR.2.1.symm⟩ hr o0 x1 h ls s.heap [] hf I (lv_sub hl [0, 1] rfl))
/-! TrapCornerModel.readPlan()V -/
theorem dX12_readPlan_0 : decode cX12_readPlan 0 = .ok (.aload_n 0, 1) := by decide +kernel
theorem dX12_readPlan_1 : decode cX12_readPlan 1 = .ok (.aload_n 0, 1) := by decide +kernel
theorem dX12_readPlan_2 : decode cX12_readPlan 2 = .ok (.getfield 9, 3) := by decide +kernel
theorem dX12_readPlan_5 : decode cX12_readPlan 5 = .ok (.iconst 0, 1) := by decide +kernel
theorem dX12_readPlan_6 : decode cX12_readPlan 6 = .ok (.aload_n 0, 1) := by decide +kernel
theorem dX12_readPlan_7 : decode cX12_readPlan 7 = .ok (.getfield 109, 3) := by decide +kernel
theorem dX12_readPlan_10 : decode cX12_readPlan 10 = .ok (.invokevirtual 207, 3) := by decide +kernel
theorem dX12_readPlan_13 : decode cX12_readPlan 13 = .ok (.iconst 0, 1) := by decide +kernel
theorem dX12_readPlan_14 : decode cX12_readPlan 14 = .ok (.istore_n 1, 1) := by decide +kernel
theorem dX12_readPlan_15 : decode cX12_readPlan 15 = .ok (.iconst 1, 1) := by decide +kernel
theorem dX12_readPlan_16 : decode cX12_readPlan 16 = .ok (.istore_n 2, 1) := by decide +kernel
theorem dX12_readPlan_17 : decode cX12_readPlan 17 = .ok (.iload_n 2, 1) := by decide +kernel
theorem dX12_readPlan_18 : decode cX12_readPlan 18 = .ok (.ifCond .eq 73, 3) := by decide +kernel
theorem dX12_readPlan_21 : decode cX12_readPlan 21 = .ok (.aload_n 0, 1) := by decide +kernel
theorem dX12_readPlan_22 : decode cX12_readPlan 22 = .ok (.iconst 3, 1) := by decide +kernel
theorem dX12_readPlan_23 : decode cX12_readPlan 23 = .ok (.bipush 64, 2) := by decide +kernel
theorem dX12_readPlan_25 : decode cX12_readPlan 25 = .ok (.iload_n 1, 1) := by decide +kernel
theorem dX12_readPlan_26 : decode cX12_readPlan 26 = .ok (.iadd, 1) := by decide +kernel
theorem dX12_readPlan_27 : decode cX12_readPlan 27 = .ok (.imul, 1) := by decide +kernel
theorem dX12_readPlan_28 : decode cX12_readPlan 28 = .ok (.invokevirtual 272, 3) := by decide +kernel
theorem dX12_readPlan_31 : decode cX12_readPlan 31 = .ok (.aload_n 0, 1) := by decide +kernel
theorem dX12_readPlan_32 : decode cX12_readPlan 32 = .ok (.getfield 128, 3) := by decide +kernel
theorem dX12_readPlan_35 : decode cX12_readPlan 35 = .ok (.iconst (-1), 1) := by decide +kernel
theorem dX12_readPlan_36 : decode cX12_readPlan 36 = .ok (.if_icmp .eq 4, 3) := by decide +kernel
theorem dX12_readPlan_39 : decode cX12_readPlan 39 = .ok (.return_, 1) := by decide +kernel
theorem dX12_readPlan_40 : decode cX12_readPlan 40 = .ok (.iinc 1 1, 3) := by decide +kernel
theorem dX12_readPlan_43 : decode cX12_readPlan 43 = .ok (.aload_n 0, 1) := by decide +kernel
theorem dX12_readPlan_44 : decode cX12_readPlan 44 = .ok (.invokevirtual 138, 3) := by decide +kernel
theorem dX12_readPlan_47 : decode cX12_readPlan 47 = .ok (.bipush 59, 2) := by decide +kernel
theorem dX12_readPlan_49 : decode cX12_readPlan 49 = .ok (.if_icmp .ne 7, 3) := by decide +kernel
theorem dX12_readPlan_52 : decode cX12_readPlan 52 = .ok (.iconst 1, 1) := by decide +kernel
theorem dX12_readPlan_53 : decode cX12_readPlan 53 = .ok (.goto 4, 3) := by decide +kernel
theorem dX12_readPlan_56 : decode cX12_readPlan 56 = .ok (.iconst 0, 1) := by decide +kernel
theorem dX12_readPlan_57 : decode cX12_readPlan 57 = .ok (.istore_n 2, 1) := by decide +kernel
theorem dX12_readPlan_58 : decode cX12_readPlan 58 = .ok (.iload_n 2, 1) := by decide +kernel
theorem dX12_readPlan_59 : decode cX12_readPlan 59 = .ok (.ifCond .eq 15, 3) := by decide +kernel
theorem dX12_readPlan_62 : decode cX12_readPlan 62 = .ok (.iload_n 1, 1) := by decide +kernel
theorem dX12_readPlan_63 : decode cX12_readPlan 63 = .ok (.bipush 16, 2) := by decide +kernel
theorem dX12_readPlan_65 : decode cX12_readPlan 65 = .ok (.if_icmp .ne 9, 3) := by decide +kernel
theorem dX12_readPlan_68 : decode cX12_readPlan 68 = .ok (.aload_n 0, 1) := by decide +kernel
theorem dX12_readPlan_69 : decode cX12_readPlan 69 = .ok (.invokevirtual 134, 3) := by decide +kernel
theorem dX12_readPlan_72 : decode cX12_readPlan 72 = .ok (.pop, 1) := by decide +kernel
theorem dX12_readPlan_73 : decode cX12_readPlan 73 = .ok (.return_, 1) := by decide +kernel
theorem dX12_readPlan_74 : decode cX12_readPlan 74 = .ok (.iload_n 2, 1) := by decide +kernel
theorem dX12_readPlan_75 : decode cX12_readPlan 75 = .ok (.ifCond .eq (-58), 3) := by decide +kernel
theorem dX12_readPlan_78 : decode cX12_readPlan 78 = .ok (.aload_n 0, 1) := by decide +kernel
theorem dX12_readPlan_79 : decode cX12_readPlan 79 = .ok (.dup, 1) := by decide +kernel
theorem dX12_readPlan_80 : decode cX12_readPlan 80 = .ok (.getfield 119, 3) := by decide +kernel
theorem dX12_readPlan_83 : decode cX12_readPlan 83 = .ok (.iconst 1, 1) := by decide +kernel
theorem dX12_readPlan_84 : decode cX12_readPlan 84 = .ok (.iadd, 1) := by decide +kernel
theorem dX12_readPlan_85 : decode cX12_readPlan 85 = .ok (.putfield 119, 3) := by decide +kernel
theorem dX12_readPlan_88 : decode cX12_readPlan 88 = .ok (.goto (-71), 3) := by decide +kernel
theorem dX12_readPlan_91 : decode cX12_readPlan 91 = .ok (.aload_n 0, 1) := by decide +kernel
theorem dX12_readPlan_92 : decode cX12_readPlan 92 = .ok (.getfield 58, 3) := by decide +kernel
theorem dX12_readPlan_95 : decode cX12_readPlan 95 = .ok (.iconst 4, 1) := by decide +kernel
theorem dX12_readPlan_96 : decode cX12_readPlan 96 = .ok (.iload_n 1, 1) := by decide +kernel
theorem dX12_readPlan_97 : decode cX12_readPlan 97 = .ok (.iastore, 1) := by decide +kernel
theorem dX12_readPlan_98 : decode cX12_readPlan 98 = .ok (.aload_n 0, 1) := by decide +kernel
theorem dX12_readPlan_99 : decode cX12_readPlan 99 = .ok (.invokevirtual 138, 3) := by decide +kernel
theorem dX12_readPlan_102 : decode cX12_readPlan 102 = .ok (.iconst (-1), 1) := by decide +kernel
theorem dX12_readPlan_103 : decode cX12_readPlan 103 = .ok (.if_icmp .eq 8, 3) := by decide +kernel
theorem dX12_readPlan_106 : decode cX12_readPlan 106 = .ok (.aload_n 0, 1) := by decide +kernel
theorem dX12_readPlan_107 : decode cX12_readPlan 107 = .ok (.invokevirtual 134, 3) := by decide +kernel
theorem dX12_readPlan_110 : decode cX12_readPlan 110 = .ok (.pop, 1) := by decide +kernel
theorem dX12_readPlan_111 : decode cX12_readPlan 111 = .ok (.return_, 1) := by decide +kernel
theorem vk_TrapCornerModel_272 : VK "TrapCornerModel" 272 [12] yX12_readStep 1 := ⟨tw_1610, tw_1612, tw_13, ⟨by decide, by decide⟩, by decide +kernel, fun ci hci => by
  have hci := List.mem_singleton.mp hci
  subst hci
  exact ⟨_, rfl, tp_75⟩⟩
section
variable {g : GG} {p : Program} {l : Launch} {e : Env} {R : Room} {s : State} {m : MethodId} {args : Array Value} {below : List Frame} {meth : Method} {c : Code} {n0 z0 : Nat}
def f_X12_readPlan_74 (k17 : Nat → Int32 → Int32 → AH → Option (Unit × AH)) (o0 : Nat) (x1 : Int32) (x2 : Int32) (h : AH) : Option (Unit × AH) :=
  if x2 = 0 then
    k17 o0 x1 x2 h
  else
    (gI [12] h o0 10).bind fun v2 =>
    (pV [12] h o0 10 (.int (v2 + 1))).bind fun h4 =>
    k17 o0 x1 x2 h4
set_option maxHeartbeats 1000000 in
theorem w_X12_readPlan_74 (X : Cx g p s m args meth c cX12_readPlan 3 "TrapCornerModel") (hR : 7 ≤ R.frames ∧ 448 ≤ R.locals) (hr : meth.sig.returnType = none) {res : Unit × AH} {k17 : Nat → Int32 → Int32 → AH → Option (Unit × AH)} (hk17 : ∀ (o0 : Nat) (x1 : Int32) (x2 : Int32) (h : AH) (ls : Array Slot) (H : Heap) (locs : List Loc), k17 o0 x1 x2 h = some res → Iv g s n0 z0 h H locs 0 0 → lv_has ls 3 [(0, .ref (rfG g o0)), (1, .int x1), (2, .int x2)] → W p l e R s m args below meth c H locs 0 0 (MQ below (QG g none res.2) args s 0 0 (AG g)) (F0 m 17 ls [])) : ∀ (o0 : Nat) (x1 : Int32) (x2 : Int32) (h : AH) (ls : Array Slot) (H : Heap) (locs : List Loc), f_X12_readPlan_74 k17 o0 x1 x2 h = some res → Iv g s n0 z0 h H locs 0 0 → lv_has ls 3 [(0, .ref (rfG g o0)), (1, .int x1), (2, .int x2)] → W p l e R s m args below meth c H locs 0 0 (MQ below (QG g none res.2) args s 0 0 (AG g)) (F0 m 74 ls []) := by
  have hx := X.1
  have hb := X.2.1
  intro o0 x1 x2 h ls H locs hf I hl
  unfold f_X12_readPlan_74 at hf
  refine lv_iload_n hx hb dX12_readPlan_74 rfl (lv_at hl 2 rfl) ?_
  refine lv_if_eq (tgt := 17) hx hb dX12_readPlan_75 (by decide) (fun c1 => ?_) (fun c1 => ?_)
  · rw [if_pos c1] at hf
    exact hk17 o0 x1 x2 h ls H locs hf I (lv_sub hl [0, 1, 2] rfl)
  · rw [if_neg c1] at hf
    refine lv_aload_n hx hb dX12_readPlan_78 rfl (lv_at hl 0 rfl) ?_
    refine lv_dup hx hb dX12_readPlan_79 rfl ?_
    obtain ⟨v2, e3, hf⟩ := Option.bind_eq_some_iff.mp hf
    refine r_gI X I e3 lk_TrapCornerModel_119 dX12_readPlan_80 ?_
    refine lv_iconst (v := 1) hx hb dX12_readPlan_83 (by decide) ?_
    refine lv_iadd hx hb dX12_readPlan_84 ?_
    obtain ⟨h4, e5, hf⟩ := Option.bind_eq_some_iff.mp hf
    refine r_pI X I e5 lp_TrapCornerModel_119 dX12_readPlan_85 (fun H locs I => ?_)
    refine lv_goto (tgt := 17) hx hb dX12_readPlan_88 (by decide) ?_
    exact hk17 o0 x1 x2 h4 ls H locs hf I (lv_sub hl [0, 1, 2] rfl)
def f_X12_readPlan_57 (k17 : Nat → Int32 → Int32 → AH → Option (Unit × AH)) (o0 : Nat) (x1 : Int32) (s0 : Int32) (h : AH) : Option (Unit × AH) :=
  if s0 = 0 then
    f_X12_readPlan_74 k17 o0 x1 s0 h
  else
    if x1 = 16 then
      (isC [12] h o0).bind fun _ =>
      cN (f_X12_fails o0 h) h fun v3 h4 =>
      some ((), h4)
    else
      f_X12_readPlan_74 k17 o0 x1 s0 h
set_option maxHeartbeats 1000000 in
theorem w_X12_readPlan_57 (X : Cx g p s m args meth c cX12_readPlan 3 "TrapCornerModel") (hR : 7 ≤ R.frames ∧ 448 ≤ R.locals) (hr : meth.sig.returnType = none) {res : Unit × AH} {k17 : Nat → Int32 → Int32 → AH → Option (Unit × AH)} (hk17 : ∀ (o0 : Nat) (x1 : Int32) (x2 : Int32) (h : AH) (ls : Array Slot) (H : Heap) (locs : List Loc), k17 o0 x1 x2 h = some res → Iv g s n0 z0 h H locs 0 0 → lv_has ls 3 [(0, .ref (rfG g o0)), (1, .int x1), (2, .int x2)] → W p l e R s m args below meth c H locs 0 0 (MQ below (QG g none res.2) args s 0 0 (AG g)) (F0 m 17 ls [])) : ∀ (o0 : Nat) (x1 : Int32) (s0 : Int32) (h : AH) (ls : Array Slot) (H : Heap) (locs : List Loc), f_X12_readPlan_57 k17 o0 x1 s0 h = some res → Iv g s n0 z0 h H locs 0 0 → lv_has ls 3 [(0, .ref (rfG g o0)), (1, .int x1)] → W p l e R s m args below meth c H locs 0 0 (MQ below (QG g none res.2) args s 0 0 (AG g)) (F0 m 57 ls [.int s0]) := by
  have hx := X.1
  have hb := X.2.1
  intro o0 x1 s0 h ls H locs hf I hl
  unfold f_X12_readPlan_57 at hf
  refine lv_istore_n (lv' := [(2, .int s0), (0, .ref (rfG g o0)), (1, .int x1)]) hx hb dX12_readPlan_57 rfl hl (by decide) rfl (fun ls hl => ?_)
  refine lv_iload_n hx hb dX12_readPlan_58 rfl (lv_at hl 0 rfl) ?_
  refine lv_if_eq (tgt := 74) hx hb dX12_readPlan_59 (by decide) (fun c1 => ?_) (fun c1 => ?_)
  · rw [if_pos c1] at hf
    exact w_X12_readPlan_74 X hR hr hk17 o0 x1 s0 h ls H locs hf I (lv_sub hl [1, 2, 0] rfl)
  · rw [if_neg c1] at hf
    refine lv_iload_n hx hb dX12_readPlan_62 rfl (lv_at hl 2 rfl) ?_
    refine lv_bipush (v := 16) hx hb dX12_readPlan_63 (by decide) ?_
    refine lv_icmp_ne (tgt := 74) hx hb dX12_readPlan_65 (by decide) (fun c2 => ?_) (fun c2 => ?_)
    · rw [if_neg c2] at hf
      exact w_X12_readPlan_74 X hR hr hk17 o0 x1 s0 h ls H locs hf I (lv_sub hl [1, 2, 0] rfl)
    · rw [if_pos c2] at hf
      refine lv_aload_n hx hb dX12_readPlan_68 rfl (lv_at hl 1 rfl) ?_
      obtain ⟨_, g7, hf⟩ := Option.bind_eq_some_iff.mp hf
      obtain ⟨v3, h4, e5, z6, hf⟩ := cN_spec hf
      refine k_Vi (As := []) (rest := []) X I (c_X12_fails l g o0 e5) z6 g7 vk_TrapCornerModel_134 tw_1488 ⟨Nat.le_trans (by decide) hR.1, Nat.le_trans (by decide) hR.2⟩ ⟨Nat.zero_le _, Nat.zero_le _⟩ rfl hl.1 rfl (Nat.le_of_ble_eq_true rfl) dX12_readPlan_69 (fun H locs I => ?_)
      refine lv_pop hx hb dX12_readPlan_72 rfl ?_
      cases hf
      exact k_rv X I hr dX12_readPlan_73
def f_X12_readPlan_17  : Nat → Nat → Int32 → Int32 → AH → Option (Unit × AH)
  | 0, _, _, _, _ => none
  | n + 1, o0, x1, x2, h =>
  if x2 = 0 then
    (gR [12] h o0 25).bind fun v2 =>
    (uI 0 h v2 4 x1).bind fun h4 =>
    (isC [12] h4 o0).bind fun _ =>
    cN (f_X12_look o0 h4) h4 fun v6 h7 =>
    if v6 = ((-1)) then
      some ((), h7)
    else
      (isC [12] h7 o0).bind fun _ =>
      cN (f_X12_fails o0 h7) h7 fun v12 h13 =>
      some ((), h13)
  else
    (isC [12] h o0).bind fun _ =>
    cN (f_X12_readStep o0 (3 * (64 + x1)) h) h fun _ h18 =>
    (gI [12] h18 o0 11).bind fun v22 =>
    if v22 = ((-1)) then
      (isC [12] h18 o0).bind fun _ =>
      cN (f_X12_look o0 h18) h18 fun v25 h26 =>
      if v25 = 59 then
        f_X12_readPlan_57 (f_X12_readPlan_17 n) o0 (x1 + 1) 1 h26
      else
        f_X12_readPlan_57 (f_X12_readPlan_17 n) o0 (x1 + 1) 0 h26
    else
      some ((), h18)
set_option maxHeartbeats 1000000 in
theorem w_X12_readPlan_17 (X : Cx g p s m args meth c cX12_readPlan 3 "TrapCornerModel") (hR : 7 ≤ R.frames ∧ 448 ≤ R.locals) (hr : meth.sig.returnType = none) {res : Unit × AH} : ∀ (n : Nat) (o0 : Nat) (x1 : Int32) (x2 : Int32) (h : AH) (ls : Array Slot) (H : Heap) (locs : List Loc), f_X12_readPlan_17 n o0 x1 x2 h = some res → Iv g s n0 z0 h H locs 0 0 → lv_has ls 3 [(0, .ref (rfG g o0)), (1, .int x1), (2, .int x2)] → W p l e R s m args below meth c H locs 0 0 (MQ below (QG g none res.2) args s 0 0 (AG g)) (F0 m 17 ls []) := by
  have hx := X.1
  have hb := X.2.1
  intro n
  induction n with
  | zero =>
    intro o0 x1 x2 h ls H locs hf
    rw [f_X12_readPlan_17.eq_1] at hf
    cases hf
  | succ n ih =>
    intro o0 x1 x2 h ls H locs hf I hl
    rw [f_X12_readPlan_17.eq_2] at hf
    refine lv_iload_n hx hb dX12_readPlan_17 rfl (lv_at hl 2 rfl) ?_
    refine lv_if_eq (tgt := 91) hx hb dX12_readPlan_18 (by decide) (fun c1 => ?_) (fun c1 => ?_)
    · rw [if_pos c1] at hf
      refine lv_aload_n hx hb dX12_readPlan_91 rfl (lv_at hl 0 rfl) ?_
      obtain ⟨v2, e3, hf⟩ := Option.bind_eq_some_iff.mp hf
      refine r_gR X I e3 lk_TrapCornerModel_58 dX12_readPlan_92 ?_
      refine lv_iconst (v := 4) hx hb dX12_readPlan_95 (by decide) ?_
      refine lv_iload_n hx hb dX12_readPlan_96 rfl (lv_at hl 1 rfl) ?_
      obtain ⟨h4, e5, hf⟩ := Option.bind_eq_some_iff.mp hf
      refine r_uI0 X I e5 dX12_readPlan_97 (fun H locs I => ?_)
      refine lv_aload_n hx hb dX12_readPlan_98 rfl (lv_at hl 0 rfl) ?_
      obtain ⟨_, g10, hf⟩ := Option.bind_eq_some_iff.mp hf
      obtain ⟨v6, h7, e8, z9, hf⟩ := cN_spec hf
      refine k_Vi (As := []) (rest := []) X I (c_X12_look l g o0 e8) z9 g10 vk_TrapCornerModel_138 tw_1484 ⟨Nat.le_trans (by decide) hR.1, Nat.le_trans (by decide) hR.2⟩ ⟨Nat.zero_le _, Nat.zero_le _⟩ rfl hl.1 rfl (Nat.le_of_ble_eq_true rfl) dX12_readPlan_99 (fun H locs I => ?_)
      refine lv_iconst (v := (-1)) hx hb dX12_readPlan_102 (by decide) ?_
      refine lv_icmp_eq (tgt := 111) hx hb dX12_readPlan_103 (by decide) (fun c11 => ?_) (fun c11 => ?_)
      · rw [if_pos c11] at hf
        cases hf
        exact k_rv X I hr dX12_readPlan_111
      · rw [if_neg c11] at hf
        refine lv_aload_n hx hb dX12_readPlan_106 rfl (lv_at hl 0 rfl) ?_
        obtain ⟨_, g16, hf⟩ := Option.bind_eq_some_iff.mp hf
        obtain ⟨v12, h13, e14, z15, hf⟩ := cN_spec hf
        refine k_Vi (As := []) (rest := []) X I (c_X12_fails l g o0 e14) z15 g16 vk_TrapCornerModel_134 tw_1488 ⟨Nat.le_trans (by decide) hR.1, Nat.le_trans (by decide) hR.2⟩ ⟨Nat.zero_le _, Nat.zero_le _⟩ rfl hl.1 rfl (Nat.le_of_ble_eq_true rfl) dX12_readPlan_107 (fun H locs I => ?_)
        refine lv_pop hx hb dX12_readPlan_110 rfl ?_
        cases hf
        exact k_rv X I hr dX12_readPlan_111
    · rw [if_neg c1] at hf
      refine lv_aload_n hx hb dX12_readPlan_21 rfl (lv_at hl 0 rfl) ?_
      refine lv_iconst (v := 3) hx hb dX12_readPlan_22 (by decide) ?_
      refine lv_bipush (v := 64) hx hb dX12_readPlan_23 (by decide) ?_
      refine lv_iload_n hx hb dX12_readPlan_25 rfl (lv_at hl 1 rfl) ?_
      refine lv_iadd hx hb dX12_readPlan_26 ?_
      refine lv_imul hx hb dX12_readPlan_27 ?_
      obtain ⟨_, g21, hf⟩ := Option.bind_eq_some_iff.mp hf
      obtain ⟨⟨⟩, h18, e19, z20, hf⟩ := cN_spec hf
      refine k_Vv (As := [.int (3 * (64 + x1))]) (rest := []) X I (c_X12_readStep l g o0 (3 * (64 + x1)) e19) z20 g21 vk_TrapCornerModel_272 tw_1613 ⟨Nat.le_trans (by decide) hR.1, Nat.le_trans (by decide) hR.2⟩ ⟨Nat.zero_le _, Nat.zero_le _⟩ rfl hl.1 rfl (Nat.le_of_ble_eq_true rfl) dX12_readPlan_28 (fun H locs I => ?_)
      refine lv_aload_n hx hb dX12_readPlan_31 rfl (lv_at hl 0 rfl) ?_
      obtain ⟨v22, e23, hf⟩ := Option.bind_eq_some_iff.mp hf
      refine r_gI X I e23 lk_TrapCornerModel_128 dX12_readPlan_32 ?_
      refine lv_iconst (v := (-1)) hx hb dX12_readPlan_35 (by decide) ?_
      refine lv_icmp_eq (tgt := 40) hx hb dX12_readPlan_36 (by decide) (fun c24 => ?_) (fun c24 => ?_)
      · rw [if_pos c24] at hf
        refine lv_iinc (v := x1 + 1) (lv' := [(1, .int (x1 + 1)), (0, .ref (rfG g o0)), (2, .int x2)]) hx hb dX12_readPlan_40 hl (k := 1) rfl rfl (by decide) rfl (fun ls hl => ?_)
        refine lv_aload_n hx hb dX12_readPlan_43 rfl (lv_at hl 1 rfl) ?_
        obtain ⟨_, g29, hf⟩ := Option.bind_eq_some_iff.mp hf
        obtain ⟨v25, h26, e27, z28, hf⟩ := cN_spec hf
        refine k_Vi (As := []) (rest := []) X I (c_X12_look l g o0 e27) z28 g29 vk_TrapCornerModel_138 tw_1484 ⟨Nat.le_trans (by decide) hR.1, Nat.le_trans (by decide) hR.2⟩ ⟨Nat.zero_le _, Nat.zero_le _⟩ rfl hl.1 rfl (Nat.le_of_ble_eq_true rfl) dX12_readPlan_44 (fun H locs I => ?_)
        refine lv_bipush (v := 59) hx hb dX12_readPlan_47 (by decide) ?_
        refine lv_icmp_ne (tgt := 56) hx hb dX12_readPlan_49 (by decide) (fun c30 => ?_) (fun c30 => ?_)
        · rw [if_neg c30] at hf
          refine lv_iconst (v := 0) hx hb dX12_readPlan_56 (by decide) ?_
          exact w_X12_readPlan_57 X hR hr ih o0 (x1 + 1) 0 h26 ls H locs hf I (lv_sub hl [1, 0] rfl)
        · rw [if_pos c30] at hf
          refine lv_iconst (v := 1) hx hb dX12_readPlan_52 (by decide) ?_
          refine lv_goto (tgt := 57) hx hb dX12_readPlan_53 (by decide) ?_
          exact w_X12_readPlan_57 X hR hr ih o0 (x1 + 1) 1 h26 ls H locs hf I (lv_sub hl [1, 0] rfl)
      · rw [if_neg c24] at hf
        cases hf
        exact k_rv X I hr dX12_readPlan_39
def f_X12_readPlan_0  (o0 : Nat) (h : AH) : Option (Unit × AH) :=
  (gR [12] h o0 1).bind fun v1 =>
  (gI [12] h o0 6).bind fun v3 =>
  (isC [12] h o0).bind fun _ =>
  cN (f_X12_starts o0 v1 0 v3 h) h fun _ h6 =>
  f_X12_readPlan_17 fu o0 0 1 h6
set_option maxHeartbeats 1000000 in
theorem w_X12_readPlan_0 (X : Cx g p s m args meth c cX12_readPlan 3 "TrapCornerModel") (hR : 7 ≤ R.frames ∧ 448 ≤ R.locals) (hr : meth.sig.returnType = none) {res : Unit × AH} : ∀ (o0 : Nat) (h : AH) (ls : Array Slot) (H : Heap) (locs : List Loc), f_X12_readPlan_0 o0 h = some res → Iv g s n0 z0 h H locs 0 0 → lv_has ls 3 [(0, .ref (rfG g o0))] → W p l e R s m args below meth c H locs 0 0 (MQ below (QG g none res.2) args s 0 0 (AG g)) (F0 m 0 ls []) := by
  have hx := X.1
  have hb := X.2.1
  intro o0 h ls H locs hf I hl
  unfold f_X12_readPlan_0 at hf
  refine lv_aload_n hx hb dX12_readPlan_0 rfl (lv_at hl 0 rfl) ?_
  refine lv_aload_n hx hb dX12_readPlan_1 rfl (lv_at hl 0 rfl) ?_
  obtain ⟨v1, e2, hf⟩ := Option.bind_eq_some_iff.mp hf
  refine r_gR X I e2 lk_TrapCornerModel_9 dX12_readPlan_2 ?_
  refine lv_iconst (v := 0) hx hb dX12_readPlan_5 (by decide) ?_
  refine lv_aload_n hx hb dX12_readPlan_6 rfl (lv_at hl 0 rfl) ?_
  obtain ⟨v3, e4, hf⟩ := Option.bind_eq_some_iff.mp hf
  refine r_gI X I e4 lk_TrapCornerModel_109 dX12_readPlan_7 ?_
  obtain ⟨_, g9, hf⟩ := Option.bind_eq_some_iff.mp hf
  obtain ⟨⟨⟩, h6, e7, z8, hf⟩ := cN_spec hf
  refine k_Vv (As := [.ref (rfG g v1), .int 0, .int v3]) (rest := []) X I (c_X12_starts l g o0 v1 0 v3 e7) z8 g9 vk_TrapCornerModel_207 tw_1473 ⟨Nat.le_trans (by decide) hR.1, Nat.le_trans (by decide) hR.2⟩ ⟨Nat.zero_le _, Nat.zero_le _⟩ rfl hl.1 rfl (Nat.le_of_ble_eq_true rfl) dX12_readPlan_10 (fun H locs I => ?_)
  refine lv_iconst (v := 0) hx hb dX12_readPlan_13 (by decide) ?_
  refine lv_istore_n (lv' := [(1, .int 0), (0, .ref (rfG g o0))]) hx hb dX12_readPlan_14 rfl hl (by decide) rfl (fun ls hl => ?_)
  refine lv_iconst (v := 1) hx hb dX12_readPlan_15 (by decide) ?_
  refine lv_istore_n (lv' := [(2, .int 1), (1, .int 0), (0, .ref (rfG g o0))]) hx hb dX12_readPlan_16 rfl hl (by decide) rfl (fun ls hl => ?_)
  exact w_X12_readPlan_17 X hR hr fu o0 0 1 h6 ls H locs hf I (lv_sub hl [2, 1, 0] rfl)
def f_X12_readPlan (o0 : Nat) (h : AH) : Option (Unit × AH) := f_X12_readPlan_0 o0 h
end
theorem c_X12_readPlan (l : Launch) (g : GG) (o0 : Nat) {h : AH} {res : Unit × AH} (hf : f_X12_readPlan o0 h = some res) : CM l g yX12_readPlan cX12_readPlan 3 none 7 448 0 0 [.ref (rfG g o0)] h none res.2 :=
  k_body (by decide) (Nat.le_of_ble_eq_true rfl) (fun p e s m below meth c R ls hR hr X I hl => w_X12_readPlan_0 X ⟨Nat.le_of_eq hR.1.symm, Nat.le_of_eq hR.2.1.symm⟩ hr o0 h ls s.heap [] hf I (lv_sub hl [0] rfl))
/-! java/lang/String.indexOf(I)I -/
theorem dJ0_indexOf_0f7a4_0 : decode cJ0_indexOf_0f7a4 0 = .ok (.aload_n 0, 1) := by decide +kernel
theorem dJ0_indexOf_0f7a4_1 : decode cJ0_indexOf_0f7a4 1 = .ok (.iload_n 1, 1) := by decide +kernel
theorem dJ0_indexOf_0f7a4_2 : decode cJ0_indexOf_0f7a4 2 = .ok (.iconst 0, 1) := by decide +kernel
theorem dJ0_indexOf_0f7a4_3 : decode cJ0_indexOf_0f7a4 3 = .ok (.invokevirtual 633, 3) := by decide +kernel
theorem dJ0_indexOf_0f7a4_6 : decode cJ0_indexOf_0f7a4 6 = .ok (.ireturn, 1) := by decide +kernel
theorem tk_java_lang_String_633 : TK "java/lang/String" 633 yJ0_indexOf_7cf53 2 := ⟨tw_509, tw_510, tw_15, ⟨by decide, by decide⟩, by decide +kernel, tw_511⟩
section
variable {g : GG} {p : Program} {l : Launch} {e : Env} {R : Room} {s : State} {m : MethodId} {args : Array Value} {below : List Frame} {meth : Method} {c : Code} {n0 z0 : Nat}
def f_J0_indexOf_0f7a4_0  (o0 : Nat) (x1 : Int32) (h : AH) : Option (Int32 × AH) :=
  (sStr o0).bind fun _ =>
  cN (f_J0_indexOf_7cf53 o0 x1 0 h) h fun v1 h2 =>
  some (v1, h2)
set_option maxHeartbeats 1000000 in
theorem w_J0_indexOf_0f7a4_0 (X : Cx g p s m args meth c cJ0_indexOf_0f7a4 2 "java/lang/String") (hR : 4 ≤ R.frames ∧ 256 ≤ R.locals) (hr : meth.sig.returnType = (some (.int))) {res : Int32 × AH} : ∀ (o0 : Nat) (x1 : Int32) (h : AH) (ls : Array Slot) (H : Heap) (locs : List Loc), f_J0_indexOf_0f7a4_0 o0 x1 h = some res → Iv g s n0 z0 h H locs 0 0 → lv_has ls 2 [(0, .ref (rfG g o0)), (1, .int x1)] → W p l e R s m args below meth c H locs 0 0 (MQ below (QG g (some (.int res.1)) res.2) args s 0 0 (AG g)) (F0 m 0 ls []) := by
  have hx := X.1
  have hb := X.2.1
  intro o0 x1 h ls H locs hf I hl
  unfold f_J0_indexOf_0f7a4_0 at hf
  refine lv_aload_n hx hb dJ0_indexOf_0f7a4_0 rfl (lv_at hl 0 rfl) ?_
  refine lv_iload_n hx hb dJ0_indexOf_0f7a4_1 rfl (lv_at hl 1 rfl) ?_
  refine lv_iconst (v := 0) hx hb dJ0_indexOf_0f7a4_2 (by decide) ?_
  obtain ⟨_, g5, hf⟩ := Option.bind_eq_some_iff.mp hf
  obtain ⟨v1, h2, e3, z4, hf⟩ := cN_spec hf
  refine k_Ti (As := [.int x1, .int 0]) (rest := []) X I (c_J0_indexOf_7cf53 l g o0 x1 0 e3) z4 g5 tk_java_lang_String_633 tw_512 ⟨Nat.le_trans (by decide) hR.1, Nat.le_trans (by decide) hR.2⟩ ⟨Nat.zero_le _, Nat.zero_le _⟩ rfl hl.1 rfl (Nat.le_of_ble_eq_true rfl) dJ0_indexOf_0f7a4_3 (fun H locs I => ?_)
  cases hf
  exact k_ri X I hr dJ0_indexOf_0f7a4_6
def f_J0_indexOf_0f7a4 (o0 : Nat) (x1 : Int32) (h : AH) : Option (Int32 × AH) := f_J0_indexOf_0f7a4_0 o0 x1 h
end
theorem c_J0_indexOf_0f7a4 (l : Launch) (g : GG) (o0 : Nat) (x1 : Int32) {h : AH} {res : Int32 × AH} (hf : f_J0_indexOf_0f7a4 o0 x1 h = some res) : CM l g yJ0_indexOf_0f7a4 cJ0_indexOf_0f7a4 2 (some (.int)) 4 256 0 0 [.ref (rfG g o0), .int x1] h (some (.int res.1)) res.2 :=
  k_bodyF (by decide +kernel) (Nat.le_of_ble_eq_true rfl) (fun p e s m below meth c R ls hR hr X I hl => w_J0_indexOf_0f7a4_0 X ⟨Nat.le_of_eq hR.1.symm, Nat.le_of_eq hR.2.1.symm⟩ hr o0 x1 h ls s.heap [] hf I (lv_sub hl [0, 1] rfl))
/-! TrapCorner$LawReader.readsAtom(I)Z -/
theorem dX2_readsAtom_0 : decode cX2_readsAtom 0 = .ok (.aload_n 0, 1) := by decide +kernel
theorem dX2_readsAtom_1 : decode cX2_readsAtom 1 = .ok (.invokevirtual 43, 3) := by decide +kernel
theorem dX2_readsAtom_4 : decode cX2_readsAtom 4 = .ok (.istore_n 2, 1) := by decide +kernel
theorem dX2_readsAtom_5 : decode cX2_readsAtom 5 = .ok (.iload_n 2, 1) := by decide +kernel
theorem dX2_readsAtom_6 : decode cX2_readsAtom 6 = .ok (.bipush 91, 2) := by decide +kernel
theorem dX2_readsAtom_8 : decode cX2_readsAtom 8 = .ok (.if_icmp .ne 53, 3) := by decide +kernel
theorem dX2_readsAtom_11 : decode cX2_readsAtom 11 = .ok (.iload_n 1, 1) := by decide +kernel
theorem dX2_readsAtom_12 : decode cX2_readsAtom 12 = .ok (.bipush 6, 2) := by decide +kernel
theorem dX2_readsAtom_14 : decode cX2_readsAtom 14 = .ok (.if_icmp .lt 12, 3) := by decide +kernel
theorem dX2_readsAtom_17 : decode cX2_readsAtom 17 = .ok (.aload_n 0, 1) := by decide +kernel
theorem dX2_readsAtom_18 : decode cX2_readsAtom 18 = .ok (.aload_n 0, 1) := by decide +kernel
theorem dX2_readsAtom_19 : decode cX2_readsAtom 19 = .ok (.getfield 47, 3) := by decide +kernel
theorem dX2_readsAtom_22 : decode cX2_readsAtom 22 = .ok (.invokevirtual 50, 3) := by decide +kernel
theorem dX2_readsAtom_25 : decode cX2_readsAtom 25 = .ok (.ireturn, 1) := by decide +kernel
theorem dX2_readsAtom_26 : decode cX2_readsAtom 26 = .ok (.aload_n 0, 1) := by decide +kernel
theorem dX2_readsAtom_27 : decode cX2_readsAtom 27 = .ok (.dup, 1) := by decide +kernel
theorem dX2_readsAtom_28 : decode cX2_readsAtom 28 = .ok (.getfield 47, 3) := by decide +kernel
theorem dX2_readsAtom_31 : decode cX2_readsAtom 31 = .ok (.iconst 1, 1) := by decide +kernel
theorem dX2_readsAtom_32 : decode cX2_readsAtom 32 = .ok (.iadd, 1) := by decide +kernel
theorem dX2_readsAtom_33 : decode cX2_readsAtom 33 = .ok (.putfield 47, 3) := by decide +kernel
theorem dX2_readsAtom_36 : decode cX2_readsAtom 36 = .ok (.aload_n 0, 1) := by decide +kernel
theorem dX2_readsAtom_37 : decode cX2_readsAtom 37 = .ok (.iload_n 1, 1) := by decide +kernel
theorem dX2_readsAtom_38 : decode cX2_readsAtom 38 = .ok (.iconst 1, 1) := by decide +kernel
theorem dX2_readsAtom_39 : decode cX2_readsAtom 39 = .ok (.iadd, 1) := by decide +kernel
theorem dX2_readsAtom_40 : decode cX2_readsAtom 40 = .ok (.invokevirtual 56, 3) := by decide +kernel
theorem dX2_readsAtom_43 : decode cX2_readsAtom 43 = .ok (.ifCond .eq 16, 3) := by decide +kernel
theorem dX2_readsAtom_46 : decode cX2_readsAtom 46 = .ok (.aload_n 0, 1) := by decide +kernel
theorem dX2_readsAtom_47 : decode cX2_readsAtom 47 = .ok (.bipush 93, 2) := by decide +kernel
theorem dX2_readsAtom_49 : decode cX2_readsAtom 49 = .ok (.invokevirtual 29, 3) := by decide +kernel
theorem dX2_readsAtom_52 : decode cX2_readsAtom 52 = .ok (.ifCond .eq 7, 3) := by decide +kernel
theorem dX2_readsAtom_55 : decode cX2_readsAtom 55 = .ok (.iconst 1, 1) := by decide +kernel
theorem dX2_readsAtom_56 : decode cX2_readsAtom 56 = .ok (.goto 4, 3) := by decide +kernel
theorem dX2_readsAtom_59 : decode cX2_readsAtom 59 = .ok (.iconst 0, 1) := by decide +kernel
theorem dX2_readsAtom_60 : decode cX2_readsAtom 60 = .ok (.ireturn, 1) := by decide +kernel
theorem dX2_readsAtom_61 : decode cX2_readsAtom 61 = .ok (.iload_n 2, 1) := by decide +kernel
theorem dX2_readsAtom_62 : decode cX2_readsAtom 62 = .ok (.iconst (-1), 1) := by decide +kernel
theorem dX2_readsAtom_63 : decode cX2_readsAtom 63 = .ok (.if_icmp .ne 7, 3) := by decide +kernel
theorem dX2_readsAtom_66 : decode cX2_readsAtom 66 = .ok (.iconst (-1), 1) := by decide +kernel
theorem dX2_readsAtom_67 : decode cX2_readsAtom 67 = .ok (.goto 10, 3) := by decide +kernel
theorem dX2_readsAtom_70 : decode cX2_readsAtom 70 = .ok (.ldc 77, 2) := by decide +kernel
theorem dX2_readsAtom_72 : decode cX2_readsAtom 72 = .ok (.iload_n 2, 1) := by decide +kernel
theorem dX2_readsAtom_73 : decode cX2_readsAtom 73 = .ok (.i2c, 1) := by decide +kernel
theorem dX2_readsAtom_74 : decode cX2_readsAtom 74 = .ok (.invokevirtual 79, 3) := by decide +kernel
theorem dX2_readsAtom_77 : decode cX2_readsAtom 77 = .ok (.istore_n 3, 1) := by decide +kernel
theorem dX2_readsAtom_78 : decode cX2_readsAtom 78 = .ok (.iload_n 3, 1) := by decide +kernel
theorem dX2_readsAtom_79 : decode cX2_readsAtom 79 = .ok (.ifCond .lt 24, 3) := by decide +kernel
theorem dX2_readsAtom_82 : decode cX2_readsAtom 82 = .ok (.aload_n 0, 1) := by decide +kernel
theorem dX2_readsAtom_83 : decode cX2_readsAtom 83 = .ok (.dup, 1) := by decide +kernel
theorem dX2_readsAtom_84 : decode cX2_readsAtom 84 = .ok (.getfield 47, 3) := by decide +kernel
theorem dX2_readsAtom_87 : decode cX2_readsAtom 87 = .ok (.iconst 1, 1) := by decide +kernel
theorem dX2_readsAtom_88 : decode cX2_readsAtom 88 = .ok (.iadd, 1) := by decide +kernel
theorem dX2_readsAtom_89 : decode cX2_readsAtom 89 = .ok (.putfield 47, 3) := by decide +kernel
theorem dX2_readsAtom_92 : decode cX2_readsAtom 92 = .ok (.aload_n 0, 1) := by decide +kernel
theorem dX2_readsAtom_93 : decode cX2_readsAtom 93 = .ok (.sipush 10000, 3) := by decide +kernel
theorem dX2_readsAtom_96 : decode cX2_readsAtom 96 = .ok (.iload_n 3, 1) := by decide +kernel
theorem dX2_readsAtom_97 : decode cX2_readsAtom 97 = .ok (.iadd, 1) := by decide +kernel
theorem dX2_readsAtom_98 : decode cX2_readsAtom 98 = .ok (.invokevirtual 39, 3) := by decide +kernel
theorem dX2_readsAtom_101 : decode cX2_readsAtom 101 = .ok (.iconst 1, 1) := by decide +kernel
theorem dX2_readsAtom_102 : decode cX2_readsAtom 102 = .ok (.ireturn, 1) := by decide +kernel
theorem dX2_readsAtom_103 : decode cX2_readsAtom 103 = .ok (.aload_n 0, 1) := by decide +kernel
theorem dX2_readsAtom_104 : decode cX2_readsAtom 104 = .ok (.iconst 4, 1) := by decide +kernel
theorem dX2_readsAtom_105 : decode cX2_readsAtom 105 = .ok (.invokevirtual 84, 3) := by decide +kernel
theorem dX2_readsAtom_108 : decode cX2_readsAtom 108 = .ok (.istore 4, 2) := by decide +kernel
theorem dX2_readsAtom_110 : decode cX2_readsAtom 110 = .ok (.iload 4, 2) := by decide +kernel
theorem dX2_readsAtom_112 : decode cX2_readsAtom 112 = .ok (.iconst (-1), 1) := by decide +kernel
theorem dX2_readsAtom_113 : decode cX2_readsAtom 113 = .ok (.if_icmp .ne 5, 3) := by decide +kernel
theorem dX2_readsAtom_116 : decode cX2_readsAtom 116 = .ok (.iconst 0, 1) := by decide +kernel
theorem dX2_readsAtom_117 : decode cX2_readsAtom 117 = .ok (.ireturn, 1) := by decide +kernel
theorem dX2_readsAtom_118 : decode cX2_readsAtom 118 = .ok (.aload_n 0, 1) := by decide +kernel
theorem dX2_readsAtom_119 : decode cX2_readsAtom 119 = .ok (.iload 4, 2) := by decide +kernel
theorem dX2_readsAtom_121 : decode cX2_readsAtom 121 = .ok (.invokevirtual 39, 3) := by decide +kernel
theorem dX2_readsAtom_124 : decode cX2_readsAtom 124 = .ok (.iconst 1, 1) := by decide +kernel
theorem dX2_readsAtom_125 : decode cX2_readsAtom 125 = .ok (.ireturn, 1) := by decide +kernel
theorem uk_TrapCorner_LawReader_84 : UK "TrapCorner$LawReader" 84 2 ⟨"TrapCorner$LawReader", "number", "(I)I"⟩ yX5_number "TrapCorner$Reader" 1 := ⟨tw_676, tw_677, tw_592, tw_3, ⟨by decide, by decide⟩, by decide +kernel, rfl, ⟨_, rfl, tw_678⟩⟩
theorem vk_TrapCorner_LawReader_39 : VK "TrapCorner$LawReader" 39 [2] yX2_emit 1 := ⟨tw_672, tw_674, tw_6, ⟨by decide, by decide⟩, by decide +kernel, fun ci hci => by
  have hci := List.mem_singleton.mp hci
  subst hci
  exact ⟨_, rfl, tp_9⟩⟩
theorem lk_TrapCorner_LawReader_47 : LK "TrapCorner$LawReader" 47 [2] 1 := by
  intro ci hci
  have hci := List.mem_singleton.mp hci
  subst hci
  exact ⟨RX2, TX2, 5, "TrapCorner$LawReader", ck_2, by decide, tw_143, Or.inr tw_144⟩
theorem lp_TrapCorner_LawReader_47 : LKP "TrapCorner$LawReader" 47 [2] 1 (.int) := by
  intro ci hci
  have hci := List.mem_singleton.mp hci
  subst hci
  exact ⟨RX2, TX2, 5, "TrapCorner$LawReader", ck_2, by decide, tw_143, Or.inr tw_144, rfl, by decide +kernel⟩
theorem uk_TrapCorner_LawReader_43 : UK "TrapCorner$LawReader" 43 2 ⟨"TrapCorner$LawReader", "sign", "()I"⟩ yX5_sign "TrapCorner$Reader" 0 := ⟨tw_653, tw_654, tw_477, tw_3, ⟨by decide, by decide⟩, by decide +kernel, rfl, ⟨_, rfl, tw_655⟩⟩
theorem tk_TrapCorner_LawReader_79 : TK "TrapCorner$LawReader" 79 yJ0_indexOf_0f7a4 1 := ⟨tw_671, tw_506, tw_15, ⟨by decide, by decide⟩, by decide +kernel, tw_507⟩
theorem vk_TrapCorner_LawReader_56 : VK "TrapCorner$LawReader" 56 [2] yX2_readsSum 1 := ⟨tw_659, tw_661, tw_6, ⟨by decide, by decide⟩, by decide +kernel, fun ci hci => by
  have hci := List.mem_singleton.mp hci
  subst hci
  exact ⟨_, rfl, tp_7⟩⟩
theorem uk_TrapCorner_LawReader_29 : UK "TrapCorner$LawReader" 29 2 ⟨"TrapCorner$LawReader", "takes", "(I)Z"⟩ yX5_takes "TrapCorner$Reader" 1 := ⟨tw_643, tw_644, tw_647, tw_3, ⟨by decide, by decide⟩, by decide +kernel, rfl, ⟨_, rfl, tw_646⟩⟩
theorem uk_TrapCorner_LawReader_50 : UK "TrapCorner$LawReader" 50 2 ⟨"TrapCorner$LawReader", "fails", "(I)Z"⟩ yX5_fails "TrapCorner$Reader" 1 := ⟨tw_667, tw_668, tw_586, tw_3, ⟨by decide, by decide⟩, by decide +kernel, rfl, ⟨_, rfl, tw_669⟩⟩
section
variable {g : GG} {p : Program} {l : Launch} {e : Env} {R : Room} {s : State} {m : MethodId} {args : Array Value} {below : List Frame} {meth : Method} {c : Code} {n0 z0 : Nat}
def f_X2_readsAtom_77 (fS : Nat → Int32 → AH → Option (Int32 × AH))  (o0 : Nat) (s0 : Int32) (h : AH) : Option (Int32 × AH) :=
  if s0 < 0 then
    (isC [2] h o0).bind fun _ =>
    cN (f_X5_number o0 4 h) h fun v2 h3 =>
    if v2 = ((-1)) then
      some (0, h3)
    else
      (isC [2] h3 o0).bind fun _ =>
      cN (f_X2_emit o0 v2 h3) h3 fun _ h9 =>
      some (1, h9)
  else
    (gI [2] h o0 1).bind fun v13 =>
    (pV [2] h o0 1 (.int (v13 + 1))).bind fun h15 =>
    (isC [2] h15 o0).bind fun _ =>
    cN (f_X2_emit o0 (10000 + s0) h15) h15 fun _ h18 =>
    some (1, h18)
set_option maxHeartbeats 1000000 in
theorem w_X2_readsAtom_77 (K : Nat) (hK : 14 ≤ K) {fS : Nat → Int32 → AH → Option (Int32 × AH)} (hS : ∀ (o0 : Nat) (x1 : Int32) {h : AH} {res : Int32 × AH}, fS o0 x1 h = some res → CM l g yX2_readsSum cX2_readsSum 6 (some (.boolean)) K (64 * K) 0 0 [.ref (rfG g o0), .int x1] h (some (.int res.1)) res.2) (X : Cx g p s m args meth c cX2_readsAtom 5 "TrapCorner$LawReader") (hR : (K + 1) ≤ R.frames ∧ (64 * (K + 1)) ≤ R.locals) (hr : meth.sig.returnType = (some (.boolean))) {res : Int32 × AH} : ∀ (o0 : Nat) (s0 : Int32) (h : AH) (ls : Array Slot) (H : Heap) (locs : List Loc), f_X2_readsAtom_77 fS o0 s0 h = some res → Iv g s n0 z0 h H locs 0 0 → lv_has ls 5 [(0, .ref (rfG g o0))] → W p l e R s m args below meth c H locs 0 0 (MQ below (QG g (some (.int res.1)) res.2) args s 0 0 (AG g)) (F0 m 77 ls [.int s0]) := by
  have hx := X.1
  have hb := X.2.1
  intro o0 s0 h ls H locs hf I hl
  unfold f_X2_readsAtom_77 at hf
  refine lv_istore_n (lv' := [(3, .int s0), (0, .ref (rfG g o0))]) hx hb dX2_readsAtom_77 rfl hl (by decide) rfl (fun ls hl => ?_)
  refine lv_iload_n hx hb dX2_readsAtom_78 rfl (lv_at hl 0 rfl) ?_
  refine lv_if_lt (tgt := 103) hx hb dX2_readsAtom_79 (by decide) (fun c1 => ?_) (fun c1 => ?_)
  · rw [if_pos c1] at hf
    refine lv_aload_n hx hb dX2_readsAtom_103 rfl (lv_at hl 1 rfl) ?_
    refine lv_iconst (v := 4) hx hb dX2_readsAtom_104 (by decide) ?_
    obtain ⟨_, g6, hf⟩ := Option.bind_eq_some_iff.mp hf
    obtain ⟨v2, h3, e4, z5, hf⟩ := cN_spec hf
    refine k_Ui (As := [.int 4]) (rest := []) X I (c_X5_number l g o0 4 e4) z5 g6 uk_TrapCorner_LawReader_84 tw_593 ⟨by omega, by omega⟩ ⟨Nat.zero_le _, Nat.zero_le _⟩ rfl hl.1 rfl (Nat.le_of_ble_eq_true rfl) dX2_readsAtom_105 (fun H locs I => ?_)
    refine lv_istore (lv' := [(4, .int v2), (3, .int s0), (0, .ref (rfG g o0))]) hx hb dX2_readsAtom_108 hl (by decide) rfl (fun ls hl => ?_)
    refine lv_iload hx hb dX2_readsAtom_110 (lv_at hl 0 rfl) ?_
    refine lv_iconst (v := (-1)) hx hb dX2_readsAtom_112 (by decide) ?_
    refine lv_icmp_ne (tgt := 118) hx hb dX2_readsAtom_113 (by decide) (fun c7 => ?_) (fun c7 => ?_)
    · rw [if_neg c7] at hf
      refine lv_aload_n hx hb dX2_readsAtom_118 rfl (lv_at hl 2 rfl) ?_
      refine lv_iload hx hb dX2_readsAtom_119 (lv_at hl 0 rfl) ?_
      obtain ⟨_, g12, hf⟩ := Option.bind_eq_some_iff.mp hf
      obtain ⟨⟨⟩, h9, e10, z11, hf⟩ := cN_spec hf
      refine k_Vv (As := [.int v2]) (rest := []) X I (c_X2_emit l g o0 v2 e10) z11 g12 vk_TrapCorner_LawReader_39 tw_675 ⟨by omega, by omega⟩ ⟨Nat.zero_le _, Nat.zero_le _⟩ rfl hl.1 rfl (Nat.le_of_ble_eq_true rfl) dX2_readsAtom_121 (fun H locs I => ?_)
      refine lv_iconst (v := 1) hx hb dX2_readsAtom_124 (by decide) ?_
      cases hf
      exact k_rz X I hr (Or.inr rfl) dX2_readsAtom_125
    · rw [if_pos c7] at hf
      refine lv_iconst (v := 0) hx hb dX2_readsAtom_116 (by decide) ?_
      cases hf
      exact k_rz X I hr (Or.inl rfl) dX2_readsAtom_117
  · rw [if_neg c1] at hf
    refine lv_aload_n hx hb dX2_readsAtom_82 rfl (lv_at hl 1 rfl) ?_
    refine lv_dup hx hb dX2_readsAtom_83 rfl ?_
    obtain ⟨v13, e14, hf⟩ := Option.bind_eq_some_iff.mp hf
    refine r_gI X I e14 lk_TrapCorner_LawReader_47 dX2_readsAtom_84 ?_
    refine lv_iconst (v := 1) hx hb dX2_readsAtom_87 (by decide) ?_
    refine lv_iadd hx hb dX2_readsAtom_88 ?_
    obtain ⟨h15, e16, hf⟩ := Option.bind_eq_some_iff.mp hf
    refine r_pI X I e16 lp_TrapCorner_LawReader_47 dX2_readsAtom_89 (fun H locs I => ?_)
    refine lv_aload_n hx hb dX2_readsAtom_92 rfl (lv_at hl 1 rfl) ?_
    refine lv_sipush (v := 10000) hx hb dX2_readsAtom_93 (by decide) ?_
    refine lv_iload_n hx hb dX2_readsAtom_96 rfl (lv_at hl 0 rfl) ?_
    refine lv_iadd hx hb dX2_readsAtom_97 ?_
    obtain ⟨_, g21, hf⟩ := Option.bind_eq_some_iff.mp hf
    obtain ⟨⟨⟩, h18, e19, z20, hf⟩ := cN_spec hf
    refine k_Vv (As := [.int (10000 + s0)]) (rest := []) X I (c_X2_emit l g o0 (10000 + s0) e19) z20 g21 vk_TrapCorner_LawReader_39 tw_675 ⟨by omega, by omega⟩ ⟨Nat.zero_le _, Nat.zero_le _⟩ rfl hl.1 rfl (Nat.le_of_ble_eq_true rfl) dX2_readsAtom_98 (fun H locs I => ?_)
    refine lv_iconst (v := 1) hx hb dX2_readsAtom_101 (by decide) ?_
    cases hf
    exact k_rz X I hr (Or.inr rfl) dX2_readsAtom_102
def f_X2_readsAtom_0 (fS : Nat → Int32 → AH → Option (Int32 × AH))  (o0 : Nat) (x1 : Int32) (h : AH) : Option (Int32 × AH) :=
  (isC [2] h o0).bind fun _ =>
  cN (f_X5_sign o0 h) h fun v1 h2 =>
  if v1 = 91 then
    if x1 < 6 then
      (gI [2] h2 o0 1).bind fun v14 =>
      (pV [2] h2 o0 1 (.int (v14 + 1))).bind fun h16 =>
      (isC [2] h16 o0).bind fun _ =>
      cN (fS o0 (x1 + 1) h16) h16 fun v18 h19 =>
      if v18 = 0 then
        some (0, h19)
      else
        (isC [2] h19 o0).bind fun _ =>
        cN (f_X5_takes o0 93 h19) h19 fun v24 h25 =>
        if v24 = 0 then
          some (0, h25)
        else
          some (1, h25)
    else
      (gI [2] h2 o0 1).bind fun v30 =>
      (isC [2] h2 o0).bind fun _ =>
      cN (f_X5_fails o0 v30 h2) h2 fun v32 h33 =>
      rZ v32 h33
  else
    if v1 = ((-1)) then
      f_X2_readsAtom_77 fS o0 ((-1)) h2
    else
      (sStr 2000003).bind fun _ =>
      cN (f_J0_indexOf_0f7a4 2000003 ((v1.toUInt32 % 65536).toInt32) h2) h2 fun v8 h9 =>
      f_X2_readsAtom_77 fS o0 v8 h9
set_option maxHeartbeats 1000000 in
theorem w_X2_readsAtom_0 (K : Nat) (hK : 14 ≤ K) {fS : Nat → Int32 → AH → Option (Int32 × AH)} (hS : ∀ (o0 : Nat) (x1 : Int32) {h : AH} {res : Int32 × AH}, fS o0 x1 h = some res → CM l g yX2_readsSum cX2_readsSum 6 (some (.boolean)) K (64 * K) 0 0 [.ref (rfG g o0), .int x1] h (some (.int res.1)) res.2) (X : Cx g p s m args meth c cX2_readsAtom 5 "TrapCorner$LawReader") (hR : (K + 1) ≤ R.frames ∧ (64 * (K + 1)) ≤ R.locals) (hr : meth.sig.returnType = (some (.boolean))) {res : Int32 × AH} : ∀ (o0 : Nat) (x1 : Int32) (h : AH) (ls : Array Slot) (H : Heap) (locs : List Loc), f_X2_readsAtom_0 fS o0 x1 h = some res → Iv g s n0 z0 h H locs 0 0 → lv_has ls 5 [(0, .ref (rfG g o0)), (1, .int x1)] → W p l e R s m args below meth c H locs 0 0 (MQ below (QG g (some (.int res.1)) res.2) args s 0 0 (AG g)) (F0 m 0 ls []) := by
  have hx := X.1
  have hb := X.2.1
  intro o0 x1 h ls H locs hf I hl
  unfold f_X2_readsAtom_0 at hf
  refine lv_aload_n hx hb dX2_readsAtom_0 rfl (lv_at hl 0 rfl) ?_
  obtain ⟨_, g5, hf⟩ := Option.bind_eq_some_iff.mp hf
  obtain ⟨v1, h2, e3, z4, hf⟩ := cN_spec hf
  refine k_Ui (As := []) (rest := []) X I (c_X5_sign l g o0 e3) z4 g5 uk_TrapCorner_LawReader_43 tw_478 ⟨by omega, by omega⟩ ⟨Nat.zero_le _, Nat.zero_le _⟩ rfl hl.1 rfl (Nat.le_of_ble_eq_true rfl) dX2_readsAtom_1 (fun H locs I => ?_)
  refine lv_istore_n (lv' := [(2, .int v1), (0, .ref (rfG g o0)), (1, .int x1)]) hx hb dX2_readsAtom_4 rfl hl (by decide) rfl (fun ls hl => ?_)
  refine lv_iload_n hx hb dX2_readsAtom_5 rfl (lv_at hl 0 rfl) ?_
  refine lv_bipush (v := 91) hx hb dX2_readsAtom_6 (by decide) ?_
  refine lv_icmp_ne (tgt := 61) hx hb dX2_readsAtom_8 (by decide) (fun c6 => ?_) (fun c6 => ?_)
  · rw [if_neg c6] at hf
    refine lv_iload_n hx hb dX2_readsAtom_61 rfl (lv_at hl 0 rfl) ?_
    refine lv_iconst (v := (-1)) hx hb dX2_readsAtom_62 (by decide) ?_
    refine lv_icmp_ne (tgt := 70) hx hb dX2_readsAtom_63 (by decide) (fun c7 => ?_) (fun c7 => ?_)
    · rw [if_neg c7] at hf
      refine r_ldcS (tx := "mgwsnd") (i := 3) X (by decide) dX2_readsAtom_70 ?_
      refine lv_iload_n hx hb dX2_readsAtom_72 rfl (lv_at hl 0 rfl) ?_
      refine lv_i2c hx hb dX2_readsAtom_73 rfl ?_
      obtain ⟨_, g12, hf⟩ := Option.bind_eq_some_iff.mp hf
      obtain ⟨v8, h9, e10, z11, hf⟩ := cN_spec hf
      refine k_Ti (As := [.int ((v1.toUInt32 % 65536).toInt32)]) (rest := []) X I (c_J0_indexOf_0f7a4 l g 2000003 ((v1.toUInt32 % 65536).toInt32) e10) z11 g12 tk_TrapCorner_LawReader_79 tw_508 ⟨by omega, by omega⟩ ⟨Nat.zero_le _, Nat.zero_le _⟩ rfl hl.1 rfl (Nat.le_of_ble_eq_true rfl) dX2_readsAtom_74 (fun H locs I => ?_)
      exact w_X2_readsAtom_77 K hK hS X hR hr  o0 v8 h9 ls H locs hf I (lv_sub hl [1] rfl)
    · rw [if_pos c7] at hf
      refine lv_iconst (v := (-1)) hx hb dX2_readsAtom_66 (by decide) ?_
      refine lv_goto (tgt := 77) hx hb dX2_readsAtom_67 (by decide) ?_
      exact w_X2_readsAtom_77 K hK hS X hR hr  o0 ((-1)) h2 ls H locs hf I (lv_sub hl [1] rfl)
  · rw [if_pos c6] at hf
    refine lv_iload_n hx hb dX2_readsAtom_11 rfl (lv_at hl 2 rfl) ?_
    refine lv_bipush (v := 6) hx hb dX2_readsAtom_12 (by decide) ?_
    refine lv_icmp_lt (tgt := 26) hx hb dX2_readsAtom_14 (by decide) (fun c13 => ?_) (fun c13 => ?_)
    · rw [if_pos c13] at hf
      refine lv_aload_n hx hb dX2_readsAtom_26 rfl (lv_at hl 1 rfl) ?_
      refine lv_dup hx hb dX2_readsAtom_27 rfl ?_
      obtain ⟨v14, e15, hf⟩ := Option.bind_eq_some_iff.mp hf
      refine r_gI X I e15 lk_TrapCorner_LawReader_47 dX2_readsAtom_28 ?_
      refine lv_iconst (v := 1) hx hb dX2_readsAtom_31 (by decide) ?_
      refine lv_iadd hx hb dX2_readsAtom_32 ?_
      obtain ⟨h16, e17, hf⟩ := Option.bind_eq_some_iff.mp hf
      refine r_pI X I e17 lp_TrapCorner_LawReader_47 dX2_readsAtom_33 (fun H locs I => ?_)
      refine lv_aload_n hx hb dX2_readsAtom_36 rfl (lv_at hl 1 rfl) ?_
      refine lv_iload_n hx hb dX2_readsAtom_37 rfl (lv_at hl 2 rfl) ?_
      refine lv_iconst (v := 1) hx hb dX2_readsAtom_38 (by decide) ?_
      refine lv_iadd hx hb dX2_readsAtom_39 ?_
      obtain ⟨_, g22, hf⟩ := Option.bind_eq_some_iff.mp hf
      obtain ⟨v18, h19, e20, z21, hf⟩ := cN_spec hf
      refine k_Vi (As := [.int (x1 + 1)]) (rest := []) X I (hS o0 (x1 + 1) e20) z21 g22 vk_TrapCorner_LawReader_56 tw_662 ⟨by omega, by omega⟩ ⟨Nat.zero_le _, Nat.zero_le _⟩ rfl hl.1 rfl (Nat.le_of_ble_eq_true rfl) dX2_readsAtom_40 (fun H locs I => ?_)
      refine lv_if_eq (tgt := 59) hx hb dX2_readsAtom_43 (by decide) (fun c23 => ?_) (fun c23 => ?_)
      · rw [if_pos c23] at hf
        refine lv_iconst (v := 0) hx hb dX2_readsAtom_59 (by decide) ?_
        cases hf
        exact k_rz X I hr (Or.inl rfl) dX2_readsAtom_60
      · rw [if_neg c23] at hf
        refine lv_aload_n hx hb dX2_readsAtom_46 rfl (lv_at hl 1 rfl) ?_
        refine lv_bipush (v := 93) hx hb dX2_readsAtom_47 (by decide) ?_
        obtain ⟨_, g28, hf⟩ := Option.bind_eq_some_iff.mp hf
        obtain ⟨v24, h25, e26, z27, hf⟩ := cN_spec hf
        refine k_Ui (As := [.int 93]) (rest := []) X I (c_X5_takes l g o0 93 e26) z27 g28 uk_TrapCorner_LawReader_29 tw_648 ⟨by omega, by omega⟩ ⟨Nat.zero_le _, Nat.zero_le _⟩ rfl hl.1 rfl (Nat.le_of_ble_eq_true rfl) dX2_readsAtom_49 (fun H locs I => ?_)
        refine lv_if_eq (tgt := 59) hx hb dX2_readsAtom_52 (by decide) (fun c29 => ?_) (fun c29 => ?_)
        · rw [if_pos c29] at hf
          refine lv_iconst (v := 0) hx hb dX2_readsAtom_59 (by decide) ?_
          cases hf
          exact k_rz X I hr (Or.inl rfl) dX2_readsAtom_60
        · rw [if_neg c29] at hf
          refine lv_iconst (v := 1) hx hb dX2_readsAtom_55 (by decide) ?_
          refine lv_goto (tgt := 60) hx hb dX2_readsAtom_56 (by decide) ?_
          cases hf
          exact k_rz X I hr (Or.inr rfl) dX2_readsAtom_60
    · rw [if_neg c13] at hf
      refine lv_aload_n hx hb dX2_readsAtom_17 rfl (lv_at hl 1 rfl) ?_
      refine lv_aload_n hx hb dX2_readsAtom_18 rfl (lv_at hl 1 rfl) ?_
      obtain ⟨v30, e31, hf⟩ := Option.bind_eq_some_iff.mp hf
      refine r_gI X I e31 lk_TrapCorner_LawReader_47 dX2_readsAtom_19 ?_
      obtain ⟨_, g36, hf⟩ := Option.bind_eq_some_iff.mp hf
      obtain ⟨v32, h33, e34, z35, hf⟩ := cN_spec hf
      refine k_Ui (As := [.int v30]) (rest := []) X I (c_X5_fails l g o0 v30 e34) z35 g36 uk_TrapCorner_LawReader_50 tw_587 ⟨by omega, by omega⟩ ⟨Nat.zero_le _, Nat.zero_le _⟩ rfl hl.1 rfl (Nat.le_of_ble_eq_true rfl) dX2_readsAtom_22 (fun H locs I => ?_)
      obtain ⟨hz, rfl⟩ := rZ_spec hf
      exact k_rz X I hr hz dX2_readsAtom_25
def f_X2_readsAtom (fS : Nat → Int32 → AH → Option (Int32 × AH)) (o0 : Nat) (x1 : Int32) (h : AH) : Option (Int32 × AH) := f_X2_readsAtom_0 fS o0 x1 h
end
theorem c_X2_readsAtom (l : Launch) (g : GG) (K : Nat) (hK : 14 ≤ K) {fS : Nat → Int32 → AH → Option (Int32 × AH)} (hS : ∀ (o0 : Nat) (x1 : Int32) {h : AH} {res : Int32 × AH}, fS o0 x1 h = some res → CM l g yX2_readsSum cX2_readsSum 6 (some (.boolean)) K (64 * K) 0 0 [.ref (rfG g o0), .int x1] h (some (.int res.1)) res.2) (o0 : Nat) (x1 : Int32) {h : AH} {res : Int32 × AH} (hf : f_X2_readsAtom fS o0 x1 h = some res) : CM l g yX2_readsAtom cX2_readsAtom 5 (some (.boolean)) (K + 1) (64 * (K + 1)) 0 0 [.ref (rfG g o0), .int x1] h (some (.int res.1)) res.2 :=
  k_body (by decide) (Nat.le_of_ble_eq_true rfl) (fun p e s m below meth c R ls hR hr X I hl => w_X2_readsAtom_0 K hK hS X ⟨Nat.le_of_eq hR.1.symm, Nat.le_of_eq hR.2.1.symm⟩ hr o0 x1 h ls s.heap [] hf I (lv_sub hl [0, 1] rfl))
/-! TrapCorner$LawReader.readsSum(I)Z -/
theorem dX2_readsSum_0 : decode cX2_readsSum 0 = .ok (.iconst (-1), 1) := by decide +kernel
theorem dX2_readsSum_1 : decode cX2_readsSum 1 = .ok (.istore_n 2, 1) := by decide +kernel
theorem dX2_readsSum_2 : decode cX2_readsSum 2 = .ok (.iconst (-1), 1) := by decide +kernel
theorem dX2_readsSum_3 : decode cX2_readsSum 3 = .ok (.istore_n 3, 1) := by decide +kernel
theorem dX2_readsSum_4 : decode cX2_readsSum 4 = .ok (.iconst 0, 1) := by decide +kernel
theorem dX2_readsSum_5 : decode cX2_readsSum 5 = .ok (.istore 4, 2) := by decide +kernel
theorem dX2_readsSum_7 : decode cX2_readsSum 7 = .ok (.iload 4, 2) := by decide +kernel
theorem dX2_readsSum_9 : decode cX2_readsSum 9 = .ok (.sipush 240, 3) := by decide +kernel
theorem dX2_readsSum_12 : decode cX2_readsSum 12 = .ok (.if_icmp .gt 123, 3) := by decide +kernel
theorem dX2_readsSum_15 : decode cX2_readsSum 15 = .ok (.aload_n 0, 1) := by decide +kernel
theorem dX2_readsSum_16 : decode cX2_readsSum 16 = .ok (.iload_n 1, 1) := by decide +kernel
theorem dX2_readsSum_17 : decode cX2_readsSum 17 = .ok (.invokevirtual 74, 3) := by decide +kernel
theorem dX2_readsSum_20 : decode cX2_readsSum 20 = .ok (.ifCond .ne 5, 3) := by decide +kernel
theorem dX2_readsSum_23 : decode cX2_readsSum 23 = .ok (.iconst 0, 1) := by decide +kernel
theorem dX2_readsSum_24 : decode cX2_readsSum 24 = .ok (.ireturn, 1) := by decide +kernel
theorem dX2_readsSum_25 : decode cX2_readsSum 25 = .ok (.iload_n 3, 1) := by decide +kernel
theorem dX2_readsSum_26 : decode cX2_readsSum 26 = .ok (.iconst (-1), 1) := by decide +kernel
theorem dX2_readsSum_27 : decode cX2_readsSum 27 = .ok (.if_icmp .eq 8, 3) := by decide +kernel
theorem dX2_readsSum_30 : decode cX2_readsSum 30 = .ok (.aload_n 0, 1) := by decide +kernel
theorem dX2_readsSum_31 : decode cX2_readsSum 31 = .ok (.iload_n 3, 1) := by decide +kernel
theorem dX2_readsSum_32 : decode cX2_readsSum 32 = .ok (.invokevirtual 39, 3) := by decide +kernel
theorem dX2_readsSum_35 : decode cX2_readsSum 35 = .ok (.aload_n 0, 1) := by decide +kernel
theorem dX2_readsSum_36 : decode cX2_readsSum 36 = .ok (.invokevirtual 43, 3) := by decide +kernel
theorem dX2_readsSum_39 : decode cX2_readsSum 39 = .ok (.istore 5, 2) := by decide +kernel
theorem dX2_readsSum_41 : decode cX2_readsSum 41 = .ok (.iload 5, 2) := by decide +kernel
theorem dX2_readsSum_43 : decode cX2_readsSum 43 = .ok (.bipush 42, 2) := by decide +kernel
theorem dX2_readsSum_45 : decode cX2_readsSum 45 = .ok (.if_icmp .ne 9, 3) := by decide +kernel
theorem dX2_readsSum_48 : decode cX2_readsSum 48 = .ok (.sipush 10008, 3) := by decide +kernel
theorem dX2_readsSum_51 : decode cX2_readsSum 51 = .ok (.goto 17, 3) := by decide +kernel
theorem dX2_readsSum_54 : decode cX2_readsSum 54 = .ok (.iload 5, 2) := by decide +kernel
theorem dX2_readsSum_56 : decode cX2_readsSum 56 = .ok (.bipush 47, 2) := by decide +kernel
theorem dX2_readsSum_58 : decode cX2_readsSum 58 = .ok (.if_icmp .ne 9, 3) := by decide +kernel
theorem dX2_readsSum_61 : decode cX2_readsSum 61 = .ok (.sipush 10009, 3) := by decide +kernel
theorem dX2_readsSum_64 : decode cX2_readsSum 64 = .ok (.goto 4, 3) := by decide +kernel
theorem dX2_readsSum_67 : decode cX2_readsSum 67 = .ok (.iconst (-1), 1) := by decide +kernel
theorem dX2_readsSum_68 : decode cX2_readsSum 68 = .ok (.istore_n 3, 1) := by decide +kernel
theorem dX2_readsSum_69 : decode cX2_readsSum 69 = .ok (.iload_n 3, 1) := by decide +kernel
theorem dX2_readsSum_70 : decode cX2_readsSum 70 = .ok (.iconst (-1), 1) := by decide +kernel
theorem dX2_readsSum_71 : decode cX2_readsSum 71 = .ok (.if_icmp .ne 48, 3) := by decide +kernel
theorem dX2_readsSum_74 : decode cX2_readsSum 74 = .ok (.iload_n 2, 1) := by decide +kernel
theorem dX2_readsSum_75 : decode cX2_readsSum 75 = .ok (.iconst (-1), 1) := by decide +kernel
theorem dX2_readsSum_76 : decode cX2_readsSum 76 = .ok (.if_icmp .eq 8, 3) := by decide +kernel
theorem dX2_readsSum_79 : decode cX2_readsSum 79 = .ok (.aload_n 0, 1) := by decide +kernel
theorem dX2_readsSum_80 : decode cX2_readsSum 80 = .ok (.iload_n 2, 1) := by decide +kernel
theorem dX2_readsSum_81 : decode cX2_readsSum 81 = .ok (.invokevirtual 39, 3) := by decide +kernel
theorem dX2_readsSum_84 : decode cX2_readsSum 84 = .ok (.iload 5, 2) := by decide +kernel
theorem dX2_readsSum_86 : decode cX2_readsSum 86 = .ok (.bipush 43, 2) := by decide +kernel
theorem dX2_readsSum_88 : decode cX2_readsSum 88 = .ok (.if_icmp .ne 9, 3) := by decide +kernel
theorem dX2_readsSum_91 : decode cX2_readsSum 91 = .ok (.sipush 10006, 3) := by decide +kernel
theorem dX2_readsSum_94 : decode cX2_readsSum 94 = .ok (.goto 17, 3) := by decide +kernel
theorem dX2_readsSum_97 : decode cX2_readsSum 97 = .ok (.iload 5, 2) := by decide +kernel
theorem dX2_readsSum_99 : decode cX2_readsSum 99 = .ok (.bipush 45, 2) := by decide +kernel
theorem dX2_readsSum_101 : decode cX2_readsSum 101 = .ok (.if_icmp .ne 9, 3) := by decide +kernel
theorem dX2_readsSum_104 : decode cX2_readsSum 104 = .ok (.sipush 10007, 3) := by decide +kernel
theorem dX2_readsSum_107 : decode cX2_readsSum 107 = .ok (.goto 4, 3) := by decide +kernel
theorem dX2_readsSum_110 : decode cX2_readsSum 110 = .ok (.iconst (-1), 1) := by decide +kernel
theorem dX2_readsSum_111 : decode cX2_readsSum 111 = .ok (.istore_n 2, 1) := by decide +kernel
theorem dX2_readsSum_112 : decode cX2_readsSum 112 = .ok (.iload_n 2, 1) := by decide +kernel
theorem dX2_readsSum_113 : decode cX2_readsSum 113 = .ok (.iconst (-1), 1) := by decide +kernel
theorem dX2_readsSum_114 : decode cX2_readsSum 114 = .ok (.if_icmp .ne 5, 3) := by decide +kernel
theorem dX2_readsSum_117 : decode cX2_readsSum 117 = .ok (.iconst 1, 1) := by decide +kernel
theorem dX2_readsSum_118 : decode cX2_readsSum 118 = .ok (.ireturn, 1) := by decide +kernel
theorem dX2_readsSum_119 : decode cX2_readsSum 119 = .ok (.aload_n 0, 1) := by decide +kernel
theorem dX2_readsSum_120 : decode cX2_readsSum 120 = .ok (.dup, 1) := by decide +kernel
theorem dX2_readsSum_121 : decode cX2_readsSum 121 = .ok (.getfield 47, 3) := by decide +kernel
theorem dX2_readsSum_124 : decode cX2_readsSum 124 = .ok (.iconst 1, 1) := by decide +kernel
theorem dX2_readsSum_125 : decode cX2_readsSum 125 = .ok (.iadd, 1) := by decide +kernel
theorem dX2_readsSum_126 : decode cX2_readsSum 126 = .ok (.putfield 47, 3) := by decide +kernel
theorem dX2_readsSum_129 : decode cX2_readsSum 129 = .ok (.iinc 4 1, 3) := by decide +kernel
theorem dX2_readsSum_132 : decode cX2_readsSum 132 = .ok (.goto (-125), 3) := by decide +kernel
theorem dX2_readsSum_135 : decode cX2_readsSum 135 = .ok (.aload_n 0, 1) := by decide +kernel
theorem dX2_readsSum_136 : decode cX2_readsSum 136 = .ok (.aload_n 0, 1) := by decide +kernel
theorem dX2_readsSum_137 : decode cX2_readsSum 137 = .ok (.getfield 47, 3) := by decide +kernel
theorem dX2_readsSum_140 : decode cX2_readsSum 140 = .ok (.invokevirtual 50, 3) := by decide +kernel
theorem dX2_readsSum_143 : decode cX2_readsSum 143 = .ok (.ireturn, 1) := by decide +kernel
theorem vk_TrapCorner_LawReader_74 : VK "TrapCorner$LawReader" 74 [2] yX2_readsAtom 1 := ⟨tw_663, tw_665, tw_6, ⟨by decide, by decide⟩, by decide +kernel, fun ci hci => by
  have hci := List.mem_singleton.mp hci
  subst hci
  exact ⟨_, rfl, tp_8⟩⟩
section
variable {g : GG} {p : Program} {l : Launch} {e : Env} {R : Room} {s : State} {m : MethodId} {args : Array Value} {below : List Frame} {meth : Method} {c : Code} {n0 z0 : Nat}
def f_X2_readsSum_119 (fS : Nat → Int32 → AH → Option (Int32 × AH)) (k7 : Nat → Int32 → Int32 → Int32 → Int32 → AH → Option (Int32 × AH)) (o0 : Nat) (x1 : Int32) (x2 : Int32) (x3 : Int32) (x4 : Int32) (h : AH) : Option (Int32 × AH) :=
  (gI [2] h o0 1).bind fun v1 =>
  (pV [2] h o0 1 (.int (v1 + 1))).bind fun h3 =>
  k7 o0 x1 x2 x3 (x4 + 1) h3
set_option maxHeartbeats 1000000 in
theorem w_X2_readsSum_119 (K : Nat) (hK : 14 ≤ K) {fS : Nat → Int32 → AH → Option (Int32 × AH)} (hS : ∀ (o0 : Nat) (x1 : Int32) {h : AH} {res : Int32 × AH}, fS o0 x1 h = some res → CM l g yX2_readsSum cX2_readsSum 6 (some (.boolean)) K (64 * K) 0 0 [.ref (rfG g o0), .int x1] h (some (.int res.1)) res.2) (X : Cx g p s m args meth c cX2_readsSum 6 "TrapCorner$LawReader") (hR : (K + 2) ≤ R.frames ∧ (64 * (K + 2)) ≤ R.locals) (hr : meth.sig.returnType = (some (.boolean))) {res : Int32 × AH} {k7 : Nat → Int32 → Int32 → Int32 → Int32 → AH → Option (Int32 × AH)} (hk7 : ∀ (o0 : Nat) (x1 : Int32) (x2 : Int32) (x3 : Int32) (x4 : Int32) (h : AH) (ls : Array Slot) (H : Heap) (locs : List Loc), k7 o0 x1 x2 x3 x4 h = some res → Iv g s n0 z0 h H locs 0 0 → lv_has ls 6 [(0, .ref (rfG g o0)), (1, .int x1), (2, .int x2), (3, .int x3), (4, .int x4)] → W p l e R s m args below meth c H locs 0 0 (MQ below (QG g (some (.int res.1)) res.2) args s 0 0 (AG g)) (F0 m 7 ls [])) : ∀ (o0 : Nat) (x1 : Int32) (x2 : Int32) (x3 : Int32) (x4 : Int32) (h : AH) (ls : Array Slot) (H : Heap) (locs : List Loc), f_X2_readsSum_119 fS k7 o0 x1 x2 x3 x4 h = some res → Iv g s n0 z0 h H locs 0 0 → lv_has ls 6 [(0, .ref (rfG g o0)), (1, .int x1), (2, .int x2), (3, .int x3), (4, .int x4)] → W p l e R s m args below meth c H locs 0 0 (MQ below (QG g (some (.int res.1)) res.2) args s 0 0 (AG g)) (F0 m 119 ls []) := by
  have hx := X.1
  have hb := X.2.1
  intro o0 x1 x2 x3 x4 h ls H locs hf I hl
  unfold f_X2_readsSum_119 at hf
  refine lv_aload_n hx hb dX2_readsSum_119 rfl (lv_at hl 0 rfl) ?_
  refine lv_dup hx hb dX2_readsSum_120 rfl ?_
  obtain ⟨v1, e2, hf⟩ := Option.bind_eq_some_iff.mp hf
  refine r_gI X I e2 lk_TrapCorner_LawReader_47 dX2_readsSum_121 ?_
  refine lv_iconst (v := 1) hx hb dX2_readsSum_124 (by decide) ?_
  refine lv_iadd hx hb dX2_readsSum_125 ?_
  obtain ⟨h3, e4, hf⟩ := Option.bind_eq_some_iff.mp hf
  refine r_pI X I e4 lp_TrapCorner_LawReader_47 dX2_readsSum_126 (fun H locs I => ?_)
  refine lv_iinc (v := x4 + 1) (lv' := [(4, .int (x4 + 1)), (0, .ref (rfG g o0)), (1, .int x1), (2, .int x2), (3, .int x3)]) hx hb dX2_readsSum_129 hl (k := 4) rfl rfl (by decide) rfl (fun ls hl => ?_)
  refine lv_goto (tgt := 7) hx hb dX2_readsSum_132 (by decide) ?_
  exact hk7 o0 x1 x2 x3 (x4 + 1) h3 ls H locs hf I (lv_sub hl [1, 2, 3, 4, 0] rfl)
def f_X2_readsSum_111 (fS : Nat → Int32 → AH → Option (Int32 × AH)) (k7 : Nat → Int32 → Int32 → Int32 → Int32 → AH → Option (Int32 × AH)) (o0 : Nat) (x1 : Int32) (x3 : Int32) (x4 : Int32) (s0 : Int32) (h : AH) : Option (Int32 × AH) :=
  if s0 = ((-1)) then
    some (1, h)
  else
    f_X2_readsSum_119 fS k7 o0 x1 s0 x3 x4 h
set_option maxHeartbeats 1000000 in
theorem w_X2_readsSum_111 (K : Nat) (hK : 14 ≤ K) {fS : Nat → Int32 → AH → Option (Int32 × AH)} (hS : ∀ (o0 : Nat) (x1 : Int32) {h : AH} {res : Int32 × AH}, fS o0 x1 h = some res → CM l g yX2_readsSum cX2_readsSum 6 (some (.boolean)) K (64 * K) 0 0 [.ref (rfG g o0), .int x1] h (some (.int res.1)) res.2) (X : Cx g p s m args meth c cX2_readsSum 6 "TrapCorner$LawReader") (hR : (K + 2) ≤ R.frames ∧ (64 * (K + 2)) ≤ R.locals) (hr : meth.sig.returnType = (some (.boolean))) {res : Int32 × AH} {k7 : Nat → Int32 → Int32 → Int32 → Int32 → AH → Option (Int32 × AH)} (hk7 : ∀ (o0 : Nat) (x1 : Int32) (x2 : Int32) (x3 : Int32) (x4 : Int32) (h : AH) (ls : Array Slot) (H : Heap) (locs : List Loc), k7 o0 x1 x2 x3 x4 h = some res → Iv g s n0 z0 h H locs 0 0 → lv_has ls 6 [(0, .ref (rfG g o0)), (1, .int x1), (2, .int x2), (3, .int x3), (4, .int x4)] → W p l e R s m args below meth c H locs 0 0 (MQ below (QG g (some (.int res.1)) res.2) args s 0 0 (AG g)) (F0 m 7 ls [])) : ∀ (o0 : Nat) (x1 : Int32) (x3 : Int32) (x4 : Int32) (s0 : Int32) (h : AH) (ls : Array Slot) (H : Heap) (locs : List Loc), f_X2_readsSum_111 fS k7 o0 x1 x3 x4 s0 h = some res → Iv g s n0 z0 h H locs 0 0 → lv_has ls 6 [(0, .ref (rfG g o0)), (1, .int x1), (3, .int x3), (4, .int x4)] → W p l e R s m args below meth c H locs 0 0 (MQ below (QG g (some (.int res.1)) res.2) args s 0 0 (AG g)) (F0 m 111 ls [.int s0]) := by
  have hx := X.1
  have hb := X.2.1
  intro o0 x1 x3 x4 s0 h ls H locs hf I hl
  unfold f_X2_readsSum_111 at hf
  refine lv_istore_n (lv' := [(2, .int s0), (0, .ref (rfG g o0)), (1, .int x1), (3, .int x3), (4, .int x4)]) hx hb dX2_readsSum_111 rfl hl (by decide) rfl (fun ls hl => ?_)
  refine lv_iload_n hx hb dX2_readsSum_112 rfl (lv_at hl 0 rfl) ?_
  refine lv_iconst (v := (-1)) hx hb dX2_readsSum_113 (by decide) ?_
  refine lv_icmp_ne (tgt := 119) hx hb dX2_readsSum_114 (by decide) (fun c1 => ?_) (fun c1 => ?_)
  · rw [if_neg c1] at hf
    exact w_X2_readsSum_119 K hK hS X hR hr hk7 o0 x1 s0 x3 x4 h ls H locs hf I (lv_sub hl [1, 2, 0, 3, 4] rfl)
  · rw [if_pos c1] at hf
    refine lv_iconst (v := 1) hx hb dX2_readsSum_117 (by decide) ?_
    cases hf
    exact k_rz X I hr (Or.inr rfl) dX2_readsSum_118
def f_X2_readsSum_84 (fS : Nat → Int32 → AH → Option (Int32 × AH)) (k7 : Nat → Int32 → Int32 → Int32 → Int32 → AH → Option (Int32 × AH)) (o0 : Nat) (x1 : Int32) (x3 : Int32) (x4 : Int32) (x5 : Int32) (h : AH) : Option (Int32 × AH) :=
  if x5 = 43 then
    f_X2_readsSum_111 fS k7 o0 x1 x3 x4 10006 h
  else
    if x5 = 45 then
      f_X2_readsSum_111 fS k7 o0 x1 x3 x4 10007 h
    else
      f_X2_readsSum_111 fS k7 o0 x1 x3 x4 ((-1)) h
set_option maxHeartbeats 1000000 in
theorem w_X2_readsSum_84 (K : Nat) (hK : 14 ≤ K) {fS : Nat → Int32 → AH → Option (Int32 × AH)} (hS : ∀ (o0 : Nat) (x1 : Int32) {h : AH} {res : Int32 × AH}, fS o0 x1 h = some res → CM l g yX2_readsSum cX2_readsSum 6 (some (.boolean)) K (64 * K) 0 0 [.ref (rfG g o0), .int x1] h (some (.int res.1)) res.2) (X : Cx g p s m args meth c cX2_readsSum 6 "TrapCorner$LawReader") (hR : (K + 2) ≤ R.frames ∧ (64 * (K + 2)) ≤ R.locals) (hr : meth.sig.returnType = (some (.boolean))) {res : Int32 × AH} {k7 : Nat → Int32 → Int32 → Int32 → Int32 → AH → Option (Int32 × AH)} (hk7 : ∀ (o0 : Nat) (x1 : Int32) (x2 : Int32) (x3 : Int32) (x4 : Int32) (h : AH) (ls : Array Slot) (H : Heap) (locs : List Loc), k7 o0 x1 x2 x3 x4 h = some res → Iv g s n0 z0 h H locs 0 0 → lv_has ls 6 [(0, .ref (rfG g o0)), (1, .int x1), (2, .int x2), (3, .int x3), (4, .int x4)] → W p l e R s m args below meth c H locs 0 0 (MQ below (QG g (some (.int res.1)) res.2) args s 0 0 (AG g)) (F0 m 7 ls [])) : ∀ (o0 : Nat) (x1 : Int32) (x3 : Int32) (x4 : Int32) (x5 : Int32) (h : AH) (ls : Array Slot) (H : Heap) (locs : List Loc), f_X2_readsSum_84 fS k7 o0 x1 x3 x4 x5 h = some res → Iv g s n0 z0 h H locs 0 0 → lv_has ls 6 [(0, .ref (rfG g o0)), (1, .int x1), (3, .int x3), (4, .int x4), (5, .int x5)] → W p l e R s m args below meth c H locs 0 0 (MQ below (QG g (some (.int res.1)) res.2) args s 0 0 (AG g)) (F0 m 84 ls []) := by
  have hx := X.1
  have hb := X.2.1
  intro o0 x1 x3 x4 x5 h ls H locs hf I hl
  unfold f_X2_readsSum_84 at hf
  refine lv_iload hx hb dX2_readsSum_84 (lv_at hl 4 rfl) ?_
  refine lv_bipush (v := 43) hx hb dX2_readsSum_86 (by decide) ?_
  refine lv_icmp_ne (tgt := 97) hx hb dX2_readsSum_88 (by decide) (fun c1 => ?_) (fun c1 => ?_)
  · rw [if_neg c1] at hf
    refine lv_iload hx hb dX2_readsSum_97 (lv_at hl 4 rfl) ?_
    refine lv_bipush (v := 45) hx hb dX2_readsSum_99 (by decide) ?_
    refine lv_icmp_ne (tgt := 110) hx hb dX2_readsSum_101 (by decide) (fun c2 => ?_) (fun c2 => ?_)
    · rw [if_neg c2] at hf
      refine lv_iconst (v := (-1)) hx hb dX2_readsSum_110 (by decide) ?_
      exact w_X2_readsSum_111 K hK hS X hR hr hk7 o0 x1 x3 x4 ((-1)) h ls H locs hf I (lv_sub hl [0, 1, 2, 3] rfl)
    · rw [if_pos c2] at hf
      refine lv_sipush (v := 10007) hx hb dX2_readsSum_104 (by decide) ?_
      refine lv_goto (tgt := 111) hx hb dX2_readsSum_107 (by decide) ?_
      exact w_X2_readsSum_111 K hK hS X hR hr hk7 o0 x1 x3 x4 10007 h ls H locs hf I (lv_sub hl [0, 1, 2, 3] rfl)
  · rw [if_pos c1] at hf
    refine lv_sipush (v := 10006) hx hb dX2_readsSum_91 (by decide) ?_
    refine lv_goto (tgt := 111) hx hb dX2_readsSum_94 (by decide) ?_
    exact w_X2_readsSum_111 K hK hS X hR hr hk7 o0 x1 x3 x4 10006 h ls H locs hf I (lv_sub hl [0, 1, 2, 3] rfl)
def f_X2_readsSum_68 (fS : Nat → Int32 → AH → Option (Int32 × AH)) (k7 : Nat → Int32 → Int32 → Int32 → Int32 → AH → Option (Int32 × AH)) (o0 : Nat) (x1 : Int32) (x2 : Int32) (x4 : Int32) (x5 : Int32) (s0 : Int32) (h : AH) : Option (Int32 × AH) :=
  if s0 = ((-1)) then
    if x2 = ((-1)) then
      f_X2_readsSum_84 fS k7 o0 x1 s0 x4 x5 h
    else
      (isC [2] h o0).bind fun _ =>
      cN (f_X2_emit o0 x2 h) h fun _ h4 =>
      f_X2_readsSum_84 fS k7 o0 x1 s0 x4 x5 h4
  else
    f_X2_readsSum_119 fS k7 o0 x1 x2 s0 x4 h
set_option maxHeartbeats 1000000 in
theorem w_X2_readsSum_68 (K : Nat) (hK : 14 ≤ K) {fS : Nat → Int32 → AH → Option (Int32 × AH)} (hS : ∀ (o0 : Nat) (x1 : Int32) {h : AH} {res : Int32 × AH}, fS o0 x1 h = some res → CM l g yX2_readsSum cX2_readsSum 6 (some (.boolean)) K (64 * K) 0 0 [.ref (rfG g o0), .int x1] h (some (.int res.1)) res.2) (X : Cx g p s m args meth c cX2_readsSum 6 "TrapCorner$LawReader") (hR : (K + 2) ≤ R.frames ∧ (64 * (K + 2)) ≤ R.locals) (hr : meth.sig.returnType = (some (.boolean))) {res : Int32 × AH} {k7 : Nat → Int32 → Int32 → Int32 → Int32 → AH → Option (Int32 × AH)} (hk7 : ∀ (o0 : Nat) (x1 : Int32) (x2 : Int32) (x3 : Int32) (x4 : Int32) (h : AH) (ls : Array Slot) (H : Heap) (locs : List Loc), k7 o0 x1 x2 x3 x4 h = some res → Iv g s n0 z0 h H locs 0 0 → lv_has ls 6 [(0, .ref (rfG g o0)), (1, .int x1), (2, .int x2), (3, .int x3), (4, .int x4)] → W p l e R s m args below meth c H locs 0 0 (MQ below (QG g (some (.int res.1)) res.2) args s 0 0 (AG g)) (F0 m 7 ls [])) : ∀ (o0 : Nat) (x1 : Int32) (x2 : Int32) (x4 : Int32) (x5 : Int32) (s0 : Int32) (h : AH) (ls : Array Slot) (H : Heap) (locs : List Loc), f_X2_readsSum_68 fS k7 o0 x1 x2 x4 x5 s0 h = some res → Iv g s n0 z0 h H locs 0 0 → lv_has ls 6 [(0, .ref (rfG g o0)), (1, .int x1), (2, .int x2), (4, .int x4), (5, .int x5)] → W p l e R s m args below meth c H locs 0 0 (MQ below (QG g (some (.int res.1)) res.2) args s 0 0 (AG g)) (F0 m 68 ls [.int s0]) := by
  have hx := X.1
  have hb := X.2.1
  intro o0 x1 x2 x4 x5 s0 h ls H locs hf I hl
  unfold f_X2_readsSum_68 at hf
  refine lv_istore_n (lv' := [(3, .int s0), (0, .ref (rfG g o0)), (1, .int x1), (2, .int x2), (4, .int x4), (5, .int x5)]) hx hb dX2_readsSum_68 rfl hl (by decide) rfl (fun ls hl => ?_)
  refine lv_iload_n hx hb dX2_readsSum_69 rfl (lv_at hl 0 rfl) ?_
  refine lv_iconst (v := (-1)) hx hb dX2_readsSum_70 (by decide) ?_
  refine lv_icmp_ne (tgt := 119) hx hb dX2_readsSum_71 (by decide) (fun c1 => ?_) (fun c1 => ?_)
  · rw [if_neg c1] at hf
    exact w_X2_readsSum_119 K hK hS X hR hr hk7 o0 x1 x2 s0 x4 h ls H locs hf I (lv_sub hl [1, 2, 3, 0, 4] rfl)
  · rw [if_pos c1] at hf
    refine lv_iload_n hx hb dX2_readsSum_74 rfl (lv_at hl 3 rfl) ?_
    refine lv_iconst (v := (-1)) hx hb dX2_readsSum_75 (by decide) ?_
    refine lv_icmp_eq (tgt := 84) hx hb dX2_readsSum_76 (by decide) (fun c2 => ?_) (fun c2 => ?_)
    · rw [if_pos c2] at hf
      exact w_X2_readsSum_84 K hK hS X hR hr hk7 o0 x1 s0 x4 x5 h ls H locs hf I (lv_sub hl [1, 2, 0, 4, 5] rfl)
    · rw [if_neg c2] at hf
      refine lv_aload_n hx hb dX2_readsSum_79 rfl (lv_at hl 1 rfl) ?_
      refine lv_iload_n hx hb dX2_readsSum_80 rfl (lv_at hl 3 rfl) ?_
      obtain ⟨_, g7, hf⟩ := Option.bind_eq_some_iff.mp hf
      obtain ⟨⟨⟩, h4, e5, z6, hf⟩ := cN_spec hf
      refine k_Vv (As := [.int x2]) (rest := []) X I (c_X2_emit l g o0 x2 e5) z6 g7 vk_TrapCorner_LawReader_39 tw_675 ⟨by omega, by omega⟩ ⟨Nat.zero_le _, Nat.zero_le _⟩ rfl hl.1 rfl (Nat.le_of_ble_eq_true rfl) dX2_readsSum_81 (fun H locs I => ?_)
      exact w_X2_readsSum_84 K hK hS X hR hr hk7 o0 x1 s0 x4 x5 h4 ls H locs hf I (lv_sub hl [1, 2, 0, 4, 5] rfl)
def f_X2_readsSum_35 (fS : Nat → Int32 → AH → Option (Int32 × AH)) (k7 : Nat → Int32 → Int32 → Int32 → Int32 → AH → Option (Int32 × AH)) (o0 : Nat) (x1 : Int32) (x2 : Int32) (x4 : Int32) (h : AH) : Option (Int32 × AH) :=
  (isC [2] h o0).bind fun _ =>
  cN (f_X5_sign o0 h) h fun v1 h2 =>
  if v1 = 42 then
    f_X2_readsSum_68 fS k7 o0 x1 x2 x4 v1 10008 h2
  else
    if v1 = 47 then
      f_X2_readsSum_68 fS k7 o0 x1 x2 x4 v1 10009 h2
    else
      f_X2_readsSum_68 fS k7 o0 x1 x2 x4 v1 ((-1)) h2
set_option maxHeartbeats 1000000 in
theorem w_X2_readsSum_35 (K : Nat) (hK : 14 ≤ K) {fS : Nat → Int32 → AH → Option (Int32 × AH)} (hS : ∀ (o0 : Nat) (x1 : Int32) {h : AH} {res : Int32 × AH}, fS o0 x1 h = some res → CM l g yX2_readsSum cX2_readsSum 6 (some (.boolean)) K (64 * K) 0 0 [.ref (rfG g o0), .int x1] h (some (.int res.1)) res.2) (X : Cx g p s m args meth c cX2_readsSum 6 "TrapCorner$LawReader") (hR : (K + 2) ≤ R.frames ∧ (64 * (K + 2)) ≤ R.locals) (hr : meth.sig.returnType = (some (.boolean))) {res : Int32 × AH} {k7 : Nat → Int32 → Int32 → Int32 → Int32 → AH → Option (Int32 × AH)} (hk7 : ∀ (o0 : Nat) (x1 : Int32) (x2 : Int32) (x3 : Int32) (x4 : Int32) (h : AH) (ls : Array Slot) (H : Heap) (locs : List Loc), k7 o0 x1 x2 x3 x4 h = some res → Iv g s n0 z0 h H locs 0 0 → lv_has ls 6 [(0, .ref (rfG g o0)), (1, .int x1), (2, .int x2), (3, .int x3), (4, .int x4)] → W p l e R s m args below meth c H locs 0 0 (MQ below (QG g (some (.int res.1)) res.2) args s 0 0 (AG g)) (F0 m 7 ls [])) : ∀ (o0 : Nat) (x1 : Int32) (x2 : Int32) (x4 : Int32) (h : AH) (ls : Array Slot) (H : Heap) (locs : List Loc), f_X2_readsSum_35 fS k7 o0 x1 x2 x4 h = some res → Iv g s n0 z0 h H locs 0 0 → lv_has ls 6 [(0, .ref (rfG g o0)), (1, .int x1), (2, .int x2), (4, .int x4)] → W p l e R s m args below meth c H locs 0 0 (MQ below (QG g (some (.int res.1)) res.2) args s 0 0 (AG g)) (F0 m 35 ls []) := by
  have hx := X.1
  have hb := X.2.1
  intro o0 x1 x2 x4 h ls H locs hf I hl
  unfold f_X2_readsSum_35 at hf
  refine lv_aload_n hx hb dX2_readsSum_35 rfl (lv_at hl 0 rfl) ?_
  obtain ⟨_, g5, hf⟩ := Option.bind_eq_some_iff.mp hf
  obtain ⟨v1, h2, e3, z4, hf⟩ := cN_spec hf
  refine k_Ui (As := []) (rest := []) X I (c_X5_sign l g o0 e3) z4 g5 uk_TrapCorner_LawReader_43 tw_478 ⟨by omega, by omega⟩ ⟨Nat.zero_le _, Nat.zero_le _⟩ rfl hl.1 rfl (Nat.le_of_ble_eq_true rfl) dX2_readsSum_36 (fun H locs I => ?_)
  refine lv_istore (lv' := [(5, .int v1), (0, .ref (rfG g o0)), (1, .int x1), (2, .int x2), (4, .int x4)]) hx hb dX2_readsSum_39 hl (by decide) rfl (fun ls hl => ?_)
  refine lv_iload hx hb dX2_readsSum_41 (lv_at hl 0 rfl) ?_
  refine lv_bipush (v := 42) hx hb dX2_readsSum_43 (by decide) ?_
  refine lv_icmp_ne (tgt := 54) hx hb dX2_readsSum_45 (by decide) (fun c6 => ?_) (fun c6 => ?_)
  · rw [if_neg c6] at hf
    refine lv_iload hx hb dX2_readsSum_54 (lv_at hl 0 rfl) ?_
    refine lv_bipush (v := 47) hx hb dX2_readsSum_56 (by decide) ?_
    refine lv_icmp_ne (tgt := 67) hx hb dX2_readsSum_58 (by decide) (fun c7 => ?_) (fun c7 => ?_)
    · rw [if_neg c7] at hf
      refine lv_iconst (v := (-1)) hx hb dX2_readsSum_67 (by decide) ?_
      exact w_X2_readsSum_68 K hK hS X hR hr hk7 o0 x1 x2 x4 v1 ((-1)) h2 ls H locs hf I (lv_sub hl [1, 2, 3, 4, 0] rfl)
    · rw [if_pos c7] at hf
      refine lv_sipush (v := 10009) hx hb dX2_readsSum_61 (by decide) ?_
      refine lv_goto (tgt := 68) hx hb dX2_readsSum_64 (by decide) ?_
      exact w_X2_readsSum_68 K hK hS X hR hr hk7 o0 x1 x2 x4 v1 10009 h2 ls H locs hf I (lv_sub hl [1, 2, 3, 4, 0] rfl)
  · rw [if_pos c6] at hf
    refine lv_sipush (v := 10008) hx hb dX2_readsSum_48 (by decide) ?_
    refine lv_goto (tgt := 68) hx hb dX2_readsSum_51 (by decide) ?_
    exact w_X2_readsSum_68 K hK hS X hR hr hk7 o0 x1 x2 x4 v1 10008 h2 ls H locs hf I (lv_sub hl [1, 2, 3, 4, 0] rfl)
def f_X2_readsSum_7 (fS : Nat → Int32 → AH → Option (Int32 × AH))  : Nat → Nat → Int32 → Int32 → Int32 → Int32 → AH → Option (Int32 × AH)
  | 0, _, _, _, _, _, _ => none
  | n + 1, o0, x1, x2, x3, x4, h =>
  if 240 < x4 then
    (gI [2] h o0 1).bind fun v2 =>
    (isC [2] h o0).bind fun _ =>
    cN (f_X5_fails o0 v2 h) h fun v4 h5 =>
    rZ v4 h5
  else
    (isC [2] h o0).bind fun _ =>
    cN (f_X2_readsAtom fS o0 x1 h) h fun v9 h10 =>
    if v9 = 0 then
      some (0, h10)
    else
      if x3 = ((-1)) then
        f_X2_readsSum_35 fS (f_X2_readsSum_7 fS n) o0 x1 x2 x4 h10
      else
        (isC [2] h10 o0).bind fun _ =>
        cN (f_X2_emit o0 x3 h10) h10 fun _ h17 =>
        f_X2_readsSum_35 fS (f_X2_readsSum_7 fS n) o0 x1 x2 x4 h17
set_option maxHeartbeats 1000000 in
theorem w_X2_readsSum_7 (K : Nat) (hK : 14 ≤ K) {fS : Nat → Int32 → AH → Option (Int32 × AH)} (hS : ∀ (o0 : Nat) (x1 : Int32) {h : AH} {res : Int32 × AH}, fS o0 x1 h = some res → CM l g yX2_readsSum cX2_readsSum 6 (some (.boolean)) K (64 * K) 0 0 [.ref (rfG g o0), .int x1] h (some (.int res.1)) res.2) (X : Cx g p s m args meth c cX2_readsSum 6 "TrapCorner$LawReader") (hR : (K + 2) ≤ R.frames ∧ (64 * (K + 2)) ≤ R.locals) (hr : meth.sig.returnType = (some (.boolean))) {res : Int32 × AH} : ∀ (n : Nat) (o0 : Nat) (x1 : Int32) (x2 : Int32) (x3 : Int32) (x4 : Int32) (h : AH) (ls : Array Slot) (H : Heap) (locs : List Loc), f_X2_readsSum_7 fS n o0 x1 x2 x3 x4 h = some res → Iv g s n0 z0 h H locs 0 0 → lv_has ls 6 [(0, .ref (rfG g o0)), (1, .int x1), (2, .int x2), (3, .int x3), (4, .int x4)] → W p l e R s m args below meth c H locs 0 0 (MQ below (QG g (some (.int res.1)) res.2) args s 0 0 (AG g)) (F0 m 7 ls []) := by
  have hx := X.1
  have hb := X.2.1
  intro n
  induction n with
  | zero =>
    intro o0 x1 x2 x3 x4 h ls H locs hf
    rw [f_X2_readsSum_7.eq_1] at hf
    cases hf
  | succ n ih =>
    intro o0 x1 x2 x3 x4 h ls H locs hf I hl
    rw [f_X2_readsSum_7.eq_2] at hf
    refine lv_iload hx hb dX2_readsSum_7 (lv_at hl 4 rfl) ?_
    refine lv_sipush (v := 240) hx hb dX2_readsSum_9 (by decide) ?_
    refine lv_icmp_gt (tgt := 135) hx hb dX2_readsSum_12 (by decide) (fun c1 => ?_) (fun c1 => ?_)
    · rw [if_pos c1] at hf
      refine lv_aload_n hx hb dX2_readsSum_135 rfl (lv_at hl 0 rfl) ?_
      refine lv_aload_n hx hb dX2_readsSum_136 rfl (lv_at hl 0 rfl) ?_
      obtain ⟨v2, e3, hf⟩ := Option.bind_eq_some_iff.mp hf
      refine r_gI X I e3 lk_TrapCorner_LawReader_47 dX2_readsSum_137 ?_
      obtain ⟨_, g8, hf⟩ := Option.bind_eq_some_iff.mp hf
      obtain ⟨v4, h5, e6, z7, hf⟩ := cN_spec hf
      refine k_Ui (As := [.int v2]) (rest := []) X I (c_X5_fails l g o0 v2 e6) z7 g8 uk_TrapCorner_LawReader_50 tw_587 ⟨by omega, by omega⟩ ⟨Nat.zero_le _, Nat.zero_le _⟩ rfl hl.1 rfl (Nat.le_of_ble_eq_true rfl) dX2_readsSum_140 (fun H locs I => ?_)
      obtain ⟨hz, rfl⟩ := rZ_spec hf
      exact k_rz X I hr hz dX2_readsSum_143
    · rw [if_neg c1] at hf
      refine lv_aload_n hx hb dX2_readsSum_15 rfl (lv_at hl 0 rfl) ?_
      refine lv_iload_n hx hb dX2_readsSum_16 rfl (lv_at hl 1 rfl) ?_
      obtain ⟨_, g13, hf⟩ := Option.bind_eq_some_iff.mp hf
      obtain ⟨v9, h10, e11, z12, hf⟩ := cN_spec hf
      refine k_Vi (As := [.int x1]) (rest := []) X I (c_X2_readsAtom l g K hK hS o0 x1 e11) z12 g13 vk_TrapCorner_LawReader_74 tw_666 ⟨by omega, by omega⟩ ⟨Nat.zero_le _, Nat.zero_le _⟩ rfl hl.1 rfl (Nat.le_of_ble_eq_true rfl) dX2_readsSum_17 (fun H locs I => ?_)
      refine lv_if_ne (tgt := 25) hx hb dX2_readsSum_20 (by decide) (fun c14 => ?_) (fun c14 => ?_)
      · rw [if_neg c14] at hf
        refine lv_iload_n hx hb dX2_readsSum_25 rfl (lv_at hl 3 rfl) ?_
        refine lv_iconst (v := (-1)) hx hb dX2_readsSum_26 (by decide) ?_
        refine lv_icmp_eq (tgt := 35) hx hb dX2_readsSum_27 (by decide) (fun c15 => ?_) (fun c15 => ?_)
        · rw [if_pos c15] at hf
          exact w_X2_readsSum_35 K hK hS X hR hr ih o0 x1 x2 x4 h10 ls H locs hf I (lv_sub hl [0, 1, 2, 4] rfl)
        · rw [if_neg c15] at hf
          refine lv_aload_n hx hb dX2_readsSum_30 rfl (lv_at hl 0 rfl) ?_
          refine lv_iload_n hx hb dX2_readsSum_31 rfl (lv_at hl 3 rfl) ?_
          obtain ⟨_, g20, hf⟩ := Option.bind_eq_some_iff.mp hf
          obtain ⟨⟨⟩, h17, e18, z19, hf⟩ := cN_spec hf
          refine k_Vv (As := [.int x3]) (rest := []) X I (c_X2_emit l g o0 x3 e18) z19 g20 vk_TrapCorner_LawReader_39 tw_675 ⟨by omega, by omega⟩ ⟨Nat.zero_le _, Nat.zero_le _⟩ rfl hl.1 rfl (Nat.le_of_ble_eq_true rfl) dX2_readsSum_32 (fun H locs I => ?_)
          exact w_X2_readsSum_35 K hK hS X hR hr ih o0 x1 x2 x4 h17 ls H locs hf I (lv_sub hl [0, 1, 2, 4] rfl)
      · rw [if_pos c14] at hf
        refine lv_iconst (v := 0) hx hb dX2_readsSum_23 (by decide) ?_
        cases hf
        exact k_rz X I hr (Or.inl rfl) dX2_readsSum_24
def f_X2_readsSum_0 (fS : Nat → Int32 → AH → Option (Int32 × AH))  (o0 : Nat) (x1 : Int32) (h : AH) : Option (Int32 × AH) :=
  f_X2_readsSum_7 fS fu o0 x1 ((-1)) ((-1)) 0 h
set_option maxHeartbeats 1000000 in
theorem w_X2_readsSum_0 (K : Nat) (hK : 14 ≤ K) {fS : Nat → Int32 → AH → Option (Int32 × AH)} (hS : ∀ (o0 : Nat) (x1 : Int32) {h : AH} {res : Int32 × AH}, fS o0 x1 h = some res → CM l g yX2_readsSum cX2_readsSum 6 (some (.boolean)) K (64 * K) 0 0 [.ref (rfG g o0), .int x1] h (some (.int res.1)) res.2) (X : Cx g p s m args meth c cX2_readsSum 6 "TrapCorner$LawReader") (hR : (K + 2) ≤ R.frames ∧ (64 * (K + 2)) ≤ R.locals) (hr : meth.sig.returnType = (some (.boolean))) {res : Int32 × AH} : ∀ (o0 : Nat) (x1 : Int32) (h : AH) (ls : Array Slot) (H : Heap) (locs : List Loc), f_X2_readsSum_0 fS o0 x1 h = some res → Iv g s n0 z0 h H locs 0 0 → lv_has ls 6 [(0, .ref (rfG g o0)), (1, .int x1)] → W p l e R s m args below meth c H locs 0 0 (MQ below (QG g (some (.int res.1)) res.2) args s 0 0 (AG g)) (F0 m 0 ls []) := by
  have hx := X.1
  have hb := X.2.1
  intro o0 x1 h ls H locs hf I hl
  unfold f_X2_readsSum_0 at hf
  refine lv_iconst (v := (-1)) hx hb dX2_readsSum_0 (by decide) ?_
  refine lv_istore_n (lv' := [(2, .int ((-1))), (0, .ref (rfG g o0)), (1, .int x1)]) hx hb dX2_readsSum_1 rfl hl (by decide) rfl (fun ls hl => ?_)
  refine lv_iconst (v := (-1)) hx hb dX2_readsSum_2 (by decide) ?_
  refine lv_istore_n (lv' := [(3, .int ((-1))), (2, .int ((-1))), (0, .ref (rfG g o0)), (1, .int x1)]) hx hb dX2_readsSum_3 rfl hl (by decide) rfl (fun ls hl => ?_)
  refine lv_iconst (v := 0) hx hb dX2_readsSum_4 (by decide) ?_
  refine lv_istore (lv' := [(4, .int 0), (3, .int ((-1))), (2, .int ((-1))), (0, .ref (rfG g o0)), (1, .int x1)]) hx hb dX2_readsSum_5 hl (by decide) rfl (fun ls hl => ?_)
  exact w_X2_readsSum_7 K hK hS X hR hr fu o0 x1 ((-1)) ((-1)) 0 h ls H locs hf I (lv_sub hl [3, 4, 2, 1, 0] rfl)
def f_X2_readsSum (fS : Nat → Int32 → AH → Option (Int32 × AH)) (o0 : Nat) (x1 : Int32) (h : AH) : Option (Int32 × AH) := f_X2_readsSum_0 fS o0 x1 h
end
theorem c_X2_readsSum (l : Launch) (g : GG) (K : Nat) (hK : 14 ≤ K) {fS : Nat → Int32 → AH → Option (Int32 × AH)} (hS : ∀ (o0 : Nat) (x1 : Int32) {h : AH} {res : Int32 × AH}, fS o0 x1 h = some res → CM l g yX2_readsSum cX2_readsSum 6 (some (.boolean)) K (64 * K) 0 0 [.ref (rfG g o0), .int x1] h (some (.int res.1)) res.2) (o0 : Nat) (x1 : Int32) {h : AH} {res : Int32 × AH} (hf : f_X2_readsSum fS o0 x1 h = some res) : CM l g yX2_readsSum cX2_readsSum 6 (some (.boolean)) (K + 2) (64 * (K + 2)) 0 0 [.ref (rfG g o0), .int x1] h (some (.int res.1)) res.2 :=
  k_body (by decide) (Nat.le_of_ble_eq_true rfl) (fun p e s m below meth c R ls hR hr X I hl => w_X2_readsSum_0 K hK hS X ⟨Nat.le_of_eq hR.1.symm, Nat.le_of_eq hR.2.1.symm⟩ hr o0 x1 h ls s.heap [] hf I (lv_sub hl [0, 1] rfl))
def r_X2_readsSum : Nat → Nat → Int32 → AH → Option (Int32 × AH)
  | 0, _, _, _ => none
  | d + 1, o0, x1, h => f_X2_readsSum (r_X2_readsSum d) o0 x1 h
theorem cr_X2_readsSum (l : Launch) (g : GG) (d : Nat) : ∀ (o0 : Nat) (x1 : Int32) {h : AH} {res : Int32 × AH}, r_X2_readsSum d o0 x1 h = some res → CM l g yX2_readsSum cX2_readsSum 6 (some (.boolean)) (14 + 2 * d) (64 * (14 + 2 * d)) 0 0 [.ref (rfG g o0), .int x1] h (some (.int res.1)) res.2 := by
  induction d with
  | zero =>
    intro o0 x1 h res hf
    rw [r_X2_readsSum.eq_1] at hf
    cases hf
  | succ d ih =>
    intro o0 x1 h res hf
    rw [r_X2_readsSum.eq_2] at hf
    have h9 := c_X2_readsSum l g (14 + 2 * d) (by omega) ih o0 x1 hf
    have e9 : 14 + 2 * (d + 1) = 14 + 2 * d + 2 := by omega
    rw [e9]
    exact h9
def fc_X2_readsAtom (o0 : Nat) (x1 : Int32) (h : AH) : Option (Int32 × AH) := f_X2_readsAtom (r_X2_readsSum 8) o0 x1 h
theorem cc_X2_readsAtom (l : Launch) (g : GG) (o0 : Nat) (x1 : Int32) {h : AH} {res : Int32 × AH} (hf : fc_X2_readsAtom o0 x1 h = some res) : CM l g yX2_readsAtom cX2_readsAtom 5 (some (.boolean)) 31 1984 0 0 [.ref (rfG g o0), .int x1] h (some (.int res.1)) res.2 := c_X2_readsAtom l g 30 (by decide) (cr_X2_readsSum l g 8) o0 x1 hf
def fc_X2_readsSum (o0 : Nat) (x1 : Int32) (h : AH) : Option (Int32 × AH) := r_X2_readsSum 8 o0 x1 h
theorem cc_X2_readsSum (l : Launch) (g : GG) (o0 : Nat) (x1 : Int32) {h : AH} {res : Int32 × AH} (hf : fc_X2_readsSum o0 x1 h = some res) : CM l g yX2_readsSum cX2_readsSum 6 (some (.boolean)) 30 1920 0 0 [.ref (rfG g o0), .int x1] h (some (.int res.1)) res.2 := cr_X2_readsSum l g 8 o0 x1 hf
/-! TrapCorner$LawReader.readsCondition(IZ)Z -/
theorem dX2_readsCondition_0 : decode cX2_readsCondition 0 = .ok (.iconst 0, 1) := by decide +kernel
theorem dX2_readsCondition_1 : decode cX2_readsCondition 1 = .ok (.istore_n 3, 1) := by decide +kernel
theorem dX2_readsCondition_2 : decode cX2_readsCondition 2 = .ok (.iconst 0, 1) := by decide +kernel
theorem dX2_readsCondition_3 : decode cX2_readsCondition 3 = .ok (.istore 4, 2) := by decide +kernel
theorem dX2_readsCondition_5 : decode cX2_readsCondition 5 = .ok (.iload_n 2, 1) := by decide +kernel
theorem dX2_readsCondition_6 : decode cX2_readsCondition 6 = .ok (.istore 5, 2) := by decide +kernel
theorem dX2_readsCondition_8 : decode cX2_readsCondition 8 = .ok (.iconst 0, 1) := by decide +kernel
theorem dX2_readsCondition_9 : decode cX2_readsCondition 9 = .ok (.istore 6, 2) := by decide +kernel
theorem dX2_readsCondition_11 : decode cX2_readsCondition 11 = .ok (.iload 6, 2) := by decide +kernel
theorem dX2_readsCondition_13 : decode cX2_readsCondition 13 = .ok (.sipush 240, 3) := by decide +kernel
theorem dX2_readsCondition_16 : decode cX2_readsCondition 16 = .ok (.if_icmp .gt 113, 3) := by decide +kernel
theorem dX2_readsCondition_19 : decode cX2_readsCondition 19 = .ok (.aload_n 0, 1) := by decide +kernel
theorem dX2_readsCondition_20 : decode cX2_readsCondition 20 = .ok (.iload_n 1, 1) := by decide +kernel
theorem dX2_readsCondition_21 : decode cX2_readsCondition 21 = .ok (.iload 5, 2) := by decide +kernel
theorem dX2_readsCondition_23 : decode cX2_readsCondition 23 = .ok (.invokevirtual 67, 3) := by decide +kernel
theorem dX2_readsCondition_26 : decode cX2_readsCondition 26 = .ok (.ifCond .ne 5, 3) := by decide +kernel
theorem dX2_readsCondition_29 : decode cX2_readsCondition 29 = .ok (.iconst 0, 1) := by decide +kernel
theorem dX2_readsCondition_30 : decode cX2_readsCondition 30 = .ok (.ireturn, 1) := by decide +kernel
theorem dX2_readsCondition_31 : decode cX2_readsCondition 31 = .ok (.iconst 0, 1) := by decide +kernel
theorem dX2_readsCondition_32 : decode cX2_readsCondition 32 = .ok (.istore 5, 2) := by decide +kernel
theorem dX2_readsCondition_34 : decode cX2_readsCondition 34 = .ok (.iload 4, 2) := by decide +kernel
theorem dX2_readsCondition_36 : decode cX2_readsCondition 36 = .ok (.ifCond .eq 10, 3) := by decide +kernel
theorem dX2_readsCondition_39 : decode cX2_readsCondition 39 = .ok (.aload_n 0, 1) := by decide +kernel
theorem dX2_readsCondition_40 : decode cX2_readsCondition 40 = .ok (.sipush 10013, 3) := by decide +kernel
theorem dX2_readsCondition_43 : decode cX2_readsCondition 43 = .ok (.invokevirtual 39, 3) := by decide +kernel
theorem dX2_readsCondition_46 : decode cX2_readsCondition 46 = .ok (.aload_n 0, 1) := by decide +kernel
theorem dX2_readsCondition_47 : decode cX2_readsCondition 47 = .ok (.invokevirtual 43, 3) := by decide +kernel
theorem dX2_readsCondition_50 : decode cX2_readsCondition 50 = .ok (.istore 7, 2) := by decide +kernel
theorem dX2_readsCondition_52 : decode cX2_readsCondition 52 = .ok (.iload 7, 2) := by decide +kernel
theorem dX2_readsCondition_54 : decode cX2_readsCondition 54 = .ok (.bipush 38, 2) := by decide +kernel
theorem dX2_readsCondition_56 : decode cX2_readsCondition 56 = .ok (.if_icmp .ne 7, 3) := by decide +kernel
theorem dX2_readsCondition_59 : decode cX2_readsCondition 59 = .ok (.iconst 1, 1) := by decide +kernel
theorem dX2_readsCondition_60 : decode cX2_readsCondition 60 = .ok (.goto 4, 3) := by decide +kernel
theorem dX2_readsCondition_63 : decode cX2_readsCondition 63 = .ok (.iconst 0, 1) := by decide +kernel
theorem dX2_readsCondition_64 : decode cX2_readsCondition 64 = .ok (.istore 4, 2) := by decide +kernel
theorem dX2_readsCondition_66 : decode cX2_readsCondition 66 = .ok (.iload 4, 2) := by decide +kernel
theorem dX2_readsCondition_68 : decode cX2_readsCondition 68 = .ok (.ifCond .ne 14, 3) := by decide +kernel
theorem dX2_readsCondition_71 : decode cX2_readsCondition 71 = .ok (.iload_n 3, 1) := by decide +kernel
theorem dX2_readsCondition_72 : decode cX2_readsCondition 72 = .ok (.ifCond .eq 10, 3) := by decide +kernel
theorem dX2_readsCondition_75 : decode cX2_readsCondition 75 = .ok (.aload_n 0, 1) := by decide +kernel
theorem dX2_readsCondition_76 : decode cX2_readsCondition 76 = .ok (.sipush 10014, 3) := by decide +kernel
theorem dX2_readsCondition_79 : decode cX2_readsCondition 79 = .ok (.invokevirtual 39, 3) := by decide +kernel
theorem dX2_readsCondition_82 : decode cX2_readsCondition 82 = .ok (.iload 4, 2) := by decide +kernel
theorem dX2_readsCondition_84 : decode cX2_readsCondition 84 = .ok (.ifCond .ne 12, 3) := by decide +kernel
theorem dX2_readsCondition_87 : decode cX2_readsCondition 87 = .ok (.iload 7, 2) := by decide +kernel
theorem dX2_readsCondition_89 : decode cX2_readsCondition 89 = .ok (.bipush 124, 2) := by decide +kernel
theorem dX2_readsCondition_91 : decode cX2_readsCondition 91 = .ok (.if_icmp .eq 5, 3) := by decide +kernel
theorem dX2_readsCondition_94 : decode cX2_readsCondition 94 = .ok (.iconst 1, 1) := by decide +kernel
theorem dX2_readsCondition_95 : decode cX2_readsCondition 95 = .ok (.ireturn, 1) := by decide +kernel
theorem dX2_readsCondition_96 : decode cX2_readsCondition 96 = .ok (.iload_n 3, 1) := by decide +kernel
theorem dX2_readsCondition_97 : decode cX2_readsCondition 97 = .ok (.ifCond .ne 10, 3) := by decide +kernel
theorem dX2_readsCondition_100 : decode cX2_readsCondition 100 = .ok (.iload 7, 2) := by decide +kernel
theorem dX2_readsCondition_102 : decode cX2_readsCondition 102 = .ok (.bipush 124, 2) := by decide +kernel
theorem dX2_readsCondition_104 : decode cX2_readsCondition 104 = .ok (.if_icmp .ne 7, 3) := by decide +kernel
theorem dX2_readsCondition_107 : decode cX2_readsCondition 107 = .ok (.iconst 1, 1) := by decide +kernel
theorem dX2_readsCondition_108 : decode cX2_readsCondition 108 = .ok (.goto 4, 3) := by decide +kernel
theorem dX2_readsCondition_111 : decode cX2_readsCondition 111 = .ok (.iconst 0, 1) := by decide +kernel
theorem dX2_readsCondition_112 : decode cX2_readsCondition 112 = .ok (.istore_n 3, 1) := by decide +kernel
theorem dX2_readsCondition_113 : decode cX2_readsCondition 113 = .ok (.aload_n 0, 1) := by decide +kernel
theorem dX2_readsCondition_114 : decode cX2_readsCondition 114 = .ok (.dup, 1) := by decide +kernel
theorem dX2_readsCondition_115 : decode cX2_readsCondition 115 = .ok (.getfield 47, 3) := by decide +kernel
theorem dX2_readsCondition_118 : decode cX2_readsCondition 118 = .ok (.iconst 1, 1) := by decide +kernel
theorem dX2_readsCondition_119 : decode cX2_readsCondition 119 = .ok (.iadd, 1) := by decide +kernel
theorem dX2_readsCondition_120 : decode cX2_readsCondition 120 = .ok (.putfield 47, 3) := by decide +kernel
theorem dX2_readsCondition_123 : decode cX2_readsCondition 123 = .ok (.iinc 6 1, 3) := by decide +kernel
theorem dX2_readsCondition_126 : decode cX2_readsCondition 126 = .ok (.goto (-115), 3) := by decide +kernel
theorem dX2_readsCondition_129 : decode cX2_readsCondition 129 = .ok (.aload_n 0, 1) := by decide +kernel
theorem dX2_readsCondition_130 : decode cX2_readsCondition 130 = .ok (.aload_n 0, 1) := by decide +kernel
theorem dX2_readsCondition_131 : decode cX2_readsCondition 131 = .ok (.getfield 47, 3) := by decide +kernel
theorem dX2_readsCondition_134 : decode cX2_readsCondition 134 = .ok (.invokevirtual 50, 3) := by decide +kernel
theorem dX2_readsCondition_137 : decode cX2_readsCondition 137 = .ok (.ireturn, 1) := by decide +kernel
theorem vk_TrapCorner_LawReader_67 : VK "TrapCorner$LawReader" 67 [2] yX2_readsUnit 2 := ⟨tw_686, tw_688, tw_6, ⟨by decide, by decide⟩, by decide +kernel, fun ci hci => by
  have hci := List.mem_singleton.mp hci
  subst hci
  exact ⟨_, rfl, tp_11⟩⟩
section
variable {g : GG} {p : Program} {l : Launch} {e : Env} {R : Room} {s : State} {m : MethodId} {args : Array Value} {below : List Frame} {meth : Method} {c : Code} {n0 z0 : Nat}
def f_X2_readsCondition_112 (fS : Nat → Int32 → Int32 → AH → Option (Int32 × AH)) (k11 : Nat → Int32 → Int32 → Int32 → Int32 → Int32 → AH → Option (Int32 × AH)) (o0 : Nat) (x1 : Int32) (x4 : Int32) (x5 : Int32) (x6 : Int32) (s0 : Int32) (h : AH) : Option (Int32 × AH) :=
  (gI [2] h o0 1).bind fun v1 =>
  (pV [2] h o0 1 (.int (v1 + 1))).bind fun h3 =>
  k11 o0 x1 s0 x4 x5 (x6 + 1) h3
set_option maxHeartbeats 1000000 in
theorem w_X2_readsCondition_112 (K : Nat) (hK : 40 ≤ K) {fS : Nat → Int32 → Int32 → AH → Option (Int32 × AH)} (hS : ∀ (o0 : Nat) (x1 : Int32) (x2 : Int32) {h : AH} {res : Int32 × AH}, fS o0 x1 x2 h = some res → CM l g yX2_readsUnit cX2_readsUnit 4 (some (.boolean)) K (64 * K) 0 0 [.ref (rfG g o0), .int x1, .int x2] h (some (.int res.1)) res.2) (X : Cx g p s m args meth c cX2_readsCondition 8 "TrapCorner$LawReader") (hR : (K + 1) ≤ R.frames ∧ (64 * (K + 1)) ≤ R.locals) (hr : meth.sig.returnType = (some (.boolean))) {res : Int32 × AH} {k11 : Nat → Int32 → Int32 → Int32 → Int32 → Int32 → AH → Option (Int32 × AH)} (hk11 : ∀ (o0 : Nat) (x1 : Int32) (x3 : Int32) (x4 : Int32) (x5 : Int32) (x6 : Int32) (h : AH) (ls : Array Slot) (H : Heap) (locs : List Loc), k11 o0 x1 x3 x4 x5 x6 h = some res → Iv g s n0 z0 h H locs 0 0 → lv_has ls 8 [(0, .ref (rfG g o0)), (1, .int x1), (3, .int x3), (4, .int x4), (5, .int x5), (6, .int x6)] → W p l e R s m args below meth c H locs 0 0 (MQ below (QG g (some (.int res.1)) res.2) args s 0 0 (AG g)) (F0 m 11 ls [])) : ∀ (o0 : Nat) (x1 : Int32) (x4 : Int32) (x5 : Int32) (x6 : Int32) (s0 : Int32) (h : AH) (ls : Array Slot) (H : Heap) (locs : List Loc), f_X2_readsCondition_112 fS k11 o0 x1 x4 x5 x6 s0 h = some res → Iv g s n0 z0 h H locs 0 0 → lv_has ls 8 [(0, .ref (rfG g o0)), (1, .int x1), (4, .int x4), (5, .int x5), (6, .int x6)] → W p l e R s m args below meth c H locs 0 0 (MQ below (QG g (some (.int res.1)) res.2) args s 0 0 (AG g)) (F0 m 112 ls [.int s0]) := by
  have hx := X.1
  have hb := X.2.1
  intro o0 x1 x4 x5 x6 s0 h ls H locs hf I hl
  unfold f_X2_readsCondition_112 at hf
  refine lv_istore_n (lv' := [(3, .int s0), (0, .ref (rfG g o0)), (1, .int x1), (4, .int x4), (5, .int x5), (6, .int x6)]) hx hb dX2_readsCondition_112 rfl hl (by decide) rfl (fun ls hl => ?_)
  refine lv_aload_n hx hb dX2_readsCondition_113 rfl (lv_at hl 1 rfl) ?_
  refine lv_dup hx hb dX2_readsCondition_114 rfl ?_
  obtain ⟨v1, e2, hf⟩ := Option.bind_eq_some_iff.mp hf
  refine r_gI X I e2 lk_TrapCorner_LawReader_47 dX2_readsCondition_115 ?_
  refine lv_iconst (v := 1) hx hb dX2_readsCondition_118 (by decide) ?_
  refine lv_iadd hx hb dX2_readsCondition_119 ?_
  obtain ⟨h3, e4, hf⟩ := Option.bind_eq_some_iff.mp hf
  refine r_pI X I e4 lp_TrapCorner_LawReader_47 dX2_readsCondition_120 (fun H locs I => ?_)
  refine lv_iinc (v := x6 + 1) (lv' := [(6, .int (x6 + 1)), (3, .int s0), (0, .ref (rfG g o0)), (1, .int x1), (4, .int x4), (5, .int x5)]) hx hb dX2_readsCondition_123 hl (k := 5) rfl rfl (by decide) rfl (fun ls hl => ?_)
  refine lv_goto (tgt := 11) hx hb dX2_readsCondition_126 (by decide) ?_
  exact hk11 o0 x1 s0 x4 x5 (x6 + 1) h3 ls H locs hf I (lv_sub hl [2, 3, 1, 4, 5, 0] rfl)
def f_X2_readsCondition_107 (fS : Nat → Int32 → Int32 → AH → Option (Int32 × AH)) (k11 : Nat → Int32 → Int32 → Int32 → Int32 → Int32 → AH → Option (Int32 × AH)) (o0 : Nat) (x1 : Int32) (x4 : Int32) (x5 : Int32) (x6 : Int32) (h : AH) : Option (Int32 × AH) :=
  f_X2_readsCondition_112 fS k11 o0 x1 x4 x5 x6 1 h
set_option maxHeartbeats 1000000 in
theorem w_X2_readsCondition_107 (K : Nat) (hK : 40 ≤ K) {fS : Nat → Int32 → Int32 → AH → Option (Int32 × AH)} (hS : ∀ (o0 : Nat) (x1 : Int32) (x2 : Int32) {h : AH} {res : Int32 × AH}, fS o0 x1 x2 h = some res → CM l g yX2_readsUnit cX2_readsUnit 4 (some (.boolean)) K (64 * K) 0 0 [.ref (rfG g o0), .int x1, .int x2] h (some (.int res.1)) res.2) (X : Cx g p s m args meth c cX2_readsCondition 8 "TrapCorner$LawReader") (hR : (K + 1) ≤ R.frames ∧ (64 * (K + 1)) ≤ R.locals) (hr : meth.sig.returnType = (some (.boolean))) {res : Int32 × AH} {k11 : Nat → Int32 → Int32 → Int32 → Int32 → Int32 → AH → Option (Int32 × AH)} (hk11 : ∀ (o0 : Nat) (x1 : Int32) (x3 : Int32) (x4 : Int32) (x5 : Int32) (x6 : Int32) (h : AH) (ls : Array Slot) (H : Heap) (locs : List Loc), k11 o0 x1 x3 x4 x5 x6 h = some res → Iv g s n0 z0 h H locs 0 0 → lv_has ls 8 [(0, .ref (rfG g o0)), (1, .int x1), (3, .int x3), (4, .int x4), (5, .int x5), (6, .int x6)] → W p l e R s m args below meth c H locs 0 0 (MQ below (QG g (some (.int res.1)) res.2) args s 0 0 (AG g)) (F0 m 11 ls [])) : ∀ (o0 : Nat) (x1 : Int32) (x4 : Int32) (x5 : Int32) (x6 : Int32) (h : AH) (ls : Array Slot) (H : Heap) (locs : List Loc), f_X2_readsCondition_107 fS k11 o0 x1 x4 x5 x6 h = some res → Iv g s n0 z0 h H locs 0 0 → lv_has ls 8 [(0, .ref (rfG g o0)), (1, .int x1), (4, .int x4), (5, .int x5), (6, .int x6)] → W p l e R s m args below meth c H locs 0 0 (MQ below (QG g (some (.int res.1)) res.2) args s 0 0 (AG g)) (F0 m 107 ls []) := by
  have hx := X.1
  have hb := X.2.1
  intro o0 x1 x4 x5 x6 h ls H locs hf I hl
  unfold f_X2_readsCondition_107 at hf
  refine lv_iconst (v := 1) hx hb dX2_readsCondition_107 (by decide) ?_
  refine lv_goto (tgt := 112) hx hb dX2_readsCondition_108 (by decide) ?_
  exact w_X2_readsCondition_112 K hK hS X hR hr hk11 o0 x1 x4 x5 x6 1 h ls H locs hf I (lv_sub hl [0, 1, 2, 3, 4] rfl)
def f_X2_readsCondition_96 (fS : Nat → Int32 → Int32 → AH → Option (Int32 × AH)) (k11 : Nat → Int32 → Int32 → Int32 → Int32 → Int32 → AH → Option (Int32 × AH)) (o0 : Nat) (x1 : Int32) (x3 : Int32) (x4 : Int32) (x5 : Int32) (x6 : Int32) (x7 : Int32) (h : AH) : Option (Int32 × AH) :=
  if x3 = 0 then
    if x7 = 124 then
      f_X2_readsCondition_107 fS k11 o0 x1 x4 x5 x6 h
    else
      f_X2_readsCondition_112 fS k11 o0 x1 x4 x5 x6 0 h
  else
    f_X2_readsCondition_107 fS k11 o0 x1 x4 x5 x6 h
set_option maxHeartbeats 1000000 in
theorem w_X2_readsCondition_96 (K : Nat) (hK : 40 ≤ K) {fS : Nat → Int32 → Int32 → AH → Option (Int32 × AH)} (hS : ∀ (o0 : Nat) (x1 : Int32) (x2 : Int32) {h : AH} {res : Int32 × AH}, fS o0 x1 x2 h = some res → CM l g yX2_readsUnit cX2_readsUnit 4 (some (.boolean)) K (64 * K) 0 0 [.ref (rfG g o0), .int x1, .int x2] h (some (.int res.1)) res.2) (X : Cx g p s m args meth c cX2_readsCondition 8 "TrapCorner$LawReader") (hR : (K + 1) ≤ R.frames ∧ (64 * (K + 1)) ≤ R.locals) (hr : meth.sig.returnType = (some (.boolean))) {res : Int32 × AH} {k11 : Nat → Int32 → Int32 → Int32 → Int32 → Int32 → AH → Option (Int32 × AH)} (hk11 : ∀ (o0 : Nat) (x1 : Int32) (x3 : Int32) (x4 : Int32) (x5 : Int32) (x6 : Int32) (h : AH) (ls : Array Slot) (H : Heap) (locs : List Loc), k11 o0 x1 x3 x4 x5 x6 h = some res → Iv g s n0 z0 h H locs 0 0 → lv_has ls 8 [(0, .ref (rfG g o0)), (1, .int x1), (3, .int x3), (4, .int x4), (5, .int x5), (6, .int x6)] → W p l e R s m args below meth c H locs 0 0 (MQ below (QG g (some (.int res.1)) res.2) args s 0 0 (AG g)) (F0 m 11 ls [])) : ∀ (o0 : Nat) (x1 : Int32) (x3 : Int32) (x4 : Int32) (x5 : Int32) (x6 : Int32) (x7 : Int32) (h : AH) (ls : Array Slot) (H : Heap) (locs : List Loc), f_X2_readsCondition_96 fS k11 o0 x1 x3 x4 x5 x6 x7 h = some res → Iv g s n0 z0 h H locs 0 0 → lv_has ls 8 [(0, .ref (rfG g o0)), (1, .int x1), (3, .int x3), (4, .int x4), (5, .int x5), (6, .int x6), (7, .int x7)] → W p l e R s m args below meth c H locs 0 0 (MQ below (QG g (some (.int res.1)) res.2) args s 0 0 (AG g)) (F0 m 96 ls []) := by
  have hx := X.1
  have hb := X.2.1
  intro o0 x1 x3 x4 x5 x6 x7 h ls H locs hf I hl
  unfold f_X2_readsCondition_96 at hf
  refine lv_iload_n hx hb dX2_readsCondition_96 rfl (lv_at hl 2 rfl) ?_
  refine lv_if_ne (tgt := 107) hx hb dX2_readsCondition_97 (by decide) (fun c1 => ?_) (fun c1 => ?_)
  · rw [if_neg c1] at hf
    exact w_X2_readsCondition_107 K hK hS X hR hr hk11 o0 x1 x4 x5 x6 h ls H locs hf I (lv_sub hl [0, 1, 3, 4, 5] rfl)
  · rw [if_pos c1] at hf
    refine lv_iload hx hb dX2_readsCondition_100 (lv_at hl 6 rfl) ?_
    refine lv_bipush (v := 124) hx hb dX2_readsCondition_102 (by decide) ?_
    refine lv_icmp_ne (tgt := 111) hx hb dX2_readsCondition_104 (by decide) (fun c2 => ?_) (fun c2 => ?_)
    · rw [if_neg c2] at hf
      refine lv_iconst (v := 0) hx hb dX2_readsCondition_111 (by decide) ?_
      exact w_X2_readsCondition_112 K hK hS X hR hr hk11 o0 x1 x4 x5 x6 0 h ls H locs hf I (lv_sub hl [0, 1, 3, 4, 5] rfl)
    · rw [if_pos c2] at hf
      exact w_X2_readsCondition_107 K hK hS X hR hr hk11 o0 x1 x4 x5 x6 h ls H locs hf I (lv_sub hl [0, 1, 3, 4, 5] rfl)
def f_X2_readsCondition_82 (fS : Nat → Int32 → Int32 → AH → Option (Int32 × AH)) (k11 : Nat → Int32 → Int32 → Int32 → Int32 → Int32 → AH → Option (Int32 × AH)) (o0 : Nat) (x1 : Int32) (x3 : Int32) (x4 : Int32) (x5 : Int32) (x6 : Int32) (x7 : Int32) (h : AH) : Option (Int32 × AH) :=
  if x4 = 0 then
    if x7 = 124 then
      f_X2_readsCondition_96 fS k11 o0 x1 x3 x4 x5 x6 x7 h
    else
      some (1, h)
  else
    f_X2_readsCondition_96 fS k11 o0 x1 x3 x4 x5 x6 x7 h
set_option maxHeartbeats 1000000 in
theorem w_X2_readsCondition_82 (K : Nat) (hK : 40 ≤ K) {fS : Nat → Int32 → Int32 → AH → Option (Int32 × AH)} (hS : ∀ (o0 : Nat) (x1 : Int32) (x2 : Int32) {h : AH} {res : Int32 × AH}, fS o0 x1 x2 h = some res → CM l g yX2_readsUnit cX2_readsUnit 4 (some (.boolean)) K (64 * K) 0 0 [.ref (rfG g o0), .int x1, .int x2] h (some (.int res.1)) res.2) (X : Cx g p s m args meth c cX2_readsCondition 8 "TrapCorner$LawReader") (hR : (K + 1) ≤ R.frames ∧ (64 * (K + 1)) ≤ R.locals) (hr : meth.sig.returnType = (some (.boolean))) {res : Int32 × AH} {k11 : Nat → Int32 → Int32 → Int32 → Int32 → Int32 → AH → Option (Int32 × AH)} (hk11 : ∀ (o0 : Nat) (x1 : Int32) (x3 : Int32) (x4 : Int32) (x5 : Int32) (x6 : Int32) (h : AH) (ls : Array Slot) (H : Heap) (locs : List Loc), k11 o0 x1 x3 x4 x5 x6 h = some res → Iv g s n0 z0 h H locs 0 0 → lv_has ls 8 [(0, .ref (rfG g o0)), (1, .int x1), (3, .int x3), (4, .int x4), (5, .int x5), (6, .int x6)] → W p l e R s m args below meth c H locs 0 0 (MQ below (QG g (some (.int res.1)) res.2) args s 0 0 (AG g)) (F0 m 11 ls [])) : ∀ (o0 : Nat) (x1 : Int32) (x3 : Int32) (x4 : Int32) (x5 : Int32) (x6 : Int32) (x7 : Int32) (h : AH) (ls : Array Slot) (H : Heap) (locs : List Loc), f_X2_readsCondition_82 fS k11 o0 x1 x3 x4 x5 x6 x7 h = some res → Iv g s n0 z0 h H locs 0 0 → lv_has ls 8 [(0, .ref (rfG g o0)), (1, .int x1), (3, .int x3), (4, .int x4), (5, .int x5), (6, .int x6), (7, .int x7)] → W p l e R s m args below meth c H locs 0 0 (MQ below (QG g (some (.int res.1)) res.2) args s 0 0 (AG g)) (F0 m 82 ls []) := by
  have hx := X.1
  have hb := X.2.1
  intro o0 x1 x3 x4 x5 x6 x7 h ls H locs hf I hl
  unfold f_X2_readsCondition_82 at hf
  refine lv_iload hx hb dX2_readsCondition_82 (lv_at hl 3 rfl) ?_
  refine lv_if_ne (tgt := 96) hx hb dX2_readsCondition_84 (by decide) (fun c1 => ?_) (fun c1 => ?_)
  · rw [if_neg c1] at hf
    exact w_X2_readsCondition_96 K hK hS X hR hr hk11 o0 x1 x3 x4 x5 x6 x7 h ls H locs hf I (lv_sub hl [0, 1, 2, 3, 4, 5, 6] rfl)
  · rw [if_pos c1] at hf
    refine lv_iload hx hb dX2_readsCondition_87 (lv_at hl 6 rfl) ?_
    refine lv_bipush (v := 124) hx hb dX2_readsCondition_89 (by decide) ?_
    refine lv_icmp_eq (tgt := 96) hx hb dX2_readsCondition_91 (by decide) (fun c2 => ?_) (fun c2 => ?_)
    · rw [if_pos c2] at hf
      exact w_X2_readsCondition_96 K hK hS X hR hr hk11 o0 x1 x3 x4 x5 x6 x7 h ls H locs hf I (lv_sub hl [0, 1, 2, 3, 4, 5, 6] rfl)
    · rw [if_neg c2] at hf
      refine lv_iconst (v := 1) hx hb dX2_readsCondition_94 (by decide) ?_
      cases hf
      exact k_rz X I hr (Or.inr rfl) dX2_readsCondition_95
def f_X2_readsCondition_64 (fS : Nat → Int32 → Int32 → AH → Option (Int32 × AH)) (k11 : Nat → Int32 → Int32 → Int32 → Int32 → Int32 → AH → Option (Int32 × AH)) (o0 : Nat) (x1 : Int32) (x3 : Int32) (x5 : Int32) (x6 : Int32) (x7 : Int32) (s0 : Int32) (h : AH) : Option (Int32 × AH) :=
  if s0 = 0 then
    if x3 = 0 then
      f_X2_readsCondition_82 fS k11 o0 x1 x3 s0 x5 x6 x7 h
    else
      (isC [2] h o0).bind fun _ =>
      cN (f_X2_emit o0 10014 h) h fun _ h4 =>
      f_X2_readsCondition_82 fS k11 o0 x1 x3 s0 x5 x6 x7 h4
  else
    f_X2_readsCondition_82 fS k11 o0 x1 x3 s0 x5 x6 x7 h
set_option maxHeartbeats 1000000 in
theorem w_X2_readsCondition_64 (K : Nat) (hK : 40 ≤ K) {fS : Nat → Int32 → Int32 → AH → Option (Int32 × AH)} (hS : ∀ (o0 : Nat) (x1 : Int32) (x2 : Int32) {h : AH} {res : Int32 × AH}, fS o0 x1 x2 h = some res → CM l g yX2_readsUnit cX2_readsUnit 4 (some (.boolean)) K (64 * K) 0 0 [.ref (rfG g o0), .int x1, .int x2] h (some (.int res.1)) res.2) (X : Cx g p s m args meth c cX2_readsCondition 8 "TrapCorner$LawReader") (hR : (K + 1) ≤ R.frames ∧ (64 * (K + 1)) ≤ R.locals) (hr : meth.sig.returnType = (some (.boolean))) {res : Int32 × AH} {k11 : Nat → Int32 → Int32 → Int32 → Int32 → Int32 → AH → Option (Int32 × AH)} (hk11 : ∀ (o0 : Nat) (x1 : Int32) (x3 : Int32) (x4 : Int32) (x5 : Int32) (x6 : Int32) (h : AH) (ls : Array Slot) (H : Heap) (locs : List Loc), k11 o0 x1 x3 x4 x5 x6 h = some res → Iv g s n0 z0 h H locs 0 0 → lv_has ls 8 [(0, .ref (rfG g o0)), (1, .int x1), (3, .int x3), (4, .int x4), (5, .int x5), (6, .int x6)] → W p l e R s m args below meth c H locs 0 0 (MQ below (QG g (some (.int res.1)) res.2) args s 0 0 (AG g)) (F0 m 11 ls [])) : ∀ (o0 : Nat) (x1 : Int32) (x3 : Int32) (x5 : Int32) (x6 : Int32) (x7 : Int32) (s0 : Int32) (h : AH) (ls : Array Slot) (H : Heap) (locs : List Loc), f_X2_readsCondition_64 fS k11 o0 x1 x3 x5 x6 x7 s0 h = some res → Iv g s n0 z0 h H locs 0 0 → lv_has ls 8 [(0, .ref (rfG g o0)), (1, .int x1), (3, .int x3), (5, .int x5), (6, .int x6), (7, .int x7)] → W p l e R s m args below meth c H locs 0 0 (MQ below (QG g (some (.int res.1)) res.2) args s 0 0 (AG g)) (F0 m 64 ls [.int s0]) := by
  have hx := X.1
  have hb := X.2.1
  intro o0 x1 x3 x5 x6 x7 s0 h ls H locs hf I hl
  unfold f_X2_readsCondition_64 at hf
  refine lv_istore (lv' := [(4, .int s0), (0, .ref (rfG g o0)), (1, .int x1), (3, .int x3), (5, .int x5), (6, .int x6), (7, .int x7)]) hx hb dX2_readsCondition_64 hl (by decide) rfl (fun ls hl => ?_)
  refine lv_iload hx hb dX2_readsCondition_66 (lv_at hl 0 rfl) ?_
  refine lv_if_ne (tgt := 82) hx hb dX2_readsCondition_68 (by decide) (fun c1 => ?_) (fun c1 => ?_)
  · rw [if_neg c1] at hf
    exact w_X2_readsCondition_82 K hK hS X hR hr hk11 o0 x1 x3 s0 x5 x6 x7 h ls H locs hf I (lv_sub hl [1, 2, 3, 0, 4, 5, 6] rfl)
  · rw [if_pos c1] at hf
    refine lv_iload_n hx hb dX2_readsCondition_71 rfl (lv_at hl 3 rfl) ?_
    refine lv_if_eq (tgt := 82) hx hb dX2_readsCondition_72 (by decide) (fun c2 => ?_) (fun c2 => ?_)
    · rw [if_pos c2] at hf
      exact w_X2_readsCondition_82 K hK hS X hR hr hk11 o0 x1 x3 s0 x5 x6 x7 h ls H locs hf I (lv_sub hl [1, 2, 3, 0, 4, 5, 6] rfl)
    · rw [if_neg c2] at hf
      refine lv_aload_n hx hb dX2_readsCondition_75 rfl (lv_at hl 1 rfl) ?_
      refine lv_sipush (v := 10014) hx hb dX2_readsCondition_76 (by decide) ?_
      obtain ⟨_, g7, hf⟩ := Option.bind_eq_some_iff.mp hf
      obtain ⟨⟨⟩, h4, e5, z6, hf⟩ := cN_spec hf
      refine k_Vv (As := [.int 10014]) (rest := []) X I (c_X2_emit l g o0 10014 e5) z6 g7 vk_TrapCorner_LawReader_39 tw_675 ⟨by omega, by omega⟩ ⟨Nat.zero_le _, Nat.zero_le _⟩ rfl hl.1 rfl (Nat.le_of_ble_eq_true rfl) dX2_readsCondition_79 (fun H locs I => ?_)
      exact w_X2_readsCondition_82 K hK hS X hR hr hk11 o0 x1 x3 s0 x5 x6 x7 h4 ls H locs hf I (lv_sub hl [1, 2, 3, 0, 4, 5, 6] rfl)
def f_X2_readsCondition_46 (fS : Nat → Int32 → Int32 → AH → Option (Int32 × AH)) (k11 : Nat → Int32 → Int32 → Int32 → Int32 → Int32 → AH → Option (Int32 × AH)) (o0 : Nat) (x1 : Int32) (x3 : Int32) (x5 : Int32) (x6 : Int32) (h : AH) : Option (Int32 × AH) :=
  (isC [2] h o0).bind fun _ =>
  cN (f_X5_sign o0 h) h fun v1 h2 =>
  if v1 = 38 then
    f_X2_readsCondition_64 fS k11 o0 x1 x3 x5 x6 v1 1 h2
  else
    f_X2_readsCondition_64 fS k11 o0 x1 x3 x5 x6 v1 0 h2
set_option maxHeartbeats 1000000 in
theorem w_X2_readsCondition_46 (K : Nat) (hK : 40 ≤ K) {fS : Nat → Int32 → Int32 → AH → Option (Int32 × AH)} (hS : ∀ (o0 : Nat) (x1 : Int32) (x2 : Int32) {h : AH} {res : Int32 × AH}, fS o0 x1 x2 h = some res → CM l g yX2_readsUnit cX2_readsUnit 4 (some (.boolean)) K (64 * K) 0 0 [.ref (rfG g o0), .int x1, .int x2] h (some (.int res.1)) res.2) (X : Cx g p s m args meth c cX2_readsCondition 8 "TrapCorner$LawReader") (hR : (K + 1) ≤ R.frames ∧ (64 * (K + 1)) ≤ R.locals) (hr : meth.sig.returnType = (some (.boolean))) {res : Int32 × AH} {k11 : Nat → Int32 → Int32 → Int32 → Int32 → Int32 → AH → Option (Int32 × AH)} (hk11 : ∀ (o0 : Nat) (x1 : Int32) (x3 : Int32) (x4 : Int32) (x5 : Int32) (x6 : Int32) (h : AH) (ls : Array Slot) (H : Heap) (locs : List Loc), k11 o0 x1 x3 x4 x5 x6 h = some res → Iv g s n0 z0 h H locs 0 0 → lv_has ls 8 [(0, .ref (rfG g o0)), (1, .int x1), (3, .int x3), (4, .int x4), (5, .int x5), (6, .int x6)] → W p l e R s m args below meth c H locs 0 0 (MQ below (QG g (some (.int res.1)) res.2) args s 0 0 (AG g)) (F0 m 11 ls [])) : ∀ (o0 : Nat) (x1 : Int32) (x3 : Int32) (x5 : Int32) (x6 : Int32) (h : AH) (ls : Array Slot) (H : Heap) (locs : List Loc), f_X2_readsCondition_46 fS k11 o0 x1 x3 x5 x6 h = some res → Iv g s n0 z0 h H locs 0 0 → lv_has ls 8 [(0, .ref (rfG g o0)), (1, .int x1), (3, .int x3), (5, .int x5), (6, .int x6)] → W p l e R s m args below meth c H locs 0 0 (MQ below (QG g (some (.int res.1)) res.2) args s 0 0 (AG g)) (F0 m 46 ls []) := by
  have hx := X.1
  have hb := X.2.1
  intro o0 x1 x3 x5 x6 h ls H locs hf I hl
  unfold f_X2_readsCondition_46 at hf
  refine lv_aload_n hx hb dX2_readsCondition_46 rfl (lv_at hl 0 rfl) ?_
  obtain ⟨_, g5, hf⟩ := Option.bind_eq_some_iff.mp hf
  obtain ⟨v1, h2, e3, z4, hf⟩ := cN_spec hf
  refine k_Ui (As := []) (rest := []) X I (c_X5_sign l g o0 e3) z4 g5 uk_TrapCorner_LawReader_43 tw_478 ⟨by omega, by omega⟩ ⟨Nat.zero_le _, Nat.zero_le _⟩ rfl hl.1 rfl (Nat.le_of_ble_eq_true rfl) dX2_readsCondition_47 (fun H locs I => ?_)
  refine lv_istore (lv' := [(7, .int v1), (0, .ref (rfG g o0)), (1, .int x1), (3, .int x3), (5, .int x5), (6, .int x6)]) hx hb dX2_readsCondition_50 hl (by decide) rfl (fun ls hl => ?_)
  refine lv_iload hx hb dX2_readsCondition_52 (lv_at hl 0 rfl) ?_
  refine lv_bipush (v := 38) hx hb dX2_readsCondition_54 (by decide) ?_
  refine lv_icmp_ne (tgt := 63) hx hb dX2_readsCondition_56 (by decide) (fun c6 => ?_) (fun c6 => ?_)
  · rw [if_neg c6] at hf
    refine lv_iconst (v := 0) hx hb dX2_readsCondition_63 (by decide) ?_
    exact w_X2_readsCondition_64 K hK hS X hR hr hk11 o0 x1 x3 x5 x6 v1 0 h2 ls H locs hf I (lv_sub hl [1, 2, 3, 4, 5, 0] rfl)
  · rw [if_pos c6] at hf
    refine lv_iconst (v := 1) hx hb dX2_readsCondition_59 (by decide) ?_
    refine lv_goto (tgt := 64) hx hb dX2_readsCondition_60 (by decide) ?_
    exact w_X2_readsCondition_64 K hK hS X hR hr hk11 o0 x1 x3 x5 x6 v1 1 h2 ls H locs hf I (lv_sub hl [1, 2, 3, 4, 5, 0] rfl)
def f_X2_readsCondition_11 (fS : Nat → Int32 → Int32 → AH → Option (Int32 × AH))  : Nat → Nat → Int32 → Int32 → Int32 → Int32 → Int32 → AH → Option (Int32 × AH)
  | 0, _, _, _, _, _, _, _ => none
  | n + 1, o0, x1, x3, x4, x5, x6, h =>
  if 240 < x6 then
    (gI [2] h o0 1).bind fun v2 =>
    (isC [2] h o0).bind fun _ =>
    cN (f_X5_fails o0 v2 h) h fun v4 h5 =>
    rZ v4 h5
  else
    (isC [2] h o0).bind fun _ =>
    cN (fS o0 x1 x5 h) h fun v9 h10 =>
    if v9 = 0 then
      some (0, h10)
    else
      if x4 = 0 then
        f_X2_readsCondition_46 fS (f_X2_readsCondition_11 fS n) o0 x1 x3 0 x6 h10
      else
        (isC [2] h10 o0).bind fun _ =>
        cN (f_X2_emit o0 10013 h10) h10 fun _ h17 =>
        f_X2_readsCondition_46 fS (f_X2_readsCondition_11 fS n) o0 x1 x3 0 x6 h17
set_option maxHeartbeats 1000000 in
theorem w_X2_readsCondition_11 (K : Nat) (hK : 40 ≤ K) {fS : Nat → Int32 → Int32 → AH → Option (Int32 × AH)} (hS : ∀ (o0 : Nat) (x1 : Int32) (x2 : Int32) {h : AH} {res : Int32 × AH}, fS o0 x1 x2 h = some res → CM l g yX2_readsUnit cX2_readsUnit 4 (some (.boolean)) K (64 * K) 0 0 [.ref (rfG g o0), .int x1, .int x2] h (some (.int res.1)) res.2) (X : Cx g p s m args meth c cX2_readsCondition 8 "TrapCorner$LawReader") (hR : (K + 1) ≤ R.frames ∧ (64 * (K + 1)) ≤ R.locals) (hr : meth.sig.returnType = (some (.boolean))) {res : Int32 × AH} : ∀ (n : Nat) (o0 : Nat) (x1 : Int32) (x3 : Int32) (x4 : Int32) (x5 : Int32) (x6 : Int32) (h : AH) (ls : Array Slot) (H : Heap) (locs : List Loc), f_X2_readsCondition_11 fS n o0 x1 x3 x4 x5 x6 h = some res → Iv g s n0 z0 h H locs 0 0 → lv_has ls 8 [(0, .ref (rfG g o0)), (1, .int x1), (3, .int x3), (4, .int x4), (5, .int x5), (6, .int x6)] → W p l e R s m args below meth c H locs 0 0 (MQ below (QG g (some (.int res.1)) res.2) args s 0 0 (AG g)) (F0 m 11 ls []) := by
  have hx := X.1
  have hb := X.2.1
  intro n
  induction n with
  | zero =>
    intro o0 x1 x3 x4 x5 x6 h ls H locs hf
    rw [f_X2_readsCondition_11.eq_1] at hf
    cases hf
  | succ n ih =>
    intro o0 x1 x3 x4 x5 x6 h ls H locs hf I hl
    rw [f_X2_readsCondition_11.eq_2] at hf
    refine lv_iload hx hb dX2_readsCondition_11 (lv_at hl 5 rfl) ?_
    refine lv_sipush (v := 240) hx hb dX2_readsCondition_13 (by decide) ?_
    refine lv_icmp_gt (tgt := 129) hx hb dX2_readsCondition_16 (by decide) (fun c1 => ?_) (fun c1 => ?_)
    · rw [if_pos c1] at hf
      refine lv_aload_n hx hb dX2_readsCondition_129 rfl (lv_at hl 0 rfl) ?_
      refine lv_aload_n hx hb dX2_readsCondition_130 rfl (lv_at hl 0 rfl) ?_
      obtain ⟨v2, e3, hf⟩ := Option.bind_eq_some_iff.mp hf
      refine r_gI X I e3 lk_TrapCorner_LawReader_47 dX2_readsCondition_131 ?_
      obtain ⟨_, g8, hf⟩ := Option.bind_eq_some_iff.mp hf
      obtain ⟨v4, h5, e6, z7, hf⟩ := cN_spec hf
      refine k_Ui (As := [.int v2]) (rest := []) X I (c_X5_fails l g o0 v2 e6) z7 g8 uk_TrapCorner_LawReader_50 tw_587 ⟨by omega, by omega⟩ ⟨Nat.zero_le _, Nat.zero_le _⟩ rfl hl.1 rfl (Nat.le_of_ble_eq_true rfl) dX2_readsCondition_134 (fun H locs I => ?_)
      obtain ⟨hz, rfl⟩ := rZ_spec hf
      exact k_rz X I hr hz dX2_readsCondition_137
    · rw [if_neg c1] at hf
      refine lv_aload_n hx hb dX2_readsCondition_19 rfl (lv_at hl 0 rfl) ?_
      refine lv_iload_n hx hb dX2_readsCondition_20 rfl (lv_at hl 1 rfl) ?_
      refine lv_iload hx hb dX2_readsCondition_21 (lv_at hl 4 rfl) ?_
      obtain ⟨_, g13, hf⟩ := Option.bind_eq_some_iff.mp hf
      obtain ⟨v9, h10, e11, z12, hf⟩ := cN_spec hf
      refine k_Vi (As := [.int x1, .int x5]) (rest := []) X I (hS o0 x1 x5 e11) z12 g13 vk_TrapCorner_LawReader_67 tw_689 ⟨by omega, by omega⟩ ⟨Nat.zero_le _, Nat.zero_le _⟩ rfl hl.1 rfl (Nat.le_of_ble_eq_true rfl) dX2_readsCondition_23 (fun H locs I => ?_)
      refine lv_if_ne (tgt := 31) hx hb dX2_readsCondition_26 (by decide) (fun c14 => ?_) (fun c14 => ?_)
      · rw [if_neg c14] at hf
        refine lv_iconst (v := 0) hx hb dX2_readsCondition_31 (by decide) ?_
        refine lv_istore (lv' := [(5, .int 0), (0, .ref (rfG g o0)), (1, .int x1), (3, .int x3), (4, .int x4), (6, .int x6)]) hx hb dX2_readsCondition_32 hl (by decide) rfl (fun ls hl => ?_)
        refine lv_iload hx hb dX2_readsCondition_34 (lv_at hl 4 rfl) ?_
        refine lv_if_eq (tgt := 46) hx hb dX2_readsCondition_36 (by decide) (fun c15 => ?_) (fun c15 => ?_)
        · rw [if_pos c15] at hf
          exact w_X2_readsCondition_46 K hK hS X hR hr ih o0 x1 x3 0 x6 h10 ls H locs hf I (lv_sub hl [1, 2, 3, 0, 5] rfl)
        · rw [if_neg c15] at hf
          refine lv_aload_n hx hb dX2_readsCondition_39 rfl (lv_at hl 1 rfl) ?_
          refine lv_sipush (v := 10013) hx hb dX2_readsCondition_40 (by decide) ?_
          obtain ⟨_, g20, hf⟩ := Option.bind_eq_some_iff.mp hf
          obtain ⟨⟨⟩, h17, e18, z19, hf⟩ := cN_spec hf
          refine k_Vv (As := [.int 10013]) (rest := []) X I (c_X2_emit l g o0 10013 e18) z19 g20 vk_TrapCorner_LawReader_39 tw_675 ⟨by omega, by omega⟩ ⟨Nat.zero_le _, Nat.zero_le _⟩ rfl hl.1 rfl (Nat.le_of_ble_eq_true rfl) dX2_readsCondition_43 (fun H locs I => ?_)
          exact w_X2_readsCondition_46 K hK hS X hR hr ih o0 x1 x3 0 x6 h17 ls H locs hf I (lv_sub hl [1, 2, 3, 0, 5] rfl)
      · rw [if_pos c14] at hf
        refine lv_iconst (v := 0) hx hb dX2_readsCondition_29 (by decide) ?_
        cases hf
        exact k_rz X I hr (Or.inl rfl) dX2_readsCondition_30
def f_X2_readsCondition_0 (fS : Nat → Int32 → Int32 → AH → Option (Int32 × AH))  (o0 : Nat) (x1 : Int32) (x2 : Int32) (h : AH) : Option (Int32 × AH) :=
  f_X2_readsCondition_11 fS fu o0 x1 0 0 x2 0 h
set_option maxHeartbeats 1000000 in
theorem w_X2_readsCondition_0 (K : Nat) (hK : 40 ≤ K) {fS : Nat → Int32 → Int32 → AH → Option (Int32 × AH)} (hS : ∀ (o0 : Nat) (x1 : Int32) (x2 : Int32) {h : AH} {res : Int32 × AH}, fS o0 x1 x2 h = some res → CM l g yX2_readsUnit cX2_readsUnit 4 (some (.boolean)) K (64 * K) 0 0 [.ref (rfG g o0), .int x1, .int x2] h (some (.int res.1)) res.2) (X : Cx g p s m args meth c cX2_readsCondition 8 "TrapCorner$LawReader") (hR : (K + 1) ≤ R.frames ∧ (64 * (K + 1)) ≤ R.locals) (hr : meth.sig.returnType = (some (.boolean))) {res : Int32 × AH} : ∀ (o0 : Nat) (x1 : Int32) (x2 : Int32) (h : AH) (ls : Array Slot) (H : Heap) (locs : List Loc), f_X2_readsCondition_0 fS o0 x1 x2 h = some res → Iv g s n0 z0 h H locs 0 0 → lv_has ls 8 [(0, .ref (rfG g o0)), (1, .int x1), (2, .int x2)] → W p l e R s m args below meth c H locs 0 0 (MQ below (QG g (some (.int res.1)) res.2) args s 0 0 (AG g)) (F0 m 0 ls []) := by
  have hx := X.1
  have hb := X.2.1
  intro o0 x1 x2 h ls H locs hf I hl
  unfold f_X2_readsCondition_0 at hf
  refine lv_iconst (v := 0) hx hb dX2_readsCondition_0 (by decide) ?_
  refine lv_istore_n (lv' := [(3, .int 0), (0, .ref (rfG g o0)), (1, .int x1), (2, .int x2)]) hx hb dX2_readsCondition_1 rfl hl (by decide) rfl (fun ls hl => ?_)
  refine lv_iconst (v := 0) hx hb dX2_readsCondition_2 (by decide) ?_
  refine lv_istore (lv' := [(4, .int 0), (3, .int 0), (0, .ref (rfG g o0)), (1, .int x1), (2, .int x2)]) hx hb dX2_readsCondition_3 hl (by decide) rfl (fun ls hl => ?_)
  refine lv_iload_n hx hb dX2_readsCondition_5 rfl (lv_at hl 4 rfl) ?_
  refine lv_istore (lv' := [(5, .int x2), (4, .int 0), (3, .int 0), (0, .ref (rfG g o0)), (1, .int x1), (2, .int x2)]) hx hb dX2_readsCondition_6 hl (by decide) rfl (fun ls hl => ?_)
  refine lv_iconst (v := 0) hx hb dX2_readsCondition_8 (by decide) ?_
  refine lv_istore (lv' := [(6, .int 0), (5, .int x2), (4, .int 0), (3, .int 0), (0, .ref (rfG g o0)), (1, .int x1), (2, .int x2)]) hx hb dX2_readsCondition_9 hl (by decide) rfl (fun ls hl => ?_)
  exact w_X2_readsCondition_11 K hK hS X hR hr fu o0 x1 0 0 x2 0 h ls H locs hf I (lv_sub hl [4, 5, 3, 2, 1, 0] rfl)
def f_X2_readsCondition (fS : Nat → Int32 → Int32 → AH → Option (Int32 × AH)) (o0 : Nat) (x1 : Int32) (x2 : Int32) (h : AH) : Option (Int32 × AH) := f_X2_readsCondition_0 fS o0 x1 x2 h
end
theorem c_X2_readsCondition (l : Launch) (g : GG) (K : Nat) (hK : 40 ≤ K) {fS : Nat → Int32 → Int32 → AH → Option (Int32 × AH)} (hS : ∀ (o0 : Nat) (x1 : Int32) (x2 : Int32) {h : AH} {res : Int32 × AH}, fS o0 x1 x2 h = some res → CM l g yX2_readsUnit cX2_readsUnit 4 (some (.boolean)) K (64 * K) 0 0 [.ref (rfG g o0), .int x1, .int x2] h (some (.int res.1)) res.2) (o0 : Nat) (x1 : Int32) (x2 : Int32) {h : AH} {res : Int32 × AH} (hf : f_X2_readsCondition fS o0 x1 x2 h = some res) : CM l g yX2_readsCondition cX2_readsCondition 8 (some (.boolean)) (K + 1) (64 * (K + 1)) 0 0 [.ref (rfG g o0), .int x1, .int x2] h (some (.int res.1)) res.2 :=
  k_body (by decide) (Nat.le_of_ble_eq_true rfl) (fun p e s m below meth c R ls hR hr X I hl => w_X2_readsCondition_0 K hK hS X ⟨Nat.le_of_eq hR.1.symm, Nat.le_of_eq hR.2.1.symm⟩ hr o0 x1 x2 h ls s.heap [] hf I (lv_sub hl [0, 1, 2] rfl))
/-! TrapCorner$LawReader.readsNested(II)Z -/
theorem dX2_readsNested_0 : decode cX2_readsNested 0 = .ok (.iload_n 2, 1) := by decide +kernel
theorem dX2_readsNested_1 : decode cX2_readsNested 1 = .ok (.bipush 6, 2) := by decide +kernel
theorem dX2_readsNested_3 : decode cX2_readsNested 3 = .ok (.if_icmp .lt 12, 3) := by decide +kernel
theorem dX2_readsNested_6 : decode cX2_readsNested 6 = .ok (.aload_n 0, 1) := by decide +kernel
theorem dX2_readsNested_7 : decode cX2_readsNested 7 = .ok (.aload_n 0, 1) := by decide +kernel
theorem dX2_readsNested_8 : decode cX2_readsNested 8 = .ok (.getfield 47, 3) := by decide +kernel
theorem dX2_readsNested_11 : decode cX2_readsNested 11 = .ok (.invokevirtual 50, 3) := by decide +kernel
theorem dX2_readsNested_14 : decode cX2_readsNested 14 = .ok (.ireturn, 1) := by decide +kernel
theorem dX2_readsNested_15 : decode cX2_readsNested 15 = .ok (.aload_n 0, 1) := by decide +kernel
theorem dX2_readsNested_16 : decode cX2_readsNested 16 = .ok (.dup, 1) := by decide +kernel
theorem dX2_readsNested_17 : decode cX2_readsNested 17 = .ok (.getfield 47, 3) := by decide +kernel
theorem dX2_readsNested_20 : decode cX2_readsNested 20 = .ok (.iconst 1, 1) := by decide +kernel
theorem dX2_readsNested_21 : decode cX2_readsNested 21 = .ok (.iadd, 1) := by decide +kernel
theorem dX2_readsNested_22 : decode cX2_readsNested 22 = .ok (.putfield 47, 3) := by decide +kernel
theorem dX2_readsNested_25 : decode cX2_readsNested 25 = .ok (.iload_n 1, 1) := by decide +kernel
theorem dX2_readsNested_26 : decode cX2_readsNested 26 = .ok (.bipush 40, 2) := by decide +kernel
theorem dX2_readsNested_28 : decode cX2_readsNested 28 = .ok (.if_icmp .ne 29, 3) := by decide +kernel
theorem dX2_readsNested_31 : decode cX2_readsNested 31 = .ok (.aload_n 0, 1) := by decide +kernel
theorem dX2_readsNested_32 : decode cX2_readsNested 32 = .ok (.iload_n 2, 1) := by decide +kernel
theorem dX2_readsNested_33 : decode cX2_readsNested 33 = .ok (.iconst 1, 1) := by decide +kernel
theorem dX2_readsNested_34 : decode cX2_readsNested 34 = .ok (.iadd, 1) := by decide +kernel
theorem dX2_readsNested_35 : decode cX2_readsNested 35 = .ok (.iconst 0, 1) := by decide +kernel
theorem dX2_readsNested_36 : decode cX2_readsNested 36 = .ok (.invokevirtual 63, 3) := by decide +kernel
theorem dX2_readsNested_39 : decode cX2_readsNested 39 = .ok (.ifCond .eq 16, 3) := by decide +kernel
theorem dX2_readsNested_42 : decode cX2_readsNested 42 = .ok (.aload_n 0, 1) := by decide +kernel
theorem dX2_readsNested_43 : decode cX2_readsNested 43 = .ok (.bipush 41, 2) := by decide +kernel
theorem dX2_readsNested_45 : decode cX2_readsNested 45 = .ok (.invokevirtual 29, 3) := by decide +kernel
theorem dX2_readsNested_48 : decode cX2_readsNested 48 = .ok (.ifCond .eq 7, 3) := by decide +kernel
theorem dX2_readsNested_51 : decode cX2_readsNested 51 = .ok (.iconst 1, 1) := by decide +kernel
theorem dX2_readsNested_52 : decode cX2_readsNested 52 = .ok (.goto 4, 3) := by decide +kernel
theorem dX2_readsNested_55 : decode cX2_readsNested 55 = .ok (.iconst 0, 1) := by decide +kernel
theorem dX2_readsNested_56 : decode cX2_readsNested 56 = .ok (.ireturn, 1) := by decide +kernel
theorem dX2_readsNested_57 : decode cX2_readsNested 57 = .ok (.aload_n 0, 1) := by decide +kernel
theorem dX2_readsNested_58 : decode cX2_readsNested 58 = .ok (.iload_n 2, 1) := by decide +kernel
theorem dX2_readsNested_59 : decode cX2_readsNested 59 = .ok (.iconst 1, 1) := by decide +kernel
theorem dX2_readsNested_60 : decode cX2_readsNested 60 = .ok (.iadd, 1) := by decide +kernel
theorem dX2_readsNested_61 : decode cX2_readsNested 61 = .ok (.iconst 0, 1) := by decide +kernel
theorem dX2_readsNested_62 : decode cX2_readsNested 62 = .ok (.invokevirtual 67, 3) := by decide +kernel
theorem dX2_readsNested_65 : decode cX2_readsNested 65 = .ok (.ifCond .ne 5, 3) := by decide +kernel
theorem dX2_readsNested_68 : decode cX2_readsNested 68 = .ok (.iconst 0, 1) := by decide +kernel
theorem dX2_readsNested_69 : decode cX2_readsNested 69 = .ok (.ireturn, 1) := by decide +kernel
theorem dX2_readsNested_70 : decode cX2_readsNested 70 = .ok (.aload_n 0, 1) := by decide +kernel
theorem dX2_readsNested_71 : decode cX2_readsNested 71 = .ok (.sipush 10015, 3) := by decide +kernel
theorem dX2_readsNested_74 : decode cX2_readsNested 74 = .ok (.invokevirtual 39, 3) := by decide +kernel
theorem dX2_readsNested_77 : decode cX2_readsNested 77 = .ok (.iconst 1, 1) := by decide +kernel
theorem dX2_readsNested_78 : decode cX2_readsNested 78 = .ok (.ireturn, 1) := by decide +kernel
theorem vk_TrapCorner_LawReader_63 : VK "TrapCorner$LawReader" 63 [2] yX2_readsCondition 2 := ⟨tw_682, tw_684, tw_6, ⟨by decide, by decide⟩, by decide +kernel, fun ci hci => by
  have hci := List.mem_singleton.mp hci
  subst hci
  exact ⟨_, rfl, tp_10⟩⟩
section
variable {g : GG} {p : Program} {l : Launch} {e : Env} {R : Room} {s : State} {m : MethodId} {args : Array Value} {below : List Frame} {meth : Method} {c : Code} {n0 z0 : Nat}
def f_X2_readsNested_0 (fS : Nat → Int32 → Int32 → AH → Option (Int32 × AH))  (o0 : Nat) (x1 : Int32) (x2 : Int32) (h : AH) : Option (Int32 × AH) :=
  if x2 < 6 then
    (gI [2] h o0 1).bind fun v2 =>
    (pV [2] h o0 1 (.int (v2 + 1))).bind fun h4 =>
    if x1 = 40 then
      (isC [2] h4 o0).bind fun _ =>
      cN (f_X2_readsCondition fS o0 (x2 + 1) 0 h4) h4 fun v18 h19 =>
      if v18 = 0 then
        some (0, h19)
      else
        (isC [2] h19 o0).bind fun _ =>
        cN (f_X5_takes o0 41 h19) h19 fun v24 h25 =>
        if v24 = 0 then
          some (0, h25)
        else
          some (1, h25)
    else
      (isC [2] h4 o0).bind fun _ =>
      cN (fS o0 (x2 + 1) 0 h4) h4 fun v7 h8 =>
      if v7 = 0 then
        some (0, h8)
      else
        (isC [2] h8 o0).bind fun _ =>
        cN (f_X2_emit o0 10015 h8) h8 fun _ h14 =>
        some (1, h14)
  else
    (gI [2] h o0 1).bind fun v30 =>
    (isC [2] h o0).bind fun _ =>
    cN (f_X5_fails o0 v30 h) h fun v32 h33 =>
    rZ v32 h33
set_option maxHeartbeats 1000000 in
theorem w_X2_readsNested_0 (K : Nat) (hK : 40 ≤ K) {fS : Nat → Int32 → Int32 → AH → Option (Int32 × AH)} (hS : ∀ (o0 : Nat) (x1 : Int32) (x2 : Int32) {h : AH} {res : Int32 × AH}, fS o0 x1 x2 h = some res → CM l g yX2_readsUnit cX2_readsUnit 4 (some (.boolean)) K (64 * K) 0 0 [.ref (rfG g o0), .int x1, .int x2] h (some (.int res.1)) res.2) (X : Cx g p s m args meth c cX2_readsNested 3 "TrapCorner$LawReader") (hR : (K + 2) ≤ R.frames ∧ (64 * (K + 2)) ≤ R.locals) (hr : meth.sig.returnType = (some (.boolean))) {res : Int32 × AH} : ∀ (o0 : Nat) (x1 : Int32) (x2 : Int32) (h : AH) (ls : Array Slot) (H : Heap) (locs : List Loc), f_X2_readsNested_0 fS o0 x1 x2 h = some res → Iv g s n0 z0 h H locs 0 0 → lv_has ls 3 [(0, .ref (rfG g o0)), (1, .int x1), (2, .int x2)] → W p l e R s m args below meth c H locs 0 0 (MQ below (QG g (some (.int res.1)) res.2) args s 0 0 (AG g)) (F0 m 0 ls []) := by
  have hx := X.1
  have hb := X.2.1
  intro o0 x1 x2 h ls H locs hf I hl
  unfold f_X2_readsNested_0 at hf
  refine lv_iload_n hx hb dX2_readsNested_0 rfl (lv_at hl 2 rfl) ?_
  refine lv_bipush (v := 6) hx hb dX2_readsNested_1 (by decide) ?_
  refine lv_icmp_lt (tgt := 15) hx hb dX2_readsNested_3 (by decide) (fun c1 => ?_) (fun c1 => ?_)
  · rw [if_pos c1] at hf
    refine lv_aload_n hx hb dX2_readsNested_15 rfl (lv_at hl 0 rfl) ?_
    refine lv_dup hx hb dX2_readsNested_16 rfl ?_
    obtain ⟨v2, e3, hf⟩ := Option.bind_eq_some_iff.mp hf
    refine r_gI X I e3 lk_TrapCorner_LawReader_47 dX2_readsNested_17 ?_
    refine lv_iconst (v := 1) hx hb dX2_readsNested_20 (by decide) ?_
    refine lv_iadd hx hb dX2_readsNested_21 ?_
    obtain ⟨h4, e5, hf⟩ := Option.bind_eq_some_iff.mp hf
    refine r_pI X I e5 lp_TrapCorner_LawReader_47 dX2_readsNested_22 (fun H locs I => ?_)
    refine lv_iload_n hx hb dX2_readsNested_25 rfl (lv_at hl 1 rfl) ?_
    refine lv_bipush (v := 40) hx hb dX2_readsNested_26 (by decide) ?_
    refine lv_icmp_ne (tgt := 57) hx hb dX2_readsNested_28 (by decide) (fun c6 => ?_) (fun c6 => ?_)
    · rw [if_neg c6] at hf
      refine lv_aload_n hx hb dX2_readsNested_57 rfl (lv_at hl 0 rfl) ?_
      refine lv_iload_n hx hb dX2_readsNested_58 rfl (lv_at hl 2 rfl) ?_
      refine lv_iconst (v := 1) hx hb dX2_readsNested_59 (by decide) ?_
      refine lv_iadd hx hb dX2_readsNested_60 ?_
      refine lv_iconst (v := 0) hx hb dX2_readsNested_61 (by decide) ?_
      obtain ⟨_, g11, hf⟩ := Option.bind_eq_some_iff.mp hf
      obtain ⟨v7, h8, e9, z10, hf⟩ := cN_spec hf
      refine k_Vi (As := [.int (x2 + 1), .int 0]) (rest := []) X I (hS o0 (x2 + 1) 0 e9) z10 g11 vk_TrapCorner_LawReader_67 tw_689 ⟨by omega, by omega⟩ ⟨Nat.zero_le _, Nat.zero_le _⟩ rfl hl.1 rfl (Nat.le_of_ble_eq_true rfl) dX2_readsNested_62 (fun H locs I => ?_)
      refine lv_if_ne (tgt := 70) hx hb dX2_readsNested_65 (by decide) (fun c12 => ?_) (fun c12 => ?_)
      · rw [if_neg c12] at hf
        refine lv_aload_n hx hb dX2_readsNested_70 rfl (lv_at hl 0 rfl) ?_
        refine lv_sipush (v := 10015) hx hb dX2_readsNested_71 (by decide) ?_
        obtain ⟨_, g17, hf⟩ := Option.bind_eq_some_iff.mp hf
        obtain ⟨⟨⟩, h14, e15, z16, hf⟩ := cN_spec hf
        refine k_Vv (As := [.int 10015]) (rest := []) X I (c_X2_emit l g o0 10015 e15) z16 g17 vk_TrapCorner_LawReader_39 tw_675 ⟨by omega, by omega⟩ ⟨Nat.zero_le _, Nat.zero_le _⟩ rfl hl.1 rfl (Nat.le_of_ble_eq_true rfl) dX2_readsNested_74 (fun H locs I => ?_)
        refine lv_iconst (v := 1) hx hb dX2_readsNested_77 (by decide) ?_
        cases hf
        exact k_rz X I hr (Or.inr rfl) dX2_readsNested_78
      · rw [if_pos c12] at hf
        refine lv_iconst (v := 0) hx hb dX2_readsNested_68 (by decide) ?_
        cases hf
        exact k_rz X I hr (Or.inl rfl) dX2_readsNested_69
    · rw [if_pos c6] at hf
      refine lv_aload_n hx hb dX2_readsNested_31 rfl (lv_at hl 0 rfl) ?_
      refine lv_iload_n hx hb dX2_readsNested_32 rfl (lv_at hl 2 rfl) ?_
      refine lv_iconst (v := 1) hx hb dX2_readsNested_33 (by decide) ?_
      refine lv_iadd hx hb dX2_readsNested_34 ?_
      refine lv_iconst (v := 0) hx hb dX2_readsNested_35 (by decide) ?_
      obtain ⟨_, g22, hf⟩ := Option.bind_eq_some_iff.mp hf
      obtain ⟨v18, h19, e20, z21, hf⟩ := cN_spec hf
      refine k_Vi (As := [.int (x2 + 1), .int 0]) (rest := []) X I (c_X2_readsCondition l g K hK hS o0 (x2 + 1) 0 e20) z21 g22 vk_TrapCorner_LawReader_63 tw_685 ⟨by omega, by omega⟩ ⟨Nat.zero_le _, Nat.zero_le _⟩ rfl hl.1 rfl (Nat.le_of_ble_eq_true rfl) dX2_readsNested_36 (fun H locs I => ?_)
      refine lv_if_eq (tgt := 55) hx hb dX2_readsNested_39 (by decide) (fun c23 => ?_) (fun c23 => ?_)
      · rw [if_pos c23] at hf
        refine lv_iconst (v := 0) hx hb dX2_readsNested_55 (by decide) ?_
        cases hf
        exact k_rz X I hr (Or.inl rfl) dX2_readsNested_56
      · rw [if_neg c23] at hf
        refine lv_aload_n hx hb dX2_readsNested_42 rfl (lv_at hl 0 rfl) ?_
        refine lv_bipush (v := 41) hx hb dX2_readsNested_43 (by decide) ?_
        obtain ⟨_, g28, hf⟩ := Option.bind_eq_some_iff.mp hf
        obtain ⟨v24, h25, e26, z27, hf⟩ := cN_spec hf
        refine k_Ui (As := [.int 41]) (rest := []) X I (c_X5_takes l g o0 41 e26) z27 g28 uk_TrapCorner_LawReader_29 tw_648 ⟨by omega, by omega⟩ ⟨Nat.zero_le _, Nat.zero_le _⟩ rfl hl.1 rfl (Nat.le_of_ble_eq_true rfl) dX2_readsNested_45 (fun H locs I => ?_)
        refine lv_if_eq (tgt := 55) hx hb dX2_readsNested_48 (by decide) (fun c29 => ?_) (fun c29 => ?_)
        · rw [if_pos c29] at hf
          refine lv_iconst (v := 0) hx hb dX2_readsNested_55 (by decide) ?_
          cases hf
          exact k_rz X I hr (Or.inl rfl) dX2_readsNested_56
        · rw [if_neg c29] at hf
          refine lv_iconst (v := 1) hx hb dX2_readsNested_51 (by decide) ?_
          refine lv_goto (tgt := 56) hx hb dX2_readsNested_52 (by decide) ?_
          cases hf
          exact k_rz X I hr (Or.inr rfl) dX2_readsNested_56
  · rw [if_neg c1] at hf
    refine lv_aload_n hx hb dX2_readsNested_6 rfl (lv_at hl 0 rfl) ?_
    refine lv_aload_n hx hb dX2_readsNested_7 rfl (lv_at hl 0 rfl) ?_
    obtain ⟨v30, e31, hf⟩ := Option.bind_eq_some_iff.mp hf
    refine r_gI X I e31 lk_TrapCorner_LawReader_47 dX2_readsNested_8 ?_
    obtain ⟨_, g36, hf⟩ := Option.bind_eq_some_iff.mp hf
    obtain ⟨v32, h33, e34, z35, hf⟩ := cN_spec hf
    refine k_Ui (As := [.int v30]) (rest := []) X I (c_X5_fails l g o0 v30 e34) z35 g36 uk_TrapCorner_LawReader_50 tw_587 ⟨by omega, by omega⟩ ⟨Nat.zero_le _, Nat.zero_le _⟩ rfl hl.1 rfl (Nat.le_of_ble_eq_true rfl) dX2_readsNested_11 (fun H locs I => ?_)
    obtain ⟨hz, rfl⟩ := rZ_spec hf
    exact k_rz X I hr hz dX2_readsNested_14
def f_X2_readsNested (fS : Nat → Int32 → Int32 → AH → Option (Int32 × AH)) (o0 : Nat) (x1 : Int32) (x2 : Int32) (h : AH) : Option (Int32 × AH) := f_X2_readsNested_0 fS o0 x1 x2 h
end
theorem c_X2_readsNested (l : Launch) (g : GG) (K : Nat) (hK : 40 ≤ K) {fS : Nat → Int32 → Int32 → AH → Option (Int32 × AH)} (hS : ∀ (o0 : Nat) (x1 : Int32) (x2 : Int32) {h : AH} {res : Int32 × AH}, fS o0 x1 x2 h = some res → CM l g yX2_readsUnit cX2_readsUnit 4 (some (.boolean)) K (64 * K) 0 0 [.ref (rfG g o0), .int x1, .int x2] h (some (.int res.1)) res.2) (o0 : Nat) (x1 : Int32) (x2 : Int32) {h : AH} {res : Int32 × AH} (hf : f_X2_readsNested fS o0 x1 x2 h = some res) : CM l g yX2_readsNested cX2_readsNested 3 (some (.boolean)) (K + 2) (64 * (K + 2)) 0 0 [.ref (rfG g o0), .int x1, .int x2] h (some (.int res.1)) res.2 :=
  k_body (by decide) (Nat.le_of_ble_eq_true rfl) (fun p e s m below meth c R ls hR hr X I hl => w_X2_readsNested_0 K hK hS X ⟨Nat.le_of_eq hR.1.symm, Nat.le_of_eq hR.2.1.symm⟩ hr o0 x1 x2 h ls s.heap [] hf I (lv_sub hl [0, 1, 2] rfl))
/-! TrapCorner$LawReader.readsUnit(IZ)Z -/
theorem dX2_readsUnit_0 : decode cX2_readsUnit 0 = .ok (.iload_n 2, 1) := by decide +kernel
theorem dX2_readsUnit_1 : decode cX2_readsUnit 1 = .ok (.ifCond .ne 32, 3) := by decide +kernel
theorem dX2_readsUnit_4 : decode cX2_readsUnit 4 = .ok (.aload_n 0, 1) := by decide +kernel
theorem dX2_readsUnit_5 : decode cX2_readsUnit 5 = .ok (.invokevirtual 43, 3) := by decide +kernel
theorem dX2_readsUnit_8 : decode cX2_readsUnit 8 = .ok (.istore_n 3, 1) := by decide +kernel
theorem dX2_readsUnit_9 : decode cX2_readsUnit 9 = .ok (.iload_n 3, 1) := by decide +kernel
theorem dX2_readsUnit_10 : decode cX2_readsUnit 10 = .ok (.invokestatic 53, 3) := by decide +kernel
theorem dX2_readsUnit_13 : decode cX2_readsUnit 13 = .ok (.ifCond .eq 10, 3) := by decide +kernel
theorem dX2_readsUnit_16 : decode cX2_readsUnit 16 = .ok (.aload_n 0, 1) := by decide +kernel
theorem dX2_readsUnit_17 : decode cX2_readsUnit 17 = .ok (.iload_n 3, 1) := by decide +kernel
theorem dX2_readsUnit_18 : decode cX2_readsUnit 18 = .ok (.iload_n 1, 1) := by decide +kernel
theorem dX2_readsUnit_19 : decode cX2_readsUnit 19 = .ok (.invokevirtual 70, 3) := by decide +kernel
theorem dX2_readsUnit_22 : decode cX2_readsUnit 22 = .ok (.ireturn, 1) := by decide +kernel
theorem dX2_readsUnit_23 : decode cX2_readsUnit 23 = .ok (.aload_n 0, 1) := by decide +kernel
theorem dX2_readsUnit_24 : decode cX2_readsUnit 24 = .ok (.iload_n 1, 1) := by decide +kernel
theorem dX2_readsUnit_25 : decode cX2_readsUnit 25 = .ok (.invokevirtual 56, 3) := by decide +kernel
theorem dX2_readsUnit_28 : decode cX2_readsUnit 28 = .ok (.ifCond .ne 5, 3) := by decide +kernel
theorem dX2_readsUnit_31 : decode cX2_readsUnit 31 = .ok (.iconst 0, 1) := by decide +kernel
theorem dX2_readsUnit_32 : decode cX2_readsUnit 32 = .ok (.ireturn, 1) := by decide +kernel
theorem dX2_readsUnit_33 : decode cX2_readsUnit 33 = .ok (.aload_n 0, 1) := by decide +kernel
theorem dX2_readsUnit_34 : decode cX2_readsUnit 34 = .ok (.invokevirtual 43, 3) := by decide +kernel
theorem dX2_readsUnit_37 : decode cX2_readsUnit 37 = .ok (.invokestatic 59, 3) := by decide +kernel
theorem dX2_readsUnit_40 : decode cX2_readsUnit 40 = .ok (.istore_n 3, 1) := by decide +kernel
theorem dX2_readsUnit_41 : decode cX2_readsUnit 41 = .ok (.iload_n 3, 1) := by decide +kernel
theorem dX2_readsUnit_42 : decode cX2_readsUnit 42 = .ok (.iconst (-1), 1) := by decide +kernel
theorem dX2_readsUnit_43 : decode cX2_readsUnit 43 = .ok (.if_icmp .ne 12, 3) := by decide +kernel
theorem dX2_readsUnit_46 : decode cX2_readsUnit 46 = .ok (.aload_n 0, 1) := by decide +kernel
theorem dX2_readsUnit_47 : decode cX2_readsUnit 47 = .ok (.aload_n 0, 1) := by decide +kernel
theorem dX2_readsUnit_48 : decode cX2_readsUnit 48 = .ok (.getfield 47, 3) := by decide +kernel
theorem dX2_readsUnit_51 : decode cX2_readsUnit 51 = .ok (.invokevirtual 50, 3) := by decide +kernel
theorem dX2_readsUnit_54 : decode cX2_readsUnit 54 = .ok (.ireturn, 1) := by decide +kernel
theorem dX2_readsUnit_55 : decode cX2_readsUnit 55 = .ok (.aload_n 0, 1) := by decide +kernel
theorem dX2_readsUnit_56 : decode cX2_readsUnit 56 = .ok (.dup, 1) := by decide +kernel
theorem dX2_readsUnit_57 : decode cX2_readsUnit 57 = .ok (.getfield 47, 3) := by decide +kernel
theorem dX2_readsUnit_60 : decode cX2_readsUnit 60 = .ok (.iconst 1, 1) := by decide +kernel
theorem dX2_readsUnit_61 : decode cX2_readsUnit 61 = .ok (.iadd, 1) := by decide +kernel
theorem dX2_readsUnit_62 : decode cX2_readsUnit 62 = .ok (.putfield 47, 3) := by decide +kernel
theorem dX2_readsUnit_65 : decode cX2_readsUnit 65 = .ok (.aload_n 0, 1) := by decide +kernel
theorem dX2_readsUnit_66 : decode cX2_readsUnit 66 = .ok (.iload_n 1, 1) := by decide +kernel
theorem dX2_readsUnit_67 : decode cX2_readsUnit 67 = .ok (.invokevirtual 56, 3) := by decide +kernel
theorem dX2_readsUnit_70 : decode cX2_readsUnit 70 = .ok (.ifCond .ne 5, 3) := by decide +kernel
theorem dX2_readsUnit_73 : decode cX2_readsUnit 73 = .ok (.iconst 0, 1) := by decide +kernel
theorem dX2_readsUnit_74 : decode cX2_readsUnit 74 = .ok (.ireturn, 1) := by decide +kernel
theorem dX2_readsUnit_75 : decode cX2_readsUnit 75 = .ok (.aload_n 0, 1) := by decide +kernel
theorem dX2_readsUnit_76 : decode cX2_readsUnit 76 = .ok (.iload_n 3, 1) := by decide +kernel
theorem dX2_readsUnit_77 : decode cX2_readsUnit 77 = .ok (.invokevirtual 39, 3) := by decide +kernel
theorem dX2_readsUnit_80 : decode cX2_readsUnit 80 = .ok (.iconst 1, 1) := by decide +kernel
theorem dX2_readsUnit_81 : decode cX2_readsUnit 81 = .ok (.ireturn, 1) := by decide +kernel
theorem sk_TrapCorner_LawReader_59 : SK "TrapCorner$LawReader" 59 yX2_comparing 1 := ⟨tw_679, tw_680, tw_6, ⟨by decide, by decide⟩, by decide +kernel⟩
theorem sk_TrapCorner_LawReader_53 : SK "TrapCorner$LawReader" 53 yX2_startsUnit 1 := ⟨tw_656, tw_657, tw_6, ⟨by decide, by decide⟩, by decide +kernel⟩
theorem vk_TrapCorner_LawReader_70 : VK "TrapCorner$LawReader" 70 [2] yX2_readsNested 2 := ⟨tw_690, tw_692, tw_6, ⟨by decide, by decide⟩, by decide +kernel, fun ci hci => by
  have hci := List.mem_singleton.mp hci
  subst hci
  exact ⟨_, rfl, tp_12⟩⟩
section
variable {g : GG} {p : Program} {l : Launch} {e : Env} {R : Room} {s : State} {m : MethodId} {args : Array Value} {below : List Frame} {meth : Method} {c : Code} {n0 z0 : Nat}
def f_X2_readsUnit_33 (fS : Nat → Int32 → Int32 → AH → Option (Int32 × AH))  (o0 : Nat) (x1 : Int32) (h : AH) : Option (Int32 × AH) :=
  (isC [2] h o0).bind fun _ =>
  cN (f_X5_sign o0 h) h fun v1 h2 =>
  cN (f_X2_comparing v1 h2) h2 fun v6 h7 =>
  if v6 = ((-1)) then
    (gI [2] h7 o0 1).bind fun v26 =>
    (isC [2] h7 o0).bind fun _ =>
    cN (f_X5_fails o0 v26 h7) h7 fun v28 h29 =>
    rZ v28 h29
  else
    (gI [2] h7 o0 1).bind fun v11 =>
    (pV [2] h7 o0 1 (.int (v11 + 1))).bind fun h13 =>
    (isC [2] h13 o0).bind fun _ =>
    cN (fc_X2_readsSum o0 x1 h13) h13 fun v15 h16 =>
    if v15 = 0 then
      some (0, h16)
    else
      (isC [2] h16 o0).bind fun _ =>
      cN (f_X2_emit o0 v6 h16) h16 fun _ h22 =>
      some (1, h22)
set_option maxHeartbeats 1000000 in
theorem w_X2_readsUnit_33 (K : Nat) (hK : 40 ≤ K) {fS : Nat → Int32 → Int32 → AH → Option (Int32 × AH)} (hS : ∀ (o0 : Nat) (x1 : Int32) (x2 : Int32) {h : AH} {res : Int32 × AH}, fS o0 x1 x2 h = some res → CM l g yX2_readsUnit cX2_readsUnit 4 (some (.boolean)) K (64 * K) 0 0 [.ref (rfG g o0), .int x1, .int x2] h (some (.int res.1)) res.2) (X : Cx g p s m args meth c cX2_readsUnit 4 "TrapCorner$LawReader") (hR : (K + 3) ≤ R.frames ∧ (64 * (K + 3)) ≤ R.locals) (hr : meth.sig.returnType = (some (.boolean))) {res : Int32 × AH} : ∀ (o0 : Nat) (x1 : Int32) (h : AH) (ls : Array Slot) (H : Heap) (locs : List Loc), f_X2_readsUnit_33 fS o0 x1 h = some res → Iv g s n0 z0 h H locs 0 0 → lv_has ls 4 [(0, .ref (rfG g o0)), (1, .int x1)] → W p l e R s m args below meth c H locs 0 0 (MQ below (QG g (some (.int res.1)) res.2) args s 0 0 (AG g)) (F0 m 33 ls []) := by
  have hx := X.1
  have hb := X.2.1
  intro o0 x1 h ls H locs hf I hl
  unfold f_X2_readsUnit_33 at hf
  refine lv_aload_n hx hb dX2_readsUnit_33 rfl (lv_at hl 0 rfl) ?_
  obtain ⟨_, g5, hf⟩ := Option.bind_eq_some_iff.mp hf
  obtain ⟨v1, h2, e3, z4, hf⟩ := cN_spec hf
  refine k_Ui (As := []) (rest := []) X I (c_X5_sign l g o0 e3) z4 g5 uk_TrapCorner_LawReader_43 tw_478 ⟨by omega, by omega⟩ ⟨Nat.zero_le _, Nat.zero_le _⟩ rfl hl.1 rfl (Nat.le_of_ble_eq_true rfl) dX2_readsUnit_34 (fun H locs I => ?_)
  obtain ⟨v6, h7, e8, z9, hf⟩ := cN_spec hf
  refine k_Si (As := [.int v1]) (rest := []) X I (c_X2_comparing l g v1 e8) z9 sk_TrapCorner_LawReader_59 tw_681 ⟨by omega, by omega⟩ ⟨Nat.zero_le _, Nat.zero_le _⟩ rfl hl.1 rfl (Nat.le_of_ble_eq_true rfl) dX2_readsUnit_37 (fun H locs I => ?_)
  refine lv_istore_n (lv' := [(3, .int v6), (0, .ref (rfG g o0)), (1, .int x1)]) hx hb dX2_readsUnit_40 rfl hl (by decide) rfl (fun ls hl => ?_)
  refine lv_iload_n hx hb dX2_readsUnit_41 rfl (lv_at hl 0 rfl) ?_
  refine lv_iconst (v := (-1)) hx hb dX2_readsUnit_42 (by decide) ?_
  refine lv_icmp_ne (tgt := 55) hx hb dX2_readsUnit_43 (by decide) (fun c10 => ?_) (fun c10 => ?_)
  · rw [if_neg c10] at hf
    refine lv_aload_n hx hb dX2_readsUnit_55 rfl (lv_at hl 1 rfl) ?_
    refine lv_dup hx hb dX2_readsUnit_56 rfl ?_
    obtain ⟨v11, e12, hf⟩ := Option.bind_eq_some_iff.mp hf
    refine r_gI X I e12 lk_TrapCorner_LawReader_47 dX2_readsUnit_57 ?_
    refine lv_iconst (v := 1) hx hb dX2_readsUnit_60 (by decide) ?_
    refine lv_iadd hx hb dX2_readsUnit_61 ?_
    obtain ⟨h13, e14, hf⟩ := Option.bind_eq_some_iff.mp hf
    refine r_pI X I e14 lp_TrapCorner_LawReader_47 dX2_readsUnit_62 (fun H locs I => ?_)
    refine lv_aload_n hx hb dX2_readsUnit_65 rfl (lv_at hl 1 rfl) ?_
    refine lv_iload_n hx hb dX2_readsUnit_66 rfl (lv_at hl 2 rfl) ?_
    obtain ⟨_, g19, hf⟩ := Option.bind_eq_some_iff.mp hf
    obtain ⟨v15, h16, e17, z18, hf⟩ := cN_spec hf
    refine k_Vi (As := [.int x1]) (rest := []) X I (cc_X2_readsSum l g o0 x1 e17) z18 g19 vk_TrapCorner_LawReader_56 tw_662 ⟨by omega, by omega⟩ ⟨Nat.zero_le _, Nat.zero_le _⟩ rfl hl.1 rfl (Nat.le_of_ble_eq_true rfl) dX2_readsUnit_67 (fun H locs I => ?_)
    refine lv_if_ne (tgt := 75) hx hb dX2_readsUnit_70 (by decide) (fun c20 => ?_) (fun c20 => ?_)
    · rw [if_neg c20] at hf
      refine lv_aload_n hx hb dX2_readsUnit_75 rfl (lv_at hl 1 rfl) ?_
      refine lv_iload_n hx hb dX2_readsUnit_76 rfl (lv_at hl 0 rfl) ?_
      obtain ⟨_, g25, hf⟩ := Option.bind_eq_some_iff.mp hf
      obtain ⟨⟨⟩, h22, e23, z24, hf⟩ := cN_spec hf
      refine k_Vv (As := [.int v6]) (rest := []) X I (c_X2_emit l g o0 v6 e23) z24 g25 vk_TrapCorner_LawReader_39 tw_675 ⟨by omega, by omega⟩ ⟨Nat.zero_le _, Nat.zero_le _⟩ rfl hl.1 rfl (Nat.le_of_ble_eq_true rfl) dX2_readsUnit_77 (fun H locs I => ?_)
      refine lv_iconst (v := 1) hx hb dX2_readsUnit_80 (by decide) ?_
      cases hf
      exact k_rz X I hr (Or.inr rfl) dX2_readsUnit_81
    · rw [if_pos c20] at hf
      refine lv_iconst (v := 0) hx hb dX2_readsUnit_73 (by decide) ?_
      cases hf
      exact k_rz X I hr (Or.inl rfl) dX2_readsUnit_74
  · rw [if_pos c10] at hf
    refine lv_aload_n hx hb dX2_readsUnit_46 rfl (lv_at hl 1 rfl) ?_
    refine lv_aload_n hx hb dX2_readsUnit_47 rfl (lv_at hl 1 rfl) ?_
    obtain ⟨v26, e27, hf⟩ := Option.bind_eq_some_iff.mp hf
    refine r_gI X I e27 lk_TrapCorner_LawReader_47 dX2_readsUnit_48 ?_
    obtain ⟨_, g32, hf⟩ := Option.bind_eq_some_iff.mp hf
    obtain ⟨v28, h29, e30, z31, hf⟩ := cN_spec hf
    refine k_Ui (As := [.int v26]) (rest := []) X I (c_X5_fails l g o0 v26 e30) z31 g32 uk_TrapCorner_LawReader_50 tw_587 ⟨by omega, by omega⟩ ⟨Nat.zero_le _, Nat.zero_le _⟩ rfl hl.1 rfl (Nat.le_of_ble_eq_true rfl) dX2_readsUnit_51 (fun H locs I => ?_)
    obtain ⟨hz, rfl⟩ := rZ_spec hf
    exact k_rz X I hr hz dX2_readsUnit_54
def f_X2_readsUnit_0 (fS : Nat → Int32 → Int32 → AH → Option (Int32 × AH))  (o0 : Nat) (x1 : Int32) (x2 : Int32) (h : AH) : Option (Int32 × AH) :=
  if x2 = 0 then
    (isC [2] h o0).bind fun _ =>
    cN (f_X5_sign o0 h) h fun v2 h3 =>
    cN (f_X2_startsUnit v2 h3) h3 fun v7 h8 =>
    if v7 = 0 then
      (isC [2] h8 o0).bind fun _ =>
      cN (fc_X2_readsSum o0 x1 h8) h8 fun v12 h13 =>
      if v12 = 0 then
        some (0, h13)
      else
        f_X2_readsUnit_33 fS o0 x1 h13
    else
      (isC [2] h8 o0).bind fun _ =>
      cN (f_X2_readsNested fS o0 v2 x1 h8) h8 fun v18 h19 =>
      rZ v18 h19
  else
    f_X2_readsUnit_33 fS o0 x1 h
set_option maxHeartbeats 1000000 in
theorem w_X2_readsUnit_0 (K : Nat) (hK : 40 ≤ K) {fS : Nat → Int32 → Int32 → AH → Option (Int32 × AH)} (hS : ∀ (o0 : Nat) (x1 : Int32) (x2 : Int32) {h : AH} {res : Int32 × AH}, fS o0 x1 x2 h = some res → CM l g yX2_readsUnit cX2_readsUnit 4 (some (.boolean)) K (64 * K) 0 0 [.ref (rfG g o0), .int x1, .int x2] h (some (.int res.1)) res.2) (X : Cx g p s m args meth c cX2_readsUnit 4 "TrapCorner$LawReader") (hR : (K + 3) ≤ R.frames ∧ (64 * (K + 3)) ≤ R.locals) (hr : meth.sig.returnType = (some (.boolean))) {res : Int32 × AH} : ∀ (o0 : Nat) (x1 : Int32) (x2 : Int32) (h : AH) (ls : Array Slot) (H : Heap) (locs : List Loc), f_X2_readsUnit_0 fS o0 x1 x2 h = some res → Iv g s n0 z0 h H locs 0 0 → lv_has ls 4 [(0, .ref (rfG g o0)), (1, .int x1), (2, .int x2)] → W p l e R s m args below meth c H locs 0 0 (MQ below (QG g (some (.int res.1)) res.2) args s 0 0 (AG g)) (F0 m 0 ls []) := by
  have hx := X.1
  have hb := X.2.1
  intro o0 x1 x2 h ls H locs hf I hl
  unfold f_X2_readsUnit_0 at hf
  refine lv_iload_n hx hb dX2_readsUnit_0 rfl (lv_at hl 2 rfl) ?_
  refine lv_if_ne (tgt := 33) hx hb dX2_readsUnit_1 (by decide) (fun c1 => ?_) (fun c1 => ?_)
  · rw [if_neg c1] at hf
    exact w_X2_readsUnit_33 K hK hS X hR hr  o0 x1 h ls H locs hf I (lv_sub hl [0, 1] rfl)
  · rw [if_pos c1] at hf
    refine lv_aload_n hx hb dX2_readsUnit_4 rfl (lv_at hl 0 rfl) ?_
    obtain ⟨_, g6, hf⟩ := Option.bind_eq_some_iff.mp hf
    obtain ⟨v2, h3, e4, z5, hf⟩ := cN_spec hf
    refine k_Ui (As := []) (rest := []) X I (c_X5_sign l g o0 e4) z5 g6 uk_TrapCorner_LawReader_43 tw_478 ⟨by omega, by omega⟩ ⟨Nat.zero_le _, Nat.zero_le _⟩ rfl hl.1 rfl (Nat.le_of_ble_eq_true rfl) dX2_readsUnit_5 (fun H locs I => ?_)
    refine lv_istore_n (lv' := [(3, .int v2), (0, .ref (rfG g o0)), (1, .int x1), (2, .int x2)]) hx hb dX2_readsUnit_8 rfl hl (by decide) rfl (fun ls hl => ?_)
    refine lv_iload_n hx hb dX2_readsUnit_9 rfl (lv_at hl 0 rfl) ?_
    obtain ⟨v7, h8, e9, z10, hf⟩ := cN_spec hf
    refine k_Si (As := [.int v2]) (rest := []) X I (c_X2_startsUnit l g v2 e9) z10 sk_TrapCorner_LawReader_53 tw_658 ⟨by omega, by omega⟩ ⟨Nat.zero_le _, Nat.zero_le _⟩ rfl hl.1 rfl (Nat.le_of_ble_eq_true rfl) dX2_readsUnit_10 (fun H locs I => ?_)
    refine lv_if_eq (tgt := 23) hx hb dX2_readsUnit_13 (by decide) (fun c11 => ?_) (fun c11 => ?_)
    · rw [if_pos c11] at hf
      refine lv_aload_n hx hb dX2_readsUnit_23 rfl (lv_at hl 1 rfl) ?_
      refine lv_iload_n hx hb dX2_readsUnit_24 rfl (lv_at hl 2 rfl) ?_
      obtain ⟨_, g16, hf⟩ := Option.bind_eq_some_iff.mp hf
      obtain ⟨v12, h13, e14, z15, hf⟩ := cN_spec hf
      refine k_Vi (As := [.int x1]) (rest := []) X I (cc_X2_readsSum l g o0 x1 e14) z15 g16 vk_TrapCorner_LawReader_56 tw_662 ⟨by omega, by omega⟩ ⟨Nat.zero_le _, Nat.zero_le _⟩ rfl hl.1 rfl (Nat.le_of_ble_eq_true rfl) dX2_readsUnit_25 (fun H locs I => ?_)
      refine lv_if_ne (tgt := 33) hx hb dX2_readsUnit_28 (by decide) (fun c17 => ?_) (fun c17 => ?_)
      · rw [if_neg c17] at hf
        exact w_X2_readsUnit_33 K hK hS X hR hr  o0 x1 h13 ls H locs hf I (lv_sub hl [1, 2] rfl)
      · rw [if_pos c17] at hf
        refine lv_iconst (v := 0) hx hb dX2_readsUnit_31 (by decide) ?_
        cases hf
        exact k_rz X I hr (Or.inl rfl) dX2_readsUnit_32
    · rw [if_neg c11] at hf
      refine lv_aload_n hx hb dX2_readsUnit_16 rfl (lv_at hl 1 rfl) ?_
      refine lv_iload_n hx hb dX2_readsUnit_17 rfl (lv_at hl 0 rfl) ?_
      refine lv_iload_n hx hb dX2_readsUnit_18 rfl (lv_at hl 2 rfl) ?_
      obtain ⟨_, g22, hf⟩ := Option.bind_eq_some_iff.mp hf
      obtain ⟨v18, h19, e20, z21, hf⟩ := cN_spec hf
      refine k_Vi (As := [.int v2, .int x1]) (rest := []) X I (c_X2_readsNested l g K hK hS o0 v2 x1 e20) z21 g22 vk_TrapCorner_LawReader_70 tw_693 ⟨by omega, by omega⟩ ⟨Nat.zero_le _, Nat.zero_le _⟩ rfl hl.1 rfl (Nat.le_of_ble_eq_true rfl) dX2_readsUnit_19 (fun H locs I => ?_)
      obtain ⟨hz, rfl⟩ := rZ_spec hf
      exact k_rz X I hr hz dX2_readsUnit_22
def f_X2_readsUnit (fS : Nat → Int32 → Int32 → AH → Option (Int32 × AH)) (o0 : Nat) (x1 : Int32) (x2 : Int32) (h : AH) : Option (Int32 × AH) := f_X2_readsUnit_0 fS o0 x1 x2 h
end
theorem c_X2_readsUnit (l : Launch) (g : GG) (K : Nat) (hK : 40 ≤ K) {fS : Nat → Int32 → Int32 → AH → Option (Int32 × AH)} (hS : ∀ (o0 : Nat) (x1 : Int32) (x2 : Int32) {h : AH} {res : Int32 × AH}, fS o0 x1 x2 h = some res → CM l g yX2_readsUnit cX2_readsUnit 4 (some (.boolean)) K (64 * K) 0 0 [.ref (rfG g o0), .int x1, .int x2] h (some (.int res.1)) res.2) (o0 : Nat) (x1 : Int32) (x2 : Int32) {h : AH} {res : Int32 × AH} (hf : f_X2_readsUnit fS o0 x1 x2 h = some res) : CM l g yX2_readsUnit cX2_readsUnit 4 (some (.boolean)) (K + 3) (64 * (K + 3)) 0 0 [.ref (rfG g o0), .int x1, .int x2] h (some (.int res.1)) res.2 :=
  k_body (by decide) (Nat.le_of_ble_eq_true rfl) (fun p e s m below meth c R ls hR hr X I hl => w_X2_readsUnit_0 K hK hS X ⟨Nat.le_of_eq hR.1.symm, Nat.le_of_eq hR.2.1.symm⟩ hr o0 x1 x2 h ls s.heap [] hf I (lv_sub hl [0, 1, 2] rfl))
def r_X2_readsUnit : Nat → Nat → Int32 → Int32 → AH → Option (Int32 × AH)
  | 0, _, _, _, _ => none
  | d + 1, o0, x1, x2, h => f_X2_readsUnit (r_X2_readsUnit d) o0 x1 x2 h
theorem cr_X2_readsUnit (l : Launch) (g : GG) (d : Nat) : ∀ (o0 : Nat) (x1 : Int32) (x2 : Int32) {h : AH} {res : Int32 × AH}, r_X2_readsUnit d o0 x1 x2 h = some res → CM l g yX2_readsUnit cX2_readsUnit 4 (some (.boolean)) (40 + 3 * d) (64 * (40 + 3 * d)) 0 0 [.ref (rfG g o0), .int x1, .int x2] h (some (.int res.1)) res.2 := by
  induction d with
  | zero =>
    intro o0 x1 x2 h res hf
    rw [r_X2_readsUnit.eq_1] at hf
    cases hf
  | succ d ih =>
    intro o0 x1 x2 h res hf
    rw [r_X2_readsUnit.eq_2] at hf
    have h9 := c_X2_readsUnit l g (40 + 3 * d) (by omega) ih o0 x1 x2 hf
    have e9 : 40 + 3 * (d + 1) = 40 + 3 * d + 3 := by omega
    rw [e9]
    exact h9
def fc_X2_readsCondition (o0 : Nat) (x1 : Int32) (x2 : Int32) (h : AH) : Option (Int32 × AH) := f_X2_readsCondition (r_X2_readsUnit 8) o0 x1 x2 h
theorem cc_X2_readsCondition (l : Launch) (g : GG) (o0 : Nat) (x1 : Int32) (x2 : Int32) {h : AH} {res : Int32 × AH} (hf : fc_X2_readsCondition o0 x1 x2 h = some res) : CM l g yX2_readsCondition cX2_readsCondition 8 (some (.boolean)) 65 4160 0 0 [.ref (rfG g o0), .int x1, .int x2] h (some (.int res.1)) res.2 := c_X2_readsCondition l g 64 (by decide) (cr_X2_readsUnit l g 8) o0 x1 x2 hf
def fc_X2_readsNested (o0 : Nat) (x1 : Int32) (x2 : Int32) (h : AH) : Option (Int32 × AH) := f_X2_readsNested (r_X2_readsUnit 8) o0 x1 x2 h
theorem cc_X2_readsNested (l : Launch) (g : GG) (o0 : Nat) (x1 : Int32) (x2 : Int32) {h : AH} {res : Int32 × AH} (hf : fc_X2_readsNested o0 x1 x2 h = some res) : CM l g yX2_readsNested cX2_readsNested 3 (some (.boolean)) 66 4224 0 0 [.ref (rfG g o0), .int x1, .int x2] h (some (.int res.1)) res.2 := c_X2_readsNested l g 64 (by decide) (cr_X2_readsUnit l g 8) o0 x1 x2 hf
def fc_X2_readsUnit (o0 : Nat) (x1 : Int32) (x2 : Int32) (h : AH) : Option (Int32 × AH) := r_X2_readsUnit 8 o0 x1 x2 h
theorem cc_X2_readsUnit (l : Launch) (g : GG) (o0 : Nat) (x1 : Int32) (x2 : Int32) {h : AH} {res : Int32 × AH} (hf : fc_X2_readsUnit o0 x1 x2 h = some res) : CM l g yX2_readsUnit cX2_readsUnit 4 (some (.boolean)) 64 4096 0 0 [.ref (rfG g o0), .int x1, .int x2] h (some (.int res.1)) res.2 := cr_X2_readsUnit l g 8 o0 x1 x2 hf
