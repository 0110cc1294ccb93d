/-! TrapCornerModel.renew(I)I -/
theorem dX12_renew_0 : decode cX12_renew 0 = .ok (.aload_n 0, 1) := by decide +kernel
theorem dX12_renew_1 : decode cX12_renew 1 = .ok (.iconst 0, 1) := by decide +kernel
theorem dX12_renew_2 : decode cX12_renew 2 = .ok (.putfield 96, 3) := by decide +kernel
theorem dX12_renew_5 : decode cX12_renew 5 = .ok (.aload_n 0, 1) := by decide +kernel
theorem dX12_renew_6 : decode cX12_renew 6 = .ok (.aload_n 0, 1) := by decide +kernel
theorem dX12_renew_7 : decode cX12_renew 7 = .ok (.getfield 61, 3) := by decide +kernel
theorem dX12_renew_10 : decode cX12_renew 10 = .ok (.iload_n 1, 1) := by decide +kernel
theorem dX12_renew_11 : decode cX12_renew 11 = .ok (.invokevirtual 407, 3) := by decide +kernel
theorem dX12_renew_14 : decode cX12_renew 14 = .ok (.ifCond .ne 5, 3) := by decide +kernel
theorem dX12_renew_17 : decode cX12_renew 17 = .ok (.iconst (-1), 1) := by decide +kernel
theorem dX12_renew_18 : decode cX12_renew 18 = .ok (.ireturn, 1) := by decide +kernel
theorem dX12_renew_19 : decode cX12_renew 19 = .ok (.aload_n 0, 1) := by decide +kernel
theorem dX12_renew_20 : decode cX12_renew 20 = .ok (.invokevirtual 390, 3) := by decide +kernel
theorem dX12_renew_23 : decode cX12_renew 23 = .ok (.aload_n 0, 1) := by decide +kernel
theorem dX12_renew_24 : decode cX12_renew 24 = .ok (.getfield 61, 3) := by decide +kernel
theorem dX12_renew_27 : decode cX12_renew 27 = .ok (.iload_n 1, 1) := by decide +kernel
theorem dX12_renew_28 : decode cX12_renew 28 = .ok (.invokestatic 410, 3) := by decide +kernel
theorem dX12_renew_31 : decode cX12_renew 31 = .ok (.aload_n 0, 1) := by decide +kernel
theorem dX12_renew_32 : decode cX12_renew 32 = .ok (.getfield 61, 3) := by decide +kernel
theorem dX12_renew_35 : decode cX12_renew 35 = .ok (.iconst 2, 1) := by decide +kernel
theorem dX12_renew_36 : decode cX12_renew 36 = .ok (.iload_n 1, 1) := by decide +kernel
theorem dX12_renew_37 : decode cX12_renew 37 = .ok (.imul, 1) := by decide +kernel
theorem dX12_renew_38 : decode cX12_renew 38 = .ok (.iconst 1, 1) := by decide +kernel
theorem dX12_renew_39 : decode cX12_renew 39 = .ok (.iadd, 1) := by decide +kernel
theorem dX12_renew_40 : decode cX12_renew 40 = .ok (.iaload, 1) := by decide +kernel
theorem dX12_renew_41 : decode cX12_renew 41 = .ok (.ireturn, 1) := by decide +kernel
theorem vk_TrapCornerModel_407 : VK "TrapCornerModel" 407 [12] yX12_canRenew 2 := ⟨tw_1736, tw_1738, tw_13, ⟨by decide, by decide⟩, by decide +kernel, fun ci hci => by
  have hci := List.mem_singleton.mp hci
  subst hci
  exact ⟨_, rfl, tp_93⟩⟩
theorem sk_TrapCornerModel_410 : SK "TrapCornerModel" 410 yX12_renews 2 := ⟨tw_1740, tw_1741, tw_13, ⟨by decide, by decide⟩, by decide +kernel⟩
section
variable {g : GG} {p : Program} {l : Launch} {e : Env} {R : Room} {s : State} {m : MethodId} {args : Array Value} {below : List Frame} {meth : Method} {c : Code} {n0 z0 : Nat}
def f_X12_renew_0  (o0 : Nat) (x1 : Int32) (h : AH) : Option (Int32 × AH) :=
  (pV [12] h o0 0 (.int 0)).bind fun h1 =>
  (gR [12] h1 o0 32).bind fun v3 =>
  (isC [12] h1 o0).bind fun _ =>
  cN (f_X12_canRenew o0 v3 x1 h1) h1 fun v5 h6 =>
  if v5 = 0 then
    some ((-1), h6)
  else
    (isC [12] h6 o0).bind fun _ =>
    cN (f_X12_remember o0 h6) h6 fun _ h12 =>
    (gR [12] h12 o0 32).bind fun v16 =>
    cN (f_X12_renews v16 x1 h12) h12 fun _ h19 =>
    (gR [12] h19 o0 32).bind fun v22 =>
    (aI 0 h19 v22 ((2 * x1) + 1)).bind fun v24 =>
    some (v24, h19)
set_option maxHeartbeats 1000000 in
theorem w_X12_renew_0 (X : Cx g p s m args meth c cX12_renew 2 "TrapCornerModel") (hR : 3 ≤ R.frames ∧ 192 ≤ R.locals) (hr : meth.sig.returnType = (some (.int))) {res : Int32 × AH} : ∀ (o0 : Nat) (x1 : Int32) (h : AH) (ls : Array Slot) (H : Heap) (locs : List Loc), f_X12_renew_0 o0 x1 h = some res → Iv g s n0 z0 h H locs 0 0 → lv_has ls 2 [(0, .ref (rfG g o0)), (1, .int x1)] → W p l e R s m args below meth c H locs 0 0 (MQ below (QG g (some (.int res.1)) res.2) args s 0 0 (AG g)) (F0 m 0 ls []) := by
  have hx := X.1
  have hb := X.2.1
  intro o0 x1 h ls H locs hf I hl
  unfold f_X12_renew_0 at hf
  refine lv_aload_n hx hb dX12_renew_0 rfl (lv_at hl 0 rfl) ?_
  refine lv_iconst (v := 0) hx hb dX12_renew_1 (by decide) ?_
  obtain ⟨h1, e2, hf⟩ := Option.bind_eq_some_iff.mp hf
  refine r_pI X I e2 lp_TrapCornerModel_96 dX12_renew_2 (fun H locs I => ?_)
  refine lv_aload_n hx hb dX12_renew_5 rfl (lv_at hl 0 rfl) ?_
  refine lv_aload_n hx hb dX12_renew_6 rfl (lv_at hl 0 rfl) ?_
  obtain ⟨v3, e4, hf⟩ := Option.bind_eq_some_iff.mp hf
  refine r_gR X I e4 lk_TrapCornerModel_61 dX12_renew_7 ?_
  refine lv_iload_n hx hb dX12_renew_10 rfl (lv_at hl 1 rfl) ?_
  obtain ⟨_, g9, hf⟩ := Option.bind_eq_some_iff.mp hf
  obtain ⟨v5, h6, e7, z8, hf⟩ := cN_spec hf
  refine k_Vi (As := [.ref (rfG g v3), .int x1]) (rest := []) X I (c_X12_canRenew l g o0 v3 x1 e7) z8 g9 vk_TrapCornerModel_407 tw_1739 ⟨Nat.le_trans (by decide) hR.1, Nat.le_trans (by decide) hR.2⟩ ⟨Nat.zero_le _, Nat.zero_le _⟩ rfl hl.1 rfl (Nat.le_of_ble_eq_true rfl) dX12_renew_11 (fun H locs I => ?_)
  refine lv_if_ne (tgt := 19) hx hb dX12_renew_14 (by decide) (fun c10 => ?_) (fun c10 => ?_)
  · rw [if_neg c10] at hf
    refine lv_aload_n hx hb dX12_renew_19 rfl (lv_at hl 0 rfl) ?_
    obtain ⟨_, g15, hf⟩ := Option.bind_eq_some_iff.mp hf
    obtain ⟨⟨⟩, h12, e13, z14, hf⟩ := cN_spec hf
    refine k_Vv (As := []) (rest := []) X I (c_X12_remember l g o0 e13) z14 g15 vk_TrapCornerModel_390 tw_1668 ⟨Nat.le_trans (by decide) hR.1, Nat.le_trans (by decide) hR.2⟩ ⟨Nat.zero_le _, Nat.zero_le _⟩ rfl hl.1 rfl (Nat.le_of_ble_eq_true rfl) dX12_renew_20 (fun H locs I => ?_)
    refine lv_aload_n hx hb dX12_renew_23 rfl (lv_at hl 0 rfl) ?_
    obtain ⟨v16, e17, hf⟩ := Option.bind_eq_some_iff.mp hf
    refine r_gR X I e17 lk_TrapCornerModel_61 dX12_renew_24 ?_
    refine lv_iload_n hx hb dX12_renew_27 rfl (lv_at hl 1 rfl) ?_
    obtain ⟨⟨⟩, h19, e20, z21, hf⟩ := cN_spec hf
    refine k_Sv (As := [.ref (rfG g v16), .int x1]) (rest := []) X I (c_X12_renews l g v16 x1 e20) z21 sk_TrapCornerModel_410 tw_1742 ⟨Nat.le_trans (by decide) hR.1, Nat.le_trans (by decide) hR.2⟩ ⟨Nat.zero_le _, Nat.zero_le _⟩ rfl hl.1 rfl (Nat.le_of_ble_eq_true rfl) dX12_renew_28 (fun H locs I => ?_)
    refine lv_aload_n hx hb dX12_renew_31 rfl (lv_at hl 0 rfl) ?_
    obtain ⟨v22, e23, hf⟩ := Option.bind_eq_some_iff.mp hf
    refine r_gR X I e23 lk_TrapCornerModel_61 dX12_renew_32 ?_
    refine lv_iconst (v := 2) hx hb dX12_renew_35 (by decide) ?_
    refine lv_iload_n hx hb dX12_renew_36 rfl (lv_at hl 1 rfl) ?_
    refine lv_imul hx hb dX12_renew_37 ?_
    refine lv_iconst (v := 1) hx hb dX12_renew_38 (by decide) ?_
    refine lv_iadd hx hb dX12_renew_39 ?_
    obtain ⟨v24, e25, hf⟩ := Option.bind_eq_some_iff.mp hf
    refine r_aI0 X I e25 dX12_renew_40 ?_
    cases hf
    exact k_ri X I hr dX12_renew_41
  · rw [if_pos c10] at hf
    refine lv_iconst (v := (-1)) hx hb dX12_renew_17 (by decide) ?_
    cases hf
    exact k_ri X I hr dX12_renew_18
def f_X12_renew (o0 : Nat) (x1 : Int32) (h : AH) : Option (Int32 × AH) := f_X12_renew_0 o0 x1 h
end
theorem c_X12_renew (l : Launch) (g : GG) (o0 : Nat) (x1 : Int32) {h : AH} {res : Int32 × AH} (hf : f_X12_renew o0 x1 h = some res) : CM l g yX12_renew cX12_renew 2 (some (.int)) 3 192 0 0 [.ref (rfG g o0), .int x1] h (some (.int res.1)) res.2 :=
  k_body (by decide) (Nat.le_of_ble_eq_true rfl) (fun p e s m below meth c R ls hR hr X I hl => w_X12_renew_0 X ⟨Nat.le_of_eq hR.1.symm, Nat.le_of_eq hR.2.1.symm⟩ hr o0 x1 h ls s.heap [] hf I (lv_sub hl [0, 1] rfl))
/-! TrapCornerModel.constable(I)I -/
theorem dX12_constable_0 : decode cX12_constable 0 = .ok (.aload_n 0, 1) := by decide +kernel
theorem dX12_constable_1 : decode cX12_constable 1 = .ok (.iconst 0, 1) := by decide +kernel
theorem dX12_constable_2 : decode cX12_constable 2 = .ok (.putfield 96, 3) := by decide +kernel
theorem dX12_constable_5 : decode cX12_constable 5 = .ok (.aload_n 0, 1) := by decide +kernel
theorem dX12_constable_6 : decode cX12_constable 6 = .ok (.iload_n 1, 1) := by decide +kernel
theorem dX12_constable_7 : decode cX12_constable 7 = .ok (.invokevirtual 380, 3) := by decide +kernel
theorem dX12_constable_10 : decode cX12_constable 10 = .ok (.ifCond .eq 16, 3) := by decide +kernel
theorem dX12_constable_13 : decode cX12_constable 13 = .ok (.aload_n 0, 1) := by decide +kernel
theorem dX12_constable_14 : decode cX12_constable 14 = .ok (.getfield 61, 3) := by decide +kernel
theorem dX12_constable_17 : decode cX12_constable 17 = .ok (.bipush 28, 2) := by decide +kernel
theorem dX12_constable_19 : decode cX12_constable 19 = .ok (.iaload, 1) := by decide +kernel
theorem dX12_constable_20 : decode cX12_constable 20 = .ok (.iload_n 1, 1) := by decide +kernel
theorem dX12_constable_21 : decode cX12_constable 21 = .ok (.iconst 1, 1) := by decide +kernel
theorem dX12_constable_22 : decode cX12_constable 22 = .ok (.iadd, 1) := by decide +kernel
theorem dX12_constable_23 : decode cX12_constable 23 = .ok (.if_icmp .ne 6, 3) := by decide +kernel
theorem dX12_constable_26 : decode cX12_constable 26 = .ok (.bipush (-2), 2) := by decide +kernel
theorem dX12_constable_28 : decode cX12_constable 28 = .ok (.ireturn, 1) := by decide +kernel
theorem dX12_constable_29 : decode cX12_constable 29 = .ok (.aload_n 0, 1) := by decide +kernel
theorem dX12_constable_30 : decode cX12_constable 30 = .ok (.invokevirtual 390, 3) := by decide +kernel
theorem dX12_constable_33 : decode cX12_constable 33 = .ok (.aload_n 0, 1) := by decide +kernel
theorem dX12_constable_34 : decode cX12_constable 34 = .ok (.getfield 61, 3) := by decide +kernel
theorem dX12_constable_37 : decode cX12_constable 37 = .ok (.bipush 28, 2) := by decide +kernel
theorem dX12_constable_39 : decode cX12_constable 39 = .ok (.iaload, 1) := by decide +kernel
theorem dX12_constable_40 : decode cX12_constable 40 = .ok (.iconst 1, 1) := by decide +kernel
theorem dX12_constable_41 : decode cX12_constable 41 = .ok (.isub, 1) := by decide +kernel
theorem dX12_constable_42 : decode cX12_constable 42 = .ok (.istore_n 2, 1) := by decide +kernel
theorem dX12_constable_43 : decode cX12_constable 43 = .ok (.aload_n 0, 1) := by decide +kernel
theorem dX12_constable_44 : decode cX12_constable 44 = .ok (.getfield 61, 3) := by decide +kernel
theorem dX12_constable_47 : decode cX12_constable 47 = .ok (.bipush 28, 2) := by decide +kernel
theorem dX12_constable_49 : decode cX12_constable 49 = .ok (.iload_n 1, 1) := by decide +kernel
theorem dX12_constable_50 : decode cX12_constable 50 = .ok (.iconst 1, 1) := by decide +kernel
theorem dX12_constable_51 : decode cX12_constable 51 = .ok (.iadd, 1) := by decide +kernel
theorem dX12_constable_52 : decode cX12_constable 52 = .ok (.iastore, 1) := by decide +kernel
theorem dX12_constable_53 : decode cX12_constable 53 = .ok (.iload_n 2, 1) := by decide +kernel
theorem dX12_constable_54 : decode cX12_constable 54 = .ok (.ireturn, 1) := by decide +kernel
section
variable {g : GG} {p : Program} {l : Launch} {e : Env} {R : Room} {s : State} {m : MethodId} {args : Array Value} {below : List Frame} {meth : Method} {c : Code} {n0 z0 : Nat}
def f_X12_constable_0  (o0 : Nat) (x1 : Int32) (h : AH) : Option (Int32 × AH) :=
  (pV [12] h o0 0 (.int 0)).bind fun h1 =>
  (isC [12] h1 o0).bind fun _ =>
  cN (f_X12_isCorner o0 x1 h1) h1 fun v3 h4 =>
  if v3 = 0 then
    some ((-2), h4)
  else
    (gR [12] h4 o0 32).bind fun v9 =>
    (aI 0 h4 v9 28).bind fun v11 =>
    if v11 = (x1 + 1) then
      some ((-2), h4)
    else
      (isC [12] h4 o0).bind fun _ =>
      cN (f_X12_remember o0 h4) h4 fun _ h15 =>
      (gR [12] h15 o0 32).bind fun v19 =>
      (aI 0 h15 v19 28).bind fun v21 =>
      (gR [12] h15 o0 32).bind fun v23 =>
      (uI 0 h15 v23 28 (x1 + 1)).bind fun h25 =>
      some (v21 - 1, h25)
set_option maxHeartbeats 1000000 in
theorem w_X12_constable_0 (X : Cx g p s m args meth c cX12_constable 3 "TrapCornerModel") (hR : 2 ≤ R.frames ∧ 128 ≤ R.locals) (hr : meth.sig.returnType = (some (.int))) {res : Int32 × AH} : ∀ (o0 : Nat) (x1 : Int32) (h : AH) (ls : Array Slot) (H : Heap) (locs : List Loc), f_X12_constable_0 o0 x1 h = some res → Iv g s n0 z0 h H locs 0 0 → lv_has ls 3 [(0, .ref (rfG g o0)), (1, .int x1)] → W p l e R s m args below meth c H locs 0 0 (MQ below (QG g (some (.int res.1)) res.2) args s 0 0 (AG g)) (F0 m 0 ls []) := by
  have hx := X.1
  have hb := X.2.1
  intro o0 x1 h ls H locs hf I hl
  unfold f_X12_constable_0 at hf
  refine lv_aload_n hx hb dX12_constable_0 rfl (lv_at hl 0 rfl) ?_
  refine lv_iconst (v := 0) hx hb dX12_constable_1 (by decide) ?_
  obtain ⟨h1, e2, hf⟩ := Option.bind_eq_some_iff.mp hf
  refine r_pI X I e2 lp_TrapCornerModel_96 dX12_constable_2 (fun H locs I => ?_)
  refine lv_aload_n hx hb dX12_constable_5 rfl (lv_at hl 0 rfl) ?_
  refine lv_iload_n hx hb dX12_constable_6 rfl (lv_at hl 1 rfl) ?_
  obtain ⟨_, g7, hf⟩ := Option.bind_eq_some_iff.mp hf
  obtain ⟨v3, h4, e5, z6, hf⟩ := cN_spec hf
  refine k_Vi (As := [.int x1]) (rest := []) X I (c_X12_isCorner l g o0 x1 e5) z6 g7 vk_TrapCornerModel_380 tw_1635 ⟨Nat.le_trans (by decide) hR.1, Nat.le_trans (by decide) hR.2⟩ ⟨Nat.zero_le _, Nat.zero_le _⟩ rfl hl.1 rfl (Nat.le_of_ble_eq_true rfl) dX12_constable_7 (fun H locs I => ?_)
  refine lv_if_eq (tgt := 26) hx hb dX12_constable_10 (by decide) (fun c8 => ?_) (fun c8 => ?_)
  · rw [if_pos c8] at hf
    refine lv_bipush (v := (-2)) hx hb dX12_constable_26 (by decide) ?_
    cases hf
    exact k_ri X I hr dX12_constable_28
  · rw [if_neg c8] at hf
    refine lv_aload_n hx hb dX12_constable_13 rfl (lv_at hl 0 rfl) ?_
    obtain ⟨v9, e10, hf⟩ := Option.bind_eq_some_iff.mp hf
    refine r_gR X I e10 lk_TrapCornerModel_61 dX12_constable_14 ?_
    refine lv_bipush (v := 28) hx hb dX12_constable_17 (by decide) ?_
    obtain ⟨v11, e12, hf⟩ := Option.bind_eq_some_iff.mp hf
    refine r_aI0 X I e12 dX12_constable_19 ?_
    refine lv_iload_n hx hb dX12_constable_20 rfl (lv_at hl 1 rfl) ?_
    refine lv_iconst (v := 1) hx hb dX12_constable_21 (by decide) ?_
    refine lv_iadd hx hb dX12_constable_22 ?_
    refine lv_icmp_ne (tgt := 29) hx hb dX12_constable_23 (by decide) (fun c13 => ?_) (fun c13 => ?_)
    · rw [if_neg c13] at hf
      refine lv_aload_n hx hb dX12_constable_29 rfl (lv_at hl 0 rfl) ?_
      obtain ⟨_, g18, hf⟩ := Option.bind_eq_some_iff.mp hf
      obtain ⟨⟨⟩, h15, e16, z17, hf⟩ := cN_spec hf
      refine k_Vv (As := []) (rest := []) X I (c_X12_remember l g o0 e16) z17 g18 vk_TrapCornerModel_390 tw_1668 ⟨Nat.le_trans (by decide) hR.1, Nat.le_trans (by decide) hR.2⟩ ⟨Nat.zero_le _, Nat.zero_le _⟩ rfl hl.1 rfl (Nat.le_of_ble_eq_true rfl) dX12_constable_30 (fun H locs I => ?_)
      refine lv_aload_n hx hb dX12_constable_33 rfl (lv_at hl 0 rfl) ?_
      obtain ⟨v19, e20, hf⟩ := Option.bind_eq_some_iff.mp hf
      refine r_gR X I e20 lk_TrapCornerModel_61 dX12_constable_34 ?_
      refine lv_bipush (v := 28) hx hb dX12_constable_37 (by decide) ?_
      obtain ⟨v21, e22, hf⟩ := Option.bind_eq_some_iff.mp hf
      refine r_aI0 X I e22 dX12_constable_39 ?_
      refine lv_iconst (v := 1) hx hb dX12_constable_40 (by decide) ?_
      refine lv_isub hx hb dX12_constable_41 ?_
      refine lv_istore_n (lv' := [(2, .int (v21 - 1)), (0, .ref (rfG g o0)), (1, .int x1)]) hx hb dX12_constable_42 rfl hl (by decide) rfl (fun ls hl => ?_)
      refine lv_aload_n hx hb dX12_constable_43 rfl (lv_at hl 1 rfl) ?_
      obtain ⟨v23, e24, hf⟩ := Option.bind_eq_some_iff.mp hf
      refine r_gR X I e24 lk_TrapCornerModel_61 dX12_constable_44 ?_
      refine lv_bipush (v := 28) hx hb dX12_constable_47 (by decide) ?_
      refine lv_iload_n hx hb dX12_constable_49 rfl (lv_at hl 2 rfl) ?_
      refine lv_iconst (v := 1) hx hb dX12_constable_50 (by decide) ?_
      refine lv_iadd hx hb dX12_constable_51 ?_
      obtain ⟨h25, e26, hf⟩ := Option.bind_eq_some_iff.mp hf
      refine r_uI0 X I e26 dX12_constable_52 (fun H locs I => ?_)
      refine lv_iload_n hx hb dX12_constable_53 rfl (lv_at hl 0 rfl) ?_
      cases hf
      exact k_ri X I hr dX12_constable_54
    · rw [if_pos c13] at hf
      refine lv_bipush (v := (-2)) hx hb dX12_constable_26 (by decide) ?_
      cases hf
      exact k_ri X I hr dX12_constable_28
def f_X12_constable (o0 : Nat) (x1 : Int32) (h : AH) : Option (Int32 × AH) := f_X12_constable_0 o0 x1 h
end
theorem c_X12_constable (l : Launch) (g : GG) (o0 : Nat) (x1 : Int32) {h : AH} {res : Int32 × AH} (hf : f_X12_constable o0 x1 h = some res) : CM l g yX12_constable cX12_constable 3 (some (.int)) 2 128 0 0 [.ref (rfG g o0), .int x1] h (some (.int res.1)) res.2 :=
  k_body (by decide) (Nat.le_of_ble_eq_true rfl) (fun p e s m below meth c R ls hR hr X I hl => w_X12_constable_0 X ⟨Nat.le_of_eq hR.1.symm, Nat.le_of_eq hR.2.1.symm⟩ hr o0 x1 h ls s.heap [] hf I (lv_sub hl [0, 1] rfl))
/-! TrapCornerModel.turns([II)V -/
theorem dX12_turns_0 : decode cX12_turns 0 = .ok (.aload_n 0, 1) := by decide +kernel
theorem dX12_turns_1 : decode cX12_turns 1 = .ok (.bipush 10, 2) := by decide +kernel
theorem dX12_turns_3 : decode cX12_turns 3 = .ok (.iconst 3, 1) := by decide +kernel
theorem dX12_turns_4 : decode cX12_turns 4 = .ok (.iload_n 1, 1) := by decide +kernel
theorem dX12_turns_5 : decode cX12_turns 5 = .ok (.imul, 1) := by decide +kernel
theorem dX12_turns_6 : decode cX12_turns 6 = .ok (.iadd, 1) := by decide +kernel
theorem dX12_turns_7 : decode cX12_turns 7 = .ok (.iconst 2, 1) := by decide +kernel
theorem dX12_turns_8 : decode cX12_turns 8 = .ok (.iadd, 1) := by decide +kernel
theorem dX12_turns_9 : decode cX12_turns 9 = .ok (.iconst 1, 1) := by decide +kernel
theorem dX12_turns_10 : decode cX12_turns 10 = .ok (.aload_n 0, 1) := by decide +kernel
theorem dX12_turns_11 : decode cX12_turns 11 = .ok (.bipush 10, 2) := by decide +kernel
theorem dX12_turns_13 : decode cX12_turns 13 = .ok (.iconst 3, 1) := by decide +kernel
theorem dX12_turns_14 : decode cX12_turns 14 = .ok (.iload_n 1, 1) := by decide +kernel
theorem dX12_turns_15 : decode cX12_turns 15 = .ok (.imul, 1) := by decide +kernel
theorem dX12_turns_16 : decode cX12_turns 16 = .ok (.iadd, 1) := by decide +kernel
theorem dX12_turns_17 : decode cX12_turns 17 = .ok (.iconst 2, 1) := by decide +kernel
theorem dX12_turns_18 : decode cX12_turns 18 = .ok (.iadd, 1) := by decide +kernel
theorem dX12_turns_19 : decode cX12_turns 19 = .ok (.iaload, 1) := by decide +kernel
theorem dX12_turns_20 : decode cX12_turns 20 = .ok (.isub, 1) := by decide +kernel
theorem dX12_turns_21 : decode cX12_turns 21 = .ok (.iastore, 1) := by decide +kernel
theorem dX12_turns_22 : decode cX12_turns 22 = .ok (.return_, 1) := by decide +kernel
section
variable {g : GG} {p : Program} {l : Launch} {e : Env} {R : Room} {s : State} {m : MethodId} {args : Array Value} {below : List Frame} {meth : Method} {c : Code} {n0 z0 : Nat}
def f_X12_turns_0  (o0 : Nat) (x1 : Int32) (h : AH) : Option (Unit × AH) :=
  (aI 0 h o0 ((10 + (3 * x1)) + 2)).bind fun v1 =>
  (uI 0 h o0 ((10 + (3 * x1)) + 2) (1 - v1)).bind fun h3 =>
  some ((), h3)
set_option maxHeartbeats 1000000 in
theorem w_X12_turns_0 (X : Cx g p s m args meth c cX12_turns 2 "TrapCornerModel") (hR : 1 ≤ R.frames ∧ 64 ≤ R.locals) (hr : meth.sig.returnType = none) {res : Unit × AH} : ∀ (o0 : Nat) (x1 : Int32) (h : AH) (ls : Array Slot) (H : Heap) (locs : List Loc), f_X12_turns_0 o0 x1 h = some res → Iv g s n0 z0 h H locs 0 0 → lv_has ls 2 [(0, .ref (rfG g o0)), (1, .int x1)] → W p l e R s m args below meth c H locs 0 0 (MQ below (QG g none res.2) args s 0 0 (AG g)) (F0 m 0 ls []) := by
  have hx := X.1
  have hb := X.2.1
  intro o0 x1 h ls H locs hf I hl
  unfold f_X12_turns_0 at hf
  refine lv_aload_n hx hb dX12_turns_0 rfl (lv_at hl 0 rfl) ?_
  refine lv_bipush (v := 10) hx hb dX12_turns_1 (by decide) ?_
  refine lv_iconst (v := 3) hx hb dX12_turns_3 (by decide) ?_
  refine lv_iload_n hx hb dX12_turns_4 rfl (lv_at hl 1 rfl) ?_
  refine lv_imul hx hb dX12_turns_5 ?_
  refine lv_iadd hx hb dX12_turns_6 ?_
  refine lv_iconst (v := 2) hx hb dX12_turns_7 (by decide) ?_
  refine lv_iadd hx hb dX12_turns_8 ?_
  refine lv_iconst (v := 1) hx hb dX12_turns_9 (by decide) ?_
  refine lv_aload_n hx hb dX12_turns_10 rfl (lv_at hl 0 rfl) ?_
  refine lv_bipush (v := 10) hx hb dX12_turns_11 (by decide) ?_
  refine lv_iconst (v := 3) hx hb dX12_turns_13 (by decide) ?_
  refine lv_iload_n hx hb dX12_turns_14 rfl (lv_at hl 1 rfl) ?_
  refine lv_imul hx hb dX12_turns_15 ?_
  refine lv_iadd hx hb dX12_turns_16 ?_
  refine lv_iconst (v := 2) hx hb dX12_turns_17 (by decide) ?_
  refine lv_iadd hx hb dX12_turns_18 ?_
  obtain ⟨v1, e2, hf⟩ := Option.bind_eq_some_iff.mp hf
  refine r_aI0 X I e2 dX12_turns_19 ?_
  refine lv_isub hx hb dX12_turns_20 ?_
  obtain ⟨h3, e4, hf⟩ := Option.bind_eq_some_iff.mp hf
  refine r_uI0 X I e4 dX12_turns_21 (fun H locs I => ?_)
  cases hf
  exact k_rv X I hr dX12_turns_22
def f_X12_turns (o0 : Nat) (x1 : Int32) (h : AH) : Option (Unit × AH) := f_X12_turns_0 o0 x1 h
end
theorem c_X12_turns (l : Launch) (g : GG) (o0 : Nat) (x1 : Int32) {h : AH} {res : Unit × AH} (hf : f_X12_turns o0 x1 h = some res) : CM l g yX12_turns cX12_turns 2 none 1 64 0 0 [.ref (rfG g o0), .int x1] h none res.2 :=
  k_body (by decide) (Nat.le_of_ble_eq_true rfl) (fun p e s m below meth c R ls hR hr X I hl => w_X12_turns_0 X ⟨Nat.le_of_eq hR.1.symm, Nat.le_of_eq hR.2.1.symm⟩ hr o0 x1 h ls s.heap [] hf I (lv_sub hl [0, 1] rfl))
/-! TrapCornerModel.about(I)I -/
theorem dX12_about_0 : decode cX12_about 0 = .ok (.aload_n 0, 1) := by decide +kernel
theorem dX12_about_1 : decode cX12_about 1 = .ok (.iconst 0, 1) := by decide +kernel
theorem dX12_about_2 : decode cX12_about 2 = .ok (.putfield 96, 3) := by decide +kernel
theorem dX12_about_5 : decode cX12_about 5 = .ok (.aload_n 0, 1) := by decide +kernel
theorem dX12_about_6 : decode cX12_about 6 = .ok (.iload_n 1, 1) := by decide +kernel
theorem dX12_about_7 : decode cX12_about 7 = .ok (.invokevirtual 383, 3) := by decide +kernel
theorem dX12_about_10 : decode cX12_about 10 = .ok (.ifCond .ne 5, 3) := by decide +kernel
theorem dX12_about_13 : decode cX12_about 13 = .ok (.iconst (-1), 1) := by decide +kernel
theorem dX12_about_14 : decode cX12_about 14 = .ok (.ireturn, 1) := by decide +kernel
theorem dX12_about_15 : decode cX12_about 15 = .ok (.aload_n 0, 1) := by decide +kernel
theorem dX12_about_16 : decode cX12_about 16 = .ok (.invokevirtual 390, 3) := by decide +kernel
theorem dX12_about_19 : decode cX12_about 19 = .ok (.aload_n 0, 1) := by decide +kernel
theorem dX12_about_20 : decode cX12_about 20 = .ok (.getfield 61, 3) := by decide +kernel
theorem dX12_about_23 : decode cX12_about 23 = .ok (.iload_n 1, 1) := by decide +kernel
theorem dX12_about_24 : decode cX12_about 24 = .ok (.invokestatic 413, 3) := by decide +kernel
theorem dX12_about_27 : decode cX12_about 27 = .ok (.aload_n 0, 1) := by decide +kernel
theorem dX12_about_28 : decode cX12_about 28 = .ok (.getfield 61, 3) := by decide +kernel
theorem dX12_about_31 : decode cX12_about 31 = .ok (.iload_n 1, 1) := by decide +kernel
theorem dX12_about_32 : decode cX12_about 32 = .ok (.iconst 2, 1) := by decide +kernel
theorem dX12_about_33 : decode cX12_about 33 = .ok (.invokestatic 328, 3) := by decide +kernel
theorem dX12_about_36 : decode cX12_about 36 = .ok (.ireturn, 1) := by decide +kernel
theorem sk_TrapCornerModel_413 : SK "TrapCornerModel" 413 yX12_turns 2 := ⟨tw_1751, tw_1752, tw_13, ⟨by decide, by decide⟩, by decide +kernel⟩
section
variable {g : GG} {p : Program} {l : Launch} {e : Env} {R : Room} {s : State} {m : MethodId} {args : Array Value} {below : List Frame} {meth : Method} {c : Code} {n0 z0 : Nat}
def f_X12_about_0  (o0 : Nat) (x1 : Int32) (h : AH) : Option (Int32 × AH) :=
  (pV [12] h o0 0 (.int 0)).bind fun h1 =>
  (isC [12] h1 o0).bind fun _ =>
  cN (f_X12_isPerson o0 x1 h1) h1 fun v3 h4 =>
  if v3 = 0 then
    some ((-1), h4)
  else
    (isC [12] h4 o0).bind fun _ =>
    cN (f_X12_remember o0 h4) h4 fun _ h10 =>
    (gR [12] h10 o0 32).bind fun v14 =>
    cN (f_X12_turns v14 x1 h10) h10 fun _ h17 =>
    (gR [12] h17 o0 32).bind fun v20 =>
    cN (f_X12_folk v20 x1 2 h17) h17 fun v22 h23 =>
    some (v22, h23)
set_option maxHeartbeats 1000000 in
theorem w_X12_about_0 (X : Cx g p s m args meth c cX12_about 2 "TrapCornerModel") (hR : 2 ≤ R.frames ∧ 128 ≤ R.locals) (hr : meth.sig.returnType = (some (.int))) {res : Int32 × AH} : ∀ (o0 : Nat) (x1 : Int32) (h : AH) (ls : Array Slot) (H : Heap) (locs : List Loc), f_X12_about_0 o0 x1 h = some res → Iv g s n0 z0 h H locs 0 0 → lv_has ls 2 [(0, .ref (rfG g o0)), (1, .int x1)] → W p l e R s m args below meth c H locs 0 0 (MQ below (QG g (some (.int res.1)) res.2) args s 0 0 (AG g)) (F0 m 0 ls []) := by
  have hx := X.1
  have hb := X.2.1
  intro o0 x1 h ls H locs hf I hl
  unfold f_X12_about_0 at hf
  refine lv_aload_n hx hb dX12_about_0 rfl (lv_at hl 0 rfl) ?_
  refine lv_iconst (v := 0) hx hb dX12_about_1 (by decide) ?_
  obtain ⟨h1, e2, hf⟩ := Option.bind_eq_some_iff.mp hf
  refine r_pI X I e2 lp_TrapCornerModel_96 dX12_about_2 (fun H locs I => ?_)
  refine lv_aload_n hx hb dX12_about_5 rfl (lv_at hl 0 rfl) ?_
  refine lv_iload_n hx hb dX12_about_6 rfl (lv_at hl 1 rfl) ?_
  obtain ⟨_, g7, hf⟩ := Option.bind_eq_some_iff.mp hf
  obtain ⟨v3, h4, e5, z6, hf⟩ := cN_spec hf
  refine k_Vi (As := [.int x1]) (rest := []) X I (c_X12_isPerson l g o0 x1 e5) z6 g7 vk_TrapCornerModel_383 tw_1643 ⟨Nat.le_trans (by decide) hR.1, Nat.le_trans (by decide) hR.2⟩ ⟨Nat.zero_le _, Nat.zero_le _⟩ rfl hl.1 rfl (Nat.le_of_ble_eq_true rfl) dX12_about_7 (fun H locs I => ?_)
  refine lv_if_ne (tgt := 15) hx hb dX12_about_10 (by decide) (fun c8 => ?_) (fun c8 => ?_)
  · rw [if_neg c8] at hf
    refine lv_aload_n hx hb dX12_about_15 rfl (lv_at hl 0 rfl) ?_
    obtain ⟨_, g13, hf⟩ := Option.bind_eq_some_iff.mp hf
    obtain ⟨⟨⟩, h10, e11, z12, hf⟩ := cN_spec hf
    refine k_Vv (As := []) (rest := []) X I (c_X12_remember l g o0 e11) z12 g13 vk_TrapCornerModel_390 tw_1668 ⟨Nat.le_trans (by decide) hR.1, Nat.le_trans (by decide) hR.2⟩ ⟨Nat.zero_le _, Nat.zero_le _⟩ rfl hl.1 rfl (Nat.le_of_ble_eq_true rfl) dX12_about_16 (fun H locs I => ?_)
    refine lv_aload_n hx hb dX12_about_19 rfl (lv_at hl 0 rfl) ?_
    obtain ⟨v14, e15, hf⟩ := Option.bind_eq_some_iff.mp hf
    refine r_gR X I e15 lk_TrapCornerModel_61 dX12_about_20 ?_
    refine lv_iload_n hx hb dX12_about_23 rfl (lv_at hl 1 rfl) ?_
    obtain ⟨⟨⟩, h17, e18, z19, hf⟩ := cN_spec hf
    refine k_Sv (As := [.ref (rfG g v14), .int x1]) (rest := []) X I (c_X12_turns l g v14 x1 e18) z19 sk_TrapCornerModel_413 tw_1753 ⟨Nat.le_trans (by decide) hR.1, Nat.le_trans (by decide) hR.2⟩ ⟨Nat.zero_le _, Nat.zero_le _⟩ rfl hl.1 rfl (Nat.le_of_ble_eq_true rfl) dX12_about_24 (fun H locs I => ?_)
    refine lv_aload_n hx hb dX12_about_27 rfl (lv_at hl 0 rfl) ?_
    obtain ⟨v20, e21, hf⟩ := Option.bind_eq_some_iff.mp hf
    refine r_gR X I e21 lk_TrapCornerModel_61 dX12_about_28 ?_
    refine lv_iload_n hx hb dX12_about_31 rfl (lv_at hl 1 rfl) ?_
    refine lv_iconst (v := 2) hx hb dX12_about_32 (by decide) ?_
    obtain ⟨v22, h23, e24, z25, hf⟩ := cN_spec hf
    refine k_Si (As := [.ref (rfG g v20), .int x1, .int 2]) (rest := []) X I (c_X12_folk l g v20 x1 2 e24) z25 sk_TrapCornerModel_328 tw_1647 ⟨Nat.le_trans (by decide) hR.1, Nat.le_trans (by decide) hR.2⟩ ⟨Nat.zero_le _, Nat.zero_le _⟩ rfl hl.1 rfl (Nat.le_of_ble_eq_true rfl) dX12_about_33 (fun H locs I => ?_)
    cases hf
    exact k_ri X I hr dX12_about_36
  · rw [if_pos c8] at hf
    refine lv_iconst (v := (-1)) hx hb dX12_about_13 (by decide) ?_
    cases hf
    exact k_ri X I hr dX12_about_14
def f_X12_about (o0 : Nat) (x1 : Int32) (h : AH) : Option (Int32 × AH) := f_X12_about_0 o0 x1 h
end
theorem c_X12_about (l : Launch) (g : GG) (o0 : Nat) (x1 : Int32) {h : AH} {res : Int32 × AH} (hf : f_X12_about o0 x1 h = some res) : CM l g yX12_about cX12_about 2 (some (.int)) 2 128 0 0 [.ref (rfG g o0), .int x1] h (some (.int res.1)) res.2 :=
  k_body (by decide) (Nat.le_of_ble_eq_true rfl) (fun p e s m below meth c R ls hR hr X I hl => w_X12_about_0 X ⟨Nat.le_of_eq hR.1.symm, Nat.le_of_eq hR.2.1.symm⟩ hr o0 x1 h ls s.heap [] hf I (lv_sub hl [0, 1] rfl))
/-! TrapCornerModel.give(I)I -/
theorem dX12_give_0 : decode cX12_give 0 = .ok (.aload_n 0, 1) := by decide +kernel
theorem dX12_give_1 : decode cX12_give 1 = .ok (.iconst 0, 1) := by decide +kernel
theorem dX12_give_2 : decode cX12_give 2 = .ok (.putfield 96, 3) := by decide +kernel
theorem dX12_give_5 : decode cX12_give 5 = .ok (.aload_n 0, 1) := by decide +kernel
theorem dX12_give_6 : decode cX12_give 6 = .ok (.getfield 297, 3) := by decide +kernel
theorem dX12_give_9 : decode cX12_give 9 = .ok (.ifCond .eq 30, 3) := by decide +kernel
theorem dX12_give_12 : decode cX12_give 12 = .ok (.iload_n 1, 1) := by decide +kernel
theorem dX12_give_13 : decode cX12_give 13 = .ok (.i2l, 1) := by decide +kernel
theorem dX12_give_14 : decode cX12_give 14 = .ok (.lconst 1, 1) := by decide +kernel
theorem dX12_give_15 : decode cX12_give 15 = .ok (.ldc2_w 416, 3) := by decide +kernel
theorem dX12_give_18 : decode cX12_give 18 = .ok (.invokestatic 217, 3) := by decide +kernel
theorem dX12_give_21 : decode cX12_give 21 = .ok (.ifCond .eq 18, 3) := by decide +kernel
theorem dX12_give_24 : decode cX12_give 24 = .ok (.aload_n 0, 1) := by decide +kernel
theorem dX12_give_25 : decode cX12_give 25 = .ok (.getfield 61, 3) := by decide +kernel
theorem dX12_give_28 : decode cX12_give 28 = .ok (.bipush 29, 2) := by decide +kernel
theorem dX12_give_30 : decode cX12_give 30 = .ok (.iaload, 1) := by decide +kernel
theorem dX12_give_31 : decode cX12_give 31 = .ok (.iload_n 1, 1) := by decide +kernel
theorem dX12_give_32 : decode cX12_give 32 = .ok (.iadd, 1) := by decide +kernel
theorem dX12_give_33 : decode cX12_give 33 = .ok (.sipush 999, 3) := by decide +kernel
theorem dX12_give_36 : decode cX12_give 36 = .ok (.if_icmp .le 5, 3) := by decide +kernel
theorem dX12_give_39 : decode cX12_give 39 = .ok (.iconst (-1), 1) := by decide +kernel
theorem dX12_give_40 : decode cX12_give 40 = .ok (.ireturn, 1) := by decide +kernel
theorem dX12_give_41 : decode cX12_give 41 = .ok (.aload_n 0, 1) := by decide +kernel
theorem dX12_give_42 : decode cX12_give 42 = .ok (.invokevirtual 390, 3) := by decide +kernel
theorem dX12_give_45 : decode cX12_give 45 = .ok (.aload_n 0, 1) := by decide +kernel
theorem dX12_give_46 : decode cX12_give 46 = .ok (.getfield 61, 3) := by decide +kernel
theorem dX12_give_49 : decode cX12_give 49 = .ok (.bipush 29, 2) := by decide +kernel
theorem dX12_give_51 : decode cX12_give 51 = .ok (.dup2, 1) := by decide +kernel
theorem dX12_give_52 : decode cX12_give 52 = .ok (.iaload, 1) := by decide +kernel
theorem dX12_give_53 : decode cX12_give 53 = .ok (.iload_n 1, 1) := by decide +kernel
theorem dX12_give_54 : decode cX12_give 54 = .ok (.iadd, 1) := by decide +kernel
theorem dX12_give_55 : decode cX12_give 55 = .ok (.iastore, 1) := by decide +kernel
theorem dX12_give_56 : decode cX12_give 56 = .ok (.aload_n 0, 1) := by decide +kernel
theorem dX12_give_57 : decode cX12_give 57 = .ok (.getfield 61, 3) := by decide +kernel
theorem dX12_give_60 : decode cX12_give 60 = .ok (.bipush 29, 2) := by decide +kernel
theorem dX12_give_62 : decode cX12_give 62 = .ok (.iaload, 1) := by decide +kernel
theorem dX12_give_63 : decode cX12_give 63 = .ok (.ireturn, 1) := by decide +kernel
section
variable {g : GG} {p : Program} {l : Launch} {e : Env} {R : Room} {s : State} {m : MethodId} {args : Array Value} {below : List Frame} {meth : Method} {c : Code} {n0 z0 : Nat}
def f_X12_give_0  (o0 : Nat) (x1 : Int32) (h : AH) : Option (Int32 × AH) :=
  (pV [12] h o0 0 (.int 0)).bind fun h1 =>
  (gI [12] h1 o0 27).bind fun v3 =>
  if v3 = 0 then
    some ((-1), h1)
  else
    cN (f_X12_isIn (x1.toInt64) 1 50 h1) h1 fun v6 h7 =>
    if v6 = 0 then
      some ((-1), h7)
    else
      (gR [12] h7 o0 32).bind fun v11 =>
      (aI 0 h7 v11 29).bind fun v13 =>
      if (v13 + x1) ≤ 999 then
        (isC [12] h7 o0).bind fun _ =>
        cN (f_X12_remember o0 h7) h7 fun _ h17 =>
        (gR [12] h17 o0 32).bind fun v21 =>
        (aI 0 h17 v21 29).bind fun v23 =>
        (uI 0 h17 v21 29 (v23 + x1)).bind fun h25 =>
        (gR [12] h25 o0 32).bind fun v27 =>
        (aI 0 h25 v27 29).bind fun v29 =>
        some (v29, h25)
      else
        some ((-1), h7)
set_option maxHeartbeats 1000000 in
theorem w_X12_give_0 (X : Cx g p s m args meth c cX12_give 2 "TrapCornerModel") (hR : 2 ≤ R.frames ∧ 128 ≤ R.locals) (hr : meth.sig.returnType = (some (.int))) {res : Int32 × AH} : ∀ (o0 : Nat) (x1 : Int32) (h : AH) (ls : Array Slot) (H : Heap) (locs : List Loc), f_X12_give_0 o0 x1 h = some res → Iv g s n0 z0 h H locs 0 0 → lv_has ls 2 [(0, .ref (rfG g o0)), (1, .int x1)] → W p l e R s m args below meth c H locs 0 0 (MQ below (QG g (some (.int res.1)) res.2) args s 0 0 (AG g)) (F0 m 0 ls []) := by
  have hx := X.1
  have hb := X.2.1
  intro o0 x1 h ls H locs hf I hl
  unfold f_X12_give_0 at hf
  refine lv_aload_n hx hb dX12_give_0 rfl (lv_at hl 0 rfl) ?_
  refine lv_iconst (v := 0) hx hb dX12_give_1 (by decide) ?_
  obtain ⟨h1, e2, hf⟩ := Option.bind_eq_some_iff.mp hf
  refine r_pI X I e2 lp_TrapCornerModel_96 dX12_give_2 (fun H locs I => ?_)
  refine lv_aload_n hx hb dX12_give_5 rfl (lv_at hl 0 rfl) ?_
  obtain ⟨v3, e4, hf⟩ := Option.bind_eq_some_iff.mp hf
  refine r_gI X I e4 lk_TrapCornerModel_297 dX12_give_6 ?_
  refine lv_if_eq (tgt := 39) hx hb dX12_give_9 (by decide) (fun c5 => ?_) (fun c5 => ?_)
  · rw [if_pos c5] at hf
    refine lv_iconst (v := (-1)) hx hb dX12_give_39 (by decide) ?_
    cases hf
    exact k_ri X I hr dX12_give_40
  · rw [if_neg c5] at hf
    refine lv_iload_n hx hb dX12_give_12 rfl (lv_at hl 1 rfl) ?_
    refine lv_i2l hx hb dX12_give_13 rfl ?_
    refine lv_lconst (v := 1) hx hb dX12_give_14 (by decide) ?_
    refine lv_ldc2 (v := 50) hx hb X.2.2.2.1 (X.2.2.2.2.1 _ tw_1758) dX12_give_15 ?_
    obtain ⟨v6, h7, e8, z9, hf⟩ := cN_spec hf
    refine k_Si (As := [.long (x1.toInt64), .long 1, .long 50]) (rest := []) X I (c_X12_isIn l g (x1.toInt64) 1 50 e8) z9 sk_TrapCornerModel_217 tw_1465 ⟨Nat.le_trans (by decide) hR.1, Nat.le_trans (by decide) hR.2⟩ ⟨Nat.zero_le _, Nat.zero_le _⟩ rfl hl.1 rfl (Nat.le_of_ble_eq_true rfl) dX12_give_18 (fun H locs I => ?_)
    refine lv_if_eq (tgt := 39) hx hb dX12_give_21 (by decide) (fun c10 => ?_) (fun c10 => ?_)
    · rw [if_pos c10] at hf
      refine lv_iconst (v := (-1)) hx hb dX12_give_39 (by decide) ?_
      cases hf
      exact k_ri X I hr dX12_give_40
    · rw [if_neg c10] at hf
      refine lv_aload_n hx hb dX12_give_24 rfl (lv_at hl 0 rfl) ?_
      obtain ⟨v11, e12, hf⟩ := Option.bind_eq_some_iff.mp hf
      refine r_gR X I e12 lk_TrapCornerModel_61 dX12_give_25 ?_
      refine lv_bipush (v := 29) hx hb dX12_give_28 (by decide) ?_
      obtain ⟨v13, e14, hf⟩ := Option.bind_eq_some_iff.mp hf
      refine r_aI0 X I e14 dX12_give_30 ?_
      refine lv_iload_n hx hb dX12_give_31 rfl (lv_at hl 1 rfl) ?_
      refine lv_iadd hx hb dX12_give_32 ?_
      refine lv_sipush (v := 999) hx hb dX12_give_33 (by decide) ?_
      refine lv_icmp_le (tgt := 41) hx hb dX12_give_36 (by decide) (fun c15 => ?_) (fun c15 => ?_)
      · rw [if_pos c15] at hf
        refine lv_aload_n hx hb dX12_give_41 rfl (lv_at hl 0 rfl) ?_
        obtain ⟨_, g20, hf⟩ := Option.bind_eq_some_iff.mp hf
        obtain ⟨⟨⟩, h17, e18, z19, hf⟩ := cN_spec hf
        refine k_Vv (As := []) (rest := []) X I (c_X12_remember l g o0 e18) z19 g20 vk_TrapCornerModel_390 tw_1668 ⟨Nat.le_trans (by decide) hR.1, Nat.le_trans (by decide) hR.2⟩ ⟨Nat.zero_le _, Nat.zero_le _⟩ rfl hl.1 rfl (Nat.le_of_ble_eq_true rfl) dX12_give_42 (fun H locs I => ?_)
        refine lv_aload_n hx hb dX12_give_45 rfl (lv_at hl 0 rfl) ?_
        obtain ⟨v21, e22, hf⟩ := Option.bind_eq_some_iff.mp hf
        refine r_gR X I e22 lk_TrapCornerModel_61 dX12_give_46 ?_
        refine lv_bipush (v := 29) hx hb dX12_give_49 (by decide) ?_
        refine lv_dup2_11 hx hb dX12_give_51 rfl rfl ?_
        obtain ⟨v23, e24, hf⟩ := Option.bind_eq_some_iff.mp hf
        refine r_aI0 X I e24 dX12_give_52 ?_
        refine lv_iload_n hx hb dX12_give_53 rfl (lv_at hl 1 rfl) ?_
        refine lv_iadd hx hb dX12_give_54 ?_
        obtain ⟨h25, e26, hf⟩ := Option.bind_eq_some_iff.mp hf
        refine r_uI0 X I e26 dX12_give_55 (fun H locs I => ?_)
        refine lv_aload_n hx hb dX12_give_56 rfl (lv_at hl 0 rfl) ?_
        obtain ⟨v27, e28, hf⟩ := Option.bind_eq_some_iff.mp hf
        refine r_gR X I e28 lk_TrapCornerModel_61 dX12_give_57 ?_
        refine lv_bipush (v := 29) hx hb dX12_give_60 (by decide) ?_
        obtain ⟨v29, e30, hf⟩ := Option.bind_eq_some_iff.mp hf
        refine r_aI0 X I e30 dX12_give_62 ?_
        cases hf
        exact k_ri X I hr dX12_give_63
      · rw [if_neg c15] at hf
        refine lv_iconst (v := (-1)) hx hb dX12_give_39 (by decide) ?_
        cases hf
        exact k_ri X I hr dX12_give_40
def f_X12_give (o0 : Nat) (x1 : Int32) (h : AH) : Option (Int32 × AH) := f_X12_give_0 o0 x1 h
end
theorem c_X12_give (l : Launch) (g : GG) (o0 : Nat) (x1 : Int32) {h : AH} {res : Int32 × AH} (hf : f_X12_give o0 x1 h = some res) : CM l g yX12_give cX12_give 2 (some (.int)) 2 128 0 0 [.ref (rfG g o0), .int x1] h (some (.int res.1)) res.2 :=
  k_body (by decide) (Nat.le_of_ble_eq_true rfl) (fun p e s m below meth c R ls hR hr X I hl => w_X12_give_0 X ⟨Nat.le_of_eq hR.1.symm, Nat.le_of_eq hR.2.1.symm⟩ hr o0 x1 h ls s.heap [] hf I (lv_sub hl [0, 1] rfl))
/-! TrapCornerModel.draw(I)I -/
theorem dX12_draw_0 : decode cX12_draw 0 = .ok (.aload_n 0, 1) := by decide +kernel
theorem dX12_draw_1 : decode cX12_draw 1 = .ok (.aload_n 0, 1) := by decide +kernel
theorem dX12_draw_2 : decode cX12_draw 2 = .ok (.getfield 418, 3) := by decide +kernel
theorem dX12_draw_5 : decode cX12_draw 5 = .ok (.ldc2_w 422, 3) := by decide +kernel
theorem dX12_draw_8 : decode cX12_draw 8 = .ok (.lmul, 1) := by decide +kernel
theorem dX12_draw_9 : decode cX12_draw 9 = .ok (.ldc2_w 424, 3) := by decide +kernel
theorem dX12_draw_12 : decode cX12_draw 12 = .ok (.ladd, 1) := by decide +kernel
theorem dX12_draw_13 : decode cX12_draw 13 = .ok (.putfield 418, 3) := by decide +kernel
theorem dX12_draw_16 : decode cX12_draw 16 = .ok (.aload_n 0, 1) := by decide +kernel
theorem dX12_draw_17 : decode cX12_draw 17 = .ok (.getfield 418, 3) := by decide +kernel
theorem dX12_draw_20 : decode cX12_draw 20 = .ok (.bipush 33, 2) := by decide +kernel
theorem dX12_draw_22 : decode cX12_draw 22 = .ok (.lushr, 1) := by decide +kernel
theorem dX12_draw_23 : decode cX12_draw 23 = .ok (.iload_n 1, 1) := by decide +kernel
theorem dX12_draw_24 : decode cX12_draw 24 = .ok (.i2l, 1) := by decide +kernel
theorem dX12_draw_25 : decode cX12_draw 25 = .ok (.lrem, 1) := by decide +kernel
theorem dX12_draw_26 : decode cX12_draw 26 = .ok (.l2i, 1) := by decide +kernel
theorem dX12_draw_27 : decode cX12_draw 27 = .ok (.ireturn, 1) := by decide +kernel
theorem lk_TrapCornerModel_418 : LK "TrapCornerModel" 418 [12] 44 := by
  intro ci hci
  have hci := List.mem_singleton.mp hci
  subst hci
  exact ⟨RX12, TX12, 50, "TrapCornerModel", ck_12, by decide, tw_1331, Or.inl rfl⟩
theorem lp_TrapCornerModel_418 : LKP "TrapCornerModel" 418 [12] 44 (.long) := by
  intro ci hci
  have hci := List.mem_singleton.mp hci
  subst hci
  exact ⟨RX12, TX12, 50, "TrapCornerModel", ck_12, by decide, tw_1331, Or.inl rfl, rfl, by decide +kernel⟩
section
variable {g : GG} {p : Program} {l : Launch} {e : Env} {R : Room} {s : State} {m : MethodId} {args : Array Value} {below : List Frame} {meth : Method} {c : Code} {n0 z0 : Nat}
def f_X12_draw_0  (o0 : Nat) (x1 : Int32) (h : AH) : Option (Int32 × AH) :=
  (gJ [12] h o0 44).bind fun v1 =>
  (pV [12] h o0 44 (.long ((v1 * 6364136223846793005) + 1442695040888963407))).bind fun h3 =>
  (gJ [12] h3 o0 44).bind fun v5 =>
  if (x1.toInt64) = 0 then none else
  some ((((v5.toUInt64 >>> ((33 : Int32).toInt64.toUInt64 &&& Int64.toUInt64 63)).toInt64) - ((v5.toUInt64 >>> ((33 : Int32).toInt64.toUInt64 &&& Int64.toUInt64 63)).toInt64) / (x1.toInt64) * (x1.toInt64)).toInt32, h3)
set_option maxHeartbeats 1000000 in
theorem w_X12_draw_0 (X : Cx g p s m args meth c cX12_draw 2 "TrapCornerModel") (hR : 1 ≤ R.frames ∧ 64 ≤ R.locals) (hr : meth.sig.returnType = (some (.int))) {res : Int32 × AH} : ∀ (o0 : Nat) (x1 : Int32) (h : AH) (ls : Array Slot) (H : Heap) (locs : List Loc), f_X12_draw_0 o0 x1 h = some res → Iv g s n0 z0 h H locs 0 0 → lv_has ls 2 [(0, .ref (rfG g o0)), (1, .int x1)] → W p l e R s m args below meth c H locs 0 0 (MQ below (QG g (some (.int res.1)) res.2) args s 0 0 (AG g)) (F0 m 0 ls []) := by
  have hx := X.1
  have hb := X.2.1
  intro o0 x1 h ls H locs hf I hl
  unfold f_X12_draw_0 at hf
  refine lv_aload_n hx hb dX12_draw_0 rfl (lv_at hl 0 rfl) ?_
  refine lv_aload_n hx hb dX12_draw_1 rfl (lv_at hl 0 rfl) ?_
  obtain ⟨v1, e2, hf⟩ := Option.bind_eq_some_iff.mp hf
  refine r_gJ X I e2 lk_TrapCornerModel_418 dX12_draw_2 ?_
  refine lv_ldc2 (v := 6364136223846793005) hx hb X.2.2.2.1 (X.2.2.2.2.1 _ tw_1768) dX12_draw_5 ?_
  refine lv_lmul hx hb dX12_draw_8 ?_
  refine lv_ldc2 (v := 1442695040888963407) hx hb X.2.2.2.1 (X.2.2.2.2.1 _ tw_1769) dX12_draw_9 ?_
  refine lv_ladd hx hb dX12_draw_12 ?_
  obtain ⟨h3, e4, hf⟩ := Option.bind_eq_some_iff.mp hf
  refine r_pJ X I e4 lp_TrapCornerModel_418 dX12_draw_13 (fun H locs I => ?_)
  refine lv_aload_n hx hb dX12_draw_16 rfl (lv_at hl 0 rfl) ?_
  obtain ⟨v5, e6, hf⟩ := Option.bind_eq_some_iff.mp hf
  refine r_gJ X I e6 lk_TrapCornerModel_418 dX12_draw_17 ?_
  refine lv_bipush (v := 33) hx hb dX12_draw_20 (by decide) ?_
  refine lv_lushr hx hb dX12_draw_22 rfl ?_
  refine lv_iload_n hx hb dX12_draw_23 rfl (lv_at hl 1 rfl) ?_
  refine lv_i2l hx hb dX12_draw_24 rfl ?_
  have c7 : ¬ (x1.toInt64) = 0 := fun z => by rw [if_pos z] at hf; cases hf
  rw [if_neg c7] at hf
  refine lv_lrem hx hb dX12_draw_25 c7 ?_
  refine lv_l2i hx hb dX12_draw_26 rfl ?_
  cases hf
  exact k_ri X I hr dX12_draw_27
def f_X12_draw (o0 : Nat) (x1 : Int32) (h : AH) : Option (Int32 × AH) := f_X12_draw_0 o0 x1 h
end
theorem c_X12_draw (l : Launch) (g : GG) (o0 : Nat) (x1 : Int32) {h : AH} {res : Int32 × AH} (hf : f_X12_draw o0 x1 h = some res) : CM l g yX12_draw cX12_draw 2 (some (.int)) 1 64 0 0 [.ref (rfG g o0), .int x1] h (some (.int res.1)) res.2 :=
  k_body (by decide) (Nat.le_of_ble_eq_true rfl) (fun p e s m below meth c R ls hR hr X I hl => w_X12_draw_0 X ⟨Nat.le_of_eq hR.1.symm, Nat.le_of_eq hR.2.1.symm⟩ hr o0 x1 h ls s.heap [] hf I (lv_sub hl [0, 1] rfl))
/-! TrapCornerModel.undo()I -/
theorem dX12_undo_0 : decode cX12_undo 0 = .ok (.aload_n 0, 1) := by decide +kernel
theorem dX12_undo_1 : decode cX12_undo 1 = .ok (.iconst 0, 1) := by decide +kernel
theorem dX12_undo_2 : decode cX12_undo 2 = .ok (.putfield 96, 3) := by decide +kernel
theorem dX12_undo_5 : decode cX12_undo 5 = .ok (.aload_n 0, 1) := by decide +kernel
theorem dX12_undo_6 : decode cX12_undo 6 = .ok (.getfield 303, 3) := by decide +kernel
theorem dX12_undo_9 : decode cX12_undo 9 = .ok (.ifCond .ne 5, 3) := by decide +kernel
theorem dX12_undo_12 : decode cX12_undo 12 = .ok (.iconst (-1), 1) := by decide +kernel
theorem dX12_undo_13 : decode cX12_undo 13 = .ok (.ireturn, 1) := by decide +kernel
theorem dX12_undo_14 : decode cX12_undo 14 = .ok (.aload_n 0, 1) := by decide +kernel
theorem dX12_undo_15 : decode cX12_undo 15 = .ok (.dup, 1) := by decide +kernel
theorem dX12_undo_16 : decode cX12_undo 16 = .ok (.getfield 303, 3) := by decide +kernel
theorem dX12_undo_19 : decode cX12_undo 19 = .ok (.iconst 1, 1) := by decide +kernel
theorem dX12_undo_20 : decode cX12_undo 20 = .ok (.isub, 1) := by decide +kernel
theorem dX12_undo_21 : decode cX12_undo 21 = .ok (.putfield 303, 3) := by decide +kernel
theorem dX12_undo_24 : decode cX12_undo 24 = .ok (.iconst 0, 1) := by decide +kernel
theorem dX12_undo_25 : decode cX12_undo 25 = .ok (.istore_n 1, 1) := by decide +kernel
theorem dX12_undo_26 : decode cX12_undo 26 = .ok (.iload_n 1, 1) := by decide +kernel
theorem dX12_undo_27 : decode cX12_undo 27 = .ok (.sipush 212, 3) := by decide +kernel
theorem dX12_undo_30 : decode cX12_undo 30 = .ok (.if_icmp .ge 30, 3) := by decide +kernel
theorem dX12_undo_33 : decode cX12_undo 33 = .ok (.aload_n 0, 1) := by decide +kernel
theorem dX12_undo_34 : decode cX12_undo 34 = .ok (.getfield 61, 3) := by decide +kernel
theorem dX12_undo_37 : decode cX12_undo 37 = .ok (.iload_n 1, 1) := by decide +kernel
theorem dX12_undo_38 : decode cX12_undo 38 = .ok (.aload_n 0, 1) := by decide +kernel
theorem dX12_undo_39 : decode cX12_undo 39 = .ok (.getfield 84, 3) := by decide +kernel
theorem dX12_undo_42 : decode cX12_undo 42 = .ok (.sipush 212, 3) := by decide +kernel
theorem dX12_undo_45 : decode cX12_undo 45 = .ok (.aload_n 0, 1) := by decide +kernel
theorem dX12_undo_46 : decode cX12_undo 46 = .ok (.getfield 303, 3) := by decide +kernel
theorem dX12_undo_49 : decode cX12_undo 49 = .ok (.imul, 1) := by decide +kernel
theorem dX12_undo_50 : decode cX12_undo 50 = .ok (.iload_n 1, 1) := by decide +kernel
theorem dX12_undo_51 : decode cX12_undo 51 = .ok (.iadd, 1) := by decide +kernel
theorem dX12_undo_52 : decode cX12_undo 52 = .ok (.iaload, 1) := by decide +kernel
theorem dX12_undo_53 : decode cX12_undo 53 = .ok (.iastore, 1) := by decide +kernel
theorem dX12_undo_54 : decode cX12_undo 54 = .ok (.iinc 1 1, 3) := by decide +kernel
theorem dX12_undo_57 : decode cX12_undo 57 = .ok (.goto (-31), 3) := by decide +kernel
theorem dX12_undo_60 : decode cX12_undo 60 = .ok (.aload_n 0, 1) := by decide +kernel
theorem dX12_undo_61 : decode cX12_undo 61 = .ok (.getfield 303, 3) := by decide +kernel
theorem dX12_undo_64 : decode cX12_undo 64 = .ok (.ireturn, 1) := by decide +kernel
section
variable {g : GG} {p : Program} {l : Launch} {e : Env} {R : Room} {s : State} {m : MethodId} {args : Array Value} {below : List Frame} {meth : Method} {c : Code} {n0 z0 : Nat}
def f_X12_undo_26  : Nat → Nat → Int32 → AH → Option (Int32 × AH)
  | 0, _, _, _ => none
  | n + 1, o0, x1, h =>
  if 212 ≤ x1 then
    (gI [12] h o0 43).bind fun v2 =>
    some (v2, h)
  else
    (gR [12] h o0 32).bind fun v4 =>
    (gR [12] h o0 42).bind fun v6 =>
    (gI [12] h o0 43).bind fun v8 =>
    (aI 0 h v6 ((212 * v8) + x1)).bind fun v10 =>
    (uI 0 h v4 x1 v10).bind fun h12 =>
    f_X12_undo_26  n o0 (x1 + 1) h12
set_option maxHeartbeats 1000000 in
theorem w_X12_undo_26 (X : Cx g p s m args meth c cX12_undo 2 "TrapCornerModel") (hR : 1 ≤ R.frames ∧ 64 ≤ R.locals) (hr : meth.sig.returnType = (some (.int))) {res : Int32 × AH} : ∀ (n : Nat) (o0 : Nat) (x1 : Int32) (h : AH) (ls : Array Slot) (H : Heap) (locs : List Loc), f_X12_undo_26 n o0 x1 h = some res → Iv g s n0 z0 h H locs 0 0 → lv_has ls 2 [(0, .ref (rfG g o0)), (1, .int x1)] → W p l e R s m args below meth c H locs 0 0 (MQ below (QG g (some (.int res.1)) res.2) args s 0 0 (AG g)) (F0 m 26 ls []) := by
  have hx := X.1
  have hb := X.2.1
  intro n
  induction n with
  | zero =>
    intro o0 x1 h ls H locs hf
    rw [f_X12_undo_26.eq_1] at hf
    cases hf
  | succ n ih =>
    intro o0 x1 h ls H locs hf I hl
    rw [f_X12_undo_26.eq_2] at hf
    refine lv_iload_n hx hb dX12_undo_26 rfl (lv_at hl 1 rfl) ?_
    refine lv_sipush (v := 212) hx hb dX12_undo_27 (by decide) ?_
    refine lv_icmp_ge (tgt := 60) hx hb dX12_undo_30 (by decide) (fun c1 => ?_) (fun c1 => ?_)
    · rw [if_pos c1] at hf
      refine lv_aload_n hx hb dX12_undo_60 rfl (lv_at hl 0 rfl) ?_
      obtain ⟨v2, e3, hf⟩ := Option.bind_eq_some_iff.mp hf
      refine r_gI X I e3 lk_TrapCornerModel_303 dX12_undo_61 ?_
      cases hf
      exact k_ri X I hr dX12_undo_64
    · rw [if_neg c1] at hf
      refine lv_aload_n hx hb dX12_undo_33 rfl (lv_at hl 0 rfl) ?_
      obtain ⟨v4, e5, hf⟩ := Option.bind_eq_some_iff.mp hf
      refine r_gR X I e5 lk_TrapCornerModel_61 dX12_undo_34 ?_
      refine lv_iload_n hx hb dX12_undo_37 rfl (lv_at hl 1 rfl) ?_
      refine lv_aload_n hx hb dX12_undo_38 rfl (lv_at hl 0 rfl) ?_
      obtain ⟨v6, e7, hf⟩ := Option.bind_eq_some_iff.mp hf
      refine r_gR X I e7 lk_TrapCornerModel_84 dX12_undo_39 ?_
      refine lv_sipush (v := 212) hx hb dX12_undo_42 (by decide) ?_
      refine lv_aload_n hx hb dX12_undo_45 rfl (lv_at hl 0 rfl) ?_
      obtain ⟨v8, e9, hf⟩ := Option.bind_eq_some_iff.mp hf
      refine r_gI X I e9 lk_TrapCornerModel_303 dX12_undo_46 ?_
      refine lv_imul hx hb dX12_undo_49 ?_
      refine lv_iload_n hx hb dX12_undo_50 rfl (lv_at hl 1 rfl) ?_
      refine lv_iadd hx hb dX12_undo_51 ?_
      obtain ⟨v10, e11, hf⟩ := Option.bind_eq_some_iff.mp hf
      refine r_aI0 X I e11 dX12_undo_52 ?_
      obtain ⟨h12, e13, hf⟩ := Option.bind_eq_some_iff.mp hf
      refine r_uI0 X I e13 dX12_undo_53 (fun H locs I => ?_)
      refine lv_iinc (v := x1 + 1) (lv' := [(1, .int (x1 + 1)), (0, .ref (rfG g o0))]) hx hb dX12_undo_54 hl (k := 1) rfl rfl (by decide) rfl (fun ls hl => ?_)
      refine lv_goto (tgt := 26) hx hb dX12_undo_57 (by decide) ?_
      exact ih o0 (x1 + 1) h12 ls H locs hf I (lv_sub hl [1, 0] rfl)
def f_X12_undo_0  (o0 : Nat) (h : AH) : Option (Int32 × AH) :=
  (pV [12] h o0 0 (.int 0)).bind fun h1 =>
  (gI [12] h1 o0 43).bind fun v3 =>
  if v3 = 0 then
    some ((-1), h1)
  else
    (gI [12] h1 o0 43).bind fun v6 =>
    (pV [12] h1 o0 43 (.int (v6 - 1))).bind fun h8 =>
    f_X12_undo_26 fu o0 0 h8
set_option maxHeartbeats 1000000 in
theorem w_X12_undo_0 (X : Cx g p s m args meth c cX12_undo 2 "TrapCornerModel") (hR : 1 ≤ R.frames ∧ 64 ≤ R.locals) (hr : meth.sig.returnType = (some (.int))) {res : Int32 × AH} : ∀ (o0 : Nat) (h : AH) (ls : Array Slot) (H : Heap) (locs : List Loc), f_X12_undo_0 o0 h = some res → Iv g s n0 z0 h H locs 0 0 → lv_has ls 2 [(0, .ref (rfG g o0))] → W p l e R s m args below meth c H locs 0 0 (MQ below (QG g (some (.int res.1)) res.2) args s 0 0 (AG g)) (F0 m 0 ls []) := by
  have hx := X.1
  have hb := X.2.1
  intro o0 h ls H locs hf I hl
  unfold f_X12_undo_0 at hf
  refine lv_aload_n hx hb dX12_undo_0 rfl (lv_at hl 0 rfl) ?_
  refine lv_iconst (v := 0) hx hb dX12_undo_1 (by decide) ?_
  obtain ⟨h1, e2, hf⟩ := Option.bind_eq_some_iff.mp hf
  refine r_pI X I e2 lp_TrapCornerModel_96 dX12_undo_2 (fun H locs I => ?_)
  refine lv_aload_n hx hb dX12_undo_5 rfl (lv_at hl 0 rfl) ?_
  obtain ⟨v3, e4, hf⟩ := Option.bind_eq_some_iff.mp hf
  refine r_gI X I e4 lk_TrapCornerModel_303 dX12_undo_6 ?_
  refine lv_if_ne (tgt := 14) hx hb dX12_undo_9 (by decide) (fun c5 => ?_) (fun c5 => ?_)
  · rw [if_neg c5] at hf
    refine lv_aload_n hx hb dX12_undo_14 rfl (lv_at hl 0 rfl) ?_
    refine lv_dup hx hb dX12_undo_15 rfl ?_
    obtain ⟨v6, e7, hf⟩ := Option.bind_eq_some_iff.mp hf
    refine r_gI X I e7 lk_TrapCornerModel_303 dX12_undo_16 ?_
    refine lv_iconst (v := 1) hx hb dX12_undo_19 (by decide) ?_
    refine lv_isub hx hb dX12_undo_20 ?_
    obtain ⟨h8, e9, hf⟩ := Option.bind_eq_some_iff.mp hf
    refine r_pI X I e9 lp_TrapCornerModel_303 dX12_undo_21 (fun H locs I => ?_)
    refine lv_iconst (v := 0) hx hb dX12_undo_24 (by decide) ?_
    refine lv_istore_n (lv' := [(1, .int 0), (0, .ref (rfG g o0))]) hx hb dX12_undo_25 rfl hl (by decide) rfl (fun ls hl => ?_)
    exact w_X12_undo_26 X hR hr fu o0 0 h8 ls H locs hf I (lv_sub hl [1, 0] rfl)
  · rw [if_pos c5] at hf
    refine lv_iconst (v := (-1)) hx hb dX12_undo_12 (by decide) ?_
    cases hf
    exact k_ri X I hr dX12_undo_13
def f_X12_undo (o0 : Nat) (h : AH) : Option (Int32 × AH) := f_X12_undo_0 o0 h
end
theorem c_X12_undo (l : Launch) (g : GG) (o0 : Nat) {h : AH} {res : Int32 × AH} (hf : f_X12_undo o0 h = some res) : CM l g yX12_undo cX12_undo 2 (some (.int)) 1 64 0 0 [.ref (rfG g o0)] h (some (.int res.1)) res.2 :=
  k_body (by decide) (Nat.le_of_ble_eq_true rfl) (fun p e s m below meth c R ls hR hr X I hl => w_X12_undo_0 X ⟨Nat.le_of_eq hR.1.symm, Nat.le_of_eq hR.2.1.symm⟩ hr o0 h ls s.heap [] hf I (lv_sub hl [0] rfl))
/-! TrapCornerModel.log(II)I -/
theorem dX12_log_0 : decode cX12_log 0 = .ok (.aload_n 0, 1) := by decide +kernel
theorem dX12_log_1 : decode cX12_log 1 = .ok (.iconst 0, 1) := by decide +kernel
theorem dX12_log_2 : decode cX12_log 2 = .ok (.putfield 96, 3) := by decide +kernel
theorem dX12_log_5 : decode cX12_log 5 = .ok (.iload_n 1, 1) := by decide +kernel
theorem dX12_log_6 : decode cX12_log 6 = .ok (.i2l, 1) := by decide +kernel
theorem dX12_log_7 : decode cX12_log 7 = .ok (.lconst 0, 1) := by decide +kernel
theorem dX12_log_8 : decode cX12_log 8 = .ok (.aload_n 0, 1) := by decide +kernel
theorem dX12_log_9 : decode cX12_log 9 = .ok (.getfield 61, 3) := by decide +kernel
theorem dX12_log_12 : decode cX12_log 12 = .ok (.bipush 31, 2) := by decide +kernel
theorem dX12_log_14 : decode cX12_log 14 = .ok (.iaload, 1) := by decide +kernel
theorem dX12_log_15 : decode cX12_log 15 = .ok (.iconst 1, 1) := by decide +kernel
theorem dX12_log_16 : decode cX12_log 16 = .ok (.isub, 1) := by decide +kernel
theorem dX12_log_17 : decode cX12_log 17 = .ok (.i2l, 1) := by decide +kernel
theorem dX12_log_18 : decode cX12_log 18 = .ok (.invokestatic 217, 3) := by decide +kernel
theorem dX12_log_21 : decode cX12_log 21 = .ok (.ifCond .eq 41, 3) := by decide +kernel
theorem dX12_log_24 : decode cX12_log 24 = .ok (.iload_n 2, 1) := by decide +kernel
theorem dX12_log_25 : decode cX12_log 25 = .ok (.i2l, 1) := by decide +kernel
theorem dX12_log_26 : decode cX12_log 26 = .ok (.lconst 0, 1) := by decide +kernel
theorem dX12_log_27 : decode cX12_log 27 = .ok (.ldc2_w 275, 3) := by decide +kernel
theorem dX12_log_30 : decode cX12_log 30 = .ok (.invokestatic 217, 3) := by decide +kernel
theorem dX12_log_33 : decode cX12_log 33 = .ok (.ifCond .eq 29, 3) := by decide +kernel
theorem dX12_log_36 : decode cX12_log 36 = .ok (.aload_n 0, 1) := by decide +kernel
theorem dX12_log_37 : decode cX12_log 37 = .ok (.getfield 61, 3) := by decide +kernel
theorem dX12_log_40 : decode cX12_log 40 = .ok (.bipush 32, 2) := by decide +kernel
theorem dX12_log_42 : decode cX12_log 42 = .ok (.iconst 3, 1) := by decide +kernel
theorem dX12_log_43 : decode cX12_log 43 = .ok (.aload_n 0, 1) := by decide +kernel
theorem dX12_log_44 : decode cX12_log 44 = .ok (.getfield 61, 3) := by decide +kernel
theorem dX12_log_47 : decode cX12_log 47 = .ok (.bipush 31, 2) := by decide +kernel
theorem dX12_log_49 : decode cX12_log 49 = .ok (.iaload, 1) := by decide +kernel
theorem dX12_log_50 : decode cX12_log 50 = .ok (.iconst 1, 1) := by decide +kernel
theorem dX12_log_51 : decode cX12_log 51 = .ok (.isub, 1) := by decide +kernel
theorem dX12_log_52 : decode cX12_log 52 = .ok (.iload_n 1, 1) := by decide +kernel
theorem dX12_log_53 : decode cX12_log 53 = .ok (.isub, 1) := by decide +kernel
theorem dX12_log_54 : decode cX12_log 54 = .ok (.imul, 1) := by decide +kernel
theorem dX12_log_55 : decode cX12_log 55 = .ok (.iadd, 1) := by decide +kernel
theorem dX12_log_56 : decode cX12_log 56 = .ok (.iload_n 2, 1) := by decide +kernel
theorem dX12_log_57 : decode cX12_log 57 = .ok (.iadd, 1) := by decide +kernel
theorem dX12_log_58 : decode cX12_log 58 = .ok (.iaload, 1) := by decide +kernel
theorem dX12_log_59 : decode cX12_log 59 = .ok (.goto 4, 3) := by decide +kernel
theorem dX12_log_62 : decode cX12_log 62 = .ok (.iconst (-1), 1) := by decide +kernel
theorem dX12_log_63 : decode cX12_log 63 = .ok (.ireturn, 1) := by decide +kernel
section
variable {g : GG} {p : Program} {l : Launch} {e : Env} {R : Room} {s : State} {m : MethodId} {args : Array Value} {below : List Frame} {meth : Method} {c : Code} {n0 z0 : Nat}
def f_X12_log_0  (o0 : Nat) (x1 : Int32) (x2 : Int32) (h : AH) : Option (Int32 × AH) :=
  (pV [12] h o0 0 (.int 0)).bind fun h1 =>
  (gR [12] h1 o0 32).bind fun v3 =>
  (aI 0 h1 v3 31).bind fun v5 =>
  cN (f_X12_isIn (x1.toInt64) 0 ((v5 - 1).toInt64) h1) h1 fun v7 h8 =>
  if v7 = 0 then
    some ((-1), h8)
  else
    cN (f_X12_isIn (x2.toInt64) 0 2 h8) h8 fun v12 h13 =>
    if v12 = 0 then
      some ((-1), h13)
    else
      (gR [12] h13 o0 32).bind fun v17 =>
      (gR [12] h13 o0 32).bind fun v19 =>
      (aI 0 h13 v19 31).bind fun v21 =>
      (aI 0 h13 v17 ((32 + (3 * ((v21 - 1) - x1))) + x2)).bind fun v23 =>
      some (v23, h13)
set_option maxHeartbeats 1000000 in
theorem w_X12_log_0 (X : Cx g p s m args meth c cX12_log 3 "TrapCornerModel") (hR : 2 ≤ R.frames ∧ 128 ≤ R.locals) (hr : meth.sig.returnType = (some (.int))) {res : Int32 × AH} : ∀ (o0 : Nat) (x1 : Int32) (x2 : Int32) (h : AH) (ls : Array Slot) (H : Heap) (locs : List Loc), f_X12_log_0 o0 x1 x2 h = some res → Iv g s n0 z0 h H locs 0 0 → lv_has ls 3 [(0, .ref (rfG g o0)), (1, .int x1), (2, .int x2)] → W p l e R s m args below meth c H locs 0 0 (MQ below (QG g (some (.int res.1)) res.2) args s 0 0 (AG g)) (F0 m 0 ls []) := by
  have hx := X.1
  have hb := X.2.1
  intro o0 x1 x2 h ls H locs hf I hl
  unfold f_X12_log_0 at hf
  refine lv_aload_n hx hb dX12_log_0 rfl (lv_at hl 0 rfl) ?_
  refine lv_iconst (v := 0) hx hb dX12_log_1 (by decide) ?_
  obtain ⟨h1, e2, hf⟩ := Option.bind_eq_some_iff.mp hf
  refine r_pI X I e2 lp_TrapCornerModel_96 dX12_log_2 (fun H locs I => ?_)
  refine lv_iload_n hx hb dX12_log_5 rfl (lv_at hl 1 rfl) ?_
  refine lv_i2l hx hb dX12_log_6 rfl ?_
  refine lv_lconst (v := 0) hx hb dX12_log_7 (by decide) ?_
  refine lv_aload_n hx hb dX12_log_8 rfl (lv_at hl 0 rfl) ?_
  obtain ⟨v3, e4, hf⟩ := Option.bind_eq_some_iff.mp hf
  refine r_gR X I e4 lk_TrapCornerModel_61 dX12_log_9 ?_
  refine lv_bipush (v := 31) hx hb dX12_log_12 (by decide) ?_
  obtain ⟨v5, e6, hf⟩ := Option.bind_eq_some_iff.mp hf
  refine r_aI0 X I e6 dX12_log_14 ?_
  refine lv_iconst (v := 1) hx hb dX12_log_15 (by decide) ?_
  refine lv_isub hx hb dX12_log_16 ?_
  refine lv_i2l hx hb dX12_log_17 rfl ?_
  obtain ⟨v7, h8, e9, z10, hf⟩ := cN_spec hf
  refine k_Si (As := [.long (x1.toInt64), .long 0, .long ((v5 - 1).toInt64)]) (rest := []) X I (c_X12_isIn l g (x1.toInt64) 0 ((v5 - 1).toInt64) e9) z10 sk_TrapCornerModel_217 tw_1465 ⟨Nat.le_trans (by decide) hR.1, Nat.le_trans (by decide) hR.2⟩ ⟨Nat.zero_le _, Nat.zero_le _⟩ rfl hl.1 rfl (Nat.le_of_ble_eq_true rfl) dX12_log_18 (fun H locs I => ?_)
  refine lv_if_eq (tgt := 62) hx hb dX12_log_21 (by decide) (fun c11 => ?_) (fun c11 => ?_)
  · rw [if_pos c11] at hf
    refine lv_iconst (v := (-1)) hx hb dX12_log_62 (by decide) ?_
    cases hf
    exact k_ri X I hr dX12_log_63
  · rw [if_neg c11] at hf
    refine lv_iload_n hx hb dX12_log_24 rfl (lv_at hl 2 rfl) ?_
    refine lv_i2l hx hb dX12_log_25 rfl ?_
    refine lv_lconst (v := 0) hx hb dX12_log_26 (by decide) ?_
    refine lv_ldc2 (v := 2) hx hb X.2.2.2.1 (X.2.2.2.2.1 _ tw_1462) dX12_log_27 ?_
    obtain ⟨v12, h13, e14, z15, hf⟩ := cN_spec hf
    refine k_Si (As := [.long (x2.toInt64), .long 0, .long 2]) (rest := []) X I (c_X12_isIn l g (x2.toInt64) 0 2 e14) z15 sk_TrapCornerModel_217 tw_1465 ⟨Nat.le_trans (by decide) hR.1, Nat.le_trans (by decide) hR.2⟩ ⟨Nat.zero_le _, Nat.zero_le _⟩ rfl hl.1 rfl (Nat.le_of_ble_eq_true rfl) dX12_log_30 (fun H locs I => ?_)
    refine lv_if_eq (tgt := 62) hx hb dX12_log_33 (by decide) (fun c16 => ?_) (fun c16 => ?_)
    · rw [if_pos c16] at hf
      refine lv_iconst (v := (-1)) hx hb dX12_log_62 (by decide) ?_
      cases hf
      exact k_ri X I hr dX12_log_63
    · rw [if_neg c16] at hf
      refine lv_aload_n hx hb dX12_log_36 rfl (lv_at hl 0 rfl) ?_
      obtain ⟨v17, e18, hf⟩ := Option.bind_eq_some_iff.mp hf
      refine r_gR X I e18 lk_TrapCornerModel_61 dX12_log_37 ?_
      refine lv_bipush (v := 32) hx hb dX12_log_40 (by decide) ?_
      refine lv_iconst (v := 3) hx hb dX12_log_42 (by decide) ?_
      refine lv_aload_n hx hb dX12_log_43 rfl (lv_at hl 0 rfl) ?_
      obtain ⟨v19, e20, hf⟩ := Option.bind_eq_some_iff.mp hf
      refine r_gR X I e20 lk_TrapCornerModel_61 dX12_log_44 ?_
      refine lv_bipush (v := 31) hx hb dX12_log_47 (by decide) ?_
      obtain ⟨v21, e22, hf⟩ := Option.bind_eq_some_iff.mp hf
      refine r_aI0 X I e22 dX12_log_49 ?_
      refine lv_iconst (v := 1) hx hb dX12_log_50 (by decide) ?_
      refine lv_isub hx hb dX12_log_51 ?_
      refine lv_iload_n hx hb dX12_log_52 rfl (lv_at hl 1 rfl) ?_
      refine lv_isub hx hb dX12_log_53 ?_
      refine lv_imul hx hb dX12_log_54 ?_
      refine lv_iadd hx hb dX12_log_55 ?_
      refine lv_iload_n hx hb dX12_log_56 rfl (lv_at hl 2 rfl) ?_
      refine lv_iadd hx hb dX12_log_57 ?_
      obtain ⟨v23, e24, hf⟩ := Option.bind_eq_some_iff.mp hf
      refine r_aI0 X I e24 dX12_log_58 ?_
      refine lv_goto (tgt := 63) hx hb dX12_log_59 (by decide) ?_
      cases hf
      exact k_ri X I hr dX12_log_63
def f_X12_log (o0 : Nat) (x1 : Int32) (x2 : Int32) (h : AH) : Option (Int32 × AH) := f_X12_log_0 o0 x1 x2 h
end
theorem c_X12_log (l : Launch) (g : GG) (o0 : Nat) (x1 : Int32) (x2 : Int32) {h : AH} {res : Int32 × AH} (hf : f_X12_log o0 x1 x2 h = some res) : CM l g yX12_log cX12_log 3 (some (.int)) 2 128 0 0 [.ref (rfG g o0), .int x1, .int x2] h (some (.int res.1)) res.2 :=
  k_body (by decide) (Nat.le_of_ble_eq_true rfl) (fun p e s m below meth c R ls hR hr X I hl => w_X12_log_0 X ⟨Nat.le_of_eq hR.1.symm, Nat.le_of_eq hR.2.1.symm⟩ hr o0 x1 x2 h ls s.heap [] hf I (lv_sub hl [0, 1, 2] rfl))
/-! TrapCornerModel.isPlan(I)Z -/
theorem dX12_isPlan_0 : decode cX12_isPlan 0 = .ok (.iload_n 1, 1) := by decide +kernel
theorem dX12_isPlan_1 : decode cX12_isPlan 1 = .ok (.ifCond .lt 15, 3) := by decide +kernel
theorem dX12_isPlan_4 : decode cX12_isPlan 4 = .ok (.iload_n 1, 1) := by decide +kernel
theorem dX12_isPlan_5 : decode cX12_isPlan 5 = .ok (.aload_n 0, 1) := by decide +kernel
theorem dX12_isPlan_6 : decode cX12_isPlan 6 = .ok (.getfield 289, 3) := by decide +kernel
theorem dX12_isPlan_9 : decode cX12_isPlan 9 = .ok (.if_icmp .ge 7, 3) := by decide +kernel
theorem dX12_isPlan_12 : decode cX12_isPlan 12 = .ok (.iconst 1, 1) := by decide +kernel
theorem dX12_isPlan_13 : decode cX12_isPlan 13 = .ok (.goto 4, 3) := by decide +kernel
theorem dX12_isPlan_16 : decode cX12_isPlan 16 = .ok (.iconst 0, 1) := by decide +kernel
theorem dX12_isPlan_17 : decode cX12_isPlan 17 = .ok (.ireturn, 1) := by decide +kernel
theorem lk_TrapCornerModel_289 : LK "TrapCornerModel" 289 [12] 30 := by
  intro ci hci
  have hci := List.mem_singleton.mp hci
  subst hci
  exact ⟨RX12, TX12, 50, "TrapCornerModel", ck_12, by decide, tw_1317, Or.inl rfl⟩
section
variable {g : GG} {p : Program} {l : Launch} {e : Env} {R : Room} {s : State} {m : MethodId} {args : Array Value} {below : List Frame} {meth : Method} {c : Code} {n0 z0 : Nat}
def f_X12_isPlan_0  (o0 : Nat) (x1 : Int32) (h : AH) : Option (Int32 × AH) :=
  if x1 < 0 then
    some (0, h)
  else
    (gI [12] h o0 30).bind fun v2 =>
    if v2 ≤ x1 then
      some (0, h)
    else
      some (1, h)
set_option maxHeartbeats 1000000 in
theorem w_X12_isPlan_0 (X : Cx g p s m args meth c cX12_isPlan 2 "TrapCornerModel") (hR : 1 ≤ R.frames ∧ 64 ≤ R.locals) (hr : meth.sig.returnType = (some (.boolean))) {res : Int32 × AH} : ∀ (o0 : Nat) (x1 : Int32) (h : AH) (ls : Array Slot) (H : Heap) (locs : List Loc), f_X12_isPlan_0 o0 x1 h = some res → Iv g s n0 z0 h H locs 0 0 → lv_has ls 2 [(0, .ref (rfG g o0)), (1, .int x1)] → W p l e R s m args below meth c H locs 0 0 (MQ below (QG g (some (.int res.1)) res.2) args s 0 0 (AG g)) (F0 m 0 ls []) := by
  have hx := X.1
  have hb := X.2.1
  intro o0 x1 h ls H locs hf I hl
  unfold f_X12_isPlan_0 at hf
  refine lv_iload_n hx hb dX12_isPlan_0 rfl (lv_at hl 1 rfl) ?_
  refine lv_if_lt (tgt := 16) hx hb dX12_isPlan_1 (by decide) (fun c1 => ?_) (fun c1 => ?_)
  · rw [if_pos c1] at hf
    refine lv_iconst (v := 0) hx hb dX12_isPlan_16 (by decide) ?_
    cases hf
    exact k_rz X I hr (Or.inl rfl) dX12_isPlan_17
  · rw [if_neg c1] at hf
    refine lv_iload_n hx hb dX12_isPlan_4 rfl (lv_at hl 1 rfl) ?_
    refine lv_aload_n hx hb dX12_isPlan_5 rfl (lv_at hl 0 rfl) ?_
    obtain ⟨v2, e3, hf⟩ := Option.bind_eq_some_iff.mp hf
    refine r_gI X I e3 lk_TrapCornerModel_289 dX12_isPlan_6 ?_
    refine lv_icmp_ge (tgt := 16) hx hb dX12_isPlan_9 (by decide) (fun c4 => ?_) (fun c4 => ?_)
    · rw [if_pos c4] at hf
      refine lv_iconst (v := 0) hx hb dX12_isPlan_16 (by decide) ?_
      cases hf
      exact k_rz X I hr (Or.inl rfl) dX12_isPlan_17
    · rw [if_neg c4] at hf
      refine lv_iconst (v := 1) hx hb dX12_isPlan_12 (by decide) ?_
      refine lv_goto (tgt := 17) hx hb dX12_isPlan_13 (by decide) ?_
      cases hf
      exact k_rz X I hr (Or.inr rfl) dX12_isPlan_17
def f_X12_isPlan (o0 : Nat) (x1 : Int32) (h : AH) : Option (Int32 × AH) := f_X12_isPlan_0 o0 x1 h
end
theorem c_X12_isPlan (l : Launch) (g : GG) (o0 : Nat) (x1 : Int32) {h : AH} {res : Int32 × AH} (hf : f_X12_isPlan o0 x1 h = some res) : CM l g yX12_isPlan cX12_isPlan 2 (some (.boolean)) 1 64 0 0 [.ref (rfG g o0), .int x1] h (some (.int res.1)) res.2 :=
  k_body (by decide) (Nat.le_of_ble_eq_true rfl) (fun p e s m below meth c R ls hR hr X I hl => w_X12_isPlan_0 X ⟨Nat.le_of_eq hR.1.symm, Nat.le_of_eq hR.2.1.symm⟩ hr o0 x1 h ls s.heap [] hf I (lv_sub hl [0, 1] rfl))
/-! TrapCornerModel.step(III)I -/
theorem dX12_step_0 : decode cX12_step 0 = .ok (.aload_n 0, 1) := by decide +kernel
theorem dX12_step_1 : decode cX12_step 1 = .ok (.iconst 0, 1) := by decide +kernel
theorem dX12_step_2 : decode cX12_step 2 = .ok (.putfield 96, 3) := by decide +kernel
theorem dX12_step_5 : decode cX12_step 5 = .ok (.aload_n 0, 1) := by decide +kernel
theorem dX12_step_6 : decode cX12_step 6 = .ok (.iload_n 1, 1) := by decide +kernel
theorem dX12_step_7 : decode cX12_step 7 = .ok (.invokevirtual 431, 3) := by decide +kernel
theorem dX12_step_10 : decode cX12_step 10 = .ok (.ifCond .eq 51, 3) := by decide +kernel
theorem dX12_step_13 : decode cX12_step 13 = .ok (.iload_n 2, 1) := by decide +kernel
theorem dX12_step_14 : decode cX12_step 14 = .ok (.i2l, 1) := by decide +kernel
theorem dX12_step_15 : decode cX12_step 15 = .ok (.lconst 0, 1) := by decide +kernel
theorem dX12_step_16 : decode cX12_step 16 = .ok (.aload_n 0, 1) := by decide +kernel
theorem dX12_step_17 : decode cX12_step 17 = .ok (.getfield 58, 3) := by decide +kernel
theorem dX12_step_20 : decode cX12_step 20 = .ok (.iload_n 1, 1) := by decide +kernel
theorem dX12_step_21 : decode cX12_step 21 = .ok (.iaload, 1) := by decide +kernel
theorem dX12_step_22 : decode cX12_step 22 = .ok (.iconst 1, 1) := by decide +kernel
theorem dX12_step_23 : decode cX12_step 23 = .ok (.isub, 1) := by decide +kernel
theorem dX12_step_24 : decode cX12_step 24 = .ok (.i2l, 1) := by decide +kernel
theorem dX12_step_25 : decode cX12_step 25 = .ok (.invokestatic 217, 3) := by decide +kernel
theorem dX12_step_28 : decode cX12_step 28 = .ok (.ifCond .eq 33, 3) := by decide +kernel
theorem dX12_step_31 : decode cX12_step 31 = .ok (.iload_n 3, 1) := by decide +kernel
theorem dX12_step_32 : decode cX12_step 32 = .ok (.i2l, 1) := by decide +kernel
theorem dX12_step_33 : decode cX12_step 33 = .ok (.lconst 0, 1) := by decide +kernel
theorem dX12_step_34 : decode cX12_step 34 = .ok (.ldc2_w 275, 3) := by decide +kernel
theorem dX12_step_37 : decode cX12_step 37 = .ok (.invokestatic 217, 3) := by decide +kernel
theorem dX12_step_40 : decode cX12_step 40 = .ok (.ifCond .eq 21, 3) := by decide +kernel
theorem dX12_step_43 : decode cX12_step 43 = .ok (.aload_n 0, 1) := by decide +kernel
theorem dX12_step_44 : decode cX12_step 44 = .ok (.getfield 55, 3) := by decide +kernel
theorem dX12_step_47 : decode cX12_step 47 = .ok (.iconst 3, 1) := by decide +kernel
theorem dX12_step_48 : decode cX12_step 48 = .ok (.bipush 16, 2) := by decide +kernel
theorem dX12_step_50 : decode cX12_step 50 = .ok (.iload_n 1, 1) := by decide +kernel
theorem dX12_step_51 : decode cX12_step 51 = .ok (.imul, 1) := by decide +kernel
theorem dX12_step_52 : decode cX12_step 52 = .ok (.iload_n 2, 1) := by decide +kernel
theorem dX12_step_53 : decode cX12_step 53 = .ok (.iadd, 1) := by decide +kernel
theorem dX12_step_54 : decode cX12_step 54 = .ok (.imul, 1) := by decide +kernel
theorem dX12_step_55 : decode cX12_step 55 = .ok (.iload_n 3, 1) := by decide +kernel
theorem dX12_step_56 : decode cX12_step 56 = .ok (.iadd, 1) := by decide +kernel
theorem dX12_step_57 : decode cX12_step 57 = .ok (.iaload, 1) := by decide +kernel
theorem dX12_step_58 : decode cX12_step 58 = .ok (.goto 6, 3) := by decide +kernel
theorem dX12_step_61 : decode cX12_step 61 = .ok (.ldc_w 434, 3) := by decide +kernel
theorem dX12_step_64 : decode cX12_step 64 = .ok (.ireturn, 1) := by decide +kernel
theorem vk_TrapCornerModel_431 : VK "TrapCornerModel" 431 [12] yX12_isPlan 1 := ⟨tw_1782, tw_1784, tw_13, ⟨by decide, by decide⟩, by decide +kernel, fun ci hci => by
  have hci := List.mem_singleton.mp hci
  subst hci
  exact ⟨_, rfl, tp_95⟩⟩
theorem lk_TrapCornerModel_58 : LK "TrapCornerModel" 58 [12] 25 := by
  intro ci hci
  have hci := List.mem_singleton.mp hci
  subst hci
  exact ⟨RX12, TX12, 50, "TrapCornerModel", ck_12, by decide, tw_1312, Or.inl rfl⟩
theorem lk_TrapCornerModel_55 : LK "TrapCornerModel" 55 [12] 24 := by
  intro ci hci
  have hci := List.mem_singleton.mp hci
  subst hci
  exact ⟨RX12, TX12, 50, "TrapCornerModel", ck_12, by decide, tw_1311, Or.inl rfl⟩
section
variable {g : GG} {p : Program} {l : Launch} {e : Env} {R : Room} {s : State} {m : MethodId} {args : Array Value} {below : List Frame} {meth : Method} {c : Code} {n0 z0 : Nat}
def f_X12_step_61  (h : AH) : Option (Int32 × AH) :=
  some ((-1000000), h)
set_option maxHeartbeats 1000000 in
theorem w_X12_step_61 (X : Cx g p s m args meth c cX12_step 4 "TrapCornerModel") (hR : 2 ≤ R.frames ∧ 128 ≤ R.locals) (hr : meth.sig.returnType = (some (.int))) {res : Int32 × AH} : ∀ (h : AH) (ls : Array Slot) (H : Heap) (locs : List Loc), f_X12_step_61  h = some res → Iv g s n0 z0 h H locs 0 0 → lv_has ls 4 [] → W p l e R s m args below meth c H locs 0 0 (MQ below (QG g (some (.int res.1)) res.2) args s 0 0 (AG g)) (F0 m 61 ls []) := by
  have hx := X.1
  have hb := X.2.1
  intro  h ls H locs hf I hl
  unfold f_X12_step_61 at hf
  refine lv_ldcw (v := (-1000000)) hx hb X.2.2.2.1 (X.2.2.2.2.1 _ tw_1786) dX12_step_61 ?_
  cases hf
  exact k_ri X I hr dX12_step_64
def f_X12_step_0  (o0 : Nat) (x1 : Int32) (x2 : Int32) (x3 : Int32) (h : AH) : Option (Int32 × AH) :=
  (pV [12] h o0 0 (.int 0)).bind fun h1 =>
  (isC [12] h1 o0).bind fun _ =>
  cN (f_X12_isPlan o0 x1 h1) h1 fun v3 h4 =>
  if v3 = 0 then
    f_X12_step_61 h4
  else
    (gR [12] h4 o0 25).bind fun v9 =>
    (aI 0 h4 v9 x1).bind fun v11 =>
    cN (f_X12_isIn (x2.toInt64) 0 ((v11 - 1).toInt64) h4) h4 fun v13 h14 =>
    if v13 = 0 then
      f_X12_step_61 h14
    else
      cN (f_X12_isIn (x3.toInt64) 0 2 h14) h14 fun v18 h19 =>
      if v18 = 0 then
        f_X12_step_61 h19
      else
        (gR [12] h19 o0 24).bind fun v23 =>
        (aI 0 h19 v23 ((3 * ((16 * x1) + x2)) + x3)).bind fun v25 =>
        some (v25, h19)
set_option maxHeartbeats 1000000 in
theorem w_X12_step_0 (X : Cx g p s m args meth c cX12_step 4 "TrapCornerModel") (hR : 2 ≤ R.frames ∧ 128 ≤ R.locals) (hr : meth.sig.returnType = (some (.int))) {res : Int32 × AH} : ∀ (o0 : Nat) (x1 : Int32) (x2 : Int32) (x3 : Int32) (h : AH) (ls : Array Slot) (H : Heap) (locs : List Loc), f_X12_step_0 o0 x1 x2 x3 h = some res → Iv g s n0 z0 h H locs 0 0 → lv_has ls 4 [(0, .ref (rfG g o0)), (1, .int x1), (2, .int x2), (3, .int x3)] → W p l e R s m args below meth c H locs 0 0 (MQ below (QG g (some (.int res.1)) res.2) args s 0 0 (AG g)) (F0 m 0 ls []) := by
  have hx := X.1
  have hb := X.2.1
  intro o0 x1 x2 x3 h ls H locs hf I hl
  unfold f_X12_step_0 at hf
  refine lv_aload_n hx hb dX12_step_0 rfl (lv_at hl 0 rfl) ?_
  refine lv_iconst (v := 0) hx hb dX12_step_1 (by decide) ?_
  obtain ⟨h1, e2, hf⟩ := Option.bind_eq_some_iff.mp hf
  refine r_pI X I e2 lp_TrapCornerModel_96 dX12_step_2 (fun H locs I => ?_)
  refine lv_aload_n hx hb dX12_step_5 rfl (lv_at hl 0 rfl) ?_
  refine lv_iload_n hx hb dX12_step_6 rfl (lv_at hl 1 rfl) ?_
  obtain ⟨_, g7, hf⟩ := Option.bind_eq_some_iff.mp hf
  obtain ⟨v3, h4, e5, z6, hf⟩ := cN_spec hf
  refine k_Vi (As := [.int x1]) (rest := []) X I (c_X12_isPlan l g o0 x1 e5) z6 g7 vk_TrapCornerModel_431 tw_1785 ⟨Nat.le_trans (by decide) hR.1, Nat.le_trans (by decide) hR.2⟩ ⟨Nat.zero_le _, Nat.zero_le _⟩ rfl hl.1 rfl (Nat.le_of_ble_eq_true rfl) dX12_step_7 (fun H locs I => ?_)
  refine lv_if_eq (tgt := 61) hx hb dX12_step_10 (by decide) (fun c8 => ?_) (fun c8 => ?_)
  · rw [if_pos c8] at hf
    exact w_X12_step_61 X hR hr  h4 ls H locs hf I (lv_sub hl [] rfl)
  · rw [if_neg c8] at hf
    refine lv_iload_n hx hb dX12_step_13 rfl (lv_at hl 2 rfl) ?_
    refine lv_i2l hx hb dX12_step_14 rfl ?_
    refine lv_lconst (v := 0) hx hb dX12_step_15 (by decide) ?_
    refine lv_aload_n hx hb dX12_step_16 rfl (lv_at hl 0 rfl) ?_
    obtain ⟨v9, e10, hf⟩ := Option.bind_eq_some_iff.mp hf
    refine r_gR X I e10 lk_TrapCornerModel_58 dX12_step_17 ?_
    refine lv_iload_n hx hb dX12_step_20 rfl (lv_at hl 1 rfl) ?_
    obtain ⟨v11, e12, hf⟩ := Option.bind_eq_some_iff.mp hf
    refine r_aI0 X I e12 dX12_step_21 ?_
    refine lv_iconst (v := 1) hx hb dX12_step_22 (by decide) ?_
    refine lv_isub hx hb dX12_step_23 ?_
    refine lv_i2l hx hb dX12_step_24 rfl ?_
    obtain ⟨v13, h14, e15, z16, hf⟩ := cN_spec hf
    refine k_Si (As := [.long (x2.toInt64), .long 0, .long ((v11 - 1).toInt64)]) (rest := []) X I (c_X12_isIn l g (x2.toInt64) 0 ((v11 - 1).toInt64) e15) z16 sk_TrapCornerModel_217 tw_1465 ⟨Nat.le_trans (by decide) hR.1, Nat.le_trans (by decide) hR.2⟩ ⟨Nat.zero_le _, Nat.zero_le _⟩ rfl hl.1 rfl (Nat.le_of_ble_eq_true rfl) dX12_step_25 (fun H locs I => ?_)
    refine lv_if_eq (tgt := 61) hx hb dX12_step_28 (by decide) (fun c17 => ?_) (fun c17 => ?_)
    · rw [if_pos c17] at hf
      exact w_X12_step_61 X hR hr  h14 ls H locs hf I (lv_sub hl [] rfl)
    · rw [if_neg c17] at hf
      refine lv_iload_n hx hb dX12_step_31 rfl (lv_at hl 3 rfl) ?_
      refine lv_i2l hx hb dX12_step_32 rfl ?_
      refine lv_lconst (v := 0) hx hb dX12_step_33 (by decide) ?_
      refine lv_ldc2 (v := 2) hx hb X.2.2.2.1 (X.2.2.2.2.1 _ tw_1462) dX12_step_34 ?_
      obtain ⟨v18, h19, e20, z21, hf⟩ := cN_spec hf
      refine k_Si (As := [.long (x3.toInt64), .long 0, .long 2]) (rest := []) X I (c_X12_isIn l g (x3.toInt64) 0 2 e20) z21 sk_TrapCornerModel_217 tw_1465 ⟨Nat.le_trans (by decide) hR.1, Nat.le_trans (by decide) hR.2⟩ ⟨Nat.zero_le _, Nat.zero_le _⟩ rfl hl.1 rfl (Nat.le_of_ble_eq_true rfl) dX12_step_37 (fun H locs I => ?_)
      refine lv_if_eq (tgt := 61) hx hb dX12_step_40 (by decide) (fun c22 => ?_) (fun c22 => ?_)
      · rw [if_pos c22] at hf
        exact w_X12_step_61 X hR hr  h19 ls H locs hf I (lv_sub hl [] rfl)
      · rw [if_neg c22] at hf
        refine lv_aload_n hx hb dX12_step_43 rfl (lv_at hl 0 rfl) ?_
        obtain ⟨v23, e24, hf⟩ := Option.bind_eq_some_iff.mp hf
        refine r_gR X I e24 lk_TrapCornerModel_55 dX12_step_44 ?_
        refine lv_iconst (v := 3) hx hb dX12_step_47 (by decide) ?_
        refine lv_bipush (v := 16) hx hb dX12_step_48 (by decide) ?_
        refine lv_iload_n hx hb dX12_step_50 rfl (lv_at hl 1 rfl) ?_
        refine lv_imul hx hb dX12_step_51 ?_
        refine lv_iload_n hx hb dX12_step_52 rfl (lv_at hl 2 rfl) ?_
        refine lv_iadd hx hb dX12_step_53 ?_
        refine lv_imul hx hb dX12_step_54 ?_
        refine lv_iload_n hx hb dX12_step_55 rfl (lv_at hl 3 rfl) ?_
        refine lv_iadd hx hb dX12_step_56 ?_
        obtain ⟨v25, e26, hf⟩ := Option.bind_eq_some_iff.mp hf
        refine r_aI0 X I e26 dX12_step_57 ?_
        refine lv_goto (tgt := 64) hx hb dX12_step_58 (by decide) ?_
        cases hf
        exact k_ri X I hr dX12_step_64
def f_X12_step (o0 : Nat) (x1 : Int32) (x2 : Int32) (x3 : Int32) (h : AH) : Option (Int32 × AH) := f_X12_step_0 o0 x1 x2 x3 h
end
theorem c_X12_step (l : Launch) (g : GG) (o0 : Nat) (x1 : Int32) (x2 : Int32) (x3 : Int32) {h : AH} {res : Int32 × AH} (hf : f_X12_step o0 x1 x2 x3 h = some res) : CM l g yX12_step cX12_step 4 (some (.int)) 2 128 0 0 [.ref (rfG g o0), .int x1, .int x2, .int x3] h (some (.int res.1)) res.2 :=
  k_body (by decide) (Nat.le_of_ble_eq_true rfl) (fun p e s m below meth c R ls hR hr X I hl => w_X12_step_0 X ⟨Nat.le_of_eq hR.1.symm, Nat.le_of_eq hR.2.1.symm⟩ hr o0 x1 x2 x3 h ls s.heap [] hf I (lv_sub hl [0, 1, 2, 3] rfl))
/-! TrapCornerModel.canStep([II)Z -/
theorem dX12_canStep_0 : decode cX12_canStep 0 = .ok (.aload_n 0, 1) := by decide +kernel
theorem dX12_canStep_1 : decode cX12_canStep 1 = .ok (.getfield 55, 3) := by decide +kernel
theorem dX12_canStep_4 : decode cX12_canStep 4 = .ok (.iload_n 2, 1) := by decide +kernel
theorem dX12_canStep_5 : decode cX12_canStep 5 = .ok (.iaload, 1) := by decide +kernel
theorem dX12_canStep_6 : decode cX12_canStep 6 = .ok (.tableswitch 78 0 2 #[26, 42, 64], 26) := by decide +kernel
theorem dX12_canStep_32 : decode cX12_canStep 32 = .ok (.aload_n 1, 1) := by decide +kernel
theorem dX12_canStep_33 : decode cX12_canStep 33 = .ok (.bipush 30, 2) := by decide +kernel
theorem dX12_canStep_35 : decode cX12_canStep 35 = .ok (.iaload, 1) := by decide +kernel
theorem dX12_canStep_36 : decode cX12_canStep 36 = .ok (.sipush 999, 3) := by decide +kernel
theorem dX12_canStep_39 : decode cX12_canStep 39 = .ok (.if_icmp .ge 7, 3) := by decide +kernel
theorem dX12_canStep_42 : decode cX12_canStep 42 = .ok (.iconst 1, 1) := by decide +kernel
theorem dX12_canStep_43 : decode cX12_canStep 43 = .ok (.goto 4, 3) := by decide +kernel
theorem dX12_canStep_46 : decode cX12_canStep 46 = .ok (.iconst 0, 1) := by decide +kernel
theorem dX12_canStep_47 : decode cX12_canStep 47 = .ok (.ireturn, 1) := by decide +kernel
theorem dX12_canStep_48 : decode cX12_canStep 48 = .ok (.aload_n 0, 1) := by decide +kernel
theorem dX12_canStep_49 : decode cX12_canStep 49 = .ok (.aload_n 1, 1) := by decide +kernel
theorem dX12_canStep_50 : decode cX12_canStep 50 = .ok (.aload_n 0, 1) := by decide +kernel
theorem dX12_canStep_51 : decode cX12_canStep 51 = .ok (.getfield 55, 3) := by decide +kernel
theorem dX12_canStep_54 : decode cX12_canStep 54 = .ok (.iload_n 2, 1) := by decide +kernel
theorem dX12_canStep_55 : decode cX12_canStep 55 = .ok (.iconst 1, 1) := by decide +kernel
theorem dX12_canStep_56 : decode cX12_canStep 56 = .ok (.iadd, 1) := by decide +kernel
theorem dX12_canStep_57 : decode cX12_canStep 57 = .ok (.iaload, 1) := by decide +kernel
theorem dX12_canStep_58 : decode cX12_canStep 58 = .ok (.aload_n 0, 1) := by decide +kernel
theorem dX12_canStep_59 : decode cX12_canStep 59 = .ok (.getfield 55, 3) := by decide +kernel
theorem dX12_canStep_62 : decode cX12_canStep 62 = .ok (.iload_n 2, 1) := by decide +kernel
theorem dX12_canStep_63 : decode cX12_canStep 63 = .ok (.iconst 2, 1) := by decide +kernel
theorem dX12_canStep_64 : decode cX12_canStep 64 = .ok (.iadd, 1) := by decide +kernel
theorem dX12_canStep_65 : decode cX12_canStep 65 = .ok (.iaload, 1) := by decide +kernel
theorem dX12_canStep_66 : decode cX12_canStep 66 = .ok (.invokevirtual 400, 3) := by decide +kernel
theorem dX12_canStep_69 : decode cX12_canStep 69 = .ok (.ireturn, 1) := by decide +kernel
theorem dX12_canStep_70 : decode cX12_canStep 70 = .ok (.aload_n 0, 1) := by decide +kernel
theorem dX12_canStep_71 : decode cX12_canStep 71 = .ok (.aload_n 1, 1) := by decide +kernel
theorem dX12_canStep_72 : decode cX12_canStep 72 = .ok (.aload_n 0, 1) := by decide +kernel
theorem dX12_canStep_73 : decode cX12_canStep 73 = .ok (.getfield 55, 3) := by decide +kernel
theorem dX12_canStep_76 : decode cX12_canStep 76 = .ok (.iload_n 2, 1) := by decide +kernel
theorem dX12_canStep_77 : decode cX12_canStep 77 = .ok (.iconst 1, 1) := by decide +kernel
theorem dX12_canStep_78 : decode cX12_canStep 78 = .ok (.iadd, 1) := by decide +kernel
theorem dX12_canStep_79 : decode cX12_canStep 79 = .ok (.iaload, 1) := by decide +kernel
theorem dX12_canStep_80 : decode cX12_canStep 80 = .ok (.invokevirtual 407, 3) := by decide +kernel
theorem dX12_canStep_83 : decode cX12_canStep 83 = .ok (.ireturn, 1) := by decide +kernel
theorem dX12_canStep_84 : decode cX12_canStep 84 = .ok (.aload_n 0, 1) := by decide +kernel
theorem dX12_canStep_85 : decode cX12_canStep 85 = .ok (.aload_n 0, 1) := by decide +kernel
theorem dX12_canStep_86 : decode cX12_canStep 86 = .ok (.getfield 55, 3) := by decide +kernel
theorem dX12_canStep_89 : decode cX12_canStep 89 = .ok (.iload_n 2, 1) := by decide +kernel
theorem dX12_canStep_90 : decode cX12_canStep 90 = .ok (.iconst 1, 1) := by decide +kernel
theorem dX12_canStep_91 : decode cX12_canStep 91 = .ok (.iadd, 1) := by decide +kernel
theorem dX12_canStep_92 : decode cX12_canStep 92 = .ok (.iaload, 1) := by decide +kernel
theorem dX12_canStep_93 : decode cX12_canStep 93 = .ok (.invokevirtual 383, 3) := by decide +kernel
theorem dX12_canStep_96 : decode cX12_canStep 96 = .ok (.ireturn, 1) := by decide +kernel
section
variable {g : GG} {p : Program} {l : Launch} {e : Env} {R : Room} {s : State} {m : MethodId} {args : Array Value} {below : List Frame} {meth : Method} {c : Code} {n0 z0 : Nat}
def f_X12_canStep_0  (o0 : Nat) (o1 : Nat) (x2 : Int32) (h : AH) : Option (Int32 × AH) :=
  (gR [12] h o0 24).bind fun v1 =>
  (aI 0 h v1 x2).bind fun v3 =>
  if v3 = 0 then
    (aI 0 h o1 30).bind fun v6 =>
    if 999 ≤ v6 then
      some (0, h)
    else
      some (1, h)
  else
    if v3 = 1 then
      (gR [12] h o0 24).bind fun v10 =>
      (aI 0 h v10 (x2 + 1)).bind fun v12 =>
      (gR [12] h o0 24).bind fun v14 =>
      (aI 0 h v14 (x2 + 2)).bind fun v16 =>
      (isC [12] h o0).bind fun _ =>
      cN (f_X12_canLay o0 o1 v12 v16 h) h fun v18 h19 =>
      rZ v18 h19
    else
      if v3 = 2 then
        (gR [12] h o0 24).bind fun v24 =>
        (aI 0 h v24 (x2 + 1)).bind fun v26 =>
        (isC [12] h o0).bind fun _ =>
        cN (f_X12_canRenew o0 o1 v26 h) h fun v28 h29 =>
        rZ v28 h29
      else
        (gR [12] h o0 24).bind fun v33 =>
        (aI 0 h v33 (x2 + 1)).bind fun v35 =>
        (isC [12] h o0).bind fun _ =>
        cN (f_X12_isPerson o0 v35 h) h fun v37 h38 =>
        rZ v37 h38
set_option maxHeartbeats 1000000 in
theorem w_X12_canStep_0 (X : Cx g p s m args meth c cX12_canStep 3 "TrapCornerModel") (hR : 3 ≤ R.frames ∧ 192 ≤ R.locals) (hr : meth.sig.returnType = (some (.boolean))) {res : Int32 × AH} : ∀ (o0 : Nat) (o1 : Nat) (x2 : Int32) (h : AH) (ls : Array Slot) (H : Heap) (locs : List Loc), f_X12_canStep_0 o0 o1 x2 h = some res → Iv g s n0 z0 h H locs 0 0 → lv_has ls 3 [(0, .ref (rfG g o0)), (1, .ref (rfG g o1)), (2, .int x2)] → W p l e R s m args below meth c H locs 0 0 (MQ below (QG g (some (.int res.1)) res.2) args s 0 0 (AG g)) (F0 m 0 ls []) := by
  have hx := X.1
  have hb := X.2.1
  intro o0 o1 x2 h ls H locs hf I hl
  unfold f_X12_canStep_0 at hf
  refine lv_aload_n hx hb dX12_canStep_0 rfl (lv_at hl 0 rfl) ?_
  obtain ⟨v1, e2, hf⟩ := Option.bind_eq_some_iff.mp hf
  refine r_gR X I e2 lk_TrapCornerModel_55 dX12_canStep_1 ?_
  refine lv_iload_n hx hb dX12_canStep_4 rfl (lv_at hl 2 rfl) ?_
  obtain ⟨v3, e4, hf⟩ := Option.bind_eq_some_iff.mp hf
  refine r_aI0 X I e4 dX12_canStep_5 ?_
  by_cases c5 : v3 = 0
  · rw [if_pos c5] at hf
    refine lv_tableIn (tgt := 32) hx hb dX12_canStep_6 (by rw [c5]; decide) (by rw [c5]; decide) (by rw [c5]; rfl) (by decide) ?_
    refine lv_aload_n hx hb dX12_canStep_32 rfl (lv_at hl 1 rfl) ?_
    refine lv_bipush (v := 30) hx hb dX12_canStep_33 (by decide) ?_
    obtain ⟨v6, e7, hf⟩ := Option.bind_eq_some_iff.mp hf
    refine r_aI0 X I e7 dX12_canStep_35 ?_
    refine lv_sipush (v := 999) hx hb dX12_canStep_36 (by decide) ?_
    refine lv_icmp_ge (tgt := 46) hx hb dX12_canStep_39 (by decide) (fun c8 => ?_) (fun c8 => ?_)
    · rw [if_pos c8] at hf
      refine lv_iconst (v := 0) hx hb dX12_canStep_46 (by decide) ?_
      cases hf
      exact k_rz X I hr (Or.inl rfl) dX12_canStep_47
    · rw [if_neg c8] at hf
      refine lv_iconst (v := 1) hx hb dX12_canStep_42 (by decide) ?_
      refine lv_goto (tgt := 47) hx hb dX12_canStep_43 (by decide) ?_
      cases hf
      exact k_rz X I hr (Or.inr rfl) dX12_canStep_47
  · rw [if_neg c5] at hf
    by_cases c9 : v3 = 1
    · rw [if_pos c9] at hf
      refine lv_tableIn (tgt := 48) hx hb dX12_canStep_6 (by rw [c9]; decide) (by rw [c9]; decide) (by rw [c9]; rfl) (by decide) ?_
      refine lv_aload_n hx hb dX12_canStep_48 rfl (lv_at hl 0 rfl) ?_
      refine lv_aload_n hx hb dX12_canStep_49 rfl (lv_at hl 1 rfl) ?_
      refine lv_aload_n hx hb dX12_canStep_50 rfl (lv_at hl 0 rfl) ?_
      obtain ⟨v10, e11, hf⟩ := Option.bind_eq_some_iff.mp hf
      refine r_gR X I e11 lk_TrapCornerModel_55 dX12_canStep_51 ?_
      refine lv_iload_n hx hb dX12_canStep_54 rfl (lv_at hl 2 rfl) ?_
      refine lv_iconst (v := 1) hx hb dX12_canStep_55 (by decide) ?_
      refine lv_iadd hx hb dX12_canStep_56 ?_
      obtain ⟨v12, e13, hf⟩ := Option.bind_eq_some_iff.mp hf
      refine r_aI0 X I e13 dX12_canStep_57 ?_
      refine lv_aload_n hx hb dX12_canStep_58 rfl (lv_at hl 0 rfl) ?_
      obtain ⟨v14, e15, hf⟩ := Option.bind_eq_some_iff.mp hf
      refine r_gR X I e15 lk_TrapCornerModel_55 dX12_canStep_59 ?_
      refine lv_iload_n hx hb dX12_canStep_62 rfl (lv_at hl 2 rfl) ?_
      refine lv_iconst (v := 2) hx hb dX12_canStep_63 (by decide) ?_
      refine lv_iadd hx hb dX12_canStep_64 ?_
      obtain ⟨v16, e17, hf⟩ := Option.bind_eq_some_iff.mp hf
      refine r_aI0 X I e17 dX12_canStep_65 ?_
      obtain ⟨_, g22, hf⟩ := Option.bind_eq_some_iff.mp hf
      obtain ⟨v18, h19, e20, z21, hf⟩ := cN_spec hf
      refine k_Vi (As := [.ref (rfG g o1), .int v12, .int v16]) (rest := []) X I (c_X12_canLay l g o0 o1 v12 v16 e20) z21 g22 vk_TrapCornerModel_400 tw_1727 ⟨Nat.le_trans (by decide) hR.1, Nat.le_trans (by decide) hR.2⟩ ⟨Nat.zero_le _, Nat.zero_le _⟩ rfl hl.1 rfl (Nat.le_of_ble_eq_true rfl) dX12_canStep_66 (fun H locs I => ?_)
      obtain ⟨hz, rfl⟩ := rZ_spec hf
      exact k_rz X I hr hz dX12_canStep_69
    · rw [if_neg c9] at hf
      by_cases c23 : v3 = 2
      · rw [if_pos c23] at hf
        refine lv_tableIn (tgt := 70) hx hb dX12_canStep_6 (by rw [c23]; decide) (by rw [c23]; decide) (by rw [c23]; rfl) (by decide) ?_
        refine lv_aload_n hx hb dX12_canStep_70 rfl (lv_at hl 0 rfl) ?_
        refine lv_aload_n hx hb dX12_canStep_71 rfl (lv_at hl 1 rfl) ?_
        refine lv_aload_n hx hb dX12_canStep_72 rfl (lv_at hl 0 rfl) ?_
        obtain ⟨v24, e25, hf⟩ := Option.bind_eq_some_iff.mp hf
        refine r_gR X I e25 lk_TrapCornerModel_55 dX12_canStep_73 ?_
        refine lv_iload_n hx hb dX12_canStep_76 rfl (lv_at hl 2 rfl) ?_
        refine lv_iconst (v := 1) hx hb dX12_canStep_77 (by decide) ?_
        refine lv_iadd hx hb dX12_canStep_78 ?_
        obtain ⟨v26, e27, hf⟩ := Option.bind_eq_some_iff.mp hf
        refine r_aI0 X I e27 dX12_canStep_79 ?_
        obtain ⟨_, g32, hf⟩ := Option.bind_eq_some_iff.mp hf
        obtain ⟨v28, h29, e30, z31, hf⟩ := cN_spec hf
        refine k_Vi (As := [.ref (rfG g o1), .int v26]) (rest := []) X I (c_X12_canRenew l g o0 o1 v26 e30) z31 g32 vk_TrapCornerModel_407 tw_1739 ⟨Nat.le_trans (by decide) hR.1, Nat.le_trans (by decide) hR.2⟩ ⟨Nat.zero_le _, Nat.zero_le _⟩ rfl hl.1 rfl (Nat.le_of_ble_eq_true rfl) dX12_canStep_80 (fun H locs I => ?_)
        obtain ⟨hz, rfl⟩ := rZ_spec hf
        exact k_rz X I hr hz dX12_canStep_83
      · rw [if_neg c23] at hf
        refine lv_tableOut (tgt := 84) hx hb dX12_canStep_6 (sw_out (fun k k1 k2 => by rcases (show k = 0 ∨ k = 1 ∨ k = 2 by omega) with rfl | rfl | rfl <;> assumption)) (by decide) ?_
        refine lv_aload_n hx hb dX12_canStep_84 rfl (lv_at hl 0 rfl) ?_
        refine lv_aload_n hx hb dX12_canStep_85 rfl (lv_at hl 0 rfl) ?_
        obtain ⟨v33, e34, hf⟩ := Option.bind_eq_some_iff.mp hf
        refine r_gR X I e34 lk_TrapCornerModel_55 dX12_canStep_86 ?_
        refine lv_iload_n hx hb dX12_canStep_89 rfl (lv_at hl 2 rfl) ?_
        refine lv_iconst (v := 1) hx hb dX12_canStep_90 (by decide) ?_
        refine lv_iadd hx hb dX12_canStep_91 ?_
        obtain ⟨v35, e36, hf⟩ := Option.bind_eq_some_iff.mp hf
        refine r_aI0 X I e36 dX12_canStep_92 ?_
        obtain ⟨_, g41, hf⟩ := Option.bind_eq_some_iff.mp hf
        obtain ⟨v37, h38, e39, z40, hf⟩ := cN_spec hf
        refine k_Vi (As := [.int v35]) (rest := []) X I (c_X12_isPerson l g o0 v35 e39) z40 g41 vk_TrapCornerModel_383 tw_1643 ⟨Nat.le_trans (by decide) hR.1, Nat.le_trans (by decide) hR.2⟩ ⟨Nat.zero_le _, Nat.zero_le _⟩ rfl hl.1 rfl (Nat.le_of_ble_eq_true rfl) dX12_canStep_93 (fun H locs I => ?_)
        obtain ⟨hz, rfl⟩ := rZ_spec hf
        exact k_rz X I hr hz dX12_canStep_96
def f_X12_canStep (o0 : Nat) (o1 : Nat) (x2 : Int32) (h : AH) : Option (Int32 × AH) := f_X12_canStep_0 o0 o1 x2 h
end
theorem c_X12_canStep (l : Launch) (g : GG) (o0 : Nat) (o1 : Nat) (x2 : Int32) {h : AH} {res : Int32 × AH} (hf : f_X12_canStep o0 o1 x2 h = some res) : CM l g yX12_canStep cX12_canStep 3 (some (.boolean)) 3 192 0 0 [.ref (rfG g o0), .ref (rfG g o1), .int x2] h (some (.int res.1)) res.2 :=
  k_body (by decide) (Nat.le_of_ble_eq_true rfl) (fun p e s m below meth c R ls hR hr X I hl => w_X12_canStep_0 X ⟨Nat.le_of_eq hR.1.symm, Nat.le_of_eq hR.2.1.symm⟩ hr o0 o1 x2 h ls s.heap [] hf I (lv_sub hl [0, 1, 2] rfl))
