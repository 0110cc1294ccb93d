/-! TrapCornerModel.fault(I)I -/
theorem dX12_fault_0 : decode cX12_fault 0 = .ok (.aload_n 0, 1) := by decide +kernel
theorem dX12_fault_1 : decode cX12_fault 1 = .ok (.iconst 0, 1) := by decide +kernel
theorem dX12_fault_2 : decode cX12_fault 2 = .ok (.putfield 96, 3) := by decide +kernel
theorem dX12_fault_5 : decode cX12_fault 5 = .ok (.iload_n 1, 1) := by decide +kernel
theorem dX12_fault_6 : decode cX12_fault 6 = .ok (.i2l, 1) := by decide +kernel
theorem dX12_fault_7 : decode cX12_fault 7 = .ok (.lconst 0, 1) := by decide +kernel
theorem dX12_fault_8 : decode cX12_fault 8 = .ok (.ldc2_w 275, 3) := by decide +kernel
theorem dX12_fault_11 : decode cX12_fault 11 = .ok (.invokestatic 217, 3) := by decide +kernel
theorem dX12_fault_14 : decode cX12_fault 14 = .ok (.ifCond .ne 6, 3) := by decide +kernel
theorem dX12_fault_17 : decode cX12_fault 17 = .ok (.bipush (-2), 2) := by decide +kernel
theorem dX12_fault_19 : decode cX12_fault 19 = .ok (.ireturn, 1) := by decide +kernel
theorem dX12_fault_20 : decode cX12_fault 20 = .ok (.iload_n 1, 1) := by decide +kernel
theorem dX12_fault_21 : decode cX12_fault 21 = .ok (.ifCond .ne 7, 3) := by decide +kernel
theorem dX12_fault_24 : decode cX12_fault 24 = .ok (.aload_n 0, 1) := by decide +kernel
theorem dX12_fault_25 : decode cX12_fault 25 = .ok (.invokevirtual 277, 3) := by decide +kernel
theorem dX12_fault_28 : decode cX12_fault 28 = .ok (.iload_n 1, 1) := by decide +kernel
theorem dX12_fault_29 : decode cX12_fault 29 = .ok (.iconst 1, 1) := by decide +kernel
theorem dX12_fault_30 : decode cX12_fault 30 = .ok (.if_icmp .ne 16, 3) := by decide +kernel
theorem dX12_fault_33 : decode cX12_fault 33 = .ok (.aload_n 0, 1) := by decide +kernel
theorem dX12_fault_34 : decode cX12_fault 34 = .ok (.aload_n 0, 1) := by decide +kernel
theorem dX12_fault_35 : decode cX12_fault 35 = .ok (.getfield 9, 3) := by decide +kernel
theorem dX12_fault_38 : decode cX12_fault 38 = .ok (.iconst 0, 1) := by decide +kernel
theorem dX12_fault_39 : decode cX12_fault 39 = .ok (.aload_n 0, 1) := by decide +kernel
theorem dX12_fault_40 : decode cX12_fault 40 = .ok (.getfield 109, 3) := by decide +kernel
theorem dX12_fault_43 : decode cX12_fault 43 = .ok (.invokevirtual 280, 3) := by decide +kernel
theorem dX12_fault_46 : decode cX12_fault 46 = .ok (.iload_n 1, 1) := by decide +kernel
theorem dX12_fault_47 : decode cX12_fault 47 = .ok (.iconst 2, 1) := by decide +kernel
theorem dX12_fault_48 : decode cX12_fault 48 = .ok (.if_icmp .ne 7, 3) := by decide +kernel
theorem dX12_fault_51 : decode cX12_fault 51 = .ok (.aload_n 0, 1) := by decide +kernel
theorem dX12_fault_52 : decode cX12_fault 52 = .ok (.invokevirtual 283, 3) := by decide +kernel
theorem dX12_fault_55 : decode cX12_fault 55 = .ok (.aload_n 0, 1) := by decide +kernel
theorem dX12_fault_56 : decode cX12_fault 56 = .ok (.getfield 128, 3) := by decide +kernel
theorem dX12_fault_59 : decode cX12_fault 59 = .ok (.ireturn, 1) := by decide +kernel
theorem vk_TrapCornerModel_283 : VK "TrapCornerModel" 283 [12] yX12_readPlan 0 := ⟨tw_1606, tw_1608, tw_13, ⟨by decide, by decide⟩, by decide +kernel, fun ci hci => by
  have hci := List.mem_singleton.mp hci
  subst hci
  exact ⟨_, rfl, tp_74⟩⟩
theorem vk_TrapCornerModel_280 : VK "TrapCornerModel" 280 [12] yX12_goThrough 3 := ⟨tw_1545, tw_1547, tw_13, ⟨by decide, by decide⟩, by decide +kernel, fun ci hci => by
  have hci := List.mem_singleton.mp hci
  subst hci
  exact ⟨_, rfl, tp_63⟩⟩
theorem vk_TrapCornerModel_277 : VK "TrapCornerModel" 277 [12] yX12_readCity 0 := ⟨tw_1466, tw_1468, tw_13, ⟨by decide, by decide⟩, by decide +kernel, fun ci hci => by
  have hci := List.mem_singleton.mp hci
  subst hci
  exact ⟨_, rfl, tp_53⟩⟩
section
variable {g : GG} {p : Program} {l : Launch} {e : Env} {R : Room} {s : State} {m : MethodId} {args : Array Value} {below : List Frame} {meth : Method} {c : Code} {n0 z0 : Nat}
def f_X12_fault_55  (o0 : Nat) (h : AH) : Option (Int32 × AH) :=
  (gI [12] h o0 11).bind fun v1 =>
  some (v1, h)
set_option maxHeartbeats 1000000 in
theorem w_X12_fault_55 (X : Cx g p s m args meth c cX12_fault 2 "TrapCornerModel") (hR : 88 ≤ R.frames ∧ 5632 ≤ R.locals) (hr : meth.sig.returnType = (some (.int))) {res : Int32 × AH} : ∀ (o0 : Nat) (h : AH) (ls : Array Slot) (H : Heap) (locs : List Loc), f_X12_fault_55 o0 h = some res → Iv g s n0 z0 h H locs 0 0 → lv_has ls 2 [(0, .ref (rfG g o0))] → W p l e R s m args below meth c H locs 0 0 (MQ below (QG g (some (.int res.1)) res.2) args s 0 0 (AG g)) (F0 m 55 ls []) := by
  have hx := X.1
  have hb := X.2.1
  intro o0 h ls H locs hf I hl
  unfold f_X12_fault_55 at hf
  refine lv_aload_n hx hb dX12_fault_55 rfl (lv_at hl 0 rfl) ?_
  obtain ⟨v1, e2, hf⟩ := Option.bind_eq_some_iff.mp hf
  refine r_gI X I e2 lk_TrapCornerModel_128 dX12_fault_56 ?_
  cases hf
  exact k_ri X I hr dX12_fault_59
def f_X12_fault_46  (o0 : Nat) (x1 : Int32) (h : AH) : Option (Int32 × AH) :=
  if x1 = 2 then
    (isC [12] h o0).bind fun _ =>
    cN (f_X12_readPlan o0 h) h fun _ h3 =>
    f_X12_fault_55 o0 h3
  else
    f_X12_fault_55 o0 h
set_option maxHeartbeats 1000000 in
theorem w_X12_fault_46 (X : Cx g p s m args meth c cX12_fault 2 "TrapCornerModel") (hR : 88 ≤ R.frames ∧ 5632 ≤ R.locals) (hr : meth.sig.returnType = (some (.int))) {res : Int32 × AH} : ∀ (o0 : Nat) (x1 : Int32) (h : AH) (ls : Array Slot) (H : Heap) (locs : List Loc), f_X12_fault_46 o0 x1 h = some res → Iv g s n0 z0 h H locs 0 0 → lv_has ls 2 [(0, .ref (rfG g o0)), (1, .int x1)] → W p l e R s m args below meth c H locs 0 0 (MQ below (QG g (some (.int res.1)) res.2) args s 0 0 (AG g)) (F0 m 46 ls []) := by
  have hx := X.1
  have hb := X.2.1
  intro o0 x1 h ls H locs hf I hl
  unfold f_X12_fault_46 at hf
  refine lv_iload_n hx hb dX12_fault_46 rfl (lv_at hl 1 rfl) ?_
  refine lv_iconst (v := 2) hx hb dX12_fault_47 (by decide) ?_
  refine lv_icmp_ne (tgt := 55) hx hb dX12_fault_48 (by decide) (fun c1 => ?_) (fun c1 => ?_)
  · rw [if_neg c1] at hf
    exact w_X12_fault_55 X hR hr  o0 h ls H locs hf I (lv_sub hl [0] rfl)
  · rw [if_pos c1] at hf
    refine lv_aload_n hx hb dX12_fault_51 rfl (lv_at hl 0 rfl) ?_
    obtain ⟨_, g6, hf⟩ := Option.bind_eq_some_iff.mp hf
    obtain ⟨⟨⟩, h3, e4, z5, hf⟩ := cN_spec hf
    refine k_Vv (As := []) (rest := []) X I (c_X12_readPlan l g o0 e4) z5 g6 vk_TrapCornerModel_283 tw_1609 ⟨Nat.le_trans (by decide) hR.1, Nat.le_trans (by decide) hR.2⟩ ⟨Nat.zero_le _, Nat.zero_le _⟩ rfl hl.1 rfl (Nat.le_of_ble_eq_true rfl) dX12_fault_52 (fun H locs I => ?_)
    exact w_X12_fault_55 X hR hr  o0 h3 ls H locs hf I (lv_sub hl [0] rfl)
def f_X12_fault_28  (o0 : Nat) (x1 : Int32) (h : AH) : Option (Int32 × AH) :=
  if x1 = 1 then
    (gR [12] h o0 1).bind fun v2 =>
    (gI [12] h o0 6).bind fun v4 =>
    (isC [12] h o0).bind fun _ =>
    cN (f_X12_goThrough o0 v2 0 v4 h) h fun _ h7 =>
    f_X12_fault_46 o0 x1 h7
  else
    f_X12_fault_46 o0 x1 h
set_option maxHeartbeats 1000000 in
theorem w_X12_fault_28 (X : Cx g p s m args meth c cX12_fault 2 "TrapCornerModel") (hR : 88 ≤ R.frames ∧ 5632 ≤ R.locals) (hr : meth.sig.returnType = (some (.int))) {res : Int32 × AH} : ∀ (o0 : Nat) (x1 : Int32) (h : AH) (ls : Array Slot) (H : Heap) (locs : List Loc), f_X12_fault_28 o0 x1 h = some res → Iv g s n0 z0 h H locs 0 0 → lv_has ls 2 [(0, .ref (rfG g o0)), (1, .int x1)] → W p l e R s m args below meth c H locs 0 0 (MQ below (QG g (some (.int res.1)) res.2) args s 0 0 (AG g)) (F0 m 28 ls []) := by
  have hx := X.1
  have hb := X.2.1
  intro o0 x1 h ls H locs hf I hl
  unfold f_X12_fault_28 at hf
  refine lv_iload_n hx hb dX12_fault_28 rfl (lv_at hl 1 rfl) ?_
  refine lv_iconst (v := 1) hx hb dX12_fault_29 (by decide) ?_
  refine lv_icmp_ne (tgt := 46) hx hb dX12_fault_30 (by decide) (fun c1 => ?_) (fun c1 => ?_)
  · rw [if_neg c1] at hf
    exact w_X12_fault_46 X hR hr  o0 x1 h ls H locs hf I (lv_sub hl [0, 1] rfl)
  · rw [if_pos c1] at hf
    refine lv_aload_n hx hb dX12_fault_33 rfl (lv_at hl 0 rfl) ?_
    refine lv_aload_n hx hb dX12_fault_34 rfl (lv_at hl 0 rfl) ?_
    obtain ⟨v2, e3, hf⟩ := Option.bind_eq_some_iff.mp hf
    refine r_gR X I e3 lk_TrapCornerModel_9 dX12_fault_35 ?_
    refine lv_iconst (v := 0) hx hb dX12_fault_38 (by decide) ?_
    refine lv_aload_n hx hb dX12_fault_39 rfl (lv_at hl 0 rfl) ?_
    obtain ⟨v4, e5, hf⟩ := Option.bind_eq_some_iff.mp hf
    refine r_gI X I e5 lk_TrapCornerModel_109 dX12_fault_40 ?_
    obtain ⟨_, g10, hf⟩ := Option.bind_eq_some_iff.mp hf
    obtain ⟨⟨⟩, h7, e8, z9, hf⟩ := cN_spec hf
    refine k_Vv (As := [.ref (rfG g v2), .int 0, .int v4]) (rest := []) X I (c_X12_goThrough l g o0 v2 0 v4 e8) z9 g10 vk_TrapCornerModel_280 tw_1548 ⟨Nat.le_trans (by decide) hR.1, Nat.le_trans (by decide) hR.2⟩ ⟨Nat.zero_le _, Nat.zero_le _⟩ rfl hl.1 rfl (Nat.le_of_ble_eq_true rfl) dX12_fault_43 (fun H locs I => ?_)
    exact w_X12_fault_46 X hR hr  o0 x1 h7 ls H locs hf I (lv_sub hl [0, 1] rfl)
def f_X12_fault_0  (o0 : Nat) (x1 : Int32) (h : AH) : Option (Int32 × AH) :=
  (pV [12] h o0 0 (.int 0)).bind fun h1 =>
  cN (f_X12_isIn (x1.toInt64) 0 2 h1) h1 fun v3 h4 =>
  if v3 = 0 then
    some ((-2), h4)
  else
    if x1 = 0 then
      (isC [12] h4 o0).bind fun _ =>
      cN (f_X12_readCity o0 h4) h4 fun _ h10 =>
      f_X12_fault_28 o0 x1 h10
    else
      f_X12_fault_28 o0 x1 h4
set_option maxHeartbeats 1000000 in
theorem w_X12_fault_0 (X : Cx g p s m args meth c cX12_fault 2 "TrapCornerModel") (hR : 88 ≤ R.frames ∧ 5632 ≤ R.locals) (hr : meth.sig.returnType = (some (.int))) {res : Int32 × AH} : ∀ (o0 : Nat) (x1 : Int32) (h : AH) (ls : Array Slot) (H : Heap) (locs : List Loc), f_X12_fault_0 o0 x1 h = some res → Iv g s n0 z0 h H locs 0 0 → lv_has ls 2 [(0, .ref (rfG g o0)), (1, .int x1)] → W p l e R s m args below meth c H locs 0 0 (MQ below (QG g (some (.int res.1)) res.2) args s 0 0 (AG g)) (F0 m 0 ls []) := by
  have hx := X.1
  have hb := X.2.1
  intro o0 x1 h ls H locs hf I hl
  unfold f_X12_fault_0 at hf
  refine lv_aload_n hx hb dX12_fault_0 rfl (lv_at hl 0 rfl) ?_
  refine lv_iconst (v := 0) hx hb dX12_fault_1 (by decide) ?_
  obtain ⟨h1, e2, hf⟩ := Option.bind_eq_some_iff.mp hf
  refine r_pI X I e2 lp_TrapCornerModel_96 dX12_fault_2 (fun H locs I => ?_)
  refine lv_iload_n hx hb dX12_fault_5 rfl (lv_at hl 1 rfl) ?_
  refine lv_i2l hx hb dX12_fault_6 rfl ?_
  refine lv_lconst (v := 0) hx hb dX12_fault_7 (by decide) ?_
  refine lv_ldc2 (v := 2) hx hb X.2.2.2.1 (X.2.2.2.2.1 _ tw_1462) dX12_fault_8 ?_
  obtain ⟨v3, h4, e5, z6, hf⟩ := cN_spec hf
  refine k_Si (As := [.long (x1.toInt64), .long 0, .long 2]) (rest := []) X I (c_X12_isIn l g (x1.toInt64) 0 2 e5) z6 sk_TrapCornerModel_217 tw_1465 ⟨Nat.le_trans (by decide) hR.1, Nat.le_trans (by decide) hR.2⟩ ⟨Nat.zero_le _, Nat.zero_le _⟩ rfl hl.1 rfl (Nat.le_of_ble_eq_true rfl) dX12_fault_11 (fun H locs I => ?_)
  refine lv_if_ne (tgt := 20) hx hb dX12_fault_14 (by decide) (fun c7 => ?_) (fun c7 => ?_)
  · rw [if_neg c7] at hf
    refine lv_iload_n hx hb dX12_fault_20 rfl (lv_at hl 1 rfl) ?_
    refine lv_if_ne (tgt := 28) hx hb dX12_fault_21 (by decide) (fun c8 => ?_) (fun c8 => ?_)
    · rw [if_neg c8] at hf
      exact w_X12_fault_28 X hR hr  o0 x1 h4 ls H locs hf I (lv_sub hl [0, 1] rfl)
    · rw [if_pos c8] at hf
      refine lv_aload_n hx hb dX12_fault_24 rfl (lv_at hl 0 rfl) ?_
      obtain ⟨_, g13, hf⟩ := Option.bind_eq_some_iff.mp hf
      obtain ⟨⟨⟩, h10, e11, z12, hf⟩ := cN_spec hf
      refine k_Vv (As := []) (rest := []) X I (c_X12_readCity l g o0 e11) z12 g13 vk_TrapCornerModel_277 tw_1469 ⟨Nat.le_trans (by decide) hR.1, Nat.le_trans (by decide) hR.2⟩ ⟨Nat.zero_le _, Nat.zero_le _⟩ rfl hl.1 rfl (Nat.le_of_ble_eq_true rfl) dX12_fault_25 (fun H locs I => ?_)
      exact w_X12_fault_28 X hR hr  o0 x1 h10 ls H locs hf I (lv_sub hl [0, 1] rfl)
  · rw [if_pos c7] at hf
    refine lv_bipush (v := (-2)) hx hb dX12_fault_17 (by decide) ?_
    cases hf
    exact k_ri X I hr dX12_fault_19
def f_X12_fault (o0 : Nat) (x1 : Int32) (h : AH) : Option (Int32 × AH) := f_X12_fault_0 o0 x1 h
end
theorem c_X12_fault (l : Launch) (g : GG) (o0 : Nat) (x1 : Int32) {h : AH} {res : Int32 × AH} (hf : f_X12_fault o0 x1 h = some res) : CM l g yX12_fault cX12_fault 2 (some (.int)) 88 5632 0 0 [.ref (rfG g o0), .int x1] h (some (.int res.1)) res.2 :=
  k_body (by decide) (Nat.le_of_ble_eq_true rfl) (fun p e s m below meth c R ls hR hr X I hl => w_X12_fault_0 X ⟨Nat.le_of_eq hR.1.symm, Nat.le_of_eq hR.2.1.symm⟩ hr o0 x1 h ls s.heap [] hf I (lv_sub hl [0, 1] rfl))
/-! TrapCornerModel.text(I)I -/
theorem dX12_text_0 : decode cX12_text 0 = .ok (.aload_n 0, 1) := by decide +kernel
theorem dX12_text_1 : decode cX12_text 1 = .ok (.iconst 0, 1) := by decide +kernel
theorem dX12_text_2 : decode cX12_text 2 = .ok (.putfield 96, 3) := by decide +kernel
theorem dX12_text_5 : decode cX12_text 5 = .ok (.iload_n 1, 1) := by decide +kernel
theorem dX12_text_6 : decode cX12_text 6 = .ok (.i2l, 1) := by decide +kernel
theorem dX12_text_7 : decode cX12_text 7 = .ok (.lconst 0, 1) := by decide +kernel
theorem dX12_text_8 : decode cX12_text 8 = .ok (.ldc2_w 275, 3) := by decide +kernel
theorem dX12_text_11 : decode cX12_text 11 = .ok (.invokestatic 217, 3) := by decide +kernel
theorem dX12_text_14 : decode cX12_text 14 = .ok (.ifCond .eq 38, 3) := by decide +kernel
theorem dX12_text_17 : decode cX12_text 17 = .ok (.iload_n 1, 1) := by decide +kernel
theorem dX12_text_18 : decode cX12_text 18 = .ok (.iconst 1, 1) := by decide +kernel
theorem dX12_text_19 : decode cX12_text 19 = .ok (.if_icmp .ne 11, 3) := by decide +kernel
theorem dX12_text_22 : decode cX12_text 22 = .ok (.aload_n 0, 1) := by decide +kernel
theorem dX12_text_23 : decode cX12_text 23 = .ok (.getfield 286, 3) := by decide +kernel
theorem dX12_text_26 : decode cX12_text 26 = .ok (.iconst 4, 1) := by decide +kernel
theorem dX12_text_27 : decode cX12_text 27 = .ok (.if_icmp .eq 25, 3) := by decide +kernel
theorem dX12_text_30 : decode cX12_text 30 = .ok (.iload_n 1, 1) := by decide +kernel
theorem dX12_text_31 : decode cX12_text 31 = .ok (.iconst 2, 1) := by decide +kernel
theorem dX12_text_32 : decode cX12_text 32 = .ok (.if_icmp .ne 11, 3) := by decide +kernel
theorem dX12_text_35 : decode cX12_text 35 = .ok (.aload_n 0, 1) := by decide +kernel
theorem dX12_text_36 : decode cX12_text 36 = .ok (.getfield 289, 3) := by decide +kernel
theorem dX12_text_39 : decode cX12_text 39 = .ok (.iconst 4, 1) := by decide +kernel
theorem dX12_text_40 : decode cX12_text 40 = .ok (.if_icmp .eq 12, 3) := by decide +kernel
theorem dX12_text_43 : decode cX12_text 43 = .ok (.aload_n 0, 1) := by decide +kernel
theorem dX12_text_44 : decode cX12_text 44 = .ok (.iload_n 1, 1) := by decide +kernel
theorem dX12_text_45 : decode cX12_text 45 = .ok (.invokevirtual 292, 3) := by decide +kernel
theorem dX12_text_48 : decode cX12_text 48 = .ok (.iconst (-1), 1) := by decide +kernel
theorem dX12_text_49 : decode cX12_text 49 = .ok (.if_icmp .eq 5, 3) := by decide +kernel
theorem dX12_text_52 : decode cX12_text 52 = .ok (.iconst (-1), 1) := by decide +kernel
theorem dX12_text_53 : decode cX12_text 53 = .ok (.ireturn, 1) := by decide +kernel
theorem dX12_text_54 : decode cX12_text 54 = .ok (.aload_n 0, 1) := by decide +kernel
theorem dX12_text_55 : decode cX12_text 55 = .ok (.getfield 109, 3) := by decide +kernel
theorem dX12_text_58 : decode cX12_text 58 = .ok (.istore_n 2, 1) := by decide +kernel
theorem dX12_text_59 : decode cX12_text 59 = .ok (.aload_n 0, 1) := by decide +kernel
theorem dX12_text_60 : decode cX12_text 60 = .ok (.iconst 0, 1) := by decide +kernel
theorem dX12_text_61 : decode cX12_text 61 = .ok (.putfield 109, 3) := by decide +kernel
theorem dX12_text_64 : decode cX12_text 64 = .ok (.iload_n 1, 1) := by decide +kernel
theorem dX12_text_65 : decode cX12_text 65 = .ok (.iconst 1, 1) := by decide +kernel
theorem dX12_text_66 : decode cX12_text 66 = .ok (.if_icmp .ne 64, 3) := by decide +kernel
theorem dX12_text_69 : decode cX12_text 69 = .ok (.iconst 0, 1) := by decide +kernel
theorem dX12_text_70 : decode cX12_text 70 = .ok (.istore_n 3, 1) := by decide +kernel
theorem dX12_text_71 : decode cX12_text 71 = .ok (.iload_n 3, 1) := by decide +kernel
theorem dX12_text_72 : decode cX12_text 72 = .ok (.iload_n 2, 1) := by decide +kernel
theorem dX12_text_73 : decode cX12_text 73 = .ok (.if_icmp .ge 30, 3) := by decide +kernel
theorem dX12_text_76 : decode cX12_text 76 = .ok (.aload_n 0, 1) := by decide +kernel
theorem dX12_text_77 : decode cX12_text 77 = .ok (.getfield 13, 3) := by decide +kernel
theorem dX12_text_80 : decode cX12_text 80 = .ok (.sipush 240, 3) := by decide +kernel
theorem dX12_text_83 : decode cX12_text 83 = .ok (.aload_n 0, 1) := by decide +kernel
theorem dX12_text_84 : decode cX12_text 84 = .ok (.getfield 286, 3) := by decide +kernel
theorem dX12_text_87 : decode cX12_text 87 = .ok (.imul, 1) := by decide +kernel
theorem dX12_text_88 : decode cX12_text 88 = .ok (.iload_n 3, 1) := by decide +kernel
theorem dX12_text_89 : decode cX12_text 89 = .ok (.iadd, 1) := by decide +kernel
theorem dX12_text_90 : decode cX12_text 90 = .ok (.aload_n 0, 1) := by decide +kernel
theorem dX12_text_91 : decode cX12_text 91 = .ok (.getfield 9, 3) := by decide +kernel
theorem dX12_text_94 : decode cX12_text 94 = .ok (.iload_n 3, 1) := by decide +kernel
theorem dX12_text_95 : decode cX12_text 95 = .ok (.baload, 1) := by decide +kernel
theorem dX12_text_96 : decode cX12_text 96 = .ok (.bastore, 1) := by decide +kernel
theorem dX12_text_97 : decode cX12_text 97 = .ok (.iinc 3 1, 3) := by decide +kernel
theorem dX12_text_100 : decode cX12_text 100 = .ok (.goto (-29), 3) := by decide +kernel
theorem dX12_text_103 : decode cX12_text 103 = .ok (.aload_n 0, 1) := by decide +kernel
theorem dX12_text_104 : decode cX12_text 104 = .ok (.getfield 16, 3) := by decide +kernel
theorem dX12_text_107 : decode cX12_text 107 = .ok (.aload_n 0, 1) := by decide +kernel
theorem dX12_text_108 : decode cX12_text 108 = .ok (.getfield 286, 3) := by decide +kernel
theorem dX12_text_111 : decode cX12_text 111 = .ok (.iload_n 2, 1) := by decide +kernel
theorem dX12_text_112 : decode cX12_text 112 = .ok (.iastore, 1) := by decide +kernel
theorem dX12_text_113 : decode cX12_text 113 = .ok (.aload_n 0, 1) := by decide +kernel
theorem dX12_text_114 : decode cX12_text 114 = .ok (.dup, 1) := by decide +kernel
theorem dX12_text_115 : decode cX12_text 115 = .ok (.getfield 286, 3) := by decide +kernel
theorem dX12_text_118 : decode cX12_text 118 = .ok (.iconst 1, 1) := by decide +kernel
theorem dX12_text_119 : decode cX12_text 119 = .ok (.iadd, 1) := by decide +kernel
theorem dX12_text_120 : decode cX12_text 120 = .ok (.putfield 286, 3) := by decide +kernel
theorem dX12_text_123 : decode cX12_text 123 = .ok (.aload_n 0, 1) := by decide +kernel
theorem dX12_text_124 : decode cX12_text 124 = .ok (.getfield 286, 3) := by decide +kernel
theorem dX12_text_127 : decode cX12_text 127 = .ok (.iconst 1, 1) := by decide +kernel
theorem dX12_text_128 : decode cX12_text 128 = .ok (.isub, 1) := by decide +kernel
theorem dX12_text_129 : decode cX12_text 129 = .ok (.ireturn, 1) := by decide +kernel
theorem dX12_text_130 : decode cX12_text 130 = .ok (.iload_n 1, 1) := by decide +kernel
theorem dX12_text_131 : decode cX12_text 131 = .ok (.iconst 2, 1) := by decide +kernel
theorem dX12_text_132 : decode cX12_text 132 = .ok (.if_icmp .ne 73, 3) := by decide +kernel
theorem dX12_text_135 : decode cX12_text 135 = .ok (.iconst 0, 1) := by decide +kernel
theorem dX12_text_136 : decode cX12_text 136 = .ok (.istore_n 3, 1) := by decide +kernel
theorem dX12_text_137 : decode cX12_text 137 = .ok (.iload_n 3, 1) := by decide +kernel
theorem dX12_text_138 : decode cX12_text 138 = .ok (.bipush 48, 2) := by decide +kernel
theorem dX12_text_140 : decode cX12_text 140 = .ok (.if_icmp .ge 33, 3) := by decide +kernel
theorem dX12_text_143 : decode cX12_text 143 = .ok (.aload_n 0, 1) := by decide +kernel
theorem dX12_text_144 : decode cX12_text 144 = .ok (.getfield 55, 3) := by decide +kernel
theorem dX12_text_147 : decode cX12_text 147 = .ok (.bipush 48, 2) := by decide +kernel
theorem dX12_text_149 : decode cX12_text 149 = .ok (.aload_n 0, 1) := by decide +kernel
theorem dX12_text_150 : decode cX12_text 150 = .ok (.getfield 289, 3) := by decide +kernel
theorem dX12_text_153 : decode cX12_text 153 = .ok (.imul, 1) := by decide +kernel
theorem dX12_text_154 : decode cX12_text 154 = .ok (.iload_n 3, 1) := by decide +kernel
theorem dX12_text_155 : decode cX12_text 155 = .ok (.iadd, 1) := by decide +kernel
theorem dX12_text_156 : decode cX12_text 156 = .ok (.aload_n 0, 1) := by decide +kernel
theorem dX12_text_157 : decode cX12_text 157 = .ok (.getfield 55, 3) := by decide +kernel
theorem dX12_text_160 : decode cX12_text 160 = .ok (.sipush 192, 3) := by decide +kernel
theorem dX12_text_163 : decode cX12_text 163 = .ok (.iload_n 3, 1) := by decide +kernel
theorem dX12_text_164 : decode cX12_text 164 = .ok (.iadd, 1) := by decide +kernel
theorem dX12_text_165 : decode cX12_text 165 = .ok (.iaload, 1) := by decide +kernel
theorem dX12_text_166 : decode cX12_text 166 = .ok (.iastore, 1) := by decide +kernel
theorem dX12_text_167 : decode cX12_text 167 = .ok (.iinc 3 1, 3) := by decide +kernel
theorem dX12_text_170 : decode cX12_text 170 = .ok (.goto (-33), 3) := by decide +kernel
theorem dX12_text_173 : decode cX12_text 173 = .ok (.aload_n 0, 1) := by decide +kernel
theorem dX12_text_174 : decode cX12_text 174 = .ok (.getfield 58, 3) := by decide +kernel
theorem dX12_text_177 : decode cX12_text 177 = .ok (.aload_n 0, 1) := by decide +kernel
theorem dX12_text_178 : decode cX12_text 178 = .ok (.getfield 289, 3) := by decide +kernel
theorem dX12_text_181 : decode cX12_text 181 = .ok (.aload_n 0, 1) := by decide +kernel
theorem dX12_text_182 : decode cX12_text 182 = .ok (.getfield 58, 3) := by decide +kernel
theorem dX12_text_185 : decode cX12_text 185 = .ok (.iconst 4, 1) := by decide +kernel
theorem dX12_text_186 : decode cX12_text 186 = .ok (.iaload, 1) := by decide +kernel
theorem dX12_text_187 : decode cX12_text 187 = .ok (.iastore, 1) := by decide +kernel
theorem dX12_text_188 : decode cX12_text 188 = .ok (.aload_n 0, 1) := by decide +kernel
theorem dX12_text_189 : decode cX12_text 189 = .ok (.dup, 1) := by decide +kernel
theorem dX12_text_190 : decode cX12_text 190 = .ok (.getfield 289, 3) := by decide +kernel
theorem dX12_text_193 : decode cX12_text 193 = .ok (.iconst 1, 1) := by decide +kernel
theorem dX12_text_194 : decode cX12_text 194 = .ok (.iadd, 1) := by decide +kernel
theorem dX12_text_195 : decode cX12_text 195 = .ok (.putfield 289, 3) := by decide +kernel
theorem dX12_text_198 : decode cX12_text 198 = .ok (.aload_n 0, 1) := by decide +kernel
theorem dX12_text_199 : decode cX12_text 199 = .ok (.getfield 289, 3) := by decide +kernel
theorem dX12_text_202 : decode cX12_text 202 = .ok (.iconst 1, 1) := by decide +kernel
theorem dX12_text_203 : decode cX12_text 203 = .ok (.isub, 1) := by decide +kernel
theorem dX12_text_204 : decode cX12_text 204 = .ok (.ireturn, 1) := by decide +kernel
theorem dX12_text_205 : decode cX12_text 205 = .ok (.aload_n 0, 1) := by decide +kernel
theorem dX12_text_206 : decode cX12_text 206 = .ok (.aload_n 0, 1) := by decide +kernel
theorem dX12_text_207 : decode cX12_text 207 = .ok (.getfield 245, 3) := by decide +kernel
theorem dX12_text_210 : decode cX12_text 210 = .ok (.putfield 294, 3) := by decide +kernel
theorem dX12_text_213 : decode cX12_text 213 = .ok (.aload_n 0, 1) := by decide +kernel
theorem dX12_text_214 : decode cX12_text 214 = .ok (.aload_n 0, 1) := by decide +kernel
theorem dX12_text_215 : decode cX12_text 215 = .ok (.getfield 248, 3) := by decide +kernel
theorem dX12_text_218 : decode cX12_text 218 = .ok (.putfield 297, 3) := by decide +kernel
theorem dX12_text_221 : decode cX12_text 221 = .ok (.iconst 0, 1) := by decide +kernel
theorem dX12_text_222 : decode cX12_text 222 = .ok (.istore_n 3, 1) := by decide +kernel
theorem dX12_text_223 : decode cX12_text 223 = .ok (.iload_n 3, 1) := by decide +kernel
theorem dX12_text_224 : decode cX12_text 224 = .ok (.iconst 3, 1) := by decide +kernel
theorem dX12_text_225 : decode cX12_text 225 = .ok (.if_icmp .ge 21, 3) := by decide +kernel
theorem dX12_text_228 : decode cX12_text 228 = .ok (.aload_n 0, 1) := by decide +kernel
theorem dX12_text_229 : decode cX12_text 229 = .ok (.getfield 37, 3) := by decide +kernel
theorem dX12_text_232 : decode cX12_text 232 = .ok (.iload_n 3, 1) := by decide +kernel
theorem dX12_text_233 : decode cX12_text 233 = .ok (.aload_n 0, 1) := by decide +kernel
theorem dX12_text_234 : decode cX12_text 234 = .ok (.getfield 40, 3) := by decide +kernel
theorem dX12_text_237 : decode cX12_text 237 = .ok (.iload_n 3, 1) := by decide +kernel
theorem dX12_text_238 : decode cX12_text 238 = .ok (.iaload, 1) := by decide +kernel
theorem dX12_text_239 : decode cX12_text 239 = .ok (.iastore, 1) := by decide +kernel
theorem dX12_text_240 : decode cX12_text 240 = .ok (.iinc 3 1, 3) := by decide +kernel
theorem dX12_text_243 : decode cX12_text 243 = .ok (.goto (-20), 3) := by decide +kernel
theorem dX12_text_246 : decode cX12_text 246 = .ok (.iconst 0, 1) := by decide +kernel
theorem dX12_text_247 : decode cX12_text 247 = .ok (.istore_n 3, 1) := by decide +kernel
theorem dX12_text_248 : decode cX12_text 248 = .ok (.iload_n 3, 1) := by decide +kernel
theorem dX12_text_249 : decode cX12_text 249 = .ok (.bipush 10, 2) := by decide +kernel
theorem dX12_text_251 : decode cX12_text 251 = .ok (.if_icmp .ge 21, 3) := by decide +kernel
theorem dX12_text_254 : decode cX12_text 254 = .ok (.aload_n 0, 1) := by decide +kernel
theorem dX12_text_255 : decode cX12_text 255 = .ok (.getfield 43, 3) := by decide +kernel
theorem dX12_text_258 : decode cX12_text 258 = .ok (.iload_n 3, 1) := by decide +kernel
theorem dX12_text_259 : decode cX12_text 259 = .ok (.aload_n 0, 1) := by decide +kernel
theorem dX12_text_260 : decode cX12_text 260 = .ok (.getfield 46, 3) := by decide +kernel
theorem dX12_text_263 : decode cX12_text 263 = .ok (.iload_n 3, 1) := by decide +kernel
theorem dX12_text_264 : decode cX12_text 264 = .ok (.iaload, 1) := by decide +kernel
theorem dX12_text_265 : decode cX12_text 265 = .ok (.iastore, 1) := by decide +kernel
theorem dX12_text_266 : decode cX12_text 266 = .ok (.iinc 3 1, 3) := by decide +kernel
theorem dX12_text_269 : decode cX12_text 269 = .ok (.goto (-21), 3) := by decide +kernel
theorem dX12_text_272 : decode cX12_text 272 = .ok (.iconst 0, 1) := by decide +kernel
theorem dX12_text_273 : decode cX12_text 273 = .ok (.istore_n 3, 1) := by decide +kernel
theorem dX12_text_274 : decode cX12_text 274 = .ok (.iload_n 3, 1) := by decide +kernel
theorem dX12_text_275 : decode cX12_text 275 = .ok (.bipush 36, 2) := by decide +kernel
theorem dX12_text_277 : decode cX12_text 277 = .ok (.if_icmp .ge 21, 3) := by decide +kernel
theorem dX12_text_280 : decode cX12_text 280 = .ok (.aload_n 0, 1) := by decide +kernel
theorem dX12_text_281 : decode cX12_text 281 = .ok (.getfield 49, 3) := by decide +kernel
theorem dX12_text_284 : decode cX12_text 284 = .ok (.iload_n 3, 1) := by decide +kernel
theorem dX12_text_285 : decode cX12_text 285 = .ok (.aload_n 0, 1) := by decide +kernel
theorem dX12_text_286 : decode cX12_text 286 = .ok (.getfield 52, 3) := by decide +kernel
theorem dX12_text_289 : decode cX12_text 289 = .ok (.iload_n 3, 1) := by decide +kernel
theorem dX12_text_290 : decode cX12_text 290 = .ok (.iaload, 1) := by decide +kernel
theorem dX12_text_291 : decode cX12_text 291 = .ok (.iastore, 1) := by decide +kernel
theorem dX12_text_292 : decode cX12_text 292 = .ok (.iinc 3 1, 3) := by decide +kernel
theorem dX12_text_295 : decode cX12_text 295 = .ok (.goto (-21), 3) := by decide +kernel
theorem dX12_text_298 : decode cX12_text 298 = .ok (.iconst 0, 1) := by decide +kernel
theorem dX12_text_299 : decode cX12_text 299 = .ok (.istore_n 3, 1) := by decide +kernel
theorem dX12_text_300 : decode cX12_text 300 = .ok (.iload_n 3, 1) := by decide +kernel
theorem dX12_text_301 : decode cX12_text 301 = .ok (.sipush 212, 3) := by decide +kernel
theorem dX12_text_304 : decode cX12_text 304 = .ok (.if_icmp .ge 16, 3) := by decide +kernel
theorem dX12_text_307 : decode cX12_text 307 = .ok (.aload_n 0, 1) := by decide +kernel
theorem dX12_text_308 : decode cX12_text 308 = .ok (.getfield 61, 3) := by decide +kernel
theorem dX12_text_311 : decode cX12_text 311 = .ok (.iload_n 3, 1) := by decide +kernel
theorem dX12_text_312 : decode cX12_text 312 = .ok (.iconst 0, 1) := by decide +kernel
theorem dX12_text_313 : decode cX12_text 313 = .ok (.iastore, 1) := by decide +kernel
theorem dX12_text_314 : decode cX12_text 314 = .ok (.iinc 3 1, 3) := by decide +kernel
theorem dX12_text_317 : decode cX12_text 317 = .ok (.goto (-17), 3) := by decide +kernel
theorem dX12_text_320 : decode cX12_text 320 = .ok (.iconst 0, 1) := by decide +kernel
theorem dX12_text_321 : decode cX12_text 321 = .ok (.istore_n 3, 1) := by decide +kernel
theorem dX12_text_322 : decode cX12_text 322 = .ok (.iload_n 3, 1) := by decide +kernel
theorem dX12_text_323 : decode cX12_text 323 = .ok (.iconst 2, 1) := by decide +kernel
theorem dX12_text_324 : decode cX12_text 324 = .ok (.aload_n 0, 1) := by decide +kernel
theorem dX12_text_325 : decode cX12_text 325 = .ok (.getfield 294, 3) := by decide +kernel
theorem dX12_text_328 : decode cX12_text 328 = .ok (.imul, 1) := by decide +kernel
theorem dX12_text_329 : decode cX12_text 329 = .ok (.if_icmp .ge 21, 3) := by decide +kernel
theorem dX12_text_332 : decode cX12_text 332 = .ok (.aload_n 0, 1) := by decide +kernel
theorem dX12_text_333 : decode cX12_text 333 = .ok (.getfield 61, 3) := by decide +kernel
theorem dX12_text_336 : decode cX12_text 336 = .ok (.iload_n 3, 1) := by decide +kernel
theorem dX12_text_337 : decode cX12_text 337 = .ok (.aload_n 0, 1) := by decide +kernel
theorem dX12_text_338 : decode cX12_text 338 = .ok (.getfield 43, 3) := by decide +kernel
theorem dX12_text_341 : decode cX12_text 341 = .ok (.iload_n 3, 1) := by decide +kernel
theorem dX12_text_342 : decode cX12_text 342 = .ok (.iaload, 1) := by decide +kernel
theorem dX12_text_343 : decode cX12_text 343 = .ok (.iastore, 1) := by decide +kernel
theorem dX12_text_344 : decode cX12_text 344 = .ok (.iinc 3 1, 3) := by decide +kernel
theorem dX12_text_347 : decode cX12_text 347 = .ok (.goto (-25), 3) := by decide +kernel
theorem dX12_text_350 : decode cX12_text 350 = .ok (.iconst 0, 1) := by decide +kernel
theorem dX12_text_351 : decode cX12_text 351 = .ok (.istore_n 3, 1) := by decide +kernel
theorem dX12_text_352 : decode cX12_text 352 = .ok (.iload_n 3, 1) := by decide +kernel
theorem dX12_text_353 : decode cX12_text 353 = .ok (.aload_n 0, 1) := by decide +kernel
theorem dX12_text_354 : decode cX12_text 354 = .ok (.getfield 297, 3) := by decide +kernel
theorem dX12_text_357 : decode cX12_text 357 = .ok (.if_icmp .ge 57, 3) := by decide +kernel
theorem dX12_text_360 : decode cX12_text 360 = .ok (.aload_n 0, 1) := by decide +kernel
theorem dX12_text_361 : decode cX12_text 361 = .ok (.getfield 61, 3) := by decide +kernel
theorem dX12_text_364 : decode cX12_text 364 = .ok (.bipush 10, 2) := by decide +kernel
theorem dX12_text_366 : decode cX12_text 366 = .ok (.iconst 3, 1) := by decide +kernel
theorem dX12_text_367 : decode cX12_text 367 = .ok (.iload_n 3, 1) := by decide +kernel
theorem dX12_text_368 : decode cX12_text 368 = .ok (.imul, 1) := by decide +kernel
theorem dX12_text_369 : decode cX12_text 369 = .ok (.iadd, 1) := by decide +kernel
theorem dX12_text_370 : decode cX12_text 370 = .ok (.iconst 0, 1) := by decide +kernel
theorem dX12_text_371 : decode cX12_text 371 = .ok (.iadd, 1) := by decide +kernel
theorem dX12_text_372 : decode cX12_text 372 = .ok (.aload_n 0, 1) := by decide +kernel
theorem dX12_text_373 : decode cX12_text 373 = .ok (.getfield 49, 3) := by decide +kernel
theorem dX12_text_376 : decode cX12_text 376 = .ok (.bipush 6, 2) := by decide +kernel
theorem dX12_text_378 : decode cX12_text 378 = .ok (.iload_n 3, 1) := by decide +kernel
theorem dX12_text_379 : decode cX12_text 379 = .ok (.imul, 1) := by decide +kernel
theorem dX12_text_380 : decode cX12_text 380 = .ok (.iconst 2, 1) := by decide +kernel
theorem dX12_text_381 : decode cX12_text 381 = .ok (.iadd, 1) := by decide +kernel
theorem dX12_text_382 : decode cX12_text 382 = .ok (.iaload, 1) := by decide +kernel
theorem dX12_text_383 : decode cX12_text 383 = .ok (.iastore, 1) := by decide +kernel
theorem dX12_text_384 : decode cX12_text 384 = .ok (.aload_n 0, 1) := by decide +kernel
theorem dX12_text_385 : decode cX12_text 385 = .ok (.getfield 61, 3) := by decide +kernel
theorem dX12_text_388 : decode cX12_text 388 = .ok (.bipush 10, 2) := by decide +kernel
theorem dX12_text_390 : decode cX12_text 390 = .ok (.iconst 3, 1) := by decide +kernel
theorem dX12_text_391 : decode cX12_text 391 = .ok (.iload_n 3, 1) := by decide +kernel
theorem dX12_text_392 : decode cX12_text 392 = .ok (.imul, 1) := by decide +kernel
theorem dX12_text_393 : decode cX12_text 393 = .ok (.iadd, 1) := by decide +kernel
theorem dX12_text_394 : decode cX12_text 394 = .ok (.iconst 2, 1) := by decide +kernel
theorem dX12_text_395 : decode cX12_text 395 = .ok (.iadd, 1) := by decide +kernel
theorem dX12_text_396 : decode cX12_text 396 = .ok (.aload_n 0, 1) := by decide +kernel
theorem dX12_text_397 : decode cX12_text 397 = .ok (.getfield 49, 3) := by decide +kernel
theorem dX12_text_400 : decode cX12_text 400 = .ok (.bipush 6, 2) := by decide +kernel
theorem dX12_text_402 : decode cX12_text 402 = .ok (.iload_n 3, 1) := by decide +kernel
theorem dX12_text_403 : decode cX12_text 403 = .ok (.imul, 1) := by decide +kernel
theorem dX12_text_404 : decode cX12_text 404 = .ok (.iconst 5, 1) := by decide +kernel
theorem dX12_text_405 : decode cX12_text 405 = .ok (.iadd, 1) := by decide +kernel
theorem dX12_text_406 : decode cX12_text 406 = .ok (.iaload, 1) := by decide +kernel
theorem dX12_text_407 : decode cX12_text 407 = .ok (.iastore, 1) := by decide +kernel
theorem dX12_text_408 : decode cX12_text 408 = .ok (.iinc 3 1, 3) := by decide +kernel
theorem dX12_text_411 : decode cX12_text 411 = .ok (.goto (-59), 3) := by decide +kernel
theorem dX12_text_414 : decode cX12_text 414 = .ok (.aload_n 0, 1) := by decide +kernel
theorem dX12_text_415 : decode cX12_text 415 = .ok (.getfield 61, 3) := by decide +kernel
theorem dX12_text_418 : decode cX12_text 418 = .ok (.bipush 29, 2) := by decide +kernel
theorem dX12_text_420 : decode cX12_text 420 = .ok (.aload_n 0, 1) := by decide +kernel
theorem dX12_text_421 : decode cX12_text 421 = .ok (.getfield 37, 3) := by decide +kernel
theorem dX12_text_424 : decode cX12_text 424 = .ok (.iconst 1, 1) := by decide +kernel
theorem dX12_text_425 : decode cX12_text 425 = .ok (.iaload, 1) := by decide +kernel
theorem dX12_text_426 : decode cX12_text 426 = .ok (.iastore, 1) := by decide +kernel
theorem dX12_text_427 : decode cX12_text 427 = .ok (.aload_n 0, 1) := by decide +kernel
theorem dX12_text_428 : decode cX12_text 428 = .ok (.iconst 0, 1) := by decide +kernel
theorem dX12_text_429 : decode cX12_text 429 = .ok (.putfield 300, 3) := by decide +kernel
theorem dX12_text_432 : decode cX12_text 432 = .ok (.aload_n 0, 1) := by decide +kernel
theorem dX12_text_433 : decode cX12_text 433 = .ok (.iconst 0, 1) := by decide +kernel
theorem dX12_text_434 : decode cX12_text 434 = .ok (.putfield 303, 3) := by decide +kernel
theorem dX12_text_437 : decode cX12_text 437 = .ok (.aload_n 0, 1) := by decide +kernel
theorem dX12_text_438 : decode cX12_text 438 = .ok (.iconst 0, 1) := by decide +kernel
theorem dX12_text_439 : decode cX12_text 439 = .ok (.putfield 306, 3) := by decide +kernel
theorem dX12_text_442 : decode cX12_text 442 = .ok (.aload_n 0, 1) := by decide +kernel
theorem dX12_text_443 : decode cX12_text 443 = .ok (.getfield 297, 3) := by decide +kernel
theorem dX12_text_446 : decode cX12_text 446 = .ok (.ireturn, 1) := by decide +kernel
theorem lk_TrapCornerModel_16 : LK "TrapCornerModel" 16 [12] 3 := by
  intro ci hci
  have hci := List.mem_singleton.mp hci
  subst hci
  exact ⟨RX12, TX12, 50, "TrapCornerModel", ck_12, by decide, tw_1290, Or.inl rfl⟩
theorem lp_TrapCornerModel_286 : LKP "TrapCornerModel" 286 [12] 7 (.int) := by
  intro ci hci
  have hci := List.mem_singleton.mp hci
  subst hci
  exact ⟨RX12, TX12, 50, "TrapCornerModel", ck_12, by decide, tw_1294, Or.inl rfl, rfl, by decide +kernel⟩
theorem lk_TrapCornerModel_13 : LK "TrapCornerModel" 13 [12] 2 := by
  intro ci hci
  have hci := List.mem_singleton.mp hci
  subst hci
  exact ⟨RX12, TX12, 50, "TrapCornerModel", ck_12, by decide, tw_1289, Or.inl rfl⟩
theorem lp_TrapCornerModel_289 : LKP "TrapCornerModel" 289 [12] 30 (.int) := by
  intro ci hci
  have hci := List.mem_singleton.mp hci
  subst hci
  exact ⟨RX12, TX12, 50, "TrapCornerModel", ck_12, by decide, tw_1317, Or.inl rfl, rfl, by decide +kernel⟩
theorem lk_TrapCornerModel_43 : LK "TrapCornerModel" 43 [12] 20 := by
  intro ci hci
  have hci := List.mem_singleton.mp hci
  subst hci
  exact ⟨RX12, TX12, 50, "TrapCornerModel", ck_12, by decide, tw_1307, Or.inl rfl⟩
theorem vk_TrapCornerModel_292 : VK "TrapCornerModel" 292 [12] yX12_fault 1 := ⟨tw_1623, tw_1459, tw_13, ⟨by decide, by decide⟩, by decide +kernel, fun ci hci => by
  have hci := List.mem_singleton.mp hci
  subst hci
  exact ⟨_, rfl, tw_1460⟩⟩
theorem lp_TrapCornerModel_294 : LKP "TrapCornerModel" 294 [12] 26 (.int) := by
  intro ci hci
  have hci := List.mem_singleton.mp hci
  subst hci
  exact ⟨RX12, TX12, 50, "TrapCornerModel", ck_12, by decide, tw_1313, Or.inl rfl, rfl, by decide +kernel⟩
theorem lp_TrapCornerModel_297 : LKP "TrapCornerModel" 297 [12] 27 (.int) := by
  intro ci hci
  have hci := List.mem_singleton.mp hci
  subst hci
  exact ⟨RX12, TX12, 50, "TrapCornerModel", ck_12, by decide, tw_1314, Or.inl rfl, rfl, by decide +kernel⟩
section
variable {g : GG} {p : Program} {l : Launch} {e : Env} {R : Room} {s : State} {m : MethodId} {args : Array Value} {below : List Frame} {meth : Method} {c : Code} {n0 z0 : Nat}
def f_X12_text_71  : Nat → Nat → Int32 → Int32 → AH → Option (Int32 × AH)
  | 0, _, _, _, _ => none
  | n + 1, o0, x2, x3, h =>
  if x2 ≤ x3 then
    (gR [12] h o0 3).bind fun v2 =>
    (gI [12] h o0 7).bind fun v4 =>
    (uI 0 h v2 v4 x2).bind fun h6 =>
    (gI [12] h6 o0 7).bind fun v8 =>
    (pV [12] h6 o0 7 (.int (v8 + 1))).bind fun h10 =>
    (gI [12] h10 o0 7).bind fun v12 =>
    some (v12 - 1, h10)
  else
    (gR [12] h o0 2).bind fun v14 =>
    (gI [12] h o0 7).bind fun v16 =>
    (gR [12] h o0 1).bind fun v18 =>
    (aI 1 h v18 x3).bind fun v20 =>
    (uI 1 h v14 ((240 * v16) + x3) v20).bind fun h22 =>
    f_X12_text_71  n o0 x2 (x3 + 1) h22
set_option maxHeartbeats 1000000 in
theorem w_X12_text_71 (X : Cx g p s m args meth c cX12_text 4 "TrapCornerModel") (hR : 89 ≤ R.frames ∧ 5696 ≤ R.locals) (hr : meth.sig.returnType = (some (.int))) {res : Int32 × AH} : ∀ (n : Nat) (o0 : Nat) (x2 : Int32) (x3 : Int32) (h : AH) (ls : Array Slot) (H : Heap) (locs : List Loc), f_X12_text_71 n o0 x2 x3 h = some res → Iv g s n0 z0 h H locs 0 0 → lv_has ls 4 [(0, .ref (rfG g o0)), (2, .int x2), (3, .int x3)] → W p l e R s m args below meth c H locs 0 0 (MQ below (QG g (some (.int res.1)) res.2) args s 0 0 (AG g)) (F0 m 71 ls []) := by
  have hx := X.1
  have hb := X.2.1
  intro n
  induction n with
  | zero =>
    intro o0 x2 x3 h ls H locs hf
    rw [f_X12_text_71.eq_1] at hf
    cases hf
  | succ n ih =>
    intro o0 x2 x3 h ls H locs hf I hl
    rw [f_X12_text_71.eq_2] at hf
    refine lv_iload_n hx hb dX12_text_71 rfl (lv_at hl 2 rfl) ?_
    refine lv_iload_n hx hb dX12_text_72 rfl (lv_at hl 1 rfl) ?_
    refine lv_icmp_ge (tgt := 103) hx hb dX12_text_73 (by decide) (fun c1 => ?_) (fun c1 => ?_)
    · rw [if_pos c1] at hf
      refine lv_aload_n hx hb dX12_text_103 rfl (lv_at hl 0 rfl) ?_
      obtain ⟨v2, e3, hf⟩ := Option.bind_eq_some_iff.mp hf
      refine r_gR X I e3 lk_TrapCornerModel_16 dX12_text_104 ?_
      refine lv_aload_n hx hb dX12_text_107 rfl (lv_at hl 0 rfl) ?_
      obtain ⟨v4, e5, hf⟩ := Option.bind_eq_some_iff.mp hf
      refine r_gI X I e5 lk_TrapCornerModel_286 dX12_text_108 ?_
      refine lv_iload_n hx hb dX12_text_111 rfl (lv_at hl 1 rfl) ?_
      obtain ⟨h6, e7, hf⟩ := Option.bind_eq_some_iff.mp hf
      refine r_uI0 X I e7 dX12_text_112 (fun H locs I => ?_)
      refine lv_aload_n hx hb dX12_text_113 rfl (lv_at hl 0 rfl) ?_
      refine lv_dup hx hb dX12_text_114 rfl ?_
      obtain ⟨v8, e9, hf⟩ := Option.bind_eq_some_iff.mp hf
      refine r_gI X I e9 lk_TrapCornerModel_286 dX12_text_115 ?_
      refine lv_iconst (v := 1) hx hb dX12_text_118 (by decide) ?_
      refine lv_iadd hx hb dX12_text_119 ?_
      obtain ⟨h10, e11, hf⟩ := Option.bind_eq_some_iff.mp hf
      refine r_pI X I e11 lp_TrapCornerModel_286 dX12_text_120 (fun H locs I => ?_)
      refine lv_aload_n hx hb dX12_text_123 rfl (lv_at hl 0 rfl) ?_
      obtain ⟨v12, e13, hf⟩ := Option.bind_eq_some_iff.mp hf
      refine r_gI X I e13 lk_TrapCornerModel_286 dX12_text_124 ?_
      refine lv_iconst (v := 1) hx hb dX12_text_127 (by decide) ?_
      refine lv_isub hx hb dX12_text_128 ?_
      cases hf
      exact k_ri X I hr dX12_text_129
    · rw [if_neg c1] at hf
      refine lv_aload_n hx hb dX12_text_76 rfl (lv_at hl 0 rfl) ?_
      obtain ⟨v14, e15, hf⟩ := Option.bind_eq_some_iff.mp hf
      refine r_gR X I e15 lk_TrapCornerModel_13 dX12_text_77 ?_
      refine lv_sipush (v := 240) hx hb dX12_text_80 (by decide) ?_
      refine lv_aload_n hx hb dX12_text_83 rfl (lv_at hl 0 rfl) ?_
      obtain ⟨v16, e17, hf⟩ := Option.bind_eq_some_iff.mp hf
      refine r_gI X I e17 lk_TrapCornerModel_286 dX12_text_84 ?_
      refine lv_imul hx hb dX12_text_87 ?_
      refine lv_iload_n hx hb dX12_text_88 rfl (lv_at hl 2 rfl) ?_
      refine lv_iadd hx hb dX12_text_89 ?_
      refine lv_aload_n hx hb dX12_text_90 rfl (lv_at hl 0 rfl) ?_
      obtain ⟨v18, e19, hf⟩ := Option.bind_eq_some_iff.mp hf
      refine r_gR X I e19 lk_TrapCornerModel_9 dX12_text_91 ?_
      refine lv_iload_n hx hb dX12_text_94 rfl (lv_at hl 2 rfl) ?_
      obtain ⟨v20, e21, hf⟩ := Option.bind_eq_some_iff.mp hf
      refine r_aI1 X I e21 dX12_text_95 ?_
      obtain ⟨h22, e23, hf⟩ := Option.bind_eq_some_iff.mp hf
      refine r_uI1 X I e23 dX12_text_96 (fun H locs I => ?_)
      refine lv_iinc (v := x3 + 1) (lv' := [(3, .int (x3 + 1)), (0, .ref (rfG g o0)), (2, .int x2)]) hx hb dX12_text_97 hl (k := 2) rfl rfl (by decide) rfl (fun ls hl => ?_)
      refine lv_goto (tgt := 71) hx hb dX12_text_100 (by decide) ?_
      exact ih o0 x2 (x3 + 1) h22 ls H locs hf I (lv_sub hl [1, 2, 0] rfl)
def f_X12_text_137  : Nat → Nat → Int32 → AH → Option (Int32 × AH)
  | 0, _, _, _ => none
  | n + 1, o0, x3, h =>
  if 48 ≤ x3 then
    (gR [12] h o0 25).bind fun v2 =>
    (gI [12] h o0 30).bind fun v4 =>
    (gR [12] h o0 25).bind fun v6 =>
    (aI 0 h v6 4).bind fun v8 =>
    (uI 0 h v2 v4 v8).bind fun h10 =>
    (gI [12] h10 o0 30).bind fun v12 =>
    (pV [12] h10 o0 30 (.int (v12 + 1))).bind fun h14 =>
    (gI [12] h14 o0 30).bind fun v16 =>
    some (v16 - 1, h14)
  else
    (gR [12] h o0 24).bind fun v18 =>
    (gI [12] h o0 30).bind fun v20 =>
    (gR [12] h o0 24).bind fun v22 =>
    (aI 0 h v22 (192 + x3)).bind fun v24 =>
    (uI 0 h v18 ((48 * v20) + x3) v24).bind fun h26 =>
    f_X12_text_137  n o0 (x3 + 1) h26
set_option maxHeartbeats 1000000 in
theorem w_X12_text_137 (X : Cx g p s m args meth c cX12_text 4 "TrapCornerModel") (hR : 89 ≤ R.frames ∧ 5696 ≤ R.locals) (hr : meth.sig.returnType = (some (.int))) {res : Int32 × AH} : ∀ (n : Nat) (o0 : Nat) (x3 : Int32) (h : AH) (ls : Array Slot) (H : Heap) (locs : List Loc), f_X12_text_137 n o0 x3 h = some res → Iv g s n0 z0 h H locs 0 0 → lv_has ls 4 [(0, .ref (rfG g o0)), (3, .int x3)] → W p l e R s m args below meth c H locs 0 0 (MQ below (QG g (some (.int res.1)) res.2) args s 0 0 (AG g)) (F0 m 137 ls []) := by
  have hx := X.1
  have hb := X.2.1
  intro n
  induction n with
  | zero =>
    intro o0 x3 h ls H locs hf
    rw [f_X12_text_137.eq_1] at hf
    cases hf
  | succ n ih =>
    intro o0 x3 h ls H locs hf I hl
    rw [f_X12_text_137.eq_2] at hf
    refine lv_iload_n hx hb dX12_text_137 rfl (lv_at hl 1 rfl) ?_
    refine lv_bipush (v := 48) hx hb dX12_text_138 (by decide) ?_
    refine lv_icmp_ge (tgt := 173) hx hb dX12_text_140 (by decide) (fun c1 => ?_) (fun c1 => ?_)
    · rw [if_pos c1] at hf
      refine lv_aload_n hx hb dX12_text_173 rfl (lv_at hl 0 rfl) ?_
      obtain ⟨v2, e3, hf⟩ := Option.bind_eq_some_iff.mp hf
      refine r_gR X I e3 lk_TrapCornerModel_58 dX12_text_174 ?_
      refine lv_aload_n hx hb dX12_text_177 rfl (lv_at hl 0 rfl) ?_
      obtain ⟨v4, e5, hf⟩ := Option.bind_eq_some_iff.mp hf
      refine r_gI X I e5 lk_TrapCornerModel_289 dX12_text_178 ?_
      refine lv_aload_n hx hb dX12_text_181 rfl (lv_at hl 0 rfl) ?_
      obtain ⟨v6, e7, hf⟩ := Option.bind_eq_some_iff.mp hf
      refine r_gR X I e7 lk_TrapCornerModel_58 dX12_text_182 ?_
      refine lv_iconst (v := 4) hx hb dX12_text_185 (by decide) ?_
      obtain ⟨v8, e9, hf⟩ := Option.bind_eq_some_iff.mp hf
      refine r_aI0 X I e9 dX12_text_186 ?_
      obtain ⟨h10, e11, hf⟩ := Option.bind_eq_some_iff.mp hf
      refine r_uI0 X I e11 dX12_text_187 (fun H locs I => ?_)
      refine lv_aload_n hx hb dX12_text_188 rfl (lv_at hl 0 rfl) ?_
      refine lv_dup hx hb dX12_text_189 rfl ?_
      obtain ⟨v12, e13, hf⟩ := Option.bind_eq_some_iff.mp hf
      refine r_gI X I e13 lk_TrapCornerModel_289 dX12_text_190 ?_
      refine lv_iconst (v := 1) hx hb dX12_text_193 (by decide) ?_
      refine lv_iadd hx hb dX12_text_194 ?_
      obtain ⟨h14, e15, hf⟩ := Option.bind_eq_some_iff.mp hf
      refine r_pI X I e15 lp_TrapCornerModel_289 dX12_text_195 (fun H locs I => ?_)
      refine lv_aload_n hx hb dX12_text_198 rfl (lv_at hl 0 rfl) ?_
      obtain ⟨v16, e17, hf⟩ := Option.bind_eq_some_iff.mp hf
      refine r_gI X I e17 lk_TrapCornerModel_289 dX12_text_199 ?_
      refine lv_iconst (v := 1) hx hb dX12_text_202 (by decide) ?_
      refine lv_isub hx hb dX12_text_203 ?_
      cases hf
      exact k_ri X I hr dX12_text_204
    · rw [if_neg c1] at hf
      refine lv_aload_n hx hb dX12_text_143 rfl (lv_at hl 0 rfl) ?_
      obtain ⟨v18, e19, hf⟩ := Option.bind_eq_some_iff.mp hf
      refine r_gR X I e19 lk_TrapCornerModel_55 dX12_text_144 ?_
      refine lv_bipush (v := 48) hx hb dX12_text_147 (by decide) ?_
      refine lv_aload_n hx hb dX12_text_149 rfl (lv_at hl 0 rfl) ?_
      obtain ⟨v20, e21, hf⟩ := Option.bind_eq_some_iff.mp hf
      refine r_gI X I e21 lk_TrapCornerModel_289 dX12_text_150 ?_
      refine lv_imul hx hb dX12_text_153 ?_
      refine lv_iload_n hx hb dX12_text_154 rfl (lv_at hl 1 rfl) ?_
      refine lv_iadd hx hb dX12_text_155 ?_
      refine lv_aload_n hx hb dX12_text_156 rfl (lv_at hl 0 rfl) ?_
      obtain ⟨v22, e23, hf⟩ := Option.bind_eq_some_iff.mp hf
      refine r_gR X I e23 lk_TrapCornerModel_55 dX12_text_157 ?_
      refine lv_sipush (v := 192) hx hb dX12_text_160 (by decide) ?_
      refine lv_iload_n hx hb dX12_text_163 rfl (lv_at hl 1 rfl) ?_
      refine lv_iadd hx hb dX12_text_164 ?_
      obtain ⟨v24, e25, hf⟩ := Option.bind_eq_some_iff.mp hf
      refine r_aI0 X I e25 dX12_text_165 ?_
      obtain ⟨h26, e27, hf⟩ := Option.bind_eq_some_iff.mp hf
      refine r_uI0 X I e27 dX12_text_166 (fun H locs I => ?_)
      refine lv_iinc (v := x3 + 1) (lv' := [(3, .int (x3 + 1)), (0, .ref (rfG g o0))]) hx hb dX12_text_167 hl (k := 1) rfl rfl (by decide) rfl (fun ls hl => ?_)
      refine lv_goto (tgt := 137) hx hb dX12_text_170 (by decide) ?_
      exact ih o0 (x3 + 1) h26 ls H locs hf I (lv_sub hl [1, 0] rfl)
def f_X12_text_352  : Nat → Nat → Int32 → AH → Option (Int32 × AH)
  | 0, _, _, _ => none
  | n + 1, o0, x3, h =>
  (gI [12] h o0 27).bind fun v1 =>
  if v1 ≤ x3 then
    (gR [12] h o0 32).bind fun v4 =>
    (gR [12] h o0 18).bind fun v6 =>
    (aI 0 h v6 1).bind fun v8 =>
    (uI 0 h v4 29 v8).bind fun h10 =>
    (pV [12] h10 o0 46 (.int 0)).bind fun h12 =>
    (pV [12] h12 o0 43 (.int 0)).bind fun h14 =>
    (pZ [12] h14 o0 49 0).bind fun h16 =>
    (gI [12] h16 o0 27).bind fun v18 =>
    some (v18, h16)
  else
    (gR [12] h o0 32).bind fun v20 =>
    (gR [12] h o0 22).bind fun v22 =>
    (aI 0 h v22 ((6 * x3) + 2)).bind fun v24 =>
    (uI 0 h v20 ((10 + (3 * x3)) + 0) v24).bind fun h26 =>
    (gR [12] h26 o0 32).bind fun v28 =>
    (gR [12] h26 o0 22).bind fun v30 =>
    (aI 0 h26 v30 ((6 * x3) + 5)).bind fun v32 =>
    (uI 0 h26 v28 ((10 + (3 * x3)) + 2) v32).bind fun h34 =>
    f_X12_text_352  n o0 (x3 + 1) h34
set_option maxHeartbeats 1000000 in
theorem w_X12_text_352 (X : Cx g p s m args meth c cX12_text 4 "TrapCornerModel") (hR : 89 ≤ R.frames ∧ 5696 ≤ R.locals) (hr : meth.sig.returnType = (some (.int))) {res : Int32 × AH} : ∀ (n : Nat) (o0 : Nat) (x3 : Int32) (h : AH) (ls : Array Slot) (H : Heap) (locs : List Loc), f_X12_text_352 n o0 x3 h = some res → Iv g s n0 z0 h H locs 0 0 → lv_has ls 4 [(0, .ref (rfG g o0)), (3, .int x3)] → W p l e R s m args below meth c H locs 0 0 (MQ below (QG g (some (.int res.1)) res.2) args s 0 0 (AG g)) (F0 m 352 ls []) := by
  have hx := X.1
  have hb := X.2.1
  intro n
  induction n with
  | zero =>
    intro o0 x3 h ls H locs hf
    rw [f_X12_text_352.eq_1] at hf
    cases hf
  | succ n ih =>
    intro o0 x3 h ls H locs hf I hl
    rw [f_X12_text_352.eq_2] at hf
    refine lv_iload_n hx hb dX12_text_352 rfl (lv_at hl 1 rfl) ?_
    refine lv_aload_n hx hb dX12_text_353 rfl (lv_at hl 0 rfl) ?_
    obtain ⟨v1, e2, hf⟩ := Option.bind_eq_some_iff.mp hf
    refine r_gI X I e2 lk_TrapCornerModel_297 dX12_text_354 ?_
    refine lv_icmp_ge (tgt := 414) hx hb dX12_text_357 (by decide) (fun c3 => ?_) (fun c3 => ?_)
    · rw [if_pos c3] at hf
      refine lv_aload_n hx hb dX12_text_414 rfl (lv_at hl 0 rfl) ?_
      obtain ⟨v4, e5, hf⟩ := Option.bind_eq_some_iff.mp hf
      refine r_gR X I e5 lk_TrapCornerModel_61 dX12_text_415 ?_
      refine lv_bipush (v := 29) hx hb dX12_text_418 (by decide) ?_
      refine lv_aload_n hx hb dX12_text_420 rfl (lv_at hl 0 rfl) ?_
      obtain ⟨v6, e7, hf⟩ := Option.bind_eq_some_iff.mp hf
      refine r_gR X I e7 lk_TrapCornerModel_37 dX12_text_421 ?_
      refine lv_iconst (v := 1) hx hb dX12_text_424 (by decide) ?_
      obtain ⟨v8, e9, hf⟩ := Option.bind_eq_some_iff.mp hf
      refine r_aI0 X I e9 dX12_text_425 ?_
      obtain ⟨h10, e11, hf⟩ := Option.bind_eq_some_iff.mp hf
      refine r_uI0 X I e11 dX12_text_426 (fun H locs I => ?_)
      refine lv_aload_n hx hb dX12_text_427 rfl (lv_at hl 0 rfl) ?_
      refine lv_iconst (v := 0) hx hb dX12_text_428 (by decide) ?_
      obtain ⟨h12, e13, hf⟩ := Option.bind_eq_some_iff.mp hf
      refine r_pI X I e13 lp_TrapCornerModel_300 dX12_text_429 (fun H locs I => ?_)
      refine lv_aload_n hx hb dX12_text_432 rfl (lv_at hl 0 rfl) ?_
      refine lv_iconst (v := 0) hx hb dX12_text_433 (by decide) ?_
      obtain ⟨h14, e15, hf⟩ := Option.bind_eq_some_iff.mp hf
      refine r_pI X I e15 lp_TrapCornerModel_303 dX12_text_434 (fun H locs I => ?_)
      refine lv_aload_n hx hb dX12_text_437 rfl (lv_at hl 0 rfl) ?_
      refine lv_iconst (v := 0) hx hb dX12_text_438 (by decide) ?_
      obtain ⟨h16, e17, hf⟩ := Option.bind_eq_some_iff.mp hf
      refine r_pZ X I e17 lp_TrapCornerModel_306 dX12_text_439 (fun H locs I => ?_)
      refine lv_aload_n hx hb dX12_text_442 rfl (lv_at hl 0 rfl) ?_
      obtain ⟨v18, e19, hf⟩ := Option.bind_eq_some_iff.mp hf
      refine r_gI X I e19 lk_TrapCornerModel_297 dX12_text_443 ?_
      cases hf
      exact k_ri X I hr dX12_text_446
    · rw [if_neg c3] at hf
      refine lv_aload_n hx hb dX12_text_360 rfl (lv_at hl 0 rfl) ?_
      obtain ⟨v20, e21, hf⟩ := Option.bind_eq_some_iff.mp hf
      refine r_gR X I e21 lk_TrapCornerModel_61 dX12_text_361 ?_
      refine lv_bipush (v := 10) hx hb dX12_text_364 (by decide) ?_
      refine lv_iconst (v := 3) hx hb dX12_text_366 (by decide) ?_
      refine lv_iload_n hx hb dX12_text_367 rfl (lv_at hl 1 rfl) ?_
      refine lv_imul hx hb dX12_text_368 ?_
      refine lv_iadd hx hb dX12_text_369 ?_
      refine lv_iconst (v := 0) hx hb dX12_text_370 (by decide) ?_
      refine lv_iadd hx hb dX12_text_371 ?_
      refine lv_aload_n hx hb dX12_text_372 rfl (lv_at hl 0 rfl) ?_
      obtain ⟨v22, e23, hf⟩ := Option.bind_eq_some_iff.mp hf
      refine r_gR X I e23 lk_TrapCornerModel_49 dX12_text_373 ?_
      refine lv_bipush (v := 6) hx hb dX12_text_376 (by decide) ?_
      refine lv_iload_n hx hb dX12_text_378 rfl (lv_at hl 1 rfl) ?_
      refine lv_imul hx hb dX12_text_379 ?_
      refine lv_iconst (v := 2) hx hb dX12_text_380 (by decide) ?_
      refine lv_iadd hx hb dX12_text_381 ?_
      obtain ⟨v24, e25, hf⟩ := Option.bind_eq_some_iff.mp hf
      refine r_aI0 X I e25 dX12_text_382 ?_
      obtain ⟨h26, e27, hf⟩ := Option.bind_eq_some_iff.mp hf
      refine r_uI0 X I e27 dX12_text_383 (fun H locs I => ?_)
      refine lv_aload_n hx hb dX12_text_384 rfl (lv_at hl 0 rfl) ?_
      obtain ⟨v28, e29, hf⟩ := Option.bind_eq_some_iff.mp hf
      refine r_gR X I e29 lk_TrapCornerModel_61 dX12_text_385 ?_
      refine lv_bipush (v := 10) hx hb dX12_text_388 (by decide) ?_
      refine lv_iconst (v := 3) hx hb dX12_text_390 (by decide) ?_
      refine lv_iload_n hx hb dX12_text_391 rfl (lv_at hl 1 rfl) ?_
      refine lv_imul hx hb dX12_text_392 ?_
      refine lv_iadd hx hb dX12_text_393 ?_
      refine lv_iconst (v := 2) hx hb dX12_text_394 (by decide) ?_
      refine lv_iadd hx hb dX12_text_395 ?_
      refine lv_aload_n hx hb dX12_text_396 rfl (lv_at hl 0 rfl) ?_
      obtain ⟨v30, e31, hf⟩ := Option.bind_eq_some_iff.mp hf
      refine r_gR X I e31 lk_TrapCornerModel_49 dX12_text_397 ?_
      refine lv_bipush (v := 6) hx hb dX12_text_400 (by decide) ?_
      refine lv_iload_n hx hb dX12_text_402 rfl (lv_at hl 1 rfl) ?_
      refine lv_imul hx hb dX12_text_403 ?_
      refine lv_iconst (v := 5) hx hb dX12_text_404 (by decide) ?_
      refine lv_iadd hx hb dX12_text_405 ?_
      obtain ⟨v32, e33, hf⟩ := Option.bind_eq_some_iff.mp hf
      refine r_aI0 X I e33 dX12_text_406 ?_
      obtain ⟨h34, e35, hf⟩ := Option.bind_eq_some_iff.mp hf
      refine r_uI0 X I e35 dX12_text_407 (fun H locs I => ?_)
      refine lv_iinc (v := x3 + 1) (lv' := [(3, .int (x3 + 1)), (0, .ref (rfG g o0))]) hx hb dX12_text_408 hl (k := 1) rfl rfl (by decide) rfl (fun ls hl => ?_)
      refine lv_goto (tgt := 352) hx hb dX12_text_411 (by decide) ?_
      exact ih o0 (x3 + 1) h34 ls H locs hf I (lv_sub hl [1, 0] rfl)
def f_X12_text_322  : Nat → Nat → Int32 → AH → Option (Int32 × AH)
  | 0, _, _, _ => none
  | n + 1, o0, x3, h =>
  (gI [12] h o0 26).bind fun v1 =>
  if (2 * v1) ≤ x3 then
    f_X12_text_352 fu o0 0 h
  else
    (gR [12] h o0 32).bind fun v4 =>
    (gR [12] h o0 20).bind fun v6 =>
    (aI 0 h v6 x3).bind fun v8 =>
    (uI 0 h v4 x3 v8).bind fun h10 =>
    f_X12_text_322  n o0 (x3 + 1) h10
set_option maxHeartbeats 1000000 in
theorem w_X12_text_322 (X : Cx g p s m args meth c cX12_text 4 "TrapCornerModel") (hR : 89 ≤ R.frames ∧ 5696 ≤ R.locals) (hr : meth.sig.returnType = (some (.int))) {res : Int32 × AH} : ∀ (n : Nat) (o0 : Nat) (x3 : Int32) (h : AH) (ls : Array Slot) (H : Heap) (locs : List Loc), f_X12_text_322 n o0 x3 h = some res → Iv g s n0 z0 h H locs 0 0 → lv_has ls 4 [(0, .ref (rfG g o0)), (3, .int x3)] → W p l e R s m args below meth c H locs 0 0 (MQ below (QG g (some (.int res.1)) res.2) args s 0 0 (AG g)) (F0 m 322 ls []) := by
  have hx := X.1
  have hb := X.2.1
  intro n
  induction n with
  | zero =>
    intro o0 x3 h ls H locs hf
    rw [f_X12_text_322.eq_1] at hf
    cases hf
  | succ n ih =>
    intro o0 x3 h ls H locs hf I hl
    rw [f_X12_text_322.eq_2] at hf
    refine lv_iload_n hx hb dX12_text_322 rfl (lv_at hl 1 rfl) ?_
    refine lv_iconst (v := 2) hx hb dX12_text_323 (by decide) ?_
    refine lv_aload_n hx hb dX12_text_324 rfl (lv_at hl 0 rfl) ?_
    obtain ⟨v1, e2, hf⟩ := Option.bind_eq_some_iff.mp hf
    refine r_gI X I e2 lk_TrapCornerModel_294 dX12_text_325 ?_
    refine lv_imul hx hb dX12_text_328 ?_
    refine lv_icmp_ge (tgt := 350) hx hb dX12_text_329 (by decide) (fun c3 => ?_) (fun c3 => ?_)
    · rw [if_pos c3] at hf
      refine lv_iconst (v := 0) hx hb dX12_text_350 (by decide) ?_
      refine lv_istore_n (lv' := [(3, .int 0), (0, .ref (rfG g o0))]) hx hb dX12_text_351 rfl hl (by decide) rfl (fun ls hl => ?_)
      exact w_X12_text_352 X hR hr fu o0 0 h ls H locs hf I (lv_sub hl [1, 0] rfl)
    · rw [if_neg c3] at hf
      refine lv_aload_n hx hb dX12_text_332 rfl (lv_at hl 0 rfl) ?_
      obtain ⟨v4, e5, hf⟩ := Option.bind_eq_some_iff.mp hf
      refine r_gR X I e5 lk_TrapCornerModel_61 dX12_text_333 ?_
      refine lv_iload_n hx hb dX12_text_336 rfl (lv_at hl 1 rfl) ?_
      refine lv_aload_n hx hb dX12_text_337 rfl (lv_at hl 0 rfl) ?_
      obtain ⟨v6, e7, hf⟩ := Option.bind_eq_some_iff.mp hf
      refine r_gR X I e7 lk_TrapCornerModel_43 dX12_text_338 ?_
      refine lv_iload_n hx hb dX12_text_341 rfl (lv_at hl 1 rfl) ?_
      obtain ⟨v8, e9, hf⟩ := Option.bind_eq_some_iff.mp hf
      refine r_aI0 X I e9 dX12_text_342 ?_
      obtain ⟨h10, e11, hf⟩ := Option.bind_eq_some_iff.mp hf
      refine r_uI0 X I e11 dX12_text_343 (fun H locs I => ?_)
      refine lv_iinc (v := x3 + 1) (lv' := [(3, .int (x3 + 1)), (0, .ref (rfG g o0))]) hx hb dX12_text_344 hl (k := 1) rfl rfl (by decide) rfl (fun ls hl => ?_)
      refine lv_goto (tgt := 322) hx hb dX12_text_347 (by decide) ?_
      exact ih o0 (x3 + 1) h10 ls H locs hf I (lv_sub hl [1, 0] rfl)
def f_X12_text_300  : Nat → Nat → Int32 → AH → Option (Int32 × AH)
  | 0, _, _, _ => none
  | n + 1, o0, x3, h =>
  if 212 ≤ x3 then
    f_X12_text_322 fu o0 0 h
  else
    (gR [12] h o0 32).bind fun v2 =>
    (uI 0 h v2 x3 0).bind fun h4 =>
    f_X12_text_300  n o0 (x3 + 1) h4
set_option maxHeartbeats 1000000 in
theorem w_X12_text_300 (X : Cx g p s m args meth c cX12_text 4 "TrapCornerModel") (hR : 89 ≤ R.frames ∧ 5696 ≤ R.locals) (hr : meth.sig.returnType = (some (.int))) {res : Int32 × AH} : ∀ (n : Nat) (o0 : Nat) (x3 : Int32) (h : AH) (ls : Array Slot) (H : Heap) (locs : List Loc), f_X12_text_300 n o0 x3 h = some res → Iv g s n0 z0 h H locs 0 0 → lv_has ls 4 [(0, .ref (rfG g o0)), (3, .int x3)] → W p l e R s m args below meth c H locs 0 0 (MQ below (QG g (some (.int res.1)) res.2) args s 0 0 (AG g)) (F0 m 300 ls []) := by
  have hx := X.1
  have hb := X.2.1
  intro n
  induction n with
  | zero =>
    intro o0 x3 h ls H locs hf
    rw [f_X12_text_300.eq_1] at hf
    cases hf
  | succ n ih =>
    intro o0 x3 h ls H locs hf I hl
    rw [f_X12_text_300.eq_2] at hf
    refine lv_iload_n hx hb dX12_text_300 rfl (lv_at hl 1 rfl) ?_
    refine lv_sipush (v := 212) hx hb dX12_text_301 (by decide) ?_
    refine lv_icmp_ge (tgt := 320) hx hb dX12_text_304 (by decide) (fun c1 => ?_) (fun c1 => ?_)
    · rw [if_pos c1] at hf
      refine lv_iconst (v := 0) hx hb dX12_text_320 (by decide) ?_
      refine lv_istore_n (lv' := [(3, .int 0), (0, .ref (rfG g o0))]) hx hb dX12_text_321 rfl hl (by decide) rfl (fun ls hl => ?_)
      exact w_X12_text_322 X hR hr fu o0 0 h ls H locs hf I (lv_sub hl [1, 0] rfl)
    · rw [if_neg c1] at hf
      refine lv_aload_n hx hb dX12_text_307 rfl (lv_at hl 0 rfl) ?_
      obtain ⟨v2, e3, hf⟩ := Option.bind_eq_some_iff.mp hf
      refine r_gR X I e3 lk_TrapCornerModel_61 dX12_text_308 ?_
      refine lv_iload_n hx hb dX12_text_311 rfl (lv_at hl 1 rfl) ?_
      refine lv_iconst (v := 0) hx hb dX12_text_312 (by decide) ?_
      obtain ⟨h4, e5, hf⟩ := Option.bind_eq_some_iff.mp hf
      refine r_uI0 X I e5 dX12_text_313 (fun H locs I => ?_)
      refine lv_iinc (v := x3 + 1) (lv' := [(3, .int (x3 + 1)), (0, .ref (rfG g o0))]) hx hb dX12_text_314 hl (k := 1) rfl rfl (by decide) rfl (fun ls hl => ?_)
      refine lv_goto (tgt := 300) hx hb dX12_text_317 (by decide) ?_
      exact ih o0 (x3 + 1) h4 ls H locs hf I (lv_sub hl [1, 0] rfl)
def f_X12_text_274  : Nat → Nat → Int32 → AH → Option (Int32 × AH)
  | 0, _, _, _ => none
  | n + 1, o0, x3, h =>
  if 36 ≤ x3 then
    f_X12_text_300 fu o0 0 h
  else
    (gR [12] h o0 22).bind fun v2 =>
    (gR [12] h o0 23).bind fun v4 =>
    (aI 0 h v4 x3).bind fun v6 =>
    (uI 0 h v2 x3 v6).bind fun h8 =>
    f_X12_text_274  n o0 (x3 + 1) h8
set_option maxHeartbeats 1000000 in
theorem w_X12_text_274 (X : Cx g p s m args meth c cX12_text 4 "TrapCornerModel") (hR : 89 ≤ R.frames ∧ 5696 ≤ R.locals) (hr : meth.sig.returnType = (some (.int))) {res : Int32 × AH} : ∀ (n : Nat) (o0 : Nat) (x3 : Int32) (h : AH) (ls : Array Slot) (H : Heap) (locs : List Loc), f_X12_text_274 n o0 x3 h = some res → Iv g s n0 z0 h H locs 0 0 → lv_has ls 4 [(0, .ref (rfG g o0)), (3, .int x3)] → W p l e R s m args below meth c H locs 0 0 (MQ below (QG g (some (.int res.1)) res.2) args s 0 0 (AG g)) (F0 m 274 ls []) := by
  have hx := X.1
  have hb := X.2.1
  intro n
  induction n with
  | zero =>
    intro o0 x3 h ls H locs hf
    rw [f_X12_text_274.eq_1] at hf
    cases hf
  | succ n ih =>
    intro o0 x3 h ls H locs hf I hl
    rw [f_X12_text_274.eq_2] at hf
    refine lv_iload_n hx hb dX12_text_274 rfl (lv_at hl 1 rfl) ?_
    refine lv_bipush (v := 36) hx hb dX12_text_275 (by decide) ?_
    refine lv_icmp_ge (tgt := 298) hx hb dX12_text_277 (by decide) (fun c1 => ?_) (fun c1 => ?_)
    · rw [if_pos c1] at hf
      refine lv_iconst (v := 0) hx hb dX12_text_298 (by decide) ?_
      refine lv_istore_n (lv' := [(3, .int 0), (0, .ref (rfG g o0))]) hx hb dX12_text_299 rfl hl (by decide) rfl (fun ls hl => ?_)
      exact w_X12_text_300 X hR hr fu o0 0 h ls H locs hf I (lv_sub hl [1, 0] rfl)
    · rw [if_neg c1] at hf
      refine lv_aload_n hx hb dX12_text_280 rfl (lv_at hl 0 rfl) ?_
      obtain ⟨v2, e3, hf⟩ := Option.bind_eq_some_iff.mp hf
      refine r_gR X I e3 lk_TrapCornerModel_49 dX12_text_281 ?_
      refine lv_iload_n hx hb dX12_text_284 rfl (lv_at hl 1 rfl) ?_
      refine lv_aload_n hx hb dX12_text_285 rfl (lv_at hl 0 rfl) ?_
      obtain ⟨v4, e5, hf⟩ := Option.bind_eq_some_iff.mp hf
      refine r_gR X I e5 lk_TrapCornerModel_52 dX12_text_286 ?_
      refine lv_iload_n hx hb dX12_text_289 rfl (lv_at hl 1 rfl) ?_
      obtain ⟨v6, e7, hf⟩ := Option.bind_eq_some_iff.mp hf
      refine r_aI0 X I e7 dX12_text_290 ?_
      obtain ⟨h8, e9, hf⟩ := Option.bind_eq_some_iff.mp hf
      refine r_uI0 X I e9 dX12_text_291 (fun H locs I => ?_)
      refine lv_iinc (v := x3 + 1) (lv' := [(3, .int (x3 + 1)), (0, .ref (rfG g o0))]) hx hb dX12_text_292 hl (k := 1) rfl rfl (by decide) rfl (fun ls hl => ?_)
      refine lv_goto (tgt := 274) hx hb dX12_text_295 (by decide) ?_
      exact ih o0 (x3 + 1) h8 ls H locs hf I (lv_sub hl [1, 0] rfl)
def f_X12_text_248  : Nat → Nat → Int32 → AH → Option (Int32 × AH)
  | 0, _, _, _ => none
  | n + 1, o0, x3, h =>
  if 10 ≤ x3 then
    f_X12_text_274 fu o0 0 h
  else
    (gR [12] h o0 20).bind fun v2 =>
    (gR [12] h o0 21).bind fun v4 =>
    (aI 0 h v4 x3).bind fun v6 =>
    (uI 0 h v2 x3 v6).bind fun h8 =>
    f_X12_text_248  n o0 (x3 + 1) h8
set_option maxHeartbeats 1000000 in
theorem w_X12_text_248 (X : Cx g p s m args meth c cX12_text 4 "TrapCornerModel") (hR : 89 ≤ R.frames ∧ 5696 ≤ R.locals) (hr : meth.sig.returnType = (some (.int))) {res : Int32 × AH} : ∀ (n : Nat) (o0 : Nat) (x3 : Int32) (h : AH) (ls : Array Slot) (H : Heap) (locs : List Loc), f_X12_text_248 n o0 x3 h = some res → Iv g s n0 z0 h H locs 0 0 → lv_has ls 4 [(0, .ref (rfG g o0)), (3, .int x3)] → W p l e R s m args below meth c H locs 0 0 (MQ below (QG g (some (.int res.1)) res.2) args s 0 0 (AG g)) (F0 m 248 ls []) := by
  have hx := X.1
  have hb := X.2.1
  intro n
  induction n with
  | zero =>
    intro o0 x3 h ls H locs hf
    rw [f_X12_text_248.eq_1] at hf
    cases hf
  | succ n ih =>
    intro o0 x3 h ls H locs hf I hl
    rw [f_X12_text_248.eq_2] at hf
    refine lv_iload_n hx hb dX12_text_248 rfl (lv_at hl 1 rfl) ?_
    refine lv_bipush (v := 10) hx hb dX12_text_249 (by decide) ?_
    refine lv_icmp_ge (tgt := 272) hx hb dX12_text_251 (by decide) (fun c1 => ?_) (fun c1 => ?_)
    · rw [if_pos c1] at hf
      refine lv_iconst (v := 0) hx hb dX12_text_272 (by decide) ?_
      refine lv_istore_n (lv' := [(3, .int 0), (0, .ref (rfG g o0))]) hx hb dX12_text_273 rfl hl (by decide) rfl (fun ls hl => ?_)
      exact w_X12_text_274 X hR hr fu o0 0 h ls H locs hf I (lv_sub hl [1, 0] rfl)
    · rw [if_neg c1] at hf
      refine lv_aload_n hx hb dX12_text_254 rfl (lv_at hl 0 rfl) ?_
      obtain ⟨v2, e3, hf⟩ := Option.bind_eq_some_iff.mp hf
      refine r_gR X I e3 lk_TrapCornerModel_43 dX12_text_255 ?_
      refine lv_iload_n hx hb dX12_text_258 rfl (lv_at hl 1 rfl) ?_
      refine lv_aload_n hx hb dX12_text_259 rfl (lv_at hl 0 rfl) ?_
      obtain ⟨v4, e5, hf⟩ := Option.bind_eq_some_iff.mp hf
      refine r_gR X I e5 lk_TrapCornerModel_46 dX12_text_260 ?_
      refine lv_iload_n hx hb dX12_text_263 rfl (lv_at hl 1 rfl) ?_
      obtain ⟨v6, e7, hf⟩ := Option.bind_eq_some_iff.mp hf
      refine r_aI0 X I e7 dX12_text_264 ?_
      obtain ⟨h8, e9, hf⟩ := Option.bind_eq_some_iff.mp hf
      refine r_uI0 X I e9 dX12_text_265 (fun H locs I => ?_)
      refine lv_iinc (v := x3 + 1) (lv' := [(3, .int (x3 + 1)), (0, .ref (rfG g o0))]) hx hb dX12_text_266 hl (k := 1) rfl rfl (by decide) rfl (fun ls hl => ?_)
      refine lv_goto (tgt := 248) hx hb dX12_text_269 (by decide) ?_
      exact ih o0 (x3 + 1) h8 ls H locs hf I (lv_sub hl [1, 0] rfl)
def f_X12_text_223  : Nat → Nat → Int32 → AH → Option (Int32 × AH)
  | 0, _, _, _ => none
  | n + 1, o0, x3, h =>
  if 3 ≤ x3 then
    f_X12_text_248 fu o0 0 h
  else
    (gR [12] h o0 18).bind fun v2 =>
    (gR [12] h o0 19).bind fun v4 =>
    (aI 0 h v4 x3).bind fun v6 =>
    (uI 0 h v2 x3 v6).bind fun h8 =>
    f_X12_text_223  n o0 (x3 + 1) h8
set_option maxHeartbeats 1000000 in
theorem w_X12_text_223 (X : Cx g p s m args meth c cX12_text 4 "TrapCornerModel") (hR : 89 ≤ R.frames ∧ 5696 ≤ R.locals) (hr : meth.sig.returnType = (some (.int))) {res : Int32 × AH} : ∀ (n : Nat) (o0 : Nat) (x3 : Int32) (h : AH) (ls : Array Slot) (H : Heap) (locs : List Loc), f_X12_text_223 n o0 x3 h = some res → Iv g s n0 z0 h H locs 0 0 → lv_has ls 4 [(0, .ref (rfG g o0)), (3, .int x3)] → W p l e R s m args below meth c H locs 0 0 (MQ below (QG g (some (.int res.1)) res.2) args s 0 0 (AG g)) (F0 m 223 ls []) := by
  have hx := X.1
  have hb := X.2.1
  intro n
  induction n with
  | zero =>
    intro o0 x3 h ls H locs hf
    rw [f_X12_text_223.eq_1] at hf
    cases hf
  | succ n ih =>
    intro o0 x3 h ls H locs hf I hl
    rw [f_X12_text_223.eq_2] at hf
    refine lv_iload_n hx hb dX12_text_223 rfl (lv_at hl 1 rfl) ?_
    refine lv_iconst (v := 3) hx hb dX12_text_224 (by decide) ?_
    refine lv_icmp_ge (tgt := 246) hx hb dX12_text_225 (by decide) (fun c1 => ?_) (fun c1 => ?_)
    · rw [if_pos c1] at hf
      refine lv_iconst (v := 0) hx hb dX12_text_246 (by decide) ?_
      refine lv_istore_n (lv' := [(3, .int 0), (0, .ref (rfG g o0))]) hx hb dX12_text_247 rfl hl (by decide) rfl (fun ls hl => ?_)
      exact w_X12_text_248 X hR hr fu o0 0 h ls H locs hf I (lv_sub hl [1, 0] rfl)
    · rw [if_neg c1] at hf
      refine lv_aload_n hx hb dX12_text_228 rfl (lv_at hl 0 rfl) ?_
      obtain ⟨v2, e3, hf⟩ := Option.bind_eq_some_iff.mp hf
      refine r_gR X I e3 lk_TrapCornerModel_37 dX12_text_229 ?_
      refine lv_iload_n hx hb dX12_text_232 rfl (lv_at hl 1 rfl) ?_
      refine lv_aload_n hx hb dX12_text_233 rfl (lv_at hl 0 rfl) ?_
      obtain ⟨v4, e5, hf⟩ := Option.bind_eq_some_iff.mp hf
      refine r_gR X I e5 lk_TrapCornerModel_40 dX12_text_234 ?_
      refine lv_iload_n hx hb dX12_text_237 rfl (lv_at hl 1 rfl) ?_
      obtain ⟨v6, e7, hf⟩ := Option.bind_eq_some_iff.mp hf
      refine r_aI0 X I e7 dX12_text_238 ?_
      obtain ⟨h8, e9, hf⟩ := Option.bind_eq_some_iff.mp hf
      refine r_uI0 X I e9 dX12_text_239 (fun H locs I => ?_)
      refine lv_iinc (v := x3 + 1) (lv' := [(3, .int (x3 + 1)), (0, .ref (rfG g o0))]) hx hb dX12_text_240 hl (k := 1) rfl rfl (by decide) rfl (fun ls hl => ?_)
      refine lv_goto (tgt := 223) hx hb dX12_text_243 (by decide) ?_
      exact ih o0 (x3 + 1) h8 ls H locs hf I (lv_sub hl [1, 0] rfl)
def f_X12_text_43  (o0 : Nat) (x1 : Int32) (h : AH) : Option (Int32 × AH) :=
  (isC [12] h o0).bind fun _ =>
  cN (f_X12_fault o0 x1 h) h fun v1 h2 =>
  if v1 = ((-1)) then
    (gI [12] h2 o0 6).bind fun v7 =>
    (pV [12] h2 o0 6 (.int 0)).bind fun h9 =>
    if x1 = 1 then
      f_X12_text_71 fu o0 v7 0 h9
    else
      if x1 = 2 then
        f_X12_text_137 fu o0 0 h9
      else
        (gI [12] h9 o0 28).bind fun v13 =>
        (pV [12] h9 o0 26 (.int v13)).bind fun h15 =>
        (gI [12] h15 o0 29).bind fun v17 =>
        (pV [12] h15 o0 27 (.int v17)).bind fun h19 =>
        f_X12_text_223 fu o0 0 h19
  else
    some ((-1), h2)
set_option maxHeartbeats 1000000 in
theorem w_X12_text_43 (X : Cx g p s m args meth c cX12_text 4 "TrapCornerModel") (hR : 89 ≤ R.frames ∧ 5696 ≤ R.locals) (hr : meth.sig.returnType = (some (.int))) {res : Int32 × AH} : ∀ (o0 : Nat) (x1 : Int32) (h : AH) (ls : Array Slot) (H : Heap) (locs : List Loc), f_X12_text_43 o0 x1 h = some res → Iv g s n0 z0 h H locs 0 0 → lv_has ls 4 [(0, .ref (rfG g o0)), (1, .int x1)] → W p l e R s m args below meth c H locs 0 0 (MQ below (QG g (some (.int res.1)) res.2) args s 0 0 (AG g)) (F0 m 43 ls []) := by
  have hx := X.1
  have hb := X.2.1
  intro o0 x1 h ls H locs hf I hl
  unfold f_X12_text_43 at hf
  refine lv_aload_n hx hb dX12_text_43 rfl (lv_at hl 0 rfl) ?_
  refine lv_iload_n hx hb dX12_text_44 rfl (lv_at hl 1 rfl) ?_
  obtain ⟨_, g5, hf⟩ := Option.bind_eq_some_iff.mp hf
  obtain ⟨v1, h2, e3, z4, hf⟩ := cN_spec hf
  refine k_Vi (As := [.int x1]) (rest := []) X I (c_X12_fault l g o0 x1 e3) z4 g5 vk_TrapCornerModel_292 tw_1461 ⟨Nat.le_trans (by decide) hR.1, Nat.le_trans (by decide) hR.2⟩ ⟨Nat.zero_le _, Nat.zero_le _⟩ rfl hl.1 rfl (Nat.le_of_ble_eq_true rfl) dX12_text_45 (fun H locs I => ?_)
  refine lv_iconst (v := (-1)) hx hb dX12_text_48 (by decide) ?_
  refine lv_icmp_eq (tgt := 54) hx hb dX12_text_49 (by decide) (fun c6 => ?_) (fun c6 => ?_)
  · rw [if_pos c6] at hf
    refine lv_aload_n hx hb dX12_text_54 rfl (lv_at hl 0 rfl) ?_
    obtain ⟨v7, e8, hf⟩ := Option.bind_eq_some_iff.mp hf
    refine r_gI X I e8 lk_TrapCornerModel_109 dX12_text_55 ?_
    refine lv_istore_n (lv' := [(2, .int v7), (0, .ref (rfG g o0)), (1, .int x1)]) hx hb dX12_text_58 rfl hl (by decide) rfl (fun ls hl => ?_)
    refine lv_aload_n hx hb dX12_text_59 rfl (lv_at hl 1 rfl) ?_
    refine lv_iconst (v := 0) hx hb dX12_text_60 (by decide) ?_
    obtain ⟨h9, e10, hf⟩ := Option.bind_eq_some_iff.mp hf
    refine r_pI X I e10 lp_TrapCornerModel_109 dX12_text_61 (fun H locs I => ?_)
    refine lv_iload_n hx hb dX12_text_64 rfl (lv_at hl 2 rfl) ?_
    refine lv_iconst (v := 1) hx hb dX12_text_65 (by decide) ?_
    refine lv_icmp_ne (tgt := 130) hx hb dX12_text_66 (by decide) (fun c11 => ?_) (fun c11 => ?_)
    · rw [if_neg c11] at hf
      refine lv_iload_n hx hb dX12_text_130 rfl (lv_at hl 2 rfl) ?_
      refine lv_iconst (v := 2) hx hb dX12_text_131 (by decide) ?_
      refine lv_icmp_ne (tgt := 205) hx hb dX12_text_132 (by decide) (fun c12 => ?_) (fun c12 => ?_)
      · rw [if_neg c12] at hf
        refine lv_aload_n hx hb dX12_text_205 rfl (lv_at hl 1 rfl) ?_
        refine lv_aload_n hx hb dX12_text_206 rfl (lv_at hl 1 rfl) ?_
        obtain ⟨v13, e14, hf⟩ := Option.bind_eq_some_iff.mp hf
        refine r_gI X I e14 lk_TrapCornerModel_245 dX12_text_207 ?_
        obtain ⟨h15, e16, hf⟩ := Option.bind_eq_some_iff.mp hf
        refine r_pI X I e16 lp_TrapCornerModel_294 dX12_text_210 (fun H locs I => ?_)
        refine lv_aload_n hx hb dX12_text_213 rfl (lv_at hl 1 rfl) ?_
        refine lv_aload_n hx hb dX12_text_214 rfl (lv_at hl 1 rfl) ?_
        obtain ⟨v17, e18, hf⟩ := Option.bind_eq_some_iff.mp hf
        refine r_gI X I e18 lk_TrapCornerModel_248 dX12_text_215 ?_
        obtain ⟨h19, e20, hf⟩ := Option.bind_eq_some_iff.mp hf
        refine r_pI X I e20 lp_TrapCornerModel_297 dX12_text_218 (fun H locs I => ?_)
        refine lv_iconst (v := 0) hx hb dX12_text_221 (by decide) ?_
        refine lv_istore_n (lv' := [(3, .int 0), (2, .int v7), (0, .ref (rfG g o0)), (1, .int x1)]) hx hb dX12_text_222 rfl hl (by decide) rfl (fun ls hl => ?_)
        exact w_X12_text_223 X hR hr fu o0 0 h19 ls H locs hf I (lv_sub hl [2, 0] rfl)
      · rw [if_pos c12] at hf
        refine lv_iconst (v := 0) hx hb dX12_text_135 (by decide) ?_
        refine lv_istore_n (lv' := [(3, .int 0), (2, .int v7), (0, .ref (rfG g o0)), (1, .int x1)]) hx hb dX12_text_136 rfl hl (by decide) rfl (fun ls hl => ?_)
        exact w_X12_text_137 X hR hr fu o0 0 h9 ls H locs hf I (lv_sub hl [2, 0] rfl)
    · rw [if_pos c11] at hf
      refine lv_iconst (v := 0) hx hb dX12_text_69 (by decide) ?_
      refine lv_istore_n (lv' := [(3, .int 0), (2, .int v7), (0, .ref (rfG g o0)), (1, .int x1)]) hx hb dX12_text_70 rfl hl (by decide) rfl (fun ls hl => ?_)
      exact w_X12_text_71 X hR hr fu o0 v7 0 h9 ls H locs hf I (lv_sub hl [2, 1, 0] rfl)
  · rw [if_neg c6] at hf
    refine lv_iconst (v := (-1)) hx hb dX12_text_52 (by decide) ?_
    cases hf
    exact k_ri X I hr dX12_text_53
def f_X12_text_30  (o0 : Nat) (x1 : Int32) (h : AH) : Option (Int32 × AH) :=
  if x1 = 2 then
    (gI [12] h o0 30).bind fun v2 =>
    if v2 = 4 then
      some ((-1), h)
    else
      f_X12_text_43 o0 x1 h
  else
    f_X12_text_43 o0 x1 h
set_option maxHeartbeats 1000000 in
theorem w_X12_text_30 (X : Cx g p s m args meth c cX12_text 4 "TrapCornerModel") (hR : 89 ≤ R.frames ∧ 5696 ≤ R.locals) (hr : meth.sig.returnType = (some (.int))) {res : Int32 × AH} : ∀ (o0 : Nat) (x1 : Int32) (h : AH) (ls : Array Slot) (H : Heap) (locs : List Loc), f_X12_text_30 o0 x1 h = some res → Iv g s n0 z0 h H locs 0 0 → lv_has ls 4 [(0, .ref (rfG g o0)), (1, .int x1)] → W p l e R s m args below meth c H locs 0 0 (MQ below (QG g (some (.int res.1)) res.2) args s 0 0 (AG g)) (F0 m 30 ls []) := by
  have hx := X.1
  have hb := X.2.1
  intro o0 x1 h ls H locs hf I hl
  unfold f_X12_text_30 at hf
  refine lv_iload_n hx hb dX12_text_30 rfl (lv_at hl 1 rfl) ?_
  refine lv_iconst (v := 2) hx hb dX12_text_31 (by decide) ?_
  refine lv_icmp_ne (tgt := 43) hx hb dX12_text_32 (by decide) (fun c1 => ?_) (fun c1 => ?_)
  · rw [if_neg c1] at hf
    exact w_X12_text_43 X hR hr  o0 x1 h ls H locs hf I (lv_sub hl [0, 1] rfl)
  · rw [if_pos c1] at hf
    refine lv_aload_n hx hb dX12_text_35 rfl (lv_at hl 0 rfl) ?_
    obtain ⟨v2, e3, hf⟩ := Option.bind_eq_some_iff.mp hf
    refine r_gI X I e3 lk_TrapCornerModel_289 dX12_text_36 ?_
    refine lv_iconst (v := 4) hx hb dX12_text_39 (by decide) ?_
    refine lv_icmp_eq (tgt := 52) hx hb dX12_text_40 (by decide) (fun c4 => ?_) (fun c4 => ?_)
    · rw [if_pos c4] at hf
      refine lv_iconst (v := (-1)) hx hb dX12_text_52 (by decide) ?_
      cases hf
      exact k_ri X I hr dX12_text_53
    · rw [if_neg c4] at hf
      exact w_X12_text_43 X hR hr  o0 x1 h ls H locs hf I (lv_sub hl [0, 1] rfl)
def f_X12_text_0  (o0 : Nat) (x1 : Int32) (h : AH) : Option (Int32 × AH) :=
  (pV [12] h o0 0 (.int 0)).bind fun h1 =>
  cN (f_X12_isIn (x1.toInt64) 0 2 h1) h1 fun v3 h4 =>
  if v3 = 0 then
    some ((-1), h4)
  else
    if x1 = 1 then
      (gI [12] h4 o0 7).bind fun v9 =>
      if v9 = 4 then
        some ((-1), h4)
      else
        f_X12_text_30 o0 x1 h4
    else
      f_X12_text_30 o0 x1 h4
set_option maxHeartbeats 1000000 in
theorem w_X12_text_0 (X : Cx g p s m args meth c cX12_text 4 "TrapCornerModel") (hR : 89 ≤ R.frames ∧ 5696 ≤ R.locals) (hr : meth.sig.returnType = (some (.int))) {res : Int32 × AH} : ∀ (o0 : Nat) (x1 : Int32) (h : AH) (ls : Array Slot) (H : Heap) (locs : List Loc), f_X12_text_0 o0 x1 h = some res → Iv g s n0 z0 h H locs 0 0 → lv_has ls 4 [(0, .ref (rfG g o0)), (1, .int x1)] → W p l e R s m args below meth c H locs 0 0 (MQ below (QG g (some (.int res.1)) res.2) args s 0 0 (AG g)) (F0 m 0 ls []) := by
  have hx := X.1
  have hb := X.2.1
  intro o0 x1 h ls H locs hf I hl
  unfold f_X12_text_0 at hf
  refine lv_aload_n hx hb dX12_text_0 rfl (lv_at hl 0 rfl) ?_
  refine lv_iconst (v := 0) hx hb dX12_text_1 (by decide) ?_
  obtain ⟨h1, e2, hf⟩ := Option.bind_eq_some_iff.mp hf
  refine r_pI X I e2 lp_TrapCornerModel_96 dX12_text_2 (fun H locs I => ?_)
  refine lv_iload_n hx hb dX12_text_5 rfl (lv_at hl 1 rfl) ?_
  refine lv_i2l hx hb dX12_text_6 rfl ?_
  refine lv_lconst (v := 0) hx hb dX12_text_7 (by decide) ?_
  refine lv_ldc2 (v := 2) hx hb X.2.2.2.1 (X.2.2.2.2.1 _ tw_1462) dX12_text_8 ?_
  obtain ⟨v3, h4, e5, z6, hf⟩ := cN_spec hf
  refine k_Si (As := [.long (x1.toInt64), .long 0, .long 2]) (rest := []) X I (c_X12_isIn l g (x1.toInt64) 0 2 e5) z6 sk_TrapCornerModel_217 tw_1465 ⟨Nat.le_trans (by decide) hR.1, Nat.le_trans (by decide) hR.2⟩ ⟨Nat.zero_le _, Nat.zero_le _⟩ rfl hl.1 rfl (Nat.le_of_ble_eq_true rfl) dX12_text_11 (fun H locs I => ?_)
  refine lv_if_eq (tgt := 52) hx hb dX12_text_14 (by decide) (fun c7 => ?_) (fun c7 => ?_)
  · rw [if_pos c7] at hf
    refine lv_iconst (v := (-1)) hx hb dX12_text_52 (by decide) ?_
    cases hf
    exact k_ri X I hr dX12_text_53
  · rw [if_neg c7] at hf
    refine lv_iload_n hx hb dX12_text_17 rfl (lv_at hl 1 rfl) ?_
    refine lv_iconst (v := 1) hx hb dX12_text_18 (by decide) ?_
    refine lv_icmp_ne (tgt := 30) hx hb dX12_text_19 (by decide) (fun c8 => ?_) (fun c8 => ?_)
    · rw [if_neg c8] at hf
      exact w_X12_text_30 X hR hr  o0 x1 h4 ls H locs hf I (lv_sub hl [0, 1] rfl)
    · rw [if_pos c8] at hf
      refine lv_aload_n hx hb dX12_text_22 rfl (lv_at hl 0 rfl) ?_
      obtain ⟨v9, e10, hf⟩ := Option.bind_eq_some_iff.mp hf
      refine r_gI X I e10 lk_TrapCornerModel_286 dX12_text_23 ?_
      refine lv_iconst (v := 4) hx hb dX12_text_26 (by decide) ?_
      refine lv_icmp_eq (tgt := 52) hx hb dX12_text_27 (by decide) (fun c11 => ?_) (fun c11 => ?_)
      · rw [if_pos c11] at hf
        refine lv_iconst (v := (-1)) hx hb dX12_text_52 (by decide) ?_
        cases hf
        exact k_ri X I hr dX12_text_53
      · rw [if_neg c11] at hf
        exact w_X12_text_30 X hR hr  o0 x1 h4 ls H locs hf I (lv_sub hl [0, 1] rfl)
def f_X12_text (o0 : Nat) (x1 : Int32) (h : AH) : Option (Int32 × AH) := f_X12_text_0 o0 x1 h
end
theorem c_X12_text (l : Launch) (g : GG) (o0 : Nat) (x1 : Int32) {h : AH} {res : Int32 × AH} (hf : f_X12_text o0 x1 h = some res) : CM l g yX12_text cX12_text 4 (some (.int)) 89 5696 0 0 [.ref (rfG g o0), .int x1] h (some (.int res.1)) res.2 :=
  k_body (by decide) (Nat.le_of_ble_eq_true rfl) (fun p e s m below meth c R ls hR hr X I hl => w_X12_text_0 X ⟨Nat.le_of_eq hR.1.symm, Nat.le_of_eq hR.2.1.symm⟩ hr o0 x1 h ls s.heap [] hf I (lv_sub hl [0, 1] rfl))
/-! TrapCornerModel.worthOf(ZIIIII)I -/
theorem dX12_worthOf_0 : decode cX12_worthOf 0 = .ok (.ldc2_w 275, 3) := by decide +kernel
theorem dX12_worthOf_3 : decode cX12_worthOf 3 = .ok (.iconst 2, 1) := by decide +kernel
theorem dX12_worthOf_4 : decode cX12_worthOf 4 = .ok (.aload_n 0, 1) := by decide +kernel
theorem dX12_worthOf_5 : decode cX12_worthOf 5 = .ok (.getfield 67, 3) := by decide +kernel
theorem dX12_worthOf_8 : decode cX12_worthOf 8 = .ok (.imul, 1) := by decide +kernel
theorem dX12_worthOf_9 : decode cX12_worthOf 9 = .ok (.i2l, 1) := by decide +kernel
theorem dX12_worthOf_10 : decode cX12_worthOf 10 = .ok (.ladd, 1) := by decide +kernel
theorem dX12_worthOf_11 : decode cX12_worthOf 11 = .ok (.iload_n 1, 1) := by decide +kernel
theorem dX12_worthOf_12 : decode cX12_worthOf 12 = .ok (.ifCond .eq 7, 3) := by decide +kernel
theorem dX12_worthOf_15 : decode cX12_worthOf 15 = .ok (.iconst 1, 1) := by decide +kernel
theorem dX12_worthOf_16 : decode cX12_worthOf 16 = .ok (.goto 4, 3) := by decide +kernel
theorem dX12_worthOf_19 : decode cX12_worthOf 19 = .ok (.iconst 0, 1) := by decide +kernel
theorem dX12_worthOf_20 : decode cX12_worthOf 20 = .ok (.i2l, 1) := by decide +kernel
theorem dX12_worthOf_21 : decode cX12_worthOf 21 = .ok (.ladd, 1) := by decide +kernel
theorem dX12_worthOf_22 : decode cX12_worthOf 22 = .ok (.lstore 7, 2) := by decide +kernel
theorem dX12_worthOf_24 : decode cX12_worthOf 24 = .ok (.ldc2_w 309, 3) := by decide +kernel
theorem dX12_worthOf_27 : decode cX12_worthOf 27 = .ok (.lload 7, 2) := by decide +kernel
theorem dX12_worthOf_29 : decode cX12_worthOf 29 = .ok (.lmul, 1) := by decide +kernel
theorem dX12_worthOf_30 : decode cX12_worthOf 30 = .ok (.iload_n 2, 1) := by decide +kernel
theorem dX12_worthOf_31 : decode cX12_worthOf 31 = .ok (.i2l, 1) := by decide +kernel
theorem dX12_worthOf_32 : decode cX12_worthOf 32 = .ok (.ladd, 1) := by decide +kernel
theorem dX12_worthOf_33 : decode cX12_worthOf 33 = .ok (.lstore 7, 2) := by decide +kernel
theorem dX12_worthOf_35 : decode cX12_worthOf 35 = .ok (.ldc2_w 309, 3) := by decide +kernel
theorem dX12_worthOf_38 : decode cX12_worthOf 38 = .ok (.lload 7, 2) := by decide +kernel
theorem dX12_worthOf_40 : decode cX12_worthOf 40 = .ok (.lmul, 1) := by decide +kernel
theorem dX12_worthOf_41 : decode cX12_worthOf 41 = .ok (.iload_n 3, 1) := by decide +kernel
theorem dX12_worthOf_42 : decode cX12_worthOf 42 = .ok (.i2l, 1) := by decide +kernel
theorem dX12_worthOf_43 : decode cX12_worthOf 43 = .ok (.ladd, 1) := by decide +kernel
theorem dX12_worthOf_44 : decode cX12_worthOf 44 = .ok (.lstore 7, 2) := by decide +kernel
theorem dX12_worthOf_46 : decode cX12_worthOf 46 = .ok (.ldc2_w 309, 3) := by decide +kernel
theorem dX12_worthOf_49 : decode cX12_worthOf 49 = .ok (.lload 7, 2) := by decide +kernel
theorem dX12_worthOf_51 : decode cX12_worthOf 51 = .ok (.lmul, 1) := by decide +kernel
theorem dX12_worthOf_52 : decode cX12_worthOf 52 = .ok (.iload 4, 2) := by decide +kernel
theorem dX12_worthOf_54 : decode cX12_worthOf 54 = .ok (.i2l, 1) := by decide +kernel
theorem dX12_worthOf_55 : decode cX12_worthOf 55 = .ok (.ladd, 1) := by decide +kernel
theorem dX12_worthOf_56 : decode cX12_worthOf 56 = .ok (.lstore 7, 2) := by decide +kernel
theorem dX12_worthOf_58 : decode cX12_worthOf 58 = .ok (.ldc2_w 311, 3) := by decide +kernel
theorem dX12_worthOf_61 : decode cX12_worthOf 61 = .ok (.lload 7, 2) := by decide +kernel
theorem dX12_worthOf_63 : decode cX12_worthOf 63 = .ok (.lmul, 1) := by decide +kernel
theorem dX12_worthOf_64 : decode cX12_worthOf 64 = .ok (.iload 5, 2) := by decide +kernel
theorem dX12_worthOf_66 : decode cX12_worthOf 66 = .ok (.i2l, 1) := by decide +kernel
theorem dX12_worthOf_67 : decode cX12_worthOf 67 = .ok (.ladd, 1) := by decide +kernel
theorem dX12_worthOf_68 : decode cX12_worthOf 68 = .ok (.lstore 7, 2) := by decide +kernel
theorem dX12_worthOf_70 : decode cX12_worthOf 70 = .ok (.ldc2_w 313, 3) := by decide +kernel
theorem dX12_worthOf_73 : decode cX12_worthOf 73 = .ok (.lload 7, 2) := by decide +kernel
theorem dX12_worthOf_75 : decode cX12_worthOf 75 = .ok (.lmul, 1) := by decide +kernel
theorem dX12_worthOf_76 : decode cX12_worthOf 76 = .ok (.iload 6, 2) := by decide +kernel
theorem dX12_worthOf_78 : decode cX12_worthOf 78 = .ok (.i2l, 1) := by decide +kernel
theorem dX12_worthOf_79 : decode cX12_worthOf 79 = .ok (.ladd, 1) := by decide +kernel
theorem dX12_worthOf_80 : decode cX12_worthOf 80 = .ok (.lstore 7, 2) := by decide +kernel
theorem dX12_worthOf_82 : decode cX12_worthOf 82 = .ok (.lload 7, 2) := by decide +kernel
theorem dX12_worthOf_84 : decode cX12_worthOf 84 = .ok (.ldc2_w 315, 3) := by decide +kernel
theorem dX12_worthOf_87 : decode cX12_worthOf 87 = .ok (.lrem, 1) := by decide +kernel
theorem dX12_worthOf_88 : decode cX12_worthOf 88 = .ok (.l2i, 1) := by decide +kernel
theorem dX12_worthOf_89 : decode cX12_worthOf 89 = .ok (.istore 9, 2) := by decide +kernel
theorem dX12_worthOf_91 : decode cX12_worthOf 91 = .ok (.aload_n 0, 1) := by decide +kernel
theorem dX12_worthOf_92 : decode cX12_worthOf 92 = .ok (.getfield 74, 3) := by decide +kernel
theorem dX12_worthOf_95 : decode cX12_worthOf 95 = .ok (.iload 9, 2) := by decide +kernel
theorem dX12_worthOf_97 : decode cX12_worthOf 97 = .ok (.laload, 1) := by decide +kernel
theorem dX12_worthOf_98 : decode cX12_worthOf 98 = .ok (.lload 7, 2) := by decide +kernel
theorem dX12_worthOf_100 : decode cX12_worthOf 100 = .ok (.lcmp, 1) := by decide +kernel
theorem dX12_worthOf_101 : decode cX12_worthOf 101 = .ok (.ifCond .ne 11, 3) := by decide +kernel
theorem dX12_worthOf_104 : decode cX12_worthOf 104 = .ok (.aload_n 0, 1) := by decide +kernel
theorem dX12_worthOf_105 : decode cX12_worthOf 105 = .ok (.getfield 78, 3) := by decide +kernel
theorem dX12_worthOf_108 : decode cX12_worthOf 108 = .ok (.iload 9, 2) := by decide +kernel
theorem dX12_worthOf_110 : decode cX12_worthOf 110 = .ok (.iaload, 1) := by decide +kernel
theorem dX12_worthOf_111 : decode cX12_worthOf 111 = .ok (.ireturn, 1) := by decide +kernel
theorem dX12_worthOf_112 : decode cX12_worthOf 112 = .ok (.aload_n 0, 1) := by decide +kernel
theorem dX12_worthOf_113 : decode cX12_worthOf 113 = .ok (.getfield 20, 3) := by decide +kernel
theorem dX12_worthOf_116 : decode cX12_worthOf 116 = .ok (.bipush 109, 2) := by decide +kernel
theorem dX12_worthOf_118 : decode cX12_worthOf 118 = .ok (.iload_n 1, 1) := by decide +kernel
theorem dX12_worthOf_119 : decode cX12_worthOf 119 = .ok (.ifCond .eq 7, 3) := by decide +kernel
theorem dX12_worthOf_122 : decode cX12_worthOf 122 = .ok (.iconst 1, 1) := by decide +kernel
theorem dX12_worthOf_123 : decode cX12_worthOf 123 = .ok (.goto 4, 3) := by decide +kernel
theorem dX12_worthOf_126 : decode cX12_worthOf 126 = .ok (.iconst 0, 1) := by decide +kernel
theorem dX12_worthOf_127 : decode cX12_worthOf 127 = .ok (.iastore, 1) := by decide +kernel
theorem dX12_worthOf_128 : decode cX12_worthOf 128 = .ok (.aload_n 0, 1) := by decide +kernel
theorem dX12_worthOf_129 : decode cX12_worthOf 129 = .ok (.getfield 20, 3) := by decide +kernel
theorem dX12_worthOf_132 : decode cX12_worthOf 132 = .ok (.bipush 103, 2) := by decide +kernel
theorem dX12_worthOf_134 : decode cX12_worthOf 134 = .ok (.iload_n 2, 1) := by decide +kernel
theorem dX12_worthOf_135 : decode cX12_worthOf 135 = .ok (.iastore, 1) := by decide +kernel
theorem dX12_worthOf_136 : decode cX12_worthOf 136 = .ok (.aload_n 0, 1) := by decide +kernel
theorem dX12_worthOf_137 : decode cX12_worthOf 137 = .ok (.getfield 20, 3) := by decide +kernel
theorem dX12_worthOf_140 : decode cX12_worthOf 140 = .ok (.bipush 119, 2) := by decide +kernel
theorem dX12_worthOf_142 : decode cX12_worthOf 142 = .ok (.iload_n 3, 1) := by decide +kernel
theorem dX12_worthOf_143 : decode cX12_worthOf 143 = .ok (.iastore, 1) := by decide +kernel
theorem dX12_worthOf_144 : decode cX12_worthOf 144 = .ok (.aload_n 0, 1) := by decide +kernel
theorem dX12_worthOf_145 : decode cX12_worthOf 145 = .ok (.getfield 20, 3) := by decide +kernel
theorem dX12_worthOf_148 : decode cX12_worthOf 148 = .ok (.bipush 115, 2) := by decide +kernel
theorem dX12_worthOf_150 : decode cX12_worthOf 150 = .ok (.iload 4, 2) := by decide +kernel
theorem dX12_worthOf_152 : decode cX12_worthOf 152 = .ok (.iastore, 1) := by decide +kernel
theorem dX12_worthOf_153 : decode cX12_worthOf 153 = .ok (.aload_n 0, 1) := by decide +kernel
theorem dX12_worthOf_154 : decode cX12_worthOf 154 = .ok (.getfield 20, 3) := by decide +kernel
theorem dX12_worthOf_157 : decode cX12_worthOf 157 = .ok (.bipush 110, 2) := by decide +kernel
theorem dX12_worthOf_159 : decode cX12_worthOf 159 = .ok (.iload 5, 2) := by decide +kernel
theorem dX12_worthOf_161 : decode cX12_worthOf 161 = .ok (.iastore, 1) := by decide +kernel
theorem dX12_worthOf_162 : decode cX12_worthOf 162 = .ok (.aload_n 0, 1) := by decide +kernel
theorem dX12_worthOf_163 : decode cX12_worthOf 163 = .ok (.getfield 20, 3) := by decide +kernel
theorem dX12_worthOf_166 : decode cX12_worthOf 166 = .ok (.bipush 100, 2) := by decide +kernel
theorem dX12_worthOf_168 : decode cX12_worthOf 168 = .ok (.iload 6, 2) := by decide +kernel
theorem dX12_worthOf_170 : decode cX12_worthOf 170 = .ok (.iastore, 1) := by decide +kernel
theorem dX12_worthOf_171 : decode cX12_worthOf 171 = .ok (.aload_n 0, 1) := by decide +kernel
theorem dX12_worthOf_172 : decode cX12_worthOf 172 = .ok (.aload_n 0, 1) := by decide +kernel
theorem dX12_worthOf_173 : decode cX12_worthOf 173 = .ok (.getfield 13, 3) := by decide +kernel
theorem dX12_worthOf_176 : decode cX12_worthOf 176 = .ok (.sipush 240, 3) := by decide +kernel
theorem dX12_worthOf_179 : decode cX12_worthOf 179 = .ok (.aload_n 0, 1) := by decide +kernel
theorem dX12_worthOf_180 : decode cX12_worthOf 180 = .ok (.getfield 67, 3) := by decide +kernel
theorem dX12_worthOf_183 : decode cX12_worthOf 183 = .ok (.imul, 1) := by decide +kernel
theorem dX12_worthOf_184 : decode cX12_worthOf 184 = .ok (.aload_n 0, 1) := by decide +kernel
theorem dX12_worthOf_185 : decode cX12_worthOf 185 = .ok (.getfield 16, 3) := by decide +kernel
theorem dX12_worthOf_188 : decode cX12_worthOf 188 = .ok (.aload_n 0, 1) := by decide +kernel
theorem dX12_worthOf_189 : decode cX12_worthOf 189 = .ok (.getfield 67, 3) := by decide +kernel
theorem dX12_worthOf_192 : decode cX12_worthOf 192 = .ok (.iaload, 1) := by decide +kernel
theorem dX12_worthOf_193 : decode cX12_worthOf 193 = .ok (.invokevirtual 280, 3) := by decide +kernel
theorem dX12_worthOf_196 : decode cX12_worthOf 196 = .ok (.aload_n 0, 1) := by decide +kernel
theorem dX12_worthOf_197 : decode cX12_worthOf 197 = .ok (.getfield 74, 3) := by decide +kernel
theorem dX12_worthOf_200 : decode cX12_worthOf 200 = .ok (.iload 9, 2) := by decide +kernel
theorem dX12_worthOf_202 : decode cX12_worthOf 202 = .ok (.lload 7, 2) := by decide +kernel
theorem dX12_worthOf_204 : decode cX12_worthOf 204 = .ok (.lastore, 1) := by decide +kernel
theorem dX12_worthOf_205 : decode cX12_worthOf 205 = .ok (.aload_n 0, 1) := by decide +kernel
theorem dX12_worthOf_206 : decode cX12_worthOf 206 = .ok (.getfield 78, 3) := by decide +kernel
theorem dX12_worthOf_209 : decode cX12_worthOf 209 = .ok (.iload 9, 2) := by decide +kernel
theorem dX12_worthOf_211 : decode cX12_worthOf 211 = .ok (.aload_n 0, 1) := by decide +kernel
theorem dX12_worthOf_212 : decode cX12_worthOf 212 = .ok (.getfield 204, 3) := by decide +kernel
theorem dX12_worthOf_215 : decode cX12_worthOf 215 = .ok (.iastore, 1) := by decide +kernel
theorem dX12_worthOf_216 : decode cX12_worthOf 216 = .ok (.aload_n 0, 1) := by decide +kernel
theorem dX12_worthOf_217 : decode cX12_worthOf 217 = .ok (.getfield 204, 3) := by decide +kernel
theorem dX12_worthOf_220 : decode cX12_worthOf 220 = .ok (.ireturn, 1) := by decide +kernel
theorem lk_TrapCornerModel_74 : LK "TrapCornerModel" 74 [12] 36 := by
  intro ci hci
  have hci := List.mem_singleton.mp hci
  subst hci
  exact ⟨RX12, TX12, 50, "TrapCornerModel", ck_12, by decide, tw_1323, Or.inl rfl⟩
theorem lk_TrapCornerModel_78 : LK "TrapCornerModel" 78 [12] 37 := by
  intro ci hci
  have hci := List.mem_singleton.mp hci
  subst hci
  exact ⟨RX12, TX12, 50, "TrapCornerModel", ck_12, by decide, tw_1324, Or.inl rfl⟩
theorem lk_TrapCornerModel_204 : LK "TrapCornerModel" 204 [12] 14 := by
  intro ci hci
  have hci := List.mem_singleton.mp hci
  subst hci
  exact ⟨RX12, TX12, 50, "TrapCornerModel", ck_12, by decide, tw_1301, Or.inl rfl⟩
section
variable {g : GG} {p : Program} {l : Launch} {e : Env} {R : Room} {s : State} {m : MethodId} {args : Array Value} {below : List Frame} {meth : Method} {c : Code} {n0 z0 : Nat}
def f_X12_worthOf_127  (o0 : Nat) (x2 : Int32) (x3 : Int32) (x4 : Int32) (x5 : Int32) (x6 : Int32) (y7 : Int64) (x9 : Int32) (s0 : Nat) (s1 : Int32) (s2 : Int32) (h : AH) : Option (Int32 × AH) :=
  (uI 0 h s0 s1 s2).bind fun h1 =>
  (gR [12] h1 o0 4).bind fun v3 =>
  (uI 0 h1 v3 103 x2).bind fun h5 =>
  (gR [12] h5 o0 4).bind fun v7 =>
  (uI 0 h5 v7 119 x3).bind fun h9 =>
  (gR [12] h9 o0 4).bind fun v11 =>
  (uI 0 h9 v11 115 x4).bind fun h13 =>
  (gR [12] h13 o0 4).bind fun v15 =>
  (uI 0 h13 v15 110 x5).bind fun h17 =>
  (gR [12] h17 o0 4).bind fun v19 =>
  (uI 0 h17 v19 100 x6).bind fun h21 =>
  (gR [12] h21 o0 2).bind fun v23 =>
  (gI [12] h21 o0 34).bind fun v25 =>
  (gR [12] h21 o0 3).bind fun v27 =>
  (gI [12] h21 o0 34).bind fun v29 =>
  (aI 0 h21 v27 v29).bind fun v31 =>
  (isC [12] h21 o0).bind fun _ =>
  cN (f_X12_goThrough o0 v23 (240 * v25) v31 h21) h21 fun _ h34 =>
  (gR [12] h34 o0 36).bind fun v38 =>
  (uJ h34 v38 x9 y7).bind fun h40 =>
  (gR [12] h40 o0 37).bind fun v42 =>
  (gI [12] h40 o0 14).bind fun v44 =>
  (uI 0 h40 v42 x9 v44).bind fun h46 =>
  (gI [12] h46 o0 14).bind fun v48 =>
  some (v48, h46)
set_option maxHeartbeats 1000000 in
theorem w_X12_worthOf_127 (X : Cx g p s m args meth c cX12_worthOf 10 "TrapCornerModel") (hR : 88 ≤ R.frames ∧ 5632 ≤ R.locals) (hr : meth.sig.returnType = (some (.int))) {res : Int32 × AH} : ∀ (o0 : Nat) (x2 : Int32) (x3 : Int32) (x4 : Int32) (x5 : Int32) (x6 : Int32) (y7 : Int64) (x9 : Int32) (s0 : Nat) (s1 : Int32) (s2 : Int32) (h : AH) (ls : Array Slot) (H : Heap) (locs : List Loc), f_X12_worthOf_127 o0 x2 x3 x4 x5 x6 y7 x9 s0 s1 s2 h = some res → Iv g s n0 z0 h H locs 0 0 → lv_has ls 10 [(0, .ref (rfG g o0)), (2, .int x2), (3, .int x3), (4, .int x4), (5, .int x5), (6, .int x6), (7, .long y7), (9, .int x9)] → W p l e R s m args below meth c H locs 0 0 (MQ below (QG g (some (.int res.1)) res.2) args s 0 0 (AG g)) (F0 m 127 ls [.int s2, .int s1, .ref (rfG g s0)]) := by
  have hx := X.1
  have hb := X.2.1
  intro o0 x2 x3 x4 x5 x6 y7 x9 s0 s1 s2 h ls H locs hf I hl
  unfold f_X12_worthOf_127 at hf
  obtain ⟨h1, e2, hf⟩ := Option.bind_eq_some_iff.mp hf
  refine r_uI0 X I e2 dX12_worthOf_127 (fun H locs I => ?_)
  refine lv_aload_n hx hb dX12_worthOf_128 rfl (lv_at hl 0 rfl) ?_
  obtain ⟨v3, e4, hf⟩ := Option.bind_eq_some_iff.mp hf
  refine r_gR X I e4 lk_TrapCornerModel_20 dX12_worthOf_129 ?_
  refine lv_bipush (v := 103) hx hb dX12_worthOf_132 (by decide) ?_
  refine lv_iload_n hx hb dX12_worthOf_134 rfl (lv_at hl 1 rfl) ?_
  obtain ⟨h5, e6, hf⟩ := Option.bind_eq_some_iff.mp hf
  refine r_uI0 X I e6 dX12_worthOf_135 (fun H locs I => ?_)
  refine lv_aload_n hx hb dX12_worthOf_136 rfl (lv_at hl 0 rfl) ?_
  obtain ⟨v7, e8, hf⟩ := Option.bind_eq_some_iff.mp hf
  refine r_gR X I e8 lk_TrapCornerModel_20 dX12_worthOf_137 ?_
  refine lv_bipush (v := 119) hx hb dX12_worthOf_140 (by decide) ?_
  refine lv_iload_n hx hb dX12_worthOf_142 rfl (lv_at hl 2 rfl) ?_
  obtain ⟨h9, e10, hf⟩ := Option.bind_eq_some_iff.mp hf
  refine r_uI0 X I e10 dX12_worthOf_143 (fun H locs I => ?_)
  refine lv_aload_n hx hb dX12_worthOf_144 rfl (lv_at hl 0 rfl) ?_
  obtain ⟨v11, e12, hf⟩ := Option.bind_eq_some_iff.mp hf
  refine r_gR X I e12 lk_TrapCornerModel_20 dX12_worthOf_145 ?_
  refine lv_bipush (v := 115) hx hb dX12_worthOf_148 (by decide) ?_
  refine lv_iload hx hb dX12_worthOf_150 (lv_at hl 3 rfl) ?_
  obtain ⟨h13, e14, hf⟩ := Option.bind_eq_some_iff.mp hf
  refine r_uI0 X I e14 dX12_worthOf_152 (fun H locs I => ?_)
  refine lv_aload_n hx hb dX12_worthOf_153 rfl (lv_at hl 0 rfl) ?_
  obtain ⟨v15, e16, hf⟩ := Option.bind_eq_some_iff.mp hf
  refine r_gR X I e16 lk_TrapCornerModel_20 dX12_worthOf_154 ?_
  refine lv_bipush (v := 110) hx hb dX12_worthOf_157 (by decide) ?_
  refine lv_iload hx hb dX12_worthOf_159 (lv_at hl 4 rfl) ?_
  obtain ⟨h17, e18, hf⟩ := Option.bind_eq_some_iff.mp hf
  refine r_uI0 X I e18 dX12_worthOf_161 (fun H locs I => ?_)
  refine lv_aload_n hx hb dX12_worthOf_162 rfl (lv_at hl 0 rfl) ?_
  obtain ⟨v19, e20, hf⟩ := Option.bind_eq_some_iff.mp hf
  refine r_gR X I e20 lk_TrapCornerModel_20 dX12_worthOf_163 ?_
  refine lv_bipush (v := 100) hx hb dX12_worthOf_166 (by decide) ?_
  refine lv_iload hx hb dX12_worthOf_168 (lv_at hl 5 rfl) ?_
  obtain ⟨h21, e22, hf⟩ := Option.bind_eq_some_iff.mp hf
  refine r_uI0 X I e22 dX12_worthOf_170 (fun H locs I => ?_)
  refine lv_aload_n hx hb dX12_worthOf_171 rfl (lv_at hl 0 rfl) ?_
  refine lv_aload_n hx hb dX12_worthOf_172 rfl (lv_at hl 0 rfl) ?_
  obtain ⟨v23, e24, hf⟩ := Option.bind_eq_some_iff.mp hf
  refine r_gR X I e24 lk_TrapCornerModel_13 dX12_worthOf_173 ?_
  refine lv_sipush (v := 240) hx hb dX12_worthOf_176 (by decide) ?_
  refine lv_aload_n hx hb dX12_worthOf_179 rfl (lv_at hl 0 rfl) ?_
  obtain ⟨v25, e26, hf⟩ := Option.bind_eq_some_iff.mp hf
  refine r_gI X I e26 lk_TrapCornerModel_67 dX12_worthOf_180 ?_
  refine lv_imul hx hb dX12_worthOf_183 ?_
  refine lv_aload_n hx hb dX12_worthOf_184 rfl (lv_at hl 0 rfl) ?_
  obtain ⟨v27, e28, hf⟩ := Option.bind_eq_some_iff.mp hf
  refine r_gR X I e28 lk_TrapCornerModel_16 dX12_worthOf_185 ?_
  refine lv_aload_n hx hb dX12_worthOf_188 rfl (lv_at hl 0 rfl) ?_
  obtain ⟨v29, e30, hf⟩ := Option.bind_eq_some_iff.mp hf
  refine r_gI X I e30 lk_TrapCornerModel_67 dX12_worthOf_189 ?_
  obtain ⟨v31, e32, hf⟩ := Option.bind_eq_some_iff.mp hf
  refine r_aI0 X I e32 dX12_worthOf_192 ?_
  obtain ⟨_, g37, hf⟩ := Option.bind_eq_some_iff.mp hf
  obtain ⟨⟨⟩, h34, e35, z36, hf⟩ := cN_spec hf
  refine k_Vv (As := [.ref (rfG g v23), .int (240 * v25), .int v31]) (rest := []) X I (c_X12_goThrough l g o0 v23 (240 * v25) v31 e35) z36 g37 vk_TrapCornerModel_280 tw_1548 ⟨Nat.le_trans (by decide) hR.1, Nat.le_trans (by decide) hR.2⟩ ⟨Nat.zero_le _, Nat.zero_le _⟩ rfl hl.1 rfl (Nat.le_of_ble_eq_true rfl) dX12_worthOf_193 (fun H locs I => ?_)
  refine lv_aload_n hx hb dX12_worthOf_196 rfl (lv_at hl 0 rfl) ?_
  obtain ⟨v38, e39, hf⟩ := Option.bind_eq_some_iff.mp hf
  refine r_gR X I e39 lk_TrapCornerModel_74 dX12_worthOf_197 ?_
  refine lv_iload hx hb dX12_worthOf_200 (lv_at hl 7 rfl) ?_
  refine lv_lload hx hb dX12_worthOf_202 (lv_at hl 6 rfl) ?_
  obtain ⟨h40, e41, hf⟩ := Option.bind_eq_some_iff.mp hf
  refine r_uJ X I e41 dX12_worthOf_204 (fun H locs I => ?_)
  refine lv_aload_n hx hb dX12_worthOf_205 rfl (lv_at hl 0 rfl) ?_
  obtain ⟨v42, e43, hf⟩ := Option.bind_eq_some_iff.mp hf
  refine r_gR X I e43 lk_TrapCornerModel_78 dX12_worthOf_206 ?_
  refine lv_iload hx hb dX12_worthOf_209 (lv_at hl 7 rfl) ?_
  refine lv_aload_n hx hb dX12_worthOf_211 rfl (lv_at hl 0 rfl) ?_
  obtain ⟨v44, e45, hf⟩ := Option.bind_eq_some_iff.mp hf
  refine r_gI X I e45 lk_TrapCornerModel_204 dX12_worthOf_212 ?_
  obtain ⟨h46, e47, hf⟩ := Option.bind_eq_some_iff.mp hf
  refine r_uI0 X I e47 dX12_worthOf_215 (fun H locs I => ?_)
  refine lv_aload_n hx hb dX12_worthOf_216 rfl (lv_at hl 0 rfl) ?_
  obtain ⟨v48, e49, hf⟩ := Option.bind_eq_some_iff.mp hf
  refine r_gI X I e49 lk_TrapCornerModel_204 dX12_worthOf_217 ?_
  cases hf
  exact k_ri X I hr dX12_worthOf_220
def f_X12_worthOf_20  (o0 : Nat) (x1 : Int32) (x2 : Int32) (x3 : Int32) (x4 : Int32) (x5 : Int32) (x6 : Int32) (s0 : Int64) (s1 : Int32) (h : AH) : Option (Int32 × AH) :=
  (gR [12] h o0 36).bind fun v1 =>
  (aJ h v1 ((((2000 * ((100 * ((10 * ((10 * ((10 * (s0 + (s1.toInt64))) + (x2.toInt64))) + (x3.toInt64))) + (x4.toInt64))) + (x5.toInt64))) + (x6.toInt64)) - ((2000 * ((100 * ((10 * ((10 * ((10 * (s0 + (s1.toInt64))) + (x2.toInt64))) + (x3.toInt64))) + (x4.toInt64))) + (x5.toInt64))) + (x6.toInt64)) / 8191 * 8191).toInt32)).bind fun v3 =>
  if (lg_cmp v3 ((2000 * ((100 * ((10 * ((10 * ((10 * (s0 + (s1.toInt64))) + (x2.toInt64))) + (x3.toInt64))) + (x4.toInt64))) + (x5.toInt64))) + (x6.toInt64))) = 0 then
    (gR [12] h o0 37).bind fun v9 =>
    (aI 0 h v9 ((((2000 * ((100 * ((10 * ((10 * ((10 * (s0 + (s1.toInt64))) + (x2.toInt64))) + (x3.toInt64))) + (x4.toInt64))) + (x5.toInt64))) + (x6.toInt64)) - ((2000 * ((100 * ((10 * ((10 * ((10 * (s0 + (s1.toInt64))) + (x2.toInt64))) + (x3.toInt64))) + (x4.toInt64))) + (x5.toInt64))) + (x6.toInt64)) / 8191 * 8191).toInt32)).bind fun v11 =>
    some (v11, h)
  else
    (gR [12] h o0 4).bind fun v6 =>
    if x1 = 0 then
      f_X12_worthOf_127 o0 x2 x3 x4 x5 x6 ((2000 * ((100 * ((10 * ((10 * ((10 * (s0 + (s1.toInt64))) + (x2.toInt64))) + (x3.toInt64))) + (x4.toInt64))) + (x5.toInt64))) + (x6.toInt64)) ((((2000 * ((100 * ((10 * ((10 * ((10 * (s0 + (s1.toInt64))) + (x2.toInt64))) + (x3.toInt64))) + (x4.toInt64))) + (x5.toInt64))) + (x6.toInt64)) - ((2000 * ((100 * ((10 * ((10 * ((10 * (s0 + (s1.toInt64))) + (x2.toInt64))) + (x3.toInt64))) + (x4.toInt64))) + (x5.toInt64))) + (x6.toInt64)) / 8191 * 8191).toInt32) v6 109 0 h
    else
      f_X12_worthOf_127 o0 x2 x3 x4 x5 x6 ((2000 * ((100 * ((10 * ((10 * ((10 * (s0 + (s1.toInt64))) + (x2.toInt64))) + (x3.toInt64))) + (x4.toInt64))) + (x5.toInt64))) + (x6.toInt64)) ((((2000 * ((100 * ((10 * ((10 * ((10 * (s0 + (s1.toInt64))) + (x2.toInt64))) + (x3.toInt64))) + (x4.toInt64))) + (x5.toInt64))) + (x6.toInt64)) - ((2000 * ((100 * ((10 * ((10 * ((10 * (s0 + (s1.toInt64))) + (x2.toInt64))) + (x3.toInt64))) + (x4.toInt64))) + (x5.toInt64))) + (x6.toInt64)) / 8191 * 8191).toInt32) v6 109 1 h
set_option maxHeartbeats 1000000 in
theorem w_X12_worthOf_20 (X : Cx g p s m args meth c cX12_worthOf 10 "TrapCornerModel") (hR : 88 ≤ R.frames ∧ 5632 ≤ R.locals) (hr : meth.sig.returnType = (some (.int))) {res : Int32 × AH} : ∀ (o0 : Nat) (x1 : Int32) (x2 : Int32) (x3 : Int32) (x4 : Int32) (x5 : Int32) (x6 : Int32) (s0 : Int64) (s1 : Int32) (h : AH) (ls : Array Slot) (H : Heap) (locs : List Loc), f_X12_worthOf_20 o0 x1 x2 x3 x4 x5 x6 s0 s1 h = some res → Iv g s n0 z0 h H locs 0 0 → lv_has ls 10 [(0, .ref (rfG g o0)), (1, .int x1), (2, .int x2), (3, .int x3), (4, .int x4), (5, .int x5), (6, .int x6)] → W p l e R s m args below meth c H locs 0 0 (MQ below (QG g (some (.int res.1)) res.2) args s 0 0 (AG g)) (F0 m 20 ls [.int s1, .long s0]) := by
  have hx := X.1
  have hb := X.2.1
  intro o0 x1 x2 x3 x4 x5 x6 s0 s1 h ls H locs hf I hl
  unfold f_X12_worthOf_20 at hf
  refine lv_i2l hx hb dX12_worthOf_20 rfl ?_
  refine lv_ladd hx hb dX12_worthOf_21 ?_
  refine lv_lstore (lv' := [(7, .long (s0 + (s1.toInt64))), (0, .ref (rfG g o0)), (1, .int x1), (2, .int x2), (3, .int x3), (4, .int x4), (5, .int x5), (6, .int x6)]) hx hb dX12_worthOf_22 hl (by decide) rfl (fun ls hl => ?_)
  refine lv_ldc2 (v := 10) hx hb X.2.2.2.1 (X.2.2.2.2.1 _ tw_1705) dX12_worthOf_24 ?_
  refine lv_lload hx hb dX12_worthOf_27 (lv_at hl 0 rfl) ?_
  refine lv_lmul hx hb dX12_worthOf_29 ?_
  refine lv_iload_n hx hb dX12_worthOf_30 rfl (lv_at hl 3 rfl) ?_
  refine lv_i2l hx hb dX12_worthOf_31 rfl ?_
  refine lv_ladd hx hb dX12_worthOf_32 ?_
  refine lv_lstore (lv' := [(7, .long ((10 * (s0 + (s1.toInt64))) + (x2.toInt64))), (0, .ref (rfG g o0)), (1, .int x1), (2, .int x2), (3, .int x3), (4, .int x4), (5, .int x5), (6, .int x6)]) hx hb dX12_worthOf_33 hl (by decide) rfl (fun ls hl => ?_)
  refine lv_ldc2 (v := 10) hx hb X.2.2.2.1 (X.2.2.2.2.1 _ tw_1705) dX12_worthOf_35 ?_
  refine lv_lload hx hb dX12_worthOf_38 (lv_at hl 0 rfl) ?_
  refine lv_lmul hx hb dX12_worthOf_40 ?_
  refine lv_iload_n hx hb dX12_worthOf_41 rfl (lv_at hl 4 rfl) ?_
  refine lv_i2l hx hb dX12_worthOf_42 rfl ?_
  refine lv_ladd hx hb dX12_worthOf_43 ?_
  refine lv_lstore (lv' := [(7, .long ((10 * ((10 * (s0 + (s1.toInt64))) + (x2.toInt64))) + (x3.toInt64))), (0, .ref (rfG g o0)), (1, .int x1), (2, .int x2), (3, .int x3), (4, .int x4), (5, .int x5), (6, .int x6)]) hx hb dX12_worthOf_44 hl (by decide) rfl (fun ls hl => ?_)
  refine lv_ldc2 (v := 10) hx hb X.2.2.2.1 (X.2.2.2.2.1 _ tw_1705) dX12_worthOf_46 ?_
  refine lv_lload hx hb dX12_worthOf_49 (lv_at hl 0 rfl) ?_
  refine lv_lmul hx hb dX12_worthOf_51 ?_
  refine lv_iload hx hb dX12_worthOf_52 (lv_at hl 5 rfl) ?_
  refine lv_i2l hx hb dX12_worthOf_54 rfl ?_
  refine lv_ladd hx hb dX12_worthOf_55 ?_
  refine lv_lstore (lv' := [(7, .long ((10 * ((10 * ((10 * (s0 + (s1.toInt64))) + (x2.toInt64))) + (x3.toInt64))) + (x4.toInt64))), (0, .ref (rfG g o0)), (1, .int x1), (2, .int x2), (3, .int x3), (4, .int x4), (5, .int x5), (6, .int x6)]) hx hb dX12_worthOf_56 hl (by decide) rfl (fun ls hl => ?_)
  refine lv_ldc2 (v := 100) hx hb X.2.2.2.1 (X.2.2.2.2.1 _ tw_1706) dX12_worthOf_58 ?_
  refine lv_lload hx hb dX12_worthOf_61 (lv_at hl 0 rfl) ?_
  refine lv_lmul hx hb dX12_worthOf_63 ?_
  refine lv_iload hx hb dX12_worthOf_64 (lv_at hl 6 rfl) ?_
  refine lv_i2l hx hb dX12_worthOf_66 rfl ?_
  refine lv_ladd hx hb dX12_worthOf_67 ?_
  refine lv_lstore (lv' := [(7, .long ((100 * ((10 * ((10 * ((10 * (s0 + (s1.toInt64))) + (x2.toInt64))) + (x3.toInt64))) + (x4.toInt64))) + (x5.toInt64))), (0, .ref (rfG g o0)), (1, .int x1), (2, .int x2), (3, .int x3), (4, .int x4), (5, .int x5), (6, .int x6)]) hx hb dX12_worthOf_68 hl (by decide) rfl (fun ls hl => ?_)
  refine lv_ldc2 (v := 2000) hx hb X.2.2.2.1 (X.2.2.2.2.1 _ tw_1707) dX12_worthOf_70 ?_
  refine lv_lload hx hb dX12_worthOf_73 (lv_at hl 0 rfl) ?_
  refine lv_lmul hx hb dX12_worthOf_75 ?_
  refine lv_iload hx hb dX12_worthOf_76 (lv_at hl 7 rfl) ?_
  refine lv_i2l hx hb dX12_worthOf_78 rfl ?_
  refine lv_ladd hx hb dX12_worthOf_79 ?_
  refine lv_lstore (lv' := [(7, .long ((2000 * ((100 * ((10 * ((10 * ((10 * (s0 + (s1.toInt64))) + (x2.toInt64))) + (x3.toInt64))) + (x4.toInt64))) + (x5.toInt64))) + (x6.toInt64))), (0, .ref (rfG g o0)), (1, .int x1), (2, .int x2), (3, .int x3), (4, .int x4), (5, .int x5), (6, .int x6)]) hx hb dX12_worthOf_80 hl (by decide) rfl (fun ls hl => ?_)
  refine lv_lload hx hb dX12_worthOf_82 (lv_at hl 0 rfl) ?_
  refine lv_ldc2 (v := 8191) hx hb X.2.2.2.1 (X.2.2.2.2.1 _ tw_1708) dX12_worthOf_84 ?_
  refine lv_lrem hx hb dX12_worthOf_87 (by decide) ?_
  refine lv_l2i hx hb dX12_worthOf_88 rfl ?_
  refine lv_istore (lv' := [(9, .int ((((2000 * ((100 * ((10 * ((10 * ((10 * (s0 + (s1.toInt64))) + (x2.toInt64))) + (x3.toInt64))) + (x4.toInt64))) + (x5.toInt64))) + (x6.toInt64)) - ((2000 * ((100 * ((10 * ((10 * ((10 * (s0 + (s1.toInt64))) + (x2.toInt64))) + (x3.toInt64))) + (x4.toInt64))) + (x5.toInt64))) + (x6.toInt64)) / 8191 * 8191).toInt32)), (7, .long ((2000 * ((100 * ((10 * ((10 * ((10 * (s0 + (s1.toInt64))) + (x2.toInt64))) + (x3.toInt64))) + (x4.toInt64))) + (x5.toInt64))) + (x6.toInt64))), (0, .ref (rfG g o0)), (1, .int x1), (2, .int x2), (3, .int x3), (4, .int x4), (5, .int x5), (6, .int x6)]) hx hb dX12_worthOf_89 hl (by decide) rfl (fun ls hl => ?_)
  refine lv_aload_n hx hb dX12_worthOf_91 rfl (lv_at hl 2 rfl) ?_
  obtain ⟨v1, e2, hf⟩ := Option.bind_eq_some_iff.mp hf
  refine r_gR X I e2 lk_TrapCornerModel_74 dX12_worthOf_92 ?_
  refine lv_iload hx hb dX12_worthOf_95 (lv_at hl 0 rfl) ?_
  obtain ⟨v3, e4, hf⟩ := Option.bind_eq_some_iff.mp hf
  refine r_aJ X I e4 dX12_worthOf_97 ?_
  refine lv_lload hx hb dX12_worthOf_98 (lv_at hl 1 rfl) ?_
  refine W.lcmp hx hb dX12_worthOf_100 ?_
  refine lv_if_ne (tgt := 112) hx hb dX12_worthOf_101 (by decide) (fun c5 => ?_) (fun c5 => ?_)
  · rw [if_neg c5] at hf
    refine lv_aload_n hx hb dX12_worthOf_112 rfl (lv_at hl 2 rfl) ?_
    obtain ⟨v6, e7, hf⟩ := Option.bind_eq_some_iff.mp hf
    refine r_gR X I e7 lk_TrapCornerModel_20 dX12_worthOf_113 ?_
    refine lv_bipush (v := 109) hx hb dX12_worthOf_116 (by decide) ?_
    refine lv_iload_n hx hb dX12_worthOf_118 rfl (lv_at hl 3 rfl) ?_
    refine lv_if_eq (tgt := 126) hx hb dX12_worthOf_119 (by decide) (fun c8 => ?_) (fun c8 => ?_)
    · rw [if_pos c8] at hf
      refine lv_iconst (v := 0) hx hb dX12_worthOf_126 (by decide) ?_
      exact w_X12_worthOf_127 X hR hr  o0 x2 x3 x4 x5 x6 ((2000 * ((100 * ((10 * ((10 * ((10 * (s0 + (s1.toInt64))) + (x2.toInt64))) + (x3.toInt64))) + (x4.toInt64))) + (x5.toInt64))) + (x6.toInt64)) ((((2000 * ((100 * ((10 * ((10 * ((10 * (s0 + (s1.toInt64))) + (x2.toInt64))) + (x3.toInt64))) + (x4.toInt64))) + (x5.toInt64))) + (x6.toInt64)) - ((2000 * ((100 * ((10 * ((10 * ((10 * (s0 + (s1.toInt64))) + (x2.toInt64))) + (x3.toInt64))) + (x4.toInt64))) + (x5.toInt64))) + (x6.toInt64)) / 8191 * 8191).toInt32) v6 109 0 h ls H locs hf I (lv_sub hl [2, 4, 5, 6, 7, 8, 1, 0] rfl)
    · rw [if_neg c8] at hf
      refine lv_iconst (v := 1) hx hb dX12_worthOf_122 (by decide) ?_
      refine lv_goto (tgt := 127) hx hb dX12_worthOf_123 (by decide) ?_
      exact w_X12_worthOf_127 X hR hr  o0 x2 x3 x4 x5 x6 ((2000 * ((100 * ((10 * ((10 * ((10 * (s0 + (s1.toInt64))) + (x2.toInt64))) + (x3.toInt64))) + (x4.toInt64))) + (x5.toInt64))) + (x6.toInt64)) ((((2000 * ((100 * ((10 * ((10 * ((10 * (s0 + (s1.toInt64))) + (x2.toInt64))) + (x3.toInt64))) + (x4.toInt64))) + (x5.toInt64))) + (x6.toInt64)) - ((2000 * ((100 * ((10 * ((10 * ((10 * (s0 + (s1.toInt64))) + (x2.toInt64))) + (x3.toInt64))) + (x4.toInt64))) + (x5.toInt64))) + (x6.toInt64)) / 8191 * 8191).toInt32) v6 109 1 h ls H locs hf I (lv_sub hl [2, 4, 5, 6, 7, 8, 1, 0] rfl)
  · rw [if_pos c5] at hf
    refine lv_aload_n hx hb dX12_worthOf_104 rfl (lv_at hl 2 rfl) ?_
    obtain ⟨v9, e10, hf⟩ := Option.bind_eq_some_iff.mp hf
    refine r_gR X I e10 lk_TrapCornerModel_78 dX12_worthOf_105 ?_
    refine lv_iload hx hb dX12_worthOf_108 (lv_at hl 0 rfl) ?_
    obtain ⟨v11, e12, hf⟩ := Option.bind_eq_some_iff.mp hf
    refine r_aI0 X I e12 dX12_worthOf_110 ?_
    cases hf
    exact k_ri X I hr dX12_worthOf_111
def f_X12_worthOf_0  (o0 : Nat) (x1 : Int32) (x2 : Int32) (x3 : Int32) (x4 : Int32) (x5 : Int32) (x6 : Int32) (h : AH) : Option (Int32 × AH) :=
  (gI [12] h o0 34).bind fun v1 =>
  if x1 = 0 then
    f_X12_worthOf_20 o0 x1 x2 x3 x4 x5 x6 (2 + ((2 * v1).toInt64)) 0 h
  else
    f_X12_worthOf_20 o0 x1 x2 x3 x4 x5 x6 (2 + ((2 * v1).toInt64)) 1 h
set_option maxHeartbeats 1000000 in
theorem w_X12_worthOf_0 (X : Cx g p s m args meth c cX12_worthOf 10 "TrapCornerModel") (hR : 88 ≤ R.frames ∧ 5632 ≤ R.locals) (hr : meth.sig.returnType = (some (.int))) {res : Int32 × AH} : ∀ (o0 : Nat) (x1 : Int32) (x2 : Int32) (x3 : Int32) (x4 : Int32) (x5 : Int32) (x6 : Int32) (h : AH) (ls : Array Slot) (H : Heap) (locs : List Loc), f_X12_worthOf_0 o0 x1 x2 x3 x4 x5 x6 h = some res → Iv g s n0 z0 h H locs 0 0 → lv_has ls 10 [(0, .ref (rfG g o0)), (1, .int x1), (2, .int x2), (3, .int x3), (4, .int x4), (5, .int x5), (6, .int x6)] → W p l e R s m args below meth c H locs 0 0 (MQ below (QG g (some (.int res.1)) res.2) args s 0 0 (AG g)) (F0 m 0 ls []) := by
  have hx := X.1
  have hb := X.2.1
  intro o0 x1 x2 x3 x4 x5 x6 h ls H locs hf I hl
  unfold f_X12_worthOf_0 at hf
  refine lv_ldc2 (v := 2) hx hb X.2.2.2.1 (X.2.2.2.2.1 _ tw_1462) dX12_worthOf_0 ?_
  refine lv_iconst (v := 2) hx hb dX12_worthOf_3 (by decide) ?_
  refine lv_aload_n hx hb dX12_worthOf_4 rfl (lv_at hl 0 rfl) ?_
  obtain ⟨v1, e2, hf⟩ := Option.bind_eq_some_iff.mp hf
  refine r_gI X I e2 lk_TrapCornerModel_67 dX12_worthOf_5 ?_
  refine lv_imul hx hb dX12_worthOf_8 ?_
  refine lv_i2l hx hb dX12_worthOf_9 rfl ?_
  refine lv_ladd hx hb dX12_worthOf_10 ?_
  refine lv_iload_n hx hb dX12_worthOf_11 rfl (lv_at hl 1 rfl) ?_
  refine lv_if_eq (tgt := 19) hx hb dX12_worthOf_12 (by decide) (fun c3 => ?_) (fun c3 => ?_)
  · rw [if_pos c3] at hf
    refine lv_iconst (v := 0) hx hb dX12_worthOf_19 (by decide) ?_
    exact w_X12_worthOf_20 X hR hr  o0 x1 x2 x3 x4 x5 x6 (2 + ((2 * v1).toInt64)) 0 h ls H locs hf I (lv_sub hl [0, 1, 2, 3, 4, 5, 6] rfl)
  · rw [if_neg c3] at hf
    refine lv_iconst (v := 1) hx hb dX12_worthOf_15 (by decide) ?_
    refine lv_goto (tgt := 20) hx hb dX12_worthOf_16 (by decide) ?_
    exact w_X12_worthOf_20 X hR hr  o0 x1 x2 x3 x4 x5 x6 (2 + ((2 * v1).toInt64)) 1 h ls H locs hf I (lv_sub hl [0, 1, 2, 3, 4, 5, 6] rfl)
def f_X12_worthOf (o0 : Nat) (x1 : Int32) (x2 : Int32) (x3 : Int32) (x4 : Int32) (x5 : Int32) (x6 : Int32) (h : AH) : Option (Int32 × AH) := f_X12_worthOf_0 o0 x1 x2 x3 x4 x5 x6 h
end
theorem c_X12_worthOf (l : Launch) (g : GG) (o0 : Nat) (x1 : Int32) (x2 : Int32) (x3 : Int32) (x4 : Int32) (x5 : Int32) (x6 : Int32) {h : AH} {res : Int32 × AH} (hf : f_X12_worthOf o0 x1 x2 x3 x4 x5 x6 h = some res) : CM l g yX12_worthOf cX12_worthOf 10 (some (.int)) 88 5632 0 0 [.ref (rfG g o0), .int x1, .int x2, .int x3, .int x4, .int x5, .int x6] h (some (.int res.1)) res.2 :=
  k_body (by decide) (Nat.le_of_ble_eq_true rfl) (fun p e s m below meth c R ls hR hr X I hl => w_X12_worthOf_0 X ⟨Nat.le_of_eq hR.1.symm, Nat.le_of_eq hR.2.1.symm⟩ hr o0 x1 x2 x3 x4 x5 x6 h ls s.heap [] hf I (lv_sub hl [0, 1, 2, 3, 4, 5, 6] rfl))
