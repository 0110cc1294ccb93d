/-! TrapCorner.perform(I)I -/
theorem dX11_perform_0 : decode cX11_perform 0 = .ok (.aload_n 0, 1) := by decide +kernel
theorem dX11_perform_1 : decode cX11_perform 1 = .ok (.iload_n 1, 1) := by decide +kernel
theorem dX11_perform_2 : decode cX11_perform 2 = .ok (.invokevirtual 240, 3) := by decide +kernel
theorem dX11_perform_5 : decode cX11_perform 5 = .ok (.ifCond .eq 10, 3) := by decide +kernel
theorem dX11_perform_8 : decode cX11_perform 8 = .ok (.aload_n 0, 1) := by decide +kernel
theorem dX11_perform_9 : decode cX11_perform 9 = .ok (.invokevirtual 172, 3) := by decide +kernel
theorem dX11_perform_12 : decode cX11_perform 12 = .ok (.ifCond .ne 5, 3) := by decide +kernel
theorem dX11_perform_15 : decode cX11_perform 15 = .ok (.iconst (-1), 1) := by decide +kernel
theorem dX11_perform_16 : decode cX11_perform 16 = .ok (.ireturn, 1) := by decide +kernel
theorem dX11_perform_17 : decode cX11_perform 17 = .ok (.aload_n 0, 1) := by decide +kernel
theorem dX11_perform_18 : decode cX11_perform 18 = .ok (.getfield 91, 3) := by decide +kernel
theorem dX11_perform_21 : decode cX11_perform 21 = .ok (.iload_n 1, 1) := by decide +kernel
theorem dX11_perform_22 : decode cX11_perform 22 = .ok (.aaload, 1) := by decide +kernel
theorem dX11_perform_23 : decode cX11_perform 23 = .ok (.astore_n 2, 1) := by decide +kernel
theorem dX11_perform_24 : decode cX11_perform 24 = .ok (.iconst 0, 1) := by decide +kernel
theorem dX11_perform_25 : decode cX11_perform 25 = .ok (.istore_n 3, 1) := by decide +kernel
theorem dX11_perform_26 : decode cX11_perform 26 = .ok (.iload_n 3, 1) := by decide +kernel
theorem dX11_perform_27 : decode cX11_perform 27 = .ok (.aload_n 2, 1) := by decide +kernel
theorem dX11_perform_28 : decode cX11_perform 28 = .ok (.arraylength, 1) := by decide +kernel
theorem dX11_perform_29 : decode cX11_perform 29 = .ok (.if_icmp .ge 62, 3) := by decide +kernel
theorem dX11_perform_32 : decode cX11_perform 32 = .ok (.aload_n 2, 1) := by decide +kernel
theorem dX11_perform_33 : decode cX11_perform 33 = .ok (.iload_n 3, 1) := by decide +kernel
theorem dX11_perform_34 : decode cX11_perform 34 = .ok (.iaload, 1) := by decide +kernel
theorem dX11_perform_35 : decode cX11_perform 35 = .ok (.invokestatic 244, 3) := by decide +kernel
theorem dX11_perform_38 : decode cX11_perform 38 = .ok (.istore 4, 2) := by decide +kernel
theorem dX11_perform_40 : decode cX11_perform 40 = .ok (.aload_n 2, 1) := by decide +kernel
theorem dX11_perform_41 : decode cX11_perform 41 = .ok (.iload_n 3, 1) := by decide +kernel
theorem dX11_perform_42 : decode cX11_perform 42 = .ok (.iaload, 1) := by decide +kernel
theorem dX11_perform_43 : decode cX11_perform 43 = .ok (.invokestatic 247, 3) := by decide +kernel
theorem dX11_perform_46 : decode cX11_perform 46 = .ok (.istore 5, 2) := by decide +kernel
theorem dX11_perform_48 : decode cX11_perform 48 = .ok (.aload_n 2, 1) := by decide +kernel
theorem dX11_perform_49 : decode cX11_perform 49 = .ok (.iload_n 3, 1) := by decide +kernel
theorem dX11_perform_50 : decode cX11_perform 50 = .ok (.iaload, 1) := by decide +kernel
theorem dX11_perform_51 : decode cX11_perform 51 = .ok (.invokestatic 250, 3) := by decide +kernel
theorem dX11_perform_54 : decode cX11_perform 54 = .ok (.istore 6, 2) := by decide +kernel
theorem dX11_perform_56 : decode cX11_perform 56 = .ok (.aload_n 0, 1) := by decide +kernel
theorem dX11_perform_57 : decode cX11_perform 57 = .ok (.aload_n 0, 1) := by decide +kernel
theorem dX11_perform_58 : decode cX11_perform 58 = .ok (.getfield 49, 3) := by decide +kernel
theorem dX11_perform_61 : decode cX11_perform 61 = .ok (.iload 4, 2) := by decide +kernel
theorem dX11_perform_63 : decode cX11_perform 63 = .ok (.iload 5, 2) := by decide +kernel
theorem dX11_perform_65 : decode cX11_perform 65 = .ok (.iload 6, 2) := by decide +kernel
theorem dX11_perform_67 : decode cX11_perform 67 = .ok (.invokevirtual 276, 3) := by decide +kernel
theorem dX11_perform_70 : decode cX11_perform 70 = .ok (.ifCond .ne 5, 3) := by decide +kernel
theorem dX11_perform_73 : decode cX11_perform 73 = .ok (.iload_n 3, 1) := by decide +kernel
theorem dX11_perform_74 : decode cX11_perform 74 = .ok (.ireturn, 1) := by decide +kernel
theorem dX11_perform_75 : decode cX11_perform 75 = .ok (.aload_n 0, 1) := by decide +kernel
theorem dX11_perform_76 : decode cX11_perform 76 = .ok (.iload 4, 2) := by decide +kernel
theorem dX11_perform_78 : decode cX11_perform 78 = .ok (.iload 5, 2) := by decide +kernel
theorem dX11_perform_80 : decode cX11_perform 80 = .ok (.iload 6, 2) := by decide +kernel
theorem dX11_perform_82 : decode cX11_perform 82 = .ok (.invokevirtual 280, 3) := by decide +kernel
theorem dX11_perform_85 : decode cX11_perform 85 = .ok (.iinc 3 1, 3) := by decide +kernel
theorem dX11_perform_88 : decode cX11_perform 88 = .ok (.goto (-62), 3) := by decide +kernel
theorem dX11_perform_91 : decode cX11_perform 91 = .ok (.aload_n 2, 1) := by decide +kernel
theorem dX11_perform_92 : decode cX11_perform 92 = .ok (.arraylength, 1) := by decide +kernel
theorem dX11_perform_93 : decode cX11_perform 93 = .ok (.ireturn, 1) := by decide +kernel
section
variable {g : GG} {p : Program} {l : Launch} {e : Env} {R : Room} {s : State} {m : MethodId} {args : Array Value} {below : List Frame} {meth : Method} {c : Code} {n0 z0 : Nat}
def f_X11_perform_26  : Nat → Nat → Nat → Int32 → AH → Option (Int32 × AH)
  | 0, _, _, _, _ => none
  | n + 1, o0, o2, x3, h =>
  ck h (
  (aLen h o2).bind fun v1 =>
  if v1 ≤ x3 then
    (aLen h o2).bind fun v4 =>
    some (v4, h)
  else
    (aI 0 h o2 x3).bind fun v6 =>
    cN (f_X11_kindOf v6 h) h fun v8 h9 =>
    (aI 0 h9 o2 x3).bind fun v12 =>
    cN (f_X11_firstOf v12 h9) h9 fun v14 h15 =>
    (aI 0 h15 o2 x3).bind fun v18 =>
    cN (f_X11_secondOf v18 h15) h15 fun v20 h21 =>
    (gR [11] h21 o0 5).bind fun v24 =>
    (isC [11] h21 o0).bind fun _ =>
    cN (f_X11_canBe o0 v24 v8 v14 v20 h21) h21 fun v26 h27 =>
    if v26 = 0 then
      some (x3, h27)
    else
      (isC [11] h27 o0).bind fun _ =>
      cA (f_X11_act o0 v8 v14 v20 h27) h27 fun _ h33 =>
      f_X11_perform_26  n o0 o2 (x3 + 1) h33)
set_option maxHeartbeats 1000000 in
theorem w_X11_perform_26 (X : Cx g p s m args meth c cX11_perform 7 "TrapCorner") (hR : 8 ≤ R.frames ∧ 512 ≤ R.locals) (hr : meth.sig.returnType = (some (.int))) {res : Int32 × AH} (hA : R.cells + n0 = res.2.1 ∧ R.slots + z0 = res.2.2.1) : ∀ (n : Nat) (o0 : Nat) (o2 : Nat) (x3 : Int32) (h : AH) (ls : Array Slot) (H : Heap) (locs : List Loc) (cells slots : Nat), f_X11_perform_26 n o0 o2 x3 h = some res → Iv g s n0 z0 h H locs cells slots → lv_has ls 7 [(0, .ref (rfG g o0)), (2, .ref (rfG g o2)), (3, .int x3)] → W p l e R s m args below meth c H locs cells slots (MQ below (QG g (some (.int res.1)) res.2) args s R.cells R.slots (AG g)) (F0 m 26 ls []) := by
  have hx := X.1
  have hb := X.2.1
  intro n
  induction n with
  | zero =>
    intro o0 o2 x3 h ls H locs cells slots hf
    rw [f_X11_perform_26.eq_1] at hf
    cases hf
  | succ n ih =>
    intro o0 o2 x3 h ls H locs cells slots hf I hl
    rw [f_X11_perform_26.eq_2] at hf
    obtain ⟨hbd, hf⟩ := ck_spec hf
    have hle := I.le hA hbd
    refine lv_iload_n hx hb dX11_perform_26 rfl (lv_at hl 2 rfl) ?_
    refine lv_aload_n hx hb dX11_perform_27 rfl (lv_at hl 1 rfl) ?_
    obtain ⟨v1, e2, hf⟩ := Option.bind_eq_some_iff.mp hf
    refine r_len X I e2 dX11_perform_28 ?_
    refine lv_icmp_ge (tgt := 91) hx hb dX11_perform_29 (by decide) (fun c3 => ?_) (fun c3 => ?_)
    · rw [if_pos c3] at hf
      refine lv_aload_n hx hb dX11_perform_91 rfl (lv_at hl 1 rfl) ?_
      obtain ⟨v4, e5, hf⟩ := Option.bind_eq_some_iff.mp hf
      refine r_len X I e5 dX11_perform_92 ?_
      cases hf
      exact k_fin (I.fin hA) (k_ri X I hr dX11_perform_93)
    · rw [if_neg c3] at hf
      refine lv_aload_n hx hb dX11_perform_32 rfl (lv_at hl 1 rfl) ?_
      refine lv_iload_n hx hb dX11_perform_33 rfl (lv_at hl 2 rfl) ?_
      obtain ⟨v6, e7, hf⟩ := Option.bind_eq_some_iff.mp hf
      refine r_aI0 X I e7 dX11_perform_34 ?_
      obtain ⟨v8, h9, e10, z11, hf⟩ := cN_spec hf
      refine k_Si (As := [.int v6]) (rest := []) X I (c_X11_kindOf l g v6 e10) z11 sk_TrapCorner_244 tw_840 ⟨Nat.le_trans (by decide) hR.1, Nat.le_trans (by decide) hR.2⟩ hle rfl hl.1 rfl (Nat.le_of_ble_eq_true rfl) dX11_perform_35 (fun H locs I => ?_)
      refine lv_istore (lv' := [(4, .int v8), (0, .ref (rfG g o0)), (2, .ref (rfG g o2)), (3, .int x3)]) hx hb dX11_perform_38 hl (by decide) rfl (fun ls hl => ?_)
      refine lv_aload_n hx hb dX11_perform_40 rfl (lv_at hl 2 rfl) ?_
      refine lv_iload_n hx hb dX11_perform_41 rfl (lv_at hl 3 rfl) ?_
      obtain ⟨v12, e13, hf⟩ := Option.bind_eq_some_iff.mp hf
      refine r_aI0 X I e13 dX11_perform_42 ?_
      obtain ⟨v14, h15, e16, z17, hf⟩ := cN_spec hf
      refine k_Si (As := [.int v12]) (rest := []) X I (c_X11_firstOf l g v12 e16) z17 sk_TrapCorner_247 tw_843 ⟨Nat.le_trans (by decide) hR.1, Nat.le_trans (by decide) hR.2⟩ hle rfl hl.1 rfl (Nat.le_of_ble_eq_true rfl) dX11_perform_43 (fun H locs I => ?_)
      refine lv_istore (lv' := [(5, .int v14), (4, .int v8), (0, .ref (rfG g o0)), (2, .ref (rfG g o2)), (3, .int x3)]) hx hb dX11_perform_46 hl (by decide) rfl (fun ls hl => ?_)
      refine lv_aload_n hx hb dX11_perform_48 rfl (lv_at hl 3 rfl) ?_
      refine lv_iload_n hx hb dX11_perform_49 rfl (lv_at hl 4 rfl) ?_
      obtain ⟨v18, e19, hf⟩ := Option.bind_eq_some_iff.mp hf
      refine r_aI0 X I e19 dX11_perform_50 ?_
      obtain ⟨v20, h21, e22, z23, hf⟩ := cN_spec hf
      refine k_Si (As := [.int v18]) (rest := []) X I (c_X11_secondOf l g v18 e22) z23 sk_TrapCorner_250 tw_846 ⟨Nat.le_trans (by decide) hR.1, Nat.le_trans (by decide) hR.2⟩ hle rfl hl.1 rfl (Nat.le_of_ble_eq_true rfl) dX11_perform_51 (fun H locs I => ?_)
      refine lv_istore (lv' := [(6, .int v20), (5, .int v14), (4, .int v8), (0, .ref (rfG g o0)), (2, .ref (rfG g o2)), (3, .int x3)]) hx hb dX11_perform_54 hl (by decide) rfl (fun ls hl => ?_)
      refine lv_aload_n hx hb dX11_perform_56 rfl (lv_at hl 3 rfl) ?_
      refine lv_aload_n hx hb dX11_perform_57 rfl (lv_at hl 3 rfl) ?_
      obtain ⟨v24, e25, hf⟩ := Option.bind_eq_some_iff.mp hf
      refine r_gR X I e25 lk_TrapCorner_49 dX11_perform_58 ?_
      refine lv_iload hx hb dX11_perform_61 (lv_at hl 2 rfl) ?_
      refine lv_iload hx hb dX11_perform_63 (lv_at hl 1 rfl) ?_
      refine lv_iload hx hb dX11_perform_65 (lv_at hl 0 rfl) ?_
      obtain ⟨_, g30, hf⟩ := Option.bind_eq_some_iff.mp hf
      obtain ⟨v26, h27, e28, z29, hf⟩ := cN_spec hf
      refine k_Vi (As := [.ref (rfG g v24), .int v8, .int v14, .int v20]) (rest := []) X I (c_X11_canBe l g o0 v24 v8 v14 v20 e28) z29 g30 vk_TrapCorner_276 tw_870 ⟨Nat.le_trans (by decide) hR.1, Nat.le_trans (by decide) hR.2⟩ hle rfl hl.1 rfl (Nat.le_of_ble_eq_true rfl) dX11_perform_67 (fun H locs I => ?_)
      refine lv_if_ne (tgt := 75) hx hb dX11_perform_70 (by decide) (fun c31 => ?_) (fun c31 => ?_)
      · rw [if_neg c31] at hf
        refine lv_aload_n hx hb dX11_perform_75 rfl (lv_at hl 3 rfl) ?_
        refine lv_iload hx hb dX11_perform_76 (lv_at hl 2 rfl) ?_
        refine lv_iload hx hb dX11_perform_78 (lv_at hl 1 rfl) ?_
        refine lv_iload hx hb dX11_perform_80 (lv_at hl 0 rfl) ?_
        obtain ⟨_, g36, hf⟩ := Option.bind_eq_some_iff.mp hf
        obtain ⟨⟨⟩, h33, e34, z35, b37, hf⟩ := cA_spec hf
        refine k_VAv (As := [.int v8, .int v14, .int v20]) (rest := []) X I (c_X11_act l g o0 v8 v14 v20 e34) z35 hA b37 g36 vk_TrapCorner_280 tw_884 ⟨Nat.le_trans (by decide) hR.1, Nat.le_trans (by decide) hR.2⟩ rfl hl.1 rfl (Nat.le_of_ble_eq_true rfl) dX11_perform_82 (fun H locs I => ?_)
        have hle := I.le hA b37
        refine lv_iinc (v := x3 + 1) (lv' := [(3, .int (x3 + 1)), (6, .int v20), (5, .int v14), (4, .int v8), (0, .ref (rfG g o0)), (2, .ref (rfG g o2))]) hx hb dX11_perform_85 hl (k := 5) rfl rfl (by decide) rfl (fun ls hl => ?_)
        refine lv_goto (tgt := 26) hx hb dX11_perform_88 (by decide) ?_
        exact ih o0 o2 (x3 + 1) h33 ls H locs _ _ hf I (lv_sub hl [4, 5, 0] rfl)
      · rw [if_pos c31] at hf
        refine lv_iload_n hx hb dX11_perform_73 rfl (lv_at hl 5 rfl) ?_
        cases hf
        exact k_fin (I.fin hA) (k_ri X I hr dX11_perform_74)
def f_X11_perform_0  (o0 : Nat) (x1 : Int32) (h : AH) : Option (Int32 × AH) :=
  ck h (
  (isC [11] h o0).bind fun _ =>
  cN (f_X11_hasPlan o0 x1 h) h fun v1 h2 =>
  if v1 = 0 then
    some ((-1), h2)
  else
    (isC [11] h2 o0).bind fun _ =>
    cN (f_X11_hasCity o0 h2) h2 fun v7 h8 =>
    if v7 = 0 then
      some ((-1), h8)
    else
      (gR [11] h8 o0 12).bind fun v13 =>
      (aQ 5 h8 v13 x1).bind fun v15 =>
      v15.bind fun o17 =>
      f_X11_perform_26 fu o0 o17 0 h8)
set_option maxHeartbeats 1000000 in
theorem w_X11_perform_0 (X : Cx g p s m args meth c cX11_perform 7 "TrapCorner") (hR : 8 ≤ R.frames ∧ 512 ≤ R.locals) (hr : meth.sig.returnType = (some (.int))) {res : Int32 × AH} (hA : R.cells + n0 = res.2.1 ∧ R.slots + z0 = res.2.2.1) : ∀ (o0 : Nat) (x1 : Int32) (h : AH) (ls : Array Slot) (H : Heap) (locs : List Loc) (cells slots : Nat), f_X11_perform_0 o0 x1 h = some res → Iv g s n0 z0 h H locs cells slots → lv_has ls 7 [(0, .ref (rfG g o0)), (1, .int x1)] → W p l e R s m args below meth c H locs cells slots (MQ below (QG g (some (.int res.1)) res.2) args s R.cells R.slots (AG g)) (F0 m 0 ls []) := by
  have hx := X.1
  have hb := X.2.1
  intro o0 x1 h ls H locs cells slots hf I hl
  unfold f_X11_perform_0 at hf
  obtain ⟨hbd, hf⟩ := ck_spec hf
  have hle := I.le hA hbd
  refine lv_aload_n hx hb dX11_perform_0 rfl (lv_at hl 0 rfl) ?_
  refine lv_iload_n hx hb dX11_perform_1 rfl (lv_at hl 1 rfl) ?_
  obtain ⟨_, g5, hf⟩ := Option.bind_eq_some_iff.mp hf
  obtain ⟨v1, h2, e3, z4, hf⟩ := cN_spec hf
  refine k_Vi (As := [.int x1]) (rest := []) X I (c_X11_hasPlan l g o0 x1 e3) z4 g5 vk_TrapCorner_240 tw_836 ⟨Nat.le_trans (by decide) hR.1, Nat.le_trans (by decide) hR.2⟩ hle rfl hl.1 rfl (Nat.le_of_ble_eq_true rfl) dX11_perform_2 (fun H locs I => ?_)
  refine lv_if_eq (tgt := 15) hx hb dX11_perform_5 (by decide) (fun c6 => ?_) (fun c6 => ?_)
  · rw [if_pos c6] at hf
    refine lv_iconst (v := (-1)) hx hb dX11_perform_15 (by decide) ?_
    cases hf
    exact k_fin (I.fin hA) (k_ri X I hr dX11_perform_16)
  · rw [if_neg c6] at hf
    refine lv_aload_n hx hb dX11_perform_8 rfl (lv_at hl 0 rfl) ?_
    obtain ⟨_, g11, hf⟩ := Option.bind_eq_some_iff.mp hf
    obtain ⟨v7, h8, e9, z10, hf⟩ := cN_spec hf
    refine k_Vi (As := []) (rest := []) X I (c_X11_hasCity l g o0 e9) z10 g11 vk_TrapCorner_172 tw_793 ⟨Nat.le_trans (by decide) hR.1, Nat.le_trans (by decide) hR.2⟩ hle rfl hl.1 rfl (Nat.le_of_ble_eq_true rfl) dX11_perform_9 (fun H locs I => ?_)
    refine lv_if_ne (tgt := 17) hx hb dX11_perform_12 (by decide) (fun c12 => ?_) (fun c12 => ?_)
    · rw [if_neg c12] at hf
      refine lv_aload_n hx hb dX11_perform_17 rfl (lv_at hl 0 rfl) ?_
      obtain ⟨v13, e14, hf⟩ := Option.bind_eq_some_iff.mp hf
      refine r_gR X I e14 lk_TrapCorner_91 dX11_perform_18 ?_
      refine lv_iload_n hx hb dX11_perform_21 rfl (lv_at hl 1 rfl) ?_
      obtain ⟨v15, e16, hf⟩ := Option.bind_eq_some_iff.mp hf
      refine r_aQ5 X I e16 dX11_perform_22 ?_
      obtain ⟨o17, eo17, hf2⟩ := Option.bind_eq_some_iff.mp hf
      clear hf
      have hf := hf2
      subst eo17
      refine lv_astore_n (lv' := [(2, .ref (rfG g o17)), (0, .ref (rfG g o0)), (1, .int x1)]) hx hb dX11_perform_23 rfl hl (by decide) rfl (fun ls hl => ?_)
      refine lv_iconst (v := 0) hx hb dX11_perform_24 (by decide) ?_
      refine lv_istore_n (lv' := [(3, .int 0), (2, .ref (rfG g o17)), (0, .ref (rfG g o0)), (1, .int x1)]) hx hb dX11_perform_25 rfl hl (by decide) rfl (fun ls hl => ?_)
      exact w_X11_perform_26 X hR hr hA fu o0 o17 0 h8 ls H locs _ _ hf I (lv_sub hl [2, 1, 0] rfl)
    · rw [if_pos c12] at hf
      refine lv_iconst (v := (-1)) hx hb dX11_perform_15 (by decide) ?_
      cases hf
      exact k_fin (I.fin hA) (k_ri X I hr dX11_perform_16)
def f_X11_perform (o0 : Nat) (x1 : Int32) (h : AH) : Option (Int32 × AH) := f_X11_perform_0 o0 x1 h
end
theorem c_X11_perform (l : Launch) (g : GG) (o0 : Nat) (x1 : Int32) {h : AH} {res : Int32 × AH} (hf : f_X11_perform o0 x1 h = some res) : CM l g yX11_perform cX11_perform 7 (some (.int)) 8 512 (res.2.1 - h.1) (res.2.2.1 - h.2.1) [.ref (rfG g o0), .int x1] h (some (.int res.1)) res.2 := by
  have hbd := (ck_spec (show ck h _ = some res from hf)).1
  exact k_body (by decide) (Nat.le_of_ble_eq_true rfl) (fun p e s m below meth c R ls hR hr X I hl => by
    obtain ⟨r1, r2, r3, r4⟩ := hR
    rw [← r3, ← r4]
    exact w_X11_perform_0 X ⟨Nat.le_of_eq r1.symm, Nat.le_of_eq r2.symm⟩ hr ⟨by omega, by omega⟩ o0 x1 h ls s.heap [] 0 0 hf I (lv_sub hl [0, 1] rfl))
