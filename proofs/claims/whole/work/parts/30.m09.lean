/-! TrapCornerModel.needs(II)I -/
theorem dX12_needs_0 : decode cX12_needs 0 = .ok (.aload_n 0, 1) := by decide +kernel
theorem dX12_needs_1 : decode cX12_needs 1 = .ok (.iconst 0, 1) := by decide +kernel
theorem dX12_needs_2 : decode cX12_needs 2 = .ok (.putfield 96, 3) := by decide +kernel
theorem dX12_needs_5 : decode cX12_needs 5 = .ok (.aload_n 0, 1) := by decide +kernel
theorem dX12_needs_6 : decode cX12_needs 6 = .ok (.iload_n 1, 1) := by decide +kernel
theorem dX12_needs_7 : decode cX12_needs 7 = .ok (.invokevirtual 383, 3) := by decide +kernel
theorem dX12_needs_10 : decode cX12_needs 10 = .ok (.ifCond .eq 11, 3) := by decide +kernel
theorem dX12_needs_13 : decode cX12_needs 13 = .ok (.aload_n 0, 1) := by decide +kernel
theorem dX12_needs_14 : decode cX12_needs 14 = .ok (.iload_n 2, 1) := by decide +kernel
theorem dX12_needs_15 : decode cX12_needs 15 = .ok (.invokevirtual 380, 3) := by decide +kernel
theorem dX12_needs_18 : decode cX12_needs 18 = .ok (.ifCond .ne 5, 3) := by decide +kernel
theorem dX12_needs_21 : decode cX12_needs 21 = .ok (.iconst (-1), 1) := by decide +kernel
theorem dX12_needs_22 : decode cX12_needs 22 = .ok (.ireturn, 1) := by decide +kernel
theorem dX12_needs_23 : decode cX12_needs 23 = .ok (.aload_n 0, 1) := by decide +kernel
theorem dX12_needs_24 : decode cX12_needs 24 = .ok (.getfield 61, 3) := by decide +kernel
theorem dX12_needs_27 : decode cX12_needs 27 = .ok (.aload_n 0, 1) := by decide +kernel
theorem dX12_needs_28 : decode cX12_needs 28 = .ok (.getfield 64, 3) := by decide +kernel
theorem dX12_needs_31 : decode cX12_needs 31 = .ok (.invokestatic 372, 3) := by decide +kernel
theorem dX12_needs_34 : decode cX12_needs 34 = .ok (.iconst 0, 1) := by decide +kernel
theorem dX12_needs_35 : decode cX12_needs 35 = .ok (.istore_n 3, 1) := by decide +kernel
theorem dX12_needs_36 : decode cX12_needs 36 = .ok (.iload_n 3, 1) := by decide +kernel
theorem dX12_needs_37 : decode cX12_needs 37 = .ok (.bipush 9, 2) := by decide +kernel
theorem dX12_needs_39 : decode cX12_needs 39 = .ok (.if_icmp .gt 41, 3) := by decide +kernel
theorem dX12_needs_42 : decode cX12_needs 42 = .ok (.aload_n 0, 1) := by decide +kernel
theorem dX12_needs_43 : decode cX12_needs 43 = .ok (.getfield 64, 3) := by decide +kernel
theorem dX12_needs_46 : decode cX12_needs 46 = .ok (.iconst 2, 1) := by decide +kernel
theorem dX12_needs_47 : decode cX12_needs 47 = .ok (.iload_n 2, 1) := by decide +kernel
theorem dX12_needs_48 : decode cX12_needs 48 = .ok (.imul, 1) := by decide +kernel
theorem dX12_needs_49 : decode cX12_needs 49 = .ok (.iconst 1, 1) := by decide +kernel
theorem dX12_needs_50 : decode cX12_needs 50 = .ok (.iadd, 1) := by decide +kernel
theorem dX12_needs_51 : decode cX12_needs 51 = .ok (.iload_n 3, 1) := by decide +kernel
theorem dX12_needs_52 : decode cX12_needs 52 = .ok (.iastore, 1) := by decide +kernel
theorem dX12_needs_53 : decode cX12_needs 53 = .ok (.aload_n 0, 1) := by decide +kernel
theorem dX12_needs_54 : decode cX12_needs 54 = .ok (.aload_n 0, 1) := by decide +kernel
theorem dX12_needs_55 : decode cX12_needs 55 = .ok (.getfield 64, 3) := by decide +kernel
theorem dX12_needs_58 : decode cX12_needs 58 = .ok (.iload_n 1, 1) := by decide +kernel
theorem dX12_needs_59 : decode cX12_needs 59 = .ok (.iload_n 2, 1) := by decide +kernel
theorem dX12_needs_60 : decode cX12_needs 60 = .ok (.invokevirtual 338, 3) := by decide +kernel
theorem dX12_needs_63 : decode cX12_needs 63 = .ok (.aload_n 0, 1) := by decide +kernel
theorem dX12_needs_64 : decode cX12_needs 64 = .ok (.getfield 37, 3) := by decide +kernel
theorem dX12_needs_67 : decode cX12_needs 67 = .ok (.iconst 0, 1) := by decide +kernel
theorem dX12_needs_68 : decode cX12_needs 68 = .ok (.iaload, 1) := by decide +kernel
theorem dX12_needs_69 : decode cX12_needs 69 = .ok (.if_icmp .lt 5, 3) := by decide +kernel
theorem dX12_needs_72 : decode cX12_needs 72 = .ok (.iload_n 3, 1) := by decide +kernel
theorem dX12_needs_73 : decode cX12_needs 73 = .ok (.ireturn, 1) := by decide +kernel
theorem dX12_needs_74 : decode cX12_needs 74 = .ok (.iinc 3 1, 3) := by decide +kernel
theorem dX12_needs_77 : decode cX12_needs 77 = .ok (.goto (-41), 3) := by decide +kernel
theorem dX12_needs_80 : decode cX12_needs 80 = .ok (.iconst (-1), 1) := by decide +kernel
theorem dX12_needs_81 : decode cX12_needs 81 = .ok (.ireturn, 1) := by decide +kernel
section
variable {g : GG} {p : Program} {l : Launch} {e : Env} {R : Room} {s : State} {m : MethodId} {args : Array Value} {below : List Frame} {meth : Method} {c : Code} {n0 z0 : Nat}
def f_X12_needs_36  : Nat → Nat → Int32 → Int32 → Int32 → AH → Option (Int32 × AH)
  | 0, _, _, _, _, _ => none
  | n + 1, o0, x1, x2, x3, h =>
  if 9 < x3 then
    some ((-1), h)
  else
    (gR [12] h o0 33).bind fun v2 =>
    (uI 0 h v2 ((2 * x2) + 1) x3).bind fun h4 =>
    (gR [12] h4 o0 33).bind fun v6 =>
    (isC [12] h4 o0).bind fun _ =>
    cN (f_X12_pull o0 v6 x1 x2 h4) h4 fun v8 h9 =>
    (gR [12] h9 o0 18).bind fun v13 =>
    (aI 0 h9 v13 0).bind fun v15 =>
    if v8 < v15 then
      f_X12_needs_36  n o0 x1 x2 (x3 + 1) h9
    else
      some (x3, h9)
set_option maxHeartbeats 1000000 in
theorem w_X12_needs_36 (X : Cx g p s m args meth c cX12_needs 4 "TrapCornerModel") (hR : 91 ≤ R.frames ∧ 5824 ≤ R.locals) (hr : meth.sig.returnType = (some (.int))) {res : Int32 × AH} : ∀ (n : Nat) (o0 : Nat) (x1 : Int32) (x2 : Int32) (x3 : Int32) (h : AH) (ls : Array Slot) (H : Heap) (locs : List Loc), f_X12_needs_36 n o0 x1 x2 x3 h = some res → Iv g s n0 z0 h H locs 0 0 → lv_has ls 4 [(0, .ref (rfG g o0)), (1, .int x1), (2, .int x2), (3, .int x3)] → W p l e R s m args below meth c H locs 0 0 (MQ below (QG g (some (.int res.1)) res.2) args s 0 0 (AG g)) (F0 m 36 ls []) := by
  have hx := X.1
  have hb := X.2.1
  intro n
  induction n with
  | zero =>
    intro o0 x1 x2 x3 h ls H locs hf
    rw [f_X12_needs_36.eq_1] at hf
    cases hf
  | succ n ih =>
    intro o0 x1 x2 x3 h ls H locs hf I hl
    rw [f_X12_needs_36.eq_2] at hf
    refine lv_iload_n hx hb dX12_needs_36 rfl (lv_at hl 3 rfl) ?_
    refine lv_bipush (v := 9) hx hb dX12_needs_37 (by decide) ?_
    refine lv_icmp_gt (tgt := 80) hx hb dX12_needs_39 (by decide) (fun c1 => ?_) (fun c1 => ?_)
    · rw [if_pos c1] at hf
      refine lv_iconst (v := (-1)) hx hb dX12_needs_80 (by decide) ?_
      cases hf
      exact k_ri X I hr dX12_needs_81
    · rw [if_neg c1] at hf
      refine lv_aload_n hx hb dX12_needs_42 rfl (lv_at hl 0 rfl) ?_
      obtain ⟨v2, e3, hf⟩ := Option.bind_eq_some_iff.mp hf
      refine r_gR X I e3 lk_TrapCornerModel_64 dX12_needs_43 ?_
      refine lv_iconst (v := 2) hx hb dX12_needs_46 (by decide) ?_
      refine lv_iload_n hx hb dX12_needs_47 rfl (lv_at hl 2 rfl) ?_
      refine lv_imul hx hb dX12_needs_48 ?_
      refine lv_iconst (v := 1) hx hb dX12_needs_49 (by decide) ?_
      refine lv_iadd hx hb dX12_needs_50 ?_
      refine lv_iload_n hx hb dX12_needs_51 rfl (lv_at hl 3 rfl) ?_
      obtain ⟨h4, e5, hf⟩ := Option.bind_eq_some_iff.mp hf
      refine r_uI0 X I e5 dX12_needs_52 (fun H locs I => ?_)
      refine lv_aload_n hx hb dX12_needs_53 rfl (lv_at hl 0 rfl) ?_
      refine lv_aload_n hx hb dX12_needs_54 rfl (lv_at hl 0 rfl) ?_
      obtain ⟨v6, e7, hf⟩ := Option.bind_eq_some_iff.mp hf
      refine r_gR X I e7 lk_TrapCornerModel_64 dX12_needs_55 ?_
      refine lv_iload_n hx hb dX12_needs_58 rfl (lv_at hl 1 rfl) ?_
      refine lv_iload_n hx hb dX12_needs_59 rfl (lv_at hl 2 rfl) ?_
      obtain ⟨_, g12, hf⟩ := Option.bind_eq_some_iff.mp hf
      obtain ⟨v8, h9, e10, z11, hf⟩ := cN_spec hf
      refine k_Vi (As := [.ref (rfG g v6), .int x1, .int x2]) (rest := []) X I (c_X12_pull l g o0 v6 x1 x2 e10) z11 g12 vk_TrapCornerModel_338 tw_1696 ⟨Nat.le_trans (by decide) hR.1, Nat.le_trans (by decide) hR.2⟩ ⟨Nat.zero_le _, Nat.zero_le _⟩ rfl hl.1 rfl (Nat.le_of_ble_eq_true rfl) dX12_needs_60 (fun H locs I => ?_)
      refine lv_aload_n hx hb dX12_needs_63 rfl (lv_at hl 0 rfl) ?_
      obtain ⟨v13, e14, hf⟩ := Option.bind_eq_some_iff.mp hf
      refine r_gR X I e14 lk_TrapCornerModel_37 dX12_needs_64 ?_
      refine lv_iconst (v := 0) hx hb dX12_needs_67 (by decide) ?_
      obtain ⟨v15, e16, hf⟩ := Option.bind_eq_some_iff.mp hf
      refine r_aI0 X I e16 dX12_needs_68 ?_
      refine lv_icmp_lt (tgt := 74) hx hb dX12_needs_69 (by decide) (fun c17 => ?_) (fun c17 => ?_)
      · rw [if_pos c17] at hf
        refine lv_iinc (v := x3 + 1) (lv' := [(3, .int (x3 + 1)), (0, .ref (rfG g o0)), (1, .int x1), (2, .int x2)]) hx hb dX12_needs_74 hl (k := 3) rfl rfl (by decide) rfl (fun ls hl => ?_)
        refine lv_goto (tgt := 36) hx hb dX12_needs_77 (by decide) ?_
        exact ih o0 x1 x2 (x3 + 1) h9 ls H locs hf I (lv_sub hl [1, 2, 3, 0] rfl)
      · rw [if_neg c17] at hf
        refine lv_iload_n hx hb dX12_needs_72 rfl (lv_at hl 3 rfl) ?_
        cases hf
        exact k_ri X I hr dX12_needs_73
def f_X12_needs_0  (o0 : Nat) (x1 : Int32) (x2 : Int32) (h : AH) : Option (Int32 × AH) :=
  (pV [12] h o0 0 (.int 0)).bind fun h1 =>
  (isC [12] h1 o0).bind fun _ =>
  cN (f_X12_isPerson o0 x1 h1) h1 fun v3 h4 =>
  if v3 = 0 then
    some ((-1), h4)
  else
    (isC [12] h4 o0).bind fun _ =>
    cN (f_X12_isCorner o0 x2 h4) h4 fun v9 h10 =>
    if v9 = 0 then
      some ((-1), h10)
    else
      (gR [12] h10 o0 32).bind fun v15 =>
      (gR [12] h10 o0 33).bind fun v17 =>
      cN (f_X12_copy v15 v17 h10) h10 fun _ h20 =>
      f_X12_needs_36 fu o0 x1 x2 0 h20
set_option maxHeartbeats 1000000 in
theorem w_X12_needs_0 (X : Cx g p s m args meth c cX12_needs 4 "TrapCornerModel") (hR : 91 ≤ R.frames ∧ 5824 ≤ R.locals) (hr : meth.sig.returnType = (some (.int))) {res : Int32 × AH} : ∀ (o0 : Nat) (x1 : Int32) (x2 : Int32) (h : AH) (ls : Array Slot) (H : Heap) (locs : List Loc), f_X12_needs_0 o0 x1 x2 h = some res → Iv g s n0 z0 h H locs 0 0 → lv_has ls 4 [(0, .ref (rfG g o0)), (1, .int x1), (2, .int x2)] → W p l e R s m args below meth c H locs 0 0 (MQ below (QG g (some (.int res.1)) res.2) args s 0 0 (AG g)) (F0 m 0 ls []) := by
  have hx := X.1
  have hb := X.2.1
  intro o0 x1 x2 h ls H locs hf I hl
  unfold f_X12_needs_0 at hf
  refine lv_aload_n hx hb dX12_needs_0 rfl (lv_at hl 0 rfl) ?_
  refine lv_iconst (v := 0) hx hb dX12_needs_1 (by decide) ?_
  obtain ⟨h1, e2, hf⟩ := Option.bind_eq_some_iff.mp hf
  refine r_pI X I e2 lp_TrapCornerModel_96 dX12_needs_2 (fun H locs I => ?_)
  refine lv_aload_n hx hb dX12_needs_5 rfl (lv_at hl 0 rfl) ?_
  refine lv_iload_n hx hb dX12_needs_6 rfl (lv_at hl 1 rfl) ?_
  obtain ⟨_, g7, hf⟩ := Option.bind_eq_some_iff.mp hf
  obtain ⟨v3, h4, e5, z6, hf⟩ := cN_spec hf
  refine k_Vi (As := [.int x1]) (rest := []) X I (c_X12_isPerson l g o0 x1 e5) z6 g7 vk_TrapCornerModel_383 tw_1643 ⟨Nat.le_trans (by decide) hR.1, Nat.le_trans (by decide) hR.2⟩ ⟨Nat.zero_le _, Nat.zero_le _⟩ rfl hl.1 rfl (Nat.le_of_ble_eq_true rfl) dX12_needs_7 (fun H locs I => ?_)
  refine lv_if_eq (tgt := 21) hx hb dX12_needs_10 (by decide) (fun c8 => ?_) (fun c8 => ?_)
  · rw [if_pos c8] at hf
    refine lv_iconst (v := (-1)) hx hb dX12_needs_21 (by decide) ?_
    cases hf
    exact k_ri X I hr dX12_needs_22
  · rw [if_neg c8] at hf
    refine lv_aload_n hx hb dX12_needs_13 rfl (lv_at hl 0 rfl) ?_
    refine lv_iload_n hx hb dX12_needs_14 rfl (lv_at hl 2 rfl) ?_
    obtain ⟨_, g13, hf⟩ := Option.bind_eq_some_iff.mp hf
    obtain ⟨v9, h10, e11, z12, hf⟩ := cN_spec hf
    refine k_Vi (As := [.int x2]) (rest := []) X I (c_X12_isCorner l g o0 x2 e11) z12 g13 vk_TrapCornerModel_380 tw_1635 ⟨Nat.le_trans (by decide) hR.1, Nat.le_trans (by decide) hR.2⟩ ⟨Nat.zero_le _, Nat.zero_le _⟩ rfl hl.1 rfl (Nat.le_of_ble_eq_true rfl) dX12_needs_15 (fun H locs I => ?_)
    refine lv_if_ne (tgt := 23) hx hb dX12_needs_18 (by decide) (fun c14 => ?_) (fun c14 => ?_)
    · rw [if_neg c14] at hf
      refine lv_aload_n hx hb dX12_needs_23 rfl (lv_at hl 0 rfl) ?_
      obtain ⟨v15, e16, hf⟩ := Option.bind_eq_some_iff.mp hf
      refine r_gR X I e16 lk_TrapCornerModel_61 dX12_needs_24 ?_
      refine lv_aload_n hx hb dX12_needs_27 rfl (lv_at hl 0 rfl) ?_
      obtain ⟨v17, e18, hf⟩ := Option.bind_eq_some_iff.mp hf
      refine r_gR X I e18 lk_TrapCornerModel_64 dX12_needs_28 ?_
      obtain ⟨⟨⟩, h20, e21, z22, hf⟩ := cN_spec hf
      refine k_Sv (As := [.ref (rfG g v15), .ref (rfG g v17)]) (rest := []) X I (c_X12_copy l g v15 v17 e21) z22 sk_TrapCornerModel_372 tw_1793 ⟨Nat.le_trans (by decide) hR.1, Nat.le_trans (by decide) hR.2⟩ ⟨Nat.zero_le _, Nat.zero_le _⟩ rfl hl.1 rfl (Nat.le_of_ble_eq_true rfl) dX12_needs_31 (fun H locs I => ?_)
      refine lv_iconst (v := 0) hx hb dX12_needs_34 (by decide) ?_
      refine lv_istore_n (lv' := [(3, .int 0), (0, .ref (rfG g o0)), (1, .int x1), (2, .int x2)]) hx hb dX12_needs_35 rfl hl (by decide) rfl (fun ls hl => ?_)
      exact w_X12_needs_36 X hR hr fu o0 x1 x2 0 h20 ls H locs hf I (lv_sub hl [1, 2, 3, 0] rfl)
    · rw [if_pos c14] at hf
      refine lv_iconst (v := (-1)) hx hb dX12_needs_21 (by decide) ?_
      cases hf
      exact k_ri X I hr dX12_needs_22
def f_X12_needs (o0 : Nat) (x1 : Int32) (x2 : Int32) (h : AH) : Option (Int32 × AH) := f_X12_needs_0 o0 x1 x2 h
end
theorem c_X12_needs (l : Launch) (g : GG) (o0 : Nat) (x1 : Int32) (x2 : Int32) {h : AH} {res : Int32 × AH} (hf : f_X12_needs o0 x1 x2 h = some res) : CM l g yX12_needs cX12_needs 4 (some (.int)) 91 5824 0 0 [.ref (rfG g o0), .int x1, .int x2] h (some (.int res.1)) res.2 :=
  k_body (by decide) (Nat.le_of_ble_eq_true rfl) (fun p e s m below meth c R ls hR hr X I hl => w_X12_needs_0 X ⟨Nat.le_of_eq hR.1.symm, Nat.le_of_eq hR.2.1.symm⟩ hr o0 x1 x2 h ls s.heap [] hf I (lv_sub hl [0, 1, 2] rfl))
/-! TrapCorner$CityReader.readsRules()Z -/
theorem dX0_readsRules_0 : decode cX0_readsRules 0 = .ok (.aload_n 0, 1) := by decide +kernel
theorem dX0_readsRules_1 : decode cX0_readsRules 1 = .ok (.dup, 1) := by decide +kernel
theorem dX0_readsRules_2 : decode cX0_readsRules 2 = .ok (.getfield 52, 3) := by decide +kernel
theorem dX0_readsRules_5 : decode cX0_readsRules 5 = .ok (.iconst 1, 1) := by decide +kernel
theorem dX0_readsRules_6 : decode cX0_readsRules 6 = .ok (.iadd, 1) := by decide +kernel
theorem dX0_readsRules_7 : decode cX0_readsRules 7 = .ok (.putfield 52, 3) := by decide +kernel
theorem dX0_readsRules_10 : decode cX0_readsRules 10 = .ok (.aload_n 0, 1) := by decide +kernel
theorem dX0_readsRules_11 : decode cX0_readsRules 11 = .ok (.iconst 1, 1) := by decide +kernel
theorem dX0_readsRules_12 : decode cX0_readsRules 12 = .ok (.putfield 37, 3) := by decide +kernel
theorem dX0_readsRules_15 : decode cX0_readsRules 15 = .ok (.aload_n 0, 1) := by decide +kernel
theorem dX0_readsRules_16 : decode cX0_readsRules 16 = .ok (.ldc 75, 2) := by decide +kernel
theorem dX0_readsRules_18 : decode cX0_readsRules 18 = .ok (.getstatic 77, 3) := by decide +kernel
theorem dX0_readsRules_21 : decode cX0_readsRules 21 = .ok (.getstatic 80, 3) := by decide +kernel
theorem dX0_readsRules_24 : decode cX0_readsRules 24 = .ok (.getstatic 30, 3) := by decide +kernel
theorem dX0_readsRules_27 : decode cX0_readsRules 27 = .ok (.invokevirtual 83, 3) := by decide +kernel
theorem dX0_readsRules_30 : decode cX0_readsRules 30 = .ok (.ifCond .ne 5, 3) := by decide +kernel
theorem dX0_readsRules_33 : decode cX0_readsRules 33 = .ok (.iconst 0, 1) := by decide +kernel
theorem dX0_readsRules_34 : decode cX0_readsRules 34 = .ok (.ireturn, 1) := by decide +kernel
theorem dX0_readsRules_35 : decode cX0_readsRules 35 = .ok (.aload_n 0, 1) := by decide +kernel
theorem dX0_readsRules_36 : decode cX0_readsRules 36 = .ok (.getfield 14, 3) := by decide +kernel
theorem dX0_readsRules_39 : decode cX0_readsRules 39 = .ok (.aload_n 0, 1) := by decide +kernel
theorem dX0_readsRules_40 : decode cX0_readsRules 40 = .ok (.getfield 20, 3) := by decide +kernel
theorem dX0_readsRules_43 : decode cX0_readsRules 43 = .ok (.invokevirtual 33, 3) := by decide +kernel
theorem dX0_readsRules_46 : decode cX0_readsRules 46 = .ok (.iconst 1, 1) := by decide +kernel
theorem dX0_readsRules_47 : decode cX0_readsRules 47 = .ok (.ireturn, 1) := by decide +kernel
theorem lp_TrapCorner_CityReader_37 : LKP "TrapCorner$CityReader" 37 [0] 5 (.boolean) := by
  intro ci hci
  have hci := List.mem_singleton.mp hci
  subst hci
  exact ⟨RX0, TX0, 6, "TrapCorner$CityReader", ck_0, by decide, tw_134, Or.inl rfl, rfl, by decide +kernel⟩
theorem vk_TrapCorner_CityReader_83 : VK "TrapCorner$CityReader" 83 [0] yX0_readsItems 4 := ⟨tw_488, tw_490, tw_4, ⟨by decide, by decide⟩, by decide +kernel, fun ci hci => by
  have hci := List.mem_singleton.mp hci
  subst hci
  exact ⟨_, rfl, tp_3⟩⟩
theorem lk_TrapCorner_CityReader_14 : LK "TrapCorner$CityReader" 14 [0] 3 := by
  intro ci hci
  have hci := List.mem_singleton.mp hci
  subst hci
  exact ⟨RX0, TX0, 6, "TrapCorner$CityReader", ck_0, by decide, tw_131, Or.inl rfl⟩
theorem vk_TrapCorner_CityReader_33 : VK "TrapCorner$CityReader" 33 [10] yX10_setRules 1 := ⟨tw_465, tw_466, tw_5, ⟨by decide, by decide⟩, by decide +kernel, fun ci hci => by
  have hci := List.mem_singleton.mp hci
  subst hci
  exact ⟨_, rfl, tw_467⟩⟩
section
variable {g : GG} {p : Program} {l : Launch} {e : Env} {R : Room} {s : State} {m : MethodId} {args : Array Value} {below : List Frame} {meth : Method} {c : Code} {n0 z0 : Nat}
def f_X0_readsRules_0  (o0 : Nat) (h : AH) : Option (Int32 × AH) :=
  (gI [0] h o0 1).bind fun v1 =>
  (pV [0] h o0 1 (.int (v1 + 1))).bind fun h3 =>
  (pZ [0] h3 o0 5 1).bind fun h5 =>
  (isC [0] h5 o0).bind fun _ =>
  cN (f_X0_readsItems o0 2000000 1000000 1000001 1000002 h5) h5 fun v7 h8 =>
  if v7 = 0 then
    some (0, h8)
  else
    (gR [0] h8 o0 3).bind fun v13 =>
    (gR [0] h8 o0 4).bind fun v15 =>
    (isC [10] h8 v13).bind fun _ =>
    cN (f_X10_setRules v13 v15 h8) h8 fun _ h18 =>
    some (1, h18)
set_option maxHeartbeats 1000000 in
theorem w_X0_readsRules_0 (X : Cx g p s m args meth c cX0_readsRules 1 "TrapCorner$CityReader") (hR : 6 ≤ R.frames ∧ 384 ≤ R.locals) (hr : meth.sig.returnType = (some (.boolean))) {res : Int32 × AH} : ∀ (o0 : Nat) (h : AH) (ls : Array Slot) (H : Heap) (locs : List Loc), f_X0_readsRules_0 o0 h = some res → Iv g s n0 z0 h H locs 0 0 → lv_has ls 1 [(0, .ref (rfG g o0))] → W p l e R s m args below meth c H locs 0 0 (MQ below (QG g (some (.int res.1)) res.2) args s 0 0 (AG g)) (F0 m 0 ls []) := by
  have hx := X.1
  have hb := X.2.1
  intro o0 h ls H locs hf I hl
  unfold f_X0_readsRules_0 at hf
  refine lv_aload_n hx hb dX0_readsRules_0 rfl (lv_at hl 0 rfl) ?_
  refine lv_dup hx hb dX0_readsRules_1 rfl ?_
  obtain ⟨v1, e2, hf⟩ := Option.bind_eq_some_iff.mp hf
  refine r_gI X I e2 lk_TrapCorner_CityReader_52 dX0_readsRules_2 ?_
  refine lv_iconst (v := 1) hx hb dX0_readsRules_5 (by decide) ?_
  refine lv_iadd hx hb dX0_readsRules_6 ?_
  obtain ⟨h3, e4, hf⟩ := Option.bind_eq_some_iff.mp hf
  refine r_pI X I e4 lp_TrapCorner_CityReader_52 dX0_readsRules_7 (fun H locs I => ?_)
  refine lv_aload_n hx hb dX0_readsRules_10 rfl (lv_at hl 0 rfl) ?_
  refine lv_iconst (v := 1) hx hb dX0_readsRules_11 (by decide) ?_
  obtain ⟨h5, e6, hf⟩ := Option.bind_eq_some_iff.mp hf
  refine r_pZ X I e6 lp_TrapCorner_CityReader_37 dX0_readsRules_12 (fun H locs I => ?_)
  refine lv_aload_n hx hb dX0_readsRules_15 rfl (lv_at hl 0 rfl) ?_
  refine r_ldcS (tx := "tco") (i := 0) X (by decide) dX0_readsRules_16 ?_
  refine r_sA (j := 0) X I rfl tw_484 dX0_readsRules_18 ?_
  refine r_sA (j := 1) X I rfl tw_486 dX0_readsRules_21 ?_
  refine r_sA (j := 2) X I rfl tw_463 dX0_readsRules_24 ?_
  obtain ⟨_, g11, hf⟩ := Option.bind_eq_some_iff.mp hf
  obtain ⟨v7, h8, e9, z10, hf⟩ := cN_spec hf
  refine k_Vi (As := [.ref (rfG g 2000000), .ref (rfG g 1000000), .ref (rfG g 1000001), .ref (rfG g 1000002)]) (rest := []) X I (c_X0_readsItems l g o0 2000000 1000000 1000001 1000002 e9) z10 g11 vk_TrapCorner_CityReader_83 tw_491 ⟨Nat.le_trans (by decide) hR.1, Nat.le_trans (by decide) hR.2⟩ ⟨Nat.zero_le _, Nat.zero_le _⟩ rfl hl.1 rfl (Nat.le_of_ble_eq_true rfl) dX0_readsRules_27 (fun H locs I => ?_)
  refine lv_if_ne (tgt := 35) hx hb dX0_readsRules_30 (by decide) (fun c12 => ?_) (fun c12 => ?_)
  · rw [if_neg c12] at hf
    refine lv_aload_n hx hb dX0_readsRules_35 rfl (lv_at hl 0 rfl) ?_
    obtain ⟨v13, e14, hf⟩ := Option.bind_eq_some_iff.mp hf
    refine r_gR X I e14 lk_TrapCorner_CityReader_14 dX0_readsRules_36 ?_
    refine lv_aload_n hx hb dX0_readsRules_39 rfl (lv_at hl 0 rfl) ?_
    obtain ⟨v15, e16, hf⟩ := Option.bind_eq_some_iff.mp hf
    refine r_gR X I e16 lk_TrapCorner_CityReader_20 dX0_readsRules_40 ?_
    obtain ⟨_, g21, hf⟩ := Option.bind_eq_some_iff.mp hf
    obtain ⟨⟨⟩, h18, e19, z20, hf⟩ := cN_spec hf
    refine k_Vv (As := [.ref (rfG g v15)]) (rest := []) X I (c_X10_setRules l g v13 v15 e19) z20 g21 vk_TrapCorner_CityReader_33 tw_468 ⟨Nat.le_trans (by decide) hR.1, Nat.le_trans (by decide) hR.2⟩ ⟨Nat.zero_le _, Nat.zero_le _⟩ rfl hl.1 rfl (Nat.le_of_ble_eq_true rfl) dX0_readsRules_43 (fun H locs I => ?_)
    refine lv_iconst (v := 1) hx hb dX0_readsRules_46 (by decide) ?_
    cases hf
    exact k_rz X I hr (Or.inr rfl) dX0_readsRules_47
  · rw [if_pos c12] at hf
    refine lv_iconst (v := 0) hx hb dX0_readsRules_33 (by decide) ?_
    cases hf
    exact k_rz X I hr (Or.inl rfl) dX0_readsRules_34
def f_X0_readsRules (o0 : Nat) (h : AH) : Option (Int32 × AH) := f_X0_readsRules_0 o0 h
end
theorem c_X0_readsRules (l : Launch) (g : GG) (o0 : Nat) {h : AH} {res : Int32 × AH} (hf : f_X0_readsRules o0 h = some res) : CM l g yX0_readsRules cX0_readsRules 1 (some (.boolean)) 6 384 0 0 [.ref (rfG g o0)] h (some (.int res.1)) res.2 :=
  k_body (by decide) (Nat.le_of_ble_eq_true rfl) (fun p e s m below meth c R ls hR hr X I hl => w_X0_readsRules_0 X ⟨Nat.le_of_eq hR.1.symm, Nat.le_of_eq hR.2.1.symm⟩ hr o0 h ls s.heap [] hf I (lv_sub hl [0] rfl))
/-! TrapCorner$CityReader.readsCorner()Z -/
theorem dX0_readsCorner_0 : decode cX0_readsCorner 0 = .ok (.aload_n 0, 1) := by decide +kernel
theorem dX0_readsCorner_1 : decode cX0_readsCorner 1 = .ok (.dup, 1) := by decide +kernel
theorem dX0_readsCorner_2 : decode cX0_readsCorner 2 = .ok (.getfield 52, 3) := by decide +kernel
theorem dX0_readsCorner_5 : decode cX0_readsCorner 5 = .ok (.iconst 1, 1) := by decide +kernel
theorem dX0_readsCorner_6 : decode cX0_readsCorner 6 = .ok (.iadd, 1) := by decide +kernel
theorem dX0_readsCorner_7 : decode cX0_readsCorner 7 = .ok (.putfield 52, 3) := by decide +kernel
theorem dX0_readsCorner_10 : decode cX0_readsCorner 10 = .ok (.aload_n 0, 1) := by decide +kernel
theorem dX0_readsCorner_11 : decode cX0_readsCorner 11 = .ok (.ldc 87, 2) := by decide +kernel
theorem dX0_readsCorner_13 : decode cX0_readsCorner 13 = .ok (.getstatic 89, 3) := by decide +kernel
theorem dX0_readsCorner_16 : decode cX0_readsCorner 16 = .ok (.getstatic 92, 3) := by decide +kernel
theorem dX0_readsCorner_19 : decode cX0_readsCorner 19 = .ok (.getstatic 95, 3) := by decide +kernel
theorem dX0_readsCorner_22 : decode cX0_readsCorner 22 = .ok (.invokevirtual 83, 3) := by decide +kernel
theorem dX0_readsCorner_25 : decode cX0_readsCorner 25 = .ok (.ifCond .ne 5, 3) := by decide +kernel
theorem dX0_readsCorner_28 : decode cX0_readsCorner 28 = .ok (.iconst 0, 1) := by decide +kernel
theorem dX0_readsCorner_29 : decode cX0_readsCorner 29 = .ok (.ireturn, 1) := by decide +kernel
theorem dX0_readsCorner_30 : decode cX0_readsCorner 30 = .ok (.aload_n 0, 1) := by decide +kernel
theorem dX0_readsCorner_31 : decode cX0_readsCorner 31 = .ok (.getfield 14, 3) := by decide +kernel
theorem dX0_readsCorner_34 : decode cX0_readsCorner 34 = .ok (.aload_n 0, 1) := by decide +kernel
theorem dX0_readsCorner_35 : decode cX0_readsCorner 35 = .ok (.getfield 20, 3) := by decide +kernel
theorem dX0_readsCorner_38 : decode cX0_readsCorner 38 = .ok (.invokevirtual 98, 3) := by decide +kernel
theorem dX0_readsCorner_41 : decode cX0_readsCorner 41 = .ok (.iconst 1, 1) := by decide +kernel
theorem dX0_readsCorner_42 : decode cX0_readsCorner 42 = .ok (.ireturn, 1) := by decide +kernel
theorem vk_TrapCorner_CityReader_98 : VK "TrapCorner$CityReader" 98 [10] yX10_addCorner 1 := ⟨tw_614, tw_615, tw_5, ⟨by decide, by decide⟩, by decide +kernel, fun ci hci => by
  have hci := List.mem_singleton.mp hci
  subst hci
  exact ⟨_, rfl, tw_616⟩⟩
section
variable {g : GG} {p : Program} {l : Launch} {e : Env} {R : Room} {s : State} {m : MethodId} {args : Array Value} {below : List Frame} {meth : Method} {c : Code} {n0 z0 : Nat}
def f_X0_readsCorner_0  (o0 : Nat) (h : AH) : Option (Int32 × AH) :=
  (gI [0] h o0 1).bind fun v1 =>
  (pV [0] h o0 1 (.int (v1 + 1))).bind fun h3 =>
  (isC [0] h3 o0).bind fun _ =>
  cN (f_X0_readsItems o0 2000001 1000003 1000004 1000005 h3) h3 fun v5 h6 =>
  if v5 = 0 then
    some (0, h6)
  else
    (gR [0] h6 o0 3).bind fun v11 =>
    (gR [0] h6 o0 4).bind fun v13 =>
    (isC [10] h6 v11).bind fun _ =>
    cN (f_X10_addCorner v11 v13 h6) h6 fun _ h16 =>
    some (1, h16)
set_option maxHeartbeats 1000000 in
theorem w_X0_readsCorner_0 (X : Cx g p s m args meth c cX0_readsCorner 1 "TrapCorner$CityReader") (hR : 6 ≤ R.frames ∧ 384 ≤ R.locals) (hr : meth.sig.returnType = (some (.boolean))) {res : Int32 × AH} : ∀ (o0 : Nat) (h : AH) (ls : Array Slot) (H : Heap) (locs : List Loc), f_X0_readsCorner_0 o0 h = some res → Iv g s n0 z0 h H locs 0 0 → lv_has ls 1 [(0, .ref (rfG g o0))] → W p l e R s m args below meth c H locs 0 0 (MQ below (QG g (some (.int res.1)) res.2) args s 0 0 (AG g)) (F0 m 0 ls []) := by
  have hx := X.1
  have hb := X.2.1
  intro o0 h ls H locs hf I hl
  unfold f_X0_readsCorner_0 at hf
  refine lv_aload_n hx hb dX0_readsCorner_0 rfl (lv_at hl 0 rfl) ?_
  refine lv_dup hx hb dX0_readsCorner_1 rfl ?_
  obtain ⟨v1, e2, hf⟩ := Option.bind_eq_some_iff.mp hf
  refine r_gI X I e2 lk_TrapCorner_CityReader_52 dX0_readsCorner_2 ?_
  refine lv_iconst (v := 1) hx hb dX0_readsCorner_5 (by decide) ?_
  refine lv_iadd hx hb dX0_readsCorner_6 ?_
  obtain ⟨h3, e4, hf⟩ := Option.bind_eq_some_iff.mp hf
  refine r_pI X I e4 lp_TrapCorner_CityReader_52 dX0_readsCorner_7 (fun H locs I => ?_)
  refine lv_aload_n hx hb dX0_readsCorner_10 rfl (lv_at hl 0 rfl) ?_
  refine r_ldcS (tx := "ks") (i := 1) X (by decide) dX0_readsCorner_11 ?_
  refine r_sA (j := 3) X I rfl tw_608 dX0_readsCorner_13 ?_
  refine r_sA (j := 4) X I rfl tw_610 dX0_readsCorner_16 ?_
  refine r_sA (j := 5) X I rfl tw_612 dX0_readsCorner_19 ?_
  obtain ⟨_, g9, hf⟩ := Option.bind_eq_some_iff.mp hf
  obtain ⟨v5, h6, e7, z8, hf⟩ := cN_spec hf
  refine k_Vi (As := [.ref (rfG g 2000001), .ref (rfG g 1000003), .ref (rfG g 1000004), .ref (rfG g 1000005)]) (rest := []) X I (c_X0_readsItems l g o0 2000001 1000003 1000004 1000005 e7) z8 g9 vk_TrapCorner_CityReader_83 tw_491 ⟨Nat.le_trans (by decide) hR.1, Nat.le_trans (by decide) hR.2⟩ ⟨Nat.zero_le _, Nat.zero_le _⟩ rfl hl.1 rfl (Nat.le_of_ble_eq_true rfl) dX0_readsCorner_22 (fun H locs I => ?_)
  refine lv_if_ne (tgt := 30) hx hb dX0_readsCorner_25 (by decide) (fun c10 => ?_) (fun c10 => ?_)
  · rw [if_neg c10] at hf
    refine lv_aload_n hx hb dX0_readsCorner_30 rfl (lv_at hl 0 rfl) ?_
    obtain ⟨v11, e12, hf⟩ := Option.bind_eq_some_iff.mp hf
    refine r_gR X I e12 lk_TrapCorner_CityReader_14 dX0_readsCorner_31 ?_
    refine lv_aload_n hx hb dX0_readsCorner_34 rfl (lv_at hl 0 rfl) ?_
    obtain ⟨v13, e14, hf⟩ := Option.bind_eq_some_iff.mp hf
    refine r_gR X I e14 lk_TrapCorner_CityReader_20 dX0_readsCorner_35 ?_
    obtain ⟨_, g19, hf⟩ := Option.bind_eq_some_iff.mp hf
    obtain ⟨⟨⟩, h16, e17, z18, hf⟩ := cN_spec hf
    refine k_Vv (As := [.ref (rfG g v13)]) (rest := []) X I (c_X10_addCorner l g v11 v13 e17) z18 g19 vk_TrapCorner_CityReader_98 tw_617 ⟨Nat.le_trans (by decide) hR.1, Nat.le_trans (by decide) hR.2⟩ ⟨Nat.zero_le _, Nat.zero_le _⟩ rfl hl.1 rfl (Nat.le_of_ble_eq_true rfl) dX0_readsCorner_38 (fun H locs I => ?_)
    refine lv_iconst (v := 1) hx hb dX0_readsCorner_41 (by decide) ?_
    cases hf
    exact k_rz X I hr (Or.inr rfl) dX0_readsCorner_42
  · rw [if_pos c10] at hf
    refine lv_iconst (v := 0) hx hb dX0_readsCorner_28 (by decide) ?_
    cases hf
    exact k_rz X I hr (Or.inl rfl) dX0_readsCorner_29
def f_X0_readsCorner (o0 : Nat) (h : AH) : Option (Int32 × AH) := f_X0_readsCorner_0 o0 h
end
theorem c_X0_readsCorner (l : Launch) (g : GG) (o0 : Nat) {h : AH} {res : Int32 × AH} (hf : f_X0_readsCorner o0 h = some res) : CM l g yX0_readsCorner cX0_readsCorner 1 (some (.boolean)) 6 384 0 0 [.ref (rfG g o0)] h (some (.int res.1)) res.2 :=
  k_body (by decide) (Nat.le_of_ble_eq_true rfl) (fun p e s m below meth c R ls hR hr X I hl => w_X0_readsCorner_0 X ⟨Nat.le_of_eq hR.1.symm, Nat.le_of_eq hR.2.1.symm⟩ hr o0 h ls s.heap [] hf I (lv_sub hl [0] rfl))
/-! TrapCorner$CityReader.readsPerson()Z -/
theorem dX0_readsPerson_0 : decode cX0_readsPerson 0 = .ok (.aload_n 0, 1) := by decide +kernel
theorem dX0_readsPerson_1 : decode cX0_readsPerson 1 = .ok (.dup, 1) := by decide +kernel
theorem dX0_readsPerson_2 : decode cX0_readsPerson 2 = .ok (.getfield 52, 3) := by decide +kernel
theorem dX0_readsPerson_5 : decode cX0_readsPerson 5 = .ok (.iconst 1, 1) := by decide +kernel
theorem dX0_readsPerson_6 : decode cX0_readsPerson 6 = .ok (.iadd, 1) := by decide +kernel
theorem dX0_readsPerson_7 : decode cX0_readsPerson 7 = .ok (.putfield 52, 3) := by decide +kernel
theorem dX0_readsPerson_10 : decode cX0_readsPerson 10 = .ok (.aload_n 0, 1) := by decide +kernel
theorem dX0_readsPerson_11 : decode cX0_readsPerson 11 = .ok (.ldc 101, 2) := by decide +kernel
theorem dX0_readsPerson_13 : decode cX0_readsPerson 13 = .ok (.getstatic 103, 3) := by decide +kernel
theorem dX0_readsPerson_16 : decode cX0_readsPerson 16 = .ok (.getstatic 106, 3) := by decide +kernel
theorem dX0_readsPerson_19 : decode cX0_readsPerson 19 = .ok (.getstatic 109, 3) := by decide +kernel
theorem dX0_readsPerson_22 : decode cX0_readsPerson 22 = .ok (.invokevirtual 83, 3) := by decide +kernel
theorem dX0_readsPerson_25 : decode cX0_readsPerson 25 = .ok (.ifCond .ne 5, 3) := by decide +kernel
theorem dX0_readsPerson_28 : decode cX0_readsPerson 28 = .ok (.iconst 0, 1) := by decide +kernel
theorem dX0_readsPerson_29 : decode cX0_readsPerson 29 = .ok (.ireturn, 1) := by decide +kernel
theorem dX0_readsPerson_30 : decode cX0_readsPerson 30 = .ok (.aload_n 0, 1) := by decide +kernel
theorem dX0_readsPerson_31 : decode cX0_readsPerson 31 = .ok (.getfield 14, 3) := by decide +kernel
theorem dX0_readsPerson_34 : decode cX0_readsPerson 34 = .ok (.aload_n 0, 1) := by decide +kernel
theorem dX0_readsPerson_35 : decode cX0_readsPerson 35 = .ok (.getfield 20, 3) := by decide +kernel
theorem dX0_readsPerson_38 : decode cX0_readsPerson 38 = .ok (.invokevirtual 112, 3) := by decide +kernel
theorem dX0_readsPerson_41 : decode cX0_readsPerson 41 = .ok (.iconst 1, 1) := by decide +kernel
theorem dX0_readsPerson_42 : decode cX0_readsPerson 42 = .ok (.ireturn, 1) := by decide +kernel
theorem vk_TrapCorner_CityReader_112 : VK "TrapCorner$CityReader" 112 [10] yX10_addPerson 1 := ⟨tw_629, tw_630, tw_5, ⟨by decide, by decide⟩, by decide +kernel, fun ci hci => by
  have hci := List.mem_singleton.mp hci
  subst hci
  exact ⟨_, rfl, tw_631⟩⟩
section
variable {g : GG} {p : Program} {l : Launch} {e : Env} {R : Room} {s : State} {m : MethodId} {args : Array Value} {below : List Frame} {meth : Method} {c : Code} {n0 z0 : Nat}
def f_X0_readsPerson_0  (o0 : Nat) (h : AH) : Option (Int32 × AH) :=
  (gI [0] h o0 1).bind fun v1 =>
  (pV [0] h o0 1 (.int (v1 + 1))).bind fun h3 =>
  (isC [0] h3 o0).bind fun _ =>
  cN (f_X0_readsItems o0 2000002 1000006 1000007 1000008 h3) h3 fun v5 h6 =>
  if v5 = 0 then
    some (0, h6)
  else
    (gR [0] h6 o0 3).bind fun v11 =>
    (gR [0] h6 o0 4).bind fun v13 =>
    (isC [10] h6 v11).bind fun _ =>
    cN (f_X10_addPerson v11 v13 h6) h6 fun _ h16 =>
    some (1, h16)
set_option maxHeartbeats 1000000 in
theorem w_X0_readsPerson_0 (X : Cx g p s m args meth c cX0_readsPerson 1 "TrapCorner$CityReader") (hR : 6 ≤ R.frames ∧ 384 ≤ R.locals) (hr : meth.sig.returnType = (some (.boolean))) {res : Int32 × AH} : ∀ (o0 : Nat) (h : AH) (ls : Array Slot) (H : Heap) (locs : List Loc), f_X0_readsPerson_0 o0 h = some res → Iv g s n0 z0 h H locs 0 0 → lv_has ls 1 [(0, .ref (rfG g o0))] → W p l e R s m args below meth c H locs 0 0 (MQ below (QG g (some (.int res.1)) res.2) args s 0 0 (AG g)) (F0 m 0 ls []) := by
  have hx := X.1
  have hb := X.2.1
  intro o0 h ls H locs hf I hl
  unfold f_X0_readsPerson_0 at hf
  refine lv_aload_n hx hb dX0_readsPerson_0 rfl (lv_at hl 0 rfl) ?_
  refine lv_dup hx hb dX0_readsPerson_1 rfl ?_
  obtain ⟨v1, e2, hf⟩ := Option.bind_eq_some_iff.mp hf
  refine r_gI X I e2 lk_TrapCorner_CityReader_52 dX0_readsPerson_2 ?_
  refine lv_iconst (v := 1) hx hb dX0_readsPerson_5 (by decide) ?_
  refine lv_iadd hx hb dX0_readsPerson_6 ?_
  obtain ⟨h3, e4, hf⟩ := Option.bind_eq_some_iff.mp hf
  refine r_pI X I e4 lp_TrapCorner_CityReader_52 dX0_readsPerson_7 (fun H locs I => ?_)
  refine lv_aload_n hx hb dX0_readsPerson_10 rfl (lv_at hl 0 rfl) ?_
  refine r_ldcS (tx := "mgwabr") (i := 2) X (by decide) dX0_readsPerson_11 ?_
  refine r_sA (j := 6) X I rfl tw_623 dX0_readsPerson_13 ?_
  refine r_sA (j := 7) X I rfl tw_625 dX0_readsPerson_16 ?_
  refine r_sA (j := 8) X I rfl tw_627 dX0_readsPerson_19 ?_
  obtain ⟨_, g9, hf⟩ := Option.bind_eq_some_iff.mp hf
  obtain ⟨v5, h6, e7, z8, hf⟩ := cN_spec hf
  refine k_Vi (As := [.ref (rfG g 2000002), .ref (rfG g 1000006), .ref (rfG g 1000007), .ref (rfG g 1000008)]) (rest := []) X I (c_X0_readsItems l g o0 2000002 1000006 1000007 1000008 e7) z8 g9 vk_TrapCorner_CityReader_83 tw_491 ⟨Nat.le_trans (by decide) hR.1, Nat.le_trans (by decide) hR.2⟩ ⟨Nat.zero_le _, Nat.zero_le _⟩ rfl hl.1 rfl (Nat.le_of_ble_eq_true rfl) dX0_readsPerson_22 (fun H locs I => ?_)
  refine lv_if_ne (tgt := 30) hx hb dX0_readsPerson_25 (by decide) (fun c10 => ?_) (fun c10 => ?_)
  · rw [if_neg c10] at hf
    refine lv_aload_n hx hb dX0_readsPerson_30 rfl (lv_at hl 0 rfl) ?_
    obtain ⟨v11, e12, hf⟩ := Option.bind_eq_some_iff.mp hf
    refine r_gR X I e12 lk_TrapCorner_CityReader_14 dX0_readsPerson_31 ?_
    refine lv_aload_n hx hb dX0_readsPerson_34 rfl (lv_at hl 0 rfl) ?_
    obtain ⟨v13, e14, hf⟩ := Option.bind_eq_some_iff.mp hf
    refine r_gR X I e14 lk_TrapCorner_CityReader_20 dX0_readsPerson_35 ?_
    obtain ⟨_, g19, hf⟩ := Option.bind_eq_some_iff.mp hf
    obtain ⟨⟨⟩, h16, e17, z18, hf⟩ := cN_spec hf
    refine k_Vv (As := [.ref (rfG g v13)]) (rest := []) X I (c_X10_addPerson l g v11 v13 e17) z18 g19 vk_TrapCorner_CityReader_112 tw_632 ⟨Nat.le_trans (by decide) hR.1, Nat.le_trans (by decide) hR.2⟩ ⟨Nat.zero_le _, Nat.zero_le _⟩ rfl hl.1 rfl (Nat.le_of_ble_eq_true rfl) dX0_readsPerson_38 (fun H locs I => ?_)
    refine lv_iconst (v := 1) hx hb dX0_readsPerson_41 (by decide) ?_
    cases hf
    exact k_rz X I hr (Or.inr rfl) dX0_readsPerson_42
  · rw [if_pos c10] at hf
    refine lv_iconst (v := 0) hx hb dX0_readsPerson_28 (by decide) ?_
    cases hf
    exact k_rz X I hr (Or.inl rfl) dX0_readsPerson_29
def f_X0_readsPerson (o0 : Nat) (h : AH) : Option (Int32 × AH) := f_X0_readsPerson_0 o0 h
end
theorem c_X0_readsPerson (l : Launch) (g : GG) (o0 : Nat) {h : AH} {res : Int32 × AH} (hf : f_X0_readsPerson o0 h = some res) : CM l g yX0_readsPerson cX0_readsPerson 1 (some (.boolean)) 6 384 0 0 [.ref (rfG g o0)] h (some (.int res.1)) res.2 :=
  k_body (by decide) (Nat.le_of_ble_eq_true rfl) (fun p e s m below meth c R ls hR hr X I hl => w_X0_readsPerson_0 X ⟨Nat.le_of_eq hR.1.symm, Nat.le_of_eq hR.2.1.symm⟩ hr o0 h ls s.heap [] hf I (lv_sub hl [0] rfl))
/-! TrapCorner$LawReader.reads()Z -/
theorem dX2_reads_0 : decode cX2_reads 0 = .ok (.aload_n 0, 1) := by decide +kernel
theorem dX2_reads_1 : decode cX2_reads 1 = .ok (.invokevirtual 25, 3) := by decide +kernel
theorem dX2_reads_4 : decode cX2_reads 4 = .ok (.aload_n 0, 1) := by decide +kernel
theorem dX2_reads_5 : decode cX2_reads 5 = .ok (.iconst 0, 1) := by decide +kernel
theorem dX2_reads_6 : decode cX2_reads 6 = .ok (.putfield 15, 3) := by decide +kernel
theorem dX2_reads_9 : decode cX2_reads 9 = .ok (.iconst 0, 1) := by decide +kernel
theorem dX2_reads_10 : decode cX2_reads 10 = .ok (.istore_n 1, 1) := by decide +kernel
theorem dX2_reads_11 : decode cX2_reads 11 = .ok (.iload_n 1, 1) := by decide +kernel
theorem dX2_reads_12 : decode cX2_reads 12 = .ok (.sipush 240, 3) := by decide +kernel
theorem dX2_reads_15 : decode cX2_reads 15 = .ok (.if_icmp .gt 64, 3) := by decide +kernel
theorem dX2_reads_18 : decode cX2_reads 18 = .ok (.aload_n 0, 1) := by decide +kernel
theorem dX2_reads_19 : decode cX2_reads 19 = .ok (.bipush 121, 2) := by decide +kernel
theorem dX2_reads_21 : decode cX2_reads 21 = .ok (.invokevirtual 29, 3) := by decide +kernel
theorem dX2_reads_24 : decode cX2_reads 24 = .ok (.ifCond .eq 19, 3) := by decide +kernel
theorem dX2_reads_27 : decode cX2_reads 27 = .ok (.aload_n 0, 1) := by decide +kernel
theorem dX2_reads_28 : decode cX2_reads 28 = .ok (.bipush 58, 2) := by decide +kernel
theorem dX2_reads_30 : decode cX2_reads 30 = .ok (.invokevirtual 29, 3) := by decide +kernel
theorem dX2_reads_33 : decode cX2_reads 33 = .ok (.ifCond .eq 10, 3) := by decide +kernel
theorem dX2_reads_36 : decode cX2_reads 36 = .ok (.aload_n 0, 1) := by decide +kernel
theorem dX2_reads_37 : decode cX2_reads 37 = .ok (.invokevirtual 33, 3) := by decide +kernel
theorem dX2_reads_40 : decode cX2_reads 40 = .ok (.ifCond .ne 5, 3) := by decide +kernel
theorem dX2_reads_43 : decode cX2_reads 43 = .ok (.iconst 0, 1) := by decide +kernel
theorem dX2_reads_44 : decode cX2_reads 44 = .ok (.ireturn, 1) := by decide +kernel
theorem dX2_reads_45 : decode cX2_reads 45 = .ok (.aload_n 0, 1) := by decide +kernel
theorem dX2_reads_46 : decode cX2_reads 46 = .ok (.sipush 10017, 3) := by decide +kernel
theorem dX2_reads_49 : decode cX2_reads 49 = .ok (.invokevirtual 39, 3) := by decide +kernel
theorem dX2_reads_52 : decode cX2_reads 52 = .ok (.aload_n 0, 1) := by decide +kernel
theorem dX2_reads_53 : decode cX2_reads 53 = .ok (.invokevirtual 43, 3) := by decide +kernel
theorem dX2_reads_56 : decode cX2_reads 56 = .ok (.iconst (-1), 1) := by decide +kernel
theorem dX2_reads_57 : decode cX2_reads 57 = .ok (.if_icmp .ne 5, 3) := by decide +kernel
theorem dX2_reads_60 : decode cX2_reads 60 = .ok (.iconst 1, 1) := by decide +kernel
theorem dX2_reads_61 : decode cX2_reads 61 = .ok (.ireturn, 1) := by decide +kernel
theorem dX2_reads_62 : decode cX2_reads 62 = .ok (.aload_n 0, 1) := by decide +kernel
theorem dX2_reads_63 : decode cX2_reads 63 = .ok (.bipush 59, 2) := by decide +kernel
theorem dX2_reads_65 : decode cX2_reads 65 = .ok (.invokevirtual 29, 3) := by decide +kernel
theorem dX2_reads_68 : decode cX2_reads 68 = .ok (.ifCond .ne 5, 3) := by decide +kernel
theorem dX2_reads_71 : decode cX2_reads 71 = .ok (.iconst 0, 1) := by decide +kernel
theorem dX2_reads_72 : decode cX2_reads 72 = .ok (.ireturn, 1) := by decide +kernel
theorem dX2_reads_73 : decode cX2_reads 73 = .ok (.iinc 1 1, 3) := by decide +kernel
theorem dX2_reads_76 : decode cX2_reads 76 = .ok (.goto (-65), 3) := by decide +kernel
theorem dX2_reads_79 : decode cX2_reads 79 = .ok (.aload_n 0, 1) := by decide +kernel
theorem dX2_reads_80 : decode cX2_reads 80 = .ok (.aload_n 0, 1) := by decide +kernel
theorem dX2_reads_81 : decode cX2_reads 81 = .ok (.getfield 47, 3) := by decide +kernel
theorem dX2_reads_84 : decode cX2_reads 84 = .ok (.invokevirtual 50, 3) := by decide +kernel
theorem dX2_reads_87 : decode cX2_reads 87 = .ok (.ireturn, 1) := by decide +kernel
theorem vk_TrapCorner_LawReader_33 : VK "TrapCorner$LawReader" 33 [2] yX2_readsBody 0 := ⟨tw_649, tw_651, tw_6, ⟨by decide, by decide⟩, by decide +kernel, fun ci hci => by
  have hci := List.mem_singleton.mp hci
  subst hci
  exact ⟨_, rfl, tp_6⟩⟩
theorem uk_TrapCorner_LawReader_25 : UK "TrapCorner$LawReader" 25 2 ⟨"TrapCorner$LawReader", "start", "()V"⟩ yX5_start "TrapCorner$Reader" 0 := ⟨tw_640, tw_641, tw_457, tw_3, ⟨by decide, by decide⟩, by decide +kernel, rfl, ⟨_, rfl, tw_642⟩⟩
section
variable {g : GG} {p : Program} {l : Launch} {e : Env} {R : Room} {s : State} {m : MethodId} {args : Array Value} {below : List Frame} {meth : Method} {c : Code} {n0 z0 : Nat}
def f_X2_reads_11  : Nat → Nat → Int32 → AH → Option (Int32 × AH)
  | 0, _, _, _ => none
  | n + 1, o0, x1, h =>
  if 240 < x1 then
    (gI [2] h o0 1).bind fun v2 =>
    (isC [2] h o0).bind fun _ =>
    cN (f_X5_fails o0 v2 h) h fun v4 h5 =>
    rZ v4 h5
  else
    (isC [2] h o0).bind fun _ =>
    cN (f_X5_takes o0 121 h) h fun v9 h10 =>
    if v9 = 0 then
      some (0, h10)
    else
      (isC [2] h10 o0).bind fun _ =>
      cN (f_X5_takes o0 58 h10) h10 fun v15 h16 =>
      if v15 = 0 then
        some (0, h16)
      else
        (isC [2] h16 o0).bind fun _ =>
        cN (f_X2_readsBody o0 h16) h16 fun v21 h22 =>
        if v21 = 0 then
          some (0, h22)
        else
          (isC [2] h22 o0).bind fun _ =>
          cN (f_X2_emit o0 10017 h22) h22 fun _ h28 =>
          (isC [2] h28 o0).bind fun _ =>
          cN (f_X5_sign o0 h28) h28 fun v32 h33 =>
          if v32 = ((-1)) then
            some (1, h33)
          else
            (isC [2] h33 o0).bind fun _ =>
            cN (f_X5_takes o0 59 h33) h33 fun v38 h39 =>
            if v38 = 0 then
              some (0, h39)
            else
              f_X2_reads_11  n o0 (x1 + 1) h39
set_option maxHeartbeats 1000000 in
theorem w_X2_reads_11 (X : Cx g p s m args meth c cX2_reads 2 "TrapCorner$LawReader") (hR : 67 ≤ R.frames ∧ 4288 ≤ R.locals) (hr : meth.sig.returnType = (some (.boolean))) {res : Int32 × AH} : ∀ (n : Nat) (o0 : Nat) (x1 : Int32) (h : AH) (ls : Array Slot) (H : Heap) (locs : List Loc), f_X2_reads_11 n o0 x1 h = some res → Iv g s n0 z0 h H locs 0 0 → lv_has ls 2 [(0, .ref (rfG g o0)), (1, .int x1)] → W p l e R s m args below meth c H locs 0 0 (MQ below (QG g (some (.int res.1)) res.2) args s 0 0 (AG g)) (F0 m 11 ls []) := by
  have hx := X.1
  have hb := X.2.1
  intro n
  induction n with
  | zero =>
    intro o0 x1 h ls H locs hf
    rw [f_X2_reads_11.eq_1] at hf
    cases hf
  | succ n ih =>
    intro o0 x1 h ls H locs hf I hl
    rw [f_X2_reads_11.eq_2] at hf
    refine lv_iload_n hx hb dX2_reads_11 rfl (lv_at hl 1 rfl) ?_
    refine lv_sipush (v := 240) hx hb dX2_reads_12 (by decide) ?_
    refine lv_icmp_gt (tgt := 79) hx hb dX2_reads_15 (by decide) (fun c1 => ?_) (fun c1 => ?_)
    · rw [if_pos c1] at hf
      refine lv_aload_n hx hb dX2_reads_79 rfl (lv_at hl 0 rfl) ?_
      refine lv_aload_n hx hb dX2_reads_80 rfl (lv_at hl 0 rfl) ?_
      obtain ⟨v2, e3, hf⟩ := Option.bind_eq_some_iff.mp hf
      refine r_gI X I e3 lk_TrapCorner_LawReader_47 dX2_reads_81 ?_
      obtain ⟨_, g8, hf⟩ := Option.bind_eq_some_iff.mp hf
      obtain ⟨v4, h5, e6, z7, hf⟩ := cN_spec hf
      refine k_Ui (As := [.int v2]) (rest := []) X I (c_X5_fails l g o0 v2 e6) z7 g8 uk_TrapCorner_LawReader_50 tw_587 ⟨Nat.le_trans (by decide) hR.1, Nat.le_trans (by decide) hR.2⟩ ⟨Nat.zero_le _, Nat.zero_le _⟩ rfl hl.1 rfl (Nat.le_of_ble_eq_true rfl) dX2_reads_84 (fun H locs I => ?_)
      obtain ⟨hz, rfl⟩ := rZ_spec hf
      exact k_rz X I hr hz dX2_reads_87
    · rw [if_neg c1] at hf
      refine lv_aload_n hx hb dX2_reads_18 rfl (lv_at hl 0 rfl) ?_
      refine lv_bipush (v := 121) hx hb dX2_reads_19 (by decide) ?_
      obtain ⟨_, g13, hf⟩ := Option.bind_eq_some_iff.mp hf
      obtain ⟨v9, h10, e11, z12, hf⟩ := cN_spec hf
      refine k_Ui (As := [.int 121]) (rest := []) X I (c_X5_takes l g o0 121 e11) z12 g13 uk_TrapCorner_LawReader_29 tw_648 ⟨Nat.le_trans (by decide) hR.1, Nat.le_trans (by decide) hR.2⟩ ⟨Nat.zero_le _, Nat.zero_le _⟩ rfl hl.1 rfl (Nat.le_of_ble_eq_true rfl) dX2_reads_21 (fun H locs I => ?_)
      refine lv_if_eq (tgt := 43) hx hb dX2_reads_24 (by decide) (fun c14 => ?_) (fun c14 => ?_)
      · rw [if_pos c14] at hf
        refine lv_iconst (v := 0) hx hb dX2_reads_43 (by decide) ?_
        cases hf
        exact k_rz X I hr (Or.inl rfl) dX2_reads_44
      · rw [if_neg c14] at hf
        refine lv_aload_n hx hb dX2_reads_27 rfl (lv_at hl 0 rfl) ?_
        refine lv_bipush (v := 58) hx hb dX2_reads_28 (by decide) ?_
        obtain ⟨_, g19, hf⟩ := Option.bind_eq_some_iff.mp hf
        obtain ⟨v15, h16, e17, z18, hf⟩ := cN_spec hf
        refine k_Ui (As := [.int 58]) (rest := []) X I (c_X5_takes l g o0 58 e17) z18 g19 uk_TrapCorner_LawReader_29 tw_648 ⟨Nat.le_trans (by decide) hR.1, Nat.le_trans (by decide) hR.2⟩ ⟨Nat.zero_le _, Nat.zero_le _⟩ rfl hl.1 rfl (Nat.le_of_ble_eq_true rfl) dX2_reads_30 (fun H locs I => ?_)
        refine lv_if_eq (tgt := 43) hx hb dX2_reads_33 (by decide) (fun c20 => ?_) (fun c20 => ?_)
        · rw [if_pos c20] at hf
          refine lv_iconst (v := 0) hx hb dX2_reads_43 (by decide) ?_
          cases hf
          exact k_rz X I hr (Or.inl rfl) dX2_reads_44
        · rw [if_neg c20] at hf
          refine lv_aload_n hx hb dX2_reads_36 rfl (lv_at hl 0 rfl) ?_
          obtain ⟨_, g25, hf⟩ := Option.bind_eq_some_iff.mp hf
          obtain ⟨v21, h22, e23, z24, hf⟩ := cN_spec hf
          refine k_Vi (As := []) (rest := []) X I (c_X2_readsBody l g o0 e23) z24 g25 vk_TrapCorner_LawReader_33 tw_652 ⟨Nat.le_trans (by decide) hR.1, Nat.le_trans (by decide) hR.2⟩ ⟨Nat.zero_le _, Nat.zero_le _⟩ rfl hl.1 rfl (Nat.le_of_ble_eq_true rfl) dX2_reads_37 (fun H locs I => ?_)
          refine lv_if_ne (tgt := 45) hx hb dX2_reads_40 (by decide) (fun c26 => ?_) (fun c26 => ?_)
          · rw [if_neg c26] at hf
            refine lv_aload_n hx hb dX2_reads_45 rfl (lv_at hl 0 rfl) ?_
            refine lv_sipush (v := 10017) hx hb dX2_reads_46 (by decide) ?_
            obtain ⟨_, g31, hf⟩ := Option.bind_eq_some_iff.mp hf
            obtain ⟨⟨⟩, h28, e29, z30, hf⟩ := cN_spec hf
            refine k_Vv (As := [.int 10017]) (rest := []) X I (c_X2_emit l g o0 10017 e29) z30 g31 vk_TrapCorner_LawReader_39 tw_675 ⟨Nat.le_trans (by decide) hR.1, Nat.le_trans (by decide) hR.2⟩ ⟨Nat.zero_le _, Nat.zero_le _⟩ rfl hl.1 rfl (Nat.le_of_ble_eq_true rfl) dX2_reads_49 (fun H locs I => ?_)
            refine lv_aload_n hx hb dX2_reads_52 rfl (lv_at hl 0 rfl) ?_
            obtain ⟨_, g36, hf⟩ := Option.bind_eq_some_iff.mp hf
            obtain ⟨v32, h33, e34, z35, hf⟩ := cN_spec hf
            refine k_Ui (As := []) (rest := []) X I (c_X5_sign l g o0 e34) z35 g36 uk_TrapCorner_LawReader_43 tw_478 ⟨Nat.le_trans (by decide) hR.1, Nat.le_trans (by decide) hR.2⟩ ⟨Nat.zero_le _, Nat.zero_le _⟩ rfl hl.1 rfl (Nat.le_of_ble_eq_true rfl) dX2_reads_53 (fun H locs I => ?_)
            refine lv_iconst (v := (-1)) hx hb dX2_reads_56 (by decide) ?_
            refine lv_icmp_ne (tgt := 62) hx hb dX2_reads_57 (by decide) (fun c37 => ?_) (fun c37 => ?_)
            · rw [if_neg c37] at hf
              refine lv_aload_n hx hb dX2_reads_62 rfl (lv_at hl 0 rfl) ?_
              refine lv_bipush (v := 59) hx hb dX2_reads_63 (by decide) ?_
              obtain ⟨_, g42, hf⟩ := Option.bind_eq_some_iff.mp hf
              obtain ⟨v38, h39, e40, z41, hf⟩ := cN_spec hf
              refine k_Ui (As := [.int 59]) (rest := []) X I (c_X5_takes l g o0 59 e40) z41 g42 uk_TrapCorner_LawReader_29 tw_648 ⟨Nat.le_trans (by decide) hR.1, Nat.le_trans (by decide) hR.2⟩ ⟨Nat.zero_le _, Nat.zero_le _⟩ rfl hl.1 rfl (Nat.le_of_ble_eq_true rfl) dX2_reads_65 (fun H locs I => ?_)
              refine lv_if_ne (tgt := 73) hx hb dX2_reads_68 (by decide) (fun c43 => ?_) (fun c43 => ?_)
              · rw [if_neg c43] at hf
                refine lv_iinc (v := x1 + 1) (lv' := [(1, .int (x1 + 1)), (0, .ref (rfG g o0))]) hx hb dX2_reads_73 hl (k := 1) rfl rfl (by decide) rfl (fun ls hl => ?_)
                refine lv_goto (tgt := 11) hx hb dX2_reads_76 (by decide) ?_
                exact ih o0 (x1 + 1) h39 ls H locs hf I (lv_sub hl [1, 0] rfl)
              · rw [if_pos c43] at hf
                refine lv_iconst (v := 0) hx hb dX2_reads_71 (by decide) ?_
                cases hf
                exact k_rz X I hr (Or.inl rfl) dX2_reads_72
            · rw [if_pos c37] at hf
              refine lv_iconst (v := 1) hx hb dX2_reads_60 (by decide) ?_
              cases hf
              exact k_rz X I hr (Or.inr rfl) dX2_reads_61
          · rw [if_pos c26] at hf
            refine lv_iconst (v := 0) hx hb dX2_reads_43 (by decide) ?_
            cases hf
            exact k_rz X I hr (Or.inl rfl) dX2_reads_44
def f_X2_reads_0  (o0 : Nat) (h : AH) : Option (Int32 × AH) :=
  (isC [2] h o0).bind fun _ =>
  cN (f_X5_start o0 h) h fun _ h2 =>
  (pV [2] h2 o0 4 (.int 0)).bind fun h6 =>
  f_X2_reads_11 fu o0 0 h6
set_option maxHeartbeats 1000000 in
theorem w_X2_reads_0 (X : Cx g p s m args meth c cX2_reads 2 "TrapCorner$LawReader") (hR : 67 ≤ R.frames ∧ 4288 ≤ R.locals) (hr : meth.sig.returnType = (some (.boolean))) {res : Int32 × AH} : ∀ (o0 : Nat) (h : AH) (ls : Array Slot) (H : Heap) (locs : List Loc), f_X2_reads_0 o0 h = some res → Iv g s n0 z0 h H locs 0 0 → lv_has ls 2 [(0, .ref (rfG g o0))] → W p l e R s m args below meth c H locs 0 0 (MQ below (QG g (some (.int res.1)) res.2) args s 0 0 (AG g)) (F0 m 0 ls []) := by
  have hx := X.1
  have hb := X.2.1
  intro o0 h ls H locs hf I hl
  unfold f_X2_reads_0 at hf
  refine lv_aload_n hx hb dX2_reads_0 rfl (lv_at hl 0 rfl) ?_
  obtain ⟨_, g5, hf⟩ := Option.bind_eq_some_iff.mp hf
  obtain ⟨⟨⟩, h2, e3, z4, hf⟩ := cN_spec hf
  refine k_Uv (As := []) (rest := []) X I (c_X5_start l g o0 e3) z4 g5 uk_TrapCorner_LawReader_25 tw_458 ⟨Nat.le_trans (by decide) hR.1, Nat.le_trans (by decide) hR.2⟩ ⟨Nat.zero_le _, Nat.zero_le _⟩ rfl hl.1 rfl (Nat.le_of_ble_eq_true rfl) dX2_reads_1 (fun H locs I => ?_)
  refine lv_aload_n hx hb dX2_reads_4 rfl (lv_at hl 0 rfl) ?_
  refine lv_iconst (v := 0) hx hb dX2_reads_5 (by decide) ?_
  obtain ⟨h6, e7, hf⟩ := Option.bind_eq_some_iff.mp hf
  refine r_pI X I e7 lp_TrapCorner_LawReader_15 dX2_reads_6 (fun H locs I => ?_)
  refine lv_iconst (v := 0) hx hb dX2_reads_9 (by decide) ?_
  refine lv_istore_n (lv' := [(1, .int 0), (0, .ref (rfG g o0))]) hx hb dX2_reads_10 rfl hl (by decide) rfl (fun ls hl => ?_)
  exact w_X2_reads_11 X hR hr fu o0 0 h6 ls H locs hf I (lv_sub hl [1, 0] rfl)
def f_X2_reads (o0 : Nat) (h : AH) : Option (Int32 × AH) := f_X2_reads_0 o0 h
end
theorem c_X2_reads (l : Launch) (g : GG) (o0 : Nat) {h : AH} {res : Int32 × AH} (hf : f_X2_reads o0 h = some res) : CM l g yX2_reads cX2_reads 2 (some (.boolean)) 67 4288 0 0 [.ref (rfG g o0)] h (some (.int res.1)) res.2 :=
  k_body (by decide) (Nat.le_of_ble_eq_true rfl) (fun p e s m below meth c R ls hR hr X I hl => w_X2_reads_0 X ⟨Nat.le_of_eq hR.1.symm, Nat.le_of_eq hR.2.1.symm⟩ hr o0 h ls s.heap [] hf I (lv_sub hl [0] rfl))
/-! TrapCorner$PlanReader.reads()Z -/
theorem dX3_reads_0 : decode cX3_reads 0 = .ok (.aload_n 0, 1) := by decide +kernel
theorem dX3_reads_1 : decode cX3_reads 1 = .ok (.invokevirtual 25, 3) := by decide +kernel
theorem dX3_reads_4 : decode cX3_reads 4 = .ok (.aload_n 0, 1) := by decide +kernel
theorem dX3_reads_5 : decode cX3_reads 5 = .ok (.iconst 0, 1) := by decide +kernel
theorem dX3_reads_6 : decode cX3_reads 6 = .ok (.putfield 15, 3) := by decide +kernel
theorem dX3_reads_9 : decode cX3_reads 9 = .ok (.iconst 0, 1) := by decide +kernel
theorem dX3_reads_10 : decode cX3_reads 10 = .ok (.istore_n 1, 1) := by decide +kernel
theorem dX3_reads_11 : decode cX3_reads 11 = .ok (.iload_n 1, 1) := by decide +kernel
theorem dX3_reads_12 : decode cX3_reads 12 = .ok (.bipush 16, 2) := by decide +kernel
theorem dX3_reads_14 : decode cX3_reads 14 = .ok (.if_icmp .ge 43, 3) := by decide +kernel
theorem dX3_reads_17 : decode cX3_reads 17 = .ok (.iload_n 1, 1) := by decide +kernel
theorem dX3_reads_18 : decode cX3_reads 18 = .ok (.ifCond .le 14, 3) := by decide +kernel
theorem dX3_reads_21 : decode cX3_reads 21 = .ok (.aload_n 0, 1) := by decide +kernel
theorem dX3_reads_22 : decode cX3_reads 22 = .ok (.bipush 59, 2) := by decide +kernel
theorem dX3_reads_24 : decode cX3_reads 24 = .ok (.invokevirtual 29, 3) := by decide +kernel
theorem dX3_reads_27 : decode cX3_reads 27 = .ok (.ifCond .ne 5, 3) := by decide +kernel
theorem dX3_reads_30 : decode cX3_reads 30 = .ok (.iconst 0, 1) := by decide +kernel
theorem dX3_reads_31 : decode cX3_reads 31 = .ok (.ireturn, 1) := by decide +kernel
theorem dX3_reads_32 : decode cX3_reads 32 = .ok (.aload_n 0, 1) := by decide +kernel
theorem dX3_reads_33 : decode cX3_reads 33 = .ok (.invokevirtual 33, 3) := by decide +kernel
theorem dX3_reads_36 : decode cX3_reads 36 = .ok (.ifCond .ne 5, 3) := by decide +kernel
theorem dX3_reads_39 : decode cX3_reads 39 = .ok (.iconst 0, 1) := by decide +kernel
theorem dX3_reads_40 : decode cX3_reads 40 = .ok (.ireturn, 1) := by decide +kernel
theorem dX3_reads_41 : decode cX3_reads 41 = .ok (.aload_n 0, 1) := by decide +kernel
theorem dX3_reads_42 : decode cX3_reads 42 = .ok (.invokevirtual 37, 3) := by decide +kernel
theorem dX3_reads_45 : decode cX3_reads 45 = .ok (.iconst (-1), 1) := by decide +kernel
theorem dX3_reads_46 : decode cX3_reads 46 = .ok (.if_icmp .ne 5, 3) := by decide +kernel
theorem dX3_reads_49 : decode cX3_reads 49 = .ok (.iconst 1, 1) := by decide +kernel
theorem dX3_reads_50 : decode cX3_reads 50 = .ok (.ireturn, 1) := by decide +kernel
theorem dX3_reads_51 : decode cX3_reads 51 = .ok (.iinc 1 1, 3) := by decide +kernel
theorem dX3_reads_54 : decode cX3_reads 54 = .ok (.goto (-43), 3) := by decide +kernel
theorem dX3_reads_57 : decode cX3_reads 57 = .ok (.aload_n 0, 1) := by decide +kernel
theorem dX3_reads_58 : decode cX3_reads 58 = .ok (.aload_n 0, 1) := by decide +kernel
theorem dX3_reads_59 : decode cX3_reads 59 = .ok (.getfield 41, 3) := by decide +kernel
theorem dX3_reads_62 : decode cX3_reads 62 = .ok (.invokevirtual 44, 3) := by decide +kernel
theorem dX3_reads_65 : decode cX3_reads 65 = .ok (.ireturn, 1) := by decide +kernel
theorem vk_TrapCorner_PlanReader_33 : VK "TrapCorner$PlanReader" 33 [3] yX3_readsStep 0 := ⟨tw_703, tw_705, tw_7, ⟨by decide, by decide⟩, by decide +kernel, fun ci hci => by
  have hci := List.mem_singleton.mp hci
  subst hci
  exact ⟨_, rfl, tp_13⟩⟩
theorem uk_TrapCorner_PlanReader_29 : UK "TrapCorner$PlanReader" 29 3 ⟨"TrapCorner$PlanReader", "takes", "(I)Z"⟩ yX5_takes "TrapCorner$Reader" 1 := ⟨tw_700, tw_701, tw_647, tw_3, ⟨by decide, by decide⟩, by decide +kernel, rfl, ⟨_, rfl, tw_702⟩⟩
theorem uk_TrapCorner_PlanReader_25 : UK "TrapCorner$PlanReader" 25 3 ⟨"TrapCorner$PlanReader", "start", "()V"⟩ yX5_start "TrapCorner$Reader" 0 := ⟨tw_697, tw_698, tw_457, tw_3, ⟨by decide, by decide⟩, by decide +kernel, rfl, ⟨_, rfl, tw_699⟩⟩
section
variable {g : GG} {p : Program} {l : Launch} {e : Env} {R : Room} {s : State} {m : MethodId} {args : Array Value} {below : List Frame} {meth : Method} {c : Code} {n0 z0 : Nat}
def f_X3_reads_32 (k11 : Nat → Int32 → AH → Option (Int32 × AH)) (o0 : Nat) (x1 : Int32) (h : AH) : Option (Int32 × AH) :=
  (isC [3] h o0).bind fun _ =>
  cN (f_X3_readsStep o0 h) h fun v1 h2 =>
  if v1 = 0 then
    some (0, h2)
  else
    (isC [3] h2 o0).bind fun _ =>
    cN (f_X5_sign o0 h2) h2 fun v7 h8 =>
    if v7 = ((-1)) then
      some (1, h8)
    else
      k11 o0 (x1 + 1) h8
set_option maxHeartbeats 1000000 in
theorem w_X3_reads_32 (X : Cx g p s m args meth c cX3_reads 2 "TrapCorner$PlanReader") (hR : 6 ≤ R.frames ∧ 384 ≤ R.locals) (hr : meth.sig.returnType = (some (.boolean))) {res : Int32 × AH} {k11 : Nat → Int32 → AH → Option (Int32 × AH)} (hk11 : ∀ (o0 : Nat) (x1 : Int32) (h : AH) (ls : Array Slot) (H : Heap) (locs : List Loc), k11 o0 x1 h = some res → Iv g s n0 z0 h H locs 0 0 → lv_has ls 2 [(0, .ref (rfG g o0)), (1, .int x1)] → W p l e R s m args below meth c H locs 0 0 (MQ below (QG g (some (.int res.1)) res.2) args s 0 0 (AG g)) (F0 m 11 ls [])) : ∀ (o0 : Nat) (x1 : Int32) (h : AH) (ls : Array Slot) (H : Heap) (locs : List Loc), f_X3_reads_32 k11 o0 x1 h = some res → Iv g s n0 z0 h H locs 0 0 → lv_has ls 2 [(0, .ref (rfG g o0)), (1, .int x1)] → W p l e R s m args below meth c H locs 0 0 (MQ below (QG g (some (.int res.1)) res.2) args s 0 0 (AG g)) (F0 m 32 ls []) := by
  have hx := X.1
  have hb := X.2.1
  intro o0 x1 h ls H locs hf I hl
  unfold f_X3_reads_32 at hf
  refine lv_aload_n hx hb dX3_reads_32 rfl (lv_at hl 0 rfl) ?_
  obtain ⟨_, g5, hf⟩ := Option.bind_eq_some_iff.mp hf
  obtain ⟨v1, h2, e3, z4, hf⟩ := cN_spec hf
  refine k_Vi (As := []) (rest := []) X I (c_X3_readsStep l g o0 e3) z4 g5 vk_TrapCorner_PlanReader_33 tw_706 ⟨Nat.le_trans (by decide) hR.1, Nat.le_trans (by decide) hR.2⟩ ⟨Nat.zero_le _, Nat.zero_le _⟩ rfl hl.1 rfl (Nat.le_of_ble_eq_true rfl) dX3_reads_33 (fun H locs I => ?_)
  refine lv_if_ne (tgt := 41) hx hb dX3_reads_36 (by decide) (fun c6 => ?_) (fun c6 => ?_)
  · rw [if_neg c6] at hf
    refine lv_aload_n hx hb dX3_reads_41 rfl (lv_at hl 0 rfl) ?_
    obtain ⟨_, g11, hf⟩ := Option.bind_eq_some_iff.mp hf
    obtain ⟨v7, h8, e9, z10, hf⟩ := cN_spec hf
    refine k_Ui (As := []) (rest := []) X I (c_X5_sign l g o0 e9) z10 g11 uk_TrapCorner_PlanReader_37 tw_478 ⟨Nat.le_trans (by decide) hR.1, Nat.le_trans (by decide) hR.2⟩ ⟨Nat.zero_le _, Nat.zero_le _⟩ rfl hl.1 rfl (Nat.le_of_ble_eq_true rfl) dX3_reads_42 (fun H locs I => ?_)
    refine lv_iconst (v := (-1)) hx hb dX3_reads_45 (by decide) ?_
    refine lv_icmp_ne (tgt := 51) hx hb dX3_reads_46 (by decide) (fun c12 => ?_) (fun c12 => ?_)
    · rw [if_neg c12] at hf
      refine lv_iinc (v := x1 + 1) (lv' := [(1, .int (x1 + 1)), (0, .ref (rfG g o0))]) hx hb dX3_reads_51 hl (k := 1) rfl rfl (by decide) rfl (fun ls hl => ?_)
      refine lv_goto (tgt := 11) hx hb dX3_reads_54 (by decide) ?_
      exact hk11 o0 (x1 + 1) h8 ls H locs hf I (lv_sub hl [1, 0] rfl)
    · rw [if_pos c12] at hf
      refine lv_iconst (v := 1) hx hb dX3_reads_49 (by decide) ?_
      cases hf
      exact k_rz X I hr (Or.inr rfl) dX3_reads_50
  · rw [if_pos c6] at hf
    refine lv_iconst (v := 0) hx hb dX3_reads_39 (by decide) ?_
    cases hf
    exact k_rz X I hr (Or.inl rfl) dX3_reads_40
def f_X3_reads_11  : Nat → Nat → Int32 → AH → Option (Int32 × AH)
  | 0, _, _, _ => none
  | n + 1, o0, x1, h =>
  if 16 ≤ x1 then
    (gI [3] h o0 1).bind fun v2 =>
    (isC [3] h o0).bind fun _ =>
    cN (f_X5_fails o0 v2 h) h fun v4 h5 =>
    rZ v4 h5
  else
    if x1 ≤ 0 then
      f_X3_reads_32 (f_X3_reads_11 n) o0 x1 h
    else
      (isC [3] h o0).bind fun _ =>
      cN (f_X5_takes o0 59 h) h fun v10 h11 =>
      if v10 = 0 then
        some (0, h11)
      else
        f_X3_reads_32 (f_X3_reads_11 n) o0 x1 h11
set_option maxHeartbeats 1000000 in
theorem w_X3_reads_11 (X : Cx g p s m args meth c cX3_reads 2 "TrapCorner$PlanReader") (hR : 6 ≤ R.frames ∧ 384 ≤ R.locals) (hr : meth.sig.returnType = (some (.boolean))) {res : Int32 × AH} : ∀ (n : Nat) (o0 : Nat) (x1 : Int32) (h : AH) (ls : Array Slot) (H : Heap) (locs : List Loc), f_X3_reads_11 n o0 x1 h = some res → Iv g s n0 z0 h H locs 0 0 → lv_has ls 2 [(0, .ref (rfG g o0)), (1, .int x1)] → W p l e R s m args below meth c H locs 0 0 (MQ below (QG g (some (.int res.1)) res.2) args s 0 0 (AG g)) (F0 m 11 ls []) := by
  have hx := X.1
  have hb := X.2.1
  intro n
  induction n with
  | zero =>
    intro o0 x1 h ls H locs hf
    rw [f_X3_reads_11.eq_1] at hf
    cases hf
  | succ n ih =>
    intro o0 x1 h ls H locs hf I hl
    rw [f_X3_reads_11.eq_2] at hf
    refine lv_iload_n hx hb dX3_reads_11 rfl (lv_at hl 1 rfl) ?_
    refine lv_bipush (v := 16) hx hb dX3_reads_12 (by decide) ?_
    refine lv_icmp_ge (tgt := 57) hx hb dX3_reads_14 (by decide) (fun c1 => ?_) (fun c1 => ?_)
    · rw [if_pos c1] at hf
      refine lv_aload_n hx hb dX3_reads_57 rfl (lv_at hl 0 rfl) ?_
      refine lv_aload_n hx hb dX3_reads_58 rfl (lv_at hl 0 rfl) ?_
      obtain ⟨v2, e3, hf⟩ := Option.bind_eq_some_iff.mp hf
      refine r_gI X I e3 lk_TrapCorner_PlanReader_41 dX3_reads_59 ?_
      obtain ⟨_, g8, hf⟩ := Option.bind_eq_some_iff.mp hf
      obtain ⟨v4, h5, e6, z7, hf⟩ := cN_spec hf
      refine k_Ui (As := [.int v2]) (rest := []) X I (c_X5_fails l g o0 v2 e6) z7 g8 uk_TrapCorner_PlanReader_44 tw_587 ⟨Nat.le_trans (by decide) hR.1, Nat.le_trans (by decide) hR.2⟩ ⟨Nat.zero_le _, Nat.zero_le _⟩ rfl hl.1 rfl (Nat.le_of_ble_eq_true rfl) dX3_reads_62 (fun H locs I => ?_)
      obtain ⟨hz, rfl⟩ := rZ_spec hf
      exact k_rz X I hr hz dX3_reads_65
    · rw [if_neg c1] at hf
      refine lv_iload_n hx hb dX3_reads_17 rfl (lv_at hl 1 rfl) ?_
      refine lv_if_le (tgt := 32) hx hb dX3_reads_18 (by decide) (fun c9 => ?_) (fun c9 => ?_)
      · rw [if_pos c9] at hf
        exact w_X3_reads_32 X hR hr ih o0 x1 h ls H locs hf I (lv_sub hl [0, 1] rfl)
      · rw [if_neg c9] at hf
        refine lv_aload_n hx hb dX3_reads_21 rfl (lv_at hl 0 rfl) ?_
        refine lv_bipush (v := 59) hx hb dX3_reads_22 (by decide) ?_
        obtain ⟨_, g14, hf⟩ := Option.bind_eq_some_iff.mp hf
        obtain ⟨v10, h11, e12, z13, hf⟩ := cN_spec hf
        refine k_Ui (As := [.int 59]) (rest := []) X I (c_X5_takes l g o0 59 e12) z13 g14 uk_TrapCorner_PlanReader_29 tw_648 ⟨Nat.le_trans (by decide) hR.1, Nat.le_trans (by decide) hR.2⟩ ⟨Nat.zero_le _, Nat.zero_le _⟩ rfl hl.1 rfl (Nat.le_of_ble_eq_true rfl) dX3_reads_24 (fun H locs I => ?_)
        refine lv_if_ne (tgt := 32) hx hb dX3_reads_27 (by decide) (fun c15 => ?_) (fun c15 => ?_)
        · rw [if_neg c15] at hf
          exact w_X3_reads_32 X hR hr ih o0 x1 h11 ls H locs hf I (lv_sub hl [0, 1] rfl)
        · rw [if_pos c15] at hf
          refine lv_iconst (v := 0) hx hb dX3_reads_30 (by decide) ?_
          cases hf
          exact k_rz X I hr (Or.inl rfl) dX3_reads_31
def f_X3_reads_0  (o0 : Nat) (h : AH) : Option (Int32 × AH) :=
  (isC [3] h o0).bind fun _ =>
  cN (f_X5_start o0 h) h fun _ h2 =>
  (pV [3] h2 o0 4 (.int 0)).bind fun h6 =>
  f_X3_reads_11 fu o0 0 h6
set_option maxHeartbeats 1000000 in
theorem w_X3_reads_0 (X : Cx g p s m args meth c cX3_reads 2 "TrapCorner$PlanReader") (hR : 6 ≤ R.frames ∧ 384 ≤ R.locals) (hr : meth.sig.returnType = (some (.boolean))) {res : Int32 × AH} : ∀ (o0 : Nat) (h : AH) (ls : Array Slot) (H : Heap) (locs : List Loc), f_X3_reads_0 o0 h = some res → Iv g s n0 z0 h H locs 0 0 → lv_has ls 2 [(0, .ref (rfG g o0))] → W p l e R s m args below meth c H locs 0 0 (MQ below (QG g (some (.int res.1)) res.2) args s 0 0 (AG g)) (F0 m 0 ls []) := by
  have hx := X.1
  have hb := X.2.1
  intro o0 h ls H locs hf I hl
  unfold f_X3_reads_0 at hf
  refine lv_aload_n hx hb dX3_reads_0 rfl (lv_at hl 0 rfl) ?_
  obtain ⟨_, g5, hf⟩ := Option.bind_eq_some_iff.mp hf
  obtain ⟨⟨⟩, h2, e3, z4, hf⟩ := cN_spec hf
  refine k_Uv (As := []) (rest := []) X I (c_X5_start l g o0 e3) z4 g5 uk_TrapCorner_PlanReader_25 tw_458 ⟨Nat.le_trans (by decide) hR.1, Nat.le_trans (by decide) hR.2⟩ ⟨Nat.zero_le _, Nat.zero_le _⟩ rfl hl.1 rfl (Nat.le_of_ble_eq_true rfl) dX3_reads_1 (fun H locs I => ?_)
  refine lv_aload_n hx hb dX3_reads_4 rfl (lv_at hl 0 rfl) ?_
  refine lv_iconst (v := 0) hx hb dX3_reads_5 (by decide) ?_
  obtain ⟨h6, e7, hf⟩ := Option.bind_eq_some_iff.mp hf
  refine r_pI X I e7 lp_TrapCorner_PlanReader_15 dX3_reads_6 (fun H locs I => ?_)
  refine lv_iconst (v := 0) hx hb dX3_reads_9 (by decide) ?_
  refine lv_istore_n (lv' := [(1, .int 0), (0, .ref (rfG g o0))]) hx hb dX3_reads_10 rfl hl (by decide) rfl (fun ls hl => ?_)
  exact w_X3_reads_11 X hR hr fu o0 0 h6 ls H locs hf I (lv_sub hl [1, 0] rfl)
def f_X3_reads (o0 : Nat) (h : AH) : Option (Int32 × AH) := f_X3_reads_0 o0 h
end
theorem c_X3_reads (l : Launch) (g : GG) (o0 : Nat) {h : AH} {res : Int32 × AH} (hf : f_X3_reads o0 h = some res) : CM l g yX3_reads cX3_reads 2 (some (.boolean)) 6 384 0 0 [.ref (rfG g o0)] h (some (.int res.1)) res.2 :=
  k_body (by decide) (Nat.le_of_ble_eq_true rfl) (fun p e s m below meth c R ls hR hr X I hl => w_X3_reads_0 X ⟨Nat.le_of_eq hR.1.symm, Nat.le_of_eq hR.2.1.symm⟩ hr o0 h ls s.heap [] hf I (lv_sub hl [0] rfl))
/-! TrapCorner$CityReader.readsClause()Z -/
theorem dX0_readsClause_0 : decode cX0_readsClause 0 = .ok (.aload_n 0, 1) := by decide +kernel
theorem dX0_readsClause_1 : decode cX0_readsClause 1 = .ok (.invokevirtual 45, 3) := by decide +kernel
theorem dX0_readsClause_4 : decode cX0_readsClause 4 = .ok (.istore_n 1, 1) := by decide +kernel
theorem dX0_readsClause_5 : decode cX0_readsClause 5 = .ok (.iload_n 1, 1) := by decide +kernel
theorem dX0_readsClause_6 : decode cX0_readsClause 6 = .ok (.bipush 115, 2) := by decide +kernel
theorem dX0_readsClause_8 : decode cX0_readsClause 8 = .ok (.if_icmp .ne 15, 3) := by decide +kernel
theorem dX0_readsClause_11 : decode cX0_readsClause 11 = .ok (.aload_n 0, 1) := by decide +kernel
theorem dX0_readsClause_12 : decode cX0_readsClause 12 = .ok (.getfield 37, 3) := by decide +kernel
theorem dX0_readsClause_15 : decode cX0_readsClause 15 = .ok (.ifCond .ne 8, 3) := by decide +kernel
theorem dX0_readsClause_18 : decode cX0_readsClause 18 = .ok (.aload_n 0, 1) := by decide +kernel
theorem dX0_readsClause_19 : decode cX0_readsClause 19 = .ok (.invokevirtual 60, 3) := by decide +kernel
theorem dX0_readsClause_22 : decode cX0_readsClause 22 = .ok (.ireturn, 1) := by decide +kernel
theorem dX0_readsClause_23 : decode cX0_readsClause 23 = .ok (.iload_n 1, 1) := by decide +kernel
theorem dX0_readsClause_24 : decode cX0_readsClause 24 = .ok (.bipush 99, 2) := by decide +kernel
theorem dX0_readsClause_26 : decode cX0_readsClause 26 = .ok (.if_icmp .ne 19, 3) := by decide +kernel
theorem dX0_readsClause_29 : decode cX0_readsClause 29 = .ok (.aload_n 0, 1) := by decide +kernel
theorem dX0_readsClause_30 : decode cX0_readsClause 30 = .ok (.getfield 14, 3) := by decide +kernel
theorem dX0_readsClause_33 : decode cX0_readsClause 33 = .ok (.getfield 63, 3) := by decide +kernel
theorem dX0_readsClause_36 : decode cX0_readsClause 36 = .ok (.iconst 5, 1) := by decide +kernel
theorem dX0_readsClause_37 : decode cX0_readsClause 37 = .ok (.if_icmp .ge 8, 3) := by decide +kernel
theorem dX0_readsClause_40 : decode cX0_readsClause 40 = .ok (.aload_n 0, 1) := by decide +kernel
theorem dX0_readsClause_41 : decode cX0_readsClause 41 = .ok (.invokevirtual 66, 3) := by decide +kernel
theorem dX0_readsClause_44 : decode cX0_readsClause 44 = .ok (.ireturn, 1) := by decide +kernel
theorem dX0_readsClause_45 : decode cX0_readsClause 45 = .ok (.iload_n 1, 1) := by decide +kernel
theorem dX0_readsClause_46 : decode cX0_readsClause 46 = .ok (.bipush 112, 2) := by decide +kernel
theorem dX0_readsClause_48 : decode cX0_readsClause 48 = .ok (.if_icmp .ne 20, 3) := by decide +kernel
theorem dX0_readsClause_51 : decode cX0_readsClause 51 = .ok (.aload_n 0, 1) := by decide +kernel
theorem dX0_readsClause_52 : decode cX0_readsClause 52 = .ok (.getfield 14, 3) := by decide +kernel
theorem dX0_readsClause_55 : decode cX0_readsClause 55 = .ok (.getfield 69, 3) := by decide +kernel
theorem dX0_readsClause_58 : decode cX0_readsClause 58 = .ok (.bipush 6, 2) := by decide +kernel
theorem dX0_readsClause_60 : decode cX0_readsClause 60 = .ok (.if_icmp .ge 8, 3) := by decide +kernel
theorem dX0_readsClause_63 : decode cX0_readsClause 63 = .ok (.aload_n 0, 1) := by decide +kernel
theorem dX0_readsClause_64 : decode cX0_readsClause 64 = .ok (.invokevirtual 72, 3) := by decide +kernel
theorem dX0_readsClause_67 : decode cX0_readsClause 67 = .ok (.ireturn, 1) := by decide +kernel
theorem dX0_readsClause_68 : decode cX0_readsClause 68 = .ok (.aload_n 0, 1) := by decide +kernel
theorem dX0_readsClause_69 : decode cX0_readsClause 69 = .ok (.aload_n 0, 1) := by decide +kernel
theorem dX0_readsClause_70 : decode cX0_readsClause 70 = .ok (.getfield 52, 3) := by decide +kernel
theorem dX0_readsClause_73 : decode cX0_readsClause 73 = .ok (.invokevirtual 56, 3) := by decide +kernel
theorem dX0_readsClause_76 : decode cX0_readsClause 76 = .ok (.ireturn, 1) := by decide +kernel
theorem lk_TrapCorner_CityReader_69 : LK "TrapCorner$CityReader" 69 [10] 1 := by
  intro ci hci
  have hci := List.mem_singleton.mp hci
  subst hci
  exact ⟨RX10, TX10, 13, "TrapCorner$Town", ck_10, by decide, tw_72, Or.inl rfl⟩
theorem vk_TrapCorner_CityReader_72 : VK "TrapCorner$CityReader" 72 [0] yX0_readsPerson 0 := ⟨tw_618, tw_620, tw_4, ⟨by decide, by decide⟩, by decide +kernel, fun ci hci => by
  have hci := List.mem_singleton.mp hci
  subst hci
  exact ⟨_, rfl, tp_5⟩⟩
theorem lk_TrapCorner_CityReader_63 : LK "TrapCorner$CityReader" 63 [10] 0 := by
  intro ci hci
  have hci := List.mem_singleton.mp hci
  subst hci
  exact ⟨RX10, TX10, 13, "TrapCorner$Town", ck_10, by decide, tw_69, Or.inl rfl⟩
theorem vk_TrapCorner_CityReader_66 : VK "TrapCorner$CityReader" 66 [0] yX0_readsCorner 0 := ⟨tw_603, tw_605, tw_4, ⟨by decide, by decide⟩, by decide +kernel, fun ci hci => by
  have hci := List.mem_singleton.mp hci
  subst hci
  exact ⟨_, rfl, tp_4⟩⟩
theorem lk_TrapCorner_CityReader_37 : LK "TrapCorner$CityReader" 37 [0] 5 := by
  intro ci hci
  have hci := List.mem_singleton.mp hci
  subst hci
  exact ⟨RX0, TX0, 6, "TrapCorner$CityReader", ck_0, by decide, tw_134, Or.inl rfl⟩
theorem vk_TrapCorner_CityReader_60 : VK "TrapCorner$CityReader" 60 [0] yX0_readsRules 0 := ⟨tw_479, tw_481, tw_4, ⟨by decide, by decide⟩, by decide +kernel, fun ci hci => by
  have hci := List.mem_singleton.mp hci
  subst hci
  exact ⟨_, rfl, tp_2⟩⟩
section
variable {g : GG} {p : Program} {l : Launch} {e : Env} {R : Room} {s : State} {m : MethodId} {args : Array Value} {below : List Frame} {meth : Method} {c : Code} {n0 z0 : Nat}
def f_X0_readsClause_68  (o0 : Nat) (h : AH) : Option (Int32 × AH) :=
  (gI [0] h o0 1).bind fun v1 =>
  (isC [0] h o0).bind fun _ =>
  cN (f_X5_fails o0 v1 h) h fun v3 h4 =>
  rZ v3 h4
set_option maxHeartbeats 1000000 in
theorem w_X0_readsClause_68 (X : Cx g p s m args meth c cX0_readsClause 2 "TrapCorner$CityReader") (hR : 7 ≤ R.frames ∧ 448 ≤ R.locals) (hr : meth.sig.returnType = (some (.boolean))) {res : Int32 × AH} : ∀ (o0 : Nat) (h : AH) (ls : Array Slot) (H : Heap) (locs : List Loc), f_X0_readsClause_68 o0 h = some res → Iv g s n0 z0 h H locs 0 0 → lv_has ls 2 [(0, .ref (rfG g o0))] → W p l e R s m args below meth c H locs 0 0 (MQ below (QG g (some (.int res.1)) res.2) args s 0 0 (AG g)) (F0 m 68 ls []) := by
  have hx := X.1
  have hb := X.2.1
  intro o0 h ls H locs hf I hl
  unfold f_X0_readsClause_68 at hf
  refine lv_aload_n hx hb dX0_readsClause_68 rfl (lv_at hl 0 rfl) ?_
  refine lv_aload_n hx hb dX0_readsClause_69 rfl (lv_at hl 0 rfl) ?_
  obtain ⟨v1, e2, hf⟩ := Option.bind_eq_some_iff.mp hf
  refine r_gI X I e2 lk_TrapCorner_CityReader_52 dX0_readsClause_70 ?_
  obtain ⟨_, g7, hf⟩ := Option.bind_eq_some_iff.mp hf
  obtain ⟨v3, h4, e5, z6, hf⟩ := cN_spec hf
  refine k_Ui (As := [.int v1]) (rest := []) X I (c_X5_fails l g o0 v1 e5) z6 g7 uk_TrapCorner_CityReader_56 tw_587 ⟨Nat.le_trans (by decide) hR.1, Nat.le_trans (by decide) hR.2⟩ ⟨Nat.zero_le _, Nat.zero_le _⟩ rfl hl.1 rfl (Nat.le_of_ble_eq_true rfl) dX0_readsClause_73 (fun H locs I => ?_)
  obtain ⟨hz, rfl⟩ := rZ_spec hf
  exact k_rz X I hr hz dX0_readsClause_76
def f_X0_readsClause_45  (o0 : Nat) (x1 : Int32) (h : AH) : Option (Int32 × AH) :=
  if x1 = 112 then
    (gR [0] h o0 3).bind fun v2 =>
    (gI [10] h v2 1).bind fun v4 =>
    if 6 ≤ v4 then
      f_X0_readsClause_68 o0 h
    else
      (isC [0] h o0).bind fun _ =>
      cN (f_X0_readsPerson o0 h) h fun v7 h8 =>
      rZ v7 h8
  else
    f_X0_readsClause_68 o0 h
set_option maxHeartbeats 1000000 in
theorem w_X0_readsClause_45 (X : Cx g p s m args meth c cX0_readsClause 2 "TrapCorner$CityReader") (hR : 7 ≤ R.frames ∧ 448 ≤ R.locals) (hr : meth.sig.returnType = (some (.boolean))) {res : Int32 × AH} : ∀ (o0 : Nat) (x1 : Int32) (h : AH) (ls : Array Slot) (H : Heap) (locs : List Loc), f_X0_readsClause_45 o0 x1 h = some res → Iv g s n0 z0 h H locs 0 0 → lv_has ls 2 [(0, .ref (rfG g o0)), (1, .int x1)] → W p l e R s m args below meth c H locs 0 0 (MQ below (QG g (some (.int res.1)) res.2) args s 0 0 (AG g)) (F0 m 45 ls []) := by
  have hx := X.1
  have hb := X.2.1
  intro o0 x1 h ls H locs hf I hl
  unfold f_X0_readsClause_45 at hf
  refine lv_iload_n hx hb dX0_readsClause_45 rfl (lv_at hl 1 rfl) ?_
  refine lv_bipush (v := 112) hx hb dX0_readsClause_46 (by decide) ?_
  refine lv_icmp_ne (tgt := 68) hx hb dX0_readsClause_48 (by decide) (fun c1 => ?_) (fun c1 => ?_)
  · rw [if_neg c1] at hf
    exact w_X0_readsClause_68 X hR hr  o0 h ls H locs hf I (lv_sub hl [0] rfl)
  · rw [if_pos c1] at hf
    refine lv_aload_n hx hb dX0_readsClause_51 rfl (lv_at hl 0 rfl) ?_
    obtain ⟨v2, e3, hf⟩ := Option.bind_eq_some_iff.mp hf
    refine r_gR X I e3 lk_TrapCorner_CityReader_14 dX0_readsClause_52 ?_
    obtain ⟨v4, e5, hf⟩ := Option.bind_eq_some_iff.mp hf
    refine r_gI X I e5 lk_TrapCorner_CityReader_69 dX0_readsClause_55 ?_
    refine lv_bipush (v := 6) hx hb dX0_readsClause_58 (by decide) ?_
    refine lv_icmp_ge (tgt := 68) hx hb dX0_readsClause_60 (by decide) (fun c6 => ?_) (fun c6 => ?_)
    · rw [if_pos c6] at hf
      exact w_X0_readsClause_68 X hR hr  o0 h ls H locs hf I (lv_sub hl [0] rfl)
    · rw [if_neg c6] at hf
      refine lv_aload_n hx hb dX0_readsClause_63 rfl (lv_at hl 0 rfl) ?_
      obtain ⟨_, g11, hf⟩ := Option.bind_eq_some_iff.mp hf
      obtain ⟨v7, h8, e9, z10, hf⟩ := cN_spec hf
      refine k_Vi (As := []) (rest := []) X I (c_X0_readsPerson l g o0 e9) z10 g11 vk_TrapCorner_CityReader_72 tw_621 ⟨Nat.le_trans (by decide) hR.1, Nat.le_trans (by decide) hR.2⟩ ⟨Nat.zero_le _, Nat.zero_le _⟩ rfl hl.1 rfl (Nat.le_of_ble_eq_true rfl) dX0_readsClause_64 (fun H locs I => ?_)
      obtain ⟨hz, rfl⟩ := rZ_spec hf
      exact k_rz X I hr hz dX0_readsClause_67
def f_X0_readsClause_23  (o0 : Nat) (x1 : Int32) (h : AH) : Option (Int32 × AH) :=
  if x1 = 99 then
    (gR [0] h o0 3).bind fun v2 =>
    (gI [10] h v2 0).bind fun v4 =>
    if 5 ≤ v4 then
      f_X0_readsClause_45 o0 x1 h
    else
      (isC [0] h o0).bind fun _ =>
      cN (f_X0_readsCorner o0 h) h fun v7 h8 =>
      rZ v7 h8
  else
    f_X0_readsClause_45 o0 x1 h
set_option maxHeartbeats 1000000 in
theorem w_X0_readsClause_23 (X : Cx g p s m args meth c cX0_readsClause 2 "TrapCorner$CityReader") (hR : 7 ≤ R.frames ∧ 448 ≤ R.locals) (hr : meth.sig.returnType = (some (.boolean))) {res : Int32 × AH} : ∀ (o0 : Nat) (x1 : Int32) (h : AH) (ls : Array Slot) (H : Heap) (locs : List Loc), f_X0_readsClause_23 o0 x1 h = some res → Iv g s n0 z0 h H locs 0 0 → lv_has ls 2 [(0, .ref (rfG g o0)), (1, .int x1)] → W p l e R s m args below meth c H locs 0 0 (MQ below (QG g (some (.int res.1)) res.2) args s 0 0 (AG g)) (F0 m 23 ls []) := by
  have hx := X.1
  have hb := X.2.1
  intro o0 x1 h ls H locs hf I hl
  unfold f_X0_readsClause_23 at hf
  refine lv_iload_n hx hb dX0_readsClause_23 rfl (lv_at hl 1 rfl) ?_
  refine lv_bipush (v := 99) hx hb dX0_readsClause_24 (by decide) ?_
  refine lv_icmp_ne (tgt := 45) hx hb dX0_readsClause_26 (by decide) (fun c1 => ?_) (fun c1 => ?_)
  · rw [if_neg c1] at hf
    exact w_X0_readsClause_45 X hR hr  o0 x1 h ls H locs hf I (lv_sub hl [0, 1] rfl)
  · rw [if_pos c1] at hf
    refine lv_aload_n hx hb dX0_readsClause_29 rfl (lv_at hl 0 rfl) ?_
    obtain ⟨v2, e3, hf⟩ := Option.bind_eq_some_iff.mp hf
    refine r_gR X I e3 lk_TrapCorner_CityReader_14 dX0_readsClause_30 ?_
    obtain ⟨v4, e5, hf⟩ := Option.bind_eq_some_iff.mp hf
    refine r_gI X I e5 lk_TrapCorner_CityReader_63 dX0_readsClause_33 ?_
    refine lv_iconst (v := 5) hx hb dX0_readsClause_36 (by decide) ?_
    refine lv_icmp_ge (tgt := 45) hx hb dX0_readsClause_37 (by decide) (fun c6 => ?_) (fun c6 => ?_)
    · rw [if_pos c6] at hf
      exact w_X0_readsClause_45 X hR hr  o0 x1 h ls H locs hf I (lv_sub hl [0, 1] rfl)
    · rw [if_neg c6] at hf
      refine lv_aload_n hx hb dX0_readsClause_40 rfl (lv_at hl 0 rfl) ?_
      obtain ⟨_, g11, hf⟩ := Option.bind_eq_some_iff.mp hf
      obtain ⟨v7, h8, e9, z10, hf⟩ := cN_spec hf
      refine k_Vi (As := []) (rest := []) X I (c_X0_readsCorner l g o0 e9) z10 g11 vk_TrapCorner_CityReader_66 tw_606 ⟨Nat.le_trans (by decide) hR.1, Nat.le_trans (by decide) hR.2⟩ ⟨Nat.zero_le _, Nat.zero_le _⟩ rfl hl.1 rfl (Nat.le_of_ble_eq_true rfl) dX0_readsClause_41 (fun H locs I => ?_)
      obtain ⟨hz, rfl⟩ := rZ_spec hf
      exact k_rz X I hr hz dX0_readsClause_44
def f_X0_readsClause_0  (o0 : Nat) (h : AH) : Option (Int32 × AH) :=
  (isC [0] h o0).bind fun _ =>
  cN (f_X5_sign o0 h) h fun v1 h2 =>
  if v1 = 115 then
    (gI [0] h2 o0 5).bind fun v7 =>
    if v7 = 0 then
      (isC [0] h2 o0).bind fun _ =>
      cN (f_X0_readsRules o0 h2) h2 fun v10 h11 =>
      rZ v10 h11
    else
      f_X0_readsClause_23 o0 v1 h2
  else
    f_X0_readsClause_23 o0 v1 h2
set_option maxHeartbeats 1000000 in
theorem w_X0_readsClause_0 (X : Cx g p s m args meth c cX0_readsClause 2 "TrapCorner$CityReader") (hR : 7 ≤ R.frames ∧ 448 ≤ R.locals) (hr : meth.sig.returnType = (some (.boolean))) {res : Int32 × AH} : ∀ (o0 : Nat) (h : AH) (ls : Array Slot) (H : Heap) (locs : List Loc), f_X0_readsClause_0 o0 h = some res → Iv g s n0 z0 h H locs 0 0 → lv_has ls 2 [(0, .ref (rfG g o0))] → W p l e R s m args below meth c H locs 0 0 (MQ below (QG g (some (.int res.1)) res.2) args s 0 0 (AG g)) (F0 m 0 ls []) := by
  have hx := X.1
  have hb := X.2.1
  intro o0 h ls H locs hf I hl
  unfold f_X0_readsClause_0 at hf
  refine lv_aload_n hx hb dX0_readsClause_0 rfl (lv_at hl 0 rfl) ?_
  obtain ⟨_, g5, hf⟩ := Option.bind_eq_some_iff.mp hf
  obtain ⟨v1, h2, e3, z4, hf⟩ := cN_spec hf
  refine k_Ui (As := []) (rest := []) X I (c_X5_sign l g o0 e3) z4 g5 uk_TrapCorner_CityReader_45 tw_478 ⟨Nat.le_trans (by decide) hR.1, Nat.le_trans (by decide) hR.2⟩ ⟨Nat.zero_le _, Nat.zero_le _⟩ rfl hl.1 rfl (Nat.le_of_ble_eq_true rfl) dX0_readsClause_1 (fun H locs I => ?_)
  refine lv_istore_n (lv' := [(1, .int v1), (0, .ref (rfG g o0))]) hx hb dX0_readsClause_4 rfl hl (by decide) rfl (fun ls hl => ?_)
  refine lv_iload_n hx hb dX0_readsClause_5 rfl (lv_at hl 0 rfl) ?_
  refine lv_bipush (v := 115) hx hb dX0_readsClause_6 (by decide) ?_
  refine lv_icmp_ne (tgt := 23) hx hb dX0_readsClause_8 (by decide) (fun c6 => ?_) (fun c6 => ?_)
  · rw [if_neg c6] at hf
    exact w_X0_readsClause_23 X hR hr  o0 v1 h2 ls H locs hf I (lv_sub hl [1, 0] rfl)
  · rw [if_pos c6] at hf
    refine lv_aload_n hx hb dX0_readsClause_11 rfl (lv_at hl 1 rfl) ?_
    obtain ⟨v7, e8, hf⟩ := Option.bind_eq_some_iff.mp hf
    refine r_gI X I e8 lk_TrapCorner_CityReader_37 dX0_readsClause_12 ?_
    refine lv_if_ne (tgt := 23) hx hb dX0_readsClause_15 (by decide) (fun c9 => ?_) (fun c9 => ?_)
    · rw [if_neg c9] at hf
      exact w_X0_readsClause_23 X hR hr  o0 v1 h2 ls H locs hf I (lv_sub hl [1, 0] rfl)
    · rw [if_pos c9] at hf
      refine lv_aload_n hx hb dX0_readsClause_18 rfl (lv_at hl 1 rfl) ?_
      obtain ⟨_, g14, hf⟩ := Option.bind_eq_some_iff.mp hf
      obtain ⟨v10, h11, e12, z13, hf⟩ := cN_spec hf
      refine k_Vi (As := []) (rest := []) X I (c_X0_readsRules l g o0 e12) z13 g14 vk_TrapCorner_CityReader_60 tw_482 ⟨Nat.le_trans (by decide) hR.1, Nat.le_trans (by decide) hR.2⟩ ⟨Nat.zero_le _, Nat.zero_le _⟩ rfl hl.1 rfl (Nat.le_of_ble_eq_true rfl) dX0_readsClause_19 (fun H locs I => ?_)
      obtain ⟨hz, rfl⟩ := rZ_spec hf
      exact k_rz X I hr hz dX0_readsClause_22
def f_X0_readsClause (o0 : Nat) (h : AH) : Option (Int32 × AH) := f_X0_readsClause_0 o0 h
end
theorem c_X0_readsClause (l : Launch) (g : GG) (o0 : Nat) {h : AH} {res : Int32 × AH} (hf : f_X0_readsClause o0 h = some res) : CM l g yX0_readsClause cX0_readsClause 2 (some (.boolean)) 7 448 0 0 [.ref (rfG g o0)] h (some (.int res.1)) res.2 :=
  k_body (by decide) (Nat.le_of_ble_eq_true rfl) (fun p e s m below meth c R ls hR hr X I hl => w_X0_readsClause_0 X ⟨Nat.le_of_eq hR.1.symm, Nat.le_of_eq hR.2.1.symm⟩ hr o0 h ls s.heap [] hf I (lv_sub hl [0] rfl))
/-! TrapCorner$CityReader.reads()Z -/
theorem dX0_reads_0 : decode cX0_reads 0 = .ok (.aload_n 0, 1) := by decide +kernel
theorem dX0_reads_1 : decode cX0_reads 1 = .ok (.invokevirtual 24, 3) := by decide +kernel
theorem dX0_reads_4 : decode cX0_reads 4 = .ok (.aload_n 0, 1) := by decide +kernel
theorem dX0_reads_5 : decode cX0_reads 5 = .ok (.getfield 14, 3) := by decide +kernel
theorem dX0_reads_8 : decode cX0_reads 8 = .ok (.invokevirtual 27, 3) := by decide +kernel
theorem dX0_reads_11 : decode cX0_reads 11 = .ok (.aload_n 0, 1) := by decide +kernel
theorem dX0_reads_12 : decode cX0_reads 12 = .ok (.getfield 14, 3) := by decide +kernel
theorem dX0_reads_15 : decode cX0_reads 15 = .ok (.getstatic 30, 3) := by decide +kernel
theorem dX0_reads_18 : decode cX0_reads 18 = .ok (.invokevirtual 33, 3) := by decide +kernel
theorem dX0_reads_21 : decode cX0_reads 21 = .ok (.aload_n 0, 1) := by decide +kernel
theorem dX0_reads_22 : decode cX0_reads 22 = .ok (.iconst 0, 1) := by decide +kernel
theorem dX0_reads_23 : decode cX0_reads 23 = .ok (.putfield 37, 3) := by decide +kernel
theorem dX0_reads_26 : decode cX0_reads 26 = .ok (.iconst 0, 1) := by decide +kernel
theorem dX0_reads_27 : decode cX0_reads 27 = .ok (.istore_n 1, 1) := by decide +kernel
theorem dX0_reads_28 : decode cX0_reads 28 = .ok (.iload_n 1, 1) := by decide +kernel
theorem dX0_reads_29 : decode cX0_reads 29 = .ok (.sipush 240, 3) := by decide +kernel
theorem dX0_reads_32 : decode cX0_reads 32 = .ok (.if_icmp .gt 63, 3) := by decide +kernel
theorem dX0_reads_35 : decode cX0_reads 35 = .ok (.aload_n 0, 1) := by decide +kernel
theorem dX0_reads_36 : decode cX0_reads 36 = .ok (.invokevirtual 41, 3) := by decide +kernel
theorem dX0_reads_39 : decode cX0_reads 39 = .ok (.ifCond .ne 5, 3) := by decide +kernel
theorem dX0_reads_42 : decode cX0_reads 42 = .ok (.iconst 0, 1) := by decide +kernel
theorem dX0_reads_43 : decode cX0_reads 43 = .ok (.ireturn, 1) := by decide +kernel
theorem dX0_reads_44 : decode cX0_reads 44 = .ok (.aload_n 0, 1) := by decide +kernel
theorem dX0_reads_45 : decode cX0_reads 45 = .ok (.invokevirtual 45, 3) := by decide +kernel
theorem dX0_reads_48 : decode cX0_reads 48 = .ok (.iconst (-1), 1) := by decide +kernel
theorem dX0_reads_49 : decode cX0_reads 49 = .ok (.if_icmp .ne 30, 3) := by decide +kernel
theorem dX0_reads_52 : decode cX0_reads 52 = .ok (.aload_n 0, 1) := by decide +kernel
theorem dX0_reads_53 : decode cX0_reads 53 = .ok (.getfield 14, 3) := by decide +kernel
theorem dX0_reads_56 : decode cX0_reads 56 = .ok (.invokevirtual 49, 3) := by decide +kernel
theorem dX0_reads_59 : decode cX0_reads 59 = .ok (.ifCond .ne 14, 3) := by decide +kernel
theorem dX0_reads_62 : decode cX0_reads 62 = .ok (.aload_n 0, 1) := by decide +kernel
theorem dX0_reads_63 : decode cX0_reads 63 = .ok (.aload_n 0, 1) := by decide +kernel
theorem dX0_reads_64 : decode cX0_reads 64 = .ok (.getfield 52, 3) := by decide +kernel
theorem dX0_reads_67 : decode cX0_reads 67 = .ok (.invokevirtual 56, 3) := by decide +kernel
theorem dX0_reads_70 : decode cX0_reads 70 = .ok (.ifCond .eq 7, 3) := by decide +kernel
theorem dX0_reads_73 : decode cX0_reads 73 = .ok (.iconst 1, 1) := by decide +kernel
theorem dX0_reads_74 : decode cX0_reads 74 = .ok (.goto 4, 3) := by decide +kernel
theorem dX0_reads_77 : decode cX0_reads 77 = .ok (.iconst 0, 1) := by decide +kernel
theorem dX0_reads_78 : decode cX0_reads 78 = .ok (.ireturn, 1) := by decide +kernel
theorem dX0_reads_79 : decode cX0_reads 79 = .ok (.aload_n 0, 1) := by decide +kernel
theorem dX0_reads_80 : decode cX0_reads 80 = .ok (.dup, 1) := by decide +kernel
theorem dX0_reads_81 : decode cX0_reads 81 = .ok (.getfield 52, 3) := by decide +kernel
theorem dX0_reads_84 : decode cX0_reads 84 = .ok (.iconst 1, 1) := by decide +kernel
theorem dX0_reads_85 : decode cX0_reads 85 = .ok (.iadd, 1) := by decide +kernel
theorem dX0_reads_86 : decode cX0_reads 86 = .ok (.putfield 52, 3) := by decide +kernel
theorem dX0_reads_89 : decode cX0_reads 89 = .ok (.iinc 1 1, 3) := by decide +kernel
theorem dX0_reads_92 : decode cX0_reads 92 = .ok (.goto (-64), 3) := by decide +kernel
theorem dX0_reads_95 : decode cX0_reads 95 = .ok (.aload_n 0, 1) := by decide +kernel
theorem dX0_reads_96 : decode cX0_reads 96 = .ok (.aload_n 0, 1) := by decide +kernel
theorem dX0_reads_97 : decode cX0_reads 97 = .ok (.getfield 52, 3) := by decide +kernel
theorem dX0_reads_100 : decode cX0_reads 100 = .ok (.invokevirtual 56, 3) := by decide +kernel
theorem dX0_reads_103 : decode cX0_reads 103 = .ok (.ireturn, 1) := by decide +kernel
theorem vk_TrapCorner_CityReader_41 : VK "TrapCorner$CityReader" 41 [0] yX0_readsClause 0 := ⟨tw_469, tw_471, tw_4, ⟨by decide, by decide⟩, by decide +kernel, fun ci hci => by
  have hci := List.mem_singleton.mp hci
  subst hci
  exact ⟨_, rfl, tp_1⟩⟩
theorem vk_TrapCorner_CityReader_49 : VK "TrapCorner$CityReader" 49 [10] yX10_stands 0 := ⟨tw_633, tw_634, tw_5, ⟨by decide, by decide⟩, by decide +kernel, fun ci hci => by
  have hci := List.mem_singleton.mp hci
  subst hci
  exact ⟨_, rfl, tw_635⟩⟩
theorem uk_TrapCorner_CityReader_24 : UK "TrapCorner$CityReader" 24 0 ⟨"TrapCorner$CityReader", "start", "()V"⟩ yX5_start "TrapCorner$Reader" 0 := ⟨tw_453, tw_454, tw_457, tw_3, ⟨by decide, by decide⟩, by decide +kernel, rfl, ⟨_, rfl, tw_456⟩⟩
theorem vk_TrapCorner_CityReader_27 : VK "TrapCorner$CityReader" 27 [10] yX10_clear 0 := ⟨tw_459, tw_460, tw_5, ⟨by decide, by decide⟩, by decide +kernel, fun ci hci => by
  have hci := List.mem_singleton.mp hci
  subst hci
  exact ⟨_, rfl, tw_461⟩⟩
section
variable {g : GG} {p : Program} {l : Launch} {e : Env} {R : Room} {s : State} {m : MethodId} {args : Array Value} {below : List Frame} {meth : Method} {c : Code} {n0 z0 : Nat}
def f_X0_reads_73  (h : AH) : Option (Int32 × AH) :=
  some (1, h)
set_option maxHeartbeats 1000000 in
theorem w_X0_reads_73 (X : Cx g p s m args meth c cX0_reads 2 "TrapCorner$CityReader") (hR : 8 ≤ R.frames ∧ 512 ≤ R.locals) (hr : meth.sig.returnType = (some (.boolean))) {res : Int32 × AH} : ∀ (h : AH) (ls : Array Slot) (H : Heap) (locs : List Loc), f_X0_reads_73  h = some res → Iv g s n0 z0 h H locs 0 0 → lv_has ls 2 [] → W p l e R s m args below meth c H locs 0 0 (MQ below (QG g (some (.int res.1)) res.2) args s 0 0 (AG g)) (F0 m 73 ls []) := by
  have hx := X.1
  have hb := X.2.1
  intro  h ls H locs hf I hl
  unfold f_X0_reads_73 at hf
  refine lv_iconst (v := 1) hx hb dX0_reads_73 (by decide) ?_
  refine lv_goto (tgt := 78) hx hb dX0_reads_74 (by decide) ?_
  cases hf
  exact k_rz X I hr (Or.inr rfl) dX0_reads_78
def f_X0_reads_28  : Nat → Nat → Int32 → AH → Option (Int32 × AH)
  | 0, _, _, _ => none
  | n + 1, o0, x1, h =>
  if 240 < x1 then
    (gI [0] h o0 1).bind fun v2 =>
    (isC [0] h o0).bind fun _ =>
    cN (f_X5_fails o0 v2 h) h fun v4 h5 =>
    rZ v4 h5
  else
    (isC [0] h o0).bind fun _ =>
    cN (f_X0_readsClause o0 h) h fun v9 h10 =>
    if v9 = 0 then
      some (0, h10)
    else
      (isC [0] h10 o0).bind fun _ =>
      cN (f_X5_sign o0 h10) h10 fun v15 h16 =>
      if v15 = ((-1)) then
        (gR [0] h16 o0 3).bind fun v25 =>
        (isC [10] h16 v25).bind fun _ =>
        cN (f_X10_stands v25 h16) h16 fun v27 h28 =>
        if v27 = 0 then
          (gI [0] h28 o0 1).bind fun v33 =>
          (isC [0] h28 o0).bind fun _ =>
          cN (f_X5_fails o0 v33 h28) h28 fun v35 h36 =>
          if v35 = 0 then
            some (0, h36)
          else
            f_X0_reads_73 h36
        else
          f_X0_reads_73 h28
      else
        (gI [0] h16 o0 1).bind fun v21 =>
        (pV [0] h16 o0 1 (.int (v21 + 1))).bind fun h23 =>
        f_X0_reads_28  n o0 (x1 + 1) h23
set_option maxHeartbeats 1000000 in
theorem w_X0_reads_28 (X : Cx g p s m args meth c cX0_reads 2 "TrapCorner$CityReader") (hR : 8 ≤ R.frames ∧ 512 ≤ R.locals) (hr : meth.sig.returnType = (some (.boolean))) {res : Int32 × AH} : ∀ (n : Nat) (o0 : Nat) (x1 : Int32) (h : AH) (ls : Array Slot) (H : Heap) (locs : List Loc), f_X0_reads_28 n o0 x1 h = some res → Iv g s n0 z0 h H locs 0 0 → lv_has ls 2 [(0, .ref (rfG g o0)), (1, .int x1)] → W p l e R s m args below meth c H locs 0 0 (MQ below (QG g (some (.int res.1)) res.2) args s 0 0 (AG g)) (F0 m 28 ls []) := by
  have hx := X.1
  have hb := X.2.1
  intro n
  induction n with
  | zero =>
    intro o0 x1 h ls H locs hf
    rw [f_X0_reads_28.eq_1] at hf
    cases hf
  | succ n ih =>
    intro o0 x1 h ls H locs hf I hl
    rw [f_X0_reads_28.eq_2] at hf
    refine lv_iload_n hx hb dX0_reads_28 rfl (lv_at hl 1 rfl) ?_
    refine lv_sipush (v := 240) hx hb dX0_reads_29 (by decide) ?_
    refine lv_icmp_gt (tgt := 95) hx hb dX0_reads_32 (by decide) (fun c1 => ?_) (fun c1 => ?_)
    · rw [if_pos c1] at hf
      refine lv_aload_n hx hb dX0_reads_95 rfl (lv_at hl 0 rfl) ?_
      refine lv_aload_n hx hb dX0_reads_96 rfl (lv_at hl 0 rfl) ?_
      obtain ⟨v2, e3, hf⟩ := Option.bind_eq_some_iff.mp hf
      refine r_gI X I e3 lk_TrapCorner_CityReader_52 dX0_reads_97 ?_
      obtain ⟨_, g8, hf⟩ := Option.bind_eq_some_iff.mp hf
      obtain ⟨v4, h5, e6, z7, hf⟩ := cN_spec hf
      refine k_Ui (As := [.int v2]) (rest := []) X I (c_X5_fails l g o0 v2 e6) z7 g8 uk_TrapCorner_CityReader_56 tw_587 ⟨Nat.le_trans (by decide) hR.1, Nat.le_trans (by decide) hR.2⟩ ⟨Nat.zero_le _, Nat.zero_le _⟩ rfl hl.1 rfl (Nat.le_of_ble_eq_true rfl) dX0_reads_100 (fun H locs I => ?_)
      obtain ⟨hz, rfl⟩ := rZ_spec hf
      exact k_rz X I hr hz dX0_reads_103
    · rw [if_neg c1] at hf
      refine lv_aload_n hx hb dX0_reads_35 rfl (lv_at hl 0 rfl) ?_
      obtain ⟨_, g13, hf⟩ := Option.bind_eq_some_iff.mp hf
      obtain ⟨v9, h10, e11, z12, hf⟩ := cN_spec hf
      refine k_Vi (As := []) (rest := []) X I (c_X0_readsClause l g o0 e11) z12 g13 vk_TrapCorner_CityReader_41 tw_472 ⟨Nat.le_trans (by decide) hR.1, Nat.le_trans (by decide) hR.2⟩ ⟨Nat.zero_le _, Nat.zero_le _⟩ rfl hl.1 rfl (Nat.le_of_ble_eq_true rfl) dX0_reads_36 (fun H locs I => ?_)
      refine lv_if_ne (tgt := 44) hx hb dX0_reads_39 (by decide) (fun c14 => ?_) (fun c14 => ?_)
      · rw [if_neg c14] at hf
        refine lv_aload_n hx hb dX0_reads_44 rfl (lv_at hl 0 rfl) ?_
        obtain ⟨_, g19, hf⟩ := Option.bind_eq_some_iff.mp hf
        obtain ⟨v15, h16, e17, z18, hf⟩ := cN_spec hf
        refine k_Ui (As := []) (rest := []) X I (c_X5_sign l g o0 e17) z18 g19 uk_TrapCorner_CityReader_45 tw_478 ⟨Nat.le_trans (by decide) hR.1, Nat.le_trans (by decide) hR.2⟩ ⟨Nat.zero_le _, Nat.zero_le _⟩ rfl hl.1 rfl (Nat.le_of_ble_eq_true rfl) dX0_reads_45 (fun H locs I => ?_)
        refine lv_iconst (v := (-1)) hx hb dX0_reads_48 (by decide) ?_
        refine lv_icmp_ne (tgt := 79) hx hb dX0_reads_49 (by decide) (fun c20 => ?_) (fun c20 => ?_)
        · rw [if_neg c20] at hf
          refine lv_aload_n hx hb dX0_reads_79 rfl (lv_at hl 0 rfl) ?_
          refine lv_dup hx hb dX0_reads_80 rfl ?_
          obtain ⟨v21, e22, hf⟩ := Option.bind_eq_some_iff.mp hf
          refine r_gI X I e22 lk_TrapCorner_CityReader_52 dX0_reads_81 ?_
          refine lv_iconst (v := 1) hx hb dX0_reads_84 (by decide) ?_
          refine lv_iadd hx hb dX0_reads_85 ?_
          obtain ⟨h23, e24, hf⟩ := Option.bind_eq_some_iff.mp hf
          refine r_pI X I e24 lp_TrapCorner_CityReader_52 dX0_reads_86 (fun H locs I => ?_)
          refine lv_iinc (v := x1 + 1) (lv' := [(1, .int (x1 + 1)), (0, .ref (rfG g o0))]) hx hb dX0_reads_89 hl (k := 1) rfl rfl (by decide) rfl (fun ls hl => ?_)
          refine lv_goto (tgt := 28) hx hb dX0_reads_92 (by decide) ?_
          exact ih o0 (x1 + 1) h23 ls H locs hf I (lv_sub hl [1, 0] rfl)
        · rw [if_pos c20] at hf
          refine lv_aload_n hx hb dX0_reads_52 rfl (lv_at hl 0 rfl) ?_
          obtain ⟨v25, e26, hf⟩ := Option.bind_eq_some_iff.mp hf
          refine r_gR X I e26 lk_TrapCorner_CityReader_14 dX0_reads_53 ?_
          obtain ⟨_, g31, hf⟩ := Option.bind_eq_some_iff.mp hf
          obtain ⟨v27, h28, e29, z30, hf⟩ := cN_spec hf
          refine k_Vi (As := []) (rest := []) X I (c_X10_stands l g v25 e29) z30 g31 vk_TrapCorner_CityReader_49 tw_636 ⟨Nat.le_trans (by decide) hR.1, Nat.le_trans (by decide) hR.2⟩ ⟨Nat.zero_le _, Nat.zero_le _⟩ rfl hl.1 rfl (Nat.le_of_ble_eq_true rfl) dX0_reads_56 (fun H locs I => ?_)
          refine lv_if_ne (tgt := 73) hx hb dX0_reads_59 (by decide) (fun c32 => ?_) (fun c32 => ?_)
          · rw [if_neg c32] at hf
            exact w_X0_reads_73 X hR hr  h28 ls H locs hf I (lv_sub hl [] rfl)
          · rw [if_pos c32] at hf
            refine lv_aload_n hx hb dX0_reads_62 rfl (lv_at hl 0 rfl) ?_
            refine lv_aload_n hx hb dX0_reads_63 rfl (lv_at hl 0 rfl) ?_
            obtain ⟨v33, e34, hf⟩ := Option.bind_eq_some_iff.mp hf
            refine r_gI X I e34 lk_TrapCorner_CityReader_52 dX0_reads_64 ?_
            obtain ⟨_, g39, hf⟩ := Option.bind_eq_some_iff.mp hf
            obtain ⟨v35, h36, e37, z38, hf⟩ := cN_spec hf
            refine k_Ui (As := [.int v33]) (rest := []) X I (c_X5_fails l g o0 v33 e37) z38 g39 uk_TrapCorner_CityReader_56 tw_587 ⟨Nat.le_trans (by decide) hR.1, Nat.le_trans (by decide) hR.2⟩ ⟨Nat.zero_le _, Nat.zero_le _⟩ rfl hl.1 rfl (Nat.le_of_ble_eq_true rfl) dX0_reads_67 (fun H locs I => ?_)
            refine lv_if_eq (tgt := 77) hx hb dX0_reads_70 (by decide) (fun c40 => ?_) (fun c40 => ?_)
            · rw [if_pos c40] at hf
              refine lv_iconst (v := 0) hx hb dX0_reads_77 (by decide) ?_
              cases hf
              exact k_rz X I hr (Or.inl rfl) dX0_reads_78
            · rw [if_neg c40] at hf
              exact w_X0_reads_73 X hR hr  h36 ls H locs hf I (lv_sub hl [] rfl)
      · rw [if_pos c14] at hf
        refine lv_iconst (v := 0) hx hb dX0_reads_42 (by decide) ?_
        cases hf
        exact k_rz X I hr (Or.inl rfl) dX0_reads_43
def f_X0_reads_0  (o0 : Nat) (h : AH) : Option (Int32 × AH) :=
  (isC [0] h o0).bind fun _ =>
  cN (f_X5_start o0 h) h fun _ h2 =>
  (gR [0] h2 o0 3).bind fun v6 =>
  (isC [10] h2 v6).bind fun _ =>
  cN (f_X10_clear v6 h2) h2 fun _ h9 =>
  (gR [0] h9 o0 3).bind fun v13 =>
  (isC [10] h9 v13).bind fun _ =>
  cN (f_X10_setRules v13 1000002 h9) h9 fun _ h16 =>
  (pZ [0] h16 o0 5 0).bind fun h20 =>
  f_X0_reads_28 fu o0 0 h20
set_option maxHeartbeats 1000000 in
theorem w_X0_reads_0 (X : Cx g p s m args meth c cX0_reads 2 "TrapCorner$CityReader") (hR : 8 ≤ R.frames ∧ 512 ≤ R.locals) (hr : meth.sig.returnType = (some (.boolean))) {res : Int32 × AH} : ∀ (o0 : Nat) (h : AH) (ls : Array Slot) (H : Heap) (locs : List Loc), f_X0_reads_0 o0 h = some res → Iv g s n0 z0 h H locs 0 0 → lv_has ls 2 [(0, .ref (rfG g o0))] → W p l e R s m args below meth c H locs 0 0 (MQ below (QG g (some (.int res.1)) res.2) args s 0 0 (AG g)) (F0 m 0 ls []) := by
  have hx := X.1
  have hb := X.2.1
  intro o0 h ls H locs hf I hl
  unfold f_X0_reads_0 at hf
  refine lv_aload_n hx hb dX0_reads_0 rfl (lv_at hl 0 rfl) ?_
  obtain ⟨_, g5, hf⟩ := Option.bind_eq_some_iff.mp hf
  obtain ⟨⟨⟩, h2, e3, z4, hf⟩ := cN_spec hf
  refine k_Uv (As := []) (rest := []) X I (c_X5_start l g o0 e3) z4 g5 uk_TrapCorner_CityReader_24 tw_458 ⟨Nat.le_trans (by decide) hR.1, Nat.le_trans (by decide) hR.2⟩ ⟨Nat.zero_le _, Nat.zero_le _⟩ rfl hl.1 rfl (Nat.le_of_ble_eq_true rfl) dX0_reads_1 (fun H locs I => ?_)
  refine lv_aload_n hx hb dX0_reads_4 rfl (lv_at hl 0 rfl) ?_
  obtain ⟨v6, e7, hf⟩ := Option.bind_eq_some_iff.mp hf
  refine r_gR X I e7 lk_TrapCorner_CityReader_14 dX0_reads_5 ?_
  obtain ⟨_, g12, hf⟩ := Option.bind_eq_some_iff.mp hf
  obtain ⟨⟨⟩, h9, e10, z11, hf⟩ := cN_spec hf
  refine k_Vv (As := []) (rest := []) X I (c_X10_clear l g v6 e10) z11 g12 vk_TrapCorner_CityReader_27 tw_462 ⟨Nat.le_trans (by decide) hR.1, Nat.le_trans (by decide) hR.2⟩ ⟨Nat.zero_le _, Nat.zero_le _⟩ rfl hl.1 rfl (Nat.le_of_ble_eq_true rfl) dX0_reads_8 (fun H locs I => ?_)
  refine lv_aload_n hx hb dX0_reads_11 rfl (lv_at hl 0 rfl) ?_
  obtain ⟨v13, e14, hf⟩ := Option.bind_eq_some_iff.mp hf
  refine r_gR X I e14 lk_TrapCorner_CityReader_14 dX0_reads_12 ?_
  refine r_sA (j := 2) X I rfl tw_463 dX0_reads_15 ?_
  obtain ⟨_, g19, hf⟩ := Option.bind_eq_some_iff.mp hf
  obtain ⟨⟨⟩, h16, e17, z18, hf⟩ := cN_spec hf
  refine k_Vv (As := [.ref (rfG g 1000002)]) (rest := []) X I (c_X10_setRules l g v13 1000002 e17) z18 g19 vk_TrapCorner_CityReader_33 tw_468 ⟨Nat.le_trans (by decide) hR.1, Nat.le_trans (by decide) hR.2⟩ ⟨Nat.zero_le _, Nat.zero_le _⟩ rfl hl.1 rfl (Nat.le_of_ble_eq_true rfl) dX0_reads_18 (fun H locs I => ?_)
  refine lv_aload_n hx hb dX0_reads_21 rfl (lv_at hl 0 rfl) ?_
  refine lv_iconst (v := 0) hx hb dX0_reads_22 (by decide) ?_
  obtain ⟨h20, e21, hf⟩ := Option.bind_eq_some_iff.mp hf
  refine r_pZ X I e21 lp_TrapCorner_CityReader_37 dX0_reads_23 (fun H locs I => ?_)
  refine lv_iconst (v := 0) hx hb dX0_reads_26 (by decide) ?_
  refine lv_istore_n (lv' := [(1, .int 0), (0, .ref (rfG g o0))]) hx hb dX0_reads_27 rfl hl (by decide) rfl (fun ls hl => ?_)
  exact w_X0_reads_28 X hR hr fu o0 0 h20 ls H locs hf I (lv_sub hl [1, 0] rfl)
def f_X0_reads (o0 : Nat) (h : AH) : Option (Int32 × AH) := f_X0_reads_0 o0 h
end
theorem c_X0_reads (l : Launch) (g : GG) (o0 : Nat) {h : AH} {res : Int32 × AH} (hf : f_X0_reads o0 h = some res) : CM l g yX0_reads cX0_reads 2 (some (.boolean)) 8 512 0 0 [.ref (rfG g o0)] h (some (.int res.1)) res.2 :=
  k_body (by decide) (Nat.le_of_ble_eq_true rfl) (fun p e s m below meth c R ls hR hr X I hl => w_X0_reads_0 X ⟨Nat.le_of_eq hR.1.symm, Nat.le_of_eq hR.2.1.symm⟩ hr o0 h ls s.heap [] hf I (lv_sub hl [0] rfl))
/-! TrapCorner.fault(I)I -/
theorem dX11_fault_0 : decode cX11_fault 0 = .ok (.aload_n 0, 1) := by decide +kernel
theorem dX11_fault_1 : decode cX11_fault 1 = .ok (.iload_n 1, 1) := by decide +kernel
theorem dX11_fault_2 : decode cX11_fault 2 = .ok (.invokevirtual 116, 3) := by decide +kernel
theorem dX11_fault_5 : decode cX11_fault 5 = .ok (.astore_n 2, 1) := by decide +kernel
theorem dX11_fault_6 : decode cX11_fault 6 = .ok (.aload_n 2, 1) := by decide +kernel
theorem dX11_fault_7 : decode cX11_fault 7 = .ok (.ifnonnull 6, 3) := by decide +kernel
theorem dX11_fault_10 : decode cX11_fault 10 = .ok (.bipush (-2), 2) := by decide +kernel
theorem dX11_fault_12 : decode cX11_fault 12 = .ok (.ireturn, 1) := by decide +kernel
theorem dX11_fault_13 : decode cX11_fault 13 = .ok (.aload_n 2, 1) := by decide +kernel
theorem dX11_fault_14 : decode cX11_fault 14 = .ok (.invokevirtual 120, 3) := by decide +kernel
theorem dX11_fault_17 : decode cX11_fault 17 = .ok (.ifCond .eq 7, 3) := by decide +kernel
theorem dX11_fault_20 : decode cX11_fault 20 = .ok (.iconst (-1), 1) := by decide +kernel
theorem dX11_fault_21 : decode cX11_fault 21 = .ok (.goto 7, 3) := by decide +kernel
theorem dX11_fault_24 : decode cX11_fault 24 = .ok (.aload_n 2, 1) := by decide +kernel
theorem dX11_fault_25 : decode cX11_fault 25 = .ok (.getfield 126, 3) := by decide +kernel
theorem dX11_fault_28 : decode cX11_fault 28 = .ok (.ireturn, 1) := by decide +kernel
theorem vk_TrapCorner_116 : VK "TrapCorner" 116 [11] yX11_readerOf 1 := ⟨tw_443, tw_445, tw_1, ⟨by decide, by decide⟩, by decide +kernel, fun ci hci => by
  have hci := List.mem_singleton.mp hci
  subst hci
  exact ⟨_, rfl, tp_0⟩⟩
theorem lk_TrapCorner_126 : LK "TrapCorner" 126 [0, 2, 3] 2 := by
  intro ci hci
  simp only [List.mem_cons, List.not_mem_nil, or_false] at hci
  rcases hci with rfl | rfl | rfl
  · exact ⟨RX0, TX0, 6, "TrapCorner$Reader", ck_0, by decide, tw_146, Or.inl rfl⟩
  · exact ⟨RX2, TX2, 5, "TrapCorner$Reader", ck_2, by decide, tw_146, Or.inl rfl⟩
  · exact ⟨RX3, TX3, 5, "TrapCorner$Reader", ck_3, by decide, tw_146, Or.inl rfl⟩
section
variable {g : GG} {p : Program} {l : Launch} {e : Env} {R : Room} {s : State} {m : MethodId} {args : Array Value} {below : List Frame} {meth : Method} {c : Code} {n0 z0 : Nat}
def f_X11_fault_0  (o0 : Nat) (x1 : Int32) (h : AH) : Option (Int32 × AH) :=
  (isC [11] h o0).bind fun _ =>
  cN (f_X11_readerOf o0 x1 h) h fun v1 h2 =>
  match v1 with
  | none =>
    some ((-2), h2)
  | some o6 =>
    if isC [0] h2 o6 = some () then
      cN (f_X0_reads o6 h2) h2 fun v7 h8 =>
      if v7 = 0 then
        (gI [0, 2, 3] h8 o6 2).bind fun v13 =>
        some (v13, h8)
      else
        some ((-1), h8)
    else
      if isC [2] h2 o6 = some () then
        cN (f_X2_reads o6 h2) h2 fun v15 h16 =>
        if v15 = 0 then
          (gI [0, 2, 3] h16 o6 2).bind fun v21 =>
          some (v21, h16)
        else
          some ((-1), h16)
      else
        if isC [3] h2 o6 = some () then
          cN (f_X3_reads o6 h2) h2 fun v23 h24 =>
          if v23 = 0 then
            (gI [0, 2, 3] h24 o6 2).bind fun v29 =>
            some (v29, h24)
          else
            some ((-1), h24)
        else
          none
set_option maxHeartbeats 1000000 in
theorem w_X11_fault_0 (X : Cx g p s m args meth c cX11_fault 3 "TrapCorner") (hR : 68 ≤ R.frames ∧ 4352 ≤ R.locals) (hr : meth.sig.returnType = (some (.int))) {res : Int32 × AH} : ∀ (o0 : Nat) (x1 : Int32) (h : AH) (ls : Array Slot) (H : Heap) (locs : List Loc), f_X11_fault_0 o0 x1 h = some res → Iv g s n0 z0 h H locs 0 0 → lv_has ls 3 [(0, .ref (rfG g o0)), (1, .int x1)] → W p l e R s m args below meth c H locs 0 0 (MQ below (QG g (some (.int res.1)) res.2) args s 0 0 (AG g)) (F0 m 0 ls []) := by
  have hx := X.1
  have hb := X.2.1
  intro o0 x1 h ls H locs hf I hl
  unfold f_X11_fault_0 at hf
  refine lv_aload_n hx hb dX11_fault_0 rfl (lv_at hl 0 rfl) ?_
  refine lv_iload_n hx hb dX11_fault_1 rfl (lv_at hl 1 rfl) ?_
  obtain ⟨_, g5, hf⟩ := Option.bind_eq_some_iff.mp hf
  obtain ⟨v1, h2, e3, z4, hf⟩ := cN_spec hf
  refine k_Vq (As := [.int x1]) (rest := []) X I (c_X11_readerOf l g o0 x1 e3) z4 g5 vk_TrapCorner_116 tw_446 ⟨Nat.le_trans (by decide) hR.1, Nat.le_trans (by decide) hR.2⟩ ⟨Nat.zero_le _, Nat.zero_le _⟩ rfl hl.1 rfl (Nat.le_of_ble_eq_true rfl) dX11_fault_2 (fun H locs I => ?_)
  cases v1 with
  | none =>
    dsimp only at hf
    refine lv_astore_nN (lv' := [(2, .null), (0, .ref (rfG g o0)), (1, .int x1)]) hx hb dX11_fault_5 rfl hl (by decide) rfl (fun ls hl => ?_)
    refine lv_aload_nN hx hb dX11_fault_6 rfl (lv_at hl 0 rfl) ?_
    refine lv_ifnonnullN hx hb dX11_fault_7 ?_
    refine lv_bipush (v := (-2)) hx hb dX11_fault_10 (by decide) ?_
    cases hf
    exact k_ri X I hr dX11_fault_12
  | some o6 =>
    dsimp only at hf
    refine lv_astore_n (lv' := [(2, .ref (rfG g o6)), (0, .ref (rfG g o0)), (1, .int x1)]) hx hb dX11_fault_5 rfl hl (by decide) rfl (fun ls hl => ?_)
    refine lv_aload_n hx hb dX11_fault_6 rfl (lv_at hl 0 rfl) ?_
    refine lv_ifnonnull (tgt := 13) hx hb dX11_fault_7 (by decide) ?_
    refine lv_aload_n hx hb dX11_fault_13 rfl (lv_at hl 0 rfl) ?_
    by_cases g11 : isC [0] h2 o6 = some ()
    · rw [if_pos g11] at hf
      obtain ⟨v7, h8, e9, z10, hf⟩ := cN_spec hf
      refine k_Oi (As := []) (rest := []) (x := ⟨"TrapCorner$Reader", "reads", "()Z"⟩) X I (c_X0_reads l g o6 e9) z10 g11 (by decide) ⟨tw_447, tw_449, tw_451, tw_4, tw_450⟩ rfl ⟨by decide, by decide⟩ (by decide +kernel) tw_452 ⟨Nat.le_trans (by decide) hR.1, Nat.le_trans (by decide) hR.2⟩ ⟨Nat.zero_le _, Nat.zero_le _⟩ rfl hl.1 rfl (Nat.le_of_ble_eq_true rfl) dX11_fault_14 (fun H locs I => ?_)
      refine lv_if_eq (tgt := 24) hx hb dX11_fault_17 (by decide) (fun c12 => ?_) (fun c12 => ?_)
      · rw [if_pos c12] at hf
        refine lv_aload_n hx hb dX11_fault_24 rfl (lv_at hl 0 rfl) ?_
        obtain ⟨v13, e14, hf⟩ := Option.bind_eq_some_iff.mp hf
        refine r_gI X I e14 lk_TrapCorner_126 dX11_fault_25 ?_
        cases hf
        exact k_ri X I hr dX11_fault_28
      · rw [if_neg c12] at hf
        refine lv_iconst (v := (-1)) hx hb dX11_fault_20 (by decide) ?_
        refine lv_goto (tgt := 28) hx hb dX11_fault_21 (by decide) ?_
        cases hf
        exact k_ri X I hr dX11_fault_28
    · rw [if_neg g11] at hf
      by_cases g19 : isC [2] h2 o6 = some ()
      · rw [if_pos g19] at hf
        obtain ⟨v15, h16, e17, z18, hf⟩ := cN_spec hf
        refine k_Oi (As := []) (rest := []) (x := ⟨"TrapCorner$Reader", "reads", "()Z"⟩) X I (c_X2_reads l g o6 e17) z18 g19 (by decide) ⟨tw_447, tw_449, tw_638, tw_6, tw_637⟩ rfl ⟨by decide, by decide⟩ (by decide +kernel) tw_639 ⟨Nat.le_trans (by decide) hR.1, Nat.le_trans (by decide) hR.2⟩ ⟨Nat.zero_le _, Nat.zero_le _⟩ rfl hl.1 rfl (Nat.le_of_ble_eq_true rfl) dX11_fault_14 (fun H locs I => ?_)
        refine lv_if_eq (tgt := 24) hx hb dX11_fault_17 (by decide) (fun c20 => ?_) (fun c20 => ?_)
        · rw [if_pos c20] at hf
          refine lv_aload_n hx hb dX11_fault_24 rfl (lv_at hl 0 rfl) ?_
          obtain ⟨v21, e22, hf⟩ := Option.bind_eq_some_iff.mp hf
          refine r_gI X I e22 lk_TrapCorner_126 dX11_fault_25 ?_
          cases hf
          exact k_ri X I hr dX11_fault_28
        · rw [if_neg c20] at hf
          refine lv_iconst (v := (-1)) hx hb dX11_fault_20 (by decide) ?_
          refine lv_goto (tgt := 28) hx hb dX11_fault_21 (by decide) ?_
          cases hf
          exact k_ri X I hr dX11_fault_28
      · rw [if_neg g19] at hf
        by_cases g27 : isC [3] h2 o6 = some ()
        · rw [if_pos g27] at hf
          obtain ⟨v23, h24, e25, z26, hf⟩ := cN_spec hf
          refine k_Oi (As := []) (rest := []) (x := ⟨"TrapCorner$Reader", "reads", "()Z"⟩) X I (c_X3_reads l g o6 e25) z26 g27 (by decide) ⟨tw_447, tw_449, tw_695, tw_7, tw_694⟩ rfl ⟨by decide, by decide⟩ (by decide +kernel) tw_696 ⟨Nat.le_trans (by decide) hR.1, Nat.le_trans (by decide) hR.2⟩ ⟨Nat.zero_le _, Nat.zero_le _⟩ rfl hl.1 rfl (Nat.le_of_ble_eq_true rfl) dX11_fault_14 (fun H locs I => ?_)
          refine lv_if_eq (tgt := 24) hx hb dX11_fault_17 (by decide) (fun c28 => ?_) (fun c28 => ?_)
          · rw [if_pos c28] at hf
            refine lv_aload_n hx hb dX11_fault_24 rfl (lv_at hl 0 rfl) ?_
            obtain ⟨v29, e30, hf⟩ := Option.bind_eq_some_iff.mp hf
            refine r_gI X I e30 lk_TrapCorner_126 dX11_fault_25 ?_
            cases hf
            exact k_ri X I hr dX11_fault_28
          · rw [if_neg c28] at hf
            refine lv_iconst (v := (-1)) hx hb dX11_fault_20 (by decide) ?_
            refine lv_goto (tgt := 28) hx hb dX11_fault_21 (by decide) ?_
            cases hf
            exact k_ri X I hr dX11_fault_28
        · rw [if_neg g27] at hf
          cases hf
def f_X11_fault (o0 : Nat) (x1 : Int32) (h : AH) : Option (Int32 × AH) := f_X11_fault_0 o0 x1 h
end
theorem c_X11_fault (l : Launch) (g : GG) (o0 : Nat) (x1 : Int32) {h : AH} {res : Int32 × AH} (hf : f_X11_fault o0 x1 h = some res) : CM l g yX11_fault cX11_fault 3 (some (.int)) 68 4352 0 0 [.ref (rfG g o0), .int x1] h (some (.int res.1)) res.2 :=
  k_body (by decide) (Nat.le_of_ble_eq_true rfl) (fun p e s m below meth c R ls hR hr X I hl => w_X11_fault_0 X ⟨Nat.le_of_eq hR.1.symm, Nat.le_of_eq hR.2.1.symm⟩ hr o0 x1 h ls s.heap [] hf I (lv_sub hl [0, 1] rfl))
