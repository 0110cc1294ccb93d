/-! TrapCornerModel.usesCane([III)Z -/
theorem dX12_usesCane_0 : decode cX12_usesCane 0 = .ok (.aload_n 0, 1) := by decide +kernel
theorem dX12_usesCane_1 : decode cX12_usesCane 1 = .ok (.aload_n 1, 1) := by decide +kernel
theorem dX12_usesCane_2 : decode cX12_usesCane 2 = .ok (.iload_n 2, 1) := by decide +kernel
theorem dX12_usesCane_3 : decode cX12_usesCane 3 = .ok (.invokevirtual 341, 3) := by decide +kernel
theorem dX12_usesCane_6 : decode cX12_usesCane 6 = .ok (.ifCond .eq 17, 3) := by decide +kernel
theorem dX12_usesCane_9 : decode cX12_usesCane 9 = .ok (.aload_n 1, 1) := by decide +kernel
theorem dX12_usesCane_10 : decode cX12_usesCane 10 = .ok (.bipush 28, 2) := by decide +kernel
theorem dX12_usesCane_12 : decode cX12_usesCane 12 = .ok (.iaload, 1) := by decide +kernel
theorem dX12_usesCane_13 : decode cX12_usesCane 13 = .ok (.iload_n 3, 1) := by decide +kernel
theorem dX12_usesCane_14 : decode cX12_usesCane 14 = .ok (.iconst 1, 1) := by decide +kernel
theorem dX12_usesCane_15 : decode cX12_usesCane 15 = .ok (.iadd, 1) := by decide +kernel
theorem dX12_usesCane_16 : decode cX12_usesCane 16 = .ok (.if_icmp .eq 7, 3) := by decide +kernel
theorem dX12_usesCane_19 : decode cX12_usesCane 19 = .ok (.iconst 1, 1) := by decide +kernel
theorem dX12_usesCane_20 : decode cX12_usesCane 20 = .ok (.goto 4, 3) := by decide +kernel
theorem dX12_usesCane_23 : decode cX12_usesCane 23 = .ok (.iconst 0, 1) := by decide +kernel
theorem dX12_usesCane_24 : decode cX12_usesCane 24 = .ok (.ireturn, 1) := by decide +kernel
theorem vk_TrapCornerModel_341 : VK "TrapCornerModel" 341 [12] yX12_isOld 2 := ⟨tw_1715, tw_1717, tw_13, ⟨by decide, by decide⟩, by decide +kernel, fun ci hci => by
  have hci := List.mem_singleton.mp hci
  subst hci
  exact ⟨_, rfl, tp_91⟩⟩
section
variable {g : GG} {p : Program} {l : Launch} {e : Env} {R : Room} {s : State} {m : MethodId} {args : Array Value} {below : List Frame} {meth : Method} {c : Code} {n0 z0 : Nat}
def f_X12_usesCane_0  (o0 : Nat) (o1 : Nat) (x2 : Int32) (x3 : Int32) (h : AH) : Option (Int32 × AH) :=
  (isC [12] h o0).bind fun _ =>
  cN (f_X12_isOld o0 o1 x2 h) h fun v1 h2 =>
  if v1 = 0 then
    some (0, h2)
  else
    (aI 0 h2 o1 28).bind fun v7 =>
    if v7 = (x3 + 1) then
      some (0, h2)
    else
      some (1, h2)
set_option maxHeartbeats 1000000 in
theorem w_X12_usesCane_0 (X : Cx g p s m args meth c cX12_usesCane 4 "TrapCornerModel") (hR : 3 ≤ R.frames ∧ 192 ≤ R.locals) (hr : meth.sig.returnType = (some (.boolean))) {res : Int32 × AH} : ∀ (o0 : Nat) (o1 : Nat) (x2 : Int32) (x3 : Int32) (h : AH) (ls : Array Slot) (H : Heap) (locs : List Loc), f_X12_usesCane_0 o0 o1 x2 x3 h = some res → Iv g s n0 z0 h H locs 0 0 → lv_has ls 4 [(0, .ref (rfG g o0)), (1, .ref (rfG g o1)), (2, .int x2), (3, .int x3)] → W p l e R s m args below meth c H locs 0 0 (MQ below (QG g (some (.int res.1)) res.2) args s 0 0 (AG g)) (F0 m 0 ls []) := by
  have hx := X.1
  have hb := X.2.1
  intro o0 o1 x2 x3 h ls H locs hf I hl
  unfold f_X12_usesCane_0 at hf
  refine lv_aload_n hx hb dX12_usesCane_0 rfl (lv_at hl 0 rfl) ?_
  refine lv_aload_n hx hb dX12_usesCane_1 rfl (lv_at hl 1 rfl) ?_
  refine lv_iload_n hx hb dX12_usesCane_2 rfl (lv_at hl 2 rfl) ?_
  obtain ⟨_, g5, hf⟩ := Option.bind_eq_some_iff.mp hf
  obtain ⟨v1, h2, e3, z4, hf⟩ := cN_spec hf
  refine k_Vi (As := [.ref (rfG g o1), .int x2]) (rest := []) X I (c_X12_isOld l g o0 o1 x2 e3) z4 g5 vk_TrapCornerModel_341 tw_1718 ⟨Nat.le_trans (by decide) hR.1, Nat.le_trans (by decide) hR.2⟩ ⟨Nat.zero_le _, Nat.zero_le _⟩ rfl hl.1 rfl (Nat.le_of_ble_eq_true rfl) dX12_usesCane_3 (fun H locs I => ?_)
  refine lv_if_eq (tgt := 23) hx hb dX12_usesCane_6 (by decide) (fun c6 => ?_) (fun c6 => ?_)
  · rw [if_pos c6] at hf
    refine lv_iconst (v := 0) hx hb dX12_usesCane_23 (by decide) ?_
    cases hf
    exact k_rz X I hr (Or.inl rfl) dX12_usesCane_24
  · rw [if_neg c6] at hf
    refine lv_aload_n hx hb dX12_usesCane_9 rfl (lv_at hl 1 rfl) ?_
    refine lv_bipush (v := 28) hx hb dX12_usesCane_10 (by decide) ?_
    obtain ⟨v7, e8, hf⟩ := Option.bind_eq_some_iff.mp hf
    refine r_aI0 X I e8 dX12_usesCane_12 ?_
    refine lv_iload_n hx hb dX12_usesCane_13 rfl (lv_at hl 3 rfl) ?_
    refine lv_iconst (v := 1) hx hb dX12_usesCane_14 (by decide) ?_
    refine lv_iadd hx hb dX12_usesCane_15 ?_
    refine lv_icmp_eq (tgt := 23) hx hb dX12_usesCane_16 (by decide) (fun c9 => ?_) (fun c9 => ?_)
    · rw [if_pos c9] at hf
      refine lv_iconst (v := 0) hx hb dX12_usesCane_23 (by decide) ?_
      cases hf
      exact k_rz X I hr (Or.inl rfl) dX12_usesCane_24
    · rw [if_neg c9] at hf
      refine lv_iconst (v := 1) hx hb dX12_usesCane_19 (by decide) ?_
      refine lv_goto (tgt := 24) hx hb dX12_usesCane_20 (by decide) ?_
      cases hf
      exact k_rz X I hr (Or.inr rfl) dX12_usesCane_24
def f_X12_usesCane (o0 : Nat) (o1 : Nat) (x2 : Int32) (x3 : Int32) (h : AH) : Option (Int32 × AH) := f_X12_usesCane_0 o0 o1 x2 x3 h
end
theorem c_X12_usesCane (l : Launch) (g : GG) (o0 : Nat) (o1 : Nat) (x2 : Int32) (x3 : Int32) {h : AH} {res : Int32 × AH} (hf : f_X12_usesCane o0 o1 x2 x3 h = some res) : CM l g yX12_usesCane cX12_usesCane 4 (some (.boolean)) 3 192 0 0 [.ref (rfG g o0), .ref (rfG g o1), .int x2, .int x3] h (some (.int res.1)) res.2 :=
  k_body (by decide) (Nat.le_of_ble_eq_true rfl) (fun p e s m below meth c R ls hR hr X I hl => w_X12_usesCane_0 X ⟨Nat.le_of_eq hR.1.symm, Nat.le_of_eq hR.2.1.symm⟩ hr o0 o1 x2 x3 h ls s.heap [] hf I (lv_sub hl [0, 1, 2, 3] rfl))
/-! TrapCornerModel.beginsDay()V -/
theorem dX12_beginsDay_0 : decode cX12_beginsDay 0 = .ok (.aload_n 0, 1) := by decide +kernel
theorem dX12_beginsDay_1 : decode cX12_beginsDay 1 = .ok (.iconst 0, 1) := by decide +kernel
theorem dX12_beginsDay_2 : decode cX12_beginsDay 2 = .ok (.putfield 335, 3) := by decide +kernel
theorem dX12_beginsDay_5 : decode cX12_beginsDay 5 = .ok (.aload_n 0, 1) := by decide +kernel
theorem dX12_beginsDay_6 : decode cX12_beginsDay 6 = .ok (.iconst 0, 1) := by decide +kernel
theorem dX12_beginsDay_7 : decode cX12_beginsDay 7 = .ok (.putfield 362, 3) := by decide +kernel
theorem dX12_beginsDay_10 : decode cX12_beginsDay 10 = .ok (.aload_n 0, 1) := by decide +kernel
theorem dX12_beginsDay_11 : decode cX12_beginsDay 11 = .ok (.iconst 0, 1) := by decide +kernel
theorem dX12_beginsDay_12 : decode cX12_beginsDay 12 = .ok (.putfield 359, 3) := by decide +kernel
theorem dX12_beginsDay_15 : decode cX12_beginsDay 15 = .ok (.iconst 0, 1) := by decide +kernel
theorem dX12_beginsDay_16 : decode cX12_beginsDay 16 = .ok (.istore_n 1, 1) := by decide +kernel
theorem dX12_beginsDay_17 : decode cX12_beginsDay 17 = .ok (.iload_n 1, 1) := by decide +kernel
theorem dX12_beginsDay_18 : decode cX12_beginsDay 18 = .ok (.bipush 6, 2) := by decide +kernel
theorem dX12_beginsDay_20 : decode cX12_beginsDay 20 = .ok (.if_icmp .ge 16, 3) := by decide +kernel
theorem dX12_beginsDay_23 : decode cX12_beginsDay 23 = .ok (.aload_n 0, 1) := by decide +kernel
theorem dX12_beginsDay_24 : decode cX12_beginsDay 24 = .ok (.getfield 81, 3) := by decide +kernel
theorem dX12_beginsDay_27 : decode cX12_beginsDay 27 = .ok (.iload_n 1, 1) := by decide +kernel
theorem dX12_beginsDay_28 : decode cX12_beginsDay 28 = .ok (.iconst (-1), 1) := by decide +kernel
theorem dX12_beginsDay_29 : decode cX12_beginsDay 29 = .ok (.iastore, 1) := by decide +kernel
theorem dX12_beginsDay_30 : decode cX12_beginsDay 30 = .ok (.iinc 1 1, 3) := by decide +kernel
theorem dX12_beginsDay_33 : decode cX12_beginsDay 33 = .ok (.goto (-16), 3) := by decide +kernel
theorem dX12_beginsDay_36 : decode cX12_beginsDay 36 = .ok (.return_, 1) := by decide +kernel
theorem lk_TrapCornerModel_81 : LK "TrapCornerModel" 81 [12] 38 := by
  intro ci hci
  have hci := List.mem_singleton.mp hci
  subst hci
  exact ⟨RX12, TX12, 50, "TrapCornerModel", ck_12, by decide, tw_1325, Or.inl rfl⟩
theorem lp_TrapCornerModel_335 : LKP "TrapCornerModel" 335 [12] 39 (.int) := by
  intro ci hci
  have hci := List.mem_singleton.mp hci
  subst hci
  exact ⟨RX12, TX12, 50, "TrapCornerModel", ck_12, by decide, tw_1326, Or.inl rfl, rfl, by decide +kernel⟩
theorem lp_TrapCornerModel_362 : LKP "TrapCornerModel" 362 [12] 40 (.int) := by
  intro ci hci
  have hci := List.mem_singleton.mp hci
  subst hci
  exact ⟨RX12, TX12, 50, "TrapCornerModel", ck_12, by decide, tw_1327, Or.inl rfl, rfl, by decide +kernel⟩
theorem lp_TrapCornerModel_359 : LKP "TrapCornerModel" 359 [12] 41 (.int) := by
  intro ci hci
  have hci := List.mem_singleton.mp hci
  subst hci
  exact ⟨RX12, TX12, 50, "TrapCornerModel", ck_12, by decide, tw_1328, Or.inl rfl, rfl, by decide +kernel⟩
section
variable {g : GG} {p : Program} {l : Launch} {e : Env} {R : Room} {s : State} {m : MethodId} {args : Array Value} {below : List Frame} {meth : Method} {c : Code} {n0 z0 : Nat}
def f_X12_beginsDay_17  : Nat → Nat → Int32 → AH → Option (Unit × AH)
  | 0, _, _, _ => none
  | n + 1, o0, x1, h =>
  if 6 ≤ x1 then
    some ((), h)
  else
    (gR [12] h o0 38).bind fun v2 =>
    (uI 0 h v2 x1 ((-1))).bind fun h4 =>
    f_X12_beginsDay_17  n o0 (x1 + 1) h4
set_option maxHeartbeats 1000000 in
theorem w_X12_beginsDay_17 (X : Cx g p s m args meth c cX12_beginsDay 2 "TrapCornerModel") (hR : 1 ≤ R.frames ∧ 64 ≤ R.locals) (hr : meth.sig.returnType = none) {res : Unit × AH} : ∀ (n : Nat) (o0 : Nat) (x1 : Int32) (h : AH) (ls : Array Slot) (H : Heap) (locs : List Loc), f_X12_beginsDay_17 n o0 x1 h = some res → Iv g s n0 z0 h H locs 0 0 → lv_has ls 2 [(0, .ref (rfG g o0)), (1, .int x1)] → W p l e R s m args below meth c H locs 0 0 (MQ below (QG g none res.2) args s 0 0 (AG g)) (F0 m 17 ls []) := by
  have hx := X.1
  have hb := X.2.1
  intro n
  induction n with
  | zero =>
    intro o0 x1 h ls H locs hf
    rw [f_X12_beginsDay_17.eq_1] at hf
    cases hf
  | succ n ih =>
    intro o0 x1 h ls H locs hf I hl
    rw [f_X12_beginsDay_17.eq_2] at hf
    refine lv_iload_n hx hb dX12_beginsDay_17 rfl (lv_at hl 1 rfl) ?_
    refine lv_bipush (v := 6) hx hb dX12_beginsDay_18 (by decide) ?_
    refine lv_icmp_ge (tgt := 36) hx hb dX12_beginsDay_20 (by decide) (fun c1 => ?_) (fun c1 => ?_)
    · rw [if_pos c1] at hf
      cases hf
      exact k_rv X I hr dX12_beginsDay_36
    · rw [if_neg c1] at hf
      refine lv_aload_n hx hb dX12_beginsDay_23 rfl (lv_at hl 0 rfl) ?_
      obtain ⟨v2, e3, hf⟩ := Option.bind_eq_some_iff.mp hf
      refine r_gR X I e3 lk_TrapCornerModel_81 dX12_beginsDay_24 ?_
      refine lv_iload_n hx hb dX12_beginsDay_27 rfl (lv_at hl 1 rfl) ?_
      refine lv_iconst (v := (-1)) hx hb dX12_beginsDay_28 (by decide) ?_
      obtain ⟨h4, e5, hf⟩ := Option.bind_eq_some_iff.mp hf
      refine r_uI0 X I e5 dX12_beginsDay_29 (fun H locs I => ?_)
      refine lv_iinc (v := x1 + 1) (lv' := [(1, .int (x1 + 1)), (0, .ref (rfG g o0))]) hx hb dX12_beginsDay_30 hl (k := 1) rfl rfl (by decide) rfl (fun ls hl => ?_)
      refine lv_goto (tgt := 17) hx hb dX12_beginsDay_33 (by decide) ?_
      exact ih o0 (x1 + 1) h4 ls H locs hf I (lv_sub hl [1, 0] rfl)
def f_X12_beginsDay_0  (o0 : Nat) (h : AH) : Option (Unit × AH) :=
  (pV [12] h o0 39 (.int 0)).bind fun h1 =>
  (pV [12] h1 o0 40 (.int 0)).bind fun h3 =>
  (pV [12] h3 o0 41 (.int 0)).bind fun h5 =>
  f_X12_beginsDay_17 fu o0 0 h5
set_option maxHeartbeats 1000000 in
theorem w_X12_beginsDay_0 (X : Cx g p s m args meth c cX12_beginsDay 2 "TrapCornerModel") (hR : 1 ≤ R.frames ∧ 64 ≤ R.locals) (hr : meth.sig.returnType = none) {res : Unit × AH} : ∀ (o0 : Nat) (h : AH) (ls : Array Slot) (H : Heap) (locs : List Loc), f_X12_beginsDay_0 o0 h = some res → Iv g s n0 z0 h H locs 0 0 → lv_has ls 2 [(0, .ref (rfG g o0))] → W p l e R s m args below meth c H locs 0 0 (MQ below (QG g none res.2) args s 0 0 (AG g)) (F0 m 0 ls []) := by
  have hx := X.1
  have hb := X.2.1
  intro o0 h ls H locs hf I hl
  unfold f_X12_beginsDay_0 at hf
  refine lv_aload_n hx hb dX12_beginsDay_0 rfl (lv_at hl 0 rfl) ?_
  refine lv_iconst (v := 0) hx hb dX12_beginsDay_1 (by decide) ?_
  obtain ⟨h1, e2, hf⟩ := Option.bind_eq_some_iff.mp hf
  refine r_pI X I e2 lp_TrapCornerModel_335 dX12_beginsDay_2 (fun H locs I => ?_)
  refine lv_aload_n hx hb dX12_beginsDay_5 rfl (lv_at hl 0 rfl) ?_
  refine lv_iconst (v := 0) hx hb dX12_beginsDay_6 (by decide) ?_
  obtain ⟨h3, e4, hf⟩ := Option.bind_eq_some_iff.mp hf
  refine r_pI X I e4 lp_TrapCornerModel_362 dX12_beginsDay_7 (fun H locs I => ?_)
  refine lv_aload_n hx hb dX12_beginsDay_10 rfl (lv_at hl 0 rfl) ?_
  refine lv_iconst (v := 0) hx hb dX12_beginsDay_11 (by decide) ?_
  obtain ⟨h5, e6, hf⟩ := Option.bind_eq_some_iff.mp hf
  refine r_pI X I e6 lp_TrapCornerModel_359 dX12_beginsDay_12 (fun H locs I => ?_)
  refine lv_iconst (v := 0) hx hb dX12_beginsDay_15 (by decide) ?_
  refine lv_istore_n (lv' := [(1, .int 0), (0, .ref (rfG g o0))]) hx hb dX12_beginsDay_16 rfl hl (by decide) rfl (fun ls hl => ?_)
  exact w_X12_beginsDay_17 X hR hr fu o0 0 h5 ls H locs hf I (lv_sub hl [1, 0] rfl)
def f_X12_beginsDay (o0 : Nat) (h : AH) : Option (Unit × AH) := f_X12_beginsDay_0 o0 h
end
theorem c_X12_beginsDay (l : Launch) (g : GG) (o0 : Nat) {h : AH} {res : Unit × AH} (hf : f_X12_beginsDay o0 h = some res) : CM l g yX12_beginsDay cX12_beginsDay 2 none 1 64 0 0 [.ref (rfG g o0)] h none res.2 :=
  k_body (by decide) (Nat.le_of_ble_eq_true rfl) (fun p e s m below meth c R ls hR hr X I hl => w_X12_beginsDay_0 X ⟨Nat.le_of_eq hR.1.symm, Nat.le_of_eq hR.2.1.symm⟩ hr o0 h ls s.heap [] hf I (lv_sub hl [0] rfl))
/-! TrapCornerModel.rule(I)I -/
theorem dX12_rule_0 : decode cX12_rule 0 = .ok (.aload_n 0, 1) := by decide +kernel
theorem dX12_rule_1 : decode cX12_rule 1 = .ok (.iconst 0, 1) := by decide +kernel
theorem dX12_rule_2 : decode cX12_rule 2 = .ok (.putfield 96, 3) := by decide +kernel
theorem dX12_rule_5 : decode cX12_rule 5 = .ok (.aload_n 0, 1) := by decide +kernel
theorem dX12_rule_6 : decode cX12_rule 6 = .ok (.getfield 297, 3) := by decide +kernel
theorem dX12_rule_9 : decode cX12_rule 9 = .ok (.ifCond .eq 15, 3) := by decide +kernel
theorem dX12_rule_12 : decode cX12_rule 12 = .ok (.iload_n 1, 1) := by decide +kernel
theorem dX12_rule_13 : decode cX12_rule 13 = .ok (.i2l, 1) := by decide +kernel
theorem dX12_rule_14 : decode cX12_rule 14 = .ok (.lconst 0, 1) := by decide +kernel
theorem dX12_rule_15 : decode cX12_rule 15 = .ok (.ldc2_w 275, 3) := by decide +kernel
theorem dX12_rule_18 : decode cX12_rule 18 = .ok (.invokestatic 217, 3) := by decide +kernel
theorem dX12_rule_21 : decode cX12_rule 21 = .ok (.ifCond .ne 5, 3) := by decide +kernel
theorem dX12_rule_24 : decode cX12_rule 24 = .ok (.iconst (-1), 1) := by decide +kernel
theorem dX12_rule_25 : decode cX12_rule 25 = .ok (.ireturn, 1) := by decide +kernel
theorem dX12_rule_26 : decode cX12_rule 26 = .ok (.iload_n 1, 1) := by decide +kernel
theorem dX12_rule_27 : decode cX12_rule 27 = .ok (.iconst 1, 1) := by decide +kernel
theorem dX12_rule_28 : decode cX12_rule 28 = .ok (.if_icmp .ne 13, 3) := by decide +kernel
theorem dX12_rule_31 : decode cX12_rule 31 = .ok (.aload_n 0, 1) := by decide +kernel
theorem dX12_rule_32 : decode cX12_rule 32 = .ok (.getfield 61, 3) := by decide +kernel
theorem dX12_rule_35 : decode cX12_rule 35 = .ok (.bipush 29, 2) := by decide +kernel
theorem dX12_rule_37 : decode cX12_rule 37 = .ok (.iaload, 1) := by decide +kernel
theorem dX12_rule_38 : decode cX12_rule 38 = .ok (.goto 9, 3) := by decide +kernel
theorem dX12_rule_41 : decode cX12_rule 41 = .ok (.aload_n 0, 1) := by decide +kernel
theorem dX12_rule_42 : decode cX12_rule 42 = .ok (.getfield 37, 3) := by decide +kernel
theorem dX12_rule_45 : decode cX12_rule 45 = .ok (.iload_n 1, 1) := by decide +kernel
theorem dX12_rule_46 : decode cX12_rule 46 = .ok (.iaload, 1) := by decide +kernel
theorem dX12_rule_47 : decode cX12_rule 47 = .ok (.ireturn, 1) := by decide +kernel
theorem lk_TrapCornerModel_61 : LK "TrapCornerModel" 61 [12] 32 := by
  intro ci hci
  have hci := List.mem_singleton.mp hci
  subst hci
  exact ⟨RX12, TX12, 50, "TrapCornerModel", ck_12, by decide, tw_1319, Or.inl rfl⟩
section
variable {g : GG} {p : Program} {l : Launch} {e : Env} {R : Room} {s : State} {m : MethodId} {args : Array Value} {below : List Frame} {meth : Method} {c : Code} {n0 z0 : Nat}
def f_X12_rule_0  (o0 : Nat) (x1 : Int32) (h : AH) : Option (Int32 × AH) :=
  (pV [12] h o0 0 (.int 0)).bind fun h1 =>
  (gI [12] h1 o0 27).bind fun v3 =>
  if v3 = 0 then
    some ((-1), h1)
  else
    cN (f_X12_isIn (x1.toInt64) 0 2 h1) h1 fun v6 h7 =>
    if v6 = 0 then
      some ((-1), h7)
    else
      if x1 = 1 then
        (gR [12] h7 o0 32).bind fun v16 =>
        (aI 0 h7 v16 29).bind fun v18 =>
        some (v18, h7)
      else
        (gR [12] h7 o0 18).bind fun v12 =>
        (aI 0 h7 v12 x1).bind fun v14 =>
        some (v14, h7)
set_option maxHeartbeats 1000000 in
theorem w_X12_rule_0 (X : Cx g p s m args meth c cX12_rule 2 "TrapCornerModel") (hR : 2 ≤ R.frames ∧ 128 ≤ R.locals) (hr : meth.sig.returnType = (some (.int))) {res : Int32 × AH} : ∀ (o0 : Nat) (x1 : Int32) (h : AH) (ls : Array Slot) (H : Heap) (locs : List Loc), f_X12_rule_0 o0 x1 h = some res → Iv g s n0 z0 h H locs 0 0 → lv_has ls 2 [(0, .ref (rfG g o0)), (1, .int x1)] → W p l e R s m args below meth c H locs 0 0 (MQ below (QG g (some (.int res.1)) res.2) args s 0 0 (AG g)) (F0 m 0 ls []) := by
  have hx := X.1
  have hb := X.2.1
  intro o0 x1 h ls H locs hf I hl
  unfold f_X12_rule_0 at hf
  refine lv_aload_n hx hb dX12_rule_0 rfl (lv_at hl 0 rfl) ?_
  refine lv_iconst (v := 0) hx hb dX12_rule_1 (by decide) ?_
  obtain ⟨h1, e2, hf⟩ := Option.bind_eq_some_iff.mp hf
  refine r_pI X I e2 lp_TrapCornerModel_96 dX12_rule_2 (fun H locs I => ?_)
  refine lv_aload_n hx hb dX12_rule_5 rfl (lv_at hl 0 rfl) ?_
  obtain ⟨v3, e4, hf⟩ := Option.bind_eq_some_iff.mp hf
  refine r_gI X I e4 lk_TrapCornerModel_297 dX12_rule_6 ?_
  refine lv_if_eq (tgt := 24) hx hb dX12_rule_9 (by decide) (fun c5 => ?_) (fun c5 => ?_)
  · rw [if_pos c5] at hf
    refine lv_iconst (v := (-1)) hx hb dX12_rule_24 (by decide) ?_
    cases hf
    exact k_ri X I hr dX12_rule_25
  · rw [if_neg c5] at hf
    refine lv_iload_n hx hb dX12_rule_12 rfl (lv_at hl 1 rfl) ?_
    refine lv_i2l hx hb dX12_rule_13 rfl ?_
    refine lv_lconst (v := 0) hx hb dX12_rule_14 (by decide) ?_
    refine lv_ldc2 (v := 2) hx hb X.2.2.2.1 (X.2.2.2.2.1 _ tw_1462) dX12_rule_15 ?_
    obtain ⟨v6, h7, e8, z9, hf⟩ := cN_spec hf
    refine k_Si (As := [.long (x1.toInt64), .long 0, .long 2]) (rest := []) X I (c_X12_isIn l g (x1.toInt64) 0 2 e8) z9 sk_TrapCornerModel_217 tw_1465 ⟨Nat.le_trans (by decide) hR.1, Nat.le_trans (by decide) hR.2⟩ ⟨Nat.zero_le _, Nat.zero_le _⟩ rfl hl.1 rfl (Nat.le_of_ble_eq_true rfl) dX12_rule_18 (fun H locs I => ?_)
    refine lv_if_ne (tgt := 26) hx hb dX12_rule_21 (by decide) (fun c10 => ?_) (fun c10 => ?_)
    · rw [if_neg c10] at hf
      refine lv_iload_n hx hb dX12_rule_26 rfl (lv_at hl 1 rfl) ?_
      refine lv_iconst (v := 1) hx hb dX12_rule_27 (by decide) ?_
      refine lv_icmp_ne (tgt := 41) hx hb dX12_rule_28 (by decide) (fun c11 => ?_) (fun c11 => ?_)
      · rw [if_neg c11] at hf
        refine lv_aload_n hx hb dX12_rule_41 rfl (lv_at hl 0 rfl) ?_
        obtain ⟨v12, e13, hf⟩ := Option.bind_eq_some_iff.mp hf
        refine r_gR X I e13 lk_TrapCornerModel_37 dX12_rule_42 ?_
        refine lv_iload_n hx hb dX12_rule_45 rfl (lv_at hl 1 rfl) ?_
        obtain ⟨v14, e15, hf⟩ := Option.bind_eq_some_iff.mp hf
        refine r_aI0 X I e15 dX12_rule_46 ?_
        cases hf
        exact k_ri X I hr dX12_rule_47
      · rw [if_pos c11] at hf
        refine lv_aload_n hx hb dX12_rule_31 rfl (lv_at hl 0 rfl) ?_
        obtain ⟨v16, e17, hf⟩ := Option.bind_eq_some_iff.mp hf
        refine r_gR X I e17 lk_TrapCornerModel_61 dX12_rule_32 ?_
        refine lv_bipush (v := 29) hx hb dX12_rule_35 (by decide) ?_
        obtain ⟨v18, e19, hf⟩ := Option.bind_eq_some_iff.mp hf
        refine r_aI0 X I e19 dX12_rule_37 ?_
        refine lv_goto (tgt := 47) hx hb dX12_rule_38 (by decide) ?_
        cases hf
        exact k_ri X I hr dX12_rule_47
    · rw [if_pos c10] at hf
      refine lv_iconst (v := (-1)) hx hb dX12_rule_24 (by decide) ?_
      cases hf
      exact k_ri X I hr dX12_rule_25
def f_X12_rule (o0 : Nat) (x1 : Int32) (h : AH) : Option (Int32 × AH) := f_X12_rule_0 o0 x1 h
end
theorem c_X12_rule (l : Launch) (g : GG) (o0 : Nat) (x1 : Int32) {h : AH} {res : Int32 × AH} (hf : f_X12_rule o0 x1 h = some res) : CM l g yX12_rule cX12_rule 2 (some (.int)) 2 128 0 0 [.ref (rfG g o0), .int x1] h (some (.int res.1)) res.2 :=
  k_body (by decide) (Nat.le_of_ble_eq_true rfl) (fun p e s m below meth c R ls hR hr X I hl => w_X12_rule_0 X ⟨Nat.le_of_eq hR.1.symm, Nat.le_of_eq hR.2.1.symm⟩ hr o0 x1 h ls s.heap [] hf I (lv_sub hl [0, 1] rfl))
/-! TrapCornerModel.corner(II)I -/
theorem dX12_corner_0 : decode cX12_corner 0 = .ok (.aload_n 0, 1) := by decide +kernel
theorem dX12_corner_1 : decode cX12_corner 1 = .ok (.iconst 0, 1) := by decide +kernel
theorem dX12_corner_2 : decode cX12_corner 2 = .ok (.putfield 96, 3) := by decide +kernel
theorem dX12_corner_5 : decode cX12_corner 5 = .ok (.aload_n 0, 1) := by decide +kernel
theorem dX12_corner_6 : decode cX12_corner 6 = .ok (.iload_n 1, 1) := by decide +kernel
theorem dX12_corner_7 : decode cX12_corner 7 = .ok (.invokevirtual 380, 3) := by decide +kernel
theorem dX12_corner_10 : decode cX12_corner 10 = .ok (.ifCond .eq 26, 3) := by decide +kernel
theorem dX12_corner_13 : decode cX12_corner 13 = .ok (.iload_n 2, 1) := by decide +kernel
theorem dX12_corner_14 : decode cX12_corner 14 = .ok (.i2l, 1) := by decide +kernel
theorem dX12_corner_15 : decode cX12_corner 15 = .ok (.lconst 0, 1) := by decide +kernel
theorem dX12_corner_16 : decode cX12_corner 16 = .ok (.lconst 1, 1) := by decide +kernel
theorem dX12_corner_17 : decode cX12_corner 17 = .ok (.invokestatic 217, 3) := by decide +kernel
theorem dX12_corner_20 : decode cX12_corner 20 = .ok (.ifCond .eq 16, 3) := by decide +kernel
theorem dX12_corner_23 : decode cX12_corner 23 = .ok (.aload_n 0, 1) := by decide +kernel
theorem dX12_corner_24 : decode cX12_corner 24 = .ok (.getfield 61, 3) := by decide +kernel
theorem dX12_corner_27 : decode cX12_corner 27 = .ok (.iconst 2, 1) := by decide +kernel
theorem dX12_corner_28 : decode cX12_corner 28 = .ok (.iload_n 1, 1) := by decide +kernel
theorem dX12_corner_29 : decode cX12_corner 29 = .ok (.imul, 1) := by decide +kernel
theorem dX12_corner_30 : decode cX12_corner 30 = .ok (.iload_n 2, 1) := by decide +kernel
theorem dX12_corner_31 : decode cX12_corner 31 = .ok (.iadd, 1) := by decide +kernel
theorem dX12_corner_32 : decode cX12_corner 32 = .ok (.iaload, 1) := by decide +kernel
theorem dX12_corner_33 : decode cX12_corner 33 = .ok (.goto 4, 3) := by decide +kernel
theorem dX12_corner_36 : decode cX12_corner 36 = .ok (.iconst (-1), 1) := by decide +kernel
theorem dX12_corner_37 : decode cX12_corner 37 = .ok (.ireturn, 1) := by decide +kernel
theorem vk_TrapCornerModel_380 : VK "TrapCornerModel" 380 [12] yX12_isCorner 1 := ⟨tw_1632, tw_1634, tw_13, ⟨by decide, by decide⟩, by decide +kernel, fun ci hci => by
  have hci := List.mem_singleton.mp hci
  subst hci
  exact ⟨_, rfl, tp_77⟩⟩
section
variable {g : GG} {p : Program} {l : Launch} {e : Env} {R : Room} {s : State} {m : MethodId} {args : Array Value} {below : List Frame} {meth : Method} {c : Code} {n0 z0 : Nat}
def f_X12_corner_0  (o0 : Nat) (x1 : Int32) (x2 : Int32) (h : AH) : Option (Int32 × AH) :=
  (pV [12] h o0 0 (.int 0)).bind fun h1 =>
  (isC [12] h1 o0).bind fun _ =>
  cN (f_X12_isCorner o0 x1 h1) h1 fun v3 h4 =>
  if v3 = 0 then
    some ((-1), h4)
  else
    cN (f_X12_isIn (x2.toInt64) 0 1 h4) h4 fun v9 h10 =>
    if v9 = 0 then
      some ((-1), h10)
    else
      (gR [12] h10 o0 32).bind fun v14 =>
      (aI 0 h10 v14 ((2 * x1) + x2)).bind fun v16 =>
      some (v16, h10)
set_option maxHeartbeats 1000000 in
theorem w_X12_corner_0 (X : Cx g p s m args meth c cX12_corner 3 "TrapCornerModel") (hR : 2 ≤ R.frames ∧ 128 ≤ R.locals) (hr : meth.sig.returnType = (some (.int))) {res : Int32 × AH} : ∀ (o0 : Nat) (x1 : Int32) (x2 : Int32) (h : AH) (ls : Array Slot) (H : Heap) (locs : List Loc), f_X12_corner_0 o0 x1 x2 h = some res → Iv g s n0 z0 h H locs 0 0 → lv_has ls 3 [(0, .ref (rfG g o0)), (1, .int x1), (2, .int x2)] → W p l e R s m args below meth c H locs 0 0 (MQ below (QG g (some (.int res.1)) res.2) args s 0 0 (AG g)) (F0 m 0 ls []) := by
  have hx := X.1
  have hb := X.2.1
  intro o0 x1 x2 h ls H locs hf I hl
  unfold f_X12_corner_0 at hf
  refine lv_aload_n hx hb dX12_corner_0 rfl (lv_at hl 0 rfl) ?_
  refine lv_iconst (v := 0) hx hb dX12_corner_1 (by decide) ?_
  obtain ⟨h1, e2, hf⟩ := Option.bind_eq_some_iff.mp hf
  refine r_pI X I e2 lp_TrapCornerModel_96 dX12_corner_2 (fun H locs I => ?_)
  refine lv_aload_n hx hb dX12_corner_5 rfl (lv_at hl 0 rfl) ?_
  refine lv_iload_n hx hb dX12_corner_6 rfl (lv_at hl 1 rfl) ?_
  obtain ⟨_, g7, hf⟩ := Option.bind_eq_some_iff.mp hf
  obtain ⟨v3, h4, e5, z6, hf⟩ := cN_spec hf
  refine k_Vi (As := [.int x1]) (rest := []) X I (c_X12_isCorner l g o0 x1 e5) z6 g7 vk_TrapCornerModel_380 tw_1635 ⟨Nat.le_trans (by decide) hR.1, Nat.le_trans (by decide) hR.2⟩ ⟨Nat.zero_le _, Nat.zero_le _⟩ rfl hl.1 rfl (Nat.le_of_ble_eq_true rfl) dX12_corner_7 (fun H locs I => ?_)
  refine lv_if_eq (tgt := 36) hx hb dX12_corner_10 (by decide) (fun c8 => ?_) (fun c8 => ?_)
  · rw [if_pos c8] at hf
    refine lv_iconst (v := (-1)) hx hb dX12_corner_36 (by decide) ?_
    cases hf
    exact k_ri X I hr dX12_corner_37
  · rw [if_neg c8] at hf
    refine lv_iload_n hx hb dX12_corner_13 rfl (lv_at hl 2 rfl) ?_
    refine lv_i2l hx hb dX12_corner_14 rfl ?_
    refine lv_lconst (v := 0) hx hb dX12_corner_15 (by decide) ?_
    refine lv_lconst (v := 1) hx hb dX12_corner_16 (by decide) ?_
    obtain ⟨v9, h10, e11, z12, hf⟩ := cN_spec hf
    refine k_Si (As := [.long (x2.toInt64), .long 0, .long 1]) (rest := []) X I (c_X12_isIn l g (x2.toInt64) 0 1 e11) z12 sk_TrapCornerModel_217 tw_1465 ⟨Nat.le_trans (by decide) hR.1, Nat.le_trans (by decide) hR.2⟩ ⟨Nat.zero_le _, Nat.zero_le _⟩ rfl hl.1 rfl (Nat.le_of_ble_eq_true rfl) dX12_corner_17 (fun H locs I => ?_)
    refine lv_if_eq (tgt := 36) hx hb dX12_corner_20 (by decide) (fun c13 => ?_) (fun c13 => ?_)
    · rw [if_pos c13] at hf
      refine lv_iconst (v := (-1)) hx hb dX12_corner_36 (by decide) ?_
      cases hf
      exact k_ri X I hr dX12_corner_37
    · rw [if_neg c13] at hf
      refine lv_aload_n hx hb dX12_corner_23 rfl (lv_at hl 0 rfl) ?_
      obtain ⟨v14, e15, hf⟩ := Option.bind_eq_some_iff.mp hf
      refine r_gR X I e15 lk_TrapCornerModel_61 dX12_corner_24 ?_
      refine lv_iconst (v := 2) hx hb dX12_corner_27 (by decide) ?_
      refine lv_iload_n hx hb dX12_corner_28 rfl (lv_at hl 1 rfl) ?_
      refine lv_imul hx hb dX12_corner_29 ?_
      refine lv_iload_n hx hb dX12_corner_30 rfl (lv_at hl 2 rfl) ?_
      refine lv_iadd hx hb dX12_corner_31 ?_
      obtain ⟨v16, e17, hf⟩ := Option.bind_eq_some_iff.mp hf
      refine r_aI0 X I e17 dX12_corner_32 ?_
      refine lv_goto (tgt := 37) hx hb dX12_corner_33 (by decide) ?_
      cases hf
      exact k_ri X I hr dX12_corner_37
def f_X12_corner (o0 : Nat) (x1 : Int32) (x2 : Int32) (h : AH) : Option (Int32 × AH) := f_X12_corner_0 o0 x1 x2 h
end
theorem c_X12_corner (l : Launch) (g : GG) (o0 : Nat) (x1 : Int32) (x2 : Int32) {h : AH} {res : Int32 × AH} (hf : f_X12_corner o0 x1 x2 h = some res) : CM l g yX12_corner cX12_corner 3 (some (.int)) 2 128 0 0 [.ref (rfG g o0), .int x1, .int x2] h (some (.int res.1)) res.2 :=
  k_body (by decide) (Nat.le_of_ble_eq_true rfl) (fun p e s m below meth c R ls hR hr X I hl => w_X12_corner_0 X ⟨Nat.le_of_eq hR.1.symm, Nat.le_of_eq hR.2.1.symm⟩ hr o0 x1 x2 h ls s.heap [] hf I (lv_sub hl [0, 1, 2] rfl))
/-! TrapCornerModel.person(II)I -/
theorem dX12_person_0 : decode cX12_person 0 = .ok (.aload_n 0, 1) := by decide +kernel
theorem dX12_person_1 : decode cX12_person 1 = .ok (.aload_n 0, 1) := by decide +kernel
theorem dX12_person_2 : decode cX12_person 2 = .ok (.iload_n 1, 1) := by decide +kernel
theorem dX12_person_3 : decode cX12_person 3 = .ok (.invokevirtual 383, 3) := by decide +kernel
theorem dX12_person_6 : decode cX12_person 6 = .ok (.ifCond .eq 19, 3) := by decide +kernel
theorem dX12_person_9 : decode cX12_person 9 = .ok (.iload_n 2, 1) := by decide +kernel
theorem dX12_person_10 : decode cX12_person 10 = .ok (.i2l, 1) := by decide +kernel
theorem dX12_person_11 : decode cX12_person 11 = .ok (.lconst 0, 1) := by decide +kernel
theorem dX12_person_12 : decode cX12_person 12 = .ok (.ldc2_w 386, 3) := by decide +kernel
theorem dX12_person_15 : decode cX12_person 15 = .ok (.invokestatic 217, 3) := by decide +kernel
theorem dX12_person_18 : decode cX12_person 18 = .ok (.ifCond .eq 7, 3) := by decide +kernel
theorem dX12_person_21 : decode cX12_person 21 = .ok (.iconst 0, 1) := by decide +kernel
theorem dX12_person_22 : decode cX12_person 22 = .ok (.goto 4, 3) := by decide +kernel
theorem dX12_person_25 : decode cX12_person 25 = .ok (.iconst 1, 1) := by decide +kernel
theorem dX12_person_26 : decode cX12_person 26 = .ok (.putfield 96, 3) := by decide +kernel
theorem dX12_person_29 : decode cX12_person 29 = .ok (.aload_n 0, 1) := by decide +kernel
theorem dX12_person_30 : decode cX12_person 30 = .ok (.getfield 96, 3) := by decide +kernel
theorem dX12_person_33 : decode cX12_person 33 = .ok (.ifCond .le 5, 3) := by decide +kernel
theorem dX12_person_36 : decode cX12_person 36 = .ok (.iconst 0, 1) := by decide +kernel
theorem dX12_person_37 : decode cX12_person 37 = .ok (.ireturn, 1) := by decide +kernel
theorem dX12_person_38 : decode cX12_person 38 = .ok (.iload_n 2, 1) := by decide +kernel
theorem dX12_person_39 : decode cX12_person 39 = .ok (.tableswitch 63 2 6 #[33, 63, 63, 43, 53], 33) := by decide +kernel
theorem dX12_person_72 : decode cX12_person 72 = .ok (.aload_n 0, 1) := by decide +kernel
theorem dX12_person_73 : decode cX12_person 73 = .ok (.getfield 61, 3) := by decide +kernel
theorem dX12_person_76 : decode cX12_person 76 = .ok (.iload_n 1, 1) := by decide +kernel
theorem dX12_person_77 : decode cX12_person 77 = .ok (.iconst 0, 1) := by decide +kernel
theorem dX12_person_78 : decode cX12_person 78 = .ok (.invokestatic 328, 3) := by decide +kernel
theorem dX12_person_81 : decode cX12_person 81 = .ok (.ireturn, 1) := by decide +kernel
theorem dX12_person_82 : decode cX12_person 82 = .ok (.aload_n 0, 1) := by decide +kernel
theorem dX12_person_83 : decode cX12_person 83 = .ok (.getfield 61, 3) := by decide +kernel
theorem dX12_person_86 : decode cX12_person 86 = .ok (.iload_n 1, 1) := by decide +kernel
theorem dX12_person_87 : decode cX12_person 87 = .ok (.iconst 2, 1) := by decide +kernel
theorem dX12_person_88 : decode cX12_person 88 = .ok (.invokestatic 328, 3) := by decide +kernel
theorem dX12_person_91 : decode cX12_person 91 = .ok (.ireturn, 1) := by decide +kernel
theorem dX12_person_92 : decode cX12_person 92 = .ok (.aload_n 0, 1) := by decide +kernel
theorem dX12_person_93 : decode cX12_person 93 = .ok (.getfield 61, 3) := by decide +kernel
theorem dX12_person_96 : decode cX12_person 96 = .ok (.iload_n 1, 1) := by decide +kernel
theorem dX12_person_97 : decode cX12_person 97 = .ok (.iconst 1, 1) := by decide +kernel
theorem dX12_person_98 : decode cX12_person 98 = .ok (.invokestatic 328, 3) := by decide +kernel
theorem dX12_person_101 : decode cX12_person 101 = .ok (.ireturn, 1) := by decide +kernel
theorem dX12_person_102 : decode cX12_person 102 = .ok (.aload_n 0, 1) := by decide +kernel
theorem dX12_person_103 : decode cX12_person 103 = .ok (.iload_n 1, 1) := by decide +kernel
theorem dX12_person_104 : decode cX12_person 104 = .ok (.iload_n 2, 1) := by decide +kernel
theorem dX12_person_105 : decode cX12_person 105 = .ok (.invokevirtual 325, 3) := by decide +kernel
theorem dX12_person_108 : decode cX12_person 108 = .ok (.ireturn, 1) := by decide +kernel
theorem vk_TrapCornerModel_383 : VK "TrapCornerModel" 383 [12] yX12_isPerson 1 := ⟨tw_1640, tw_1642, tw_13, ⟨by decide, by decide⟩, by decide +kernel, fun ci hci => by
  have hci := List.mem_singleton.mp hci
  subst hci
  exact ⟨_, rfl, tp_78⟩⟩
section
variable {g : GG} {p : Program} {l : Launch} {e : Env} {R : Room} {s : State} {m : MethodId} {args : Array Value} {below : List Frame} {meth : Method} {c : Code} {n0 z0 : Nat}
def f_X12_person_26  (o0 : Nat) (x1 : Int32) (x2 : Int32) (s0 : Nat) (s1 : Int32) (h : AH) : Option (Int32 × AH) :=
  (pV [12] h s0 0 (.int s1)).bind fun h1 =>
  (gI [12] h1 o0 0).bind fun v3 =>
  if v3 ≤ 0 then
    if x2 = 2 then
      (gR [12] h1 o0 32).bind fun v7 =>
      cN (f_X12_folk v7 x1 0 h1) h1 fun v9 h10 =>
      some (v9, h10)
    else
      if x2 = 3 then
        (isC [12] h1 o0).bind fun _ =>
        cN (f_X12_of o0 x1 x2 h1) h1 fun v14 h15 =>
        some (v14, h15)
      else
        if x2 = 4 then
          (isC [12] h1 o0).bind fun _ =>
          cN (f_X12_of o0 x1 x2 h1) h1 fun v20 h21 =>
          some (v20, h21)
        else
          if x2 = 5 then
            (gR [12] h1 o0 32).bind fun v26 =>
            cN (f_X12_folk v26 x1 2 h1) h1 fun v28 h29 =>
            some (v28, h29)
          else
            if x2 = 6 then
              (gR [12] h1 o0 32).bind fun v33 =>
              cN (f_X12_folk v33 x1 1 h1) h1 fun v35 h36 =>
              some (v35, h36)
            else
              (isC [12] h1 o0).bind fun _ =>
              cN (f_X12_of o0 x1 x2 h1) h1 fun v39 h40 =>
              some (v39, h40)
  else
    some (0, h1)
set_option maxHeartbeats 1000000 in
theorem w_X12_person_26 (X : Cx g p s m args meth c cX12_person 3 "TrapCornerModel") (hR : 2 ≤ R.frames ∧ 128 ≤ R.locals) (hr : meth.sig.returnType = (some (.int))) {res : Int32 × AH} : ∀ (o0 : Nat) (x1 : Int32) (x2 : Int32) (s0 : Nat) (s1 : Int32) (h : AH) (ls : Array Slot) (H : Heap) (locs : List Loc), f_X12_person_26 o0 x1 x2 s0 s1 h = some res → Iv g s n0 z0 h H locs 0 0 → lv_has ls 3 [(0, .ref (rfG g o0)), (1, .int x1), (2, .int x2)] → W p l e R s m args below meth c H locs 0 0 (MQ below (QG g (some (.int res.1)) res.2) args s 0 0 (AG g)) (F0 m 26 ls [.int s1, .ref (rfG g s0)]) := by
  have hx := X.1
  have hb := X.2.1
  intro o0 x1 x2 s0 s1 h ls H locs hf I hl
  unfold f_X12_person_26 at hf
  obtain ⟨h1, e2, hf⟩ := Option.bind_eq_some_iff.mp hf
  refine r_pI X I e2 lp_TrapCornerModel_96 dX12_person_26 (fun H locs I => ?_)
  refine lv_aload_n hx hb dX12_person_29 rfl (lv_at hl 0 rfl) ?_
  obtain ⟨v3, e4, hf⟩ := Option.bind_eq_some_iff.mp hf
  refine r_gI X I e4 lk_TrapCornerModel_96 dX12_person_30 ?_
  refine lv_if_le (tgt := 38) hx hb dX12_person_33 (by decide) (fun c5 => ?_) (fun c5 => ?_)
  · rw [if_pos c5] at hf
    refine lv_iload_n hx hb dX12_person_38 rfl (lv_at hl 2 rfl) ?_
    by_cases c6 : x2 = 2
    · rw [if_pos c6] at hf
      refine lv_tableIn (tgt := 72) hx hb dX12_person_39 (by rw [c6]; decide) (by rw [c6]; decide) (by rw [c6]; rfl) (by decide) ?_
      refine lv_aload_n hx hb dX12_person_72 rfl (lv_at hl 0 rfl) ?_
      obtain ⟨v7, e8, hf⟩ := Option.bind_eq_some_iff.mp hf
      refine r_gR X I e8 lk_TrapCornerModel_61 dX12_person_73 ?_
      refine lv_iload_n hx hb dX12_person_76 rfl (lv_at hl 1 rfl) ?_
      refine lv_iconst (v := 0) hx hb dX12_person_77 (by decide) ?_
      obtain ⟨v9, h10, e11, z12, hf⟩ := cN_spec hf
      refine k_Si (As := [.ref (rfG g v7), .int x1, .int 0]) (rest := []) X I (c_X12_folk l g v7 x1 0 e11) z12 sk_TrapCornerModel_328 tw_1647 ⟨Nat.le_trans (by decide) hR.1, Nat.le_trans (by decide) hR.2⟩ ⟨Nat.zero_le _, Nat.zero_le _⟩ rfl hl.1 rfl (Nat.le_of_ble_eq_true rfl) dX12_person_78 (fun H locs I => ?_)
      cases hf
      exact k_ri X I hr dX12_person_81
    · rw [if_neg c6] at hf
      by_cases c13 : x2 = 3
      · rw [if_pos c13] at hf
        refine lv_tableIn (tgt := 102) hx hb dX12_person_39 (by rw [c13]; decide) (by rw [c13]; decide) (by rw [c13]; rfl) (by decide) ?_
        refine lv_aload_n hx hb dX12_person_102 rfl (lv_at hl 0 rfl) ?_
        refine lv_iload_n hx hb dX12_person_103 rfl (lv_at hl 1 rfl) ?_
        refine lv_iload_n hx hb dX12_person_104 rfl (lv_at hl 2 rfl) ?_
        obtain ⟨_, g18, hf⟩ := Option.bind_eq_some_iff.mp hf
        obtain ⟨v14, h15, e16, z17, hf⟩ := cN_spec hf
        refine k_Vi (As := [.int x1, .int x2]) (rest := []) X I (c_X12_of l g o0 x1 x2 e16) z17 g18 vk_TrapCornerModel_325 tw_1651 ⟨Nat.le_trans (by decide) hR.1, Nat.le_trans (by decide) hR.2⟩ ⟨Nat.zero_le _, Nat.zero_le _⟩ rfl hl.1 rfl (Nat.le_of_ble_eq_true rfl) dX12_person_105 (fun H locs I => ?_)
        cases hf
        exact k_ri X I hr dX12_person_108
      · rw [if_neg c13] at hf
        by_cases c19 : x2 = 4
        · rw [if_pos c19] at hf
          refine lv_tableIn (tgt := 102) hx hb dX12_person_39 (by rw [c19]; decide) (by rw [c19]; decide) (by rw [c19]; rfl) (by decide) ?_
          refine lv_aload_n hx hb dX12_person_102 rfl (lv_at hl 0 rfl) ?_
          refine lv_iload_n hx hb dX12_person_103 rfl (lv_at hl 1 rfl) ?_
          refine lv_iload_n hx hb dX12_person_104 rfl (lv_at hl 2 rfl) ?_
          obtain ⟨_, g24, hf⟩ := Option.bind_eq_some_iff.mp hf
          obtain ⟨v20, h21, e22, z23, hf⟩ := cN_spec hf
          refine k_Vi (As := [.int x1, .int x2]) (rest := []) X I (c_X12_of l g o0 x1 x2 e22) z23 g24 vk_TrapCornerModel_325 tw_1651 ⟨Nat.le_trans (by decide) hR.1, Nat.le_trans (by decide) hR.2⟩ ⟨Nat.zero_le _, Nat.zero_le _⟩ rfl hl.1 rfl (Nat.le_of_ble_eq_true rfl) dX12_person_105 (fun H locs I => ?_)
          cases hf
          exact k_ri X I hr dX12_person_108
        · rw [if_neg c19] at hf
          by_cases c25 : x2 = 5
          · rw [if_pos c25] at hf
            refine lv_tableIn (tgt := 82) hx hb dX12_person_39 (by rw [c25]; decide) (by rw [c25]; decide) (by rw [c25]; rfl) (by decide) ?_
            refine lv_aload_n hx hb dX12_person_82 rfl (lv_at hl 0 rfl) ?_
            obtain ⟨v26, e27, hf⟩ := Option.bind_eq_some_iff.mp hf
            refine r_gR X I e27 lk_TrapCornerModel_61 dX12_person_83 ?_
            refine lv_iload_n hx hb dX12_person_86 rfl (lv_at hl 1 rfl) ?_
            refine lv_iconst (v := 2) hx hb dX12_person_87 (by decide) ?_
            obtain ⟨v28, h29, e30, z31, hf⟩ := cN_spec hf
            refine k_Si (As := [.ref (rfG g v26), .int x1, .int 2]) (rest := []) X I (c_X12_folk l g v26 x1 2 e30) z31 sk_TrapCornerModel_328 tw_1647 ⟨Nat.le_trans (by decide) hR.1, Nat.le_trans (by decide) hR.2⟩ ⟨Nat.zero_le _, Nat.zero_le _⟩ rfl hl.1 rfl (Nat.le_of_ble_eq_true rfl) dX12_person_88 (fun H locs I => ?_)
            cases hf
            exact k_ri X I hr dX12_person_91
          · rw [if_neg c25] at hf
            by_cases c32 : x2 = 6
            · rw [if_pos c32] at hf
              refine lv_tableIn (tgt := 92) hx hb dX12_person_39 (by rw [c32]; decide) (by rw [c32]; decide) (by rw [c32]; rfl) (by decide) ?_
              refine lv_aload_n hx hb dX12_person_92 rfl (lv_at hl 0 rfl) ?_
              obtain ⟨v33, e34, hf⟩ := Option.bind_eq_some_iff.mp hf
              refine r_gR X I e34 lk_TrapCornerModel_61 dX12_person_93 ?_
              refine lv_iload_n hx hb dX12_person_96 rfl (lv_at hl 1 rfl) ?_
              refine lv_iconst (v := 1) hx hb dX12_person_97 (by decide) ?_
              obtain ⟨v35, h36, e37, z38, hf⟩ := cN_spec hf
              refine k_Si (As := [.ref (rfG g v33), .int x1, .int 1]) (rest := []) X I (c_X12_folk l g v33 x1 1 e37) z38 sk_TrapCornerModel_328 tw_1647 ⟨Nat.le_trans (by decide) hR.1, Nat.le_trans (by decide) hR.2⟩ ⟨Nat.zero_le _, Nat.zero_le _⟩ rfl hl.1 rfl (Nat.le_of_ble_eq_true rfl) dX12_person_98 (fun H locs I => ?_)
              cases hf
              exact k_ri X I hr dX12_person_101
            · rw [if_neg c32] at hf
              refine lv_tableOut (tgt := 102) hx hb dX12_person_39 (sw_out (fun k k1 k2 => by rcases (show k = 2 ∨ k = 3 ∨ k = 4 ∨ k = 5 ∨ k = 6 by omega) with rfl | rfl | rfl | rfl | rfl <;> assumption)) (by decide) ?_
              refine lv_aload_n hx hb dX12_person_102 rfl (lv_at hl 0 rfl) ?_
              refine lv_iload_n hx hb dX12_person_103 rfl (lv_at hl 1 rfl) ?_
              refine lv_iload_n hx hb dX12_person_104 rfl (lv_at hl 2 rfl) ?_
              obtain ⟨_, g43, hf⟩ := Option.bind_eq_some_iff.mp hf
              obtain ⟨v39, h40, e41, z42, hf⟩ := cN_spec hf
              refine k_Vi (As := [.int x1, .int x2]) (rest := []) X I (c_X12_of l g o0 x1 x2 e41) z42 g43 vk_TrapCornerModel_325 tw_1651 ⟨Nat.le_trans (by decide) hR.1, Nat.le_trans (by decide) hR.2⟩ ⟨Nat.zero_le _, Nat.zero_le _⟩ rfl hl.1 rfl (Nat.le_of_ble_eq_true rfl) dX12_person_105 (fun H locs I => ?_)
              cases hf
              exact k_ri X I hr dX12_person_108
  · rw [if_neg c5] at hf
    refine lv_iconst (v := 0) hx hb dX12_person_36 (by decide) ?_
    cases hf
    exact k_ri X I hr dX12_person_37
def f_X12_person_25  (o0 : Nat) (x1 : Int32) (x2 : Int32) (s0 : Nat) (h : AH) : Option (Int32 × AH) :=
  f_X12_person_26 o0 x1 x2 s0 1 h
set_option maxHeartbeats 1000000 in
theorem w_X12_person_25 (X : Cx g p s m args meth c cX12_person 3 "TrapCornerModel") (hR : 2 ≤ R.frames ∧ 128 ≤ R.locals) (hr : meth.sig.returnType = (some (.int))) {res : Int32 × AH} : ∀ (o0 : Nat) (x1 : Int32) (x2 : Int32) (s0 : Nat) (h : AH) (ls : Array Slot) (H : Heap) (locs : List Loc), f_X12_person_25 o0 x1 x2 s0 h = some res → Iv g s n0 z0 h H locs 0 0 → lv_has ls 3 [(0, .ref (rfG g o0)), (1, .int x1), (2, .int x2)] → W p l e R s m args below meth c H locs 0 0 (MQ below (QG g (some (.int res.1)) res.2) args s 0 0 (AG g)) (F0 m 25 ls [.ref (rfG g s0)]) := by
  have hx := X.1
  have hb := X.2.1
  intro o0 x1 x2 s0 h ls H locs hf I hl
  unfold f_X12_person_25 at hf
  refine lv_iconst (v := 1) hx hb dX12_person_25 (by decide) ?_
  exact w_X12_person_26 X hR hr  o0 x1 x2 s0 1 h ls H locs hf I (lv_sub hl [0, 1, 2] rfl)
def f_X12_person_0  (o0 : Nat) (x1 : Int32) (x2 : Int32) (h : AH) : Option (Int32 × AH) :=
  (isC [12] h o0).bind fun _ =>
  cN (f_X12_isPerson o0 x1 h) h fun v1 h2 =>
  if v1 = 0 then
    f_X12_person_25 o0 x1 x2 o0 h2
  else
    cN (f_X12_isIn (x2.toInt64) 0 6 h2) h2 fun v7 h8 =>
    if v7 = 0 then
      f_X12_person_25 o0 x1 x2 o0 h8
    else
      f_X12_person_26 o0 x1 x2 o0 0 h8
set_option maxHeartbeats 1000000 in
theorem w_X12_person_0 (X : Cx g p s m args meth c cX12_person 3 "TrapCornerModel") (hR : 2 ≤ R.frames ∧ 128 ≤ R.locals) (hr : meth.sig.returnType = (some (.int))) {res : Int32 × AH} : ∀ (o0 : Nat) (x1 : Int32) (x2 : Int32) (h : AH) (ls : Array Slot) (H : Heap) (locs : List Loc), f_X12_person_0 o0 x1 x2 h = some res → Iv g s n0 z0 h H locs 0 0 → lv_has ls 3 [(0, .ref (rfG g o0)), (1, .int x1), (2, .int x2)] → W p l e R s m args below meth c H locs 0 0 (MQ below (QG g (some (.int res.1)) res.2) args s 0 0 (AG g)) (F0 m 0 ls []) := by
  have hx := X.1
  have hb := X.2.1
  intro o0 x1 x2 h ls H locs hf I hl
  unfold f_X12_person_0 at hf
  refine lv_aload_n hx hb dX12_person_0 rfl (lv_at hl 0 rfl) ?_
  refine lv_aload_n hx hb dX12_person_1 rfl (lv_at hl 0 rfl) ?_
  refine lv_iload_n hx hb dX12_person_2 rfl (lv_at hl 1 rfl) ?_
  obtain ⟨_, g5, hf⟩ := Option.bind_eq_some_iff.mp hf
  obtain ⟨v1, h2, e3, z4, hf⟩ := cN_spec hf
  refine k_Vi (As := [.int x1]) (rest := [.ref (rfG g o0)]) X I (c_X12_isPerson l g o0 x1 e3) z4 g5 vk_TrapCornerModel_383 tw_1643 ⟨Nat.le_trans (by decide) hR.1, Nat.le_trans (by decide) hR.2⟩ ⟨Nat.zero_le _, Nat.zero_le _⟩ rfl hl.1 rfl (Nat.le_of_ble_eq_true rfl) dX12_person_3 (fun H locs I => ?_)
  refine lv_if_eq (tgt := 25) hx hb dX12_person_6 (by decide) (fun c6 => ?_) (fun c6 => ?_)
  · rw [if_pos c6] at hf
    exact w_X12_person_25 X hR hr  o0 x1 x2 o0 h2 ls H locs hf I (lv_sub hl [0, 1, 2] rfl)
  · rw [if_neg c6] at hf
    refine lv_iload_n hx hb dX12_person_9 rfl (lv_at hl 2 rfl) ?_
    refine lv_i2l hx hb dX12_person_10 rfl ?_
    refine lv_lconst (v := 0) hx hb dX12_person_11 (by decide) ?_
    refine lv_ldc2 (v := 6) hx hb X.2.2.2.1 (X.2.2.2.2.1 _ tw_1644) dX12_person_12 ?_
    obtain ⟨v7, h8, e9, z10, hf⟩ := cN_spec hf
    refine k_Si (As := [.long (x2.toInt64), .long 0, .long 6]) (rest := [.ref (rfG g o0)]) X I (c_X12_isIn l g (x2.toInt64) 0 6 e9) z10 sk_TrapCornerModel_217 tw_1465 ⟨Nat.le_trans (by decide) hR.1, Nat.le_trans (by decide) hR.2⟩ ⟨Nat.zero_le _, Nat.zero_le _⟩ rfl hl.1 rfl (Nat.le_of_ble_eq_true rfl) dX12_person_15 (fun H locs I => ?_)
    refine lv_if_eq (tgt := 25) hx hb dX12_person_18 (by decide) (fun c11 => ?_) (fun c11 => ?_)
    · rw [if_pos c11] at hf
      exact w_X12_person_25 X hR hr  o0 x1 x2 o0 h8 ls H locs hf I (lv_sub hl [0, 1, 2] rfl)
    · rw [if_neg c11] at hf
      refine lv_iconst (v := 0) hx hb dX12_person_21 (by decide) ?_
      refine lv_goto (tgt := 26) hx hb dX12_person_22 (by decide) ?_
      exact w_X12_person_26 X hR hr  o0 x1 x2 o0 0 h8 ls H locs hf I (lv_sub hl [0, 1, 2] rfl)
def f_X12_person (o0 : Nat) (x1 : Int32) (x2 : Int32) (h : AH) : Option (Int32 × AH) := f_X12_person_0 o0 x1 x2 h
end
theorem c_X12_person (l : Launch) (g : GG) (o0 : Nat) (x1 : Int32) (x2 : Int32) {h : AH} {res : Int32 × AH} (hf : f_X12_person o0 x1 x2 h = some res) : CM l g yX12_person cX12_person 3 (some (.int)) 2 128 0 0 [.ref (rfG g o0), .int x1, .int x2] h (some (.int res.1)) res.2 :=
  k_body (by decide) (Nat.le_of_ble_eq_true rfl) (fun p e s m below meth c R ls hR hr X I hl => w_X12_person_0 X ⟨Nat.le_of_eq hR.1.symm, Nat.le_of_eq hR.2.1.symm⟩ hr o0 x1 x2 h ls s.heap [] hf I (lv_sub hl [0, 1, 2] rfl))
/-! TrapCornerModel.law(I)Z -/
theorem dX12_law_0 : decode cX12_law 0 = .ok (.aload_n 0, 1) := by decide +kernel
theorem dX12_law_1 : decode cX12_law 1 = .ok (.iconst 0, 1) := by decide +kernel
theorem dX12_law_2 : decode cX12_law 2 = .ok (.putfield 96, 3) := by decide +kernel
theorem dX12_law_5 : decode cX12_law 5 = .ok (.iload_n 1, 1) := by decide +kernel
theorem dX12_law_6 : decode cX12_law 6 = .ok (.iconst (-1), 1) := by decide +kernel
theorem dX12_law_7 : decode cX12_law 7 = .ok (.if_icmp .eq 21, 3) := by decide +kernel
theorem dX12_law_10 : decode cX12_law 10 = .ok (.iload_n 1, 1) := by decide +kernel
theorem dX12_law_11 : decode cX12_law 11 = .ok (.i2l, 1) := by decide +kernel
theorem dX12_law_12 : decode cX12_law 12 = .ok (.lconst 0, 1) := by decide +kernel
theorem dX12_law_13 : decode cX12_law 13 = .ok (.aload_n 0, 1) := by decide +kernel
theorem dX12_law_14 : decode cX12_law 14 = .ok (.getfield 286, 3) := by decide +kernel
theorem dX12_law_17 : decode cX12_law 17 = .ok (.iconst 1, 1) := by decide +kernel
theorem dX12_law_18 : decode cX12_law 18 = .ok (.isub, 1) := by decide +kernel
theorem dX12_law_19 : decode cX12_law 19 = .ok (.i2l, 1) := by decide +kernel
theorem dX12_law_20 : decode cX12_law 20 = .ok (.invokestatic 217, 3) := by decide +kernel
theorem dX12_law_23 : decode cX12_law 23 = .ok (.ifCond .ne 5, 3) := by decide +kernel
theorem dX12_law_26 : decode cX12_law 26 = .ok (.iconst 0, 1) := by decide +kernel
theorem dX12_law_27 : decode cX12_law 27 = .ok (.ireturn, 1) := by decide +kernel
theorem dX12_law_28 : decode cX12_law 28 = .ok (.aload_n 0, 1) := by decide +kernel
theorem dX12_law_29 : decode cX12_law 29 = .ok (.iload_n 1, 1) := by decide +kernel
theorem dX12_law_30 : decode cX12_law 30 = .ok (.putfield 67, 3) := by decide +kernel
theorem dX12_law_33 : decode cX12_law 33 = .ok (.iconst 1, 1) := by decide +kernel
theorem dX12_law_34 : decode cX12_law 34 = .ok (.ireturn, 1) := by decide +kernel
theorem lp_TrapCornerModel_67 : LKP "TrapCornerModel" 67 [12] 34 (.int) := by
  intro ci hci
  have hci := List.mem_singleton.mp hci
  subst hci
  exact ⟨RX12, TX12, 50, "TrapCornerModel", ck_12, by decide, tw_1321, Or.inl rfl, rfl, by decide +kernel⟩
theorem lk_TrapCornerModel_286 : LK "TrapCornerModel" 286 [12] 7 := by
  intro ci hci
  have hci := List.mem_singleton.mp hci
  subst hci
  exact ⟨RX12, TX12, 50, "TrapCornerModel", ck_12, by decide, tw_1294, Or.inl rfl⟩
section
variable {g : GG} {p : Program} {l : Launch} {e : Env} {R : Room} {s : State} {m : MethodId} {args : Array Value} {below : List Frame} {meth : Method} {c : Code} {n0 z0 : Nat}
def f_X12_law_28  (o0 : Nat) (x1 : Int32) (h : AH) : Option (Int32 × AH) :=
  (pV [12] h o0 34 (.int x1)).bind fun h1 =>
  some (1, h1)
set_option maxHeartbeats 1000000 in
theorem w_X12_law_28 (X : Cx g p s m args meth c cX12_law 2 "TrapCornerModel") (hR : 2 ≤ R.frames ∧ 128 ≤ R.locals) (hr : meth.sig.returnType = (some (.boolean))) {res : Int32 × AH} : ∀ (o0 : Nat) (x1 : Int32) (h : AH) (ls : Array Slot) (H : Heap) (locs : List Loc), f_X12_law_28 o0 x1 h = some res → Iv g s n0 z0 h H locs 0 0 → lv_has ls 2 [(0, .ref (rfG g o0)), (1, .int x1)] → W p l e R s m args below meth c H locs 0 0 (MQ below (QG g (some (.int res.1)) res.2) args s 0 0 (AG g)) (F0 m 28 ls []) := by
  have hx := X.1
  have hb := X.2.1
  intro o0 x1 h ls H locs hf I hl
  unfold f_X12_law_28 at hf
  refine lv_aload_n hx hb dX12_law_28 rfl (lv_at hl 0 rfl) ?_
  refine lv_iload_n hx hb dX12_law_29 rfl (lv_at hl 1 rfl) ?_
  obtain ⟨h1, e2, hf⟩ := Option.bind_eq_some_iff.mp hf
  refine r_pI X I e2 lp_TrapCornerModel_67 dX12_law_30 (fun H locs I => ?_)
  refine lv_iconst (v := 1) hx hb dX12_law_33 (by decide) ?_
  cases hf
  exact k_rz X I hr (Or.inr rfl) dX12_law_34
def f_X12_law_0  (o0 : Nat) (x1 : Int32) (h : AH) : Option (Int32 × AH) :=
  (pV [12] h o0 0 (.int 0)).bind fun h1 =>
  if x1 = ((-1)) then
    f_X12_law_28 o0 x1 h1
  else
    (gI [12] h1 o0 7).bind fun v4 =>
    cN (f_X12_isIn (x1.toInt64) 0 ((v4 - 1).toInt64) h1) h1 fun v6 h7 =>
    if v6 = 0 then
      some (0, h7)
    else
      f_X12_law_28 o0 x1 h7
set_option maxHeartbeats 1000000 in
theorem w_X12_law_0 (X : Cx g p s m args meth c cX12_law 2 "TrapCornerModel") (hR : 2 ≤ R.frames ∧ 128 ≤ R.locals) (hr : meth.sig.returnType = (some (.boolean))) {res : Int32 × AH} : ∀ (o0 : Nat) (x1 : Int32) (h : AH) (ls : Array Slot) (H : Heap) (locs : List Loc), f_X12_law_0 o0 x1 h = some res → Iv g s n0 z0 h H locs 0 0 → lv_has ls 2 [(0, .ref (rfG g o0)), (1, .int x1)] → W p l e R s m args below meth c H locs 0 0 (MQ below (QG g (some (.int res.1)) res.2) args s 0 0 (AG g)) (F0 m 0 ls []) := by
  have hx := X.1
  have hb := X.2.1
  intro o0 x1 h ls H locs hf I hl
  unfold f_X12_law_0 at hf
  refine lv_aload_n hx hb dX12_law_0 rfl (lv_at hl 0 rfl) ?_
  refine lv_iconst (v := 0) hx hb dX12_law_1 (by decide) ?_
  obtain ⟨h1, e2, hf⟩ := Option.bind_eq_some_iff.mp hf
  refine r_pI X I e2 lp_TrapCornerModel_96 dX12_law_2 (fun H locs I => ?_)
  refine lv_iload_n hx hb dX12_law_5 rfl (lv_at hl 1 rfl) ?_
  refine lv_iconst (v := (-1)) hx hb dX12_law_6 (by decide) ?_
  refine lv_icmp_eq (tgt := 28) hx hb dX12_law_7 (by decide) (fun c3 => ?_) (fun c3 => ?_)
  · rw [if_pos c3] at hf
    exact w_X12_law_28 X hR hr  o0 x1 h1 ls H locs hf I (lv_sub hl [0, 1] rfl)
  · rw [if_neg c3] at hf
    refine lv_iload_n hx hb dX12_law_10 rfl (lv_at hl 1 rfl) ?_
    refine lv_i2l hx hb dX12_law_11 rfl ?_
    refine lv_lconst (v := 0) hx hb dX12_law_12 (by decide) ?_
    refine lv_aload_n hx hb dX12_law_13 rfl (lv_at hl 0 rfl) ?_
    obtain ⟨v4, e5, hf⟩ := Option.bind_eq_some_iff.mp hf
    refine r_gI X I e5 lk_TrapCornerModel_286 dX12_law_14 ?_
    refine lv_iconst (v := 1) hx hb dX12_law_17 (by decide) ?_
    refine lv_isub hx hb dX12_law_18 ?_
    refine lv_i2l hx hb dX12_law_19 rfl ?_
    obtain ⟨v6, h7, e8, z9, hf⟩ := cN_spec hf
    refine k_Si (As := [.long (x1.toInt64), .long 0, .long ((v4 - 1).toInt64)]) (rest := []) X I (c_X12_isIn l g (x1.toInt64) 0 ((v4 - 1).toInt64) e8) z9 sk_TrapCornerModel_217 tw_1465 ⟨Nat.le_trans (by decide) hR.1, Nat.le_trans (by decide) hR.2⟩ ⟨Nat.zero_le _, Nat.zero_le _⟩ rfl hl.1 rfl (Nat.le_of_ble_eq_true rfl) dX12_law_20 (fun H locs I => ?_)
    refine lv_if_ne (tgt := 28) hx hb dX12_law_23 (by decide) (fun c10 => ?_) (fun c10 => ?_)
    · rw [if_neg c10] at hf
      exact w_X12_law_28 X hR hr  o0 x1 h7 ls H locs hf I (lv_sub hl [0, 1] rfl)
    · rw [if_pos c10] at hf
      refine lv_iconst (v := 0) hx hb dX12_law_26 (by decide) ?_
      cases hf
      exact k_rz X I hr (Or.inl rfl) dX12_law_27
def f_X12_law (o0 : Nat) (x1 : Int32) (h : AH) : Option (Int32 × AH) := f_X12_law_0 o0 x1 h
end
theorem c_X12_law (l : Launch) (g : GG) (o0 : Nat) (x1 : Int32) {h : AH} {res : Int32 × AH} (hf : f_X12_law o0 x1 h = some res) : CM l g yX12_law cX12_law 2 (some (.boolean)) 2 128 0 0 [.ref (rfG g o0), .int x1] h (some (.int res.1)) res.2 :=
  k_body (by decide) (Nat.le_of_ble_eq_true rfl) (fun p e s m below meth c R ls hR hr X I hl => w_X12_law_0 X ⟨Nat.le_of_eq hR.1.symm, Nat.le_of_eq hR.2.1.symm⟩ hr o0 x1 h ls s.heap [] hf I (lv_sub hl [0, 1] rfl))
/-! TrapCornerModel.dogs(I)Z -/
theorem dX12_dogs_0 : decode cX12_dogs 0 = .ok (.aload_n 0, 1) := by decide +kernel
theorem dX12_dogs_1 : decode cX12_dogs 1 = .ok (.iconst 0, 1) := by decide +kernel
theorem dX12_dogs_2 : decode cX12_dogs 2 = .ok (.putfield 96, 3) := by decide +kernel
theorem dX12_dogs_5 : decode cX12_dogs 5 = .ok (.iload_n 1, 1) := by decide +kernel
theorem dX12_dogs_6 : decode cX12_dogs 6 = .ok (.i2l, 1) := by decide +kernel
theorem dX12_dogs_7 : decode cX12_dogs 7 = .ok (.lconst 0, 1) := by decide +kernel
theorem dX12_dogs_8 : decode cX12_dogs 8 = .ok (.ldc2_w 388, 3) := by decide +kernel
theorem dX12_dogs_11 : decode cX12_dogs 11 = .ok (.invokestatic 217, 3) := by decide +kernel
theorem dX12_dogs_14 : decode cX12_dogs 14 = .ok (.ifCond .eq 11, 3) := by decide +kernel
theorem dX12_dogs_17 : decode cX12_dogs 17 = .ok (.iload_n 1, 1) := by decide +kernel
theorem dX12_dogs_18 : decode cX12_dogs 18 = .ok (.aload_n 0, 1) := by decide +kernel
theorem dX12_dogs_19 : decode cX12_dogs 19 = .ok (.getfield 71, 3) := by decide +kernel
theorem dX12_dogs_22 : decode cX12_dogs 22 = .ok (.if_icmp .ne 5, 3) := by decide +kernel
theorem dX12_dogs_25 : decode cX12_dogs 25 = .ok (.iconst 0, 1) := by decide +kernel
theorem dX12_dogs_26 : decode cX12_dogs 26 = .ok (.ireturn, 1) := by decide +kernel
theorem dX12_dogs_27 : decode cX12_dogs 27 = .ok (.aload_n 0, 1) := by decide +kernel
theorem dX12_dogs_28 : decode cX12_dogs 28 = .ok (.iload_n 1, 1) := by decide +kernel
theorem dX12_dogs_29 : decode cX12_dogs 29 = .ok (.putfield 71, 3) := by decide +kernel
theorem dX12_dogs_32 : decode cX12_dogs 32 = .ok (.iconst 1, 1) := by decide +kernel
theorem dX12_dogs_33 : decode cX12_dogs 33 = .ok (.ireturn, 1) := by decide +kernel
theorem lk_TrapCornerModel_71 : LK "TrapCornerModel" 71 [12] 35 := by
  intro ci hci
  have hci := List.mem_singleton.mp hci
  subst hci
  exact ⟨RX12, TX12, 50, "TrapCornerModel", ck_12, by decide, tw_1322, Or.inl rfl⟩
theorem lp_TrapCornerModel_71 : LKP "TrapCornerModel" 71 [12] 35 (.int) := by
  intro ci hci
  have hci := List.mem_singleton.mp hci
  subst hci
  exact ⟨RX12, TX12, 50, "TrapCornerModel", ck_12, by decide, tw_1322, Or.inl rfl, rfl, by decide +kernel⟩
section
variable {g : GG} {p : Program} {l : Launch} {e : Env} {R : Room} {s : State} {m : MethodId} {args : Array Value} {below : List Frame} {meth : Method} {c : Code} {n0 z0 : Nat}
def f_X12_dogs_0  (o0 : Nat) (x1 : Int32) (h : AH) : Option (Int32 × AH) :=
  (pV [12] h o0 0 (.int 0)).bind fun h1 =>
  cN (f_X12_isIn (x1.toInt64) 0 9 h1) h1 fun v3 h4 =>
  if v3 = 0 then
    some (0, h4)
  else
    (gI [12] h4 o0 35).bind fun v8 =>
    if x1 = v8 then
      some (0, h4)
    else
      (pV [12] h4 o0 35 (.int x1)).bind fun h11 =>
      some (1, h11)
set_option maxHeartbeats 1000000 in
theorem w_X12_dogs_0 (X : Cx g p s m args meth c cX12_dogs 2 "TrapCornerModel") (hR : 2 ≤ R.frames ∧ 128 ≤ R.locals) (hr : meth.sig.returnType = (some (.boolean))) {res : Int32 × AH} : ∀ (o0 : Nat) (x1 : Int32) (h : AH) (ls : Array Slot) (H : Heap) (locs : List Loc), f_X12_dogs_0 o0 x1 h = some res → Iv g s n0 z0 h H locs 0 0 → lv_has ls 2 [(0, .ref (rfG g o0)), (1, .int x1)] → W p l e R s m args below meth c H locs 0 0 (MQ below (QG g (some (.int res.1)) res.2) args s 0 0 (AG g)) (F0 m 0 ls []) := by
  have hx := X.1
  have hb := X.2.1
  intro o0 x1 h ls H locs hf I hl
  unfold f_X12_dogs_0 at hf
  refine lv_aload_n hx hb dX12_dogs_0 rfl (lv_at hl 0 rfl) ?_
  refine lv_iconst (v := 0) hx hb dX12_dogs_1 (by decide) ?_
  obtain ⟨h1, e2, hf⟩ := Option.bind_eq_some_iff.mp hf
  refine r_pI X I e2 lp_TrapCornerModel_96 dX12_dogs_2 (fun H locs I => ?_)
  refine lv_iload_n hx hb dX12_dogs_5 rfl (lv_at hl 1 rfl) ?_
  refine lv_i2l hx hb dX12_dogs_6 rfl ?_
  refine lv_lconst (v := 0) hx hb dX12_dogs_7 (by decide) ?_
  refine lv_ldc2 (v := 9) hx hb X.2.2.2.1 (X.2.2.2.2.1 _ tw_1660) dX12_dogs_8 ?_
  obtain ⟨v3, h4, e5, z6, hf⟩ := cN_spec hf
  refine k_Si (As := [.long (x1.toInt64), .long 0, .long 9]) (rest := []) X I (c_X12_isIn l g (x1.toInt64) 0 9 e5) z6 sk_TrapCornerModel_217 tw_1465 ⟨Nat.le_trans (by decide) hR.1, Nat.le_trans (by decide) hR.2⟩ ⟨Nat.zero_le _, Nat.zero_le _⟩ rfl hl.1 rfl (Nat.le_of_ble_eq_true rfl) dX12_dogs_11 (fun H locs I => ?_)
  refine lv_if_eq (tgt := 25) hx hb dX12_dogs_14 (by decide) (fun c7 => ?_) (fun c7 => ?_)
  · rw [if_pos c7] at hf
    refine lv_iconst (v := 0) hx hb dX12_dogs_25 (by decide) ?_
    cases hf
    exact k_rz X I hr (Or.inl rfl) dX12_dogs_26
  · rw [if_neg c7] at hf
    refine lv_iload_n hx hb dX12_dogs_17 rfl (lv_at hl 1 rfl) ?_
    refine lv_aload_n hx hb dX12_dogs_18 rfl (lv_at hl 0 rfl) ?_
    obtain ⟨v8, e9, hf⟩ := Option.bind_eq_some_iff.mp hf
    refine r_gI X I e9 lk_TrapCornerModel_71 dX12_dogs_19 ?_
    refine lv_icmp_ne (tgt := 27) hx hb dX12_dogs_22 (by decide) (fun c10 => ?_) (fun c10 => ?_)
    · rw [if_neg c10] at hf
      refine lv_aload_n hx hb dX12_dogs_27 rfl (lv_at hl 0 rfl) ?_
      refine lv_iload_n hx hb dX12_dogs_28 rfl (lv_at hl 1 rfl) ?_
      obtain ⟨h11, e12, hf⟩ := Option.bind_eq_some_iff.mp hf
      refine r_pI X I e12 lp_TrapCornerModel_71 dX12_dogs_29 (fun H locs I => ?_)
      refine lv_iconst (v := 1) hx hb dX12_dogs_32 (by decide) ?_
      cases hf
      exact k_rz X I hr (Or.inr rfl) dX12_dogs_33
    · rw [if_pos c10] at hf
      refine lv_iconst (v := 0) hx hb dX12_dogs_25 (by decide) ?_
      cases hf
      exact k_rz X I hr (Or.inl rfl) dX12_dogs_26
def f_X12_dogs (o0 : Nat) (x1 : Int32) (h : AH) : Option (Int32 × AH) := f_X12_dogs_0 o0 x1 h
end
theorem c_X12_dogs (l : Launch) (g : GG) (o0 : Nat) (x1 : Int32) {h : AH} {res : Int32 × AH} (hf : f_X12_dogs o0 x1 h = some res) : CM l g yX12_dogs cX12_dogs 2 (some (.boolean)) 2 128 0 0 [.ref (rfG g o0), .int x1] h (some (.int res.1)) res.2 :=
  k_body (by decide) (Nat.le_of_ble_eq_true rfl) (fun p e s m below meth c R ls hR hr X I hl => w_X12_dogs_0 X ⟨Nat.le_of_eq hR.1.symm, Nat.le_of_eq hR.2.1.symm⟩ hr o0 x1 h ls s.heap [] hf I (lv_sub hl [0, 1] rfl))
/-! TrapCornerModel.remember()V -/
theorem dX12_remember_0 : decode cX12_remember 0 = .ok (.aload_n 0, 1) := by decide +kernel
theorem dX12_remember_1 : decode cX12_remember 1 = .ok (.getfield 303, 3) := by decide +kernel
theorem dX12_remember_4 : decode cX12_remember 4 = .ok (.bipush 40, 2) := by decide +kernel
theorem dX12_remember_6 : decode cX12_remember 6 = .ok (.if_icmp .ne 44, 3) := by decide +kernel
theorem dX12_remember_9 : decode cX12_remember 9 = .ok (.iconst 0, 1) := by decide +kernel
theorem dX12_remember_10 : decode cX12_remember 10 = .ok (.istore_n 1, 1) := by decide +kernel
theorem dX12_remember_11 : decode cX12_remember 11 = .ok (.iload_n 1, 1) := by decide +kernel
theorem dX12_remember_12 : decode cX12_remember 12 = .ok (.sipush 8268, 3) := by decide +kernel
theorem dX12_remember_15 : decode cX12_remember 15 = .ok (.if_icmp .ge 25, 3) := by decide +kernel
theorem dX12_remember_18 : decode cX12_remember 18 = .ok (.aload_n 0, 1) := by decide +kernel
theorem dX12_remember_19 : decode cX12_remember 19 = .ok (.getfield 84, 3) := by decide +kernel
theorem dX12_remember_22 : decode cX12_remember 22 = .ok (.iload_n 1, 1) := by decide +kernel
theorem dX12_remember_23 : decode cX12_remember 23 = .ok (.aload_n 0, 1) := by decide +kernel
theorem dX12_remember_24 : decode cX12_remember 24 = .ok (.getfield 84, 3) := by decide +kernel
theorem dX12_remember_27 : decode cX12_remember 27 = .ok (.iload_n 1, 1) := by decide +kernel
theorem dX12_remember_28 : decode cX12_remember 28 = .ok (.sipush 212, 3) := by decide +kernel
theorem dX12_remember_31 : decode cX12_remember 31 = .ok (.iadd, 1) := by decide +kernel
theorem dX12_remember_32 : decode cX12_remember 32 = .ok (.iaload, 1) := by decide +kernel
theorem dX12_remember_33 : decode cX12_remember 33 = .ok (.iastore, 1) := by decide +kernel
theorem dX12_remember_34 : decode cX12_remember 34 = .ok (.iinc 1 1, 3) := by decide +kernel
theorem dX12_remember_37 : decode cX12_remember 37 = .ok (.goto (-26), 3) := by decide +kernel
theorem dX12_remember_40 : decode cX12_remember 40 = .ok (.aload_n 0, 1) := by decide +kernel
theorem dX12_remember_41 : decode cX12_remember 41 = .ok (.dup, 1) := by decide +kernel
theorem dX12_remember_42 : decode cX12_remember 42 = .ok (.getfield 303, 3) := by decide +kernel
theorem dX12_remember_45 : decode cX12_remember 45 = .ok (.iconst 1, 1) := by decide +kernel
theorem dX12_remember_46 : decode cX12_remember 46 = .ok (.isub, 1) := by decide +kernel
theorem dX12_remember_47 : decode cX12_remember 47 = .ok (.putfield 303, 3) := by decide +kernel
theorem dX12_remember_50 : decode cX12_remember 50 = .ok (.iconst 0, 1) := by decide +kernel
theorem dX12_remember_51 : decode cX12_remember 51 = .ok (.istore_n 1, 1) := by decide +kernel
theorem dX12_remember_52 : decode cX12_remember 52 = .ok (.iload_n 1, 1) := by decide +kernel
theorem dX12_remember_53 : decode cX12_remember 53 = .ok (.sipush 212, 3) := by decide +kernel
theorem dX12_remember_56 : decode cX12_remember 56 = .ok (.if_icmp .ge 30, 3) := by decide +kernel
theorem dX12_remember_59 : decode cX12_remember 59 = .ok (.aload_n 0, 1) := by decide +kernel
theorem dX12_remember_60 : decode cX12_remember 60 = .ok (.getfield 84, 3) := by decide +kernel
theorem dX12_remember_63 : decode cX12_remember 63 = .ok (.sipush 212, 3) := by decide +kernel
theorem dX12_remember_66 : decode cX12_remember 66 = .ok (.aload_n 0, 1) := by decide +kernel
theorem dX12_remember_67 : decode cX12_remember 67 = .ok (.getfield 303, 3) := by decide +kernel
theorem dX12_remember_70 : decode cX12_remember 70 = .ok (.imul, 1) := by decide +kernel
theorem dX12_remember_71 : decode cX12_remember 71 = .ok (.iload_n 1, 1) := by decide +kernel
theorem dX12_remember_72 : decode cX12_remember 72 = .ok (.iadd, 1) := by decide +kernel
theorem dX12_remember_73 : decode cX12_remember 73 = .ok (.aload_n 0, 1) := by decide +kernel
theorem dX12_remember_74 : decode cX12_remember 74 = .ok (.getfield 61, 3) := by decide +kernel
theorem dX12_remember_77 : decode cX12_remember 77 = .ok (.iload_n 1, 1) := by decide +kernel
theorem dX12_remember_78 : decode cX12_remember 78 = .ok (.iaload, 1) := by decide +kernel
theorem dX12_remember_79 : decode cX12_remember 79 = .ok (.iastore, 1) := by decide +kernel
theorem dX12_remember_80 : decode cX12_remember 80 = .ok (.iinc 1 1, 3) := by decide +kernel
theorem dX12_remember_83 : decode cX12_remember 83 = .ok (.goto (-31), 3) := by decide +kernel
theorem dX12_remember_86 : decode cX12_remember 86 = .ok (.aload_n 0, 1) := by decide +kernel
theorem dX12_remember_87 : decode cX12_remember 87 = .ok (.dup, 1) := by decide +kernel
theorem dX12_remember_88 : decode cX12_remember 88 = .ok (.getfield 303, 3) := by decide +kernel
theorem dX12_remember_91 : decode cX12_remember 91 = .ok (.iconst 1, 1) := by decide +kernel
theorem dX12_remember_92 : decode cX12_remember 92 = .ok (.iadd, 1) := by decide +kernel
theorem dX12_remember_93 : decode cX12_remember 93 = .ok (.putfield 303, 3) := by decide +kernel
theorem dX12_remember_96 : decode cX12_remember 96 = .ok (.return_, 1) := by decide +kernel
theorem lk_TrapCornerModel_303 : LK "TrapCornerModel" 303 [12] 43 := by
  intro ci hci
  have hci := List.mem_singleton.mp hci
  subst hci
  exact ⟨RX12, TX12, 50, "TrapCornerModel", ck_12, by decide, tw_1330, Or.inl rfl⟩
theorem lp_TrapCornerModel_303 : LKP "TrapCornerModel" 303 [12] 43 (.int) := by
  intro ci hci
  have hci := List.mem_singleton.mp hci
  subst hci
  exact ⟨RX12, TX12, 50, "TrapCornerModel", ck_12, by decide, tw_1330, Or.inl rfl, rfl, by decide +kernel⟩
theorem lk_TrapCornerModel_84 : LK "TrapCornerModel" 84 [12] 42 := by
  intro ci hci
  have hci := List.mem_singleton.mp hci
  subst hci
  exact ⟨RX12, TX12, 50, "TrapCornerModel", ck_12, by decide, tw_1329, Or.inl rfl⟩
section
variable {g : GG} {p : Program} {l : Launch} {e : Env} {R : Room} {s : State} {m : MethodId} {args : Array Value} {below : List Frame} {meth : Method} {c : Code} {n0 z0 : Nat}
def f_X12_remember_52  : Nat → Nat → Int32 → AH → Option (Unit × AH)
  | 0, _, _, _ => none
  | n + 1, o0, x1, h =>
  if 212 ≤ x1 then
    (gI [12] h o0 43).bind fun v2 =>
    (pV [12] h o0 43 (.int (v2 + 1))).bind fun h4 =>
    some ((), h4)
  else
    (gR [12] h o0 42).bind fun v6 =>
    (gI [12] h o0 43).bind fun v8 =>
    (gR [12] h o0 32).bind fun v10 =>
    (aI 0 h v10 x1).bind fun v12 =>
    (uI 0 h v6 ((212 * v8) + x1) v12).bind fun h14 =>
    f_X12_remember_52  n o0 (x1 + 1) h14
set_option maxHeartbeats 1000000 in
theorem w_X12_remember_52 (X : Cx g p s m args meth c cX12_remember 2 "TrapCornerModel") (hR : 1 ≤ R.frames ∧ 64 ≤ R.locals) (hr : meth.sig.returnType = none) {res : Unit × AH} : ∀ (n : Nat) (o0 : Nat) (x1 : Int32) (h : AH) (ls : Array Slot) (H : Heap) (locs : List Loc), f_X12_remember_52 n o0 x1 h = some res → Iv g s n0 z0 h H locs 0 0 → lv_has ls 2 [(0, .ref (rfG g o0)), (1, .int x1)] → W p l e R s m args below meth c H locs 0 0 (MQ below (QG g none res.2) args s 0 0 (AG g)) (F0 m 52 ls []) := by
  have hx := X.1
  have hb := X.2.1
  intro n
  induction n with
  | zero =>
    intro o0 x1 h ls H locs hf
    rw [f_X12_remember_52.eq_1] at hf
    cases hf
  | succ n ih =>
    intro o0 x1 h ls H locs hf I hl
    rw [f_X12_remember_52.eq_2] at hf
    refine lv_iload_n hx hb dX12_remember_52 rfl (lv_at hl 1 rfl) ?_
    refine lv_sipush (v := 212) hx hb dX12_remember_53 (by decide) ?_
    refine lv_icmp_ge (tgt := 86) hx hb dX12_remember_56 (by decide) (fun c1 => ?_) (fun c1 => ?_)
    · rw [if_pos c1] at hf
      refine lv_aload_n hx hb dX12_remember_86 rfl (lv_at hl 0 rfl) ?_
      refine lv_dup hx hb dX12_remember_87 rfl ?_
      obtain ⟨v2, e3, hf⟩ := Option.bind_eq_some_iff.mp hf
      refine r_gI X I e3 lk_TrapCornerModel_303 dX12_remember_88 ?_
      refine lv_iconst (v := 1) hx hb dX12_remember_91 (by decide) ?_
      refine lv_iadd hx hb dX12_remember_92 ?_
      obtain ⟨h4, e5, hf⟩ := Option.bind_eq_some_iff.mp hf
      refine r_pI X I e5 lp_TrapCornerModel_303 dX12_remember_93 (fun H locs I => ?_)
      cases hf
      exact k_rv X I hr dX12_remember_96
    · rw [if_neg c1] at hf
      refine lv_aload_n hx hb dX12_remember_59 rfl (lv_at hl 0 rfl) ?_
      obtain ⟨v6, e7, hf⟩ := Option.bind_eq_some_iff.mp hf
      refine r_gR X I e7 lk_TrapCornerModel_84 dX12_remember_60 ?_
      refine lv_sipush (v := 212) hx hb dX12_remember_63 (by decide) ?_
      refine lv_aload_n hx hb dX12_remember_66 rfl (lv_at hl 0 rfl) ?_
      obtain ⟨v8, e9, hf⟩ := Option.bind_eq_some_iff.mp hf
      refine r_gI X I e9 lk_TrapCornerModel_303 dX12_remember_67 ?_
      refine lv_imul hx hb dX12_remember_70 ?_
      refine lv_iload_n hx hb dX12_remember_71 rfl (lv_at hl 1 rfl) ?_
      refine lv_iadd hx hb dX12_remember_72 ?_
      refine lv_aload_n hx hb dX12_remember_73 rfl (lv_at hl 0 rfl) ?_
      obtain ⟨v10, e11, hf⟩ := Option.bind_eq_some_iff.mp hf
      refine r_gR X I e11 lk_TrapCornerModel_61 dX12_remember_74 ?_
      refine lv_iload_n hx hb dX12_remember_77 rfl (lv_at hl 1 rfl) ?_
      obtain ⟨v12, e13, hf⟩ := Option.bind_eq_some_iff.mp hf
      refine r_aI0 X I e13 dX12_remember_78 ?_
      obtain ⟨h14, e15, hf⟩ := Option.bind_eq_some_iff.mp hf
      refine r_uI0 X I e15 dX12_remember_79 (fun H locs I => ?_)
      refine lv_iinc (v := x1 + 1) (lv' := [(1, .int (x1 + 1)), (0, .ref (rfG g o0))]) hx hb dX12_remember_80 hl (k := 1) rfl rfl (by decide) rfl (fun ls hl => ?_)
      refine lv_goto (tgt := 52) hx hb dX12_remember_83 (by decide) ?_
      exact ih o0 (x1 + 1) h14 ls H locs hf I (lv_sub hl [1, 0] rfl)
def f_X12_remember_50  (o0 : Nat) (h : AH) : Option (Unit × AH) :=
  f_X12_remember_52 fu o0 0 h
set_option maxHeartbeats 1000000 in
theorem w_X12_remember_50 (X : Cx g p s m args meth c cX12_remember 2 "TrapCornerModel") (hR : 1 ≤ R.frames ∧ 64 ≤ R.locals) (hr : meth.sig.returnType = none) {res : Unit × AH} : ∀ (o0 : Nat) (h : AH) (ls : Array Slot) (H : Heap) (locs : List Loc), f_X12_remember_50 o0 h = some res → Iv g s n0 z0 h H locs 0 0 → lv_has ls 2 [(0, .ref (rfG g o0))] → W p l e R s m args below meth c H locs 0 0 (MQ below (QG g none res.2) args s 0 0 (AG g)) (F0 m 50 ls []) := by
  have hx := X.1
  have hb := X.2.1
  intro o0 h ls H locs hf I hl
  unfold f_X12_remember_50 at hf
  refine lv_iconst (v := 0) hx hb dX12_remember_50 (by decide) ?_
  refine lv_istore_n (lv' := [(1, .int 0), (0, .ref (rfG g o0))]) hx hb dX12_remember_51 rfl hl (by decide) rfl (fun ls hl => ?_)
  exact w_X12_remember_52 X hR hr fu o0 0 h ls H locs hf I (lv_sub hl [1, 0] rfl)
def f_X12_remember_11  : Nat → Nat → Int32 → AH → Option (Unit × AH)
  | 0, _, _, _ => none
  | n + 1, o0, x1, h =>
  if 8268 ≤ x1 then
    (gI [12] h o0 43).bind fun v2 =>
    (pV [12] h o0 43 (.int (v2 - 1))).bind fun h4 =>
    f_X12_remember_50 o0 h4
  else
    (gR [12] h o0 42).bind fun v6 =>
    (gR [12] h o0 42).bind fun v8 =>
    (aI 0 h v8 (x1 + 212)).bind fun v10 =>
    (uI 0 h v6 x1 v10).bind fun h12 =>
    f_X12_remember_11  n o0 (x1 + 1) h12
set_option maxHeartbeats 1000000 in
theorem w_X12_remember_11 (X : Cx g p s m args meth c cX12_remember 2 "TrapCornerModel") (hR : 1 ≤ R.frames ∧ 64 ≤ R.locals) (hr : meth.sig.returnType = none) {res : Unit × AH} : ∀ (n : Nat) (o0 : Nat) (x1 : Int32) (h : AH) (ls : Array Slot) (H : Heap) (locs : List Loc), f_X12_remember_11 n o0 x1 h = some res → Iv g s n0 z0 h H locs 0 0 → lv_has ls 2 [(0, .ref (rfG g o0)), (1, .int x1)] → W p l e R s m args below meth c H locs 0 0 (MQ below (QG g none res.2) args s 0 0 (AG g)) (F0 m 11 ls []) := by
  have hx := X.1
  have hb := X.2.1
  intro n
  induction n with
  | zero =>
    intro o0 x1 h ls H locs hf
    rw [f_X12_remember_11.eq_1] at hf
    cases hf
  | succ n ih =>
    intro o0 x1 h ls H locs hf I hl
    rw [f_X12_remember_11.eq_2] at hf
    refine lv_iload_n hx hb dX12_remember_11 rfl (lv_at hl 1 rfl) ?_
    refine lv_sipush (v := 8268) hx hb dX12_remember_12 (by decide) ?_
    refine lv_icmp_ge (tgt := 40) hx hb dX12_remember_15 (by decide) (fun c1 => ?_) (fun c1 => ?_)
    · rw [if_pos c1] at hf
      refine lv_aload_n hx hb dX12_remember_40 rfl (lv_at hl 0 rfl) ?_
      refine lv_dup hx hb dX12_remember_41 rfl ?_
      obtain ⟨v2, e3, hf⟩ := Option.bind_eq_some_iff.mp hf
      refine r_gI X I e3 lk_TrapCornerModel_303 dX12_remember_42 ?_
      refine lv_iconst (v := 1) hx hb dX12_remember_45 (by decide) ?_
      refine lv_isub hx hb dX12_remember_46 ?_
      obtain ⟨h4, e5, hf⟩ := Option.bind_eq_some_iff.mp hf
      refine r_pI X I e5 lp_TrapCornerModel_303 dX12_remember_47 (fun H locs I => ?_)
      exact w_X12_remember_50 X hR hr  o0 h4 ls H locs hf I (lv_sub hl [0] rfl)
    · rw [if_neg c1] at hf
      refine lv_aload_n hx hb dX12_remember_18 rfl (lv_at hl 0 rfl) ?_
      obtain ⟨v6, e7, hf⟩ := Option.bind_eq_some_iff.mp hf
      refine r_gR X I e7 lk_TrapCornerModel_84 dX12_remember_19 ?_
      refine lv_iload_n hx hb dX12_remember_22 rfl (lv_at hl 1 rfl) ?_
      refine lv_aload_n hx hb dX12_remember_23 rfl (lv_at hl 0 rfl) ?_
      obtain ⟨v8, e9, hf⟩ := Option.bind_eq_some_iff.mp hf
      refine r_gR X I e9 lk_TrapCornerModel_84 dX12_remember_24 ?_
      refine lv_iload_n hx hb dX12_remember_27 rfl (lv_at hl 1 rfl) ?_
      refine lv_sipush (v := 212) hx hb dX12_remember_28 (by decide) ?_
      refine lv_iadd hx hb dX12_remember_31 ?_
      obtain ⟨v10, e11, hf⟩ := Option.bind_eq_some_iff.mp hf
      refine r_aI0 X I e11 dX12_remember_32 ?_
      obtain ⟨h12, e13, hf⟩ := Option.bind_eq_some_iff.mp hf
      refine r_uI0 X I e13 dX12_remember_33 (fun H locs I => ?_)
      refine lv_iinc (v := x1 + 1) (lv' := [(1, .int (x1 + 1)), (0, .ref (rfG g o0))]) hx hb dX12_remember_34 hl (k := 1) rfl rfl (by decide) rfl (fun ls hl => ?_)
      refine lv_goto (tgt := 11) hx hb dX12_remember_37 (by decide) ?_
      exact ih o0 (x1 + 1) h12 ls H locs hf I (lv_sub hl [1, 0] rfl)
def f_X12_remember_0  (o0 : Nat) (h : AH) : Option (Unit × AH) :=
  (gI [12] h o0 43).bind fun v1 =>
  if v1 = 40 then
    f_X12_remember_11 fu o0 0 h
  else
    f_X12_remember_50 o0 h
set_option maxHeartbeats 1000000 in
theorem w_X12_remember_0 (X : Cx g p s m args meth c cX12_remember 2 "TrapCornerModel") (hR : 1 ≤ R.frames ∧ 64 ≤ R.locals) (hr : meth.sig.returnType = none) {res : Unit × AH} : ∀ (o0 : Nat) (h : AH) (ls : Array Slot) (H : Heap) (locs : List Loc), f_X12_remember_0 o0 h = some res → Iv g s n0 z0 h H locs 0 0 → lv_has ls 2 [(0, .ref (rfG g o0))] → W p l e R s m args below meth c H locs 0 0 (MQ below (QG g none res.2) args s 0 0 (AG g)) (F0 m 0 ls []) := by
  have hx := X.1
  have hb := X.2.1
  intro o0 h ls H locs hf I hl
  unfold f_X12_remember_0 at hf
  refine lv_aload_n hx hb dX12_remember_0 rfl (lv_at hl 0 rfl) ?_
  obtain ⟨v1, e2, hf⟩ := Option.bind_eq_some_iff.mp hf
  refine r_gI X I e2 lk_TrapCornerModel_303 dX12_remember_1 ?_
  refine lv_bipush (v := 40) hx hb dX12_remember_4 (by decide) ?_
  refine lv_icmp_ne (tgt := 50) hx hb dX12_remember_6 (by decide) (fun c3 => ?_) (fun c3 => ?_)
  · rw [if_neg c3] at hf
    exact w_X12_remember_50 X hR hr  o0 h ls H locs hf I (lv_sub hl [0] rfl)
  · rw [if_pos c3] at hf
    refine lv_iconst (v := 0) hx hb dX12_remember_9 (by decide) ?_
    refine lv_istore_n (lv' := [(1, .int 0), (0, .ref (rfG g o0))]) hx hb dX12_remember_10 rfl hl (by decide) rfl (fun ls hl => ?_)
    exact w_X12_remember_11 X hR hr fu o0 0 h ls H locs hf I (lv_sub hl [1, 0] rfl)
def f_X12_remember (o0 : Nat) (h : AH) : Option (Unit × AH) := f_X12_remember_0 o0 h
end
theorem c_X12_remember (l : Launch) (g : GG) (o0 : Nat) {h : AH} {res : Unit × AH} (hf : f_X12_remember o0 h = some res) : CM l g yX12_remember cX12_remember 2 none 1 64 0 0 [.ref (rfG g o0)] h none res.2 :=
  k_body (by decide) (Nat.le_of_ble_eq_true rfl) (fun p e s m below meth c R ls hR hr X I hl => w_X12_remember_0 X ⟨Nat.le_of_eq hR.1.symm, Nat.le_of_eq hR.2.1.symm⟩ hr o0 h ls s.heap [] hf I (lv_sub hl [0] rfl))
/-! TrapCornerModel.canLay([III)Z -/
theorem dX12_canLay_0 : decode cX12_canLay 0 = .ok (.aload_n 0, 1) := by decide +kernel
theorem dX12_canLay_1 : decode cX12_canLay 1 = .ok (.iload_n 2, 1) := by decide +kernel
theorem dX12_canLay_2 : decode cX12_canLay 2 = .ok (.invokevirtual 380, 3) := by decide +kernel
theorem dX12_canLay_5 : decode cX12_canLay 5 = .ok (.ifCond .eq 42, 3) := by decide +kernel
theorem dX12_canLay_8 : decode cX12_canLay 8 = .ok (.iload_n 3, 1) := by decide +kernel
theorem dX12_canLay_9 : decode cX12_canLay 9 = .ok (.i2l, 1) := by decide +kernel
theorem dX12_canLay_10 : decode cX12_canLay 10 = .ok (.lconst 0, 1) := by decide +kernel
theorem dX12_canLay_11 : decode cX12_canLay 11 = .ok (.ldc2_w 398, 3) := by decide +kernel
theorem dX12_canLay_14 : decode cX12_canLay 14 = .ok (.invokestatic 217, 3) := by decide +kernel
theorem dX12_canLay_17 : decode cX12_canLay 17 = .ok (.ifCond .eq 30, 3) := by decide +kernel
theorem dX12_canLay_20 : decode cX12_canLay 20 = .ok (.aload_n 1, 1) := by decide +kernel
theorem dX12_canLay_21 : decode cX12_canLay 21 = .ok (.iconst 2, 1) := by decide +kernel
theorem dX12_canLay_22 : decode cX12_canLay 22 = .ok (.iload_n 2, 1) := by decide +kernel
theorem dX12_canLay_23 : decode cX12_canLay 23 = .ok (.imul, 1) := by decide +kernel
theorem dX12_canLay_24 : decode cX12_canLay 24 = .ok (.iconst 0, 1) := by decide +kernel
theorem dX12_canLay_25 : decode cX12_canLay 25 = .ok (.iadd, 1) := by decide +kernel
theorem dX12_canLay_26 : decode cX12_canLay 26 = .ok (.iaload, 1) := by decide +kernel
theorem dX12_canLay_27 : decode cX12_canLay 27 = .ok (.iload_n 3, 1) := by decide +kernel
theorem dX12_canLay_28 : decode cX12_canLay 28 = .ok (.if_icmp .eq 19, 3) := by decide +kernel
theorem dX12_canLay_31 : decode cX12_canLay 31 = .ok (.iload_n 3, 1) := by decide +kernel
theorem dX12_canLay_32 : decode cX12_canLay 32 = .ok (.ifCond .eq 11, 3) := by decide +kernel
theorem dX12_canLay_35 : decode cX12_canLay 35 = .ok (.aload_n 1, 1) := by decide +kernel
theorem dX12_canLay_36 : decode cX12_canLay 36 = .ok (.bipush 29, 2) := by decide +kernel
theorem dX12_canLay_38 : decode cX12_canLay 38 = .ok (.iaload, 1) := by decide +kernel
theorem dX12_canLay_39 : decode cX12_canLay 39 = .ok (.iconst 2, 1) := by decide +kernel
theorem dX12_canLay_40 : decode cX12_canLay 40 = .ok (.if_icmp .lt 7, 3) := by decide +kernel
theorem dX12_canLay_43 : decode cX12_canLay 43 = .ok (.iconst 1, 1) := by decide +kernel
theorem dX12_canLay_44 : decode cX12_canLay 44 = .ok (.goto 4, 3) := by decide +kernel
theorem dX12_canLay_47 : decode cX12_canLay 47 = .ok (.iconst 0, 1) := by decide +kernel
theorem dX12_canLay_48 : decode cX12_canLay 48 = .ok (.ireturn, 1) := by decide +kernel
section
variable {g : GG} {p : Program} {l : Launch} {e : Env} {R : Room} {s : State} {m : MethodId} {args : Array Value} {below : List Frame} {meth : Method} {c : Code} {n0 z0 : Nat}
def f_X12_canLay_43  (h : AH) : Option (Int32 × AH) :=
  some (1, h)
set_option maxHeartbeats 1000000 in
theorem w_X12_canLay_43 (X : Cx g p s m args meth c cX12_canLay 4 "TrapCornerModel") (hR : 2 ≤ R.frames ∧ 128 ≤ R.locals) (hr : meth.sig.returnType = (some (.boolean))) {res : Int32 × AH} : ∀ (h : AH) (ls : Array Slot) (H : Heap) (locs : List Loc), f_X12_canLay_43  h = some res → Iv g s n0 z0 h H locs 0 0 → lv_has ls 4 [] → W p l e R s m args below meth c H locs 0 0 (MQ below (QG g (some (.int res.1)) res.2) args s 0 0 (AG g)) (F0 m 43 ls []) := by
  have hx := X.1
  have hb := X.2.1
  intro  h ls H locs hf I hl
  unfold f_X12_canLay_43 at hf
  refine lv_iconst (v := 1) hx hb dX12_canLay_43 (by decide) ?_
  refine lv_goto (tgt := 48) hx hb dX12_canLay_44 (by decide) ?_
  cases hf
  exact k_rz X I hr (Or.inr rfl) dX12_canLay_48
def f_X12_canLay_0  (o0 : Nat) (o1 : Nat) (x2 : Int32) (x3 : Int32) (h : AH) : Option (Int32 × AH) :=
  (isC [12] h o0).bind fun _ =>
  cN (f_X12_isCorner o0 x2 h) h fun v1 h2 =>
  if v1 = 0 then
    some (0, h2)
  else
    cN (f_X12_isIn (x3.toInt64) 0 3 h2) h2 fun v7 h8 =>
    if v7 = 0 then
      some (0, h8)
    else
      (aI 0 h8 o1 ((2 * x2) + 0)).bind fun v12 =>
      if v12 = x3 then
        some (0, h8)
      else
        if x3 = 0 then
          f_X12_canLay_43 h8
        else
          (aI 0 h8 o1 29).bind fun v16 =>
          if v16 < 2 then
            some (0, h8)
          else
            f_X12_canLay_43 h8
set_option maxHeartbeats 1000000 in
theorem w_X12_canLay_0 (X : Cx g p s m args meth c cX12_canLay 4 "TrapCornerModel") (hR : 2 ≤ R.frames ∧ 128 ≤ R.locals) (hr : meth.sig.returnType = (some (.boolean))) {res : Int32 × AH} : ∀ (o0 : Nat) (o1 : Nat) (x2 : Int32) (x3 : Int32) (h : AH) (ls : Array Slot) (H : Heap) (locs : List Loc), f_X12_canLay_0 o0 o1 x2 x3 h = some res → Iv g s n0 z0 h H locs 0 0 → lv_has ls 4 [(0, .ref (rfG g o0)), (1, .ref (rfG g o1)), (2, .int x2), (3, .int x3)] → W p l e R s m args below meth c H locs 0 0 (MQ below (QG g (some (.int res.1)) res.2) args s 0 0 (AG g)) (F0 m 0 ls []) := by
  have hx := X.1
  have hb := X.2.1
  intro o0 o1 x2 x3 h ls H locs hf I hl
  unfold f_X12_canLay_0 at hf
  refine lv_aload_n hx hb dX12_canLay_0 rfl (lv_at hl 0 rfl) ?_
  refine lv_iload_n hx hb dX12_canLay_1 rfl (lv_at hl 2 rfl) ?_
  obtain ⟨_, g5, hf⟩ := Option.bind_eq_some_iff.mp hf
  obtain ⟨v1, h2, e3, z4, hf⟩ := cN_spec hf
  refine k_Vi (As := [.int x2]) (rest := []) X I (c_X12_isCorner l g o0 x2 e3) z4 g5 vk_TrapCornerModel_380 tw_1635 ⟨Nat.le_trans (by decide) hR.1, Nat.le_trans (by decide) hR.2⟩ ⟨Nat.zero_le _, Nat.zero_le _⟩ rfl hl.1 rfl (Nat.le_of_ble_eq_true rfl) dX12_canLay_2 (fun H locs I => ?_)
  refine lv_if_eq (tgt := 47) hx hb dX12_canLay_5 (by decide) (fun c6 => ?_) (fun c6 => ?_)
  · rw [if_pos c6] at hf
    refine lv_iconst (v := 0) hx hb dX12_canLay_47 (by decide) ?_
    cases hf
    exact k_rz X I hr (Or.inl rfl) dX12_canLay_48
  · rw [if_neg c6] at hf
    refine lv_iload_n hx hb dX12_canLay_8 rfl (lv_at hl 3 rfl) ?_
    refine lv_i2l hx hb dX12_canLay_9 rfl ?_
    refine lv_lconst (v := 0) hx hb dX12_canLay_10 (by decide) ?_
    refine lv_ldc2 (v := 3) hx hb X.2.2.2.1 (X.2.2.2.2.1 _ tw_1728) dX12_canLay_11 ?_
    obtain ⟨v7, h8, e9, z10, hf⟩ := cN_spec hf
    refine k_Si (As := [.long (x3.toInt64), .long 0, .long 3]) (rest := []) X I (c_X12_isIn l g (x3.toInt64) 0 3 e9) z10 sk_TrapCornerModel_217 tw_1465 ⟨Nat.le_trans (by decide) hR.1, Nat.le_trans (by decide) hR.2⟩ ⟨Nat.zero_le _, Nat.zero_le _⟩ rfl hl.1 rfl (Nat.le_of_ble_eq_true rfl) dX12_canLay_14 (fun H locs I => ?_)
    refine lv_if_eq (tgt := 47) hx hb dX12_canLay_17 (by decide) (fun c11 => ?_) (fun c11 => ?_)
    · rw [if_pos c11] at hf
      refine lv_iconst (v := 0) hx hb dX12_canLay_47 (by decide) ?_
      cases hf
      exact k_rz X I hr (Or.inl rfl) dX12_canLay_48
    · rw [if_neg c11] at hf
      refine lv_aload_n hx hb dX12_canLay_20 rfl (lv_at hl 1 rfl) ?_
      refine lv_iconst (v := 2) hx hb dX12_canLay_21 (by decide) ?_
      refine lv_iload_n hx hb dX12_canLay_22 rfl (lv_at hl 2 rfl) ?_
      refine lv_imul hx hb dX12_canLay_23 ?_
      refine lv_iconst (v := 0) hx hb dX12_canLay_24 (by decide) ?_
      refine lv_iadd hx hb dX12_canLay_25 ?_
      obtain ⟨v12, e13, hf⟩ := Option.bind_eq_some_iff.mp hf
      refine r_aI0 X I e13 dX12_canLay_26 ?_
      refine lv_iload_n hx hb dX12_canLay_27 rfl (lv_at hl 3 rfl) ?_
      refine lv_icmp_eq (tgt := 47) hx hb dX12_canLay_28 (by decide) (fun c14 => ?_) (fun c14 => ?_)
      · rw [if_pos c14] at hf
        refine lv_iconst (v := 0) hx hb dX12_canLay_47 (by decide) ?_
        cases hf
        exact k_rz X I hr (Or.inl rfl) dX12_canLay_48
      · rw [if_neg c14] at hf
        refine lv_iload_n hx hb dX12_canLay_31 rfl (lv_at hl 3 rfl) ?_
        refine lv_if_eq (tgt := 43) hx hb dX12_canLay_32 (by decide) (fun c15 => ?_) (fun c15 => ?_)
        · rw [if_pos c15] at hf
          exact w_X12_canLay_43 X hR hr  h8 ls H locs hf I (lv_sub hl [] rfl)
        · rw [if_neg c15] at hf
          refine lv_aload_n hx hb dX12_canLay_35 rfl (lv_at hl 1 rfl) ?_
          refine lv_bipush (v := 29) hx hb dX12_canLay_36 (by decide) ?_
          obtain ⟨v16, e17, hf⟩ := Option.bind_eq_some_iff.mp hf
          refine r_aI0 X I e17 dX12_canLay_38 ?_
          refine lv_iconst (v := 2) hx hb dX12_canLay_39 (by decide) ?_
          refine lv_icmp_lt (tgt := 47) hx hb dX12_canLay_40 (by decide) (fun c18 => ?_) (fun c18 => ?_)
          · rw [if_pos c18] at hf
            refine lv_iconst (v := 0) hx hb dX12_canLay_47 (by decide) ?_
            cases hf
            exact k_rz X I hr (Or.inl rfl) dX12_canLay_48
          · rw [if_neg c18] at hf
            exact w_X12_canLay_43 X hR hr  h8 ls H locs hf I (lv_sub hl [] rfl)
def f_X12_canLay (o0 : Nat) (o1 : Nat) (x2 : Int32) (x3 : Int32) (h : AH) : Option (Int32 × AH) := f_X12_canLay_0 o0 o1 x2 x3 h
end
theorem c_X12_canLay (l : Launch) (g : GG) (o0 : Nat) (o1 : Nat) (x2 : Int32) (x3 : Int32) {h : AH} {res : Int32 × AH} (hf : f_X12_canLay o0 o1 x2 x3 h = some res) : CM l g yX12_canLay cX12_canLay 4 (some (.boolean)) 2 128 0 0 [.ref (rfG g o0), .ref (rfG g o1), .int x2, .int x3] h (some (.int res.1)) res.2 :=
  k_body (by decide) (Nat.le_of_ble_eq_true rfl) (fun p e s m below meth c R ls hR hr X I hl => w_X12_canLay_0 X ⟨Nat.le_of_eq hR.1.symm, Nat.le_of_eq hR.2.1.symm⟩ hr o0 o1 x2 x3 h ls s.heap [] hf I (lv_sub hl [0, 1, 2, 3] rfl))
/-! TrapCornerModel.lays([III)V -/
theorem dX12_lays_0 : decode cX12_lays 0 = .ok (.aload_n 0, 1) := by decide +kernel
theorem dX12_lays_1 : decode cX12_lays 1 = .ok (.iconst 2, 1) := by decide +kernel
theorem dX12_lays_2 : decode cX12_lays 2 = .ok (.iload_n 1, 1) := by decide +kernel
theorem dX12_lays_3 : decode cX12_lays 3 = .ok (.imul, 1) := by decide +kernel
theorem dX12_lays_4 : decode cX12_lays 4 = .ok (.iconst 0, 1) := by decide +kernel
theorem dX12_lays_5 : decode cX12_lays 5 = .ok (.iadd, 1) := by decide +kernel
theorem dX12_lays_6 : decode cX12_lays 6 = .ok (.iload_n 2, 1) := by decide +kernel
theorem dX12_lays_7 : decode cX12_lays 7 = .ok (.iastore, 1) := by decide +kernel
theorem dX12_lays_8 : decode cX12_lays 8 = .ok (.iload_n 2, 1) := by decide +kernel
theorem dX12_lays_9 : decode cX12_lays 9 = .ok (.ifCond .le 11, 3) := by decide +kernel
theorem dX12_lays_12 : decode cX12_lays 12 = .ok (.aload_n 0, 1) := by decide +kernel
theorem dX12_lays_13 : decode cX12_lays 13 = .ok (.bipush 29, 2) := by decide +kernel
theorem dX12_lays_15 : decode cX12_lays 15 = .ok (.dup2, 1) := by decide +kernel
theorem dX12_lays_16 : decode cX12_lays 16 = .ok (.iaload, 1) := by decide +kernel
theorem dX12_lays_17 : decode cX12_lays 17 = .ok (.iconst 2, 1) := by decide +kernel
theorem dX12_lays_18 : decode cX12_lays 18 = .ok (.isub, 1) := by decide +kernel
theorem dX12_lays_19 : decode cX12_lays 19 = .ok (.iastore, 1) := by decide +kernel
theorem dX12_lays_20 : decode cX12_lays 20 = .ok (.return_, 1) := by decide +kernel
section
variable {g : GG} {p : Program} {l : Launch} {e : Env} {R : Room} {s : State} {m : MethodId} {args : Array Value} {below : List Frame} {meth : Method} {c : Code} {n0 z0 : Nat}
def f_X12_lays_0  (o0 : Nat) (x1 : Int32) (x2 : Int32) (h : AH) : Option (Unit × AH) :=
  (uI 0 h o0 ((2 * x1) + 0) x2).bind fun h1 =>
  if x2 ≤ 0 then
    some ((), h1)
  else
    (aI 0 h1 o0 29).bind fun v4 =>
    (uI 0 h1 o0 29 (v4 - 2)).bind fun h6 =>
    some ((), h6)
set_option maxHeartbeats 1000000 in
theorem w_X12_lays_0 (X : Cx g p s m args meth c cX12_lays 3 "TrapCornerModel") (hR : 1 ≤ R.frames ∧ 64 ≤ R.locals) (hr : meth.sig.returnType = none) {res : Unit × AH} : ∀ (o0 : Nat) (x1 : Int32) (x2 : Int32) (h : AH) (ls : Array Slot) (H : Heap) (locs : List Loc), f_X12_lays_0 o0 x1 x2 h = some res → Iv g s n0 z0 h H locs 0 0 → lv_has ls 3 [(0, .ref (rfG g o0)), (1, .int x1), (2, .int x2)] → W p l e R s m args below meth c H locs 0 0 (MQ below (QG g none res.2) args s 0 0 (AG g)) (F0 m 0 ls []) := by
  have hx := X.1
  have hb := X.2.1
  intro o0 x1 x2 h ls H locs hf I hl
  unfold f_X12_lays_0 at hf
  refine lv_aload_n hx hb dX12_lays_0 rfl (lv_at hl 0 rfl) ?_
  refine lv_iconst (v := 2) hx hb dX12_lays_1 (by decide) ?_
  refine lv_iload_n hx hb dX12_lays_2 rfl (lv_at hl 1 rfl) ?_
  refine lv_imul hx hb dX12_lays_3 ?_
  refine lv_iconst (v := 0) hx hb dX12_lays_4 (by decide) ?_
  refine lv_iadd hx hb dX12_lays_5 ?_
  refine lv_iload_n hx hb dX12_lays_6 rfl (lv_at hl 2 rfl) ?_
  obtain ⟨h1, e2, hf⟩ := Option.bind_eq_some_iff.mp hf
  refine r_uI0 X I e2 dX12_lays_7 (fun H locs I => ?_)
  refine lv_iload_n hx hb dX12_lays_8 rfl (lv_at hl 2 rfl) ?_
  refine lv_if_le (tgt := 20) hx hb dX12_lays_9 (by decide) (fun c3 => ?_) (fun c3 => ?_)
  · rw [if_pos c3] at hf
    cases hf
    exact k_rv X I hr dX12_lays_20
  · rw [if_neg c3] at hf
    refine lv_aload_n hx hb dX12_lays_12 rfl (lv_at hl 0 rfl) ?_
    refine lv_bipush (v := 29) hx hb dX12_lays_13 (by decide) ?_
    refine lv_dup2_11 hx hb dX12_lays_15 rfl rfl ?_
    obtain ⟨v4, e5, hf⟩ := Option.bind_eq_some_iff.mp hf
    refine r_aI0 X I e5 dX12_lays_16 ?_
    refine lv_iconst (v := 2) hx hb dX12_lays_17 (by decide) ?_
    refine lv_isub hx hb dX12_lays_18 ?_
    obtain ⟨h6, e7, hf⟩ := Option.bind_eq_some_iff.mp hf
    refine r_uI0 X I e7 dX12_lays_19 (fun H locs I => ?_)
    cases hf
    exact k_rv X I hr dX12_lays_20
def f_X12_lays (o0 : Nat) (x1 : Int32) (x2 : Int32) (h : AH) : Option (Unit × AH) := f_X12_lays_0 o0 x1 x2 h
end
theorem c_X12_lays (l : Launch) (g : GG) (o0 : Nat) (x1 : Int32) (x2 : Int32) {h : AH} {res : Unit × AH} (hf : f_X12_lays o0 x1 x2 h = some res) : CM l g yX12_lays cX12_lays 3 none 1 64 0 0 [.ref (rfG g o0), .int x1, .int x2] h none res.2 :=
  k_body (by decide) (Nat.le_of_ble_eq_true rfl) (fun p e s m below meth c R ls hR hr X I hl => w_X12_lays_0 X ⟨Nat.le_of_eq hR.1.symm, Nat.le_of_eq hR.2.1.symm⟩ hr o0 x1 x2 h ls s.heap [] hf I (lv_sub hl [0, 1, 2] rfl))
/-! TrapCornerModel.crumb(II)I -/
theorem dX12_crumb_0 : decode cX12_crumb 0 = .ok (.aload_n 0, 1) := by decide +kernel
theorem dX12_crumb_1 : decode cX12_crumb 1 = .ok (.iconst 0, 1) := by decide +kernel
theorem dX12_crumb_2 : decode cX12_crumb 2 = .ok (.putfield 96, 3) := by decide +kernel
theorem dX12_crumb_5 : decode cX12_crumb 5 = .ok (.aload_n 0, 1) := by decide +kernel
theorem dX12_crumb_6 : decode cX12_crumb 6 = .ok (.aload_n 0, 1) := by decide +kernel
theorem dX12_crumb_7 : decode cX12_crumb 7 = .ok (.getfield 61, 3) := by decide +kernel
theorem dX12_crumb_10 : decode cX12_crumb 10 = .ok (.iload_n 1, 1) := by decide +kernel
theorem dX12_crumb_11 : decode cX12_crumb 11 = .ok (.iload_n 2, 1) := by decide +kernel
theorem dX12_crumb_12 : decode cX12_crumb 12 = .ok (.invokevirtual 400, 3) := by decide +kernel
theorem dX12_crumb_15 : decode cX12_crumb 15 = .ok (.ifCond .ne 5, 3) := by decide +kernel
theorem dX12_crumb_18 : decode cX12_crumb 18 = .ok (.iconst (-1), 1) := by decide +kernel
theorem dX12_crumb_19 : decode cX12_crumb 19 = .ok (.ireturn, 1) := by decide +kernel
theorem dX12_crumb_20 : decode cX12_crumb 20 = .ok (.aload_n 0, 1) := by decide +kernel
theorem dX12_crumb_21 : decode cX12_crumb 21 = .ok (.invokevirtual 390, 3) := by decide +kernel
theorem dX12_crumb_24 : decode cX12_crumb 24 = .ok (.aload_n 0, 1) := by decide +kernel
theorem dX12_crumb_25 : decode cX12_crumb 25 = .ok (.getfield 61, 3) := by decide +kernel
theorem dX12_crumb_28 : decode cX12_crumb 28 = .ok (.iconst 2, 1) := by decide +kernel
theorem dX12_crumb_29 : decode cX12_crumb 29 = .ok (.iload_n 1, 1) := by decide +kernel
theorem dX12_crumb_30 : decode cX12_crumb 30 = .ok (.imul, 1) := by decide +kernel
theorem dX12_crumb_31 : decode cX12_crumb 31 = .ok (.iconst 0, 1) := by decide +kernel
theorem dX12_crumb_32 : decode cX12_crumb 32 = .ok (.iadd, 1) := by decide +kernel
theorem dX12_crumb_33 : decode cX12_crumb 33 = .ok (.iaload, 1) := by decide +kernel
theorem dX12_crumb_34 : decode cX12_crumb 34 = .ok (.istore_n 3, 1) := by decide +kernel
theorem dX12_crumb_35 : decode cX12_crumb 35 = .ok (.aload_n 0, 1) := by decide +kernel
theorem dX12_crumb_36 : decode cX12_crumb 36 = .ok (.getfield 61, 3) := by decide +kernel
theorem dX12_crumb_39 : decode cX12_crumb 39 = .ok (.iload_n 1, 1) := by decide +kernel
theorem dX12_crumb_40 : decode cX12_crumb 40 = .ok (.iload_n 2, 1) := by decide +kernel
theorem dX12_crumb_41 : decode cX12_crumb 41 = .ok (.invokestatic 403, 3) := by decide +kernel
theorem dX12_crumb_44 : decode cX12_crumb 44 = .ok (.iload_n 3, 1) := by decide +kernel
theorem dX12_crumb_45 : decode cX12_crumb 45 = .ok (.ireturn, 1) := by decide +kernel
theorem vk_TrapCornerModel_400 : VK "TrapCornerModel" 400 [12] yX12_canLay 3 := ⟨tw_1724, tw_1726, tw_13, ⟨by decide, by decide⟩, by decide +kernel, fun ci hci => by
  have hci := List.mem_singleton.mp hci
  subst hci
  exact ⟨_, rfl, tp_92⟩⟩
theorem vk_TrapCornerModel_390 : VK "TrapCornerModel" 390 [12] yX12_remember 0 := ⟨tw_1665, tw_1667, tw_13, ⟨by decide, by decide⟩, by decide +kernel, fun ci hci => by
  have hci := List.mem_singleton.mp hci
  subst hci
  exact ⟨_, rfl, tp_80⟩⟩
theorem sk_TrapCornerModel_403 : SK "TrapCornerModel" 403 yX12_lays 3 := ⟨tw_1729, tw_1730, tw_13, ⟨by decide, by decide⟩, by decide +kernel⟩
section
variable {g : GG} {p : Program} {l : Launch} {e : Env} {R : Room} {s : State} {m : MethodId} {args : Array Value} {below : List Frame} {meth : Method} {c : Code} {n0 z0 : Nat}
def f_X12_crumb_0  (o0 : Nat) (x1 : Int32) (x2 : Int32) (h : AH) : Option (Int32 × AH) :=
  (pV [12] h o0 0 (.int 0)).bind fun h1 =>
  (gR [12] h1 o0 32).bind fun v3 =>
  (isC [12] h1 o0).bind fun _ =>
  cN (f_X12_canLay o0 v3 x1 x2 h1) h1 fun v5 h6 =>
  if v5 = 0 then
    some ((-1), h6)
  else
    (isC [12] h6 o0).bind fun _ =>
    cN (f_X12_remember o0 h6) h6 fun _ h12 =>
    (gR [12] h12 o0 32).bind fun v16 =>
    (aI 0 h12 v16 ((2 * x1) + 0)).bind fun v18 =>
    (gR [12] h12 o0 32).bind fun v20 =>
    cN (f_X12_lays v20 x1 x2 h12) h12 fun _ h23 =>
    some (v18, h23)
set_option maxHeartbeats 1000000 in
theorem w_X12_crumb_0 (X : Cx g p s m args meth c cX12_crumb 4 "TrapCornerModel") (hR : 3 ≤ R.frames ∧ 192 ≤ R.locals) (hr : meth.sig.returnType = (some (.int))) {res : Int32 × AH} : ∀ (o0 : Nat) (x1 : Int32) (x2 : Int32) (h : AH) (ls : Array Slot) (H : Heap) (locs : List Loc), f_X12_crumb_0 o0 x1 x2 h = some res → Iv g s n0 z0 h H locs 0 0 → lv_has ls 4 [(0, .ref (rfG g o0)), (1, .int x1), (2, .int x2)] → W p l e R s m args below meth c H locs 0 0 (MQ below (QG g (some (.int res.1)) res.2) args s 0 0 (AG g)) (F0 m 0 ls []) := by
  have hx := X.1
  have hb := X.2.1
  intro o0 x1 x2 h ls H locs hf I hl
  unfold f_X12_crumb_0 at hf
  refine lv_aload_n hx hb dX12_crumb_0 rfl (lv_at hl 0 rfl) ?_
  refine lv_iconst (v := 0) hx hb dX12_crumb_1 (by decide) ?_
  obtain ⟨h1, e2, hf⟩ := Option.bind_eq_some_iff.mp hf
  refine r_pI X I e2 lp_TrapCornerModel_96 dX12_crumb_2 (fun H locs I => ?_)
  refine lv_aload_n hx hb dX12_crumb_5 rfl (lv_at hl 0 rfl) ?_
  refine lv_aload_n hx hb dX12_crumb_6 rfl (lv_at hl 0 rfl) ?_
  obtain ⟨v3, e4, hf⟩ := Option.bind_eq_some_iff.mp hf
  refine r_gR X I e4 lk_TrapCornerModel_61 dX12_crumb_7 ?_
  refine lv_iload_n hx hb dX12_crumb_10 rfl (lv_at hl 1 rfl) ?_
  refine lv_iload_n hx hb dX12_crumb_11 rfl (lv_at hl 2 rfl) ?_
  obtain ⟨_, g9, hf⟩ := Option.bind_eq_some_iff.mp hf
  obtain ⟨v5, h6, e7, z8, hf⟩ := cN_spec hf
  refine k_Vi (As := [.ref (rfG g v3), .int x1, .int x2]) (rest := []) X I (c_X12_canLay l g o0 v3 x1 x2 e7) z8 g9 vk_TrapCornerModel_400 tw_1727 ⟨Nat.le_trans (by decide) hR.1, Nat.le_trans (by decide) hR.2⟩ ⟨Nat.zero_le _, Nat.zero_le _⟩ rfl hl.1 rfl (Nat.le_of_ble_eq_true rfl) dX12_crumb_12 (fun H locs I => ?_)
  refine lv_if_ne (tgt := 20) hx hb dX12_crumb_15 (by decide) (fun c10 => ?_) (fun c10 => ?_)
  · rw [if_neg c10] at hf
    refine lv_aload_n hx hb dX12_crumb_20 rfl (lv_at hl 0 rfl) ?_
    obtain ⟨_, g15, hf⟩ := Option.bind_eq_some_iff.mp hf
    obtain ⟨⟨⟩, h12, e13, z14, hf⟩ := cN_spec hf
    refine k_Vv (As := []) (rest := []) X I (c_X12_remember l g o0 e13) z14 g15 vk_TrapCornerModel_390 tw_1668 ⟨Nat.le_trans (by decide) hR.1, Nat.le_trans (by decide) hR.2⟩ ⟨Nat.zero_le _, Nat.zero_le _⟩ rfl hl.1 rfl (Nat.le_of_ble_eq_true rfl) dX12_crumb_21 (fun H locs I => ?_)
    refine lv_aload_n hx hb dX12_crumb_24 rfl (lv_at hl 0 rfl) ?_
    obtain ⟨v16, e17, hf⟩ := Option.bind_eq_some_iff.mp hf
    refine r_gR X I e17 lk_TrapCornerModel_61 dX12_crumb_25 ?_
    refine lv_iconst (v := 2) hx hb dX12_crumb_28 (by decide) ?_
    refine lv_iload_n hx hb dX12_crumb_29 rfl (lv_at hl 1 rfl) ?_
    refine lv_imul hx hb dX12_crumb_30 ?_
    refine lv_iconst (v := 0) hx hb dX12_crumb_31 (by decide) ?_
    refine lv_iadd hx hb dX12_crumb_32 ?_
    obtain ⟨v18, e19, hf⟩ := Option.bind_eq_some_iff.mp hf
    refine r_aI0 X I e19 dX12_crumb_33 ?_
    refine lv_istore_n (lv' := [(3, .int v18), (0, .ref (rfG g o0)), (1, .int x1), (2, .int x2)]) hx hb dX12_crumb_34 rfl hl (by decide) rfl (fun ls hl => ?_)
    refine lv_aload_n hx hb dX12_crumb_35 rfl (lv_at hl 1 rfl) ?_
    obtain ⟨v20, e21, hf⟩ := Option.bind_eq_some_iff.mp hf
    refine r_gR X I e21 lk_TrapCornerModel_61 dX12_crumb_36 ?_
    refine lv_iload_n hx hb dX12_crumb_39 rfl (lv_at hl 2 rfl) ?_
    refine lv_iload_n hx hb dX12_crumb_40 rfl (lv_at hl 3 rfl) ?_
    obtain ⟨⟨⟩, h23, e24, z25, hf⟩ := cN_spec hf
    refine k_Sv (As := [.ref (rfG g v20), .int x1, .int x2]) (rest := []) X I (c_X12_lays l g v20 x1 x2 e24) z25 sk_TrapCornerModel_403 tw_1731 ⟨Nat.le_trans (by decide) hR.1, Nat.le_trans (by decide) hR.2⟩ ⟨Nat.zero_le _, Nat.zero_le _⟩ rfl hl.1 rfl (Nat.le_of_ble_eq_true rfl) dX12_crumb_41 (fun H locs I => ?_)
    refine lv_iload_n hx hb dX12_crumb_44 rfl (lv_at hl 0 rfl) ?_
    cases hf
    exact k_ri X I hr dX12_crumb_45
  · rw [if_pos c10] at hf
    refine lv_iconst (v := (-1)) hx hb dX12_crumb_18 (by decide) ?_
    cases hf
    exact k_ri X I hr dX12_crumb_19
def f_X12_crumb (o0 : Nat) (x1 : Int32) (x2 : Int32) (h : AH) : Option (Int32 × AH) := f_X12_crumb_0 o0 x1 x2 h
end
theorem c_X12_crumb (l : Launch) (g : GG) (o0 : Nat) (x1 : Int32) (x2 : Int32) {h : AH} {res : Int32 × AH} (hf : f_X12_crumb o0 x1 x2 h = some res) : CM l g yX12_crumb cX12_crumb 4 (some (.int)) 3 192 0 0 [.ref (rfG g o0), .int x1, .int x2] h (some (.int res.1)) res.2 :=
  k_body (by decide) (Nat.le_of_ble_eq_true rfl) (fun p e s m below meth c R ls hR hr X I hl => w_X12_crumb_0 X ⟨Nat.le_of_eq hR.1.symm, Nat.le_of_eq hR.2.1.symm⟩ hr o0 x1 x2 h ls s.heap [] hf I (lv_sub hl [0, 1, 2] rfl))
/-! TrapCornerModel.canRenew([II)Z -/
theorem dX12_canRenew_0 : decode cX12_canRenew 0 = .ok (.aload_n 0, 1) := by decide +kernel
theorem dX12_canRenew_1 : decode cX12_canRenew 1 = .ok (.iload_n 2, 1) := by decide +kernel
theorem dX12_canRenew_2 : decode cX12_canRenew 2 = .ok (.invokevirtual 380, 3) := by decide +kernel
theorem dX12_canRenew_5 : decode cX12_canRenew 5 = .ok (.ifCond .eq 26, 3) := by decide +kernel
theorem dX12_canRenew_8 : decode cX12_canRenew 8 = .ok (.aload_n 1, 1) := by decide +kernel
theorem dX12_canRenew_9 : decode cX12_canRenew 9 = .ok (.iconst 2, 1) := by decide +kernel
theorem dX12_canRenew_10 : decode cX12_canRenew 10 = .ok (.iload_n 2, 1) := by decide +kernel
theorem dX12_canRenew_11 : decode cX12_canRenew 11 = .ok (.imul, 1) := by decide +kernel
theorem dX12_canRenew_12 : decode cX12_canRenew 12 = .ok (.iconst 1, 1) := by decide +kernel
theorem dX12_canRenew_13 : decode cX12_canRenew 13 = .ok (.iadd, 1) := by decide +kernel
theorem dX12_canRenew_14 : decode cX12_canRenew 14 = .ok (.iaload, 1) := by decide +kernel
theorem dX12_canRenew_15 : decode cX12_canRenew 15 = .ok (.bipush 9, 2) := by decide +kernel
theorem dX12_canRenew_17 : decode cX12_canRenew 17 = .ok (.if_icmp .ge 14, 3) := by decide +kernel
theorem dX12_canRenew_20 : decode cX12_canRenew 20 = .ok (.aload_n 1, 1) := by decide +kernel
theorem dX12_canRenew_21 : decode cX12_canRenew 21 = .ok (.bipush 29, 2) := by decide +kernel
theorem dX12_canRenew_23 : decode cX12_canRenew 23 = .ok (.iaload, 1) := by decide +kernel
theorem dX12_canRenew_24 : decode cX12_canRenew 24 = .ok (.ifCond .le 7, 3) := by decide +kernel
theorem dX12_canRenew_27 : decode cX12_canRenew 27 = .ok (.iconst 1, 1) := by decide +kernel
theorem dX12_canRenew_28 : decode cX12_canRenew 28 = .ok (.goto 4, 3) := by decide +kernel
theorem dX12_canRenew_31 : decode cX12_canRenew 31 = .ok (.iconst 0, 1) := by decide +kernel
theorem dX12_canRenew_32 : decode cX12_canRenew 32 = .ok (.ireturn, 1) := by decide +kernel
section
variable {g : GG} {p : Program} {l : Launch} {e : Env} {R : Room} {s : State} {m : MethodId} {args : Array Value} {below : List Frame} {meth : Method} {c : Code} {n0 z0 : Nat}
def f_X12_canRenew_0  (o0 : Nat) (o1 : Nat) (x2 : Int32) (h : AH) : Option (Int32 × AH) :=
  (isC [12] h o0).bind fun _ =>
  cN (f_X12_isCorner o0 x2 h) h fun v1 h2 =>
  if v1 = 0 then
    some (0, h2)
  else
    (aI 0 h2 o1 ((2 * x2) + 1)).bind fun v7 =>
    if 9 ≤ v7 then
      some (0, h2)
    else
      (aI 0 h2 o1 29).bind fun v10 =>
      if v10 ≤ 0 then
        some (0, h2)
      else
        some (1, h2)
set_option maxHeartbeats 1000000 in
theorem w_X12_canRenew_0 (X : Cx g p s m args meth c cX12_canRenew 3 "TrapCornerModel") (hR : 2 ≤ R.frames ∧ 128 ≤ R.locals) (hr : meth.sig.returnType = (some (.boolean))) {res : Int32 × AH} : ∀ (o0 : Nat) (o1 : Nat) (x2 : Int32) (h : AH) (ls : Array Slot) (H : Heap) (locs : List Loc), f_X12_canRenew_0 o0 o1 x2 h = some res → Iv g s n0 z0 h H locs 0 0 → lv_has ls 3 [(0, .ref (rfG g o0)), (1, .ref (rfG g o1)), (2, .int x2)] → W p l e R s m args below meth c H locs 0 0 (MQ below (QG g (some (.int res.1)) res.2) args s 0 0 (AG g)) (F0 m 0 ls []) := by
  have hx := X.1
  have hb := X.2.1
  intro o0 o1 x2 h ls H locs hf I hl
  unfold f_X12_canRenew_0 at hf
  refine lv_aload_n hx hb dX12_canRenew_0 rfl (lv_at hl 0 rfl) ?_
  refine lv_iload_n hx hb dX12_canRenew_1 rfl (lv_at hl 2 rfl) ?_
  obtain ⟨_, g5, hf⟩ := Option.bind_eq_some_iff.mp hf
  obtain ⟨v1, h2, e3, z4, hf⟩ := cN_spec hf
  refine k_Vi (As := [.int x2]) (rest := []) X I (c_X12_isCorner l g o0 x2 e3) z4 g5 vk_TrapCornerModel_380 tw_1635 ⟨Nat.le_trans (by decide) hR.1, Nat.le_trans (by decide) hR.2⟩ ⟨Nat.zero_le _, Nat.zero_le _⟩ rfl hl.1 rfl (Nat.le_of_ble_eq_true rfl) dX12_canRenew_2 (fun H locs I => ?_)
  refine lv_if_eq (tgt := 31) hx hb dX12_canRenew_5 (by decide) (fun c6 => ?_) (fun c6 => ?_)
  · rw [if_pos c6] at hf
    refine lv_iconst (v := 0) hx hb dX12_canRenew_31 (by decide) ?_
    cases hf
    exact k_rz X I hr (Or.inl rfl) dX12_canRenew_32
  · rw [if_neg c6] at hf
    refine lv_aload_n hx hb dX12_canRenew_8 rfl (lv_at hl 1 rfl) ?_
    refine lv_iconst (v := 2) hx hb dX12_canRenew_9 (by decide) ?_
    refine lv_iload_n hx hb dX12_canRenew_10 rfl (lv_at hl 2 rfl) ?_
    refine lv_imul hx hb dX12_canRenew_11 ?_
    refine lv_iconst (v := 1) hx hb dX12_canRenew_12 (by decide) ?_
    refine lv_iadd hx hb dX12_canRenew_13 ?_
    obtain ⟨v7, e8, hf⟩ := Option.bind_eq_some_iff.mp hf
    refine r_aI0 X I e8 dX12_canRenew_14 ?_
    refine lv_bipush (v := 9) hx hb dX12_canRenew_15 (by decide) ?_
    refine lv_icmp_ge (tgt := 31) hx hb dX12_canRenew_17 (by decide) (fun c9 => ?_) (fun c9 => ?_)
    · rw [if_pos c9] at hf
      refine lv_iconst (v := 0) hx hb dX12_canRenew_31 (by decide) ?_
      cases hf
      exact k_rz X I hr (Or.inl rfl) dX12_canRenew_32
    · rw [if_neg c9] at hf
      refine lv_aload_n hx hb dX12_canRenew_20 rfl (lv_at hl 1 rfl) ?_
      refine lv_bipush (v := 29) hx hb dX12_canRenew_21 (by decide) ?_
      obtain ⟨v10, e11, hf⟩ := Option.bind_eq_some_iff.mp hf
      refine r_aI0 X I e11 dX12_canRenew_23 ?_
      refine lv_if_le (tgt := 31) hx hb dX12_canRenew_24 (by decide) (fun c12 => ?_) (fun c12 => ?_)
      · rw [if_pos c12] at hf
        refine lv_iconst (v := 0) hx hb dX12_canRenew_31 (by decide) ?_
        cases hf
        exact k_rz X I hr (Or.inl rfl) dX12_canRenew_32
      · rw [if_neg c12] at hf
        refine lv_iconst (v := 1) hx hb dX12_canRenew_27 (by decide) ?_
        refine lv_goto (tgt := 32) hx hb dX12_canRenew_28 (by decide) ?_
        cases hf
        exact k_rz X I hr (Or.inr rfl) dX12_canRenew_32
def f_X12_canRenew (o0 : Nat) (o1 : Nat) (x2 : Int32) (h : AH) : Option (Int32 × AH) := f_X12_canRenew_0 o0 o1 x2 h
end
theorem c_X12_canRenew (l : Launch) (g : GG) (o0 : Nat) (o1 : Nat) (x2 : Int32) {h : AH} {res : Int32 × AH} (hf : f_X12_canRenew o0 o1 x2 h = some res) : CM l g yX12_canRenew cX12_canRenew 3 (some (.boolean)) 2 128 0 0 [.ref (rfG g o0), .ref (rfG g o1), .int x2] h (some (.int res.1)) res.2 :=
  k_body (by decide) (Nat.le_of_ble_eq_true rfl) (fun p e s m below meth c R ls hR hr X I hl => w_X12_canRenew_0 X ⟨Nat.le_of_eq hR.1.symm, Nat.le_of_eq hR.2.1.symm⟩ hr o0 o1 x2 h ls s.heap [] hf I (lv_sub hl [0, 1, 2] rfl))
/-! TrapCornerModel.renews([II)V -/
theorem dX12_renews_0 : decode cX12_renews 0 = .ok (.aload_n 0, 1) := by decide +kernel
theorem dX12_renews_1 : decode cX12_renews 1 = .ok (.iconst 2, 1) := by decide +kernel
theorem dX12_renews_2 : decode cX12_renews 2 = .ok (.iload_n 1, 1) := by decide +kernel
theorem dX12_renews_3 : decode cX12_renews 3 = .ok (.imul, 1) := by decide +kernel
theorem dX12_renews_4 : decode cX12_renews 4 = .ok (.iconst 1, 1) := by decide +kernel
theorem dX12_renews_5 : decode cX12_renews 5 = .ok (.iadd, 1) := by decide +kernel
theorem dX12_renews_6 : decode cX12_renews 6 = .ok (.dup2, 1) := by decide +kernel
theorem dX12_renews_7 : decode cX12_renews 7 = .ok (.iaload, 1) := by decide +kernel
theorem dX12_renews_8 : decode cX12_renews 8 = .ok (.iconst 1, 1) := by decide +kernel
theorem dX12_renews_9 : decode cX12_renews 9 = .ok (.iadd, 1) := by decide +kernel
theorem dX12_renews_10 : decode cX12_renews 10 = .ok (.iastore, 1) := by decide +kernel
theorem dX12_renews_11 : decode cX12_renews 11 = .ok (.aload_n 0, 1) := by decide +kernel
theorem dX12_renews_12 : decode cX12_renews 12 = .ok (.bipush 29, 2) := by decide +kernel
theorem dX12_renews_14 : decode cX12_renews 14 = .ok (.dup2, 1) := by decide +kernel
theorem dX12_renews_15 : decode cX12_renews 15 = .ok (.iaload, 1) := by decide +kernel
theorem dX12_renews_16 : decode cX12_renews 16 = .ok (.iconst 1, 1) := by decide +kernel
theorem dX12_renews_17 : decode cX12_renews 17 = .ok (.isub, 1) := by decide +kernel
theorem dX12_renews_18 : decode cX12_renews 18 = .ok (.iastore, 1) := by decide +kernel
theorem dX12_renews_19 : decode cX12_renews 19 = .ok (.return_, 1) := by decide +kernel
section
variable {g : GG} {p : Program} {l : Launch} {e : Env} {R : Room} {s : State} {m : MethodId} {args : Array Value} {below : List Frame} {meth : Method} {c : Code} {n0 z0 : Nat}
def f_X12_renews_0  (o0 : Nat) (x1 : Int32) (h : AH) : Option (Unit × AH) :=
  (aI 0 h o0 ((2 * x1) + 1)).bind fun v1 =>
  (uI 0 h o0 ((2 * x1) + 1) (v1 + 1)).bind fun h3 =>
  (aI 0 h3 o0 29).bind fun v5 =>
  (uI 0 h3 o0 29 (v5 - 1)).bind fun h7 =>
  some ((), h7)
set_option maxHeartbeats 1000000 in
theorem w_X12_renews_0 (X : Cx g p s m args meth c cX12_renews 2 "TrapCornerModel") (hR : 1 ≤ R.frames ∧ 64 ≤ R.locals) (hr : meth.sig.returnType = none) {res : Unit × AH} : ∀ (o0 : Nat) (x1 : Int32) (h : AH) (ls : Array Slot) (H : Heap) (locs : List Loc), f_X12_renews_0 o0 x1 h = some res → Iv g s n0 z0 h H locs 0 0 → lv_has ls 2 [(0, .ref (rfG g o0)), (1, .int x1)] → W p l e R s m args below meth c H locs 0 0 (MQ below (QG g none res.2) args s 0 0 (AG g)) (F0 m 0 ls []) := by
  have hx := X.1
  have hb := X.2.1
  intro o0 x1 h ls H locs hf I hl
  unfold f_X12_renews_0 at hf
  refine lv_aload_n hx hb dX12_renews_0 rfl (lv_at hl 0 rfl) ?_
  refine lv_iconst (v := 2) hx hb dX12_renews_1 (by decide) ?_
  refine lv_iload_n hx hb dX12_renews_2 rfl (lv_at hl 1 rfl) ?_
  refine lv_imul hx hb dX12_renews_3 ?_
  refine lv_iconst (v := 1) hx hb dX12_renews_4 (by decide) ?_
  refine lv_iadd hx hb dX12_renews_5 ?_
  refine lv_dup2_11 hx hb dX12_renews_6 rfl rfl ?_
  obtain ⟨v1, e2, hf⟩ := Option.bind_eq_some_iff.mp hf
  refine r_aI0 X I e2 dX12_renews_7 ?_
  refine lv_iconst (v := 1) hx hb dX12_renews_8 (by decide) ?_
  refine lv_iadd hx hb dX12_renews_9 ?_
  obtain ⟨h3, e4, hf⟩ := Option.bind_eq_some_iff.mp hf
  refine r_uI0 X I e4 dX12_renews_10 (fun H locs I => ?_)
  refine lv_aload_n hx hb dX12_renews_11 rfl (lv_at hl 0 rfl) ?_
  refine lv_bipush (v := 29) hx hb dX12_renews_12 (by decide) ?_
  refine lv_dup2_11 hx hb dX12_renews_14 rfl rfl ?_
  obtain ⟨v5, e6, hf⟩ := Option.bind_eq_some_iff.mp hf
  refine r_aI0 X I e6 dX12_renews_15 ?_
  refine lv_iconst (v := 1) hx hb dX12_renews_16 (by decide) ?_
  refine lv_isub hx hb dX12_renews_17 ?_
  obtain ⟨h7, e8, hf⟩ := Option.bind_eq_some_iff.mp hf
  refine r_uI0 X I e8 dX12_renews_18 (fun H locs I => ?_)
  cases hf
  exact k_rv X I hr dX12_renews_19
def f_X12_renews (o0 : Nat) (x1 : Int32) (h : AH) : Option (Unit × AH) := f_X12_renews_0 o0 x1 h
end
theorem c_X12_renews (l : Launch) (g : GG) (o0 : Nat) (x1 : Int32) {h : AH} {res : Unit × AH} (hf : f_X12_renews o0 x1 h = some res) : CM l g yX12_renews cX12_renews 2 none 1 64 0 0 [.ref (rfG g o0), .int x1] h none res.2 :=
  k_body (by decide) (Nat.le_of_ble_eq_true rfl) (fun p e s m below meth c R ls hR hr X I hl => w_X12_renews_0 X ⟨Nat.le_of_eq hR.1.symm, Nat.le_of_eq hR.2.1.symm⟩ hr o0 x1 h ls s.heap [] hf I (lv_sub hl [0, 1] rfl))
