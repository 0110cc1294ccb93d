/-! TrapCorner$Sightings.clear()V -/
theorem dX7_clear_0 : decode cX7_clear 0 = .ok (.aload_n 0, 1) := by decide +kernel
theorem dX7_clear_1 : decode cX7_clear 1 = .ok (.iconst 0, 1) := by decide +kernel
theorem dX7_clear_2 : decode cX7_clear 2 = .ok (.putfield 36, 3) := by decide +kernel
theorem dX7_clear_5 : decode cX7_clear 5 = .ok (.return_, 1) := by decide +kernel
theorem lp_TrapCorner_Sightings_36 : LKP "TrapCorner$Sightings" 36 [7] 6 (.int) := by
  intro ci hci
  have hci := List.mem_singleton.mp hci
  subst hci
  exact ⟨RX7, TX7, 9, "TrapCorner$Sightings", ck_7, by decide, tw_337, Or.inl rfl, rfl, by decide +kernel⟩
section
variable {g : GG} {p : Program} {l : Launch} {e : Env} {R : Room} {s : State} {m : MethodId} {args : Array Value} {below : List Frame} {meth : Method} {c : Code} {n0 z0 : Nat}
def f_X7_clear_0  (o0 : Nat) (h : AH) : Option (Unit × AH) :=
  (pV [7] h o0 6 (.int 0)).bind fun h1 =>
  some ((), h1)
set_option maxHeartbeats 1000000 in
theorem w_X7_clear_0 (X : Cx g p s m args meth c cX7_clear 1 "TrapCorner$Sightings") (hR : 1 ≤ R.frames ∧ 64 ≤ R.locals) (hr : meth.sig.returnType = none) {res : Unit × AH} : ∀ (o0 : Nat) (h : AH) (ls : Array Slot) (H : Heap) (locs : List Loc), f_X7_clear_0 o0 h = some res → Iv g s n0 z0 h H locs 0 0 → lv_has ls 1 [(0, .ref (rfG g o0))] → W p l e R s m args below meth c H locs 0 0 (MQ below (QG g none res.2) args s 0 0 (AG g)) (F0 m 0 ls []) := by
  have hx := X.1
  have hb := X.2.1
  intro o0 h ls H locs hf I hl
  unfold f_X7_clear_0 at hf
  refine lv_aload_n hx hb dX7_clear_0 rfl (lv_at hl 0 rfl) ?_
  refine lv_iconst (v := 0) hx hb dX7_clear_1 (by decide) ?_
  obtain ⟨h1, e2, hf⟩ := Option.bind_eq_some_iff.mp hf
  refine r_pI X I e2 lp_TrapCorner_Sightings_36 dX7_clear_2 (fun H locs I => ?_)
  cases hf
  exact k_rv X I hr dX7_clear_5
def f_X7_clear (o0 : Nat) (h : AH) : Option (Unit × AH) := f_X7_clear_0 o0 h
end
theorem c_X7_clear (l : Launch) (g : GG) (o0 : Nat) {h : AH} {res : Unit × AH} (hf : f_X7_clear o0 h = some res) : CM l g yX7_clear cX7_clear 1 none 1 64 0 0 [.ref (rfG g o0)] h none res.2 :=
  k_body (by decide) (Nat.le_of_ble_eq_true rfl) (fun p e s m below meth c R ls hR hr X I hl => w_X7_clear_0 X ⟨Nat.le_of_eq hR.1.symm, Nat.le_of_eq hR.2.1.symm⟩ hr o0 h ls s.heap [] hf I (lv_sub hl [0] rfl))
/-! TrapCorner$Sightings.add(IIIZ)I -/
theorem dX7_add_0 : decode cX7_add 0 = .ok (.aload_n 0, 1) := by decide +kernel
theorem dX7_add_1 : decode cX7_add 1 = .ok (.getfield 36, 3) := by decide +kernel
theorem dX7_add_4 : decode cX7_add 4 = .ok (.bipush 10, 2) := by decide +kernel
theorem dX7_add_6 : decode cX7_add 6 = .ok (.if_icmp .lt 5, 3) := by decide +kernel
theorem dX7_add_9 : decode cX7_add 9 = .ok (.iconst (-1), 1) := by decide +kernel
theorem dX7_add_10 : decode cX7_add 10 = .ok (.ireturn, 1) := by decide +kernel
theorem dX7_add_11 : decode cX7_add 11 = .ok (.aload_n 0, 1) := by decide +kernel
theorem dX7_add_12 : decode cX7_add 12 = .ok (.getfield 9, 3) := by decide +kernel
theorem dX7_add_15 : decode cX7_add 15 = .ok (.aload_n 0, 1) := by decide +kernel
theorem dX7_add_16 : decode cX7_add 16 = .ok (.getfield 36, 3) := by decide +kernel
theorem dX7_add_19 : decode cX7_add 19 = .ok (.iload_n 1, 1) := by decide +kernel
theorem dX7_add_20 : decode cX7_add 20 = .ok (.iastore, 1) := by decide +kernel
theorem dX7_add_21 : decode cX7_add 21 = .ok (.aload_n 0, 1) := by decide +kernel
theorem dX7_add_22 : decode cX7_add 22 = .ok (.getfield 15, 3) := by decide +kernel
theorem dX7_add_25 : decode cX7_add 25 = .ok (.aload_n 0, 1) := by decide +kernel
theorem dX7_add_26 : decode cX7_add 26 = .ok (.getfield 36, 3) := by decide +kernel
theorem dX7_add_29 : decode cX7_add 29 = .ok (.iload_n 2, 1) := by decide +kernel
theorem dX7_add_30 : decode cX7_add 30 = .ok (.iastore, 1) := by decide +kernel
theorem dX7_add_31 : decode cX7_add 31 = .ok (.aload_n 0, 1) := by decide +kernel
theorem dX7_add_32 : decode cX7_add 32 = .ok (.getfield 18, 3) := by decide +kernel
theorem dX7_add_35 : decode cX7_add 35 = .ok (.aload_n 0, 1) := by decide +kernel
theorem dX7_add_36 : decode cX7_add 36 = .ok (.getfield 36, 3) := by decide +kernel
theorem dX7_add_39 : decode cX7_add 39 = .ok (.iload_n 3, 1) := by decide +kernel
theorem dX7_add_40 : decode cX7_add 40 = .ok (.iastore, 1) := by decide +kernel
theorem dX7_add_41 : decode cX7_add 41 = .ok (.aload_n 0, 1) := by decide +kernel
theorem dX7_add_42 : decode cX7_add 42 = .ok (.getfield 21, 3) := by decide +kernel
theorem dX7_add_45 : decode cX7_add 45 = .ok (.aload_n 0, 1) := by decide +kernel
theorem dX7_add_46 : decode cX7_add 46 = .ok (.getfield 36, 3) := by decide +kernel
theorem dX7_add_49 : decode cX7_add 49 = .ok (.iload 4, 2) := by decide +kernel
theorem dX7_add_51 : decode cX7_add 51 = .ok (.bastore, 1) := by decide +kernel
theorem dX7_add_52 : decode cX7_add 52 = .ok (.aload_n 0, 1) := by decide +kernel
theorem dX7_add_53 : decode cX7_add 53 = .ok (.dup, 1) := by decide +kernel
theorem dX7_add_54 : decode cX7_add 54 = .ok (.getfield 36, 3) := by decide +kernel
theorem dX7_add_57 : decode cX7_add 57 = .ok (.iconst 1, 1) := by decide +kernel
theorem dX7_add_58 : decode cX7_add 58 = .ok (.iadd, 1) := by decide +kernel
theorem dX7_add_59 : decode cX7_add 59 = .ok (.putfield 36, 3) := by decide +kernel
theorem dX7_add_62 : decode cX7_add 62 = .ok (.aload_n 0, 1) := by decide +kernel
theorem dX7_add_63 : decode cX7_add 63 = .ok (.getfield 36, 3) := by decide +kernel
theorem dX7_add_66 : decode cX7_add 66 = .ok (.ireturn, 1) := by decide +kernel
theorem lk_TrapCorner_Sightings_36 : LK "TrapCorner$Sightings" 36 [7] 6 := by
  intro ci hci
  have hci := List.mem_singleton.mp hci
  subst hci
  exact ⟨RX7, TX7, 9, "TrapCorner$Sightings", ck_7, by decide, tw_337, Or.inl rfl⟩
theorem lk_TrapCorner_Sightings_9 : LK "TrapCorner$Sightings" 9 [7] 2 := by
  intro ci hci
  have hci := List.mem_singleton.mp hci
  subst hci
  exact ⟨RX7, TX7, 9, "TrapCorner$Sightings", ck_7, by decide, tw_333, Or.inl rfl⟩
theorem lk_TrapCorner_Sightings_15 : LK "TrapCorner$Sightings" 15 [7] 3 := by
  intro ci hci
  have hci := List.mem_singleton.mp hci
  subst hci
  exact ⟨RX7, TX7, 9, "TrapCorner$Sightings", ck_7, by decide, tw_334, Or.inl rfl⟩
theorem lk_TrapCorner_Sightings_18 : LK "TrapCorner$Sightings" 18 [7] 4 := by
  intro ci hci
  have hci := List.mem_singleton.mp hci
  subst hci
  exact ⟨RX7, TX7, 9, "TrapCorner$Sightings", ck_7, by decide, tw_335, Or.inl rfl⟩
theorem lk_TrapCorner_Sightings_21 : LK "TrapCorner$Sightings" 21 [7] 5 := by
  intro ci hci
  have hci := List.mem_singleton.mp hci
  subst hci
  exact ⟨RX7, TX7, 9, "TrapCorner$Sightings", ck_7, by decide, tw_336, Or.inl rfl⟩
section
variable {g : GG} {p : Program} {l : Launch} {e : Env} {R : Room} {s : State} {m : MethodId} {args : Array Value} {below : List Frame} {meth : Method} {c : Code} {n0 z0 : Nat}
def f_X7_add_0  (o0 : Nat) (x1 : Int32) (x2 : Int32) (x3 : Int32) (x4 : Int32) (h : AH) : Option (Int32 × AH) :=
  (gI [7] h o0 6).bind fun v1 =>
  if v1 < 10 then
    (gR [7] h o0 2).bind fun v4 =>
    (gI [7] h o0 6).bind fun v6 =>
    (uI 0 h v4 v6 x1).bind fun h8 =>
    (gR [7] h8 o0 3).bind fun v10 =>
    (gI [7] h8 o0 6).bind fun v12 =>
    (uI 0 h8 v10 v12 x2).bind fun h14 =>
    (gR [7] h14 o0 4).bind fun v16 =>
    (gI [7] h14 o0 6).bind fun v18 =>
    (uI 0 h14 v16 v18 x3).bind fun h20 =>
    (gR [7] h20 o0 5).bind fun v22 =>
    (gI [7] h20 o0 6).bind fun v24 =>
    (uI 3 h20 v22 v24 x4).bind fun h26 =>
    (gI [7] h26 o0 6).bind fun v28 =>
    (pV [7] h26 o0 6 (.int (v28 + 1))).bind fun h30 =>
    (gI [7] h30 o0 6).bind fun v32 =>
    some (v32, h30)
  else
    some ((-1), h)
set_option maxHeartbeats 1000000 in
theorem w_X7_add_0 (X : Cx g p s m args meth c cX7_add 5 "TrapCorner$Sightings") (hR : 1 ≤ R.frames ∧ 64 ≤ R.locals) (hr : meth.sig.returnType = (some (.int))) {res : Int32 × AH} : ∀ (o0 : Nat) (x1 : Int32) (x2 : Int32) (x3 : Int32) (x4 : Int32) (h : AH) (ls : Array Slot) (H : Heap) (locs : List Loc), f_X7_add_0 o0 x1 x2 x3 x4 h = some res → Iv g s n0 z0 h H locs 0 0 → lv_has ls 5 [(0, .ref (rfG g o0)), (1, .int x1), (2, .int x2), (3, .int x3), (4, .int x4)] → W p l e R s m args below meth c H locs 0 0 (MQ below (QG g (some (.int res.1)) res.2) args s 0 0 (AG g)) (F0 m 0 ls []) := by
  have hx := X.1
  have hb := X.2.1
  intro o0 x1 x2 x3 x4 h ls H locs hf I hl
  unfold f_X7_add_0 at hf
  refine lv_aload_n hx hb dX7_add_0 rfl (lv_at hl 0 rfl) ?_
  obtain ⟨v1, e2, hf⟩ := Option.bind_eq_some_iff.mp hf
  refine r_gI X I e2 lk_TrapCorner_Sightings_36 dX7_add_1 ?_
  refine lv_bipush (v := 10) hx hb dX7_add_4 (by decide) ?_
  refine lv_icmp_lt (tgt := 11) hx hb dX7_add_6 (by decide) (fun c3 => ?_) (fun c3 => ?_)
  · rw [if_pos c3] at hf
    refine lv_aload_n hx hb dX7_add_11 rfl (lv_at hl 0 rfl) ?_
    obtain ⟨v4, e5, hf⟩ := Option.bind_eq_some_iff.mp hf
    refine r_gR X I e5 lk_TrapCorner_Sightings_9 dX7_add_12 ?_
    refine lv_aload_n hx hb dX7_add_15 rfl (lv_at hl 0 rfl) ?_
    obtain ⟨v6, e7, hf⟩ := Option.bind_eq_some_iff.mp hf
    refine r_gI X I e7 lk_TrapCorner_Sightings_36 dX7_add_16 ?_
    refine lv_iload_n hx hb dX7_add_19 rfl (lv_at hl 1 rfl) ?_
    obtain ⟨h8, e9, hf⟩ := Option.bind_eq_some_iff.mp hf
    refine r_uI0 X I e9 dX7_add_20 (fun H locs I => ?_)
    refine lv_aload_n hx hb dX7_add_21 rfl (lv_at hl 0 rfl) ?_
    obtain ⟨v10, e11, hf⟩ := Option.bind_eq_some_iff.mp hf
    refine r_gR X I e11 lk_TrapCorner_Sightings_15 dX7_add_22 ?_
    refine lv_aload_n hx hb dX7_add_25 rfl (lv_at hl 0 rfl) ?_
    obtain ⟨v12, e13, hf⟩ := Option.bind_eq_some_iff.mp hf
    refine r_gI X I e13 lk_TrapCorner_Sightings_36 dX7_add_26 ?_
    refine lv_iload_n hx hb dX7_add_29 rfl (lv_at hl 2 rfl) ?_
    obtain ⟨h14, e15, hf⟩ := Option.bind_eq_some_iff.mp hf
    refine r_uI0 X I e15 dX7_add_30 (fun H locs I => ?_)
    refine lv_aload_n hx hb dX7_add_31 rfl (lv_at hl 0 rfl) ?_
    obtain ⟨v16, e17, hf⟩ := Option.bind_eq_some_iff.mp hf
    refine r_gR X I e17 lk_TrapCorner_Sightings_18 dX7_add_32 ?_
    refine lv_aload_n hx hb dX7_add_35 rfl (lv_at hl 0 rfl) ?_
    obtain ⟨v18, e19, hf⟩ := Option.bind_eq_some_iff.mp hf
    refine r_gI X I e19 lk_TrapCorner_Sightings_36 dX7_add_36 ?_
    refine lv_iload_n hx hb dX7_add_39 rfl (lv_at hl 3 rfl) ?_
    obtain ⟨h20, e21, hf⟩ := Option.bind_eq_some_iff.mp hf
    refine r_uI0 X I e21 dX7_add_40 (fun H locs I => ?_)
    refine lv_aload_n hx hb dX7_add_41 rfl (lv_at hl 0 rfl) ?_
    obtain ⟨v22, e23, hf⟩ := Option.bind_eq_some_iff.mp hf
    refine r_gR X I e23 lk_TrapCorner_Sightings_21 dX7_add_42 ?_
    refine lv_aload_n hx hb dX7_add_45 rfl (lv_at hl 0 rfl) ?_
    obtain ⟨v24, e25, hf⟩ := Option.bind_eq_some_iff.mp hf
    refine r_gI X I e25 lk_TrapCorner_Sightings_36 dX7_add_46 ?_
    refine lv_iload hx hb dX7_add_49 (lv_at hl 4 rfl) ?_
    obtain ⟨h26, e27, hf⟩ := Option.bind_eq_some_iff.mp hf
    refine r_uI3 X I e27 dX7_add_51 (fun H locs I => ?_)
    refine lv_aload_n hx hb dX7_add_52 rfl (lv_at hl 0 rfl) ?_
    refine lv_dup hx hb dX7_add_53 rfl ?_
    obtain ⟨v28, e29, hf⟩ := Option.bind_eq_some_iff.mp hf
    refine r_gI X I e29 lk_TrapCorner_Sightings_36 dX7_add_54 ?_
    refine lv_iconst (v := 1) hx hb dX7_add_57 (by decide) ?_
    refine lv_iadd hx hb dX7_add_58 ?_
    obtain ⟨h30, e31, hf⟩ := Option.bind_eq_some_iff.mp hf
    refine r_pI X I e31 lp_TrapCorner_Sightings_36 dX7_add_59 (fun H locs I => ?_)
    refine lv_aload_n hx hb dX7_add_62 rfl (lv_at hl 0 rfl) ?_
    obtain ⟨v32, e33, hf⟩ := Option.bind_eq_some_iff.mp hf
    refine r_gI X I e33 lk_TrapCorner_Sightings_36 dX7_add_63 ?_
    cases hf
    exact k_ri X I hr dX7_add_66
  · rw [if_neg c3] at hf
    refine lv_iconst (v := (-1)) hx hb dX7_add_9 (by decide) ?_
    cases hf
    exact k_ri X I hr dX7_add_10
def f_X7_add (o0 : Nat) (x1 : Int32) (x2 : Int32) (x3 : Int32) (x4 : Int32) (h : AH) : Option (Int32 × AH) := f_X7_add_0 o0 x1 x2 x3 x4 h
end
theorem c_X7_add (l : Launch) (g : GG) (o0 : Nat) (x1 : Int32) (x2 : Int32) (x3 : Int32) (x4 : Int32) {h : AH} {res : Int32 × AH} (hf : f_X7_add o0 x1 x2 x3 x4 h = some res) : CM l g yX7_add cX7_add 5 (some (.int)) 1 64 0 0 [.ref (rfG g o0), .int x1, .int x2, .int x3, .int x4] h (some (.int res.1)) res.2 :=
  k_body (by decide) (Nat.le_of_ble_eq_true rfl) (fun p e s m below meth c R ls hR hr X I hl => w_X7_add_0 X ⟨Nat.le_of_eq hR.1.symm, Nat.le_of_eq hR.2.1.symm⟩ hr o0 x1 x2 x3 x4 h ls s.heap [] hf I (lv_sub hl [0, 1, 2, 3, 4] rfl))
/-! TrapCorner$State.copyFrom(LTrapCorner$State;)V -/
theorem dX8_copyFrom_0 : decode cX8_copyFrom 0 = .ok (.aload_n 1, 1) := by decide +kernel
theorem dX8_copyFrom_1 : decode cX8_copyFrom 1 = .ok (.getfield 9, 3) := by decide +kernel
theorem dX8_copyFrom_4 : decode cX8_copyFrom 4 = .ok (.iconst 0, 1) := by decide +kernel
theorem dX8_copyFrom_5 : decode cX8_copyFrom 5 = .ok (.aload_n 0, 1) := by decide +kernel
theorem dX8_copyFrom_6 : decode cX8_copyFrom 6 = .ok (.getfield 9, 3) := by decide +kernel
theorem dX8_copyFrom_9 : decode cX8_copyFrom 9 = .ok (.iconst 0, 1) := by decide +kernel
theorem dX8_copyFrom_10 : decode cX8_copyFrom 10 = .ok (.iconst 5, 1) := by decide +kernel
theorem dX8_copyFrom_11 : decode cX8_copyFrom 11 = .ok (.invokestatic 34, 3) := by decide +kernel
theorem dX8_copyFrom_14 : decode cX8_copyFrom 14 = .ok (.aload_n 1, 1) := by decide +kernel
theorem dX8_copyFrom_15 : decode cX8_copyFrom 15 = .ok (.getfield 15, 3) := by decide +kernel
theorem dX8_copyFrom_18 : decode cX8_copyFrom 18 = .ok (.iconst 0, 1) := by decide +kernel
theorem dX8_copyFrom_19 : decode cX8_copyFrom 19 = .ok (.aload_n 0, 1) := by decide +kernel
theorem dX8_copyFrom_20 : decode cX8_copyFrom 20 = .ok (.getfield 15, 3) := by decide +kernel
theorem dX8_copyFrom_23 : decode cX8_copyFrom 23 = .ok (.iconst 0, 1) := by decide +kernel
theorem dX8_copyFrom_24 : decode cX8_copyFrom 24 = .ok (.iconst 5, 1) := by decide +kernel
theorem dX8_copyFrom_25 : decode cX8_copyFrom 25 = .ok (.invokestatic 34, 3) := by decide +kernel
theorem dX8_copyFrom_28 : decode cX8_copyFrom 28 = .ok (.aload_n 1, 1) := by decide +kernel
theorem dX8_copyFrom_29 : decode cX8_copyFrom 29 = .ok (.getfield 18, 3) := by decide +kernel
theorem dX8_copyFrom_32 : decode cX8_copyFrom 32 = .ok (.iconst 0, 1) := by decide +kernel
theorem dX8_copyFrom_33 : decode cX8_copyFrom 33 = .ok (.aload_n 0, 1) := by decide +kernel
theorem dX8_copyFrom_34 : decode cX8_copyFrom 34 = .ok (.getfield 18, 3) := by decide +kernel
theorem dX8_copyFrom_37 : decode cX8_copyFrom 37 = .ok (.iconst 0, 1) := by decide +kernel
theorem dX8_copyFrom_38 : decode cX8_copyFrom 38 = .ok (.bipush 6, 2) := by decide +kernel
theorem dX8_copyFrom_40 : decode cX8_copyFrom 40 = .ok (.invokestatic 34, 3) := by decide +kernel
theorem dX8_copyFrom_43 : decode cX8_copyFrom 43 = .ok (.aload_n 1, 1) := by decide +kernel
theorem dX8_copyFrom_44 : decode cX8_copyFrom 44 = .ok (.getfield 21, 3) := by decide +kernel
theorem dX8_copyFrom_47 : decode cX8_copyFrom 47 = .ok (.iconst 0, 1) := by decide +kernel
theorem dX8_copyFrom_48 : decode cX8_copyFrom 48 = .ok (.aload_n 0, 1) := by decide +kernel
theorem dX8_copyFrom_49 : decode cX8_copyFrom 49 = .ok (.getfield 21, 3) := by decide +kernel
theorem dX8_copyFrom_52 : decode cX8_copyFrom 52 = .ok (.iconst 0, 1) := by decide +kernel
theorem dX8_copyFrom_53 : decode cX8_copyFrom 53 = .ok (.bipush 6, 2) := by decide +kernel
theorem dX8_copyFrom_55 : decode cX8_copyFrom 55 = .ok (.invokestatic 34, 3) := by decide +kernel
theorem dX8_copyFrom_58 : decode cX8_copyFrom 58 = .ok (.aload_n 1, 1) := by decide +kernel
theorem dX8_copyFrom_59 : decode cX8_copyFrom 59 = .ok (.getfield 24, 3) := by decide +kernel
theorem dX8_copyFrom_62 : decode cX8_copyFrom 62 = .ok (.iconst 0, 1) := by decide +kernel
theorem dX8_copyFrom_63 : decode cX8_copyFrom 63 = .ok (.aload_n 0, 1) := by decide +kernel
theorem dX8_copyFrom_64 : decode cX8_copyFrom 64 = .ok (.getfield 24, 3) := by decide +kernel
theorem dX8_copyFrom_67 : decode cX8_copyFrom 67 = .ok (.iconst 0, 1) := by decide +kernel
theorem dX8_copyFrom_68 : decode cX8_copyFrom 68 = .ok (.bipush 6, 2) := by decide +kernel
theorem dX8_copyFrom_70 : decode cX8_copyFrom 70 = .ok (.invokestatic 34, 3) := by decide +kernel
theorem dX8_copyFrom_73 : decode cX8_copyFrom 73 = .ok (.aload_n 0, 1) := by decide +kernel
theorem dX8_copyFrom_74 : decode cX8_copyFrom 74 = .ok (.aload_n 1, 1) := by decide +kernel
theorem dX8_copyFrom_75 : decode cX8_copyFrom 75 = .ok (.getfield 27, 3) := by decide +kernel
theorem dX8_copyFrom_78 : decode cX8_copyFrom 78 = .ok (.putfield 27, 3) := by decide +kernel
theorem dX8_copyFrom_81 : decode cX8_copyFrom 81 = .ok (.aload_n 0, 1) := by decide +kernel
theorem dX8_copyFrom_82 : decode cX8_copyFrom 82 = .ok (.aload_n 1, 1) := by decide +kernel
theorem dX8_copyFrom_83 : decode cX8_copyFrom 83 = .ok (.getfield 52, 3) := by decide +kernel
theorem dX8_copyFrom_86 : decode cX8_copyFrom 86 = .ok (.putfield 52, 3) := by decide +kernel
theorem dX8_copyFrom_89 : decode cX8_copyFrom 89 = .ok (.aload_n 0, 1) := by decide +kernel
theorem dX8_copyFrom_90 : decode cX8_copyFrom 90 = .ok (.aload_n 1, 1) := by decide +kernel
theorem dX8_copyFrom_91 : decode cX8_copyFrom 91 = .ok (.getfield 53, 3) := by decide +kernel
theorem dX8_copyFrom_94 : decode cX8_copyFrom 94 = .ok (.putfield 53, 3) := by decide +kernel
theorem dX8_copyFrom_97 : decode cX8_copyFrom 97 = .ok (.return_, 1) := by decide +kernel
theorem lk_TrapCorner_State_9 : LK "TrapCorner$State" 9 [8] 0 := by
  intro ci hci
  have hci := List.mem_singleton.mp hci
  subst hci
  exact ⟨RX8, TX8, 8, "TrapCorner$State", ck_8, by decide, tw_200, Or.inl rfl⟩
theorem lk_TrapCorner_State_15 : LK "TrapCorner$State" 15 [8] 1 := by
  intro ci hci
  have hci := List.mem_singleton.mp hci
  subst hci
  exact ⟨RX8, TX8, 8, "TrapCorner$State", ck_8, by decide, tw_203, Or.inl rfl⟩
theorem lk_TrapCorner_State_18 : LK "TrapCorner$State" 18 [8] 2 := by
  intro ci hci
  have hci := List.mem_singleton.mp hci
  subst hci
  exact ⟨RX8, TX8, 8, "TrapCorner$State", ck_8, by decide, tw_206, Or.inl rfl⟩
theorem lk_TrapCorner_State_21 : LK "TrapCorner$State" 21 [8] 3 := by
  intro ci hci
  have hci := List.mem_singleton.mp hci
  subst hci
  exact ⟨RX8, TX8, 8, "TrapCorner$State", ck_8, by decide, tw_209, Or.inl rfl⟩
theorem lk_TrapCorner_State_24 : LK "TrapCorner$State" 24 [8] 4 := by
  intro ci hci
  have hci := List.mem_singleton.mp hci
  subst hci
  exact ⟨RX8, TX8, 8, "TrapCorner$State", ck_8, by decide, tw_212, Or.inl rfl⟩
theorem lk_TrapCorner_State_27 : LK "TrapCorner$State" 27 [8] 5 := by
  intro ci hci
  have hci := List.mem_singleton.mp hci
  subst hci
  exact ⟨RX8, TX8, 8, "TrapCorner$State", ck_8, by decide, tw_215, Or.inl rfl⟩
theorem lp_TrapCorner_State_27 : LKP "TrapCorner$State" 27 [8] 5 (.int) := by
  intro ci hci
  have hci := List.mem_singleton.mp hci
  subst hci
  exact ⟨RX8, TX8, 8, "TrapCorner$State", ck_8, by decide, tw_215, Or.inl rfl, rfl, by decide +kernel⟩
theorem lk_TrapCorner_State_52 : LK "TrapCorner$State" 52 [8] 6 := by
  intro ci hci
  have hci := List.mem_singleton.mp hci
  subst hci
  exact ⟨RX8, TX8, 8, "TrapCorner$State", ck_8, by decide, tw_218, Or.inl rfl⟩
theorem lp_TrapCorner_State_52 : LKP "TrapCorner$State" 52 [8] 6 (.int) := by
  intro ci hci
  have hci := List.mem_singleton.mp hci
  subst hci
  exact ⟨RX8, TX8, 8, "TrapCorner$State", ck_8, by decide, tw_218, Or.inl rfl, rfl, by decide +kernel⟩
theorem lk_TrapCorner_State_53 : LK "TrapCorner$State" 53 [8] 7 := by
  intro ci hci
  have hci := List.mem_singleton.mp hci
  subst hci
  exact ⟨RX8, TX8, 8, "TrapCorner$State", ck_8, by decide, tw_221, Or.inl rfl⟩
theorem lp_TrapCorner_State_53 : LKP "TrapCorner$State" 53 [8] 7 (.int) := by
  intro ci hci
  have hci := List.mem_singleton.mp hci
  subst hci
  exact ⟨RX8, TX8, 8, "TrapCorner$State", ck_8, by decide, tw_221, Or.inl rfl, rfl, by decide +kernel⟩
section
variable {g : GG} {p : Program} {l : Launch} {e : Env} {R : Room} {s : State} {m : MethodId} {args : Array Value} {below : List Frame} {meth : Method} {c : Code} {n0 z0 : Nat}
def f_X8_copyFrom_0  (o0 : Nat) (o1 : Nat) (h : AH) : Option (Unit × AH) :=
  (gR [8] h o1 0).bind fun v1 =>
  (gR [8] h o0 0).bind fun v3 =>
  (aCpy h v1 0 v3 0 5).bind fun h5 =>
  (gR [8] h5 o1 1).bind fun v7 =>
  (gR [8] h5 o0 1).bind fun v9 =>
  (aCpy h5 v7 0 v9 0 5).bind fun h11 =>
  (gR [8] h11 o1 2).bind fun v13 =>
  (gR [8] h11 o0 2).bind fun v15 =>
  (aCpy h11 v13 0 v15 0 6).bind fun h17 =>
  (gR [8] h17 o1 3).bind fun v19 =>
  (gR [8] h17 o0 3).bind fun v21 =>
  (aCpy h17 v19 0 v21 0 6).bind fun h23 =>
  (gR [8] h23 o1 4).bind fun v25 =>
  (gR [8] h23 o0 4).bind fun v27 =>
  (aCpy h23 v25 0 v27 0 6).bind fun h29 =>
  (gI [8] h29 o1 5).bind fun v31 =>
  (pV [8] h29 o0 5 (.int v31)).bind fun h33 =>
  (gI [8] h33 o1 6).bind fun v35 =>
  (pV [8] h33 o0 6 (.int v35)).bind fun h37 =>
  (gI [8] h37 o1 7).bind fun v39 =>
  (pV [8] h37 o0 7 (.int v39)).bind fun h41 =>
  some ((), h41)
set_option maxHeartbeats 1000000 in
theorem w_X8_copyFrom_0 (X : Cx g p s m args meth c cX8_copyFrom 2 "TrapCorner$State") (hR : 1 ≤ R.frames ∧ 64 ≤ R.locals) (hr : meth.sig.returnType = none) {res : Unit × AH} : ∀ (o0 : Nat) (o1 : Nat) (h : AH) (ls : Array Slot) (H : Heap) (locs : List Loc), f_X8_copyFrom_0 o0 o1 h = some res → Iv g s n0 z0 h H locs 0 0 → lv_has ls 2 [(0, .ref (rfG g o0)), (1, .ref (rfG g o1))] → W p l e R s m args below meth c H locs 0 0 (MQ below (QG g none res.2) args s 0 0 (AG g)) (F0 m 0 ls []) := by
  have hx := X.1
  have hb := X.2.1
  intro o0 o1 h ls H locs hf I hl
  unfold f_X8_copyFrom_0 at hf
  refine lv_aload_n hx hb dX8_copyFrom_0 rfl (lv_at hl 1 rfl) ?_
  obtain ⟨v1, e2, hf⟩ := Option.bind_eq_some_iff.mp hf
  refine r_gR X I e2 lk_TrapCorner_State_9 dX8_copyFrom_1 ?_
  refine lv_iconst (v := 0) hx hb dX8_copyFrom_4 (by decide) ?_
  refine lv_aload_n hx hb dX8_copyFrom_5 rfl (lv_at hl 0 rfl) ?_
  obtain ⟨v3, e4, hf⟩ := Option.bind_eq_some_iff.mp hf
  refine r_gR X I e4 lk_TrapCorner_State_9 dX8_copyFrom_6 ?_
  refine lv_iconst (v := 0) hx hb dX8_copyFrom_9 (by decide) ?_
  refine lv_iconst (v := 5) hx hb dX8_copyFrom_10 (by decide) ?_
  obtain ⟨h5, e6, hf⟩ := Option.bind_eq_some_iff.mp hf
  refine r_cpy X I e6 tw_745 ⟨Nat.le_trans (by decide) hR.1, Nat.le_trans (by decide) hR.2⟩ hl.1 (Nat.le_of_ble_eq_true rfl) dX8_copyFrom_11 (fun H locs I => ?_)
  refine lv_aload_n hx hb dX8_copyFrom_14 rfl (lv_at hl 1 rfl) ?_
  obtain ⟨v7, e8, hf⟩ := Option.bind_eq_some_iff.mp hf
  refine r_gR X I e8 lk_TrapCorner_State_15 dX8_copyFrom_15 ?_
  refine lv_iconst (v := 0) hx hb dX8_copyFrom_18 (by decide) ?_
  refine lv_aload_n hx hb dX8_copyFrom_19 rfl (lv_at hl 0 rfl) ?_
  obtain ⟨v9, e10, hf⟩ := Option.bind_eq_some_iff.mp hf
  refine r_gR X I e10 lk_TrapCorner_State_15 dX8_copyFrom_20 ?_
  refine lv_iconst (v := 0) hx hb dX8_copyFrom_23 (by decide) ?_
  refine lv_iconst (v := 5) hx hb dX8_copyFrom_24 (by decide) ?_
  obtain ⟨h11, e12, hf⟩ := Option.bind_eq_some_iff.mp hf
  refine r_cpy X I e12 tw_745 ⟨Nat.le_trans (by decide) hR.1, Nat.le_trans (by decide) hR.2⟩ hl.1 (Nat.le_of_ble_eq_true rfl) dX8_copyFrom_25 (fun H locs I => ?_)
  refine lv_aload_n hx hb dX8_copyFrom_28 rfl (lv_at hl 1 rfl) ?_
  obtain ⟨v13, e14, hf⟩ := Option.bind_eq_some_iff.mp hf
  refine r_gR X I e14 lk_TrapCorner_State_18 dX8_copyFrom_29 ?_
  refine lv_iconst (v := 0) hx hb dX8_copyFrom_32 (by decide) ?_
  refine lv_aload_n hx hb dX8_copyFrom_33 rfl (lv_at hl 0 rfl) ?_
  obtain ⟨v15, e16, hf⟩ := Option.bind_eq_some_iff.mp hf
  refine r_gR X I e16 lk_TrapCorner_State_18 dX8_copyFrom_34 ?_
  refine lv_iconst (v := 0) hx hb dX8_copyFrom_37 (by decide) ?_
  refine lv_bipush (v := 6) hx hb dX8_copyFrom_38 (by decide) ?_
  obtain ⟨h17, e18, hf⟩ := Option.bind_eq_some_iff.mp hf
  refine r_cpy X I e18 tw_745 ⟨Nat.le_trans (by decide) hR.1, Nat.le_trans (by decide) hR.2⟩ hl.1 (Nat.le_of_ble_eq_true rfl) dX8_copyFrom_40 (fun H locs I => ?_)
  refine lv_aload_n hx hb dX8_copyFrom_43 rfl (lv_at hl 1 rfl) ?_
  obtain ⟨v19, e20, hf⟩ := Option.bind_eq_some_iff.mp hf
  refine r_gR X I e20 lk_TrapCorner_State_21 dX8_copyFrom_44 ?_
  refine lv_iconst (v := 0) hx hb dX8_copyFrom_47 (by decide) ?_
  refine lv_aload_n hx hb dX8_copyFrom_48 rfl (lv_at hl 0 rfl) ?_
  obtain ⟨v21, e22, hf⟩ := Option.bind_eq_some_iff.mp hf
  refine r_gR X I e22 lk_TrapCorner_State_21 dX8_copyFrom_49 ?_
  refine lv_iconst (v := 0) hx hb dX8_copyFrom_52 (by decide) ?_
  refine lv_bipush (v := 6) hx hb dX8_copyFrom_53 (by decide) ?_
  obtain ⟨h23, e24, hf⟩ := Option.bind_eq_some_iff.mp hf
  refine r_cpy X I e24 tw_745 ⟨Nat.le_trans (by decide) hR.1, Nat.le_trans (by decide) hR.2⟩ hl.1 (Nat.le_of_ble_eq_true rfl) dX8_copyFrom_55 (fun H locs I => ?_)
  refine lv_aload_n hx hb dX8_copyFrom_58 rfl (lv_at hl 1 rfl) ?_
  obtain ⟨v25, e26, hf⟩ := Option.bind_eq_some_iff.mp hf
  refine r_gR X I e26 lk_TrapCorner_State_24 dX8_copyFrom_59 ?_
  refine lv_iconst (v := 0) hx hb dX8_copyFrom_62 (by decide) ?_
  refine lv_aload_n hx hb dX8_copyFrom_63 rfl (lv_at hl 0 rfl) ?_
  obtain ⟨v27, e28, hf⟩ := Option.bind_eq_some_iff.mp hf
  refine r_gR X I e28 lk_TrapCorner_State_24 dX8_copyFrom_64 ?_
  refine lv_iconst (v := 0) hx hb dX8_copyFrom_67 (by decide) ?_
  refine lv_bipush (v := 6) hx hb dX8_copyFrom_68 (by decide) ?_
  obtain ⟨h29, e30, hf⟩ := Option.bind_eq_some_iff.mp hf
  refine r_cpy X I e30 tw_745 ⟨Nat.le_trans (by decide) hR.1, Nat.le_trans (by decide) hR.2⟩ hl.1 (Nat.le_of_ble_eq_true rfl) dX8_copyFrom_70 (fun H locs I => ?_)
  refine lv_aload_n hx hb dX8_copyFrom_73 rfl (lv_at hl 0 rfl) ?_
  refine lv_aload_n hx hb dX8_copyFrom_74 rfl (lv_at hl 1 rfl) ?_
  obtain ⟨v31, e32, hf⟩ := Option.bind_eq_some_iff.mp hf
  refine r_gI X I e32 lk_TrapCorner_State_27 dX8_copyFrom_75 ?_
  obtain ⟨h33, e34, hf⟩ := Option.bind_eq_some_iff.mp hf
  refine r_pI X I e34 lp_TrapCorner_State_27 dX8_copyFrom_78 (fun H locs I => ?_)
  refine lv_aload_n hx hb dX8_copyFrom_81 rfl (lv_at hl 0 rfl) ?_
  refine lv_aload_n hx hb dX8_copyFrom_82 rfl (lv_at hl 1 rfl) ?_
  obtain ⟨v35, e36, hf⟩ := Option.bind_eq_some_iff.mp hf
  refine r_gI X I e36 lk_TrapCorner_State_52 dX8_copyFrom_83 ?_
  obtain ⟨h37, e38, hf⟩ := Option.bind_eq_some_iff.mp hf
  refine r_pI X I e38 lp_TrapCorner_State_52 dX8_copyFrom_86 (fun H locs I => ?_)
  refine lv_aload_n hx hb dX8_copyFrom_89 rfl (lv_at hl 0 rfl) ?_
  refine lv_aload_n hx hb dX8_copyFrom_90 rfl (lv_at hl 1 rfl) ?_
  obtain ⟨v39, e40, hf⟩ := Option.bind_eq_some_iff.mp hf
  refine r_gI X I e40 lk_TrapCorner_State_53 dX8_copyFrom_91 ?_
  obtain ⟨h41, e42, hf⟩ := Option.bind_eq_some_iff.mp hf
  refine r_pI X I e42 lp_TrapCorner_State_53 dX8_copyFrom_94 (fun H locs I => ?_)
  cases hf
  exact k_rv X I hr dX8_copyFrom_97
def f_X8_copyFrom (o0 : Nat) (o1 : Nat) (h : AH) : Option (Unit × AH) := f_X8_copyFrom_0 o0 o1 h
end
theorem c_X8_copyFrom (l : Launch) (g : GG) (o0 : Nat) (o1 : Nat) {h : AH} {res : Unit × AH} (hf : f_X8_copyFrom o0 o1 h = some res) : CM l g yX8_copyFrom cX8_copyFrom 2 none 1 64 0 0 [.ref (rfG g o0), .ref (rfG g o1)] h none res.2 :=
  k_body (by decide) (Nat.le_of_ble_eq_true rfl) (fun p e s m below meth c R ls hR hr X I hl => w_X8_copyFrom_0 X ⟨Nat.le_of_eq hR.1.symm, Nat.le_of_eq hR.2.1.symm⟩ hr o0 o1 h ls s.heap [] hf I (lv_sub hl [0, 1] rfl))
/-! TrapCorner$Tape.bytesIn(I)I -/
theorem dX9_bytesIn_0 : decode cX9_bytesIn 0 = .ok (.iconst 0, 1) := by decide +kernel
theorem dX9_bytesIn_1 : decode cX9_bytesIn 1 = .ok (.istore_n 2, 1) := by decide +kernel
theorem dX9_bytesIn_2 : decode cX9_bytesIn 2 = .ok (.bipush 24, 2) := by decide +kernel
theorem dX9_bytesIn_4 : decode cX9_bytesIn 4 = .ok (.istore_n 3, 1) := by decide +kernel
theorem dX9_bytesIn_5 : decode cX9_bytesIn 5 = .ok (.iload_n 3, 1) := by decide +kernel
theorem dX9_bytesIn_6 : decode cX9_bytesIn 6 = .ok (.ifCond .lt 27, 3) := by decide +kernel
theorem dX9_bytesIn_9 : decode cX9_bytesIn 9 = .ok (.iload_n 2, 1) := by decide +kernel
theorem dX9_bytesIn_10 : decode cX9_bytesIn 10 = .ok (.iload_n 1, 1) := by decide +kernel
theorem dX9_bytesIn_11 : decode cX9_bytesIn 11 = .ok (.iload_n 3, 1) := by decide +kernel
theorem dX9_bytesIn_12 : decode cX9_bytesIn 12 = .ok (.iushr, 1) := by decide +kernel
theorem dX9_bytesIn_13 : decode cX9_bytesIn 13 = .ok (.sipush 255, 3) := by decide +kernel
theorem dX9_bytesIn_16 : decode cX9_bytesIn 16 = .ok (.iand, 1) := by decide +kernel
theorem dX9_bytesIn_17 : decode cX9_bytesIn 17 = .ok (.ifCond .ne 7, 3) := by decide +kernel
theorem dX9_bytesIn_20 : decode cX9_bytesIn 20 = .ok (.iconst 0, 1) := by decide +kernel
theorem dX9_bytesIn_21 : decode cX9_bytesIn 21 = .ok (.goto 4, 3) := by decide +kernel
theorem dX9_bytesIn_24 : decode cX9_bytesIn 24 = .ok (.iconst 1, 1) := by decide +kernel
theorem dX9_bytesIn_25 : decode cX9_bytesIn 25 = .ok (.iadd, 1) := by decide +kernel
theorem dX9_bytesIn_26 : decode cX9_bytesIn 26 = .ok (.istore_n 2, 1) := by decide +kernel
theorem dX9_bytesIn_27 : decode cX9_bytesIn 27 = .ok (.iinc 3 (-8), 3) := by decide +kernel
theorem dX9_bytesIn_30 : decode cX9_bytesIn 30 = .ok (.goto (-25), 3) := by decide +kernel
theorem dX9_bytesIn_33 : decode cX9_bytesIn 33 = .ok (.iload_n 2, 1) := by decide +kernel
theorem dX9_bytesIn_34 : decode cX9_bytesIn 34 = .ok (.ireturn, 1) := by decide +kernel
section
variable {g : GG} {p : Program} {l : Launch} {e : Env} {R : Room} {s : State} {m : MethodId} {args : Array Value} {below : List Frame} {meth : Method} {c : Code} {n0 z0 : Nat}
def f_X9_bytesIn_25 (k5 : Int32 → Int32 → Int32 → AH → Option (Int32 × AH)) (x1 : Int32) (x3 : Int32) (s0 : Int32) (s1 : Int32) (h : AH) : Option (Int32 × AH) :=
  k5 x1 (s0 + s1) (x3 + (-8)) h
set_option maxHeartbeats 1000000 in
theorem w_X9_bytesIn_25 (X : Cx g p s m args meth c cX9_bytesIn 4 "TrapCorner$Tape") (hR : 1 ≤ R.frames ∧ 64 ≤ R.locals) (hr : meth.sig.returnType = (some (.int))) {res : Int32 × AH} {k5 : Int32 → Int32 → Int32 → AH → Option (Int32 × AH)} (hk5 : ∀ (x1 : Int32) (x2 : Int32) (x3 : Int32) (h : AH) (ls : Array Slot) (H : Heap) (locs : List Loc), k5 x1 x2 x3 h = some res → Iv g s n0 z0 h H locs 0 0 → lv_has ls 4 [(1, .int x1), (2, .int x2), (3, .int x3)] → W p l e R s m args below meth c H locs 0 0 (MQ below (QG g (some (.int res.1)) res.2) args s 0 0 (AG g)) (F0 m 5 ls [])) : ∀ (x1 : Int32) (x3 : Int32) (s0 : Int32) (s1 : Int32) (h : AH) (ls : Array Slot) (H : Heap) (locs : List Loc), f_X9_bytesIn_25 k5 x1 x3 s0 s1 h = some res → Iv g s n0 z0 h H locs 0 0 → lv_has ls 4 [(1, .int x1), (3, .int x3)] → W p l e R s m args below meth c H locs 0 0 (MQ below (QG g (some (.int res.1)) res.2) args s 0 0 (AG g)) (F0 m 25 ls [.int s1, .int s0]) := by
  have hx := X.1
  have hb := X.2.1
  intro x1 x3 s0 s1 h ls H locs hf I hl
  unfold f_X9_bytesIn_25 at hf
  refine lv_iadd hx hb dX9_bytesIn_25 ?_
  refine lv_istore_n (lv' := [(2, .int (s0 + s1)), (1, .int x1), (3, .int x3)]) hx hb dX9_bytesIn_26 rfl hl (by decide) rfl (fun ls hl => ?_)
  refine lv_iinc (v := x3 + (-8)) (lv' := [(3, .int (x3 + (-8))), (2, .int (s0 + s1)), (1, .int x1)]) hx hb dX9_bytesIn_27 hl (k := 2) rfl rfl (by decide) rfl (fun ls hl => ?_)
  refine lv_goto (tgt := 5) hx hb dX9_bytesIn_30 (by decide) ?_
  exact hk5 x1 (s0 + s1) (x3 + (-8)) h ls H locs hf I (lv_sub hl [2, 1, 0] rfl)
def f_X9_bytesIn_5  : Nat → Int32 → Int32 → Int32 → AH → Option (Int32 × AH)
  | 0, _, _, _, _ => none
  | n + 1, x1, x2, x3, h =>
  if x3 < 0 then
    some (x2, h)
  else
    if (((x1.toUInt32 >>> (x3.toUInt32 &&& Int32.toUInt32 31)).toInt32) &&& 255) = 0 then
      f_X9_bytesIn_25 (f_X9_bytesIn_5 n) x1 x3 x2 0 h
    else
      f_X9_bytesIn_25 (f_X9_bytesIn_5 n) x1 x3 x2 1 h
set_option maxHeartbeats 1000000 in
theorem w_X9_bytesIn_5 (X : Cx g p s m args meth c cX9_bytesIn 4 "TrapCorner$Tape") (hR : 1 ≤ R.frames ∧ 64 ≤ R.locals) (hr : meth.sig.returnType = (some (.int))) {res : Int32 × AH} : ∀ (n : Nat) (x1 : Int32) (x2 : Int32) (x3 : Int32) (h : AH) (ls : Array Slot) (H : Heap) (locs : List Loc), f_X9_bytesIn_5 n x1 x2 x3 h = some res → Iv g s n0 z0 h H locs 0 0 → lv_has ls 4 [(1, .int x1), (2, .int x2), (3, .int x3)] → W p l e R s m args below meth c H locs 0 0 (MQ below (QG g (some (.int res.1)) res.2) args s 0 0 (AG g)) (F0 m 5 ls []) := by
  have hx := X.1
  have hb := X.2.1
  intro n
  induction n with
  | zero =>
    intro x1 x2 x3 h ls H locs hf
    rw [f_X9_bytesIn_5.eq_1] at hf
    cases hf
  | succ n ih =>
    intro x1 x2 x3 h ls H locs hf I hl
    rw [f_X9_bytesIn_5.eq_2] at hf
    refine lv_iload_n hx hb dX9_bytesIn_5 rfl (lv_at hl 2 rfl) ?_
    refine lv_if_lt (tgt := 33) hx hb dX9_bytesIn_6 (by decide) (fun c1 => ?_) (fun c1 => ?_)
    · rw [if_pos c1] at hf
      refine lv_iload_n hx hb dX9_bytesIn_33 rfl (lv_at hl 1 rfl) ?_
      cases hf
      exact k_ri X I hr dX9_bytesIn_34
    · rw [if_neg c1] at hf
      refine lv_iload_n hx hb dX9_bytesIn_9 rfl (lv_at hl 1 rfl) ?_
      refine lv_iload_n hx hb dX9_bytesIn_10 rfl (lv_at hl 0 rfl) ?_
      refine lv_iload_n hx hb dX9_bytesIn_11 rfl (lv_at hl 2 rfl) ?_
      refine lv_iushr hx hb dX9_bytesIn_12 rfl ?_
      refine lv_sipush (v := 255) hx hb dX9_bytesIn_13 (by decide) ?_
      refine lv_iand hx hb dX9_bytesIn_16 ?_
      refine lv_if_ne (tgt := 24) hx hb dX9_bytesIn_17 (by decide) (fun c2 => ?_) (fun c2 => ?_)
      · rw [if_neg c2] at hf
        refine lv_iconst (v := 1) hx hb dX9_bytesIn_24 (by decide) ?_
        exact w_X9_bytesIn_25 X hR hr ih x1 x3 x2 1 h ls H locs hf I (lv_sub hl [0, 2] rfl)
      · rw [if_pos c2] at hf
        refine lv_iconst (v := 0) hx hb dX9_bytesIn_20 (by decide) ?_
        refine lv_goto (tgt := 25) hx hb dX9_bytesIn_21 (by decide) ?_
        exact w_X9_bytesIn_25 X hR hr ih x1 x3 x2 0 h ls H locs hf I (lv_sub hl [0, 2] rfl)
def f_X9_bytesIn_0  (x1 : Int32) (h : AH) : Option (Int32 × AH) :=
  f_X9_bytesIn_5 fu x1 0 24 h
set_option maxHeartbeats 1000000 in
theorem w_X9_bytesIn_0 (X : Cx g p s m args meth c cX9_bytesIn 4 "TrapCorner$Tape") (hR : 1 ≤ R.frames ∧ 64 ≤ R.locals) (hr : meth.sig.returnType = (some (.int))) {res : Int32 × AH} : ∀ (x1 : Int32) (h : AH) (ls : Array Slot) (H : Heap) (locs : List Loc), f_X9_bytesIn_0 x1 h = some res → Iv g s n0 z0 h H locs 0 0 → lv_has ls 4 [(1, .int x1)] → W p l e R s m args below meth c H locs 0 0 (MQ below (QG g (some (.int res.1)) res.2) args s 0 0 (AG g)) (F0 m 0 ls []) := by
  have hx := X.1
  have hb := X.2.1
  intro x1 h ls H locs hf I hl
  unfold f_X9_bytesIn_0 at hf
  refine lv_iconst (v := 0) hx hb dX9_bytesIn_0 (by decide) ?_
  refine lv_istore_n (lv' := [(2, .int 0), (1, .int x1)]) hx hb dX9_bytesIn_1 rfl hl (by decide) rfl (fun ls hl => ?_)
  refine lv_bipush (v := 24) hx hb dX9_bytesIn_2 (by decide) ?_
  refine lv_istore_n (lv' := [(3, .int 24), (2, .int 0), (1, .int x1)]) hx hb dX9_bytesIn_4 rfl hl (by decide) rfl (fun ls hl => ?_)
  exact w_X9_bytesIn_5 X hR hr fu x1 0 24 h ls H locs hf I (lv_sub hl [2, 1, 0] rfl)
def f_X9_bytesIn (o0 : Nat) (x1 : Int32) (h : AH) : Option (Int32 × AH) := f_X9_bytesIn_0 x1 h
end
theorem c_X9_bytesIn (l : Launch) (g : GG) (o0 : Nat) (x1 : Int32) {h : AH} {res : Int32 × AH} (hf : f_X9_bytesIn o0 x1 h = some res) : CM l g yX9_bytesIn cX9_bytesIn 4 (some (.int)) 1 64 0 0 [.ref (rfG g o0), .int x1] h (some (.int res.1)) res.2 :=
  k_body (by decide) (Nat.le_of_ble_eq_true rfl) (fun p e s m below meth c R ls hR hr X I hl => w_X9_bytesIn_0 X ⟨Nat.le_of_eq hR.1.symm, Nat.le_of_eq hR.2.1.symm⟩ hr x1 h ls s.heap [] hf I (lv_sub hl [1] rfl))
/-! TrapCorner$Tape.put(I)V -/
theorem dX9_put_0 : decode cX9_put 0 = .ok (.bipush 24, 2) := by decide +kernel
theorem dX9_put_2 : decode cX9_put 2 = .ok (.istore_n 2, 1) := by decide +kernel
theorem dX9_put_3 : decode cX9_put 3 = .ok (.iload_n 2, 1) := by decide +kernel
theorem dX9_put_4 : decode cX9_put 4 = .ok (.ifCond .lt 53, 3) := by decide +kernel
theorem dX9_put_7 : decode cX9_put 7 = .ok (.iload_n 1, 1) := by decide +kernel
theorem dX9_put_8 : decode cX9_put 8 = .ok (.iload_n 2, 1) := by decide +kernel
theorem dX9_put_9 : decode cX9_put 9 = .ok (.iushr, 1) := by decide +kernel
theorem dX9_put_10 : decode cX9_put 10 = .ok (.sipush 255, 3) := by decide +kernel
theorem dX9_put_13 : decode cX9_put 13 = .ok (.iand, 1) := by decide +kernel
theorem dX9_put_14 : decode cX9_put 14 = .ok (.istore_n 3, 1) := by decide +kernel
theorem dX9_put_15 : decode cX9_put 15 = .ok (.iload_n 3, 1) := by decide +kernel
theorem dX9_put_16 : decode cX9_put 16 = .ok (.ifCond .eq 35, 3) := by decide +kernel
theorem dX9_put_19 : decode cX9_put 19 = .ok (.aload_n 0, 1) := by decide +kernel
theorem dX9_put_20 : decode cX9_put 20 = .ok (.getfield 15, 3) := by decide +kernel
theorem dX9_put_23 : decode cX9_put 23 = .ok (.aload_n 0, 1) := by decide +kernel
theorem dX9_put_24 : decode cX9_put 24 = .ok (.getfield 9, 3) := by decide +kernel
theorem dX9_put_27 : decode cX9_put 27 = .ok (.arraylength, 1) := by decide +kernel
theorem dX9_put_28 : decode cX9_put 28 = .ok (.if_icmp .ge 23, 3) := by decide +kernel
theorem dX9_put_31 : decode cX9_put 31 = .ok (.aload_n 0, 1) := by decide +kernel
theorem dX9_put_32 : decode cX9_put 32 = .ok (.getfield 9, 3) := by decide +kernel
theorem dX9_put_35 : decode cX9_put 35 = .ok (.aload_n 0, 1) := by decide +kernel
theorem dX9_put_36 : decode cX9_put 36 = .ok (.getfield 15, 3) := by decide +kernel
theorem dX9_put_39 : decode cX9_put 39 = .ok (.iload_n 3, 1) := by decide +kernel
theorem dX9_put_40 : decode cX9_put 40 = .ok (.iastore, 1) := by decide +kernel
theorem dX9_put_41 : decode cX9_put 41 = .ok (.aload_n 0, 1) := by decide +kernel
theorem dX9_put_42 : decode cX9_put 42 = .ok (.dup, 1) := by decide +kernel
theorem dX9_put_43 : decode cX9_put 43 = .ok (.getfield 15, 3) := by decide +kernel
theorem dX9_put_46 : decode cX9_put 46 = .ok (.iconst 1, 1) := by decide +kernel
theorem dX9_put_47 : decode cX9_put 47 = .ok (.iadd, 1) := by decide +kernel
theorem dX9_put_48 : decode cX9_put 48 = .ok (.putfield 15, 3) := by decide +kernel
theorem dX9_put_51 : decode cX9_put 51 = .ok (.iinc 2 (-8), 3) := by decide +kernel
theorem dX9_put_54 : decode cX9_put 54 = .ok (.goto (-51), 3) := by decide +kernel
theorem dX9_put_57 : decode cX9_put 57 = .ok (.return_, 1) := by decide +kernel
theorem lk_TrapCorner_Tape_15 : LK "TrapCorner$Tape" 15 [9] 1 := by
  intro ci hci
  have hci := List.mem_singleton.mp hci
  subst hci
  exact ⟨RX9, TX9, 2, "TrapCorner$Tape", ck_9, by decide, tw_45, Or.inl rfl⟩
theorem lk_TrapCorner_Tape_9 : LK "TrapCorner$Tape" 9 [9] 0 := by
  intro ci hci
  have hci := List.mem_singleton.mp hci
  subst hci
  exact ⟨RX9, TX9, 2, "TrapCorner$Tape", ck_9, by decide, tw_41, Or.inl rfl⟩
theorem lp_TrapCorner_Tape_15 : LKP "TrapCorner$Tape" 15 [9] 1 (.int) := by
  intro ci hci
  have hci := List.mem_singleton.mp hci
  subst hci
  exact ⟨RX9, TX9, 2, "TrapCorner$Tape", ck_9, by decide, tw_45, Or.inl rfl, rfl, by decide +kernel⟩
section
variable {g : GG} {p : Program} {l : Launch} {e : Env} {R : Room} {s : State} {m : MethodId} {args : Array Value} {below : List Frame} {meth : Method} {c : Code} {n0 z0 : Nat}
def f_X9_put_51 (k3 : Nat → Int32 → Int32 → AH → Option (Unit × AH)) (o0 : Nat) (x1 : Int32) (x2 : Int32) (h : AH) : Option (Unit × AH) :=
  k3 o0 x1 (x2 + (-8)) h
set_option maxHeartbeats 1000000 in
theorem w_X9_put_51 (X : Cx g p s m args meth c cX9_put 4 "TrapCorner$Tape") (hR : 1 ≤ R.frames ∧ 64 ≤ R.locals) (hr : meth.sig.returnType = none) {res : Unit × AH} {k3 : Nat → Int32 → Int32 → AH → Option (Unit × AH)} (hk3 : ∀ (o0 : Nat) (x1 : Int32) (x2 : Int32) (h : AH) (ls : Array Slot) (H : Heap) (locs : List Loc), k3 o0 x1 x2 h = some res → Iv g s n0 z0 h H locs 0 0 → lv_has ls 4 [(0, .ref (rfG g o0)), (1, .int x1), (2, .int x2)] → W p l e R s m args below meth c H locs 0 0 (MQ below (QG g none res.2) args s 0 0 (AG g)) (F0 m 3 ls [])) : ∀ (o0 : Nat) (x1 : Int32) (x2 : Int32) (h : AH) (ls : Array Slot) (H : Heap) (locs : List Loc), f_X9_put_51 k3 o0 x1 x2 h = some res → Iv g s n0 z0 h H locs 0 0 → lv_has ls 4 [(0, .ref (rfG g o0)), (1, .int x1), (2, .int x2)] → W p l e R s m args below meth c H locs 0 0 (MQ below (QG g none res.2) args s 0 0 (AG g)) (F0 m 51 ls []) := by
  have hx := X.1
  have hb := X.2.1
  intro o0 x1 x2 h ls H locs hf I hl
  unfold f_X9_put_51 at hf
  refine lv_iinc (v := x2 + (-8)) (lv' := [(2, .int (x2 + (-8))), (0, .ref (rfG g o0)), (1, .int x1)]) hx hb dX9_put_51 hl (k := 2) rfl rfl (by decide) rfl (fun ls hl => ?_)
  refine lv_goto (tgt := 3) hx hb dX9_put_54 (by decide) ?_
  exact hk3 o0 x1 (x2 + (-8)) h ls H locs hf I (lv_sub hl [1, 2, 0] rfl)
def f_X9_put_3  : Nat → Nat → Int32 → Int32 → AH → Option (Unit × AH)
  | 0, _, _, _, _ => none
  | n + 1, o0, x1, x2, h =>
  if x2 < 0 then
    some ((), h)
  else
    if (((x1.toUInt32 >>> (x2.toUInt32 &&& Int32.toUInt32 31)).toInt32) &&& 255) = 0 then
      f_X9_put_51 (f_X9_put_3 n) o0 x1 x2 h
    else
      (gI [9] h o0 1).bind fun v3 =>
      (gR [9] h o0 0).bind fun v5 =>
      (aLen h v5).bind fun v7 =>
      if v7 ≤ v3 then
        f_X9_put_51 (f_X9_put_3 n) o0 x1 x2 h
      else
        (gR [9] h o0 0).bind fun v10 =>
        (gI [9] h o0 1).bind fun v12 =>
        (uI 0 h v10 v12 (((x1.toUInt32 >>> (x2.toUInt32 &&& Int32.toUInt32 31)).toInt32) &&& 255)).bind fun h14 =>
        (gI [9] h14 o0 1).bind fun v16 =>
        (pV [9] h14 o0 1 (.int (v16 + 1))).bind fun h18 =>
        f_X9_put_51 (f_X9_put_3 n) o0 x1 x2 h18
set_option maxHeartbeats 1000000 in
theorem w_X9_put_3 (X : Cx g p s m args meth c cX9_put 4 "TrapCorner$Tape") (hR : 1 ≤ R.frames ∧ 64 ≤ R.locals) (hr : meth.sig.returnType = none) {res : Unit × AH} : ∀ (n : Nat) (o0 : Nat) (x1 : Int32) (x2 : Int32) (h : AH) (ls : Array Slot) (H : Heap) (locs : List Loc), f_X9_put_3 n o0 x1 x2 h = some res → Iv g s n0 z0 h H locs 0 0 → lv_has ls 4 [(0, .ref (rfG g o0)), (1, .int x1), (2, .int x2)] → W p l e R s m args below meth c H locs 0 0 (MQ below (QG g none res.2) args s 0 0 (AG g)) (F0 m 3 ls []) := by
  have hx := X.1
  have hb := X.2.1
  intro n
  induction n with
  | zero =>
    intro o0 x1 x2 h ls H locs hf
    rw [f_X9_put_3.eq_1] at hf
    cases hf
  | succ n ih =>
    intro o0 x1 x2 h ls H locs hf I hl
    rw [f_X9_put_3.eq_2] at hf
    refine lv_iload_n hx hb dX9_put_3 rfl (lv_at hl 2 rfl) ?_
    refine lv_if_lt (tgt := 57) hx hb dX9_put_4 (by decide) (fun c1 => ?_) (fun c1 => ?_)
    · rw [if_pos c1] at hf
      cases hf
      exact k_rv X I hr dX9_put_57
    · rw [if_neg c1] at hf
      refine lv_iload_n hx hb dX9_put_7 rfl (lv_at hl 1 rfl) ?_
      refine lv_iload_n hx hb dX9_put_8 rfl (lv_at hl 2 rfl) ?_
      refine lv_iushr hx hb dX9_put_9 rfl ?_
      refine lv_sipush (v := 255) hx hb dX9_put_10 (by decide) ?_
      refine lv_iand hx hb dX9_put_13 ?_
      refine lv_istore_n (lv' := [(3, .int (((x1.toUInt32 >>> (x2.toUInt32 &&& Int32.toUInt32 31)).toInt32) &&& 255)), (0, .ref (rfG g o0)), (1, .int x1), (2, .int x2)]) hx hb dX9_put_14 rfl hl (by decide) rfl (fun ls hl => ?_)
      refine lv_iload_n hx hb dX9_put_15 rfl (lv_at hl 0 rfl) ?_
      refine lv_if_eq (tgt := 51) hx hb dX9_put_16 (by decide) (fun c2 => ?_) (fun c2 => ?_)
      · rw [if_pos c2] at hf
        exact w_X9_put_51 X hR hr ih o0 x1 x2 h ls H locs hf I (lv_sub hl [1, 2, 3] rfl)
      · rw [if_neg c2] at hf
        refine lv_aload_n hx hb dX9_put_19 rfl (lv_at hl 1 rfl) ?_
        obtain ⟨v3, e4, hf⟩ := Option.bind_eq_some_iff.mp hf
        refine r_gI X I e4 lk_TrapCorner_Tape_15 dX9_put_20 ?_
        refine lv_aload_n hx hb dX9_put_23 rfl (lv_at hl 1 rfl) ?_
        obtain ⟨v5, e6, hf⟩ := Option.bind_eq_some_iff.mp hf
        refine r_gR X I e6 lk_TrapCorner_Tape_9 dX9_put_24 ?_
        obtain ⟨v7, e8, hf⟩ := Option.bind_eq_some_iff.mp hf
        refine r_len X I e8 dX9_put_27 ?_
        refine lv_icmp_ge (tgt := 51) hx hb dX9_put_28 (by decide) (fun c9 => ?_) (fun c9 => ?_)
        · rw [if_pos c9] at hf
          exact w_X9_put_51 X hR hr ih o0 x1 x2 h ls H locs hf I (lv_sub hl [1, 2, 3] rfl)
        · rw [if_neg c9] at hf
          refine lv_aload_n hx hb dX9_put_31 rfl (lv_at hl 1 rfl) ?_
          obtain ⟨v10, e11, hf⟩ := Option.bind_eq_some_iff.mp hf
          refine r_gR X I e11 lk_TrapCorner_Tape_9 dX9_put_32 ?_
          refine lv_aload_n hx hb dX9_put_35 rfl (lv_at hl 1 rfl) ?_
          obtain ⟨v12, e13, hf⟩ := Option.bind_eq_some_iff.mp hf
          refine r_gI X I e13 lk_TrapCorner_Tape_15 dX9_put_36 ?_
          refine lv_iload_n hx hb dX9_put_39 rfl (lv_at hl 0 rfl) ?_
          obtain ⟨h14, e15, hf⟩ := Option.bind_eq_some_iff.mp hf
          refine r_uI0 X I e15 dX9_put_40 (fun H locs I => ?_)
          refine lv_aload_n hx hb dX9_put_41 rfl (lv_at hl 1 rfl) ?_
          refine lv_dup hx hb dX9_put_42 rfl ?_
          obtain ⟨v16, e17, hf⟩ := Option.bind_eq_some_iff.mp hf
          refine r_gI X I e17 lk_TrapCorner_Tape_15 dX9_put_43 ?_
          refine lv_iconst (v := 1) hx hb dX9_put_46 (by decide) ?_
          refine lv_iadd hx hb dX9_put_47 ?_
          obtain ⟨h18, e19, hf⟩ := Option.bind_eq_some_iff.mp hf
          refine r_pI X I e19 lp_TrapCorner_Tape_15 dX9_put_48 (fun H locs I => ?_)
          exact w_X9_put_51 X hR hr ih o0 x1 x2 h18 ls H locs hf I (lv_sub hl [1, 2, 3] rfl)
def f_X9_put_0  (o0 : Nat) (x1 : Int32) (h : AH) : Option (Unit × AH) :=
  f_X9_put_3 fu o0 x1 24 h
set_option maxHeartbeats 1000000 in
theorem w_X9_put_0 (X : Cx g p s m args meth c cX9_put 4 "TrapCorner$Tape") (hR : 1 ≤ R.frames ∧ 64 ≤ R.locals) (hr : meth.sig.returnType = none) {res : Unit × AH} : ∀ (o0 : Nat) (x1 : Int32) (h : AH) (ls : Array Slot) (H : Heap) (locs : List Loc), f_X9_put_0 o0 x1 h = some res → Iv g s n0 z0 h H locs 0 0 → lv_has ls 4 [(0, .ref (rfG g o0)), (1, .int x1)] → W p l e R s m args below meth c H locs 0 0 (MQ below (QG g none res.2) args s 0 0 (AG g)) (F0 m 0 ls []) := by
  have hx := X.1
  have hb := X.2.1
  intro o0 x1 h ls H locs hf I hl
  unfold f_X9_put_0 at hf
  refine lv_bipush (v := 24) hx hb dX9_put_0 (by decide) ?_
  refine lv_istore_n (lv' := [(2, .int 24), (0, .ref (rfG g o0)), (1, .int x1)]) hx hb dX9_put_2 rfl hl (by decide) rfl (fun ls hl => ?_)
  exact w_X9_put_3 X hR hr fu o0 x1 24 h ls H locs hf I (lv_sub hl [1, 2, 0] rfl)
def f_X9_put (o0 : Nat) (x1 : Int32) (h : AH) : Option (Unit × AH) := f_X9_put_0 o0 x1 h
end
theorem c_X9_put (l : Launch) (g : GG) (o0 : Nat) (x1 : Int32) {h : AH} {res : Unit × AH} (hf : f_X9_put o0 x1 h = some res) : CM l g yX9_put cX9_put 4 none 1 64 0 0 [.ref (rfG g o0), .int x1] h none res.2 :=
  k_body (by decide) (Nat.le_of_ble_eq_true rfl) (fun p e s m below meth c R ls hR hr X I hl => w_X9_put_0 X ⟨Nat.le_of_eq hR.1.symm, Nat.le_of_eq hR.2.1.symm⟩ hr o0 x1 h ls s.heap [] hf I (lv_sub hl [0, 1] rfl))
/-! TrapCorner$Town.clear()V -/
theorem dX10_clear_0 : decode cX10_clear 0 = .ok (.aload_n 0, 1) := by decide +kernel
theorem dX10_clear_1 : decode cX10_clear 1 = .ok (.iconst 0, 1) := by decide +kernel
theorem dX10_clear_2 : decode cX10_clear 2 = .ok (.putfield 36, 3) := by decide +kernel
theorem dX10_clear_5 : decode cX10_clear 5 = .ok (.aload_n 0, 1) := by decide +kernel
theorem dX10_clear_6 : decode cX10_clear 6 = .ok (.iconst 0, 1) := by decide +kernel
theorem dX10_clear_7 : decode cX10_clear 7 = .ok (.putfield 40, 3) := by decide +kernel
theorem dX10_clear_10 : decode cX10_clear 10 = .ok (.return_, 1) := by decide +kernel
theorem lp_TrapCorner_Town_36 : LKP "TrapCorner$Town" 36 [10] 0 (.int) := by
  intro ci hci
  have hci := List.mem_singleton.mp hci
  subst hci
  exact ⟨RX10, TX10, 13, "TrapCorner$Town", ck_10, by decide, tw_68, Or.inl rfl, rfl, by decide +kernel⟩
theorem lp_TrapCorner_Town_40 : LKP "TrapCorner$Town" 40 [10] 1 (.int) := by
  intro ci hci
  have hci := List.mem_singleton.mp hci
  subst hci
  exact ⟨RX10, TX10, 13, "TrapCorner$Town", ck_10, by decide, tw_71, Or.inl rfl, rfl, by decide +kernel⟩
section
variable {g : GG} {p : Program} {l : Launch} {e : Env} {R : Room} {s : State} {m : MethodId} {args : Array Value} {below : List Frame} {meth : Method} {c : Code} {n0 z0 : Nat}
def f_X10_clear_0  (o0 : Nat) (h : AH) : Option (Unit × AH) :=
  (pV [10] h o0 0 (.int 0)).bind fun h1 =>
  (pV [10] h1 o0 1 (.int 0)).bind fun h3 =>
  some ((), h3)
set_option maxHeartbeats 1000000 in
theorem w_X10_clear_0 (X : Cx g p s m args meth c cX10_clear 1 "TrapCorner$Town") (hR : 1 ≤ R.frames ∧ 64 ≤ R.locals) (hr : meth.sig.returnType = none) {res : Unit × AH} : ∀ (o0 : Nat) (h : AH) (ls : Array Slot) (H : Heap) (locs : List Loc), f_X10_clear_0 o0 h = some res → Iv g s n0 z0 h H locs 0 0 → lv_has ls 1 [(0, .ref (rfG g o0))] → W p l e R s m args below meth c H locs 0 0 (MQ below (QG g none res.2) args s 0 0 (AG g)) (F0 m 0 ls []) := by
  have hx := X.1
  have hb := X.2.1
  intro o0 h ls H locs hf I hl
  unfold f_X10_clear_0 at hf
  refine lv_aload_n hx hb dX10_clear_0 rfl (lv_at hl 0 rfl) ?_
  refine lv_iconst (v := 0) hx hb dX10_clear_1 (by decide) ?_
  obtain ⟨h1, e2, hf⟩ := Option.bind_eq_some_iff.mp hf
  refine r_pI X I e2 lp_TrapCorner_Town_36 dX10_clear_2 (fun H locs I => ?_)
  refine lv_aload_n hx hb dX10_clear_5 rfl (lv_at hl 0 rfl) ?_
  refine lv_iconst (v := 0) hx hb dX10_clear_6 (by decide) ?_
  obtain ⟨h3, e4, hf⟩ := Option.bind_eq_some_iff.mp hf
  refine r_pI X I e4 lp_TrapCorner_Town_40 dX10_clear_7 (fun H locs I => ?_)
  cases hf
  exact k_rv X I hr dX10_clear_10
def f_X10_clear (o0 : Nat) (h : AH) : Option (Unit × AH) := f_X10_clear_0 o0 h
end
theorem c_X10_clear (l : Launch) (g : GG) (o0 : Nat) {h : AH} {res : Unit × AH} (hf : f_X10_clear o0 h = some res) : CM l g yX10_clear cX10_clear 1 none 1 64 0 0 [.ref (rfG g o0)] h none res.2 :=
  k_body (by decide) (Nat.le_of_ble_eq_true rfl) (fun p e s m below meth c R ls hR hr X I hl => w_X10_clear_0 X ⟨Nat.le_of_eq hR.1.symm, Nat.le_of_eq hR.2.1.symm⟩ hr o0 h ls s.heap [] hf I (lv_sub hl [0] rfl))
/-! TrapCorner$Town.setRules([I)V -/
theorem dX10_setRules_0 : decode cX10_setRules 0 = .ok (.aload_n 0, 1) := by decide +kernel
theorem dX10_setRules_1 : decode cX10_setRules 1 = .ok (.aload_n 1, 1) := by decide +kernel
theorem dX10_setRules_2 : decode cX10_setRules 2 = .ok (.iconst 0, 1) := by decide +kernel
theorem dX10_setRules_3 : decode cX10_setRules 3 = .ok (.iaload, 1) := by decide +kernel
theorem dX10_setRules_4 : decode cX10_setRules 4 = .ok (.putfield 43, 3) := by decide +kernel
theorem dX10_setRules_7 : decode cX10_setRules 7 = .ok (.aload_n 0, 1) := by decide +kernel
theorem dX10_setRules_8 : decode cX10_setRules 8 = .ok (.aload_n 1, 1) := by decide +kernel
theorem dX10_setRules_9 : decode cX10_setRules 9 = .ok (.iconst 1, 1) := by decide +kernel
theorem dX10_setRules_10 : decode cX10_setRules 10 = .ok (.iaload, 1) := by decide +kernel
theorem dX10_setRules_11 : decode cX10_setRules 11 = .ok (.putfield 46, 3) := by decide +kernel
theorem dX10_setRules_14 : decode cX10_setRules 14 = .ok (.aload_n 0, 1) := by decide +kernel
theorem dX10_setRules_15 : decode cX10_setRules 15 = .ok (.aload_n 1, 1) := by decide +kernel
theorem dX10_setRules_16 : decode cX10_setRules 16 = .ok (.iconst 2, 1) := by decide +kernel
theorem dX10_setRules_17 : decode cX10_setRules 17 = .ok (.iaload, 1) := by decide +kernel
theorem dX10_setRules_18 : decode cX10_setRules 18 = .ok (.putfield 49, 3) := by decide +kernel
theorem dX10_setRules_21 : decode cX10_setRules 21 = .ok (.return_, 1) := by decide +kernel
theorem lp_TrapCorner_Town_43 : LKP "TrapCorner$Town" 43 [10] 2 (.int) := by
  intro ci hci
  have hci := List.mem_singleton.mp hci
  subst hci
  exact ⟨RX10, TX10, 13, "TrapCorner$Town", ck_10, by decide, tw_75, Or.inl rfl, rfl, by decide +kernel⟩
theorem lp_TrapCorner_Town_46 : LKP "TrapCorner$Town" 46 [10] 3 (.int) := by
  intro ci hci
  have hci := List.mem_singleton.mp hci
  subst hci
  exact ⟨RX10, TX10, 13, "TrapCorner$Town", ck_10, by decide, tw_80, Or.inl rfl, rfl, by decide +kernel⟩
theorem lp_TrapCorner_Town_49 : LKP "TrapCorner$Town" 49 [10] 4 (.int) := by
  intro ci hci
  have hci := List.mem_singleton.mp hci
  subst hci
  exact ⟨RX10, TX10, 13, "TrapCorner$Town", ck_10, by decide, tw_81, Or.inl rfl, rfl, by decide +kernel⟩
section
variable {g : GG} {p : Program} {l : Launch} {e : Env} {R : Room} {s : State} {m : MethodId} {args : Array Value} {below : List Frame} {meth : Method} {c : Code} {n0 z0 : Nat}
def f_X10_setRules_0  (o0 : Nat) (o1 : Nat) (h : AH) : Option (Unit × AH) :=
  (aI 0 h o1 0).bind fun v1 =>
  (pV [10] h o0 2 (.int v1)).bind fun h3 =>
  (aI 0 h3 o1 1).bind fun v5 =>
  (pV [10] h3 o0 3 (.int v5)).bind fun h7 =>
  (aI 0 h7 o1 2).bind fun v9 =>
  (pV [10] h7 o0 4 (.int v9)).bind fun h11 =>
  some ((), h11)
set_option maxHeartbeats 1000000 in
theorem w_X10_setRules_0 (X : Cx g p s m args meth c cX10_setRules 2 "TrapCorner$Town") (hR : 1 ≤ R.frames ∧ 64 ≤ R.locals) (hr : meth.sig.returnType = none) {res : Unit × AH} : ∀ (o0 : Nat) (o1 : Nat) (h : AH) (ls : Array Slot) (H : Heap) (locs : List Loc), f_X10_setRules_0 o0 o1 h = some res → Iv g s n0 z0 h H locs 0 0 → lv_has ls 2 [(0, .ref (rfG g o0)), (1, .ref (rfG g o1))] → W p l e R s m args below meth c H locs 0 0 (MQ below (QG g none res.2) args s 0 0 (AG g)) (F0 m 0 ls []) := by
  have hx := X.1
  have hb := X.2.1
  intro o0 o1 h ls H locs hf I hl
  unfold f_X10_setRules_0 at hf
  refine lv_aload_n hx hb dX10_setRules_0 rfl (lv_at hl 0 rfl) ?_
  refine lv_aload_n hx hb dX10_setRules_1 rfl (lv_at hl 1 rfl) ?_
  refine lv_iconst (v := 0) hx hb dX10_setRules_2 (by decide) ?_
  obtain ⟨v1, e2, hf⟩ := Option.bind_eq_some_iff.mp hf
  refine r_aI0 X I e2 dX10_setRules_3 ?_
  obtain ⟨h3, e4, hf⟩ := Option.bind_eq_some_iff.mp hf
  refine r_pI X I e4 lp_TrapCorner_Town_43 dX10_setRules_4 (fun H locs I => ?_)
  refine lv_aload_n hx hb dX10_setRules_7 rfl (lv_at hl 0 rfl) ?_
  refine lv_aload_n hx hb dX10_setRules_8 rfl (lv_at hl 1 rfl) ?_
  refine lv_iconst (v := 1) hx hb dX10_setRules_9 (by decide) ?_
  obtain ⟨v5, e6, hf⟩ := Option.bind_eq_some_iff.mp hf
  refine r_aI0 X I e6 dX10_setRules_10 ?_
  obtain ⟨h7, e8, hf⟩ := Option.bind_eq_some_iff.mp hf
  refine r_pI X I e8 lp_TrapCorner_Town_46 dX10_setRules_11 (fun H locs I => ?_)
  refine lv_aload_n hx hb dX10_setRules_14 rfl (lv_at hl 0 rfl) ?_
  refine lv_aload_n hx hb dX10_setRules_15 rfl (lv_at hl 1 rfl) ?_
  refine lv_iconst (v := 2) hx hb dX10_setRules_16 (by decide) ?_
  obtain ⟨v9, e10, hf⟩ := Option.bind_eq_some_iff.mp hf
  refine r_aI0 X I e10 dX10_setRules_17 ?_
  obtain ⟨h11, e12, hf⟩ := Option.bind_eq_some_iff.mp hf
  refine r_pI X I e12 lp_TrapCorner_Town_49 dX10_setRules_18 (fun H locs I => ?_)
  cases hf
  exact k_rv X I hr dX10_setRules_21
def f_X10_setRules (o0 : Nat) (o1 : Nat) (h : AH) : Option (Unit × AH) := f_X10_setRules_0 o0 o1 h
end
theorem c_X10_setRules (l : Launch) (g : GG) (o0 : Nat) (o1 : Nat) {h : AH} {res : Unit × AH} (hf : f_X10_setRules o0 o1 h = some res) : CM l g yX10_setRules cX10_setRules 2 none 1 64 0 0 [.ref (rfG g o0), .ref (rfG g o1)] h none res.2 :=
  k_body (by decide) (Nat.le_of_ble_eq_true rfl) (fun p e s m below meth c R ls hR hr X I hl => w_X10_setRules_0 X ⟨Nat.le_of_eq hR.1.symm, Nat.le_of_eq hR.2.1.symm⟩ hr o0 o1 h ls s.heap [] hf I (lv_sub hl [0, 1] rfl))
/-! TrapCorner$Town.addCorner([I)V -/
theorem dX10_addCorner_0 : decode cX10_addCorner 0 = .ok (.aload_n 0, 1) := by decide +kernel
theorem dX10_addCorner_1 : decode cX10_addCorner 1 = .ok (.getfield 9, 3) := by decide +kernel
theorem dX10_addCorner_4 : decode cX10_addCorner 4 = .ok (.aload_n 0, 1) := by decide +kernel
theorem dX10_addCorner_5 : decode cX10_addCorner 5 = .ok (.getfield 36, 3) := by decide +kernel
theorem dX10_addCorner_8 : decode cX10_addCorner 8 = .ok (.aload_n 1, 1) := by decide +kernel
theorem dX10_addCorner_9 : decode cX10_addCorner 9 = .ok (.iconst 0, 1) := by decide +kernel
theorem dX10_addCorner_10 : decode cX10_addCorner 10 = .ok (.iaload, 1) := by decide +kernel
theorem dX10_addCorner_11 : decode cX10_addCorner 11 = .ok (.iastore, 1) := by decide +kernel
theorem dX10_addCorner_12 : decode cX10_addCorner 12 = .ok (.aload_n 0, 1) := by decide +kernel
theorem dX10_addCorner_13 : decode cX10_addCorner 13 = .ok (.getfield 15, 3) := by decide +kernel
theorem dX10_addCorner_16 : decode cX10_addCorner 16 = .ok (.aload_n 0, 1) := by decide +kernel
theorem dX10_addCorner_17 : decode cX10_addCorner 17 = .ok (.getfield 36, 3) := by decide +kernel
theorem dX10_addCorner_20 : decode cX10_addCorner 20 = .ok (.aload_n 1, 1) := by decide +kernel
theorem dX10_addCorner_21 : decode cX10_addCorner 21 = .ok (.iconst 1, 1) := by decide +kernel
theorem dX10_addCorner_22 : decode cX10_addCorner 22 = .ok (.iaload, 1) := by decide +kernel
theorem dX10_addCorner_23 : decode cX10_addCorner 23 = .ok (.iastore, 1) := by decide +kernel
theorem dX10_addCorner_24 : decode cX10_addCorner 24 = .ok (.aload_n 0, 1) := by decide +kernel
theorem dX10_addCorner_25 : decode cX10_addCorner 25 = .ok (.dup, 1) := by decide +kernel
theorem dX10_addCorner_26 : decode cX10_addCorner 26 = .ok (.getfield 36, 3) := by decide +kernel
theorem dX10_addCorner_29 : decode cX10_addCorner 29 = .ok (.iconst 1, 1) := by decide +kernel
theorem dX10_addCorner_30 : decode cX10_addCorner 30 = .ok (.iadd, 1) := by decide +kernel
theorem dX10_addCorner_31 : decode cX10_addCorner 31 = .ok (.putfield 36, 3) := by decide +kernel
theorem dX10_addCorner_34 : decode cX10_addCorner 34 = .ok (.return_, 1) := by decide +kernel
theorem lk_TrapCorner_Town_9 : LK "TrapCorner$Town" 9 [10] 5 := by
  intro ci hci
  have hci := List.mem_singleton.mp hci
  subst hci
  exact ⟨RX10, TX10, 13, "TrapCorner$Town", ck_10, by decide, tw_84, Or.inl rfl⟩
theorem lk_TrapCorner_Town_36 : LK "TrapCorner$Town" 36 [10] 0 := by
  intro ci hci
  have hci := List.mem_singleton.mp hci
  subst hci
  exact ⟨RX10, TX10, 13, "TrapCorner$Town", ck_10, by decide, tw_68, Or.inl rfl⟩
theorem lk_TrapCorner_Town_15 : LK "TrapCorner$Town" 15 [10] 6 := by
  intro ci hci
  have hci := List.mem_singleton.mp hci
  subst hci
  exact ⟨RX10, TX10, 13, "TrapCorner$Town", ck_10, by decide, tw_86, Or.inl rfl⟩
section
variable {g : GG} {p : Program} {l : Launch} {e : Env} {R : Room} {s : State} {m : MethodId} {args : Array Value} {below : List Frame} {meth : Method} {c : Code} {n0 z0 : Nat}
def f_X10_addCorner_0  (o0 : Nat) (o1 : Nat) (h : AH) : Option (Unit × AH) :=
  (gR [10] h o0 5).bind fun v1 =>
  (gI [10] h o0 0).bind fun v3 =>
  (aI 0 h o1 0).bind fun v5 =>
  (uI 0 h v1 v3 v5).bind fun h7 =>
  (gR [10] h7 o0 6).bind fun v9 =>
  (gI [10] h7 o0 0).bind fun v11 =>
  (aI 0 h7 o1 1).bind fun v13 =>
  (uI 0 h7 v9 v11 v13).bind fun h15 =>
  (gI [10] h15 o0 0).bind fun v17 =>
  (pV [10] h15 o0 0 (.int (v17 + 1))).bind fun h19 =>
  some ((), h19)
set_option maxHeartbeats 1000000 in
theorem w_X10_addCorner_0 (X : Cx g p s m args meth c cX10_addCorner 2 "TrapCorner$Town") (hR : 1 ≤ R.frames ∧ 64 ≤ R.locals) (hr : meth.sig.returnType = none) {res : Unit × AH} : ∀ (o0 : Nat) (o1 : Nat) (h : AH) (ls : Array Slot) (H : Heap) (locs : List Loc), f_X10_addCorner_0 o0 o1 h = some res → Iv g s n0 z0 h H locs 0 0 → lv_has ls 2 [(0, .ref (rfG g o0)), (1, .ref (rfG g o1))] → W p l e R s m args below meth c H locs 0 0 (MQ below (QG g none res.2) args s 0 0 (AG g)) (F0 m 0 ls []) := by
  have hx := X.1
  have hb := X.2.1
  intro o0 o1 h ls H locs hf I hl
  unfold f_X10_addCorner_0 at hf
  refine lv_aload_n hx hb dX10_addCorner_0 rfl (lv_at hl 0 rfl) ?_
  obtain ⟨v1, e2, hf⟩ := Option.bind_eq_some_iff.mp hf
  refine r_gR X I e2 lk_TrapCorner_Town_9 dX10_addCorner_1 ?_
  refine lv_aload_n hx hb dX10_addCorner_4 rfl (lv_at hl 0 rfl) ?_
  obtain ⟨v3, e4, hf⟩ := Option.bind_eq_some_iff.mp hf
  refine r_gI X I e4 lk_TrapCorner_Town_36 dX10_addCorner_5 ?_
  refine lv_aload_n hx hb dX10_addCorner_8 rfl (lv_at hl 1 rfl) ?_
  refine lv_iconst (v := 0) hx hb dX10_addCorner_9 (by decide) ?_
  obtain ⟨v5, e6, hf⟩ := Option.bind_eq_some_iff.mp hf
  refine r_aI0 X I e6 dX10_addCorner_10 ?_
  obtain ⟨h7, e8, hf⟩ := Option.bind_eq_some_iff.mp hf
  refine r_uI0 X I e8 dX10_addCorner_11 (fun H locs I => ?_)
  refine lv_aload_n hx hb dX10_addCorner_12 rfl (lv_at hl 0 rfl) ?_
  obtain ⟨v9, e10, hf⟩ := Option.bind_eq_some_iff.mp hf
  refine r_gR X I e10 lk_TrapCorner_Town_15 dX10_addCorner_13 ?_
  refine lv_aload_n hx hb dX10_addCorner_16 rfl (lv_at hl 0 rfl) ?_
  obtain ⟨v11, e12, hf⟩ := Option.bind_eq_some_iff.mp hf
  refine r_gI X I e12 lk_TrapCorner_Town_36 dX10_addCorner_17 ?_
  refine lv_aload_n hx hb dX10_addCorner_20 rfl (lv_at hl 1 rfl) ?_
  refine lv_iconst (v := 1) hx hb dX10_addCorner_21 (by decide) ?_
  obtain ⟨v13, e14, hf⟩ := Option.bind_eq_some_iff.mp hf
  refine r_aI0 X I e14 dX10_addCorner_22 ?_
  obtain ⟨h15, e16, hf⟩ := Option.bind_eq_some_iff.mp hf
  refine r_uI0 X I e16 dX10_addCorner_23 (fun H locs I => ?_)
  refine lv_aload_n hx hb dX10_addCorner_24 rfl (lv_at hl 0 rfl) ?_
  refine lv_dup hx hb dX10_addCorner_25 rfl ?_
  obtain ⟨v17, e18, hf⟩ := Option.bind_eq_some_iff.mp hf
  refine r_gI X I e18 lk_TrapCorner_Town_36 dX10_addCorner_26 ?_
  refine lv_iconst (v := 1) hx hb dX10_addCorner_29 (by decide) ?_
  refine lv_iadd hx hb dX10_addCorner_30 ?_
  obtain ⟨h19, e20, hf⟩ := Option.bind_eq_some_iff.mp hf
  refine r_pI X I e20 lp_TrapCorner_Town_36 dX10_addCorner_31 (fun H locs I => ?_)
  cases hf
  exact k_rv X I hr dX10_addCorner_34
def f_X10_addCorner (o0 : Nat) (o1 : Nat) (h : AH) : Option (Unit × AH) := f_X10_addCorner_0 o0 o1 h
end
theorem c_X10_addCorner (l : Launch) (g : GG) (o0 : Nat) (o1 : Nat) {h : AH} {res : Unit × AH} (hf : f_X10_addCorner o0 o1 h = some res) : CM l g yX10_addCorner cX10_addCorner 2 none 1 64 0 0 [.ref (rfG g o0), .ref (rfG g o1)] h none res.2 :=
  k_body (by decide) (Nat.le_of_ble_eq_true rfl) (fun p e s m below meth c R ls hR hr X I hl => w_X10_addCorner_0 X ⟨Nat.le_of_eq hR.1.symm, Nat.le_of_eq hR.2.1.symm⟩ hr o0 o1 h ls s.heap [] hf I (lv_sub hl [0, 1] rfl))
/-! TrapCorner$Town.addPerson([I)V -/
theorem dX10_addPerson_0 : decode cX10_addPerson 0 = .ok (.aload_n 0, 1) := by decide +kernel
theorem dX10_addPerson_1 : decode cX10_addPerson 1 = .ok (.getfield 18, 3) := by decide +kernel
theorem dX10_addPerson_4 : decode cX10_addPerson 4 = .ok (.aload_n 0, 1) := by decide +kernel
theorem dX10_addPerson_5 : decode cX10_addPerson 5 = .ok (.getfield 40, 3) := by decide +kernel
theorem dX10_addPerson_8 : decode cX10_addPerson 8 = .ok (.aload_n 1, 1) := by decide +kernel
theorem dX10_addPerson_9 : decode cX10_addPerson 9 = .ok (.iconst 0, 1) := by decide +kernel
theorem dX10_addPerson_10 : decode cX10_addPerson 10 = .ok (.iaload, 1) := by decide +kernel
theorem dX10_addPerson_11 : decode cX10_addPerson 11 = .ok (.iastore, 1) := by decide +kernel
theorem dX10_addPerson_12 : decode cX10_addPerson 12 = .ok (.aload_n 0, 1) := by decide +kernel
theorem dX10_addPerson_13 : decode cX10_addPerson 13 = .ok (.getfield 21, 3) := by decide +kernel
theorem dX10_addPerson_16 : decode cX10_addPerson 16 = .ok (.aload_n 0, 1) := by decide +kernel
theorem dX10_addPerson_17 : decode cX10_addPerson 17 = .ok (.getfield 40, 3) := by decide +kernel
theorem dX10_addPerson_20 : decode cX10_addPerson 20 = .ok (.aload_n 1, 1) := by decide +kernel
theorem dX10_addPerson_21 : decode cX10_addPerson 21 = .ok (.iconst 1, 1) := by decide +kernel
theorem dX10_addPerson_22 : decode cX10_addPerson 22 = .ok (.iaload, 1) := by decide +kernel
theorem dX10_addPerson_23 : decode cX10_addPerson 23 = .ok (.iastore, 1) := by decide +kernel
theorem dX10_addPerson_24 : decode cX10_addPerson 24 = .ok (.aload_n 0, 1) := by decide +kernel
theorem dX10_addPerson_25 : decode cX10_addPerson 25 = .ok (.getfield 24, 3) := by decide +kernel
theorem dX10_addPerson_28 : decode cX10_addPerson 28 = .ok (.aload_n 0, 1) := by decide +kernel
theorem dX10_addPerson_29 : decode cX10_addPerson 29 = .ok (.getfield 40, 3) := by decide +kernel
theorem dX10_addPerson_32 : decode cX10_addPerson 32 = .ok (.aload_n 1, 1) := by decide +kernel
theorem dX10_addPerson_33 : decode cX10_addPerson 33 = .ok (.iconst 2, 1) := by decide +kernel
theorem dX10_addPerson_34 : decode cX10_addPerson 34 = .ok (.iaload, 1) := by decide +kernel
theorem dX10_addPerson_35 : decode cX10_addPerson 35 = .ok (.iastore, 1) := by decide +kernel
theorem dX10_addPerson_36 : decode cX10_addPerson 36 = .ok (.aload_n 0, 1) := by decide +kernel
theorem dX10_addPerson_37 : decode cX10_addPerson 37 = .ok (.getfield 27, 3) := by decide +kernel
theorem dX10_addPerson_40 : decode cX10_addPerson 40 = .ok (.aload_n 0, 1) := by decide +kernel
theorem dX10_addPerson_41 : decode cX10_addPerson 41 = .ok (.getfield 40, 3) := by decide +kernel
theorem dX10_addPerson_44 : decode cX10_addPerson 44 = .ok (.aload_n 1, 1) := by decide +kernel
theorem dX10_addPerson_45 : decode cX10_addPerson 45 = .ok (.iconst 3, 1) := by decide +kernel
theorem dX10_addPerson_46 : decode cX10_addPerson 46 = .ok (.iaload, 1) := by decide +kernel
theorem dX10_addPerson_47 : decode cX10_addPerson 47 = .ok (.iastore, 1) := by decide +kernel
theorem dX10_addPerson_48 : decode cX10_addPerson 48 = .ok (.aload_n 0, 1) := by decide +kernel
theorem dX10_addPerson_49 : decode cX10_addPerson 49 = .ok (.getfield 30, 3) := by decide +kernel
theorem dX10_addPerson_52 : decode cX10_addPerson 52 = .ok (.aload_n 0, 1) := by decide +kernel
theorem dX10_addPerson_53 : decode cX10_addPerson 53 = .ok (.getfield 40, 3) := by decide +kernel
theorem dX10_addPerson_56 : decode cX10_addPerson 56 = .ok (.aload_n 1, 1) := by decide +kernel
theorem dX10_addPerson_57 : decode cX10_addPerson 57 = .ok (.iconst 4, 1) := by decide +kernel
theorem dX10_addPerson_58 : decode cX10_addPerson 58 = .ok (.iaload, 1) := by decide +kernel
theorem dX10_addPerson_59 : decode cX10_addPerson 59 = .ok (.iastore, 1) := by decide +kernel
theorem dX10_addPerson_60 : decode cX10_addPerson 60 = .ok (.aload_n 0, 1) := by decide +kernel
theorem dX10_addPerson_61 : decode cX10_addPerson 61 = .ok (.getfield 33, 3) := by decide +kernel
theorem dX10_addPerson_64 : decode cX10_addPerson 64 = .ok (.aload_n 0, 1) := by decide +kernel
theorem dX10_addPerson_65 : decode cX10_addPerson 65 = .ok (.getfield 40, 3) := by decide +kernel
theorem dX10_addPerson_68 : decode cX10_addPerson 68 = .ok (.aload_n 1, 1) := by decide +kernel
theorem dX10_addPerson_69 : decode cX10_addPerson 69 = .ok (.iconst 5, 1) := by decide +kernel
theorem dX10_addPerson_70 : decode cX10_addPerson 70 = .ok (.iaload, 1) := by decide +kernel
theorem dX10_addPerson_71 : decode cX10_addPerson 71 = .ok (.iastore, 1) := by decide +kernel
theorem dX10_addPerson_72 : decode cX10_addPerson 72 = .ok (.aload_n 0, 1) := by decide +kernel
theorem dX10_addPerson_73 : decode cX10_addPerson 73 = .ok (.dup, 1) := by decide +kernel
theorem dX10_addPerson_74 : decode cX10_addPerson 74 = .ok (.getfield 40, 3) := by decide +kernel
theorem dX10_addPerson_77 : decode cX10_addPerson 77 = .ok (.iconst 1, 1) := by decide +kernel
theorem dX10_addPerson_78 : decode cX10_addPerson 78 = .ok (.iadd, 1) := by decide +kernel
theorem dX10_addPerson_79 : decode cX10_addPerson 79 = .ok (.putfield 40, 3) := by decide +kernel
theorem dX10_addPerson_82 : decode cX10_addPerson 82 = .ok (.return_, 1) := by decide +kernel
theorem lk_TrapCorner_Town_18 : LK "TrapCorner$Town" 18 [10] 7 := by
  intro ci hci
  have hci := List.mem_singleton.mp hci
  subst hci
  exact ⟨RX10, TX10, 13, "TrapCorner$Town", ck_10, by decide, tw_88, Or.inl rfl⟩
theorem lk_TrapCorner_Town_40 : LK "TrapCorner$Town" 40 [10] 1 := by
  intro ci hci
  have hci := List.mem_singleton.mp hci
  subst hci
  exact ⟨RX10, TX10, 13, "TrapCorner$Town", ck_10, by decide, tw_71, Or.inl rfl⟩
theorem lk_TrapCorner_Town_21 : LK "TrapCorner$Town" 21 [10] 8 := by
  intro ci hci
  have hci := List.mem_singleton.mp hci
  subst hci
  exact ⟨RX10, TX10, 13, "TrapCorner$Town", ck_10, by decide, tw_91, Or.inl rfl⟩
theorem lk_TrapCorner_Town_24 : LK "TrapCorner$Town" 24 [10] 9 := by
  intro ci hci
  have hci := List.mem_singleton.mp hci
  subst hci
  exact ⟨RX10, TX10, 13, "TrapCorner$Town", ck_10, by decide, tw_94, Or.inl rfl⟩
theorem lk_TrapCorner_Town_27 : LK "TrapCorner$Town" 27 [10] 10 := by
  intro ci hci
  have hci := List.mem_singleton.mp hci
  subst hci
  exact ⟨RX10, TX10, 13, "TrapCorner$Town", ck_10, by decide, tw_97, Or.inl rfl⟩
theorem lk_TrapCorner_Town_30 : LK "TrapCorner$Town" 30 [10] 11 := by
  intro ci hci
  have hci := List.mem_singleton.mp hci
  subst hci
  exact ⟨RX10, TX10, 13, "TrapCorner$Town", ck_10, by decide, tw_100, Or.inl rfl⟩
theorem lk_TrapCorner_Town_33 : LK "TrapCorner$Town" 33 [10] 12 := by
  intro ci hci
  have hci := List.mem_singleton.mp hci
  subst hci
  exact ⟨RX10, TX10, 13, "TrapCorner$Town", ck_10, by decide, tw_102, Or.inl rfl⟩
section
variable {g : GG} {p : Program} {l : Launch} {e : Env} {R : Room} {s : State} {m : MethodId} {args : Array Value} {below : List Frame} {meth : Method} {c : Code} {n0 z0 : Nat}
def f_X10_addPerson_0  (o0 : Nat) (o1 : Nat) (h : AH) : Option (Unit × AH) :=
  (gR [10] h o0 7).bind fun v1 =>
  (gI [10] h o0 1).bind fun v3 =>
  (aI 0 h o1 0).bind fun v5 =>
  (uI 0 h v1 v3 v5).bind fun h7 =>
  (gR [10] h7 o0 8).bind fun v9 =>
  (gI [10] h7 o0 1).bind fun v11 =>
  (aI 0 h7 o1 1).bind fun v13 =>
  (uI 0 h7 v9 v11 v13).bind fun h15 =>
  (gR [10] h15 o0 9).bind fun v17 =>
  (gI [10] h15 o0 1).bind fun v19 =>
  (aI 0 h15 o1 2).bind fun v21 =>
  (uI 0 h15 v17 v19 v21).bind fun h23 =>
  (gR [10] h23 o0 10).bind fun v25 =>
  (gI [10] h23 o0 1).bind fun v27 =>
  (aI 0 h23 o1 3).bind fun v29 =>
  (uI 0 h23 v25 v27 v29).bind fun h31 =>
  (gR [10] h31 o0 11).bind fun v33 =>
  (gI [10] h31 o0 1).bind fun v35 =>
  (aI 0 h31 o1 4).bind fun v37 =>
  (uI 0 h31 v33 v35 v37).bind fun h39 =>
  (gR [10] h39 o0 12).bind fun v41 =>
  (gI [10] h39 o0 1).bind fun v43 =>
  (aI 0 h39 o1 5).bind fun v45 =>
  (uI 0 h39 v41 v43 v45).bind fun h47 =>
  (gI [10] h47 o0 1).bind fun v49 =>
  (pV [10] h47 o0 1 (.int (v49 + 1))).bind fun h51 =>
  some ((), h51)
set_option maxHeartbeats 1000000 in
theorem w_X10_addPerson_0 (X : Cx g p s m args meth c cX10_addPerson 2 "TrapCorner$Town") (hR : 1 ≤ R.frames ∧ 64 ≤ R.locals) (hr : meth.sig.returnType = none) {res : Unit × AH} : ∀ (o0 : Nat) (o1 : Nat) (h : AH) (ls : Array Slot) (H : Heap) (locs : List Loc), f_X10_addPerson_0 o0 o1 h = some res → Iv g s n0 z0 h H locs 0 0 → lv_has ls 2 [(0, .ref (rfG g o0)), (1, .ref (rfG g o1))] → W p l e R s m args below meth c H locs 0 0 (MQ below (QG g none res.2) args s 0 0 (AG g)) (F0 m 0 ls []) := by
  have hx := X.1
  have hb := X.2.1
  intro o0 o1 h ls H locs hf I hl
  unfold f_X10_addPerson_0 at hf
  refine lv_aload_n hx hb dX10_addPerson_0 rfl (lv_at hl 0 rfl) ?_
  obtain ⟨v1, e2, hf⟩ := Option.bind_eq_some_iff.mp hf
  refine r_gR X I e2 lk_TrapCorner_Town_18 dX10_addPerson_1 ?_
  refine lv_aload_n hx hb dX10_addPerson_4 rfl (lv_at hl 0 rfl) ?_
  obtain ⟨v3, e4, hf⟩ := Option.bind_eq_some_iff.mp hf
  refine r_gI X I e4 lk_TrapCorner_Town_40 dX10_addPerson_5 ?_
  refine lv_aload_n hx hb dX10_addPerson_8 rfl (lv_at hl 1 rfl) ?_
  refine lv_iconst (v := 0) hx hb dX10_addPerson_9 (by decide) ?_
  obtain ⟨v5, e6, hf⟩ := Option.bind_eq_some_iff.mp hf
  refine r_aI0 X I e6 dX10_addPerson_10 ?_
  obtain ⟨h7, e8, hf⟩ := Option.bind_eq_some_iff.mp hf
  refine r_uI0 X I e8 dX10_addPerson_11 (fun H locs I => ?_)
  refine lv_aload_n hx hb dX10_addPerson_12 rfl (lv_at hl 0 rfl) ?_
  obtain ⟨v9, e10, hf⟩ := Option.bind_eq_some_iff.mp hf
  refine r_gR X I e10 lk_TrapCorner_Town_21 dX10_addPerson_13 ?_
  refine lv_aload_n hx hb dX10_addPerson_16 rfl (lv_at hl 0 rfl) ?_
  obtain ⟨v11, e12, hf⟩ := Option.bind_eq_some_iff.mp hf
  refine r_gI X I e12 lk_TrapCorner_Town_40 dX10_addPerson_17 ?_
  refine lv_aload_n hx hb dX10_addPerson_20 rfl (lv_at hl 1 rfl) ?_
  refine lv_iconst (v := 1) hx hb dX10_addPerson_21 (by decide) ?_
  obtain ⟨v13, e14, hf⟩ := Option.bind_eq_some_iff.mp hf
  refine r_aI0 X I e14 dX10_addPerson_22 ?_
  obtain ⟨h15, e16, hf⟩ := Option.bind_eq_some_iff.mp hf
  refine r_uI0 X I e16 dX10_addPerson_23 (fun H locs I => ?_)
  refine lv_aload_n hx hb dX10_addPerson_24 rfl (lv_at hl 0 rfl) ?_
  obtain ⟨v17, e18, hf⟩ := Option.bind_eq_some_iff.mp hf
  refine r_gR X I e18 lk_TrapCorner_Town_24 dX10_addPerson_25 ?_
  refine lv_aload_n hx hb dX10_addPerson_28 rfl (lv_at hl 0 rfl) ?_
  obtain ⟨v19, e20, hf⟩ := Option.bind_eq_some_iff.mp hf
  refine r_gI X I e20 lk_TrapCorner_Town_40 dX10_addPerson_29 ?_
  refine lv_aload_n hx hb dX10_addPerson_32 rfl (lv_at hl 1 rfl) ?_
  refine lv_iconst (v := 2) hx hb dX10_addPerson_33 (by decide) ?_
  obtain ⟨v21, e22, hf⟩ := Option.bind_eq_some_iff.mp hf
  refine r_aI0 X I e22 dX10_addPerson_34 ?_
  obtain ⟨h23, e24, hf⟩ := Option.bind_eq_some_iff.mp hf
  refine r_uI0 X I e24 dX10_addPerson_35 (fun H locs I => ?_)
  refine lv_aload_n hx hb dX10_addPerson_36 rfl (lv_at hl 0 rfl) ?_
  obtain ⟨v25, e26, hf⟩ := Option.bind_eq_some_iff.mp hf
  refine r_gR X I e26 lk_TrapCorner_Town_27 dX10_addPerson_37 ?_
  refine lv_aload_n hx hb dX10_addPerson_40 rfl (lv_at hl 0 rfl) ?_
  obtain ⟨v27, e28, hf⟩ := Option.bind_eq_some_iff.mp hf
  refine r_gI X I e28 lk_TrapCorner_Town_40 dX10_addPerson_41 ?_
  refine lv_aload_n hx hb dX10_addPerson_44 rfl (lv_at hl 1 rfl) ?_
  refine lv_iconst (v := 3) hx hb dX10_addPerson_45 (by decide) ?_
  obtain ⟨v29, e30, hf⟩ := Option.bind_eq_some_iff.mp hf
  refine r_aI0 X I e30 dX10_addPerson_46 ?_
  obtain ⟨h31, e32, hf⟩ := Option.bind_eq_some_iff.mp hf
  refine r_uI0 X I e32 dX10_addPerson_47 (fun H locs I => ?_)
  refine lv_aload_n hx hb dX10_addPerson_48 rfl (lv_at hl 0 rfl) ?_
  obtain ⟨v33, e34, hf⟩ := Option.bind_eq_some_iff.mp hf
  refine r_gR X I e34 lk_TrapCorner_Town_30 dX10_addPerson_49 ?_
  refine lv_aload_n hx hb dX10_addPerson_52 rfl (lv_at hl 0 rfl) ?_
  obtain ⟨v35, e36, hf⟩ := Option.bind_eq_some_iff.mp hf
  refine r_gI X I e36 lk_TrapCorner_Town_40 dX10_addPerson_53 ?_
  refine lv_aload_n hx hb dX10_addPerson_56 rfl (lv_at hl 1 rfl) ?_
  refine lv_iconst (v := 4) hx hb dX10_addPerson_57 (by decide) ?_
  obtain ⟨v37, e38, hf⟩ := Option.bind_eq_some_iff.mp hf
  refine r_aI0 X I e38 dX10_addPerson_58 ?_
  obtain ⟨h39, e40, hf⟩ := Option.bind_eq_some_iff.mp hf
  refine r_uI0 X I e40 dX10_addPerson_59 (fun H locs I => ?_)
  refine lv_aload_n hx hb dX10_addPerson_60 rfl (lv_at hl 0 rfl) ?_
  obtain ⟨v41, e42, hf⟩ := Option.bind_eq_some_iff.mp hf
  refine r_gR X I e42 lk_TrapCorner_Town_33 dX10_addPerson_61 ?_
  refine lv_aload_n hx hb dX10_addPerson_64 rfl (lv_at hl 0 rfl) ?_
  obtain ⟨v43, e44, hf⟩ := Option.bind_eq_some_iff.mp hf
  refine r_gI X I e44 lk_TrapCorner_Town_40 dX10_addPerson_65 ?_
  refine lv_aload_n hx hb dX10_addPerson_68 rfl (lv_at hl 1 rfl) ?_
  refine lv_iconst (v := 5) hx hb dX10_addPerson_69 (by decide) ?_
  obtain ⟨v45, e46, hf⟩ := Option.bind_eq_some_iff.mp hf
  refine r_aI0 X I e46 dX10_addPerson_70 ?_
  obtain ⟨h47, e48, hf⟩ := Option.bind_eq_some_iff.mp hf
  refine r_uI0 X I e48 dX10_addPerson_71 (fun H locs I => ?_)
  refine lv_aload_n hx hb dX10_addPerson_72 rfl (lv_at hl 0 rfl) ?_
  refine lv_dup hx hb dX10_addPerson_73 rfl ?_
  obtain ⟨v49, e50, hf⟩ := Option.bind_eq_some_iff.mp hf
  refine r_gI X I e50 lk_TrapCorner_Town_40 dX10_addPerson_74 ?_
  refine lv_iconst (v := 1) hx hb dX10_addPerson_77 (by decide) ?_
  refine lv_iadd hx hb dX10_addPerson_78 ?_
  obtain ⟨h51, e52, hf⟩ := Option.bind_eq_some_iff.mp hf
  refine r_pI X I e52 lp_TrapCorner_Town_40 dX10_addPerson_79 (fun H locs I => ?_)
  cases hf
  exact k_rv X I hr dX10_addPerson_82
def f_X10_addPerson (o0 : Nat) (o1 : Nat) (h : AH) : Option (Unit × AH) := f_X10_addPerson_0 o0 o1 h
end
theorem c_X10_addPerson (l : Launch) (g : GG) (o0 : Nat) (o1 : Nat) {h : AH} {res : Unit × AH} (hf : f_X10_addPerson o0 o1 h = some res) : CM l g yX10_addPerson cX10_addPerson 2 none 1 64 0 0 [.ref (rfG g o0), .ref (rfG g o1)] h none res.2 :=
  k_body (by decide) (Nat.le_of_ble_eq_true rfl) (fun p e s m below meth c R ls hR hr X I hl => w_X10_addPerson_0 X ⟨Nat.le_of_eq hR.1.symm, Nat.le_of_eq hR.2.1.symm⟩ hr o0 o1 h ls s.heap [] hf I (lv_sub hl [0, 1] rfl))
/-! TrapCorner$Town.stands()Z -/
theorem dX10_stands_0 : decode cX10_stands 0 = .ok (.aload_n 0, 1) := by decide +kernel
theorem dX10_stands_1 : decode cX10_stands 1 = .ok (.getfield 36, 3) := by decide +kernel
theorem dX10_stands_4 : decode cX10_stands 4 = .ok (.iconst 2, 1) := by decide +kernel
theorem dX10_stands_5 : decode cX10_stands 5 = .ok (.if_icmp .lt 11, 3) := by decide +kernel
theorem dX10_stands_8 : decode cX10_stands 8 = .ok (.aload_n 0, 1) := by decide +kernel
theorem dX10_stands_9 : decode cX10_stands 9 = .ok (.getfield 40, 3) := by decide +kernel
theorem dX10_stands_12 : decode cX10_stands 12 = .ok (.iconst 1, 1) := by decide +kernel
theorem dX10_stands_13 : decode cX10_stands 13 = .ok (.if_icmp .ge 5, 3) := by decide +kernel
theorem dX10_stands_16 : decode cX10_stands 16 = .ok (.iconst 0, 1) := by decide +kernel
theorem dX10_stands_17 : decode cX10_stands 17 = .ok (.ireturn, 1) := by decide +kernel
theorem dX10_stands_18 : decode cX10_stands 18 = .ok (.iconst 0, 1) := by decide +kernel
theorem dX10_stands_19 : decode cX10_stands 19 = .ok (.istore_n 1, 1) := by decide +kernel
theorem dX10_stands_20 : decode cX10_stands 20 = .ok (.iload_n 1, 1) := by decide +kernel
theorem dX10_stands_21 : decode cX10_stands 21 = .ok (.aload_n 0, 1) := by decide +kernel
theorem dX10_stands_22 : decode cX10_stands 22 = .ok (.getfield 40, 3) := by decide +kernel
theorem dX10_stands_25 : decode cX10_stands 25 = .ok (.if_icmp .ge 52, 3) := by decide +kernel
theorem dX10_stands_28 : decode cX10_stands 28 = .ok (.aload_n 0, 1) := by decide +kernel
theorem dX10_stands_29 : decode cX10_stands 29 = .ok (.getfield 27, 3) := by decide +kernel
theorem dX10_stands_32 : decode cX10_stands 32 = .ok (.iload_n 1, 1) := by decide +kernel
theorem dX10_stands_33 : decode cX10_stands 33 = .ok (.iaload, 1) := by decide +kernel
theorem dX10_stands_34 : decode cX10_stands 34 = .ok (.aload_n 0, 1) := by decide +kernel
theorem dX10_stands_35 : decode cX10_stands 35 = .ok (.getfield 30, 3) := by decide +kernel
theorem dX10_stands_38 : decode cX10_stands 38 = .ok (.iload_n 1, 1) := by decide +kernel
theorem dX10_stands_39 : decode cX10_stands 39 = .ok (.iaload, 1) := by decide +kernel
theorem dX10_stands_40 : decode cX10_stands 40 = .ok (.if_icmp .eq 29, 3) := by decide +kernel
theorem dX10_stands_43 : decode cX10_stands 43 = .ok (.aload_n 0, 1) := by decide +kernel
theorem dX10_stands_44 : decode cX10_stands 44 = .ok (.getfield 27, 3) := by decide +kernel
theorem dX10_stands_47 : decode cX10_stands 47 = .ok (.iload_n 1, 1) := by decide +kernel
theorem dX10_stands_48 : decode cX10_stands 48 = .ok (.iaload, 1) := by decide +kernel
theorem dX10_stands_49 : decode cX10_stands 49 = .ok (.aload_n 0, 1) := by decide +kernel
theorem dX10_stands_50 : decode cX10_stands 50 = .ok (.getfield 36, 3) := by decide +kernel
theorem dX10_stands_53 : decode cX10_stands 53 = .ok (.if_icmp .ge 16, 3) := by decide +kernel
theorem dX10_stands_56 : decode cX10_stands 56 = .ok (.aload_n 0, 1) := by decide +kernel
theorem dX10_stands_57 : decode cX10_stands 57 = .ok (.getfield 30, 3) := by decide +kernel
theorem dX10_stands_60 : decode cX10_stands 60 = .ok (.iload_n 1, 1) := by decide +kernel
theorem dX10_stands_61 : decode cX10_stands 61 = .ok (.iaload, 1) := by decide +kernel
theorem dX10_stands_62 : decode cX10_stands 62 = .ok (.aload_n 0, 1) := by decide +kernel
theorem dX10_stands_63 : decode cX10_stands 63 = .ok (.getfield 36, 3) := by decide +kernel
theorem dX10_stands_66 : decode cX10_stands 66 = .ok (.if_icmp .lt 5, 3) := by decide +kernel
theorem dX10_stands_69 : decode cX10_stands 69 = .ok (.iconst 0, 1) := by decide +kernel
theorem dX10_stands_70 : decode cX10_stands 70 = .ok (.ireturn, 1) := by decide +kernel
theorem dX10_stands_71 : decode cX10_stands 71 = .ok (.iinc 1 1, 3) := by decide +kernel
theorem dX10_stands_74 : decode cX10_stands 74 = .ok (.goto (-54), 3) := by decide +kernel
theorem dX10_stands_77 : decode cX10_stands 77 = .ok (.iconst 1, 1) := by decide +kernel
theorem dX10_stands_78 : decode cX10_stands 78 = .ok (.ireturn, 1) := by decide +kernel
section
variable {g : GG} {p : Program} {l : Launch} {e : Env} {R : Room} {s : State} {m : MethodId} {args : Array Value} {below : List Frame} {meth : Method} {c : Code} {n0 z0 : Nat}
def f_X10_stands_20  : Nat → Nat → Int32 → AH → Option (Int32 × AH)
  | 0, _, _, _ => none
  | n + 1, o0, x1, h =>
  (gI [10] h o0 1).bind fun v1 =>
  if v1 ≤ x1 then
    some (1, h)
  else
    (gR [10] h o0 10).bind fun v4 =>
    (aI 0 h v4 x1).bind fun v6 =>
    (gR [10] h o0 11).bind fun v8 =>
    (aI 0 h v8 x1).bind fun v10 =>
    if v6 = v10 then
      some (0, h)
    else
      (gR [10] h o0 10).bind fun v13 =>
      (aI 0 h v13 x1).bind fun v15 =>
      (gI [10] h o0 0).bind fun v17 =>
      if v17 ≤ v15 then
        some (0, h)
      else
        (gR [10] h o0 11).bind fun v20 =>
        (aI 0 h v20 x1).bind fun v22 =>
        (gI [10] h o0 0).bind fun v24 =>
        if v22 < v24 then
          f_X10_stands_20  n o0 (x1 + 1) h
        else
          some (0, h)
set_option maxHeartbeats 1000000 in
theorem w_X10_stands_20 (X : Cx g p s m args meth c cX10_stands 2 "TrapCorner$Town") (hR : 1 ≤ R.frames ∧ 64 ≤ R.locals) (hr : meth.sig.returnType = (some (.boolean))) {res : Int32 × AH} : ∀ (n : Nat) (o0 : Nat) (x1 : Int32) (h : AH) (ls : Array Slot) (H : Heap) (locs : List Loc), f_X10_stands_20 n o0 x1 h = some res → Iv g s n0 z0 h H locs 0 0 → lv_has ls 2 [(0, .ref (rfG g o0)), (1, .int x1)] → W p l e R s m args below meth c H locs 0 0 (MQ below (QG g (some (.int res.1)) res.2) args s 0 0 (AG g)) (F0 m 20 ls []) := by
  have hx := X.1
  have hb := X.2.1
  intro n
  induction n with
  | zero =>
    intro o0 x1 h ls H locs hf
    rw [f_X10_stands_20.eq_1] at hf
    cases hf
  | succ n ih =>
    intro o0 x1 h ls H locs hf I hl
    rw [f_X10_stands_20.eq_2] at hf
    refine lv_iload_n hx hb dX10_stands_20 rfl (lv_at hl 1 rfl) ?_
    refine lv_aload_n hx hb dX10_stands_21 rfl (lv_at hl 0 rfl) ?_
    obtain ⟨v1, e2, hf⟩ := Option.bind_eq_some_iff.mp hf
    refine r_gI X I e2 lk_TrapCorner_Town_40 dX10_stands_22 ?_
    refine lv_icmp_ge (tgt := 77) hx hb dX10_stands_25 (by decide) (fun c3 => ?_) (fun c3 => ?_)
    · rw [if_pos c3] at hf
      refine lv_iconst (v := 1) hx hb dX10_stands_77 (by decide) ?_
      cases hf
      exact k_rz X I hr (Or.inr rfl) dX10_stands_78
    · rw [if_neg c3] at hf
      refine lv_aload_n hx hb dX10_stands_28 rfl (lv_at hl 0 rfl) ?_
      obtain ⟨v4, e5, hf⟩ := Option.bind_eq_some_iff.mp hf
      refine r_gR X I e5 lk_TrapCorner_Town_27 dX10_stands_29 ?_
      refine lv_iload_n hx hb dX10_stands_32 rfl (lv_at hl 1 rfl) ?_
      obtain ⟨v6, e7, hf⟩ := Option.bind_eq_some_iff.mp hf
      refine r_aI0 X I e7 dX10_stands_33 ?_
      refine lv_aload_n hx hb dX10_stands_34 rfl (lv_at hl 0 rfl) ?_
      obtain ⟨v8, e9, hf⟩ := Option.bind_eq_some_iff.mp hf
      refine r_gR X I e9 lk_TrapCorner_Town_30 dX10_stands_35 ?_
      refine lv_iload_n hx hb dX10_stands_38 rfl (lv_at hl 1 rfl) ?_
      obtain ⟨v10, e11, hf⟩ := Option.bind_eq_some_iff.mp hf
      refine r_aI0 X I e11 dX10_stands_39 ?_
      refine lv_icmp_eq (tgt := 69) hx hb dX10_stands_40 (by decide) (fun c12 => ?_) (fun c12 => ?_)
      · rw [if_pos c12] at hf
        refine lv_iconst (v := 0) hx hb dX10_stands_69 (by decide) ?_
        cases hf
        exact k_rz X I hr (Or.inl rfl) dX10_stands_70
      · rw [if_neg c12] at hf
        refine lv_aload_n hx hb dX10_stands_43 rfl (lv_at hl 0 rfl) ?_
        obtain ⟨v13, e14, hf⟩ := Option.bind_eq_some_iff.mp hf
        refine r_gR X I e14 lk_TrapCorner_Town_27 dX10_stands_44 ?_
        refine lv_iload_n hx hb dX10_stands_47 rfl (lv_at hl 1 rfl) ?_
        obtain ⟨v15, e16, hf⟩ := Option.bind_eq_some_iff.mp hf
        refine r_aI0 X I e16 dX10_stands_48 ?_
        refine lv_aload_n hx hb dX10_stands_49 rfl (lv_at hl 0 rfl) ?_
        obtain ⟨v17, e18, hf⟩ := Option.bind_eq_some_iff.mp hf
        refine r_gI X I e18 lk_TrapCorner_Town_36 dX10_stands_50 ?_
        refine lv_icmp_ge (tgt := 69) hx hb dX10_stands_53 (by decide) (fun c19 => ?_) (fun c19 => ?_)
        · rw [if_pos c19] at hf
          refine lv_iconst (v := 0) hx hb dX10_stands_69 (by decide) ?_
          cases hf
          exact k_rz X I hr (Or.inl rfl) dX10_stands_70
        · rw [if_neg c19] at hf
          refine lv_aload_n hx hb dX10_stands_56 rfl (lv_at hl 0 rfl) ?_
          obtain ⟨v20, e21, hf⟩ := Option.bind_eq_some_iff.mp hf
          refine r_gR X I e21 lk_TrapCorner_Town_30 dX10_stands_57 ?_
          refine lv_iload_n hx hb dX10_stands_60 rfl (lv_at hl 1 rfl) ?_
          obtain ⟨v22, e23, hf⟩ := Option.bind_eq_some_iff.mp hf
          refine r_aI0 X I e23 dX10_stands_61 ?_
          refine lv_aload_n hx hb dX10_stands_62 rfl (lv_at hl 0 rfl) ?_
          obtain ⟨v24, e25, hf⟩ := Option.bind_eq_some_iff.mp hf
          refine r_gI X I e25 lk_TrapCorner_Town_36 dX10_stands_63 ?_
          refine lv_icmp_lt (tgt := 71) hx hb dX10_stands_66 (by decide) (fun c26 => ?_) (fun c26 => ?_)
          · rw [if_pos c26] at hf
            refine lv_iinc (v := x1 + 1) (lv' := [(1, .int (x1 + 1)), (0, .ref (rfG g o0))]) hx hb dX10_stands_71 hl (k := 1) rfl rfl (by decide) rfl (fun ls hl => ?_)
            refine lv_goto (tgt := 20) hx hb dX10_stands_74 (by decide) ?_
            exact ih o0 (x1 + 1) h ls H locs hf I (lv_sub hl [1, 0] rfl)
          · rw [if_neg c26] at hf
            refine lv_iconst (v := 0) hx hb dX10_stands_69 (by decide) ?_
            cases hf
            exact k_rz X I hr (Or.inl rfl) dX10_stands_70
def f_X10_stands_0  (o0 : Nat) (h : AH) : Option (Int32 × AH) :=
  (gI [10] h o0 0).bind fun v1 =>
  if v1 < 2 then
    some (0, h)
  else
    (gI [10] h o0 1).bind fun v4 =>
    if 1 ≤ v4 then
      f_X10_stands_20 fu o0 0 h
    else
      some (0, h)
set_option maxHeartbeats 1000000 in
theorem w_X10_stands_0 (X : Cx g p s m args meth c cX10_stands 2 "TrapCorner$Town") (hR : 1 ≤ R.frames ∧ 64 ≤ R.locals) (hr : meth.sig.returnType = (some (.boolean))) {res : Int32 × AH} : ∀ (o0 : Nat) (h : AH) (ls : Array Slot) (H : Heap) (locs : List Loc), f_X10_stands_0 o0 h = some res → Iv g s n0 z0 h H locs 0 0 → lv_has ls 2 [(0, .ref (rfG g o0))] → W p l e R s m args below meth c H locs 0 0 (MQ below (QG g (some (.int res.1)) res.2) args s 0 0 (AG g)) (F0 m 0 ls []) := by
  have hx := X.1
  have hb := X.2.1
  intro o0 h ls H locs hf I hl
  unfold f_X10_stands_0 at hf
  refine lv_aload_n hx hb dX10_stands_0 rfl (lv_at hl 0 rfl) ?_
  obtain ⟨v1, e2, hf⟩ := Option.bind_eq_some_iff.mp hf
  refine r_gI X I e2 lk_TrapCorner_Town_36 dX10_stands_1 ?_
  refine lv_iconst (v := 2) hx hb dX10_stands_4 (by decide) ?_
  refine lv_icmp_lt (tgt := 16) hx hb dX10_stands_5 (by decide) (fun c3 => ?_) (fun c3 => ?_)
  · rw [if_pos c3] at hf
    refine lv_iconst (v := 0) hx hb dX10_stands_16 (by decide) ?_
    cases hf
    exact k_rz X I hr (Or.inl rfl) dX10_stands_17
  · rw [if_neg c3] at hf
    refine lv_aload_n hx hb dX10_stands_8 rfl (lv_at hl 0 rfl) ?_
    obtain ⟨v4, e5, hf⟩ := Option.bind_eq_some_iff.mp hf
    refine r_gI X I e5 lk_TrapCorner_Town_40 dX10_stands_9 ?_
    refine lv_iconst (v := 1) hx hb dX10_stands_12 (by decide) ?_
    refine lv_icmp_ge (tgt := 18) hx hb dX10_stands_13 (by decide) (fun c6 => ?_) (fun c6 => ?_)
    · rw [if_pos c6] at hf
      refine lv_iconst (v := 0) hx hb dX10_stands_18 (by decide) ?_
      refine lv_istore_n (lv' := [(1, .int 0), (0, .ref (rfG g o0))]) hx hb dX10_stands_19 rfl hl (by decide) rfl (fun ls hl => ?_)
      exact w_X10_stands_20 X hR hr fu o0 0 h ls H locs hf I (lv_sub hl [1, 0] rfl)
    · rw [if_neg c6] at hf
      refine lv_iconst (v := 0) hx hb dX10_stands_16 (by decide) ?_
      cases hf
      exact k_rz X I hr (Or.inl rfl) dX10_stands_17
def f_X10_stands (o0 : Nat) (h : AH) : Option (Int32 × AH) := f_X10_stands_0 o0 h
end
theorem c_X10_stands (l : Launch) (g : GG) (o0 : Nat) {h : AH} {res : Int32 × AH} (hf : f_X10_stands o0 h = some res) : CM l g yX10_stands cX10_stands 2 (some (.boolean)) 1 64 0 0 [.ref (rfG g o0)] h (some (.int res.1)) res.2 :=
  k_body (by decide) (Nat.le_of_ble_eq_true rfl) (fun p e s m below meth c R ls hR hr X I hl => w_X10_stands_0 X ⟨Nat.le_of_eq hR.1.symm, Nat.le_of_eq hR.2.1.symm⟩ hr o0 h ls s.heap [] hf I (lv_sub hl [0] rfl))
/-! TrapCorner$Town.copyFrom(LTrapCorner$Town;)V -/
theorem dX10_copyFrom_0 : decode cX10_copyFrom 0 = .ok (.aload_n 0, 1) := by decide +kernel
theorem dX10_copyFrom_1 : decode cX10_copyFrom 1 = .ok (.aload_n 1, 1) := by decide +kernel
theorem dX10_copyFrom_2 : decode cX10_copyFrom 2 = .ok (.getfield 36, 3) := by decide +kernel
theorem dX10_copyFrom_5 : decode cX10_copyFrom 5 = .ok (.putfield 36, 3) := by decide +kernel
theorem dX10_copyFrom_8 : decode cX10_copyFrom 8 = .ok (.aload_n 0, 1) := by decide +kernel
theorem dX10_copyFrom_9 : decode cX10_copyFrom 9 = .ok (.aload_n 1, 1) := by decide +kernel
theorem dX10_copyFrom_10 : decode cX10_copyFrom 10 = .ok (.getfield 40, 3) := by decide +kernel
theorem dX10_copyFrom_13 : decode cX10_copyFrom 13 = .ok (.putfield 40, 3) := by decide +kernel
theorem dX10_copyFrom_16 : decode cX10_copyFrom 16 = .ok (.aload_n 0, 1) := by decide +kernel
theorem dX10_copyFrom_17 : decode cX10_copyFrom 17 = .ok (.aload_n 1, 1) := by decide +kernel
theorem dX10_copyFrom_18 : decode cX10_copyFrom 18 = .ok (.getfield 43, 3) := by decide +kernel
theorem dX10_copyFrom_21 : decode cX10_copyFrom 21 = .ok (.putfield 43, 3) := by decide +kernel
theorem dX10_copyFrom_24 : decode cX10_copyFrom 24 = .ok (.aload_n 0, 1) := by decide +kernel
theorem dX10_copyFrom_25 : decode cX10_copyFrom 25 = .ok (.aload_n 1, 1) := by decide +kernel
theorem dX10_copyFrom_26 : decode cX10_copyFrom 26 = .ok (.getfield 46, 3) := by decide +kernel
theorem dX10_copyFrom_29 : decode cX10_copyFrom 29 = .ok (.putfield 46, 3) := by decide +kernel
theorem dX10_copyFrom_32 : decode cX10_copyFrom 32 = .ok (.aload_n 0, 1) := by decide +kernel
theorem dX10_copyFrom_33 : decode cX10_copyFrom 33 = .ok (.aload_n 1, 1) := by decide +kernel
theorem dX10_copyFrom_34 : decode cX10_copyFrom 34 = .ok (.getfield 49, 3) := by decide +kernel
theorem dX10_copyFrom_37 : decode cX10_copyFrom 37 = .ok (.putfield 49, 3) := by decide +kernel
theorem dX10_copyFrom_40 : decode cX10_copyFrom 40 = .ok (.aload_n 1, 1) := by decide +kernel
theorem dX10_copyFrom_41 : decode cX10_copyFrom 41 = .ok (.getfield 9, 3) := by decide +kernel
theorem dX10_copyFrom_44 : decode cX10_copyFrom 44 = .ok (.iconst 0, 1) := by decide +kernel
theorem dX10_copyFrom_45 : decode cX10_copyFrom 45 = .ok (.aload_n 0, 1) := by decide +kernel
theorem dX10_copyFrom_46 : decode cX10_copyFrom 46 = .ok (.getfield 9, 3) := by decide +kernel
theorem dX10_copyFrom_49 : decode cX10_copyFrom 49 = .ok (.iconst 0, 1) := by decide +kernel
theorem dX10_copyFrom_50 : decode cX10_copyFrom 50 = .ok (.iconst 5, 1) := by decide +kernel
theorem dX10_copyFrom_51 : decode cX10_copyFrom 51 = .ok (.invokestatic 52, 3) := by decide +kernel
theorem dX10_copyFrom_54 : decode cX10_copyFrom 54 = .ok (.aload_n 1, 1) := by decide +kernel
theorem dX10_copyFrom_55 : decode cX10_copyFrom 55 = .ok (.getfield 15, 3) := by decide +kernel
theorem dX10_copyFrom_58 : decode cX10_copyFrom 58 = .ok (.iconst 0, 1) := by decide +kernel
theorem dX10_copyFrom_59 : decode cX10_copyFrom 59 = .ok (.aload_n 0, 1) := by decide +kernel
theorem dX10_copyFrom_60 : decode cX10_copyFrom 60 = .ok (.getfield 15, 3) := by decide +kernel
theorem dX10_copyFrom_63 : decode cX10_copyFrom 63 = .ok (.iconst 0, 1) := by decide +kernel
theorem dX10_copyFrom_64 : decode cX10_copyFrom 64 = .ok (.iconst 5, 1) := by decide +kernel
theorem dX10_copyFrom_65 : decode cX10_copyFrom 65 = .ok (.invokestatic 52, 3) := by decide +kernel
theorem dX10_copyFrom_68 : decode cX10_copyFrom 68 = .ok (.aload_n 1, 1) := by decide +kernel
theorem dX10_copyFrom_69 : decode cX10_copyFrom 69 = .ok (.getfield 18, 3) := by decide +kernel
theorem dX10_copyFrom_72 : decode cX10_copyFrom 72 = .ok (.iconst 0, 1) := by decide +kernel
theorem dX10_copyFrom_73 : decode cX10_copyFrom 73 = .ok (.aload_n 0, 1) := by decide +kernel
theorem dX10_copyFrom_74 : decode cX10_copyFrom 74 = .ok (.getfield 18, 3) := by decide +kernel
theorem dX10_copyFrom_77 : decode cX10_copyFrom 77 = .ok (.iconst 0, 1) := by decide +kernel
theorem dX10_copyFrom_78 : decode cX10_copyFrom 78 = .ok (.bipush 6, 2) := by decide +kernel
theorem dX10_copyFrom_80 : decode cX10_copyFrom 80 = .ok (.invokestatic 52, 3) := by decide +kernel
theorem dX10_copyFrom_83 : decode cX10_copyFrom 83 = .ok (.aload_n 1, 1) := by decide +kernel
theorem dX10_copyFrom_84 : decode cX10_copyFrom 84 = .ok (.getfield 21, 3) := by decide +kernel
theorem dX10_copyFrom_87 : decode cX10_copyFrom 87 = .ok (.iconst 0, 1) := by decide +kernel
theorem dX10_copyFrom_88 : decode cX10_copyFrom 88 = .ok (.aload_n 0, 1) := by decide +kernel
theorem dX10_copyFrom_89 : decode cX10_copyFrom 89 = .ok (.getfield 21, 3) := by decide +kernel
theorem dX10_copyFrom_92 : decode cX10_copyFrom 92 = .ok (.iconst 0, 1) := by decide +kernel
theorem dX10_copyFrom_93 : decode cX10_copyFrom 93 = .ok (.bipush 6, 2) := by decide +kernel
theorem dX10_copyFrom_95 : decode cX10_copyFrom 95 = .ok (.invokestatic 52, 3) := by decide +kernel
theorem dX10_copyFrom_98 : decode cX10_copyFrom 98 = .ok (.aload_n 1, 1) := by decide +kernel
theorem dX10_copyFrom_99 : decode cX10_copyFrom 99 = .ok (.getfield 24, 3) := by decide +kernel
theorem dX10_copyFrom_102 : decode cX10_copyFrom 102 = .ok (.iconst 0, 1) := by decide +kernel
theorem dX10_copyFrom_103 : decode cX10_copyFrom 103 = .ok (.aload_n 0, 1) := by decide +kernel
theorem dX10_copyFrom_104 : decode cX10_copyFrom 104 = .ok (.getfield 24, 3) := by decide +kernel
theorem dX10_copyFrom_107 : decode cX10_copyFrom 107 = .ok (.iconst 0, 1) := by decide +kernel
theorem dX10_copyFrom_108 : decode cX10_copyFrom 108 = .ok (.bipush 6, 2) := by decide +kernel
theorem dX10_copyFrom_110 : decode cX10_copyFrom 110 = .ok (.invokestatic 52, 3) := by decide +kernel
theorem dX10_copyFrom_113 : decode cX10_copyFrom 113 = .ok (.aload_n 1, 1) := by decide +kernel
theorem dX10_copyFrom_114 : decode cX10_copyFrom 114 = .ok (.getfield 27, 3) := by decide +kernel
theorem dX10_copyFrom_117 : decode cX10_copyFrom 117 = .ok (.iconst 0, 1) := by decide +kernel
theorem dX10_copyFrom_118 : decode cX10_copyFrom 118 = .ok (.aload_n 0, 1) := by decide +kernel
theorem dX10_copyFrom_119 : decode cX10_copyFrom 119 = .ok (.getfield 27, 3) := by decide +kernel
theorem dX10_copyFrom_122 : decode cX10_copyFrom 122 = .ok (.iconst 0, 1) := by decide +kernel
theorem dX10_copyFrom_123 : decode cX10_copyFrom 123 = .ok (.bipush 6, 2) := by decide +kernel
theorem dX10_copyFrom_125 : decode cX10_copyFrom 125 = .ok (.invokestatic 52, 3) := by decide +kernel
theorem dX10_copyFrom_128 : decode cX10_copyFrom 128 = .ok (.aload_n 1, 1) := by decide +kernel
theorem dX10_copyFrom_129 : decode cX10_copyFrom 129 = .ok (.getfield 30, 3) := by decide +kernel
theorem dX10_copyFrom_132 : decode cX10_copyFrom 132 = .ok (.iconst 0, 1) := by decide +kernel
theorem dX10_copyFrom_133 : decode cX10_copyFrom 133 = .ok (.aload_n 0, 1) := by decide +kernel
theorem dX10_copyFrom_134 : decode cX10_copyFrom 134 = .ok (.getfield 30, 3) := by decide +kernel
theorem dX10_copyFrom_137 : decode cX10_copyFrom 137 = .ok (.iconst 0, 1) := by decide +kernel
theorem dX10_copyFrom_138 : decode cX10_copyFrom 138 = .ok (.bipush 6, 2) := by decide +kernel
theorem dX10_copyFrom_140 : decode cX10_copyFrom 140 = .ok (.invokestatic 52, 3) := by decide +kernel
theorem dX10_copyFrom_143 : decode cX10_copyFrom 143 = .ok (.aload_n 1, 1) := by decide +kernel
theorem dX10_copyFrom_144 : decode cX10_copyFrom 144 = .ok (.getfield 33, 3) := by decide +kernel
theorem dX10_copyFrom_147 : decode cX10_copyFrom 147 = .ok (.iconst 0, 1) := by decide +kernel
theorem dX10_copyFrom_148 : decode cX10_copyFrom 148 = .ok (.aload_n 0, 1) := by decide +kernel
theorem dX10_copyFrom_149 : decode cX10_copyFrom 149 = .ok (.getfield 33, 3) := by decide +kernel
theorem dX10_copyFrom_152 : decode cX10_copyFrom 152 = .ok (.iconst 0, 1) := by decide +kernel
theorem dX10_copyFrom_153 : decode cX10_copyFrom 153 = .ok (.bipush 6, 2) := by decide +kernel
theorem dX10_copyFrom_155 : decode cX10_copyFrom 155 = .ok (.invokestatic 52, 3) := by decide +kernel
theorem dX10_copyFrom_158 : decode cX10_copyFrom 158 = .ok (.return_, 1) := by decide +kernel
theorem lk_TrapCorner_Town_43 : LK "TrapCorner$Town" 43 [10] 2 := by
  intro ci hci
  have hci := List.mem_singleton.mp hci
  subst hci
  exact ⟨RX10, TX10, 13, "TrapCorner$Town", ck_10, by decide, tw_75, Or.inl rfl⟩
theorem lk_TrapCorner_Town_46 : LK "TrapCorner$Town" 46 [10] 3 := by
  intro ci hci
  have hci := List.mem_singleton.mp hci
  subst hci
  exact ⟨RX10, TX10, 13, "TrapCorner$Town", ck_10, by decide, tw_80, Or.inl rfl⟩
theorem lk_TrapCorner_Town_49 : LK "TrapCorner$Town" 49 [10] 4 := by
  intro ci hci
  have hci := List.mem_singleton.mp hci
  subst hci
  exact ⟨RX10, TX10, 13, "TrapCorner$Town", ck_10, by decide, tw_81, Or.inl rfl⟩
section
variable {g : GG} {p : Program} {l : Launch} {e : Env} {R : Room} {s : State} {m : MethodId} {args : Array Value} {below : List Frame} {meth : Method} {c : Code} {n0 z0 : Nat}
def f_X10_copyFrom_0  (o0 : Nat) (o1 : Nat) (h : AH) : Option (Unit × AH) :=
  (gI [10] h o1 0).bind fun v1 =>
  (pV [10] h o0 0 (.int v1)).bind fun h3 =>
  (gI [10] h3 o1 1).bind fun v5 =>
  (pV [10] h3 o0 1 (.int v5)).bind fun h7 =>
  (gI [10] h7 o1 2).bind fun v9 =>
  (pV [10] h7 o0 2 (.int v9)).bind fun h11 =>
  (gI [10] h11 o1 3).bind fun v13 =>
  (pV [10] h11 o0 3 (.int v13)).bind fun h15 =>
  (gI [10] h15 o1 4).bind fun v17 =>
  (pV [10] h15 o0 4 (.int v17)).bind fun h19 =>
  (gR [10] h19 o1 5).bind fun v21 =>
  (gR [10] h19 o0 5).bind fun v23 =>
  (aCpy h19 v21 0 v23 0 5).bind fun h25 =>
  (gR [10] h25 o1 6).bind fun v27 =>
  (gR [10] h25 o0 6).bind fun v29 =>
  (aCpy h25 v27 0 v29 0 5).bind fun h31 =>
  (gR [10] h31 o1 7).bind fun v33 =>
  (gR [10] h31 o0 7).bind fun v35 =>
  (aCpy h31 v33 0 v35 0 6).bind fun h37 =>
  (gR [10] h37 o1 8).bind fun v39 =>
  (gR [10] h37 o0 8).bind fun v41 =>
  (aCpy h37 v39 0 v41 0 6).bind fun h43 =>
  (gR [10] h43 o1 9).bind fun v45 =>
  (gR [10] h43 o0 9).bind fun v47 =>
  (aCpy h43 v45 0 v47 0 6).bind fun h49 =>
  (gR [10] h49 o1 10).bind fun v51 =>
  (gR [10] h49 o0 10).bind fun v53 =>
  (aCpy h49 v51 0 v53 0 6).bind fun h55 =>
  (gR [10] h55 o1 11).bind fun v57 =>
  (gR [10] h55 o0 11).bind fun v59 =>
  (aCpy h55 v57 0 v59 0 6).bind fun h61 =>
  (gR [10] h61 o1 12).bind fun v63 =>
  (gR [10] h61 o0 12).bind fun v65 =>
  (aCpy h61 v63 0 v65 0 6).bind fun h67 =>
  some ((), h67)
set_option maxHeartbeats 1000000 in
theorem w_X10_copyFrom_0 (X : Cx g p s m args meth c cX10_copyFrom 2 "TrapCorner$Town") (hR : 1 ≤ R.frames ∧ 64 ≤ R.locals) (hr : meth.sig.returnType = none) {res : Unit × AH} : ∀ (o0 : Nat) (o1 : Nat) (h : AH) (ls : Array Slot) (H : Heap) (locs : List Loc), f_X10_copyFrom_0 o0 o1 h = some res → Iv g s n0 z0 h H locs 0 0 → lv_has ls 2 [(0, .ref (rfG g o0)), (1, .ref (rfG g o1))] → W p l e R s m args below meth c H locs 0 0 (MQ below (QG g none res.2) args s 0 0 (AG g)) (F0 m 0 ls []) := by
  have hx := X.1
  have hb := X.2.1
  intro o0 o1 h ls H locs hf I hl
  unfold f_X10_copyFrom_0 at hf
  refine lv_aload_n hx hb dX10_copyFrom_0 rfl (lv_at hl 0 rfl) ?_
  refine lv_aload_n hx hb dX10_copyFrom_1 rfl (lv_at hl 1 rfl) ?_
  obtain ⟨v1, e2, hf⟩ := Option.bind_eq_some_iff.mp hf
  refine r_gI X I e2 lk_TrapCorner_Town_36 dX10_copyFrom_2 ?_
  obtain ⟨h3, e4, hf⟩ := Option.bind_eq_some_iff.mp hf
  refine r_pI X I e4 lp_TrapCorner_Town_36 dX10_copyFrom_5 (fun H locs I => ?_)
  refine lv_aload_n hx hb dX10_copyFrom_8 rfl (lv_at hl 0 rfl) ?_
  refine lv_aload_n hx hb dX10_copyFrom_9 rfl (lv_at hl 1 rfl) ?_
  obtain ⟨v5, e6, hf⟩ := Option.bind_eq_some_iff.mp hf
  refine r_gI X I e6 lk_TrapCorner_Town_40 dX10_copyFrom_10 ?_
  obtain ⟨h7, e8, hf⟩ := Option.bind_eq_some_iff.mp hf
  refine r_pI X I e8 lp_TrapCorner_Town_40 dX10_copyFrom_13 (fun H locs I => ?_)
  refine lv_aload_n hx hb dX10_copyFrom_16 rfl (lv_at hl 0 rfl) ?_
  refine lv_aload_n hx hb dX10_copyFrom_17 rfl (lv_at hl 1 rfl) ?_
  obtain ⟨v9, e10, hf⟩ := Option.bind_eq_some_iff.mp hf
  refine r_gI X I e10 lk_TrapCorner_Town_43 dX10_copyFrom_18 ?_
  obtain ⟨h11, e12, hf⟩ := Option.bind_eq_some_iff.mp hf
  refine r_pI X I e12 lp_TrapCorner_Town_43 dX10_copyFrom_21 (fun H locs I => ?_)
  refine lv_aload_n hx hb dX10_copyFrom_24 rfl (lv_at hl 0 rfl) ?_
  refine lv_aload_n hx hb dX10_copyFrom_25 rfl (lv_at hl 1 rfl) ?_
  obtain ⟨v13, e14, hf⟩ := Option.bind_eq_some_iff.mp hf
  refine r_gI X I e14 lk_TrapCorner_Town_46 dX10_copyFrom_26 ?_
  obtain ⟨h15, e16, hf⟩ := Option.bind_eq_some_iff.mp hf
  refine r_pI X I e16 lp_TrapCorner_Town_46 dX10_copyFrom_29 (fun H locs I => ?_)
  refine lv_aload_n hx hb dX10_copyFrom_32 rfl (lv_at hl 0 rfl) ?_
  refine lv_aload_n hx hb dX10_copyFrom_33 rfl (lv_at hl 1 rfl) ?_
  obtain ⟨v17, e18, hf⟩ := Option.bind_eq_some_iff.mp hf
  refine r_gI X I e18 lk_TrapCorner_Town_49 dX10_copyFrom_34 ?_
  obtain ⟨h19, e20, hf⟩ := Option.bind_eq_some_iff.mp hf
  refine r_pI X I e20 lp_TrapCorner_Town_49 dX10_copyFrom_37 (fun H locs I => ?_)
  refine lv_aload_n hx hb dX10_copyFrom_40 rfl (lv_at hl 1 rfl) ?_
  obtain ⟨v21, e22, hf⟩ := Option.bind_eq_some_iff.mp hf
  refine r_gR X I e22 lk_TrapCorner_Town_9 dX10_copyFrom_41 ?_
  refine lv_iconst (v := 0) hx hb dX10_copyFrom_44 (by decide) ?_
  refine lv_aload_n hx hb dX10_copyFrom_45 rfl (lv_at hl 0 rfl) ?_
  obtain ⟨v23, e24, hf⟩ := Option.bind_eq_some_iff.mp hf
  refine r_gR X I e24 lk_TrapCorner_Town_9 dX10_copyFrom_46 ?_
  refine lv_iconst (v := 0) hx hb dX10_copyFrom_49 (by decide) ?_
  refine lv_iconst (v := 5) hx hb dX10_copyFrom_50 (by decide) ?_
  obtain ⟨h25, e26, hf⟩ := Option.bind_eq_some_iff.mp hf
  refine r_cpy X I e26 tw_740 ⟨Nat.le_trans (by decide) hR.1, Nat.le_trans (by decide) hR.2⟩ hl.1 (Nat.le_of_ble_eq_true rfl) dX10_copyFrom_51 (fun H locs I => ?_)
  refine lv_aload_n hx hb dX10_copyFrom_54 rfl (lv_at hl 1 rfl) ?_
  obtain ⟨v27, e28, hf⟩ := Option.bind_eq_some_iff.mp hf
  refine r_gR X I e28 lk_TrapCorner_Town_15 dX10_copyFrom_55 ?_
  refine lv_iconst (v := 0) hx hb dX10_copyFrom_58 (by decide) ?_
  refine lv_aload_n hx hb dX10_copyFrom_59 rfl (lv_at hl 0 rfl) ?_
  obtain ⟨v29, e30, hf⟩ := Option.bind_eq_some_iff.mp hf
  refine r_gR X I e30 lk_TrapCorner_Town_15 dX10_copyFrom_60 ?_
  refine lv_iconst (v := 0) hx hb dX10_copyFrom_63 (by decide) ?_
  refine lv_iconst (v := 5) hx hb dX10_copyFrom_64 (by decide) ?_
  obtain ⟨h31, e32, hf⟩ := Option.bind_eq_some_iff.mp hf
  refine r_cpy X I e32 tw_740 ⟨Nat.le_trans (by decide) hR.1, Nat.le_trans (by decide) hR.2⟩ hl.1 (Nat.le_of_ble_eq_true rfl) dX10_copyFrom_65 (fun H locs I => ?_)
  refine lv_aload_n hx hb dX10_copyFrom_68 rfl (lv_at hl 1 rfl) ?_
  obtain ⟨v33, e34, hf⟩ := Option.bind_eq_some_iff.mp hf
  refine r_gR X I e34 lk_TrapCorner_Town_18 dX10_copyFrom_69 ?_
  refine lv_iconst (v := 0) hx hb dX10_copyFrom_72 (by decide) ?_
  refine lv_aload_n hx hb dX10_copyFrom_73 rfl (lv_at hl 0 rfl) ?_
  obtain ⟨v35, e36, hf⟩ := Option.bind_eq_some_iff.mp hf
  refine r_gR X I e36 lk_TrapCorner_Town_18 dX10_copyFrom_74 ?_
  refine lv_iconst (v := 0) hx hb dX10_copyFrom_77 (by decide) ?_
  refine lv_bipush (v := 6) hx hb dX10_copyFrom_78 (by decide) ?_
  obtain ⟨h37, e38, hf⟩ := Option.bind_eq_some_iff.mp hf
  refine r_cpy X I e38 tw_740 ⟨Nat.le_trans (by decide) hR.1, Nat.le_trans (by decide) hR.2⟩ hl.1 (Nat.le_of_ble_eq_true rfl) dX10_copyFrom_80 (fun H locs I => ?_)
  refine lv_aload_n hx hb dX10_copyFrom_83 rfl (lv_at hl 1 rfl) ?_
  obtain ⟨v39, e40, hf⟩ := Option.bind_eq_some_iff.mp hf
  refine r_gR X I e40 lk_TrapCorner_Town_21 dX10_copyFrom_84 ?_
  refine lv_iconst (v := 0) hx hb dX10_copyFrom_87 (by decide) ?_
  refine lv_aload_n hx hb dX10_copyFrom_88 rfl (lv_at hl 0 rfl) ?_
  obtain ⟨v41, e42, hf⟩ := Option.bind_eq_some_iff.mp hf
  refine r_gR X I e42 lk_TrapCorner_Town_21 dX10_copyFrom_89 ?_
  refine lv_iconst (v := 0) hx hb dX10_copyFrom_92 (by decide) ?_
  refine lv_bipush (v := 6) hx hb dX10_copyFrom_93 (by decide) ?_
  obtain ⟨h43, e44, hf⟩ := Option.bind_eq_some_iff.mp hf
  refine r_cpy X I e44 tw_740 ⟨Nat.le_trans (by decide) hR.1, Nat.le_trans (by decide) hR.2⟩ hl.1 (Nat.le_of_ble_eq_true rfl) dX10_copyFrom_95 (fun H locs I => ?_)
  refine lv_aload_n hx hb dX10_copyFrom_98 rfl (lv_at hl 1 rfl) ?_
  obtain ⟨v45, e46, hf⟩ := Option.bind_eq_some_iff.mp hf
  refine r_gR X I e46 lk_TrapCorner_Town_24 dX10_copyFrom_99 ?_
  refine lv_iconst (v := 0) hx hb dX10_copyFrom_102 (by decide) ?_
  refine lv_aload_n hx hb dX10_copyFrom_103 rfl (lv_at hl 0 rfl) ?_
  obtain ⟨v47, e48, hf⟩ := Option.bind_eq_some_iff.mp hf
  refine r_gR X I e48 lk_TrapCorner_Town_24 dX10_copyFrom_104 ?_
  refine lv_iconst (v := 0) hx hb dX10_copyFrom_107 (by decide) ?_
  refine lv_bipush (v := 6) hx hb dX10_copyFrom_108 (by decide) ?_
  obtain ⟨h49, e50, hf⟩ := Option.bind_eq_some_iff.mp hf
  refine r_cpy X I e50 tw_740 ⟨Nat.le_trans (by decide) hR.1, Nat.le_trans (by decide) hR.2⟩ hl.1 (Nat.le_of_ble_eq_true rfl) dX10_copyFrom_110 (fun H locs I => ?_)
  refine lv_aload_n hx hb dX10_copyFrom_113 rfl (lv_at hl 1 rfl) ?_
  obtain ⟨v51, e52, hf⟩ := Option.bind_eq_some_iff.mp hf
  refine r_gR X I e52 lk_TrapCorner_Town_27 dX10_copyFrom_114 ?_
  refine lv_iconst (v := 0) hx hb dX10_copyFrom_117 (by decide) ?_
  refine lv_aload_n hx hb dX10_copyFrom_118 rfl (lv_at hl 0 rfl) ?_
  obtain ⟨v53, e54, hf⟩ := Option.bind_eq_some_iff.mp hf
  refine r_gR X I e54 lk_TrapCorner_Town_27 dX10_copyFrom_119 ?_
  refine lv_iconst (v := 0) hx hb dX10_copyFrom_122 (by decide) ?_
  refine lv_bipush (v := 6) hx hb dX10_copyFrom_123 (by decide) ?_
  obtain ⟨h55, e56, hf⟩ := Option.bind_eq_some_iff.mp hf
  refine r_cpy X I e56 tw_740 ⟨Nat.le_trans (by decide) hR.1, Nat.le_trans (by decide) hR.2⟩ hl.1 (Nat.le_of_ble_eq_true rfl) dX10_copyFrom_125 (fun H locs I => ?_)
  refine lv_aload_n hx hb dX10_copyFrom_128 rfl (lv_at hl 1 rfl) ?_
  obtain ⟨v57, e58, hf⟩ := Option.bind_eq_some_iff.mp hf
  refine r_gR X I e58 lk_TrapCorner_Town_30 dX10_copyFrom_129 ?_
  refine lv_iconst (v := 0) hx hb dX10_copyFrom_132 (by decide) ?_
  refine lv_aload_n hx hb dX10_copyFrom_133 rfl (lv_at hl 0 rfl) ?_
  obtain ⟨v59, e60, hf⟩ := Option.bind_eq_some_iff.mp hf
  refine r_gR X I e60 lk_TrapCorner_Town_30 dX10_copyFrom_134 ?_
  refine lv_iconst (v := 0) hx hb dX10_copyFrom_137 (by decide) ?_
  refine lv_bipush (v := 6) hx hb dX10_copyFrom_138 (by decide) ?_
  obtain ⟨h61, e62, hf⟩ := Option.bind_eq_some_iff.mp hf
  refine r_cpy X I e62 tw_740 ⟨Nat.le_trans (by decide) hR.1, Nat.le_trans (by decide) hR.2⟩ hl.1 (Nat.le_of_ble_eq_true rfl) dX10_copyFrom_140 (fun H locs I => ?_)
  refine lv_aload_n hx hb dX10_copyFrom_143 rfl (lv_at hl 1 rfl) ?_
  obtain ⟨v63, e64, hf⟩ := Option.bind_eq_some_iff.mp hf
  refine r_gR X I e64 lk_TrapCorner_Town_33 dX10_copyFrom_144 ?_
  refine lv_iconst (v := 0) hx hb dX10_copyFrom_147 (by decide) ?_
  refine lv_aload_n hx hb dX10_copyFrom_148 rfl (lv_at hl 0 rfl) ?_
  obtain ⟨v65, e66, hf⟩ := Option.bind_eq_some_iff.mp hf
  refine r_gR X I e66 lk_TrapCorner_Town_33 dX10_copyFrom_149 ?_
  refine lv_iconst (v := 0) hx hb dX10_copyFrom_152 (by decide) ?_
  refine lv_bipush (v := 6) hx hb dX10_copyFrom_153 (by decide) ?_
  obtain ⟨h67, e68, hf⟩ := Option.bind_eq_some_iff.mp hf
  refine r_cpy X I e68 tw_740 ⟨Nat.le_trans (by decide) hR.1, Nat.le_trans (by decide) hR.2⟩ hl.1 (Nat.le_of_ble_eq_true rfl) dX10_copyFrom_155 (fun H locs I => ?_)
  cases hf
  exact k_rv X I hr dX10_copyFrom_158
def f_X10_copyFrom (o0 : Nat) (o1 : Nat) (h : AH) : Option (Unit × AH) := f_X10_copyFrom_0 o0 o1 h
end
theorem c_X10_copyFrom (l : Launch) (g : GG) (o0 : Nat) (o1 : Nat) {h : AH} {res : Unit × AH} (hf : f_X10_copyFrom o0 o1 h = some res) : CM l g yX10_copyFrom cX10_copyFrom 2 none 1 64 0 0 [.ref (rfG g o0), .ref (rfG g o1)] h none res.2 :=
  k_body (by decide) (Nat.le_of_ble_eq_true rfl) (fun p e s m below meth c R ls hR hr X I hl => w_X10_copyFrom_0 X ⟨Nat.le_of_eq hR.1.symm, Nat.le_of_eq hR.2.1.symm⟩ hr o0 o1 h ls s.heap [] hf I (lv_sub hl [0, 1] rfl))
