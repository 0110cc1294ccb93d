/-! TrapCorner.moves(II)I -/
theorem dX11_moves_0 : decode cX11_moves 0 = .ok (.aload_n 0, 1) := by decide +kernel
theorem dX11_moves_1 : decode cX11_moves 1 = .ok (.iload_n 1, 1) := by decide +kernel
theorem dX11_moves_2 : decode cX11_moves 2 = .ok (.invokevirtual 194, 3) := by decide +kernel
theorem dX11_moves_5 : decode cX11_moves 5 = .ok (.ifCond .eq 8, 3) := by decide +kernel
theorem dX11_moves_8 : decode cX11_moves 8 = .ok (.iload_n 2, 1) := by decide +kernel
theorem dX11_moves_9 : decode cX11_moves 9 = .ok (.iconst (-1), 1) := by decide +kernel
theorem dX11_moves_10 : decode cX11_moves 10 = .ok (.if_icmp .ge 5, 3) := by decide +kernel
theorem dX11_moves_13 : decode cX11_moves 13 = .ok (.iconst (-1), 1) := by decide +kernel
theorem dX11_moves_14 : decode cX11_moves 14 = .ok (.ireturn, 1) := by decide +kernel
theorem dX11_moves_15 : decode cX11_moves 15 = .ok (.aload_n 0, 1) := by decide +kernel
theorem dX11_moves_16 : decode cX11_moves 16 = .ok (.getfield 82, 3) := by decide +kernel
theorem dX11_moves_19 : decode cX11_moves 19 = .ok (.iload_n 1, 1) := by decide +kernel
theorem dX11_moves_20 : decode cX11_moves 20 = .ok (.invokevirtual 377, 3) := by decide +kernel
theorem dX11_moves_23 : decode cX11_moves 23 = .ok (.iload_n 2, 1) := by decide +kernel
theorem dX11_moves_24 : decode cX11_moves 24 = .ok (.iconst (-1), 1) := by decide +kernel
theorem dX11_moves_25 : decode cX11_moves 25 = .ok (.if_icmp .ne 11, 3) := by decide +kernel
theorem dX11_moves_28 : decode cX11_moves 28 = .ok (.aload_n 0, 1) := by decide +kernel
theorem dX11_moves_29 : decode cX11_moves 29 = .ok (.getfield 82, 3) := by decide +kernel
theorem dX11_moves_32 : decode cX11_moves 32 = .ok (.getfield 380, 3) := by decide +kernel
theorem dX11_moves_35 : decode cX11_moves 35 = .ok (.ireturn, 1) := by decide +kernel
theorem dX11_moves_36 : decode cX11_moves 36 = .ok (.iload_n 2, 1) := by decide +kernel
theorem dX11_moves_37 : decode cX11_moves 37 = .ok (.aload_n 0, 1) := by decide +kernel
theorem dX11_moves_38 : decode cX11_moves 38 = .ok (.getfield 82, 3) := by decide +kernel
theorem dX11_moves_41 : decode cX11_moves 41 = .ok (.getfield 380, 3) := by decide +kernel
theorem dX11_moves_44 : decode cX11_moves 44 = .ok (.if_icmp .ge 15, 3) := by decide +kernel
theorem dX11_moves_47 : decode cX11_moves 47 = .ok (.aload_n 0, 1) := by decide +kernel
theorem dX11_moves_48 : decode cX11_moves 48 = .ok (.getfield 82, 3) := by decide +kernel
theorem dX11_moves_51 : decode cX11_moves 51 = .ok (.getfield 383, 3) := by decide +kernel
theorem dX11_moves_54 : decode cX11_moves 54 = .ok (.iload_n 2, 1) := by decide +kernel
theorem dX11_moves_55 : decode cX11_moves 55 = .ok (.iaload, 1) := by decide +kernel
theorem dX11_moves_56 : decode cX11_moves 56 = .ok (.goto 4, 3) := by decide +kernel
theorem dX11_moves_59 : decode cX11_moves 59 = .ok (.iconst (-1), 1) := by decide +kernel
theorem dX11_moves_60 : decode cX11_moves 60 = .ok (.ireturn, 1) := by decide +kernel
theorem vk_TrapCorner_377 : VK "TrapCorner" 377 [7] yX7_fit 1 := ⟨tw_1070, tw_1071, tw_12, ⟨by decide, by decide⟩, by decide +kernel, fun ci hci => by
  have hci := List.mem_singleton.mp hci
  subst hci
  exact ⟨_, rfl, tw_1072⟩⟩
theorem lk_TrapCorner_380 : LK "TrapCorner" 380 [7] 8 := by
  intro ci hci
  have hci := List.mem_singleton.mp hci
  subst hci
  exact ⟨RX7, TX7, 9, "TrapCorner$Sightings", ck_7, by decide, tw_342, Or.inl rfl⟩
theorem lk_TrapCorner_383 : LK "TrapCorner" 383 [7] 7 := by
  intro ci hci
  have hci := List.mem_singleton.mp hci
  subst hci
  exact ⟨RX7, TX7, 9, "TrapCorner$Sightings", ck_7, by decide, tw_340, Or.inl rfl⟩
section
variable {g : GG} {p : Program} {l : Launch} {e : Env} {R : Room} {s : State} {m : MethodId} {args : Array Value} {below : List Frame} {meth : Method} {c : Code} {n0 z0 : Nat}
def f_X11_moves_0  (o0 : Nat) (x1 : Int32) (x2 : Int32) (h : AH) : Option (Int32 × AH) :=
  (isC [11] h o0).bind fun _ =>
  cN (f_X11_hasPerson o0 x1 h) h fun v1 h2 =>
  if v1 = 0 then
    some ((-1), h2)
  else
    if ((-1)) ≤ x2 then
      (gR [11] h2 o0 10).bind fun v8 =>
      (isC [7] h2 v8).bind fun _ =>
      cN (f_X7_fit v8 x1 h2) h2 fun _ h11 =>
      if x2 = ((-1)) then
        (gR [11] h11 o0 10).bind fun v27 =>
        (gI [7] h11 v27 8).bind fun v29 =>
        some (v29, h11)
      else
        (gR [11] h11 o0 10).bind fun v16 =>
        (gI [7] h11 v16 8).bind fun v18 =>
        if v18 ≤ x2 then
          some ((-1), h11)
        else
          (gR [11] h11 o0 10).bind fun v21 =>
          (gR [7] h11 v21 7).bind fun v23 =>
          (aI 0 h11 v23 x2).bind fun v25 =>
          some (v25, h11)
    else
      some ((-1), h2)
set_option maxHeartbeats 1000000 in
theorem w_X11_moves_0 (X : Cx g p s m args meth c cX11_moves 3 "TrapCorner") (hR : 7 ≤ R.frames ∧ 448 ≤ R.locals) (hr : meth.sig.returnType = (some (.int))) {res : Int32 × AH} : ∀ (o0 : Nat) (x1 : Int32) (x2 : Int32) (h : AH) (ls : Array Slot) (H : Heap) (locs : List Loc), f_X11_moves_0 o0 x1 x2 h = some res → Iv g s n0 z0 h H locs 0 0 → lv_has ls 3 [(0, .ref (rfG g o0)), (1, .int x1), (2, .int x2)] → W p l e R s m args below meth c H locs 0 0 (MQ below (QG g (some (.int res.1)) res.2) args s 0 0 (AG g)) (F0 m 0 ls []) := by
  have hx := X.1
  have hb := X.2.1
  intro o0 x1 x2 h ls H locs hf I hl
  unfold f_X11_moves_0 at hf
  refine lv_aload_n hx hb dX11_moves_0 rfl (lv_at hl 0 rfl) ?_
  refine lv_iload_n hx hb dX11_moves_1 rfl (lv_at hl 1 rfl) ?_
  obtain ⟨_, g5, hf⟩ := Option.bind_eq_some_iff.mp hf
  obtain ⟨v1, h2, e3, z4, hf⟩ := cN_spec hf
  refine k_Vi (As := [.int x1]) (rest := []) X I (c_X11_hasPerson l g o0 x1 e3) z4 g5 vk_TrapCorner_194 tw_880 ⟨Nat.le_trans (by decide) hR.1, Nat.le_trans (by decide) hR.2⟩ ⟨Nat.zero_le _, Nat.zero_le _⟩ rfl hl.1 rfl (Nat.le_of_ble_eq_true rfl) dX11_moves_2 (fun H locs I => ?_)
  refine lv_if_eq (tgt := 13) hx hb dX11_moves_5 (by decide) (fun c6 => ?_) (fun c6 => ?_)
  · rw [if_pos c6] at hf
    refine lv_iconst (v := (-1)) hx hb dX11_moves_13 (by decide) ?_
    cases hf
    exact k_ri X I hr dX11_moves_14
  · rw [if_neg c6] at hf
    refine lv_iload_n hx hb dX11_moves_8 rfl (lv_at hl 2 rfl) ?_
    refine lv_iconst (v := (-1)) hx hb dX11_moves_9 (by decide) ?_
    refine lv_icmp_ge (tgt := 15) hx hb dX11_moves_10 (by decide) (fun c7 => ?_) (fun c7 => ?_)
    · rw [if_pos c7] at hf
      refine lv_aload_n hx hb dX11_moves_15 rfl (lv_at hl 0 rfl) ?_
      obtain ⟨v8, e9, hf⟩ := Option.bind_eq_some_iff.mp hf
      refine r_gR X I e9 lk_TrapCorner_82 dX11_moves_16 ?_
      refine lv_iload_n hx hb dX11_moves_19 rfl (lv_at hl 1 rfl) ?_
      obtain ⟨_, g14, hf⟩ := Option.bind_eq_some_iff.mp hf
      obtain ⟨⟨⟩, h11, e12, z13, hf⟩ := cN_spec hf
      refine k_Vv (As := [.int x1]) (rest := []) X I (c_X7_fit l g v8 x1 e12) z13 g14 vk_TrapCorner_377 tw_1073 ⟨Nat.le_trans (by decide) hR.1, Nat.le_trans (by decide) hR.2⟩ ⟨Nat.zero_le _, Nat.zero_le _⟩ rfl hl.1 rfl (Nat.le_of_ble_eq_true rfl) dX11_moves_20 (fun H locs I => ?_)
      refine lv_iload_n hx hb dX11_moves_23 rfl (lv_at hl 2 rfl) ?_
      refine lv_iconst (v := (-1)) hx hb dX11_moves_24 (by decide) ?_
      refine lv_icmp_ne (tgt := 36) hx hb dX11_moves_25 (by decide) (fun c15 => ?_) (fun c15 => ?_)
      · rw [if_neg c15] at hf
        refine lv_iload_n hx hb dX11_moves_36 rfl (lv_at hl 2 rfl) ?_
        refine lv_aload_n hx hb dX11_moves_37 rfl (lv_at hl 0 rfl) ?_
        obtain ⟨v16, e17, hf⟩ := Option.bind_eq_some_iff.mp hf
        refine r_gR X I e17 lk_TrapCorner_82 dX11_moves_38 ?_
        obtain ⟨v18, e19, hf⟩ := Option.bind_eq_some_iff.mp hf
        refine r_gI X I e19 lk_TrapCorner_380 dX11_moves_41 ?_
        refine lv_icmp_ge (tgt := 59) hx hb dX11_moves_44 (by decide) (fun c20 => ?_) (fun c20 => ?_)
        · rw [if_pos c20] at hf
          refine lv_iconst (v := (-1)) hx hb dX11_moves_59 (by decide) ?_
          cases hf
          exact k_ri X I hr dX11_moves_60
        · rw [if_neg c20] at hf
          refine lv_aload_n hx hb dX11_moves_47 rfl (lv_at hl 0 rfl) ?_
          obtain ⟨v21, e22, hf⟩ := Option.bind_eq_some_iff.mp hf
          refine r_gR X I e22 lk_TrapCorner_82 dX11_moves_48 ?_
          obtain ⟨v23, e24, hf⟩ := Option.bind_eq_some_iff.mp hf
          refine r_gR X I e24 lk_TrapCorner_383 dX11_moves_51 ?_
          refine lv_iload_n hx hb dX11_moves_54 rfl (lv_at hl 2 rfl) ?_
          obtain ⟨v25, e26, hf⟩ := Option.bind_eq_some_iff.mp hf
          refine r_aI0 X I e26 dX11_moves_55 ?_
          refine lv_goto (tgt := 60) hx hb dX11_moves_56 (by decide) ?_
          cases hf
          exact k_ri X I hr dX11_moves_60
      · rw [if_pos c15] at hf
        refine lv_aload_n hx hb dX11_moves_28 rfl (lv_at hl 0 rfl) ?_
        obtain ⟨v27, e28, hf⟩ := Option.bind_eq_some_iff.mp hf
        refine r_gR X I e28 lk_TrapCorner_82 dX11_moves_29 ?_
        obtain ⟨v29, e30, hf⟩ := Option.bind_eq_some_iff.mp hf
        refine r_gI X I e30 lk_TrapCorner_380 dX11_moves_32 ?_
        cases hf
        exact k_ri X I hr dX11_moves_35
    · rw [if_neg c7] at hf
      refine lv_iconst (v := (-1)) hx hb dX11_moves_13 (by decide) ?_
      cases hf
      exact k_ri X I hr dX11_moves_14
def f_X11_moves (o0 : Nat) (x1 : Int32) (x2 : Int32) (h : AH) : Option (Int32 × AH) := f_X11_moves_0 o0 x1 x2 h
end
theorem c_X11_moves (l : Launch) (g : GG) (o0 : Nat) (x1 : Int32) (x2 : Int32) {h : AH} {res : Int32 × AH} (hf : f_X11_moves o0 x1 x2 h = some res) : CM l g yX11_moves cX11_moves 3 (some (.int)) 7 448 0 0 [.ref (rfG g o0), .int x1, .int x2] h (some (.int res.1)) res.2 :=
  k_body (by decide) (Nat.le_of_ble_eq_true rfl) (fun p e s m below meth c R ls hR hr X I hl => w_X11_moves_0 X ⟨Nat.le_of_eq hR.1.symm, Nat.le_of_eq hR.2.1.symm⟩ hr o0 x1 x2 h ls s.heap [] hf I (lv_sub hl [0, 1, 2] rfl))
/-! TrapCorner.ask(II)I -/
theorem dX11_ask_0 : decode cX11_ask 0 = .ok (.aload_n 0, 1) := by decide +kernel
theorem dX11_ask_1 : decode cX11_ask 1 = .ok (.iload_n 1, 1) := by decide +kernel
theorem dX11_ask_2 : decode cX11_ask 2 = .ok (.invokevirtual 194, 3) := by decide +kernel
theorem dX11_ask_5 : decode cX11_ask 5 = .ok (.ifCond .eq 10, 3) := by decide +kernel
theorem dX11_ask_8 : decode cX11_ask 8 = .ok (.iload_n 2, 1) := by decide +kernel
theorem dX11_ask_9 : decode cX11_ask 9 = .ok (.invokestatic 370, 3) := by decide +kernel
theorem dX11_ask_12 : decode cX11_ask 12 = .ok (.ifCond .ne 5, 3) := by decide +kernel
theorem dX11_ask_15 : decode cX11_ask 15 = .ok (.iconst (-1), 1) := by decide +kernel
theorem dX11_ask_16 : decode cX11_ask 16 = .ok (.ireturn, 1) := by decide +kernel
theorem dX11_ask_17 : decode cX11_ask 17 = .ok (.aload_n 0, 1) := by decide +kernel
theorem dX11_ask_18 : decode cX11_ask 18 = .ok (.getfield 82, 3) := by decide +kernel
theorem dX11_ask_21 : decode cX11_ask 21 = .ok (.iload_n 1, 1) := by decide +kernel
theorem dX11_ask_22 : decode cX11_ask 22 = .ok (.invokevirtual 377, 3) := by decide +kernel
theorem dX11_ask_25 : decode cX11_ask 25 = .ok (.aload_n 0, 1) := by decide +kernel
theorem dX11_ask_26 : decode cX11_ask 26 = .ok (.getfield 82, 3) := by decide +kernel
theorem dX11_ask_29 : decode cX11_ask 29 = .ok (.iload_n 1, 1) := by decide +kernel
theorem dX11_ask_30 : decode cX11_ask 30 = .ok (.iload_n 2, 1) := by decide +kernel
theorem dX11_ask_31 : decode cX11_ask 31 = .ok (.invokevirtual 386, 3) := by decide +kernel
theorem dX11_ask_34 : decode cX11_ask 34 = .ok (.ireturn, 1) := by decide +kernel
theorem vk_TrapCorner_386 : VK "TrapCorner" 386 [7] yX7_bestQuestion 2 := ⟨tw_1087, tw_1088, tw_12, ⟨by decide, by decide⟩, by decide +kernel, fun ci hci => by
  have hci := List.mem_singleton.mp hci
  subst hci
  exact ⟨_, rfl, tw_1089⟩⟩
section
variable {g : GG} {p : Program} {l : Launch} {e : Env} {R : Room} {s : State} {m : MethodId} {args : Array Value} {below : List Frame} {meth : Method} {c : Code} {n0 z0 : Nat}
def f_X11_ask_0  (o0 : Nat) (x1 : Int32) (x2 : Int32) (h : AH) : Option (Int32 × AH) :=
  (isC [11] h o0).bind fun _ =>
  cN (f_X11_hasPerson o0 x1 h) h fun v1 h2 =>
  if v1 = 0 then
    some ((-1), h2)
  else
    cN (f_X11_isLiveSpring x2 h2) h2 fun v7 h8 =>
    if v7 = 0 then
      some ((-1), h8)
    else
      (gR [11] h8 o0 10).bind fun v12 =>
      (isC [7] h8 v12).bind fun _ =>
      cN (f_X7_fit v12 x1 h8) h8 fun _ h15 =>
      (gR [11] h15 o0 10).bind fun v19 =>
      (isC [7] h15 v19).bind fun _ =>
      cN (f_X7_bestQuestion v19 x1 x2 h15) h15 fun v21 h22 =>
      some (v21, h22)
set_option maxHeartbeats 1000000 in
theorem w_X11_ask_0 (X : Cx g p s m args meth c cX11_ask 3 "TrapCorner") (hR : 7 ≤ R.frames ∧ 448 ≤ R.locals) (hr : meth.sig.returnType = (some (.int))) {res : Int32 × AH} : ∀ (o0 : Nat) (x1 : Int32) (x2 : Int32) (h : AH) (ls : Array Slot) (H : Heap) (locs : List Loc), f_X11_ask_0 o0 x1 x2 h = some res → Iv g s n0 z0 h H locs 0 0 → lv_has ls 3 [(0, .ref (rfG g o0)), (1, .int x1), (2, .int x2)] → W p l e R s m args below meth c H locs 0 0 (MQ below (QG g (some (.int res.1)) res.2) args s 0 0 (AG g)) (F0 m 0 ls []) := by
  have hx := X.1
  have hb := X.2.1
  intro o0 x1 x2 h ls H locs hf I hl
  unfold f_X11_ask_0 at hf
  refine lv_aload_n hx hb dX11_ask_0 rfl (lv_at hl 0 rfl) ?_
  refine lv_iload_n hx hb dX11_ask_1 rfl (lv_at hl 1 rfl) ?_
  obtain ⟨_, g5, hf⟩ := Option.bind_eq_some_iff.mp hf
  obtain ⟨v1, h2, e3, z4, hf⟩ := cN_spec hf
  refine k_Vi (As := [.int x1]) (rest := []) X I (c_X11_hasPerson l g o0 x1 e3) z4 g5 vk_TrapCorner_194 tw_880 ⟨Nat.le_trans (by decide) hR.1, Nat.le_trans (by decide) hR.2⟩ ⟨Nat.zero_le _, Nat.zero_le _⟩ rfl hl.1 rfl (Nat.le_of_ble_eq_true rfl) dX11_ask_2 (fun H locs I => ?_)
  refine lv_if_eq (tgt := 15) hx hb dX11_ask_5 (by decide) (fun c6 => ?_) (fun c6 => ?_)
  · rw [if_pos c6] at hf
    refine lv_iconst (v := (-1)) hx hb dX11_ask_15 (by decide) ?_
    cases hf
    exact k_ri X I hr dX11_ask_16
  · rw [if_neg c6] at hf
    refine lv_iload_n hx hb dX11_ask_8 rfl (lv_at hl 2 rfl) ?_
    obtain ⟨v7, h8, e9, z10, hf⟩ := cN_spec hf
    refine k_Si (As := [.int x2]) (rest := []) X I (c_X11_isLiveSpring l g x2 e9) z10 sk_TrapCorner_370 tw_1061 ⟨Nat.le_trans (by decide) hR.1, Nat.le_trans (by decide) hR.2⟩ ⟨Nat.zero_le _, Nat.zero_le _⟩ rfl hl.1 rfl (Nat.le_of_ble_eq_true rfl) dX11_ask_9 (fun H locs I => ?_)
    refine lv_if_ne (tgt := 17) hx hb dX11_ask_12 (by decide) (fun c11 => ?_) (fun c11 => ?_)
    · rw [if_neg c11] at hf
      refine lv_aload_n hx hb dX11_ask_17 rfl (lv_at hl 0 rfl) ?_
      obtain ⟨v12, e13, hf⟩ := Option.bind_eq_some_iff.mp hf
      refine r_gR X I e13 lk_TrapCorner_82 dX11_ask_18 ?_
      refine lv_iload_n hx hb dX11_ask_21 rfl (lv_at hl 1 rfl) ?_
      obtain ⟨_, g18, hf⟩ := Option.bind_eq_some_iff.mp hf
      obtain ⟨⟨⟩, h15, e16, z17, hf⟩ := cN_spec hf
      refine k_Vv (As := [.int x1]) (rest := []) X I (c_X7_fit l g v12 x1 e16) z17 g18 vk_TrapCorner_377 tw_1073 ⟨Nat.le_trans (by decide) hR.1, Nat.le_trans (by decide) hR.2⟩ ⟨Nat.zero_le _, Nat.zero_le _⟩ rfl hl.1 rfl (Nat.le_of_ble_eq_true rfl) dX11_ask_22 (fun H locs I => ?_)
      refine lv_aload_n hx hb dX11_ask_25 rfl (lv_at hl 0 rfl) ?_
      obtain ⟨v19, e20, hf⟩ := Option.bind_eq_some_iff.mp hf
      refine r_gR X I e20 lk_TrapCorner_82 dX11_ask_26 ?_
      refine lv_iload_n hx hb dX11_ask_29 rfl (lv_at hl 1 rfl) ?_
      refine lv_iload_n hx hb dX11_ask_30 rfl (lv_at hl 2 rfl) ?_
      obtain ⟨_, g25, hf⟩ := Option.bind_eq_some_iff.mp hf
      obtain ⟨v21, h22, e23, z24, hf⟩ := cN_spec hf
      refine k_Vi (As := [.int x1, .int x2]) (rest := []) X I (c_X7_bestQuestion l g v19 x1 x2 e23) z24 g25 vk_TrapCorner_386 tw_1090 ⟨Nat.le_trans (by decide) hR.1, Nat.le_trans (by decide) hR.2⟩ ⟨Nat.zero_le _, Nat.zero_le _⟩ rfl hl.1 rfl (Nat.le_of_ble_eq_true rfl) dX11_ask_31 (fun H locs I => ?_)
      cases hf
      exact k_ri X I hr dX11_ask_34
    · rw [if_pos c11] at hf
      refine lv_iconst (v := (-1)) hx hb dX11_ask_15 (by decide) ?_
      cases hf
      exact k_ri X I hr dX11_ask_16
def f_X11_ask (o0 : Nat) (x1 : Int32) (x2 : Int32) (h : AH) : Option (Int32 × AH) := f_X11_ask_0 o0 x1 x2 h
end
theorem c_X11_ask (l : Launch) (g : GG) (o0 : Nat) (x1 : Int32) (x2 : Int32) {h : AH} {res : Int32 × AH} (hf : f_X11_ask o0 x1 x2 h = some res) : CM l g yX11_ask cX11_ask 3 (some (.int)) 7 448 0 0 [.ref (rfG g o0), .int x1, .int x2] h (some (.int res.1)) res.2 :=
  k_body (by decide) (Nat.le_of_ble_eq_true rfl) (fun p e s m below meth c R ls hR hr X I hl => w_X11_ask_0 X ⟨Nat.le_of_eq hR.1.symm, Nat.le_of_eq hR.2.1.symm⟩ hr o0 x1 x2 h ls s.heap [] hf I (lv_sub hl [0, 1, 2] rfl))
/-! TrapCorner.safe(I)I -/
theorem dX11_safe_0 : decode cX11_safe 0 = .ok (.aload_n 0, 1) := by decide +kernel
theorem dX11_safe_1 : decode cX11_safe 1 = .ok (.iload_n 1, 1) := by decide +kernel
theorem dX11_safe_2 : decode cX11_safe 2 = .ok (.invokevirtual 194, 3) := by decide +kernel
theorem dX11_safe_5 : decode cX11_safe 5 = .ok (.ifCond .ne 5, 3) := by decide +kernel
theorem dX11_safe_8 : decode cX11_safe 8 = .ok (.iconst (-1), 1) := by decide +kernel
theorem dX11_safe_9 : decode cX11_safe 9 = .ok (.ireturn, 1) := by decide +kernel
theorem dX11_safe_10 : decode cX11_safe 10 = .ok (.aload_n 0, 1) := by decide +kernel
theorem dX11_safe_11 : decode cX11_safe 11 = .ok (.iload_n 1, 1) := by decide +kernel
theorem dX11_safe_12 : decode cX11_safe 12 = .ok (.iconst 0, 1) := by decide +kernel
theorem dX11_safe_13 : decode cX11_safe 13 = .ok (.invokevirtual 389, 3) := by decide +kernel
theorem dX11_safe_16 : decode cX11_safe 16 = .ok (.istore_n 2, 1) := by decide +kernel
theorem dX11_safe_17 : decode cX11_safe 17 = .ok (.aload_n 0, 1) := by decide +kernel
theorem dX11_safe_18 : decode cX11_safe 18 = .ok (.iload_n 1, 1) := by decide +kernel
theorem dX11_safe_19 : decode cX11_safe 19 = .ok (.iconst 1, 1) := by decide +kernel
theorem dX11_safe_20 : decode cX11_safe 20 = .ok (.invokevirtual 389, 3) := by decide +kernel
theorem dX11_safe_23 : decode cX11_safe 23 = .ok (.istore_n 3, 1) := by decide +kernel
theorem dX11_safe_24 : decode cX11_safe 24 = .ok (.iload_n 2, 1) := by decide +kernel
theorem dX11_safe_25 : decode cX11_safe 25 = .ok (.iload_n 3, 1) := by decide +kernel
theorem dX11_safe_26 : decode cX11_safe 26 = .ok (.if_icmp .eq 13, 3) := by decide +kernel
theorem dX11_safe_29 : decode cX11_safe 29 = .ok (.iload_n 2, 1) := by decide +kernel
theorem dX11_safe_30 : decode cX11_safe 30 = .ok (.ifCond .eq 7, 3) := by decide +kernel
theorem dX11_safe_33 : decode cX11_safe 33 = .ok (.iconst 0, 1) := by decide +kernel
theorem dX11_safe_34 : decode cX11_safe 34 = .ok (.goto 4, 3) := by decide +kernel
theorem dX11_safe_37 : decode cX11_safe 37 = .ok (.iconst 1, 1) := by decide +kernel
theorem dX11_safe_38 : decode cX11_safe 38 = .ok (.ireturn, 1) := by decide +kernel
theorem dX11_safe_39 : decode cX11_safe 39 = .ok (.aload_n 0, 1) := by decide +kernel
theorem dX11_safe_40 : decode cX11_safe 40 = .ok (.getfield 42, 3) := by decide +kernel
theorem dX11_safe_43 : decode cX11_safe 43 = .ok (.iload_n 1, 1) := by decide +kernel
theorem dX11_safe_44 : decode cX11_safe 44 = .ok (.iconst 1, 1) := by decide +kernel
theorem dX11_safe_45 : decode cX11_safe 45 = .ok (.invokevirtual 393, 3) := by decide +kernel
theorem dX11_safe_48 : decode cX11_safe 48 = .ok (.aload_n 0, 1) := by decide +kernel
theorem dX11_safe_49 : decode cX11_safe 49 = .ok (.getfield 42, 3) := by decide +kernel
theorem dX11_safe_52 : decode cX11_safe 52 = .ok (.iload_n 1, 1) := by decide +kernel
theorem dX11_safe_53 : decode cX11_safe 53 = .ok (.iconst 0, 1) := by decide +kernel
theorem dX11_safe_54 : decode cX11_safe 54 = .ok (.invokevirtual 393, 3) := by decide +kernel
theorem dX11_safe_57 : decode cX11_safe 57 = .ok (.if_icmp .ge 7, 3) := by decide +kernel
theorem dX11_safe_60 : decode cX11_safe 60 = .ok (.iconst 1, 1) := by decide +kernel
theorem dX11_safe_61 : decode cX11_safe 61 = .ok (.goto 4, 3) := by decide +kernel
theorem dX11_safe_64 : decode cX11_safe 64 = .ok (.iconst 0, 1) := by decide +kernel
theorem dX11_safe_65 : decode cX11_safe 65 = .ok (.ireturn, 1) := by decide +kernel
theorem vk_TrapCorner_389 : VK "TrapCorner" 389 [11] yX11_staysFree 2 := ⟨tw_1099, tw_1101, tw_1, ⟨by decide, by decide⟩, by decide +kernel, fun ci hci => by
  have hci := List.mem_singleton.mp hci
  subst hci
  exact ⟨_, rfl, tp_39⟩⟩
section
variable {g : GG} {p : Program} {l : Launch} {e : Env} {R : Room} {s : State} {m : MethodId} {args : Array Value} {below : List Frame} {meth : Method} {c : Code} {n0 z0 : Nat}
def f_X11_safe_0  (o0 : Nat) (x1 : Int32) (h : AH) : Option (Int32 × AH) :=
  (isC [11] h o0).bind fun _ =>
  cN (f_X11_hasPerson o0 x1 h) h fun v1 h2 =>
  if v1 = 0 then
    some ((-1), h2)
  else
    (isC [11] h2 o0).bind fun _ =>
    cN (f_X11_staysFree o0 x1 0 h2) h2 fun v7 h8 =>
    (isC [11] h8 o0).bind fun _ =>
    cN (f_X11_staysFree o0 x1 1 h8) h8 fun v12 h13 =>
    if v7 = v12 then
      (gR [11] h13 o0 4).bind fun v18 =>
      (isC [10] h13 v18).bind fun _ =>
      cN (f_X10_walkLength v18 x1 1 h13) h13 fun v20 h21 =>
      (gR [11] h21 o0 4).bind fun v25 =>
      (isC [10] h21 v25).bind fun _ =>
      cN (f_X10_walkLength v25 x1 0 h21) h21 fun v27 h28 =>
      if v27 ≤ v20 then
        some (0, h28)
      else
        some (1, h28)
    else
      if v7 = 0 then
        some (1, h13)
      else
        some (0, h13)
set_option maxHeartbeats 1000000 in
theorem w_X11_safe_0 (X : Cx g p s m args meth c cX11_safe 4 "TrapCorner") (hR : 7 ≤ R.frames ∧ 448 ≤ R.locals) (hr : meth.sig.returnType = (some (.int))) {res : Int32 × AH} : ∀ (o0 : Nat) (x1 : Int32) (h : AH) (ls : Array Slot) (H : Heap) (locs : List Loc), f_X11_safe_0 o0 x1 h = some res → Iv g s n0 z0 h H locs 0 0 → lv_has ls 4 [(0, .ref (rfG g o0)), (1, .int x1)] → W p l e R s m args below meth c H locs 0 0 (MQ below (QG g (some (.int res.1)) res.2) args s 0 0 (AG g)) (F0 m 0 ls []) := by
  have hx := X.1
  have hb := X.2.1
  intro o0 x1 h ls H locs hf I hl
  unfold f_X11_safe_0 at hf
  refine lv_aload_n hx hb dX11_safe_0 rfl (lv_at hl 0 rfl) ?_
  refine lv_iload_n hx hb dX11_safe_1 rfl (lv_at hl 1 rfl) ?_
  obtain ⟨_, g5, hf⟩ := Option.bind_eq_some_iff.mp hf
  obtain ⟨v1, h2, e3, z4, hf⟩ := cN_spec hf
  refine k_Vi (As := [.int x1]) (rest := []) X I (c_X11_hasPerson l g o0 x1 e3) z4 g5 vk_TrapCorner_194 tw_880 ⟨Nat.le_trans (by decide) hR.1, Nat.le_trans (by decide) hR.2⟩ ⟨Nat.zero_le _, Nat.zero_le _⟩ rfl hl.1 rfl (Nat.le_of_ble_eq_true rfl) dX11_safe_2 (fun H locs I => ?_)
  refine lv_if_ne (tgt := 10) hx hb dX11_safe_5 (by decide) (fun c6 => ?_) (fun c6 => ?_)
  · rw [if_neg c6] at hf
    refine lv_aload_n hx hb dX11_safe_10 rfl (lv_at hl 0 rfl) ?_
    refine lv_iload_n hx hb dX11_safe_11 rfl (lv_at hl 1 rfl) ?_
    refine lv_iconst (v := 0) hx hb dX11_safe_12 (by decide) ?_
    obtain ⟨_, g11, hf⟩ := Option.bind_eq_some_iff.mp hf
    obtain ⟨v7, h8, e9, z10, hf⟩ := cN_spec hf
    refine k_Vi (As := [.int x1, .int 0]) (rest := []) X I (c_X11_staysFree l g o0 x1 0 e9) z10 g11 vk_TrapCorner_389 tw_1102 ⟨Nat.le_trans (by decide) hR.1, Nat.le_trans (by decide) hR.2⟩ ⟨Nat.zero_le _, Nat.zero_le _⟩ rfl hl.1 rfl (Nat.le_of_ble_eq_true rfl) dX11_safe_13 (fun H locs I => ?_)
    refine lv_istore_n (lv' := [(2, .int v7), (0, .ref (rfG g o0)), (1, .int x1)]) hx hb dX11_safe_16 rfl hl (by decide) rfl (fun ls hl => ?_)
    refine lv_aload_n hx hb dX11_safe_17 rfl (lv_at hl 1 rfl) ?_
    refine lv_iload_n hx hb dX11_safe_18 rfl (lv_at hl 2 rfl) ?_
    refine lv_iconst (v := 1) hx hb dX11_safe_19 (by decide) ?_
    obtain ⟨_, g16, hf⟩ := Option.bind_eq_some_iff.mp hf
    obtain ⟨v12, h13, e14, z15, hf⟩ := cN_spec hf
    refine k_Vi (As := [.int x1, .int 1]) (rest := []) X I (c_X11_staysFree l g o0 x1 1 e14) z15 g16 vk_TrapCorner_389 tw_1102 ⟨Nat.le_trans (by decide) hR.1, Nat.le_trans (by decide) hR.2⟩ ⟨Nat.zero_le _, Nat.zero_le _⟩ rfl hl.1 rfl (Nat.le_of_ble_eq_true rfl) dX11_safe_20 (fun H locs I => ?_)
    refine lv_istore_n (lv' := [(3, .int v12), (2, .int v7), (0, .ref (rfG g o0)), (1, .int x1)]) hx hb dX11_safe_23 rfl hl (by decide) rfl (fun ls hl => ?_)
    refine lv_iload_n hx hb dX11_safe_24 rfl (lv_at hl 1 rfl) ?_
    refine lv_iload_n hx hb dX11_safe_25 rfl (lv_at hl 0 rfl) ?_
    refine lv_icmp_eq (tgt := 39) hx hb dX11_safe_26 (by decide) (fun c17 => ?_) (fun c17 => ?_)
    · rw [if_pos c17] at hf
      refine lv_aload_n hx hb dX11_safe_39 rfl (lv_at hl 2 rfl) ?_
      obtain ⟨v18, e19, hf⟩ := Option.bind_eq_some_iff.mp hf
      refine r_gR X I e19 lk_TrapCorner_42 dX11_safe_40 ?_
      refine lv_iload_n hx hb dX11_safe_43 rfl (lv_at hl 3 rfl) ?_
      refine lv_iconst (v := 1) hx hb dX11_safe_44 (by decide) ?_
      obtain ⟨_, g24, hf⟩ := Option.bind_eq_some_iff.mp hf
      obtain ⟨v20, h21, e22, z23, hf⟩ := cN_spec hf
      refine k_Vi (As := [.int x1, .int 1]) (rest := []) X I (c_X10_walkLength l g v18 x1 1 e22) z23 g24 vk_TrapCorner_393 tw_906 ⟨Nat.le_trans (by decide) hR.1, Nat.le_trans (by decide) hR.2⟩ ⟨Nat.zero_le _, Nat.zero_le _⟩ rfl hl.1 rfl (Nat.le_of_ble_eq_true rfl) dX11_safe_45 (fun H locs I => ?_)
      refine lv_aload_n hx hb dX11_safe_48 rfl (lv_at hl 2 rfl) ?_
      obtain ⟨v25, e26, hf⟩ := Option.bind_eq_some_iff.mp hf
      refine r_gR X I e26 lk_TrapCorner_42 dX11_safe_49 ?_
      refine lv_iload_n hx hb dX11_safe_52 rfl (lv_at hl 3 rfl) ?_
      refine lv_iconst (v := 0) hx hb dX11_safe_53 (by decide) ?_
      obtain ⟨_, g31, hf⟩ := Option.bind_eq_some_iff.mp hf
      obtain ⟨v27, h28, e29, z30, hf⟩ := cN_spec hf
      refine k_Vi (As := [.int x1, .int 0]) (rest := [.int v20]) X I (c_X10_walkLength l g v25 x1 0 e29) z30 g31 vk_TrapCorner_393 tw_906 ⟨Nat.le_trans (by decide) hR.1, Nat.le_trans (by decide) hR.2⟩ ⟨Nat.zero_le _, Nat.zero_le _⟩ rfl hl.1 rfl (Nat.le_of_ble_eq_true rfl) dX11_safe_54 (fun H locs I => ?_)
      refine lv_icmp_ge (tgt := 64) hx hb dX11_safe_57 (by decide) (fun c32 => ?_) (fun c32 => ?_)
      · rw [if_pos c32] at hf
        refine lv_iconst (v := 0) hx hb dX11_safe_64 (by decide) ?_
        cases hf
        exact k_ri X I hr dX11_safe_65
      · rw [if_neg c32] at hf
        refine lv_iconst (v := 1) hx hb dX11_safe_60 (by decide) ?_
        refine lv_goto (tgt := 65) hx hb dX11_safe_61 (by decide) ?_
        cases hf
        exact k_ri X I hr dX11_safe_65
    · rw [if_neg c17] at hf
      refine lv_iload_n hx hb dX11_safe_29 rfl (lv_at hl 1 rfl) ?_
      refine lv_if_eq (tgt := 37) hx hb dX11_safe_30 (by decide) (fun c33 => ?_) (fun c33 => ?_)
      · rw [if_pos c33] at hf
        refine lv_iconst (v := 1) hx hb dX11_safe_37 (by decide) ?_
        cases hf
        exact k_ri X I hr dX11_safe_38
      · rw [if_neg c33] at hf
        refine lv_iconst (v := 0) hx hb dX11_safe_33 (by decide) ?_
        refine lv_goto (tgt := 38) hx hb dX11_safe_34 (by decide) ?_
        cases hf
        exact k_ri X I hr dX11_safe_38
  · rw [if_pos c6] at hf
    refine lv_iconst (v := (-1)) hx hb dX11_safe_8 (by decide) ?_
    cases hf
    exact k_ri X I hr dX11_safe_9
def f_X11_safe (o0 : Nat) (x1 : Int32) (h : AH) : Option (Int32 × AH) := f_X11_safe_0 o0 x1 h
end
theorem c_X11_safe (l : Launch) (g : GG) (o0 : Nat) (x1 : Int32) {h : AH} {res : Int32 × AH} (hf : f_X11_safe o0 x1 h = some res) : CM l g yX11_safe cX11_safe 4 (some (.int)) 7 448 0 0 [.ref (rfG g o0), .int x1] h (some (.int res.1)) res.2 :=
  k_body (by decide) (Nat.le_of_ble_eq_true rfl) (fun p e s m below meth c R ls hR hr X I hl => w_X11_safe_0 X ⟨Nat.le_of_eq hR.1.symm, Nat.le_of_eq hR.2.1.symm⟩ hr o0 x1 h ls s.heap [] hf I (lv_sub hl [0, 1] rfl))
/-! TrapCorner.game(IIIII)I -/
theorem dX11_game_0 : decode cX11_game 0 = .ok (.aload_n 0, 1) := by decide +kernel
theorem dX11_game_1 : decode cX11_game 1 = .ok (.iload_n 1, 1) := by decide +kernel
theorem dX11_game_2 : decode cX11_game 2 = .ok (.invokevirtual 194, 3) := by decide +kernel
theorem dX11_game_5 : decode cX11_game 5 = .ok (.ifCond .eq 18, 3) := by decide +kernel
theorem dX11_game_8 : decode cX11_game 8 = .ok (.aload_n 0, 1) := by decide +kernel
theorem dX11_game_9 : decode cX11_game 9 = .ok (.iload_n 2, 1) := by decide +kernel
theorem dX11_game_10 : decode cX11_game 10 = .ok (.invokevirtual 184, 3) := by decide +kernel
theorem dX11_game_13 : decode cX11_game 13 = .ok (.ifCond .eq 10, 3) := by decide +kernel
theorem dX11_game_16 : decode cX11_game 16 = .ok (.iload_n 3, 1) := by decide +kernel
theorem dX11_game_17 : decode cX11_game 17 = .ok (.invokestatic 337, 3) := by decide +kernel
theorem dX11_game_20 : decode cX11_game 20 = .ok (.ifCond .ne 6, 3) := by decide +kernel
theorem dX11_game_23 : decode cX11_game 23 = .ok (.ldc 243, 2) := by decide +kernel
theorem dX11_game_25 : decode cX11_game 25 = .ok (.ireturn, 1) := by decide +kernel
theorem dX11_game_26 : decode cX11_game 26 = .ok (.iload 4, 2) := by decide +kernel
theorem dX11_game_28 : decode cX11_game 28 = .ok (.ifCond .lt 20, 3) := by decide +kernel
theorem dX11_game_31 : decode cX11_game 31 = .ok (.iload 4, 2) := by decide +kernel
theorem dX11_game_33 : decode cX11_game 33 = .ok (.iconst 1, 1) := by decide +kernel
theorem dX11_game_34 : decode cX11_game 34 = .ok (.if_icmp .gt 14, 3) := by decide +kernel
theorem dX11_game_37 : decode cX11_game 37 = .ok (.iload 5, 2) := by decide +kernel
theorem dX11_game_39 : decode cX11_game 39 = .ok (.ifCond .lt 9, 3) := by decide +kernel
theorem dX11_game_42 : decode cX11_game 42 = .ok (.iload 5, 2) := by decide +kernel
theorem dX11_game_44 : decode cX11_game 44 = .ok (.iconst 1, 1) := by decide +kernel
theorem dX11_game_45 : decode cX11_game 45 = .ok (.if_icmp .le 6, 3) := by decide +kernel
theorem dX11_game_48 : decode cX11_game 48 = .ok (.ldc 243, 2) := by decide +kernel
theorem dX11_game_50 : decode cX11_game 50 = .ok (.ireturn, 1) := by decide +kernel
theorem dX11_game_51 : decode cX11_game 51 = .ok (.aload_n 0, 1) := by decide +kernel
theorem dX11_game_52 : decode cX11_game 52 = .ok (.iload_n 1, 1) := by decide +kernel
theorem dX11_game_53 : decode cX11_game 53 = .ok (.iload_n 2, 1) := by decide +kernel
theorem dX11_game_54 : decode cX11_game 54 = .ok (.iload_n 3, 1) := by decide +kernel
theorem dX11_game_55 : decode cX11_game 55 = .ok (.iload 4, 2) := by decide +kernel
theorem dX11_game_57 : decode cX11_game 57 = .ok (.invokevirtual 402, 3) := by decide +kernel
theorem dX11_game_60 : decode cX11_game 60 = .ok (.iload 5, 2) := by decide +kernel
theorem dX11_game_62 : decode cX11_game 62 = .ok (.ifCond .ne 13, 3) := by decide +kernel
theorem dX11_game_65 : decode cX11_game 65 = .ok (.aload_n 0, 1) := by decide +kernel
theorem dX11_game_66 : decode cX11_game 66 = .ok (.iload_n 3, 1) := by decide +kernel
theorem dX11_game_67 : decode cX11_game 67 = .ok (.iload 4, 2) := by decide +kernel
theorem dX11_game_69 : decode cX11_game 69 = .ok (.invokevirtual 405, 3) := by decide +kernel
theorem dX11_game_72 : decode cX11_game 72 = .ok (.goto 10, 3) := by decide +kernel
theorem dX11_game_75 : decode cX11_game 75 = .ok (.aload_n 0, 1) := by decide +kernel
theorem dX11_game_76 : decode cX11_game 76 = .ok (.iload_n 3, 1) := by decide +kernel
theorem dX11_game_77 : decode cX11_game 77 = .ok (.iload 4, 2) := by decide +kernel
theorem dX11_game_79 : decode cX11_game 79 = .ok (.invokevirtual 408, 3) := by decide +kernel
theorem dX11_game_82 : decode cX11_game 82 = .ok (.ireturn, 1) := by decide +kernel
theorem vk_TrapCorner_402 : VK "TrapCorner" 402 [11] yX11_playGame 4 := ⟨tw_1126, tw_1128, tw_1, ⟨by decide, by decide⟩, by decide +kernel, fun ci hci => by
  have hci := List.mem_singleton.mp hci
  subst hci
  exact ⟨_, rfl, tp_41⟩⟩
section
variable {g : GG} {p : Program} {l : Launch} {e : Env} {R : Room} {s : State} {m : MethodId} {args : Array Value} {below : List Frame} {meth : Method} {c : Code} {n0 z0 : Nat}
def f_X11_game_23  (h : AH) : Option (Int32 × AH) :=
  some ((-1000000), h)
set_option maxHeartbeats 1000000 in
theorem w_X11_game_23 (X : Cx g p s m args meth c cX11_game 6 "TrapCorner") (hR : 7 ≤ R.frames ∧ 448 ≤ R.locals) (hr : meth.sig.returnType = (some (.int))) {res : Int32 × AH} : ∀ (h : AH) (ls : Array Slot) (H : Heap) (locs : List Loc), f_X11_game_23  h = some res → Iv g s n0 z0 h H locs 0 0 → lv_has ls 6 [] → W p l e R s m args below meth c H locs 0 0 (MQ below (QG g (some (.int res.1)) res.2) args s 0 0 (AG g)) (F0 m 23 ls []) := by
  have hx := X.1
  have hb := X.2.1
  intro  h ls H locs hf I hl
  unfold f_X11_game_23 at hf
  refine lv_ldc (v := (-1000000)) hx hb X.2.2.2.1 (X.2.2.2.2.1 _ tw_837) dX11_game_23 ?_
  cases hf
  exact k_ri X I hr dX11_game_25
def f_X11_game_48  (h : AH) : Option (Int32 × AH) :=
  some ((-1000000), h)
set_option maxHeartbeats 1000000 in
theorem w_X11_game_48 (X : Cx g p s m args meth c cX11_game 6 "TrapCorner") (hR : 7 ≤ R.frames ∧ 448 ≤ R.locals) (hr : meth.sig.returnType = (some (.int))) {res : Int32 × AH} : ∀ (h : AH) (ls : Array Slot) (H : Heap) (locs : List Loc), f_X11_game_48  h = some res → Iv g s n0 z0 h H locs 0 0 → lv_has ls 6 [] → W p l e R s m args below meth c H locs 0 0 (MQ below (QG g (some (.int res.1)) res.2) args s 0 0 (AG g)) (F0 m 48 ls []) := by
  have hx := X.1
  have hb := X.2.1
  intro  h ls H locs hf I hl
  unfold f_X11_game_48 at hf
  refine lv_ldc (v := (-1000000)) hx hb X.2.2.2.1 (X.2.2.2.2.1 _ tw_837) dX11_game_48 ?_
  cases hf
  exact k_ri X I hr dX11_game_50
def f_X11_game_0  (o0 : Nat) (x1 : Int32) (x2 : Int32) (x3 : Int32) (x4 : Int32) (x5 : Int32) (h : AH) : Option (Int32 × AH) :=
  (isC [11] h o0).bind fun _ =>
  cN (f_X11_hasPerson o0 x1 h) h fun v1 h2 =>
  if v1 = 0 then
    f_X11_game_23 h2
  else
    (isC [11] h2 o0).bind fun _ =>
    cN (f_X11_hasCorner o0 x2 h2) h2 fun v7 h8 =>
    if v7 = 0 then
      f_X11_game_23 h8
    else
      cN (f_X11_isCrumb x3 h8) h8 fun v13 h14 =>
      if v13 = 0 then
        f_X11_game_23 h14
      else
        if x4 < 0 then
          f_X11_game_48 h14
        else
          if 1 < x4 then
            f_X11_game_48 h14
          else
            if x5 < 0 then
              f_X11_game_48 h14
            else
              if x5 ≤ 1 then
                (isC [11] h14 o0).bind fun _ =>
                cN (f_X11_playGame o0 x1 x2 x3 x4 h14) h14 fun _ h23 =>
                if x5 = 0 then
                  (isC [11] h23 o0).bind fun _ =>
                  cN (f_X11_baiterStake o0 x3 x4 h23) h23 fun v33 h34 =>
                  some (v33, h34)
                else
                  (isC [11] h23 o0).bind fun _ =>
                  cN (f_X11_goerStake o0 x3 x4 h23) h23 fun v28 h29 =>
                  some (v28, h29)
              else
                f_X11_game_48 h14
set_option maxHeartbeats 1000000 in
theorem w_X11_game_0 (X : Cx g p s m args meth c cX11_game 6 "TrapCorner") (hR : 7 ≤ R.frames ∧ 448 ≤ R.locals) (hr : meth.sig.returnType = (some (.int))) {res : Int32 × AH} : ∀ (o0 : Nat) (x1 : Int32) (x2 : Int32) (x3 : Int32) (x4 : Int32) (x5 : Int32) (h : AH) (ls : Array Slot) (H : Heap) (locs : List Loc), f_X11_game_0 o0 x1 x2 x3 x4 x5 h = some res → Iv g s n0 z0 h H locs 0 0 → lv_has ls 6 [(0, .ref (rfG g o0)), (1, .int x1), (2, .int x2), (3, .int x3), (4, .int x4), (5, .int x5)] → W p l e R s m args below meth c H locs 0 0 (MQ below (QG g (some (.int res.1)) res.2) args s 0 0 (AG g)) (F0 m 0 ls []) := by
  have hx := X.1
  have hb := X.2.1
  intro o0 x1 x2 x3 x4 x5 h ls H locs hf I hl
  unfold f_X11_game_0 at hf
  refine lv_aload_n hx hb dX11_game_0 rfl (lv_at hl 0 rfl) ?_
  refine lv_iload_n hx hb dX11_game_1 rfl (lv_at hl 1 rfl) ?_
  obtain ⟨_, g5, hf⟩ := Option.bind_eq_some_iff.mp hf
  obtain ⟨v1, h2, e3, z4, hf⟩ := cN_spec hf
  refine k_Vi (As := [.int x1]) (rest := []) X I (c_X11_hasPerson l g o0 x1 e3) z4 g5 vk_TrapCorner_194 tw_880 ⟨Nat.le_trans (by decide) hR.1, Nat.le_trans (by decide) hR.2⟩ ⟨Nat.zero_le _, Nat.zero_le _⟩ rfl hl.1 rfl (Nat.le_of_ble_eq_true rfl) dX11_game_2 (fun H locs I => ?_)
  refine lv_if_eq (tgt := 23) hx hb dX11_game_5 (by decide) (fun c6 => ?_) (fun c6 => ?_)
  · rw [if_pos c6] at hf
    exact w_X11_game_23 X hR hr  h2 ls H locs hf I (lv_sub hl [] rfl)
  · rw [if_neg c6] at hf
    refine lv_aload_n hx hb dX11_game_8 rfl (lv_at hl 0 rfl) ?_
    refine lv_iload_n hx hb dX11_game_9 rfl (lv_at hl 2 rfl) ?_
    obtain ⟨_, g11, hf⟩ := Option.bind_eq_some_iff.mp hf
    obtain ⟨v7, h8, e9, z10, hf⟩ := cN_spec hf
    refine k_Vi (As := [.int x2]) (rest := []) X I (c_X11_hasCorner l g o0 x2 e9) z10 g11 vk_TrapCorner_184 tw_801 ⟨Nat.le_trans (by decide) hR.1, Nat.le_trans (by decide) hR.2⟩ ⟨Nat.zero_le _, Nat.zero_le _⟩ rfl hl.1 rfl (Nat.le_of_ble_eq_true rfl) dX11_game_10 (fun H locs I => ?_)
    refine lv_if_eq (tgt := 23) hx hb dX11_game_13 (by decide) (fun c12 => ?_) (fun c12 => ?_)
    · rw [if_pos c12] at hf
      exact w_X11_game_23 X hR hr  h8 ls H locs hf I (lv_sub hl [] rfl)
    · rw [if_neg c12] at hf
      refine lv_iload_n hx hb dX11_game_16 rfl (lv_at hl 3 rfl) ?_
      obtain ⟨v13, h14, e15, z16, hf⟩ := cN_spec hf
      refine k_Si (As := [.int x3]) (rest := []) X I (c_X11_isCrumb l g x3 e15) z16 sk_TrapCorner_337 tw_873 ⟨Nat.le_trans (by decide) hR.1, Nat.le_trans (by decide) hR.2⟩ ⟨Nat.zero_le _, Nat.zero_le _⟩ rfl hl.1 rfl (Nat.le_of_ble_eq_true rfl) dX11_game_17 (fun H locs I => ?_)
      refine lv_if_ne (tgt := 26) hx hb dX11_game_20 (by decide) (fun c17 => ?_) (fun c17 => ?_)
      · rw [if_neg c17] at hf
        refine lv_iload hx hb dX11_game_26 (lv_at hl 4 rfl) ?_
        refine lv_if_lt (tgt := 48) hx hb dX11_game_28 (by decide) (fun c18 => ?_) (fun c18 => ?_)
        · rw [if_pos c18] at hf
          exact w_X11_game_48 X hR hr  h14 ls H locs hf I (lv_sub hl [] rfl)
        · rw [if_neg c18] at hf
          refine lv_iload hx hb dX11_game_31 (lv_at hl 4 rfl) ?_
          refine lv_iconst (v := 1) hx hb dX11_game_33 (by decide) ?_
          refine lv_icmp_gt (tgt := 48) hx hb dX11_game_34 (by decide) (fun c19 => ?_) (fun c19 => ?_)
          · rw [if_pos c19] at hf
            exact w_X11_game_48 X hR hr  h14 ls H locs hf I (lv_sub hl [] rfl)
          · rw [if_neg c19] at hf
            refine lv_iload hx hb dX11_game_37 (lv_at hl 5 rfl) ?_
            refine lv_if_lt (tgt := 48) hx hb dX11_game_39 (by decide) (fun c20 => ?_) (fun c20 => ?_)
            · rw [if_pos c20] at hf
              exact w_X11_game_48 X hR hr  h14 ls H locs hf I (lv_sub hl [] rfl)
            · rw [if_neg c20] at hf
              refine lv_iload hx hb dX11_game_42 (lv_at hl 5 rfl) ?_
              refine lv_iconst (v := 1) hx hb dX11_game_44 (by decide) ?_
              refine lv_icmp_le (tgt := 51) hx hb dX11_game_45 (by decide) (fun c21 => ?_) (fun c21 => ?_)
              · rw [if_pos c21] at hf
                refine lv_aload_n hx hb dX11_game_51 rfl (lv_at hl 0 rfl) ?_
                refine lv_iload_n hx hb dX11_game_52 rfl (lv_at hl 1 rfl) ?_
                refine lv_iload_n hx hb dX11_game_53 rfl (lv_at hl 2 rfl) ?_
                refine lv_iload_n hx hb dX11_game_54 rfl (lv_at hl 3 rfl) ?_
                refine lv_iload hx hb dX11_game_55 (lv_at hl 4 rfl) ?_
                obtain ⟨_, g26, hf⟩ := Option.bind_eq_some_iff.mp hf
                obtain ⟨⟨⟩, h23, e24, z25, hf⟩ := cN_spec hf
                refine k_Vv (As := [.int x1, .int x2, .int x3, .int x4]) (rest := []) X I (c_X11_playGame l g o0 x1 x2 x3 x4 e24) z25 g26 vk_TrapCorner_402 tw_1129 ⟨Nat.le_trans (by decide) hR.1, Nat.le_trans (by decide) hR.2⟩ ⟨Nat.zero_le _, Nat.zero_le _⟩ rfl hl.1 rfl (Nat.le_of_ble_eq_true rfl) dX11_game_57 (fun H locs I => ?_)
                refine lv_iload hx hb dX11_game_60 (lv_at hl 5 rfl) ?_
                refine lv_if_ne (tgt := 75) hx hb dX11_game_62 (by decide) (fun c27 => ?_) (fun c27 => ?_)
                · rw [if_neg c27] at hf
                  refine lv_aload_n hx hb dX11_game_75 rfl (lv_at hl 0 rfl) ?_
                  refine lv_iload_n hx hb dX11_game_76 rfl (lv_at hl 3 rfl) ?_
                  refine lv_iload hx hb dX11_game_77 (lv_at hl 4 rfl) ?_
                  obtain ⟨_, g32, hf⟩ := Option.bind_eq_some_iff.mp hf
                  obtain ⟨v28, h29, e30, z31, hf⟩ := cN_spec hf
                  refine k_Vi (As := [.int x3, .int x4]) (rest := []) X I (c_X11_goerStake l g o0 x3 x4 e30) z31 g32 vk_TrapCorner_408 tw_1137 ⟨Nat.le_trans (by decide) hR.1, Nat.le_trans (by decide) hR.2⟩ ⟨Nat.zero_le _, Nat.zero_le _⟩ rfl hl.1 rfl (Nat.le_of_ble_eq_true rfl) dX11_game_79 (fun H locs I => ?_)
                  cases hf
                  exact k_ri X I hr dX11_game_82
                · rw [if_pos c27] at hf
                  refine lv_aload_n hx hb dX11_game_65 rfl (lv_at hl 0 rfl) ?_
                  refine lv_iload_n hx hb dX11_game_66 rfl (lv_at hl 3 rfl) ?_
                  refine lv_iload hx hb dX11_game_67 (lv_at hl 4 rfl) ?_
                  obtain ⟨_, g37, hf⟩ := Option.bind_eq_some_iff.mp hf
                  obtain ⟨v33, h34, e35, z36, hf⟩ := cN_spec hf
                  refine k_Vi (As := [.int x3, .int x4]) (rest := []) X I (c_X11_baiterStake l g o0 x3 x4 e35) z36 g37 vk_TrapCorner_405 tw_1133 ⟨Nat.le_trans (by decide) hR.1, Nat.le_trans (by decide) hR.2⟩ ⟨Nat.zero_le _, Nat.zero_le _⟩ rfl hl.1 rfl (Nat.le_of_ble_eq_true rfl) dX11_game_69 (fun H locs I => ?_)
                  refine lv_goto (tgt := 82) hx hb dX11_game_72 (by decide) ?_
                  cases hf
                  exact k_ri X I hr dX11_game_82
              · rw [if_neg c21] at hf
                exact w_X11_game_48 X hR hr  h14 ls H locs hf I (lv_sub hl [] rfl)
      · rw [if_pos c17] at hf
        exact w_X11_game_23 X hR hr  h14 ls H locs hf I (lv_sub hl [] rfl)
def f_X11_game (o0 : Nat) (x1 : Int32) (x2 : Int32) (x3 : Int32) (x4 : Int32) (x5 : Int32) (h : AH) : Option (Int32 × AH) := f_X11_game_0 o0 x1 x2 x3 x4 x5 h
end
theorem c_X11_game (l : Launch) (g : GG) (o0 : Nat) (x1 : Int32) (x2 : Int32) (x3 : Int32) (x4 : Int32) (x5 : Int32) {h : AH} {res : Int32 × AH} (hf : f_X11_game o0 x1 x2 x3 x4 x5 h = some res) : CM l g yX11_game cX11_game 6 (some (.int)) 7 448 0 0 [.ref (rfG g o0), .int x1, .int x2, .int x3, .int x4, .int x5] h (some (.int res.1)) res.2 :=
  k_body (by decide) (Nat.le_of_ble_eq_true rfl) (fun p e s m below meth c R ls hR hr X I hl => w_X11_game_0 X ⟨Nat.le_of_eq hR.1.symm, Nat.le_of_eq hR.2.1.symm⟩ hr o0 x1 x2 x3 x4 x5 h ls s.heap [] hf I (lv_sub hl [0, 1, 2, 3, 4, 5] rfl))
/-! TrapCorner.rests(III)I -/
theorem dX11_rests_0 : decode cX11_rests 0 = .ok (.aload_n 0, 1) := by decide +kernel
theorem dX11_rests_1 : decode cX11_rests 1 = .ok (.iload_n 1, 1) := by decide +kernel
theorem dX11_rests_2 : decode cX11_rests 2 = .ok (.invokevirtual 194, 3) := by decide +kernel
theorem dX11_rests_5 : decode cX11_rests 5 = .ok (.ifCond .eq 16, 3) := by decide +kernel
theorem dX11_rests_8 : decode cX11_rests 8 = .ok (.aload_n 0, 1) := by decide +kernel
theorem dX11_rests_9 : decode cX11_rests 9 = .ok (.iload_n 2, 1) := by decide +kernel
theorem dX11_rests_10 : decode cX11_rests 10 = .ok (.invokevirtual 184, 3) := by decide +kernel
theorem dX11_rests_13 : decode cX11_rests 13 = .ok (.ifCond .eq 8, 3) := by decide +kernel
theorem dX11_rests_16 : decode cX11_rests 16 = .ok (.iload_n 3, 1) := by decide +kernel
theorem dX11_rests_17 : decode cX11_rests 17 = .ok (.iconst (-1), 1) := by decide +kernel
theorem dX11_rests_18 : decode cX11_rests 18 = .ok (.if_icmp .ge 5, 3) := by decide +kernel
theorem dX11_rests_21 : decode cX11_rests 21 = .ok (.iconst (-1), 1) := by decide +kernel
theorem dX11_rests_22 : decode cX11_rests 22 = .ok (.ireturn, 1) := by decide +kernel
theorem dX11_rests_23 : decode cX11_rests 23 = .ok (.iconst 0, 1) := by decide +kernel
theorem dX11_rests_24 : decode cX11_rests 24 = .ok (.istore 4, 2) := by decide +kernel
theorem dX11_rests_26 : decode cX11_rests 26 = .ok (.iload 4, 2) := by decide +kernel
theorem dX11_rests_28 : decode cX11_rests 28 = .ok (.iconst 3, 1) := by decide +kernel
theorem dX11_rests_29 : decode cX11_rests 29 = .ok (.if_icmp .gt 27, 3) := by decide +kernel
theorem dX11_rests_32 : decode cX11_rests 32 = .ok (.aload_n 0, 1) := by decide +kernel
theorem dX11_rests_33 : decode cX11_rests 33 = .ok (.iload_n 1, 1) := by decide +kernel
theorem dX11_rests_34 : decode cX11_rests 34 = .ok (.iload_n 2, 1) := by decide +kernel
theorem dX11_rests_35 : decode cX11_rests 35 = .ok (.iload 4, 2) := by decide +kernel
theorem dX11_rests_37 : decode cX11_rests 37 = .ok (.iconst 0, 1) := by decide +kernel
theorem dX11_rests_38 : decode cX11_rests 38 = .ok (.invokevirtual 402, 3) := by decide +kernel
theorem dX11_rests_41 : decode cX11_rests 41 = .ok (.aload_n 0, 1) := by decide +kernel
theorem dX11_rests_42 : decode cX11_rests 42 = .ok (.iload_n 1, 1) := by decide +kernel
theorem dX11_rests_43 : decode cX11_rests 43 = .ok (.iload_n 2, 1) := by decide +kernel
theorem dX11_rests_44 : decode cX11_rests 44 = .ok (.iload 4, 2) := by decide +kernel
theorem dX11_rests_46 : decode cX11_rests 46 = .ok (.iconst 1, 1) := by decide +kernel
theorem dX11_rests_47 : decode cX11_rests 47 = .ok (.invokevirtual 402, 3) := by decide +kernel
theorem dX11_rests_50 : decode cX11_rests 50 = .ok (.iinc 4 1, 3) := by decide +kernel
theorem dX11_rests_53 : decode cX11_rests 53 = .ok (.goto (-27), 3) := by decide +kernel
theorem dX11_rests_56 : decode cX11_rests 56 = .ok (.iconst 0, 1) := by decide +kernel
theorem dX11_rests_57 : decode cX11_rests 57 = .ok (.istore 4, 2) := by decide +kernel
theorem dX11_rests_59 : decode cX11_rests 59 = .ok (.iconst 0, 1) := by decide +kernel
theorem dX11_rests_60 : decode cX11_rests 60 = .ok (.istore 5, 2) := by decide +kernel
theorem dX11_rests_62 : decode cX11_rests 62 = .ok (.iload 5, 2) := by decide +kernel
theorem dX11_rests_64 : decode cX11_rests 64 = .ok (.iconst 3, 1) := by decide +kernel
theorem dX11_rests_65 : decode cX11_rests 65 = .ok (.if_icmp .gt 53, 3) := by decide +kernel
theorem dX11_rests_68 : decode cX11_rests 68 = .ok (.iconst 0, 1) := by decide +kernel
theorem dX11_rests_69 : decode cX11_rests 69 = .ok (.istore 6, 2) := by decide +kernel
theorem dX11_rests_71 : decode cX11_rests 71 = .ok (.iload 6, 2) := by decide +kernel
theorem dX11_rests_73 : decode cX11_rests 73 = .ok (.iconst 1, 1) := by decide +kernel
theorem dX11_rests_74 : decode cX11_rests 74 = .ok (.if_icmp .gt 38, 3) := by decide +kernel
theorem dX11_rests_77 : decode cX11_rests 77 = .ok (.aload_n 0, 1) := by decide +kernel
theorem dX11_rests_78 : decode cX11_rests 78 = .ok (.iload 5, 2) := by decide +kernel
theorem dX11_rests_80 : decode cX11_rests 80 = .ok (.iload 6, 2) := by decide +kernel
theorem dX11_rests_82 : decode cX11_rests 82 = .ok (.invokevirtual 411, 3) := by decide +kernel
theorem dX11_rests_85 : decode cX11_rests 85 = .ok (.ifCond .eq 21, 3) := by decide +kernel
theorem dX11_rests_88 : decode cX11_rests 88 = .ok (.iload 4, 2) := by decide +kernel
theorem dX11_rests_90 : decode cX11_rests 90 = .ok (.iload_n 3, 1) := by decide +kernel
theorem dX11_rests_91 : decode cX11_rests 91 = .ok (.if_icmp .ne 12, 3) := by decide +kernel
theorem dX11_rests_94 : decode cX11_rests 94 = .ok (.bipush 10, 2) := by decide +kernel
theorem dX11_rests_96 : decode cX11_rests 96 = .ok (.iload 5, 2) := by decide +kernel
theorem dX11_rests_98 : decode cX11_rests 98 = .ok (.imul, 1) := by decide +kernel
theorem dX11_rests_99 : decode cX11_rests 99 = .ok (.iload 6, 2) := by decide +kernel
theorem dX11_rests_101 : decode cX11_rests 101 = .ok (.iadd, 1) := by decide +kernel
theorem dX11_rests_102 : decode cX11_rests 102 = .ok (.ireturn, 1) := by decide +kernel
theorem dX11_rests_103 : decode cX11_rests 103 = .ok (.iinc 4 1, 3) := by decide +kernel
theorem dX11_rests_106 : decode cX11_rests 106 = .ok (.iinc 6 1, 3) := by decide +kernel
theorem dX11_rests_109 : decode cX11_rests 109 = .ok (.goto (-38), 3) := by decide +kernel
theorem dX11_rests_112 : decode cX11_rests 112 = .ok (.iinc 5 1, 3) := by decide +kernel
theorem dX11_rests_115 : decode cX11_rests 115 = .ok (.goto (-53), 3) := by decide +kernel
theorem dX11_rests_118 : decode cX11_rests 118 = .ok (.iload_n 3, 1) := by decide +kernel
theorem dX11_rests_119 : decode cX11_rests 119 = .ok (.iconst (-1), 1) := by decide +kernel
theorem dX11_rests_120 : decode cX11_rests 120 = .ok (.if_icmp .ne 8, 3) := by decide +kernel
theorem dX11_rests_123 : decode cX11_rests 123 = .ok (.iload 4, 2) := by decide +kernel
theorem dX11_rests_125 : decode cX11_rests 125 = .ok (.goto 4, 3) := by decide +kernel
theorem dX11_rests_128 : decode cX11_rests 128 = .ok (.iconst (-1), 1) := by decide +kernel
theorem dX11_rests_129 : decode cX11_rests 129 = .ok (.ireturn, 1) := by decide +kernel
theorem vk_TrapCorner_411 : VK "TrapCorner" 411 [11] yX11_isRest 2 := ⟨tw_1142, tw_1144, tw_1, ⟨by decide, by decide⟩, by decide +kernel, fun ci hci => by
  have hci := List.mem_singleton.mp hci
  subst hci
  exact ⟨_, rfl, tp_44⟩⟩
section
variable {g : GG} {p : Program} {l : Launch} {e : Env} {R : Room} {s : State} {m : MethodId} {args : Array Value} {below : List Frame} {meth : Method} {c : Code} {n0 z0 : Nat}
def f_X11_rests_106 (k62 : Nat → Int32 → Int32 → Int32 → AH → Option (Int32 × AH)) (k71 : Nat → Int32 → Int32 → Int32 → Int32 → AH → Option (Int32 × AH)) (o0 : Nat) (x3 : Int32) (x4 : Int32) (x5 : Int32) (x6 : Int32) (h : AH) : Option (Int32 × AH) :=
  k71 o0 x3 x4 x5 (x6 + 1) h
set_option maxHeartbeats 1000000 in
theorem w_X11_rests_106 (X : Cx g p s m args meth c cX11_rests 7 "TrapCorner") (hR : 7 ≤ R.frames ∧ 448 ≤ R.locals) (hr : meth.sig.returnType = (some (.int))) {res : Int32 × AH} {k62 : Nat → Int32 → Int32 → Int32 → AH → Option (Int32 × AH)} (hk62 : ∀ (o0 : Nat) (x3 : Int32) (x4 : Int32) (x5 : Int32) (h : AH) (ls : Array Slot) (H : Heap) (locs : List Loc), k62 o0 x3 x4 x5 h = some res → Iv g s n0 z0 h H locs 0 0 → lv_has ls 7 [(0, .ref (rfG g o0)), (3, .int x3), (4, .int x4), (5, .int x5)] → W p l e R s m args below meth c H locs 0 0 (MQ below (QG g (some (.int res.1)) res.2) args s 0 0 (AG g)) (F0 m 62 ls [])) {k71 : Nat → Int32 → Int32 → Int32 → Int32 → AH → Option (Int32 × AH)} (hk71 : ∀ (o0 : Nat) (x3 : Int32) (x4 : Int32) (x5 : Int32) (x6 : Int32) (h : AH) (ls : Array Slot) (H : Heap) (locs : List Loc), k71 o0 x3 x4 x5 x6 h = some res → Iv g s n0 z0 h H locs 0 0 → lv_has ls 7 [(0, .ref (rfG g o0)), (3, .int x3), (4, .int x4), (5, .int x5), (6, .int x6)] → W p l e R s m args below meth c H locs 0 0 (MQ below (QG g (some (.int res.1)) res.2) args s 0 0 (AG g)) (F0 m 71 ls [])) : ∀ (o0 : Nat) (x3 : Int32) (x4 : Int32) (x5 : Int32) (x6 : Int32) (h : AH) (ls : Array Slot) (H : Heap) (locs : List Loc), f_X11_rests_106 k62 k71 o0 x3 x4 x5 x6 h = some res → Iv g s n0 z0 h H locs 0 0 → lv_has ls 7 [(0, .ref (rfG g o0)), (3, .int x3), (4, .int x4), (5, .int x5), (6, .int x6)] → W p l e R s m args below meth c H locs 0 0 (MQ below (QG g (some (.int res.1)) res.2) args s 0 0 (AG g)) (F0 m 106 ls []) := by
  have hx := X.1
  have hb := X.2.1
  intro o0 x3 x4 x5 x6 h ls H locs hf I hl
  unfold f_X11_rests_106 at hf
  refine lv_iinc (v := x6 + 1) (lv' := [(6, .int (x6 + 1)), (0, .ref (rfG g o0)), (3, .int x3), (4, .int x4), (5, .int x5)]) hx hb dX11_rests_106 hl (k := 4) rfl rfl (by decide) rfl (fun ls hl => ?_)
  refine lv_goto (tgt := 71) hx hb dX11_rests_109 (by decide) ?_
  exact hk71 o0 x3 x4 x5 (x6 + 1) h ls H locs hf I (lv_sub hl [1, 2, 3, 4, 0] rfl)
def f_X11_rests_71 (k62 : Nat → Int32 → Int32 → Int32 → AH → Option (Int32 × AH)) : Nat → Nat → Int32 → Int32 → Int32 → Int32 → AH → Option (Int32 × AH)
  | 0, _, _, _, _, _, _ => none
  | n + 1, o0, x3, x4, x5, x6, h =>
  if 1 < x6 then
    k62 o0 x3 x4 (x5 + 1) h
  else
    (isC [11] h o0).bind fun _ =>
    cN (f_X11_isRest o0 x5 x6 h) h fun v2 h3 =>
    if v2 = 0 then
      f_X11_rests_106 k62 (f_X11_rests_71 k62 n) o0 x3 x4 x5 x6 h3
    else
      if x4 = x3 then
        some ((10 * x5) + x6, h3)
      else
        f_X11_rests_106 k62 (f_X11_rests_71 k62 n) o0 x3 (x4 + 1) x5 x6 h3
set_option maxHeartbeats 1000000 in
theorem w_X11_rests_71 (X : Cx g p s m args meth c cX11_rests 7 "TrapCorner") (hR : 7 ≤ R.frames ∧ 448 ≤ R.locals) (hr : meth.sig.returnType = (some (.int))) {res : Int32 × AH} {k62 : Nat → Int32 → Int32 → Int32 → AH → Option (Int32 × AH)} (hk62 : ∀ (o0 : Nat) (x3 : Int32) (x4 : Int32) (x5 : Int32) (h : AH) (ls : Array Slot) (H : Heap) (locs : List Loc), k62 o0 x3 x4 x5 h = some res → Iv g s n0 z0 h H locs 0 0 → lv_has ls 7 [(0, .ref (rfG g o0)), (3, .int x3), (4, .int x4), (5, .int x5)] → W p l e R s m args below meth c H locs 0 0 (MQ below (QG g (some (.int res.1)) res.2) args s 0 0 (AG g)) (F0 m 62 ls [])) : ∀ (n : Nat) (o0 : Nat) (x3 : Int32) (x4 : Int32) (x5 : Int32) (x6 : Int32) (h : AH) (ls : Array Slot) (H : Heap) (locs : List Loc), f_X11_rests_71 k62 n o0 x3 x4 x5 x6 h = some res → Iv g s n0 z0 h H locs 0 0 → lv_has ls 7 [(0, .ref (rfG g o0)), (3, .int x3), (4, .int x4), (5, .int x5), (6, .int x6)] → W p l e R s m args below meth c H locs 0 0 (MQ below (QG g (some (.int res.1)) res.2) args s 0 0 (AG g)) (F0 m 71 ls []) := by
  have hx := X.1
  have hb := X.2.1
  intro n
  induction n with
  | zero =>
    intro o0 x3 x4 x5 x6 h ls H locs hf
    rw [f_X11_rests_71.eq_1] at hf
    cases hf
  | succ n ih =>
    intro o0 x3 x4 x5 x6 h ls H locs hf I hl
    rw [f_X11_rests_71.eq_2] at hf
    refine lv_iload hx hb dX11_rests_71 (lv_at hl 4 rfl) ?_
    refine lv_iconst (v := 1) hx hb dX11_rests_73 (by decide) ?_
    refine lv_icmp_gt (tgt := 112) hx hb dX11_rests_74 (by decide) (fun c1 => ?_) (fun c1 => ?_)
    · rw [if_pos c1] at hf
      refine lv_iinc (v := x5 + 1) (lv' := [(5, .int (x5 + 1)), (0, .ref (rfG g o0)), (3, .int x3), (4, .int x4), (6, .int x6)]) hx hb dX11_rests_112 hl (k := 3) rfl rfl (by decide) rfl (fun ls hl => ?_)
      refine lv_goto (tgt := 62) hx hb dX11_rests_115 (by decide) ?_
      exact hk62 o0 x3 x4 (x5 + 1) h ls H locs hf I (lv_sub hl [1, 2, 3, 0] rfl)
    · rw [if_neg c1] at hf
      refine lv_aload_n hx hb dX11_rests_77 rfl (lv_at hl 0 rfl) ?_
      refine lv_iload hx hb dX11_rests_78 (lv_at hl 3 rfl) ?_
      refine lv_iload hx hb dX11_rests_80 (lv_at hl 4 rfl) ?_
      obtain ⟨_, g6, hf⟩ := Option.bind_eq_some_iff.mp hf
      obtain ⟨v2, h3, e4, z5, hf⟩ := cN_spec hf
      refine k_Vi (As := [.int x5, .int x6]) (rest := []) X I (c_X11_isRest l g o0 x5 x6 e4) z5 g6 vk_TrapCorner_411 tw_1145 ⟨Nat.le_trans (by decide) hR.1, Nat.le_trans (by decide) hR.2⟩ ⟨Nat.zero_le _, Nat.zero_le _⟩ rfl hl.1 rfl (Nat.le_of_ble_eq_true rfl) dX11_rests_82 (fun H locs I => ?_)
      refine lv_if_eq (tgt := 106) hx hb dX11_rests_85 (by decide) (fun c7 => ?_) (fun c7 => ?_)
      · rw [if_pos c7] at hf
        exact w_X11_rests_106 X hR hr hk62 ih o0 x3 x4 x5 x6 h3 ls H locs hf I (lv_sub hl [0, 1, 2, 3, 4] rfl)
      · rw [if_neg c7] at hf
        refine lv_iload hx hb dX11_rests_88 (lv_at hl 2 rfl) ?_
        refine lv_iload_n hx hb dX11_rests_90 rfl (lv_at hl 1 rfl) ?_
        refine lv_icmp_ne (tgt := 103) hx hb dX11_rests_91 (by decide) (fun c8 => ?_) (fun c8 => ?_)
        · rw [if_neg c8] at hf
          refine lv_iinc (v := x4 + 1) (lv' := [(4, .int (x4 + 1)), (0, .ref (rfG g o0)), (3, .int x3), (5, .int x5), (6, .int x6)]) hx hb dX11_rests_103 hl (k := 2) rfl rfl (by decide) rfl (fun ls hl => ?_)
          exact w_X11_rests_106 X hR hr hk62 ih o0 x3 (x4 + 1) x5 x6 h3 ls H locs hf I (lv_sub hl [1, 2, 0, 3, 4] rfl)
        · rw [if_pos c8] at hf
          refine lv_bipush (v := 10) hx hb dX11_rests_94 (by decide) ?_
          refine lv_iload hx hb dX11_rests_96 (lv_at hl 3 rfl) ?_
          refine lv_imul hx hb dX11_rests_98 ?_
          refine lv_iload hx hb dX11_rests_99 (lv_at hl 4 rfl) ?_
          refine lv_iadd hx hb dX11_rests_101 ?_
          cases hf
          exact k_ri X I hr dX11_rests_102
def f_X11_rests_62  : Nat → Nat → Int32 → Int32 → Int32 → AH → Option (Int32 × AH)
  | 0, _, _, _, _, _ => none
  | n + 1, o0, x3, x4, x5, h =>
  if 3 < x5 then
    if x3 = ((-1)) then
      some (x4, h)
    else
      some ((-1), h)
  else
    f_X11_rests_71 (f_X11_rests_62 n) fu o0 x3 x4 x5 0 h
set_option maxHeartbeats 1000000 in
theorem w_X11_rests_62 (X : Cx g p s m args meth c cX11_rests 7 "TrapCorner") (hR : 7 ≤ R.frames ∧ 448 ≤ R.locals) (hr : meth.sig.returnType = (some (.int))) {res : Int32 × AH} : ∀ (n : Nat) (o0 : Nat) (x3 : Int32) (x4 : Int32) (x5 : Int32) (h : AH) (ls : Array Slot) (H : Heap) (locs : List Loc), f_X11_rests_62 n o0 x3 x4 x5 h = some res → Iv g s n0 z0 h H locs 0 0 → lv_has ls 7 [(0, .ref (rfG g o0)), (3, .int x3), (4, .int x4), (5, .int x5)] → W p l e R s m args below meth c H locs 0 0 (MQ below (QG g (some (.int res.1)) res.2) args s 0 0 (AG g)) (F0 m 62 ls []) := by
  have hx := X.1
  have hb := X.2.1
  intro n
  induction n with
  | zero =>
    intro o0 x3 x4 x5 h ls H locs hf
    rw [f_X11_rests_62.eq_1] at hf
    cases hf
  | succ n ih =>
    intro o0 x3 x4 x5 h ls H locs hf I hl
    rw [f_X11_rests_62.eq_2] at hf
    refine lv_iload hx hb dX11_rests_62 (lv_at hl 3 rfl) ?_
    refine lv_iconst (v := 3) hx hb dX11_rests_64 (by decide) ?_
    refine lv_icmp_gt (tgt := 118) hx hb dX11_rests_65 (by decide) (fun c1 => ?_) (fun c1 => ?_)
    · rw [if_pos c1] at hf
      refine lv_iload_n hx hb dX11_rests_118 rfl (lv_at hl 1 rfl) ?_
      refine lv_iconst (v := (-1)) hx hb dX11_rests_119 (by decide) ?_
      refine lv_icmp_ne (tgt := 128) hx hb dX11_rests_120 (by decide) (fun c2 => ?_) (fun c2 => ?_)
      · rw [if_neg c2] at hf
        refine lv_iconst (v := (-1)) hx hb dX11_rests_128 (by decide) ?_
        cases hf
        exact k_ri X I hr dX11_rests_129
      · rw [if_pos c2] at hf
        refine lv_iload hx hb dX11_rests_123 (lv_at hl 2 rfl) ?_
        refine lv_goto (tgt := 129) hx hb dX11_rests_125 (by decide) ?_
        cases hf
        exact k_ri X I hr dX11_rests_129
    · rw [if_neg c1] at hf
      refine lv_iconst (v := 0) hx hb dX11_rests_68 (by decide) ?_
      refine lv_istore (lv' := [(6, .int 0), (0, .ref (rfG g o0)), (3, .int x3), (4, .int x4), (5, .int x5)]) hx hb dX11_rests_69 hl (by decide) rfl (fun ls hl => ?_)
      exact w_X11_rests_71 X hR hr ih fu o0 x3 x4 x5 0 h ls H locs hf I (lv_sub hl [1, 2, 3, 4, 0] rfl)
def f_X11_rests_26  : Nat → Nat → Int32 → Int32 → Int32 → Int32 → AH → Option (Int32 × AH)
  | 0, _, _, _, _, _, _ => none
  | n + 1, o0, x1, x2, x3, x4, h =>
  if 3 < x4 then
    f_X11_rests_62 fu o0 x3 0 0 h
  else
    (isC [11] h o0).bind fun _ =>
    cN (f_X11_playGame o0 x1 x2 x4 0 h) h fun _ h3 =>
    (isC [11] h3 o0).bind fun _ =>
    cN (f_X11_playGame o0 x1 x2 x4 1 h3) h3 fun _ h8 =>
    f_X11_rests_26  n o0 x1 x2 x3 (x4 + 1) h8
set_option maxHeartbeats 1000000 in
theorem w_X11_rests_26 (X : Cx g p s m args meth c cX11_rests 7 "TrapCorner") (hR : 7 ≤ R.frames ∧ 448 ≤ R.locals) (hr : meth.sig.returnType = (some (.int))) {res : Int32 × AH} : ∀ (n : Nat) (o0 : Nat) (x1 : Int32) (x2 : Int32) (x3 : Int32) (x4 : Int32) (h : AH) (ls : Array Slot) (H : Heap) (locs : List Loc), f_X11_rests_26 n o0 x1 x2 x3 x4 h = some res → Iv g s n0 z0 h H locs 0 0 → lv_has ls 7 [(0, .ref (rfG g o0)), (1, .int x1), (2, .int x2), (3, .int x3), (4, .int x4)] → W p l e R s m args below meth c H locs 0 0 (MQ below (QG g (some (.int res.1)) res.2) args s 0 0 (AG g)) (F0 m 26 ls []) := by
  have hx := X.1
  have hb := X.2.1
  intro n
  induction n with
  | zero =>
    intro o0 x1 x2 x3 x4 h ls H locs hf
    rw [f_X11_rests_26.eq_1] at hf
    cases hf
  | succ n ih =>
    intro o0 x1 x2 x3 x4 h ls H locs hf I hl
    rw [f_X11_rests_26.eq_2] at hf
    refine lv_iload hx hb dX11_rests_26 (lv_at hl 4 rfl) ?_
    refine lv_iconst (v := 3) hx hb dX11_rests_28 (by decide) ?_
    refine lv_icmp_gt (tgt := 56) hx hb dX11_rests_29 (by decide) (fun c1 => ?_) (fun c1 => ?_)
    · rw [if_pos c1] at hf
      refine lv_iconst (v := 0) hx hb dX11_rests_56 (by decide) ?_
      refine lv_istore (lv' := [(4, .int 0), (0, .ref (rfG g o0)), (1, .int x1), (2, .int x2), (3, .int x3)]) hx hb dX11_rests_57 hl (by decide) rfl (fun ls hl => ?_)
      refine lv_iconst (v := 0) hx hb dX11_rests_59 (by decide) ?_
      refine lv_istore (lv' := [(5, .int 0), (4, .int 0), (0, .ref (rfG g o0)), (1, .int x1), (2, .int x2), (3, .int x3)]) hx hb dX11_rests_60 hl (by decide) rfl (fun ls hl => ?_)
      exact w_X11_rests_62 X hR hr fu o0 x3 0 0 h ls H locs hf I (lv_sub hl [2, 5, 1, 0] rfl)
    · rw [if_neg c1] at hf
      refine lv_aload_n hx hb dX11_rests_32 rfl (lv_at hl 0 rfl) ?_
      refine lv_iload_n hx hb dX11_rests_33 rfl (lv_at hl 1 rfl) ?_
      refine lv_iload_n hx hb dX11_rests_34 rfl (lv_at hl 2 rfl) ?_
      refine lv_iload hx hb dX11_rests_35 (lv_at hl 4 rfl) ?_
      refine lv_iconst (v := 0) hx hb dX11_rests_37 (by decide) ?_
      obtain ⟨_, g6, hf⟩ := Option.bind_eq_some_iff.mp hf
      obtain ⟨⟨⟩, h3, e4, z5, hf⟩ := cN_spec hf
      refine k_Vv (As := [.int x1, .int x2, .int x4, .int 0]) (rest := []) X I (c_X11_playGame l g o0 x1 x2 x4 0 e4) z5 g6 vk_TrapCorner_402 tw_1129 ⟨Nat.le_trans (by decide) hR.1, Nat.le_trans (by decide) hR.2⟩ ⟨Nat.zero_le _, Nat.zero_le _⟩ rfl hl.1 rfl (Nat.le_of_ble_eq_true rfl) dX11_rests_38 (fun H locs I => ?_)
      refine lv_aload_n hx hb dX11_rests_41 rfl (lv_at hl 0 rfl) ?_
      refine lv_iload_n hx hb dX11_rests_42 rfl (lv_at hl 1 rfl) ?_
      refine lv_iload_n hx hb dX11_rests_43 rfl (lv_at hl 2 rfl) ?_
      refine lv_iload hx hb dX11_rests_44 (lv_at hl 4 rfl) ?_
      refine lv_iconst (v := 1) hx hb dX11_rests_46 (by decide) ?_
      obtain ⟨_, g11, hf⟩ := Option.bind_eq_some_iff.mp hf
      obtain ⟨⟨⟩, h8, e9, z10, hf⟩ := cN_spec hf
      refine k_Vv (As := [.int x1, .int x2, .int x4, .int 1]) (rest := []) X I (c_X11_playGame l g o0 x1 x2 x4 1 e9) z10 g11 vk_TrapCorner_402 tw_1129 ⟨Nat.le_trans (by decide) hR.1, Nat.le_trans (by decide) hR.2⟩ ⟨Nat.zero_le _, Nat.zero_le _⟩ rfl hl.1 rfl (Nat.le_of_ble_eq_true rfl) dX11_rests_47 (fun H locs I => ?_)
      refine lv_iinc (v := x4 + 1) (lv' := [(4, .int (x4 + 1)), (0, .ref (rfG g o0)), (1, .int x1), (2, .int x2), (3, .int x3)]) hx hb dX11_rests_50 hl (k := 4) rfl rfl (by decide) rfl (fun ls hl => ?_)
      refine lv_goto (tgt := 26) hx hb dX11_rests_53 (by decide) ?_
      exact ih o0 x1 x2 x3 (x4 + 1) h8 ls H locs hf I (lv_sub hl [1, 2, 3, 4, 0] rfl)
def f_X11_rests_0  (o0 : Nat) (x1 : Int32) (x2 : Int32) (x3 : Int32) (h : AH) : Option (Int32 × AH) :=
  (isC [11] h o0).bind fun _ =>
  cN (f_X11_hasPerson o0 x1 h) h fun v1 h2 =>
  if v1 = 0 then
    some ((-1), h2)
  else
    (isC [11] h2 o0).bind fun _ =>
    cN (f_X11_hasCorner o0 x2 h2) h2 fun v7 h8 =>
    if v7 = 0 then
      some ((-1), h8)
    else
      if ((-1)) ≤ x3 then
        f_X11_rests_26 fu o0 x1 x2 x3 0 h8
      else
        some ((-1), h8)
set_option maxHeartbeats 1000000 in
theorem w_X11_rests_0 (X : Cx g p s m args meth c cX11_rests 7 "TrapCorner") (hR : 7 ≤ R.frames ∧ 448 ≤ R.locals) (hr : meth.sig.returnType = (some (.int))) {res : Int32 × AH} : ∀ (o0 : Nat) (x1 : Int32) (x2 : Int32) (x3 : Int32) (h : AH) (ls : Array Slot) (H : Heap) (locs : List Loc), f_X11_rests_0 o0 x1 x2 x3 h = some res → Iv g s n0 z0 h H locs 0 0 → lv_has ls 7 [(0, .ref (rfG g o0)), (1, .int x1), (2, .int x2), (3, .int x3)] → W p l e R s m args below meth c H locs 0 0 (MQ below (QG g (some (.int res.1)) res.2) args s 0 0 (AG g)) (F0 m 0 ls []) := by
  have hx := X.1
  have hb := X.2.1
  intro o0 x1 x2 x3 h ls H locs hf I hl
  unfold f_X11_rests_0 at hf
  refine lv_aload_n hx hb dX11_rests_0 rfl (lv_at hl 0 rfl) ?_
  refine lv_iload_n hx hb dX11_rests_1 rfl (lv_at hl 1 rfl) ?_
  obtain ⟨_, g5, hf⟩ := Option.bind_eq_some_iff.mp hf
  obtain ⟨v1, h2, e3, z4, hf⟩ := cN_spec hf
  refine k_Vi (As := [.int x1]) (rest := []) X I (c_X11_hasPerson l g o0 x1 e3) z4 g5 vk_TrapCorner_194 tw_880 ⟨Nat.le_trans (by decide) hR.1, Nat.le_trans (by decide) hR.2⟩ ⟨Nat.zero_le _, Nat.zero_le _⟩ rfl hl.1 rfl (Nat.le_of_ble_eq_true rfl) dX11_rests_2 (fun H locs I => ?_)
  refine lv_if_eq (tgt := 21) hx hb dX11_rests_5 (by decide) (fun c6 => ?_) (fun c6 => ?_)
  · rw [if_pos c6] at hf
    refine lv_iconst (v := (-1)) hx hb dX11_rests_21 (by decide) ?_
    cases hf
    exact k_ri X I hr dX11_rests_22
  · rw [if_neg c6] at hf
    refine lv_aload_n hx hb dX11_rests_8 rfl (lv_at hl 0 rfl) ?_
    refine lv_iload_n hx hb dX11_rests_9 rfl (lv_at hl 2 rfl) ?_
    obtain ⟨_, g11, hf⟩ := Option.bind_eq_some_iff.mp hf
    obtain ⟨v7, h8, e9, z10, hf⟩ := cN_spec hf
    refine k_Vi (As := [.int x2]) (rest := []) X I (c_X11_hasCorner l g o0 x2 e9) z10 g11 vk_TrapCorner_184 tw_801 ⟨Nat.le_trans (by decide) hR.1, Nat.le_trans (by decide) hR.2⟩ ⟨Nat.zero_le _, Nat.zero_le _⟩ rfl hl.1 rfl (Nat.le_of_ble_eq_true rfl) dX11_rests_10 (fun H locs I => ?_)
    refine lv_if_eq (tgt := 21) hx hb dX11_rests_13 (by decide) (fun c12 => ?_) (fun c12 => ?_)
    · rw [if_pos c12] at hf
      refine lv_iconst (v := (-1)) hx hb dX11_rests_21 (by decide) ?_
      cases hf
      exact k_ri X I hr dX11_rests_22
    · rw [if_neg c12] at hf
      refine lv_iload_n hx hb dX11_rests_16 rfl (lv_at hl 3 rfl) ?_
      refine lv_iconst (v := (-1)) hx hb dX11_rests_17 (by decide) ?_
      refine lv_icmp_ge (tgt := 23) hx hb dX11_rests_18 (by decide) (fun c13 => ?_) (fun c13 => ?_)
      · rw [if_pos c13] at hf
        refine lv_iconst (v := 0) hx hb dX11_rests_23 (by decide) ?_
        refine lv_istore (lv' := [(4, .int 0), (0, .ref (rfG g o0)), (1, .int x1), (2, .int x2), (3, .int x3)]) hx hb dX11_rests_24 hl (by decide) rfl (fun ls hl => ?_)
        exact w_X11_rests_26 X hR hr fu o0 x1 x2 x3 0 h8 ls H locs hf I (lv_sub hl [1, 2, 3, 4, 0] rfl)
      · rw [if_neg c13] at hf
        refine lv_iconst (v := (-1)) hx hb dX11_rests_21 (by decide) ?_
        cases hf
        exact k_ri X I hr dX11_rests_22
def f_X11_rests (o0 : Nat) (x1 : Int32) (x2 : Int32) (x3 : Int32) (h : AH) : Option (Int32 × AH) := f_X11_rests_0 o0 x1 x2 x3 h
end
theorem c_X11_rests (l : Launch) (g : GG) (o0 : Nat) (x1 : Int32) (x2 : Int32) (x3 : Int32) {h : AH} {res : Int32 × AH} (hf : f_X11_rests o0 x1 x2 x3 h = some res) : CM l g yX11_rests cX11_rests 7 (some (.int)) 7 448 0 0 [.ref (rfG g o0), .int x1, .int x2, .int x3] h (some (.int res.1)) res.2 :=
  k_body (by decide) (Nat.le_of_ble_eq_true rfl) (fun p e s m below meth c R ls hR hr X I hl => w_X11_rests_0 X ⟨Nat.le_of_eq hR.1.symm, Nat.le_of_eq hR.2.1.symm⟩ hr o0 x1 x2 x3 h ls s.heap [] hf I (lv_sub hl [0, 1, 2, 3] rfl))
