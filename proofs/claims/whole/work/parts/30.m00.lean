theorem dJ3_checkIndex_8e157_0 : decode cJ3_checkIndex_8e157 0 = .ok (.iload_n 0, 1) := by decide +kernel
theorem dJ3_checkIndex_8e157_1 : decode cJ3_checkIndex_8e157 1 = .ok (.ifCond .lt 8, 3) := by decide +kernel
theorem dJ3_checkIndex_8e157_4 : decode cJ3_checkIndex_8e157 4 = .ok (.iload_n 0, 1) := by decide +kernel
theorem dJ3_checkIndex_8e157_5 : decode cJ3_checkIndex_8e157 5 = .ok (.iload_n 1, 1) := by decide +kernel
theorem dJ3_checkIndex_8e157_6 : decode cJ3_checkIndex_8e157 6 = .ok (.if_icmp .lt 10, 3) := by decide +kernel
theorem dJ3_checkIndex_8e157_16 : decode cJ3_checkIndex_8e157 16 = .ok (.iload_n 0, 1) := by decide +kernel
theorem dJ3_checkIndex_8e157_17 : decode cJ3_checkIndex_8e157 17 = .ok (.ireturn, 1) := by decide +kernel
theorem dJ0_checkIndex_df160_0 : decode cJ0_checkIndex_df160 0 = .ok (.iload_n 0, 1) := by decide +kernel
theorem dJ0_checkIndex_df160_1 : decode cJ0_checkIndex_df160 1 = .ok (.iload_n 1, 1) := by decide +kernel
theorem dJ0_checkIndex_df160_2 : decode cJ0_checkIndex_df160 2 = .ok (.getstatic 1053, 3) := by decide +kernel
theorem dJ0_checkIndex_df160_5 : decode cJ0_checkIndex_df160 5 = .ok (.invokestatic 1059, 3) := by decide +kernel
theorem dJ0_checkIndex_df160_8 : decode cJ0_checkIndex_df160 8 = .ok (.pop, 1) := by decide +kernel
theorem dJ0_checkIndex_df160_9 : decode cJ0_checkIndex_df160 9 = .ok (.return_, 1) := by decide +kernel
def f_J3_checkIndex_8e157 (x0 x1 : Int32) (h : AH) : Option (Int32 × AH) := if x0 < 0 then none else if x0 < x1 then some (x0, h) else none
theorem c_J3_checkIndex_8e157_n (l : Launch) (g : GG) (x0 x1 : Int32) {h : AH} {res : Int32 × AH} (hf : f_J3_checkIndex_8e157 x0 x1 h = some res) : CM l g yJ3_checkIndex_8e157 cJ3_checkIndex_8e157 3 (some (.int)) 1 64 0 0 [.int x0, .int x1, .null] h (some (.int res.1)) res.2 :=
  k_bodyF (by decide +kernel) (Nat.le_of_ble_eq_true rfl) (fun p e s m below meth c R ls hR hr X I hl => by
    have hx := X.1
    have hb := X.2.1
    have hl : lv_has ls 3 [(0, .int x0), (1, .int x1), (2, .null)] := hl
    unfold f_J3_checkIndex_8e157 at hf
    refine lv_iload_n hx hb dJ3_checkIndex_8e157_0 rfl (lv_at hl 0 rfl) ?_
    refine lv_if_lt (tgt := 9) hx hb dJ3_checkIndex_8e157_1 (by decide) (fun c1 => ?_) (fun c1 => ?_)
    · rw [if_pos c1] at hf
      cases hf
    · rw [if_neg c1] at hf
      refine lv_iload_n hx hb dJ3_checkIndex_8e157_4 rfl (lv_at hl 0 rfl) ?_
      refine lv_iload_n hx hb dJ3_checkIndex_8e157_5 rfl (lv_at hl 1 rfl) ?_
      refine lv_icmp_lt (tgt := 16) hx hb dJ3_checkIndex_8e157_6 (by decide) (fun c2 => ?_) (fun c2 => ?_)
      · rw [if_pos c2] at hf
        cases hf
        refine lv_iload_n hx hb dJ3_checkIndex_8e157_16 rfl (lv_at hl 0 rfl) ?_
        exact k_ri X I hr dJ3_checkIndex_8e157_17
      · rw [if_neg c2] at hf
        cases hf)
theorem c_J3_checkIndex_8e157_r (l : Launch) (g : GG) (x0 x1 : Int32) (t : Nat) {h : AH} {res : Int32 × AH} (hf : f_J3_checkIndex_8e157 x0 x1 h = some res) : CM l g yJ3_checkIndex_8e157 cJ3_checkIndex_8e157 3 (some (.int)) 1 64 0 0 [.int x0, .int x1, .ref t] h (some (.int res.1)) res.2 :=
  k_bodyF (by decide +kernel) (Nat.le_of_ble_eq_true rfl) (fun p e s m below meth c R ls hR hr X I hl => by
    have hx := X.1
    have hb := X.2.1
    have hl : lv_has ls 3 [(0, .int x0), (1, .int x1), (2, .ref t)] := hl
    unfold f_J3_checkIndex_8e157 at hf
    refine lv_iload_n hx hb dJ3_checkIndex_8e157_0 rfl (lv_at hl 0 rfl) ?_
    refine lv_if_lt (tgt := 9) hx hb dJ3_checkIndex_8e157_1 (by decide) (fun c1 => ?_) (fun c1 => ?_)
    · rw [if_pos c1] at hf
      cases hf
    · rw [if_neg c1] at hf
      refine lv_iload_n hx hb dJ3_checkIndex_8e157_4 rfl (lv_at hl 0 rfl) ?_
      refine lv_iload_n hx hb dJ3_checkIndex_8e157_5 rfl (lv_at hl 1 rfl) ?_
      refine lv_icmp_lt (tgt := 16) hx hb dJ3_checkIndex_8e157_6 (by decide) (fun c2 => ?_) (fun c2 => ?_)
      · rw [if_pos c2] at hf
        cases hf
        refine lv_iload_n hx hb dJ3_checkIndex_8e157_16 rfl (lv_at hl 0 rfl) ?_
        exact k_ri X I hr dJ3_checkIndex_8e157_17
      · rw [if_neg c2] at hf
        cases hf)
theorem sk_java_lang_String_1059 : SK "java/lang/String" 1059 yJ3_checkIndex_8e157 3 := ⟨tw_1508, tw_1509, tw_19, ⟨by decide, by decide⟩, by decide +kernel⟩
def f_J0_checkIndex_df160 (x0 x1 : Int32) (h : AH) : Option (Unit × AH) := cN (f_J3_checkIndex_8e157 x0 x1 h) h fun _ h1 => some ((), h1)
theorem c_J0_checkIndex_df160 (l : Launch) (g : GG) (x0 x1 : Int32) {h : AH} {res : Unit × AH} (hf : f_J0_checkIndex_df160 x0 x1 h = some res) : CM l g yJ0_checkIndex_df160 cJ0_checkIndex_df160 2 none 2 128 0 0 [.int x0, .int x1] h none res.2 :=
  k_bodyF (by decide +kernel) (Nat.le_of_ble_eq_true rfl) (fun p e s m below meth c R ls hR hr X I hl => by
    have hx := X.1
    have hb := X.2.1
    have hl : lv_has ls 2 [(0, .int x0), (1, .int x1)] := hl
    unfold f_J0_checkIndex_df160 at hf
    obtain ⟨v1, h1, e1, z1, hf⟩ := cN_spec hf
    cases hf
    refine lv_iload_n hx hb dJ0_checkIndex_df160_0 rfl (lv_at hl 0 rfl) ?_
    refine lv_iload_n hx hb dJ0_checkIndex_df160_1 rfl (lv_at hl 1 rfl) ?_
    rcases X.2.2.2.2.2.1.2.2.2.2.2.2 with hZ | ⟨t, hZ⟩
    · refine va_gets hx hb hZ I.2.1 X.2.2.2.1 (X.2.2.2.2.1 _ tw_551) (fun _ z => z) dJ0_checkIndex_df160_2 ?_
      refine k_Si (As := [.int x0, .int x1, .null]) (rest := []) X I (c_J3_checkIndex_8e157_n l g x0 x1 e1) z1 sk_java_lang_String_1059 tw_1510 ⟨Nat.le_trans (by decide) (Nat.le_of_eq hR.1.symm), Nat.le_trans (by decide) (Nat.le_of_eq hR.2.1.symm)⟩ ⟨Nat.zero_le _, Nat.zero_le _⟩ rfl hl.1 rfl (Nat.le_of_ble_eq_true rfl) dJ0_checkIndex_df160_5 (fun H locs I => ?_)
      refine lv_pop hx hb dJ0_checkIndex_df160_8 rfl ?_
      exact k_rv X I hr dJ0_checkIndex_df160_9
    · refine va_gets hx hb hZ I.2.1 X.2.2.2.1 (X.2.2.2.2.1 _ tw_551) (fun _ z => z) dJ0_checkIndex_df160_2 ?_
      refine k_Si (As := [.int x0, .int x1, .ref t]) (rest := []) X I (c_J3_checkIndex_8e157_r l g x0 x1 t e1) z1 sk_java_lang_String_1059 tw_1510 ⟨Nat.le_trans (by decide) (Nat.le_of_eq hR.1.symm), Nat.le_trans (by decide) (Nat.le_of_eq hR.2.1.symm)⟩ ⟨Nat.zero_le _, Nat.zero_le _⟩ rfl hl.1 rfl (Nat.le_of_ble_eq_true rfl) dJ0_checkIndex_df160_5 (fun H locs I => ?_)
      refine lv_pop hx hb dJ0_checkIndex_df160_8 rfl ?_
      exact k_rv X I hr dJ0_checkIndex_df160_9)
/-! TrapCorner.corner(II)I -/
theorem dX11_corner_0 : decode cX11_corner 0 = .ok (.aload_n 0, 1) := by decide +kernel
theorem dX11_corner_1 : decode cX11_corner 1 = .ok (.iload_n 1, 1) := by decide +kernel
theorem dX11_corner_2 : decode cX11_corner 2 = .ok (.invokevirtual 184, 3) := by decide +kernel
theorem dX11_corner_5 : decode cX11_corner 5 = .ok (.ifCond .ne 5, 3) := by decide +kernel
theorem dX11_corner_8 : decode cX11_corner 8 = .ok (.iconst (-1), 1) := by decide +kernel
theorem dX11_corner_9 : decode cX11_corner 9 = .ok (.ireturn, 1) := by decide +kernel
theorem dX11_corner_10 : decode cX11_corner 10 = .ok (.iload_n 2, 1) := by decide +kernel
theorem dX11_corner_11 : decode cX11_corner 11 = .ok (.lookupswitch 45 #[(0, 25), (1, 35)], 25) := by decide +kernel
theorem dX11_corner_36 : decode cX11_corner 36 = .ok (.aload_n 0, 1) := by decide +kernel
theorem dX11_corner_37 : decode cX11_corner 37 = .ok (.getfield 49, 3) := by decide +kernel
theorem dX11_corner_40 : decode cX11_corner 40 = .ok (.getfield 188, 3) := by decide +kernel
theorem dX11_corner_43 : decode cX11_corner 43 = .ok (.iload_n 1, 1) := by decide +kernel
theorem dX11_corner_44 : decode cX11_corner 44 = .ok (.iaload, 1) := by decide +kernel
theorem dX11_corner_45 : decode cX11_corner 45 = .ok (.ireturn, 1) := by decide +kernel
theorem dX11_corner_46 : decode cX11_corner 46 = .ok (.aload_n 0, 1) := by decide +kernel
theorem dX11_corner_47 : decode cX11_corner 47 = .ok (.getfield 49, 3) := by decide +kernel
theorem dX11_corner_50 : decode cX11_corner 50 = .ok (.getfield 191, 3) := by decide +kernel
theorem dX11_corner_53 : decode cX11_corner 53 = .ok (.iload_n 1, 1) := by decide +kernel
theorem dX11_corner_54 : decode cX11_corner 54 = .ok (.iaload, 1) := by decide +kernel
theorem dX11_corner_55 : decode cX11_corner 55 = .ok (.ireturn, 1) := by decide +kernel
theorem dX11_corner_56 : decode cX11_corner 56 = .ok (.iconst (-1), 1) := by decide +kernel
theorem dX11_corner_57 : decode cX11_corner 57 = .ok (.ireturn, 1) := by decide +kernel
section
variable {g : GG} {p : Program} {l : Launch} {e : Env} {R : Room} {s : State} {m : MethodId} {args : Array Value} {below : List Frame} {meth : Method} {c : Code} {n0 z0 : Nat}
def f_X11_corner_0  (o0 : Nat) (x1 : Int32) (x2 : Int32) (h : AH) : Option (Int32 × AH) :=
  (isC [11] h o0).bind fun _ =>
  cN (f_X11_hasCorner o0 x1 h) h fun v1 h2 =>
  if v1 = 0 then
    some ((-1), h2)
  else
    if x2 = 0 then
      (gR [11] h2 o0 5).bind fun v8 =>
      (gR [8] h2 v8 0).bind fun v10 =>
      (aI 0 h2 v10 x1).bind fun v12 =>
      some (v12, h2)
    else
      if x2 = 1 then
        (gR [11] h2 o0 5).bind fun v15 =>
        (gR [8] h2 v15 1).bind fun v17 =>
        (aI 0 h2 v17 x1).bind fun v19 =>
        some (v19, h2)
      else
        some ((-1), h2)
set_option maxHeartbeats 1000000 in
theorem w_X11_corner_0 (X : Cx g p s m args meth c cX11_corner 3 "TrapCorner") (hR : 2 ≤ R.frames ∧ 128 ≤ R.locals) (hr : meth.sig.returnType = (some (.int))) {res : Int32 × AH} : ∀ (o0 : Nat) (x1 : Int32) (x2 : Int32) (h : AH) (ls : Array Slot) (H : Heap) (locs : List Loc), f_X11_corner_0 o0 x1 x2 h = some res → Iv g s n0 z0 h H locs 0 0 → lv_has ls 3 [(0, .ref (rfG g o0)), (1, .int x1), (2, .int x2)] → W p l e R s m args below meth c H locs 0 0 (MQ below (QG g (some (.int res.1)) res.2) args s 0 0 (AG g)) (F0 m 0 ls []) := by
  have hx := X.1
  have hb := X.2.1
  intro o0 x1 x2 h ls H locs hf I hl
  unfold f_X11_corner_0 at hf
  refine lv_aload_n hx hb dX11_corner_0 rfl (lv_at hl 0 rfl) ?_
  refine lv_iload_n hx hb dX11_corner_1 rfl (lv_at hl 1 rfl) ?_
  obtain ⟨_, g5, hf⟩ := Option.bind_eq_some_iff.mp hf
  obtain ⟨v1, h2, e3, z4, hf⟩ := cN_spec hf
  refine k_Vi (As := [.int x1]) (rest := []) X I (c_X11_hasCorner l g o0 x1 e3) z4 g5 vk_TrapCorner_184 tw_801 ⟨Nat.le_trans (by decide) hR.1, Nat.le_trans (by decide) hR.2⟩ ⟨Nat.zero_le _, Nat.zero_le _⟩ rfl hl.1 rfl (Nat.le_of_ble_eq_true rfl) dX11_corner_2 (fun H locs I => ?_)
  refine lv_if_ne (tgt := 10) hx hb dX11_corner_5 (by decide) (fun c6 => ?_) (fun c6 => ?_)
  · rw [if_neg c6] at hf
    refine lv_iload_n hx hb dX11_corner_10 rfl (lv_at hl 2 rfl) ?_
    by_cases c7 : x2 = 0
    · rw [if_pos c7] at hf
      refine lv_lookup (tgt := 36) (off := 25) hx hb dX11_corner_11 (by decide) (by rw [c7]; decide) (by decide) ?_
      refine lv_aload_n hx hb dX11_corner_36 rfl (lv_at hl 0 rfl) ?_
      obtain ⟨v8, e9, hf⟩ := Option.bind_eq_some_iff.mp hf
      refine r_gR X I e9 lk_TrapCorner_49 dX11_corner_37 ?_
      obtain ⟨v10, e11, hf⟩ := Option.bind_eq_some_iff.mp hf
      refine r_gR X I e11 lk_TrapCorner_188 dX11_corner_40 ?_
      refine lv_iload_n hx hb dX11_corner_43 rfl (lv_at hl 1 rfl) ?_
      obtain ⟨v12, e13, hf⟩ := Option.bind_eq_some_iff.mp hf
      refine r_aI0 X I e13 dX11_corner_44 ?_
      cases hf
      exact k_ri X I hr dX11_corner_45
    · rw [if_neg c7] at hf
      by_cases c14 : x2 = 1
      · rw [if_pos c14] at hf
        refine lv_lookup (tgt := 46) (off := 35) hx hb dX11_corner_11 (by decide) (by rw [c14]; decide) (by decide) ?_
        refine lv_aload_n hx hb dX11_corner_46 rfl (lv_at hl 0 rfl) ?_
        obtain ⟨v15, e16, hf⟩ := Option.bind_eq_some_iff.mp hf
        refine r_gR X I e16 lk_TrapCorner_49 dX11_corner_47 ?_
        obtain ⟨v17, e18, hf⟩ := Option.bind_eq_some_iff.mp hf
        refine r_gR X I e18 lk_TrapCorner_191 dX11_corner_50 ?_
        refine lv_iload_n hx hb dX11_corner_53 rfl (lv_at hl 1 rfl) ?_
        obtain ⟨v19, e20, hf⟩ := Option.bind_eq_some_iff.mp hf
        refine r_aI0 X I e20 dX11_corner_54 ?_
        cases hf
        exact k_ri X I hr dX11_corner_55
      · rw [if_neg c14] at hf
        refine lv_lookup (tgt := 56) (off := 45) hx hb dX11_corner_11 (by decide) (by simp [Op.lookupswitch.offset, ne_toInt2 (k := 0) c7, ne_toInt2 (k := 1) c14]) (by decide) ?_
        refine lv_iconst (v := (-1)) hx hb dX11_corner_56 (by decide) ?_
        cases hf
        exact k_ri X I hr dX11_corner_57
  · rw [if_pos c6] at hf
    refine lv_iconst (v := (-1)) hx hb dX11_corner_8 (by decide) ?_
    cases hf
    exact k_ri X I hr dX11_corner_9
def f_X11_corner (o0 : Nat) (x1 : Int32) (x2 : Int32) (h : AH) : Option (Int32 × AH) := f_X11_corner_0 o0 x1 x2 h
end
theorem c_X11_corner (l : Launch) (g : GG) (o0 : Nat) (x1 : Int32) (x2 : Int32) {h : AH} {res : Int32 × AH} (hf : f_X11_corner o0 x1 x2 h = some res) : CM l g yX11_corner cX11_corner 3 (some (.int)) 2 128 0 0 [.ref (rfG g o0), .int x1, .int x2] h (some (.int res.1)) res.2 :=
  k_body (by decide) (Nat.le_of_ble_eq_true rfl) (fun p e s m below meth c R ls hR hr X I hl => w_X11_corner_0 X ⟨Nat.le_of_eq hR.1.symm, Nat.le_of_eq hR.2.1.symm⟩ hr o0 x1 x2 h ls s.heap [] hf I (lv_sub hl [0, 1, 2] rfl))
/-! java/lang/String.coder()B -/
theorem dJ0_coder_7d493_0 : decode cJ0_coder_7d493 0 = .ok (.getstatic 38, 3) := by decide +kernel
theorem dJ0_coder_7d493_3 : decode cJ0_coder_7d493 3 = .ok (.ifCond .eq 10, 3) := by decide +kernel
theorem dJ0_coder_7d493_6 : decode cJ0_coder_7d493 6 = .ok (.aload_n 0, 1) := by decide +kernel
theorem dJ0_coder_7d493_7 : decode cJ0_coder_7d493 7 = .ok (.getfield 15, 3) := by decide +kernel
theorem dJ0_coder_7d493_10 : decode cJ0_coder_7d493 10 = .ok (.goto 4, 3) := by decide +kernel
theorem dJ0_coder_7d493_13 : decode cJ0_coder_7d493 13 = .ok (.iconst 1, 1) := by decide +kernel
theorem dJ0_coder_7d493_14 : decode cJ0_coder_7d493 14 = .ok (.ireturn, 1) := by decide +kernel
section
variable {g : GG} {p : Program} {l : Launch} {e : Env} {R : Room} {s : State} {m : MethodId} {args : Array Value} {below : List Frame} {meth : Method} {c : Code} {n0 z0 : Nat}
def f_J0_coder_7d493_0  (o0 : Nat) (h : AH) : Option (Int32 × AH) :=
  if (1 : Int32) = 0 then
    rT .byte 1 h
  else
    (sStr o0).bind fun _ =>
    rT .byte 0 h
set_option maxHeartbeats 1000000 in
theorem w_J0_coder_7d493_0 (X : Cx g p s m args meth c cJ0_coder_7d493 1 "java/lang/String") (hR : 1 ≤ R.frames ∧ 64 ≤ R.locals) (hr : meth.sig.returnType = (some (.byte))) {res : Int32 × AH} : ∀ (o0 : Nat) (h : AH) (ls : Array Slot) (H : Heap) (locs : List Loc), f_J0_coder_7d493_0 o0 h = some res → Iv g s n0 z0 h H locs 0 0 → lv_has ls 1 [(0, .ref (rfG g o0))] → W p l e R s m args below meth c H locs 0 0 (MQ below (QG g (some (.int res.1)) res.2) args s 0 0 (AG g)) (F0 m 0 ls []) := by
  have hx := X.1
  have hb := X.2.1
  intro o0 h ls H locs hf I hl
  unfold f_J0_coder_7d493_0 at hf
  refine r_sC X I tw_503 dJ0_coder_7d493_0 ?_
  refine lv_if_eq (tgt := 13) hx hb dJ0_coder_7d493_3 (by decide) (fun c1 => ?_) (fun c1 => ?_)
  · rw [if_pos c1] at hf
    refine lv_iconst (v := 1) hx hb dJ0_coder_7d493_13 (by decide) ?_
    obtain ⟨hz, rfl⟩ := rT_spec hf
    exact k_rt X I hr hz dJ0_coder_7d493_14
  · rw [if_neg c1] at hf
    refine lv_aload_n hx hb dJ0_coder_7d493_6 rfl (lv_at hl 0 rfl) ?_
    obtain ⟨v3, e2, hf⟩ := Option.bind_eq_some_iff.mp hf
    refine r_gSc X I e2 tw_1963 dJ0_coder_7d493_7 ?_
    refine lv_goto (tgt := 14) hx hb dJ0_coder_7d493_10 (by decide) ?_
    obtain ⟨hz, rfl⟩ := rT_spec hf
    exact k_rt X I hr hz dJ0_coder_7d493_14
def f_J0_coder_7d493 (o0 : Nat) (h : AH) : Option (Int32 × AH) := f_J0_coder_7d493_0 o0 h
end
theorem c_J0_coder_7d493 (l : Launch) (g : GG) (o0 : Nat) {h : AH} {res : Int32 × AH} (hf : f_J0_coder_7d493 o0 h = some res) : CM l g yJ0_coder_7d493 cJ0_coder_7d493 1 (some (.byte)) 1 64 0 0 [.ref (rfG g o0)] h (some (.int res.1)) res.2 :=
  k_bodyF (by decide +kernel) (Nat.le_of_ble_eq_true rfl) (fun p e s m below meth c R ls hR hr X I hl => w_J0_coder_7d493_0 X ⟨Nat.le_of_eq hR.1.symm, Nat.le_of_eq hR.2.1.symm⟩ hr o0 h ls s.heap [] hf I (lv_sub hl [0] rfl))
/-! java/lang/String.isLatin1()Z -/
theorem dJ0_isLatin1_aae02_0 : decode cJ0_isLatin1_aae02 0 = .ok (.getstatic 38, 3) := by decide +kernel
theorem dJ0_isLatin1_aae02_3 : decode cJ0_isLatin1_aae02 3 = .ok (.ifCond .eq 14, 3) := by decide +kernel
theorem dJ0_isLatin1_aae02_6 : decode cJ0_isLatin1_aae02 6 = .ok (.aload_n 0, 1) := by decide +kernel
theorem dJ0_isLatin1_aae02_7 : decode cJ0_isLatin1_aae02 7 = .ok (.getfield 15, 3) := by decide +kernel
theorem dJ0_isLatin1_aae02_10 : decode cJ0_isLatin1_aae02 10 = .ok (.ifCond .ne 7, 3) := by decide +kernel
theorem dJ0_isLatin1_aae02_13 : decode cJ0_isLatin1_aae02 13 = .ok (.iconst 1, 1) := by decide +kernel
theorem dJ0_isLatin1_aae02_14 : decode cJ0_isLatin1_aae02 14 = .ok (.goto 4, 3) := by decide +kernel
theorem dJ0_isLatin1_aae02_17 : decode cJ0_isLatin1_aae02 17 = .ok (.iconst 0, 1) := by decide +kernel
theorem dJ0_isLatin1_aae02_18 : decode cJ0_isLatin1_aae02 18 = .ok (.ireturn, 1) := by decide +kernel
section
variable {g : GG} {p : Program} {l : Launch} {e : Env} {R : Room} {s : State} {m : MethodId} {args : Array Value} {below : List Frame} {meth : Method} {c : Code} {n0 z0 : Nat}
def f_J0_isLatin1_aae02_0  (o0 : Nat) (h : AH) : Option (Int32 × AH) :=
  if (1 : Int32) = 0 then
    some (0, h)
  else
    (sStr o0).bind fun _ =>
    if (0 : Int32) = 0 then
      some (1, h)
    else
      some (0, h)
set_option maxHeartbeats 1000000 in
theorem w_J0_isLatin1_aae02_0 (X : Cx g p s m args meth c cJ0_isLatin1_aae02 1 "java/lang/String") (hR : 1 ≤ R.frames ∧ 64 ≤ R.locals) (hr : meth.sig.returnType = (some (.boolean))) {res : Int32 × AH} : ∀ (o0 : Nat) (h : AH) (ls : Array Slot) (H : Heap) (locs : List Loc), f_J0_isLatin1_aae02_0 o0 h = some res → Iv g s n0 z0 h H locs 0 0 → lv_has ls 1 [(0, .ref (rfG g o0))] → W p l e R s m args below meth c H locs 0 0 (MQ below (QG g (some (.int res.1)) res.2) args s 0 0 (AG g)) (F0 m 0 ls []) := by
  have hx := X.1
  have hb := X.2.1
  intro o0 h ls H locs hf I hl
  unfold f_J0_isLatin1_aae02_0 at hf
  refine r_sC X I tw_503 dJ0_isLatin1_aae02_0 ?_
  refine lv_if_eq (tgt := 17) hx hb dJ0_isLatin1_aae02_3 (by decide) (fun c1 => ?_) (fun c1 => ?_)
  · rw [if_pos c1] at hf
    refine lv_iconst (v := 0) hx hb dJ0_isLatin1_aae02_17 (by decide) ?_
    cases hf
    exact k_rz X I hr (Or.inl rfl) dJ0_isLatin1_aae02_18
  · rw [if_neg c1] at hf
    refine lv_aload_n hx hb dJ0_isLatin1_aae02_6 rfl (lv_at hl 0 rfl) ?_
    obtain ⟨v3, e2, hf⟩ := Option.bind_eq_some_iff.mp hf
    refine r_gSc X I e2 tw_1963 dJ0_isLatin1_aae02_7 ?_
    refine lv_if_ne (tgt := 17) hx hb dJ0_isLatin1_aae02_10 (by decide) (fun c4 => ?_) (fun c4 => ?_)
    · rw [if_neg c4] at hf
      refine lv_iconst (v := 0) hx hb dJ0_isLatin1_aae02_17 (by decide) ?_
      cases hf
      exact k_rz X I hr (Or.inl rfl) dJ0_isLatin1_aae02_18
    · rw [if_pos c4] at hf
      refine lv_iconst (v := 1) hx hb dJ0_isLatin1_aae02_13 (by decide) ?_
      refine lv_goto (tgt := 18) hx hb dJ0_isLatin1_aae02_14 (by decide) ?_
      cases hf
      exact k_rz X I hr (Or.inr rfl) dJ0_isLatin1_aae02_18
def f_J0_isLatin1_aae02 (o0 : Nat) (h : AH) : Option (Int32 × AH) := f_J0_isLatin1_aae02_0 o0 h
end
theorem c_J0_isLatin1_aae02 (l : Launch) (g : GG) (o0 : Nat) {h : AH} {res : Int32 × AH} (hf : f_J0_isLatin1_aae02 o0 h = some res) : CM l g yJ0_isLatin1_aae02 cJ0_isLatin1_aae02 1 (some (.boolean)) 1 64 0 0 [.ref (rfG g o0)] h (some (.int res.1)) res.2 :=
  k_bodyF (by decide +kernel) (Nat.le_of_ble_eq_true rfl) (fun p e s m below meth c R ls hR hr X I hl => w_J0_isLatin1_aae02_0 X ⟨Nat.le_of_eq hR.1.symm, Nat.le_of_eq hR.2.1.symm⟩ hr o0 h ls s.heap [] hf I (lv_sub hl [0] rfl))
/-! java/lang/StringLatin1.charAt([BI)C -/
theorem dJ1_charAt_3b067_0 : decode cJ1_charAt_3b067 0 = .ok (.iload_n 1, 1) := by decide +kernel
theorem dJ1_charAt_3b067_1 : decode cJ1_charAt_3b067 1 = .ok (.aload_n 0, 1) := by decide +kernel
theorem dJ1_charAt_3b067_2 : decode cJ1_charAt_3b067 2 = .ok (.arraylength, 1) := by decide +kernel
theorem dJ1_charAt_3b067_3 : decode cJ1_charAt_3b067 3 = .ok (.invokestatic 9, 3) := by decide +kernel
theorem dJ1_charAt_3b067_6 : decode cJ1_charAt_3b067 6 = .ok (.aload_n 0, 1) := by decide +kernel
theorem dJ1_charAt_3b067_7 : decode cJ1_charAt_3b067 7 = .ok (.iload_n 1, 1) := by decide +kernel
theorem dJ1_charAt_3b067_8 : decode cJ1_charAt_3b067 8 = .ok (.baload, 1) := by decide +kernel
theorem dJ1_charAt_3b067_9 : decode cJ1_charAt_3b067 9 = .ok (.sipush 255, 3) := by decide +kernel
theorem dJ1_charAt_3b067_12 : decode cJ1_charAt_3b067 12 = .ok (.iand, 1) := by decide +kernel
theorem dJ1_charAt_3b067_13 : decode cJ1_charAt_3b067 13 = .ok (.i2c, 1) := by decide +kernel
theorem dJ1_charAt_3b067_14 : decode cJ1_charAt_3b067 14 = .ok (.ireturn, 1) := by decide +kernel
theorem sk_java_lang_StringLatin1_9 : SK "java/lang/StringLatin1" 9 yJ0_checkIndex_df160 2 := ⟨tw_1505, tw_1506, tw_15, ⟨by decide, by decide⟩, by decide +kernel⟩
section
variable {g : GG} {p : Program} {l : Launch} {e : Env} {R : Room} {s : State} {m : MethodId} {args : Array Value} {below : List Frame} {meth : Method} {c : Code} {n0 z0 : Nat}
def f_J1_charAt_3b067_0  (o0 : Nat) (x1 : Int32) (h : AH) : Option (Int32 × AH) :=
  (aLen h o0).bind fun v1 =>
  cN (f_J0_checkIndex_df160 x1 v1 h) h fun _ h4 =>
  (aI 1 h4 o0 x1).bind fun v7 =>
  rT .char (((v7 &&& 255).toUInt32 % 65536).toInt32) h4
set_option maxHeartbeats 1000000 in
theorem w_J1_charAt_3b067_0 (X : Cx g p s m args meth c cJ1_charAt_3b067 2 "java/lang/StringLatin1") (hR : 3 ≤ R.frames ∧ 192 ≤ R.locals) (hr : meth.sig.returnType = (some (.char))) {res : Int32 × AH} : ∀ (o0 : Nat) (x1 : Int32) (h : AH) (ls : Array Slot) (H : Heap) (locs : List Loc), f_J1_charAt_3b067_0 o0 x1 h = some res → Iv g s n0 z0 h H locs 0 0 → lv_has ls 2 [(0, .ref (rfG g o0)), (1, .int x1)] → W p l e R s m args below meth c H locs 0 0 (MQ below (QG g (some (.int res.1)) res.2) args s 0 0 (AG g)) (F0 m 0 ls []) := by
  have hx := X.1
  have hb := X.2.1
  intro o0 x1 h ls H locs hf I hl
  unfold f_J1_charAt_3b067_0 at hf
  refine lv_iload_n hx hb dJ1_charAt_3b067_0 rfl (lv_at hl 1 rfl) ?_
  refine lv_aload_n hx hb dJ1_charAt_3b067_1 rfl (lv_at hl 0 rfl) ?_
  obtain ⟨v1, e2, hf⟩ := Option.bind_eq_some_iff.mp hf
  refine r_len X I e2 dJ1_charAt_3b067_2 ?_
  obtain ⟨⟨⟩, h4, e5, z6, hf⟩ := cN_spec hf
  refine k_Sv (As := [.int x1, .int v1]) (rest := []) X I (c_J0_checkIndex_df160 l g x1 v1 e5) z6 sk_java_lang_StringLatin1_9 tw_1507 ⟨Nat.le_trans (by decide) hR.1, Nat.le_trans (by decide) hR.2⟩ ⟨Nat.zero_le _, Nat.zero_le _⟩ rfl hl.1 rfl (Nat.le_of_ble_eq_true rfl) dJ1_charAt_3b067_3 (fun H locs I => ?_)
  refine lv_aload_n hx hb dJ1_charAt_3b067_6 rfl (lv_at hl 0 rfl) ?_
  refine lv_iload_n hx hb dJ1_charAt_3b067_7 rfl (lv_at hl 1 rfl) ?_
  obtain ⟨v7, e8, hf⟩ := Option.bind_eq_some_iff.mp hf
  refine r_aI1 X I e8 dJ1_charAt_3b067_8 ?_
  refine lv_sipush (v := 255) hx hb dJ1_charAt_3b067_9 (by decide) ?_
  refine lv_iand hx hb dJ1_charAt_3b067_12 ?_
  refine lv_i2c hx hb dJ1_charAt_3b067_13 rfl ?_
  obtain ⟨hz, rfl⟩ := rT_spec hf
  exact k_rt X I hr hz dJ1_charAt_3b067_14
def f_J1_charAt_3b067 (o0 : Nat) (x1 : Int32) (h : AH) : Option (Int32 × AH) := f_J1_charAt_3b067_0 o0 x1 h
end
theorem c_J1_charAt_3b067 (l : Launch) (g : GG) (o0 : Nat) (x1 : Int32) {h : AH} {res : Int32 × AH} (hf : f_J1_charAt_3b067 o0 x1 h = some res) : CM l g yJ1_charAt_3b067 cJ1_charAt_3b067 2 (some (.char)) 3 192 0 0 [.ref (rfG g o0), .int x1] h (some (.int res.1)) res.2 :=
  k_bodyF (by decide +kernel) (Nat.le_of_ble_eq_true rfl) (fun p e s m below meth c R ls hR hr X I hl => w_J1_charAt_3b067_0 X ⟨Nat.le_of_eq hR.1.symm, Nat.le_of_eq hR.2.1.symm⟩ hr o0 x1 h ls s.heap [] hf I (lv_sub hl [0, 1] rfl))
/-! java/lang/String.length()I -/
theorem dJ0_length_8abf5_0 : decode cJ0_length_8abf5 0 = .ok (.aload_n 0, 1) := by decide +kernel
theorem dJ0_length_8abf5_1 : decode cJ0_length_8abf5 1 = .ok (.getfield 9, 3) := by decide +kernel
theorem dJ0_length_8abf5_4 : decode cJ0_length_8abf5 4 = .ok (.arraylength, 1) := by decide +kernel
theorem dJ0_length_8abf5_5 : decode cJ0_length_8abf5 5 = .ok (.aload_n 0, 1) := by decide +kernel
theorem dJ0_length_8abf5_6 : decode cJ0_length_8abf5 6 = .ok (.invokevirtual 335, 3) := by decide +kernel
theorem dJ0_length_8abf5_9 : decode cJ0_length_8abf5 9 = .ok (.ishr, 1) := by decide +kernel
theorem dJ0_length_8abf5_10 : decode cJ0_length_8abf5 10 = .ok (.ireturn, 1) := by decide +kernel
theorem tk_java_lang_String_335 : TK "java/lang/String" 335 yJ0_coder_7d493 0 := ⟨tw_499, tw_500, tw_15, ⟨by decide, by decide⟩, by decide +kernel, tw_501⟩
section
variable {g : GG} {p : Program} {l : Launch} {e : Env} {R : Room} {s : State} {m : MethodId} {args : Array Value} {below : List Frame} {meth : Method} {c : Code} {n0 z0 : Nat}
def f_J0_length_8abf5_0  (o0 : Nat) (h : AH) : Option (Int32 × AH) :=
  (sStr o0).bind fun v2 =>
  (aLen h (3000000 + v2)).bind fun v3 =>
  (sStr o0).bind fun _ =>
  cN (f_J0_coder_7d493 o0 h) h fun v5 h6 =>
  some (v3 >>> (v5 &&& 31), h6)
set_option maxHeartbeats 1000000 in
theorem w_J0_length_8abf5_0 (X : Cx g p s m args meth c cJ0_length_8abf5 1 "java/lang/String") (hR : 2 ≤ R.frames ∧ 128 ≤ R.locals) (hr : meth.sig.returnType = (some (.int))) {res : Int32 × AH} : ∀ (o0 : Nat) (h : AH) (ls : Array Slot) (H : Heap) (locs : List Loc), f_J0_length_8abf5_0 o0 h = some res → Iv g s n0 z0 h H locs 0 0 → lv_has ls 1 [(0, .ref (rfG g o0))] → W p l e R s m args below meth c H locs 0 0 (MQ below (QG g (some (.int res.1)) res.2) args s 0 0 (AG g)) (F0 m 0 ls []) := by
  have hx := X.1
  have hb := X.2.1
  intro o0 h ls H locs hf I hl
  unfold f_J0_length_8abf5_0 at hf
  refine lv_aload_n hx hb dJ0_length_8abf5_0 rfl (lv_at hl 0 rfl) ?_
  obtain ⟨v2, e1, hf⟩ := Option.bind_eq_some_iff.mp hf
  refine r_gSv X I e1 tw_1962 dJ0_length_8abf5_1 ?_
  obtain ⟨v3, e4, hf⟩ := Option.bind_eq_some_iff.mp hf
  refine r_len X I e4 dJ0_length_8abf5_4 ?_
  refine lv_aload_n hx hb dJ0_length_8abf5_5 rfl (lv_at hl 0 rfl) ?_
  obtain ⟨_, g9, hf⟩ := Option.bind_eq_some_iff.mp hf
  obtain ⟨v5, h6, e7, z8, hf⟩ := cN_spec hf
  refine k_Ti (As := []) (rest := [.int v3]) X I (c_J0_coder_7d493 l g o0 e7) z8 g9 tk_java_lang_String_335 tw_502 ⟨Nat.le_trans (by decide) hR.1, Nat.le_trans (by decide) hR.2⟩ ⟨Nat.zero_le _, Nat.zero_le _⟩ rfl hl.1 rfl (Nat.le_of_ble_eq_true rfl) dJ0_length_8abf5_6 (fun H locs I => ?_)
  refine lv_ishr hx hb dJ0_length_8abf5_9 ?_
  cases hf
  exact k_ri X I hr dJ0_length_8abf5_10
def f_J0_length_8abf5 (o0 : Nat) (h : AH) : Option (Int32 × AH) := f_J0_length_8abf5_0 o0 h
end
theorem c_J0_length_8abf5 (l : Launch) (g : GG) (o0 : Nat) {h : AH} {res : Int32 × AH} (hf : f_J0_length_8abf5 o0 h = some res) : CM l g yJ0_length_8abf5 cJ0_length_8abf5 1 (some (.int)) 2 128 0 0 [.ref (rfG g o0)] h (some (.int res.1)) res.2 :=
  k_bodyF (by decide +kernel) (Nat.le_of_ble_eq_true rfl) (fun p e s m below meth c R ls hR hr X I hl => w_J0_length_8abf5_0 X ⟨Nat.le_of_eq hR.1.symm, Nat.le_of_eq hR.2.1.symm⟩ hr o0 h ls s.heap [] hf I (lv_sub hl [0] rfl))
/-! java/lang/String.charAt(I)C -/
theorem dJ0_charAt_5068e_0 : decode cJ0_charAt_5068e 0 = .ok (.aload_n 0, 1) := by decide +kernel
theorem dJ0_charAt_5068e_1 : decode cJ0_charAt_5068e 1 = .ok (.invokevirtual 492, 3) := by decide +kernel
theorem dJ0_charAt_5068e_4 : decode cJ0_charAt_5068e 4 = .ok (.ifCond .eq 12, 3) := by decide +kernel
theorem dJ0_charAt_5068e_7 : decode cJ0_charAt_5068e 7 = .ok (.aload_n 0, 1) := by decide +kernel
theorem dJ0_charAt_5068e_8 : decode cJ0_charAt_5068e 8 = .ok (.getfield 9, 3) := by decide +kernel
theorem dJ0_charAt_5068e_11 : decode cJ0_charAt_5068e 11 = .ok (.iload_n 1, 1) := by decide +kernel
theorem dJ0_charAt_5068e_12 : decode cJ0_charAt_5068e 12 = .ok (.invokestatic 495, 3) := by decide +kernel
theorem dJ0_charAt_5068e_15 : decode cJ0_charAt_5068e 15 = .ok (.ireturn, 1) := by decide +kernel
theorem dJ0_charAt_5068e_16 : decode cJ0_charAt_5068e 16 = .ok (.aload_n 0, 1) := by decide +kernel
theorem dJ0_charAt_5068e_17 : decode cJ0_charAt_5068e 17 = .ok (.getfield 9, 3) := by decide +kernel
theorem dJ0_charAt_5068e_20 : decode cJ0_charAt_5068e 20 = .ok (.iload_n 1, 1) := by decide +kernel
theorem dJ0_charAt_5068e_21 : decode cJ0_charAt_5068e 21 = .ok (.invokestatic 498, 3) := by decide +kernel
theorem dJ0_charAt_5068e_24 : decode cJ0_charAt_5068e 24 = .ok (.ireturn, 1) := by decide +kernel
theorem tk_java_lang_String_492 : TK "java/lang/String" 492 yJ0_isLatin1_aae02 0 := ⟨tw_513, tw_514, tw_15, ⟨by decide, by decide⟩, by decide +kernel, tw_515⟩
theorem sk_java_lang_String_495 : SK "java/lang/String" 495 yJ1_charAt_3b067 2 := ⟨tw_1502, tw_1503, tw_16, ⟨by decide, by decide⟩, by decide +kernel⟩
section
variable {g : GG} {p : Program} {l : Launch} {e : Env} {R : Room} {s : State} {m : MethodId} {args : Array Value} {below : List Frame} {meth : Method} {c : Code} {n0 z0 : Nat}
def f_J0_charAt_5068e_0  (o0 : Nat) (x1 : Int32) (h : AH) : Option (Int32 × AH) :=
  (sStr o0).bind fun _ =>
  cN (f_J0_isLatin1_aae02 o0 h) h fun v1 h2 =>
  if v1 = 0 then
    (sStr o0).bind fun v8 =>
    none
  else
    (sStr o0).bind fun v10 =>
    cN (f_J1_charAt_3b067 (3000000 + v10) x1 h2) h2 fun v11 h12 =>
    rT .char v11 h12
set_option maxHeartbeats 1000000 in
theorem w_J0_charAt_5068e_0 (X : Cx g p s m args meth c cJ0_charAt_5068e 2 "java/lang/String") (hR : 4 ≤ R.frames ∧ 256 ≤ R.locals) (hr : meth.sig.returnType = (some (.char))) {res : Int32 × AH} : ∀ (o0 : Nat) (x1 : Int32) (h : AH) (ls : Array Slot) (H : Heap) (locs : List Loc), f_J0_charAt_5068e_0 o0 x1 h = some res → Iv g s n0 z0 h H locs 0 0 → lv_has ls 2 [(0, .ref (rfG g o0)), (1, .int x1)] → W p l e R s m args below meth c H locs 0 0 (MQ below (QG g (some (.int res.1)) res.2) args s 0 0 (AG g)) (F0 m 0 ls []) := by
  have hx := X.1
  have hb := X.2.1
  intro o0 x1 h ls H locs hf I hl
  unfold f_J0_charAt_5068e_0 at hf
  refine lv_aload_n hx hb dJ0_charAt_5068e_0 rfl (lv_at hl 0 rfl) ?_
  obtain ⟨_, g5, hf⟩ := Option.bind_eq_some_iff.mp hf
  obtain ⟨v1, h2, e3, z4, hf⟩ := cN_spec hf
  refine k_Ti (As := []) (rest := []) X I (c_J0_isLatin1_aae02 l g o0 e3) z4 g5 tk_java_lang_String_492 tw_516 ⟨Nat.le_trans (by decide) hR.1, Nat.le_trans (by decide) hR.2⟩ ⟨Nat.zero_le _, Nat.zero_le _⟩ rfl hl.1 rfl (Nat.le_of_ble_eq_true rfl) dJ0_charAt_5068e_1 (fun H locs I => ?_)
  refine lv_if_eq (tgt := 16) hx hb dJ0_charAt_5068e_4 (by decide) (fun c6 => ?_) (fun c6 => ?_)
  · rw [if_pos c6] at hf
    refine lv_aload_n hx hb dJ0_charAt_5068e_16 rfl (lv_at hl 0 rfl) ?_
    obtain ⟨v8, e7, hf⟩ := Option.bind_eq_some_iff.mp hf
    refine r_gSv X I e7 tw_1962 dJ0_charAt_5068e_17 ?_
    refine lv_iload_n hx hb dJ0_charAt_5068e_20 rfl (lv_at hl 1 rfl) ?_
    cases hf
  · rw [if_neg c6] at hf
    refine lv_aload_n hx hb dJ0_charAt_5068e_7 rfl (lv_at hl 0 rfl) ?_
    obtain ⟨v10, e9, hf⟩ := Option.bind_eq_some_iff.mp hf
    refine r_gSv X I e9 tw_1962 dJ0_charAt_5068e_8 ?_
    refine lv_iload_n hx hb dJ0_charAt_5068e_11 rfl (lv_at hl 1 rfl) ?_
    obtain ⟨v11, h12, e13, z14, hf⟩ := cN_spec hf
    refine k_Si (As := [.ref (rfG g (3000000 + v10)), .int x1]) (rest := []) X I (c_J1_charAt_3b067 l g (3000000 + v10) x1 e13) z14 sk_java_lang_String_495 tw_1504 ⟨Nat.le_trans (by decide) hR.1, Nat.le_trans (by decide) hR.2⟩ ⟨Nat.zero_le _, Nat.zero_le _⟩ rfl hl.1 rfl (Nat.le_of_ble_eq_true rfl) dJ0_charAt_5068e_12 (fun H locs I => ?_)
    obtain ⟨hz, rfl⟩ := rT_spec hf
    exact k_rt X I hr hz dJ0_charAt_5068e_15
def f_J0_charAt_5068e (o0 : Nat) (x1 : Int32) (h : AH) : Option (Int32 × AH) := f_J0_charAt_5068e_0 o0 x1 h
end
theorem c_J0_charAt_5068e (l : Launch) (g : GG) (o0 : Nat) (x1 : Int32) {h : AH} {res : Int32 × AH} (hf : f_J0_charAt_5068e o0 x1 h = some res) : CM l g yJ0_charAt_5068e cJ0_charAt_5068e 2 (some (.char)) 4 256 0 0 [.ref (rfG g o0), .int x1] h (some (.int res.1)) res.2 :=
  k_bodyF (by decide +kernel) (Nat.le_of_ble_eq_true rfl) (fun p e s m below meth c R ls hR hr X I hl => w_J0_charAt_5068e_0 X ⟨Nat.le_of_eq hR.1.symm, Nat.le_of_eq hR.2.1.symm⟩ hr o0 x1 h ls s.heap [] hf I (lv_sub hl [0, 1] rfl))
/-! java/lang/String.indexOf(II)I -/
theorem dJ0_indexOf_7cf53_0 : decode cJ0_indexOf_7cf53 0 = .ok (.aload_n 0, 1) := by decide +kernel
theorem dJ0_indexOf_7cf53_1 : decode cJ0_indexOf_7cf53 1 = .ok (.invokevirtual 492, 3) := by decide +kernel
theorem dJ0_indexOf_7cf53_4 : decode cJ0_indexOf_7cf53 4 = .ok (.ifCond .eq 19, 3) := by decide +kernel
theorem dJ0_indexOf_7cf53_7 : decode cJ0_indexOf_7cf53 7 = .ok (.aload_n 0, 1) := by decide +kernel
theorem dJ0_indexOf_7cf53_8 : decode cJ0_indexOf_7cf53 8 = .ok (.getfield 9, 3) := by decide +kernel
theorem dJ0_indexOf_7cf53_11 : decode cJ0_indexOf_7cf53 11 = .ok (.iload_n 1, 1) := by decide +kernel
theorem dJ0_indexOf_7cf53_12 : decode cJ0_indexOf_7cf53 12 = .ok (.iload_n 2, 1) := by decide +kernel
theorem dJ0_indexOf_7cf53_13 : decode cJ0_indexOf_7cf53 13 = .ok (.aload_n 0, 1) := by decide +kernel
theorem dJ0_indexOf_7cf53_14 : decode cJ0_indexOf_7cf53 14 = .ok (.invokevirtual 505, 3) := by decide +kernel
theorem dJ0_indexOf_7cf53_17 : decode cJ0_indexOf_7cf53 17 = .ok (.invokestatic 637, 3) := by decide +kernel
theorem dJ0_indexOf_7cf53_20 : decode cJ0_indexOf_7cf53 20 = .ok (.goto 16, 3) := by decide +kernel
theorem dJ0_indexOf_7cf53_23 : decode cJ0_indexOf_7cf53 23 = .ok (.aload_n 0, 1) := by decide +kernel
theorem dJ0_indexOf_7cf53_24 : decode cJ0_indexOf_7cf53 24 = .ok (.getfield 9, 3) := by decide +kernel
theorem dJ0_indexOf_7cf53_27 : decode cJ0_indexOf_7cf53 27 = .ok (.iload_n 1, 1) := by decide +kernel
theorem dJ0_indexOf_7cf53_28 : decode cJ0_indexOf_7cf53 28 = .ok (.iload_n 2, 1) := by decide +kernel
theorem dJ0_indexOf_7cf53_29 : decode cJ0_indexOf_7cf53 29 = .ok (.aload_n 0, 1) := by decide +kernel
theorem dJ0_indexOf_7cf53_30 : decode cJ0_indexOf_7cf53 30 = .ok (.invokevirtual 505, 3) := by decide +kernel
theorem dJ0_indexOf_7cf53_33 : decode cJ0_indexOf_7cf53 33 = .ok (.invokestatic 640, 3) := by decide +kernel
theorem dJ0_indexOf_7cf53_36 : decode cJ0_indexOf_7cf53 36 = .ok (.ireturn, 1) := by decide +kernel
theorem tk_java_lang_String_505 : TK "java/lang/String" 505 yJ0_length_8abf5 0 := ⟨tw_517, tw_496, tw_15, ⟨by decide, by decide⟩, by decide +kernel, tw_497⟩
theorem sk_java_lang_String_637 : SK "java/lang/String" 637 yJ1_indexOf_4cfef 4 := ⟨tw_518, tw_519, tw_16, ⟨by decide, by decide⟩, by decide +kernel⟩
section
variable {g : GG} {p : Program} {l : Launch} {e : Env} {R : Room} {s : State} {m : MethodId} {args : Array Value} {below : List Frame} {meth : Method} {c : Code} {n0 z0 : Nat}
def f_J0_indexOf_7cf53_0  (o0 : Nat) (x1 : Int32) (x2 : Int32) (h : AH) : Option (Int32 × AH) :=
  (sStr o0).bind fun _ =>
  cN (f_J0_isLatin1_aae02 o0 h) h fun v1 h2 =>
  if v1 = 0 then
    (sStr o0).bind fun v8 =>
    (sStr o0).bind fun _ =>
    cN (f_J0_length_8abf5 o0 h2) h2 fun v9 h10 =>
    none
  else
    (sStr o0).bind fun v15 =>
    (sStr o0).bind fun _ =>
    cN (f_J0_length_8abf5 o0 h2) h2 fun v16 h17 =>
    cN (f_J1_indexOf_4cfef (3000000 + v15) x1 x2 v16 h17) h17 fun v21 h22 =>
    some (v21, h22)
set_option maxHeartbeats 1000000 in
theorem w_J0_indexOf_7cf53_0 (X : Cx g p s m args meth c cJ0_indexOf_7cf53 3 "java/lang/String") (hR : 3 ≤ R.frames ∧ 192 ≤ R.locals) (hr : meth.sig.returnType = (some (.int))) {res : Int32 × AH} : ∀ (o0 : Nat) (x1 : Int32) (x2 : Int32) (h : AH) (ls : Array Slot) (H : Heap) (locs : List Loc), f_J0_indexOf_7cf53_0 o0 x1 x2 h = some res → Iv g s n0 z0 h H locs 0 0 → lv_has ls 3 [(0, .ref (rfG g o0)), (1, .int x1), (2, .int x2)] → W p l e R s m args below meth c H locs 0 0 (MQ below (QG g (some (.int res.1)) res.2) args s 0 0 (AG g)) (F0 m 0 ls []) := by
  have hx := X.1
  have hb := X.2.1
  intro o0 x1 x2 h ls H locs hf I hl
  unfold f_J0_indexOf_7cf53_0 at hf
  refine lv_aload_n hx hb dJ0_indexOf_7cf53_0 rfl (lv_at hl 0 rfl) ?_
  obtain ⟨_, g5, hf⟩ := Option.bind_eq_some_iff.mp hf
  obtain ⟨v1, h2, e3, z4, hf⟩ := cN_spec hf
  refine k_Ti (As := []) (rest := []) X I (c_J0_isLatin1_aae02 l g o0 e3) z4 g5 tk_java_lang_String_492 tw_516 ⟨Nat.le_trans (by decide) hR.1, Nat.le_trans (by decide) hR.2⟩ ⟨Nat.zero_le _, Nat.zero_le _⟩ rfl hl.1 rfl (Nat.le_of_ble_eq_true rfl) dJ0_indexOf_7cf53_1 (fun H locs I => ?_)
  refine lv_if_eq (tgt := 23) hx hb dJ0_indexOf_7cf53_4 (by decide) (fun c6 => ?_) (fun c6 => ?_)
  · rw [if_pos c6] at hf
    refine lv_aload_n hx hb dJ0_indexOf_7cf53_23 rfl (lv_at hl 0 rfl) ?_
    obtain ⟨v8, e7, hf⟩ := Option.bind_eq_some_iff.mp hf
    refine r_gSv X I e7 tw_1962 dJ0_indexOf_7cf53_24 ?_
    refine lv_iload_n hx hb dJ0_indexOf_7cf53_27 rfl (lv_at hl 1 rfl) ?_
    refine lv_iload_n hx hb dJ0_indexOf_7cf53_28 rfl (lv_at hl 2 rfl) ?_
    refine lv_aload_n hx hb dJ0_indexOf_7cf53_29 rfl (lv_at hl 0 rfl) ?_
    obtain ⟨_, g13, hf⟩ := Option.bind_eq_some_iff.mp hf
    obtain ⟨v9, h10, e11, z12, hf⟩ := cN_spec hf
    refine k_Ti (As := []) (rest := [.int x2, .int x1, .ref (rfG g (3000000 + v8))]) X I (c_J0_length_8abf5 l g o0 e11) z12 g13 tk_java_lang_String_505 tw_498 ⟨Nat.le_trans (by decide) hR.1, Nat.le_trans (by decide) hR.2⟩ ⟨Nat.zero_le _, Nat.zero_le _⟩ rfl hl.1 rfl (Nat.le_of_ble_eq_true rfl) dJ0_indexOf_7cf53_30 (fun H locs I => ?_)
    cases hf
  · rw [if_neg c6] at hf
    refine lv_aload_n hx hb dJ0_indexOf_7cf53_7 rfl (lv_at hl 0 rfl) ?_
    obtain ⟨v15, e14, hf⟩ := Option.bind_eq_some_iff.mp hf
    refine r_gSv X I e14 tw_1962 dJ0_indexOf_7cf53_8 ?_
    refine lv_iload_n hx hb dJ0_indexOf_7cf53_11 rfl (lv_at hl 1 rfl) ?_
    refine lv_iload_n hx hb dJ0_indexOf_7cf53_12 rfl (lv_at hl 2 rfl) ?_
    refine lv_aload_n hx hb dJ0_indexOf_7cf53_13 rfl (lv_at hl 0 rfl) ?_
    obtain ⟨_, g20, hf⟩ := Option.bind_eq_some_iff.mp hf
    obtain ⟨v16, h17, e18, z19, hf⟩ := cN_spec hf
    refine k_Ti (As := []) (rest := [.int x2, .int x1, .ref (rfG g (3000000 + v15))]) X I (c_J0_length_8abf5 l g o0 e18) z19 g20 tk_java_lang_String_505 tw_498 ⟨Nat.le_trans (by decide) hR.1, Nat.le_trans (by decide) hR.2⟩ ⟨Nat.zero_le _, Nat.zero_le _⟩ rfl hl.1 rfl (Nat.le_of_ble_eq_true rfl) dJ0_indexOf_7cf53_14 (fun H locs I => ?_)
    obtain ⟨v21, h22, e23, z24, hf⟩ := cN_spec hf
    refine k_Si (As := [.ref (rfG g (3000000 + v15)), .int x1, .int x2, .int v16]) (rest := []) X I (c_J1_indexOf_4cfef l g (3000000 + v15) x1 x2 v16 e23) z24 sk_java_lang_String_637 tw_520 ⟨Nat.le_trans (by decide) hR.1, Nat.le_trans (by decide) hR.2⟩ ⟨Nat.zero_le _, Nat.zero_le _⟩ rfl hl.1 rfl (Nat.le_of_ble_eq_true rfl) dJ0_indexOf_7cf53_17 (fun H locs I => ?_)
    refine lv_goto (tgt := 36) hx hb dJ0_indexOf_7cf53_20 (by decide) ?_
    cases hf
    exact k_ri X I hr dJ0_indexOf_7cf53_36
def f_J0_indexOf_7cf53 (o0 : Nat) (x1 : Int32) (x2 : Int32) (h : AH) : Option (Int32 × AH) := f_J0_indexOf_7cf53_0 o0 x1 x2 h
end
theorem c_J0_indexOf_7cf53 (l : Launch) (g : GG) (o0 : Nat) (x1 : Int32) (x2 : Int32) {h : AH} {res : Int32 × AH} (hf : f_J0_indexOf_7cf53 o0 x1 x2 h = some res) : CM l g yJ0_indexOf_7cf53 cJ0_indexOf_7cf53 3 (some (.int)) 3 192 0 0 [.ref (rfG g o0), .int x1, .int x2] h (some (.int res.1)) res.2 :=
  k_bodyF (by decide +kernel) (Nat.le_of_ble_eq_true rfl) (fun p e s m below meth c R ls hR hr X I hl => w_J0_indexOf_7cf53_0 X ⟨Nat.le_of_eq hR.1.symm, Nat.le_of_eq hR.2.1.symm⟩ hr o0 x1 x2 h ls s.heap [] hf I (lv_sub hl [0, 1, 2] rfl))
/-! TrapCornerModel.isAmong(Ljava/lang/String;I)Z -/
theorem dX12_isAmong_0 : decode cX12_isAmong 0 = .ok (.iconst 0, 1) := by decide +kernel
theorem dX12_isAmong_1 : decode cX12_isAmong 1 = .ok (.istore_n 2, 1) := by decide +kernel
theorem dX12_isAmong_2 : decode cX12_isAmong 2 = .ok (.iload_n 2, 1) := by decide +kernel
theorem dX12_isAmong_3 : decode cX12_isAmong 3 = .ok (.aload_n 0, 1) := by decide +kernel
theorem dX12_isAmong_4 : decode cX12_isAmong 4 = .ok (.invokevirtual 99, 3) := by decide +kernel
theorem dX12_isAmong_7 : decode cX12_isAmong 7 = .ok (.if_icmp .ge 20, 3) := by decide +kernel
theorem dX12_isAmong_10 : decode cX12_isAmong 10 = .ok (.aload_n 0, 1) := by decide +kernel
theorem dX12_isAmong_11 : decode cX12_isAmong 11 = .ok (.iload_n 2, 1) := by decide +kernel
theorem dX12_isAmong_12 : decode cX12_isAmong 12 = .ok (.invokevirtual 105, 3) := by decide +kernel
theorem dX12_isAmong_15 : decode cX12_isAmong 15 = .ok (.iload_n 1, 1) := by decide +kernel
theorem dX12_isAmong_16 : decode cX12_isAmong 16 = .ok (.if_icmp .ne 5, 3) := by decide +kernel
theorem dX12_isAmong_19 : decode cX12_isAmong 19 = .ok (.iconst 1, 1) := by decide +kernel
theorem dX12_isAmong_20 : decode cX12_isAmong 20 = .ok (.ireturn, 1) := by decide +kernel
theorem dX12_isAmong_21 : decode cX12_isAmong 21 = .ok (.iinc 2 1, 3) := by decide +kernel
theorem dX12_isAmong_24 : decode cX12_isAmong 24 = .ok (.goto (-22), 3) := by decide +kernel
theorem dX12_isAmong_27 : decode cX12_isAmong 27 = .ok (.iconst 0, 1) := by decide +kernel
theorem dX12_isAmong_28 : decode cX12_isAmong 28 = .ok (.ireturn, 1) := by decide +kernel
theorem tk_TrapCornerModel_99 : TK "TrapCornerModel" 99 yJ0_length_8abf5 0 := ⟨tw_1494, tw_496, tw_15, ⟨by decide, by decide⟩, by decide +kernel, tw_497⟩
theorem tk_TrapCornerModel_105 : TK "TrapCornerModel" 105 yJ0_charAt_5068e 1 := ⟨tw_1498, tw_1499, tw_15, ⟨by decide, by decide⟩, by decide +kernel, tw_1500⟩
section
variable {g : GG} {p : Program} {l : Launch} {e : Env} {R : Room} {s : State} {m : MethodId} {args : Array Value} {below : List Frame} {meth : Method} {c : Code} {n0 z0 : Nat}
def f_X12_isAmong_2  : Nat → Nat → Int32 → Int32 → AH → Option (Int32 × AH)
  | 0, _, _, _, _ => none
  | n + 1, o0, x1, x2, h =>
  (sStr o0).bind fun _ =>
  cN (f_J0_length_8abf5 o0 h) h fun v1 h2 =>
  if v1 ≤ x2 then
    some (0, h2)
  else
    (sStr o0).bind fun _ =>
    cN (f_J0_charAt_5068e o0 x2 h2) h2 fun v7 h8 =>
    if v7 = x1 then
      some (1, h8)
    else
      f_X12_isAmong_2  n o0 x1 (x2 + 1) h8
set_option maxHeartbeats 1000000 in
theorem w_X12_isAmong_2 (X : Cx g p s m args meth c cX12_isAmong 3 "TrapCornerModel") (hR : 5 ≤ R.frames ∧ 320 ≤ R.locals) (hr : meth.sig.returnType = (some (.boolean))) {res : Int32 × AH} : ∀ (n : Nat) (o0 : Nat) (x1 : Int32) (x2 : Int32) (h : AH) (ls : Array Slot) (H : Heap) (locs : List Loc), f_X12_isAmong_2 n o0 x1 x2 h = some res → Iv g s n0 z0 h H locs 0 0 → lv_has ls 3 [(0, .ref (rfG g o0)), (1, .int x1), (2, .int x2)] → W p l e R s m args below meth c H locs 0 0 (MQ below (QG g (some (.int res.1)) res.2) args s 0 0 (AG g)) (F0 m 2 ls []) := by
  have hx := X.1
  have hb := X.2.1
  intro n
  induction n with
  | zero =>
    intro o0 x1 x2 h ls H locs hf
    rw [f_X12_isAmong_2.eq_1] at hf
    cases hf
  | succ n ih =>
    intro o0 x1 x2 h ls H locs hf I hl
    rw [f_X12_isAmong_2.eq_2] at hf
    refine lv_iload_n hx hb dX12_isAmong_2 rfl (lv_at hl 2 rfl) ?_
    refine lv_aload_n hx hb dX12_isAmong_3 rfl (lv_at hl 0 rfl) ?_
    obtain ⟨_, g5, hf⟩ := Option.bind_eq_some_iff.mp hf
    obtain ⟨v1, h2, e3, z4, hf⟩ := cN_spec hf
    refine k_Ti (As := []) (rest := [.int x2]) X I (c_J0_length_8abf5 l g o0 e3) z4 g5 tk_TrapCornerModel_99 tw_498 ⟨Nat.le_trans (by decide) hR.1, Nat.le_trans (by decide) hR.2⟩ ⟨Nat.zero_le _, Nat.zero_le _⟩ rfl hl.1 rfl (Nat.le_of_ble_eq_true rfl) dX12_isAmong_4 (fun H locs I => ?_)
    refine lv_icmp_ge (tgt := 27) hx hb dX12_isAmong_7 (by decide) (fun c6 => ?_) (fun c6 => ?_)
    · rw [if_pos c6] at hf
      refine lv_iconst (v := 0) hx hb dX12_isAmong_27 (by decide) ?_
      cases hf
      exact k_rz X I hr (Or.inl rfl) dX12_isAmong_28
    · rw [if_neg c6] at hf
      refine lv_aload_n hx hb dX12_isAmong_10 rfl (lv_at hl 0 rfl) ?_
      refine lv_iload_n hx hb dX12_isAmong_11 rfl (lv_at hl 2 rfl) ?_
      obtain ⟨_, g11, hf⟩ := Option.bind_eq_some_iff.mp hf
      obtain ⟨v7, h8, e9, z10, hf⟩ := cN_spec hf
      refine k_Ti (As := [.int x2]) (rest := []) X I (c_J0_charAt_5068e l g o0 x2 e9) z10 g11 tk_TrapCornerModel_105 tw_1501 ⟨Nat.le_trans (by decide) hR.1, Nat.le_trans (by decide) hR.2⟩ ⟨Nat.zero_le _, Nat.zero_le _⟩ rfl hl.1 rfl (Nat.le_of_ble_eq_true rfl) dX12_isAmong_12 (fun H locs I => ?_)
      refine lv_iload_n hx hb dX12_isAmong_15 rfl (lv_at hl 1 rfl) ?_
      refine lv_icmp_ne (tgt := 21) hx hb dX12_isAmong_16 (by decide) (fun c12 => ?_) (fun c12 => ?_)
      · rw [if_neg c12] at hf
        refine lv_iinc (v := x2 + 1) (lv' := [(2, .int (x2 + 1)), (0, .ref (rfG g o0)), (1, .int x1)]) hx hb dX12_isAmong_21 hl (k := 2) rfl rfl (by decide) rfl (fun ls hl => ?_)
        refine lv_goto (tgt := 2) hx hb dX12_isAmong_24 (by decide) ?_
        exact ih o0 x1 (x2 + 1) h8 ls H locs hf I (lv_sub hl [1, 2, 0] rfl)
      · rw [if_pos c12] at hf
        refine lv_iconst (v := 1) hx hb dX12_isAmong_19 (by decide) ?_
        cases hf
        exact k_rz X I hr (Or.inr rfl) dX12_isAmong_20
def f_X12_isAmong_0  (o0 : Nat) (x1 : Int32) (h : AH) : Option (Int32 × AH) :=
  f_X12_isAmong_2 fu o0 x1 0 h
set_option maxHeartbeats 1000000 in
theorem w_X12_isAmong_0 (X : Cx g p s m args meth c cX12_isAmong 3 "TrapCornerModel") (hR : 5 ≤ R.frames ∧ 320 ≤ R.locals) (hr : meth.sig.returnType = (some (.boolean))) {res : Int32 × AH} : ∀ (o0 : Nat) (x1 : Int32) (h : AH) (ls : Array Slot) (H : Heap) (locs : List Loc), f_X12_isAmong_0 o0 x1 h = some res → Iv g s n0 z0 h H locs 0 0 → lv_has ls 3 [(0, .ref (rfG g o0)), (1, .int x1)] → W p l e R s m args below meth c H locs 0 0 (MQ below (QG g (some (.int res.1)) res.2) args s 0 0 (AG g)) (F0 m 0 ls []) := by
  have hx := X.1
  have hb := X.2.1
  intro o0 x1 h ls H locs hf I hl
  unfold f_X12_isAmong_0 at hf
  refine lv_iconst (v := 0) hx hb dX12_isAmong_0 (by decide) ?_
  refine lv_istore_n (lv' := [(2, .int 0), (0, .ref (rfG g o0)), (1, .int x1)]) hx hb dX12_isAmong_1 rfl hl (by decide) rfl (fun ls hl => ?_)
  exact w_X12_isAmong_2 X hR hr fu o0 x1 0 h ls H locs hf I (lv_sub hl [1, 2, 0] rfl)
def f_X12_isAmong (o0 : Nat) (x1 : Int32) (h : AH) : Option (Int32 × AH) := f_X12_isAmong_0 o0 x1 h
end
theorem c_X12_isAmong (l : Launch) (g : GG) (o0 : Nat) (x1 : Int32) {h : AH} {res : Int32 × AH} (hf : f_X12_isAmong o0 x1 h = some res) : CM l g yX12_isAmong cX12_isAmong 3 (some (.boolean)) 5 320 0 0 [.ref (rfG g o0), .int x1] h (some (.int res.1)) res.2 :=
  k_body (by decide) (Nat.le_of_ble_eq_true rfl) (fun p e s m below meth c R ls hR hr X I hl => w_X12_isAmong_0 X ⟨Nat.le_of_eq hR.1.symm, Nat.le_of_eq hR.2.1.symm⟩ hr o0 x1 h ls s.heap [] hf I (lv_sub hl [0, 1] rfl))
/-! TrapCornerModel.spotOf(Ljava/lang/String;I)I -/
theorem dX12_spotOf_0 : decode cX12_spotOf 0 = .ok (.iconst 0, 1) := by decide +kernel
theorem dX12_spotOf_1 : decode cX12_spotOf 1 = .ok (.istore_n 2, 1) := by decide +kernel
theorem dX12_spotOf_2 : decode cX12_spotOf 2 = .ok (.iload_n 2, 1) := by decide +kernel
theorem dX12_spotOf_3 : decode cX12_spotOf 3 = .ok (.aload_n 0, 1) := by decide +kernel
theorem dX12_spotOf_4 : decode cX12_spotOf 4 = .ok (.invokevirtual 99, 3) := by decide +kernel
theorem dX12_spotOf_7 : decode cX12_spotOf 7 = .ok (.if_icmp .ge 20, 3) := by decide +kernel
theorem dX12_spotOf_10 : decode cX12_spotOf 10 = .ok (.aload_n 0, 1) := by decide +kernel
theorem dX12_spotOf_11 : decode cX12_spotOf 11 = .ok (.iload_n 2, 1) := by decide +kernel
theorem dX12_spotOf_12 : decode cX12_spotOf 12 = .ok (.invokevirtual 105, 3) := by decide +kernel
theorem dX12_spotOf_15 : decode cX12_spotOf 15 = .ok (.iload_n 1, 1) := by decide +kernel
theorem dX12_spotOf_16 : decode cX12_spotOf 16 = .ok (.if_icmp .ne 5, 3) := by decide +kernel
theorem dX12_spotOf_19 : decode cX12_spotOf 19 = .ok (.iload_n 2, 1) := by decide +kernel
theorem dX12_spotOf_20 : decode cX12_spotOf 20 = .ok (.ireturn, 1) := by decide +kernel
theorem dX12_spotOf_21 : decode cX12_spotOf 21 = .ok (.iinc 2 1, 3) := by decide +kernel
theorem dX12_spotOf_24 : decode cX12_spotOf 24 = .ok (.goto (-22), 3) := by decide +kernel
theorem dX12_spotOf_27 : decode cX12_spotOf 27 = .ok (.iconst (-1), 1) := by decide +kernel
theorem dX12_spotOf_28 : decode cX12_spotOf 28 = .ok (.ireturn, 1) := by decide +kernel
section
variable {g : GG} {p : Program} {l : Launch} {e : Env} {R : Room} {s : State} {m : MethodId} {args : Array Value} {below : List Frame} {meth : Method} {c : Code} {n0 z0 : Nat}
def f_X12_spotOf_2  : Nat → Nat → Int32 → Int32 → AH → Option (Int32 × AH)
  | 0, _, _, _, _ => none
  | n + 1, o0, x1, x2, h =>
  (sStr o0).bind fun _ =>
  cN (f_J0_length_8abf5 o0 h) h fun v1 h2 =>
  if v1 ≤ x2 then
    some ((-1), h2)
  else
    (sStr o0).bind fun _ =>
    cN (f_J0_charAt_5068e o0 x2 h2) h2 fun v7 h8 =>
    if v7 = x1 then
      some (x2, h8)
    else
      f_X12_spotOf_2  n o0 x1 (x2 + 1) h8
set_option maxHeartbeats 1000000 in
theorem w_X12_spotOf_2 (X : Cx g p s m args meth c cX12_spotOf 3 "TrapCornerModel") (hR : 5 ≤ R.frames ∧ 320 ≤ R.locals) (hr : meth.sig.returnType = (some (.int))) {res : Int32 × AH} : ∀ (n : Nat) (o0 : Nat) (x1 : Int32) (x2 : Int32) (h : AH) (ls : Array Slot) (H : Heap) (locs : List Loc), f_X12_spotOf_2 n o0 x1 x2 h = some res → Iv g s n0 z0 h H locs 0 0 → lv_has ls 3 [(0, .ref (rfG g o0)), (1, .int x1), (2, .int x2)] → W p l e R s m args below meth c H locs 0 0 (MQ below (QG g (some (.int res.1)) res.2) args s 0 0 (AG g)) (F0 m 2 ls []) := by
  have hx := X.1
  have hb := X.2.1
  intro n
  induction n with
  | zero =>
    intro o0 x1 x2 h ls H locs hf
    rw [f_X12_spotOf_2.eq_1] at hf
    cases hf
  | succ n ih =>
    intro o0 x1 x2 h ls H locs hf I hl
    rw [f_X12_spotOf_2.eq_2] at hf
    refine lv_iload_n hx hb dX12_spotOf_2 rfl (lv_at hl 2 rfl) ?_
    refine lv_aload_n hx hb dX12_spotOf_3 rfl (lv_at hl 0 rfl) ?_
    obtain ⟨_, g5, hf⟩ := Option.bind_eq_some_iff.mp hf
    obtain ⟨v1, h2, e3, z4, hf⟩ := cN_spec hf
    refine k_Ti (As := []) (rest := [.int x2]) X I (c_J0_length_8abf5 l g o0 e3) z4 g5 tk_TrapCornerModel_99 tw_498 ⟨Nat.le_trans (by decide) hR.1, Nat.le_trans (by decide) hR.2⟩ ⟨Nat.zero_le _, Nat.zero_le _⟩ rfl hl.1 rfl (Nat.le_of_ble_eq_true rfl) dX12_spotOf_4 (fun H locs I => ?_)
    refine lv_icmp_ge (tgt := 27) hx hb dX12_spotOf_7 (by decide) (fun c6 => ?_) (fun c6 => ?_)
    · rw [if_pos c6] at hf
      refine lv_iconst (v := (-1)) hx hb dX12_spotOf_27 (by decide) ?_
      cases hf
      exact k_ri X I hr dX12_spotOf_28
    · rw [if_neg c6] at hf
      refine lv_aload_n hx hb dX12_spotOf_10 rfl (lv_at hl 0 rfl) ?_
      refine lv_iload_n hx hb dX12_spotOf_11 rfl (lv_at hl 2 rfl) ?_
      obtain ⟨_, g11, hf⟩ := Option.bind_eq_some_iff.mp hf
      obtain ⟨v7, h8, e9, z10, hf⟩ := cN_spec hf
      refine k_Ti (As := [.int x2]) (rest := []) X I (c_J0_charAt_5068e l g o0 x2 e9) z10 g11 tk_TrapCornerModel_105 tw_1501 ⟨Nat.le_trans (by decide) hR.1, Nat.le_trans (by decide) hR.2⟩ ⟨Nat.zero_le _, Nat.zero_le _⟩ rfl hl.1 rfl (Nat.le_of_ble_eq_true rfl) dX12_spotOf_12 (fun H locs I => ?_)
      refine lv_iload_n hx hb dX12_spotOf_15 rfl (lv_at hl 1 rfl) ?_
      refine lv_icmp_ne (tgt := 21) hx hb dX12_spotOf_16 (by decide) (fun c12 => ?_) (fun c12 => ?_)
      · rw [if_neg c12] at hf
        refine lv_iinc (v := x2 + 1) (lv' := [(2, .int (x2 + 1)), (0, .ref (rfG g o0)), (1, .int x1)]) hx hb dX12_spotOf_21 hl (k := 2) rfl rfl (by decide) rfl (fun ls hl => ?_)
        refine lv_goto (tgt := 2) hx hb dX12_spotOf_24 (by decide) ?_
        exact ih o0 x1 (x2 + 1) h8 ls H locs hf I (lv_sub hl [1, 2, 0] rfl)
      · rw [if_pos c12] at hf
        refine lv_iload_n hx hb dX12_spotOf_19 rfl (lv_at hl 2 rfl) ?_
        cases hf
        exact k_ri X I hr dX12_spotOf_20
def f_X12_spotOf_0  (o0 : Nat) (x1 : Int32) (h : AH) : Option (Int32 × AH) :=
  f_X12_spotOf_2 fu o0 x1 0 h
set_option maxHeartbeats 1000000 in
theorem w_X12_spotOf_0 (X : Cx g p s m args meth c cX12_spotOf 3 "TrapCornerModel") (hR : 5 ≤ R.frames ∧ 320 ≤ R.locals) (hr : meth.sig.returnType = (some (.int))) {res : Int32 × AH} : ∀ (o0 : Nat) (x1 : Int32) (h : AH) (ls : Array Slot) (H : Heap) (locs : List Loc), f_X12_spotOf_0 o0 x1 h = some res → Iv g s n0 z0 h H locs 0 0 → lv_has ls 3 [(0, .ref (rfG g o0)), (1, .int x1)] → W p l e R s m args below meth c H locs 0 0 (MQ below (QG g (some (.int res.1)) res.2) args s 0 0 (AG g)) (F0 m 0 ls []) := by
  have hx := X.1
  have hb := X.2.1
  intro o0 x1 h ls H locs hf I hl
  unfold f_X12_spotOf_0 at hf
  refine lv_iconst (v := 0) hx hb dX12_spotOf_0 (by decide) ?_
  refine lv_istore_n (lv' := [(2, .int 0), (0, .ref (rfG g o0)), (1, .int x1)]) hx hb dX12_spotOf_1 rfl hl (by decide) rfl (fun ls hl => ?_)
  exact w_X12_spotOf_2 X hR hr fu o0 x1 0 h ls H locs hf I (lv_sub hl [1, 2, 0] rfl)
def f_X12_spotOf (o0 : Nat) (x1 : Int32) (h : AH) : Option (Int32 × AH) := f_X12_spotOf_0 o0 x1 h
end
theorem c_X12_spotOf (l : Launch) (g : GG) (o0 : Nat) (x1 : Int32) {h : AH} {res : Int32 × AH} (hf : f_X12_spotOf o0 x1 h = some res) : CM l g yX12_spotOf cX12_spotOf 3 (some (.int)) 5 320 0 0 [.ref (rfG g o0), .int x1] h (some (.int res.1)) res.2 :=
  k_body (by decide) (Nat.le_of_ble_eq_true rfl) (fun p e s m below meth c R ls hR hr X I hl => w_X12_spotOf_0 X ⟨Nat.le_of_eq hR.1.symm, Nat.le_of_eq hR.2.1.symm⟩ hr o0 x1 h ls s.heap [] hf I (lv_sub hl [0, 1] rfl))
/-! TrapCornerModel.readItems(I[IILjava/lang/String;)V -/
theorem dX12_readItems_0 : decode cX12_readItems 0 = .ok (.iconst 0, 1) := by decide +kernel
theorem dX12_readItems_1 : decode cX12_readItems 1 = .ok (.istore 5, 2) := by decide +kernel
theorem dX12_readItems_3 : decode cX12_readItems 3 = .ok (.iload 5, 2) := by decide +kernel
theorem dX12_readItems_5 : decode cX12_readItems 5 = .ok (.aload 4, 2) := by decide +kernel
theorem dX12_readItems_7 : decode cX12_readItems 7 = .ok (.invokevirtual 99, 3) := by decide +kernel
theorem dX12_readItems_10 : decode cX12_readItems 10 = .ok (.if_icmp .ge 21, 3) := by decide +kernel
theorem dX12_readItems_13 : decode cX12_readItems 13 = .ok (.aload_n 2, 1) := by decide +kernel
theorem dX12_readItems_14 : decode cX12_readItems 14 = .ok (.iload_n 3, 1) := by decide +kernel
theorem dX12_readItems_15 : decode cX12_readItems 15 = .ok (.iload 5, 2) := by decide +kernel
theorem dX12_readItems_17 : decode cX12_readItems 17 = .ok (.iadd, 1) := by decide +kernel
theorem dX12_readItems_18 : decode cX12_readItems 18 = .ok (.iload_n 1, 1) := by decide +kernel
theorem dX12_readItems_19 : decode cX12_readItems 19 = .ok (.iload 5, 2) := by decide +kernel
theorem dX12_readItems_21 : decode cX12_readItems 21 = .ok (.invokestatic 221, 3) := by decide +kernel
theorem dX12_readItems_24 : decode cX12_readItems 24 = .ok (.iastore, 1) := by decide +kernel
theorem dX12_readItems_25 : decode cX12_readItems 25 = .ok (.iinc 5 1, 3) := by decide +kernel
theorem dX12_readItems_28 : decode cX12_readItems 28 = .ok (.goto (-25), 3) := by decide +kernel
theorem dX12_readItems_31 : decode cX12_readItems 31 = .ok (.iconst 0, 1) := by decide +kernel
theorem dX12_readItems_32 : decode cX12_readItems 32 = .ok (.istore 5, 2) := by decide +kernel
theorem dX12_readItems_34 : decode cX12_readItems 34 = .ok (.aload 4, 2) := by decide +kernel
theorem dX12_readItems_36 : decode cX12_readItems 36 = .ok (.aload_n 0, 1) := by decide +kernel
theorem dX12_readItems_37 : decode cX12_readItems 37 = .ok (.invokevirtual 138, 3) := by decide +kernel
theorem dX12_readItems_40 : decode cX12_readItems 40 = .ok (.invokestatic 225, 3) := by decide +kernel
theorem dX12_readItems_43 : decode cX12_readItems 43 = .ok (.istore 6, 2) := by decide +kernel
theorem dX12_readItems_45 : decode cX12_readItems 45 = .ok (.iload 6, 2) := by decide +kernel
theorem dX12_readItems_47 : decode cX12_readItems 47 = .ok (.iconst (-1), 1) := by decide +kernel
theorem dX12_readItems_48 : decode cX12_readItems 48 = .ok (.if_icmp .eq 90, 3) := by decide +kernel
theorem dX12_readItems_51 : decode cX12_readItems 51 = .ok (.aload_n 0, 1) := by decide +kernel
theorem dX12_readItems_52 : decode cX12_readItems 52 = .ok (.getfield 128, 3) := by decide +kernel
theorem dX12_readItems_55 : decode cX12_readItems 55 = .ok (.iconst (-1), 1) := by decide +kernel
theorem dX12_readItems_56 : decode cX12_readItems 56 = .ok (.if_icmp .ne 82, 3) := by decide +kernel
theorem dX12_readItems_59 : decode cX12_readItems 59 = .ok (.iload 5, 2) := by decide +kernel
theorem dX12_readItems_61 : decode cX12_readItems 61 = .ok (.iload 6, 2) := by decide +kernel
theorem dX12_readItems_63 : decode cX12_readItems 63 = .ok (.invokestatic 229, 3) := by decide +kernel
theorem dX12_readItems_66 : decode cX12_readItems 66 = .ok (.ifCond .eq 9, 3) := by decide +kernel
theorem dX12_readItems_69 : decode cX12_readItems 69 = .ok (.aload_n 0, 1) := by decide +kernel
theorem dX12_readItems_70 : decode cX12_readItems 70 = .ok (.invokevirtual 134, 3) := by decide +kernel
theorem dX12_readItems_73 : decode cX12_readItems 73 = .ok (.pop, 1) := by decide +kernel
theorem dX12_readItems_74 : decode cX12_readItems 74 = .ok (.return_, 1) := by decide +kernel
theorem dX12_readItems_75 : decode cX12_readItems 75 = .ok (.iload 5, 2) := by decide +kernel
theorem dX12_readItems_77 : decode cX12_readItems 77 = .ok (.iconst 1, 1) := by decide +kernel
theorem dX12_readItems_78 : decode cX12_readItems 78 = .ok (.iload 6, 2) := by decide +kernel
theorem dX12_readItems_80 : decode cX12_readItems 80 = .ok (.ishl, 1) := by decide +kernel
theorem dX12_readItems_81 : decode cX12_readItems 81 = .ok (.ior, 1) := by decide +kernel
theorem dX12_readItems_82 : decode cX12_readItems 82 = .ok (.istore 5, 2) := by decide +kernel
theorem dX12_readItems_84 : decode cX12_readItems 84 = .ok (.aload_n 0, 1) := by decide +kernel
theorem dX12_readItems_85 : decode cX12_readItems 85 = .ok (.dup, 1) := by decide +kernel
theorem dX12_readItems_86 : decode cX12_readItems 86 = .ok (.getfield 119, 3) := by decide +kernel
theorem dX12_readItems_89 : decode cX12_readItems 89 = .ok (.iconst 1, 1) := by decide +kernel
theorem dX12_readItems_90 : decode cX12_readItems 90 = .ok (.iadd, 1) := by decide +kernel
theorem dX12_readItems_91 : decode cX12_readItems 91 = .ok (.putfield 119, 3) := by decide +kernel
theorem dX12_readItems_94 : decode cX12_readItems 94 = .ok (.aload_n 2, 1) := by decide +kernel
theorem dX12_readItems_95 : decode cX12_readItems 95 = .ok (.iload_n 3, 1) := by decide +kernel
theorem dX12_readItems_96 : decode cX12_readItems 96 = .ok (.iload 6, 2) := by decide +kernel
theorem dX12_readItems_98 : decode cX12_readItems 98 = .ok (.iadd, 1) := by decide +kernel
theorem dX12_readItems_99 : decode cX12_readItems 99 = .ok (.aload_n 0, 1) := by decide +kernel
theorem dX12_readItems_100 : decode cX12_readItems 100 = .ok (.iload_n 1, 1) := by decide +kernel
theorem dX12_readItems_101 : decode cX12_readItems 101 = .ok (.iload 6, 2) := by decide +kernel
theorem dX12_readItems_103 : decode cX12_readItems 103 = .ok (.invokestatic 233, 3) := by decide +kernel
theorem dX12_readItems_106 : decode cX12_readItems 106 = .ok (.iload_n 1, 1) := by decide +kernel
theorem dX12_readItems_107 : decode cX12_readItems 107 = .ok (.iload 6, 2) := by decide +kernel
theorem dX12_readItems_109 : decode cX12_readItems 109 = .ok (.invokestatic 236, 3) := by decide +kernel
theorem dX12_readItems_112 : decode cX12_readItems 112 = .ok (.invokevirtual 239, 3) := by decide +kernel
theorem dX12_readItems_115 : decode cX12_readItems 115 = .ok (.iastore, 1) := by decide +kernel
theorem dX12_readItems_116 : decode cX12_readItems 116 = .ok (.aload_n 0, 1) := by decide +kernel
theorem dX12_readItems_117 : decode cX12_readItems 117 = .ok (.getfield 128, 3) := by decide +kernel
theorem dX12_readItems_120 : decode cX12_readItems 120 = .ok (.iconst (-1), 1) := by decide +kernel
theorem dX12_readItems_121 : decode cX12_readItems 121 = .ok (.if_icmp .ne (-76), 3) := by decide +kernel
theorem dX12_readItems_124 : decode cX12_readItems 124 = .ok (.aload 4, 2) := by decide +kernel
theorem dX12_readItems_126 : decode cX12_readItems 126 = .ok (.aload_n 0, 1) := by decide +kernel
theorem dX12_readItems_127 : decode cX12_readItems 127 = .ok (.invokevirtual 138, 3) := by decide +kernel
theorem dX12_readItems_130 : decode cX12_readItems 130 = .ok (.invokestatic 225, 3) := by decide +kernel
theorem dX12_readItems_133 : decode cX12_readItems 133 = .ok (.istore 6, 2) := by decide +kernel
theorem dX12_readItems_135 : decode cX12_readItems 135 = .ok (.goto (-90), 3) := by decide +kernel
theorem dX12_readItems_138 : decode cX12_readItems 138 = .ok (.return_, 1) := by decide +kernel
theorem sk_TrapCornerModel_229 : SK "TrapCornerModel" 229 yX12_has 2 := ⟨tw_1518, tw_1519, tw_13, ⟨by decide, by decide⟩, by decide +kernel⟩
theorem sk_TrapCornerModel_233 : SK "TrapCornerModel" 233 yX12_leastOf 2 := ⟨tw_1521, tw_1522, tw_13, ⟨by decide, by decide⟩, by decide +kernel⟩
theorem sk_TrapCornerModel_236 : SK "TrapCornerModel" 236 yX12_mostOf 2 := ⟨tw_1524, tw_1525, tw_13, ⟨by decide, by decide⟩, by decide +kernel⟩
theorem vk_TrapCornerModel_239 : VK "TrapCornerModel" 239 [12] yX12_number 2 := ⟨tw_1527, tw_1529, tw_13, ⟨by decide, by decide⟩, by decide +kernel, fun ci hci => by
  have hci := List.mem_singleton.mp hci
  subst hci
  exact ⟨_, rfl, tp_59⟩⟩
theorem sk_TrapCornerModel_225 : SK "TrapCornerModel" 225 yX12_spotOf 2 := ⟨tw_1495, tw_1496, tw_13, ⟨by decide, by decide⟩, by decide +kernel⟩
theorem sk_TrapCornerModel_221 : SK "TrapCornerModel" 221 yX12_usual 2 := ⟨tw_1474, tw_1475, tw_13, ⟨by decide, by decide⟩, by decide +kernel⟩
section
variable {g : GG} {p : Program} {l : Launch} {e : Env} {R : Room} {s : State} {m : MethodId} {args : Array Value} {below : List Frame} {meth : Method} {c : Code} {n0 z0 : Nat}
def f_X12_readItems_45  : Nat → Nat → Int32 → Nat → Int32 → Nat → Int32 → Int32 → AH → Option (Unit × AH)
  | 0, _, _, _, _, _, _, _, _ => none
  | n + 1, o0, x1, o2, x3, o4, x5, x6, h =>
  if x6 = ((-1)) then
    some ((), h)
  else
    (gI [12] h o0 11).bind fun v2 =>
    if v2 = ((-1)) then
      cN (f_X12_has x5 x6 h) h fun v5 h6 =>
      if v5 = 0 then
        (gI [12] h6 o0 10).bind fun v10 =>
        (pV [12] h6 o0 10 (.int (v10 + 1))).bind fun h12 =>
        cN (f_X12_leastOf x1 x6 h12) h12 fun v14 h15 =>
        cN (f_X12_mostOf x1 x6 h15) h15 fun v18 h19 =>
        (isC [12] h19 o0).bind fun _ =>
        cN (f_X12_number o0 v14 v18 h19) h19 fun v22 h23 =>
        (uI 0 h23 o2 (x3 + x6) v22).bind fun h27 =>
        (gI [12] h27 o0 11).bind fun v29 =>
        if v29 = ((-1)) then
          (isC [12] h27 o0).bind fun _ =>
          cN (f_X12_look o0 h27) h27 fun v32 h33 =>
          cN (f_X12_spotOf o4 v32 h33) h33 fun v37 h38 =>
          f_X12_readItems_45  n o0 x1 o2 x3 o4 (x5 ||| (1 <<< (x6 &&& 31))) v37 h38
        else
          f_X12_readItems_45  n o0 x1 o2 x3 o4 (x5 ||| (1 <<< (x6 &&& 31))) x6 h27
      else
        (isC [12] h6 o0).bind fun _ =>
        cN (f_X12_fails o0 h6) h6 fun v41 h42 =>
        some ((), h42)
    else
      some ((), h)
set_option maxHeartbeats 1000000 in
theorem w_X12_readItems_45 (X : Cx g p s m args meth c cX12_readItems 7 "TrapCornerModel") (hR : 6 ≤ R.frames ∧ 384 ≤ R.locals) (hr : meth.sig.returnType = none) {res : Unit × AH} : ∀ (n : Nat) (o0 : Nat) (x1 : Int32) (o2 : Nat) (x3 : Int32) (o4 : Nat) (x5 : Int32) (x6 : Int32) (h : AH) (ls : Array Slot) (H : Heap) (locs : List Loc), f_X12_readItems_45 n o0 x1 o2 x3 o4 x5 x6 h = some res → Iv g s n0 z0 h H locs 0 0 → lv_has ls 7 [(0, .ref (rfG g o0)), (1, .int x1), (2, .ref (rfG g o2)), (3, .int x3), (4, .ref (rfG g o4)), (5, .int x5), (6, .int x6)] → W p l e R s m args below meth c H locs 0 0 (MQ below (QG g none res.2) args s 0 0 (AG g)) (F0 m 45 ls []) := by
  have hx := X.1
  have hb := X.2.1
  intro n
  induction n with
  | zero =>
    intro o0 x1 o2 x3 o4 x5 x6 h ls H locs hf
    rw [f_X12_readItems_45.eq_1] at hf
    cases hf
  | succ n ih =>
    intro o0 x1 o2 x3 o4 x5 x6 h ls H locs hf I hl
    rw [f_X12_readItems_45.eq_2] at hf
    refine lv_iload hx hb dX12_readItems_45 (lv_at hl 6 rfl) ?_
    refine lv_iconst (v := (-1)) hx hb dX12_readItems_47 (by decide) ?_
    refine lv_icmp_eq (tgt := 138) hx hb dX12_readItems_48 (by decide) (fun c1 => ?_) (fun c1 => ?_)
    · rw [if_pos c1] at hf
      cases hf
      exact k_rv X I hr dX12_readItems_138
    · rw [if_neg c1] at hf
      refine lv_aload_n hx hb dX12_readItems_51 rfl (lv_at hl 0 rfl) ?_
      obtain ⟨v2, e3, hf⟩ := Option.bind_eq_some_iff.mp hf
      refine r_gI X I e3 lk_TrapCornerModel_128 dX12_readItems_52 ?_
      refine lv_iconst (v := (-1)) hx hb dX12_readItems_55 (by decide) ?_
      refine lv_icmp_ne (tgt := 138) hx hb dX12_readItems_56 (by decide) (fun c4 => ?_) (fun c4 => ?_)
      · rw [if_neg c4] at hf
        cases hf
        exact k_rv X I hr dX12_readItems_138
      · rw [if_pos c4] at hf
        refine lv_iload hx hb dX12_readItems_59 (lv_at hl 5 rfl) ?_
        refine lv_iload hx hb dX12_readItems_61 (lv_at hl 6 rfl) ?_
        obtain ⟨v5, h6, e7, z8, hf⟩ := cN_spec hf
        refine k_Si (As := [.int x5, .int x6]) (rest := []) X I (c_X12_has l g x5 x6 e7) z8 sk_TrapCornerModel_229 tw_1520 ⟨Nat.le_trans (by decide) hR.1, Nat.le_trans (by decide) hR.2⟩ ⟨Nat.zero_le _, Nat.zero_le _⟩ rfl hl.1 rfl (Nat.le_of_ble_eq_true rfl) dX12_readItems_63 (fun H locs I => ?_)
        refine lv_if_eq (tgt := 75) hx hb dX12_readItems_66 (by decide) (fun c9 => ?_) (fun c9 => ?_)
        · rw [if_pos c9] at hf
          refine lv_iload hx hb dX12_readItems_75 (lv_at hl 5 rfl) ?_
          refine lv_iconst (v := 1) hx hb dX12_readItems_77 (by decide) ?_
          refine lv_iload hx hb dX12_readItems_78 (lv_at hl 6 rfl) ?_
          refine lv_ishl hx hb dX12_readItems_80 ?_
          refine lv_ior hx hb dX12_readItems_81 ?_
          refine lv_istore (lv' := [(5, .int (x5 ||| (1 <<< (x6 &&& 31)))), (0, .ref (rfG g o0)), (1, .int x1), (2, .ref (rfG g o2)), (3, .int x3), (4, .ref (rfG g o4)), (6, .int x6)]) hx hb dX12_readItems_82 hl (by decide) rfl (fun ls hl => ?_)
          refine lv_aload_n hx hb dX12_readItems_84 rfl (lv_at hl 1 rfl) ?_
          refine lv_dup hx hb dX12_readItems_85 rfl ?_
          obtain ⟨v10, e11, hf⟩ := Option.bind_eq_some_iff.mp hf
          refine r_gI X I e11 lk_TrapCornerModel_119 dX12_readItems_86 ?_
          refine lv_iconst (v := 1) hx hb dX12_readItems_89 (by decide) ?_
          refine lv_iadd hx hb dX12_readItems_90 ?_
          obtain ⟨h12, e13, hf⟩ := Option.bind_eq_some_iff.mp hf
          refine r_pI X I e13 lp_TrapCornerModel_119 dX12_readItems_91 (fun H locs I => ?_)
          refine lv_aload_n hx hb dX12_readItems_94 rfl (lv_at hl 3 rfl) ?_
          refine lv_iload_n hx hb dX12_readItems_95 rfl (lv_at hl 4 rfl) ?_
          refine lv_iload hx hb dX12_readItems_96 (lv_at hl 6 rfl) ?_
          refine lv_iadd hx hb dX12_readItems_98 ?_
          refine lv_aload_n hx hb dX12_readItems_99 rfl (lv_at hl 1 rfl) ?_
          refine lv_iload_n hx hb dX12_readItems_100 rfl (lv_at hl 2 rfl) ?_
          refine lv_iload hx hb dX12_readItems_101 (lv_at hl 6 rfl) ?_
          obtain ⟨v14, h15, e16, z17, hf⟩ := cN_spec hf
          refine k_Si (As := [.int x1, .int x6]) (rest := [.ref (rfG g o0), .int (x3 + x6), .ref (rfG g o2)]) X I (c_X12_leastOf l g x1 x6 e16) z17 sk_TrapCornerModel_233 tw_1523 ⟨Nat.le_trans (by decide) hR.1, Nat.le_trans (by decide) hR.2⟩ ⟨Nat.zero_le _, Nat.zero_le _⟩ rfl hl.1 rfl (Nat.le_of_ble_eq_true rfl) dX12_readItems_103 (fun H locs I => ?_)
          refine lv_iload_n hx hb dX12_readItems_106 rfl (lv_at hl 2 rfl) ?_
          refine lv_iload hx hb dX12_readItems_107 (lv_at hl 6 rfl) ?_
          obtain ⟨v18, h19, e20, z21, hf⟩ := cN_spec hf
          refine k_Si (As := [.int x1, .int x6]) (rest := [.int v14, .ref (rfG g o0), .int (x3 + x6), .ref (rfG g o2)]) X I (c_X12_mostOf l g x1 x6 e20) z21 sk_TrapCornerModel_236 tw_1526 ⟨Nat.le_trans (by decide) hR.1, Nat.le_trans (by decide) hR.2⟩ ⟨Nat.zero_le _, Nat.zero_le _⟩ rfl hl.1 rfl (Nat.le_of_ble_eq_true rfl) dX12_readItems_109 (fun H locs I => ?_)
          obtain ⟨_, g26, hf⟩ := Option.bind_eq_some_iff.mp hf
          obtain ⟨v22, h23, e24, z25, hf⟩ := cN_spec hf
          refine k_Vi (As := [.int v14, .int v18]) (rest := [.int (x3 + x6), .ref (rfG g o2)]) X I (c_X12_number l g o0 v14 v18 e24) z25 g26 vk_TrapCornerModel_239 tw_1530 ⟨Nat.le_trans (by decide) hR.1, Nat.le_trans (by decide) hR.2⟩ ⟨Nat.zero_le _, Nat.zero_le _⟩ rfl hl.1 rfl (Nat.le_of_ble_eq_true rfl) dX12_readItems_112 (fun H locs I => ?_)
          obtain ⟨h27, e28, hf⟩ := Option.bind_eq_some_iff.mp hf
          refine r_uI0 X I e28 dX12_readItems_115 (fun H locs I => ?_)
          refine lv_aload_n hx hb dX12_readItems_116 rfl (lv_at hl 1 rfl) ?_
          obtain ⟨v29, e30, hf⟩ := Option.bind_eq_some_iff.mp hf
          refine r_gI X I e30 lk_TrapCornerModel_128 dX12_readItems_117 ?_
          refine lv_iconst (v := (-1)) hx hb dX12_readItems_120 (by decide) ?_
          refine lv_icmp_ne (tgt := 45) hx hb dX12_readItems_121 (by decide) (fun c31 => ?_) (fun c31 => ?_)
          · rw [if_neg c31] at hf
            exact ih o0 x1 o2 x3 o4 (x5 ||| (1 <<< (x6 &&& 31))) x6 h27 ls H locs hf I (lv_sub hl [1, 2, 3, 4, 5, 0, 6] rfl)
          · rw [if_pos c31] at hf
            refine lv_aload hx hb dX12_readItems_124 (lv_at hl 5 rfl) ?_
            refine lv_aload_n hx hb dX12_readItems_126 rfl (lv_at hl 1 rfl) ?_
            obtain ⟨_, g36, hf⟩ := Option.bind_eq_some_iff.mp hf
            obtain ⟨v32, h33, e34, z35, hf⟩ := cN_spec hf
            refine k_Vi (As := []) (rest := [.ref (rfG g o4)]) X I (c_X12_look l g o0 e34) z35 g36 vk_TrapCornerModel_138 tw_1484 ⟨Nat.le_trans (by decide) hR.1, Nat.le_trans (by decide) hR.2⟩ ⟨Nat.zero_le _, Nat.zero_le _⟩ rfl hl.1 rfl (Nat.le_of_ble_eq_true rfl) dX12_readItems_127 (fun H locs I => ?_)
            obtain ⟨v37, h38, e39, z40, hf⟩ := cN_spec hf
            refine k_Si (As := [.ref (rfG g o4), .int v32]) (rest := []) X I (c_X12_spotOf l g o4 v32 e39) z40 sk_TrapCornerModel_225 tw_1497 ⟨Nat.le_trans (by decide) hR.1, Nat.le_trans (by decide) hR.2⟩ ⟨Nat.zero_le _, Nat.zero_le _⟩ rfl hl.1 rfl (Nat.le_of_ble_eq_true rfl) dX12_readItems_130 (fun H locs I => ?_)
            refine lv_istore (lv' := [(6, .int v37), (5, .int (x5 ||| (1 <<< (x6 &&& 31)))), (0, .ref (rfG g o0)), (1, .int x1), (2, .ref (rfG g o2)), (3, .int x3), (4, .ref (rfG g o4))]) hx hb dX12_readItems_133 hl (by decide) rfl (fun ls hl => ?_)
            refine lv_goto (tgt := 45) hx hb dX12_readItems_135 (by decide) ?_
            exact ih o0 x1 o2 x3 o4 (x5 ||| (1 <<< (x6 &&& 31))) v37 h38 ls H locs hf I (lv_sub hl [2, 3, 4, 5, 6, 1, 0] rfl)
        · rw [if_neg c9] at hf
          refine lv_aload_n hx hb dX12_readItems_69 rfl (lv_at hl 0 rfl) ?_
          obtain ⟨_, g45, hf⟩ := Option.bind_eq_some_iff.mp hf
          obtain ⟨v41, h42, e43, z44, hf⟩ := cN_spec hf
          refine k_Vi (As := []) (rest := []) X I (c_X12_fails l g o0 e43) z44 g45 vk_TrapCornerModel_134 tw_1488 ⟨Nat.le_trans (by decide) hR.1, Nat.le_trans (by decide) hR.2⟩ ⟨Nat.zero_le _, Nat.zero_le _⟩ rfl hl.1 rfl (Nat.le_of_ble_eq_true rfl) dX12_readItems_70 (fun H locs I => ?_)
          refine lv_pop hx hb dX12_readItems_73 rfl ?_
          cases hf
          exact k_rv X I hr dX12_readItems_74
def f_X12_readItems_3  : Nat → Nat → Int32 → Nat → Int32 → Nat → Int32 → AH → Option (Unit × AH)
  | 0, _, _, _, _, _, _, _ => none
  | n + 1, o0, x1, o2, x3, o4, x5, h =>
  (sStr o4).bind fun _ =>
  cN (f_J0_length_8abf5 o4 h) h fun v1 h2 =>
  if v1 ≤ x5 then
    (isC [12] h2 o0).bind fun _ =>
    cN (f_X12_look o0 h2) h2 fun v7 h8 =>
    cN (f_X12_spotOf o4 v7 h8) h8 fun v12 h13 =>
    f_X12_readItems_45 fu o0 x1 o2 x3 o4 0 v12 h13
  else
    cN (f_X12_usual x1 x5 h2) h2 fun v16 h17 =>
    (uI 0 h17 o2 (x3 + x5) v16).bind fun h20 =>
    f_X12_readItems_3  n o0 x1 o2 x3 o4 (x5 + 1) h20
set_option maxHeartbeats 1000000 in
theorem w_X12_readItems_3 (X : Cx g p s m args meth c cX12_readItems 7 "TrapCornerModel") (hR : 6 ≤ R.frames ∧ 384 ≤ R.locals) (hr : meth.sig.returnType = none) {res : Unit × AH} : ∀ (n : Nat) (o0 : Nat) (x1 : Int32) (o2 : Nat) (x3 : Int32) (o4 : Nat) (x5 : Int32) (h : AH) (ls : Array Slot) (H : Heap) (locs : List Loc), f_X12_readItems_3 n o0 x1 o2 x3 o4 x5 h = some res → Iv g s n0 z0 h H locs 0 0 → lv_has ls 7 [(0, .ref (rfG g o0)), (1, .int x1), (2, .ref (rfG g o2)), (3, .int x3), (4, .ref (rfG g o4)), (5, .int x5)] → W p l e R s m args below meth c H locs 0 0 (MQ below (QG g none res.2) args s 0 0 (AG g)) (F0 m 3 ls []) := by
  have hx := X.1
  have hb := X.2.1
  intro n
  induction n with
  | zero =>
    intro o0 x1 o2 x3 o4 x5 h ls H locs hf
    rw [f_X12_readItems_3.eq_1] at hf
    cases hf
  | succ n ih =>
    intro o0 x1 o2 x3 o4 x5 h ls H locs hf I hl
    rw [f_X12_readItems_3.eq_2] at hf
    refine lv_iload hx hb dX12_readItems_3 (lv_at hl 5 rfl) ?_
    refine lv_aload hx hb dX12_readItems_5 (lv_at hl 4 rfl) ?_
    obtain ⟨_, g5, hf⟩ := Option.bind_eq_some_iff.mp hf
    obtain ⟨v1, h2, e3, z4, hf⟩ := cN_spec hf
    refine k_Ti (As := []) (rest := [.int x5]) X I (c_J0_length_8abf5 l g o4 e3) z4 g5 tk_TrapCornerModel_99 tw_498 ⟨Nat.le_trans (by decide) hR.1, Nat.le_trans (by decide) hR.2⟩ ⟨Nat.zero_le _, Nat.zero_le _⟩ rfl hl.1 rfl (Nat.le_of_ble_eq_true rfl) dX12_readItems_7 (fun H locs I => ?_)
    refine lv_icmp_ge (tgt := 31) hx hb dX12_readItems_10 (by decide) (fun c6 => ?_) (fun c6 => ?_)
    · rw [if_pos c6] at hf
      refine lv_iconst (v := 0) hx hb dX12_readItems_31 (by decide) ?_
      refine lv_istore (lv' := [(5, .int 0), (0, .ref (rfG g o0)), (1, .int x1), (2, .ref (rfG g o2)), (3, .int x3), (4, .ref (rfG g o4))]) hx hb dX12_readItems_32 hl (by decide) rfl (fun ls hl => ?_)
      refine lv_aload hx hb dX12_readItems_34 (lv_at hl 5 rfl) ?_
      refine lv_aload_n hx hb dX12_readItems_36 rfl (lv_at hl 1 rfl) ?_
      obtain ⟨_, g11, hf⟩ := Option.bind_eq_some_iff.mp hf
      obtain ⟨v7, h8, e9, z10, hf⟩ := cN_spec hf
      refine k_Vi (As := []) (rest := [.ref (rfG g o4)]) X I (c_X12_look l g o0 e9) z10 g11 vk_TrapCornerModel_138 tw_1484 ⟨Nat.le_trans (by decide) hR.1, Nat.le_trans (by decide) hR.2⟩ ⟨Nat.zero_le _, Nat.zero_le _⟩ rfl hl.1 rfl (Nat.le_of_ble_eq_true rfl) dX12_readItems_37 (fun H locs I => ?_)
      obtain ⟨v12, h13, e14, z15, hf⟩ := cN_spec hf
      refine k_Si (As := [.ref (rfG g o4), .int v7]) (rest := []) X I (c_X12_spotOf l g o4 v7 e14) z15 sk_TrapCornerModel_225 tw_1497 ⟨Nat.le_trans (by decide) hR.1, Nat.le_trans (by decide) hR.2⟩ ⟨Nat.zero_le _, Nat.zero_le _⟩ rfl hl.1 rfl (Nat.le_of_ble_eq_true rfl) dX12_readItems_40 (fun H locs I => ?_)
      refine lv_istore (lv' := [(6, .int v12), (5, .int 0), (0, .ref (rfG g o0)), (1, .int x1), (2, .ref (rfG g o2)), (3, .int x3), (4, .ref (rfG g o4))]) hx hb dX12_readItems_43 hl (by decide) rfl (fun ls hl => ?_)
      exact w_X12_readItems_45 X hR hr fu o0 x1 o2 x3 o4 0 v12 h13 ls H locs hf I (lv_sub hl [2, 3, 4, 5, 6, 1, 0] rfl)
    · rw [if_neg c6] at hf
      refine lv_aload_n hx hb dX12_readItems_13 rfl (lv_at hl 2 rfl) ?_
      refine lv_iload_n hx hb dX12_readItems_14 rfl (lv_at hl 3 rfl) ?_
      refine lv_iload hx hb dX12_readItems_15 (lv_at hl 5 rfl) ?_
      refine lv_iadd hx hb dX12_readItems_17 ?_
      refine lv_iload_n hx hb dX12_readItems_18 rfl (lv_at hl 1 rfl) ?_
      refine lv_iload hx hb dX12_readItems_19 (lv_at hl 5 rfl) ?_
      obtain ⟨v16, h17, e18, z19, hf⟩ := cN_spec hf
      refine k_Si (As := [.int x1, .int x5]) (rest := [.int (x3 + x5), .ref (rfG g o2)]) X I (c_X12_usual l g x1 x5 e18) z19 sk_TrapCornerModel_221 tw_1476 ⟨Nat.le_trans (by decide) hR.1, Nat.le_trans (by decide) hR.2⟩ ⟨Nat.zero_le _, Nat.zero_le _⟩ rfl hl.1 rfl (Nat.le_of_ble_eq_true rfl) dX12_readItems_21 (fun H locs I => ?_)
      obtain ⟨h20, e21, hf⟩ := Option.bind_eq_some_iff.mp hf
      refine r_uI0 X I e21 dX12_readItems_24 (fun H locs I => ?_)
      refine lv_iinc (v := x5 + 1) (lv' := [(5, .int (x5 + 1)), (0, .ref (rfG g o0)), (1, .int x1), (2, .ref (rfG g o2)), (3, .int x3), (4, .ref (rfG g o4))]) hx hb dX12_readItems_25 hl (k := 5) rfl rfl (by decide) rfl (fun ls hl => ?_)
      refine lv_goto (tgt := 3) hx hb dX12_readItems_28 (by decide) ?_
      exact ih o0 x1 o2 x3 o4 (x5 + 1) h20 ls H locs hf I (lv_sub hl [1, 2, 3, 4, 5, 0] rfl)
def f_X12_readItems_0  (o0 : Nat) (x1 : Int32) (o2 : Nat) (x3 : Int32) (o4 : Nat) (h : AH) : Option (Unit × AH) :=
  f_X12_readItems_3 fu o0 x1 o2 x3 o4 0 h
set_option maxHeartbeats 1000000 in
theorem w_X12_readItems_0 (X : Cx g p s m args meth c cX12_readItems 7 "TrapCornerModel") (hR : 6 ≤ R.frames ∧ 384 ≤ R.locals) (hr : meth.sig.returnType = none) {res : Unit × AH} : ∀ (o0 : Nat) (x1 : Int32) (o2 : Nat) (x3 : Int32) (o4 : Nat) (h : AH) (ls : Array Slot) (H : Heap) (locs : List Loc), f_X12_readItems_0 o0 x1 o2 x3 o4 h = some res → Iv g s n0 z0 h H locs 0 0 → lv_has ls 7 [(0, .ref (rfG g o0)), (1, .int x1), (2, .ref (rfG g o2)), (3, .int x3), (4, .ref (rfG g o4))] → W p l e R s m args below meth c H locs 0 0 (MQ below (QG g none res.2) args s 0 0 (AG g)) (F0 m 0 ls []) := by
  have hx := X.1
  have hb := X.2.1
  intro o0 x1 o2 x3 o4 h ls H locs hf I hl
  unfold f_X12_readItems_0 at hf
  refine lv_iconst (v := 0) hx hb dX12_readItems_0 (by decide) ?_
  refine lv_istore (lv' := [(5, .int 0), (0, .ref (rfG g o0)), (1, .int x1), (2, .ref (rfG g o2)), (3, .int x3), (4, .ref (rfG g o4))]) hx hb dX12_readItems_1 hl (by decide) rfl (fun ls hl => ?_)
  exact w_X12_readItems_3 X hR hr fu o0 x1 o2 x3 o4 0 h ls H locs hf I (lv_sub hl [1, 2, 3, 4, 5, 0] rfl)
def f_X12_readItems (o0 : Nat) (x1 : Int32) (o2 : Nat) (x3 : Int32) (o4 : Nat) (h : AH) : Option (Unit × AH) := f_X12_readItems_0 o0 x1 o2 x3 o4 h
end
theorem c_X12_readItems (l : Launch) (g : GG) (o0 : Nat) (x1 : Int32) (o2 : Nat) (x3 : Int32) (o4 : Nat) {h : AH} {res : Unit × AH} (hf : f_X12_readItems o0 x1 o2 x3 o4 h = some res) : CM l g yX12_readItems cX12_readItems 7 none 6 384 0 0 [.ref (rfG g o0), .int x1, .ref (rfG g o2), .int x3, .ref (rfG g o4)] h none res.2 :=
  k_body (by decide) (Nat.le_of_ble_eq_true rfl) (fun p e s m below meth c R ls hR hr X I hl => w_X12_readItems_0 X ⟨Nat.le_of_eq hR.1.symm, Nat.le_of_eq hR.2.1.symm⟩ hr o0 x1 o2 x3 o4 h ls s.heap [] hf I (lv_sub hl [0, 1, 2, 3, 4] rfl))
/-! TrapCornerModel.readClause()V -/
theorem dX12_readClause_0 : decode cX12_readClause 0 = .ok (.aload_n 0, 1) := by decide +kernel
theorem dX12_readClause_1 : decode cX12_readClause 1 = .ok (.invokevirtual 138, 3) := by decide +kernel
theorem dX12_readClause_4 : decode cX12_readClause 4 = .ok (.istore_n 1, 1) := by decide +kernel
theorem dX12_readClause_5 : decode cX12_readClause 5 = .ok (.iload_n 1, 1) := by decide +kernel
theorem dX12_readClause_6 : decode cX12_readClause 6 = .ok (.bipush 115, 2) := by decide +kernel
theorem dX12_readClause_8 : decode cX12_readClause 8 = .ok (.if_icmp .ne 10, 3) := by decide +kernel
theorem dX12_readClause_11 : decode cX12_readClause 11 = .ok (.aload_n 0, 1) := by decide +kernel
theorem dX12_readClause_12 : decode cX12_readClause 12 = .ok (.getfield 242, 3) := by decide +kernel
theorem dX12_readClause_15 : decode cX12_readClause 15 = .ok (.ifCond .eq 32, 3) := by decide +kernel
theorem dX12_readClause_18 : decode cX12_readClause 18 = .ok (.iload_n 1, 1) := by decide +kernel
theorem dX12_readClause_19 : decode cX12_readClause 19 = .ok (.bipush 99, 2) := by decide +kernel
theorem dX12_readClause_21 : decode cX12_readClause 21 = .ok (.if_icmp .ne 11, 3) := by decide +kernel
theorem dX12_readClause_24 : decode cX12_readClause 24 = .ok (.aload_n 0, 1) := by decide +kernel
theorem dX12_readClause_25 : decode cX12_readClause 25 = .ok (.getfield 245, 3) := by decide +kernel
theorem dX12_readClause_28 : decode cX12_readClause 28 = .ok (.iconst 5, 1) := by decide +kernel
theorem dX12_readClause_29 : decode cX12_readClause 29 = .ok (.if_icmp .lt 18, 3) := by decide +kernel
theorem dX12_readClause_32 : decode cX12_readClause 32 = .ok (.iload_n 1, 1) := by decide +kernel
theorem dX12_readClause_33 : decode cX12_readClause 33 = .ok (.bipush 112, 2) := by decide +kernel
theorem dX12_readClause_35 : decode cX12_readClause 35 = .ok (.if_icmp .ne 16, 3) := by decide +kernel
theorem dX12_readClause_38 : decode cX12_readClause 38 = .ok (.aload_n 0, 1) := by decide +kernel
theorem dX12_readClause_39 : decode cX12_readClause 39 = .ok (.getfield 248, 3) := by decide +kernel
theorem dX12_readClause_42 : decode cX12_readClause 42 = .ok (.bipush 6, 2) := by decide +kernel
theorem dX12_readClause_44 : decode cX12_readClause 44 = .ok (.if_icmp .ge 7, 3) := by decide +kernel
theorem dX12_readClause_47 : decode cX12_readClause 47 = .ok (.iconst 1, 1) := by decide +kernel
theorem dX12_readClause_48 : decode cX12_readClause 48 = .ok (.goto 4, 3) := by decide +kernel
theorem dX12_readClause_51 : decode cX12_readClause 51 = .ok (.iconst 0, 1) := by decide +kernel
theorem dX12_readClause_52 : decode cX12_readClause 52 = .ok (.istore_n 2, 1) := by decide +kernel
theorem dX12_readClause_53 : decode cX12_readClause 53 = .ok (.iload_n 2, 1) := by decide +kernel
theorem dX12_readClause_54 : decode cX12_readClause 54 = .ok (.ifCond .ne 9, 3) := by decide +kernel
theorem dX12_readClause_57 : decode cX12_readClause 57 = .ok (.aload_n 0, 1) := by decide +kernel
theorem dX12_readClause_58 : decode cX12_readClause 58 = .ok (.invokevirtual 134, 3) := by decide +kernel
theorem dX12_readClause_61 : decode cX12_readClause 61 = .ok (.pop, 1) := by decide +kernel
theorem dX12_readClause_62 : decode cX12_readClause 62 = .ok (.return_, 1) := by decide +kernel
theorem dX12_readClause_63 : decode cX12_readClause 63 = .ok (.aload_n 0, 1) := by decide +kernel
theorem dX12_readClause_64 : decode cX12_readClause 64 = .ok (.dup, 1) := by decide +kernel
theorem dX12_readClause_65 : decode cX12_readClause 65 = .ok (.getfield 119, 3) := by decide +kernel
theorem dX12_readClause_68 : decode cX12_readClause 68 = .ok (.iconst 1, 1) := by decide +kernel
theorem dX12_readClause_69 : decode cX12_readClause 69 = .ok (.iadd, 1) := by decide +kernel
theorem dX12_readClause_70 : decode cX12_readClause 70 = .ok (.putfield 119, 3) := by decide +kernel
theorem dX12_readClause_73 : decode cX12_readClause 73 = .ok (.iload_n 1, 1) := by decide +kernel
theorem dX12_readClause_74 : decode cX12_readClause 74 = .ok (.bipush 115, 2) := by decide +kernel
theorem dX12_readClause_76 : decode cX12_readClause 76 = .ok (.if_icmp .ne 23, 3) := by decide +kernel
theorem dX12_readClause_79 : decode cX12_readClause 79 = .ok (.aload_n 0, 1) := by decide +kernel
theorem dX12_readClause_80 : decode cX12_readClause 80 = .ok (.iconst 1, 1) := by decide +kernel
theorem dX12_readClause_81 : decode cX12_readClause 81 = .ok (.putfield 242, 3) := by decide +kernel
theorem dX12_readClause_84 : decode cX12_readClause 84 = .ok (.aload_n 0, 1) := by decide +kernel
theorem dX12_readClause_85 : decode cX12_readClause 85 = .ok (.iload_n 1, 1) := by decide +kernel
theorem dX12_readClause_86 : decode cX12_readClause 86 = .ok (.aload_n 0, 1) := by decide +kernel
theorem dX12_readClause_87 : decode cX12_readClause 87 = .ok (.getfield 40, 3) := by decide +kernel
theorem dX12_readClause_90 : decode cX12_readClause 90 = .ok (.iconst 0, 1) := by decide +kernel
theorem dX12_readClause_91 : decode cX12_readClause 91 = .ok (.ldc 251, 2) := by decide +kernel
theorem dX12_readClause_93 : decode cX12_readClause 93 = .ok (.invokevirtual 253, 3) := by decide +kernel
theorem dX12_readClause_96 : decode cX12_readClause 96 = .ok (.goto 73, 3) := by decide +kernel
theorem dX12_readClause_99 : decode cX12_readClause 99 = .ok (.iload_n 1, 1) := by decide +kernel
theorem dX12_readClause_100 : decode cX12_readClause 100 = .ok (.bipush 99, 2) := by decide +kernel
theorem dX12_readClause_102 : decode cX12_readClause 102 = .ok (.if_icmp .ne 36, 3) := by decide +kernel
theorem dX12_readClause_105 : decode cX12_readClause 105 = .ok (.aload_n 0, 1) := by decide +kernel
theorem dX12_readClause_106 : decode cX12_readClause 106 = .ok (.dup, 1) := by decide +kernel
theorem dX12_readClause_107 : decode cX12_readClause 107 = .ok (.getfield 245, 3) := by decide +kernel
theorem dX12_readClause_110 : decode cX12_readClause 110 = .ok (.iconst 1, 1) := by decide +kernel
theorem dX12_readClause_111 : decode cX12_readClause 111 = .ok (.iadd, 1) := by decide +kernel
theorem dX12_readClause_112 : decode cX12_readClause 112 = .ok (.putfield 245, 3) := by decide +kernel
theorem dX12_readClause_115 : decode cX12_readClause 115 = .ok (.aload_n 0, 1) := by decide +kernel
theorem dX12_readClause_116 : decode cX12_readClause 116 = .ok (.iload_n 1, 1) := by decide +kernel
theorem dX12_readClause_117 : decode cX12_readClause 117 = .ok (.aload_n 0, 1) := by decide +kernel
theorem dX12_readClause_118 : decode cX12_readClause 118 = .ok (.getfield 46, 3) := by decide +kernel
theorem dX12_readClause_121 : decode cX12_readClause 121 = .ok (.iconst 2, 1) := by decide +kernel
theorem dX12_readClause_122 : decode cX12_readClause 122 = .ok (.aload_n 0, 1) := by decide +kernel
theorem dX12_readClause_123 : decode cX12_readClause 123 = .ok (.getfield 245, 3) := by decide +kernel
theorem dX12_readClause_126 : decode cX12_readClause 126 = .ok (.iconst 1, 1) := by decide +kernel
theorem dX12_readClause_127 : decode cX12_readClause 127 = .ok (.isub, 1) := by decide +kernel
theorem dX12_readClause_128 : decode cX12_readClause 128 = .ok (.imul, 1) := by decide +kernel
theorem dX12_readClause_129 : decode cX12_readClause 129 = .ok (.ldc_w 257, 3) := by decide +kernel
theorem dX12_readClause_132 : decode cX12_readClause 132 = .ok (.invokevirtual 253, 3) := by decide +kernel
theorem dX12_readClause_135 : decode cX12_readClause 135 = .ok (.goto 34, 3) := by decide +kernel
theorem dX12_readClause_138 : decode cX12_readClause 138 = .ok (.aload_n 0, 1) := by decide +kernel
theorem dX12_readClause_139 : decode cX12_readClause 139 = .ok (.dup, 1) := by decide +kernel
theorem dX12_readClause_140 : decode cX12_readClause 140 = .ok (.getfield 248, 3) := by decide +kernel
theorem dX12_readClause_143 : decode cX12_readClause 143 = .ok (.iconst 1, 1) := by decide +kernel
theorem dX12_readClause_144 : decode cX12_readClause 144 = .ok (.iadd, 1) := by decide +kernel
theorem dX12_readClause_145 : decode cX12_readClause 145 = .ok (.putfield 248, 3) := by decide +kernel
theorem dX12_readClause_148 : decode cX12_readClause 148 = .ok (.aload_n 0, 1) := by decide +kernel
theorem dX12_readClause_149 : decode cX12_readClause 149 = .ok (.iload_n 1, 1) := by decide +kernel
theorem dX12_readClause_150 : decode cX12_readClause 150 = .ok (.aload_n 0, 1) := by decide +kernel
theorem dX12_readClause_151 : decode cX12_readClause 151 = .ok (.getfield 52, 3) := by decide +kernel
theorem dX12_readClause_154 : decode cX12_readClause 154 = .ok (.bipush 6, 2) := by decide +kernel
theorem dX12_readClause_156 : decode cX12_readClause 156 = .ok (.aload_n 0, 1) := by decide +kernel
theorem dX12_readClause_157 : decode cX12_readClause 157 = .ok (.getfield 248, 3) := by decide +kernel
theorem dX12_readClause_160 : decode cX12_readClause 160 = .ok (.iconst 1, 1) := by decide +kernel
theorem dX12_readClause_161 : decode cX12_readClause 161 = .ok (.isub, 1) := by decide +kernel
theorem dX12_readClause_162 : decode cX12_readClause 162 = .ok (.imul, 1) := by decide +kernel
theorem dX12_readClause_163 : decode cX12_readClause 163 = .ok (.ldc_w 259, 3) := by decide +kernel
theorem dX12_readClause_166 : decode cX12_readClause 166 = .ok (.invokevirtual 253, 3) := by decide +kernel
theorem dX12_readClause_169 : decode cX12_readClause 169 = .ok (.return_, 1) := by decide +kernel
theorem lp_TrapCornerModel_248 : LKP "TrapCornerModel" 248 [12] 29 (.int) := by
  intro ci hci
  have hci := List.mem_singleton.mp hci
  subst hci
  exact ⟨RX12, TX12, 50, "TrapCornerModel", ck_12, by decide, tw_1316, Or.inl rfl, rfl, by decide +kernel⟩
theorem vk_TrapCornerModel_253 : VK "TrapCornerModel" 253 [12] yX12_readItems 4 := ⟨tw_1490, tw_1492, tw_13, ⟨by decide, by decide⟩, by decide +kernel, fun ci hci => by
  have hci := List.mem_singleton.mp hci
  subst hci
  exact ⟨_, rfl, tp_58⟩⟩
theorem lp_TrapCornerModel_245 : LKP "TrapCornerModel" 245 [12] 28 (.int) := by
  intro ci hci
  have hci := List.mem_singleton.mp hci
  subst hci
  exact ⟨RX12, TX12, 50, "TrapCornerModel", ck_12, by decide, tw_1315, Or.inl rfl, rfl, by decide +kernel⟩
theorem lk_TrapCornerModel_46 : LK "TrapCornerModel" 46 [12] 21 := by
  intro ci hci
  have hci := List.mem_singleton.mp hci
  subst hci
  exact ⟨RX12, TX12, 50, "TrapCornerModel", ck_12, by decide, tw_1308, Or.inl rfl⟩
theorem lp_TrapCornerModel_242 : LKP "TrapCornerModel" 242 [12] 31 (.boolean) := by
  intro ci hci
  have hci := List.mem_singleton.mp hci
  subst hci
  exact ⟨RX12, TX12, 50, "TrapCornerModel", ck_12, by decide, tw_1318, Or.inl rfl, rfl, by decide +kernel⟩
theorem lk_TrapCornerModel_40 : LK "TrapCornerModel" 40 [12] 19 := by
  intro ci hci
  have hci := List.mem_singleton.mp hci
  subst hci
  exact ⟨RX12, TX12, 50, "TrapCornerModel", ck_12, by decide, tw_1306, Or.inl rfl⟩
theorem lk_TrapCornerModel_242 : LK "TrapCornerModel" 242 [12] 31 := by
  intro ci hci
  have hci := List.mem_singleton.mp hci
  subst hci
  exact ⟨RX12, TX12, 50, "TrapCornerModel", ck_12, by decide, tw_1318, Or.inl rfl⟩
section
variable {g : GG} {p : Program} {l : Launch} {e : Env} {R : Room} {s : State} {m : MethodId} {args : Array Value} {below : List Frame} {meth : Method} {c : Code} {n0 z0 : Nat}
def f_X12_readClause_52  (o0 : Nat) (x1 : Int32) (s0 : Int32) (h : AH) : Option (Unit × AH) :=
  if s0 = 0 then
    (isC [12] h o0).bind fun _ =>
    cN (f_X12_fails o0 h) h fun v43 h44 =>
    some ((), h44)
  else
    (gI [12] h o0 10).bind fun v2 =>
    (pV [12] h o0 10 (.int (v2 + 1))).bind fun h4 =>
    if x1 = 115 then
      (pZ [12] h4 o0 31 1).bind fun h34 =>
      (gR [12] h34 o0 19).bind fun v36 =>
      (isC [12] h34 o0).bind fun _ =>
      cN (f_X12_readItems o0 x1 v36 0 2000000 h34) h34 fun _ h39 =>
      some ((), h39)
    else
      if x1 = 99 then
        (gI [12] h4 o0 28).bind fun v21 =>
        (pV [12] h4 o0 28 (.int (v21 + 1))).bind fun h23 =>
        (gR [12] h23 o0 21).bind fun v25 =>
        (gI [12] h23 o0 28).bind fun v27 =>
        (isC [12] h23 o0).bind fun _ =>
        cN (f_X12_readItems o0 x1 v25 (2 * (v27 - 1)) 2000001 h23) h23 fun _ h30 =>
        some ((), h30)
      else
        (gI [12] h4 o0 29).bind fun v8 =>
        (pV [12] h4 o0 29 (.int (v8 + 1))).bind fun h10 =>
        (gR [12] h10 o0 23).bind fun v12 =>
        (gI [12] h10 o0 29).bind fun v14 =>
        (isC [12] h10 o0).bind fun _ =>
        cN (f_X12_readItems o0 x1 v12 (6 * (v14 - 1)) 2000002 h10) h10 fun _ h17 =>
        some ((), h17)
set_option maxHeartbeats 1000000 in
theorem w_X12_readClause_52 (X : Cx g p s m args meth c cX12_readClause 3 "TrapCornerModel") (hR : 7 ≤ R.frames ∧ 448 ≤ R.locals) (hr : meth.sig.returnType = none) {res : Unit × AH} : ∀ (o0 : Nat) (x1 : Int32) (s0 : Int32) (h : AH) (ls : Array Slot) (H : Heap) (locs : List Loc), f_X12_readClause_52 o0 x1 s0 h = some res → Iv g s n0 z0 h H locs 0 0 → lv_has ls 3 [(0, .ref (rfG g o0)), (1, .int x1)] → W p l e R s m args below meth c H locs 0 0 (MQ below (QG g none res.2) args s 0 0 (AG g)) (F0 m 52 ls [.int s0]) := by
  have hx := X.1
  have hb := X.2.1
  intro o0 x1 s0 h ls H locs hf I hl
  unfold f_X12_readClause_52 at hf
  refine lv_istore_n (lv' := [(2, .int s0), (0, .ref (rfG g o0)), (1, .int x1)]) hx hb dX12_readClause_52 rfl hl (by decide) rfl (fun ls hl => ?_)
  refine lv_iload_n hx hb dX12_readClause_53 rfl (lv_at hl 0 rfl) ?_
  refine lv_if_ne (tgt := 63) hx hb dX12_readClause_54 (by decide) (fun c1 => ?_) (fun c1 => ?_)
  · rw [if_neg c1] at hf
    refine lv_aload_n hx hb dX12_readClause_63 rfl (lv_at hl 1 rfl) ?_
    refine lv_dup hx hb dX12_readClause_64 rfl ?_
    obtain ⟨v2, e3, hf⟩ := Option.bind_eq_some_iff.mp hf
    refine r_gI X I e3 lk_TrapCornerModel_119 dX12_readClause_65 ?_
    refine lv_iconst (v := 1) hx hb dX12_readClause_68 (by decide) ?_
    refine lv_iadd hx hb dX12_readClause_69 ?_
    obtain ⟨h4, e5, hf⟩ := Option.bind_eq_some_iff.mp hf
    refine r_pI X I e5 lp_TrapCornerModel_119 dX12_readClause_70 (fun H locs I => ?_)
    refine lv_iload_n hx hb dX12_readClause_73 rfl (lv_at hl 2 rfl) ?_
    refine lv_bipush (v := 115) hx hb dX12_readClause_74 (by decide) ?_
    refine lv_icmp_ne (tgt := 99) hx hb dX12_readClause_76 (by decide) (fun c6 => ?_) (fun c6 => ?_)
    · rw [if_neg c6] at hf
      refine lv_iload_n hx hb dX12_readClause_99 rfl (lv_at hl 2 rfl) ?_
      refine lv_bipush (v := 99) hx hb dX12_readClause_100 (by decide) ?_
      refine lv_icmp_ne (tgt := 138) hx hb dX12_readClause_102 (by decide) (fun c7 => ?_) (fun c7 => ?_)
      · rw [if_neg c7] at hf
        refine lv_aload_n hx hb dX12_readClause_138 rfl (lv_at hl 1 rfl) ?_
        refine lv_dup hx hb dX12_readClause_139 rfl ?_
        obtain ⟨v8, e9, hf⟩ := Option.bind_eq_some_iff.mp hf
        refine r_gI X I e9 lk_TrapCornerModel_248 dX12_readClause_140 ?_
        refine lv_iconst (v := 1) hx hb dX12_readClause_143 (by decide) ?_
        refine lv_iadd hx hb dX12_readClause_144 ?_
        obtain ⟨h10, e11, hf⟩ := Option.bind_eq_some_iff.mp hf
        refine r_pI X I e11 lp_TrapCornerModel_248 dX12_readClause_145 (fun H locs I => ?_)
        refine lv_aload_n hx hb dX12_readClause_148 rfl (lv_at hl 1 rfl) ?_
        refine lv_iload_n hx hb dX12_readClause_149 rfl (lv_at hl 2 rfl) ?_
        refine lv_aload_n hx hb dX12_readClause_150 rfl (lv_at hl 1 rfl) ?_
        obtain ⟨v12, e13, hf⟩ := Option.bind_eq_some_iff.mp hf
        refine r_gR X I e13 lk_TrapCornerModel_52 dX12_readClause_151 ?_
        refine lv_bipush (v := 6) hx hb dX12_readClause_154 (by decide) ?_
        refine lv_aload_n hx hb dX12_readClause_156 rfl (lv_at hl 1 rfl) ?_
        obtain ⟨v14, e15, hf⟩ := Option.bind_eq_some_iff.mp hf
        refine r_gI X I e15 lk_TrapCornerModel_248 dX12_readClause_157 ?_
        refine lv_iconst (v := 1) hx hb dX12_readClause_160 (by decide) ?_
        refine lv_isub hx hb dX12_readClause_161 ?_
        refine lv_imul hx hb dX12_readClause_162 ?_
        refine r_ldcwS (tx := "mgwabr") (i := 2) X (by decide) dX12_readClause_163 ?_
        obtain ⟨_, g20, hf⟩ := Option.bind_eq_some_iff.mp hf
        obtain ⟨⟨⟩, h17, e18, z19, hf⟩ := cN_spec hf
        refine k_Vv (As := [.int x1, .ref (rfG g v12), .int (6 * (v14 - 1)), .ref (rfG g 2000002)]) (rest := []) X I (c_X12_readItems l g o0 x1 v12 (6 * (v14 - 1)) 2000002 e18) z19 g20 vk_TrapCornerModel_253 tw_1493 ⟨Nat.le_trans (by decide) hR.1, Nat.le_trans (by decide) hR.2⟩ ⟨Nat.zero_le _, Nat.zero_le _⟩ rfl hl.1 rfl (Nat.le_of_ble_eq_true rfl) dX12_readClause_166 (fun H locs I => ?_)
        cases hf
        exact k_rv X I hr dX12_readClause_169
      · rw [if_pos c7] at hf
        refine lv_aload_n hx hb dX12_readClause_105 rfl (lv_at hl 1 rfl) ?_
        refine lv_dup hx hb dX12_readClause_106 rfl ?_
        obtain ⟨v21, e22, hf⟩ := Option.bind_eq_some_iff.mp hf
        refine r_gI X I e22 lk_TrapCornerModel_245 dX12_readClause_107 ?_
        refine lv_iconst (v := 1) hx hb dX12_readClause_110 (by decide) ?_
        refine lv_iadd hx hb dX12_readClause_111 ?_
        obtain ⟨h23, e24, hf⟩ := Option.bind_eq_some_iff.mp hf
        refine r_pI X I e24 lp_TrapCornerModel_245 dX12_readClause_112 (fun H locs I => ?_)
        refine lv_aload_n hx hb dX12_readClause_115 rfl (lv_at hl 1 rfl) ?_
        refine lv_iload_n hx hb dX12_readClause_116 rfl (lv_at hl 2 rfl) ?_
        refine lv_aload_n hx hb dX12_readClause_117 rfl (lv_at hl 1 rfl) ?_
        obtain ⟨v25, e26, hf⟩ := Option.bind_eq_some_iff.mp hf
        refine r_gR X I e26 lk_TrapCornerModel_46 dX12_readClause_118 ?_
        refine lv_iconst (v := 2) hx hb dX12_readClause_121 (by decide) ?_
        refine lv_aload_n hx hb dX12_readClause_122 rfl (lv_at hl 1 rfl) ?_
        obtain ⟨v27, e28, hf⟩ := Option.bind_eq_some_iff.mp hf
        refine r_gI X I e28 lk_TrapCornerModel_245 dX12_readClause_123 ?_
        refine lv_iconst (v := 1) hx hb dX12_readClause_126 (by decide) ?_
        refine lv_isub hx hb dX12_readClause_127 ?_
        refine lv_imul hx hb dX12_readClause_128 ?_
        refine r_ldcwS (tx := "ks") (i := 1) X (by decide) dX12_readClause_129 ?_
        obtain ⟨_, g33, hf⟩ := Option.bind_eq_some_iff.mp hf
        obtain ⟨⟨⟩, h30, e31, z32, hf⟩ := cN_spec hf
        refine k_Vv (As := [.int x1, .ref (rfG g v25), .int (2 * (v27 - 1)), .ref (rfG g 2000001)]) (rest := []) X I (c_X12_readItems l g o0 x1 v25 (2 * (v27 - 1)) 2000001 e31) z32 g33 vk_TrapCornerModel_253 tw_1493 ⟨Nat.le_trans (by decide) hR.1, Nat.le_trans (by decide) hR.2⟩ ⟨Nat.zero_le _, Nat.zero_le _⟩ rfl hl.1 rfl (Nat.le_of_ble_eq_true rfl) dX12_readClause_132 (fun H locs I => ?_)
        refine lv_goto (tgt := 169) hx hb dX12_readClause_135 (by decide) ?_
        cases hf
        exact k_rv X I hr dX12_readClause_169
    · rw [if_pos c6] at hf
      refine lv_aload_n hx hb dX12_readClause_79 rfl (lv_at hl 1 rfl) ?_
      refine lv_iconst (v := 1) hx hb dX12_readClause_80 (by decide) ?_
      obtain ⟨h34, e35, hf⟩ := Option.bind_eq_some_iff.mp hf
      refine r_pZ X I e35 lp_TrapCornerModel_242 dX12_readClause_81 (fun H locs I => ?_)
      refine lv_aload_n hx hb dX12_readClause_84 rfl (lv_at hl 1 rfl) ?_
      refine lv_iload_n hx hb dX12_readClause_85 rfl (lv_at hl 2 rfl) ?_
      refine lv_aload_n hx hb dX12_readClause_86 rfl (lv_at hl 1 rfl) ?_
      obtain ⟨v36, e37, hf⟩ := Option.bind_eq_some_iff.mp hf
      refine r_gR X I e37 lk_TrapCornerModel_40 dX12_readClause_87 ?_
      refine lv_iconst (v := 0) hx hb dX12_readClause_90 (by decide) ?_
      refine r_ldcS (tx := "tco") (i := 0) X (by decide) dX12_readClause_91 ?_
      obtain ⟨_, g42, hf⟩ := Option.bind_eq_some_iff.mp hf
      obtain ⟨⟨⟩, h39, e40, z41, hf⟩ := cN_spec hf
      refine k_Vv (As := [.int x1, .ref (rfG g v36), .int 0, .ref (rfG g 2000000)]) (rest := []) X I (c_X12_readItems l g o0 x1 v36 0 2000000 e40) z41 g42 vk_TrapCornerModel_253 tw_1493 ⟨Nat.le_trans (by decide) hR.1, Nat.le_trans (by decide) hR.2⟩ ⟨Nat.zero_le _, Nat.zero_le _⟩ rfl hl.1 rfl (Nat.le_of_ble_eq_true rfl) dX12_readClause_93 (fun H locs I => ?_)
      refine lv_goto (tgt := 169) hx hb dX12_readClause_96 (by decide) ?_
      cases hf
      exact k_rv X I hr dX12_readClause_169
  · rw [if_pos c1] at hf
    refine lv_aload_n hx hb dX12_readClause_57 rfl (lv_at hl 1 rfl) ?_
    obtain ⟨_, g47, hf⟩ := Option.bind_eq_some_iff.mp hf
    obtain ⟨v43, h44, e45, z46, hf⟩ := cN_spec hf
    refine k_Vi (As := []) (rest := []) X I (c_X12_fails l g o0 e45) z46 g47 vk_TrapCornerModel_134 tw_1488 ⟨Nat.le_trans (by decide) hR.1, Nat.le_trans (by decide) hR.2⟩ ⟨Nat.zero_le _, Nat.zero_le _⟩ rfl hl.1 rfl (Nat.le_of_ble_eq_true rfl) dX12_readClause_58 (fun H locs I => ?_)
    refine lv_pop hx hb dX12_readClause_61 rfl ?_
    cases hf
    exact k_rv X I hr dX12_readClause_62
def f_X12_readClause_47  (o0 : Nat) (x1 : Int32) (h : AH) : Option (Unit × AH) :=
  f_X12_readClause_52 o0 x1 1 h
set_option maxHeartbeats 1000000 in
theorem w_X12_readClause_47 (X : Cx g p s m args meth c cX12_readClause 3 "TrapCornerModel") (hR : 7 ≤ R.frames ∧ 448 ≤ R.locals) (hr : meth.sig.returnType = none) {res : Unit × AH} : ∀ (o0 : Nat) (x1 : Int32) (h : AH) (ls : Array Slot) (H : Heap) (locs : List Loc), f_X12_readClause_47 o0 x1 h = some res → Iv g s n0 z0 h H locs 0 0 → lv_has ls 3 [(0, .ref (rfG g o0)), (1, .int x1)] → W p l e R s m args below meth c H locs 0 0 (MQ below (QG g none res.2) args s 0 0 (AG g)) (F0 m 47 ls []) := by
  have hx := X.1
  have hb := X.2.1
  intro o0 x1 h ls H locs hf I hl
  unfold f_X12_readClause_47 at hf
  refine lv_iconst (v := 1) hx hb dX12_readClause_47 (by decide) ?_
  refine lv_goto (tgt := 52) hx hb dX12_readClause_48 (by decide) ?_
  exact w_X12_readClause_52 X hR hr  o0 x1 1 h ls H locs hf I (lv_sub hl [0, 1] rfl)
def f_X12_readClause_51  (o0 : Nat) (x1 : Int32) (h : AH) : Option (Unit × AH) :=
  f_X12_readClause_52 o0 x1 0 h
set_option maxHeartbeats 1000000 in
theorem w_X12_readClause_51 (X : Cx g p s m args meth c cX12_readClause 3 "TrapCornerModel") (hR : 7 ≤ R.frames ∧ 448 ≤ R.locals) (hr : meth.sig.returnType = none) {res : Unit × AH} : ∀ (o0 : Nat) (x1 : Int32) (h : AH) (ls : Array Slot) (H : Heap) (locs : List Loc), f_X12_readClause_51 o0 x1 h = some res → Iv g s n0 z0 h H locs 0 0 → lv_has ls 3 [(0, .ref (rfG g o0)), (1, .int x1)] → W p l e R s m args below meth c H locs 0 0 (MQ below (QG g none res.2) args s 0 0 (AG g)) (F0 m 51 ls []) := by
  have hx := X.1
  have hb := X.2.1
  intro o0 x1 h ls H locs hf I hl
  unfold f_X12_readClause_51 at hf
  refine lv_iconst (v := 0) hx hb dX12_readClause_51 (by decide) ?_
  exact w_X12_readClause_52 X hR hr  o0 x1 0 h ls H locs hf I (lv_sub hl [0, 1] rfl)
def f_X12_readClause_32  (o0 : Nat) (x1 : Int32) (h : AH) : Option (Unit × AH) :=
  if x1 = 112 then
    (gI [12] h o0 29).bind fun v2 =>
    if 6 ≤ v2 then
      f_X12_readClause_51 o0 x1 h
    else
      f_X12_readClause_47 o0 x1 h
  else
    f_X12_readClause_51 o0 x1 h
set_option maxHeartbeats 1000000 in
theorem w_X12_readClause_32 (X : Cx g p s m args meth c cX12_readClause 3 "TrapCornerModel") (hR : 7 ≤ R.frames ∧ 448 ≤ R.locals) (hr : meth.sig.returnType = none) {res : Unit × AH} : ∀ (o0 : Nat) (x1 : Int32) (h : AH) (ls : Array Slot) (H : Heap) (locs : List Loc), f_X12_readClause_32 o0 x1 h = some res → Iv g s n0 z0 h H locs 0 0 → lv_has ls 3 [(0, .ref (rfG g o0)), (1, .int x1)] → W p l e R s m args below meth c H locs 0 0 (MQ below (QG g none res.2) args s 0 0 (AG g)) (F0 m 32 ls []) := by
  have hx := X.1
  have hb := X.2.1
  intro o0 x1 h ls H locs hf I hl
  unfold f_X12_readClause_32 at hf
  refine lv_iload_n hx hb dX12_readClause_32 rfl (lv_at hl 1 rfl) ?_
  refine lv_bipush (v := 112) hx hb dX12_readClause_33 (by decide) ?_
  refine lv_icmp_ne (tgt := 51) hx hb dX12_readClause_35 (by decide) (fun c1 => ?_) (fun c1 => ?_)
  · rw [if_neg c1] at hf
    exact w_X12_readClause_51 X hR hr  o0 x1 h ls H locs hf I (lv_sub hl [0, 1] rfl)
  · rw [if_pos c1] at hf
    refine lv_aload_n hx hb dX12_readClause_38 rfl (lv_at hl 0 rfl) ?_
    obtain ⟨v2, e3, hf⟩ := Option.bind_eq_some_iff.mp hf
    refine r_gI X I e3 lk_TrapCornerModel_248 dX12_readClause_39 ?_
    refine lv_bipush (v := 6) hx hb dX12_readClause_42 (by decide) ?_
    refine lv_icmp_ge (tgt := 51) hx hb dX12_readClause_44 (by decide) (fun c4 => ?_) (fun c4 => ?_)
    · rw [if_pos c4] at hf
      exact w_X12_readClause_51 X hR hr  o0 x1 h ls H locs hf I (lv_sub hl [0, 1] rfl)
    · rw [if_neg c4] at hf
      exact w_X12_readClause_47 X hR hr  o0 x1 h ls H locs hf I (lv_sub hl [0, 1] rfl)
def f_X12_readClause_18  (o0 : Nat) (x1 : Int32) (h : AH) : Option (Unit × AH) :=
  if x1 = 99 then
    (gI [12] h o0 28).bind fun v2 =>
    if v2 < 5 then
      f_X12_readClause_47 o0 x1 h
    else
      f_X12_readClause_32 o0 x1 h
  else
    f_X12_readClause_32 o0 x1 h
set_option maxHeartbeats 1000000 in
theorem w_X12_readClause_18 (X : Cx g p s m args meth c cX12_readClause 3 "TrapCornerModel") (hR : 7 ≤ R.frames ∧ 448 ≤ R.locals) (hr : meth.sig.returnType = none) {res : Unit × AH} : ∀ (o0 : Nat) (x1 : Int32) (h : AH) (ls : Array Slot) (H : Heap) (locs : List Loc), f_X12_readClause_18 o0 x1 h = some res → Iv g s n0 z0 h H locs 0 0 → lv_has ls 3 [(0, .ref (rfG g o0)), (1, .int x1)] → W p l e R s m args below meth c H locs 0 0 (MQ below (QG g none res.2) args s 0 0 (AG g)) (F0 m 18 ls []) := by
  have hx := X.1
  have hb := X.2.1
  intro o0 x1 h ls H locs hf I hl
  unfold f_X12_readClause_18 at hf
  refine lv_iload_n hx hb dX12_readClause_18 rfl (lv_at hl 1 rfl) ?_
  refine lv_bipush (v := 99) hx hb dX12_readClause_19 (by decide) ?_
  refine lv_icmp_ne (tgt := 32) hx hb dX12_readClause_21 (by decide) (fun c1 => ?_) (fun c1 => ?_)
  · rw [if_neg c1] at hf
    exact w_X12_readClause_32 X hR hr  o0 x1 h ls H locs hf I (lv_sub hl [0, 1] rfl)
  · rw [if_pos c1] at hf
    refine lv_aload_n hx hb dX12_readClause_24 rfl (lv_at hl 0 rfl) ?_
    obtain ⟨v2, e3, hf⟩ := Option.bind_eq_some_iff.mp hf
    refine r_gI X I e3 lk_TrapCornerModel_245 dX12_readClause_25 ?_
    refine lv_iconst (v := 5) hx hb dX12_readClause_28 (by decide) ?_
    refine lv_icmp_lt (tgt := 47) hx hb dX12_readClause_29 (by decide) (fun c4 => ?_) (fun c4 => ?_)
    · rw [if_pos c4] at hf
      exact w_X12_readClause_47 X hR hr  o0 x1 h ls H locs hf I (lv_sub hl [0, 1] rfl)
    · rw [if_neg c4] at hf
      exact w_X12_readClause_32 X hR hr  o0 x1 h ls H locs hf I (lv_sub hl [0, 1] rfl)
def f_X12_readClause_0  (o0 : Nat) (h : AH) : Option (Unit × AH) :=
  (isC [12] h o0).bind fun _ =>
  cN (f_X12_look o0 h) h fun v1 h2 =>
  if v1 = 115 then
    (gI [12] h2 o0 31).bind fun v7 =>
    if v7 = 0 then
      f_X12_readClause_47 o0 v1 h2
    else
      f_X12_readClause_18 o0 v1 h2
  else
    f_X12_readClause_18 o0 v1 h2
set_option maxHeartbeats 1000000 in
theorem w_X12_readClause_0 (X : Cx g p s m args meth c cX12_readClause 3 "TrapCornerModel") (hR : 7 ≤ R.frames ∧ 448 ≤ R.locals) (hr : meth.sig.returnType = none) {res : Unit × AH} : ∀ (o0 : Nat) (h : AH) (ls : Array Slot) (H : Heap) (locs : List Loc), f_X12_readClause_0 o0 h = some res → Iv g s n0 z0 h H locs 0 0 → lv_has ls 3 [(0, .ref (rfG g o0))] → W p l e R s m args below meth c H locs 0 0 (MQ below (QG g none res.2) args s 0 0 (AG g)) (F0 m 0 ls []) := by
  have hx := X.1
  have hb := X.2.1
  intro o0 h ls H locs hf I hl
  unfold f_X12_readClause_0 at hf
  refine lv_aload_n hx hb dX12_readClause_0 rfl (lv_at hl 0 rfl) ?_
  obtain ⟨_, g5, hf⟩ := Option.bind_eq_some_iff.mp hf
  obtain ⟨v1, h2, e3, z4, hf⟩ := cN_spec hf
  refine k_Vi (As := []) (rest := []) X I (c_X12_look l g o0 e3) z4 g5 vk_TrapCornerModel_138 tw_1484 ⟨Nat.le_trans (by decide) hR.1, Nat.le_trans (by decide) hR.2⟩ ⟨Nat.zero_le _, Nat.zero_le _⟩ rfl hl.1 rfl (Nat.le_of_ble_eq_true rfl) dX12_readClause_1 (fun H locs I => ?_)
  refine lv_istore_n (lv' := [(1, .int v1), (0, .ref (rfG g o0))]) hx hb dX12_readClause_4 rfl hl (by decide) rfl (fun ls hl => ?_)
  refine lv_iload_n hx hb dX12_readClause_5 rfl (lv_at hl 0 rfl) ?_
  refine lv_bipush (v := 115) hx hb dX12_readClause_6 (by decide) ?_
  refine lv_icmp_ne (tgt := 18) hx hb dX12_readClause_8 (by decide) (fun c6 => ?_) (fun c6 => ?_)
  · rw [if_neg c6] at hf
    exact w_X12_readClause_18 X hR hr  o0 v1 h2 ls H locs hf I (lv_sub hl [1, 0] rfl)
  · rw [if_pos c6] at hf
    refine lv_aload_n hx hb dX12_readClause_11 rfl (lv_at hl 1 rfl) ?_
    obtain ⟨v7, e8, hf⟩ := Option.bind_eq_some_iff.mp hf
    refine r_gI X I e8 lk_TrapCornerModel_242 dX12_readClause_12 ?_
    refine lv_if_eq (tgt := 47) hx hb dX12_readClause_15 (by decide) (fun c9 => ?_) (fun c9 => ?_)
    · rw [if_pos c9] at hf
      exact w_X12_readClause_47 X hR hr  o0 v1 h2 ls H locs hf I (lv_sub hl [1, 0] rfl)
    · rw [if_neg c9] at hf
      exact w_X12_readClause_18 X hR hr  o0 v1 h2 ls H locs hf I (lv_sub hl [1, 0] rfl)
def f_X12_readClause (o0 : Nat) (h : AH) : Option (Unit × AH) := f_X12_readClause_0 o0 h
end
theorem c_X12_readClause (l : Launch) (g : GG) (o0 : Nat) {h : AH} {res : Unit × AH} (hf : f_X12_readClause o0 h = some res) : CM l g yX12_readClause cX12_readClause 3 none 7 448 0 0 [.ref (rfG g o0)] h none res.2 :=
  k_body (by decide) (Nat.le_of_ble_eq_true rfl) (fun p e s m below meth c R ls hR hr X I hl => w_X12_readClause_0 X ⟨Nat.le_of_eq hR.1.symm, Nat.le_of_eq hR.2.1.symm⟩ hr o0 h ls s.heap [] hf I (lv_sub hl [0] rfl))
/-! TrapCornerModel.readCity()V -/
theorem dX12_readCity_0 : decode cX12_readCity 0 = .ok (.aload_n 0, 1) := by decide +kernel
theorem dX12_readCity_1 : decode cX12_readCity 1 = .ok (.aload_n 0, 1) := by decide +kernel
theorem dX12_readCity_2 : decode cX12_readCity 2 = .ok (.getfield 9, 3) := by decide +kernel
theorem dX12_readCity_5 : decode cX12_readCity 5 = .ok (.iconst 0, 1) := by decide +kernel
theorem dX12_readCity_6 : decode cX12_readCity 6 = .ok (.aload_n 0, 1) := by decide +kernel
theorem dX12_readCity_7 : decode cX12_readCity 7 = .ok (.getfield 109, 3) := by decide +kernel
theorem dX12_readCity_10 : decode cX12_readCity 10 = .ok (.invokevirtual 207, 3) := by decide +kernel
theorem dX12_readCity_13 : decode cX12_readCity 13 = .ok (.aload_n 0, 1) := by decide +kernel
theorem dX12_readCity_14 : decode cX12_readCity 14 = .ok (.iconst 0, 1) := by decide +kernel
theorem dX12_readCity_15 : decode cX12_readCity 15 = .ok (.putfield 245, 3) := by decide +kernel
theorem dX12_readCity_18 : decode cX12_readCity 18 = .ok (.aload_n 0, 1) := by decide +kernel
theorem dX12_readCity_19 : decode cX12_readCity 19 = .ok (.iconst 0, 1) := by decide +kernel
theorem dX12_readCity_20 : decode cX12_readCity 20 = .ok (.putfield 248, 3) := by decide +kernel
theorem dX12_readCity_23 : decode cX12_readCity 23 = .ok (.aload_n 0, 1) := by decide +kernel
theorem dX12_readCity_24 : decode cX12_readCity 24 = .ok (.iconst 0, 1) := by decide +kernel
theorem dX12_readCity_25 : decode cX12_readCity 25 = .ok (.putfield 242, 3) := by decide +kernel
theorem dX12_readCity_28 : decode cX12_readCity 28 = .ok (.iconst 0, 1) := by decide +kernel
theorem dX12_readCity_29 : decode cX12_readCity 29 = .ok (.istore_n 1, 1) := by decide +kernel
theorem dX12_readCity_30 : decode cX12_readCity 30 = .ok (.iload_n 1, 1) := by decide +kernel
theorem dX12_readCity_31 : decode cX12_readCity 31 = .ok (.iconst 3, 1) := by decide +kernel
theorem dX12_readCity_32 : decode cX12_readCity 32 = .ok (.if_icmp .ge 21, 3) := by decide +kernel
theorem dX12_readCity_35 : decode cX12_readCity 35 = .ok (.aload_n 0, 1) := by decide +kernel
theorem dX12_readCity_36 : decode cX12_readCity 36 = .ok (.getfield 40, 3) := by decide +kernel
theorem dX12_readCity_39 : decode cX12_readCity 39 = .ok (.iload_n 1, 1) := by decide +kernel
theorem dX12_readCity_40 : decode cX12_readCity 40 = .ok (.bipush 115, 2) := by decide +kernel
theorem dX12_readCity_42 : decode cX12_readCity 42 = .ok (.iload_n 1, 1) := by decide +kernel
theorem dX12_readCity_43 : decode cX12_readCity 43 = .ok (.invokestatic 221, 3) := by decide +kernel
theorem dX12_readCity_46 : decode cX12_readCity 46 = .ok (.iastore, 1) := by decide +kernel
theorem dX12_readCity_47 : decode cX12_readCity 47 = .ok (.iinc 1 1, 3) := by decide +kernel
theorem dX12_readCity_50 : decode cX12_readCity 50 = .ok (.goto (-20), 3) := by decide +kernel
theorem dX12_readCity_53 : decode cX12_readCity 53 = .ok (.iconst 1, 1) := by decide +kernel
theorem dX12_readCity_54 : decode cX12_readCity 54 = .ok (.istore_n 1, 1) := by decide +kernel
theorem dX12_readCity_55 : decode cX12_readCity 55 = .ok (.iload_n 1, 1) := by decide +kernel
theorem dX12_readCity_56 : decode cX12_readCity 56 = .ok (.ifCond .eq 55, 3) := by decide +kernel
theorem dX12_readCity_59 : decode cX12_readCity 59 = .ok (.aload_n 0, 1) := by decide +kernel
theorem dX12_readCity_60 : decode cX12_readCity 60 = .ok (.getfield 128, 3) := by decide +kernel
theorem dX12_readCity_63 : decode cX12_readCity 63 = .ok (.iconst (-1), 1) := by decide +kernel
theorem dX12_readCity_64 : decode cX12_readCity 64 = .ok (.if_icmp .ne 47, 3) := by decide +kernel
theorem dX12_readCity_67 : decode cX12_readCity 67 = .ok (.aload_n 0, 1) := by decide +kernel
theorem dX12_readCity_68 : decode cX12_readCity 68 = .ok (.invokevirtual 261, 3) := by decide +kernel
theorem dX12_readCity_71 : decode cX12_readCity 71 = .ok (.aload_n 0, 1) := by decide +kernel
theorem dX12_readCity_72 : decode cX12_readCity 72 = .ok (.getfield 128, 3) := by decide +kernel
theorem dX12_readCity_75 : decode cX12_readCity 75 = .ok (.iconst (-1), 1) := by decide +kernel
theorem dX12_readCity_76 : decode cX12_readCity 76 = .ok (.if_icmp .ne 16, 3) := by decide +kernel
theorem dX12_readCity_79 : decode cX12_readCity 79 = .ok (.aload_n 0, 1) := by decide +kernel
theorem dX12_readCity_80 : decode cX12_readCity 80 = .ok (.invokevirtual 138, 3) := by decide +kernel
theorem dX12_readCity_83 : decode cX12_readCity 83 = .ok (.bipush 59, 2) := by decide +kernel
theorem dX12_readCity_85 : decode cX12_readCity 85 = .ok (.if_icmp .ne 7, 3) := by decide +kernel
theorem dX12_readCity_88 : decode cX12_readCity 88 = .ok (.iconst 1, 1) := by decide +kernel
theorem dX12_readCity_89 : decode cX12_readCity 89 = .ok (.goto 4, 3) := by decide +kernel
theorem dX12_readCity_92 : decode cX12_readCity 92 = .ok (.iconst 0, 1) := by decide +kernel
theorem dX12_readCity_93 : decode cX12_readCity 93 = .ok (.istore_n 1, 1) := by decide +kernel
theorem dX12_readCity_94 : decode cX12_readCity 94 = .ok (.iload_n 1, 1) := by decide +kernel
theorem dX12_readCity_95 : decode cX12_readCity 95 = .ok (.ifCond .eq (-40), 3) := by decide +kernel
theorem dX12_readCity_98 : decode cX12_readCity 98 = .ok (.aload_n 0, 1) := by decide +kernel
theorem dX12_readCity_99 : decode cX12_readCity 99 = .ok (.dup, 1) := by decide +kernel
theorem dX12_readCity_100 : decode cX12_readCity 100 = .ok (.getfield 119, 3) := by decide +kernel
theorem dX12_readCity_103 : decode cX12_readCity 103 = .ok (.iconst 1, 1) := by decide +kernel
theorem dX12_readCity_104 : decode cX12_readCity 104 = .ok (.iadd, 1) := by decide +kernel
theorem dX12_readCity_105 : decode cX12_readCity 105 = .ok (.putfield 119, 3) := by decide +kernel
theorem dX12_readCity_108 : decode cX12_readCity 108 = .ok (.goto (-53), 3) := by decide +kernel
theorem dX12_readCity_111 : decode cX12_readCity 111 = .ok (.aload_n 0, 1) := by decide +kernel
theorem dX12_readCity_112 : decode cX12_readCity 112 = .ok (.getfield 128, 3) := by decide +kernel
theorem dX12_readCity_115 : decode cX12_readCity 115 = .ok (.iconst (-1), 1) := by decide +kernel
theorem dX12_readCity_116 : decode cX12_readCity 116 = .ok (.if_icmp .ne 23, 3) := by decide +kernel
theorem dX12_readCity_119 : decode cX12_readCity 119 = .ok (.aload_n 0, 1) := by decide +kernel
theorem dX12_readCity_120 : decode cX12_readCity 120 = .ok (.invokevirtual 138, 3) := by decide +kernel
theorem dX12_readCity_123 : decode cX12_readCity 123 = .ok (.iconst (-1), 1) := by decide +kernel
theorem dX12_readCity_124 : decode cX12_readCity 124 = .ok (.if_icmp .ne 10, 3) := by decide +kernel
theorem dX12_readCity_127 : decode cX12_readCity 127 = .ok (.aload_n 0, 1) := by decide +kernel
theorem dX12_readCity_128 : decode cX12_readCity 128 = .ok (.invokevirtual 264, 3) := by decide +kernel
theorem dX12_readCity_131 : decode cX12_readCity 131 = .ok (.ifCond .ne 8, 3) := by decide +kernel
theorem dX12_readCity_134 : decode cX12_readCity 134 = .ok (.aload_n 0, 1) := by decide +kernel
theorem dX12_readCity_135 : decode cX12_readCity 135 = .ok (.invokevirtual 134, 3) := by decide +kernel
theorem dX12_readCity_138 : decode cX12_readCity 138 = .ok (.pop, 1) := by decide +kernel
theorem dX12_readCity_139 : decode cX12_readCity 139 = .ok (.return_, 1) := by decide +kernel
theorem vk_TrapCornerModel_264 : VK "TrapCornerModel" 264 [12] yX12_isWhole 0 := ⟨tw_1541, tw_1543, tw_13, ⟨by decide, by decide⟩, by decide +kernel, fun ci hci => by
  have hci := List.mem_singleton.mp hci
  subst hci
  exact ⟨_, rfl, tp_62⟩⟩
theorem vk_TrapCornerModel_261 : VK "TrapCornerModel" 261 [12] yX12_readClause 0 := ⟨tw_1477, tw_1479, tw_13, ⟨by decide, by decide⟩, by decide +kernel, fun ci hci => by
  have hci := List.mem_singleton.mp hci
  subst hci
  exact ⟨_, rfl, tp_55⟩⟩
theorem vk_TrapCornerModel_207 : VK "TrapCornerModel" 207 [12] yX12_starts 3 := ⟨tw_1470, tw_1472, tw_13, ⟨by decide, by decide⟩, by decide +kernel, fun ci hci => by
  have hci := List.mem_singleton.mp hci
  subst hci
  exact ⟨_, rfl, tp_54⟩⟩
section
variable {g : GG} {p : Program} {l : Launch} {e : Env} {R : Room} {s : State} {m : MethodId} {args : Array Value} {below : List Frame} {meth : Method} {c : Code} {n0 z0 : Nat}
def f_X12_readCity_93 (k55 : Nat → Int32 → AH → Option (Unit × AH)) (o0 : Nat) (s0 : Int32) (h : AH) : Option (Unit × AH) :=
  if s0 = 0 then
    k55 o0 s0 h
  else
    (gI [12] h o0 10).bind fun v2 =>
    (pV [12] h o0 10 (.int (v2 + 1))).bind fun h4 =>
    k55 o0 s0 h4
set_option maxHeartbeats 1000000 in
theorem w_X12_readCity_93 (X : Cx g p s m args meth c cX12_readCity 2 "TrapCornerModel") (hR : 8 ≤ R.frames ∧ 512 ≤ R.locals) (hr : meth.sig.returnType = none) {res : Unit × AH} {k55 : Nat → Int32 → AH → Option (Unit × AH)} (hk55 : ∀ (o0 : Nat) (x1 : Int32) (h : AH) (ls : Array Slot) (H : Heap) (locs : List Loc), k55 o0 x1 h = some res → Iv g s n0 z0 h H locs 0 0 → lv_has ls 2 [(0, .ref (rfG g o0)), (1, .int x1)] → W p l e R s m args below meth c H locs 0 0 (MQ below (QG g none res.2) args s 0 0 (AG g)) (F0 m 55 ls [])) : ∀ (o0 : Nat) (s0 : Int32) (h : AH) (ls : Array Slot) (H : Heap) (locs : List Loc), f_X12_readCity_93 k55 o0 s0 h = some res → Iv g s n0 z0 h H locs 0 0 → lv_has ls 2 [(0, .ref (rfG g o0))] → W p l e R s m args below meth c H locs 0 0 (MQ below (QG g none res.2) args s 0 0 (AG g)) (F0 m 93 ls [.int s0]) := by
  have hx := X.1
  have hb := X.2.1
  intro o0 s0 h ls H locs hf I hl
  unfold f_X12_readCity_93 at hf
  refine lv_istore_n (lv' := [(1, .int s0), (0, .ref (rfG g o0))]) hx hb dX12_readCity_93 rfl hl (by decide) rfl (fun ls hl => ?_)
  refine lv_iload_n hx hb dX12_readCity_94 rfl (lv_at hl 0 rfl) ?_
  refine lv_if_eq (tgt := 55) hx hb dX12_readCity_95 (by decide) (fun c1 => ?_) (fun c1 => ?_)
  · rw [if_pos c1] at hf
    exact hk55 o0 s0 h ls H locs hf I (lv_sub hl [1, 0] rfl)
  · rw [if_neg c1] at hf
    refine lv_aload_n hx hb dX12_readCity_98 rfl (lv_at hl 1 rfl) ?_
    refine lv_dup hx hb dX12_readCity_99 rfl ?_
    obtain ⟨v2, e3, hf⟩ := Option.bind_eq_some_iff.mp hf
    refine r_gI X I e3 lk_TrapCornerModel_119 dX12_readCity_100 ?_
    refine lv_iconst (v := 1) hx hb dX12_readCity_103 (by decide) ?_
    refine lv_iadd hx hb dX12_readCity_104 ?_
    obtain ⟨h4, e5, hf⟩ := Option.bind_eq_some_iff.mp hf
    refine r_pI X I e5 lp_TrapCornerModel_119 dX12_readCity_105 (fun H locs I => ?_)
    refine lv_goto (tgt := 55) hx hb dX12_readCity_108 (by decide) ?_
    exact hk55 o0 s0 h4 ls H locs hf I (lv_sub hl [1, 0] rfl)
def f_X12_readCity_92 (k55 : Nat → Int32 → AH → Option (Unit × AH)) (o0 : Nat) (h : AH) : Option (Unit × AH) :=
  f_X12_readCity_93 k55 o0 0 h
set_option maxHeartbeats 1000000 in
theorem w_X12_readCity_92 (X : Cx g p s m args meth c cX12_readCity 2 "TrapCornerModel") (hR : 8 ≤ R.frames ∧ 512 ≤ R.locals) (hr : meth.sig.returnType = none) {res : Unit × AH} {k55 : Nat → Int32 → AH → Option (Unit × AH)} (hk55 : ∀ (o0 : Nat) (x1 : Int32) (h : AH) (ls : Array Slot) (H : Heap) (locs : List Loc), k55 o0 x1 h = some res → Iv g s n0 z0 h H locs 0 0 → lv_has ls 2 [(0, .ref (rfG g o0)), (1, .int x1)] → W p l e R s m args below meth c H locs 0 0 (MQ below (QG g none res.2) args s 0 0 (AG g)) (F0 m 55 ls [])) : ∀ (o0 : Nat) (h : AH) (ls : Array Slot) (H : Heap) (locs : List Loc), f_X12_readCity_92 k55 o0 h = some res → Iv g s n0 z0 h H locs 0 0 → lv_has ls 2 [(0, .ref (rfG g o0))] → W p l e R s m args below meth c H locs 0 0 (MQ below (QG g none res.2) args s 0 0 (AG g)) (F0 m 92 ls []) := by
  have hx := X.1
  have hb := X.2.1
  intro o0 h ls H locs hf I hl
  unfold f_X12_readCity_92 at hf
  refine lv_iconst (v := 0) hx hb dX12_readCity_92 (by decide) ?_
  exact w_X12_readCity_93 X hR hr hk55 o0 0 h ls H locs hf I (lv_sub hl [0] rfl)
def f_X12_readCity_134  (o0 : Nat) (h : AH) : Option (Unit × AH) :=
  (isC [12] h o0).bind fun _ =>
  cN (f_X12_fails o0 h) h fun v1 h2 =>
  some ((), h2)
set_option maxHeartbeats 1000000 in
theorem w_X12_readCity_134 (X : Cx g p s m args meth c cX12_readCity 2 "TrapCornerModel") (hR : 8 ≤ R.frames ∧ 512 ≤ R.locals) (hr : meth.sig.returnType = none) {res : Unit × AH} : ∀ (o0 : Nat) (h : AH) (ls : Array Slot) (H : Heap) (locs : List Loc), f_X12_readCity_134 o0 h = some res → Iv g s n0 z0 h H locs 0 0 → lv_has ls 2 [(0, .ref (rfG g o0))] → W p l e R s m args below meth c H locs 0 0 (MQ below (QG g none res.2) args s 0 0 (AG g)) (F0 m 134 ls []) := by
  have hx := X.1
  have hb := X.2.1
  intro o0 h ls H locs hf I hl
  unfold f_X12_readCity_134 at hf
  refine lv_aload_n hx hb dX12_readCity_134 rfl (lv_at hl 0 rfl) ?_
  obtain ⟨_, g5, hf⟩ := Option.bind_eq_some_iff.mp hf
  obtain ⟨v1, h2, e3, z4, hf⟩ := cN_spec hf
  refine k_Vi (As := []) (rest := []) X I (c_X12_fails l g o0 e3) z4 g5 vk_TrapCornerModel_134 tw_1488 ⟨Nat.le_trans (by decide) hR.1, Nat.le_trans (by decide) hR.2⟩ ⟨Nat.zero_le _, Nat.zero_le _⟩ rfl hl.1 rfl (Nat.le_of_ble_eq_true rfl) dX12_readCity_135 (fun H locs I => ?_)
  refine lv_pop hx hb dX12_readCity_138 rfl ?_
  cases hf
  exact k_rv X I hr dX12_readCity_139
def f_X12_readCity_111  (o0 : Nat) (h : AH) : Option (Unit × AH) :=
  (gI [12] h o0 11).bind fun v1 =>
  if v1 = ((-1)) then
    (isC [12] h o0).bind fun _ =>
    cN (f_X12_look o0 h) h fun v4 h5 =>
    if v4 = ((-1)) then
      (isC [12] h5 o0).bind fun _ =>
      cN (f_X12_isWhole o0 h5) h5 fun v10 h11 =>
      if v10 = 0 then
        f_X12_readCity_134 o0 h11
      else
        some ((), h11)
    else
      f_X12_readCity_134 o0 h5
  else
    some ((), h)
set_option maxHeartbeats 1000000 in
theorem w_X12_readCity_111 (X : Cx g p s m args meth c cX12_readCity 2 "TrapCornerModel") (hR : 8 ≤ R.frames ∧ 512 ≤ R.locals) (hr : meth.sig.returnType = none) {res : Unit × AH} : ∀ (o0 : Nat) (h : AH) (ls : Array Slot) (H : Heap) (locs : List Loc), f_X12_readCity_111 o0 h = some res → Iv g s n0 z0 h H locs 0 0 → lv_has ls 2 [(0, .ref (rfG g o0))] → W p l e R s m args below meth c H locs 0 0 (MQ below (QG g none res.2) args s 0 0 (AG g)) (F0 m 111 ls []) := by
  have hx := X.1
  have hb := X.2.1
  intro o0 h ls H locs hf I hl
  unfold f_X12_readCity_111 at hf
  refine lv_aload_n hx hb dX12_readCity_111 rfl (lv_at hl 0 rfl) ?_
  obtain ⟨v1, e2, hf⟩ := Option.bind_eq_some_iff.mp hf
  refine r_gI X I e2 lk_TrapCornerModel_128 dX12_readCity_112 ?_
  refine lv_iconst (v := (-1)) hx hb dX12_readCity_115 (by decide) ?_
  refine lv_icmp_ne (tgt := 139) hx hb dX12_readCity_116 (by decide) (fun c3 => ?_) (fun c3 => ?_)
  · rw [if_neg c3] at hf
    cases hf
    exact k_rv X I hr dX12_readCity_139
  · rw [if_pos c3] at hf
    refine lv_aload_n hx hb dX12_readCity_119 rfl (lv_at hl 0 rfl) ?_
    obtain ⟨_, g8, hf⟩ := Option.bind_eq_some_iff.mp hf
    obtain ⟨v4, h5, e6, z7, hf⟩ := cN_spec hf
    refine k_Vi (As := []) (rest := []) X I (c_X12_look l g o0 e6) z7 g8 vk_TrapCornerModel_138 tw_1484 ⟨Nat.le_trans (by decide) hR.1, Nat.le_trans (by decide) hR.2⟩ ⟨Nat.zero_le _, Nat.zero_le _⟩ rfl hl.1 rfl (Nat.le_of_ble_eq_true rfl) dX12_readCity_120 (fun H locs I => ?_)
    refine lv_iconst (v := (-1)) hx hb dX12_readCity_123 (by decide) ?_
    refine lv_icmp_ne (tgt := 134) hx hb dX12_readCity_124 (by decide) (fun c9 => ?_) (fun c9 => ?_)
    · rw [if_neg c9] at hf
      exact w_X12_readCity_134 X hR hr  o0 h5 ls H locs hf I (lv_sub hl [0] rfl)
    · rw [if_pos c9] at hf
      refine lv_aload_n hx hb dX12_readCity_127 rfl (lv_at hl 0 rfl) ?_
      obtain ⟨_, g14, hf⟩ := Option.bind_eq_some_iff.mp hf
      obtain ⟨v10, h11, e12, z13, hf⟩ := cN_spec hf
      refine k_Vi (As := []) (rest := []) X I (c_X12_isWhole l g o0 e12) z13 g14 vk_TrapCornerModel_264 tw_1544 ⟨Nat.le_trans (by decide) hR.1, Nat.le_trans (by decide) hR.2⟩ ⟨Nat.zero_le _, Nat.zero_le _⟩ rfl hl.1 rfl (Nat.le_of_ble_eq_true rfl) dX12_readCity_128 (fun H locs I => ?_)
      refine lv_if_ne (tgt := 139) hx hb dX12_readCity_131 (by decide) (fun c15 => ?_) (fun c15 => ?_)
      · rw [if_neg c15] at hf
        cases hf
        exact k_rv X I hr dX12_readCity_139
      · rw [if_pos c15] at hf
        exact w_X12_readCity_134 X hR hr  o0 h11 ls H locs hf I (lv_sub hl [0] rfl)
def f_X12_readCity_55  : Nat → Nat → Int32 → AH → Option (Unit × AH)
  | 0, _, _, _ => none
  | n + 1, o0, x1, h =>
  if x1 = 0 then
    f_X12_readCity_111 o0 h
  else
    (gI [12] h o0 11).bind fun v2 =>
    if v2 = ((-1)) then
      (isC [12] h o0).bind fun _ =>
      cN (f_X12_readClause o0 h) h fun _ h6 =>
      (gI [12] h6 o0 11).bind fun v10 =>
      if v10 = ((-1)) then
        (isC [12] h6 o0).bind fun _ =>
        cN (f_X12_look o0 h6) h6 fun v13 h14 =>
        if v13 = 59 then
          f_X12_readCity_93 (f_X12_readCity_55 n) o0 1 h14
        else
          f_X12_readCity_92 (f_X12_readCity_55 n) o0 h14
      else
        f_X12_readCity_92 (f_X12_readCity_55 n) o0 h6
    else
      f_X12_readCity_111 o0 h
set_option maxHeartbeats 1000000 in
theorem w_X12_readCity_55 (X : Cx g p s m args meth c cX12_readCity 2 "TrapCornerModel") (hR : 8 ≤ R.frames ∧ 512 ≤ R.locals) (hr : meth.sig.returnType = none) {res : Unit × AH} : ∀ (n : Nat) (o0 : Nat) (x1 : Int32) (h : AH) (ls : Array Slot) (H : Heap) (locs : List Loc), f_X12_readCity_55 n o0 x1 h = some res → Iv g s n0 z0 h H locs 0 0 → lv_has ls 2 [(0, .ref (rfG g o0)), (1, .int x1)] → W p l e R s m args below meth c H locs 0 0 (MQ below (QG g none res.2) args s 0 0 (AG g)) (F0 m 55 ls []) := by
  have hx := X.1
  have hb := X.2.1
  intro n
  induction n with
  | zero =>
    intro o0 x1 h ls H locs hf
    rw [f_X12_readCity_55.eq_1] at hf
    cases hf
  | succ n ih =>
    intro o0 x1 h ls H locs hf I hl
    rw [f_X12_readCity_55.eq_2] at hf
    refine lv_iload_n hx hb dX12_readCity_55 rfl (lv_at hl 1 rfl) ?_
    refine lv_if_eq (tgt := 111) hx hb dX12_readCity_56 (by decide) (fun c1 => ?_) (fun c1 => ?_)
    · rw [if_pos c1] at hf
      exact w_X12_readCity_111 X hR hr  o0 h ls H locs hf I (lv_sub hl [0] rfl)
    · rw [if_neg c1] at hf
      refine lv_aload_n hx hb dX12_readCity_59 rfl (lv_at hl 0 rfl) ?_
      obtain ⟨v2, e3, hf⟩ := Option.bind_eq_some_iff.mp hf
      refine r_gI X I e3 lk_TrapCornerModel_128 dX12_readCity_60 ?_
      refine lv_iconst (v := (-1)) hx hb dX12_readCity_63 (by decide) ?_
      refine lv_icmp_ne (tgt := 111) hx hb dX12_readCity_64 (by decide) (fun c4 => ?_) (fun c4 => ?_)
      · rw [if_neg c4] at hf
        exact w_X12_readCity_111 X hR hr  o0 h ls H locs hf I (lv_sub hl [0] rfl)
      · rw [if_pos c4] at hf
        refine lv_aload_n hx hb dX12_readCity_67 rfl (lv_at hl 0 rfl) ?_
        obtain ⟨_, g9, hf⟩ := Option.bind_eq_some_iff.mp hf
        obtain ⟨⟨⟩, h6, e7, z8, hf⟩ := cN_spec hf
        refine k_Vv (As := []) (rest := []) X I (c_X12_readClause l g o0 e7) z8 g9 vk_TrapCornerModel_261 tw_1480 ⟨Nat.le_trans (by decide) hR.1, Nat.le_trans (by decide) hR.2⟩ ⟨Nat.zero_le _, Nat.zero_le _⟩ rfl hl.1 rfl (Nat.le_of_ble_eq_true rfl) dX12_readCity_68 (fun H locs I => ?_)
        refine lv_aload_n hx hb dX12_readCity_71 rfl (lv_at hl 0 rfl) ?_
        obtain ⟨v10, e11, hf⟩ := Option.bind_eq_some_iff.mp hf
        refine r_gI X I e11 lk_TrapCornerModel_128 dX12_readCity_72 ?_
        refine lv_iconst (v := (-1)) hx hb dX12_readCity_75 (by decide) ?_
        refine lv_icmp_ne (tgt := 92) hx hb dX12_readCity_76 (by decide) (fun c12 => ?_) (fun c12 => ?_)
        · rw [if_neg c12] at hf
          exact w_X12_readCity_92 X hR hr ih o0 h6 ls H locs hf I (lv_sub hl [0] rfl)
        · rw [if_pos c12] at hf
          refine lv_aload_n hx hb dX12_readCity_79 rfl (lv_at hl 0 rfl) ?_
          obtain ⟨_, g17, hf⟩ := Option.bind_eq_some_iff.mp hf
          obtain ⟨v13, h14, e15, z16, hf⟩ := cN_spec hf
          refine k_Vi (As := []) (rest := []) X I (c_X12_look l g o0 e15) z16 g17 vk_TrapCornerModel_138 tw_1484 ⟨Nat.le_trans (by decide) hR.1, Nat.le_trans (by decide) hR.2⟩ ⟨Nat.zero_le _, Nat.zero_le _⟩ rfl hl.1 rfl (Nat.le_of_ble_eq_true rfl) dX12_readCity_80 (fun H locs I => ?_)
          refine lv_bipush (v := 59) hx hb dX12_readCity_83 (by decide) ?_
          refine lv_icmp_ne (tgt := 92) hx hb dX12_readCity_85 (by decide) (fun c18 => ?_) (fun c18 => ?_)
          · rw [if_neg c18] at hf
            exact w_X12_readCity_92 X hR hr ih o0 h14 ls H locs hf I (lv_sub hl [0] rfl)
          · rw [if_pos c18] at hf
            refine lv_iconst (v := 1) hx hb dX12_readCity_88 (by decide) ?_
            refine lv_goto (tgt := 93) hx hb dX12_readCity_89 (by decide) ?_
            exact w_X12_readCity_93 X hR hr ih o0 1 h14 ls H locs hf I (lv_sub hl [0] rfl)
def f_X12_readCity_30  : Nat → Nat → Int32 → AH → Option (Unit × AH)
  | 0, _, _, _ => none
  | n + 1, o0, x1, h =>
  if 3 ≤ x1 then
    f_X12_readCity_55 fu o0 1 h
  else
    (gR [12] h o0 19).bind fun v2 =>
    cN (f_X12_usual 115 x1 h) h fun v4 h5 =>
    (uI 0 h5 v2 x1 v4).bind fun h8 =>
    f_X12_readCity_30  n o0 (x1 + 1) h8
set_option maxHeartbeats 1000000 in
theorem w_X12_readCity_30 (X : Cx g p s m args meth c cX12_readCity 2 "TrapCornerModel") (hR : 8 ≤ R.frames ∧ 512 ≤ R.locals) (hr : meth.sig.returnType = none) {res : Unit × AH} : ∀ (n : Nat) (o0 : Nat) (x1 : Int32) (h : AH) (ls : Array Slot) (H : Heap) (locs : List Loc), f_X12_readCity_30 n o0 x1 h = some res → Iv g s n0 z0 h H locs 0 0 → lv_has ls 2 [(0, .ref (rfG g o0)), (1, .int x1)] → W p l e R s m args below meth c H locs 0 0 (MQ below (QG g none res.2) args s 0 0 (AG g)) (F0 m 30 ls []) := by
  have hx := X.1
  have hb := X.2.1
  intro n
  induction n with
  | zero =>
    intro o0 x1 h ls H locs hf
    rw [f_X12_readCity_30.eq_1] at hf
    cases hf
  | succ n ih =>
    intro o0 x1 h ls H locs hf I hl
    rw [f_X12_readCity_30.eq_2] at hf
    refine lv_iload_n hx hb dX12_readCity_30 rfl (lv_at hl 1 rfl) ?_
    refine lv_iconst (v := 3) hx hb dX12_readCity_31 (by decide) ?_
    refine lv_icmp_ge (tgt := 53) hx hb dX12_readCity_32 (by decide) (fun c1 => ?_) (fun c1 => ?_)
    · rw [if_pos c1] at hf
      refine lv_iconst (v := 1) hx hb dX12_readCity_53 (by decide) ?_
      refine lv_istore_n (lv' := [(1, .int 1), (0, .ref (rfG g o0))]) hx hb dX12_readCity_54 rfl hl (by decide) rfl (fun ls hl => ?_)
      exact w_X12_readCity_55 X hR hr fu o0 1 h ls H locs hf I (lv_sub hl [1, 0] rfl)
    · rw [if_neg c1] at hf
      refine lv_aload_n hx hb dX12_readCity_35 rfl (lv_at hl 0 rfl) ?_
      obtain ⟨v2, e3, hf⟩ := Option.bind_eq_some_iff.mp hf
      refine r_gR X I e3 lk_TrapCornerModel_40 dX12_readCity_36 ?_
      refine lv_iload_n hx hb dX12_readCity_39 rfl (lv_at hl 1 rfl) ?_
      refine lv_bipush (v := 115) hx hb dX12_readCity_40 (by decide) ?_
      refine lv_iload_n hx hb dX12_readCity_42 rfl (lv_at hl 1 rfl) ?_
      obtain ⟨v4, h5, e6, z7, hf⟩ := cN_spec hf
      refine k_Si (As := [.int 115, .int x1]) (rest := [.int x1, .ref (rfG g v2)]) X I (c_X12_usual l g 115 x1 e6) z7 sk_TrapCornerModel_221 tw_1476 ⟨Nat.le_trans (by decide) hR.1, Nat.le_trans (by decide) hR.2⟩ ⟨Nat.zero_le _, Nat.zero_le _⟩ rfl hl.1 rfl (Nat.le_of_ble_eq_true rfl) dX12_readCity_43 (fun H locs I => ?_)
      obtain ⟨h8, e9, hf⟩ := Option.bind_eq_some_iff.mp hf
      refine r_uI0 X I e9 dX12_readCity_46 (fun H locs I => ?_)
      refine lv_iinc (v := x1 + 1) (lv' := [(1, .int (x1 + 1)), (0, .ref (rfG g o0))]) hx hb dX12_readCity_47 hl (k := 1) rfl rfl (by decide) rfl (fun ls hl => ?_)
      refine lv_goto (tgt := 30) hx hb dX12_readCity_50 (by decide) ?_
      exact ih o0 (x1 + 1) h8 ls H locs hf I (lv_sub hl [1, 0] rfl)
def f_X12_readCity_0  (o0 : Nat) (h : AH) : Option (Unit × AH) :=
  (gR [12] h o0 1).bind fun v1 =>
  (gI [12] h o0 6).bind fun v3 =>
  (isC [12] h o0).bind fun _ =>
  cN (f_X12_starts o0 v1 0 v3 h) h fun _ h6 =>
  (pV [12] h6 o0 28 (.int 0)).bind fun h10 =>
  (pV [12] h10 o0 29 (.int 0)).bind fun h12 =>
  (pZ [12] h12 o0 31 0).bind fun h14 =>
  f_X12_readCity_30 fu o0 0 h14
set_option maxHeartbeats 1000000 in
theorem w_X12_readCity_0 (X : Cx g p s m args meth c cX12_readCity 2 "TrapCornerModel") (hR : 8 ≤ R.frames ∧ 512 ≤ R.locals) (hr : meth.sig.returnType = none) {res : Unit × AH} : ∀ (o0 : Nat) (h : AH) (ls : Array Slot) (H : Heap) (locs : List Loc), f_X12_readCity_0 o0 h = some res → Iv g s n0 z0 h H locs 0 0 → lv_has ls 2 [(0, .ref (rfG g o0))] → W p l e R s m args below meth c H locs 0 0 (MQ below (QG g none res.2) args s 0 0 (AG g)) (F0 m 0 ls []) := by
  have hx := X.1
  have hb := X.2.1
  intro o0 h ls H locs hf I hl
  unfold f_X12_readCity_0 at hf
  refine lv_aload_n hx hb dX12_readCity_0 rfl (lv_at hl 0 rfl) ?_
  refine lv_aload_n hx hb dX12_readCity_1 rfl (lv_at hl 0 rfl) ?_
  obtain ⟨v1, e2, hf⟩ := Option.bind_eq_some_iff.mp hf
  refine r_gR X I e2 lk_TrapCornerModel_9 dX12_readCity_2 ?_
  refine lv_iconst (v := 0) hx hb dX12_readCity_5 (by decide) ?_
  refine lv_aload_n hx hb dX12_readCity_6 rfl (lv_at hl 0 rfl) ?_
  obtain ⟨v3, e4, hf⟩ := Option.bind_eq_some_iff.mp hf
  refine r_gI X I e4 lk_TrapCornerModel_109 dX12_readCity_7 ?_
  obtain ⟨_, g9, hf⟩ := Option.bind_eq_some_iff.mp hf
  obtain ⟨⟨⟩, h6, e7, z8, hf⟩ := cN_spec hf
  refine k_Vv (As := [.ref (rfG g v1), .int 0, .int v3]) (rest := []) X I (c_X12_starts l g o0 v1 0 v3 e7) z8 g9 vk_TrapCornerModel_207 tw_1473 ⟨Nat.le_trans (by decide) hR.1, Nat.le_trans (by decide) hR.2⟩ ⟨Nat.zero_le _, Nat.zero_le _⟩ rfl hl.1 rfl (Nat.le_of_ble_eq_true rfl) dX12_readCity_10 (fun H locs I => ?_)
  refine lv_aload_n hx hb dX12_readCity_13 rfl (lv_at hl 0 rfl) ?_
  refine lv_iconst (v := 0) hx hb dX12_readCity_14 (by decide) ?_
  obtain ⟨h10, e11, hf⟩ := Option.bind_eq_some_iff.mp hf
  refine r_pI X I e11 lp_TrapCornerModel_245 dX12_readCity_15 (fun H locs I => ?_)
  refine lv_aload_n hx hb dX12_readCity_18 rfl (lv_at hl 0 rfl) ?_
  refine lv_iconst (v := 0) hx hb dX12_readCity_19 (by decide) ?_
  obtain ⟨h12, e13, hf⟩ := Option.bind_eq_some_iff.mp hf
  refine r_pI X I e13 lp_TrapCornerModel_248 dX12_readCity_20 (fun H locs I => ?_)
  refine lv_aload_n hx hb dX12_readCity_23 rfl (lv_at hl 0 rfl) ?_
  refine lv_iconst (v := 0) hx hb dX12_readCity_24 (by decide) ?_
  obtain ⟨h14, e15, hf⟩ := Option.bind_eq_some_iff.mp hf
  refine r_pZ X I e15 lp_TrapCornerModel_242 dX12_readCity_25 (fun H locs I => ?_)
  refine lv_iconst (v := 0) hx hb dX12_readCity_28 (by decide) ?_
  refine lv_istore_n (lv' := [(1, .int 0), (0, .ref (rfG g o0))]) hx hb dX12_readCity_29 rfl hl (by decide) rfl (fun ls hl => ?_)
  exact w_X12_readCity_30 X hR hr fu o0 0 h14 ls H locs hf I (lv_sub hl [1, 0] rfl)
def f_X12_readCity (o0 : Nat) (h : AH) : Option (Unit × AH) := f_X12_readCity_0 o0 h
end
theorem c_X12_readCity (l : Launch) (g : GG) (o0 : Nat) {h : AH} {res : Unit × AH} (hf : f_X12_readCity o0 h = some res) : CM l g yX12_readCity cX12_readCity 2 none 8 512 0 0 [.ref (rfG g o0)] h none res.2 :=
  k_body (by decide) (Nat.le_of_ble_eq_true rfl) (fun p e s m below meth c R ls hR hr X I hl => w_X12_readCity_0 X ⟨Nat.le_of_eq hR.1.symm, Nat.le_of_eq hR.2.1.symm⟩ hr o0 h ls s.heap [] hf I (lv_sub hl [0] rfl))
