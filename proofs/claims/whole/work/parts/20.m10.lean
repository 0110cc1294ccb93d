/-! TrapCorner$Round.settle(LTrapCorner$State;)V -/
theorem dX6_settle_0 : decode cX6_settle 0 = .ok (.iconst 0, 1) := by decide +kernel
theorem dX6_settle_1 : decode cX6_settle 1 = .ok (.istore_n 2, 1) := by decide +kernel
theorem dX6_settle_2 : decode cX6_settle 2 = .ok (.iload_n 2, 1) := by decide +kernel
theorem dX6_settle_3 : decode cX6_settle 3 = .ok (.aload_n 0, 1) := by decide +kernel
theorem dX6_settle_4 : decode cX6_settle 4 = .ok (.getfield 18, 3) := by decide +kernel
theorem dX6_settle_7 : decode cX6_settle 7 = .ok (.getfield 103, 3) := by decide +kernel
theorem dX6_settle_10 : decode cX6_settle 10 = .ok (.if_icmp .ge 88, 3) := by decide +kernel
theorem dX6_settle_13 : decode cX6_settle 13 = .ok (.aload_n 0, 1) := by decide +kernel
theorem dX6_settle_14 : decode cX6_settle 14 = .ok (.getfield 9, 3) := by decide +kernel
theorem dX6_settle_17 : decode cX6_settle 17 = .ok (.iload_n 2, 1) := by decide +kernel
theorem dX6_settle_18 : decode cX6_settle 18 = .ok (.iaload, 1) := by decide +kernel
theorem dX6_settle_19 : decode cX6_settle 19 = .ok (.iconst (-1), 1) := by decide +kernel
theorem dX6_settle_20 : decode cX6_settle 20 = .ok (.if_icmp .eq 72, 3) := by decide +kernel
theorem dX6_settle_23 : decode cX6_settle 23 = .ok (.aload_n 1, 1) := by decide +kernel
theorem dX6_settle_24 : decode cX6_settle 24 = .ok (.getfield 67, 3) := by decide +kernel
theorem dX6_settle_27 : decode cX6_settle 27 = .ok (.aload_n 0, 1) := by decide +kernel
theorem dX6_settle_28 : decode cX6_settle 28 = .ok (.getfield 9, 3) := by decide +kernel
theorem dX6_settle_31 : decode cX6_settle 31 = .ok (.iload_n 2, 1) := by decide +kernel
theorem dX6_settle_32 : decode cX6_settle 32 = .ok (.iaload, 1) := by decide +kernel
theorem dX6_settle_33 : decode cX6_settle 33 = .ok (.dup2, 1) := by decide +kernel
theorem dX6_settle_34 : decode cX6_settle 34 = .ok (.iaload, 1) := by decide +kernel
theorem dX6_settle_35 : decode cX6_settle 35 = .ok (.iconst 1, 1) := by decide +kernel
theorem dX6_settle_36 : decode cX6_settle 36 = .ok (.isub, 1) := by decide +kernel
theorem dX6_settle_37 : decode cX6_settle 37 = .ok (.iastore, 1) := by decide +kernel
theorem dX6_settle_38 : decode cX6_settle 38 = .ok (.aload_n 1, 1) := by decide +kernel
theorem dX6_settle_39 : decode cX6_settle 39 = .ok (.getfield 82, 3) := by decide +kernel
theorem dX6_settle_42 : decode cX6_settle 42 = .ok (.iload_n 2, 1) := by decide +kernel
theorem dX6_settle_43 : decode cX6_settle 43 = .ok (.bipush 99, 2) := by decide +kernel
theorem dX6_settle_45 : decode cX6_settle 45 = .ok (.aload_n 1, 1) := by decide +kernel
theorem dX6_settle_46 : decode cX6_settle 46 = .ok (.getfield 82, 3) := by decide +kernel
theorem dX6_settle_49 : decode cX6_settle 49 = .ok (.iload_n 2, 1) := by decide +kernel
theorem dX6_settle_50 : decode cX6_settle 50 = .ok (.iaload, 1) := by decide +kernel
theorem dX6_settle_51 : decode cX6_settle 51 = .ok (.iconst 1, 1) := by decide +kernel
theorem dX6_settle_52 : decode cX6_settle 52 = .ok (.iadd, 1) := by decide +kernel
theorem dX6_settle_53 : decode cX6_settle 53 = .ok (.invokestatic 106, 3) := by decide +kernel
theorem dX6_settle_56 : decode cX6_settle 56 = .ok (.iastore, 1) := by decide +kernel
theorem dX6_settle_57 : decode cX6_settle 57 = .ok (.aload_n 1, 1) := by decide +kernel
theorem dX6_settle_58 : decode cX6_settle 58 = .ok (.getfield 79, 3) := by decide +kernel
theorem dX6_settle_61 : decode cX6_settle 61 = .ok (.iload_n 2, 1) := by decide +kernel
theorem dX6_settle_62 : decode cX6_settle 62 = .ok (.bipush 9, 2) := by decide +kernel
theorem dX6_settle_64 : decode cX6_settle 64 = .ok (.aload_n 1, 1) := by decide +kernel
theorem dX6_settle_65 : decode cX6_settle 65 = .ok (.getfield 79, 3) := by decide +kernel
theorem dX6_settle_68 : decode cX6_settle 68 = .ok (.iload_n 2, 1) := by decide +kernel
theorem dX6_settle_69 : decode cX6_settle 69 = .ok (.iaload, 1) := by decide +kernel
theorem dX6_settle_70 : decode cX6_settle 70 = .ok (.iconst 1, 1) := by decide +kernel
theorem dX6_settle_71 : decode cX6_settle 71 = .ok (.iadd, 1) := by decide +kernel
theorem dX6_settle_72 : decode cX6_settle 72 = .ok (.invokestatic 106, 3) := by decide +kernel
theorem dX6_settle_75 : decode cX6_settle 75 = .ok (.iastore, 1) := by decide +kernel
theorem dX6_settle_76 : decode cX6_settle 76 = .ok (.aload_n 1, 1) := by decide +kernel
theorem dX6_settle_77 : decode cX6_settle 77 = .ok (.sipush 999, 3) := by decide +kernel
theorem dX6_settle_80 : decode cX6_settle 80 = .ok (.aload_n 1, 1) := by decide +kernel
theorem dX6_settle_81 : decode cX6_settle 81 = .ok (.getfield 111, 3) := by decide +kernel
theorem dX6_settle_84 : decode cX6_settle 84 = .ok (.iconst 1, 1) := by decide +kernel
theorem dX6_settle_85 : decode cX6_settle 85 = .ok (.iadd, 1) := by decide +kernel
theorem dX6_settle_86 : decode cX6_settle 86 = .ok (.invokestatic 106, 3) := by decide +kernel
theorem dX6_settle_89 : decode cX6_settle 89 = .ok (.putfield 111, 3) := by decide +kernel
theorem dX6_settle_92 : decode cX6_settle 92 = .ok (.iinc 2 1, 3) := by decide +kernel
theorem dX6_settle_95 : decode cX6_settle 95 = .ok (.goto (-93), 3) := by decide +kernel
theorem dX6_settle_98 : decode cX6_settle 98 = .ok (.aload_n 1, 1) := by decide +kernel
theorem dX6_settle_99 : decode cX6_settle 99 = .ok (.dup, 1) := by decide +kernel
theorem dX6_settle_100 : decode cX6_settle 100 = .ok (.getfield 85, 3) := by decide +kernel
theorem dX6_settle_103 : decode cX6_settle 103 = .ok (.iconst 1, 1) := by decide +kernel
theorem dX6_settle_104 : decode cX6_settle 104 = .ok (.iadd, 1) := by decide +kernel
theorem dX6_settle_105 : decode cX6_settle 105 = .ok (.putfield 85, 3) := by decide +kernel
theorem dX6_settle_108 : decode cX6_settle 108 = .ok (.return_, 1) := by decide +kernel
theorem lk_TrapCorner_Round_18 : LK "TrapCorner$Round" 18 [6] 0 := by
  intro ci hci
  have hci := List.mem_singleton.mp hci
  subst hci
  exact ⟨RX6, TX6, 7, "TrapCorner$Round", ck_6, by decide, tw_300, Or.inl rfl⟩
theorem lk_TrapCorner_Round_103 : LK "TrapCorner$Round" 103 [10] 1 := by
  intro ci hci
  have hci := List.mem_singleton.mp hci
  subst hci
  exact ⟨RX10, TX10, 13, "TrapCorner$Town", ck_10, by decide, tw_73, Or.inl rfl⟩
theorem lk_TrapCorner_Round_85 : LK "TrapCorner$Round" 85 [8] 7 := by
  intro ci hci
  have hci := List.mem_singleton.mp hci
  subst hci
  exact ⟨RX8, TX8, 8, "TrapCorner$State", ck_8, by decide, tw_222, Or.inl rfl⟩
theorem lp_TrapCorner_Round_85 : LKP "TrapCorner$Round" 85 [8] 7 (.int) := by
  intro ci hci
  have hci := List.mem_singleton.mp hci
  subst hci
  exact ⟨RX8, TX8, 8, "TrapCorner$State", ck_8, by decide, tw_222, Or.inl rfl, rfl, by decide +kernel⟩
theorem lk_TrapCorner_Round_67 : LK "TrapCorner$Round" 67 [8] 1 := by
  intro ci hci
  have hci := List.mem_singleton.mp hci
  subst hci
  exact ⟨RX8, TX8, 8, "TrapCorner$State", ck_8, by decide, tw_204, Or.inl rfl⟩
theorem lk_TrapCorner_Round_82 : LK "TrapCorner$Round" 82 [8] 3 := by
  intro ci hci
  have hci := List.mem_singleton.mp hci
  subst hci
  exact ⟨RX8, TX8, 8, "TrapCorner$State", ck_8, by decide, tw_210, Or.inl rfl⟩
theorem sk_TrapCorner_Round_106 : SK "TrapCorner$Round" 106 yJ9_min_7cf53 2 := ⟨tw_946, tw_528, tw_17, ⟨by decide, by decide⟩, by decide +kernel⟩
theorem lk_TrapCorner_Round_79 : LK "TrapCorner$Round" 79 [8] 2 := by
  intro ci hci
  have hci := List.mem_singleton.mp hci
  subst hci
  exact ⟨RX8, TX8, 8, "TrapCorner$State", ck_8, by decide, tw_207, Or.inl rfl⟩
theorem lk_TrapCorner_Round_111 : LK "TrapCorner$Round" 111 [8] 6 := by
  intro ci hci
  have hci := List.mem_singleton.mp hci
  subst hci
  exact ⟨RX8, TX8, 8, "TrapCorner$State", ck_8, by decide, tw_219, Or.inl rfl⟩
theorem lp_TrapCorner_Round_111 : LKP "TrapCorner$Round" 111 [8] 6 (.int) := by
  intro ci hci
  have hci := List.mem_singleton.mp hci
  subst hci
  exact ⟨RX8, TX8, 8, "TrapCorner$State", ck_8, by decide, tw_219, Or.inl rfl, rfl, by decide +kernel⟩
section
variable {g : GG} {p : Program} {l : Launch} {e : Env} {R : Room} {s : State} {m : MethodId} {args : Array Value} {below : List Frame} {meth : Method} {c : Code} {n0 z0 : Nat}
def f_X6_settle_92 (k2 : Nat → Nat → Int32 → AH → Option (Unit × AH)) (o0 : Nat) (o1 : Nat) (x2 : Int32) (h : AH) : Option (Unit × AH) :=
  k2 o0 o1 (x2 + 1) h
set_option maxHeartbeats 1000000 in
theorem w_X6_settle_92 (X : Cx g p s m args meth c cX6_settle 3 "TrapCorner$Round") (hR : 2 ≤ R.frames ∧ 128 ≤ R.locals) (hr : meth.sig.returnType = none) {res : Unit × AH} {k2 : Nat → Nat → Int32 → AH → Option (Unit × AH)} (hk2 : ∀ (o0 : Nat) (o1 : Nat) (x2 : Int32) (h : AH) (ls : Array Slot) (H : Heap) (locs : List Loc), k2 o0 o1 x2 h = some res → Iv g s n0 z0 h H locs 0 0 → lv_has ls 3 [(0, .ref (rfG g o0)), (1, .ref (rfG g o1)), (2, .int x2)] → W p l e R s m args below meth c H locs 0 0 (MQ below (QG g none res.2) args s 0 0 (AG g)) (F0 m 2 ls [])) : ∀ (o0 : Nat) (o1 : Nat) (x2 : Int32) (h : AH) (ls : Array Slot) (H : Heap) (locs : List Loc), f_X6_settle_92 k2 o0 o1 x2 h = some res → Iv g s n0 z0 h H locs 0 0 → lv_has ls 3 [(0, .ref (rfG g o0)), (1, .ref (rfG g o1)), (2, .int x2)] → W p l e R s m args below meth c H locs 0 0 (MQ below (QG g none res.2) args s 0 0 (AG g)) (F0 m 92 ls []) := by
  have hx := X.1
  have hb := X.2.1
  intro o0 o1 x2 h ls H locs hf I hl
  unfold f_X6_settle_92 at hf
  refine lv_iinc (v := x2 + 1) (lv' := [(2, .int (x2 + 1)), (0, .ref (rfG g o0)), (1, .ref (rfG g o1))]) hx hb dX6_settle_92 hl (k := 2) rfl rfl (by decide) rfl (fun ls hl => ?_)
  refine lv_goto (tgt := 2) hx hb dX6_settle_95 (by decide) ?_
  exact hk2 o0 o1 (x2 + 1) h ls H locs hf I (lv_sub hl [1, 2, 0] rfl)
def f_X6_settle_2  : Nat → Nat → Nat → Int32 → AH → Option (Unit × AH)
  | 0, _, _, _, _ => none
  | n + 1, o0, o1, x2, h =>
  (gR [6] h o0 0).bind fun v1 =>
  (gI [10] h v1 1).bind fun v3 =>
  if v3 ≤ x2 then
    (gI [8] h o1 7).bind fun v6 =>
    (pV [8] h o1 7 (.int (v6 + 1))).bind fun h8 =>
    some ((), h8)
  else
    (gR [6] h o0 2).bind fun v10 =>
    (aI 0 h v10 x2).bind fun v12 =>
    if v12 = ((-1)) then
      f_X6_settle_92 (f_X6_settle_2 n) o0 o1 x2 h
    else
      (gR [8] h o1 1).bind fun v15 =>
      (gR [6] h o0 2).bind fun v17 =>
      (aI 0 h v17 x2).bind fun v19 =>
      (aI 0 h v15 v19).bind fun v21 =>
      (uI 0 h v15 v19 (v21 - 1)).bind fun h23 =>
      (gR [8] h23 o1 3).bind fun v25 =>
      (gR [8] h23 o1 3).bind fun v27 =>
      (aI 0 h23 v27 x2).bind fun v29 =>
      cN (f_J9_min_7cf53 99 (v29 + 1) h23) h23 fun v31 h32 =>
      (uI 0 h32 v25 x2 v31).bind fun h35 =>
      (gR [8] h35 o1 2).bind fun v37 =>
      (gR [8] h35 o1 2).bind fun v39 =>
      (aI 0 h35 v39 x2).bind fun v41 =>
      cN (f_J9_min_7cf53 9 (v41 + 1) h35) h35 fun v43 h44 =>
      (uI 0 h44 v37 x2 v43).bind fun h47 =>
      (gI [8] h47 o1 6).bind fun v49 =>
      cN (f_J9_min_7cf53 999 (v49 + 1) h47) h47 fun v51 h52 =>
      (pV [8] h52 o1 6 (.int v51)).bind fun h55 =>
      f_X6_settle_92 (f_X6_settle_2 n) o0 o1 x2 h55
set_option maxHeartbeats 1000000 in
theorem w_X6_settle_2 (X : Cx g p s m args meth c cX6_settle 3 "TrapCorner$Round") (hR : 2 ≤ R.frames ∧ 128 ≤ R.locals) (hr : meth.sig.returnType = none) {res : Unit × AH} : ∀ (n : Nat) (o0 : Nat) (o1 : Nat) (x2 : Int32) (h : AH) (ls : Array Slot) (H : Heap) (locs : List Loc), f_X6_settle_2 n o0 o1 x2 h = some res → Iv g s n0 z0 h H locs 0 0 → lv_has ls 3 [(0, .ref (rfG g o0)), (1, .ref (rfG g o1)), (2, .int x2)] → W p l e R s m args below meth c H locs 0 0 (MQ below (QG g none res.2) args s 0 0 (AG g)) (F0 m 2 ls []) := by
  have hx := X.1
  have hb := X.2.1
  intro n
  induction n with
  | zero =>
    intro o0 o1 x2 h ls H locs hf
    rw [f_X6_settle_2.eq_1] at hf
    cases hf
  | succ n ih =>
    intro o0 o1 x2 h ls H locs hf I hl
    rw [f_X6_settle_2.eq_2] at hf
    refine lv_iload_n hx hb dX6_settle_2 rfl (lv_at hl 2 rfl) ?_
    refine lv_aload_n hx hb dX6_settle_3 rfl (lv_at hl 0 rfl) ?_
    obtain ⟨v1, e2, hf⟩ := Option.bind_eq_some_iff.mp hf
    refine r_gR X I e2 lk_TrapCorner_Round_18 dX6_settle_4 ?_
    obtain ⟨v3, e4, hf⟩ := Option.bind_eq_some_iff.mp hf
    refine r_gI X I e4 lk_TrapCorner_Round_103 dX6_settle_7 ?_
    refine lv_icmp_ge (tgt := 98) hx hb dX6_settle_10 (by decide) (fun c5 => ?_) (fun c5 => ?_)
    · rw [if_pos c5] at hf
      refine lv_aload_n hx hb dX6_settle_98 rfl (lv_at hl 1 rfl) ?_
      refine lv_dup hx hb dX6_settle_99 rfl ?_
      obtain ⟨v6, e7, hf⟩ := Option.bind_eq_some_iff.mp hf
      refine r_gI X I e7 lk_TrapCorner_Round_85 dX6_settle_100 ?_
      refine lv_iconst (v := 1) hx hb dX6_settle_103 (by decide) ?_
      refine lv_iadd hx hb dX6_settle_104 ?_
      obtain ⟨h8, e9, hf⟩ := Option.bind_eq_some_iff.mp hf
      refine r_pI X I e9 lp_TrapCorner_Round_85 dX6_settle_105 (fun H locs I => ?_)
      cases hf
      exact k_rv X I hr dX6_settle_108
    · rw [if_neg c5] at hf
      refine lv_aload_n hx hb dX6_settle_13 rfl (lv_at hl 0 rfl) ?_
      obtain ⟨v10, e11, hf⟩ := Option.bind_eq_some_iff.mp hf
      refine r_gR X I e11 lk_TrapCorner_Round_9 dX6_settle_14 ?_
      refine lv_iload_n hx hb dX6_settle_17 rfl (lv_at hl 2 rfl) ?_
      obtain ⟨v12, e13, hf⟩ := Option.bind_eq_some_iff.mp hf
      refine r_aI0 X I e13 dX6_settle_18 ?_
      refine lv_iconst (v := (-1)) hx hb dX6_settle_19 (by decide) ?_
      refine lv_icmp_eq (tgt := 92) hx hb dX6_settle_20 (by decide) (fun c14 => ?_) (fun c14 => ?_)
      · rw [if_pos c14] at hf
        exact w_X6_settle_92 X hR hr ih o0 o1 x2 h ls H locs hf I (lv_sub hl [0, 1, 2] rfl)
      · rw [if_neg c14] at hf
        refine lv_aload_n hx hb dX6_settle_23 rfl (lv_at hl 1 rfl) ?_
        obtain ⟨v15, e16, hf⟩ := Option.bind_eq_some_iff.mp hf
        refine r_gR X I e16 lk_TrapCorner_Round_67 dX6_settle_24 ?_
        refine lv_aload_n hx hb dX6_settle_27 rfl (lv_at hl 0 rfl) ?_
        obtain ⟨v17, e18, hf⟩ := Option.bind_eq_some_iff.mp hf
        refine r_gR X I e18 lk_TrapCorner_Round_9 dX6_settle_28 ?_
        refine lv_iload_n hx hb dX6_settle_31 rfl (lv_at hl 2 rfl) ?_
        obtain ⟨v19, e20, hf⟩ := Option.bind_eq_some_iff.mp hf
        refine r_aI0 X I e20 dX6_settle_32 ?_
        refine lv_dup2_11 hx hb dX6_settle_33 rfl rfl ?_
        obtain ⟨v21, e22, hf⟩ := Option.bind_eq_some_iff.mp hf
        refine r_aI0 X I e22 dX6_settle_34 ?_
        refine lv_iconst (v := 1) hx hb dX6_settle_35 (by decide) ?_
        refine lv_isub hx hb dX6_settle_36 ?_
        obtain ⟨h23, e24, hf⟩ := Option.bind_eq_some_iff.mp hf
        refine r_uI0 X I e24 dX6_settle_37 (fun H locs I => ?_)
        refine lv_aload_n hx hb dX6_settle_38 rfl (lv_at hl 1 rfl) ?_
        obtain ⟨v25, e26, hf⟩ := Option.bind_eq_some_iff.mp hf
        refine r_gR X I e26 lk_TrapCorner_Round_82 dX6_settle_39 ?_
        refine lv_iload_n hx hb dX6_settle_42 rfl (lv_at hl 2 rfl) ?_
        refine lv_bipush (v := 99) hx hb dX6_settle_43 (by decide) ?_
        refine lv_aload_n hx hb dX6_settle_45 rfl (lv_at hl 1 rfl) ?_
        obtain ⟨v27, e28, hf⟩ := Option.bind_eq_some_iff.mp hf
        refine r_gR X I e28 lk_TrapCorner_Round_82 dX6_settle_46 ?_
        refine lv_iload_n hx hb dX6_settle_49 rfl (lv_at hl 2 rfl) ?_
        obtain ⟨v29, e30, hf⟩ := Option.bind_eq_some_iff.mp hf
        refine r_aI0 X I e30 dX6_settle_50 ?_
        refine lv_iconst (v := 1) hx hb dX6_settle_51 (by decide) ?_
        refine lv_iadd hx hb dX6_settle_52 ?_
        obtain ⟨v31, h32, e33, z34, hf⟩ := cN_spec hf
        refine k_Si (As := [.int 99, .int (v29 + 1)]) (rest := [.int x2, .ref (rfG g v25)]) X I (c_J9_min_7cf53 l g 99 (v29 + 1) e33) z34 sk_TrapCorner_Round_106 tw_529 ⟨Nat.le_trans (by decide) hR.1, Nat.le_trans (by decide) hR.2⟩ ⟨Nat.zero_le _, Nat.zero_le _⟩ rfl hl.1 rfl (Nat.le_of_ble_eq_true rfl) dX6_settle_53 (fun H locs I => ?_)
        obtain ⟨h35, e36, hf⟩ := Option.bind_eq_some_iff.mp hf
        refine r_uI0 X I e36 dX6_settle_56 (fun H locs I => ?_)
        refine lv_aload_n hx hb dX6_settle_57 rfl (lv_at hl 1 rfl) ?_
        obtain ⟨v37, e38, hf⟩ := Option.bind_eq_some_iff.mp hf
        refine r_gR X I e38 lk_TrapCorner_Round_79 dX6_settle_58 ?_
        refine lv_iload_n hx hb dX6_settle_61 rfl (lv_at hl 2 rfl) ?_
        refine lv_bipush (v := 9) hx hb dX6_settle_62 (by decide) ?_
        refine lv_aload_n hx hb dX6_settle_64 rfl (lv_at hl 1 rfl) ?_
        obtain ⟨v39, e40, hf⟩ := Option.bind_eq_some_iff.mp hf
        refine r_gR X I e40 lk_TrapCorner_Round_79 dX6_settle_65 ?_
        refine lv_iload_n hx hb dX6_settle_68 rfl (lv_at hl 2 rfl) ?_
        obtain ⟨v41, e42, hf⟩ := Option.bind_eq_some_iff.mp hf
        refine r_aI0 X I e42 dX6_settle_69 ?_
        refine lv_iconst (v := 1) hx hb dX6_settle_70 (by decide) ?_
        refine lv_iadd hx hb dX6_settle_71 ?_
        obtain ⟨v43, h44, e45, z46, hf⟩ := cN_spec hf
        refine k_Si (As := [.int 9, .int (v41 + 1)]) (rest := [.int x2, .ref (rfG g v37)]) X I (c_J9_min_7cf53 l g 9 (v41 + 1) e45) z46 sk_TrapCorner_Round_106 tw_529 ⟨Nat.le_trans (by decide) hR.1, Nat.le_trans (by decide) hR.2⟩ ⟨Nat.zero_le _, Nat.zero_le _⟩ rfl hl.1 rfl (Nat.le_of_ble_eq_true rfl) dX6_settle_72 (fun H locs I => ?_)
        obtain ⟨h47, e48, hf⟩ := Option.bind_eq_some_iff.mp hf
        refine r_uI0 X I e48 dX6_settle_75 (fun H locs I => ?_)
        refine lv_aload_n hx hb dX6_settle_76 rfl (lv_at hl 1 rfl) ?_
        refine lv_sipush (v := 999) hx hb dX6_settle_77 (by decide) ?_
        refine lv_aload_n hx hb dX6_settle_80 rfl (lv_at hl 1 rfl) ?_
        obtain ⟨v49, e50, hf⟩ := Option.bind_eq_some_iff.mp hf
        refine r_gI X I e50 lk_TrapCorner_Round_111 dX6_settle_81 ?_
        refine lv_iconst (v := 1) hx hb dX6_settle_84 (by decide) ?_
        refine lv_iadd hx hb dX6_settle_85 ?_
        obtain ⟨v51, h52, e53, z54, hf⟩ := cN_spec hf
        refine k_Si (As := [.int 999, .int (v49 + 1)]) (rest := [.ref (rfG g o1)]) X I (c_J9_min_7cf53 l g 999 (v49 + 1) e53) z54 sk_TrapCorner_Round_106 tw_529 ⟨Nat.le_trans (by decide) hR.1, Nat.le_trans (by decide) hR.2⟩ ⟨Nat.zero_le _, Nat.zero_le _⟩ rfl hl.1 rfl (Nat.le_of_ble_eq_true rfl) dX6_settle_86 (fun H locs I => ?_)
        obtain ⟨h55, e56, hf⟩ := Option.bind_eq_some_iff.mp hf
        refine r_pI X I e56 lp_TrapCorner_Round_111 dX6_settle_89 (fun H locs I => ?_)
        exact w_X6_settle_92 X hR hr ih o0 o1 x2 h55 ls H locs hf I (lv_sub hl [0, 1, 2] rfl)
def f_X6_settle_0  (o0 : Nat) (o1 : Nat) (h : AH) : Option (Unit × AH) :=
  f_X6_settle_2 fu o0 o1 0 h
set_option maxHeartbeats 1000000 in
theorem w_X6_settle_0 (X : Cx g p s m args meth c cX6_settle 3 "TrapCorner$Round") (hR : 2 ≤ R.frames ∧ 128 ≤ R.locals) (hr : meth.sig.returnType = none) {res : Unit × AH} : ∀ (o0 : Nat) (o1 : Nat) (h : AH) (ls : Array Slot) (H : Heap) (locs : List Loc), f_X6_settle_0 o0 o1 h = some res → Iv g s n0 z0 h H locs 0 0 → lv_has ls 3 [(0, .ref (rfG g o0)), (1, .ref (rfG g o1))] → W p l e R s m args below meth c H locs 0 0 (MQ below (QG g none res.2) args s 0 0 (AG g)) (F0 m 0 ls []) := by
  have hx := X.1
  have hb := X.2.1
  intro o0 o1 h ls H locs hf I hl
  unfold f_X6_settle_0 at hf
  refine lv_iconst (v := 0) hx hb dX6_settle_0 (by decide) ?_
  refine lv_istore_n (lv' := [(2, .int 0), (0, .ref (rfG g o0)), (1, .ref (rfG g o1))]) hx hb dX6_settle_1 rfl hl (by decide) rfl (fun ls hl => ?_)
  exact w_X6_settle_2 X hR hr fu o0 o1 0 h ls H locs hf I (lv_sub hl [1, 2, 0] rfl)
def f_X6_settle (o0 : Nat) (o1 : Nat) (h : AH) : Option (Unit × AH) := f_X6_settle_0 o0 o1 h
end
theorem c_X6_settle (l : Launch) (g : GG) (o0 : Nat) (o1 : Nat) {h : AH} {res : Unit × AH} (hf : f_X6_settle o0 o1 h = some res) : CM l g yX6_settle cX6_settle 3 none 2 128 0 0 [.ref (rfG g o0), .ref (rfG g o1)] h none res.2 :=
  k_body (by decide) (Nat.le_of_ble_eq_true rfl) (fun p e s m below meth c R ls hR hr X I hl => w_X6_settle_0 X ⟨Nat.le_of_eq hR.1.symm, Nat.le_of_eq hR.2.1.symm⟩ hr o0 o1 h ls s.heap [] hf I (lv_sub hl [0, 1] rfl))
/-! TrapCorner$State.begin(LTrapCorner$Town;)V -/
theorem dX8_begin_0 : decode cX8_begin 0 = .ok (.aload_n 1, 1) := by decide +kernel
theorem dX8_begin_1 : decode cX8_begin 1 = .ok (.getfield 31, 3) := by decide +kernel
theorem dX8_begin_4 : decode cX8_begin 4 = .ok (.iconst 0, 1) := by decide +kernel
theorem dX8_begin_5 : decode cX8_begin 5 = .ok (.aload_n 0, 1) := by decide +kernel
theorem dX8_begin_6 : decode cX8_begin 6 = .ok (.getfield 9, 3) := by decide +kernel
theorem dX8_begin_9 : decode cX8_begin 9 = .ok (.iconst 0, 1) := by decide +kernel
theorem dX8_begin_10 : decode cX8_begin 10 = .ok (.iconst 5, 1) := by decide +kernel
theorem dX8_begin_11 : decode cX8_begin 11 = .ok (.invokestatic 34, 3) := by decide +kernel
theorem dX8_begin_14 : decode cX8_begin 14 = .ok (.aload_n 1, 1) := by decide +kernel
theorem dX8_begin_15 : decode cX8_begin 15 = .ok (.getfield 40, 3) := by decide +kernel
theorem dX8_begin_18 : decode cX8_begin 18 = .ok (.iconst 0, 1) := by decide +kernel
theorem dX8_begin_19 : decode cX8_begin 19 = .ok (.aload_n 0, 1) := by decide +kernel
theorem dX8_begin_20 : decode cX8_begin 20 = .ok (.getfield 15, 3) := by decide +kernel
theorem dX8_begin_23 : decode cX8_begin 23 = .ok (.iconst 0, 1) := by decide +kernel
theorem dX8_begin_24 : decode cX8_begin 24 = .ok (.iconst 5, 1) := by decide +kernel
theorem dX8_begin_25 : decode cX8_begin 25 = .ok (.invokestatic 34, 3) := by decide +kernel
theorem dX8_begin_28 : decode cX8_begin 28 = .ok (.aload_n 1, 1) := by decide +kernel
theorem dX8_begin_29 : decode cX8_begin 29 = .ok (.getfield 41, 3) := by decide +kernel
theorem dX8_begin_32 : decode cX8_begin 32 = .ok (.iconst 0, 1) := by decide +kernel
theorem dX8_begin_33 : decode cX8_begin 33 = .ok (.aload_n 0, 1) := by decide +kernel
theorem dX8_begin_34 : decode cX8_begin 34 = .ok (.getfield 18, 3) := by decide +kernel
theorem dX8_begin_37 : decode cX8_begin 37 = .ok (.iconst 0, 1) := by decide +kernel
theorem dX8_begin_38 : decode cX8_begin 38 = .ok (.bipush 6, 2) := by decide +kernel
theorem dX8_begin_40 : decode cX8_begin 40 = .ok (.invokestatic 34, 3) := by decide +kernel
theorem dX8_begin_43 : decode cX8_begin 43 = .ok (.aload_n 1, 1) := by decide +kernel
theorem dX8_begin_44 : decode cX8_begin 44 = .ok (.getfield 42, 3) := by decide +kernel
theorem dX8_begin_47 : decode cX8_begin 47 = .ok (.iconst 0, 1) := by decide +kernel
theorem dX8_begin_48 : decode cX8_begin 48 = .ok (.aload_n 0, 1) := by decide +kernel
theorem dX8_begin_49 : decode cX8_begin 49 = .ok (.getfield 24, 3) := by decide +kernel
theorem dX8_begin_52 : decode cX8_begin 52 = .ok (.iconst 0, 1) := by decide +kernel
theorem dX8_begin_53 : decode cX8_begin 53 = .ok (.bipush 6, 2) := by decide +kernel
theorem dX8_begin_55 : decode cX8_begin 55 = .ok (.invokestatic 34, 3) := by decide +kernel
theorem dX8_begin_58 : decode cX8_begin 58 = .ok (.aload_n 0, 1) := by decide +kernel
theorem dX8_begin_59 : decode cX8_begin 59 = .ok (.getfield 21, 3) := by decide +kernel
theorem dX8_begin_62 : decode cX8_begin 62 = .ok (.iconst 0, 1) := by decide +kernel
theorem dX8_begin_63 : decode cX8_begin 63 = .ok (.invokestatic 43, 3) := by decide +kernel
theorem dX8_begin_66 : decode cX8_begin 66 = .ok (.aload_n 0, 1) := by decide +kernel
theorem dX8_begin_67 : decode cX8_begin 67 = .ok (.iconst (-1), 1) := by decide +kernel
theorem dX8_begin_68 : decode cX8_begin 68 = .ok (.putfield 27, 3) := by decide +kernel
theorem dX8_begin_71 : decode cX8_begin 71 = .ok (.aload_n 0, 1) := by decide +kernel
theorem dX8_begin_72 : decode cX8_begin 72 = .ok (.aload_n 1, 1) := by decide +kernel
theorem dX8_begin_73 : decode cX8_begin 73 = .ok (.getfield 49, 3) := by decide +kernel
theorem dX8_begin_76 : decode cX8_begin 76 = .ok (.putfield 52, 3) := by decide +kernel
theorem dX8_begin_79 : decode cX8_begin 79 = .ok (.aload_n 0, 1) := by decide +kernel
theorem dX8_begin_80 : decode cX8_begin 80 = .ok (.iconst 0, 1) := by decide +kernel
theorem dX8_begin_81 : decode cX8_begin 81 = .ok (.putfield 53, 3) := by decide +kernel
theorem dX8_begin_84 : decode cX8_begin 84 = .ok (.return_, 1) := by decide +kernel
theorem lk_TrapCorner_State_31 : LK "TrapCorner$State" 31 [10] 5 := by
  intro ci hci
  have hci := List.mem_singleton.mp hci
  subst hci
  exact ⟨RX10, TX10, 13, "TrapCorner$Town", ck_10, by decide, tw_85, Or.inl rfl⟩
theorem lk_TrapCorner_State_40 : LK "TrapCorner$State" 40 [10] 6 := by
  intro ci hci
  have hci := List.mem_singleton.mp hci
  subst hci
  exact ⟨RX10, TX10, 13, "TrapCorner$Town", ck_10, by decide, tw_87, Or.inl rfl⟩
theorem lk_TrapCorner_State_41 : LK "TrapCorner$State" 41 [10] 9 := by
  intro ci hci
  have hci := List.mem_singleton.mp hci
  subst hci
  exact ⟨RX10, TX10, 13, "TrapCorner$Town", ck_10, by decide, tw_95, Or.inl rfl⟩
theorem lk_TrapCorner_State_42 : LK "TrapCorner$State" 42 [10] 12 := by
  intro ci hci
  have hci := List.mem_singleton.mp hci
  subst hci
  exact ⟨RX10, TX10, 13, "TrapCorner$Town", ck_10, by decide, tw_103, Or.inl rfl⟩
theorem sk_TrapCorner_State_43 : SK "TrapCorner$State" 43 yJ7_fill_53178 2 := ⟨tw_746, tw_747, tw_21, ⟨by decide, by decide⟩, by decide +kernel⟩
theorem lk_TrapCorner_State_49 : LK "TrapCorner$State" 49 [10] 3 := by
  intro ci hci
  have hci := List.mem_singleton.mp hci
  subst hci
  exact ⟨RX10, TX10, 13, "TrapCorner$Town", ck_10, by decide, tw_79, Or.inl rfl⟩
section
variable {g : GG} {p : Program} {l : Launch} {e : Env} {R : Room} {s : State} {m : MethodId} {args : Array Value} {below : List Frame} {meth : Method} {c : Code} {n0 z0 : Nat}
def f_X8_begin_0  (o0 : Nat) (o1 : Nat) (h : AH) : Option (Unit × AH) :=
  (gR [10] h o1 5).bind fun v1 =>
  (gR [8] h o0 0).bind fun v3 =>
  (aCpy h v1 0 v3 0 5).bind fun h5 =>
  (gR [10] h5 o1 6).bind fun v7 =>
  (gR [8] h5 o0 1).bind fun v9 =>
  (aCpy h5 v7 0 v9 0 5).bind fun h11 =>
  (gR [10] h11 o1 9).bind fun v13 =>
  (gR [8] h11 o0 2).bind fun v15 =>
  (aCpy h11 v13 0 v15 0 6).bind fun h17 =>
  (gR [10] h17 o1 12).bind fun v19 =>
  (gR [8] h17 o0 4).bind fun v21 =>
  (aCpy h17 v19 0 v21 0 6).bind fun h23 =>
  (gR [8] h23 o0 3).bind fun v25 =>
  cN (f_J7_fill_53178 v25 0 h23) h23 fun _ h28 =>
  (pV [8] h28 o0 5 (.int ((-1)))).bind fun h31 =>
  (gI [10] h31 o1 3).bind fun v33 =>
  (pV [8] h31 o0 6 (.int v33)).bind fun h35 =>
  (pV [8] h35 o0 7 (.int 0)).bind fun h37 =>
  some ((), h37)
set_option maxHeartbeats 1000000 in
theorem w_X8_begin_0 (X : Cx g p s m args meth c cX8_begin 2 "TrapCorner$State") (hR : 2 ≤ R.frames ∧ 128 ≤ R.locals) (hr : meth.sig.returnType = none) {res : Unit × AH} : ∀ (o0 : Nat) (o1 : Nat) (h : AH) (ls : Array Slot) (H : Heap) (locs : List Loc), f_X8_begin_0 o0 o1 h = some res → Iv g s n0 z0 h H locs 0 0 → lv_has ls 2 [(0, .ref (rfG g o0)), (1, .ref (rfG g o1))] → W p l e R s m args below meth c H locs 0 0 (MQ below (QG g none res.2) args s 0 0 (AG g)) (F0 m 0 ls []) := by
  have hx := X.1
  have hb := X.2.1
  intro o0 o1 h ls H locs hf I hl
  unfold f_X8_begin_0 at hf
  refine lv_aload_n hx hb dX8_begin_0 rfl (lv_at hl 1 rfl) ?_
  obtain ⟨v1, e2, hf⟩ := Option.bind_eq_some_iff.mp hf
  refine r_gR X I e2 lk_TrapCorner_State_31 dX8_begin_1 ?_
  refine lv_iconst (v := 0) hx hb dX8_begin_4 (by decide) ?_
  refine lv_aload_n hx hb dX8_begin_5 rfl (lv_at hl 0 rfl) ?_
  obtain ⟨v3, e4, hf⟩ := Option.bind_eq_some_iff.mp hf
  refine r_gR X I e4 lk_TrapCorner_State_9 dX8_begin_6 ?_
  refine lv_iconst (v := 0) hx hb dX8_begin_9 (by decide) ?_
  refine lv_iconst (v := 5) hx hb dX8_begin_10 (by decide) ?_
  obtain ⟨h5, e6, hf⟩ := Option.bind_eq_some_iff.mp hf
  refine r_cpy X I e6 tw_745 ⟨Nat.le_trans (by decide) hR.1, Nat.le_trans (by decide) hR.2⟩ hl.1 (Nat.le_of_ble_eq_true rfl) dX8_begin_11 (fun H locs I => ?_)
  refine lv_aload_n hx hb dX8_begin_14 rfl (lv_at hl 1 rfl) ?_
  obtain ⟨v7, e8, hf⟩ := Option.bind_eq_some_iff.mp hf
  refine r_gR X I e8 lk_TrapCorner_State_40 dX8_begin_15 ?_
  refine lv_iconst (v := 0) hx hb dX8_begin_18 (by decide) ?_
  refine lv_aload_n hx hb dX8_begin_19 rfl (lv_at hl 0 rfl) ?_
  obtain ⟨v9, e10, hf⟩ := Option.bind_eq_some_iff.mp hf
  refine r_gR X I e10 lk_TrapCorner_State_15 dX8_begin_20 ?_
  refine lv_iconst (v := 0) hx hb dX8_begin_23 (by decide) ?_
  refine lv_iconst (v := 5) hx hb dX8_begin_24 (by decide) ?_
  obtain ⟨h11, e12, hf⟩ := Option.bind_eq_some_iff.mp hf
  refine r_cpy X I e12 tw_745 ⟨Nat.le_trans (by decide) hR.1, Nat.le_trans (by decide) hR.2⟩ hl.1 (Nat.le_of_ble_eq_true rfl) dX8_begin_25 (fun H locs I => ?_)
  refine lv_aload_n hx hb dX8_begin_28 rfl (lv_at hl 1 rfl) ?_
  obtain ⟨v13, e14, hf⟩ := Option.bind_eq_some_iff.mp hf
  refine r_gR X I e14 lk_TrapCorner_State_41 dX8_begin_29 ?_
  refine lv_iconst (v := 0) hx hb dX8_begin_32 (by decide) ?_
  refine lv_aload_n hx hb dX8_begin_33 rfl (lv_at hl 0 rfl) ?_
  obtain ⟨v15, e16, hf⟩ := Option.bind_eq_some_iff.mp hf
  refine r_gR X I e16 lk_TrapCorner_State_18 dX8_begin_34 ?_
  refine lv_iconst (v := 0) hx hb dX8_begin_37 (by decide) ?_
  refine lv_bipush (v := 6) hx hb dX8_begin_38 (by decide) ?_
  obtain ⟨h17, e18, hf⟩ := Option.bind_eq_some_iff.mp hf
  refine r_cpy X I e18 tw_745 ⟨Nat.le_trans (by decide) hR.1, Nat.le_trans (by decide) hR.2⟩ hl.1 (Nat.le_of_ble_eq_true rfl) dX8_begin_40 (fun H locs I => ?_)
  refine lv_aload_n hx hb dX8_begin_43 rfl (lv_at hl 1 rfl) ?_
  obtain ⟨v19, e20, hf⟩ := Option.bind_eq_some_iff.mp hf
  refine r_gR X I e20 lk_TrapCorner_State_42 dX8_begin_44 ?_
  refine lv_iconst (v := 0) hx hb dX8_begin_47 (by decide) ?_
  refine lv_aload_n hx hb dX8_begin_48 rfl (lv_at hl 0 rfl) ?_
  obtain ⟨v21, e22, hf⟩ := Option.bind_eq_some_iff.mp hf
  refine r_gR X I e22 lk_TrapCorner_State_24 dX8_begin_49 ?_
  refine lv_iconst (v := 0) hx hb dX8_begin_52 (by decide) ?_
  refine lv_bipush (v := 6) hx hb dX8_begin_53 (by decide) ?_
  obtain ⟨h23, e24, hf⟩ := Option.bind_eq_some_iff.mp hf
  refine r_cpy X I e24 tw_745 ⟨Nat.le_trans (by decide) hR.1, Nat.le_trans (by decide) hR.2⟩ hl.1 (Nat.le_of_ble_eq_true rfl) dX8_begin_55 (fun H locs I => ?_)
  refine lv_aload_n hx hb dX8_begin_58 rfl (lv_at hl 0 rfl) ?_
  obtain ⟨v25, e26, hf⟩ := Option.bind_eq_some_iff.mp hf
  refine r_gR X I e26 lk_TrapCorner_State_21 dX8_begin_59 ?_
  refine lv_iconst (v := 0) hx hb dX8_begin_62 (by decide) ?_
  obtain ⟨⟨⟩, h28, e29, z30, hf⟩ := cN_spec hf
  refine k_Sv (As := [.ref (rfG g v25), .int 0]) (rest := []) X I (c_J7_fill_53178 l g v25 0 e29) z30 sk_TrapCorner_State_43 tw_748 ⟨Nat.le_trans (by decide) hR.1, Nat.le_trans (by decide) hR.2⟩ ⟨Nat.zero_le _, Nat.zero_le _⟩ rfl hl.1 rfl (Nat.le_of_ble_eq_true rfl) dX8_begin_63 (fun H locs I => ?_)
  refine lv_aload_n hx hb dX8_begin_66 rfl (lv_at hl 0 rfl) ?_
  refine lv_iconst (v := (-1)) hx hb dX8_begin_67 (by decide) ?_
  obtain ⟨h31, e32, hf⟩ := Option.bind_eq_some_iff.mp hf
  refine r_pI X I e32 lp_TrapCorner_State_27 dX8_begin_68 (fun H locs I => ?_)
  refine lv_aload_n hx hb dX8_begin_71 rfl (lv_at hl 0 rfl) ?_
  refine lv_aload_n hx hb dX8_begin_72 rfl (lv_at hl 1 rfl) ?_
  obtain ⟨v33, e34, hf⟩ := Option.bind_eq_some_iff.mp hf
  refine r_gI X I e34 lk_TrapCorner_State_49 dX8_begin_73 ?_
  obtain ⟨h35, e36, hf⟩ := Option.bind_eq_some_iff.mp hf
  refine r_pI X I e36 lp_TrapCorner_State_52 dX8_begin_76 (fun H locs I => ?_)
  refine lv_aload_n hx hb dX8_begin_79 rfl (lv_at hl 0 rfl) ?_
  refine lv_iconst (v := 0) hx hb dX8_begin_80 (by decide) ?_
  obtain ⟨h37, e38, hf⟩ := Option.bind_eq_some_iff.mp hf
  refine r_pI X I e38 lp_TrapCorner_State_53 dX8_begin_81 (fun H locs I => ?_)
  cases hf
  exact k_rv X I hr dX8_begin_84
def f_X8_begin (o0 : Nat) (o1 : Nat) (h : AH) : Option (Unit × AH) := f_X8_begin_0 o0 o1 h
end
theorem c_X8_begin (l : Launch) (g : GG) (o0 : Nat) (o1 : Nat) {h : AH} {res : Unit × AH} (hf : f_X8_begin o0 o1 h = some res) : CM l g yX8_begin cX8_begin 2 none 2 128 0 0 [.ref (rfG g o0), .ref (rfG g o1)] h none res.2 :=
  k_body (by decide) (Nat.le_of_ble_eq_true rfl) (fun p e s m below meth c R ls hR hr X I hl => w_X8_begin_0 X ⟨Nat.le_of_eq hR.1.symm, Nat.le_of_eq hR.2.1.symm⟩ hr o0 o1 h ls s.heap [] hf I (lv_sub hl [0, 1] rfl))
/-! TrapCorner.foundCity()I -/
theorem dX11_foundCity_0 : decode cX11_foundCity 0 = .ok (.aload_n 0, 1) := by decide +kernel
theorem dX11_foundCity_1 : decode cX11_foundCity 1 = .ok (.getfield 42, 3) := by decide +kernel
theorem dX11_foundCity_4 : decode cX11_foundCity 4 = .ok (.aload_n 0, 1) := by decide +kernel
theorem dX11_foundCity_5 : decode cX11_foundCity 5 = .ok (.getfield 21, 3) := by decide +kernel
theorem dX11_foundCity_8 : decode cX11_foundCity 8 = .ok (.getfield 142, 3) := by decide +kernel
theorem dX11_foundCity_11 : decode cX11_foundCity 11 = .ok (.invokevirtual 145, 3) := by decide +kernel
theorem dX11_foundCity_14 : decode cX11_foundCity 14 = .ok (.aload_n 0, 1) := by decide +kernel
theorem dX11_foundCity_15 : decode cX11_foundCity 15 = .ok (.getfield 49, 3) := by decide +kernel
theorem dX11_foundCity_18 : decode cX11_foundCity 18 = .ok (.aload_n 0, 1) := by decide +kernel
theorem dX11_foundCity_19 : decode cX11_foundCity 19 = .ok (.getfield 42, 3) := by decide +kernel
theorem dX11_foundCity_22 : decode cX11_foundCity 22 = .ok (.invokevirtual 149, 3) := by decide +kernel
theorem dX11_foundCity_25 : decode cX11_foundCity 25 = .ok (.aload_n 0, 1) := by decide +kernel
theorem dX11_foundCity_26 : decode cX11_foundCity 26 = .ok (.getfield 59, 3) := by decide +kernel
theorem dX11_foundCity_29 : decode cX11_foundCity 29 = .ok (.invokevirtual 152, 3) := by decide +kernel
theorem dX11_foundCity_32 : decode cX11_foundCity 32 = .ok (.aload_n 0, 1) := by decide +kernel
theorem dX11_foundCity_33 : decode cX11_foundCity 33 = .ok (.getfield 82, 3) := by decide +kernel
theorem dX11_foundCity_36 : decode cX11_foundCity 36 = .ok (.invokevirtual 155, 3) := by decide +kernel
theorem dX11_foundCity_39 : decode cX11_foundCity 39 = .ok (.aload_n 0, 1) := by decide +kernel
theorem dX11_foundCity_40 : decode cX11_foundCity 40 = .ok (.getfield 10, 3) := by decide +kernel
theorem dX11_foundCity_43 : decode cX11_foundCity 43 = .ok (.iconst 0, 1) := by decide +kernel
theorem dX11_foundCity_44 : decode cX11_foundCity 44 = .ok (.putfield 109, 3) := by decide +kernel
theorem dX11_foundCity_47 : decode cX11_foundCity 47 = .ok (.aload_n 0, 1) := by decide +kernel
theorem dX11_foundCity_48 : decode cX11_foundCity 48 = .ok (.getfield 42, 3) := by decide +kernel
theorem dX11_foundCity_51 : decode cX11_foundCity 51 = .ok (.getfield 156, 3) := by decide +kernel
theorem dX11_foundCity_54 : decode cX11_foundCity 54 = .ok (.ireturn, 1) := by decide +kernel
theorem lk_TrapCorner_142 : LK "TrapCorner" 142 [0] 3 := by
  intro ci hci
  have hci := List.mem_singleton.mp hci
  subst hci
  exact ⟨RX0, TX0, 6, "TrapCorner$CityReader", ck_0, by decide, tw_132, Or.inl rfl⟩
theorem vk_TrapCorner_145 : VK "TrapCorner" 145 [10] yX10_copyFrom 1 := ⟨tw_736, tw_737, tw_5, ⟨by decide, by decide⟩, by decide +kernel, fun ci hci => by
  have hci := List.mem_singleton.mp hci
  subst hci
  exact ⟨_, rfl, tw_738⟩⟩
theorem vk_TrapCorner_149 : VK "TrapCorner" 149 [8] yX8_begin 1 := ⟨tw_741, tw_742, tw_8, ⟨by decide, by decide⟩, by decide +kernel, fun ci hci => by
  have hci := List.mem_singleton.mp hci
  subst hci
  exact ⟨_, rfl, tw_743⟩⟩
theorem lk_TrapCorner_59 : LK "TrapCorner" 59 [11] 7 := by
  intro ci hci
  have hci := List.mem_singleton.mp hci
  subst hci
  exact ⟨RX11, TX11, 19, "TrapCorner", ck_11, by decide, tw_372, Or.inl rfl⟩
theorem vk_TrapCorner_152 : VK "TrapCorner" 152 [1] yX1_clear 0 := ⟨tw_749, tw_750, tw_9, ⟨by decide, by decide⟩, by decide +kernel, fun ci hci => by
  have hci := List.mem_singleton.mp hci
  subst hci
  exact ⟨_, rfl, tw_751⟩⟩
theorem lk_TrapCorner_82 : LK "TrapCorner" 82 [11] 10 := by
  intro ci hci
  have hci := List.mem_singleton.mp hci
  subst hci
  exact ⟨RX11, TX11, 19, "TrapCorner", ck_11, by decide, tw_375, Or.inl rfl⟩
theorem vk_TrapCorner_155 : VK "TrapCorner" 155 [7] yX7_clear 0 := ⟨tw_753, tw_754, tw_12, ⟨by decide, by decide⟩, by decide +kernel, fun ci hci => by
  have hci := List.mem_singleton.mp hci
  subst hci
  exact ⟨_, rfl, tw_755⟩⟩
section
variable {g : GG} {p : Program} {l : Launch} {e : Env} {R : Room} {s : State} {m : MethodId} {args : Array Value} {below : List Frame} {meth : Method} {c : Code} {n0 z0 : Nat}
def f_X11_foundCity_0  (o0 : Nat) (h : AH) : Option (Int32 × AH) :=
  (gR [11] h o0 4).bind fun v1 =>
  (gR [11] h o0 1).bind fun v3 =>
  (gR [0] h v3 3).bind fun v5 =>
  (isC [10] h v1).bind fun _ =>
  cN (f_X10_copyFrom v1 v5 h) h fun _ h8 =>
  (gR [11] h8 o0 5).bind fun v12 =>
  (gR [11] h8 o0 4).bind fun v14 =>
  (isC [8] h8 v12).bind fun _ =>
  cN (f_X8_begin v12 v14 h8) h8 fun _ h17 =>
  (gR [11] h17 o0 7).bind fun v21 =>
  (isC [1] h17 v21).bind fun _ =>
  cN (f_X1_clear v21 h17) h17 fun _ h24 =>
  (gR [11] h24 o0 10).bind fun v28 =>
  (isC [7] h24 v28).bind fun _ =>
  cN (f_X7_clear v28 h24) h24 fun _ h31 =>
  (gR [11] h31 o0 0).bind fun v35 =>
  (pV [9] h31 v35 1 (.int 0)).bind fun h37 =>
  (gR [11] h37 o0 4).bind fun v39 =>
  (gI [10] h37 v39 1).bind fun v41 =>
  some (v41, h37)
set_option maxHeartbeats 1000000 in
theorem w_X11_foundCity_0 (X : Cx g p s m args meth c cX11_foundCity 1 "TrapCorner") (hR : 3 ≤ R.frames ∧ 192 ≤ R.locals) (hr : meth.sig.returnType = (some (.int))) {res : Int32 × AH} : ∀ (o0 : Nat) (h : AH) (ls : Array Slot) (H : Heap) (locs : List Loc), f_X11_foundCity_0 o0 h = some res → Iv g s n0 z0 h H locs 0 0 → lv_has ls 1 [(0, .ref (rfG g o0))] → W p l e R s m args below meth c H locs 0 0 (MQ below (QG g (some (.int res.1)) res.2) args s 0 0 (AG g)) (F0 m 0 ls []) := by
  have hx := X.1
  have hb := X.2.1
  intro o0 h ls H locs hf I hl
  unfold f_X11_foundCity_0 at hf
  refine lv_aload_n hx hb dX11_foundCity_0 rfl (lv_at hl 0 rfl) ?_
  obtain ⟨v1, e2, hf⟩ := Option.bind_eq_some_iff.mp hf
  refine r_gR X I e2 lk_TrapCorner_42 dX11_foundCity_1 ?_
  refine lv_aload_n hx hb dX11_foundCity_4 rfl (lv_at hl 0 rfl) ?_
  obtain ⟨v3, e4, hf⟩ := Option.bind_eq_some_iff.mp hf
  refine r_gR X I e4 lk_TrapCorner_21 dX11_foundCity_5 ?_
  obtain ⟨v5, e6, hf⟩ := Option.bind_eq_some_iff.mp hf
  refine r_gR X I e6 lk_TrapCorner_142 dX11_foundCity_8 ?_
  obtain ⟨_, g11, hf⟩ := Option.bind_eq_some_iff.mp hf
  obtain ⟨⟨⟩, h8, e9, z10, hf⟩ := cN_spec hf
  refine k_Vv (As := [.ref (rfG g v5)]) (rest := []) X I (c_X10_copyFrom l g v1 v5 e9) z10 g11 vk_TrapCorner_145 tw_739 ⟨Nat.le_trans (by decide) hR.1, Nat.le_trans (by decide) hR.2⟩ ⟨Nat.zero_le _, Nat.zero_le _⟩ rfl hl.1 rfl (Nat.le_of_ble_eq_true rfl) dX11_foundCity_11 (fun H locs I => ?_)
  refine lv_aload_n hx hb dX11_foundCity_14 rfl (lv_at hl 0 rfl) ?_
  obtain ⟨v12, e13, hf⟩ := Option.bind_eq_some_iff.mp hf
  refine r_gR X I e13 lk_TrapCorner_49 dX11_foundCity_15 ?_
  refine lv_aload_n hx hb dX11_foundCity_18 rfl (lv_at hl 0 rfl) ?_
  obtain ⟨v14, e15, hf⟩ := Option.bind_eq_some_iff.mp hf
  refine r_gR X I e15 lk_TrapCorner_42 dX11_foundCity_19 ?_
  obtain ⟨_, g20, hf⟩ := Option.bind_eq_some_iff.mp hf
  obtain ⟨⟨⟩, h17, e18, z19, hf⟩ := cN_spec hf
  refine k_Vv (As := [.ref (rfG g v14)]) (rest := []) X I (c_X8_begin l g v12 v14 e18) z19 g20 vk_TrapCorner_149 tw_744 ⟨Nat.le_trans (by decide) hR.1, Nat.le_trans (by decide) hR.2⟩ ⟨Nat.zero_le _, Nat.zero_le _⟩ rfl hl.1 rfl (Nat.le_of_ble_eq_true rfl) dX11_foundCity_22 (fun H locs I => ?_)
  refine lv_aload_n hx hb dX11_foundCity_25 rfl (lv_at hl 0 rfl) ?_
  obtain ⟨v21, e22, hf⟩ := Option.bind_eq_some_iff.mp hf
  refine r_gR X I e22 lk_TrapCorner_59 dX11_foundCity_26 ?_
  obtain ⟨_, g27, hf⟩ := Option.bind_eq_some_iff.mp hf
  obtain ⟨⟨⟩, h24, e25, z26, hf⟩ := cN_spec hf
  refine k_Vv (As := []) (rest := []) X I (c_X1_clear l g v21 e25) z26 g27 vk_TrapCorner_152 tw_752 ⟨Nat.le_trans (by decide) hR.1, Nat.le_trans (by decide) hR.2⟩ ⟨Nat.zero_le _, Nat.zero_le _⟩ rfl hl.1 rfl (Nat.le_of_ble_eq_true rfl) dX11_foundCity_29 (fun H locs I => ?_)
  refine lv_aload_n hx hb dX11_foundCity_32 rfl (lv_at hl 0 rfl) ?_
  obtain ⟨v28, e29, hf⟩ := Option.bind_eq_some_iff.mp hf
  refine r_gR X I e29 lk_TrapCorner_82 dX11_foundCity_33 ?_
  obtain ⟨_, g34, hf⟩ := Option.bind_eq_some_iff.mp hf
  obtain ⟨⟨⟩, h31, e32, z33, hf⟩ := cN_spec hf
  refine k_Vv (As := []) (rest := []) X I (c_X7_clear l g v28 e32) z33 g34 vk_TrapCorner_155 tw_756 ⟨Nat.le_trans (by decide) hR.1, Nat.le_trans (by decide) hR.2⟩ ⟨Nat.zero_le _, Nat.zero_le _⟩ rfl hl.1 rfl (Nat.le_of_ble_eq_true rfl) dX11_foundCity_36 (fun H locs I => ?_)
  refine lv_aload_n hx hb dX11_foundCity_39 rfl (lv_at hl 0 rfl) ?_
  obtain ⟨v35, e36, hf⟩ := Option.bind_eq_some_iff.mp hf
  refine r_gR X I e36 lk_TrapCorner_10 dX11_foundCity_40 ?_
  refine lv_iconst (v := 0) hx hb dX11_foundCity_43 (by decide) ?_
  obtain ⟨h37, e38, hf⟩ := Option.bind_eq_some_iff.mp hf
  refine r_pI X I e38 lp_TrapCorner_109 dX11_foundCity_44 (fun H locs I => ?_)
  refine lv_aload_n hx hb dX11_foundCity_47 rfl (lv_at hl 0 rfl) ?_
  obtain ⟨v39, e40, hf⟩ := Option.bind_eq_some_iff.mp hf
  refine r_gR X I e40 lk_TrapCorner_42 dX11_foundCity_48 ?_
  obtain ⟨v41, e42, hf⟩ := Option.bind_eq_some_iff.mp hf
  refine r_gI X I e42 lk_TrapCorner_156 dX11_foundCity_51 ?_
  cases hf
  exact k_ri X I hr dX11_foundCity_54
def f_X11_foundCity (o0 : Nat) (h : AH) : Option (Int32 × AH) := f_X11_foundCity_0 o0 h
end
theorem c_X11_foundCity (l : Launch) (g : GG) (o0 : Nat) {h : AH} {res : Int32 × AH} (hf : f_X11_foundCity o0 h = some res) : CM l g yX11_foundCity cX11_foundCity 1 (some (.int)) 3 192 0 0 [.ref (rfG g o0)] h (some (.int res.1)) res.2 :=
  k_body (by decide) (Nat.le_of_ble_eq_true rfl) (fun p e s m below meth c R ls hR hr X I hl => w_X11_foundCity_0 X ⟨Nat.le_of_eq hR.1.symm, Nat.le_of_eq hR.2.1.symm⟩ hr o0 h ls s.heap [] hf I (lv_sub hl [0] rfl))
/-! TrapCorner.rule(I)I -/
theorem dX11_rule_0 : decode cX11_rule 0 = .ok (.aload_n 0, 1) := by decide +kernel
theorem dX11_rule_1 : decode cX11_rule 1 = .ok (.invokevirtual 172, 3) := by decide +kernel
theorem dX11_rule_4 : decode cX11_rule 4 = .ok (.ifCond .ne 5, 3) := by decide +kernel
theorem dX11_rule_7 : decode cX11_rule 7 = .ok (.iconst (-1), 1) := by decide +kernel
theorem dX11_rule_8 : decode cX11_rule 8 = .ok (.ireturn, 1) := by decide +kernel
theorem dX11_rule_9 : decode cX11_rule 9 = .ok (.iload_n 1, 1) := by decide +kernel
theorem dX11_rule_10 : decode cX11_rule 10 = .ok (.tableswitch 50 0 2 #[26, 34, 42], 26) := by decide +kernel
theorem dX11_rule_36 : decode cX11_rule 36 = .ok (.aload_n 0, 1) := by decide +kernel
theorem dX11_rule_37 : decode cX11_rule 37 = .ok (.getfield 42, 3) := by decide +kernel
theorem dX11_rule_40 : decode cX11_rule 40 = .ok (.getfield 175, 3) := by decide +kernel
theorem dX11_rule_43 : decode cX11_rule 43 = .ok (.ireturn, 1) := by decide +kernel
theorem dX11_rule_44 : decode cX11_rule 44 = .ok (.aload_n 0, 1) := by decide +kernel
theorem dX11_rule_45 : decode cX11_rule 45 = .ok (.getfield 49, 3) := by decide +kernel
theorem dX11_rule_48 : decode cX11_rule 48 = .ok (.getfield 178, 3) := by decide +kernel
theorem dX11_rule_51 : decode cX11_rule 51 = .ok (.ireturn, 1) := by decide +kernel
theorem dX11_rule_52 : decode cX11_rule 52 = .ok (.aload_n 0, 1) := by decide +kernel
theorem dX11_rule_53 : decode cX11_rule 53 = .ok (.getfield 42, 3) := by decide +kernel
theorem dX11_rule_56 : decode cX11_rule 56 = .ok (.getfield 181, 3) := by decide +kernel
theorem dX11_rule_59 : decode cX11_rule 59 = .ok (.ireturn, 1) := by decide +kernel
theorem dX11_rule_60 : decode cX11_rule 60 = .ok (.iconst (-1), 1) := by decide +kernel
theorem dX11_rule_61 : decode cX11_rule 61 = .ok (.ireturn, 1) := by decide +kernel
theorem lk_TrapCorner_175 : LK "TrapCorner" 175 [10] 2 := by
  intro ci hci
  have hci := List.mem_singleton.mp hci
  subst hci
  exact ⟨RX10, TX10, 13, "TrapCorner$Town", ck_10, by decide, tw_78, Or.inl rfl⟩
theorem lk_TrapCorner_178 : LK "TrapCorner" 178 [8] 6 := by
  intro ci hci
  have hci := List.mem_singleton.mp hci
  subst hci
  exact ⟨RX8, TX8, 8, "TrapCorner$State", ck_8, by decide, tw_220, Or.inl rfl⟩
section
variable {g : GG} {p : Program} {l : Launch} {e : Env} {R : Room} {s : State} {m : MethodId} {args : Array Value} {below : List Frame} {meth : Method} {c : Code} {n0 z0 : Nat}
def f_X11_rule_0  (o0 : Nat) (x1 : Int32) (h : AH) : Option (Int32 × AH) :=
  (isC [11] h o0).bind fun _ =>
  cN (f_X11_hasCity o0 h) h fun v1 h2 =>
  if v1 = 0 then
    some ((-1), h2)
  else
    if x1 = 0 then
      (gR [11] h2 o0 4).bind fun v8 =>
      (gI [10] h2 v8 2).bind fun v10 =>
      some (v10, h2)
    else
      if x1 = 1 then
        (gR [11] h2 o0 5).bind fun v13 =>
        (gI [8] h2 v13 6).bind fun v15 =>
        some (v15, h2)
      else
        if x1 = 2 then
          (gR [11] h2 o0 4).bind fun v18 =>
          (gI [10] h2 v18 4).bind fun v20 =>
          some (v20, h2)
        else
          some ((-1), h2)
set_option maxHeartbeats 1000000 in
theorem w_X11_rule_0 (X : Cx g p s m args meth c cX11_rule 2 "TrapCorner") (hR : 2 ≤ R.frames ∧ 128 ≤ R.locals) (hr : meth.sig.returnType = (some (.int))) {res : Int32 × AH} : ∀ (o0 : Nat) (x1 : Int32) (h : AH) (ls : Array Slot) (H : Heap) (locs : List Loc), f_X11_rule_0 o0 x1 h = some res → Iv g s n0 z0 h H locs 0 0 → lv_has ls 2 [(0, .ref (rfG g o0)), (1, .int x1)] → W p l e R s m args below meth c H locs 0 0 (MQ below (QG g (some (.int res.1)) res.2) args s 0 0 (AG g)) (F0 m 0 ls []) := by
  have hx := X.1
  have hb := X.2.1
  intro o0 x1 h ls H locs hf I hl
  unfold f_X11_rule_0 at hf
  refine lv_aload_n hx hb dX11_rule_0 rfl (lv_at hl 0 rfl) ?_
  obtain ⟨_, g5, hf⟩ := Option.bind_eq_some_iff.mp hf
  obtain ⟨v1, h2, e3, z4, hf⟩ := cN_spec hf
  refine k_Vi (As := []) (rest := []) X I (c_X11_hasCity l g o0 e3) z4 g5 vk_TrapCorner_172 tw_793 ⟨Nat.le_trans (by decide) hR.1, Nat.le_trans (by decide) hR.2⟩ ⟨Nat.zero_le _, Nat.zero_le _⟩ rfl hl.1 rfl (Nat.le_of_ble_eq_true rfl) dX11_rule_1 (fun H locs I => ?_)
  refine lv_if_ne (tgt := 9) hx hb dX11_rule_4 (by decide) (fun c6 => ?_) (fun c6 => ?_)
  · rw [if_neg c6] at hf
    refine lv_iload_n hx hb dX11_rule_9 rfl (lv_at hl 1 rfl) ?_
    by_cases c7 : x1 = 0
    · rw [if_pos c7] at hf
      refine lv_tableIn (tgt := 36) hx hb dX11_rule_10 (by rw [c7]; decide) (by rw [c7]; decide) (by rw [c7]; rfl) (by decide) ?_
      refine lv_aload_n hx hb dX11_rule_36 rfl (lv_at hl 0 rfl) ?_
      obtain ⟨v8, e9, hf⟩ := Option.bind_eq_some_iff.mp hf
      refine r_gR X I e9 lk_TrapCorner_42 dX11_rule_37 ?_
      obtain ⟨v10, e11, hf⟩ := Option.bind_eq_some_iff.mp hf
      refine r_gI X I e11 lk_TrapCorner_175 dX11_rule_40 ?_
      cases hf
      exact k_ri X I hr dX11_rule_43
    · rw [if_neg c7] at hf
      by_cases c12 : x1 = 1
      · rw [if_pos c12] at hf
        refine lv_tableIn (tgt := 44) hx hb dX11_rule_10 (by rw [c12]; decide) (by rw [c12]; decide) (by rw [c12]; rfl) (by decide) ?_
        refine lv_aload_n hx hb dX11_rule_44 rfl (lv_at hl 0 rfl) ?_
        obtain ⟨v13, e14, hf⟩ := Option.bind_eq_some_iff.mp hf
        refine r_gR X I e14 lk_TrapCorner_49 dX11_rule_45 ?_
        obtain ⟨v15, e16, hf⟩ := Option.bind_eq_some_iff.mp hf
        refine r_gI X I e16 lk_TrapCorner_178 dX11_rule_48 ?_
        cases hf
        exact k_ri X I hr dX11_rule_51
      · rw [if_neg c12] at hf
        by_cases c17 : x1 = 2
        · rw [if_pos c17] at hf
          refine lv_tableIn (tgt := 52) hx hb dX11_rule_10 (by rw [c17]; decide) (by rw [c17]; decide) (by rw [c17]; rfl) (by decide) ?_
          refine lv_aload_n hx hb dX11_rule_52 rfl (lv_at hl 0 rfl) ?_
          obtain ⟨v18, e19, hf⟩ := Option.bind_eq_some_iff.mp hf
          refine r_gR X I e19 lk_TrapCorner_42 dX11_rule_53 ?_
          obtain ⟨v20, e21, hf⟩ := Option.bind_eq_some_iff.mp hf
          refine r_gI X I e21 lk_TrapCorner_181 dX11_rule_56 ?_
          cases hf
          exact k_ri X I hr dX11_rule_59
        · rw [if_neg c17] at hf
          refine lv_tableOut (tgt := 60) hx hb dX11_rule_10 (sw_out (fun k k1 k2 => by rcases (show k = 0 ∨ k = 1 ∨ k = 2 by omega) with rfl | rfl | rfl <;> assumption)) (by decide) ?_
          refine lv_iconst (v := (-1)) hx hb dX11_rule_60 (by decide) ?_
          cases hf
          exact k_ri X I hr dX11_rule_61
  · rw [if_pos c6] at hf
    refine lv_iconst (v := (-1)) hx hb dX11_rule_7 (by decide) ?_
    cases hf
    exact k_ri X I hr dX11_rule_8
def f_X11_rule (o0 : Nat) (x1 : Int32) (h : AH) : Option (Int32 × AH) := f_X11_rule_0 o0 x1 h
end
theorem c_X11_rule (l : Launch) (g : GG) (o0 : Nat) (x1 : Int32) {h : AH} {res : Int32 × AH} (hf : f_X11_rule o0 x1 h = some res) : CM l g yX11_rule cX11_rule 2 (some (.int)) 2 128 0 0 [.ref (rfG g o0), .int x1] h (some (.int res.1)) res.2 :=
  k_body (by decide) (Nat.le_of_ble_eq_true rfl) (fun p e s m below meth c R ls hR hr X I hl => w_X11_rule_0 X ⟨Nat.le_of_eq hR.1.symm, Nat.le_of_eq hR.2.1.symm⟩ hr o0 x1 h ls s.heap [] hf I (lv_sub hl [0, 1] rfl))
/-! TrapCorner.step(III)I -/
theorem dX11_step_0 : decode cX11_step 0 = .ok (.aload_n 0, 1) := by decide +kernel
theorem dX11_step_1 : decode cX11_step 1 = .ok (.iload_n 1, 1) := by decide +kernel
theorem dX11_step_2 : decode cX11_step 2 = .ok (.invokevirtual 240, 3) := by decide +kernel
theorem dX11_step_5 : decode cX11_step 5 = .ok (.ifCond .eq 18, 3) := by decide +kernel
theorem dX11_step_8 : decode cX11_step 8 = .ok (.iload_n 2, 1) := by decide +kernel
theorem dX11_step_9 : decode cX11_step 9 = .ok (.ifCond .lt 14, 3) := by decide +kernel
theorem dX11_step_12 : decode cX11_step 12 = .ok (.iload_n 2, 1) := by decide +kernel
theorem dX11_step_13 : decode cX11_step 13 = .ok (.aload_n 0, 1) := by decide +kernel
theorem dX11_step_14 : decode cX11_step 14 = .ok (.getfield 91, 3) := by decide +kernel
theorem dX11_step_17 : decode cX11_step 17 = .ok (.iload_n 1, 1) := by decide +kernel
theorem dX11_step_18 : decode cX11_step 18 = .ok (.aaload, 1) := by decide +kernel
theorem dX11_step_19 : decode cX11_step 19 = .ok (.arraylength, 1) := by decide +kernel
theorem dX11_step_20 : decode cX11_step 20 = .ok (.if_icmp .lt 6, 3) := by decide +kernel
theorem dX11_step_23 : decode cX11_step 23 = .ok (.ldc 243, 2) := by decide +kernel
theorem dX11_step_25 : decode cX11_step 25 = .ok (.ireturn, 1) := by decide +kernel
theorem dX11_step_26 : decode cX11_step 26 = .ok (.aload_n 0, 1) := by decide +kernel
theorem dX11_step_27 : decode cX11_step 27 = .ok (.getfield 91, 3) := by decide +kernel
theorem dX11_step_30 : decode cX11_step 30 = .ok (.iload_n 1, 1) := by decide +kernel
theorem dX11_step_31 : decode cX11_step 31 = .ok (.aaload, 1) := by decide +kernel
theorem dX11_step_32 : decode cX11_step 32 = .ok (.iload_n 2, 1) := by decide +kernel
theorem dX11_step_33 : decode cX11_step 33 = .ok (.iaload, 1) := by decide +kernel
theorem dX11_step_34 : decode cX11_step 34 = .ok (.istore 4, 2) := by decide +kernel
theorem dX11_step_36 : decode cX11_step 36 = .ok (.iload 4, 2) := by decide +kernel
theorem dX11_step_38 : decode cX11_step 38 = .ok (.invokestatic 244, 3) := by decide +kernel
theorem dX11_step_41 : decode cX11_step 41 = .ok (.istore 5, 2) := by decide +kernel
theorem dX11_step_43 : decode cX11_step 43 = .ok (.iload_n 3, 1) := by decide +kernel
theorem dX11_step_44 : decode cX11_step 44 = .ok (.tableswitch 62 0 2 #[28, 31, 46], 28) := by decide +kernel
theorem dX11_step_72 : decode cX11_step 72 = .ok (.iload 5, 2) := by decide +kernel
theorem dX11_step_74 : decode cX11_step 74 = .ok (.ireturn, 1) := by decide +kernel
theorem dX11_step_75 : decode cX11_step 75 = .ok (.iload 5, 2) := by decide +kernel
theorem dX11_step_77 : decode cX11_step 77 = .ok (.ifCond .ne 7, 3) := by decide +kernel
theorem dX11_step_80 : decode cX11_step 80 = .ok (.iconst (-1), 1) := by decide +kernel
theorem dX11_step_81 : decode cX11_step 81 = .ok (.goto 8, 3) := by decide +kernel
theorem dX11_step_84 : decode cX11_step 84 = .ok (.iload 4, 2) := by decide +kernel
theorem dX11_step_86 : decode cX11_step 86 = .ok (.invokestatic 247, 3) := by decide +kernel
theorem dX11_step_89 : decode cX11_step 89 = .ok (.ireturn, 1) := by decide +kernel
theorem dX11_step_90 : decode cX11_step 90 = .ok (.iload 5, 2) := by decide +kernel
theorem dX11_step_92 : decode cX11_step 92 = .ok (.iconst 1, 1) := by decide +kernel
theorem dX11_step_93 : decode cX11_step 93 = .ok (.if_icmp .ne 11, 3) := by decide +kernel
theorem dX11_step_96 : decode cX11_step 96 = .ok (.iload 4, 2) := by decide +kernel
theorem dX11_step_98 : decode cX11_step 98 = .ok (.invokestatic 250, 3) := by decide +kernel
theorem dX11_step_101 : decode cX11_step 101 = .ok (.goto 4, 3) := by decide +kernel
theorem dX11_step_104 : decode cX11_step 104 = .ok (.iconst (-1), 1) := by decide +kernel
theorem dX11_step_105 : decode cX11_step 105 = .ok (.ireturn, 1) := by decide +kernel
theorem dX11_step_106 : decode cX11_step 106 = .ok (.ldc 243, 2) := by decide +kernel
theorem dX11_step_108 : decode cX11_step 108 = .ok (.ireturn, 1) := by decide +kernel
theorem vk_TrapCorner_240 : VK "TrapCorner" 240 [11] yX11_hasPlan 1 := ⟨tw_833, tw_835, tw_1, ⟨by decide, by decide⟩, by decide +kernel, fun ci hci => by
  have hci := List.mem_singleton.mp hci
  subst hci
  exact ⟨_, rfl, tp_21⟩⟩
theorem lk_TrapCorner_91 : LK "TrapCorner" 91 [11] 12 := by
  intro ci hci
  have hci := List.mem_singleton.mp hci
  subst hci
  exact ⟨RX11, TX11, 19, "TrapCorner", ck_11, by decide, tw_377, Or.inl rfl⟩
theorem sk_TrapCorner_244 : SK "TrapCorner" 244 yX11_kindOf 1 := ⟨tw_838, tw_839, tw_1, ⟨by decide, by decide⟩, by decide +kernel⟩
theorem sk_TrapCorner_247 : SK "TrapCorner" 247 yX11_firstOf 1 := ⟨tw_841, tw_842, tw_1, ⟨by decide, by decide⟩, by decide +kernel⟩
theorem sk_TrapCorner_250 : SK "TrapCorner" 250 yX11_secondOf 1 := ⟨tw_844, tw_845, tw_1, ⟨by decide, by decide⟩, by decide +kernel⟩
section
variable {g : GG} {p : Program} {l : Launch} {e : Env} {R : Room} {s : State} {m : MethodId} {args : Array Value} {below : List Frame} {meth : Method} {c : Code} {n0 z0 : Nat}
def f_X11_step_23  (h : AH) : Option (Int32 × AH) :=
  some ((-1000000), h)
set_option maxHeartbeats 1000000 in
theorem w_X11_step_23 (X : Cx g p s m args meth c cX11_step 6 "TrapCorner") (hR : 2 ≤ R.frames ∧ 128 ≤ R.locals) (hr : meth.sig.returnType = (some (.int))) {res : Int32 × AH} : ∀ (h : AH) (ls : Array Slot) (H : Heap) (locs : List Loc), f_X11_step_23  h = some res → Iv g s n0 z0 h H locs 0 0 → lv_has ls 6 [] → W p l e R s m args below meth c H locs 0 0 (MQ below (QG g (some (.int res.1)) res.2) args s 0 0 (AG g)) (F0 m 23 ls []) := by
  have hx := X.1
  have hb := X.2.1
  intro  h ls H locs hf I hl
  unfold f_X11_step_23 at hf
  refine lv_ldc (v := (-1000000)) hx hb X.2.2.2.1 (X.2.2.2.2.1 _ tw_837) dX11_step_23 ?_
  cases hf
  exact k_ri X I hr dX11_step_25
def f_X11_step_0  (o0 : Nat) (x1 : Int32) (x2 : Int32) (x3 : Int32) (h : AH) : Option (Int32 × AH) :=
  (isC [11] h o0).bind fun _ =>
  cN (f_X11_hasPlan o0 x1 h) h fun v1 h2 =>
  if v1 = 0 then
    f_X11_step_23 h2
  else
    if x2 < 0 then
      f_X11_step_23 h2
    else
      (gR [11] h2 o0 12).bind fun v8 =>
      (aQ 5 h2 v8 x1).bind fun v10 =>
      v10.bind fun o12 =>
      (aLen h2 o12).bind fun v13 =>
      if x2 < v13 then
        (gR [11] h2 o0 12).bind fun v16 =>
        (aQ 5 h2 v16 x1).bind fun v18 =>
        v18.bind fun o20 =>
        (aI 0 h2 o20 x2).bind fun v21 =>
        cN (f_X11_kindOf v21 h2) h2 fun v23 h24 =>
        if x3 = 0 then
          some (v23, h24)
        else
          if x3 = 1 then
            if v23 = 0 then
              some ((-1), h24)
            else
              cN (f_X11_firstOf v21 h24) h24 fun v30 h31 =>
              some (v30, h31)
          else
            if x3 = 2 then
              if v23 = 1 then
                cN (f_X11_secondOf v21 h24) h24 fun v36 h37 =>
                some (v36, h37)
              else
                some ((-1), h24)
            else
              some ((-1000000), h24)
      else
        f_X11_step_23 h2
set_option maxHeartbeats 1000000 in
theorem w_X11_step_0 (X : Cx g p s m args meth c cX11_step 6 "TrapCorner") (hR : 2 ≤ R.frames ∧ 128 ≤ R.locals) (hr : meth.sig.returnType = (some (.int))) {res : Int32 × AH} : ∀ (o0 : Nat) (x1 : Int32) (x2 : Int32) (x3 : Int32) (h : AH) (ls : Array Slot) (H : Heap) (locs : List Loc), f_X11_step_0 o0 x1 x2 x3 h = some res → Iv g s n0 z0 h H locs 0 0 → lv_has ls 6 [(0, .ref (rfG g o0)), (1, .int x1), (2, .int x2), (3, .int x3)] → W p l e R s m args below meth c H locs 0 0 (MQ below (QG g (some (.int res.1)) res.2) args s 0 0 (AG g)) (F0 m 0 ls []) := by
  have hx := X.1
  have hb := X.2.1
  intro o0 x1 x2 x3 h ls H locs hf I hl
  unfold f_X11_step_0 at hf
  refine lv_aload_n hx hb dX11_step_0 rfl (lv_at hl 0 rfl) ?_
  refine lv_iload_n hx hb dX11_step_1 rfl (lv_at hl 1 rfl) ?_
  obtain ⟨_, g5, hf⟩ := Option.bind_eq_some_iff.mp hf
  obtain ⟨v1, h2, e3, z4, hf⟩ := cN_spec hf
  refine k_Vi (As := [.int x1]) (rest := []) X I (c_X11_hasPlan l g o0 x1 e3) z4 g5 vk_TrapCorner_240 tw_836 ⟨Nat.le_trans (by decide) hR.1, Nat.le_trans (by decide) hR.2⟩ ⟨Nat.zero_le _, Nat.zero_le _⟩ rfl hl.1 rfl (Nat.le_of_ble_eq_true rfl) dX11_step_2 (fun H locs I => ?_)
  refine lv_if_eq (tgt := 23) hx hb dX11_step_5 (by decide) (fun c6 => ?_) (fun c6 => ?_)
  · rw [if_pos c6] at hf
    exact w_X11_step_23 X hR hr  h2 ls H locs hf I (lv_sub hl [] rfl)
  · rw [if_neg c6] at hf
    refine lv_iload_n hx hb dX11_step_8 rfl (lv_at hl 2 rfl) ?_
    refine lv_if_lt (tgt := 23) hx hb dX11_step_9 (by decide) (fun c7 => ?_) (fun c7 => ?_)
    · rw [if_pos c7] at hf
      exact w_X11_step_23 X hR hr  h2 ls H locs hf I (lv_sub hl [] rfl)
    · rw [if_neg c7] at hf
      refine lv_iload_n hx hb dX11_step_12 rfl (lv_at hl 2 rfl) ?_
      refine lv_aload_n hx hb dX11_step_13 rfl (lv_at hl 0 rfl) ?_
      obtain ⟨v8, e9, hf⟩ := Option.bind_eq_some_iff.mp hf
      refine r_gR X I e9 lk_TrapCorner_91 dX11_step_14 ?_
      refine lv_iload_n hx hb dX11_step_17 rfl (lv_at hl 1 rfl) ?_
      obtain ⟨v10, e11, hf⟩ := Option.bind_eq_some_iff.mp hf
      refine r_aQ5 X I e11 dX11_step_18 ?_
      obtain ⟨o12, eo12, hf2⟩ := Option.bind_eq_some_iff.mp hf
      clear hf
      have hf := hf2
      subst eo12
      obtain ⟨v13, e14, hf⟩ := Option.bind_eq_some_iff.mp hf
      refine r_len X I e14 dX11_step_19 ?_
      refine lv_icmp_lt (tgt := 26) hx hb dX11_step_20 (by decide) (fun c15 => ?_) (fun c15 => ?_)
      · rw [if_pos c15] at hf
        refine lv_aload_n hx hb dX11_step_26 rfl (lv_at hl 0 rfl) ?_
        obtain ⟨v16, e17, hf⟩ := Option.bind_eq_some_iff.mp hf
        refine r_gR X I e17 lk_TrapCorner_91 dX11_step_27 ?_
        refine lv_iload_n hx hb dX11_step_30 rfl (lv_at hl 1 rfl) ?_
        obtain ⟨v18, e19, hf⟩ := Option.bind_eq_some_iff.mp hf
        refine r_aQ5 X I e19 dX11_step_31 ?_
        obtain ⟨o20, eo20, hf2⟩ := Option.bind_eq_some_iff.mp hf
        clear hf
        have hf := hf2
        subst eo20
        refine lv_iload_n hx hb dX11_step_32 rfl (lv_at hl 2 rfl) ?_
        obtain ⟨v21, e22, hf⟩ := Option.bind_eq_some_iff.mp hf
        refine r_aI0 X I e22 dX11_step_33 ?_
        refine lv_istore (lv' := [(4, .int v21), (0, .ref (rfG g o0)), (1, .int x1), (2, .int x2), (3, .int x3)]) hx hb dX11_step_34 hl (by decide) rfl (fun ls hl => ?_)
        refine lv_iload hx hb dX11_step_36 (lv_at hl 0 rfl) ?_
        obtain ⟨v23, h24, e25, z26, hf⟩ := cN_spec hf
        refine k_Si (As := [.int v21]) (rest := []) X I (c_X11_kindOf l g v21 e25) z26 sk_TrapCorner_244 tw_840 ⟨Nat.le_trans (by decide) hR.1, Nat.le_trans (by decide) hR.2⟩ ⟨Nat.zero_le _, Nat.zero_le _⟩ rfl hl.1 rfl (Nat.le_of_ble_eq_true rfl) dX11_step_38 (fun H locs I => ?_)
        refine lv_istore (lv' := [(5, .int v23), (4, .int v21), (0, .ref (rfG g o0)), (1, .int x1), (2, .int x2), (3, .int x3)]) hx hb dX11_step_41 hl (by decide) rfl (fun ls hl => ?_)
        refine lv_iload_n hx hb dX11_step_43 rfl (lv_at hl 5 rfl) ?_
        by_cases c27 : x3 = 0
        · rw [if_pos c27] at hf
          refine lv_tableIn (tgt := 72) hx hb dX11_step_44 (by rw [c27]; decide) (by rw [c27]; decide) (by rw [c27]; rfl) (by decide) ?_
          refine lv_iload hx hb dX11_step_72 (lv_at hl 0 rfl) ?_
          cases hf
          exact k_ri X I hr dX11_step_74
        · rw [if_neg c27] at hf
          by_cases c28 : x3 = 1
          · rw [if_pos c28] at hf
            refine lv_tableIn (tgt := 75) hx hb dX11_step_44 (by rw [c28]; decide) (by rw [c28]; decide) (by rw [c28]; rfl) (by decide) ?_
            refine lv_iload hx hb dX11_step_75 (lv_at hl 0 rfl) ?_
            refine lv_if_ne (tgt := 84) hx hb dX11_step_77 (by decide) (fun c29 => ?_) (fun c29 => ?_)
            · rw [if_neg c29] at hf
              refine lv_iload hx hb dX11_step_84 (lv_at hl 1 rfl) ?_
              obtain ⟨v30, h31, e32, z33, hf⟩ := cN_spec hf
              refine k_Si (As := [.int v21]) (rest := []) X I (c_X11_firstOf l g v21 e32) z33 sk_TrapCorner_247 tw_843 ⟨Nat.le_trans (by decide) hR.1, Nat.le_trans (by decide) hR.2⟩ ⟨Nat.zero_le _, Nat.zero_le _⟩ rfl hl.1 rfl (Nat.le_of_ble_eq_true rfl) dX11_step_86 (fun H locs I => ?_)
              cases hf
              exact k_ri X I hr dX11_step_89
            · rw [if_pos c29] at hf
              refine lv_iconst (v := (-1)) hx hb dX11_step_80 (by decide) ?_
              refine lv_goto (tgt := 89) hx hb dX11_step_81 (by decide) ?_
              cases hf
              exact k_ri X I hr dX11_step_89
          · rw [if_neg c28] at hf
            by_cases c34 : x3 = 2
            · rw [if_pos c34] at hf
              refine lv_tableIn (tgt := 90) hx hb dX11_step_44 (by rw [c34]; decide) (by rw [c34]; decide) (by rw [c34]; rfl) (by decide) ?_
              refine lv_iload hx hb dX11_step_90 (lv_at hl 0 rfl) ?_
              refine lv_iconst (v := 1) hx hb dX11_step_92 (by decide) ?_
              refine lv_icmp_ne (tgt := 104) hx hb dX11_step_93 (by decide) (fun c35 => ?_) (fun c35 => ?_)
              · rw [if_neg c35] at hf
                refine lv_iconst (v := (-1)) hx hb dX11_step_104 (by decide) ?_
                cases hf
                exact k_ri X I hr dX11_step_105
              · rw [if_pos c35] at hf
                refine lv_iload hx hb dX11_step_96 (lv_at hl 1 rfl) ?_
                obtain ⟨v36, h37, e38, z39, hf⟩ := cN_spec hf
                refine k_Si (As := [.int v21]) (rest := []) X I (c_X11_secondOf l g v21 e38) z39 sk_TrapCorner_250 tw_846 ⟨Nat.le_trans (by decide) hR.1, Nat.le_trans (by decide) hR.2⟩ ⟨Nat.zero_le _, Nat.zero_le _⟩ rfl hl.1 rfl (Nat.le_of_ble_eq_true rfl) dX11_step_98 (fun H locs I => ?_)
                refine lv_goto (tgt := 105) hx hb dX11_step_101 (by decide) ?_
                cases hf
                exact k_ri X I hr dX11_step_105
            · rw [if_neg c34] at hf
              refine lv_tableOut (tgt := 106) hx hb dX11_step_44 (sw_out (fun k k1 k2 => by rcases (show k = 0 ∨ k = 1 ∨ k = 2 by omega) with rfl | rfl | rfl <;> assumption)) (by decide) ?_
              refine lv_ldc (v := (-1000000)) hx hb X.2.2.2.1 (X.2.2.2.2.1 _ tw_837) dX11_step_106 ?_
              cases hf
              exact k_ri X I hr dX11_step_108
      · rw [if_neg c15] at hf
        exact w_X11_step_23 X hR hr  h2 ls H locs hf I (lv_sub hl [] rfl)
def f_X11_step (o0 : Nat) (x1 : Int32) (x2 : Int32) (x3 : Int32) (h : AH) : Option (Int32 × AH) := f_X11_step_0 o0 x1 x2 x3 h
end
theorem c_X11_step (l : Launch) (g : GG) (o0 : Nat) (x1 : Int32) (x2 : Int32) (x3 : Int32) {h : AH} {res : Int32 × AH} (hf : f_X11_step o0 x1 x2 x3 h = some res) : CM l g yX11_step cX11_step 6 (some (.int)) 2 128 0 0 [.ref (rfG g o0), .int x1, .int x2, .int x3] h (some (.int res.1)) res.2 :=
  k_body (by decide) (Nat.le_of_ble_eq_true rfl) (fun p e s m below meth c R ls hR hr X I hl => w_X11_step_0 X ⟨Nat.le_of_eq hR.1.symm, Nat.le_of_eq hR.2.1.symm⟩ hr o0 x1 x2 x3 h ls s.heap [] hf I (lv_sub hl [0, 1, 2, 3] rfl))
/-! TrapCorner.rowsKept()I -/
theorem dX11_rowsKept_0 : decode cX11_rowsKept 0 = .ok (.aload_n 0, 1) := by decide +kernel
theorem dX11_rowsKept_1 : decode cX11_rowsKept 1 = .ok (.getfield 49, 3) := by decide +kernel
theorem dX11_rowsKept_4 : decode cX11_rowsKept 4 = .ok (.getfield 228, 3) := by decide +kernel
theorem dX11_rowsKept_7 : decode cX11_rowsKept 7 = .ok (.bipush 60, 2) := by decide +kernel
theorem dX11_rowsKept_9 : decode cX11_rowsKept 9 = .ok (.invokestatic 268, 3) := by decide +kernel
theorem dX11_rowsKept_12 : decode cX11_rowsKept 12 = .ok (.ireturn, 1) := by decide +kernel
theorem lk_TrapCorner_228 : LK "TrapCorner" 228 [8] 7 := by
  intro ci hci
  have hci := List.mem_singleton.mp hci
  subst hci
  exact ⟨RX8, TX8, 8, "TrapCorner$State", ck_8, by decide, tw_223, Or.inl rfl⟩
theorem sk_TrapCorner_268 : SK "TrapCorner" 268 yJ9_min_7cf53 2 := ⟨tw_810, tw_528, tw_17, ⟨by decide, by decide⟩, by decide +kernel⟩
section
variable {g : GG} {p : Program} {l : Launch} {e : Env} {R : Room} {s : State} {m : MethodId} {args : Array Value} {below : List Frame} {meth : Method} {c : Code} {n0 z0 : Nat}
def f_X11_rowsKept_0  (o0 : Nat) (h : AH) : Option (Int32 × AH) :=
  (gR [11] h o0 5).bind fun v1 =>
  (gI [8] h v1 7).bind fun v3 =>
  cN (f_J9_min_7cf53 v3 60 h) h fun v5 h6 =>
  some (v5, h6)
set_option maxHeartbeats 1000000 in
theorem w_X11_rowsKept_0 (X : Cx g p s m args meth c cX11_rowsKept 1 "TrapCorner") (hR : 2 ≤ R.frames ∧ 128 ≤ R.locals) (hr : meth.sig.returnType = (some (.int))) {res : Int32 × AH} : ∀ (o0 : Nat) (h : AH) (ls : Array Slot) (H : Heap) (locs : List Loc), f_X11_rowsKept_0 o0 h = some res → Iv g s n0 z0 h H locs 0 0 → lv_has ls 1 [(0, .ref (rfG g o0))] → W p l e R s m args below meth c H locs 0 0 (MQ below (QG g (some (.int res.1)) res.2) args s 0 0 (AG g)) (F0 m 0 ls []) := by
  have hx := X.1
  have hb := X.2.1
  intro o0 h ls H locs hf I hl
  unfold f_X11_rowsKept_0 at hf
  refine lv_aload_n hx hb dX11_rowsKept_0 rfl (lv_at hl 0 rfl) ?_
  obtain ⟨v1, e2, hf⟩ := Option.bind_eq_some_iff.mp hf
  refine r_gR X I e2 lk_TrapCorner_49 dX11_rowsKept_1 ?_
  obtain ⟨v3, e4, hf⟩ := Option.bind_eq_some_iff.mp hf
  refine r_gI X I e4 lk_TrapCorner_228 dX11_rowsKept_4 ?_
  refine lv_bipush (v := 60) hx hb dX11_rowsKept_7 (by decide) ?_
  obtain ⟨v5, h6, e7, z8, hf⟩ := cN_spec hf
  refine k_Si (As := [.int v3, .int 60]) (rest := []) X I (c_J9_min_7cf53 l g v3 60 e7) z8 sk_TrapCorner_268 tw_529 ⟨Nat.le_trans (by decide) hR.1, Nat.le_trans (by decide) hR.2⟩ ⟨Nat.zero_le _, Nat.zero_le _⟩ rfl hl.1 rfl (Nat.le_of_ble_eq_true rfl) dX11_rowsKept_9 (fun H locs I => ?_)
  cases hf
  exact k_ri X I hr dX11_rowsKept_12
def f_X11_rowsKept (o0 : Nat) (h : AH) : Option (Int32 × AH) := f_X11_rowsKept_0 o0 h
end
theorem c_X11_rowsKept (l : Launch) (g : GG) (o0 : Nat) {h : AH} {res : Int32 × AH} (hf : f_X11_rowsKept o0 h = some res) : CM l g yX11_rowsKept cX11_rowsKept 1 (some (.int)) 2 128 0 0 [.ref (rfG g o0)] h (some (.int res.1)) res.2 :=
  k_body (by decide) (Nat.le_of_ble_eq_true rfl) (fun p e s m below meth c R ls hR hr X I hl => w_X11_rowsKept_0 X ⟨Nat.le_of_eq hR.1.symm, Nat.le_of_eq hR.2.1.symm⟩ hr o0 h ls s.heap [] hf I (lv_sub hl [0] rfl))
/-! TrapCorner.drawAheadOfDay()V -/
theorem dX11_drawAheadOfDay_0 : decode cX11_drawAheadOfDay 0 = .ok (.aload_n 0, 1) := by decide +kernel
theorem dX11_drawAheadOfDay_1 : decode cX11_drawAheadOfDay 1 = .ok (.aload_n 0, 1) := by decide +kernel
theorem dX11_drawAheadOfDay_2 : decode cX11_drawAheadOfDay 2 = .ok (.getfield 42, 3) := by decide +kernel
theorem dX11_drawAheadOfDay_5 : decode cX11_drawAheadOfDay 5 = .ok (.getfield 253, 3) := by decide +kernel
theorem dX11_drawAheadOfDay_8 : decode cX11_drawAheadOfDay 8 = .ok (.invokevirtual 310, 3) := by decide +kernel
theorem dX11_drawAheadOfDay_11 : decode cX11_drawAheadOfDay 11 = .ok (.istore_n 1, 1) := by decide +kernel
theorem dX11_drawAheadOfDay_12 : decode cX11_drawAheadOfDay 12 = .ok (.aload_n 0, 1) := by decide +kernel
theorem dX11_drawAheadOfDay_13 : decode cX11_drawAheadOfDay 13 = .ok (.getfield 49, 3) := by decide +kernel
theorem dX11_drawAheadOfDay_16 : decode cX11_drawAheadOfDay 16 = .ok (.getfield 188, 3) := by decide +kernel
theorem dX11_drawAheadOfDay_19 : decode cX11_drawAheadOfDay 19 = .ok (.iload_n 1, 1) := by decide +kernel
theorem dX11_drawAheadOfDay_20 : decode cX11_drawAheadOfDay 20 = .ok (.aload_n 0, 1) := by decide +kernel
theorem dX11_drawAheadOfDay_21 : decode cX11_drawAheadOfDay 21 = .ok (.iconst 4, 1) := by decide +kernel
theorem dX11_drawAheadOfDay_22 : decode cX11_drawAheadOfDay 22 = .ok (.invokevirtual 310, 3) := by decide +kernel
theorem dX11_drawAheadOfDay_25 : decode cX11_drawAheadOfDay 25 = .ok (.iastore, 1) := by decide +kernel
theorem dX11_drawAheadOfDay_26 : decode cX11_drawAheadOfDay 26 = .ok (.aload_n 0, 1) := by decide +kernel
theorem dX11_drawAheadOfDay_27 : decode cX11_drawAheadOfDay 27 = .ok (.bipush 10, 2) := by decide +kernel
theorem dX11_drawAheadOfDay_29 : decode cX11_drawAheadOfDay 29 = .ok (.invokevirtual 310, 3) := by decide +kernel
theorem dX11_drawAheadOfDay_32 : decode cX11_drawAheadOfDay 32 = .ok (.aload_n 0, 1) := by decide +kernel
theorem dX11_drawAheadOfDay_33 : decode cX11_drawAheadOfDay 33 = .ok (.getfield 102, 3) := by decide +kernel
theorem dX11_drawAheadOfDay_36 : decode cX11_drawAheadOfDay 36 = .ok (.if_icmp .ge 35, 3) := by decide +kernel
theorem dX11_drawAheadOfDay_39 : decode cX11_drawAheadOfDay 39 = .ok (.aload_n 0, 1) := by decide +kernel
theorem dX11_drawAheadOfDay_40 : decode cX11_drawAheadOfDay 40 = .ok (.aload_n 0, 1) := by decide +kernel
theorem dX11_drawAheadOfDay_41 : decode cX11_drawAheadOfDay 41 = .ok (.getfield 42, 3) := by decide +kernel
theorem dX11_drawAheadOfDay_44 : decode cX11_drawAheadOfDay 44 = .ok (.getfield 156, 3) := by decide +kernel
theorem dX11_drawAheadOfDay_47 : decode cX11_drawAheadOfDay 47 = .ok (.invokevirtual 310, 3) := by decide +kernel
theorem dX11_drawAheadOfDay_50 : decode cX11_drawAheadOfDay 50 = .ok (.istore_n 2, 1) := by decide +kernel
theorem dX11_drawAheadOfDay_51 : decode cX11_drawAheadOfDay 51 = .ok (.aload_n 0, 1) := by decide +kernel
theorem dX11_drawAheadOfDay_52 : decode cX11_drawAheadOfDay 52 = .ok (.getfield 49, 3) := by decide +kernel
theorem dX11_drawAheadOfDay_55 : decode cX11_drawAheadOfDay 55 = .ok (.getfield 219, 3) := by decide +kernel
theorem dX11_drawAheadOfDay_58 : decode cX11_drawAheadOfDay 58 = .ok (.iload_n 2, 1) := by decide +kernel
theorem dX11_drawAheadOfDay_59 : decode cX11_drawAheadOfDay 59 = .ok (.iconst 1, 1) := by decide +kernel
theorem dX11_drawAheadOfDay_60 : decode cX11_drawAheadOfDay 60 = .ok (.aload_n 0, 1) := by decide +kernel
theorem dX11_drawAheadOfDay_61 : decode cX11_drawAheadOfDay 61 = .ok (.getfield 49, 3) := by decide +kernel
theorem dX11_drawAheadOfDay_64 : decode cX11_drawAheadOfDay 64 = .ok (.getfield 219, 3) := by decide +kernel
theorem dX11_drawAheadOfDay_67 : decode cX11_drawAheadOfDay 67 = .ok (.iload_n 2, 1) := by decide +kernel
theorem dX11_drawAheadOfDay_68 : decode cX11_drawAheadOfDay 68 = .ok (.iaload, 1) := by decide +kernel
theorem dX11_drawAheadOfDay_69 : decode cX11_drawAheadOfDay 69 = .ok (.isub, 1) := by decide +kernel
theorem dX11_drawAheadOfDay_70 : decode cX11_drawAheadOfDay 70 = .ok (.iastore, 1) := by decide +kernel
theorem dX11_drawAheadOfDay_71 : decode cX11_drawAheadOfDay 71 = .ok (.return_, 1) := by decide +kernel
theorem vk_TrapCorner_310 : VK "TrapCorner" 310 [11] yX11_draw 1 := ⟨tw_989, tw_991, tw_1, ⟨by decide, by decide⟩, by decide +kernel, fun ci hci => by
  have hci := List.mem_singleton.mp hci
  subst hci
  exact ⟨_, rfl, tp_33⟩⟩
section
variable {g : GG} {p : Program} {l : Launch} {e : Env} {R : Room} {s : State} {m : MethodId} {args : Array Value} {below : List Frame} {meth : Method} {c : Code} {n0 z0 : Nat}
def f_X11_drawAheadOfDay_0  (o0 : Nat) (h : AH) : Option (Unit × AH) :=
  (gR [11] h o0 4).bind fun v1 =>
  (gI [10] h v1 0).bind fun v3 =>
  (isC [11] h o0).bind fun _ =>
  cN (f_X11_draw o0 v3 h) h fun v5 h6 =>
  (gR [11] h6 o0 5).bind fun v10 =>
  (gR [8] h6 v10 0).bind fun v12 =>
  (isC [11] h6 o0).bind fun _ =>
  cN (f_X11_draw o0 4 h6) h6 fun v14 h15 =>
  (uI 0 h15 v12 v5 v14).bind fun h19 =>
  (isC [11] h19 o0).bind fun _ =>
  cN (f_X11_draw o0 10 h19) h19 fun v21 h22 =>
  (gI [11] h22 o0 17).bind fun v26 =>
  if v26 ≤ v21 then
    some ((), h22)
  else
    (gR [11] h22 o0 4).bind fun v29 =>
    (gI [10] h22 v29 1).bind fun v31 =>
    (isC [11] h22 o0).bind fun _ =>
    cN (f_X11_draw o0 v31 h22) h22 fun v33 h34 =>
    (gR [11] h34 o0 5).bind fun v38 =>
    (gR [8] h34 v38 4).bind fun v40 =>
    (gR [11] h34 o0 5).bind fun v42 =>
    (gR [8] h34 v42 4).bind fun v44 =>
    (aI 0 h34 v44 v33).bind fun v46 =>
    (uI 0 h34 v40 v33 (1 - v46)).bind fun h48 =>
    some ((), h48)
set_option maxHeartbeats 1000000 in
theorem w_X11_drawAheadOfDay_0 (X : Cx g p s m args meth c cX11_drawAheadOfDay 3 "TrapCorner") (hR : 2 ≤ R.frames ∧ 128 ≤ R.locals) (hr : meth.sig.returnType = none) {res : Unit × AH} : ∀ (o0 : Nat) (h : AH) (ls : Array Slot) (H : Heap) (locs : List Loc), f_X11_drawAheadOfDay_0 o0 h = some res → Iv g s n0 z0 h H locs 0 0 → lv_has ls 3 [(0, .ref (rfG g o0))] → W p l e R s m args below meth c H locs 0 0 (MQ below (QG g none res.2) args s 0 0 (AG g)) (F0 m 0 ls []) := by
  have hx := X.1
  have hb := X.2.1
  intro o0 h ls H locs hf I hl
  unfold f_X11_drawAheadOfDay_0 at hf
  refine lv_aload_n hx hb dX11_drawAheadOfDay_0 rfl (lv_at hl 0 rfl) ?_
  refine lv_aload_n hx hb dX11_drawAheadOfDay_1 rfl (lv_at hl 0 rfl) ?_
  obtain ⟨v1, e2, hf⟩ := Option.bind_eq_some_iff.mp hf
  refine r_gR X I e2 lk_TrapCorner_42 dX11_drawAheadOfDay_2 ?_
  obtain ⟨v3, e4, hf⟩ := Option.bind_eq_some_iff.mp hf
  refine r_gI X I e4 lk_TrapCorner_253 dX11_drawAheadOfDay_5 ?_
  obtain ⟨_, g9, hf⟩ := Option.bind_eq_some_iff.mp hf
  obtain ⟨v5, h6, e7, z8, hf⟩ := cN_spec hf
  refine k_Vi (As := [.int v3]) (rest := []) X I (c_X11_draw l g o0 v3 e7) z8 g9 vk_TrapCorner_310 tw_992 ⟨Nat.le_trans (by decide) hR.1, Nat.le_trans (by decide) hR.2⟩ ⟨Nat.zero_le _, Nat.zero_le _⟩ rfl hl.1 rfl (Nat.le_of_ble_eq_true rfl) dX11_drawAheadOfDay_8 (fun H locs I => ?_)
  refine lv_istore_n (lv' := [(1, .int v5), (0, .ref (rfG g o0))]) hx hb dX11_drawAheadOfDay_11 rfl hl (by decide) rfl (fun ls hl => ?_)
  refine lv_aload_n hx hb dX11_drawAheadOfDay_12 rfl (lv_at hl 1 rfl) ?_
  obtain ⟨v10, e11, hf⟩ := Option.bind_eq_some_iff.mp hf
  refine r_gR X I e11 lk_TrapCorner_49 dX11_drawAheadOfDay_13 ?_
  obtain ⟨v12, e13, hf⟩ := Option.bind_eq_some_iff.mp hf
  refine r_gR X I e13 lk_TrapCorner_188 dX11_drawAheadOfDay_16 ?_
  refine lv_iload_n hx hb dX11_drawAheadOfDay_19 rfl (lv_at hl 0 rfl) ?_
  refine lv_aload_n hx hb dX11_drawAheadOfDay_20 rfl (lv_at hl 1 rfl) ?_
  refine lv_iconst (v := 4) hx hb dX11_drawAheadOfDay_21 (by decide) ?_
  obtain ⟨_, g18, hf⟩ := Option.bind_eq_some_iff.mp hf
  obtain ⟨v14, h15, e16, z17, hf⟩ := cN_spec hf
  refine k_Vi (As := [.int 4]) (rest := [.int v5, .ref (rfG g v12)]) X I (c_X11_draw l g o0 4 e16) z17 g18 vk_TrapCorner_310 tw_992 ⟨Nat.le_trans (by decide) hR.1, Nat.le_trans (by decide) hR.2⟩ ⟨Nat.zero_le _, Nat.zero_le _⟩ rfl hl.1 rfl (Nat.le_of_ble_eq_true rfl) dX11_drawAheadOfDay_22 (fun H locs I => ?_)
  obtain ⟨h19, e20, hf⟩ := Option.bind_eq_some_iff.mp hf
  refine r_uI0 X I e20 dX11_drawAheadOfDay_25 (fun H locs I => ?_)
  refine lv_aload_n hx hb dX11_drawAheadOfDay_26 rfl (lv_at hl 1 rfl) ?_
  refine lv_bipush (v := 10) hx hb dX11_drawAheadOfDay_27 (by decide) ?_
  obtain ⟨_, g25, hf⟩ := Option.bind_eq_some_iff.mp hf
  obtain ⟨v21, h22, e23, z24, hf⟩ := cN_spec hf
  refine k_Vi (As := [.int 10]) (rest := []) X I (c_X11_draw l g o0 10 e23) z24 g25 vk_TrapCorner_310 tw_992 ⟨Nat.le_trans (by decide) hR.1, Nat.le_trans (by decide) hR.2⟩ ⟨Nat.zero_le _, Nat.zero_le _⟩ rfl hl.1 rfl (Nat.le_of_ble_eq_true rfl) dX11_drawAheadOfDay_29 (fun H locs I => ?_)
  refine lv_aload_n hx hb dX11_drawAheadOfDay_32 rfl (lv_at hl 1 rfl) ?_
  obtain ⟨v26, e27, hf⟩ := Option.bind_eq_some_iff.mp hf
  refine r_gI X I e27 lk_TrapCorner_102 dX11_drawAheadOfDay_33 ?_
  refine lv_icmp_ge (tgt := 71) hx hb dX11_drawAheadOfDay_36 (by decide) (fun c28 => ?_) (fun c28 => ?_)
  · rw [if_pos c28] at hf
    cases hf
    exact k_rv X I hr dX11_drawAheadOfDay_71
  · rw [if_neg c28] at hf
    refine lv_aload_n hx hb dX11_drawAheadOfDay_39 rfl (lv_at hl 1 rfl) ?_
    refine lv_aload_n hx hb dX11_drawAheadOfDay_40 rfl (lv_at hl 1 rfl) ?_
    obtain ⟨v29, e30, hf⟩ := Option.bind_eq_some_iff.mp hf
    refine r_gR X I e30 lk_TrapCorner_42 dX11_drawAheadOfDay_41 ?_
    obtain ⟨v31, e32, hf⟩ := Option.bind_eq_some_iff.mp hf
    refine r_gI X I e32 lk_TrapCorner_156 dX11_drawAheadOfDay_44 ?_
    obtain ⟨_, g37, hf⟩ := Option.bind_eq_some_iff.mp hf
    obtain ⟨v33, h34, e35, z36, hf⟩ := cN_spec hf
    refine k_Vi (As := [.int v31]) (rest := []) X I (c_X11_draw l g o0 v31 e35) z36 g37 vk_TrapCorner_310 tw_992 ⟨Nat.le_trans (by decide) hR.1, Nat.le_trans (by decide) hR.2⟩ ⟨Nat.zero_le _, Nat.zero_le _⟩ rfl hl.1 rfl (Nat.le_of_ble_eq_true rfl) dX11_drawAheadOfDay_47 (fun H locs I => ?_)
    refine lv_istore_n (lv' := [(2, .int v33), (1, .int v5), (0, .ref (rfG g o0))]) hx hb dX11_drawAheadOfDay_50 rfl hl (by decide) rfl (fun ls hl => ?_)
    refine lv_aload_n hx hb dX11_drawAheadOfDay_51 rfl (lv_at hl 2 rfl) ?_
    obtain ⟨v38, e39, hf⟩ := Option.bind_eq_some_iff.mp hf
    refine r_gR X I e39 lk_TrapCorner_49 dX11_drawAheadOfDay_52 ?_
    obtain ⟨v40, e41, hf⟩ := Option.bind_eq_some_iff.mp hf
    refine r_gR X I e41 lk_TrapCorner_219 dX11_drawAheadOfDay_55 ?_
    refine lv_iload_n hx hb dX11_drawAheadOfDay_58 rfl (lv_at hl 0 rfl) ?_
    refine lv_iconst (v := 1) hx hb dX11_drawAheadOfDay_59 (by decide) ?_
    refine lv_aload_n hx hb dX11_drawAheadOfDay_60 rfl (lv_at hl 2 rfl) ?_
    obtain ⟨v42, e43, hf⟩ := Option.bind_eq_some_iff.mp hf
    refine r_gR X I e43 lk_TrapCorner_49 dX11_drawAheadOfDay_61 ?_
    obtain ⟨v44, e45, hf⟩ := Option.bind_eq_some_iff.mp hf
    refine r_gR X I e45 lk_TrapCorner_219 dX11_drawAheadOfDay_64 ?_
    refine lv_iload_n hx hb dX11_drawAheadOfDay_67 rfl (lv_at hl 0 rfl) ?_
    obtain ⟨v46, e47, hf⟩ := Option.bind_eq_some_iff.mp hf
    refine r_aI0 X I e47 dX11_drawAheadOfDay_68 ?_
    refine lv_isub hx hb dX11_drawAheadOfDay_69 ?_
    obtain ⟨h48, e49, hf⟩ := Option.bind_eq_some_iff.mp hf
    refine r_uI0 X I e49 dX11_drawAheadOfDay_70 (fun H locs I => ?_)
    cases hf
    exact k_rv X I hr dX11_drawAheadOfDay_71
def f_X11_drawAheadOfDay (o0 : Nat) (h : AH) : Option (Unit × AH) := f_X11_drawAheadOfDay_0 o0 h
end
theorem c_X11_drawAheadOfDay (l : Launch) (g : GG) (o0 : Nat) {h : AH} {res : Unit × AH} (hf : f_X11_drawAheadOfDay o0 h = some res) : CM l g yX11_drawAheadOfDay cX11_drawAheadOfDay 3 none 2 128 0 0 [.ref (rfG g o0)] h none res.2 :=
  k_body (by decide) (Nat.le_of_ble_eq_true rfl) (fun p e s m below meth c R ls hR hr X I hl => w_X11_drawAheadOfDay_0 X ⟨Nat.le_of_eq hR.1.symm, Nat.le_of_eq hR.2.1.symm⟩ hr o0 h ls s.heap [] hf I (lv_sub hl [0] rfl))
/-! TrapCorner.undo()I -/
theorem dX11_undo_0 : decode cX11_undo 0 = .ok (.aload_n 0, 1) := by decide +kernel
theorem dX11_undo_1 : decode cX11_undo 1 = .ok (.getfield 59, 3) := by decide +kernel
theorem dX11_undo_4 : decode cX11_undo 4 = .ok (.getfield 265, 3) := by decide +kernel
theorem dX11_undo_7 : decode cX11_undo 7 = .ok (.ifCond .ne 5, 3) := by decide +kernel
theorem dX11_undo_10 : decode cX11_undo 10 = .ok (.iconst (-1), 1) := by decide +kernel
theorem dX11_undo_11 : decode cX11_undo 11 = .ok (.ireturn, 1) := by decide +kernel
theorem dX11_undo_12 : decode cX11_undo 12 = .ok (.aload_n 0, 1) := by decide +kernel
theorem dX11_undo_13 : decode cX11_undo 13 = .ok (.getfield 59, 3) := by decide +kernel
theorem dX11_undo_16 : decode cX11_undo 16 = .ok (.aload_n 0, 1) := by decide +kernel
theorem dX11_undo_17 : decode cX11_undo 17 = .ok (.getfield 49, 3) := by decide +kernel
theorem dX11_undo_20 : decode cX11_undo 20 = .ok (.invokevirtual 317, 3) := by decide +kernel
theorem dX11_undo_23 : decode cX11_undo 23 = .ok (.aload_n 0, 1) := by decide +kernel
theorem dX11_undo_24 : decode cX11_undo 24 = .ok (.getfield 59, 3) := by decide +kernel
theorem dX11_undo_27 : decode cX11_undo 27 = .ok (.getfield 265, 3) := by decide +kernel
theorem dX11_undo_30 : decode cX11_undo 30 = .ok (.ireturn, 1) := by decide +kernel
theorem lk_TrapCorner_265 : LK "TrapCorner" 265 [1] 2 := by
  intro ci hci
  have hci := List.mem_singleton.mp hci
  subst hci
  exact ⟨RX1, TX1, 7, "TrapCorner$History", ck_1, by decide, tw_253, Or.inl rfl⟩
theorem vk_TrapCorner_317 : VK "TrapCorner" 317 [1] yX1_restore 1 := ⟨tw_999, tw_1000, tw_9, ⟨by decide, by decide⟩, by decide +kernel, fun ci hci => by
  have hci := List.mem_singleton.mp hci
  subst hci
  exact ⟨_, rfl, tw_1001⟩⟩
section
variable {g : GG} {p : Program} {l : Launch} {e : Env} {R : Room} {s : State} {m : MethodId} {args : Array Value} {below : List Frame} {meth : Method} {c : Code} {n0 z0 : Nat}
def f_X11_undo_0  (o0 : Nat) (h : AH) : Option (Int32 × AH) :=
  (gR [11] h o0 7).bind fun v1 =>
  (gI [1] h v1 2).bind fun v3 =>
  if v3 = 0 then
    some ((-1), h)
  else
    (gR [11] h o0 7).bind fun v6 =>
    (gR [11] h o0 5).bind fun v8 =>
    (isC [1] h v6).bind fun _ =>
    cN (f_X1_restore v6 v8 h) h fun _ h11 =>
    (gR [11] h11 o0 7).bind fun v15 =>
    (gI [1] h11 v15 2).bind fun v17 =>
    some (v17, h11)
set_option maxHeartbeats 1000000 in
theorem w_X11_undo_0 (X : Cx g p s m args meth c cX11_undo 1 "TrapCorner") (hR : 3 ≤ R.frames ∧ 192 ≤ R.locals) (hr : meth.sig.returnType = (some (.int))) {res : Int32 × AH} : ∀ (o0 : Nat) (h : AH) (ls : Array Slot) (H : Heap) (locs : List Loc), f_X11_undo_0 o0 h = some res → Iv g s n0 z0 h H locs 0 0 → lv_has ls 1 [(0, .ref (rfG g o0))] → W p l e R s m args below meth c H locs 0 0 (MQ below (QG g (some (.int res.1)) res.2) args s 0 0 (AG g)) (F0 m 0 ls []) := by
  have hx := X.1
  have hb := X.2.1
  intro o0 h ls H locs hf I hl
  unfold f_X11_undo_0 at hf
  refine lv_aload_n hx hb dX11_undo_0 rfl (lv_at hl 0 rfl) ?_
  obtain ⟨v1, e2, hf⟩ := Option.bind_eq_some_iff.mp hf
  refine r_gR X I e2 lk_TrapCorner_59 dX11_undo_1 ?_
  obtain ⟨v3, e4, hf⟩ := Option.bind_eq_some_iff.mp hf
  refine r_gI X I e4 lk_TrapCorner_265 dX11_undo_4 ?_
  refine lv_if_ne (tgt := 12) hx hb dX11_undo_7 (by decide) (fun c5 => ?_) (fun c5 => ?_)
  · rw [if_neg c5] at hf
    refine lv_aload_n hx hb dX11_undo_12 rfl (lv_at hl 0 rfl) ?_
    obtain ⟨v6, e7, hf⟩ := Option.bind_eq_some_iff.mp hf
    refine r_gR X I e7 lk_TrapCorner_59 dX11_undo_13 ?_
    refine lv_aload_n hx hb dX11_undo_16 rfl (lv_at hl 0 rfl) ?_
    obtain ⟨v8, e9, hf⟩ := Option.bind_eq_some_iff.mp hf
    refine r_gR X I e9 lk_TrapCorner_49 dX11_undo_17 ?_
    obtain ⟨_, g14, hf⟩ := Option.bind_eq_some_iff.mp hf
    obtain ⟨⟨⟩, h11, e12, z13, hf⟩ := cN_spec hf
    refine k_Vv (As := [.ref (rfG g v8)]) (rest := []) X I (c_X1_restore l g v6 v8 e12) z13 g14 vk_TrapCorner_317 tw_1002 ⟨Nat.le_trans (by decide) hR.1, Nat.le_trans (by decide) hR.2⟩ ⟨Nat.zero_le _, Nat.zero_le _⟩ rfl hl.1 rfl (Nat.le_of_ble_eq_true rfl) dX11_undo_20 (fun H locs I => ?_)
    refine lv_aload_n hx hb dX11_undo_23 rfl (lv_at hl 0 rfl) ?_
    obtain ⟨v15, e16, hf⟩ := Option.bind_eq_some_iff.mp hf
    refine r_gR X I e16 lk_TrapCorner_59 dX11_undo_24 ?_
    obtain ⟨v17, e18, hf⟩ := Option.bind_eq_some_iff.mp hf
    refine r_gI X I e18 lk_TrapCorner_265 dX11_undo_27 ?_
    cases hf
    exact k_ri X I hr dX11_undo_30
  · rw [if_pos c5] at hf
    refine lv_iconst (v := (-1)) hx hb dX11_undo_10 (by decide) ?_
    cases hf
    exact k_ri X I hr dX11_undo_11
def f_X11_undo (o0 : Nat) (h : AH) : Option (Int32 × AH) := f_X11_undo_0 o0 h
end
theorem c_X11_undo (l : Launch) (g : GG) (o0 : Nat) {h : AH} {res : Int32 × AH} (hf : f_X11_undo o0 h = some res) : CM l g yX11_undo cX11_undo 1 (some (.int)) 3 192 0 0 [.ref (rfG g o0)] h (some (.int res.1)) res.2 :=
  k_body (by decide) (Nat.le_of_ble_eq_true rfl) (fun p e s m below meth c R ls hR hr X I hl => w_X11_undo_0 X ⟨Nat.le_of_eq hR.1.symm, Nat.le_of_eq hR.2.1.symm⟩ hr o0 h ls s.heap [] hf I (lv_sub hl [0] rfl))
/-! TrapCorner.image()I -/
theorem dX11_image_0 : decode cX11_image 0 = .ok (.aload_n 0, 1) := by decide +kernel
theorem dX11_image_1 : decode cX11_image 1 = .ok (.invokevirtual 172, 3) := by decide +kernel
theorem dX11_image_4 : decode cX11_image 4 = .ok (.ifCond .ne 5, 3) := by decide +kernel
theorem dX11_image_7 : decode cX11_image 7 = .ok (.iconst (-1), 1) := by decide +kernel
theorem dX11_image_8 : decode cX11_image 8 = .ok (.ireturn, 1) := by decide +kernel
theorem dX11_image_9 : decode cX11_image 9 = .ok (.aload_n 0, 1) := by decide +kernel
theorem dX11_image_10 : decode cX11_image 10 = .ok (.getfield 59, 3) := by decide +kernel
theorem dX11_image_13 : decode cX11_image 13 = .ok (.aload_n 0, 1) := by decide +kernel
theorem dX11_image_14 : decode cX11_image 14 = .ok (.getfield 49, 3) := by decide +kernel
theorem dX11_image_17 : decode cX11_image 17 = .ok (.invokevirtual 320, 3) := by decide +kernel
theorem dX11_image_20 : decode cX11_image 20 = .ok (.aload_n 0, 1) := by decide +kernel
theorem dX11_image_21 : decode cX11_image 21 = .ok (.getfield 49, 3) := by decide +kernel
theorem dX11_image_24 : decode cX11_image 24 = .ok (.getfield 228, 3) := by decide +kernel
theorem dX11_image_27 : decode cX11_image 27 = .ok (.ireturn, 1) := by decide +kernel
theorem vk_TrapCorner_320 : VK "TrapCorner" 320 [1] yX1_takeImage 1 := ⟨tw_1011, tw_1012, tw_9, ⟨by decide, by decide⟩, by decide +kernel, fun ci hci => by
  have hci := List.mem_singleton.mp hci
  subst hci
  exact ⟨_, rfl, tw_1013⟩⟩
section
variable {g : GG} {p : Program} {l : Launch} {e : Env} {R : Room} {s : State} {m : MethodId} {args : Array Value} {below : List Frame} {meth : Method} {c : Code} {n0 z0 : Nat}
def f_X11_image_0  (o0 : Nat) (h : AH) : Option (Int32 × AH) :=
  (isC [11] h o0).bind fun _ =>
  cN (f_X11_hasCity o0 h) h fun v1 h2 =>
  if v1 = 0 then
    some ((-1), h2)
  else
    (gR [11] h2 o0 7).bind fun v7 =>
    (gR [11] h2 o0 5).bind fun v9 =>
    (isC [1] h2 v7).bind fun _ =>
    cN (f_X1_takeImage v7 v9 h2) h2 fun _ h12 =>
    (gR [11] h12 o0 5).bind fun v16 =>
    (gI [8] h12 v16 7).bind fun v18 =>
    some (v18, h12)
set_option maxHeartbeats 1000000 in
theorem w_X11_image_0 (X : Cx g p s m args meth c cX11_image 1 "TrapCorner") (hR : 3 ≤ R.frames ∧ 192 ≤ R.locals) (hr : meth.sig.returnType = (some (.int))) {res : Int32 × AH} : ∀ (o0 : Nat) (h : AH) (ls : Array Slot) (H : Heap) (locs : List Loc), f_X11_image_0 o0 h = some res → Iv g s n0 z0 h H locs 0 0 → lv_has ls 1 [(0, .ref (rfG g o0))] → W p l e R s m args below meth c H locs 0 0 (MQ below (QG g (some (.int res.1)) res.2) args s 0 0 (AG g)) (F0 m 0 ls []) := by
  have hx := X.1
  have hb := X.2.1
  intro o0 h ls H locs hf I hl
  unfold f_X11_image_0 at hf
  refine lv_aload_n hx hb dX11_image_0 rfl (lv_at hl 0 rfl) ?_
  obtain ⟨_, g5, hf⟩ := Option.bind_eq_some_iff.mp hf
  obtain ⟨v1, h2, e3, z4, hf⟩ := cN_spec hf
  refine k_Vi (As := []) (rest := []) X I (c_X11_hasCity l g o0 e3) z4 g5 vk_TrapCorner_172 tw_793 ⟨Nat.le_trans (by decide) hR.1, Nat.le_trans (by decide) hR.2⟩ ⟨Nat.zero_le _, Nat.zero_le _⟩ rfl hl.1 rfl (Nat.le_of_ble_eq_true rfl) dX11_image_1 (fun H locs I => ?_)
  refine lv_if_ne (tgt := 9) hx hb dX11_image_4 (by decide) (fun c6 => ?_) (fun c6 => ?_)
  · rw [if_neg c6] at hf
    refine lv_aload_n hx hb dX11_image_9 rfl (lv_at hl 0 rfl) ?_
    obtain ⟨v7, e8, hf⟩ := Option.bind_eq_some_iff.mp hf
    refine r_gR X I e8 lk_TrapCorner_59 dX11_image_10 ?_
    refine lv_aload_n hx hb dX11_image_13 rfl (lv_at hl 0 rfl) ?_
    obtain ⟨v9, e10, hf⟩ := Option.bind_eq_some_iff.mp hf
    refine r_gR X I e10 lk_TrapCorner_49 dX11_image_14 ?_
    obtain ⟨_, g15, hf⟩ := Option.bind_eq_some_iff.mp hf
    obtain ⟨⟨⟩, h12, e13, z14, hf⟩ := cN_spec hf
    refine k_Vv (As := [.ref (rfG g v9)]) (rest := []) X I (c_X1_takeImage l g v7 v9 e13) z14 g15 vk_TrapCorner_320 tw_1014 ⟨Nat.le_trans (by decide) hR.1, Nat.le_trans (by decide) hR.2⟩ ⟨Nat.zero_le _, Nat.zero_le _⟩ rfl hl.1 rfl (Nat.le_of_ble_eq_true rfl) dX11_image_17 (fun H locs I => ?_)
    refine lv_aload_n hx hb dX11_image_20 rfl (lv_at hl 0 rfl) ?_
    obtain ⟨v16, e17, hf⟩ := Option.bind_eq_some_iff.mp hf
    refine r_gR X I e17 lk_TrapCorner_49 dX11_image_21 ?_
    obtain ⟨v18, e19, hf⟩ := Option.bind_eq_some_iff.mp hf
    refine r_gI X I e19 lk_TrapCorner_228 dX11_image_24 ?_
    cases hf
    exact k_ri X I hr dX11_image_27
  · rw [if_pos c6] at hf
    refine lv_iconst (v := (-1)) hx hb dX11_image_7 (by decide) ?_
    cases hf
    exact k_ri X I hr dX11_image_8
def f_X11_image (o0 : Nat) (h : AH) : Option (Int32 × AH) := f_X11_image_0 o0 h
end
theorem c_X11_image (l : Launch) (g : GG) (o0 : Nat) {h : AH} {res : Int32 × AH} (hf : f_X11_image o0 h = some res) : CM l g yX11_image cX11_image 1 (some (.int)) 3 192 0 0 [.ref (rfG g o0)] h (some (.int res.1)) res.2 :=
  k_body (by decide) (Nat.le_of_ble_eq_true rfl) (fun p e s m below meth c R ls hR hr X I hl => w_X11_image_0 X ⟨Nat.le_of_eq hR.1.symm, Nat.le_of_eq hR.2.1.symm⟩ hr o0 h ls s.heap [] hf I (lv_sub hl [0] rfl))
/-! TrapCorner.back()I -/
theorem dX11_back_0 : decode cX11_back 0 = .ok (.aload_n 0, 1) := by decide +kernel
theorem dX11_back_1 : decode cX11_back 1 = .ok (.getfield 59, 3) := by decide +kernel
theorem dX11_back_4 : decode cX11_back 4 = .ok (.getfield 323, 3) := by decide +kernel
theorem dX11_back_7 : decode cX11_back 7 = .ok (.ifCond .ne 5, 3) := by decide +kernel
theorem dX11_back_10 : decode cX11_back 10 = .ok (.iconst (-1), 1) := by decide +kernel
theorem dX11_back_11 : decode cX11_back 11 = .ok (.ireturn, 1) := by decide +kernel
theorem dX11_back_12 : decode cX11_back 12 = .ok (.aload_n 0, 1) := by decide +kernel
theorem dX11_back_13 : decode cX11_back 13 = .ok (.getfield 59, 3) := by decide +kernel
theorem dX11_back_16 : decode cX11_back 16 = .ok (.aload_n 0, 1) := by decide +kernel
theorem dX11_back_17 : decode cX11_back 17 = .ok (.getfield 49, 3) := by decide +kernel
theorem dX11_back_20 : decode cX11_back 20 = .ok (.invokevirtual 327, 3) := by decide +kernel
theorem dX11_back_23 : decode cX11_back 23 = .ok (.aload_n 0, 1) := by decide +kernel
theorem dX11_back_24 : decode cX11_back 24 = .ok (.getfield 49, 3) := by decide +kernel
theorem dX11_back_27 : decode cX11_back 27 = .ok (.getfield 228, 3) := by decide +kernel
theorem dX11_back_30 : decode cX11_back 30 = .ok (.ireturn, 1) := by decide +kernel
theorem lk_TrapCorner_323 : LK "TrapCorner" 323 [1] 6 := by
  intro ci hci
  have hci := List.mem_singleton.mp hci
  subst hci
  exact ⟨RX1, TX1, 7, "TrapCorner$History", ck_1, by decide, tw_258, Or.inl rfl⟩
theorem vk_TrapCorner_327 : VK "TrapCorner" 327 [1] yX1_showImage 1 := ⟨tw_1020, tw_1021, tw_9, ⟨by decide, by decide⟩, by decide +kernel, fun ci hci => by
  have hci := List.mem_singleton.mp hci
  subst hci
  exact ⟨_, rfl, tw_1022⟩⟩
section
variable {g : GG} {p : Program} {l : Launch} {e : Env} {R : Room} {s : State} {m : MethodId} {args : Array Value} {below : List Frame} {meth : Method} {c : Code} {n0 z0 : Nat}
def f_X11_back_0  (o0 : Nat) (h : AH) : Option (Int32 × AH) :=
  (gR [11] h o0 7).bind fun v1 =>
  (gI [1] h v1 6).bind fun v3 =>
  if v3 = 0 then
    some ((-1), h)
  else
    (gR [11] h o0 7).bind fun v6 =>
    (gR [11] h o0 5).bind fun v8 =>
    (isC [1] h v6).bind fun _ =>
    cN (f_X1_showImage v6 v8 h) h fun _ h11 =>
    (gR [11] h11 o0 5).bind fun v15 =>
    (gI [8] h11 v15 7).bind fun v17 =>
    some (v17, h11)
set_option maxHeartbeats 1000000 in
theorem w_X11_back_0 (X : Cx g p s m args meth c cX11_back 1 "TrapCorner") (hR : 3 ≤ R.frames ∧ 192 ≤ R.locals) (hr : meth.sig.returnType = (some (.int))) {res : Int32 × AH} : ∀ (o0 : Nat) (h : AH) (ls : Array Slot) (H : Heap) (locs : List Loc), f_X11_back_0 o0 h = some res → Iv g s n0 z0 h H locs 0 0 → lv_has ls 1 [(0, .ref (rfG g o0))] → W p l e R s m args below meth c H locs 0 0 (MQ below (QG g (some (.int res.1)) res.2) args s 0 0 (AG g)) (F0 m 0 ls []) := by
  have hx := X.1
  have hb := X.2.1
  intro o0 h ls H locs hf I hl
  unfold f_X11_back_0 at hf
  refine lv_aload_n hx hb dX11_back_0 rfl (lv_at hl 0 rfl) ?_
  obtain ⟨v1, e2, hf⟩ := Option.bind_eq_some_iff.mp hf
  refine r_gR X I e2 lk_TrapCorner_59 dX11_back_1 ?_
  obtain ⟨v3, e4, hf⟩ := Option.bind_eq_some_iff.mp hf
  refine r_gI X I e4 lk_TrapCorner_323 dX11_back_4 ?_
  refine lv_if_ne (tgt := 12) hx hb dX11_back_7 (by decide) (fun c5 => ?_) (fun c5 => ?_)
  · rw [if_neg c5] at hf
    refine lv_aload_n hx hb dX11_back_12 rfl (lv_at hl 0 rfl) ?_
    obtain ⟨v6, e7, hf⟩ := Option.bind_eq_some_iff.mp hf
    refine r_gR X I e7 lk_TrapCorner_59 dX11_back_13 ?_
    refine lv_aload_n hx hb dX11_back_16 rfl (lv_at hl 0 rfl) ?_
    obtain ⟨v8, e9, hf⟩ := Option.bind_eq_some_iff.mp hf
    refine r_gR X I e9 lk_TrapCorner_49 dX11_back_17 ?_
    obtain ⟨_, g14, hf⟩ := Option.bind_eq_some_iff.mp hf
    obtain ⟨⟨⟩, h11, e12, z13, hf⟩ := cN_spec hf
    refine k_Vv (As := [.ref (rfG g v8)]) (rest := []) X I (c_X1_showImage l g v6 v8 e12) z13 g14 vk_TrapCorner_327 tw_1023 ⟨Nat.le_trans (by decide) hR.1, Nat.le_trans (by decide) hR.2⟩ ⟨Nat.zero_le _, Nat.zero_le _⟩ rfl hl.1 rfl (Nat.le_of_ble_eq_true rfl) dX11_back_20 (fun H locs I => ?_)
    refine lv_aload_n hx hb dX11_back_23 rfl (lv_at hl 0 rfl) ?_
    obtain ⟨v15, e16, hf⟩ := Option.bind_eq_some_iff.mp hf
    refine r_gR X I e16 lk_TrapCorner_49 dX11_back_24 ?_
    obtain ⟨v17, e18, hf⟩ := Option.bind_eq_some_iff.mp hf
    refine r_gI X I e18 lk_TrapCorner_228 dX11_back_27 ?_
    cases hf
    exact k_ri X I hr dX11_back_30
  · rw [if_pos c5] at hf
    refine lv_iconst (v := (-1)) hx hb dX11_back_10 (by decide) ?_
    cases hf
    exact k_ri X I hr dX11_back_11
def f_X11_back (o0 : Nat) (h : AH) : Option (Int32 × AH) := f_X11_back_0 o0 h
end
theorem c_X11_back (l : Launch) (g : GG) (o0 : Nat) {h : AH} {res : Int32 × AH} (hf : f_X11_back o0 h = some res) : CM l g yX11_back cX11_back 1 (some (.int)) 3 192 0 0 [.ref (rfG g o0)] h (some (.int res.1)) res.2 :=
  k_body (by decide) (Nat.le_of_ble_eq_true rfl) (fun p e s m below meth c R ls hR hr X I hl => w_X11_back_0 X ⟨Nat.le_of_eq hR.1.symm, Nat.le_of_eq hR.2.1.symm⟩ hr o0 h ls s.heap [] hf I (lv_sub hl [0] rfl))
/-! TrapCorner.canBe(LTrapCorner$State;III)Z -/
theorem dX11_canBe_0 : decode cX11_canBe 0 = .ok (.iload_n 2, 1) := by decide +kernel
theorem dX11_canBe_1 : decode cX11_canBe 1 = .ok (.tableswitch 138 0 3 #[31, 54, 99, 132], 31) := by decide +kernel
theorem dX11_canBe_32 : decode cX11_canBe 32 = .ok (.aload_n 0, 1) := by decide +kernel
theorem dX11_canBe_33 : decode cX11_canBe 33 = .ok (.invokevirtual 172, 3) := by decide +kernel
theorem dX11_canBe_36 : decode cX11_canBe 36 = .ok (.ifCond .eq 17, 3) := by decide +kernel
theorem dX11_canBe_39 : decode cX11_canBe 39 = .ok (.aload_n 1, 1) := by decide +kernel
theorem dX11_canBe_40 : decode cX11_canBe 40 = .ok (.getfield 228, 3) := by decide +kernel
theorem dX11_canBe_43 : decode cX11_canBe 43 = .ok (.sipush 999, 3) := by decide +kernel
theorem dX11_canBe_46 : decode cX11_canBe 46 = .ok (.if_icmp .ge 7, 3) := by decide +kernel
theorem dX11_canBe_49 : decode cX11_canBe 49 = .ok (.iconst 1, 1) := by decide +kernel
theorem dX11_canBe_50 : decode cX11_canBe 50 = .ok (.goto 4, 3) := by decide +kernel
theorem dX11_canBe_53 : decode cX11_canBe 53 = .ok (.iconst 0, 1) := by decide +kernel
theorem dX11_canBe_54 : decode cX11_canBe 54 = .ok (.ireturn, 1) := by decide +kernel
theorem dX11_canBe_55 : decode cX11_canBe 55 = .ok (.aload_n 0, 1) := by decide +kernel
theorem dX11_canBe_56 : decode cX11_canBe 56 = .ok (.iload_n 3, 1) := by decide +kernel
theorem dX11_canBe_57 : decode cX11_canBe 57 = .ok (.invokevirtual 184, 3) := by decide +kernel
theorem dX11_canBe_60 : decode cX11_canBe 60 = .ok (.ifCond .eq 38, 3) := by decide +kernel
theorem dX11_canBe_63 : decode cX11_canBe 63 = .ok (.iload 4, 2) := by decide +kernel
theorem dX11_canBe_65 : decode cX11_canBe 65 = .ok (.invokestatic 337, 3) := by decide +kernel
theorem dX11_canBe_68 : decode cX11_canBe 68 = .ok (.ifCond .eq 30, 3) := by decide +kernel
theorem dX11_canBe_71 : decode cX11_canBe 71 = .ok (.aload_n 1, 1) := by decide +kernel
theorem dX11_canBe_72 : decode cX11_canBe 72 = .ok (.getfield 188, 3) := by decide +kernel
theorem dX11_canBe_75 : decode cX11_canBe 75 = .ok (.iload_n 3, 1) := by decide +kernel
theorem dX11_canBe_76 : decode cX11_canBe 76 = .ok (.iaload, 1) := by decide +kernel
theorem dX11_canBe_77 : decode cX11_canBe 77 = .ok (.iload 4, 2) := by decide +kernel
theorem dX11_canBe_79 : decode cX11_canBe 79 = .ok (.if_icmp .eq 19, 3) := by decide +kernel
theorem dX11_canBe_82 : decode cX11_canBe 82 = .ok (.aload_n 1, 1) := by decide +kernel
theorem dX11_canBe_83 : decode cX11_canBe 83 = .ok (.getfield 178, 3) := by decide +kernel
theorem dX11_canBe_86 : decode cX11_canBe 86 = .ok (.iload 4, 2) := by decide +kernel
theorem dX11_canBe_88 : decode cX11_canBe 88 = .ok (.invokestatic 340, 3) := by decide +kernel
theorem dX11_canBe_91 : decode cX11_canBe 91 = .ok (.if_icmp .lt 7, 3) := by decide +kernel
theorem dX11_canBe_94 : decode cX11_canBe 94 = .ok (.iconst 1, 1) := by decide +kernel
theorem dX11_canBe_95 : decode cX11_canBe 95 = .ok (.goto 4, 3) := by decide +kernel
theorem dX11_canBe_98 : decode cX11_canBe 98 = .ok (.iconst 0, 1) := by decide +kernel
theorem dX11_canBe_99 : decode cX11_canBe 99 = .ok (.ireturn, 1) := by decide +kernel
theorem dX11_canBe_100 : decode cX11_canBe 100 = .ok (.aload_n 0, 1) := by decide +kernel
theorem dX11_canBe_101 : decode cX11_canBe 101 = .ok (.iload_n 3, 1) := by decide +kernel
theorem dX11_canBe_102 : decode cX11_canBe 102 = .ok (.invokevirtual 184, 3) := by decide +kernel
theorem dX11_canBe_105 : decode cX11_canBe 105 = .ok (.ifCond .eq 26, 3) := by decide +kernel
theorem dX11_canBe_108 : decode cX11_canBe 108 = .ok (.aload_n 1, 1) := by decide +kernel
theorem dX11_canBe_109 : decode cX11_canBe 109 = .ok (.getfield 191, 3) := by decide +kernel
theorem dX11_canBe_112 : decode cX11_canBe 112 = .ok (.iload_n 3, 1) := by decide +kernel
theorem dX11_canBe_113 : decode cX11_canBe 113 = .ok (.iaload, 1) := by decide +kernel
theorem dX11_canBe_114 : decode cX11_canBe 114 = .ok (.bipush 9, 2) := by decide +kernel
theorem dX11_canBe_116 : decode cX11_canBe 116 = .ok (.if_icmp .ge 15, 3) := by decide +kernel
theorem dX11_canBe_119 : decode cX11_canBe 119 = .ok (.aload_n 1, 1) := by decide +kernel
theorem dX11_canBe_120 : decode cX11_canBe 120 = .ok (.getfield 178, 3) := by decide +kernel
theorem dX11_canBe_123 : decode cX11_canBe 123 = .ok (.iconst 1, 1) := by decide +kernel
theorem dX11_canBe_124 : decode cX11_canBe 124 = .ok (.if_icmp .lt 7, 3) := by decide +kernel
theorem dX11_canBe_127 : decode cX11_canBe 127 = .ok (.iconst 1, 1) := by decide +kernel
theorem dX11_canBe_128 : decode cX11_canBe 128 = .ok (.goto 4, 3) := by decide +kernel
theorem dX11_canBe_131 : decode cX11_canBe 131 = .ok (.iconst 0, 1) := by decide +kernel
theorem dX11_canBe_132 : decode cX11_canBe 132 = .ok (.ireturn, 1) := by decide +kernel
theorem dX11_canBe_133 : decode cX11_canBe 133 = .ok (.aload_n 0, 1) := by decide +kernel
theorem dX11_canBe_134 : decode cX11_canBe 134 = .ok (.iload_n 3, 1) := by decide +kernel
theorem dX11_canBe_135 : decode cX11_canBe 135 = .ok (.invokevirtual 194, 3) := by decide +kernel
theorem dX11_canBe_138 : decode cX11_canBe 138 = .ok (.ireturn, 1) := by decide +kernel
theorem dX11_canBe_139 : decode cX11_canBe 139 = .ok (.iconst 0, 1) := by decide +kernel
theorem dX11_canBe_140 : decode cX11_canBe 140 = .ok (.ireturn, 1) := by decide +kernel
theorem sk_TrapCorner_337 : SK "TrapCorner" 337 yX11_isCrumb 1 := ⟨tw_871, tw_872, tw_1, ⟨by decide, by decide⟩, by decide +kernel⟩
theorem sk_TrapCorner_340 : SK "TrapCorner" 340 yX11_priceOf 1 := ⟨tw_874, tw_875, tw_1, ⟨by decide, by decide⟩, by decide +kernel⟩
section
variable {g : GG} {p : Program} {l : Launch} {e : Env} {R : Room} {s : State} {m : MethodId} {args : Array Value} {below : List Frame} {meth : Method} {c : Code} {n0 z0 : Nat}
def f_X11_canBe_0  (o0 : Nat) (o1 : Nat) (x2 : Int32) (x3 : Int32) (x4 : Int32) (h : AH) : Option (Int32 × AH) :=
  if x2 = 0 then
    (isC [11] h o0).bind fun _ =>
    cN (f_X11_hasCity o0 h) h fun v2 h3 =>
    if v2 = 0 then
      some (0, h3)
    else
      (gI [8] h3 o1 7).bind fun v8 =>
      if 999 ≤ v8 then
        some (0, h3)
      else
        some (1, h3)
  else
    if x2 = 1 then
      (isC [11] h o0).bind fun _ =>
      cN (f_X11_hasCorner o0 x3 h) h fun v12 h13 =>
      if v12 = 0 then
        some (0, h13)
      else
        cN (f_X11_isCrumb x4 h13) h13 fun v18 h19 =>
        if v18 = 0 then
          some (0, h19)
        else
          (gR [8] h19 o1 0).bind fun v23 =>
          (aI 0 h19 v23 x3).bind fun v25 =>
          if v25 = x4 then
            some (0, h19)
          else
            (gI [8] h19 o1 6).bind fun v28 =>
            cN (f_X11_priceOf x4 h19) h19 fun v30 h31 =>
            if v28 < v30 then
              some (0, h31)
            else
              some (1, h31)
    else
      if x2 = 2 then
        (isC [11] h o0).bind fun _ =>
        cN (f_X11_hasCorner o0 x3 h) h fun v36 h37 =>
        if v36 = 0 then
          some (0, h37)
        else
          (gR [8] h37 o1 1).bind fun v42 =>
          (aI 0 h37 v42 x3).bind fun v44 =>
          if 9 ≤ v44 then
            some (0, h37)
          else
            (gI [8] h37 o1 6).bind fun v47 =>
            if v47 < 1 then
              some (0, h37)
            else
              some (1, h37)
      else
        if x2 = 3 then
          (isC [11] h o0).bind fun _ =>
          cN (f_X11_hasPerson o0 x3 h) h fun v51 h52 =>
          rZ v51 h52
        else
          some (0, h)
set_option maxHeartbeats 1000000 in
theorem w_X11_canBe_0 (X : Cx g p s m args meth c cX11_canBe 5 "TrapCorner") (hR : 2 ≤ R.frames ∧ 128 ≤ R.locals) (hr : meth.sig.returnType = (some (.boolean))) {res : Int32 × AH} : ∀ (o0 : Nat) (o1 : Nat) (x2 : Int32) (x3 : Int32) (x4 : Int32) (h : AH) (ls : Array Slot) (H : Heap) (locs : List Loc), f_X11_canBe_0 o0 o1 x2 x3 x4 h = some res → Iv g s n0 z0 h H locs 0 0 → lv_has ls 5 [(0, .ref (rfG g o0)), (1, .ref (rfG g o1)), (2, .int x2), (3, .int x3), (4, .int x4)] → W p l e R s m args below meth c H locs 0 0 (MQ below (QG g (some (.int res.1)) res.2) args s 0 0 (AG g)) (F0 m 0 ls []) := by
  have hx := X.1
  have hb := X.2.1
  intro o0 o1 x2 x3 x4 h ls H locs hf I hl
  unfold f_X11_canBe_0 at hf
  refine lv_iload_n hx hb dX11_canBe_0 rfl (lv_at hl 2 rfl) ?_
  by_cases c1 : x2 = 0
  · rw [if_pos c1] at hf
    refine lv_tableIn (tgt := 32) hx hb dX11_canBe_1 (by rw [c1]; decide) (by rw [c1]; decide) (by rw [c1]; rfl) (by decide) ?_
    refine lv_aload_n hx hb dX11_canBe_32 rfl (lv_at hl 0 rfl) ?_
    obtain ⟨_, g6, hf⟩ := Option.bind_eq_some_iff.mp hf
    obtain ⟨v2, h3, e4, z5, hf⟩ := cN_spec hf
    refine k_Vi (As := []) (rest := []) X I (c_X11_hasCity l g o0 e4) z5 g6 vk_TrapCorner_172 tw_793 ⟨Nat.le_trans (by decide) hR.1, Nat.le_trans (by decide) hR.2⟩ ⟨Nat.zero_le _, Nat.zero_le _⟩ rfl hl.1 rfl (Nat.le_of_ble_eq_true rfl) dX11_canBe_33 (fun H locs I => ?_)
    refine lv_if_eq (tgt := 53) hx hb dX11_canBe_36 (by decide) (fun c7 => ?_) (fun c7 => ?_)
    · rw [if_pos c7] at hf
      refine lv_iconst (v := 0) hx hb dX11_canBe_53 (by decide) ?_
      cases hf
      exact k_rz X I hr (Or.inl rfl) dX11_canBe_54
    · rw [if_neg c7] at hf
      refine lv_aload_n hx hb dX11_canBe_39 rfl (lv_at hl 1 rfl) ?_
      obtain ⟨v8, e9, hf⟩ := Option.bind_eq_some_iff.mp hf
      refine r_gI X I e9 lk_TrapCorner_228 dX11_canBe_40 ?_
      refine lv_sipush (v := 999) hx hb dX11_canBe_43 (by decide) ?_
      refine lv_icmp_ge (tgt := 53) hx hb dX11_canBe_46 (by decide) (fun c10 => ?_) (fun c10 => ?_)
      · rw [if_pos c10] at hf
        refine lv_iconst (v := 0) hx hb dX11_canBe_53 (by decide) ?_
        cases hf
        exact k_rz X I hr (Or.inl rfl) dX11_canBe_54
      · rw [if_neg c10] at hf
        refine lv_iconst (v := 1) hx hb dX11_canBe_49 (by decide) ?_
        refine lv_goto (tgt := 54) hx hb dX11_canBe_50 (by decide) ?_
        cases hf
        exact k_rz X I hr (Or.inr rfl) dX11_canBe_54
  · rw [if_neg c1] at hf
    by_cases c11 : x2 = 1
    · rw [if_pos c11] at hf
      refine lv_tableIn (tgt := 55) hx hb dX11_canBe_1 (by rw [c11]; decide) (by rw [c11]; decide) (by rw [c11]; rfl) (by decide) ?_
      refine lv_aload_n hx hb dX11_canBe_55 rfl (lv_at hl 0 rfl) ?_
      refine lv_iload_n hx hb dX11_canBe_56 rfl (lv_at hl 3 rfl) ?_
      obtain ⟨_, g16, hf⟩ := Option.bind_eq_some_iff.mp hf
      obtain ⟨v12, h13, e14, z15, hf⟩ := cN_spec hf
      refine k_Vi (As := [.int x3]) (rest := []) X I (c_X11_hasCorner l g o0 x3 e14) z15 g16 vk_TrapCorner_184 tw_801 ⟨Nat.le_trans (by decide) hR.1, Nat.le_trans (by decide) hR.2⟩ ⟨Nat.zero_le _, Nat.zero_le _⟩ rfl hl.1 rfl (Nat.le_of_ble_eq_true rfl) dX11_canBe_57 (fun H locs I => ?_)
      refine lv_if_eq (tgt := 98) hx hb dX11_canBe_60 (by decide) (fun c17 => ?_) (fun c17 => ?_)
      · rw [if_pos c17] at hf
        refine lv_iconst (v := 0) hx hb dX11_canBe_98 (by decide) ?_
        cases hf
        exact k_rz X I hr (Or.inl rfl) dX11_canBe_99
      · rw [if_neg c17] at hf
        refine lv_iload hx hb dX11_canBe_63 (lv_at hl 4 rfl) ?_
        obtain ⟨v18, h19, e20, z21, hf⟩ := cN_spec hf
        refine k_Si (As := [.int x4]) (rest := []) X I (c_X11_isCrumb l g x4 e20) z21 sk_TrapCorner_337 tw_873 ⟨Nat.le_trans (by decide) hR.1, Nat.le_trans (by decide) hR.2⟩ ⟨Nat.zero_le _, Nat.zero_le _⟩ rfl hl.1 rfl (Nat.le_of_ble_eq_true rfl) dX11_canBe_65 (fun H locs I => ?_)
        refine lv_if_eq (tgt := 98) hx hb dX11_canBe_68 (by decide) (fun c22 => ?_) (fun c22 => ?_)
        · rw [if_pos c22] at hf
          refine lv_iconst (v := 0) hx hb dX11_canBe_98 (by decide) ?_
          cases hf
          exact k_rz X I hr (Or.inl rfl) dX11_canBe_99
        · rw [if_neg c22] at hf
          refine lv_aload_n hx hb dX11_canBe_71 rfl (lv_at hl 1 rfl) ?_
          obtain ⟨v23, e24, hf⟩ := Option.bind_eq_some_iff.mp hf
          refine r_gR X I e24 lk_TrapCorner_188 dX11_canBe_72 ?_
          refine lv_iload_n hx hb dX11_canBe_75 rfl (lv_at hl 3 rfl) ?_
          obtain ⟨v25, e26, hf⟩ := Option.bind_eq_some_iff.mp hf
          refine r_aI0 X I e26 dX11_canBe_76 ?_
          refine lv_iload hx hb dX11_canBe_77 (lv_at hl 4 rfl) ?_
          refine lv_icmp_eq (tgt := 98) hx hb dX11_canBe_79 (by decide) (fun c27 => ?_) (fun c27 => ?_)
          · rw [if_pos c27] at hf
            refine lv_iconst (v := 0) hx hb dX11_canBe_98 (by decide) ?_
            cases hf
            exact k_rz X I hr (Or.inl rfl) dX11_canBe_99
          · rw [if_neg c27] at hf
            refine lv_aload_n hx hb dX11_canBe_82 rfl (lv_at hl 1 rfl) ?_
            obtain ⟨v28, e29, hf⟩ := Option.bind_eq_some_iff.mp hf
            refine r_gI X I e29 lk_TrapCorner_178 dX11_canBe_83 ?_
            refine lv_iload hx hb dX11_canBe_86 (lv_at hl 4 rfl) ?_
            obtain ⟨v30, h31, e32, z33, hf⟩ := cN_spec hf
            refine k_Si (As := [.int x4]) (rest := [.int v28]) X I (c_X11_priceOf l g x4 e32) z33 sk_TrapCorner_340 tw_876 ⟨Nat.le_trans (by decide) hR.1, Nat.le_trans (by decide) hR.2⟩ ⟨Nat.zero_le _, Nat.zero_le _⟩ rfl hl.1 rfl (Nat.le_of_ble_eq_true rfl) dX11_canBe_88 (fun H locs I => ?_)
            refine lv_icmp_lt (tgt := 98) hx hb dX11_canBe_91 (by decide) (fun c34 => ?_) (fun c34 => ?_)
            · rw [if_pos c34] at hf
              refine lv_iconst (v := 0) hx hb dX11_canBe_98 (by decide) ?_
              cases hf
              exact k_rz X I hr (Or.inl rfl) dX11_canBe_99
            · rw [if_neg c34] at hf
              refine lv_iconst (v := 1) hx hb dX11_canBe_94 (by decide) ?_
              refine lv_goto (tgt := 99) hx hb dX11_canBe_95 (by decide) ?_
              cases hf
              exact k_rz X I hr (Or.inr rfl) dX11_canBe_99
    · rw [if_neg c11] at hf
      by_cases c35 : x2 = 2
      · rw [if_pos c35] at hf
        refine lv_tableIn (tgt := 100) hx hb dX11_canBe_1 (by rw [c35]; decide) (by rw [c35]; decide) (by rw [c35]; rfl) (by decide) ?_
        refine lv_aload_n hx hb dX11_canBe_100 rfl (lv_at hl 0 rfl) ?_
        refine lv_iload_n hx hb dX11_canBe_101 rfl (lv_at hl 3 rfl) ?_
        obtain ⟨_, g40, hf⟩ := Option.bind_eq_some_iff.mp hf
        obtain ⟨v36, h37, e38, z39, hf⟩ := cN_spec hf
        refine k_Vi (As := [.int x3]) (rest := []) X I (c_X11_hasCorner l g o0 x3 e38) z39 g40 vk_TrapCorner_184 tw_801 ⟨Nat.le_trans (by decide) hR.1, Nat.le_trans (by decide) hR.2⟩ ⟨Nat.zero_le _, Nat.zero_le _⟩ rfl hl.1 rfl (Nat.le_of_ble_eq_true rfl) dX11_canBe_102 (fun H locs I => ?_)
        refine lv_if_eq (tgt := 131) hx hb dX11_canBe_105 (by decide) (fun c41 => ?_) (fun c41 => ?_)
        · rw [if_pos c41] at hf
          refine lv_iconst (v := 0) hx hb dX11_canBe_131 (by decide) ?_
          cases hf
          exact k_rz X I hr (Or.inl rfl) dX11_canBe_132
        · rw [if_neg c41] at hf
          refine lv_aload_n hx hb dX11_canBe_108 rfl (lv_at hl 1 rfl) ?_
          obtain ⟨v42, e43, hf⟩ := Option.bind_eq_some_iff.mp hf
          refine r_gR X I e43 lk_TrapCorner_191 dX11_canBe_109 ?_
          refine lv_iload_n hx hb dX11_canBe_112 rfl (lv_at hl 3 rfl) ?_
          obtain ⟨v44, e45, hf⟩ := Option.bind_eq_some_iff.mp hf
          refine r_aI0 X I e45 dX11_canBe_113 ?_
          refine lv_bipush (v := 9) hx hb dX11_canBe_114 (by decide) ?_
          refine lv_icmp_ge (tgt := 131) hx hb dX11_canBe_116 (by decide) (fun c46 => ?_) (fun c46 => ?_)
          · rw [if_pos c46] at hf
            refine lv_iconst (v := 0) hx hb dX11_canBe_131 (by decide) ?_
            cases hf
            exact k_rz X I hr (Or.inl rfl) dX11_canBe_132
          · rw [if_neg c46] at hf
            refine lv_aload_n hx hb dX11_canBe_119 rfl (lv_at hl 1 rfl) ?_
            obtain ⟨v47, e48, hf⟩ := Option.bind_eq_some_iff.mp hf
            refine r_gI X I e48 lk_TrapCorner_178 dX11_canBe_120 ?_
            refine lv_iconst (v := 1) hx hb dX11_canBe_123 (by decide) ?_
            refine lv_icmp_lt (tgt := 131) hx hb dX11_canBe_124 (by decide) (fun c49 => ?_) (fun c49 => ?_)
            · rw [if_pos c49] at hf
              refine lv_iconst (v := 0) hx hb dX11_canBe_131 (by decide) ?_
              cases hf
              exact k_rz X I hr (Or.inl rfl) dX11_canBe_132
            · rw [if_neg c49] at hf
              refine lv_iconst (v := 1) hx hb dX11_canBe_127 (by decide) ?_
              refine lv_goto (tgt := 132) hx hb dX11_canBe_128 (by decide) ?_
              cases hf
              exact k_rz X I hr (Or.inr rfl) dX11_canBe_132
      · rw [if_neg c35] at hf
        by_cases c50 : x2 = 3
        · rw [if_pos c50] at hf
          refine lv_tableIn (tgt := 133) hx hb dX11_canBe_1 (by rw [c50]; decide) (by rw [c50]; decide) (by rw [c50]; rfl) (by decide) ?_
          refine lv_aload_n hx hb dX11_canBe_133 rfl (lv_at hl 0 rfl) ?_
          refine lv_iload_n hx hb dX11_canBe_134 rfl (lv_at hl 3 rfl) ?_
          obtain ⟨_, g55, hf⟩ := Option.bind_eq_some_iff.mp hf
          obtain ⟨v51, h52, e53, z54, hf⟩ := cN_spec hf
          refine k_Vi (As := [.int x3]) (rest := []) X I (c_X11_hasPerson l g o0 x3 e53) z54 g55 vk_TrapCorner_194 tw_880 ⟨Nat.le_trans (by decide) hR.1, Nat.le_trans (by decide) hR.2⟩ ⟨Nat.zero_le _, Nat.zero_le _⟩ rfl hl.1 rfl (Nat.le_of_ble_eq_true rfl) dX11_canBe_135 (fun H locs I => ?_)
          obtain ⟨hz, rfl⟩ := rZ_spec hf
          exact k_rz X I hr hz dX11_canBe_138
        · rw [if_neg c50] at hf
          refine lv_tableOut (tgt := 139) hx hb dX11_canBe_1 (sw_out (fun k k1 k2 => by rcases (show k = 0 ∨ k = 1 ∨ k = 2 ∨ k = 3 by omega) with rfl | rfl | rfl | rfl <;> assumption)) (by decide) ?_
          refine lv_iconst (v := 0) hx hb dX11_canBe_139 (by decide) ?_
          cases hf
          exact k_rz X I hr (Or.inl rfl) dX11_canBe_140
def f_X11_canBe (o0 : Nat) (o1 : Nat) (x2 : Int32) (x3 : Int32) (x4 : Int32) (h : AH) : Option (Int32 × AH) := f_X11_canBe_0 o0 o1 x2 x3 x4 h
end
theorem c_X11_canBe (l : Launch) (g : GG) (o0 : Nat) (o1 : Nat) (x2 : Int32) (x3 : Int32) (x4 : Int32) {h : AH} {res : Int32 × AH} (hf : f_X11_canBe o0 o1 x2 x3 x4 h = some res) : CM l g yX11_canBe cX11_canBe 5 (some (.boolean)) 2 128 0 0 [.ref (rfG g o0), .ref (rfG g o1), .int x2, .int x3, .int x4] h (some (.int res.1)) res.2 :=
  k_body (by decide) (Nat.le_of_ble_eq_true rfl) (fun p e s m below meth c R ls hR hr X I hl => w_X11_canBe_0 X ⟨Nat.le_of_eq hR.1.symm, Nat.le_of_eq hR.2.1.symm⟩ hr o0 o1 x2 x3 x4 h ls s.heap [] hf I (lv_sub hl [0, 1, 2, 3, 4] rfl))
