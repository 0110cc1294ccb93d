/-! TrapCornerModel.day()I -/
theorem dX12_day_0 : decode cX12_day 0 = .ok (.aload_n 0, 1) := by decide +kernel
theorem dX12_day_1 : decode cX12_day 1 = .ok (.iconst 0, 1) := by decide +kernel
theorem dX12_day_2 : decode cX12_day 2 = .ok (.putfield 96, 3) := by decide +kernel
theorem dX12_day_5 : decode cX12_day 5 = .ok (.aload_n 0, 1) := by decide +kernel
theorem dX12_day_6 : decode cX12_day 6 = .ok (.getfield 297, 3) := by decide +kernel
theorem dX12_day_9 : decode cX12_day 9 = .ok (.ifCond .eq 16, 3) := by decide +kernel
theorem dX12_day_12 : decode cX12_day 12 = .ok (.aload_n 0, 1) := by decide +kernel
theorem dX12_day_13 : decode cX12_day 13 = .ok (.getfield 61, 3) := by decide +kernel
theorem dX12_day_16 : decode cX12_day 16 = .ok (.bipush 30, 2) := by decide +kernel
theorem dX12_day_18 : decode cX12_day 18 = .ok (.iaload, 1) := by decide +kernel
theorem dX12_day_19 : decode cX12_day 19 = .ok (.sipush 999, 3) := by decide +kernel
theorem dX12_day_22 : decode cX12_day 22 = .ok (.if_icmp .ne 5, 3) := by decide +kernel
theorem dX12_day_25 : decode cX12_day 25 = .ok (.iconst (-1), 1) := by decide +kernel
theorem dX12_day_26 : decode cX12_day 26 = .ok (.ireturn, 1) := by decide +kernel
theorem dX12_day_27 : decode cX12_day 27 = .ok (.aload_n 0, 1) := by decide +kernel
theorem dX12_day_28 : decode cX12_day 28 = .ok (.invokevirtual 390, 3) := by decide +kernel
theorem dX12_day_31 : decode cX12_day 31 = .ok (.aload_n 0, 1) := by decide +kernel
theorem dX12_day_32 : decode cX12_day 32 = .ok (.aload_n 0, 1) := by decide +kernel
theorem dX12_day_33 : decode cX12_day 33 = .ok (.getfield 61, 3) := by decide +kernel
theorem dX12_day_36 : decode cX12_day 36 = .ok (.invokevirtual 376, 3) := by decide +kernel
theorem dX12_day_39 : decode cX12_day 39 = .ok (.invokestatic 393, 3) := by decide +kernel
theorem dX12_day_42 : decode cX12_day 42 = .ok (.ireturn, 1) := by decide +kernel
section
variable {g : GG} {p : Program} {l : Launch} {e : Env} {R : Room} {s : State} {m : MethodId} {args : Array Value} {below : List Frame} {meth : Method} {c : Code} {n0 z0 : Nat}
def f_X12_day_0  (o0 : Nat) (h : AH) : Option (Int32 × AH) :=
  (pV [12] h o0 0 (.int 0)).bind fun h1 =>
  (gI [12] h1 o0 27).bind fun v3 =>
  if v3 = 0 then
    some ((-1), h1)
  else
    (gR [12] h1 o0 32).bind fun v6 =>
    (aI 0 h1 v6 30).bind fun v8 =>
    if v8 = 999 then
      some ((-1), h1)
    else
      (isC [12] h1 o0).bind fun _ =>
      cN (f_X12_remember o0 h1) h1 fun _ h12 =>
      (gR [12] h12 o0 32).bind fun v16 =>
      (isC [12] h12 o0).bind fun _ =>
      cN (f_X12_goDay o0 v16 h12) h12 fun v18 h19 =>
      cN (f_J6_bitCount_0f7a4 v18 h19) h19 fun v23 h24 =>
      some (v23, h24)
set_option maxHeartbeats 1000000 in
theorem w_X12_day_0 (X : Cx g p s m args meth c cX12_day 1 "TrapCornerModel") (hR : 94 ≤ R.frames ∧ 6016 ≤ R.locals) (hr : meth.sig.returnType = (some (.int))) {res : Int32 × AH} : ∀ (o0 : Nat) (h : AH) (ls : Array Slot) (H : Heap) (locs : List Loc), f_X12_day_0 o0 h = some res → Iv g s n0 z0 h H locs 0 0 → lv_has ls 1 [(0, .ref (rfG g o0))] → W p l e R s m args below meth c H locs 0 0 (MQ below (QG g (some (.int res.1)) res.2) args s 0 0 (AG g)) (F0 m 0 ls []) := by
  have hx := X.1
  have hb := X.2.1
  intro o0 h ls H locs hf I hl
  unfold f_X12_day_0 at hf
  refine lv_aload_n hx hb dX12_day_0 rfl (lv_at hl 0 rfl) ?_
  refine lv_iconst (v := 0) hx hb dX12_day_1 (by decide) ?_
  obtain ⟨h1, e2, hf⟩ := Option.bind_eq_some_iff.mp hf
  refine r_pI X I e2 lp_TrapCornerModel_96 dX12_day_2 (fun H locs I => ?_)
  refine lv_aload_n hx hb dX12_day_5 rfl (lv_at hl 0 rfl) ?_
  obtain ⟨v3, e4, hf⟩ := Option.bind_eq_some_iff.mp hf
  refine r_gI X I e4 lk_TrapCornerModel_297 dX12_day_6 ?_
  refine lv_if_eq (tgt := 25) hx hb dX12_day_9 (by decide) (fun c5 => ?_) (fun c5 => ?_)
  · rw [if_pos c5] at hf
    refine lv_iconst (v := (-1)) hx hb dX12_day_25 (by decide) ?_
    cases hf
    exact k_ri X I hr dX12_day_26
  · rw [if_neg c5] at hf
    refine lv_aload_n hx hb dX12_day_12 rfl (lv_at hl 0 rfl) ?_
    obtain ⟨v6, e7, hf⟩ := Option.bind_eq_some_iff.mp hf
    refine r_gR X I e7 lk_TrapCornerModel_61 dX12_day_13 ?_
    refine lv_bipush (v := 30) hx hb dX12_day_16 (by decide) ?_
    obtain ⟨v8, e9, hf⟩ := Option.bind_eq_some_iff.mp hf
    refine r_aI0 X I e9 dX12_day_18 ?_
    refine lv_sipush (v := 999) hx hb dX12_day_19 (by decide) ?_
    refine lv_icmp_ne (tgt := 27) hx hb dX12_day_22 (by decide) (fun c10 => ?_) (fun c10 => ?_)
    · rw [if_neg c10] at hf
      refine lv_aload_n hx hb dX12_day_27 rfl (lv_at hl 0 rfl) ?_
      obtain ⟨_, g15, hf⟩ := Option.bind_eq_some_iff.mp hf
      obtain ⟨⟨⟩, h12, e13, z14, hf⟩ := cN_spec hf
      refine k_Vv (As := []) (rest := []) X I (c_X12_remember l g o0 e13) z14 g15 vk_TrapCornerModel_390 tw_1668 ⟨Nat.le_trans (by decide) hR.1, Nat.le_trans (by decide) hR.2⟩ ⟨Nat.zero_le _, Nat.zero_le _⟩ rfl hl.1 rfl (Nat.le_of_ble_eq_true rfl) dX12_day_28 (fun H locs I => ?_)
      refine lv_aload_n hx hb dX12_day_31 rfl (lv_at hl 0 rfl) ?_
      refine lv_aload_n hx hb dX12_day_32 rfl (lv_at hl 0 rfl) ?_
      obtain ⟨v16, e17, hf⟩ := Option.bind_eq_some_iff.mp hf
      refine r_gR X I e17 lk_TrapCornerModel_61 dX12_day_33 ?_
      obtain ⟨_, g22, hf⟩ := Option.bind_eq_some_iff.mp hf
      obtain ⟨v18, h19, e20, z21, hf⟩ := cN_spec hf
      refine k_Vi (As := [.ref (rfG g v16)]) (rest := []) X I (c_X12_goDay l g o0 v16 e20) z21 g22 vk_TrapCornerModel_376 tw_1672 ⟨Nat.le_trans (by decide) hR.1, Nat.le_trans (by decide) hR.2⟩ ⟨Nat.zero_le _, Nat.zero_le _⟩ rfl hl.1 rfl (Nat.le_of_ble_eq_true rfl) dX12_day_36 (fun H locs I => ?_)
      obtain ⟨v23, h24, e25, z26, hf⟩ := cN_spec hf
      refine k_Si (As := [.int v18]) (rest := []) X I (c_J6_bitCount_0f7a4 l g v18 e25) z26 sk_TrapCornerModel_393 tw_957 ⟨Nat.le_trans (by decide) hR.1, Nat.le_trans (by decide) hR.2⟩ ⟨Nat.zero_le _, Nat.zero_le _⟩ rfl hl.1 rfl (Nat.le_of_ble_eq_true rfl) dX12_day_39 (fun H locs I => ?_)
      cases hf
      exact k_ri X I hr dX12_day_42
    · rw [if_pos c10] at hf
      refine lv_iconst (v := (-1)) hx hb dX12_day_25 (by decide) ?_
      cases hf
      exact k_ri X I hr dX12_day_26
def f_X12_day (o0 : Nat) (h : AH) : Option (Int32 × AH) := f_X12_day_0 o0 h
end
theorem c_X12_day (l : Launch) (g : GG) (o0 : Nat) {h : AH} {res : Int32 × AH} (hf : f_X12_day o0 h = some res) : CM l g yX12_day cX12_day 1 (some (.int)) 94 6016 0 0 [.ref (rfG g o0)] h (some (.int res.1)) res.2 :=
  k_body (by decide) (Nat.le_of_ble_eq_true rfl) (fun p e s m below meth c R ls hR hr X I hl => w_X12_day_0 X ⟨Nat.le_of_eq hR.1.symm, Nat.le_of_eq hR.2.1.symm⟩ hr o0 h ls s.heap [] hf I (lv_sub hl [0] rfl))
/-! TrapCornerModel.years(IJ)I -/
theorem dX12_years_0 : decode cX12_years 0 = .ok (.aload_n 0, 1) := by decide +kernel
theorem dX12_years_1 : decode cX12_years 1 = .ok (.iconst 0, 1) := by decide +kernel
theorem dX12_years_2 : decode cX12_years 2 = .ok (.putfield 96, 3) := by decide +kernel
theorem dX12_years_5 : decode cX12_years 5 = .ok (.aload_n 0, 1) := by decide +kernel
theorem dX12_years_6 : decode cX12_years 6 = .ok (.getfield 297, 3) := by decide +kernel
theorem dX12_years_9 : decode cX12_years 9 = .ok (.ifCond .eq 30, 3) := by decide +kernel
theorem dX12_years_12 : decode cX12_years 12 = .ok (.iload_n 1, 1) := by decide +kernel
theorem dX12_years_13 : decode cX12_years 13 = .ok (.i2l, 1) := by decide +kernel
theorem dX12_years_14 : decode cX12_years 14 = .ok (.lconst 1, 1) := by decide +kernel
theorem dX12_years_15 : decode cX12_years 15 = .ok (.ldc2_w 426, 3) := by decide +kernel
theorem dX12_years_18 : decode cX12_years 18 = .ok (.invokestatic 217, 3) := by decide +kernel
theorem dX12_years_21 : decode cX12_years 21 = .ok (.ifCond .eq 18, 3) := by decide +kernel
theorem dX12_years_24 : decode cX12_years 24 = .ok (.aload_n 0, 1) := by decide +kernel
theorem dX12_years_25 : decode cX12_years 25 = .ok (.getfield 61, 3) := by decide +kernel
theorem dX12_years_28 : decode cX12_years 28 = .ok (.bipush 30, 2) := by decide +kernel
theorem dX12_years_30 : decode cX12_years 30 = .ok (.iaload, 1) := by decide +kernel
theorem dX12_years_31 : decode cX12_years 31 = .ok (.iload_n 1, 1) := by decide +kernel
theorem dX12_years_32 : decode cX12_years 32 = .ok (.iadd, 1) := by decide +kernel
theorem dX12_years_33 : decode cX12_years 33 = .ok (.sipush 999, 3) := by decide +kernel
theorem dX12_years_36 : decode cX12_years 36 = .ok (.if_icmp .le 5, 3) := by decide +kernel
theorem dX12_years_39 : decode cX12_years 39 = .ok (.iconst (-1), 1) := by decide +kernel
theorem dX12_years_40 : decode cX12_years 40 = .ok (.ireturn, 1) := by decide +kernel
theorem dX12_years_41 : decode cX12_years 41 = .ok (.aload_n 0, 1) := by decide +kernel
theorem dX12_years_42 : decode cX12_years 42 = .ok (.lload_n 2, 1) := by decide +kernel
theorem dX12_years_43 : decode cX12_years 43 = .ok (.putfield 418, 3) := by decide +kernel
theorem dX12_years_46 : decode cX12_years 46 = .ok (.iconst 0, 1) := by decide +kernel
theorem dX12_years_47 : decode cX12_years 47 = .ok (.istore 4, 2) := by decide +kernel
theorem dX12_years_49 : decode cX12_years 49 = .ok (.iload 4, 2) := by decide +kernel
theorem dX12_years_51 : decode cX12_years 51 = .ok (.iload_n 1, 1) := by decide +kernel
theorem dX12_years_52 : decode cX12_years 52 = .ok (.if_icmp .ge 77, 3) := by decide +kernel
theorem dX12_years_55 : decode cX12_years 55 = .ok (.aload_n 0, 1) := by decide +kernel
theorem dX12_years_56 : decode cX12_years 56 = .ok (.invokevirtual 390, 3) := by decide +kernel
theorem dX12_years_59 : decode cX12_years 59 = .ok (.aload_n 0, 1) := by decide +kernel
theorem dX12_years_60 : decode cX12_years 60 = .ok (.aload_n 0, 1) := by decide +kernel
theorem dX12_years_61 : decode cX12_years 61 = .ok (.getfield 294, 3) := by decide +kernel
theorem dX12_years_64 : decode cX12_years 64 = .ok (.invokevirtual 428, 3) := by decide +kernel
theorem dX12_years_67 : decode cX12_years 67 = .ok (.istore 5, 2) := by decide +kernel
theorem dX12_years_69 : decode cX12_years 69 = .ok (.aload_n 0, 1) := by decide +kernel
theorem dX12_years_70 : decode cX12_years 70 = .ok (.getfield 61, 3) := by decide +kernel
theorem dX12_years_73 : decode cX12_years 73 = .ok (.iconst 2, 1) := by decide +kernel
theorem dX12_years_74 : decode cX12_years 74 = .ok (.iload 5, 2) := by decide +kernel
theorem dX12_years_76 : decode cX12_years 76 = .ok (.imul, 1) := by decide +kernel
theorem dX12_years_77 : decode cX12_years 77 = .ok (.iconst 0, 1) := by decide +kernel
theorem dX12_years_78 : decode cX12_years 78 = .ok (.iadd, 1) := by decide +kernel
theorem dX12_years_79 : decode cX12_years 79 = .ok (.aload_n 0, 1) := by decide +kernel
theorem dX12_years_80 : decode cX12_years 80 = .ok (.iconst 4, 1) := by decide +kernel
theorem dX12_years_81 : decode cX12_years 81 = .ok (.invokevirtual 428, 3) := by decide +kernel
theorem dX12_years_84 : decode cX12_years 84 = .ok (.iastore, 1) := by decide +kernel
theorem dX12_years_85 : decode cX12_years 85 = .ok (.aload_n 0, 1) := by decide +kernel
theorem dX12_years_86 : decode cX12_years 86 = .ok (.bipush 10, 2) := by decide +kernel
theorem dX12_years_88 : decode cX12_years 88 = .ok (.invokevirtual 428, 3) := by decide +kernel
theorem dX12_years_91 : decode cX12_years 91 = .ok (.aload_n 0, 1) := by decide +kernel
theorem dX12_years_92 : decode cX12_years 92 = .ok (.getfield 71, 3) := by decide +kernel
theorem dX12_years_95 : decode cX12_years 95 = .ok (.if_icmp .ge 18, 3) := by decide +kernel
theorem dX12_years_98 : decode cX12_years 98 = .ok (.aload_n 0, 1) := by decide +kernel
theorem dX12_years_99 : decode cX12_years 99 = .ok (.getfield 61, 3) := by decide +kernel
theorem dX12_years_102 : decode cX12_years 102 = .ok (.aload_n 0, 1) := by decide +kernel
theorem dX12_years_103 : decode cX12_years 103 = .ok (.aload_n 0, 1) := by decide +kernel
theorem dX12_years_104 : decode cX12_years 104 = .ok (.getfield 297, 3) := by decide +kernel
theorem dX12_years_107 : decode cX12_years 107 = .ok (.invokevirtual 428, 3) := by decide +kernel
theorem dX12_years_110 : decode cX12_years 110 = .ok (.invokestatic 413, 3) := by decide +kernel
theorem dX12_years_113 : decode cX12_years 113 = .ok (.aload_n 0, 1) := by decide +kernel
theorem dX12_years_114 : decode cX12_years 114 = .ok (.aload_n 0, 1) := by decide +kernel
theorem dX12_years_115 : decode cX12_years 115 = .ok (.getfield 61, 3) := by decide +kernel
theorem dX12_years_118 : decode cX12_years 118 = .ok (.invokevirtual 376, 3) := by decide +kernel
theorem dX12_years_121 : decode cX12_years 121 = .ok (.istore 6, 2) := by decide +kernel
theorem dX12_years_123 : decode cX12_years 123 = .ok (.iinc 4 1, 3) := by decide +kernel
theorem dX12_years_126 : decode cX12_years 126 = .ok (.goto (-77), 3) := by decide +kernel
theorem dX12_years_129 : decode cX12_years 129 = .ok (.aload_n 0, 1) := by decide +kernel
theorem dX12_years_130 : decode cX12_years 130 = .ok (.getfield 61, 3) := by decide +kernel
theorem dX12_years_133 : decode cX12_years 133 = .ok (.bipush 30, 2) := by decide +kernel
theorem dX12_years_135 : decode cX12_years 135 = .ok (.iaload, 1) := by decide +kernel
theorem dX12_years_136 : decode cX12_years 136 = .ok (.ireturn, 1) := by decide +kernel
theorem vk_TrapCornerModel_428 : VK "TrapCornerModel" 428 [12] yX12_draw 1 := ⟨tw_1764, tw_1766, tw_13, ⟨by decide, by decide⟩, by decide +kernel, fun ci hci => by
  have hci := List.mem_singleton.mp hci
  subst hci
  exact ⟨_, rfl, tp_94⟩⟩
section
variable {g : GG} {p : Program} {l : Launch} {e : Env} {R : Room} {s : State} {m : MethodId} {args : Array Value} {below : List Frame} {meth : Method} {c : Code} {n0 z0 : Nat}
def f_X12_years_113 (k49 : Nat → Int32 → Int32 → AH → Option (Int32 × AH)) (o0 : Nat) (x1 : Int32) (x4 : Int32) (h : AH) : Option (Int32 × AH) :=
  (gR [12] h o0 32).bind fun v1 =>
  (isC [12] h o0).bind fun _ =>
  cN (f_X12_goDay o0 v1 h) h fun v3 h4 =>
  k49 o0 x1 (x4 + 1) h4
set_option maxHeartbeats 1000000 in
theorem w_X12_years_113 (X : Cx g p s m args meth c cX12_years 7 "TrapCornerModel") (hR : 94 ≤ R.frames ∧ 6016 ≤ R.locals) (hr : meth.sig.returnType = (some (.int))) {res : Int32 × AH} {k49 : Nat → Int32 → Int32 → AH → Option (Int32 × AH)} (hk49 : ∀ (o0 : Nat) (x1 : Int32) (x4 : Int32) (h : AH) (ls : Array Slot) (H : Heap) (locs : List Loc), k49 o0 x1 x4 h = some res → Iv g s n0 z0 h H locs 0 0 → lv_has ls 7 [(0, .ref (rfG g o0)), (1, .int x1), (4, .int x4)] → W p l e R s m args below meth c H locs 0 0 (MQ below (QG g (some (.int res.1)) res.2) args s 0 0 (AG g)) (F0 m 49 ls [])) : ∀ (o0 : Nat) (x1 : Int32) (x4 : Int32) (h : AH) (ls : Array Slot) (H : Heap) (locs : List Loc), f_X12_years_113 k49 o0 x1 x4 h = some res → Iv g s n0 z0 h H locs 0 0 → lv_has ls 7 [(0, .ref (rfG g o0)), (1, .int x1), (4, .int x4)] → W p l e R s m args below meth c H locs 0 0 (MQ below (QG g (some (.int res.1)) res.2) args s 0 0 (AG g)) (F0 m 113 ls []) := by
  have hx := X.1
  have hb := X.2.1
  intro o0 x1 x4 h ls H locs hf I hl
  unfold f_X12_years_113 at hf
  refine lv_aload_n hx hb dX12_years_113 rfl (lv_at hl 0 rfl) ?_
  refine lv_aload_n hx hb dX12_years_114 rfl (lv_at hl 0 rfl) ?_
  obtain ⟨v1, e2, hf⟩ := Option.bind_eq_some_iff.mp hf
  refine r_gR X I e2 lk_TrapCornerModel_61 dX12_years_115 ?_
  obtain ⟨_, g7, hf⟩ := Option.bind_eq_some_iff.mp hf
  obtain ⟨v3, h4, e5, z6, hf⟩ := cN_spec hf
  refine k_Vi (As := [.ref (rfG g v1)]) (rest := []) X I (c_X12_goDay l g o0 v1 e5) z6 g7 vk_TrapCornerModel_376 tw_1672 ⟨Nat.le_trans (by decide) hR.1, Nat.le_trans (by decide) hR.2⟩ ⟨Nat.zero_le _, Nat.zero_le _⟩ rfl hl.1 rfl (Nat.le_of_ble_eq_true rfl) dX12_years_118 (fun H locs I => ?_)
  refine lv_istore (lv' := [(6, .int v3), (0, .ref (rfG g o0)), (1, .int x1), (4, .int x4)]) hx hb dX12_years_121 hl (by decide) rfl (fun ls hl => ?_)
  refine lv_iinc (v := x4 + 1) (lv' := [(4, .int (x4 + 1)), (6, .int v3), (0, .ref (rfG g o0)), (1, .int x1)]) hx hb dX12_years_123 hl (k := 3) rfl rfl (by decide) rfl (fun ls hl => ?_)
  refine lv_goto (tgt := 49) hx hb dX12_years_126 (by decide) ?_
  exact hk49 o0 x1 (x4 + 1) h4 ls H locs hf I (lv_sub hl [2, 3, 0] rfl)
def f_X12_years_49  : Nat → Nat → Int32 → Int32 → AH → Option (Int32 × AH)
  | 0, _, _, _, _ => none
  | n + 1, o0, x1, x4, h =>
  if x1 ≤ x4 then
    (gR [12] h o0 32).bind fun v2 =>
    (aI 0 h v2 30).bind fun v4 =>
    some (v4, h)
  else
    (isC [12] h o0).bind fun _ =>
    cN (f_X12_remember o0 h) h fun _ h7 =>
    (gI [12] h7 o0 26).bind fun v11 =>
    (isC [12] h7 o0).bind fun _ =>
    cN (f_X12_draw o0 v11 h7) h7 fun v13 h14 =>
    (gR [12] h14 o0 32).bind fun v18 =>
    (isC [12] h14 o0).bind fun _ =>
    cN (f_X12_draw o0 4 h14) h14 fun v20 h21 =>
    (uI 0 h21 v18 ((2 * v13) + 0) v20).bind fun h25 =>
    (isC [12] h25 o0).bind fun _ =>
    cN (f_X12_draw o0 10 h25) h25 fun v27 h28 =>
    (gI [12] h28 o0 35).bind fun v32 =>
    if v32 ≤ v27 then
      f_X12_years_113 (f_X12_years_49 n) o0 x1 x4 h28
    else
      (gR [12] h28 o0 32).bind fun v35 =>
      (gI [12] h28 o0 27).bind fun v37 =>
      (isC [12] h28 o0).bind fun _ =>
      cN (f_X12_draw o0 v37 h28) h28 fun v39 h40 =>
      cN (f_X12_turns v35 v39 h40) h40 fun _ h45 =>
      f_X12_years_113 (f_X12_years_49 n) o0 x1 x4 h45
set_option maxHeartbeats 1000000 in
theorem w_X12_years_49 (X : Cx g p s m args meth c cX12_years 7 "TrapCornerModel") (hR : 94 ≤ R.frames ∧ 6016 ≤ R.locals) (hr : meth.sig.returnType = (some (.int))) {res : Int32 × AH} : ∀ (n : Nat) (o0 : Nat) (x1 : Int32) (x4 : Int32) (h : AH) (ls : Array Slot) (H : Heap) (locs : List Loc), f_X12_years_49 n o0 x1 x4 h = some res → Iv g s n0 z0 h H locs 0 0 → lv_has ls 7 [(0, .ref (rfG g o0)), (1, .int x1), (4, .int x4)] → W p l e R s m args below meth c H locs 0 0 (MQ below (QG g (some (.int res.1)) res.2) args s 0 0 (AG g)) (F0 m 49 ls []) := by
  have hx := X.1
  have hb := X.2.1
  intro n
  induction n with
  | zero =>
    intro o0 x1 x4 h ls H locs hf
    rw [f_X12_years_49.eq_1] at hf
    cases hf
  | succ n ih =>
    intro o0 x1 x4 h ls H locs hf I hl
    rw [f_X12_years_49.eq_2] at hf
    refine lv_iload hx hb dX12_years_49 (lv_at hl 2 rfl) ?_
    refine lv_iload_n hx hb dX12_years_51 rfl (lv_at hl 1 rfl) ?_
    refine lv_icmp_ge (tgt := 129) hx hb dX12_years_52 (by decide) (fun c1 => ?_) (fun c1 => ?_)
    · rw [if_pos c1] at hf
      refine lv_aload_n hx hb dX12_years_129 rfl (lv_at hl 0 rfl) ?_
      obtain ⟨v2, e3, hf⟩ := Option.bind_eq_some_iff.mp hf
      refine r_gR X I e3 lk_TrapCornerModel_61 dX12_years_130 ?_
      refine lv_bipush (v := 30) hx hb dX12_years_133 (by decide) ?_
      obtain ⟨v4, e5, hf⟩ := Option.bind_eq_some_iff.mp hf
      refine r_aI0 X I e5 dX12_years_135 ?_
      cases hf
      exact k_ri X I hr dX12_years_136
    · rw [if_neg c1] at hf
      refine lv_aload_n hx hb dX12_years_55 rfl (lv_at hl 0 rfl) ?_
      obtain ⟨_, g10, hf⟩ := Option.bind_eq_some_iff.mp hf
      obtain ⟨⟨⟩, h7, e8, z9, hf⟩ := cN_spec hf
      refine k_Vv (As := []) (rest := []) X I (c_X12_remember l g o0 e8) z9 g10 vk_TrapCornerModel_390 tw_1668 ⟨Nat.le_trans (by decide) hR.1, Nat.le_trans (by decide) hR.2⟩ ⟨Nat.zero_le _, Nat.zero_le _⟩ rfl hl.1 rfl (Nat.le_of_ble_eq_true rfl) dX12_years_56 (fun H locs I => ?_)
      refine lv_aload_n hx hb dX12_years_59 rfl (lv_at hl 0 rfl) ?_
      refine lv_aload_n hx hb dX12_years_60 rfl (lv_at hl 0 rfl) ?_
      obtain ⟨v11, e12, hf⟩ := Option.bind_eq_some_iff.mp hf
      refine r_gI X I e12 lk_TrapCornerModel_294 dX12_years_61 ?_
      obtain ⟨_, g17, hf⟩ := Option.bind_eq_some_iff.mp hf
      obtain ⟨v13, h14, e15, z16, hf⟩ := cN_spec hf
      refine k_Vi (As := [.int v11]) (rest := []) X I (c_X12_draw l g o0 v11 e15) z16 g17 vk_TrapCornerModel_428 tw_1767 ⟨Nat.le_trans (by decide) hR.1, Nat.le_trans (by decide) hR.2⟩ ⟨Nat.zero_le _, Nat.zero_le _⟩ rfl hl.1 rfl (Nat.le_of_ble_eq_true rfl) dX12_years_64 (fun H locs I => ?_)
      refine lv_istore (lv' := [(5, .int v13), (0, .ref (rfG g o0)), (1, .int x1), (4, .int x4)]) hx hb dX12_years_67 hl (by decide) rfl (fun ls hl => ?_)
      refine lv_aload_n hx hb dX12_years_69 rfl (lv_at hl 1 rfl) ?_
      obtain ⟨v18, e19, hf⟩ := Option.bind_eq_some_iff.mp hf
      refine r_gR X I e19 lk_TrapCornerModel_61 dX12_years_70 ?_
      refine lv_iconst (v := 2) hx hb dX12_years_73 (by decide) ?_
      refine lv_iload hx hb dX12_years_74 (lv_at hl 0 rfl) ?_
      refine lv_imul hx hb dX12_years_76 ?_
      refine lv_iconst (v := 0) hx hb dX12_years_77 (by decide) ?_
      refine lv_iadd hx hb dX12_years_78 ?_
      refine lv_aload_n hx hb dX12_years_79 rfl (lv_at hl 1 rfl) ?_
      refine lv_iconst (v := 4) hx hb dX12_years_80 (by decide) ?_
      obtain ⟨_, g24, hf⟩ := Option.bind_eq_some_iff.mp hf
      obtain ⟨v20, h21, e22, z23, hf⟩ := cN_spec hf
      refine k_Vi (As := [.int 4]) (rest := [.int ((2 * v13) + 0), .ref (rfG g v18)]) X I (c_X12_draw l g o0 4 e22) z23 g24 vk_TrapCornerModel_428 tw_1767 ⟨Nat.le_trans (by decide) hR.1, Nat.le_trans (by decide) hR.2⟩ ⟨Nat.zero_le _, Nat.zero_le _⟩ rfl hl.1 rfl (Nat.le_of_ble_eq_true rfl) dX12_years_81 (fun H locs I => ?_)
      obtain ⟨h25, e26, hf⟩ := Option.bind_eq_some_iff.mp hf
      refine r_uI0 X I e26 dX12_years_84 (fun H locs I => ?_)
      refine lv_aload_n hx hb dX12_years_85 rfl (lv_at hl 1 rfl) ?_
      refine lv_bipush (v := 10) hx hb dX12_years_86 (by decide) ?_
      obtain ⟨_, g31, hf⟩ := Option.bind_eq_some_iff.mp hf
      obtain ⟨v27, h28, e29, z30, hf⟩ := cN_spec hf
      refine k_Vi (As := [.int 10]) (rest := []) X I (c_X12_draw l g o0 10 e29) z30 g31 vk_TrapCornerModel_428 tw_1767 ⟨Nat.le_trans (by decide) hR.1, Nat.le_trans (by decide) hR.2⟩ ⟨Nat.zero_le _, Nat.zero_le _⟩ rfl hl.1 rfl (Nat.le_of_ble_eq_true rfl) dX12_years_88 (fun H locs I => ?_)
      refine lv_aload_n hx hb dX12_years_91 rfl (lv_at hl 1 rfl) ?_
      obtain ⟨v32, e33, hf⟩ := Option.bind_eq_some_iff.mp hf
      refine r_gI X I e33 lk_TrapCornerModel_71 dX12_years_92 ?_
      refine lv_icmp_ge (tgt := 113) hx hb dX12_years_95 (by decide) (fun c34 => ?_) (fun c34 => ?_)
      · rw [if_pos c34] at hf
        exact w_X12_years_113 X hR hr ih o0 x1 x4 h28 ls H locs hf I (lv_sub hl [1, 2, 3] rfl)
      · rw [if_neg c34] at hf
        refine lv_aload_n hx hb dX12_years_98 rfl (lv_at hl 1 rfl) ?_
        obtain ⟨v35, e36, hf⟩ := Option.bind_eq_some_iff.mp hf
        refine r_gR X I e36 lk_TrapCornerModel_61 dX12_years_99 ?_
        refine lv_aload_n hx hb dX12_years_102 rfl (lv_at hl 1 rfl) ?_
        refine lv_aload_n hx hb dX12_years_103 rfl (lv_at hl 1 rfl) ?_
        obtain ⟨v37, e38, hf⟩ := Option.bind_eq_some_iff.mp hf
        refine r_gI X I e38 lk_TrapCornerModel_297 dX12_years_104 ?_
        obtain ⟨_, g43, hf⟩ := Option.bind_eq_some_iff.mp hf
        obtain ⟨v39, h40, e41, z42, hf⟩ := cN_spec hf
        refine k_Vi (As := [.int v37]) (rest := [.ref (rfG g v35)]) X I (c_X12_draw l g o0 v37 e41) z42 g43 vk_TrapCornerModel_428 tw_1767 ⟨Nat.le_trans (by decide) hR.1, Nat.le_trans (by decide) hR.2⟩ ⟨Nat.zero_le _, Nat.zero_le _⟩ rfl hl.1 rfl (Nat.le_of_ble_eq_true rfl) dX12_years_107 (fun H locs I => ?_)
        obtain ⟨⟨⟩, h45, e46, z47, hf⟩ := cN_spec hf
        refine k_Sv (As := [.ref (rfG g v35), .int v39]) (rest := []) X I (c_X12_turns l g v35 v39 e46) z47 sk_TrapCornerModel_413 tw_1753 ⟨Nat.le_trans (by decide) hR.1, Nat.le_trans (by decide) hR.2⟩ ⟨Nat.zero_le _, Nat.zero_le _⟩ rfl hl.1 rfl (Nat.le_of_ble_eq_true rfl) dX12_years_110 (fun H locs I => ?_)
        exact w_X12_years_113 X hR hr ih o0 x1 x4 h45 ls H locs hf I (lv_sub hl [1, 2, 3] rfl)
def f_X12_years_0  (o0 : Nat) (x1 : Int32) (y2 : Int64) (h : AH) : Option (Int32 × AH) :=
  (pV [12] h o0 0 (.int 0)).bind fun h1 =>
  (gI [12] h1 o0 27).bind fun v3 =>
  if v3 = 0 then
    some ((-1), h1)
  else
    cN (f_X12_isIn (x1.toInt64) 1 30 h1) h1 fun v6 h7 =>
    if v6 = 0 then
      some ((-1), h7)
    else
      (gR [12] h7 o0 32).bind fun v11 =>
      (aI 0 h7 v11 30).bind fun v13 =>
      if (v13 + x1) ≤ 999 then
        (pV [12] h7 o0 44 (.long y2)).bind fun h16 =>
        f_X12_years_49 fu o0 x1 0 h16
      else
        some ((-1), h7)
set_option maxHeartbeats 1000000 in
theorem w_X12_years_0 (X : Cx g p s m args meth c cX12_years 7 "TrapCornerModel") (hR : 94 ≤ R.frames ∧ 6016 ≤ R.locals) (hr : meth.sig.returnType = (some (.int))) {res : Int32 × AH} : ∀ (o0 : Nat) (x1 : Int32) (y2 : Int64) (h : AH) (ls : Array Slot) (H : Heap) (locs : List Loc), f_X12_years_0 o0 x1 y2 h = some res → Iv g s n0 z0 h H locs 0 0 → lv_has ls 7 [(0, .ref (rfG g o0)), (1, .int x1), (2, .long y2)] → W p l e R s m args below meth c H locs 0 0 (MQ below (QG g (some (.int res.1)) res.2) args s 0 0 (AG g)) (F0 m 0 ls []) := by
  have hx := X.1
  have hb := X.2.1
  intro o0 x1 y2 h ls H locs hf I hl
  unfold f_X12_years_0 at hf
  refine lv_aload_n hx hb dX12_years_0 rfl (lv_at hl 0 rfl) ?_
  refine lv_iconst (v := 0) hx hb dX12_years_1 (by decide) ?_
  obtain ⟨h1, e2, hf⟩ := Option.bind_eq_some_iff.mp hf
  refine r_pI X I e2 lp_TrapCornerModel_96 dX12_years_2 (fun H locs I => ?_)
  refine lv_aload_n hx hb dX12_years_5 rfl (lv_at hl 0 rfl) ?_
  obtain ⟨v3, e4, hf⟩ := Option.bind_eq_some_iff.mp hf
  refine r_gI X I e4 lk_TrapCornerModel_297 dX12_years_6 ?_
  refine lv_if_eq (tgt := 39) hx hb dX12_years_9 (by decide) (fun c5 => ?_) (fun c5 => ?_)
  · rw [if_pos c5] at hf
    refine lv_iconst (v := (-1)) hx hb dX12_years_39 (by decide) ?_
    cases hf
    exact k_ri X I hr dX12_years_40
  · rw [if_neg c5] at hf
    refine lv_iload_n hx hb dX12_years_12 rfl (lv_at hl 1 rfl) ?_
    refine lv_i2l hx hb dX12_years_13 rfl ?_
    refine lv_lconst (v := 1) hx hb dX12_years_14 (by decide) ?_
    refine lv_ldc2 (v := 30) hx hb X.2.2.2.1 (X.2.2.2.2.1 _ tw_1763) dX12_years_15 ?_
    obtain ⟨v6, h7, e8, z9, hf⟩ := cN_spec hf
    refine k_Si (As := [.long (x1.toInt64), .long 1, .long 30]) (rest := []) X I (c_X12_isIn l g (x1.toInt64) 1 30 e8) z9 sk_TrapCornerModel_217 tw_1465 ⟨Nat.le_trans (by decide) hR.1, Nat.le_trans (by decide) hR.2⟩ ⟨Nat.zero_le _, Nat.zero_le _⟩ rfl hl.1 rfl (Nat.le_of_ble_eq_true rfl) dX12_years_18 (fun H locs I => ?_)
    refine lv_if_eq (tgt := 39) hx hb dX12_years_21 (by decide) (fun c10 => ?_) (fun c10 => ?_)
    · rw [if_pos c10] at hf
      refine lv_iconst (v := (-1)) hx hb dX12_years_39 (by decide) ?_
      cases hf
      exact k_ri X I hr dX12_years_40
    · rw [if_neg c10] at hf
      refine lv_aload_n hx hb dX12_years_24 rfl (lv_at hl 0 rfl) ?_
      obtain ⟨v11, e12, hf⟩ := Option.bind_eq_some_iff.mp hf
      refine r_gR X I e12 lk_TrapCornerModel_61 dX12_years_25 ?_
      refine lv_bipush (v := 30) hx hb dX12_years_28 (by decide) ?_
      obtain ⟨v13, e14, hf⟩ := Option.bind_eq_some_iff.mp hf
      refine r_aI0 X I e14 dX12_years_30 ?_
      refine lv_iload_n hx hb dX12_years_31 rfl (lv_at hl 1 rfl) ?_
      refine lv_iadd hx hb dX12_years_32 ?_
      refine lv_sipush (v := 999) hx hb dX12_years_33 (by decide) ?_
      refine lv_icmp_le (tgt := 41) hx hb dX12_years_36 (by decide) (fun c15 => ?_) (fun c15 => ?_)
      · rw [if_pos c15] at hf
        refine lv_aload_n hx hb dX12_years_41 rfl (lv_at hl 0 rfl) ?_
        refine lv_lload_n hx hb dX12_years_42 rfl (lv_at hl 2 rfl) ?_
        obtain ⟨h16, e17, hf⟩ := Option.bind_eq_some_iff.mp hf
        refine r_pJ X I e17 lp_TrapCornerModel_418 dX12_years_43 (fun H locs I => ?_)
        refine lv_iconst (v := 0) hx hb dX12_years_46 (by decide) ?_
        refine lv_istore (lv' := [(4, .int 0), (0, .ref (rfG g o0)), (1, .int x1), (2, .long y2)]) hx hb dX12_years_47 hl (by decide) rfl (fun ls hl => ?_)
        exact w_X12_years_49 X hR hr fu o0 x1 0 h16 ls H locs hf I (lv_sub hl [1, 2, 0] rfl)
      · rw [if_neg c15] at hf
        refine lv_iconst (v := (-1)) hx hb dX12_years_39 (by decide) ?_
        cases hf
        exact k_ri X I hr dX12_years_40
def f_X12_years (o0 : Nat) (x1 : Int32) (y2 : Int64) (h : AH) : Option (Int32 × AH) := f_X12_years_0 o0 x1 y2 h
end
theorem c_X12_years (l : Launch) (g : GG) (o0 : Nat) (x1 : Int32) (y2 : Int64) {h : AH} {res : Int32 × AH} (hf : f_X12_years o0 x1 y2 h = some res) : CM l g yX12_years cX12_years 7 (some (.int)) 94 6016 0 0 [.ref (rfG g o0), .int x1, .long y2] h (some (.int res.1)) res.2 :=
  k_body (by decide) (Nat.le_of_ble_eq_true rfl) (fun p e s m below meth c R ls hR hr X I hl => w_X12_years_0 X ⟨Nat.le_of_eq hR.1.symm, Nat.le_of_eq hR.2.1.symm⟩ hr o0 x1 y2 h ls s.heap [] hf I (lv_sub hl [0, 1, 2] rfl))
/-! TrapCornerModel.goStep([II)I -/
theorem dX12_goStep_0 : decode cX12_goStep 0 = .ok (.aload_n 0, 1) := by decide +kernel
theorem dX12_goStep_1 : decode cX12_goStep 1 = .ok (.getfield 55, 3) := by decide +kernel
theorem dX12_goStep_4 : decode cX12_goStep 4 = .ok (.iload_n 2, 1) := by decide +kernel
theorem dX12_goStep_5 : decode cX12_goStep 5 = .ok (.iaload, 1) := by decide +kernel
theorem dX12_goStep_6 : decode cX12_goStep 6 = .ok (.tableswitch 71 0 2 #[26, 35, 57], 26) := by decide +kernel
theorem dX12_goStep_32 : decode cX12_goStep 32 = .ok (.aload_n 0, 1) := by decide +kernel
theorem dX12_goStep_33 : decode cX12_goStep 33 = .ok (.aload_n 1, 1) := by decide +kernel
theorem dX12_goStep_34 : decode cX12_goStep 34 = .ok (.invokevirtual 376, 3) := by decide +kernel
theorem dX12_goStep_37 : decode cX12_goStep 37 = .ok (.invokestatic 393, 3) := by decide +kernel
theorem dX12_goStep_40 : decode cX12_goStep 40 = .ok (.ireturn, 1) := by decide +kernel
theorem dX12_goStep_41 : decode cX12_goStep 41 = .ok (.aload_n 1, 1) := by decide +kernel
theorem dX12_goStep_42 : decode cX12_goStep 42 = .ok (.aload_n 0, 1) := by decide +kernel
theorem dX12_goStep_43 : decode cX12_goStep 43 = .ok (.getfield 55, 3) := by decide +kernel
theorem dX12_goStep_46 : decode cX12_goStep 46 = .ok (.iload_n 2, 1) := by decide +kernel
theorem dX12_goStep_47 : decode cX12_goStep 47 = .ok (.iconst 1, 1) := by decide +kernel
theorem dX12_goStep_48 : decode cX12_goStep 48 = .ok (.iadd, 1) := by decide +kernel
theorem dX12_goStep_49 : decode cX12_goStep 49 = .ok (.iaload, 1) := by decide +kernel
theorem dX12_goStep_50 : decode cX12_goStep 50 = .ok (.aload_n 0, 1) := by decide +kernel
theorem dX12_goStep_51 : decode cX12_goStep 51 = .ok (.getfield 55, 3) := by decide +kernel
theorem dX12_goStep_54 : decode cX12_goStep 54 = .ok (.iload_n 2, 1) := by decide +kernel
theorem dX12_goStep_55 : decode cX12_goStep 55 = .ok (.iconst 2, 1) := by decide +kernel
theorem dX12_goStep_56 : decode cX12_goStep 56 = .ok (.iadd, 1) := by decide +kernel
theorem dX12_goStep_57 : decode cX12_goStep 57 = .ok (.iaload, 1) := by decide +kernel
theorem dX12_goStep_58 : decode cX12_goStep 58 = .ok (.invokestatic 403, 3) := by decide +kernel
theorem dX12_goStep_61 : decode cX12_goStep 61 = .ok (.iconst 0, 1) := by decide +kernel
theorem dX12_goStep_62 : decode cX12_goStep 62 = .ok (.ireturn, 1) := by decide +kernel
theorem dX12_goStep_63 : decode cX12_goStep 63 = .ok (.aload_n 1, 1) := by decide +kernel
theorem dX12_goStep_64 : decode cX12_goStep 64 = .ok (.aload_n 0, 1) := by decide +kernel
theorem dX12_goStep_65 : decode cX12_goStep 65 = .ok (.getfield 55, 3) := by decide +kernel
theorem dX12_goStep_68 : decode cX12_goStep 68 = .ok (.iload_n 2, 1) := by decide +kernel
theorem dX12_goStep_69 : decode cX12_goStep 69 = .ok (.iconst 1, 1) := by decide +kernel
theorem dX12_goStep_70 : decode cX12_goStep 70 = .ok (.iadd, 1) := by decide +kernel
theorem dX12_goStep_71 : decode cX12_goStep 71 = .ok (.iaload, 1) := by decide +kernel
theorem dX12_goStep_72 : decode cX12_goStep 72 = .ok (.invokestatic 410, 3) := by decide +kernel
theorem dX12_goStep_75 : decode cX12_goStep 75 = .ok (.iconst 0, 1) := by decide +kernel
theorem dX12_goStep_76 : decode cX12_goStep 76 = .ok (.ireturn, 1) := by decide +kernel
theorem dX12_goStep_77 : decode cX12_goStep 77 = .ok (.aload_n 1, 1) := by decide +kernel
theorem dX12_goStep_78 : decode cX12_goStep 78 = .ok (.aload_n 0, 1) := by decide +kernel
theorem dX12_goStep_79 : decode cX12_goStep 79 = .ok (.getfield 55, 3) := by decide +kernel
theorem dX12_goStep_82 : decode cX12_goStep 82 = .ok (.iload_n 2, 1) := by decide +kernel
theorem dX12_goStep_83 : decode cX12_goStep 83 = .ok (.iconst 1, 1) := by decide +kernel
theorem dX12_goStep_84 : decode cX12_goStep 84 = .ok (.iadd, 1) := by decide +kernel
theorem dX12_goStep_85 : decode cX12_goStep 85 = .ok (.iaload, 1) := by decide +kernel
theorem dX12_goStep_86 : decode cX12_goStep 86 = .ok (.invokestatic 413, 3) := by decide +kernel
theorem dX12_goStep_89 : decode cX12_goStep 89 = .ok (.iconst 0, 1) := by decide +kernel
theorem dX12_goStep_90 : decode cX12_goStep 90 = .ok (.ireturn, 1) := by decide +kernel
section
variable {g : GG} {p : Program} {l : Launch} {e : Env} {R : Room} {s : State} {m : MethodId} {args : Array Value} {below : List Frame} {meth : Method} {c : Code} {n0 z0 : Nat}
def f_X12_goStep_0  (o0 : Nat) (o1 : Nat) (x2 : Int32) (h : AH) : Option (Int32 × AH) :=
  (gR [12] h o0 24).bind fun v1 =>
  (aI 0 h v1 x2).bind fun v3 =>
  if v3 = 0 then
    (isC [12] h o0).bind fun _ =>
    cN (f_X12_goDay o0 o1 h) h fun v6 h7 =>
    cN (f_J6_bitCount_0f7a4 v6 h7) h7 fun v11 h12 =>
    some (v11, h12)
  else
    if v3 = 1 then
      (gR [12] h o0 24).bind fun v16 =>
      (aI 0 h v16 (x2 + 1)).bind fun v18 =>
      (gR [12] h o0 24).bind fun v20 =>
      (aI 0 h v20 (x2 + 2)).bind fun v22 =>
      cN (f_X12_lays o1 v18 v22 h) h fun _ h25 =>
      some (0, h25)
    else
      if v3 = 2 then
        (gR [12] h o0 24).bind fun v29 =>
        (aI 0 h v29 (x2 + 1)).bind fun v31 =>
        cN (f_X12_renews o1 v31 h) h fun _ h34 =>
        some (0, h34)
      else
        (gR [12] h o0 24).bind fun v37 =>
        (aI 0 h v37 (x2 + 1)).bind fun v39 =>
        cN (f_X12_turns o1 v39 h) h fun _ h42 =>
        some (0, h42)
set_option maxHeartbeats 1000000 in
theorem w_X12_goStep_0 (X : Cx g p s m args meth c cX12_goStep 3 "TrapCornerModel") (hR : 94 ≤ R.frames ∧ 6016 ≤ R.locals) (hr : meth.sig.returnType = (some (.int))) {res : Int32 × AH} : ∀ (o0 : Nat) (o1 : Nat) (x2 : Int32) (h : AH) (ls : Array Slot) (H : Heap) (locs : List Loc), f_X12_goStep_0 o0 o1 x2 h = some res → Iv g s n0 z0 h H locs 0 0 → lv_has ls 3 [(0, .ref (rfG g o0)), (1, .ref (rfG g o1)), (2, .int x2)] → W p l e R s m args below meth c H locs 0 0 (MQ below (QG g (some (.int res.1)) res.2) args s 0 0 (AG g)) (F0 m 0 ls []) := by
  have hx := X.1
  have hb := X.2.1
  intro o0 o1 x2 h ls H locs hf I hl
  unfold f_X12_goStep_0 at hf
  refine lv_aload_n hx hb dX12_goStep_0 rfl (lv_at hl 0 rfl) ?_
  obtain ⟨v1, e2, hf⟩ := Option.bind_eq_some_iff.mp hf
  refine r_gR X I e2 lk_TrapCornerModel_55 dX12_goStep_1 ?_
  refine lv_iload_n hx hb dX12_goStep_4 rfl (lv_at hl 2 rfl) ?_
  obtain ⟨v3, e4, hf⟩ := Option.bind_eq_some_iff.mp hf
  refine r_aI0 X I e4 dX12_goStep_5 ?_
  by_cases c5 : v3 = 0
  · rw [if_pos c5] at hf
    refine lv_tableIn (tgt := 32) hx hb dX12_goStep_6 (by rw [c5]; decide) (by rw [c5]; decide) (by rw [c5]; rfl) (by decide) ?_
    refine lv_aload_n hx hb dX12_goStep_32 rfl (lv_at hl 0 rfl) ?_
    refine lv_aload_n hx hb dX12_goStep_33 rfl (lv_at hl 1 rfl) ?_
    obtain ⟨_, g10, hf⟩ := Option.bind_eq_some_iff.mp hf
    obtain ⟨v6, h7, e8, z9, hf⟩ := cN_spec hf
    refine k_Vi (As := [.ref (rfG g o1)]) (rest := []) X I (c_X12_goDay l g o0 o1 e8) z9 g10 vk_TrapCornerModel_376 tw_1672 ⟨Nat.le_trans (by decide) hR.1, Nat.le_trans (by decide) hR.2⟩ ⟨Nat.zero_le _, Nat.zero_le _⟩ rfl hl.1 rfl (Nat.le_of_ble_eq_true rfl) dX12_goStep_34 (fun H locs I => ?_)
    obtain ⟨v11, h12, e13, z14, hf⟩ := cN_spec hf
    refine k_Si (As := [.int v6]) (rest := []) X I (c_J6_bitCount_0f7a4 l g v6 e13) z14 sk_TrapCornerModel_393 tw_957 ⟨Nat.le_trans (by decide) hR.1, Nat.le_trans (by decide) hR.2⟩ ⟨Nat.zero_le _, Nat.zero_le _⟩ rfl hl.1 rfl (Nat.le_of_ble_eq_true rfl) dX12_goStep_37 (fun H locs I => ?_)
    cases hf
    exact k_ri X I hr dX12_goStep_40
  · rw [if_neg c5] at hf
    by_cases c15 : v3 = 1
    · rw [if_pos c15] at hf
      refine lv_tableIn (tgt := 41) hx hb dX12_goStep_6 (by rw [c15]; decide) (by rw [c15]; decide) (by rw [c15]; rfl) (by decide) ?_
      refine lv_aload_n hx hb dX12_goStep_41 rfl (lv_at hl 1 rfl) ?_
      refine lv_aload_n hx hb dX12_goStep_42 rfl (lv_at hl 0 rfl) ?_
      obtain ⟨v16, e17, hf⟩ := Option.bind_eq_some_iff.mp hf
      refine r_gR X I e17 lk_TrapCornerModel_55 dX12_goStep_43 ?_
      refine lv_iload_n hx hb dX12_goStep_46 rfl (lv_at hl 2 rfl) ?_
      refine lv_iconst (v := 1) hx hb dX12_goStep_47 (by decide) ?_
      refine lv_iadd hx hb dX12_goStep_48 ?_
      obtain ⟨v18, e19, hf⟩ := Option.bind_eq_some_iff.mp hf
      refine r_aI0 X I e19 dX12_goStep_49 ?_
      refine lv_aload_n hx hb dX12_goStep_50 rfl (lv_at hl 0 rfl) ?_
      obtain ⟨v20, e21, hf⟩ := Option.bind_eq_some_iff.mp hf
      refine r_gR X I e21 lk_TrapCornerModel_55 dX12_goStep_51 ?_
      refine lv_iload_n hx hb dX12_goStep_54 rfl (lv_at hl 2 rfl) ?_
      refine lv_iconst (v := 2) hx hb dX12_goStep_55 (by decide) ?_
      refine lv_iadd hx hb dX12_goStep_56 ?_
      obtain ⟨v22, e23, hf⟩ := Option.bind_eq_some_iff.mp hf
      refine r_aI0 X I e23 dX12_goStep_57 ?_
      obtain ⟨⟨⟩, h25, e26, z27, hf⟩ := cN_spec hf
      refine k_Sv (As := [.ref (rfG g o1), .int v18, .int v22]) (rest := []) X I (c_X12_lays l g o1 v18 v22 e26) z27 sk_TrapCornerModel_403 tw_1731 ⟨Nat.le_trans (by decide) hR.1, Nat.le_trans (by decide) hR.2⟩ ⟨Nat.zero_le _, Nat.zero_le _⟩ rfl hl.1 rfl (Nat.le_of_ble_eq_true rfl) dX12_goStep_58 (fun H locs I => ?_)
      refine lv_iconst (v := 0) hx hb dX12_goStep_61 (by decide) ?_
      cases hf
      exact k_ri X I hr dX12_goStep_62
    · rw [if_neg c15] at hf
      by_cases c28 : v3 = 2
      · rw [if_pos c28] at hf
        refine lv_tableIn (tgt := 63) hx hb dX12_goStep_6 (by rw [c28]; decide) (by rw [c28]; decide) (by rw [c28]; rfl) (by decide) ?_
        refine lv_aload_n hx hb dX12_goStep_63 rfl (lv_at hl 1 rfl) ?_
        refine lv_aload_n hx hb dX12_goStep_64 rfl (lv_at hl 0 rfl) ?_
        obtain ⟨v29, e30, hf⟩ := Option.bind_eq_some_iff.mp hf
        refine r_gR X I e30 lk_TrapCornerModel_55 dX12_goStep_65 ?_
        refine lv_iload_n hx hb dX12_goStep_68 rfl (lv_at hl 2 rfl) ?_
        refine lv_iconst (v := 1) hx hb dX12_goStep_69 (by decide) ?_
        refine lv_iadd hx hb dX12_goStep_70 ?_
        obtain ⟨v31, e32, hf⟩ := Option.bind_eq_some_iff.mp hf
        refine r_aI0 X I e32 dX12_goStep_71 ?_
        obtain ⟨⟨⟩, h34, e35, z36, hf⟩ := cN_spec hf
        refine k_Sv (As := [.ref (rfG g o1), .int v31]) (rest := []) X I (c_X12_renews l g o1 v31 e35) z36 sk_TrapCornerModel_410 tw_1742 ⟨Nat.le_trans (by decide) hR.1, Nat.le_trans (by decide) hR.2⟩ ⟨Nat.zero_le _, Nat.zero_le _⟩ rfl hl.1 rfl (Nat.le_of_ble_eq_true rfl) dX12_goStep_72 (fun H locs I => ?_)
        refine lv_iconst (v := 0) hx hb dX12_goStep_75 (by decide) ?_
        cases hf
        exact k_ri X I hr dX12_goStep_76
      · rw [if_neg c28] at hf
        refine lv_tableOut (tgt := 77) hx hb dX12_goStep_6 (sw_out (fun k k1 k2 => by rcases (show k = 0 ∨ k = 1 ∨ k = 2 by omega) with rfl | rfl | rfl <;> assumption)) (by decide) ?_
        refine lv_aload_n hx hb dX12_goStep_77 rfl (lv_at hl 1 rfl) ?_
        refine lv_aload_n hx hb dX12_goStep_78 rfl (lv_at hl 0 rfl) ?_
        obtain ⟨v37, e38, hf⟩ := Option.bind_eq_some_iff.mp hf
        refine r_gR X I e38 lk_TrapCornerModel_55 dX12_goStep_79 ?_
        refine lv_iload_n hx hb dX12_goStep_82 rfl (lv_at hl 2 rfl) ?_
        refine lv_iconst (v := 1) hx hb dX12_goStep_83 (by decide) ?_
        refine lv_iadd hx hb dX12_goStep_84 ?_
        obtain ⟨v39, e40, hf⟩ := Option.bind_eq_some_iff.mp hf
        refine r_aI0 X I e40 dX12_goStep_85 ?_
        obtain ⟨⟨⟩, h42, e43, z44, hf⟩ := cN_spec hf
        refine k_Sv (As := [.ref (rfG g o1), .int v39]) (rest := []) X I (c_X12_turns l g o1 v39 e43) z44 sk_TrapCornerModel_413 tw_1753 ⟨Nat.le_trans (by decide) hR.1, Nat.le_trans (by decide) hR.2⟩ ⟨Nat.zero_le _, Nat.zero_le _⟩ rfl hl.1 rfl (Nat.le_of_ble_eq_true rfl) dX12_goStep_86 (fun H locs I => ?_)
        refine lv_iconst (v := 0) hx hb dX12_goStep_89 (by decide) ?_
        cases hf
        exact k_ri X I hr dX12_goStep_90
def f_X12_goStep (o0 : Nat) (o1 : Nat) (x2 : Int32) (h : AH) : Option (Int32 × AH) := f_X12_goStep_0 o0 o1 x2 h
end
theorem c_X12_goStep (l : Launch) (g : GG) (o0 : Nat) (o1 : Nat) (x2 : Int32) {h : AH} {res : Int32 × AH} (hf : f_X12_goStep o0 o1 x2 h = some res) : CM l g yX12_goStep cX12_goStep 3 (some (.int)) 94 6016 0 0 [.ref (rfG g o0), .ref (rfG g o1), .int x2] h (some (.int res.1)) res.2 :=
  k_body (by decide) (Nat.le_of_ble_eq_true rfl) (fun p e s m below meth c R ls hR hr X I hl => w_X12_goStep_0 X ⟨Nat.le_of_eq hR.1.symm, Nat.le_of_eq hR.2.1.symm⟩ hr o0 o1 x2 h ls s.heap [] hf I (lv_sub hl [0, 1, 2] rfl))
/-! TrapCornerModel.run(II)I -/
theorem dX12_run_0 : decode cX12_run 0 = .ok (.aload_n 0, 1) := by decide +kernel
theorem dX12_run_1 : decode cX12_run 1 = .ok (.iconst 0, 1) := by decide +kernel
theorem dX12_run_2 : decode cX12_run 2 = .ok (.putfield 96, 3) := by decide +kernel
theorem dX12_run_5 : decode cX12_run 5 = .ok (.aload_n 0, 1) := by decide +kernel
theorem dX12_run_6 : decode cX12_run 6 = .ok (.iload_n 1, 1) := by decide +kernel
theorem dX12_run_7 : decode cX12_run 7 = .ok (.invokevirtual 431, 3) := by decide +kernel
theorem dX12_run_10 : decode cX12_run 10 = .ok (.ifCond .eq 20, 3) := by decide +kernel
theorem dX12_run_13 : decode cX12_run 13 = .ok (.aload_n 0, 1) := by decide +kernel
theorem dX12_run_14 : decode cX12_run 14 = .ok (.getfield 297, 3) := by decide +kernel
theorem dX12_run_17 : decode cX12_run 17 = .ok (.ifCond .eq 13, 3) := by decide +kernel
theorem dX12_run_20 : decode cX12_run 20 = .ok (.iload_n 2, 1) := by decide +kernel
theorem dX12_run_21 : decode cX12_run 21 = .ok (.i2l, 1) := by decide +kernel
theorem dX12_run_22 : decode cX12_run 22 = .ok (.lconst 0, 1) := by decide +kernel
theorem dX12_run_23 : decode cX12_run 23 = .ok (.lconst 1, 1) := by decide +kernel
theorem dX12_run_24 : decode cX12_run 24 = .ok (.invokestatic 217, 3) := by decide +kernel
theorem dX12_run_27 : decode cX12_run 27 = .ok (.ifCond .ne 7, 3) := by decide +kernel
theorem dX12_run_30 : decode cX12_run 30 = .ok (.ldc_w 434, 3) := by decide +kernel
theorem dX12_run_33 : decode cX12_run 33 = .ok (.ireturn, 1) := by decide +kernel
theorem dX12_run_34 : decode cX12_run 34 = .ok (.aload_n 0, 1) := by decide +kernel
theorem dX12_run_35 : decode cX12_run 35 = .ok (.getfield 61, 3) := by decide +kernel
theorem dX12_run_38 : decode cX12_run 38 = .ok (.aload_n 0, 1) := by decide +kernel
theorem dX12_run_39 : decode cX12_run 39 = .ok (.getfield 64, 3) := by decide +kernel
theorem dX12_run_42 : decode cX12_run 42 = .ok (.invokestatic 372, 3) := by decide +kernel
theorem dX12_run_45 : decode cX12_run 45 = .ok (.iconst 0, 1) := by decide +kernel
theorem dX12_run_46 : decode cX12_run 46 = .ok (.istore_n 3, 1) := by decide +kernel
theorem dX12_run_47 : decode cX12_run 47 = .ok (.iconst 0, 1) := by decide +kernel
theorem dX12_run_48 : decode cX12_run 48 = .ok (.istore 4, 2) := by decide +kernel
theorem dX12_run_50 : decode cX12_run 50 = .ok (.iload_n 3, 1) := by decide +kernel
theorem dX12_run_51 : decode cX12_run 51 = .ok (.aload_n 0, 1) := by decide +kernel
theorem dX12_run_52 : decode cX12_run 52 = .ok (.getfield 58, 3) := by decide +kernel
theorem dX12_run_55 : decode cX12_run 55 = .ok (.iload_n 1, 1) := by decide +kernel
theorem dX12_run_56 : decode cX12_run 56 = .ok (.iaload, 1) := by decide +kernel
theorem dX12_run_57 : decode cX12_run 57 = .ok (.if_icmp .ge 49, 3) := by decide +kernel
theorem dX12_run_60 : decode cX12_run 60 = .ok (.aload_n 0, 1) := by decide +kernel
theorem dX12_run_61 : decode cX12_run 61 = .ok (.aload_n 0, 1) := by decide +kernel
theorem dX12_run_62 : decode cX12_run 62 = .ok (.getfield 64, 3) := by decide +kernel
theorem dX12_run_65 : decode cX12_run 65 = .ok (.iconst 3, 1) := by decide +kernel
theorem dX12_run_66 : decode cX12_run 66 = .ok (.bipush 16, 2) := by decide +kernel
theorem dX12_run_68 : decode cX12_run 68 = .ok (.iload_n 1, 1) := by decide +kernel
theorem dX12_run_69 : decode cX12_run 69 = .ok (.imul, 1) := by decide +kernel
theorem dX12_run_70 : decode cX12_run 70 = .ok (.iload_n 3, 1) := by decide +kernel
theorem dX12_run_71 : decode cX12_run 71 = .ok (.iadd, 1) := by decide +kernel
theorem dX12_run_72 : decode cX12_run 72 = .ok (.imul, 1) := by decide +kernel
theorem dX12_run_73 : decode cX12_run 73 = .ok (.invokevirtual 435, 3) := by decide +kernel
theorem dX12_run_76 : decode cX12_run 76 = .ok (.ifCond .eq 30, 3) := by decide +kernel
theorem dX12_run_79 : decode cX12_run 79 = .ok (.iload 4, 2) := by decide +kernel
theorem dX12_run_81 : decode cX12_run 81 = .ok (.aload_n 0, 1) := by decide +kernel
theorem dX12_run_82 : decode cX12_run 82 = .ok (.aload_n 0, 1) := by decide +kernel
theorem dX12_run_83 : decode cX12_run 83 = .ok (.getfield 64, 3) := by decide +kernel
theorem dX12_run_86 : decode cX12_run 86 = .ok (.iconst 3, 1) := by decide +kernel
theorem dX12_run_87 : decode cX12_run 87 = .ok (.bipush 16, 2) := by decide +kernel
theorem dX12_run_89 : decode cX12_run 89 = .ok (.iload_n 1, 1) := by decide +kernel
theorem dX12_run_90 : decode cX12_run 90 = .ok (.imul, 1) := by decide +kernel
theorem dX12_run_91 : decode cX12_run 91 = .ok (.iload_n 3, 1) := by decide +kernel
theorem dX12_run_92 : decode cX12_run 92 = .ok (.iadd, 1) := by decide +kernel
theorem dX12_run_93 : decode cX12_run 93 = .ok (.imul, 1) := by decide +kernel
theorem dX12_run_94 : decode cX12_run 94 = .ok (.invokevirtual 438, 3) := by decide +kernel
theorem dX12_run_97 : decode cX12_run 97 = .ok (.iadd, 1) := by decide +kernel
theorem dX12_run_98 : decode cX12_run 98 = .ok (.istore 4, 2) := by decide +kernel
theorem dX12_run_100 : decode cX12_run 100 = .ok (.iinc 3 1, 3) := by decide +kernel
theorem dX12_run_103 : decode cX12_run 103 = .ok (.goto (-53), 3) := by decide +kernel
theorem dX12_run_106 : decode cX12_run 106 = .ok (.iload_n 2, 1) := by decide +kernel
theorem dX12_run_107 : decode cX12_run 107 = .ok (.iconst 1, 1) := by decide +kernel
theorem dX12_run_108 : decode cX12_run 108 = .ok (.if_icmp .ne 6, 3) := by decide +kernel
theorem dX12_run_111 : decode cX12_run 111 = .ok (.iload 4, 2) := by decide +kernel
theorem dX12_run_113 : decode cX12_run 113 = .ok (.ireturn, 1) := by decide +kernel
theorem dX12_run_114 : decode cX12_run 114 = .ok (.iload_n 3, 1) := by decide +kernel
theorem dX12_run_115 : decode cX12_run 115 = .ok (.aload_n 0, 1) := by decide +kernel
theorem dX12_run_116 : decode cX12_run 116 = .ok (.getfield 58, 3) := by decide +kernel
theorem dX12_run_119 : decode cX12_run 119 = .ok (.iload_n 1, 1) := by decide +kernel
theorem dX12_run_120 : decode cX12_run 120 = .ok (.iaload, 1) := by decide +kernel
theorem dX12_run_121 : decode cX12_run 121 = .ok (.if_icmp .ne 7, 3) := by decide +kernel
theorem dX12_run_124 : decode cX12_run 124 = .ok (.iconst (-1), 1) := by decide +kernel
theorem dX12_run_125 : decode cX12_run 125 = .ok (.goto 4, 3) := by decide +kernel
theorem dX12_run_128 : decode cX12_run 128 = .ok (.iload_n 3, 1) := by decide +kernel
theorem dX12_run_129 : decode cX12_run 129 = .ok (.ireturn, 1) := by decide +kernel
theorem vk_TrapCornerModel_435 : VK "TrapCornerModel" 435 [12] yX12_canStep 2 := ⟨tw_1794, tw_1796, tw_13, ⟨by decide, by decide⟩, by decide +kernel, fun ci hci => by
  have hci := List.mem_singleton.mp hci
  subst hci
  exact ⟨_, rfl, tp_96⟩⟩
theorem vk_TrapCornerModel_438 : VK "TrapCornerModel" 438 [12] yX12_goStep 2 := ⟨tw_1798, tw_1800, tw_13, ⟨by decide, by decide⟩, by decide +kernel, fun ci hci => by
  have hci := List.mem_singleton.mp hci
  subst hci
  exact ⟨_, rfl, tp_97⟩⟩
section
variable {g : GG} {p : Program} {l : Launch} {e : Env} {R : Room} {s : State} {m : MethodId} {args : Array Value} {below : List Frame} {meth : Method} {c : Code} {n0 z0 : Nat}
def f_X12_run_30  (h : AH) : Option (Int32 × AH) :=
  some ((-1000000), h)
set_option maxHeartbeats 1000000 in
theorem w_X12_run_30 (X : Cx g p s m args meth c cX12_run 5 "TrapCornerModel") (hR : 95 ≤ R.frames ∧ 6080 ≤ R.locals) (hr : meth.sig.returnType = (some (.int))) {res : Int32 × AH} : ∀ (h : AH) (ls : Array Slot) (H : Heap) (locs : List Loc), f_X12_run_30  h = some res → Iv g s n0 z0 h H locs 0 0 → lv_has ls 5 [] → W p l e R s m args below meth c H locs 0 0 (MQ below (QG g (some (.int res.1)) res.2) args s 0 0 (AG g)) (F0 m 30 ls []) := by
  have hx := X.1
  have hb := X.2.1
  intro  h ls H locs hf I hl
  unfold f_X12_run_30 at hf
  refine lv_ldcw (v := (-1000000)) hx hb X.2.2.2.1 (X.2.2.2.2.1 _ tw_1786) dX12_run_30 ?_
  cases hf
  exact k_ri X I hr dX12_run_33
def f_X12_run_106  (o0 : Nat) (x1 : Int32) (x2 : Int32) (x3 : Int32) (x4 : Int32) (h : AH) : Option (Int32 × AH) :=
  if x2 = 1 then
    some (x4, h)
  else
    (gR [12] h o0 25).bind fun v2 =>
    (aI 0 h v2 x1).bind fun v4 =>
    if x3 = v4 then
      some ((-1), h)
    else
      some (x3, h)
set_option maxHeartbeats 1000000 in
theorem w_X12_run_106 (X : Cx g p s m args meth c cX12_run 5 "TrapCornerModel") (hR : 95 ≤ R.frames ∧ 6080 ≤ R.locals) (hr : meth.sig.returnType = (some (.int))) {res : Int32 × AH} : ∀ (o0 : Nat) (x1 : Int32) (x2 : Int32) (x3 : Int32) (x4 : Int32) (h : AH) (ls : Array Slot) (H : Heap) (locs : List Loc), f_X12_run_106 o0 x1 x2 x3 x4 h = some res → Iv g s n0 z0 h H locs 0 0 → lv_has ls 5 [(0, .ref (rfG g o0)), (1, .int x1), (2, .int x2), (3, .int x3), (4, .int x4)] → W p l e R s m args below meth c H locs 0 0 (MQ below (QG g (some (.int res.1)) res.2) args s 0 0 (AG g)) (F0 m 106 ls []) := by
  have hx := X.1
  have hb := X.2.1
  intro o0 x1 x2 x3 x4 h ls H locs hf I hl
  unfold f_X12_run_106 at hf
  refine lv_iload_n hx hb dX12_run_106 rfl (lv_at hl 2 rfl) ?_
  refine lv_iconst (v := 1) hx hb dX12_run_107 (by decide) ?_
  refine lv_icmp_ne (tgt := 114) hx hb dX12_run_108 (by decide) (fun c1 => ?_) (fun c1 => ?_)
  · rw [if_neg c1] at hf
    refine lv_iload_n hx hb dX12_run_114 rfl (lv_at hl 3 rfl) ?_
    refine lv_aload_n hx hb dX12_run_115 rfl (lv_at hl 0 rfl) ?_
    obtain ⟨v2, e3, hf⟩ := Option.bind_eq_some_iff.mp hf
    refine r_gR X I e3 lk_TrapCornerModel_58 dX12_run_116 ?_
    refine lv_iload_n hx hb dX12_run_119 rfl (lv_at hl 1 rfl) ?_
    obtain ⟨v4, e5, hf⟩ := Option.bind_eq_some_iff.mp hf
    refine r_aI0 X I e5 dX12_run_120 ?_
    refine lv_icmp_ne (tgt := 128) hx hb dX12_run_121 (by decide) (fun c6 => ?_) (fun c6 => ?_)
    · rw [if_neg c6] at hf
      refine lv_iload_n hx hb dX12_run_128 rfl (lv_at hl 3 rfl) ?_
      cases hf
      exact k_ri X I hr dX12_run_129
    · rw [if_pos c6] at hf
      refine lv_iconst (v := (-1)) hx hb dX12_run_124 (by decide) ?_
      refine lv_goto (tgt := 129) hx hb dX12_run_125 (by decide) ?_
      cases hf
      exact k_ri X I hr dX12_run_129
  · rw [if_pos c1] at hf
    refine lv_iload hx hb dX12_run_111 (lv_at hl 4 rfl) ?_
    cases hf
    exact k_ri X I hr dX12_run_113
def f_X12_run_50  : Nat → Nat → Int32 → Int32 → Int32 → Int32 → AH → Option (Int32 × AH)
  | 0, _, _, _, _, _, _ => none
  | n + 1, o0, x1, x2, x3, x4, h =>
  (gR [12] h o0 25).bind fun v1 =>
  (aI 0 h v1 x1).bind fun v3 =>
  if v3 ≤ x3 then
    f_X12_run_106 o0 x1 x2 x3 x4 h
  else
    (gR [12] h o0 33).bind fun v6 =>
    (isC [12] h o0).bind fun _ =>
    cN (f_X12_canStep o0 v6 (3 * ((16 * x1) + x3)) h) h fun v8 h9 =>
    if v8 = 0 then
      f_X12_run_106 o0 x1 x2 x3 x4 h9
    else
      (gR [12] h9 o0 33).bind fun v14 =>
      (isC [12] h9 o0).bind fun _ =>
      cN (f_X12_goStep o0 v14 (3 * ((16 * x1) + x3)) h9) h9 fun v16 h17 =>
      f_X12_run_50  n o0 x1 x2 (x3 + 1) (x4 + v16) h17
set_option maxHeartbeats 1000000 in
theorem w_X12_run_50 (X : Cx g p s m args meth c cX12_run 5 "TrapCornerModel") (hR : 95 ≤ R.frames ∧ 6080 ≤ R.locals) (hr : meth.sig.returnType = (some (.int))) {res : Int32 × AH} : ∀ (n : Nat) (o0 : Nat) (x1 : Int32) (x2 : Int32) (x3 : Int32) (x4 : Int32) (h : AH) (ls : Array Slot) (H : Heap) (locs : List Loc), f_X12_run_50 n o0 x1 x2 x3 x4 h = some res → Iv g s n0 z0 h H locs 0 0 → lv_has ls 5 [(0, .ref (rfG g o0)), (1, .int x1), (2, .int x2), (3, .int x3), (4, .int x4)] → W p l e R s m args below meth c H locs 0 0 (MQ below (QG g (some (.int res.1)) res.2) args s 0 0 (AG g)) (F0 m 50 ls []) := by
  have hx := X.1
  have hb := X.2.1
  intro n
  induction n with
  | zero =>
    intro o0 x1 x2 x3 x4 h ls H locs hf
    rw [f_X12_run_50.eq_1] at hf
    cases hf
  | succ n ih =>
    intro o0 x1 x2 x3 x4 h ls H locs hf I hl
    rw [f_X12_run_50.eq_2] at hf
    refine lv_iload_n hx hb dX12_run_50 rfl (lv_at hl 3 rfl) ?_
    refine lv_aload_n hx hb dX12_run_51 rfl (lv_at hl 0 rfl) ?_
    obtain ⟨v1, e2, hf⟩ := Option.bind_eq_some_iff.mp hf
    refine r_gR X I e2 lk_TrapCornerModel_58 dX12_run_52 ?_
    refine lv_iload_n hx hb dX12_run_55 rfl (lv_at hl 1 rfl) ?_
    obtain ⟨v3, e4, hf⟩ := Option.bind_eq_some_iff.mp hf
    refine r_aI0 X I e4 dX12_run_56 ?_
    refine lv_icmp_ge (tgt := 106) hx hb dX12_run_57 (by decide) (fun c5 => ?_) (fun c5 => ?_)
    · rw [if_pos c5] at hf
      exact w_X12_run_106 X hR hr  o0 x1 x2 x3 x4 h ls H locs hf I (lv_sub hl [0, 1, 2, 3, 4] rfl)
    · rw [if_neg c5] at hf
      refine lv_aload_n hx hb dX12_run_60 rfl (lv_at hl 0 rfl) ?_
      refine lv_aload_n hx hb dX12_run_61 rfl (lv_at hl 0 rfl) ?_
      obtain ⟨v6, e7, hf⟩ := Option.bind_eq_some_iff.mp hf
      refine r_gR X I e7 lk_TrapCornerModel_64 dX12_run_62 ?_
      refine lv_iconst (v := 3) hx hb dX12_run_65 (by decide) ?_
      refine lv_bipush (v := 16) hx hb dX12_run_66 (by decide) ?_
      refine lv_iload_n hx hb dX12_run_68 rfl (lv_at hl 1 rfl) ?_
      refine lv_imul hx hb dX12_run_69 ?_
      refine lv_iload_n hx hb dX12_run_70 rfl (lv_at hl 3 rfl) ?_
      refine lv_iadd hx hb dX12_run_71 ?_
      refine lv_imul hx hb dX12_run_72 ?_
      obtain ⟨_, g12, hf⟩ := Option.bind_eq_some_iff.mp hf
      obtain ⟨v8, h9, e10, z11, hf⟩ := cN_spec hf
      refine k_Vi (As := [.ref (rfG g v6), .int (3 * ((16 * x1) + x3))]) (rest := []) X I (c_X12_canStep l g o0 v6 (3 * ((16 * x1) + x3)) e10) z11 g12 vk_TrapCornerModel_435 tw_1797 ⟨Nat.le_trans (by decide) hR.1, Nat.le_trans (by decide) hR.2⟩ ⟨Nat.zero_le _, Nat.zero_le _⟩ rfl hl.1 rfl (Nat.le_of_ble_eq_true rfl) dX12_run_73 (fun H locs I => ?_)
      refine lv_if_eq (tgt := 106) hx hb dX12_run_76 (by decide) (fun c13 => ?_) (fun c13 => ?_)
      · rw [if_pos c13] at hf
        exact w_X12_run_106 X hR hr  o0 x1 x2 x3 x4 h9 ls H locs hf I (lv_sub hl [0, 1, 2, 3, 4] rfl)
      · rw [if_neg c13] at hf
        refine lv_iload hx hb dX12_run_79 (lv_at hl 4 rfl) ?_
        refine lv_aload_n hx hb dX12_run_81 rfl (lv_at hl 0 rfl) ?_
        refine lv_aload_n hx hb dX12_run_82 rfl (lv_at hl 0 rfl) ?_
        obtain ⟨v14, e15, hf⟩ := Option.bind_eq_some_iff.mp hf
        refine r_gR X I e15 lk_TrapCornerModel_64 dX12_run_83 ?_
        refine lv_iconst (v := 3) hx hb dX12_run_86 (by decide) ?_
        refine lv_bipush (v := 16) hx hb dX12_run_87 (by decide) ?_
        refine lv_iload_n hx hb dX12_run_89 rfl (lv_at hl 1 rfl) ?_
        refine lv_imul hx hb dX12_run_90 ?_
        refine lv_iload_n hx hb dX12_run_91 rfl (lv_at hl 3 rfl) ?_
        refine lv_iadd hx hb dX12_run_92 ?_
        refine lv_imul hx hb dX12_run_93 ?_
        obtain ⟨_, g20, hf⟩ := Option.bind_eq_some_iff.mp hf
        obtain ⟨v16, h17, e18, z19, hf⟩ := cN_spec hf
        refine k_Vi (As := [.ref (rfG g v14), .int (3 * ((16 * x1) + x3))]) (rest := [.int x4]) X I (c_X12_goStep l g o0 v14 (3 * ((16 * x1) + x3)) e18) z19 g20 vk_TrapCornerModel_438 tw_1801 ⟨Nat.le_trans (by decide) hR.1, Nat.le_trans (by decide) hR.2⟩ ⟨Nat.zero_le _, Nat.zero_le _⟩ rfl hl.1 rfl (Nat.le_of_ble_eq_true rfl) dX12_run_94 (fun H locs I => ?_)
        refine lv_iadd hx hb dX12_run_97 ?_
        refine lv_istore (lv' := [(4, .int (x4 + v16)), (0, .ref (rfG g o0)), (1, .int x1), (2, .int x2), (3, .int x3)]) hx hb dX12_run_98 hl (by decide) rfl (fun ls hl => ?_)
        refine lv_iinc (v := x3 + 1) (lv' := [(3, .int (x3 + 1)), (4, .int (x4 + v16)), (0, .ref (rfG g o0)), (1, .int x1), (2, .int x2)]) hx hb dX12_run_100 hl (k := 4) rfl rfl (by decide) rfl (fun ls hl => ?_)
        refine lv_goto (tgt := 50) hx hb dX12_run_103 (by decide) ?_
        exact ih o0 x1 x2 (x3 + 1) (x4 + v16) h17 ls H locs hf I (lv_sub hl [2, 3, 4, 0, 1] rfl)
def f_X12_run_0  (o0 : Nat) (x1 : Int32) (x2 : Int32) (h : AH) : Option (Int32 × AH) :=
  (pV [12] h o0 0 (.int 0)).bind fun h1 =>
  (isC [12] h1 o0).bind fun _ =>
  cN (f_X12_isPlan o0 x1 h1) h1 fun v3 h4 =>
  if v3 = 0 then
    f_X12_run_30 h4
  else
    (gI [12] h4 o0 27).bind fun v9 =>
    if v9 = 0 then
      f_X12_run_30 h4
    else
      cN (f_X12_isIn (x2.toInt64) 0 1 h4) h4 fun v12 h13 =>
      if v12 = 0 then
        f_X12_run_30 h13
      else
        (gR [12] h13 o0 32).bind fun v17 =>
        (gR [12] h13 o0 33).bind fun v19 =>
        cN (f_X12_copy v17 v19 h13) h13 fun _ h22 =>
        f_X12_run_50 fu o0 x1 x2 0 0 h22
set_option maxHeartbeats 1000000 in
theorem w_X12_run_0 (X : Cx g p s m args meth c cX12_run 5 "TrapCornerModel") (hR : 95 ≤ R.frames ∧ 6080 ≤ R.locals) (hr : meth.sig.returnType = (some (.int))) {res : Int32 × AH} : ∀ (o0 : Nat) (x1 : Int32) (x2 : Int32) (h : AH) (ls : Array Slot) (H : Heap) (locs : List Loc), f_X12_run_0 o0 x1 x2 h = some res → Iv g s n0 z0 h H locs 0 0 → lv_has ls 5 [(0, .ref (rfG g o0)), (1, .int x1), (2, .int x2)] → W p l e R s m args below meth c H locs 0 0 (MQ below (QG g (some (.int res.1)) res.2) args s 0 0 (AG g)) (F0 m 0 ls []) := by
  have hx := X.1
  have hb := X.2.1
  intro o0 x1 x2 h ls H locs hf I hl
  unfold f_X12_run_0 at hf
  refine lv_aload_n hx hb dX12_run_0 rfl (lv_at hl 0 rfl) ?_
  refine lv_iconst (v := 0) hx hb dX12_run_1 (by decide) ?_
  obtain ⟨h1, e2, hf⟩ := Option.bind_eq_some_iff.mp hf
  refine r_pI X I e2 lp_TrapCornerModel_96 dX12_run_2 (fun H locs I => ?_)
  refine lv_aload_n hx hb dX12_run_5 rfl (lv_at hl 0 rfl) ?_
  refine lv_iload_n hx hb dX12_run_6 rfl (lv_at hl 1 rfl) ?_
  obtain ⟨_, g7, hf⟩ := Option.bind_eq_some_iff.mp hf
  obtain ⟨v3, h4, e5, z6, hf⟩ := cN_spec hf
  refine k_Vi (As := [.int x1]) (rest := []) X I (c_X12_isPlan l g o0 x1 e5) z6 g7 vk_TrapCornerModel_431 tw_1785 ⟨Nat.le_trans (by decide) hR.1, Nat.le_trans (by decide) hR.2⟩ ⟨Nat.zero_le _, Nat.zero_le _⟩ rfl hl.1 rfl (Nat.le_of_ble_eq_true rfl) dX12_run_7 (fun H locs I => ?_)
  refine lv_if_eq (tgt := 30) hx hb dX12_run_10 (by decide) (fun c8 => ?_) (fun c8 => ?_)
  · rw [if_pos c8] at hf
    exact w_X12_run_30 X hR hr  h4 ls H locs hf I (lv_sub hl [] rfl)
  · rw [if_neg c8] at hf
    refine lv_aload_n hx hb dX12_run_13 rfl (lv_at hl 0 rfl) ?_
    obtain ⟨v9, e10, hf⟩ := Option.bind_eq_some_iff.mp hf
    refine r_gI X I e10 lk_TrapCornerModel_297 dX12_run_14 ?_
    refine lv_if_eq (tgt := 30) hx hb dX12_run_17 (by decide) (fun c11 => ?_) (fun c11 => ?_)
    · rw [if_pos c11] at hf
      exact w_X12_run_30 X hR hr  h4 ls H locs hf I (lv_sub hl [] rfl)
    · rw [if_neg c11] at hf
      refine lv_iload_n hx hb dX12_run_20 rfl (lv_at hl 2 rfl) ?_
      refine lv_i2l hx hb dX12_run_21 rfl ?_
      refine lv_lconst (v := 0) hx hb dX12_run_22 (by decide) ?_
      refine lv_lconst (v := 1) hx hb dX12_run_23 (by decide) ?_
      obtain ⟨v12, h13, e14, z15, hf⟩ := cN_spec hf
      refine k_Si (As := [.long (x2.toInt64), .long 0, .long 1]) (rest := []) X I (c_X12_isIn l g (x2.toInt64) 0 1 e14) z15 sk_TrapCornerModel_217 tw_1465 ⟨Nat.le_trans (by decide) hR.1, Nat.le_trans (by decide) hR.2⟩ ⟨Nat.zero_le _, Nat.zero_le _⟩ rfl hl.1 rfl (Nat.le_of_ble_eq_true rfl) dX12_run_24 (fun H locs I => ?_)
      refine lv_if_ne (tgt := 34) hx hb dX12_run_27 (by decide) (fun c16 => ?_) (fun c16 => ?_)
      · rw [if_neg c16] at hf
        refine lv_aload_n hx hb dX12_run_34 rfl (lv_at hl 0 rfl) ?_
        obtain ⟨v17, e18, hf⟩ := Option.bind_eq_some_iff.mp hf
        refine r_gR X I e18 lk_TrapCornerModel_61 dX12_run_35 ?_
        refine lv_aload_n hx hb dX12_run_38 rfl (lv_at hl 0 rfl) ?_
        obtain ⟨v19, e20, hf⟩ := Option.bind_eq_some_iff.mp hf
        refine r_gR X I e20 lk_TrapCornerModel_64 dX12_run_39 ?_
        obtain ⟨⟨⟩, h22, e23, z24, hf⟩ := cN_spec hf
        refine k_Sv (As := [.ref (rfG g v17), .ref (rfG g v19)]) (rest := []) X I (c_X12_copy l g v17 v19 e23) z24 sk_TrapCornerModel_372 tw_1793 ⟨Nat.le_trans (by decide) hR.1, Nat.le_trans (by decide) hR.2⟩ ⟨Nat.zero_le _, Nat.zero_le _⟩ rfl hl.1 rfl (Nat.le_of_ble_eq_true rfl) dX12_run_42 (fun H locs I => ?_)
        refine lv_iconst (v := 0) hx hb dX12_run_45 (by decide) ?_
        refine lv_istore_n (lv' := [(3, .int 0), (0, .ref (rfG g o0)), (1, .int x1), (2, .int x2)]) hx hb dX12_run_46 rfl hl (by decide) rfl (fun ls hl => ?_)
        refine lv_iconst (v := 0) hx hb dX12_run_47 (by decide) ?_
        refine lv_istore (lv' := [(4, .int 0), (3, .int 0), (0, .ref (rfG g o0)), (1, .int x1), (2, .int x2)]) hx hb dX12_run_48 hl (by decide) rfl (fun ls hl => ?_)
        exact w_X12_run_50 X hR hr fu o0 x1 x2 0 0 h22 ls H locs hf I (lv_sub hl [2, 3, 4, 1, 0] rfl)
      · rw [if_pos c16] at hf
        exact w_X12_run_30 X hR hr  h13 ls H locs hf I (lv_sub hl [] rfl)
def f_X12_run (o0 : Nat) (x1 : Int32) (x2 : Int32) (h : AH) : Option (Int32 × AH) := f_X12_run_0 o0 x1 x2 h
end
theorem c_X12_run (l : Launch) (g : GG) (o0 : Nat) (x1 : Int32) (x2 : Int32) {h : AH} {res : Int32 × AH} (hf : f_X12_run o0 x1 x2 h = some res) : CM l g yX12_run cX12_run 5 (some (.int)) 95 6080 0 0 [.ref (rfG g o0), .int x1, .int x2] h (some (.int res.1)) res.2 :=
  k_body (by decide) (Nat.le_of_ble_eq_true rfl) (fun p e s m below meth c R ls hR hr X I hl => w_X12_run_0 X ⟨Nat.le_of_eq hR.1.symm, Nat.le_of_eq hR.2.1.symm⟩ hr o0 x1 x2 h ls s.heap [] hf I (lv_sub hl [0, 1, 2] rfl))
/-! TrapCornerModel.perform(I)I -/
theorem dX12_perform_0 : decode cX12_perform 0 = .ok (.aload_n 0, 1) := by decide +kernel
theorem dX12_perform_1 : decode cX12_perform 1 = .ok (.iconst 0, 1) := by decide +kernel
theorem dX12_perform_2 : decode cX12_perform 2 = .ok (.putfield 96, 3) := by decide +kernel
theorem dX12_perform_5 : decode cX12_perform 5 = .ok (.aload_n 0, 1) := by decide +kernel
theorem dX12_perform_6 : decode cX12_perform 6 = .ok (.iload_n 1, 1) := by decide +kernel
theorem dX12_perform_7 : decode cX12_perform 7 = .ok (.invokevirtual 431, 3) := by decide +kernel
theorem dX12_perform_10 : decode cX12_perform 10 = .ok (.ifCond .eq 10, 3) := by decide +kernel
theorem dX12_perform_13 : decode cX12_perform 13 = .ok (.aload_n 0, 1) := by decide +kernel
theorem dX12_perform_14 : decode cX12_perform 14 = .ok (.getfield 297, 3) := by decide +kernel
theorem dX12_perform_17 : decode cX12_perform 17 = .ok (.ifCond .ne 5, 3) := by decide +kernel
theorem dX12_perform_20 : decode cX12_perform 20 = .ok (.iconst (-1), 1) := by decide +kernel
theorem dX12_perform_21 : decode cX12_perform 21 = .ok (.ireturn, 1) := by decide +kernel
theorem dX12_perform_22 : decode cX12_perform 22 = .ok (.iconst 0, 1) := by decide +kernel
theorem dX12_perform_23 : decode cX12_perform 23 = .ok (.istore_n 2, 1) := by decide +kernel
theorem dX12_perform_24 : decode cX12_perform 24 = .ok (.iload_n 2, 1) := by decide +kernel
theorem dX12_perform_25 : decode cX12_perform 25 = .ok (.aload_n 0, 1) := by decide +kernel
theorem dX12_perform_26 : decode cX12_perform 26 = .ok (.getfield 58, 3) := by decide +kernel
theorem dX12_perform_29 : decode cX12_perform 29 = .ok (.iload_n 1, 1) := by decide +kernel
theorem dX12_perform_30 : decode cX12_perform 30 = .ok (.iaload, 1) := by decide +kernel
theorem dX12_perform_31 : decode cX12_perform 31 = .ok (.if_icmp .ge 49, 3) := by decide +kernel
theorem dX12_perform_34 : decode cX12_perform 34 = .ok (.aload_n 0, 1) := by decide +kernel
theorem dX12_perform_35 : decode cX12_perform 35 = .ok (.aload_n 0, 1) := by decide +kernel
theorem dX12_perform_36 : decode cX12_perform 36 = .ok (.getfield 61, 3) := by decide +kernel
theorem dX12_perform_39 : decode cX12_perform 39 = .ok (.iconst 3, 1) := by decide +kernel
theorem dX12_perform_40 : decode cX12_perform 40 = .ok (.bipush 16, 2) := by decide +kernel
theorem dX12_perform_42 : decode cX12_perform 42 = .ok (.iload_n 1, 1) := by decide +kernel
theorem dX12_perform_43 : decode cX12_perform 43 = .ok (.imul, 1) := by decide +kernel
theorem dX12_perform_44 : decode cX12_perform 44 = .ok (.iload_n 2, 1) := by decide +kernel
theorem dX12_perform_45 : decode cX12_perform 45 = .ok (.iadd, 1) := by decide +kernel
theorem dX12_perform_46 : decode cX12_perform 46 = .ok (.imul, 1) := by decide +kernel
theorem dX12_perform_47 : decode cX12_perform 47 = .ok (.invokevirtual 435, 3) := by decide +kernel
theorem dX12_perform_50 : decode cX12_perform 50 = .ok (.ifCond .eq 30, 3) := by decide +kernel
theorem dX12_perform_53 : decode cX12_perform 53 = .ok (.aload_n 0, 1) := by decide +kernel
theorem dX12_perform_54 : decode cX12_perform 54 = .ok (.invokevirtual 390, 3) := by decide +kernel
theorem dX12_perform_57 : decode cX12_perform 57 = .ok (.aload_n 0, 1) := by decide +kernel
theorem dX12_perform_58 : decode cX12_perform 58 = .ok (.aload_n 0, 1) := by decide +kernel
theorem dX12_perform_59 : decode cX12_perform 59 = .ok (.getfield 61, 3) := by decide +kernel
theorem dX12_perform_62 : decode cX12_perform 62 = .ok (.iconst 3, 1) := by decide +kernel
theorem dX12_perform_63 : decode cX12_perform 63 = .ok (.bipush 16, 2) := by decide +kernel
theorem dX12_perform_65 : decode cX12_perform 65 = .ok (.iload_n 1, 1) := by decide +kernel
theorem dX12_perform_66 : decode cX12_perform 66 = .ok (.imul, 1) := by decide +kernel
theorem dX12_perform_67 : decode cX12_perform 67 = .ok (.iload_n 2, 1) := by decide +kernel
theorem dX12_perform_68 : decode cX12_perform 68 = .ok (.iadd, 1) := by decide +kernel
theorem dX12_perform_69 : decode cX12_perform 69 = .ok (.imul, 1) := by decide +kernel
theorem dX12_perform_70 : decode cX12_perform 70 = .ok (.invokevirtual 438, 3) := by decide +kernel
theorem dX12_perform_73 : decode cX12_perform 73 = .ok (.istore_n 3, 1) := by decide +kernel
theorem dX12_perform_74 : decode cX12_perform 74 = .ok (.iinc 2 1, 3) := by decide +kernel
theorem dX12_perform_77 : decode cX12_perform 77 = .ok (.goto (-53), 3) := by decide +kernel
theorem dX12_perform_80 : decode cX12_perform 80 = .ok (.iload_n 2, 1) := by decide +kernel
theorem dX12_perform_81 : decode cX12_perform 81 = .ok (.ireturn, 1) := by decide +kernel
section
variable {g : GG} {p : Program} {l : Launch} {e : Env} {R : Room} {s : State} {m : MethodId} {args : Array Value} {below : List Frame} {meth : Method} {c : Code} {n0 z0 : Nat}
def f_X12_perform_24  : Nat → Nat → Int32 → Int32 → AH → Option (Int32 × AH)
  | 0, _, _, _, _ => none
  | n + 1, o0, x1, x2, h =>
  (gR [12] h o0 25).bind fun v1 =>
  (aI 0 h v1 x1).bind fun v3 =>
  if v3 ≤ x2 then
    some (x2, h)
  else
    (gR [12] h o0 32).bind fun v6 =>
    (isC [12] h o0).bind fun _ =>
    cN (f_X12_canStep o0 v6 (3 * ((16 * x1) + x2)) h) h fun v8 h9 =>
    if v8 = 0 then
      some (x2, h9)
    else
      (isC [12] h9 o0).bind fun _ =>
      cN (f_X12_remember o0 h9) h9 fun _ h15 =>
      (gR [12] h15 o0 32).bind fun v19 =>
      (isC [12] h15 o0).bind fun _ =>
      cN (f_X12_goStep o0 v19 (3 * ((16 * x1) + x2)) h15) h15 fun v21 h22 =>
      f_X12_perform_24  n o0 x1 (x2 + 1) h22
set_option maxHeartbeats 1000000 in
theorem w_X12_perform_24 (X : Cx g p s m args meth c cX12_perform 4 "TrapCornerModel") (hR : 95 ≤ R.frames ∧ 6080 ≤ R.locals) (hr : meth.sig.returnType = (some (.int))) {res : Int32 × AH} : ∀ (n : Nat) (o0 : Nat) (x1 : Int32) (x2 : Int32) (h : AH) (ls : Array Slot) (H : Heap) (locs : List Loc), f_X12_perform_24 n o0 x1 x2 h = some res → Iv g s n0 z0 h H locs 0 0 → lv_has ls 4 [(0, .ref (rfG g o0)), (1, .int x1), (2, .int x2)] → W p l e R s m args below meth c H locs 0 0 (MQ below (QG g (some (.int res.1)) res.2) args s 0 0 (AG g)) (F0 m 24 ls []) := by
  have hx := X.1
  have hb := X.2.1
  intro n
  induction n with
  | zero =>
    intro o0 x1 x2 h ls H locs hf
    rw [f_X12_perform_24.eq_1] at hf
    cases hf
  | succ n ih =>
    intro o0 x1 x2 h ls H locs hf I hl
    rw [f_X12_perform_24.eq_2] at hf
    refine lv_iload_n hx hb dX12_perform_24 rfl (lv_at hl 2 rfl) ?_
    refine lv_aload_n hx hb dX12_perform_25 rfl (lv_at hl 0 rfl) ?_
    obtain ⟨v1, e2, hf⟩ := Option.bind_eq_some_iff.mp hf
    refine r_gR X I e2 lk_TrapCornerModel_58 dX12_perform_26 ?_
    refine lv_iload_n hx hb dX12_perform_29 rfl (lv_at hl 1 rfl) ?_
    obtain ⟨v3, e4, hf⟩ := Option.bind_eq_some_iff.mp hf
    refine r_aI0 X I e4 dX12_perform_30 ?_
    refine lv_icmp_ge (tgt := 80) hx hb dX12_perform_31 (by decide) (fun c5 => ?_) (fun c5 => ?_)
    · rw [if_pos c5] at hf
      refine lv_iload_n hx hb dX12_perform_80 rfl (lv_at hl 2 rfl) ?_
      cases hf
      exact k_ri X I hr dX12_perform_81
    · rw [if_neg c5] at hf
      refine lv_aload_n hx hb dX12_perform_34 rfl (lv_at hl 0 rfl) ?_
      refine lv_aload_n hx hb dX12_perform_35 rfl (lv_at hl 0 rfl) ?_
      obtain ⟨v6, e7, hf⟩ := Option.bind_eq_some_iff.mp hf
      refine r_gR X I e7 lk_TrapCornerModel_61 dX12_perform_36 ?_
      refine lv_iconst (v := 3) hx hb dX12_perform_39 (by decide) ?_
      refine lv_bipush (v := 16) hx hb dX12_perform_40 (by decide) ?_
      refine lv_iload_n hx hb dX12_perform_42 rfl (lv_at hl 1 rfl) ?_
      refine lv_imul hx hb dX12_perform_43 ?_
      refine lv_iload_n hx hb dX12_perform_44 rfl (lv_at hl 2 rfl) ?_
      refine lv_iadd hx hb dX12_perform_45 ?_
      refine lv_imul hx hb dX12_perform_46 ?_
      obtain ⟨_, g12, hf⟩ := Option.bind_eq_some_iff.mp hf
      obtain ⟨v8, h9, e10, z11, hf⟩ := cN_spec hf
      refine k_Vi (As := [.ref (rfG g v6), .int (3 * ((16 * x1) + x2))]) (rest := []) X I (c_X12_canStep l g o0 v6 (3 * ((16 * x1) + x2)) e10) z11 g12 vk_TrapCornerModel_435 tw_1797 ⟨Nat.le_trans (by decide) hR.1, Nat.le_trans (by decide) hR.2⟩ ⟨Nat.zero_le _, Nat.zero_le _⟩ rfl hl.1 rfl (Nat.le_of_ble_eq_true rfl) dX12_perform_47 (fun H locs I => ?_)
      refine lv_if_eq (tgt := 80) hx hb dX12_perform_50 (by decide) (fun c13 => ?_) (fun c13 => ?_)
      · rw [if_pos c13] at hf
        refine lv_iload_n hx hb dX12_perform_80 rfl (lv_at hl 2 rfl) ?_
        cases hf
        exact k_ri X I hr dX12_perform_81
      · rw [if_neg c13] at hf
        refine lv_aload_n hx hb dX12_perform_53 rfl (lv_at hl 0 rfl) ?_
        obtain ⟨_, g18, hf⟩ := Option.bind_eq_some_iff.mp hf
        obtain ⟨⟨⟩, h15, e16, z17, hf⟩ := cN_spec hf
        refine k_Vv (As := []) (rest := []) X I (c_X12_remember l g o0 e16) z17 g18 vk_TrapCornerModel_390 tw_1668 ⟨Nat.le_trans (by decide) hR.1, Nat.le_trans (by decide) hR.2⟩ ⟨Nat.zero_le _, Nat.zero_le _⟩ rfl hl.1 rfl (Nat.le_of_ble_eq_true rfl) dX12_perform_54 (fun H locs I => ?_)
        refine lv_aload_n hx hb dX12_perform_57 rfl (lv_at hl 0 rfl) ?_
        refine lv_aload_n hx hb dX12_perform_58 rfl (lv_at hl 0 rfl) ?_
        obtain ⟨v19, e20, hf⟩ := Option.bind_eq_some_iff.mp hf
        refine r_gR X I e20 lk_TrapCornerModel_61 dX12_perform_59 ?_
        refine lv_iconst (v := 3) hx hb dX12_perform_62 (by decide) ?_
        refine lv_bipush (v := 16) hx hb dX12_perform_63 (by decide) ?_
        refine lv_iload_n hx hb dX12_perform_65 rfl (lv_at hl 1 rfl) ?_
        refine lv_imul hx hb dX12_perform_66 ?_
        refine lv_iload_n hx hb dX12_perform_67 rfl (lv_at hl 2 rfl) ?_
        refine lv_iadd hx hb dX12_perform_68 ?_
        refine lv_imul hx hb dX12_perform_69 ?_
        obtain ⟨_, g25, hf⟩ := Option.bind_eq_some_iff.mp hf
        obtain ⟨v21, h22, e23, z24, hf⟩ := cN_spec hf
        refine k_Vi (As := [.ref (rfG g v19), .int (3 * ((16 * x1) + x2))]) (rest := []) X I (c_X12_goStep l g o0 v19 (3 * ((16 * x1) + x2)) e23) z24 g25 vk_TrapCornerModel_438 tw_1801 ⟨Nat.le_trans (by decide) hR.1, Nat.le_trans (by decide) hR.2⟩ ⟨Nat.zero_le _, Nat.zero_le _⟩ rfl hl.1 rfl (Nat.le_of_ble_eq_true rfl) dX12_perform_70 (fun H locs I => ?_)
        refine lv_istore_n (lv' := [(3, .int v21), (0, .ref (rfG g o0)), (1, .int x1), (2, .int x2)]) hx hb dX12_perform_73 rfl hl (by decide) rfl (fun ls hl => ?_)
        refine lv_iinc (v := x2 + 1) (lv' := [(2, .int (x2 + 1)), (3, .int v21), (0, .ref (rfG g o0)), (1, .int x1)]) hx hb dX12_perform_74 hl (k := 3) rfl rfl (by decide) rfl (fun ls hl => ?_)
        refine lv_goto (tgt := 24) hx hb dX12_perform_77 (by decide) ?_
        exact ih o0 x1 (x2 + 1) h22 ls H locs hf I (lv_sub hl [2, 3, 0] rfl)
def f_X12_perform_0  (o0 : Nat) (x1 : Int32) (h : AH) : Option (Int32 × AH) :=
  (pV [12] h o0 0 (.int 0)).bind fun h1 =>
  (isC [12] h1 o0).bind fun _ =>
  cN (f_X12_isPlan o0 x1 h1) h1 fun v3 h4 =>
  if v3 = 0 then
    some ((-1), h4)
  else
    (gI [12] h4 o0 27).bind fun v9 =>
    if v9 = 0 then
      some ((-1), h4)
    else
      f_X12_perform_24 fu o0 x1 0 h4
set_option maxHeartbeats 1000000 in
theorem w_X12_perform_0 (X : Cx g p s m args meth c cX12_perform 4 "TrapCornerModel") (hR : 95 ≤ R.frames ∧ 6080 ≤ R.locals) (hr : meth.sig.returnType = (some (.int))) {res : Int32 × AH} : ∀ (o0 : Nat) (x1 : Int32) (h : AH) (ls : Array Slot) (H : Heap) (locs : List Loc), f_X12_perform_0 o0 x1 h = some res → Iv g s n0 z0 h H locs 0 0 → lv_has ls 4 [(0, .ref (rfG g o0)), (1, .int x1)] → W p l e R s m args below meth c H locs 0 0 (MQ below (QG g (some (.int res.1)) res.2) args s 0 0 (AG g)) (F0 m 0 ls []) := by
  have hx := X.1
  have hb := X.2.1
  intro o0 x1 h ls H locs hf I hl
  unfold f_X12_perform_0 at hf
  refine lv_aload_n hx hb dX12_perform_0 rfl (lv_at hl 0 rfl) ?_
  refine lv_iconst (v := 0) hx hb dX12_perform_1 (by decide) ?_
  obtain ⟨h1, e2, hf⟩ := Option.bind_eq_some_iff.mp hf
  refine r_pI X I e2 lp_TrapCornerModel_96 dX12_perform_2 (fun H locs I => ?_)
  refine lv_aload_n hx hb dX12_perform_5 rfl (lv_at hl 0 rfl) ?_
  refine lv_iload_n hx hb dX12_perform_6 rfl (lv_at hl 1 rfl) ?_
  obtain ⟨_, g7, hf⟩ := Option.bind_eq_some_iff.mp hf
  obtain ⟨v3, h4, e5, z6, hf⟩ := cN_spec hf
  refine k_Vi (As := [.int x1]) (rest := []) X I (c_X12_isPlan l g o0 x1 e5) z6 g7 vk_TrapCornerModel_431 tw_1785 ⟨Nat.le_trans (by decide) hR.1, Nat.le_trans (by decide) hR.2⟩ ⟨Nat.zero_le _, Nat.zero_le _⟩ rfl hl.1 rfl (Nat.le_of_ble_eq_true rfl) dX12_perform_7 (fun H locs I => ?_)
  refine lv_if_eq (tgt := 20) hx hb dX12_perform_10 (by decide) (fun c8 => ?_) (fun c8 => ?_)
  · rw [if_pos c8] at hf
    refine lv_iconst (v := (-1)) hx hb dX12_perform_20 (by decide) ?_
    cases hf
    exact k_ri X I hr dX12_perform_21
  · rw [if_neg c8] at hf
    refine lv_aload_n hx hb dX12_perform_13 rfl (lv_at hl 0 rfl) ?_
    obtain ⟨v9, e10, hf⟩ := Option.bind_eq_some_iff.mp hf
    refine r_gI X I e10 lk_TrapCornerModel_297 dX12_perform_14 ?_
    refine lv_if_ne (tgt := 22) hx hb dX12_perform_17 (by decide) (fun c11 => ?_) (fun c11 => ?_)
    · rw [if_neg c11] at hf
      refine lv_iconst (v := 0) hx hb dX12_perform_22 (by decide) ?_
      refine lv_istore_n (lv' := [(2, .int 0), (0, .ref (rfG g o0)), (1, .int x1)]) hx hb dX12_perform_23 rfl hl (by decide) rfl (fun ls hl => ?_)
      exact w_X12_perform_24 X hR hr fu o0 x1 0 h4 ls H locs hf I (lv_sub hl [1, 2, 0] rfl)
    · rw [if_pos c11] at hf
      refine lv_iconst (v := (-1)) hx hb dX12_perform_20 (by decide) ?_
      cases hf
      exact k_ri X I hr dX12_perform_21
def f_X12_perform (o0 : Nat) (x1 : Int32) (h : AH) : Option (Int32 × AH) := f_X12_perform_0 o0 x1 h
end
theorem c_X12_perform (l : Launch) (g : GG) (o0 : Nat) (x1 : Int32) {h : AH} {res : Int32 × AH} (hf : f_X12_perform o0 x1 h = some res) : CM l g yX12_perform cX12_perform 4 (some (.int)) 95 6080 0 0 [.ref (rfG g o0), .int x1] h (some (.int res.1)) res.2 :=
  k_body (by decide) (Nat.le_of_ble_eq_true rfl) (fun p e s m below meth c R ls hR hr X I hl => w_X12_perform_0 X ⟨Nat.le_of_eq hR.1.symm, Nat.le_of_eq hR.2.1.symm⟩ hr o0 x1 h ls s.heap [] hf I (lv_sub hl [0, 1] rfl))
/-! TrapCornerModel.pulled(II)I -/
theorem dX12_pulled_0 : decode cX12_pulled 0 = .ok (.aload_n 0, 1) := by decide +kernel
theorem dX12_pulled_1 : decode cX12_pulled 1 = .ok (.iconst 0, 1) := by decide +kernel
theorem dX12_pulled_2 : decode cX12_pulled 2 = .ok (.putfield 96, 3) := by decide +kernel
theorem dX12_pulled_5 : decode cX12_pulled 5 = .ok (.aload_n 0, 1) := by decide +kernel
theorem dX12_pulled_6 : decode cX12_pulled 6 = .ok (.iload_n 1, 1) := by decide +kernel
theorem dX12_pulled_7 : decode cX12_pulled 7 = .ok (.invokevirtual 383, 3) := by decide +kernel
theorem dX12_pulled_10 : decode cX12_pulled 10 = .ok (.ifCond .eq 24, 3) := by decide +kernel
theorem dX12_pulled_13 : decode cX12_pulled 13 = .ok (.aload_n 0, 1) := by decide +kernel
theorem dX12_pulled_14 : decode cX12_pulled 14 = .ok (.iload_n 2, 1) := by decide +kernel
theorem dX12_pulled_15 : decode cX12_pulled 15 = .ok (.invokevirtual 380, 3) := by decide +kernel
theorem dX12_pulled_18 : decode cX12_pulled 18 = .ok (.ifCond .eq 16, 3) := by decide +kernel
theorem dX12_pulled_21 : decode cX12_pulled 21 = .ok (.aload_n 0, 1) := by decide +kernel
theorem dX12_pulled_22 : decode cX12_pulled 22 = .ok (.aload_n 0, 1) := by decide +kernel
theorem dX12_pulled_23 : decode cX12_pulled 23 = .ok (.getfield 61, 3) := by decide +kernel
theorem dX12_pulled_26 : decode cX12_pulled 26 = .ok (.iload_n 1, 1) := by decide +kernel
theorem dX12_pulled_27 : decode cX12_pulled 27 = .ok (.iload_n 2, 1) := by decide +kernel
theorem dX12_pulled_28 : decode cX12_pulled 28 = .ok (.invokevirtual 338, 3) := by decide +kernel
theorem dX12_pulled_31 : decode cX12_pulled 31 = .ok (.goto 4, 3) := by decide +kernel
theorem dX12_pulled_34 : decode cX12_pulled 34 = .ok (.iconst (-1), 1) := by decide +kernel
theorem dX12_pulled_35 : decode cX12_pulled 35 = .ok (.ireturn, 1) := by decide +kernel
section
variable {g : GG} {p : Program} {l : Launch} {e : Env} {R : Room} {s : State} {m : MethodId} {args : Array Value} {below : List Frame} {meth : Method} {c : Code} {n0 z0 : Nat}
def f_X12_pulled_0  (o0 : Nat) (x1 : Int32) (x2 : Int32) (h : AH) : Option (Int32 × AH) :=
  (pV [12] h o0 0 (.int 0)).bind fun h1 =>
  (isC [12] h1 o0).bind fun _ =>
  cN (f_X12_isPerson o0 x1 h1) h1 fun v3 h4 =>
  if v3 = 0 then
    some ((-1), h4)
  else
    (isC [12] h4 o0).bind fun _ =>
    cN (f_X12_isCorner o0 x2 h4) h4 fun v9 h10 =>
    if v9 = 0 then
      some ((-1), h10)
    else
      (gR [12] h10 o0 32).bind fun v15 =>
      (isC [12] h10 o0).bind fun _ =>
      cN (f_X12_pull o0 v15 x1 x2 h10) h10 fun v17 h18 =>
      some (v17, h18)
set_option maxHeartbeats 1000000 in
theorem w_X12_pulled_0 (X : Cx g p s m args meth c cX12_pulled 3 "TrapCornerModel") (hR : 91 ≤ R.frames ∧ 5824 ≤ R.locals) (hr : meth.sig.returnType = (some (.int))) {res : Int32 × AH} : ∀ (o0 : Nat) (x1 : Int32) (x2 : Int32) (h : AH) (ls : Array Slot) (H : Heap) (locs : List Loc), f_X12_pulled_0 o0 x1 x2 h = some res → Iv g s n0 z0 h H locs 0 0 → lv_has ls 3 [(0, .ref (rfG g o0)), (1, .int x1), (2, .int x2)] → W p l e R s m args below meth c H locs 0 0 (MQ below (QG g (some (.int res.1)) res.2) args s 0 0 (AG g)) (F0 m 0 ls []) := by
  have hx := X.1
  have hb := X.2.1
  intro o0 x1 x2 h ls H locs hf I hl
  unfold f_X12_pulled_0 at hf
  refine lv_aload_n hx hb dX12_pulled_0 rfl (lv_at hl 0 rfl) ?_
  refine lv_iconst (v := 0) hx hb dX12_pulled_1 (by decide) ?_
  obtain ⟨h1, e2, hf⟩ := Option.bind_eq_some_iff.mp hf
  refine r_pI X I e2 lp_TrapCornerModel_96 dX12_pulled_2 (fun H locs I => ?_)
  refine lv_aload_n hx hb dX12_pulled_5 rfl (lv_at hl 0 rfl) ?_
  refine lv_iload_n hx hb dX12_pulled_6 rfl (lv_at hl 1 rfl) ?_
  obtain ⟨_, g7, hf⟩ := Option.bind_eq_some_iff.mp hf
  obtain ⟨v3, h4, e5, z6, hf⟩ := cN_spec hf
  refine k_Vi (As := [.int x1]) (rest := []) X I (c_X12_isPerson l g o0 x1 e5) z6 g7 vk_TrapCornerModel_383 tw_1643 ⟨Nat.le_trans (by decide) hR.1, Nat.le_trans (by decide) hR.2⟩ ⟨Nat.zero_le _, Nat.zero_le _⟩ rfl hl.1 rfl (Nat.le_of_ble_eq_true rfl) dX12_pulled_7 (fun H locs I => ?_)
  refine lv_if_eq (tgt := 34) hx hb dX12_pulled_10 (by decide) (fun c8 => ?_) (fun c8 => ?_)
  · rw [if_pos c8] at hf
    refine lv_iconst (v := (-1)) hx hb dX12_pulled_34 (by decide) ?_
    cases hf
    exact k_ri X I hr dX12_pulled_35
  · rw [if_neg c8] at hf
    refine lv_aload_n hx hb dX12_pulled_13 rfl (lv_at hl 0 rfl) ?_
    refine lv_iload_n hx hb dX12_pulled_14 rfl (lv_at hl 2 rfl) ?_
    obtain ⟨_, g13, hf⟩ := Option.bind_eq_some_iff.mp hf
    obtain ⟨v9, h10, e11, z12, hf⟩ := cN_spec hf
    refine k_Vi (As := [.int x2]) (rest := []) X I (c_X12_isCorner l g o0 x2 e11) z12 g13 vk_TrapCornerModel_380 tw_1635 ⟨Nat.le_trans (by decide) hR.1, Nat.le_trans (by decide) hR.2⟩ ⟨Nat.zero_le _, Nat.zero_le _⟩ rfl hl.1 rfl (Nat.le_of_ble_eq_true rfl) dX12_pulled_15 (fun H locs I => ?_)
    refine lv_if_eq (tgt := 34) hx hb dX12_pulled_18 (by decide) (fun c14 => ?_) (fun c14 => ?_)
    · rw [if_pos c14] at hf
      refine lv_iconst (v := (-1)) hx hb dX12_pulled_34 (by decide) ?_
      cases hf
      exact k_ri X I hr dX12_pulled_35
    · rw [if_neg c14] at hf
      refine lv_aload_n hx hb dX12_pulled_21 rfl (lv_at hl 0 rfl) ?_
      refine lv_aload_n hx hb dX12_pulled_22 rfl (lv_at hl 0 rfl) ?_
      obtain ⟨v15, e16, hf⟩ := Option.bind_eq_some_iff.mp hf
      refine r_gR X I e16 lk_TrapCornerModel_61 dX12_pulled_23 ?_
      refine lv_iload_n hx hb dX12_pulled_26 rfl (lv_at hl 1 rfl) ?_
      refine lv_iload_n hx hb dX12_pulled_27 rfl (lv_at hl 2 rfl) ?_
      obtain ⟨_, g21, hf⟩ := Option.bind_eq_some_iff.mp hf
      obtain ⟨v17, h18, e19, z20, hf⟩ := cN_spec hf
      refine k_Vi (As := [.ref (rfG g v15), .int x1, .int x2]) (rest := []) X I (c_X12_pull l g o0 v15 x1 x2 e19) z20 g21 vk_TrapCornerModel_338 tw_1696 ⟨Nat.le_trans (by decide) hR.1, Nat.le_trans (by decide) hR.2⟩ ⟨Nat.zero_le _, Nat.zero_le _⟩ rfl hl.1 rfl (Nat.le_of_ble_eq_true rfl) dX12_pulled_28 (fun H locs I => ?_)
      refine lv_goto (tgt := 35) hx hb dX12_pulled_31 (by decide) ?_
      cases hf
      exact k_ri X I hr dX12_pulled_35
def f_X12_pulled (o0 : Nat) (x1 : Int32) (x2 : Int32) (h : AH) : Option (Int32 × AH) := f_X12_pulled_0 o0 x1 x2 h
end
theorem c_X12_pulled (l : Launch) (g : GG) (o0 : Nat) (x1 : Int32) (x2 : Int32) {h : AH} {res : Int32 × AH} (hf : f_X12_pulled o0 x1 x2 h = some res) : CM l g yX12_pulled cX12_pulled 3 (some (.int)) 91 5824 0 0 [.ref (rfG g o0), .int x1, .int x2] h (some (.int res.1)) res.2 :=
  k_body (by decide) (Nat.le_of_ble_eq_true rfl) (fun p e s m below meth c R ls hR hr X I hl => w_X12_pulled_0 X ⟨Nat.le_of_eq hR.1.symm, Nat.le_of_eq hR.2.1.symm⟩ hr o0 x1 x2 h ls s.heap [] hf I (lv_sub hl [0, 1, 2] rfl))
/-! TrapCornerModel.caught(I)I -/
theorem dX12_caught_0 : decode cX12_caught 0 = .ok (.aload_n 0, 1) := by decide +kernel
theorem dX12_caught_1 : decode cX12_caught 1 = .ok (.iconst 0, 1) := by decide +kernel
theorem dX12_caught_2 : decode cX12_caught 2 = .ok (.putfield 96, 3) := by decide +kernel
theorem dX12_caught_5 : decode cX12_caught 5 = .ok (.aload_n 0, 1) := by decide +kernel
theorem dX12_caught_6 : decode cX12_caught 6 = .ok (.iload_n 1, 1) := by decide +kernel
theorem dX12_caught_7 : decode cX12_caught 7 = .ok (.invokevirtual 383, 3) := by decide +kernel
theorem dX12_caught_10 : decode cX12_caught 10 = .ok (.ifCond .ne 5, 3) := by decide +kernel
theorem dX12_caught_13 : decode cX12_caught 13 = .ok (.iconst (-1), 1) := by decide +kernel
theorem dX12_caught_14 : decode cX12_caught 14 = .ok (.ireturn, 1) := by decide +kernel
theorem dX12_caught_15 : decode cX12_caught 15 = .ok (.aload_n 0, 1) := by decide +kernel
theorem dX12_caught_16 : decode cX12_caught 16 = .ok (.invokevirtual 442, 3) := by decide +kernel
theorem dX12_caught_19 : decode cX12_caught 19 = .ok (.istore_n 2, 1) := by decide +kernel
theorem dX12_caught_20 : decode cX12_caught 20 = .ok (.aload_n 0, 1) := by decide +kernel
theorem dX12_caught_21 : decode cX12_caught 21 = .ok (.getfield 81, 3) := by decide +kernel
theorem dX12_caught_24 : decode cX12_caught 24 = .ok (.iload_n 1, 1) := by decide +kernel
theorem dX12_caught_25 : decode cX12_caught 25 = .ok (.iaload, 1) := by decide +kernel
theorem dX12_caught_26 : decode cX12_caught 26 = .ok (.ireturn, 1) := by decide +kernel
theorem vk_TrapCornerModel_442 : VK "TrapCornerModel" 442 [12] yX12_tries 0 := ⟨tw_1814, tw_1816, tw_13, ⟨by decide, by decide⟩, by decide +kernel, fun ci hci => by
  have hci := List.mem_singleton.mp hci
  subst hci
  exact ⟨_, rfl, tp_98⟩⟩
section
variable {g : GG} {p : Program} {l : Launch} {e : Env} {R : Room} {s : State} {m : MethodId} {args : Array Value} {below : List Frame} {meth : Method} {c : Code} {n0 z0 : Nat}
def f_X12_caught_0  (o0 : Nat) (x1 : Int32) (h : AH) : Option (Int32 × AH) :=
  (pV [12] h o0 0 (.int 0)).bind fun h1 =>
  (isC [12] h1 o0).bind fun _ =>
  cN (f_X12_isPerson o0 x1 h1) h1 fun v3 h4 =>
  if v3 = 0 then
    some ((-1), h4)
  else
    (isC [12] h4 o0).bind fun _ =>
    cN (f_X12_tries o0 h4) h4 fun v9 h10 =>
    (gR [12] h10 o0 38).bind fun v14 =>
    (aI 0 h10 v14 x1).bind fun v16 =>
    some (v16, h10)
set_option maxHeartbeats 1000000 in
theorem w_X12_caught_0 (X : Cx g p s m args meth c cX12_caught 3 "TrapCornerModel") (hR : 95 ≤ R.frames ∧ 6080 ≤ R.locals) (hr : meth.sig.returnType = (some (.int))) {res : Int32 × AH} : ∀ (o0 : Nat) (x1 : Int32) (h : AH) (ls : Array Slot) (H : Heap) (locs : List Loc), f_X12_caught_0 o0 x1 h = some res → Iv g s n0 z0 h H locs 0 0 → lv_has ls 3 [(0, .ref (rfG g o0)), (1, .int x1)] → W p l e R s m args below meth c H locs 0 0 (MQ below (QG g (some (.int res.1)) res.2) args s 0 0 (AG g)) (F0 m 0 ls []) := by
  have hx := X.1
  have hb := X.2.1
  intro o0 x1 h ls H locs hf I hl
  unfold f_X12_caught_0 at hf
  refine lv_aload_n hx hb dX12_caught_0 rfl (lv_at hl 0 rfl) ?_
  refine lv_iconst (v := 0) hx hb dX12_caught_1 (by decide) ?_
  obtain ⟨h1, e2, hf⟩ := Option.bind_eq_some_iff.mp hf
  refine r_pI X I e2 lp_TrapCornerModel_96 dX12_caught_2 (fun H locs I => ?_)
  refine lv_aload_n hx hb dX12_caught_5 rfl (lv_at hl 0 rfl) ?_
  refine lv_iload_n hx hb dX12_caught_6 rfl (lv_at hl 1 rfl) ?_
  obtain ⟨_, g7, hf⟩ := Option.bind_eq_some_iff.mp hf
  obtain ⟨v3, h4, e5, z6, hf⟩ := cN_spec hf
  refine k_Vi (As := [.int x1]) (rest := []) X I (c_X12_isPerson l g o0 x1 e5) z6 g7 vk_TrapCornerModel_383 tw_1643 ⟨Nat.le_trans (by decide) hR.1, Nat.le_trans (by decide) hR.2⟩ ⟨Nat.zero_le _, Nat.zero_le _⟩ rfl hl.1 rfl (Nat.le_of_ble_eq_true rfl) dX12_caught_7 (fun H locs I => ?_)
  refine lv_if_ne (tgt := 15) hx hb dX12_caught_10 (by decide) (fun c8 => ?_) (fun c8 => ?_)
  · rw [if_neg c8] at hf
    refine lv_aload_n hx hb dX12_caught_15 rfl (lv_at hl 0 rfl) ?_
    obtain ⟨_, g13, hf⟩ := Option.bind_eq_some_iff.mp hf
    obtain ⟨v9, h10, e11, z12, hf⟩ := cN_spec hf
    refine k_Vi (As := []) (rest := []) X I (c_X12_tries l g o0 e11) z12 g13 vk_TrapCornerModel_442 tw_1817 ⟨Nat.le_trans (by decide) hR.1, Nat.le_trans (by decide) hR.2⟩ ⟨Nat.zero_le _, Nat.zero_le _⟩ rfl hl.1 rfl (Nat.le_of_ble_eq_true rfl) dX12_caught_16 (fun H locs I => ?_)
    refine lv_istore_n (lv' := [(2, .int v9), (0, .ref (rfG g o0)), (1, .int x1)]) hx hb dX12_caught_19 rfl hl (by decide) rfl (fun ls hl => ?_)
    refine lv_aload_n hx hb dX12_caught_20 rfl (lv_at hl 1 rfl) ?_
    obtain ⟨v14, e15, hf⟩ := Option.bind_eq_some_iff.mp hf
    refine r_gR X I e15 lk_TrapCornerModel_81 dX12_caught_21 ?_
    refine lv_iload_n hx hb dX12_caught_24 rfl (lv_at hl 2 rfl) ?_
    obtain ⟨v16, e17, hf⟩ := Option.bind_eq_some_iff.mp hf
    refine r_aI0 X I e17 dX12_caught_25 ?_
    cases hf
    exact k_ri X I hr dX12_caught_26
  · rw [if_pos c8] at hf
    refine lv_iconst (v := (-1)) hx hb dX12_caught_13 (by decide) ?_
    cases hf
    exact k_ri X I hr dX12_caught_14
def f_X12_caught (o0 : Nat) (x1 : Int32) (h : AH) : Option (Int32 × AH) := f_X12_caught_0 o0 x1 h
end
theorem c_X12_caught (l : Launch) (g : GG) (o0 : Nat) (x1 : Int32) {h : AH} {res : Int32 × AH} (hf : f_X12_caught o0 x1 h = some res) : CM l g yX12_caught cX12_caught 3 (some (.int)) 95 6080 0 0 [.ref (rfG g o0), .int x1] h (some (.int res.1)) res.2 :=
  k_body (by decide) (Nat.le_of_ble_eq_true rfl) (fun p e s m below meth c R ls hR hr X I hl => w_X12_caught_0 X ⟨Nat.le_of_eq hR.1.symm, Nat.le_of_eq hR.2.1.symm⟩ hr o0 x1 h ls s.heap [] hf I (lv_sub hl [0, 1] rfl))
/-! TrapCornerModel.baits(II)I -/
theorem dX12_baits_0 : decode cX12_baits 0 = .ok (.aload_n 0, 1) := by decide +kernel
theorem dX12_baits_1 : decode cX12_baits 1 = .ok (.iconst 0, 1) := by decide +kernel
theorem dX12_baits_2 : decode cX12_baits 2 = .ok (.putfield 96, 3) := by decide +kernel
theorem dX12_baits_5 : decode cX12_baits 5 = .ok (.aload_n 0, 1) := by decide +kernel
theorem dX12_baits_6 : decode cX12_baits 6 = .ok (.getfield 297, 3) := by decide +kernel
theorem dX12_baits_9 : decode cX12_baits 9 = .ok (.ifCond .eq 31, 3) := by decide +kernel
theorem dX12_baits_12 : decode cX12_baits 12 = .ok (.iload_n 1, 1) := by decide +kernel
theorem dX12_baits_13 : decode cX12_baits 13 = .ok (.i2l, 1) := by decide +kernel
theorem dX12_baits_14 : decode cX12_baits 14 = .ok (.lconst 0, 1) := by decide +kernel
theorem dX12_baits_15 : decode cX12_baits 15 = .ok (.iconst 1, 1) := by decide +kernel
theorem dX12_baits_16 : decode cX12_baits 16 = .ok (.aload_n 0, 1) := by decide +kernel
theorem dX12_baits_17 : decode cX12_baits 17 = .ok (.getfield 297, 3) := by decide +kernel
theorem dX12_baits_20 : decode cX12_baits 20 = .ok (.ishl, 1) := by decide +kernel
theorem dX12_baits_21 : decode cX12_baits 21 = .ok (.iconst 1, 1) := by decide +kernel
theorem dX12_baits_22 : decode cX12_baits 22 = .ok (.isub, 1) := by decide +kernel
theorem dX12_baits_23 : decode cX12_baits 23 = .ok (.i2l, 1) := by decide +kernel
theorem dX12_baits_24 : decode cX12_baits 24 = .ok (.invokestatic 217, 3) := by decide +kernel
theorem dX12_baits_27 : decode cX12_baits 27 = .ok (.ifCond .eq 13, 3) := by decide +kernel
theorem dX12_baits_30 : decode cX12_baits 30 = .ok (.iload_n 2, 1) := by decide +kernel
theorem dX12_baits_31 : decode cX12_baits 31 = .ok (.i2l, 1) := by decide +kernel
theorem dX12_baits_32 : decode cX12_baits 32 = .ok (.lconst 0, 1) := by decide +kernel
theorem dX12_baits_33 : decode cX12_baits 33 = .ok (.lconst 1, 1) := by decide +kernel
theorem dX12_baits_34 : decode cX12_baits 34 = .ok (.invokestatic 217, 3) := by decide +kernel
theorem dX12_baits_37 : decode cX12_baits 37 = .ok (.ifCond .ne 5, 3) := by decide +kernel
theorem dX12_baits_40 : decode cX12_baits 40 = .ok (.iconst (-1), 1) := by decide +kernel
theorem dX12_baits_41 : decode cX12_baits 41 = .ok (.ireturn, 1) := by decide +kernel
theorem dX12_baits_42 : decode cX12_baits 42 = .ok (.iconst (-1), 1) := by decide +kernel
theorem dX12_baits_43 : decode cX12_baits 43 = .ok (.istore_n 3, 1) := by decide +kernel
theorem dX12_baits_44 : decode cX12_baits 44 = .ok (.iconst 0, 1) := by decide +kernel
theorem dX12_baits_45 : decode cX12_baits 45 = .ok (.istore 4, 2) := by decide +kernel
theorem dX12_baits_47 : decode cX12_baits 47 = .ok (.iconst 0, 1) := by decide +kernel
theorem dX12_baits_48 : decode cX12_baits 48 = .ok (.istore 5, 2) := by decide +kernel
theorem dX12_baits_50 : decode cX12_baits 50 = .ok (.iconst 0, 1) := by decide +kernel
theorem dX12_baits_51 : decode cX12_baits 51 = .ok (.istore 6, 2) := by decide +kernel
theorem dX12_baits_53 : decode cX12_baits 53 = .ok (.iload 6, 2) := by decide +kernel
theorem dX12_baits_55 : decode cX12_baits 55 = .ok (.iconst 1, 1) := by decide +kernel
theorem dX12_baits_56 : decode cX12_baits 56 = .ok (.iconst 2, 1) := by decide +kernel
theorem dX12_baits_57 : decode cX12_baits 57 = .ok (.aload_n 0, 1) := by decide +kernel
theorem dX12_baits_58 : decode cX12_baits 58 = .ok (.getfield 294, 3) := by decide +kernel
theorem dX12_baits_61 : decode cX12_baits 61 = .ok (.imul, 1) := by decide +kernel
theorem dX12_baits_62 : decode cX12_baits 62 = .ok (.ishl, 1) := by decide +kernel
theorem dX12_baits_63 : decode cX12_baits 63 = .ok (.if_icmp .ge 173, 3) := by decide +kernel
theorem dX12_baits_66 : decode cX12_baits 66 = .ok (.aload_n 0, 1) := by decide +kernel
theorem dX12_baits_67 : decode cX12_baits 67 = .ok (.getfield 61, 3) := by decide +kernel
theorem dX12_baits_70 : decode cX12_baits 70 = .ok (.aload_n 0, 1) := by decide +kernel
theorem dX12_baits_71 : decode cX12_baits 71 = .ok (.getfield 64, 3) := by decide +kernel
theorem dX12_baits_74 : decode cX12_baits 74 = .ok (.invokestatic 372, 3) := by decide +kernel
theorem dX12_baits_77 : decode cX12_baits 77 = .ok (.iconst 0, 1) := by decide +kernel
theorem dX12_baits_78 : decode cX12_baits 78 = .ok (.istore 7, 2) := by decide +kernel
theorem dX12_baits_80 : decode cX12_baits 80 = .ok (.iconst 0, 1) := by decide +kernel
theorem dX12_baits_81 : decode cX12_baits 81 = .ok (.istore 8, 2) := by decide +kernel
theorem dX12_baits_83 : decode cX12_baits 83 = .ok (.iconst 0, 1) := by decide +kernel
theorem dX12_baits_84 : decode cX12_baits 84 = .ok (.istore 9, 2) := by decide +kernel
theorem dX12_baits_86 : decode cX12_baits 86 = .ok (.iload 9, 2) := by decide +kernel
theorem dX12_baits_88 : decode cX12_baits 88 = .ok (.aload_n 0, 1) := by decide +kernel
theorem dX12_baits_89 : decode cX12_baits 89 = .ok (.getfield 294, 3) := by decide +kernel
theorem dX12_baits_92 : decode cX12_baits 92 = .ok (.if_icmp .ge 65, 3) := by decide +kernel
theorem dX12_baits_95 : decode cX12_baits 95 = .ok (.iload 6, 2) := by decide +kernel
theorem dX12_baits_97 : decode cX12_baits 97 = .ok (.iconst 2, 1) := by decide +kernel
theorem dX12_baits_98 : decode cX12_baits 98 = .ok (.aload_n 0, 1) := by decide +kernel
theorem dX12_baits_99 : decode cX12_baits 99 = .ok (.getfield 294, 3) := by decide +kernel
theorem dX12_baits_102 : decode cX12_baits 102 = .ok (.iconst 1, 1) := by decide +kernel
theorem dX12_baits_103 : decode cX12_baits 103 = .ok (.isub, 1) := by decide +kernel
theorem dX12_baits_104 : decode cX12_baits 104 = .ok (.iload 9, 2) := by decide +kernel
theorem dX12_baits_106 : decode cX12_baits 106 = .ok (.isub, 1) := by decide +kernel
theorem dX12_baits_107 : decode cX12_baits 107 = .ok (.imul, 1) := by decide +kernel
theorem dX12_baits_108 : decode cX12_baits 108 = .ok (.ishr, 1) := by decide +kernel
theorem dX12_baits_109 : decode cX12_baits 109 = .ok (.iconst 3, 1) := by decide +kernel
theorem dX12_baits_110 : decode cX12_baits 110 = .ok (.iand, 1) := by decide +kernel
theorem dX12_baits_111 : decode cX12_baits 111 = .ok (.istore 10, 2) := by decide +kernel
theorem dX12_baits_113 : decode cX12_baits 113 = .ok (.aload_n 0, 1) := by decide +kernel
theorem dX12_baits_114 : decode cX12_baits 114 = .ok (.getfield 64, 3) := by decide +kernel
theorem dX12_baits_117 : decode cX12_baits 117 = .ok (.iconst 2, 1) := by decide +kernel
theorem dX12_baits_118 : decode cX12_baits 118 = .ok (.iload 9, 2) := by decide +kernel
theorem dX12_baits_120 : decode cX12_baits 120 = .ok (.imul, 1) := by decide +kernel
theorem dX12_baits_121 : decode cX12_baits 121 = .ok (.iconst 0, 1) := by decide +kernel
theorem dX12_baits_122 : decode cX12_baits 122 = .ok (.iadd, 1) := by decide +kernel
theorem dX12_baits_123 : decode cX12_baits 123 = .ok (.iload 10, 2) := by decide +kernel
theorem dX12_baits_125 : decode cX12_baits 125 = .ok (.iastore, 1) := by decide +kernel
theorem dX12_baits_126 : decode cX12_baits 126 = .ok (.bipush 10, 2) := by decide +kernel
theorem dX12_baits_128 : decode cX12_baits 128 = .ok (.iload 7, 2) := by decide +kernel
theorem dX12_baits_130 : decode cX12_baits 130 = .ok (.imul, 1) := by decide +kernel
theorem dX12_baits_131 : decode cX12_baits 131 = .ok (.iload 10, 2) := by decide +kernel
theorem dX12_baits_133 : decode cX12_baits 133 = .ok (.iadd, 1) := by decide +kernel
theorem dX12_baits_134 : decode cX12_baits 134 = .ok (.istore 7, 2) := by decide +kernel
theorem dX12_baits_136 : decode cX12_baits 136 = .ok (.iload 8, 2) := by decide +kernel
theorem dX12_baits_138 : decode cX12_baits 138 = .ok (.iload 10, 2) := by decide +kernel
theorem dX12_baits_140 : decode cX12_baits 140 = .ok (.ifCond .le 7, 3) := by decide +kernel
theorem dX12_baits_143 : decode cX12_baits 143 = .ok (.iconst 1, 1) := by decide +kernel
theorem dX12_baits_144 : decode cX12_baits 144 = .ok (.goto 4, 3) := by decide +kernel
theorem dX12_baits_147 : decode cX12_baits 147 = .ok (.iconst 0, 1) := by decide +kernel
theorem dX12_baits_148 : decode cX12_baits 148 = .ok (.iadd, 1) := by decide +kernel
theorem dX12_baits_149 : decode cX12_baits 149 = .ok (.istore 8, 2) := by decide +kernel
theorem dX12_baits_151 : decode cX12_baits 151 = .ok (.iinc 9 1, 3) := by decide +kernel
theorem dX12_baits_154 : decode cX12_baits 154 = .ok (.goto (-68), 3) := by decide +kernel
theorem dX12_baits_157 : decode cX12_baits 157 = .ok (.aload_n 0, 1) := by decide +kernel
theorem dX12_baits_158 : decode cX12_baits 158 = .ok (.aload_n 0, 1) := by decide +kernel
theorem dX12_baits_159 : decode cX12_baits 159 = .ok (.getfield 64, 3) := by decide +kernel
theorem dX12_baits_162 : decode cX12_baits 162 = .ok (.invokevirtual 376, 3) := by decide +kernel
theorem dX12_baits_165 : decode cX12_baits 165 = .ok (.istore 9, 2) := by decide +kernel
theorem dX12_baits_167 : decode cX12_baits 167 = .ok (.iload_n 1, 1) := by decide +kernel
theorem dX12_baits_168 : decode cX12_baits 168 = .ok (.iload 9, 2) := by decide +kernel
theorem dX12_baits_170 : decode cX12_baits 170 = .ok (.iconst (-1), 1) := by decide +kernel
theorem dX12_baits_171 : decode cX12_baits 171 = .ok (.ixor, 1) := by decide +kernel
theorem dX12_baits_172 : decode cX12_baits 172 = .ok (.iand, 1) := by decide +kernel
theorem dX12_baits_173 : decode cX12_baits 173 = .ok (.ifCond .eq 6, 3) := by decide +kernel
theorem dX12_baits_176 : decode cX12_baits 176 = .ok (.goto 54, 3) := by decide +kernel
theorem dX12_baits_179 : decode cX12_baits 179 = .ok (.iload 9, 2) := by decide +kernel
theorem dX12_baits_181 : decode cX12_baits 181 = .ok (.iload_n 1, 1) := by decide +kernel
theorem dX12_baits_182 : decode cX12_baits 182 = .ok (.iconst (-1), 1) := by decide +kernel
theorem dX12_baits_183 : decode cX12_baits 183 = .ok (.ixor, 1) := by decide +kernel
theorem dX12_baits_184 : decode cX12_baits 184 = .ok (.iand, 1) := by decide +kernel
theorem dX12_baits_185 : decode cX12_baits 185 = .ok (.invokestatic 393, 3) := by decide +kernel
theorem dX12_baits_188 : decode cX12_baits 188 = .ok (.istore 10, 2) := by decide +kernel
theorem dX12_baits_190 : decode cX12_baits 190 = .ok (.iload_n 3, 1) := by decide +kernel
theorem dX12_baits_191 : decode cX12_baits 191 = .ok (.iconst (-1), 1) := by decide +kernel
theorem dX12_baits_192 : decode cX12_baits 192 = .ok (.if_icmp .eq 27, 3) := by decide +kernel
theorem dX12_baits_195 : decode cX12_baits 195 = .ok (.iload 10, 2) := by decide +kernel
theorem dX12_baits_197 : decode cX12_baits 197 = .ok (.iload 4, 2) := by decide +kernel
theorem dX12_baits_199 : decode cX12_baits 199 = .ok (.if_icmp .gt 31, 3) := by decide +kernel
theorem dX12_baits_202 : decode cX12_baits 202 = .ok (.iload 10, 2) := by decide +kernel
theorem dX12_baits_204 : decode cX12_baits 204 = .ok (.iload 4, 2) := by decide +kernel
theorem dX12_baits_206 : decode cX12_baits 206 = .ok (.if_icmp .ne 13, 3) := by decide +kernel
theorem dX12_baits_209 : decode cX12_baits 209 = .ok (.iload 8, 2) := by decide +kernel
theorem dX12_baits_211 : decode cX12_baits 211 = .ok (.iload 5, 2) := by decide +kernel
theorem dX12_baits_213 : decode cX12_baits 213 = .ok (.if_icmp .lt 6, 3) := by decide +kernel
theorem dX12_baits_216 : decode cX12_baits 216 = .ok (.goto 14, 3) := by decide +kernel
theorem dX12_baits_219 : decode cX12_baits 219 = .ok (.iload 7, 2) := by decide +kernel
theorem dX12_baits_221 : decode cX12_baits 221 = .ok (.istore_n 3, 1) := by decide +kernel
theorem dX12_baits_222 : decode cX12_baits 222 = .ok (.iload 10, 2) := by decide +kernel
theorem dX12_baits_224 : decode cX12_baits 224 = .ok (.istore 4, 2) := by decide +kernel
theorem dX12_baits_226 : decode cX12_baits 226 = .ok (.iload 8, 2) := by decide +kernel
theorem dX12_baits_228 : decode cX12_baits 228 = .ok (.istore 5, 2) := by decide +kernel
theorem dX12_baits_230 : decode cX12_baits 230 = .ok (.iinc 6 1, 3) := by decide +kernel
theorem dX12_baits_233 : decode cX12_baits 233 = .ok (.goto (-180), 3) := by decide +kernel
theorem dX12_baits_236 : decode cX12_baits 236 = .ok (.iload_n 3, 1) := by decide +kernel
theorem dX12_baits_237 : decode cX12_baits 237 = .ok (.iconst (-1), 1) := by decide +kernel
theorem dX12_baits_238 : decode cX12_baits 238 = .ok (.if_icmp .eq 7, 3) := by decide +kernel
theorem dX12_baits_241 : decode cX12_baits 241 = .ok (.iload_n 2, 1) := by decide +kernel
theorem dX12_baits_242 : decode cX12_baits 242 = .ok (.ifCond .ne 7, 3) := by decide +kernel
theorem dX12_baits_245 : decode cX12_baits 245 = .ok (.iload_n 3, 1) := by decide +kernel
theorem dX12_baits_246 : decode cX12_baits 246 = .ok (.goto 5, 3) := by decide +kernel
theorem dX12_baits_249 : decode cX12_baits 249 = .ok (.iload 4, 2) := by decide +kernel
theorem dX12_baits_251 : decode cX12_baits 251 = .ok (.ireturn, 1) := by decide +kernel
section
variable {g : GG} {p : Program} {l : Launch} {e : Env} {R : Room} {s : State} {m : MethodId} {args : Array Value} {below : List Frame} {meth : Method} {c : Code} {n0 z0 : Nat}
def f_X12_baits_148 (k53 : Nat → Int32 → Int32 → Int32 → Int32 → Int32 → Int32 → AH → Option (Int32 × AH)) (k86 : Nat → Int32 → Int32 → Int32 → Int32 → Int32 → Int32 → Int32 → Int32 → Int32 → AH → Option (Int32 × AH)) (o0 : Nat) (x1 : Int32) (x2 : Int32) (x3 : Int32) (x4 : Int32) (x5 : Int32) (x6 : Int32) (x7 : Int32) (x9 : Int32) (s0 : Int32) (s1 : Int32) (h : AH) : Option (Int32 × AH) :=
  k86 o0 x1 x2 x3 x4 x5 x6 x7 (s0 + s1) (x9 + 1) h
set_option maxHeartbeats 1000000 in
theorem w_X12_baits_148 (X : Cx g p s m args meth c cX12_baits 11 "TrapCornerModel") (hR : 94 ≤ R.frames ∧ 6016 ≤ R.locals) (hr : meth.sig.returnType = (some (.int))) {res : Int32 × AH} {k53 : Nat → Int32 → Int32 → Int32 → Int32 → Int32 → Int32 → AH → Option (Int32 × AH)} (hk53 : ∀ (o0 : Nat) (x1 : Int32) (x2 : Int32) (x3 : Int32) (x4 : Int32) (x5 : Int32) (x6 : Int32) (h : AH) (ls : Array Slot) (H : Heap) (locs : List Loc), k53 o0 x1 x2 x3 x4 x5 x6 h = some res → Iv g s n0 z0 h H locs 0 0 → lv_has ls 11 [(0, .ref (rfG g o0)), (1, .int x1), (2, .int x2), (3, .int x3), (4, .int x4), (5, .int x5), (6, .int x6)] → W p l e R s m args below meth c H locs 0 0 (MQ below (QG g (some (.int res.1)) res.2) args s 0 0 (AG g)) (F0 m 53 ls [])) {k86 : Nat → Int32 → Int32 → Int32 → Int32 → Int32 → Int32 → Int32 → Int32 → Int32 → AH → Option (Int32 × AH)} (hk86 : ∀ (o0 : Nat) (x1 : Int32) (x2 : Int32) (x3 : Int32) (x4 : Int32) (x5 : Int32) (x6 : Int32) (x7 : Int32) (x8 : Int32) (x9 : Int32) (h : AH) (ls : Array Slot) (H : Heap) (locs : List Loc), k86 o0 x1 x2 x3 x4 x5 x6 x7 x8 x9 h = some res → Iv g s n0 z0 h H locs 0 0 → lv_has ls 11 [(0, .ref (rfG g o0)), (1, .int x1), (2, .int x2), (3, .int x3), (4, .int x4), (5, .int x5), (6, .int x6), (7, .int x7), (8, .int x8), (9, .int x9)] → W p l e R s m args below meth c H locs 0 0 (MQ below (QG g (some (.int res.1)) res.2) args s 0 0 (AG g)) (F0 m 86 ls [])) : ∀ (o0 : Nat) (x1 : Int32) (x2 : Int32) (x3 : Int32) (x4 : Int32) (x5 : Int32) (x6 : Int32) (x7 : Int32) (x9 : Int32) (s0 : Int32) (s1 : Int32) (h : AH) (ls : Array Slot) (H : Heap) (locs : List Loc), f_X12_baits_148 k53 k86 o0 x1 x2 x3 x4 x5 x6 x7 x9 s0 s1 h = some res → Iv g s n0 z0 h H locs 0 0 → lv_has ls 11 [(0, .ref (rfG g o0)), (1, .int x1), (2, .int x2), (3, .int x3), (4, .int x4), (5, .int x5), (6, .int x6), (7, .int x7), (9, .int x9)] → W p l e R s m args below meth c H locs 0 0 (MQ below (QG g (some (.int res.1)) res.2) args s 0 0 (AG g)) (F0 m 148 ls [.int s1, .int s0]) := by
  have hx := X.1
  have hb := X.2.1
  intro o0 x1 x2 x3 x4 x5 x6 x7 x9 s0 s1 h ls H locs hf I hl
  unfold f_X12_baits_148 at hf
  refine lv_iadd hx hb dX12_baits_148 ?_
  refine lv_istore (lv' := [(8, .int (s0 + s1)), (0, .ref (rfG g o0)), (1, .int x1), (2, .int x2), (3, .int x3), (4, .int x4), (5, .int x5), (6, .int x6), (7, .int x7), (9, .int x9)]) hx hb dX12_baits_149 hl (by decide) rfl (fun ls hl => ?_)
  refine lv_iinc (v := x9 + 1) (lv' := [(9, .int (x9 + 1)), (8, .int (s0 + s1)), (0, .ref (rfG g o0)), (1, .int x1), (2, .int x2), (3, .int x3), (4, .int x4), (5, .int x5), (6, .int x6), (7, .int x7)]) hx hb dX12_baits_151 hl (k := 9) rfl rfl (by decide) rfl (fun ls hl => ?_)
  refine lv_goto (tgt := 86) hx hb dX12_baits_154 (by decide) ?_
  exact hk86 o0 x1 x2 x3 x4 x5 x6 x7 (s0 + s1) (x9 + 1) h ls H locs hf I (lv_sub hl [2, 3, 4, 5, 6, 7, 8, 9, 1, 0] rfl)
def f_X12_baits_230 (k53 : Nat → Int32 → Int32 → Int32 → Int32 → Int32 → Int32 → AH → Option (Int32 × AH)) (o0 : Nat) (x1 : Int32) (x2 : Int32) (x3 : Int32) (x4 : Int32) (x5 : Int32) (x6 : Int32) (h : AH) : Option (Int32 × AH) :=
  k53 o0 x1 x2 x3 x4 x5 (x6 + 1) h
set_option maxHeartbeats 1000000 in
theorem w_X12_baits_230 (X : Cx g p s m args meth c cX12_baits 11 "TrapCornerModel") (hR : 94 ≤ R.frames ∧ 6016 ≤ R.locals) (hr : meth.sig.returnType = (some (.int))) {res : Int32 × AH} {k53 : Nat → Int32 → Int32 → Int32 → Int32 → Int32 → Int32 → AH → Option (Int32 × AH)} (hk53 : ∀ (o0 : Nat) (x1 : Int32) (x2 : Int32) (x3 : Int32) (x4 : Int32) (x5 : Int32) (x6 : Int32) (h : AH) (ls : Array Slot) (H : Heap) (locs : List Loc), k53 o0 x1 x2 x3 x4 x5 x6 h = some res → Iv g s n0 z0 h H locs 0 0 → lv_has ls 11 [(0, .ref (rfG g o0)), (1, .int x1), (2, .int x2), (3, .int x3), (4, .int x4), (5, .int x5), (6, .int x6)] → W p l e R s m args below meth c H locs 0 0 (MQ below (QG g (some (.int res.1)) res.2) args s 0 0 (AG g)) (F0 m 53 ls [])) : ∀ (o0 : Nat) (x1 : Int32) (x2 : Int32) (x3 : Int32) (x4 : Int32) (x5 : Int32) (x6 : Int32) (h : AH) (ls : Array Slot) (H : Heap) (locs : List Loc), f_X12_baits_230 k53 o0 x1 x2 x3 x4 x5 x6 h = some res → Iv g s n0 z0 h H locs 0 0 → lv_has ls 11 [(0, .ref (rfG g o0)), (1, .int x1), (2, .int x2), (3, .int x3), (4, .int x4), (5, .int x5), (6, .int x6)] → W p l e R s m args below meth c H locs 0 0 (MQ below (QG g (some (.int res.1)) res.2) args s 0 0 (AG g)) (F0 m 230 ls []) := by
  have hx := X.1
  have hb := X.2.1
  intro o0 x1 x2 x3 x4 x5 x6 h ls H locs hf I hl
  unfold f_X12_baits_230 at hf
  refine lv_iinc (v := x6 + 1) (lv' := [(6, .int (x6 + 1)), (0, .ref (rfG g o0)), (1, .int x1), (2, .int x2), (3, .int x3), (4, .int x4), (5, .int x5)]) hx hb dX12_baits_230 hl (k := 6) rfl rfl (by decide) rfl (fun ls hl => ?_)
  refine lv_goto (tgt := 53) hx hb dX12_baits_233 (by decide) ?_
  exact hk53 o0 x1 x2 x3 x4 x5 (x6 + 1) h ls H locs hf I (lv_sub hl [1, 2, 3, 4, 5, 6, 0] rfl)
def f_X12_baits_219 (k53 : Nat → Int32 → Int32 → Int32 → Int32 → Int32 → Int32 → AH → Option (Int32 × AH)) (o0 : Nat) (x1 : Int32) (x2 : Int32) (x6 : Int32) (x7 : Int32) (x8 : Int32) (x10 : Int32) (h : AH) : Option (Int32 × AH) :=
  f_X12_baits_230 k53 o0 x1 x2 x7 x10 x8 x6 h
set_option maxHeartbeats 1000000 in
theorem w_X12_baits_219 (X : Cx g p s m args meth c cX12_baits 11 "TrapCornerModel") (hR : 94 ≤ R.frames ∧ 6016 ≤ R.locals) (hr : meth.sig.returnType = (some (.int))) {res : Int32 × AH} {k53 : Nat → Int32 → Int32 → Int32 → Int32 → Int32 → Int32 → AH → Option (Int32 × AH)} (hk53 : ∀ (o0 : Nat) (x1 : Int32) (x2 : Int32) (x3 : Int32) (x4 : Int32) (x5 : Int32) (x6 : Int32) (h : AH) (ls : Array Slot) (H : Heap) (locs : List Loc), k53 o0 x1 x2 x3 x4 x5 x6 h = some res → Iv g s n0 z0 h H locs 0 0 → lv_has ls 11 [(0, .ref (rfG g o0)), (1, .int x1), (2, .int x2), (3, .int x3), (4, .int x4), (5, .int x5), (6, .int x6)] → W p l e R s m args below meth c H locs 0 0 (MQ below (QG g (some (.int res.1)) res.2) args s 0 0 (AG g)) (F0 m 53 ls [])) : ∀ (o0 : Nat) (x1 : Int32) (x2 : Int32) (x6 : Int32) (x7 : Int32) (x8 : Int32) (x10 : Int32) (h : AH) (ls : Array Slot) (H : Heap) (locs : List Loc), f_X12_baits_219 k53 o0 x1 x2 x6 x7 x8 x10 h = some res → Iv g s n0 z0 h H locs 0 0 → lv_has ls 11 [(0, .ref (rfG g o0)), (1, .int x1), (2, .int x2), (6, .int x6), (7, .int x7), (8, .int x8), (10, .int x10)] → W p l e R s m args below meth c H locs 0 0 (MQ below (QG g (some (.int res.1)) res.2) args s 0 0 (AG g)) (F0 m 219 ls []) := by
  have hx := X.1
  have hb := X.2.1
  intro o0 x1 x2 x6 x7 x8 x10 h ls H locs hf I hl
  unfold f_X12_baits_219 at hf
  refine lv_iload hx hb dX12_baits_219 (lv_at hl 4 rfl) ?_
  refine lv_istore_n (lv' := [(3, .int x7), (0, .ref (rfG g o0)), (1, .int x1), (2, .int x2), (6, .int x6), (7, .int x7), (8, .int x8), (10, .int x10)]) hx hb dX12_baits_221 rfl hl (by decide) rfl (fun ls hl => ?_)
  refine lv_iload hx hb dX12_baits_222 (lv_at hl 7 rfl) ?_
  refine lv_istore (lv' := [(4, .int x10), (3, .int x7), (0, .ref (rfG g o0)), (1, .int x1), (2, .int x2), (6, .int x6), (7, .int x7), (8, .int x8), (10, .int x10)]) hx hb dX12_baits_224 hl (by decide) rfl (fun ls hl => ?_)
  refine lv_iload hx hb dX12_baits_226 (lv_at hl 7 rfl) ?_
  refine lv_istore (lv' := [(5, .int x8), (4, .int x10), (3, .int x7), (0, .ref (rfG g o0)), (1, .int x1), (2, .int x2), (6, .int x6), (7, .int x7), (8, .int x8), (10, .int x10)]) hx hb dX12_baits_228 hl (by decide) rfl (fun ls hl => ?_)
  exact w_X12_baits_230 X hR hr hk53 o0 x1 x2 x7 x10 x8 x6 h ls H locs hf I (lv_sub hl [3, 4, 5, 2, 1, 0, 6] rfl)
def f_X12_baits_86 (k53 : Nat → Int32 → Int32 → Int32 → Int32 → Int32 → Int32 → AH → Option (Int32 × AH)) : Nat → Nat → Int32 → Int32 → Int32 → Int32 → Int32 → Int32 → Int32 → Int32 → Int32 → AH → Option (Int32 × AH)
  | 0, _, _, _, _, _, _, _, _, _, _, _ => none
  | n + 1, o0, x1, x2, x3, x4, x5, x6, x7, x8, x9, h =>
  (gI [12] h o0 26).bind fun v1 =>
  if v1 ≤ x9 then
    (gR [12] h o0 33).bind fun v4 =>
    (isC [12] h o0).bind fun _ =>
    cN (f_X12_goDay o0 v4 h) h fun v6 h7 =>
    if (x1 &&& (v6 ^^^ ((-1)))) = 0 then
      cN (f_J6_bitCount_0f7a4 (v6 &&& (x1 ^^^ ((-1)))) h7) h7 fun v12 h13 =>
      if x3 = ((-1)) then
        f_X12_baits_219 k53 o0 x1 x2 x6 x7 x8 v12 h13
      else
        if x4 < v12 then
          f_X12_baits_230 k53 o0 x1 x2 x3 x4 x5 x6 h13
        else
          if v12 = x4 then
            if x8 < x5 then
              f_X12_baits_219 k53 o0 x1 x2 x6 x7 x8 v12 h13
            else
              f_X12_baits_230 k53 o0 x1 x2 x3 x4 x5 x6 h13
          else
            f_X12_baits_219 k53 o0 x1 x2 x6 x7 x8 v12 h13
    else
      f_X12_baits_230 k53 o0 x1 x2 x3 x4 x5 x6 h7
  else
    (gI [12] h o0 26).bind fun v20 =>
    (gR [12] h o0 33).bind fun v22 =>
    (uI 0 h v22 ((2 * x9) + 0) ((x6 >>> ((2 * ((v20 - 1) - x9)) &&& 31)) &&& 3)).bind fun h24 =>
    if ((x6 >>> ((2 * ((v20 - 1) - x9)) &&& 31)) &&& 3) ≤ 0 then
      f_X12_baits_148 k53 (f_X12_baits_86 k53 n) o0 x1 x2 x3 x4 x5 x6 ((10 * x7) + ((x6 >>> ((2 * ((v20 - 1) - x9)) &&& 31)) &&& 3)) x9 x8 0 h24
    else
      f_X12_baits_148 k53 (f_X12_baits_86 k53 n) o0 x1 x2 x3 x4 x5 x6 ((10 * x7) + ((x6 >>> ((2 * ((v20 - 1) - x9)) &&& 31)) &&& 3)) x9 x8 1 h24
set_option maxHeartbeats 1000000 in
theorem w_X12_baits_86 (X : Cx g p s m args meth c cX12_baits 11 "TrapCornerModel") (hR : 94 ≤ R.frames ∧ 6016 ≤ R.locals) (hr : meth.sig.returnType = (some (.int))) {res : Int32 × AH} {k53 : Nat → Int32 → Int32 → Int32 → Int32 → Int32 → Int32 → AH → Option (Int32 × AH)} (hk53 : ∀ (o0 : Nat) (x1 : Int32) (x2 : Int32) (x3 : Int32) (x4 : Int32) (x5 : Int32) (x6 : Int32) (h : AH) (ls : Array Slot) (H : Heap) (locs : List Loc), k53 o0 x1 x2 x3 x4 x5 x6 h = some res → Iv g s n0 z0 h H locs 0 0 → lv_has ls 11 [(0, .ref (rfG g o0)), (1, .int x1), (2, .int x2), (3, .int x3), (4, .int x4), (5, .int x5), (6, .int x6)] → W p l e R s m args below meth c H locs 0 0 (MQ below (QG g (some (.int res.1)) res.2) args s 0 0 (AG g)) (F0 m 53 ls [])) : ∀ (n : Nat) (o0 : Nat) (x1 : Int32) (x2 : Int32) (x3 : Int32) (x4 : Int32) (x5 : Int32) (x6 : Int32) (x7 : Int32) (x8 : Int32) (x9 : Int32) (h : AH) (ls : Array Slot) (H : Heap) (locs : List Loc), f_X12_baits_86 k53 n o0 x1 x2 x3 x4 x5 x6 x7 x8 x9 h = some res → Iv g s n0 z0 h H locs 0 0 → lv_has ls 11 [(0, .ref (rfG g o0)), (1, .int x1), (2, .int x2), (3, .int x3), (4, .int x4), (5, .int x5), (6, .int x6), (7, .int x7), (8, .int x8), (9, .int x9)] → W p l e R s m args below meth c H locs 0 0 (MQ below (QG g (some (.int res.1)) res.2) args s 0 0 (AG g)) (F0 m 86 ls []) := by
  have hx := X.1
  have hb := X.2.1
  intro n
  induction n with
  | zero =>
    intro o0 x1 x2 x3 x4 x5 x6 x7 x8 x9 h ls H locs hf
    rw [f_X12_baits_86.eq_1] at hf
    cases hf
  | succ n ih =>
    intro o0 x1 x2 x3 x4 x5 x6 x7 x8 x9 h ls H locs hf I hl
    rw [f_X12_baits_86.eq_2] at hf
    refine lv_iload hx hb dX12_baits_86 (lv_at hl 9 rfl) ?_
    refine lv_aload_n hx hb dX12_baits_88 rfl (lv_at hl 0 rfl) ?_
    obtain ⟨v1, e2, hf⟩ := Option.bind_eq_some_iff.mp hf
    refine r_gI X I e2 lk_TrapCornerModel_294 dX12_baits_89 ?_
    refine lv_icmp_ge (tgt := 157) hx hb dX12_baits_92 (by decide) (fun c3 => ?_) (fun c3 => ?_)
    · rw [if_pos c3] at hf
      refine lv_aload_n hx hb dX12_baits_157 rfl (lv_at hl 0 rfl) ?_
      refine lv_aload_n hx hb dX12_baits_158 rfl (lv_at hl 0 rfl) ?_
      obtain ⟨v4, e5, hf⟩ := Option.bind_eq_some_iff.mp hf
      refine r_gR X I e5 lk_TrapCornerModel_64 dX12_baits_159 ?_
      obtain ⟨_, g10, hf⟩ := Option.bind_eq_some_iff.mp hf
      obtain ⟨v6, h7, e8, z9, hf⟩ := cN_spec hf
      refine k_Vi (As := [.ref (rfG g v4)]) (rest := []) X I (c_X12_goDay l g o0 v4 e8) z9 g10 vk_TrapCornerModel_376 tw_1672 ⟨Nat.le_trans (by decide) hR.1, Nat.le_trans (by decide) hR.2⟩ ⟨Nat.zero_le _, Nat.zero_le _⟩ rfl hl.1 rfl (Nat.le_of_ble_eq_true rfl) dX12_baits_162 (fun H locs I => ?_)
      refine lv_istore (lv' := [(9, .int v6), (0, .ref (rfG g o0)), (1, .int x1), (2, .int x2), (3, .int x3), (4, .int x4), (5, .int x5), (6, .int x6), (7, .int x7), (8, .int x8)]) hx hb dX12_baits_165 hl (by decide) rfl (fun ls hl => ?_)
      refine lv_iload_n hx hb dX12_baits_167 rfl (lv_at hl 2 rfl) ?_
      refine lv_iload hx hb dX12_baits_168 (lv_at hl 0 rfl) ?_
      refine lv_iconst (v := (-1)) hx hb dX12_baits_170 (by decide) ?_
      refine lv_ixor hx hb dX12_baits_171 ?_
      refine lv_iand hx hb dX12_baits_172 ?_
      refine lv_if_eq (tgt := 179) hx hb dX12_baits_173 (by decide) (fun c11 => ?_) (fun c11 => ?_)
      · rw [if_pos c11] at hf
        refine lv_iload hx hb dX12_baits_179 (lv_at hl 0 rfl) ?_
        refine lv_iload_n hx hb dX12_baits_181 rfl (lv_at hl 2 rfl) ?_
        refine lv_iconst (v := (-1)) hx hb dX12_baits_182 (by decide) ?_
        refine lv_ixor hx hb dX12_baits_183 ?_
        refine lv_iand hx hb dX12_baits_184 ?_
        obtain ⟨v12, h13, e14, z15, hf⟩ := cN_spec hf
        refine k_Si (As := [.int (v6 &&& (x1 ^^^ ((-1))))]) (rest := []) X I (c_J6_bitCount_0f7a4 l g (v6 &&& (x1 ^^^ ((-1)))) e14) z15 sk_TrapCornerModel_393 tw_957 ⟨Nat.le_trans (by decide) hR.1, Nat.le_trans (by decide) hR.2⟩ ⟨Nat.zero_le _, Nat.zero_le _⟩ rfl hl.1 rfl (Nat.le_of_ble_eq_true rfl) dX12_baits_185 (fun H locs I => ?_)
        refine lv_istore (lv' := [(10, .int v12), (9, .int v6), (0, .ref (rfG g o0)), (1, .int x1), (2, .int x2), (3, .int x3), (4, .int x4), (5, .int x5), (6, .int x6), (7, .int x7), (8, .int x8)]) hx hb dX12_baits_188 hl (by decide) rfl (fun ls hl => ?_)
        refine lv_iload_n hx hb dX12_baits_190 rfl (lv_at hl 5 rfl) ?_
        refine lv_iconst (v := (-1)) hx hb dX12_baits_191 (by decide) ?_
        refine lv_icmp_eq (tgt := 219) hx hb dX12_baits_192 (by decide) (fun c16 => ?_) (fun c16 => ?_)
        · rw [if_pos c16] at hf
          exact w_X12_baits_219 X hR hr hk53 o0 x1 x2 x6 x7 x8 v12 h13 ls H locs hf I (lv_sub hl [2, 3, 4, 8, 9, 10, 0] rfl)
        · rw [if_neg c16] at hf
          refine lv_iload hx hb dX12_baits_195 (lv_at hl 0 rfl) ?_
          refine lv_iload hx hb dX12_baits_197 (lv_at hl 6 rfl) ?_
          refine lv_icmp_gt (tgt := 230) hx hb dX12_baits_199 (by decide) (fun c17 => ?_) (fun c17 => ?_)
          · rw [if_pos c17] at hf
            exact w_X12_baits_230 X hR hr hk53 o0 x1 x2 x3 x4 x5 x6 h13 ls H locs hf I (lv_sub hl [2, 3, 4, 5, 6, 7, 8] rfl)
          · rw [if_neg c17] at hf
            refine lv_iload hx hb dX12_baits_202 (lv_at hl 0 rfl) ?_
            refine lv_iload hx hb dX12_baits_204 (lv_at hl 6 rfl) ?_
            refine lv_icmp_ne (tgt := 219) hx hb dX12_baits_206 (by decide) (fun c18 => ?_) (fun c18 => ?_)
            · rw [if_neg c18] at hf
              exact w_X12_baits_219 X hR hr hk53 o0 x1 x2 x6 x7 x8 v12 h13 ls H locs hf I (lv_sub hl [2, 3, 4, 8, 9, 10, 0] rfl)
            · rw [if_pos c18] at hf
              refine lv_iload hx hb dX12_baits_209 (lv_at hl 10 rfl) ?_
              refine lv_iload hx hb dX12_baits_211 (lv_at hl 7 rfl) ?_
              refine lv_icmp_lt (tgt := 219) hx hb dX12_baits_213 (by decide) (fun c19 => ?_) (fun c19 => ?_)
              · rw [if_pos c19] at hf
                exact w_X12_baits_219 X hR hr hk53 o0 x1 x2 x6 x7 x8 v12 h13 ls H locs hf I (lv_sub hl [2, 3, 4, 8, 9, 10, 0] rfl)
              · rw [if_neg c19] at hf
                refine lv_goto (tgt := 230) hx hb dX12_baits_216 (by decide) ?_
                exact w_X12_baits_230 X hR hr hk53 o0 x1 x2 x3 x4 x5 x6 h13 ls H locs hf I (lv_sub hl [2, 3, 4, 5, 6, 7, 8] rfl)
      · rw [if_neg c11] at hf
        refine lv_goto (tgt := 230) hx hb dX12_baits_176 (by decide) ?_
        exact w_X12_baits_230 X hR hr hk53 o0 x1 x2 x3 x4 x5 x6 h7 ls H locs hf I (lv_sub hl [1, 2, 3, 4, 5, 6, 7] rfl)
    · rw [if_neg c3] at hf
      refine lv_iload hx hb dX12_baits_95 (lv_at hl 6 rfl) ?_
      refine lv_iconst (v := 2) hx hb dX12_baits_97 (by decide) ?_
      refine lv_aload_n hx hb dX12_baits_98 rfl (lv_at hl 0 rfl) ?_
      obtain ⟨v20, e21, hf⟩ := Option.bind_eq_some_iff.mp hf
      refine r_gI X I e21 lk_TrapCornerModel_294 dX12_baits_99 ?_
      refine lv_iconst (v := 1) hx hb dX12_baits_102 (by decide) ?_
      refine lv_isub hx hb dX12_baits_103 ?_
      refine lv_iload hx hb dX12_baits_104 (lv_at hl 9 rfl) ?_
      refine lv_isub hx hb dX12_baits_106 ?_
      refine lv_imul hx hb dX12_baits_107 ?_
      refine lv_ishr hx hb dX12_baits_108 ?_
      refine lv_iconst (v := 3) hx hb dX12_baits_109 (by decide) ?_
      refine lv_iand hx hb dX12_baits_110 ?_
      refine lv_istore (lv' := [(10, .int ((x6 >>> ((2 * ((v20 - 1) - x9)) &&& 31)) &&& 3)), (0, .ref (rfG g o0)), (1, .int x1), (2, .int x2), (3, .int x3), (4, .int x4), (5, .int x5), (6, .int x6), (7, .int x7), (8, .int x8), (9, .int x9)]) hx hb dX12_baits_111 hl (by decide) rfl (fun ls hl => ?_)
      refine lv_aload_n hx hb dX12_baits_113 rfl (lv_at hl 1 rfl) ?_
      obtain ⟨v22, e23, hf⟩ := Option.bind_eq_some_iff.mp hf
      refine r_gR X I e23 lk_TrapCornerModel_64 dX12_baits_114 ?_
      refine lv_iconst (v := 2) hx hb dX12_baits_117 (by decide) ?_
      refine lv_iload hx hb dX12_baits_118 (lv_at hl 10 rfl) ?_
      refine lv_imul hx hb dX12_baits_120 ?_
      refine lv_iconst (v := 0) hx hb dX12_baits_121 (by decide) ?_
      refine lv_iadd hx hb dX12_baits_122 ?_
      refine lv_iload hx hb dX12_baits_123 (lv_at hl 0 rfl) ?_
      obtain ⟨h24, e25, hf⟩ := Option.bind_eq_some_iff.mp hf
      refine r_uI0 X I e25 dX12_baits_125 (fun H locs I => ?_)
      refine lv_bipush (v := 10) hx hb dX12_baits_126 (by decide) ?_
      refine lv_iload hx hb dX12_baits_128 (lv_at hl 8 rfl) ?_
      refine lv_imul hx hb dX12_baits_130 ?_
      refine lv_iload hx hb dX12_baits_131 (lv_at hl 0 rfl) ?_
      refine lv_iadd hx hb dX12_baits_133 ?_
      refine lv_istore (lv' := [(7, .int ((10 * x7) + ((x6 >>> ((2 * ((v20 - 1) - x9)) &&& 31)) &&& 3))), (10, .int ((x6 >>> ((2 * ((v20 - 1) - x9)) &&& 31)) &&& 3)), (0, .ref (rfG g o0)), (1, .int x1), (2, .int x2), (3, .int x3), (4, .int x4), (5, .int x5), (6, .int x6), (8, .int x8), (9, .int x9)]) hx hb dX12_baits_134 hl (by decide) rfl (fun ls hl => ?_)
      refine lv_iload hx hb dX12_baits_136 (lv_at hl 9 rfl) ?_
      refine lv_iload hx hb dX12_baits_138 (lv_at hl 1 rfl) ?_
      refine lv_if_le (tgt := 147) hx hb dX12_baits_140 (by decide) (fun c26 => ?_) (fun c26 => ?_)
      · rw [if_pos c26] at hf
        refine lv_iconst (v := 0) hx hb dX12_baits_147 (by decide) ?_
        exact w_X12_baits_148 X hR hr hk53 ih o0 x1 x2 x3 x4 x5 x6 ((10 * x7) + ((x6 >>> ((2 * ((v20 - 1) - x9)) &&& 31)) &&& 3)) x9 x8 0 h24 ls H locs hf I (lv_sub hl [2, 3, 4, 5, 6, 7, 8, 0, 10] rfl)
      · rw [if_neg c26] at hf
        refine lv_iconst (v := 1) hx hb dX12_baits_143 (by decide) ?_
        refine lv_goto (tgt := 148) hx hb dX12_baits_144 (by decide) ?_
        exact w_X12_baits_148 X hR hr hk53 ih o0 x1 x2 x3 x4 x5 x6 ((10 * x7) + ((x6 >>> ((2 * ((v20 - 1) - x9)) &&& 31)) &&& 3)) x9 x8 1 h24 ls H locs hf I (lv_sub hl [2, 3, 4, 5, 6, 7, 8, 0, 10] rfl)
def f_X12_baits_245  (x3 : Int32) (h : AH) : Option (Int32 × AH) :=
  some (x3, h)
set_option maxHeartbeats 1000000 in
theorem w_X12_baits_245 (X : Cx g p s m args meth c cX12_baits 11 "TrapCornerModel") (hR : 94 ≤ R.frames ∧ 6016 ≤ R.locals) (hr : meth.sig.returnType = (some (.int))) {res : Int32 × AH} : ∀ (x3 : Int32) (h : AH) (ls : Array Slot) (H : Heap) (locs : List Loc), f_X12_baits_245 x3 h = some res → Iv g s n0 z0 h H locs 0 0 → lv_has ls 11 [(3, .int x3)] → W p l e R s m args below meth c H locs 0 0 (MQ below (QG g (some (.int res.1)) res.2) args s 0 0 (AG g)) (F0 m 245 ls []) := by
  have hx := X.1
  have hb := X.2.1
  intro x3 h ls H locs hf I hl
  unfold f_X12_baits_245 at hf
  refine lv_iload_n hx hb dX12_baits_245 rfl (lv_at hl 0 rfl) ?_
  refine lv_goto (tgt := 251) hx hb dX12_baits_246 (by decide) ?_
  cases hf
  exact k_ri X I hr dX12_baits_251
def f_X12_baits_53  : Nat → Nat → Int32 → Int32 → Int32 → Int32 → Int32 → Int32 → AH → Option (Int32 × AH)
  | 0, _, _, _, _, _, _, _, _ => none
  | n + 1, o0, x1, x2, x3, x4, x5, x6, h =>
  (gI [12] h o0 26).bind fun v1 =>
  if (1 <<< ((2 * v1) &&& 31)) ≤ x6 then
    if x3 = ((-1)) then
      f_X12_baits_245 x3 h
    else
      if x2 = 0 then
        f_X12_baits_245 x3 h
      else
        some (x4, h)
  else
    (gR [12] h o0 32).bind fun v6 =>
    (gR [12] h o0 33).bind fun v8 =>
    cN (f_X12_copy v6 v8 h) h fun _ h11 =>
    f_X12_baits_86 (f_X12_baits_53 n) fu o0 x1 x2 x3 x4 x5 x6 0 0 0 h11
set_option maxHeartbeats 1000000 in
theorem w_X12_baits_53 (X : Cx g p s m args meth c cX12_baits 11 "TrapCornerModel") (hR : 94 ≤ R.frames ∧ 6016 ≤ R.locals) (hr : meth.sig.returnType = (some (.int))) {res : Int32 × AH} : ∀ (n : Nat) (o0 : Nat) (x1 : Int32) (x2 : Int32) (x3 : Int32) (x4 : Int32) (x5 : Int32) (x6 : Int32) (h : AH) (ls : Array Slot) (H : Heap) (locs : List Loc), f_X12_baits_53 n o0 x1 x2 x3 x4 x5 x6 h = some res → Iv g s n0 z0 h H locs 0 0 → lv_has ls 11 [(0, .ref (rfG g o0)), (1, .int x1), (2, .int x2), (3, .int x3), (4, .int x4), (5, .int x5), (6, .int x6)] → W p l e R s m args below meth c H locs 0 0 (MQ below (QG g (some (.int res.1)) res.2) args s 0 0 (AG g)) (F0 m 53 ls []) := by
  have hx := X.1
  have hb := X.2.1
  intro n
  induction n with
  | zero =>
    intro o0 x1 x2 x3 x4 x5 x6 h ls H locs hf
    rw [f_X12_baits_53.eq_1] at hf
    cases hf
  | succ n ih =>
    intro o0 x1 x2 x3 x4 x5 x6 h ls H locs hf I hl
    rw [f_X12_baits_53.eq_2] at hf
    refine lv_iload hx hb dX12_baits_53 (lv_at hl 6 rfl) ?_
    refine lv_iconst (v := 1) hx hb dX12_baits_55 (by decide) ?_
    refine lv_iconst (v := 2) hx hb dX12_baits_56 (by decide) ?_
    refine lv_aload_n hx hb dX12_baits_57 rfl (lv_at hl 0 rfl) ?_
    obtain ⟨v1, e2, hf⟩ := Option.bind_eq_some_iff.mp hf
    refine r_gI X I e2 lk_TrapCornerModel_294 dX12_baits_58 ?_
    refine lv_imul hx hb dX12_baits_61 ?_
    refine lv_ishl hx hb dX12_baits_62 ?_
    refine lv_icmp_ge (tgt := 236) hx hb dX12_baits_63 (by decide) (fun c3 => ?_) (fun c3 => ?_)
    · rw [if_pos c3] at hf
      refine lv_iload_n hx hb dX12_baits_236 rfl (lv_at hl 3 rfl) ?_
      refine lv_iconst (v := (-1)) hx hb dX12_baits_237 (by decide) ?_
      refine lv_icmp_eq (tgt := 245) hx hb dX12_baits_238 (by decide) (fun c4 => ?_) (fun c4 => ?_)
      · rw [if_pos c4] at hf
        exact w_X12_baits_245 X hR hr  x3 h ls H locs hf I (lv_sub hl [3] rfl)
      · rw [if_neg c4] at hf
        refine lv_iload_n hx hb dX12_baits_241 rfl (lv_at hl 2 rfl) ?_
        refine lv_if_ne (tgt := 249) hx hb dX12_baits_242 (by decide) (fun c5 => ?_) (fun c5 => ?_)
        · rw [if_neg c5] at hf
          refine lv_iload hx hb dX12_baits_249 (lv_at hl 4 rfl) ?_
          cases hf
          exact k_ri X I hr dX12_baits_251
        · rw [if_pos c5] at hf
          exact w_X12_baits_245 X hR hr  x3 h ls H locs hf I (lv_sub hl [3] rfl)
    · rw [if_neg c3] at hf
      refine lv_aload_n hx hb dX12_baits_66 rfl (lv_at hl 0 rfl) ?_
      obtain ⟨v6, e7, hf⟩ := Option.bind_eq_some_iff.mp hf
      refine r_gR X I e7 lk_TrapCornerModel_61 dX12_baits_67 ?_
      refine lv_aload_n hx hb dX12_baits_70 rfl (lv_at hl 0 rfl) ?_
      obtain ⟨v8, e9, hf⟩ := Option.bind_eq_some_iff.mp hf
      refine r_gR X I e9 lk_TrapCornerModel_64 dX12_baits_71 ?_
      obtain ⟨⟨⟩, h11, e12, z13, hf⟩ := cN_spec hf
      refine k_Sv (As := [.ref (rfG g v6), .ref (rfG g v8)]) (rest := []) X I (c_X12_copy l g v6 v8 e12) z13 sk_TrapCornerModel_372 tw_1793 ⟨Nat.le_trans (by decide) hR.1, Nat.le_trans (by decide) hR.2⟩ ⟨Nat.zero_le _, Nat.zero_le _⟩ rfl hl.1 rfl (Nat.le_of_ble_eq_true rfl) dX12_baits_74 (fun H locs I => ?_)
      refine lv_iconst (v := 0) hx hb dX12_baits_77 (by decide) ?_
      refine lv_istore (lv' := [(7, .int 0), (0, .ref (rfG g o0)), (1, .int x1), (2, .int x2), (3, .int x3), (4, .int x4), (5, .int x5), (6, .int x6)]) hx hb dX12_baits_78 hl (by decide) rfl (fun ls hl => ?_)
      refine lv_iconst (v := 0) hx hb dX12_baits_80 (by decide) ?_
      refine lv_istore (lv' := [(8, .int 0), (7, .int 0), (0, .ref (rfG g o0)), (1, .int x1), (2, .int x2), (3, .int x3), (4, .int x4), (5, .int x5), (6, .int x6)]) hx hb dX12_baits_81 hl (by decide) rfl (fun ls hl => ?_)
      refine lv_iconst (v := 0) hx hb dX12_baits_83 (by decide) ?_
      refine lv_istore (lv' := [(9, .int 0), (8, .int 0), (7, .int 0), (0, .ref (rfG g o0)), (1, .int x1), (2, .int x2), (3, .int x3), (4, .int x4), (5, .int x5), (6, .int x6)]) hx hb dX12_baits_84 hl (by decide) rfl (fun ls hl => ?_)
      exact w_X12_baits_86 X hR hr ih fu o0 x1 x2 x3 x4 x5 x6 0 0 0 h11 ls H locs hf I (lv_sub hl [3, 4, 5, 6, 7, 8, 9, 2, 1, 0] rfl)
def f_X12_baits_0  (o0 : Nat) (x1 : Int32) (x2 : Int32) (h : AH) : Option (Int32 × AH) :=
  (pV [12] h o0 0 (.int 0)).bind fun h1 =>
  (gI [12] h1 o0 27).bind fun v3 =>
  if v3 = 0 then
    some ((-1), h1)
  else
    (gI [12] h1 o0 27).bind fun v6 =>
    cN (f_X12_isIn (x1.toInt64) 0 (((1 <<< (v6 &&& 31)) - 1).toInt64) h1) h1 fun v8 h9 =>
    if v8 = 0 then
      some ((-1), h9)
    else
      cN (f_X12_isIn (x2.toInt64) 0 1 h9) h9 fun v13 h14 =>
      if v13 = 0 then
        some ((-1), h14)
      else
        f_X12_baits_53 fu o0 x1 x2 ((-1)) 0 0 0 h14
set_option maxHeartbeats 1000000 in
theorem w_X12_baits_0 (X : Cx g p s m args meth c cX12_baits 11 "TrapCornerModel") (hR : 94 ≤ R.frames ∧ 6016 ≤ R.locals) (hr : meth.sig.returnType = (some (.int))) {res : Int32 × AH} : ∀ (o0 : Nat) (x1 : Int32) (x2 : Int32) (h : AH) (ls : Array Slot) (H : Heap) (locs : List Loc), f_X12_baits_0 o0 x1 x2 h = some res → Iv g s n0 z0 h H locs 0 0 → lv_has ls 11 [(0, .ref (rfG g o0)), (1, .int x1), (2, .int x2)] → W p l e R s m args below meth c H locs 0 0 (MQ below (QG g (some (.int res.1)) res.2) args s 0 0 (AG g)) (F0 m 0 ls []) := by
  have hx := X.1
  have hb := X.2.1
  intro o0 x1 x2 h ls H locs hf I hl
  unfold f_X12_baits_0 at hf
  refine lv_aload_n hx hb dX12_baits_0 rfl (lv_at hl 0 rfl) ?_
  refine lv_iconst (v := 0) hx hb dX12_baits_1 (by decide) ?_
  obtain ⟨h1, e2, hf⟩ := Option.bind_eq_some_iff.mp hf
  refine r_pI X I e2 lp_TrapCornerModel_96 dX12_baits_2 (fun H locs I => ?_)
  refine lv_aload_n hx hb dX12_baits_5 rfl (lv_at hl 0 rfl) ?_
  obtain ⟨v3, e4, hf⟩ := Option.bind_eq_some_iff.mp hf
  refine r_gI X I e4 lk_TrapCornerModel_297 dX12_baits_6 ?_
  refine lv_if_eq (tgt := 40) hx hb dX12_baits_9 (by decide) (fun c5 => ?_) (fun c5 => ?_)
  · rw [if_pos c5] at hf
    refine lv_iconst (v := (-1)) hx hb dX12_baits_40 (by decide) ?_
    cases hf
    exact k_ri X I hr dX12_baits_41
  · rw [if_neg c5] at hf
    refine lv_iload_n hx hb dX12_baits_12 rfl (lv_at hl 1 rfl) ?_
    refine lv_i2l hx hb dX12_baits_13 rfl ?_
    refine lv_lconst (v := 0) hx hb dX12_baits_14 (by decide) ?_
    refine lv_iconst (v := 1) hx hb dX12_baits_15 (by decide) ?_
    refine lv_aload_n hx hb dX12_baits_16 rfl (lv_at hl 0 rfl) ?_
    obtain ⟨v6, e7, hf⟩ := Option.bind_eq_some_iff.mp hf
    refine r_gI X I e7 lk_TrapCornerModel_297 dX12_baits_17 ?_
    refine lv_ishl hx hb dX12_baits_20 ?_
    refine lv_iconst (v := 1) hx hb dX12_baits_21 (by decide) ?_
    refine lv_isub hx hb dX12_baits_22 ?_
    refine lv_i2l hx hb dX12_baits_23 rfl ?_
    obtain ⟨v8, h9, e10, z11, hf⟩ := cN_spec hf
    refine k_Si (As := [.long (x1.toInt64), .long 0, .long (((1 <<< (v6 &&& 31)) - 1).toInt64)]) (rest := []) X I (c_X12_isIn l g (x1.toInt64) 0 (((1 <<< (v6 &&& 31)) - 1).toInt64) e10) z11 sk_TrapCornerModel_217 tw_1465 ⟨Nat.le_trans (by decide) hR.1, Nat.le_trans (by decide) hR.2⟩ ⟨Nat.zero_le _, Nat.zero_le _⟩ rfl hl.1 rfl (Nat.le_of_ble_eq_true rfl) dX12_baits_24 (fun H locs I => ?_)
    refine lv_if_eq (tgt := 40) hx hb dX12_baits_27 (by decide) (fun c12 => ?_) (fun c12 => ?_)
    · rw [if_pos c12] at hf
      refine lv_iconst (v := (-1)) hx hb dX12_baits_40 (by decide) ?_
      cases hf
      exact k_ri X I hr dX12_baits_41
    · rw [if_neg c12] at hf
      refine lv_iload_n hx hb dX12_baits_30 rfl (lv_at hl 2 rfl) ?_
      refine lv_i2l hx hb dX12_baits_31 rfl ?_
      refine lv_lconst (v := 0) hx hb dX12_baits_32 (by decide) ?_
      refine lv_lconst (v := 1) hx hb dX12_baits_33 (by decide) ?_
      obtain ⟨v13, h14, e15, z16, hf⟩ := cN_spec hf
      refine k_Si (As := [.long (x2.toInt64), .long 0, .long 1]) (rest := []) X I (c_X12_isIn l g (x2.toInt64) 0 1 e15) z16 sk_TrapCornerModel_217 tw_1465 ⟨Nat.le_trans (by decide) hR.1, Nat.le_trans (by decide) hR.2⟩ ⟨Nat.zero_le _, Nat.zero_le _⟩ rfl hl.1 rfl (Nat.le_of_ble_eq_true rfl) dX12_baits_34 (fun H locs I => ?_)
      refine lv_if_ne (tgt := 42) hx hb dX12_baits_37 (by decide) (fun c17 => ?_) (fun c17 => ?_)
      · rw [if_neg c17] at hf
        refine lv_iconst (v := (-1)) hx hb dX12_baits_42 (by decide) ?_
        refine lv_istore_n (lv' := [(3, .int ((-1))), (0, .ref (rfG g o0)), (1, .int x1), (2, .int x2)]) hx hb dX12_baits_43 rfl hl (by decide) rfl (fun ls hl => ?_)
        refine lv_iconst (v := 0) hx hb dX12_baits_44 (by decide) ?_
        refine lv_istore (lv' := [(4, .int 0), (3, .int ((-1))), (0, .ref (rfG g o0)), (1, .int x1), (2, .int x2)]) hx hb dX12_baits_45 hl (by decide) rfl (fun ls hl => ?_)
        refine lv_iconst (v := 0) hx hb dX12_baits_47 (by decide) ?_
        refine lv_istore (lv' := [(5, .int 0), (4, .int 0), (3, .int ((-1))), (0, .ref (rfG g o0)), (1, .int x1), (2, .int x2)]) hx hb dX12_baits_48 hl (by decide) rfl (fun ls hl => ?_)
        refine lv_iconst (v := 0) hx hb dX12_baits_50 (by decide) ?_
        refine lv_istore (lv' := [(6, .int 0), (5, .int 0), (4, .int 0), (3, .int ((-1))), (0, .ref (rfG g o0)), (1, .int x1), (2, .int x2)]) hx hb dX12_baits_51 hl (by decide) rfl (fun ls hl => ?_)
        exact w_X12_baits_53 X hR hr fu o0 x1 x2 ((-1)) 0 0 0 h14 ls H locs hf I (lv_sub hl [4, 5, 6, 3, 2, 1, 0] rfl)
      · rw [if_pos c17] at hf
        refine lv_iconst (v := (-1)) hx hb dX12_baits_40 (by decide) ?_
        cases hf
        exact k_ri X I hr dX12_baits_41
def f_X12_baits (o0 : Nat) (x1 : Int32) (x2 : Int32) (h : AH) : Option (Int32 × AH) := f_X12_baits_0 o0 x1 x2 h
end
theorem c_X12_baits (l : Launch) (g : GG) (o0 : Nat) (x1 : Int32) (x2 : Int32) {h : AH} {res : Int32 × AH} (hf : f_X12_baits o0 x1 x2 h = some res) : CM l g yX12_baits cX12_baits 11 (some (.int)) 94 6016 0 0 [.ref (rfG g o0), .int x1, .int x2] h (some (.int res.1)) res.2 :=
  k_body (by decide) (Nat.le_of_ble_eq_true rfl) (fun p e s m below meth c R ls hR hr X I hl => w_X12_baits_0 X ⟨Nat.le_of_eq hR.1.symm, Nat.le_of_eq hR.2.1.symm⟩ hr o0 x1 x2 h ls s.heap [] hf I (lv_sub hl [0, 1, 2] rfl))
