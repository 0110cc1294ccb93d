/-! TrapCorner$CityReader.readsItems(Ljava/lang/String;[I[I[I)Z -/
theorem dX0_readsItems_0 : decode cX0_readsItems 0 = .ok (.aload 4, 2) := by decide +kernel
theorem dX0_readsItems_2 : decode cX0_readsItems 2 = .ok (.iconst 0, 1) := by decide +kernel
theorem dX0_readsItems_3 : decode cX0_readsItems 3 = .ok (.aload_n 0, 1) := by decide +kernel
theorem dX0_readsItems_4 : decode cX0_readsItems 4 = .ok (.getfield 20, 3) := by decide +kernel
theorem dX0_readsItems_7 : decode cX0_readsItems 7 = .ok (.iconst 0, 1) := by decide +kernel
theorem dX0_readsItems_8 : decode cX0_readsItems 8 = .ok (.aload 4, 2) := by decide +kernel
theorem dX0_readsItems_10 : decode cX0_readsItems 10 = .ok (.arraylength, 1) := by decide +kernel
theorem dX0_readsItems_11 : decode cX0_readsItems 11 = .ok (.invokestatic 115, 3) := by decide +kernel
theorem dX0_readsItems_14 : decode cX0_readsItems 14 = .ok (.iconst 0, 1) := by decide +kernel
theorem dX0_readsItems_15 : decode cX0_readsItems 15 = .ok (.istore 5, 2) := by decide +kernel
theorem dX0_readsItems_17 : decode cX0_readsItems 17 = .ok (.iconst 0, 1) := by decide +kernel
theorem dX0_readsItems_18 : decode cX0_readsItems 18 = .ok (.istore 6, 2) := by decide +kernel
theorem dX0_readsItems_20 : decode cX0_readsItems 20 = .ok (.iload 6, 2) := by decide +kernel
theorem dX0_readsItems_22 : decode cX0_readsItems 22 = .ok (.aload_n 1, 1) := by decide +kernel
theorem dX0_readsItems_23 : decode cX0_readsItems 23 = .ok (.invokevirtual 121, 3) := by decide +kernel
theorem dX0_readsItems_26 : decode cX0_readsItems 26 = .ok (.if_icmp .gt 136, 3) := by decide +kernel
theorem dX0_readsItems_29 : decode cX0_readsItems 29 = .ok (.aload_n 0, 1) := by decide +kernel
theorem dX0_readsItems_30 : decode cX0_readsItems 30 = .ok (.invokevirtual 45, 3) := by decide +kernel
theorem dX0_readsItems_33 : decode cX0_readsItems 33 = .ok (.istore 7, 2) := by decide +kernel
theorem dX0_readsItems_35 : decode cX0_readsItems 35 = .ok (.iload 7, 2) := by decide +kernel
theorem dX0_readsItems_37 : decode cX0_readsItems 37 = .ok (.iconst (-1), 1) := by decide +kernel
theorem dX0_readsItems_38 : decode cX0_readsItems 38 = .ok (.if_icmp .eq 10, 3) := by decide +kernel
theorem dX0_readsItems_41 : decode cX0_readsItems 41 = .ok (.iload 7, 2) := by decide +kernel
theorem dX0_readsItems_43 : decode cX0_readsItems 43 = .ok (.bipush 59, 2) := by decide +kernel
theorem dX0_readsItems_45 : decode cX0_readsItems 45 = .ok (.if_icmp .ne 5, 3) := by decide +kernel
theorem dX0_readsItems_48 : decode cX0_readsItems 48 = .ok (.iconst 1, 1) := by decide +kernel
theorem dX0_readsItems_49 : decode cX0_readsItems 49 = .ok (.ireturn, 1) := by decide +kernel
theorem dX0_readsItems_50 : decode cX0_readsItems 50 = .ok (.aload_n 1, 1) := by decide +kernel
theorem dX0_readsItems_51 : decode cX0_readsItems 51 = .ok (.iload 7, 2) := by decide +kernel
theorem dX0_readsItems_53 : decode cX0_readsItems 53 = .ok (.i2c, 1) := by decide +kernel
theorem dX0_readsItems_54 : decode cX0_readsItems 54 = .ok (.invokevirtual 126, 3) := by decide +kernel
theorem dX0_readsItems_57 : decode cX0_readsItems 57 = .ok (.istore 8, 2) := by decide +kernel
theorem dX0_readsItems_59 : decode cX0_readsItems 59 = .ok (.iload 8, 2) := by decide +kernel
theorem dX0_readsItems_61 : decode cX0_readsItems 61 = .ok (.ifCond .lt 14, 3) := by decide +kernel
theorem dX0_readsItems_64 : decode cX0_readsItems 64 = .ok (.iload 5, 2) := by decide +kernel
theorem dX0_readsItems_66 : decode cX0_readsItems 66 = .ok (.iload 8, 2) := by decide +kernel
theorem dX0_readsItems_68 : decode cX0_readsItems 68 = .ok (.ishr, 1) := by decide +kernel
theorem dX0_readsItems_69 : decode cX0_readsItems 69 = .ok (.iconst 1, 1) := by decide +kernel
theorem dX0_readsItems_70 : decode cX0_readsItems 70 = .ok (.iand, 1) := by decide +kernel
theorem dX0_readsItems_71 : decode cX0_readsItems 71 = .ok (.iconst 1, 1) := by decide +kernel
theorem dX0_readsItems_72 : decode cX0_readsItems 72 = .ok (.if_icmp .ne 12, 3) := by decide +kernel
theorem dX0_readsItems_75 : decode cX0_readsItems 75 = .ok (.aload_n 0, 1) := by decide +kernel
theorem dX0_readsItems_76 : decode cX0_readsItems 76 = .ok (.aload_n 0, 1) := by decide +kernel
theorem dX0_readsItems_77 : decode cX0_readsItems 77 = .ok (.getfield 52, 3) := by decide +kernel
theorem dX0_readsItems_80 : decode cX0_readsItems 80 = .ok (.invokevirtual 56, 3) := by decide +kernel
theorem dX0_readsItems_83 : decode cX0_readsItems 83 = .ok (.ireturn, 1) := by decide +kernel
theorem dX0_readsItems_84 : decode cX0_readsItems 84 = .ok (.iload 5, 2) := by decide +kernel
theorem dX0_readsItems_86 : decode cX0_readsItems 86 = .ok (.iconst 1, 1) := by decide +kernel
theorem dX0_readsItems_87 : decode cX0_readsItems 87 = .ok (.iload 8, 2) := by decide +kernel
theorem dX0_readsItems_89 : decode cX0_readsItems 89 = .ok (.ishl, 1) := by decide +kernel
theorem dX0_readsItems_90 : decode cX0_readsItems 90 = .ok (.ior, 1) := by decide +kernel
theorem dX0_readsItems_91 : decode cX0_readsItems 91 = .ok (.istore 5, 2) := by decide +kernel
theorem dX0_readsItems_93 : decode cX0_readsItems 93 = .ok (.aload_n 0, 1) := by decide +kernel
theorem dX0_readsItems_94 : decode cX0_readsItems 94 = .ok (.dup, 1) := by decide +kernel
theorem dX0_readsItems_95 : decode cX0_readsItems 95 = .ok (.getfield 52, 3) := by decide +kernel
theorem dX0_readsItems_98 : decode cX0_readsItems 98 = .ok (.iconst 1, 1) := by decide +kernel
theorem dX0_readsItems_99 : decode cX0_readsItems 99 = .ok (.iadd, 1) := by decide +kernel
theorem dX0_readsItems_100 : decode cX0_readsItems 100 = .ok (.putfield 52, 3) := by decide +kernel
theorem dX0_readsItems_103 : decode cX0_readsItems 103 = .ok (.aload_n 0, 1) := by decide +kernel
theorem dX0_readsItems_104 : decode cX0_readsItems 104 = .ok (.iconst 2, 1) := by decide +kernel
theorem dX0_readsItems_105 : decode cX0_readsItems 105 = .ok (.invokevirtual 130, 3) := by decide +kernel
theorem dX0_readsItems_108 : decode cX0_readsItems 108 = .ok (.istore 9, 2) := by decide +kernel
theorem dX0_readsItems_110 : decode cX0_readsItems 110 = .ok (.iload 9, 2) := by decide +kernel
theorem dX0_readsItems_112 : decode cX0_readsItems 112 = .ok (.iconst (-1), 1) := by decide +kernel
theorem dX0_readsItems_113 : decode cX0_readsItems 113 = .ok (.if_icmp .ne 5, 3) := by decide +kernel
theorem dX0_readsItems_116 : decode cX0_readsItems 116 = .ok (.iconst 0, 1) := by decide +kernel
theorem dX0_readsItems_117 : decode cX0_readsItems 117 = .ok (.ireturn, 1) := by decide +kernel
theorem dX0_readsItems_118 : decode cX0_readsItems 118 = .ok (.iload 9, 2) := by decide +kernel
theorem dX0_readsItems_120 : decode cX0_readsItems 120 = .ok (.aload_n 2, 1) := by decide +kernel
theorem dX0_readsItems_121 : decode cX0_readsItems 121 = .ok (.iload 8, 2) := by decide +kernel
theorem dX0_readsItems_123 : decode cX0_readsItems 123 = .ok (.iaload, 1) := by decide +kernel
theorem dX0_readsItems_124 : decode cX0_readsItems 124 = .ok (.if_icmp .lt 12, 3) := by decide +kernel
theorem dX0_readsItems_127 : decode cX0_readsItems 127 = .ok (.iload 9, 2) := by decide +kernel
theorem dX0_readsItems_129 : decode cX0_readsItems 129 = .ok (.aload_n 3, 1) := by decide +kernel
theorem dX0_readsItems_130 : decode cX0_readsItems 130 = .ok (.iload 8, 2) := by decide +kernel
theorem dX0_readsItems_132 : decode cX0_readsItems 132 = .ok (.iaload, 1) := by decide +kernel
theorem dX0_readsItems_133 : decode cX0_readsItems 133 = .ok (.if_icmp .le 14, 3) := by decide +kernel
theorem dX0_readsItems_136 : decode cX0_readsItems 136 = .ok (.aload_n 0, 1) := by decide +kernel
theorem dX0_readsItems_137 : decode cX0_readsItems 137 = .ok (.aload_n 0, 1) := by decide +kernel
theorem dX0_readsItems_138 : decode cX0_readsItems 138 = .ok (.getfield 52, 3) := by decide +kernel
theorem dX0_readsItems_141 : decode cX0_readsItems 141 = .ok (.iconst 1, 1) := by decide +kernel
theorem dX0_readsItems_142 : decode cX0_readsItems 142 = .ok (.isub, 1) := by decide +kernel
theorem dX0_readsItems_143 : decode cX0_readsItems 143 = .ok (.invokevirtual 56, 3) := by decide +kernel
theorem dX0_readsItems_146 : decode cX0_readsItems 146 = .ok (.ireturn, 1) := by decide +kernel
theorem dX0_readsItems_147 : decode cX0_readsItems 147 = .ok (.aload_n 0, 1) := by decide +kernel
theorem dX0_readsItems_148 : decode cX0_readsItems 148 = .ok (.getfield 20, 3) := by decide +kernel
theorem dX0_readsItems_151 : decode cX0_readsItems 151 = .ok (.iload 8, 2) := by decide +kernel
theorem dX0_readsItems_153 : decode cX0_readsItems 153 = .ok (.iload 9, 2) := by decide +kernel
theorem dX0_readsItems_155 : decode cX0_readsItems 155 = .ok (.iastore, 1) := by decide +kernel
theorem dX0_readsItems_156 : decode cX0_readsItems 156 = .ok (.iinc 6 1, 3) := by decide +kernel
theorem dX0_readsItems_159 : decode cX0_readsItems 159 = .ok (.goto (-139), 3) := by decide +kernel
theorem dX0_readsItems_162 : decode cX0_readsItems 162 = .ok (.aload_n 0, 1) := by decide +kernel
theorem dX0_readsItems_163 : decode cX0_readsItems 163 = .ok (.aload_n 0, 1) := by decide +kernel
theorem dX0_readsItems_164 : decode cX0_readsItems 164 = .ok (.getfield 52, 3) := by decide +kernel
theorem dX0_readsItems_167 : decode cX0_readsItems 167 = .ok (.invokevirtual 56, 3) := by decide +kernel
theorem dX0_readsItems_170 : decode cX0_readsItems 170 = .ok (.ireturn, 1) := by decide +kernel
theorem lk_TrapCorner_CityReader_52 : LK "TrapCorner$CityReader" 52 [0] 1 := by
  intro ci hci
  have hci := List.mem_singleton.mp hci
  subst hci
  exact ⟨RX0, TX0, 6, "TrapCorner$CityReader", ck_0, by decide, tw_138, Or.inr tw_139⟩
theorem uk_TrapCorner_CityReader_56 : UK "TrapCorner$CityReader" 56 0 ⟨"TrapCorner$CityReader", "fails", "(I)Z"⟩ yX5_fails "TrapCorner$Reader" 1 := ⟨tw_582, tw_583, tw_586, tw_3, ⟨by decide, by decide⟩, by decide +kernel, rfl, ⟨_, rfl, tw_585⟩⟩
theorem tk_TrapCorner_CityReader_121 : TK "TrapCorner$CityReader" 121 yJ0_length_8abf5 0 := ⟨tw_495, tw_496, tw_15, ⟨by decide, by decide⟩, by decide +kernel, tw_497⟩
theorem uk_TrapCorner_CityReader_45 : UK "TrapCorner$CityReader" 45 0 ⟨"TrapCorner$CityReader", "sign", "()I"⟩ yX5_sign "TrapCorner$Reader" 0 := ⟨tw_473, tw_474, tw_477, tw_3, ⟨by decide, by decide⟩, by decide +kernel, rfl, ⟨_, rfl, tw_476⟩⟩
theorem tk_TrapCorner_CityReader_126 : TK "TrapCorner$CityReader" 126 yJ0_indexOf_0f7a4 1 := ⟨tw_505, tw_506, tw_15, ⟨by decide, by decide⟩, by decide +kernel, tw_507⟩
theorem lp_TrapCorner_CityReader_52 : LKP "TrapCorner$CityReader" 52 [0] 1 (.int) := by
  intro ci hci
  have hci := List.mem_singleton.mp hci
  subst hci
  exact ⟨RX0, TX0, 6, "TrapCorner$CityReader", ck_0, by decide, tw_138, Or.inr tw_139, rfl, by decide +kernel⟩
theorem uk_TrapCorner_CityReader_130 : UK "TrapCorner$CityReader" 130 0 ⟨"TrapCorner$CityReader", "number", "(I)I"⟩ yX5_number "TrapCorner$Reader" 1 := ⟨tw_588, tw_589, tw_592, tw_3, ⟨by decide, by decide⟩, by decide +kernel, rfl, ⟨_, rfl, tw_591⟩⟩
theorem lk_TrapCorner_CityReader_20 : LK "TrapCorner$CityReader" 20 [0] 4 := by
  intro ci hci
  have hci := List.mem_singleton.mp hci
  subst hci
  exact ⟨RX0, TX0, 6, "TrapCorner$CityReader", ck_0, by decide, tw_133, Or.inl rfl⟩
section
variable {g : GG} {p : Program} {l : Launch} {e : Env} {R : Room} {s : State} {m : MethodId} {args : Array Value} {below : List Frame} {meth : Method} {c : Code} {n0 z0 : Nat}
def f_X0_readsItems_75  (o0 : Nat) (h : AH) : Option (Int32 × AH) :=
  (gI [0] h o0 1).bind fun v1 =>
  (isC [0] h o0).bind fun _ =>
  cN (f_X5_fails o0 v1 h) h fun v3 h4 =>
  rZ v3 h4
set_option maxHeartbeats 1000000 in
theorem w_X0_readsItems_75 (X : Cx g p s m args meth c cX0_readsItems 10 "TrapCorner$CityReader") (hR : 5 ≤ R.frames ∧ 320 ≤ R.locals) (hr : meth.sig.returnType = (some (.boolean))) {res : Int32 × AH} : ∀ (o0 : Nat) (h : AH) (ls : Array Slot) (H : Heap) (locs : List Loc), f_X0_readsItems_75 o0 h = some res → Iv g s n0 z0 h H locs 0 0 → lv_has ls 10 [(0, .ref (rfG g o0))] → W p l e R s m args below meth c H locs 0 0 (MQ below (QG g (some (.int res.1)) res.2) args s 0 0 (AG g)) (F0 m 75 ls []) := by
  have hx := X.1
  have hb := X.2.1
  intro o0 h ls H locs hf I hl
  unfold f_X0_readsItems_75 at hf
  refine lv_aload_n hx hb dX0_readsItems_75 rfl (lv_at hl 0 rfl) ?_
  refine lv_aload_n hx hb dX0_readsItems_76 rfl (lv_at hl 0 rfl) ?_
  obtain ⟨v1, e2, hf⟩ := Option.bind_eq_some_iff.mp hf
  refine r_gI X I e2 lk_TrapCorner_CityReader_52 dX0_readsItems_77 ?_
  obtain ⟨_, g7, hf⟩ := Option.bind_eq_some_iff.mp hf
  obtain ⟨v3, h4, e5, z6, hf⟩ := cN_spec hf
  refine k_Ui (As := [.int v1]) (rest := []) X I (c_X5_fails l g o0 v1 e5) z6 g7 uk_TrapCorner_CityReader_56 tw_587 ⟨Nat.le_trans (by decide) hR.1, Nat.le_trans (by decide) hR.2⟩ ⟨Nat.zero_le _, Nat.zero_le _⟩ rfl hl.1 rfl (Nat.le_of_ble_eq_true rfl) dX0_readsItems_80 (fun H locs I => ?_)
  obtain ⟨hz, rfl⟩ := rZ_spec hf
  exact k_rz X I hr hz dX0_readsItems_83
def f_X0_readsItems_136  (o0 : Nat) (h : AH) : Option (Int32 × AH) :=
  (gI [0] h o0 1).bind fun v1 =>
  (isC [0] h o0).bind fun _ =>
  cN (f_X5_fails o0 (v1 - 1) h) h fun v3 h4 =>
  rZ v3 h4
set_option maxHeartbeats 1000000 in
theorem w_X0_readsItems_136 (X : Cx g p s m args meth c cX0_readsItems 10 "TrapCorner$CityReader") (hR : 5 ≤ R.frames ∧ 320 ≤ R.locals) (hr : meth.sig.returnType = (some (.boolean))) {res : Int32 × AH} : ∀ (o0 : Nat) (h : AH) (ls : Array Slot) (H : Heap) (locs : List Loc), f_X0_readsItems_136 o0 h = some res → Iv g s n0 z0 h H locs 0 0 → lv_has ls 10 [(0, .ref (rfG g o0))] → W p l e R s m args below meth c H locs 0 0 (MQ below (QG g (some (.int res.1)) res.2) args s 0 0 (AG g)) (F0 m 136 ls []) := by
  have hx := X.1
  have hb := X.2.1
  intro o0 h ls H locs hf I hl
  unfold f_X0_readsItems_136 at hf
  refine lv_aload_n hx hb dX0_readsItems_136 rfl (lv_at hl 0 rfl) ?_
  refine lv_aload_n hx hb dX0_readsItems_137 rfl (lv_at hl 0 rfl) ?_
  obtain ⟨v1, e2, hf⟩ := Option.bind_eq_some_iff.mp hf
  refine r_gI X I e2 lk_TrapCorner_CityReader_52 dX0_readsItems_138 ?_
  refine lv_iconst (v := 1) hx hb dX0_readsItems_141 (by decide) ?_
  refine lv_isub hx hb dX0_readsItems_142 ?_
  obtain ⟨_, g7, hf⟩ := Option.bind_eq_some_iff.mp hf
  obtain ⟨v3, h4, e5, z6, hf⟩ := cN_spec hf
  refine k_Ui (As := [.int (v1 - 1)]) (rest := []) X I (c_X5_fails l g o0 (v1 - 1) e5) z6 g7 uk_TrapCorner_CityReader_56 tw_587 ⟨Nat.le_trans (by decide) hR.1, Nat.le_trans (by decide) hR.2⟩ ⟨Nat.zero_le _, Nat.zero_le _⟩ rfl hl.1 rfl (Nat.le_of_ble_eq_true rfl) dX0_readsItems_143 (fun H locs I => ?_)
  obtain ⟨hz, rfl⟩ := rZ_spec hf
  exact k_rz X I hr hz dX0_readsItems_146
def f_X0_readsItems_20  : Nat → Nat → Nat → Nat → Nat → Int32 → Int32 → AH → Option (Int32 × AH)
  | 0, _, _, _, _, _, _, _ => none
  | n + 1, o0, o1, o2, o3, x5, x6, h =>
  (sStr o1).bind fun _ =>
  cN (f_J0_length_8abf5 o1 h) h fun v1 h2 =>
  if v1 < x6 then
    (gI [0] h2 o0 1).bind fun v7 =>
    (isC [0] h2 o0).bind fun _ =>
    cN (f_X5_fails o0 v7 h2) h2 fun v9 h10 =>
    rZ v9 h10
  else
    (isC [0] h2 o0).bind fun _ =>
    cN (f_X5_sign o0 h2) h2 fun v14 h15 =>
    if v14 = ((-1)) then
      some (1, h15)
    else
      if v14 = 59 then
        some (1, h15)
      else
        (sStr o1).bind fun _ =>
        cN (f_J0_indexOf_0f7a4 o1 ((v14.toUInt32 % 65536).toInt32) h15) h15 fun v21 h22 =>
        if v21 < 0 then
          f_X0_readsItems_75 o0 h22
        else
          if ((x5 >>> (v21 &&& 31)) &&& 1) = 1 then
            f_X0_readsItems_75 o0 h22
          else
            (gI [0] h22 o0 1).bind fun v28 =>
            (pV [0] h22 o0 1 (.int (v28 + 1))).bind fun h30 =>
            (isC [0] h30 o0).bind fun _ =>
            cN (f_X5_number o0 2 h30) h30 fun v32 h33 =>
            if v32 = ((-1)) then
              some (0, h33)
            else
              (aI 0 h33 o2 v21).bind fun v38 =>
              if v32 < v38 then
                f_X0_readsItems_136 o0 h33
              else
                (aI 0 h33 o3 v21).bind fun v41 =>
                if v32 ≤ v41 then
                  (gR [0] h33 o0 4).bind fun v44 =>
                  (uI 0 h33 v44 v21 v32).bind fun h46 =>
                  f_X0_readsItems_20  n o0 o1 o2 o3 (x5 ||| (1 <<< (v21 &&& 31))) (x6 + 1) h46
                else
                  f_X0_readsItems_136 o0 h33
set_option maxHeartbeats 1000000 in
theorem w_X0_readsItems_20 (X : Cx g p s m args meth c cX0_readsItems 10 "TrapCorner$CityReader") (hR : 5 ≤ R.frames ∧ 320 ≤ R.locals) (hr : meth.sig.returnType = (some (.boolean))) {res : Int32 × AH} : ∀ (n : Nat) (o0 : Nat) (o1 : Nat) (o2 : Nat) (o3 : Nat) (x5 : Int32) (x6 : Int32) (h : AH) (ls : Array Slot) (H : Heap) (locs : List Loc), f_X0_readsItems_20 n o0 o1 o2 o3 x5 x6 h = some res → Iv g s n0 z0 h H locs 0 0 → lv_has ls 10 [(0, .ref (rfG g o0)), (1, .ref (rfG g o1)), (2, .ref (rfG g o2)), (3, .ref (rfG g o3)), (5, .int x5), (6, .int x6)] → W p l e R s m args below meth c H locs 0 0 (MQ below (QG g (some (.int res.1)) res.2) args s 0 0 (AG g)) (F0 m 20 ls []) := by
  have hx := X.1
  have hb := X.2.1
  intro n
  induction n with
  | zero =>
    intro o0 o1 o2 o3 x5 x6 h ls H locs hf
    rw [f_X0_readsItems_20.eq_1] at hf
    cases hf
  | succ n ih =>
    intro o0 o1 o2 o3 x5 x6 h ls H locs hf I hl
    rw [f_X0_readsItems_20.eq_2] at hf
    refine lv_iload hx hb dX0_readsItems_20 (lv_at hl 5 rfl) ?_
    refine lv_aload_n hx hb dX0_readsItems_22 rfl (lv_at hl 1 rfl) ?_
    obtain ⟨_, g5, hf⟩ := Option.bind_eq_some_iff.mp hf
    obtain ⟨v1, h2, e3, z4, hf⟩ := cN_spec hf
    refine k_Ti (As := []) (rest := [.int x6]) X I (c_J0_length_8abf5 l g o1 e3) z4 g5 tk_TrapCorner_CityReader_121 tw_498 ⟨Nat.le_trans (by decide) hR.1, Nat.le_trans (by decide) hR.2⟩ ⟨Nat.zero_le _, Nat.zero_le _⟩ rfl hl.1 rfl (Nat.le_of_ble_eq_true rfl) dX0_readsItems_23 (fun H locs I => ?_)
    refine lv_icmp_gt (tgt := 162) hx hb dX0_readsItems_26 (by decide) (fun c6 => ?_) (fun c6 => ?_)
    · rw [if_pos c6] at hf
      refine lv_aload_n hx hb dX0_readsItems_162 rfl (lv_at hl 0 rfl) ?_
      refine lv_aload_n hx hb dX0_readsItems_163 rfl (lv_at hl 0 rfl) ?_
      obtain ⟨v7, e8, hf⟩ := Option.bind_eq_some_iff.mp hf
      refine r_gI X I e8 lk_TrapCorner_CityReader_52 dX0_readsItems_164 ?_
      obtain ⟨_, g13, hf⟩ := Option.bind_eq_some_iff.mp hf
      obtain ⟨v9, h10, e11, z12, hf⟩ := cN_spec hf
      refine k_Ui (As := [.int v7]) (rest := []) X I (c_X5_fails l g o0 v7 e11) z12 g13 uk_TrapCorner_CityReader_56 tw_587 ⟨Nat.le_trans (by decide) hR.1, Nat.le_trans (by decide) hR.2⟩ ⟨Nat.zero_le _, Nat.zero_le _⟩ rfl hl.1 rfl (Nat.le_of_ble_eq_true rfl) dX0_readsItems_167 (fun H locs I => ?_)
      obtain ⟨hz, rfl⟩ := rZ_spec hf
      exact k_rz X I hr hz dX0_readsItems_170
    · rw [if_neg c6] at hf
      refine lv_aload_n hx hb dX0_readsItems_29 rfl (lv_at hl 0 rfl) ?_
      obtain ⟨_, g18, hf⟩ := Option.bind_eq_some_iff.mp hf
      obtain ⟨v14, h15, e16, z17, hf⟩ := cN_spec hf
      refine k_Ui (As := []) (rest := []) X I (c_X5_sign l g o0 e16) z17 g18 uk_TrapCorner_CityReader_45 tw_478 ⟨Nat.le_trans (by decide) hR.1, Nat.le_trans (by decide) hR.2⟩ ⟨Nat.zero_le _, Nat.zero_le _⟩ rfl hl.1 rfl (Nat.le_of_ble_eq_true rfl) dX0_readsItems_30 (fun H locs I => ?_)
      refine lv_istore (lv' := [(7, .int v14), (0, .ref (rfG g o0)), (1, .ref (rfG g o1)), (2, .ref (rfG g o2)), (3, .ref (rfG g o3)), (5, .int x5), (6, .int x6)]) hx hb dX0_readsItems_33 hl (by decide) rfl (fun ls hl => ?_)
      refine lv_iload hx hb dX0_readsItems_35 (lv_at hl 0 rfl) ?_
      refine lv_iconst (v := (-1)) hx hb dX0_readsItems_37 (by decide) ?_
      refine lv_icmp_eq (tgt := 48) hx hb dX0_readsItems_38 (by decide) (fun c19 => ?_) (fun c19 => ?_)
      · rw [if_pos c19] at hf
        refine lv_iconst (v := 1) hx hb dX0_readsItems_48 (by decide) ?_
        cases hf
        exact k_rz X I hr (Or.inr rfl) dX0_readsItems_49
      · rw [if_neg c19] at hf
        refine lv_iload hx hb dX0_readsItems_41 (lv_at hl 0 rfl) ?_
        refine lv_bipush (v := 59) hx hb dX0_readsItems_43 (by decide) ?_
        refine lv_icmp_ne (tgt := 50) hx hb dX0_readsItems_45 (by decide) (fun c20 => ?_) (fun c20 => ?_)
        · rw [if_neg c20] at hf
          refine lv_aload_n hx hb dX0_readsItems_50 rfl (lv_at hl 2 rfl) ?_
          refine lv_iload hx hb dX0_readsItems_51 (lv_at hl 0 rfl) ?_
          refine lv_i2c hx hb dX0_readsItems_53 rfl ?_
          obtain ⟨_, g25, hf⟩ := Option.bind_eq_some_iff.mp hf
          obtain ⟨v21, h22, e23, z24, hf⟩ := cN_spec hf
          refine k_Ti (As := [.int ((v14.toUInt32 % 65536).toInt32)]) (rest := []) X I (c_J0_indexOf_0f7a4 l g o1 ((v14.toUInt32 % 65536).toInt32) e23) z24 g25 tk_TrapCorner_CityReader_126 tw_508 ⟨Nat.le_trans (by decide) hR.1, Nat.le_trans (by decide) hR.2⟩ ⟨Nat.zero_le _, Nat.zero_le _⟩ rfl hl.1 rfl (Nat.le_of_ble_eq_true rfl) dX0_readsItems_54 (fun H locs I => ?_)
          refine lv_istore (lv' := [(8, .int v21), (7, .int v14), (0, .ref (rfG g o0)), (1, .ref (rfG g o1)), (2, .ref (rfG g o2)), (3, .ref (rfG g o3)), (5, .int x5), (6, .int x6)]) hx hb dX0_readsItems_57 hl (by decide) rfl (fun ls hl => ?_)
          refine lv_iload hx hb dX0_readsItems_59 (lv_at hl 0 rfl) ?_
          refine lv_if_lt (tgt := 75) hx hb dX0_readsItems_61 (by decide) (fun c26 => ?_) (fun c26 => ?_)
          · rw [if_pos c26] at hf
            exact w_X0_readsItems_75 X hR hr  o0 h22 ls H locs hf I (lv_sub hl [2] rfl)
          · rw [if_neg c26] at hf
            refine lv_iload hx hb dX0_readsItems_64 (lv_at hl 6 rfl) ?_
            refine lv_iload hx hb dX0_readsItems_66 (lv_at hl 0 rfl) ?_
            refine lv_ishr hx hb dX0_readsItems_68 ?_
            refine lv_iconst (v := 1) hx hb dX0_readsItems_69 (by decide) ?_
            refine lv_iand hx hb dX0_readsItems_70 ?_
            refine lv_iconst (v := 1) hx hb dX0_readsItems_71 (by decide) ?_
            refine lv_icmp_ne (tgt := 84) hx hb dX0_readsItems_72 (by decide) (fun c27 => ?_) (fun c27 => ?_)
            · rw [if_neg c27] at hf
              refine lv_iload hx hb dX0_readsItems_84 (lv_at hl 6 rfl) ?_
              refine lv_iconst (v := 1) hx hb dX0_readsItems_86 (by decide) ?_
              refine lv_iload hx hb dX0_readsItems_87 (lv_at hl 0 rfl) ?_
              refine lv_ishl hx hb dX0_readsItems_89 ?_
              refine lv_ior hx hb dX0_readsItems_90 ?_
              refine lv_istore (lv' := [(5, .int (x5 ||| (1 <<< (v21 &&& 31)))), (8, .int v21), (7, .int v14), (0, .ref (rfG g o0)), (1, .ref (rfG g o1)), (2, .ref (rfG g o2)), (3, .ref (rfG g o3)), (6, .int x6)]) hx hb dX0_readsItems_91 hl (by decide) rfl (fun ls hl => ?_)
              refine lv_aload_n hx hb dX0_readsItems_93 rfl (lv_at hl 3 rfl) ?_
              refine lv_dup hx hb dX0_readsItems_94 rfl ?_
              obtain ⟨v28, e29, hf⟩ := Option.bind_eq_some_iff.mp hf
              refine r_gI X I e29 lk_TrapCorner_CityReader_52 dX0_readsItems_95 ?_
              refine lv_iconst (v := 1) hx hb dX0_readsItems_98 (by decide) ?_
              refine lv_iadd hx hb dX0_readsItems_99 ?_
              obtain ⟨h30, e31, hf⟩ := Option.bind_eq_some_iff.mp hf
              refine r_pI X I e31 lp_TrapCorner_CityReader_52 dX0_readsItems_100 (fun H locs I => ?_)
              refine lv_aload_n hx hb dX0_readsItems_103 rfl (lv_at hl 3 rfl) ?_
              refine lv_iconst (v := 2) hx hb dX0_readsItems_104 (by decide) ?_
              obtain ⟨_, g36, hf⟩ := Option.bind_eq_some_iff.mp hf
              obtain ⟨v32, h33, e34, z35, hf⟩ := cN_spec hf
              refine k_Ui (As := [.int 2]) (rest := []) X I (c_X5_number l g o0 2 e34) z35 g36 uk_TrapCorner_CityReader_130 tw_593 ⟨Nat.le_trans (by decide) hR.1, Nat.le_trans (by decide) hR.2⟩ ⟨Nat.zero_le _, Nat.zero_le _⟩ rfl hl.1 rfl (Nat.le_of_ble_eq_true rfl) dX0_readsItems_105 (fun H locs I => ?_)
              refine lv_istore (lv' := [(9, .int v32), (5, .int (x5 ||| (1 <<< (v21 &&& 31)))), (8, .int v21), (7, .int v14), (0, .ref (rfG g o0)), (1, .ref (rfG g o1)), (2, .ref (rfG g o2)), (3, .ref (rfG g o3)), (6, .int x6)]) hx hb dX0_readsItems_108 hl (by decide) rfl (fun ls hl => ?_)
              refine lv_iload hx hb dX0_readsItems_110 (lv_at hl 0 rfl) ?_
              refine lv_iconst (v := (-1)) hx hb dX0_readsItems_112 (by decide) ?_
              refine lv_icmp_ne (tgt := 118) hx hb dX0_readsItems_113 (by decide) (fun c37 => ?_) (fun c37 => ?_)
              · rw [if_neg c37] at hf
                refine lv_iload hx hb dX0_readsItems_118 (lv_at hl 0 rfl) ?_
                refine lv_aload_n hx hb dX0_readsItems_120 rfl (lv_at hl 6 rfl) ?_
                refine lv_iload hx hb dX0_readsItems_121 (lv_at hl 2 rfl) ?_
                obtain ⟨v38, e39, hf⟩ := Option.bind_eq_some_iff.mp hf
                refine r_aI0 X I e39 dX0_readsItems_123 ?_
                refine lv_icmp_lt (tgt := 136) hx hb dX0_readsItems_124 (by decide) (fun c40 => ?_) (fun c40 => ?_)
                · rw [if_pos c40] at hf
                  exact w_X0_readsItems_136 X hR hr  o0 h33 ls H locs hf I (lv_sub hl [4] rfl)
                · rw [if_neg c40] at hf
                  refine lv_iload hx hb dX0_readsItems_127 (lv_at hl 0 rfl) ?_
                  refine lv_aload_n hx hb dX0_readsItems_129 rfl (lv_at hl 7 rfl) ?_
                  refine lv_iload hx hb dX0_readsItems_130 (lv_at hl 2 rfl) ?_
                  obtain ⟨v41, e42, hf⟩ := Option.bind_eq_some_iff.mp hf
                  refine r_aI0 X I e42 dX0_readsItems_132 ?_
                  refine lv_icmp_le (tgt := 147) hx hb dX0_readsItems_133 (by decide) (fun c43 => ?_) (fun c43 => ?_)
                  · rw [if_pos c43] at hf
                    refine lv_aload_n hx hb dX0_readsItems_147 rfl (lv_at hl 4 rfl) ?_
                    obtain ⟨v44, e45, hf⟩ := Option.bind_eq_some_iff.mp hf
                    refine r_gR X I e45 lk_TrapCorner_CityReader_20 dX0_readsItems_148 ?_
                    refine lv_iload hx hb dX0_readsItems_151 (lv_at hl 2 rfl) ?_
                    refine lv_iload hx hb dX0_readsItems_153 (lv_at hl 0 rfl) ?_
                    obtain ⟨h46, e47, hf⟩ := Option.bind_eq_some_iff.mp hf
                    refine r_uI0 X I e47 dX0_readsItems_155 (fun H locs I => ?_)
                    refine lv_iinc (v := x6 + 1) (lv' := [(6, .int (x6 + 1)), (9, .int v32), (5, .int (x5 ||| (1 <<< (v21 &&& 31)))), (8, .int v21), (7, .int v14), (0, .ref (rfG g o0)), (1, .ref (rfG g o1)), (2, .ref (rfG g o2)), (3, .ref (rfG g o3))]) hx hb dX0_readsItems_156 hl (k := 8) rfl rfl (by decide) rfl (fun ls hl => ?_)
                    refine lv_goto (tgt := 20) hx hb dX0_readsItems_159 (by decide) ?_
                    exact ih o0 o1 o2 o3 (x5 ||| (1 <<< (v21 &&& 31))) (x6 + 1) h46 ls H locs hf I (lv_sub hl [5, 6, 7, 8, 2, 0] rfl)
                  · rw [if_neg c43] at hf
                    exact w_X0_readsItems_136 X hR hr  o0 h33 ls H locs hf I (lv_sub hl [4] rfl)
              · rw [if_pos c37] at hf
                refine lv_iconst (v := 0) hx hb dX0_readsItems_116 (by decide) ?_
                cases hf
                exact k_rz X I hr (Or.inl rfl) dX0_readsItems_117
            · rw [if_pos c27] at hf
              exact w_X0_readsItems_75 X hR hr  o0 h22 ls H locs hf I (lv_sub hl [2] rfl)
        · rw [if_pos c20] at hf
          refine lv_iconst (v := 1) hx hb dX0_readsItems_48 (by decide) ?_
          cases hf
          exact k_rz X I hr (Or.inr rfl) dX0_readsItems_49
def f_X0_readsItems_0  (o0 : Nat) (o1 : Nat) (o2 : Nat) (o3 : Nat) (o4 : Nat) (h : AH) : Option (Int32 × AH) :=
  (gR [0] h o0 4).bind fun v1 =>
  (aLen h o4).bind fun v3 =>
  (aCpy h o4 0 v1 0 v3).bind fun h5 =>
  f_X0_readsItems_20 fu o0 o1 o2 o3 0 0 h5
set_option maxHeartbeats 1000000 in
theorem w_X0_readsItems_0 (X : Cx g p s m args meth c cX0_readsItems 10 "TrapCorner$CityReader") (hR : 5 ≤ R.frames ∧ 320 ≤ R.locals) (hr : meth.sig.returnType = (some (.boolean))) {res : Int32 × AH} : ∀ (o0 : Nat) (o1 : Nat) (o2 : Nat) (o3 : Nat) (o4 : Nat) (h : AH) (ls : Array Slot) (H : Heap) (locs : List Loc), f_X0_readsItems_0 o0 o1 o2 o3 o4 h = some res → Iv g s n0 z0 h H locs 0 0 → lv_has ls 10 [(0, .ref (rfG g o0)), (1, .ref (rfG g o1)), (2, .ref (rfG g o2)), (3, .ref (rfG g o3)), (4, .ref (rfG g o4))] → W p l e R s m args below meth c H locs 0 0 (MQ below (QG g (some (.int res.1)) res.2) args s 0 0 (AG g)) (F0 m 0 ls []) := by
  have hx := X.1
  have hb := X.2.1
  intro o0 o1 o2 o3 o4 h ls H locs hf I hl
  unfold f_X0_readsItems_0 at hf
  refine lv_aload hx hb dX0_readsItems_0 (lv_at hl 4 rfl) ?_
  refine lv_iconst (v := 0) hx hb dX0_readsItems_2 (by decide) ?_
  refine lv_aload_n hx hb dX0_readsItems_3 rfl (lv_at hl 0 rfl) ?_
  obtain ⟨v1, e2, hf⟩ := Option.bind_eq_some_iff.mp hf
  refine r_gR X I e2 lk_TrapCorner_CityReader_20 dX0_readsItems_4 ?_
  refine lv_iconst (v := 0) hx hb dX0_readsItems_7 (by decide) ?_
  refine lv_aload hx hb dX0_readsItems_8 (lv_at hl 4 rfl) ?_
  obtain ⟨v3, e4, hf⟩ := Option.bind_eq_some_iff.mp hf
  refine r_len X I e4 dX0_readsItems_10 ?_
  obtain ⟨h5, e6, hf⟩ := Option.bind_eq_some_iff.mp hf
  refine r_cpy X I e6 tw_492 ⟨Nat.le_trans (by decide) hR.1, Nat.le_trans (by decide) hR.2⟩ hl.1 (Nat.le_of_ble_eq_true rfl) dX0_readsItems_11 (fun H locs I => ?_)
  refine lv_iconst (v := 0) hx hb dX0_readsItems_14 (by decide) ?_
  refine lv_istore (lv' := [(5, .int 0), (0, .ref (rfG g o0)), (1, .ref (rfG g o1)), (2, .ref (rfG g o2)), (3, .ref (rfG g o3)), (4, .ref (rfG g o4))]) hx hb dX0_readsItems_15 hl (by decide) rfl (fun ls hl => ?_)
  refine lv_iconst (v := 0) hx hb dX0_readsItems_17 (by decide) ?_
  refine lv_istore (lv' := [(6, .int 0), (5, .int 0), (0, .ref (rfG g o0)), (1, .ref (rfG g o1)), (2, .ref (rfG g o2)), (3, .ref (rfG g o3)), (4, .ref (rfG g o4))]) hx hb dX0_readsItems_18 hl (by decide) rfl (fun ls hl => ?_)
  exact w_X0_readsItems_20 X hR hr fu o0 o1 o2 o3 0 0 h5 ls H locs hf I (lv_sub hl [2, 3, 4, 5, 1, 0] rfl)
def f_X0_readsItems (o0 : Nat) (o1 : Nat) (o2 : Nat) (o3 : Nat) (o4 : Nat) (h : AH) : Option (Int32 × AH) := f_X0_readsItems_0 o0 o1 o2 o3 o4 h
end
theorem c_X0_readsItems (l : Launch) (g : GG) (o0 : Nat) (o1 : Nat) (o2 : Nat) (o3 : Nat) (o4 : Nat) {h : AH} {res : Int32 × AH} (hf : f_X0_readsItems o0 o1 o2 o3 o4 h = some res) : CM l g yX0_readsItems cX0_readsItems 10 (some (.boolean)) 5 320 0 0 [.ref (rfG g o0), .ref (rfG g o1), .ref (rfG g o2), .ref (rfG g o3), .ref (rfG g o4)] h (some (.int res.1)) res.2 :=
  k_body (by decide) (Nat.le_of_ble_eq_true rfl) (fun p e s m below meth c R ls hR hr X I hl => w_X0_readsItems_0 X ⟨Nat.le_of_eq hR.1.symm, Nat.le_of_eq hR.2.1.symm⟩ hr o0 o1 o2 o3 o4 h ls s.heap [] hf I (lv_sub hl [0, 1, 2, 3, 4] rfl))
/-! TrapCorner$LawReader.readsBody()Z -/
theorem dX2_readsBody_0 : decode cX2_readsBody 0 = .ok (.aload_n 0, 1) := by decide +kernel
theorem dX2_readsBody_1 : decode cX2_readsBody 1 = .ok (.invokevirtual 43, 3) := by decide +kernel
theorem dX2_readsBody_4 : decode cX2_readsBody 4 = .ok (.invokestatic 53, 3) := by decide +kernel
theorem dX2_readsBody_7 : decode cX2_readsBody 7 = .ok (.istore_n 1, 1) := by decide +kernel
theorem dX2_readsBody_8 : decode cX2_readsBody 8 = .ok (.iload_n 1, 1) := by decide +kernel
theorem dX2_readsBody_9 : decode cX2_readsBody 9 = .ok (.ifCond .ne 26, 3) := by decide +kernel
theorem dX2_readsBody_12 : decode cX2_readsBody 12 = .ok (.aload_n 0, 1) := by decide +kernel
theorem dX2_readsBody_13 : decode cX2_readsBody 13 = .ok (.iconst 0, 1) := by decide +kernel
theorem dX2_readsBody_14 : decode cX2_readsBody 14 = .ok (.invokevirtual 56, 3) := by decide +kernel
theorem dX2_readsBody_17 : decode cX2_readsBody 17 = .ok (.ifCond .ne 5, 3) := by decide +kernel
theorem dX2_readsBody_20 : decode cX2_readsBody 20 = .ok (.iconst 0, 1) := by decide +kernel
theorem dX2_readsBody_21 : decode cX2_readsBody 21 = .ok (.ireturn, 1) := by decide +kernel
theorem dX2_readsBody_22 : decode cX2_readsBody 22 = .ok (.aload_n 0, 1) := by decide +kernel
theorem dX2_readsBody_23 : decode cX2_readsBody 23 = .ok (.invokevirtual 43, 3) := by decide +kernel
theorem dX2_readsBody_26 : decode cX2_readsBody 26 = .ok (.invokestatic 59, 3) := by decide +kernel
theorem dX2_readsBody_29 : decode cX2_readsBody 29 = .ok (.iconst (-1), 1) := by decide +kernel
theorem dX2_readsBody_30 : decode cX2_readsBody 30 = .ok (.if_icmp .ne 5, 3) := by decide +kernel
theorem dX2_readsBody_33 : decode cX2_readsBody 33 = .ok (.iconst 1, 1) := by decide +kernel
theorem dX2_readsBody_34 : decode cX2_readsBody 34 = .ok (.ireturn, 1) := by decide +kernel
theorem dX2_readsBody_35 : decode cX2_readsBody 35 = .ok (.aload_n 0, 1) := by decide +kernel
theorem dX2_readsBody_36 : decode cX2_readsBody 36 = .ok (.iconst 0, 1) := by decide +kernel
theorem dX2_readsBody_37 : decode cX2_readsBody 37 = .ok (.iload_n 1, 1) := by decide +kernel
theorem dX2_readsBody_38 : decode cX2_readsBody 38 = .ok (.ifCond .ne 7, 3) := by decide +kernel
theorem dX2_readsBody_41 : decode cX2_readsBody 41 = .ok (.iconst 1, 1) := by decide +kernel
theorem dX2_readsBody_42 : decode cX2_readsBody 42 = .ok (.goto 4, 3) := by decide +kernel
theorem dX2_readsBody_45 : decode cX2_readsBody 45 = .ok (.iconst 0, 1) := by decide +kernel
theorem dX2_readsBody_46 : decode cX2_readsBody 46 = .ok (.invokevirtual 63, 3) := by decide +kernel
theorem dX2_readsBody_49 : decode cX2_readsBody 49 = .ok (.ifCond .eq 12, 3) := by decide +kernel
theorem dX2_readsBody_52 : decode cX2_readsBody 52 = .ok (.aload_n 0, 1) := by decide +kernel
theorem dX2_readsBody_53 : decode cX2_readsBody 53 = .ok (.bipush 63, 2) := by decide +kernel
theorem dX2_readsBody_55 : decode cX2_readsBody 55 = .ok (.invokevirtual 29, 3) := by decide +kernel
theorem dX2_readsBody_58 : decode cX2_readsBody 58 = .ok (.ifCond .ne 5, 3) := by decide +kernel
theorem dX2_readsBody_61 : decode cX2_readsBody 61 = .ok (.iconst 0, 1) := by decide +kernel
theorem dX2_readsBody_62 : decode cX2_readsBody 62 = .ok (.ireturn, 1) := by decide +kernel
theorem dX2_readsBody_63 : decode cX2_readsBody 63 = .ok (.aload_n 0, 1) := by decide +kernel
theorem dX2_readsBody_64 : decode cX2_readsBody 64 = .ok (.sipush 10016, 3) := by decide +kernel
theorem dX2_readsBody_67 : decode cX2_readsBody 67 = .ok (.invokevirtual 39, 3) := by decide +kernel
theorem dX2_readsBody_70 : decode cX2_readsBody 70 = .ok (.aload_n 0, 1) := by decide +kernel
theorem dX2_readsBody_71 : decode cX2_readsBody 71 = .ok (.iconst 0, 1) := by decide +kernel
theorem dX2_readsBody_72 : decode cX2_readsBody 72 = .ok (.invokevirtual 56, 3) := by decide +kernel
theorem dX2_readsBody_75 : decode cX2_readsBody 75 = .ok (.ireturn, 1) := by decide +kernel
section
variable {g : GG} {p : Program} {l : Launch} {e : Env} {R : Room} {s : State} {m : MethodId} {args : Array Value} {below : List Frame} {meth : Method} {c : Code} {n0 z0 : Nat}
def f_X2_readsBody_46  (o0 : Nat) (s0 : Nat) (s1 : Int32) (s2 : Int32) (h : AH) : Option (Int32 × AH) :=
  (isC [2] h s0).bind fun _ =>
  cN (fc_X2_readsCondition s0 s1 s2 h) h fun v1 h2 =>
  if v1 = 0 then
    some (0, h2)
  else
    (isC [2] h2 o0).bind fun _ =>
    cN (f_X5_takes o0 63 h2) h2 fun v7 h8 =>
    if v7 = 0 then
      some (0, h8)
    else
      (isC [2] h8 o0).bind fun _ =>
      cN (f_X2_emit o0 10016 h8) h8 fun _ h14 =>
      (isC [2] h14 o0).bind fun _ =>
      cN (fc_X2_readsSum o0 0 h14) h14 fun v18 h19 =>
      rZ v18 h19
set_option maxHeartbeats 1000000 in
theorem w_X2_readsBody_46 (X : Cx g p s m args meth c cX2_readsBody 2 "TrapCorner$LawReader") (hR : 66 ≤ R.frames ∧ 4224 ≤ R.locals) (hr : meth.sig.returnType = (some (.boolean))) {res : Int32 × AH} : ∀ (o0 : Nat) (s0 : Nat) (s1 : Int32) (s2 : Int32) (h : AH) (ls : Array Slot) (H : Heap) (locs : List Loc), f_X2_readsBody_46 o0 s0 s1 s2 h = some res → Iv g s n0 z0 h H locs 0 0 → lv_has ls 2 [(0, .ref (rfG g o0))] → W p l e R s m args below meth c H locs 0 0 (MQ below (QG g (some (.int res.1)) res.2) args s 0 0 (AG g)) (F0 m 46 ls [.int s2, .int s1, .ref (rfG g s0)]) := by
  have hx := X.1
  have hb := X.2.1
  intro o0 s0 s1 s2 h ls H locs hf I hl
  unfold f_X2_readsBody_46 at hf
  obtain ⟨_, g5, hf⟩ := Option.bind_eq_some_iff.mp hf
  obtain ⟨v1, h2, e3, z4, hf⟩ := cN_spec hf
  refine k_Vi (As := [.int s1, .int s2]) (rest := []) X I (cc_X2_readsCondition l g s0 s1 s2 e3) z4 g5 vk_TrapCorner_LawReader_63 tw_685 ⟨Nat.le_trans (by decide) hR.1, Nat.le_trans (by decide) hR.2⟩ ⟨Nat.zero_le _, Nat.zero_le _⟩ rfl hl.1 rfl (Nat.le_of_ble_eq_true rfl) dX2_readsBody_46 (fun H locs I => ?_)
  refine lv_if_eq (tgt := 61) hx hb dX2_readsBody_49 (by decide) (fun c6 => ?_) (fun c6 => ?_)
  · rw [if_pos c6] at hf
    refine lv_iconst (v := 0) hx hb dX2_readsBody_61 (by decide) ?_
    cases hf
    exact k_rz X I hr (Or.inl rfl) dX2_readsBody_62
  · rw [if_neg c6] at hf
    refine lv_aload_n hx hb dX2_readsBody_52 rfl (lv_at hl 0 rfl) ?_
    refine lv_bipush (v := 63) hx hb dX2_readsBody_53 (by decide) ?_
    obtain ⟨_, g11, hf⟩ := Option.bind_eq_some_iff.mp hf
    obtain ⟨v7, h8, e9, z10, hf⟩ := cN_spec hf
    refine k_Ui (As := [.int 63]) (rest := []) X I (c_X5_takes l g o0 63 e9) z10 g11 uk_TrapCorner_LawReader_29 tw_648 ⟨Nat.le_trans (by decide) hR.1, Nat.le_trans (by decide) hR.2⟩ ⟨Nat.zero_le _, Nat.zero_le _⟩ rfl hl.1 rfl (Nat.le_of_ble_eq_true rfl) dX2_readsBody_55 (fun H locs I => ?_)
    refine lv_if_ne (tgt := 63) hx hb dX2_readsBody_58 (by decide) (fun c12 => ?_) (fun c12 => ?_)
    · rw [if_neg c12] at hf
      refine lv_aload_n hx hb dX2_readsBody_63 rfl (lv_at hl 0 rfl) ?_
      refine lv_sipush (v := 10016) hx hb dX2_readsBody_64 (by decide) ?_
      obtain ⟨_, g17, hf⟩ := Option.bind_eq_some_iff.mp hf
      obtain ⟨⟨⟩, h14, e15, z16, hf⟩ := cN_spec hf
      refine k_Vv (As := [.int 10016]) (rest := []) X I (c_X2_emit l g o0 10016 e15) z16 g17 vk_TrapCorner_LawReader_39 tw_675 ⟨Nat.le_trans (by decide) hR.1, Nat.le_trans (by decide) hR.2⟩ ⟨Nat.zero_le _, Nat.zero_le _⟩ rfl hl.1 rfl (Nat.le_of_ble_eq_true rfl) dX2_readsBody_67 (fun H locs I => ?_)
      refine lv_aload_n hx hb dX2_readsBody_70 rfl (lv_at hl 0 rfl) ?_
      refine lv_iconst (v := 0) hx hb dX2_readsBody_71 (by decide) ?_
      obtain ⟨_, g22, hf⟩ := Option.bind_eq_some_iff.mp hf
      obtain ⟨v18, h19, e20, z21, hf⟩ := cN_spec hf
      refine k_Vi (As := [.int 0]) (rest := []) X I (cc_X2_readsSum l g o0 0 e20) z21 g22 vk_TrapCorner_LawReader_56 tw_662 ⟨Nat.le_trans (by decide) hR.1, Nat.le_trans (by decide) hR.2⟩ ⟨Nat.zero_le _, Nat.zero_le _⟩ rfl hl.1 rfl (Nat.le_of_ble_eq_true rfl) dX2_readsBody_72 (fun H locs I => ?_)
      obtain ⟨hz, rfl⟩ := rZ_spec hf
      exact k_rz X I hr hz dX2_readsBody_75
    · rw [if_pos c12] at hf
      refine lv_iconst (v := 0) hx hb dX2_readsBody_61 (by decide) ?_
      cases hf
      exact k_rz X I hr (Or.inl rfl) dX2_readsBody_62
def f_X2_readsBody_35  (o0 : Nat) (x1 : Int32) (h : AH) : Option (Int32 × AH) :=
  if x1 = 0 then
    f_X2_readsBody_46 o0 o0 0 1 h
  else
    f_X2_readsBody_46 o0 o0 0 0 h
set_option maxHeartbeats 1000000 in
theorem w_X2_readsBody_35 (X : Cx g p s m args meth c cX2_readsBody 2 "TrapCorner$LawReader") (hR : 66 ≤ R.frames ∧ 4224 ≤ R.locals) (hr : meth.sig.returnType = (some (.boolean))) {res : Int32 × AH} : ∀ (o0 : Nat) (x1 : Int32) (h : AH) (ls : Array Slot) (H : Heap) (locs : List Loc), f_X2_readsBody_35 o0 x1 h = some res → Iv g s n0 z0 h H locs 0 0 → lv_has ls 2 [(0, .ref (rfG g o0)), (1, .int x1)] → W p l e R s m args below meth c H locs 0 0 (MQ below (QG g (some (.int res.1)) res.2) args s 0 0 (AG g)) (F0 m 35 ls []) := by
  have hx := X.1
  have hb := X.2.1
  intro o0 x1 h ls H locs hf I hl
  unfold f_X2_readsBody_35 at hf
  refine lv_aload_n hx hb dX2_readsBody_35 rfl (lv_at hl 0 rfl) ?_
  refine lv_iconst (v := 0) hx hb dX2_readsBody_36 (by decide) ?_
  refine lv_iload_n hx hb dX2_readsBody_37 rfl (lv_at hl 1 rfl) ?_
  refine lv_if_ne (tgt := 45) hx hb dX2_readsBody_38 (by decide) (fun c1 => ?_) (fun c1 => ?_)
  · rw [if_neg c1] at hf
    refine lv_iconst (v := 0) hx hb dX2_readsBody_45 (by decide) ?_
    exact w_X2_readsBody_46 X hR hr  o0 o0 0 0 h ls H locs hf I (lv_sub hl [0] rfl)
  · rw [if_pos c1] at hf
    refine lv_iconst (v := 1) hx hb dX2_readsBody_41 (by decide) ?_
    refine lv_goto (tgt := 46) hx hb dX2_readsBody_42 (by decide) ?_
    exact w_X2_readsBody_46 X hR hr  o0 o0 0 1 h ls H locs hf I (lv_sub hl [0] rfl)
def f_X2_readsBody_0  (o0 : Nat) (h : AH) : Option (Int32 × AH) :=
  (isC [2] h o0).bind fun _ =>
  cN (f_X5_sign o0 h) h fun v1 h2 =>
  cN (f_X2_startsUnit v1 h2) h2 fun v6 h7 =>
  if v6 = 0 then
    (isC [2] h7 o0).bind fun _ =>
    cN (fc_X2_readsSum o0 0 h7) h7 fun v11 h12 =>
    if v11 = 0 then
      some (0, h12)
    else
      (isC [2] h12 o0).bind fun _ =>
      cN (f_X5_sign o0 h12) h12 fun v17 h18 =>
      cN (f_X2_comparing v17 h18) h18 fun v22 h23 =>
      if v22 = ((-1)) then
        some (1, h23)
      else
        f_X2_readsBody_35 o0 v6 h23
  else
    f_X2_readsBody_35 o0 v6 h7
set_option maxHeartbeats 1000000 in
theorem w_X2_readsBody_0 (X : Cx g p s m args meth c cX2_readsBody 2 "TrapCorner$LawReader") (hR : 66 ≤ R.frames ∧ 4224 ≤ R.locals) (hr : meth.sig.returnType = (some (.boolean))) {res : Int32 × AH} : ∀ (o0 : Nat) (h : AH) (ls : Array Slot) (H : Heap) (locs : List Loc), f_X2_readsBody_0 o0 h = some res → Iv g s n0 z0 h H locs 0 0 → lv_has ls 2 [(0, .ref (rfG g o0))] → W p l e R s m args below meth c H locs 0 0 (MQ below (QG g (some (.int res.1)) res.2) args s 0 0 (AG g)) (F0 m 0 ls []) := by
  have hx := X.1
  have hb := X.2.1
  intro o0 h ls H locs hf I hl
  unfold f_X2_readsBody_0 at hf
  refine lv_aload_n hx hb dX2_readsBody_0 rfl (lv_at hl 0 rfl) ?_
  obtain ⟨_, g5, hf⟩ := Option.bind_eq_some_iff.mp hf
  obtain ⟨v1, h2, e3, z4, hf⟩ := cN_spec hf
  refine k_Ui (As := []) (rest := []) X I (c_X5_sign l g o0 e3) z4 g5 uk_TrapCorner_LawReader_43 tw_478 ⟨Nat.le_trans (by decide) hR.1, Nat.le_trans (by decide) hR.2⟩ ⟨Nat.zero_le _, Nat.zero_le _⟩ rfl hl.1 rfl (Nat.le_of_ble_eq_true rfl) dX2_readsBody_1 (fun H locs I => ?_)
  obtain ⟨v6, h7, e8, z9, hf⟩ := cN_spec hf
  refine k_Si (As := [.int v1]) (rest := []) X I (c_X2_startsUnit l g v1 e8) z9 sk_TrapCorner_LawReader_53 tw_658 ⟨Nat.le_trans (by decide) hR.1, Nat.le_trans (by decide) hR.2⟩ ⟨Nat.zero_le _, Nat.zero_le _⟩ rfl hl.1 rfl (Nat.le_of_ble_eq_true rfl) dX2_readsBody_4 (fun H locs I => ?_)
  refine lv_istore_n (lv' := [(1, .int v6), (0, .ref (rfG g o0))]) hx hb dX2_readsBody_7 rfl hl (by decide) rfl (fun ls hl => ?_)
  refine lv_iload_n hx hb dX2_readsBody_8 rfl (lv_at hl 0 rfl) ?_
  refine lv_if_ne (tgt := 35) hx hb dX2_readsBody_9 (by decide) (fun c10 => ?_) (fun c10 => ?_)
  · rw [if_neg c10] at hf
    exact w_X2_readsBody_35 X hR hr  o0 v6 h7 ls H locs hf I (lv_sub hl [1, 0] rfl)
  · rw [if_pos c10] at hf
    refine lv_aload_n hx hb dX2_readsBody_12 rfl (lv_at hl 1 rfl) ?_
    refine lv_iconst (v := 0) hx hb dX2_readsBody_13 (by decide) ?_
    obtain ⟨_, g15, hf⟩ := Option.bind_eq_some_iff.mp hf
    obtain ⟨v11, h12, e13, z14, hf⟩ := cN_spec hf
    refine k_Vi (As := [.int 0]) (rest := []) X I (cc_X2_readsSum l g o0 0 e13) z14 g15 vk_TrapCorner_LawReader_56 tw_662 ⟨Nat.le_trans (by decide) hR.1, Nat.le_trans (by decide) hR.2⟩ ⟨Nat.zero_le _, Nat.zero_le _⟩ rfl hl.1 rfl (Nat.le_of_ble_eq_true rfl) dX2_readsBody_14 (fun H locs I => ?_)
    refine lv_if_ne (tgt := 22) hx hb dX2_readsBody_17 (by decide) (fun c16 => ?_) (fun c16 => ?_)
    · rw [if_neg c16] at hf
      refine lv_aload_n hx hb dX2_readsBody_22 rfl (lv_at hl 1 rfl) ?_
      obtain ⟨_, g21, hf⟩ := Option.bind_eq_some_iff.mp hf
      obtain ⟨v17, h18, e19, z20, hf⟩ := cN_spec hf
      refine k_Ui (As := []) (rest := []) X I (c_X5_sign l g o0 e19) z20 g21 uk_TrapCorner_LawReader_43 tw_478 ⟨Nat.le_trans (by decide) hR.1, Nat.le_trans (by decide) hR.2⟩ ⟨Nat.zero_le _, Nat.zero_le _⟩ rfl hl.1 rfl (Nat.le_of_ble_eq_true rfl) dX2_readsBody_23 (fun H locs I => ?_)
      obtain ⟨v22, h23, e24, z25, hf⟩ := cN_spec hf
      refine k_Si (As := [.int v17]) (rest := []) X I (c_X2_comparing l g v17 e24) z25 sk_TrapCorner_LawReader_59 tw_681 ⟨Nat.le_trans (by decide) hR.1, Nat.le_trans (by decide) hR.2⟩ ⟨Nat.zero_le _, Nat.zero_le _⟩ rfl hl.1 rfl (Nat.le_of_ble_eq_true rfl) dX2_readsBody_26 (fun H locs I => ?_)
      refine lv_iconst (v := (-1)) hx hb dX2_readsBody_29 (by decide) ?_
      refine lv_icmp_ne (tgt := 35) hx hb dX2_readsBody_30 (by decide) (fun c26 => ?_) (fun c26 => ?_)
      · rw [if_neg c26] at hf
        exact w_X2_readsBody_35 X hR hr  o0 v6 h23 ls H locs hf I (lv_sub hl [1, 0] rfl)
      · rw [if_pos c26] at hf
        refine lv_iconst (v := 1) hx hb dX2_readsBody_33 (by decide) ?_
        cases hf
        exact k_rz X I hr (Or.inr rfl) dX2_readsBody_34
    · rw [if_pos c16] at hf
      refine lv_iconst (v := 0) hx hb dX2_readsBody_20 (by decide) ?_
      cases hf
      exact k_rz X I hr (Or.inl rfl) dX2_readsBody_21
def f_X2_readsBody (o0 : Nat) (h : AH) : Option (Int32 × AH) := f_X2_readsBody_0 o0 h
end
theorem c_X2_readsBody (l : Launch) (g : GG) (o0 : Nat) {h : AH} {res : Int32 × AH} (hf : f_X2_readsBody o0 h = some res) : CM l g yX2_readsBody cX2_readsBody 2 (some (.boolean)) 66 4224 0 0 [.ref (rfG g o0)] h (some (.int res.1)) res.2 :=
  k_body (by decide) (Nat.le_of_ble_eq_true rfl) (fun p e s m below meth c R ls hR hr X I hl => w_X2_readsBody_0 X ⟨Nat.le_of_eq hR.1.symm, Nat.le_of_eq hR.2.1.symm⟩ hr o0 h ls s.heap [] hf I (lv_sub hl [0] rfl))
/-! TrapCorner$PlanReader.readsStep()Z -/
theorem dX3_readsStep_0 : decode cX3_readsStep 0 = .ok (.aload_n 0, 1) := by decide +kernel
theorem dX3_readsStep_1 : decode cX3_readsStep 1 = .ok (.invokevirtual 37, 3) := by decide +kernel
theorem dX3_readsStep_4 : decode cX3_readsStep 4 = .ok (.istore_n 1, 1) := by decide +kernel
theorem dX3_readsStep_5 : decode cX3_readsStep 5 = .ok (.iload_n 1, 1) := by decide +kernel
theorem dX3_readsStep_6 : decode cX3_readsStep 6 = .ok (.iconst (-1), 1) := by decide +kernel
theorem dX3_readsStep_7 : decode cX3_readsStep 7 = .ok (.if_icmp .ne 7, 3) := by decide +kernel
theorem dX3_readsStep_10 : decode cX3_readsStep 10 = .ok (.iconst (-1), 1) := by decide +kernel
theorem dX3_readsStep_11 : decode cX3_readsStep 11 = .ok (.goto 10, 3) := by decide +kernel
theorem dX3_readsStep_14 : decode cX3_readsStep 14 = .ok (.ldc 47, 2) := by decide +kernel
theorem dX3_readsStep_16 : decode cX3_readsStep 16 = .ok (.iload_n 1, 1) := by decide +kernel
theorem dX3_readsStep_17 : decode cX3_readsStep 17 = .ok (.i2c, 1) := by decide +kernel
theorem dX3_readsStep_18 : decode cX3_readsStep 18 = .ok (.invokevirtual 49, 3) := by decide +kernel
theorem dX3_readsStep_21 : decode cX3_readsStep 21 = .ok (.istore_n 2, 1) := by decide +kernel
theorem dX3_readsStep_22 : decode cX3_readsStep 22 = .ok (.iload_n 2, 1) := by decide +kernel
theorem dX3_readsStep_23 : decode cX3_readsStep 23 = .ok (.ifCond .ge 12, 3) := by decide +kernel
theorem dX3_readsStep_26 : decode cX3_readsStep 26 = .ok (.aload_n 0, 1) := by decide +kernel
theorem dX3_readsStep_27 : decode cX3_readsStep 27 = .ok (.aload_n 0, 1) := by decide +kernel
theorem dX3_readsStep_28 : decode cX3_readsStep 28 = .ok (.getfield 41, 3) := by decide +kernel
theorem dX3_readsStep_31 : decode cX3_readsStep 31 = .ok (.invokevirtual 44, 3) := by decide +kernel
theorem dX3_readsStep_34 : decode cX3_readsStep 34 = .ok (.ireturn, 1) := by decide +kernel
theorem dX3_readsStep_35 : decode cX3_readsStep 35 = .ok (.aload_n 0, 1) := by decide +kernel
theorem dX3_readsStep_36 : decode cX3_readsStep 36 = .ok (.dup, 1) := by decide +kernel
theorem dX3_readsStep_37 : decode cX3_readsStep 37 = .ok (.getfield 41, 3) := by decide +kernel
theorem dX3_readsStep_40 : decode cX3_readsStep 40 = .ok (.iconst 1, 1) := by decide +kernel
theorem dX3_readsStep_41 : decode cX3_readsStep 41 = .ok (.iadd, 1) := by decide +kernel
theorem dX3_readsStep_42 : decode cX3_readsStep 42 = .ok (.putfield 41, 3) := by decide +kernel
theorem dX3_readsStep_45 : decode cX3_readsStep 45 = .ok (.iload_n 2, 1) := by decide +kernel
theorem dX3_readsStep_46 : decode cX3_readsStep 46 = .ok (.ifCond .ne 7, 3) := by decide +kernel
theorem dX3_readsStep_49 : decode cX3_readsStep 49 = .ok (.iconst 0, 1) := by decide +kernel
theorem dX3_readsStep_50 : decode cX3_readsStep 50 = .ok (.goto 7, 3) := by decide +kernel
theorem dX3_readsStep_53 : decode cX3_readsStep 53 = .ok (.aload_n 0, 1) := by decide +kernel
theorem dX3_readsStep_54 : decode cX3_readsStep 54 = .ok (.invokevirtual 55, 3) := by decide +kernel
theorem dX3_readsStep_57 : decode cX3_readsStep 57 = .ok (.istore_n 3, 1) := by decide +kernel
theorem dX3_readsStep_58 : decode cX3_readsStep 58 = .ok (.iload_n 2, 1) := by decide +kernel
theorem dX3_readsStep_59 : decode cX3_readsStep 59 = .ok (.iconst 1, 1) := by decide +kernel
theorem dX3_readsStep_60 : decode cX3_readsStep 60 = .ok (.if_icmp .ne 15, 3) := by decide +kernel
theorem dX3_readsStep_63 : decode cX3_readsStep 63 = .ok (.iload_n 3, 1) := by decide +kernel
theorem dX3_readsStep_64 : decode cX3_readsStep 64 = .ok (.iconst (-1), 1) := by decide +kernel
theorem dX3_readsStep_65 : decode cX3_readsStep 65 = .ok (.if_icmp .eq 10, 3) := by decide +kernel
theorem dX3_readsStep_68 : decode cX3_readsStep 68 = .ok (.aload_n 0, 1) := by decide +kernel
theorem dX3_readsStep_69 : decode cX3_readsStep 69 = .ok (.invokevirtual 55, 3) := by decide +kernel
theorem dX3_readsStep_72 : decode cX3_readsStep 72 = .ok (.goto 4, 3) := by decide +kernel
theorem dX3_readsStep_75 : decode cX3_readsStep 75 = .ok (.iconst 0, 1) := by decide +kernel
theorem dX3_readsStep_76 : decode cX3_readsStep 76 = .ok (.istore 4, 2) := by decide +kernel
theorem dX3_readsStep_78 : decode cX3_readsStep 78 = .ok (.iload_n 3, 1) := by decide +kernel
theorem dX3_readsStep_79 : decode cX3_readsStep 79 = .ok (.iconst (-1), 1) := by decide +kernel
theorem dX3_readsStep_80 : decode cX3_readsStep 80 = .ok (.if_icmp .eq 9, 3) := by decide +kernel
theorem dX3_readsStep_83 : decode cX3_readsStep 83 = .ok (.iload 4, 2) := by decide +kernel
theorem dX3_readsStep_85 : decode cX3_readsStep 85 = .ok (.iconst (-1), 1) := by decide +kernel
theorem dX3_readsStep_86 : decode cX3_readsStep 86 = .ok (.if_icmp .ne 5, 3) := by decide +kernel
theorem dX3_readsStep_89 : decode cX3_readsStep 89 = .ok (.iconst 0, 1) := by decide +kernel
theorem dX3_readsStep_90 : decode cX3_readsStep 90 = .ok (.ireturn, 1) := by decide +kernel
theorem dX3_readsStep_91 : decode cX3_readsStep 91 = .ok (.aload_n 0, 1) := by decide +kernel
theorem dX3_readsStep_92 : decode cX3_readsStep 92 = .ok (.getfield 15, 3) := by decide +kernel
theorem dX3_readsStep_95 : decode cX3_readsStep 95 = .ok (.aload_n 0, 1) := by decide +kernel
theorem dX3_readsStep_96 : decode cX3_readsStep 96 = .ok (.getfield 9, 3) := by decide +kernel
theorem dX3_readsStep_99 : decode cX3_readsStep 99 = .ok (.arraylength, 1) := by decide +kernel
theorem dX3_readsStep_100 : decode cX3_readsStep 100 = .ok (.if_icmp .ge 29, 3) := by decide +kernel
theorem dX3_readsStep_103 : decode cX3_readsStep 103 = .ok (.aload_n 0, 1) := by decide +kernel
theorem dX3_readsStep_104 : decode cX3_readsStep 104 = .ok (.getfield 9, 3) := by decide +kernel
theorem dX3_readsStep_107 : decode cX3_readsStep 107 = .ok (.aload_n 0, 1) := by decide +kernel
theorem dX3_readsStep_108 : decode cX3_readsStep 108 = .ok (.getfield 15, 3) := by decide +kernel
theorem dX3_readsStep_111 : decode cX3_readsStep 111 = .ok (.iload_n 2, 1) := by decide +kernel
theorem dX3_readsStep_112 : decode cX3_readsStep 112 = .ok (.iload_n 3, 1) := by decide +kernel
theorem dX3_readsStep_113 : decode cX3_readsStep 113 = .ok (.iload 4, 2) := by decide +kernel
theorem dX3_readsStep_115 : decode cX3_readsStep 115 = .ok (.invokestatic 58, 3) := by decide +kernel
theorem dX3_readsStep_118 : decode cX3_readsStep 118 = .ok (.iastore, 1) := by decide +kernel
theorem dX3_readsStep_119 : decode cX3_readsStep 119 = .ok (.aload_n 0, 1) := by decide +kernel
theorem dX3_readsStep_120 : decode cX3_readsStep 120 = .ok (.dup, 1) := by decide +kernel
theorem dX3_readsStep_121 : decode cX3_readsStep 121 = .ok (.getfield 15, 3) := by decide +kernel
theorem dX3_readsStep_124 : decode cX3_readsStep 124 = .ok (.iconst 1, 1) := by decide +kernel
theorem dX3_readsStep_125 : decode cX3_readsStep 125 = .ok (.iadd, 1) := by decide +kernel
theorem dX3_readsStep_126 : decode cX3_readsStep 126 = .ok (.putfield 15, 3) := by decide +kernel
theorem dX3_readsStep_129 : decode cX3_readsStep 129 = .ok (.iconst 1, 1) := by decide +kernel
theorem dX3_readsStep_130 : decode cX3_readsStep 130 = .ok (.ireturn, 1) := by decide +kernel
theorem lk_TrapCorner_PlanReader_15 : LK "TrapCorner$PlanReader" 15 [3] 4 := by
  intro ci hci
  have hci := List.mem_singleton.mp hci
  subst hci
  exact ⟨RX3, TX3, 5, "TrapCorner$PlanReader", ck_3, by decide, tw_183, Or.inl rfl⟩
theorem lk_TrapCorner_PlanReader_9 : LK "TrapCorner$PlanReader" 9 [3] 3 := by
  intro ci hci
  have hci := List.mem_singleton.mp hci
  subst hci
  exact ⟨RX3, TX3, 5, "TrapCorner$PlanReader", ck_3, by decide, tw_182, Or.inl rfl⟩
theorem lp_TrapCorner_PlanReader_15 : LKP "TrapCorner$PlanReader" 15 [3] 4 (.int) := by
  intro ci hci
  have hci := List.mem_singleton.mp hci
  subst hci
  exact ⟨RX3, TX3, 5, "TrapCorner$PlanReader", ck_3, by decide, tw_183, Or.inl rfl, rfl, by decide +kernel⟩
theorem vk_TrapCorner_PlanReader_55 : VK "TrapCorner$PlanReader" 55 [3] yX3_digit 0 := ⟨tw_715, tw_717, tw_7, ⟨by decide, by decide⟩, by decide +kernel, fun ci hci => by
  have hci := List.mem_singleton.mp hci
  subst hci
  exact ⟨_, rfl, tp_14⟩⟩
theorem tk_TrapCorner_PlanReader_49 : TK "TrapCorner$PlanReader" 49 yJ0_indexOf_0f7a4 1 := ⟨tw_711, tw_506, tw_15, ⟨by decide, by decide⟩, by decide +kernel, tw_507⟩
section
variable {g : GG} {p : Program} {l : Launch} {e : Env} {R : Room} {s : State} {m : MethodId} {args : Array Value} {below : List Frame} {meth : Method} {c : Code} {n0 z0 : Nat}
def f_X3_readsStep_76  (o0 : Nat) (x2 : Int32) (x3 : Int32) (s0 : Int32) (h : AH) : Option (Int32 × AH) :=
  if x3 = ((-1)) then
    some (0, h)
  else
    if s0 = ((-1)) then
      some (0, h)
    else
      (gI [3] h o0 4).bind fun v3 =>
      (gR [3] h o0 3).bind fun v5 =>
      (aLen h v5).bind fun v7 =>
      if v7 ≤ v3 then
        some (1, h)
      else
        (gR [3] h o0 3).bind fun v10 =>
        (gI [3] h o0 4).bind fun v12 =>
        cN (f_X11_stepOf x2 x3 s0 h) h fun v14 h15 =>
        (uI 0 h15 v10 v12 v14).bind fun h18 =>
        (gI [3] h18 o0 4).bind fun v20 =>
        (pV [3] h18 o0 4 (.int (v20 + 1))).bind fun h22 =>
        some (1, h22)
set_option maxHeartbeats 1000000 in
theorem w_X3_readsStep_76 (X : Cx g p s m args meth c cX3_readsStep 5 "TrapCorner$PlanReader") (hR : 5 ≤ R.frames ∧ 320 ≤ R.locals) (hr : meth.sig.returnType = (some (.boolean))) {res : Int32 × AH} : ∀ (o0 : Nat) (x2 : Int32) (x3 : Int32) (s0 : Int32) (h : AH) (ls : Array Slot) (H : Heap) (locs : List Loc), f_X3_readsStep_76 o0 x2 x3 s0 h = some res → Iv g s n0 z0 h H locs 0 0 → lv_has ls 5 [(0, .ref (rfG g o0)), (2, .int x2), (3, .int x3)] → W p l e R s m args below meth c H locs 0 0 (MQ below (QG g (some (.int res.1)) res.2) args s 0 0 (AG g)) (F0 m 76 ls [.int s0]) := by
  have hx := X.1
  have hb := X.2.1
  intro o0 x2 x3 s0 h ls H locs hf I hl
  unfold f_X3_readsStep_76 at hf
  refine lv_istore (lv' := [(4, .int s0), (0, .ref (rfG g o0)), (2, .int x2), (3, .int x3)]) hx hb dX3_readsStep_76 hl (by decide) rfl (fun ls hl => ?_)
  refine lv_iload_n hx hb dX3_readsStep_78 rfl (lv_at hl 3 rfl) ?_
  refine lv_iconst (v := (-1)) hx hb dX3_readsStep_79 (by decide) ?_
  refine lv_icmp_eq (tgt := 89) hx hb dX3_readsStep_80 (by decide) (fun c1 => ?_) (fun c1 => ?_)
  · rw [if_pos c1] at hf
    refine lv_iconst (v := 0) hx hb dX3_readsStep_89 (by decide) ?_
    cases hf
    exact k_rz X I hr (Or.inl rfl) dX3_readsStep_90
  · rw [if_neg c1] at hf
    refine lv_iload hx hb dX3_readsStep_83 (lv_at hl 0 rfl) ?_
    refine lv_iconst (v := (-1)) hx hb dX3_readsStep_85 (by decide) ?_
    refine lv_icmp_ne (tgt := 91) hx hb dX3_readsStep_86 (by decide) (fun c2 => ?_) (fun c2 => ?_)
    · rw [if_neg c2] at hf
      refine lv_aload_n hx hb dX3_readsStep_91 rfl (lv_at hl 1 rfl) ?_
      obtain ⟨v3, e4, hf⟩ := Option.bind_eq_some_iff.mp hf
      refine r_gI X I e4 lk_TrapCorner_PlanReader_15 dX3_readsStep_92 ?_
      refine lv_aload_n hx hb dX3_readsStep_95 rfl (lv_at hl 1 rfl) ?_
      obtain ⟨v5, e6, hf⟩ := Option.bind_eq_some_iff.mp hf
      refine r_gR X I e6 lk_TrapCorner_PlanReader_9 dX3_readsStep_96 ?_
      obtain ⟨v7, e8, hf⟩ := Option.bind_eq_some_iff.mp hf
      refine r_len X I e8 dX3_readsStep_99 ?_
      refine lv_icmp_ge (tgt := 129) hx hb dX3_readsStep_100 (by decide) (fun c9 => ?_) (fun c9 => ?_)
      · rw [if_pos c9] at hf
        refine lv_iconst (v := 1) hx hb dX3_readsStep_129 (by decide) ?_
        cases hf
        exact k_rz X I hr (Or.inr rfl) dX3_readsStep_130
      · rw [if_neg c9] at hf
        refine lv_aload_n hx hb dX3_readsStep_103 rfl (lv_at hl 1 rfl) ?_
        obtain ⟨v10, e11, hf⟩ := Option.bind_eq_some_iff.mp hf
        refine r_gR X I e11 lk_TrapCorner_PlanReader_9 dX3_readsStep_104 ?_
        refine lv_aload_n hx hb dX3_readsStep_107 rfl (lv_at hl 1 rfl) ?_
        obtain ⟨v12, e13, hf⟩ := Option.bind_eq_some_iff.mp hf
        refine r_gI X I e13 lk_TrapCorner_PlanReader_15 dX3_readsStep_108 ?_
        refine lv_iload_n hx hb dX3_readsStep_111 rfl (lv_at hl 2 rfl) ?_
        refine lv_iload_n hx hb dX3_readsStep_112 rfl (lv_at hl 3 rfl) ?_
        refine lv_iload hx hb dX3_readsStep_113 (lv_at hl 0 rfl) ?_
        obtain ⟨v14, h15, e16, z17, hf⟩ := cN_spec hf
        refine k_SNi (n := 3) (As := [.int x2, .int x3, .int s0]) (rest := [.int v12, .ref (rfG g v10)]) X I (c_X11_stepOf l g x2 x3 s0 e16) z17 (by decide) tw_724 tw_1 ⟨by decide, by decide⟩ (by decide +kernel) tw_725 ⟨Nat.le_trans (by decide) hR.1, Nat.le_trans (by decide) hR.2⟩ ⟨Nat.zero_le _, Nat.zero_le _⟩ rfl hl.1 rfl (Nat.le_of_ble_eq_true rfl) dX3_readsStep_115 (fun H locs I => ?_)
        obtain ⟨h18, e19, hf⟩ := Option.bind_eq_some_iff.mp hf
        refine r_uI0 X I e19 dX3_readsStep_118 (fun H locs I => ?_)
        refine lv_aload_n hx hb dX3_readsStep_119 rfl (lv_at hl 1 rfl) ?_
        refine lv_dup hx hb dX3_readsStep_120 rfl ?_
        obtain ⟨v20, e21, hf⟩ := Option.bind_eq_some_iff.mp hf
        refine r_gI X I e21 lk_TrapCorner_PlanReader_15 dX3_readsStep_121 ?_
        refine lv_iconst (v := 1) hx hb dX3_readsStep_124 (by decide) ?_
        refine lv_iadd hx hb dX3_readsStep_125 ?_
        obtain ⟨h22, e23, hf⟩ := Option.bind_eq_some_iff.mp hf
        refine r_pI X I e23 lp_TrapCorner_PlanReader_15 dX3_readsStep_126 (fun H locs I => ?_)
        refine lv_iconst (v := 1) hx hb dX3_readsStep_129 (by decide) ?_
        cases hf
        exact k_rz X I hr (Or.inr rfl) dX3_readsStep_130
    · rw [if_pos c2] at hf
      refine lv_iconst (v := 0) hx hb dX3_readsStep_89 (by decide) ?_
      cases hf
      exact k_rz X I hr (Or.inl rfl) dX3_readsStep_90
def f_X3_readsStep_75  (o0 : Nat) (x2 : Int32) (x3 : Int32) (h : AH) : Option (Int32 × AH) :=
  f_X3_readsStep_76 o0 x2 x3 0 h
set_option maxHeartbeats 1000000 in
theorem w_X3_readsStep_75 (X : Cx g p s m args meth c cX3_readsStep 5 "TrapCorner$PlanReader") (hR : 5 ≤ R.frames ∧ 320 ≤ R.locals) (hr : meth.sig.returnType = (some (.boolean))) {res : Int32 × AH} : ∀ (o0 : Nat) (x2 : Int32) (x3 : Int32) (h : AH) (ls : Array Slot) (H : Heap) (locs : List Loc), f_X3_readsStep_75 o0 x2 x3 h = some res → Iv g s n0 z0 h H locs 0 0 → lv_has ls 5 [(0, .ref (rfG g o0)), (2, .int x2), (3, .int x3)] → W p l e R s m args below meth c H locs 0 0 (MQ below (QG g (some (.int res.1)) res.2) args s 0 0 (AG g)) (F0 m 75 ls []) := by
  have hx := X.1
  have hb := X.2.1
  intro o0 x2 x3 h ls H locs hf I hl
  unfold f_X3_readsStep_75 at hf
  refine lv_iconst (v := 0) hx hb dX3_readsStep_75 (by decide) ?_
  exact w_X3_readsStep_76 X hR hr  o0 x2 x3 0 h ls H locs hf I (lv_sub hl [0, 1, 2] rfl)
def f_X3_readsStep_57  (o0 : Nat) (x2 : Int32) (s0 : Int32) (h : AH) : Option (Int32 × AH) :=
  if x2 = 1 then
    if s0 = ((-1)) then
      f_X3_readsStep_75 o0 x2 s0 h
    else
      (isC [3] h o0).bind fun _ =>
      cN (f_X3_digit o0 h) h fun v3 h4 =>
      f_X3_readsStep_76 o0 x2 s0 v3 h4
  else
    f_X3_readsStep_75 o0 x2 s0 h
set_option maxHeartbeats 1000000 in
theorem w_X3_readsStep_57 (X : Cx g p s m args meth c cX3_readsStep 5 "TrapCorner$PlanReader") (hR : 5 ≤ R.frames ∧ 320 ≤ R.locals) (hr : meth.sig.returnType = (some (.boolean))) {res : Int32 × AH} : ∀ (o0 : Nat) (x2 : Int32) (s0 : Int32) (h : AH) (ls : Array Slot) (H : Heap) (locs : List Loc), f_X3_readsStep_57 o0 x2 s0 h = some res → Iv g s n0 z0 h H locs 0 0 → lv_has ls 5 [(0, .ref (rfG g o0)), (2, .int x2)] → W p l e R s m args below meth c H locs 0 0 (MQ below (QG g (some (.int res.1)) res.2) args s 0 0 (AG g)) (F0 m 57 ls [.int s0]) := by
  have hx := X.1
  have hb := X.2.1
  intro o0 x2 s0 h ls H locs hf I hl
  unfold f_X3_readsStep_57 at hf
  refine lv_istore_n (lv' := [(3, .int s0), (0, .ref (rfG g o0)), (2, .int x2)]) hx hb dX3_readsStep_57 rfl hl (by decide) rfl (fun ls hl => ?_)
  refine lv_iload_n hx hb dX3_readsStep_58 rfl (lv_at hl 2 rfl) ?_
  refine lv_iconst (v := 1) hx hb dX3_readsStep_59 (by decide) ?_
  refine lv_icmp_ne (tgt := 75) hx hb dX3_readsStep_60 (by decide) (fun c1 => ?_) (fun c1 => ?_)
  · rw [if_neg c1] at hf
    exact w_X3_readsStep_75 X hR hr  o0 x2 s0 h ls H locs hf I (lv_sub hl [1, 2, 0] rfl)
  · rw [if_pos c1] at hf
    refine lv_iload_n hx hb dX3_readsStep_63 rfl (lv_at hl 0 rfl) ?_
    refine lv_iconst (v := (-1)) hx hb dX3_readsStep_64 (by decide) ?_
    refine lv_icmp_eq (tgt := 75) hx hb dX3_readsStep_65 (by decide) (fun c2 => ?_) (fun c2 => ?_)
    · rw [if_pos c2] at hf
      exact w_X3_readsStep_75 X hR hr  o0 x2 s0 h ls H locs hf I (lv_sub hl [1, 2, 0] rfl)
    · rw [if_neg c2] at hf
      refine lv_aload_n hx hb dX3_readsStep_68 rfl (lv_at hl 1 rfl) ?_
      obtain ⟨_, g7, hf⟩ := Option.bind_eq_some_iff.mp hf
      obtain ⟨v3, h4, e5, z6, hf⟩ := cN_spec hf
      refine k_Vi (As := []) (rest := []) X I (c_X3_digit l g o0 e5) z6 g7 vk_TrapCorner_PlanReader_55 tw_718 ⟨Nat.le_trans (by decide) hR.1, Nat.le_trans (by decide) hR.2⟩ ⟨Nat.zero_le _, Nat.zero_le _⟩ rfl hl.1 rfl (Nat.le_of_ble_eq_true rfl) dX3_readsStep_69 (fun H locs I => ?_)
      refine lv_goto (tgt := 76) hx hb dX3_readsStep_72 (by decide) ?_
      exact w_X3_readsStep_76 X hR hr  o0 x2 s0 v3 h4 ls H locs hf I (lv_sub hl [1, 2, 0] rfl)
def f_X3_readsStep_21  (o0 : Nat) (s0 : Int32) (h : AH) : Option (Int32 × AH) :=
  if 0 ≤ s0 then
    (gI [3] h o0 1).bind fun v2 =>
    (pV [3] h o0 1 (.int (v2 + 1))).bind fun h4 =>
    if s0 = 0 then
      f_X3_readsStep_57 o0 s0 0 h4
    else
      (isC [3] h4 o0).bind fun _ =>
      cN (f_X3_digit o0 h4) h4 fun v7 h8 =>
      f_X3_readsStep_57 o0 s0 v7 h8
  else
    (gI [3] h o0 1).bind fun v12 =>
    (isC [3] h o0).bind fun _ =>
    cN (f_X5_fails o0 v12 h) h fun v14 h15 =>
    rZ v14 h15
set_option maxHeartbeats 1000000 in
theorem w_X3_readsStep_21 (X : Cx g p s m args meth c cX3_readsStep 5 "TrapCorner$PlanReader") (hR : 5 ≤ R.frames ∧ 320 ≤ R.locals) (hr : meth.sig.returnType = (some (.boolean))) {res : Int32 × AH} : ∀ (o0 : Nat) (s0 : Int32) (h : AH) (ls : Array Slot) (H : Heap) (locs : List Loc), f_X3_readsStep_21 o0 s0 h = some res → Iv g s n0 z0 h H locs 0 0 → lv_has ls 5 [(0, .ref (rfG g o0))] → W p l e R s m args below meth c H locs 0 0 (MQ below (QG g (some (.int res.1)) res.2) args s 0 0 (AG g)) (F0 m 21 ls [.int s0]) := by
  have hx := X.1
  have hb := X.2.1
  intro o0 s0 h ls H locs hf I hl
  unfold f_X3_readsStep_21 at hf
  refine lv_istore_n (lv' := [(2, .int s0), (0, .ref (rfG g o0))]) hx hb dX3_readsStep_21 rfl hl (by decide) rfl (fun ls hl => ?_)
  refine lv_iload_n hx hb dX3_readsStep_22 rfl (lv_at hl 0 rfl) ?_
  refine lv_if_ge (tgt := 35) hx hb dX3_readsStep_23 (by decide) (fun c1 => ?_) (fun c1 => ?_)
  · rw [if_pos c1] at hf
    refine lv_aload_n hx hb dX3_readsStep_35 rfl (lv_at hl 1 rfl) ?_
    refine lv_dup hx hb dX3_readsStep_36 rfl ?_
    obtain ⟨v2, e3, hf⟩ := Option.bind_eq_some_iff.mp hf
    refine r_gI X I e3 lk_TrapCorner_PlanReader_41 dX3_readsStep_37 ?_
    refine lv_iconst (v := 1) hx hb dX3_readsStep_40 (by decide) ?_
    refine lv_iadd hx hb dX3_readsStep_41 ?_
    obtain ⟨h4, e5, hf⟩ := Option.bind_eq_some_iff.mp hf
    refine r_pI X I e5 lp_TrapCorner_PlanReader_41 dX3_readsStep_42 (fun H locs I => ?_)
    refine lv_iload_n hx hb dX3_readsStep_45 rfl (lv_at hl 0 rfl) ?_
    refine lv_if_ne (tgt := 53) hx hb dX3_readsStep_46 (by decide) (fun c6 => ?_) (fun c6 => ?_)
    · rw [if_neg c6] at hf
      refine lv_aload_n hx hb dX3_readsStep_53 rfl (lv_at hl 1 rfl) ?_
      obtain ⟨_, g11, hf⟩ := Option.bind_eq_some_iff.mp hf
      obtain ⟨v7, h8, e9, z10, hf⟩ := cN_spec hf
      refine k_Vi (As := []) (rest := []) X I (c_X3_digit l g o0 e9) z10 g11 vk_TrapCorner_PlanReader_55 tw_718 ⟨Nat.le_trans (by decide) hR.1, Nat.le_trans (by decide) hR.2⟩ ⟨Nat.zero_le _, Nat.zero_le _⟩ rfl hl.1 rfl (Nat.le_of_ble_eq_true rfl) dX3_readsStep_54 (fun H locs I => ?_)
      exact w_X3_readsStep_57 X hR hr  o0 s0 v7 h8 ls H locs hf I (lv_sub hl [1, 0] rfl)
    · rw [if_pos c6] at hf
      refine lv_iconst (v := 0) hx hb dX3_readsStep_49 (by decide) ?_
      refine lv_goto (tgt := 57) hx hb dX3_readsStep_50 (by decide) ?_
      exact w_X3_readsStep_57 X hR hr  o0 s0 0 h4 ls H locs hf I (lv_sub hl [1, 0] rfl)
  · rw [if_neg c1] at hf
    refine lv_aload_n hx hb dX3_readsStep_26 rfl (lv_at hl 1 rfl) ?_
    refine lv_aload_n hx hb dX3_readsStep_27 rfl (lv_at hl 1 rfl) ?_
    obtain ⟨v12, e13, hf⟩ := Option.bind_eq_some_iff.mp hf
    refine r_gI X I e13 lk_TrapCorner_PlanReader_41 dX3_readsStep_28 ?_
    obtain ⟨_, g18, hf⟩ := Option.bind_eq_some_iff.mp hf
    obtain ⟨v14, h15, e16, z17, hf⟩ := cN_spec hf
    refine k_Ui (As := [.int v12]) (rest := []) X I (c_X5_fails l g o0 v12 e16) z17 g18 uk_TrapCorner_PlanReader_44 tw_587 ⟨Nat.le_trans (by decide) hR.1, Nat.le_trans (by decide) hR.2⟩ ⟨Nat.zero_le _, Nat.zero_le _⟩ rfl hl.1 rfl (Nat.le_of_ble_eq_true rfl) dX3_readsStep_31 (fun H locs I => ?_)
    obtain ⟨hz, rfl⟩ := rZ_spec hf
    exact k_rz X I hr hz dX3_readsStep_34
def f_X3_readsStep_0  (o0 : Nat) (h : AH) : Option (Int32 × AH) :=
  (isC [3] h o0).bind fun _ =>
  cN (f_X5_sign o0 h) h fun v1 h2 =>
  if v1 = ((-1)) then
    f_X3_readsStep_21 o0 ((-1)) h2
  else
    (sStr 2000004).bind fun _ =>
    cN (f_J0_indexOf_0f7a4 2000004 ((v1.toUInt32 % 65536).toInt32) h2) h2 fun v7 h8 =>
    f_X3_readsStep_21 o0 v7 h8
set_option maxHeartbeats 1000000 in
theorem w_X3_readsStep_0 (X : Cx g p s m args meth c cX3_readsStep 5 "TrapCorner$PlanReader") (hR : 5 ≤ R.frames ∧ 320 ≤ R.locals) (hr : meth.sig.returnType = (some (.boolean))) {res : Int32 × AH} : ∀ (o0 : Nat) (h : AH) (ls : Array Slot) (H : Heap) (locs : List Loc), f_X3_readsStep_0 o0 h = some res → Iv g s n0 z0 h H locs 0 0 → lv_has ls 5 [(0, .ref (rfG g o0))] → W p l e R s m args below meth c H locs 0 0 (MQ below (QG g (some (.int res.1)) res.2) args s 0 0 (AG g)) (F0 m 0 ls []) := by
  have hx := X.1
  have hb := X.2.1
  intro o0 h ls H locs hf I hl
  unfold f_X3_readsStep_0 at hf
  refine lv_aload_n hx hb dX3_readsStep_0 rfl (lv_at hl 0 rfl) ?_
  obtain ⟨_, g5, hf⟩ := Option.bind_eq_some_iff.mp hf
  obtain ⟨v1, h2, e3, z4, hf⟩ := cN_spec hf
  refine k_Ui (As := []) (rest := []) X I (c_X5_sign l g o0 e3) z4 g5 uk_TrapCorner_PlanReader_37 tw_478 ⟨Nat.le_trans (by decide) hR.1, Nat.le_trans (by decide) hR.2⟩ ⟨Nat.zero_le _, Nat.zero_le _⟩ rfl hl.1 rfl (Nat.le_of_ble_eq_true rfl) dX3_readsStep_1 (fun H locs I => ?_)
  refine lv_istore_n (lv' := [(1, .int v1), (0, .ref (rfG g o0))]) hx hb dX3_readsStep_4 rfl hl (by decide) rfl (fun ls hl => ?_)
  refine lv_iload_n hx hb dX3_readsStep_5 rfl (lv_at hl 0 rfl) ?_
  refine lv_iconst (v := (-1)) hx hb dX3_readsStep_6 (by decide) ?_
  refine lv_icmp_ne (tgt := 14) hx hb dX3_readsStep_7 (by decide) (fun c6 => ?_) (fun c6 => ?_)
  · rw [if_neg c6] at hf
    refine r_ldcS (tx := "dksr") (i := 4) X (by decide) dX3_readsStep_14 ?_
    refine lv_iload_n hx hb dX3_readsStep_16 rfl (lv_at hl 0 rfl) ?_
    refine lv_i2c hx hb dX3_readsStep_17 rfl ?_
    obtain ⟨_, g11, hf⟩ := Option.bind_eq_some_iff.mp hf
    obtain ⟨v7, h8, e9, z10, hf⟩ := cN_spec hf
    refine k_Ti (As := [.int ((v1.toUInt32 % 65536).toInt32)]) (rest := []) X I (c_J0_indexOf_0f7a4 l g 2000004 ((v1.toUInt32 % 65536).toInt32) e9) z10 g11 tk_TrapCorner_PlanReader_49 tw_508 ⟨Nat.le_trans (by decide) hR.1, Nat.le_trans (by decide) hR.2⟩ ⟨Nat.zero_le _, Nat.zero_le _⟩ rfl hl.1 rfl (Nat.le_of_ble_eq_true rfl) dX3_readsStep_18 (fun H locs I => ?_)
    exact w_X3_readsStep_21 X hR hr  o0 v7 h8 ls H locs hf I (lv_sub hl [1] rfl)
  · rw [if_pos c6] at hf
    refine lv_iconst (v := (-1)) hx hb dX3_readsStep_10 (by decide) ?_
    refine lv_goto (tgt := 21) hx hb dX3_readsStep_11 (by decide) ?_
    exact w_X3_readsStep_21 X hR hr  o0 ((-1)) h2 ls H locs hf I (lv_sub hl [1] rfl)
def f_X3_readsStep (o0 : Nat) (h : AH) : Option (Int32 × AH) := f_X3_readsStep_0 o0 h
end
theorem c_X3_readsStep (l : Launch) (g : GG) (o0 : Nat) {h : AH} {res : Int32 × AH} (hf : f_X3_readsStep o0 h = some res) : CM l g yX3_readsStep cX3_readsStep 5 (some (.boolean)) 5 320 0 0 [.ref (rfG g o0)] h (some (.int res.1)) res.2 :=
  k_body (by decide) (Nat.le_of_ble_eq_true rfl) (fun p e s m below meth c R ls hR hr X I hl => w_X3_readsStep_0 X ⟨Nat.le_of_eq hR.1.symm, Nat.le_of_eq hR.2.1.symm⟩ hr o0 h ls s.heap [] hf I (lv_sub hl [0] rfl))
/-! TrapCornerModel.clause()V -/
theorem dX12_clause_0 : decode cX12_clause 0 = .ok (.aload_n 0, 1) := by decide +kernel
theorem dX12_clause_1 : decode cX12_clause 1 = .ok (.invokevirtual 138, 3) := by decide +kernel
theorem dX12_clause_4 : decode cX12_clause 4 = .ok (.istore_n 1, 1) := by decide +kernel
theorem dX12_clause_5 : decode cX12_clause 5 = .ok (.ldc 26, 2) := by decide +kernel
theorem dX12_clause_7 : decode cX12_clause 7 = .ok (.iload_n 1, 1) := by decide +kernel
theorem dX12_clause_8 : decode cX12_clause 8 = .ok (.invokestatic 154, 3) := by decide +kernel
theorem dX12_clause_11 : decode cX12_clause 11 = .ok (.ifCond .ne 9, 3) := by decide +kernel
theorem dX12_clause_14 : decode cX12_clause 14 = .ok (.aload_n 0, 1) := by decide +kernel
theorem dX12_clause_15 : decode cX12_clause 15 = .ok (.invokevirtual 134, 3) := by decide +kernel
theorem dX12_clause_18 : decode cX12_clause 18 = .ok (.pop, 1) := by decide +kernel
theorem dX12_clause_19 : decode cX12_clause 19 = .ok (.return_, 1) := by decide +kernel
theorem dX12_clause_20 : decode cX12_clause 20 = .ok (.aload_n 0, 1) := by decide +kernel
theorem dX12_clause_21 : decode cX12_clause 21 = .ok (.dup, 1) := by decide +kernel
theorem dX12_clause_22 : decode cX12_clause 22 = .ok (.getfield 119, 3) := by decide +kernel
theorem dX12_clause_25 : decode cX12_clause 25 = .ok (.iconst 1, 1) := by decide +kernel
theorem dX12_clause_26 : decode cX12_clause 26 = .ok (.iadd, 1) := by decide +kernel
theorem dX12_clause_27 : decode cX12_clause 27 = .ok (.putfield 119, 3) := by decide +kernel
theorem dX12_clause_30 : decode cX12_clause 30 = .ok (.aload_n 0, 1) := by decide +kernel
theorem dX12_clause_31 : decode cX12_clause 31 = .ok (.bipush 58, 2) := by decide +kernel
theorem dX12_clause_33 : decode cX12_clause 33 = .ok (.invokevirtual 164, 3) := by decide +kernel
theorem dX12_clause_36 : decode cX12_clause 36 = .ok (.ifCond .ne 4, 3) := by decide +kernel
theorem dX12_clause_39 : decode cX12_clause 39 = .ok (.return_, 1) := by decide +kernel
theorem dX12_clause_40 : decode cX12_clause 40 = .ok (.iconst 1, 1) := by decide +kernel
theorem dX12_clause_41 : decode cX12_clause 41 = .ok (.istore_n 2, 1) := by decide +kernel
theorem dX12_clause_42 : decode cX12_clause 42 = .ok (.iconst 0, 1) := by decide +kernel
theorem dX12_clause_43 : decode cX12_clause 43 = .ok (.istore_n 3, 1) := by decide +kernel
theorem dX12_clause_44 : decode cX12_clause 44 = .ok (.aload_n 0, 1) := by decide +kernel
theorem dX12_clause_45 : decode cX12_clause 45 = .ok (.invokevirtual 138, 3) := by decide +kernel
theorem dX12_clause_48 : decode cX12_clause 48 = .ok (.istore 4, 2) := by decide +kernel
theorem dX12_clause_50 : decode cX12_clause 50 = .ok (.iload 4, 2) := by decide +kernel
theorem dX12_clause_52 : decode cX12_clause 52 = .ok (.bipush 33, 2) := by decide +kernel
theorem dX12_clause_54 : decode cX12_clause 54 = .ok (.if_icmp .eq 10, 3) := by decide +kernel
theorem dX12_clause_57 : decode cX12_clause 57 = .ok (.iload 4, 2) := by decide +kernel
theorem dX12_clause_59 : decode cX12_clause 59 = .ok (.bipush 40, 2) := by decide +kernel
theorem dX12_clause_61 : decode cX12_clause 61 = .ok (.if_icmp .ne 28, 3) := by decide +kernel
theorem dX12_clause_64 : decode cX12_clause 64 = .ok (.aload_n 0, 1) := by decide +kernel
theorem dX12_clause_65 : decode cX12_clause 65 = .ok (.iconst 0, 1) := by decide +kernel
theorem dX12_clause_66 : decode cX12_clause 66 = .ok (.iconst 0, 1) := by decide +kernel
theorem dX12_clause_67 : decode cX12_clause 67 = .ok (.invokevirtual 187, 3) := by decide +kernel
theorem dX12_clause_70 : decode cX12_clause 70 = .ok (.istore_n 2, 1) := by decide +kernel
theorem dX12_clause_71 : decode cX12_clause 71 = .ok (.aload_n 0, 1) := by decide +kernel
theorem dX12_clause_72 : decode cX12_clause 72 = .ok (.bipush 63, 2) := by decide +kernel
theorem dX12_clause_74 : decode cX12_clause 74 = .ok (.invokevirtual 164, 3) := by decide +kernel
theorem dX12_clause_77 : decode cX12_clause 77 = .ok (.ifCond .ne 4, 3) := by decide +kernel
theorem dX12_clause_80 : decode cX12_clause 80 = .ok (.return_, 1) := by decide +kernel
theorem dX12_clause_81 : decode cX12_clause 81 = .ok (.aload_n 0, 1) := by decide +kernel
theorem dX12_clause_82 : decode cX12_clause 82 = .ok (.invokevirtual 161, 3) := by decide +kernel
theorem dX12_clause_85 : decode cX12_clause 85 = .ok (.istore_n 3, 1) := by decide +kernel
theorem dX12_clause_86 : decode cX12_clause 86 = .ok (.goto 48, 3) := by decide +kernel
theorem dX12_clause_89 : decode cX12_clause 89 = .ok (.aload_n 0, 1) := by decide +kernel
theorem dX12_clause_90 : decode cX12_clause 90 = .ok (.invokevirtual 161, 3) := by decide +kernel
theorem dX12_clause_93 : decode cX12_clause 93 = .ok (.istore_n 3, 1) := by decide +kernel
theorem dX12_clause_94 : decode cX12_clause 94 = .ok (.aload_n 0, 1) := by decide +kernel
theorem dX12_clause_95 : decode cX12_clause 95 = .ok (.getfield 128, 3) := by decide +kernel
theorem dX12_clause_98 : decode cX12_clause 98 = .ok (.iconst (-1), 1) := by decide +kernel
theorem dX12_clause_99 : decode cX12_clause 99 = .ok (.if_icmp .ne 35, 3) := by decide +kernel
theorem dX12_clause_102 : decode cX12_clause 102 = .ok (.aload_n 0, 1) := by decide +kernel
theorem dX12_clause_103 : decode cX12_clause 103 = .ok (.invokevirtual 138, 3) := by decide +kernel
theorem dX12_clause_106 : decode cX12_clause 106 = .ok (.invokestatic 181, 3) := by decide +kernel
theorem dX12_clause_109 : decode cX12_clause 109 = .ok (.ifCond .eq 25, 3) := by decide +kernel
theorem dX12_clause_112 : decode cX12_clause 112 = .ok (.aload_n 0, 1) := by decide +kernel
theorem dX12_clause_113 : decode cX12_clause 113 = .ok (.iconst 1, 1) := by decide +kernel
theorem dX12_clause_114 : decode cX12_clause 114 = .ok (.iload_n 3, 1) := by decide +kernel
theorem dX12_clause_115 : decode cX12_clause 115 = .ok (.invokevirtual 187, 3) := by decide +kernel
theorem dX12_clause_118 : decode cX12_clause 118 = .ok (.istore_n 2, 1) := by decide +kernel
theorem dX12_clause_119 : decode cX12_clause 119 = .ok (.aload_n 0, 1) := by decide +kernel
theorem dX12_clause_120 : decode cX12_clause 120 = .ok (.bipush 63, 2) := by decide +kernel
theorem dX12_clause_122 : decode cX12_clause 122 = .ok (.invokevirtual 164, 3) := by decide +kernel
theorem dX12_clause_125 : decode cX12_clause 125 = .ok (.ifCond .ne 4, 3) := by decide +kernel
theorem dX12_clause_128 : decode cX12_clause 128 = .ok (.return_, 1) := by decide +kernel
theorem dX12_clause_129 : decode cX12_clause 129 = .ok (.aload_n 0, 1) := by decide +kernel
theorem dX12_clause_130 : decode cX12_clause 130 = .ok (.invokevirtual 161, 3) := by decide +kernel
theorem dX12_clause_133 : decode cX12_clause 133 = .ok (.istore_n 3, 1) := by decide +kernel
theorem dX12_clause_134 : decode cX12_clause 134 = .ok (.aload_n 0, 1) := by decide +kernel
theorem dX12_clause_135 : decode cX12_clause 135 = .ok (.getfield 128, 3) := by decide +kernel
theorem dX12_clause_138 : decode cX12_clause 138 = .ok (.iconst (-1), 1) := by decide +kernel
theorem dX12_clause_139 : decode cX12_clause 139 = .ok (.if_icmp .ne 22, 3) := by decide +kernel
theorem dX12_clause_142 : decode cX12_clause 142 = .ok (.aload_n 0, 1) := by decide +kernel
theorem dX12_clause_143 : decode cX12_clause 143 = .ok (.getfield 197, 3) := by decide +kernel
theorem dX12_clause_146 : decode cX12_clause 146 = .ok (.ifCond .ne 15, 3) := by decide +kernel
theorem dX12_clause_149 : decode cX12_clause 149 = .ok (.iload_n 1, 1) := by decide +kernel
theorem dX12_clause_150 : decode cX12_clause 150 = .ok (.aload_n 0, 1) := by decide +kernel
theorem dX12_clause_151 : decode cX12_clause 151 = .ok (.getfield 201, 3) := by decide +kernel
theorem dX12_clause_154 : decode cX12_clause 154 = .ok (.if_icmp .ne 7, 3) := by decide +kernel
theorem dX12_clause_157 : decode cX12_clause 157 = .ok (.iload_n 2, 1) := by decide +kernel
theorem dX12_clause_158 : decode cX12_clause 158 = .ok (.ifCond .ne 4, 3) := by decide +kernel
theorem dX12_clause_161 : decode cX12_clause 161 = .ok (.return_, 1) := by decide +kernel
theorem dX12_clause_162 : decode cX12_clause 162 = .ok (.aload_n 0, 1) := by decide +kernel
theorem dX12_clause_163 : decode cX12_clause 163 = .ok (.iconst 1, 1) := by decide +kernel
theorem dX12_clause_164 : decode cX12_clause 164 = .ok (.putfield 197, 3) := by decide +kernel
theorem dX12_clause_167 : decode cX12_clause 167 = .ok (.aload_n 0, 1) := by decide +kernel
theorem dX12_clause_168 : decode cX12_clause 168 = .ok (.iload_n 3, 1) := by decide +kernel
theorem dX12_clause_169 : decode cX12_clause 169 = .ok (.putfield 204, 3) := by decide +kernel
theorem dX12_clause_172 : decode cX12_clause 172 = .ok (.return_, 1) := by decide +kernel
theorem lk_TrapCornerModel_197 : LK "TrapCornerModel" 197 [12] 17 := by
  intro ci hci
  have hci := List.mem_singleton.mp hci
  subst hci
  exact ⟨RX12, TX12, 50, "TrapCornerModel", ck_12, by decide, tw_1304, Or.inl rfl⟩
theorem lk_TrapCornerModel_201 : LK "TrapCornerModel" 201 [12] 13 := by
  intro ci hci
  have hci := List.mem_singleton.mp hci
  subst hci
  exact ⟨RX12, TX12, 50, "TrapCornerModel", ck_12, by decide, tw_1300, Or.inl rfl⟩
theorem lp_TrapCornerModel_197 : LKP "TrapCornerModel" 197 [12] 17 (.boolean) := by
  intro ci hci
  have hci := List.mem_singleton.mp hci
  subst hci
  exact ⟨RX12, TX12, 50, "TrapCornerModel", ck_12, by decide, tw_1304, Or.inl rfl, rfl, by decide +kernel⟩
theorem lp_TrapCornerModel_204 : LKP "TrapCornerModel" 204 [12] 14 (.int) := by
  intro ci hci
  have hci := List.mem_singleton.mp hci
  subst hci
  exact ⟨RX12, TX12, 50, "TrapCornerModel", ck_12, by decide, tw_1301, Or.inl rfl, rfl, by decide +kernel⟩
section
variable {g : GG} {p : Program} {l : Launch} {e : Env} {R : Room} {s : State} {m : MethodId} {args : Array Value} {below : List Frame} {meth : Method} {c : Code} {n0 z0 : Nat}
def f_X12_clause_134  (o0 : Nat) (x1 : Int32) (x2 : Int32) (x3 : Int32) (h : AH) : Option (Unit × AH) :=
  (gI [12] h o0 11).bind fun v1 =>
  if v1 = ((-1)) then
    (gI [12] h o0 17).bind fun v4 =>
    if v4 = 0 then
      (gI [12] h o0 13).bind fun v7 =>
      if x1 = v7 then
        if x2 = 0 then
          some ((), h)
        else
          (pZ [12] h o0 17 1).bind fun h11 =>
          (pV [12] h11 o0 14 (.int x3)).bind fun h13 =>
          some ((), h13)
      else
        some ((), h)
    else
      some ((), h)
  else
    some ((), h)
set_option maxHeartbeats 1000000 in
theorem w_X12_clause_134 (X : Cx g p s m args meth c cX12_clause 5 "TrapCornerModel") (hR : 86 ≤ R.frames ∧ 5504 ≤ R.locals) (hr : meth.sig.returnType = none) {res : Unit × AH} : ∀ (o0 : Nat) (x1 : Int32) (x2 : Int32) (x3 : Int32) (h : AH) (ls : Array Slot) (H : Heap) (locs : List Loc), f_X12_clause_134 o0 x1 x2 x3 h = some res → Iv g s n0 z0 h H locs 0 0 → lv_has ls 5 [(0, .ref (rfG g o0)), (1, .int x1), (2, .int x2), (3, .int x3)] → W p l e R s m args below meth c H locs 0 0 (MQ below (QG g none res.2) args s 0 0 (AG g)) (F0 m 134 ls []) := by
  have hx := X.1
  have hb := X.2.1
  intro o0 x1 x2 x3 h ls H locs hf I hl
  unfold f_X12_clause_134 at hf
  refine lv_aload_n hx hb dX12_clause_134 rfl (lv_at hl 0 rfl) ?_
  obtain ⟨v1, e2, hf⟩ := Option.bind_eq_some_iff.mp hf
  refine r_gI X I e2 lk_TrapCornerModel_128 dX12_clause_135 ?_
  refine lv_iconst (v := (-1)) hx hb dX12_clause_138 (by decide) ?_
  refine lv_icmp_ne (tgt := 161) hx hb dX12_clause_139 (by decide) (fun c3 => ?_) (fun c3 => ?_)
  · rw [if_neg c3] at hf
    cases hf
    exact k_rv X I hr dX12_clause_161
  · rw [if_pos c3] at hf
    refine lv_aload_n hx hb dX12_clause_142 rfl (lv_at hl 0 rfl) ?_
    obtain ⟨v4, e5, hf⟩ := Option.bind_eq_some_iff.mp hf
    refine r_gI X I e5 lk_TrapCornerModel_197 dX12_clause_143 ?_
    refine lv_if_ne (tgt := 161) hx hb dX12_clause_146 (by decide) (fun c6 => ?_) (fun c6 => ?_)
    · rw [if_neg c6] at hf
      cases hf
      exact k_rv X I hr dX12_clause_161
    · rw [if_pos c6] at hf
      refine lv_iload_n hx hb dX12_clause_149 rfl (lv_at hl 1 rfl) ?_
      refine lv_aload_n hx hb dX12_clause_150 rfl (lv_at hl 0 rfl) ?_
      obtain ⟨v7, e8, hf⟩ := Option.bind_eq_some_iff.mp hf
      refine r_gI X I e8 lk_TrapCornerModel_201 dX12_clause_151 ?_
      refine lv_icmp_ne (tgt := 161) hx hb dX12_clause_154 (by decide) (fun c9 => ?_) (fun c9 => ?_)
      · rw [if_neg c9] at hf
        cases hf
        exact k_rv X I hr dX12_clause_161
      · rw [if_pos c9] at hf
        refine lv_iload_n hx hb dX12_clause_157 rfl (lv_at hl 2 rfl) ?_
        refine lv_if_ne (tgt := 162) hx hb dX12_clause_158 (by decide) (fun c10 => ?_) (fun c10 => ?_)
        · rw [if_neg c10] at hf
          refine lv_aload_n hx hb dX12_clause_162 rfl (lv_at hl 0 rfl) ?_
          refine lv_iconst (v := 1) hx hb dX12_clause_163 (by decide) ?_
          obtain ⟨h11, e12, hf⟩ := Option.bind_eq_some_iff.mp hf
          refine r_pZ X I e12 lp_TrapCornerModel_197 dX12_clause_164 (fun H locs I => ?_)
          refine lv_aload_n hx hb dX12_clause_167 rfl (lv_at hl 0 rfl) ?_
          refine lv_iload_n hx hb dX12_clause_168 rfl (lv_at hl 3 rfl) ?_
          obtain ⟨h13, e14, hf⟩ := Option.bind_eq_some_iff.mp hf
          refine r_pI X I e14 lp_TrapCornerModel_204 dX12_clause_169 (fun H locs I => ?_)
          cases hf
          exact k_rv X I hr dX12_clause_172
        · rw [if_pos c10] at hf
          cases hf
          exact k_rv X I hr dX12_clause_161
def f_X12_clause_64  (o0 : Nat) (x1 : Int32) (h : AH) : Option (Unit × AH) :=
  (isC [12] h o0).bind fun _ =>
  cN (fc_X12_condition o0 0 0 h) h fun v1 h2 =>
  (isC [12] h2 o0).bind fun _ =>
  cN (f_X12_takes o0 63 h2) h2 fun v6 h7 =>
  if v6 = 0 then
    some ((), h7)
  else
    (isC [12] h7 o0).bind fun _ =>
    cN (fc_X12_sum o0 h7) h7 fun v12 h13 =>
    f_X12_clause_134 o0 x1 v1 v12 h13
set_option maxHeartbeats 1000000 in
theorem w_X12_clause_64 (X : Cx g p s m args meth c cX12_clause 5 "TrapCornerModel") (hR : 86 ≤ R.frames ∧ 5504 ≤ R.locals) (hr : meth.sig.returnType = none) {res : Unit × AH} : ∀ (o0 : Nat) (x1 : Int32) (h : AH) (ls : Array Slot) (H : Heap) (locs : List Loc), f_X12_clause_64 o0 x1 h = some res → Iv g s n0 z0 h H locs 0 0 → lv_has ls 5 [(0, .ref (rfG g o0)), (1, .int x1)] → W p l e R s m args below meth c H locs 0 0 (MQ below (QG g none res.2) args s 0 0 (AG g)) (F0 m 64 ls []) := by
  have hx := X.1
  have hb := X.2.1
  intro o0 x1 h ls H locs hf I hl
  unfold f_X12_clause_64 at hf
  refine lv_aload_n hx hb dX12_clause_64 rfl (lv_at hl 0 rfl) ?_
  refine lv_iconst (v := 0) hx hb dX12_clause_65 (by decide) ?_
  refine lv_iconst (v := 0) hx hb dX12_clause_66 (by decide) ?_
  obtain ⟨_, g5, hf⟩ := Option.bind_eq_some_iff.mp hf
  obtain ⟨v1, h2, e3, z4, hf⟩ := cN_spec hf
  refine k_Vi (As := [.int 0, .int 0]) (rest := []) X I (cc_X12_condition l g o0 0 0 e3) z4 g5 vk_TrapCornerModel_187 tw_1563 ⟨Nat.le_trans (by decide) hR.1, Nat.le_trans (by decide) hR.2⟩ ⟨Nat.zero_le _, Nat.zero_le _⟩ rfl hl.1 rfl (Nat.le_of_ble_eq_true rfl) dX12_clause_67 (fun H locs I => ?_)
  refine lv_istore_n (lv' := [(2, .int v1), (0, .ref (rfG g o0)), (1, .int x1)]) hx hb dX12_clause_70 rfl hl (by decide) rfl (fun ls hl => ?_)
  refine lv_aload_n hx hb dX12_clause_71 rfl (lv_at hl 1 rfl) ?_
  refine lv_bipush (v := 63) hx hb dX12_clause_72 (by decide) ?_
  obtain ⟨_, g10, hf⟩ := Option.bind_eq_some_iff.mp hf
  obtain ⟨v6, h7, e8, z9, hf⟩ := cN_spec hf
  refine k_Vi (As := [.int 63]) (rest := []) X I (c_X12_takes l g o0 63 e8) z9 g10 vk_TrapCornerModel_164 tw_1559 ⟨Nat.le_trans (by decide) hR.1, Nat.le_trans (by decide) hR.2⟩ ⟨Nat.zero_le _, Nat.zero_le _⟩ rfl hl.1 rfl (Nat.le_of_ble_eq_true rfl) dX12_clause_74 (fun H locs I => ?_)
  refine lv_if_ne (tgt := 81) hx hb dX12_clause_77 (by decide) (fun c11 => ?_) (fun c11 => ?_)
  · rw [if_neg c11] at hf
    refine lv_aload_n hx hb dX12_clause_81 rfl (lv_at hl 1 rfl) ?_
    obtain ⟨_, g16, hf⟩ := Option.bind_eq_some_iff.mp hf
    obtain ⟨v12, h13, e14, z15, hf⟩ := cN_spec hf
    refine k_Vi (As := []) (rest := []) X I (cc_X12_sum l g o0 e14) z15 g16 vk_TrapCornerModel_161 tw_1575 ⟨Nat.le_trans (by decide) hR.1, Nat.le_trans (by decide) hR.2⟩ ⟨Nat.zero_le _, Nat.zero_le _⟩ rfl hl.1 rfl (Nat.le_of_ble_eq_true rfl) dX12_clause_82 (fun H locs I => ?_)
    refine lv_istore_n (lv' := [(3, .int v12), (2, .int v1), (0, .ref (rfG g o0)), (1, .int x1)]) hx hb dX12_clause_85 rfl hl (by decide) rfl (fun ls hl => ?_)
    refine lv_goto (tgt := 134) hx hb dX12_clause_86 (by decide) ?_
    exact w_X12_clause_134 X hR hr  o0 x1 v1 v12 h13 ls H locs hf I (lv_sub hl [2, 3, 1, 0] rfl)
  · rw [if_pos c11] at hf
    cases hf
    exact k_rv X I hr dX12_clause_80
def f_X12_clause_0  (o0 : Nat) (h : AH) : Option (Unit × AH) :=
  (isC [12] h o0).bind fun _ =>
  cN (f_X12_look o0 h) h fun v1 h2 =>
  cN (f_X12_isAmong 2000005 v1 h2) h2 fun v6 h7 =>
  if v6 = 0 then
    (isC [12] h7 o0).bind fun _ =>
    cN (f_X12_fails o0 h7) h7 fun v62 h63 =>
    some ((), h63)
  else
    (gI [12] h7 o0 10).bind fun v11 =>
    (pV [12] h7 o0 10 (.int (v11 + 1))).bind fun h13 =>
    (isC [12] h13 o0).bind fun _ =>
    cN (f_X12_takes o0 58 h13) h13 fun v15 h16 =>
    if v15 = 0 then
      some ((), h16)
    else
      (isC [12] h16 o0).bind fun _ =>
      cN (f_X12_look o0 h16) h16 fun v21 h22 =>
      if v21 = 33 then
        f_X12_clause_64 o0 v1 h22
      else
        if v21 = 40 then
          f_X12_clause_64 o0 v1 h22
        else
          (isC [12] h22 o0).bind fun _ =>
          cN (fc_X12_sum o0 h22) h22 fun v28 h29 =>
          (gI [12] h29 o0 11).bind fun v33 =>
          if v33 = ((-1)) then
            (isC [12] h29 o0).bind fun _ =>
            cN (f_X12_look o0 h29) h29 fun v36 h37 =>
            cN (f_X12_isSign v36 h37) h37 fun v41 h42 =>
            if v41 = 0 then
              f_X12_clause_134 o0 v1 1 v28 h42
            else
              (isC [12] h42 o0).bind fun _ =>
              cN (fc_X12_condition o0 1 v28 h42) h42 fun v46 h47 =>
              (isC [12] h47 o0).bind fun _ =>
              cN (f_X12_takes o0 63 h47) h47 fun v51 h52 =>
              if v51 = 0 then
                some ((), h52)
              else
                (isC [12] h52 o0).bind fun _ =>
                cN (fc_X12_sum o0 h52) h52 fun v57 h58 =>
                f_X12_clause_134 o0 v1 v46 v57 h58
          else
            f_X12_clause_134 o0 v1 1 v28 h29
set_option maxHeartbeats 1000000 in
theorem w_X12_clause_0 (X : Cx g p s m args meth c cX12_clause 5 "TrapCornerModel") (hR : 86 ≤ R.frames ∧ 5504 ≤ R.locals) (hr : meth.sig.returnType = none) {res : Unit × AH} : ∀ (o0 : Nat) (h : AH) (ls : Array Slot) (H : Heap) (locs : List Loc), f_X12_clause_0 o0 h = some res → Iv g s n0 z0 h H locs 0 0 → lv_has ls 5 [(0, .ref (rfG g o0))] → W p l e R s m args below meth c H locs 0 0 (MQ below (QG g none res.2) args s 0 0 (AG g)) (F0 m 0 ls []) := by
  have hx := X.1
  have hb := X.2.1
  intro o0 h ls H locs hf I hl
  unfold f_X12_clause_0 at hf
  refine lv_aload_n hx hb dX12_clause_0 rfl (lv_at hl 0 rfl) ?_
  obtain ⟨_, g5, hf⟩ := Option.bind_eq_some_iff.mp hf
  obtain ⟨v1, h2, e3, z4, hf⟩ := cN_spec hf
  refine k_Vi (As := []) (rest := []) X I (c_X12_look l g o0 e3) z4 g5 vk_TrapCornerModel_138 tw_1484 ⟨Nat.le_trans (by decide) hR.1, Nat.le_trans (by decide) hR.2⟩ ⟨Nat.zero_le _, Nat.zero_le _⟩ rfl hl.1 rfl (Nat.le_of_ble_eq_true rfl) dX12_clause_1 (fun H locs I => ?_)
  refine lv_istore_n (lv' := [(1, .int v1), (0, .ref (rfG g o0))]) hx hb dX12_clause_4 rfl hl (by decide) rfl (fun ls hl => ?_)
  refine r_ldcS (tx := "y") (i := 5) X (by decide) dX12_clause_5 ?_
  refine lv_iload_n hx hb dX12_clause_7 rfl (lv_at hl 0 rfl) ?_
  obtain ⟨v6, h7, e8, z9, hf⟩ := cN_spec hf
  refine k_Si (As := [.ref (rfG g 2000005), .int v1]) (rest := []) X I (c_X12_isAmong l g 2000005 v1 e8) z9 sk_TrapCornerModel_154 tw_1555 ⟨Nat.le_trans (by decide) hR.1, Nat.le_trans (by decide) hR.2⟩ ⟨Nat.zero_le _, Nat.zero_le _⟩ rfl hl.1 rfl (Nat.le_of_ble_eq_true rfl) dX12_clause_8 (fun H locs I => ?_)
  refine lv_if_ne (tgt := 20) hx hb dX12_clause_11 (by decide) (fun c10 => ?_) (fun c10 => ?_)
  · rw [if_neg c10] at hf
    refine lv_aload_n hx hb dX12_clause_20 rfl (lv_at hl 1 rfl) ?_
    refine lv_dup hx hb dX12_clause_21 rfl ?_
    obtain ⟨v11, e12, hf⟩ := Option.bind_eq_some_iff.mp hf
    refine r_gI X I e12 lk_TrapCornerModel_119 dX12_clause_22 ?_
    refine lv_iconst (v := 1) hx hb dX12_clause_25 (by decide) ?_
    refine lv_iadd hx hb dX12_clause_26 ?_
    obtain ⟨h13, e14, hf⟩ := Option.bind_eq_some_iff.mp hf
    refine r_pI X I e14 lp_TrapCornerModel_119 dX12_clause_27 (fun H locs I => ?_)
    refine lv_aload_n hx hb dX12_clause_30 rfl (lv_at hl 1 rfl) ?_
    refine lv_bipush (v := 58) hx hb dX12_clause_31 (by decide) ?_
    obtain ⟨_, g19, hf⟩ := Option.bind_eq_some_iff.mp hf
    obtain ⟨v15, h16, e17, z18, hf⟩ := cN_spec hf
    refine k_Vi (As := [.int 58]) (rest := []) X I (c_X12_takes l g o0 58 e17) z18 g19 vk_TrapCornerModel_164 tw_1559 ⟨Nat.le_trans (by decide) hR.1, Nat.le_trans (by decide) hR.2⟩ ⟨Nat.zero_le _, Nat.zero_le _⟩ rfl hl.1 rfl (Nat.le_of_ble_eq_true rfl) dX12_clause_33 (fun H locs I => ?_)
    refine lv_if_ne (tgt := 40) hx hb dX12_clause_36 (by decide) (fun c20 => ?_) (fun c20 => ?_)
    · rw [if_neg c20] at hf
      refine lv_iconst (v := 1) hx hb dX12_clause_40 (by decide) ?_
      refine lv_istore_n (lv' := [(2, .int 1), (1, .int v1), (0, .ref (rfG g o0))]) hx hb dX12_clause_41 rfl hl (by decide) rfl (fun ls hl => ?_)
      refine lv_iconst (v := 0) hx hb dX12_clause_42 (by decide) ?_
      refine lv_istore_n (lv' := [(3, .int 0), (2, .int 1), (1, .int v1), (0, .ref (rfG g o0))]) hx hb dX12_clause_43 rfl hl (by decide) rfl (fun ls hl => ?_)
      refine lv_aload_n hx hb dX12_clause_44 rfl (lv_at hl 3 rfl) ?_
      obtain ⟨_, g25, hf⟩ := Option.bind_eq_some_iff.mp hf
      obtain ⟨v21, h22, e23, z24, hf⟩ := cN_spec hf
      refine k_Vi (As := []) (rest := []) X I (c_X12_look l g o0 e23) z24 g25 vk_TrapCornerModel_138 tw_1484 ⟨Nat.le_trans (by decide) hR.1, Nat.le_trans (by decide) hR.2⟩ ⟨Nat.zero_le _, Nat.zero_le _⟩ rfl hl.1 rfl (Nat.le_of_ble_eq_true rfl) dX12_clause_45 (fun H locs I => ?_)
      refine lv_istore (lv' := [(4, .int v21), (3, .int 0), (2, .int 1), (1, .int v1), (0, .ref (rfG g o0))]) hx hb dX12_clause_48 hl (by decide) rfl (fun ls hl => ?_)
      refine lv_iload hx hb dX12_clause_50 (lv_at hl 0 rfl) ?_
      refine lv_bipush (v := 33) hx hb dX12_clause_52 (by decide) ?_
      refine lv_icmp_eq (tgt := 64) hx hb dX12_clause_54 (by decide) (fun c26 => ?_) (fun c26 => ?_)
      · rw [if_pos c26] at hf
        exact w_X12_clause_64 X hR hr  o0 v1 h22 ls H locs hf I (lv_sub hl [4, 3] rfl)
      · rw [if_neg c26] at hf
        refine lv_iload hx hb dX12_clause_57 (lv_at hl 0 rfl) ?_
        refine lv_bipush (v := 40) hx hb dX12_clause_59 (by decide) ?_
        refine lv_icmp_ne (tgt := 89) hx hb dX12_clause_61 (by decide) (fun c27 => ?_) (fun c27 => ?_)
        · rw [if_neg c27] at hf
          refine lv_aload_n hx hb dX12_clause_89 rfl (lv_at hl 4 rfl) ?_
          obtain ⟨_, g32, hf⟩ := Option.bind_eq_some_iff.mp hf
          obtain ⟨v28, h29, e30, z31, hf⟩ := cN_spec hf
          refine k_Vi (As := []) (rest := []) X I (cc_X12_sum l g o0 e30) z31 g32 vk_TrapCornerModel_161 tw_1575 ⟨Nat.le_trans (by decide) hR.1, Nat.le_trans (by decide) hR.2⟩ ⟨Nat.zero_le _, Nat.zero_le _⟩ rfl hl.1 rfl (Nat.le_of_ble_eq_true rfl) dX12_clause_90 (fun H locs I => ?_)
          refine lv_istore_n (lv' := [(3, .int v28), (4, .int v21), (2, .int 1), (1, .int v1), (0, .ref (rfG g o0))]) hx hb dX12_clause_93 rfl hl (by decide) rfl (fun ls hl => ?_)
          refine lv_aload_n hx hb dX12_clause_94 rfl (lv_at hl 4 rfl) ?_
          obtain ⟨v33, e34, hf⟩ := Option.bind_eq_some_iff.mp hf
          refine r_gI X I e34 lk_TrapCornerModel_128 dX12_clause_95 ?_
          refine lv_iconst (v := (-1)) hx hb dX12_clause_98 (by decide) ?_
          refine lv_icmp_ne (tgt := 134) hx hb dX12_clause_99 (by decide) (fun c35 => ?_) (fun c35 => ?_)
          · rw [if_neg c35] at hf
            exact w_X12_clause_134 X hR hr  o0 v1 1 v28 h29 ls H locs hf I (lv_sub hl [4, 3, 2, 0] rfl)
          · rw [if_pos c35] at hf
            refine lv_aload_n hx hb dX12_clause_102 rfl (lv_at hl 4 rfl) ?_
            obtain ⟨_, g40, hf⟩ := Option.bind_eq_some_iff.mp hf
            obtain ⟨v36, h37, e38, z39, hf⟩ := cN_spec hf
            refine k_Vi (As := []) (rest := []) X I (c_X12_look l g o0 e38) z39 g40 vk_TrapCornerModel_138 tw_1484 ⟨Nat.le_trans (by decide) hR.1, Nat.le_trans (by decide) hR.2⟩ ⟨Nat.zero_le _, Nat.zero_le _⟩ rfl hl.1 rfl (Nat.le_of_ble_eq_true rfl) dX12_clause_103 (fun H locs I => ?_)
            obtain ⟨v41, h42, e43, z44, hf⟩ := cN_spec hf
            refine k_Si (As := [.int v36]) (rest := []) X I (c_X12_isSign l g v36 e43) z44 sk_TrapCornerModel_181 tw_1601 ⟨Nat.le_trans (by decide) hR.1, Nat.le_trans (by decide) hR.2⟩ ⟨Nat.zero_le _, Nat.zero_le _⟩ rfl hl.1 rfl (Nat.le_of_ble_eq_true rfl) dX12_clause_106 (fun H locs I => ?_)
            refine lv_if_eq (tgt := 134) hx hb dX12_clause_109 (by decide) (fun c45 => ?_) (fun c45 => ?_)
            · rw [if_pos c45] at hf
              exact w_X12_clause_134 X hR hr  o0 v1 1 v28 h42 ls H locs hf I (lv_sub hl [4, 3, 2, 0] rfl)
            · rw [if_neg c45] at hf
              refine lv_aload_n hx hb dX12_clause_112 rfl (lv_at hl 4 rfl) ?_
              refine lv_iconst (v := 1) hx hb dX12_clause_113 (by decide) ?_
              refine lv_iload_n hx hb dX12_clause_114 rfl (lv_at hl 0 rfl) ?_
              obtain ⟨_, g50, hf⟩ := Option.bind_eq_some_iff.mp hf
              obtain ⟨v46, h47, e48, z49, hf⟩ := cN_spec hf
              refine k_Vi (As := [.int 1, .int v28]) (rest := []) X I (cc_X12_condition l g o0 1 v28 e48) z49 g50 vk_TrapCornerModel_187 tw_1563 ⟨Nat.le_trans (by decide) hR.1, Nat.le_trans (by decide) hR.2⟩ ⟨Nat.zero_le _, Nat.zero_le _⟩ rfl hl.1 rfl (Nat.le_of_ble_eq_true rfl) dX12_clause_115 (fun H locs I => ?_)
              refine lv_istore_n (lv' := [(2, .int v46), (3, .int v28), (4, .int v21), (1, .int v1), (0, .ref (rfG g o0))]) hx hb dX12_clause_118 rfl hl (by decide) rfl (fun ls hl => ?_)
              refine lv_aload_n hx hb dX12_clause_119 rfl (lv_at hl 4 rfl) ?_
              refine lv_bipush (v := 63) hx hb dX12_clause_120 (by decide) ?_
              obtain ⟨_, g55, hf⟩ := Option.bind_eq_some_iff.mp hf
              obtain ⟨v51, h52, e53, z54, hf⟩ := cN_spec hf
              refine k_Vi (As := [.int 63]) (rest := []) X I (c_X12_takes l g o0 63 e53) z54 g55 vk_TrapCornerModel_164 tw_1559 ⟨Nat.le_trans (by decide) hR.1, Nat.le_trans (by decide) hR.2⟩ ⟨Nat.zero_le _, Nat.zero_le _⟩ rfl hl.1 rfl (Nat.le_of_ble_eq_true rfl) dX12_clause_122 (fun H locs I => ?_)
              refine lv_if_ne (tgt := 129) hx hb dX12_clause_125 (by decide) (fun c56 => ?_) (fun c56 => ?_)
              · rw [if_neg c56] at hf
                refine lv_aload_n hx hb dX12_clause_129 rfl (lv_at hl 4 rfl) ?_
                obtain ⟨_, g61, hf⟩ := Option.bind_eq_some_iff.mp hf
                obtain ⟨v57, h58, e59, z60, hf⟩ := cN_spec hf
                refine k_Vi (As := []) (rest := []) X I (cc_X12_sum l g o0 e59) z60 g61 vk_TrapCornerModel_161 tw_1575 ⟨Nat.le_trans (by decide) hR.1, Nat.le_trans (by decide) hR.2⟩ ⟨Nat.zero_le _, Nat.zero_le _⟩ rfl hl.1 rfl (Nat.le_of_ble_eq_true rfl) dX12_clause_130 (fun H locs I => ?_)
                refine lv_istore_n (lv' := [(3, .int v57), (2, .int v46), (4, .int v21), (1, .int v1), (0, .ref (rfG g o0))]) hx hb dX12_clause_133 rfl hl (by decide) rfl (fun ls hl => ?_)
                exact w_X12_clause_134 X hR hr  o0 v1 v46 v57 h58 ls H locs hf I (lv_sub hl [4, 3, 1, 0] rfl)
              · rw [if_pos c56] at hf
                cases hf
                exact k_rv X I hr dX12_clause_128
        · rw [if_pos c27] at hf
          exact w_X12_clause_64 X hR hr  o0 v1 h22 ls H locs hf I (lv_sub hl [4, 3] rfl)
    · rw [if_pos c20] at hf
      cases hf
      exact k_rv X I hr dX12_clause_39
  · rw [if_pos c10] at hf
    refine lv_aload_n hx hb dX12_clause_14 rfl (lv_at hl 1 rfl) ?_
    obtain ⟨_, g66, hf⟩ := Option.bind_eq_some_iff.mp hf
    obtain ⟨v62, h63, e64, z65, hf⟩ := cN_spec hf
    refine k_Vi (As := []) (rest := []) X I (c_X12_fails l g o0 e64) z65 g66 vk_TrapCornerModel_134 tw_1488 ⟨Nat.le_trans (by decide) hR.1, Nat.le_trans (by decide) hR.2⟩ ⟨Nat.zero_le _, Nat.zero_le _⟩ rfl hl.1 rfl (Nat.le_of_ble_eq_true rfl) dX12_clause_15 (fun H locs I => ?_)
    refine lv_pop hx hb dX12_clause_18 rfl ?_
    cases hf
    exact k_rv X I hr dX12_clause_19
def f_X12_clause (o0 : Nat) (h : AH) : Option (Unit × AH) := f_X12_clause_0 o0 h
end
theorem c_X12_clause (l : Launch) (g : GG) (o0 : Nat) {h : AH} {res : Unit × AH} (hf : f_X12_clause o0 h = some res) : CM l g yX12_clause cX12_clause 5 none 86 5504 0 0 [.ref (rfG g o0)] h none res.2 :=
  k_body (by decide) (Nat.le_of_ble_eq_true rfl) (fun p e s m below meth c R ls hR hr X I hl => w_X12_clause_0 X ⟨Nat.le_of_eq hR.1.symm, Nat.le_of_eq hR.2.1.symm⟩ hr o0 h ls s.heap [] hf I (lv_sub hl [0] rfl))
/-! TrapCornerModel.goThrough([BII)V -/
theorem dX12_goThrough_0 : decode cX12_goThrough 0 = .ok (.aload_n 0, 1) := by decide +kernel
theorem dX12_goThrough_1 : decode cX12_goThrough 1 = .ok (.aload_n 1, 1) := by decide +kernel
theorem dX12_goThrough_2 : decode cX12_goThrough 2 = .ok (.iload_n 2, 1) := by decide +kernel
theorem dX12_goThrough_3 : decode cX12_goThrough 3 = .ok (.iload_n 3, 1) := by decide +kernel
theorem dX12_goThrough_4 : decode cX12_goThrough 4 = .ok (.invokevirtual 207, 3) := by decide +kernel
theorem dX12_goThrough_7 : decode cX12_goThrough 7 = .ok (.aload_n 0, 1) := by decide +kernel
theorem dX12_goThrough_8 : decode cX12_goThrough 8 = .ok (.bipush 121, 2) := by decide +kernel
theorem dX12_goThrough_10 : decode cX12_goThrough 10 = .ok (.putfield 201, 3) := by decide +kernel
theorem dX12_goThrough_13 : decode cX12_goThrough 13 = .ok (.aload_n 0, 1) := by decide +kernel
theorem dX12_goThrough_14 : decode cX12_goThrough 14 = .ok (.iconst 0, 1) := by decide +kernel
theorem dX12_goThrough_15 : decode cX12_goThrough 15 = .ok (.putfield 131, 3) := by decide +kernel
theorem dX12_goThrough_18 : decode cX12_goThrough 18 = .ok (.aload_n 0, 1) := by decide +kernel
theorem dX12_goThrough_19 : decode cX12_goThrough 19 = .ok (.iconst 0, 1) := by decide +kernel
theorem dX12_goThrough_20 : decode cX12_goThrough 20 = .ok (.putfield 197, 3) := by decide +kernel
theorem dX12_goThrough_23 : decode cX12_goThrough 23 = .ok (.aload_n 0, 1) := by decide +kernel
theorem dX12_goThrough_24 : decode cX12_goThrough 24 = .ok (.iconst 0, 1) := by decide +kernel
theorem dX12_goThrough_25 : decode cX12_goThrough 25 = .ok (.putfield 204, 3) := by decide +kernel
theorem dX12_goThrough_28 : decode cX12_goThrough 28 = .ok (.aload_n 0, 1) := by decide +kernel
theorem dX12_goThrough_29 : decode cX12_goThrough 29 = .ok (.invokevirtual 211, 3) := by decide +kernel
theorem dX12_goThrough_32 : decode cX12_goThrough 32 = .ok (.aload_n 0, 1) := by decide +kernel
theorem dX12_goThrough_33 : decode cX12_goThrough 33 = .ok (.getfield 128, 3) := by decide +kernel
theorem dX12_goThrough_36 : decode cX12_goThrough 36 = .ok (.iconst (-1), 1) := by decide +kernel
theorem dX12_goThrough_37 : decode cX12_goThrough 37 = .ok (.if_icmp .ne 29, 3) := by decide +kernel
theorem dX12_goThrough_40 : decode cX12_goThrough 40 = .ok (.aload_n 0, 1) := by decide +kernel
theorem dX12_goThrough_41 : decode cX12_goThrough 41 = .ok (.invokevirtual 138, 3) := by decide +kernel
theorem dX12_goThrough_44 : decode cX12_goThrough 44 = .ok (.bipush 59, 2) := by decide +kernel
theorem dX12_goThrough_46 : decode cX12_goThrough 46 = .ok (.if_icmp .ne 20, 3) := by decide +kernel
theorem dX12_goThrough_49 : decode cX12_goThrough 49 = .ok (.aload_n 0, 1) := by decide +kernel
theorem dX12_goThrough_50 : decode cX12_goThrough 50 = .ok (.dup, 1) := by decide +kernel
theorem dX12_goThrough_51 : decode cX12_goThrough 51 = .ok (.getfield 119, 3) := by decide +kernel
theorem dX12_goThrough_54 : decode cX12_goThrough 54 = .ok (.iconst 1, 1) := by decide +kernel
theorem dX12_goThrough_55 : decode cX12_goThrough 55 = .ok (.iadd, 1) := by decide +kernel
theorem dX12_goThrough_56 : decode cX12_goThrough 56 = .ok (.putfield 119, 3) := by decide +kernel
theorem dX12_goThrough_59 : decode cX12_goThrough 59 = .ok (.aload_n 0, 1) := by decide +kernel
theorem dX12_goThrough_60 : decode cX12_goThrough 60 = .ok (.invokevirtual 211, 3) := by decide +kernel
theorem dX12_goThrough_63 : decode cX12_goThrough 63 = .ok (.goto (-31), 3) := by decide +kernel
theorem dX12_goThrough_66 : decode cX12_goThrough 66 = .ok (.aload_n 0, 1) := by decide +kernel
theorem dX12_goThrough_67 : decode cX12_goThrough 67 = .ok (.getfield 128, 3) := by decide +kernel
theorem dX12_goThrough_70 : decode cX12_goThrough 70 = .ok (.iconst (-1), 1) := by decide +kernel
theorem dX12_goThrough_71 : decode cX12_goThrough 71 = .ok (.if_icmp .ne 16, 3) := by decide +kernel
theorem dX12_goThrough_74 : decode cX12_goThrough 74 = .ok (.aload_n 0, 1) := by decide +kernel
theorem dX12_goThrough_75 : decode cX12_goThrough 75 = .ok (.invokevirtual 138, 3) := by decide +kernel
theorem dX12_goThrough_78 : decode cX12_goThrough 78 = .ok (.iconst (-1), 1) := by decide +kernel
theorem dX12_goThrough_79 : decode cX12_goThrough 79 = .ok (.if_icmp .eq 8, 3) := by decide +kernel
theorem dX12_goThrough_82 : decode cX12_goThrough 82 = .ok (.aload_n 0, 1) := by decide +kernel
theorem dX12_goThrough_83 : decode cX12_goThrough 83 = .ok (.invokevirtual 134, 3) := by decide +kernel
theorem dX12_goThrough_86 : decode cX12_goThrough 86 = .ok (.pop, 1) := by decide +kernel
theorem dX12_goThrough_87 : decode cX12_goThrough 87 = .ok (.return_, 1) := by decide +kernel
theorem vk_TrapCornerModel_211 : VK "TrapCornerModel" 211 [12] yX12_clause 0 := ⟨tw_1549, tw_1551, tw_13, ⟨by decide, by decide⟩, by decide +kernel, fun ci hci => by
  have hci := List.mem_singleton.mp hci
  subst hci
  exact ⟨_, rfl, tp_64⟩⟩
theorem lp_TrapCornerModel_201 : LKP "TrapCornerModel" 201 [12] 13 (.int) := by
  intro ci hci
  have hci := List.mem_singleton.mp hci
  subst hci
  exact ⟨RX12, TX12, 50, "TrapCornerModel", ck_12, by decide, tw_1300, Or.inl rfl, rfl, by decide +kernel⟩
section
variable {g : GG} {p : Program} {l : Launch} {e : Env} {R : Room} {s : State} {m : MethodId} {args : Array Value} {below : List Frame} {meth : Method} {c : Code} {n0 z0 : Nat}
def f_X12_goThrough_66  (o0 : Nat) (h : AH) : Option (Unit × AH) :=
  (gI [12] h o0 11).bind fun v1 =>
  if v1 = ((-1)) then
    (isC [12] h o0).bind fun _ =>
    cN (f_X12_look o0 h) h fun v4 h5 =>
    if v4 = ((-1)) then
      some ((), h5)
    else
      (isC [12] h5 o0).bind fun _ =>
      cN (f_X12_fails o0 h5) h5 fun v10 h11 =>
      some ((), h11)
  else
    some ((), h)
set_option maxHeartbeats 1000000 in
theorem w_X12_goThrough_66 (X : Cx g p s m args meth c cX12_goThrough 4 "TrapCornerModel") (hR : 87 ≤ R.frames ∧ 5568 ≤ R.locals) (hr : meth.sig.returnType = none) {res : Unit × AH} : ∀ (o0 : Nat) (h : AH) (ls : Array Slot) (H : Heap) (locs : List Loc), f_X12_goThrough_66 o0 h = some res → Iv g s n0 z0 h H locs 0 0 → lv_has ls 4 [(0, .ref (rfG g o0))] → W p l e R s m args below meth c H locs 0 0 (MQ below (QG g none res.2) args s 0 0 (AG g)) (F0 m 66 ls []) := by
  have hx := X.1
  have hb := X.2.1
  intro o0 h ls H locs hf I hl
  unfold f_X12_goThrough_66 at hf
  refine lv_aload_n hx hb dX12_goThrough_66 rfl (lv_at hl 0 rfl) ?_
  obtain ⟨v1, e2, hf⟩ := Option.bind_eq_some_iff.mp hf
  refine r_gI X I e2 lk_TrapCornerModel_128 dX12_goThrough_67 ?_
  refine lv_iconst (v := (-1)) hx hb dX12_goThrough_70 (by decide) ?_
  refine lv_icmp_ne (tgt := 87) hx hb dX12_goThrough_71 (by decide) (fun c3 => ?_) (fun c3 => ?_)
  · rw [if_neg c3] at hf
    cases hf
    exact k_rv X I hr dX12_goThrough_87
  · rw [if_pos c3] at hf
    refine lv_aload_n hx hb dX12_goThrough_74 rfl (lv_at hl 0 rfl) ?_
    obtain ⟨_, g8, hf⟩ := Option.bind_eq_some_iff.mp hf
    obtain ⟨v4, h5, e6, z7, hf⟩ := cN_spec hf
    refine k_Vi (As := []) (rest := []) X I (c_X12_look l g o0 e6) z7 g8 vk_TrapCornerModel_138 tw_1484 ⟨Nat.le_trans (by decide) hR.1, Nat.le_trans (by decide) hR.2⟩ ⟨Nat.zero_le _, Nat.zero_le _⟩ rfl hl.1 rfl (Nat.le_of_ble_eq_true rfl) dX12_goThrough_75 (fun H locs I => ?_)
    refine lv_iconst (v := (-1)) hx hb dX12_goThrough_78 (by decide) ?_
    refine lv_icmp_eq (tgt := 87) hx hb dX12_goThrough_79 (by decide) (fun c9 => ?_) (fun c9 => ?_)
    · rw [if_pos c9] at hf
      cases hf
      exact k_rv X I hr dX12_goThrough_87
    · rw [if_neg c9] at hf
      refine lv_aload_n hx hb dX12_goThrough_82 rfl (lv_at hl 0 rfl) ?_
      obtain ⟨_, g14, hf⟩ := Option.bind_eq_some_iff.mp hf
      obtain ⟨v10, h11, e12, z13, hf⟩ := cN_spec hf
      refine k_Vi (As := []) (rest := []) X I (c_X12_fails l g o0 e12) z13 g14 vk_TrapCornerModel_134 tw_1488 ⟨Nat.le_trans (by decide) hR.1, Nat.le_trans (by decide) hR.2⟩ ⟨Nat.zero_le _, Nat.zero_le _⟩ rfl hl.1 rfl (Nat.le_of_ble_eq_true rfl) dX12_goThrough_83 (fun H locs I => ?_)
      refine lv_pop hx hb dX12_goThrough_86 rfl ?_
      cases hf
      exact k_rv X I hr dX12_goThrough_87
def f_X12_goThrough_32  : Nat → Nat → AH → Option (Unit × AH)
  | 0, _, _ => none
  | n + 1, o0, h =>
  (gI [12] h o0 11).bind fun v1 =>
  if v1 = ((-1)) then
    (isC [12] h o0).bind fun _ =>
    cN (f_X12_look o0 h) h fun v4 h5 =>
    if v4 = 59 then
      (gI [12] h5 o0 10).bind fun v10 =>
      (pV [12] h5 o0 10 (.int (v10 + 1))).bind fun h12 =>
      (isC [12] h12 o0).bind fun _ =>
      cN (f_X12_clause o0 h12) h12 fun _ h15 =>
      f_X12_goThrough_32  n o0 h15
    else
      f_X12_goThrough_66 o0 h5
  else
    f_X12_goThrough_66 o0 h
set_option maxHeartbeats 1000000 in
theorem w_X12_goThrough_32 (X : Cx g p s m args meth c cX12_goThrough 4 "TrapCornerModel") (hR : 87 ≤ R.frames ∧ 5568 ≤ R.locals) (hr : meth.sig.returnType = none) {res : Unit × AH} : ∀ (n : Nat) (o0 : Nat) (h : AH) (ls : Array Slot) (H : Heap) (locs : List Loc), f_X12_goThrough_32 n o0 h = some res → Iv g s n0 z0 h H locs 0 0 → lv_has ls 4 [(0, .ref (rfG g o0))] → W p l e R s m args below meth c H locs 0 0 (MQ below (QG g none res.2) args s 0 0 (AG g)) (F0 m 32 ls []) := by
  have hx := X.1
  have hb := X.2.1
  intro n
  induction n with
  | zero =>
    intro o0 h ls H locs hf
    rw [f_X12_goThrough_32.eq_1] at hf
    cases hf
  | succ n ih =>
    intro o0 h ls H locs hf I hl
    rw [f_X12_goThrough_32.eq_2] at hf
    refine lv_aload_n hx hb dX12_goThrough_32 rfl (lv_at hl 0 rfl) ?_
    obtain ⟨v1, e2, hf⟩ := Option.bind_eq_some_iff.mp hf
    refine r_gI X I e2 lk_TrapCornerModel_128 dX12_goThrough_33 ?_
    refine lv_iconst (v := (-1)) hx hb dX12_goThrough_36 (by decide) ?_
    refine lv_icmp_ne (tgt := 66) hx hb dX12_goThrough_37 (by decide) (fun c3 => ?_) (fun c3 => ?_)
    · rw [if_neg c3] at hf
      exact w_X12_goThrough_66 X hR hr  o0 h ls H locs hf I (lv_sub hl [0] rfl)
    · rw [if_pos c3] at hf
      refine lv_aload_n hx hb dX12_goThrough_40 rfl (lv_at hl 0 rfl) ?_
      obtain ⟨_, g8, hf⟩ := Option.bind_eq_some_iff.mp hf
      obtain ⟨v4, h5, e6, z7, hf⟩ := cN_spec hf
      refine k_Vi (As := []) (rest := []) X I (c_X12_look l g o0 e6) z7 g8 vk_TrapCornerModel_138 tw_1484 ⟨Nat.le_trans (by decide) hR.1, Nat.le_trans (by decide) hR.2⟩ ⟨Nat.zero_le _, Nat.zero_le _⟩ rfl hl.1 rfl (Nat.le_of_ble_eq_true rfl) dX12_goThrough_41 (fun H locs I => ?_)
      refine lv_bipush (v := 59) hx hb dX12_goThrough_44 (by decide) ?_
      refine lv_icmp_ne (tgt := 66) hx hb dX12_goThrough_46 (by decide) (fun c9 => ?_) (fun c9 => ?_)
      · rw [if_neg c9] at hf
        exact w_X12_goThrough_66 X hR hr  o0 h5 ls H locs hf I (lv_sub hl [0] rfl)
      · rw [if_pos c9] at hf
        refine lv_aload_n hx hb dX12_goThrough_49 rfl (lv_at hl 0 rfl) ?_
        refine lv_dup hx hb dX12_goThrough_50 rfl ?_
        obtain ⟨v10, e11, hf⟩ := Option.bind_eq_some_iff.mp hf
        refine r_gI X I e11 lk_TrapCornerModel_119 dX12_goThrough_51 ?_
        refine lv_iconst (v := 1) hx hb dX12_goThrough_54 (by decide) ?_
        refine lv_iadd hx hb dX12_goThrough_55 ?_
        obtain ⟨h12, e13, hf⟩ := Option.bind_eq_some_iff.mp hf
        refine r_pI X I e13 lp_TrapCornerModel_119 dX12_goThrough_56 (fun H locs I => ?_)
        refine lv_aload_n hx hb dX12_goThrough_59 rfl (lv_at hl 0 rfl) ?_
        obtain ⟨_, g18, hf⟩ := Option.bind_eq_some_iff.mp hf
        obtain ⟨⟨⟩, h15, e16, z17, hf⟩ := cN_spec hf
        refine k_Vv (As := []) (rest := []) X I (c_X12_clause l g o0 e16) z17 g18 vk_TrapCornerModel_211 tw_1552 ⟨Nat.le_trans (by decide) hR.1, Nat.le_trans (by decide) hR.2⟩ ⟨Nat.zero_le _, Nat.zero_le _⟩ rfl hl.1 rfl (Nat.le_of_ble_eq_true rfl) dX12_goThrough_60 (fun H locs I => ?_)
        refine lv_goto (tgt := 32) hx hb dX12_goThrough_63 (by decide) ?_
        exact ih o0 h15 ls H locs hf I (lv_sub hl [0] rfl)
def f_X12_goThrough_0  (o0 : Nat) (o1 : Nat) (x2 : Int32) (x3 : Int32) (h : AH) : Option (Unit × AH) :=
  (isC [12] h o0).bind fun _ =>
  cN (f_X12_starts o0 o1 x2 x3 h) h fun _ h2 =>
  (pV [12] h2 o0 13 (.int 121)).bind fun h6 =>
  (pV [12] h6 o0 12 (.int 0)).bind fun h8 =>
  (pZ [12] h8 o0 17 0).bind fun h10 =>
  (pV [12] h10 o0 14 (.int 0)).bind fun h12 =>
  (isC [12] h12 o0).bind fun _ =>
  cN (f_X12_clause o0 h12) h12 fun _ h15 =>
  f_X12_goThrough_32 fu o0 h15
set_option maxHeartbeats 1000000 in
theorem w_X12_goThrough_0 (X : Cx g p s m args meth c cX12_goThrough 4 "TrapCornerModel") (hR : 87 ≤ R.frames ∧ 5568 ≤ R.locals) (hr : meth.sig.returnType = none) {res : Unit × AH} : ∀ (o0 : Nat) (o1 : Nat) (x2 : Int32) (x3 : Int32) (h : AH) (ls : Array Slot) (H : Heap) (locs : List Loc), f_X12_goThrough_0 o0 o1 x2 x3 h = some res → Iv g s n0 z0 h H locs 0 0 → lv_has ls 4 [(0, .ref (rfG g o0)), (1, .ref (rfG g o1)), (2, .int x2), (3, .int x3)] → W p l e R s m args below meth c H locs 0 0 (MQ below (QG g none res.2) args s 0 0 (AG g)) (F0 m 0 ls []) := by
  have hx := X.1
  have hb := X.2.1
  intro o0 o1 x2 x3 h ls H locs hf I hl
  unfold f_X12_goThrough_0 at hf
  refine lv_aload_n hx hb dX12_goThrough_0 rfl (lv_at hl 0 rfl) ?_
  refine lv_aload_n hx hb dX12_goThrough_1 rfl (lv_at hl 1 rfl) ?_
  refine lv_iload_n hx hb dX12_goThrough_2 rfl (lv_at hl 2 rfl) ?_
  refine lv_iload_n hx hb dX12_goThrough_3 rfl (lv_at hl 3 rfl) ?_
  obtain ⟨_, g5, hf⟩ := Option.bind_eq_some_iff.mp hf
  obtain ⟨⟨⟩, h2, e3, z4, hf⟩ := cN_spec hf
  refine k_Vv (As := [.ref (rfG g o1), .int x2, .int x3]) (rest := []) X I (c_X12_starts l g o0 o1 x2 x3 e3) z4 g5 vk_TrapCornerModel_207 tw_1473 ⟨Nat.le_trans (by decide) hR.1, Nat.le_trans (by decide) hR.2⟩ ⟨Nat.zero_le _, Nat.zero_le _⟩ rfl hl.1 rfl (Nat.le_of_ble_eq_true rfl) dX12_goThrough_4 (fun H locs I => ?_)
  refine lv_aload_n hx hb dX12_goThrough_7 rfl (lv_at hl 0 rfl) ?_
  refine lv_bipush (v := 121) hx hb dX12_goThrough_8 (by decide) ?_
  obtain ⟨h6, e7, hf⟩ := Option.bind_eq_some_iff.mp hf
  refine r_pI X I e7 lp_TrapCornerModel_201 dX12_goThrough_10 (fun H locs I => ?_)
  refine lv_aload_n hx hb dX12_goThrough_13 rfl (lv_at hl 0 rfl) ?_
  refine lv_iconst (v := 0) hx hb dX12_goThrough_14 (by decide) ?_
  obtain ⟨h8, e9, hf⟩ := Option.bind_eq_some_iff.mp hf
  refine r_pI X I e9 lp_TrapCornerModel_131 dX12_goThrough_15 (fun H locs I => ?_)
  refine lv_aload_n hx hb dX12_goThrough_18 rfl (lv_at hl 0 rfl) ?_
  refine lv_iconst (v := 0) hx hb dX12_goThrough_19 (by decide) ?_
  obtain ⟨h10, e11, hf⟩ := Option.bind_eq_some_iff.mp hf
  refine r_pZ X I e11 lp_TrapCornerModel_197 dX12_goThrough_20 (fun H locs I => ?_)
  refine lv_aload_n hx hb dX12_goThrough_23 rfl (lv_at hl 0 rfl) ?_
  refine lv_iconst (v := 0) hx hb dX12_goThrough_24 (by decide) ?_
  obtain ⟨h12, e13, hf⟩ := Option.bind_eq_some_iff.mp hf
  refine r_pI X I e13 lp_TrapCornerModel_204 dX12_goThrough_25 (fun H locs I => ?_)
  refine lv_aload_n hx hb dX12_goThrough_28 rfl (lv_at hl 0 rfl) ?_
  obtain ⟨_, g18, hf⟩ := Option.bind_eq_some_iff.mp hf
  obtain ⟨⟨⟩, h15, e16, z17, hf⟩ := cN_spec hf
  refine k_Vv (As := []) (rest := []) X I (c_X12_clause l g o0 e16) z17 g18 vk_TrapCornerModel_211 tw_1552 ⟨Nat.le_trans (by decide) hR.1, Nat.le_trans (by decide) hR.2⟩ ⟨Nat.zero_le _, Nat.zero_le _⟩ rfl hl.1 rfl (Nat.le_of_ble_eq_true rfl) dX12_goThrough_29 (fun H locs I => ?_)
  exact w_X12_goThrough_32 X hR hr fu o0 h15 ls H locs hf I (lv_sub hl [0] rfl)
def f_X12_goThrough (o0 : Nat) (o1 : Nat) (x2 : Int32) (x3 : Int32) (h : AH) : Option (Unit × AH) := f_X12_goThrough_0 o0 o1 x2 x3 h
end
theorem c_X12_goThrough (l : Launch) (g : GG) (o0 : Nat) (o1 : Nat) (x2 : Int32) (x3 : Int32) {h : AH} {res : Unit × AH} (hf : f_X12_goThrough o0 o1 x2 x3 h = some res) : CM l g yX12_goThrough cX12_goThrough 4 none 87 5568 0 0 [.ref (rfG g o0), .ref (rfG g o1), .int x2, .int x3] h none res.2 :=
  k_body (by decide) (Nat.le_of_ble_eq_true rfl) (fun p e s m below meth c R ls hR hr X I hl => w_X12_goThrough_0 X ⟨Nat.le_of_eq hR.1.symm, Nat.le_of_eq hR.2.1.symm⟩ hr o0 o1 x2 x3 h ls s.heap [] hf I (lv_sub hl [0, 1, 2, 3] rfl))
