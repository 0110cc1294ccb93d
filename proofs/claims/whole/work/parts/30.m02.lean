/-! TrapCornerModel.atom()I -/
theorem dX12_atom_0 : decode cX12_atom 0 = .ok (.aload_n 0, 1) := by decide +kernel
theorem dX12_atom_1 : decode cX12_atom 1 = .ok (.invokevirtual 138, 3) := by decide +kernel
theorem dX12_atom_4 : decode cX12_atom 4 = .ok (.istore_n 1, 1) := by decide +kernel
theorem dX12_atom_5 : decode cX12_atom 5 = .ok (.ldc 32, 2) := by decide +kernel
theorem dX12_atom_7 : decode cX12_atom 7 = .ok (.iload_n 1, 1) := by decide +kernel
theorem dX12_atom_8 : decode cX12_atom 8 = .ok (.invokestatic 154, 3) := by decide +kernel
theorem dX12_atom_11 : decode cX12_atom 11 = .ok (.ifCond .eq 20, 3) := by decide +kernel
theorem dX12_atom_14 : decode cX12_atom 14 = .ok (.aload_n 0, 1) := by decide +kernel
theorem dX12_atom_15 : decode cX12_atom 15 = .ok (.dup, 1) := by decide +kernel
theorem dX12_atom_16 : decode cX12_atom 16 = .ok (.getfield 119, 3) := by decide +kernel
theorem dX12_atom_19 : decode cX12_atom 19 = .ok (.iconst 1, 1) := by decide +kernel
theorem dX12_atom_20 : decode cX12_atom 20 = .ok (.iadd, 1) := by decide +kernel
theorem dX12_atom_21 : decode cX12_atom 21 = .ok (.putfield 119, 3) := by decide +kernel
theorem dX12_atom_24 : decode cX12_atom 24 = .ok (.aload_n 0, 1) := by decide +kernel
theorem dX12_atom_25 : decode cX12_atom 25 = .ok (.getfield 20, 3) := by decide +kernel
theorem dX12_atom_28 : decode cX12_atom 28 = .ok (.iload_n 1, 1) := by decide +kernel
theorem dX12_atom_29 : decode cX12_atom 29 = .ok (.iaload, 1) := by decide +kernel
theorem dX12_atom_30 : decode cX12_atom 30 = .ok (.ireturn, 1) := by decide +kernel
theorem dX12_atom_31 : decode cX12_atom 31 = .ok (.iload_n 1, 1) := by decide +kernel
theorem dX12_atom_32 : decode cX12_atom 32 = .ok (.bipush 91, 2) := by decide +kernel
theorem dX12_atom_34 : decode cX12_atom 34 = .ok (.if_icmp .ne 40, 3) := by decide +kernel
theorem dX12_atom_37 : decode cX12_atom 37 = .ok (.aload_n 0, 1) := by decide +kernel
theorem dX12_atom_38 : decode cX12_atom 38 = .ok (.invokevirtual 158, 3) := by decide +kernel
theorem dX12_atom_41 : decode cX12_atom 41 = .ok (.ifCond .ne 5, 3) := by decide +kernel
theorem dX12_atom_44 : decode cX12_atom 44 = .ok (.iconst 0, 1) := by decide +kernel
theorem dX12_atom_45 : decode cX12_atom 45 = .ok (.ireturn, 1) := by decide +kernel
theorem dX12_atom_46 : decode cX12_atom 46 = .ok (.aload_n 0, 1) := by decide +kernel
theorem dX12_atom_47 : decode cX12_atom 47 = .ok (.invokevirtual 161, 3) := by decide +kernel
theorem dX12_atom_50 : decode cX12_atom 50 = .ok (.istore_n 2, 1) := by decide +kernel
theorem dX12_atom_51 : decode cX12_atom 51 = .ok (.aload_n 0, 1) := by decide +kernel
theorem dX12_atom_52 : decode cX12_atom 52 = .ok (.bipush 93, 2) := by decide +kernel
theorem dX12_atom_54 : decode cX12_atom 54 = .ok (.invokevirtual 164, 3) := by decide +kernel
theorem dX12_atom_57 : decode cX12_atom 57 = .ok (.ifCond .ne 5, 3) := by decide +kernel
theorem dX12_atom_60 : decode cX12_atom 60 = .ok (.iconst 0, 1) := by decide +kernel
theorem dX12_atom_61 : decode cX12_atom 61 = .ok (.ireturn, 1) := by decide +kernel
theorem dX12_atom_62 : decode cX12_atom 62 = .ok (.aload_n 0, 1) := by decide +kernel
theorem dX12_atom_63 : decode cX12_atom 63 = .ok (.dup, 1) := by decide +kernel
theorem dX12_atom_64 : decode cX12_atom 64 = .ok (.getfield 131, 3) := by decide +kernel
theorem dX12_atom_67 : decode cX12_atom 67 = .ok (.iconst 1, 1) := by decide +kernel
theorem dX12_atom_68 : decode cX12_atom 68 = .ok (.isub, 1) := by decide +kernel
theorem dX12_atom_69 : decode cX12_atom 69 = .ok (.putfield 131, 3) := by decide +kernel
theorem dX12_atom_72 : decode cX12_atom 72 = .ok (.iload_n 2, 1) := by decide +kernel
theorem dX12_atom_73 : decode cX12_atom 73 = .ok (.ireturn, 1) := by decide +kernel
theorem dX12_atom_74 : decode cX12_atom 74 = .ok (.aload_n 0, 1) := by decide +kernel
theorem dX12_atom_75 : decode cX12_atom 75 = .ok (.invokevirtual 168, 3) := by decide +kernel
theorem dX12_atom_78 : decode cX12_atom 78 = .ok (.ifCond .ne 8, 3) := by decide +kernel
theorem dX12_atom_81 : decode cX12_atom 81 = .ok (.aload_n 0, 1) := by decide +kernel
theorem dX12_atom_82 : decode cX12_atom 82 = .ok (.invokevirtual 134, 3) := by decide +kernel
theorem dX12_atom_85 : decode cX12_atom 85 = .ok (.pop, 1) := by decide +kernel
theorem dX12_atom_86 : decode cX12_atom 86 = .ok (.iconst 0, 1) := by decide +kernel
theorem dX12_atom_87 : decode cX12_atom 87 = .ok (.istore_n 2, 1) := by decide +kernel
theorem dX12_atom_88 : decode cX12_atom 88 = .ok (.iconst 0, 1) := by decide +kernel
theorem dX12_atom_89 : decode cX12_atom 89 = .ok (.istore_n 3, 1) := by decide +kernel
theorem dX12_atom_90 : decode cX12_atom 90 = .ok (.aload_n 0, 1) := by decide +kernel
theorem dX12_atom_91 : decode cX12_atom 91 = .ok (.invokevirtual 168, 3) := by decide +kernel
theorem dX12_atom_94 : decode cX12_atom 94 = .ok (.ifCond .eq 62, 3) := by decide +kernel
theorem dX12_atom_97 : decode cX12_atom 97 = .ok (.aload_n 0, 1) := by decide +kernel
theorem dX12_atom_98 : decode cX12_atom 98 = .ok (.getfield 128, 3) := by decide +kernel
theorem dX12_atom_101 : decode cX12_atom 101 = .ok (.iconst (-1), 1) := by decide +kernel
theorem dX12_atom_102 : decode cX12_atom 102 = .ok (.if_icmp .ne 54, 3) := by decide +kernel
theorem dX12_atom_105 : decode cX12_atom 105 = .ok (.iload_n 3, 1) := by decide +kernel
theorem dX12_atom_106 : decode cX12_atom 106 = .ok (.iconst 4, 1) := by decide +kernel
theorem dX12_atom_107 : decode cX12_atom 107 = .ok (.if_icmp .ne 10, 3) := by decide +kernel
theorem dX12_atom_110 : decode cX12_atom 110 = .ok (.aload_n 0, 1) := by decide +kernel
theorem dX12_atom_111 : decode cX12_atom 111 = .ok (.invokevirtual 134, 3) := by decide +kernel
theorem dX12_atom_114 : decode cX12_atom 114 = .ok (.pop, 1) := by decide +kernel
theorem dX12_atom_115 : decode cX12_atom 115 = .ok (.iconst 0, 1) := by decide +kernel
theorem dX12_atom_116 : decode cX12_atom 116 = .ok (.ireturn, 1) := by decide +kernel
theorem dX12_atom_117 : decode cX12_atom 117 = .ok (.bipush 10, 2) := by decide +kernel
theorem dX12_atom_119 : decode cX12_atom 119 = .ok (.iload_n 2, 1) := by decide +kernel
theorem dX12_atom_120 : decode cX12_atom 120 = .ok (.imul, 1) := by decide +kernel
theorem dX12_atom_121 : decode cX12_atom 121 = .ok (.aload_n 0, 1) := by decide +kernel
theorem dX12_atom_122 : decode cX12_atom 122 = .ok (.getfield 23, 3) := by decide +kernel
theorem dX12_atom_125 : decode cX12_atom 125 = .ok (.aload_n 0, 1) := by decide +kernel
theorem dX12_atom_126 : decode cX12_atom 126 = .ok (.getfield 125, 3) := by decide +kernel
theorem dX12_atom_129 : decode cX12_atom 129 = .ok (.aload_n 0, 1) := by decide +kernel
theorem dX12_atom_130 : decode cX12_atom 130 = .ok (.getfield 119, 3) := by decide +kernel
theorem dX12_atom_133 : decode cX12_atom 133 = .ok (.iadd, 1) := by decide +kernel
theorem dX12_atom_134 : decode cX12_atom 134 = .ok (.baload, 1) := by decide +kernel
theorem dX12_atom_135 : decode cX12_atom 135 = .ok (.iadd, 1) := by decide +kernel
theorem dX12_atom_136 : decode cX12_atom 136 = .ok (.bipush 48, 2) := by decide +kernel
theorem dX12_atom_138 : decode cX12_atom 138 = .ok (.isub, 1) := by decide +kernel
theorem dX12_atom_139 : decode cX12_atom 139 = .ok (.istore_n 2, 1) := by decide +kernel
theorem dX12_atom_140 : decode cX12_atom 140 = .ok (.aload_n 0, 1) := by decide +kernel
theorem dX12_atom_141 : decode cX12_atom 141 = .ok (.dup, 1) := by decide +kernel
theorem dX12_atom_142 : decode cX12_atom 142 = .ok (.getfield 119, 3) := by decide +kernel
theorem dX12_atom_145 : decode cX12_atom 145 = .ok (.iconst 1, 1) := by decide +kernel
theorem dX12_atom_146 : decode cX12_atom 146 = .ok (.iadd, 1) := by decide +kernel
theorem dX12_atom_147 : decode cX12_atom 147 = .ok (.putfield 119, 3) := by decide +kernel
theorem dX12_atom_150 : decode cX12_atom 150 = .ok (.iinc 3 1, 3) := by decide +kernel
theorem dX12_atom_153 : decode cX12_atom 153 = .ok (.goto (-63), 3) := by decide +kernel
theorem dX12_atom_156 : decode cX12_atom 156 = .ok (.iload_n 2, 1) := by decide +kernel
theorem dX12_atom_157 : decode cX12_atom 157 = .ok (.ireturn, 1) := by decide +kernel
theorem sk_TrapCornerModel_154 : SK "TrapCornerModel" 154 yX12_isAmong 2 := ⟨tw_1553, tw_1554, tw_13, ⟨by decide, by decide⟩, by decide +kernel⟩
theorem vk_TrapCornerModel_158 : VK "TrapCornerModel" 158 [12] yX12_goesIn 0 := ⟨tw_1584, tw_1586, tw_13, ⟨by decide, by decide⟩, by decide +kernel, fun ci hci => by
  have hci := List.mem_singleton.mp hci
  subst hci
  exact ⟨_, rfl, tp_72⟩⟩
theorem vk_TrapCornerModel_161 : VK "TrapCornerModel" 161 [12] yX12_sum 0 := ⟨tw_1572, tw_1574, tw_13, ⟨by decide, by decide⟩, by decide +kernel, fun ci hci => by
  have hci := List.mem_singleton.mp hci
  subst hci
  exact ⟨_, rfl, tp_69⟩⟩
theorem vk_TrapCornerModel_164 : VK "TrapCornerModel" 164 [12] yX12_takes 1 := ⟨tw_1556, tw_1558, tw_13, ⟨by decide, by decide⟩, by decide +kernel, fun ci hci => by
  have hci := List.mem_singleton.mp hci
  subst hci
  exact ⟨_, rfl, tp_65⟩⟩
theorem lk_TrapCornerModel_20 : LK "TrapCornerModel" 20 [12] 4 := by
  intro ci hci
  have hci := List.mem_singleton.mp hci
  subst hci
  exact ⟨RX12, TX12, 50, "TrapCornerModel", ck_12, by decide, tw_1291, Or.inl rfl⟩
section
variable {g : GG} {p : Program} {l : Launch} {e : Env} {R : Room} {s : State} {m : MethodId} {args : Array Value} {below : List Frame} {meth : Method} {c : Code} {n0 z0 : Nat}
def f_X12_atom_90 (fS : Nat → AH → Option (Int32 × AH))  : Nat → Nat → Int32 → Int32 → AH → Option (Int32 × AH)
  | 0, _, _, _, _ => none
  | n + 1, o0, x2, x3, h =>
  (isC [12] h o0).bind fun _ =>
  cN (f_X12_isDigit o0 h) h fun v1 h2 =>
  if v1 = 0 then
    some (x2, h2)
  else
    (gI [12] h2 o0 11).bind fun v7 =>
    if v7 = ((-1)) then
      if x3 = 4 then
        (isC [12] h2 o0).bind fun _ =>
        cN (f_X12_fails o0 h2) h2 fun v23 h24 =>
        some (0, h24)
      else
        (gR [12] h2 o0 5).bind fun v11 =>
        (gI [12] h2 o0 8).bind fun v13 =>
        (gI [12] h2 o0 10).bind fun v15 =>
        (aI 1 h2 v11 (v13 + v15)).bind fun v17 =>
        (gI [12] h2 o0 10).bind fun v19 =>
        (pV [12] h2 o0 10 (.int (v19 + 1))).bind fun h21 =>
        f_X12_atom_90 fS n o0 (((10 * x2) + v17) - 48) (x3 + 1) h21
    else
      some (x2, h2)
set_option maxHeartbeats 1000000 in
theorem w_X12_atom_90 (K : Nat) (hK : 14 ≤ K) {fS : Nat → AH → Option (Int32 × AH)} (hS : ∀ (o0 : Nat) {h : AH} {res : Int32 × AH}, fS o0 h = some res → CM l g yX12_sum cX12_sum 5 (some (.int)) K (64 * K) 0 0 [.ref (rfG g o0)] h (some (.int res.1)) res.2) (X : Cx g p s m args meth c cX12_atom 4 "TrapCornerModel") (hR : (K + 1) ≤ R.frames ∧ (64 * (K + 1)) ≤ R.locals) (hr : meth.sig.returnType = (some (.int))) {res : Int32 × AH} : ∀ (n : Nat) (o0 : Nat) (x2 : Int32) (x3 : Int32) (h : AH) (ls : Array Slot) (H : Heap) (locs : List Loc), f_X12_atom_90 fS n o0 x2 x3 h = some res → Iv g s n0 z0 h H locs 0 0 → lv_has ls 4 [(0, .ref (rfG g o0)), (2, .int x2), (3, .int x3)] → W p l e R s m args below meth c H locs 0 0 (MQ below (QG g (some (.int res.1)) res.2) args s 0 0 (AG g)) (F0 m 90 ls []) := by
  have hx := X.1
  have hb := X.2.1
  intro n
  induction n with
  | zero =>
    intro o0 x2 x3 h ls H locs hf
    rw [f_X12_atom_90.eq_1] at hf
    cases hf
  | succ n ih =>
    intro o0 x2 x3 h ls H locs hf I hl
    rw [f_X12_atom_90.eq_2] at hf
    refine lv_aload_n hx hb dX12_atom_90 rfl (lv_at hl 0 rfl) ?_
    obtain ⟨_, g5, hf⟩ := Option.bind_eq_some_iff.mp hf
    obtain ⟨v1, h2, e3, z4, hf⟩ := cN_spec hf
    refine k_Vi (As := []) (rest := []) X I (c_X12_isDigit l g o0 e3) z4 g5 vk_TrapCornerModel_168 tw_1534 ⟨by omega, by omega⟩ ⟨Nat.zero_le _, Nat.zero_le _⟩ rfl hl.1 rfl (Nat.le_of_ble_eq_true rfl) dX12_atom_91 (fun H locs I => ?_)
    refine lv_if_eq (tgt := 156) hx hb dX12_atom_94 (by decide) (fun c6 => ?_) (fun c6 => ?_)
    · rw [if_pos c6] at hf
      refine lv_iload_n hx hb dX12_atom_156 rfl (lv_at hl 1 rfl) ?_
      cases hf
      exact k_ri X I hr dX12_atom_157
    · rw [if_neg c6] at hf
      refine lv_aload_n hx hb dX12_atom_97 rfl (lv_at hl 0 rfl) ?_
      obtain ⟨v7, e8, hf⟩ := Option.bind_eq_some_iff.mp hf
      refine r_gI X I e8 lk_TrapCornerModel_128 dX12_atom_98 ?_
      refine lv_iconst (v := (-1)) hx hb dX12_atom_101 (by decide) ?_
      refine lv_icmp_ne (tgt := 156) hx hb dX12_atom_102 (by decide) (fun c9 => ?_) (fun c9 => ?_)
      · rw [if_neg c9] at hf
        refine lv_iload_n hx hb dX12_atom_156 rfl (lv_at hl 1 rfl) ?_
        cases hf
        exact k_ri X I hr dX12_atom_157
      · rw [if_pos c9] at hf
        refine lv_iload_n hx hb dX12_atom_105 rfl (lv_at hl 2 rfl) ?_
        refine lv_iconst (v := 4) hx hb dX12_atom_106 (by decide) ?_
        refine lv_icmp_ne (tgt := 117) hx hb dX12_atom_107 (by decide) (fun c10 => ?_) (fun c10 => ?_)
        · rw [if_neg c10] at hf
          refine lv_bipush (v := 10) hx hb dX12_atom_117 (by decide) ?_
          refine lv_iload_n hx hb dX12_atom_119 rfl (lv_at hl 1 rfl) ?_
          refine lv_imul hx hb dX12_atom_120 ?_
          refine lv_aload_n hx hb dX12_atom_121 rfl (lv_at hl 0 rfl) ?_
          obtain ⟨v11, e12, hf⟩ := Option.bind_eq_some_iff.mp hf
          refine r_gR X I e12 lk_TrapCornerModel_23 dX12_atom_122 ?_
          refine lv_aload_n hx hb dX12_atom_125 rfl (lv_at hl 0 rfl) ?_
          obtain ⟨v13, e14, hf⟩ := Option.bind_eq_some_iff.mp hf
          refine r_gI X I e14 lk_TrapCornerModel_125 dX12_atom_126 ?_
          refine lv_aload_n hx hb dX12_atom_129 rfl (lv_at hl 0 rfl) ?_
          obtain ⟨v15, e16, hf⟩ := Option.bind_eq_some_iff.mp hf
          refine r_gI X I e16 lk_TrapCornerModel_119 dX12_atom_130 ?_
          refine lv_iadd hx hb dX12_atom_133 ?_
          obtain ⟨v17, e18, hf⟩ := Option.bind_eq_some_iff.mp hf
          refine r_aI1 X I e18 dX12_atom_134 ?_
          refine lv_iadd hx hb dX12_atom_135 ?_
          refine lv_bipush (v := 48) hx hb dX12_atom_136 (by decide) ?_
          refine lv_isub hx hb dX12_atom_138 ?_
          refine lv_istore_n (lv' := [(2, .int (((10 * x2) + v17) - 48)), (0, .ref (rfG g o0)), (3, .int x3)]) hx hb dX12_atom_139 rfl hl (by decide) rfl (fun ls hl => ?_)
          refine lv_aload_n hx hb dX12_atom_140 rfl (lv_at hl 1 rfl) ?_
          refine lv_dup hx hb dX12_atom_141 rfl ?_
          obtain ⟨v19, e20, hf⟩ := Option.bind_eq_some_iff.mp hf
          refine r_gI X I e20 lk_TrapCornerModel_119 dX12_atom_142 ?_
          refine lv_iconst (v := 1) hx hb dX12_atom_145 (by decide) ?_
          refine lv_iadd hx hb dX12_atom_146 ?_
          obtain ⟨h21, e22, hf⟩ := Option.bind_eq_some_iff.mp hf
          refine r_pI X I e22 lp_TrapCornerModel_119 dX12_atom_147 (fun H locs I => ?_)
          refine lv_iinc (v := x3 + 1) (lv' := [(3, .int (x3 + 1)), (2, .int (((10 * x2) + v17) - 48)), (0, .ref (rfG g o0))]) hx hb dX12_atom_150 hl (k := 2) rfl rfl (by decide) rfl (fun ls hl => ?_)
          refine lv_goto (tgt := 90) hx hb dX12_atom_153 (by decide) ?_
          exact ih o0 (((10 * x2) + v17) - 48) (x3 + 1) h21 ls H locs hf I (lv_sub hl [2, 1, 0] rfl)
        · rw [if_pos c10] at hf
          refine lv_aload_n hx hb dX12_atom_110 rfl (lv_at hl 0 rfl) ?_
          obtain ⟨_, g27, hf⟩ := Option.bind_eq_some_iff.mp hf
          obtain ⟨v23, h24, e25, z26, hf⟩ := cN_spec hf
          refine k_Vi (As := []) (rest := []) X I (c_X12_fails l g o0 e25) z26 g27 vk_TrapCornerModel_134 tw_1488 ⟨by omega, by omega⟩ ⟨Nat.zero_le _, Nat.zero_le _⟩ rfl hl.1 rfl (Nat.le_of_ble_eq_true rfl) dX12_atom_111 (fun H locs I => ?_)
          refine lv_pop hx hb dX12_atom_114 rfl ?_
          refine lv_iconst (v := 0) hx hb dX12_atom_115 (by decide) ?_
          cases hf
          exact k_ri X I hr dX12_atom_116
def f_X12_atom_86 (fS : Nat → AH → Option (Int32 × AH))  (o0 : Nat) (h : AH) : Option (Int32 × AH) :=
  f_X12_atom_90 fS fu o0 0 0 h
set_option maxHeartbeats 1000000 in
theorem w_X12_atom_86 (K : Nat) (hK : 14 ≤ K) {fS : Nat → AH → Option (Int32 × AH)} (hS : ∀ (o0 : Nat) {h : AH} {res : Int32 × AH}, fS o0 h = some res → CM l g yX12_sum cX12_sum 5 (some (.int)) K (64 * K) 0 0 [.ref (rfG g o0)] h (some (.int res.1)) res.2) (X : Cx g p s m args meth c cX12_atom 4 "TrapCornerModel") (hR : (K + 1) ≤ R.frames ∧ (64 * (K + 1)) ≤ R.locals) (hr : meth.sig.returnType = (some (.int))) {res : Int32 × AH} : ∀ (o0 : Nat) (h : AH) (ls : Array Slot) (H : Heap) (locs : List Loc), f_X12_atom_86 fS o0 h = some res → Iv g s n0 z0 h H locs 0 0 → lv_has ls 4 [(0, .ref (rfG g o0))] → W p l e R s m args below meth c H locs 0 0 (MQ below (QG g (some (.int res.1)) res.2) args s 0 0 (AG g)) (F0 m 86 ls []) := by
  have hx := X.1
  have hb := X.2.1
  intro o0 h ls H locs hf I hl
  unfold f_X12_atom_86 at hf
  refine lv_iconst (v := 0) hx hb dX12_atom_86 (by decide) ?_
  refine lv_istore_n (lv' := [(2, .int 0), (0, .ref (rfG g o0))]) hx hb dX12_atom_87 rfl hl (by decide) rfl (fun ls hl => ?_)
  refine lv_iconst (v := 0) hx hb dX12_atom_88 (by decide) ?_
  refine lv_istore_n (lv' := [(3, .int 0), (2, .int 0), (0, .ref (rfG g o0))]) hx hb dX12_atom_89 rfl hl (by decide) rfl (fun ls hl => ?_)
  exact w_X12_atom_90 K hK hS X hR hr fu o0 0 0 h ls H locs hf I (lv_sub hl [2, 1, 0] rfl)
def f_X12_atom_0 (fS : Nat → AH → Option (Int32 × AH))  (o0 : Nat) (h : AH) : Option (Int32 × AH) :=
  (isC [12] h o0).bind fun _ =>
  cN (f_X12_look o0 h) h fun v1 h2 =>
  cN (f_X12_isAmong 2000003 v1 h2) h2 fun v6 h7 =>
  if v6 = 0 then
    if v1 = 91 then
      (isC [12] h7 o0).bind fun _ =>
      cN (f_X12_goesIn o0 h7) h7 fun v23 h24 =>
      if v23 = 0 then
        some (0, h24)
      else
        (isC [12] h24 o0).bind fun _ =>
        cN (fS o0 h24) h24 fun v29 h30 =>
        (isC [12] h30 o0).bind fun _ =>
        cN (f_X12_takes o0 93 h30) h30 fun v34 h35 =>
        if v34 = 0 then
          some (0, h35)
        else
          (gI [12] h35 o0 12).bind fun v40 =>
          (pV [12] h35 o0 12 (.int (v40 - 1))).bind fun h42 =>
          some (v29, h42)
    else
      (isC [12] h7 o0).bind fun _ =>
      cN (f_X12_isDigit o0 h7) h7 fun v12 h13 =>
      if v12 = 0 then
        (isC [12] h13 o0).bind fun _ =>
        cN (f_X12_fails o0 h13) h13 fun v18 h19 =>
        f_X12_atom_86 fS o0 h19
      else
        f_X12_atom_86 fS o0 h13
  else
    (gI [12] h7 o0 10).bind fun v44 =>
    (pV [12] h7 o0 10 (.int (v44 + 1))).bind fun h46 =>
    (gR [12] h46 o0 4).bind fun v48 =>
    (aI 0 h46 v48 v1).bind fun v50 =>
    some (v50, h46)
set_option maxHeartbeats 1000000 in
theorem w_X12_atom_0 (K : Nat) (hK : 14 ≤ K) {fS : Nat → AH → Option (Int32 × AH)} (hS : ∀ (o0 : Nat) {h : AH} {res : Int32 × AH}, fS o0 h = some res → CM l g yX12_sum cX12_sum 5 (some (.int)) K (64 * K) 0 0 [.ref (rfG g o0)] h (some (.int res.1)) res.2) (X : Cx g p s m args meth c cX12_atom 4 "TrapCornerModel") (hR : (K + 1) ≤ R.frames ∧ (64 * (K + 1)) ≤ R.locals) (hr : meth.sig.returnType = (some (.int))) {res : Int32 × AH} : ∀ (o0 : Nat) (h : AH) (ls : Array Slot) (H : Heap) (locs : List Loc), f_X12_atom_0 fS o0 h = some res → Iv g s n0 z0 h H locs 0 0 → lv_has ls 4 [(0, .ref (rfG g o0))] → W p l e R s m args below meth c H locs 0 0 (MQ below (QG g (some (.int res.1)) res.2) args s 0 0 (AG g)) (F0 m 0 ls []) := by
  have hx := X.1
  have hb := X.2.1
  intro o0 h ls H locs hf I hl
  unfold f_X12_atom_0 at hf
  refine lv_aload_n hx hb dX12_atom_0 rfl (lv_at hl 0 rfl) ?_
  obtain ⟨_, g5, hf⟩ := Option.bind_eq_some_iff.mp hf
  obtain ⟨v1, h2, e3, z4, hf⟩ := cN_spec hf
  refine k_Vi (As := []) (rest := []) X I (c_X12_look l g o0 e3) z4 g5 vk_TrapCornerModel_138 tw_1484 ⟨by omega, by omega⟩ ⟨Nat.zero_le _, Nat.zero_le _⟩ rfl hl.1 rfl (Nat.le_of_ble_eq_true rfl) dX12_atom_1 (fun H locs I => ?_)
  refine lv_istore_n (lv' := [(1, .int v1), (0, .ref (rfG g o0))]) hx hb dX12_atom_4 rfl hl (by decide) rfl (fun ls hl => ?_)
  refine r_ldcS (tx := "mgwsnd") (i := 3) X (by decide) dX12_atom_5 ?_
  refine lv_iload_n hx hb dX12_atom_7 rfl (lv_at hl 0 rfl) ?_
  obtain ⟨v6, h7, e8, z9, hf⟩ := cN_spec hf
  refine k_Si (As := [.ref (rfG g 2000003), .int v1]) (rest := []) X I (c_X12_isAmong l g 2000003 v1 e8) z9 sk_TrapCornerModel_154 tw_1555 ⟨by omega, by omega⟩ ⟨Nat.zero_le _, Nat.zero_le _⟩ rfl hl.1 rfl (Nat.le_of_ble_eq_true rfl) dX12_atom_8 (fun H locs I => ?_)
  refine lv_if_eq (tgt := 31) hx hb dX12_atom_11 (by decide) (fun c10 => ?_) (fun c10 => ?_)
  · rw [if_pos c10] at hf
    refine lv_iload_n hx hb dX12_atom_31 rfl (lv_at hl 0 rfl) ?_
    refine lv_bipush (v := 91) hx hb dX12_atom_32 (by decide) ?_
    refine lv_icmp_ne (tgt := 74) hx hb dX12_atom_34 (by decide) (fun c11 => ?_) (fun c11 => ?_)
    · rw [if_neg c11] at hf
      refine lv_aload_n hx hb dX12_atom_74 rfl (lv_at hl 1 rfl) ?_
      obtain ⟨_, g16, hf⟩ := Option.bind_eq_some_iff.mp hf
      obtain ⟨v12, h13, e14, z15, hf⟩ := cN_spec hf
      refine k_Vi (As := []) (rest := []) X I (c_X12_isDigit l g o0 e14) z15 g16 vk_TrapCornerModel_168 tw_1534 ⟨by omega, by omega⟩ ⟨Nat.zero_le _, Nat.zero_le _⟩ rfl hl.1 rfl (Nat.le_of_ble_eq_true rfl) dX12_atom_75 (fun H locs I => ?_)
      refine lv_if_ne (tgt := 86) hx hb dX12_atom_78 (by decide) (fun c17 => ?_) (fun c17 => ?_)
      · rw [if_neg c17] at hf
        exact w_X12_atom_86 K hK hS X hR hr  o0 h13 ls H locs hf I (lv_sub hl [1] rfl)
      · rw [if_pos c17] at hf
        refine lv_aload_n hx hb dX12_atom_81 rfl (lv_at hl 1 rfl) ?_
        obtain ⟨_, g22, hf⟩ := Option.bind_eq_some_iff.mp hf
        obtain ⟨v18, h19, e20, z21, hf⟩ := cN_spec hf
        refine k_Vi (As := []) (rest := []) X I (c_X12_fails l g o0 e20) z21 g22 vk_TrapCornerModel_134 tw_1488 ⟨by omega, by omega⟩ ⟨Nat.zero_le _, Nat.zero_le _⟩ rfl hl.1 rfl (Nat.le_of_ble_eq_true rfl) dX12_atom_82 (fun H locs I => ?_)
        refine lv_pop hx hb dX12_atom_85 rfl ?_
        exact w_X12_atom_86 K hK hS X hR hr  o0 h19 ls H locs hf I (lv_sub hl [1] rfl)
    · rw [if_pos c11] at hf
      refine lv_aload_n hx hb dX12_atom_37 rfl (lv_at hl 1 rfl) ?_
      obtain ⟨_, g27, hf⟩ := Option.bind_eq_some_iff.mp hf
      obtain ⟨v23, h24, e25, z26, hf⟩ := cN_spec hf
      refine k_Vi (As := []) (rest := []) X I (c_X12_goesIn l g o0 e25) z26 g27 vk_TrapCornerModel_158 tw_1587 ⟨by omega, by omega⟩ ⟨Nat.zero_le _, Nat.zero_le _⟩ rfl hl.1 rfl (Nat.le_of_ble_eq_true rfl) dX12_atom_38 (fun H locs I => ?_)
      refine lv_if_ne (tgt := 46) hx hb dX12_atom_41 (by decide) (fun c28 => ?_) (fun c28 => ?_)
      · rw [if_neg c28] at hf
        refine lv_aload_n hx hb dX12_atom_46 rfl (lv_at hl 1 rfl) ?_
        obtain ⟨_, g33, hf⟩ := Option.bind_eq_some_iff.mp hf
        obtain ⟨v29, h30, e31, z32, hf⟩ := cN_spec hf
        refine k_Vi (As := []) (rest := []) X I (hS o0 e31) z32 g33 vk_TrapCornerModel_161 tw_1575 ⟨by omega, by omega⟩ ⟨Nat.zero_le _, Nat.zero_le _⟩ rfl hl.1 rfl (Nat.le_of_ble_eq_true rfl) dX12_atom_47 (fun H locs I => ?_)
        refine lv_istore_n (lv' := [(2, .int v29), (1, .int v1), (0, .ref (rfG g o0))]) hx hb dX12_atom_50 rfl hl (by decide) rfl (fun ls hl => ?_)
        refine lv_aload_n hx hb dX12_atom_51 rfl (lv_at hl 2 rfl) ?_
        refine lv_bipush (v := 93) hx hb dX12_atom_52 (by decide) ?_
        obtain ⟨_, g38, hf⟩ := Option.bind_eq_some_iff.mp hf
        obtain ⟨v34, h35, e36, z37, hf⟩ := cN_spec hf
        refine k_Vi (As := [.int 93]) (rest := []) X I (c_X12_takes l g o0 93 e36) z37 g38 vk_TrapCornerModel_164 tw_1559 ⟨by omega, by omega⟩ ⟨Nat.zero_le _, Nat.zero_le _⟩ rfl hl.1 rfl (Nat.le_of_ble_eq_true rfl) dX12_atom_54 (fun H locs I => ?_)
        refine lv_if_ne (tgt := 62) hx hb dX12_atom_57 (by decide) (fun c39 => ?_) (fun c39 => ?_)
        · rw [if_neg c39] at hf
          refine lv_aload_n hx hb dX12_atom_62 rfl (lv_at hl 2 rfl) ?_
          refine lv_dup hx hb dX12_atom_63 rfl ?_
          obtain ⟨v40, e41, hf⟩ := Option.bind_eq_some_iff.mp hf
          refine r_gI X I e41 lk_TrapCornerModel_131 dX12_atom_64 ?_
          refine lv_iconst (v := 1) hx hb dX12_atom_67 (by decide) ?_
          refine lv_isub hx hb dX12_atom_68 ?_
          obtain ⟨h42, e43, hf⟩ := Option.bind_eq_some_iff.mp hf
          refine r_pI X I e43 lp_TrapCornerModel_131 dX12_atom_69 (fun H locs I => ?_)
          refine lv_iload_n hx hb dX12_atom_72 rfl (lv_at hl 0 rfl) ?_
          cases hf
          exact k_ri X I hr dX12_atom_73
        · rw [if_pos c39] at hf
          refine lv_iconst (v := 0) hx hb dX12_atom_60 (by decide) ?_
          cases hf
          exact k_ri X I hr dX12_atom_61
      · rw [if_pos c28] at hf
        refine lv_iconst (v := 0) hx hb dX12_atom_44 (by decide) ?_
        cases hf
        exact k_ri X I hr dX12_atom_45
  · rw [if_neg c10] at hf
    refine lv_aload_n hx hb dX12_atom_14 rfl (lv_at hl 1 rfl) ?_
    refine lv_dup hx hb dX12_atom_15 rfl ?_
    obtain ⟨v44, e45, hf⟩ := Option.bind_eq_some_iff.mp hf
    refine r_gI X I e45 lk_TrapCornerModel_119 dX12_atom_16 ?_
    refine lv_iconst (v := 1) hx hb dX12_atom_19 (by decide) ?_
    refine lv_iadd hx hb dX12_atom_20 ?_
    obtain ⟨h46, e47, hf⟩ := Option.bind_eq_some_iff.mp hf
    refine r_pI X I e47 lp_TrapCornerModel_119 dX12_atom_21 (fun H locs I => ?_)
    refine lv_aload_n hx hb dX12_atom_24 rfl (lv_at hl 1 rfl) ?_
    obtain ⟨v48, e49, hf⟩ := Option.bind_eq_some_iff.mp hf
    refine r_gR X I e49 lk_TrapCornerModel_20 dX12_atom_25 ?_
    refine lv_iload_n hx hb dX12_atom_28 rfl (lv_at hl 0 rfl) ?_
    obtain ⟨v50, e51, hf⟩ := Option.bind_eq_some_iff.mp hf
    refine r_aI0 X I e51 dX12_atom_29 ?_
    cases hf
    exact k_ri X I hr dX12_atom_30
def f_X12_atom (fS : Nat → AH → Option (Int32 × AH)) (o0 : Nat) (h : AH) : Option (Int32 × AH) := f_X12_atom_0 fS o0 h
end
theorem c_X12_atom (l : Launch) (g : GG) (K : Nat) (hK : 14 ≤ K) {fS : Nat → AH → Option (Int32 × AH)} (hS : ∀ (o0 : Nat) {h : AH} {res : Int32 × AH}, fS o0 h = some res → CM l g yX12_sum cX12_sum 5 (some (.int)) K (64 * K) 0 0 [.ref (rfG g o0)] h (some (.int res.1)) res.2) (o0 : Nat) {h : AH} {res : Int32 × AH} (hf : f_X12_atom fS o0 h = some res) : CM l g yX12_atom cX12_atom 4 (some (.int)) (K + 1) (64 * (K + 1)) 0 0 [.ref (rfG g o0)] h (some (.int res.1)) res.2 :=
  k_body (by decide) (Nat.le_of_ble_eq_true rfl) (fun p e s m below meth c R ls hR hr X I hl => w_X12_atom_0 K hK hS X ⟨Nat.le_of_eq hR.1.symm, Nat.le_of_eq hR.2.1.symm⟩ hr o0 h ls s.heap [] hf I (lv_sub hl [0] rfl))
/-! TrapCornerModel.term()I -/
theorem dX12_term_0 : decode cX12_term 0 = .ok (.aload_n 0, 1) := by decide +kernel
theorem dX12_term_1 : decode cX12_term 1 = .ok (.invokevirtual 171, 3) := by decide +kernel
theorem dX12_term_4 : decode cX12_term 4 = .ok (.istore_n 1, 1) := by decide +kernel
theorem dX12_term_5 : decode cX12_term 5 = .ok (.aload_n 0, 1) := by decide +kernel
theorem dX12_term_6 : decode cX12_term 6 = .ok (.getfield 128, 3) := by decide +kernel
theorem dX12_term_9 : decode cX12_term 9 = .ok (.iconst (-1), 1) := by decide +kernel
theorem dX12_term_10 : decode cX12_term 10 = .ok (.if_icmp .ne 84, 3) := by decide +kernel
theorem dX12_term_13 : decode cX12_term 13 = .ok (.aload_n 0, 1) := by decide +kernel
theorem dX12_term_14 : decode cX12_term 14 = .ok (.invokevirtual 138, 3) := by decide +kernel
theorem dX12_term_17 : decode cX12_term 17 = .ok (.bipush 42, 2) := by decide +kernel
theorem dX12_term_19 : decode cX12_term 19 = .ok (.if_icmp .eq 12, 3) := by decide +kernel
theorem dX12_term_22 : decode cX12_term 22 = .ok (.aload_n 0, 1) := by decide +kernel
theorem dX12_term_23 : decode cX12_term 23 = .ok (.invokevirtual 138, 3) := by decide +kernel
theorem dX12_term_26 : decode cX12_term 26 = .ok (.bipush 47, 2) := by decide +kernel
theorem dX12_term_28 : decode cX12_term 28 = .ok (.if_icmp .ne 66, 3) := by decide +kernel
theorem dX12_term_31 : decode cX12_term 31 = .ok (.aload_n 0, 1) := by decide +kernel
theorem dX12_term_32 : decode cX12_term 32 = .ok (.invokevirtual 138, 3) := by decide +kernel
theorem dX12_term_35 : decode cX12_term 35 = .ok (.bipush 42, 2) := by decide +kernel
theorem dX12_term_37 : decode cX12_term 37 = .ok (.if_icmp .ne 7, 3) := by decide +kernel
theorem dX12_term_40 : decode cX12_term 40 = .ok (.iconst 1, 1) := by decide +kernel
theorem dX12_term_41 : decode cX12_term 41 = .ok (.goto 4, 3) := by decide +kernel
theorem dX12_term_44 : decode cX12_term 44 = .ok (.iconst 0, 1) := by decide +kernel
theorem dX12_term_45 : decode cX12_term 45 = .ok (.istore_n 2, 1) := by decide +kernel
theorem dX12_term_46 : decode cX12_term 46 = .ok (.aload_n 0, 1) := by decide +kernel
theorem dX12_term_47 : decode cX12_term 47 = .ok (.dup, 1) := by decide +kernel
theorem dX12_term_48 : decode cX12_term 48 = .ok (.getfield 119, 3) := by decide +kernel
theorem dX12_term_51 : decode cX12_term 51 = .ok (.iconst 1, 1) := by decide +kernel
theorem dX12_term_52 : decode cX12_term 52 = .ok (.iadd, 1) := by decide +kernel
theorem dX12_term_53 : decode cX12_term 53 = .ok (.putfield 119, 3) := by decide +kernel
theorem dX12_term_56 : decode cX12_term 56 = .ok (.aload_n 0, 1) := by decide +kernel
theorem dX12_term_57 : decode cX12_term 57 = .ok (.invokevirtual 171, 3) := by decide +kernel
theorem dX12_term_60 : decode cX12_term 60 = .ok (.i2l, 1) := by decide +kernel
theorem dX12_term_61 : decode cX12_term 61 = .ok (.lstore_n 3, 1) := by decide +kernel
theorem dX12_term_62 : decode cX12_term 62 = .ok (.iload_n 2, 1) := by decide +kernel
theorem dX12_term_63 : decode cX12_term 63 = .ok (.ifCond .eq 10, 3) := by decide +kernel
theorem dX12_term_66 : decode cX12_term 66 = .ok (.iload_n 1, 1) := by decide +kernel
theorem dX12_term_67 : decode cX12_term 67 = .ok (.i2l, 1) := by decide +kernel
theorem dX12_term_68 : decode cX12_term 68 = .ok (.lload_n 3, 1) := by decide +kernel
theorem dX12_term_69 : decode cX12_term 69 = .ok (.lmul, 1) := by decide +kernel
theorem dX12_term_70 : decode cX12_term 70 = .ok (.goto 17, 3) := by decide +kernel
theorem dX12_term_73 : decode cX12_term 73 = .ok (.lload_n 3, 1) := by decide +kernel
theorem dX12_term_74 : decode cX12_term 74 = .ok (.lconst 0, 1) := by decide +kernel
theorem dX12_term_75 : decode cX12_term 75 = .ok (.lcmp, 1) := by decide +kernel
theorem dX12_term_76 : decode cX12_term 76 = .ok (.ifCond .ne 7, 3) := by decide +kernel
theorem dX12_term_79 : decode cX12_term 79 = .ok (.lconst 0, 1) := by decide +kernel
theorem dX12_term_80 : decode cX12_term 80 = .ok (.goto 7, 3) := by decide +kernel
theorem dX12_term_83 : decode cX12_term 83 = .ok (.iload_n 1, 1) := by decide +kernel
theorem dX12_term_84 : decode cX12_term 84 = .ok (.i2l, 1) := by decide +kernel
theorem dX12_term_85 : decode cX12_term 85 = .ok (.lload_n 3, 1) := by decide +kernel
theorem dX12_term_86 : decode cX12_term 86 = .ok (.ldiv, 1) := by decide +kernel
theorem dX12_term_87 : decode cX12_term 87 = .ok (.invokestatic 174, 3) := by decide +kernel
theorem dX12_term_90 : decode cX12_term 90 = .ok (.istore_n 1, 1) := by decide +kernel
theorem dX12_term_91 : decode cX12_term 91 = .ok (.goto (-86), 3) := by decide +kernel
theorem dX12_term_94 : decode cX12_term 94 = .ok (.iload_n 1, 1) := by decide +kernel
theorem dX12_term_95 : decode cX12_term 95 = .ok (.ireturn, 1) := by decide +kernel
theorem sk_TrapCornerModel_174 : SK "TrapCornerModel" 174 yX12_within 1 := ⟨tw_1588, tw_1589, tw_13, ⟨by decide, by decide⟩, by decide +kernel⟩
theorem vk_TrapCornerModel_171 : VK "TrapCornerModel" 171 [12] yX12_atom 0 := ⟨tw_1580, tw_1582, tw_13, ⟨by decide, by decide⟩, by decide +kernel, fun ci hci => by
  have hci := List.mem_singleton.mp hci
  subst hci
  exact ⟨_, rfl, tp_71⟩⟩
section
variable {g : GG} {p : Program} {l : Launch} {e : Env} {R : Room} {s : State} {m : MethodId} {args : Array Value} {below : List Frame} {meth : Method} {c : Code} {n0 z0 : Nat}
def f_X12_term_87 (fS : Nat → AH → Option (Int32 × AH)) (k5 : Nat → Int32 → AH → Option (Int32 × AH)) (o0 : Nat) (s0 : Int64) (h : AH) : Option (Int32 × AH) :=
  cN (f_X12_within s0 h) h fun v1 h2 =>
  k5 o0 v1 h2
set_option maxHeartbeats 1000000 in
theorem w_X12_term_87 (K : Nat) (hK : 14 ≤ K) {fS : Nat → AH → Option (Int32 × AH)} (hS : ∀ (o0 : Nat) {h : AH} {res : Int32 × AH}, fS o0 h = some res → CM l g yX12_sum cX12_sum 5 (some (.int)) K (64 * K) 0 0 [.ref (rfG g o0)] h (some (.int res.1)) res.2) (X : Cx g p s m args meth c cX12_term 5 "TrapCornerModel") (hR : (K + 2) ≤ R.frames ∧ (64 * (K + 2)) ≤ R.locals) (hr : meth.sig.returnType = (some (.int))) {res : Int32 × AH} {k5 : Nat → Int32 → AH → Option (Int32 × AH)} (hk5 : ∀ (o0 : Nat) (x1 : Int32) (h : AH) (ls : Array Slot) (H : Heap) (locs : List Loc), k5 o0 x1 h = some res → Iv g s n0 z0 h H locs 0 0 → lv_has ls 5 [(0, .ref (rfG g o0)), (1, .int x1)] → W p l e R s m args below meth c H locs 0 0 (MQ below (QG g (some (.int res.1)) res.2) args s 0 0 (AG g)) (F0 m 5 ls [])) : ∀ (o0 : Nat) (s0 : Int64) (h : AH) (ls : Array Slot) (H : Heap) (locs : List Loc), f_X12_term_87 fS k5 o0 s0 h = some res → Iv g s n0 z0 h H locs 0 0 → lv_has ls 5 [(0, .ref (rfG g o0))] → W p l e R s m args below meth c H locs 0 0 (MQ below (QG g (some (.int res.1)) res.2) args s 0 0 (AG g)) (F0 m 87 ls [.long s0]) := by
  have hx := X.1
  have hb := X.2.1
  intro o0 s0 h ls H locs hf I hl
  unfold f_X12_term_87 at hf
  obtain ⟨v1, h2, e3, z4, hf⟩ := cN_spec hf
  refine k_Si (As := [.long s0]) (rest := []) X I (c_X12_within l g s0 e3) z4 sk_TrapCornerModel_174 tw_1590 ⟨by omega, by omega⟩ ⟨Nat.zero_le _, Nat.zero_le _⟩ rfl hl.1 rfl (Nat.le_of_ble_eq_true rfl) dX12_term_87 (fun H locs I => ?_)
  refine lv_istore_n (lv' := [(1, .int v1), (0, .ref (rfG g o0))]) hx hb dX12_term_90 rfl hl (by decide) rfl (fun ls hl => ?_)
  refine lv_goto (tgt := 5) hx hb dX12_term_91 (by decide) ?_
  exact hk5 o0 v1 h2 ls H locs hf I (lv_sub hl [1, 0] rfl)
def f_X12_term_45 (fS : Nat → AH → Option (Int32 × AH)) (k5 : Nat → Int32 → AH → Option (Int32 × AH)) (o0 : Nat) (x1 : Int32) (s0 : Int32) (h : AH) : Option (Int32 × AH) :=
  (gI [12] h o0 10).bind fun v1 =>
  (pV [12] h o0 10 (.int (v1 + 1))).bind fun h3 =>
  (isC [12] h3 o0).bind fun _ =>
  cN (f_X12_atom fS o0 h3) h3 fun v5 h6 =>
  if s0 = 0 then
    if (lg_cmp (v5.toInt64) 0) = 0 then
      f_X12_term_87 fS k5 o0 0 h6
    else
      if (v5.toInt64) = 0 then none else
      f_X12_term_87 fS k5 o0 ((x1.toInt64) / (v5.toInt64)) h6
  else
    f_X12_term_87 fS k5 o0 ((x1.toInt64) * (v5.toInt64)) h6
set_option maxHeartbeats 1000000 in
theorem w_X12_term_45 (K : Nat) (hK : 14 ≤ K) {fS : Nat → AH → Option (Int32 × AH)} (hS : ∀ (o0 : Nat) {h : AH} {res : Int32 × AH}, fS o0 h = some res → CM l g yX12_sum cX12_sum 5 (some (.int)) K (64 * K) 0 0 [.ref (rfG g o0)] h (some (.int res.1)) res.2) (X : Cx g p s m args meth c cX12_term 5 "TrapCornerModel") (hR : (K + 2) ≤ R.frames ∧ (64 * (K + 2)) ≤ R.locals) (hr : meth.sig.returnType = (some (.int))) {res : Int32 × AH} {k5 : Nat → Int32 → AH → Option (Int32 × AH)} (hk5 : ∀ (o0 : Nat) (x1 : Int32) (h : AH) (ls : Array Slot) (H : Heap) (locs : List Loc), k5 o0 x1 h = some res → Iv g s n0 z0 h H locs 0 0 → lv_has ls 5 [(0, .ref (rfG g o0)), (1, .int x1)] → W p l e R s m args below meth c H locs 0 0 (MQ below (QG g (some (.int res.1)) res.2) args s 0 0 (AG g)) (F0 m 5 ls [])) : ∀ (o0 : Nat) (x1 : Int32) (s0 : Int32) (h : AH) (ls : Array Slot) (H : Heap) (locs : List Loc), f_X12_term_45 fS k5 o0 x1 s0 h = some res → Iv g s n0 z0 h H locs 0 0 → lv_has ls 5 [(0, .ref (rfG g o0)), (1, .int x1)] → W p l e R s m args below meth c H locs 0 0 (MQ below (QG g (some (.int res.1)) res.2) args s 0 0 (AG g)) (F0 m 45 ls [.int s0]) := by
  have hx := X.1
  have hb := X.2.1
  intro o0 x1 s0 h ls H locs hf I hl
  unfold f_X12_term_45 at hf
  refine lv_istore_n (lv' := [(2, .int s0), (0, .ref (rfG g o0)), (1, .int x1)]) hx hb dX12_term_45 rfl hl (by decide) rfl (fun ls hl => ?_)
  refine lv_aload_n hx hb dX12_term_46 rfl (lv_at hl 1 rfl) ?_
  refine lv_dup hx hb dX12_term_47 rfl ?_
  obtain ⟨v1, e2, hf⟩ := Option.bind_eq_some_iff.mp hf
  refine r_gI X I e2 lk_TrapCornerModel_119 dX12_term_48 ?_
  refine lv_iconst (v := 1) hx hb dX12_term_51 (by decide) ?_
  refine lv_iadd hx hb dX12_term_52 ?_
  obtain ⟨h3, e4, hf⟩ := Option.bind_eq_some_iff.mp hf
  refine r_pI X I e4 lp_TrapCornerModel_119 dX12_term_53 (fun H locs I => ?_)
  refine lv_aload_n hx hb dX12_term_56 rfl (lv_at hl 1 rfl) ?_
  obtain ⟨_, g9, hf⟩ := Option.bind_eq_some_iff.mp hf
  obtain ⟨v5, h6, e7, z8, hf⟩ := cN_spec hf
  refine k_Vi (As := []) (rest := []) X I (c_X12_atom l g K hK hS o0 e7) z8 g9 vk_TrapCornerModel_171 tw_1583 ⟨by omega, by omega⟩ ⟨Nat.zero_le _, Nat.zero_le _⟩ rfl hl.1 rfl (Nat.le_of_ble_eq_true rfl) dX12_term_57 (fun H locs I => ?_)
  refine lv_i2l hx hb dX12_term_60 rfl ?_
  refine lv_lstore_n (lv' := [(3, .long (v5.toInt64)), (2, .int s0), (0, .ref (rfG g o0)), (1, .int x1)]) hx hb dX12_term_61 rfl hl (by decide) rfl (fun ls hl => ?_)
  refine lv_iload_n hx hb dX12_term_62 rfl (lv_at hl 1 rfl) ?_
  refine lv_if_eq (tgt := 73) hx hb dX12_term_63 (by decide) (fun c10 => ?_) (fun c10 => ?_)
  · rw [if_pos c10] at hf
    refine lv_lload_n hx hb dX12_term_73 rfl (lv_at hl 0 rfl) ?_
    refine lv_lconst (v := 0) hx hb dX12_term_74 (by decide) ?_
    refine W.lcmp hx hb dX12_term_75 ?_
    refine lv_if_ne (tgt := 83) hx hb dX12_term_76 (by decide) (fun c11 => ?_) (fun c11 => ?_)
    · rw [if_neg c11] at hf
      refine lv_iload_n hx hb dX12_term_83 rfl (lv_at hl 3 rfl) ?_
      refine lv_i2l hx hb dX12_term_84 rfl ?_
      refine lv_lload_n hx hb dX12_term_85 rfl (lv_at hl 0 rfl) ?_
      have c12 : ¬ (v5.toInt64) = 0 := fun z => by rw [if_pos z] at hf; cases hf
      rw [if_neg c12] at hf
      refine lv_ldiv hx hb dX12_term_86 c12 ?_
      exact w_X12_term_87 K hK hS X hR hr hk5 o0 ((x1.toInt64) / (v5.toInt64)) h6 ls H locs hf I (lv_sub hl [2] rfl)
    · rw [if_pos c11] at hf
      refine lv_lconst (v := 0) hx hb dX12_term_79 (by decide) ?_
      refine lv_goto (tgt := 87) hx hb dX12_term_80 (by decide) ?_
      exact w_X12_term_87 K hK hS X hR hr hk5 o0 0 h6 ls H locs hf I (lv_sub hl [2] rfl)
  · rw [if_neg c10] at hf
    refine lv_iload_n hx hb dX12_term_66 rfl (lv_at hl 3 rfl) ?_
    refine lv_i2l hx hb dX12_term_67 rfl ?_
    refine lv_lload_n hx hb dX12_term_68 rfl (lv_at hl 0 rfl) ?_
    refine lv_lmul hx hb dX12_term_69 ?_
    refine lv_goto (tgt := 87) hx hb dX12_term_70 (by decide) ?_
    exact w_X12_term_87 K hK hS X hR hr hk5 o0 ((x1.toInt64) * (v5.toInt64)) h6 ls H locs hf I (lv_sub hl [2] rfl)
def f_X12_term_31 (fS : Nat → AH → Option (Int32 × AH)) (k5 : Nat → Int32 → AH → Option (Int32 × AH)) (o0 : Nat) (x1 : Int32) (h : AH) : Option (Int32 × AH) :=
  (isC [12] h o0).bind fun _ =>
  cN (f_X12_look o0 h) h fun v1 h2 =>
  if v1 = 42 then
    f_X12_term_45 fS k5 o0 x1 1 h2
  else
    f_X12_term_45 fS k5 o0 x1 0 h2
set_option maxHeartbeats 1000000 in
theorem w_X12_term_31 (K : Nat) (hK : 14 ≤ K) {fS : Nat → AH → Option (Int32 × AH)} (hS : ∀ (o0 : Nat) {h : AH} {res : Int32 × AH}, fS o0 h = some res → CM l g yX12_sum cX12_sum 5 (some (.int)) K (64 * K) 0 0 [.ref (rfG g o0)] h (some (.int res.1)) res.2) (X : Cx g p s m args meth c cX12_term 5 "TrapCornerModel") (hR : (K + 2) ≤ R.frames ∧ (64 * (K + 2)) ≤ R.locals) (hr : meth.sig.returnType = (some (.int))) {res : Int32 × AH} {k5 : Nat → Int32 → AH → Option (Int32 × AH)} (hk5 : ∀ (o0 : Nat) (x1 : Int32) (h : AH) (ls : Array Slot) (H : Heap) (locs : List Loc), k5 o0 x1 h = some res → Iv g s n0 z0 h H locs 0 0 → lv_has ls 5 [(0, .ref (rfG g o0)), (1, .int x1)] → W p l e R s m args below meth c H locs 0 0 (MQ below (QG g (some (.int res.1)) res.2) args s 0 0 (AG g)) (F0 m 5 ls [])) : ∀ (o0 : Nat) (x1 : Int32) (h : AH) (ls : Array Slot) (H : Heap) (locs : List Loc), f_X12_term_31 fS k5 o0 x1 h = some res → Iv g s n0 z0 h H locs 0 0 → lv_has ls 5 [(0, .ref (rfG g o0)), (1, .int x1)] → W p l e R s m args below meth c H locs 0 0 (MQ below (QG g (some (.int res.1)) res.2) args s 0 0 (AG g)) (F0 m 31 ls []) := by
  have hx := X.1
  have hb := X.2.1
  intro o0 x1 h ls H locs hf I hl
  unfold f_X12_term_31 at hf
  refine lv_aload_n hx hb dX12_term_31 rfl (lv_at hl 0 rfl) ?_
  obtain ⟨_, g5, hf⟩ := Option.bind_eq_some_iff.mp hf
  obtain ⟨v1, h2, e3, z4, hf⟩ := cN_spec hf
  refine k_Vi (As := []) (rest := []) X I (c_X12_look l g o0 e3) z4 g5 vk_TrapCornerModel_138 tw_1484 ⟨by omega, by omega⟩ ⟨Nat.zero_le _, Nat.zero_le _⟩ rfl hl.1 rfl (Nat.le_of_ble_eq_true rfl) dX12_term_32 (fun H locs I => ?_)
  refine lv_bipush (v := 42) hx hb dX12_term_35 (by decide) ?_
  refine lv_icmp_ne (tgt := 44) hx hb dX12_term_37 (by decide) (fun c6 => ?_) (fun c6 => ?_)
  · rw [if_neg c6] at hf
    refine lv_iconst (v := 0) hx hb dX12_term_44 (by decide) ?_
    exact w_X12_term_45 K hK hS X hR hr hk5 o0 x1 0 h2 ls H locs hf I (lv_sub hl [0, 1] rfl)
  · rw [if_pos c6] at hf
    refine lv_iconst (v := 1) hx hb dX12_term_40 (by decide) ?_
    refine lv_goto (tgt := 45) hx hb dX12_term_41 (by decide) ?_
    exact w_X12_term_45 K hK hS X hR hr hk5 o0 x1 1 h2 ls H locs hf I (lv_sub hl [0, 1] rfl)
def f_X12_term_5 (fS : Nat → AH → Option (Int32 × AH))  : Nat → Nat → Int32 → AH → Option (Int32 × AH)
  | 0, _, _, _ => none
  | n + 1, o0, x1, h =>
  (gI [12] h o0 11).bind fun v1 =>
  if v1 = ((-1)) then
    (isC [12] h o0).bind fun _ =>
    cN (f_X12_look o0 h) h fun v4 h5 =>
    if v4 = 42 then
      f_X12_term_31 fS (f_X12_term_5 fS n) o0 x1 h5
    else
      (isC [12] h5 o0).bind fun _ =>
      cN (f_X12_look o0 h5) h5 fun v10 h11 =>
      if v10 = 47 then
        f_X12_term_31 fS (f_X12_term_5 fS n) o0 x1 h11
      else
        some (x1, h11)
  else
    some (x1, h)
set_option maxHeartbeats 1000000 in
theorem w_X12_term_5 (K : Nat) (hK : 14 ≤ K) {fS : Nat → AH → Option (Int32 × AH)} (hS : ∀ (o0 : Nat) {h : AH} {res : Int32 × AH}, fS o0 h = some res → CM l g yX12_sum cX12_sum 5 (some (.int)) K (64 * K) 0 0 [.ref (rfG g o0)] h (some (.int res.1)) res.2) (X : Cx g p s m args meth c cX12_term 5 "TrapCornerModel") (hR : (K + 2) ≤ R.frames ∧ (64 * (K + 2)) ≤ R.locals) (hr : meth.sig.returnType = (some (.int))) {res : Int32 × AH} : ∀ (n : Nat) (o0 : Nat) (x1 : Int32) (h : AH) (ls : Array Slot) (H : Heap) (locs : List Loc), f_X12_term_5 fS n o0 x1 h = some res → Iv g s n0 z0 h H locs 0 0 → lv_has ls 5 [(0, .ref (rfG g o0)), (1, .int x1)] → W p l e R s m args below meth c H locs 0 0 (MQ below (QG g (some (.int res.1)) res.2) args s 0 0 (AG g)) (F0 m 5 ls []) := by
  have hx := X.1
  have hb := X.2.1
  intro n
  induction n with
  | zero =>
    intro o0 x1 h ls H locs hf
    rw [f_X12_term_5.eq_1] at hf
    cases hf
  | succ n ih =>
    intro o0 x1 h ls H locs hf I hl
    rw [f_X12_term_5.eq_2] at hf
    refine lv_aload_n hx hb dX12_term_5 rfl (lv_at hl 0 rfl) ?_
    obtain ⟨v1, e2, hf⟩ := Option.bind_eq_some_iff.mp hf
    refine r_gI X I e2 lk_TrapCornerModel_128 dX12_term_6 ?_
    refine lv_iconst (v := (-1)) hx hb dX12_term_9 (by decide) ?_
    refine lv_icmp_ne (tgt := 94) hx hb dX12_term_10 (by decide) (fun c3 => ?_) (fun c3 => ?_)
    · rw [if_neg c3] at hf
      refine lv_iload_n hx hb dX12_term_94 rfl (lv_at hl 1 rfl) ?_
      cases hf
      exact k_ri X I hr dX12_term_95
    · rw [if_pos c3] at hf
      refine lv_aload_n hx hb dX12_term_13 rfl (lv_at hl 0 rfl) ?_
      obtain ⟨_, g8, hf⟩ := Option.bind_eq_some_iff.mp hf
      obtain ⟨v4, h5, e6, z7, hf⟩ := cN_spec hf
      refine k_Vi (As := []) (rest := []) X I (c_X12_look l g o0 e6) z7 g8 vk_TrapCornerModel_138 tw_1484 ⟨by omega, by omega⟩ ⟨Nat.zero_le _, Nat.zero_le _⟩ rfl hl.1 rfl (Nat.le_of_ble_eq_true rfl) dX12_term_14 (fun H locs I => ?_)
      refine lv_bipush (v := 42) hx hb dX12_term_17 (by decide) ?_
      refine lv_icmp_eq (tgt := 31) hx hb dX12_term_19 (by decide) (fun c9 => ?_) (fun c9 => ?_)
      · rw [if_pos c9] at hf
        exact w_X12_term_31 K hK hS X hR hr ih o0 x1 h5 ls H locs hf I (lv_sub hl [0, 1] rfl)
      · rw [if_neg c9] at hf
        refine lv_aload_n hx hb dX12_term_22 rfl (lv_at hl 0 rfl) ?_
        obtain ⟨_, g14, hf⟩ := Option.bind_eq_some_iff.mp hf
        obtain ⟨v10, h11, e12, z13, hf⟩ := cN_spec hf
        refine k_Vi (As := []) (rest := []) X I (c_X12_look l g o0 e12) z13 g14 vk_TrapCornerModel_138 tw_1484 ⟨by omega, by omega⟩ ⟨Nat.zero_le _, Nat.zero_le _⟩ rfl hl.1 rfl (Nat.le_of_ble_eq_true rfl) dX12_term_23 (fun H locs I => ?_)
        refine lv_bipush (v := 47) hx hb dX12_term_26 (by decide) ?_
        refine lv_icmp_ne (tgt := 94) hx hb dX12_term_28 (by decide) (fun c15 => ?_) (fun c15 => ?_)
        · rw [if_neg c15] at hf
          refine lv_iload_n hx hb dX12_term_94 rfl (lv_at hl 1 rfl) ?_
          cases hf
          exact k_ri X I hr dX12_term_95
        · rw [if_pos c15] at hf
          exact w_X12_term_31 K hK hS X hR hr ih o0 x1 h11 ls H locs hf I (lv_sub hl [0, 1] rfl)
def f_X12_term_0 (fS : Nat → AH → Option (Int32 × AH))  (o0 : Nat) (h : AH) : Option (Int32 × AH) :=
  (isC [12] h o0).bind fun _ =>
  cN (f_X12_atom fS o0 h) h fun v1 h2 =>
  f_X12_term_5 fS fu o0 v1 h2
set_option maxHeartbeats 1000000 in
theorem w_X12_term_0 (K : Nat) (hK : 14 ≤ K) {fS : Nat → AH → Option (Int32 × AH)} (hS : ∀ (o0 : Nat) {h : AH} {res : Int32 × AH}, fS o0 h = some res → CM l g yX12_sum cX12_sum 5 (some (.int)) K (64 * K) 0 0 [.ref (rfG g o0)] h (some (.int res.1)) res.2) (X : Cx g p s m args meth c cX12_term 5 "TrapCornerModel") (hR : (K + 2) ≤ R.frames ∧ (64 * (K + 2)) ≤ R.locals) (hr : meth.sig.returnType = (some (.int))) {res : Int32 × AH} : ∀ (o0 : Nat) (h : AH) (ls : Array Slot) (H : Heap) (locs : List Loc), f_X12_term_0 fS o0 h = some res → Iv g s n0 z0 h H locs 0 0 → lv_has ls 5 [(0, .ref (rfG g o0))] → W p l e R s m args below meth c H locs 0 0 (MQ below (QG g (some (.int res.1)) res.2) args s 0 0 (AG g)) (F0 m 0 ls []) := by
  have hx := X.1
  have hb := X.2.1
  intro o0 h ls H locs hf I hl
  unfold f_X12_term_0 at hf
  refine lv_aload_n hx hb dX12_term_0 rfl (lv_at hl 0 rfl) ?_
  obtain ⟨_, g5, hf⟩ := Option.bind_eq_some_iff.mp hf
  obtain ⟨v1, h2, e3, z4, hf⟩ := cN_spec hf
  refine k_Vi (As := []) (rest := []) X I (c_X12_atom l g K hK hS o0 e3) z4 g5 vk_TrapCornerModel_171 tw_1583 ⟨by omega, by omega⟩ ⟨Nat.zero_le _, Nat.zero_le _⟩ rfl hl.1 rfl (Nat.le_of_ble_eq_true rfl) dX12_term_1 (fun H locs I => ?_)
  refine lv_istore_n (lv' := [(1, .int v1), (0, .ref (rfG g o0))]) hx hb dX12_term_4 rfl hl (by decide) rfl (fun ls hl => ?_)
  exact w_X12_term_5 K hK hS X hR hr fu o0 v1 h2 ls H locs hf I (lv_sub hl [1, 0] rfl)
def f_X12_term (fS : Nat → AH → Option (Int32 × AH)) (o0 : Nat) (h : AH) : Option (Int32 × AH) := f_X12_term_0 fS o0 h
end
theorem c_X12_term (l : Launch) (g : GG) (K : Nat) (hK : 14 ≤ K) {fS : Nat → AH → Option (Int32 × AH)} (hS : ∀ (o0 : Nat) {h : AH} {res : Int32 × AH}, fS o0 h = some res → CM l g yX12_sum cX12_sum 5 (some (.int)) K (64 * K) 0 0 [.ref (rfG g o0)] h (some (.int res.1)) res.2) (o0 : Nat) {h : AH} {res : Int32 × AH} (hf : f_X12_term fS o0 h = some res) : CM l g yX12_term cX12_term 5 (some (.int)) (K + 2) (64 * (K + 2)) 0 0 [.ref (rfG g o0)] h (some (.int res.1)) res.2 :=
  k_body (by decide) (Nat.le_of_ble_eq_true rfl) (fun p e s m below meth c R ls hR hr X I hl => w_X12_term_0 K hK hS X ⟨Nat.le_of_eq hR.1.symm, Nat.le_of_eq hR.2.1.symm⟩ hr o0 h ls s.heap [] hf I (lv_sub hl [0] rfl))
/-! TrapCornerModel.sum()I -/
theorem dX12_sum_0 : decode cX12_sum 0 = .ok (.aload_n 0, 1) := by decide +kernel
theorem dX12_sum_1 : decode cX12_sum 1 = .ok (.invokevirtual 178, 3) := by decide +kernel
theorem dX12_sum_4 : decode cX12_sum 4 = .ok (.istore_n 1, 1) := by decide +kernel
theorem dX12_sum_5 : decode cX12_sum 5 = .ok (.aload_n 0, 1) := by decide +kernel
theorem dX12_sum_6 : decode cX12_sum 6 = .ok (.getfield 128, 3) := by decide +kernel
theorem dX12_sum_9 : decode cX12_sum 9 = .ok (.iconst (-1), 1) := by decide +kernel
theorem dX12_sum_10 : decode cX12_sum 10 = .ok (.if_icmp .ne 74, 3) := by decide +kernel
theorem dX12_sum_13 : decode cX12_sum 13 = .ok (.aload_n 0, 1) := by decide +kernel
theorem dX12_sum_14 : decode cX12_sum 14 = .ok (.invokevirtual 138, 3) := by decide +kernel
theorem dX12_sum_17 : decode cX12_sum 17 = .ok (.bipush 43, 2) := by decide +kernel
theorem dX12_sum_19 : decode cX12_sum 19 = .ok (.if_icmp .eq 12, 3) := by decide +kernel
theorem dX12_sum_22 : decode cX12_sum 22 = .ok (.aload_n 0, 1) := by decide +kernel
theorem dX12_sum_23 : decode cX12_sum 23 = .ok (.invokevirtual 138, 3) := by decide +kernel
theorem dX12_sum_26 : decode cX12_sum 26 = .ok (.bipush 45, 2) := by decide +kernel
theorem dX12_sum_28 : decode cX12_sum 28 = .ok (.if_icmp .ne 56, 3) := by decide +kernel
theorem dX12_sum_31 : decode cX12_sum 31 = .ok (.aload_n 0, 1) := by decide +kernel
theorem dX12_sum_32 : decode cX12_sum 32 = .ok (.invokevirtual 138, 3) := by decide +kernel
theorem dX12_sum_35 : decode cX12_sum 35 = .ok (.bipush 43, 2) := by decide +kernel
theorem dX12_sum_37 : decode cX12_sum 37 = .ok (.if_icmp .ne 7, 3) := by decide +kernel
theorem dX12_sum_40 : decode cX12_sum 40 = .ok (.iconst 1, 1) := by decide +kernel
theorem dX12_sum_41 : decode cX12_sum 41 = .ok (.goto 4, 3) := by decide +kernel
theorem dX12_sum_44 : decode cX12_sum 44 = .ok (.iconst 0, 1) := by decide +kernel
theorem dX12_sum_45 : decode cX12_sum 45 = .ok (.istore_n 2, 1) := by decide +kernel
theorem dX12_sum_46 : decode cX12_sum 46 = .ok (.aload_n 0, 1) := by decide +kernel
theorem dX12_sum_47 : decode cX12_sum 47 = .ok (.dup, 1) := by decide +kernel
theorem dX12_sum_48 : decode cX12_sum 48 = .ok (.getfield 119, 3) := by decide +kernel
theorem dX12_sum_51 : decode cX12_sum 51 = .ok (.iconst 1, 1) := by decide +kernel
theorem dX12_sum_52 : decode cX12_sum 52 = .ok (.iadd, 1) := by decide +kernel
theorem dX12_sum_53 : decode cX12_sum 53 = .ok (.putfield 119, 3) := by decide +kernel
theorem dX12_sum_56 : decode cX12_sum 56 = .ok (.aload_n 0, 1) := by decide +kernel
theorem dX12_sum_57 : decode cX12_sum 57 = .ok (.invokevirtual 178, 3) := by decide +kernel
theorem dX12_sum_60 : decode cX12_sum 60 = .ok (.i2l, 1) := by decide +kernel
theorem dX12_sum_61 : decode cX12_sum 61 = .ok (.lstore_n 3, 1) := by decide +kernel
theorem dX12_sum_62 : decode cX12_sum 62 = .ok (.iload_n 2, 1) := by decide +kernel
theorem dX12_sum_63 : decode cX12_sum 63 = .ok (.ifCond .eq 10, 3) := by decide +kernel
theorem dX12_sum_66 : decode cX12_sum 66 = .ok (.iload_n 1, 1) := by decide +kernel
theorem dX12_sum_67 : decode cX12_sum 67 = .ok (.i2l, 1) := by decide +kernel
theorem dX12_sum_68 : decode cX12_sum 68 = .ok (.lload_n 3, 1) := by decide +kernel
theorem dX12_sum_69 : decode cX12_sum 69 = .ok (.ladd, 1) := by decide +kernel
theorem dX12_sum_70 : decode cX12_sum 70 = .ok (.goto 7, 3) := by decide +kernel
theorem dX12_sum_73 : decode cX12_sum 73 = .ok (.iload_n 1, 1) := by decide +kernel
theorem dX12_sum_74 : decode cX12_sum 74 = .ok (.i2l, 1) := by decide +kernel
theorem dX12_sum_75 : decode cX12_sum 75 = .ok (.lload_n 3, 1) := by decide +kernel
theorem dX12_sum_76 : decode cX12_sum 76 = .ok (.lsub, 1) := by decide +kernel
theorem dX12_sum_77 : decode cX12_sum 77 = .ok (.invokestatic 174, 3) := by decide +kernel
theorem dX12_sum_80 : decode cX12_sum 80 = .ok (.istore_n 1, 1) := by decide +kernel
theorem dX12_sum_81 : decode cX12_sum 81 = .ok (.goto (-76), 3) := by decide +kernel
theorem dX12_sum_84 : decode cX12_sum 84 = .ok (.iload_n 1, 1) := by decide +kernel
theorem dX12_sum_85 : decode cX12_sum 85 = .ok (.ireturn, 1) := by decide +kernel
theorem vk_TrapCornerModel_178 : VK "TrapCornerModel" 178 [12] yX12_term 0 := ⟨tw_1576, tw_1578, tw_13, ⟨by decide, by decide⟩, by decide +kernel, fun ci hci => by
  have hci := List.mem_singleton.mp hci
  subst hci
  exact ⟨_, rfl, tp_70⟩⟩
section
variable {g : GG} {p : Program} {l : Launch} {e : Env} {R : Room} {s : State} {m : MethodId} {args : Array Value} {below : List Frame} {meth : Method} {c : Code} {n0 z0 : Nat}
def f_X12_sum_77 (fS : Nat → AH → Option (Int32 × AH)) (k5 : Nat → Int32 → AH → Option (Int32 × AH)) (o0 : Nat) (s0 : Int64) (h : AH) : Option (Int32 × AH) :=
  cN (f_X12_within s0 h) h fun v1 h2 =>
  k5 o0 v1 h2
set_option maxHeartbeats 1000000 in
theorem w_X12_sum_77 (K : Nat) (hK : 14 ≤ K) {fS : Nat → AH → Option (Int32 × AH)} (hS : ∀ (o0 : Nat) {h : AH} {res : Int32 × AH}, fS o0 h = some res → CM l g yX12_sum cX12_sum 5 (some (.int)) K (64 * K) 0 0 [.ref (rfG g o0)] h (some (.int res.1)) res.2) (X : Cx g p s m args meth c cX12_sum 5 "TrapCornerModel") (hR : (K + 3) ≤ R.frames ∧ (64 * (K + 3)) ≤ R.locals) (hr : meth.sig.returnType = (some (.int))) {res : Int32 × AH} {k5 : Nat → Int32 → AH → Option (Int32 × AH)} (hk5 : ∀ (o0 : Nat) (x1 : Int32) (h : AH) (ls : Array Slot) (H : Heap) (locs : List Loc), k5 o0 x1 h = some res → Iv g s n0 z0 h H locs 0 0 → lv_has ls 5 [(0, .ref (rfG g o0)), (1, .int x1)] → W p l e R s m args below meth c H locs 0 0 (MQ below (QG g (some (.int res.1)) res.2) args s 0 0 (AG g)) (F0 m 5 ls [])) : ∀ (o0 : Nat) (s0 : Int64) (h : AH) (ls : Array Slot) (H : Heap) (locs : List Loc), f_X12_sum_77 fS k5 o0 s0 h = some res → Iv g s n0 z0 h H locs 0 0 → lv_has ls 5 [(0, .ref (rfG g o0))] → W p l e R s m args below meth c H locs 0 0 (MQ below (QG g (some (.int res.1)) res.2) args s 0 0 (AG g)) (F0 m 77 ls [.long s0]) := by
  have hx := X.1
  have hb := X.2.1
  intro o0 s0 h ls H locs hf I hl
  unfold f_X12_sum_77 at hf
  obtain ⟨v1, h2, e3, z4, hf⟩ := cN_spec hf
  refine k_Si (As := [.long s0]) (rest := []) X I (c_X12_within l g s0 e3) z4 sk_TrapCornerModel_174 tw_1590 ⟨by omega, by omega⟩ ⟨Nat.zero_le _, Nat.zero_le _⟩ rfl hl.1 rfl (Nat.le_of_ble_eq_true rfl) dX12_sum_77 (fun H locs I => ?_)
  refine lv_istore_n (lv' := [(1, .int v1), (0, .ref (rfG g o0))]) hx hb dX12_sum_80 rfl hl (by decide) rfl (fun ls hl => ?_)
  refine lv_goto (tgt := 5) hx hb dX12_sum_81 (by decide) ?_
  exact hk5 o0 v1 h2 ls H locs hf I (lv_sub hl [1, 0] rfl)
def f_X12_sum_45 (fS : Nat → AH → Option (Int32 × AH)) (k5 : Nat → Int32 → AH → Option (Int32 × AH)) (o0 : Nat) (x1 : Int32) (s0 : Int32) (h : AH) : Option (Int32 × AH) :=
  (gI [12] h o0 10).bind fun v1 =>
  (pV [12] h o0 10 (.int (v1 + 1))).bind fun h3 =>
  (isC [12] h3 o0).bind fun _ =>
  cN (f_X12_term fS o0 h3) h3 fun v5 h6 =>
  if s0 = 0 then
    f_X12_sum_77 fS k5 o0 ((x1.toInt64) - (v5.toInt64)) h6
  else
    f_X12_sum_77 fS k5 o0 ((x1.toInt64) + (v5.toInt64)) h6
set_option maxHeartbeats 1000000 in
theorem w_X12_sum_45 (K : Nat) (hK : 14 ≤ K) {fS : Nat → AH → Option (Int32 × AH)} (hS : ∀ (o0 : Nat) {h : AH} {res : Int32 × AH}, fS o0 h = some res → CM l g yX12_sum cX12_sum 5 (some (.int)) K (64 * K) 0 0 [.ref (rfG g o0)] h (some (.int res.1)) res.2) (X : Cx g p s m args meth c cX12_sum 5 "TrapCornerModel") (hR : (K + 3) ≤ R.frames ∧ (64 * (K + 3)) ≤ R.locals) (hr : meth.sig.returnType = (some (.int))) {res : Int32 × AH} {k5 : Nat → Int32 → AH → Option (Int32 × AH)} (hk5 : ∀ (o0 : Nat) (x1 : Int32) (h : AH) (ls : Array Slot) (H : Heap) (locs : List Loc), k5 o0 x1 h = some res → Iv g s n0 z0 h H locs 0 0 → lv_has ls 5 [(0, .ref (rfG g o0)), (1, .int x1)] → W p l e R s m args below meth c H locs 0 0 (MQ below (QG g (some (.int res.1)) res.2) args s 0 0 (AG g)) (F0 m 5 ls [])) : ∀ (o0 : Nat) (x1 : Int32) (s0 : Int32) (h : AH) (ls : Array Slot) (H : Heap) (locs : List Loc), f_X12_sum_45 fS k5 o0 x1 s0 h = some res → Iv g s n0 z0 h H locs 0 0 → lv_has ls 5 [(0, .ref (rfG g o0)), (1, .int x1)] → W p l e R s m args below meth c H locs 0 0 (MQ below (QG g (some (.int res.1)) res.2) args s 0 0 (AG g)) (F0 m 45 ls [.int s0]) := by
  have hx := X.1
  have hb := X.2.1
  intro o0 x1 s0 h ls H locs hf I hl
  unfold f_X12_sum_45 at hf
  refine lv_istore_n (lv' := [(2, .int s0), (0, .ref (rfG g o0)), (1, .int x1)]) hx hb dX12_sum_45 rfl hl (by decide) rfl (fun ls hl => ?_)
  refine lv_aload_n hx hb dX12_sum_46 rfl (lv_at hl 1 rfl) ?_
  refine lv_dup hx hb dX12_sum_47 rfl ?_
  obtain ⟨v1, e2, hf⟩ := Option.bind_eq_some_iff.mp hf
  refine r_gI X I e2 lk_TrapCornerModel_119 dX12_sum_48 ?_
  refine lv_iconst (v := 1) hx hb dX12_sum_51 (by decide) ?_
  refine lv_iadd hx hb dX12_sum_52 ?_
  obtain ⟨h3, e4, hf⟩ := Option.bind_eq_some_iff.mp hf
  refine r_pI X I e4 lp_TrapCornerModel_119 dX12_sum_53 (fun H locs I => ?_)
  refine lv_aload_n hx hb dX12_sum_56 rfl (lv_at hl 1 rfl) ?_
  obtain ⟨_, g9, hf⟩ := Option.bind_eq_some_iff.mp hf
  obtain ⟨v5, h6, e7, z8, hf⟩ := cN_spec hf
  refine k_Vi (As := []) (rest := []) X I (c_X12_term l g K hK hS o0 e7) z8 g9 vk_TrapCornerModel_178 tw_1579 ⟨by omega, by omega⟩ ⟨Nat.zero_le _, Nat.zero_le _⟩ rfl hl.1 rfl (Nat.le_of_ble_eq_true rfl) dX12_sum_57 (fun H locs I => ?_)
  refine lv_i2l hx hb dX12_sum_60 rfl ?_
  refine lv_lstore_n (lv' := [(3, .long (v5.toInt64)), (2, .int s0), (0, .ref (rfG g o0)), (1, .int x1)]) hx hb dX12_sum_61 rfl hl (by decide) rfl (fun ls hl => ?_)
  refine lv_iload_n hx hb dX12_sum_62 rfl (lv_at hl 1 rfl) ?_
  refine lv_if_eq (tgt := 73) hx hb dX12_sum_63 (by decide) (fun c10 => ?_) (fun c10 => ?_)
  · rw [if_pos c10] at hf
    refine lv_iload_n hx hb dX12_sum_73 rfl (lv_at hl 3 rfl) ?_
    refine lv_i2l hx hb dX12_sum_74 rfl ?_
    refine lv_lload_n hx hb dX12_sum_75 rfl (lv_at hl 0 rfl) ?_
    refine lv_lsub hx hb dX12_sum_76 ?_
    exact w_X12_sum_77 K hK hS X hR hr hk5 o0 ((x1.toInt64) - (v5.toInt64)) h6 ls H locs hf I (lv_sub hl [2] rfl)
  · rw [if_neg c10] at hf
    refine lv_iload_n hx hb dX12_sum_66 rfl (lv_at hl 3 rfl) ?_
    refine lv_i2l hx hb dX12_sum_67 rfl ?_
    refine lv_lload_n hx hb dX12_sum_68 rfl (lv_at hl 0 rfl) ?_
    refine lv_ladd hx hb dX12_sum_69 ?_
    refine lv_goto (tgt := 77) hx hb dX12_sum_70 (by decide) ?_
    exact w_X12_sum_77 K hK hS X hR hr hk5 o0 ((x1.toInt64) + (v5.toInt64)) h6 ls H locs hf I (lv_sub hl [2] rfl)
def f_X12_sum_31 (fS : Nat → AH → Option (Int32 × AH)) (k5 : Nat → Int32 → AH → Option (Int32 × AH)) (o0 : Nat) (x1 : Int32) (h : AH) : Option (Int32 × AH) :=
  (isC [12] h o0).bind fun _ =>
  cN (f_X12_look o0 h) h fun v1 h2 =>
  if v1 = 43 then
    f_X12_sum_45 fS k5 o0 x1 1 h2
  else
    f_X12_sum_45 fS k5 o0 x1 0 h2
set_option maxHeartbeats 1000000 in
theorem w_X12_sum_31 (K : Nat) (hK : 14 ≤ K) {fS : Nat → AH → Option (Int32 × AH)} (hS : ∀ (o0 : Nat) {h : AH} {res : Int32 × AH}, fS o0 h = some res → CM l g yX12_sum cX12_sum 5 (some (.int)) K (64 * K) 0 0 [.ref (rfG g o0)] h (some (.int res.1)) res.2) (X : Cx g p s m args meth c cX12_sum 5 "TrapCornerModel") (hR : (K + 3) ≤ R.frames ∧ (64 * (K + 3)) ≤ R.locals) (hr : meth.sig.returnType = (some (.int))) {res : Int32 × AH} {k5 : Nat → Int32 → AH → Option (Int32 × AH)} (hk5 : ∀ (o0 : Nat) (x1 : Int32) (h : AH) (ls : Array Slot) (H : Heap) (locs : List Loc), k5 o0 x1 h = some res → Iv g s n0 z0 h H locs 0 0 → lv_has ls 5 [(0, .ref (rfG g o0)), (1, .int x1)] → W p l e R s m args below meth c H locs 0 0 (MQ below (QG g (some (.int res.1)) res.2) args s 0 0 (AG g)) (F0 m 5 ls [])) : ∀ (o0 : Nat) (x1 : Int32) (h : AH) (ls : Array Slot) (H : Heap) (locs : List Loc), f_X12_sum_31 fS k5 o0 x1 h = some res → Iv g s n0 z0 h H locs 0 0 → lv_has ls 5 [(0, .ref (rfG g o0)), (1, .int x1)] → W p l e R s m args below meth c H locs 0 0 (MQ below (QG g (some (.int res.1)) res.2) args s 0 0 (AG g)) (F0 m 31 ls []) := by
  have hx := X.1
  have hb := X.2.1
  intro o0 x1 h ls H locs hf I hl
  unfold f_X12_sum_31 at hf
  refine lv_aload_n hx hb dX12_sum_31 rfl (lv_at hl 0 rfl) ?_
  obtain ⟨_, g5, hf⟩ := Option.bind_eq_some_iff.mp hf
  obtain ⟨v1, h2, e3, z4, hf⟩ := cN_spec hf
  refine k_Vi (As := []) (rest := []) X I (c_X12_look l g o0 e3) z4 g5 vk_TrapCornerModel_138 tw_1484 ⟨by omega, by omega⟩ ⟨Nat.zero_le _, Nat.zero_le _⟩ rfl hl.1 rfl (Nat.le_of_ble_eq_true rfl) dX12_sum_32 (fun H locs I => ?_)
  refine lv_bipush (v := 43) hx hb dX12_sum_35 (by decide) ?_
  refine lv_icmp_ne (tgt := 44) hx hb dX12_sum_37 (by decide) (fun c6 => ?_) (fun c6 => ?_)
  · rw [if_neg c6] at hf
    refine lv_iconst (v := 0) hx hb dX12_sum_44 (by decide) ?_
    exact w_X12_sum_45 K hK hS X hR hr hk5 o0 x1 0 h2 ls H locs hf I (lv_sub hl [0, 1] rfl)
  · rw [if_pos c6] at hf
    refine lv_iconst (v := 1) hx hb dX12_sum_40 (by decide) ?_
    refine lv_goto (tgt := 45) hx hb dX12_sum_41 (by decide) ?_
    exact w_X12_sum_45 K hK hS X hR hr hk5 o0 x1 1 h2 ls H locs hf I (lv_sub hl [0, 1] rfl)
def f_X12_sum_5 (fS : Nat → AH → Option (Int32 × AH))  : Nat → Nat → Int32 → AH → Option (Int32 × AH)
  | 0, _, _, _ => none
  | n + 1, o0, x1, h =>
  (gI [12] h o0 11).bind fun v1 =>
  if v1 = ((-1)) then
    (isC [12] h o0).bind fun _ =>
    cN (f_X12_look o0 h) h fun v4 h5 =>
    if v4 = 43 then
      f_X12_sum_31 fS (f_X12_sum_5 fS n) o0 x1 h5
    else
      (isC [12] h5 o0).bind fun _ =>
      cN (f_X12_look o0 h5) h5 fun v10 h11 =>
      if v10 = 45 then
        f_X12_sum_31 fS (f_X12_sum_5 fS n) o0 x1 h11
      else
        some (x1, h11)
  else
    some (x1, h)
set_option maxHeartbeats 1000000 in
theorem w_X12_sum_5 (K : Nat) (hK : 14 ≤ K) {fS : Nat → AH → Option (Int32 × AH)} (hS : ∀ (o0 : Nat) {h : AH} {res : Int32 × AH}, fS o0 h = some res → CM l g yX12_sum cX12_sum 5 (some (.int)) K (64 * K) 0 0 [.ref (rfG g o0)] h (some (.int res.1)) res.2) (X : Cx g p s m args meth c cX12_sum 5 "TrapCornerModel") (hR : (K + 3) ≤ R.frames ∧ (64 * (K + 3)) ≤ R.locals) (hr : meth.sig.returnType = (some (.int))) {res : Int32 × AH} : ∀ (n : Nat) (o0 : Nat) (x1 : Int32) (h : AH) (ls : Array Slot) (H : Heap) (locs : List Loc), f_X12_sum_5 fS n o0 x1 h = some res → Iv g s n0 z0 h H locs 0 0 → lv_has ls 5 [(0, .ref (rfG g o0)), (1, .int x1)] → W p l e R s m args below meth c H locs 0 0 (MQ below (QG g (some (.int res.1)) res.2) args s 0 0 (AG g)) (F0 m 5 ls []) := by
  have hx := X.1
  have hb := X.2.1
  intro n
  induction n with
  | zero =>
    intro o0 x1 h ls H locs hf
    rw [f_X12_sum_5.eq_1] at hf
    cases hf
  | succ n ih =>
    intro o0 x1 h ls H locs hf I hl
    rw [f_X12_sum_5.eq_2] at hf
    refine lv_aload_n hx hb dX12_sum_5 rfl (lv_at hl 0 rfl) ?_
    obtain ⟨v1, e2, hf⟩ := Option.bind_eq_some_iff.mp hf
    refine r_gI X I e2 lk_TrapCornerModel_128 dX12_sum_6 ?_
    refine lv_iconst (v := (-1)) hx hb dX12_sum_9 (by decide) ?_
    refine lv_icmp_ne (tgt := 84) hx hb dX12_sum_10 (by decide) (fun c3 => ?_) (fun c3 => ?_)
    · rw [if_neg c3] at hf
      refine lv_iload_n hx hb dX12_sum_84 rfl (lv_at hl 1 rfl) ?_
      cases hf
      exact k_ri X I hr dX12_sum_85
    · rw [if_pos c3] at hf
      refine lv_aload_n hx hb dX12_sum_13 rfl (lv_at hl 0 rfl) ?_
      obtain ⟨_, g8, hf⟩ := Option.bind_eq_some_iff.mp hf
      obtain ⟨v4, h5, e6, z7, hf⟩ := cN_spec hf
      refine k_Vi (As := []) (rest := []) X I (c_X12_look l g o0 e6) z7 g8 vk_TrapCornerModel_138 tw_1484 ⟨by omega, by omega⟩ ⟨Nat.zero_le _, Nat.zero_le _⟩ rfl hl.1 rfl (Nat.le_of_ble_eq_true rfl) dX12_sum_14 (fun H locs I => ?_)
      refine lv_bipush (v := 43) hx hb dX12_sum_17 (by decide) ?_
      refine lv_icmp_eq (tgt := 31) hx hb dX12_sum_19 (by decide) (fun c9 => ?_) (fun c9 => ?_)
      · rw [if_pos c9] at hf
        exact w_X12_sum_31 K hK hS X hR hr ih o0 x1 h5 ls H locs hf I (lv_sub hl [0, 1] rfl)
      · rw [if_neg c9] at hf
        refine lv_aload_n hx hb dX12_sum_22 rfl (lv_at hl 0 rfl) ?_
        obtain ⟨_, g14, hf⟩ := Option.bind_eq_some_iff.mp hf
        obtain ⟨v10, h11, e12, z13, hf⟩ := cN_spec hf
        refine k_Vi (As := []) (rest := []) X I (c_X12_look l g o0 e12) z13 g14 vk_TrapCornerModel_138 tw_1484 ⟨by omega, by omega⟩ ⟨Nat.zero_le _, Nat.zero_le _⟩ rfl hl.1 rfl (Nat.le_of_ble_eq_true rfl) dX12_sum_23 (fun H locs I => ?_)
        refine lv_bipush (v := 45) hx hb dX12_sum_26 (by decide) ?_
        refine lv_icmp_ne (tgt := 84) hx hb dX12_sum_28 (by decide) (fun c15 => ?_) (fun c15 => ?_)
        · rw [if_neg c15] at hf
          refine lv_iload_n hx hb dX12_sum_84 rfl (lv_at hl 1 rfl) ?_
          cases hf
          exact k_ri X I hr dX12_sum_85
        · rw [if_pos c15] at hf
          exact w_X12_sum_31 K hK hS X hR hr ih o0 x1 h11 ls H locs hf I (lv_sub hl [0, 1] rfl)
def f_X12_sum_0 (fS : Nat → AH → Option (Int32 × AH))  (o0 : Nat) (h : AH) : Option (Int32 × AH) :=
  (isC [12] h o0).bind fun _ =>
  cN (f_X12_term fS o0 h) h fun v1 h2 =>
  f_X12_sum_5 fS fu o0 v1 h2
set_option maxHeartbeats 1000000 in
theorem w_X12_sum_0 (K : Nat) (hK : 14 ≤ K) {fS : Nat → AH → Option (Int32 × AH)} (hS : ∀ (o0 : Nat) {h : AH} {res : Int32 × AH}, fS o0 h = some res → CM l g yX12_sum cX12_sum 5 (some (.int)) K (64 * K) 0 0 [.ref (rfG g o0)] h (some (.int res.1)) res.2) (X : Cx g p s m args meth c cX12_sum 5 "TrapCornerModel") (hR : (K + 3) ≤ R.frames ∧ (64 * (K + 3)) ≤ R.locals) (hr : meth.sig.returnType = (some (.int))) {res : Int32 × AH} : ∀ (o0 : Nat) (h : AH) (ls : Array Slot) (H : Heap) (locs : List Loc), f_X12_sum_0 fS o0 h = some res → Iv g s n0 z0 h H locs 0 0 → lv_has ls 5 [(0, .ref (rfG g o0))] → W p l e R s m args below meth c H locs 0 0 (MQ below (QG g (some (.int res.1)) res.2) args s 0 0 (AG g)) (F0 m 0 ls []) := by
  have hx := X.1
  have hb := X.2.1
  intro o0 h ls H locs hf I hl
  unfold f_X12_sum_0 at hf
  refine lv_aload_n hx hb dX12_sum_0 rfl (lv_at hl 0 rfl) ?_
  obtain ⟨_, g5, hf⟩ := Option.bind_eq_some_iff.mp hf
  obtain ⟨v1, h2, e3, z4, hf⟩ := cN_spec hf
  refine k_Vi (As := []) (rest := []) X I (c_X12_term l g K hK hS o0 e3) z4 g5 vk_TrapCornerModel_178 tw_1579 ⟨by omega, by omega⟩ ⟨Nat.zero_le _, Nat.zero_le _⟩ rfl hl.1 rfl (Nat.le_of_ble_eq_true rfl) dX12_sum_1 (fun H locs I => ?_)
  refine lv_istore_n (lv' := [(1, .int v1), (0, .ref (rfG g o0))]) hx hb dX12_sum_4 rfl hl (by decide) rfl (fun ls hl => ?_)
  exact w_X12_sum_5 K hK hS X hR hr fu o0 v1 h2 ls H locs hf I (lv_sub hl [1, 0] rfl)
def f_X12_sum (fS : Nat → AH → Option (Int32 × AH)) (o0 : Nat) (h : AH) : Option (Int32 × AH) := f_X12_sum_0 fS o0 h
end
theorem c_X12_sum (l : Launch) (g : GG) (K : Nat) (hK : 14 ≤ K) {fS : Nat → AH → Option (Int32 × AH)} (hS : ∀ (o0 : Nat) {h : AH} {res : Int32 × AH}, fS o0 h = some res → CM l g yX12_sum cX12_sum 5 (some (.int)) K (64 * K) 0 0 [.ref (rfG g o0)] h (some (.int res.1)) res.2) (o0 : Nat) {h : AH} {res : Int32 × AH} (hf : f_X12_sum fS o0 h = some res) : CM l g yX12_sum cX12_sum 5 (some (.int)) (K + 3) (64 * (K + 3)) 0 0 [.ref (rfG g o0)] h (some (.int res.1)) res.2 :=
  k_body (by decide) (Nat.le_of_ble_eq_true rfl) (fun p e s m below meth c R ls hR hr X I hl => w_X12_sum_0 K hK hS X ⟨Nat.le_of_eq hR.1.symm, Nat.le_of_eq hR.2.1.symm⟩ hr o0 h ls s.heap [] hf I (lv_sub hl [0] rfl))
def r_X12_sum : Nat → Nat → AH → Option (Int32 × AH)
  | 0, _, _ => none
  | d + 1, o0, h => f_X12_sum (r_X12_sum d) o0 h
theorem cr_X12_sum (l : Launch) (g : GG) (d : Nat) : ∀ (o0 : Nat) {h : AH} {res : Int32 × AH}, r_X12_sum d o0 h = some res → CM l g yX12_sum cX12_sum 5 (some (.int)) (14 + 3 * d) (64 * (14 + 3 * d)) 0 0 [.ref (rfG g o0)] h (some (.int res.1)) res.2 := by
  induction d with
  | zero =>
    intro o0 h res hf
    rw [r_X12_sum.eq_1] at hf
    cases hf
  | succ d ih =>
    intro o0 h res hf
    rw [r_X12_sum.eq_2] at hf
    have h9 := c_X12_sum l g (14 + 3 * d) (by omega) ih o0 hf
    have e9 : 14 + 3 * (d + 1) = 14 + 3 * d + 3 := by omega
    rw [e9]
    exact h9
def fc_X12_atom (o0 : Nat) (h : AH) : Option (Int32 × AH) := f_X12_atom (r_X12_sum 8) o0 h
theorem cc_X12_atom (l : Launch) (g : GG) (o0 : Nat) {h : AH} {res : Int32 × AH} (hf : fc_X12_atom o0 h = some res) : CM l g yX12_atom cX12_atom 4 (some (.int)) 39 2496 0 0 [.ref (rfG g o0)] h (some (.int res.1)) res.2 := c_X12_atom l g 38 (by decide) (cr_X12_sum l g 8) o0 hf
def fc_X12_term (o0 : Nat) (h : AH) : Option (Int32 × AH) := f_X12_term (r_X12_sum 8) o0 h
theorem cc_X12_term (l : Launch) (g : GG) (o0 : Nat) {h : AH} {res : Int32 × AH} (hf : fc_X12_term o0 h = some res) : CM l g yX12_term cX12_term 5 (some (.int)) 40 2560 0 0 [.ref (rfG g o0)] h (some (.int res.1)) res.2 := c_X12_term l g 38 (by decide) (cr_X12_sum l g 8) o0 hf
def fc_X12_sum (o0 : Nat) (h : AH) : Option (Int32 × AH) := r_X12_sum 8 o0 h
theorem cc_X12_sum (l : Launch) (g : GG) (o0 : Nat) {h : AH} {res : Int32 × AH} (hf : fc_X12_sum o0 h = some res) : CM l g yX12_sum cX12_sum 5 (some (.int)) 38 2432 0 0 [.ref (rfG g o0)] h (some (.int res.1)) res.2 := cr_X12_sum l g 8 o0 hf
/-! TrapCornerModel.compares(ZI)Z -/
theorem dX12_compares_0 : decode cX12_compares 0 = .ok (.iload_n 1, 1) := by decide +kernel
theorem dX12_compares_1 : decode cX12_compares 1 = .ok (.ifCond .eq 7, 3) := by decide +kernel
theorem dX12_compares_4 : decode cX12_compares 4 = .ok (.iload_n 2, 1) := by decide +kernel
theorem dX12_compares_5 : decode cX12_compares 5 = .ok (.goto 7, 3) := by decide +kernel
theorem dX12_compares_8 : decode cX12_compares 8 = .ok (.aload_n 0, 1) := by decide +kernel
theorem dX12_compares_9 : decode cX12_compares 9 = .ok (.invokevirtual 161, 3) := by decide +kernel
theorem dX12_compares_12 : decode cX12_compares 12 = .ok (.istore_n 3, 1) := by decide +kernel
theorem dX12_compares_13 : decode cX12_compares 13 = .ok (.aload_n 0, 1) := by decide +kernel
theorem dX12_compares_14 : decode cX12_compares 14 = .ok (.getfield 128, 3) := by decide +kernel
theorem dX12_compares_17 : decode cX12_compares 17 = .ok (.iconst (-1), 1) := by decide +kernel
theorem dX12_compares_18 : decode cX12_compares 18 = .ok (.if_icmp .eq 5, 3) := by decide +kernel
theorem dX12_compares_21 : decode cX12_compares 21 = .ok (.iconst 0, 1) := by decide +kernel
theorem dX12_compares_22 : decode cX12_compares 22 = .ok (.ireturn, 1) := by decide +kernel
theorem dX12_compares_23 : decode cX12_compares 23 = .ok (.aload_n 0, 1) := by decide +kernel
theorem dX12_compares_24 : decode cX12_compares 24 = .ok (.invokevirtual 138, 3) := by decide +kernel
theorem dX12_compares_27 : decode cX12_compares 27 = .ok (.istore 4, 2) := by decide +kernel
theorem dX12_compares_29 : decode cX12_compares 29 = .ok (.iload 4, 2) := by decide +kernel
theorem dX12_compares_31 : decode cX12_compares 31 = .ok (.invokestatic 181, 3) := by decide +kernel
theorem dX12_compares_34 : decode cX12_compares 34 = .ok (.ifCond .ne 8, 3) := by decide +kernel
theorem dX12_compares_37 : decode cX12_compares 37 = .ok (.aload_n 0, 1) := by decide +kernel
theorem dX12_compares_38 : decode cX12_compares 38 = .ok (.invokevirtual 134, 3) := by decide +kernel
theorem dX12_compares_41 : decode cX12_compares 41 = .ok (.ireturn, 1) := by decide +kernel
theorem dX12_compares_42 : decode cX12_compares 42 = .ok (.aload_n 0, 1) := by decide +kernel
theorem dX12_compares_43 : decode cX12_compares 43 = .ok (.dup, 1) := by decide +kernel
theorem dX12_compares_44 : decode cX12_compares 44 = .ok (.getfield 119, 3) := by decide +kernel
theorem dX12_compares_47 : decode cX12_compares 47 = .ok (.iconst 1, 1) := by decide +kernel
theorem dX12_compares_48 : decode cX12_compares 48 = .ok (.iadd, 1) := by decide +kernel
theorem dX12_compares_49 : decode cX12_compares 49 = .ok (.putfield 119, 3) := by decide +kernel
theorem dX12_compares_52 : decode cX12_compares 52 = .ok (.aload_n 0, 1) := by decide +kernel
theorem dX12_compares_53 : decode cX12_compares 53 = .ok (.invokevirtual 161, 3) := by decide +kernel
theorem dX12_compares_56 : decode cX12_compares 56 = .ok (.istore 5, 2) := by decide +kernel
theorem dX12_compares_58 : decode cX12_compares 58 = .ok (.iload 4, 2) := by decide +kernel
theorem dX12_compares_60 : decode cX12_compares 60 = .ok (.bipush 61, 2) := by decide +kernel
theorem dX12_compares_62 : decode cX12_compares 62 = .ok (.if_icmp .ne 17, 3) := by decide +kernel
theorem dX12_compares_65 : decode cX12_compares 65 = .ok (.iload_n 3, 1) := by decide +kernel
theorem dX12_compares_66 : decode cX12_compares 66 = .ok (.iload 5, 2) := by decide +kernel
theorem dX12_compares_68 : decode cX12_compares 68 = .ok (.if_icmp .ne 7, 3) := by decide +kernel
theorem dX12_compares_71 : decode cX12_compares 71 = .ok (.iconst 1, 1) := by decide +kernel
theorem dX12_compares_72 : decode cX12_compares 72 = .ok (.goto 39, 3) := by decide +kernel
theorem dX12_compares_75 : decode cX12_compares 75 = .ok (.iconst 0, 1) := by decide +kernel
theorem dX12_compares_76 : decode cX12_compares 76 = .ok (.goto 35, 3) := by decide +kernel
theorem dX12_compares_79 : decode cX12_compares 79 = .ok (.iload 4, 2) := by decide +kernel
theorem dX12_compares_81 : decode cX12_compares 81 = .ok (.bipush 60, 2) := by decide +kernel
theorem dX12_compares_83 : decode cX12_compares 83 = .ok (.if_icmp .ne 17, 3) := by decide +kernel
theorem dX12_compares_86 : decode cX12_compares 86 = .ok (.iload_n 3, 1) := by decide +kernel
theorem dX12_compares_87 : decode cX12_compares 87 = .ok (.iload 5, 2) := by decide +kernel
theorem dX12_compares_89 : decode cX12_compares 89 = .ok (.if_icmp .ge 7, 3) := by decide +kernel
theorem dX12_compares_92 : decode cX12_compares 92 = .ok (.iconst 1, 1) := by decide +kernel
theorem dX12_compares_93 : decode cX12_compares 93 = .ok (.goto 18, 3) := by decide +kernel
theorem dX12_compares_96 : decode cX12_compares 96 = .ok (.iconst 0, 1) := by decide +kernel
theorem dX12_compares_97 : decode cX12_compares 97 = .ok (.goto 14, 3) := by decide +kernel
theorem dX12_compares_100 : decode cX12_compares 100 = .ok (.iload_n 3, 1) := by decide +kernel
theorem dX12_compares_101 : decode cX12_compares 101 = .ok (.iload 5, 2) := by decide +kernel
theorem dX12_compares_103 : decode cX12_compares 103 = .ok (.if_icmp .le 7, 3) := by decide +kernel
theorem dX12_compares_106 : decode cX12_compares 106 = .ok (.iconst 1, 1) := by decide +kernel
theorem dX12_compares_107 : decode cX12_compares 107 = .ok (.goto 4, 3) := by decide +kernel
theorem dX12_compares_110 : decode cX12_compares 110 = .ok (.iconst 0, 1) := by decide +kernel
theorem dX12_compares_111 : decode cX12_compares 111 = .ok (.ireturn, 1) := by decide +kernel
theorem sk_TrapCornerModel_181 : SK "TrapCornerModel" 181 yX12_isSign 1 := ⟨tw_1599, tw_1600, tw_13, ⟨by decide, by decide⟩, by decide +kernel⟩
section
variable {g : GG} {p : Program} {l : Launch} {e : Env} {R : Room} {s : State} {m : MethodId} {args : Array Value} {below : List Frame} {meth : Method} {c : Code} {n0 z0 : Nat}
def f_X12_compares_12 (fS : Nat → AH → Option (Int32 × AH))  (o0 : Nat) (s0 : Int32) (h : AH) : Option (Int32 × AH) :=
  (gI [12] h o0 11).bind fun v1 =>
  if v1 = ((-1)) then
    (isC [12] h o0).bind fun _ =>
    cN (f_X12_look o0 h) h fun v4 h5 =>
    cN (f_X12_isSign v4 h5) h5 fun v9 h10 =>
    if v9 = 0 then
      (isC [12] h10 o0).bind fun _ =>
      cN (f_X12_fails o0 h10) h10 fun v28 h29 =>
      rZ v28 h29
    else
      (gI [12] h10 o0 10).bind fun v14 =>
      (pV [12] h10 o0 10 (.int (v14 + 1))).bind fun h16 =>
      (isC [12] h16 o0).bind fun _ =>
      cN (fc_X12_sum o0 h16) h16 fun v18 h19 =>
      if v4 = 61 then
        if s0 = v18 then
          some (1, h19)
        else
          some (0, h19)
      else
        if v4 = 60 then
          if v18 ≤ s0 then
            some (0, h19)
          else
            some (1, h19)
        else
          if s0 ≤ v18 then
            some (0, h19)
          else
            some (1, h19)
  else
    some (0, h)
set_option maxHeartbeats 1000000 in
theorem w_X12_compares_12 (K : Nat) (hK : 50 ≤ K) {fS : Nat → AH → Option (Int32 × AH)} (hS : ∀ (o0 : Nat) {h : AH} {res : Int32 × AH}, fS o0 h = some res → CM l g yX12_unit cX12_unit 3 (some (.boolean)) K (64 * K) 0 0 [.ref (rfG g o0)] h (some (.int res.1)) res.2) (X : Cx g p s m args meth c cX12_compares 6 "TrapCornerModel") (hR : (K + 1) ≤ R.frames ∧ (64 * (K + 1)) ≤ R.locals) (hr : meth.sig.returnType = (some (.boolean))) {res : Int32 × AH} : ∀ (o0 : Nat) (s0 : Int32) (h : AH) (ls : Array Slot) (H : Heap) (locs : List Loc), f_X12_compares_12 fS o0 s0 h = some res → Iv g s n0 z0 h H locs 0 0 → lv_has ls 6 [(0, .ref (rfG g o0))] → W p l e R s m args below meth c H locs 0 0 (MQ below (QG g (some (.int res.1)) res.2) args s 0 0 (AG g)) (F0 m 12 ls [.int s0]) := by
  have hx := X.1
  have hb := X.2.1
  intro o0 s0 h ls H locs hf I hl
  unfold f_X12_compares_12 at hf
  refine lv_istore_n (lv' := [(3, .int s0), (0, .ref (rfG g o0))]) hx hb dX12_compares_12 rfl hl (by decide) rfl (fun ls hl => ?_)
  refine lv_aload_n hx hb dX12_compares_13 rfl (lv_at hl 1 rfl) ?_
  obtain ⟨v1, e2, hf⟩ := Option.bind_eq_some_iff.mp hf
  refine r_gI X I e2 lk_TrapCornerModel_128 dX12_compares_14 ?_
  refine lv_iconst (v := (-1)) hx hb dX12_compares_17 (by decide) ?_
  refine lv_icmp_eq (tgt := 23) hx hb dX12_compares_18 (by decide) (fun c3 => ?_) (fun c3 => ?_)
  · rw [if_pos c3] at hf
    refine lv_aload_n hx hb dX12_compares_23 rfl (lv_at hl 1 rfl) ?_
    obtain ⟨_, g8, hf⟩ := Option.bind_eq_some_iff.mp hf
    obtain ⟨v4, h5, e6, z7, hf⟩ := cN_spec hf
    refine k_Vi (As := []) (rest := []) X I (c_X12_look l g o0 e6) z7 g8 vk_TrapCornerModel_138 tw_1484 ⟨by omega, by omega⟩ ⟨Nat.zero_le _, Nat.zero_le _⟩ rfl hl.1 rfl (Nat.le_of_ble_eq_true rfl) dX12_compares_24 (fun H locs I => ?_)
    refine lv_istore (lv' := [(4, .int v4), (3, .int s0), (0, .ref (rfG g o0))]) hx hb dX12_compares_27 hl (by decide) rfl (fun ls hl => ?_)
    refine lv_iload hx hb dX12_compares_29 (lv_at hl 0 rfl) ?_
    obtain ⟨v9, h10, e11, z12, hf⟩ := cN_spec hf
    refine k_Si (As := [.int v4]) (rest := []) X I (c_X12_isSign l g v4 e11) z12 sk_TrapCornerModel_181 tw_1601 ⟨by omega, by omega⟩ ⟨Nat.zero_le _, Nat.zero_le _⟩ rfl hl.1 rfl (Nat.le_of_ble_eq_true rfl) dX12_compares_31 (fun H locs I => ?_)
    refine lv_if_ne (tgt := 42) hx hb dX12_compares_34 (by decide) (fun c13 => ?_) (fun c13 => ?_)
    · rw [if_neg c13] at hf
      refine lv_aload_n hx hb dX12_compares_42 rfl (lv_at hl 2 rfl) ?_
      refine lv_dup hx hb dX12_compares_43 rfl ?_
      obtain ⟨v14, e15, hf⟩ := Option.bind_eq_some_iff.mp hf
      refine r_gI X I e15 lk_TrapCornerModel_119 dX12_compares_44 ?_
      refine lv_iconst (v := 1) hx hb dX12_compares_47 (by decide) ?_
      refine lv_iadd hx hb dX12_compares_48 ?_
      obtain ⟨h16, e17, hf⟩ := Option.bind_eq_some_iff.mp hf
      refine r_pI X I e17 lp_TrapCornerModel_119 dX12_compares_49 (fun H locs I => ?_)
      refine lv_aload_n hx hb dX12_compares_52 rfl (lv_at hl 2 rfl) ?_
      obtain ⟨_, g22, hf⟩ := Option.bind_eq_some_iff.mp hf
      obtain ⟨v18, h19, e20, z21, hf⟩ := cN_spec hf
      refine k_Vi (As := []) (rest := []) X I (cc_X12_sum l g o0 e20) z21 g22 vk_TrapCornerModel_161 tw_1575 ⟨by omega, by omega⟩ ⟨Nat.zero_le _, Nat.zero_le _⟩ rfl hl.1 rfl (Nat.le_of_ble_eq_true rfl) dX12_compares_53 (fun H locs I => ?_)
      refine lv_istore (lv' := [(5, .int v18), (4, .int v4), (3, .int s0), (0, .ref (rfG g o0))]) hx hb dX12_compares_56 hl (by decide) rfl (fun ls hl => ?_)
      refine lv_iload hx hb dX12_compares_58 (lv_at hl 1 rfl) ?_
      refine lv_bipush (v := 61) hx hb dX12_compares_60 (by decide) ?_
      refine lv_icmp_ne (tgt := 79) hx hb dX12_compares_62 (by decide) (fun c23 => ?_) (fun c23 => ?_)
      · rw [if_neg c23] at hf
        refine lv_iload hx hb dX12_compares_79 (lv_at hl 1 rfl) ?_
        refine lv_bipush (v := 60) hx hb dX12_compares_81 (by decide) ?_
        refine lv_icmp_ne (tgt := 100) hx hb dX12_compares_83 (by decide) (fun c24 => ?_) (fun c24 => ?_)
        · rw [if_neg c24] at hf
          refine lv_iload_n hx hb dX12_compares_100 rfl (lv_at hl 2 rfl) ?_
          refine lv_iload hx hb dX12_compares_101 (lv_at hl 0 rfl) ?_
          refine lv_icmp_le (tgt := 110) hx hb dX12_compares_103 (by decide) (fun c25 => ?_) (fun c25 => ?_)
          · rw [if_pos c25] at hf
            refine lv_iconst (v := 0) hx hb dX12_compares_110 (by decide) ?_
            cases hf
            exact k_rz X I hr (Or.inl rfl) dX12_compares_111
          · rw [if_neg c25] at hf
            refine lv_iconst (v := 1) hx hb dX12_compares_106 (by decide) ?_
            refine lv_goto (tgt := 111) hx hb dX12_compares_107 (by decide) ?_
            cases hf
            exact k_rz X I hr (Or.inr rfl) dX12_compares_111
        · rw [if_pos c24] at hf
          refine lv_iload_n hx hb dX12_compares_86 rfl (lv_at hl 2 rfl) ?_
          refine lv_iload hx hb dX12_compares_87 (lv_at hl 0 rfl) ?_
          refine lv_icmp_ge (tgt := 96) hx hb dX12_compares_89 (by decide) (fun c26 => ?_) (fun c26 => ?_)
          · rw [if_pos c26] at hf
            refine lv_iconst (v := 0) hx hb dX12_compares_96 (by decide) ?_
            refine lv_goto (tgt := 111) hx hb dX12_compares_97 (by decide) ?_
            cases hf
            exact k_rz X I hr (Or.inl rfl) dX12_compares_111
          · rw [if_neg c26] at hf
            refine lv_iconst (v := 1) hx hb dX12_compares_92 (by decide) ?_
            refine lv_goto (tgt := 111) hx hb dX12_compares_93 (by decide) ?_
            cases hf
            exact k_rz X I hr (Or.inr rfl) dX12_compares_111
      · rw [if_pos c23] at hf
        refine lv_iload_n hx hb dX12_compares_65 rfl (lv_at hl 2 rfl) ?_
        refine lv_iload hx hb dX12_compares_66 (lv_at hl 0 rfl) ?_
        refine lv_icmp_ne (tgt := 75) hx hb dX12_compares_68 (by decide) (fun c27 => ?_) (fun c27 => ?_)
        · rw [if_neg c27] at hf
          refine lv_iconst (v := 0) hx hb dX12_compares_75 (by decide) ?_
          refine lv_goto (tgt := 111) hx hb dX12_compares_76 (by decide) ?_
          cases hf
          exact k_rz X I hr (Or.inl rfl) dX12_compares_111
        · rw [if_pos c27] at hf
          refine lv_iconst (v := 1) hx hb dX12_compares_71 (by decide) ?_
          refine lv_goto (tgt := 111) hx hb dX12_compares_72 (by decide) ?_
          cases hf
          exact k_rz X I hr (Or.inr rfl) dX12_compares_111
    · rw [if_pos c13] at hf
      refine lv_aload_n hx hb dX12_compares_37 rfl (lv_at hl 2 rfl) ?_
      obtain ⟨_, g32, hf⟩ := Option.bind_eq_some_iff.mp hf
      obtain ⟨v28, h29, e30, z31, hf⟩ := cN_spec hf
      refine k_Vi (As := []) (rest := []) X I (c_X12_fails l g o0 e30) z31 g32 vk_TrapCornerModel_134 tw_1488 ⟨by omega, by omega⟩ ⟨Nat.zero_le _, Nat.zero_le _⟩ rfl hl.1 rfl (Nat.le_of_ble_eq_true rfl) dX12_compares_38 (fun H locs I => ?_)
      obtain ⟨hz, rfl⟩ := rZ_spec hf
      exact k_rz X I hr hz dX12_compares_41
  · rw [if_neg c3] at hf
    refine lv_iconst (v := 0) hx hb dX12_compares_21 (by decide) ?_
    cases hf
    exact k_rz X I hr (Or.inl rfl) dX12_compares_22
def f_X12_compares_0 (fS : Nat → AH → Option (Int32 × AH))  (o0 : Nat) (x1 : Int32) (x2 : Int32) (h : AH) : Option (Int32 × AH) :=
  if x1 = 0 then
    (isC [12] h o0).bind fun _ =>
    cN (fc_X12_sum o0 h) h fun v2 h3 =>
    f_X12_compares_12 fS o0 v2 h3
  else
    f_X12_compares_12 fS o0 x2 h
set_option maxHeartbeats 1000000 in
theorem w_X12_compares_0 (K : Nat) (hK : 50 ≤ K) {fS : Nat → AH → Option (Int32 × AH)} (hS : ∀ (o0 : Nat) {h : AH} {res : Int32 × AH}, fS o0 h = some res → CM l g yX12_unit cX12_unit 3 (some (.boolean)) K (64 * K) 0 0 [.ref (rfG g o0)] h (some (.int res.1)) res.2) (X : Cx g p s m args meth c cX12_compares 6 "TrapCornerModel") (hR : (K + 1) ≤ R.frames ∧ (64 * (K + 1)) ≤ R.locals) (hr : meth.sig.returnType = (some (.boolean))) {res : Int32 × AH} : ∀ (o0 : Nat) (x1 : Int32) (x2 : Int32) (h : AH) (ls : Array Slot) (H : Heap) (locs : List Loc), f_X12_compares_0 fS o0 x1 x2 h = some res → Iv g s n0 z0 h H locs 0 0 → lv_has ls 6 [(0, .ref (rfG g o0)), (1, .int x1), (2, .int x2)] → W p l e R s m args below meth c H locs 0 0 (MQ below (QG g (some (.int res.1)) res.2) args s 0 0 (AG g)) (F0 m 0 ls []) := by
  have hx := X.1
  have hb := X.2.1
  intro o0 x1 x2 h ls H locs hf I hl
  unfold f_X12_compares_0 at hf
  refine lv_iload_n hx hb dX12_compares_0 rfl (lv_at hl 1 rfl) ?_
  refine lv_if_eq (tgt := 8) hx hb dX12_compares_1 (by decide) (fun c1 => ?_) (fun c1 => ?_)
  · rw [if_pos c1] at hf
    refine lv_aload_n hx hb dX12_compares_8 rfl (lv_at hl 0 rfl) ?_
    obtain ⟨_, g6, hf⟩ := Option.bind_eq_some_iff.mp hf
    obtain ⟨v2, h3, e4, z5, hf⟩ := cN_spec hf
    refine k_Vi (As := []) (rest := []) X I (cc_X12_sum l g o0 e4) z5 g6 vk_TrapCornerModel_161 tw_1575 ⟨by omega, by omega⟩ ⟨Nat.zero_le _, Nat.zero_le _⟩ rfl hl.1 rfl (Nat.le_of_ble_eq_true rfl) dX12_compares_9 (fun H locs I => ?_)
    exact w_X12_compares_12 K hK hS X hR hr  o0 v2 h3 ls H locs hf I (lv_sub hl [0] rfl)
  · rw [if_neg c1] at hf
    refine lv_iload_n hx hb dX12_compares_4 rfl (lv_at hl 2 rfl) ?_
    refine lv_goto (tgt := 12) hx hb dX12_compares_5 (by decide) ?_
    exact w_X12_compares_12 K hK hS X hR hr  o0 x2 h ls H locs hf I (lv_sub hl [0] rfl)
def f_X12_compares (fS : Nat → AH → Option (Int32 × AH)) (o0 : Nat) (x1 : Int32) (x2 : Int32) (h : AH) : Option (Int32 × AH) := f_X12_compares_0 fS o0 x1 x2 h
end
theorem c_X12_compares (l : Launch) (g : GG) (K : Nat) (hK : 50 ≤ K) {fS : Nat → AH → Option (Int32 × AH)} (hS : ∀ (o0 : Nat) {h : AH} {res : Int32 × AH}, fS o0 h = some res → CM l g yX12_unit cX12_unit 3 (some (.boolean)) K (64 * K) 0 0 [.ref (rfG g o0)] h (some (.int res.1)) res.2) (o0 : Nat) (x1 : Int32) (x2 : Int32) {h : AH} {res : Int32 × AH} (hf : f_X12_compares fS o0 x1 x2 h = some res) : CM l g yX12_compares cX12_compares 6 (some (.boolean)) (K + 1) (64 * (K + 1)) 0 0 [.ref (rfG g o0), .int x1, .int x2] h (some (.int res.1)) res.2 :=
  k_body (by decide) (Nat.le_of_ble_eq_true rfl) (fun p e s m below meth c R ls hR hr X I hl => w_X12_compares_0 K hK hS X ⟨Nat.le_of_eq hR.1.symm, Nat.le_of_eq hR.2.1.symm⟩ hr o0 x1 x2 h ls s.heap [] hf I (lv_sub hl [0, 1, 2] rfl))
/-! TrapCornerModel.part(ZI)Z -/
theorem dX12_part_0 : decode cX12_part 0 = .ok (.iload_n 1, 1) := by decide +kernel
theorem dX12_part_1 : decode cX12_part 1 = .ok (.ifCond .eq 12, 3) := by decide +kernel
theorem dX12_part_4 : decode cX12_part 4 = .ok (.aload_n 0, 1) := by decide +kernel
theorem dX12_part_5 : decode cX12_part 5 = .ok (.iconst 1, 1) := by decide +kernel
theorem dX12_part_6 : decode cX12_part 6 = .ok (.iload_n 2, 1) := by decide +kernel
theorem dX12_part_7 : decode cX12_part 7 = .ok (.invokevirtual 191, 3) := by decide +kernel
theorem dX12_part_10 : decode cX12_part 10 = .ok (.goto 7, 3) := by decide +kernel
theorem dX12_part_13 : decode cX12_part 13 = .ok (.aload_n 0, 1) := by decide +kernel
theorem dX12_part_14 : decode cX12_part 14 = .ok (.invokevirtual 184, 3) := by decide +kernel
theorem dX12_part_17 : decode cX12_part 17 = .ok (.istore_n 3, 1) := by decide +kernel
theorem dX12_part_18 : decode cX12_part 18 = .ok (.aload_n 0, 1) := by decide +kernel
theorem dX12_part_19 : decode cX12_part 19 = .ok (.getfield 128, 3) := by decide +kernel
theorem dX12_part_22 : decode cX12_part 22 = .ok (.iconst (-1), 1) := by decide +kernel
theorem dX12_part_23 : decode cX12_part 23 = .ok (.if_icmp .ne 46, 3) := by decide +kernel
theorem dX12_part_26 : decode cX12_part 26 = .ok (.aload_n 0, 1) := by decide +kernel
theorem dX12_part_27 : decode cX12_part 27 = .ok (.invokevirtual 138, 3) := by decide +kernel
theorem dX12_part_30 : decode cX12_part 30 = .ok (.bipush 38, 2) := by decide +kernel
theorem dX12_part_32 : decode cX12_part 32 = .ok (.if_icmp .ne 37, 3) := by decide +kernel
theorem dX12_part_35 : decode cX12_part 35 = .ok (.aload_n 0, 1) := by decide +kernel
theorem dX12_part_36 : decode cX12_part 36 = .ok (.dup, 1) := by decide +kernel
theorem dX12_part_37 : decode cX12_part 37 = .ok (.getfield 119, 3) := by decide +kernel
theorem dX12_part_40 : decode cX12_part 40 = .ok (.iconst 1, 1) := by decide +kernel
theorem dX12_part_41 : decode cX12_part 41 = .ok (.iadd, 1) := by decide +kernel
theorem dX12_part_42 : decode cX12_part 42 = .ok (.putfield 119, 3) := by decide +kernel
theorem dX12_part_45 : decode cX12_part 45 = .ok (.aload_n 0, 1) := by decide +kernel
theorem dX12_part_46 : decode cX12_part 46 = .ok (.invokevirtual 184, 3) := by decide +kernel
theorem dX12_part_49 : decode cX12_part 49 = .ok (.istore 4, 2) := by decide +kernel
theorem dX12_part_51 : decode cX12_part 51 = .ok (.iload_n 3, 1) := by decide +kernel
theorem dX12_part_52 : decode cX12_part 52 = .ok (.ifCond .eq 12, 3) := by decide +kernel
theorem dX12_part_55 : decode cX12_part 55 = .ok (.iload 4, 2) := by decide +kernel
theorem dX12_part_57 : decode cX12_part 57 = .ok (.ifCond .eq 7, 3) := by decide +kernel
theorem dX12_part_60 : decode cX12_part 60 = .ok (.iconst 1, 1) := by decide +kernel
theorem dX12_part_61 : decode cX12_part 61 = .ok (.goto 4, 3) := by decide +kernel
theorem dX12_part_64 : decode cX12_part 64 = .ok (.iconst 0, 1) := by decide +kernel
theorem dX12_part_65 : decode cX12_part 65 = .ok (.istore_n 3, 1) := by decide +kernel
theorem dX12_part_66 : decode cX12_part 66 = .ok (.goto (-48), 3) := by decide +kernel
theorem dX12_part_69 : decode cX12_part 69 = .ok (.iload_n 3, 1) := by decide +kernel
theorem dX12_part_70 : decode cX12_part 70 = .ok (.ireturn, 1) := by decide +kernel
theorem vk_TrapCornerModel_184 : VK "TrapCornerModel" 184 [12] yX12_unit 0 := ⟨tw_1602, tw_1604, tw_13, ⟨by decide, by decide⟩, by decide +kernel, fun ci hci => by
  have hci := List.mem_singleton.mp hci
  subst hci
  exact ⟨_, rfl, tp_73⟩⟩
theorem vk_TrapCornerModel_191 : VK "TrapCornerModel" 191 [12] yX12_compares 2 := ⟨tw_1568, tw_1570, tw_13, ⟨by decide, by decide⟩, by decide +kernel, fun ci hci => by
  have hci := List.mem_singleton.mp hci
  subst hci
  exact ⟨_, rfl, tp_68⟩⟩
section
variable {g : GG} {p : Program} {l : Launch} {e : Env} {R : Room} {s : State} {m : MethodId} {args : Array Value} {below : List Frame} {meth : Method} {c : Code} {n0 z0 : Nat}
def f_X12_part_65 (fS : Nat → AH → Option (Int32 × AH)) (k18 : Nat → Int32 → AH → Option (Int32 × AH)) (o0 : Nat) (s0 : Int32) (h : AH) : Option (Int32 × AH) :=
  k18 o0 s0 h
set_option maxHeartbeats 1000000 in
theorem w_X12_part_65 (K : Nat) (hK : 50 ≤ K) {fS : Nat → AH → Option (Int32 × AH)} (hS : ∀ (o0 : Nat) {h : AH} {res : Int32 × AH}, fS o0 h = some res → CM l g yX12_unit cX12_unit 3 (some (.boolean)) K (64 * K) 0 0 [.ref (rfG g o0)] h (some (.int res.1)) res.2) (X : Cx g p s m args meth c cX12_part 5 "TrapCornerModel") (hR : (K + 2) ≤ R.frames ∧ (64 * (K + 2)) ≤ R.locals) (hr : meth.sig.returnType = (some (.boolean))) {res : Int32 × AH} {k18 : Nat → Int32 → AH → Option (Int32 × AH)} (hk18 : ∀ (o0 : Nat) (x3 : Int32) (h : AH) (ls : Array Slot) (H : Heap) (locs : List Loc), k18 o0 x3 h = some res → Iv g s n0 z0 h H locs 0 0 → lv_has ls 5 [(0, .ref (rfG g o0)), (3, .int x3)] → W p l e R s m args below meth c H locs 0 0 (MQ below (QG g (some (.int res.1)) res.2) args s 0 0 (AG g)) (F0 m 18 ls [])) : ∀ (o0 : Nat) (s0 : Int32) (h : AH) (ls : Array Slot) (H : Heap) (locs : List Loc), f_X12_part_65 fS k18 o0 s0 h = some res → Iv g s n0 z0 h H locs 0 0 → lv_has ls 5 [(0, .ref (rfG g o0))] → W p l e R s m args below meth c H locs 0 0 (MQ below (QG g (some (.int res.1)) res.2) args s 0 0 (AG g)) (F0 m 65 ls [.int s0]) := by
  have hx := X.1
  have hb := X.2.1
  intro o0 s0 h ls H locs hf I hl
  unfold f_X12_part_65 at hf
  refine lv_istore_n (lv' := [(3, .int s0), (0, .ref (rfG g o0))]) hx hb dX12_part_65 rfl hl (by decide) rfl (fun ls hl => ?_)
  refine lv_goto (tgt := 18) hx hb dX12_part_66 (by decide) ?_
  exact hk18 o0 s0 h ls H locs hf I (lv_sub hl [1, 0] rfl)
def f_X12_part_64 (fS : Nat → AH → Option (Int32 × AH)) (k18 : Nat → Int32 → AH → Option (Int32 × AH)) (o0 : Nat) (h : AH) : Option (Int32 × AH) :=
  f_X12_part_65 fS k18 o0 0 h
set_option maxHeartbeats 1000000 in
theorem w_X12_part_64 (K : Nat) (hK : 50 ≤ K) {fS : Nat → AH → Option (Int32 × AH)} (hS : ∀ (o0 : Nat) {h : AH} {res : Int32 × AH}, fS o0 h = some res → CM l g yX12_unit cX12_unit 3 (some (.boolean)) K (64 * K) 0 0 [.ref (rfG g o0)] h (some (.int res.1)) res.2) (X : Cx g p s m args meth c cX12_part 5 "TrapCornerModel") (hR : (K + 2) ≤ R.frames ∧ (64 * (K + 2)) ≤ R.locals) (hr : meth.sig.returnType = (some (.boolean))) {res : Int32 × AH} {k18 : Nat → Int32 → AH → Option (Int32 × AH)} (hk18 : ∀ (o0 : Nat) (x3 : Int32) (h : AH) (ls : Array Slot) (H : Heap) (locs : List Loc), k18 o0 x3 h = some res → Iv g s n0 z0 h H locs 0 0 → lv_has ls 5 [(0, .ref (rfG g o0)), (3, .int x3)] → W p l e R s m args below meth c H locs 0 0 (MQ below (QG g (some (.int res.1)) res.2) args s 0 0 (AG g)) (F0 m 18 ls [])) : ∀ (o0 : Nat) (h : AH) (ls : Array Slot) (H : Heap) (locs : List Loc), f_X12_part_64 fS k18 o0 h = some res → Iv g s n0 z0 h H locs 0 0 → lv_has ls 5 [(0, .ref (rfG g o0))] → W p l e R s m args below meth c H locs 0 0 (MQ below (QG g (some (.int res.1)) res.2) args s 0 0 (AG g)) (F0 m 64 ls []) := by
  have hx := X.1
  have hb := X.2.1
  intro o0 h ls H locs hf I hl
  unfold f_X12_part_64 at hf
  refine lv_iconst (v := 0) hx hb dX12_part_64 (by decide) ?_
  exact w_X12_part_65 K hK hS X hR hr hk18 o0 0 h ls H locs hf I (lv_sub hl [0] rfl)
def f_X12_part_18 (fS : Nat → AH → Option (Int32 × AH))  : Nat → Nat → Int32 → AH → Option (Int32 × AH)
  | 0, _, _, _ => none
  | n + 1, o0, x3, h =>
  (gI [12] h o0 11).bind fun v1 =>
  if v1 = ((-1)) then
    (isC [12] h o0).bind fun _ =>
    cN (f_X12_look o0 h) h fun v4 h5 =>
    if v4 = 38 then
      (gI [12] h5 o0 10).bind fun v10 =>
      (pV [12] h5 o0 10 (.int (v10 + 1))).bind fun h12 =>
      (isC [12] h12 o0).bind fun _ =>
      cN (fS o0 h12) h12 fun v14 h15 =>
      if x3 = 0 then
        f_X12_part_64 fS (f_X12_part_18 fS n) o0 h15
      else
        if v14 = 0 then
          f_X12_part_64 fS (f_X12_part_18 fS n) o0 h15
        else
          f_X12_part_65 fS (f_X12_part_18 fS n) o0 1 h15
    else
      rZ x3 h5
  else
    rZ x3 h
set_option maxHeartbeats 1000000 in
theorem w_X12_part_18 (K : Nat) (hK : 50 ≤ K) {fS : Nat → AH → Option (Int32 × AH)} (hS : ∀ (o0 : Nat) {h : AH} {res : Int32 × AH}, fS o0 h = some res → CM l g yX12_unit cX12_unit 3 (some (.boolean)) K (64 * K) 0 0 [.ref (rfG g o0)] h (some (.int res.1)) res.2) (X : Cx g p s m args meth c cX12_part 5 "TrapCornerModel") (hR : (K + 2) ≤ R.frames ∧ (64 * (K + 2)) ≤ R.locals) (hr : meth.sig.returnType = (some (.boolean))) {res : Int32 × AH} : ∀ (n : Nat) (o0 : Nat) (x3 : Int32) (h : AH) (ls : Array Slot) (H : Heap) (locs : List Loc), f_X12_part_18 fS n o0 x3 h = some res → Iv g s n0 z0 h H locs 0 0 → lv_has ls 5 [(0, .ref (rfG g o0)), (3, .int x3)] → W p l e R s m args below meth c H locs 0 0 (MQ below (QG g (some (.int res.1)) res.2) args s 0 0 (AG g)) (F0 m 18 ls []) := by
  have hx := X.1
  have hb := X.2.1
  intro n
  induction n with
  | zero =>
    intro o0 x3 h ls H locs hf
    rw [f_X12_part_18.eq_1] at hf
    cases hf
  | succ n ih =>
    intro o0 x3 h ls H locs hf I hl
    rw [f_X12_part_18.eq_2] at hf
    refine lv_aload_n hx hb dX12_part_18 rfl (lv_at hl 0 rfl) ?_
    obtain ⟨v1, e2, hf⟩ := Option.bind_eq_some_iff.mp hf
    refine r_gI X I e2 lk_TrapCornerModel_128 dX12_part_19 ?_
    refine lv_iconst (v := (-1)) hx hb dX12_part_22 (by decide) ?_
    refine lv_icmp_ne (tgt := 69) hx hb dX12_part_23 (by decide) (fun c3 => ?_) (fun c3 => ?_)
    · rw [if_neg c3] at hf
      refine lv_iload_n hx hb dX12_part_69 rfl (lv_at hl 1 rfl) ?_
      obtain ⟨hz, rfl⟩ := rZ_spec hf
      exact k_rz X I hr hz dX12_part_70
    · rw [if_pos c3] at hf
      refine lv_aload_n hx hb dX12_part_26 rfl (lv_at hl 0 rfl) ?_
      obtain ⟨_, g8, hf⟩ := Option.bind_eq_some_iff.mp hf
      obtain ⟨v4, h5, e6, z7, hf⟩ := cN_spec hf
      refine k_Vi (As := []) (rest := []) X I (c_X12_look l g o0 e6) z7 g8 vk_TrapCornerModel_138 tw_1484 ⟨by omega, by omega⟩ ⟨Nat.zero_le _, Nat.zero_le _⟩ rfl hl.1 rfl (Nat.le_of_ble_eq_true rfl) dX12_part_27 (fun H locs I => ?_)
      refine lv_bipush (v := 38) hx hb dX12_part_30 (by decide) ?_
      refine lv_icmp_ne (tgt := 69) hx hb dX12_part_32 (by decide) (fun c9 => ?_) (fun c9 => ?_)
      · rw [if_neg c9] at hf
        refine lv_iload_n hx hb dX12_part_69 rfl (lv_at hl 1 rfl) ?_
        obtain ⟨hz, rfl⟩ := rZ_spec hf
        exact k_rz X I hr hz dX12_part_70
      · rw [if_pos c9] at hf
        refine lv_aload_n hx hb dX12_part_35 rfl (lv_at hl 0 rfl) ?_
        refine lv_dup hx hb dX12_part_36 rfl ?_
        obtain ⟨v10, e11, hf⟩ := Option.bind_eq_some_iff.mp hf
        refine r_gI X I e11 lk_TrapCornerModel_119 dX12_part_37 ?_
        refine lv_iconst (v := 1) hx hb dX12_part_40 (by decide) ?_
        refine lv_iadd hx hb dX12_part_41 ?_
        obtain ⟨h12, e13, hf⟩ := Option.bind_eq_some_iff.mp hf
        refine r_pI X I e13 lp_TrapCornerModel_119 dX12_part_42 (fun H locs I => ?_)
        refine lv_aload_n hx hb dX12_part_45 rfl (lv_at hl 0 rfl) ?_
        obtain ⟨_, g18, hf⟩ := Option.bind_eq_some_iff.mp hf
        obtain ⟨v14, h15, e16, z17, hf⟩ := cN_spec hf
        refine k_Vi (As := []) (rest := []) X I (hS o0 e16) z17 g18 vk_TrapCornerModel_184 tw_1605 ⟨by omega, by omega⟩ ⟨Nat.zero_le _, Nat.zero_le _⟩ rfl hl.1 rfl (Nat.le_of_ble_eq_true rfl) dX12_part_46 (fun H locs I => ?_)
        refine lv_istore (lv' := [(4, .int v14), (0, .ref (rfG g o0)), (3, .int x3)]) hx hb dX12_part_49 hl (by decide) rfl (fun ls hl => ?_)
        refine lv_iload_n hx hb dX12_part_51 rfl (lv_at hl 2 rfl) ?_
        refine lv_if_eq (tgt := 64) hx hb dX12_part_52 (by decide) (fun c19 => ?_) (fun c19 => ?_)
        · rw [if_pos c19] at hf
          exact w_X12_part_64 K hK hS X hR hr ih o0 h15 ls H locs hf I (lv_sub hl [1] rfl)
        · rw [if_neg c19] at hf
          refine lv_iload hx hb dX12_part_55 (lv_at hl 0 rfl) ?_
          refine lv_if_eq (tgt := 64) hx hb dX12_part_57 (by decide) (fun c20 => ?_) (fun c20 => ?_)
          · rw [if_pos c20] at hf
            exact w_X12_part_64 K hK hS X hR hr ih o0 h15 ls H locs hf I (lv_sub hl [1] rfl)
          · rw [if_neg c20] at hf
            refine lv_iconst (v := 1) hx hb dX12_part_60 (by decide) ?_
            refine lv_goto (tgt := 65) hx hb dX12_part_61 (by decide) ?_
            exact w_X12_part_65 K hK hS X hR hr ih o0 1 h15 ls H locs hf I (lv_sub hl [1] rfl)
def f_X12_part_17 (fS : Nat → AH → Option (Int32 × AH))  (o0 : Nat) (s0 : Int32) (h : AH) : Option (Int32 × AH) :=
  f_X12_part_18 fS fu o0 s0 h
set_option maxHeartbeats 1000000 in
theorem w_X12_part_17 (K : Nat) (hK : 50 ≤ K) {fS : Nat → AH → Option (Int32 × AH)} (hS : ∀ (o0 : Nat) {h : AH} {res : Int32 × AH}, fS o0 h = some res → CM l g yX12_unit cX12_unit 3 (some (.boolean)) K (64 * K) 0 0 [.ref (rfG g o0)] h (some (.int res.1)) res.2) (X : Cx g p s m args meth c cX12_part 5 "TrapCornerModel") (hR : (K + 2) ≤ R.frames ∧ (64 * (K + 2)) ≤ R.locals) (hr : meth.sig.returnType = (some (.boolean))) {res : Int32 × AH} : ∀ (o0 : Nat) (s0 : Int32) (h : AH) (ls : Array Slot) (H : Heap) (locs : List Loc), f_X12_part_17 fS o0 s0 h = some res → Iv g s n0 z0 h H locs 0 0 → lv_has ls 5 [(0, .ref (rfG g o0))] → W p l e R s m args below meth c H locs 0 0 (MQ below (QG g (some (.int res.1)) res.2) args s 0 0 (AG g)) (F0 m 17 ls [.int s0]) := by
  have hx := X.1
  have hb := X.2.1
  intro o0 s0 h ls H locs hf I hl
  unfold f_X12_part_17 at hf
  refine lv_istore_n (lv' := [(3, .int s0), (0, .ref (rfG g o0))]) hx hb dX12_part_17 rfl hl (by decide) rfl (fun ls hl => ?_)
  exact w_X12_part_18 K hK hS X hR hr fu o0 s0 h ls H locs hf I (lv_sub hl [1, 0] rfl)
def f_X12_part_0 (fS : Nat → AH → Option (Int32 × AH))  (o0 : Nat) (x1 : Int32) (x2 : Int32) (h : AH) : Option (Int32 × AH) :=
  if x1 = 0 then
    (isC [12] h o0).bind fun _ =>
    cN (fS o0 h) h fun v2 h3 =>
    f_X12_part_17 fS o0 v2 h3
  else
    (isC [12] h o0).bind fun _ =>
    cN (f_X12_compares fS o0 1 x2 h) h fun v7 h8 =>
    f_X12_part_17 fS o0 v7 h8
set_option maxHeartbeats 1000000 in
theorem w_X12_part_0 (K : Nat) (hK : 50 ≤ K) {fS : Nat → AH → Option (Int32 × AH)} (hS : ∀ (o0 : Nat) {h : AH} {res : Int32 × AH}, fS o0 h = some res → CM l g yX12_unit cX12_unit 3 (some (.boolean)) K (64 * K) 0 0 [.ref (rfG g o0)] h (some (.int res.1)) res.2) (X : Cx g p s m args meth c cX12_part 5 "TrapCornerModel") (hR : (K + 2) ≤ R.frames ∧ (64 * (K + 2)) ≤ R.locals) (hr : meth.sig.returnType = (some (.boolean))) {res : Int32 × AH} : ∀ (o0 : Nat) (x1 : Int32) (x2 : Int32) (h : AH) (ls : Array Slot) (H : Heap) (locs : List Loc), f_X12_part_0 fS o0 x1 x2 h = some res → Iv g s n0 z0 h H locs 0 0 → lv_has ls 5 [(0, .ref (rfG g o0)), (1, .int x1), (2, .int x2)] → W p l e R s m args below meth c H locs 0 0 (MQ below (QG g (some (.int res.1)) res.2) args s 0 0 (AG g)) (F0 m 0 ls []) := by
  have hx := X.1
  have hb := X.2.1
  intro o0 x1 x2 h ls H locs hf I hl
  unfold f_X12_part_0 at hf
  refine lv_iload_n hx hb dX12_part_0 rfl (lv_at hl 1 rfl) ?_
  refine lv_if_eq (tgt := 13) hx hb dX12_part_1 (by decide) (fun c1 => ?_) (fun c1 => ?_)
  · rw [if_pos c1] at hf
    refine lv_aload_n hx hb dX12_part_13 rfl (lv_at hl 0 rfl) ?_
    obtain ⟨_, g6, hf⟩ := Option.bind_eq_some_iff.mp hf
    obtain ⟨v2, h3, e4, z5, hf⟩ := cN_spec hf
    refine k_Vi (As := []) (rest := []) X I (hS o0 e4) z5 g6 vk_TrapCornerModel_184 tw_1605 ⟨by omega, by omega⟩ ⟨Nat.zero_le _, Nat.zero_le _⟩ rfl hl.1 rfl (Nat.le_of_ble_eq_true rfl) dX12_part_14 (fun H locs I => ?_)
    exact w_X12_part_17 K hK hS X hR hr  o0 v2 h3 ls H locs hf I (lv_sub hl [0] rfl)
  · rw [if_neg c1] at hf
    refine lv_aload_n hx hb dX12_part_4 rfl (lv_at hl 0 rfl) ?_
    refine lv_iconst (v := 1) hx hb dX12_part_5 (by decide) ?_
    refine lv_iload_n hx hb dX12_part_6 rfl (lv_at hl 2 rfl) ?_
    obtain ⟨_, g11, hf⟩ := Option.bind_eq_some_iff.mp hf
    obtain ⟨v7, h8, e9, z10, hf⟩ := cN_spec hf
    refine k_Vi (As := [.int 1, .int x2]) (rest := []) X I (c_X12_compares l g K hK hS o0 1 x2 e9) z10 g11 vk_TrapCornerModel_191 tw_1571 ⟨by omega, by omega⟩ ⟨Nat.zero_le _, Nat.zero_le _⟩ rfl hl.1 rfl (Nat.le_of_ble_eq_true rfl) dX12_part_7 (fun H locs I => ?_)
    refine lv_goto (tgt := 17) hx hb dX12_part_10 (by decide) ?_
    exact w_X12_part_17 K hK hS X hR hr  o0 v7 h8 ls H locs hf I (lv_sub hl [0] rfl)
def f_X12_part (fS : Nat → AH → Option (Int32 × AH)) (o0 : Nat) (x1 : Int32) (x2 : Int32) (h : AH) : Option (Int32 × AH) := f_X12_part_0 fS o0 x1 x2 h
end
theorem c_X12_part (l : Launch) (g : GG) (K : Nat) (hK : 50 ≤ K) {fS : Nat → AH → Option (Int32 × AH)} (hS : ∀ (o0 : Nat) {h : AH} {res : Int32 × AH}, fS o0 h = some res → CM l g yX12_unit cX12_unit 3 (some (.boolean)) K (64 * K) 0 0 [.ref (rfG g o0)] h (some (.int res.1)) res.2) (o0 : Nat) (x1 : Int32) (x2 : Int32) {h : AH} {res : Int32 × AH} (hf : f_X12_part fS o0 x1 x2 h = some res) : CM l g yX12_part cX12_part 5 (some (.boolean)) (K + 2) (64 * (K + 2)) 0 0 [.ref (rfG g o0), .int x1, .int x2] h (some (.int res.1)) res.2 :=
  k_body (by decide) (Nat.le_of_ble_eq_true rfl) (fun p e s m below meth c R ls hR hr X I hl => w_X12_part_0 K hK hS X ⟨Nat.le_of_eq hR.1.symm, Nat.le_of_eq hR.2.1.symm⟩ hr o0 x1 x2 h ls s.heap [] hf I (lv_sub hl [0, 1, 2] rfl))
/-! TrapCornerModel.condition(ZI)Z -/
theorem dX12_condition_0 : decode cX12_condition 0 = .ok (.aload_n 0, 1) := by decide +kernel
theorem dX12_condition_1 : decode cX12_condition 1 = .ok (.iload_n 1, 1) := by decide +kernel
theorem dX12_condition_2 : decode cX12_condition 2 = .ok (.iload_n 2, 1) := by decide +kernel
theorem dX12_condition_3 : decode cX12_condition 3 = .ok (.invokevirtual 194, 3) := by decide +kernel
theorem dX12_condition_6 : decode cX12_condition 6 = .ok (.istore_n 3, 1) := by decide +kernel
theorem dX12_condition_7 : decode cX12_condition 7 = .ok (.aload_n 0, 1) := by decide +kernel
theorem dX12_condition_8 : decode cX12_condition 8 = .ok (.getfield 128, 3) := by decide +kernel
theorem dX12_condition_11 : decode cX12_condition 11 = .ok (.iconst (-1), 1) := by decide +kernel
theorem dX12_condition_12 : decode cX12_condition 12 = .ok (.if_icmp .ne 48, 3) := by decide +kernel
theorem dX12_condition_15 : decode cX12_condition 15 = .ok (.aload_n 0, 1) := by decide +kernel
theorem dX12_condition_16 : decode cX12_condition 16 = .ok (.invokevirtual 138, 3) := by decide +kernel
theorem dX12_condition_19 : decode cX12_condition 19 = .ok (.bipush 124, 2) := by decide +kernel
theorem dX12_condition_21 : decode cX12_condition 21 = .ok (.if_icmp .ne 39, 3) := by decide +kernel
theorem dX12_condition_24 : decode cX12_condition 24 = .ok (.aload_n 0, 1) := by decide +kernel
theorem dX12_condition_25 : decode cX12_condition 25 = .ok (.dup, 1) := by decide +kernel
theorem dX12_condition_26 : decode cX12_condition 26 = .ok (.getfield 119, 3) := by decide +kernel
theorem dX12_condition_29 : decode cX12_condition 29 = .ok (.iconst 1, 1) := by decide +kernel
theorem dX12_condition_30 : decode cX12_condition 30 = .ok (.iadd, 1) := by decide +kernel
theorem dX12_condition_31 : decode cX12_condition 31 = .ok (.putfield 119, 3) := by decide +kernel
theorem dX12_condition_34 : decode cX12_condition 34 = .ok (.aload_n 0, 1) := by decide +kernel
theorem dX12_condition_35 : decode cX12_condition 35 = .ok (.iconst 0, 1) := by decide +kernel
theorem dX12_condition_36 : decode cX12_condition 36 = .ok (.iconst 0, 1) := by decide +kernel
theorem dX12_condition_37 : decode cX12_condition 37 = .ok (.invokevirtual 194, 3) := by decide +kernel
theorem dX12_condition_40 : decode cX12_condition 40 = .ok (.istore 4, 2) := by decide +kernel
theorem dX12_condition_42 : decode cX12_condition 42 = .ok (.iload_n 3, 1) := by decide +kernel
theorem dX12_condition_43 : decode cX12_condition 43 = .ok (.ifCond .ne 8, 3) := by decide +kernel
theorem dX12_condition_46 : decode cX12_condition 46 = .ok (.iload 4, 2) := by decide +kernel
theorem dX12_condition_48 : decode cX12_condition 48 = .ok (.ifCond .eq 7, 3) := by decide +kernel
theorem dX12_condition_51 : decode cX12_condition 51 = .ok (.iconst 1, 1) := by decide +kernel
theorem dX12_condition_52 : decode cX12_condition 52 = .ok (.goto 4, 3) := by decide +kernel
theorem dX12_condition_55 : decode cX12_condition 55 = .ok (.iconst 0, 1) := by decide +kernel
theorem dX12_condition_56 : decode cX12_condition 56 = .ok (.istore_n 3, 1) := by decide +kernel
theorem dX12_condition_57 : decode cX12_condition 57 = .ok (.goto (-50), 3) := by decide +kernel
theorem dX12_condition_60 : decode cX12_condition 60 = .ok (.iload_n 3, 1) := by decide +kernel
theorem dX12_condition_61 : decode cX12_condition 61 = .ok (.ireturn, 1) := by decide +kernel
theorem vk_TrapCornerModel_194 : VK "TrapCornerModel" 194 [12] yX12_part 2 := ⟨tw_1564, tw_1566, tw_13, ⟨by decide, by decide⟩, by decide +kernel, fun ci hci => by
  have hci := List.mem_singleton.mp hci
  subst hci
  exact ⟨_, rfl, tp_67⟩⟩
section
variable {g : GG} {p : Program} {l : Launch} {e : Env} {R : Room} {s : State} {m : MethodId} {args : Array Value} {below : List Frame} {meth : Method} {c : Code} {n0 z0 : Nat}
def f_X12_condition_56 (fS : Nat → AH → Option (Int32 × AH)) (k7 : Nat → Int32 → AH → Option (Int32 × AH)) (o0 : Nat) (s0 : Int32) (h : AH) : Option (Int32 × AH) :=
  k7 o0 s0 h
set_option maxHeartbeats 1000000 in
theorem w_X12_condition_56 (K : Nat) (hK : 50 ≤ K) {fS : Nat → AH → Option (Int32 × AH)} (hS : ∀ (o0 : Nat) {h : AH} {res : Int32 × AH}, fS o0 h = some res → CM l g yX12_unit cX12_unit 3 (some (.boolean)) K (64 * K) 0 0 [.ref (rfG g o0)] h (some (.int res.1)) res.2) (X : Cx g p s m args meth c cX12_condition 5 "TrapCornerModel") (hR : (K + 3) ≤ R.frames ∧ (64 * (K + 3)) ≤ R.locals) (hr : meth.sig.returnType = (some (.boolean))) {res : Int32 × AH} {k7 : Nat → Int32 → AH → Option (Int32 × AH)} (hk7 : ∀ (o0 : Nat) (x3 : Int32) (h : AH) (ls : Array Slot) (H : Heap) (locs : List Loc), k7 o0 x3 h = some res → Iv g s n0 z0 h H locs 0 0 → lv_has ls 5 [(0, .ref (rfG g o0)), (3, .int x3)] → W p l e R s m args below meth c H locs 0 0 (MQ below (QG g (some (.int res.1)) res.2) args s 0 0 (AG g)) (F0 m 7 ls [])) : ∀ (o0 : Nat) (s0 : Int32) (h : AH) (ls : Array Slot) (H : Heap) (locs : List Loc), f_X12_condition_56 fS k7 o0 s0 h = some res → Iv g s n0 z0 h H locs 0 0 → lv_has ls 5 [(0, .ref (rfG g o0))] → W p l e R s m args below meth c H locs 0 0 (MQ below (QG g (some (.int res.1)) res.2) args s 0 0 (AG g)) (F0 m 56 ls [.int s0]) := by
  have hx := X.1
  have hb := X.2.1
  intro o0 s0 h ls H locs hf I hl
  unfold f_X12_condition_56 at hf
  refine lv_istore_n (lv' := [(3, .int s0), (0, .ref (rfG g o0))]) hx hb dX12_condition_56 rfl hl (by decide) rfl (fun ls hl => ?_)
  refine lv_goto (tgt := 7) hx hb dX12_condition_57 (by decide) ?_
  exact hk7 o0 s0 h ls H locs hf I (lv_sub hl [1, 0] rfl)
def f_X12_condition_51 (fS : Nat → AH → Option (Int32 × AH)) (k7 : Nat → Int32 → AH → Option (Int32 × AH)) (o0 : Nat) (h : AH) : Option (Int32 × AH) :=
  f_X12_condition_56 fS k7 o0 1 h
set_option maxHeartbeats 1000000 in
theorem w_X12_condition_51 (K : Nat) (hK : 50 ≤ K) {fS : Nat → AH → Option (Int32 × AH)} (hS : ∀ (o0 : Nat) {h : AH} {res : Int32 × AH}, fS o0 h = some res → CM l g yX12_unit cX12_unit 3 (some (.boolean)) K (64 * K) 0 0 [.ref (rfG g o0)] h (some (.int res.1)) res.2) (X : Cx g p s m args meth c cX12_condition 5 "TrapCornerModel") (hR : (K + 3) ≤ R.frames ∧ (64 * (K + 3)) ≤ R.locals) (hr : meth.sig.returnType = (some (.boolean))) {res : Int32 × AH} {k7 : Nat → Int32 → AH → Option (Int32 × AH)} (hk7 : ∀ (o0 : Nat) (x3 : Int32) (h : AH) (ls : Array Slot) (H : Heap) (locs : List Loc), k7 o0 x3 h = some res → Iv g s n0 z0 h H locs 0 0 → lv_has ls 5 [(0, .ref (rfG g o0)), (3, .int x3)] → W p l e R s m args below meth c H locs 0 0 (MQ below (QG g (some (.int res.1)) res.2) args s 0 0 (AG g)) (F0 m 7 ls [])) : ∀ (o0 : Nat) (h : AH) (ls : Array Slot) (H : Heap) (locs : List Loc), f_X12_condition_51 fS k7 o0 h = some res → Iv g s n0 z0 h H locs 0 0 → lv_has ls 5 [(0, .ref (rfG g o0))] → W p l e R s m args below meth c H locs 0 0 (MQ below (QG g (some (.int res.1)) res.2) args s 0 0 (AG g)) (F0 m 51 ls []) := by
  have hx := X.1
  have hb := X.2.1
  intro o0 h ls H locs hf I hl
  unfold f_X12_condition_51 at hf
  refine lv_iconst (v := 1) hx hb dX12_condition_51 (by decide) ?_
  refine lv_goto (tgt := 56) hx hb dX12_condition_52 (by decide) ?_
  exact w_X12_condition_56 K hK hS X hR hr hk7 o0 1 h ls H locs hf I (lv_sub hl [0] rfl)
def f_X12_condition_7 (fS : Nat → AH → Option (Int32 × AH))  : Nat → Nat → Int32 → AH → Option (Int32 × AH)
  | 0, _, _, _ => none
  | n + 1, o0, x3, h =>
  (gI [12] h o0 11).bind fun v1 =>
  if v1 = ((-1)) then
    (isC [12] h o0).bind fun _ =>
    cN (f_X12_look o0 h) h fun v4 h5 =>
    if v4 = 124 then
      (gI [12] h5 o0 10).bind fun v10 =>
      (pV [12] h5 o0 10 (.int (v10 + 1))).bind fun h12 =>
      (isC [12] h12 o0).bind fun _ =>
      cN (f_X12_part fS o0 0 0 h12) h12 fun v14 h15 =>
      if x3 = 0 then
        if v14 = 0 then
          f_X12_condition_56 fS (f_X12_condition_7 fS n) o0 0 h15
        else
          f_X12_condition_51 fS (f_X12_condition_7 fS n) o0 h15
      else
        f_X12_condition_51 fS (f_X12_condition_7 fS n) o0 h15
    else
      rZ x3 h5
  else
    rZ x3 h
set_option maxHeartbeats 1000000 in
theorem w_X12_condition_7 (K : Nat) (hK : 50 ≤ K) {fS : Nat → AH → Option (Int32 × AH)} (hS : ∀ (o0 : Nat) {h : AH} {res : Int32 × AH}, fS o0 h = some res → CM l g yX12_unit cX12_unit 3 (some (.boolean)) K (64 * K) 0 0 [.ref (rfG g o0)] h (some (.int res.1)) res.2) (X : Cx g p s m args meth c cX12_condition 5 "TrapCornerModel") (hR : (K + 3) ≤ R.frames ∧ (64 * (K + 3)) ≤ R.locals) (hr : meth.sig.returnType = (some (.boolean))) {res : Int32 × AH} : ∀ (n : Nat) (o0 : Nat) (x3 : Int32) (h : AH) (ls : Array Slot) (H : Heap) (locs : List Loc), f_X12_condition_7 fS n o0 x3 h = some res → Iv g s n0 z0 h H locs 0 0 → lv_has ls 5 [(0, .ref (rfG g o0)), (3, .int x3)] → W p l e R s m args below meth c H locs 0 0 (MQ below (QG g (some (.int res.1)) res.2) args s 0 0 (AG g)) (F0 m 7 ls []) := by
  have hx := X.1
  have hb := X.2.1
  intro n
  induction n with
  | zero =>
    intro o0 x3 h ls H locs hf
    rw [f_X12_condition_7.eq_1] at hf
    cases hf
  | succ n ih =>
    intro o0 x3 h ls H locs hf I hl
    rw [f_X12_condition_7.eq_2] at hf
    refine lv_aload_n hx hb dX12_condition_7 rfl (lv_at hl 0 rfl) ?_
    obtain ⟨v1, e2, hf⟩ := Option.bind_eq_some_iff.mp hf
    refine r_gI X I e2 lk_TrapCornerModel_128 dX12_condition_8 ?_
    refine lv_iconst (v := (-1)) hx hb dX12_condition_11 (by decide) ?_
    refine lv_icmp_ne (tgt := 60) hx hb dX12_condition_12 (by decide) (fun c3 => ?_) (fun c3 => ?_)
    · rw [if_neg c3] at hf
      refine lv_iload_n hx hb dX12_condition_60 rfl (lv_at hl 1 rfl) ?_
      obtain ⟨hz, rfl⟩ := rZ_spec hf
      exact k_rz X I hr hz dX12_condition_61
    · rw [if_pos c3] at hf
      refine lv_aload_n hx hb dX12_condition_15 rfl (lv_at hl 0 rfl) ?_
      obtain ⟨_, g8, hf⟩ := Option.bind_eq_some_iff.mp hf
      obtain ⟨v4, h5, e6, z7, hf⟩ := cN_spec hf
      refine k_Vi (As := []) (rest := []) X I (c_X12_look l g o0 e6) z7 g8 vk_TrapCornerModel_138 tw_1484 ⟨by omega, by omega⟩ ⟨Nat.zero_le _, Nat.zero_le _⟩ rfl hl.1 rfl (Nat.le_of_ble_eq_true rfl) dX12_condition_16 (fun H locs I => ?_)
      refine lv_bipush (v := 124) hx hb dX12_condition_19 (by decide) ?_
      refine lv_icmp_ne (tgt := 60) hx hb dX12_condition_21 (by decide) (fun c9 => ?_) (fun c9 => ?_)
      · rw [if_neg c9] at hf
        refine lv_iload_n hx hb dX12_condition_60 rfl (lv_at hl 1 rfl) ?_
        obtain ⟨hz, rfl⟩ := rZ_spec hf
        exact k_rz X I hr hz dX12_condition_61
      · rw [if_pos c9] at hf
        refine lv_aload_n hx hb dX12_condition_24 rfl (lv_at hl 0 rfl) ?_
        refine lv_dup hx hb dX12_condition_25 rfl ?_
        obtain ⟨v10, e11, hf⟩ := Option.bind_eq_some_iff.mp hf
        refine r_gI X I e11 lk_TrapCornerModel_119 dX12_condition_26 ?_
        refine lv_iconst (v := 1) hx hb dX12_condition_29 (by decide) ?_
        refine lv_iadd hx hb dX12_condition_30 ?_
        obtain ⟨h12, e13, hf⟩ := Option.bind_eq_some_iff.mp hf
        refine r_pI X I e13 lp_TrapCornerModel_119 dX12_condition_31 (fun H locs I => ?_)
        refine lv_aload_n hx hb dX12_condition_34 rfl (lv_at hl 0 rfl) ?_
        refine lv_iconst (v := 0) hx hb dX12_condition_35 (by decide) ?_
        refine lv_iconst (v := 0) hx hb dX12_condition_36 (by decide) ?_
        obtain ⟨_, g18, hf⟩ := Option.bind_eq_some_iff.mp hf
        obtain ⟨v14, h15, e16, z17, hf⟩ := cN_spec hf
        refine k_Vi (As := [.int 0, .int 0]) (rest := []) X I (c_X12_part l g K hK hS o0 0 0 e16) z17 g18 vk_TrapCornerModel_194 tw_1567 ⟨by omega, by omega⟩ ⟨Nat.zero_le _, Nat.zero_le _⟩ rfl hl.1 rfl (Nat.le_of_ble_eq_true rfl) dX12_condition_37 (fun H locs I => ?_)
        refine lv_istore (lv' := [(4, .int v14), (0, .ref (rfG g o0)), (3, .int x3)]) hx hb dX12_condition_40 hl (by decide) rfl (fun ls hl => ?_)
        refine lv_iload_n hx hb dX12_condition_42 rfl (lv_at hl 2 rfl) ?_
        refine lv_if_ne (tgt := 51) hx hb dX12_condition_43 (by decide) (fun c19 => ?_) (fun c19 => ?_)
        · rw [if_neg c19] at hf
          exact w_X12_condition_51 K hK hS X hR hr ih o0 h15 ls H locs hf I (lv_sub hl [1] rfl)
        · rw [if_pos c19] at hf
          refine lv_iload hx hb dX12_condition_46 (lv_at hl 0 rfl) ?_
          refine lv_if_eq (tgt := 55) hx hb dX12_condition_48 (by decide) (fun c20 => ?_) (fun c20 => ?_)
          · rw [if_pos c20] at hf
            refine lv_iconst (v := 0) hx hb dX12_condition_55 (by decide) ?_
            exact w_X12_condition_56 K hK hS X hR hr ih o0 0 h15 ls H locs hf I (lv_sub hl [1] rfl)
          · rw [if_neg c20] at hf
            exact w_X12_condition_51 K hK hS X hR hr ih o0 h15 ls H locs hf I (lv_sub hl [1] rfl)
def f_X12_condition_0 (fS : Nat → AH → Option (Int32 × AH))  (o0 : Nat) (x1 : Int32) (x2 : Int32) (h : AH) : Option (Int32 × AH) :=
  (isC [12] h o0).bind fun _ =>
  cN (f_X12_part fS o0 x1 x2 h) h fun v1 h2 =>
  f_X12_condition_7 fS fu o0 v1 h2
set_option maxHeartbeats 1000000 in
theorem w_X12_condition_0 (K : Nat) (hK : 50 ≤ K) {fS : Nat → AH → Option (Int32 × AH)} (hS : ∀ (o0 : Nat) {h : AH} {res : Int32 × AH}, fS o0 h = some res → CM l g yX12_unit cX12_unit 3 (some (.boolean)) K (64 * K) 0 0 [.ref (rfG g o0)] h (some (.int res.1)) res.2) (X : Cx g p s m args meth c cX12_condition 5 "TrapCornerModel") (hR : (K + 3) ≤ R.frames ∧ (64 * (K + 3)) ≤ R.locals) (hr : meth.sig.returnType = (some (.boolean))) {res : Int32 × AH} : ∀ (o0 : Nat) (x1 : Int32) (x2 : Int32) (h : AH) (ls : Array Slot) (H : Heap) (locs : List Loc), f_X12_condition_0 fS o0 x1 x2 h = some res → Iv g s n0 z0 h H locs 0 0 → lv_has ls 5 [(0, .ref (rfG g o0)), (1, .int x1), (2, .int x2)] → W p l e R s m args below meth c H locs 0 0 (MQ below (QG g (some (.int res.1)) res.2) args s 0 0 (AG g)) (F0 m 0 ls []) := by
  have hx := X.1
  have hb := X.2.1
  intro o0 x1 x2 h ls H locs hf I hl
  unfold f_X12_condition_0 at hf
  refine lv_aload_n hx hb dX12_condition_0 rfl (lv_at hl 0 rfl) ?_
  refine lv_iload_n hx hb dX12_condition_1 rfl (lv_at hl 1 rfl) ?_
  refine lv_iload_n hx hb dX12_condition_2 rfl (lv_at hl 2 rfl) ?_
  obtain ⟨_, g5, hf⟩ := Option.bind_eq_some_iff.mp hf
  obtain ⟨v1, h2, e3, z4, hf⟩ := cN_spec hf
  refine k_Vi (As := [.int x1, .int x2]) (rest := []) X I (c_X12_part l g K hK hS o0 x1 x2 e3) z4 g5 vk_TrapCornerModel_194 tw_1567 ⟨by omega, by omega⟩ ⟨Nat.zero_le _, Nat.zero_le _⟩ rfl hl.1 rfl (Nat.le_of_ble_eq_true rfl) dX12_condition_3 (fun H locs I => ?_)
  refine lv_istore_n (lv' := [(3, .int v1), (0, .ref (rfG g o0)), (1, .int x1), (2, .int x2)]) hx hb dX12_condition_6 rfl hl (by decide) rfl (fun ls hl => ?_)
  exact w_X12_condition_7 K hK hS X hR hr fu o0 v1 h2 ls H locs hf I (lv_sub hl [1, 0] rfl)
def f_X12_condition (fS : Nat → AH → Option (Int32 × AH)) (o0 : Nat) (x1 : Int32) (x2 : Int32) (h : AH) : Option (Int32 × AH) := f_X12_condition_0 fS o0 x1 x2 h
end
theorem c_X12_condition (l : Launch) (g : GG) (K : Nat) (hK : 50 ≤ K) {fS : Nat → AH → Option (Int32 × AH)} (hS : ∀ (o0 : Nat) {h : AH} {res : Int32 × AH}, fS o0 h = some res → CM l g yX12_unit cX12_unit 3 (some (.boolean)) K (64 * K) 0 0 [.ref (rfG g o0)] h (some (.int res.1)) res.2) (o0 : Nat) (x1 : Int32) (x2 : Int32) {h : AH} {res : Int32 × AH} (hf : f_X12_condition fS o0 x1 x2 h = some res) : CM l g yX12_condition cX12_condition 5 (some (.boolean)) (K + 3) (64 * (K + 3)) 0 0 [.ref (rfG g o0), .int x1, .int x2] h (some (.int res.1)) res.2 :=
  k_body (by decide) (Nat.le_of_ble_eq_true rfl) (fun p e s m below meth c R ls hR hr X I hl => w_X12_condition_0 K hK hS X ⟨Nat.le_of_eq hR.1.symm, Nat.le_of_eq hR.2.1.symm⟩ hr o0 x1 x2 h ls s.heap [] hf I (lv_sub hl [0, 1, 2] rfl))
/-! TrapCornerModel.unit()Z -/
theorem dX12_unit_0 : decode cX12_unit 0 = .ok (.aload_n 0, 1) := by decide +kernel
theorem dX12_unit_1 : decode cX12_unit 1 = .ok (.invokevirtual 138, 3) := by decide +kernel
theorem dX12_unit_4 : decode cX12_unit 4 = .ok (.istore_n 1, 1) := by decide +kernel
theorem dX12_unit_5 : decode cX12_unit 5 = .ok (.iload_n 1, 1) := by decide +kernel
theorem dX12_unit_6 : decode cX12_unit 6 = .ok (.bipush 33, 2) := by decide +kernel
theorem dX12_unit_8 : decode cX12_unit 8 = .ok (.if_icmp .ne 37, 3) := by decide +kernel
theorem dX12_unit_11 : decode cX12_unit 11 = .ok (.aload_n 0, 1) := by decide +kernel
theorem dX12_unit_12 : decode cX12_unit 12 = .ok (.invokevirtual 158, 3) := by decide +kernel
theorem dX12_unit_15 : decode cX12_unit 15 = .ok (.ifCond .ne 5, 3) := by decide +kernel
theorem dX12_unit_18 : decode cX12_unit 18 = .ok (.iconst 0, 1) := by decide +kernel
theorem dX12_unit_19 : decode cX12_unit 19 = .ok (.ireturn, 1) := by decide +kernel
theorem dX12_unit_20 : decode cX12_unit 20 = .ok (.aload_n 0, 1) := by decide +kernel
theorem dX12_unit_21 : decode cX12_unit 21 = .ok (.invokevirtual 184, 3) := by decide +kernel
theorem dX12_unit_24 : decode cX12_unit 24 = .ok (.istore_n 2, 1) := by decide +kernel
theorem dX12_unit_25 : decode cX12_unit 25 = .ok (.aload_n 0, 1) := by decide +kernel
theorem dX12_unit_26 : decode cX12_unit 26 = .ok (.dup, 1) := by decide +kernel
theorem dX12_unit_27 : decode cX12_unit 27 = .ok (.getfield 131, 3) := by decide +kernel
theorem dX12_unit_30 : decode cX12_unit 30 = .ok (.iconst 1, 1) := by decide +kernel
theorem dX12_unit_31 : decode cX12_unit 31 = .ok (.isub, 1) := by decide +kernel
theorem dX12_unit_32 : decode cX12_unit 32 = .ok (.putfield 131, 3) := by decide +kernel
theorem dX12_unit_35 : decode cX12_unit 35 = .ok (.iload_n 2, 1) := by decide +kernel
theorem dX12_unit_36 : decode cX12_unit 36 = .ok (.ifCond .ne 7, 3) := by decide +kernel
theorem dX12_unit_39 : decode cX12_unit 39 = .ok (.iconst 1, 1) := by decide +kernel
theorem dX12_unit_40 : decode cX12_unit 40 = .ok (.goto 4, 3) := by decide +kernel
theorem dX12_unit_43 : decode cX12_unit 43 = .ok (.iconst 0, 1) := by decide +kernel
theorem dX12_unit_44 : decode cX12_unit 44 = .ok (.ireturn, 1) := by decide +kernel
theorem dX12_unit_45 : decode cX12_unit 45 = .ok (.iload_n 1, 1) := by decide +kernel
theorem dX12_unit_46 : decode cX12_unit 46 = .ok (.bipush 40, 2) := by decide +kernel
theorem dX12_unit_48 : decode cX12_unit 48 = .ok (.if_icmp .ne 42, 3) := by decide +kernel
theorem dX12_unit_51 : decode cX12_unit 51 = .ok (.aload_n 0, 1) := by decide +kernel
theorem dX12_unit_52 : decode cX12_unit 52 = .ok (.invokevirtual 158, 3) := by decide +kernel
theorem dX12_unit_55 : decode cX12_unit 55 = .ok (.ifCond .ne 5, 3) := by decide +kernel
theorem dX12_unit_58 : decode cX12_unit 58 = .ok (.iconst 0, 1) := by decide +kernel
theorem dX12_unit_59 : decode cX12_unit 59 = .ok (.ireturn, 1) := by decide +kernel
theorem dX12_unit_60 : decode cX12_unit 60 = .ok (.aload_n 0, 1) := by decide +kernel
theorem dX12_unit_61 : decode cX12_unit 61 = .ok (.iconst 0, 1) := by decide +kernel
theorem dX12_unit_62 : decode cX12_unit 62 = .ok (.iconst 0, 1) := by decide +kernel
theorem dX12_unit_63 : decode cX12_unit 63 = .ok (.invokevirtual 187, 3) := by decide +kernel
theorem dX12_unit_66 : decode cX12_unit 66 = .ok (.istore_n 2, 1) := by decide +kernel
theorem dX12_unit_67 : decode cX12_unit 67 = .ok (.aload_n 0, 1) := by decide +kernel
theorem dX12_unit_68 : decode cX12_unit 68 = .ok (.bipush 41, 2) := by decide +kernel
theorem dX12_unit_70 : decode cX12_unit 70 = .ok (.invokevirtual 164, 3) := by decide +kernel
theorem dX12_unit_73 : decode cX12_unit 73 = .ok (.ifCond .ne 5, 3) := by decide +kernel
theorem dX12_unit_76 : decode cX12_unit 76 = .ok (.iconst 0, 1) := by decide +kernel
theorem dX12_unit_77 : decode cX12_unit 77 = .ok (.ireturn, 1) := by decide +kernel
theorem dX12_unit_78 : decode cX12_unit 78 = .ok (.aload_n 0, 1) := by decide +kernel
theorem dX12_unit_79 : decode cX12_unit 79 = .ok (.dup, 1) := by decide +kernel
theorem dX12_unit_80 : decode cX12_unit 80 = .ok (.getfield 131, 3) := by decide +kernel
theorem dX12_unit_83 : decode cX12_unit 83 = .ok (.iconst 1, 1) := by decide +kernel
theorem dX12_unit_84 : decode cX12_unit 84 = .ok (.isub, 1) := by decide +kernel
theorem dX12_unit_85 : decode cX12_unit 85 = .ok (.putfield 131, 3) := by decide +kernel
theorem dX12_unit_88 : decode cX12_unit 88 = .ok (.iload_n 2, 1) := by decide +kernel
theorem dX12_unit_89 : decode cX12_unit 89 = .ok (.ireturn, 1) := by decide +kernel
theorem dX12_unit_90 : decode cX12_unit 90 = .ok (.aload_n 0, 1) := by decide +kernel
theorem dX12_unit_91 : decode cX12_unit 91 = .ok (.iconst 0, 1) := by decide +kernel
theorem dX12_unit_92 : decode cX12_unit 92 = .ok (.iconst 0, 1) := by decide +kernel
theorem dX12_unit_93 : decode cX12_unit 93 = .ok (.invokevirtual 191, 3) := by decide +kernel
theorem dX12_unit_96 : decode cX12_unit 96 = .ok (.ireturn, 1) := by decide +kernel
theorem vk_TrapCornerModel_187 : VK "TrapCornerModel" 187 [12] yX12_condition 2 := ⟨tw_1560, tw_1562, tw_13, ⟨by decide, by decide⟩, by decide +kernel, fun ci hci => by
  have hci := List.mem_singleton.mp hci
  subst hci
  exact ⟨_, rfl, tp_66⟩⟩
section
variable {g : GG} {p : Program} {l : Launch} {e : Env} {R : Room} {s : State} {m : MethodId} {args : Array Value} {below : List Frame} {meth : Method} {c : Code} {n0 z0 : Nat}
def f_X12_unit_0 (fS : Nat → AH → Option (Int32 × AH))  (o0 : Nat) (h : AH) : Option (Int32 × AH) :=
  (isC [12] h o0).bind fun _ =>
  cN (f_X12_look o0 h) h fun v1 h2 =>
  if v1 = 33 then
    (isC [12] h2 o0).bind fun _ =>
    cN (f_X12_goesIn o0 h2) h2 fun v34 h35 =>
    if v34 = 0 then
      some (0, h35)
    else
      (isC [12] h35 o0).bind fun _ =>
      cN (fS o0 h35) h35 fun v40 h41 =>
      (gI [12] h41 o0 12).bind fun v45 =>
      (pV [12] h41 o0 12 (.int (v45 - 1))).bind fun h47 =>
      if v40 = 0 then
        some (1, h47)
      else
        some (0, h47)
  else
    if v1 = 40 then
      (isC [12] h2 o0).bind fun _ =>
      cN (f_X12_goesIn o0 h2) h2 fun v13 h14 =>
      if v13 = 0 then
        some (0, h14)
      else
        (isC [12] h14 o0).bind fun _ =>
        cN (f_X12_condition fS o0 0 0 h14) h14 fun v19 h20 =>
        (isC [12] h20 o0).bind fun _ =>
        cN (f_X12_takes o0 41 h20) h20 fun v24 h25 =>
        if v24 = 0 then
          some (0, h25)
        else
          (gI [12] h25 o0 12).bind fun v30 =>
          (pV [12] h25 o0 12 (.int (v30 - 1))).bind fun h32 =>
          rZ v19 h32
    else
      (isC [12] h2 o0).bind fun _ =>
      cN (f_X12_compares fS o0 0 0 h2) h2 fun v8 h9 =>
      rZ v8 h9
set_option maxHeartbeats 1000000 in
theorem w_X12_unit_0 (K : Nat) (hK : 50 ≤ K) {fS : Nat → AH → Option (Int32 × AH)} (hS : ∀ (o0 : Nat) {h : AH} {res : Int32 × AH}, fS o0 h = some res → CM l g yX12_unit cX12_unit 3 (some (.boolean)) K (64 * K) 0 0 [.ref (rfG g o0)] h (some (.int res.1)) res.2) (X : Cx g p s m args meth c cX12_unit 3 "TrapCornerModel") (hR : (K + 4) ≤ R.frames ∧ (64 * (K + 4)) ≤ R.locals) (hr : meth.sig.returnType = (some (.boolean))) {res : Int32 × AH} : ∀ (o0 : Nat) (h : AH) (ls : Array Slot) (H : Heap) (locs : List Loc), f_X12_unit_0 fS o0 h = some res → Iv g s n0 z0 h H locs 0 0 → lv_has ls 3 [(0, .ref (rfG g o0))] → W p l e R s m args below meth c H locs 0 0 (MQ below (QG g (some (.int res.1)) res.2) args s 0 0 (AG g)) (F0 m 0 ls []) := by
  have hx := X.1
  have hb := X.2.1
  intro o0 h ls H locs hf I hl
  unfold f_X12_unit_0 at hf
  refine lv_aload_n hx hb dX12_unit_0 rfl (lv_at hl 0 rfl) ?_
  obtain ⟨_, g5, hf⟩ := Option.bind_eq_some_iff.mp hf
  obtain ⟨v1, h2, e3, z4, hf⟩ := cN_spec hf
  refine k_Vi (As := []) (rest := []) X I (c_X12_look l g o0 e3) z4 g5 vk_TrapCornerModel_138 tw_1484 ⟨by omega, by omega⟩ ⟨Nat.zero_le _, Nat.zero_le _⟩ rfl hl.1 rfl (Nat.le_of_ble_eq_true rfl) dX12_unit_1 (fun H locs I => ?_)
  refine lv_istore_n (lv' := [(1, .int v1), (0, .ref (rfG g o0))]) hx hb dX12_unit_4 rfl hl (by decide) rfl (fun ls hl => ?_)
  refine lv_iload_n hx hb dX12_unit_5 rfl (lv_at hl 0 rfl) ?_
  refine lv_bipush (v := 33) hx hb dX12_unit_6 (by decide) ?_
  refine lv_icmp_ne (tgt := 45) hx hb dX12_unit_8 (by decide) (fun c6 => ?_) (fun c6 => ?_)
  · rw [if_neg c6] at hf
    refine lv_iload_n hx hb dX12_unit_45 rfl (lv_at hl 0 rfl) ?_
    refine lv_bipush (v := 40) hx hb dX12_unit_46 (by decide) ?_
    refine lv_icmp_ne (tgt := 90) hx hb dX12_unit_48 (by decide) (fun c7 => ?_) (fun c7 => ?_)
    · rw [if_neg c7] at hf
      refine lv_aload_n hx hb dX12_unit_90 rfl (lv_at hl 1 rfl) ?_
      refine lv_iconst (v := 0) hx hb dX12_unit_91 (by decide) ?_
      refine lv_iconst (v := 0) hx hb dX12_unit_92 (by decide) ?_
      obtain ⟨_, g12, hf⟩ := Option.bind_eq_some_iff.mp hf
      obtain ⟨v8, h9, e10, z11, hf⟩ := cN_spec hf
      refine k_Vi (As := [.int 0, .int 0]) (rest := []) X I (c_X12_compares l g K hK hS o0 0 0 e10) z11 g12 vk_TrapCornerModel_191 tw_1571 ⟨by omega, by omega⟩ ⟨Nat.zero_le _, Nat.zero_le _⟩ rfl hl.1 rfl (Nat.le_of_ble_eq_true rfl) dX12_unit_93 (fun H locs I => ?_)
      obtain ⟨hz, rfl⟩ := rZ_spec hf
      exact k_rz X I hr hz dX12_unit_96
    · rw [if_pos c7] at hf
      refine lv_aload_n hx hb dX12_unit_51 rfl (lv_at hl 1 rfl) ?_
      obtain ⟨_, g17, hf⟩ := Option.bind_eq_some_iff.mp hf
      obtain ⟨v13, h14, e15, z16, hf⟩ := cN_spec hf
      refine k_Vi (As := []) (rest := []) X I (c_X12_goesIn l g o0 e15) z16 g17 vk_TrapCornerModel_158 tw_1587 ⟨by omega, by omega⟩ ⟨Nat.zero_le _, Nat.zero_le _⟩ rfl hl.1 rfl (Nat.le_of_ble_eq_true rfl) dX12_unit_52 (fun H locs I => ?_)
      refine lv_if_ne (tgt := 60) hx hb dX12_unit_55 (by decide) (fun c18 => ?_) (fun c18 => ?_)
      · rw [if_neg c18] at hf
        refine lv_aload_n hx hb dX12_unit_60 rfl (lv_at hl 1 rfl) ?_
        refine lv_iconst (v := 0) hx hb dX12_unit_61 (by decide) ?_
        refine lv_iconst (v := 0) hx hb dX12_unit_62 (by decide) ?_
        obtain ⟨_, g23, hf⟩ := Option.bind_eq_some_iff.mp hf
        obtain ⟨v19, h20, e21, z22, hf⟩ := cN_spec hf
        refine k_Vi (As := [.int 0, .int 0]) (rest := []) X I (c_X12_condition l g K hK hS o0 0 0 e21) z22 g23 vk_TrapCornerModel_187 tw_1563 ⟨by omega, by omega⟩ ⟨Nat.zero_le _, Nat.zero_le _⟩ rfl hl.1 rfl (Nat.le_of_ble_eq_true rfl) dX12_unit_63 (fun H locs I => ?_)
        refine lv_istore_n (lv' := [(2, .int v19), (1, .int v1), (0, .ref (rfG g o0))]) hx hb dX12_unit_66 rfl hl (by decide) rfl (fun ls hl => ?_)
        refine lv_aload_n hx hb dX12_unit_67 rfl (lv_at hl 2 rfl) ?_
        refine lv_bipush (v := 41) hx hb dX12_unit_68 (by decide) ?_
        obtain ⟨_, g28, hf⟩ := Option.bind_eq_some_iff.mp hf
        obtain ⟨v24, h25, e26, z27, hf⟩ := cN_spec hf
        refine k_Vi (As := [.int 41]) (rest := []) X I (c_X12_takes l g o0 41 e26) z27 g28 vk_TrapCornerModel_164 tw_1559 ⟨by omega, by omega⟩ ⟨Nat.zero_le _, Nat.zero_le _⟩ rfl hl.1 rfl (Nat.le_of_ble_eq_true rfl) dX12_unit_70 (fun H locs I => ?_)
        refine lv_if_ne (tgt := 78) hx hb dX12_unit_73 (by decide) (fun c29 => ?_) (fun c29 => ?_)
        · rw [if_neg c29] at hf
          refine lv_aload_n hx hb dX12_unit_78 rfl (lv_at hl 2 rfl) ?_
          refine lv_dup hx hb dX12_unit_79 rfl ?_
          obtain ⟨v30, e31, hf⟩ := Option.bind_eq_some_iff.mp hf
          refine r_gI X I e31 lk_TrapCornerModel_131 dX12_unit_80 ?_
          refine lv_iconst (v := 1) hx hb dX12_unit_83 (by decide) ?_
          refine lv_isub hx hb dX12_unit_84 ?_
          obtain ⟨h32, e33, hf⟩ := Option.bind_eq_some_iff.mp hf
          refine r_pI X I e33 lp_TrapCornerModel_131 dX12_unit_85 (fun H locs I => ?_)
          refine lv_iload_n hx hb dX12_unit_88 rfl (lv_at hl 0 rfl) ?_
          obtain ⟨hz, rfl⟩ := rZ_spec hf
          exact k_rz X I hr hz dX12_unit_89
        · rw [if_pos c29] at hf
          refine lv_iconst (v := 0) hx hb dX12_unit_76 (by decide) ?_
          cases hf
          exact k_rz X I hr (Or.inl rfl) dX12_unit_77
      · rw [if_pos c18] at hf
        refine lv_iconst (v := 0) hx hb dX12_unit_58 (by decide) ?_
        cases hf
        exact k_rz X I hr (Or.inl rfl) dX12_unit_59
  · rw [if_pos c6] at hf
    refine lv_aload_n hx hb dX12_unit_11 rfl (lv_at hl 1 rfl) ?_
    obtain ⟨_, g38, hf⟩ := Option.bind_eq_some_iff.mp hf
    obtain ⟨v34, h35, e36, z37, hf⟩ := cN_spec hf
    refine k_Vi (As := []) (rest := []) X I (c_X12_goesIn l g o0 e36) z37 g38 vk_TrapCornerModel_158 tw_1587 ⟨by omega, by omega⟩ ⟨Nat.zero_le _, Nat.zero_le _⟩ rfl hl.1 rfl (Nat.le_of_ble_eq_true rfl) dX12_unit_12 (fun H locs I => ?_)
    refine lv_if_ne (tgt := 20) hx hb dX12_unit_15 (by decide) (fun c39 => ?_) (fun c39 => ?_)
    · rw [if_neg c39] at hf
      refine lv_aload_n hx hb dX12_unit_20 rfl (lv_at hl 1 rfl) ?_
      obtain ⟨_, g44, hf⟩ := Option.bind_eq_some_iff.mp hf
      obtain ⟨v40, h41, e42, z43, hf⟩ := cN_spec hf
      refine k_Vi (As := []) (rest := []) X I (hS o0 e42) z43 g44 vk_TrapCornerModel_184 tw_1605 ⟨by omega, by omega⟩ ⟨Nat.zero_le _, Nat.zero_le _⟩ rfl hl.1 rfl (Nat.le_of_ble_eq_true rfl) dX12_unit_21 (fun H locs I => ?_)
      refine lv_istore_n (lv' := [(2, .int v40), (1, .int v1), (0, .ref (rfG g o0))]) hx hb dX12_unit_24 rfl hl (by decide) rfl (fun ls hl => ?_)
      refine lv_aload_n hx hb dX12_unit_25 rfl (lv_at hl 2 rfl) ?_
      refine lv_dup hx hb dX12_unit_26 rfl ?_
      obtain ⟨v45, e46, hf⟩ := Option.bind_eq_some_iff.mp hf
      refine r_gI X I e46 lk_TrapCornerModel_131 dX12_unit_27 ?_
      refine lv_iconst (v := 1) hx hb dX12_unit_30 (by decide) ?_
      refine lv_isub hx hb dX12_unit_31 ?_
      obtain ⟨h47, e48, hf⟩ := Option.bind_eq_some_iff.mp hf
      refine r_pI X I e48 lp_TrapCornerModel_131 dX12_unit_32 (fun H locs I => ?_)
      refine lv_iload_n hx hb dX12_unit_35 rfl (lv_at hl 0 rfl) ?_
      refine lv_if_ne (tgt := 43) hx hb dX12_unit_36 (by decide) (fun c49 => ?_) (fun c49 => ?_)
      · rw [if_neg c49] at hf
        refine lv_iconst (v := 0) hx hb dX12_unit_43 (by decide) ?_
        cases hf
        exact k_rz X I hr (Or.inl rfl) dX12_unit_44
      · rw [if_pos c49] at hf
        refine lv_iconst (v := 1) hx hb dX12_unit_39 (by decide) ?_
        refine lv_goto (tgt := 44) hx hb dX12_unit_40 (by decide) ?_
        cases hf
        exact k_rz X I hr (Or.inr rfl) dX12_unit_44
    · rw [if_pos c39] at hf
      refine lv_iconst (v := 0) hx hb dX12_unit_18 (by decide) ?_
      cases hf
      exact k_rz X I hr (Or.inl rfl) dX12_unit_19
def f_X12_unit (fS : Nat → AH → Option (Int32 × AH)) (o0 : Nat) (h : AH) : Option (Int32 × AH) := f_X12_unit_0 fS o0 h
end
theorem c_X12_unit (l : Launch) (g : GG) (K : Nat) (hK : 50 ≤ K) {fS : Nat → AH → Option (Int32 × AH)} (hS : ∀ (o0 : Nat) {h : AH} {res : Int32 × AH}, fS o0 h = some res → CM l g yX12_unit cX12_unit 3 (some (.boolean)) K (64 * K) 0 0 [.ref (rfG g o0)] h (some (.int res.1)) res.2) (o0 : Nat) {h : AH} {res : Int32 × AH} (hf : f_X12_unit fS o0 h = some res) : CM l g yX12_unit cX12_unit 3 (some (.boolean)) (K + 4) (64 * (K + 4)) 0 0 [.ref (rfG g o0)] h (some (.int res.1)) res.2 :=
  k_body (by decide) (Nat.le_of_ble_eq_true rfl) (fun p e s m below meth c R ls hR hr X I hl => w_X12_unit_0 K hK hS X ⟨Nat.le_of_eq hR.1.symm, Nat.le_of_eq hR.2.1.symm⟩ hr o0 h ls s.heap [] hf I (lv_sub hl [0] rfl))
def r_X12_unit : Nat → Nat → AH → Option (Int32 × AH)
  | 0, _, _ => none
  | d + 1, o0, h => f_X12_unit (r_X12_unit d) o0 h
theorem cr_X12_unit (l : Launch) (g : GG) (d : Nat) : ∀ (o0 : Nat) {h : AH} {res : Int32 × AH}, r_X12_unit d o0 h = some res → CM l g yX12_unit cX12_unit 3 (some (.boolean)) (50 + 4 * d) (64 * (50 + 4 * d)) 0 0 [.ref (rfG g o0)] h (some (.int res.1)) res.2 := by
  induction d with
  | zero =>
    intro o0 h res hf
    rw [r_X12_unit.eq_1] at hf
    cases hf
  | succ d ih =>
    intro o0 h res hf
    rw [r_X12_unit.eq_2] at hf
    have h9 := c_X12_unit l g (50 + 4 * d) (by omega) ih o0 hf
    have e9 : 50 + 4 * (d + 1) = 50 + 4 * d + 4 := by omega
    rw [e9]
    exact h9
def fc_X12_compares (o0 : Nat) (x1 : Int32) (x2 : Int32) (h : AH) : Option (Int32 × AH) := f_X12_compares (r_X12_unit 8) o0 x1 x2 h
theorem cc_X12_compares (l : Launch) (g : GG) (o0 : Nat) (x1 : Int32) (x2 : Int32) {h : AH} {res : Int32 × AH} (hf : fc_X12_compares o0 x1 x2 h = some res) : CM l g yX12_compares cX12_compares 6 (some (.boolean)) 83 5312 0 0 [.ref (rfG g o0), .int x1, .int x2] h (some (.int res.1)) res.2 := c_X12_compares l g 82 (by decide) (cr_X12_unit l g 8) o0 x1 x2 hf
def fc_X12_part (o0 : Nat) (x1 : Int32) (x2 : Int32) (h : AH) : Option (Int32 × AH) := f_X12_part (r_X12_unit 8) o0 x1 x2 h
theorem cc_X12_part (l : Launch) (g : GG) (o0 : Nat) (x1 : Int32) (x2 : Int32) {h : AH} {res : Int32 × AH} (hf : fc_X12_part o0 x1 x2 h = some res) : CM l g yX12_part cX12_part 5 (some (.boolean)) 84 5376 0 0 [.ref (rfG g o0), .int x1, .int x2] h (some (.int res.1)) res.2 := c_X12_part l g 82 (by decide) (cr_X12_unit l g 8) o0 x1 x2 hf
def fc_X12_condition (o0 : Nat) (x1 : Int32) (x2 : Int32) (h : AH) : Option (Int32 × AH) := f_X12_condition (r_X12_unit 8) o0 x1 x2 h
theorem cc_X12_condition (l : Launch) (g : GG) (o0 : Nat) (x1 : Int32) (x2 : Int32) {h : AH} {res : Int32 × AH} (hf : fc_X12_condition o0 x1 x2 h = some res) : CM l g yX12_condition cX12_condition 5 (some (.boolean)) 85 5440 0 0 [.ref (rfG g o0), .int x1, .int x2] h (some (.int res.1)) res.2 := c_X12_condition l g 82 (by decide) (cr_X12_unit l g 8) o0 x1 x2 hf
def fc_X12_unit (o0 : Nat) (h : AH) : Option (Int32 × AH) := r_X12_unit 8 o0 h
theorem cc_X12_unit (l : Launch) (g : GG) (o0 : Nat) {h : AH} {res : Int32 × AH} (hf : fc_X12_unit o0 h = some res) : CM l g yX12_unit cX12_unit 3 (some (.boolean)) 82 5248 0 0 [.ref (rfG g o0)] h (some (.int res.1)) res.2 := cr_X12_unit l g 8 o0 hf
