/-! TrapCornerModel.count(I)I -/
theorem dX12_count_0 : decode cX12_count 0 = .ok (.aload_n 0, 1) := by decide +kernel
theorem dX12_count_1 : decode cX12_count 1 = .ok (.iconst 0, 1) := by decide +kernel
theorem dX12_count_2 : decode cX12_count 2 = .ok (.putfield 96, 3) := by decide +kernel
theorem dX12_count_5 : decode cX12_count 5 = .ok (.iload_n 1, 1) := by decide +kernel
theorem dX12_count_6 : decode cX12_count 6 = .ok (.tableswitch 169 0 12 #[66, 71, 76, 81, 86, 91, 96, 104, 136, 146, 151, 156, 164], 66) := by decide +kernel
theorem dX12_count_72 : decode cX12_count 72 = .ok (.aload_n 0, 1) := by decide +kernel
theorem dX12_count_73 : decode cX12_count 73 = .ok (.getfield 297, 3) := by decide +kernel
theorem dX12_count_76 : decode cX12_count 76 = .ok (.ireturn, 1) := by decide +kernel
theorem dX12_count_77 : decode cX12_count 77 = .ok (.aload_n 0, 1) := by decide +kernel
theorem dX12_count_78 : decode cX12_count 78 = .ok (.getfield 294, 3) := by decide +kernel
theorem dX12_count_81 : decode cX12_count 81 = .ok (.ireturn, 1) := by decide +kernel
theorem dX12_count_82 : decode cX12_count 82 = .ok (.aload_n 0, 1) := by decide +kernel
theorem dX12_count_83 : decode cX12_count 83 = .ok (.getfield 286, 3) := by decide +kernel
theorem dX12_count_86 : decode cX12_count 86 = .ok (.ireturn, 1) := by decide +kernel
theorem dX12_count_87 : decode cX12_count 87 = .ok (.aload_n 0, 1) := by decide +kernel
theorem dX12_count_88 : decode cX12_count 88 = .ok (.getfield 289, 3) := by decide +kernel
theorem dX12_count_91 : decode cX12_count 91 = .ok (.ireturn, 1) := by decide +kernel
theorem dX12_count_92 : decode cX12_count 92 = .ok (.aload_n 0, 1) := by decide +kernel
theorem dX12_count_93 : decode cX12_count 93 = .ok (.getfield 109, 3) := by decide +kernel
theorem dX12_count_96 : decode cX12_count 96 = .ok (.ireturn, 1) := by decide +kernel
theorem dX12_count_97 : decode cX12_count 97 = .ok (.aload_n 0, 1) := by decide +kernel
theorem dX12_count_98 : decode cX12_count 98 = .ok (.getfield 67, 3) := by decide +kernel
theorem dX12_count_101 : decode cX12_count 101 = .ok (.ireturn, 1) := by decide +kernel
theorem dX12_count_102 : decode cX12_count 102 = .ok (.aload_n 0, 1) := by decide +kernel
theorem dX12_count_103 : decode cX12_count 103 = .ok (.getfield 61, 3) := by decide +kernel
theorem dX12_count_106 : decode cX12_count 106 = .ok (.bipush 30, 2) := by decide +kernel
theorem dX12_count_108 : decode cX12_count 108 = .ok (.iaload, 1) := by decide +kernel
theorem dX12_count_109 : decode cX12_count 109 = .ok (.ireturn, 1) := by decide +kernel
theorem dX12_count_110 : decode cX12_count 110 = .ok (.iconst 0, 1) := by decide +kernel
theorem dX12_count_111 : decode cX12_count 111 = .ok (.istore_n 2, 1) := by decide +kernel
theorem dX12_count_112 : decode cX12_count 112 = .ok (.iconst 0, 1) := by decide +kernel
theorem dX12_count_113 : decode cX12_count 113 = .ok (.istore_n 3, 1) := by decide +kernel
theorem dX12_count_114 : decode cX12_count 114 = .ok (.iload_n 3, 1) := by decide +kernel
theorem dX12_count_115 : decode cX12_count 115 = .ok (.aload_n 0, 1) := by decide +kernel
theorem dX12_count_116 : decode cX12_count 116 = .ok (.getfield 297, 3) := by decide +kernel
theorem dX12_count_119 : decode cX12_count 119 = .ok (.if_icmp .ge 21, 3) := by decide +kernel
theorem dX12_count_122 : decode cX12_count 122 = .ok (.iload_n 2, 1) := by decide +kernel
theorem dX12_count_123 : decode cX12_count 123 = .ok (.aload_n 0, 1) := by decide +kernel
theorem dX12_count_124 : decode cX12_count 124 = .ok (.getfield 61, 3) := by decide +kernel
theorem dX12_count_127 : decode cX12_count 127 = .ok (.iload_n 3, 1) := by decide +kernel
theorem dX12_count_128 : decode cX12_count 128 = .ok (.iconst 1, 1) := by decide +kernel
theorem dX12_count_129 : decode cX12_count 129 = .ok (.invokestatic 328, 3) := by decide +kernel
theorem dX12_count_132 : decode cX12_count 132 = .ok (.iadd, 1) := by decide +kernel
theorem dX12_count_133 : decode cX12_count 133 = .ok (.istore_n 2, 1) := by decide +kernel
theorem dX12_count_134 : decode cX12_count 134 = .ok (.iinc 3 1, 3) := by decide +kernel
theorem dX12_count_137 : decode cX12_count 137 = .ok (.goto (-23), 3) := by decide +kernel
theorem dX12_count_140 : decode cX12_count 140 = .ok (.iload_n 2, 1) := by decide +kernel
theorem dX12_count_141 : decode cX12_count 141 = .ok (.ireturn, 1) := by decide +kernel
theorem dX12_count_142 : decode cX12_count 142 = .ok (.aload_n 0, 1) := by decide +kernel
theorem dX12_count_143 : decode cX12_count 143 = .ok (.getfield 61, 3) := by decide +kernel
theorem dX12_count_146 : decode cX12_count 146 = .ok (.bipush 28, 2) := by decide +kernel
theorem dX12_count_148 : decode cX12_count 148 = .ok (.iaload, 1) := by decide +kernel
theorem dX12_count_149 : decode cX12_count 149 = .ok (.iconst 1, 1) := by decide +kernel
theorem dX12_count_150 : decode cX12_count 150 = .ok (.isub, 1) := by decide +kernel
theorem dX12_count_151 : decode cX12_count 151 = .ok (.ireturn, 1) := by decide +kernel
theorem dX12_count_152 : decode cX12_count 152 = .ok (.aload_n 0, 1) := by decide +kernel
theorem dX12_count_153 : decode cX12_count 153 = .ok (.getfield 71, 3) := by decide +kernel
theorem dX12_count_156 : decode cX12_count 156 = .ok (.ireturn, 1) := by decide +kernel
theorem dX12_count_157 : decode cX12_count 157 = .ok (.aload_n 0, 1) := by decide +kernel
theorem dX12_count_158 : decode cX12_count 158 = .ok (.getfield 300, 3) := by decide +kernel
theorem dX12_count_161 : decode cX12_count 161 = .ok (.ireturn, 1) := by decide +kernel
theorem dX12_count_162 : decode cX12_count 162 = .ok (.aload_n 0, 1) := by decide +kernel
theorem dX12_count_163 : decode cX12_count 163 = .ok (.getfield 61, 3) := by decide +kernel
theorem dX12_count_166 : decode cX12_count 166 = .ok (.bipush 31, 2) := by decide +kernel
theorem dX12_count_168 : decode cX12_count 168 = .ok (.iaload, 1) := by decide +kernel
theorem dX12_count_169 : decode cX12_count 169 = .ok (.ireturn, 1) := by decide +kernel
theorem dX12_count_170 : decode cX12_count 170 = .ok (.aload_n 0, 1) := by decide +kernel
theorem dX12_count_171 : decode cX12_count 171 = .ok (.getfield 303, 3) := by decide +kernel
theorem dX12_count_174 : decode cX12_count 174 = .ok (.ireturn, 1) := by decide +kernel
theorem dX12_count_175 : decode cX12_count 175 = .ok (.ldc_w 434, 3) := by decide +kernel
theorem dX12_count_178 : decode cX12_count 178 = .ok (.ireturn, 1) := by decide +kernel
theorem lk_TrapCornerModel_67 : LK "TrapCornerModel" 67 [12] 34 := by
  intro ci hci
  have hci := List.mem_singleton.mp hci
  subst hci
  exact ⟨RX12, TX12, 50, "TrapCornerModel", ck_12, by decide, tw_1321, Or.inl rfl⟩
section
variable {g : GG} {p : Program} {l : Launch} {e : Env} {R : Room} {s : State} {m : MethodId} {args : Array Value} {below : List Frame} {meth : Method} {c : Code} {n0 z0 : Nat}
def f_X12_count_114  : Nat → Nat → Int32 → Int32 → AH → Option (Int32 × AH)
  | 0, _, _, _, _ => none
  | n + 1, o0, x2, x3, h =>
  (gI [12] h o0 27).bind fun v1 =>
  if v1 ≤ x3 then
    some (x2, h)
  else
    (gR [12] h o0 32).bind fun v4 =>
    cN (f_X12_folk v4 x3 1 h) h fun v6 h7 =>
    f_X12_count_114  n o0 (x2 + v6) (x3 + 1) h7
set_option maxHeartbeats 1000000 in
theorem w_X12_count_114 (X : Cx g p s m args meth c cX12_count 4 "TrapCornerModel") (hR : 2 ≤ R.frames ∧ 128 ≤ R.locals) (hr : meth.sig.returnType = (some (.int))) {res : Int32 × AH} : ∀ (n : Nat) (o0 : Nat) (x2 : Int32) (x3 : Int32) (h : AH) (ls : Array Slot) (H : Heap) (locs : List Loc), f_X12_count_114 n o0 x2 x3 h = some res → Iv g s n0 z0 h H locs 0 0 → lv_has ls 4 [(0, .ref (rfG g o0)), (2, .int x2), (3, .int x3)] → W p l e R s m args below meth c H locs 0 0 (MQ below (QG g (some (.int res.1)) res.2) args s 0 0 (AG g)) (F0 m 114 ls []) := by
  have hx := X.1
  have hb := X.2.1
  intro n
  induction n with
  | zero =>
    intro o0 x2 x3 h ls H locs hf
    rw [f_X12_count_114.eq_1] at hf
    cases hf
  | succ n ih =>
    intro o0 x2 x3 h ls H locs hf I hl
    rw [f_X12_count_114.eq_2] at hf
    refine lv_iload_n hx hb dX12_count_114 rfl (lv_at hl 2 rfl) ?_
    refine lv_aload_n hx hb dX12_count_115 rfl (lv_at hl 0 rfl) ?_
    obtain ⟨v1, e2, hf⟩ := Option.bind_eq_some_iff.mp hf
    refine r_gI X I e2 lk_TrapCornerModel_297 dX12_count_116 ?_
    refine lv_icmp_ge (tgt := 140) hx hb dX12_count_119 (by decide) (fun c3 => ?_) (fun c3 => ?_)
    · rw [if_pos c3] at hf
      refine lv_iload_n hx hb dX12_count_140 rfl (lv_at hl 1 rfl) ?_
      cases hf
      exact k_ri X I hr dX12_count_141
    · rw [if_neg c3] at hf
      refine lv_iload_n hx hb dX12_count_122 rfl (lv_at hl 1 rfl) ?_
      refine lv_aload_n hx hb dX12_count_123 rfl (lv_at hl 0 rfl) ?_
      obtain ⟨v4, e5, hf⟩ := Option.bind_eq_some_iff.mp hf
      refine r_gR X I e5 lk_TrapCornerModel_61 dX12_count_124 ?_
      refine lv_iload_n hx hb dX12_count_127 rfl (lv_at hl 2 rfl) ?_
      refine lv_iconst (v := 1) hx hb dX12_count_128 (by decide) ?_
      obtain ⟨v6, h7, e8, z9, hf⟩ := cN_spec hf
      refine k_Si (As := [.ref (rfG g v4), .int x3, .int 1]) (rest := [.int x2]) X I (c_X12_folk l g v4 x3 1 e8) z9 sk_TrapCornerModel_328 tw_1647 ⟨Nat.le_trans (by decide) hR.1, Nat.le_trans (by decide) hR.2⟩ ⟨Nat.zero_le _, Nat.zero_le _⟩ rfl hl.1 rfl (Nat.le_of_ble_eq_true rfl) dX12_count_129 (fun H locs I => ?_)
      refine lv_iadd hx hb dX12_count_132 ?_
      refine lv_istore_n (lv' := [(2, .int (x2 + v6)), (0, .ref (rfG g o0)), (3, .int x3)]) hx hb dX12_count_133 rfl hl (by decide) rfl (fun ls hl => ?_)
      refine lv_iinc (v := x3 + 1) (lv' := [(3, .int (x3 + 1)), (2, .int (x2 + v6)), (0, .ref (rfG g o0))]) hx hb dX12_count_134 hl (k := 2) rfl rfl (by decide) rfl (fun ls hl => ?_)
      refine lv_goto (tgt := 114) hx hb dX12_count_137 (by decide) ?_
      exact ih o0 (x2 + v6) (x3 + 1) h7 ls H locs hf I (lv_sub hl [2, 1, 0] rfl)
def f_X12_count_0  (o0 : Nat) (x1 : Int32) (h : AH) : Option (Int32 × AH) :=
  (pV [12] h o0 0 (.int 0)).bind fun h1 =>
  if x1 = 0 then
    (gI [12] h1 o0 27).bind fun v4 =>
    some (v4, h1)
  else
    if x1 = 1 then
      (gI [12] h1 o0 26).bind fun v7 =>
      some (v7, h1)
    else
      if x1 = 2 then
        (gI [12] h1 o0 7).bind fun v10 =>
        some (v10, h1)
      else
        if x1 = 3 then
          (gI [12] h1 o0 30).bind fun v13 =>
          some (v13, h1)
        else
          if x1 = 4 then
            (gI [12] h1 o0 6).bind fun v16 =>
            some (v16, h1)
          else
            if x1 = 5 then
              (gI [12] h1 o0 34).bind fun v19 =>
              some (v19, h1)
            else
              if x1 = 6 then
                (gR [12] h1 o0 32).bind fun v22 =>
                (aI 0 h1 v22 30).bind fun v24 =>
                some (v24, h1)
              else
                if x1 = 7 then
                  f_X12_count_114 fu o0 0 0 h1
                else
                  if x1 = 8 then
                    (gR [12] h1 o0 32).bind fun v28 =>
                    (aI 0 h1 v28 28).bind fun v30 =>
                    some (v30 - 1, h1)
                  else
                    if x1 = 9 then
                      (gI [12] h1 o0 35).bind fun v33 =>
                      some (v33, h1)
                    else
                      if x1 = 10 then
                        (gI [12] h1 o0 46).bind fun v36 =>
                        some (v36, h1)
                      else
                        if x1 = 11 then
                          (gR [12] h1 o0 32).bind fun v39 =>
                          (aI 0 h1 v39 31).bind fun v41 =>
                          some (v41, h1)
                        else
                          if x1 = 12 then
                            (gI [12] h1 o0 43).bind fun v44 =>
                            some (v44, h1)
                          else
                            some ((-1000000), h1)
set_option maxHeartbeats 1000000 in
theorem w_X12_count_0 (X : Cx g p s m args meth c cX12_count 4 "TrapCornerModel") (hR : 2 ≤ R.frames ∧ 128 ≤ R.locals) (hr : meth.sig.returnType = (some (.int))) {res : Int32 × AH} : ∀ (o0 : Nat) (x1 : Int32) (h : AH) (ls : Array Slot) (H : Heap) (locs : List Loc), f_X12_count_0 o0 x1 h = some res → Iv g s n0 z0 h H locs 0 0 → lv_has ls 4 [(0, .ref (rfG g o0)), (1, .int x1)] → W p l e R s m args below meth c H locs 0 0 (MQ below (QG g (some (.int res.1)) res.2) args s 0 0 (AG g)) (F0 m 0 ls []) := by
  have hx := X.1
  have hb := X.2.1
  intro o0 x1 h ls H locs hf I hl
  unfold f_X12_count_0 at hf
  refine lv_aload_n hx hb dX12_count_0 rfl (lv_at hl 0 rfl) ?_
  refine lv_iconst (v := 0) hx hb dX12_count_1 (by decide) ?_
  obtain ⟨h1, e2, hf⟩ := Option.bind_eq_some_iff.mp hf
  refine r_pI X I e2 lp_TrapCornerModel_96 dX12_count_2 (fun H locs I => ?_)
  refine lv_iload_n hx hb dX12_count_5 rfl (lv_at hl 1 rfl) ?_
  by_cases c3 : x1 = 0
  · rw [if_pos c3] at hf
    refine lv_tableIn (tgt := 72) hx hb dX12_count_6 (by rw [c3]; decide) (by rw [c3]; decide) (by rw [c3]; rfl) (by decide) ?_
    refine lv_aload_n hx hb dX12_count_72 rfl (lv_at hl 0 rfl) ?_
    obtain ⟨v4, e5, hf⟩ := Option.bind_eq_some_iff.mp hf
    refine r_gI X I e5 lk_TrapCornerModel_297 dX12_count_73 ?_
    cases hf
    exact k_ri X I hr dX12_count_76
  · rw [if_neg c3] at hf
    by_cases c6 : x1 = 1
    · rw [if_pos c6] at hf
      refine lv_tableIn (tgt := 77) hx hb dX12_count_6 (by rw [c6]; decide) (by rw [c6]; decide) (by rw [c6]; rfl) (by decide) ?_
      refine lv_aload_n hx hb dX12_count_77 rfl (lv_at hl 0 rfl) ?_
      obtain ⟨v7, e8, hf⟩ := Option.bind_eq_some_iff.mp hf
      refine r_gI X I e8 lk_TrapCornerModel_294 dX12_count_78 ?_
      cases hf
      exact k_ri X I hr dX12_count_81
    · rw [if_neg c6] at hf
      by_cases c9 : x1 = 2
      · rw [if_pos c9] at hf
        refine lv_tableIn (tgt := 82) hx hb dX12_count_6 (by rw [c9]; decide) (by rw [c9]; decide) (by rw [c9]; rfl) (by decide) ?_
        refine lv_aload_n hx hb dX12_count_82 rfl (lv_at hl 0 rfl) ?_
        obtain ⟨v10, e11, hf⟩ := Option.bind_eq_some_iff.mp hf
        refine r_gI X I e11 lk_TrapCornerModel_286 dX12_count_83 ?_
        cases hf
        exact k_ri X I hr dX12_count_86
      · rw [if_neg c9] at hf
        by_cases c12 : x1 = 3
        · rw [if_pos c12] at hf
          refine lv_tableIn (tgt := 87) hx hb dX12_count_6 (by rw [c12]; decide) (by rw [c12]; decide) (by rw [c12]; rfl) (by decide) ?_
          refine lv_aload_n hx hb dX12_count_87 rfl (lv_at hl 0 rfl) ?_
          obtain ⟨v13, e14, hf⟩ := Option.bind_eq_some_iff.mp hf
          refine r_gI X I e14 lk_TrapCornerModel_289 dX12_count_88 ?_
          cases hf
          exact k_ri X I hr dX12_count_91
        · rw [if_neg c12] at hf
          by_cases c15 : x1 = 4
          · rw [if_pos c15] at hf
            refine lv_tableIn (tgt := 92) hx hb dX12_count_6 (by rw [c15]; decide) (by rw [c15]; decide) (by rw [c15]; rfl) (by decide) ?_
            refine lv_aload_n hx hb dX12_count_92 rfl (lv_at hl 0 rfl) ?_
            obtain ⟨v16, e17, hf⟩ := Option.bind_eq_some_iff.mp hf
            refine r_gI X I e17 lk_TrapCornerModel_109 dX12_count_93 ?_
            cases hf
            exact k_ri X I hr dX12_count_96
          · rw [if_neg c15] at hf
            by_cases c18 : x1 = 5
            · rw [if_pos c18] at hf
              refine lv_tableIn (tgt := 97) hx hb dX12_count_6 (by rw [c18]; decide) (by rw [c18]; decide) (by rw [c18]; rfl) (by decide) ?_
              refine lv_aload_n hx hb dX12_count_97 rfl (lv_at hl 0 rfl) ?_
              obtain ⟨v19, e20, hf⟩ := Option.bind_eq_some_iff.mp hf
              refine r_gI X I e20 lk_TrapCornerModel_67 dX12_count_98 ?_
              cases hf
              exact k_ri X I hr dX12_count_101
            · rw [if_neg c18] at hf
              by_cases c21 : x1 = 6
              · rw [if_pos c21] at hf
                refine lv_tableIn (tgt := 102) hx hb dX12_count_6 (by rw [c21]; decide) (by rw [c21]; decide) (by rw [c21]; rfl) (by decide) ?_
                refine lv_aload_n hx hb dX12_count_102 rfl (lv_at hl 0 rfl) ?_
                obtain ⟨v22, e23, hf⟩ := Option.bind_eq_some_iff.mp hf
                refine r_gR X I e23 lk_TrapCornerModel_61 dX12_count_103 ?_
                refine lv_bipush (v := 30) hx hb dX12_count_106 (by decide) ?_
                obtain ⟨v24, e25, hf⟩ := Option.bind_eq_some_iff.mp hf
                refine r_aI0 X I e25 dX12_count_108 ?_
                cases hf
                exact k_ri X I hr dX12_count_109
              · rw [if_neg c21] at hf
                by_cases c26 : x1 = 7
                · rw [if_pos c26] at hf
                  refine lv_tableIn (tgt := 110) hx hb dX12_count_6 (by rw [c26]; decide) (by rw [c26]; decide) (by rw [c26]; rfl) (by decide) ?_
                  refine lv_iconst (v := 0) hx hb dX12_count_110 (by decide) ?_
                  refine lv_istore_n (lv' := [(2, .int 0), (0, .ref (rfG g o0)), (1, .int x1)]) hx hb dX12_count_111 rfl hl (by decide) rfl (fun ls hl => ?_)
                  refine lv_iconst (v := 0) hx hb dX12_count_112 (by decide) ?_
                  refine lv_istore_n (lv' := [(3, .int 0), (2, .int 0), (0, .ref (rfG g o0)), (1, .int x1)]) hx hb dX12_count_113 rfl hl (by decide) rfl (fun ls hl => ?_)
                  exact w_X12_count_114 X hR hr fu o0 0 0 h1 ls H locs hf I (lv_sub hl [2, 1, 0] rfl)
                · rw [if_neg c26] at hf
                  by_cases c27 : x1 = 8
                  · rw [if_pos c27] at hf
                    refine lv_tableIn (tgt := 142) hx hb dX12_count_6 (by rw [c27]; decide) (by rw [c27]; decide) (by rw [c27]; rfl) (by decide) ?_
                    refine lv_aload_n hx hb dX12_count_142 rfl (lv_at hl 0 rfl) ?_
                    obtain ⟨v28, e29, hf⟩ := Option.bind_eq_some_iff.mp hf
                    refine r_gR X I e29 lk_TrapCornerModel_61 dX12_count_143 ?_
                    refine lv_bipush (v := 28) hx hb dX12_count_146 (by decide) ?_
                    obtain ⟨v30, e31, hf⟩ := Option.bind_eq_some_iff.mp hf
                    refine r_aI0 X I e31 dX12_count_148 ?_
                    refine lv_iconst (v := 1) hx hb dX12_count_149 (by decide) ?_
                    refine lv_isub hx hb dX12_count_150 ?_
                    cases hf
                    exact k_ri X I hr dX12_count_151
                  · rw [if_neg c27] at hf
                    by_cases c32 : x1 = 9
                    · rw [if_pos c32] at hf
                      refine lv_tableIn (tgt := 152) hx hb dX12_count_6 (by rw [c32]; decide) (by rw [c32]; decide) (by rw [c32]; rfl) (by decide) ?_
                      refine lv_aload_n hx hb dX12_count_152 rfl (lv_at hl 0 rfl) ?_
                      obtain ⟨v33, e34, hf⟩ := Option.bind_eq_some_iff.mp hf
                      refine r_gI X I e34 lk_TrapCornerModel_71 dX12_count_153 ?_
                      cases hf
                      exact k_ri X I hr dX12_count_156
                    · rw [if_neg c32] at hf
                      by_cases c35 : x1 = 10
                      · rw [if_pos c35] at hf
                        refine lv_tableIn (tgt := 157) hx hb dX12_count_6 (by rw [c35]; decide) (by rw [c35]; decide) (by rw [c35]; rfl) (by decide) ?_
                        refine lv_aload_n hx hb dX12_count_157 rfl (lv_at hl 0 rfl) ?_
                        obtain ⟨v36, e37, hf⟩ := Option.bind_eq_some_iff.mp hf
                        refine r_gI X I e37 lk_TrapCornerModel_300 dX12_count_158 ?_
                        cases hf
                        exact k_ri X I hr dX12_count_161
                      · rw [if_neg c35] at hf
                        by_cases c38 : x1 = 11
                        · rw [if_pos c38] at hf
                          refine lv_tableIn (tgt := 162) hx hb dX12_count_6 (by rw [c38]; decide) (by rw [c38]; decide) (by rw [c38]; rfl) (by decide) ?_
                          refine lv_aload_n hx hb dX12_count_162 rfl (lv_at hl 0 rfl) ?_
                          obtain ⟨v39, e40, hf⟩ := Option.bind_eq_some_iff.mp hf
                          refine r_gR X I e40 lk_TrapCornerModel_61 dX12_count_163 ?_
                          refine lv_bipush (v := 31) hx hb dX12_count_166 (by decide) ?_
                          obtain ⟨v41, e42, hf⟩ := Option.bind_eq_some_iff.mp hf
                          refine r_aI0 X I e42 dX12_count_168 ?_
                          cases hf
                          exact k_ri X I hr dX12_count_169
                        · rw [if_neg c38] at hf
                          by_cases c43 : x1 = 12
                          · rw [if_pos c43] at hf
                            refine lv_tableIn (tgt := 170) hx hb dX12_count_6 (by rw [c43]; decide) (by rw [c43]; decide) (by rw [c43]; rfl) (by decide) ?_
                            refine lv_aload_n hx hb dX12_count_170 rfl (lv_at hl 0 rfl) ?_
                            obtain ⟨v44, e45, hf⟩ := Option.bind_eq_some_iff.mp hf
                            refine r_gI X I e45 lk_TrapCornerModel_303 dX12_count_171 ?_
                            cases hf
                            exact k_ri X I hr dX12_count_174
                          · rw [if_neg c43] at hf
                            refine lv_tableOut (tgt := 175) hx hb dX12_count_6 (sw_out (fun k k1 k2 => by rcases (show k = 0 ∨ k = 1 ∨ k = 2 ∨ k = 3 ∨ k = 4 ∨ k = 5 ∨ k = 6 ∨ k = 7 ∨ k = 8 ∨ k = 9 ∨ k = 10 ∨ k = 11 ∨ k = 12 by omega) with rfl | rfl | rfl | rfl | rfl | rfl | rfl | rfl | rfl | rfl | rfl | rfl | rfl <;> assumption)) (by decide) ?_
                            refine lv_ldcw (v := (-1000000)) hx hb X.2.2.2.1 (X.2.2.2.2.1 _ tw_1786) dX12_count_175 ?_
                            cases hf
                            exact k_ri X I hr dX12_count_178
def f_X12_count (o0 : Nat) (x1 : Int32) (h : AH) : Option (Int32 × AH) := f_X12_count_0 o0 x1 h
end
theorem c_X12_count (l : Launch) (g : GG) (o0 : Nat) (x1 : Int32) {h : AH} {res : Int32 × AH} (hf : f_X12_count o0 x1 h = some res) : CM l g yX12_count cX12_count 4 (some (.int)) 2 128 0 0 [.ref (rfG g o0), .int x1] h (some (.int res.1)) res.2 :=
  k_body (by decide) (Nat.le_of_ble_eq_true rfl) (fun p e s m below meth c R ls hR hr X I hl => w_X12_count_0 X ⟨Nat.le_of_eq hR.1.symm, Nat.le_of_eq hR.2.1.symm⟩ hr o0 x1 h ls s.heap [] hf I (lv_sub hl [0, 1] rfl))
/-! java/lang/Integer.bitCount(I)I -/
theorem dJ6_bitCount_0f7a4_0 : decode cJ6_bitCount_0f7a4 0 = .ok (.iload_n 0, 1) := by decide +kernel
theorem dJ6_bitCount_0f7a4_1 : decode cJ6_bitCount_0f7a4 1 = .ok (.iload_n 0, 1) := by decide +kernel
theorem dJ6_bitCount_0f7a4_2 : decode cJ6_bitCount_0f7a4 2 = .ok (.iconst 1, 1) := by decide +kernel
theorem dJ6_bitCount_0f7a4_3 : decode cJ6_bitCount_0f7a4 3 = .ok (.iushr, 1) := by decide +kernel
theorem dJ6_bitCount_0f7a4_4 : decode cJ6_bitCount_0f7a4 4 = .ok (.ldc_w 265, 3) := by decide +kernel
theorem dJ6_bitCount_0f7a4_7 : decode cJ6_bitCount_0f7a4 7 = .ok (.iand, 1) := by decide +kernel
theorem dJ6_bitCount_0f7a4_8 : decode cJ6_bitCount_0f7a4 8 = .ok (.isub, 1) := by decide +kernel
theorem dJ6_bitCount_0f7a4_9 : decode cJ6_bitCount_0f7a4 9 = .ok (.istore_n 0, 1) := by decide +kernel
theorem dJ6_bitCount_0f7a4_10 : decode cJ6_bitCount_0f7a4 10 = .ok (.iload_n 0, 1) := by decide +kernel
theorem dJ6_bitCount_0f7a4_11 : decode cJ6_bitCount_0f7a4 11 = .ok (.ldc_w 266, 3) := by decide +kernel
theorem dJ6_bitCount_0f7a4_14 : decode cJ6_bitCount_0f7a4 14 = .ok (.iand, 1) := by decide +kernel
theorem dJ6_bitCount_0f7a4_15 : decode cJ6_bitCount_0f7a4 15 = .ok (.iload_n 0, 1) := by decide +kernel
theorem dJ6_bitCount_0f7a4_16 : decode cJ6_bitCount_0f7a4 16 = .ok (.iconst 2, 1) := by decide +kernel
theorem dJ6_bitCount_0f7a4_17 : decode cJ6_bitCount_0f7a4 17 = .ok (.iushr, 1) := by decide +kernel
theorem dJ6_bitCount_0f7a4_18 : decode cJ6_bitCount_0f7a4 18 = .ok (.ldc_w 266, 3) := by decide +kernel
theorem dJ6_bitCount_0f7a4_21 : decode cJ6_bitCount_0f7a4 21 = .ok (.iand, 1) := by decide +kernel
theorem dJ6_bitCount_0f7a4_22 : decode cJ6_bitCount_0f7a4 22 = .ok (.iadd, 1) := by decide +kernel
theorem dJ6_bitCount_0f7a4_23 : decode cJ6_bitCount_0f7a4 23 = .ok (.istore_n 0, 1) := by decide +kernel
theorem dJ6_bitCount_0f7a4_24 : decode cJ6_bitCount_0f7a4 24 = .ok (.iload_n 0, 1) := by decide +kernel
theorem dJ6_bitCount_0f7a4_25 : decode cJ6_bitCount_0f7a4 25 = .ok (.iload_n 0, 1) := by decide +kernel
theorem dJ6_bitCount_0f7a4_26 : decode cJ6_bitCount_0f7a4 26 = .ok (.iconst 4, 1) := by decide +kernel
theorem dJ6_bitCount_0f7a4_27 : decode cJ6_bitCount_0f7a4 27 = .ok (.iushr, 1) := by decide +kernel
theorem dJ6_bitCount_0f7a4_28 : decode cJ6_bitCount_0f7a4 28 = .ok (.iadd, 1) := by decide +kernel
theorem dJ6_bitCount_0f7a4_29 : decode cJ6_bitCount_0f7a4 29 = .ok (.ldc_w 267, 3) := by decide +kernel
theorem dJ6_bitCount_0f7a4_32 : decode cJ6_bitCount_0f7a4 32 = .ok (.iand, 1) := by decide +kernel
theorem dJ6_bitCount_0f7a4_33 : decode cJ6_bitCount_0f7a4 33 = .ok (.istore_n 0, 1) := by decide +kernel
theorem dJ6_bitCount_0f7a4_34 : decode cJ6_bitCount_0f7a4 34 = .ok (.iload_n 0, 1) := by decide +kernel
theorem dJ6_bitCount_0f7a4_35 : decode cJ6_bitCount_0f7a4 35 = .ok (.iload_n 0, 1) := by decide +kernel
theorem dJ6_bitCount_0f7a4_36 : decode cJ6_bitCount_0f7a4 36 = .ok (.bipush 8, 2) := by decide +kernel
theorem dJ6_bitCount_0f7a4_38 : decode cJ6_bitCount_0f7a4 38 = .ok (.iushr, 1) := by decide +kernel
theorem dJ6_bitCount_0f7a4_39 : decode cJ6_bitCount_0f7a4 39 = .ok (.iadd, 1) := by decide +kernel
theorem dJ6_bitCount_0f7a4_40 : decode cJ6_bitCount_0f7a4 40 = .ok (.istore_n 0, 1) := by decide +kernel
theorem dJ6_bitCount_0f7a4_41 : decode cJ6_bitCount_0f7a4 41 = .ok (.iload_n 0, 1) := by decide +kernel
theorem dJ6_bitCount_0f7a4_42 : decode cJ6_bitCount_0f7a4 42 = .ok (.iload_n 0, 1) := by decide +kernel
theorem dJ6_bitCount_0f7a4_43 : decode cJ6_bitCount_0f7a4 43 = .ok (.bipush 16, 2) := by decide +kernel
theorem dJ6_bitCount_0f7a4_45 : decode cJ6_bitCount_0f7a4 45 = .ok (.iushr, 1) := by decide +kernel
theorem dJ6_bitCount_0f7a4_46 : decode cJ6_bitCount_0f7a4 46 = .ok (.iadd, 1) := by decide +kernel
theorem dJ6_bitCount_0f7a4_47 : decode cJ6_bitCount_0f7a4 47 = .ok (.istore_n 0, 1) := by decide +kernel
theorem dJ6_bitCount_0f7a4_48 : decode cJ6_bitCount_0f7a4 48 = .ok (.iload_n 0, 1) := by decide +kernel
theorem dJ6_bitCount_0f7a4_49 : decode cJ6_bitCount_0f7a4 49 = .ok (.bipush 63, 2) := by decide +kernel
theorem dJ6_bitCount_0f7a4_51 : decode cJ6_bitCount_0f7a4 51 = .ok (.iand, 1) := by decide +kernel
theorem dJ6_bitCount_0f7a4_52 : decode cJ6_bitCount_0f7a4 52 = .ok (.ireturn, 1) := by decide +kernel
section
variable {g : GG} {p : Program} {l : Launch} {e : Env} {R : Room} {s : State} {m : MethodId} {args : Array Value} {below : List Frame} {meth : Method} {c : Code} {n0 z0 : Nat}
def f_J6_bitCount_0f7a4_0  (x0 : Int32) (h : AH) : Option (Int32 × AH) :=
  some ((((((((x0 - (((x0.toUInt32 >>> ((1 : Int32).toUInt32 &&& Int32.toUInt32 31)).toInt32) &&& 1431655765)) &&& 858993459) + ((((x0 - (((x0.toUInt32 >>> ((1 : Int32).toUInt32 &&& Int32.toUInt32 31)).toInt32) &&& 1431655765)).toUInt32 >>> ((2 : Int32).toUInt32 &&& Int32.toUInt32 31)).toInt32) &&& 858993459)) + (((((x0 - (((x0.toUInt32 >>> ((1 : Int32).toUInt32 &&& Int32.toUInt32 31)).toInt32) &&& 1431655765)) &&& 858993459) + ((((x0 - (((x0.toUInt32 >>> ((1 : Int32).toUInt32 &&& Int32.toUInt32 31)).toInt32) &&& 1431655765)).toUInt32 >>> ((2 : Int32).toUInt32 &&& Int32.toUInt32 31)).toInt32) &&& 858993459)).toUInt32 >>> ((4 : Int32).toUInt32 &&& Int32.toUInt32 31)).toInt32)) &&& 252645135) + (((((((x0 - (((x0.toUInt32 >>> ((1 : Int32).toUInt32 &&& Int32.toUInt32 31)).toInt32) &&& 1431655765)) &&& 858993459) + ((((x0 - (((x0.toUInt32 >>> ((1 : Int32).toUInt32 &&& Int32.toUInt32 31)).toInt32) &&& 1431655765)).toUInt32 >>> ((2 : Int32).toUInt32 &&& Int32.toUInt32 31)).toInt32) &&& 858993459)) + (((((x0 - (((x0.toUInt32 >>> ((1 : Int32).toUInt32 &&& Int32.toUInt32 31)).toInt32) &&& 1431655765)) &&& 858993459) + ((((x0 - (((x0.toUInt32 >>> ((1 : Int32).toUInt32 &&& Int32.toUInt32 31)).toInt32) &&& 1431655765)).toUInt32 >>> ((2 : Int32).toUInt32 &&& Int32.toUInt32 31)).toInt32) &&& 858993459)).toUInt32 >>> ((4 : Int32).toUInt32 &&& Int32.toUInt32 31)).toInt32)) &&& 252645135).toUInt32 >>> ((8 : Int32).toUInt32 &&& Int32.toUInt32 31)).toInt32)) + ((((((((x0 - (((x0.toUInt32 >>> ((1 : Int32).toUInt32 &&& Int32.toUInt32 31)).toInt32) &&& 1431655765)) &&& 858993459) + ((((x0 - (((x0.toUInt32 >>> ((1 : Int32).toUInt32 &&& Int32.toUInt32 31)).toInt32) &&& 1431655765)).toUInt32 >>> ((2 : Int32).toUInt32 &&& Int32.toUInt32 31)).toInt32) &&& 858993459)) + (((((x0 - (((x0.toUInt32 >>> ((1 : Int32).toUInt32 &&& Int32.toUInt32 31)).toInt32) &&& 1431655765)) &&& 858993459) + ((((x0 - (((x0.toUInt32 >>> ((1 : Int32).toUInt32 &&& Int32.toUInt32 31)).toInt32) &&& 1431655765)).toUInt32 >>> ((2 : Int32).toUInt32 &&& Int32.toUInt32 31)).toInt32) &&& 858993459)).toUInt32 >>> ((4 : Int32).toUInt32 &&& Int32.toUInt32 31)).toInt32)) &&& 252645135) + (((((((x0 - (((x0.toUInt32 >>> ((1 : Int32).toUInt32 &&& Int32.toUInt32 31)).toInt32) &&& 1431655765)) &&& 858993459) + ((((x0 - (((x0.toUInt32 >>> ((1 : Int32).toUInt32 &&& Int32.toUInt32 31)).toInt32) &&& 1431655765)).toUInt32 >>> ((2 : Int32).toUInt32 &&& Int32.toUInt32 31)).toInt32) &&& 858993459)) + (((((x0 - (((x0.toUInt32 >>> ((1 : Int32).toUInt32 &&& Int32.toUInt32 31)).toInt32) &&& 1431655765)) &&& 858993459) + ((((x0 - (((x0.toUInt32 >>> ((1 : Int32).toUInt32 &&& Int32.toUInt32 31)).toInt32) &&& 1431655765)).toUInt32 >>> ((2 : Int32).toUInt32 &&& Int32.toUInt32 31)).toInt32) &&& 858993459)).toUInt32 >>> ((4 : Int32).toUInt32 &&& Int32.toUInt32 31)).toInt32)) &&& 252645135).toUInt32 >>> ((8 : Int32).toUInt32 &&& Int32.toUInt32 31)).toInt32)).toUInt32 >>> ((16 : Int32).toUInt32 &&& Int32.toUInt32 31)).toInt32)) &&& 63, h)
set_option maxHeartbeats 1000000 in
theorem w_J6_bitCount_0f7a4_0 (X : Cx g p s m args meth c cJ6_bitCount_0f7a4 1 "java/lang/Integer") (hR : 1 ≤ R.frames ∧ 64 ≤ R.locals) (hr : meth.sig.returnType = (some (.int))) {res : Int32 × AH} : ∀ (x0 : Int32) (h : AH) (ls : Array Slot) (H : Heap) (locs : List Loc), f_J6_bitCount_0f7a4_0 x0 h = some res → Iv g s n0 z0 h H locs 0 0 → lv_has ls 1 [(0, .int x0)] → W p l e R s m args below meth c H locs 0 0 (MQ below (QG g (some (.int res.1)) res.2) args s 0 0 (AG g)) (F0 m 0 ls []) := by
  have hx := X.1
  have hb := X.2.1
  intro x0 h ls H locs hf I hl
  unfold f_J6_bitCount_0f7a4_0 at hf
  refine lv_iload_n hx hb dJ6_bitCount_0f7a4_0 rfl (lv_at hl 0 rfl) ?_
  refine lv_iload_n hx hb dJ6_bitCount_0f7a4_1 rfl (lv_at hl 0 rfl) ?_
  refine lv_iconst (v := 1) hx hb dJ6_bitCount_0f7a4_2 (by decide) ?_
  refine lv_iushr hx hb dJ6_bitCount_0f7a4_3 rfl ?_
  refine lv_ldcw (v := 1431655765) hx hb X.2.2.2.1 (X.2.2.2.2.1 _ tw_958) dJ6_bitCount_0f7a4_4 ?_
  refine lv_iand hx hb dJ6_bitCount_0f7a4_7 ?_
  refine lv_isub hx hb dJ6_bitCount_0f7a4_8 ?_
  refine lv_istore_n (lv' := [(0, .int (x0 - (((x0.toUInt32 >>> ((1 : Int32).toUInt32 &&& Int32.toUInt32 31)).toInt32) &&& 1431655765)))]) hx hb dJ6_bitCount_0f7a4_9 rfl hl (by decide) rfl (fun ls hl => ?_)
  refine lv_iload_n hx hb dJ6_bitCount_0f7a4_10 rfl (lv_at hl 0 rfl) ?_
  refine lv_ldcw (v := 858993459) hx hb X.2.2.2.1 (X.2.2.2.2.1 _ tw_959) dJ6_bitCount_0f7a4_11 ?_
  refine lv_iand hx hb dJ6_bitCount_0f7a4_14 ?_
  refine lv_iload_n hx hb dJ6_bitCount_0f7a4_15 rfl (lv_at hl 0 rfl) ?_
  refine lv_iconst (v := 2) hx hb dJ6_bitCount_0f7a4_16 (by decide) ?_
  refine lv_iushr hx hb dJ6_bitCount_0f7a4_17 rfl ?_
  refine lv_ldcw (v := 858993459) hx hb X.2.2.2.1 (X.2.2.2.2.1 _ tw_959) dJ6_bitCount_0f7a4_18 ?_
  refine lv_iand hx hb dJ6_bitCount_0f7a4_21 ?_
  refine lv_iadd hx hb dJ6_bitCount_0f7a4_22 ?_
  refine lv_istore_n (lv' := [(0, .int (((x0 - (((x0.toUInt32 >>> ((1 : Int32).toUInt32 &&& Int32.toUInt32 31)).toInt32) &&& 1431655765)) &&& 858993459) + ((((x0 - (((x0.toUInt32 >>> ((1 : Int32).toUInt32 &&& Int32.toUInt32 31)).toInt32) &&& 1431655765)).toUInt32 >>> ((2 : Int32).toUInt32 &&& Int32.toUInt32 31)).toInt32) &&& 858993459)))]) hx hb dJ6_bitCount_0f7a4_23 rfl hl (by decide) rfl (fun ls hl => ?_)
  refine lv_iload_n hx hb dJ6_bitCount_0f7a4_24 rfl (lv_at hl 0 rfl) ?_
  refine lv_iload_n hx hb dJ6_bitCount_0f7a4_25 rfl (lv_at hl 0 rfl) ?_
  refine lv_iconst (v := 4) hx hb dJ6_bitCount_0f7a4_26 (by decide) ?_
  refine lv_iushr hx hb dJ6_bitCount_0f7a4_27 rfl ?_
  refine lv_iadd hx hb dJ6_bitCount_0f7a4_28 ?_
  refine lv_ldcw (v := 252645135) hx hb X.2.2.2.1 (X.2.2.2.2.1 _ tw_960) dJ6_bitCount_0f7a4_29 ?_
  refine lv_iand hx hb dJ6_bitCount_0f7a4_32 ?_
  refine lv_istore_n (lv' := [(0, .int (((((x0 - (((x0.toUInt32 >>> ((1 : Int32).toUInt32 &&& Int32.toUInt32 31)).toInt32) &&& 1431655765)) &&& 858993459) + ((((x0 - (((x0.toUInt32 >>> ((1 : Int32).toUInt32 &&& Int32.toUInt32 31)).toInt32) &&& 1431655765)).toUInt32 >>> ((2 : Int32).toUInt32 &&& Int32.toUInt32 31)).toInt32) &&& 858993459)) + (((((x0 - (((x0.toUInt32 >>> ((1 : Int32).toUInt32 &&& Int32.toUInt32 31)).toInt32) &&& 1431655765)) &&& 858993459) + ((((x0 - (((x0.toUInt32 >>> ((1 : Int32).toUInt32 &&& Int32.toUInt32 31)).toInt32) &&& 1431655765)).toUInt32 >>> ((2 : Int32).toUInt32 &&& Int32.toUInt32 31)).toInt32) &&& 858993459)).toUInt32 >>> ((4 : Int32).toUInt32 &&& Int32.toUInt32 31)).toInt32)) &&& 252645135))]) hx hb dJ6_bitCount_0f7a4_33 rfl hl (by decide) rfl (fun ls hl => ?_)
  refine lv_iload_n hx hb dJ6_bitCount_0f7a4_34 rfl (lv_at hl 0 rfl) ?_
  refine lv_iload_n hx hb dJ6_bitCount_0f7a4_35 rfl (lv_at hl 0 rfl) ?_
  refine lv_bipush (v := 8) hx hb dJ6_bitCount_0f7a4_36 (by decide) ?_
  refine lv_iushr hx hb dJ6_bitCount_0f7a4_38 rfl ?_
  refine lv_iadd hx hb dJ6_bitCount_0f7a4_39 ?_
  refine lv_istore_n (lv' := [(0, .int ((((((x0 - (((x0.toUInt32 >>> ((1 : Int32).toUInt32 &&& Int32.toUInt32 31)).toInt32) &&& 1431655765)) &&& 858993459) + ((((x0 - (((x0.toUInt32 >>> ((1 : Int32).toUInt32 &&& Int32.toUInt32 31)).toInt32) &&& 1431655765)).toUInt32 >>> ((2 : Int32).toUInt32 &&& Int32.toUInt32 31)).toInt32) &&& 858993459)) + (((((x0 - (((x0.toUInt32 >>> ((1 : Int32).toUInt32 &&& Int32.toUInt32 31)).toInt32) &&& 1431655765)) &&& 858993459) + ((((x0 - (((x0.toUInt32 >>> ((1 : Int32).toUInt32 &&& Int32.toUInt32 31)).toInt32) &&& 1431655765)).toUInt32 >>> ((2 : Int32).toUInt32 &&& Int32.toUInt32 31)).toInt32) &&& 858993459)).toUInt32 >>> ((4 : Int32).toUInt32 &&& Int32.toUInt32 31)).toInt32)) &&& 252645135) + (((((((x0 - (((x0.toUInt32 >>> ((1 : Int32).toUInt32 &&& Int32.toUInt32 31)).toInt32) &&& 1431655765)) &&& 858993459) + ((((x0 - (((x0.toUInt32 >>> ((1 : Int32).toUInt32 &&& Int32.toUInt32 31)).toInt32) &&& 1431655765)).toUInt32 >>> ((2 : Int32).toUInt32 &&& Int32.toUInt32 31)).toInt32) &&& 858993459)) + (((((x0 - (((x0.toUInt32 >>> ((1 : Int32).toUInt32 &&& Int32.toUInt32 31)).toInt32) &&& 1431655765)) &&& 858993459) + ((((x0 - (((x0.toUInt32 >>> ((1 : Int32).toUInt32 &&& Int32.toUInt32 31)).toInt32) &&& 1431655765)).toUInt32 >>> ((2 : Int32).toUInt32 &&& Int32.toUInt32 31)).toInt32) &&& 858993459)).toUInt32 >>> ((4 : Int32).toUInt32 &&& Int32.toUInt32 31)).toInt32)) &&& 252645135).toUInt32 >>> ((8 : Int32).toUInt32 &&& Int32.toUInt32 31)).toInt32)))]) hx hb dJ6_bitCount_0f7a4_40 rfl hl (by decide) rfl (fun ls hl => ?_)
  refine lv_iload_n hx hb dJ6_bitCount_0f7a4_41 rfl (lv_at hl 0 rfl) ?_
  refine lv_iload_n hx hb dJ6_bitCount_0f7a4_42 rfl (lv_at hl 0 rfl) ?_
  refine lv_bipush (v := 16) hx hb dJ6_bitCount_0f7a4_43 (by decide) ?_
  refine lv_iushr hx hb dJ6_bitCount_0f7a4_45 rfl ?_
  refine lv_iadd hx hb dJ6_bitCount_0f7a4_46 ?_
  refine lv_istore_n (lv' := [(0, .int (((((((x0 - (((x0.toUInt32 >>> ((1 : Int32).toUInt32 &&& Int32.toUInt32 31)).toInt32) &&& 1431655765)) &&& 858993459) + ((((x0 - (((x0.toUInt32 >>> ((1 : Int32).toUInt32 &&& Int32.toUInt32 31)).toInt32) &&& 1431655765)).toUInt32 >>> ((2 : Int32).toUInt32 &&& Int32.toUInt32 31)).toInt32) &&& 858993459)) + (((((x0 - (((x0.toUInt32 >>> ((1 : Int32).toUInt32 &&& Int32.toUInt32 31)).toInt32) &&& 1431655765)) &&& 858993459) + ((((x0 - (((x0.toUInt32 >>> ((1 : Int32).toUInt32 &&& Int32.toUInt32 31)).toInt32) &&& 1431655765)).toUInt32 >>> ((2 : Int32).toUInt32 &&& Int32.toUInt32 31)).toInt32) &&& 858993459)).toUInt32 >>> ((4 : Int32).toUInt32 &&& Int32.toUInt32 31)).toInt32)) &&& 252645135) + (((((((x0 - (((x0.toUInt32 >>> ((1 : Int32).toUInt32 &&& Int32.toUInt32 31)).toInt32) &&& 1431655765)) &&& 858993459) + ((((x0 - (((x0.toUInt32 >>> ((1 : Int32).toUInt32 &&& Int32.toUInt32 31)).toInt32) &&& 1431655765)).toUInt32 >>> ((2 : Int32).toUInt32 &&& Int32.toUInt32 31)).toInt32) &&& 858993459)) + (((((x0 - (((x0.toUInt32 >>> ((1 : Int32).toUInt32 &&& Int32.toUInt32 31)).toInt32) &&& 1431655765)) &&& 858993459) + ((((x0 - (((x0.toUInt32 >>> ((1 : Int32).toUInt32 &&& Int32.toUInt32 31)).toInt32) &&& 1431655765)).toUInt32 >>> ((2 : Int32).toUInt32 &&& Int32.toUInt32 31)).toInt32) &&& 858993459)).toUInt32 >>> ((4 : Int32).toUInt32 &&& Int32.toUInt32 31)).toInt32)) &&& 252645135).toUInt32 >>> ((8 : Int32).toUInt32 &&& Int32.toUInt32 31)).toInt32)) + ((((((((x0 - (((x0.toUInt32 >>> ((1 : Int32).toUInt32 &&& Int32.toUInt32 31)).toInt32) &&& 1431655765)) &&& 858993459) + ((((x0 - (((x0.toUInt32 >>> ((1 : Int32).toUInt32 &&& Int32.toUInt32 31)).toInt32) &&& 1431655765)).toUInt32 >>> ((2 : Int32).toUInt32 &&& Int32.toUInt32 31)).toInt32) &&& 858993459)) + (((((x0 - (((x0.toUInt32 >>> ((1 : Int32).toUInt32 &&& Int32.toUInt32 31)).toInt32) &&& 1431655765)) &&& 858993459) + ((((x0 - (((x0.toUInt32 >>> ((1 : Int32).toUInt32 &&& Int32.toUInt32 31)).toInt32) &&& 1431655765)).toUInt32 >>> ((2 : Int32).toUInt32 &&& Int32.toUInt32 31)).toInt32) &&& 858993459)).toUInt32 >>> ((4 : Int32).toUInt32 &&& Int32.toUInt32 31)).toInt32)) &&& 252645135) + (((((((x0 - (((x0.toUInt32 >>> ((1 : Int32).toUInt32 &&& Int32.toUInt32 31)).toInt32) &&& 1431655765)) &&& 858993459) + ((((x0 - (((x0.toUInt32 >>> ((1 : Int32).toUInt32 &&& Int32.toUInt32 31)).toInt32) &&& 1431655765)).toUInt32 >>> ((2 : Int32).toUInt32 &&& Int32.toUInt32 31)).toInt32) &&& 858993459)) + (((((x0 - (((x0.toUInt32 >>> ((1 : Int32).toUInt32 &&& Int32.toUInt32 31)).toInt32) &&& 1431655765)) &&& 858993459) + ((((x0 - (((x0.toUInt32 >>> ((1 : Int32).toUInt32 &&& Int32.toUInt32 31)).toInt32) &&& 1431655765)).toUInt32 >>> ((2 : Int32).toUInt32 &&& Int32.toUInt32 31)).toInt32) &&& 858993459)).toUInt32 >>> ((4 : Int32).toUInt32 &&& Int32.toUInt32 31)).toInt32)) &&& 252645135).toUInt32 >>> ((8 : Int32).toUInt32 &&& Int32.toUInt32 31)).toInt32)).toUInt32 >>> ((16 : Int32).toUInt32 &&& Int32.toUInt32 31)).toInt32)))]) hx hb dJ6_bitCount_0f7a4_47 rfl hl (by decide) rfl (fun ls hl => ?_)
  refine lv_iload_n hx hb dJ6_bitCount_0f7a4_48 rfl (lv_at hl 0 rfl) ?_
  refine lv_bipush (v := 63) hx hb dJ6_bitCount_0f7a4_49 (by decide) ?_
  refine lv_iand hx hb dJ6_bitCount_0f7a4_51 ?_
  obtain rfl := ret_eq hf
  exact k_ri X I hr dJ6_bitCount_0f7a4_52
def f_J6_bitCount_0f7a4 (x0 : Int32) (h : AH) : Option (Int32 × AH) := f_J6_bitCount_0f7a4_0 x0 h
end
theorem c_J6_bitCount_0f7a4 (l : Launch) (g : GG) (x0 : Int32) {h : AH} {res : Int32 × AH} (hf : f_J6_bitCount_0f7a4 x0 h = some res) : CM l g yJ6_bitCount_0f7a4 cJ6_bitCount_0f7a4 1 (some (.int)) 1 64 0 0 [.int x0] h (some (.int res.1)) res.2 :=
  k_bodyF (by decide +kernel) (Nat.le_of_ble_eq_true rfl) (fun p e s m below meth c R ls hR hr X I hl => w_J6_bitCount_0f7a4_0 X ⟨Nat.le_of_eq hR.1.symm, Nat.le_of_eq hR.2.1.symm⟩ hr x0 h ls s.heap [] hf I (lv_sub hl [0] rfl))
/-! java/lang/Math.floorMod(II)I -/
theorem dJ9_floorMod_7cf53_0 : decode cJ9_floorMod_7cf53 0 = .ok (.iload_n 0, 1) := by decide +kernel
theorem dJ9_floorMod_7cf53_1 : decode cJ9_floorMod_7cf53 1 = .ok (.iload_n 1, 1) := by decide +kernel
theorem dJ9_floorMod_7cf53_2 : decode cJ9_floorMod_7cf53 2 = .ok (.irem, 1) := by decide +kernel
theorem dJ9_floorMod_7cf53_3 : decode cJ9_floorMod_7cf53 3 = .ok (.istore_n 2, 1) := by decide +kernel
theorem dJ9_floorMod_7cf53_4 : decode cJ9_floorMod_7cf53 4 = .ok (.iload_n 0, 1) := by decide +kernel
theorem dJ9_floorMod_7cf53_5 : decode cJ9_floorMod_7cf53 5 = .ok (.iload_n 1, 1) := by decide +kernel
theorem dJ9_floorMod_7cf53_6 : decode cJ9_floorMod_7cf53 6 = .ok (.ixor, 1) := by decide +kernel
theorem dJ9_floorMod_7cf53_7 : decode cJ9_floorMod_7cf53 7 = .ok (.ifCond .ge 11, 3) := by decide +kernel
theorem dJ9_floorMod_7cf53_10 : decode cJ9_floorMod_7cf53 10 = .ok (.iload_n 2, 1) := by decide +kernel
theorem dJ9_floorMod_7cf53_11 : decode cJ9_floorMod_7cf53 11 = .ok (.ifCond .eq 7, 3) := by decide +kernel
theorem dJ9_floorMod_7cf53_14 : decode cJ9_floorMod_7cf53 14 = .ok (.iload_n 2, 1) := by decide +kernel
theorem dJ9_floorMod_7cf53_15 : decode cJ9_floorMod_7cf53 15 = .ok (.iload_n 1, 1) := by decide +kernel
theorem dJ9_floorMod_7cf53_16 : decode cJ9_floorMod_7cf53 16 = .ok (.iadd, 1) := by decide +kernel
theorem dJ9_floorMod_7cf53_17 : decode cJ9_floorMod_7cf53 17 = .ok (.ireturn, 1) := by decide +kernel
theorem dJ9_floorMod_7cf53_18 : decode cJ9_floorMod_7cf53 18 = .ok (.iload_n 2, 1) := by decide +kernel
theorem dJ9_floorMod_7cf53_19 : decode cJ9_floorMod_7cf53 19 = .ok (.ireturn, 1) := by decide +kernel
section
variable {g : GG} {p : Program} {l : Launch} {e : Env} {R : Room} {s : State} {m : MethodId} {args : Array Value} {below : List Frame} {meth : Method} {c : Code} {n0 z0 : Nat}
def f_J9_floorMod_7cf53_0  (x0 : Int32) (x1 : Int32) (h : AH) : Option (Int32 × AH) :=
  if x1 = 0 then none else
  if 0 ≤ (x0 ^^^ x1) then
    some (x0 - x0 / x1 * x1, h)
  else
    if (x0 - x0 / x1 * x1) = 0 then
      some (x0 - x0 / x1 * x1, h)
    else
      some ((x0 - x0 / x1 * x1) + x1, h)
set_option maxHeartbeats 1000000 in
theorem w_J9_floorMod_7cf53_0 (X : Cx g p s m args meth c cJ9_floorMod_7cf53 3 "java/lang/Math") (hR : 1 ≤ R.frames ∧ 64 ≤ R.locals) (hr : meth.sig.returnType = (some (.int))) {res : Int32 × AH} : ∀ (x0 : Int32) (x1 : Int32) (h : AH) (ls : Array Slot) (H : Heap) (locs : List Loc), f_J9_floorMod_7cf53_0 x0 x1 h = some res → Iv g s n0 z0 h H locs 0 0 → lv_has ls 3 [(0, .int x0), (1, .int x1)] → W p l e R s m args below meth c H locs 0 0 (MQ below (QG g (some (.int res.1)) res.2) args s 0 0 (AG g)) (F0 m 0 ls []) := by
  have hx := X.1
  have hb := X.2.1
  intro x0 x1 h ls H locs hf I hl
  unfold f_J9_floorMod_7cf53_0 at hf
  refine lv_iload_n hx hb dJ9_floorMod_7cf53_0 rfl (lv_at hl 0 rfl) ?_
  refine lv_iload_n hx hb dJ9_floorMod_7cf53_1 rfl (lv_at hl 1 rfl) ?_
  have c1 : ¬ x1 = 0 := fun z => by rw [if_pos z] at hf; cases hf
  rw [if_neg c1] at hf
  refine lv_irem hx hb dJ9_floorMod_7cf53_2 c1 ?_
  refine lv_istore_n (lv' := [(2, .int (x0 - x0 / x1 * x1)), (0, .int x0), (1, .int x1)]) hx hb dJ9_floorMod_7cf53_3 rfl hl (by decide) rfl (fun ls hl => ?_)
  refine lv_iload_n hx hb dJ9_floorMod_7cf53_4 rfl (lv_at hl 1 rfl) ?_
  refine lv_iload_n hx hb dJ9_floorMod_7cf53_5 rfl (lv_at hl 2 rfl) ?_
  refine lv_ixor hx hb dJ9_floorMod_7cf53_6 ?_
  refine lv_if_ge (tgt := 18) hx hb dJ9_floorMod_7cf53_7 (by decide) (fun c2 => ?_) (fun c2 => ?_)
  · rw [if_pos c2] at hf
    refine lv_iload_n hx hb dJ9_floorMod_7cf53_18 rfl (lv_at hl 0 rfl) ?_
    cases hf
    exact k_ri X I hr dJ9_floorMod_7cf53_19
  · rw [if_neg c2] at hf
    refine lv_iload_n hx hb dJ9_floorMod_7cf53_10 rfl (lv_at hl 0 rfl) ?_
    refine lv_if_eq (tgt := 18) hx hb dJ9_floorMod_7cf53_11 (by decide) (fun c3 => ?_) (fun c3 => ?_)
    · rw [if_pos c3] at hf
      refine lv_iload_n hx hb dJ9_floorMod_7cf53_18 rfl (lv_at hl 0 rfl) ?_
      cases hf
      exact k_ri X I hr dJ9_floorMod_7cf53_19
    · rw [if_neg c3] at hf
      refine lv_iload_n hx hb dJ9_floorMod_7cf53_14 rfl (lv_at hl 0 rfl) ?_
      refine lv_iload_n hx hb dJ9_floorMod_7cf53_15 rfl (lv_at hl 2 rfl) ?_
      refine lv_iadd hx hb dJ9_floorMod_7cf53_16 ?_
      cases hf
      exact k_ri X I hr dJ9_floorMod_7cf53_17
def f_J9_floorMod_7cf53 (x0 : Int32) (x1 : Int32) (h : AH) : Option (Int32 × AH) := f_J9_floorMod_7cf53_0 x0 x1 h
end
theorem c_J9_floorMod_7cf53 (l : Launch) (g : GG) (x0 : Int32) (x1 : Int32) {h : AH} {res : Int32 × AH} (hf : f_J9_floorMod_7cf53 x0 x1 h = some res) : CM l g yJ9_floorMod_7cf53 cJ9_floorMod_7cf53 3 (some (.int)) 1 64 0 0 [.int x0, .int x1] h (some (.int res.1)) res.2 :=
  k_bodyF (by decide +kernel) (Nat.le_of_ble_eq_true rfl) (fun p e s m below meth c R ls hR hr X I hl => w_J9_floorMod_7cf53_0 X ⟨Nat.le_of_eq hR.1.symm, Nat.le_of_eq hR.2.1.symm⟩ hr x0 x1 h ls s.heap [] hf I (lv_sub hl [0, 1] rfl))
/-! java/lang/Math.abs(I)I -/
theorem dJ9_abs_0f7a4_0 : decode cJ9_abs_0f7a4 0 = .ok (.iload_n 0, 1) := by decide +kernel
theorem dJ9_abs_0f7a4_1 : decode cJ9_abs_0f7a4 1 = .ok (.ifCond .ge 8, 3) := by decide +kernel
theorem dJ9_abs_0f7a4_4 : decode cJ9_abs_0f7a4 4 = .ok (.iload_n 0, 1) := by decide +kernel
theorem dJ9_abs_0f7a4_5 : decode cJ9_abs_0f7a4 5 = .ok (.ineg, 1) := by decide +kernel
theorem dJ9_abs_0f7a4_6 : decode cJ9_abs_0f7a4 6 = .ok (.goto 4, 3) := by decide +kernel
theorem dJ9_abs_0f7a4_9 : decode cJ9_abs_0f7a4 9 = .ok (.iload_n 0, 1) := by decide +kernel
theorem dJ9_abs_0f7a4_10 : decode cJ9_abs_0f7a4 10 = .ok (.ireturn, 1) := by decide +kernel
section
variable {g : GG} {p : Program} {l : Launch} {e : Env} {R : Room} {s : State} {m : MethodId} {args : Array Value} {below : List Frame} {meth : Method} {c : Code} {n0 z0 : Nat}
def f_J9_abs_0f7a4_0  (x0 : Int32) (h : AH) : Option (Int32 × AH) :=
  if 0 ≤ x0 then
    some (x0, h)
  else
    some (-x0, h)
set_option maxHeartbeats 1000000 in
theorem w_J9_abs_0f7a4_0 (X : Cx g p s m args meth c cJ9_abs_0f7a4 1 "java/lang/Math") (hR : 1 ≤ R.frames ∧ 64 ≤ R.locals) (hr : meth.sig.returnType = (some (.int))) {res : Int32 × AH} : ∀ (x0 : Int32) (h : AH) (ls : Array Slot) (H : Heap) (locs : List Loc), f_J9_abs_0f7a4_0 x0 h = some res → Iv g s n0 z0 h H locs 0 0 → lv_has ls 1 [(0, .int x0)] → W p l e R s m args below meth c H locs 0 0 (MQ below (QG g (some (.int res.1)) res.2) args s 0 0 (AG g)) (F0 m 0 ls []) := by
  have hx := X.1
  have hb := X.2.1
  intro x0 h ls H locs hf I hl
  unfold f_J9_abs_0f7a4_0 at hf
  refine lv_iload_n hx hb dJ9_abs_0f7a4_0 rfl (lv_at hl 0 rfl) ?_
  refine lv_if_ge (tgt := 9) hx hb dJ9_abs_0f7a4_1 (by decide) (fun c1 => ?_) (fun c1 => ?_)
  · rw [if_pos c1] at hf
    refine lv_iload_n hx hb dJ9_abs_0f7a4_9 rfl (lv_at hl 0 rfl) ?_
    cases hf
    exact k_ri X I hr dJ9_abs_0f7a4_10
  · rw [if_neg c1] at hf
    refine lv_iload_n hx hb dJ9_abs_0f7a4_4 rfl (lv_at hl 0 rfl) ?_
    refine lv_ineg hx hb dJ9_abs_0f7a4_5 ?_
    refine lv_goto (tgt := 10) hx hb dJ9_abs_0f7a4_6 (by decide) ?_
    cases hf
    exact k_ri X I hr dJ9_abs_0f7a4_10
def f_J9_abs_0f7a4 (x0 : Int32) (h : AH) : Option (Int32 × AH) := f_J9_abs_0f7a4_0 x0 h
end
theorem c_J9_abs_0f7a4 (l : Launch) (g : GG) (x0 : Int32) {h : AH} {res : Int32 × AH} (hf : f_J9_abs_0f7a4 x0 h = some res) : CM l g yJ9_abs_0f7a4 cJ9_abs_0f7a4 1 (some (.int)) 1 64 0 0 [.int x0] h (some (.int res.1)) res.2 :=
  k_bodyF (by decide +kernel) (Nat.le_of_ble_eq_true rfl) (fun p e s m below meth c R ls hR hr X I hl => w_J9_abs_0f7a4_0 X ⟨Nat.le_of_eq hR.1.symm, Nat.le_of_eq hR.2.1.symm⟩ hr x0 h ls s.heap [] hf I (lv_sub hl [0] rfl))
/-! java/lang/Math.max(II)I -/
theorem dJ9_max_7cf53_0 : decode cJ9_max_7cf53 0 = .ok (.iload_n 0, 1) := by decide +kernel
theorem dJ9_max_7cf53_1 : decode cJ9_max_7cf53 1 = .ok (.iload_n 1, 1) := by decide +kernel
theorem dJ9_max_7cf53_2 : decode cJ9_max_7cf53 2 = .ok (.if_icmp .lt 7, 3) := by decide +kernel
theorem dJ9_max_7cf53_5 : decode cJ9_max_7cf53 5 = .ok (.iload_n 0, 1) := by decide +kernel
theorem dJ9_max_7cf53_6 : decode cJ9_max_7cf53 6 = .ok (.goto 4, 3) := by decide +kernel
theorem dJ9_max_7cf53_9 : decode cJ9_max_7cf53 9 = .ok (.iload_n 1, 1) := by decide +kernel
theorem dJ9_max_7cf53_10 : decode cJ9_max_7cf53 10 = .ok (.ireturn, 1) := by decide +kernel
section
variable {g : GG} {p : Program} {l : Launch} {e : Env} {R : Room} {s : State} {m : MethodId} {args : Array Value} {below : List Frame} {meth : Method} {c : Code} {n0 z0 : Nat}
def f_J9_max_7cf53_0  (x0 : Int32) (x1 : Int32) (h : AH) : Option (Int32 × AH) :=
  if x0 < x1 then
    some (x1, h)
  else
    some (x0, h)
set_option maxHeartbeats 1000000 in
theorem w_J9_max_7cf53_0 (X : Cx g p s m args meth c cJ9_max_7cf53 2 "java/lang/Math") (hR : 1 ≤ R.frames ∧ 64 ≤ R.locals) (hr : meth.sig.returnType = (some (.int))) {res : Int32 × AH} : ∀ (x0 : Int32) (x1 : Int32) (h : AH) (ls : Array Slot) (H : Heap) (locs : List Loc), f_J9_max_7cf53_0 x0 x1 h = some res → Iv g s n0 z0 h H locs 0 0 → lv_has ls 2 [(0, .int x0), (1, .int x1)] → W p l e R s m args below meth c H locs 0 0 (MQ below (QG g (some (.int res.1)) res.2) args s 0 0 (AG g)) (F0 m 0 ls []) := by
  have hx := X.1
  have hb := X.2.1
  intro x0 x1 h ls H locs hf I hl
  unfold f_J9_max_7cf53_0 at hf
  refine lv_iload_n hx hb dJ9_max_7cf53_0 rfl (lv_at hl 0 rfl) ?_
  refine lv_iload_n hx hb dJ9_max_7cf53_1 rfl (lv_at hl 1 rfl) ?_
  refine lv_icmp_lt (tgt := 9) hx hb dJ9_max_7cf53_2 (by decide) (fun c1 => ?_) (fun c1 => ?_)
  · rw [if_pos c1] at hf
    refine lv_iload_n hx hb dJ9_max_7cf53_9 rfl (lv_at hl 1 rfl) ?_
    cases hf
    exact k_ri X I hr dJ9_max_7cf53_10
  · rw [if_neg c1] at hf
    refine lv_iload_n hx hb dJ9_max_7cf53_5 rfl (lv_at hl 0 rfl) ?_
    refine lv_goto (tgt := 10) hx hb dJ9_max_7cf53_6 (by decide) ?_
    cases hf
    exact k_ri X I hr dJ9_max_7cf53_10
def f_J9_max_7cf53 (x0 : Int32) (x1 : Int32) (h : AH) : Option (Int32 × AH) := f_J9_max_7cf53_0 x0 x1 h
end
theorem c_J9_max_7cf53 (l : Launch) (g : GG) (x0 : Int32) (x1 : Int32) {h : AH} {res : Int32 × AH} (hf : f_J9_max_7cf53 x0 x1 h = some res) : CM l g yJ9_max_7cf53 cJ9_max_7cf53 2 (some (.int)) 1 64 0 0 [.int x0, .int x1] h (some (.int res.1)) res.2 :=
  k_bodyF (by decide +kernel) (Nat.le_of_ble_eq_true rfl) (fun p e s m below meth c R ls hR hr X I hl => w_J9_max_7cf53_0 X ⟨Nat.le_of_eq hR.1.symm, Nat.le_of_eq hR.2.1.symm⟩ hr x0 x1 h ls s.heap [] hf I (lv_sub hl [0, 1] rfl))
/-! java/lang/Math.max(JJ)J -/
theorem dJ9_max_f86c9_0 : decode cJ9_max_f86c9 0 = .ok (.lload_n 0, 1) := by decide +kernel
theorem dJ9_max_f86c9_1 : decode cJ9_max_f86c9 1 = .ok (.lload_n 2, 1) := by decide +kernel
theorem dJ9_max_f86c9_2 : decode cJ9_max_f86c9 2 = .ok (.lcmp, 1) := by decide +kernel
theorem dJ9_max_f86c9_3 : decode cJ9_max_f86c9 3 = .ok (.ifCond .lt 7, 3) := by decide +kernel
theorem dJ9_max_f86c9_6 : decode cJ9_max_f86c9 6 = .ok (.lload_n 0, 1) := by decide +kernel
theorem dJ9_max_f86c9_7 : decode cJ9_max_f86c9 7 = .ok (.goto 4, 3) := by decide +kernel
theorem dJ9_max_f86c9_10 : decode cJ9_max_f86c9 10 = .ok (.lload_n 2, 1) := by decide +kernel
theorem dJ9_max_f86c9_11 : decode cJ9_max_f86c9 11 = .ok (.lreturn, 1) := by decide +kernel
section
variable {g : GG} {p : Program} {l : Launch} {e : Env} {R : Room} {s : State} {m : MethodId} {args : Array Value} {below : List Frame} {meth : Method} {c : Code} {n0 z0 : Nat}
def f_J9_max_f86c9_11  (s0 : Int64) (h : AH) : Option (Int64 × AH) :=
  some (s0, h)
set_option maxHeartbeats 1000000 in
theorem w_J9_max_f86c9_11 (X : Cx g p s m args meth c cJ9_max_f86c9 4 "java/lang/Math") (hR : 1 ≤ R.frames ∧ 64 ≤ R.locals) (hr : meth.sig.returnType = (some (.long))) {res : Int64 × AH} : ∀ (s0 : Int64) (h : AH) (ls : Array Slot) (H : Heap) (locs : List Loc), f_J9_max_f86c9_11 s0 h = some res → Iv g s n0 z0 h H locs 0 0 → lv_has ls 4 [] → W p l e R s m args below meth c H locs 0 0 (MQ below (QG g (some (.long res.1)) res.2) args s 0 0 (AG g)) (F0 m 11 ls [.long s0]) := by
  have hx := X.1
  have hb := X.2.1
  intro s0 h ls H locs hf I hl
  unfold f_J9_max_f86c9_11 at hf
  cases hf
  exact k_rl X I hr dJ9_max_f86c9_11
def f_J9_max_f86c9_0  (y0 : Int64) (y2 : Int64) (h : AH) : Option (Int64 × AH) :=
  if (lg_cmp y0 y2) < 0 then
    f_J9_max_f86c9_11 y2 h
  else
    f_J9_max_f86c9_11 y0 h
set_option maxHeartbeats 1000000 in
theorem w_J9_max_f86c9_0 (X : Cx g p s m args meth c cJ9_max_f86c9 4 "java/lang/Math") (hR : 1 ≤ R.frames ∧ 64 ≤ R.locals) (hr : meth.sig.returnType = (some (.long))) {res : Int64 × AH} : ∀ (y0 : Int64) (y2 : Int64) (h : AH) (ls : Array Slot) (H : Heap) (locs : List Loc), f_J9_max_f86c9_0 y0 y2 h = some res → Iv g s n0 z0 h H locs 0 0 → lv_has ls 4 [(0, .long y0), (2, .long y2)] → W p l e R s m args below meth c H locs 0 0 (MQ below (QG g (some (.long res.1)) res.2) args s 0 0 (AG g)) (F0 m 0 ls []) := by
  have hx := X.1
  have hb := X.2.1
  intro y0 y2 h ls H locs hf I hl
  unfold f_J9_max_f86c9_0 at hf
  refine lv_lload_n hx hb dJ9_max_f86c9_0 rfl (lv_at hl 0 rfl) ?_
  refine lv_lload_n hx hb dJ9_max_f86c9_1 rfl (lv_at hl 1 rfl) ?_
  refine W.lcmp hx hb dJ9_max_f86c9_2 ?_
  refine lv_if_lt (tgt := 10) hx hb dJ9_max_f86c9_3 (by decide) (fun c1 => ?_) (fun c1 => ?_)
  · rw [if_pos c1] at hf
    refine lv_lload_n hx hb dJ9_max_f86c9_10 rfl (lv_at hl 1 rfl) ?_
    exact w_J9_max_f86c9_11 X hR hr  y2 h ls H locs hf I (lv_sub hl [] rfl)
  · rw [if_neg c1] at hf
    refine lv_lload_n hx hb dJ9_max_f86c9_6 rfl (lv_at hl 0 rfl) ?_
    refine lv_goto (tgt := 11) hx hb dJ9_max_f86c9_7 (by decide) ?_
    exact w_J9_max_f86c9_11 X hR hr  y0 h ls H locs hf I (lv_sub hl [] rfl)
def f_J9_max_f86c9 (y0 : Int64) (y2 : Int64) (h : AH) : Option (Int64 × AH) := f_J9_max_f86c9_0 y0 y2 h
end
theorem c_J9_max_f86c9 (l : Launch) (g : GG) (y0 : Int64) (y2 : Int64) {h : AH} {res : Int64 × AH} (hf : f_J9_max_f86c9 y0 y2 h = some res) : CM l g yJ9_max_f86c9 cJ9_max_f86c9 4 (some (.long)) 1 64 0 0 [.long y0, .long y2] h (some (.long res.1)) res.2 :=
  k_bodyF (by decide +kernel) (Nat.le_of_ble_eq_true rfl) (fun p e s m below meth c R ls hR hr X I hl => w_J9_max_f86c9_0 X ⟨Nat.le_of_eq hR.1.symm, Nat.le_of_eq hR.2.1.symm⟩ hr y0 y2 h ls s.heap [] hf I (lv_sub hl [0, 1] rfl))
/-! java/lang/Math.min(II)I -/
theorem dJ9_min_7cf53_0 : decode cJ9_min_7cf53 0 = .ok (.iload_n 0, 1) := by decide +kernel
theorem dJ9_min_7cf53_1 : decode cJ9_min_7cf53 1 = .ok (.iload_n 1, 1) := by decide +kernel
theorem dJ9_min_7cf53_2 : decode cJ9_min_7cf53 2 = .ok (.if_icmp .gt 7, 3) := by decide +kernel
theorem dJ9_min_7cf53_5 : decode cJ9_min_7cf53 5 = .ok (.iload_n 0, 1) := by decide +kernel
theorem dJ9_min_7cf53_6 : decode cJ9_min_7cf53 6 = .ok (.goto 4, 3) := by decide +kernel
theorem dJ9_min_7cf53_9 : decode cJ9_min_7cf53 9 = .ok (.iload_n 1, 1) := by decide +kernel
theorem dJ9_min_7cf53_10 : decode cJ9_min_7cf53 10 = .ok (.ireturn, 1) := by decide +kernel
section
variable {g : GG} {p : Program} {l : Launch} {e : Env} {R : Room} {s : State} {m : MethodId} {args : Array Value} {below : List Frame} {meth : Method} {c : Code} {n0 z0 : Nat}
def f_J9_min_7cf53_0  (x0 : Int32) (x1 : Int32) (h : AH) : Option (Int32 × AH) :=
  if x1 < x0 then
    some (x1, h)
  else
    some (x0, h)
set_option maxHeartbeats 1000000 in
theorem w_J9_min_7cf53_0 (X : Cx g p s m args meth c cJ9_min_7cf53 2 "java/lang/Math") (hR : 1 ≤ R.frames ∧ 64 ≤ R.locals) (hr : meth.sig.returnType = (some (.int))) {res : Int32 × AH} : ∀ (x0 : Int32) (x1 : Int32) (h : AH) (ls : Array Slot) (H : Heap) (locs : List Loc), f_J9_min_7cf53_0 x0 x1 h = some res → Iv g s n0 z0 h H locs 0 0 → lv_has ls 2 [(0, .int x0), (1, .int x1)] → W p l e R s m args below meth c H locs 0 0 (MQ below (QG g (some (.int res.1)) res.2) args s 0 0 (AG g)) (F0 m 0 ls []) := by
  have hx := X.1
  have hb := X.2.1
  intro x0 x1 h ls H locs hf I hl
  unfold f_J9_min_7cf53_0 at hf
  refine lv_iload_n hx hb dJ9_min_7cf53_0 rfl (lv_at hl 0 rfl) ?_
  refine lv_iload_n hx hb dJ9_min_7cf53_1 rfl (lv_at hl 1 rfl) ?_
  refine lv_icmp_gt (tgt := 9) hx hb dJ9_min_7cf53_2 (by decide) (fun c1 => ?_) (fun c1 => ?_)
  · rw [if_pos c1] at hf
    refine lv_iload_n hx hb dJ9_min_7cf53_9 rfl (lv_at hl 1 rfl) ?_
    cases hf
    exact k_ri X I hr dJ9_min_7cf53_10
  · rw [if_neg c1] at hf
    refine lv_iload_n hx hb dJ9_min_7cf53_5 rfl (lv_at hl 0 rfl) ?_
    refine lv_goto (tgt := 10) hx hb dJ9_min_7cf53_6 (by decide) ?_
    cases hf
    exact k_ri X I hr dJ9_min_7cf53_10
def f_J9_min_7cf53 (x0 : Int32) (x1 : Int32) (h : AH) : Option (Int32 × AH) := f_J9_min_7cf53_0 x0 x1 h
end
theorem c_J9_min_7cf53 (l : Launch) (g : GG) (x0 : Int32) (x1 : Int32) {h : AH} {res : Int32 × AH} (hf : f_J9_min_7cf53 x0 x1 h = some res) : CM l g yJ9_min_7cf53 cJ9_min_7cf53 2 (some (.int)) 1 64 0 0 [.int x0, .int x1] h (some (.int res.1)) res.2 :=
  k_bodyF (by decide +kernel) (Nat.le_of_ble_eq_true rfl) (fun p e s m below meth c R ls hR hr X I hl => w_J9_min_7cf53_0 X ⟨Nat.le_of_eq hR.1.symm, Nat.le_of_eq hR.2.1.symm⟩ hr x0 x1 h ls s.heap [] hf I (lv_sub hl [0, 1] rfl))
/-! java/lang/Math.min(JJ)J -/
theorem dJ9_min_f86c9_0 : decode cJ9_min_f86c9 0 = .ok (.lload_n 0, 1) := by decide +kernel
theorem dJ9_min_f86c9_1 : decode cJ9_min_f86c9 1 = .ok (.lload_n 2, 1) := by decide +kernel
theorem dJ9_min_f86c9_2 : decode cJ9_min_f86c9 2 = .ok (.lcmp, 1) := by decide +kernel
theorem dJ9_min_f86c9_3 : decode cJ9_min_f86c9 3 = .ok (.ifCond .gt 7, 3) := by decide +kernel
theorem dJ9_min_f86c9_6 : decode cJ9_min_f86c9 6 = .ok (.lload_n 0, 1) := by decide +kernel
theorem dJ9_min_f86c9_7 : decode cJ9_min_f86c9 7 = .ok (.goto 4, 3) := by decide +kernel
theorem dJ9_min_f86c9_10 : decode cJ9_min_f86c9 10 = .ok (.lload_n 2, 1) := by decide +kernel
theorem dJ9_min_f86c9_11 : decode cJ9_min_f86c9 11 = .ok (.lreturn, 1) := by decide +kernel
section
variable {g : GG} {p : Program} {l : Launch} {e : Env} {R : Room} {s : State} {m : MethodId} {args : Array Value} {below : List Frame} {meth : Method} {c : Code} {n0 z0 : Nat}
def f_J9_min_f86c9_11  (s0 : Int64) (h : AH) : Option (Int64 × AH) :=
  some (s0, h)
set_option maxHeartbeats 1000000 in
theorem w_J9_min_f86c9_11 (X : Cx g p s m args meth c cJ9_min_f86c9 4 "java/lang/Math") (hR : 1 ≤ R.frames ∧ 64 ≤ R.locals) (hr : meth.sig.returnType = (some (.long))) {res : Int64 × AH} : ∀ (s0 : Int64) (h : AH) (ls : Array Slot) (H : Heap) (locs : List Loc), f_J9_min_f86c9_11 s0 h = some res → Iv g s n0 z0 h H locs 0 0 → lv_has ls 4 [] → W p l e R s m args below meth c H locs 0 0 (MQ below (QG g (some (.long res.1)) res.2) args s 0 0 (AG g)) (F0 m 11 ls [.long s0]) := by
  have hx := X.1
  have hb := X.2.1
  intro s0 h ls H locs hf I hl
  unfold f_J9_min_f86c9_11 at hf
  cases hf
  exact k_rl X I hr dJ9_min_f86c9_11
def f_J9_min_f86c9_0  (y0 : Int64) (y2 : Int64) (h : AH) : Option (Int64 × AH) :=
  if 0 < (lg_cmp y0 y2) then
    f_J9_min_f86c9_11 y2 h
  else
    f_J9_min_f86c9_11 y0 h
set_option maxHeartbeats 1000000 in
theorem w_J9_min_f86c9_0 (X : Cx g p s m args meth c cJ9_min_f86c9 4 "java/lang/Math") (hR : 1 ≤ R.frames ∧ 64 ≤ R.locals) (hr : meth.sig.returnType = (some (.long))) {res : Int64 × AH} : ∀ (y0 : Int64) (y2 : Int64) (h : AH) (ls : Array Slot) (H : Heap) (locs : List Loc), f_J9_min_f86c9_0 y0 y2 h = some res → Iv g s n0 z0 h H locs 0 0 → lv_has ls 4 [(0, .long y0), (2, .long y2)] → W p l e R s m args below meth c H locs 0 0 (MQ below (QG g (some (.long res.1)) res.2) args s 0 0 (AG g)) (F0 m 0 ls []) := by
  have hx := X.1
  have hb := X.2.1
  intro y0 y2 h ls H locs hf I hl
  unfold f_J9_min_f86c9_0 at hf
  refine lv_lload_n hx hb dJ9_min_f86c9_0 rfl (lv_at hl 0 rfl) ?_
  refine lv_lload_n hx hb dJ9_min_f86c9_1 rfl (lv_at hl 1 rfl) ?_
  refine W.lcmp hx hb dJ9_min_f86c9_2 ?_
  refine lv_if_gt (tgt := 10) hx hb dJ9_min_f86c9_3 (by decide) (fun c1 => ?_) (fun c1 => ?_)
  · rw [if_pos c1] at hf
    refine lv_lload_n hx hb dJ9_min_f86c9_10 rfl (lv_at hl 1 rfl) ?_
    exact w_J9_min_f86c9_11 X hR hr  y2 h ls H locs hf I (lv_sub hl [] rfl)
  · rw [if_neg c1] at hf
    refine lv_lload_n hx hb dJ9_min_f86c9_6 rfl (lv_at hl 0 rfl) ?_
    refine lv_goto (tgt := 11) hx hb dJ9_min_f86c9_7 (by decide) ?_
    exact w_J9_min_f86c9_11 X hR hr  y0 h ls H locs hf I (lv_sub hl [] rfl)
def f_J9_min_f86c9 (y0 : Int64) (y2 : Int64) (h : AH) : Option (Int64 × AH) := f_J9_min_f86c9_0 y0 y2 h
end
theorem c_J9_min_f86c9 (l : Launch) (g : GG) (y0 : Int64) (y2 : Int64) {h : AH} {res : Int64 × AH} (hf : f_J9_min_f86c9 y0 y2 h = some res) : CM l g yJ9_min_f86c9 cJ9_min_f86c9 4 (some (.long)) 1 64 0 0 [.long y0, .long y2] h (some (.long res.1)) res.2 :=
  k_bodyF (by decide +kernel) (Nat.le_of_ble_eq_true rfl) (fun p e s m below meth c R ls hR hr X I hl => w_J9_min_f86c9_0 X ⟨Nat.le_of_eq hR.1.symm, Nat.le_of_eq hR.2.1.symm⟩ hr y0 y2 h ls s.heap [] hf I (lv_sub hl [0, 1] rfl))
/-! java/lang/StringLatin1.canEncode(I)Z -/
theorem dJ1_canEncode_9a6ad_0 : decode cJ1_canEncode_9a6ad 0 = .ok (.iload_n 0, 1) := by decide +kernel
theorem dJ1_canEncode_9a6ad_1 : decode cJ1_canEncode_9a6ad 1 = .ok (.ifCond .lt 14, 3) := by decide +kernel
theorem dJ1_canEncode_9a6ad_4 : decode cJ1_canEncode_9a6ad 4 = .ok (.iload_n 0, 1) := by decide +kernel
theorem dJ1_canEncode_9a6ad_5 : decode cJ1_canEncode_9a6ad 5 = .ok (.sipush 255, 3) := by decide +kernel
theorem dJ1_canEncode_9a6ad_8 : decode cJ1_canEncode_9a6ad 8 = .ok (.if_icmp .gt 7, 3) := by decide +kernel
theorem dJ1_canEncode_9a6ad_11 : decode cJ1_canEncode_9a6ad 11 = .ok (.iconst 1, 1) := by decide +kernel
theorem dJ1_canEncode_9a6ad_12 : decode cJ1_canEncode_9a6ad 12 = .ok (.goto 4, 3) := by decide +kernel
theorem dJ1_canEncode_9a6ad_15 : decode cJ1_canEncode_9a6ad 15 = .ok (.iconst 0, 1) := by decide +kernel
theorem dJ1_canEncode_9a6ad_16 : decode cJ1_canEncode_9a6ad 16 = .ok (.ireturn, 1) := by decide +kernel
section
variable {g : GG} {p : Program} {l : Launch} {e : Env} {R : Room} {s : State} {m : MethodId} {args : Array Value} {below : List Frame} {meth : Method} {c : Code} {n0 z0 : Nat}
def f_J1_canEncode_9a6ad_0  (x0 : Int32) (h : AH) : Option (Int32 × AH) :=
  if x0 < 0 then
    some (0, h)
  else
    if 255 < x0 then
      some (0, h)
    else
      some (1, h)
set_option maxHeartbeats 1000000 in
theorem w_J1_canEncode_9a6ad_0 (X : Cx g p s m args meth c cJ1_canEncode_9a6ad 1 "java/lang/StringLatin1") (hR : 1 ≤ R.frames ∧ 64 ≤ R.locals) (hr : meth.sig.returnType = (some (.boolean))) {res : Int32 × AH} : ∀ (x0 : Int32) (h : AH) (ls : Array Slot) (H : Heap) (locs : List Loc), f_J1_canEncode_9a6ad_0 x0 h = some res → Iv g s n0 z0 h H locs 0 0 → lv_has ls 1 [(0, .int x0)] → W p l e R s m args below meth c H locs 0 0 (MQ below (QG g (some (.int res.1)) res.2) args s 0 0 (AG g)) (F0 m 0 ls []) := by
  have hx := X.1
  have hb := X.2.1
  intro x0 h ls H locs hf I hl
  unfold f_J1_canEncode_9a6ad_0 at hf
  refine lv_iload_n hx hb dJ1_canEncode_9a6ad_0 rfl (lv_at hl 0 rfl) ?_
  refine lv_if_lt (tgt := 15) hx hb dJ1_canEncode_9a6ad_1 (by decide) (fun c1 => ?_) (fun c1 => ?_)
  · rw [if_pos c1] at hf
    refine lv_iconst (v := 0) hx hb dJ1_canEncode_9a6ad_15 (by decide) ?_
    cases hf
    exact k_rz X I hr (Or.inl rfl) dJ1_canEncode_9a6ad_16
  · rw [if_neg c1] at hf
    refine lv_iload_n hx hb dJ1_canEncode_9a6ad_4 rfl (lv_at hl 0 rfl) ?_
    refine lv_sipush (v := 255) hx hb dJ1_canEncode_9a6ad_5 (by decide) ?_
    refine lv_icmp_gt (tgt := 15) hx hb dJ1_canEncode_9a6ad_8 (by decide) (fun c2 => ?_) (fun c2 => ?_)
    · rw [if_pos c2] at hf
      refine lv_iconst (v := 0) hx hb dJ1_canEncode_9a6ad_15 (by decide) ?_
      cases hf
      exact k_rz X I hr (Or.inl rfl) dJ1_canEncode_9a6ad_16
    · rw [if_neg c2] at hf
      refine lv_iconst (v := 1) hx hb dJ1_canEncode_9a6ad_11 (by decide) ?_
      refine lv_goto (tgt := 16) hx hb dJ1_canEncode_9a6ad_12 (by decide) ?_
      cases hf
      exact k_rz X I hr (Or.inr rfl) dJ1_canEncode_9a6ad_16
def f_J1_canEncode_9a6ad (x0 : Int32) (h : AH) : Option (Int32 × AH) := f_J1_canEncode_9a6ad_0 x0 h
end
theorem c_J1_canEncode_9a6ad (l : Launch) (g : GG) (x0 : Int32) {h : AH} {res : Int32 × AH} (hf : f_J1_canEncode_9a6ad x0 h = some res) : CM l g yJ1_canEncode_9a6ad cJ1_canEncode_9a6ad 1 (some (.boolean)) 1 64 0 0 [.int x0] h (some (.int res.1)) res.2 :=
  k_bodyF (by decide +kernel) (Nat.le_of_ble_eq_true rfl) (fun p e s m below meth c R ls hR hr X I hl => w_J1_canEncode_9a6ad_0 X ⟨Nat.le_of_eq hR.1.symm, Nat.le_of_eq hR.2.1.symm⟩ hr x0 h ls s.heap [] hf I (lv_sub hl [0] rfl))
/-! java/lang/StringLatin1.indexOfChar([BIII)I -/
theorem dJ1_indexOfChar_4cfef_0 : decode cJ1_indexOfChar_4cfef 0 = .ok (.iload_n 1, 1) := by decide +kernel
theorem dJ1_indexOfChar_4cfef_1 : decode cJ1_indexOfChar_4cfef 1 = .ok (.i2b, 1) := by decide +kernel
theorem dJ1_indexOfChar_4cfef_2 : decode cJ1_indexOfChar_4cfef 2 = .ok (.istore 4, 2) := by decide +kernel
theorem dJ1_indexOfChar_4cfef_4 : decode cJ1_indexOfChar_4cfef 4 = .ok (.iload_n 2, 1) := by decide +kernel
theorem dJ1_indexOfChar_4cfef_5 : decode cJ1_indexOfChar_4cfef 5 = .ok (.istore 5, 2) := by decide +kernel
theorem dJ1_indexOfChar_4cfef_7 : decode cJ1_indexOfChar_4cfef 7 = .ok (.iload 5, 2) := by decide +kernel
theorem dJ1_indexOfChar_4cfef_9 : decode cJ1_indexOfChar_4cfef 9 = .ok (.iload_n 3, 1) := by decide +kernel
theorem dJ1_indexOfChar_4cfef_10 : decode cJ1_indexOfChar_4cfef 10 = .ok (.if_icmp .ge 21, 3) := by decide +kernel
theorem dJ1_indexOfChar_4cfef_13 : decode cJ1_indexOfChar_4cfef 13 = .ok (.aload_n 0, 1) := by decide +kernel
theorem dJ1_indexOfChar_4cfef_14 : decode cJ1_indexOfChar_4cfef 14 = .ok (.iload 5, 2) := by decide +kernel
theorem dJ1_indexOfChar_4cfef_16 : decode cJ1_indexOfChar_4cfef 16 = .ok (.baload, 1) := by decide +kernel
theorem dJ1_indexOfChar_4cfef_17 : decode cJ1_indexOfChar_4cfef 17 = .ok (.iload 4, 2) := by decide +kernel
theorem dJ1_indexOfChar_4cfef_19 : decode cJ1_indexOfChar_4cfef 19 = .ok (.if_icmp .ne 6, 3) := by decide +kernel
theorem dJ1_indexOfChar_4cfef_22 : decode cJ1_indexOfChar_4cfef 22 = .ok (.iload 5, 2) := by decide +kernel
theorem dJ1_indexOfChar_4cfef_24 : decode cJ1_indexOfChar_4cfef 24 = .ok (.ireturn, 1) := by decide +kernel
theorem dJ1_indexOfChar_4cfef_25 : decode cJ1_indexOfChar_4cfef 25 = .ok (.iinc 5 1, 3) := by decide +kernel
theorem dJ1_indexOfChar_4cfef_28 : decode cJ1_indexOfChar_4cfef 28 = .ok (.goto (-21), 3) := by decide +kernel
theorem dJ1_indexOfChar_4cfef_31 : decode cJ1_indexOfChar_4cfef 31 = .ok (.iconst (-1), 1) := by decide +kernel
theorem dJ1_indexOfChar_4cfef_32 : decode cJ1_indexOfChar_4cfef 32 = .ok (.ireturn, 1) := by decide +kernel
section
variable {g : GG} {p : Program} {l : Launch} {e : Env} {R : Room} {s : State} {m : MethodId} {args : Array Value} {below : List Frame} {meth : Method} {c : Code} {n0 z0 : Nat}
def f_J1_indexOfChar_4cfef_7  : Nat → Nat → Int32 → Int32 → Int32 → AH → Option (Int32 × AH)
  | 0, _, _, _, _, _ => none
  | n + 1, o0, x3, x4, x5, h =>
  if x3 ≤ x5 then
    some ((-1), h)
  else
    (aI 1 h o0 x5).bind fun v2 =>
    if v2 = x4 then
      some (x5, h)
    else
      f_J1_indexOfChar_4cfef_7  n o0 x3 x4 (x5 + 1) h
set_option maxHeartbeats 1000000 in
theorem w_J1_indexOfChar_4cfef_7 (X : Cx g p s m args meth c cJ1_indexOfChar_4cfef 6 "java/lang/StringLatin1") (hR : 1 ≤ R.frames ∧ 64 ≤ R.locals) (hr : meth.sig.returnType = (some (.int))) {res : Int32 × AH} : ∀ (n : Nat) (o0 : Nat) (x3 : Int32) (x4 : Int32) (x5 : Int32) (h : AH) (ls : Array Slot) (H : Heap) (locs : List Loc), f_J1_indexOfChar_4cfef_7 n o0 x3 x4 x5 h = some res → Iv g s n0 z0 h H locs 0 0 → lv_has ls 6 [(0, .ref (rfG g o0)), (3, .int x3), (4, .int x4), (5, .int x5)] → W p l e R s m args below meth c H locs 0 0 (MQ below (QG g (some (.int res.1)) res.2) args s 0 0 (AG g)) (F0 m 7 ls []) := by
  have hx := X.1
  have hb := X.2.1
  intro n
  induction n with
  | zero =>
    intro o0 x3 x4 x5 h ls H locs hf
    rw [f_J1_indexOfChar_4cfef_7.eq_1] at hf
    cases hf
  | succ n ih =>
    intro o0 x3 x4 x5 h ls H locs hf I hl
    rw [f_J1_indexOfChar_4cfef_7.eq_2] at hf
    refine lv_iload hx hb dJ1_indexOfChar_4cfef_7 (lv_at hl 3 rfl) ?_
    refine lv_iload_n hx hb dJ1_indexOfChar_4cfef_9 rfl (lv_at hl 1 rfl) ?_
    refine lv_icmp_ge (tgt := 31) hx hb dJ1_indexOfChar_4cfef_10 (by decide) (fun c1 => ?_) (fun c1 => ?_)
    · rw [if_pos c1] at hf
      refine lv_iconst (v := (-1)) hx hb dJ1_indexOfChar_4cfef_31 (by decide) ?_
      cases hf
      exact k_ri X I hr dJ1_indexOfChar_4cfef_32
    · rw [if_neg c1] at hf
      refine lv_aload_n hx hb dJ1_indexOfChar_4cfef_13 rfl (lv_at hl 0 rfl) ?_
      refine lv_iload hx hb dJ1_indexOfChar_4cfef_14 (lv_at hl 3 rfl) ?_
      obtain ⟨v2, e3, hf⟩ := Option.bind_eq_some_iff.mp hf
      refine r_aI1 X I e3 dJ1_indexOfChar_4cfef_16 ?_
      refine lv_iload hx hb dJ1_indexOfChar_4cfef_17 (lv_at hl 2 rfl) ?_
      refine lv_icmp_ne (tgt := 25) hx hb dJ1_indexOfChar_4cfef_19 (by decide) (fun c4 => ?_) (fun c4 => ?_)
      · rw [if_neg c4] at hf
        refine lv_iinc (v := x5 + 1) (lv' := [(5, .int (x5 + 1)), (0, .ref (rfG g o0)), (3, .int x3), (4, .int x4)]) hx hb dJ1_indexOfChar_4cfef_25 hl (k := 3) rfl rfl (by decide) rfl (fun ls hl => ?_)
        refine lv_goto (tgt := 7) hx hb dJ1_indexOfChar_4cfef_28 (by decide) ?_
        exact ih o0 x3 x4 (x5 + 1) h ls H locs hf I (lv_sub hl [1, 2, 3, 0] rfl)
      · rw [if_pos c4] at hf
        refine lv_iload hx hb dJ1_indexOfChar_4cfef_22 (lv_at hl 3 rfl) ?_
        cases hf
        exact k_ri X I hr dJ1_indexOfChar_4cfef_24
def f_J1_indexOfChar_4cfef_0  (o0 : Nat) (x1 : Int32) (x2 : Int32) (x3 : Int32) (h : AH) : Option (Int32 × AH) :=
  f_J1_indexOfChar_4cfef_7 fu o0 x3 (x1.toInt8.toInt32) x2 h
set_option maxHeartbeats 1000000 in
theorem w_J1_indexOfChar_4cfef_0 (X : Cx g p s m args meth c cJ1_indexOfChar_4cfef 6 "java/lang/StringLatin1") (hR : 1 ≤ R.frames ∧ 64 ≤ R.locals) (hr : meth.sig.returnType = (some (.int))) {res : Int32 × AH} : ∀ (o0 : Nat) (x1 : Int32) (x2 : Int32) (x3 : Int32) (h : AH) (ls : Array Slot) (H : Heap) (locs : List Loc), f_J1_indexOfChar_4cfef_0 o0 x1 x2 x3 h = some res → Iv g s n0 z0 h H locs 0 0 → lv_has ls 6 [(0, .ref (rfG g o0)), (1, .int x1), (2, .int x2), (3, .int x3)] → W p l e R s m args below meth c H locs 0 0 (MQ below (QG g (some (.int res.1)) res.2) args s 0 0 (AG g)) (F0 m 0 ls []) := by
  have hx := X.1
  have hb := X.2.1
  intro o0 x1 x2 x3 h ls H locs hf I hl
  unfold f_J1_indexOfChar_4cfef_0 at hf
  refine lv_iload_n hx hb dJ1_indexOfChar_4cfef_0 rfl (lv_at hl 1 rfl) ?_
  refine lv_i2b hx hb dJ1_indexOfChar_4cfef_1 rfl ?_
  refine lv_istore (lv' := [(4, .int (x1.toInt8.toInt32)), (0, .ref (rfG g o0)), (1, .int x1), (2, .int x2), (3, .int x3)]) hx hb dJ1_indexOfChar_4cfef_2 hl (by decide) rfl (fun ls hl => ?_)
  refine lv_iload_n hx hb dJ1_indexOfChar_4cfef_4 rfl (lv_at hl 3 rfl) ?_
  refine lv_istore (lv' := [(5, .int x2), (4, .int (x1.toInt8.toInt32)), (0, .ref (rfG g o0)), (1, .int x1), (2, .int x2), (3, .int x3)]) hx hb dJ1_indexOfChar_4cfef_5 hl (by decide) rfl (fun ls hl => ?_)
  exact w_J1_indexOfChar_4cfef_7 X hR hr fu o0 x3 (x1.toInt8.toInt32) x2 h ls H locs hf I (lv_sub hl [2, 5, 1, 0] rfl)
def f_J1_indexOfChar_4cfef (o0 : Nat) (x1 : Int32) (x2 : Int32) (x3 : Int32) (h : AH) : Option (Int32 × AH) := f_J1_indexOfChar_4cfef_0 o0 x1 x2 x3 h
end
theorem c_J1_indexOfChar_4cfef (l : Launch) (g : GG) (o0 : Nat) (x1 : Int32) (x2 : Int32) (x3 : Int32) {h : AH} {res : Int32 × AH} (hf : f_J1_indexOfChar_4cfef o0 x1 x2 x3 h = some res) : CM l g yJ1_indexOfChar_4cfef cJ1_indexOfChar_4cfef 6 (some (.int)) 1 64 0 0 [.ref (rfG g o0), .int x1, .int x2, .int x3] h (some (.int res.1)) res.2 :=
  k_bodyF (by decide +kernel) (Nat.le_of_ble_eq_true rfl) (fun p e s m below meth c R ls hR hr X I hl => w_J1_indexOfChar_4cfef_0 X ⟨Nat.le_of_eq hR.1.symm, Nat.le_of_eq hR.2.1.symm⟩ hr o0 x1 x2 x3 h ls s.heap [] hf I (lv_sub hl [0, 1, 2, 3] rfl))
/-! java/util/Arrays.fill([II)V -/
theorem dJ7_fill_53178_0 : decode cJ7_fill_53178 0 = .ok (.iconst 0, 1) := by decide +kernel
theorem dJ7_fill_53178_1 : decode cJ7_fill_53178 1 = .ok (.istore_n 2, 1) := by decide +kernel
theorem dJ7_fill_53178_2 : decode cJ7_fill_53178 2 = .ok (.aload_n 0, 1) := by decide +kernel
theorem dJ7_fill_53178_3 : decode cJ7_fill_53178 3 = .ok (.arraylength, 1) := by decide +kernel
theorem dJ7_fill_53178_4 : decode cJ7_fill_53178 4 = .ok (.istore_n 3, 1) := by decide +kernel
theorem dJ7_fill_53178_5 : decode cJ7_fill_53178 5 = .ok (.iload_n 2, 1) := by decide +kernel
theorem dJ7_fill_53178_6 : decode cJ7_fill_53178 6 = .ok (.iload_n 3, 1) := by decide +kernel
theorem dJ7_fill_53178_7 : decode cJ7_fill_53178 7 = .ok (.if_icmp .ge 13, 3) := by decide +kernel
theorem dJ7_fill_53178_10 : decode cJ7_fill_53178 10 = .ok (.aload_n 0, 1) := by decide +kernel
theorem dJ7_fill_53178_11 : decode cJ7_fill_53178 11 = .ok (.iload_n 2, 1) := by decide +kernel
theorem dJ7_fill_53178_12 : decode cJ7_fill_53178 12 = .ok (.iload_n 1, 1) := by decide +kernel
theorem dJ7_fill_53178_13 : decode cJ7_fill_53178 13 = .ok (.iastore, 1) := by decide +kernel
theorem dJ7_fill_53178_14 : decode cJ7_fill_53178 14 = .ok (.iinc 2 1, 3) := by decide +kernel
theorem dJ7_fill_53178_17 : decode cJ7_fill_53178 17 = .ok (.goto (-12), 3) := by decide +kernel
theorem dJ7_fill_53178_20 : decode cJ7_fill_53178 20 = .ok (.return_, 1) := by decide +kernel
section
variable {g : GG} {p : Program} {l : Launch} {e : Env} {R : Room} {s : State} {m : MethodId} {args : Array Value} {below : List Frame} {meth : Method} {c : Code} {n0 z0 : Nat}
def f_J7_fill_53178_5  : Nat → Nat → Int32 → Int32 → Int32 → AH → Option (Unit × AH)
  | 0, _, _, _, _, _ => none
  | n + 1, o0, x1, x2, x3, h =>
  if x3 ≤ x2 then
    some ((), h)
  else
    (uI 0 h o0 x2 x1).bind fun h2 =>
    f_J7_fill_53178_5  n o0 x1 (x2 + 1) x3 h2
set_option maxHeartbeats 1000000 in
theorem w_J7_fill_53178_5 (X : Cx g p s m args meth c cJ7_fill_53178 4 "java/util/Arrays") (hR : 1 ≤ R.frames ∧ 64 ≤ R.locals) (hr : meth.sig.returnType = none) {res : Unit × AH} : ∀ (n : Nat) (o0 : Nat) (x1 : Int32) (x2 : Int32) (x3 : Int32) (h : AH) (ls : Array Slot) (H : Heap) (locs : List Loc), f_J7_fill_53178_5 n o0 x1 x2 x3 h = some res → Iv g s n0 z0 h H locs 0 0 → lv_has ls 4 [(0, .ref (rfG g o0)), (1, .int x1), (2, .int x2), (3, .int x3)] → W p l e R s m args below meth c H locs 0 0 (MQ below (QG g none res.2) args s 0 0 (AG g)) (F0 m 5 ls []) := by
  have hx := X.1
  have hb := X.2.1
  intro n
  induction n with
  | zero =>
    intro o0 x1 x2 x3 h ls H locs hf
    rw [f_J7_fill_53178_5.eq_1] at hf
    cases hf
  | succ n ih =>
    intro o0 x1 x2 x3 h ls H locs hf I hl
    rw [f_J7_fill_53178_5.eq_2] at hf
    refine lv_iload_n hx hb dJ7_fill_53178_5 rfl (lv_at hl 2 rfl) ?_
    refine lv_iload_n hx hb dJ7_fill_53178_6 rfl (lv_at hl 3 rfl) ?_
    refine lv_icmp_ge (tgt := 20) hx hb dJ7_fill_53178_7 (by decide) (fun c1 => ?_) (fun c1 => ?_)
    · rw [if_pos c1] at hf
      cases hf
      exact k_rv X I hr dJ7_fill_53178_20
    · rw [if_neg c1] at hf
      refine lv_aload_n hx hb dJ7_fill_53178_10 rfl (lv_at hl 0 rfl) ?_
      refine lv_iload_n hx hb dJ7_fill_53178_11 rfl (lv_at hl 2 rfl) ?_
      refine lv_iload_n hx hb dJ7_fill_53178_12 rfl (lv_at hl 1 rfl) ?_
      obtain ⟨h2, e3, hf⟩ := Option.bind_eq_some_iff.mp hf
      refine r_uI0 X I e3 dJ7_fill_53178_13 (fun H locs I => ?_)
      refine lv_iinc (v := x2 + 1) (lv' := [(2, .int (x2 + 1)), (0, .ref (rfG g o0)), (1, .int x1), (3, .int x3)]) hx hb dJ7_fill_53178_14 hl (k := 2) rfl rfl (by decide) rfl (fun ls hl => ?_)
      refine lv_goto (tgt := 5) hx hb dJ7_fill_53178_17 (by decide) ?_
      exact ih o0 x1 (x2 + 1) x3 h2 ls H locs hf I (lv_sub hl [1, 2, 0, 3] rfl)
def f_J7_fill_53178_0  (o0 : Nat) (x1 : Int32) (h : AH) : Option (Unit × AH) :=
  (aLen h o0).bind fun v1 =>
  f_J7_fill_53178_5 fu o0 x1 0 v1 h
set_option maxHeartbeats 1000000 in
theorem w_J7_fill_53178_0 (X : Cx g p s m args meth c cJ7_fill_53178 4 "java/util/Arrays") (hR : 1 ≤ R.frames ∧ 64 ≤ R.locals) (hr : meth.sig.returnType = none) {res : Unit × AH} : ∀ (o0 : Nat) (x1 : Int32) (h : AH) (ls : Array Slot) (H : Heap) (locs : List Loc), f_J7_fill_53178_0 o0 x1 h = some res → Iv g s n0 z0 h H locs 0 0 → lv_has ls 4 [(0, .ref (rfG g o0)), (1, .int x1)] → W p l e R s m args below meth c H locs 0 0 (MQ below (QG g none res.2) args s 0 0 (AG g)) (F0 m 0 ls []) := by
  have hx := X.1
  have hb := X.2.1
  intro o0 x1 h ls H locs hf I hl
  unfold f_J7_fill_53178_0 at hf
  refine lv_iconst (v := 0) hx hb dJ7_fill_53178_0 (by decide) ?_
  refine lv_istore_n (lv' := [(2, .int 0), (0, .ref (rfG g o0)), (1, .int x1)]) hx hb dJ7_fill_53178_1 rfl hl (by decide) rfl (fun ls hl => ?_)
  refine lv_aload_n hx hb dJ7_fill_53178_2 rfl (lv_at hl 1 rfl) ?_
  obtain ⟨v1, e2, hf⟩ := Option.bind_eq_some_iff.mp hf
  refine r_len X I e2 dJ7_fill_53178_3 ?_
  refine lv_istore_n (lv' := [(3, .int v1), (2, .int 0), (0, .ref (rfG g o0)), (1, .int x1)]) hx hb dJ7_fill_53178_4 rfl hl (by decide) rfl (fun ls hl => ?_)
  exact w_J7_fill_53178_5 X hR hr fu o0 x1 0 v1 h ls H locs hf I (lv_sub hl [2, 3, 1, 0] rfl)
def f_J7_fill_53178 (o0 : Nat) (x1 : Int32) (h : AH) : Option (Unit × AH) := f_J7_fill_53178_0 o0 x1 h
end
theorem c_J7_fill_53178 (l : Launch) (g : GG) (o0 : Nat) (x1 : Int32) {h : AH} {res : Unit × AH} (hf : f_J7_fill_53178 o0 x1 h = some res) : CM l g yJ7_fill_53178 cJ7_fill_53178 4 none 1 64 0 0 [.ref (rfG g o0), .int x1] h none res.2 :=
  k_bodyF (by decide +kernel) (Nat.le_of_ble_eq_true rfl) (fun p e s m below meth c R ls hR hr X I hl => w_J7_fill_53178_0 X ⟨Nat.le_of_eq hR.1.symm, Nat.le_of_eq hR.2.1.symm⟩ hr o0 x1 h ls s.heap [] hf I (lv_sub hl [0, 1] rfl))
/-! TrapCorner$History.restore(LTrapCorner$State;)V -/
theorem dX1_restore_0 : decode cX1_restore 0 = .ok (.aload_n 0, 1) := by decide +kernel
theorem dX1_restore_1 : decode cX1_restore 1 = .ok (.getfield 11, 3) := by decide +kernel
theorem dX1_restore_4 : decode cX1_restore 4 = .ok (.aload_n 0, 1) := by decide +kernel
theorem dX1_restore_5 : decode cX1_restore 5 = .ok (.getfield 37, 3) := by decide +kernel
theorem dX1_restore_8 : decode cX1_restore 8 = .ok (.aaload, 1) := by decide +kernel
theorem dX1_restore_9 : decode cX1_restore 9 = .ok (.astore_n 2, 1) := by decide +kernel
theorem dX1_restore_10 : decode cX1_restore 10 = .ok (.aload_n 0, 1) := by decide +kernel
theorem dX1_restore_11 : decode cX1_restore 11 = .ok (.getfield 29, 3) := by decide +kernel
theorem dX1_restore_14 : decode cX1_restore 14 = .ok (.ifCond .eq 7, 3) := by decide +kernel
theorem dX1_restore_17 : decode cX1_restore 17 = .ok (.aload_n 2, 1) := by decide +kernel
theorem dX1_restore_18 : decode cX1_restore 18 = .ok (.ifnonnull 4, 3) := by decide +kernel
theorem dX1_restore_21 : decode cX1_restore 21 = .ok (.return_, 1) := by decide +kernel
theorem dX1_restore_22 : decode cX1_restore 22 = .ok (.aload_n 1, 1) := by decide +kernel
theorem dX1_restore_23 : decode cX1_restore 23 = .ok (.aload_n 2, 1) := by decide +kernel
theorem dX1_restore_24 : decode cX1_restore 24 = .ok (.invokevirtual 40, 3) := by decide +kernel
theorem dX1_restore_27 : decode cX1_restore 27 = .ok (.aload_n 0, 1) := by decide +kernel
theorem dX1_restore_28 : decode cX1_restore 28 = .ok (.aload_n 0, 1) := by decide +kernel
theorem dX1_restore_29 : decode cX1_restore 29 = .ok (.getfield 37, 3) := by decide +kernel
theorem dX1_restore_32 : decode cX1_restore 32 = .ok (.ifCond .le 12, 3) := by decide +kernel
theorem dX1_restore_35 : decode cX1_restore 35 = .ok (.aload_n 0, 1) := by decide +kernel
theorem dX1_restore_36 : decode cX1_restore 36 = .ok (.getfield 37, 3) := by decide +kernel
theorem dX1_restore_39 : decode cX1_restore 39 = .ok (.iconst 1, 1) := by decide +kernel
theorem dX1_restore_40 : decode cX1_restore 40 = .ok (.isub, 1) := by decide +kernel
theorem dX1_restore_41 : decode cX1_restore 41 = .ok (.goto 5, 3) := by decide +kernel
theorem dX1_restore_44 : decode cX1_restore 44 = .ok (.bipush 39, 2) := by decide +kernel
theorem dX1_restore_46 : decode cX1_restore 46 = .ok (.putfield 37, 3) := by decide +kernel
theorem dX1_restore_49 : decode cX1_restore 49 = .ok (.aload_n 0, 1) := by decide +kernel
theorem dX1_restore_50 : decode cX1_restore 50 = .ok (.dup, 1) := by decide +kernel
theorem dX1_restore_51 : decode cX1_restore 51 = .ok (.getfield 29, 3) := by decide +kernel
theorem dX1_restore_54 : decode cX1_restore 54 = .ok (.iconst 1, 1) := by decide +kernel
theorem dX1_restore_55 : decode cX1_restore 55 = .ok (.isub, 1) := by decide +kernel
theorem dX1_restore_56 : decode cX1_restore 56 = .ok (.putfield 29, 3) := by decide +kernel
theorem dX1_restore_59 : decode cX1_restore 59 = .ok (.return_, 1) := by decide +kernel
theorem lp_TrapCorner_History_37 : LKP "TrapCorner$History" 37 [1] 1 (.int) := by
  intro ci hci
  have hci := List.mem_singleton.mp hci
  subst hci
  exact ⟨RX1, TX1, 7, "TrapCorner$History", ck_1, by decide, tw_251, Or.inl rfl, rfl, by decide +kernel⟩
theorem lk_TrapCorner_History_29 : LK "TrapCorner$History" 29 [1] 2 := by
  intro ci hci
  have hci := List.mem_singleton.mp hci
  subst hci
  exact ⟨RX1, TX1, 7, "TrapCorner$History", ck_1, by decide, tw_252, Or.inl rfl⟩
theorem lk_TrapCorner_History_11 : LK "TrapCorner$History" 11 [1] 0 := by
  intro ci hci
  have hci := List.mem_singleton.mp hci
  subst hci
  exact ⟨RX1, TX1, 7, "TrapCorner$History", ck_1, by decide, tw_250, Or.inl rfl⟩
theorem lk_TrapCorner_History_37 : LK "TrapCorner$History" 37 [1] 1 := by
  intro ci hci
  have hci := List.mem_singleton.mp hci
  subst hci
  exact ⟨RX1, TX1, 7, "TrapCorner$History", ck_1, by decide, tw_251, Or.inl rfl⟩
theorem vk_TrapCorner_History_40 : VK "TrapCorner$History" 40 [8] yX8_copyFrom 1 := ⟨tw_889, tw_890, tw_8, ⟨by decide, by decide⟩, by decide +kernel, fun ci hci => by
  have hci := List.mem_singleton.mp hci
  subst hci
  exact ⟨_, rfl, tw_891⟩⟩
section
variable {g : GG} {p : Program} {l : Launch} {e : Env} {R : Room} {s : State} {m : MethodId} {args : Array Value} {below : List Frame} {meth : Method} {c : Code} {n0 z0 : Nat}
def f_X1_restore_46  (o0 : Nat) (s0 : Nat) (s1 : Int32) (h : AH) : Option (Unit × AH) :=
  (pV [1] h s0 1 (.int s1)).bind fun h1 =>
  (gI [1] h1 o0 2).bind fun v3 =>
  (pV [1] h1 o0 2 (.int (v3 - 1))).bind fun h5 =>
  some ((), h5)
set_option maxHeartbeats 1000000 in
theorem w_X1_restore_46 (X : Cx g p s m args meth c cX1_restore 3 "TrapCorner$History") (hR : 2 ≤ R.frames ∧ 128 ≤ R.locals) (hr : meth.sig.returnType = none) {res : Unit × AH} : ∀ (o0 : Nat) (s0 : Nat) (s1 : Int32) (h : AH) (ls : Array Slot) (H : Heap) (locs : List Loc), f_X1_restore_46 o0 s0 s1 h = some res → Iv g s n0 z0 h H locs 0 0 → lv_has ls 3 [(0, .ref (rfG g o0))] → W p l e R s m args below meth c H locs 0 0 (MQ below (QG g none res.2) args s 0 0 (AG g)) (F0 m 46 ls [.int s1, .ref (rfG g s0)]) := by
  have hx := X.1
  have hb := X.2.1
  intro o0 s0 s1 h ls H locs hf I hl
  unfold f_X1_restore_46 at hf
  obtain ⟨h1, e2, hf⟩ := Option.bind_eq_some_iff.mp hf
  refine r_pI X I e2 lp_TrapCorner_History_37 dX1_restore_46 (fun H locs I => ?_)
  refine lv_aload_n hx hb dX1_restore_49 rfl (lv_at hl 0 rfl) ?_
  refine lv_dup hx hb dX1_restore_50 rfl ?_
  obtain ⟨v3, e4, hf⟩ := Option.bind_eq_some_iff.mp hf
  refine r_gI X I e4 lk_TrapCorner_History_29 dX1_restore_51 ?_
  refine lv_iconst (v := 1) hx hb dX1_restore_54 (by decide) ?_
  refine lv_isub hx hb dX1_restore_55 ?_
  obtain ⟨h5, e6, hf⟩ := Option.bind_eq_some_iff.mp hf
  refine r_pI X I e6 lp_TrapCorner_History_29 dX1_restore_56 (fun H locs I => ?_)
  cases hf
  exact k_rv X I hr dX1_restore_59
def f_X1_restore_0  (o0 : Nat) (o1 : Nat) (h : AH) : Option (Unit × AH) :=
  (gR [1] h o0 0).bind fun v1 =>
  (gI [1] h o0 1).bind fun v3 =>
  (aQ 4 h v1 v3).bind fun v5 =>
  match v5 with
  | none =>
    (gI [1] h o0 2).bind fun v8 =>
    if v8 = 0 then
      some ((), h)
    else
      some ((), h)
  | some o7 =>
    (gI [1] h o0 2).bind fun v11 =>
    if v11 = 0 then
      some ((), h)
    else
      (isC [8] h o1).bind fun _ =>
      cN (f_X8_copyFrom o1 o7 h) h fun _ h15 =>
      (gI [1] h15 o0 1).bind fun v19 =>
      if v19 ≤ 0 then
        f_X1_restore_46 o0 o0 39 h15
      else
        (gI [1] h15 o0 1).bind fun v22 =>
        f_X1_restore_46 o0 o0 (v22 - 1) h15
set_option maxHeartbeats 1000000 in
theorem w_X1_restore_0 (X : Cx g p s m args meth c cX1_restore 3 "TrapCorner$History") (hR : 2 ≤ R.frames ∧ 128 ≤ R.locals) (hr : meth.sig.returnType = none) {res : Unit × AH} : ∀ (o0 : Nat) (o1 : Nat) (h : AH) (ls : Array Slot) (H : Heap) (locs : List Loc), f_X1_restore_0 o0 o1 h = some res → Iv g s n0 z0 h H locs 0 0 → lv_has ls 3 [(0, .ref (rfG g o0)), (1, .ref (rfG g o1))] → W p l e R s m args below meth c H locs 0 0 (MQ below (QG g none res.2) args s 0 0 (AG g)) (F0 m 0 ls []) := by
  have hx := X.1
  have hb := X.2.1
  intro o0 o1 h ls H locs hf I hl
  unfold f_X1_restore_0 at hf
  refine lv_aload_n hx hb dX1_restore_0 rfl (lv_at hl 0 rfl) ?_
  obtain ⟨v1, e2, hf⟩ := Option.bind_eq_some_iff.mp hf
  refine r_gR X I e2 lk_TrapCorner_History_11 dX1_restore_1 ?_
  refine lv_aload_n hx hb dX1_restore_4 rfl (lv_at hl 0 rfl) ?_
  obtain ⟨v3, e4, hf⟩ := Option.bind_eq_some_iff.mp hf
  refine r_gI X I e4 lk_TrapCorner_History_37 dX1_restore_5 ?_
  obtain ⟨v5, e6, hf⟩ := Option.bind_eq_some_iff.mp hf
  refine r_aQ4 X I e6 dX1_restore_8 ?_
  cases v5 with
  | none =>
    dsimp only at hf
    refine lv_astore_nN (lv' := [(2, .null), (0, .ref (rfG g o0)), (1, .ref (rfG g o1))]) hx hb dX1_restore_9 rfl hl (by decide) rfl (fun ls hl => ?_)
    refine lv_aload_n hx hb dX1_restore_10 rfl (lv_at hl 1 rfl) ?_
    obtain ⟨v8, e9, hf⟩ := Option.bind_eq_some_iff.mp hf
    refine r_gI X I e9 lk_TrapCorner_History_29 dX1_restore_11 ?_
    refine lv_if_eq (tgt := 21) hx hb dX1_restore_14 (by decide) (fun c10 => ?_) (fun c10 => ?_)
    · rw [if_pos c10] at hf
      cases hf
      exact k_rv X I hr dX1_restore_21
    · rw [if_neg c10] at hf
      refine lv_aload_nN hx hb dX1_restore_17 rfl (lv_at hl 0 rfl) ?_
      refine lv_ifnonnullN hx hb dX1_restore_18 ?_
      cases hf
      exact k_rv X I hr dX1_restore_21
  | some o7 =>
    dsimp only at hf
    refine lv_astore_n (lv' := [(2, .ref (rfG g o7)), (0, .ref (rfG g o0)), (1, .ref (rfG g o1))]) hx hb dX1_restore_9 rfl hl (by decide) rfl (fun ls hl => ?_)
    refine lv_aload_n hx hb dX1_restore_10 rfl (lv_at hl 1 rfl) ?_
    obtain ⟨v11, e12, hf⟩ := Option.bind_eq_some_iff.mp hf
    refine r_gI X I e12 lk_TrapCorner_History_29 dX1_restore_11 ?_
    refine lv_if_eq (tgt := 21) hx hb dX1_restore_14 (by decide) (fun c13 => ?_) (fun c13 => ?_)
    · rw [if_pos c13] at hf
      cases hf
      exact k_rv X I hr dX1_restore_21
    · rw [if_neg c13] at hf
      refine lv_aload_n hx hb dX1_restore_17 rfl (lv_at hl 0 rfl) ?_
      refine lv_ifnonnull (tgt := 22) hx hb dX1_restore_18 (by decide) ?_
      refine lv_aload_n hx hb dX1_restore_22 rfl (lv_at hl 2 rfl) ?_
      refine lv_aload_n hx hb dX1_restore_23 rfl (lv_at hl 0 rfl) ?_
      obtain ⟨_, g18, hf⟩ := Option.bind_eq_some_iff.mp hf
      obtain ⟨⟨⟩, h15, e16, z17, hf⟩ := cN_spec hf
      refine k_Vv (As := [.ref (rfG g o7)]) (rest := []) X I (c_X8_copyFrom l g o1 o7 e16) z17 g18 vk_TrapCorner_History_40 tw_892 ⟨Nat.le_trans (by decide) hR.1, Nat.le_trans (by decide) hR.2⟩ ⟨Nat.zero_le _, Nat.zero_le _⟩ rfl hl.1 rfl (Nat.le_of_ble_eq_true rfl) dX1_restore_24 (fun H locs I => ?_)
      refine lv_aload_n hx hb dX1_restore_27 rfl (lv_at hl 1 rfl) ?_
      refine lv_aload_n hx hb dX1_restore_28 rfl (lv_at hl 1 rfl) ?_
      obtain ⟨v19, e20, hf⟩ := Option.bind_eq_some_iff.mp hf
      refine r_gI X I e20 lk_TrapCorner_History_37 dX1_restore_29 ?_
      refine lv_if_le (tgt := 44) hx hb dX1_restore_32 (by decide) (fun c21 => ?_) (fun c21 => ?_)
      · rw [if_pos c21] at hf
        refine lv_bipush (v := 39) hx hb dX1_restore_44 (by decide) ?_
        exact w_X1_restore_46 X hR hr  o0 o0 39 h15 ls H locs hf I (lv_sub hl [1] rfl)
      · rw [if_neg c21] at hf
        refine lv_aload_n hx hb dX1_restore_35 rfl (lv_at hl 1 rfl) ?_
        obtain ⟨v22, e23, hf⟩ := Option.bind_eq_some_iff.mp hf
        refine r_gI X I e23 lk_TrapCorner_History_37 dX1_restore_36 ?_
        refine lv_iconst (v := 1) hx hb dX1_restore_39 (by decide) ?_
        refine lv_isub hx hb dX1_restore_40 ?_
        refine lv_goto (tgt := 46) hx hb dX1_restore_41 (by decide) ?_
        exact w_X1_restore_46 X hR hr  o0 o0 (v22 - 1) h15 ls H locs hf I (lv_sub hl [1] rfl)
def f_X1_restore (o0 : Nat) (o1 : Nat) (h : AH) : Option (Unit × AH) := f_X1_restore_0 o0 o1 h
end
theorem c_X1_restore (l : Launch) (g : GG) (o0 : Nat) (o1 : Nat) {h : AH} {res : Unit × AH} (hf : f_X1_restore o0 o1 h = some res) : CM l g yX1_restore cX1_restore 3 none 2 128 0 0 [.ref (rfG g o0), .ref (rfG g o1)] h none res.2 :=
  k_body (by decide) (Nat.le_of_ble_eq_true rfl) (fun p e s m below meth c R ls hR hr X I hl => w_X1_restore_0 X ⟨Nat.le_of_eq hR.1.symm, Nat.le_of_eq hR.2.1.symm⟩ hr o0 o1 h ls s.heap [] hf I (lv_sub hl [0, 1] rfl))
/-! TrapCorner$History.place(I)I -/
theorem dX1_place_0 : decode cX1_place 0 = .ok (.iload_n 0, 1) := by decide +kernel
theorem dX1_place_1 : decode cX1_place 1 = .ok (.bipush 100, 2) := by decide +kernel
theorem dX1_place_3 : decode cX1_place 3 = .ok (.invokestatic 54, 3) := by decide +kernel
theorem dX1_place_6 : decode cX1_place 6 = .ok (.ireturn, 1) := by decide +kernel
theorem sk_TrapCorner_History_54 : SK "TrapCorner$History" 54 yJ9_floorMod_7cf53 2 := ⟨tw_818, tw_819, tw_17, ⟨by decide, by decide⟩, by decide +kernel⟩
section
variable {g : GG} {p : Program} {l : Launch} {e : Env} {R : Room} {s : State} {m : MethodId} {args : Array Value} {below : List Frame} {meth : Method} {c : Code} {n0 z0 : Nat}
def f_X1_place_0  (x0 : Int32) (h : AH) : Option (Int32 × AH) :=
  cN (f_J9_floorMod_7cf53 x0 100 h) h fun v1 h2 =>
  some (v1, h2)
set_option maxHeartbeats 1000000 in
theorem w_X1_place_0 (X : Cx g p s m args meth c cX1_place 1 "TrapCorner$History") (hR : 2 ≤ R.frames ∧ 128 ≤ R.locals) (hr : meth.sig.returnType = (some (.int))) {res : Int32 × AH} : ∀ (x0 : Int32) (h : AH) (ls : Array Slot) (H : Heap) (locs : List Loc), f_X1_place_0 x0 h = some res → Iv g s n0 z0 h H locs 0 0 → lv_has ls 1 [(0, .int x0)] → W p l e R s m args below meth c H locs 0 0 (MQ below (QG g (some (.int res.1)) res.2) args s 0 0 (AG g)) (F0 m 0 ls []) := by
  have hx := X.1
  have hb := X.2.1
  intro x0 h ls H locs hf I hl
  unfold f_X1_place_0 at hf
  refine lv_iload_n hx hb dX1_place_0 rfl (lv_at hl 0 rfl) ?_
  refine lv_bipush (v := 100) hx hb dX1_place_1 (by decide) ?_
  obtain ⟨v1, h2, e3, z4, hf⟩ := cN_spec hf
  refine k_Si (As := [.int x0, .int 100]) (rest := []) X I (c_J9_floorMod_7cf53 l g x0 100 e3) z4 sk_TrapCorner_History_54 tw_820 ⟨Nat.le_trans (by decide) hR.1, Nat.le_trans (by decide) hR.2⟩ ⟨Nat.zero_le _, Nat.zero_le _⟩ rfl hl.1 rfl (Nat.le_of_ble_eq_true rfl) dX1_place_3 (fun H locs I => ?_)
  cases hf
  exact k_ri X I hr dX1_place_6
def f_X1_place (x0 : Int32) (h : AH) : Option (Int32 × AH) := f_X1_place_0 x0 h
end
theorem c_X1_place (l : Launch) (g : GG) (x0 : Int32) {h : AH} {res : Int32 × AH} (hf : f_X1_place x0 h = some res) : CM l g yX1_place cX1_place 1 (some (.int)) 2 128 0 0 [.int x0] h (some (.int res.1)) res.2 :=
  k_body (by decide) (Nat.le_of_ble_eq_true rfl) (fun p e s m below meth c R ls hR hr X I hl => w_X1_place_0 X ⟨Nat.le_of_eq hR.1.symm, Nat.le_of_eq hR.2.1.symm⟩ hr x0 h ls s.heap [] hf I (lv_sub hl [0] rfl))
/-! TrapCorner$History.takeImage(LTrapCorner$State;)V -/
theorem dX1_takeImage_0 : decode cX1_takeImage 0 = .ok (.aload_n 0, 1) := by decide +kernel
theorem dX1_takeImage_1 : decode cX1_takeImage 1 = .ok (.getfield 22, 3) := by decide +kernel
theorem dX1_takeImage_4 : decode cX1_takeImage 4 = .ok (.aload_n 1, 1) := by decide +kernel
theorem dX1_takeImage_5 : decode cX1_takeImage 5 = .ok (.invokevirtual 40, 3) := by decide +kernel
theorem dX1_takeImage_8 : decode cX1_takeImage 8 = .ok (.aload_n 0, 1) := by decide +kernel
theorem dX1_takeImage_9 : decode cX1_takeImage 9 = .ok (.getfield 17, 3) := by decide +kernel
theorem dX1_takeImage_12 : decode cX1_takeImage 12 = .ok (.iconst 0, 1) := by decide +kernel
theorem dX1_takeImage_13 : decode cX1_takeImage 13 = .ok (.aload_n 0, 1) := by decide +kernel
theorem dX1_takeImage_14 : decode cX1_takeImage 14 = .ok (.getfield 26, 3) := by decide +kernel
theorem dX1_takeImage_17 : decode cX1_takeImage 17 = .ok (.iconst 0, 1) := by decide +kernel
theorem dX1_takeImage_18 : decode cX1_takeImage 18 = .ok (.bipush 100, 2) := by decide +kernel
theorem dX1_takeImage_20 : decode cX1_takeImage 20 = .ok (.invokestatic 57, 3) := by decide +kernel
theorem dX1_takeImage_23 : decode cX1_takeImage 23 = .ok (.aload_n 0, 1) := by decide +kernel
theorem dX1_takeImage_24 : decode cX1_takeImage 24 = .ok (.iconst 1, 1) := by decide +kernel
theorem dX1_takeImage_25 : decode cX1_takeImage 25 = .ok (.putfield 33, 3) := by decide +kernel
theorem dX1_takeImage_28 : decode cX1_takeImage 28 = .ok (.return_, 1) := by decide +kernel
theorem lk_TrapCorner_History_22 : LK "TrapCorner$History" 22 [1] 4 := by
  intro ci hci
  have hci := List.mem_singleton.mp hci
  subst hci
  exact ⟨RX1, TX1, 7, "TrapCorner$History", ck_1, by decide, tw_255, Or.inl rfl⟩
theorem lk_TrapCorner_History_17 : LK "TrapCorner$History" 17 [1] 3 := by
  intro ci hci
  have hci := List.mem_singleton.mp hci
  subst hci
  exact ⟨RX1, TX1, 7, "TrapCorner$History", ck_1, by decide, tw_254, Or.inl rfl⟩
theorem lk_TrapCorner_History_26 : LK "TrapCorner$History" 26 [1] 5 := by
  intro ci hci
  have hci := List.mem_singleton.mp hci
  subst hci
  exact ⟨RX1, TX1, 7, "TrapCorner$History", ck_1, by decide, tw_256, Or.inl rfl⟩
section
variable {g : GG} {p : Program} {l : Launch} {e : Env} {R : Room} {s : State} {m : MethodId} {args : Array Value} {below : List Frame} {meth : Method} {c : Code} {n0 z0 : Nat}
def f_X1_takeImage_0  (o0 : Nat) (o1 : Nat) (h : AH) : Option (Unit × AH) :=
  (gR [1] h o0 4).bind fun v1 =>
  (isC [8] h v1).bind fun _ =>
  cN (f_X8_copyFrom v1 o1 h) h fun _ h4 =>
  (gR [1] h4 o0 3).bind fun v8 =>
  (gR [1] h4 o0 5).bind fun v10 =>
  (aCpy h4 v8 0 v10 0 100).bind fun h12 =>
  (pZ [1] h12 o0 6 1).bind fun h14 =>
  some ((), h14)
set_option maxHeartbeats 1000000 in
theorem w_X1_takeImage_0 (X : Cx g p s m args meth c cX1_takeImage 2 "TrapCorner$History") (hR : 2 ≤ R.frames ∧ 128 ≤ R.locals) (hr : meth.sig.returnType = none) {res : Unit × AH} : ∀ (o0 : Nat) (o1 : Nat) (h : AH) (ls : Array Slot) (H : Heap) (locs : List Loc), f_X1_takeImage_0 o0 o1 h = some res → Iv g s n0 z0 h H locs 0 0 → lv_has ls 2 [(0, .ref (rfG g o0)), (1, .ref (rfG g o1))] → W p l e R s m args below meth c H locs 0 0 (MQ below (QG g none res.2) args s 0 0 (AG g)) (F0 m 0 ls []) := by
  have hx := X.1
  have hb := X.2.1
  intro o0 o1 h ls H locs hf I hl
  unfold f_X1_takeImage_0 at hf
  refine lv_aload_n hx hb dX1_takeImage_0 rfl (lv_at hl 0 rfl) ?_
  obtain ⟨v1, e2, hf⟩ := Option.bind_eq_some_iff.mp hf
  refine r_gR X I e2 lk_TrapCorner_History_22 dX1_takeImage_1 ?_
  refine lv_aload_n hx hb dX1_takeImage_4 rfl (lv_at hl 1 rfl) ?_
  obtain ⟨_, g7, hf⟩ := Option.bind_eq_some_iff.mp hf
  obtain ⟨⟨⟩, h4, e5, z6, hf⟩ := cN_spec hf
  refine k_Vv (As := [.ref (rfG g o1)]) (rest := []) X I (c_X8_copyFrom l g v1 o1 e5) z6 g7 vk_TrapCorner_History_40 tw_892 ⟨Nat.le_trans (by decide) hR.1, Nat.le_trans (by decide) hR.2⟩ ⟨Nat.zero_le _, Nat.zero_le _⟩ rfl hl.1 rfl (Nat.le_of_ble_eq_true rfl) dX1_takeImage_5 (fun H locs I => ?_)
  refine lv_aload_n hx hb dX1_takeImage_8 rfl (lv_at hl 0 rfl) ?_
  obtain ⟨v8, e9, hf⟩ := Option.bind_eq_some_iff.mp hf
  refine r_gR X I e9 lk_TrapCorner_History_17 dX1_takeImage_9 ?_
  refine lv_iconst (v := 0) hx hb dX1_takeImage_12 (by decide) ?_
  refine lv_aload_n hx hb dX1_takeImage_13 rfl (lv_at hl 0 rfl) ?_
  obtain ⟨v10, e11, hf⟩ := Option.bind_eq_some_iff.mp hf
  refine r_gR X I e11 lk_TrapCorner_History_26 dX1_takeImage_14 ?_
  refine lv_iconst (v := 0) hx hb dX1_takeImage_17 (by decide) ?_
  refine lv_bipush (v := 100) hx hb dX1_takeImage_18 (by decide) ?_
  obtain ⟨h12, e13, hf⟩ := Option.bind_eq_some_iff.mp hf
  refine r_cpy X I e13 tw_1015 ⟨Nat.le_trans (by decide) hR.1, Nat.le_trans (by decide) hR.2⟩ hl.1 (Nat.le_of_ble_eq_true rfl) dX1_takeImage_20 (fun H locs I => ?_)
  refine lv_aload_n hx hb dX1_takeImage_23 rfl (lv_at hl 0 rfl) ?_
  refine lv_iconst (v := 1) hx hb dX1_takeImage_24 (by decide) ?_
  obtain ⟨h14, e15, hf⟩ := Option.bind_eq_some_iff.mp hf
  refine r_pZ X I e15 lp_TrapCorner_History_33 dX1_takeImage_25 (fun H locs I => ?_)
  cases hf
  exact k_rv X I hr dX1_takeImage_28
def f_X1_takeImage (o0 : Nat) (o1 : Nat) (h : AH) : Option (Unit × AH) := f_X1_takeImage_0 o0 o1 h
end
theorem c_X1_takeImage (l : Launch) (g : GG) (o0 : Nat) (o1 : Nat) {h : AH} {res : Unit × AH} (hf : f_X1_takeImage o0 o1 h = some res) : CM l g yX1_takeImage cX1_takeImage 2 none 2 128 0 0 [.ref (rfG g o0), .ref (rfG g o1)] h none res.2 :=
  k_body (by decide) (Nat.le_of_ble_eq_true rfl) (fun p e s m below meth c R ls hR hr X I hl => w_X1_takeImage_0 X ⟨Nat.le_of_eq hR.1.symm, Nat.le_of_eq hR.2.1.symm⟩ hr o0 o1 h ls s.heap [] hf I (lv_sub hl [0, 1] rfl))
/-! TrapCorner$History.showImage(LTrapCorner$State;)V -/
theorem dX1_showImage_0 : decode cX1_showImage 0 = .ok (.aload_n 1, 1) := by decide +kernel
theorem dX1_showImage_1 : decode cX1_showImage 1 = .ok (.aload_n 0, 1) := by decide +kernel
theorem dX1_showImage_2 : decode cX1_showImage 2 = .ok (.getfield 22, 3) := by decide +kernel
theorem dX1_showImage_5 : decode cX1_showImage 5 = .ok (.invokevirtual 40, 3) := by decide +kernel
theorem dX1_showImage_8 : decode cX1_showImage 8 = .ok (.aload_n 0, 1) := by decide +kernel
theorem dX1_showImage_9 : decode cX1_showImage 9 = .ok (.getfield 26, 3) := by decide +kernel
theorem dX1_showImage_12 : decode cX1_showImage 12 = .ok (.iconst 0, 1) := by decide +kernel
theorem dX1_showImage_13 : decode cX1_showImage 13 = .ok (.aload_n 0, 1) := by decide +kernel
theorem dX1_showImage_14 : decode cX1_showImage 14 = .ok (.getfield 17, 3) := by decide +kernel
theorem dX1_showImage_17 : decode cX1_showImage 17 = .ok (.iconst 0, 1) := by decide +kernel
theorem dX1_showImage_18 : decode cX1_showImage 18 = .ok (.bipush 100, 2) := by decide +kernel
theorem dX1_showImage_20 : decode cX1_showImage 20 = .ok (.invokestatic 57, 3) := by decide +kernel
theorem dX1_showImage_23 : decode cX1_showImage 23 = .ok (.aload_n 0, 1) := by decide +kernel
theorem dX1_showImage_24 : decode cX1_showImage 24 = .ok (.iconst 0, 1) := by decide +kernel
theorem dX1_showImage_25 : decode cX1_showImage 25 = .ok (.putfield 29, 3) := by decide +kernel
theorem dX1_showImage_28 : decode cX1_showImage 28 = .ok (.return_, 1) := by decide +kernel
section
variable {g : GG} {p : Program} {l : Launch} {e : Env} {R : Room} {s : State} {m : MethodId} {args : Array Value} {below : List Frame} {meth : Method} {c : Code} {n0 z0 : Nat}
def f_X1_showImage_0  (o0 : Nat) (o1 : Nat) (h : AH) : Option (Unit × AH) :=
  (gR [1] h o0 4).bind fun v1 =>
  (isC [8] h o1).bind fun _ =>
  cN (f_X8_copyFrom o1 v1 h) h fun _ h4 =>
  (gR [1] h4 o0 5).bind fun v8 =>
  (gR [1] h4 o0 3).bind fun v10 =>
  (aCpy h4 v8 0 v10 0 100).bind fun h12 =>
  (pV [1] h12 o0 2 (.int 0)).bind fun h14 =>
  some ((), h14)
set_option maxHeartbeats 1000000 in
theorem w_X1_showImage_0 (X : Cx g p s m args meth c cX1_showImage 2 "TrapCorner$History") (hR : 2 ≤ R.frames ∧ 128 ≤ R.locals) (hr : meth.sig.returnType = none) {res : Unit × AH} : ∀ (o0 : Nat) (o1 : Nat) (h : AH) (ls : Array Slot) (H : Heap) (locs : List Loc), f_X1_showImage_0 o0 o1 h = some res → Iv g s n0 z0 h H locs 0 0 → lv_has ls 2 [(0, .ref (rfG g o0)), (1, .ref (rfG g o1))] → W p l e R s m args below meth c H locs 0 0 (MQ below (QG g none res.2) args s 0 0 (AG g)) (F0 m 0 ls []) := by
  have hx := X.1
  have hb := X.2.1
  intro o0 o1 h ls H locs hf I hl
  unfold f_X1_showImage_0 at hf
  refine lv_aload_n hx hb dX1_showImage_0 rfl (lv_at hl 1 rfl) ?_
  refine lv_aload_n hx hb dX1_showImage_1 rfl (lv_at hl 0 rfl) ?_
  obtain ⟨v1, e2, hf⟩ := Option.bind_eq_some_iff.mp hf
  refine r_gR X I e2 lk_TrapCorner_History_22 dX1_showImage_2 ?_
  obtain ⟨_, g7, hf⟩ := Option.bind_eq_some_iff.mp hf
  obtain ⟨⟨⟩, h4, e5, z6, hf⟩ := cN_spec hf
  refine k_Vv (As := [.ref (rfG g v1)]) (rest := []) X I (c_X8_copyFrom l g o1 v1 e5) z6 g7 vk_TrapCorner_History_40 tw_892 ⟨Nat.le_trans (by decide) hR.1, Nat.le_trans (by decide) hR.2⟩ ⟨Nat.zero_le _, Nat.zero_le _⟩ rfl hl.1 rfl (Nat.le_of_ble_eq_true rfl) dX1_showImage_5 (fun H locs I => ?_)
  refine lv_aload_n hx hb dX1_showImage_8 rfl (lv_at hl 0 rfl) ?_
  obtain ⟨v8, e9, hf⟩ := Option.bind_eq_some_iff.mp hf
  refine r_gR X I e9 lk_TrapCorner_History_26 dX1_showImage_9 ?_
  refine lv_iconst (v := 0) hx hb dX1_showImage_12 (by decide) ?_
  refine lv_aload_n hx hb dX1_showImage_13 rfl (lv_at hl 0 rfl) ?_
  obtain ⟨v10, e11, hf⟩ := Option.bind_eq_some_iff.mp hf
  refine r_gR X I e11 lk_TrapCorner_History_17 dX1_showImage_14 ?_
  refine lv_iconst (v := 0) hx hb dX1_showImage_17 (by decide) ?_
  refine lv_bipush (v := 100) hx hb dX1_showImage_18 (by decide) ?_
  obtain ⟨h12, e13, hf⟩ := Option.bind_eq_some_iff.mp hf
  refine r_cpy X I e13 tw_1015 ⟨Nat.le_trans (by decide) hR.1, Nat.le_trans (by decide) hR.2⟩ hl.1 (Nat.le_of_ble_eq_true rfl) dX1_showImage_20 (fun H locs I => ?_)
  refine lv_aload_n hx hb dX1_showImage_23 rfl (lv_at hl 0 rfl) ?_
  refine lv_iconst (v := 0) hx hb dX1_showImage_24 (by decide) ?_
  obtain ⟨h14, e15, hf⟩ := Option.bind_eq_some_iff.mp hf
  refine r_pI X I e15 lp_TrapCorner_History_29 dX1_showImage_25 (fun H locs I => ?_)
  cases hf
  exact k_rv X I hr dX1_showImage_28
def f_X1_showImage (o0 : Nat) (o1 : Nat) (h : AH) : Option (Unit × AH) := f_X1_showImage_0 o0 o1 h
end
theorem c_X1_showImage (l : Launch) (g : GG) (o0 : Nat) (o1 : Nat) {h : AH} {res : Unit × AH} (hf : f_X1_showImage o0 o1 h = some res) : CM l g yX1_showImage cX1_showImage 2 none 2 128 0 0 [.ref (rfG g o0), .ref (rfG g o1)] h none res.2 :=
  k_body (by decide) (Nat.le_of_ble_eq_true rfl) (fun p e s m below meth c R ls hR hr X I hl => w_X1_showImage_0 X ⟨Nat.le_of_eq hR.1.symm, Nat.le_of_eq hR.2.1.symm⟩ hr o0 o1 h ls s.heap [] hf I (lv_sub hl [0, 1] rfl))
/-! TrapCorner$PlanReader.digit()I -/
theorem dX3_digit_0 : decode cX3_digit 0 = .ok (.aload_n 0, 1) := by decide +kernel
theorem dX3_digit_1 : decode cX3_digit 1 = .ok (.invokevirtual 37, 3) := by decide +kernel
theorem dX3_digit_4 : decode cX3_digit 4 = .ok (.pop, 1) := by decide +kernel
theorem dX3_digit_5 : decode cX3_digit 5 = .ok (.aload_n 0, 1) := by decide +kernel
theorem dX3_digit_6 : decode cX3_digit 6 = .ok (.invokevirtual 62, 3) := by decide +kernel
theorem dX3_digit_9 : decode cX3_digit 9 = .ok (.ifCond .ne 14, 3) := by decide +kernel
theorem dX3_digit_12 : decode cX3_digit 12 = .ok (.aload_n 0, 1) := by decide +kernel
theorem dX3_digit_13 : decode cX3_digit 13 = .ok (.aload_n 0, 1) := by decide +kernel
theorem dX3_digit_14 : decode cX3_digit 14 = .ok (.getfield 41, 3) := by decide +kernel
theorem dX3_digit_17 : decode cX3_digit 17 = .ok (.invokevirtual 44, 3) := by decide +kernel
theorem dX3_digit_20 : decode cX3_digit 20 = .ok (.pop, 1) := by decide +kernel
theorem dX3_digit_21 : decode cX3_digit 21 = .ok (.iconst (-1), 1) := by decide +kernel
theorem dX3_digit_22 : decode cX3_digit 22 = .ok (.ireturn, 1) := by decide +kernel
theorem dX3_digit_23 : decode cX3_digit 23 = .ok (.aload_n 0, 1) := by decide +kernel
theorem dX3_digit_24 : decode cX3_digit 24 = .ok (.dup, 1) := by decide +kernel
theorem dX3_digit_25 : decode cX3_digit 25 = .ok (.getfield 41, 3) := by decide +kernel
theorem dX3_digit_28 : decode cX3_digit 28 = .ok (.iconst 1, 1) := by decide +kernel
theorem dX3_digit_29 : decode cX3_digit 29 = .ok (.iadd, 1) := by decide +kernel
theorem dX3_digit_30 : decode cX3_digit 30 = .ok (.putfield 41, 3) := by decide +kernel
theorem dX3_digit_33 : decode cX3_digit 33 = .ok (.aload_n 0, 1) := by decide +kernel
theorem dX3_digit_34 : decode cX3_digit 34 = .ok (.getfield 65, 3) := by decide +kernel
theorem dX3_digit_37 : decode cX3_digit 37 = .ok (.getfield 69, 3) := by decide +kernel
theorem dX3_digit_40 : decode cX3_digit 40 = .ok (.aload_n 0, 1) := by decide +kernel
theorem dX3_digit_41 : decode cX3_digit 41 = .ok (.getfield 41, 3) := by decide +kernel
theorem dX3_digit_44 : decode cX3_digit 44 = .ok (.iconst 1, 1) := by decide +kernel
theorem dX3_digit_45 : decode cX3_digit 45 = .ok (.isub, 1) := by decide +kernel
theorem dX3_digit_46 : decode cX3_digit 46 = .ok (.iaload, 1) := by decide +kernel
theorem dX3_digit_47 : decode cX3_digit 47 = .ok (.bipush 48, 2) := by decide +kernel
theorem dX3_digit_49 : decode cX3_digit 49 = .ok (.isub, 1) := by decide +kernel
theorem dX3_digit_50 : decode cX3_digit 50 = .ok (.ireturn, 1) := by decide +kernel
theorem uk_TrapCorner_PlanReader_37 : UK "TrapCorner$PlanReader" 37 3 ⟨"TrapCorner$PlanReader", "sign", "()I"⟩ yX5_sign "TrapCorner$Reader" 0 := ⟨tw_707, tw_708, tw_477, tw_3, ⟨by decide, by decide⟩, by decide +kernel, rfl, ⟨_, rfl, tw_709⟩⟩
theorem uk_TrapCorner_PlanReader_62 : UK "TrapCorner$PlanReader" 62 3 ⟨"TrapCorner$PlanReader", "digitHere", "()Z"⟩ yX5_digitHere "TrapCorner$Reader" 0 := ⟨tw_719, tw_720, tw_596, tw_3, ⟨by decide, by decide⟩, by decide +kernel, rfl, ⟨_, rfl, tw_722⟩⟩
theorem lk_TrapCorner_PlanReader_41 : LK "TrapCorner$PlanReader" 41 [3] 1 := by
  intro ci hci
  have hci := List.mem_singleton.mp hci
  subst hci
  exact ⟨RX3, TX3, 5, "TrapCorner$PlanReader", ck_3, by decide, tw_141, Or.inr tw_142⟩
theorem lp_TrapCorner_PlanReader_41 : LKP "TrapCorner$PlanReader" 41 [3] 1 (.int) := by
  intro ci hci
  have hci := List.mem_singleton.mp hci
  subst hci
  exact ⟨RX3, TX3, 5, "TrapCorner$PlanReader", ck_3, by decide, tw_141, Or.inr tw_142, rfl, by decide +kernel⟩
theorem lk_TrapCorner_PlanReader_65 : LK "TrapCorner$PlanReader" 65 [3] 0 := by
  intro ci hci
  have hci := List.mem_singleton.mp hci
  subst hci
  exact ⟨RX3, TX3, 5, "TrapCorner$PlanReader", ck_3, by decide, tw_136, Or.inr tw_137⟩
theorem lk_TrapCorner_PlanReader_69 : LK "TrapCorner$PlanReader" 69 [9] 0 := by
  intro ci hci
  have hci := List.mem_singleton.mp hci
  subst hci
  exact ⟨RX9, TX9, 2, "TrapCorner$Tape", ck_9, by decide, tw_43, Or.inl rfl⟩
theorem uk_TrapCorner_PlanReader_44 : UK "TrapCorner$PlanReader" 44 3 ⟨"TrapCorner$PlanReader", "fails", "(I)Z"⟩ yX5_fails "TrapCorner$Reader" 1 := ⟨tw_712, tw_713, tw_586, tw_3, ⟨by decide, by decide⟩, by decide +kernel, rfl, ⟨_, rfl, tw_714⟩⟩
section
variable {g : GG} {p : Program} {l : Launch} {e : Env} {R : Room} {s : State} {m : MethodId} {args : Array Value} {below : List Frame} {meth : Method} {c : Code} {n0 z0 : Nat}
def f_X3_digit_0  (o0 : Nat) (h : AH) : Option (Int32 × AH) :=
  (isC [3] h o0).bind fun _ =>
  cN (f_X5_sign o0 h) h fun v1 h2 =>
  (isC [3] h2 o0).bind fun _ =>
  cN (f_X5_digitHere o0 h2) h2 fun v6 h7 =>
  if v6 = 0 then
    (gI [3] h7 o0 1).bind fun v24 =>
    (isC [3] h7 o0).bind fun _ =>
    cN (f_X5_fails o0 v24 h7) h7 fun v26 h27 =>
    some ((-1), h27)
  else
    (gI [3] h7 o0 1).bind fun v12 =>
    (pV [3] h7 o0 1 (.int (v12 + 1))).bind fun h14 =>
    (gR [3] h14 o0 0).bind fun v16 =>
    (gR [9] h14 v16 0).bind fun v18 =>
    (gI [3] h14 o0 1).bind fun v20 =>
    (aI 0 h14 v18 (v20 - 1)).bind fun v22 =>
    some (v22 - 48, h14)
set_option maxHeartbeats 1000000 in
theorem w_X3_digit_0 (X : Cx g p s m args meth c cX3_digit 1 "TrapCorner$PlanReader") (hR : 2 ≤ R.frames ∧ 128 ≤ R.locals) (hr : meth.sig.returnType = (some (.int))) {res : Int32 × AH} : ∀ (o0 : Nat) (h : AH) (ls : Array Slot) (H : Heap) (locs : List Loc), f_X3_digit_0 o0 h = some res → Iv g s n0 z0 h H locs 0 0 → lv_has ls 1 [(0, .ref (rfG g o0))] → W p l e R s m args below meth c H locs 0 0 (MQ below (QG g (some (.int res.1)) res.2) args s 0 0 (AG g)) (F0 m 0 ls []) := by
  have hx := X.1
  have hb := X.2.1
  intro o0 h ls H locs hf I hl
  unfold f_X3_digit_0 at hf
  refine lv_aload_n hx hb dX3_digit_0 rfl (lv_at hl 0 rfl) ?_
  obtain ⟨_, g5, hf⟩ := Option.bind_eq_some_iff.mp hf
  obtain ⟨v1, h2, e3, z4, hf⟩ := cN_spec hf
  refine k_Ui (As := []) (rest := []) X I (c_X5_sign l g o0 e3) z4 g5 uk_TrapCorner_PlanReader_37 tw_478 ⟨Nat.le_trans (by decide) hR.1, Nat.le_trans (by decide) hR.2⟩ ⟨Nat.zero_le _, Nat.zero_le _⟩ rfl hl.1 rfl (Nat.le_of_ble_eq_true rfl) dX3_digit_1 (fun H locs I => ?_)
  refine lv_pop hx hb dX3_digit_4 rfl ?_
  refine lv_aload_n hx hb dX3_digit_5 rfl (lv_at hl 0 rfl) ?_
  obtain ⟨_, g10, hf⟩ := Option.bind_eq_some_iff.mp hf
  obtain ⟨v6, h7, e8, z9, hf⟩ := cN_spec hf
  refine k_Ui (As := []) (rest := []) X I (c_X5_digitHere l g o0 e8) z9 g10 uk_TrapCorner_PlanReader_62 tw_601 ⟨Nat.le_trans (by decide) hR.1, Nat.le_trans (by decide) hR.2⟩ ⟨Nat.zero_le _, Nat.zero_le _⟩ rfl hl.1 rfl (Nat.le_of_ble_eq_true rfl) dX3_digit_6 (fun H locs I => ?_)
  refine lv_if_ne (tgt := 23) hx hb dX3_digit_9 (by decide) (fun c11 => ?_) (fun c11 => ?_)
  · rw [if_neg c11] at hf
    refine lv_aload_n hx hb dX3_digit_23 rfl (lv_at hl 0 rfl) ?_
    refine lv_dup hx hb dX3_digit_24 rfl ?_
    obtain ⟨v12, e13, hf⟩ := Option.bind_eq_some_iff.mp hf
    refine r_gI X I e13 lk_TrapCorner_PlanReader_41 dX3_digit_25 ?_
    refine lv_iconst (v := 1) hx hb dX3_digit_28 (by decide) ?_
    refine lv_iadd hx hb dX3_digit_29 ?_
    obtain ⟨h14, e15, hf⟩ := Option.bind_eq_some_iff.mp hf
    refine r_pI X I e15 lp_TrapCorner_PlanReader_41 dX3_digit_30 (fun H locs I => ?_)
    refine lv_aload_n hx hb dX3_digit_33 rfl (lv_at hl 0 rfl) ?_
    obtain ⟨v16, e17, hf⟩ := Option.bind_eq_some_iff.mp hf
    refine r_gR X I e17 lk_TrapCorner_PlanReader_65 dX3_digit_34 ?_
    obtain ⟨v18, e19, hf⟩ := Option.bind_eq_some_iff.mp hf
    refine r_gR X I e19 lk_TrapCorner_PlanReader_69 dX3_digit_37 ?_
    refine lv_aload_n hx hb dX3_digit_40 rfl (lv_at hl 0 rfl) ?_
    obtain ⟨v20, e21, hf⟩ := Option.bind_eq_some_iff.mp hf
    refine r_gI X I e21 lk_TrapCorner_PlanReader_41 dX3_digit_41 ?_
    refine lv_iconst (v := 1) hx hb dX3_digit_44 (by decide) ?_
    refine lv_isub hx hb dX3_digit_45 ?_
    obtain ⟨v22, e23, hf⟩ := Option.bind_eq_some_iff.mp hf
    refine r_aI0 X I e23 dX3_digit_46 ?_
    refine lv_bipush (v := 48) hx hb dX3_digit_47 (by decide) ?_
    refine lv_isub hx hb dX3_digit_49 ?_
    cases hf
    exact k_ri X I hr dX3_digit_50
  · rw [if_pos c11] at hf
    refine lv_aload_n hx hb dX3_digit_12 rfl (lv_at hl 0 rfl) ?_
    refine lv_aload_n hx hb dX3_digit_13 rfl (lv_at hl 0 rfl) ?_
    obtain ⟨v24, e25, hf⟩ := Option.bind_eq_some_iff.mp hf
    refine r_gI X I e25 lk_TrapCorner_PlanReader_41 dX3_digit_14 ?_
    obtain ⟨_, g30, hf⟩ := Option.bind_eq_some_iff.mp hf
    obtain ⟨v26, h27, e28, z29, hf⟩ := cN_spec hf
    refine k_Ui (As := [.int v24]) (rest := []) X I (c_X5_fails l g o0 v24 e28) z29 g30 uk_TrapCorner_PlanReader_44 tw_587 ⟨Nat.le_trans (by decide) hR.1, Nat.le_trans (by decide) hR.2⟩ ⟨Nat.zero_le _, Nat.zero_le _⟩ rfl hl.1 rfl (Nat.le_of_ble_eq_true rfl) dX3_digit_17 (fun H locs I => ?_)
    refine lv_pop hx hb dX3_digit_20 rfl ?_
    refine lv_iconst (v := (-1)) hx hb dX3_digit_21 (by decide) ?_
    cases hf
    exact k_ri X I hr dX3_digit_22
def f_X3_digit (o0 : Nat) (h : AH) : Option (Int32 × AH) := f_X3_digit_0 o0 h
end
theorem c_X3_digit (l : Launch) (g : GG) (o0 : Nat) {h : AH} {res : Int32 × AH} (hf : f_X3_digit o0 h = some res) : CM l g yX3_digit cX3_digit 1 (some (.int)) 2 128 0 0 [.ref (rfG g o0)] h (some (.int res.1)) res.2 :=
  k_body (by decide) (Nat.le_of_ble_eq_true rfl) (fun p e s m below meth c R ls hR hr X I hl => w_X3_digit_0 X ⟨Nat.le_of_eq hR.1.symm, Nat.le_of_eq hR.2.1.symm⟩ hr o0 h ls s.heap [] hf I (lv_sub hl [0] rfl))
/-! TrapCorner$Pull.worth([I)I -/
theorem dX4_worth_0 : decode cX4_worth 0 = .ok (.aload_n 0, 1) := by decide +kernel
theorem dX4_worth_1 : decode cX4_worth 1 = .ok (.iconst 0, 1) := by decide +kernel
theorem dX4_worth_2 : decode cX4_worth 2 = .ok (.putfield 34, 3) := by decide +kernel
theorem dX4_worth_5 : decode cX4_worth 5 = .ok (.iconst 0, 1) := by decide +kernel
theorem dX4_worth_6 : decode cX4_worth 6 = .ok (.istore_n 2, 1) := by decide +kernel
theorem dX4_worth_7 : decode cX4_worth 7 = .ok (.iconst 0, 1) := by decide +kernel
theorem dX4_worth_8 : decode cX4_worth 8 = .ok (.istore_n 3, 1) := by decide +kernel
theorem dX4_worth_9 : decode cX4_worth 9 = .ok (.iload_n 3, 1) := by decide +kernel
theorem dX4_worth_10 : decode cX4_worth 10 = .ok (.aload_n 1, 1) := by decide +kernel
theorem dX4_worth_11 : decode cX4_worth 11 = .ok (.arraylength, 1) := by decide +kernel
theorem dX4_worth_12 : decode cX4_worth 12 = .ok (.if_icmp .ge 167, 3) := by decide +kernel
theorem dX4_worth_15 : decode cX4_worth 15 = .ok (.aload_n 1, 1) := by decide +kernel
theorem dX4_worth_16 : decode cX4_worth 16 = .ok (.iload_n 3, 1) := by decide +kernel
theorem dX4_worth_17 : decode cX4_worth 17 = .ok (.iaload, 1) := by decide +kernel
theorem dX4_worth_18 : decode cX4_worth 18 = .ok (.istore 4, 2) := by decide +kernel
theorem dX4_worth_20 : decode cX4_worth 20 = .ok (.iload_n 2, 1) := by decide +kernel
theorem dX4_worth_21 : decode cX4_worth 21 = .ok (.ifCond .eq 20, 3) := by decide +kernel
theorem dX4_worth_24 : decode cX4_worth 24 = .ok (.iload 4, 2) := by decide +kernel
theorem dX4_worth_26 : decode cX4_worth 26 = .ok (.sipush 10017, 3) := by decide +kernel
theorem dX4_worth_29 : decode cX4_worth 29 = .ok (.if_icmp .eq 7, 3) := by decide +kernel
theorem dX4_worth_32 : decode cX4_worth 32 = .ok (.iconst 1, 1) := by decide +kernel
theorem dX4_worth_33 : decode cX4_worth 33 = .ok (.goto 4, 3) := by decide +kernel
theorem dX4_worth_36 : decode cX4_worth 36 = .ok (.iconst 0, 1) := by decide +kernel
theorem dX4_worth_37 : decode cX4_worth 37 = .ok (.istore_n 2, 1) := by decide +kernel
theorem dX4_worth_38 : decode cX4_worth 38 = .ok (.goto 135, 3) := by decide +kernel
theorem dX4_worth_41 : decode cX4_worth 41 = .ok (.iload 4, 2) := by decide +kernel
theorem dX4_worth_43 : decode cX4_worth 43 = .ok (.sipush 10017, 3) := by decide +kernel
theorem dX4_worth_46 : decode cX4_worth 46 = .ok (.if_icmp .ne 8, 3) := by decide +kernel
theorem dX4_worth_49 : decode cX4_worth 49 = .ok (.aload_n 0, 1) := by decide +kernel
theorem dX4_worth_50 : decode cX4_worth 50 = .ok (.invokevirtual 38, 3) := by decide +kernel
theorem dX4_worth_53 : decode cX4_worth 53 = .ok (.ireturn, 1) := by decide +kernel
theorem dX4_worth_54 : decode cX4_worth 54 = .ok (.iload 4, 2) := by decide +kernel
theorem dX4_worth_56 : decode cX4_worth 56 = .ok (.sipush 10016, 3) := by decide +kernel
theorem dX4_worth_59 : decode cX4_worth 59 = .ok (.if_icmp .ne 19, 3) := by decide +kernel
theorem dX4_worth_62 : decode cX4_worth 62 = .ok (.aload_n 0, 1) := by decide +kernel
theorem dX4_worth_63 : decode cX4_worth 63 = .ok (.invokevirtual 38, 3) := by decide +kernel
theorem dX4_worth_66 : decode cX4_worth 66 = .ok (.ifCond .ne 7, 3) := by decide +kernel
theorem dX4_worth_69 : decode cX4_worth 69 = .ok (.iconst 1, 1) := by decide +kernel
theorem dX4_worth_70 : decode cX4_worth 70 = .ok (.goto 4, 3) := by decide +kernel
theorem dX4_worth_73 : decode cX4_worth 73 = .ok (.iconst 0, 1) := by decide +kernel
theorem dX4_worth_74 : decode cX4_worth 74 = .ok (.istore_n 2, 1) := by decide +kernel
theorem dX4_worth_75 : decode cX4_worth 75 = .ok (.goto 98, 3) := by decide +kernel
theorem dX4_worth_78 : decode cX4_worth 78 = .ok (.iload 4, 2) := by decide +kernel
theorem dX4_worth_80 : decode cX4_worth 80 = .ok (.sipush 10000, 3) := by decide +kernel
theorem dX4_worth_83 : decode cX4_worth 83 = .ok (.if_icmp .ge 12, 3) := by decide +kernel
theorem dX4_worth_86 : decode cX4_worth 86 = .ok (.aload_n 0, 1) := by decide +kernel
theorem dX4_worth_87 : decode cX4_worth 87 = .ok (.iload 4, 2) := by decide +kernel
theorem dX4_worth_89 : decode cX4_worth 89 = .ok (.invokevirtual 42, 3) := by decide +kernel
theorem dX4_worth_92 : decode cX4_worth 92 = .ok (.goto 81, 3) := by decide +kernel
theorem dX4_worth_95 : decode cX4_worth 95 = .ok (.iload 4, 2) := by decide +kernel
theorem dX4_worth_97 : decode cX4_worth 97 = .ok (.sipush 10006, 3) := by decide +kernel
theorem dX4_worth_100 : decode cX4_worth 100 = .ok (.if_icmp .ge 21, 3) := by decide +kernel
theorem dX4_worth_103 : decode cX4_worth 103 = .ok (.aload_n 0, 1) := by decide +kernel
theorem dX4_worth_104 : decode cX4_worth 104 = .ok (.aload_n 0, 1) := by decide +kernel
theorem dX4_worth_105 : decode cX4_worth 105 = .ok (.getfield 9, 3) := by decide +kernel
theorem dX4_worth_108 : decode cX4_worth 108 = .ok (.iload 4, 2) := by decide +kernel
theorem dX4_worth_110 : decode cX4_worth 110 = .ok (.sipush 10000, 3) := by decide +kernel
theorem dX4_worth_113 : decode cX4_worth 113 = .ok (.isub, 1) := by decide +kernel
theorem dX4_worth_114 : decode cX4_worth 114 = .ok (.iaload, 1) := by decide +kernel
theorem dX4_worth_115 : decode cX4_worth 115 = .ok (.invokevirtual 42, 3) := by decide +kernel
theorem dX4_worth_118 : decode cX4_worth 118 = .ok (.goto 55, 3) := by decide +kernel
theorem dX4_worth_121 : decode cX4_worth 121 = .ok (.iload 4, 2) := by decide +kernel
theorem dX4_worth_123 : decode cX4_worth 123 = .ok (.sipush 10015, 3) := by decide +kernel
theorem dX4_worth_126 : decode cX4_worth 126 = .ok (.if_icmp .ne 22, 3) := by decide +kernel
theorem dX4_worth_129 : decode cX4_worth 129 = .ok (.aload_n 0, 1) := by decide +kernel
theorem dX4_worth_130 : decode cX4_worth 130 = .ok (.aload_n 0, 1) := by decide +kernel
theorem dX4_worth_131 : decode cX4_worth 131 = .ok (.invokevirtual 38, 3) := by decide +kernel
theorem dX4_worth_134 : decode cX4_worth 134 = .ok (.ifCond .ne 7, 3) := by decide +kernel
theorem dX4_worth_137 : decode cX4_worth 137 = .ok (.iconst 1, 1) := by decide +kernel
theorem dX4_worth_138 : decode cX4_worth 138 = .ok (.goto 4, 3) := by decide +kernel
theorem dX4_worth_141 : decode cX4_worth 141 = .ok (.iconst 0, 1) := by decide +kernel
theorem dX4_worth_142 : decode cX4_worth 142 = .ok (.invokevirtual 42, 3) := by decide +kernel
theorem dX4_worth_145 : decode cX4_worth 145 = .ok (.goto 28, 3) := by decide +kernel
theorem dX4_worth_148 : decode cX4_worth 148 = .ok (.aload_n 0, 1) := by decide +kernel
theorem dX4_worth_149 : decode cX4_worth 149 = .ok (.invokevirtual 38, 3) := by decide +kernel
theorem dX4_worth_152 : decode cX4_worth 152 = .ok (.istore 5, 2) := by decide +kernel
theorem dX4_worth_154 : decode cX4_worth 154 = .ok (.aload_n 0, 1) := by decide +kernel
theorem dX4_worth_155 : decode cX4_worth 155 = .ok (.invokevirtual 38, 3) := by decide +kernel
theorem dX4_worth_158 : decode cX4_worth 158 = .ok (.istore 6, 2) := by decide +kernel
theorem dX4_worth_160 : decode cX4_worth 160 = .ok (.aload_n 0, 1) := by decide +kernel
theorem dX4_worth_161 : decode cX4_worth 161 = .ok (.iload 4, 2) := by decide +kernel
theorem dX4_worth_163 : decode cX4_worth 163 = .ok (.iload 6, 2) := by decide +kernel
theorem dX4_worth_165 : decode cX4_worth 165 = .ok (.iload 5, 2) := by decide +kernel
theorem dX4_worth_167 : decode cX4_worth 167 = .ok (.invokestatic 46, 3) := by decide +kernel
theorem dX4_worth_170 : decode cX4_worth 170 = .ok (.invokevirtual 42, 3) := by decide +kernel
theorem dX4_worth_173 : decode cX4_worth 173 = .ok (.iinc 3 1, 3) := by decide +kernel
theorem dX4_worth_176 : decode cX4_worth 176 = .ok (.goto (-167), 3) := by decide +kernel
theorem dX4_worth_179 : decode cX4_worth 179 = .ok (.iconst 0, 1) := by decide +kernel
theorem dX4_worth_180 : decode cX4_worth 180 = .ok (.ireturn, 1) := by decide +kernel
theorem vk_TrapCorner_Pull_42 : VK "TrapCorner$Pull" 42 [4] yX4_push 1 := ⟨tw_927, tw_929, tw_10, ⟨by decide, by decide⟩, by decide +kernel, fun ci hci => by
  have hci := List.mem_singleton.mp hci
  subst hci
  exact ⟨_, rfl, tp_29⟩⟩
theorem vk_TrapCorner_Pull_38 : VK "TrapCorner$Pull" 38 [4] yX4_pop 0 := ⟨tw_923, tw_925, tw_10, ⟨by decide, by decide⟩, by decide +kernel, fun ci hci => by
  have hci := List.mem_singleton.mp hci
  subst hci
  exact ⟨_, rfl, tp_28⟩⟩
theorem sk_TrapCorner_Pull_46 : SK "TrapCorner$Pull" 46 yX4_joined 3 := ⟨tw_931, tw_932, tw_10, ⟨by decide, by decide⟩, by decide +kernel⟩
theorem lk_TrapCorner_Pull_9 : LK "TrapCorner$Pull" 9 [4] 1 := by
  intro ci hci
  have hci := List.mem_singleton.mp hci
  subst hci
  exact ⟨RX4, TX4, 4, "TrapCorner$Pull", ck_4, by decide, tw_282, Or.inl rfl⟩
section
variable {g : GG} {p : Program} {l : Launch} {e : Env} {R : Room} {s : State} {m : MethodId} {args : Array Value} {below : List Frame} {meth : Method} {c : Code} {n0 z0 : Nat}
def f_X4_worth_173 (k9 : Nat → Nat → Int32 → Int32 → AH → Option (Int32 × AH)) (o0 : Nat) (o1 : Nat) (x2 : Int32) (x3 : Int32) (h : AH) : Option (Int32 × AH) :=
  k9 o0 o1 x2 (x3 + 1) h
set_option maxHeartbeats 1000000 in
theorem w_X4_worth_173 (X : Cx g p s m args meth c cX4_worth 7 "TrapCorner$Pull") (hR : 2 ≤ R.frames ∧ 128 ≤ R.locals) (hr : meth.sig.returnType = (some (.int))) {res : Int32 × AH} {k9 : Nat → Nat → Int32 → Int32 → AH → Option (Int32 × AH)} (hk9 : ∀ (o0 : Nat) (o1 : Nat) (x2 : Int32) (x3 : Int32) (h : AH) (ls : Array Slot) (H : Heap) (locs : List Loc), k9 o0 o1 x2 x3 h = some res → Iv g s n0 z0 h H locs 0 0 → lv_has ls 7 [(0, .ref (rfG g o0)), (1, .ref (rfG g o1)), (2, .int x2), (3, .int x3)] → W p l e R s m args below meth c H locs 0 0 (MQ below (QG g (some (.int res.1)) res.2) args s 0 0 (AG g)) (F0 m 9 ls [])) : ∀ (o0 : Nat) (o1 : Nat) (x2 : Int32) (x3 : Int32) (h : AH) (ls : Array Slot) (H : Heap) (locs : List Loc), f_X4_worth_173 k9 o0 o1 x2 x3 h = some res → Iv g s n0 z0 h H locs 0 0 → lv_has ls 7 [(0, .ref (rfG g o0)), (1, .ref (rfG g o1)), (2, .int x2), (3, .int x3)] → W p l e R s m args below meth c H locs 0 0 (MQ below (QG g (some (.int res.1)) res.2) args s 0 0 (AG g)) (F0 m 173 ls []) := by
  have hx := X.1
  have hb := X.2.1
  intro o0 o1 x2 x3 h ls H locs hf I hl
  unfold f_X4_worth_173 at hf
  refine lv_iinc (v := x3 + 1) (lv' := [(3, .int (x3 + 1)), (0, .ref (rfG g o0)), (1, .ref (rfG g o1)), (2, .int x2)]) hx hb dX4_worth_173 hl (k := 3) rfl rfl (by decide) rfl (fun ls hl => ?_)
  refine lv_goto (tgt := 9) hx hb dX4_worth_176 (by decide) ?_
  exact hk9 o0 o1 x2 (x3 + 1) h ls H locs hf I (lv_sub hl [1, 2, 3, 0] rfl)
def f_X4_worth_37 (k9 : Nat → Nat → Int32 → Int32 → AH → Option (Int32 × AH)) (o0 : Nat) (o1 : Nat) (x3 : Int32) (s0 : Int32) (h : AH) : Option (Int32 × AH) :=
  f_X4_worth_173 k9 o0 o1 s0 x3 h
set_option maxHeartbeats 1000000 in
theorem w_X4_worth_37 (X : Cx g p s m args meth c cX4_worth 7 "TrapCorner$Pull") (hR : 2 ≤ R.frames ∧ 128 ≤ R.locals) (hr : meth.sig.returnType = (some (.int))) {res : Int32 × AH} {k9 : Nat → Nat → Int32 → Int32 → AH → Option (Int32 × AH)} (hk9 : ∀ (o0 : Nat) (o1 : Nat) (x2 : Int32) (x3 : Int32) (h : AH) (ls : Array Slot) (H : Heap) (locs : List Loc), k9 o0 o1 x2 x3 h = some res → Iv g s n0 z0 h H locs 0 0 → lv_has ls 7 [(0, .ref (rfG g o0)), (1, .ref (rfG g o1)), (2, .int x2), (3, .int x3)] → W p l e R s m args below meth c H locs 0 0 (MQ below (QG g (some (.int res.1)) res.2) args s 0 0 (AG g)) (F0 m 9 ls [])) : ∀ (o0 : Nat) (o1 : Nat) (x3 : Int32) (s0 : Int32) (h : AH) (ls : Array Slot) (H : Heap) (locs : List Loc), f_X4_worth_37 k9 o0 o1 x3 s0 h = some res → Iv g s n0 z0 h H locs 0 0 → lv_has ls 7 [(0, .ref (rfG g o0)), (1, .ref (rfG g o1)), (3, .int x3)] → W p l e R s m args below meth c H locs 0 0 (MQ below (QG g (some (.int res.1)) res.2) args s 0 0 (AG g)) (F0 m 37 ls [.int s0]) := by
  have hx := X.1
  have hb := X.2.1
  intro o0 o1 x3 s0 h ls H locs hf I hl
  unfold f_X4_worth_37 at hf
  refine lv_istore_n (lv' := [(2, .int s0), (0, .ref (rfG g o0)), (1, .ref (rfG g o1)), (3, .int x3)]) hx hb dX4_worth_37 rfl hl (by decide) rfl (fun ls hl => ?_)
  refine lv_goto (tgt := 173) hx hb dX4_worth_38 (by decide) ?_
  exact w_X4_worth_173 X hR hr hk9 o0 o1 s0 x3 h ls H locs hf I (lv_sub hl [1, 2, 0, 3] rfl)
def f_X4_worth_74 (k9 : Nat → Nat → Int32 → Int32 → AH → Option (Int32 × AH)) (o0 : Nat) (o1 : Nat) (x3 : Int32) (s0 : Int32) (h : AH) : Option (Int32 × AH) :=
  f_X4_worth_173 k9 o0 o1 s0 x3 h
set_option maxHeartbeats 1000000 in
theorem w_X4_worth_74 (X : Cx g p s m args meth c cX4_worth 7 "TrapCorner$Pull") (hR : 2 ≤ R.frames ∧ 128 ≤ R.locals) (hr : meth.sig.returnType = (some (.int))) {res : Int32 × AH} {k9 : Nat → Nat → Int32 → Int32 → AH → Option (Int32 × AH)} (hk9 : ∀ (o0 : Nat) (o1 : Nat) (x2 : Int32) (x3 : Int32) (h : AH) (ls : Array Slot) (H : Heap) (locs : List Loc), k9 o0 o1 x2 x3 h = some res → Iv g s n0 z0 h H locs 0 0 → lv_has ls 7 [(0, .ref (rfG g o0)), (1, .ref (rfG g o1)), (2, .int x2), (3, .int x3)] → W p l e R s m args below meth c H locs 0 0 (MQ below (QG g (some (.int res.1)) res.2) args s 0 0 (AG g)) (F0 m 9 ls [])) : ∀ (o0 : Nat) (o1 : Nat) (x3 : Int32) (s0 : Int32) (h : AH) (ls : Array Slot) (H : Heap) (locs : List Loc), f_X4_worth_74 k9 o0 o1 x3 s0 h = some res → Iv g s n0 z0 h H locs 0 0 → lv_has ls 7 [(0, .ref (rfG g o0)), (1, .ref (rfG g o1)), (3, .int x3)] → W p l e R s m args below meth c H locs 0 0 (MQ below (QG g (some (.int res.1)) res.2) args s 0 0 (AG g)) (F0 m 74 ls [.int s0]) := by
  have hx := X.1
  have hb := X.2.1
  intro o0 o1 x3 s0 h ls H locs hf I hl
  unfold f_X4_worth_74 at hf
  refine lv_istore_n (lv' := [(2, .int s0), (0, .ref (rfG g o0)), (1, .ref (rfG g o1)), (3, .int x3)]) hx hb dX4_worth_74 rfl hl (by decide) rfl (fun ls hl => ?_)
  refine lv_goto (tgt := 173) hx hb dX4_worth_75 (by decide) ?_
  exact w_X4_worth_173 X hR hr hk9 o0 o1 s0 x3 h ls H locs hf I (lv_sub hl [1, 2, 0, 3] rfl)
def f_X4_worth_142 (k9 : Nat → Nat → Int32 → Int32 → AH → Option (Int32 × AH)) (o0 : Nat) (o1 : Nat) (x2 : Int32) (x3 : Int32) (s0 : Nat) (s1 : Int32) (h : AH) : Option (Int32 × AH) :=
  (isC [4] h s0).bind fun _ =>
  cN (f_X4_push s0 s1 h) h fun _ h2 =>
  f_X4_worth_173 k9 o0 o1 x2 x3 h2
set_option maxHeartbeats 1000000 in
theorem w_X4_worth_142 (X : Cx g p s m args meth c cX4_worth 7 "TrapCorner$Pull") (hR : 2 ≤ R.frames ∧ 128 ≤ R.locals) (hr : meth.sig.returnType = (some (.int))) {res : Int32 × AH} {k9 : Nat → Nat → Int32 → Int32 → AH → Option (Int32 × AH)} (hk9 : ∀ (o0 : Nat) (o1 : Nat) (x2 : Int32) (x3 : Int32) (h : AH) (ls : Array Slot) (H : Heap) (locs : List Loc), k9 o0 o1 x2 x3 h = some res → Iv g s n0 z0 h H locs 0 0 → lv_has ls 7 [(0, .ref (rfG g o0)), (1, .ref (rfG g o1)), (2, .int x2), (3, .int x3)] → W p l e R s m args below meth c H locs 0 0 (MQ below (QG g (some (.int res.1)) res.2) args s 0 0 (AG g)) (F0 m 9 ls [])) : ∀ (o0 : Nat) (o1 : Nat) (x2 : Int32) (x3 : Int32) (s0 : Nat) (s1 : Int32) (h : AH) (ls : Array Slot) (H : Heap) (locs : List Loc), f_X4_worth_142 k9 o0 o1 x2 x3 s0 s1 h = some res → Iv g s n0 z0 h H locs 0 0 → lv_has ls 7 [(0, .ref (rfG g o0)), (1, .ref (rfG g o1)), (2, .int x2), (3, .int x3)] → W p l e R s m args below meth c H locs 0 0 (MQ below (QG g (some (.int res.1)) res.2) args s 0 0 (AG g)) (F0 m 142 ls [.int s1, .ref (rfG g s0)]) := by
  have hx := X.1
  have hb := X.2.1
  intro o0 o1 x2 x3 s0 s1 h ls H locs hf I hl
  unfold f_X4_worth_142 at hf
  obtain ⟨_, g5, hf⟩ := Option.bind_eq_some_iff.mp hf
  obtain ⟨⟨⟩, h2, e3, z4, hf⟩ := cN_spec hf
  refine k_Vv (As := [.int s1]) (rest := []) X I (c_X4_push l g s0 s1 e3) z4 g5 vk_TrapCorner_Pull_42 tw_930 ⟨Nat.le_trans (by decide) hR.1, Nat.le_trans (by decide) hR.2⟩ ⟨Nat.zero_le _, Nat.zero_le _⟩ rfl hl.1 rfl (Nat.le_of_ble_eq_true rfl) dX4_worth_142 (fun H locs I => ?_)
  refine lv_goto (tgt := 173) hx hb dX4_worth_145 (by decide) ?_
  exact w_X4_worth_173 X hR hr hk9 o0 o1 x2 x3 h2 ls H locs hf I (lv_sub hl [0, 1, 2, 3] rfl)
def f_X4_worth_9  : Nat → Nat → Nat → Int32 → Int32 → AH → Option (Int32 × AH)
  | 0, _, _, _, _, _ => none
  | n + 1, o0, o1, x2, x3, h =>
  (aLen h o1).bind fun v1 =>
  if v1 ≤ x3 then
    some (0, h)
  else
    (aI 0 h o1 x3).bind fun v4 =>
    if x2 = 0 then
      if v4 = 10017 then
        (isC [4] h o0).bind fun _ =>
        cN (f_X4_pop o0 h) h fun v57 h58 =>
        some (v57, h58)
      else
        if v4 = 10016 then
          (isC [4] h o0).bind fun _ =>
          cN (f_X4_pop o0 h) h fun v51 h52 =>
          if v51 = 0 then
            f_X4_worth_74 (f_X4_worth_9 n) o0 o1 x3 1 h52
          else
            f_X4_worth_74 (f_X4_worth_9 n) o0 o1 x3 0 h52
        else
          if 10000 ≤ v4 then
            if 10006 ≤ v4 then
              if v4 = 10015 then
                (isC [4] h o0).bind fun _ =>
                cN (f_X4_pop o0 h) h fun v31 h32 =>
                if v31 = 0 then
                  f_X4_worth_142 (f_X4_worth_9 n) o0 o1 x2 x3 o0 1 h32
                else
                  f_X4_worth_142 (f_X4_worth_9 n) o0 o1 x2 x3 o0 0 h32
              else
                (isC [4] h o0).bind fun _ =>
                cN (f_X4_pop o0 h) h fun v12 h13 =>
                (isC [4] h13 o0).bind fun _ =>
                cN (f_X4_pop o0 h13) h13 fun v17 h18 =>
                cN (f_X4_joined v4 v17 v12 h18) h18 fun v22 h23 =>
                (isC [4] h23 o0).bind fun _ =>
                cN (f_X4_push o0 v22 h23) h23 fun _ h27 =>
                f_X4_worth_173 (f_X4_worth_9 n) o0 o1 x2 x3 h27
            else
              (gR [4] h o0 1).bind fun v37 =>
              (aI 0 h v37 (v4 - 10000)).bind fun v39 =>
              (isC [4] h o0).bind fun _ =>
              cN (f_X4_push o0 v39 h) h fun _ h42 =>
              f_X4_worth_173 (f_X4_worth_9 n) o0 o1 x2 x3 h42
          else
            (isC [4] h o0).bind fun _ =>
            cN (f_X4_push o0 v4 h) h fun _ h47 =>
            f_X4_worth_173 (f_X4_worth_9 n) o0 o1 x2 x3 h47
    else
      if v4 = 10017 then
        f_X4_worth_37 (f_X4_worth_9 n) o0 o1 x3 0 h
      else
        f_X4_worth_37 (f_X4_worth_9 n) o0 o1 x3 1 h
set_option maxHeartbeats 1000000 in
theorem w_X4_worth_9 (X : Cx g p s m args meth c cX4_worth 7 "TrapCorner$Pull") (hR : 2 ≤ R.frames ∧ 128 ≤ R.locals) (hr : meth.sig.returnType = (some (.int))) {res : Int32 × AH} : ∀ (n : Nat) (o0 : Nat) (o1 : Nat) (x2 : Int32) (x3 : Int32) (h : AH) (ls : Array Slot) (H : Heap) (locs : List Loc), f_X4_worth_9 n o0 o1 x2 x3 h = some res → Iv g s n0 z0 h H locs 0 0 → lv_has ls 7 [(0, .ref (rfG g o0)), (1, .ref (rfG g o1)), (2, .int x2), (3, .int x3)] → W p l e R s m args below meth c H locs 0 0 (MQ below (QG g (some (.int res.1)) res.2) args s 0 0 (AG g)) (F0 m 9 ls []) := by
  have hx := X.1
  have hb := X.2.1
  intro n
  induction n with
  | zero =>
    intro o0 o1 x2 x3 h ls H locs hf
    rw [f_X4_worth_9.eq_1] at hf
    cases hf
  | succ n ih =>
    intro o0 o1 x2 x3 h ls H locs hf I hl
    rw [f_X4_worth_9.eq_2] at hf
    refine lv_iload_n hx hb dX4_worth_9 rfl (lv_at hl 3 rfl) ?_
    refine lv_aload_n hx hb dX4_worth_10 rfl (lv_at hl 1 rfl) ?_
    obtain ⟨v1, e2, hf⟩ := Option.bind_eq_some_iff.mp hf
    refine r_len X I e2 dX4_worth_11 ?_
    refine lv_icmp_ge (tgt := 179) hx hb dX4_worth_12 (by decide) (fun c3 => ?_) (fun c3 => ?_)
    · rw [if_pos c3] at hf
      refine lv_iconst (v := 0) hx hb dX4_worth_179 (by decide) ?_
      cases hf
      exact k_ri X I hr dX4_worth_180
    · rw [if_neg c3] at hf
      refine lv_aload_n hx hb dX4_worth_15 rfl (lv_at hl 1 rfl) ?_
      refine lv_iload_n hx hb dX4_worth_16 rfl (lv_at hl 3 rfl) ?_
      obtain ⟨v4, e5, hf⟩ := Option.bind_eq_some_iff.mp hf
      refine r_aI0 X I e5 dX4_worth_17 ?_
      refine lv_istore (lv' := [(4, .int v4), (0, .ref (rfG g o0)), (1, .ref (rfG g o1)), (2, .int x2), (3, .int x3)]) hx hb dX4_worth_18 hl (by decide) rfl (fun ls hl => ?_)
      refine lv_iload_n hx hb dX4_worth_20 rfl (lv_at hl 3 rfl) ?_
      refine lv_if_eq (tgt := 41) hx hb dX4_worth_21 (by decide) (fun c6 => ?_) (fun c6 => ?_)
      · rw [if_pos c6] at hf
        refine lv_iload hx hb dX4_worth_41 (lv_at hl 0 rfl) ?_
        refine lv_sipush (v := 10017) hx hb dX4_worth_43 (by decide) ?_
        refine lv_icmp_ne (tgt := 54) hx hb dX4_worth_46 (by decide) (fun c7 => ?_) (fun c7 => ?_)
        · rw [if_neg c7] at hf
          refine lv_iload hx hb dX4_worth_54 (lv_at hl 0 rfl) ?_
          refine lv_sipush (v := 10016) hx hb dX4_worth_56 (by decide) ?_
          refine lv_icmp_ne (tgt := 78) hx hb dX4_worth_59 (by decide) (fun c8 => ?_) (fun c8 => ?_)
          · rw [if_neg c8] at hf
            refine lv_iload hx hb dX4_worth_78 (lv_at hl 0 rfl) ?_
            refine lv_sipush (v := 10000) hx hb dX4_worth_80 (by decide) ?_
            refine lv_icmp_ge (tgt := 95) hx hb dX4_worth_83 (by decide) (fun c9 => ?_) (fun c9 => ?_)
            · rw [if_pos c9] at hf
              refine lv_iload hx hb dX4_worth_95 (lv_at hl 0 rfl) ?_
              refine lv_sipush (v := 10006) hx hb dX4_worth_97 (by decide) ?_
              refine lv_icmp_ge (tgt := 121) hx hb dX4_worth_100 (by decide) (fun c10 => ?_) (fun c10 => ?_)
              · rw [if_pos c10] at hf
                refine lv_iload hx hb dX4_worth_121 (lv_at hl 0 rfl) ?_
                refine lv_sipush (v := 10015) hx hb dX4_worth_123 (by decide) ?_
                refine lv_icmp_ne (tgt := 148) hx hb dX4_worth_126 (by decide) (fun c11 => ?_) (fun c11 => ?_)
                · rw [if_neg c11] at hf
                  refine lv_aload_n hx hb dX4_worth_148 rfl (lv_at hl 1 rfl) ?_
                  obtain ⟨_, g16, hf⟩ := Option.bind_eq_some_iff.mp hf
                  obtain ⟨v12, h13, e14, z15, hf⟩ := cN_spec hf
                  refine k_Vi (As := []) (rest := []) X I (c_X4_pop l g o0 e14) z15 g16 vk_TrapCorner_Pull_38 tw_926 ⟨Nat.le_trans (by decide) hR.1, Nat.le_trans (by decide) hR.2⟩ ⟨Nat.zero_le _, Nat.zero_le _⟩ rfl hl.1 rfl (Nat.le_of_ble_eq_true rfl) dX4_worth_149 (fun H locs I => ?_)
                  refine lv_istore (lv' := [(5, .int v12), (4, .int v4), (0, .ref (rfG g o0)), (1, .ref (rfG g o1)), (2, .int x2), (3, .int x3)]) hx hb dX4_worth_152 hl (by decide) rfl (fun ls hl => ?_)
                  refine lv_aload_n hx hb dX4_worth_154 rfl (lv_at hl 2 rfl) ?_
                  obtain ⟨_, g21, hf⟩ := Option.bind_eq_some_iff.mp hf
                  obtain ⟨v17, h18, e19, z20, hf⟩ := cN_spec hf
                  refine k_Vi (As := []) (rest := []) X I (c_X4_pop l g o0 e19) z20 g21 vk_TrapCorner_Pull_38 tw_926 ⟨Nat.le_trans (by decide) hR.1, Nat.le_trans (by decide) hR.2⟩ ⟨Nat.zero_le _, Nat.zero_le _⟩ rfl hl.1 rfl (Nat.le_of_ble_eq_true rfl) dX4_worth_155 (fun H locs I => ?_)
                  refine lv_istore (lv' := [(6, .int v17), (5, .int v12), (4, .int v4), (0, .ref (rfG g o0)), (1, .ref (rfG g o1)), (2, .int x2), (3, .int x3)]) hx hb dX4_worth_158 hl (by decide) rfl (fun ls hl => ?_)
                  refine lv_aload_n hx hb dX4_worth_160 rfl (lv_at hl 3 rfl) ?_
                  refine lv_iload hx hb dX4_worth_161 (lv_at hl 2 rfl) ?_
                  refine lv_iload hx hb dX4_worth_163 (lv_at hl 0 rfl) ?_
                  refine lv_iload hx hb dX4_worth_165 (lv_at hl 1 rfl) ?_
                  obtain ⟨v22, h23, e24, z25, hf⟩ := cN_spec hf
                  refine k_Si (As := [.int v4, .int v17, .int v12]) (rest := [.ref (rfG g o0)]) X I (c_X4_joined l g v4 v17 v12 e24) z25 sk_TrapCorner_Pull_46 tw_933 ⟨Nat.le_trans (by decide) hR.1, Nat.le_trans (by decide) hR.2⟩ ⟨Nat.zero_le _, Nat.zero_le _⟩ rfl hl.1 rfl (Nat.le_of_ble_eq_true rfl) dX4_worth_167 (fun H locs I => ?_)
                  obtain ⟨_, g30, hf⟩ := Option.bind_eq_some_iff.mp hf
                  obtain ⟨⟨⟩, h27, e28, z29, hf⟩ := cN_spec hf
                  refine k_Vv (As := [.int v22]) (rest := []) X I (c_X4_push l g o0 v22 e28) z29 g30 vk_TrapCorner_Pull_42 tw_930 ⟨Nat.le_trans (by decide) hR.1, Nat.le_trans (by decide) hR.2⟩ ⟨Nat.zero_le _, Nat.zero_le _⟩ rfl hl.1 rfl (Nat.le_of_ble_eq_true rfl) dX4_worth_170 (fun H locs I => ?_)
                  exact w_X4_worth_173 X hR hr ih o0 o1 x2 x3 h27 ls H locs hf I (lv_sub hl [3, 4, 5, 6] rfl)
                · rw [if_pos c11] at hf
                  refine lv_aload_n hx hb dX4_worth_129 rfl (lv_at hl 1 rfl) ?_
                  refine lv_aload_n hx hb dX4_worth_130 rfl (lv_at hl 1 rfl) ?_
                  obtain ⟨_, g35, hf⟩ := Option.bind_eq_some_iff.mp hf
                  obtain ⟨v31, h32, e33, z34, hf⟩ := cN_spec hf
                  refine k_Vi (As := []) (rest := [.ref (rfG g o0)]) X I (c_X4_pop l g o0 e33) z34 g35 vk_TrapCorner_Pull_38 tw_926 ⟨Nat.le_trans (by decide) hR.1, Nat.le_trans (by decide) hR.2⟩ ⟨Nat.zero_le _, Nat.zero_le _⟩ rfl hl.1 rfl (Nat.le_of_ble_eq_true rfl) dX4_worth_131 (fun H locs I => ?_)
                  refine lv_if_ne (tgt := 141) hx hb dX4_worth_134 (by decide) (fun c36 => ?_) (fun c36 => ?_)
                  · rw [if_neg c36] at hf
                    refine lv_iconst (v := 0) hx hb dX4_worth_141 (by decide) ?_
                    exact w_X4_worth_142 X hR hr ih o0 o1 x2 x3 o0 0 h32 ls H locs hf I (lv_sub hl [1, 2, 3, 4] rfl)
                  · rw [if_pos c36] at hf
                    refine lv_iconst (v := 1) hx hb dX4_worth_137 (by decide) ?_
                    refine lv_goto (tgt := 142) hx hb dX4_worth_138 (by decide) ?_
                    exact w_X4_worth_142 X hR hr ih o0 o1 x2 x3 o0 1 h32 ls H locs hf I (lv_sub hl [1, 2, 3, 4] rfl)
              · rw [if_neg c10] at hf
                refine lv_aload_n hx hb dX4_worth_103 rfl (lv_at hl 1 rfl) ?_
                refine lv_aload_n hx hb dX4_worth_104 rfl (lv_at hl 1 rfl) ?_
                obtain ⟨v37, e38, hf⟩ := Option.bind_eq_some_iff.mp hf
                refine r_gR X I e38 lk_TrapCorner_Pull_9 dX4_worth_105 ?_
                refine lv_iload hx hb dX4_worth_108 (lv_at hl 0 rfl) ?_
                refine lv_sipush (v := 10000) hx hb dX4_worth_110 (by decide) ?_
                refine lv_isub hx hb dX4_worth_113 ?_
                obtain ⟨v39, e40, hf⟩ := Option.bind_eq_some_iff.mp hf
                refine r_aI0 X I e40 dX4_worth_114 ?_
                obtain ⟨_, g45, hf⟩ := Option.bind_eq_some_iff.mp hf
                obtain ⟨⟨⟩, h42, e43, z44, hf⟩ := cN_spec hf
                refine k_Vv (As := [.int v39]) (rest := []) X I (c_X4_push l g o0 v39 e43) z44 g45 vk_TrapCorner_Pull_42 tw_930 ⟨Nat.le_trans (by decide) hR.1, Nat.le_trans (by decide) hR.2⟩ ⟨Nat.zero_le _, Nat.zero_le _⟩ rfl hl.1 rfl (Nat.le_of_ble_eq_true rfl) dX4_worth_115 (fun H locs I => ?_)
                refine lv_goto (tgt := 173) hx hb dX4_worth_118 (by decide) ?_
                exact w_X4_worth_173 X hR hr ih o0 o1 x2 x3 h42 ls H locs hf I (lv_sub hl [1, 2, 3, 4] rfl)
            · rw [if_neg c9] at hf
              refine lv_aload_n hx hb dX4_worth_86 rfl (lv_at hl 1 rfl) ?_
              refine lv_iload hx hb dX4_worth_87 (lv_at hl 0 rfl) ?_
              obtain ⟨_, g50, hf⟩ := Option.bind_eq_some_iff.mp hf
              obtain ⟨⟨⟩, h47, e48, z49, hf⟩ := cN_spec hf
              refine k_Vv (As := [.int v4]) (rest := []) X I (c_X4_push l g o0 v4 e48) z49 g50 vk_TrapCorner_Pull_42 tw_930 ⟨Nat.le_trans (by decide) hR.1, Nat.le_trans (by decide) hR.2⟩ ⟨Nat.zero_le _, Nat.zero_le _⟩ rfl hl.1 rfl (Nat.le_of_ble_eq_true rfl) dX4_worth_89 (fun H locs I => ?_)
              refine lv_goto (tgt := 173) hx hb dX4_worth_92 (by decide) ?_
              exact w_X4_worth_173 X hR hr ih o0 o1 x2 x3 h47 ls H locs hf I (lv_sub hl [1, 2, 3, 4] rfl)
          · rw [if_pos c8] at hf
            refine lv_aload_n hx hb dX4_worth_62 rfl (lv_at hl 1 rfl) ?_
            obtain ⟨_, g55, hf⟩ := Option.bind_eq_some_iff.mp hf
            obtain ⟨v51, h52, e53, z54, hf⟩ := cN_spec hf
            refine k_Vi (As := []) (rest := []) X I (c_X4_pop l g o0 e53) z54 g55 vk_TrapCorner_Pull_38 tw_926 ⟨Nat.le_trans (by decide) hR.1, Nat.le_trans (by decide) hR.2⟩ ⟨Nat.zero_le _, Nat.zero_le _⟩ rfl hl.1 rfl (Nat.le_of_ble_eq_true rfl) dX4_worth_63 (fun H locs I => ?_)
            refine lv_if_ne (tgt := 73) hx hb dX4_worth_66 (by decide) (fun c56 => ?_) (fun c56 => ?_)
            · rw [if_neg c56] at hf
              refine lv_iconst (v := 0) hx hb dX4_worth_73 (by decide) ?_
              exact w_X4_worth_74 X hR hr ih o0 o1 x3 0 h52 ls H locs hf I (lv_sub hl [1, 2, 4] rfl)
            · rw [if_pos c56] at hf
              refine lv_iconst (v := 1) hx hb dX4_worth_69 (by decide) ?_
              refine lv_goto (tgt := 74) hx hb dX4_worth_70 (by decide) ?_
              exact w_X4_worth_74 X hR hr ih o0 o1 x3 1 h52 ls H locs hf I (lv_sub hl [1, 2, 4] rfl)
        · rw [if_pos c7] at hf
          refine lv_aload_n hx hb dX4_worth_49 rfl (lv_at hl 1 rfl) ?_
          obtain ⟨_, g61, hf⟩ := Option.bind_eq_some_iff.mp hf
          obtain ⟨v57, h58, e59, z60, hf⟩ := cN_spec hf
          refine k_Vi (As := []) (rest := []) X I (c_X4_pop l g o0 e59) z60 g61 vk_TrapCorner_Pull_38 tw_926 ⟨Nat.le_trans (by decide) hR.1, Nat.le_trans (by decide) hR.2⟩ ⟨Nat.zero_le _, Nat.zero_le _⟩ rfl hl.1 rfl (Nat.le_of_ble_eq_true rfl) dX4_worth_50 (fun H locs I => ?_)
          cases hf
          exact k_ri X I hr dX4_worth_53
      · rw [if_neg c6] at hf
        refine lv_iload hx hb dX4_worth_24 (lv_at hl 0 rfl) ?_
        refine lv_sipush (v := 10017) hx hb dX4_worth_26 (by decide) ?_
        refine lv_icmp_eq (tgt := 36) hx hb dX4_worth_29 (by decide) (fun c62 => ?_) (fun c62 => ?_)
        · rw [if_pos c62] at hf
          refine lv_iconst (v := 0) hx hb dX4_worth_36 (by decide) ?_
          exact w_X4_worth_37 X hR hr ih o0 o1 x3 0 h ls H locs hf I (lv_sub hl [1, 2, 4] rfl)
        · rw [if_neg c62] at hf
          refine lv_iconst (v := 1) hx hb dX4_worth_32 (by decide) ?_
          refine lv_goto (tgt := 37) hx hb dX4_worth_33 (by decide) ?_
          exact w_X4_worth_37 X hR hr ih o0 o1 x3 1 h ls H locs hf I (lv_sub hl [1, 2, 4] rfl)
def f_X4_worth_0  (o0 : Nat) (o1 : Nat) (h : AH) : Option (Int32 × AH) :=
  (pV [4] h o0 3 (.int 0)).bind fun h1 =>
  f_X4_worth_9 fu o0 o1 0 0 h1
set_option maxHeartbeats 1000000 in
theorem w_X4_worth_0 (X : Cx g p s m args meth c cX4_worth 7 "TrapCorner$Pull") (hR : 2 ≤ R.frames ∧ 128 ≤ R.locals) (hr : meth.sig.returnType = (some (.int))) {res : Int32 × AH} : ∀ (o0 : Nat) (o1 : Nat) (h : AH) (ls : Array Slot) (H : Heap) (locs : List Loc), f_X4_worth_0 o0 o1 h = some res → Iv g s n0 z0 h H locs 0 0 → lv_has ls 7 [(0, .ref (rfG g o0)), (1, .ref (rfG g o1))] → W p l e R s m args below meth c H locs 0 0 (MQ below (QG g (some (.int res.1)) res.2) args s 0 0 (AG g)) (F0 m 0 ls []) := by
  have hx := X.1
  have hb := X.2.1
  intro o0 o1 h ls H locs hf I hl
  unfold f_X4_worth_0 at hf
  refine lv_aload_n hx hb dX4_worth_0 rfl (lv_at hl 0 rfl) ?_
  refine lv_iconst (v := 0) hx hb dX4_worth_1 (by decide) ?_
  obtain ⟨h1, e2, hf⟩ := Option.bind_eq_some_iff.mp hf
  refine r_pI X I e2 lp_TrapCorner_Pull_34 dX4_worth_2 (fun H locs I => ?_)
  refine lv_iconst (v := 0) hx hb dX4_worth_5 (by decide) ?_
  refine lv_istore_n (lv' := [(2, .int 0), (0, .ref (rfG g o0)), (1, .ref (rfG g o1))]) hx hb dX4_worth_6 rfl hl (by decide) rfl (fun ls hl => ?_)
  refine lv_iconst (v := 0) hx hb dX4_worth_7 (by decide) ?_
  refine lv_istore_n (lv' := [(3, .int 0), (2, .int 0), (0, .ref (rfG g o0)), (1, .ref (rfG g o1))]) hx hb dX4_worth_8 rfl hl (by decide) rfl (fun ls hl => ?_)
  exact w_X4_worth_9 X hR hr fu o0 o1 0 0 h1 ls H locs hf I (lv_sub hl [2, 3, 1, 0] rfl)
def f_X4_worth (o0 : Nat) (o1 : Nat) (h : AH) : Option (Int32 × AH) := f_X4_worth_0 o0 o1 h
end
theorem c_X4_worth (l : Launch) (g : GG) (o0 : Nat) (o1 : Nat) {h : AH} {res : Int32 × AH} (hf : f_X4_worth o0 o1 h = some res) : CM l g yX4_worth cX4_worth 7 (some (.int)) 2 128 0 0 [.ref (rfG g o0), .ref (rfG g o1)] h (some (.int res.1)) res.2 :=
  k_body (by decide) (Nat.le_of_ble_eq_true rfl) (fun p e s m below meth c R ls hR hr X I hl => w_X4_worth_0 X ⟨Nat.le_of_eq hR.1.symm, Nat.le_of_eq hR.2.1.symm⟩ hr o0 o1 h ls s.heap [] hf I (lv_sub hl [0, 1] rfl))
