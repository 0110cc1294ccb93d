/-! TrapCornerModel.rests(III)I -/
theorem dX12_rests_0 : decode cX12_rests 0 = .ok (.aload_n 0, 1) := by decide +kernel
theorem dX12_rests_1 : decode cX12_rests 1 = .ok (.iconst 0, 1) := by decide +kernel
theorem dX12_rests_2 : decode cX12_rests 2 = .ok (.putfield 96, 3) := by decide +kernel
theorem dX12_rests_5 : decode cX12_rests 5 = .ok (.aload_n 0, 1) := by decide +kernel
theorem dX12_rests_6 : decode cX12_rests 6 = .ok (.iload_n 1, 1) := by decide +kernel
theorem dX12_rests_7 : decode cX12_rests 7 = .ok (.invokevirtual 383, 3) := by decide +kernel
theorem dX12_rests_10 : decode cX12_rests 10 = .ok (.ifCond .eq 16, 3) := by decide +kernel
theorem dX12_rests_13 : decode cX12_rests 13 = .ok (.aload_n 0, 1) := by decide +kernel
theorem dX12_rests_14 : decode cX12_rests 14 = .ok (.iload_n 2, 1) := by decide +kernel
theorem dX12_rests_15 : decode cX12_rests 15 = .ok (.invokevirtual 380, 3) := by decide +kernel
theorem dX12_rests_18 : decode cX12_rests 18 = .ok (.ifCond .eq 8, 3) := by decide +kernel
theorem dX12_rests_21 : decode cX12_rests 21 = .ok (.iload_n 3, 1) := by decide +kernel
theorem dX12_rests_22 : decode cX12_rests 22 = .ok (.iconst (-1), 1) := by decide +kernel
theorem dX12_rests_23 : decode cX12_rests 23 = .ok (.if_icmp .ge 5, 3) := by decide +kernel
theorem dX12_rests_26 : decode cX12_rests 26 = .ok (.iconst (-1), 1) := by decide +kernel
theorem dX12_rests_27 : decode cX12_rests 27 = .ok (.ireturn, 1) := by decide +kernel
theorem dX12_rests_28 : decode cX12_rests 28 = .ok (.iconst 0, 1) := by decide +kernel
theorem dX12_rests_29 : decode cX12_rests 29 = .ok (.istore 4, 2) := by decide +kernel
theorem dX12_rests_31 : decode cX12_rests 31 = .ok (.iload 4, 2) := by decide +kernel
theorem dX12_rests_33 : decode cX12_rests 33 = .ok (.bipush 16, 2) := by decide +kernel
theorem dX12_rests_35 : decode cX12_rests 35 = .ok (.if_icmp .ge 36, 3) := by decide +kernel
theorem dX12_rests_38 : decode cX12_rests 38 = .ok (.aload_n 0, 1) := by decide +kernel
theorem dX12_rests_39 : decode cX12_rests 39 = .ok (.getfield 90, 3) := by decide +kernel
theorem dX12_rests_42 : decode cX12_rests 42 = .ok (.iload 4, 2) := by decide +kernel
theorem dX12_rests_44 : decode cX12_rests 44 = .ok (.aload_n 0, 1) := by decide +kernel
theorem dX12_rests_45 : decode cX12_rests 45 = .ok (.iload_n 1, 1) := by decide +kernel
theorem dX12_rests_46 : decode cX12_rests 46 = .ok (.iload_n 2, 1) := by decide +kernel
theorem dX12_rests_47 : decode cX12_rests 47 = .ok (.iload 4, 2) := by decide +kernel
theorem dX12_rests_49 : decode cX12_rests 49 = .ok (.iconst 4, 1) := by decide +kernel
theorem dX12_rests_50 : decode cX12_rests 50 = .ok (.idiv, 1) := by decide +kernel
theorem dX12_rests_51 : decode cX12_rests 51 = .ok (.iload 4, 2) := by decide +kernel
theorem dX12_rests_53 : decode cX12_rests 53 = .ok (.iconst 2, 1) := by decide +kernel
theorem dX12_rests_54 : decode cX12_rests 54 = .ok (.idiv, 1) := by decide +kernel
theorem dX12_rests_55 : decode cX12_rests 55 = .ok (.iconst 2, 1) := by decide +kernel
theorem dX12_rests_56 : decode cX12_rests 56 = .ok (.irem, 1) := by decide +kernel
theorem dX12_rests_57 : decode cX12_rests 57 = .ok (.iload 4, 2) := by decide +kernel
theorem dX12_rests_59 : decode cX12_rests 59 = .ok (.iconst 2, 1) := by decide +kernel
theorem dX12_rests_60 : decode cX12_rests 60 = .ok (.irem, 1) := by decide +kernel
theorem dX12_rests_61 : decode cX12_rests 61 = .ok (.invokevirtual 464, 3) := by decide +kernel
theorem dX12_rests_64 : decode cX12_rests 64 = .ok (.iastore, 1) := by decide +kernel
theorem dX12_rests_65 : decode cX12_rests 65 = .ok (.iinc 4 1, 3) := by decide +kernel
theorem dX12_rests_68 : decode cX12_rests 68 = .ok (.goto (-37), 3) := by decide +kernel
theorem dX12_rests_71 : decode cX12_rests 71 = .ok (.iconst 0, 1) := by decide +kernel
theorem dX12_rests_72 : decode cX12_rests 72 = .ok (.istore 4, 2) := by decide +kernel
theorem dX12_rests_74 : decode cX12_rests 74 = .ok (.iconst 0, 1) := by decide +kernel
theorem dX12_rests_75 : decode cX12_rests 75 = .ok (.istore 5, 2) := by decide +kernel
theorem dX12_rests_77 : decode cX12_rests 77 = .ok (.iload 5, 2) := by decide +kernel
theorem dX12_rests_79 : decode cX12_rests 79 = .ok (.iconst 4, 1) := by decide +kernel
theorem dX12_rests_80 : decode cX12_rests 80 = .ok (.if_icmp .ge 152, 3) := by decide +kernel
theorem dX12_rests_83 : decode cX12_rests 83 = .ok (.iconst 0, 1) := by decide +kernel
theorem dX12_rests_84 : decode cX12_rests 84 = .ok (.istore 6, 2) := by decide +kernel
theorem dX12_rests_86 : decode cX12_rests 86 = .ok (.iload 6, 2) := by decide +kernel
theorem dX12_rests_88 : decode cX12_rests 88 = .ok (.iconst 2, 1) := by decide +kernel
theorem dX12_rests_89 : decode cX12_rests 89 = .ok (.if_icmp .ge 137, 3) := by decide +kernel
theorem dX12_rests_92 : decode cX12_rests 92 = .ok (.aload_n 0, 1) := by decide +kernel
theorem dX12_rests_93 : decode cX12_rests 93 = .ok (.getfield 90, 3) := by decide +kernel
theorem dX12_rests_96 : decode cX12_rests 96 = .ok (.iconst 4, 1) := by decide +kernel
theorem dX12_rests_97 : decode cX12_rests 97 = .ok (.iload 5, 2) := by decide +kernel
theorem dX12_rests_99 : decode cX12_rests 99 = .ok (.imul, 1) := by decide +kernel
theorem dX12_rests_100 : decode cX12_rests 100 = .ok (.iconst 2, 1) := by decide +kernel
theorem dX12_rests_101 : decode cX12_rests 101 = .ok (.iconst 1, 1) := by decide +kernel
theorem dX12_rests_102 : decode cX12_rests 102 = .ok (.iload 6, 2) := by decide +kernel
theorem dX12_rests_104 : decode cX12_rests 104 = .ok (.isub, 1) := by decide +kernel
theorem dX12_rests_105 : decode cX12_rests 105 = .ok (.imul, 1) := by decide +kernel
theorem dX12_rests_106 : decode cX12_rests 106 = .ok (.iadd, 1) := by decide +kernel
theorem dX12_rests_107 : decode cX12_rests 107 = .ok (.iconst 1, 1) := by decide +kernel
theorem dX12_rests_108 : decode cX12_rests 108 = .ok (.iadd, 1) := by decide +kernel
theorem dX12_rests_109 : decode cX12_rests 109 = .ok (.iaload, 1) := by decide +kernel
theorem dX12_rests_110 : decode cX12_rests 110 = .ok (.aload_n 0, 1) := by decide +kernel
theorem dX12_rests_111 : decode cX12_rests 111 = .ok (.getfield 90, 3) := by decide +kernel
theorem dX12_rests_114 : decode cX12_rests 114 = .ok (.iconst 4, 1) := by decide +kernel
theorem dX12_rests_115 : decode cX12_rests 115 = .ok (.iload 5, 2) := by decide +kernel
theorem dX12_rests_117 : decode cX12_rests 117 = .ok (.imul, 1) := by decide +kernel
theorem dX12_rests_118 : decode cX12_rests 118 = .ok (.iconst 2, 1) := by decide +kernel
theorem dX12_rests_119 : decode cX12_rests 119 = .ok (.iload 6, 2) := by decide +kernel
theorem dX12_rests_121 : decode cX12_rests 121 = .ok (.imul, 1) := by decide +kernel
theorem dX12_rests_122 : decode cX12_rests 122 = .ok (.iadd, 1) := by decide +kernel
theorem dX12_rests_123 : decode cX12_rests 123 = .ok (.iconst 1, 1) := by decide +kernel
theorem dX12_rests_124 : decode cX12_rests 124 = .ok (.iadd, 1) := by decide +kernel
theorem dX12_rests_125 : decode cX12_rests 125 = .ok (.iaload, 1) := by decide +kernel
theorem dX12_rests_126 : decode cX12_rests 126 = .ok (.if_icmp .gt 7, 3) := by decide +kernel
theorem dX12_rests_129 : decode cX12_rests 129 = .ok (.iconst 1, 1) := by decide +kernel
theorem dX12_rests_130 : decode cX12_rests 130 = .ok (.goto 4, 3) := by decide +kernel
theorem dX12_rests_133 : decode cX12_rests 133 = .ok (.iconst 0, 1) := by decide +kernel
theorem dX12_rests_134 : decode cX12_rests 134 = .ok (.istore 7, 2) := by decide +kernel
theorem dX12_rests_136 : decode cX12_rests 136 = .ok (.iconst 0, 1) := by decide +kernel
theorem dX12_rests_137 : decode cX12_rests 137 = .ok (.istore 8, 2) := by decide +kernel
theorem dX12_rests_139 : decode cX12_rests 139 = .ok (.iload 8, 2) := by decide +kernel
theorem dX12_rests_141 : decode cX12_rests 141 = .ok (.iconst 4, 1) := by decide +kernel
theorem dX12_rests_142 : decode cX12_rests 142 = .ok (.if_icmp .ge 52, 3) := by decide +kernel
theorem dX12_rests_145 : decode cX12_rests 145 = .ok (.iload 7, 2) := by decide +kernel
theorem dX12_rests_147 : decode cX12_rests 147 = .ok (.ifCond .eq 38, 3) := by decide +kernel
theorem dX12_rests_150 : decode cX12_rests 150 = .ok (.aload_n 0, 1) := by decide +kernel
theorem dX12_rests_151 : decode cX12_rests 151 = .ok (.getfield 90, 3) := by decide +kernel
theorem dX12_rests_154 : decode cX12_rests 154 = .ok (.iconst 4, 1) := by decide +kernel
theorem dX12_rests_155 : decode cX12_rests 155 = .ok (.iload 8, 2) := by decide +kernel
theorem dX12_rests_157 : decode cX12_rests 157 = .ok (.imul, 1) := by decide +kernel
theorem dX12_rests_158 : decode cX12_rests 158 = .ok (.iconst 2, 1) := by decide +kernel
theorem dX12_rests_159 : decode cX12_rests 159 = .ok (.iload 6, 2) := by decide +kernel
theorem dX12_rests_161 : decode cX12_rests 161 = .ok (.imul, 1) := by decide +kernel
theorem dX12_rests_162 : decode cX12_rests 162 = .ok (.iadd, 1) := by decide +kernel
theorem dX12_rests_163 : decode cX12_rests 163 = .ok (.iaload, 1) := by decide +kernel
theorem dX12_rests_164 : decode cX12_rests 164 = .ok (.aload_n 0, 1) := by decide +kernel
theorem dX12_rests_165 : decode cX12_rests 165 = .ok (.getfield 90, 3) := by decide +kernel
theorem dX12_rests_168 : decode cX12_rests 168 = .ok (.iconst 4, 1) := by decide +kernel
theorem dX12_rests_169 : decode cX12_rests 169 = .ok (.iload 5, 2) := by decide +kernel
theorem dX12_rests_171 : decode cX12_rests 171 = .ok (.imul, 1) := by decide +kernel
theorem dX12_rests_172 : decode cX12_rests 172 = .ok (.iconst 2, 1) := by decide +kernel
theorem dX12_rests_173 : decode cX12_rests 173 = .ok (.iload 6, 2) := by decide +kernel
theorem dX12_rests_175 : decode cX12_rests 175 = .ok (.imul, 1) := by decide +kernel
theorem dX12_rests_176 : decode cX12_rests 176 = .ok (.iadd, 1) := by decide +kernel
theorem dX12_rests_177 : decode cX12_rests 177 = .ok (.iaload, 1) := by decide +kernel
theorem dX12_rests_178 : decode cX12_rests 178 = .ok (.if_icmp .gt 7, 3) := by decide +kernel
theorem dX12_rests_181 : decode cX12_rests 181 = .ok (.iconst 1, 1) := by decide +kernel
theorem dX12_rests_182 : decode cX12_rests 182 = .ok (.goto 4, 3) := by decide +kernel
theorem dX12_rests_185 : decode cX12_rests 185 = .ok (.iconst 0, 1) := by decide +kernel
theorem dX12_rests_186 : decode cX12_rests 186 = .ok (.istore 7, 2) := by decide +kernel
theorem dX12_rests_188 : decode cX12_rests 188 = .ok (.iinc 8 1, 3) := by decide +kernel
theorem dX12_rests_191 : decode cX12_rests 191 = .ok (.goto (-52), 3) := by decide +kernel
theorem dX12_rests_194 : decode cX12_rests 194 = .ok (.iload 7, 2) := by decide +kernel
theorem dX12_rests_196 : decode cX12_rests 196 = .ok (.ifCond .ne 6, 3) := by decide +kernel
theorem dX12_rests_199 : decode cX12_rests 199 = .ok (.goto 21, 3) := by decide +kernel
theorem dX12_rests_202 : decode cX12_rests 202 = .ok (.iload 4, 2) := by decide +kernel
theorem dX12_rests_204 : decode cX12_rests 204 = .ok (.iload_n 3, 1) := by decide +kernel
theorem dX12_rests_205 : decode cX12_rests 205 = .ok (.if_icmp .ne 12, 3) := by decide +kernel
theorem dX12_rests_208 : decode cX12_rests 208 = .ok (.bipush 10, 2) := by decide +kernel
theorem dX12_rests_210 : decode cX12_rests 210 = .ok (.iload 5, 2) := by decide +kernel
theorem dX12_rests_212 : decode cX12_rests 212 = .ok (.imul, 1) := by decide +kernel
theorem dX12_rests_213 : decode cX12_rests 213 = .ok (.iload 6, 2) := by decide +kernel
theorem dX12_rests_215 : decode cX12_rests 215 = .ok (.iadd, 1) := by decide +kernel
theorem dX12_rests_216 : decode cX12_rests 216 = .ok (.ireturn, 1) := by decide +kernel
theorem dX12_rests_217 : decode cX12_rests 217 = .ok (.iinc 4 1, 3) := by decide +kernel
theorem dX12_rests_220 : decode cX12_rests 220 = .ok (.iinc 6 1, 3) := by decide +kernel
theorem dX12_rests_223 : decode cX12_rests 223 = .ok (.goto (-137), 3) := by decide +kernel
theorem dX12_rests_226 : decode cX12_rests 226 = .ok (.iinc 5 1, 3) := by decide +kernel
theorem dX12_rests_229 : decode cX12_rests 229 = .ok (.goto (-152), 3) := by decide +kernel
theorem dX12_rests_232 : decode cX12_rests 232 = .ok (.iload_n 3, 1) := by decide +kernel
theorem dX12_rests_233 : decode cX12_rests 233 = .ok (.iconst (-1), 1) := by decide +kernel
theorem dX12_rests_234 : decode cX12_rests 234 = .ok (.if_icmp .ne 8, 3) := by decide +kernel
theorem dX12_rests_237 : decode cX12_rests 237 = .ok (.iload 4, 2) := by decide +kernel
theorem dX12_rests_239 : decode cX12_rests 239 = .ok (.goto 4, 3) := by decide +kernel
theorem dX12_rests_242 : decode cX12_rests 242 = .ok (.iconst (-1), 1) := by decide +kernel
theorem dX12_rests_243 : decode cX12_rests 243 = .ok (.ireturn, 1) := by decide +kernel
theorem lk_TrapCornerModel_90 : LK "TrapCornerModel" 90 [12] 47 := by
  intro ci hci
  have hci := List.mem_singleton.mp hci
  subst hci
  exact ⟨RX12, TX12, 50, "TrapCornerModel", ck_12, by decide, tw_1334, Or.inl rfl⟩
section
variable {g : GG} {p : Program} {l : Launch} {e : Env} {R : Room} {s : State} {m : MethodId} {args : Array Value} {below : List Frame} {meth : Method} {c : Code} {n0 z0 : Nat}
def f_X12_rests_186 (k77 : Nat → Int32 → Int32 → Int32 → AH → Option (Int32 × AH)) (k86 : Nat → Int32 → Int32 → Int32 → Int32 → AH → Option (Int32 × AH)) (k139 : Nat → Int32 → Int32 → Int32 → Int32 → Int32 → Int32 → AH → Option (Int32 × AH)) (o0 : Nat) (x3 : Int32) (x4 : Int32) (x5 : Int32) (x6 : Int32) (x8 : Int32) (s0 : Int32) (h : AH) : Option (Int32 × AH) :=
  k139 o0 x3 x4 x5 x6 s0 (x8 + 1) h
set_option maxHeartbeats 1000000 in
theorem w_X12_rests_186 (X : Cx g p s m args meth c cX12_rests 9 "TrapCornerModel") (hR : 95 ≤ R.frames ∧ 6080 ≤ R.locals) (hr : meth.sig.returnType = (some (.int))) {res : Int32 × AH} {k77 : Nat → Int32 → Int32 → Int32 → AH → Option (Int32 × AH)} (hk77 : ∀ (o0 : Nat) (x3 : Int32) (x4 : Int32) (x5 : Int32) (h : AH) (ls : Array Slot) (H : Heap) (locs : List Loc), k77 o0 x3 x4 x5 h = some res → Iv g s n0 z0 h H locs 0 0 → lv_has ls 9 [(0, .ref (rfG g o0)), (3, .int x3), (4, .int x4), (5, .int x5)] → W p l e R s m args below meth c H locs 0 0 (MQ below (QG g (some (.int res.1)) res.2) args s 0 0 (AG g)) (F0 m 77 ls [])) {k86 : Nat → Int32 → Int32 → Int32 → Int32 → AH → Option (Int32 × AH)} (hk86 : ∀ (o0 : Nat) (x3 : Int32) (x4 : Int32) (x5 : Int32) (x6 : Int32) (h : AH) (ls : Array Slot) (H : Heap) (locs : List Loc), k86 o0 x3 x4 x5 x6 h = some res → Iv g s n0 z0 h H locs 0 0 → lv_has ls 9 [(0, .ref (rfG g o0)), (3, .int x3), (4, .int x4), (5, .int x5), (6, .int x6)] → W p l e R s m args below meth c H locs 0 0 (MQ below (QG g (some (.int res.1)) res.2) args s 0 0 (AG g)) (F0 m 86 ls [])) {k139 : Nat → Int32 → Int32 → Int32 → Int32 → Int32 → Int32 → AH → Option (Int32 × AH)} (hk139 : ∀ (o0 : Nat) (x3 : Int32) (x4 : Int32) (x5 : Int32) (x6 : Int32) (x7 : Int32) (x8 : Int32) (h : AH) (ls : Array Slot) (H : Heap) (locs : List Loc), k139 o0 x3 x4 x5 x6 x7 x8 h = some res → Iv g s n0 z0 h H locs 0 0 → lv_has ls 9 [(0, .ref (rfG g o0)), (3, .int x3), (4, .int x4), (5, .int x5), (6, .int x6), (7, .int x7), (8, .int x8)] → W p l e R s m args below meth c H locs 0 0 (MQ below (QG g (some (.int res.1)) res.2) args s 0 0 (AG g)) (F0 m 139 ls [])) : ∀ (o0 : Nat) (x3 : Int32) (x4 : Int32) (x5 : Int32) (x6 : Int32) (x8 : Int32) (s0 : Int32) (h : AH) (ls : Array Slot) (H : Heap) (locs : List Loc), f_X12_rests_186 k77 k86 k139 o0 x3 x4 x5 x6 x8 s0 h = some res → Iv g s n0 z0 h H locs 0 0 → lv_has ls 9 [(0, .ref (rfG g o0)), (3, .int x3), (4, .int x4), (5, .int x5), (6, .int x6), (8, .int x8)] → W p l e R s m args below meth c H locs 0 0 (MQ below (QG g (some (.int res.1)) res.2) args s 0 0 (AG g)) (F0 m 186 ls [.int s0]) := by
  have hx := X.1
  have hb := X.2.1
  intro o0 x3 x4 x5 x6 x8 s0 h ls H locs hf I hl
  unfold f_X12_rests_186 at hf
  refine lv_istore (lv' := [(7, .int s0), (0, .ref (rfG g o0)), (3, .int x3), (4, .int x4), (5, .int x5), (6, .int x6), (8, .int x8)]) hx hb dX12_rests_186 hl (by decide) rfl (fun ls hl => ?_)
  refine lv_iinc (v := x8 + 1) (lv' := [(8, .int (x8 + 1)), (7, .int s0), (0, .ref (rfG g o0)), (3, .int x3), (4, .int x4), (5, .int x5), (6, .int x6)]) hx hb dX12_rests_188 hl (k := 6) rfl rfl (by decide) rfl (fun ls hl => ?_)
  refine lv_goto (tgt := 139) hx hb dX12_rests_191 (by decide) ?_
  exact hk139 o0 x3 x4 x5 x6 s0 (x8 + 1) h ls H locs hf I (lv_sub hl [2, 3, 4, 5, 6, 1, 0] rfl)
def f_X12_rests_185 (k77 : Nat → Int32 → Int32 → Int32 → AH → Option (Int32 × AH)) (k86 : Nat → Int32 → Int32 → Int32 → Int32 → AH → Option (Int32 × AH)) (k139 : Nat → Int32 → Int32 → Int32 → Int32 → Int32 → Int32 → AH → Option (Int32 × AH)) (o0 : Nat) (x3 : Int32) (x4 : Int32) (x5 : Int32) (x6 : Int32) (x8 : Int32) (h : AH) : Option (Int32 × AH) :=
  f_X12_rests_186 k77 k86 k139 o0 x3 x4 x5 x6 x8 0 h
set_option maxHeartbeats 1000000 in
theorem w_X12_rests_185 (X : Cx g p s m args meth c cX12_rests 9 "TrapCornerModel") (hR : 95 ≤ R.frames ∧ 6080 ≤ R.locals) (hr : meth.sig.returnType = (some (.int))) {res : Int32 × AH} {k77 : Nat → Int32 → Int32 → Int32 → AH → Option (Int32 × AH)} (hk77 : ∀ (o0 : Nat) (x3 : Int32) (x4 : Int32) (x5 : Int32) (h : AH) (ls : Array Slot) (H : Heap) (locs : List Loc), k77 o0 x3 x4 x5 h = some res → Iv g s n0 z0 h H locs 0 0 → lv_has ls 9 [(0, .ref (rfG g o0)), (3, .int x3), (4, .int x4), (5, .int x5)] → W p l e R s m args below meth c H locs 0 0 (MQ below (QG g (some (.int res.1)) res.2) args s 0 0 (AG g)) (F0 m 77 ls [])) {k86 : Nat → Int32 → Int32 → Int32 → Int32 → AH → Option (Int32 × AH)} (hk86 : ∀ (o0 : Nat) (x3 : Int32) (x4 : Int32) (x5 : Int32) (x6 : Int32) (h : AH) (ls : Array Slot) (H : Heap) (locs : List Loc), k86 o0 x3 x4 x5 x6 h = some res → Iv g s n0 z0 h H locs 0 0 → lv_has ls 9 [(0, .ref (rfG g o0)), (3, .int x3), (4, .int x4), (5, .int x5), (6, .int x6)] → W p l e R s m args below meth c H locs 0 0 (MQ below (QG g (some (.int res.1)) res.2) args s 0 0 (AG g)) (F0 m 86 ls [])) {k139 : Nat → Int32 → Int32 → Int32 → Int32 → Int32 → Int32 → AH → Option (Int32 × AH)} (hk139 : ∀ (o0 : Nat) (x3 : Int32) (x4 : Int32) (x5 : Int32) (x6 : Int32) (x7 : Int32) (x8 : Int32) (h : AH) (ls : Array Slot) (H : Heap) (locs : List Loc), k139 o0 x3 x4 x5 x6 x7 x8 h = some res → Iv g s n0 z0 h H locs 0 0 → lv_has ls 9 [(0, .ref (rfG g o0)), (3, .int x3), (4, .int x4), (5, .int x5), (6, .int x6), (7, .int x7), (8, .int x8)] → W p l e R s m args below meth c H locs 0 0 (MQ below (QG g (some (.int res.1)) res.2) args s 0 0 (AG g)) (F0 m 139 ls [])) : ∀ (o0 : Nat) (x3 : Int32) (x4 : Int32) (x5 : Int32) (x6 : Int32) (x8 : Int32) (h : AH) (ls : Array Slot) (H : Heap) (locs : List Loc), f_X12_rests_185 k77 k86 k139 o0 x3 x4 x5 x6 x8 h = some res → Iv g s n0 z0 h H locs 0 0 → lv_has ls 9 [(0, .ref (rfG g o0)), (3, .int x3), (4, .int x4), (5, .int x5), (6, .int x6), (8, .int x8)] → W p l e R s m args below meth c H locs 0 0 (MQ below (QG g (some (.int res.1)) res.2) args s 0 0 (AG g)) (F0 m 185 ls []) := by
  have hx := X.1
  have hb := X.2.1
  intro o0 x3 x4 x5 x6 x8 h ls H locs hf I hl
  unfold f_X12_rests_185 at hf
  refine lv_iconst (v := 0) hx hb dX12_rests_185 (by decide) ?_
  exact w_X12_rests_186 X hR hr hk77 hk86 hk139 o0 x3 x4 x5 x6 x8 0 h ls H locs hf I (lv_sub hl [0, 1, 2, 3, 4, 5] rfl)
def f_X12_rests_220 (k77 : Nat → Int32 → Int32 → Int32 → AH → Option (Int32 × AH)) (k86 : Nat → Int32 → Int32 → Int32 → Int32 → AH → Option (Int32 × AH)) (o0 : Nat) (x3 : Int32) (x4 : Int32) (x5 : Int32) (x6 : Int32) (h : AH) : Option (Int32 × AH) :=
  k86 o0 x3 x4 x5 (x6 + 1) h
set_option maxHeartbeats 1000000 in
theorem w_X12_rests_220 (X : Cx g p s m args meth c cX12_rests 9 "TrapCornerModel") (hR : 95 ≤ R.frames ∧ 6080 ≤ R.locals) (hr : meth.sig.returnType = (some (.int))) {res : Int32 × AH} {k77 : Nat → Int32 → Int32 → Int32 → AH → Option (Int32 × AH)} (hk77 : ∀ (o0 : Nat) (x3 : Int32) (x4 : Int32) (x5 : Int32) (h : AH) (ls : Array Slot) (H : Heap) (locs : List Loc), k77 o0 x3 x4 x5 h = some res → Iv g s n0 z0 h H locs 0 0 → lv_has ls 9 [(0, .ref (rfG g o0)), (3, .int x3), (4, .int x4), (5, .int x5)] → W p l e R s m args below meth c H locs 0 0 (MQ below (QG g (some (.int res.1)) res.2) args s 0 0 (AG g)) (F0 m 77 ls [])) {k86 : Nat → Int32 → Int32 → Int32 → Int32 → AH → Option (Int32 × AH)} (hk86 : ∀ (o0 : Nat) (x3 : Int32) (x4 : Int32) (x5 : Int32) (x6 : Int32) (h : AH) (ls : Array Slot) (H : Heap) (locs : List Loc), k86 o0 x3 x4 x5 x6 h = some res → Iv g s n0 z0 h H locs 0 0 → lv_has ls 9 [(0, .ref (rfG g o0)), (3, .int x3), (4, .int x4), (5, .int x5), (6, .int x6)] → W p l e R s m args below meth c H locs 0 0 (MQ below (QG g (some (.int res.1)) res.2) args s 0 0 (AG g)) (F0 m 86 ls [])) : ∀ (o0 : Nat) (x3 : Int32) (x4 : Int32) (x5 : Int32) (x6 : Int32) (h : AH) (ls : Array Slot) (H : Heap) (locs : List Loc), f_X12_rests_220 k77 k86 o0 x3 x4 x5 x6 h = some res → Iv g s n0 z0 h H locs 0 0 → lv_has ls 9 [(0, .ref (rfG g o0)), (3, .int x3), (4, .int x4), (5, .int x5), (6, .int x6)] → W p l e R s m args below meth c H locs 0 0 (MQ below (QG g (some (.int res.1)) res.2) args s 0 0 (AG g)) (F0 m 220 ls []) := by
  have hx := X.1
  have hb := X.2.1
  intro o0 x3 x4 x5 x6 h ls H locs hf I hl
  unfold f_X12_rests_220 at hf
  refine lv_iinc (v := x6 + 1) (lv' := [(6, .int (x6 + 1)), (0, .ref (rfG g o0)), (3, .int x3), (4, .int x4), (5, .int x5)]) hx hb dX12_rests_220 hl (k := 4) rfl rfl (by decide) rfl (fun ls hl => ?_)
  refine lv_goto (tgt := 86) hx hb dX12_rests_223 (by decide) ?_
  exact hk86 o0 x3 x4 x5 (x6 + 1) h ls H locs hf I (lv_sub hl [1, 2, 3, 4, 0] rfl)
def f_X12_rests_139 (k77 : Nat → Int32 → Int32 → Int32 → AH → Option (Int32 × AH)) (k86 : Nat → Int32 → Int32 → Int32 → Int32 → AH → Option (Int32 × AH)) : Nat → Nat → Int32 → Int32 → Int32 → Int32 → Int32 → Int32 → AH → Option (Int32 × AH)
  | 0, _, _, _, _, _, _, _, _ => none
  | n + 1, o0, x3, x4, x5, x6, x7, x8, h =>
  if 4 ≤ x8 then
    if x7 = 0 then
      f_X12_rests_220 k77 k86 o0 x3 x4 x5 x6 h
    else
      if x4 = x3 then
        some ((10 * x5) + x6, h)
      else
        f_X12_rests_220 k77 k86 o0 x3 (x4 + 1) x5 x6 h
  else
    if x7 = 0 then
      f_X12_rests_185 k77 k86 (f_X12_rests_139 k77 k86 n) o0 x3 x4 x5 x6 x8 h
    else
      (gR [12] h o0 47).bind fun v5 =>
      (aI 0 h v5 ((4 * x8) + (2 * x6))).bind fun v7 =>
      (gR [12] h o0 47).bind fun v9 =>
      (aI 0 h v9 ((4 * x5) + (2 * x6))).bind fun v11 =>
      if v11 < v7 then
        f_X12_rests_185 k77 k86 (f_X12_rests_139 k77 k86 n) o0 x3 x4 x5 x6 x8 h
      else
        f_X12_rests_186 k77 k86 (f_X12_rests_139 k77 k86 n) o0 x3 x4 x5 x6 x8 1 h
set_option maxHeartbeats 1000000 in
theorem w_X12_rests_139 (X : Cx g p s m args meth c cX12_rests 9 "TrapCornerModel") (hR : 95 ≤ R.frames ∧ 6080 ≤ R.locals) (hr : meth.sig.returnType = (some (.int))) {res : Int32 × AH} {k77 : Nat → Int32 → Int32 → Int32 → AH → Option (Int32 × AH)} (hk77 : ∀ (o0 : Nat) (x3 : Int32) (x4 : Int32) (x5 : Int32) (h : AH) (ls : Array Slot) (H : Heap) (locs : List Loc), k77 o0 x3 x4 x5 h = some res → Iv g s n0 z0 h H locs 0 0 → lv_has ls 9 [(0, .ref (rfG g o0)), (3, .int x3), (4, .int x4), (5, .int x5)] → W p l e R s m args below meth c H locs 0 0 (MQ below (QG g (some (.int res.1)) res.2) args s 0 0 (AG g)) (F0 m 77 ls [])) {k86 : Nat → Int32 → Int32 → Int32 → Int32 → AH → Option (Int32 × AH)} (hk86 : ∀ (o0 : Nat) (x3 : Int32) (x4 : Int32) (x5 : Int32) (x6 : Int32) (h : AH) (ls : Array Slot) (H : Heap) (locs : List Loc), k86 o0 x3 x4 x5 x6 h = some res → Iv g s n0 z0 h H locs 0 0 → lv_has ls 9 [(0, .ref (rfG g o0)), (3, .int x3), (4, .int x4), (5, .int x5), (6, .int x6)] → W p l e R s m args below meth c H locs 0 0 (MQ below (QG g (some (.int res.1)) res.2) args s 0 0 (AG g)) (F0 m 86 ls [])) : ∀ (n : Nat) (o0 : Nat) (x3 : Int32) (x4 : Int32) (x5 : Int32) (x6 : Int32) (x7 : Int32) (x8 : Int32) (h : AH) (ls : Array Slot) (H : Heap) (locs : List Loc), f_X12_rests_139 k77 k86 n o0 x3 x4 x5 x6 x7 x8 h = some res → Iv g s n0 z0 h H locs 0 0 → lv_has ls 9 [(0, .ref (rfG g o0)), (3, .int x3), (4, .int x4), (5, .int x5), (6, .int x6), (7, .int x7), (8, .int x8)] → W p l e R s m args below meth c H locs 0 0 (MQ below (QG g (some (.int res.1)) res.2) args s 0 0 (AG g)) (F0 m 139 ls []) := by
  have hx := X.1
  have hb := X.2.1
  intro n
  induction n with
  | zero =>
    intro o0 x3 x4 x5 x6 x7 x8 h ls H locs hf
    rw [f_X12_rests_139.eq_1] at hf
    cases hf
  | succ n ih =>
    intro o0 x3 x4 x5 x6 x7 x8 h ls H locs hf I hl
    rw [f_X12_rests_139.eq_2] at hf
    refine lv_iload hx hb dX12_rests_139 (lv_at hl 6 rfl) ?_
    refine lv_iconst (v := 4) hx hb dX12_rests_141 (by decide) ?_
    refine lv_icmp_ge (tgt := 194) hx hb dX12_rests_142 (by decide) (fun c1 => ?_) (fun c1 => ?_)
    · rw [if_pos c1] at hf
      refine lv_iload hx hb dX12_rests_194 (lv_at hl 5 rfl) ?_
      refine lv_if_ne (tgt := 202) hx hb dX12_rests_196 (by decide) (fun c2 => ?_) (fun c2 => ?_)
      · rw [if_neg c2] at hf
        refine lv_iload hx hb dX12_rests_202 (lv_at hl 2 rfl) ?_
        refine lv_iload_n hx hb dX12_rests_204 rfl (lv_at hl 1 rfl) ?_
        refine lv_icmp_ne (tgt := 217) hx hb dX12_rests_205 (by decide) (fun c3 => ?_) (fun c3 => ?_)
        · rw [if_neg c3] at hf
          refine lv_iinc (v := x4 + 1) (lv' := [(4, .int (x4 + 1)), (0, .ref (rfG g o0)), (3, .int x3), (5, .int x5), (6, .int x6), (7, .int x7), (8, .int x8)]) hx hb dX12_rests_217 hl (k := 2) rfl rfl (by decide) rfl (fun ls hl => ?_)
          exact w_X12_rests_220 X hR hr hk77 hk86 o0 x3 (x4 + 1) x5 x6 h ls H locs hf I (lv_sub hl [1, 2, 0, 3, 4] rfl)
        · rw [if_pos c3] at hf
          refine lv_bipush (v := 10) hx hb dX12_rests_208 (by decide) ?_
          refine lv_iload hx hb dX12_rests_210 (lv_at hl 3 rfl) ?_
          refine lv_imul hx hb dX12_rests_212 ?_
          refine lv_iload hx hb dX12_rests_213 (lv_at hl 4 rfl) ?_
          refine lv_iadd hx hb dX12_rests_215 ?_
          cases hf
          exact k_ri X I hr dX12_rests_216
      · rw [if_pos c2] at hf
        refine lv_goto (tgt := 220) hx hb dX12_rests_199 (by decide) ?_
        exact w_X12_rests_220 X hR hr hk77 hk86 o0 x3 x4 x5 x6 h ls H locs hf I (lv_sub hl [0, 1, 2, 3, 4] rfl)
    · rw [if_neg c1] at hf
      refine lv_iload hx hb dX12_rests_145 (lv_at hl 5 rfl) ?_
      refine lv_if_eq (tgt := 185) hx hb dX12_rests_147 (by decide) (fun c4 => ?_) (fun c4 => ?_)
      · rw [if_pos c4] at hf
        exact w_X12_rests_185 X hR hr hk77 hk86 ih o0 x3 x4 x5 x6 x8 h ls H locs hf I (lv_sub hl [0, 1, 2, 3, 4, 6] rfl)
      · rw [if_neg c4] at hf
        refine lv_aload_n hx hb dX12_rests_150 rfl (lv_at hl 0 rfl) ?_
        obtain ⟨v5, e6, hf⟩ := Option.bind_eq_some_iff.mp hf
        refine r_gR X I e6 lk_TrapCornerModel_90 dX12_rests_151 ?_
        refine lv_iconst (v := 4) hx hb dX12_rests_154 (by decide) ?_
        refine lv_iload hx hb dX12_rests_155 (lv_at hl 6 rfl) ?_
        refine lv_imul hx hb dX12_rests_157 ?_
        refine lv_iconst (v := 2) hx hb dX12_rests_158 (by decide) ?_
        refine lv_iload hx hb dX12_rests_159 (lv_at hl 4 rfl) ?_
        refine lv_imul hx hb dX12_rests_161 ?_
        refine lv_iadd hx hb dX12_rests_162 ?_
        obtain ⟨v7, e8, hf⟩ := Option.bind_eq_some_iff.mp hf
        refine r_aI0 X I e8 dX12_rests_163 ?_
        refine lv_aload_n hx hb dX12_rests_164 rfl (lv_at hl 0 rfl) ?_
        obtain ⟨v9, e10, hf⟩ := Option.bind_eq_some_iff.mp hf
        refine r_gR X I e10 lk_TrapCornerModel_90 dX12_rests_165 ?_
        refine lv_iconst (v := 4) hx hb dX12_rests_168 (by decide) ?_
        refine lv_iload hx hb dX12_rests_169 (lv_at hl 3 rfl) ?_
        refine lv_imul hx hb dX12_rests_171 ?_
        refine lv_iconst (v := 2) hx hb dX12_rests_172 (by decide) ?_
        refine lv_iload hx hb dX12_rests_173 (lv_at hl 4 rfl) ?_
        refine lv_imul hx hb dX12_rests_175 ?_
        refine lv_iadd hx hb dX12_rests_176 ?_
        obtain ⟨v11, e12, hf⟩ := Option.bind_eq_some_iff.mp hf
        refine r_aI0 X I e12 dX12_rests_177 ?_
        refine lv_icmp_gt (tgt := 185) hx hb dX12_rests_178 (by decide) (fun c13 => ?_) (fun c13 => ?_)
        · rw [if_pos c13] at hf
          exact w_X12_rests_185 X hR hr hk77 hk86 ih o0 x3 x4 x5 x6 x8 h ls H locs hf I (lv_sub hl [0, 1, 2, 3, 4, 6] rfl)
        · rw [if_neg c13] at hf
          refine lv_iconst (v := 1) hx hb dX12_rests_181 (by decide) ?_
          refine lv_goto (tgt := 186) hx hb dX12_rests_182 (by decide) ?_
          exact w_X12_rests_186 X hR hr hk77 hk86 ih o0 x3 x4 x5 x6 x8 1 h ls H locs hf I (lv_sub hl [0, 1, 2, 3, 4, 6] rfl)
def f_X12_rests_134 (k77 : Nat → Int32 → Int32 → Int32 → AH → Option (Int32 × AH)) (k86 : Nat → Int32 → Int32 → Int32 → Int32 → AH → Option (Int32 × AH)) (o0 : Nat) (x3 : Int32) (x4 : Int32) (x5 : Int32) (x6 : Int32) (s0 : Int32) (h : AH) : Option (Int32 × AH) :=
  f_X12_rests_139 k77 k86 fu o0 x3 x4 x5 x6 s0 0 h
set_option maxHeartbeats 1000000 in
theorem w_X12_rests_134 (X : Cx g p s m args meth c cX12_rests 9 "TrapCornerModel") (hR : 95 ≤ R.frames ∧ 6080 ≤ R.locals) (hr : meth.sig.returnType = (some (.int))) {res : Int32 × AH} {k77 : Nat → Int32 → Int32 → Int32 → AH → Option (Int32 × AH)} (hk77 : ∀ (o0 : Nat) (x3 : Int32) (x4 : Int32) (x5 : Int32) (h : AH) (ls : Array Slot) (H : Heap) (locs : List Loc), k77 o0 x3 x4 x5 h = some res → Iv g s n0 z0 h H locs 0 0 → lv_has ls 9 [(0, .ref (rfG g o0)), (3, .int x3), (4, .int x4), (5, .int x5)] → W p l e R s m args below meth c H locs 0 0 (MQ below (QG g (some (.int res.1)) res.2) args s 0 0 (AG g)) (F0 m 77 ls [])) {k86 : Nat → Int32 → Int32 → Int32 → Int32 → AH → Option (Int32 × AH)} (hk86 : ∀ (o0 : Nat) (x3 : Int32) (x4 : Int32) (x5 : Int32) (x6 : Int32) (h : AH) (ls : Array Slot) (H : Heap) (locs : List Loc), k86 o0 x3 x4 x5 x6 h = some res → Iv g s n0 z0 h H locs 0 0 → lv_has ls 9 [(0, .ref (rfG g o0)), (3, .int x3), (4, .int x4), (5, .int x5), (6, .int x6)] → W p l e R s m args below meth c H locs 0 0 (MQ below (QG g (some (.int res.1)) res.2) args s 0 0 (AG g)) (F0 m 86 ls [])) : ∀ (o0 : Nat) (x3 : Int32) (x4 : Int32) (x5 : Int32) (x6 : Int32) (s0 : Int32) (h : AH) (ls : Array Slot) (H : Heap) (locs : List Loc), f_X12_rests_134 k77 k86 o0 x3 x4 x5 x6 s0 h = some res → Iv g s n0 z0 h H locs 0 0 → lv_has ls 9 [(0, .ref (rfG g o0)), (3, .int x3), (4, .int x4), (5, .int x5), (6, .int x6)] → W p l e R s m args below meth c H locs 0 0 (MQ below (QG g (some (.int res.1)) res.2) args s 0 0 (AG g)) (F0 m 134 ls [.int s0]) := by
  have hx := X.1
  have hb := X.2.1
  intro o0 x3 x4 x5 x6 s0 h ls H locs hf I hl
  unfold f_X12_rests_134 at hf
  refine lv_istore (lv' := [(7, .int s0), (0, .ref (rfG g o0)), (3, .int x3), (4, .int x4), (5, .int x5), (6, .int x6)]) hx hb dX12_rests_134 hl (by decide) rfl (fun ls hl => ?_)
  refine lv_iconst (v := 0) hx hb dX12_rests_136 (by decide) ?_
  refine lv_istore (lv' := [(8, .int 0), (7, .int s0), (0, .ref (rfG g o0)), (3, .int x3), (4, .int x4), (5, .int x5), (6, .int x6)]) hx hb dX12_rests_137 hl (by decide) rfl (fun ls hl => ?_)
  exact w_X12_rests_139 X hR hr hk77 hk86 fu o0 x3 x4 x5 x6 s0 0 h ls H locs hf I (lv_sub hl [2, 3, 4, 5, 6, 1, 0] rfl)
def f_X12_rests_86 (k77 : Nat → Int32 → Int32 → Int32 → AH → Option (Int32 × AH)) : Nat → Nat → Int32 → Int32 → Int32 → Int32 → AH → Option (Int32 × AH)
  | 0, _, _, _, _, _, _ => none
  | n + 1, o0, x3, x4, x5, x6, h =>
  if 2 ≤ x6 then
    k77 o0 x3 x4 (x5 + 1) h
  else
    (gR [12] h o0 47).bind fun v2 =>
    (aI 0 h v2 (((4 * x5) + (2 * (1 - x6))) + 1)).bind fun v4 =>
    (gR [12] h o0 47).bind fun v6 =>
    (aI 0 h v6 (((4 * x5) + (2 * x6)) + 1)).bind fun v8 =>
    if v8 < v4 then
      f_X12_rests_134 k77 (f_X12_rests_86 k77 n) o0 x3 x4 x5 x6 0 h
    else
      f_X12_rests_134 k77 (f_X12_rests_86 k77 n) o0 x3 x4 x5 x6 1 h
set_option maxHeartbeats 1000000 in
theorem w_X12_rests_86 (X : Cx g p s m args meth c cX12_rests 9 "TrapCornerModel") (hR : 95 ≤ R.frames ∧ 6080 ≤ R.locals) (hr : meth.sig.returnType = (some (.int))) {res : Int32 × AH} {k77 : Nat → Int32 → Int32 → Int32 → AH → Option (Int32 × AH)} (hk77 : ∀ (o0 : Nat) (x3 : Int32) (x4 : Int32) (x5 : Int32) (h : AH) (ls : Array Slot) (H : Heap) (locs : List Loc), k77 o0 x3 x4 x5 h = some res → Iv g s n0 z0 h H locs 0 0 → lv_has ls 9 [(0, .ref (rfG g o0)), (3, .int x3), (4, .int x4), (5, .int x5)] → W p l e R s m args below meth c H locs 0 0 (MQ below (QG g (some (.int res.1)) res.2) args s 0 0 (AG g)) (F0 m 77 ls [])) : ∀ (n : Nat) (o0 : Nat) (x3 : Int32) (x4 : Int32) (x5 : Int32) (x6 : Int32) (h : AH) (ls : Array Slot) (H : Heap) (locs : List Loc), f_X12_rests_86 k77 n o0 x3 x4 x5 x6 h = some res → Iv g s n0 z0 h H locs 0 0 → lv_has ls 9 [(0, .ref (rfG g o0)), (3, .int x3), (4, .int x4), (5, .int x5), (6, .int x6)] → W p l e R s m args below meth c H locs 0 0 (MQ below (QG g (some (.int res.1)) res.2) args s 0 0 (AG g)) (F0 m 86 ls []) := by
  have hx := X.1
  have hb := X.2.1
  intro n
  induction n with
  | zero =>
    intro o0 x3 x4 x5 x6 h ls H locs hf
    rw [f_X12_rests_86.eq_1] at hf
    cases hf
  | succ n ih =>
    intro o0 x3 x4 x5 x6 h ls H locs hf I hl
    rw [f_X12_rests_86.eq_2] at hf
    refine lv_iload hx hb dX12_rests_86 (lv_at hl 4 rfl) ?_
    refine lv_iconst (v := 2) hx hb dX12_rests_88 (by decide) ?_
    refine lv_icmp_ge (tgt := 226) hx hb dX12_rests_89 (by decide) (fun c1 => ?_) (fun c1 => ?_)
    · rw [if_pos c1] at hf
      refine lv_iinc (v := x5 + 1) (lv' := [(5, .int (x5 + 1)), (0, .ref (rfG g o0)), (3, .int x3), (4, .int x4), (6, .int x6)]) hx hb dX12_rests_226 hl (k := 3) rfl rfl (by decide) rfl (fun ls hl => ?_)
      refine lv_goto (tgt := 77) hx hb dX12_rests_229 (by decide) ?_
      exact hk77 o0 x3 x4 (x5 + 1) h ls H locs hf I (lv_sub hl [1, 2, 3, 0] rfl)
    · rw [if_neg c1] at hf
      refine lv_aload_n hx hb dX12_rests_92 rfl (lv_at hl 0 rfl) ?_
      obtain ⟨v2, e3, hf⟩ := Option.bind_eq_some_iff.mp hf
      refine r_gR X I e3 lk_TrapCornerModel_90 dX12_rests_93 ?_
      refine lv_iconst (v := 4) hx hb dX12_rests_96 (by decide) ?_
      refine lv_iload hx hb dX12_rests_97 (lv_at hl 3 rfl) ?_
      refine lv_imul hx hb dX12_rests_99 ?_
      refine lv_iconst (v := 2) hx hb dX12_rests_100 (by decide) ?_
      refine lv_iconst (v := 1) hx hb dX12_rests_101 (by decide) ?_
      refine lv_iload hx hb dX12_rests_102 (lv_at hl 4 rfl) ?_
      refine lv_isub hx hb dX12_rests_104 ?_
      refine lv_imul hx hb dX12_rests_105 ?_
      refine lv_iadd hx hb dX12_rests_106 ?_
      refine lv_iconst (v := 1) hx hb dX12_rests_107 (by decide) ?_
      refine lv_iadd hx hb dX12_rests_108 ?_
      obtain ⟨v4, e5, hf⟩ := Option.bind_eq_some_iff.mp hf
      refine r_aI0 X I e5 dX12_rests_109 ?_
      refine lv_aload_n hx hb dX12_rests_110 rfl (lv_at hl 0 rfl) ?_
      obtain ⟨v6, e7, hf⟩ := Option.bind_eq_some_iff.mp hf
      refine r_gR X I e7 lk_TrapCornerModel_90 dX12_rests_111 ?_
      refine lv_iconst (v := 4) hx hb dX12_rests_114 (by decide) ?_
      refine lv_iload hx hb dX12_rests_115 (lv_at hl 3 rfl) ?_
      refine lv_imul hx hb dX12_rests_117 ?_
      refine lv_iconst (v := 2) hx hb dX12_rests_118 (by decide) ?_
      refine lv_iload hx hb dX12_rests_119 (lv_at hl 4 rfl) ?_
      refine lv_imul hx hb dX12_rests_121 ?_
      refine lv_iadd hx hb dX12_rests_122 ?_
      refine lv_iconst (v := 1) hx hb dX12_rests_123 (by decide) ?_
      refine lv_iadd hx hb dX12_rests_124 ?_
      obtain ⟨v8, e9, hf⟩ := Option.bind_eq_some_iff.mp hf
      refine r_aI0 X I e9 dX12_rests_125 ?_
      refine lv_icmp_gt (tgt := 133) hx hb dX12_rests_126 (by decide) (fun c10 => ?_) (fun c10 => ?_)
      · rw [if_pos c10] at hf
        refine lv_iconst (v := 0) hx hb dX12_rests_133 (by decide) ?_
        exact w_X12_rests_134 X hR hr hk77 ih o0 x3 x4 x5 x6 0 h ls H locs hf I (lv_sub hl [0, 1, 2, 3, 4] rfl)
      · rw [if_neg c10] at hf
        refine lv_iconst (v := 1) hx hb dX12_rests_129 (by decide) ?_
        refine lv_goto (tgt := 134) hx hb dX12_rests_130 (by decide) ?_
        exact w_X12_rests_134 X hR hr hk77 ih o0 x3 x4 x5 x6 1 h ls H locs hf I (lv_sub hl [0, 1, 2, 3, 4] rfl)
def f_X12_rests_77  : Nat → Nat → Int32 → Int32 → Int32 → AH → Option (Int32 × AH)
  | 0, _, _, _, _, _ => none
  | n + 1, o0, x3, x4, x5, h =>
  if 4 ≤ x5 then
    if x3 = ((-1)) then
      some (x4, h)
    else
      some ((-1), h)
  else
    f_X12_rests_86 (f_X12_rests_77 n) fu o0 x3 x4 x5 0 h
set_option maxHeartbeats 1000000 in
theorem w_X12_rests_77 (X : Cx g p s m args meth c cX12_rests 9 "TrapCornerModel") (hR : 95 ≤ R.frames ∧ 6080 ≤ R.locals) (hr : meth.sig.returnType = (some (.int))) {res : Int32 × AH} : ∀ (n : Nat) (o0 : Nat) (x3 : Int32) (x4 : Int32) (x5 : Int32) (h : AH) (ls : Array Slot) (H : Heap) (locs : List Loc), f_X12_rests_77 n o0 x3 x4 x5 h = some res → Iv g s n0 z0 h H locs 0 0 → lv_has ls 9 [(0, .ref (rfG g o0)), (3, .int x3), (4, .int x4), (5, .int x5)] → W p l e R s m args below meth c H locs 0 0 (MQ below (QG g (some (.int res.1)) res.2) args s 0 0 (AG g)) (F0 m 77 ls []) := by
  have hx := X.1
  have hb := X.2.1
  intro n
  induction n with
  | zero =>
    intro o0 x3 x4 x5 h ls H locs hf
    rw [f_X12_rests_77.eq_1] at hf
    cases hf
  | succ n ih =>
    intro o0 x3 x4 x5 h ls H locs hf I hl
    rw [f_X12_rests_77.eq_2] at hf
    refine lv_iload hx hb dX12_rests_77 (lv_at hl 3 rfl) ?_
    refine lv_iconst (v := 4) hx hb dX12_rests_79 (by decide) ?_
    refine lv_icmp_ge (tgt := 232) hx hb dX12_rests_80 (by decide) (fun c1 => ?_) (fun c1 => ?_)
    · rw [if_pos c1] at hf
      refine lv_iload_n hx hb dX12_rests_232 rfl (lv_at hl 1 rfl) ?_
      refine lv_iconst (v := (-1)) hx hb dX12_rests_233 (by decide) ?_
      refine lv_icmp_ne (tgt := 242) hx hb dX12_rests_234 (by decide) (fun c2 => ?_) (fun c2 => ?_)
      · rw [if_neg c2] at hf
        refine lv_iconst (v := (-1)) hx hb dX12_rests_242 (by decide) ?_
        cases hf
        exact k_ri X I hr dX12_rests_243
      · rw [if_pos c2] at hf
        refine lv_iload hx hb dX12_rests_237 (lv_at hl 2 rfl) ?_
        refine lv_goto (tgt := 243) hx hb dX12_rests_239 (by decide) ?_
        cases hf
        exact k_ri X I hr dX12_rests_243
    · rw [if_neg c1] at hf
      refine lv_iconst (v := 0) hx hb dX12_rests_83 (by decide) ?_
      refine lv_istore (lv' := [(6, .int 0), (0, .ref (rfG g o0)), (3, .int x3), (4, .int x4), (5, .int x5)]) hx hb dX12_rests_84 hl (by decide) rfl (fun ls hl => ?_)
      exact w_X12_rests_86 X hR hr ih fu o0 x3 x4 x5 0 h ls H locs hf I (lv_sub hl [1, 2, 3, 4, 0] rfl)
def f_X12_rests_31  : Nat → Nat → Int32 → Int32 → Int32 → Int32 → AH → Option (Int32 × AH)
  | 0, _, _, _, _, _, _ => none
  | n + 1, o0, x1, x2, x3, x4, h =>
  if 16 ≤ x4 then
    f_X12_rests_77 fu o0 x3 0 0 h
  else
    (gR [12] h o0 47).bind fun v2 =>
    (isC [12] h o0).bind fun _ =>
    cN (f_X12_gameOf o0 x1 x2 (x4 / 4) ((x4 / 2) - (x4 / 2) / 2 * 2) (x4 - x4 / 2 * 2) h) h fun v4 h5 =>
    (uI 0 h5 v2 x4 v4).bind fun h9 =>
    f_X12_rests_31  n o0 x1 x2 x3 (x4 + 1) h9
set_option maxHeartbeats 1000000 in
theorem w_X12_rests_31 (X : Cx g p s m args meth c cX12_rests 9 "TrapCornerModel") (hR : 95 ≤ R.frames ∧ 6080 ≤ R.locals) (hr : meth.sig.returnType = (some (.int))) {res : Int32 × AH} : ∀ (n : Nat) (o0 : Nat) (x1 : Int32) (x2 : Int32) (x3 : Int32) (x4 : Int32) (h : AH) (ls : Array Slot) (H : Heap) (locs : List Loc), f_X12_rests_31 n o0 x1 x2 x3 x4 h = some res → Iv g s n0 z0 h H locs 0 0 → lv_has ls 9 [(0, .ref (rfG g o0)), (1, .int x1), (2, .int x2), (3, .int x3), (4, .int x4)] → W p l e R s m args below meth c H locs 0 0 (MQ below (QG g (some (.int res.1)) res.2) args s 0 0 (AG g)) (F0 m 31 ls []) := by
  have hx := X.1
  have hb := X.2.1
  intro n
  induction n with
  | zero =>
    intro o0 x1 x2 x3 x4 h ls H locs hf
    rw [f_X12_rests_31.eq_1] at hf
    cases hf
  | succ n ih =>
    intro o0 x1 x2 x3 x4 h ls H locs hf I hl
    rw [f_X12_rests_31.eq_2] at hf
    refine lv_iload hx hb dX12_rests_31 (lv_at hl 4 rfl) ?_
    refine lv_bipush (v := 16) hx hb dX12_rests_33 (by decide) ?_
    refine lv_icmp_ge (tgt := 71) hx hb dX12_rests_35 (by decide) (fun c1 => ?_) (fun c1 => ?_)
    · rw [if_pos c1] at hf
      refine lv_iconst (v := 0) hx hb dX12_rests_71 (by decide) ?_
      refine lv_istore (lv' := [(4, .int 0), (0, .ref (rfG g o0)), (1, .int x1), (2, .int x2), (3, .int x3)]) hx hb dX12_rests_72 hl (by decide) rfl (fun ls hl => ?_)
      refine lv_iconst (v := 0) hx hb dX12_rests_74 (by decide) ?_
      refine lv_istore (lv' := [(5, .int 0), (4, .int 0), (0, .ref (rfG g o0)), (1, .int x1), (2, .int x2), (3, .int x3)]) hx hb dX12_rests_75 hl (by decide) rfl (fun ls hl => ?_)
      exact w_X12_rests_77 X hR hr fu o0 x3 0 0 h ls H locs hf I (lv_sub hl [2, 5, 1, 0] rfl)
    · rw [if_neg c1] at hf
      refine lv_aload_n hx hb dX12_rests_38 rfl (lv_at hl 0 rfl) ?_
      obtain ⟨v2, e3, hf⟩ := Option.bind_eq_some_iff.mp hf
      refine r_gR X I e3 lk_TrapCornerModel_90 dX12_rests_39 ?_
      refine lv_iload hx hb dX12_rests_42 (lv_at hl 4 rfl) ?_
      refine lv_aload_n hx hb dX12_rests_44 rfl (lv_at hl 0 rfl) ?_
      refine lv_iload_n hx hb dX12_rests_45 rfl (lv_at hl 1 rfl) ?_
      refine lv_iload_n hx hb dX12_rests_46 rfl (lv_at hl 2 rfl) ?_
      refine lv_iload hx hb dX12_rests_47 (lv_at hl 4 rfl) ?_
      refine lv_iconst (v := 4) hx hb dX12_rests_49 (by decide) ?_
      refine lv_idiv hx hb dX12_rests_50 (by decide) ?_
      refine lv_iload hx hb dX12_rests_51 (lv_at hl 4 rfl) ?_
      refine lv_iconst (v := 2) hx hb dX12_rests_53 (by decide) ?_
      refine lv_idiv hx hb dX12_rests_54 (by decide) ?_
      refine lv_iconst (v := 2) hx hb dX12_rests_55 (by decide) ?_
      refine lv_irem hx hb dX12_rests_56 (by decide) ?_
      refine lv_iload hx hb dX12_rests_57 (lv_at hl 4 rfl) ?_
      refine lv_iconst (v := 2) hx hb dX12_rests_59 (by decide) ?_
      refine lv_irem hx hb dX12_rests_60 (by decide) ?_
      obtain ⟨_, g8, hf⟩ := Option.bind_eq_some_iff.mp hf
      obtain ⟨v4, h5, e6, z7, hf⟩ := cN_spec hf
      refine k_Vi (As := [.int x1, .int x2, .int (x4 / 4), .int ((x4 / 2) - (x4 / 2) / 2 * 2), .int (x4 - x4 / 2 * 2)]) (rest := [.int x4, .ref (rfG g v2)]) X I (c_X12_gameOf l g o0 x1 x2 (x4 / 4) ((x4 / 2) - (x4 / 2) / 2 * 2) (x4 - x4 / 2 * 2) e6) z7 g8 vk_TrapCornerModel_464 tw_1874 ⟨Nat.le_trans (by decide) hR.1, Nat.le_trans (by decide) hR.2⟩ ⟨Nat.zero_le _, Nat.zero_le _⟩ rfl hl.1 rfl (Nat.le_of_ble_eq_true rfl) dX12_rests_61 (fun H locs I => ?_)
      obtain ⟨h9, e10, hf⟩ := Option.bind_eq_some_iff.mp hf
      refine r_uI0 X I e10 dX12_rests_64 (fun H locs I => ?_)
      refine lv_iinc (v := x4 + 1) (lv' := [(4, .int (x4 + 1)), (0, .ref (rfG g o0)), (1, .int x1), (2, .int x2), (3, .int x3)]) hx hb dX12_rests_65 hl (k := 4) rfl rfl (by decide) rfl (fun ls hl => ?_)
      refine lv_goto (tgt := 31) hx hb dX12_rests_68 (by decide) ?_
      exact ih o0 x1 x2 x3 (x4 + 1) h9 ls H locs hf I (lv_sub hl [1, 2, 3, 4, 0] rfl)
def f_X12_rests_0  (o0 : Nat) (x1 : Int32) (x2 : Int32) (x3 : Int32) (h : AH) : Option (Int32 × AH) :=
  (pV [12] h o0 0 (.int 0)).bind fun h1 =>
  (isC [12] h1 o0).bind fun _ =>
  cN (f_X12_isPerson o0 x1 h1) h1 fun v3 h4 =>
  if v3 = 0 then
    some ((-1), h4)
  else
    (isC [12] h4 o0).bind fun _ =>
    cN (f_X12_isCorner o0 x2 h4) h4 fun v9 h10 =>
    if v9 = 0 then
      some ((-1), h10)
    else
      if ((-1)) ≤ x3 then
        f_X12_rests_31 fu o0 x1 x2 x3 0 h10
      else
        some ((-1), h10)
set_option maxHeartbeats 1000000 in
theorem w_X12_rests_0 (X : Cx g p s m args meth c cX12_rests 9 "TrapCornerModel") (hR : 95 ≤ R.frames ∧ 6080 ≤ R.locals) (hr : meth.sig.returnType = (some (.int))) {res : Int32 × AH} : ∀ (o0 : Nat) (x1 : Int32) (x2 : Int32) (x3 : Int32) (h : AH) (ls : Array Slot) (H : Heap) (locs : List Loc), f_X12_rests_0 o0 x1 x2 x3 h = some res → Iv g s n0 z0 h H locs 0 0 → lv_has ls 9 [(0, .ref (rfG g o0)), (1, .int x1), (2, .int x2), (3, .int x3)] → W p l e R s m args below meth c H locs 0 0 (MQ below (QG g (some (.int res.1)) res.2) args s 0 0 (AG g)) (F0 m 0 ls []) := by
  have hx := X.1
  have hb := X.2.1
  intro o0 x1 x2 x3 h ls H locs hf I hl
  unfold f_X12_rests_0 at hf
  refine lv_aload_n hx hb dX12_rests_0 rfl (lv_at hl 0 rfl) ?_
  refine lv_iconst (v := 0) hx hb dX12_rests_1 (by decide) ?_
  obtain ⟨h1, e2, hf⟩ := Option.bind_eq_some_iff.mp hf
  refine r_pI X I e2 lp_TrapCornerModel_96 dX12_rests_2 (fun H locs I => ?_)
  refine lv_aload_n hx hb dX12_rests_5 rfl (lv_at hl 0 rfl) ?_
  refine lv_iload_n hx hb dX12_rests_6 rfl (lv_at hl 1 rfl) ?_
  obtain ⟨_, g7, hf⟩ := Option.bind_eq_some_iff.mp hf
  obtain ⟨v3, h4, e5, z6, hf⟩ := cN_spec hf
  refine k_Vi (As := [.int x1]) (rest := []) X I (c_X12_isPerson l g o0 x1 e5) z6 g7 vk_TrapCornerModel_383 tw_1643 ⟨Nat.le_trans (by decide) hR.1, Nat.le_trans (by decide) hR.2⟩ ⟨Nat.zero_le _, Nat.zero_le _⟩ rfl hl.1 rfl (Nat.le_of_ble_eq_true rfl) dX12_rests_7 (fun H locs I => ?_)
  refine lv_if_eq (tgt := 26) hx hb dX12_rests_10 (by decide) (fun c8 => ?_) (fun c8 => ?_)
  · rw [if_pos c8] at hf
    refine lv_iconst (v := (-1)) hx hb dX12_rests_26 (by decide) ?_
    cases hf
    exact k_ri X I hr dX12_rests_27
  · rw [if_neg c8] at hf
    refine lv_aload_n hx hb dX12_rests_13 rfl (lv_at hl 0 rfl) ?_
    refine lv_iload_n hx hb dX12_rests_14 rfl (lv_at hl 2 rfl) ?_
    obtain ⟨_, g13, hf⟩ := Option.bind_eq_some_iff.mp hf
    obtain ⟨v9, h10, e11, z12, hf⟩ := cN_spec hf
    refine k_Vi (As := [.int x2]) (rest := []) X I (c_X12_isCorner l g o0 x2 e11) z12 g13 vk_TrapCornerModel_380 tw_1635 ⟨Nat.le_trans (by decide) hR.1, Nat.le_trans (by decide) hR.2⟩ ⟨Nat.zero_le _, Nat.zero_le _⟩ rfl hl.1 rfl (Nat.le_of_ble_eq_true rfl) dX12_rests_15 (fun H locs I => ?_)
    refine lv_if_eq (tgt := 26) hx hb dX12_rests_18 (by decide) (fun c14 => ?_) (fun c14 => ?_)
    · rw [if_pos c14] at hf
      refine lv_iconst (v := (-1)) hx hb dX12_rests_26 (by decide) ?_
      cases hf
      exact k_ri X I hr dX12_rests_27
    · rw [if_neg c14] at hf
      refine lv_iload_n hx hb dX12_rests_21 rfl (lv_at hl 3 rfl) ?_
      refine lv_iconst (v := (-1)) hx hb dX12_rests_22 (by decide) ?_
      refine lv_icmp_ge (tgt := 28) hx hb dX12_rests_23 (by decide) (fun c15 => ?_) (fun c15 => ?_)
      · rw [if_pos c15] at hf
        refine lv_iconst (v := 0) hx hb dX12_rests_28 (by decide) ?_
        refine lv_istore (lv' := [(4, .int 0), (0, .ref (rfG g o0)), (1, .int x1), (2, .int x2), (3, .int x3)]) hx hb dX12_rests_29 hl (by decide) rfl (fun ls hl => ?_)
        exact w_X12_rests_31 X hR hr fu o0 x1 x2 x3 0 h10 ls H locs hf I (lv_sub hl [1, 2, 3, 4, 0] rfl)
      · rw [if_neg c15] at hf
        refine lv_iconst (v := (-1)) hx hb dX12_rests_26 (by decide) ?_
        cases hf
        exact k_ri X I hr dX12_rests_27
def f_X12_rests (o0 : Nat) (x1 : Int32) (x2 : Int32) (x3 : Int32) (h : AH) : Option (Int32 × AH) := f_X12_rests_0 o0 x1 x2 x3 h
end
theorem c_X12_rests (l : Launch) (g : GG) (o0 : Nat) (x1 : Int32) (x2 : Int32) (x3 : Int32) {h : AH} {res : Int32 × AH} (hf : f_X12_rests o0 x1 x2 x3 h = some res) : CM l g yX12_rests cX12_rests 9 (some (.int)) 95 6080 0 0 [.ref (rfG g o0), .int x1, .int x2, .int x3] h (some (.int res.1)) res.2 :=
  k_body (by decide) (Nat.le_of_ble_eq_true rfl) (fun p e s m below meth c R ls hR hr X I hl => w_X12_rests_0 X ⟨Nat.le_of_eq hR.1.symm, Nat.le_of_eq hR.2.1.symm⟩ hr o0 x1 x2 x3 h ls s.heap [] hf I (lv_sub hl [0, 1, 2, 3] rfl))
/-! TrapCornerModel.odds(II)I -/
theorem dX12_odds_0 : decode cX12_odds 0 = .ok (.aload_n 0, 1) := by decide +kernel
theorem dX12_odds_1 : decode cX12_odds 1 = .ok (.iconst 0, 1) := by decide +kernel
theorem dX12_odds_2 : decode cX12_odds 2 = .ok (.putfield 96, 3) := by decide +kernel
theorem dX12_odds_5 : decode cX12_odds 5 = .ok (.aload_n 0, 1) := by decide +kernel
theorem dX12_odds_6 : decode cX12_odds 6 = .ok (.iload_n 1, 1) := by decide +kernel
theorem dX12_odds_7 : decode cX12_odds 7 = .ok (.invokevirtual 383, 3) := by decide +kernel
theorem dX12_odds_10 : decode cX12_odds 10 = .ok (.ifCond .eq 15, 3) := by decide +kernel
theorem dX12_odds_13 : decode cX12_odds 13 = .ok (.iload_n 2, 1) := by decide +kernel
theorem dX12_odds_14 : decode cX12_odds 14 = .ok (.i2l, 1) := by decide +kernel
theorem dX12_odds_15 : decode cX12_odds 15 = .ok (.lconst 0, 1) := by decide +kernel
theorem dX12_odds_16 : decode cX12_odds 16 = .ok (.ldc2_w 311, 3) := by decide +kernel
theorem dX12_odds_19 : decode cX12_odds 19 = .ok (.invokestatic 217, 3) := by decide +kernel
theorem dX12_odds_22 : decode cX12_odds 22 = .ok (.ifCond .ne 5, 3) := by decide +kernel
theorem dX12_odds_25 : decode cX12_odds 25 = .ok (.iconst (-1), 1) := by decide +kernel
theorem dX12_odds_26 : decode cX12_odds 26 = .ok (.ireturn, 1) := by decide +kernel
theorem dX12_odds_27 : decode cX12_odds 27 = .ok (.aload_n 0, 1) := by decide +kernel
theorem dX12_odds_28 : decode cX12_odds 28 = .ok (.getfield 61, 3) := by decide +kernel
theorem dX12_odds_31 : decode cX12_odds 31 = .ok (.aload_n 0, 1) := by decide +kernel
theorem dX12_odds_32 : decode cX12_odds 32 = .ok (.getfield 64, 3) := by decide +kernel
theorem dX12_odds_35 : decode cX12_odds 35 = .ok (.invokestatic 372, 3) := by decide +kernel
theorem dX12_odds_38 : decode cX12_odds 38 = .ok (.aload_n 0, 1) := by decide +kernel
theorem dX12_odds_39 : decode cX12_odds 39 = .ok (.invokevirtual 365, 3) := by decide +kernel
theorem dX12_odds_42 : decode cX12_odds 42 = .ok (.iconst 0, 1) := by decide +kernel
theorem dX12_odds_43 : decode cX12_odds 43 = .ok (.istore_n 3, 1) := by decide +kernel
theorem dX12_odds_44 : decode cX12_odds 44 = .ok (.iload_n 3, 1) := by decide +kernel
theorem dX12_odds_45 : decode cX12_odds 45 = .ok (.iload_n 1, 1) := by decide +kernel
theorem dX12_odds_46 : decode cX12_odds 46 = .ok (.if_icmp .ge 18, 3) := by decide +kernel
theorem dX12_odds_49 : decode cX12_odds 49 = .ok (.aload_n 0, 1) := by decide +kernel
theorem dX12_odds_50 : decode cX12_odds 50 = .ok (.aload_n 0, 1) := by decide +kernel
theorem dX12_odds_51 : decode cX12_odds 51 = .ok (.getfield 64, 3) := by decide +kernel
theorem dX12_odds_54 : decode cX12_odds 54 = .ok (.iload_n 3, 1) := by decide +kernel
theorem dX12_odds_55 : decode cX12_odds 55 = .ok (.invokevirtual 368, 3) := by decide +kernel
theorem dX12_odds_58 : decode cX12_odds 58 = .ok (.iinc 3 1, 3) := by decide +kernel
theorem dX12_odds_61 : decode cX12_odds 61 = .ok (.goto (-17), 3) := by decide +kernel
theorem dX12_odds_64 : decode cX12_odds 64 = .ok (.aload_n 0, 1) := by decide +kernel
theorem dX12_odds_65 : decode cX12_odds 65 = .ok (.getfield 61, 3) := by decide +kernel
theorem dX12_odds_68 : decode cX12_odds 68 = .ok (.iload_n 1, 1) := by decide +kernel
theorem dX12_odds_69 : decode cX12_odds 69 = .ok (.iconst 2, 1) := by decide +kernel
theorem dX12_odds_70 : decode cX12_odds 70 = .ok (.invokestatic 328, 3) := by decide +kernel
theorem dX12_odds_73 : decode cX12_odds 73 = .ok (.istore_n 3, 1) := by decide +kernel
theorem dX12_odds_74 : decode cX12_odds 74 = .ok (.ldc_w 468, 3) := by decide +kernel
theorem dX12_odds_77 : decode cX12_odds 77 = .ok (.istore 4, 2) := by decide +kernel
theorem dX12_odds_79 : decode cX12_odds 79 = .ok (.iconst 0, 1) := by decide +kernel
theorem dX12_odds_80 : decode cX12_odds 80 = .ok (.istore 5, 2) := by decide +kernel
theorem dX12_odds_82 : decode cX12_odds 82 = .ok (.iconst 1, 1) := by decide +kernel
theorem dX12_odds_83 : decode cX12_odds 83 = .ok (.istore 6, 2) := by decide +kernel
theorem dX12_odds_85 : decode cX12_odds 85 = .ok (.iload 6, 2) := by decide +kernel
theorem dX12_odds_87 : decode cX12_odds 87 = .ok (.aload_n 0, 1) := by decide +kernel
theorem dX12_odds_88 : decode cX12_odds 88 = .ok (.iload_n 1, 1) := by decide +kernel
theorem dX12_odds_89 : decode cX12_odds 89 = .ok (.iload_n 3, 1) := by decide +kernel
theorem dX12_odds_90 : decode cX12_odds 90 = .ok (.invokevirtual 345, 3) := by decide +kernel
theorem dX12_odds_93 : decode cX12_odds 93 = .ok (.if_icmp .gt 77, 3) := by decide +kernel
theorem dX12_odds_96 : decode cX12_odds 96 = .ok (.aload_n 0, 1) := by decide +kernel
theorem dX12_odds_97 : decode cX12_odds 97 = .ok (.iload_n 1, 1) := by decide +kernel
theorem dX12_odds_98 : decode cX12_odds 98 = .ok (.iload_n 3, 1) := by decide +kernel
theorem dX12_odds_99 : decode cX12_odds 99 = .ok (.iload 6, 2) := by decide +kernel
theorem dX12_odds_101 : decode cX12_odds 101 = .ok (.invokevirtual 348, 3) := by decide +kernel
theorem dX12_odds_104 : decode cX12_odds 104 = .ok (.istore 7, 2) := by decide +kernel
theorem dX12_odds_106 : decode cX12_odds 106 = .ok (.aload_n 0, 1) := by decide +kernel
theorem dX12_odds_107 : decode cX12_odds 107 = .ok (.aload_n 0, 1) := by decide +kernel
theorem dX12_odds_108 : decode cX12_odds 108 = .ok (.getfield 64, 3) := by decide +kernel
theorem dX12_odds_111 : decode cX12_odds 111 = .ok (.iload_n 1, 1) := by decide +kernel
theorem dX12_odds_112 : decode cX12_odds 112 = .ok (.iload 7, 2) := by decide +kernel
theorem dX12_odds_114 : decode cX12_odds 114 = .ok (.invokevirtual 352, 3) := by decide +kernel
theorem dX12_odds_117 : decode cX12_odds 117 = .ok (.ifCond .eq 47, 3) := by decide +kernel
theorem dX12_odds_120 : decode cX12_odds 120 = .ok (.aload_n 0, 1) := by decide +kernel
theorem dX12_odds_121 : decode cX12_odds 121 = .ok (.aload_n 0, 1) := by decide +kernel
theorem dX12_odds_122 : decode cX12_odds 122 = .ok (.getfield 64, 3) := by decide +kernel
theorem dX12_odds_125 : decode cX12_odds 125 = .ok (.iload_n 1, 1) := by decide +kernel
theorem dX12_odds_126 : decode cX12_odds 126 = .ok (.iload 7, 2) := by decide +kernel
theorem dX12_odds_128 : decode cX12_odds 128 = .ok (.invokevirtual 356, 3) := by decide +kernel
theorem dX12_odds_131 : decode cX12_odds 131 = .ok (.ifCond .eq 6, 3) := by decide +kernel
theorem dX12_odds_134 : decode cX12_odds 134 = .ok (.goto 30, 3) := by decide +kernel
theorem dX12_odds_137 : decode cX12_odds 137 = .ok (.iload 4, 2) := by decide +kernel
theorem dX12_odds_139 : decode cX12_odds 139 = .ok (.i2l, 1) := by decide +kernel
theorem dX12_odds_140 : decode cX12_odds 140 = .ok (.iload_n 2, 1) := by decide +kernel
theorem dX12_odds_141 : decode cX12_odds 141 = .ok (.i2l, 1) := by decide +kernel
theorem dX12_odds_142 : decode cX12_odds 142 = .ok (.lmul, 1) := by decide +kernel
theorem dX12_odds_143 : decode cX12_odds 143 = .ok (.ldc2_w 311, 3) := by decide +kernel
theorem dX12_odds_146 : decode cX12_odds 146 = .ok (.ldiv, 1) := by decide +kernel
theorem dX12_odds_147 : decode cX12_odds 147 = .ok (.l2i, 1) := by decide +kernel
theorem dX12_odds_148 : decode cX12_odds 148 = .ok (.istore 8, 2) := by decide +kernel
theorem dX12_odds_150 : decode cX12_odds 150 = .ok (.iload 5, 2) := by decide +kernel
theorem dX12_odds_152 : decode cX12_odds 152 = .ok (.iload 4, 2) := by decide +kernel
theorem dX12_odds_154 : decode cX12_odds 154 = .ok (.iload 8, 2) := by decide +kernel
theorem dX12_odds_156 : decode cX12_odds 156 = .ok (.isub, 1) := by decide +kernel
theorem dX12_odds_157 : decode cX12_odds 157 = .ok (.iadd, 1) := by decide +kernel
theorem dX12_odds_158 : decode cX12_odds 158 = .ok (.istore 5, 2) := by decide +kernel
theorem dX12_odds_160 : decode cX12_odds 160 = .ok (.iload 8, 2) := by decide +kernel
theorem dX12_odds_162 : decode cX12_odds 162 = .ok (.istore 4, 2) := by decide +kernel
theorem dX12_odds_164 : decode cX12_odds 164 = .ok (.iinc 6 1, 3) := by decide +kernel
theorem dX12_odds_167 : decode cX12_odds 167 = .ok (.goto (-82), 3) := by decide +kernel
theorem dX12_odds_170 : decode cX12_odds 170 = .ok (.iload 5, 2) := by decide +kernel
theorem dX12_odds_172 : decode cX12_odds 172 = .ok (.ireturn, 1) := by decide +kernel
section
variable {g : GG} {p : Program} {l : Launch} {e : Env} {R : Room} {s : State} {m : MethodId} {args : Array Value} {below : List Frame} {meth : Method} {c : Code} {n0 z0 : Nat}
def f_X12_odds_164 (k85 : Nat → Int32 → Int32 → Int32 → Int32 → Int32 → Int32 → AH → Option (Int32 × AH)) (o0 : Nat) (x1 : Int32) (x2 : Int32) (x3 : Int32) (x4 : Int32) (x5 : Int32) (x6 : Int32) (h : AH) : Option (Int32 × AH) :=
  k85 o0 x1 x2 x3 x4 x5 (x6 + 1) h
set_option maxHeartbeats 1000000 in
theorem w_X12_odds_164 (X : Cx g p s m args meth c cX12_odds 9 "TrapCornerModel") (hR : 93 ≤ R.frames ∧ 5952 ≤ R.locals) (hr : meth.sig.returnType = (some (.int))) {res : Int32 × AH} {k85 : Nat → Int32 → Int32 → Int32 → Int32 → Int32 → Int32 → AH → Option (Int32 × AH)} (hk85 : ∀ (o0 : Nat) (x1 : Int32) (x2 : Int32) (x3 : Int32) (x4 : Int32) (x5 : Int32) (x6 : Int32) (h : AH) (ls : Array Slot) (H : Heap) (locs : List Loc), k85 o0 x1 x2 x3 x4 x5 x6 h = some res → Iv g s n0 z0 h H locs 0 0 → lv_has ls 9 [(0, .ref (rfG g o0)), (1, .int x1), (2, .int x2), (3, .int x3), (4, .int x4), (5, .int x5), (6, .int x6)] → W p l e R s m args below meth c H locs 0 0 (MQ below (QG g (some (.int res.1)) res.2) args s 0 0 (AG g)) (F0 m 85 ls [])) : ∀ (o0 : Nat) (x1 : Int32) (x2 : Int32) (x3 : Int32) (x4 : Int32) (x5 : Int32) (x6 : Int32) (h : AH) (ls : Array Slot) (H : Heap) (locs : List Loc), f_X12_odds_164 k85 o0 x1 x2 x3 x4 x5 x6 h = some res → Iv g s n0 z0 h H locs 0 0 → lv_has ls 9 [(0, .ref (rfG g o0)), (1, .int x1), (2, .int x2), (3, .int x3), (4, .int x4), (5, .int x5), (6, .int x6)] → W p l e R s m args below meth c H locs 0 0 (MQ below (QG g (some (.int res.1)) res.2) args s 0 0 (AG g)) (F0 m 164 ls []) := by
  have hx := X.1
  have hb := X.2.1
  intro o0 x1 x2 x3 x4 x5 x6 h ls H locs hf I hl
  unfold f_X12_odds_164 at hf
  refine lv_iinc (v := x6 + 1) (lv' := [(6, .int (x6 + 1)), (0, .ref (rfG g o0)), (1, .int x1), (2, .int x2), (3, .int x3), (4, .int x4), (5, .int x5)]) hx hb dX12_odds_164 hl (k := 6) rfl rfl (by decide) rfl (fun ls hl => ?_)
  refine lv_goto (tgt := 85) hx hb dX12_odds_167 (by decide) ?_
  exact hk85 o0 x1 x2 x3 x4 x5 (x6 + 1) h ls H locs hf I (lv_sub hl [1, 2, 3, 4, 5, 6, 0] rfl)
def f_X12_odds_85  : Nat → Nat → Int32 → Int32 → Int32 → Int32 → Int32 → Int32 → AH → Option (Int32 × AH)
  | 0, _, _, _, _, _, _, _, _ => none
  | n + 1, o0, x1, x2, x3, x4, x5, x6, h =>
  (isC [12] h o0).bind fun _ =>
  cN (f_X12_longOf o0 x1 x3 h) h fun v1 h2 =>
  if v1 < x6 then
    some (x5, h2)
  else
    (isC [12] h2 o0).bind fun _ =>
    cN (f_X12_cornerAt o0 x1 x3 x6 h2) h2 fun v7 h8 =>
    (gR [12] h8 o0 33).bind fun v12 =>
    (isC [12] h8 o0).bind fun _ =>
    cN (f_X12_isTrap o0 v12 x1 v7 h8) h8 fun v14 h15 =>
    if v14 = 0 then
      f_X12_odds_164 (f_X12_odds_85 n) o0 x1 x2 x3 x4 x5 x6 h15
    else
      (gR [12] h15 o0 33).bind fun v20 =>
      (isC [12] h15 o0).bind fun _ =>
      cN (f_X12_usesCane o0 v20 x1 v7 h15) h15 fun v22 h23 =>
      if v22 = 0 then
        f_X12_odds_164 (f_X12_odds_85 n) o0 x1 x2 x3 ((((x4.toInt64) * (x2.toInt64)) / 100).toInt32) (x5 + (x4 - ((((x4.toInt64) * (x2.toInt64)) / 100).toInt32))) x6 h23
      else
        f_X12_odds_164 (f_X12_odds_85 n) o0 x1 x2 x3 x4 x5 x6 h23
set_option maxHeartbeats 1000000 in
theorem w_X12_odds_85 (X : Cx g p s m args meth c cX12_odds 9 "TrapCornerModel") (hR : 93 ≤ R.frames ∧ 5952 ≤ R.locals) (hr : meth.sig.returnType = (some (.int))) {res : Int32 × AH} : ∀ (n : Nat) (o0 : Nat) (x1 : Int32) (x2 : Int32) (x3 : Int32) (x4 : Int32) (x5 : Int32) (x6 : Int32) (h : AH) (ls : Array Slot) (H : Heap) (locs : List Loc), f_X12_odds_85 n o0 x1 x2 x3 x4 x5 x6 h = some res → Iv g s n0 z0 h H locs 0 0 → lv_has ls 9 [(0, .ref (rfG g o0)), (1, .int x1), (2, .int x2), (3, .int x3), (4, .int x4), (5, .int x5), (6, .int x6)] → W p l e R s m args below meth c H locs 0 0 (MQ below (QG g (some (.int res.1)) res.2) args s 0 0 (AG g)) (F0 m 85 ls []) := by
  have hx := X.1
  have hb := X.2.1
  intro n
  induction n with
  | zero =>
    intro o0 x1 x2 x3 x4 x5 x6 h ls H locs hf
    rw [f_X12_odds_85.eq_1] at hf
    cases hf
  | succ n ih =>
    intro o0 x1 x2 x3 x4 x5 x6 h ls H locs hf I hl
    rw [f_X12_odds_85.eq_2] at hf
    refine lv_iload hx hb dX12_odds_85 (lv_at hl 6 rfl) ?_
    refine lv_aload_n hx hb dX12_odds_87 rfl (lv_at hl 0 rfl) ?_
    refine lv_iload_n hx hb dX12_odds_88 rfl (lv_at hl 1 rfl) ?_
    refine lv_iload_n hx hb dX12_odds_89 rfl (lv_at hl 3 rfl) ?_
    obtain ⟨_, g5, hf⟩ := Option.bind_eq_some_iff.mp hf
    obtain ⟨v1, h2, e3, z4, hf⟩ := cN_spec hf
    refine k_Vi (As := [.int x1, .int x3]) (rest := [.int x6]) X I (c_X12_longOf l g o0 x1 x3 e3) z4 g5 vk_TrapCornerModel_345 tw_1684 ⟨Nat.le_trans (by decide) hR.1, Nat.le_trans (by decide) hR.2⟩ ⟨Nat.zero_le _, Nat.zero_le _⟩ rfl hl.1 rfl (Nat.le_of_ble_eq_true rfl) dX12_odds_90 (fun H locs I => ?_)
    refine lv_icmp_gt (tgt := 170) hx hb dX12_odds_93 (by decide) (fun c6 => ?_) (fun c6 => ?_)
    · rw [if_pos c6] at hf
      refine lv_iload hx hb dX12_odds_170 (lv_at hl 5 rfl) ?_
      cases hf
      exact k_ri X I hr dX12_odds_172
    · rw [if_neg c6] at hf
      refine lv_aload_n hx hb dX12_odds_96 rfl (lv_at hl 0 rfl) ?_
      refine lv_iload_n hx hb dX12_odds_97 rfl (lv_at hl 1 rfl) ?_
      refine lv_iload_n hx hb dX12_odds_98 rfl (lv_at hl 3 rfl) ?_
      refine lv_iload hx hb dX12_odds_99 (lv_at hl 6 rfl) ?_
      obtain ⟨_, g11, hf⟩ := Option.bind_eq_some_iff.mp hf
      obtain ⟨v7, h8, e9, z10, hf⟩ := cN_spec hf
      refine k_Vi (As := [.int x1, .int x3, .int x6]) (rest := []) X I (c_X12_cornerAt l g o0 x1 x3 x6 e9) z10 g11 vk_TrapCornerModel_348 tw_1688 ⟨Nat.le_trans (by decide) hR.1, Nat.le_trans (by decide) hR.2⟩ ⟨Nat.zero_le _, Nat.zero_le _⟩ rfl hl.1 rfl (Nat.le_of_ble_eq_true rfl) dX12_odds_101 (fun H locs I => ?_)
      refine lv_istore (lv' := [(7, .int v7), (0, .ref (rfG g o0)), (1, .int x1), (2, .int x2), (3, .int x3), (4, .int x4), (5, .int x5), (6, .int x6)]) hx hb dX12_odds_104 hl (by decide) rfl (fun ls hl => ?_)
      refine lv_aload_n hx hb dX12_odds_106 rfl (lv_at hl 1 rfl) ?_
      refine lv_aload_n hx hb dX12_odds_107 rfl (lv_at hl 1 rfl) ?_
      obtain ⟨v12, e13, hf⟩ := Option.bind_eq_some_iff.mp hf
      refine r_gR X I e13 lk_TrapCornerModel_64 dX12_odds_108 ?_
      refine lv_iload_n hx hb dX12_odds_111 rfl (lv_at hl 2 rfl) ?_
      refine lv_iload hx hb dX12_odds_112 (lv_at hl 0 rfl) ?_
      obtain ⟨_, g18, hf⟩ := Option.bind_eq_some_iff.mp hf
      obtain ⟨v14, h15, e16, z17, hf⟩ := cN_spec hf
      refine k_Vi (As := [.ref (rfG g v12), .int x1, .int v7]) (rest := []) X I (c_X12_isTrap l g o0 v12 x1 v7 e16) z17 g18 vk_TrapCornerModel_352 tw_1692 ⟨Nat.le_trans (by decide) hR.1, Nat.le_trans (by decide) hR.2⟩ ⟨Nat.zero_le _, Nat.zero_le _⟩ rfl hl.1 rfl (Nat.le_of_ble_eq_true rfl) dX12_odds_114 (fun H locs I => ?_)
      refine lv_if_eq (tgt := 164) hx hb dX12_odds_117 (by decide) (fun c19 => ?_) (fun c19 => ?_)
      · rw [if_pos c19] at hf
        exact w_X12_odds_164 X hR hr ih o0 x1 x2 x3 x4 x5 x6 h15 ls H locs hf I (lv_sub hl [1, 2, 3, 4, 5, 6, 7] rfl)
      · rw [if_neg c19] at hf
        refine lv_aload_n hx hb dX12_odds_120 rfl (lv_at hl 1 rfl) ?_
        refine lv_aload_n hx hb dX12_odds_121 rfl (lv_at hl 1 rfl) ?_
        obtain ⟨v20, e21, hf⟩ := Option.bind_eq_some_iff.mp hf
        refine r_gR X I e21 lk_TrapCornerModel_64 dX12_odds_122 ?_
        refine lv_iload_n hx hb dX12_odds_125 rfl (lv_at hl 2 rfl) ?_
        refine lv_iload hx hb dX12_odds_126 (lv_at hl 0 rfl) ?_
        obtain ⟨_, g26, hf⟩ := Option.bind_eq_some_iff.mp hf
        obtain ⟨v22, h23, e24, z25, hf⟩ := cN_spec hf
        refine k_Vi (As := [.ref (rfG g v20), .int x1, .int v7]) (rest := []) X I (c_X12_usesCane l g o0 v20 x1 v7 e24) z25 g26 vk_TrapCornerModel_356 tw_1714 ⟨Nat.le_trans (by decide) hR.1, Nat.le_trans (by decide) hR.2⟩ ⟨Nat.zero_le _, Nat.zero_le _⟩ rfl hl.1 rfl (Nat.le_of_ble_eq_true rfl) dX12_odds_128 (fun H locs I => ?_)
        refine lv_if_eq (tgt := 137) hx hb dX12_odds_131 (by decide) (fun c27 => ?_) (fun c27 => ?_)
        · rw [if_pos c27] at hf
          refine lv_iload hx hb dX12_odds_137 (lv_at hl 5 rfl) ?_
          refine lv_i2l hx hb dX12_odds_139 rfl ?_
          refine lv_iload_n hx hb dX12_odds_140 rfl (lv_at hl 3 rfl) ?_
          refine lv_i2l hx hb dX12_odds_141 rfl ?_
          refine lv_lmul hx hb dX12_odds_142 ?_
          refine lv_ldc2 (v := 100) hx hb X.2.2.2.1 (X.2.2.2.2.1 _ tw_1706) dX12_odds_143 ?_
          refine lv_ldiv hx hb dX12_odds_146 (by decide) ?_
          refine lv_l2i hx hb dX12_odds_147 rfl ?_
          refine lv_istore (lv' := [(8, .int ((((x4.toInt64) * (x2.toInt64)) / 100).toInt32)), (7, .int v7), (0, .ref (rfG g o0)), (1, .int x1), (2, .int x2), (3, .int x3), (4, .int x4), (5, .int x5), (6, .int x6)]) hx hb dX12_odds_148 hl (by decide) rfl (fun ls hl => ?_)
          refine lv_iload hx hb dX12_odds_150 (lv_at hl 7 rfl) ?_
          refine lv_iload hx hb dX12_odds_152 (lv_at hl 6 rfl) ?_
          refine lv_iload hx hb dX12_odds_154 (lv_at hl 0 rfl) ?_
          refine lv_isub hx hb dX12_odds_156 ?_
          refine lv_iadd hx hb dX12_odds_157 ?_
          refine lv_istore (lv' := [(5, .int (x5 + (x4 - ((((x4.toInt64) * (x2.toInt64)) / 100).toInt32)))), (8, .int ((((x4.toInt64) * (x2.toInt64)) / 100).toInt32)), (7, .int v7), (0, .ref (rfG g o0)), (1, .int x1), (2, .int x2), (3, .int x3), (4, .int x4), (6, .int x6)]) hx hb dX12_odds_158 hl (by decide) rfl (fun ls hl => ?_)
          refine lv_iload hx hb dX12_odds_160 (lv_at hl 1 rfl) ?_
          refine lv_istore (lv' := [(4, .int ((((x4.toInt64) * (x2.toInt64)) / 100).toInt32)), (5, .int (x5 + (x4 - ((((x4.toInt64) * (x2.toInt64)) / 100).toInt32)))), (8, .int ((((x4.toInt64) * (x2.toInt64)) / 100).toInt32)), (7, .int v7), (0, .ref (rfG g o0)), (1, .int x1), (2, .int x2), (3, .int x3), (6, .int x6)]) hx hb dX12_odds_162 hl (by decide) rfl (fun ls hl => ?_)
          exact w_X12_odds_164 X hR hr ih o0 x1 x2 x3 ((((x4.toInt64) * (x2.toInt64)) / 100).toInt32) (x5 + (x4 - ((((x4.toInt64) * (x2.toInt64)) / 100).toInt32))) x6 h23 ls H locs hf I (lv_sub hl [4, 5, 6, 7, 0, 1, 8] rfl)
        · rw [if_neg c27] at hf
          refine lv_goto (tgt := 164) hx hb dX12_odds_134 (by decide) ?_
          exact w_X12_odds_164 X hR hr ih o0 x1 x2 x3 x4 x5 x6 h23 ls H locs hf I (lv_sub hl [1, 2, 3, 4, 5, 6, 7] rfl)
def f_X12_odds_44  : Nat → Nat → Int32 → Int32 → Int32 → AH → Option (Int32 × AH)
  | 0, _, _, _, _, _ => none
  | n + 1, o0, x1, x2, x3, h =>
  if x1 ≤ x3 then
    (gR [12] h o0 32).bind fun v2 =>
    cN (f_X12_folk v2 x1 2 h) h fun v4 h5 =>
    f_X12_odds_85 fu o0 x1 x2 v4 1000000000 0 1 h5
  else
    (gR [12] h o0 33).bind fun v8 =>
    (isC [12] h o0).bind fun _ =>
    cN (f_X12_goWalk o0 v8 x3 h) h fun _ h11 =>
    f_X12_odds_44  n o0 x1 x2 (x3 + 1) h11
set_option maxHeartbeats 1000000 in
theorem w_X12_odds_44 (X : Cx g p s m args meth c cX12_odds 9 "TrapCornerModel") (hR : 93 ≤ R.frames ∧ 5952 ≤ R.locals) (hr : meth.sig.returnType = (some (.int))) {res : Int32 × AH} : ∀ (n : Nat) (o0 : Nat) (x1 : Int32) (x2 : Int32) (x3 : Int32) (h : AH) (ls : Array Slot) (H : Heap) (locs : List Loc), f_X12_odds_44 n o0 x1 x2 x3 h = some res → Iv g s n0 z0 h H locs 0 0 → lv_has ls 9 [(0, .ref (rfG g o0)), (1, .int x1), (2, .int x2), (3, .int x3)] → W p l e R s m args below meth c H locs 0 0 (MQ below (QG g (some (.int res.1)) res.2) args s 0 0 (AG g)) (F0 m 44 ls []) := by
  have hx := X.1
  have hb := X.2.1
  intro n
  induction n with
  | zero =>
    intro o0 x1 x2 x3 h ls H locs hf
    rw [f_X12_odds_44.eq_1] at hf
    cases hf
  | succ n ih =>
    intro o0 x1 x2 x3 h ls H locs hf I hl
    rw [f_X12_odds_44.eq_2] at hf
    refine lv_iload_n hx hb dX12_odds_44 rfl (lv_at hl 3 rfl) ?_
    refine lv_iload_n hx hb dX12_odds_45 rfl (lv_at hl 1 rfl) ?_
    refine lv_icmp_ge (tgt := 64) hx hb dX12_odds_46 (by decide) (fun c1 => ?_) (fun c1 => ?_)
    · rw [if_pos c1] at hf
      refine lv_aload_n hx hb dX12_odds_64 rfl (lv_at hl 0 rfl) ?_
      obtain ⟨v2, e3, hf⟩ := Option.bind_eq_some_iff.mp hf
      refine r_gR X I e3 lk_TrapCornerModel_61 dX12_odds_65 ?_
      refine lv_iload_n hx hb dX12_odds_68 rfl (lv_at hl 1 rfl) ?_
      refine lv_iconst (v := 2) hx hb dX12_odds_69 (by decide) ?_
      obtain ⟨v4, h5, e6, z7, hf⟩ := cN_spec hf
      refine k_Si (As := [.ref (rfG g v2), .int x1, .int 2]) (rest := []) X I (c_X12_folk l g v2 x1 2 e6) z7 sk_TrapCornerModel_328 tw_1647 ⟨Nat.le_trans (by decide) hR.1, Nat.le_trans (by decide) hR.2⟩ ⟨Nat.zero_le _, Nat.zero_le _⟩ rfl hl.1 rfl (Nat.le_of_ble_eq_true rfl) dX12_odds_70 (fun H locs I => ?_)
      refine lv_istore_n (lv' := [(3, .int v4), (0, .ref (rfG g o0)), (1, .int x1), (2, .int x2)]) hx hb dX12_odds_73 rfl hl (by decide) rfl (fun ls hl => ?_)
      refine lv_ldcw (v := 1000000000) hx hb X.2.2.2.1 (X.2.2.2.2.1 _ tw_1883) dX12_odds_74 ?_
      refine lv_istore (lv' := [(4, .int 1000000000), (3, .int v4), (0, .ref (rfG g o0)), (1, .int x1), (2, .int x2)]) hx hb dX12_odds_77 hl (by decide) rfl (fun ls hl => ?_)
      refine lv_iconst (v := 0) hx hb dX12_odds_79 (by decide) ?_
      refine lv_istore (lv' := [(5, .int 0), (4, .int 1000000000), (3, .int v4), (0, .ref (rfG g o0)), (1, .int x1), (2, .int x2)]) hx hb dX12_odds_80 hl (by decide) rfl (fun ls hl => ?_)
      refine lv_iconst (v := 1) hx hb dX12_odds_82 (by decide) ?_
      refine lv_istore (lv' := [(6, .int 1), (5, .int 0), (4, .int 1000000000), (3, .int v4), (0, .ref (rfG g o0)), (1, .int x1), (2, .int x2)]) hx hb dX12_odds_83 hl (by decide) rfl (fun ls hl => ?_)
      exact w_X12_odds_85 X hR hr fu o0 x1 x2 v4 1000000000 0 1 h5 ls H locs hf I (lv_sub hl [4, 5, 6, 3, 2, 1, 0] rfl)
    · rw [if_neg c1] at hf
      refine lv_aload_n hx hb dX12_odds_49 rfl (lv_at hl 0 rfl) ?_
      refine lv_aload_n hx hb dX12_odds_50 rfl (lv_at hl 0 rfl) ?_
      obtain ⟨v8, e9, hf⟩ := Option.bind_eq_some_iff.mp hf
      refine r_gR X I e9 lk_TrapCornerModel_64 dX12_odds_51 ?_
      refine lv_iload_n hx hb dX12_odds_54 rfl (lv_at hl 3 rfl) ?_
      obtain ⟨_, g14, hf⟩ := Option.bind_eq_some_iff.mp hf
      obtain ⟨⟨⟩, h11, e12, z13, hf⟩ := cN_spec hf
      refine k_Vv (As := [.ref (rfG g v8), .int x3]) (rest := []) X I (c_X12_goWalk l g o0 v8 x3 e12) z13 g14 vk_TrapCornerModel_368 tw_1680 ⟨Nat.le_trans (by decide) hR.1, Nat.le_trans (by decide) hR.2⟩ ⟨Nat.zero_le _, Nat.zero_le _⟩ rfl hl.1 rfl (Nat.le_of_ble_eq_true rfl) dX12_odds_55 (fun H locs I => ?_)
      refine lv_iinc (v := x3 + 1) (lv' := [(3, .int (x3 + 1)), (0, .ref (rfG g o0)), (1, .int x1), (2, .int x2)]) hx hb dX12_odds_58 hl (k := 3) rfl rfl (by decide) rfl (fun ls hl => ?_)
      refine lv_goto (tgt := 44) hx hb dX12_odds_61 (by decide) ?_
      exact ih o0 x1 x2 (x3 + 1) h11 ls H locs hf I (lv_sub hl [1, 2, 3, 0] rfl)
def f_X12_odds_0  (o0 : Nat) (x1 : Int32) (x2 : Int32) (h : AH) : Option (Int32 × AH) :=
  (pV [12] h o0 0 (.int 0)).bind fun h1 =>
  (isC [12] h1 o0).bind fun _ =>
  cN (f_X12_isPerson o0 x1 h1) h1 fun v3 h4 =>
  if v3 = 0 then
    some ((-1), h4)
  else
    cN (f_X12_isIn (x2.toInt64) 0 100 h4) h4 fun v9 h10 =>
    if v9 = 0 then
      some ((-1), h10)
    else
      (gR [12] h10 o0 32).bind fun v14 =>
      (gR [12] h10 o0 33).bind fun v16 =>
      cN (f_X12_copy v14 v16 h10) h10 fun _ h19 =>
      (isC [12] h19 o0).bind fun _ =>
      cN (f_X12_beginsDay o0 h19) h19 fun _ h23 =>
      f_X12_odds_44 fu o0 x1 x2 0 h23
set_option maxHeartbeats 1000000 in
theorem w_X12_odds_0 (X : Cx g p s m args meth c cX12_odds 9 "TrapCornerModel") (hR : 93 ≤ R.frames ∧ 5952 ≤ R.locals) (hr : meth.sig.returnType = (some (.int))) {res : Int32 × AH} : ∀ (o0 : Nat) (x1 : Int32) (x2 : Int32) (h : AH) (ls : Array Slot) (H : Heap) (locs : List Loc), f_X12_odds_0 o0 x1 x2 h = some res → Iv g s n0 z0 h H locs 0 0 → lv_has ls 9 [(0, .ref (rfG g o0)), (1, .int x1), (2, .int x2)] → W p l e R s m args below meth c H locs 0 0 (MQ below (QG g (some (.int res.1)) res.2) args s 0 0 (AG g)) (F0 m 0 ls []) := by
  have hx := X.1
  have hb := X.2.1
  intro o0 x1 x2 h ls H locs hf I hl
  unfold f_X12_odds_0 at hf
  refine lv_aload_n hx hb dX12_odds_0 rfl (lv_at hl 0 rfl) ?_
  refine lv_iconst (v := 0) hx hb dX12_odds_1 (by decide) ?_
  obtain ⟨h1, e2, hf⟩ := Option.bind_eq_some_iff.mp hf
  refine r_pI X I e2 lp_TrapCornerModel_96 dX12_odds_2 (fun H locs I => ?_)
  refine lv_aload_n hx hb dX12_odds_5 rfl (lv_at hl 0 rfl) ?_
  refine lv_iload_n hx hb dX12_odds_6 rfl (lv_at hl 1 rfl) ?_
  obtain ⟨_, g7, hf⟩ := Option.bind_eq_some_iff.mp hf
  obtain ⟨v3, h4, e5, z6, hf⟩ := cN_spec hf
  refine k_Vi (As := [.int x1]) (rest := []) X I (c_X12_isPerson l g o0 x1 e5) z6 g7 vk_TrapCornerModel_383 tw_1643 ⟨Nat.le_trans (by decide) hR.1, Nat.le_trans (by decide) hR.2⟩ ⟨Nat.zero_le _, Nat.zero_le _⟩ rfl hl.1 rfl (Nat.le_of_ble_eq_true rfl) dX12_odds_7 (fun H locs I => ?_)
  refine lv_if_eq (tgt := 25) hx hb dX12_odds_10 (by decide) (fun c8 => ?_) (fun c8 => ?_)
  · rw [if_pos c8] at hf
    refine lv_iconst (v := (-1)) hx hb dX12_odds_25 (by decide) ?_
    cases hf
    exact k_ri X I hr dX12_odds_26
  · rw [if_neg c8] at hf
    refine lv_iload_n hx hb dX12_odds_13 rfl (lv_at hl 2 rfl) ?_
    refine lv_i2l hx hb dX12_odds_14 rfl ?_
    refine lv_lconst (v := 0) hx hb dX12_odds_15 (by decide) ?_
    refine lv_ldc2 (v := 100) hx hb X.2.2.2.1 (X.2.2.2.2.1 _ tw_1706) dX12_odds_16 ?_
    obtain ⟨v9, h10, e11, z12, hf⟩ := cN_spec hf
    refine k_Si (As := [.long (x2.toInt64), .long 0, .long 100]) (rest := []) X I (c_X12_isIn l g (x2.toInt64) 0 100 e11) z12 sk_TrapCornerModel_217 tw_1465 ⟨Nat.le_trans (by decide) hR.1, Nat.le_trans (by decide) hR.2⟩ ⟨Nat.zero_le _, Nat.zero_le _⟩ rfl hl.1 rfl (Nat.le_of_ble_eq_true rfl) dX12_odds_19 (fun H locs I => ?_)
    refine lv_if_ne (tgt := 27) hx hb dX12_odds_22 (by decide) (fun c13 => ?_) (fun c13 => ?_)
    · rw [if_neg c13] at hf
      refine lv_aload_n hx hb dX12_odds_27 rfl (lv_at hl 0 rfl) ?_
      obtain ⟨v14, e15, hf⟩ := Option.bind_eq_some_iff.mp hf
      refine r_gR X I e15 lk_TrapCornerModel_61 dX12_odds_28 ?_
      refine lv_aload_n hx hb dX12_odds_31 rfl (lv_at hl 0 rfl) ?_
      obtain ⟨v16, e17, hf⟩ := Option.bind_eq_some_iff.mp hf
      refine r_gR X I e17 lk_TrapCornerModel_64 dX12_odds_32 ?_
      obtain ⟨⟨⟩, h19, e20, z21, hf⟩ := cN_spec hf
      refine k_Sv (As := [.ref (rfG g v14), .ref (rfG g v16)]) (rest := []) X I (c_X12_copy l g v14 v16 e20) z21 sk_TrapCornerModel_372 tw_1793 ⟨Nat.le_trans (by decide) hR.1, Nat.le_trans (by decide) hR.2⟩ ⟨Nat.zero_le _, Nat.zero_le _⟩ rfl hl.1 rfl (Nat.le_of_ble_eq_true rfl) dX12_odds_35 (fun H locs I => ?_)
      refine lv_aload_n hx hb dX12_odds_38 rfl (lv_at hl 0 rfl) ?_
      obtain ⟨_, g26, hf⟩ := Option.bind_eq_some_iff.mp hf
      obtain ⟨⟨⟩, h23, e24, z25, hf⟩ := cN_spec hf
      refine k_Vv (As := []) (rest := []) X I (c_X12_beginsDay l g o0 e24) z25 g26 vk_TrapCornerModel_365 tw_1676 ⟨Nat.le_trans (by decide) hR.1, Nat.le_trans (by decide) hR.2⟩ ⟨Nat.zero_le _, Nat.zero_le _⟩ rfl hl.1 rfl (Nat.le_of_ble_eq_true rfl) dX12_odds_39 (fun H locs I => ?_)
      refine lv_iconst (v := 0) hx hb dX12_odds_42 (by decide) ?_
      refine lv_istore_n (lv' := [(3, .int 0), (0, .ref (rfG g o0)), (1, .int x1), (2, .int x2)]) hx hb dX12_odds_43 rfl hl (by decide) rfl (fun ls hl => ?_)
      exact w_X12_odds_44 X hR hr fu o0 x1 x2 0 h23 ls H locs hf I (lv_sub hl [1, 2, 3, 0] rfl)
    · rw [if_pos c13] at hf
      refine lv_iconst (v := (-1)) hx hb dX12_odds_25 (by decide) ?_
      cases hf
      exact k_ri X I hr dX12_odds_26
def f_X12_odds (o0 : Nat) (x1 : Int32) (x2 : Int32) (h : AH) : Option (Int32 × AH) := f_X12_odds_0 o0 x1 x2 h
end
theorem c_X12_odds (l : Launch) (g : GG) (o0 : Nat) (x1 : Int32) (x2 : Int32) {h : AH} {res : Int32 × AH} (hf : f_X12_odds o0 x1 x2 h = some res) : CM l g yX12_odds cX12_odds 9 (some (.int)) 93 5952 0 0 [.ref (rfG g o0), .int x1, .int x2] h (some (.int res.1)) res.2 :=
  k_body (by decide) (Nat.le_of_ble_eq_true rfl) (fun p e s m below meth c R ls hR hr X I hl => w_X12_odds_0 X ⟨Nat.le_of_eq hR.1.symm, Nat.le_of_eq hR.2.1.symm⟩ hr o0 x1 x2 h ls s.heap [] hf I (lv_sub hl [0, 1, 2] rfl))
/-! TrapCornerModel.lasts(I)I -/
theorem dX12_lasts_0 : decode cX12_lasts 0 = .ok (.aload_n 0, 1) := by decide +kernel
theorem dX12_lasts_1 : decode cX12_lasts 1 = .ok (.iconst 0, 1) := by decide +kernel
theorem dX12_lasts_2 : decode cX12_lasts 2 = .ok (.putfield 96, 3) := by decide +kernel
theorem dX12_lasts_5 : decode cX12_lasts 5 = .ok (.aload_n 0, 1) := by decide +kernel
theorem dX12_lasts_6 : decode cX12_lasts 6 = .ok (.iload_n 1, 1) := by decide +kernel
theorem dX12_lasts_7 : decode cX12_lasts 7 = .ok (.invokevirtual 380, 3) := by decide +kernel
theorem dX12_lasts_10 : decode cX12_lasts 10 = .ok (.ifCond .ne 5, 3) := by decide +kernel
theorem dX12_lasts_13 : decode cX12_lasts 13 = .ok (.iconst (-1), 1) := by decide +kernel
theorem dX12_lasts_14 : decode cX12_lasts 14 = .ok (.ireturn, 1) := by decide +kernel
theorem dX12_lasts_15 : decode cX12_lasts 15 = .ok (.aload_n 0, 1) := by decide +kernel
theorem dX12_lasts_16 : decode cX12_lasts 16 = .ok (.getfield 61, 3) := by decide +kernel
theorem dX12_lasts_19 : decode cX12_lasts 19 = .ok (.aload_n 0, 1) := by decide +kernel
theorem dX12_lasts_20 : decode cX12_lasts 20 = .ok (.getfield 64, 3) := by decide +kernel
theorem dX12_lasts_23 : decode cX12_lasts 23 = .ok (.invokestatic 372, 3) := by decide +kernel
theorem dX12_lasts_26 : decode cX12_lasts 26 = .ok (.iconst 0, 1) := by decide +kernel
theorem dX12_lasts_27 : decode cX12_lasts 27 = .ok (.istore_n 2, 1) := by decide +kernel
theorem dX12_lasts_28 : decode cX12_lasts 28 = .ok (.iload_n 2, 1) := by decide +kernel
theorem dX12_lasts_29 : decode cX12_lasts 29 = .ok (.bipush 60, 2) := by decide +kernel
theorem dX12_lasts_31 : decode cX12_lasts 31 = .ok (.if_icmp .gt 33, 3) := by decide +kernel
theorem dX12_lasts_34 : decode cX12_lasts 34 = .ok (.aload_n 0, 1) := by decide +kernel
theorem dX12_lasts_35 : decode cX12_lasts 35 = .ok (.getfield 64, 3) := by decide +kernel
theorem dX12_lasts_38 : decode cX12_lasts 38 = .ok (.iconst 2, 1) := by decide +kernel
theorem dX12_lasts_39 : decode cX12_lasts 39 = .ok (.iload_n 1, 1) := by decide +kernel
theorem dX12_lasts_40 : decode cX12_lasts 40 = .ok (.imul, 1) := by decide +kernel
theorem dX12_lasts_41 : decode cX12_lasts 41 = .ok (.iconst 1, 1) := by decide +kernel
theorem dX12_lasts_42 : decode cX12_lasts 42 = .ok (.iadd, 1) := by decide +kernel
theorem dX12_lasts_43 : decode cX12_lasts 43 = .ok (.iaload, 1) := by decide +kernel
theorem dX12_lasts_44 : decode cX12_lasts 44 = .ok (.ifCond .ne 5, 3) := by decide +kernel
theorem dX12_lasts_47 : decode cX12_lasts 47 = .ok (.iload_n 2, 1) := by decide +kernel
theorem dX12_lasts_48 : decode cX12_lasts 48 = .ok (.ireturn, 1) := by decide +kernel
theorem dX12_lasts_49 : decode cX12_lasts 49 = .ok (.aload_n 0, 1) := by decide +kernel
theorem dX12_lasts_50 : decode cX12_lasts 50 = .ok (.aload_n 0, 1) := by decide +kernel
theorem dX12_lasts_51 : decode cX12_lasts 51 = .ok (.getfield 64, 3) := by decide +kernel
theorem dX12_lasts_54 : decode cX12_lasts 54 = .ok (.invokevirtual 376, 3) := by decide +kernel
theorem dX12_lasts_57 : decode cX12_lasts 57 = .ok (.istore_n 3, 1) := by decide +kernel
theorem dX12_lasts_58 : decode cX12_lasts 58 = .ok (.iinc 2 1, 3) := by decide +kernel
theorem dX12_lasts_61 : decode cX12_lasts 61 = .ok (.goto (-33), 3) := by decide +kernel
theorem dX12_lasts_64 : decode cX12_lasts 64 = .ok (.iconst (-1), 1) := by decide +kernel
theorem dX12_lasts_65 : decode cX12_lasts 65 = .ok (.ireturn, 1) := by decide +kernel
section
variable {g : GG} {p : Program} {l : Launch} {e : Env} {R : Room} {s : State} {m : MethodId} {args : Array Value} {below : List Frame} {meth : Method} {c : Code} {n0 z0 : Nat}
def f_X12_lasts_28  : Nat → Nat → Int32 → Int32 → AH → Option (Int32 × AH)
  | 0, _, _, _, _ => none
  | n + 1, o0, x1, x2, h =>
  if 60 < x2 then
    some ((-1), h)
  else
    (gR [12] h o0 33).bind fun v2 =>
    (aI 0 h v2 ((2 * x1) + 1)).bind fun v4 =>
    if v4 = 0 then
      some (x2, h)
    else
      (gR [12] h o0 33).bind fun v7 =>
      (isC [12] h o0).bind fun _ =>
      cN (f_X12_goDay o0 v7 h) h fun v9 h10 =>
      f_X12_lasts_28  n o0 x1 (x2 + 1) h10
set_option maxHeartbeats 1000000 in
theorem w_X12_lasts_28 (X : Cx g p s m args meth c cX12_lasts 4 "TrapCornerModel") (hR : 94 ≤ R.frames ∧ 6016 ≤ R.locals) (hr : meth.sig.returnType = (some (.int))) {res : Int32 × AH} : ∀ (n : Nat) (o0 : Nat) (x1 : Int32) (x2 : Int32) (h : AH) (ls : Array Slot) (H : Heap) (locs : List Loc), f_X12_lasts_28 n o0 x1 x2 h = some res → Iv g s n0 z0 h H locs 0 0 → lv_has ls 4 [(0, .ref (rfG g o0)), (1, .int x1), (2, .int x2)] → W p l e R s m args below meth c H locs 0 0 (MQ below (QG g (some (.int res.1)) res.2) args s 0 0 (AG g)) (F0 m 28 ls []) := by
  have hx := X.1
  have hb := X.2.1
  intro n
  induction n with
  | zero =>
    intro o0 x1 x2 h ls H locs hf
    rw [f_X12_lasts_28.eq_1] at hf
    cases hf
  | succ n ih =>
    intro o0 x1 x2 h ls H locs hf I hl
    rw [f_X12_lasts_28.eq_2] at hf
    refine lv_iload_n hx hb dX12_lasts_28 rfl (lv_at hl 2 rfl) ?_
    refine lv_bipush (v := 60) hx hb dX12_lasts_29 (by decide) ?_
    refine lv_icmp_gt (tgt := 64) hx hb dX12_lasts_31 (by decide) (fun c1 => ?_) (fun c1 => ?_)
    · rw [if_pos c1] at hf
      refine lv_iconst (v := (-1)) hx hb dX12_lasts_64 (by decide) ?_
      cases hf
      exact k_ri X I hr dX12_lasts_65
    · rw [if_neg c1] at hf
      refine lv_aload_n hx hb dX12_lasts_34 rfl (lv_at hl 0 rfl) ?_
      obtain ⟨v2, e3, hf⟩ := Option.bind_eq_some_iff.mp hf
      refine r_gR X I e3 lk_TrapCornerModel_64 dX12_lasts_35 ?_
      refine lv_iconst (v := 2) hx hb dX12_lasts_38 (by decide) ?_
      refine lv_iload_n hx hb dX12_lasts_39 rfl (lv_at hl 1 rfl) ?_
      refine lv_imul hx hb dX12_lasts_40 ?_
      refine lv_iconst (v := 1) hx hb dX12_lasts_41 (by decide) ?_
      refine lv_iadd hx hb dX12_lasts_42 ?_
      obtain ⟨v4, e5, hf⟩ := Option.bind_eq_some_iff.mp hf
      refine r_aI0 X I e5 dX12_lasts_43 ?_
      refine lv_if_ne (tgt := 49) hx hb dX12_lasts_44 (by decide) (fun c6 => ?_) (fun c6 => ?_)
      · rw [if_neg c6] at hf
        refine lv_aload_n hx hb dX12_lasts_49 rfl (lv_at hl 0 rfl) ?_
        refine lv_aload_n hx hb dX12_lasts_50 rfl (lv_at hl 0 rfl) ?_
        obtain ⟨v7, e8, hf⟩ := Option.bind_eq_some_iff.mp hf
        refine r_gR X I e8 lk_TrapCornerModel_64 dX12_lasts_51 ?_
        obtain ⟨_, g13, hf⟩ := Option.bind_eq_some_iff.mp hf
        obtain ⟨v9, h10, e11, z12, hf⟩ := cN_spec hf
        refine k_Vi (As := [.ref (rfG g v7)]) (rest := []) X I (c_X12_goDay l g o0 v7 e11) z12 g13 vk_TrapCornerModel_376 tw_1672 ⟨Nat.le_trans (by decide) hR.1, Nat.le_trans (by decide) hR.2⟩ ⟨Nat.zero_le _, Nat.zero_le _⟩ rfl hl.1 rfl (Nat.le_of_ble_eq_true rfl) dX12_lasts_54 (fun H locs I => ?_)
        refine lv_istore_n (lv' := [(3, .int v9), (0, .ref (rfG g o0)), (1, .int x1), (2, .int x2)]) hx hb dX12_lasts_57 rfl hl (by decide) rfl (fun ls hl => ?_)
        refine lv_iinc (v := x2 + 1) (lv' := [(2, .int (x2 + 1)), (3, .int v9), (0, .ref (rfG g o0)), (1, .int x1)]) hx hb dX12_lasts_58 hl (k := 3) rfl rfl (by decide) rfl (fun ls hl => ?_)
        refine lv_goto (tgt := 28) hx hb dX12_lasts_61 (by decide) ?_
        exact ih o0 x1 (x2 + 1) h10 ls H locs hf I (lv_sub hl [2, 3, 0] rfl)
      · rw [if_pos c6] at hf
        refine lv_iload_n hx hb dX12_lasts_47 rfl (lv_at hl 2 rfl) ?_
        cases hf
        exact k_ri X I hr dX12_lasts_48
def f_X12_lasts_0  (o0 : Nat) (x1 : Int32) (h : AH) : Option (Int32 × AH) :=
  (pV [12] h o0 0 (.int 0)).bind fun h1 =>
  (isC [12] h1 o0).bind fun _ =>
  cN (f_X12_isCorner o0 x1 h1) h1 fun v3 h4 =>
  if v3 = 0 then
    some ((-1), h4)
  else
    (gR [12] h4 o0 32).bind fun v9 =>
    (gR [12] h4 o0 33).bind fun v11 =>
    cN (f_X12_copy v9 v11 h4) h4 fun _ h14 =>
    f_X12_lasts_28 fu o0 x1 0 h14
set_option maxHeartbeats 1000000 in
theorem w_X12_lasts_0 (X : Cx g p s m args meth c cX12_lasts 4 "TrapCornerModel") (hR : 94 ≤ R.frames ∧ 6016 ≤ R.locals) (hr : meth.sig.returnType = (some (.int))) {res : Int32 × AH} : ∀ (o0 : Nat) (x1 : Int32) (h : AH) (ls : Array Slot) (H : Heap) (locs : List Loc), f_X12_lasts_0 o0 x1 h = some res → Iv g s n0 z0 h H locs 0 0 → lv_has ls 4 [(0, .ref (rfG g o0)), (1, .int x1)] → W p l e R s m args below meth c H locs 0 0 (MQ below (QG g (some (.int res.1)) res.2) args s 0 0 (AG g)) (F0 m 0 ls []) := by
  have hx := X.1
  have hb := X.2.1
  intro o0 x1 h ls H locs hf I hl
  unfold f_X12_lasts_0 at hf
  refine lv_aload_n hx hb dX12_lasts_0 rfl (lv_at hl 0 rfl) ?_
  refine lv_iconst (v := 0) hx hb dX12_lasts_1 (by decide) ?_
  obtain ⟨h1, e2, hf⟩ := Option.bind_eq_some_iff.mp hf
  refine r_pI X I e2 lp_TrapCornerModel_96 dX12_lasts_2 (fun H locs I => ?_)
  refine lv_aload_n hx hb dX12_lasts_5 rfl (lv_at hl 0 rfl) ?_
  refine lv_iload_n hx hb dX12_lasts_6 rfl (lv_at hl 1 rfl) ?_
  obtain ⟨_, g7, hf⟩ := Option.bind_eq_some_iff.mp hf
  obtain ⟨v3, h4, e5, z6, hf⟩ := cN_spec hf
  refine k_Vi (As := [.int x1]) (rest := []) X I (c_X12_isCorner l g o0 x1 e5) z6 g7 vk_TrapCornerModel_380 tw_1635 ⟨Nat.le_trans (by decide) hR.1, Nat.le_trans (by decide) hR.2⟩ ⟨Nat.zero_le _, Nat.zero_le _⟩ rfl hl.1 rfl (Nat.le_of_ble_eq_true rfl) dX12_lasts_7 (fun H locs I => ?_)
  refine lv_if_ne (tgt := 15) hx hb dX12_lasts_10 (by decide) (fun c8 => ?_) (fun c8 => ?_)
  · rw [if_neg c8] at hf
    refine lv_aload_n hx hb dX12_lasts_15 rfl (lv_at hl 0 rfl) ?_
    obtain ⟨v9, e10, hf⟩ := Option.bind_eq_some_iff.mp hf
    refine r_gR X I e10 lk_TrapCornerModel_61 dX12_lasts_16 ?_
    refine lv_aload_n hx hb dX12_lasts_19 rfl (lv_at hl 0 rfl) ?_
    obtain ⟨v11, e12, hf⟩ := Option.bind_eq_some_iff.mp hf
    refine r_gR X I e12 lk_TrapCornerModel_64 dX12_lasts_20 ?_
    obtain ⟨⟨⟩, h14, e15, z16, hf⟩ := cN_spec hf
    refine k_Sv (As := [.ref (rfG g v9), .ref (rfG g v11)]) (rest := []) X I (c_X12_copy l g v9 v11 e15) z16 sk_TrapCornerModel_372 tw_1793 ⟨Nat.le_trans (by decide) hR.1, Nat.le_trans (by decide) hR.2⟩ ⟨Nat.zero_le _, Nat.zero_le _⟩ rfl hl.1 rfl (Nat.le_of_ble_eq_true rfl) dX12_lasts_23 (fun H locs I => ?_)
    refine lv_iconst (v := 0) hx hb dX12_lasts_26 (by decide) ?_
    refine lv_istore_n (lv' := [(2, .int 0), (0, .ref (rfG g o0)), (1, .int x1)]) hx hb dX12_lasts_27 rfl hl (by decide) rfl (fun ls hl => ?_)
    exact w_X12_lasts_28 X hR hr fu o0 x1 0 h14 ls H locs hf I (lv_sub hl [1, 2, 0] rfl)
  · rw [if_pos c8] at hf
    refine lv_iconst (v := (-1)) hx hb dX12_lasts_13 (by decide) ?_
    cases hf
    exact k_ri X I hr dX12_lasts_14
def f_X12_lasts (o0 : Nat) (x1 : Int32) (h : AH) : Option (Int32 × AH) := f_X12_lasts_0 o0 x1 h
end
theorem c_X12_lasts (l : Launch) (g : GG) (o0 : Nat) (x1 : Int32) {h : AH} {res : Int32 × AH} (hf : f_X12_lasts o0 x1 h = some res) : CM l g yX12_lasts cX12_lasts 4 (some (.int)) 94 6016 0 0 [.ref (rfG g o0), .int x1] h (some (.int res.1)) res.2 :=
  k_body (by decide) (Nat.le_of_ble_eq_true rfl) (fun p e s m below meth c R ls hR hr X I hl => w_X12_lasts_0 X ⟨Nat.le_of_eq hR.1.symm, Nat.le_of_eq hR.2.1.symm⟩ hr o0 x1 h ls s.heap [] hf I (lv_sub hl [0, 1] rfl))
/-! TrapCornerModel.yearly(I)I -/
theorem dX12_yearly_0 : decode cX12_yearly 0 = .ok (.aload_n 0, 1) := by decide +kernel
theorem dX12_yearly_1 : decode cX12_yearly 1 = .ok (.iconst 0, 1) := by decide +kernel
theorem dX12_yearly_2 : decode cX12_yearly 2 = .ok (.putfield 96, 3) := by decide +kernel
theorem dX12_yearly_5 : decode cX12_yearly 5 = .ok (.aload_n 0, 1) := by decide +kernel
theorem dX12_yearly_6 : decode cX12_yearly 6 = .ok (.iload_n 1, 1) := by decide +kernel
theorem dX12_yearly_7 : decode cX12_yearly 7 = .ok (.invokevirtual 383, 3) := by decide +kernel
theorem dX12_yearly_10 : decode cX12_yearly 10 = .ok (.ifCond .ne 5, 3) := by decide +kernel
theorem dX12_yearly_13 : decode cX12_yearly 13 = .ok (.iconst (-1), 1) := by decide +kernel
theorem dX12_yearly_14 : decode cX12_yearly 14 = .ok (.ireturn, 1) := by decide +kernel
theorem dX12_yearly_15 : decode cX12_yearly 15 = .ok (.aload_n 0, 1) := by decide +kernel
theorem dX12_yearly_16 : decode cX12_yearly 16 = .ok (.getfield 61, 3) := by decide +kernel
theorem dX12_yearly_19 : decode cX12_yearly 19 = .ok (.aload_n 0, 1) := by decide +kernel
theorem dX12_yearly_20 : decode cX12_yearly 20 = .ok (.getfield 64, 3) := by decide +kernel
theorem dX12_yearly_23 : decode cX12_yearly 23 = .ok (.invokestatic 372, 3) := by decide +kernel
theorem dX12_yearly_26 : decode cX12_yearly 26 = .ok (.iconst 0, 1) := by decide +kernel
theorem dX12_yearly_27 : decode cX12_yearly 27 = .ok (.istore_n 2, 1) := by decide +kernel
theorem dX12_yearly_28 : decode cX12_yearly 28 = .ok (.iconst 0, 1) := by decide +kernel
theorem dX12_yearly_29 : decode cX12_yearly 29 = .ok (.istore_n 3, 1) := by decide +kernel
theorem dX12_yearly_30 : decode cX12_yearly 30 = .ok (.iload_n 3, 1) := by decide +kernel
theorem dX12_yearly_31 : decode cX12_yearly 31 = .ok (.bipush 30, 2) := by decide +kernel
theorem dX12_yearly_33 : decode cX12_yearly 33 = .ok (.if_icmp .ge 24, 3) := by decide +kernel
theorem dX12_yearly_36 : decode cX12_yearly 36 = .ok (.iload_n 2, 1) := by decide +kernel
theorem dX12_yearly_37 : decode cX12_yearly 37 = .ok (.aload_n 0, 1) := by decide +kernel
theorem dX12_yearly_38 : decode cX12_yearly 38 = .ok (.aload_n 0, 1) := by decide +kernel
theorem dX12_yearly_39 : decode cX12_yearly 39 = .ok (.getfield 64, 3) := by decide +kernel
theorem dX12_yearly_42 : decode cX12_yearly 42 = .ok (.invokevirtual 376, 3) := by decide +kernel
theorem dX12_yearly_45 : decode cX12_yearly 45 = .ok (.iload_n 1, 1) := by decide +kernel
theorem dX12_yearly_46 : decode cX12_yearly 46 = .ok (.ishr, 1) := by decide +kernel
theorem dX12_yearly_47 : decode cX12_yearly 47 = .ok (.iconst 1, 1) := by decide +kernel
theorem dX12_yearly_48 : decode cX12_yearly 48 = .ok (.iand, 1) := by decide +kernel
theorem dX12_yearly_49 : decode cX12_yearly 49 = .ok (.iadd, 1) := by decide +kernel
theorem dX12_yearly_50 : decode cX12_yearly 50 = .ok (.istore_n 2, 1) := by decide +kernel
theorem dX12_yearly_51 : decode cX12_yearly 51 = .ok (.iinc 3 1, 3) := by decide +kernel
theorem dX12_yearly_54 : decode cX12_yearly 54 = .ok (.goto (-24), 3) := by decide +kernel
theorem dX12_yearly_57 : decode cX12_yearly 57 = .ok (.iload_n 2, 1) := by decide +kernel
theorem dX12_yearly_58 : decode cX12_yearly 58 = .ok (.ireturn, 1) := by decide +kernel
section
variable {g : GG} {p : Program} {l : Launch} {e : Env} {R : Room} {s : State} {m : MethodId} {args : Array Value} {below : List Frame} {meth : Method} {c : Code} {n0 z0 : Nat}
def f_X12_yearly_30  : Nat → Nat → Int32 → Int32 → Int32 → AH → Option (Int32 × AH)
  | 0, _, _, _, _, _ => none
  | n + 1, o0, x1, x2, x3, h =>
  if 30 ≤ x3 then
    some (x2, h)
  else
    (gR [12] h o0 33).bind fun v2 =>
    (isC [12] h o0).bind fun _ =>
    cN (f_X12_goDay o0 v2 h) h fun v4 h5 =>
    f_X12_yearly_30  n o0 x1 (x2 + ((v4 >>> (x1 &&& 31)) &&& 1)) (x3 + 1) h5
set_option maxHeartbeats 1000000 in
theorem w_X12_yearly_30 (X : Cx g p s m args meth c cX12_yearly 4 "TrapCornerModel") (hR : 94 ≤ R.frames ∧ 6016 ≤ R.locals) (hr : meth.sig.returnType = (some (.int))) {res : Int32 × AH} : ∀ (n : Nat) (o0 : Nat) (x1 : Int32) (x2 : Int32) (x3 : Int32) (h : AH) (ls : Array Slot) (H : Heap) (locs : List Loc), f_X12_yearly_30 n o0 x1 x2 x3 h = some res → Iv g s n0 z0 h H locs 0 0 → lv_has ls 4 [(0, .ref (rfG g o0)), (1, .int x1), (2, .int x2), (3, .int x3)] → W p l e R s m args below meth c H locs 0 0 (MQ below (QG g (some (.int res.1)) res.2) args s 0 0 (AG g)) (F0 m 30 ls []) := by
  have hx := X.1
  have hb := X.2.1
  intro n
  induction n with
  | zero =>
    intro o0 x1 x2 x3 h ls H locs hf
    rw [f_X12_yearly_30.eq_1] at hf
    cases hf
  | succ n ih =>
    intro o0 x1 x2 x3 h ls H locs hf I hl
    rw [f_X12_yearly_30.eq_2] at hf
    refine lv_iload_n hx hb dX12_yearly_30 rfl (lv_at hl 3 rfl) ?_
    refine lv_bipush (v := 30) hx hb dX12_yearly_31 (by decide) ?_
    refine lv_icmp_ge (tgt := 57) hx hb dX12_yearly_33 (by decide) (fun c1 => ?_) (fun c1 => ?_)
    · rw [if_pos c1] at hf
      refine lv_iload_n hx hb dX12_yearly_57 rfl (lv_at hl 2 rfl) ?_
      cases hf
      exact k_ri X I hr dX12_yearly_58
    · rw [if_neg c1] at hf
      refine lv_iload_n hx hb dX12_yearly_36 rfl (lv_at hl 2 rfl) ?_
      refine lv_aload_n hx hb dX12_yearly_37 rfl (lv_at hl 0 rfl) ?_
      refine lv_aload_n hx hb dX12_yearly_38 rfl (lv_at hl 0 rfl) ?_
      obtain ⟨v2, e3, hf⟩ := Option.bind_eq_some_iff.mp hf
      refine r_gR X I e3 lk_TrapCornerModel_64 dX12_yearly_39 ?_
      obtain ⟨_, g8, hf⟩ := Option.bind_eq_some_iff.mp hf
      obtain ⟨v4, h5, e6, z7, hf⟩ := cN_spec hf
      refine k_Vi (As := [.ref (rfG g v2)]) (rest := [.int x2]) X I (c_X12_goDay l g o0 v2 e6) z7 g8 vk_TrapCornerModel_376 tw_1672 ⟨Nat.le_trans (by decide) hR.1, Nat.le_trans (by decide) hR.2⟩ ⟨Nat.zero_le _, Nat.zero_le _⟩ rfl hl.1 rfl (Nat.le_of_ble_eq_true rfl) dX12_yearly_42 (fun H locs I => ?_)
      refine lv_iload_n hx hb dX12_yearly_45 rfl (lv_at hl 1 rfl) ?_
      refine lv_ishr hx hb dX12_yearly_46 ?_
      refine lv_iconst (v := 1) hx hb dX12_yearly_47 (by decide) ?_
      refine lv_iand hx hb dX12_yearly_48 ?_
      refine lv_iadd hx hb dX12_yearly_49 ?_
      refine lv_istore_n (lv' := [(2, .int (x2 + ((v4 >>> (x1 &&& 31)) &&& 1))), (0, .ref (rfG g o0)), (1, .int x1), (3, .int x3)]) hx hb dX12_yearly_50 rfl hl (by decide) rfl (fun ls hl => ?_)
      refine lv_iinc (v := x3 + 1) (lv' := [(3, .int (x3 + 1)), (2, .int (x2 + ((v4 >>> (x1 &&& 31)) &&& 1))), (0, .ref (rfG g o0)), (1, .int x1)]) hx hb dX12_yearly_51 hl (k := 3) rfl rfl (by decide) rfl (fun ls hl => ?_)
      refine lv_goto (tgt := 30) hx hb dX12_yearly_54 (by decide) ?_
      exact ih o0 x1 (x2 + ((v4 >>> (x1 &&& 31)) &&& 1)) (x3 + 1) h5 ls H locs hf I (lv_sub hl [2, 3, 1, 0] rfl)
def f_X12_yearly_0  (o0 : Nat) (x1 : Int32) (h : AH) : Option (Int32 × AH) :=
  (pV [12] h o0 0 (.int 0)).bind fun h1 =>
  (isC [12] h1 o0).bind fun _ =>
  cN (f_X12_isPerson o0 x1 h1) h1 fun v3 h4 =>
  if v3 = 0 then
    some ((-1), h4)
  else
    (gR [12] h4 o0 32).bind fun v9 =>
    (gR [12] h4 o0 33).bind fun v11 =>
    cN (f_X12_copy v9 v11 h4) h4 fun _ h14 =>
    f_X12_yearly_30 fu o0 x1 0 0 h14
set_option maxHeartbeats 1000000 in
theorem w_X12_yearly_0 (X : Cx g p s m args meth c cX12_yearly 4 "TrapCornerModel") (hR : 94 ≤ R.frames ∧ 6016 ≤ R.locals) (hr : meth.sig.returnType = (some (.int))) {res : Int32 × AH} : ∀ (o0 : Nat) (x1 : Int32) (h : AH) (ls : Array Slot) (H : Heap) (locs : List Loc), f_X12_yearly_0 o0 x1 h = some res → Iv g s n0 z0 h H locs 0 0 → lv_has ls 4 [(0, .ref (rfG g o0)), (1, .int x1)] → W p l e R s m args below meth c H locs 0 0 (MQ below (QG g (some (.int res.1)) res.2) args s 0 0 (AG g)) (F0 m 0 ls []) := by
  have hx := X.1
  have hb := X.2.1
  intro o0 x1 h ls H locs hf I hl
  unfold f_X12_yearly_0 at hf
  refine lv_aload_n hx hb dX12_yearly_0 rfl (lv_at hl 0 rfl) ?_
  refine lv_iconst (v := 0) hx hb dX12_yearly_1 (by decide) ?_
  obtain ⟨h1, e2, hf⟩ := Option.bind_eq_some_iff.mp hf
  refine r_pI X I e2 lp_TrapCornerModel_96 dX12_yearly_2 (fun H locs I => ?_)
  refine lv_aload_n hx hb dX12_yearly_5 rfl (lv_at hl 0 rfl) ?_
  refine lv_iload_n hx hb dX12_yearly_6 rfl (lv_at hl 1 rfl) ?_
  obtain ⟨_, g7, hf⟩ := Option.bind_eq_some_iff.mp hf
  obtain ⟨v3, h4, e5, z6, hf⟩ := cN_spec hf
  refine k_Vi (As := [.int x1]) (rest := []) X I (c_X12_isPerson l g o0 x1 e5) z6 g7 vk_TrapCornerModel_383 tw_1643 ⟨Nat.le_trans (by decide) hR.1, Nat.le_trans (by decide) hR.2⟩ ⟨Nat.zero_le _, Nat.zero_le _⟩ rfl hl.1 rfl (Nat.le_of_ble_eq_true rfl) dX12_yearly_7 (fun H locs I => ?_)
  refine lv_if_ne (tgt := 15) hx hb dX12_yearly_10 (by decide) (fun c8 => ?_) (fun c8 => ?_)
  · rw [if_neg c8] at hf
    refine lv_aload_n hx hb dX12_yearly_15 rfl (lv_at hl 0 rfl) ?_
    obtain ⟨v9, e10, hf⟩ := Option.bind_eq_some_iff.mp hf
    refine r_gR X I e10 lk_TrapCornerModel_61 dX12_yearly_16 ?_
    refine lv_aload_n hx hb dX12_yearly_19 rfl (lv_at hl 0 rfl) ?_
    obtain ⟨v11, e12, hf⟩ := Option.bind_eq_some_iff.mp hf
    refine r_gR X I e12 lk_TrapCornerModel_64 dX12_yearly_20 ?_
    obtain ⟨⟨⟩, h14, e15, z16, hf⟩ := cN_spec hf
    refine k_Sv (As := [.ref (rfG g v9), .ref (rfG g v11)]) (rest := []) X I (c_X12_copy l g v9 v11 e15) z16 sk_TrapCornerModel_372 tw_1793 ⟨Nat.le_trans (by decide) hR.1, Nat.le_trans (by decide) hR.2⟩ ⟨Nat.zero_le _, Nat.zero_le _⟩ rfl hl.1 rfl (Nat.le_of_ble_eq_true rfl) dX12_yearly_23 (fun H locs I => ?_)
    refine lv_iconst (v := 0) hx hb dX12_yearly_26 (by decide) ?_
    refine lv_istore_n (lv' := [(2, .int 0), (0, .ref (rfG g o0)), (1, .int x1)]) hx hb dX12_yearly_27 rfl hl (by decide) rfl (fun ls hl => ?_)
    refine lv_iconst (v := 0) hx hb dX12_yearly_28 (by decide) ?_
    refine lv_istore_n (lv' := [(3, .int 0), (2, .int 0), (0, .ref (rfG g o0)), (1, .int x1)]) hx hb dX12_yearly_29 rfl hl (by decide) rfl (fun ls hl => ?_)
    exact w_X12_yearly_30 X hR hr fu o0 x1 0 0 h14 ls H locs hf I (lv_sub hl [2, 3, 1, 0] rfl)
  · rw [if_pos c8] at hf
    refine lv_iconst (v := (-1)) hx hb dX12_yearly_13 (by decide) ?_
    cases hf
    exact k_ri X I hr dX12_yearly_14
def f_X12_yearly (o0 : Nat) (x1 : Int32) (h : AH) : Option (Int32 × AH) := f_X12_yearly_0 o0 x1 h
end
theorem c_X12_yearly (l : Launch) (g : GG) (o0 : Nat) (x1 : Int32) {h : AH} {res : Int32 × AH} (hf : f_X12_yearly o0 x1 h = some res) : CM l g yX12_yearly cX12_yearly 4 (some (.int)) 94 6016 0 0 [.ref (rfG g o0), .int x1] h (some (.int res.1)) res.2 :=
  k_body (by decide) (Nat.le_of_ble_eq_true rfl) (fun p e s m below meth c R ls hR hr X I hl => w_X12_yearly_0 X ⟨Nat.le_of_eq hR.1.symm, Nat.le_of_eq hR.2.1.symm⟩ hr o0 x1 h ls s.heap [] hf I (lv_sub hl [0, 1] rfl))
/-! TrapCornerModel.all(I)I -/
theorem dX12_all_0 : decode cX12_all 0 = .ok (.aload_n 0, 1) := by decide +kernel
theorem dX12_all_1 : decode cX12_all 1 = .ok (.iconst 0, 1) := by decide +kernel
theorem dX12_all_2 : decode cX12_all 2 = .ok (.putfield 96, 3) := by decide +kernel
theorem dX12_all_5 : decode cX12_all 5 = .ok (.aload_n 0, 1) := by decide +kernel
theorem dX12_all_6 : decode cX12_all 6 = .ok (.getfield 297, 3) := by decide +kernel
theorem dX12_all_9 : decode cX12_all 9 = .ok (.ifCond .ne 5, 3) := by decide +kernel
theorem dX12_all_12 : decode cX12_all 12 = .ok (.iconst (-1), 1) := by decide +kernel
theorem dX12_all_13 : decode cX12_all 13 = .ok (.ireturn, 1) := by decide +kernel
theorem dX12_all_14 : decode cX12_all 14 = .ok (.iconst 0, 1) := by decide +kernel
theorem dX12_all_15 : decode cX12_all 15 = .ok (.istore_n 2, 1) := by decide +kernel
theorem dX12_all_16 : decode cX12_all 16 = .ok (.iload_n 1, 1) := by decide +kernel
theorem dX12_all_17 : decode cX12_all 17 = .ok (.tableswitch 202 0 10 #[59, 59, 59, 59, 59, 65, 101, 141, 182, 187, 197], 59) := by decide +kernel
theorem dX12_all_76 : decode cX12_all 76 = .ok (.aload_n 0, 1) := by decide +kernel
theorem dX12_all_77 : decode cX12_all 77 = .ok (.iload_n 1, 1) := by decide +kernel
theorem dX12_all_78 : decode cX12_all 78 = .ok (.invokevirtual 472, 3) := by decide +kernel
theorem dX12_all_81 : decode cX12_all 81 = .ok (.ireturn, 1) := by decide +kernel
theorem dX12_all_82 : decode cX12_all 82 = .ok (.iconst 0, 1) := by decide +kernel
theorem dX12_all_83 : decode cX12_all 83 = .ok (.istore_n 3, 1) := by decide +kernel
theorem dX12_all_84 : decode cX12_all 84 = .ok (.iload_n 3, 1) := by decide +kernel
theorem dX12_all_85 : decode cX12_all 85 = .ok (.aload_n 0, 1) := by decide +kernel
theorem dX12_all_86 : decode cX12_all 86 = .ok (.getfield 297, 3) := by decide +kernel
theorem dX12_all_89 : decode cX12_all 89 = .ok (.if_icmp .ge 27, 3) := by decide +kernel
theorem dX12_all_92 : decode cX12_all 92 = .ok (.iload_n 2, 1) := by decide +kernel
theorem dX12_all_93 : decode cX12_all 93 = .ok (.aload_n 0, 1) := by decide +kernel
theorem dX12_all_94 : decode cX12_all 94 = .ok (.iload_n 3, 1) := by decide +kernel
theorem dX12_all_95 : decode cX12_all 95 = .ok (.invokevirtual 475, 3) := by decide +kernel
theorem dX12_all_98 : decode cX12_all 98 = .ok (.ifCond .eq 9, 3) := by decide +kernel
theorem dX12_all_101 : decode cX12_all 101 = .ok (.iconst 1, 1) := by decide +kernel
theorem dX12_all_102 : decode cX12_all 102 = .ok (.iload_n 3, 1) := by decide +kernel
theorem dX12_all_103 : decode cX12_all 103 = .ok (.ishl, 1) := by decide +kernel
theorem dX12_all_104 : decode cX12_all 104 = .ok (.goto 4, 3) := by decide +kernel
theorem dX12_all_107 : decode cX12_all 107 = .ok (.iconst 0, 1) := by decide +kernel
theorem dX12_all_108 : decode cX12_all 108 = .ok (.ior, 1) := by decide +kernel
theorem dX12_all_109 : decode cX12_all 109 = .ok (.istore_n 2, 1) := by decide +kernel
theorem dX12_all_110 : decode cX12_all 110 = .ok (.iinc 3 1, 3) := by decide +kernel
theorem dX12_all_113 : decode cX12_all 113 = .ok (.goto (-29), 3) := by decide +kernel
theorem dX12_all_116 : decode cX12_all 116 = .ok (.iload_n 2, 1) := by decide +kernel
theorem dX12_all_117 : decode cX12_all 117 = .ok (.ireturn, 1) := by decide +kernel
theorem dX12_all_118 : decode cX12_all 118 = .ok (.iconst 0, 1) := by decide +kernel
theorem dX12_all_119 : decode cX12_all 119 = .ok (.istore_n 3, 1) := by decide +kernel
theorem dX12_all_120 : decode cX12_all 120 = .ok (.iload_n 3, 1) := by decide +kernel
theorem dX12_all_121 : decode cX12_all 121 = .ok (.aload_n 0, 1) := by decide +kernel
theorem dX12_all_122 : decode cX12_all 122 = .ok (.getfield 297, 3) := by decide +kernel
theorem dX12_all_125 : decode cX12_all 125 = .ok (.if_icmp .ge 31, 3) := by decide +kernel
theorem dX12_all_128 : decode cX12_all 128 = .ok (.iload_n 2, 1) := by decide +kernel
theorem dX12_all_129 : decode cX12_all 129 = .ok (.aload_n 0, 1) := by decide +kernel
theorem dX12_all_130 : decode cX12_all 130 = .ok (.aload_n 0, 1) := by decide +kernel
theorem dX12_all_131 : decode cX12_all 131 = .ok (.getfield 61, 3) := by decide +kernel
theorem dX12_all_134 : decode cX12_all 134 = .ok (.iload_n 3, 1) := by decide +kernel
theorem dX12_all_135 : decode cX12_all 135 = .ok (.invokevirtual 341, 3) := by decide +kernel
theorem dX12_all_138 : decode cX12_all 138 = .ok (.ifCond .eq 9, 3) := by decide +kernel
theorem dX12_all_141 : decode cX12_all 141 = .ok (.iconst 1, 1) := by decide +kernel
theorem dX12_all_142 : decode cX12_all 142 = .ok (.iload_n 3, 1) := by decide +kernel
theorem dX12_all_143 : decode cX12_all 143 = .ok (.ishl, 1) := by decide +kernel
theorem dX12_all_144 : decode cX12_all 144 = .ok (.goto 4, 3) := by decide +kernel
theorem dX12_all_147 : decode cX12_all 147 = .ok (.iconst 0, 1) := by decide +kernel
theorem dX12_all_148 : decode cX12_all 148 = .ok (.ior, 1) := by decide +kernel
theorem dX12_all_149 : decode cX12_all 149 = .ok (.istore_n 2, 1) := by decide +kernel
theorem dX12_all_150 : decode cX12_all 150 = .ok (.iinc 3 1, 3) := by decide +kernel
theorem dX12_all_153 : decode cX12_all 153 = .ok (.goto (-33), 3) := by decide +kernel
theorem dX12_all_156 : decode cX12_all 156 = .ok (.iload_n 2, 1) := by decide +kernel
theorem dX12_all_157 : decode cX12_all 157 = .ok (.ireturn, 1) := by decide +kernel
theorem dX12_all_158 : decode cX12_all 158 = .ok (.iconst 0, 1) := by decide +kernel
theorem dX12_all_159 : decode cX12_all 159 = .ok (.istore_n 3, 1) := by decide +kernel
theorem dX12_all_160 : decode cX12_all 160 = .ok (.iload_n 3, 1) := by decide +kernel
theorem dX12_all_161 : decode cX12_all 161 = .ok (.aload_n 0, 1) := by decide +kernel
theorem dX12_all_162 : decode cX12_all 162 = .ok (.getfield 294, 3) := by decide +kernel
theorem dX12_all_165 : decode cX12_all 165 = .ok (.if_icmp .ge 32, 3) := by decide +kernel
theorem dX12_all_168 : decode cX12_all 168 = .ok (.iload_n 2, 1) := by decide +kernel
theorem dX12_all_169 : decode cX12_all 169 = .ok (.aload_n 0, 1) := by decide +kernel
theorem dX12_all_170 : decode cX12_all 170 = .ok (.getfield 61, 3) := by decide +kernel
theorem dX12_all_173 : decode cX12_all 173 = .ok (.iconst 2, 1) := by decide +kernel
theorem dX12_all_174 : decode cX12_all 174 = .ok (.iload_n 3, 1) := by decide +kernel
theorem dX12_all_175 : decode cX12_all 175 = .ok (.imul, 1) := by decide +kernel
theorem dX12_all_176 : decode cX12_all 176 = .ok (.iconst 0, 1) := by decide +kernel
theorem dX12_all_177 : decode cX12_all 177 = .ok (.iadd, 1) := by decide +kernel
theorem dX12_all_178 : decode cX12_all 178 = .ok (.iaload, 1) := by decide +kernel
theorem dX12_all_179 : decode cX12_all 179 = .ok (.ifCond .ne 9, 3) := by decide +kernel
theorem dX12_all_182 : decode cX12_all 182 = .ok (.iconst 1, 1) := by decide +kernel
theorem dX12_all_183 : decode cX12_all 183 = .ok (.iload_n 3, 1) := by decide +kernel
theorem dX12_all_184 : decode cX12_all 184 = .ok (.ishl, 1) := by decide +kernel
theorem dX12_all_185 : decode cX12_all 185 = .ok (.goto 4, 3) := by decide +kernel
theorem dX12_all_188 : decode cX12_all 188 = .ok (.iconst 0, 1) := by decide +kernel
theorem dX12_all_189 : decode cX12_all 189 = .ok (.ior, 1) := by decide +kernel
theorem dX12_all_190 : decode cX12_all 190 = .ok (.istore_n 2, 1) := by decide +kernel
theorem dX12_all_191 : decode cX12_all 191 = .ok (.iinc 3 1, 3) := by decide +kernel
theorem dX12_all_194 : decode cX12_all 194 = .ok (.goto (-34), 3) := by decide +kernel
theorem dX12_all_197 : decode cX12_all 197 = .ok (.iload_n 2, 1) := by decide +kernel
theorem dX12_all_198 : decode cX12_all 198 = .ok (.ireturn, 1) := by decide +kernel
theorem dX12_all_199 : decode cX12_all 199 = .ok (.aload_n 0, 1) := by decide +kernel
theorem dX12_all_200 : decode cX12_all 200 = .ok (.invokevirtual 442, 3) := by decide +kernel
theorem dX12_all_203 : decode cX12_all 203 = .ok (.ireturn, 1) := by decide +kernel
theorem dX12_all_204 : decode cX12_all 204 = .ok (.aload_n 0, 1) := by decide +kernel
theorem dX12_all_205 : decode cX12_all 205 = .ok (.invokevirtual 442, 3) := by decide +kernel
theorem dX12_all_208 : decode cX12_all 208 = .ok (.istore_n 2, 1) := by decide +kernel
theorem dX12_all_209 : decode cX12_all 209 = .ok (.aload_n 0, 1) := by decide +kernel
theorem dX12_all_210 : decode cX12_all 210 = .ok (.getfield 359, 3) := by decide +kernel
theorem dX12_all_213 : decode cX12_all 213 = .ok (.ireturn, 1) := by decide +kernel
theorem dX12_all_214 : decode cX12_all 214 = .ok (.aload_n 0, 1) := by decide +kernel
theorem dX12_all_215 : decode cX12_all 215 = .ok (.invokevirtual 478, 3) := by decide +kernel
theorem dX12_all_218 : decode cX12_all 218 = .ok (.ireturn, 1) := by decide +kernel
theorem dX12_all_219 : decode cX12_all 219 = .ok (.iconst (-1), 1) := by decide +kernel
theorem dX12_all_220 : decode cX12_all 220 = .ok (.ireturn, 1) := by decide +kernel
theorem vk_TrapCornerModel_475 : VK "TrapCornerModel" 475 [12] yX12_isHonest 1 := ⟨tw_1904, tw_1906, tw_13, ⟨by decide, by decide⟩, by decide +kernel, fun ci hci => by
  have hci := List.mem_singleton.mp hci
  subst hci
  exact ⟨_, rfl, tp_107⟩⟩
theorem vk_TrapCornerModel_472 : VK "TrapCornerModel" 472 [12] yX12_greatest 1 := ⟨tw_1896, tw_1898, tw_13, ⟨by decide, by decide⟩, by decide +kernel, fun ci hci => by
  have hci := List.mem_singleton.mp hci
  subst hci
  exact ⟨_, rfl, tp_105⟩⟩
theorem vk_TrapCornerModel_478 : VK "TrapCornerModel" 478 [12] yX12_laidKinds 0 := ⟨tw_1908, tw_1910, tw_13, ⟨by decide, by decide⟩, by decide +kernel, fun ci hci => by
  have hci := List.mem_singleton.mp hci
  subst hci
  exact ⟨_, rfl, tp_108⟩⟩
section
variable {g : GG} {p : Program} {l : Launch} {e : Env} {R : Room} {s : State} {m : MethodId} {args : Array Value} {below : List Frame} {meth : Method} {c : Code} {n0 z0 : Nat}
def f_X12_all_108 (k84 : Nat → Int32 → Int32 → AH → Option (Int32 × AH)) (o0 : Nat) (x3 : Int32) (s0 : Int32) (s1 : Int32) (h : AH) : Option (Int32 × AH) :=
  k84 o0 (s0 ||| s1) (x3 + 1) h
set_option maxHeartbeats 1000000 in
theorem w_X12_all_108 (X : Cx g p s m args meth c cX12_all 4 "TrapCornerModel") (hR : 95 ≤ R.frames ∧ 6080 ≤ R.locals) (hr : meth.sig.returnType = (some (.int))) {res : Int32 × AH} {k84 : Nat → Int32 → Int32 → AH → Option (Int32 × AH)} (hk84 : ∀ (o0 : Nat) (x2 : Int32) (x3 : Int32) (h : AH) (ls : Array Slot) (H : Heap) (locs : List Loc), k84 o0 x2 x3 h = some res → Iv g s n0 z0 h H locs 0 0 → lv_has ls 4 [(0, .ref (rfG g o0)), (2, .int x2), (3, .int x3)] → W p l e R s m args below meth c H locs 0 0 (MQ below (QG g (some (.int res.1)) res.2) args s 0 0 (AG g)) (F0 m 84 ls [])) : ∀ (o0 : Nat) (x3 : Int32) (s0 : Int32) (s1 : Int32) (h : AH) (ls : Array Slot) (H : Heap) (locs : List Loc), f_X12_all_108 k84 o0 x3 s0 s1 h = some res → Iv g s n0 z0 h H locs 0 0 → lv_has ls 4 [(0, .ref (rfG g o0)), (3, .int x3)] → W p l e R s m args below meth c H locs 0 0 (MQ below (QG g (some (.int res.1)) res.2) args s 0 0 (AG g)) (F0 m 108 ls [.int s1, .int s0]) := by
  have hx := X.1
  have hb := X.2.1
  intro o0 x3 s0 s1 h ls H locs hf I hl
  unfold f_X12_all_108 at hf
  refine lv_ior hx hb dX12_all_108 ?_
  refine lv_istore_n (lv' := [(2, .int (s0 ||| s1)), (0, .ref (rfG g o0)), (3, .int x3)]) hx hb dX12_all_109 rfl hl (by decide) rfl (fun ls hl => ?_)
  refine lv_iinc (v := x3 + 1) (lv' := [(3, .int (x3 + 1)), (2, .int (s0 ||| s1)), (0, .ref (rfG g o0))]) hx hb dX12_all_110 hl (k := 2) rfl rfl (by decide) rfl (fun ls hl => ?_)
  refine lv_goto (tgt := 84) hx hb dX12_all_113 (by decide) ?_
  exact hk84 o0 (s0 ||| s1) (x3 + 1) h ls H locs hf I (lv_sub hl [2, 1, 0] rfl)
def f_X12_all_84  : Nat → Nat → Int32 → Int32 → AH → Option (Int32 × AH)
  | 0, _, _, _, _ => none
  | n + 1, o0, x2, x3, h =>
  (gI [12] h o0 27).bind fun v1 =>
  if v1 ≤ x3 then
    some (x2, h)
  else
    (isC [12] h o0).bind fun _ =>
    cN (f_X12_isHonest o0 x3 h) h fun v4 h5 =>
    if v4 = 0 then
      f_X12_all_108 (f_X12_all_84 n) o0 x3 x2 0 h5
    else
      f_X12_all_108 (f_X12_all_84 n) o0 x3 x2 (1 <<< (x3 &&& 31)) h5
set_option maxHeartbeats 1000000 in
theorem w_X12_all_84 (X : Cx g p s m args meth c cX12_all 4 "TrapCornerModel") (hR : 95 ≤ R.frames ∧ 6080 ≤ R.locals) (hr : meth.sig.returnType = (some (.int))) {res : Int32 × AH} : ∀ (n : Nat) (o0 : Nat) (x2 : Int32) (x3 : Int32) (h : AH) (ls : Array Slot) (H : Heap) (locs : List Loc), f_X12_all_84 n o0 x2 x3 h = some res → Iv g s n0 z0 h H locs 0 0 → lv_has ls 4 [(0, .ref (rfG g o0)), (2, .int x2), (3, .int x3)] → W p l e R s m args below meth c H locs 0 0 (MQ below (QG g (some (.int res.1)) res.2) args s 0 0 (AG g)) (F0 m 84 ls []) := by
  have hx := X.1
  have hb := X.2.1
  intro n
  induction n with
  | zero =>
    intro o0 x2 x3 h ls H locs hf
    rw [f_X12_all_84.eq_1] at hf
    cases hf
  | succ n ih =>
    intro o0 x2 x3 h ls H locs hf I hl
    rw [f_X12_all_84.eq_2] at hf
    refine lv_iload_n hx hb dX12_all_84 rfl (lv_at hl 2 rfl) ?_
    refine lv_aload_n hx hb dX12_all_85 rfl (lv_at hl 0 rfl) ?_
    obtain ⟨v1, e2, hf⟩ := Option.bind_eq_some_iff.mp hf
    refine r_gI X I e2 lk_TrapCornerModel_297 dX12_all_86 ?_
    refine lv_icmp_ge (tgt := 116) hx hb dX12_all_89 (by decide) (fun c3 => ?_) (fun c3 => ?_)
    · rw [if_pos c3] at hf
      refine lv_iload_n hx hb dX12_all_116 rfl (lv_at hl 1 rfl) ?_
      cases hf
      exact k_ri X I hr dX12_all_117
    · rw [if_neg c3] at hf
      refine lv_iload_n hx hb dX12_all_92 rfl (lv_at hl 1 rfl) ?_
      refine lv_aload_n hx hb dX12_all_93 rfl (lv_at hl 0 rfl) ?_
      refine lv_iload_n hx hb dX12_all_94 rfl (lv_at hl 2 rfl) ?_
      obtain ⟨_, g8, hf⟩ := Option.bind_eq_some_iff.mp hf
      obtain ⟨v4, h5, e6, z7, hf⟩ := cN_spec hf
      refine k_Vi (As := [.int x3]) (rest := [.int x2]) X I (c_X12_isHonest l g o0 x3 e6) z7 g8 vk_TrapCornerModel_475 tw_1907 ⟨Nat.le_trans (by decide) hR.1, Nat.le_trans (by decide) hR.2⟩ ⟨Nat.zero_le _, Nat.zero_le _⟩ rfl hl.1 rfl (Nat.le_of_ble_eq_true rfl) dX12_all_95 (fun H locs I => ?_)
      refine lv_if_eq (tgt := 107) hx hb dX12_all_98 (by decide) (fun c9 => ?_) (fun c9 => ?_)
      · rw [if_pos c9] at hf
        refine lv_iconst (v := 0) hx hb dX12_all_107 (by decide) ?_
        exact w_X12_all_108 X hR hr ih o0 x3 x2 0 h5 ls H locs hf I (lv_sub hl [0, 2] rfl)
      · rw [if_neg c9] at hf
        refine lv_iconst (v := 1) hx hb dX12_all_101 (by decide) ?_
        refine lv_iload_n hx hb dX12_all_102 rfl (lv_at hl 2 rfl) ?_
        refine lv_ishl hx hb dX12_all_103 ?_
        refine lv_goto (tgt := 108) hx hb dX12_all_104 (by decide) ?_
        exact w_X12_all_108 X hR hr ih o0 x3 x2 (1 <<< (x3 &&& 31)) h5 ls H locs hf I (lv_sub hl [0, 2] rfl)
def f_X12_all_148 (k120 : Nat → Int32 → Int32 → AH → Option (Int32 × AH)) (o0 : Nat) (x3 : Int32) (s0 : Int32) (s1 : Int32) (h : AH) : Option (Int32 × AH) :=
  k120 o0 (s0 ||| s1) (x3 + 1) h
set_option maxHeartbeats 1000000 in
theorem w_X12_all_148 (X : Cx g p s m args meth c cX12_all 4 "TrapCornerModel") (hR : 95 ≤ R.frames ∧ 6080 ≤ R.locals) (hr : meth.sig.returnType = (some (.int))) {res : Int32 × AH} {k120 : Nat → Int32 → Int32 → AH → Option (Int32 × AH)} (hk120 : ∀ (o0 : Nat) (x2 : Int32) (x3 : Int32) (h : AH) (ls : Array Slot) (H : Heap) (locs : List Loc), k120 o0 x2 x3 h = some res → Iv g s n0 z0 h H locs 0 0 → lv_has ls 4 [(0, .ref (rfG g o0)), (2, .int x2), (3, .int x3)] → W p l e R s m args below meth c H locs 0 0 (MQ below (QG g (some (.int res.1)) res.2) args s 0 0 (AG g)) (F0 m 120 ls [])) : ∀ (o0 : Nat) (x3 : Int32) (s0 : Int32) (s1 : Int32) (h : AH) (ls : Array Slot) (H : Heap) (locs : List Loc), f_X12_all_148 k120 o0 x3 s0 s1 h = some res → Iv g s n0 z0 h H locs 0 0 → lv_has ls 4 [(0, .ref (rfG g o0)), (3, .int x3)] → W p l e R s m args below meth c H locs 0 0 (MQ below (QG g (some (.int res.1)) res.2) args s 0 0 (AG g)) (F0 m 148 ls [.int s1, .int s0]) := by
  have hx := X.1
  have hb := X.2.1
  intro o0 x3 s0 s1 h ls H locs hf I hl
  unfold f_X12_all_148 at hf
  refine lv_ior hx hb dX12_all_148 ?_
  refine lv_istore_n (lv' := [(2, .int (s0 ||| s1)), (0, .ref (rfG g o0)), (3, .int x3)]) hx hb dX12_all_149 rfl hl (by decide) rfl (fun ls hl => ?_)
  refine lv_iinc (v := x3 + 1) (lv' := [(3, .int (x3 + 1)), (2, .int (s0 ||| s1)), (0, .ref (rfG g o0))]) hx hb dX12_all_150 hl (k := 2) rfl rfl (by decide) rfl (fun ls hl => ?_)
  refine lv_goto (tgt := 120) hx hb dX12_all_153 (by decide) ?_
  exact hk120 o0 (s0 ||| s1) (x3 + 1) h ls H locs hf I (lv_sub hl [2, 1, 0] rfl)
def f_X12_all_120  : Nat → Nat → Int32 → Int32 → AH → Option (Int32 × AH)
  | 0, _, _, _, _ => none
  | n + 1, o0, x2, x3, h =>
  (gI [12] h o0 27).bind fun v1 =>
  if v1 ≤ x3 then
    some (x2, h)
  else
    (gR [12] h o0 32).bind fun v4 =>
    (isC [12] h o0).bind fun _ =>
    cN (f_X12_isOld o0 v4 x3 h) h fun v6 h7 =>
    if v6 = 0 then
      f_X12_all_148 (f_X12_all_120 n) o0 x3 x2 0 h7
    else
      f_X12_all_148 (f_X12_all_120 n) o0 x3 x2 (1 <<< (x3 &&& 31)) h7
set_option maxHeartbeats 1000000 in
theorem w_X12_all_120 (X : Cx g p s m args meth c cX12_all 4 "TrapCornerModel") (hR : 95 ≤ R.frames ∧ 6080 ≤ R.locals) (hr : meth.sig.returnType = (some (.int))) {res : Int32 × AH} : ∀ (n : Nat) (o0 : Nat) (x2 : Int32) (x3 : Int32) (h : AH) (ls : Array Slot) (H : Heap) (locs : List Loc), f_X12_all_120 n o0 x2 x3 h = some res → Iv g s n0 z0 h H locs 0 0 → lv_has ls 4 [(0, .ref (rfG g o0)), (2, .int x2), (3, .int x3)] → W p l e R s m args below meth c H locs 0 0 (MQ below (QG g (some (.int res.1)) res.2) args s 0 0 (AG g)) (F0 m 120 ls []) := by
  have hx := X.1
  have hb := X.2.1
  intro n
  induction n with
  | zero =>
    intro o0 x2 x3 h ls H locs hf
    rw [f_X12_all_120.eq_1] at hf
    cases hf
  | succ n ih =>
    intro o0 x2 x3 h ls H locs hf I hl
    rw [f_X12_all_120.eq_2] at hf
    refine lv_iload_n hx hb dX12_all_120 rfl (lv_at hl 2 rfl) ?_
    refine lv_aload_n hx hb dX12_all_121 rfl (lv_at hl 0 rfl) ?_
    obtain ⟨v1, e2, hf⟩ := Option.bind_eq_some_iff.mp hf
    refine r_gI X I e2 lk_TrapCornerModel_297 dX12_all_122 ?_
    refine lv_icmp_ge (tgt := 156) hx hb dX12_all_125 (by decide) (fun c3 => ?_) (fun c3 => ?_)
    · rw [if_pos c3] at hf
      refine lv_iload_n hx hb dX12_all_156 rfl (lv_at hl 1 rfl) ?_
      cases hf
      exact k_ri X I hr dX12_all_157
    · rw [if_neg c3] at hf
      refine lv_iload_n hx hb dX12_all_128 rfl (lv_at hl 1 rfl) ?_
      refine lv_aload_n hx hb dX12_all_129 rfl (lv_at hl 0 rfl) ?_
      refine lv_aload_n hx hb dX12_all_130 rfl (lv_at hl 0 rfl) ?_
      obtain ⟨v4, e5, hf⟩ := Option.bind_eq_some_iff.mp hf
      refine r_gR X I e5 lk_TrapCornerModel_61 dX12_all_131 ?_
      refine lv_iload_n hx hb dX12_all_134 rfl (lv_at hl 2 rfl) ?_
      obtain ⟨_, g10, hf⟩ := Option.bind_eq_some_iff.mp hf
      obtain ⟨v6, h7, e8, z9, hf⟩ := cN_spec hf
      refine k_Vi (As := [.ref (rfG g v4), .int x3]) (rest := [.int x2]) X I (c_X12_isOld l g o0 v4 x3 e8) z9 g10 vk_TrapCornerModel_341 tw_1718 ⟨Nat.le_trans (by decide) hR.1, Nat.le_trans (by decide) hR.2⟩ ⟨Nat.zero_le _, Nat.zero_le _⟩ rfl hl.1 rfl (Nat.le_of_ble_eq_true rfl) dX12_all_135 (fun H locs I => ?_)
      refine lv_if_eq (tgt := 147) hx hb dX12_all_138 (by decide) (fun c11 => ?_) (fun c11 => ?_)
      · rw [if_pos c11] at hf
        refine lv_iconst (v := 0) hx hb dX12_all_147 (by decide) ?_
        exact w_X12_all_148 X hR hr ih o0 x3 x2 0 h7 ls H locs hf I (lv_sub hl [0, 2] rfl)
      · rw [if_neg c11] at hf
        refine lv_iconst (v := 1) hx hb dX12_all_141 (by decide) ?_
        refine lv_iload_n hx hb dX12_all_142 rfl (lv_at hl 2 rfl) ?_
        refine lv_ishl hx hb dX12_all_143 ?_
        refine lv_goto (tgt := 148) hx hb dX12_all_144 (by decide) ?_
        exact w_X12_all_148 X hR hr ih o0 x3 x2 (1 <<< (x3 &&& 31)) h7 ls H locs hf I (lv_sub hl [0, 2] rfl)
def f_X12_all_189 (k160 : Nat → Int32 → Int32 → AH → Option (Int32 × AH)) (o0 : Nat) (x3 : Int32) (s0 : Int32) (s1 : Int32) (h : AH) : Option (Int32 × AH) :=
  k160 o0 (s0 ||| s1) (x3 + 1) h
set_option maxHeartbeats 1000000 in
theorem w_X12_all_189 (X : Cx g p s m args meth c cX12_all 4 "TrapCornerModel") (hR : 95 ≤ R.frames ∧ 6080 ≤ R.locals) (hr : meth.sig.returnType = (some (.int))) {res : Int32 × AH} {k160 : Nat → Int32 → Int32 → AH → Option (Int32 × AH)} (hk160 : ∀ (o0 : Nat) (x2 : Int32) (x3 : Int32) (h : AH) (ls : Array Slot) (H : Heap) (locs : List Loc), k160 o0 x2 x3 h = some res → Iv g s n0 z0 h H locs 0 0 → lv_has ls 4 [(0, .ref (rfG g o0)), (2, .int x2), (3, .int x3)] → W p l e R s m args below meth c H locs 0 0 (MQ below (QG g (some (.int res.1)) res.2) args s 0 0 (AG g)) (F0 m 160 ls [])) : ∀ (o0 : Nat) (x3 : Int32) (s0 : Int32) (s1 : Int32) (h : AH) (ls : Array Slot) (H : Heap) (locs : List Loc), f_X12_all_189 k160 o0 x3 s0 s1 h = some res → Iv g s n0 z0 h H locs 0 0 → lv_has ls 4 [(0, .ref (rfG g o0)), (3, .int x3)] → W p l e R s m args below meth c H locs 0 0 (MQ below (QG g (some (.int res.1)) res.2) args s 0 0 (AG g)) (F0 m 189 ls [.int s1, .int s0]) := by
  have hx := X.1
  have hb := X.2.1
  intro o0 x3 s0 s1 h ls H locs hf I hl
  unfold f_X12_all_189 at hf
  refine lv_ior hx hb dX12_all_189 ?_
  refine lv_istore_n (lv' := [(2, .int (s0 ||| s1)), (0, .ref (rfG g o0)), (3, .int x3)]) hx hb dX12_all_190 rfl hl (by decide) rfl (fun ls hl => ?_)
  refine lv_iinc (v := x3 + 1) (lv' := [(3, .int (x3 + 1)), (2, .int (s0 ||| s1)), (0, .ref (rfG g o0))]) hx hb dX12_all_191 hl (k := 2) rfl rfl (by decide) rfl (fun ls hl => ?_)
  refine lv_goto (tgt := 160) hx hb dX12_all_194 (by decide) ?_
  exact hk160 o0 (s0 ||| s1) (x3 + 1) h ls H locs hf I (lv_sub hl [2, 1, 0] rfl)
def f_X12_all_160  : Nat → Nat → Int32 → Int32 → AH → Option (Int32 × AH)
  | 0, _, _, _, _ => none
  | n + 1, o0, x2, x3, h =>
  (gI [12] h o0 26).bind fun v1 =>
  if v1 ≤ x3 then
    some (x2, h)
  else
    (gR [12] h o0 32).bind fun v4 =>
    (aI 0 h v4 ((2 * x3) + 0)).bind fun v6 =>
    if v6 = 0 then
      f_X12_all_189 (f_X12_all_160 n) o0 x3 x2 (1 <<< (x3 &&& 31)) h
    else
      f_X12_all_189 (f_X12_all_160 n) o0 x3 x2 0 h
set_option maxHeartbeats 1000000 in
theorem w_X12_all_160 (X : Cx g p s m args meth c cX12_all 4 "TrapCornerModel") (hR : 95 ≤ R.frames ∧ 6080 ≤ R.locals) (hr : meth.sig.returnType = (some (.int))) {res : Int32 × AH} : ∀ (n : Nat) (o0 : Nat) (x2 : Int32) (x3 : Int32) (h : AH) (ls : Array Slot) (H : Heap) (locs : List Loc), f_X12_all_160 n o0 x2 x3 h = some res → Iv g s n0 z0 h H locs 0 0 → lv_has ls 4 [(0, .ref (rfG g o0)), (2, .int x2), (3, .int x3)] → W p l e R s m args below meth c H locs 0 0 (MQ below (QG g (some (.int res.1)) res.2) args s 0 0 (AG g)) (F0 m 160 ls []) := by
  have hx := X.1
  have hb := X.2.1
  intro n
  induction n with
  | zero =>
    intro o0 x2 x3 h ls H locs hf
    rw [f_X12_all_160.eq_1] at hf
    cases hf
  | succ n ih =>
    intro o0 x2 x3 h ls H locs hf I hl
    rw [f_X12_all_160.eq_2] at hf
    refine lv_iload_n hx hb dX12_all_160 rfl (lv_at hl 2 rfl) ?_
    refine lv_aload_n hx hb dX12_all_161 rfl (lv_at hl 0 rfl) ?_
    obtain ⟨v1, e2, hf⟩ := Option.bind_eq_some_iff.mp hf
    refine r_gI X I e2 lk_TrapCornerModel_294 dX12_all_162 ?_
    refine lv_icmp_ge (tgt := 197) hx hb dX12_all_165 (by decide) (fun c3 => ?_) (fun c3 => ?_)
    · rw [if_pos c3] at hf
      refine lv_iload_n hx hb dX12_all_197 rfl (lv_at hl 1 rfl) ?_
      cases hf
      exact k_ri X I hr dX12_all_198
    · rw [if_neg c3] at hf
      refine lv_iload_n hx hb dX12_all_168 rfl (lv_at hl 1 rfl) ?_
      refine lv_aload_n hx hb dX12_all_169 rfl (lv_at hl 0 rfl) ?_
      obtain ⟨v4, e5, hf⟩ := Option.bind_eq_some_iff.mp hf
      refine r_gR X I e5 lk_TrapCornerModel_61 dX12_all_170 ?_
      refine lv_iconst (v := 2) hx hb dX12_all_173 (by decide) ?_
      refine lv_iload_n hx hb dX12_all_174 rfl (lv_at hl 2 rfl) ?_
      refine lv_imul hx hb dX12_all_175 ?_
      refine lv_iconst (v := 0) hx hb dX12_all_176 (by decide) ?_
      refine lv_iadd hx hb dX12_all_177 ?_
      obtain ⟨v6, e7, hf⟩ := Option.bind_eq_some_iff.mp hf
      refine r_aI0 X I e7 dX12_all_178 ?_
      refine lv_if_ne (tgt := 188) hx hb dX12_all_179 (by decide) (fun c8 => ?_) (fun c8 => ?_)
      · rw [if_neg c8] at hf
        refine lv_iconst (v := 0) hx hb dX12_all_188 (by decide) ?_
        exact w_X12_all_189 X hR hr ih o0 x3 x2 0 h ls H locs hf I (lv_sub hl [0, 2] rfl)
      · rw [if_pos c8] at hf
        refine lv_iconst (v := 1) hx hb dX12_all_182 (by decide) ?_
        refine lv_iload_n hx hb dX12_all_183 rfl (lv_at hl 2 rfl) ?_
        refine lv_ishl hx hb dX12_all_184 ?_
        refine lv_goto (tgt := 189) hx hb dX12_all_185 (by decide) ?_
        exact w_X12_all_189 X hR hr ih o0 x3 x2 (1 <<< (x3 &&& 31)) h ls H locs hf I (lv_sub hl [0, 2] rfl)
def f_X12_all_0  (o0 : Nat) (x1 : Int32) (h : AH) : Option (Int32 × AH) :=
  (pV [12] h o0 0 (.int 0)).bind fun h1 =>
  (gI [12] h1 o0 27).bind fun v3 =>
  if v3 = 0 then
    some ((-1), h1)
  else
    if x1 = 0 then
      (isC [12] h1 o0).bind fun _ =>
      cN (f_X12_greatest o0 x1 h1) h1 fun v7 h8 =>
      some (v7, h8)
    else
      if x1 = 1 then
        (isC [12] h1 o0).bind fun _ =>
        cN (f_X12_greatest o0 x1 h1) h1 fun v13 h14 =>
        some (v13, h14)
      else
        if x1 = 2 then
          (isC [12] h1 o0).bind fun _ =>
          cN (f_X12_greatest o0 x1 h1) h1 fun v19 h20 =>
          some (v19, h20)
        else
          if x1 = 3 then
            (isC [12] h1 o0).bind fun _ =>
            cN (f_X12_greatest o0 x1 h1) h1 fun v25 h26 =>
            some (v25, h26)
          else
            if x1 = 4 then
              (isC [12] h1 o0).bind fun _ =>
              cN (f_X12_greatest o0 x1 h1) h1 fun v31 h32 =>
              some (v31, h32)
            else
              if x1 = 5 then
                f_X12_all_84 fu o0 0 0 h1
              else
                if x1 = 6 then
                  f_X12_all_120 fu o0 0 0 h1
                else
                  if x1 = 7 then
                    f_X12_all_160 fu o0 0 0 h1
                  else
                    if x1 = 8 then
                      (isC [12] h1 o0).bind fun _ =>
                      cN (f_X12_tries o0 h1) h1 fun v40 h41 =>
                      some (v40, h41)
                    else
                      if x1 = 9 then
                        (isC [12] h1 o0).bind fun _ =>
                        cN (f_X12_tries o0 h1) h1 fun v46 h47 =>
                        (gI [12] h47 o0 41).bind fun v51 =>
                        some (v51, h47)
                      else
                        if x1 = 10 then
                          (isC [12] h1 o0).bind fun _ =>
                          cN (f_X12_laidKinds o0 h1) h1 fun v54 h55 =>
                          some (v54, h55)
                        else
                          some ((-1), h1)
set_option maxHeartbeats 1000000 in
theorem w_X12_all_0 (X : Cx g p s m args meth c cX12_all 4 "TrapCornerModel") (hR : 95 ≤ R.frames ∧ 6080 ≤ R.locals) (hr : meth.sig.returnType = (some (.int))) {res : Int32 × AH} : ∀ (o0 : Nat) (x1 : Int32) (h : AH) (ls : Array Slot) (H : Heap) (locs : List Loc), f_X12_all_0 o0 x1 h = some res → Iv g s n0 z0 h H locs 0 0 → lv_has ls 4 [(0, .ref (rfG g o0)), (1, .int x1)] → W p l e R s m args below meth c H locs 0 0 (MQ below (QG g (some (.int res.1)) res.2) args s 0 0 (AG g)) (F0 m 0 ls []) := by
  have hx := X.1
  have hb := X.2.1
  intro o0 x1 h ls H locs hf I hl
  unfold f_X12_all_0 at hf
  refine lv_aload_n hx hb dX12_all_0 rfl (lv_at hl 0 rfl) ?_
  refine lv_iconst (v := 0) hx hb dX12_all_1 (by decide) ?_
  obtain ⟨h1, e2, hf⟩ := Option.bind_eq_some_iff.mp hf
  refine r_pI X I e2 lp_TrapCornerModel_96 dX12_all_2 (fun H locs I => ?_)
  refine lv_aload_n hx hb dX12_all_5 rfl (lv_at hl 0 rfl) ?_
  obtain ⟨v3, e4, hf⟩ := Option.bind_eq_some_iff.mp hf
  refine r_gI X I e4 lk_TrapCornerModel_297 dX12_all_6 ?_
  refine lv_if_ne (tgt := 14) hx hb dX12_all_9 (by decide) (fun c5 => ?_) (fun c5 => ?_)
  · rw [if_neg c5] at hf
    refine lv_iconst (v := 0) hx hb dX12_all_14 (by decide) ?_
    refine lv_istore_n (lv' := [(2, .int 0), (0, .ref (rfG g o0)), (1, .int x1)]) hx hb dX12_all_15 rfl hl (by decide) rfl (fun ls hl => ?_)
    refine lv_iload_n hx hb dX12_all_16 rfl (lv_at hl 2 rfl) ?_
    by_cases c6 : x1 = 0
    · rw [if_pos c6] at hf
      refine lv_tableIn (tgt := 76) hx hb dX12_all_17 (by rw [c6]; decide) (by rw [c6]; decide) (by rw [c6]; rfl) (by decide) ?_
      refine lv_aload_n hx hb dX12_all_76 rfl (lv_at hl 1 rfl) ?_
      refine lv_iload_n hx hb dX12_all_77 rfl (lv_at hl 2 rfl) ?_
      obtain ⟨_, g11, hf⟩ := Option.bind_eq_some_iff.mp hf
      obtain ⟨v7, h8, e9, z10, hf⟩ := cN_spec hf
      refine k_Vi (As := [.int x1]) (rest := []) X I (c_X12_greatest l g o0 x1 e9) z10 g11 vk_TrapCornerModel_472 tw_1899 ⟨Nat.le_trans (by decide) hR.1, Nat.le_trans (by decide) hR.2⟩ ⟨Nat.zero_le _, Nat.zero_le _⟩ rfl hl.1 rfl (Nat.le_of_ble_eq_true rfl) dX12_all_78 (fun H locs I => ?_)
      cases hf
      exact k_ri X I hr dX12_all_81
    · rw [if_neg c6] at hf
      by_cases c12 : x1 = 1
      · rw [if_pos c12] at hf
        refine lv_tableIn (tgt := 76) hx hb dX12_all_17 (by rw [c12]; decide) (by rw [c12]; decide) (by rw [c12]; rfl) (by decide) ?_
        refine lv_aload_n hx hb dX12_all_76 rfl (lv_at hl 1 rfl) ?_
        refine lv_iload_n hx hb dX12_all_77 rfl (lv_at hl 2 rfl) ?_
        obtain ⟨_, g17, hf⟩ := Option.bind_eq_some_iff.mp hf
        obtain ⟨v13, h14, e15, z16, hf⟩ := cN_spec hf
        refine k_Vi (As := [.int x1]) (rest := []) X I (c_X12_greatest l g o0 x1 e15) z16 g17 vk_TrapCornerModel_472 tw_1899 ⟨Nat.le_trans (by decide) hR.1, Nat.le_trans (by decide) hR.2⟩ ⟨Nat.zero_le _, Nat.zero_le _⟩ rfl hl.1 rfl (Nat.le_of_ble_eq_true rfl) dX12_all_78 (fun H locs I => ?_)
        cases hf
        exact k_ri X I hr dX12_all_81
      · rw [if_neg c12] at hf
        by_cases c18 : x1 = 2
        · rw [if_pos c18] at hf
          refine lv_tableIn (tgt := 76) hx hb dX12_all_17 (by rw [c18]; decide) (by rw [c18]; decide) (by rw [c18]; rfl) (by decide) ?_
          refine lv_aload_n hx hb dX12_all_76 rfl (lv_at hl 1 rfl) ?_
          refine lv_iload_n hx hb dX12_all_77 rfl (lv_at hl 2 rfl) ?_
          obtain ⟨_, g23, hf⟩ := Option.bind_eq_some_iff.mp hf
          obtain ⟨v19, h20, e21, z22, hf⟩ := cN_spec hf
          refine k_Vi (As := [.int x1]) (rest := []) X I (c_X12_greatest l g o0 x1 e21) z22 g23 vk_TrapCornerModel_472 tw_1899 ⟨Nat.le_trans (by decide) hR.1, Nat.le_trans (by decide) hR.2⟩ ⟨Nat.zero_le _, Nat.zero_le _⟩ rfl hl.1 rfl (Nat.le_of_ble_eq_true rfl) dX12_all_78 (fun H locs I => ?_)
          cases hf
          exact k_ri X I hr dX12_all_81
        · rw [if_neg c18] at hf
          by_cases c24 : x1 = 3
          · rw [if_pos c24] at hf
            refine lv_tableIn (tgt := 76) hx hb dX12_all_17 (by rw [c24]; decide) (by rw [c24]; decide) (by rw [c24]; rfl) (by decide) ?_
            refine lv_aload_n hx hb dX12_all_76 rfl (lv_at hl 1 rfl) ?_
            refine lv_iload_n hx hb dX12_all_77 rfl (lv_at hl 2 rfl) ?_
            obtain ⟨_, g29, hf⟩ := Option.bind_eq_some_iff.mp hf
            obtain ⟨v25, h26, e27, z28, hf⟩ := cN_spec hf
            refine k_Vi (As := [.int x1]) (rest := []) X I (c_X12_greatest l g o0 x1 e27) z28 g29 vk_TrapCornerModel_472 tw_1899 ⟨Nat.le_trans (by decide) hR.1, Nat.le_trans (by decide) hR.2⟩ ⟨Nat.zero_le _, Nat.zero_le _⟩ rfl hl.1 rfl (Nat.le_of_ble_eq_true rfl) dX12_all_78 (fun H locs I => ?_)
            cases hf
            exact k_ri X I hr dX12_all_81
          · rw [if_neg c24] at hf
            by_cases c30 : x1 = 4
            · rw [if_pos c30] at hf
              refine lv_tableIn (tgt := 76) hx hb dX12_all_17 (by rw [c30]; decide) (by rw [c30]; decide) (by rw [c30]; rfl) (by decide) ?_
              refine lv_aload_n hx hb dX12_all_76 rfl (lv_at hl 1 rfl) ?_
              refine lv_iload_n hx hb dX12_all_77 rfl (lv_at hl 2 rfl) ?_
              obtain ⟨_, g35, hf⟩ := Option.bind_eq_some_iff.mp hf
              obtain ⟨v31, h32, e33, z34, hf⟩ := cN_spec hf
              refine k_Vi (As := [.int x1]) (rest := []) X I (c_X12_greatest l g o0 x1 e33) z34 g35 vk_TrapCornerModel_472 tw_1899 ⟨Nat.le_trans (by decide) hR.1, Nat.le_trans (by decide) hR.2⟩ ⟨Nat.zero_le _, Nat.zero_le _⟩ rfl hl.1 rfl (Nat.le_of_ble_eq_true rfl) dX12_all_78 (fun H locs I => ?_)
              cases hf
              exact k_ri X I hr dX12_all_81
            · rw [if_neg c30] at hf
              by_cases c36 : x1 = 5
              · rw [if_pos c36] at hf
                refine lv_tableIn (tgt := 82) hx hb dX12_all_17 (by rw [c36]; decide) (by rw [c36]; decide) (by rw [c36]; rfl) (by decide) ?_
                refine lv_iconst (v := 0) hx hb dX12_all_82 (by decide) ?_
                refine lv_istore_n (lv' := [(3, .int 0), (2, .int 0), (0, .ref (rfG g o0)), (1, .int x1)]) hx hb dX12_all_83 rfl hl (by decide) rfl (fun ls hl => ?_)
                exact w_X12_all_84 X hR hr fu o0 0 0 h1 ls H locs hf I (lv_sub hl [2, 1, 0] rfl)
              · rw [if_neg c36] at hf
                by_cases c37 : x1 = 6
                · rw [if_pos c37] at hf
                  refine lv_tableIn (tgt := 118) hx hb dX12_all_17 (by rw [c37]; decide) (by rw [c37]; decide) (by rw [c37]; rfl) (by decide) ?_
                  refine lv_iconst (v := 0) hx hb dX12_all_118 (by decide) ?_
                  refine lv_istore_n (lv' := [(3, .int 0), (2, .int 0), (0, .ref (rfG g o0)), (1, .int x1)]) hx hb dX12_all_119 rfl hl (by decide) rfl (fun ls hl => ?_)
                  exact w_X12_all_120 X hR hr fu o0 0 0 h1 ls H locs hf I (lv_sub hl [2, 1, 0] rfl)
                · rw [if_neg c37] at hf
                  by_cases c38 : x1 = 7
                  · rw [if_pos c38] at hf
                    refine lv_tableIn (tgt := 158) hx hb dX12_all_17 (by rw [c38]; decide) (by rw [c38]; decide) (by rw [c38]; rfl) (by decide) ?_
                    refine lv_iconst (v := 0) hx hb dX12_all_158 (by decide) ?_
                    refine lv_istore_n (lv' := [(3, .int 0), (2, .int 0), (0, .ref (rfG g o0)), (1, .int x1)]) hx hb dX12_all_159 rfl hl (by decide) rfl (fun ls hl => ?_)
                    exact w_X12_all_160 X hR hr fu o0 0 0 h1 ls H locs hf I (lv_sub hl [2, 1, 0] rfl)
                  · rw [if_neg c38] at hf
                    by_cases c39 : x1 = 8
                    · rw [if_pos c39] at hf
                      refine lv_tableIn (tgt := 199) hx hb dX12_all_17 (by rw [c39]; decide) (by rw [c39]; decide) (by rw [c39]; rfl) (by decide) ?_
                      refine lv_aload_n hx hb dX12_all_199 rfl (lv_at hl 1 rfl) ?_
                      obtain ⟨_, g44, hf⟩ := Option.bind_eq_some_iff.mp hf
                      obtain ⟨v40, h41, e42, z43, hf⟩ := cN_spec hf
                      refine k_Vi (As := []) (rest := []) X I (c_X12_tries l g o0 e42) z43 g44 vk_TrapCornerModel_442 tw_1817 ⟨Nat.le_trans (by decide) hR.1, Nat.le_trans (by decide) hR.2⟩ ⟨Nat.zero_le _, Nat.zero_le _⟩ rfl hl.1 rfl (Nat.le_of_ble_eq_true rfl) dX12_all_200 (fun H locs I => ?_)
                      cases hf
                      exact k_ri X I hr dX12_all_203
                    · rw [if_neg c39] at hf
                      by_cases c45 : x1 = 9
                      · rw [if_pos c45] at hf
                        refine lv_tableIn (tgt := 204) hx hb dX12_all_17 (by rw [c45]; decide) (by rw [c45]; decide) (by rw [c45]; rfl) (by decide) ?_
                        refine lv_aload_n hx hb dX12_all_204 rfl (lv_at hl 1 rfl) ?_
                        obtain ⟨_, g50, hf⟩ := Option.bind_eq_some_iff.mp hf
                        obtain ⟨v46, h47, e48, z49, hf⟩ := cN_spec hf
                        refine k_Vi (As := []) (rest := []) X I (c_X12_tries l g o0 e48) z49 g50 vk_TrapCornerModel_442 tw_1817 ⟨Nat.le_trans (by decide) hR.1, Nat.le_trans (by decide) hR.2⟩ ⟨Nat.zero_le _, Nat.zero_le _⟩ rfl hl.1 rfl (Nat.le_of_ble_eq_true rfl) dX12_all_205 (fun H locs I => ?_)
                        refine lv_istore_n (lv' := [(2, .int v46), (0, .ref (rfG g o0)), (1, .int x1)]) hx hb dX12_all_208 rfl hl (by decide) rfl (fun ls hl => ?_)
                        refine lv_aload_n hx hb dX12_all_209 rfl (lv_at hl 1 rfl) ?_
                        obtain ⟨v51, e52, hf⟩ := Option.bind_eq_some_iff.mp hf
                        refine r_gI X I e52 lk_TrapCornerModel_359 dX12_all_210 ?_
                        cases hf
                        exact k_ri X I hr dX12_all_213
                      · rw [if_neg c45] at hf
                        by_cases c53 : x1 = 10
                        · rw [if_pos c53] at hf
                          refine lv_tableIn (tgt := 214) hx hb dX12_all_17 (by rw [c53]; decide) (by rw [c53]; decide) (by rw [c53]; rfl) (by decide) ?_
                          refine lv_aload_n hx hb dX12_all_214 rfl (lv_at hl 1 rfl) ?_
                          obtain ⟨_, g58, hf⟩ := Option.bind_eq_some_iff.mp hf
                          obtain ⟨v54, h55, e56, z57, hf⟩ := cN_spec hf
                          refine k_Vi (As := []) (rest := []) X I (c_X12_laidKinds l g o0 e56) z57 g58 vk_TrapCornerModel_478 tw_1911 ⟨Nat.le_trans (by decide) hR.1, Nat.le_trans (by decide) hR.2⟩ ⟨Nat.zero_le _, Nat.zero_le _⟩ rfl hl.1 rfl (Nat.le_of_ble_eq_true rfl) dX12_all_215 (fun H locs I => ?_)
                          cases hf
                          exact k_ri X I hr dX12_all_218
                        · rw [if_neg c53] at hf
                          refine lv_tableOut (tgt := 219) hx hb dX12_all_17 (sw_out (fun k k1 k2 => by rcases (show k = 0 ∨ k = 1 ∨ k = 2 ∨ k = 3 ∨ k = 4 ∨ k = 5 ∨ k = 6 ∨ k = 7 ∨ k = 8 ∨ k = 9 ∨ k = 10 by omega) with rfl | rfl | rfl | rfl | rfl | rfl | rfl | rfl | rfl | rfl | rfl <;> assumption)) (by decide) ?_
                          refine lv_iconst (v := (-1)) hx hb dX12_all_219 (by decide) ?_
                          cases hf
                          exact k_ri X I hr dX12_all_220
  · rw [if_pos c5] at hf
    refine lv_iconst (v := (-1)) hx hb dX12_all_12 (by decide) ?_
    cases hf
    exact k_ri X I hr dX12_all_13
def f_X12_all (o0 : Nat) (x1 : Int32) (h : AH) : Option (Int32 × AH) := f_X12_all_0 o0 x1 h
end
theorem c_X12_all (l : Launch) (g : GG) (o0 : Nat) (x1 : Int32) {h : AH} {res : Int32 × AH} (hf : f_X12_all o0 x1 h = some res) : CM l g yX12_all cX12_all 4 (some (.int)) 95 6080 0 0 [.ref (rfG g o0), .int x1] h (some (.int res.1)) res.2 :=
  k_body (by decide) (Nat.le_of_ble_eq_true rfl) (fun p e s m below meth c R ls hR hr X I hl => w_X12_all_0 X ⟨Nat.le_of_eq hR.1.symm, Nat.le_of_eq hR.2.1.symm⟩ hr o0 x1 h ls s.heap [] hf I (lv_sub hl [0, 1] rfl))
