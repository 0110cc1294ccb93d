/-! TrapCorner.playGame(IIII)V -/
theorem dX11_playGame_0 : decode cX11_playGame 0 = .ok (.aload_n 0, 1) := by decide +kernel
theorem dX11_playGame_1 : decode cX11_playGame 1 = .ok (.getfield 53, 3) := by decide +kernel
theorem dX11_playGame_4 : decode cX11_playGame 4 = .ok (.aload_n 0, 1) := by decide +kernel
theorem dX11_playGame_5 : decode cX11_playGame 5 = .ok (.getfield 49, 3) := by decide +kernel
theorem dX11_playGame_8 : decode cX11_playGame 8 = .ok (.invokevirtual 350, 3) := by decide +kernel
theorem dX11_playGame_11 : decode cX11_playGame 11 = .ok (.aload_n 0, 1) := by decide +kernel
theorem dX11_playGame_12 : decode cX11_playGame 12 = .ok (.getfield 53, 3) := by decide +kernel
theorem dX11_playGame_15 : decode cX11_playGame 15 = .ok (.getfield 188, 3) := by decide +kernel
theorem dX11_playGame_18 : decode cX11_playGame 18 = .ok (.iload_n 2, 1) := by decide +kernel
theorem dX11_playGame_19 : decode cX11_playGame 19 = .ok (.iload_n 3, 1) := by decide +kernel
theorem dX11_playGame_20 : decode cX11_playGame 20 = .ok (.iastore, 1) := by decide +kernel
theorem dX11_playGame_21 : decode cX11_playGame 21 = .ok (.aload_n 0, 1) := by decide +kernel
theorem dX11_playGame_22 : decode cX11_playGame 22 = .ok (.getfield 53, 3) := by decide +kernel
theorem dX11_playGame_25 : decode cX11_playGame 25 = .ok (.getfield 219, 3) := by decide +kernel
theorem dX11_playGame_28 : decode cX11_playGame 28 = .ok (.iload_n 1, 1) := by decide +kernel
theorem dX11_playGame_29 : decode cX11_playGame 29 = .ok (.iload 4, 2) := by decide +kernel
theorem dX11_playGame_31 : decode cX11_playGame 31 = .ok (.iastore, 1) := by decide +kernel
theorem dX11_playGame_32 : decode cX11_playGame 32 = .ok (.aload_n 0, 1) := by decide +kernel
theorem dX11_playGame_33 : decode cX11_playGame 33 = .ok (.getfield 75, 3) := by decide +kernel
theorem dX11_playGame_36 : decode cX11_playGame 36 = .ok (.aload_n 0, 1) := by decide +kernel
theorem dX11_playGame_37 : decode cX11_playGame 37 = .ok (.getfield 53, 3) := by decide +kernel
theorem dX11_playGame_40 : decode cX11_playGame 40 = .ok (.aload_n 0, 1) := by decide +kernel
theorem dX11_playGame_41 : decode cX11_playGame 41 = .ok (.getfield 42, 3) := by decide +kernel
theorem dX11_playGame_44 : decode cX11_playGame 44 = .ok (.getfield 156, 3) := by decide +kernel
theorem dX11_playGame_47 : decode cX11_playGame 47 = .ok (.iconst 0, 1) := by decide +kernel
theorem dX11_playGame_48 : decode cX11_playGame 48 = .ok (.invokevirtual 343, 3) := by decide +kernel
theorem dX11_playGame_51 : decode cX11_playGame 51 = .ok (.aload_n 0, 1) := by decide +kernel
theorem dX11_playGame_52 : decode cX11_playGame 52 = .ok (.getfield 75, 3) := by decide +kernel
theorem dX11_playGame_55 : decode cX11_playGame 55 = .ok (.getfield 360, 3) := by decide +kernel
theorem dX11_playGame_58 : decode cX11_playGame 58 = .ok (.iload_n 1, 1) := by decide +kernel
theorem dX11_playGame_59 : decode cX11_playGame 59 = .ok (.iaload, 1) := by decide +kernel
theorem dX11_playGame_60 : decode cX11_playGame 60 = .ok (.iload_n 2, 1) := by decide +kernel
theorem dX11_playGame_61 : decode cX11_playGame 61 = .ok (.if_icmp .ne 8, 3) := by decide +kernel
theorem dX11_playGame_64 : decode cX11_playGame 64 = .ok (.bipush 6, 2) := by decide +kernel
theorem dX11_playGame_66 : decode cX11_playGame 66 = .ok (.goto 4, 3) := by decide +kernel
theorem dX11_playGame_69 : decode cX11_playGame 69 = .ok (.iconst 0, 1) := by decide +kernel
theorem dX11_playGame_70 : decode cX11_playGame 70 = .ok (.istore 5, 2) := by decide +kernel
theorem dX11_playGame_72 : decode cX11_playGame 72 = .ok (.aload_n 0, 1) := by decide +kernel
theorem dX11_playGame_73 : decode cX11_playGame 73 = .ok (.getfield 75, 3) := by decide +kernel
theorem dX11_playGame_76 : decode cX11_playGame 76 = .ok (.getfield 360, 3) := by decide +kernel
theorem dX11_playGame_79 : decode cX11_playGame 79 = .ok (.iload_n 1, 1) := by decide +kernel
theorem dX11_playGame_80 : decode cX11_playGame 80 = .ok (.iaload, 1) := by decide +kernel
theorem dX11_playGame_81 : decode cX11_playGame 81 = .ok (.iconst (-1), 1) := by decide +kernel
theorem dX11_playGame_82 : decode cX11_playGame 82 = .ok (.if_icmp .ne 7, 3) := by decide +kernel
theorem dX11_playGame_85 : decode cX11_playGame 85 = .ok (.iconst 0, 1) := by decide +kernel
theorem dX11_playGame_86 : decode cX11_playGame 86 = .ok (.goto 5, 3) := by decide +kernel
theorem dX11_playGame_89 : decode cX11_playGame 89 = .ok (.bipush 6, 2) := by decide +kernel
theorem dX11_playGame_91 : decode cX11_playGame 91 = .ok (.istore 6, 2) := by decide +kernel
theorem dX11_playGame_93 : decode cX11_playGame 93 = .ok (.aload_n 0, 1) := by decide +kernel
theorem dX11_playGame_94 : decode cX11_playGame 94 = .ok (.getfield 94, 3) := by decide +kernel
theorem dX11_playGame_97 : decode cX11_playGame 97 = .ok (.iconst 2, 1) := by decide +kernel
theorem dX11_playGame_98 : decode cX11_playGame 98 = .ok (.iload_n 3, 1) := by decide +kernel
theorem dX11_playGame_99 : decode cX11_playGame 99 = .ok (.imul, 1) := by decide +kernel
theorem dX11_playGame_100 : decode cX11_playGame 100 = .ok (.iload 4, 2) := by decide +kernel
theorem dX11_playGame_102 : decode cX11_playGame 102 = .ok (.iadd, 1) := by decide +kernel
theorem dX11_playGame_103 : decode cX11_playGame 103 = .ok (.iload_n 3, 1) := by decide +kernel
theorem dX11_playGame_104 : decode cX11_playGame 104 = .ok (.ifCond .ne 8, 3) := by decide +kernel
theorem dX11_playGame_107 : decode cX11_playGame 107 = .ok (.iload 5, 2) := by decide +kernel
theorem dX11_playGame_109 : decode cX11_playGame 109 = .ok (.goto 7, 3) := by decide +kernel
theorem dX11_playGame_112 : decode cX11_playGame 112 = .ok (.iload 5, 2) := by decide +kernel
theorem dX11_playGame_114 : decode cX11_playGame 114 = .ok (.iconst 2, 1) := by decide +kernel
theorem dX11_playGame_115 : decode cX11_playGame 115 = .ok (.isub, 1) := by decide +kernel
theorem dX11_playGame_116 : decode cX11_playGame 116 = .ok (.iastore, 1) := by decide +kernel
theorem dX11_playGame_117 : decode cX11_playGame 117 = .ok (.aload_n 0, 1) := by decide +kernel
theorem dX11_playGame_118 : decode cX11_playGame 118 = .ok (.getfield 94, 3) := by decide +kernel
theorem dX11_playGame_121 : decode cX11_playGame 121 = .ok (.bipush 8, 2) := by decide +kernel
theorem dX11_playGame_123 : decode cX11_playGame 123 = .ok (.iconst 2, 1) := by decide +kernel
theorem dX11_playGame_124 : decode cX11_playGame 124 = .ok (.iload_n 3, 1) := by decide +kernel
theorem dX11_playGame_125 : decode cX11_playGame 125 = .ok (.imul, 1) := by decide +kernel
theorem dX11_playGame_126 : decode cX11_playGame 126 = .ok (.iadd, 1) := by decide +kernel
theorem dX11_playGame_127 : decode cX11_playGame 127 = .ok (.iload 4, 2) := by decide +kernel
theorem dX11_playGame_129 : decode cX11_playGame 129 = .ok (.iadd, 1) := by decide +kernel
theorem dX11_playGame_130 : decode cX11_playGame 130 = .ok (.iload 6, 2) := by decide +kernel
theorem dX11_playGame_132 : decode cX11_playGame 132 = .ok (.ineg, 1) := by decide +kernel
theorem dX11_playGame_133 : decode cX11_playGame 133 = .ok (.aload_n 0, 1) := by decide +kernel
theorem dX11_playGame_134 : decode cX11_playGame 134 = .ok (.getfield 42, 3) := by decide +kernel
theorem dX11_playGame_137 : decode cX11_playGame 137 = .ok (.iload_n 1, 1) := by decide +kernel
theorem dX11_playGame_138 : decode cX11_playGame 138 = .ok (.iload 4, 2) := by decide +kernel
theorem dX11_playGame_140 : decode cX11_playGame 140 = .ok (.invokevirtual 393, 3) := by decide +kernel
theorem dX11_playGame_143 : decode cX11_playGame 143 = .ok (.isub, 1) := by decide +kernel
theorem dX11_playGame_144 : decode cX11_playGame 144 = .ok (.iastore, 1) := by decide +kernel
theorem dX11_playGame_145 : decode cX11_playGame 145 = .ok (.return_, 1) := by decide +kernel
section
variable {g : GG} {p : Program} {l : Launch} {e : Env} {R : Room} {s : State} {m : MethodId} {args : Array Value} {below : List Frame} {meth : Method} {c : Code} {n0 z0 : Nat}
def f_X11_playGame_116  (o0 : Nat) (x1 : Int32) (x3 : Int32) (x4 : Int32) (x6 : Int32) (s0 : Nat) (s1 : Int32) (s2 : Int32) (h : AH) : Option (Unit × AH) :=
  (uI 0 h s0 s1 s2).bind fun h1 =>
  (gR [11] h1 o0 13).bind fun v3 =>
  (gR [11] h1 o0 4).bind fun v5 =>
  (isC [10] h1 v5).bind fun _ =>
  cN (f_X10_walkLength v5 x1 x4 h1) h1 fun v7 h8 =>
  (uI 0 h8 v3 ((8 + (2 * x3)) + x4) ((-x6) - v7)).bind fun h12 =>
  some ((), h12)
set_option maxHeartbeats 1000000 in
theorem w_X11_playGame_116 (X : Cx g p s m args meth c cX11_playGame 7 "TrapCorner") (hR : 6 ≤ R.frames ∧ 384 ≤ R.locals) (hr : meth.sig.returnType = none) {res : Unit × AH} : ∀ (o0 : Nat) (x1 : Int32) (x3 : Int32) (x4 : Int32) (x6 : Int32) (s0 : Nat) (s1 : Int32) (s2 : Int32) (h : AH) (ls : Array Slot) (H : Heap) (locs : List Loc), f_X11_playGame_116 o0 x1 x3 x4 x6 s0 s1 s2 h = some res → Iv g s n0 z0 h H locs 0 0 → lv_has ls 7 [(0, .ref (rfG g o0)), (1, .int x1), (3, .int x3), (4, .int x4), (6, .int x6)] → W p l e R s m args below meth c H locs 0 0 (MQ below (QG g none res.2) args s 0 0 (AG g)) (F0 m 116 ls [.int s2, .int s1, .ref (rfG g s0)]) := by
  have hx := X.1
  have hb := X.2.1
  intro o0 x1 x3 x4 x6 s0 s1 s2 h ls H locs hf I hl
  unfold f_X11_playGame_116 at hf
  obtain ⟨h1, e2, hf⟩ := Option.bind_eq_some_iff.mp hf
  refine r_uI0 X I e2 dX11_playGame_116 (fun H locs I => ?_)
  refine lv_aload_n hx hb dX11_playGame_117 rfl (lv_at hl 0 rfl) ?_
  obtain ⟨v3, e4, hf⟩ := Option.bind_eq_some_iff.mp hf
  refine r_gR X I e4 lk_TrapCorner_94 dX11_playGame_118 ?_
  refine lv_bipush (v := 8) hx hb dX11_playGame_121 (by decide) ?_
  refine lv_iconst (v := 2) hx hb dX11_playGame_123 (by decide) ?_
  refine lv_iload_n hx hb dX11_playGame_124 rfl (lv_at hl 2 rfl) ?_
  refine lv_imul hx hb dX11_playGame_125 ?_
  refine lv_iadd hx hb dX11_playGame_126 ?_
  refine lv_iload hx hb dX11_playGame_127 (lv_at hl 3 rfl) ?_
  refine lv_iadd hx hb dX11_playGame_129 ?_
  refine lv_iload hx hb dX11_playGame_130 (lv_at hl 4 rfl) ?_
  refine lv_ineg hx hb dX11_playGame_132 ?_
  refine lv_aload_n hx hb dX11_playGame_133 rfl (lv_at hl 0 rfl) ?_
  obtain ⟨v5, e6, hf⟩ := Option.bind_eq_some_iff.mp hf
  refine r_gR X I e6 lk_TrapCorner_42 dX11_playGame_134 ?_
  refine lv_iload_n hx hb dX11_playGame_137 rfl (lv_at hl 1 rfl) ?_
  refine lv_iload hx hb dX11_playGame_138 (lv_at hl 3 rfl) ?_
  obtain ⟨_, g11, hf⟩ := Option.bind_eq_some_iff.mp hf
  obtain ⟨v7, h8, e9, z10, hf⟩ := cN_spec hf
  refine k_Vi (As := [.int x1, .int x4]) (rest := [.int (-x6), .int ((8 + (2 * x3)) + x4), .ref (rfG g v3)]) X I (c_X10_walkLength l g v5 x1 x4 e9) z10 g11 vk_TrapCorner_393 tw_906 ⟨Nat.le_trans (by decide) hR.1, Nat.le_trans (by decide) hR.2⟩ ⟨Nat.zero_le _, Nat.zero_le _⟩ rfl hl.1 rfl (Nat.le_of_ble_eq_true rfl) dX11_playGame_140 (fun H locs I => ?_)
  refine lv_isub hx hb dX11_playGame_143 ?_
  obtain ⟨h12, e13, hf⟩ := Option.bind_eq_some_iff.mp hf
  refine r_uI0 X I e13 dX11_playGame_144 (fun H locs I => ?_)
  cases hf
  exact k_rv X I hr dX11_playGame_145
def f_X11_playGame_91  (o0 : Nat) (x1 : Int32) (x3 : Int32) (x4 : Int32) (x5 : Int32) (s0 : Int32) (h : AH) : Option (Unit × AH) :=
  (gR [11] h o0 13).bind fun v1 =>
  if x3 = 0 then
    f_X11_playGame_116 o0 x1 x3 x4 s0 v1 ((2 * x3) + x4) x5 h
  else
    f_X11_playGame_116 o0 x1 x3 x4 s0 v1 ((2 * x3) + x4) (x5 - 2) h
set_option maxHeartbeats 1000000 in
theorem w_X11_playGame_91 (X : Cx g p s m args meth c cX11_playGame 7 "TrapCorner") (hR : 6 ≤ R.frames ∧ 384 ≤ R.locals) (hr : meth.sig.returnType = none) {res : Unit × AH} : ∀ (o0 : Nat) (x1 : Int32) (x3 : Int32) (x4 : Int32) (x5 : Int32) (s0 : Int32) (h : AH) (ls : Array Slot) (H : Heap) (locs : List Loc), f_X11_playGame_91 o0 x1 x3 x4 x5 s0 h = some res → Iv g s n0 z0 h H locs 0 0 → lv_has ls 7 [(0, .ref (rfG g o0)), (1, .int x1), (3, .int x3), (4, .int x4), (5, .int x5)] → W p l e R s m args below meth c H locs 0 0 (MQ below (QG g none res.2) args s 0 0 (AG g)) (F0 m 91 ls [.int s0]) := by
  have hx := X.1
  have hb := X.2.1
  intro o0 x1 x3 x4 x5 s0 h ls H locs hf I hl
  unfold f_X11_playGame_91 at hf
  refine lv_istore (lv' := [(6, .int s0), (0, .ref (rfG g o0)), (1, .int x1), (3, .int x3), (4, .int x4), (5, .int x5)]) hx hb dX11_playGame_91 hl (by decide) rfl (fun ls hl => ?_)
  refine lv_aload_n hx hb dX11_playGame_93 rfl (lv_at hl 1 rfl) ?_
  obtain ⟨v1, e2, hf⟩ := Option.bind_eq_some_iff.mp hf
  refine r_gR X I e2 lk_TrapCorner_94 dX11_playGame_94 ?_
  refine lv_iconst (v := 2) hx hb dX11_playGame_97 (by decide) ?_
  refine lv_iload_n hx hb dX11_playGame_98 rfl (lv_at hl 3 rfl) ?_
  refine lv_imul hx hb dX11_playGame_99 ?_
  refine lv_iload hx hb dX11_playGame_100 (lv_at hl 4 rfl) ?_
  refine lv_iadd hx hb dX11_playGame_102 ?_
  refine lv_iload_n hx hb dX11_playGame_103 rfl (lv_at hl 3 rfl) ?_
  refine lv_if_ne (tgt := 112) hx hb dX11_playGame_104 (by decide) (fun c3 => ?_) (fun c3 => ?_)
  · rw [if_neg c3] at hf
    refine lv_iload hx hb dX11_playGame_112 (lv_at hl 5 rfl) ?_
    refine lv_iconst (v := 2) hx hb dX11_playGame_114 (by decide) ?_
    refine lv_isub hx hb dX11_playGame_115 ?_
    exact w_X11_playGame_116 X hR hr  o0 x1 x3 x4 s0 v1 ((2 * x3) + x4) (x5 - 2) h ls H locs hf I (lv_sub hl [1, 2, 3, 4, 0] rfl)
  · rw [if_pos c3] at hf
    refine lv_iload hx hb dX11_playGame_107 (lv_at hl 5 rfl) ?_
    refine lv_goto (tgt := 116) hx hb dX11_playGame_109 (by decide) ?_
    exact w_X11_playGame_116 X hR hr  o0 x1 x3 x4 s0 v1 ((2 * x3) + x4) x5 h ls H locs hf I (lv_sub hl [1, 2, 3, 4, 0] rfl)
def f_X11_playGame_70  (o0 : Nat) (x1 : Int32) (x3 : Int32) (x4 : Int32) (s0 : Int32) (h : AH) : Option (Unit × AH) :=
  (gR [11] h o0 9).bind fun v1 =>
  (gR [6] h v1 2).bind fun v3 =>
  (aI 0 h v3 x1).bind fun v5 =>
  if v5 = ((-1)) then
    f_X11_playGame_91 o0 x1 x3 x4 s0 0 h
  else
    f_X11_playGame_91 o0 x1 x3 x4 s0 6 h
set_option maxHeartbeats 1000000 in
theorem w_X11_playGame_70 (X : Cx g p s m args meth c cX11_playGame 7 "TrapCorner") (hR : 6 ≤ R.frames ∧ 384 ≤ R.locals) (hr : meth.sig.returnType = none) {res : Unit × AH} : ∀ (o0 : Nat) (x1 : Int32) (x3 : Int32) (x4 : Int32) (s0 : Int32) (h : AH) (ls : Array Slot) (H : Heap) (locs : List Loc), f_X11_playGame_70 o0 x1 x3 x4 s0 h = some res → Iv g s n0 z0 h H locs 0 0 → lv_has ls 7 [(0, .ref (rfG g o0)), (1, .int x1), (3, .int x3), (4, .int x4)] → W p l e R s m args below meth c H locs 0 0 (MQ below (QG g none res.2) args s 0 0 (AG g)) (F0 m 70 ls [.int s0]) := by
  have hx := X.1
  have hb := X.2.1
  intro o0 x1 x3 x4 s0 h ls H locs hf I hl
  unfold f_X11_playGame_70 at hf
  refine lv_istore (lv' := [(5, .int s0), (0, .ref (rfG g o0)), (1, .int x1), (3, .int x3), (4, .int x4)]) hx hb dX11_playGame_70 hl (by decide) rfl (fun ls hl => ?_)
  refine lv_aload_n hx hb dX11_playGame_72 rfl (lv_at hl 1 rfl) ?_
  obtain ⟨v1, e2, hf⟩ := Option.bind_eq_some_iff.mp hf
  refine r_gR X I e2 lk_TrapCorner_75 dX11_playGame_73 ?_
  obtain ⟨v3, e4, hf⟩ := Option.bind_eq_some_iff.mp hf
  refine r_gR X I e4 lk_TrapCorner_360 dX11_playGame_76 ?_
  refine lv_iload_n hx hb dX11_playGame_79 rfl (lv_at hl 2 rfl) ?_
  obtain ⟨v5, e6, hf⟩ := Option.bind_eq_some_iff.mp hf
  refine r_aI0 X I e6 dX11_playGame_80 ?_
  refine lv_iconst (v := (-1)) hx hb dX11_playGame_81 (by decide) ?_
  refine lv_icmp_ne (tgt := 89) hx hb dX11_playGame_82 (by decide) (fun c7 => ?_) (fun c7 => ?_)
  · rw [if_neg c7] at hf
    refine lv_bipush (v := 6) hx hb dX11_playGame_89 (by decide) ?_
    exact w_X11_playGame_91 X hR hr  o0 x1 x3 x4 s0 6 h ls H locs hf I (lv_sub hl [1, 2, 3, 4, 0] rfl)
  · rw [if_pos c7] at hf
    refine lv_iconst (v := 0) hx hb dX11_playGame_85 (by decide) ?_
    refine lv_goto (tgt := 91) hx hb dX11_playGame_86 (by decide) ?_
    exact w_X11_playGame_91 X hR hr  o0 x1 x3 x4 s0 0 h ls H locs hf I (lv_sub hl [1, 2, 3, 4, 0] rfl)
def f_X11_playGame_0  (o0 : Nat) (x1 : Int32) (x2 : Int32) (x3 : Int32) (x4 : Int32) (h : AH) : Option (Unit × AH) :=
  (gR [11] h o0 6).bind fun v1 =>
  (gR [11] h o0 5).bind fun v3 =>
  (isC [8] h v1).bind fun _ =>
  cN (f_X8_copyFrom v1 v3 h) h fun _ h6 =>
  (gR [11] h6 o0 6).bind fun v10 =>
  (gR [8] h6 v10 0).bind fun v12 =>
  (uI 0 h6 v12 x2 x3).bind fun h14 =>
  (gR [11] h14 o0 6).bind fun v16 =>
  (gR [8] h14 v16 4).bind fun v18 =>
  (uI 0 h14 v18 x1 x4).bind fun h20 =>
  (gR [11] h20 o0 9).bind fun v22 =>
  (gR [11] h20 o0 6).bind fun v24 =>
  (gR [11] h20 o0 4).bind fun v26 =>
  (gI [10] h20 v26 1).bind fun v28 =>
  (isC [6] h20 v22).bind fun _ =>
  cN (f_X6_play v22 v24 v28 0 h20) h20 fun _ h31 =>
  (gR [11] h31 o0 9).bind fun v35 =>
  (gR [6] h31 v35 2).bind fun v37 =>
  (aI 0 h31 v37 x1).bind fun v39 =>
  if v39 = x2 then
    f_X11_playGame_70 o0 x1 x3 x4 6 h31
  else
    f_X11_playGame_70 o0 x1 x3 x4 0 h31
set_option maxHeartbeats 1000000 in
theorem w_X11_playGame_0 (X : Cx g p s m args meth c cX11_playGame 7 "TrapCorner") (hR : 6 ≤ R.frames ∧ 384 ≤ R.locals) (hr : meth.sig.returnType = none) {res : Unit × AH} : ∀ (o0 : Nat) (x1 : Int32) (x2 : Int32) (x3 : Int32) (x4 : Int32) (h : AH) (ls : Array Slot) (H : Heap) (locs : List Loc), f_X11_playGame_0 o0 x1 x2 x3 x4 h = some res → Iv g s n0 z0 h H locs 0 0 → lv_has ls 7 [(0, .ref (rfG g o0)), (1, .int x1), (2, .int x2), (3, .int x3), (4, .int x4)] → W p l e R s m args below meth c H locs 0 0 (MQ below (QG g none res.2) args s 0 0 (AG g)) (F0 m 0 ls []) := by
  have hx := X.1
  have hb := X.2.1
  intro o0 x1 x2 x3 x4 h ls H locs hf I hl
  unfold f_X11_playGame_0 at hf
  refine lv_aload_n hx hb dX11_playGame_0 rfl (lv_at hl 0 rfl) ?_
  obtain ⟨v1, e2, hf⟩ := Option.bind_eq_some_iff.mp hf
  refine r_gR X I e2 lk_TrapCorner_53 dX11_playGame_1 ?_
  refine lv_aload_n hx hb dX11_playGame_4 rfl (lv_at hl 0 rfl) ?_
  obtain ⟨v3, e4, hf⟩ := Option.bind_eq_some_iff.mp hf
  refine r_gR X I e4 lk_TrapCorner_49 dX11_playGame_5 ?_
  obtain ⟨_, g9, hf⟩ := Option.bind_eq_some_iff.mp hf
  obtain ⟨⟨⟩, h6, e7, z8, hf⟩ := cN_spec hf
  refine k_Vv (As := [.ref (rfG g v3)]) (rest := []) X I (c_X8_copyFrom l g v1 v3 e7) z8 g9 vk_TrapCorner_350 tw_892 ⟨Nat.le_trans (by decide) hR.1, Nat.le_trans (by decide) hR.2⟩ ⟨Nat.zero_le _, Nat.zero_le _⟩ rfl hl.1 rfl (Nat.le_of_ble_eq_true rfl) dX11_playGame_8 (fun H locs I => ?_)
  refine lv_aload_n hx hb dX11_playGame_11 rfl (lv_at hl 0 rfl) ?_
  obtain ⟨v10, e11, hf⟩ := Option.bind_eq_some_iff.mp hf
  refine r_gR X I e11 lk_TrapCorner_53 dX11_playGame_12 ?_
  obtain ⟨v12, e13, hf⟩ := Option.bind_eq_some_iff.mp hf
  refine r_gR X I e13 lk_TrapCorner_188 dX11_playGame_15 ?_
  refine lv_iload_n hx hb dX11_playGame_18 rfl (lv_at hl 2 rfl) ?_
  refine lv_iload_n hx hb dX11_playGame_19 rfl (lv_at hl 3 rfl) ?_
  obtain ⟨h14, e15, hf⟩ := Option.bind_eq_some_iff.mp hf
  refine r_uI0 X I e15 dX11_playGame_20 (fun H locs I => ?_)
  refine lv_aload_n hx hb dX11_playGame_21 rfl (lv_at hl 0 rfl) ?_
  obtain ⟨v16, e17, hf⟩ := Option.bind_eq_some_iff.mp hf
  refine r_gR X I e17 lk_TrapCorner_53 dX11_playGame_22 ?_
  obtain ⟨v18, e19, hf⟩ := Option.bind_eq_some_iff.mp hf
  refine r_gR X I e19 lk_TrapCorner_219 dX11_playGame_25 ?_
  refine lv_iload_n hx hb dX11_playGame_28 rfl (lv_at hl 1 rfl) ?_
  refine lv_iload hx hb dX11_playGame_29 (lv_at hl 4 rfl) ?_
  obtain ⟨h20, e21, hf⟩ := Option.bind_eq_some_iff.mp hf
  refine r_uI0 X I e21 dX11_playGame_31 (fun H locs I => ?_)
  refine lv_aload_n hx hb dX11_playGame_32 rfl (lv_at hl 0 rfl) ?_
  obtain ⟨v22, e23, hf⟩ := Option.bind_eq_some_iff.mp hf
  refine r_gR X I e23 lk_TrapCorner_75 dX11_playGame_33 ?_
  refine lv_aload_n hx hb dX11_playGame_36 rfl (lv_at hl 0 rfl) ?_
  obtain ⟨v24, e25, hf⟩ := Option.bind_eq_some_iff.mp hf
  refine r_gR X I e25 lk_TrapCorner_53 dX11_playGame_37 ?_
  refine lv_aload_n hx hb dX11_playGame_40 rfl (lv_at hl 0 rfl) ?_
  obtain ⟨v26, e27, hf⟩ := Option.bind_eq_some_iff.mp hf
  refine r_gR X I e27 lk_TrapCorner_42 dX11_playGame_41 ?_
  obtain ⟨v28, e29, hf⟩ := Option.bind_eq_some_iff.mp hf
  refine r_gI X I e29 lk_TrapCorner_156 dX11_playGame_44 ?_
  refine lv_iconst (v := 0) hx hb dX11_playGame_47 (by decide) ?_
  obtain ⟨_, g34, hf⟩ := Option.bind_eq_some_iff.mp hf
  obtain ⟨⟨⟩, h31, e32, z33, hf⟩ := cN_spec hf
  refine k_Vv (As := [.ref (rfG g v24), .int v28, .int 0]) (rest := []) X I (c_X6_play l g v22 v24 v28 0 e32) z33 g34 vk_TrapCorner_343 tw_901 ⟨Nat.le_trans (by decide) hR.1, Nat.le_trans (by decide) hR.2⟩ ⟨Nat.zero_le _, Nat.zero_le _⟩ rfl hl.1 rfl (Nat.le_of_ble_eq_true rfl) dX11_playGame_48 (fun H locs I => ?_)
  refine lv_aload_n hx hb dX11_playGame_51 rfl (lv_at hl 0 rfl) ?_
  obtain ⟨v35, e36, hf⟩ := Option.bind_eq_some_iff.mp hf
  refine r_gR X I e36 lk_TrapCorner_75 dX11_playGame_52 ?_
  obtain ⟨v37, e38, hf⟩ := Option.bind_eq_some_iff.mp hf
  refine r_gR X I e38 lk_TrapCorner_360 dX11_playGame_55 ?_
  refine lv_iload_n hx hb dX11_playGame_58 rfl (lv_at hl 1 rfl) ?_
  obtain ⟨v39, e40, hf⟩ := Option.bind_eq_some_iff.mp hf
  refine r_aI0 X I e40 dX11_playGame_59 ?_
  refine lv_iload_n hx hb dX11_playGame_60 rfl (lv_at hl 2 rfl) ?_
  refine lv_icmp_ne (tgt := 69) hx hb dX11_playGame_61 (by decide) (fun c41 => ?_) (fun c41 => ?_)
  · rw [if_neg c41] at hf
    refine lv_iconst (v := 0) hx hb dX11_playGame_69 (by decide) ?_
    exact w_X11_playGame_70 X hR hr  o0 x1 x3 x4 0 h31 ls H locs hf I (lv_sub hl [0, 1, 3, 4] rfl)
  · rw [if_pos c41] at hf
    refine lv_bipush (v := 6) hx hb dX11_playGame_64 (by decide) ?_
    refine lv_goto (tgt := 70) hx hb dX11_playGame_66 (by decide) ?_
    exact w_X11_playGame_70 X hR hr  o0 x1 x3 x4 6 h31 ls H locs hf I (lv_sub hl [0, 1, 3, 4] rfl)
def f_X11_playGame (o0 : Nat) (x1 : Int32) (x2 : Int32) (x3 : Int32) (x4 : Int32) (h : AH) : Option (Unit × AH) := f_X11_playGame_0 o0 x1 x2 x3 x4 h
end
theorem c_X11_playGame (l : Launch) (g : GG) (o0 : Nat) (x1 : Int32) (x2 : Int32) (x3 : Int32) (x4 : Int32) {h : AH} {res : Unit × AH} (hf : f_X11_playGame o0 x1 x2 x3 x4 h = some res) : CM l g yX11_playGame cX11_playGame 7 none 6 384 0 0 [.ref (rfG g o0), .int x1, .int x2, .int x3, .int x4] h none res.2 :=
  k_body (by decide) (Nat.le_of_ble_eq_true rfl) (fun p e s m below meth c R ls hR hr X I hl => w_X11_playGame_0 X ⟨Nat.le_of_eq hR.1.symm, Nat.le_of_eq hR.2.1.symm⟩ hr o0 x1 x2 x3 x4 h ls s.heap [] hf I (lv_sub hl [0, 1, 2, 3, 4] rfl))
/-! TrapCorner.odds(II)I -/
theorem dX11_odds_0 : decode cX11_odds 0 = .ok (.aload_n 0, 1) := by decide +kernel
theorem dX11_odds_1 : decode cX11_odds 1 = .ok (.iload_n 1, 1) := by decide +kernel
theorem dX11_odds_2 : decode cX11_odds 2 = .ok (.invokevirtual 194, 3) := by decide +kernel
theorem dX11_odds_5 : decode cX11_odds 5 = .ok (.ifCond .eq 13, 3) := by decide +kernel
theorem dX11_odds_8 : decode cX11_odds 8 = .ok (.iload_n 2, 1) := by decide +kernel
theorem dX11_odds_9 : decode cX11_odds 9 = .ok (.ifCond .lt 9, 3) := by decide +kernel
theorem dX11_odds_12 : decode cX11_odds 12 = .ok (.iload_n 2, 1) := by decide +kernel
theorem dX11_odds_13 : decode cX11_odds 13 = .ok (.bipush 100, 2) := by decide +kernel
theorem dX11_odds_15 : decode cX11_odds 15 = .ok (.if_icmp .le 5, 3) := by decide +kernel
theorem dX11_odds_18 : decode cX11_odds 18 = .ok (.iconst (-1), 1) := by decide +kernel
theorem dX11_odds_19 : decode cX11_odds 19 = .ok (.ireturn, 1) := by decide +kernel
theorem dX11_odds_20 : decode cX11_odds 20 = .ok (.aload_n 0, 1) := by decide +kernel
theorem dX11_odds_21 : decode cX11_odds 21 = .ok (.getfield 75, 3) := by decide +kernel
theorem dX11_odds_24 : decode cX11_odds 24 = .ok (.aload_n 0, 1) := by decide +kernel
theorem dX11_odds_25 : decode cX11_odds 25 = .ok (.getfield 49, 3) := by decide +kernel
theorem dX11_odds_28 : decode cX11_odds 28 = .ok (.iload_n 1, 1) := by decide +kernel
theorem dX11_odds_29 : decode cX11_odds 29 = .ok (.iconst 0, 1) := by decide +kernel
theorem dX11_odds_30 : decode cX11_odds 30 = .ok (.invokevirtual 343, 3) := by decide +kernel
theorem dX11_odds_33 : decode cX11_odds 33 = .ok (.ldc2_w 414, 3) := by decide +kernel
theorem dX11_odds_36 : decode cX11_odds 36 = .ok (.lstore_n 3, 1) := by decide +kernel
theorem dX11_odds_37 : decode cX11_odds 37 = .ok (.aload_n 0, 1) := by decide +kernel
theorem dX11_odds_38 : decode cX11_odds 38 = .ok (.getfield 42, 3) := by decide +kernel
theorem dX11_odds_41 : decode cX11_odds 41 = .ok (.getfield 213, 3) := by decide +kernel
theorem dX11_odds_44 : decode cX11_odds 44 = .ok (.iload_n 1, 1) := by decide +kernel
theorem dX11_odds_45 : decode cX11_odds 45 = .ok (.iaload, 1) := by decide +kernel
theorem dX11_odds_46 : decode cX11_odds 46 = .ok (.istore 5, 2) := by decide +kernel
theorem dX11_odds_48 : decode cX11_odds 48 = .ok (.aload_n 0, 1) := by decide +kernel
theorem dX11_odds_49 : decode cX11_odds 49 = .ok (.getfield 42, 3) := by decide +kernel
theorem dX11_odds_52 : decode cX11_odds 52 = .ok (.iload_n 1, 1) := by decide +kernel
theorem dX11_odds_53 : decode cX11_odds 53 = .ok (.aload_n 0, 1) := by decide +kernel
theorem dX11_odds_54 : decode cX11_odds 54 = .ok (.getfield 49, 3) := by decide +kernel
theorem dX11_odds_57 : decode cX11_odds 57 = .ok (.getfield 219, 3) := by decide +kernel
theorem dX11_odds_60 : decode cX11_odds 60 = .ok (.iload_n 1, 1) := by decide +kernel
theorem dX11_odds_61 : decode cX11_odds 61 = .ok (.iaload, 1) := by decide +kernel
theorem dX11_odds_62 : decode cX11_odds 62 = .ok (.invokevirtual 393, 3) := by decide +kernel
theorem dX11_odds_65 : decode cX11_odds 65 = .ok (.istore 6, 2) := by decide +kernel
theorem dX11_odds_67 : decode cX11_odds 67 = .ok (.iconst 0, 1) := by decide +kernel
theorem dX11_odds_68 : decode cX11_odds 68 = .ok (.istore 7, 2) := by decide +kernel
theorem dX11_odds_70 : decode cX11_odds 70 = .ok (.iload 7, 2) := by decide +kernel
theorem dX11_odds_72 : decode cX11_odds 72 = .ok (.iload 6, 2) := by decide +kernel
theorem dX11_odds_74 : decode cX11_odds 74 = .ok (.if_icmp .ge 56, 3) := by decide +kernel
theorem dX11_odds_77 : decode cX11_odds 77 = .ok (.aload_n 0, 1) := by decide +kernel
theorem dX11_odds_78 : decode cX11_odds 78 = .ok (.getfield 42, 3) := by decide +kernel
theorem dX11_odds_81 : decode cX11_odds 81 = .ok (.iload 5, 2) := by decide +kernel
theorem dX11_odds_83 : decode cX11_odds 83 = .ok (.aload_n 0, 1) := by decide +kernel
theorem dX11_odds_84 : decode cX11_odds 84 = .ok (.getfield 49, 3) := by decide +kernel
theorem dX11_odds_87 : decode cX11_odds 87 = .ok (.getfield 219, 3) := by decide +kernel
theorem dX11_odds_90 : decode cX11_odds 90 = .ok (.iload_n 1, 1) := by decide +kernel
theorem dX11_odds_91 : decode cX11_odds 91 = .ok (.iaload, 1) := by decide +kernel
theorem dX11_odds_92 : decode cX11_odds 92 = .ok (.invokevirtual 416, 3) := by decide +kernel
theorem dX11_odds_95 : decode cX11_odds 95 = .ok (.istore 5, 2) := by decide +kernel
theorem dX11_odds_97 : decode cX11_odds 97 = .ok (.aload_n 0, 1) := by decide +kernel
theorem dX11_odds_98 : decode cX11_odds 98 = .ok (.getfield 75, 3) := by decide +kernel
theorem dX11_odds_101 : decode cX11_odds 101 = .ok (.aload_n 0, 1) := by decide +kernel
theorem dX11_odds_102 : decode cX11_odds 102 = .ok (.getfield 49, 3) := by decide +kernel
theorem dX11_odds_105 : decode cX11_odds 105 = .ok (.iload_n 1, 1) := by decide +kernel
theorem dX11_odds_106 : decode cX11_odds 106 = .ok (.iload 5, 2) := by decide +kernel
theorem dX11_odds_108 : decode cX11_odds 108 = .ok (.invokevirtual 419, 3) := by decide +kernel
theorem dX11_odds_111 : decode cX11_odds 111 = .ok (.iconst 2, 1) := by decide +kernel
theorem dX11_odds_112 : decode cX11_odds 112 = .ok (.if_icmp .ne 12, 3) := by decide +kernel
theorem dX11_odds_115 : decode cX11_odds 115 = .ok (.lload_n 3, 1) := by decide +kernel
theorem dX11_odds_116 : decode cX11_odds 116 = .ok (.iload_n 2, 1) := by decide +kernel
theorem dX11_odds_117 : decode cX11_odds 117 = .ok (.i2l, 1) := by decide +kernel
theorem dX11_odds_118 : decode cX11_odds 118 = .ok (.lmul, 1) := by decide +kernel
theorem dX11_odds_119 : decode cX11_odds 119 = .ok (.ldc2_w 423, 3) := by decide +kernel
theorem dX11_odds_122 : decode cX11_odds 122 = .ok (.ldiv, 1) := by decide +kernel
theorem dX11_odds_123 : decode cX11_odds 123 = .ok (.lstore_n 3, 1) := by decide +kernel
theorem dX11_odds_124 : decode cX11_odds 124 = .ok (.iinc 7 1, 3) := by decide +kernel
theorem dX11_odds_127 : decode cX11_odds 127 = .ok (.goto (-57), 3) := by decide +kernel
theorem dX11_odds_130 : decode cX11_odds 130 = .ok (.ldc_w 425, 3) := by decide +kernel
theorem dX11_odds_133 : decode cX11_odds 133 = .ok (.lload_n 3, 1) := by decide +kernel
theorem dX11_odds_134 : decode cX11_odds 134 = .ok (.l2i, 1) := by decide +kernel
theorem dX11_odds_135 : decode cX11_odds 135 = .ok (.isub, 1) := by decide +kernel
theorem dX11_odds_136 : decode cX11_odds 136 = .ok (.ireturn, 1) := by decide +kernel
theorem vk_TrapCorner_416 : VK "TrapCorner" 416 [10] yX10_beyond 2 := ⟨tw_1151, tw_908, tw_5, ⟨by decide, by decide⟩, by decide +kernel, fun ci hci => by
  have hci := List.mem_singleton.mp hci
  subst hci
  exact ⟨_, rfl, tw_909⟩⟩
theorem vk_TrapCorner_419 : VK "TrapCorner" 419 [6] yX6_meets 3 := ⟨tw_1152, tw_912, tw_11, ⟨by decide, by decide⟩, by decide +kernel, fun ci hci => by
  have hci := List.mem_singleton.mp hci
  subst hci
  exact ⟨_, rfl, tw_913⟩⟩
theorem lk_TrapCorner_213 : LK "TrapCorner" 213 [10] 10 := by
  intro ci hci
  have hci := List.mem_singleton.mp hci
  subst hci
  exact ⟨RX10, TX10, 13, "TrapCorner$Town", ck_10, by decide, tw_99, Or.inl rfl⟩
section
variable {g : GG} {p : Program} {l : Launch} {e : Env} {R : Room} {s : State} {m : MethodId} {args : Array Value} {below : List Frame} {meth : Method} {c : Code} {n0 z0 : Nat}
def f_X11_odds_124 (k70 : Nat → Int32 → Int32 → Int64 → Int32 → Int32 → Int32 → AH → Option (Int32 × AH)) (o0 : Nat) (x1 : Int32) (x2 : Int32) (y3 : Int64) (x5 : Int32) (x6 : Int32) (x7 : Int32) (h : AH) : Option (Int32 × AH) :=
  k70 o0 x1 x2 y3 x5 x6 (x7 + 1) h
set_option maxHeartbeats 1000000 in
theorem w_X11_odds_124 (X : Cx g p s m args meth c cX11_odds 8 "TrapCorner") (hR : 6 ≤ R.frames ∧ 384 ≤ R.locals) (hr : meth.sig.returnType = (some (.int))) {res : Int32 × AH} {k70 : Nat → Int32 → Int32 → Int64 → Int32 → Int32 → Int32 → AH → Option (Int32 × AH)} (hk70 : ∀ (o0 : Nat) (x1 : Int32) (x2 : Int32) (y3 : Int64) (x5 : Int32) (x6 : Int32) (x7 : Int32) (h : AH) (ls : Array Slot) (H : Heap) (locs : List Loc), k70 o0 x1 x2 y3 x5 x6 x7 h = some res → Iv g s n0 z0 h H locs 0 0 → lv_has ls 8 [(0, .ref (rfG g o0)), (1, .int x1), (2, .int x2), (3, .long y3), (5, .int x5), (6, .int x6), (7, .int x7)] → W p l e R s m args below meth c H locs 0 0 (MQ below (QG g (some (.int res.1)) res.2) args s 0 0 (AG g)) (F0 m 70 ls [])) : ∀ (o0 : Nat) (x1 : Int32) (x2 : Int32) (y3 : Int64) (x5 : Int32) (x6 : Int32) (x7 : Int32) (h : AH) (ls : Array Slot) (H : Heap) (locs : List Loc), f_X11_odds_124 k70 o0 x1 x2 y3 x5 x6 x7 h = some res → Iv g s n0 z0 h H locs 0 0 → lv_has ls 8 [(0, .ref (rfG g o0)), (1, .int x1), (2, .int x2), (3, .long y3), (5, .int x5), (6, .int x6), (7, .int x7)] → W p l e R s m args below meth c H locs 0 0 (MQ below (QG g (some (.int res.1)) res.2) args s 0 0 (AG g)) (F0 m 124 ls []) := by
  have hx := X.1
  have hb := X.2.1
  intro o0 x1 x2 y3 x5 x6 x7 h ls H locs hf I hl
  unfold f_X11_odds_124 at hf
  refine lv_iinc (v := x7 + 1) (lv' := [(7, .int (x7 + 1)), (0, .ref (rfG g o0)), (1, .int x1), (2, .int x2), (3, .long y3), (5, .int x5), (6, .int x6)]) hx hb dX11_odds_124 hl (k := 6) rfl rfl (by decide) rfl (fun ls hl => ?_)
  refine lv_goto (tgt := 70) hx hb dX11_odds_127 (by decide) ?_
  exact hk70 o0 x1 x2 y3 x5 x6 (x7 + 1) h ls H locs hf I (lv_sub hl [1, 2, 3, 4, 5, 6, 0] rfl)
def f_X11_odds_70  : Nat → Nat → Int32 → Int32 → Int64 → Int32 → Int32 → Int32 → AH → Option (Int32 × AH)
  | 0, _, _, _, _, _, _, _, _ => none
  | n + 1, o0, x1, x2, y3, x5, x6, x7, h =>
  if x6 ≤ x7 then
    some (1000000000 - (y3.toInt32), h)
  else
    (gR [11] h o0 4).bind fun v2 =>
    (gR [11] h o0 5).bind fun v4 =>
    (gR [8] h v4 4).bind fun v6 =>
    (aI 0 h v6 x1).bind fun v8 =>
    (isC [10] h v2).bind fun _ =>
    cN (f_X10_beyond v2 x5 v8 h) h fun v10 h11 =>
    (gR [11] h11 o0 9).bind fun v15 =>
    (gR [11] h11 o0 5).bind fun v17 =>
    (isC [6] h11 v15).bind fun _ =>
    cN (f_X6_meets v15 v17 x1 v10 h11) h11 fun v19 h20 =>
    if v19 = 2 then
      f_X11_odds_124 (f_X11_odds_70 n) o0 x1 x2 ((y3 * (x2.toInt64)) / 100) v10 x6 x7 h20
    else
      f_X11_odds_124 (f_X11_odds_70 n) o0 x1 x2 y3 v10 x6 x7 h20
set_option maxHeartbeats 1000000 in
theorem w_X11_odds_70 (X : Cx g p s m args meth c cX11_odds 8 "TrapCorner") (hR : 6 ≤ R.frames ∧ 384 ≤ R.locals) (hr : meth.sig.returnType = (some (.int))) {res : Int32 × AH} : ∀ (n : Nat) (o0 : Nat) (x1 : Int32) (x2 : Int32) (y3 : Int64) (x5 : Int32) (x6 : Int32) (x7 : Int32) (h : AH) (ls : Array Slot) (H : Heap) (locs : List Loc), f_X11_odds_70 n o0 x1 x2 y3 x5 x6 x7 h = some res → Iv g s n0 z0 h H locs 0 0 → lv_has ls 8 [(0, .ref (rfG g o0)), (1, .int x1), (2, .int x2), (3, .long y3), (5, .int x5), (6, .int x6), (7, .int x7)] → W p l e R s m args below meth c H locs 0 0 (MQ below (QG g (some (.int res.1)) res.2) args s 0 0 (AG g)) (F0 m 70 ls []) := by
  have hx := X.1
  have hb := X.2.1
  intro n
  induction n with
  | zero =>
    intro o0 x1 x2 y3 x5 x6 x7 h ls H locs hf
    rw [f_X11_odds_70.eq_1] at hf
    cases hf
  | succ n ih =>
    intro o0 x1 x2 y3 x5 x6 x7 h ls H locs hf I hl
    rw [f_X11_odds_70.eq_2] at hf
    refine lv_iload hx hb dX11_odds_70 (lv_at hl 6 rfl) ?_
    refine lv_iload hx hb dX11_odds_72 (lv_at hl 5 rfl) ?_
    refine lv_icmp_ge (tgt := 130) hx hb dX11_odds_74 (by decide) (fun c1 => ?_) (fun c1 => ?_)
    · rw [if_pos c1] at hf
      refine lv_ldcw (v := 1000000000) hx hb X.2.2.2.1 (X.2.2.2.2.1 _ tw_1154) dX11_odds_130 ?_
      refine lv_lload_n hx hb dX11_odds_133 rfl (lv_at hl 3 rfl) ?_
      refine lv_l2i hx hb dX11_odds_134 rfl ?_
      refine lv_isub hx hb dX11_odds_135 ?_
      obtain rfl := ret_eq hf
      exact k_ri X I hr dX11_odds_136
    · rw [if_neg c1] at hf
      refine lv_aload_n hx hb dX11_odds_77 rfl (lv_at hl 0 rfl) ?_
      obtain ⟨v2, e3, hf⟩ := Option.bind_eq_some_iff.mp hf
      refine r_gR X I e3 lk_TrapCorner_42 dX11_odds_78 ?_
      refine lv_iload hx hb dX11_odds_81 (lv_at hl 4 rfl) ?_
      refine lv_aload_n hx hb dX11_odds_83 rfl (lv_at hl 0 rfl) ?_
      obtain ⟨v4, e5, hf⟩ := Option.bind_eq_some_iff.mp hf
      refine r_gR X I e5 lk_TrapCorner_49 dX11_odds_84 ?_
      obtain ⟨v6, e7, hf⟩ := Option.bind_eq_some_iff.mp hf
      refine r_gR X I e7 lk_TrapCorner_219 dX11_odds_87 ?_
      refine lv_iload_n hx hb dX11_odds_90 rfl (lv_at hl 1 rfl) ?_
      obtain ⟨v8, e9, hf⟩ := Option.bind_eq_some_iff.mp hf
      refine r_aI0 X I e9 dX11_odds_91 ?_
      obtain ⟨_, g14, hf⟩ := Option.bind_eq_some_iff.mp hf
      obtain ⟨v10, h11, e12, z13, hf⟩ := cN_spec hf
      refine k_Vi (As := [.int x5, .int v8]) (rest := []) X I (c_X10_beyond l g v2 x5 v8 e12) z13 g14 vk_TrapCorner_416 tw_910 ⟨Nat.le_trans (by decide) hR.1, Nat.le_trans (by decide) hR.2⟩ ⟨Nat.zero_le _, Nat.zero_le _⟩ rfl hl.1 rfl (Nat.le_of_ble_eq_true rfl) dX11_odds_92 (fun H locs I => ?_)
      refine lv_istore (lv' := [(5, .int v10), (0, .ref (rfG g o0)), (1, .int x1), (2, .int x2), (3, .long y3), (6, .int x6), (7, .int x7)]) hx hb dX11_odds_95 hl (by decide) rfl (fun ls hl => ?_)
      refine lv_aload_n hx hb dX11_odds_97 rfl (lv_at hl 1 rfl) ?_
      obtain ⟨v15, e16, hf⟩ := Option.bind_eq_some_iff.mp hf
      refine r_gR X I e16 lk_TrapCorner_75 dX11_odds_98 ?_
      refine lv_aload_n hx hb dX11_odds_101 rfl (lv_at hl 1 rfl) ?_
      obtain ⟨v17, e18, hf⟩ := Option.bind_eq_some_iff.mp hf
      refine r_gR X I e18 lk_TrapCorner_49 dX11_odds_102 ?_
      refine lv_iload_n hx hb dX11_odds_105 rfl (lv_at hl 2 rfl) ?_
      refine lv_iload hx hb dX11_odds_106 (lv_at hl 0 rfl) ?_
      obtain ⟨_, g23, hf⟩ := Option.bind_eq_some_iff.mp hf
      obtain ⟨v19, h20, e21, z22, hf⟩ := cN_spec hf
      refine k_Vi (As := [.ref (rfG g v17), .int x1, .int v10]) (rest := []) X I (c_X6_meets l g v15 v17 x1 v10 e21) z22 g23 vk_TrapCorner_419 tw_914 ⟨Nat.le_trans (by decide) hR.1, Nat.le_trans (by decide) hR.2⟩ ⟨Nat.zero_le _, Nat.zero_le _⟩ rfl hl.1 rfl (Nat.le_of_ble_eq_true rfl) dX11_odds_108 (fun H locs I => ?_)
      refine lv_iconst (v := 2) hx hb dX11_odds_111 (by decide) ?_
      refine lv_icmp_ne (tgt := 124) hx hb dX11_odds_112 (by decide) (fun c24 => ?_) (fun c24 => ?_)
      · rw [if_neg c24] at hf
        exact w_X11_odds_124 X hR hr ih o0 x1 x2 y3 v10 x6 x7 h20 ls H locs hf I (lv_sub hl [1, 2, 3, 4, 0, 5, 6] rfl)
      · rw [if_pos c24] at hf
        refine lv_lload_n hx hb dX11_odds_115 rfl (lv_at hl 4 rfl) ?_
        refine lv_iload_n hx hb dX11_odds_116 rfl (lv_at hl 3 rfl) ?_
        refine lv_i2l hx hb dX11_odds_117 rfl ?_
        refine lv_lmul hx hb dX11_odds_118 ?_
        refine lv_ldc2 (v := 100) hx hb X.2.2.2.1 (X.2.2.2.2.1 _ tw_1153) dX11_odds_119 ?_
        refine lv_ldiv hx hb dX11_odds_122 (by decide) ?_
        refine lv_lstore_n (lv' := [(3, .long ((y3 * (x2.toInt64)) / 100)), (5, .int v10), (0, .ref (rfG g o0)), (1, .int x1), (2, .int x2), (6, .int x6), (7, .int x7)]) hx hb dX11_odds_123 rfl hl (by decide) rfl (fun ls hl => ?_)
        exact w_X11_odds_124 X hR hr ih o0 x1 x2 ((y3 * (x2.toInt64)) / 100) v10 x6 x7 h20 ls H locs hf I (lv_sub hl [2, 3, 4, 0, 1, 5, 6] rfl)
def f_X11_odds_0  (o0 : Nat) (x1 : Int32) (x2 : Int32) (h : AH) : Option (Int32 × AH) :=
  (isC [11] h o0).bind fun _ =>
  cN (f_X11_hasPerson o0 x1 h) h fun v1 h2 =>
  if v1 = 0 then
    some ((-1), h2)
  else
    if x2 < 0 then
      some ((-1), h2)
    else
      if x2 ≤ 100 then
        (gR [11] h2 o0 9).bind fun v9 =>
        (gR [11] h2 o0 5).bind fun v11 =>
        (isC [6] h2 v9).bind fun _ =>
        cN (f_X6_play v9 v11 x1 0 h2) h2 fun _ h14 =>
        (gR [11] h14 o0 4).bind fun v18 =>
        (gR [10] h14 v18 10).bind fun v20 =>
        (aI 0 h14 v20 x1).bind fun v22 =>
        (gR [11] h14 o0 4).bind fun v24 =>
        (gR [11] h14 o0 5).bind fun v26 =>
        (gR [8] h14 v26 4).bind fun v28 =>
        (aI 0 h14 v28 x1).bind fun v30 =>
        (isC [10] h14 v24).bind fun _ =>
        cN (f_X10_walkLength v24 x1 v30 h14) h14 fun v32 h33 =>
        f_X11_odds_70 fu o0 x1 x2 1000000000 v22 v32 0 h33
      else
        some ((-1), h2)
set_option maxHeartbeats 1000000 in
theorem w_X11_odds_0 (X : Cx g p s m args meth c cX11_odds 8 "TrapCorner") (hR : 6 ≤ R.frames ∧ 384 ≤ R.locals) (hr : meth.sig.returnType = (some (.int))) {res : Int32 × AH} : ∀ (o0 : Nat) (x1 : Int32) (x2 : Int32) (h : AH) (ls : Array Slot) (H : Heap) (locs : List Loc), f_X11_odds_0 o0 x1 x2 h = some res → Iv g s n0 z0 h H locs 0 0 → lv_has ls 8 [(0, .ref (rfG g o0)), (1, .int x1), (2, .int x2)] → W p l e R s m args below meth c H locs 0 0 (MQ below (QG g (some (.int res.1)) res.2) args s 0 0 (AG g)) (F0 m 0 ls []) := by
  have hx := X.1
  have hb := X.2.1
  intro o0 x1 x2 h ls H locs hf I hl
  unfold f_X11_odds_0 at hf
  refine lv_aload_n hx hb dX11_odds_0 rfl (lv_at hl 0 rfl) ?_
  refine lv_iload_n hx hb dX11_odds_1 rfl (lv_at hl 1 rfl) ?_
  obtain ⟨_, g5, hf⟩ := Option.bind_eq_some_iff.mp hf
  obtain ⟨v1, h2, e3, z4, hf⟩ := cN_spec hf
  refine k_Vi (As := [.int x1]) (rest := []) X I (c_X11_hasPerson l g o0 x1 e3) z4 g5 vk_TrapCorner_194 tw_880 ⟨Nat.le_trans (by decide) hR.1, Nat.le_trans (by decide) hR.2⟩ ⟨Nat.zero_le _, Nat.zero_le _⟩ rfl hl.1 rfl (Nat.le_of_ble_eq_true rfl) dX11_odds_2 (fun H locs I => ?_)
  refine lv_if_eq (tgt := 18) hx hb dX11_odds_5 (by decide) (fun c6 => ?_) (fun c6 => ?_)
  · rw [if_pos c6] at hf
    refine lv_iconst (v := (-1)) hx hb dX11_odds_18 (by decide) ?_
    cases hf
    exact k_ri X I hr dX11_odds_19
  · rw [if_neg c6] at hf
    refine lv_iload_n hx hb dX11_odds_8 rfl (lv_at hl 2 rfl) ?_
    refine lv_if_lt (tgt := 18) hx hb dX11_odds_9 (by decide) (fun c7 => ?_) (fun c7 => ?_)
    · rw [if_pos c7] at hf
      refine lv_iconst (v := (-1)) hx hb dX11_odds_18 (by decide) ?_
      cases hf
      exact k_ri X I hr dX11_odds_19
    · rw [if_neg c7] at hf
      refine lv_iload_n hx hb dX11_odds_12 rfl (lv_at hl 2 rfl) ?_
      refine lv_bipush (v := 100) hx hb dX11_odds_13 (by decide) ?_
      refine lv_icmp_le (tgt := 20) hx hb dX11_odds_15 (by decide) (fun c8 => ?_) (fun c8 => ?_)
      · rw [if_pos c8] at hf
        refine lv_aload_n hx hb dX11_odds_20 rfl (lv_at hl 0 rfl) ?_
        obtain ⟨v9, e10, hf⟩ := Option.bind_eq_some_iff.mp hf
        refine r_gR X I e10 lk_TrapCorner_75 dX11_odds_21 ?_
        refine lv_aload_n hx hb dX11_odds_24 rfl (lv_at hl 0 rfl) ?_
        obtain ⟨v11, e12, hf⟩ := Option.bind_eq_some_iff.mp hf
        refine r_gR X I e12 lk_TrapCorner_49 dX11_odds_25 ?_
        refine lv_iload_n hx hb dX11_odds_28 rfl (lv_at hl 1 rfl) ?_
        refine lv_iconst (v := 0) hx hb dX11_odds_29 (by decide) ?_
        obtain ⟨_, g17, hf⟩ := Option.bind_eq_some_iff.mp hf
        obtain ⟨⟨⟩, h14, e15, z16, hf⟩ := cN_spec hf
        refine k_Vv (As := [.ref (rfG g v11), .int x1, .int 0]) (rest := []) X I (c_X6_play l g v9 v11 x1 0 e15) z16 g17 vk_TrapCorner_343 tw_901 ⟨Nat.le_trans (by decide) hR.1, Nat.le_trans (by decide) hR.2⟩ ⟨Nat.zero_le _, Nat.zero_le _⟩ rfl hl.1 rfl (Nat.le_of_ble_eq_true rfl) dX11_odds_30 (fun H locs I => ?_)
        refine lv_ldc2 (v := 1000000000) hx hb X.2.2.2.1 (X.2.2.2.2.1 _ tw_1150) dX11_odds_33 ?_
        refine lv_lstore_n (lv' := [(3, .long 1000000000), (0, .ref (rfG g o0)), (1, .int x1), (2, .int x2)]) hx hb dX11_odds_36 rfl hl (by decide) rfl (fun ls hl => ?_)
        refine lv_aload_n hx hb dX11_odds_37 rfl (lv_at hl 1 rfl) ?_
        obtain ⟨v18, e19, hf⟩ := Option.bind_eq_some_iff.mp hf
        refine r_gR X I e19 lk_TrapCorner_42 dX11_odds_38 ?_
        obtain ⟨v20, e21, hf⟩ := Option.bind_eq_some_iff.mp hf
        refine r_gR X I e21 lk_TrapCorner_213 dX11_odds_41 ?_
        refine lv_iload_n hx hb dX11_odds_44 rfl (lv_at hl 2 rfl) ?_
        obtain ⟨v22, e23, hf⟩ := Option.bind_eq_some_iff.mp hf
        refine r_aI0 X I e23 dX11_odds_45 ?_
        refine lv_istore (lv' := [(5, .int v22), (3, .long 1000000000), (0, .ref (rfG g o0)), (1, .int x1), (2, .int x2)]) hx hb dX11_odds_46 hl (by decide) rfl (fun ls hl => ?_)
        refine lv_aload_n hx hb dX11_odds_48 rfl (lv_at hl 2 rfl) ?_
        obtain ⟨v24, e25, hf⟩ := Option.bind_eq_some_iff.mp hf
        refine r_gR X I e25 lk_TrapCorner_42 dX11_odds_49 ?_
        refine lv_iload_n hx hb dX11_odds_52 rfl (lv_at hl 3 rfl) ?_
        refine lv_aload_n hx hb dX11_odds_53 rfl (lv_at hl 2 rfl) ?_
        obtain ⟨v26, e27, hf⟩ := Option.bind_eq_some_iff.mp hf
        refine r_gR X I e27 lk_TrapCorner_49 dX11_odds_54 ?_
        obtain ⟨v28, e29, hf⟩ := Option.bind_eq_some_iff.mp hf
        refine r_gR X I e29 lk_TrapCorner_219 dX11_odds_57 ?_
        refine lv_iload_n hx hb dX11_odds_60 rfl (lv_at hl 3 rfl) ?_
        obtain ⟨v30, e31, hf⟩ := Option.bind_eq_some_iff.mp hf
        refine r_aI0 X I e31 dX11_odds_61 ?_
        obtain ⟨_, g36, hf⟩ := Option.bind_eq_some_iff.mp hf
        obtain ⟨v32, h33, e34, z35, hf⟩ := cN_spec hf
        refine k_Vi (As := [.int x1, .int v30]) (rest := []) X I (c_X10_walkLength l g v24 x1 v30 e34) z35 g36 vk_TrapCorner_393 tw_906 ⟨Nat.le_trans (by decide) hR.1, Nat.le_trans (by decide) hR.2⟩ ⟨Nat.zero_le _, Nat.zero_le _⟩ rfl hl.1 rfl (Nat.le_of_ble_eq_true rfl) dX11_odds_62 (fun H locs I => ?_)
        refine lv_istore (lv' := [(6, .int v32), (5, .int v22), (3, .long 1000000000), (0, .ref (rfG g o0)), (1, .int x1), (2, .int x2)]) hx hb dX11_odds_65 hl (by decide) rfl (fun ls hl => ?_)
        refine lv_iconst (v := 0) hx hb dX11_odds_67 (by decide) ?_
        refine lv_istore (lv' := [(7, .int 0), (6, .int v32), (5, .int v22), (3, .long 1000000000), (0, .ref (rfG g o0)), (1, .int x1), (2, .int x2)]) hx hb dX11_odds_68 hl (by decide) rfl (fun ls hl => ?_)
        exact w_X11_odds_70 X hR hr fu o0 x1 x2 1000000000 v22 v32 0 h33 ls H locs hf I (lv_sub hl [4, 5, 6, 3, 2, 1, 0] rfl)
      · rw [if_neg c8] at hf
        refine lv_iconst (v := (-1)) hx hb dX11_odds_18 (by decide) ?_
        cases hf
        exact k_ri X I hr dX11_odds_19
def f_X11_odds (o0 : Nat) (x1 : Int32) (x2 : Int32) (h : AH) : Option (Int32 × AH) := f_X11_odds_0 o0 x1 x2 h
end
theorem c_X11_odds (l : Launch) (g : GG) (o0 : Nat) (x1 : Int32) (x2 : Int32) {h : AH} {res : Int32 × AH} (hf : f_X11_odds o0 x1 x2 h = some res) : CM l g yX11_odds cX11_odds 8 (some (.int)) 6 384 0 0 [.ref (rfG g o0), .int x1, .int x2] h (some (.int res.1)) res.2 :=
  k_body (by decide) (Nat.le_of_ble_eq_true rfl) (fun p e s m below meth c R ls hR hr X I hl => w_X11_odds_0 X ⟨Nat.le_of_eq hR.1.symm, Nat.le_of_eq hR.2.1.symm⟩ hr o0 x1 x2 h ls s.heap [] hf I (lv_sub hl [0, 1, 2] rfl))
/-! TrapCorner.lasts(I)I -/
theorem dX11_lasts_0 : decode cX11_lasts 0 = .ok (.aload_n 0, 1) := by decide +kernel
theorem dX11_lasts_1 : decode cX11_lasts 1 = .ok (.iload_n 1, 1) := by decide +kernel
theorem dX11_lasts_2 : decode cX11_lasts 2 = .ok (.invokevirtual 184, 3) := by decide +kernel
theorem dX11_lasts_5 : decode cX11_lasts 5 = .ok (.ifCond .ne 5, 3) := by decide +kernel
theorem dX11_lasts_8 : decode cX11_lasts 8 = .ok (.iconst (-1), 1) := by decide +kernel
theorem dX11_lasts_9 : decode cX11_lasts 9 = .ok (.ireturn, 1) := by decide +kernel
theorem dX11_lasts_10 : decode cX11_lasts 10 = .ok (.aload_n 0, 1) := by decide +kernel
theorem dX11_lasts_11 : decode cX11_lasts 11 = .ok (.getfield 53, 3) := by decide +kernel
theorem dX11_lasts_14 : decode cX11_lasts 14 = .ok (.aload_n 0, 1) := by decide +kernel
theorem dX11_lasts_15 : decode cX11_lasts 15 = .ok (.getfield 49, 3) := by decide +kernel
theorem dX11_lasts_18 : decode cX11_lasts 18 = .ok (.invokevirtual 350, 3) := by decide +kernel
theorem dX11_lasts_21 : decode cX11_lasts 21 = .ok (.iconst 0, 1) := by decide +kernel
theorem dX11_lasts_22 : decode cX11_lasts 22 = .ok (.istore_n 2, 1) := by decide +kernel
theorem dX11_lasts_23 : decode cX11_lasts 23 = .ok (.iload_n 2, 1) := by decide +kernel
theorem dX11_lasts_24 : decode cX11_lasts 24 = .ok (.bipush 60, 2) := by decide +kernel
theorem dX11_lasts_26 : decode cX11_lasts 26 = .ok (.if_icmp .gt 34, 3) := by decide +kernel
theorem dX11_lasts_29 : decode cX11_lasts 29 = .ok (.aload_n 0, 1) := by decide +kernel
theorem dX11_lasts_30 : decode cX11_lasts 30 = .ok (.getfield 53, 3) := by decide +kernel
theorem dX11_lasts_33 : decode cX11_lasts 33 = .ok (.getfield 191, 3) := by decide +kernel
theorem dX11_lasts_36 : decode cX11_lasts 36 = .ok (.iload_n 1, 1) := by decide +kernel
theorem dX11_lasts_37 : decode cX11_lasts 37 = .ok (.iaload, 1) := by decide +kernel
theorem dX11_lasts_38 : decode cX11_lasts 38 = .ok (.ifCond .ne 5, 3) := by decide +kernel
theorem dX11_lasts_41 : decode cX11_lasts 41 = .ok (.iload_n 2, 1) := by decide +kernel
theorem dX11_lasts_42 : decode cX11_lasts 42 = .ok (.ireturn, 1) := by decide +kernel
theorem dX11_lasts_43 : decode cX11_lasts 43 = .ok (.aload_n 0, 1) := by decide +kernel
theorem dX11_lasts_44 : decode cX11_lasts 44 = .ok (.aload_n 0, 1) := by decide +kernel
theorem dX11_lasts_45 : decode cX11_lasts 45 = .ok (.getfield 53, 3) := by decide +kernel
theorem dX11_lasts_48 : decode cX11_lasts 48 = .ok (.iconst 0, 1) := by decide +kernel
theorem dX11_lasts_49 : decode cX11_lasts 49 = .ok (.iconst 0, 1) := by decide +kernel
theorem dX11_lasts_50 : decode cX11_lasts 50 = .ok (.iconst 0, 1) := by decide +kernel
theorem dX11_lasts_51 : decode cX11_lasts 51 = .ok (.invokevirtual 303, 3) := by decide +kernel
theorem dX11_lasts_54 : decode cX11_lasts 54 = .ok (.iinc 2 1, 3) := by decide +kernel
theorem dX11_lasts_57 : decode cX11_lasts 57 = .ok (.goto (-34), 3) := by decide +kernel
theorem dX11_lasts_60 : decode cX11_lasts 60 = .ok (.iconst (-1), 1) := by decide +kernel
theorem dX11_lasts_61 : decode cX11_lasts 61 = .ok (.ireturn, 1) := by decide +kernel
section
variable {g : GG} {p : Program} {l : Launch} {e : Env} {R : Room} {s : State} {m : MethodId} {args : Array Value} {below : List Frame} {meth : Method} {c : Code} {n0 z0 : Nat}
def f_X11_lasts_23  : Nat → Nat → Int32 → Int32 → AH → Option (Int32 × AH)
  | 0, _, _, _, _ => none
  | n + 1, o0, x1, x2, h =>
  if 60 < x2 then
    some ((-1), h)
  else
    (gR [11] h o0 6).bind fun v2 =>
    (gR [8] h v2 1).bind fun v4 =>
    (aI 0 h v4 x1).bind fun v6 =>
    if v6 = 0 then
      some (x2, h)
    else
      (gR [11] h o0 6).bind fun v9 =>
      (isC [11] h o0).bind fun _ =>
      cN (f_X11_doStep o0 v9 0 0 0 h) h fun _ h12 =>
      f_X11_lasts_23  n o0 x1 (x2 + 1) h12
set_option maxHeartbeats 1000000 in
theorem w_X11_lasts_23 (X : Cx g p s m args meth c cX11_lasts 3 "TrapCorner") (hR : 7 ≤ R.frames ∧ 448 ≤ R.locals) (hr : meth.sig.returnType = (some (.int))) {res : Int32 × AH} : ∀ (n : Nat) (o0 : Nat) (x1 : Int32) (x2 : Int32) (h : AH) (ls : Array Slot) (H : Heap) (locs : List Loc), f_X11_lasts_23 n o0 x1 x2 h = some res → Iv g s n0 z0 h H locs 0 0 → lv_has ls 3 [(0, .ref (rfG g o0)), (1, .int x1), (2, .int x2)] → W p l e R s m args below meth c H locs 0 0 (MQ below (QG g (some (.int res.1)) res.2) args s 0 0 (AG g)) (F0 m 23 ls []) := by
  have hx := X.1
  have hb := X.2.1
  intro n
  induction n with
  | zero =>
    intro o0 x1 x2 h ls H locs hf
    rw [f_X11_lasts_23.eq_1] at hf
    cases hf
  | succ n ih =>
    intro o0 x1 x2 h ls H locs hf I hl
    rw [f_X11_lasts_23.eq_2] at hf
    refine lv_iload_n hx hb dX11_lasts_23 rfl (lv_at hl 2 rfl) ?_
    refine lv_bipush (v := 60) hx hb dX11_lasts_24 (by decide) ?_
    refine lv_icmp_gt (tgt := 60) hx hb dX11_lasts_26 (by decide) (fun c1 => ?_) (fun c1 => ?_)
    · rw [if_pos c1] at hf
      refine lv_iconst (v := (-1)) hx hb dX11_lasts_60 (by decide) ?_
      cases hf
      exact k_ri X I hr dX11_lasts_61
    · rw [if_neg c1] at hf
      refine lv_aload_n hx hb dX11_lasts_29 rfl (lv_at hl 0 rfl) ?_
      obtain ⟨v2, e3, hf⟩ := Option.bind_eq_some_iff.mp hf
      refine r_gR X I e3 lk_TrapCorner_53 dX11_lasts_30 ?_
      obtain ⟨v4, e5, hf⟩ := Option.bind_eq_some_iff.mp hf
      refine r_gR X I e5 lk_TrapCorner_191 dX11_lasts_33 ?_
      refine lv_iload_n hx hb dX11_lasts_36 rfl (lv_at hl 1 rfl) ?_
      obtain ⟨v6, e7, hf⟩ := Option.bind_eq_some_iff.mp hf
      refine r_aI0 X I e7 dX11_lasts_37 ?_
      refine lv_if_ne (tgt := 43) hx hb dX11_lasts_38 (by decide) (fun c8 => ?_) (fun c8 => ?_)
      · rw [if_neg c8] at hf
        refine lv_aload_n hx hb dX11_lasts_43 rfl (lv_at hl 0 rfl) ?_
        refine lv_aload_n hx hb dX11_lasts_44 rfl (lv_at hl 0 rfl) ?_
        obtain ⟨v9, e10, hf⟩ := Option.bind_eq_some_iff.mp hf
        refine r_gR X I e10 lk_TrapCorner_53 dX11_lasts_45 ?_
        refine lv_iconst (v := 0) hx hb dX11_lasts_48 (by decide) ?_
        refine lv_iconst (v := 0) hx hb dX11_lasts_49 (by decide) ?_
        refine lv_iconst (v := 0) hx hb dX11_lasts_50 (by decide) ?_
        obtain ⟨_, g15, hf⟩ := Option.bind_eq_some_iff.mp hf
        obtain ⟨⟨⟩, h12, e13, z14, hf⟩ := cN_spec hf
        refine k_Vv (As := [.ref (rfG g v9), .int 0, .int 0, .int 0]) (rest := []) X I (c_X11_doStep l g o0 v9 0 0 0 e13) z14 g15 vk_TrapCorner_303 tw_897 ⟨Nat.le_trans (by decide) hR.1, Nat.le_trans (by decide) hR.2⟩ ⟨Nat.zero_le _, Nat.zero_le _⟩ rfl hl.1 rfl (Nat.le_of_ble_eq_true rfl) dX11_lasts_51 (fun H locs I => ?_)
        refine lv_iinc (v := x2 + 1) (lv' := [(2, .int (x2 + 1)), (0, .ref (rfG g o0)), (1, .int x1)]) hx hb dX11_lasts_54 hl (k := 2) rfl rfl (by decide) rfl (fun ls hl => ?_)
        refine lv_goto (tgt := 23) hx hb dX11_lasts_57 (by decide) ?_
        exact ih o0 x1 (x2 + 1) h12 ls H locs hf I (lv_sub hl [1, 2, 0] rfl)
      · rw [if_pos c8] at hf
        refine lv_iload_n hx hb dX11_lasts_41 rfl (lv_at hl 2 rfl) ?_
        cases hf
        exact k_ri X I hr dX11_lasts_42
def f_X11_lasts_0  (o0 : Nat) (x1 : Int32) (h : AH) : Option (Int32 × AH) :=
  (isC [11] h o0).bind fun _ =>
  cN (f_X11_hasCorner o0 x1 h) h fun v1 h2 =>
  if v1 = 0 then
    some ((-1), h2)
  else
    (gR [11] h2 o0 6).bind fun v7 =>
    (gR [11] h2 o0 5).bind fun v9 =>
    (isC [8] h2 v7).bind fun _ =>
    cN (f_X8_copyFrom v7 v9 h2) h2 fun _ h12 =>
    f_X11_lasts_23 fu o0 x1 0 h12
set_option maxHeartbeats 1000000 in
theorem w_X11_lasts_0 (X : Cx g p s m args meth c cX11_lasts 3 "TrapCorner") (hR : 7 ≤ R.frames ∧ 448 ≤ R.locals) (hr : meth.sig.returnType = (some (.int))) {res : Int32 × AH} : ∀ (o0 : Nat) (x1 : Int32) (h : AH) (ls : Array Slot) (H : Heap) (locs : List Loc), f_X11_lasts_0 o0 x1 h = some res → Iv g s n0 z0 h H locs 0 0 → lv_has ls 3 [(0, .ref (rfG g o0)), (1, .int x1)] → W p l e R s m args below meth c H locs 0 0 (MQ below (QG g (some (.int res.1)) res.2) args s 0 0 (AG g)) (F0 m 0 ls []) := by
  have hx := X.1
  have hb := X.2.1
  intro o0 x1 h ls H locs hf I hl
  unfold f_X11_lasts_0 at hf
  refine lv_aload_n hx hb dX11_lasts_0 rfl (lv_at hl 0 rfl) ?_
  refine lv_iload_n hx hb dX11_lasts_1 rfl (lv_at hl 1 rfl) ?_
  obtain ⟨_, g5, hf⟩ := Option.bind_eq_some_iff.mp hf
  obtain ⟨v1, h2, e3, z4, hf⟩ := cN_spec hf
  refine k_Vi (As := [.int x1]) (rest := []) X I (c_X11_hasCorner l g o0 x1 e3) z4 g5 vk_TrapCorner_184 tw_801 ⟨Nat.le_trans (by decide) hR.1, Nat.le_trans (by decide) hR.2⟩ ⟨Nat.zero_le _, Nat.zero_le _⟩ rfl hl.1 rfl (Nat.le_of_ble_eq_true rfl) dX11_lasts_2 (fun H locs I => ?_)
  refine lv_if_ne (tgt := 10) hx hb dX11_lasts_5 (by decide) (fun c6 => ?_) (fun c6 => ?_)
  · rw [if_neg c6] at hf
    refine lv_aload_n hx hb dX11_lasts_10 rfl (lv_at hl 0 rfl) ?_
    obtain ⟨v7, e8, hf⟩ := Option.bind_eq_some_iff.mp hf
    refine r_gR X I e8 lk_TrapCorner_53 dX11_lasts_11 ?_
    refine lv_aload_n hx hb dX11_lasts_14 rfl (lv_at hl 0 rfl) ?_
    obtain ⟨v9, e10, hf⟩ := Option.bind_eq_some_iff.mp hf
    refine r_gR X I e10 lk_TrapCorner_49 dX11_lasts_15 ?_
    obtain ⟨_, g15, hf⟩ := Option.bind_eq_some_iff.mp hf
    obtain ⟨⟨⟩, h12, e13, z14, hf⟩ := cN_spec hf
    refine k_Vv (As := [.ref (rfG g v9)]) (rest := []) X I (c_X8_copyFrom l g v7 v9 e13) z14 g15 vk_TrapCorner_350 tw_892 ⟨Nat.le_trans (by decide) hR.1, Nat.le_trans (by decide) hR.2⟩ ⟨Nat.zero_le _, Nat.zero_le _⟩ rfl hl.1 rfl (Nat.le_of_ble_eq_true rfl) dX11_lasts_18 (fun H locs I => ?_)
    refine lv_iconst (v := 0) hx hb dX11_lasts_21 (by decide) ?_
    refine lv_istore_n (lv' := [(2, .int 0), (0, .ref (rfG g o0)), (1, .int x1)]) hx hb dX11_lasts_22 rfl hl (by decide) rfl (fun ls hl => ?_)
    exact w_X11_lasts_23 X hR hr fu o0 x1 0 h12 ls H locs hf I (lv_sub hl [1, 2, 0] rfl)
  · rw [if_pos c6] at hf
    refine lv_iconst (v := (-1)) hx hb dX11_lasts_8 (by decide) ?_
    cases hf
    exact k_ri X I hr dX11_lasts_9
def f_X11_lasts (o0 : Nat) (x1 : Int32) (h : AH) : Option (Int32 × AH) := f_X11_lasts_0 o0 x1 h
end
theorem c_X11_lasts (l : Launch) (g : GG) (o0 : Nat) (x1 : Int32) {h : AH} {res : Int32 × AH} (hf : f_X11_lasts o0 x1 h = some res) : CM l g yX11_lasts cX11_lasts 3 (some (.int)) 7 448 0 0 [.ref (rfG g o0), .int x1] h (some (.int res.1)) res.2 :=
  k_body (by decide) (Nat.le_of_ble_eq_true rfl) (fun p e s m below meth c R ls hR hr X I hl => w_X11_lasts_0 X ⟨Nat.le_of_eq hR.1.symm, Nat.le_of_eq hR.2.1.symm⟩ hr o0 x1 h ls s.heap [] hf I (lv_sub hl [0, 1] rfl))
/-! TrapCorner.yearly(I)I -/
theorem dX11_yearly_0 : decode cX11_yearly 0 = .ok (.aload_n 0, 1) := by decide +kernel
theorem dX11_yearly_1 : decode cX11_yearly 1 = .ok (.iload_n 1, 1) := by decide +kernel
theorem dX11_yearly_2 : decode cX11_yearly 2 = .ok (.invokevirtual 194, 3) := by decide +kernel
theorem dX11_yearly_5 : decode cX11_yearly 5 = .ok (.ifCond .ne 5, 3) := by decide +kernel
theorem dX11_yearly_8 : decode cX11_yearly 8 = .ok (.iconst (-1), 1) := by decide +kernel
theorem dX11_yearly_9 : decode cX11_yearly 9 = .ok (.ireturn, 1) := by decide +kernel
theorem dX11_yearly_10 : decode cX11_yearly 10 = .ok (.aload_n 0, 1) := by decide +kernel
theorem dX11_yearly_11 : decode cX11_yearly 11 = .ok (.getfield 53, 3) := by decide +kernel
theorem dX11_yearly_14 : decode cX11_yearly 14 = .ok (.aload_n 0, 1) := by decide +kernel
theorem dX11_yearly_15 : decode cX11_yearly 15 = .ok (.getfield 49, 3) := by decide +kernel
theorem dX11_yearly_18 : decode cX11_yearly 18 = .ok (.invokevirtual 350, 3) := by decide +kernel
theorem dX11_yearly_21 : decode cX11_yearly 21 = .ok (.iconst 0, 1) := by decide +kernel
theorem dX11_yearly_22 : decode cX11_yearly 22 = .ok (.istore_n 2, 1) := by decide +kernel
theorem dX11_yearly_23 : decode cX11_yearly 23 = .ok (.iconst 0, 1) := by decide +kernel
theorem dX11_yearly_24 : decode cX11_yearly 24 = .ok (.istore_n 3, 1) := by decide +kernel
theorem dX11_yearly_25 : decode cX11_yearly 25 = .ok (.iload_n 3, 1) := by decide +kernel
theorem dX11_yearly_26 : decode cX11_yearly 26 = .ok (.bipush 30, 2) := by decide +kernel
theorem dX11_yearly_28 : decode cX11_yearly 28 = .ok (.if_icmp .ge 41, 3) := by decide +kernel
theorem dX11_yearly_31 : decode cX11_yearly 31 = .ok (.aload_n 0, 1) := by decide +kernel
theorem dX11_yearly_32 : decode cX11_yearly 32 = .ok (.aload_n 0, 1) := by decide +kernel
theorem dX11_yearly_33 : decode cX11_yearly 33 = .ok (.getfield 53, 3) := by decide +kernel
theorem dX11_yearly_36 : decode cX11_yearly 36 = .ok (.iconst 0, 1) := by decide +kernel
theorem dX11_yearly_37 : decode cX11_yearly 37 = .ok (.iconst 0, 1) := by decide +kernel
theorem dX11_yearly_38 : decode cX11_yearly 38 = .ok (.iconst 0, 1) := by decide +kernel
theorem dX11_yearly_39 : decode cX11_yearly 39 = .ok (.invokevirtual 303, 3) := by decide +kernel
theorem dX11_yearly_42 : decode cX11_yearly 42 = .ok (.iload_n 2, 1) := by decide +kernel
theorem dX11_yearly_43 : decode cX11_yearly 43 = .ok (.aload_n 0, 1) := by decide +kernel
theorem dX11_yearly_44 : decode cX11_yearly 44 = .ok (.getfield 75, 3) := by decide +kernel
theorem dX11_yearly_47 : decode cX11_yearly 47 = .ok (.getfield 360, 3) := by decide +kernel
theorem dX11_yearly_50 : decode cX11_yearly 50 = .ok (.iload_n 1, 1) := by decide +kernel
theorem dX11_yearly_51 : decode cX11_yearly 51 = .ok (.iaload, 1) := by decide +kernel
theorem dX11_yearly_52 : decode cX11_yearly 52 = .ok (.iconst (-1), 1) := by decide +kernel
theorem dX11_yearly_53 : decode cX11_yearly 53 = .ok (.if_icmp .ne 7, 3) := by decide +kernel
theorem dX11_yearly_56 : decode cX11_yearly 56 = .ok (.iconst 0, 1) := by decide +kernel
theorem dX11_yearly_57 : decode cX11_yearly 57 = .ok (.goto 4, 3) := by decide +kernel
theorem dX11_yearly_60 : decode cX11_yearly 60 = .ok (.iconst 1, 1) := by decide +kernel
theorem dX11_yearly_61 : decode cX11_yearly 61 = .ok (.iadd, 1) := by decide +kernel
theorem dX11_yearly_62 : decode cX11_yearly 62 = .ok (.istore_n 2, 1) := by decide +kernel
theorem dX11_yearly_63 : decode cX11_yearly 63 = .ok (.iinc 3 1, 3) := by decide +kernel
theorem dX11_yearly_66 : decode cX11_yearly 66 = .ok (.goto (-41), 3) := by decide +kernel
theorem dX11_yearly_69 : decode cX11_yearly 69 = .ok (.iload_n 2, 1) := by decide +kernel
theorem dX11_yearly_70 : decode cX11_yearly 70 = .ok (.ireturn, 1) := by decide +kernel
section
variable {g : GG} {p : Program} {l : Launch} {e : Env} {R : Room} {s : State} {m : MethodId} {args : Array Value} {below : List Frame} {meth : Method} {c : Code} {n0 z0 : Nat}
def f_X11_yearly_61 (k25 : Nat → Int32 → Int32 → Int32 → AH → Option (Int32 × AH)) (o0 : Nat) (x1 : Int32) (x3 : Int32) (s0 : Int32) (s1 : Int32) (h : AH) : Option (Int32 × AH) :=
  k25 o0 x1 (s0 + s1) (x3 + 1) h
set_option maxHeartbeats 1000000 in
theorem w_X11_yearly_61 (X : Cx g p s m args meth c cX11_yearly 4 "TrapCorner") (hR : 7 ≤ R.frames ∧ 448 ≤ R.locals) (hr : meth.sig.returnType = (some (.int))) {res : Int32 × AH} {k25 : Nat → Int32 → Int32 → Int32 → AH → Option (Int32 × AH)} (hk25 : ∀ (o0 : Nat) (x1 : Int32) (x2 : Int32) (x3 : Int32) (h : AH) (ls : Array Slot) (H : Heap) (locs : List Loc), k25 o0 x1 x2 x3 h = some res → Iv g s n0 z0 h H locs 0 0 → lv_has ls 4 [(0, .ref (rfG g o0)), (1, .int x1), (2, .int x2), (3, .int x3)] → W p l e R s m args below meth c H locs 0 0 (MQ below (QG g (some (.int res.1)) res.2) args s 0 0 (AG g)) (F0 m 25 ls [])) : ∀ (o0 : Nat) (x1 : Int32) (x3 : Int32) (s0 : Int32) (s1 : Int32) (h : AH) (ls : Array Slot) (H : Heap) (locs : List Loc), f_X11_yearly_61 k25 o0 x1 x3 s0 s1 h = some res → Iv g s n0 z0 h H locs 0 0 → lv_has ls 4 [(0, .ref (rfG g o0)), (1, .int x1), (3, .int x3)] → W p l e R s m args below meth c H locs 0 0 (MQ below (QG g (some (.int res.1)) res.2) args s 0 0 (AG g)) (F0 m 61 ls [.int s1, .int s0]) := by
  have hx := X.1
  have hb := X.2.1
  intro o0 x1 x3 s0 s1 h ls H locs hf I hl
  unfold f_X11_yearly_61 at hf
  refine lv_iadd hx hb dX11_yearly_61 ?_
  refine lv_istore_n (lv' := [(2, .int (s0 + s1)), (0, .ref (rfG g o0)), (1, .int x1), (3, .int x3)]) hx hb dX11_yearly_62 rfl hl (by decide) rfl (fun ls hl => ?_)
  refine lv_iinc (v := x3 + 1) (lv' := [(3, .int (x3 + 1)), (2, .int (s0 + s1)), (0, .ref (rfG g o0)), (1, .int x1)]) hx hb dX11_yearly_63 hl (k := 3) rfl rfl (by decide) rfl (fun ls hl => ?_)
  refine lv_goto (tgt := 25) hx hb dX11_yearly_66 (by decide) ?_
  exact hk25 o0 x1 (s0 + s1) (x3 + 1) h ls H locs hf I (lv_sub hl [2, 3, 1, 0] rfl)
def f_X11_yearly_25  : Nat → Nat → Int32 → Int32 → Int32 → AH → Option (Int32 × AH)
  | 0, _, _, _, _, _ => none
  | n + 1, o0, x1, x2, x3, h =>
  if 30 ≤ x3 then
    some (x2, h)
  else
    (gR [11] h o0 6).bind fun v2 =>
    (isC [11] h o0).bind fun _ =>
    cN (f_X11_doStep o0 v2 0 0 0 h) h fun _ h5 =>
    (gR [11] h5 o0 9).bind fun v9 =>
    (gR [6] h5 v9 2).bind fun v11 =>
    (aI 0 h5 v11 x1).bind fun v13 =>
    if v13 = ((-1)) then
      f_X11_yearly_61 (f_X11_yearly_25 n) o0 x1 x3 x2 0 h5
    else
      f_X11_yearly_61 (f_X11_yearly_25 n) o0 x1 x3 x2 1 h5
set_option maxHeartbeats 1000000 in
theorem w_X11_yearly_25 (X : Cx g p s m args meth c cX11_yearly 4 "TrapCorner") (hR : 7 ≤ R.frames ∧ 448 ≤ R.locals) (hr : meth.sig.returnType = (some (.int))) {res : Int32 × AH} : ∀ (n : Nat) (o0 : Nat) (x1 : Int32) (x2 : Int32) (x3 : Int32) (h : AH) (ls : Array Slot) (H : Heap) (locs : List Loc), f_X11_yearly_25 n o0 x1 x2 x3 h = some res → Iv g s n0 z0 h H locs 0 0 → lv_has ls 4 [(0, .ref (rfG g o0)), (1, .int x1), (2, .int x2), (3, .int x3)] → W p l e R s m args below meth c H locs 0 0 (MQ below (QG g (some (.int res.1)) res.2) args s 0 0 (AG g)) (F0 m 25 ls []) := by
  have hx := X.1
  have hb := X.2.1
  intro n
  induction n with
  | zero =>
    intro o0 x1 x2 x3 h ls H locs hf
    rw [f_X11_yearly_25.eq_1] at hf
    cases hf
  | succ n ih =>
    intro o0 x1 x2 x3 h ls H locs hf I hl
    rw [f_X11_yearly_25.eq_2] at hf
    refine lv_iload_n hx hb dX11_yearly_25 rfl (lv_at hl 3 rfl) ?_
    refine lv_bipush (v := 30) hx hb dX11_yearly_26 (by decide) ?_
    refine lv_icmp_ge (tgt := 69) hx hb dX11_yearly_28 (by decide) (fun c1 => ?_) (fun c1 => ?_)
    · rw [if_pos c1] at hf
      refine lv_iload_n hx hb dX11_yearly_69 rfl (lv_at hl 2 rfl) ?_
      cases hf
      exact k_ri X I hr dX11_yearly_70
    · rw [if_neg c1] at hf
      refine lv_aload_n hx hb dX11_yearly_31 rfl (lv_at hl 0 rfl) ?_
      refine lv_aload_n hx hb dX11_yearly_32 rfl (lv_at hl 0 rfl) ?_
      obtain ⟨v2, e3, hf⟩ := Option.bind_eq_some_iff.mp hf
      refine r_gR X I e3 lk_TrapCorner_53 dX11_yearly_33 ?_
      refine lv_iconst (v := 0) hx hb dX11_yearly_36 (by decide) ?_
      refine lv_iconst (v := 0) hx hb dX11_yearly_37 (by decide) ?_
      refine lv_iconst (v := 0) hx hb dX11_yearly_38 (by decide) ?_
      obtain ⟨_, g8, hf⟩ := Option.bind_eq_some_iff.mp hf
      obtain ⟨⟨⟩, h5, e6, z7, hf⟩ := cN_spec hf
      refine k_Vv (As := [.ref (rfG g v2), .int 0, .int 0, .int 0]) (rest := []) X I (c_X11_doStep l g o0 v2 0 0 0 e6) z7 g8 vk_TrapCorner_303 tw_897 ⟨Nat.le_trans (by decide) hR.1, Nat.le_trans (by decide) hR.2⟩ ⟨Nat.zero_le _, Nat.zero_le _⟩ rfl hl.1 rfl (Nat.le_of_ble_eq_true rfl) dX11_yearly_39 (fun H locs I => ?_)
      refine lv_iload_n hx hb dX11_yearly_42 rfl (lv_at hl 2 rfl) ?_
      refine lv_aload_n hx hb dX11_yearly_43 rfl (lv_at hl 0 rfl) ?_
      obtain ⟨v9, e10, hf⟩ := Option.bind_eq_some_iff.mp hf
      refine r_gR X I e10 lk_TrapCorner_75 dX11_yearly_44 ?_
      obtain ⟨v11, e12, hf⟩ := Option.bind_eq_some_iff.mp hf
      refine r_gR X I e12 lk_TrapCorner_360 dX11_yearly_47 ?_
      refine lv_iload_n hx hb dX11_yearly_50 rfl (lv_at hl 1 rfl) ?_
      obtain ⟨v13, e14, hf⟩ := Option.bind_eq_some_iff.mp hf
      refine r_aI0 X I e14 dX11_yearly_51 ?_
      refine lv_iconst (v := (-1)) hx hb dX11_yearly_52 (by decide) ?_
      refine lv_icmp_ne (tgt := 60) hx hb dX11_yearly_53 (by decide) (fun c15 => ?_) (fun c15 => ?_)
      · rw [if_neg c15] at hf
        refine lv_iconst (v := 1) hx hb dX11_yearly_60 (by decide) ?_
        exact w_X11_yearly_61 X hR hr ih o0 x1 x3 x2 1 h5 ls H locs hf I (lv_sub hl [0, 1, 3] rfl)
      · rw [if_pos c15] at hf
        refine lv_iconst (v := 0) hx hb dX11_yearly_56 (by decide) ?_
        refine lv_goto (tgt := 61) hx hb dX11_yearly_57 (by decide) ?_
        exact w_X11_yearly_61 X hR hr ih o0 x1 x3 x2 0 h5 ls H locs hf I (lv_sub hl [0, 1, 3] rfl)
def f_X11_yearly_0  (o0 : Nat) (x1 : Int32) (h : AH) : Option (Int32 × AH) :=
  (isC [11] h o0).bind fun _ =>
  cN (f_X11_hasPerson o0 x1 h) h fun v1 h2 =>
  if v1 = 0 then
    some ((-1), h2)
  else
    (gR [11] h2 o0 6).bind fun v7 =>
    (gR [11] h2 o0 5).bind fun v9 =>
    (isC [8] h2 v7).bind fun _ =>
    cN (f_X8_copyFrom v7 v9 h2) h2 fun _ h12 =>
    f_X11_yearly_25 fu o0 x1 0 0 h12
set_option maxHeartbeats 1000000 in
theorem w_X11_yearly_0 (X : Cx g p s m args meth c cX11_yearly 4 "TrapCorner") (hR : 7 ≤ R.frames ∧ 448 ≤ R.locals) (hr : meth.sig.returnType = (some (.int))) {res : Int32 × AH} : ∀ (o0 : Nat) (x1 : Int32) (h : AH) (ls : Array Slot) (H : Heap) (locs : List Loc), f_X11_yearly_0 o0 x1 h = some res → Iv g s n0 z0 h H locs 0 0 → lv_has ls 4 [(0, .ref (rfG g o0)), (1, .int x1)] → W p l e R s m args below meth c H locs 0 0 (MQ below (QG g (some (.int res.1)) res.2) args s 0 0 (AG g)) (F0 m 0 ls []) := by
  have hx := X.1
  have hb := X.2.1
  intro o0 x1 h ls H locs hf I hl
  unfold f_X11_yearly_0 at hf
  refine lv_aload_n hx hb dX11_yearly_0 rfl (lv_at hl 0 rfl) ?_
  refine lv_iload_n hx hb dX11_yearly_1 rfl (lv_at hl 1 rfl) ?_
  obtain ⟨_, g5, hf⟩ := Option.bind_eq_some_iff.mp hf
  obtain ⟨v1, h2, e3, z4, hf⟩ := cN_spec hf
  refine k_Vi (As := [.int x1]) (rest := []) X I (c_X11_hasPerson l g o0 x1 e3) z4 g5 vk_TrapCorner_194 tw_880 ⟨Nat.le_trans (by decide) hR.1, Nat.le_trans (by decide) hR.2⟩ ⟨Nat.zero_le _, Nat.zero_le _⟩ rfl hl.1 rfl (Nat.le_of_ble_eq_true rfl) dX11_yearly_2 (fun H locs I => ?_)
  refine lv_if_ne (tgt := 10) hx hb dX11_yearly_5 (by decide) (fun c6 => ?_) (fun c6 => ?_)
  · rw [if_neg c6] at hf
    refine lv_aload_n hx hb dX11_yearly_10 rfl (lv_at hl 0 rfl) ?_
    obtain ⟨v7, e8, hf⟩ := Option.bind_eq_some_iff.mp hf
    refine r_gR X I e8 lk_TrapCorner_53 dX11_yearly_11 ?_
    refine lv_aload_n hx hb dX11_yearly_14 rfl (lv_at hl 0 rfl) ?_
    obtain ⟨v9, e10, hf⟩ := Option.bind_eq_some_iff.mp hf
    refine r_gR X I e10 lk_TrapCorner_49 dX11_yearly_15 ?_
    obtain ⟨_, g15, hf⟩ := Option.bind_eq_some_iff.mp hf
    obtain ⟨⟨⟩, h12, e13, z14, hf⟩ := cN_spec hf
    refine k_Vv (As := [.ref (rfG g v9)]) (rest := []) X I (c_X8_copyFrom l g v7 v9 e13) z14 g15 vk_TrapCorner_350 tw_892 ⟨Nat.le_trans (by decide) hR.1, Nat.le_trans (by decide) hR.2⟩ ⟨Nat.zero_le _, Nat.zero_le _⟩ rfl hl.1 rfl (Nat.le_of_ble_eq_true rfl) dX11_yearly_18 (fun H locs I => ?_)
    refine lv_iconst (v := 0) hx hb dX11_yearly_21 (by decide) ?_
    refine lv_istore_n (lv' := [(2, .int 0), (0, .ref (rfG g o0)), (1, .int x1)]) hx hb dX11_yearly_22 rfl hl (by decide) rfl (fun ls hl => ?_)
    refine lv_iconst (v := 0) hx hb dX11_yearly_23 (by decide) ?_
    refine lv_istore_n (lv' := [(3, .int 0), (2, .int 0), (0, .ref (rfG g o0)), (1, .int x1)]) hx hb dX11_yearly_24 rfl hl (by decide) rfl (fun ls hl => ?_)
    exact w_X11_yearly_25 X hR hr fu o0 x1 0 0 h12 ls H locs hf I (lv_sub hl [2, 3, 1, 0] rfl)
  · rw [if_pos c6] at hf
    refine lv_iconst (v := (-1)) hx hb dX11_yearly_8 (by decide) ?_
    cases hf
    exact k_ri X I hr dX11_yearly_9
def f_X11_yearly (o0 : Nat) (x1 : Int32) (h : AH) : Option (Int32 × AH) := f_X11_yearly_0 o0 x1 h
end
theorem c_X11_yearly (l : Launch) (g : GG) (o0 : Nat) (x1 : Int32) {h : AH} {res : Int32 × AH} (hf : f_X11_yearly o0 x1 h = some res) : CM l g yX11_yearly cX11_yearly 4 (some (.int)) 7 448 0 0 [.ref (rfG g o0), .int x1] h (some (.int res.1)) res.2 :=
  k_body (by decide) (Nat.le_of_ble_eq_true rfl) (fun p e s m below meth c R ls hR hr X I hl => w_X11_yearly_0 X ⟨Nat.le_of_eq hR.1.symm, Nat.le_of_eq hR.2.1.symm⟩ hr o0 x1 h ls s.heap [] hf I (lv_sub hl [0, 1] rfl))
/-! TrapCorner.all(I)I -/
theorem dX11_all_0 : decode cX11_all 0 = .ok (.aload_n 0, 1) := by decide +kernel
theorem dX11_all_1 : decode cX11_all 1 = .ok (.invokevirtual 172, 3) := by decide +kernel
theorem dX11_all_4 : decode cX11_all 4 = .ok (.ifCond .ne 5, 3) := by decide +kernel
theorem dX11_all_7 : decode cX11_all 7 = .ok (.iconst (-1), 1) := by decide +kernel
theorem dX11_all_8 : decode cX11_all 8 = .ok (.ireturn, 1) := by decide +kernel
theorem dX11_all_9 : decode cX11_all 9 = .ok (.iload_n 1, 1) := by decide +kernel
theorem dX11_all_10 : decode cX11_all 10 = .ok (.tableswitch 209 0 10 #[58, 63, 81, 99, 117, 135, 140, 145, 150, 177, 204], 58) := by decide +kernel
theorem dX11_all_68 : decode cX11_all 68 = .ok (.aload_n 0, 1) := by decide +kernel
theorem dX11_all_69 : decode cX11_all 69 = .ok (.invokevirtual 426, 3) := by decide +kernel
theorem dX11_all_72 : decode cX11_all 72 = .ok (.ireturn, 1) := by decide +kernel
theorem dX11_all_73 : decode cX11_all 73 = .ok (.aload_n 0, 1) := by decide +kernel
theorem dX11_all_74 : decode cX11_all 74 = .ok (.getfield 49, 3) := by decide +kernel
theorem dX11_all_77 : decode cX11_all 77 = .ok (.getfield 191, 3) := by decide +kernel
theorem dX11_all_80 : decode cX11_all 80 = .ok (.aload_n 0, 1) := by decide +kernel
theorem dX11_all_81 : decode cX11_all 81 = .ok (.getfield 42, 3) := by decide +kernel
theorem dX11_all_84 : decode cX11_all 84 = .ok (.getfield 253, 3) := by decide +kernel
theorem dX11_all_87 : decode cX11_all 87 = .ok (.invokestatic 429, 3) := by decide +kernel
theorem dX11_all_90 : decode cX11_all 90 = .ok (.ireturn, 1) := by decide +kernel
theorem dX11_all_91 : decode cX11_all 91 = .ok (.aload_n 0, 1) := by decide +kernel
theorem dX11_all_92 : decode cX11_all 92 = .ok (.getfield 49, 3) := by decide +kernel
theorem dX11_all_95 : decode cX11_all 95 = .ok (.getfield 210, 3) := by decide +kernel
theorem dX11_all_98 : decode cX11_all 98 = .ok (.aload_n 0, 1) := by decide +kernel
theorem dX11_all_99 : decode cX11_all 99 = .ok (.getfield 42, 3) := by decide +kernel
theorem dX11_all_102 : decode cX11_all 102 = .ok (.getfield 156, 3) := by decide +kernel
theorem dX11_all_105 : decode cX11_all 105 = .ok (.invokestatic 429, 3) := by decide +kernel
theorem dX11_all_108 : decode cX11_all 108 = .ok (.ireturn, 1) := by decide +kernel
theorem dX11_all_109 : decode cX11_all 109 = .ok (.aload_n 0, 1) := by decide +kernel
theorem dX11_all_110 : decode cX11_all 110 = .ok (.getfield 42, 3) := by decide +kernel
theorem dX11_all_113 : decode cX11_all 113 = .ok (.getfield 207, 3) := by decide +kernel
theorem dX11_all_116 : decode cX11_all 116 = .ok (.aload_n 0, 1) := by decide +kernel
theorem dX11_all_117 : decode cX11_all 117 = .ok (.getfield 42, 3) := by decide +kernel
theorem dX11_all_120 : decode cX11_all 120 = .ok (.getfield 156, 3) := by decide +kernel
theorem dX11_all_123 : decode cX11_all 123 = .ok (.invokestatic 429, 3) := by decide +kernel
theorem dX11_all_126 : decode cX11_all 126 = .ok (.ireturn, 1) := by decide +kernel
theorem dX11_all_127 : decode cX11_all 127 = .ok (.aload_n 0, 1) := by decide +kernel
theorem dX11_all_128 : decode cX11_all 128 = .ok (.getfield 49, 3) := by decide +kernel
theorem dX11_all_131 : decode cX11_all 131 = .ok (.getfield 222, 3) := by decide +kernel
theorem dX11_all_134 : decode cX11_all 134 = .ok (.aload_n 0, 1) := by decide +kernel
theorem dX11_all_135 : decode cX11_all 135 = .ok (.getfield 42, 3) := by decide +kernel
theorem dX11_all_138 : decode cX11_all 138 = .ok (.getfield 156, 3) := by decide +kernel
theorem dX11_all_141 : decode cX11_all 141 = .ok (.invokestatic 429, 3) := by decide +kernel
theorem dX11_all_144 : decode cX11_all 144 = .ok (.ireturn, 1) := by decide +kernel
theorem dX11_all_145 : decode cX11_all 145 = .ok (.aload_n 0, 1) := by decide +kernel
theorem dX11_all_146 : decode cX11_all 146 = .ok (.invokevirtual 433, 3) := by decide +kernel
theorem dX11_all_149 : decode cX11_all 149 = .ok (.ireturn, 1) := by decide +kernel
theorem dX11_all_150 : decode cX11_all 150 = .ok (.aload_n 0, 1) := by decide +kernel
theorem dX11_all_151 : decode cX11_all 151 = .ok (.invokevirtual 436, 3) := by decide +kernel
theorem dX11_all_154 : decode cX11_all 154 = .ok (.ireturn, 1) := by decide +kernel
theorem dX11_all_155 : decode cX11_all 155 = .ok (.aload_n 0, 1) := by decide +kernel
theorem dX11_all_156 : decode cX11_all 156 = .ok (.invokevirtual 439, 3) := by decide +kernel
theorem dX11_all_159 : decode cX11_all 159 = .ok (.ireturn, 1) := by decide +kernel
theorem dX11_all_160 : decode cX11_all 160 = .ok (.aload_n 0, 1) := by decide +kernel
theorem dX11_all_161 : decode cX11_all 161 = .ok (.getfield 75, 3) := by decide +kernel
theorem dX11_all_164 : decode cX11_all 164 = .ok (.aload_n 0, 1) := by decide +kernel
theorem dX11_all_165 : decode cX11_all 165 = .ok (.getfield 49, 3) := by decide +kernel
theorem dX11_all_168 : decode cX11_all 168 = .ok (.aload_n 0, 1) := by decide +kernel
theorem dX11_all_169 : decode cX11_all 169 = .ok (.getfield 42, 3) := by decide +kernel
theorem dX11_all_172 : decode cX11_all 172 = .ok (.getfield 156, 3) := by decide +kernel
theorem dX11_all_175 : decode cX11_all 175 = .ok (.iconst 0, 1) := by decide +kernel
theorem dX11_all_176 : decode cX11_all 176 = .ok (.invokevirtual 343, 3) := by decide +kernel
theorem dX11_all_179 : decode cX11_all 179 = .ok (.aload_n 0, 1) := by decide +kernel
theorem dX11_all_180 : decode cX11_all 180 = .ok (.getfield 75, 3) := by decide +kernel
theorem dX11_all_183 : decode cX11_all 183 = .ok (.getfield 284, 3) := by decide +kernel
theorem dX11_all_186 : decode cX11_all 186 = .ok (.ireturn, 1) := by decide +kernel
theorem dX11_all_187 : decode cX11_all 187 = .ok (.aload_n 0, 1) := by decide +kernel
theorem dX11_all_188 : decode cX11_all 188 = .ok (.getfield 75, 3) := by decide +kernel
theorem dX11_all_191 : decode cX11_all 191 = .ok (.aload_n 0, 1) := by decide +kernel
theorem dX11_all_192 : decode cX11_all 192 = .ok (.getfield 49, 3) := by decide +kernel
theorem dX11_all_195 : decode cX11_all 195 = .ok (.aload_n 0, 1) := by decide +kernel
theorem dX11_all_196 : decode cX11_all 196 = .ok (.getfield 42, 3) := by decide +kernel
theorem dX11_all_199 : decode cX11_all 199 = .ok (.getfield 156, 3) := by decide +kernel
theorem dX11_all_202 : decode cX11_all 202 = .ok (.iconst 0, 1) := by decide +kernel
theorem dX11_all_203 : decode cX11_all 203 = .ok (.invokevirtual 343, 3) := by decide +kernel
theorem dX11_all_206 : decode cX11_all 206 = .ok (.aload_n 0, 1) := by decide +kernel
theorem dX11_all_207 : decode cX11_all 207 = .ok (.getfield 75, 3) := by decide +kernel
theorem dX11_all_210 : decode cX11_all 210 = .ok (.getfield 330, 3) := by decide +kernel
theorem dX11_all_213 : decode cX11_all 213 = .ok (.ireturn, 1) := by decide +kernel
theorem dX11_all_214 : decode cX11_all 214 = .ok (.aload_n 0, 1) := by decide +kernel
theorem dX11_all_215 : decode cX11_all 215 = .ok (.invokevirtual 442, 3) := by decide +kernel
theorem dX11_all_218 : decode cX11_all 218 = .ok (.ireturn, 1) := by decide +kernel
theorem dX11_all_219 : decode cX11_all 219 = .ok (.iconst (-1), 1) := by decide +kernel
theorem dX11_all_220 : decode cX11_all 220 = .ok (.ireturn, 1) := by decide +kernel
theorem vk_TrapCorner_426 : VK "TrapCorner" 426 [11] yX11_busiest 0 := ⟨tw_1167, tw_1169, tw_1, ⟨by decide, by decide⟩, by decide +kernel, fun ci hci => by
  have hci := List.mem_singleton.mp hci
  subst hci
  exact ⟨_, rfl, tp_45⟩⟩
theorem sk_TrapCorner_429 : SK "TrapCorner" 429 yX11_firstHighest 2 := ⟨tw_1171, tw_1172, tw_1, ⟨by decide, by decide⟩, by decide +kernel⟩
theorem vk_TrapCorner_433 : VK "TrapCorner" 433 [11] yX11_honest 0 := ⟨tw_1174, tw_1176, tw_1, ⟨by decide, by decide⟩, by decide +kernel, fun ci hci => by
  have hci := List.mem_singleton.mp hci
  subst hci
  exact ⟨_, rfl, tp_46⟩⟩
theorem vk_TrapCorner_436 : VK "TrapCorner" 436 [11] yX11_oldOnes 0 := ⟨tw_1182, tw_1184, tw_1, ⟨by decide, by decide⟩, by decide +kernel, fun ci hci => by
  have hci := List.mem_singleton.mp hci
  subst hci
  exact ⟨_, rfl, tp_48⟩⟩
theorem vk_TrapCorner_439 : VK "TrapCorner" 439 [11] yX11_emptyCorners 0 := ⟨tw_1186, tw_1188, tw_1, ⟨by decide, by decide⟩, by decide +kernel, fun ci hci => by
  have hci := List.mem_singleton.mp hci
  subst hci
  exact ⟨_, rfl, tp_49⟩⟩
theorem vk_TrapCorner_442 : VK "TrapCorner" 442 [11] yX11_crumbsThatLie 0 := ⟨tw_1190, tw_1192, tw_1, ⟨by decide, by decide⟩, by decide +kernel, fun ci hci => by
  have hci := List.mem_singleton.mp hci
  subst hci
  exact ⟨_, rfl, tp_50⟩⟩
section
variable {g : GG} {p : Program} {l : Launch} {e : Env} {R : Room} {s : State} {m : MethodId} {args : Array Value} {below : List Frame} {meth : Method} {c : Code} {n0 z0 : Nat}
def f_X11_all_0  (o0 : Nat) (x1 : Int32) (h : AH) : Option (Int32 × AH) :=
  (isC [11] h o0).bind fun _ =>
  cN (f_X11_hasCity o0 h) h fun v1 h2 =>
  if v1 = 0 then
    some ((-1), h2)
  else
    if x1 = 0 then
      (isC [11] h2 o0).bind fun _ =>
      cN (f_X11_busiest o0 h2) h2 fun v8 h9 =>
      some (v8, h9)
    else
      if x1 = 1 then
        (gR [11] h2 o0 5).bind fun v14 =>
        (gR [8] h2 v14 1).bind fun v16 =>
        (gR [11] h2 o0 4).bind fun v18 =>
        (gI [10] h2 v18 0).bind fun v20 =>
        cN (f_X11_firstHighest v16 v20 h2) h2 fun v22 h23 =>
        some (v22, h23)
      else
        if x1 = 2 then
          (gR [11] h2 o0 5).bind fun v27 =>
          (gR [8] h2 v27 2).bind fun v29 =>
          (gR [11] h2 o0 4).bind fun v31 =>
          (gI [10] h2 v31 1).bind fun v33 =>
          cN (f_X11_firstHighest v29 v33 h2) h2 fun v35 h36 =>
          some (v35, h36)
        else
          if x1 = 3 then
            (gR [11] h2 o0 4).bind fun v40 =>
            (gR [10] h2 v40 8).bind fun v42 =>
            (gR [11] h2 o0 4).bind fun v44 =>
            (gI [10] h2 v44 1).bind fun v46 =>
            cN (f_X11_firstHighest v42 v46 h2) h2 fun v48 h49 =>
            some (v48, h49)
          else
            if x1 = 4 then
              (gR [11] h2 o0 5).bind fun v53 =>
              (gR [8] h2 v53 3).bind fun v55 =>
              (gR [11] h2 o0 4).bind fun v57 =>
              (gI [10] h2 v57 1).bind fun v59 =>
              cN (f_X11_firstHighest v55 v59 h2) h2 fun v61 h62 =>
              some (v61, h62)
            else
              if x1 = 5 then
                (isC [11] h2 o0).bind fun _ =>
                cN (f_X11_honest o0 h2) h2 fun v66 h67 =>
                some (v66, h67)
              else
                if x1 = 6 then
                  (isC [11] h2 o0).bind fun _ =>
                  cN (f_X11_oldOnes o0 h2) h2 fun v72 h73 =>
                  some (v72, h73)
                else
                  if x1 = 7 then
                    (isC [11] h2 o0).bind fun _ =>
                    cN (f_X11_emptyCorners o0 h2) h2 fun v78 h79 =>
                    some (v78, h79)
                  else
                    if x1 = 8 then
                      (gR [11] h2 o0 9).bind fun v84 =>
                      (gR [11] h2 o0 5).bind fun v86 =>
                      (gR [11] h2 o0 4).bind fun v88 =>
                      (gI [10] h2 v88 1).bind fun v90 =>
                      (isC [6] h2 v84).bind fun _ =>
                      cN (f_X6_play v84 v86 v90 0 h2) h2 fun _ h93 =>
                      (gR [11] h93 o0 9).bind fun v97 =>
                      (gI [6] h93 v97 3).bind fun v99 =>
                      some (v99, h93)
                    else
                      if x1 = 9 then
                        (gR [11] h2 o0 9).bind fun v102 =>
                        (gR [11] h2 o0 5).bind fun v104 =>
                        (gR [11] h2 o0 4).bind fun v106 =>
                        (gI [10] h2 v106 1).bind fun v108 =>
                        (isC [6] h2 v102).bind fun _ =>
                        cN (f_X6_play v102 v104 v108 0 h2) h2 fun _ h111 =>
                        (gR [11] h111 o0 9).bind fun v115 =>
                        (gI [6] h111 v115 4).bind fun v117 =>
                        some (v117, h111)
                      else
                        if x1 = 10 then
                          (isC [11] h2 o0).bind fun _ =>
                          cN (f_X11_crumbsThatLie o0 h2) h2 fun v120 h121 =>
                          some (v120, h121)
                        else
                          some ((-1), h2)
set_option maxHeartbeats 1000000 in
theorem w_X11_all_0 (X : Cx g p s m args meth c cX11_all 2 "TrapCorner") (hR : 6 ≤ R.frames ∧ 384 ≤ R.locals) (hr : meth.sig.returnType = (some (.int))) {res : Int32 × AH} : ∀ (o0 : Nat) (x1 : Int32) (h : AH) (ls : Array Slot) (H : Heap) (locs : List Loc), f_X11_all_0 o0 x1 h = some res → Iv g s n0 z0 h H locs 0 0 → lv_has ls 2 [(0, .ref (rfG g o0)), (1, .int x1)] → W p l e R s m args below meth c H locs 0 0 (MQ below (QG g (some (.int res.1)) res.2) args s 0 0 (AG g)) (F0 m 0 ls []) := by
  have hx := X.1
  have hb := X.2.1
  intro o0 x1 h ls H locs hf I hl
  unfold f_X11_all_0 at hf
  refine lv_aload_n hx hb dX11_all_0 rfl (lv_at hl 0 rfl) ?_
  obtain ⟨_, g5, hf⟩ := Option.bind_eq_some_iff.mp hf
  obtain ⟨v1, h2, e3, z4, hf⟩ := cN_spec hf
  refine k_Vi (As := []) (rest := []) X I (c_X11_hasCity l g o0 e3) z4 g5 vk_TrapCorner_172 tw_793 ⟨Nat.le_trans (by decide) hR.1, Nat.le_trans (by decide) hR.2⟩ ⟨Nat.zero_le _, Nat.zero_le _⟩ rfl hl.1 rfl (Nat.le_of_ble_eq_true rfl) dX11_all_1 (fun H locs I => ?_)
  refine lv_if_ne (tgt := 9) hx hb dX11_all_4 (by decide) (fun c6 => ?_) (fun c6 => ?_)
  · rw [if_neg c6] at hf
    refine lv_iload_n hx hb dX11_all_9 rfl (lv_at hl 1 rfl) ?_
    by_cases c7 : x1 = 0
    · rw [if_pos c7] at hf
      refine lv_tableIn (tgt := 68) hx hb dX11_all_10 (by rw [c7]; decide) (by rw [c7]; decide) (by rw [c7]; rfl) (by decide) ?_
      refine lv_aload_n hx hb dX11_all_68 rfl (lv_at hl 0 rfl) ?_
      obtain ⟨_, g12, hf⟩ := Option.bind_eq_some_iff.mp hf
      obtain ⟨v8, h9, e10, z11, hf⟩ := cN_spec hf
      refine k_Vi (As := []) (rest := []) X I (c_X11_busiest l g o0 e10) z11 g12 vk_TrapCorner_426 tw_1170 ⟨Nat.le_trans (by decide) hR.1, Nat.le_trans (by decide) hR.2⟩ ⟨Nat.zero_le _, Nat.zero_le _⟩ rfl hl.1 rfl (Nat.le_of_ble_eq_true rfl) dX11_all_69 (fun H locs I => ?_)
      cases hf
      exact k_ri X I hr dX11_all_72
    · rw [if_neg c7] at hf
      by_cases c13 : x1 = 1
      · rw [if_pos c13] at hf
        refine lv_tableIn (tgt := 73) hx hb dX11_all_10 (by rw [c13]; decide) (by rw [c13]; decide) (by rw [c13]; rfl) (by decide) ?_
        refine lv_aload_n hx hb dX11_all_73 rfl (lv_at hl 0 rfl) ?_
        obtain ⟨v14, e15, hf⟩ := Option.bind_eq_some_iff.mp hf
        refine r_gR X I e15 lk_TrapCorner_49 dX11_all_74 ?_
        obtain ⟨v16, e17, hf⟩ := Option.bind_eq_some_iff.mp hf
        refine r_gR X I e17 lk_TrapCorner_191 dX11_all_77 ?_
        refine lv_aload_n hx hb dX11_all_80 rfl (lv_at hl 0 rfl) ?_
        obtain ⟨v18, e19, hf⟩ := Option.bind_eq_some_iff.mp hf
        refine r_gR X I e19 lk_TrapCorner_42 dX11_all_81 ?_
        obtain ⟨v20, e21, hf⟩ := Option.bind_eq_some_iff.mp hf
        refine r_gI X I e21 lk_TrapCorner_253 dX11_all_84 ?_
        obtain ⟨v22, h23, e24, z25, hf⟩ := cN_spec hf
        refine k_Si (As := [.ref (rfG g v16), .int v20]) (rest := []) X I (c_X11_firstHighest l g v16 v20 e24) z25 sk_TrapCorner_429 tw_1173 ⟨Nat.le_trans (by decide) hR.1, Nat.le_trans (by decide) hR.2⟩ ⟨Nat.zero_le _, Nat.zero_le _⟩ rfl hl.1 rfl (Nat.le_of_ble_eq_true rfl) dX11_all_87 (fun H locs I => ?_)
        cases hf
        exact k_ri X I hr dX11_all_90
      · rw [if_neg c13] at hf
        by_cases c26 : x1 = 2
        · rw [if_pos c26] at hf
          refine lv_tableIn (tgt := 91) hx hb dX11_all_10 (by rw [c26]; decide) (by rw [c26]; decide) (by rw [c26]; rfl) (by decide) ?_
          refine lv_aload_n hx hb dX11_all_91 rfl (lv_at hl 0 rfl) ?_
          obtain ⟨v27, e28, hf⟩ := Option.bind_eq_some_iff.mp hf
          refine r_gR X I e28 lk_TrapCorner_49 dX11_all_92 ?_
          obtain ⟨v29, e30, hf⟩ := Option.bind_eq_some_iff.mp hf
          refine r_gR X I e30 lk_TrapCorner_210 dX11_all_95 ?_
          refine lv_aload_n hx hb dX11_all_98 rfl (lv_at hl 0 rfl) ?_
          obtain ⟨v31, e32, hf⟩ := Option.bind_eq_some_iff.mp hf
          refine r_gR X I e32 lk_TrapCorner_42 dX11_all_99 ?_
          obtain ⟨v33, e34, hf⟩ := Option.bind_eq_some_iff.mp hf
          refine r_gI X I e34 lk_TrapCorner_156 dX11_all_102 ?_
          obtain ⟨v35, h36, e37, z38, hf⟩ := cN_spec hf
          refine k_Si (As := [.ref (rfG g v29), .int v33]) (rest := []) X I (c_X11_firstHighest l g v29 v33 e37) z38 sk_TrapCorner_429 tw_1173 ⟨Nat.le_trans (by decide) hR.1, Nat.le_trans (by decide) hR.2⟩ ⟨Nat.zero_le _, Nat.zero_le _⟩ rfl hl.1 rfl (Nat.le_of_ble_eq_true rfl) dX11_all_105 (fun H locs I => ?_)
          cases hf
          exact k_ri X I hr dX11_all_108
        · rw [if_neg c26] at hf
          by_cases c39 : x1 = 3
          · rw [if_pos c39] at hf
            refine lv_tableIn (tgt := 109) hx hb dX11_all_10 (by rw [c39]; decide) (by rw [c39]; decide) (by rw [c39]; rfl) (by decide) ?_
            refine lv_aload_n hx hb dX11_all_109 rfl (lv_at hl 0 rfl) ?_
            obtain ⟨v40, e41, hf⟩ := Option.bind_eq_some_iff.mp hf
            refine r_gR X I e41 lk_TrapCorner_42 dX11_all_110 ?_
            obtain ⟨v42, e43, hf⟩ := Option.bind_eq_some_iff.mp hf
            refine r_gR X I e43 lk_TrapCorner_207 dX11_all_113 ?_
            refine lv_aload_n hx hb dX11_all_116 rfl (lv_at hl 0 rfl) ?_
            obtain ⟨v44, e45, hf⟩ := Option.bind_eq_some_iff.mp hf
            refine r_gR X I e45 lk_TrapCorner_42 dX11_all_117 ?_
            obtain ⟨v46, e47, hf⟩ := Option.bind_eq_some_iff.mp hf
            refine r_gI X I e47 lk_TrapCorner_156 dX11_all_120 ?_
            obtain ⟨v48, h49, e50, z51, hf⟩ := cN_spec hf
            refine k_Si (As := [.ref (rfG g v42), .int v46]) (rest := []) X I (c_X11_firstHighest l g v42 v46 e50) z51 sk_TrapCorner_429 tw_1173 ⟨Nat.le_trans (by decide) hR.1, Nat.le_trans (by decide) hR.2⟩ ⟨Nat.zero_le _, Nat.zero_le _⟩ rfl hl.1 rfl (Nat.le_of_ble_eq_true rfl) dX11_all_123 (fun H locs I => ?_)
            cases hf
            exact k_ri X I hr dX11_all_126
          · rw [if_neg c39] at hf
            by_cases c52 : x1 = 4
            · rw [if_pos c52] at hf
              refine lv_tableIn (tgt := 127) hx hb dX11_all_10 (by rw [c52]; decide) (by rw [c52]; decide) (by rw [c52]; rfl) (by decide) ?_
              refine lv_aload_n hx hb dX11_all_127 rfl (lv_at hl 0 rfl) ?_
              obtain ⟨v53, e54, hf⟩ := Option.bind_eq_some_iff.mp hf
              refine r_gR X I e54 lk_TrapCorner_49 dX11_all_128 ?_
              obtain ⟨v55, e56, hf⟩ := Option.bind_eq_some_iff.mp hf
              refine r_gR X I e56 lk_TrapCorner_222 dX11_all_131 ?_
              refine lv_aload_n hx hb dX11_all_134 rfl (lv_at hl 0 rfl) ?_
              obtain ⟨v57, e58, hf⟩ := Option.bind_eq_some_iff.mp hf
              refine r_gR X I e58 lk_TrapCorner_42 dX11_all_135 ?_
              obtain ⟨v59, e60, hf⟩ := Option.bind_eq_some_iff.mp hf
              refine r_gI X I e60 lk_TrapCorner_156 dX11_all_138 ?_
              obtain ⟨v61, h62, e63, z64, hf⟩ := cN_spec hf
              refine k_Si (As := [.ref (rfG g v55), .int v59]) (rest := []) X I (c_X11_firstHighest l g v55 v59 e63) z64 sk_TrapCorner_429 tw_1173 ⟨Nat.le_trans (by decide) hR.1, Nat.le_trans (by decide) hR.2⟩ ⟨Nat.zero_le _, Nat.zero_le _⟩ rfl hl.1 rfl (Nat.le_of_ble_eq_true rfl) dX11_all_141 (fun H locs I => ?_)
              cases hf
              exact k_ri X I hr dX11_all_144
            · rw [if_neg c52] at hf
              by_cases c65 : x1 = 5
              · rw [if_pos c65] at hf
                refine lv_tableIn (tgt := 145) hx hb dX11_all_10 (by rw [c65]; decide) (by rw [c65]; decide) (by rw [c65]; rfl) (by decide) ?_
                refine lv_aload_n hx hb dX11_all_145 rfl (lv_at hl 0 rfl) ?_
                obtain ⟨_, g70, hf⟩ := Option.bind_eq_some_iff.mp hf
                obtain ⟨v66, h67, e68, z69, hf⟩ := cN_spec hf
                refine k_Vi (As := []) (rest := []) X I (c_X11_honest l g o0 e68) z69 g70 vk_TrapCorner_433 tw_1177 ⟨Nat.le_trans (by decide) hR.1, Nat.le_trans (by decide) hR.2⟩ ⟨Nat.zero_le _, Nat.zero_le _⟩ rfl hl.1 rfl (Nat.le_of_ble_eq_true rfl) dX11_all_146 (fun H locs I => ?_)
                cases hf
                exact k_ri X I hr dX11_all_149
              · rw [if_neg c65] at hf
                by_cases c71 : x1 = 6
                · rw [if_pos c71] at hf
                  refine lv_tableIn (tgt := 150) hx hb dX11_all_10 (by rw [c71]; decide) (by rw [c71]; decide) (by rw [c71]; rfl) (by decide) ?_
                  refine lv_aload_n hx hb dX11_all_150 rfl (lv_at hl 0 rfl) ?_
                  obtain ⟨_, g76, hf⟩ := Option.bind_eq_some_iff.mp hf
                  obtain ⟨v72, h73, e74, z75, hf⟩ := cN_spec hf
                  refine k_Vi (As := []) (rest := []) X I (c_X11_oldOnes l g o0 e74) z75 g76 vk_TrapCorner_436 tw_1185 ⟨Nat.le_trans (by decide) hR.1, Nat.le_trans (by decide) hR.2⟩ ⟨Nat.zero_le _, Nat.zero_le _⟩ rfl hl.1 rfl (Nat.le_of_ble_eq_true rfl) dX11_all_151 (fun H locs I => ?_)
                  cases hf
                  exact k_ri X I hr dX11_all_154
                · rw [if_neg c71] at hf
                  by_cases c77 : x1 = 7
                  · rw [if_pos c77] at hf
                    refine lv_tableIn (tgt := 155) hx hb dX11_all_10 (by rw [c77]; decide) (by rw [c77]; decide) (by rw [c77]; rfl) (by decide) ?_
                    refine lv_aload_n hx hb dX11_all_155 rfl (lv_at hl 0 rfl) ?_
                    obtain ⟨_, g82, hf⟩ := Option.bind_eq_some_iff.mp hf
                    obtain ⟨v78, h79, e80, z81, hf⟩ := cN_spec hf
                    refine k_Vi (As := []) (rest := []) X I (c_X11_emptyCorners l g o0 e80) z81 g82 vk_TrapCorner_439 tw_1189 ⟨Nat.le_trans (by decide) hR.1, Nat.le_trans (by decide) hR.2⟩ ⟨Nat.zero_le _, Nat.zero_le _⟩ rfl hl.1 rfl (Nat.le_of_ble_eq_true rfl) dX11_all_156 (fun H locs I => ?_)
                    cases hf
                    exact k_ri X I hr dX11_all_159
                  · rw [if_neg c77] at hf
                    by_cases c83 : x1 = 8
                    · rw [if_pos c83] at hf
                      refine lv_tableIn (tgt := 160) hx hb dX11_all_10 (by rw [c83]; decide) (by rw [c83]; decide) (by rw [c83]; rfl) (by decide) ?_
                      refine lv_aload_n hx hb dX11_all_160 rfl (lv_at hl 0 rfl) ?_
                      obtain ⟨v84, e85, hf⟩ := Option.bind_eq_some_iff.mp hf
                      refine r_gR X I e85 lk_TrapCorner_75 dX11_all_161 ?_
                      refine lv_aload_n hx hb dX11_all_164 rfl (lv_at hl 0 rfl) ?_
                      obtain ⟨v86, e87, hf⟩ := Option.bind_eq_some_iff.mp hf
                      refine r_gR X I e87 lk_TrapCorner_49 dX11_all_165 ?_
                      refine lv_aload_n hx hb dX11_all_168 rfl (lv_at hl 0 rfl) ?_
                      obtain ⟨v88, e89, hf⟩ := Option.bind_eq_some_iff.mp hf
                      refine r_gR X I e89 lk_TrapCorner_42 dX11_all_169 ?_
                      obtain ⟨v90, e91, hf⟩ := Option.bind_eq_some_iff.mp hf
                      refine r_gI X I e91 lk_TrapCorner_156 dX11_all_172 ?_
                      refine lv_iconst (v := 0) hx hb dX11_all_175 (by decide) ?_
                      obtain ⟨_, g96, hf⟩ := Option.bind_eq_some_iff.mp hf
                      obtain ⟨⟨⟩, h93, e94, z95, hf⟩ := cN_spec hf
                      refine k_Vv (As := [.ref (rfG g v86), .int v90, .int 0]) (rest := []) X I (c_X6_play l g v84 v86 v90 0 e94) z95 g96 vk_TrapCorner_343 tw_901 ⟨Nat.le_trans (by decide) hR.1, Nat.le_trans (by decide) hR.2⟩ ⟨Nat.zero_le _, Nat.zero_le _⟩ rfl hl.1 rfl (Nat.le_of_ble_eq_true rfl) dX11_all_176 (fun H locs I => ?_)
                      refine lv_aload_n hx hb dX11_all_179 rfl (lv_at hl 0 rfl) ?_
                      obtain ⟨v97, e98, hf⟩ := Option.bind_eq_some_iff.mp hf
                      refine r_gR X I e98 lk_TrapCorner_75 dX11_all_180 ?_
                      obtain ⟨v99, e100, hf⟩ := Option.bind_eq_some_iff.mp hf
                      refine r_gI X I e100 lk_TrapCorner_284 dX11_all_183 ?_
                      cases hf
                      exact k_ri X I hr dX11_all_186
                    · rw [if_neg c83] at hf
                      by_cases c101 : x1 = 9
                      · rw [if_pos c101] at hf
                        refine lv_tableIn (tgt := 187) hx hb dX11_all_10 (by rw [c101]; decide) (by rw [c101]; decide) (by rw [c101]; rfl) (by decide) ?_
                        refine lv_aload_n hx hb dX11_all_187 rfl (lv_at hl 0 rfl) ?_
                        obtain ⟨v102, e103, hf⟩ := Option.bind_eq_some_iff.mp hf
                        refine r_gR X I e103 lk_TrapCorner_75 dX11_all_188 ?_
                        refine lv_aload_n hx hb dX11_all_191 rfl (lv_at hl 0 rfl) ?_
                        obtain ⟨v104, e105, hf⟩ := Option.bind_eq_some_iff.mp hf
                        refine r_gR X I e105 lk_TrapCorner_49 dX11_all_192 ?_
                        refine lv_aload_n hx hb dX11_all_195 rfl (lv_at hl 0 rfl) ?_
                        obtain ⟨v106, e107, hf⟩ := Option.bind_eq_some_iff.mp hf
                        refine r_gR X I e107 lk_TrapCorner_42 dX11_all_196 ?_
                        obtain ⟨v108, e109, hf⟩ := Option.bind_eq_some_iff.mp hf
                        refine r_gI X I e109 lk_TrapCorner_156 dX11_all_199 ?_
                        refine lv_iconst (v := 0) hx hb dX11_all_202 (by decide) ?_
                        obtain ⟨_, g114, hf⟩ := Option.bind_eq_some_iff.mp hf
                        obtain ⟨⟨⟩, h111, e112, z113, hf⟩ := cN_spec hf
                        refine k_Vv (As := [.ref (rfG g v104), .int v108, .int 0]) (rest := []) X I (c_X6_play l g v102 v104 v108 0 e112) z113 g114 vk_TrapCorner_343 tw_901 ⟨Nat.le_trans (by decide) hR.1, Nat.le_trans (by decide) hR.2⟩ ⟨Nat.zero_le _, Nat.zero_le _⟩ rfl hl.1 rfl (Nat.le_of_ble_eq_true rfl) dX11_all_203 (fun H locs I => ?_)
                        refine lv_aload_n hx hb dX11_all_206 rfl (lv_at hl 0 rfl) ?_
                        obtain ⟨v115, e116, hf⟩ := Option.bind_eq_some_iff.mp hf
                        refine r_gR X I e116 lk_TrapCorner_75 dX11_all_207 ?_
                        obtain ⟨v117, e118, hf⟩ := Option.bind_eq_some_iff.mp hf
                        refine r_gI X I e118 lk_TrapCorner_330 dX11_all_210 ?_
                        cases hf
                        exact k_ri X I hr dX11_all_213
                      · rw [if_neg c101] at hf
                        by_cases c119 : x1 = 10
                        · rw [if_pos c119] at hf
                          refine lv_tableIn (tgt := 214) hx hb dX11_all_10 (by rw [c119]; decide) (by rw [c119]; decide) (by rw [c119]; rfl) (by decide) ?_
                          refine lv_aload_n hx hb dX11_all_214 rfl (lv_at hl 0 rfl) ?_
                          obtain ⟨_, g124, hf⟩ := Option.bind_eq_some_iff.mp hf
                          obtain ⟨v120, h121, e122, z123, hf⟩ := cN_spec hf
                          refine k_Vi (As := []) (rest := []) X I (c_X11_crumbsThatLie l g o0 e122) z123 g124 vk_TrapCorner_442 tw_1193 ⟨Nat.le_trans (by decide) hR.1, Nat.le_trans (by decide) hR.2⟩ ⟨Nat.zero_le _, Nat.zero_le _⟩ rfl hl.1 rfl (Nat.le_of_ble_eq_true rfl) dX11_all_215 (fun H locs I => ?_)
                          cases hf
                          exact k_ri X I hr dX11_all_218
                        · rw [if_neg c119] at hf
                          refine lv_tableOut (tgt := 219) hx hb dX11_all_10 (sw_out (fun k k1 k2 => by rcases (show k = 0 ∨ k = 1 ∨ k = 2 ∨ k = 3 ∨ k = 4 ∨ k = 5 ∨ k = 6 ∨ k = 7 ∨ k = 8 ∨ k = 9 ∨ k = 10 by omega) with rfl | rfl | rfl | rfl | rfl | rfl | rfl | rfl | rfl | rfl | rfl <;> assumption)) (by decide) ?_
                          refine lv_iconst (v := (-1)) hx hb dX11_all_219 (by decide) ?_
                          cases hf
                          exact k_ri X I hr dX11_all_220
  · rw [if_pos c6] at hf
    refine lv_iconst (v := (-1)) hx hb dX11_all_7 (by decide) ?_
    cases hf
    exact k_ri X I hr dX11_all_8
def f_X11_all (o0 : Nat) (x1 : Int32) (h : AH) : Option (Int32 × AH) := f_X11_all_0 o0 x1 h
end
theorem c_X11_all (l : Launch) (g : GG) (o0 : Nat) (x1 : Int32) {h : AH} {res : Int32 × AH} (hf : f_X11_all o0 x1 h = some res) : CM l g yX11_all cX11_all 2 (some (.int)) 6 384 0 0 [.ref (rfG g o0), .int x1] h (some (.int res.1)) res.2 :=
  k_body (by decide) (Nat.le_of_ble_eq_true rfl) (fun p e s m below meth c R ls hR hr X I hl => w_X11_all_0 X ⟨Nat.le_of_eq hR.1.symm, Nat.le_of_eq hR.2.1.symm⟩ hr o0 x1 h ls s.heap [] hf I (lv_sub hl [0, 1] rfl))
/-! TrapCorner$Sightings.fit(I)V -/
theorem dX7_fit_0 : decode cX7_fit 0 = .ok (.aload_n 0, 1) := by decide +kernel
theorem dX7_fit_1 : decode cX7_fit 1 = .ok (.iconst 0, 1) := by decide +kernel
theorem dX7_fit_2 : decode cX7_fit 2 = .ok (.putfield 40, 3) := by decide +kernel
theorem dX7_fit_5 : decode cX7_fit 5 = .ok (.iconst 1, 1) := by decide +kernel
theorem dX7_fit_6 : decode cX7_fit 6 = .ok (.istore_n 2, 1) := by decide +kernel
theorem dX7_fit_7 : decode cX7_fit 7 = .ok (.iload_n 2, 1) := by decide +kernel
theorem dX7_fit_8 : decode cX7_fit 8 = .ok (.iconst 3, 1) := by decide +kernel
theorem dX7_fit_9 : decode cX7_fit 9 = .ok (.if_icmp .gt 62, 3) := by decide +kernel
theorem dX7_fit_12 : decode cX7_fit 12 = .ok (.iconst 0, 1) := by decide +kernel
theorem dX7_fit_13 : decode cX7_fit 13 = .ok (.istore_n 3, 1) := by decide +kernel
theorem dX7_fit_14 : decode cX7_fit 14 = .ok (.iload_n 3, 1) := by decide +kernel
theorem dX7_fit_15 : decode cX7_fit 15 = .ok (.bipush 9, 2) := by decide +kernel
theorem dX7_fit_17 : decode cX7_fit 17 = .ok (.if_icmp .gt 48, 3) := by decide +kernel
theorem dX7_fit_20 : decode cX7_fit 20 = .ok (.aload_n 0, 1) := by decide +kernel
theorem dX7_fit_21 : decode cX7_fit 21 = .ok (.iload_n 1, 1) := by decide +kernel
theorem dX7_fit_22 : decode cX7_fit 22 = .ok (.bipush 10, 2) := by decide +kernel
theorem dX7_fit_24 : decode cX7_fit 24 = .ok (.iload_n 2, 1) := by decide +kernel
theorem dX7_fit_25 : decode cX7_fit 25 = .ok (.imul, 1) := by decide +kernel
theorem dX7_fit_26 : decode cX7_fit 26 = .ok (.iload_n 3, 1) := by decide +kernel
theorem dX7_fit_27 : decode cX7_fit 27 = .ok (.iadd, 1) := by decide +kernel
theorem dX7_fit_28 : decode cX7_fit 28 = .ok (.invokevirtual 43, 3) := by decide +kernel
theorem dX7_fit_31 : decode cX7_fit 31 = .ok (.ifCond .eq 28, 3) := by decide +kernel
theorem dX7_fit_34 : decode cX7_fit 34 = .ok (.aload_n 0, 1) := by decide +kernel
theorem dX7_fit_35 : decode cX7_fit 35 = .ok (.getfield 25, 3) := by decide +kernel
theorem dX7_fit_38 : decode cX7_fit 38 = .ok (.aload_n 0, 1) := by decide +kernel
theorem dX7_fit_39 : decode cX7_fit 39 = .ok (.getfield 40, 3) := by decide +kernel
theorem dX7_fit_42 : decode cX7_fit 42 = .ok (.bipush 10, 2) := by decide +kernel
theorem dX7_fit_44 : decode cX7_fit 44 = .ok (.iload_n 2, 1) := by decide +kernel
theorem dX7_fit_45 : decode cX7_fit 45 = .ok (.imul, 1) := by decide +kernel
theorem dX7_fit_46 : decode cX7_fit 46 = .ok (.iload_n 3, 1) := by decide +kernel
theorem dX7_fit_47 : decode cX7_fit 47 = .ok (.iadd, 1) := by decide +kernel
theorem dX7_fit_48 : decode cX7_fit 48 = .ok (.iastore, 1) := by decide +kernel
theorem dX7_fit_49 : decode cX7_fit 49 = .ok (.aload_n 0, 1) := by decide +kernel
theorem dX7_fit_50 : decode cX7_fit 50 = .ok (.dup, 1) := by decide +kernel
theorem dX7_fit_51 : decode cX7_fit 51 = .ok (.getfield 40, 3) := by decide +kernel
theorem dX7_fit_54 : decode cX7_fit 54 = .ok (.iconst 1, 1) := by decide +kernel
theorem dX7_fit_55 : decode cX7_fit 55 = .ok (.iadd, 1) := by decide +kernel
theorem dX7_fit_56 : decode cX7_fit 56 = .ok (.putfield 40, 3) := by decide +kernel
theorem dX7_fit_59 : decode cX7_fit 59 = .ok (.iinc 3 1, 3) := by decide +kernel
theorem dX7_fit_62 : decode cX7_fit 62 = .ok (.goto (-48), 3) := by decide +kernel
theorem dX7_fit_65 : decode cX7_fit 65 = .ok (.iinc 2 1, 3) := by decide +kernel
theorem dX7_fit_68 : decode cX7_fit 68 = .ok (.goto (-61), 3) := by decide +kernel
theorem dX7_fit_71 : decode cX7_fit 71 = .ok (.return_, 1) := by decide +kernel
theorem vk_TrapCorner_Sightings_43 : VK "TrapCorner$Sightings" 43 [7] yX7_fitsAll 2 := ⟨tw_1074, tw_1076, tw_12, ⟨by decide, by decide⟩, by decide +kernel, fun ci hci => by
  have hci := List.mem_singleton.mp hci
  subst hci
  exact ⟨_, rfl, tp_37⟩⟩
theorem lp_TrapCorner_Sightings_40 : LKP "TrapCorner$Sightings" 40 [7] 8 (.int) := by
  intro ci hci
  have hci := List.mem_singleton.mp hci
  subst hci
  exact ⟨RX7, TX7, 9, "TrapCorner$Sightings", ck_7, by decide, tw_341, Or.inl rfl, rfl, by decide +kernel⟩
section
variable {g : GG} {p : Program} {l : Launch} {e : Env} {R : Room} {s : State} {m : MethodId} {args : Array Value} {below : List Frame} {meth : Method} {c : Code} {n0 z0 : Nat}
def f_X7_fit_59 (k7 : Nat → Int32 → Int32 → AH → Option (Unit × AH)) (k14 : Nat → Int32 → Int32 → Int32 → AH → Option (Unit × AH)) (o0 : Nat) (x1 : Int32) (x2 : Int32) (x3 : Int32) (h : AH) : Option (Unit × AH) :=
  k14 o0 x1 x2 (x3 + 1) h
set_option maxHeartbeats 1000000 in
theorem w_X7_fit_59 (X : Cx g p s m args meth c cX7_fit 4 "TrapCorner$Sightings") (hR : 6 ≤ R.frames ∧ 384 ≤ R.locals) (hr : meth.sig.returnType = none) {res : Unit × AH} {k7 : Nat → Int32 → Int32 → AH → Option (Unit × AH)} (hk7 : ∀ (o0 : Nat) (x1 : Int32) (x2 : Int32) (h : AH) (ls : Array Slot) (H : Heap) (locs : List Loc), k7 o0 x1 x2 h = some res → Iv g s n0 z0 h H locs 0 0 → lv_has ls 4 [(0, .ref (rfG g o0)), (1, .int x1), (2, .int x2)] → W p l e R s m args below meth c H locs 0 0 (MQ below (QG g none res.2) args s 0 0 (AG g)) (F0 m 7 ls [])) {k14 : Nat → Int32 → Int32 → Int32 → AH → Option (Unit × AH)} (hk14 : ∀ (o0 : Nat) (x1 : Int32) (x2 : Int32) (x3 : Int32) (h : AH) (ls : Array Slot) (H : Heap) (locs : List Loc), k14 o0 x1 x2 x3 h = some res → Iv g s n0 z0 h H locs 0 0 → lv_has ls 4 [(0, .ref (rfG g o0)), (1, .int x1), (2, .int x2), (3, .int x3)] → W p l e R s m args below meth c H locs 0 0 (MQ below (QG g none res.2) args s 0 0 (AG g)) (F0 m 14 ls [])) : ∀ (o0 : Nat) (x1 : Int32) (x2 : Int32) (x3 : Int32) (h : AH) (ls : Array Slot) (H : Heap) (locs : List Loc), f_X7_fit_59 k7 k14 o0 x1 x2 x3 h = some res → Iv g s n0 z0 h H locs 0 0 → lv_has ls 4 [(0, .ref (rfG g o0)), (1, .int x1), (2, .int x2), (3, .int x3)] → W p l e R s m args below meth c H locs 0 0 (MQ below (QG g none res.2) args s 0 0 (AG g)) (F0 m 59 ls []) := by
  have hx := X.1
  have hb := X.2.1
  intro o0 x1 x2 x3 h ls H locs hf I hl
  unfold f_X7_fit_59 at hf
  refine lv_iinc (v := x3 + 1) (lv' := [(3, .int (x3 + 1)), (0, .ref (rfG g o0)), (1, .int x1), (2, .int x2)]) hx hb dX7_fit_59 hl (k := 3) rfl rfl (by decide) rfl (fun ls hl => ?_)
  refine lv_goto (tgt := 14) hx hb dX7_fit_62 (by decide) ?_
  exact hk14 o0 x1 x2 (x3 + 1) h ls H locs hf I (lv_sub hl [1, 2, 3, 0] rfl)
def f_X7_fit_14 (k7 : Nat → Int32 → Int32 → AH → Option (Unit × AH)) : Nat → Nat → Int32 → Int32 → Int32 → AH → Option (Unit × AH)
  | 0, _, _, _, _, _ => none
  | n + 1, o0, x1, x2, x3, h =>
  if 9 < x3 then
    k7 o0 x1 (x2 + 1) h
  else
    (isC [7] h o0).bind fun _ =>
    cN (f_X7_fitsAll o0 x1 ((10 * x2) + x3) h) h fun v2 h3 =>
    if v2 = 0 then
      f_X7_fit_59 k7 (f_X7_fit_14 k7 n) o0 x1 x2 x3 h3
    else
      (gR [7] h3 o0 7).bind fun v8 =>
      (gI [7] h3 o0 8).bind fun v10 =>
      (uI 0 h3 v8 v10 ((10 * x2) + x3)).bind fun h12 =>
      (gI [7] h12 o0 8).bind fun v14 =>
      (pV [7] h12 o0 8 (.int (v14 + 1))).bind fun h16 =>
      f_X7_fit_59 k7 (f_X7_fit_14 k7 n) o0 x1 x2 x3 h16
set_option maxHeartbeats 1000000 in
theorem w_X7_fit_14 (X : Cx g p s m args meth c cX7_fit 4 "TrapCorner$Sightings") (hR : 6 ≤ R.frames ∧ 384 ≤ R.locals) (hr : meth.sig.returnType = none) {res : Unit × AH} {k7 : Nat → Int32 → Int32 → AH → Option (Unit × AH)} (hk7 : ∀ (o0 : Nat) (x1 : Int32) (x2 : Int32) (h : AH) (ls : Array Slot) (H : Heap) (locs : List Loc), k7 o0 x1 x2 h = some res → Iv g s n0 z0 h H locs 0 0 → lv_has ls 4 [(0, .ref (rfG g o0)), (1, .int x1), (2, .int x2)] → W p l e R s m args below meth c H locs 0 0 (MQ below (QG g none res.2) args s 0 0 (AG g)) (F0 m 7 ls [])) : ∀ (n : Nat) (o0 : Nat) (x1 : Int32) (x2 : Int32) (x3 : Int32) (h : AH) (ls : Array Slot) (H : Heap) (locs : List Loc), f_X7_fit_14 k7 n o0 x1 x2 x3 h = some res → Iv g s n0 z0 h H locs 0 0 → lv_has ls 4 [(0, .ref (rfG g o0)), (1, .int x1), (2, .int x2), (3, .int x3)] → W p l e R s m args below meth c H locs 0 0 (MQ below (QG g none res.2) args s 0 0 (AG g)) (F0 m 14 ls []) := by
  have hx := X.1
  have hb := X.2.1
  intro n
  induction n with
  | zero =>
    intro o0 x1 x2 x3 h ls H locs hf
    rw [f_X7_fit_14.eq_1] at hf
    cases hf
  | succ n ih =>
    intro o0 x1 x2 x3 h ls H locs hf I hl
    rw [f_X7_fit_14.eq_2] at hf
    refine lv_iload_n hx hb dX7_fit_14 rfl (lv_at hl 3 rfl) ?_
    refine lv_bipush (v := 9) hx hb dX7_fit_15 (by decide) ?_
    refine lv_icmp_gt (tgt := 65) hx hb dX7_fit_17 (by decide) (fun c1 => ?_) (fun c1 => ?_)
    · rw [if_pos c1] at hf
      refine lv_iinc (v := x2 + 1) (lv' := [(2, .int (x2 + 1)), (0, .ref (rfG g o0)), (1, .int x1), (3, .int x3)]) hx hb dX7_fit_65 hl (k := 2) rfl rfl (by decide) rfl (fun ls hl => ?_)
      refine lv_goto (tgt := 7) hx hb dX7_fit_68 (by decide) ?_
      exact hk7 o0 x1 (x2 + 1) h ls H locs hf I (lv_sub hl [1, 2, 0] rfl)
    · rw [if_neg c1] at hf
      refine lv_aload_n hx hb dX7_fit_20 rfl (lv_at hl 0 rfl) ?_
      refine lv_iload_n hx hb dX7_fit_21 rfl (lv_at hl 1 rfl) ?_
      refine lv_bipush (v := 10) hx hb dX7_fit_22 (by decide) ?_
      refine lv_iload_n hx hb dX7_fit_24 rfl (lv_at hl 2 rfl) ?_
      refine lv_imul hx hb dX7_fit_25 ?_
      refine lv_iload_n hx hb dX7_fit_26 rfl (lv_at hl 3 rfl) ?_
      refine lv_iadd hx hb dX7_fit_27 ?_
      obtain ⟨_, g6, hf⟩ := Option.bind_eq_some_iff.mp hf
      obtain ⟨v2, h3, e4, z5, hf⟩ := cN_spec hf
      refine k_Vi (As := [.int x1, .int ((10 * x2) + x3)]) (rest := []) X I (c_X7_fitsAll l g o0 x1 ((10 * x2) + x3) e4) z5 g6 vk_TrapCorner_Sightings_43 tw_1077 ⟨Nat.le_trans (by decide) hR.1, Nat.le_trans (by decide) hR.2⟩ ⟨Nat.zero_le _, Nat.zero_le _⟩ rfl hl.1 rfl (Nat.le_of_ble_eq_true rfl) dX7_fit_28 (fun H locs I => ?_)
      refine lv_if_eq (tgt := 59) hx hb dX7_fit_31 (by decide) (fun c7 => ?_) (fun c7 => ?_)
      · rw [if_pos c7] at hf
        exact w_X7_fit_59 X hR hr hk7 ih o0 x1 x2 x3 h3 ls H locs hf I (lv_sub hl [0, 1, 2, 3] rfl)
      · rw [if_neg c7] at hf
        refine lv_aload_n hx hb dX7_fit_34 rfl (lv_at hl 0 rfl) ?_
        obtain ⟨v8, e9, hf⟩ := Option.bind_eq_some_iff.mp hf
        refine r_gR X I e9 lk_TrapCorner_Sightings_25 dX7_fit_35 ?_
        refine lv_aload_n hx hb dX7_fit_38 rfl (lv_at hl 0 rfl) ?_
        obtain ⟨v10, e11, hf⟩ := Option.bind_eq_some_iff.mp hf
        refine r_gI X I e11 lk_TrapCorner_Sightings_40 dX7_fit_39 ?_
        refine lv_bipush (v := 10) hx hb dX7_fit_42 (by decide) ?_
        refine lv_iload_n hx hb dX7_fit_44 rfl (lv_at hl 2 rfl) ?_
        refine lv_imul hx hb dX7_fit_45 ?_
        refine lv_iload_n hx hb dX7_fit_46 rfl (lv_at hl 3 rfl) ?_
        refine lv_iadd hx hb dX7_fit_47 ?_
        obtain ⟨h12, e13, hf⟩ := Option.bind_eq_some_iff.mp hf
        refine r_uI0 X I e13 dX7_fit_48 (fun H locs I => ?_)
        refine lv_aload_n hx hb dX7_fit_49 rfl (lv_at hl 0 rfl) ?_
        refine lv_dup hx hb dX7_fit_50 rfl ?_
        obtain ⟨v14, e15, hf⟩ := Option.bind_eq_some_iff.mp hf
        refine r_gI X I e15 lk_TrapCorner_Sightings_40 dX7_fit_51 ?_
        refine lv_iconst (v := 1) hx hb dX7_fit_54 (by decide) ?_
        refine lv_iadd hx hb dX7_fit_55 ?_
        obtain ⟨h16, e17, hf⟩ := Option.bind_eq_some_iff.mp hf
        refine r_pI X I e17 lp_TrapCorner_Sightings_40 dX7_fit_56 (fun H locs I => ?_)
        exact w_X7_fit_59 X hR hr hk7 ih o0 x1 x2 x3 h16 ls H locs hf I (lv_sub hl [0, 1, 2, 3] rfl)
def f_X7_fit_7  : Nat → Nat → Int32 → Int32 → AH → Option (Unit × AH)
  | 0, _, _, _, _ => none
  | n + 1, o0, x1, x2, h =>
  if 3 < x2 then
    some ((), h)
  else
    f_X7_fit_14 (f_X7_fit_7 n) fu o0 x1 x2 0 h
set_option maxHeartbeats 1000000 in
theorem w_X7_fit_7 (X : Cx g p s m args meth c cX7_fit 4 "TrapCorner$Sightings") (hR : 6 ≤ R.frames ∧ 384 ≤ R.locals) (hr : meth.sig.returnType = none) {res : Unit × AH} : ∀ (n : Nat) (o0 : Nat) (x1 : Int32) (x2 : Int32) (h : AH) (ls : Array Slot) (H : Heap) (locs : List Loc), f_X7_fit_7 n o0 x1 x2 h = some res → Iv g s n0 z0 h H locs 0 0 → lv_has ls 4 [(0, .ref (rfG g o0)), (1, .int x1), (2, .int x2)] → W p l e R s m args below meth c H locs 0 0 (MQ below (QG g none res.2) args s 0 0 (AG g)) (F0 m 7 ls []) := by
  have hx := X.1
  have hb := X.2.1
  intro n
  induction n with
  | zero =>
    intro o0 x1 x2 h ls H locs hf
    rw [f_X7_fit_7.eq_1] at hf
    cases hf
  | succ n ih =>
    intro o0 x1 x2 h ls H locs hf I hl
    rw [f_X7_fit_7.eq_2] at hf
    refine lv_iload_n hx hb dX7_fit_7 rfl (lv_at hl 2 rfl) ?_
    refine lv_iconst (v := 3) hx hb dX7_fit_8 (by decide) ?_
    refine lv_icmp_gt (tgt := 71) hx hb dX7_fit_9 (by decide) (fun c1 => ?_) (fun c1 => ?_)
    · rw [if_pos c1] at hf
      cases hf
      exact k_rv X I hr dX7_fit_71
    · rw [if_neg c1] at hf
      refine lv_iconst (v := 0) hx hb dX7_fit_12 (by decide) ?_
      refine lv_istore_n (lv' := [(3, .int 0), (0, .ref (rfG g o0)), (1, .int x1), (2, .int x2)]) hx hb dX7_fit_13 rfl hl (by decide) rfl (fun ls hl => ?_)
      exact w_X7_fit_14 X hR hr ih fu o0 x1 x2 0 h ls H locs hf I (lv_sub hl [1, 2, 3, 0] rfl)
def f_X7_fit_0  (o0 : Nat) (x1 : Int32) (h : AH) : Option (Unit × AH) :=
  (pV [7] h o0 8 (.int 0)).bind fun h1 =>
  f_X7_fit_7 fu o0 x1 1 h1
set_option maxHeartbeats 1000000 in
theorem w_X7_fit_0 (X : Cx g p s m args meth c cX7_fit 4 "TrapCorner$Sightings") (hR : 6 ≤ R.frames ∧ 384 ≤ R.locals) (hr : meth.sig.returnType = none) {res : Unit × AH} : ∀ (o0 : Nat) (x1 : Int32) (h : AH) (ls : Array Slot) (H : Heap) (locs : List Loc), f_X7_fit_0 o0 x1 h = some res → Iv g s n0 z0 h H locs 0 0 → lv_has ls 4 [(0, .ref (rfG g o0)), (1, .int x1)] → W p l e R s m args below meth c H locs 0 0 (MQ below (QG g none res.2) args s 0 0 (AG g)) (F0 m 0 ls []) := by
  have hx := X.1
  have hb := X.2.1
  intro o0 x1 h ls H locs hf I hl
  unfold f_X7_fit_0 at hf
  refine lv_aload_n hx hb dX7_fit_0 rfl (lv_at hl 0 rfl) ?_
  refine lv_iconst (v := 0) hx hb dX7_fit_1 (by decide) ?_
  obtain ⟨h1, e2, hf⟩ := Option.bind_eq_some_iff.mp hf
  refine r_pI X I e2 lp_TrapCorner_Sightings_40 dX7_fit_2 (fun H locs I => ?_)
  refine lv_iconst (v := 1) hx hb dX7_fit_5 (by decide) ?_
  refine lv_istore_n (lv' := [(2, .int 1), (0, .ref (rfG g o0)), (1, .int x1)]) hx hb dX7_fit_6 rfl hl (by decide) rfl (fun ls hl => ?_)
  exact w_X7_fit_7 X hR hr fu o0 x1 1 h1 ls H locs hf I (lv_sub hl [1, 2, 0] rfl)
def f_X7_fit (o0 : Nat) (x1 : Int32) (h : AH) : Option (Unit × AH) := f_X7_fit_0 o0 x1 h
end
theorem c_X7_fit (l : Launch) (g : GG) (o0 : Nat) (x1 : Int32) {h : AH} {res : Unit × AH} (hf : f_X7_fit o0 x1 h = some res) : CM l g yX7_fit cX7_fit 4 none 6 384 0 0 [.ref (rfG g o0), .int x1] h none res.2 :=
  k_body (by decide) (Nat.le_of_ble_eq_true rfl) (fun p e s m below meth c R ls hR hr X I hl => w_X7_fit_0 X ⟨Nat.le_of_eq hR.1.symm, Nat.le_of_eq hR.2.1.symm⟩ hr o0 x1 h ls s.heap [] hf I (lv_sub hl [0, 1] rfl))
