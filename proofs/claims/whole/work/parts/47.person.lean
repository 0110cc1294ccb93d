/-! TrapCorner.person(II)I: where it answers -/
theorem dX11_person_0 : decode cX11_person 0 = .ok (.aload_n 0, 1) := by decide +kernel
theorem dX11_person_1 : decode cX11_person 1 = .ok (.iload_n 1, 1) := by decide +kernel
theorem dX11_person_2 : decode cX11_person 2 = .ok (.invokevirtual 194, 3) := by decide +kernel
theorem dX11_person_5 : decode cX11_person 5 = .ok (.ifCond .eq 13, 3) := by decide +kernel
theorem dX11_person_8 : decode cX11_person 8 = .ok (.iload_n 2, 1) := by decide +kernel
theorem dX11_person_9 : decode cX11_person 9 = .ok (.ifCond .lt 9, 3) := by decide +kernel
theorem dX11_person_12 : decode cX11_person 12 = .ok (.iload_n 2, 1) := by decide +kernel
theorem dX11_person_13 : decode cX11_person 13 = .ok (.bipush 6, 2) := by decide +kernel
theorem dX11_person_15 : decode cX11_person 15 = .ok (.if_icmp .le 13, 3) := by decide +kernel
theorem dX11_person_18 : decode cX11_person 18 = .ok (.new 197, 3) := by decide +kernel
theorem dX11_person_21 : decode cX11_person 21 = .ok (.dup, 1) := by decide +kernel
theorem dX11_person_22 : decode cX11_person 22 = .ok (.ldc 199, 2) := by decide +kernel
theorem dX11_person_24 : decode cX11_person 24 = .ok (.invokespecial 201, 3) := by decide +kernel
theorem dX11_person_27 : decode cX11_person 27 = .ok (.athrow, 1) := by decide +kernel
theorem dX11_person_28 : decode cX11_person 28 = .ok (.iload_n 2, 1) := by decide +kernel
theorem dX11_person_29 : decode cX11_person 29 = .ok (.tableswitch 99 0 5 #[39, 49, 59, 69, 79, 89], 39) := by decide +kernel
theorem dX11_person_68 : decode cX11_person 68 = .ok (.aload_n 0, 1) := by decide +kernel
theorem dX11_person_69 : decode cX11_person 69 = .ok (.getfield 42, 3) := by decide +kernel
theorem dX11_person_72 : decode cX11_person 72 = .ok (.getfield 204, 3) := by decide +kernel
theorem dX11_person_75 : decode cX11_person 75 = .ok (.iload_n 1, 1) := by decide +kernel
theorem dX11_person_76 : decode cX11_person 76 = .ok (.iaload, 1) := by decide +kernel
theorem dX11_person_77 : decode cX11_person 77 = .ok (.ireturn, 1) := by decide +kernel
theorem dX11_person_78 : decode cX11_person 78 = .ok (.aload_n 0, 1) := by decide +kernel
theorem dX11_person_79 : decode cX11_person 79 = .ok (.getfield 42, 3) := by decide +kernel
theorem dX11_person_82 : decode cX11_person 82 = .ok (.getfield 207, 3) := by decide +kernel
theorem dX11_person_85 : decode cX11_person 85 = .ok (.iload_n 1, 1) := by decide +kernel
theorem dX11_person_86 : decode cX11_person 86 = .ok (.iaload, 1) := by decide +kernel
theorem dX11_person_87 : decode cX11_person 87 = .ok (.ireturn, 1) := by decide +kernel
theorem dX11_person_88 : decode cX11_person 88 = .ok (.aload_n 0, 1) := by decide +kernel
theorem dX11_person_89 : decode cX11_person 89 = .ok (.getfield 49, 3) := by decide +kernel
theorem dX11_person_92 : decode cX11_person 92 = .ok (.getfield 210, 3) := by decide +kernel
theorem dX11_person_95 : decode cX11_person 95 = .ok (.iload_n 1, 1) := by decide +kernel
theorem dX11_person_96 : decode cX11_person 96 = .ok (.iaload, 1) := by decide +kernel
theorem dX11_person_97 : decode cX11_person 97 = .ok (.ireturn, 1) := by decide +kernel
theorem dX11_person_98 : decode cX11_person 98 = .ok (.aload_n 0, 1) := by decide +kernel
theorem dX11_person_99 : decode cX11_person 99 = .ok (.getfield 42, 3) := by decide +kernel
theorem dX11_person_102 : decode cX11_person 102 = .ok (.getfield 213, 3) := by decide +kernel
theorem dX11_person_105 : decode cX11_person 105 = .ok (.iload_n 1, 1) := by decide +kernel
theorem dX11_person_106 : decode cX11_person 106 = .ok (.iaload, 1) := by decide +kernel
theorem dX11_person_107 : decode cX11_person 107 = .ok (.ireturn, 1) := by decide +kernel
theorem dX11_person_108 : decode cX11_person 108 = .ok (.aload_n 0, 1) := by decide +kernel
theorem dX11_person_109 : decode cX11_person 109 = .ok (.getfield 42, 3) := by decide +kernel
theorem dX11_person_112 : decode cX11_person 112 = .ok (.getfield 216, 3) := by decide +kernel
theorem dX11_person_115 : decode cX11_person 115 = .ok (.iload_n 1, 1) := by decide +kernel
theorem dX11_person_116 : decode cX11_person 116 = .ok (.iaload, 1) := by decide +kernel
theorem dX11_person_117 : decode cX11_person 117 = .ok (.ireturn, 1) := by decide +kernel
theorem dX11_person_118 : decode cX11_person 118 = .ok (.aload_n 0, 1) := by decide +kernel
theorem dX11_person_119 : decode cX11_person 119 = .ok (.getfield 49, 3) := by decide +kernel
theorem dX11_person_122 : decode cX11_person 122 = .ok (.getfield 219, 3) := by decide +kernel
theorem dX11_person_125 : decode cX11_person 125 = .ok (.iload_n 1, 1) := by decide +kernel
theorem dX11_person_126 : decode cX11_person 126 = .ok (.iaload, 1) := by decide +kernel
theorem dX11_person_127 : decode cX11_person 127 = .ok (.ireturn, 1) := by decide +kernel
theorem dX11_person_128 : decode cX11_person 128 = .ok (.aload_n 0, 1) := by decide +kernel
theorem dX11_person_129 : decode cX11_person 129 = .ok (.getfield 49, 3) := by decide +kernel
theorem dX11_person_132 : decode cX11_person 132 = .ok (.getfield 222, 3) := by decide +kernel
theorem dX11_person_135 : decode cX11_person 135 = .ok (.iload_n 1, 1) := by decide +kernel
theorem dX11_person_136 : decode cX11_person 136 = .ok (.iaload, 1) := by decide +kernel
theorem dX11_person_137 : decode cX11_person 137 = .ok (.ireturn, 1) := by decide +kernel
theorem lk_TrapCorner_216 : LK "TrapCorner" 216 [10] 11 := by
  intro ci hci
  have hci := List.mem_singleton.mp hci
  subst hci
  exact ⟨RX10, TX10, 13, "TrapCorner$Town", ck_10, by decide, tw_101, Or.inl rfl⟩
section
variable {g : GG} {p : Program} {l : Launch} {e : Env} {R : Room} {s : State} {m : MethodId} {args : Array Value} {below : List Frame} {meth : Method} {c : Code} {n0 z0 : Nat}
def f_X11_person_18  (h : AH) : Option (Int32 × AH) :=
  none
set_option maxHeartbeats 1000000 in
theorem w_X11_person_18 (X : Cx g p s m args meth c cX11_person 3 "TrapCorner") (hR : 2 ≤ R.frames ∧ 128 ≤ R.locals) (hr : meth.sig.returnType = (some (.int))) {res : Int32 × AH} : ∀ (h : AH) (ls : Array Slot) (H : Heap) (locs : List Loc), f_X11_person_18  h = some res → Iv g s n0 z0 h H locs 0 0 → lv_has ls 3 [] → W p l e R s m args below meth c H locs 0 0 (MQ below (QG g (some (.int res.1)) res.2) args s 0 0 (AG g)) (F0 m 18 ls []) := by
  have hx := X.1
  have hb := X.2.1
  intro  h ls H locs hf I hl
  unfold f_X11_person_18 at hf
  cases hf
def f_X11_person_0  (o0 : Nat) (x1 : Int32) (x2 : Int32) (h : AH) : Option (Int32 × AH) :=
  (isC [11] h o0).bind fun _ =>
  cN (f_X11_hasPerson o0 x1 h) h fun v1 h2 =>
  if v1 = 0 then
    f_X11_person_18 h2
  else
    if x2 < 0 then
      f_X11_person_18 h2
    else
      if x2 ≤ 6 then
        if x2 = 0 then
          (gR [11] h2 o0 4).bind fun v10 =>
          (gR [10] h2 v10 7).bind fun v12 =>
          (aI 0 h2 v12 x1).bind fun v14 =>
          some (v14, h2)
        else
          if x2 = 1 then
            (gR [11] h2 o0 4).bind fun v17 =>
            (gR [10] h2 v17 8).bind fun v19 =>
            (aI 0 h2 v19 x1).bind fun v21 =>
            some (v21, h2)
          else
            if x2 = 2 then
              (gR [11] h2 o0 5).bind fun v24 =>
              (gR [8] h2 v24 2).bind fun v26 =>
              (aI 0 h2 v26 x1).bind fun v28 =>
              some (v28, h2)
            else
              if x2 = 3 then
                (gR [11] h2 o0 4).bind fun v31 =>
                (gR [10] h2 v31 10).bind fun v33 =>
                (aI 0 h2 v33 x1).bind fun v35 =>
                some (v35, h2)
              else
                if x2 = 4 then
                  (gR [11] h2 o0 4).bind fun v38 =>
                  (gR [10] h2 v38 11).bind fun v40 =>
                  (aI 0 h2 v40 x1).bind fun v42 =>
                  some (v42, h2)
                else
                  if x2 = 5 then
                    (gR [11] h2 o0 5).bind fun v45 =>
                    (gR [8] h2 v45 4).bind fun v47 =>
                    (aI 0 h2 v47 x1).bind fun v49 =>
                    some (v49, h2)
                  else
                    (gR [11] h2 o0 5).bind fun v51 =>
                    (gR [8] h2 v51 3).bind fun v53 =>
                    (aI 0 h2 v53 x1).bind fun v55 =>
                    some (v55, h2)
      else
        f_X11_person_18 h2
set_option maxHeartbeats 1000000 in
theorem w_X11_person_0 (X : Cx g p s m args meth c cX11_person 3 "TrapCorner") (hR : 2 ≤ R.frames ∧ 128 ≤ R.locals) (hr : meth.sig.returnType = (some (.int))) {res : Int32 × AH} : ∀ (o0 : Nat) (x1 : Int32) (x2 : Int32) (h : AH) (ls : Array Slot) (H : Heap) (locs : List Loc), f_X11_person_0 o0 x1 x2 h = some res → Iv g s n0 z0 h H locs 0 0 → lv_has ls 3 [(0, .ref (rfG g o0)), (1, .int x1), (2, .int x2)] → W p l e R s m args below meth c H locs 0 0 (MQ below (QG g (some (.int res.1)) res.2) args s 0 0 (AG g)) (F0 m 0 ls []) := by
  have hx := X.1
  have hb := X.2.1
  intro o0 x1 x2 h ls H locs hf I hl
  unfold f_X11_person_0 at hf
  refine lv_aload_n hx hb dX11_person_0 rfl (lv_at hl 0 rfl) ?_
  refine lv_iload_n hx hb dX11_person_1 rfl (lv_at hl 1 rfl) ?_
  obtain ⟨_, g5, hf⟩ := Option.bind_eq_some_iff.mp hf
  obtain ⟨v1, h2, e3, z4, hf⟩ := cN_spec hf
  refine k_Vi (As := [.int x1]) (rest := []) X I (c_X11_hasPerson l g o0 x1 e3) z4 g5 vk_TrapCorner_194 tw_880 ⟨Nat.le_trans (by decide) hR.1, Nat.le_trans (by decide) hR.2⟩ ⟨Nat.zero_le _, Nat.zero_le _⟩ rfl hl.1 rfl (Nat.le_of_ble_eq_true rfl) dX11_person_2 (fun H locs I => ?_)
  refine lv_if_eq (tgt := 18) hx hb dX11_person_5 (by decide) (fun c6 => ?_) (fun c6 => ?_)
  · rw [if_pos c6] at hf
    exact w_X11_person_18 X hR hr  h2 ls H locs hf I (lv_sub hl [] rfl)
  · rw [if_neg c6] at hf
    refine lv_iload_n hx hb dX11_person_8 rfl (lv_at hl 2 rfl) ?_
    refine lv_if_lt (tgt := 18) hx hb dX11_person_9 (by decide) (fun c7 => ?_) (fun c7 => ?_)
    · rw [if_pos c7] at hf
      exact w_X11_person_18 X hR hr  h2 ls H locs hf I (lv_sub hl [] rfl)
    · rw [if_neg c7] at hf
      refine lv_iload_n hx hb dX11_person_12 rfl (lv_at hl 2 rfl) ?_
      refine lv_bipush (v := 6) hx hb dX11_person_13 (by decide) ?_
      refine lv_icmp_le (tgt := 28) hx hb dX11_person_15 (by decide) (fun c8 => ?_) (fun c8 => ?_)
      · rw [if_pos c8] at hf
        refine lv_iload_n hx hb dX11_person_28 rfl (lv_at hl 2 rfl) ?_
        by_cases c9 : x2 = 0
        · rw [if_pos c9] at hf
          refine lv_tableIn (tgt := 68) hx hb dX11_person_29 (by rw [c9]; decide) (by rw [c9]; decide) (by rw [c9]; rfl) (by decide) ?_
          refine lv_aload_n hx hb dX11_person_68 rfl (lv_at hl 0 rfl) ?_
          obtain ⟨v10, e11, hf⟩ := Option.bind_eq_some_iff.mp hf
          refine r_gR X I e11 lk_TrapCorner_42 dX11_person_69 ?_
          obtain ⟨v12, e13, hf⟩ := Option.bind_eq_some_iff.mp hf
          refine r_gR X I e13 lk_TrapCorner_204 dX11_person_72 ?_
          refine lv_iload_n hx hb dX11_person_75 rfl (lv_at hl 1 rfl) ?_
          obtain ⟨v14, e15, hf⟩ := Option.bind_eq_some_iff.mp hf
          refine r_aI0 X I e15 dX11_person_76 ?_
          cases hf
          exact k_ri X I hr dX11_person_77
        · rw [if_neg c9] at hf
          by_cases c16 : x2 = 1
          · rw [if_pos c16] at hf
            refine lv_tableIn (tgt := 78) hx hb dX11_person_29 (by rw [c16]; decide) (by rw [c16]; decide) (by rw [c16]; rfl) (by decide) ?_
            refine lv_aload_n hx hb dX11_person_78 rfl (lv_at hl 0 rfl) ?_
            obtain ⟨v17, e18, hf⟩ := Option.bind_eq_some_iff.mp hf
            refine r_gR X I e18 lk_TrapCorner_42 dX11_person_79 ?_
            obtain ⟨v19, e20, hf⟩ := Option.bind_eq_some_iff.mp hf
            refine r_gR X I e20 lk_TrapCorner_207 dX11_person_82 ?_
            refine lv_iload_n hx hb dX11_person_85 rfl (lv_at hl 1 rfl) ?_
            obtain ⟨v21, e22, hf⟩ := Option.bind_eq_some_iff.mp hf
            refine r_aI0 X I e22 dX11_person_86 ?_
            cases hf
            exact k_ri X I hr dX11_person_87
          · rw [if_neg c16] at hf
            by_cases c23 : x2 = 2
            · rw [if_pos c23] at hf
              refine lv_tableIn (tgt := 88) hx hb dX11_person_29 (by rw [c23]; decide) (by rw [c23]; decide) (by rw [c23]; rfl) (by decide) ?_
              refine lv_aload_n hx hb dX11_person_88 rfl (lv_at hl 0 rfl) ?_
              obtain ⟨v24, e25, hf⟩ := Option.bind_eq_some_iff.mp hf
              refine r_gR X I e25 lk_TrapCorner_49 dX11_person_89 ?_
              obtain ⟨v26, e27, hf⟩ := Option.bind_eq_some_iff.mp hf
              refine r_gR X I e27 lk_TrapCorner_210 dX11_person_92 ?_
              refine lv_iload_n hx hb dX11_person_95 rfl (lv_at hl 1 rfl) ?_
              obtain ⟨v28, e29, hf⟩ := Option.bind_eq_some_iff.mp hf
              refine r_aI0 X I e29 dX11_person_96 ?_
              cases hf
              exact k_ri X I hr dX11_person_97
            · rw [if_neg c23] at hf
              by_cases c30 : x2 = 3
              · rw [if_pos c30] at hf
                refine lv_tableIn (tgt := 98) hx hb dX11_person_29 (by rw [c30]; decide) (by rw [c30]; decide) (by rw [c30]; rfl) (by decide) ?_
                refine lv_aload_n hx hb dX11_person_98 rfl (lv_at hl 0 rfl) ?_
                obtain ⟨v31, e32, hf⟩ := Option.bind_eq_some_iff.mp hf
                refine r_gR X I e32 lk_TrapCorner_42 dX11_person_99 ?_
                obtain ⟨v33, e34, hf⟩ := Option.bind_eq_some_iff.mp hf
                refine r_gR X I e34 lk_TrapCorner_213 dX11_person_102 ?_
                refine lv_iload_n hx hb dX11_person_105 rfl (lv_at hl 1 rfl) ?_
                obtain ⟨v35, e36, hf⟩ := Option.bind_eq_some_iff.mp hf
                refine r_aI0 X I e36 dX11_person_106 ?_
                cases hf
                exact k_ri X I hr dX11_person_107
              · rw [if_neg c30] at hf
                by_cases c37 : x2 = 4
                · rw [if_pos c37] at hf
                  refine lv_tableIn (tgt := 108) hx hb dX11_person_29 (by rw [c37]; decide) (by rw [c37]; decide) (by rw [c37]; rfl) (by decide) ?_
                  refine lv_aload_n hx hb dX11_person_108 rfl (lv_at hl 0 rfl) ?_
                  obtain ⟨v38, e39, hf⟩ := Option.bind_eq_some_iff.mp hf
                  refine r_gR X I e39 lk_TrapCorner_42 dX11_person_109 ?_
                  obtain ⟨v40, e41, hf⟩ := Option.bind_eq_some_iff.mp hf
                  refine r_gR X I e41 lk_TrapCorner_216 dX11_person_112 ?_
                  refine lv_iload_n hx hb dX11_person_115 rfl (lv_at hl 1 rfl) ?_
                  obtain ⟨v42, e43, hf⟩ := Option.bind_eq_some_iff.mp hf
                  refine r_aI0 X I e43 dX11_person_116 ?_
                  cases hf
                  exact k_ri X I hr dX11_person_117
                · rw [if_neg c37] at hf
                  by_cases c44 : x2 = 5
                  · rw [if_pos c44] at hf
                    refine lv_tableIn (tgt := 118) hx hb dX11_person_29 (by rw [c44]; decide) (by rw [c44]; decide) (by rw [c44]; rfl) (by decide) ?_
                    refine lv_aload_n hx hb dX11_person_118 rfl (lv_at hl 0 rfl) ?_
                    obtain ⟨v45, e46, hf⟩ := Option.bind_eq_some_iff.mp hf
                    refine r_gR X I e46 lk_TrapCorner_49 dX11_person_119 ?_
                    obtain ⟨v47, e48, hf⟩ := Option.bind_eq_some_iff.mp hf
                    refine r_gR X I e48 lk_TrapCorner_219 dX11_person_122 ?_
                    refine lv_iload_n hx hb dX11_person_125 rfl (lv_at hl 1 rfl) ?_
                    obtain ⟨v49, e50, hf⟩ := Option.bind_eq_some_iff.mp hf
                    refine r_aI0 X I e50 dX11_person_126 ?_
                    cases hf
                    exact k_ri X I hr dX11_person_127
                  · rw [if_neg c44] at hf
                    refine lv_tableOut (tgt := 128) hx hb dX11_person_29 (sw_out (fun k k1 k2 => by rcases (show k = 0 ∨ k = 1 ∨ k = 2 ∨ k = 3 ∨ k = 4 ∨ k = 5 by omega) with rfl | rfl | rfl | rfl | rfl | rfl <;> assumption)) (by decide) ?_
                    refine lv_aload_n hx hb dX11_person_128 rfl (lv_at hl 0 rfl) ?_
                    obtain ⟨v51, e52, hf⟩ := Option.bind_eq_some_iff.mp hf
                    refine r_gR X I e52 lk_TrapCorner_49 dX11_person_129 ?_
                    obtain ⟨v53, e54, hf⟩ := Option.bind_eq_some_iff.mp hf
                    refine r_gR X I e54 lk_TrapCorner_222 dX11_person_132 ?_
                    refine lv_iload_n hx hb dX11_person_135 rfl (lv_at hl 1 rfl) ?_
                    obtain ⟨v55, e56, hf⟩ := Option.bind_eq_some_iff.mp hf
                    refine r_aI0 X I e56 dX11_person_136 ?_
                    cases hf
                    exact k_ri X I hr dX11_person_137
      · rw [if_neg c8] at hf
        exact w_X11_person_18 X hR hr  h2 ls H locs hf I (lv_sub hl [] rfl)
def f_X11_person (o0 : Nat) (x1 : Int32) (x2 : Int32) (h : AH) : Option (Int32 × AH) := f_X11_person_0 o0 x1 x2 h
end
theorem c_X11_person (l : Launch) (g : GG) (o0 : Nat) (x1 : Int32) (x2 : Int32) {h : AH} {res : Int32 × AH} (hf : f_X11_person o0 x1 x2 h = some res) : CM l g yX11_person cX11_person 3 (some (.int)) 2 128 0 0 [.ref (rfG g o0), .int x1, .int x2] h (some (.int res.1)) res.2 :=
  k_body (by decide) (Nat.le_of_ble_eq_true rfl) (fun p e s m below meth c R ls hR hr X I hl => w_X11_person_0 X ⟨Nat.le_of_eq hR.1.symm, Nat.le_of_eq hR.2.1.symm⟩ hr o0 x1 x2 h ls s.heap [] hf I (lv_sub hl [0, 1, 2] rfl))
/-! What a throw needs beside SF: words that the tables alone decide, the statics of Throwable. -/
def softT : List MethodName := [⟨"java/lang/RuntimeException", "<init>", "(Ljava/lang/String;)V"⟩, ⟨"java/lang/Exception", "<init>", "(Ljava/lang/String;)V"⟩, ⟨"java/lang/Throwable", "<init>", "(Ljava/lang/String;)V"⟩]
def SX (g : GG) (U : State) (H : Heap) : Prop := SF g U H ∧ (∀ y ∈ softT, va_Nw (.declares y) U) ∧ va_Nw (.castable "java/util/NoSuchElementException" "java/util/NoSuchElementException") U ∧ vx_Zq Bundle.tN "UNASSIGNED_STACK" Bundle.steD (AG g) U H ∧ vx_Zq Bundle.tN "SUPPRESSED_SENTINEL" Bundle.listD (AG g) U H
theorem SX.moved {g : GG} {s U : State} {H : Heap} (hW : s.WarmedH U.vm) (h : SX g s H) : SX g U H :=
  ⟨h.1.moved hW, fun y hy => va_Nw.warmD hW (h.2.1 y hy), va_Nw.warmC hW h.2.2.1, vx_Zq.moved hW.alike h.2.2.2.1, vx_Zq.moved hW.alike h.2.2.2.2⟩
theorem SX.kept {g : GG} {U : State} {H H1 : Heap} (h : SX g U H) (hq : ∀ a : Nat, a < H.size → ¬ AG g a → H1[a]? = H[a]?) : SX g U H1 :=
  ⟨h.1.kept hq, h.2.1, h.2.2.1, vx_Zq.kept h.2.2.2.1 hq, vx_Zq.kept h.2.2.2.2 hq⟩
theorem SX.call {g : GG} {U : State} {H : Heap} {f : JFrame} {mk : MethodId} {a : Array Value} (h : SX g U H) : SX g (U.calling f mk a) H :=
  ⟨h.1.call, fun y hy => va_Nw.same (u := U) (U := U.calling f mk a) rfl rfl (h.2.1 y hy), va_Nw.same (u := U) (U := U.calling f mk a) rfl rfl h.2.2.1, vx_Zq.moved (u := U) (U := U.calling f mk a) (Vm.Alike.refl U.vm) h.2.2.2.1, vx_Zq.moved (u := U) (U := U.calling f mk a) (Vm.Alike.refl U.vm) h.2.2.2.2⟩
def PcX (g : GG) (vals : List Value) (h : AH) : Array Value → State → Prop := va_Pc vals (fun U => PPg g h U.heap ∧ SX g U U.heap)
theorem PcX.blind {g : GG} {vals : List Value} {h : AH} : FrameBlind (PcX g vals h) := fun _ _ _ _ q => ⟨q.1, q.2.1, q.2.2.call⟩
/-- a cell more, of six slots, that nobody reads -/
def hjunk (h : AH) : AH := (h.1 + 1, h.2.1 + 6, h.2.2)
def XCp (g : GG) (h1 : AH) : String → State → State → Prop := fun E st t => E = "java/util/NoSuchElementException" ∧ PPg g (hjunk h1) t.heap ∧ va_F (AG g) st t
/-- where person throws -/
def f_X11_personT (o0 : Nat) (x1 x2 : Int32) (h : AH) : Option (Unit × AH) :=
  (isC [11] h o0).bind fun _ =>
  cN (f_X11_hasPerson o0 x1 h) h fun r h1 => if r = 0 then some ((), h1) else if x2 < 0 then some ((), h1) else if x2 ≤ 6 then none else some ((), h1)
abbrev nseRx : ByteArray := ⟨#[0x2a, 0x2b, 0xb7, 0x00, 0x0d, 0xb1]⟩
def nseAt : List Cond := nx_at "TrapCorner" 201 "java/util/NoSuchElementException" 13 nseRx ["java/lang/RuntimeException", "java/lang/Exception"]
theorem nse_good : ∀ w ∈ nseAt.filter goodWord, w ∈ lw_tbl := by decide +kernel
theorem nse_tb : ∀ w ∈ nseAt.filter goodWord, w ∈ TB := fun w hw => List.mem_filter.mpr ⟨nse_good w hw, (List.mem_filter.mp hw).2⟩
theorem nse_soft : ∀ w ∈ nseAt.filter (fun w => !goodWord w), w ∈ (softT.map Cond.declares ++ [Cond.castable "java/util/NoSuchElementException" "java/util/NoSuchElementException"]) := by decide +kernel
theorem nse_ot : ∀ w ∈ Cond.classLink "TrapCorner" 197 "java/util/NoSuchElementException" :: Cond.initialized "java/util/NoSuchElementException" :: nseAt, vx_ot w = true := by decide +kernel
theorem nw_at {w : Cond} (ht : w.onTables = true) {args : Array Value} {U : State} (h : va_Nw w U) : w.before args U = true := va_tabs ht rfl h
section PERSON
variable {g : GG} {p : Program} {l : Launch} {e : Env} {R : Room} {s : State} {m : MethodId} {args : Array Value} {below : List Frame} {meth : Method} {c : Code} {H : Heap} {locs : List Loc} {cells slots : Nat} {Q : State → Prop}
variable {ls : Array Slot} {n0 z0 mc ms : Nat} {h h1 : AH} {Qc : Array Value → State → Outcome → State → Prop}
theorem nse_throw (hl9 : l.stackTraces = false) (X : Cx g p s m args meth c cX11_person 3 "TrapCorner") (hX : SX g s s.heap) (ht : ∀ x ∈ c.exceptionTable.toList, False) (hls : ls.size = 3) (hR : 8 ≤ R.frames ∧ 512 ≤ R.locals) (hc : cells + 1 ≤ R.cells ∧ slots + 6 ≤ R.slots) (hm : cells + 1 ≤ mc ∧ slots + 6 ≤ ms) (I : Iv g s n0 z0 h H locs cells slots) :
    W p l e R s m args below meth c H locs cells slots (vx_MQ below Qc (XCp g h) args s mc ms (AG g)) (F0 m 18 ls []) := by
  obtain ⟨hx, hb, hml, hown, hT, hSF, hlk⟩ := X
  obtain ⟨hP, hS, hn, hcl, hsl⟩ := I
  refine nx_throw (cc := cX11_person) (A := AG g) (own := "TrapCorner") (cls := "java/util/NoSuchElementException") (text := "no such ones") (names := ["java/lang/RuntimeException", "java/lang/Exception"]) (ik := 197) (is := 199) (ic := 201) (sa := g.2.2.1 2000006) (ix := 13) (rx := nseRx) (by decide +kernel) (by decide +kernel) (by decide +kernel) (by decide +kernel) hx hb hl9 hown (by decide +kernel) (by decide +kernel) (hT _ tw_1214) (hT _ tw_25) ?_ ?_ nse_ot hX.2.2.2.1 hX.2.2.2.2 hS (hls.trans hml.symm) dX11_person_18 dX11_person_21 dX11_person_22 dX11_person_24 dX11_person_27 (fun x hx => absurd (ht x hx) id) (Nat.lt_of_lt_of_le (by decide) hR.1) (Nat.le_trans (by decide) hR.2) hc.1 hc.2 hlk ?_ hS.2.2 hm.1 hm.2
  · exact hSF.2.2.2.2.1 ("TrapCorner", 199, "no such ones", 6) (by decide)
  · refine vx_hat (B := softT.map Cond.declares ++ [Cond.castable "java/util/NoSuchElementException" "java/util/NoSuchElementException"]) (fun w hw => hT w (nse_tb w hw)) nse_soft (fun w hw => ?_)
    rcases List.mem_append.mp hw with h9 | h9
    · obtain ⟨y, hy, rfl⟩ := List.mem_map.mp h9
      exact nw_at rfl (hX.2.1 y hy)
    · have h9 := List.mem_singleton.mp h9
      subst h9
      exact nw_at rfl hX.2.2.1
  · intro t hA hz hk
    refine ⟨rfl, ⟨fun k x hx => ?_, by rw [hz, hP.2]; rfl⟩, Nat.le_trans hS.1 (by omega), fun q q1 q2 => (hk q (Nat.lt_of_lt_of_le q1 hS.1)).trans (hS.2.1 q q1 q2)⟩
    have h9 := hP.1 k x hx
    exact ⟨h9.1, h9.2.kept (hk _ h9.2.lt)⟩
end PERSON
theorem c_X11_personT (l : Launch) (hl9 : l.stackTraces = false) (g : GG) (o0 : Nat) (x1 x2 : Int32) {h : AH} {res : Unit × AH} (hf : f_X11_personT o0 x1 x2 h = some res) :
    vx_Met l yX11_person (Cond.code yX11_person cX11_person 3 (some .int) :: TB) { frames := 8, cells := 1, slots := 6, locals := 512 } (PcX g [.ref (rfG g o0), .int x1, .int x2] h) (fun _ _ _ _ => False) (XCp g res.2) 1 6 (AG g) := by
  refine vx_ofW (cc := cX11_person) (maxL := 3) (ret := some .int) (by decide) rfl ?_
  intro p e s m args below meth c s₁ B hml ht hv
  obtain ⟨rfl, hP, hSX⟩ := hv
  have hts := atoms_spec (ws := Cond.code yX11_person cX11_person 3 (some .int) :: TB) B.pre
  have hl : lv_has _ 3 [(0, Value.ref (rfG g o0)), (1, .int x1), (2, .int x2)] := lv_entry [Value.ref (rfG g o0), .int x1, .int x2] (n := 3) (Nat.le_of_ble_eq_true rfl)
  rw [lg_entry_eq]
  have X : Cx g p s m #[Value.ref (rfG g o0), .int x1, .int x2] meth c cX11_person 3 "TrapCorner" := ⟨B.exec, B.bytes, hml, findClass_of_methodNamed B.named, fun w hw => hts w (List.mem_cons_of_mem _ hw), hSX.1, B.notSynchronized⟩
  have I : Iv g s h.1 h.2.1 h s.heap [] 0 0 := ⟨hP, va_S.rf, hP.2, by omega, by omega⟩
  have hx := X.1
  have hb := X.2.1
  obtain ⟨_, e0, hf⟩ := Option.bind_eq_some_iff.mp hf
  obtain ⟨r, h1, e1, z1, hf⟩ := cN_spec hf
  refine lv_aload_n hx hb dX11_person_0 rfl (lv_at hl 0 rfl) ?_
  refine lv_iload_n hx hb dX11_person_1 rfl (lv_at hl 1 rfl) ?_
  refine k_Vi (As := [.int x1]) (rest := []) X I (c_X11_hasPerson l g o0 x1 e1) z1 e0 vk_TrapCorner_194 tw_880 ⟨by decide, by decide⟩ ⟨Nat.zero_le _, Nat.zero_le _⟩ rfl hl.1 rfl (by decide) dX11_person_2 (fun H locs I => ?_)
  refine lv_if_eq (tgt := 18) hx hb dX11_person_5 (by decide) (fun c1 => ?_) (fun c1 => ?_)
  · rw [if_pos c1] at hf
    cases hf
    exact nse_throw hl9 X hSX ht hl.1 ⟨by decide, by decide⟩ ⟨Nat.le_refl _, Nat.le_refl _⟩ ⟨Nat.le_refl _, Nat.le_refl _⟩ I
  · rw [if_neg c1] at hf
    refine lv_iload_n hx hb dX11_person_8 rfl (lv_at hl 2 rfl) ?_
    refine lv_if_lt (tgt := 18) hx hb dX11_person_9 (by decide) (fun c2 => ?_) (fun c2 => ?_)
    · rw [if_pos c2] at hf
      cases hf
      exact nse_throw hl9 X hSX ht hl.1 ⟨by decide, by decide⟩ ⟨Nat.le_refl _, Nat.le_refl _⟩ ⟨Nat.le_refl _, Nat.le_refl _⟩ I
    · rw [if_neg c2] at hf
      refine lv_iload_n hx hb dX11_person_12 rfl (lv_at hl 2 rfl) ?_
      refine lv_bipush (v := 6) hx hb dX11_person_13 (by decide) ?_
      refine lv_icmp_le (tgt := 28) hx hb dX11_person_15 (by decide) (fun c3 => ?_) (fun c3 => ?_)
      · rw [if_pos c3] at hf
        cases hf
      · rw [if_neg c3] at hf
        cases hf
        exact nse_throw hl9 X hSX ht hl.1 ⟨by decide, by decide⟩ ⟨Nat.le_refl _, Nat.le_refl _⟩ ⟨Nat.le_refl _, Nat.le_refl _⟩ I
