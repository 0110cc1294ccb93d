/-! TrapCorner$Sightings.wouldTake(IIII)Z -/
theorem dX7_wouldTake_0 : decode cX7_wouldTake 0 = .ok (.iload 4, 2) := by decide +kernel
theorem dX7_wouldTake_2 : decode cX7_wouldTake 2 = .ok (.iload_n 2, 1) := by decide +kernel
theorem dX7_wouldTake_3 : decode cX7_wouldTake 3 = .ok (.bipush 10, 2) := by decide +kernel
theorem dX7_wouldTake_5 : decode cX7_wouldTake 5 = .ok (.idiv, 1) := by decide +kernel
theorem dX7_wouldTake_6 : decode cX7_wouldTake 6 = .ok (.if_icmp .ne 7, 3) := by decide +kernel
theorem dX7_wouldTake_9 : decode cX7_wouldTake 9 = .ok (.iconst 1, 1) := by decide +kernel
theorem dX7_wouldTake_10 : decode cX7_wouldTake 10 = .ok (.goto 4, 3) := by decide +kernel
theorem dX7_wouldTake_13 : decode cX7_wouldTake 13 = .ok (.iconst 0, 1) := by decide +kernel
theorem dX7_wouldTake_14 : decode cX7_wouldTake 14 = .ok (.istore 5, 2) := by decide +kernel
theorem dX7_wouldTake_16 : decode cX7_wouldTake 16 = .ok (.aload_n 0, 1) := by decide +kernel
theorem dX7_wouldTake_17 : decode cX7_wouldTake 17 = .ok (.getfield 32, 3) := by decide +kernel
theorem dX7_wouldTake_20 : decode cX7_wouldTake 20 = .ok (.iload 5, 2) := by decide +kernel
theorem dX7_wouldTake_22 : decode cX7_wouldTake 22 = .ok (.iload_n 2, 1) := by decide +kernel
theorem dX7_wouldTake_23 : decode cX7_wouldTake 23 = .ok (.bipush 10, 2) := by decide +kernel
theorem dX7_wouldTake_25 : decode cX7_wouldTake 25 = .ok (.irem, 1) := by decide +kernel
theorem dX7_wouldTake_26 : decode cX7_wouldTake 26 = .ok (.aload_n 0, 1) := by decide +kernel
theorem dX7_wouldTake_27 : decode cX7_wouldTake 27 = .ok (.getfield 28, 3) := by decide +kernel
theorem dX7_wouldTake_30 : decode cX7_wouldTake 30 = .ok (.getfield 51, 3) := by decide +kernel
theorem dX7_wouldTake_33 : decode cX7_wouldTake 33 = .ok (.iload_n 1, 1) := by decide +kernel
theorem dX7_wouldTake_34 : decode cX7_wouldTake 34 = .ok (.iaload, 1) := by decide +kernel
theorem dX7_wouldTake_35 : decode cX7_wouldTake 35 = .ok (.iload_n 3, 1) := by decide +kernel
theorem dX7_wouldTake_36 : decode cX7_wouldTake 36 = .ok (.iconst 0, 1) := by decide +kernel
theorem dX7_wouldTake_37 : decode cX7_wouldTake 37 = .ok (.iconst 0, 1) := by decide +kernel
theorem dX7_wouldTake_38 : decode cX7_wouldTake 38 = .ok (.invokevirtual 56, 3) := by decide +kernel
theorem dX7_wouldTake_41 : decode cX7_wouldTake 41 = .ok (.aload_n 0, 1) := by decide +kernel
theorem dX7_wouldTake_42 : decode cX7_wouldTake 42 = .ok (.getfield 28, 3) := by decide +kernel
theorem dX7_wouldTake_45 : decode cX7_wouldTake 45 = .ok (.getfield 62, 3) := by decide +kernel
theorem dX7_wouldTake_48 : decode cX7_wouldTake 48 = .ok (.if_icmp .lt 7, 3) := by decide +kernel
theorem dX7_wouldTake_51 : decode cX7_wouldTake 51 = .ok (.iconst 1, 1) := by decide +kernel
theorem dX7_wouldTake_52 : decode cX7_wouldTake 52 = .ok (.goto 4, 3) := by decide +kernel
theorem dX7_wouldTake_55 : decode cX7_wouldTake 55 = .ok (.iconst 0, 1) := by decide +kernel
theorem dX7_wouldTake_56 : decode cX7_wouldTake 56 = .ok (.ireturn, 1) := by decide +kernel
theorem lk_TrapCorner_Sightings_32 : LK "TrapCorner$Sightings" 32 [7] 1 := by
  intro ci hci
  have hci := List.mem_singleton.mp hci
  subst hci
  exact ⟨RX7, TX7, 9, "TrapCorner$Sightings", ck_7, by decide, tw_332, Or.inl rfl⟩
theorem lk_TrapCorner_Sightings_28 : LK "TrapCorner$Sightings" 28 [7] 0 := by
  intro ci hci
  have hci := List.mem_singleton.mp hci
  subst hci
  exact ⟨RX7, TX7, 9, "TrapCorner$Sightings", ck_7, by decide, tw_331, Or.inl rfl⟩
theorem lk_TrapCorner_Sightings_51 : LK "TrapCorner$Sightings" 51 [10] 9 := by
  intro ci hci
  have hci := List.mem_singleton.mp hci
  subst hci
  exact ⟨RX10, TX10, 13, "TrapCorner$Town", ck_10, by decide, tw_96, Or.inl rfl⟩
theorem vk_TrapCorner_Sightings_56 : VK "TrapCorner$Sightings" 56 [4] yX4_strength 6 := ⟨tw_1082, tw_916, tw_10, ⟨by decide, by decide⟩, by decide +kernel, fun ci hci => by
  have hci := List.mem_singleton.mp hci
  subst hci
  exact ⟨_, rfl, tw_917⟩⟩
theorem lk_TrapCorner_Sightings_62 : LK "TrapCorner$Sightings" 62 [10] 2 := by
  intro ci hci
  have hci := List.mem_singleton.mp hci
  subst hci
  exact ⟨RX10, TX10, 13, "TrapCorner$Town", ck_10, by decide, tw_77, Or.inl rfl⟩
section
variable {g : GG} {p : Program} {l : Launch} {e : Env} {R : Room} {s : State} {m : MethodId} {args : Array Value} {below : List Frame} {meth : Method} {c : Code} {n0 z0 : Nat}
def f_X7_wouldTake_14  (o0 : Nat) (x1 : Int32) (x2 : Int32) (x3 : Int32) (s0 : Int32) (h : AH) : Option (Int32 × AH) :=
  (gR [7] h o0 1).bind fun v1 =>
  (gR [7] h o0 0).bind fun v3 =>
  (gR [10] h v3 9).bind fun v5 =>
  (aI 0 h v5 x1).bind fun v7 =>
  (isC [4] h v1).bind fun _ =>
  cN (f_X4_strength v1 s0 (x2 - x2 / 10 * 10) v7 x3 0 0 h) h fun v9 h10 =>
  (gR [7] h10 o0 0).bind fun v14 =>
  (gI [10] h10 v14 2).bind fun v16 =>
  if v9 < v16 then
    some (0, h10)
  else
    some (1, h10)
set_option maxHeartbeats 1000000 in
theorem w_X7_wouldTake_14 (X : Cx g p s m args meth c cX7_wouldTake 6 "TrapCorner$Sightings") (hR : 4 ≤ R.frames ∧ 256 ≤ R.locals) (hr : meth.sig.returnType = (some (.boolean))) {res : Int32 × AH} : ∀ (o0 : Nat) (x1 : Int32) (x2 : Int32) (x3 : Int32) (s0 : Int32) (h : AH) (ls : Array Slot) (H : Heap) (locs : List Loc), f_X7_wouldTake_14 o0 x1 x2 x3 s0 h = some res → Iv g s n0 z0 h H locs 0 0 → lv_has ls 6 [(0, .ref (rfG g o0)), (1, .int x1), (2, .int x2), (3, .int x3)] → W p l e R s m args below meth c H locs 0 0 (MQ below (QG g (some (.int res.1)) res.2) args s 0 0 (AG g)) (F0 m 14 ls [.int s0]) := by
  have hx := X.1
  have hb := X.2.1
  intro o0 x1 x2 x3 s0 h ls H locs hf I hl
  unfold f_X7_wouldTake_14 at hf
  refine lv_istore (lv' := [(5, .int s0), (0, .ref (rfG g o0)), (1, .int x1), (2, .int x2), (3, .int x3)]) hx hb dX7_wouldTake_14 hl (by decide) rfl (fun ls hl => ?_)
  refine lv_aload_n hx hb dX7_wouldTake_16 rfl (lv_at hl 1 rfl) ?_
  obtain ⟨v1, e2, hf⟩ := Option.bind_eq_some_iff.mp hf
  refine r_gR X I e2 lk_TrapCorner_Sightings_32 dX7_wouldTake_17 ?_
  refine lv_iload hx hb dX7_wouldTake_20 (lv_at hl 0 rfl) ?_
  refine lv_iload_n hx hb dX7_wouldTake_22 rfl (lv_at hl 3 rfl) ?_
  refine lv_bipush (v := 10) hx hb dX7_wouldTake_23 (by decide) ?_
  refine lv_irem hx hb dX7_wouldTake_25 (by decide) ?_
  refine lv_aload_n hx hb dX7_wouldTake_26 rfl (lv_at hl 1 rfl) ?_
  obtain ⟨v3, e4, hf⟩ := Option.bind_eq_some_iff.mp hf
  refine r_gR X I e4 lk_TrapCorner_Sightings_28 dX7_wouldTake_27 ?_
  obtain ⟨v5, e6, hf⟩ := Option.bind_eq_some_iff.mp hf
  refine r_gR X I e6 lk_TrapCorner_Sightings_51 dX7_wouldTake_30 ?_
  refine lv_iload_n hx hb dX7_wouldTake_33 rfl (lv_at hl 2 rfl) ?_
  obtain ⟨v7, e8, hf⟩ := Option.bind_eq_some_iff.mp hf
  refine r_aI0 X I e8 dX7_wouldTake_34 ?_
  refine lv_iload_n hx hb dX7_wouldTake_35 rfl (lv_at hl 4 rfl) ?_
  refine lv_iconst (v := 0) hx hb dX7_wouldTake_36 (by decide) ?_
  refine lv_iconst (v := 0) hx hb dX7_wouldTake_37 (by decide) ?_
  obtain ⟨_, g13, hf⟩ := Option.bind_eq_some_iff.mp hf
  obtain ⟨v9, h10, e11, z12, hf⟩ := cN_spec hf
  refine k_Vi (As := [.int s0, .int (x2 - x2 / 10 * 10), .int v7, .int x3, .int 0, .int 0]) (rest := []) X I (c_X4_strength l g v1 s0 (x2 - x2 / 10 * 10) v7 x3 0 0 e11) z12 g13 vk_TrapCorner_Sightings_56 tw_918 ⟨Nat.le_trans (by decide) hR.1, Nat.le_trans (by decide) hR.2⟩ ⟨Nat.zero_le _, Nat.zero_le _⟩ rfl hl.1 rfl (Nat.le_of_ble_eq_true rfl) dX7_wouldTake_38 (fun H locs I => ?_)
  refine lv_aload_n hx hb dX7_wouldTake_41 rfl (lv_at hl 1 rfl) ?_
  obtain ⟨v14, e15, hf⟩ := Option.bind_eq_some_iff.mp hf
  refine r_gR X I e15 lk_TrapCorner_Sightings_28 dX7_wouldTake_42 ?_
  obtain ⟨v16, e17, hf⟩ := Option.bind_eq_some_iff.mp hf
  refine r_gI X I e17 lk_TrapCorner_Sightings_62 dX7_wouldTake_45 ?_
  refine lv_icmp_lt (tgt := 55) hx hb dX7_wouldTake_48 (by decide) (fun c18 => ?_) (fun c18 => ?_)
  · rw [if_pos c18] at hf
    refine lv_iconst (v := 0) hx hb dX7_wouldTake_55 (by decide) ?_
    cases hf
    exact k_rz X I hr (Or.inl rfl) dX7_wouldTake_56
  · rw [if_neg c18] at hf
    refine lv_iconst (v := 1) hx hb dX7_wouldTake_51 (by decide) ?_
    refine lv_goto (tgt := 56) hx hb dX7_wouldTake_52 (by decide) ?_
    cases hf
    exact k_rz X I hr (Or.inr rfl) dX7_wouldTake_56
def f_X7_wouldTake_0  (o0 : Nat) (x1 : Int32) (x2 : Int32) (x3 : Int32) (x4 : Int32) (h : AH) : Option (Int32 × AH) :=
  if x4 = (x2 / 10) then
    f_X7_wouldTake_14 o0 x1 x2 x3 1 h
  else
    f_X7_wouldTake_14 o0 x1 x2 x3 0 h
set_option maxHeartbeats 1000000 in
theorem w_X7_wouldTake_0 (X : Cx g p s m args meth c cX7_wouldTake 6 "TrapCorner$Sightings") (hR : 4 ≤ R.frames ∧ 256 ≤ R.locals) (hr : meth.sig.returnType = (some (.boolean))) {res : Int32 × AH} : ∀ (o0 : Nat) (x1 : Int32) (x2 : Int32) (x3 : Int32) (x4 : Int32) (h : AH) (ls : Array Slot) (H : Heap) (locs : List Loc), f_X7_wouldTake_0 o0 x1 x2 x3 x4 h = some res → Iv g s n0 z0 h H locs 0 0 → lv_has ls 6 [(0, .ref (rfG g o0)), (1, .int x1), (2, .int x2), (3, .int x3), (4, .int x4)] → W p l e R s m args below meth c H locs 0 0 (MQ below (QG g (some (.int res.1)) res.2) args s 0 0 (AG g)) (F0 m 0 ls []) := by
  have hx := X.1
  have hb := X.2.1
  intro o0 x1 x2 x3 x4 h ls H locs hf I hl
  unfold f_X7_wouldTake_0 at hf
  refine lv_iload hx hb dX7_wouldTake_0 (lv_at hl 4 rfl) ?_
  refine lv_iload_n hx hb dX7_wouldTake_2 rfl (lv_at hl 2 rfl) ?_
  refine lv_bipush (v := 10) hx hb dX7_wouldTake_3 (by decide) ?_
  refine lv_idiv hx hb dX7_wouldTake_5 (by decide) ?_
  refine lv_icmp_ne (tgt := 13) hx hb dX7_wouldTake_6 (by decide) (fun c1 => ?_) (fun c1 => ?_)
  · rw [if_neg c1] at hf
    refine lv_iconst (v := 0) hx hb dX7_wouldTake_13 (by decide) ?_
    exact w_X7_wouldTake_14 X hR hr  o0 x1 x2 x3 0 h ls H locs hf I (lv_sub hl [0, 1, 2, 3] rfl)
  · rw [if_pos c1] at hf
    refine lv_iconst (v := 1) hx hb dX7_wouldTake_9 (by decide) ?_
    refine lv_goto (tgt := 14) hx hb dX7_wouldTake_10 (by decide) ?_
    exact w_X7_wouldTake_14 X hR hr  o0 x1 x2 x3 1 h ls H locs hf I (lv_sub hl [0, 1, 2, 3] rfl)
def f_X7_wouldTake (o0 : Nat) (x1 : Int32) (x2 : Int32) (x3 : Int32) (x4 : Int32) (h : AH) : Option (Int32 × AH) := f_X7_wouldTake_0 o0 x1 x2 x3 x4 h
end
theorem c_X7_wouldTake (l : Launch) (g : GG) (o0 : Nat) (x1 : Int32) (x2 : Int32) (x3 : Int32) (x4 : Int32) {h : AH} {res : Int32 × AH} (hf : f_X7_wouldTake o0 x1 x2 x3 x4 h = some res) : CM l g yX7_wouldTake cX7_wouldTake 6 (some (.boolean)) 4 256 0 0 [.ref (rfG g o0), .int x1, .int x2, .int x3, .int x4] h (some (.int res.1)) res.2 :=
  k_body (by decide) (Nat.le_of_ble_eq_true rfl) (fun p e s m below meth c R ls hR hr X I hl => w_X7_wouldTake_0 X ⟨Nat.le_of_eq hR.1.symm, Nat.le_of_eq hR.2.1.symm⟩ hr o0 x1 x2 x3 x4 h ls s.heap [] hf I (lv_sub hl [0, 1, 2, 3, 4] rfl))
/-! TrapCorner$Sightings.bestQuestion(II)I -/
theorem dX7_bestQuestion_0 : decode cX7_bestQuestion 0 = .ok (.aload_n 0, 1) := by decide +kernel
theorem dX7_bestQuestion_1 : decode cX7_bestQuestion 1 = .ok (.getfield 40, 3) := by decide +kernel
theorem dX7_bestQuestion_4 : decode cX7_bestQuestion 4 = .ok (.ifCond .ne 5, 3) := by decide +kernel
theorem dX7_bestQuestion_7 : decode cX7_bestQuestion 7 = .ok (.iconst (-1), 1) := by decide +kernel
theorem dX7_bestQuestion_8 : decode cX7_bestQuestion 8 = .ok (.ireturn, 1) := by decide +kernel
theorem dX7_bestQuestion_9 : decode cX7_bestQuestion 9 = .ok (.iconst (-1), 1) := by decide +kernel
theorem dX7_bestQuestion_10 : decode cX7_bestQuestion 10 = .ok (.istore_n 3, 1) := by decide +kernel
theorem dX7_bestQuestion_11 : decode cX7_bestQuestion 11 = .ok (.ldc 65, 2) := by decide +kernel
theorem dX7_bestQuestion_13 : decode cX7_bestQuestion 13 = .ok (.istore 4, 2) := by decide +kernel
theorem dX7_bestQuestion_15 : decode cX7_bestQuestion 15 = .ok (.iconst 1, 1) := by decide +kernel
theorem dX7_bestQuestion_16 : decode cX7_bestQuestion 16 = .ok (.istore 5, 2) := by decide +kernel
theorem dX7_bestQuestion_18 : decode cX7_bestQuestion 18 = .ok (.iload 5, 2) := by decide +kernel
theorem dX7_bestQuestion_20 : decode cX7_bestQuestion 20 = .ok (.iconst 3, 1) := by decide +kernel
theorem dX7_bestQuestion_21 : decode cX7_bestQuestion 21 = .ok (.if_icmp .gt 78, 3) := by decide +kernel
theorem dX7_bestQuestion_24 : decode cX7_bestQuestion 24 = .ok (.iconst 0, 1) := by decide +kernel
theorem dX7_bestQuestion_25 : decode cX7_bestQuestion 25 = .ok (.istore 6, 2) := by decide +kernel
theorem dX7_bestQuestion_27 : decode cX7_bestQuestion 27 = .ok (.iconst 0, 1) := by decide +kernel
theorem dX7_bestQuestion_28 : decode cX7_bestQuestion 28 = .ok (.istore 7, 2) := by decide +kernel
theorem dX7_bestQuestion_30 : decode cX7_bestQuestion 30 = .ok (.iload 7, 2) := by decide +kernel
theorem dX7_bestQuestion_32 : decode cX7_bestQuestion 32 = .ok (.aload_n 0, 1) := by decide +kernel
theorem dX7_bestQuestion_33 : decode cX7_bestQuestion 33 = .ok (.getfield 40, 3) := by decide +kernel
theorem dX7_bestQuestion_36 : decode cX7_bestQuestion 36 = .ok (.if_icmp .ge 37, 3) := by decide +kernel
theorem dX7_bestQuestion_39 : decode cX7_bestQuestion 39 = .ok (.iload 6, 2) := by decide +kernel
theorem dX7_bestQuestion_41 : decode cX7_bestQuestion 41 = .ok (.aload_n 0, 1) := by decide +kernel
theorem dX7_bestQuestion_42 : decode cX7_bestQuestion 42 = .ok (.iload_n 1, 1) := by decide +kernel
theorem dX7_bestQuestion_43 : decode cX7_bestQuestion 43 = .ok (.aload_n 0, 1) := by decide +kernel
theorem dX7_bestQuestion_44 : decode cX7_bestQuestion 44 = .ok (.getfield 25, 3) := by decide +kernel
theorem dX7_bestQuestion_47 : decode cX7_bestQuestion 47 = .ok (.iload 7, 2) := by decide +kernel
theorem dX7_bestQuestion_49 : decode cX7_bestQuestion 49 = .ok (.iaload, 1) := by decide +kernel
theorem dX7_bestQuestion_50 : decode cX7_bestQuestion 50 = .ok (.iload_n 2, 1) := by decide +kernel
theorem dX7_bestQuestion_51 : decode cX7_bestQuestion 51 = .ok (.iload 5, 2) := by decide +kernel
theorem dX7_bestQuestion_53 : decode cX7_bestQuestion 53 = .ok (.invokevirtual 47, 3) := by decide +kernel
theorem dX7_bestQuestion_56 : decode cX7_bestQuestion 56 = .ok (.ifCond .eq 7, 3) := by decide +kernel
theorem dX7_bestQuestion_59 : decode cX7_bestQuestion 59 = .ok (.iconst 1, 1) := by decide +kernel
theorem dX7_bestQuestion_60 : decode cX7_bestQuestion 60 = .ok (.goto 4, 3) := by decide +kernel
theorem dX7_bestQuestion_63 : decode cX7_bestQuestion 63 = .ok (.iconst (-1), 1) := by decide +kernel
theorem dX7_bestQuestion_64 : decode cX7_bestQuestion 64 = .ok (.iadd, 1) := by decide +kernel
theorem dX7_bestQuestion_65 : decode cX7_bestQuestion 65 = .ok (.istore 6, 2) := by decide +kernel
theorem dX7_bestQuestion_67 : decode cX7_bestQuestion 67 = .ok (.iinc 7 1, 3) := by decide +kernel
theorem dX7_bestQuestion_70 : decode cX7_bestQuestion 70 = .ok (.goto (-40), 3) := by decide +kernel
theorem dX7_bestQuestion_73 : decode cX7_bestQuestion 73 = .ok (.iload 6, 2) := by decide +kernel
theorem dX7_bestQuestion_75 : decode cX7_bestQuestion 75 = .ok (.invokestatic 66, 3) := by decide +kernel
theorem dX7_bestQuestion_78 : decode cX7_bestQuestion 78 = .ok (.iload 4, 2) := by decide +kernel
theorem dX7_bestQuestion_80 : decode cX7_bestQuestion 80 = .ok (.if_icmp .ge 13, 3) := by decide +kernel
theorem dX7_bestQuestion_83 : decode cX7_bestQuestion 83 = .ok (.iload 6, 2) := by decide +kernel
theorem dX7_bestQuestion_85 : decode cX7_bestQuestion 85 = .ok (.invokestatic 66, 3) := by decide +kernel
theorem dX7_bestQuestion_88 : decode cX7_bestQuestion 88 = .ok (.istore 4, 2) := by decide +kernel
theorem dX7_bestQuestion_90 : decode cX7_bestQuestion 90 = .ok (.iload 5, 2) := by decide +kernel
theorem dX7_bestQuestion_92 : decode cX7_bestQuestion 92 = .ok (.istore_n 3, 1) := by decide +kernel
theorem dX7_bestQuestion_93 : decode cX7_bestQuestion 93 = .ok (.iinc 5 1, 3) := by decide +kernel
theorem dX7_bestQuestion_96 : decode cX7_bestQuestion 96 = .ok (.goto (-78), 3) := by decide +kernel
theorem dX7_bestQuestion_99 : decode cX7_bestQuestion 99 = .ok (.iload_n 3, 1) := by decide +kernel
theorem dX7_bestQuestion_100 : decode cX7_bestQuestion 100 = .ok (.ireturn, 1) := by decide +kernel
theorem lk_TrapCorner_Sightings_40 : LK "TrapCorner$Sightings" 40 [7] 8 := by
  intro ci hci
  have hci := List.mem_singleton.mp hci
  subst hci
  exact ⟨RX7, TX7, 9, "TrapCorner$Sightings", ck_7, by decide, tw_341, Or.inl rfl⟩
theorem sk_TrapCorner_Sightings_66 : SK "TrapCorner$Sightings" 66 yJ9_abs_0f7a4 1 := ⟨tw_1092, tw_1093, tw_17, ⟨by decide, by decide⟩, by decide +kernel⟩
theorem lk_TrapCorner_Sightings_25 : LK "TrapCorner$Sightings" 25 [7] 7 := by
  intro ci hci
  have hci := List.mem_singleton.mp hci
  subst hci
  exact ⟨RX7, TX7, 9, "TrapCorner$Sightings", ck_7, by decide, tw_339, Or.inl rfl⟩
theorem vk_TrapCorner_Sightings_47 : VK "TrapCorner$Sightings" 47 [7] yX7_wouldTake 4 := ⟨tw_1078, tw_1080, tw_12, ⟨by decide, by decide⟩, by decide +kernel, fun ci hci => by
  have hci := List.mem_singleton.mp hci
  subst hci
  exact ⟨_, rfl, tp_38⟩⟩
section
variable {g : GG} {p : Program} {l : Launch} {e : Env} {R : Room} {s : State} {m : MethodId} {args : Array Value} {below : List Frame} {meth : Method} {c : Code} {n0 z0 : Nat}
def f_X7_bestQuestion_64 (k18 : Nat → Int32 → Int32 → Int32 → Int32 → Int32 → AH → Option (Int32 × AH)) (k30 : Nat → Int32 → Int32 → Int32 → Int32 → Int32 → Int32 → Int32 → AH → Option (Int32 × AH)) (o0 : Nat) (x1 : Int32) (x2 : Int32) (x3 : Int32) (x4 : Int32) (x5 : Int32) (x7 : Int32) (s0 : Int32) (s1 : Int32) (h : AH) : Option (Int32 × AH) :=
  k30 o0 x1 x2 x3 x4 x5 (s0 + s1) (x7 + 1) h
set_option maxHeartbeats 1000000 in
theorem w_X7_bestQuestion_64 (X : Cx g p s m args meth c cX7_bestQuestion 8 "TrapCorner$Sightings") (hR : 5 ≤ R.frames ∧ 320 ≤ R.locals) (hr : meth.sig.returnType = (some (.int))) {res : Int32 × AH} {k18 : Nat → Int32 → Int32 → Int32 → Int32 → Int32 → AH → Option (Int32 × AH)} (hk18 : ∀ (o0 : Nat) (x1 : Int32) (x2 : Int32) (x3 : Int32) (x4 : Int32) (x5 : Int32) (h : AH) (ls : Array Slot) (H : Heap) (locs : List Loc), k18 o0 x1 x2 x3 x4 x5 h = some res → Iv g s n0 z0 h H locs 0 0 → lv_has ls 8 [(0, .ref (rfG g o0)), (1, .int x1), (2, .int x2), (3, .int x3), (4, .int x4), (5, .int x5)] → W p l e R s m args below meth c H locs 0 0 (MQ below (QG g (some (.int res.1)) res.2) args s 0 0 (AG g)) (F0 m 18 ls [])) {k30 : Nat → Int32 → Int32 → Int32 → Int32 → Int32 → Int32 → Int32 → AH → Option (Int32 × AH)} (hk30 : ∀ (o0 : Nat) (x1 : Int32) (x2 : Int32) (x3 : Int32) (x4 : Int32) (x5 : Int32) (x6 : Int32) (x7 : Int32) (h : AH) (ls : Array Slot) (H : Heap) (locs : List Loc), k30 o0 x1 x2 x3 x4 x5 x6 x7 h = some res → Iv g s n0 z0 h H locs 0 0 → lv_has ls 8 [(0, .ref (rfG g o0)), (1, .int x1), (2, .int x2), (3, .int x3), (4, .int x4), (5, .int x5), (6, .int x6), (7, .int x7)] → W p l e R s m args below meth c H locs 0 0 (MQ below (QG g (some (.int res.1)) res.2) args s 0 0 (AG g)) (F0 m 30 ls [])) : ∀ (o0 : Nat) (x1 : Int32) (x2 : Int32) (x3 : Int32) (x4 : Int32) (x5 : Int32) (x7 : Int32) (s0 : Int32) (s1 : Int32) (h : AH) (ls : Array Slot) (H : Heap) (locs : List Loc), f_X7_bestQuestion_64 k18 k30 o0 x1 x2 x3 x4 x5 x7 s0 s1 h = some res → Iv g s n0 z0 h H locs 0 0 → lv_has ls 8 [(0, .ref (rfG g o0)), (1, .int x1), (2, .int x2), (3, .int x3), (4, .int x4), (5, .int x5), (7, .int x7)] → W p l e R s m args below meth c H locs 0 0 (MQ below (QG g (some (.int res.1)) res.2) args s 0 0 (AG g)) (F0 m 64 ls [.int s1, .int s0]) := by
  have hx := X.1
  have hb := X.2.1
  intro o0 x1 x2 x3 x4 x5 x7 s0 s1 h ls H locs hf I hl
  unfold f_X7_bestQuestion_64 at hf
  refine lv_iadd hx hb dX7_bestQuestion_64 ?_
  refine lv_istore (lv' := [(6, .int (s0 + s1)), (0, .ref (rfG g o0)), (1, .int x1), (2, .int x2), (3, .int x3), (4, .int x4), (5, .int x5), (7, .int x7)]) hx hb dX7_bestQuestion_65 hl (by decide) rfl (fun ls hl => ?_)
  refine lv_iinc (v := x7 + 1) (lv' := [(7, .int (x7 + 1)), (6, .int (s0 + s1)), (0, .ref (rfG g o0)), (1, .int x1), (2, .int x2), (3, .int x3), (4, .int x4), (5, .int x5)]) hx hb dX7_bestQuestion_67 hl (k := 7) rfl rfl (by decide) rfl (fun ls hl => ?_)
  refine lv_goto (tgt := 30) hx hb dX7_bestQuestion_70 (by decide) ?_
  exact hk30 o0 x1 x2 x3 x4 x5 (s0 + s1) (x7 + 1) h ls H locs hf I (lv_sub hl [2, 3, 4, 5, 6, 7, 1, 0] rfl)
def f_X7_bestQuestion_93 (k18 : Nat → Int32 → Int32 → Int32 → Int32 → Int32 → AH → Option (Int32 × AH)) (o0 : Nat) (x1 : Int32) (x2 : Int32) (x3 : Int32) (x4 : Int32) (x5 : Int32) (h : AH) : Option (Int32 × AH) :=
  k18 o0 x1 x2 x3 x4 (x5 + 1) h
set_option maxHeartbeats 1000000 in
theorem w_X7_bestQuestion_93 (X : Cx g p s m args meth c cX7_bestQuestion 8 "TrapCorner$Sightings") (hR : 5 ≤ R.frames ∧ 320 ≤ R.locals) (hr : meth.sig.returnType = (some (.int))) {res : Int32 × AH} {k18 : Nat → Int32 → Int32 → Int32 → Int32 → Int32 → AH → Option (Int32 × AH)} (hk18 : ∀ (o0 : Nat) (x1 : Int32) (x2 : Int32) (x3 : Int32) (x4 : Int32) (x5 : Int32) (h : AH) (ls : Array Slot) (H : Heap) (locs : List Loc), k18 o0 x1 x2 x3 x4 x5 h = some res → Iv g s n0 z0 h H locs 0 0 → lv_has ls 8 [(0, .ref (rfG g o0)), (1, .int x1), (2, .int x2), (3, .int x3), (4, .int x4), (5, .int x5)] → W p l e R s m args below meth c H locs 0 0 (MQ below (QG g (some (.int res.1)) res.2) args s 0 0 (AG g)) (F0 m 18 ls [])) : ∀ (o0 : Nat) (x1 : Int32) (x2 : Int32) (x3 : Int32) (x4 : Int32) (x5 : Int32) (h : AH) (ls : Array Slot) (H : Heap) (locs : List Loc), f_X7_bestQuestion_93 k18 o0 x1 x2 x3 x4 x5 h = some res → Iv g s n0 z0 h H locs 0 0 → lv_has ls 8 [(0, .ref (rfG g o0)), (1, .int x1), (2, .int x2), (3, .int x3), (4, .int x4), (5, .int x5)] → W p l e R s m args below meth c H locs 0 0 (MQ below (QG g (some (.int res.1)) res.2) args s 0 0 (AG g)) (F0 m 93 ls []) := by
  have hx := X.1
  have hb := X.2.1
  intro o0 x1 x2 x3 x4 x5 h ls H locs hf I hl
  unfold f_X7_bestQuestion_93 at hf
  refine lv_iinc (v := x5 + 1) (lv' := [(5, .int (x5 + 1)), (0, .ref (rfG g o0)), (1, .int x1), (2, .int x2), (3, .int x3), (4, .int x4)]) hx hb dX7_bestQuestion_93 hl (k := 5) rfl rfl (by decide) rfl (fun ls hl => ?_)
  refine lv_goto (tgt := 18) hx hb dX7_bestQuestion_96 (by decide) ?_
  exact hk18 o0 x1 x2 x3 x4 (x5 + 1) h ls H locs hf I (lv_sub hl [1, 2, 3, 4, 5, 0] rfl)
def f_X7_bestQuestion_30 (k18 : Nat → Int32 → Int32 → Int32 → Int32 → Int32 → AH → Option (Int32 × AH)) : Nat → Nat → Int32 → Int32 → Int32 → Int32 → Int32 → Int32 → Int32 → AH → Option (Int32 × AH)
  | 0, _, _, _, _, _, _, _, _, _ => none
  | n + 1, o0, x1, x2, x3, x4, x5, x6, x7, h =>
  (gI [7] h o0 8).bind fun v1 =>
  if v1 ≤ x7 then
    cN (f_J9_abs_0f7a4 x6 h) h fun v4 h5 =>
    if x4 ≤ v4 then
      f_X7_bestQuestion_93 k18 o0 x1 x2 x3 x4 x5 h5
    else
      cN (f_J9_abs_0f7a4 x6 h5) h5 fun v9 h10 =>
      f_X7_bestQuestion_93 k18 o0 x1 x2 x5 v9 x5 h10
  else
    (gR [7] h o0 7).bind fun v13 =>
    (aI 0 h v13 x7).bind fun v15 =>
    (isC [7] h o0).bind fun _ =>
    cN (f_X7_wouldTake o0 x1 v15 x2 x5 h) h fun v17 h18 =>
    if v17 = 0 then
      f_X7_bestQuestion_64 k18 (f_X7_bestQuestion_30 k18 n) o0 x1 x2 x3 x4 x5 x7 x6 ((-1)) h18
    else
      f_X7_bestQuestion_64 k18 (f_X7_bestQuestion_30 k18 n) o0 x1 x2 x3 x4 x5 x7 x6 1 h18
set_option maxHeartbeats 1000000 in
theorem w_X7_bestQuestion_30 (X : Cx g p s m args meth c cX7_bestQuestion 8 "TrapCorner$Sightings") (hR : 5 ≤ R.frames ∧ 320 ≤ R.locals) (hr : meth.sig.returnType = (some (.int))) {res : Int32 × AH} {k18 : Nat → Int32 → Int32 → Int32 → Int32 → Int32 → AH → Option (Int32 × AH)} (hk18 : ∀ (o0 : Nat) (x1 : Int32) (x2 : Int32) (x3 : Int32) (x4 : Int32) (x5 : Int32) (h : AH) (ls : Array Slot) (H : Heap) (locs : List Loc), k18 o0 x1 x2 x3 x4 x5 h = some res → Iv g s n0 z0 h H locs 0 0 → lv_has ls 8 [(0, .ref (rfG g o0)), (1, .int x1), (2, .int x2), (3, .int x3), (4, .int x4), (5, .int x5)] → W p l e R s m args below meth c H locs 0 0 (MQ below (QG g (some (.int res.1)) res.2) args s 0 0 (AG g)) (F0 m 18 ls [])) : ∀ (n : Nat) (o0 : Nat) (x1 : Int32) (x2 : Int32) (x3 : Int32) (x4 : Int32) (x5 : Int32) (x6 : Int32) (x7 : Int32) (h : AH) (ls : Array Slot) (H : Heap) (locs : List Loc), f_X7_bestQuestion_30 k18 n o0 x1 x2 x3 x4 x5 x6 x7 h = some res → Iv g s n0 z0 h H locs 0 0 → lv_has ls 8 [(0, .ref (rfG g o0)), (1, .int x1), (2, .int x2), (3, .int x3), (4, .int x4), (5, .int x5), (6, .int x6), (7, .int x7)] → W p l e R s m args below meth c H locs 0 0 (MQ below (QG g (some (.int res.1)) res.2) args s 0 0 (AG g)) (F0 m 30 ls []) := by
  have hx := X.1
  have hb := X.2.1
  intro n
  induction n with
  | zero =>
    intro o0 x1 x2 x3 x4 x5 x6 x7 h ls H locs hf
    rw [f_X7_bestQuestion_30.eq_1] at hf
    cases hf
  | succ n ih =>
    intro o0 x1 x2 x3 x4 x5 x6 x7 h ls H locs hf I hl
    rw [f_X7_bestQuestion_30.eq_2] at hf
    refine lv_iload hx hb dX7_bestQuestion_30 (lv_at hl 7 rfl) ?_
    refine lv_aload_n hx hb dX7_bestQuestion_32 rfl (lv_at hl 0 rfl) ?_
    obtain ⟨v1, e2, hf⟩ := Option.bind_eq_some_iff.mp hf
    refine r_gI X I e2 lk_TrapCorner_Sightings_40 dX7_bestQuestion_33 ?_
    refine lv_icmp_ge (tgt := 73) hx hb dX7_bestQuestion_36 (by decide) (fun c3 => ?_) (fun c3 => ?_)
    · rw [if_pos c3] at hf
      refine lv_iload hx hb dX7_bestQuestion_73 (lv_at hl 6 rfl) ?_
      obtain ⟨v4, h5, e6, z7, hf⟩ := cN_spec hf
      refine k_Si (As := [.int x6]) (rest := []) X I (c_J9_abs_0f7a4 l g x6 e6) z7 sk_TrapCorner_Sightings_66 tw_1094 ⟨Nat.le_trans (by decide) hR.1, Nat.le_trans (by decide) hR.2⟩ ⟨Nat.zero_le _, Nat.zero_le _⟩ rfl hl.1 rfl (Nat.le_of_ble_eq_true rfl) dX7_bestQuestion_75 (fun H locs I => ?_)
      refine lv_iload hx hb dX7_bestQuestion_78 (lv_at hl 4 rfl) ?_
      refine lv_icmp_ge (tgt := 93) hx hb dX7_bestQuestion_80 (by decide) (fun c8 => ?_) (fun c8 => ?_)
      · rw [if_pos c8] at hf
        exact w_X7_bestQuestion_93 X hR hr hk18 o0 x1 x2 x3 x4 x5 h5 ls H locs hf I (lv_sub hl [0, 1, 2, 3, 4, 5] rfl)
      · rw [if_neg c8] at hf
        refine lv_iload hx hb dX7_bestQuestion_83 (lv_at hl 6 rfl) ?_
        obtain ⟨v9, h10, e11, z12, hf⟩ := cN_spec hf
        refine k_Si (As := [.int x6]) (rest := []) X I (c_J9_abs_0f7a4 l g x6 e11) z12 sk_TrapCorner_Sightings_66 tw_1094 ⟨Nat.le_trans (by decide) hR.1, Nat.le_trans (by decide) hR.2⟩ ⟨Nat.zero_le _, Nat.zero_le _⟩ rfl hl.1 rfl (Nat.le_of_ble_eq_true rfl) dX7_bestQuestion_85 (fun H locs I => ?_)
        refine lv_istore (lv' := [(4, .int v9), (0, .ref (rfG g o0)), (1, .int x1), (2, .int x2), (3, .int x3), (5, .int x5), (6, .int x6), (7, .int x7)]) hx hb dX7_bestQuestion_88 hl (by decide) rfl (fun ls hl => ?_)
        refine lv_iload hx hb dX7_bestQuestion_90 (lv_at hl 5 rfl) ?_
        refine lv_istore_n (lv' := [(3, .int x5), (4, .int v9), (0, .ref (rfG g o0)), (1, .int x1), (2, .int x2), (5, .int x5), (6, .int x6), (7, .int x7)]) hx hb dX7_bestQuestion_92 rfl hl (by decide) rfl (fun ls hl => ?_)
        exact w_X7_bestQuestion_93 X hR hr hk18 o0 x1 x2 x5 v9 x5 h10 ls H locs hf I (lv_sub hl [2, 3, 4, 0, 1, 5] rfl)
    · rw [if_neg c3] at hf
      refine lv_iload hx hb dX7_bestQuestion_39 (lv_at hl 6 rfl) ?_
      refine lv_aload_n hx hb dX7_bestQuestion_41 rfl (lv_at hl 0 rfl) ?_
      refine lv_iload_n hx hb dX7_bestQuestion_42 rfl (lv_at hl 1 rfl) ?_
      refine lv_aload_n hx hb dX7_bestQuestion_43 rfl (lv_at hl 0 rfl) ?_
      obtain ⟨v13, e14, hf⟩ := Option.bind_eq_some_iff.mp hf
      refine r_gR X I e14 lk_TrapCorner_Sightings_25 dX7_bestQuestion_44 ?_
      refine lv_iload hx hb dX7_bestQuestion_47 (lv_at hl 7 rfl) ?_
      obtain ⟨v15, e16, hf⟩ := Option.bind_eq_some_iff.mp hf
      refine r_aI0 X I e16 dX7_bestQuestion_49 ?_
      refine lv_iload_n hx hb dX7_bestQuestion_50 rfl (lv_at hl 2 rfl) ?_
      refine lv_iload hx hb dX7_bestQuestion_51 (lv_at hl 5 rfl) ?_
      obtain ⟨_, g21, hf⟩ := Option.bind_eq_some_iff.mp hf
      obtain ⟨v17, h18, e19, z20, hf⟩ := cN_spec hf
      refine k_Vi (As := [.int x1, .int v15, .int x2, .int x5]) (rest := [.int x6]) X I (c_X7_wouldTake l g o0 x1 v15 x2 x5 e19) z20 g21 vk_TrapCorner_Sightings_47 tw_1081 ⟨Nat.le_trans (by decide) hR.1, Nat.le_trans (by decide) hR.2⟩ ⟨Nat.zero_le _, Nat.zero_le _⟩ rfl hl.1 rfl (Nat.le_of_ble_eq_true rfl) dX7_bestQuestion_53 (fun H locs I => ?_)
      refine lv_if_eq (tgt := 63) hx hb dX7_bestQuestion_56 (by decide) (fun c22 => ?_) (fun c22 => ?_)
      · rw [if_pos c22] at hf
        refine lv_iconst (v := (-1)) hx hb dX7_bestQuestion_63 (by decide) ?_
        exact w_X7_bestQuestion_64 X hR hr hk18 ih o0 x1 x2 x3 x4 x5 x7 x6 ((-1)) h18 ls H locs hf I (lv_sub hl [0, 1, 2, 3, 4, 5, 7] rfl)
      · rw [if_neg c22] at hf
        refine lv_iconst (v := 1) hx hb dX7_bestQuestion_59 (by decide) ?_
        refine lv_goto (tgt := 64) hx hb dX7_bestQuestion_60 (by decide) ?_
        exact w_X7_bestQuestion_64 X hR hr hk18 ih o0 x1 x2 x3 x4 x5 x7 x6 1 h18 ls H locs hf I (lv_sub hl [0, 1, 2, 3, 4, 5, 7] rfl)
def f_X7_bestQuestion_18  : Nat → Nat → Int32 → Int32 → Int32 → Int32 → Int32 → AH → Option (Int32 × AH)
  | 0, _, _, _, _, _, _, _ => none
  | n + 1, o0, x1, x2, x3, x4, x5, h =>
  if 3 < x5 then
    some (x3, h)
  else
    f_X7_bestQuestion_30 (f_X7_bestQuestion_18 n) fu o0 x1 x2 x3 x4 x5 0 0 h
set_option maxHeartbeats 1000000 in
theorem w_X7_bestQuestion_18 (X : Cx g p s m args meth c cX7_bestQuestion 8 "TrapCorner$Sightings") (hR : 5 ≤ R.frames ∧ 320 ≤ R.locals) (hr : meth.sig.returnType = (some (.int))) {res : Int32 × AH} : ∀ (n : Nat) (o0 : Nat) (x1 : Int32) (x2 : Int32) (x3 : Int32) (x4 : Int32) (x5 : Int32) (h : AH) (ls : Array Slot) (H : Heap) (locs : List Loc), f_X7_bestQuestion_18 n o0 x1 x2 x3 x4 x5 h = some res → Iv g s n0 z0 h H locs 0 0 → lv_has ls 8 [(0, .ref (rfG g o0)), (1, .int x1), (2, .int x2), (3, .int x3), (4, .int x4), (5, .int x5)] → W p l e R s m args below meth c H locs 0 0 (MQ below (QG g (some (.int res.1)) res.2) args s 0 0 (AG g)) (F0 m 18 ls []) := by
  have hx := X.1
  have hb := X.2.1
  intro n
  induction n with
  | zero =>
    intro o0 x1 x2 x3 x4 x5 h ls H locs hf
    rw [f_X7_bestQuestion_18.eq_1] at hf
    cases hf
  | succ n ih =>
    intro o0 x1 x2 x3 x4 x5 h ls H locs hf I hl
    rw [f_X7_bestQuestion_18.eq_2] at hf
    refine lv_iload hx hb dX7_bestQuestion_18 (lv_at hl 5 rfl) ?_
    refine lv_iconst (v := 3) hx hb dX7_bestQuestion_20 (by decide) ?_
    refine lv_icmp_gt (tgt := 99) hx hb dX7_bestQuestion_21 (by decide) (fun c1 => ?_) (fun c1 => ?_)
    · rw [if_pos c1] at hf
      refine lv_iload_n hx hb dX7_bestQuestion_99 rfl (lv_at hl 3 rfl) ?_
      cases hf
      exact k_ri X I hr dX7_bestQuestion_100
    · rw [if_neg c1] at hf
      refine lv_iconst (v := 0) hx hb dX7_bestQuestion_24 (by decide) ?_
      refine lv_istore (lv' := [(6, .int 0), (0, .ref (rfG g o0)), (1, .int x1), (2, .int x2), (3, .int x3), (4, .int x4), (5, .int x5)]) hx hb dX7_bestQuestion_25 hl (by decide) rfl (fun ls hl => ?_)
      refine lv_iconst (v := 0) hx hb dX7_bestQuestion_27 (by decide) ?_
      refine lv_istore (lv' := [(7, .int 0), (6, .int 0), (0, .ref (rfG g o0)), (1, .int x1), (2, .int x2), (3, .int x3), (4, .int x4), (5, .int x5)]) hx hb dX7_bestQuestion_28 hl (by decide) rfl (fun ls hl => ?_)
      exact w_X7_bestQuestion_30 X hR hr ih fu o0 x1 x2 x3 x4 x5 0 0 h ls H locs hf I (lv_sub hl [2, 3, 4, 5, 6, 7, 1, 0] rfl)
def f_X7_bestQuestion_0  (o0 : Nat) (x1 : Int32) (x2 : Int32) (h : AH) : Option (Int32 × AH) :=
  (gI [7] h o0 8).bind fun v1 =>
  if v1 = 0 then
    some ((-1), h)
  else
    f_X7_bestQuestion_18 fu o0 x1 x2 ((-1)) 1000000 1 h
set_option maxHeartbeats 1000000 in
theorem w_X7_bestQuestion_0 (X : Cx g p s m args meth c cX7_bestQuestion 8 "TrapCorner$Sightings") (hR : 5 ≤ R.frames ∧ 320 ≤ R.locals) (hr : meth.sig.returnType = (some (.int))) {res : Int32 × AH} : ∀ (o0 : Nat) (x1 : Int32) (x2 : Int32) (h : AH) (ls : Array Slot) (H : Heap) (locs : List Loc), f_X7_bestQuestion_0 o0 x1 x2 h = some res → Iv g s n0 z0 h H locs 0 0 → lv_has ls 8 [(0, .ref (rfG g o0)), (1, .int x1), (2, .int x2)] → W p l e R s m args below meth c H locs 0 0 (MQ below (QG g (some (.int res.1)) res.2) args s 0 0 (AG g)) (F0 m 0 ls []) := by
  have hx := X.1
  have hb := X.2.1
  intro o0 x1 x2 h ls H locs hf I hl
  unfold f_X7_bestQuestion_0 at hf
  refine lv_aload_n hx hb dX7_bestQuestion_0 rfl (lv_at hl 0 rfl) ?_
  obtain ⟨v1, e2, hf⟩ := Option.bind_eq_some_iff.mp hf
  refine r_gI X I e2 lk_TrapCorner_Sightings_40 dX7_bestQuestion_1 ?_
  refine lv_if_ne (tgt := 9) hx hb dX7_bestQuestion_4 (by decide) (fun c3 => ?_) (fun c3 => ?_)
  · rw [if_neg c3] at hf
    refine lv_iconst (v := (-1)) hx hb dX7_bestQuestion_9 (by decide) ?_
    refine lv_istore_n (lv' := [(3, .int ((-1))), (0, .ref (rfG g o0)), (1, .int x1), (2, .int x2)]) hx hb dX7_bestQuestion_10 rfl hl (by decide) rfl (fun ls hl => ?_)
    refine lv_ldc (v := 1000000) hx hb X.2.2.2.1 (X.2.2.2.2.1 _ tw_1091) dX7_bestQuestion_11 ?_
    refine lv_istore (lv' := [(4, .int 1000000), (3, .int ((-1))), (0, .ref (rfG g o0)), (1, .int x1), (2, .int x2)]) hx hb dX7_bestQuestion_13 hl (by decide) rfl (fun ls hl => ?_)
    refine lv_iconst (v := 1) hx hb dX7_bestQuestion_15 (by decide) ?_
    refine lv_istore (lv' := [(5, .int 1), (4, .int 1000000), (3, .int ((-1))), (0, .ref (rfG g o0)), (1, .int x1), (2, .int x2)]) hx hb dX7_bestQuestion_16 hl (by decide) rfl (fun ls hl => ?_)
    exact w_X7_bestQuestion_18 X hR hr fu o0 x1 x2 ((-1)) 1000000 1 h ls H locs hf I (lv_sub hl [3, 4, 5, 2, 1, 0] rfl)
  · rw [if_pos c3] at hf
    refine lv_iconst (v := (-1)) hx hb dX7_bestQuestion_7 (by decide) ?_
    cases hf
    exact k_ri X I hr dX7_bestQuestion_8
def f_X7_bestQuestion (o0 : Nat) (x1 : Int32) (x2 : Int32) (h : AH) : Option (Int32 × AH) := f_X7_bestQuestion_0 o0 x1 x2 h
end
theorem c_X7_bestQuestion (l : Launch) (g : GG) (o0 : Nat) (x1 : Int32) (x2 : Int32) {h : AH} {res : Int32 × AH} (hf : f_X7_bestQuestion o0 x1 x2 h = some res) : CM l g yX7_bestQuestion cX7_bestQuestion 8 (some (.int)) 5 320 0 0 [.ref (rfG g o0), .int x1, .int x2] h (some (.int res.1)) res.2 :=
  k_body (by decide) (Nat.le_of_ble_eq_true rfl) (fun p e s m below meth c R ls hR hr X I hl => w_X7_bestQuestion_0 X ⟨Nat.le_of_eq hR.1.symm, Nat.le_of_eq hR.2.1.symm⟩ hr o0 x1 x2 h ls s.heap [] hf I (lv_sub hl [0, 1, 2] rfl))
/-! TrapCorner.log(II)I -/
theorem dX11_log_0 : decode cX11_log 0 = .ok (.iload_n 1, 1) := by decide +kernel
theorem dX11_log_1 : decode cX11_log 1 = .ok (.ifCond .lt 11, 3) := by decide +kernel
theorem dX11_log_4 : decode cX11_log 4 = .ok (.iload_n 1, 1) := by decide +kernel
theorem dX11_log_5 : decode cX11_log 5 = .ok (.aload_n 0, 1) := by decide +kernel
theorem dX11_log_6 : decode cX11_log 6 = .ok (.invokevirtual 225, 3) := by decide +kernel
theorem dX11_log_9 : decode cX11_log 9 = .ok (.if_icmp .lt 5, 3) := by decide +kernel
theorem dX11_log_12 : decode cX11_log 12 = .ok (.iconst (-1), 1) := by decide +kernel
theorem dX11_log_13 : decode cX11_log 13 = .ok (.ireturn, 1) := by decide +kernel
theorem dX11_log_14 : decode cX11_log 14 = .ok (.iload_n 2, 1) := by decide +kernel
theorem dX11_log_15 : decode cX11_log 15 = .ok (.tableswitch 82 0 2 #[25, 44, 63], 25) := by decide +kernel
theorem dX11_log_40 : decode cX11_log 40 = .ok (.aload_n 0, 1) := by decide +kernel
theorem dX11_log_41 : decode cX11_log 41 = .ok (.getfield 59, 3) := by decide +kernel
theorem dX11_log_44 : decode cX11_log 44 = .ok (.aload_n 0, 1) := by decide +kernel
theorem dX11_log_45 : decode cX11_log 45 = .ok (.getfield 49, 3) := by decide +kernel
theorem dX11_log_48 : decode cX11_log 48 = .ok (.getfield 228, 3) := by decide +kernel
theorem dX11_log_51 : decode cX11_log 51 = .ok (.iconst 1, 1) := by decide +kernel
theorem dX11_log_52 : decode cX11_log 52 = .ok (.isub, 1) := by decide +kernel
theorem dX11_log_53 : decode cX11_log 53 = .ok (.iload_n 1, 1) := by decide +kernel
theorem dX11_log_54 : decode cX11_log 54 = .ok (.isub, 1) := by decide +kernel
theorem dX11_log_55 : decode cX11_log 55 = .ok (.invokevirtual 231, 3) := by decide +kernel
theorem dX11_log_58 : decode cX11_log 58 = .ok (.ireturn, 1) := by decide +kernel
theorem dX11_log_59 : decode cX11_log 59 = .ok (.aload_n 0, 1) := by decide +kernel
theorem dX11_log_60 : decode cX11_log 60 = .ok (.getfield 59, 3) := by decide +kernel
theorem dX11_log_63 : decode cX11_log 63 = .ok (.aload_n 0, 1) := by decide +kernel
theorem dX11_log_64 : decode cX11_log 64 = .ok (.getfield 49, 3) := by decide +kernel
theorem dX11_log_67 : decode cX11_log 67 = .ok (.getfield 228, 3) := by decide +kernel
theorem dX11_log_70 : decode cX11_log 70 = .ok (.iconst 1, 1) := by decide +kernel
theorem dX11_log_71 : decode cX11_log 71 = .ok (.isub, 1) := by decide +kernel
theorem dX11_log_72 : decode cX11_log 72 = .ok (.iload_n 1, 1) := by decide +kernel
theorem dX11_log_73 : decode cX11_log 73 = .ok (.isub, 1) := by decide +kernel
theorem dX11_log_74 : decode cX11_log 74 = .ok (.invokevirtual 234, 3) := by decide +kernel
theorem dX11_log_77 : decode cX11_log 77 = .ok (.ireturn, 1) := by decide +kernel
theorem dX11_log_78 : decode cX11_log 78 = .ok (.aload_n 0, 1) := by decide +kernel
theorem dX11_log_79 : decode cX11_log 79 = .ok (.getfield 59, 3) := by decide +kernel
theorem dX11_log_82 : decode cX11_log 82 = .ok (.aload_n 0, 1) := by decide +kernel
theorem dX11_log_83 : decode cX11_log 83 = .ok (.getfield 49, 3) := by decide +kernel
theorem dX11_log_86 : decode cX11_log 86 = .ok (.getfield 228, 3) := by decide +kernel
theorem dX11_log_89 : decode cX11_log 89 = .ok (.iconst 1, 1) := by decide +kernel
theorem dX11_log_90 : decode cX11_log 90 = .ok (.isub, 1) := by decide +kernel
theorem dX11_log_91 : decode cX11_log 91 = .ok (.iload_n 1, 1) := by decide +kernel
theorem dX11_log_92 : decode cX11_log 92 = .ok (.isub, 1) := by decide +kernel
theorem dX11_log_93 : decode cX11_log 93 = .ok (.invokevirtual 237, 3) := by decide +kernel
theorem dX11_log_96 : decode cX11_log 96 = .ok (.ireturn, 1) := by decide +kernel
theorem dX11_log_97 : decode cX11_log 97 = .ok (.iconst (-1), 1) := by decide +kernel
theorem dX11_log_98 : decode cX11_log 98 = .ok (.ireturn, 1) := by decide +kernel
theorem vk_TrapCorner_225 : VK "TrapCorner" 225 [11] yX11_rowsKept 0 := ⟨tw_806, tw_808, tw_1, ⟨by decide, by decide⟩, by decide +kernel, fun ci hci => by
  have hci := List.mem_singleton.mp hci
  subst hci
  exact ⟨_, rfl, tp_20⟩⟩
theorem vk_TrapCorner_231 : VK "TrapCorner" 231 [1] yX1_takenOn 1 := ⟨tw_811, tw_812, tw_9, ⟨by decide, by decide⟩, by decide +kernel, fun ci hci => by
  have hci := List.mem_singleton.mp hci
  subst hci
  exact ⟨_, rfl, tw_813⟩⟩
theorem vk_TrapCorner_234 : VK "TrapCorner" 234 [1] yX1_canesOn 1 := ⟨tw_821, tw_822, tw_9, ⟨by decide, by decide⟩, by decide +kernel, fun ci hci => by
  have hci := List.mem_singleton.mp hci
  subst hci
  exact ⟨_, rfl, tw_823⟩⟩
theorem vk_TrapCorner_237 : VK "TrapCorner" 237 [1] yX1_coinsOn 1 := ⟨tw_825, tw_826, tw_9, ⟨by decide, by decide⟩, by decide +kernel, fun ci hci => by
  have hci := List.mem_singleton.mp hci
  subst hci
  exact ⟨_, rfl, tw_827⟩⟩
section
variable {g : GG} {p : Program} {l : Launch} {e : Env} {R : Room} {s : State} {m : MethodId} {args : Array Value} {below : List Frame} {meth : Method} {c : Code} {n0 z0 : Nat}
def f_X11_log_0  (o0 : Nat) (x1 : Int32) (x2 : Int32) (h : AH) : Option (Int32 × AH) :=
  if x1 < 0 then
    some ((-1), h)
  else
    (isC [11] h o0).bind fun _ =>
    cN (f_X11_rowsKept o0 h) h fun v2 h3 =>
    if x1 < v2 then
      if x2 = 0 then
        (gR [11] h3 o0 7).bind fun v9 =>
        (gR [11] h3 o0 5).bind fun v11 =>
        (gI [8] h3 v11 7).bind fun v13 =>
        (isC [1] h3 v9).bind fun _ =>
        cN (f_X1_takenOn v9 ((v13 - 1) - x1) h3) h3 fun v15 h16 =>
        some (v15, h16)
      else
        if x2 = 1 then
          (gR [11] h3 o0 7).bind fun v21 =>
          (gR [11] h3 o0 5).bind fun v23 =>
          (gI [8] h3 v23 7).bind fun v25 =>
          (isC [1] h3 v21).bind fun _ =>
          cN (f_X1_canesOn v21 ((v25 - 1) - x1) h3) h3 fun v27 h28 =>
          some (v27, h28)
        else
          if x2 = 2 then
            (gR [11] h3 o0 7).bind fun v33 =>
            (gR [11] h3 o0 5).bind fun v35 =>
            (gI [8] h3 v35 7).bind fun v37 =>
            (isC [1] h3 v33).bind fun _ =>
            cN (f_X1_coinsOn v33 ((v37 - 1) - x1) h3) h3 fun v39 h40 =>
            some (v39, h40)
          else
            some ((-1), h3)
    else
      some ((-1), h3)
set_option maxHeartbeats 1000000 in
theorem w_X11_log_0 (X : Cx g p s m args meth c cX11_log 3 "TrapCorner") (hR : 4 ≤ R.frames ∧ 256 ≤ R.locals) (hr : meth.sig.returnType = (some (.int))) {res : Int32 × AH} : ∀ (o0 : Nat) (x1 : Int32) (x2 : Int32) (h : AH) (ls : Array Slot) (H : Heap) (locs : List Loc), f_X11_log_0 o0 x1 x2 h = some res → Iv g s n0 z0 h H locs 0 0 → lv_has ls 3 [(0, .ref (rfG g o0)), (1, .int x1), (2, .int x2)] → W p l e R s m args below meth c H locs 0 0 (MQ below (QG g (some (.int res.1)) res.2) args s 0 0 (AG g)) (F0 m 0 ls []) := by
  have hx := X.1
  have hb := X.2.1
  intro o0 x1 x2 h ls H locs hf I hl
  unfold f_X11_log_0 at hf
  refine lv_iload_n hx hb dX11_log_0 rfl (lv_at hl 1 rfl) ?_
  refine lv_if_lt (tgt := 12) hx hb dX11_log_1 (by decide) (fun c1 => ?_) (fun c1 => ?_)
  · rw [if_pos c1] at hf
    refine lv_iconst (v := (-1)) hx hb dX11_log_12 (by decide) ?_
    cases hf
    exact k_ri X I hr dX11_log_13
  · rw [if_neg c1] at hf
    refine lv_iload_n hx hb dX11_log_4 rfl (lv_at hl 1 rfl) ?_
    refine lv_aload_n hx hb dX11_log_5 rfl (lv_at hl 0 rfl) ?_
    obtain ⟨_, g6, hf⟩ := Option.bind_eq_some_iff.mp hf
    obtain ⟨v2, h3, e4, z5, hf⟩ := cN_spec hf
    refine k_Vi (As := []) (rest := [.int x1]) X I (c_X11_rowsKept l g o0 e4) z5 g6 vk_TrapCorner_225 tw_809 ⟨Nat.le_trans (by decide) hR.1, Nat.le_trans (by decide) hR.2⟩ ⟨Nat.zero_le _, Nat.zero_le _⟩ rfl hl.1 rfl (Nat.le_of_ble_eq_true rfl) dX11_log_6 (fun H locs I => ?_)
    refine lv_icmp_lt (tgt := 14) hx hb dX11_log_9 (by decide) (fun c7 => ?_) (fun c7 => ?_)
    · rw [if_pos c7] at hf
      refine lv_iload_n hx hb dX11_log_14 rfl (lv_at hl 2 rfl) ?_
      by_cases c8 : x2 = 0
      · rw [if_pos c8] at hf
        refine lv_tableIn (tgt := 40) hx hb dX11_log_15 (by rw [c8]; decide) (by rw [c8]; decide) (by rw [c8]; rfl) (by decide) ?_
        refine lv_aload_n hx hb dX11_log_40 rfl (lv_at hl 0 rfl) ?_
        obtain ⟨v9, e10, hf⟩ := Option.bind_eq_some_iff.mp hf
        refine r_gR X I e10 lk_TrapCorner_59 dX11_log_41 ?_
        refine lv_aload_n hx hb dX11_log_44 rfl (lv_at hl 0 rfl) ?_
        obtain ⟨v11, e12, hf⟩ := Option.bind_eq_some_iff.mp hf
        refine r_gR X I e12 lk_TrapCorner_49 dX11_log_45 ?_
        obtain ⟨v13, e14, hf⟩ := Option.bind_eq_some_iff.mp hf
        refine r_gI X I e14 lk_TrapCorner_228 dX11_log_48 ?_
        refine lv_iconst (v := 1) hx hb dX11_log_51 (by decide) ?_
        refine lv_isub hx hb dX11_log_52 ?_
        refine lv_iload_n hx hb dX11_log_53 rfl (lv_at hl 1 rfl) ?_
        refine lv_isub hx hb dX11_log_54 ?_
        obtain ⟨_, g19, hf⟩ := Option.bind_eq_some_iff.mp hf
        obtain ⟨v15, h16, e17, z18, hf⟩ := cN_spec hf
        refine k_Vi (As := [.int ((v13 - 1) - x1)]) (rest := []) X I (c_X1_takenOn l g v9 ((v13 - 1) - x1) e17) z18 g19 vk_TrapCorner_231 tw_814 ⟨Nat.le_trans (by decide) hR.1, Nat.le_trans (by decide) hR.2⟩ ⟨Nat.zero_le _, Nat.zero_le _⟩ rfl hl.1 rfl (Nat.le_of_ble_eq_true rfl) dX11_log_55 (fun H locs I => ?_)
        cases hf
        exact k_ri X I hr dX11_log_58
      · rw [if_neg c8] at hf
        by_cases c20 : x2 = 1
        · rw [if_pos c20] at hf
          refine lv_tableIn (tgt := 59) hx hb dX11_log_15 (by rw [c20]; decide) (by rw [c20]; decide) (by rw [c20]; rfl) (by decide) ?_
          refine lv_aload_n hx hb dX11_log_59 rfl (lv_at hl 0 rfl) ?_
          obtain ⟨v21, e22, hf⟩ := Option.bind_eq_some_iff.mp hf
          refine r_gR X I e22 lk_TrapCorner_59 dX11_log_60 ?_
          refine lv_aload_n hx hb dX11_log_63 rfl (lv_at hl 0 rfl) ?_
          obtain ⟨v23, e24, hf⟩ := Option.bind_eq_some_iff.mp hf
          refine r_gR X I e24 lk_TrapCorner_49 dX11_log_64 ?_
          obtain ⟨v25, e26, hf⟩ := Option.bind_eq_some_iff.mp hf
          refine r_gI X I e26 lk_TrapCorner_228 dX11_log_67 ?_
          refine lv_iconst (v := 1) hx hb dX11_log_70 (by decide) ?_
          refine lv_isub hx hb dX11_log_71 ?_
          refine lv_iload_n hx hb dX11_log_72 rfl (lv_at hl 1 rfl) ?_
          refine lv_isub hx hb dX11_log_73 ?_
          obtain ⟨_, g31, hf⟩ := Option.bind_eq_some_iff.mp hf
          obtain ⟨v27, h28, e29, z30, hf⟩ := cN_spec hf
          refine k_Vi (As := [.int ((v25 - 1) - x1)]) (rest := []) X I (c_X1_canesOn l g v21 ((v25 - 1) - x1) e29) z30 g31 vk_TrapCorner_234 tw_824 ⟨Nat.le_trans (by decide) hR.1, Nat.le_trans (by decide) hR.2⟩ ⟨Nat.zero_le _, Nat.zero_le _⟩ rfl hl.1 rfl (Nat.le_of_ble_eq_true rfl) dX11_log_74 (fun H locs I => ?_)
          cases hf
          exact k_ri X I hr dX11_log_77
        · rw [if_neg c20] at hf
          by_cases c32 : x2 = 2
          · rw [if_pos c32] at hf
            refine lv_tableIn (tgt := 78) hx hb dX11_log_15 (by rw [c32]; decide) (by rw [c32]; decide) (by rw [c32]; rfl) (by decide) ?_
            refine lv_aload_n hx hb dX11_log_78 rfl (lv_at hl 0 rfl) ?_
            obtain ⟨v33, e34, hf⟩ := Option.bind_eq_some_iff.mp hf
            refine r_gR X I e34 lk_TrapCorner_59 dX11_log_79 ?_
            refine lv_aload_n hx hb dX11_log_82 rfl (lv_at hl 0 rfl) ?_
            obtain ⟨v35, e36, hf⟩ := Option.bind_eq_some_iff.mp hf
            refine r_gR X I e36 lk_TrapCorner_49 dX11_log_83 ?_
            obtain ⟨v37, e38, hf⟩ := Option.bind_eq_some_iff.mp hf
            refine r_gI X I e38 lk_TrapCorner_228 dX11_log_86 ?_
            refine lv_iconst (v := 1) hx hb dX11_log_89 (by decide) ?_
            refine lv_isub hx hb dX11_log_90 ?_
            refine lv_iload_n hx hb dX11_log_91 rfl (lv_at hl 1 rfl) ?_
            refine lv_isub hx hb dX11_log_92 ?_
            obtain ⟨_, g43, hf⟩ := Option.bind_eq_some_iff.mp hf
            obtain ⟨v39, h40, e41, z42, hf⟩ := cN_spec hf
            refine k_Vi (As := [.int ((v37 - 1) - x1)]) (rest := []) X I (c_X1_coinsOn l g v33 ((v37 - 1) - x1) e41) z42 g43 vk_TrapCorner_237 tw_828 ⟨Nat.le_trans (by decide) hR.1, Nat.le_trans (by decide) hR.2⟩ ⟨Nat.zero_le _, Nat.zero_le _⟩ rfl hl.1 rfl (Nat.le_of_ble_eq_true rfl) dX11_log_93 (fun H locs I => ?_)
            cases hf
            exact k_ri X I hr dX11_log_96
          · rw [if_neg c32] at hf
            refine lv_tableOut (tgt := 97) hx hb dX11_log_15 (sw_out (fun k k1 k2 => by rcases (show k = 0 ∨ k = 1 ∨ k = 2 by omega) with rfl | rfl | rfl <;> assumption)) (by decide) ?_
            refine lv_iconst (v := (-1)) hx hb dX11_log_97 (by decide) ?_
            cases hf
            exact k_ri X I hr dX11_log_98
    · rw [if_neg c7] at hf
      refine lv_iconst (v := (-1)) hx hb dX11_log_12 (by decide) ?_
      cases hf
      exact k_ri X I hr dX11_log_13
def f_X11_log (o0 : Nat) (x1 : Int32) (x2 : Int32) (h : AH) : Option (Int32 × AH) := f_X11_log_0 o0 x1 x2 h
end
theorem c_X11_log (l : Launch) (g : GG) (o0 : Nat) (x1 : Int32) (x2 : Int32) {h : AH} {res : Int32 × AH} (hf : f_X11_log o0 x1 x2 h = some res) : CM l g yX11_log cX11_log 3 (some (.int)) 4 256 0 0 [.ref (rfG g o0), .int x1, .int x2] h (some (.int res.1)) res.2 :=
  k_body (by decide) (Nat.le_of_ble_eq_true rfl) (fun p e s m below meth c R ls hR hr X I hl => w_X11_log_0 X ⟨Nat.le_of_eq hR.1.symm, Nat.le_of_eq hR.2.1.symm⟩ hr o0 x1 x2 h ls s.heap [] hf I (lv_sub hl [0, 1, 2] rfl))
/-! TrapCorner.count(I)I -/
theorem dX11_count_0 : decode cX11_count 0 = .ok (.iload_n 1, 1) := by decide +kernel
theorem dX11_count_1 : decode cX11_count 1 = .ok (.tableswitch 153 0 12 #[67, 75, 83, 88, 93, 101, 106, 114, 119, 127, 132, 140, 145], 67) := by decide +kernel
theorem dX11_count_68 : decode cX11_count 68 = .ok (.aload_n 0, 1) := by decide +kernel
theorem dX11_count_69 : decode cX11_count 69 = .ok (.getfield 42, 3) := by decide +kernel
theorem dX11_count_72 : decode cX11_count 72 = .ok (.getfield 156, 3) := by decide +kernel
theorem dX11_count_75 : decode cX11_count 75 = .ok (.ireturn, 1) := by decide +kernel
theorem dX11_count_76 : decode cX11_count 76 = .ok (.aload_n 0, 1) := by decide +kernel
theorem dX11_count_77 : decode cX11_count 77 = .ok (.getfield 42, 3) := by decide +kernel
theorem dX11_count_80 : decode cX11_count 80 = .ok (.getfield 253, 3) := by decide +kernel
theorem dX11_count_83 : decode cX11_count 83 = .ok (.ireturn, 1) := by decide +kernel
theorem dX11_count_84 : decode cX11_count 84 = .ok (.aload_n 0, 1) := by decide +kernel
theorem dX11_count_85 : decode cX11_count 85 = .ok (.getfield 159, 3) := by decide +kernel
theorem dX11_count_88 : decode cX11_count 88 = .ok (.ireturn, 1) := by decide +kernel
theorem dX11_count_89 : decode cX11_count 89 = .ok (.aload_n 0, 1) := by decide +kernel
theorem dX11_count_90 : decode cX11_count 90 = .ok (.getfield 166, 3) := by decide +kernel
theorem dX11_count_93 : decode cX11_count 93 = .ok (.ireturn, 1) := by decide +kernel
theorem dX11_count_94 : decode cX11_count 94 = .ok (.aload_n 0, 1) := by decide +kernel
theorem dX11_count_95 : decode cX11_count 95 = .ok (.getfield 10, 3) := by decide +kernel
theorem dX11_count_98 : decode cX11_count 98 = .ok (.getfield 109, 3) := by decide +kernel
theorem dX11_count_101 : decode cX11_count 101 = .ok (.ireturn, 1) := by decide +kernel
theorem dX11_count_102 : decode cX11_count 102 = .ok (.aload_n 0, 1) := by decide +kernel
theorem dX11_count_103 : decode cX11_count 103 = .ok (.getfield 98, 3) := by decide +kernel
theorem dX11_count_106 : decode cX11_count 106 = .ok (.ireturn, 1) := by decide +kernel
theorem dX11_count_107 : decode cX11_count 107 = .ok (.aload_n 0, 1) := by decide +kernel
theorem dX11_count_108 : decode cX11_count 108 = .ok (.getfield 49, 3) := by decide +kernel
theorem dX11_count_111 : decode cX11_count 111 = .ok (.getfield 228, 3) := by decide +kernel
theorem dX11_count_114 : decode cX11_count 114 = .ok (.ireturn, 1) := by decide +kernel
theorem dX11_count_115 : decode cX11_count 115 = .ok (.aload_n 0, 1) := by decide +kernel
theorem dX11_count_116 : decode cX11_count 116 = .ok (.invokevirtual 256, 3) := by decide +kernel
theorem dX11_count_119 : decode cX11_count 119 = .ok (.ireturn, 1) := by decide +kernel
theorem dX11_count_120 : decode cX11_count 120 = .ok (.aload_n 0, 1) := by decide +kernel
theorem dX11_count_121 : decode cX11_count 121 = .ok (.getfield 49, 3) := by decide +kernel
theorem dX11_count_124 : decode cX11_count 124 = .ok (.getfield 259, 3) := by decide +kernel
theorem dX11_count_127 : decode cX11_count 127 = .ok (.ireturn, 1) := by decide +kernel
theorem dX11_count_128 : decode cX11_count 128 = .ok (.aload_n 0, 1) := by decide +kernel
theorem dX11_count_129 : decode cX11_count 129 = .ok (.getfield 102, 3) := by decide +kernel
theorem dX11_count_132 : decode cX11_count 132 = .ok (.ireturn, 1) := by decide +kernel
theorem dX11_count_133 : decode cX11_count 133 = .ok (.aload_n 0, 1) := by decide +kernel
theorem dX11_count_134 : decode cX11_count 134 = .ok (.getfield 82, 3) := by decide +kernel
theorem dX11_count_137 : decode cX11_count 137 = .ok (.getfield 262, 3) := by decide +kernel
theorem dX11_count_140 : decode cX11_count 140 = .ok (.ireturn, 1) := by decide +kernel
theorem dX11_count_141 : decode cX11_count 141 = .ok (.aload_n 0, 1) := by decide +kernel
theorem dX11_count_142 : decode cX11_count 142 = .ok (.invokevirtual 225, 3) := by decide +kernel
theorem dX11_count_145 : decode cX11_count 145 = .ok (.ireturn, 1) := by decide +kernel
theorem dX11_count_146 : decode cX11_count 146 = .ok (.aload_n 0, 1) := by decide +kernel
theorem dX11_count_147 : decode cX11_count 147 = .ok (.getfield 59, 3) := by decide +kernel
theorem dX11_count_150 : decode cX11_count 150 = .ok (.getfield 265, 3) := by decide +kernel
theorem dX11_count_153 : decode cX11_count 153 = .ok (.ireturn, 1) := by decide +kernel
theorem dX11_count_154 : decode cX11_count 154 = .ok (.ldc 243, 2) := by decide +kernel
theorem dX11_count_156 : decode cX11_count 156 = .ok (.ireturn, 1) := by decide +kernel
theorem lk_TrapCorner_98 : LK "TrapCorner" 98 [11] 16 := by
  intro ci hci
  have hci := List.mem_singleton.mp hci
  subst hci
  exact ⟨RX11, TX11, 19, "TrapCorner", ck_11, by decide, tw_381, Or.inl rfl⟩
theorem vk_TrapCorner_256 : VK "TrapCorner" 256 [11] yX11_timesOfAll 0 := ⟨tw_851, tw_853, tw_1, ⟨by decide, by decide⟩, by decide +kernel, fun ci hci => by
  have hci := List.mem_singleton.mp hci
  subst hci
  exact ⟨_, rfl, tp_22⟩⟩
theorem lk_TrapCorner_259 : LK "TrapCorner" 259 [8] 5 := by
  intro ci hci
  have hci := List.mem_singleton.mp hci
  subst hci
  exact ⟨RX8, TX8, 8, "TrapCorner$State", ck_8, by decide, tw_217, Or.inl rfl⟩
theorem lk_TrapCorner_262 : LK "TrapCorner" 262 [7] 6 := by
  intro ci hci
  have hci := List.mem_singleton.mp hci
  subst hci
  exact ⟨RX7, TX7, 9, "TrapCorner$Sightings", ck_7, by decide, tw_338, Or.inl rfl⟩
section
variable {g : GG} {p : Program} {l : Launch} {e : Env} {R : Room} {s : State} {m : MethodId} {args : Array Value} {below : List Frame} {meth : Method} {c : Code} {n0 z0 : Nat}
def f_X11_count_0  (o0 : Nat) (x1 : Int32) (h : AH) : Option (Int32 × AH) :=
  if x1 = 0 then
    (gR [11] h o0 4).bind fun v2 =>
    (gI [10] h v2 1).bind fun v4 =>
    some (v4, h)
  else
    if x1 = 1 then
      (gR [11] h o0 4).bind fun v7 =>
      (gI [10] h v7 0).bind fun v9 =>
      some (v9, h)
    else
      if x1 = 2 then
        (gI [11] h o0 14).bind fun v12 =>
        some (v12, h)
      else
        if x1 = 3 then
          (gI [11] h o0 15).bind fun v15 =>
          some (v15, h)
        else
          if x1 = 4 then
            (gR [11] h o0 0).bind fun v18 =>
            (gI [9] h v18 1).bind fun v20 =>
            some (v20, h)
          else
            if x1 = 5 then
              (gI [11] h o0 16).bind fun v23 =>
              some (v23, h)
            else
              if x1 = 6 then
                (gR [11] h o0 5).bind fun v26 =>
                (gI [8] h v26 7).bind fun v28 =>
                some (v28, h)
              else
                if x1 = 7 then
                  (isC [11] h o0).bind fun _ =>
                  cN (f_X11_timesOfAll o0 h) h fun v31 h32 =>
                  some (v31, h32)
                else
                  if x1 = 8 then
                    (gR [11] h o0 5).bind fun v37 =>
                    (gI [8] h v37 5).bind fun v39 =>
                    some (v39, h)
                  else
                    if x1 = 9 then
                      (gI [11] h o0 17).bind fun v42 =>
                      some (v42, h)
                    else
                      if x1 = 10 then
                        (gR [11] h o0 10).bind fun v45 =>
                        (gI [7] h v45 6).bind fun v47 =>
                        some (v47, h)
                      else
                        if x1 = 11 then
                          (isC [11] h o0).bind fun _ =>
                          cN (f_X11_rowsKept o0 h) h fun v50 h51 =>
                          some (v50, h51)
                        else
                          if x1 = 12 then
                            (gR [11] h o0 7).bind fun v56 =>
                            (gI [1] h v56 2).bind fun v58 =>
                            some (v58, h)
                          else
                            some ((-1000000), h)
set_option maxHeartbeats 1000000 in
theorem w_X11_count_0 (X : Cx g p s m args meth c cX11_count 2 "TrapCorner") (hR : 3 ≤ R.frames ∧ 192 ≤ R.locals) (hr : meth.sig.returnType = (some (.int))) {res : Int32 × AH} : ∀ (o0 : Nat) (x1 : Int32) (h : AH) (ls : Array Slot) (H : Heap) (locs : List Loc), f_X11_count_0 o0 x1 h = some res → Iv g s n0 z0 h H locs 0 0 → lv_has ls 2 [(0, .ref (rfG g o0)), (1, .int x1)] → W p l e R s m args below meth c H locs 0 0 (MQ below (QG g (some (.int res.1)) res.2) args s 0 0 (AG g)) (F0 m 0 ls []) := by
  have hx := X.1
  have hb := X.2.1
  intro o0 x1 h ls H locs hf I hl
  unfold f_X11_count_0 at hf
  refine lv_iload_n hx hb dX11_count_0 rfl (lv_at hl 1 rfl) ?_
  by_cases c1 : x1 = 0
  · rw [if_pos c1] at hf
    refine lv_tableIn (tgt := 68) hx hb dX11_count_1 (by rw [c1]; decide) (by rw [c1]; decide) (by rw [c1]; rfl) (by decide) ?_
    refine lv_aload_n hx hb dX11_count_68 rfl (lv_at hl 0 rfl) ?_
    obtain ⟨v2, e3, hf⟩ := Option.bind_eq_some_iff.mp hf
    refine r_gR X I e3 lk_TrapCorner_42 dX11_count_69 ?_
    obtain ⟨v4, e5, hf⟩ := Option.bind_eq_some_iff.mp hf
    refine r_gI X I e5 lk_TrapCorner_156 dX11_count_72 ?_
    cases hf
    exact k_ri X I hr dX11_count_75
  · rw [if_neg c1] at hf
    by_cases c6 : x1 = 1
    · rw [if_pos c6] at hf
      refine lv_tableIn (tgt := 76) hx hb dX11_count_1 (by rw [c6]; decide) (by rw [c6]; decide) (by rw [c6]; rfl) (by decide) ?_
      refine lv_aload_n hx hb dX11_count_76 rfl (lv_at hl 0 rfl) ?_
      obtain ⟨v7, e8, hf⟩ := Option.bind_eq_some_iff.mp hf
      refine r_gR X I e8 lk_TrapCorner_42 dX11_count_77 ?_
      obtain ⟨v9, e10, hf⟩ := Option.bind_eq_some_iff.mp hf
      refine r_gI X I e10 lk_TrapCorner_253 dX11_count_80 ?_
      cases hf
      exact k_ri X I hr dX11_count_83
    · rw [if_neg c6] at hf
      by_cases c11 : x1 = 2
      · rw [if_pos c11] at hf
        refine lv_tableIn (tgt := 84) hx hb dX11_count_1 (by rw [c11]; decide) (by rw [c11]; decide) (by rw [c11]; rfl) (by decide) ?_
        refine lv_aload_n hx hb dX11_count_84 rfl (lv_at hl 0 rfl) ?_
        obtain ⟨v12, e13, hf⟩ := Option.bind_eq_some_iff.mp hf
        refine r_gI X I e13 lk_TrapCorner_159 dX11_count_85 ?_
        cases hf
        exact k_ri X I hr dX11_count_88
      · rw [if_neg c11] at hf
        by_cases c14 : x1 = 3
        · rw [if_pos c14] at hf
          refine lv_tableIn (tgt := 89) hx hb dX11_count_1 (by rw [c14]; decide) (by rw [c14]; decide) (by rw [c14]; rfl) (by decide) ?_
          refine lv_aload_n hx hb dX11_count_89 rfl (lv_at hl 0 rfl) ?_
          obtain ⟨v15, e16, hf⟩ := Option.bind_eq_some_iff.mp hf
          refine r_gI X I e16 lk_TrapCorner_166 dX11_count_90 ?_
          cases hf
          exact k_ri X I hr dX11_count_93
        · rw [if_neg c14] at hf
          by_cases c17 : x1 = 4
          · rw [if_pos c17] at hf
            refine lv_tableIn (tgt := 94) hx hb dX11_count_1 (by rw [c17]; decide) (by rw [c17]; decide) (by rw [c17]; rfl) (by decide) ?_
            refine lv_aload_n hx hb dX11_count_94 rfl (lv_at hl 0 rfl) ?_
            obtain ⟨v18, e19, hf⟩ := Option.bind_eq_some_iff.mp hf
            refine r_gR X I e19 lk_TrapCorner_10 dX11_count_95 ?_
            obtain ⟨v20, e21, hf⟩ := Option.bind_eq_some_iff.mp hf
            refine r_gI X I e21 lk_TrapCorner_109 dX11_count_98 ?_
            cases hf
            exact k_ri X I hr dX11_count_101
          · rw [if_neg c17] at hf
            by_cases c22 : x1 = 5
            · rw [if_pos c22] at hf
              refine lv_tableIn (tgt := 102) hx hb dX11_count_1 (by rw [c22]; decide) (by rw [c22]; decide) (by rw [c22]; rfl) (by decide) ?_
              refine lv_aload_n hx hb dX11_count_102 rfl (lv_at hl 0 rfl) ?_
              obtain ⟨v23, e24, hf⟩ := Option.bind_eq_some_iff.mp hf
              refine r_gI X I e24 lk_TrapCorner_98 dX11_count_103 ?_
              cases hf
              exact k_ri X I hr dX11_count_106
            · rw [if_neg c22] at hf
              by_cases c25 : x1 = 6
              · rw [if_pos c25] at hf
                refine lv_tableIn (tgt := 107) hx hb dX11_count_1 (by rw [c25]; decide) (by rw [c25]; decide) (by rw [c25]; rfl) (by decide) ?_
                refine lv_aload_n hx hb dX11_count_107 rfl (lv_at hl 0 rfl) ?_
                obtain ⟨v26, e27, hf⟩ := Option.bind_eq_some_iff.mp hf
                refine r_gR X I e27 lk_TrapCorner_49 dX11_count_108 ?_
                obtain ⟨v28, e29, hf⟩ := Option.bind_eq_some_iff.mp hf
                refine r_gI X I e29 lk_TrapCorner_228 dX11_count_111 ?_
                cases hf
                exact k_ri X I hr dX11_count_114
              · rw [if_neg c25] at hf
                by_cases c30 : x1 = 7
                · rw [if_pos c30] at hf
                  refine lv_tableIn (tgt := 115) hx hb dX11_count_1 (by rw [c30]; decide) (by rw [c30]; decide) (by rw [c30]; rfl) (by decide) ?_
                  refine lv_aload_n hx hb dX11_count_115 rfl (lv_at hl 0 rfl) ?_
                  obtain ⟨_, g35, hf⟩ := Option.bind_eq_some_iff.mp hf
                  obtain ⟨v31, h32, e33, z34, hf⟩ := cN_spec hf
                  refine k_Vi (As := []) (rest := []) X I (c_X11_timesOfAll l g o0 e33) z34 g35 vk_TrapCorner_256 tw_854 ⟨Nat.le_trans (by decide) hR.1, Nat.le_trans (by decide) hR.2⟩ ⟨Nat.zero_le _, Nat.zero_le _⟩ rfl hl.1 rfl (Nat.le_of_ble_eq_true rfl) dX11_count_116 (fun H locs I => ?_)
                  cases hf
                  exact k_ri X I hr dX11_count_119
                · rw [if_neg c30] at hf
                  by_cases c36 : x1 = 8
                  · rw [if_pos c36] at hf
                    refine lv_tableIn (tgt := 120) hx hb dX11_count_1 (by rw [c36]; decide) (by rw [c36]; decide) (by rw [c36]; rfl) (by decide) ?_
                    refine lv_aload_n hx hb dX11_count_120 rfl (lv_at hl 0 rfl) ?_
                    obtain ⟨v37, e38, hf⟩ := Option.bind_eq_some_iff.mp hf
                    refine r_gR X I e38 lk_TrapCorner_49 dX11_count_121 ?_
                    obtain ⟨v39, e40, hf⟩ := Option.bind_eq_some_iff.mp hf
                    refine r_gI X I e40 lk_TrapCorner_259 dX11_count_124 ?_
                    cases hf
                    exact k_ri X I hr dX11_count_127
                  · rw [if_neg c36] at hf
                    by_cases c41 : x1 = 9
                    · rw [if_pos c41] at hf
                      refine lv_tableIn (tgt := 128) hx hb dX11_count_1 (by rw [c41]; decide) (by rw [c41]; decide) (by rw [c41]; rfl) (by decide) ?_
                      refine lv_aload_n hx hb dX11_count_128 rfl (lv_at hl 0 rfl) ?_
                      obtain ⟨v42, e43, hf⟩ := Option.bind_eq_some_iff.mp hf
                      refine r_gI X I e43 lk_TrapCorner_102 dX11_count_129 ?_
                      cases hf
                      exact k_ri X I hr dX11_count_132
                    · rw [if_neg c41] at hf
                      by_cases c44 : x1 = 10
                      · rw [if_pos c44] at hf
                        refine lv_tableIn (tgt := 133) hx hb dX11_count_1 (by rw [c44]; decide) (by rw [c44]; decide) (by rw [c44]; rfl) (by decide) ?_
                        refine lv_aload_n hx hb dX11_count_133 rfl (lv_at hl 0 rfl) ?_
                        obtain ⟨v45, e46, hf⟩ := Option.bind_eq_some_iff.mp hf
                        refine r_gR X I e46 lk_TrapCorner_82 dX11_count_134 ?_
                        obtain ⟨v47, e48, hf⟩ := Option.bind_eq_some_iff.mp hf
                        refine r_gI X I e48 lk_TrapCorner_262 dX11_count_137 ?_
                        cases hf
                        exact k_ri X I hr dX11_count_140
                      · rw [if_neg c44] at hf
                        by_cases c49 : x1 = 11
                        · rw [if_pos c49] at hf
                          refine lv_tableIn (tgt := 141) hx hb dX11_count_1 (by rw [c49]; decide) (by rw [c49]; decide) (by rw [c49]; rfl) (by decide) ?_
                          refine lv_aload_n hx hb dX11_count_141 rfl (lv_at hl 0 rfl) ?_
                          obtain ⟨_, g54, hf⟩ := Option.bind_eq_some_iff.mp hf
                          obtain ⟨v50, h51, e52, z53, hf⟩ := cN_spec hf
                          refine k_Vi (As := []) (rest := []) X I (c_X11_rowsKept l g o0 e52) z53 g54 vk_TrapCorner_225 tw_809 ⟨Nat.le_trans (by decide) hR.1, Nat.le_trans (by decide) hR.2⟩ ⟨Nat.zero_le _, Nat.zero_le _⟩ rfl hl.1 rfl (Nat.le_of_ble_eq_true rfl) dX11_count_142 (fun H locs I => ?_)
                          cases hf
                          exact k_ri X I hr dX11_count_145
                        · rw [if_neg c49] at hf
                          by_cases c55 : x1 = 12
                          · rw [if_pos c55] at hf
                            refine lv_tableIn (tgt := 146) hx hb dX11_count_1 (by rw [c55]; decide) (by rw [c55]; decide) (by rw [c55]; rfl) (by decide) ?_
                            refine lv_aload_n hx hb dX11_count_146 rfl (lv_at hl 0 rfl) ?_
                            obtain ⟨v56, e57, hf⟩ := Option.bind_eq_some_iff.mp hf
                            refine r_gR X I e57 lk_TrapCorner_59 dX11_count_147 ?_
                            obtain ⟨v58, e59, hf⟩ := Option.bind_eq_some_iff.mp hf
                            refine r_gI X I e59 lk_TrapCorner_265 dX11_count_150 ?_
                            cases hf
                            exact k_ri X I hr dX11_count_153
                          · rw [if_neg c55] at hf
                            refine lv_tableOut (tgt := 154) hx hb dX11_count_1 (sw_out (fun k k1 k2 => by rcases (show k = 0 ∨ k = 1 ∨ k = 2 ∨ k = 3 ∨ k = 4 ∨ k = 5 ∨ k = 6 ∨ k = 7 ∨ k = 8 ∨ k = 9 ∨ k = 10 ∨ k = 11 ∨ k = 12 by omega) with rfl | rfl | rfl | rfl | rfl | rfl | rfl | rfl | rfl | rfl | rfl | rfl | rfl <;> assumption)) (by decide) ?_
                            refine lv_ldc (v := (-1000000)) hx hb X.2.2.2.1 (X.2.2.2.2.1 _ tw_837) dX11_count_154 ?_
                            cases hf
                            exact k_ri X I hr dX11_count_156
def f_X11_count (o0 : Nat) (x1 : Int32) (h : AH) : Option (Int32 × AH) := f_X11_count_0 o0 x1 h
end
theorem c_X11_count (l : Launch) (g : GG) (o0 : Nat) (x1 : Int32) {h : AH} {res : Int32 × AH} (hf : f_X11_count o0 x1 h = some res) : CM l g yX11_count cX11_count 2 (some (.int)) 3 192 0 0 [.ref (rfG g o0), .int x1] h (some (.int res.1)) res.2 :=
  k_body (by decide) (Nat.le_of_ble_eq_true rfl) (fun p e s m below meth c R ls hR hr X I hl => w_X11_count_0 X ⟨Nat.le_of_eq hR.1.symm, Nat.le_of_eq hR.2.1.symm⟩ hr o0 x1 h ls s.heap [] hf I (lv_sub hl [0, 1] rfl))
/-! TrapCorner.writeRow()V -/
theorem dX11_writeRow_0 : decode cX11_writeRow 0 = .ok (.aload_n 0, 1) := by decide +kernel
theorem dX11_writeRow_1 : decode cX11_writeRow 1 = .ok (.getfield 59, 3) := by decide +kernel
theorem dX11_writeRow_4 : decode cX11_writeRow 4 = .ok (.aload_n 0, 1) := by decide +kernel
theorem dX11_writeRow_5 : decode cX11_writeRow 5 = .ok (.getfield 49, 3) := by decide +kernel
theorem dX11_writeRow_8 : decode cX11_writeRow 8 = .ok (.getfield 228, 3) := by decide +kernel
theorem dX11_writeRow_11 : decode cX11_writeRow 11 = .ok (.iconst 1, 1) := by decide +kernel
theorem dX11_writeRow_12 : decode cX11_writeRow 12 = .ok (.isub, 1) := by decide +kernel
theorem dX11_writeRow_13 : decode cX11_writeRow 13 = .ok (.aload_n 0, 1) := by decide +kernel
theorem dX11_writeRow_14 : decode cX11_writeRow 14 = .ok (.getfield 75, 3) := by decide +kernel
theorem dX11_writeRow_17 : decode cX11_writeRow 17 = .ok (.getfield 284, 3) := by decide +kernel
theorem dX11_writeRow_20 : decode cX11_writeRow 20 = .ok (.aload_n 0, 1) := by decide +kernel
theorem dX11_writeRow_21 : decode cX11_writeRow 21 = .ok (.getfield 75, 3) := by decide +kernel
theorem dX11_writeRow_24 : decode cX11_writeRow 24 = .ok (.getfield 330, 3) := by decide +kernel
theorem dX11_writeRow_27 : decode cX11_writeRow 27 = .ok (.aload_n 0, 1) := by decide +kernel
theorem dX11_writeRow_28 : decode cX11_writeRow 28 = .ok (.getfield 49, 3) := by decide +kernel
theorem dX11_writeRow_31 : decode cX11_writeRow 31 = .ok (.getfield 178, 3) := by decide +kernel
theorem dX11_writeRow_34 : decode cX11_writeRow 34 = .ok (.invokevirtual 333, 3) := by decide +kernel
theorem dX11_writeRow_37 : decode cX11_writeRow 37 = .ok (.return_, 1) := by decide +kernel
theorem lk_TrapCorner_75 : LK "TrapCorner" 75 [11] 9 := by
  intro ci hci
  have hci := List.mem_singleton.mp hci
  subst hci
  exact ⟨RX11, TX11, 19, "TrapCorner", ck_11, by decide, tw_374, Or.inl rfl⟩
theorem lk_TrapCorner_284 : LK "TrapCorner" 284 [6] 3 := by
  intro ci hci
  have hci := List.mem_singleton.mp hci
  subst hci
  exact ⟨RX6, TX6, 7, "TrapCorner$Round", ck_6, by decide, tw_305, Or.inl rfl⟩
theorem lk_TrapCorner_330 : LK "TrapCorner" 330 [6] 4 := by
  intro ci hci
  have hci := List.mem_singleton.mp hci
  subst hci
  exact ⟨RX6, TX6, 7, "TrapCorner$Round", ck_6, by decide, tw_307, Or.inl rfl⟩
theorem vk_TrapCorner_333 : VK "TrapCorner" 333 [1] yX1_write 4 := ⟨tw_951, tw_952, tw_9, ⟨by decide, by decide⟩, by decide +kernel, fun ci hci => by
  have hci := List.mem_singleton.mp hci
  subst hci
  exact ⟨_, rfl, tw_953⟩⟩
section
variable {g : GG} {p : Program} {l : Launch} {e : Env} {R : Room} {s : State} {m : MethodId} {args : Array Value} {below : List Frame} {meth : Method} {c : Code} {n0 z0 : Nat}
def f_X11_writeRow_0  (o0 : Nat) (h : AH) : Option (Unit × AH) :=
  (gR [11] h o0 7).bind fun v1 =>
  (gR [11] h o0 5).bind fun v3 =>
  (gI [8] h v3 7).bind fun v5 =>
  (gR [11] h o0 9).bind fun v7 =>
  (gI [6] h v7 3).bind fun v9 =>
  (gR [11] h o0 9).bind fun v11 =>
  (gI [6] h v11 4).bind fun v13 =>
  (gR [11] h o0 5).bind fun v15 =>
  (gI [8] h v15 6).bind fun v17 =>
  (isC [1] h v1).bind fun _ =>
  cN (f_X1_write v1 (v5 - 1) v9 v13 v17 h) h fun _ h20 =>
  some ((), h20)
set_option maxHeartbeats 1000000 in
theorem w_X11_writeRow_0 (X : Cx g p s m args meth c cX11_writeRow 1 "TrapCorner") (hR : 4 ≤ R.frames ∧ 256 ≤ R.locals) (hr : meth.sig.returnType = none) {res : Unit × AH} : ∀ (o0 : Nat) (h : AH) (ls : Array Slot) (H : Heap) (locs : List Loc), f_X11_writeRow_0 o0 h = some res → Iv g s n0 z0 h H locs 0 0 → lv_has ls 1 [(0, .ref (rfG g o0))] → W p l e R s m args below meth c H locs 0 0 (MQ below (QG g none res.2) args s 0 0 (AG g)) (F0 m 0 ls []) := by
  have hx := X.1
  have hb := X.2.1
  intro o0 h ls H locs hf I hl
  unfold f_X11_writeRow_0 at hf
  refine lv_aload_n hx hb dX11_writeRow_0 rfl (lv_at hl 0 rfl) ?_
  obtain ⟨v1, e2, hf⟩ := Option.bind_eq_some_iff.mp hf
  refine r_gR X I e2 lk_TrapCorner_59 dX11_writeRow_1 ?_
  refine lv_aload_n hx hb dX11_writeRow_4 rfl (lv_at hl 0 rfl) ?_
  obtain ⟨v3, e4, hf⟩ := Option.bind_eq_some_iff.mp hf
  refine r_gR X I e4 lk_TrapCorner_49 dX11_writeRow_5 ?_
  obtain ⟨v5, e6, hf⟩ := Option.bind_eq_some_iff.mp hf
  refine r_gI X I e6 lk_TrapCorner_228 dX11_writeRow_8 ?_
  refine lv_iconst (v := 1) hx hb dX11_writeRow_11 (by decide) ?_
  refine lv_isub hx hb dX11_writeRow_12 ?_
  refine lv_aload_n hx hb dX11_writeRow_13 rfl (lv_at hl 0 rfl) ?_
  obtain ⟨v7, e8, hf⟩ := Option.bind_eq_some_iff.mp hf
  refine r_gR X I e8 lk_TrapCorner_75 dX11_writeRow_14 ?_
  obtain ⟨v9, e10, hf⟩ := Option.bind_eq_some_iff.mp hf
  refine r_gI X I e10 lk_TrapCorner_284 dX11_writeRow_17 ?_
  refine lv_aload_n hx hb dX11_writeRow_20 rfl (lv_at hl 0 rfl) ?_
  obtain ⟨v11, e12, hf⟩ := Option.bind_eq_some_iff.mp hf
  refine r_gR X I e12 lk_TrapCorner_75 dX11_writeRow_21 ?_
  obtain ⟨v13, e14, hf⟩ := Option.bind_eq_some_iff.mp hf
  refine r_gI X I e14 lk_TrapCorner_330 dX11_writeRow_24 ?_
  refine lv_aload_n hx hb dX11_writeRow_27 rfl (lv_at hl 0 rfl) ?_
  obtain ⟨v15, e16, hf⟩ := Option.bind_eq_some_iff.mp hf
  refine r_gR X I e16 lk_TrapCorner_49 dX11_writeRow_28 ?_
  obtain ⟨v17, e18, hf⟩ := Option.bind_eq_some_iff.mp hf
  refine r_gI X I e18 lk_TrapCorner_178 dX11_writeRow_31 ?_
  obtain ⟨_, g23, hf⟩ := Option.bind_eq_some_iff.mp hf
  obtain ⟨⟨⟩, h20, e21, z22, hf⟩ := cN_spec hf
  refine k_Vv (As := [.int (v5 - 1), .int v9, .int v13, .int v17]) (rest := []) X I (c_X1_write l g v1 (v5 - 1) v9 v13 v17 e21) z22 g23 vk_TrapCorner_333 tw_954 ⟨Nat.le_trans (by decide) hR.1, Nat.le_trans (by decide) hR.2⟩ ⟨Nat.zero_le _, Nat.zero_le _⟩ rfl hl.1 rfl (Nat.le_of_ble_eq_true rfl) dX11_writeRow_34 (fun H locs I => ?_)
  cases hf
  exact k_rv X I hr dX11_writeRow_37
def f_X11_writeRow (o0 : Nat) (h : AH) : Option (Unit × AH) := f_X11_writeRow_0 o0 h
end
theorem c_X11_writeRow (l : Launch) (g : GG) (o0 : Nat) {h : AH} {res : Unit × AH} (hf : f_X11_writeRow o0 h = some res) : CM l g yX11_writeRow cX11_writeRow 1 none 4 256 0 0 [.ref (rfG g o0)] h none res.2 :=
  k_body (by decide) (Nat.le_of_ble_eq_true rfl) (fun p e s m below meth c R ls hR hr X I hl => w_X11_writeRow_0 X ⟨Nat.le_of_eq hR.1.symm, Nat.le_of_eq hR.2.1.symm⟩ hr o0 h ls s.heap [] hf I (lv_sub hl [0] rfl))
/-! TrapCorner.pullBySpring(III)I -/
theorem dX11_pullBySpring_0 : decode cX11_pullBySpring 0 = .ok (.aload_n 0, 1) := by decide +kernel
theorem dX11_pullBySpring_1 : decode cX11_pullBySpring 1 = .ok (.getfield 49, 3) := by decide +kernel
theorem dX11_pullBySpring_4 : decode cX11_pullBySpring 4 = .ok (.getfield 188, 3) := by decide +kernel
theorem dX11_pullBySpring_7 : decode cX11_pullBySpring 7 = .ok (.iload_n 2, 1) := by decide +kernel
theorem dX11_pullBySpring_8 : decode cX11_pullBySpring 8 = .ok (.iaload, 1) := by decide +kernel
theorem dX11_pullBySpring_9 : decode cX11_pullBySpring 9 = .ok (.aload_n 0, 1) := by decide +kernel
theorem dX11_pullBySpring_10 : decode cX11_pullBySpring 10 = .ok (.getfield 42, 3) := by decide +kernel
theorem dX11_pullBySpring_13 : decode cX11_pullBySpring 13 = .ok (.getfield 204, 3) := by decide +kernel
theorem dX11_pullBySpring_16 : decode cX11_pullBySpring 16 = .ok (.iload_n 1, 1) := by decide +kernel
theorem dX11_pullBySpring_17 : decode cX11_pullBySpring 17 = .ok (.iaload, 1) := by decide +kernel
theorem dX11_pullBySpring_18 : decode cX11_pullBySpring 18 = .ok (.if_icmp .ne 7, 3) := by decide +kernel
theorem dX11_pullBySpring_21 : decode cX11_pullBySpring 21 = .ok (.iconst 1, 1) := by decide +kernel
theorem dX11_pullBySpring_22 : decode cX11_pullBySpring 22 = .ok (.goto 4, 3) := by decide +kernel
theorem dX11_pullBySpring_25 : decode cX11_pullBySpring 25 = .ok (.iconst 0, 1) := by decide +kernel
theorem dX11_pullBySpring_26 : decode cX11_pullBySpring 26 = .ok (.istore 4, 2) := by decide +kernel
theorem dX11_pullBySpring_28 : decode cX11_pullBySpring 28 = .ok (.aload_n 0, 1) := by decide +kernel
theorem dX11_pullBySpring_29 : decode cX11_pullBySpring 29 = .ok (.getfield 66, 3) := by decide +kernel
theorem dX11_pullBySpring_32 : decode cX11_pullBySpring 32 = .ok (.iload 4, 2) := by decide +kernel
theorem dX11_pullBySpring_34 : decode cX11_pullBySpring 34 = .ok (.aload_n 0, 1) := by decide +kernel
theorem dX11_pullBySpring_35 : decode cX11_pullBySpring 35 = .ok (.getfield 42, 3) := by decide +kernel
theorem dX11_pullBySpring_38 : decode cX11_pullBySpring 38 = .ok (.getfield 207, 3) := by decide +kernel
theorem dX11_pullBySpring_41 : decode cX11_pullBySpring 41 = .ok (.iload_n 1, 1) := by decide +kernel
theorem dX11_pullBySpring_42 : decode cX11_pullBySpring 42 = .ok (.iaload, 1) := by decide +kernel
theorem dX11_pullBySpring_43 : decode cX11_pullBySpring 43 = .ok (.aload_n 0, 1) := by decide +kernel
theorem dX11_pullBySpring_44 : decode cX11_pullBySpring 44 = .ok (.getfield 49, 3) := by decide +kernel
theorem dX11_pullBySpring_47 : decode cX11_pullBySpring 47 = .ok (.getfield 210, 3) := by decide +kernel
theorem dX11_pullBySpring_50 : decode cX11_pullBySpring 50 = .ok (.iload_n 1, 1) := by decide +kernel
theorem dX11_pullBySpring_51 : decode cX11_pullBySpring 51 = .ok (.iaload, 1) := by decide +kernel
theorem dX11_pullBySpring_52 : decode cX11_pullBySpring 52 = .ok (.iload_n 3, 1) := by decide +kernel
theorem dX11_pullBySpring_53 : decode cX11_pullBySpring 53 = .ok (.aload_n 0, 1) := by decide +kernel
theorem dX11_pullBySpring_54 : decode cX11_pullBySpring 54 = .ok (.getfield 49, 3) := by decide +kernel
theorem dX11_pullBySpring_57 : decode cX11_pullBySpring 57 = .ok (.getfield 222, 3) := by decide +kernel
theorem dX11_pullBySpring_60 : decode cX11_pullBySpring 60 = .ok (.iload_n 1, 1) := by decide +kernel
theorem dX11_pullBySpring_61 : decode cX11_pullBySpring 61 = .ok (.iaload, 1) := by decide +kernel
theorem dX11_pullBySpring_62 : decode cX11_pullBySpring 62 = .ok (.aload_n 0, 1) := by decide +kernel
theorem dX11_pullBySpring_63 : decode cX11_pullBySpring 63 = .ok (.getfield 49, 3) := by decide +kernel
theorem dX11_pullBySpring_66 : decode cX11_pullBySpring 66 = .ok (.getfield 228, 3) := by decide +kernel
theorem dX11_pullBySpring_69 : decode cX11_pullBySpring 69 = .ok (.invokevirtual 356, 3) := by decide +kernel
theorem dX11_pullBySpring_72 : decode cX11_pullBySpring 72 = .ok (.ireturn, 1) := by decide +kernel
theorem lk_TrapCorner_207 : LK "TrapCorner" 207 [10] 8 := by
  intro ci hci
  have hci := List.mem_singleton.mp hci
  subst hci
  exact ⟨RX10, TX10, 13, "TrapCorner$Town", ck_10, by decide, tw_93, Or.inl rfl⟩
theorem lk_TrapCorner_210 : LK "TrapCorner" 210 [8] 2 := by
  intro ci hci
  have hci := List.mem_singleton.mp hci
  subst hci
  exact ⟨RX8, TX8, 8, "TrapCorner$State", ck_8, by decide, tw_208, Or.inl rfl⟩
theorem vk_TrapCorner_356 : VK "TrapCorner" 356 [4] yX4_strength 6 := ⟨tw_1037, tw_916, tw_10, ⟨by decide, by decide⟩, by decide +kernel, fun ci hci => by
  have hci := List.mem_singleton.mp hci
  subst hci
  exact ⟨_, rfl, tw_917⟩⟩
section
variable {g : GG} {p : Program} {l : Launch} {e : Env} {R : Room} {s : State} {m : MethodId} {args : Array Value} {below : List Frame} {meth : Method} {c : Code} {n0 z0 : Nat}
def f_X11_pullBySpring_26  (o0 : Nat) (x1 : Int32) (x3 : Int32) (s0 : Int32) (h : AH) : Option (Int32 × AH) :=
  (gR [11] h o0 8).bind fun v1 =>
  (gR [11] h o0 4).bind fun v3 =>
  (gR [10] h v3 8).bind fun v5 =>
  (aI 0 h v5 x1).bind fun v7 =>
  (gR [11] h o0 5).bind fun v9 =>
  (gR [8] h v9 2).bind fun v11 =>
  (aI 0 h v11 x1).bind fun v13 =>
  (gR [11] h o0 5).bind fun v15 =>
  (gR [8] h v15 3).bind fun v17 =>
  (aI 0 h v17 x1).bind fun v19 =>
  (gR [11] h o0 5).bind fun v21 =>
  (gI [8] h v21 7).bind fun v23 =>
  (isC [4] h v1).bind fun _ =>
  cN (f_X4_strength v1 s0 v7 v13 x3 v19 v23 h) h fun v25 h26 =>
  some (v25, h26)
set_option maxHeartbeats 1000000 in
theorem w_X11_pullBySpring_26 (X : Cx g p s m args meth c cX11_pullBySpring 5 "TrapCorner") (hR : 4 ≤ R.frames ∧ 256 ≤ R.locals) (hr : meth.sig.returnType = (some (.int))) {res : Int32 × AH} : ∀ (o0 : Nat) (x1 : Int32) (x3 : Int32) (s0 : Int32) (h : AH) (ls : Array Slot) (H : Heap) (locs : List Loc), f_X11_pullBySpring_26 o0 x1 x3 s0 h = some res → Iv g s n0 z0 h H locs 0 0 → lv_has ls 5 [(0, .ref (rfG g o0)), (1, .int x1), (3, .int x3)] → W p l e R s m args below meth c H locs 0 0 (MQ below (QG g (some (.int res.1)) res.2) args s 0 0 (AG g)) (F0 m 26 ls [.int s0]) := by
  have hx := X.1
  have hb := X.2.1
  intro o0 x1 x3 s0 h ls H locs hf I hl
  unfold f_X11_pullBySpring_26 at hf
  refine lv_istore (lv' := [(4, .int s0), (0, .ref (rfG g o0)), (1, .int x1), (3, .int x3)]) hx hb dX11_pullBySpring_26 hl (by decide) rfl (fun ls hl => ?_)
  refine lv_aload_n hx hb dX11_pullBySpring_28 rfl (lv_at hl 1 rfl) ?_
  obtain ⟨v1, e2, hf⟩ := Option.bind_eq_some_iff.mp hf
  refine r_gR X I e2 lk_TrapCorner_66 dX11_pullBySpring_29 ?_
  refine lv_iload hx hb dX11_pullBySpring_32 (lv_at hl 0 rfl) ?_
  refine lv_aload_n hx hb dX11_pullBySpring_34 rfl (lv_at hl 1 rfl) ?_
  obtain ⟨v3, e4, hf⟩ := Option.bind_eq_some_iff.mp hf
  refine r_gR X I e4 lk_TrapCorner_42 dX11_pullBySpring_35 ?_
  obtain ⟨v5, e6, hf⟩ := Option.bind_eq_some_iff.mp hf
  refine r_gR X I e6 lk_TrapCorner_207 dX11_pullBySpring_38 ?_
  refine lv_iload_n hx hb dX11_pullBySpring_41 rfl (lv_at hl 2 rfl) ?_
  obtain ⟨v7, e8, hf⟩ := Option.bind_eq_some_iff.mp hf
  refine r_aI0 X I e8 dX11_pullBySpring_42 ?_
  refine lv_aload_n hx hb dX11_pullBySpring_43 rfl (lv_at hl 1 rfl) ?_
  obtain ⟨v9, e10, hf⟩ := Option.bind_eq_some_iff.mp hf
  refine r_gR X I e10 lk_TrapCorner_49 dX11_pullBySpring_44 ?_
  obtain ⟨v11, e12, hf⟩ := Option.bind_eq_some_iff.mp hf
  refine r_gR X I e12 lk_TrapCorner_210 dX11_pullBySpring_47 ?_
  refine lv_iload_n hx hb dX11_pullBySpring_50 rfl (lv_at hl 2 rfl) ?_
  obtain ⟨v13, e14, hf⟩ := Option.bind_eq_some_iff.mp hf
  refine r_aI0 X I e14 dX11_pullBySpring_51 ?_
  refine lv_iload_n hx hb dX11_pullBySpring_52 rfl (lv_at hl 3 rfl) ?_
  refine lv_aload_n hx hb dX11_pullBySpring_53 rfl (lv_at hl 1 rfl) ?_
  obtain ⟨v15, e16, hf⟩ := Option.bind_eq_some_iff.mp hf
  refine r_gR X I e16 lk_TrapCorner_49 dX11_pullBySpring_54 ?_
  obtain ⟨v17, e18, hf⟩ := Option.bind_eq_some_iff.mp hf
  refine r_gR X I e18 lk_TrapCorner_222 dX11_pullBySpring_57 ?_
  refine lv_iload_n hx hb dX11_pullBySpring_60 rfl (lv_at hl 2 rfl) ?_
  obtain ⟨v19, e20, hf⟩ := Option.bind_eq_some_iff.mp hf
  refine r_aI0 X I e20 dX11_pullBySpring_61 ?_
  refine lv_aload_n hx hb dX11_pullBySpring_62 rfl (lv_at hl 1 rfl) ?_
  obtain ⟨v21, e22, hf⟩ := Option.bind_eq_some_iff.mp hf
  refine r_gR X I e22 lk_TrapCorner_49 dX11_pullBySpring_63 ?_
  obtain ⟨v23, e24, hf⟩ := Option.bind_eq_some_iff.mp hf
  refine r_gI X I e24 lk_TrapCorner_228 dX11_pullBySpring_66 ?_
  obtain ⟨_, g29, hf⟩ := Option.bind_eq_some_iff.mp hf
  obtain ⟨v25, h26, e27, z28, hf⟩ := cN_spec hf
  refine k_Vi (As := [.int s0, .int v7, .int v13, .int x3, .int v19, .int v23]) (rest := []) X I (c_X4_strength l g v1 s0 v7 v13 x3 v19 v23 e27) z28 g29 vk_TrapCorner_356 tw_918 ⟨Nat.le_trans (by decide) hR.1, Nat.le_trans (by decide) hR.2⟩ ⟨Nat.zero_le _, Nat.zero_le _⟩ rfl hl.1 rfl (Nat.le_of_ble_eq_true rfl) dX11_pullBySpring_69 (fun H locs I => ?_)
  cases hf
  exact k_ri X I hr dX11_pullBySpring_72
def f_X11_pullBySpring_0  (o0 : Nat) (x1 : Int32) (x2 : Int32) (x3 : Int32) (h : AH) : Option (Int32 × AH) :=
  (gR [11] h o0 5).bind fun v1 =>
  (gR [8] h v1 0).bind fun v3 =>
  (aI 0 h v3 x2).bind fun v5 =>
  (gR [11] h o0 4).bind fun v7 =>
  (gR [10] h v7 7).bind fun v9 =>
  (aI 0 h v9 x1).bind fun v11 =>
  if v5 = v11 then
    f_X11_pullBySpring_26 o0 x1 x3 1 h
  else
    f_X11_pullBySpring_26 o0 x1 x3 0 h
set_option maxHeartbeats 1000000 in
theorem w_X11_pullBySpring_0 (X : Cx g p s m args meth c cX11_pullBySpring 5 "TrapCorner") (hR : 4 ≤ R.frames ∧ 256 ≤ R.locals) (hr : meth.sig.returnType = (some (.int))) {res : Int32 × AH} : ∀ (o0 : Nat) (x1 : Int32) (x2 : Int32) (x3 : Int32) (h : AH) (ls : Array Slot) (H : Heap) (locs : List Loc), f_X11_pullBySpring_0 o0 x1 x2 x3 h = some res → Iv g s n0 z0 h H locs 0 0 → lv_has ls 5 [(0, .ref (rfG g o0)), (1, .int x1), (2, .int x2), (3, .int x3)] → W p l e R s m args below meth c H locs 0 0 (MQ below (QG g (some (.int res.1)) res.2) args s 0 0 (AG g)) (F0 m 0 ls []) := by
  have hx := X.1
  have hb := X.2.1
  intro o0 x1 x2 x3 h ls H locs hf I hl
  unfold f_X11_pullBySpring_0 at hf
  refine lv_aload_n hx hb dX11_pullBySpring_0 rfl (lv_at hl 0 rfl) ?_
  obtain ⟨v1, e2, hf⟩ := Option.bind_eq_some_iff.mp hf
  refine r_gR X I e2 lk_TrapCorner_49 dX11_pullBySpring_1 ?_
  obtain ⟨v3, e4, hf⟩ := Option.bind_eq_some_iff.mp hf
  refine r_gR X I e4 lk_TrapCorner_188 dX11_pullBySpring_4 ?_
  refine lv_iload_n hx hb dX11_pullBySpring_7 rfl (lv_at hl 2 rfl) ?_
  obtain ⟨v5, e6, hf⟩ := Option.bind_eq_some_iff.mp hf
  refine r_aI0 X I e6 dX11_pullBySpring_8 ?_
  refine lv_aload_n hx hb dX11_pullBySpring_9 rfl (lv_at hl 0 rfl) ?_
  obtain ⟨v7, e8, hf⟩ := Option.bind_eq_some_iff.mp hf
  refine r_gR X I e8 lk_TrapCorner_42 dX11_pullBySpring_10 ?_
  obtain ⟨v9, e10, hf⟩ := Option.bind_eq_some_iff.mp hf
  refine r_gR X I e10 lk_TrapCorner_204 dX11_pullBySpring_13 ?_
  refine lv_iload_n hx hb dX11_pullBySpring_16 rfl (lv_at hl 1 rfl) ?_
  obtain ⟨v11, e12, hf⟩ := Option.bind_eq_some_iff.mp hf
  refine r_aI0 X I e12 dX11_pullBySpring_17 ?_
  refine lv_icmp_ne (tgt := 25) hx hb dX11_pullBySpring_18 (by decide) (fun c13 => ?_) (fun c13 => ?_)
  · rw [if_neg c13] at hf
    refine lv_iconst (v := 0) hx hb dX11_pullBySpring_25 (by decide) ?_
    exact w_X11_pullBySpring_26 X hR hr  o0 x1 x3 0 h ls H locs hf I (lv_sub hl [0, 1, 3] rfl)
  · rw [if_pos c13] at hf
    refine lv_iconst (v := 1) hx hb dX11_pullBySpring_21 (by decide) ?_
    refine lv_goto (tgt := 26) hx hb dX11_pullBySpring_22 (by decide) ?_
    exact w_X11_pullBySpring_26 X hR hr  o0 x1 x3 1 h ls H locs hf I (lv_sub hl [0, 1, 3] rfl)
def f_X11_pullBySpring (o0 : Nat) (x1 : Int32) (x2 : Int32) (x3 : Int32) (h : AH) : Option (Int32 × AH) := f_X11_pullBySpring_0 o0 x1 x2 x3 h
end
theorem c_X11_pullBySpring (l : Launch) (g : GG) (o0 : Nat) (x1 : Int32) (x2 : Int32) (x3 : Int32) {h : AH} {res : Int32 × AH} (hf : f_X11_pullBySpring o0 x1 x2 x3 h = some res) : CM l g yX11_pullBySpring cX11_pullBySpring 5 (some (.int)) 4 256 0 0 [.ref (rfG g o0), .int x1, .int x2, .int x3] h (some (.int res.1)) res.2 :=
  k_body (by decide) (Nat.le_of_ble_eq_true rfl) (fun p e s m below meth c R ls hR hr X I hl => w_X11_pullBySpring_0 X ⟨Nat.le_of_eq hR.1.symm, Nat.le_of_eq hR.2.1.symm⟩ hr o0 x1 x2 x3 h ls s.heap [] hf I (lv_sub hl [0, 1, 2, 3] rfl))
/-! TrapCorner.needs(II)I -/
theorem dX11_needs_0 : decode cX11_needs 0 = .ok (.aload_n 0, 1) := by decide +kernel
theorem dX11_needs_1 : decode cX11_needs 1 = .ok (.iload_n 1, 1) := by decide +kernel
theorem dX11_needs_2 : decode cX11_needs 2 = .ok (.invokevirtual 194, 3) := by decide +kernel
theorem dX11_needs_5 : decode cX11_needs 5 = .ok (.ifCond .eq 11, 3) := by decide +kernel
theorem dX11_needs_8 : decode cX11_needs 8 = .ok (.aload_n 0, 1) := by decide +kernel
theorem dX11_needs_9 : decode cX11_needs 9 = .ok (.iload_n 2, 1) := by decide +kernel
theorem dX11_needs_10 : decode cX11_needs 10 = .ok (.invokevirtual 184, 3) := by decide +kernel
theorem dX11_needs_13 : decode cX11_needs 13 = .ok (.ifCond .ne 5, 3) := by decide +kernel
theorem dX11_needs_16 : decode cX11_needs 16 = .ok (.iconst (-1), 1) := by decide +kernel
theorem dX11_needs_17 : decode cX11_needs 17 = .ok (.ireturn, 1) := by decide +kernel
theorem dX11_needs_18 : decode cX11_needs 18 = .ok (.iconst 0, 1) := by decide +kernel
theorem dX11_needs_19 : decode cX11_needs 19 = .ok (.istore_n 3, 1) := by decide +kernel
theorem dX11_needs_20 : decode cX11_needs 20 = .ok (.iload_n 3, 1) := by decide +kernel
theorem dX11_needs_21 : decode cX11_needs 21 = .ok (.bipush 9, 2) := by decide +kernel
theorem dX11_needs_23 : decode cX11_needs 23 = .ok (.if_icmp .gt 28, 3) := by decide +kernel
theorem dX11_needs_26 : decode cX11_needs 26 = .ok (.aload_n 0, 1) := by decide +kernel
theorem dX11_needs_27 : decode cX11_needs 27 = .ok (.iload_n 1, 1) := by decide +kernel
theorem dX11_needs_28 : decode cX11_needs 28 = .ok (.iload_n 2, 1) := by decide +kernel
theorem dX11_needs_29 : decode cX11_needs 29 = .ok (.iload_n 3, 1) := by decide +kernel
theorem dX11_needs_30 : decode cX11_needs 30 = .ok (.invokevirtual 352, 3) := by decide +kernel
theorem dX11_needs_33 : decode cX11_needs 33 = .ok (.aload_n 0, 1) := by decide +kernel
theorem dX11_needs_34 : decode cX11_needs 34 = .ok (.getfield 42, 3) := by decide +kernel
theorem dX11_needs_37 : decode cX11_needs 37 = .ok (.getfield 175, 3) := by decide +kernel
theorem dX11_needs_40 : decode cX11_needs 40 = .ok (.if_icmp .lt 5, 3) := by decide +kernel
theorem dX11_needs_43 : decode cX11_needs 43 = .ok (.iload_n 3, 1) := by decide +kernel
theorem dX11_needs_44 : decode cX11_needs 44 = .ok (.ireturn, 1) := by decide +kernel
theorem dX11_needs_45 : decode cX11_needs 45 = .ok (.iinc 3 1, 3) := by decide +kernel
theorem dX11_needs_48 : decode cX11_needs 48 = .ok (.goto (-28), 3) := by decide +kernel
theorem dX11_needs_51 : decode cX11_needs 51 = .ok (.iconst (-1), 1) := by decide +kernel
theorem dX11_needs_52 : decode cX11_needs 52 = .ok (.ireturn, 1) := by decide +kernel
theorem vk_TrapCorner_352 : VK "TrapCorner" 352 [11] yX11_pullBySpring 3 := ⟨tw_1033, tw_1035, tw_1, ⟨by decide, by decide⟩, by decide +kernel, fun ci hci => by
  have hci := List.mem_singleton.mp hci
  subst hci
  exact ⟨_, rfl, tp_34⟩⟩
section
variable {g : GG} {p : Program} {l : Launch} {e : Env} {R : Room} {s : State} {m : MethodId} {args : Array Value} {below : List Frame} {meth : Method} {c : Code} {n0 z0 : Nat}
def f_X11_needs_20  : Nat → Nat → Int32 → Int32 → Int32 → AH → Option (Int32 × AH)
  | 0, _, _, _, _, _ => none
  | n + 1, o0, x1, x2, x3, h =>
  if 9 < x3 then
    some ((-1), h)
  else
    (isC [11] h o0).bind fun _ =>
    cN (f_X11_pullBySpring o0 x1 x2 x3 h) h fun v2 h3 =>
    (gR [11] h3 o0 4).bind fun v7 =>
    (gI [10] h3 v7 2).bind fun v9 =>
    if v2 < v9 then
      f_X11_needs_20  n o0 x1 x2 (x3 + 1) h3
    else
      some (x3, h3)
set_option maxHeartbeats 1000000 in
theorem w_X11_needs_20 (X : Cx g p s m args meth c cX11_needs 4 "TrapCorner") (hR : 5 ≤ R.frames ∧ 320 ≤ R.locals) (hr : meth.sig.returnType = (some (.int))) {res : Int32 × AH} : ∀ (n : Nat) (o0 : Nat) (x1 : Int32) (x2 : Int32) (x3 : Int32) (h : AH) (ls : Array Slot) (H : Heap) (locs : List Loc), f_X11_needs_20 n o0 x1 x2 x3 h = some res → Iv g s n0 z0 h H locs 0 0 → lv_has ls 4 [(0, .ref (rfG g o0)), (1, .int x1), (2, .int x2), (3, .int x3)] → W p l e R s m args below meth c H locs 0 0 (MQ below (QG g (some (.int res.1)) res.2) args s 0 0 (AG g)) (F0 m 20 ls []) := by
  have hx := X.1
  have hb := X.2.1
  intro n
  induction n with
  | zero =>
    intro o0 x1 x2 x3 h ls H locs hf
    rw [f_X11_needs_20.eq_1] at hf
    cases hf
  | succ n ih =>
    intro o0 x1 x2 x3 h ls H locs hf I hl
    rw [f_X11_needs_20.eq_2] at hf
    refine lv_iload_n hx hb dX11_needs_20 rfl (lv_at hl 3 rfl) ?_
    refine lv_bipush (v := 9) hx hb dX11_needs_21 (by decide) ?_
    refine lv_icmp_gt (tgt := 51) hx hb dX11_needs_23 (by decide) (fun c1 => ?_) (fun c1 => ?_)
    · rw [if_pos c1] at hf
      refine lv_iconst (v := (-1)) hx hb dX11_needs_51 (by decide) ?_
      cases hf
      exact k_ri X I hr dX11_needs_52
    · rw [if_neg c1] at hf
      refine lv_aload_n hx hb dX11_needs_26 rfl (lv_at hl 0 rfl) ?_
      refine lv_iload_n hx hb dX11_needs_27 rfl (lv_at hl 1 rfl) ?_
      refine lv_iload_n hx hb dX11_needs_28 rfl (lv_at hl 2 rfl) ?_
      refine lv_iload_n hx hb dX11_needs_29 rfl (lv_at hl 3 rfl) ?_
      obtain ⟨_, g6, hf⟩ := Option.bind_eq_some_iff.mp hf
      obtain ⟨v2, h3, e4, z5, hf⟩ := cN_spec hf
      refine k_Vi (As := [.int x1, .int x2, .int x3]) (rest := []) X I (c_X11_pullBySpring l g o0 x1 x2 x3 e4) z5 g6 vk_TrapCorner_352 tw_1036 ⟨Nat.le_trans (by decide) hR.1, Nat.le_trans (by decide) hR.2⟩ ⟨Nat.zero_le _, Nat.zero_le _⟩ rfl hl.1 rfl (Nat.le_of_ble_eq_true rfl) dX11_needs_30 (fun H locs I => ?_)
      refine lv_aload_n hx hb dX11_needs_33 rfl (lv_at hl 0 rfl) ?_
      obtain ⟨v7, e8, hf⟩ := Option.bind_eq_some_iff.mp hf
      refine r_gR X I e8 lk_TrapCorner_42 dX11_needs_34 ?_
      obtain ⟨v9, e10, hf⟩ := Option.bind_eq_some_iff.mp hf
      refine r_gI X I e10 lk_TrapCorner_175 dX11_needs_37 ?_
      refine lv_icmp_lt (tgt := 45) hx hb dX11_needs_40 (by decide) (fun c11 => ?_) (fun c11 => ?_)
      · rw [if_pos c11] at hf
        refine lv_iinc (v := x3 + 1) (lv' := [(3, .int (x3 + 1)), (0, .ref (rfG g o0)), (1, .int x1), (2, .int x2)]) hx hb dX11_needs_45 hl (k := 3) rfl rfl (by decide) rfl (fun ls hl => ?_)
        refine lv_goto (tgt := 20) hx hb dX11_needs_48 (by decide) ?_
        exact ih o0 x1 x2 (x3 + 1) h3 ls H locs hf I (lv_sub hl [1, 2, 3, 0] rfl)
      · rw [if_neg c11] at hf
        refine lv_iload_n hx hb dX11_needs_43 rfl (lv_at hl 3 rfl) ?_
        cases hf
        exact k_ri X I hr dX11_needs_44
def f_X11_needs_0  (o0 : Nat) (x1 : Int32) (x2 : Int32) (h : AH) : Option (Int32 × AH) :=
  (isC [11] h o0).bind fun _ =>
  cN (f_X11_hasPerson o0 x1 h) h fun v1 h2 =>
  if v1 = 0 then
    some ((-1), h2)
  else
    (isC [11] h2 o0).bind fun _ =>
    cN (f_X11_hasCorner o0 x2 h2) h2 fun v7 h8 =>
    if v7 = 0 then
      some ((-1), h8)
    else
      f_X11_needs_20 fu o0 x1 x2 0 h8
set_option maxHeartbeats 1000000 in
theorem w_X11_needs_0 (X : Cx g p s m args meth c cX11_needs 4 "TrapCorner") (hR : 5 ≤ R.frames ∧ 320 ≤ R.locals) (hr : meth.sig.returnType = (some (.int))) {res : Int32 × AH} : ∀ (o0 : Nat) (x1 : Int32) (x2 : Int32) (h : AH) (ls : Array Slot) (H : Heap) (locs : List Loc), f_X11_needs_0 o0 x1 x2 h = some res → Iv g s n0 z0 h H locs 0 0 → lv_has ls 4 [(0, .ref (rfG g o0)), (1, .int x1), (2, .int x2)] → W p l e R s m args below meth c H locs 0 0 (MQ below (QG g (some (.int res.1)) res.2) args s 0 0 (AG g)) (F0 m 0 ls []) := by
  have hx := X.1
  have hb := X.2.1
  intro o0 x1 x2 h ls H locs hf I hl
  unfold f_X11_needs_0 at hf
  refine lv_aload_n hx hb dX11_needs_0 rfl (lv_at hl 0 rfl) ?_
  refine lv_iload_n hx hb dX11_needs_1 rfl (lv_at hl 1 rfl) ?_
  obtain ⟨_, g5, hf⟩ := Option.bind_eq_some_iff.mp hf
  obtain ⟨v1, h2, e3, z4, hf⟩ := cN_spec hf
  refine k_Vi (As := [.int x1]) (rest := []) X I (c_X11_hasPerson l g o0 x1 e3) z4 g5 vk_TrapCorner_194 tw_880 ⟨Nat.le_trans (by decide) hR.1, Nat.le_trans (by decide) hR.2⟩ ⟨Nat.zero_le _, Nat.zero_le _⟩ rfl hl.1 rfl (Nat.le_of_ble_eq_true rfl) dX11_needs_2 (fun H locs I => ?_)
  refine lv_if_eq (tgt := 16) hx hb dX11_needs_5 (by decide) (fun c6 => ?_) (fun c6 => ?_)
  · rw [if_pos c6] at hf
    refine lv_iconst (v := (-1)) hx hb dX11_needs_16 (by decide) ?_
    cases hf
    exact k_ri X I hr dX11_needs_17
  · rw [if_neg c6] at hf
    refine lv_aload_n hx hb dX11_needs_8 rfl (lv_at hl 0 rfl) ?_
    refine lv_iload_n hx hb dX11_needs_9 rfl (lv_at hl 2 rfl) ?_
    obtain ⟨_, g11, hf⟩ := Option.bind_eq_some_iff.mp hf
    obtain ⟨v7, h8, e9, z10, hf⟩ := cN_spec hf
    refine k_Vi (As := [.int x2]) (rest := []) X I (c_X11_hasCorner l g o0 x2 e9) z10 g11 vk_TrapCorner_184 tw_801 ⟨Nat.le_trans (by decide) hR.1, Nat.le_trans (by decide) hR.2⟩ ⟨Nat.zero_le _, Nat.zero_le _⟩ rfl hl.1 rfl (Nat.le_of_ble_eq_true rfl) dX11_needs_10 (fun H locs I => ?_)
    refine lv_if_ne (tgt := 18) hx hb dX11_needs_13 (by decide) (fun c12 => ?_) (fun c12 => ?_)
    · rw [if_neg c12] at hf
      refine lv_iconst (v := 0) hx hb dX11_needs_18 (by decide) ?_
      refine lv_istore_n (lv' := [(3, .int 0), (0, .ref (rfG g o0)), (1, .int x1), (2, .int x2)]) hx hb dX11_needs_19 rfl hl (by decide) rfl (fun ls hl => ?_)
      exact w_X11_needs_20 X hR hr fu o0 x1 x2 0 h8 ls H locs hf I (lv_sub hl [1, 2, 3, 0] rfl)
    · rw [if_pos c12] at hf
      refine lv_iconst (v := (-1)) hx hb dX11_needs_16 (by decide) ?_
      cases hf
      exact k_ri X I hr dX11_needs_17
def f_X11_needs (o0 : Nat) (x1 : Int32) (x2 : Int32) (h : AH) : Option (Int32 × AH) := f_X11_needs_0 o0 x1 x2 h
end
theorem c_X11_needs (l : Launch) (g : GG) (o0 : Nat) (x1 : Int32) (x2 : Int32) {h : AH} {res : Int32 × AH} (hf : f_X11_needs o0 x1 x2 h = some res) : CM l g yX11_needs cX11_needs 4 (some (.int)) 5 320 0 0 [.ref (rfG g o0), .int x1, .int x2] h (some (.int res.1)) res.2 :=
  k_body (by decide) (Nat.le_of_ble_eq_true rfl) (fun p e s m below meth c R ls hR hr X I hl => w_X11_needs_0 X ⟨Nat.le_of_eq hR.1.symm, Nat.le_of_eq hR.2.1.symm⟩ hr o0 x1 x2 h ls s.heap [] hf I (lv_sub hl [0, 1, 2] rfl))
/-! TrapCorner$Round.play(LTrapCorner$State;IZ)V -/
theorem dX6_play_0 : decode cX6_play 0 = .ok (.iload_n 3, 1) := by decide +kernel
theorem dX6_play_1 : decode cX6_play 1 = .ok (.ifCond .ne 11, 3) := by decide +kernel
theorem dX6_play_4 : decode cX6_play 4 = .ok (.aload_n 0, 1) := by decide +kernel
theorem dX6_play_5 : decode cX6_play 5 = .ok (.getfield 15, 3) := by decide +kernel
theorem dX6_play_8 : decode cX6_play 8 = .ok (.iconst 0, 1) := by decide +kernel
theorem dX6_play_9 : decode cX6_play 9 = .ok (.invokestatic 26, 3) := by decide +kernel
theorem dX6_play_12 : decode cX6_play 12 = .ok (.aload_n 0, 1) := by decide +kernel
theorem dX6_play_13 : decode cX6_play 13 = .ok (.getfield 9, 3) := by decide +kernel
theorem dX6_play_16 : decode cX6_play 16 = .ok (.iconst (-1), 1) := by decide +kernel
theorem dX6_play_17 : decode cX6_play 17 = .ok (.invokestatic 26, 3) := by decide +kernel
theorem dX6_play_20 : decode cX6_play 20 = .ok (.aload_n 0, 1) := by decide +kernel
theorem dX6_play_21 : decode cX6_play 21 = .ok (.iconst 0, 1) := by decide +kernel
theorem dX6_play_22 : decode cX6_play 22 = .ok (.putfield 32, 3) := by decide +kernel
theorem dX6_play_25 : decode cX6_play 25 = .ok (.aload_n 0, 1) := by decide +kernel
theorem dX6_play_26 : decode cX6_play 26 = .ok (.iconst 0, 1) := by decide +kernel
theorem dX6_play_27 : decode cX6_play 27 = .ok (.putfield 36, 3) := by decide +kernel
theorem dX6_play_30 : decode cX6_play 30 = .ok (.aload_n 0, 1) := by decide +kernel
theorem dX6_play_31 : decode cX6_play 31 = .ok (.iconst 0, 1) := by decide +kernel
theorem dX6_play_32 : decode cX6_play 32 = .ok (.putfield 39, 3) := by decide +kernel
theorem dX6_play_35 : decode cX6_play 35 = .ok (.iconst 0, 1) := by decide +kernel
theorem dX6_play_36 : decode cX6_play 36 = .ok (.istore 4, 2) := by decide +kernel
theorem dX6_play_38 : decode cX6_play 38 = .ok (.iload 4, 2) := by decide +kernel
theorem dX6_play_40 : decode cX6_play 40 = .ok (.iload_n 2, 1) := by decide +kernel
theorem dX6_play_41 : decode cX6_play 41 = .ok (.if_icmp .ge 101, 3) := by decide +kernel
theorem dX6_play_44 : decode cX6_play 44 = .ok (.aload_n 0, 1) := by decide +kernel
theorem dX6_play_45 : decode cX6_play 45 = .ok (.getfield 18, 3) := by decide +kernel
theorem dX6_play_48 : decode cX6_play 48 = .ok (.getfield 42, 3) := by decide +kernel
theorem dX6_play_51 : decode cX6_play 51 = .ok (.iload 4, 2) := by decide +kernel
theorem dX6_play_53 : decode cX6_play 53 = .ok (.iaload, 1) := by decide +kernel
theorem dX6_play_54 : decode cX6_play 54 = .ok (.istore 5, 2) := by decide +kernel
theorem dX6_play_56 : decode cX6_play 56 = .ok (.aload_n 0, 1) := by decide +kernel
theorem dX6_play_57 : decode cX6_play 57 = .ok (.getfield 18, 3) := by decide +kernel
theorem dX6_play_60 : decode cX6_play 60 = .ok (.iload 4, 2) := by decide +kernel
theorem dX6_play_62 : decode cX6_play 62 = .ok (.aload_n 1, 1) := by decide +kernel
theorem dX6_play_63 : decode cX6_play 63 = .ok (.getfield 47, 3) := by decide +kernel
theorem dX6_play_66 : decode cX6_play 66 = .ok (.iload 4, 2) := by decide +kernel
theorem dX6_play_68 : decode cX6_play 68 = .ok (.iaload, 1) := by decide +kernel
theorem dX6_play_69 : decode cX6_play 69 = .ok (.invokevirtual 52, 3) := by decide +kernel
theorem dX6_play_72 : decode cX6_play 72 = .ok (.istore 6, 2) := by decide +kernel
theorem dX6_play_74 : decode cX6_play 74 = .ok (.iconst 0, 1) := by decide +kernel
theorem dX6_play_75 : decode cX6_play 75 = .ok (.istore 7, 2) := by decide +kernel
theorem dX6_play_77 : decode cX6_play 77 = .ok (.iload 7, 2) := by decide +kernel
theorem dX6_play_79 : decode cX6_play 79 = .ok (.iload 6, 2) := by decide +kernel
theorem dX6_play_81 : decode cX6_play 81 = .ok (.if_icmp .ge 55, 3) := by decide +kernel
theorem dX6_play_84 : decode cX6_play 84 = .ok (.aload_n 0, 1) := by decide +kernel
theorem dX6_play_85 : decode cX6_play 85 = .ok (.getfield 9, 3) := by decide +kernel
theorem dX6_play_88 : decode cX6_play 88 = .ok (.iload 4, 2) := by decide +kernel
theorem dX6_play_90 : decode cX6_play 90 = .ok (.iaload, 1) := by decide +kernel
theorem dX6_play_91 : decode cX6_play 91 = .ok (.iconst (-1), 1) := by decide +kernel
theorem dX6_play_92 : decode cX6_play 92 = .ok (.if_icmp .ne 44, 3) := by decide +kernel
theorem dX6_play_95 : decode cX6_play 95 = .ok (.aload_n 0, 1) := by decide +kernel
theorem dX6_play_96 : decode cX6_play 96 = .ok (.getfield 18, 3) := by decide +kernel
theorem dX6_play_99 : decode cX6_play 99 = .ok (.iload 5, 2) := by decide +kernel
theorem dX6_play_101 : decode cX6_play 101 = .ok (.aload_n 1, 1) := by decide +kernel
theorem dX6_play_102 : decode cX6_play 102 = .ok (.getfield 47, 3) := by decide +kernel
theorem dX6_play_105 : decode cX6_play 105 = .ok (.iload 4, 2) := by decide +kernel
theorem dX6_play_107 : decode cX6_play 107 = .ok (.iaload, 1) := by decide +kernel
theorem dX6_play_108 : decode cX6_play 108 = .ok (.invokevirtual 56, 3) := by decide +kernel
theorem dX6_play_111 : decode cX6_play 111 = .ok (.istore 5, 2) := by decide +kernel
theorem dX6_play_113 : decode cX6_play 113 = .ok (.aload_n 0, 1) := by decide +kernel
theorem dX6_play_114 : decode cX6_play 114 = .ok (.iload 4, 2) := by decide +kernel
theorem dX6_play_116 : decode cX6_play 116 = .ok (.iload 5, 2) := by decide +kernel
theorem dX6_play_118 : decode cX6_play 118 = .ok (.aload_n 0, 1) := by decide +kernel
theorem dX6_play_119 : decode cX6_play 119 = .ok (.aload_n 1, 1) := by decide +kernel
theorem dX6_play_120 : decode cX6_play 120 = .ok (.iload 4, 2) := by decide +kernel
theorem dX6_play_122 : decode cX6_play 122 = .ok (.iload 5, 2) := by decide +kernel
theorem dX6_play_124 : decode cX6_play 124 = .ok (.invokevirtual 59, 3) := by decide +kernel
theorem dX6_play_127 : decode cX6_play 127 = .ok (.invokevirtual 63, 3) := by decide +kernel
theorem dX6_play_130 : decode cX6_play 130 = .ok (.iinc 7 1, 3) := by decide +kernel
theorem dX6_play_133 : decode cX6_play 133 = .ok (.goto (-56), 3) := by decide +kernel
theorem dX6_play_136 : decode cX6_play 136 = .ok (.iinc 4 1, 3) := by decide +kernel
theorem dX6_play_139 : decode cX6_play 139 = .ok (.goto (-101), 3) := by decide +kernel
theorem dX6_play_142 : decode cX6_play 142 = .ok (.return_, 1) := by decide +kernel
theorem lk_TrapCorner_Round_47 : LK "TrapCorner$Round" 47 [8] 4 := by
  intro ci hci
  have hci := List.mem_singleton.mp hci
  subst hci
  exact ⟨RX8, TX8, 8, "TrapCorner$State", ck_8, by decide, tw_213, Or.inl rfl⟩
theorem vk_TrapCorner_Round_56 : VK "TrapCorner$Round" 56 [10] yX10_beyond 2 := ⟨tw_907, tw_908, tw_5, ⟨by decide, by decide⟩, by decide +kernel, fun ci hci => by
  have hci := List.mem_singleton.mp hci
  subst hci
  exact ⟨_, rfl, tw_909⟩⟩
theorem vk_TrapCorner_Round_59 : VK "TrapCorner$Round" 59 [6] yX6_meets 3 := ⟨tw_911, tw_912, tw_11, ⟨by decide, by decide⟩, by decide +kernel, fun ci hci => by
  have hci := List.mem_singleton.mp hci
  subst hci
  exact ⟨_, rfl, tw_913⟩⟩
theorem vk_TrapCorner_Round_63 : VK "TrapCorner$Round" 63 [6] yX6_snaps 3 := ⟨tw_938, tw_940, tw_11, ⟨by decide, by decide⟩, by decide +kernel, fun ci hci => by
  have hci := List.mem_singleton.mp hci
  subst hci
  exact ⟨_, rfl, tp_30⟩⟩
theorem lk_TrapCorner_Round_42 : LK "TrapCorner$Round" 42 [10] 10 := by
  intro ci hci
  have hci := List.mem_singleton.mp hci
  subst hci
  exact ⟨RX10, TX10, 13, "TrapCorner$Town", ck_10, by decide, tw_98, Or.inl rfl⟩
theorem vk_TrapCorner_Round_52 : VK "TrapCorner$Round" 52 [10] yX10_walkLength 2 := ⟨tw_903, tw_904, tw_5, ⟨by decide, by decide⟩, by decide +kernel, fun ci hci => by
  have hci := List.mem_singleton.mp hci
  subst hci
  exact ⟨_, rfl, tw_905⟩⟩
theorem sk_TrapCorner_Round_26 : SK "TrapCorner$Round" 26 yJ7_fill_53178 2 := ⟨tw_902, tw_747, tw_21, ⟨by decide, by decide⟩, by decide +kernel⟩
section
variable {g : GG} {p : Program} {l : Launch} {e : Env} {R : Room} {s : State} {m : MethodId} {args : Array Value} {below : List Frame} {meth : Method} {c : Code} {n0 z0 : Nat}
def f_X6_play_136 (k38 : Nat → Nat → Int32 → Int32 → AH → Option (Unit × AH)) (o0 : Nat) (o1 : Nat) (x2 : Int32) (x4 : Int32) (h : AH) : Option (Unit × AH) :=
  k38 o0 o1 x2 (x4 + 1) h
set_option maxHeartbeats 1000000 in
theorem w_X6_play_136 (X : Cx g p s m args meth c cX6_play 8 "TrapCorner$Round") (hR : 5 ≤ R.frames ∧ 320 ≤ R.locals) (hr : meth.sig.returnType = none) {res : Unit × AH} {k38 : Nat → Nat → Int32 → Int32 → AH → Option (Unit × AH)} (hk38 : ∀ (o0 : Nat) (o1 : Nat) (x2 : Int32) (x4 : Int32) (h : AH) (ls : Array Slot) (H : Heap) (locs : List Loc), k38 o0 o1 x2 x4 h = some res → Iv g s n0 z0 h H locs 0 0 → lv_has ls 8 [(0, .ref (rfG g o0)), (1, .ref (rfG g o1)), (2, .int x2), (4, .int x4)] → W p l e R s m args below meth c H locs 0 0 (MQ below (QG g none res.2) args s 0 0 (AG g)) (F0 m 38 ls [])) : ∀ (o0 : Nat) (o1 : Nat) (x2 : Int32) (x4 : Int32) (h : AH) (ls : Array Slot) (H : Heap) (locs : List Loc), f_X6_play_136 k38 o0 o1 x2 x4 h = some res → Iv g s n0 z0 h H locs 0 0 → lv_has ls 8 [(0, .ref (rfG g o0)), (1, .ref (rfG g o1)), (2, .int x2), (4, .int x4)] → W p l e R s m args below meth c H locs 0 0 (MQ below (QG g none res.2) args s 0 0 (AG g)) (F0 m 136 ls []) := by
  have hx := X.1
  have hb := X.2.1
  intro o0 o1 x2 x4 h ls H locs hf I hl
  unfold f_X6_play_136 at hf
  refine lv_iinc (v := x4 + 1) (lv' := [(4, .int (x4 + 1)), (0, .ref (rfG g o0)), (1, .ref (rfG g o1)), (2, .int x2)]) hx hb dX6_play_136 hl (k := 3) rfl rfl (by decide) rfl (fun ls hl => ?_)
  refine lv_goto (tgt := 38) hx hb dX6_play_139 (by decide) ?_
  exact hk38 o0 o1 x2 (x4 + 1) h ls H locs hf I (lv_sub hl [1, 2, 3, 0] rfl)
def f_X6_play_77 (k38 : Nat → Nat → Int32 → Int32 → AH → Option (Unit × AH)) : Nat → Nat → Nat → Int32 → Int32 → Int32 → Int32 → Int32 → AH → Option (Unit × AH)
  | 0, _, _, _, _, _, _, _, _ => none
  | n + 1, o0, o1, x2, x4, x5, x6, x7, h =>
  if x6 ≤ x7 then
    f_X6_play_136 k38 o0 o1 x2 x4 h
  else
    (gR [6] h o0 2).bind fun v2 =>
    (aI 0 h v2 x4).bind fun v4 =>
    if v4 = ((-1)) then
      (gR [6] h o0 0).bind fun v7 =>
      (gR [8] h o1 4).bind fun v9 =>
      (aI 0 h v9 x4).bind fun v11 =>
      (isC [10] h v7).bind fun _ =>
      cN (f_X10_beyond v7 x5 v11 h) h fun v13 h14 =>
      (isC [6] h14 o0).bind fun _ =>
      cN (f_X6_meets o0 o1 x4 v13 h14) h14 fun v18 h19 =>
      (isC [6] h19 o0).bind fun _ =>
      cN (f_X6_snaps o0 x4 v13 v18 h19) h19 fun _ h24 =>
      f_X6_play_77 k38 n o0 o1 x2 x4 v13 x6 (x7 + 1) h24
    else
      f_X6_play_136 k38 o0 o1 x2 x4 h
set_option maxHeartbeats 1000000 in
theorem w_X6_play_77 (X : Cx g p s m args meth c cX6_play 8 "TrapCorner$Round") (hR : 5 ≤ R.frames ∧ 320 ≤ R.locals) (hr : meth.sig.returnType = none) {res : Unit × AH} {k38 : Nat → Nat → Int32 → Int32 → AH → Option (Unit × AH)} (hk38 : ∀ (o0 : Nat) (o1 : Nat) (x2 : Int32) (x4 : Int32) (h : AH) (ls : Array Slot) (H : Heap) (locs : List Loc), k38 o0 o1 x2 x4 h = some res → Iv g s n0 z0 h H locs 0 0 → lv_has ls 8 [(0, .ref (rfG g o0)), (1, .ref (rfG g o1)), (2, .int x2), (4, .int x4)] → W p l e R s m args below meth c H locs 0 0 (MQ below (QG g none res.2) args s 0 0 (AG g)) (F0 m 38 ls [])) : ∀ (n : Nat) (o0 : Nat) (o1 : Nat) (x2 : Int32) (x4 : Int32) (x5 : Int32) (x6 : Int32) (x7 : Int32) (h : AH) (ls : Array Slot) (H : Heap) (locs : List Loc), f_X6_play_77 k38 n o0 o1 x2 x4 x5 x6 x7 h = some res → Iv g s n0 z0 h H locs 0 0 → lv_has ls 8 [(0, .ref (rfG g o0)), (1, .ref (rfG g o1)), (2, .int x2), (4, .int x4), (5, .int x5), (6, .int x6), (7, .int x7)] → W p l e R s m args below meth c H locs 0 0 (MQ below (QG g none res.2) args s 0 0 (AG g)) (F0 m 77 ls []) := by
  have hx := X.1
  have hb := X.2.1
  intro n
  induction n with
  | zero =>
    intro o0 o1 x2 x4 x5 x6 x7 h ls H locs hf
    rw [f_X6_play_77.eq_1] at hf
    cases hf
  | succ n ih =>
    intro o0 o1 x2 x4 x5 x6 x7 h ls H locs hf I hl
    rw [f_X6_play_77.eq_2] at hf
    refine lv_iload hx hb dX6_play_77 (lv_at hl 6 rfl) ?_
    refine lv_iload hx hb dX6_play_79 (lv_at hl 5 rfl) ?_
    refine lv_icmp_ge (tgt := 136) hx hb dX6_play_81 (by decide) (fun c1 => ?_) (fun c1 => ?_)
    · rw [if_pos c1] at hf
      exact w_X6_play_136 X hR hr hk38 o0 o1 x2 x4 h ls H locs hf I (lv_sub hl [0, 1, 2, 3] rfl)
    · rw [if_neg c1] at hf
      refine lv_aload_n hx hb dX6_play_84 rfl (lv_at hl 0 rfl) ?_
      obtain ⟨v2, e3, hf⟩ := Option.bind_eq_some_iff.mp hf
      refine r_gR X I e3 lk_TrapCorner_Round_9 dX6_play_85 ?_
      refine lv_iload hx hb dX6_play_88 (lv_at hl 3 rfl) ?_
      obtain ⟨v4, e5, hf⟩ := Option.bind_eq_some_iff.mp hf
      refine r_aI0 X I e5 dX6_play_90 ?_
      refine lv_iconst (v := (-1)) hx hb dX6_play_91 (by decide) ?_
      refine lv_icmp_ne (tgt := 136) hx hb dX6_play_92 (by decide) (fun c6 => ?_) (fun c6 => ?_)
      · rw [if_neg c6] at hf
        exact w_X6_play_136 X hR hr hk38 o0 o1 x2 x4 h ls H locs hf I (lv_sub hl [0, 1, 2, 3] rfl)
      · rw [if_pos c6] at hf
        refine lv_aload_n hx hb dX6_play_95 rfl (lv_at hl 0 rfl) ?_
        obtain ⟨v7, e8, hf⟩ := Option.bind_eq_some_iff.mp hf
        refine r_gR X I e8 lk_TrapCorner_Round_18 dX6_play_96 ?_
        refine lv_iload hx hb dX6_play_99 (lv_at hl 4 rfl) ?_
        refine lv_aload_n hx hb dX6_play_101 rfl (lv_at hl 1 rfl) ?_
        obtain ⟨v9, e10, hf⟩ := Option.bind_eq_some_iff.mp hf
        refine r_gR X I e10 lk_TrapCorner_Round_47 dX6_play_102 ?_
        refine lv_iload hx hb dX6_play_105 (lv_at hl 3 rfl) ?_
        obtain ⟨v11, e12, hf⟩ := Option.bind_eq_some_iff.mp hf
        refine r_aI0 X I e12 dX6_play_107 ?_
        obtain ⟨_, g17, hf⟩ := Option.bind_eq_some_iff.mp hf
        obtain ⟨v13, h14, e15, z16, hf⟩ := cN_spec hf
        refine k_Vi (As := [.int x5, .int v11]) (rest := []) X I (c_X10_beyond l g v7 x5 v11 e15) z16 g17 vk_TrapCorner_Round_56 tw_910 ⟨Nat.le_trans (by decide) hR.1, Nat.le_trans (by decide) hR.2⟩ ⟨Nat.zero_le _, Nat.zero_le _⟩ rfl hl.1 rfl (Nat.le_of_ble_eq_true rfl) dX6_play_108 (fun H locs I => ?_)
        refine lv_istore (lv' := [(5, .int v13), (0, .ref (rfG g o0)), (1, .ref (rfG g o1)), (2, .int x2), (4, .int x4), (6, .int x6), (7, .int x7)]) hx hb dX6_play_111 hl (by decide) rfl (fun ls hl => ?_)
        refine lv_aload_n hx hb dX6_play_113 rfl (lv_at hl 1 rfl) ?_
        refine lv_iload hx hb dX6_play_114 (lv_at hl 4 rfl) ?_
        refine lv_iload hx hb dX6_play_116 (lv_at hl 0 rfl) ?_
        refine lv_aload_n hx hb dX6_play_118 rfl (lv_at hl 1 rfl) ?_
        refine lv_aload_n hx hb dX6_play_119 rfl (lv_at hl 2 rfl) ?_
        refine lv_iload hx hb dX6_play_120 (lv_at hl 4 rfl) ?_
        refine lv_iload hx hb dX6_play_122 (lv_at hl 0 rfl) ?_
        obtain ⟨_, g22, hf⟩ := Option.bind_eq_some_iff.mp hf
        obtain ⟨v18, h19, e20, z21, hf⟩ := cN_spec hf
        refine k_Vi (As := [.ref (rfG g o1), .int x4, .int v13]) (rest := [.int v13, .int x4, .ref (rfG g o0)]) X I (c_X6_meets l g o0 o1 x4 v13 e20) z21 g22 vk_TrapCorner_Round_59 tw_914 ⟨Nat.le_trans (by decide) hR.1, Nat.le_trans (by decide) hR.2⟩ ⟨Nat.zero_le _, Nat.zero_le _⟩ rfl hl.1 rfl (Nat.le_of_ble_eq_true rfl) dX6_play_124 (fun H locs I => ?_)
        obtain ⟨_, g27, hf⟩ := Option.bind_eq_some_iff.mp hf
        obtain ⟨⟨⟩, h24, e25, z26, hf⟩ := cN_spec hf
        refine k_Vv (As := [.int x4, .int v13, .int v18]) (rest := []) X I (c_X6_snaps l g o0 x4 v13 v18 e25) z26 g27 vk_TrapCorner_Round_63 tw_941 ⟨Nat.le_trans (by decide) hR.1, Nat.le_trans (by decide) hR.2⟩ ⟨Nat.zero_le _, Nat.zero_le _⟩ rfl hl.1 rfl (Nat.le_of_ble_eq_true rfl) dX6_play_127 (fun H locs I => ?_)
        refine lv_iinc (v := x7 + 1) (lv' := [(7, .int (x7 + 1)), (5, .int v13), (0, .ref (rfG g o0)), (1, .ref (rfG g o1)), (2, .int x2), (4, .int x4), (6, .int x6)]) hx hb dX6_play_130 hl (k := 6) rfl rfl (by decide) rfl (fun ls hl => ?_)
        refine lv_goto (tgt := 77) hx hb dX6_play_133 (by decide) ?_
        exact ih o0 o1 x2 x4 v13 x6 (x7 + 1) h24 ls H locs hf I (lv_sub hl [2, 3, 4, 5, 1, 6, 0] rfl)
def f_X6_play_38  : Nat → Nat → Nat → Int32 → Int32 → AH → Option (Unit × AH)
  | 0, _, _, _, _, _ => none
  | n + 1, o0, o1, x2, x4, h =>
  if x2 ≤ x4 then
    some ((), h)
  else
    (gR [6] h o0 0).bind fun v2 =>
    (gR [10] h v2 10).bind fun v4 =>
    (aI 0 h v4 x4).bind fun v6 =>
    (gR [6] h o0 0).bind fun v8 =>
    (gR [8] h o1 4).bind fun v10 =>
    (aI 0 h v10 x4).bind fun v12 =>
    (isC [10] h v8).bind fun _ =>
    cN (f_X10_walkLength v8 x4 v12 h) h fun v14 h15 =>
    f_X6_play_77 (f_X6_play_38 n) fu o0 o1 x2 x4 v6 v14 0 h15
set_option maxHeartbeats 1000000 in
theorem w_X6_play_38 (X : Cx g p s m args meth c cX6_play 8 "TrapCorner$Round") (hR : 5 ≤ R.frames ∧ 320 ≤ R.locals) (hr : meth.sig.returnType = none) {res : Unit × AH} : ∀ (n : Nat) (o0 : Nat) (o1 : Nat) (x2 : Int32) (x4 : Int32) (h : AH) (ls : Array Slot) (H : Heap) (locs : List Loc), f_X6_play_38 n o0 o1 x2 x4 h = some res → Iv g s n0 z0 h H locs 0 0 → lv_has ls 8 [(0, .ref (rfG g o0)), (1, .ref (rfG g o1)), (2, .int x2), (4, .int x4)] → W p l e R s m args below meth c H locs 0 0 (MQ below (QG g none res.2) args s 0 0 (AG g)) (F0 m 38 ls []) := by
  have hx := X.1
  have hb := X.2.1
  intro n
  induction n with
  | zero =>
    intro o0 o1 x2 x4 h ls H locs hf
    rw [f_X6_play_38.eq_1] at hf
    cases hf
  | succ n ih =>
    intro o0 o1 x2 x4 h ls H locs hf I hl
    rw [f_X6_play_38.eq_2] at hf
    refine lv_iload hx hb dX6_play_38 (lv_at hl 3 rfl) ?_
    refine lv_iload_n hx hb dX6_play_40 rfl (lv_at hl 2 rfl) ?_
    refine lv_icmp_ge (tgt := 142) hx hb dX6_play_41 (by decide) (fun c1 => ?_) (fun c1 => ?_)
    · rw [if_pos c1] at hf
      cases hf
      exact k_rv X I hr dX6_play_142
    · rw [if_neg c1] at hf
      refine lv_aload_n hx hb dX6_play_44 rfl (lv_at hl 0 rfl) ?_
      obtain ⟨v2, e3, hf⟩ := Option.bind_eq_some_iff.mp hf
      refine r_gR X I e3 lk_TrapCorner_Round_18 dX6_play_45 ?_
      obtain ⟨v4, e5, hf⟩ := Option.bind_eq_some_iff.mp hf
      refine r_gR X I e5 lk_TrapCorner_Round_42 dX6_play_48 ?_
      refine lv_iload hx hb dX6_play_51 (lv_at hl 3 rfl) ?_
      obtain ⟨v6, e7, hf⟩ := Option.bind_eq_some_iff.mp hf
      refine r_aI0 X I e7 dX6_play_53 ?_
      refine lv_istore (lv' := [(5, .int v6), (0, .ref (rfG g o0)), (1, .ref (rfG g o1)), (2, .int x2), (4, .int x4)]) hx hb dX6_play_54 hl (by decide) rfl (fun ls hl => ?_)
      refine lv_aload_n hx hb dX6_play_56 rfl (lv_at hl 1 rfl) ?_
      obtain ⟨v8, e9, hf⟩ := Option.bind_eq_some_iff.mp hf
      refine r_gR X I e9 lk_TrapCorner_Round_18 dX6_play_57 ?_
      refine lv_iload hx hb dX6_play_60 (lv_at hl 4 rfl) ?_
      refine lv_aload_n hx hb dX6_play_62 rfl (lv_at hl 2 rfl) ?_
      obtain ⟨v10, e11, hf⟩ := Option.bind_eq_some_iff.mp hf
      refine r_gR X I e11 lk_TrapCorner_Round_47 dX6_play_63 ?_
      refine lv_iload hx hb dX6_play_66 (lv_at hl 4 rfl) ?_
      obtain ⟨v12, e13, hf⟩ := Option.bind_eq_some_iff.mp hf
      refine r_aI0 X I e13 dX6_play_68 ?_
      obtain ⟨_, g18, hf⟩ := Option.bind_eq_some_iff.mp hf
      obtain ⟨v14, h15, e16, z17, hf⟩ := cN_spec hf
      refine k_Vi (As := [.int x4, .int v12]) (rest := []) X I (c_X10_walkLength l g v8 x4 v12 e16) z17 g18 vk_TrapCorner_Round_52 tw_906 ⟨Nat.le_trans (by decide) hR.1, Nat.le_trans (by decide) hR.2⟩ ⟨Nat.zero_le _, Nat.zero_le _⟩ rfl hl.1 rfl (Nat.le_of_ble_eq_true rfl) dX6_play_69 (fun H locs I => ?_)
      refine lv_istore (lv' := [(6, .int v14), (5, .int v6), (0, .ref (rfG g o0)), (1, .ref (rfG g o1)), (2, .int x2), (4, .int x4)]) hx hb dX6_play_72 hl (by decide) rfl (fun ls hl => ?_)
      refine lv_iconst (v := 0) hx hb dX6_play_74 (by decide) ?_
      refine lv_istore (lv' := [(7, .int 0), (6, .int v14), (5, .int v6), (0, .ref (rfG g o0)), (1, .ref (rfG g o1)), (2, .int x2), (4, .int x4)]) hx hb dX6_play_75 hl (by decide) rfl (fun ls hl => ?_)
      exact w_X6_play_77 X hR hr ih fu o0 o1 x2 x4 v6 v14 0 h15 ls H locs hf I (lv_sub hl [3, 4, 5, 6, 2, 1, 0] rfl)
def f_X6_play_12  (o0 : Nat) (o1 : Nat) (x2 : Int32) (h : AH) : Option (Unit × AH) :=
  (gR [6] h o0 2).bind fun v1 =>
  cN (f_J7_fill_53178 v1 ((-1)) h) h fun _ h4 =>
  (pV [6] h4 o0 3 (.int 0)).bind fun h7 =>
  (pV [6] h7 o0 4 (.int 0)).bind fun h9 =>
  (pV [6] h9 o0 5 (.int 0)).bind fun h11 =>
  f_X6_play_38 fu o0 o1 x2 0 h11
set_option maxHeartbeats 1000000 in
theorem w_X6_play_12 (X : Cx g p s m args meth c cX6_play 8 "TrapCorner$Round") (hR : 5 ≤ R.frames ∧ 320 ≤ R.locals) (hr : meth.sig.returnType = none) {res : Unit × AH} : ∀ (o0 : Nat) (o1 : Nat) (x2 : Int32) (h : AH) (ls : Array Slot) (H : Heap) (locs : List Loc), f_X6_play_12 o0 o1 x2 h = some res → Iv g s n0 z0 h H locs 0 0 → lv_has ls 8 [(0, .ref (rfG g o0)), (1, .ref (rfG g o1)), (2, .int x2)] → W p l e R s m args below meth c H locs 0 0 (MQ below (QG g none res.2) args s 0 0 (AG g)) (F0 m 12 ls []) := by
  have hx := X.1
  have hb := X.2.1
  intro o0 o1 x2 h ls H locs hf I hl
  unfold f_X6_play_12 at hf
  refine lv_aload_n hx hb dX6_play_12 rfl (lv_at hl 0 rfl) ?_
  obtain ⟨v1, e2, hf⟩ := Option.bind_eq_some_iff.mp hf
  refine r_gR X I e2 lk_TrapCorner_Round_9 dX6_play_13 ?_
  refine lv_iconst (v := (-1)) hx hb dX6_play_16 (by decide) ?_
  obtain ⟨⟨⟩, h4, e5, z6, hf⟩ := cN_spec hf
  refine k_Sv (As := [.ref (rfG g v1), .int ((-1))]) (rest := []) X I (c_J7_fill_53178 l g v1 ((-1)) e5) z6 sk_TrapCorner_Round_26 tw_748 ⟨Nat.le_trans (by decide) hR.1, Nat.le_trans (by decide) hR.2⟩ ⟨Nat.zero_le _, Nat.zero_le _⟩ rfl hl.1 rfl (Nat.le_of_ble_eq_true rfl) dX6_play_17 (fun H locs I => ?_)
  refine lv_aload_n hx hb dX6_play_20 rfl (lv_at hl 0 rfl) ?_
  refine lv_iconst (v := 0) hx hb dX6_play_21 (by decide) ?_
  obtain ⟨h7, e8, hf⟩ := Option.bind_eq_some_iff.mp hf
  refine r_pI X I e8 lp_TrapCorner_Round_32 dX6_play_22 (fun H locs I => ?_)
  refine lv_aload_n hx hb dX6_play_25 rfl (lv_at hl 0 rfl) ?_
  refine lv_iconst (v := 0) hx hb dX6_play_26 (by decide) ?_
  obtain ⟨h9, e10, hf⟩ := Option.bind_eq_some_iff.mp hf
  refine r_pI X I e10 lp_TrapCorner_Round_36 dX6_play_27 (fun H locs I => ?_)
  refine lv_aload_n hx hb dX6_play_30 rfl (lv_at hl 0 rfl) ?_
  refine lv_iconst (v := 0) hx hb dX6_play_31 (by decide) ?_
  obtain ⟨h11, e12, hf⟩ := Option.bind_eq_some_iff.mp hf
  refine r_pI X I e12 lp_TrapCorner_Round_39 dX6_play_32 (fun H locs I => ?_)
  refine lv_iconst (v := 0) hx hb dX6_play_35 (by decide) ?_
  refine lv_istore (lv' := [(4, .int 0), (0, .ref (rfG g o0)), (1, .ref (rfG g o1)), (2, .int x2)]) hx hb dX6_play_36 hl (by decide) rfl (fun ls hl => ?_)
  exact w_X6_play_38 X hR hr fu o0 o1 x2 0 h11 ls H locs hf I (lv_sub hl [1, 2, 3, 0] rfl)
def f_X6_play_0  (o0 : Nat) (o1 : Nat) (x2 : Int32) (x3 : Int32) (h : AH) : Option (Unit × AH) :=
  if x3 = 0 then
    (gR [6] h o0 6).bind fun v2 =>
    cN (f_J7_fill_53178 v2 0 h) h fun _ h5 =>
    f_X6_play_12 o0 o1 x2 h5
  else
    f_X6_play_12 o0 o1 x2 h
set_option maxHeartbeats 1000000 in
theorem w_X6_play_0 (X : Cx g p s m args meth c cX6_play 8 "TrapCorner$Round") (hR : 5 ≤ R.frames ∧ 320 ≤ R.locals) (hr : meth.sig.returnType = none) {res : Unit × AH} : ∀ (o0 : Nat) (o1 : Nat) (x2 : Int32) (x3 : Int32) (h : AH) (ls : Array Slot) (H : Heap) (locs : List Loc), f_X6_play_0 o0 o1 x2 x3 h = some res → Iv g s n0 z0 h H locs 0 0 → lv_has ls 8 [(0, .ref (rfG g o0)), (1, .ref (rfG g o1)), (2, .int x2), (3, .int x3)] → W p l e R s m args below meth c H locs 0 0 (MQ below (QG g none res.2) args s 0 0 (AG g)) (F0 m 0 ls []) := by
  have hx := X.1
  have hb := X.2.1
  intro o0 o1 x2 x3 h ls H locs hf I hl
  unfold f_X6_play_0 at hf
  refine lv_iload_n hx hb dX6_play_0 rfl (lv_at hl 3 rfl) ?_
  refine lv_if_ne (tgt := 12) hx hb dX6_play_1 (by decide) (fun c1 => ?_) (fun c1 => ?_)
  · rw [if_neg c1] at hf
    exact w_X6_play_12 X hR hr  o0 o1 x2 h ls H locs hf I (lv_sub hl [0, 1, 2] rfl)
  · rw [if_pos c1] at hf
    refine lv_aload_n hx hb dX6_play_4 rfl (lv_at hl 0 rfl) ?_
    obtain ⟨v2, e3, hf⟩ := Option.bind_eq_some_iff.mp hf
    refine r_gR X I e3 lk_TrapCorner_Round_15 dX6_play_5 ?_
    refine lv_iconst (v := 0) hx hb dX6_play_8 (by decide) ?_
    obtain ⟨⟨⟩, h5, e6, z7, hf⟩ := cN_spec hf
    refine k_Sv (As := [.ref (rfG g v2), .int 0]) (rest := []) X I (c_J7_fill_53178 l g v2 0 e6) z7 sk_TrapCorner_Round_26 tw_748 ⟨Nat.le_trans (by decide) hR.1, Nat.le_trans (by decide) hR.2⟩ ⟨Nat.zero_le _, Nat.zero_le _⟩ rfl hl.1 rfl (Nat.le_of_ble_eq_true rfl) dX6_play_9 (fun H locs I => ?_)
    exact w_X6_play_12 X hR hr  o0 o1 x2 h5 ls H locs hf I (lv_sub hl [0, 1, 2] rfl)
def f_X6_play (o0 : Nat) (o1 : Nat) (x2 : Int32) (x3 : Int32) (h : AH) : Option (Unit × AH) := f_X6_play_0 o0 o1 x2 x3 h
end
theorem c_X6_play (l : Launch) (g : GG) (o0 : Nat) (o1 : Nat) (x2 : Int32) (x3 : Int32) {h : AH} {res : Unit × AH} (hf : f_X6_play o0 o1 x2 x3 h = some res) : CM l g yX6_play cX6_play 8 none 5 320 0 0 [.ref (rfG g o0), .ref (rfG g o1), .int x2, .int x3] h none res.2 :=
  k_body (by decide) (Nat.le_of_ble_eq_true rfl) (fun p e s m below meth c R ls hR hr X I hl => w_X6_play_0 X ⟨Nat.le_of_eq hR.1.symm, Nat.le_of_eq hR.2.1.symm⟩ hr o0 o1 x2 x3 h ls s.heap [] hf I (lv_sub hl [0, 1, 2, 3] rfl))
