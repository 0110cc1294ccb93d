/-! TrapCornerModel.pullBy(ZIIIII)I -/
theorem dX12_pullBy_0 : decode cX12_pullBy 0 = .ok (.aload_n 0, 1) := by decide +kernel
theorem dX12_pullBy_1 : decode cX12_pullBy 1 = .ok (.getfield 67, 3) := by decide +kernel
theorem dX12_pullBy_4 : decode cX12_pullBy 4 = .ok (.iconst (-1), 1) := by decide +kernel
theorem dX12_pullBy_5 : decode cX12_pullBy 5 = .ok (.if_icmp .ne 22, 3) := by decide +kernel
theorem dX12_pullBy_8 : decode cX12_pullBy 8 = .ok (.iload_n 1, 1) := by decide +kernel
theorem dX12_pullBy_9 : decode cX12_pullBy 9 = .ok (.ifCond .eq 9, 3) := by decide +kernel
theorem dX12_pullBy_12 : decode cX12_pullBy 12 = .ok (.iconst 2, 1) := by decide +kernel
theorem dX12_pullBy_13 : decode cX12_pullBy 13 = .ok (.iload_n 2, 1) := by decide +kernel
theorem dX12_pullBy_14 : decode cX12_pullBy 14 = .ok (.imul, 1) := by decide +kernel
theorem dX12_pullBy_15 : decode cX12_pullBy 15 = .ok (.goto 4, 3) := by decide +kernel
theorem dX12_pullBy_18 : decode cX12_pullBy 18 = .ok (.iconst 0, 1) := by decide +kernel
theorem dX12_pullBy_19 : decode cX12_pullBy 19 = .ok (.iload 4, 2) := by decide +kernel
theorem dX12_pullBy_21 : decode cX12_pullBy 21 = .ok (.iadd, 1) := by decide +kernel
theorem dX12_pullBy_22 : decode cX12_pullBy 22 = .ok (.iload_n 3, 1) := by decide +kernel
theorem dX12_pullBy_23 : decode cX12_pullBy 23 = .ok (.isub, 1) := by decide +kernel
theorem dX12_pullBy_24 : decode cX12_pullBy 24 = .ok (.goto 16, 3) := by decide +kernel
theorem dX12_pullBy_27 : decode cX12_pullBy 27 = .ok (.aload_n 0, 1) := by decide +kernel
theorem dX12_pullBy_28 : decode cX12_pullBy 28 = .ok (.iload_n 1, 1) := by decide +kernel
theorem dX12_pullBy_29 : decode cX12_pullBy 29 = .ok (.iload_n 2, 1) := by decide +kernel
theorem dX12_pullBy_30 : decode cX12_pullBy 30 = .ok (.iload_n 3, 1) := by decide +kernel
theorem dX12_pullBy_31 : decode cX12_pullBy 31 = .ok (.iload 4, 2) := by decide +kernel
theorem dX12_pullBy_33 : decode cX12_pullBy 33 = .ok (.iload 5, 2) := by decide +kernel
theorem dX12_pullBy_35 : decode cX12_pullBy 35 = .ok (.iload 6, 2) := by decide +kernel
theorem dX12_pullBy_37 : decode cX12_pullBy 37 = .ok (.invokevirtual 317, 3) := by decide +kernel
theorem dX12_pullBy_40 : decode cX12_pullBy 40 = .ok (.istore 7, 2) := by decide +kernel
theorem dX12_pullBy_42 : decode cX12_pullBy 42 = .ok (.iconst 0, 1) := by decide +kernel
theorem dX12_pullBy_43 : decode cX12_pullBy 43 = .ok (.bipush 40, 2) := by decide +kernel
theorem dX12_pullBy_45 : decode cX12_pullBy 45 = .ok (.iload 7, 2) := by decide +kernel
theorem dX12_pullBy_47 : decode cX12_pullBy 47 = .ok (.invokestatic 321, 3) := by decide +kernel
theorem dX12_pullBy_50 : decode cX12_pullBy 50 = .ok (.invokestatic 323, 3) := by decide +kernel
theorem dX12_pullBy_53 : decode cX12_pullBy 53 = .ok (.ireturn, 1) := by decide +kernel
theorem sk_TrapCornerModel_321 : SK "TrapCornerModel" 321 yJ9_min_7cf53 2 := ⟨tw_1709, tw_528, tw_17, ⟨by decide, by decide⟩, by decide +kernel⟩
theorem sk_TrapCornerModel_323 : SK "TrapCornerModel" 323 yJ9_max_7cf53 2 := ⟨tw_1710, tw_525, tw_17, ⟨by decide, by decide⟩, by decide +kernel⟩
theorem vk_TrapCornerModel_317 : VK "TrapCornerModel" 317 [12] yX12_worthOf 6 := ⟨tw_1701, tw_1703, tw_13, ⟨by decide, by decide⟩, by decide +kernel, fun ci hci => by
  have hci := List.mem_singleton.mp hci
  subst hci
  exact ⟨_, rfl, tp_89⟩⟩
section
variable {g : GG} {p : Program} {l : Launch} {e : Env} {R : Room} {s : State} {m : MethodId} {args : Array Value} {below : List Frame} {meth : Method} {c : Code} {n0 z0 : Nat}
def f_X12_pullBy_40  (s0 : Int32) (h : AH) : Option (Int32 × AH) :=
  cN (f_J9_min_7cf53 40 s0 h) h fun v1 h2 =>
  cN (f_J9_max_7cf53 0 v1 h2) h2 fun v5 h6 =>
  some (v5, h6)
set_option maxHeartbeats 1000000 in
theorem w_X12_pullBy_40 (X : Cx g p s m args meth c cX12_pullBy 8 "TrapCornerModel") (hR : 89 ≤ R.frames ∧ 5696 ≤ R.locals) (hr : meth.sig.returnType = (some (.int))) {res : Int32 × AH} : ∀ (s0 : Int32) (h : AH) (ls : Array Slot) (H : Heap) (locs : List Loc), f_X12_pullBy_40 s0 h = some res → Iv g s n0 z0 h H locs 0 0 → lv_has ls 8 [] → W p l e R s m args below meth c H locs 0 0 (MQ below (QG g (some (.int res.1)) res.2) args s 0 0 (AG g)) (F0 m 40 ls [.int s0]) := by
  have hx := X.1
  have hb := X.2.1
  intro s0 h ls H locs hf I hl
  unfold f_X12_pullBy_40 at hf
  refine lv_istore (lv' := [(7, .int s0)]) hx hb dX12_pullBy_40 hl (by decide) rfl (fun ls hl => ?_)
  refine lv_iconst (v := 0) hx hb dX12_pullBy_42 (by decide) ?_
  refine lv_bipush (v := 40) hx hb dX12_pullBy_43 (by decide) ?_
  refine lv_iload hx hb dX12_pullBy_45 (lv_at hl 0 rfl) ?_
  obtain ⟨v1, h2, e3, z4, hf⟩ := cN_spec hf
  refine k_Si (As := [.int 40, .int s0]) (rest := [.int 0]) X I (c_J9_min_7cf53 l g 40 s0 e3) z4 sk_TrapCornerModel_321 tw_529 ⟨Nat.le_trans (by decide) hR.1, Nat.le_trans (by decide) hR.2⟩ ⟨Nat.zero_le _, Nat.zero_le _⟩ rfl hl.1 rfl (Nat.le_of_ble_eq_true rfl) dX12_pullBy_47 (fun H locs I => ?_)
  obtain ⟨v5, h6, e7, z8, hf⟩ := cN_spec hf
  refine k_Si (As := [.int 0, .int v1]) (rest := []) X I (c_J9_max_7cf53 l g 0 v1 e7) z8 sk_TrapCornerModel_323 tw_526 ⟨Nat.le_trans (by decide) hR.1, Nat.le_trans (by decide) hR.2⟩ ⟨Nat.zero_le _, Nat.zero_le _⟩ rfl hl.1 rfl (Nat.le_of_ble_eq_true rfl) dX12_pullBy_50 (fun H locs I => ?_)
  cases hf
  exact k_ri X I hr dX12_pullBy_53
def f_X12_pullBy_19  (x3 : Int32) (x4 : Int32) (s0 : Int32) (h : AH) : Option (Int32 × AH) :=
  f_X12_pullBy_40 ((s0 + x4) - x3) h
set_option maxHeartbeats 1000000 in
theorem w_X12_pullBy_19 (X : Cx g p s m args meth c cX12_pullBy 8 "TrapCornerModel") (hR : 89 ≤ R.frames ∧ 5696 ≤ R.locals) (hr : meth.sig.returnType = (some (.int))) {res : Int32 × AH} : ∀ (x3 : Int32) (x4 : Int32) (s0 : Int32) (h : AH) (ls : Array Slot) (H : Heap) (locs : List Loc), f_X12_pullBy_19 x3 x4 s0 h = some res → Iv g s n0 z0 h H locs 0 0 → lv_has ls 8 [(3, .int x3), (4, .int x4)] → W p l e R s m args below meth c H locs 0 0 (MQ below (QG g (some (.int res.1)) res.2) args s 0 0 (AG g)) (F0 m 19 ls [.int s0]) := by
  have hx := X.1
  have hb := X.2.1
  intro x3 x4 s0 h ls H locs hf I hl
  unfold f_X12_pullBy_19 at hf
  refine lv_iload hx hb dX12_pullBy_19 (lv_at hl 1 rfl) ?_
  refine lv_iadd hx hb dX12_pullBy_21 ?_
  refine lv_iload_n hx hb dX12_pullBy_22 rfl (lv_at hl 0 rfl) ?_
  refine lv_isub hx hb dX12_pullBy_23 ?_
  refine lv_goto (tgt := 40) hx hb dX12_pullBy_24 (by decide) ?_
  exact w_X12_pullBy_40 X hR hr  ((s0 + x4) - x3) h ls H locs hf I (lv_sub hl [] rfl)
def f_X12_pullBy_0  (o0 : Nat) (x1 : Int32) (x2 : Int32) (x3 : Int32) (x4 : Int32) (x5 : Int32) (x6 : Int32) (h : AH) : Option (Int32 × AH) :=
  (gI [12] h o0 34).bind fun v1 =>
  if v1 = ((-1)) then
    if x1 = 0 then
      f_X12_pullBy_19 x3 x4 0 h
    else
      f_X12_pullBy_19 x3 x4 (2 * x2) h
  else
    (isC [12] h o0).bind fun _ =>
    cN (f_X12_worthOf o0 x1 x2 x3 x4 x5 x6 h) h fun v4 h5 =>
    f_X12_pullBy_40 v4 h5
set_option maxHeartbeats 1000000 in
theorem w_X12_pullBy_0 (X : Cx g p s m args meth c cX12_pullBy 8 "TrapCornerModel") (hR : 89 ≤ R.frames ∧ 5696 ≤ R.locals) (hr : meth.sig.returnType = (some (.int))) {res : Int32 × AH} : ∀ (o0 : Nat) (x1 : Int32) (x2 : Int32) (x3 : Int32) (x4 : Int32) (x5 : Int32) (x6 : Int32) (h : AH) (ls : Array Slot) (H : Heap) (locs : List Loc), f_X12_pullBy_0 o0 x1 x2 x3 x4 x5 x6 h = some res → Iv g s n0 z0 h H locs 0 0 → lv_has ls 8 [(0, .ref (rfG g o0)), (1, .int x1), (2, .int x2), (3, .int x3), (4, .int x4), (5, .int x5), (6, .int x6)] → W p l e R s m args below meth c H locs 0 0 (MQ below (QG g (some (.int res.1)) res.2) args s 0 0 (AG g)) (F0 m 0 ls []) := by
  have hx := X.1
  have hb := X.2.1
  intro o0 x1 x2 x3 x4 x5 x6 h ls H locs hf I hl
  unfold f_X12_pullBy_0 at hf
  refine lv_aload_n hx hb dX12_pullBy_0 rfl (lv_at hl 0 rfl) ?_
  obtain ⟨v1, e2, hf⟩ := Option.bind_eq_some_iff.mp hf
  refine r_gI X I e2 lk_TrapCornerModel_67 dX12_pullBy_1 ?_
  refine lv_iconst (v := (-1)) hx hb dX12_pullBy_4 (by decide) ?_
  refine lv_icmp_ne (tgt := 27) hx hb dX12_pullBy_5 (by decide) (fun c3 => ?_) (fun c3 => ?_)
  · rw [if_neg c3] at hf
    refine lv_aload_n hx hb dX12_pullBy_27 rfl (lv_at hl 0 rfl) ?_
    refine lv_iload_n hx hb dX12_pullBy_28 rfl (lv_at hl 1 rfl) ?_
    refine lv_iload_n hx hb dX12_pullBy_29 rfl (lv_at hl 2 rfl) ?_
    refine lv_iload_n hx hb dX12_pullBy_30 rfl (lv_at hl 3 rfl) ?_
    refine lv_iload hx hb dX12_pullBy_31 (lv_at hl 4 rfl) ?_
    refine lv_iload hx hb dX12_pullBy_33 (lv_at hl 5 rfl) ?_
    refine lv_iload hx hb dX12_pullBy_35 (lv_at hl 6 rfl) ?_
    obtain ⟨_, g8, hf⟩ := Option.bind_eq_some_iff.mp hf
    obtain ⟨v4, h5, e6, z7, hf⟩ := cN_spec hf
    refine k_Vi (As := [.int x1, .int x2, .int x3, .int x4, .int x5, .int x6]) (rest := []) X I (c_X12_worthOf l g o0 x1 x2 x3 x4 x5 x6 e6) z7 g8 vk_TrapCornerModel_317 tw_1704 ⟨Nat.le_trans (by decide) hR.1, Nat.le_trans (by decide) hR.2⟩ ⟨Nat.zero_le _, Nat.zero_le _⟩ rfl hl.1 rfl (Nat.le_of_ble_eq_true rfl) dX12_pullBy_37 (fun H locs I => ?_)
    exact w_X12_pullBy_40 X hR hr  v4 h5 ls H locs hf I (lv_sub hl [] rfl)
  · rw [if_pos c3] at hf
    refine lv_iload_n hx hb dX12_pullBy_8 rfl (lv_at hl 1 rfl) ?_
    refine lv_if_eq (tgt := 18) hx hb dX12_pullBy_9 (by decide) (fun c9 => ?_) (fun c9 => ?_)
    · rw [if_pos c9] at hf
      refine lv_iconst (v := 0) hx hb dX12_pullBy_18 (by decide) ?_
      exact w_X12_pullBy_19 X hR hr  x3 x4 0 h ls H locs hf I (lv_sub hl [3, 4] rfl)
    · rw [if_neg c9] at hf
      refine lv_iconst (v := 2) hx hb dX12_pullBy_12 (by decide) ?_
      refine lv_iload_n hx hb dX12_pullBy_13 rfl (lv_at hl 2 rfl) ?_
      refine lv_imul hx hb dX12_pullBy_14 ?_
      refine lv_goto (tgt := 19) hx hb dX12_pullBy_15 (by decide) ?_
      exact w_X12_pullBy_19 X hR hr  x3 x4 (2 * x2) h ls H locs hf I (lv_sub hl [3, 4] rfl)
def f_X12_pullBy (o0 : Nat) (x1 : Int32) (x2 : Int32) (x3 : Int32) (x4 : Int32) (x5 : Int32) (x6 : Int32) (h : AH) : Option (Int32 × AH) := f_X12_pullBy_0 o0 x1 x2 x3 x4 x5 x6 h
end
theorem c_X12_pullBy (l : Launch) (g : GG) (o0 : Nat) (x1 : Int32) (x2 : Int32) (x3 : Int32) (x4 : Int32) (x5 : Int32) (x6 : Int32) {h : AH} {res : Int32 × AH} (hf : f_X12_pullBy o0 x1 x2 x3 x4 x5 x6 h = some res) : CM l g yX12_pullBy cX12_pullBy 8 (some (.int)) 89 5696 0 0 [.ref (rfG g o0), .int x1, .int x2, .int x3, .int x4, .int x5, .int x6] h (some (.int res.1)) res.2 :=
  k_body (by decide) (Nat.le_of_ble_eq_true rfl) (fun p e s m below meth c R ls hR hr X I hl => w_X12_pullBy_0 X ⟨Nat.le_of_eq hR.1.symm, Nat.le_of_eq hR.2.1.symm⟩ hr o0 x1 x2 x3 x4 x5 x6 h ls s.heap [] hf I (lv_sub hl [0, 1, 2, 3, 4, 5, 6] rfl))
/-! TrapCornerModel.pull([III)I -/
theorem dX12_pull_0 : decode cX12_pull 0 = .ok (.aload_n 0, 1) := by decide +kernel
theorem dX12_pull_1 : decode cX12_pull 1 = .ok (.aload_n 1, 1) := by decide +kernel
theorem dX12_pull_2 : decode cX12_pull 2 = .ok (.iconst 2, 1) := by decide +kernel
theorem dX12_pull_3 : decode cX12_pull 3 = .ok (.iload_n 3, 1) := by decide +kernel
theorem dX12_pull_4 : decode cX12_pull 4 = .ok (.imul, 1) := by decide +kernel
theorem dX12_pull_5 : decode cX12_pull 5 = .ok (.iconst 0, 1) := by decide +kernel
theorem dX12_pull_6 : decode cX12_pull 6 = .ok (.iadd, 1) := by decide +kernel
theorem dX12_pull_7 : decode cX12_pull 7 = .ok (.iaload, 1) := by decide +kernel
theorem dX12_pull_8 : decode cX12_pull 8 = .ok (.aload_n 0, 1) := by decide +kernel
theorem dX12_pull_9 : decode cX12_pull 9 = .ok (.iload_n 2, 1) := by decide +kernel
theorem dX12_pull_10 : decode cX12_pull 10 = .ok (.iconst 0, 1) := by decide +kernel
theorem dX12_pull_11 : decode cX12_pull 11 = .ok (.invokevirtual 325, 3) := by decide +kernel
theorem dX12_pull_14 : decode cX12_pull 14 = .ok (.if_icmp .ne 7, 3) := by decide +kernel
theorem dX12_pull_17 : decode cX12_pull 17 = .ok (.iconst 1, 1) := by decide +kernel
theorem dX12_pull_18 : decode cX12_pull 18 = .ok (.goto 4, 3) := by decide +kernel
theorem dX12_pull_21 : decode cX12_pull 21 = .ok (.iconst 0, 1) := by decide +kernel
theorem dX12_pull_22 : decode cX12_pull 22 = .ok (.aload_n 0, 1) := by decide +kernel
theorem dX12_pull_23 : decode cX12_pull 23 = .ok (.iload_n 2, 1) := by decide +kernel
theorem dX12_pull_24 : decode cX12_pull 24 = .ok (.iconst 1, 1) := by decide +kernel
theorem dX12_pull_25 : decode cX12_pull 25 = .ok (.invokevirtual 325, 3) := by decide +kernel
theorem dX12_pull_28 : decode cX12_pull 28 = .ok (.aload_n 1, 1) := by decide +kernel
theorem dX12_pull_29 : decode cX12_pull 29 = .ok (.iload_n 2, 1) := by decide +kernel
theorem dX12_pull_30 : decode cX12_pull 30 = .ok (.iconst 0, 1) := by decide +kernel
theorem dX12_pull_31 : decode cX12_pull 31 = .ok (.invokestatic 328, 3) := by decide +kernel
theorem dX12_pull_34 : decode cX12_pull 34 = .ok (.aload_n 1, 1) := by decide +kernel
theorem dX12_pull_35 : decode cX12_pull 35 = .ok (.iconst 2, 1) := by decide +kernel
theorem dX12_pull_36 : decode cX12_pull 36 = .ok (.iload_n 3, 1) := by decide +kernel
theorem dX12_pull_37 : decode cX12_pull 37 = .ok (.imul, 1) := by decide +kernel
theorem dX12_pull_38 : decode cX12_pull 38 = .ok (.iconst 1, 1) := by decide +kernel
theorem dX12_pull_39 : decode cX12_pull 39 = .ok (.iadd, 1) := by decide +kernel
theorem dX12_pull_40 : decode cX12_pull 40 = .ok (.iaload, 1) := by decide +kernel
theorem dX12_pull_41 : decode cX12_pull 41 = .ok (.aload_n 1, 1) := by decide +kernel
theorem dX12_pull_42 : decode cX12_pull 42 = .ok (.iload_n 2, 1) := by decide +kernel
theorem dX12_pull_43 : decode cX12_pull 43 = .ok (.iconst 1, 1) := by decide +kernel
theorem dX12_pull_44 : decode cX12_pull 44 = .ok (.invokestatic 328, 3) := by decide +kernel
theorem dX12_pull_47 : decode cX12_pull 47 = .ok (.aload_n 1, 1) := by decide +kernel
theorem dX12_pull_48 : decode cX12_pull 48 = .ok (.bipush 30, 2) := by decide +kernel
theorem dX12_pull_50 : decode cX12_pull 50 = .ok (.iaload, 1) := by decide +kernel
theorem dX12_pull_51 : decode cX12_pull 51 = .ok (.invokevirtual 332, 3) := by decide +kernel
theorem dX12_pull_54 : decode cX12_pull 54 = .ok (.ireturn, 1) := by decide +kernel
theorem vk_TrapCornerModel_332 : VK "TrapCornerModel" 332 [12] yX12_pullBy 6 := ⟨tw_1697, tw_1699, tw_13, ⟨by decide, by decide⟩, by decide +kernel, fun ci hci => by
  have hci := List.mem_singleton.mp hci
  subst hci
  exact ⟨_, rfl, tp_88⟩⟩
section
variable {g : GG} {p : Program} {l : Launch} {e : Env} {R : Room} {s : State} {m : MethodId} {args : Array Value} {below : List Frame} {meth : Method} {c : Code} {n0 z0 : Nat}
def f_X12_pull_22  (o0 : Nat) (o1 : Nat) (x2 : Int32) (x3 : Int32) (s0 : Nat) (s1 : Int32) (h : AH) : Option (Int32 × AH) :=
  (isC [12] h o0).bind fun _ =>
  cN (f_X12_of o0 x2 1 h) h fun v1 h2 =>
  cN (f_X12_folk o1 x2 0 h2) h2 fun v6 h7 =>
  (aI 0 h7 o1 ((2 * x3) + 1)).bind fun v10 =>
  cN (f_X12_folk o1 x2 1 h7) h7 fun v12 h13 =>
  (aI 0 h13 o1 30).bind fun v16 =>
  (isC [12] h13 s0).bind fun _ =>
  cN (f_X12_pullBy s0 s1 v1 v6 v10 v12 v16 h13) h13 fun v18 h19 =>
  some (v18, h19)
set_option maxHeartbeats 1000000 in
theorem w_X12_pull_22 (X : Cx g p s m args meth c cX12_pull 4 "TrapCornerModel") (hR : 90 ≤ R.frames ∧ 5760 ≤ R.locals) (hr : meth.sig.returnType = (some (.int))) {res : Int32 × AH} : ∀ (o0 : Nat) (o1 : Nat) (x2 : Int32) (x3 : Int32) (s0 : Nat) (s1 : Int32) (h : AH) (ls : Array Slot) (H : Heap) (locs : List Loc), f_X12_pull_22 o0 o1 x2 x3 s0 s1 h = some res → Iv g s n0 z0 h H locs 0 0 → lv_has ls 4 [(0, .ref (rfG g o0)), (1, .ref (rfG g o1)), (2, .int x2), (3, .int x3)] → W p l e R s m args below meth c H locs 0 0 (MQ below (QG g (some (.int res.1)) res.2) args s 0 0 (AG g)) (F0 m 22 ls [.int s1, .ref (rfG g s0)]) := by
  have hx := X.1
  have hb := X.2.1
  intro o0 o1 x2 x3 s0 s1 h ls H locs hf I hl
  unfold f_X12_pull_22 at hf
  refine lv_aload_n hx hb dX12_pull_22 rfl (lv_at hl 0 rfl) ?_
  refine lv_iload_n hx hb dX12_pull_23 rfl (lv_at hl 2 rfl) ?_
  refine lv_iconst (v := 1) hx hb dX12_pull_24 (by decide) ?_
  obtain ⟨_, g5, hf⟩ := Option.bind_eq_some_iff.mp hf
  obtain ⟨v1, h2, e3, z4, hf⟩ := cN_spec hf
  refine k_Vi (As := [.int x2, .int 1]) (rest := [.int s1, .ref (rfG g s0)]) X I (c_X12_of l g o0 x2 1 e3) z4 g5 vk_TrapCornerModel_325 tw_1651 ⟨Nat.le_trans (by decide) hR.1, Nat.le_trans (by decide) hR.2⟩ ⟨Nat.zero_le _, Nat.zero_le _⟩ rfl hl.1 rfl (Nat.le_of_ble_eq_true rfl) dX12_pull_25 (fun H locs I => ?_)
  refine lv_aload_n hx hb dX12_pull_28 rfl (lv_at hl 1 rfl) ?_
  refine lv_iload_n hx hb dX12_pull_29 rfl (lv_at hl 2 rfl) ?_
  refine lv_iconst (v := 0) hx hb dX12_pull_30 (by decide) ?_
  obtain ⟨v6, h7, e8, z9, hf⟩ := cN_spec hf
  refine k_Si (As := [.ref (rfG g o1), .int x2, .int 0]) (rest := [.int v1, .int s1, .ref (rfG g s0)]) X I (c_X12_folk l g o1 x2 0 e8) z9 sk_TrapCornerModel_328 tw_1647 ⟨Nat.le_trans (by decide) hR.1, Nat.le_trans (by decide) hR.2⟩ ⟨Nat.zero_le _, Nat.zero_le _⟩ rfl hl.1 rfl (Nat.le_of_ble_eq_true rfl) dX12_pull_31 (fun H locs I => ?_)
  refine lv_aload_n hx hb dX12_pull_34 rfl (lv_at hl 1 rfl) ?_
  refine lv_iconst (v := 2) hx hb dX12_pull_35 (by decide) ?_
  refine lv_iload_n hx hb dX12_pull_36 rfl (lv_at hl 3 rfl) ?_
  refine lv_imul hx hb dX12_pull_37 ?_
  refine lv_iconst (v := 1) hx hb dX12_pull_38 (by decide) ?_
  refine lv_iadd hx hb dX12_pull_39 ?_
  obtain ⟨v10, e11, hf⟩ := Option.bind_eq_some_iff.mp hf
  refine r_aI0 X I e11 dX12_pull_40 ?_
  refine lv_aload_n hx hb dX12_pull_41 rfl (lv_at hl 1 rfl) ?_
  refine lv_iload_n hx hb dX12_pull_42 rfl (lv_at hl 2 rfl) ?_
  refine lv_iconst (v := 1) hx hb dX12_pull_43 (by decide) ?_
  obtain ⟨v12, h13, e14, z15, hf⟩ := cN_spec hf
  refine k_Si (As := [.ref (rfG g o1), .int x2, .int 1]) (rest := [.int v10, .int v6, .int v1, .int s1, .ref (rfG g s0)]) X I (c_X12_folk l g o1 x2 1 e14) z15 sk_TrapCornerModel_328 tw_1647 ⟨Nat.le_trans (by decide) hR.1, Nat.le_trans (by decide) hR.2⟩ ⟨Nat.zero_le _, Nat.zero_le _⟩ rfl hl.1 rfl (Nat.le_of_ble_eq_true rfl) dX12_pull_44 (fun H locs I => ?_)
  refine lv_aload_n hx hb dX12_pull_47 rfl (lv_at hl 1 rfl) ?_
  refine lv_bipush (v := 30) hx hb dX12_pull_48 (by decide) ?_
  obtain ⟨v16, e17, hf⟩ := Option.bind_eq_some_iff.mp hf
  refine r_aI0 X I e17 dX12_pull_50 ?_
  obtain ⟨_, g22, hf⟩ := Option.bind_eq_some_iff.mp hf
  obtain ⟨v18, h19, e20, z21, hf⟩ := cN_spec hf
  refine k_Vi (As := [.int s1, .int v1, .int v6, .int v10, .int v12, .int v16]) (rest := []) X I (c_X12_pullBy l g s0 s1 v1 v6 v10 v12 v16 e20) z21 g22 vk_TrapCornerModel_332 tw_1700 ⟨Nat.le_trans (by decide) hR.1, Nat.le_trans (by decide) hR.2⟩ ⟨Nat.zero_le _, Nat.zero_le _⟩ rfl hl.1 rfl (Nat.le_of_ble_eq_true rfl) dX12_pull_51 (fun H locs I => ?_)
  cases hf
  exact k_ri X I hr dX12_pull_54
def f_X12_pull_0  (o0 : Nat) (o1 : Nat) (x2 : Int32) (x3 : Int32) (h : AH) : Option (Int32 × AH) :=
  (aI 0 h o1 ((2 * x3) + 0)).bind fun v1 =>
  (isC [12] h o0).bind fun _ =>
  cN (f_X12_of o0 x2 0 h) h fun v3 h4 =>
  if v1 = v3 then
    f_X12_pull_22 o0 o1 x2 x3 o0 1 h4
  else
    f_X12_pull_22 o0 o1 x2 x3 o0 0 h4
set_option maxHeartbeats 1000000 in
theorem w_X12_pull_0 (X : Cx g p s m args meth c cX12_pull 4 "TrapCornerModel") (hR : 90 ≤ R.frames ∧ 5760 ≤ R.locals) (hr : meth.sig.returnType = (some (.int))) {res : Int32 × AH} : ∀ (o0 : Nat) (o1 : Nat) (x2 : Int32) (x3 : Int32) (h : AH) (ls : Array Slot) (H : Heap) (locs : List Loc), f_X12_pull_0 o0 o1 x2 x3 h = some res → Iv g s n0 z0 h H locs 0 0 → lv_has ls 4 [(0, .ref (rfG g o0)), (1, .ref (rfG g o1)), (2, .int x2), (3, .int x3)] → W p l e R s m args below meth c H locs 0 0 (MQ below (QG g (some (.int res.1)) res.2) args s 0 0 (AG g)) (F0 m 0 ls []) := by
  have hx := X.1
  have hb := X.2.1
  intro o0 o1 x2 x3 h ls H locs hf I hl
  unfold f_X12_pull_0 at hf
  refine lv_aload_n hx hb dX12_pull_0 rfl (lv_at hl 0 rfl) ?_
  refine lv_aload_n hx hb dX12_pull_1 rfl (lv_at hl 1 rfl) ?_
  refine lv_iconst (v := 2) hx hb dX12_pull_2 (by decide) ?_
  refine lv_iload_n hx hb dX12_pull_3 rfl (lv_at hl 3 rfl) ?_
  refine lv_imul hx hb dX12_pull_4 ?_
  refine lv_iconst (v := 0) hx hb dX12_pull_5 (by decide) ?_
  refine lv_iadd hx hb dX12_pull_6 ?_
  obtain ⟨v1, e2, hf⟩ := Option.bind_eq_some_iff.mp hf
  refine r_aI0 X I e2 dX12_pull_7 ?_
  refine lv_aload_n hx hb dX12_pull_8 rfl (lv_at hl 0 rfl) ?_
  refine lv_iload_n hx hb dX12_pull_9 rfl (lv_at hl 2 rfl) ?_
  refine lv_iconst (v := 0) hx hb dX12_pull_10 (by decide) ?_
  obtain ⟨_, g7, hf⟩ := Option.bind_eq_some_iff.mp hf
  obtain ⟨v3, h4, e5, z6, hf⟩ := cN_spec hf
  refine k_Vi (As := [.int x2, .int 0]) (rest := [.int v1, .ref (rfG g o0)]) X I (c_X12_of l g o0 x2 0 e5) z6 g7 vk_TrapCornerModel_325 tw_1651 ⟨Nat.le_trans (by decide) hR.1, Nat.le_trans (by decide) hR.2⟩ ⟨Nat.zero_le _, Nat.zero_le _⟩ rfl hl.1 rfl (Nat.le_of_ble_eq_true rfl) dX12_pull_11 (fun H locs I => ?_)
  refine lv_icmp_ne (tgt := 21) hx hb dX12_pull_14 (by decide) (fun c8 => ?_) (fun c8 => ?_)
  · rw [if_neg c8] at hf
    refine lv_iconst (v := 0) hx hb dX12_pull_21 (by decide) ?_
    exact w_X12_pull_22 X hR hr  o0 o1 x2 x3 o0 0 h4 ls H locs hf I (lv_sub hl [0, 1, 2, 3] rfl)
  · rw [if_pos c8] at hf
    refine lv_iconst (v := 1) hx hb dX12_pull_17 (by decide) ?_
    refine lv_goto (tgt := 22) hx hb dX12_pull_18 (by decide) ?_
    exact w_X12_pull_22 X hR hr  o0 o1 x2 x3 o0 1 h4 ls H locs hf I (lv_sub hl [0, 1, 2, 3] rfl)
def f_X12_pull (o0 : Nat) (o1 : Nat) (x2 : Int32) (x3 : Int32) (h : AH) : Option (Int32 × AH) := f_X12_pull_0 o0 o1 x2 x3 h
end
theorem c_X12_pull (l : Launch) (g : GG) (o0 : Nat) (o1 : Nat) (x2 : Int32) (x3 : Int32) {h : AH} {res : Int32 × AH} (hf : f_X12_pull o0 o1 x2 x3 h = some res) : CM l g yX12_pull cX12_pull 4 (some (.int)) 90 5760 0 0 [.ref (rfG g o0), .ref (rfG g o1), .int x2, .int x3] h (some (.int res.1)) res.2 :=
  k_body (by decide) (Nat.le_of_ble_eq_true rfl) (fun p e s m below meth c R ls hR hr X I hl => w_X12_pull_0 X ⟨Nat.le_of_eq hR.1.symm, Nat.le_of_eq hR.2.1.symm⟩ hr o0 o1 x2 x3 h ls s.heap [] hf I (lv_sub hl [0, 1, 2, 3] rfl))
/-! TrapCornerModel.isTrap([III)Z -/
theorem dX12_isTrap_0 : decode cX12_isTrap 0 = .ok (.aload_n 0, 1) := by decide +kernel
theorem dX12_isTrap_1 : decode cX12_isTrap 1 = .ok (.getfield 335, 3) := by decide +kernel
theorem dX12_isTrap_4 : decode cX12_isTrap 4 = .ok (.iload_n 3, 1) := by decide +kernel
theorem dX12_isTrap_5 : decode cX12_isTrap 5 = .ok (.invokestatic 229, 3) := by decide +kernel
theorem dX12_isTrap_8 : decode cX12_isTrap 8 = .ok (.ifCond .ne 43, 3) := by decide +kernel
theorem dX12_isTrap_11 : decode cX12_isTrap 11 = .ok (.aload_n 1, 1) := by decide +kernel
theorem dX12_isTrap_12 : decode cX12_isTrap 12 = .ok (.iconst 2, 1) := by decide +kernel
theorem dX12_isTrap_13 : decode cX12_isTrap 13 = .ok (.iload_n 3, 1) := by decide +kernel
theorem dX12_isTrap_14 : decode cX12_isTrap 14 = .ok (.imul, 1) := by decide +kernel
theorem dX12_isTrap_15 : decode cX12_isTrap 15 = .ok (.iconst 1, 1) := by decide +kernel
theorem dX12_isTrap_16 : decode cX12_isTrap 16 = .ok (.iadd, 1) := by decide +kernel
theorem dX12_isTrap_17 : decode cX12_isTrap 17 = .ok (.iaload, 1) := by decide +kernel
theorem dX12_isTrap_18 : decode cX12_isTrap 18 = .ok (.ifCond .le 33, 3) := by decide +kernel
theorem dX12_isTrap_21 : decode cX12_isTrap 21 = .ok (.aload_n 1, 1) := by decide +kernel
theorem dX12_isTrap_22 : decode cX12_isTrap 22 = .ok (.iconst 2, 1) := by decide +kernel
theorem dX12_isTrap_23 : decode cX12_isTrap 23 = .ok (.iload_n 3, 1) := by decide +kernel
theorem dX12_isTrap_24 : decode cX12_isTrap 24 = .ok (.imul, 1) := by decide +kernel
theorem dX12_isTrap_25 : decode cX12_isTrap 25 = .ok (.iconst 0, 1) := by decide +kernel
theorem dX12_isTrap_26 : decode cX12_isTrap 26 = .ok (.iadd, 1) := by decide +kernel
theorem dX12_isTrap_27 : decode cX12_isTrap 27 = .ok (.iaload, 1) := by decide +kernel
theorem dX12_isTrap_28 : decode cX12_isTrap 28 = .ok (.ifCond .le 23, 3) := by decide +kernel
theorem dX12_isTrap_31 : decode cX12_isTrap 31 = .ok (.aload_n 0, 1) := by decide +kernel
theorem dX12_isTrap_32 : decode cX12_isTrap 32 = .ok (.aload_n 1, 1) := by decide +kernel
theorem dX12_isTrap_33 : decode cX12_isTrap 33 = .ok (.iload_n 2, 1) := by decide +kernel
theorem dX12_isTrap_34 : decode cX12_isTrap 34 = .ok (.iload_n 3, 1) := by decide +kernel
theorem dX12_isTrap_35 : decode cX12_isTrap 35 = .ok (.invokevirtual 338, 3) := by decide +kernel
theorem dX12_isTrap_38 : decode cX12_isTrap 38 = .ok (.aload_n 0, 1) := by decide +kernel
theorem dX12_isTrap_39 : decode cX12_isTrap 39 = .ok (.getfield 37, 3) := by decide +kernel
theorem dX12_isTrap_42 : decode cX12_isTrap 42 = .ok (.iconst 0, 1) := by decide +kernel
theorem dX12_isTrap_43 : decode cX12_isTrap 43 = .ok (.iaload, 1) := by decide +kernel
theorem dX12_isTrap_44 : decode cX12_isTrap 44 = .ok (.if_icmp .lt 7, 3) := by decide +kernel
theorem dX12_isTrap_47 : decode cX12_isTrap 47 = .ok (.iconst 1, 1) := by decide +kernel
theorem dX12_isTrap_48 : decode cX12_isTrap 48 = .ok (.goto 4, 3) := by decide +kernel
theorem dX12_isTrap_51 : decode cX12_isTrap 51 = .ok (.iconst 0, 1) := by decide +kernel
theorem dX12_isTrap_52 : decode cX12_isTrap 52 = .ok (.ireturn, 1) := by decide +kernel
theorem lk_TrapCornerModel_335 : LK "TrapCornerModel" 335 [12] 39 := by
  intro ci hci
  have hci := List.mem_singleton.mp hci
  subst hci
  exact ⟨RX12, TX12, 50, "TrapCornerModel", ck_12, by decide, tw_1326, Or.inl rfl⟩
theorem vk_TrapCornerModel_338 : VK "TrapCornerModel" 338 [12] yX12_pull 3 := ⟨tw_1693, tw_1695, tw_13, ⟨by decide, by decide⟩, by decide +kernel, fun ci hci => by
  have hci := List.mem_singleton.mp hci
  subst hci
  exact ⟨_, rfl, tp_87⟩⟩
section
variable {g : GG} {p : Program} {l : Launch} {e : Env} {R : Room} {s : State} {m : MethodId} {args : Array Value} {below : List Frame} {meth : Method} {c : Code} {n0 z0 : Nat}
def f_X12_isTrap_0  (o0 : Nat) (o1 : Nat) (x2 : Int32) (x3 : Int32) (h : AH) : Option (Int32 × AH) :=
  (gI [12] h o0 39).bind fun v1 =>
  cN (f_X12_has v1 x3 h) h fun v3 h4 =>
  if v3 = 0 then
    (aI 0 h4 o1 ((2 * x3) + 1)).bind fun v8 =>
    if v8 ≤ 0 then
      some (0, h4)
    else
      (aI 0 h4 o1 ((2 * x3) + 0)).bind fun v11 =>
      if v11 ≤ 0 then
        some (0, h4)
      else
        (isC [12] h4 o0).bind fun _ =>
        cN (f_X12_pull o0 o1 x2 x3 h4) h4 fun v14 h15 =>
        (gR [12] h15 o0 18).bind fun v19 =>
        (aI 0 h15 v19 0).bind fun v21 =>
        if v14 < v21 then
          some (0, h15)
        else
          some (1, h15)
  else
    some (0, h4)
set_option maxHeartbeats 1000000 in
theorem w_X12_isTrap_0 (X : Cx g p s m args meth c cX12_isTrap 4 "TrapCornerModel") (hR : 91 ≤ R.frames ∧ 5824 ≤ R.locals) (hr : meth.sig.returnType = (some (.boolean))) {res : Int32 × AH} : ∀ (o0 : Nat) (o1 : Nat) (x2 : Int32) (x3 : Int32) (h : AH) (ls : Array Slot) (H : Heap) (locs : List Loc), f_X12_isTrap_0 o0 o1 x2 x3 h = some res → Iv g s n0 z0 h H locs 0 0 → lv_has ls 4 [(0, .ref (rfG g o0)), (1, .ref (rfG g o1)), (2, .int x2), (3, .int x3)] → W p l e R s m args below meth c H locs 0 0 (MQ below (QG g (some (.int res.1)) res.2) args s 0 0 (AG g)) (F0 m 0 ls []) := by
  have hx := X.1
  have hb := X.2.1
  intro o0 o1 x2 x3 h ls H locs hf I hl
  unfold f_X12_isTrap_0 at hf
  refine lv_aload_n hx hb dX12_isTrap_0 rfl (lv_at hl 0 rfl) ?_
  obtain ⟨v1, e2, hf⟩ := Option.bind_eq_some_iff.mp hf
  refine r_gI X I e2 lk_TrapCornerModel_335 dX12_isTrap_1 ?_
  refine lv_iload_n hx hb dX12_isTrap_4 rfl (lv_at hl 3 rfl) ?_
  obtain ⟨v3, h4, e5, z6, hf⟩ := cN_spec hf
  refine k_Si (As := [.int v1, .int x3]) (rest := []) X I (c_X12_has l g v1 x3 e5) z6 sk_TrapCornerModel_229 tw_1520 ⟨Nat.le_trans (by decide) hR.1, Nat.le_trans (by decide) hR.2⟩ ⟨Nat.zero_le _, Nat.zero_le _⟩ rfl hl.1 rfl (Nat.le_of_ble_eq_true rfl) dX12_isTrap_5 (fun H locs I => ?_)
  refine lv_if_ne (tgt := 51) hx hb dX12_isTrap_8 (by decide) (fun c7 => ?_) (fun c7 => ?_)
  · rw [if_neg c7] at hf
    refine lv_iconst (v := 0) hx hb dX12_isTrap_51 (by decide) ?_
    cases hf
    exact k_rz X I hr (Or.inl rfl) dX12_isTrap_52
  · rw [if_pos c7] at hf
    refine lv_aload_n hx hb dX12_isTrap_11 rfl (lv_at hl 1 rfl) ?_
    refine lv_iconst (v := 2) hx hb dX12_isTrap_12 (by decide) ?_
    refine lv_iload_n hx hb dX12_isTrap_13 rfl (lv_at hl 3 rfl) ?_
    refine lv_imul hx hb dX12_isTrap_14 ?_
    refine lv_iconst (v := 1) hx hb dX12_isTrap_15 (by decide) ?_
    refine lv_iadd hx hb dX12_isTrap_16 ?_
    obtain ⟨v8, e9, hf⟩ := Option.bind_eq_some_iff.mp hf
    refine r_aI0 X I e9 dX12_isTrap_17 ?_
    refine lv_if_le (tgt := 51) hx hb dX12_isTrap_18 (by decide) (fun c10 => ?_) (fun c10 => ?_)
    · rw [if_pos c10] at hf
      refine lv_iconst (v := 0) hx hb dX12_isTrap_51 (by decide) ?_
      cases hf
      exact k_rz X I hr (Or.inl rfl) dX12_isTrap_52
    · rw [if_neg c10] at hf
      refine lv_aload_n hx hb dX12_isTrap_21 rfl (lv_at hl 1 rfl) ?_
      refine lv_iconst (v := 2) hx hb dX12_isTrap_22 (by decide) ?_
      refine lv_iload_n hx hb dX12_isTrap_23 rfl (lv_at hl 3 rfl) ?_
      refine lv_imul hx hb dX12_isTrap_24 ?_
      refine lv_iconst (v := 0) hx hb dX12_isTrap_25 (by decide) ?_
      refine lv_iadd hx hb dX12_isTrap_26 ?_
      obtain ⟨v11, e12, hf⟩ := Option.bind_eq_some_iff.mp hf
      refine r_aI0 X I e12 dX12_isTrap_27 ?_
      refine lv_if_le (tgt := 51) hx hb dX12_isTrap_28 (by decide) (fun c13 => ?_) (fun c13 => ?_)
      · rw [if_pos c13] at hf
        refine lv_iconst (v := 0) hx hb dX12_isTrap_51 (by decide) ?_
        cases hf
        exact k_rz X I hr (Or.inl rfl) dX12_isTrap_52
      · rw [if_neg c13] at hf
        refine lv_aload_n hx hb dX12_isTrap_31 rfl (lv_at hl 0 rfl) ?_
        refine lv_aload_n hx hb dX12_isTrap_32 rfl (lv_at hl 1 rfl) ?_
        refine lv_iload_n hx hb dX12_isTrap_33 rfl (lv_at hl 2 rfl) ?_
        refine lv_iload_n hx hb dX12_isTrap_34 rfl (lv_at hl 3 rfl) ?_
        obtain ⟨_, g18, hf⟩ := Option.bind_eq_some_iff.mp hf
        obtain ⟨v14, h15, e16, z17, hf⟩ := cN_spec hf
        refine k_Vi (As := [.ref (rfG g o1), .int x2, .int x3]) (rest := []) X I (c_X12_pull l g o0 o1 x2 x3 e16) z17 g18 vk_TrapCornerModel_338 tw_1696 ⟨Nat.le_trans (by decide) hR.1, Nat.le_trans (by decide) hR.2⟩ ⟨Nat.zero_le _, Nat.zero_le _⟩ rfl hl.1 rfl (Nat.le_of_ble_eq_true rfl) dX12_isTrap_35 (fun H locs I => ?_)
        refine lv_aload_n hx hb dX12_isTrap_38 rfl (lv_at hl 0 rfl) ?_
        obtain ⟨v19, e20, hf⟩ := Option.bind_eq_some_iff.mp hf
        refine r_gR X I e20 lk_TrapCornerModel_37 dX12_isTrap_39 ?_
        refine lv_iconst (v := 0) hx hb dX12_isTrap_42 (by decide) ?_
        obtain ⟨v21, e22, hf⟩ := Option.bind_eq_some_iff.mp hf
        refine r_aI0 X I e22 dX12_isTrap_43 ?_
        refine lv_icmp_lt (tgt := 51) hx hb dX12_isTrap_44 (by decide) (fun c23 => ?_) (fun c23 => ?_)
        · rw [if_pos c23] at hf
          refine lv_iconst (v := 0) hx hb dX12_isTrap_51 (by decide) ?_
          cases hf
          exact k_rz X I hr (Or.inl rfl) dX12_isTrap_52
        · rw [if_neg c23] at hf
          refine lv_iconst (v := 1) hx hb dX12_isTrap_47 (by decide) ?_
          refine lv_goto (tgt := 52) hx hb dX12_isTrap_48 (by decide) ?_
          cases hf
          exact k_rz X I hr (Or.inr rfl) dX12_isTrap_52
def f_X12_isTrap (o0 : Nat) (o1 : Nat) (x2 : Int32) (x3 : Int32) (h : AH) : Option (Int32 × AH) := f_X12_isTrap_0 o0 o1 x2 x3 h
end
theorem c_X12_isTrap (l : Launch) (g : GG) (o0 : Nat) (o1 : Nat) (x2 : Int32) (x3 : Int32) {h : AH} {res : Int32 × AH} (hf : f_X12_isTrap o0 o1 x2 x3 h = some res) : CM l g yX12_isTrap cX12_isTrap 4 (some (.boolean)) 91 5824 0 0 [.ref (rfG g o0), .ref (rfG g o1), .int x2, .int x3] h (some (.int res.1)) res.2 :=
  k_body (by decide) (Nat.le_of_ble_eq_true rfl) (fun p e s m below meth c R ls hR hr X I hl => w_X12_isTrap_0 X ⟨Nat.le_of_eq hR.1.symm, Nat.le_of_eq hR.2.1.symm⟩ hr o0 o1 x2 x3 h ls s.heap [] hf I (lv_sub hl [0, 1, 2, 3] rfl))
/-! TrapCornerModel.goWalk([II)V -/
theorem dX12_goWalk_0 : decode cX12_goWalk 0 = .ok (.aload_n 1, 1) := by decide +kernel
theorem dX12_goWalk_1 : decode cX12_goWalk 1 = .ok (.iload_n 2, 1) := by decide +kernel
theorem dX12_goWalk_2 : decode cX12_goWalk 2 = .ok (.iconst 2, 1) := by decide +kernel
theorem dX12_goWalk_3 : decode cX12_goWalk 3 = .ok (.invokestatic 328, 3) := by decide +kernel
theorem dX12_goWalk_6 : decode cX12_goWalk 6 = .ok (.istore_n 3, 1) := by decide +kernel
theorem dX12_goWalk_7 : decode cX12_goWalk 7 = .ok (.iconst 1, 1) := by decide +kernel
theorem dX12_goWalk_8 : decode cX12_goWalk 8 = .ok (.istore 4, 2) := by decide +kernel
theorem dX12_goWalk_10 : decode cX12_goWalk 10 = .ok (.iload 4, 2) := by decide +kernel
theorem dX12_goWalk_12 : decode cX12_goWalk 12 = .ok (.aload_n 0, 1) := by decide +kernel
theorem dX12_goWalk_13 : decode cX12_goWalk 13 = .ok (.iload_n 2, 1) := by decide +kernel
theorem dX12_goWalk_14 : decode cX12_goWalk 14 = .ok (.iload_n 3, 1) := by decide +kernel
theorem dX12_goWalk_15 : decode cX12_goWalk 15 = .ok (.invokevirtual 345, 3) := by decide +kernel
theorem dX12_goWalk_18 : decode cX12_goWalk 18 = .ok (.if_icmp .gt 142, 3) := by decide +kernel
theorem dX12_goWalk_21 : decode cX12_goWalk 21 = .ok (.aload_n 0, 1) := by decide +kernel
theorem dX12_goWalk_22 : decode cX12_goWalk 22 = .ok (.iload_n 2, 1) := by decide +kernel
theorem dX12_goWalk_23 : decode cX12_goWalk 23 = .ok (.iload_n 3, 1) := by decide +kernel
theorem dX12_goWalk_24 : decode cX12_goWalk 24 = .ok (.iload 4, 2) := by decide +kernel
theorem dX12_goWalk_26 : decode cX12_goWalk 26 = .ok (.invokevirtual 348, 3) := by decide +kernel
theorem dX12_goWalk_29 : decode cX12_goWalk 29 = .ok (.istore 5, 2) := by decide +kernel
theorem dX12_goWalk_31 : decode cX12_goWalk 31 = .ok (.aload_n 0, 1) := by decide +kernel
theorem dX12_goWalk_32 : decode cX12_goWalk 32 = .ok (.aload_n 1, 1) := by decide +kernel
theorem dX12_goWalk_33 : decode cX12_goWalk 33 = .ok (.iload_n 2, 1) := by decide +kernel
theorem dX12_goWalk_34 : decode cX12_goWalk 34 = .ok (.iload 5, 2) := by decide +kernel
theorem dX12_goWalk_36 : decode cX12_goWalk 36 = .ok (.invokevirtual 352, 3) := by decide +kernel
theorem dX12_goWalk_39 : decode cX12_goWalk 39 = .ok (.ifCond .ne 6, 3) := by decide +kernel
theorem dX12_goWalk_42 : decode cX12_goWalk 42 = .ok (.goto 112, 3) := by decide +kernel
theorem dX12_goWalk_45 : decode cX12_goWalk 45 = .ok (.aload_n 0, 1) := by decide +kernel
theorem dX12_goWalk_46 : decode cX12_goWalk 46 = .ok (.dup, 1) := by decide +kernel
theorem dX12_goWalk_47 : decode cX12_goWalk 47 = .ok (.getfield 335, 3) := by decide +kernel
theorem dX12_goWalk_50 : decode cX12_goWalk 50 = .ok (.iconst 1, 1) := by decide +kernel
theorem dX12_goWalk_51 : decode cX12_goWalk 51 = .ok (.iload 5, 2) := by decide +kernel
theorem dX12_goWalk_53 : decode cX12_goWalk 53 = .ok (.ishl, 1) := by decide +kernel
theorem dX12_goWalk_54 : decode cX12_goWalk 54 = .ok (.ior, 1) := by decide +kernel
theorem dX12_goWalk_55 : decode cX12_goWalk 55 = .ok (.putfield 335, 3) := by decide +kernel
theorem dX12_goWalk_58 : decode cX12_goWalk 58 = .ok (.aload_n 0, 1) := by decide +kernel
theorem dX12_goWalk_59 : decode cX12_goWalk 59 = .ok (.aload_n 1, 1) := by decide +kernel
theorem dX12_goWalk_60 : decode cX12_goWalk 60 = .ok (.iload_n 2, 1) := by decide +kernel
theorem dX12_goWalk_61 : decode cX12_goWalk 61 = .ok (.iload 5, 2) := by decide +kernel
theorem dX12_goWalk_63 : decode cX12_goWalk 63 = .ok (.invokevirtual 356, 3) := by decide +kernel
theorem dX12_goWalk_66 : decode cX12_goWalk 66 = .ok (.ifCond .eq 16, 3) := by decide +kernel
theorem dX12_goWalk_69 : decode cX12_goWalk 69 = .ok (.aload_n 0, 1) := by decide +kernel
theorem dX12_goWalk_70 : decode cX12_goWalk 70 = .ok (.dup, 1) := by decide +kernel
theorem dX12_goWalk_71 : decode cX12_goWalk 71 = .ok (.getfield 359, 3) := by decide +kernel
theorem dX12_goWalk_74 : decode cX12_goWalk 74 = .ok (.iconst 1, 1) := by decide +kernel
theorem dX12_goWalk_75 : decode cX12_goWalk 75 = .ok (.iadd, 1) := by decide +kernel
theorem dX12_goWalk_76 : decode cX12_goWalk 76 = .ok (.putfield 359, 3) := by decide +kernel
theorem dX12_goWalk_79 : decode cX12_goWalk 79 = .ok (.goto 75, 3) := by decide +kernel
theorem dX12_goWalk_82 : decode cX12_goWalk 82 = .ok (.aload_n 0, 1) := by decide +kernel
theorem dX12_goWalk_83 : decode cX12_goWalk 83 = .ok (.dup, 1) := by decide +kernel
theorem dX12_goWalk_84 : decode cX12_goWalk 84 = .ok (.getfield 362, 3) := by decide +kernel
theorem dX12_goWalk_87 : decode cX12_goWalk 87 = .ok (.iconst 1, 1) := by decide +kernel
theorem dX12_goWalk_88 : decode cX12_goWalk 88 = .ok (.iload_n 2, 1) := by decide +kernel
theorem dX12_goWalk_89 : decode cX12_goWalk 89 = .ok (.ishl, 1) := by decide +kernel
theorem dX12_goWalk_90 : decode cX12_goWalk 90 = .ok (.ior, 1) := by decide +kernel
theorem dX12_goWalk_91 : decode cX12_goWalk 91 = .ok (.putfield 362, 3) := by decide +kernel
theorem dX12_goWalk_94 : decode cX12_goWalk 94 = .ok (.aload_n 0, 1) := by decide +kernel
theorem dX12_goWalk_95 : decode cX12_goWalk 95 = .ok (.getfield 81, 3) := by decide +kernel
theorem dX12_goWalk_98 : decode cX12_goWalk 98 = .ok (.iload_n 2, 1) := by decide +kernel
theorem dX12_goWalk_99 : decode cX12_goWalk 99 = .ok (.iload 5, 2) := by decide +kernel
theorem dX12_goWalk_101 : decode cX12_goWalk 101 = .ok (.iastore, 1) := by decide +kernel
theorem dX12_goWalk_102 : decode cX12_goWalk 102 = .ok (.aload_n 1, 1) := by decide +kernel
theorem dX12_goWalk_103 : decode cX12_goWalk 103 = .ok (.iconst 2, 1) := by decide +kernel
theorem dX12_goWalk_104 : decode cX12_goWalk 104 = .ok (.iload 5, 2) := by decide +kernel
theorem dX12_goWalk_106 : decode cX12_goWalk 106 = .ok (.imul, 1) := by decide +kernel
theorem dX12_goWalk_107 : decode cX12_goWalk 107 = .ok (.iconst 1, 1) := by decide +kernel
theorem dX12_goWalk_108 : decode cX12_goWalk 108 = .ok (.iadd, 1) := by decide +kernel
theorem dX12_goWalk_109 : decode cX12_goWalk 109 = .ok (.dup2, 1) := by decide +kernel
theorem dX12_goWalk_110 : decode cX12_goWalk 110 = .ok (.iaload, 1) := by decide +kernel
theorem dX12_goWalk_111 : decode cX12_goWalk 111 = .ok (.iconst 1, 1) := by decide +kernel
theorem dX12_goWalk_112 : decode cX12_goWalk 112 = .ok (.isub, 1) := by decide +kernel
theorem dX12_goWalk_113 : decode cX12_goWalk 113 = .ok (.iastore, 1) := by decide +kernel
theorem dX12_goWalk_114 : decode cX12_goWalk 114 = .ok (.aload_n 1, 1) := by decide +kernel
theorem dX12_goWalk_115 : decode cX12_goWalk 115 = .ok (.bipush 10, 2) := by decide +kernel
theorem dX12_goWalk_117 : decode cX12_goWalk 117 = .ok (.iconst 3, 1) := by decide +kernel
theorem dX12_goWalk_118 : decode cX12_goWalk 118 = .ok (.iload_n 2, 1) := by decide +kernel
theorem dX12_goWalk_119 : decode cX12_goWalk 119 = .ok (.imul, 1) := by decide +kernel
theorem dX12_goWalk_120 : decode cX12_goWalk 120 = .ok (.iadd, 1) := by decide +kernel
theorem dX12_goWalk_121 : decode cX12_goWalk 121 = .ok (.iconst 1, 1) := by decide +kernel
theorem dX12_goWalk_122 : decode cX12_goWalk 122 = .ok (.iadd, 1) := by decide +kernel
theorem dX12_goWalk_123 : decode cX12_goWalk 123 = .ok (.bipush 99, 2) := by decide +kernel
theorem dX12_goWalk_125 : decode cX12_goWalk 125 = .ok (.aload_n 1, 1) := by decide +kernel
theorem dX12_goWalk_126 : decode cX12_goWalk 126 = .ok (.iload_n 2, 1) := by decide +kernel
theorem dX12_goWalk_127 : decode cX12_goWalk 127 = .ok (.iconst 1, 1) := by decide +kernel
theorem dX12_goWalk_128 : decode cX12_goWalk 128 = .ok (.invokestatic 328, 3) := by decide +kernel
theorem dX12_goWalk_131 : decode cX12_goWalk 131 = .ok (.iconst 1, 1) := by decide +kernel
theorem dX12_goWalk_132 : decode cX12_goWalk 132 = .ok (.iadd, 1) := by decide +kernel
theorem dX12_goWalk_133 : decode cX12_goWalk 133 = .ok (.invokestatic 321, 3) := by decide +kernel
theorem dX12_goWalk_136 : decode cX12_goWalk 136 = .ok (.iastore, 1) := by decide +kernel
theorem dX12_goWalk_137 : decode cX12_goWalk 137 = .ok (.aload_n 1, 1) := by decide +kernel
theorem dX12_goWalk_138 : decode cX12_goWalk 138 = .ok (.bipush 29, 2) := by decide +kernel
theorem dX12_goWalk_140 : decode cX12_goWalk 140 = .ok (.sipush 999, 3) := by decide +kernel
theorem dX12_goWalk_143 : decode cX12_goWalk 143 = .ok (.aload_n 1, 1) := by decide +kernel
theorem dX12_goWalk_144 : decode cX12_goWalk 144 = .ok (.bipush 29, 2) := by decide +kernel
theorem dX12_goWalk_146 : decode cX12_goWalk 146 = .ok (.iaload, 1) := by decide +kernel
theorem dX12_goWalk_147 : decode cX12_goWalk 147 = .ok (.iconst 1, 1) := by decide +kernel
theorem dX12_goWalk_148 : decode cX12_goWalk 148 = .ok (.iadd, 1) := by decide +kernel
theorem dX12_goWalk_149 : decode cX12_goWalk 149 = .ok (.invokestatic 321, 3) := by decide +kernel
theorem dX12_goWalk_152 : decode cX12_goWalk 152 = .ok (.iastore, 1) := by decide +kernel
theorem dX12_goWalk_153 : decode cX12_goWalk 153 = .ok (.return_, 1) := by decide +kernel
theorem dX12_goWalk_154 : decode cX12_goWalk 154 = .ok (.iinc 4 1, 3) := by decide +kernel
theorem dX12_goWalk_157 : decode cX12_goWalk 157 = .ok (.goto (-147), 3) := by decide +kernel
theorem dX12_goWalk_160 : decode cX12_goWalk 160 = .ok (.return_, 1) := by decide +kernel
theorem vk_TrapCornerModel_352 : VK "TrapCornerModel" 352 [12] yX12_isTrap 3 := ⟨tw_1689, tw_1691, tw_13, ⟨by decide, by decide⟩, by decide +kernel, fun ci hci => by
  have hci := List.mem_singleton.mp hci
  subst hci
  exact ⟨_, rfl, tp_86⟩⟩
theorem vk_TrapCornerModel_356 : VK "TrapCornerModel" 356 [12] yX12_usesCane 3 := ⟨tw_1711, tw_1713, tw_13, ⟨by decide, by decide⟩, by decide +kernel, fun ci hci => by
  have hci := List.mem_singleton.mp hci
  subst hci
  exact ⟨_, rfl, tp_90⟩⟩
theorem lk_TrapCornerModel_362 : LK "TrapCornerModel" 362 [12] 40 := by
  intro ci hci
  have hci := List.mem_singleton.mp hci
  subst hci
  exact ⟨RX12, TX12, 50, "TrapCornerModel", ck_12, by decide, tw_1327, Or.inl rfl⟩
theorem lk_TrapCornerModel_359 : LK "TrapCornerModel" 359 [12] 41 := by
  intro ci hci
  have hci := List.mem_singleton.mp hci
  subst hci
  exact ⟨RX12, TX12, 50, "TrapCornerModel", ck_12, by decide, tw_1328, Or.inl rfl⟩
section
variable {g : GG} {p : Program} {l : Launch} {e : Env} {R : Room} {s : State} {m : MethodId} {args : Array Value} {below : List Frame} {meth : Method} {c : Code} {n0 z0 : Nat}
def f_X12_goWalk_154 (k10 : Nat → Nat → Int32 → Int32 → Int32 → AH → Option (Unit × AH)) (o0 : Nat) (o1 : Nat) (x2 : Int32) (x3 : Int32) (x4 : Int32) (h : AH) : Option (Unit × AH) :=
  k10 o0 o1 x2 x3 (x4 + 1) h
set_option maxHeartbeats 1000000 in
theorem w_X12_goWalk_154 (X : Cx g p s m args meth c cX12_goWalk 6 "TrapCornerModel") (hR : 92 ≤ R.frames ∧ 5888 ≤ R.locals) (hr : meth.sig.returnType = none) {res : Unit × AH} {k10 : Nat → Nat → Int32 → Int32 → Int32 → AH → Option (Unit × AH)} (hk10 : ∀ (o0 : Nat) (o1 : Nat) (x2 : Int32) (x3 : Int32) (x4 : Int32) (h : AH) (ls : Array Slot) (H : Heap) (locs : List Loc), k10 o0 o1 x2 x3 x4 h = some res → Iv g s n0 z0 h H locs 0 0 → lv_has ls 6 [(0, .ref (rfG g o0)), (1, .ref (rfG g o1)), (2, .int x2), (3, .int x3), (4, .int x4)] → W p l e R s m args below meth c H locs 0 0 (MQ below (QG g none res.2) args s 0 0 (AG g)) (F0 m 10 ls [])) : ∀ (o0 : Nat) (o1 : Nat) (x2 : Int32) (x3 : Int32) (x4 : Int32) (h : AH) (ls : Array Slot) (H : Heap) (locs : List Loc), f_X12_goWalk_154 k10 o0 o1 x2 x3 x4 h = some res → Iv g s n0 z0 h H locs 0 0 → lv_has ls 6 [(0, .ref (rfG g o0)), (1, .ref (rfG g o1)), (2, .int x2), (3, .int x3), (4, .int x4)] → W p l e R s m args below meth c H locs 0 0 (MQ below (QG g none res.2) args s 0 0 (AG g)) (F0 m 154 ls []) := by
  have hx := X.1
  have hb := X.2.1
  intro o0 o1 x2 x3 x4 h ls H locs hf I hl
  unfold f_X12_goWalk_154 at hf
  refine lv_iinc (v := x4 + 1) (lv' := [(4, .int (x4 + 1)), (0, .ref (rfG g o0)), (1, .ref (rfG g o1)), (2, .int x2), (3, .int x3)]) hx hb dX12_goWalk_154 hl (k := 4) rfl rfl (by decide) rfl (fun ls hl => ?_)
  refine lv_goto (tgt := 10) hx hb dX12_goWalk_157 (by decide) ?_
  exact hk10 o0 o1 x2 x3 (x4 + 1) h ls H locs hf I (lv_sub hl [1, 2, 3, 4, 0] rfl)
def f_X12_goWalk_10  : Nat → Nat → Nat → Int32 → Int32 → Int32 → AH → Option (Unit × AH)
  | 0, _, _, _, _, _, _ => none
  | n + 1, o0, o1, x2, x3, x4, h =>
  (isC [12] h o0).bind fun _ =>
  cN (f_X12_longOf o0 x2 x3 h) h fun v1 h2 =>
  if v1 < x4 then
    some ((), h2)
  else
    (isC [12] h2 o0).bind fun _ =>
    cN (f_X12_cornerAt o0 x2 x3 x4 h2) h2 fun v7 h8 =>
    (isC [12] h8 o0).bind fun _ =>
    cN (f_X12_isTrap o0 o1 x2 v7 h8) h8 fun v12 h13 =>
    if v12 = 0 then
      f_X12_goWalk_154 (f_X12_goWalk_10 n) o0 o1 x2 x3 x4 h13
    else
      (gI [12] h13 o0 39).bind fun v18 =>
      (pV [12] h13 o0 39 (.int (v18 ||| (1 <<< (v7 &&& 31))))).bind fun h20 =>
      (isC [12] h20 o0).bind fun _ =>
      cN (f_X12_usesCane o0 o1 x2 v7 h20) h20 fun v22 h23 =>
      if v22 = 0 then
        (gI [12] h23 o0 40).bind fun v28 =>
        (pV [12] h23 o0 40 (.int (v28 ||| (1 <<< (x2 &&& 31))))).bind fun h30 =>
        (gR [12] h30 o0 38).bind fun v32 =>
        (uI 0 h30 v32 x2 v7).bind fun h34 =>
        (aI 0 h34 o1 ((2 * v7) + 1)).bind fun v36 =>
        (uI 0 h34 o1 ((2 * v7) + 1) (v36 - 1)).bind fun h38 =>
        cN (f_X12_folk o1 x2 1 h38) h38 fun v40 h41 =>
        cN (f_J9_min_7cf53 99 (v40 + 1) h41) h41 fun v44 h45 =>
        (uI 0 h45 o1 ((10 + (3 * x2)) + 1) v44).bind fun h48 =>
        (aI 0 h48 o1 29).bind fun v50 =>
        cN (f_J9_min_7cf53 999 (v50 + 1) h48) h48 fun v52 h53 =>
        (uI 0 h53 o1 29 v52).bind fun h56 =>
        some ((), h56)
      else
        (gI [12] h23 o0 41).bind fun v58 =>
        (pV [12] h23 o0 41 (.int (v58 + 1))).bind fun h60 =>
        f_X12_goWalk_154 (f_X12_goWalk_10 n) o0 o1 x2 x3 x4 h60
set_option maxHeartbeats 1000000 in
theorem w_X12_goWalk_10 (X : Cx g p s m args meth c cX12_goWalk 6 "TrapCornerModel") (hR : 92 ≤ R.frames ∧ 5888 ≤ R.locals) (hr : meth.sig.returnType = none) {res : Unit × AH} : ∀ (n : Nat) (o0 : Nat) (o1 : Nat) (x2 : Int32) (x3 : Int32) (x4 : Int32) (h : AH) (ls : Array Slot) (H : Heap) (locs : List Loc), f_X12_goWalk_10 n o0 o1 x2 x3 x4 h = some res → Iv g s n0 z0 h H locs 0 0 → lv_has ls 6 [(0, .ref (rfG g o0)), (1, .ref (rfG g o1)), (2, .int x2), (3, .int x3), (4, .int x4)] → W p l e R s m args below meth c H locs 0 0 (MQ below (QG g none res.2) args s 0 0 (AG g)) (F0 m 10 ls []) := by
  have hx := X.1
  have hb := X.2.1
  intro n
  induction n with
  | zero =>
    intro o0 o1 x2 x3 x4 h ls H locs hf
    rw [f_X12_goWalk_10.eq_1] at hf
    cases hf
  | succ n ih =>
    intro o0 o1 x2 x3 x4 h ls H locs hf I hl
    rw [f_X12_goWalk_10.eq_2] at hf
    refine lv_iload hx hb dX12_goWalk_10 (lv_at hl 4 rfl) ?_
    refine lv_aload_n hx hb dX12_goWalk_12 rfl (lv_at hl 0 rfl) ?_
    refine lv_iload_n hx hb dX12_goWalk_13 rfl (lv_at hl 2 rfl) ?_
    refine lv_iload_n hx hb dX12_goWalk_14 rfl (lv_at hl 3 rfl) ?_
    obtain ⟨_, g5, hf⟩ := Option.bind_eq_some_iff.mp hf
    obtain ⟨v1, h2, e3, z4, hf⟩ := cN_spec hf
    refine k_Vi (As := [.int x2, .int x3]) (rest := [.int x4]) X I (c_X12_longOf l g o0 x2 x3 e3) z4 g5 vk_TrapCornerModel_345 tw_1684 ⟨Nat.le_trans (by decide) hR.1, Nat.le_trans (by decide) hR.2⟩ ⟨Nat.zero_le _, Nat.zero_le _⟩ rfl hl.1 rfl (Nat.le_of_ble_eq_true rfl) dX12_goWalk_15 (fun H locs I => ?_)
    refine lv_icmp_gt (tgt := 160) hx hb dX12_goWalk_18 (by decide) (fun c6 => ?_) (fun c6 => ?_)
    · rw [if_pos c6] at hf
      cases hf
      exact k_rv X I hr dX12_goWalk_160
    · rw [if_neg c6] at hf
      refine lv_aload_n hx hb dX12_goWalk_21 rfl (lv_at hl 0 rfl) ?_
      refine lv_iload_n hx hb dX12_goWalk_22 rfl (lv_at hl 2 rfl) ?_
      refine lv_iload_n hx hb dX12_goWalk_23 rfl (lv_at hl 3 rfl) ?_
      refine lv_iload hx hb dX12_goWalk_24 (lv_at hl 4 rfl) ?_
      obtain ⟨_, g11, hf⟩ := Option.bind_eq_some_iff.mp hf
      obtain ⟨v7, h8, e9, z10, hf⟩ := cN_spec hf
      refine k_Vi (As := [.int x2, .int x3, .int x4]) (rest := []) X I (c_X12_cornerAt l g o0 x2 x3 x4 e9) z10 g11 vk_TrapCornerModel_348 tw_1688 ⟨Nat.le_trans (by decide) hR.1, Nat.le_trans (by decide) hR.2⟩ ⟨Nat.zero_le _, Nat.zero_le _⟩ rfl hl.1 rfl (Nat.le_of_ble_eq_true rfl) dX12_goWalk_26 (fun H locs I => ?_)
      refine lv_istore (lv' := [(5, .int v7), (0, .ref (rfG g o0)), (1, .ref (rfG g o1)), (2, .int x2), (3, .int x3), (4, .int x4)]) hx hb dX12_goWalk_29 hl (by decide) rfl (fun ls hl => ?_)
      refine lv_aload_n hx hb dX12_goWalk_31 rfl (lv_at hl 1 rfl) ?_
      refine lv_aload_n hx hb dX12_goWalk_32 rfl (lv_at hl 2 rfl) ?_
      refine lv_iload_n hx hb dX12_goWalk_33 rfl (lv_at hl 3 rfl) ?_
      refine lv_iload hx hb dX12_goWalk_34 (lv_at hl 0 rfl) ?_
      obtain ⟨_, g16, hf⟩ := Option.bind_eq_some_iff.mp hf
      obtain ⟨v12, h13, e14, z15, hf⟩ := cN_spec hf
      refine k_Vi (As := [.ref (rfG g o1), .int x2, .int v7]) (rest := []) X I (c_X12_isTrap l g o0 o1 x2 v7 e14) z15 g16 vk_TrapCornerModel_352 tw_1692 ⟨Nat.le_trans (by decide) hR.1, Nat.le_trans (by decide) hR.2⟩ ⟨Nat.zero_le _, Nat.zero_le _⟩ rfl hl.1 rfl (Nat.le_of_ble_eq_true rfl) dX12_goWalk_36 (fun H locs I => ?_)
      refine lv_if_ne (tgt := 45) hx hb dX12_goWalk_39 (by decide) (fun c17 => ?_) (fun c17 => ?_)
      · rw [if_neg c17] at hf
        refine lv_aload_n hx hb dX12_goWalk_45 rfl (lv_at hl 1 rfl) ?_
        refine lv_dup hx hb dX12_goWalk_46 rfl ?_
        obtain ⟨v18, e19, hf⟩ := Option.bind_eq_some_iff.mp hf
        refine r_gI X I e19 lk_TrapCornerModel_335 dX12_goWalk_47 ?_
        refine lv_iconst (v := 1) hx hb dX12_goWalk_50 (by decide) ?_
        refine lv_iload hx hb dX12_goWalk_51 (lv_at hl 0 rfl) ?_
        refine lv_ishl hx hb dX12_goWalk_53 ?_
        refine lv_ior hx hb dX12_goWalk_54 ?_
        obtain ⟨h20, e21, hf⟩ := Option.bind_eq_some_iff.mp hf
        refine r_pI X I e21 lp_TrapCornerModel_335 dX12_goWalk_55 (fun H locs I => ?_)
        refine lv_aload_n hx hb dX12_goWalk_58 rfl (lv_at hl 1 rfl) ?_
        refine lv_aload_n hx hb dX12_goWalk_59 rfl (lv_at hl 2 rfl) ?_
        refine lv_iload_n hx hb dX12_goWalk_60 rfl (lv_at hl 3 rfl) ?_
        refine lv_iload hx hb dX12_goWalk_61 (lv_at hl 0 rfl) ?_
        obtain ⟨_, g26, hf⟩ := Option.bind_eq_some_iff.mp hf
        obtain ⟨v22, h23, e24, z25, hf⟩ := cN_spec hf
        refine k_Vi (As := [.ref (rfG g o1), .int x2, .int v7]) (rest := []) X I (c_X12_usesCane l g o0 o1 x2 v7 e24) z25 g26 vk_TrapCornerModel_356 tw_1714 ⟨Nat.le_trans (by decide) hR.1, Nat.le_trans (by decide) hR.2⟩ ⟨Nat.zero_le _, Nat.zero_le _⟩ rfl hl.1 rfl (Nat.le_of_ble_eq_true rfl) dX12_goWalk_63 (fun H locs I => ?_)
        refine lv_if_eq (tgt := 82) hx hb dX12_goWalk_66 (by decide) (fun c27 => ?_) (fun c27 => ?_)
        · rw [if_pos c27] at hf
          refine lv_aload_n hx hb dX12_goWalk_82 rfl (lv_at hl 1 rfl) ?_
          refine lv_dup hx hb dX12_goWalk_83 rfl ?_
          obtain ⟨v28, e29, hf⟩ := Option.bind_eq_some_iff.mp hf
          refine r_gI X I e29 lk_TrapCornerModel_362 dX12_goWalk_84 ?_
          refine lv_iconst (v := 1) hx hb dX12_goWalk_87 (by decide) ?_
          refine lv_iload_n hx hb dX12_goWalk_88 rfl (lv_at hl 3 rfl) ?_
          refine lv_ishl hx hb dX12_goWalk_89 ?_
          refine lv_ior hx hb dX12_goWalk_90 ?_
          obtain ⟨h30, e31, hf⟩ := Option.bind_eq_some_iff.mp hf
          refine r_pI X I e31 lp_TrapCornerModel_362 dX12_goWalk_91 (fun H locs I => ?_)
          refine lv_aload_n hx hb dX12_goWalk_94 rfl (lv_at hl 1 rfl) ?_
          obtain ⟨v32, e33, hf⟩ := Option.bind_eq_some_iff.mp hf
          refine r_gR X I e33 lk_TrapCornerModel_81 dX12_goWalk_95 ?_
          refine lv_iload_n hx hb dX12_goWalk_98 rfl (lv_at hl 3 rfl) ?_
          refine lv_iload hx hb dX12_goWalk_99 (lv_at hl 0 rfl) ?_
          obtain ⟨h34, e35, hf⟩ := Option.bind_eq_some_iff.mp hf
          refine r_uI0 X I e35 dX12_goWalk_101 (fun H locs I => ?_)
          refine lv_aload_n hx hb dX12_goWalk_102 rfl (lv_at hl 2 rfl) ?_
          refine lv_iconst (v := 2) hx hb dX12_goWalk_103 (by decide) ?_
          refine lv_iload hx hb dX12_goWalk_104 (lv_at hl 0 rfl) ?_
          refine lv_imul hx hb dX12_goWalk_106 ?_
          refine lv_iconst (v := 1) hx hb dX12_goWalk_107 (by decide) ?_
          refine lv_iadd hx hb dX12_goWalk_108 ?_
          refine lv_dup2_11 hx hb dX12_goWalk_109 rfl rfl ?_
          obtain ⟨v36, e37, hf⟩ := Option.bind_eq_some_iff.mp hf
          refine r_aI0 X I e37 dX12_goWalk_110 ?_
          refine lv_iconst (v := 1) hx hb dX12_goWalk_111 (by decide) ?_
          refine lv_isub hx hb dX12_goWalk_112 ?_
          obtain ⟨h38, e39, hf⟩ := Option.bind_eq_some_iff.mp hf
          refine r_uI0 X I e39 dX12_goWalk_113 (fun H locs I => ?_)
          refine lv_aload_n hx hb dX12_goWalk_114 rfl (lv_at hl 2 rfl) ?_
          refine lv_bipush (v := 10) hx hb dX12_goWalk_115 (by decide) ?_
          refine lv_iconst (v := 3) hx hb dX12_goWalk_117 (by decide) ?_
          refine lv_iload_n hx hb dX12_goWalk_118 rfl (lv_at hl 3 rfl) ?_
          refine lv_imul hx hb dX12_goWalk_119 ?_
          refine lv_iadd hx hb dX12_goWalk_120 ?_
          refine lv_iconst (v := 1) hx hb dX12_goWalk_121 (by decide) ?_
          refine lv_iadd hx hb dX12_goWalk_122 ?_
          refine lv_bipush (v := 99) hx hb dX12_goWalk_123 (by decide) ?_
          refine lv_aload_n hx hb dX12_goWalk_125 rfl (lv_at hl 2 rfl) ?_
          refine lv_iload_n hx hb dX12_goWalk_126 rfl (lv_at hl 3 rfl) ?_
          refine lv_iconst (v := 1) hx hb dX12_goWalk_127 (by decide) ?_
          obtain ⟨v40, h41, e42, z43, hf⟩ := cN_spec hf
          refine k_Si (As := [.ref (rfG g o1), .int x2, .int 1]) (rest := [.int 99, .int ((10 + (3 * x2)) + 1), .ref (rfG g o1)]) X I (c_X12_folk l g o1 x2 1 e42) z43 sk_TrapCornerModel_328 tw_1647 ⟨Nat.le_trans (by decide) hR.1, Nat.le_trans (by decide) hR.2⟩ ⟨Nat.zero_le _, Nat.zero_le _⟩ rfl hl.1 rfl (Nat.le_of_ble_eq_true rfl) dX12_goWalk_128 (fun H locs I => ?_)
          refine lv_iconst (v := 1) hx hb dX12_goWalk_131 (by decide) ?_
          refine lv_iadd hx hb dX12_goWalk_132 ?_
          obtain ⟨v44, h45, e46, z47, hf⟩ := cN_spec hf
          refine k_Si (As := [.int 99, .int (v40 + 1)]) (rest := [.int ((10 + (3 * x2)) + 1), .ref (rfG g o1)]) X I (c_J9_min_7cf53 l g 99 (v40 + 1) e46) z47 sk_TrapCornerModel_321 tw_529 ⟨Nat.le_trans (by decide) hR.1, Nat.le_trans (by decide) hR.2⟩ ⟨Nat.zero_le _, Nat.zero_le _⟩ rfl hl.1 rfl (Nat.le_of_ble_eq_true rfl) dX12_goWalk_133 (fun H locs I => ?_)
          obtain ⟨h48, e49, hf⟩ := Option.bind_eq_some_iff.mp hf
          refine r_uI0 X I e49 dX12_goWalk_136 (fun H locs I => ?_)
          refine lv_aload_n hx hb dX12_goWalk_137 rfl (lv_at hl 2 rfl) ?_
          refine lv_bipush (v := 29) hx hb dX12_goWalk_138 (by decide) ?_
          refine lv_sipush (v := 999) hx hb dX12_goWalk_140 (by decide) ?_
          refine lv_aload_n hx hb dX12_goWalk_143 rfl (lv_at hl 2 rfl) ?_
          refine lv_bipush (v := 29) hx hb dX12_goWalk_144 (by decide) ?_
          obtain ⟨v50, e51, hf⟩ := Option.bind_eq_some_iff.mp hf
          refine r_aI0 X I e51 dX12_goWalk_146 ?_
          refine lv_iconst (v := 1) hx hb dX12_goWalk_147 (by decide) ?_
          refine lv_iadd hx hb dX12_goWalk_148 ?_
          obtain ⟨v52, h53, e54, z55, hf⟩ := cN_spec hf
          refine k_Si (As := [.int 999, .int (v50 + 1)]) (rest := [.int 29, .ref (rfG g o1)]) X I (c_J9_min_7cf53 l g 999 (v50 + 1) e54) z55 sk_TrapCornerModel_321 tw_529 ⟨Nat.le_trans (by decide) hR.1, Nat.le_trans (by decide) hR.2⟩ ⟨Nat.zero_le _, Nat.zero_le _⟩ rfl hl.1 rfl (Nat.le_of_ble_eq_true rfl) dX12_goWalk_149 (fun H locs I => ?_)
          obtain ⟨h56, e57, hf⟩ := Option.bind_eq_some_iff.mp hf
          refine r_uI0 X I e57 dX12_goWalk_152 (fun H locs I => ?_)
          cases hf
          exact k_rv X I hr dX12_goWalk_153
        · rw [if_neg c27] at hf
          refine lv_aload_n hx hb dX12_goWalk_69 rfl (lv_at hl 1 rfl) ?_
          refine lv_dup hx hb dX12_goWalk_70 rfl ?_
          obtain ⟨v58, e59, hf⟩ := Option.bind_eq_some_iff.mp hf
          refine r_gI X I e59 lk_TrapCornerModel_359 dX12_goWalk_71 ?_
          refine lv_iconst (v := 1) hx hb dX12_goWalk_74 (by decide) ?_
          refine lv_iadd hx hb dX12_goWalk_75 ?_
          obtain ⟨h60, e61, hf⟩ := Option.bind_eq_some_iff.mp hf
          refine r_pI X I e61 lp_TrapCornerModel_359 dX12_goWalk_76 (fun H locs I => ?_)
          refine lv_goto (tgt := 154) hx hb dX12_goWalk_79 (by decide) ?_
          exact w_X12_goWalk_154 X hR hr ih o0 o1 x2 x3 x4 h60 ls H locs hf I (lv_sub hl [1, 2, 3, 4, 5] rfl)
      · rw [if_pos c17] at hf
        refine lv_goto (tgt := 154) hx hb dX12_goWalk_42 (by decide) ?_
        exact w_X12_goWalk_154 X hR hr ih o0 o1 x2 x3 x4 h13 ls H locs hf I (lv_sub hl [1, 2, 3, 4, 5] rfl)
def f_X12_goWalk_0  (o0 : Nat) (o1 : Nat) (x2 : Int32) (h : AH) : Option (Unit × AH) :=
  cN (f_X12_folk o1 x2 2 h) h fun v1 h2 =>
  f_X12_goWalk_10 fu o0 o1 x2 v1 1 h2
set_option maxHeartbeats 1000000 in
theorem w_X12_goWalk_0 (X : Cx g p s m args meth c cX12_goWalk 6 "TrapCornerModel") (hR : 92 ≤ R.frames ∧ 5888 ≤ R.locals) (hr : meth.sig.returnType = none) {res : Unit × AH} : ∀ (o0 : Nat) (o1 : Nat) (x2 : Int32) (h : AH) (ls : Array Slot) (H : Heap) (locs : List Loc), f_X12_goWalk_0 o0 o1 x2 h = some res → Iv g s n0 z0 h H locs 0 0 → lv_has ls 6 [(0, .ref (rfG g o0)), (1, .ref (rfG g o1)), (2, .int x2)] → W p l e R s m args below meth c H locs 0 0 (MQ below (QG g none res.2) args s 0 0 (AG g)) (F0 m 0 ls []) := by
  have hx := X.1
  have hb := X.2.1
  intro o0 o1 x2 h ls H locs hf I hl
  unfold f_X12_goWalk_0 at hf
  refine lv_aload_n hx hb dX12_goWalk_0 rfl (lv_at hl 1 rfl) ?_
  refine lv_iload_n hx hb dX12_goWalk_1 rfl (lv_at hl 2 rfl) ?_
  refine lv_iconst (v := 2) hx hb dX12_goWalk_2 (by decide) ?_
  obtain ⟨v1, h2, e3, z4, hf⟩ := cN_spec hf
  refine k_Si (As := [.ref (rfG g o1), .int x2, .int 2]) (rest := []) X I (c_X12_folk l g o1 x2 2 e3) z4 sk_TrapCornerModel_328 tw_1647 ⟨Nat.le_trans (by decide) hR.1, Nat.le_trans (by decide) hR.2⟩ ⟨Nat.zero_le _, Nat.zero_le _⟩ rfl hl.1 rfl (Nat.le_of_ble_eq_true rfl) dX12_goWalk_3 (fun H locs I => ?_)
  refine lv_istore_n (lv' := [(3, .int v1), (0, .ref (rfG g o0)), (1, .ref (rfG g o1)), (2, .int x2)]) hx hb dX12_goWalk_6 rfl hl (by decide) rfl (fun ls hl => ?_)
  refine lv_iconst (v := 1) hx hb dX12_goWalk_7 (by decide) ?_
  refine lv_istore (lv' := [(4, .int 1), (3, .int v1), (0, .ref (rfG g o0)), (1, .ref (rfG g o1)), (2, .int x2)]) hx hb dX12_goWalk_8 hl (by decide) rfl (fun ls hl => ?_)
  exact w_X12_goWalk_10 X hR hr fu o0 o1 x2 v1 1 h2 ls H locs hf I (lv_sub hl [2, 3, 4, 1, 0] rfl)
def f_X12_goWalk (o0 : Nat) (o1 : Nat) (x2 : Int32) (h : AH) : Option (Unit × AH) := f_X12_goWalk_0 o0 o1 x2 h
end
theorem c_X12_goWalk (l : Launch) (g : GG) (o0 : Nat) (o1 : Nat) (x2 : Int32) {h : AH} {res : Unit × AH} (hf : f_X12_goWalk o0 o1 x2 h = some res) : CM l g yX12_goWalk cX12_goWalk 6 none 92 5888 0 0 [.ref (rfG g o0), .ref (rfG g o1), .int x2] h none res.2 :=
  k_body (by decide) (Nat.le_of_ble_eq_true rfl) (fun p e s m below meth c R ls hR hr X I hl => w_X12_goWalk_0 X ⟨Nat.le_of_eq hR.1.symm, Nat.le_of_eq hR.2.1.symm⟩ hr o0 o1 x2 h ls s.heap [] hf I (lv_sub hl [0, 1, 2] rfl))
/-! TrapCornerModel.goDay([I)I -/
theorem dX12_goDay_0 : decode cX12_goDay 0 = .ok (.aload_n 0, 1) := by decide +kernel
theorem dX12_goDay_1 : decode cX12_goDay 1 = .ok (.invokevirtual 365, 3) := by decide +kernel
theorem dX12_goDay_4 : decode cX12_goDay 4 = .ok (.iconst 0, 1) := by decide +kernel
theorem dX12_goDay_5 : decode cX12_goDay 5 = .ok (.istore_n 2, 1) := by decide +kernel
theorem dX12_goDay_6 : decode cX12_goDay 6 = .ok (.iload_n 2, 1) := by decide +kernel
theorem dX12_goDay_7 : decode cX12_goDay 7 = .ok (.aload_n 0, 1) := by decide +kernel
theorem dX12_goDay_8 : decode cX12_goDay 8 = .ok (.getfield 297, 3) := by decide +kernel
theorem dX12_goDay_11 : decode cX12_goDay 11 = .ok (.if_icmp .ge 15, 3) := by decide +kernel
theorem dX12_goDay_14 : decode cX12_goDay 14 = .ok (.aload_n 0, 1) := by decide +kernel
theorem dX12_goDay_15 : decode cX12_goDay 15 = .ok (.aload_n 1, 1) := by decide +kernel
theorem dX12_goDay_16 : decode cX12_goDay 16 = .ok (.iload_n 2, 1) := by decide +kernel
theorem dX12_goDay_17 : decode cX12_goDay 17 = .ok (.invokevirtual 368, 3) := by decide +kernel
theorem dX12_goDay_20 : decode cX12_goDay 20 = .ok (.iinc 2 1, 3) := by decide +kernel
theorem dX12_goDay_23 : decode cX12_goDay 23 = .ok (.goto (-17), 3) := by decide +kernel
theorem dX12_goDay_26 : decode cX12_goDay 26 = .ok (.iconst 0, 1) := by decide +kernel
theorem dX12_goDay_27 : decode cX12_goDay 27 = .ok (.istore_n 2, 1) := by decide +kernel
theorem dX12_goDay_28 : decode cX12_goDay 28 = .ok (.iload_n 2, 1) := by decide +kernel
theorem dX12_goDay_29 : decode cX12_goDay 29 = .ok (.aload_n 0, 1) := by decide +kernel
theorem dX12_goDay_30 : decode cX12_goDay 30 = .ok (.getfield 297, 3) := by decide +kernel
theorem dX12_goDay_33 : decode cX12_goDay 33 = .ok (.if_icmp .ge 43, 3) := by decide +kernel
theorem dX12_goDay_36 : decode cX12_goDay 36 = .ok (.aload_n 0, 1) := by decide +kernel
theorem dX12_goDay_37 : decode cX12_goDay 37 = .ok (.getfield 362, 3) := by decide +kernel
theorem dX12_goDay_40 : decode cX12_goDay 40 = .ok (.iload_n 2, 1) := by decide +kernel
theorem dX12_goDay_41 : decode cX12_goDay 41 = .ok (.invokestatic 229, 3) := by decide +kernel
theorem dX12_goDay_44 : decode cX12_goDay 44 = .ok (.ifCond .eq 26, 3) := by decide +kernel
theorem dX12_goDay_47 : decode cX12_goDay 47 = .ok (.aload_n 1, 1) := by decide +kernel
theorem dX12_goDay_48 : decode cX12_goDay 48 = .ok (.bipush 10, 2) := by decide +kernel
theorem dX12_goDay_50 : decode cX12_goDay 50 = .ok (.iconst 3, 1) := by decide +kernel
theorem dX12_goDay_51 : decode cX12_goDay 51 = .ok (.iload_n 2, 1) := by decide +kernel
theorem dX12_goDay_52 : decode cX12_goDay 52 = .ok (.imul, 1) := by decide +kernel
theorem dX12_goDay_53 : decode cX12_goDay 53 = .ok (.iadd, 1) := by decide +kernel
theorem dX12_goDay_54 : decode cX12_goDay 54 = .ok (.iconst 0, 1) := by decide +kernel
theorem dX12_goDay_55 : decode cX12_goDay 55 = .ok (.iadd, 1) := by decide +kernel
theorem dX12_goDay_56 : decode cX12_goDay 56 = .ok (.bipush 9, 2) := by decide +kernel
theorem dX12_goDay_58 : decode cX12_goDay 58 = .ok (.aload_n 1, 1) := by decide +kernel
theorem dX12_goDay_59 : decode cX12_goDay 59 = .ok (.iload_n 2, 1) := by decide +kernel
theorem dX12_goDay_60 : decode cX12_goDay 60 = .ok (.iconst 0, 1) := by decide +kernel
theorem dX12_goDay_61 : decode cX12_goDay 61 = .ok (.invokestatic 328, 3) := by decide +kernel
theorem dX12_goDay_64 : decode cX12_goDay 64 = .ok (.iconst 1, 1) := by decide +kernel
theorem dX12_goDay_65 : decode cX12_goDay 65 = .ok (.iadd, 1) := by decide +kernel
theorem dX12_goDay_66 : decode cX12_goDay 66 = .ok (.invokestatic 321, 3) := by decide +kernel
theorem dX12_goDay_69 : decode cX12_goDay 69 = .ok (.iastore, 1) := by decide +kernel
theorem dX12_goDay_70 : decode cX12_goDay 70 = .ok (.iinc 2 1, 3) := by decide +kernel
theorem dX12_goDay_73 : decode cX12_goDay 73 = .ok (.goto (-45), 3) := by decide +kernel
theorem dX12_goDay_76 : decode cX12_goDay 76 = .ok (.aload_n 1, 1) := by decide +kernel
theorem dX12_goDay_77 : decode cX12_goDay 77 = .ok (.bipush 30, 2) := by decide +kernel
theorem dX12_goDay_79 : decode cX12_goDay 79 = .ok (.dup2, 1) := by decide +kernel
theorem dX12_goDay_80 : decode cX12_goDay 80 = .ok (.iaload, 1) := by decide +kernel
theorem dX12_goDay_81 : decode cX12_goDay 81 = .ok (.iconst 1, 1) := by decide +kernel
theorem dX12_goDay_82 : decode cX12_goDay 82 = .ok (.iadd, 1) := by decide +kernel
theorem dX12_goDay_83 : decode cX12_goDay 83 = .ok (.iastore, 1) := by decide +kernel
theorem dX12_goDay_84 : decode cX12_goDay 84 = .ok (.aload_n 1, 1) := by decide +kernel
theorem dX12_goDay_85 : decode cX12_goDay 85 = .ok (.bipush 31, 2) := by decide +kernel
theorem dX12_goDay_87 : decode cX12_goDay 87 = .ok (.iaload, 1) := by decide +kernel
theorem dX12_goDay_88 : decode cX12_goDay 88 = .ok (.bipush 60, 2) := by decide +kernel
theorem dX12_goDay_90 : decode cX12_goDay 90 = .ok (.if_icmp .ne 40, 3) := by decide +kernel
theorem dX12_goDay_93 : decode cX12_goDay 93 = .ok (.iconst 1, 1) := by decide +kernel
theorem dX12_goDay_94 : decode cX12_goDay 94 = .ok (.istore_n 2, 1) := by decide +kernel
theorem dX12_goDay_95 : decode cX12_goDay 95 = .ok (.iload_n 2, 1) := by decide +kernel
theorem dX12_goDay_96 : decode cX12_goDay 96 = .ok (.sipush 177, 3) := by decide +kernel
theorem dX12_goDay_99 : decode cX12_goDay 99 = .ok (.if_icmp .gt 23, 3) := by decide +kernel
theorem dX12_goDay_102 : decode cX12_goDay 102 = .ok (.aload_n 1, 1) := by decide +kernel
theorem dX12_goDay_103 : decode cX12_goDay 103 = .ok (.bipush 31, 2) := by decide +kernel
theorem dX12_goDay_105 : decode cX12_goDay 105 = .ok (.iload_n 2, 1) := by decide +kernel
theorem dX12_goDay_106 : decode cX12_goDay 106 = .ok (.iadd, 1) := by decide +kernel
theorem dX12_goDay_107 : decode cX12_goDay 107 = .ok (.aload_n 1, 1) := by decide +kernel
theorem dX12_goDay_108 : decode cX12_goDay 108 = .ok (.bipush 31, 2) := by decide +kernel
theorem dX12_goDay_110 : decode cX12_goDay 110 = .ok (.iload_n 2, 1) := by decide +kernel
theorem dX12_goDay_111 : decode cX12_goDay 111 = .ok (.iadd, 1) := by decide +kernel
theorem dX12_goDay_112 : decode cX12_goDay 112 = .ok (.iconst 3, 1) := by decide +kernel
theorem dX12_goDay_113 : decode cX12_goDay 113 = .ok (.iadd, 1) := by decide +kernel
theorem dX12_goDay_114 : decode cX12_goDay 114 = .ok (.iaload, 1) := by decide +kernel
theorem dX12_goDay_115 : decode cX12_goDay 115 = .ok (.iastore, 1) := by decide +kernel
theorem dX12_goDay_116 : decode cX12_goDay 116 = .ok (.iinc 2 1, 3) := by decide +kernel
theorem dX12_goDay_119 : decode cX12_goDay 119 = .ok (.goto (-24), 3) := by decide +kernel
theorem dX12_goDay_122 : decode cX12_goDay 122 = .ok (.aload_n 1, 1) := by decide +kernel
theorem dX12_goDay_123 : decode cX12_goDay 123 = .ok (.bipush 31, 2) := by decide +kernel
theorem dX12_goDay_125 : decode cX12_goDay 125 = .ok (.dup2, 1) := by decide +kernel
theorem dX12_goDay_126 : decode cX12_goDay 126 = .ok (.iaload, 1) := by decide +kernel
theorem dX12_goDay_127 : decode cX12_goDay 127 = .ok (.iconst 1, 1) := by decide +kernel
theorem dX12_goDay_128 : decode cX12_goDay 128 = .ok (.isub, 1) := by decide +kernel
theorem dX12_goDay_129 : decode cX12_goDay 129 = .ok (.iastore, 1) := by decide +kernel
theorem dX12_goDay_130 : decode cX12_goDay 130 = .ok (.bipush 32, 2) := by decide +kernel
theorem dX12_goDay_132 : decode cX12_goDay 132 = .ok (.iconst 3, 1) := by decide +kernel
theorem dX12_goDay_133 : decode cX12_goDay 133 = .ok (.aload_n 1, 1) := by decide +kernel
theorem dX12_goDay_134 : decode cX12_goDay 134 = .ok (.bipush 31, 2) := by decide +kernel
theorem dX12_goDay_136 : decode cX12_goDay 136 = .ok (.iaload, 1) := by decide +kernel
theorem dX12_goDay_137 : decode cX12_goDay 137 = .ok (.imul, 1) := by decide +kernel
theorem dX12_goDay_138 : decode cX12_goDay 138 = .ok (.iadd, 1) := by decide +kernel
theorem dX12_goDay_139 : decode cX12_goDay 139 = .ok (.istore_n 2, 1) := by decide +kernel
theorem dX12_goDay_140 : decode cX12_goDay 140 = .ok (.aload_n 1, 1) := by decide +kernel
theorem dX12_goDay_141 : decode cX12_goDay 141 = .ok (.iload_n 2, 1) := by decide +kernel
theorem dX12_goDay_142 : decode cX12_goDay 142 = .ok (.aload_n 0, 1) := by decide +kernel
theorem dX12_goDay_143 : decode cX12_goDay 143 = .ok (.getfield 362, 3) := by decide +kernel
theorem dX12_goDay_146 : decode cX12_goDay 146 = .ok (.iastore, 1) := by decide +kernel
theorem dX12_goDay_147 : decode cX12_goDay 147 = .ok (.aload_n 1, 1) := by decide +kernel
theorem dX12_goDay_148 : decode cX12_goDay 148 = .ok (.iload_n 2, 1) := by decide +kernel
theorem dX12_goDay_149 : decode cX12_goDay 149 = .ok (.iconst 1, 1) := by decide +kernel
theorem dX12_goDay_150 : decode cX12_goDay 150 = .ok (.iadd, 1) := by decide +kernel
theorem dX12_goDay_151 : decode cX12_goDay 151 = .ok (.aload_n 0, 1) := by decide +kernel
theorem dX12_goDay_152 : decode cX12_goDay 152 = .ok (.getfield 359, 3) := by decide +kernel
theorem dX12_goDay_155 : decode cX12_goDay 155 = .ok (.iastore, 1) := by decide +kernel
theorem dX12_goDay_156 : decode cX12_goDay 156 = .ok (.aload_n 1, 1) := by decide +kernel
theorem dX12_goDay_157 : decode cX12_goDay 157 = .ok (.iload_n 2, 1) := by decide +kernel
theorem dX12_goDay_158 : decode cX12_goDay 158 = .ok (.iconst 2, 1) := by decide +kernel
theorem dX12_goDay_159 : decode cX12_goDay 159 = .ok (.iadd, 1) := by decide +kernel
theorem dX12_goDay_160 : decode cX12_goDay 160 = .ok (.aload_n 1, 1) := by decide +kernel
theorem dX12_goDay_161 : decode cX12_goDay 161 = .ok (.bipush 29, 2) := by decide +kernel
theorem dX12_goDay_163 : decode cX12_goDay 163 = .ok (.iaload, 1) := by decide +kernel
theorem dX12_goDay_164 : decode cX12_goDay 164 = .ok (.iastore, 1) := by decide +kernel
theorem dX12_goDay_165 : decode cX12_goDay 165 = .ok (.aload_n 1, 1) := by decide +kernel
theorem dX12_goDay_166 : decode cX12_goDay 166 = .ok (.bipush 31, 2) := by decide +kernel
theorem dX12_goDay_168 : decode cX12_goDay 168 = .ok (.dup2, 1) := by decide +kernel
theorem dX12_goDay_169 : decode cX12_goDay 169 = .ok (.iaload, 1) := by decide +kernel
theorem dX12_goDay_170 : decode cX12_goDay 170 = .ok (.iconst 1, 1) := by decide +kernel
theorem dX12_goDay_171 : decode cX12_goDay 171 = .ok (.iadd, 1) := by decide +kernel
theorem dX12_goDay_172 : decode cX12_goDay 172 = .ok (.iastore, 1) := by decide +kernel
theorem dX12_goDay_173 : decode cX12_goDay 173 = .ok (.aload_n 0, 1) := by decide +kernel
theorem dX12_goDay_174 : decode cX12_goDay 174 = .ok (.getfield 362, 3) := by decide +kernel
theorem dX12_goDay_177 : decode cX12_goDay 177 = .ok (.ireturn, 1) := by decide +kernel
theorem vk_TrapCornerModel_368 : VK "TrapCornerModel" 368 [12] yX12_goWalk 2 := ⟨tw_1677, tw_1679, tw_13, ⟨by decide, by decide⟩, by decide +kernel, fun ci hci => by
  have hci := List.mem_singleton.mp hci
  subst hci
  exact ⟨_, rfl, tp_83⟩⟩
theorem vk_TrapCornerModel_365 : VK "TrapCornerModel" 365 [12] yX12_beginsDay 0 := ⟨tw_1673, tw_1675, tw_13, ⟨by decide, by decide⟩, by decide +kernel, fun ci hci => by
  have hci := List.mem_singleton.mp hci
  subst hci
  exact ⟨_, rfl, tp_82⟩⟩
section
variable {g : GG} {p : Program} {l : Launch} {e : Env} {R : Room} {s : State} {m : MethodId} {args : Array Value} {below : List Frame} {meth : Method} {c : Code} {n0 z0 : Nat}
def f_X12_goDay_70 (k28 : Nat → Nat → Int32 → AH → Option (Int32 × AH)) (o0 : Nat) (o1 : Nat) (x2 : Int32) (h : AH) : Option (Int32 × AH) :=
  k28 o0 o1 (x2 + 1) h
set_option maxHeartbeats 1000000 in
theorem w_X12_goDay_70 (X : Cx g p s m args meth c cX12_goDay 3 "TrapCornerModel") (hR : 93 ≤ R.frames ∧ 5952 ≤ R.locals) (hr : meth.sig.returnType = (some (.int))) {res : Int32 × AH} {k28 : Nat → Nat → Int32 → AH → Option (Int32 × AH)} (hk28 : ∀ (o0 : Nat) (o1 : Nat) (x2 : Int32) (h : AH) (ls : Array Slot) (H : Heap) (locs : List Loc), k28 o0 o1 x2 h = some res → Iv g s n0 z0 h H locs 0 0 → lv_has ls 3 [(0, .ref (rfG g o0)), (1, .ref (rfG g o1)), (2, .int x2)] → W p l e R s m args below meth c H locs 0 0 (MQ below (QG g (some (.int res.1)) res.2) args s 0 0 (AG g)) (F0 m 28 ls [])) : ∀ (o0 : Nat) (o1 : Nat) (x2 : Int32) (h : AH) (ls : Array Slot) (H : Heap) (locs : List Loc), f_X12_goDay_70 k28 o0 o1 x2 h = some res → Iv g s n0 z0 h H locs 0 0 → lv_has ls 3 [(0, .ref (rfG g o0)), (1, .ref (rfG g o1)), (2, .int x2)] → W p l e R s m args below meth c H locs 0 0 (MQ below (QG g (some (.int res.1)) res.2) args s 0 0 (AG g)) (F0 m 70 ls []) := by
  have hx := X.1
  have hb := X.2.1
  intro o0 o1 x2 h ls H locs hf I hl
  unfold f_X12_goDay_70 at hf
  refine lv_iinc (v := x2 + 1) (lv' := [(2, .int (x2 + 1)), (0, .ref (rfG g o0)), (1, .ref (rfG g o1))]) hx hb dX12_goDay_70 hl (k := 2) rfl rfl (by decide) rfl (fun ls hl => ?_)
  refine lv_goto (tgt := 28) hx hb dX12_goDay_73 (by decide) ?_
  exact hk28 o0 o1 (x2 + 1) h ls H locs hf I (lv_sub hl [1, 2, 0] rfl)
def f_X12_goDay_130  (o0 : Nat) (o1 : Nat) (h : AH) : Option (Int32 × AH) :=
  (aI 0 h o1 31).bind fun v1 =>
  (gI [12] h o0 40).bind fun v3 =>
  (uI 0 h o1 (32 + (3 * v1)) v3).bind fun h5 =>
  (gI [12] h5 o0 41).bind fun v7 =>
  (uI 0 h5 o1 ((32 + (3 * v1)) + 1) v7).bind fun h9 =>
  (aI 0 h9 o1 29).bind fun v11 =>
  (uI 0 h9 o1 ((32 + (3 * v1)) + 2) v11).bind fun h13 =>
  (aI 0 h13 o1 31).bind fun v15 =>
  (uI 0 h13 o1 31 (v15 + 1)).bind fun h17 =>
  (gI [12] h17 o0 40).bind fun v19 =>
  some (v19, h17)
set_option maxHeartbeats 1000000 in
theorem w_X12_goDay_130 (X : Cx g p s m args meth c cX12_goDay 3 "TrapCornerModel") (hR : 93 ≤ R.frames ∧ 5952 ≤ R.locals) (hr : meth.sig.returnType = (some (.int))) {res : Int32 × AH} : ∀ (o0 : Nat) (o1 : Nat) (h : AH) (ls : Array Slot) (H : Heap) (locs : List Loc), f_X12_goDay_130 o0 o1 h = some res → Iv g s n0 z0 h H locs 0 0 → lv_has ls 3 [(0, .ref (rfG g o0)), (1, .ref (rfG g o1))] → W p l e R s m args below meth c H locs 0 0 (MQ below (QG g (some (.int res.1)) res.2) args s 0 0 (AG g)) (F0 m 130 ls []) := by
  have hx := X.1
  have hb := X.2.1
  intro o0 o1 h ls H locs hf I hl
  unfold f_X12_goDay_130 at hf
  refine lv_bipush (v := 32) hx hb dX12_goDay_130 (by decide) ?_
  refine lv_iconst (v := 3) hx hb dX12_goDay_132 (by decide) ?_
  refine lv_aload_n hx hb dX12_goDay_133 rfl (lv_at hl 1 rfl) ?_
  refine lv_bipush (v := 31) hx hb dX12_goDay_134 (by decide) ?_
  obtain ⟨v1, e2, hf⟩ := Option.bind_eq_some_iff.mp hf
  refine r_aI0 X I e2 dX12_goDay_136 ?_
  refine lv_imul hx hb dX12_goDay_137 ?_
  refine lv_iadd hx hb dX12_goDay_138 ?_
  refine lv_istore_n (lv' := [(2, .int (32 + (3 * v1))), (0, .ref (rfG g o0)), (1, .ref (rfG g o1))]) hx hb dX12_goDay_139 rfl hl (by decide) rfl (fun ls hl => ?_)
  refine lv_aload_n hx hb dX12_goDay_140 rfl (lv_at hl 2 rfl) ?_
  refine lv_iload_n hx hb dX12_goDay_141 rfl (lv_at hl 0 rfl) ?_
  refine lv_aload_n hx hb dX12_goDay_142 rfl (lv_at hl 1 rfl) ?_
  obtain ⟨v3, e4, hf⟩ := Option.bind_eq_some_iff.mp hf
  refine r_gI X I e4 lk_TrapCornerModel_362 dX12_goDay_143 ?_
  obtain ⟨h5, e6, hf⟩ := Option.bind_eq_some_iff.mp hf
  refine r_uI0 X I e6 dX12_goDay_146 (fun H locs I => ?_)
  refine lv_aload_n hx hb dX12_goDay_147 rfl (lv_at hl 2 rfl) ?_
  refine lv_iload_n hx hb dX12_goDay_148 rfl (lv_at hl 0 rfl) ?_
  refine lv_iconst (v := 1) hx hb dX12_goDay_149 (by decide) ?_
  refine lv_iadd hx hb dX12_goDay_150 ?_
  refine lv_aload_n hx hb dX12_goDay_151 rfl (lv_at hl 1 rfl) ?_
  obtain ⟨v7, e8, hf⟩ := Option.bind_eq_some_iff.mp hf
  refine r_gI X I e8 lk_TrapCornerModel_359 dX12_goDay_152 ?_
  obtain ⟨h9, e10, hf⟩ := Option.bind_eq_some_iff.mp hf
  refine r_uI0 X I e10 dX12_goDay_155 (fun H locs I => ?_)
  refine lv_aload_n hx hb dX12_goDay_156 rfl (lv_at hl 2 rfl) ?_
  refine lv_iload_n hx hb dX12_goDay_157 rfl (lv_at hl 0 rfl) ?_
  refine lv_iconst (v := 2) hx hb dX12_goDay_158 (by decide) ?_
  refine lv_iadd hx hb dX12_goDay_159 ?_
  refine lv_aload_n hx hb dX12_goDay_160 rfl (lv_at hl 2 rfl) ?_
  refine lv_bipush (v := 29) hx hb dX12_goDay_161 (by decide) ?_
  obtain ⟨v11, e12, hf⟩ := Option.bind_eq_some_iff.mp hf
  refine r_aI0 X I e12 dX12_goDay_163 ?_
  obtain ⟨h13, e14, hf⟩ := Option.bind_eq_some_iff.mp hf
  refine r_uI0 X I e14 dX12_goDay_164 (fun H locs I => ?_)
  refine lv_aload_n hx hb dX12_goDay_165 rfl (lv_at hl 2 rfl) ?_
  refine lv_bipush (v := 31) hx hb dX12_goDay_166 (by decide) ?_
  refine lv_dup2_11 hx hb dX12_goDay_168 rfl rfl ?_
  obtain ⟨v15, e16, hf⟩ := Option.bind_eq_some_iff.mp hf
  refine r_aI0 X I e16 dX12_goDay_169 ?_
  refine lv_iconst (v := 1) hx hb dX12_goDay_170 (by decide) ?_
  refine lv_iadd hx hb dX12_goDay_171 ?_
  obtain ⟨h17, e18, hf⟩ := Option.bind_eq_some_iff.mp hf
  refine r_uI0 X I e18 dX12_goDay_172 (fun H locs I => ?_)
  refine lv_aload_n hx hb dX12_goDay_173 rfl (lv_at hl 1 rfl) ?_
  obtain ⟨v19, e20, hf⟩ := Option.bind_eq_some_iff.mp hf
  refine r_gI X I e20 lk_TrapCornerModel_362 dX12_goDay_174 ?_
  cases hf
  exact k_ri X I hr dX12_goDay_177
def f_X12_goDay_95  : Nat → Nat → Nat → Int32 → AH → Option (Int32 × AH)
  | 0, _, _, _, _ => none
  | n + 1, o0, o1, x2, h =>
  if 177 < x2 then
    (aI 0 h o1 31).bind fun v2 =>
    (uI 0 h o1 31 (v2 - 1)).bind fun h4 =>
    f_X12_goDay_130 o0 o1 h4
  else
    (aI 0 h o1 ((31 + x2) + 3)).bind fun v6 =>
    (uI 0 h o1 (31 + x2) v6).bind fun h8 =>
    f_X12_goDay_95  n o0 o1 (x2 + 1) h8
set_option maxHeartbeats 1000000 in
theorem w_X12_goDay_95 (X : Cx g p s m args meth c cX12_goDay 3 "TrapCornerModel") (hR : 93 ≤ R.frames ∧ 5952 ≤ R.locals) (hr : meth.sig.returnType = (some (.int))) {res : Int32 × AH} : ∀ (n : Nat) (o0 : Nat) (o1 : Nat) (x2 : Int32) (h : AH) (ls : Array Slot) (H : Heap) (locs : List Loc), f_X12_goDay_95 n o0 o1 x2 h = some res → Iv g s n0 z0 h H locs 0 0 → lv_has ls 3 [(0, .ref (rfG g o0)), (1, .ref (rfG g o1)), (2, .int x2)] → W p l e R s m args below meth c H locs 0 0 (MQ below (QG g (some (.int res.1)) res.2) args s 0 0 (AG g)) (F0 m 95 ls []) := by
  have hx := X.1
  have hb := X.2.1
  intro n
  induction n with
  | zero =>
    intro o0 o1 x2 h ls H locs hf
    rw [f_X12_goDay_95.eq_1] at hf
    cases hf
  | succ n ih =>
    intro o0 o1 x2 h ls H locs hf I hl
    rw [f_X12_goDay_95.eq_2] at hf
    refine lv_iload_n hx hb dX12_goDay_95 rfl (lv_at hl 2 rfl) ?_
    refine lv_sipush (v := 177) hx hb dX12_goDay_96 (by decide) ?_
    refine lv_icmp_gt (tgt := 122) hx hb dX12_goDay_99 (by decide) (fun c1 => ?_) (fun c1 => ?_)
    · rw [if_pos c1] at hf
      refine lv_aload_n hx hb dX12_goDay_122 rfl (lv_at hl 1 rfl) ?_
      refine lv_bipush (v := 31) hx hb dX12_goDay_123 (by decide) ?_
      refine lv_dup2_11 hx hb dX12_goDay_125 rfl rfl ?_
      obtain ⟨v2, e3, hf⟩ := Option.bind_eq_some_iff.mp hf
      refine r_aI0 X I e3 dX12_goDay_126 ?_
      refine lv_iconst (v := 1) hx hb dX12_goDay_127 (by decide) ?_
      refine lv_isub hx hb dX12_goDay_128 ?_
      obtain ⟨h4, e5, hf⟩ := Option.bind_eq_some_iff.mp hf
      refine r_uI0 X I e5 dX12_goDay_129 (fun H locs I => ?_)
      exact w_X12_goDay_130 X hR hr  o0 o1 h4 ls H locs hf I (lv_sub hl [0, 1] rfl)
    · rw [if_neg c1] at hf
      refine lv_aload_n hx hb dX12_goDay_102 rfl (lv_at hl 1 rfl) ?_
      refine lv_bipush (v := 31) hx hb dX12_goDay_103 (by decide) ?_
      refine lv_iload_n hx hb dX12_goDay_105 rfl (lv_at hl 2 rfl) ?_
      refine lv_iadd hx hb dX12_goDay_106 ?_
      refine lv_aload_n hx hb dX12_goDay_107 rfl (lv_at hl 1 rfl) ?_
      refine lv_bipush (v := 31) hx hb dX12_goDay_108 (by decide) ?_
      refine lv_iload_n hx hb dX12_goDay_110 rfl (lv_at hl 2 rfl) ?_
      refine lv_iadd hx hb dX12_goDay_111 ?_
      refine lv_iconst (v := 3) hx hb dX12_goDay_112 (by decide) ?_
      refine lv_iadd hx hb dX12_goDay_113 ?_
      obtain ⟨v6, e7, hf⟩ := Option.bind_eq_some_iff.mp hf
      refine r_aI0 X I e7 dX12_goDay_114 ?_
      obtain ⟨h8, e9, hf⟩ := Option.bind_eq_some_iff.mp hf
      refine r_uI0 X I e9 dX12_goDay_115 (fun H locs I => ?_)
      refine lv_iinc (v := x2 + 1) (lv' := [(2, .int (x2 + 1)), (0, .ref (rfG g o0)), (1, .ref (rfG g o1))]) hx hb dX12_goDay_116 hl (k := 2) rfl rfl (by decide) rfl (fun ls hl => ?_)
      refine lv_goto (tgt := 95) hx hb dX12_goDay_119 (by decide) ?_
      exact ih o0 o1 (x2 + 1) h8 ls H locs hf I (lv_sub hl [1, 2, 0] rfl)
def f_X12_goDay_28  : Nat → Nat → Nat → Int32 → AH → Option (Int32 × AH)
  | 0, _, _, _, _ => none
  | n + 1, o0, o1, x2, h =>
  (gI [12] h o0 27).bind fun v1 =>
  if v1 ≤ x2 then
    (aI 0 h o1 30).bind fun v4 =>
    (uI 0 h o1 30 (v4 + 1)).bind fun h6 =>
    (aI 0 h6 o1 31).bind fun v8 =>
    if v8 = 60 then
      f_X12_goDay_95 fu o0 o1 1 h6
    else
      f_X12_goDay_130 o0 o1 h6
  else
    (gI [12] h o0 40).bind fun v11 =>
    cN (f_X12_has v11 x2 h) h fun v13 h14 =>
    if v13 = 0 then
      f_X12_goDay_70 (f_X12_goDay_28 n) o0 o1 x2 h14
    else
      cN (f_X12_folk o1 x2 0 h14) h14 fun v18 h19 =>
      cN (f_J9_min_7cf53 9 (v18 + 1) h19) h19 fun v22 h23 =>
      (uI 0 h23 o1 ((10 + (3 * x2)) + 0) v22).bind fun h26 =>
      f_X12_goDay_70 (f_X12_goDay_28 n) o0 o1 x2 h26
set_option maxHeartbeats 1000000 in
theorem w_X12_goDay_28 (X : Cx g p s m args meth c cX12_goDay 3 "TrapCornerModel") (hR : 93 ≤ R.frames ∧ 5952 ≤ R.locals) (hr : meth.sig.returnType = (some (.int))) {res : Int32 × AH} : ∀ (n : Nat) (o0 : Nat) (o1 : Nat) (x2 : Int32) (h : AH) (ls : Array Slot) (H : Heap) (locs : List Loc), f_X12_goDay_28 n o0 o1 x2 h = some res → Iv g s n0 z0 h H locs 0 0 → lv_has ls 3 [(0, .ref (rfG g o0)), (1, .ref (rfG g o1)), (2, .int x2)] → W p l e R s m args below meth c H locs 0 0 (MQ below (QG g (some (.int res.1)) res.2) args s 0 0 (AG g)) (F0 m 28 ls []) := by
  have hx := X.1
  have hb := X.2.1
  intro n
  induction n with
  | zero =>
    intro o0 o1 x2 h ls H locs hf
    rw [f_X12_goDay_28.eq_1] at hf
    cases hf
  | succ n ih =>
    intro o0 o1 x2 h ls H locs hf I hl
    rw [f_X12_goDay_28.eq_2] at hf
    refine lv_iload_n hx hb dX12_goDay_28 rfl (lv_at hl 2 rfl) ?_
    refine lv_aload_n hx hb dX12_goDay_29 rfl (lv_at hl 0 rfl) ?_
    obtain ⟨v1, e2, hf⟩ := Option.bind_eq_some_iff.mp hf
    refine r_gI X I e2 lk_TrapCornerModel_297 dX12_goDay_30 ?_
    refine lv_icmp_ge (tgt := 76) hx hb dX12_goDay_33 (by decide) (fun c3 => ?_) (fun c3 => ?_)
    · rw [if_pos c3] at hf
      refine lv_aload_n hx hb dX12_goDay_76 rfl (lv_at hl 1 rfl) ?_
      refine lv_bipush (v := 30) hx hb dX12_goDay_77 (by decide) ?_
      refine lv_dup2_11 hx hb dX12_goDay_79 rfl rfl ?_
      obtain ⟨v4, e5, hf⟩ := Option.bind_eq_some_iff.mp hf
      refine r_aI0 X I e5 dX12_goDay_80 ?_
      refine lv_iconst (v := 1) hx hb dX12_goDay_81 (by decide) ?_
      refine lv_iadd hx hb dX12_goDay_82 ?_
      obtain ⟨h6, e7, hf⟩ := Option.bind_eq_some_iff.mp hf
      refine r_uI0 X I e7 dX12_goDay_83 (fun H locs I => ?_)
      refine lv_aload_n hx hb dX12_goDay_84 rfl (lv_at hl 1 rfl) ?_
      refine lv_bipush (v := 31) hx hb dX12_goDay_85 (by decide) ?_
      obtain ⟨v8, e9, hf⟩ := Option.bind_eq_some_iff.mp hf
      refine r_aI0 X I e9 dX12_goDay_87 ?_
      refine lv_bipush (v := 60) hx hb dX12_goDay_88 (by decide) ?_
      refine lv_icmp_ne (tgt := 130) hx hb dX12_goDay_90 (by decide) (fun c10 => ?_) (fun c10 => ?_)
      · rw [if_neg c10] at hf
        exact w_X12_goDay_130 X hR hr  o0 o1 h6 ls H locs hf I (lv_sub hl [0, 1] rfl)
      · rw [if_pos c10] at hf
        refine lv_iconst (v := 1) hx hb dX12_goDay_93 (by decide) ?_
        refine lv_istore_n (lv' := [(2, .int 1), (0, .ref (rfG g o0)), (1, .ref (rfG g o1))]) hx hb dX12_goDay_94 rfl hl (by decide) rfl (fun ls hl => ?_)
        exact w_X12_goDay_95 X hR hr fu o0 o1 1 h6 ls H locs hf I (lv_sub hl [1, 2, 0] rfl)
    · rw [if_neg c3] at hf
      refine lv_aload_n hx hb dX12_goDay_36 rfl (lv_at hl 0 rfl) ?_
      obtain ⟨v11, e12, hf⟩ := Option.bind_eq_some_iff.mp hf
      refine r_gI X I e12 lk_TrapCornerModel_362 dX12_goDay_37 ?_
      refine lv_iload_n hx hb dX12_goDay_40 rfl (lv_at hl 2 rfl) ?_
      obtain ⟨v13, h14, e15, z16, hf⟩ := cN_spec hf
      refine k_Si (As := [.int v11, .int x2]) (rest := []) X I (c_X12_has l g v11 x2 e15) z16 sk_TrapCornerModel_229 tw_1520 ⟨Nat.le_trans (by decide) hR.1, Nat.le_trans (by decide) hR.2⟩ ⟨Nat.zero_le _, Nat.zero_le _⟩ rfl hl.1 rfl (Nat.le_of_ble_eq_true rfl) dX12_goDay_41 (fun H locs I => ?_)
      refine lv_if_eq (tgt := 70) hx hb dX12_goDay_44 (by decide) (fun c17 => ?_) (fun c17 => ?_)
      · rw [if_pos c17] at hf
        exact w_X12_goDay_70 X hR hr ih o0 o1 x2 h14 ls H locs hf I (lv_sub hl [0, 1, 2] rfl)
      · rw [if_neg c17] at hf
        refine lv_aload_n hx hb dX12_goDay_47 rfl (lv_at hl 1 rfl) ?_
        refine lv_bipush (v := 10) hx hb dX12_goDay_48 (by decide) ?_
        refine lv_iconst (v := 3) hx hb dX12_goDay_50 (by decide) ?_
        refine lv_iload_n hx hb dX12_goDay_51 rfl (lv_at hl 2 rfl) ?_
        refine lv_imul hx hb dX12_goDay_52 ?_
        refine lv_iadd hx hb dX12_goDay_53 ?_
        refine lv_iconst (v := 0) hx hb dX12_goDay_54 (by decide) ?_
        refine lv_iadd hx hb dX12_goDay_55 ?_
        refine lv_bipush (v := 9) hx hb dX12_goDay_56 (by decide) ?_
        refine lv_aload_n hx hb dX12_goDay_58 rfl (lv_at hl 1 rfl) ?_
        refine lv_iload_n hx hb dX12_goDay_59 rfl (lv_at hl 2 rfl) ?_
        refine lv_iconst (v := 0) hx hb dX12_goDay_60 (by decide) ?_
        obtain ⟨v18, h19, e20, z21, hf⟩ := cN_spec hf
        refine k_Si (As := [.ref (rfG g o1), .int x2, .int 0]) (rest := [.int 9, .int ((10 + (3 * x2)) + 0), .ref (rfG g o1)]) X I (c_X12_folk l g o1 x2 0 e20) z21 sk_TrapCornerModel_328 tw_1647 ⟨Nat.le_trans (by decide) hR.1, Nat.le_trans (by decide) hR.2⟩ ⟨Nat.zero_le _, Nat.zero_le _⟩ rfl hl.1 rfl (Nat.le_of_ble_eq_true rfl) dX12_goDay_61 (fun H locs I => ?_)
        refine lv_iconst (v := 1) hx hb dX12_goDay_64 (by decide) ?_
        refine lv_iadd hx hb dX12_goDay_65 ?_
        obtain ⟨v22, h23, e24, z25, hf⟩ := cN_spec hf
        refine k_Si (As := [.int 9, .int (v18 + 1)]) (rest := [.int ((10 + (3 * x2)) + 0), .ref (rfG g o1)]) X I (c_J9_min_7cf53 l g 9 (v18 + 1) e24) z25 sk_TrapCornerModel_321 tw_529 ⟨Nat.le_trans (by decide) hR.1, Nat.le_trans (by decide) hR.2⟩ ⟨Nat.zero_le _, Nat.zero_le _⟩ rfl hl.1 rfl (Nat.le_of_ble_eq_true rfl) dX12_goDay_66 (fun H locs I => ?_)
        obtain ⟨h26, e27, hf⟩ := Option.bind_eq_some_iff.mp hf
        refine r_uI0 X I e27 dX12_goDay_69 (fun H locs I => ?_)
        exact w_X12_goDay_70 X hR hr ih o0 o1 x2 h26 ls H locs hf I (lv_sub hl [0, 1, 2] rfl)
def f_X12_goDay_6  : Nat → Nat → Nat → Int32 → AH → Option (Int32 × AH)
  | 0, _, _, _, _ => none
  | n + 1, o0, o1, x2, h =>
  (gI [12] h o0 27).bind fun v1 =>
  if v1 ≤ x2 then
    f_X12_goDay_28 fu o0 o1 0 h
  else
    (isC [12] h o0).bind fun _ =>
    cN (f_X12_goWalk o0 o1 x2 h) h fun _ h5 =>
    f_X12_goDay_6  n o0 o1 (x2 + 1) h5
set_option maxHeartbeats 1000000 in
theorem w_X12_goDay_6 (X : Cx g p s m args meth c cX12_goDay 3 "TrapCornerModel") (hR : 93 ≤ R.frames ∧ 5952 ≤ R.locals) (hr : meth.sig.returnType = (some (.int))) {res : Int32 × AH} : ∀ (n : Nat) (o0 : Nat) (o1 : Nat) (x2 : Int32) (h : AH) (ls : Array Slot) (H : Heap) (locs : List Loc), f_X12_goDay_6 n o0 o1 x2 h = some res → Iv g s n0 z0 h H locs 0 0 → lv_has ls 3 [(0, .ref (rfG g o0)), (1, .ref (rfG g o1)), (2, .int x2)] → W p l e R s m args below meth c H locs 0 0 (MQ below (QG g (some (.int res.1)) res.2) args s 0 0 (AG g)) (F0 m 6 ls []) := by
  have hx := X.1
  have hb := X.2.1
  intro n
  induction n with
  | zero =>
    intro o0 o1 x2 h ls H locs hf
    rw [f_X12_goDay_6.eq_1] at hf
    cases hf
  | succ n ih =>
    intro o0 o1 x2 h ls H locs hf I hl
    rw [f_X12_goDay_6.eq_2] at hf
    refine lv_iload_n hx hb dX12_goDay_6 rfl (lv_at hl 2 rfl) ?_
    refine lv_aload_n hx hb dX12_goDay_7 rfl (lv_at hl 0 rfl) ?_
    obtain ⟨v1, e2, hf⟩ := Option.bind_eq_some_iff.mp hf
    refine r_gI X I e2 lk_TrapCornerModel_297 dX12_goDay_8 ?_
    refine lv_icmp_ge (tgt := 26) hx hb dX12_goDay_11 (by decide) (fun c3 => ?_) (fun c3 => ?_)
    · rw [if_pos c3] at hf
      refine lv_iconst (v := 0) hx hb dX12_goDay_26 (by decide) ?_
      refine lv_istore_n (lv' := [(2, .int 0), (0, .ref (rfG g o0)), (1, .ref (rfG g o1))]) hx hb dX12_goDay_27 rfl hl (by decide) rfl (fun ls hl => ?_)
      exact w_X12_goDay_28 X hR hr fu o0 o1 0 h ls H locs hf I (lv_sub hl [1, 2, 0] rfl)
    · rw [if_neg c3] at hf
      refine lv_aload_n hx hb dX12_goDay_14 rfl (lv_at hl 0 rfl) ?_
      refine lv_aload_n hx hb dX12_goDay_15 rfl (lv_at hl 1 rfl) ?_
      refine lv_iload_n hx hb dX12_goDay_16 rfl (lv_at hl 2 rfl) ?_
      obtain ⟨_, g8, hf⟩ := Option.bind_eq_some_iff.mp hf
      obtain ⟨⟨⟩, h5, e6, z7, hf⟩ := cN_spec hf
      refine k_Vv (As := [.ref (rfG g o1), .int x2]) (rest := []) X I (c_X12_goWalk l g o0 o1 x2 e6) z7 g8 vk_TrapCornerModel_368 tw_1680 ⟨Nat.le_trans (by decide) hR.1, Nat.le_trans (by decide) hR.2⟩ ⟨Nat.zero_le _, Nat.zero_le _⟩ rfl hl.1 rfl (Nat.le_of_ble_eq_true rfl) dX12_goDay_17 (fun H locs I => ?_)
      refine lv_iinc (v := x2 + 1) (lv' := [(2, .int (x2 + 1)), (0, .ref (rfG g o0)), (1, .ref (rfG g o1))]) hx hb dX12_goDay_20 hl (k := 2) rfl rfl (by decide) rfl (fun ls hl => ?_)
      refine lv_goto (tgt := 6) hx hb dX12_goDay_23 (by decide) ?_
      exact ih o0 o1 (x2 + 1) h5 ls H locs hf I (lv_sub hl [1, 2, 0] rfl)
def f_X12_goDay_0  (o0 : Nat) (o1 : Nat) (h : AH) : Option (Int32 × AH) :=
  (isC [12] h o0).bind fun _ =>
  cN (f_X12_beginsDay o0 h) h fun _ h2 =>
  f_X12_goDay_6 fu o0 o1 0 h2
set_option maxHeartbeats 1000000 in
theorem w_X12_goDay_0 (X : Cx g p s m args meth c cX12_goDay 3 "TrapCornerModel") (hR : 93 ≤ R.frames ∧ 5952 ≤ R.locals) (hr : meth.sig.returnType = (some (.int))) {res : Int32 × AH} : ∀ (o0 : Nat) (o1 : Nat) (h : AH) (ls : Array Slot) (H : Heap) (locs : List Loc), f_X12_goDay_0 o0 o1 h = some res → Iv g s n0 z0 h H locs 0 0 → lv_has ls 3 [(0, .ref (rfG g o0)), (1, .ref (rfG g o1))] → W p l e R s m args below meth c H locs 0 0 (MQ below (QG g (some (.int res.1)) res.2) args s 0 0 (AG g)) (F0 m 0 ls []) := by
  have hx := X.1
  have hb := X.2.1
  intro o0 o1 h ls H locs hf I hl
  unfold f_X12_goDay_0 at hf
  refine lv_aload_n hx hb dX12_goDay_0 rfl (lv_at hl 0 rfl) ?_
  obtain ⟨_, g5, hf⟩ := Option.bind_eq_some_iff.mp hf
  obtain ⟨⟨⟩, h2, e3, z4, hf⟩ := cN_spec hf
  refine k_Vv (As := []) (rest := []) X I (c_X12_beginsDay l g o0 e3) z4 g5 vk_TrapCornerModel_365 tw_1676 ⟨Nat.le_trans (by decide) hR.1, Nat.le_trans (by decide) hR.2⟩ ⟨Nat.zero_le _, Nat.zero_le _⟩ rfl hl.1 rfl (Nat.le_of_ble_eq_true rfl) dX12_goDay_1 (fun H locs I => ?_)
  refine lv_iconst (v := 0) hx hb dX12_goDay_4 (by decide) ?_
  refine lv_istore_n (lv' := [(2, .int 0), (0, .ref (rfG g o0)), (1, .ref (rfG g o1))]) hx hb dX12_goDay_5 rfl hl (by decide) rfl (fun ls hl => ?_)
  exact w_X12_goDay_6 X hR hr fu o0 o1 0 h2 ls H locs hf I (lv_sub hl [1, 2, 0] rfl)
def f_X12_goDay (o0 : Nat) (o1 : Nat) (h : AH) : Option (Int32 × AH) := f_X12_goDay_0 o0 o1 h
end
theorem c_X12_goDay (l : Launch) (g : GG) (o0 : Nat) (o1 : Nat) {h : AH} {res : Int32 × AH} (hf : f_X12_goDay o0 o1 h = some res) : CM l g yX12_goDay cX12_goDay 3 (some (.int)) 93 5952 0 0 [.ref (rfG g o0), .ref (rfG g o1)] h (some (.int res.1)) res.2 :=
  k_body (by decide) (Nat.le_of_ble_eq_true rfl) (fun p e s m below meth c R ls hR hr X I hl => w_X12_goDay_0 X ⟨Nat.le_of_eq hR.1.symm, Nat.le_of_eq hR.2.1.symm⟩ hr o0 o1 h ls s.heap [] hf I (lv_sub hl [0, 1] rfl))
/-! TrapCornerModel.tries()I -/
theorem dX12_tries_0 : decode cX12_tries 0 = .ok (.aload_n 0, 1) := by decide +kernel
theorem dX12_tries_1 : decode cX12_tries 1 = .ok (.getfield 61, 3) := by decide +kernel
theorem dX12_tries_4 : decode cX12_tries 4 = .ok (.aload_n 0, 1) := by decide +kernel
theorem dX12_tries_5 : decode cX12_tries 5 = .ok (.getfield 64, 3) := by decide +kernel
theorem dX12_tries_8 : decode cX12_tries 8 = .ok (.invokestatic 372, 3) := by decide +kernel
theorem dX12_tries_11 : decode cX12_tries 11 = .ok (.aload_n 0, 1) := by decide +kernel
theorem dX12_tries_12 : decode cX12_tries 12 = .ok (.aload_n 0, 1) := by decide +kernel
theorem dX12_tries_13 : decode cX12_tries 13 = .ok (.getfield 64, 3) := by decide +kernel
theorem dX12_tries_16 : decode cX12_tries 16 = .ok (.invokevirtual 376, 3) := by decide +kernel
theorem dX12_tries_19 : decode cX12_tries 19 = .ok (.ireturn, 1) := by decide +kernel
theorem lk_TrapCornerModel_64 : LK "TrapCornerModel" 64 [12] 33 := by
  intro ci hci
  have hci := List.mem_singleton.mp hci
  subst hci
  exact ⟨RX12, TX12, 50, "TrapCornerModel", ck_12, by decide, tw_1320, Or.inl rfl⟩
theorem sk_TrapCornerModel_372 : SK "TrapCornerModel" 372 yX12_copy 2 := ⟨tw_1791, tw_1792, tw_13, ⟨by decide, by decide⟩, by decide +kernel⟩
theorem vk_TrapCornerModel_376 : VK "TrapCornerModel" 376 [12] yX12_goDay 1 := ⟨tw_1669, tw_1671, tw_13, ⟨by decide, by decide⟩, by decide +kernel, fun ci hci => by
  have hci := List.mem_singleton.mp hci
  subst hci
  exact ⟨_, rfl, tp_81⟩⟩
section
variable {g : GG} {p : Program} {l : Launch} {e : Env} {R : Room} {s : State} {m : MethodId} {args : Array Value} {below : List Frame} {meth : Method} {c : Code} {n0 z0 : Nat}
def f_X12_tries_0  (o0 : Nat) (h : AH) : Option (Int32 × AH) :=
  (gR [12] h o0 32).bind fun v1 =>
  (gR [12] h o0 33).bind fun v3 =>
  cN (f_X12_copy v1 v3 h) h fun _ h6 =>
  (gR [12] h6 o0 33).bind fun v9 =>
  (isC [12] h6 o0).bind fun _ =>
  cN (f_X12_goDay o0 v9 h6) h6 fun v11 h12 =>
  some (v11, h12)
set_option maxHeartbeats 1000000 in
theorem w_X12_tries_0 (X : Cx g p s m args meth c cX12_tries 1 "TrapCornerModel") (hR : 94 ≤ R.frames ∧ 6016 ≤ R.locals) (hr : meth.sig.returnType = (some (.int))) {res : Int32 × AH} : ∀ (o0 : Nat) (h : AH) (ls : Array Slot) (H : Heap) (locs : List Loc), f_X12_tries_0 o0 h = some res → Iv g s n0 z0 h H locs 0 0 → lv_has ls 1 [(0, .ref (rfG g o0))] → W p l e R s m args below meth c H locs 0 0 (MQ below (QG g (some (.int res.1)) res.2) args s 0 0 (AG g)) (F0 m 0 ls []) := by
  have hx := X.1
  have hb := X.2.1
  intro o0 h ls H locs hf I hl
  unfold f_X12_tries_0 at hf
  refine lv_aload_n hx hb dX12_tries_0 rfl (lv_at hl 0 rfl) ?_
  obtain ⟨v1, e2, hf⟩ := Option.bind_eq_some_iff.mp hf
  refine r_gR X I e2 lk_TrapCornerModel_61 dX12_tries_1 ?_
  refine lv_aload_n hx hb dX12_tries_4 rfl (lv_at hl 0 rfl) ?_
  obtain ⟨v3, e4, hf⟩ := Option.bind_eq_some_iff.mp hf
  refine r_gR X I e4 lk_TrapCornerModel_64 dX12_tries_5 ?_
  obtain ⟨⟨⟩, h6, e7, z8, hf⟩ := cN_spec hf
  refine k_Sv (As := [.ref (rfG g v1), .ref (rfG g v3)]) (rest := []) X I (c_X12_copy l g v1 v3 e7) z8 sk_TrapCornerModel_372 tw_1793 ⟨Nat.le_trans (by decide) hR.1, Nat.le_trans (by decide) hR.2⟩ ⟨Nat.zero_le _, Nat.zero_le _⟩ rfl hl.1 rfl (Nat.le_of_ble_eq_true rfl) dX12_tries_8 (fun H locs I => ?_)
  refine lv_aload_n hx hb dX12_tries_11 rfl (lv_at hl 0 rfl) ?_
  refine lv_aload_n hx hb dX12_tries_12 rfl (lv_at hl 0 rfl) ?_
  obtain ⟨v9, e10, hf⟩ := Option.bind_eq_some_iff.mp hf
  refine r_gR X I e10 lk_TrapCornerModel_64 dX12_tries_13 ?_
  obtain ⟨_, g15, hf⟩ := Option.bind_eq_some_iff.mp hf
  obtain ⟨v11, h12, e13, z14, hf⟩ := cN_spec hf
  refine k_Vi (As := [.ref (rfG g v9)]) (rest := []) X I (c_X12_goDay l g o0 v9 e13) z14 g15 vk_TrapCornerModel_376 tw_1672 ⟨Nat.le_trans (by decide) hR.1, Nat.le_trans (by decide) hR.2⟩ ⟨Nat.zero_le _, Nat.zero_le _⟩ rfl hl.1 rfl (Nat.le_of_ble_eq_true rfl) dX12_tries_16 (fun H locs I => ?_)
  cases hf
  exact k_ri X I hr dX12_tries_19
def f_X12_tries (o0 : Nat) (h : AH) : Option (Int32 × AH) := f_X12_tries_0 o0 h
end
theorem c_X12_tries (l : Launch) (g : GG) (o0 : Nat) {h : AH} {res : Int32 × AH} (hf : f_X12_tries o0 h = some res) : CM l g yX12_tries cX12_tries 1 (some (.int)) 94 6016 0 0 [.ref (rfG g o0)] h (some (.int res.1)) res.2 :=
  k_body (by decide) (Nat.le_of_ble_eq_true rfl) (fun p e s m below meth c R ls hR hr X I hl => w_X12_tries_0 X ⟨Nat.le_of_eq hR.1.symm, Nat.le_of_eq hR.2.1.symm⟩ hr o0 h ls s.heap [] hf I (lv_sub hl [0] rfl))
