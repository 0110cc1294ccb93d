/-! TrapCornerModel.wouldBe(IIII)Z -/
theorem dX12_wouldBe_0 : decode cX12_wouldBe 0 = .ok (.aload_n 0, 1) := by decide +kernel
theorem dX12_wouldBe_1 : decode cX12_wouldBe 1 = .ok (.iload_n 2, 1) := by decide +kernel
theorem dX12_wouldBe_2 : decode cX12_wouldBe 2 = .ok (.bipush 10, 2) := by decide +kernel
theorem dX12_wouldBe_4 : decode cX12_wouldBe 4 = .ok (.idiv, 1) := by decide +kernel
theorem dX12_wouldBe_5 : decode cX12_wouldBe 5 = .ok (.iload 4, 2) := by decide +kernel
theorem dX12_wouldBe_7 : decode cX12_wouldBe 7 = .ok (.if_icmp .ne 7, 3) := by decide +kernel
theorem dX12_wouldBe_10 : decode cX12_wouldBe 10 = .ok (.iconst 1, 1) := by decide +kernel
theorem dX12_wouldBe_11 : decode cX12_wouldBe 11 = .ok (.goto 4, 3) := by decide +kernel
theorem dX12_wouldBe_14 : decode cX12_wouldBe 14 = .ok (.iconst 0, 1) := by decide +kernel
theorem dX12_wouldBe_15 : decode cX12_wouldBe 15 = .ok (.iload_n 2, 1) := by decide +kernel
theorem dX12_wouldBe_16 : decode cX12_wouldBe 16 = .ok (.bipush 10, 2) := by decide +kernel
theorem dX12_wouldBe_18 : decode cX12_wouldBe 18 = .ok (.irem, 1) := by decide +kernel
theorem dX12_wouldBe_19 : decode cX12_wouldBe 19 = .ok (.aload_n 0, 1) := by decide +kernel
theorem dX12_wouldBe_20 : decode cX12_wouldBe 20 = .ok (.iload_n 1, 1) := by decide +kernel
theorem dX12_wouldBe_21 : decode cX12_wouldBe 21 = .ok (.iconst 2, 1) := by decide +kernel
theorem dX12_wouldBe_22 : decode cX12_wouldBe 22 = .ok (.invokevirtual 325, 3) := by decide +kernel
theorem dX12_wouldBe_25 : decode cX12_wouldBe 25 = .ok (.iload_n 3, 1) := by decide +kernel
theorem dX12_wouldBe_26 : decode cX12_wouldBe 26 = .ok (.iconst 0, 1) := by decide +kernel
theorem dX12_wouldBe_27 : decode cX12_wouldBe 27 = .ok (.iconst 0, 1) := by decide +kernel
theorem dX12_wouldBe_28 : decode cX12_wouldBe 28 = .ok (.invokevirtual 332, 3) := by decide +kernel
theorem dX12_wouldBe_31 : decode cX12_wouldBe 31 = .ok (.aload_n 0, 1) := by decide +kernel
theorem dX12_wouldBe_32 : decode cX12_wouldBe 32 = .ok (.getfield 37, 3) := by decide +kernel
theorem dX12_wouldBe_35 : decode cX12_wouldBe 35 = .ok (.iconst 0, 1) := by decide +kernel
theorem dX12_wouldBe_36 : decode cX12_wouldBe 36 = .ok (.iaload, 1) := by decide +kernel
theorem dX12_wouldBe_37 : decode cX12_wouldBe 37 = .ok (.if_icmp .lt 7, 3) := by decide +kernel
theorem dX12_wouldBe_40 : decode cX12_wouldBe 40 = .ok (.iconst 1, 1) := by decide +kernel
theorem dX12_wouldBe_41 : decode cX12_wouldBe 41 = .ok (.goto 4, 3) := by decide +kernel
theorem dX12_wouldBe_44 : decode cX12_wouldBe 44 = .ok (.iconst 0, 1) := by decide +kernel
theorem dX12_wouldBe_45 : decode cX12_wouldBe 45 = .ok (.ireturn, 1) := by decide +kernel
section
variable {g : GG} {p : Program} {l : Launch} {e : Env} {R : Room} {s : State} {m : MethodId} {args : Array Value} {below : List Frame} {meth : Method} {c : Code} {n0 z0 : Nat}
def f_X12_wouldBe_15  (o0 : Nat) (x1 : Int32) (x2 : Int32) (x3 : Int32) (s0 : Nat) (s1 : Int32) (h : AH) : Option (Int32 × AH) :=
  (isC [12] h o0).bind fun _ =>
  cN (f_X12_of o0 x1 2 h) h fun v1 h2 =>
  (isC [12] h2 s0).bind fun _ =>
  cN (f_X12_pullBy s0 s1 (x2 - x2 / 10 * 10) v1 x3 0 0 h2) h2 fun v6 h7 =>
  (gR [12] h7 o0 18).bind fun v11 =>
  (aI 0 h7 v11 0).bind fun v13 =>
  if v6 < v13 then
    some (0, h7)
  else
    some (1, h7)
set_option maxHeartbeats 1000000 in
theorem w_X12_wouldBe_15 (X : Cx g p s m args meth c cX12_wouldBe 5 "TrapCornerModel") (hR : 90 ≤ R.frames ∧ 5760 ≤ R.locals) (hr : meth.sig.returnType = (some (.boolean))) {res : Int32 × AH} : ∀ (o0 : Nat) (x1 : Int32) (x2 : Int32) (x3 : Int32) (s0 : Nat) (s1 : Int32) (h : AH) (ls : Array Slot) (H : Heap) (locs : List Loc), f_X12_wouldBe_15 o0 x1 x2 x3 s0 s1 h = some res → Iv g s n0 z0 h H locs 0 0 → lv_has ls 5 [(0, .ref (rfG g o0)), (1, .int x1), (2, .int x2), (3, .int x3)] → W p l e R s m args below meth c H locs 0 0 (MQ below (QG g (some (.int res.1)) res.2) args s 0 0 (AG g)) (F0 m 15 ls [.int s1, .ref (rfG g s0)]) := by
  have hx := X.1
  have hb := X.2.1
  intro o0 x1 x2 x3 s0 s1 h ls H locs hf I hl
  unfold f_X12_wouldBe_15 at hf
  refine lv_iload_n hx hb dX12_wouldBe_15 rfl (lv_at hl 2 rfl) ?_
  refine lv_bipush (v := 10) hx hb dX12_wouldBe_16 (by decide) ?_
  refine lv_irem hx hb dX12_wouldBe_18 (by decide) ?_
  refine lv_aload_n hx hb dX12_wouldBe_19 rfl (lv_at hl 0 rfl) ?_
  refine lv_iload_n hx hb dX12_wouldBe_20 rfl (lv_at hl 1 rfl) ?_
  refine lv_iconst (v := 2) hx hb dX12_wouldBe_21 (by decide) ?_
  obtain ⟨_, g5, hf⟩ := Option.bind_eq_some_iff.mp hf
  obtain ⟨v1, h2, e3, z4, hf⟩ := cN_spec hf
  refine k_Vi (As := [.int x1, .int 2]) (rest := [.int (x2 - x2 / 10 * 10), .int s1, .ref (rfG g s0)]) X I (c_X12_of l g o0 x1 2 e3) z4 g5 vk_TrapCornerModel_325 tw_1651 ⟨Nat.le_trans (by decide) hR.1, Nat.le_trans (by decide) hR.2⟩ ⟨Nat.zero_le _, Nat.zero_le _⟩ rfl hl.1 rfl (Nat.le_of_ble_eq_true rfl) dX12_wouldBe_22 (fun H locs I => ?_)
  refine lv_iload_n hx hb dX12_wouldBe_25 rfl (lv_at hl 3 rfl) ?_
  refine lv_iconst (v := 0) hx hb dX12_wouldBe_26 (by decide) ?_
  refine lv_iconst (v := 0) hx hb dX12_wouldBe_27 (by decide) ?_
  obtain ⟨_, g10, hf⟩ := Option.bind_eq_some_iff.mp hf
  obtain ⟨v6, h7, e8, z9, hf⟩ := cN_spec hf
  refine k_Vi (As := [.int s1, .int (x2 - x2 / 10 * 10), .int v1, .int x3, .int 0, .int 0]) (rest := []) X I (c_X12_pullBy l g s0 s1 (x2 - x2 / 10 * 10) v1 x3 0 0 e8) z9 g10 vk_TrapCornerModel_332 tw_1700 ⟨Nat.le_trans (by decide) hR.1, Nat.le_trans (by decide) hR.2⟩ ⟨Nat.zero_le _, Nat.zero_le _⟩ rfl hl.1 rfl (Nat.le_of_ble_eq_true rfl) dX12_wouldBe_28 (fun H locs I => ?_)
  refine lv_aload_n hx hb dX12_wouldBe_31 rfl (lv_at hl 0 rfl) ?_
  obtain ⟨v11, e12, hf⟩ := Option.bind_eq_some_iff.mp hf
  refine r_gR X I e12 lk_TrapCornerModel_37 dX12_wouldBe_32 ?_
  refine lv_iconst (v := 0) hx hb dX12_wouldBe_35 (by decide) ?_
  obtain ⟨v13, e14, hf⟩ := Option.bind_eq_some_iff.mp hf
  refine r_aI0 X I e14 dX12_wouldBe_36 ?_
  refine lv_icmp_lt (tgt := 44) hx hb dX12_wouldBe_37 (by decide) (fun c15 => ?_) (fun c15 => ?_)
  · rw [if_pos c15] at hf
    refine lv_iconst (v := 0) hx hb dX12_wouldBe_44 (by decide) ?_
    cases hf
    exact k_rz X I hr (Or.inl rfl) dX12_wouldBe_45
  · rw [if_neg c15] at hf
    refine lv_iconst (v := 1) hx hb dX12_wouldBe_40 (by decide) ?_
    refine lv_goto (tgt := 45) hx hb dX12_wouldBe_41 (by decide) ?_
    cases hf
    exact k_rz X I hr (Or.inr rfl) dX12_wouldBe_45
def f_X12_wouldBe_0  (o0 : Nat) (x1 : Int32) (x2 : Int32) (x3 : Int32) (x4 : Int32) (h : AH) : Option (Int32 × AH) :=
  if (x2 / 10) = x4 then
    f_X12_wouldBe_15 o0 x1 x2 x3 o0 1 h
  else
    f_X12_wouldBe_15 o0 x1 x2 x3 o0 0 h
set_option maxHeartbeats 1000000 in
theorem w_X12_wouldBe_0 (X : Cx g p s m args meth c cX12_wouldBe 5 "TrapCornerModel") (hR : 90 ≤ R.frames ∧ 5760 ≤ R.locals) (hr : meth.sig.returnType = (some (.boolean))) {res : Int32 × AH} : ∀ (o0 : Nat) (x1 : Int32) (x2 : Int32) (x3 : Int32) (x4 : Int32) (h : AH) (ls : Array Slot) (H : Heap) (locs : List Loc), f_X12_wouldBe_0 o0 x1 x2 x3 x4 h = some res → Iv g s n0 z0 h H locs 0 0 → lv_has ls 5 [(0, .ref (rfG g o0)), (1, .int x1), (2, .int x2), (3, .int x3), (4, .int x4)] → W p l e R s m args below meth c H locs 0 0 (MQ below (QG g (some (.int res.1)) res.2) args s 0 0 (AG g)) (F0 m 0 ls []) := by
  have hx := X.1
  have hb := X.2.1
  intro o0 x1 x2 x3 x4 h ls H locs hf I hl
  unfold f_X12_wouldBe_0 at hf
  refine lv_aload_n hx hb dX12_wouldBe_0 rfl (lv_at hl 0 rfl) ?_
  refine lv_iload_n hx hb dX12_wouldBe_1 rfl (lv_at hl 2 rfl) ?_
  refine lv_bipush (v := 10) hx hb dX12_wouldBe_2 (by decide) ?_
  refine lv_idiv hx hb dX12_wouldBe_4 (by decide) ?_
  refine lv_iload hx hb dX12_wouldBe_5 (lv_at hl 4 rfl) ?_
  refine lv_icmp_ne (tgt := 14) hx hb dX12_wouldBe_7 (by decide) (fun c1 => ?_) (fun c1 => ?_)
  · rw [if_neg c1] at hf
    refine lv_iconst (v := 0) hx hb dX12_wouldBe_14 (by decide) ?_
    exact w_X12_wouldBe_15 X hR hr  o0 x1 x2 x3 o0 0 h ls H locs hf I (lv_sub hl [0, 1, 2, 3] rfl)
  · rw [if_pos c1] at hf
    refine lv_iconst (v := 1) hx hb dX12_wouldBe_10 (by decide) ?_
    refine lv_goto (tgt := 15) hx hb dX12_wouldBe_11 (by decide) ?_
    exact w_X12_wouldBe_15 X hR hr  o0 x1 x2 x3 o0 1 h ls H locs hf I (lv_sub hl [0, 1, 2, 3] rfl)
def f_X12_wouldBe (o0 : Nat) (x1 : Int32) (x2 : Int32) (x3 : Int32) (x4 : Int32) (h : AH) : Option (Int32 × AH) := f_X12_wouldBe_0 o0 x1 x2 x3 x4 h
end
theorem c_X12_wouldBe (l : Launch) (g : GG) (o0 : Nat) (x1 : Int32) (x2 : Int32) (x3 : Int32) (x4 : Int32) {h : AH} {res : Int32 × AH} (hf : f_X12_wouldBe o0 x1 x2 x3 x4 h = some res) : CM l g yX12_wouldBe cX12_wouldBe 5 (some (.boolean)) 90 5760 0 0 [.ref (rfG g o0), .int x1, .int x2, .int x3, .int x4] h (some (.int res.1)) res.2 :=
  k_body (by decide) (Nat.le_of_ble_eq_true rfl) (fun p e s m below meth c R ls hR hr X I hl => w_X12_wouldBe_0 X ⟨Nat.le_of_eq hR.1.symm, Nat.le_of_eq hR.2.1.symm⟩ hr o0 x1 x2 x3 x4 h ls s.heap [] hf I (lv_sub hl [0, 1, 2, 3, 4] rfl))
/-! TrapCornerModel.isMove(II)Z -/
theorem dX12_isMove_0 : decode cX12_isMove 0 = .ok (.iconst 0, 1) := by decide +kernel
theorem dX12_isMove_1 : decode cX12_isMove 1 = .ok (.istore_n 3, 1) := by decide +kernel
theorem dX12_isMove_2 : decode cX12_isMove 2 = .ok (.iload_n 3, 1) := by decide +kernel
theorem dX12_isMove_3 : decode cX12_isMove 3 = .ok (.aload_n 0, 1) := by decide +kernel
theorem dX12_isMove_4 : decode cX12_isMove 4 = .ok (.getfield 300, 3) := by decide +kernel
theorem dX12_isMove_7 : decode cX12_isMove 7 = .ok (.if_icmp .ge 71, 3) := by decide +kernel
theorem dX12_isMove_10 : decode cX12_isMove 10 = .ok (.aload_n 0, 1) := by decide +kernel
theorem dX12_isMove_11 : decode cX12_isMove 11 = .ok (.getfield 87, 3) := by decide +kernel
theorem dX12_isMove_14 : decode cX12_isMove 14 = .ok (.iconst 4, 1) := by decide +kernel
theorem dX12_isMove_15 : decode cX12_isMove 15 = .ok (.iload_n 3, 1) := by decide +kernel
theorem dX12_isMove_16 : decode cX12_isMove 16 = .ok (.imul, 1) := by decide +kernel
theorem dX12_isMove_17 : decode cX12_isMove 17 = .ok (.iaload, 1) := by decide +kernel
theorem dX12_isMove_18 : decode cX12_isMove 18 = .ok (.iload_n 1, 1) := by decide +kernel
theorem dX12_isMove_19 : decode cX12_isMove 19 = .ok (.if_icmp .ne 53, 3) := by decide +kernel
theorem dX12_isMove_22 : decode cX12_isMove 22 = .ok (.aload_n 0, 1) := by decide +kernel
theorem dX12_isMove_23 : decode cX12_isMove 23 = .ok (.iload_n 1, 1) := by decide +kernel
theorem dX12_isMove_24 : decode cX12_isMove 24 = .ok (.iload_n 2, 1) := by decide +kernel
theorem dX12_isMove_25 : decode cX12_isMove 25 = .ok (.aload_n 0, 1) := by decide +kernel
theorem dX12_isMove_26 : decode cX12_isMove 26 = .ok (.getfield 87, 3) := by decide +kernel
theorem dX12_isMove_29 : decode cX12_isMove 29 = .ok (.iconst 4, 1) := by decide +kernel
theorem dX12_isMove_30 : decode cX12_isMove 30 = .ok (.iload_n 3, 1) := by decide +kernel
theorem dX12_isMove_31 : decode cX12_isMove 31 = .ok (.imul, 1) := by decide +kernel
theorem dX12_isMove_32 : decode cX12_isMove 32 = .ok (.iconst 1, 1) := by decide +kernel
theorem dX12_isMove_33 : decode cX12_isMove 33 = .ok (.iadd, 1) := by decide +kernel
theorem dX12_isMove_34 : decode cX12_isMove 34 = .ok (.iaload, 1) := by decide +kernel
theorem dX12_isMove_35 : decode cX12_isMove 35 = .ok (.aload_n 0, 1) := by decide +kernel
theorem dX12_isMove_36 : decode cX12_isMove 36 = .ok (.getfield 87, 3) := by decide +kernel
theorem dX12_isMove_39 : decode cX12_isMove 39 = .ok (.iconst 4, 1) := by decide +kernel
theorem dX12_isMove_40 : decode cX12_isMove 40 = .ok (.iload_n 3, 1) := by decide +kernel
theorem dX12_isMove_41 : decode cX12_isMove 41 = .ok (.imul, 1) := by decide +kernel
theorem dX12_isMove_42 : decode cX12_isMove 42 = .ok (.iconst 2, 1) := by decide +kernel
theorem dX12_isMove_43 : decode cX12_isMove 43 = .ok (.iadd, 1) := by decide +kernel
theorem dX12_isMove_44 : decode cX12_isMove 44 = .ok (.iaload, 1) := by decide +kernel
theorem dX12_isMove_45 : decode cX12_isMove 45 = .ok (.invokevirtual 445, 3) := by decide +kernel
theorem dX12_isMove_48 : decode cX12_isMove 48 = .ok (.aload_n 0, 1) := by decide +kernel
theorem dX12_isMove_49 : decode cX12_isMove 49 = .ok (.getfield 87, 3) := by decide +kernel
theorem dX12_isMove_52 : decode cX12_isMove 52 = .ok (.iconst 4, 1) := by decide +kernel
theorem dX12_isMove_53 : decode cX12_isMove 53 = .ok (.iload_n 3, 1) := by decide +kernel
theorem dX12_isMove_54 : decode cX12_isMove 54 = .ok (.imul, 1) := by decide +kernel
theorem dX12_isMove_55 : decode cX12_isMove 55 = .ok (.iconst 3, 1) := by decide +kernel
theorem dX12_isMove_56 : decode cX12_isMove 56 = .ok (.iadd, 1) := by decide +kernel
theorem dX12_isMove_57 : decode cX12_isMove 57 = .ok (.iaload, 1) := by decide +kernel
theorem dX12_isMove_58 : decode cX12_isMove 58 = .ok (.iconst 1, 1) := by decide +kernel
theorem dX12_isMove_59 : decode cX12_isMove 59 = .ok (.if_icmp .ne 7, 3) := by decide +kernel
theorem dX12_isMove_62 : decode cX12_isMove 62 = .ok (.iconst 1, 1) := by decide +kernel
theorem dX12_isMove_63 : decode cX12_isMove 63 = .ok (.goto 4, 3) := by decide +kernel
theorem dX12_isMove_66 : decode cX12_isMove 66 = .ok (.iconst 0, 1) := by decide +kernel
theorem dX12_isMove_67 : decode cX12_isMove 67 = .ok (.if_icmp .eq 5, 3) := by decide +kernel
theorem dX12_isMove_70 : decode cX12_isMove 70 = .ok (.iconst 0, 1) := by decide +kernel
theorem dX12_isMove_71 : decode cX12_isMove 71 = .ok (.ireturn, 1) := by decide +kernel
theorem dX12_isMove_72 : decode cX12_isMove 72 = .ok (.iinc 3 1, 3) := by decide +kernel
theorem dX12_isMove_75 : decode cX12_isMove 75 = .ok (.goto (-73), 3) := by decide +kernel
theorem dX12_isMove_78 : decode cX12_isMove 78 = .ok (.iconst 1, 1) := by decide +kernel
theorem dX12_isMove_79 : decode cX12_isMove 79 = .ok (.ireturn, 1) := by decide +kernel
theorem vk_TrapCornerModel_445 : VK "TrapCornerModel" 445 [12] yX12_wouldBe 4 := ⟨tw_1834, tw_1836, tw_13, ⟨by decide, by decide⟩, by decide +kernel, fun ci hci => by
  have hci := List.mem_singleton.mp hci
  subst hci
  exact ⟨_, rfl, tp_100⟩⟩
section
variable {g : GG} {p : Program} {l : Launch} {e : Env} {R : Room} {s : State} {m : MethodId} {args : Array Value} {below : List Frame} {meth : Method} {c : Code} {n0 z0 : Nat}
def f_X12_isMove_72 (k2 : Nat → Int32 → Int32 → Int32 → AH → Option (Int32 × AH)) (o0 : Nat) (x1 : Int32) (x2 : Int32) (x3 : Int32) (h : AH) : Option (Int32 × AH) :=
  k2 o0 x1 x2 (x3 + 1) h
set_option maxHeartbeats 1000000 in
theorem w_X12_isMove_72 (X : Cx g p s m args meth c cX12_isMove 4 "TrapCornerModel") (hR : 91 ≤ R.frames ∧ 5824 ≤ R.locals) (hr : meth.sig.returnType = (some (.boolean))) {res : Int32 × AH} {k2 : Nat → Int32 → Int32 → Int32 → AH → Option (Int32 × AH)} (hk2 : ∀ (o0 : Nat) (x1 : Int32) (x2 : Int32) (x3 : Int32) (h : AH) (ls : Array Slot) (H : Heap) (locs : List Loc), k2 o0 x1 x2 x3 h = some res → Iv g s n0 z0 h H locs 0 0 → lv_has ls 4 [(0, .ref (rfG g o0)), (1, .int x1), (2, .int x2), (3, .int x3)] → W p l e R s m args below meth c H locs 0 0 (MQ below (QG g (some (.int res.1)) res.2) args s 0 0 (AG g)) (F0 m 2 ls [])) : ∀ (o0 : Nat) (x1 : Int32) (x2 : Int32) (x3 : Int32) (h : AH) (ls : Array Slot) (H : Heap) (locs : List Loc), f_X12_isMove_72 k2 o0 x1 x2 x3 h = some res → Iv g s n0 z0 h H locs 0 0 → lv_has ls 4 [(0, .ref (rfG g o0)), (1, .int x1), (2, .int x2), (3, .int x3)] → W p l e R s m args below meth c H locs 0 0 (MQ below (QG g (some (.int res.1)) res.2) args s 0 0 (AG g)) (F0 m 72 ls []) := by
  have hx := X.1
  have hb := X.2.1
  intro o0 x1 x2 x3 h ls H locs hf I hl
  unfold f_X12_isMove_72 at hf
  refine lv_iinc (v := x3 + 1) (lv' := [(3, .int (x3 + 1)), (0, .ref (rfG g o0)), (1, .int x1), (2, .int x2)]) hx hb dX12_isMove_72 hl (k := 3) rfl rfl (by decide) rfl (fun ls hl => ?_)
  refine lv_goto (tgt := 2) hx hb dX12_isMove_75 (by decide) ?_
  exact hk2 o0 x1 x2 (x3 + 1) h ls H locs hf I (lv_sub hl [1, 2, 3, 0] rfl)
def f_X12_isMove_67 (k2 : Nat → Int32 → Int32 → Int32 → AH → Option (Int32 × AH)) (o0 : Nat) (x1 : Int32) (x2 : Int32) (x3 : Int32) (s0 : Int32) (s1 : Int32) (h : AH) : Option (Int32 × AH) :=
  if s0 = s1 then
    f_X12_isMove_72 k2 o0 x1 x2 x3 h
  else
    some (0, h)
set_option maxHeartbeats 1000000 in
theorem w_X12_isMove_67 (X : Cx g p s m args meth c cX12_isMove 4 "TrapCornerModel") (hR : 91 ≤ R.frames ∧ 5824 ≤ R.locals) (hr : meth.sig.returnType = (some (.boolean))) {res : Int32 × AH} {k2 : Nat → Int32 → Int32 → Int32 → AH → Option (Int32 × AH)} (hk2 : ∀ (o0 : Nat) (x1 : Int32) (x2 : Int32) (x3 : Int32) (h : AH) (ls : Array Slot) (H : Heap) (locs : List Loc), k2 o0 x1 x2 x3 h = some res → Iv g s n0 z0 h H locs 0 0 → lv_has ls 4 [(0, .ref (rfG g o0)), (1, .int x1), (2, .int x2), (3, .int x3)] → W p l e R s m args below meth c H locs 0 0 (MQ below (QG g (some (.int res.1)) res.2) args s 0 0 (AG g)) (F0 m 2 ls [])) : ∀ (o0 : Nat) (x1 : Int32) (x2 : Int32) (x3 : Int32) (s0 : Int32) (s1 : Int32) (h : AH) (ls : Array Slot) (H : Heap) (locs : List Loc), f_X12_isMove_67 k2 o0 x1 x2 x3 s0 s1 h = some res → Iv g s n0 z0 h H locs 0 0 → lv_has ls 4 [(0, .ref (rfG g o0)), (1, .int x1), (2, .int x2), (3, .int x3)] → W p l e R s m args below meth c H locs 0 0 (MQ below (QG g (some (.int res.1)) res.2) args s 0 0 (AG g)) (F0 m 67 ls [.int s1, .int s0]) := by
  have hx := X.1
  have hb := X.2.1
  intro o0 x1 x2 x3 s0 s1 h ls H locs hf I hl
  unfold f_X12_isMove_67 at hf
  refine lv_icmp_eq (tgt := 72) hx hb dX12_isMove_67 (by decide) (fun c1 => ?_) (fun c1 => ?_)
  · rw [if_pos c1] at hf
    exact w_X12_isMove_72 X hR hr hk2 o0 x1 x2 x3 h ls H locs hf I (lv_sub hl [0, 1, 2, 3] rfl)
  · rw [if_neg c1] at hf
    refine lv_iconst (v := 0) hx hb dX12_isMove_70 (by decide) ?_
    cases hf
    exact k_rz X I hr (Or.inl rfl) dX12_isMove_71
def f_X12_isMove_2  : Nat → Nat → Int32 → Int32 → Int32 → AH → Option (Int32 × AH)
  | 0, _, _, _, _, _ => none
  | n + 1, o0, x1, x2, x3, h =>
  (gI [12] h o0 46).bind fun v1 =>
  if v1 ≤ x3 then
    some (1, h)
  else
    (gR [12] h o0 45).bind fun v4 =>
    (aI 0 h v4 (4 * x3)).bind fun v6 =>
    if v6 = x1 then
      (gR [12] h o0 45).bind fun v9 =>
      (aI 0 h v9 ((4 * x3) + 1)).bind fun v11 =>
      (gR [12] h o0 45).bind fun v13 =>
      (aI 0 h v13 ((4 * x3) + 2)).bind fun v15 =>
      (isC [12] h o0).bind fun _ =>
      cN (f_X12_wouldBe o0 x1 x2 v11 v15 h) h fun v17 h18 =>
      (gR [12] h18 o0 45).bind fun v22 =>
      (aI 0 h18 v22 ((4 * x3) + 3)).bind fun v24 =>
      if v24 = 1 then
        f_X12_isMove_67 (f_X12_isMove_2 n) o0 x1 x2 x3 v17 1 h18
      else
        f_X12_isMove_67 (f_X12_isMove_2 n) o0 x1 x2 x3 v17 0 h18
    else
      f_X12_isMove_72 (f_X12_isMove_2 n) o0 x1 x2 x3 h
set_option maxHeartbeats 1000000 in
theorem w_X12_isMove_2 (X : Cx g p s m args meth c cX12_isMove 4 "TrapCornerModel") (hR : 91 ≤ R.frames ∧ 5824 ≤ R.locals) (hr : meth.sig.returnType = (some (.boolean))) {res : Int32 × AH} : ∀ (n : Nat) (o0 : Nat) (x1 : Int32) (x2 : Int32) (x3 : Int32) (h : AH) (ls : Array Slot) (H : Heap) (locs : List Loc), f_X12_isMove_2 n o0 x1 x2 x3 h = some res → Iv g s n0 z0 h H locs 0 0 → lv_has ls 4 [(0, .ref (rfG g o0)), (1, .int x1), (2, .int x2), (3, .int x3)] → W p l e R s m args below meth c H locs 0 0 (MQ below (QG g (some (.int res.1)) res.2) args s 0 0 (AG g)) (F0 m 2 ls []) := by
  have hx := X.1
  have hb := X.2.1
  intro n
  induction n with
  | zero =>
    intro o0 x1 x2 x3 h ls H locs hf
    rw [f_X12_isMove_2.eq_1] at hf
    cases hf
  | succ n ih =>
    intro o0 x1 x2 x3 h ls H locs hf I hl
    rw [f_X12_isMove_2.eq_2] at hf
    refine lv_iload_n hx hb dX12_isMove_2 rfl (lv_at hl 3 rfl) ?_
    refine lv_aload_n hx hb dX12_isMove_3 rfl (lv_at hl 0 rfl) ?_
    obtain ⟨v1, e2, hf⟩ := Option.bind_eq_some_iff.mp hf
    refine r_gI X I e2 lk_TrapCornerModel_300 dX12_isMove_4 ?_
    refine lv_icmp_ge (tgt := 78) hx hb dX12_isMove_7 (by decide) (fun c3 => ?_) (fun c3 => ?_)
    · rw [if_pos c3] at hf
      refine lv_iconst (v := 1) hx hb dX12_isMove_78 (by decide) ?_
      cases hf
      exact k_rz X I hr (Or.inr rfl) dX12_isMove_79
    · rw [if_neg c3] at hf
      refine lv_aload_n hx hb dX12_isMove_10 rfl (lv_at hl 0 rfl) ?_
      obtain ⟨v4, e5, hf⟩ := Option.bind_eq_some_iff.mp hf
      refine r_gR X I e5 lk_TrapCornerModel_87 dX12_isMove_11 ?_
      refine lv_iconst (v := 4) hx hb dX12_isMove_14 (by decide) ?_
      refine lv_iload_n hx hb dX12_isMove_15 rfl (lv_at hl 3 rfl) ?_
      refine lv_imul hx hb dX12_isMove_16 ?_
      obtain ⟨v6, e7, hf⟩ := Option.bind_eq_some_iff.mp hf
      refine r_aI0 X I e7 dX12_isMove_17 ?_
      refine lv_iload_n hx hb dX12_isMove_18 rfl (lv_at hl 1 rfl) ?_
      refine lv_icmp_ne (tgt := 72) hx hb dX12_isMove_19 (by decide) (fun c8 => ?_) (fun c8 => ?_)
      · rw [if_neg c8] at hf
        exact w_X12_isMove_72 X hR hr ih o0 x1 x2 x3 h ls H locs hf I (lv_sub hl [0, 1, 2, 3] rfl)
      · rw [if_pos c8] at hf
        refine lv_aload_n hx hb dX12_isMove_22 rfl (lv_at hl 0 rfl) ?_
        refine lv_iload_n hx hb dX12_isMove_23 rfl (lv_at hl 1 rfl) ?_
        refine lv_iload_n hx hb dX12_isMove_24 rfl (lv_at hl 2 rfl) ?_
        refine lv_aload_n hx hb dX12_isMove_25 rfl (lv_at hl 0 rfl) ?_
        obtain ⟨v9, e10, hf⟩ := Option.bind_eq_some_iff.mp hf
        refine r_gR X I e10 lk_TrapCornerModel_87 dX12_isMove_26 ?_
        refine lv_iconst (v := 4) hx hb dX12_isMove_29 (by decide) ?_
        refine lv_iload_n hx hb dX12_isMove_30 rfl (lv_at hl 3 rfl) ?_
        refine lv_imul hx hb dX12_isMove_31 ?_
        refine lv_iconst (v := 1) hx hb dX12_isMove_32 (by decide) ?_
        refine lv_iadd hx hb dX12_isMove_33 ?_
        obtain ⟨v11, e12, hf⟩ := Option.bind_eq_some_iff.mp hf
        refine r_aI0 X I e12 dX12_isMove_34 ?_
        refine lv_aload_n hx hb dX12_isMove_35 rfl (lv_at hl 0 rfl) ?_
        obtain ⟨v13, e14, hf⟩ := Option.bind_eq_some_iff.mp hf
        refine r_gR X I e14 lk_TrapCornerModel_87 dX12_isMove_36 ?_
        refine lv_iconst (v := 4) hx hb dX12_isMove_39 (by decide) ?_
        refine lv_iload_n hx hb dX12_isMove_40 rfl (lv_at hl 3 rfl) ?_
        refine lv_imul hx hb dX12_isMove_41 ?_
        refine lv_iconst (v := 2) hx hb dX12_isMove_42 (by decide) ?_
        refine lv_iadd hx hb dX12_isMove_43 ?_
        obtain ⟨v15, e16, hf⟩ := Option.bind_eq_some_iff.mp hf
        refine r_aI0 X I e16 dX12_isMove_44 ?_
        obtain ⟨_, g21, hf⟩ := Option.bind_eq_some_iff.mp hf
        obtain ⟨v17, h18, e19, z20, hf⟩ := cN_spec hf
        refine k_Vi (As := [.int x1, .int x2, .int v11, .int v15]) (rest := []) X I (c_X12_wouldBe l g o0 x1 x2 v11 v15 e19) z20 g21 vk_TrapCornerModel_445 tw_1837 ⟨Nat.le_trans (by decide) hR.1, Nat.le_trans (by decide) hR.2⟩ ⟨Nat.zero_le _, Nat.zero_le _⟩ rfl hl.1 rfl (Nat.le_of_ble_eq_true rfl) dX12_isMove_45 (fun H locs I => ?_)
        refine lv_aload_n hx hb dX12_isMove_48 rfl (lv_at hl 0 rfl) ?_
        obtain ⟨v22, e23, hf⟩ := Option.bind_eq_some_iff.mp hf
        refine r_gR X I e23 lk_TrapCornerModel_87 dX12_isMove_49 ?_
        refine lv_iconst (v := 4) hx hb dX12_isMove_52 (by decide) ?_
        refine lv_iload_n hx hb dX12_isMove_53 rfl (lv_at hl 3 rfl) ?_
        refine lv_imul hx hb dX12_isMove_54 ?_
        refine lv_iconst (v := 3) hx hb dX12_isMove_55 (by decide) ?_
        refine lv_iadd hx hb dX12_isMove_56 ?_
        obtain ⟨v24, e25, hf⟩ := Option.bind_eq_some_iff.mp hf
        refine r_aI0 X I e25 dX12_isMove_57 ?_
        refine lv_iconst (v := 1) hx hb dX12_isMove_58 (by decide) ?_
        refine lv_icmp_ne (tgt := 66) hx hb dX12_isMove_59 (by decide) (fun c26 => ?_) (fun c26 => ?_)
        · rw [if_neg c26] at hf
          refine lv_iconst (v := 0) hx hb dX12_isMove_66 (by decide) ?_
          exact w_X12_isMove_67 X hR hr ih o0 x1 x2 x3 v17 0 h18 ls H locs hf I (lv_sub hl [0, 1, 2, 3] rfl)
        · rw [if_pos c26] at hf
          refine lv_iconst (v := 1) hx hb dX12_isMove_62 (by decide) ?_
          refine lv_goto (tgt := 67) hx hb dX12_isMove_63 (by decide) ?_
          exact w_X12_isMove_67 X hR hr ih o0 x1 x2 x3 v17 1 h18 ls H locs hf I (lv_sub hl [0, 1, 2, 3] rfl)
def f_X12_isMove_0  (o0 : Nat) (x1 : Int32) (x2 : Int32) (h : AH) : Option (Int32 × AH) :=
  f_X12_isMove_2 fu o0 x1 x2 0 h
set_option maxHeartbeats 1000000 in
theorem w_X12_isMove_0 (X : Cx g p s m args meth c cX12_isMove 4 "TrapCornerModel") (hR : 91 ≤ R.frames ∧ 5824 ≤ R.locals) (hr : meth.sig.returnType = (some (.boolean))) {res : Int32 × AH} : ∀ (o0 : Nat) (x1 : Int32) (x2 : Int32) (h : AH) (ls : Array Slot) (H : Heap) (locs : List Loc), f_X12_isMove_0 o0 x1 x2 h = some res → Iv g s n0 z0 h H locs 0 0 → lv_has ls 4 [(0, .ref (rfG g o0)), (1, .int x1), (2, .int x2)] → W p l e R s m args below meth c H locs 0 0 (MQ below (QG g (some (.int res.1)) res.2) args s 0 0 (AG g)) (F0 m 0 ls []) := by
  have hx := X.1
  have hb := X.2.1
  intro o0 x1 x2 h ls H locs hf I hl
  unfold f_X12_isMove_0 at hf
  refine lv_iconst (v := 0) hx hb dX12_isMove_0 (by decide) ?_
  refine lv_istore_n (lv' := [(3, .int 0), (0, .ref (rfG g o0)), (1, .int x1), (2, .int x2)]) hx hb dX12_isMove_1 rfl hl (by decide) rfl (fun ls hl => ?_)
  exact w_X12_isMove_2 X hR hr fu o0 x1 x2 0 h ls H locs hf I (lv_sub hl [1, 2, 3, 0] rfl)
def f_X12_isMove (o0 : Nat) (x1 : Int32) (x2 : Int32) (h : AH) : Option (Int32 × AH) := f_X12_isMove_0 o0 x1 x2 h
end
theorem c_X12_isMove (l : Launch) (g : GG) (o0 : Nat) (x1 : Int32) (x2 : Int32) {h : AH} {res : Int32 × AH} (hf : f_X12_isMove o0 x1 x2 h = some res) : CM l g yX12_isMove cX12_isMove 4 (some (.boolean)) 91 5824 0 0 [.ref (rfG g o0), .int x1, .int x2] h (some (.int res.1)) res.2 :=
  k_body (by decide) (Nat.le_of_ble_eq_true rfl) (fun p e s m below meth c R ls hR hr X I hl => w_X12_isMove_0 X ⟨Nat.le_of_eq hR.1.symm, Nat.le_of_eq hR.2.1.symm⟩ hr o0 x1 x2 h ls s.heap [] hf I (lv_sub hl [0, 1, 2] rfl))
/-! TrapCornerModel.moves(II)I -/
theorem dX12_moves_0 : decode cX12_moves 0 = .ok (.aload_n 0, 1) := by decide +kernel
theorem dX12_moves_1 : decode cX12_moves 1 = .ok (.iconst 0, 1) := by decide +kernel
theorem dX12_moves_2 : decode cX12_moves 2 = .ok (.putfield 96, 3) := by decide +kernel
theorem dX12_moves_5 : decode cX12_moves 5 = .ok (.aload_n 0, 1) := by decide +kernel
theorem dX12_moves_6 : decode cX12_moves 6 = .ok (.iload_n 1, 1) := by decide +kernel
theorem dX12_moves_7 : decode cX12_moves 7 = .ok (.invokevirtual 383, 3) := by decide +kernel
theorem dX12_moves_10 : decode cX12_moves 10 = .ok (.ifCond .eq 8, 3) := by decide +kernel
theorem dX12_moves_13 : decode cX12_moves 13 = .ok (.iload_n 2, 1) := by decide +kernel
theorem dX12_moves_14 : decode cX12_moves 14 = .ok (.iconst (-1), 1) := by decide +kernel
theorem dX12_moves_15 : decode cX12_moves 15 = .ok (.if_icmp .ge 5, 3) := by decide +kernel
theorem dX12_moves_18 : decode cX12_moves 18 = .ok (.iconst (-1), 1) := by decide +kernel
theorem dX12_moves_19 : decode cX12_moves 19 = .ok (.ireturn, 1) := by decide +kernel
theorem dX12_moves_20 : decode cX12_moves 20 = .ok (.iconst 0, 1) := by decide +kernel
theorem dX12_moves_21 : decode cX12_moves 21 = .ok (.istore_n 3, 1) := by decide +kernel
theorem dX12_moves_22 : decode cX12_moves 22 = .ok (.bipush 10, 2) := by decide +kernel
theorem dX12_moves_24 : decode cX12_moves 24 = .ok (.istore 4, 2) := by decide +kernel
theorem dX12_moves_26 : decode cX12_moves 26 = .ok (.iload 4, 2) := by decide +kernel
theorem dX12_moves_28 : decode cX12_moves 28 = .ok (.bipush 40, 2) := by decide +kernel
theorem dX12_moves_30 : decode cX12_moves 30 = .ok (.if_icmp .ge 33, 3) := by decide +kernel
theorem dX12_moves_33 : decode cX12_moves 33 = .ok (.aload_n 0, 1) := by decide +kernel
theorem dX12_moves_34 : decode cX12_moves 34 = .ok (.iload_n 1, 1) := by decide +kernel
theorem dX12_moves_35 : decode cX12_moves 35 = .ok (.iload 4, 2) := by decide +kernel
theorem dX12_moves_37 : decode cX12_moves 37 = .ok (.invokevirtual 449, 3) := by decide +kernel
theorem dX12_moves_40 : decode cX12_moves 40 = .ok (.ifCond .ne 6, 3) := by decide +kernel
theorem dX12_moves_43 : decode cX12_moves 43 = .ok (.goto 14, 3) := by decide +kernel
theorem dX12_moves_46 : decode cX12_moves 46 = .ok (.iload_n 3, 1) := by decide +kernel
theorem dX12_moves_47 : decode cX12_moves 47 = .ok (.iload_n 2, 1) := by decide +kernel
theorem dX12_moves_48 : decode cX12_moves 48 = .ok (.if_icmp .ne 6, 3) := by decide +kernel
theorem dX12_moves_51 : decode cX12_moves 51 = .ok (.iload 4, 2) := by decide +kernel
theorem dX12_moves_53 : decode cX12_moves 53 = .ok (.ireturn, 1) := by decide +kernel
theorem dX12_moves_54 : decode cX12_moves 54 = .ok (.iinc 3 1, 3) := by decide +kernel
theorem dX12_moves_57 : decode cX12_moves 57 = .ok (.iinc 4 1, 3) := by decide +kernel
theorem dX12_moves_60 : decode cX12_moves 60 = .ok (.goto (-34), 3) := by decide +kernel
theorem dX12_moves_63 : decode cX12_moves 63 = .ok (.iload_n 2, 1) := by decide +kernel
theorem dX12_moves_64 : decode cX12_moves 64 = .ok (.iconst (-1), 1) := by decide +kernel
theorem dX12_moves_65 : decode cX12_moves 65 = .ok (.if_icmp .ne 7, 3) := by decide +kernel
theorem dX12_moves_68 : decode cX12_moves 68 = .ok (.iload_n 3, 1) := by decide +kernel
theorem dX12_moves_69 : decode cX12_moves 69 = .ok (.goto 4, 3) := by decide +kernel
theorem dX12_moves_72 : decode cX12_moves 72 = .ok (.iconst (-1), 1) := by decide +kernel
theorem dX12_moves_73 : decode cX12_moves 73 = .ok (.ireturn, 1) := by decide +kernel
theorem vk_TrapCornerModel_449 : VK "TrapCornerModel" 449 [12] yX12_isMove 2 := ⟨tw_1830, tw_1832, tw_13, ⟨by decide, by decide⟩, by decide +kernel, fun ci hci => by
  have hci := List.mem_singleton.mp hci
  subst hci
  exact ⟨_, rfl, tp_99⟩⟩
section
variable {g : GG} {p : Program} {l : Launch} {e : Env} {R : Room} {s : State} {m : MethodId} {args : Array Value} {below : List Frame} {meth : Method} {c : Code} {n0 z0 : Nat}
def f_X12_moves_57 (k26 : Nat → Int32 → Int32 → Int32 → Int32 → AH → Option (Int32 × AH)) (o0 : Nat) (x1 : Int32) (x2 : Int32) (x3 : Int32) (x4 : Int32) (h : AH) : Option (Int32 × AH) :=
  k26 o0 x1 x2 x3 (x4 + 1) h
set_option maxHeartbeats 1000000 in
theorem w_X12_moves_57 (X : Cx g p s m args meth c cX12_moves 5 "TrapCornerModel") (hR : 92 ≤ R.frames ∧ 5888 ≤ R.locals) (hr : meth.sig.returnType = (some (.int))) {res : Int32 × AH} {k26 : Nat → Int32 → Int32 → Int32 → Int32 → AH → Option (Int32 × AH)} (hk26 : ∀ (o0 : Nat) (x1 : Int32) (x2 : Int32) (x3 : Int32) (x4 : Int32) (h : AH) (ls : Array Slot) (H : Heap) (locs : List Loc), k26 o0 x1 x2 x3 x4 h = some res → Iv g s n0 z0 h H locs 0 0 → lv_has ls 5 [(0, .ref (rfG g o0)), (1, .int x1), (2, .int x2), (3, .int x3), (4, .int x4)] → W p l e R s m args below meth c H locs 0 0 (MQ below (QG g (some (.int res.1)) res.2) args s 0 0 (AG g)) (F0 m 26 ls [])) : ∀ (o0 : Nat) (x1 : Int32) (x2 : Int32) (x3 : Int32) (x4 : Int32) (h : AH) (ls : Array Slot) (H : Heap) (locs : List Loc), f_X12_moves_57 k26 o0 x1 x2 x3 x4 h = some res → Iv g s n0 z0 h H locs 0 0 → lv_has ls 5 [(0, .ref (rfG g o0)), (1, .int x1), (2, .int x2), (3, .int x3), (4, .int x4)] → W p l e R s m args below meth c H locs 0 0 (MQ below (QG g (some (.int res.1)) res.2) args s 0 0 (AG g)) (F0 m 57 ls []) := by
  have hx := X.1
  have hb := X.2.1
  intro o0 x1 x2 x3 x4 h ls H locs hf I hl
  unfold f_X12_moves_57 at hf
  refine lv_iinc (v := x4 + 1) (lv' := [(4, .int (x4 + 1)), (0, .ref (rfG g o0)), (1, .int x1), (2, .int x2), (3, .int x3)]) hx hb dX12_moves_57 hl (k := 4) rfl rfl (by decide) rfl (fun ls hl => ?_)
  refine lv_goto (tgt := 26) hx hb dX12_moves_60 (by decide) ?_
  exact hk26 o0 x1 x2 x3 (x4 + 1) h ls H locs hf I (lv_sub hl [1, 2, 3, 4, 0] rfl)
def f_X12_moves_26  : Nat → Nat → Int32 → Int32 → Int32 → Int32 → AH → Option (Int32 × AH)
  | 0, _, _, _, _, _, _ => none
  | n + 1, o0, x1, x2, x3, x4, h =>
  if 40 ≤ x4 then
    if x2 = ((-1)) then
      some (x3, h)
    else
      some ((-1), h)
  else
    (isC [12] h o0).bind fun _ =>
    cN (f_X12_isMove o0 x1 x4 h) h fun v3 h4 =>
    if v3 = 0 then
      f_X12_moves_57 (f_X12_moves_26 n) o0 x1 x2 x3 x4 h4
    else
      if x3 = x2 then
        some (x4, h4)
      else
        f_X12_moves_57 (f_X12_moves_26 n) o0 x1 x2 (x3 + 1) x4 h4
set_option maxHeartbeats 1000000 in
theorem w_X12_moves_26 (X : Cx g p s m args meth c cX12_moves 5 "TrapCornerModel") (hR : 92 ≤ R.frames ∧ 5888 ≤ R.locals) (hr : meth.sig.returnType = (some (.int))) {res : Int32 × AH} : ∀ (n : Nat) (o0 : Nat) (x1 : Int32) (x2 : Int32) (x3 : Int32) (x4 : Int32) (h : AH) (ls : Array Slot) (H : Heap) (locs : List Loc), f_X12_moves_26 n o0 x1 x2 x3 x4 h = some res → Iv g s n0 z0 h H locs 0 0 → lv_has ls 5 [(0, .ref (rfG g o0)), (1, .int x1), (2, .int x2), (3, .int x3), (4, .int x4)] → W p l e R s m args below meth c H locs 0 0 (MQ below (QG g (some (.int res.1)) res.2) args s 0 0 (AG g)) (F0 m 26 ls []) := by
  have hx := X.1
  have hb := X.2.1
  intro n
  induction n with
  | zero =>
    intro o0 x1 x2 x3 x4 h ls H locs hf
    rw [f_X12_moves_26.eq_1] at hf
    cases hf
  | succ n ih =>
    intro o0 x1 x2 x3 x4 h ls H locs hf I hl
    rw [f_X12_moves_26.eq_2] at hf
    refine lv_iload hx hb dX12_moves_26 (lv_at hl 4 rfl) ?_
    refine lv_bipush (v := 40) hx hb dX12_moves_28 (by decide) ?_
    refine lv_icmp_ge (tgt := 63) hx hb dX12_moves_30 (by decide) (fun c1 => ?_) (fun c1 => ?_)
    · rw [if_pos c1] at hf
      refine lv_iload_n hx hb dX12_moves_63 rfl (lv_at hl 2 rfl) ?_
      refine lv_iconst (v := (-1)) hx hb dX12_moves_64 (by decide) ?_
      refine lv_icmp_ne (tgt := 72) hx hb dX12_moves_65 (by decide) (fun c2 => ?_) (fun c2 => ?_)
      · rw [if_neg c2] at hf
        refine lv_iconst (v := (-1)) hx hb dX12_moves_72 (by decide) ?_
        cases hf
        exact k_ri X I hr dX12_moves_73
      · rw [if_pos c2] at hf
        refine lv_iload_n hx hb dX12_moves_68 rfl (lv_at hl 3 rfl) ?_
        refine lv_goto (tgt := 73) hx hb dX12_moves_69 (by decide) ?_
        cases hf
        exact k_ri X I hr dX12_moves_73
    · rw [if_neg c1] at hf
      refine lv_aload_n hx hb dX12_moves_33 rfl (lv_at hl 0 rfl) ?_
      refine lv_iload_n hx hb dX12_moves_34 rfl (lv_at hl 1 rfl) ?_
      refine lv_iload hx hb dX12_moves_35 (lv_at hl 4 rfl) ?_
      obtain ⟨_, g7, hf⟩ := Option.bind_eq_some_iff.mp hf
      obtain ⟨v3, h4, e5, z6, hf⟩ := cN_spec hf
      refine k_Vi (As := [.int x1, .int x4]) (rest := []) X I (c_X12_isMove l g o0 x1 x4 e5) z6 g7 vk_TrapCornerModel_449 tw_1833 ⟨Nat.le_trans (by decide) hR.1, Nat.le_trans (by decide) hR.2⟩ ⟨Nat.zero_le _, Nat.zero_le _⟩ rfl hl.1 rfl (Nat.le_of_ble_eq_true rfl) dX12_moves_37 (fun H locs I => ?_)
      refine lv_if_ne (tgt := 46) hx hb dX12_moves_40 (by decide) (fun c8 => ?_) (fun c8 => ?_)
      · rw [if_neg c8] at hf
        refine lv_iload_n hx hb dX12_moves_46 rfl (lv_at hl 3 rfl) ?_
        refine lv_iload_n hx hb dX12_moves_47 rfl (lv_at hl 2 rfl) ?_
        refine lv_icmp_ne (tgt := 54) hx hb dX12_moves_48 (by decide) (fun c9 => ?_) (fun c9 => ?_)
        · rw [if_neg c9] at hf
          refine lv_iinc (v := x3 + 1) (lv' := [(3, .int (x3 + 1)), (0, .ref (rfG g o0)), (1, .int x1), (2, .int x2), (4, .int x4)]) hx hb dX12_moves_54 hl (k := 3) rfl rfl (by decide) rfl (fun ls hl => ?_)
          exact w_X12_moves_57 X hR hr ih o0 x1 x2 (x3 + 1) x4 h4 ls H locs hf I (lv_sub hl [1, 2, 3, 0, 4] rfl)
        · rw [if_pos c9] at hf
          refine lv_iload hx hb dX12_moves_51 (lv_at hl 4 rfl) ?_
          cases hf
          exact k_ri X I hr dX12_moves_53
      · rw [if_pos c8] at hf
        refine lv_goto (tgt := 57) hx hb dX12_moves_43 (by decide) ?_
        exact w_X12_moves_57 X hR hr ih o0 x1 x2 x3 x4 h4 ls H locs hf I (lv_sub hl [0, 1, 2, 3, 4] rfl)
def f_X12_moves_0  (o0 : Nat) (x1 : Int32) (x2 : Int32) (h : AH) : Option (Int32 × AH) :=
  (pV [12] h o0 0 (.int 0)).bind fun h1 =>
  (isC [12] h1 o0).bind fun _ =>
  cN (f_X12_isPerson o0 x1 h1) h1 fun v3 h4 =>
  if v3 = 0 then
    some ((-1), h4)
  else
    if ((-1)) ≤ x2 then
      f_X12_moves_26 fu o0 x1 x2 0 10 h4
    else
      some ((-1), h4)
set_option maxHeartbeats 1000000 in
theorem w_X12_moves_0 (X : Cx g p s m args meth c cX12_moves 5 "TrapCornerModel") (hR : 92 ≤ R.frames ∧ 5888 ≤ R.locals) (hr : meth.sig.returnType = (some (.int))) {res : Int32 × AH} : ∀ (o0 : Nat) (x1 : Int32) (x2 : Int32) (h : AH) (ls : Array Slot) (H : Heap) (locs : List Loc), f_X12_moves_0 o0 x1 x2 h = some res → Iv g s n0 z0 h H locs 0 0 → lv_has ls 5 [(0, .ref (rfG g o0)), (1, .int x1), (2, .int x2)] → W p l e R s m args below meth c H locs 0 0 (MQ below (QG g (some (.int res.1)) res.2) args s 0 0 (AG g)) (F0 m 0 ls []) := by
  have hx := X.1
  have hb := X.2.1
  intro o0 x1 x2 h ls H locs hf I hl
  unfold f_X12_moves_0 at hf
  refine lv_aload_n hx hb dX12_moves_0 rfl (lv_at hl 0 rfl) ?_
  refine lv_iconst (v := 0) hx hb dX12_moves_1 (by decide) ?_
  obtain ⟨h1, e2, hf⟩ := Option.bind_eq_some_iff.mp hf
  refine r_pI X I e2 lp_TrapCornerModel_96 dX12_moves_2 (fun H locs I => ?_)
  refine lv_aload_n hx hb dX12_moves_5 rfl (lv_at hl 0 rfl) ?_
  refine lv_iload_n hx hb dX12_moves_6 rfl (lv_at hl 1 rfl) ?_
  obtain ⟨_, g7, hf⟩ := Option.bind_eq_some_iff.mp hf
  obtain ⟨v3, h4, e5, z6, hf⟩ := cN_spec hf
  refine k_Vi (As := [.int x1]) (rest := []) X I (c_X12_isPerson l g o0 x1 e5) z6 g7 vk_TrapCornerModel_383 tw_1643 ⟨Nat.le_trans (by decide) hR.1, Nat.le_trans (by decide) hR.2⟩ ⟨Nat.zero_le _, Nat.zero_le _⟩ rfl hl.1 rfl (Nat.le_of_ble_eq_true rfl) dX12_moves_7 (fun H locs I => ?_)
  refine lv_if_eq (tgt := 18) hx hb dX12_moves_10 (by decide) (fun c8 => ?_) (fun c8 => ?_)
  · rw [if_pos c8] at hf
    refine lv_iconst (v := (-1)) hx hb dX12_moves_18 (by decide) ?_
    cases hf
    exact k_ri X I hr dX12_moves_19
  · rw [if_neg c8] at hf
    refine lv_iload_n hx hb dX12_moves_13 rfl (lv_at hl 2 rfl) ?_
    refine lv_iconst (v := (-1)) hx hb dX12_moves_14 (by decide) ?_
    refine lv_icmp_ge (tgt := 20) hx hb dX12_moves_15 (by decide) (fun c9 => ?_) (fun c9 => ?_)
    · rw [if_pos c9] at hf
      refine lv_iconst (v := 0) hx hb dX12_moves_20 (by decide) ?_
      refine lv_istore_n (lv' := [(3, .int 0), (0, .ref (rfG g o0)), (1, .int x1), (2, .int x2)]) hx hb dX12_moves_21 rfl hl (by decide) rfl (fun ls hl => ?_)
      refine lv_bipush (v := 10) hx hb dX12_moves_22 (by decide) ?_
      refine lv_istore (lv' := [(4, .int 10), (3, .int 0), (0, .ref (rfG g o0)), (1, .int x1), (2, .int x2)]) hx hb dX12_moves_24 hl (by decide) rfl (fun ls hl => ?_)
      exact w_X12_moves_26 X hR hr fu o0 x1 x2 0 10 h4 ls H locs hf I (lv_sub hl [2, 3, 4, 1, 0] rfl)
    · rw [if_neg c9] at hf
      refine lv_iconst (v := (-1)) hx hb dX12_moves_18 (by decide) ?_
      cases hf
      exact k_ri X I hr dX12_moves_19
def f_X12_moves (o0 : Nat) (x1 : Int32) (x2 : Int32) (h : AH) : Option (Int32 × AH) := f_X12_moves_0 o0 x1 x2 h
end
theorem c_X12_moves (l : Launch) (g : GG) (o0 : Nat) (x1 : Int32) (x2 : Int32) {h : AH} {res : Int32 × AH} (hf : f_X12_moves o0 x1 x2 h = some res) : CM l g yX12_moves cX12_moves 5 (some (.int)) 92 5888 0 0 [.ref (rfG g o0), .int x1, .int x2] h (some (.int res.1)) res.2 :=
  k_body (by decide) (Nat.le_of_ble_eq_true rfl) (fun p e s m below meth c R ls hR hr X I hl => w_X12_moves_0 X ⟨Nat.le_of_eq hR.1.symm, Nat.le_of_eq hR.2.1.symm⟩ hr o0 x1 x2 h ls s.heap [] hf I (lv_sub hl [0, 1, 2] rfl))
/-! TrapCornerModel.ask(II)I -/
theorem dX12_ask_0 : decode cX12_ask 0 = .ok (.aload_n 0, 1) := by decide +kernel
theorem dX12_ask_1 : decode cX12_ask 1 = .ok (.iconst 0, 1) := by decide +kernel
theorem dX12_ask_2 : decode cX12_ask 2 = .ok (.putfield 96, 3) := by decide +kernel
theorem dX12_ask_5 : decode cX12_ask 5 = .ok (.aload_n 0, 1) := by decide +kernel
theorem dX12_ask_6 : decode cX12_ask 6 = .ok (.iload_n 1, 1) := by decide +kernel
theorem dX12_ask_7 : decode cX12_ask 7 = .ok (.invokevirtual 383, 3) := by decide +kernel
theorem dX12_ask_10 : decode cX12_ask 10 = .ok (.ifCond .eq 15, 3) := by decide +kernel
theorem dX12_ask_13 : decode cX12_ask 13 = .ok (.iload_n 2, 1) := by decide +kernel
theorem dX12_ask_14 : decode cX12_ask 14 = .ok (.i2l, 1) := by decide +kernel
theorem dX12_ask_15 : decode cX12_ask 15 = .ok (.lconst 1, 1) := by decide +kernel
theorem dX12_ask_16 : decode cX12_ask 16 = .ok (.ldc2_w 388, 3) := by decide +kernel
theorem dX12_ask_19 : decode cX12_ask 19 = .ok (.invokestatic 217, 3) := by decide +kernel
theorem dX12_ask_22 : decode cX12_ask 22 = .ok (.ifCond .ne 5, 3) := by decide +kernel
theorem dX12_ask_25 : decode cX12_ask 25 = .ok (.iconst (-1), 1) := by decide +kernel
theorem dX12_ask_26 : decode cX12_ask 26 = .ok (.ireturn, 1) := by decide +kernel
theorem dX12_ask_27 : decode cX12_ask 27 = .ok (.iconst (-1), 1) := by decide +kernel
theorem dX12_ask_28 : decode cX12_ask 28 = .ok (.istore_n 3, 1) := by decide +kernel
theorem dX12_ask_29 : decode cX12_ask 29 = .ok (.iconst 0, 1) := by decide +kernel
theorem dX12_ask_30 : decode cX12_ask 30 = .ok (.istore 4, 2) := by decide +kernel
theorem dX12_ask_32 : decode cX12_ask 32 = .ok (.iconst 1, 1) := by decide +kernel
theorem dX12_ask_33 : decode cX12_ask 33 = .ok (.istore 5, 2) := by decide +kernel
theorem dX12_ask_35 : decode cX12_ask 35 = .ok (.iload 5, 2) := by decide +kernel
theorem dX12_ask_37 : decode cX12_ask 37 = .ok (.iconst 4, 1) := by decide +kernel
theorem dX12_ask_38 : decode cX12_ask 38 = .ok (.if_icmp .ge 107, 3) := by decide +kernel
theorem dX12_ask_41 : decode cX12_ask 41 = .ok (.iconst 0, 1) := by decide +kernel
theorem dX12_ask_42 : decode cX12_ask 42 = .ok (.istore 6, 2) := by decide +kernel
theorem dX12_ask_44 : decode cX12_ask 44 = .ok (.iconst 0, 1) := by decide +kernel
theorem dX12_ask_45 : decode cX12_ask 45 = .ok (.istore 7, 2) := by decide +kernel
theorem dX12_ask_47 : decode cX12_ask 47 = .ok (.bipush 10, 2) := by decide +kernel
theorem dX12_ask_49 : decode cX12_ask 49 = .ok (.istore 8, 2) := by decide +kernel
theorem dX12_ask_51 : decode cX12_ask 51 = .ok (.iload 8, 2) := by decide +kernel
theorem dX12_ask_53 : decode cX12_ask 53 = .ok (.bipush 40, 2) := by decide +kernel
theorem dX12_ask_55 : decode cX12_ask 55 = .ok (.if_icmp .ge 48, 3) := by decide +kernel
theorem dX12_ask_58 : decode cX12_ask 58 = .ok (.aload_n 0, 1) := by decide +kernel
theorem dX12_ask_59 : decode cX12_ask 59 = .ok (.iload_n 1, 1) := by decide +kernel
theorem dX12_ask_60 : decode cX12_ask 60 = .ok (.iload 8, 2) := by decide +kernel
theorem dX12_ask_62 : decode cX12_ask 62 = .ok (.invokevirtual 449, 3) := by decide +kernel
theorem dX12_ask_65 : decode cX12_ask 65 = .ok (.ifCond .ne 6, 3) := by decide +kernel
theorem dX12_ask_68 : decode cX12_ask 68 = .ok (.goto 29, 3) := by decide +kernel
theorem dX12_ask_71 : decode cX12_ask 71 = .ok (.iconst 1, 1) := by decide +kernel
theorem dX12_ask_72 : decode cX12_ask 72 = .ok (.istore 7, 2) := by decide +kernel
theorem dX12_ask_74 : decode cX12_ask 74 = .ok (.iload 6, 2) := by decide +kernel
theorem dX12_ask_76 : decode cX12_ask 76 = .ok (.aload_n 0, 1) := by decide +kernel
theorem dX12_ask_77 : decode cX12_ask 77 = .ok (.iload_n 1, 1) := by decide +kernel
theorem dX12_ask_78 : decode cX12_ask 78 = .ok (.iload 8, 2) := by decide +kernel
theorem dX12_ask_80 : decode cX12_ask 80 = .ok (.iload_n 2, 1) := by decide +kernel
theorem dX12_ask_81 : decode cX12_ask 81 = .ok (.iload 5, 2) := by decide +kernel
theorem dX12_ask_83 : decode cX12_ask 83 = .ok (.invokevirtual 445, 3) := by decide +kernel
theorem dX12_ask_86 : decode cX12_ask 86 = .ok (.ifCond .eq 7, 3) := by decide +kernel
theorem dX12_ask_89 : decode cX12_ask 89 = .ok (.iconst 1, 1) := by decide +kernel
theorem dX12_ask_90 : decode cX12_ask 90 = .ok (.goto 4, 3) := by decide +kernel
theorem dX12_ask_93 : decode cX12_ask 93 = .ok (.iconst (-1), 1) := by decide +kernel
theorem dX12_ask_94 : decode cX12_ask 94 = .ok (.iadd, 1) := by decide +kernel
theorem dX12_ask_95 : decode cX12_ask 95 = .ok (.istore 6, 2) := by decide +kernel
theorem dX12_ask_97 : decode cX12_ask 97 = .ok (.iinc 8 1, 3) := by decide +kernel
theorem dX12_ask_100 : decode cX12_ask 100 = .ok (.goto (-49), 3) := by decide +kernel
theorem dX12_ask_103 : decode cX12_ask 103 = .ok (.iload 7, 2) := by decide +kernel
theorem dX12_ask_105 : decode cX12_ask 105 = .ok (.ifCond .ne 5, 3) := by decide +kernel
theorem dX12_ask_108 : decode cX12_ask 108 = .ok (.iconst (-1), 1) := by decide +kernel
theorem dX12_ask_109 : decode cX12_ask 109 = .ok (.ireturn, 1) := by decide +kernel
theorem dX12_ask_110 : decode cX12_ask 110 = .ok (.iload 6, 2) := by decide +kernel
theorem dX12_ask_112 : decode cX12_ask 112 = .ok (.invokestatic 452, 3) := by decide +kernel
theorem dX12_ask_115 : decode cX12_ask 115 = .ok (.istore 6, 2) := by decide +kernel
theorem dX12_ask_117 : decode cX12_ask 117 = .ok (.iload_n 3, 1) := by decide +kernel
theorem dX12_ask_118 : decode cX12_ask 118 = .ok (.iconst (-1), 1) := by decide +kernel
theorem dX12_ask_119 : decode cX12_ask 119 = .ok (.if_icmp .eq 13, 3) := by decide +kernel
theorem dX12_ask_122 : decode cX12_ask 122 = .ok (.iload 6, 2) := by decide +kernel
theorem dX12_ask_124 : decode cX12_ask 124 = .ok (.iload 4, 2) := by decide +kernel
theorem dX12_ask_126 : decode cX12_ask 126 = .ok (.if_icmp .lt 6, 3) := by decide +kernel
theorem dX12_ask_129 : decode cX12_ask 129 = .ok (.goto 10, 3) := by decide +kernel
theorem dX12_ask_132 : decode cX12_ask 132 = .ok (.iload 5, 2) := by decide +kernel
theorem dX12_ask_134 : decode cX12_ask 134 = .ok (.istore_n 3, 1) := by decide +kernel
theorem dX12_ask_135 : decode cX12_ask 135 = .ok (.iload 6, 2) := by decide +kernel
theorem dX12_ask_137 : decode cX12_ask 137 = .ok (.istore 4, 2) := by decide +kernel
theorem dX12_ask_139 : decode cX12_ask 139 = .ok (.iinc 5 1, 3) := by decide +kernel
theorem dX12_ask_142 : decode cX12_ask 142 = .ok (.goto (-107), 3) := by decide +kernel
theorem dX12_ask_145 : decode cX12_ask 145 = .ok (.iload_n 3, 1) := by decide +kernel
theorem dX12_ask_146 : decode cX12_ask 146 = .ok (.ireturn, 1) := by decide +kernel
theorem sk_TrapCornerModel_452 : SK "TrapCornerModel" 452 yJ9_abs_0f7a4 1 := ⟨tw_1842, tw_1093, tw_17, ⟨by decide, by decide⟩, by decide +kernel⟩
section
variable {g : GG} {p : Program} {l : Launch} {e : Env} {R : Room} {s : State} {m : MethodId} {args : Array Value} {below : List Frame} {meth : Method} {c : Code} {n0 z0 : Nat}
def f_X12_ask_97 (k35 : Nat → Int32 → Int32 → Int32 → Int32 → Int32 → AH → Option (Int32 × AH)) (k51 : Nat → Int32 → Int32 → Int32 → Int32 → Int32 → Int32 → Int32 → Int32 → AH → Option (Int32 × AH)) (o0 : Nat) (x1 : Int32) (x2 : Int32) (x3 : Int32) (x4 : Int32) (x5 : Int32) (x6 : Int32) (x7 : Int32) (x8 : Int32) (h : AH) : Option (Int32 × AH) :=
  k51 o0 x1 x2 x3 x4 x5 x6 x7 (x8 + 1) h
set_option maxHeartbeats 1000000 in
theorem w_X12_ask_97 (X : Cx g p s m args meth c cX12_ask 9 "TrapCornerModel") (hR : 92 ≤ R.frames ∧ 5888 ≤ R.locals) (hr : meth.sig.returnType = (some (.int))) {res : Int32 × AH} {k35 : Nat → Int32 → Int32 → Int32 → Int32 → Int32 → AH → Option (Int32 × AH)} (hk35 : ∀ (o0 : Nat) (x1 : Int32) (x2 : Int32) (x3 : Int32) (x4 : Int32) (x5 : Int32) (h : AH) (ls : Array Slot) (H : Heap) (locs : List Loc), k35 o0 x1 x2 x3 x4 x5 h = some res → Iv g s n0 z0 h H locs 0 0 → lv_has ls 9 [(0, .ref (rfG g o0)), (1, .int x1), (2, .int x2), (3, .int x3), (4, .int x4), (5, .int x5)] → W p l e R s m args below meth c H locs 0 0 (MQ below (QG g (some (.int res.1)) res.2) args s 0 0 (AG g)) (F0 m 35 ls [])) {k51 : Nat → Int32 → Int32 → Int32 → Int32 → Int32 → Int32 → Int32 → Int32 → AH → Option (Int32 × AH)} (hk51 : ∀ (o0 : Nat) (x1 : Int32) (x2 : Int32) (x3 : Int32) (x4 : Int32) (x5 : Int32) (x6 : Int32) (x7 : Int32) (x8 : Int32) (h : AH) (ls : Array Slot) (H : Heap) (locs : List Loc), k51 o0 x1 x2 x3 x4 x5 x6 x7 x8 h = some res → Iv g s n0 z0 h H locs 0 0 → lv_has ls 9 [(0, .ref (rfG g o0)), (1, .int x1), (2, .int x2), (3, .int x3), (4, .int x4), (5, .int x5), (6, .int x6), (7, .int x7), (8, .int x8)] → W p l e R s m args below meth c H locs 0 0 (MQ below (QG g (some (.int res.1)) res.2) args s 0 0 (AG g)) (F0 m 51 ls [])) : ∀ (o0 : Nat) (x1 : Int32) (x2 : Int32) (x3 : Int32) (x4 : Int32) (x5 : Int32) (x6 : Int32) (x7 : Int32) (x8 : Int32) (h : AH) (ls : Array Slot) (H : Heap) (locs : List Loc), f_X12_ask_97 k35 k51 o0 x1 x2 x3 x4 x5 x6 x7 x8 h = some res → Iv g s n0 z0 h H locs 0 0 → lv_has ls 9 [(0, .ref (rfG g o0)), (1, .int x1), (2, .int x2), (3, .int x3), (4, .int x4), (5, .int x5), (6, .int x6), (7, .int x7), (8, .int x8)] → W p l e R s m args below meth c H locs 0 0 (MQ below (QG g (some (.int res.1)) res.2) args s 0 0 (AG g)) (F0 m 97 ls []) := by
  have hx := X.1
  have hb := X.2.1
  intro o0 x1 x2 x3 x4 x5 x6 x7 x8 h ls H locs hf I hl
  unfold f_X12_ask_97 at hf
  refine lv_iinc (v := x8 + 1) (lv' := [(8, .int (x8 + 1)), (0, .ref (rfG g o0)), (1, .int x1), (2, .int x2), (3, .int x3), (4, .int x4), (5, .int x5), (6, .int x6), (7, .int x7)]) hx hb dX12_ask_97 hl (k := 8) rfl rfl (by decide) rfl (fun ls hl => ?_)
  refine lv_goto (tgt := 51) hx hb dX12_ask_100 (by decide) ?_
  exact hk51 o0 x1 x2 x3 x4 x5 x6 x7 (x8 + 1) h ls H locs hf I (lv_sub hl [1, 2, 3, 4, 5, 6, 7, 8, 0] rfl)
def f_X12_ask_94 (k35 : Nat → Int32 → Int32 → Int32 → Int32 → Int32 → AH → Option (Int32 × AH)) (k51 : Nat → Int32 → Int32 → Int32 → Int32 → Int32 → Int32 → Int32 → Int32 → AH → Option (Int32 × AH)) (o0 : Nat) (x1 : Int32) (x2 : Int32) (x3 : Int32) (x4 : Int32) (x5 : Int32) (x7 : Int32) (x8 : Int32) (s0 : Int32) (s1 : Int32) (h : AH) : Option (Int32 × AH) :=
  f_X12_ask_97 k35 k51 o0 x1 x2 x3 x4 x5 (s0 + s1) x7 x8 h
set_option maxHeartbeats 1000000 in
theorem w_X12_ask_94 (X : Cx g p s m args meth c cX12_ask 9 "TrapCornerModel") (hR : 92 ≤ R.frames ∧ 5888 ≤ R.locals) (hr : meth.sig.returnType = (some (.int))) {res : Int32 × AH} {k35 : Nat → Int32 → Int32 → Int32 → Int32 → Int32 → AH → Option (Int32 × AH)} (hk35 : ∀ (o0 : Nat) (x1 : Int32) (x2 : Int32) (x3 : Int32) (x4 : Int32) (x5 : Int32) (h : AH) (ls : Array Slot) (H : Heap) (locs : List Loc), k35 o0 x1 x2 x3 x4 x5 h = some res → Iv g s n0 z0 h H locs 0 0 → lv_has ls 9 [(0, .ref (rfG g o0)), (1, .int x1), (2, .int x2), (3, .int x3), (4, .int x4), (5, .int x5)] → W p l e R s m args below meth c H locs 0 0 (MQ below (QG g (some (.int res.1)) res.2) args s 0 0 (AG g)) (F0 m 35 ls [])) {k51 : Nat → Int32 → Int32 → Int32 → Int32 → Int32 → Int32 → Int32 → Int32 → AH → Option (Int32 × AH)} (hk51 : ∀ (o0 : Nat) (x1 : Int32) (x2 : Int32) (x3 : Int32) (x4 : Int32) (x5 : Int32) (x6 : Int32) (x7 : Int32) (x8 : Int32) (h : AH) (ls : Array Slot) (H : Heap) (locs : List Loc), k51 o0 x1 x2 x3 x4 x5 x6 x7 x8 h = some res → Iv g s n0 z0 h H locs 0 0 → lv_has ls 9 [(0, .ref (rfG g o0)), (1, .int x1), (2, .int x2), (3, .int x3), (4, .int x4), (5, .int x5), (6, .int x6), (7, .int x7), (8, .int x8)] → W p l e R s m args below meth c H locs 0 0 (MQ below (QG g (some (.int res.1)) res.2) args s 0 0 (AG g)) (F0 m 51 ls [])) : ∀ (o0 : Nat) (x1 : Int32) (x2 : Int32) (x3 : Int32) (x4 : Int32) (x5 : Int32) (x7 : Int32) (x8 : Int32) (s0 : Int32) (s1 : Int32) (h : AH) (ls : Array Slot) (H : Heap) (locs : List Loc), f_X12_ask_94 k35 k51 o0 x1 x2 x3 x4 x5 x7 x8 s0 s1 h = some res → Iv g s n0 z0 h H locs 0 0 → lv_has ls 9 [(0, .ref (rfG g o0)), (1, .int x1), (2, .int x2), (3, .int x3), (4, .int x4), (5, .int x5), (7, .int x7), (8, .int x8)] → W p l e R s m args below meth c H locs 0 0 (MQ below (QG g (some (.int res.1)) res.2) args s 0 0 (AG g)) (F0 m 94 ls [.int s1, .int s0]) := by
  have hx := X.1
  have hb := X.2.1
  intro o0 x1 x2 x3 x4 x5 x7 x8 s0 s1 h ls H locs hf I hl
  unfold f_X12_ask_94 at hf
  refine lv_iadd hx hb dX12_ask_94 ?_
  refine lv_istore (lv' := [(6, .int (s0 + s1)), (0, .ref (rfG g o0)), (1, .int x1), (2, .int x2), (3, .int x3), (4, .int x4), (5, .int x5), (7, .int x7), (8, .int x8)]) hx hb dX12_ask_95 hl (by decide) rfl (fun ls hl => ?_)
  exact w_X12_ask_97 X hR hr hk35 hk51 o0 x1 x2 x3 x4 x5 (s0 + s1) x7 x8 h ls H locs hf I (lv_sub hl [1, 2, 3, 4, 5, 6, 0, 7, 8] rfl)
def f_X12_ask_139 (k35 : Nat → Int32 → Int32 → Int32 → Int32 → Int32 → AH → Option (Int32 × AH)) (o0 : Nat) (x1 : Int32) (x2 : Int32) (x3 : Int32) (x4 : Int32) (x5 : Int32) (h : AH) : Option (Int32 × AH) :=
  k35 o0 x1 x2 x3 x4 (x5 + 1) h
set_option maxHeartbeats 1000000 in
theorem w_X12_ask_139 (X : Cx g p s m args meth c cX12_ask 9 "TrapCornerModel") (hR : 92 ≤ R.frames ∧ 5888 ≤ R.locals) (hr : meth.sig.returnType = (some (.int))) {res : Int32 × AH} {k35 : Nat → Int32 → Int32 → Int32 → Int32 → Int32 → AH → Option (Int32 × AH)} (hk35 : ∀ (o0 : Nat) (x1 : Int32) (x2 : Int32) (x3 : Int32) (x4 : Int32) (x5 : Int32) (h : AH) (ls : Array Slot) (H : Heap) (locs : List Loc), k35 o0 x1 x2 x3 x4 x5 h = some res → Iv g s n0 z0 h H locs 0 0 → lv_has ls 9 [(0, .ref (rfG g o0)), (1, .int x1), (2, .int x2), (3, .int x3), (4, .int x4), (5, .int x5)] → W p l e R s m args below meth c H locs 0 0 (MQ below (QG g (some (.int res.1)) res.2) args s 0 0 (AG g)) (F0 m 35 ls [])) : ∀ (o0 : Nat) (x1 : Int32) (x2 : Int32) (x3 : Int32) (x4 : Int32) (x5 : Int32) (h : AH) (ls : Array Slot) (H : Heap) (locs : List Loc), f_X12_ask_139 k35 o0 x1 x2 x3 x4 x5 h = some res → Iv g s n0 z0 h H locs 0 0 → lv_has ls 9 [(0, .ref (rfG g o0)), (1, .int x1), (2, .int x2), (3, .int x3), (4, .int x4), (5, .int x5)] → W p l e R s m args below meth c H locs 0 0 (MQ below (QG g (some (.int res.1)) res.2) args s 0 0 (AG g)) (F0 m 139 ls []) := by
  have hx := X.1
  have hb := X.2.1
  intro o0 x1 x2 x3 x4 x5 h ls H locs hf I hl
  unfold f_X12_ask_139 at hf
  refine lv_iinc (v := x5 + 1) (lv' := [(5, .int (x5 + 1)), (0, .ref (rfG g o0)), (1, .int x1), (2, .int x2), (3, .int x3), (4, .int x4)]) hx hb dX12_ask_139 hl (k := 5) rfl rfl (by decide) rfl (fun ls hl => ?_)
  refine lv_goto (tgt := 35) hx hb dX12_ask_142 (by decide) ?_
  exact hk35 o0 x1 x2 x3 x4 (x5 + 1) h ls H locs hf I (lv_sub hl [1, 2, 3, 4, 5, 0] rfl)
def f_X12_ask_132 (k35 : Nat → Int32 → Int32 → Int32 → Int32 → Int32 → AH → Option (Int32 × AH)) (o0 : Nat) (x1 : Int32) (x2 : Int32) (x5 : Int32) (x6 : Int32) (h : AH) : Option (Int32 × AH) :=
  f_X12_ask_139 k35 o0 x1 x2 x5 x6 x5 h
set_option maxHeartbeats 1000000 in
theorem w_X12_ask_132 (X : Cx g p s m args meth c cX12_ask 9 "TrapCornerModel") (hR : 92 ≤ R.frames ∧ 5888 ≤ R.locals) (hr : meth.sig.returnType = (some (.int))) {res : Int32 × AH} {k35 : Nat → Int32 → Int32 → Int32 → Int32 → Int32 → AH → Option (Int32 × AH)} (hk35 : ∀ (o0 : Nat) (x1 : Int32) (x2 : Int32) (x3 : Int32) (x4 : Int32) (x5 : Int32) (h : AH) (ls : Array Slot) (H : Heap) (locs : List Loc), k35 o0 x1 x2 x3 x4 x5 h = some res → Iv g s n0 z0 h H locs 0 0 → lv_has ls 9 [(0, .ref (rfG g o0)), (1, .int x1), (2, .int x2), (3, .int x3), (4, .int x4), (5, .int x5)] → W p l e R s m args below meth c H locs 0 0 (MQ below (QG g (some (.int res.1)) res.2) args s 0 0 (AG g)) (F0 m 35 ls [])) : ∀ (o0 : Nat) (x1 : Int32) (x2 : Int32) (x5 : Int32) (x6 : Int32) (h : AH) (ls : Array Slot) (H : Heap) (locs : List Loc), f_X12_ask_132 k35 o0 x1 x2 x5 x6 h = some res → Iv g s n0 z0 h H locs 0 0 → lv_has ls 9 [(0, .ref (rfG g o0)), (1, .int x1), (2, .int x2), (5, .int x5), (6, .int x6)] → W p l e R s m args below meth c H locs 0 0 (MQ below (QG g (some (.int res.1)) res.2) args s 0 0 (AG g)) (F0 m 132 ls []) := by
  have hx := X.1
  have hb := X.2.1
  intro o0 x1 x2 x5 x6 h ls H locs hf I hl
  unfold f_X12_ask_132 at hf
  refine lv_iload hx hb dX12_ask_132 (lv_at hl 3 rfl) ?_
  refine lv_istore_n (lv' := [(3, .int x5), (0, .ref (rfG g o0)), (1, .int x1), (2, .int x2), (5, .int x5), (6, .int x6)]) hx hb dX12_ask_134 rfl hl (by decide) rfl (fun ls hl => ?_)
  refine lv_iload hx hb dX12_ask_135 (lv_at hl 5 rfl) ?_
  refine lv_istore (lv' := [(4, .int x6), (3, .int x5), (0, .ref (rfG g o0)), (1, .int x1), (2, .int x2), (5, .int x5), (6, .int x6)]) hx hb dX12_ask_137 hl (by decide) rfl (fun ls hl => ?_)
  exact w_X12_ask_139 X hR hr hk35 o0 x1 x2 x5 x6 x5 h ls H locs hf I (lv_sub hl [2, 3, 4, 1, 0, 5] rfl)
def f_X12_ask_51 (k35 : Nat → Int32 → Int32 → Int32 → Int32 → Int32 → AH → Option (Int32 × AH)) : Nat → Nat → Int32 → Int32 → Int32 → Int32 → Int32 → Int32 → Int32 → Int32 → AH → Option (Int32 × AH)
  | 0, _, _, _, _, _, _, _, _, _, _ => none
  | n + 1, o0, x1, x2, x3, x4, x5, x6, x7, x8, h =>
  if 40 ≤ x8 then
    if x7 = 0 then
      some ((-1), h)
    else
      cN (f_J9_abs_0f7a4 x6 h) h fun v3 h4 =>
      if x3 = ((-1)) then
        f_X12_ask_132 k35 o0 x1 x2 x5 v3 h4
      else
        if v3 < x4 then
          f_X12_ask_132 k35 o0 x1 x2 x5 v3 h4
        else
          f_X12_ask_139 k35 o0 x1 x2 x3 x4 x5 h4
  else
    (isC [12] h o0).bind fun _ =>
    cN (f_X12_isMove o0 x1 x8 h) h fun v9 h10 =>
    if v9 = 0 then
      f_X12_ask_97 k35 (f_X12_ask_51 k35 n) o0 x1 x2 x3 x4 x5 x6 x7 x8 h10
    else
      (isC [12] h10 o0).bind fun _ =>
      cN (f_X12_wouldBe o0 x1 x8 x2 x5 h10) h10 fun v15 h16 =>
      if v15 = 0 then
        f_X12_ask_94 k35 (f_X12_ask_51 k35 n) o0 x1 x2 x3 x4 x5 1 x8 x6 ((-1)) h16
      else
        f_X12_ask_94 k35 (f_X12_ask_51 k35 n) o0 x1 x2 x3 x4 x5 1 x8 x6 1 h16
set_option maxHeartbeats 1000000 in
theorem w_X12_ask_51 (X : Cx g p s m args meth c cX12_ask 9 "TrapCornerModel") (hR : 92 ≤ R.frames ∧ 5888 ≤ R.locals) (hr : meth.sig.returnType = (some (.int))) {res : Int32 × AH} {k35 : Nat → Int32 → Int32 → Int32 → Int32 → Int32 → AH → Option (Int32 × AH)} (hk35 : ∀ (o0 : Nat) (x1 : Int32) (x2 : Int32) (x3 : Int32) (x4 : Int32) (x5 : Int32) (h : AH) (ls : Array Slot) (H : Heap) (locs : List Loc), k35 o0 x1 x2 x3 x4 x5 h = some res → Iv g s n0 z0 h H locs 0 0 → lv_has ls 9 [(0, .ref (rfG g o0)), (1, .int x1), (2, .int x2), (3, .int x3), (4, .int x4), (5, .int x5)] → W p l e R s m args below meth c H locs 0 0 (MQ below (QG g (some (.int res.1)) res.2) args s 0 0 (AG g)) (F0 m 35 ls [])) : ∀ (n : Nat) (o0 : Nat) (x1 : Int32) (x2 : Int32) (x3 : Int32) (x4 : Int32) (x5 : Int32) (x6 : Int32) (x7 : Int32) (x8 : Int32) (h : AH) (ls : Array Slot) (H : Heap) (locs : List Loc), f_X12_ask_51 k35 n o0 x1 x2 x3 x4 x5 x6 x7 x8 h = some res → Iv g s n0 z0 h H locs 0 0 → lv_has ls 9 [(0, .ref (rfG g o0)), (1, .int x1), (2, .int x2), (3, .int x3), (4, .int x4), (5, .int x5), (6, .int x6), (7, .int x7), (8, .int x8)] → W p l e R s m args below meth c H locs 0 0 (MQ below (QG g (some (.int res.1)) res.2) args s 0 0 (AG g)) (F0 m 51 ls []) := by
  have hx := X.1
  have hb := X.2.1
  intro n
  induction n with
  | zero =>
    intro o0 x1 x2 x3 x4 x5 x6 x7 x8 h ls H locs hf
    rw [f_X12_ask_51.eq_1] at hf
    cases hf
  | succ n ih =>
    intro o0 x1 x2 x3 x4 x5 x6 x7 x8 h ls H locs hf I hl
    rw [f_X12_ask_51.eq_2] at hf
    refine lv_iload hx hb dX12_ask_51 (lv_at hl 8 rfl) ?_
    refine lv_bipush (v := 40) hx hb dX12_ask_53 (by decide) ?_
    refine lv_icmp_ge (tgt := 103) hx hb dX12_ask_55 (by decide) (fun c1 => ?_) (fun c1 => ?_)
    · rw [if_pos c1] at hf
      refine lv_iload hx hb dX12_ask_103 (lv_at hl 7 rfl) ?_
      refine lv_if_ne (tgt := 110) hx hb dX12_ask_105 (by decide) (fun c2 => ?_) (fun c2 => ?_)
      · rw [if_neg c2] at hf
        refine lv_iload hx hb dX12_ask_110 (lv_at hl 6 rfl) ?_
        obtain ⟨v3, h4, e5, z6, hf⟩ := cN_spec hf
        refine k_Si (As := [.int x6]) (rest := []) X I (c_J9_abs_0f7a4 l g x6 e5) z6 sk_TrapCornerModel_452 tw_1094 ⟨Nat.le_trans (by decide) hR.1, Nat.le_trans (by decide) hR.2⟩ ⟨Nat.zero_le _, Nat.zero_le _⟩ rfl hl.1 rfl (Nat.le_of_ble_eq_true rfl) dX12_ask_112 (fun H locs I => ?_)
        refine lv_istore (lv' := [(6, .int v3), (0, .ref (rfG g o0)), (1, .int x1), (2, .int x2), (3, .int x3), (4, .int x4), (5, .int x5), (7, .int x7), (8, .int x8)]) hx hb dX12_ask_115 hl (by decide) rfl (fun ls hl => ?_)
        refine lv_iload_n hx hb dX12_ask_117 rfl (lv_at hl 4 rfl) ?_
        refine lv_iconst (v := (-1)) hx hb dX12_ask_118 (by decide) ?_
        refine lv_icmp_eq (tgt := 132) hx hb dX12_ask_119 (by decide) (fun c7 => ?_) (fun c7 => ?_)
        · rw [if_pos c7] at hf
          exact w_X12_ask_132 X hR hr hk35 o0 x1 x2 x5 v3 h4 ls H locs hf I (lv_sub hl [1, 2, 3, 6, 0] rfl)
        · rw [if_neg c7] at hf
          refine lv_iload hx hb dX12_ask_122 (lv_at hl 0 rfl) ?_
          refine lv_iload hx hb dX12_ask_124 (lv_at hl 5 rfl) ?_
          refine lv_icmp_lt (tgt := 132) hx hb dX12_ask_126 (by decide) (fun c8 => ?_) (fun c8 => ?_)
          · rw [if_pos c8] at hf
            exact w_X12_ask_132 X hR hr hk35 o0 x1 x2 x5 v3 h4 ls H locs hf I (lv_sub hl [1, 2, 3, 6, 0] rfl)
          · rw [if_neg c8] at hf
            refine lv_goto (tgt := 139) hx hb dX12_ask_129 (by decide) ?_
            exact w_X12_ask_139 X hR hr hk35 o0 x1 x2 x3 x4 x5 h4 ls H locs hf I (lv_sub hl [1, 2, 3, 4, 5, 6] rfl)
      · rw [if_pos c2] at hf
        refine lv_iconst (v := (-1)) hx hb dX12_ask_108 (by decide) ?_
        cases hf
        exact k_ri X I hr dX12_ask_109
    · rw [if_neg c1] at hf
      refine lv_aload_n hx hb dX12_ask_58 rfl (lv_at hl 0 rfl) ?_
      refine lv_iload_n hx hb dX12_ask_59 rfl (lv_at hl 1 rfl) ?_
      refine lv_iload hx hb dX12_ask_60 (lv_at hl 8 rfl) ?_
      obtain ⟨_, g13, hf⟩ := Option.bind_eq_some_iff.mp hf
      obtain ⟨v9, h10, e11, z12, hf⟩ := cN_spec hf
      refine k_Vi (As := [.int x1, .int x8]) (rest := []) X I (c_X12_isMove l g o0 x1 x8 e11) z12 g13 vk_TrapCornerModel_449 tw_1833 ⟨Nat.le_trans (by decide) hR.1, Nat.le_trans (by decide) hR.2⟩ ⟨Nat.zero_le _, Nat.zero_le _⟩ rfl hl.1 rfl (Nat.le_of_ble_eq_true rfl) dX12_ask_62 (fun H locs I => ?_)
      refine lv_if_ne (tgt := 71) hx hb dX12_ask_65 (by decide) (fun c14 => ?_) (fun c14 => ?_)
      · rw [if_neg c14] at hf
        refine lv_iconst (v := 1) hx hb dX12_ask_71 (by decide) ?_
        refine lv_istore (lv' := [(7, .int 1), (0, .ref (rfG g o0)), (1, .int x1), (2, .int x2), (3, .int x3), (4, .int x4), (5, .int x5), (6, .int x6), (8, .int x8)]) hx hb dX12_ask_72 hl (by decide) rfl (fun ls hl => ?_)
        refine lv_iload hx hb dX12_ask_74 (lv_at hl 7 rfl) ?_
        refine lv_aload_n hx hb dX12_ask_76 rfl (lv_at hl 1 rfl) ?_
        refine lv_iload_n hx hb dX12_ask_77 rfl (lv_at hl 2 rfl) ?_
        refine lv_iload hx hb dX12_ask_78 (lv_at hl 8 rfl) ?_
        refine lv_iload_n hx hb dX12_ask_80 rfl (lv_at hl 3 rfl) ?_
        refine lv_iload hx hb dX12_ask_81 (lv_at hl 6 rfl) ?_
        obtain ⟨_, g19, hf⟩ := Option.bind_eq_some_iff.mp hf
        obtain ⟨v15, h16, e17, z18, hf⟩ := cN_spec hf
        refine k_Vi (As := [.int x1, .int x8, .int x2, .int x5]) (rest := [.int x6]) X I (c_X12_wouldBe l g o0 x1 x8 x2 x5 e17) z18 g19 vk_TrapCornerModel_445 tw_1837 ⟨Nat.le_trans (by decide) hR.1, Nat.le_trans (by decide) hR.2⟩ ⟨Nat.zero_le _, Nat.zero_le _⟩ rfl hl.1 rfl (Nat.le_of_ble_eq_true rfl) dX12_ask_83 (fun H locs I => ?_)
        refine lv_if_eq (tgt := 93) hx hb dX12_ask_86 (by decide) (fun c20 => ?_) (fun c20 => ?_)
        · rw [if_pos c20] at hf
          refine lv_iconst (v := (-1)) hx hb dX12_ask_93 (by decide) ?_
          exact w_X12_ask_94 X hR hr hk35 ih o0 x1 x2 x3 x4 x5 1 x8 x6 ((-1)) h16 ls H locs hf I (lv_sub hl [1, 2, 3, 4, 5, 6, 0, 8] rfl)
        · rw [if_neg c20] at hf
          refine lv_iconst (v := 1) hx hb dX12_ask_89 (by decide) ?_
          refine lv_goto (tgt := 94) hx hb dX12_ask_90 (by decide) ?_
          exact w_X12_ask_94 X hR hr hk35 ih o0 x1 x2 x3 x4 x5 1 x8 x6 1 h16 ls H locs hf I (lv_sub hl [1, 2, 3, 4, 5, 6, 0, 8] rfl)
      · rw [if_pos c14] at hf
        refine lv_goto (tgt := 97) hx hb dX12_ask_68 (by decide) ?_
        exact w_X12_ask_97 X hR hr hk35 ih o0 x1 x2 x3 x4 x5 x6 x7 x8 h10 ls H locs hf I (lv_sub hl [0, 1, 2, 3, 4, 5, 6, 7, 8] rfl)
def f_X12_ask_35  : Nat → Nat → Int32 → Int32 → Int32 → Int32 → Int32 → AH → Option (Int32 × AH)
  | 0, _, _, _, _, _, _, _ => none
  | n + 1, o0, x1, x2, x3, x4, x5, h =>
  if 4 ≤ x5 then
    some (x3, h)
  else
    f_X12_ask_51 (f_X12_ask_35 n) fu o0 x1 x2 x3 x4 x5 0 0 10 h
set_option maxHeartbeats 1000000 in
theorem w_X12_ask_35 (X : Cx g p s m args meth c cX12_ask 9 "TrapCornerModel") (hR : 92 ≤ R.frames ∧ 5888 ≤ R.locals) (hr : meth.sig.returnType = (some (.int))) {res : Int32 × AH} : ∀ (n : Nat) (o0 : Nat) (x1 : Int32) (x2 : Int32) (x3 : Int32) (x4 : Int32) (x5 : Int32) (h : AH) (ls : Array Slot) (H : Heap) (locs : List Loc), f_X12_ask_35 n o0 x1 x2 x3 x4 x5 h = some res → Iv g s n0 z0 h H locs 0 0 → lv_has ls 9 [(0, .ref (rfG g o0)), (1, .int x1), (2, .int x2), (3, .int x3), (4, .int x4), (5, .int x5)] → W p l e R s m args below meth c H locs 0 0 (MQ below (QG g (some (.int res.1)) res.2) args s 0 0 (AG g)) (F0 m 35 ls []) := by
  have hx := X.1
  have hb := X.2.1
  intro n
  induction n with
  | zero =>
    intro o0 x1 x2 x3 x4 x5 h ls H locs hf
    rw [f_X12_ask_35.eq_1] at hf
    cases hf
  | succ n ih =>
    intro o0 x1 x2 x3 x4 x5 h ls H locs hf I hl
    rw [f_X12_ask_35.eq_2] at hf
    refine lv_iload hx hb dX12_ask_35 (lv_at hl 5 rfl) ?_
    refine lv_iconst (v := 4) hx hb dX12_ask_37 (by decide) ?_
    refine lv_icmp_ge (tgt := 145) hx hb dX12_ask_38 (by decide) (fun c1 => ?_) (fun c1 => ?_)
    · rw [if_pos c1] at hf
      refine lv_iload_n hx hb dX12_ask_145 rfl (lv_at hl 3 rfl) ?_
      cases hf
      exact k_ri X I hr dX12_ask_146
    · rw [if_neg c1] at hf
      refine lv_iconst (v := 0) hx hb dX12_ask_41 (by decide) ?_
      refine lv_istore (lv' := [(6, .int 0), (0, .ref (rfG g o0)), (1, .int x1), (2, .int x2), (3, .int x3), (4, .int x4), (5, .int x5)]) hx hb dX12_ask_42 hl (by decide) rfl (fun ls hl => ?_)
      refine lv_iconst (v := 0) hx hb dX12_ask_44 (by decide) ?_
      refine lv_istore (lv' := [(7, .int 0), (6, .int 0), (0, .ref (rfG g o0)), (1, .int x1), (2, .int x2), (3, .int x3), (4, .int x4), (5, .int x5)]) hx hb dX12_ask_45 hl (by decide) rfl (fun ls hl => ?_)
      refine lv_bipush (v := 10) hx hb dX12_ask_47 (by decide) ?_
      refine lv_istore (lv' := [(8, .int 10), (7, .int 0), (6, .int 0), (0, .ref (rfG g o0)), (1, .int x1), (2, .int x2), (3, .int x3), (4, .int x4), (5, .int x5)]) hx hb dX12_ask_49 hl (by decide) rfl (fun ls hl => ?_)
      exact w_X12_ask_51 X hR hr ih fu o0 x1 x2 x3 x4 x5 0 0 10 h ls H locs hf I (lv_sub hl [3, 4, 5, 6, 7, 8, 2, 1, 0] rfl)
def f_X12_ask_0  (o0 : Nat) (x1 : Int32) (x2 : Int32) (h : AH) : Option (Int32 × AH) :=
  (pV [12] h o0 0 (.int 0)).bind fun h1 =>
  (isC [12] h1 o0).bind fun _ =>
  cN (f_X12_isPerson o0 x1 h1) h1 fun v3 h4 =>
  if v3 = 0 then
    some ((-1), h4)
  else
    cN (f_X12_isIn (x2.toInt64) 1 9 h4) h4 fun v9 h10 =>
    if v9 = 0 then
      some ((-1), h10)
    else
      f_X12_ask_35 fu o0 x1 x2 ((-1)) 0 1 h10
set_option maxHeartbeats 1000000 in
theorem w_X12_ask_0 (X : Cx g p s m args meth c cX12_ask 9 "TrapCornerModel") (hR : 92 ≤ R.frames ∧ 5888 ≤ R.locals) (hr : meth.sig.returnType = (some (.int))) {res : Int32 × AH} : ∀ (o0 : Nat) (x1 : Int32) (x2 : Int32) (h : AH) (ls : Array Slot) (H : Heap) (locs : List Loc), f_X12_ask_0 o0 x1 x2 h = some res → Iv g s n0 z0 h H locs 0 0 → lv_has ls 9 [(0, .ref (rfG g o0)), (1, .int x1), (2, .int x2)] → W p l e R s m args below meth c H locs 0 0 (MQ below (QG g (some (.int res.1)) res.2) args s 0 0 (AG g)) (F0 m 0 ls []) := by
  have hx := X.1
  have hb := X.2.1
  intro o0 x1 x2 h ls H locs hf I hl
  unfold f_X12_ask_0 at hf
  refine lv_aload_n hx hb dX12_ask_0 rfl (lv_at hl 0 rfl) ?_
  refine lv_iconst (v := 0) hx hb dX12_ask_1 (by decide) ?_
  obtain ⟨h1, e2, hf⟩ := Option.bind_eq_some_iff.mp hf
  refine r_pI X I e2 lp_TrapCornerModel_96 dX12_ask_2 (fun H locs I => ?_)
  refine lv_aload_n hx hb dX12_ask_5 rfl (lv_at hl 0 rfl) ?_
  refine lv_iload_n hx hb dX12_ask_6 rfl (lv_at hl 1 rfl) ?_
  obtain ⟨_, g7, hf⟩ := Option.bind_eq_some_iff.mp hf
  obtain ⟨v3, h4, e5, z6, hf⟩ := cN_spec hf
  refine k_Vi (As := [.int x1]) (rest := []) X I (c_X12_isPerson l g o0 x1 e5) z6 g7 vk_TrapCornerModel_383 tw_1643 ⟨Nat.le_trans (by decide) hR.1, Nat.le_trans (by decide) hR.2⟩ ⟨Nat.zero_le _, Nat.zero_le _⟩ rfl hl.1 rfl (Nat.le_of_ble_eq_true rfl) dX12_ask_7 (fun H locs I => ?_)
  refine lv_if_eq (tgt := 25) hx hb dX12_ask_10 (by decide) (fun c8 => ?_) (fun c8 => ?_)
  · rw [if_pos c8] at hf
    refine lv_iconst (v := (-1)) hx hb dX12_ask_25 (by decide) ?_
    cases hf
    exact k_ri X I hr dX12_ask_26
  · rw [if_neg c8] at hf
    refine lv_iload_n hx hb dX12_ask_13 rfl (lv_at hl 2 rfl) ?_
    refine lv_i2l hx hb dX12_ask_14 rfl ?_
    refine lv_lconst (v := 1) hx hb dX12_ask_15 (by decide) ?_
    refine lv_ldc2 (v := 9) hx hb X.2.2.2.1 (X.2.2.2.2.1 _ tw_1660) dX12_ask_16 ?_
    obtain ⟨v9, h10, e11, z12, hf⟩ := cN_spec hf
    refine k_Si (As := [.long (x2.toInt64), .long 1, .long 9]) (rest := []) X I (c_X12_isIn l g (x2.toInt64) 1 9 e11) z12 sk_TrapCornerModel_217 tw_1465 ⟨Nat.le_trans (by decide) hR.1, Nat.le_trans (by decide) hR.2⟩ ⟨Nat.zero_le _, Nat.zero_le _⟩ rfl hl.1 rfl (Nat.le_of_ble_eq_true rfl) dX12_ask_19 (fun H locs I => ?_)
    refine lv_if_ne (tgt := 27) hx hb dX12_ask_22 (by decide) (fun c13 => ?_) (fun c13 => ?_)
    · rw [if_neg c13] at hf
      refine lv_iconst (v := (-1)) hx hb dX12_ask_27 (by decide) ?_
      refine lv_istore_n (lv' := [(3, .int ((-1))), (0, .ref (rfG g o0)), (1, .int x1), (2, .int x2)]) hx hb dX12_ask_28 rfl hl (by decide) rfl (fun ls hl => ?_)
      refine lv_iconst (v := 0) hx hb dX12_ask_29 (by decide) ?_
      refine lv_istore (lv' := [(4, .int 0), (3, .int ((-1))), (0, .ref (rfG g o0)), (1, .int x1), (2, .int x2)]) hx hb dX12_ask_30 hl (by decide) rfl (fun ls hl => ?_)
      refine lv_iconst (v := 1) hx hb dX12_ask_32 (by decide) ?_
      refine lv_istore (lv' := [(5, .int 1), (4, .int 0), (3, .int ((-1))), (0, .ref (rfG g o0)), (1, .int x1), (2, .int x2)]) hx hb dX12_ask_33 hl (by decide) rfl (fun ls hl => ?_)
      exact w_X12_ask_35 X hR hr fu o0 x1 x2 ((-1)) 0 1 h10 ls H locs hf I (lv_sub hl [3, 4, 5, 2, 1, 0] rfl)
    · rw [if_pos c13] at hf
      refine lv_iconst (v := (-1)) hx hb dX12_ask_25 (by decide) ?_
      cases hf
      exact k_ri X I hr dX12_ask_26
def f_X12_ask (o0 : Nat) (x1 : Int32) (x2 : Int32) (h : AH) : Option (Int32 × AH) := f_X12_ask_0 o0 x1 x2 h
end
theorem c_X12_ask (l : Launch) (g : GG) (o0 : Nat) (x1 : Int32) (x2 : Int32) {h : AH} {res : Int32 × AH} (hf : f_X12_ask o0 x1 x2 h = some res) : CM l g yX12_ask cX12_ask 9 (some (.int)) 92 5888 0 0 [.ref (rfG g o0), .int x1, .int x2] h (some (.int res.1)) res.2 :=
  k_body (by decide) (Nat.le_of_ble_eq_true rfl) (fun p e s m below meth c R ls hR hr X I hl => w_X12_ask_0 X ⟨Nat.le_of_eq hR.1.symm, Nat.le_of_eq hR.2.1.symm⟩ hr o0 x1 x2 h ls s.heap [] hf I (lv_sub hl [0, 1, 2] rfl))
/-! TrapCornerModel.isTakenBy(II)Z -/
theorem dX12_isTakenBy_0 : decode cX12_isTakenBy 0 = .ok (.aload_n 0, 1) := by decide +kernel
theorem dX12_isTakenBy_1 : decode cX12_isTakenBy 1 = .ok (.getfield 61, 3) := by decide +kernel
theorem dX12_isTakenBy_4 : decode cX12_isTakenBy 4 = .ok (.aload_n 0, 1) := by decide +kernel
theorem dX12_isTakenBy_5 : decode cX12_isTakenBy 5 = .ok (.getfield 64, 3) := by decide +kernel
theorem dX12_isTakenBy_8 : decode cX12_isTakenBy 8 = .ok (.invokestatic 372, 3) := by decide +kernel
theorem dX12_isTakenBy_11 : decode cX12_isTakenBy 11 = .ok (.aload_n 0, 1) := by decide +kernel
theorem dX12_isTakenBy_12 : decode cX12_isTakenBy 12 = .ok (.getfield 64, 3) := by decide +kernel
theorem dX12_isTakenBy_15 : decode cX12_isTakenBy 15 = .ok (.bipush 10, 2) := by decide +kernel
theorem dX12_isTakenBy_17 : decode cX12_isTakenBy 17 = .ok (.iconst 3, 1) := by decide +kernel
theorem dX12_isTakenBy_18 : decode cX12_isTakenBy 18 = .ok (.iload_n 1, 1) := by decide +kernel
theorem dX12_isTakenBy_19 : decode cX12_isTakenBy 19 = .ok (.imul, 1) := by decide +kernel
theorem dX12_isTakenBy_20 : decode cX12_isTakenBy 20 = .ok (.iadd, 1) := by decide +kernel
theorem dX12_isTakenBy_21 : decode cX12_isTakenBy 21 = .ok (.iconst 2, 1) := by decide +kernel
theorem dX12_isTakenBy_22 : decode cX12_isTakenBy 22 = .ok (.iadd, 1) := by decide +kernel
theorem dX12_isTakenBy_23 : decode cX12_isTakenBy 23 = .ok (.iload_n 2, 1) := by decide +kernel
theorem dX12_isTakenBy_24 : decode cX12_isTakenBy 24 = .ok (.iastore, 1) := by decide +kernel
theorem dX12_isTakenBy_25 : decode cX12_isTakenBy 25 = .ok (.aload_n 0, 1) := by decide +kernel
theorem dX12_isTakenBy_26 : decode cX12_isTakenBy 26 = .ok (.aload_n 0, 1) := by decide +kernel
theorem dX12_isTakenBy_27 : decode cX12_isTakenBy 27 = .ok (.getfield 64, 3) := by decide +kernel
theorem dX12_isTakenBy_30 : decode cX12_isTakenBy 30 = .ok (.invokevirtual 376, 3) := by decide +kernel
theorem dX12_isTakenBy_33 : decode cX12_isTakenBy 33 = .ok (.iload_n 1, 1) := by decide +kernel
theorem dX12_isTakenBy_34 : decode cX12_isTakenBy 34 = .ok (.invokestatic 229, 3) := by decide +kernel
theorem dX12_isTakenBy_37 : decode cX12_isTakenBy 37 = .ok (.ireturn, 1) := by decide +kernel
section
variable {g : GG} {p : Program} {l : Launch} {e : Env} {R : Room} {s : State} {m : MethodId} {args : Array Value} {below : List Frame} {meth : Method} {c : Code} {n0 z0 : Nat}
def f_X12_isTakenBy_0  (o0 : Nat) (x1 : Int32) (x2 : Int32) (h : AH) : Option (Int32 × AH) :=
  (gR [12] h o0 32).bind fun v1 =>
  (gR [12] h o0 33).bind fun v3 =>
  cN (f_X12_copy v1 v3 h) h fun _ h6 =>
  (gR [12] h6 o0 33).bind fun v9 =>
  (uI 0 h6 v9 ((10 + (3 * x1)) + 2) x2).bind fun h11 =>
  (gR [12] h11 o0 33).bind fun v13 =>
  (isC [12] h11 o0).bind fun _ =>
  cN (f_X12_goDay o0 v13 h11) h11 fun v15 h16 =>
  cN (f_X12_has v15 x1 h16) h16 fun v20 h21 =>
  rZ v20 h21
set_option maxHeartbeats 1000000 in
theorem w_X12_isTakenBy_0 (X : Cx g p s m args meth c cX12_isTakenBy 3 "TrapCornerModel") (hR : 94 ≤ R.frames ∧ 6016 ≤ R.locals) (hr : meth.sig.returnType = (some (.boolean))) {res : Int32 × AH} : ∀ (o0 : Nat) (x1 : Int32) (x2 : Int32) (h : AH) (ls : Array Slot) (H : Heap) (locs : List Loc), f_X12_isTakenBy_0 o0 x1 x2 h = some res → Iv g s n0 z0 h H locs 0 0 → lv_has ls 3 [(0, .ref (rfG g o0)), (1, .int x1), (2, .int x2)] → W p l e R s m args below meth c H locs 0 0 (MQ below (QG g (some (.int res.1)) res.2) args s 0 0 (AG g)) (F0 m 0 ls []) := by
  have hx := X.1
  have hb := X.2.1
  intro o0 x1 x2 h ls H locs hf I hl
  unfold f_X12_isTakenBy_0 at hf
  refine lv_aload_n hx hb dX12_isTakenBy_0 rfl (lv_at hl 0 rfl) ?_
  obtain ⟨v1, e2, hf⟩ := Option.bind_eq_some_iff.mp hf
  refine r_gR X I e2 lk_TrapCornerModel_61 dX12_isTakenBy_1 ?_
  refine lv_aload_n hx hb dX12_isTakenBy_4 rfl (lv_at hl 0 rfl) ?_
  obtain ⟨v3, e4, hf⟩ := Option.bind_eq_some_iff.mp hf
  refine r_gR X I e4 lk_TrapCornerModel_64 dX12_isTakenBy_5 ?_
  obtain ⟨⟨⟩, h6, e7, z8, hf⟩ := cN_spec hf
  refine k_Sv (As := [.ref (rfG g v1), .ref (rfG g v3)]) (rest := []) X I (c_X12_copy l g v1 v3 e7) z8 sk_TrapCornerModel_372 tw_1793 ⟨Nat.le_trans (by decide) hR.1, Nat.le_trans (by decide) hR.2⟩ ⟨Nat.zero_le _, Nat.zero_le _⟩ rfl hl.1 rfl (Nat.le_of_ble_eq_true rfl) dX12_isTakenBy_8 (fun H locs I => ?_)
  refine lv_aload_n hx hb dX12_isTakenBy_11 rfl (lv_at hl 0 rfl) ?_
  obtain ⟨v9, e10, hf⟩ := Option.bind_eq_some_iff.mp hf
  refine r_gR X I e10 lk_TrapCornerModel_64 dX12_isTakenBy_12 ?_
  refine lv_bipush (v := 10) hx hb dX12_isTakenBy_15 (by decide) ?_
  refine lv_iconst (v := 3) hx hb dX12_isTakenBy_17 (by decide) ?_
  refine lv_iload_n hx hb dX12_isTakenBy_18 rfl (lv_at hl 1 rfl) ?_
  refine lv_imul hx hb dX12_isTakenBy_19 ?_
  refine lv_iadd hx hb dX12_isTakenBy_20 ?_
  refine lv_iconst (v := 2) hx hb dX12_isTakenBy_21 (by decide) ?_
  refine lv_iadd hx hb dX12_isTakenBy_22 ?_
  refine lv_iload_n hx hb dX12_isTakenBy_23 rfl (lv_at hl 2 rfl) ?_
  obtain ⟨h11, e12, hf⟩ := Option.bind_eq_some_iff.mp hf
  refine r_uI0 X I e12 dX12_isTakenBy_24 (fun H locs I => ?_)
  refine lv_aload_n hx hb dX12_isTakenBy_25 rfl (lv_at hl 0 rfl) ?_
  refine lv_aload_n hx hb dX12_isTakenBy_26 rfl (lv_at hl 0 rfl) ?_
  obtain ⟨v13, e14, hf⟩ := Option.bind_eq_some_iff.mp hf
  refine r_gR X I e14 lk_TrapCornerModel_64 dX12_isTakenBy_27 ?_
  obtain ⟨_, g19, hf⟩ := Option.bind_eq_some_iff.mp hf
  obtain ⟨v15, h16, e17, z18, hf⟩ := cN_spec hf
  refine k_Vi (As := [.ref (rfG g v13)]) (rest := []) X I (c_X12_goDay l g o0 v13 e17) z18 g19 vk_TrapCornerModel_376 tw_1672 ⟨Nat.le_trans (by decide) hR.1, Nat.le_trans (by decide) hR.2⟩ ⟨Nat.zero_le _, Nat.zero_le _⟩ rfl hl.1 rfl (Nat.le_of_ble_eq_true rfl) dX12_isTakenBy_30 (fun H locs I => ?_)
  refine lv_iload_n hx hb dX12_isTakenBy_33 rfl (lv_at hl 1 rfl) ?_
  obtain ⟨v20, h21, e22, z23, hf⟩ := cN_spec hf
  refine k_Si (As := [.int v15, .int x1]) (rest := []) X I (c_X12_has l g v15 x1 e22) z23 sk_TrapCornerModel_229 tw_1520 ⟨Nat.le_trans (by decide) hR.1, Nat.le_trans (by decide) hR.2⟩ ⟨Nat.zero_le _, Nat.zero_le _⟩ rfl hl.1 rfl (Nat.le_of_ble_eq_true rfl) dX12_isTakenBy_34 (fun H locs I => ?_)
  obtain ⟨hz, rfl⟩ := rZ_spec hf
  exact k_rz X I hr hz dX12_isTakenBy_37
def f_X12_isTakenBy (o0 : Nat) (x1 : Int32) (x2 : Int32) (h : AH) : Option (Int32 × AH) := f_X12_isTakenBy_0 o0 x1 x2 h
end
theorem c_X12_isTakenBy (l : Launch) (g : GG) (o0 : Nat) (x1 : Int32) (x2 : Int32) {h : AH} {res : Int32 × AH} (hf : f_X12_isTakenBy o0 x1 x2 h = some res) : CM l g yX12_isTakenBy cX12_isTakenBy 3 (some (.boolean)) 94 6016 0 0 [.ref (rfG g o0), .int x1, .int x2] h (some (.int res.1)) res.2 :=
  k_body (by decide) (Nat.le_of_ble_eq_true rfl) (fun p e s m below meth c R ls hR hr X I hl => w_X12_isTakenBy_0 X ⟨Nat.le_of_eq hR.1.symm, Nat.le_of_eq hR.2.1.symm⟩ hr o0 x1 x2 h ls s.heap [] hf I (lv_sub hl [0, 1, 2] rfl))
/-! TrapCornerModel.safe(I)I -/
theorem dX12_safe_0 : decode cX12_safe 0 = .ok (.aload_n 0, 1) := by decide +kernel
theorem dX12_safe_1 : decode cX12_safe 1 = .ok (.iconst 0, 1) := by decide +kernel
theorem dX12_safe_2 : decode cX12_safe 2 = .ok (.putfield 96, 3) := by decide +kernel
theorem dX12_safe_5 : decode cX12_safe 5 = .ok (.aload_n 0, 1) := by decide +kernel
theorem dX12_safe_6 : decode cX12_safe 6 = .ok (.iload_n 1, 1) := by decide +kernel
theorem dX12_safe_7 : decode cX12_safe 7 = .ok (.invokevirtual 383, 3) := by decide +kernel
theorem dX12_safe_10 : decode cX12_safe 10 = .ok (.ifCond .ne 5, 3) := by decide +kernel
theorem dX12_safe_13 : decode cX12_safe 13 = .ok (.iconst (-1), 1) := by decide +kernel
theorem dX12_safe_14 : decode cX12_safe 14 = .ok (.ireturn, 1) := by decide +kernel
theorem dX12_safe_15 : decode cX12_safe 15 = .ok (.aload_n 0, 1) := by decide +kernel
theorem dX12_safe_16 : decode cX12_safe 16 = .ok (.iload_n 1, 1) := by decide +kernel
theorem dX12_safe_17 : decode cX12_safe 17 = .ok (.iconst 0, 1) := by decide +kernel
theorem dX12_safe_18 : decode cX12_safe 18 = .ok (.invokevirtual 455, 3) := by decide +kernel
theorem dX12_safe_21 : decode cX12_safe 21 = .ok (.istore_n 2, 1) := by decide +kernel
theorem dX12_safe_22 : decode cX12_safe 22 = .ok (.aload_n 0, 1) := by decide +kernel
theorem dX12_safe_23 : decode cX12_safe 23 = .ok (.iload_n 1, 1) := by decide +kernel
theorem dX12_safe_24 : decode cX12_safe 24 = .ok (.iconst 1, 1) := by decide +kernel
theorem dX12_safe_25 : decode cX12_safe 25 = .ok (.invokevirtual 455, 3) := by decide +kernel
theorem dX12_safe_28 : decode cX12_safe 28 = .ok (.istore_n 3, 1) := by decide +kernel
theorem dX12_safe_29 : decode cX12_safe 29 = .ok (.iload_n 2, 1) := by decide +kernel
theorem dX12_safe_30 : decode cX12_safe 30 = .ok (.iload_n 3, 1) := by decide +kernel
theorem dX12_safe_31 : decode cX12_safe 31 = .ok (.if_icmp .eq 13, 3) := by decide +kernel
theorem dX12_safe_34 : decode cX12_safe 34 = .ok (.iload_n 2, 1) := by decide +kernel
theorem dX12_safe_35 : decode cX12_safe 35 = .ok (.ifCond .eq 7, 3) := by decide +kernel
theorem dX12_safe_38 : decode cX12_safe 38 = .ok (.iconst 1, 1) := by decide +kernel
theorem dX12_safe_39 : decode cX12_safe 39 = .ok (.goto 4, 3) := by decide +kernel
theorem dX12_safe_42 : decode cX12_safe 42 = .ok (.iconst 0, 1) := by decide +kernel
theorem dX12_safe_43 : decode cX12_safe 43 = .ok (.ireturn, 1) := by decide +kernel
theorem dX12_safe_44 : decode cX12_safe 44 = .ok (.aload_n 0, 1) := by decide +kernel
theorem dX12_safe_45 : decode cX12_safe 45 = .ok (.iload_n 1, 1) := by decide +kernel
theorem dX12_safe_46 : decode cX12_safe 46 = .ok (.iconst 1, 1) := by decide +kernel
theorem dX12_safe_47 : decode cX12_safe 47 = .ok (.invokevirtual 345, 3) := by decide +kernel
theorem dX12_safe_50 : decode cX12_safe 50 = .ok (.aload_n 0, 1) := by decide +kernel
theorem dX12_safe_51 : decode cX12_safe 51 = .ok (.iload_n 1, 1) := by decide +kernel
theorem dX12_safe_52 : decode cX12_safe 52 = .ok (.iconst 0, 1) := by decide +kernel
theorem dX12_safe_53 : decode cX12_safe 53 = .ok (.invokevirtual 345, 3) := by decide +kernel
theorem dX12_safe_56 : decode cX12_safe 56 = .ok (.if_icmp .ge 7, 3) := by decide +kernel
theorem dX12_safe_59 : decode cX12_safe 59 = .ok (.iconst 1, 1) := by decide +kernel
theorem dX12_safe_60 : decode cX12_safe 60 = .ok (.goto 4, 3) := by decide +kernel
theorem dX12_safe_63 : decode cX12_safe 63 = .ok (.iconst 0, 1) := by decide +kernel
theorem dX12_safe_64 : decode cX12_safe 64 = .ok (.ireturn, 1) := by decide +kernel
theorem vk_TrapCornerModel_455 : VK "TrapCornerModel" 455 [12] yX12_isTakenBy 2 := ⟨tw_1847, tw_1849, tw_13, ⟨by decide, by decide⟩, by decide +kernel, fun ci hci => by
  have hci := List.mem_singleton.mp hci
  subst hci
  exact ⟨_, rfl, tp_101⟩⟩
section
variable {g : GG} {p : Program} {l : Launch} {e : Env} {R : Room} {s : State} {m : MethodId} {args : Array Value} {below : List Frame} {meth : Method} {c : Code} {n0 z0 : Nat}
def f_X12_safe_0  (o0 : Nat) (x1 : Int32) (h : AH) : Option (Int32 × AH) :=
  (pV [12] h o0 0 (.int 0)).bind fun h1 =>
  (isC [12] h1 o0).bind fun _ =>
  cN (f_X12_isPerson o0 x1 h1) h1 fun v3 h4 =>
  if v3 = 0 then
    some ((-1), h4)
  else
    (isC [12] h4 o0).bind fun _ =>
    cN (f_X12_isTakenBy o0 x1 0 h4) h4 fun v9 h10 =>
    (isC [12] h10 o0).bind fun _ =>
    cN (f_X12_isTakenBy o0 x1 1 h10) h10 fun v14 h15 =>
    if v9 = v14 then
      (isC [12] h15 o0).bind fun _ =>
      cN (f_X12_longOf o0 x1 1 h15) h15 fun v20 h21 =>
      (isC [12] h21 o0).bind fun _ =>
      cN (f_X12_longOf o0 x1 0 h21) h21 fun v25 h26 =>
      if v25 ≤ v20 then
        some (0, h26)
      else
        some (1, h26)
    else
      if v9 = 0 then
        some (0, h15)
      else
        some (1, h15)
set_option maxHeartbeats 1000000 in
theorem w_X12_safe_0 (X : Cx g p s m args meth c cX12_safe 4 "TrapCornerModel") (hR : 95 ≤ R.frames ∧ 6080 ≤ R.locals) (hr : meth.sig.returnType = (some (.int))) {res : Int32 × AH} : ∀ (o0 : Nat) (x1 : Int32) (h : AH) (ls : Array Slot) (H : Heap) (locs : List Loc), f_X12_safe_0 o0 x1 h = some res → Iv g s n0 z0 h H locs 0 0 → lv_has ls 4 [(0, .ref (rfG g o0)), (1, .int x1)] → W p l e R s m args below meth c H locs 0 0 (MQ below (QG g (some (.int res.1)) res.2) args s 0 0 (AG g)) (F0 m 0 ls []) := by
  have hx := X.1
  have hb := X.2.1
  intro o0 x1 h ls H locs hf I hl
  unfold f_X12_safe_0 at hf
  refine lv_aload_n hx hb dX12_safe_0 rfl (lv_at hl 0 rfl) ?_
  refine lv_iconst (v := 0) hx hb dX12_safe_1 (by decide) ?_
  obtain ⟨h1, e2, hf⟩ := Option.bind_eq_some_iff.mp hf
  refine r_pI X I e2 lp_TrapCornerModel_96 dX12_safe_2 (fun H locs I => ?_)
  refine lv_aload_n hx hb dX12_safe_5 rfl (lv_at hl 0 rfl) ?_
  refine lv_iload_n hx hb dX12_safe_6 rfl (lv_at hl 1 rfl) ?_
  obtain ⟨_, g7, hf⟩ := Option.bind_eq_some_iff.mp hf
  obtain ⟨v3, h4, e5, z6, hf⟩ := cN_spec hf
  refine k_Vi (As := [.int x1]) (rest := []) X I (c_X12_isPerson l g o0 x1 e5) z6 g7 vk_TrapCornerModel_383 tw_1643 ⟨Nat.le_trans (by decide) hR.1, Nat.le_trans (by decide) hR.2⟩ ⟨Nat.zero_le _, Nat.zero_le _⟩ rfl hl.1 rfl (Nat.le_of_ble_eq_true rfl) dX12_safe_7 (fun H locs I => ?_)
  refine lv_if_ne (tgt := 15) hx hb dX12_safe_10 (by decide) (fun c8 => ?_) (fun c8 => ?_)
  · rw [if_neg c8] at hf
    refine lv_aload_n hx hb dX12_safe_15 rfl (lv_at hl 0 rfl) ?_
    refine lv_iload_n hx hb dX12_safe_16 rfl (lv_at hl 1 rfl) ?_
    refine lv_iconst (v := 0) hx hb dX12_safe_17 (by decide) ?_
    obtain ⟨_, g13, hf⟩ := Option.bind_eq_some_iff.mp hf
    obtain ⟨v9, h10, e11, z12, hf⟩ := cN_spec hf
    refine k_Vi (As := [.int x1, .int 0]) (rest := []) X I (c_X12_isTakenBy l g o0 x1 0 e11) z12 g13 vk_TrapCornerModel_455 tw_1850 ⟨Nat.le_trans (by decide) hR.1, Nat.le_trans (by decide) hR.2⟩ ⟨Nat.zero_le _, Nat.zero_le _⟩ rfl hl.1 rfl (Nat.le_of_ble_eq_true rfl) dX12_safe_18 (fun H locs I => ?_)
    refine lv_istore_n (lv' := [(2, .int v9), (0, .ref (rfG g o0)), (1, .int x1)]) hx hb dX12_safe_21 rfl hl (by decide) rfl (fun ls hl => ?_)
    refine lv_aload_n hx hb dX12_safe_22 rfl (lv_at hl 1 rfl) ?_
    refine lv_iload_n hx hb dX12_safe_23 rfl (lv_at hl 2 rfl) ?_
    refine lv_iconst (v := 1) hx hb dX12_safe_24 (by decide) ?_
    obtain ⟨_, g18, hf⟩ := Option.bind_eq_some_iff.mp hf
    obtain ⟨v14, h15, e16, z17, hf⟩ := cN_spec hf
    refine k_Vi (As := [.int x1, .int 1]) (rest := []) X I (c_X12_isTakenBy l g o0 x1 1 e16) z17 g18 vk_TrapCornerModel_455 tw_1850 ⟨Nat.le_trans (by decide) hR.1, Nat.le_trans (by decide) hR.2⟩ ⟨Nat.zero_le _, Nat.zero_le _⟩ rfl hl.1 rfl (Nat.le_of_ble_eq_true rfl) dX12_safe_25 (fun H locs I => ?_)
    refine lv_istore_n (lv' := [(3, .int v14), (2, .int v9), (0, .ref (rfG g o0)), (1, .int x1)]) hx hb dX12_safe_28 rfl hl (by decide) rfl (fun ls hl => ?_)
    refine lv_iload_n hx hb dX12_safe_29 rfl (lv_at hl 1 rfl) ?_
    refine lv_iload_n hx hb dX12_safe_30 rfl (lv_at hl 0 rfl) ?_
    refine lv_icmp_eq (tgt := 44) hx hb dX12_safe_31 (by decide) (fun c19 => ?_) (fun c19 => ?_)
    · rw [if_pos c19] at hf
      refine lv_aload_n hx hb dX12_safe_44 rfl (lv_at hl 2 rfl) ?_
      refine lv_iload_n hx hb dX12_safe_45 rfl (lv_at hl 3 rfl) ?_
      refine lv_iconst (v := 1) hx hb dX12_safe_46 (by decide) ?_
      obtain ⟨_, g24, hf⟩ := Option.bind_eq_some_iff.mp hf
      obtain ⟨v20, h21, e22, z23, hf⟩ := cN_spec hf
      refine k_Vi (As := [.int x1, .int 1]) (rest := []) X I (c_X12_longOf l g o0 x1 1 e22) z23 g24 vk_TrapCornerModel_345 tw_1684 ⟨Nat.le_trans (by decide) hR.1, Nat.le_trans (by decide) hR.2⟩ ⟨Nat.zero_le _, Nat.zero_le _⟩ rfl hl.1 rfl (Nat.le_of_ble_eq_true rfl) dX12_safe_47 (fun H locs I => ?_)
      refine lv_aload_n hx hb dX12_safe_50 rfl (lv_at hl 2 rfl) ?_
      refine lv_iload_n hx hb dX12_safe_51 rfl (lv_at hl 3 rfl) ?_
      refine lv_iconst (v := 0) hx hb dX12_safe_52 (by decide) ?_
      obtain ⟨_, g29, hf⟩ := Option.bind_eq_some_iff.mp hf
      obtain ⟨v25, h26, e27, z28, hf⟩ := cN_spec hf
      refine k_Vi (As := [.int x1, .int 0]) (rest := [.int v20]) X I (c_X12_longOf l g o0 x1 0 e27) z28 g29 vk_TrapCornerModel_345 tw_1684 ⟨Nat.le_trans (by decide) hR.1, Nat.le_trans (by decide) hR.2⟩ ⟨Nat.zero_le _, Nat.zero_le _⟩ rfl hl.1 rfl (Nat.le_of_ble_eq_true rfl) dX12_safe_53 (fun H locs I => ?_)
      refine lv_icmp_ge (tgt := 63) hx hb dX12_safe_56 (by decide) (fun c30 => ?_) (fun c30 => ?_)
      · rw [if_pos c30] at hf
        refine lv_iconst (v := 0) hx hb dX12_safe_63 (by decide) ?_
        cases hf
        exact k_ri X I hr dX12_safe_64
      · rw [if_neg c30] at hf
        refine lv_iconst (v := 1) hx hb dX12_safe_59 (by decide) ?_
        refine lv_goto (tgt := 64) hx hb dX12_safe_60 (by decide) ?_
        cases hf
        exact k_ri X I hr dX12_safe_64
    · rw [if_neg c19] at hf
      refine lv_iload_n hx hb dX12_safe_34 rfl (lv_at hl 1 rfl) ?_
      refine lv_if_eq (tgt := 42) hx hb dX12_safe_35 (by decide) (fun c31 => ?_) (fun c31 => ?_)
      · rw [if_pos c31] at hf
        refine lv_iconst (v := 0) hx hb dX12_safe_42 (by decide) ?_
        cases hf
        exact k_ri X I hr dX12_safe_43
      · rw [if_neg c31] at hf
        refine lv_iconst (v := 1) hx hb dX12_safe_38 (by decide) ?_
        refine lv_goto (tgt := 43) hx hb dX12_safe_39 (by decide) ?_
        cases hf
        exact k_ri X I hr dX12_safe_43
  · rw [if_pos c8] at hf
    refine lv_iconst (v := (-1)) hx hb dX12_safe_13 (by decide) ?_
    cases hf
    exact k_ri X I hr dX12_safe_14
def f_X12_safe (o0 : Nat) (x1 : Int32) (h : AH) : Option (Int32 × AH) := f_X12_safe_0 o0 x1 h
end
theorem c_X12_safe (l : Launch) (g : GG) (o0 : Nat) (x1 : Int32) {h : AH} {res : Int32 × AH} (hf : f_X12_safe o0 x1 h = some res) : CM l g yX12_safe cX12_safe 4 (some (.int)) 95 6080 0 0 [.ref (rfG g o0), .int x1] h (some (.int res.1)) res.2 :=
  k_body (by decide) (Nat.le_of_ble_eq_true rfl) (fun p e s m below meth c R ls hR hr X I hl => w_X12_safe_0 X ⟨Nat.le_of_eq hR.1.symm, Nat.le_of_eq hR.2.1.symm⟩ hr o0 x1 h ls s.heap [] hf I (lv_sub hl [0, 1] rfl))
/-! TrapCornerModel.gameOf(IIIII)I -/
theorem dX12_gameOf_0 : decode cX12_gameOf 0 = .ok (.aload_n 0, 1) := by decide +kernel
theorem dX12_gameOf_1 : decode cX12_gameOf 1 = .ok (.getfield 61, 3) := by decide +kernel
theorem dX12_gameOf_4 : decode cX12_gameOf 4 = .ok (.aload_n 0, 1) := by decide +kernel
theorem dX12_gameOf_5 : decode cX12_gameOf 5 = .ok (.getfield 64, 3) := by decide +kernel
theorem dX12_gameOf_8 : decode cX12_gameOf 8 = .ok (.invokestatic 372, 3) := by decide +kernel
theorem dX12_gameOf_11 : decode cX12_gameOf 11 = .ok (.aload_n 0, 1) := by decide +kernel
theorem dX12_gameOf_12 : decode cX12_gameOf 12 = .ok (.getfield 64, 3) := by decide +kernel
theorem dX12_gameOf_15 : decode cX12_gameOf 15 = .ok (.iconst 2, 1) := by decide +kernel
theorem dX12_gameOf_16 : decode cX12_gameOf 16 = .ok (.iload_n 2, 1) := by decide +kernel
theorem dX12_gameOf_17 : decode cX12_gameOf 17 = .ok (.imul, 1) := by decide +kernel
theorem dX12_gameOf_18 : decode cX12_gameOf 18 = .ok (.iconst 0, 1) := by decide +kernel
theorem dX12_gameOf_19 : decode cX12_gameOf 19 = .ok (.iadd, 1) := by decide +kernel
theorem dX12_gameOf_20 : decode cX12_gameOf 20 = .ok (.iload_n 3, 1) := by decide +kernel
theorem dX12_gameOf_21 : decode cX12_gameOf 21 = .ok (.iastore, 1) := by decide +kernel
theorem dX12_gameOf_22 : decode cX12_gameOf 22 = .ok (.aload_n 0, 1) := by decide +kernel
theorem dX12_gameOf_23 : decode cX12_gameOf 23 = .ok (.getfield 64, 3) := by decide +kernel
theorem dX12_gameOf_26 : decode cX12_gameOf 26 = .ok (.bipush 10, 2) := by decide +kernel
theorem dX12_gameOf_28 : decode cX12_gameOf 28 = .ok (.iconst 3, 1) := by decide +kernel
theorem dX12_gameOf_29 : decode cX12_gameOf 29 = .ok (.iload_n 1, 1) := by decide +kernel
theorem dX12_gameOf_30 : decode cX12_gameOf 30 = .ok (.imul, 1) := by decide +kernel
theorem dX12_gameOf_31 : decode cX12_gameOf 31 = .ok (.iadd, 1) := by decide +kernel
theorem dX12_gameOf_32 : decode cX12_gameOf 32 = .ok (.iconst 2, 1) := by decide +kernel
theorem dX12_gameOf_33 : decode cX12_gameOf 33 = .ok (.iadd, 1) := by decide +kernel
theorem dX12_gameOf_34 : decode cX12_gameOf 34 = .ok (.iload 4, 2) := by decide +kernel
theorem dX12_gameOf_36 : decode cX12_gameOf 36 = .ok (.iastore, 1) := by decide +kernel
theorem dX12_gameOf_37 : decode cX12_gameOf 37 = .ok (.aload_n 0, 1) := by decide +kernel
theorem dX12_gameOf_38 : decode cX12_gameOf 38 = .ok (.aload_n 0, 1) := by decide +kernel
theorem dX12_gameOf_39 : decode cX12_gameOf 39 = .ok (.getfield 64, 3) := by decide +kernel
theorem dX12_gameOf_42 : decode cX12_gameOf 42 = .ok (.invokevirtual 376, 3) := by decide +kernel
theorem dX12_gameOf_45 : decode cX12_gameOf 45 = .ok (.istore 6, 2) := by decide +kernel
theorem dX12_gameOf_47 : decode cX12_gameOf 47 = .ok (.iload 5, 2) := by decide +kernel
theorem dX12_gameOf_49 : decode cX12_gameOf 49 = .ok (.ifCond .ne 30, 3) := by decide +kernel
theorem dX12_gameOf_52 : decode cX12_gameOf 52 = .ok (.aload_n 0, 1) := by decide +kernel
theorem dX12_gameOf_53 : decode cX12_gameOf 53 = .ok (.getfield 81, 3) := by decide +kernel
theorem dX12_gameOf_56 : decode cX12_gameOf 56 = .ok (.iload_n 1, 1) := by decide +kernel
theorem dX12_gameOf_57 : decode cX12_gameOf 57 = .ok (.iaload, 1) := by decide +kernel
theorem dX12_gameOf_58 : decode cX12_gameOf 58 = .ok (.iload_n 2, 1) := by decide +kernel
theorem dX12_gameOf_59 : decode cX12_gameOf 59 = .ok (.if_icmp .ne 8, 3) := by decide +kernel
theorem dX12_gameOf_62 : decode cX12_gameOf 62 = .ok (.bipush 6, 2) := by decide +kernel
theorem dX12_gameOf_64 : decode cX12_gameOf 64 = .ok (.goto 4, 3) := by decide +kernel
theorem dX12_gameOf_67 : decode cX12_gameOf 67 = .ok (.iconst 0, 1) := by decide +kernel
theorem dX12_gameOf_68 : decode cX12_gameOf 68 = .ok (.iload_n 3, 1) := by decide +kernel
theorem dX12_gameOf_69 : decode cX12_gameOf 69 = .ok (.ifCond .le 7, 3) := by decide +kernel
theorem dX12_gameOf_72 : decode cX12_gameOf 72 = .ok (.iconst 2, 1) := by decide +kernel
theorem dX12_gameOf_73 : decode cX12_gameOf 73 = .ok (.goto 4, 3) := by decide +kernel
theorem dX12_gameOf_76 : decode cX12_gameOf 76 = .ok (.iconst 0, 1) := by decide +kernel
theorem dX12_gameOf_77 : decode cX12_gameOf 77 = .ok (.isub, 1) := by decide +kernel
theorem dX12_gameOf_78 : decode cX12_gameOf 78 = .ok (.ireturn, 1) := by decide +kernel
theorem dX12_gameOf_79 : decode cX12_gameOf 79 = .ok (.iload 6, 2) := by decide +kernel
theorem dX12_gameOf_81 : decode cX12_gameOf 81 = .ok (.iload_n 1, 1) := by decide +kernel
theorem dX12_gameOf_82 : decode cX12_gameOf 82 = .ok (.invokestatic 229, 3) := by decide +kernel
theorem dX12_gameOf_85 : decode cX12_gameOf 85 = .ok (.ifCond .eq 8, 3) := by decide +kernel
theorem dX12_gameOf_88 : decode cX12_gameOf 88 = .ok (.bipush (-6), 2) := by decide +kernel
theorem dX12_gameOf_90 : decode cX12_gameOf 90 = .ok (.goto 4, 3) := by decide +kernel
theorem dX12_gameOf_93 : decode cX12_gameOf 93 = .ok (.iconst 0, 1) := by decide +kernel
theorem dX12_gameOf_94 : decode cX12_gameOf 94 = .ok (.aload_n 0, 1) := by decide +kernel
theorem dX12_gameOf_95 : decode cX12_gameOf 95 = .ok (.iload_n 1, 1) := by decide +kernel
theorem dX12_gameOf_96 : decode cX12_gameOf 96 = .ok (.iload 4, 2) := by decide +kernel
theorem dX12_gameOf_98 : decode cX12_gameOf 98 = .ok (.invokevirtual 345, 3) := by decide +kernel
theorem dX12_gameOf_101 : decode cX12_gameOf 101 = .ok (.isub, 1) := by decide +kernel
theorem dX12_gameOf_102 : decode cX12_gameOf 102 = .ok (.ireturn, 1) := by decide +kernel
section
variable {g : GG} {p : Program} {l : Launch} {e : Env} {R : Room} {s : State} {m : MethodId} {args : Array Value} {below : List Frame} {meth : Method} {c : Code} {n0 z0 : Nat}
def f_X12_gameOf_77  (s0 : Int32) (s1 : Int32) (h : AH) : Option (Int32 × AH) :=
  some (s0 - s1, h)
set_option maxHeartbeats 1000000 in
theorem w_X12_gameOf_77 (X : Cx g p s m args meth c cX12_gameOf 7 "TrapCornerModel") (hR : 94 ≤ R.frames ∧ 6016 ≤ R.locals) (hr : meth.sig.returnType = (some (.int))) {res : Int32 × AH} : ∀ (s0 : Int32) (s1 : Int32) (h : AH) (ls : Array Slot) (H : Heap) (locs : List Loc), f_X12_gameOf_77 s0 s1 h = some res → Iv g s n0 z0 h H locs 0 0 → lv_has ls 7 [] → W p l e R s m args below meth c H locs 0 0 (MQ below (QG g (some (.int res.1)) res.2) args s 0 0 (AG g)) (F0 m 77 ls [.int s1, .int s0]) := by
  have hx := X.1
  have hb := X.2.1
  intro s0 s1 h ls H locs hf I hl
  unfold f_X12_gameOf_77 at hf
  refine lv_isub hx hb dX12_gameOf_77 ?_
  cases hf
  exact k_ri X I hr dX12_gameOf_78
def f_X12_gameOf_68  (x3 : Int32) (s0 : Int32) (h : AH) : Option (Int32 × AH) :=
  if x3 ≤ 0 then
    f_X12_gameOf_77 s0 0 h
  else
    f_X12_gameOf_77 s0 2 h
set_option maxHeartbeats 1000000 in
theorem w_X12_gameOf_68 (X : Cx g p s m args meth c cX12_gameOf 7 "TrapCornerModel") (hR : 94 ≤ R.frames ∧ 6016 ≤ R.locals) (hr : meth.sig.returnType = (some (.int))) {res : Int32 × AH} : ∀ (x3 : Int32) (s0 : Int32) (h : AH) (ls : Array Slot) (H : Heap) (locs : List Loc), f_X12_gameOf_68 x3 s0 h = some res → Iv g s n0 z0 h H locs 0 0 → lv_has ls 7 [(3, .int x3)] → W p l e R s m args below meth c H locs 0 0 (MQ below (QG g (some (.int res.1)) res.2) args s 0 0 (AG g)) (F0 m 68 ls [.int s0]) := by
  have hx := X.1
  have hb := X.2.1
  intro x3 s0 h ls H locs hf I hl
  unfold f_X12_gameOf_68 at hf
  refine lv_iload_n hx hb dX12_gameOf_68 rfl (lv_at hl 0 rfl) ?_
  refine lv_if_le (tgt := 76) hx hb dX12_gameOf_69 (by decide) (fun c1 => ?_) (fun c1 => ?_)
  · rw [if_pos c1] at hf
    refine lv_iconst (v := 0) hx hb dX12_gameOf_76 (by decide) ?_
    exact w_X12_gameOf_77 X hR hr  s0 0 h ls H locs hf I (lv_sub hl [] rfl)
  · rw [if_neg c1] at hf
    refine lv_iconst (v := 2) hx hb dX12_gameOf_72 (by decide) ?_
    refine lv_goto (tgt := 77) hx hb dX12_gameOf_73 (by decide) ?_
    exact w_X12_gameOf_77 X hR hr  s0 2 h ls H locs hf I (lv_sub hl [] rfl)
def f_X12_gameOf_94  (o0 : Nat) (x1 : Int32) (x4 : Int32) (s0 : Int32) (h : AH) : Option (Int32 × AH) :=
  (isC [12] h o0).bind fun _ =>
  cN (f_X12_longOf o0 x1 x4 h) h fun v1 h2 =>
  some (s0 - v1, h2)
set_option maxHeartbeats 1000000 in
theorem w_X12_gameOf_94 (X : Cx g p s m args meth c cX12_gameOf 7 "TrapCornerModel") (hR : 94 ≤ R.frames ∧ 6016 ≤ R.locals) (hr : meth.sig.returnType = (some (.int))) {res : Int32 × AH} : ∀ (o0 : Nat) (x1 : Int32) (x4 : Int32) (s0 : Int32) (h : AH) (ls : Array Slot) (H : Heap) (locs : List Loc), f_X12_gameOf_94 o0 x1 x4 s0 h = some res → Iv g s n0 z0 h H locs 0 0 → lv_has ls 7 [(0, .ref (rfG g o0)), (1, .int x1), (4, .int x4)] → W p l e R s m args below meth c H locs 0 0 (MQ below (QG g (some (.int res.1)) res.2) args s 0 0 (AG g)) (F0 m 94 ls [.int s0]) := by
  have hx := X.1
  have hb := X.2.1
  intro o0 x1 x4 s0 h ls H locs hf I hl
  unfold f_X12_gameOf_94 at hf
  refine lv_aload_n hx hb dX12_gameOf_94 rfl (lv_at hl 0 rfl) ?_
  refine lv_iload_n hx hb dX12_gameOf_95 rfl (lv_at hl 1 rfl) ?_
  refine lv_iload hx hb dX12_gameOf_96 (lv_at hl 2 rfl) ?_
  obtain ⟨_, g5, hf⟩ := Option.bind_eq_some_iff.mp hf
  obtain ⟨v1, h2, e3, z4, hf⟩ := cN_spec hf
  refine k_Vi (As := [.int x1, .int x4]) (rest := [.int s0]) X I (c_X12_longOf l g o0 x1 x4 e3) z4 g5 vk_TrapCornerModel_345 tw_1684 ⟨Nat.le_trans (by decide) hR.1, Nat.le_trans (by decide) hR.2⟩ ⟨Nat.zero_le _, Nat.zero_le _⟩ rfl hl.1 rfl (Nat.le_of_ble_eq_true rfl) dX12_gameOf_98 (fun H locs I => ?_)
  refine lv_isub hx hb dX12_gameOf_101 ?_
  cases hf
  exact k_ri X I hr dX12_gameOf_102
def f_X12_gameOf_0  (o0 : Nat) (x1 : Int32) (x2 : Int32) (x3 : Int32) (x4 : Int32) (x5 : Int32) (h : AH) : Option (Int32 × AH) :=
  (gR [12] h o0 32).bind fun v1 =>
  (gR [12] h o0 33).bind fun v3 =>
  cN (f_X12_copy v1 v3 h) h fun _ h6 =>
  (gR [12] h6 o0 33).bind fun v9 =>
  (uI 0 h6 v9 ((2 * x2) + 0) x3).bind fun h11 =>
  (gR [12] h11 o0 33).bind fun v13 =>
  (uI 0 h11 v13 ((10 + (3 * x1)) + 2) x4).bind fun h15 =>
  (gR [12] h15 o0 33).bind fun v17 =>
  (isC [12] h15 o0).bind fun _ =>
  cN (f_X12_goDay o0 v17 h15) h15 fun v19 h20 =>
  if x5 = 0 then
    (gR [12] h20 o0 38).bind fun v30 =>
    (aI 0 h20 v30 x1).bind fun v32 =>
    if v32 = x2 then
      f_X12_gameOf_68 x3 6 h20
    else
      f_X12_gameOf_68 x3 0 h20
  else
    cN (f_X12_has v19 x1 h20) h20 fun v25 h26 =>
    if v25 = 0 then
      f_X12_gameOf_94 o0 x1 x4 0 h26
    else
      f_X12_gameOf_94 o0 x1 x4 ((-6)) h26
set_option maxHeartbeats 1000000 in
theorem w_X12_gameOf_0 (X : Cx g p s m args meth c cX12_gameOf 7 "TrapCornerModel") (hR : 94 ≤ R.frames ∧ 6016 ≤ R.locals) (hr : meth.sig.returnType = (some (.int))) {res : Int32 × AH} : ∀ (o0 : Nat) (x1 : Int32) (x2 : Int32) (x3 : Int32) (x4 : Int32) (x5 : Int32) (h : AH) (ls : Array Slot) (H : Heap) (locs : List Loc), f_X12_gameOf_0 o0 x1 x2 x3 x4 x5 h = some res → Iv g s n0 z0 h H locs 0 0 → lv_has ls 7 [(0, .ref (rfG g o0)), (1, .int x1), (2, .int x2), (3, .int x3), (4, .int x4), (5, .int x5)] → W p l e R s m args below meth c H locs 0 0 (MQ below (QG g (some (.int res.1)) res.2) args s 0 0 (AG g)) (F0 m 0 ls []) := by
  have hx := X.1
  have hb := X.2.1
  intro o0 x1 x2 x3 x4 x5 h ls H locs hf I hl
  unfold f_X12_gameOf_0 at hf
  refine lv_aload_n hx hb dX12_gameOf_0 rfl (lv_at hl 0 rfl) ?_
  obtain ⟨v1, e2, hf⟩ := Option.bind_eq_some_iff.mp hf
  refine r_gR X I e2 lk_TrapCornerModel_61 dX12_gameOf_1 ?_
  refine lv_aload_n hx hb dX12_gameOf_4 rfl (lv_at hl 0 rfl) ?_
  obtain ⟨v3, e4, hf⟩ := Option.bind_eq_some_iff.mp hf
  refine r_gR X I e4 lk_TrapCornerModel_64 dX12_gameOf_5 ?_
  obtain ⟨⟨⟩, h6, e7, z8, hf⟩ := cN_spec hf
  refine k_Sv (As := [.ref (rfG g v1), .ref (rfG g v3)]) (rest := []) X I (c_X12_copy l g v1 v3 e7) z8 sk_TrapCornerModel_372 tw_1793 ⟨Nat.le_trans (by decide) hR.1, Nat.le_trans (by decide) hR.2⟩ ⟨Nat.zero_le _, Nat.zero_le _⟩ rfl hl.1 rfl (Nat.le_of_ble_eq_true rfl) dX12_gameOf_8 (fun H locs I => ?_)
  refine lv_aload_n hx hb dX12_gameOf_11 rfl (lv_at hl 0 rfl) ?_
  obtain ⟨v9, e10, hf⟩ := Option.bind_eq_some_iff.mp hf
  refine r_gR X I e10 lk_TrapCornerModel_64 dX12_gameOf_12 ?_
  refine lv_iconst (v := 2) hx hb dX12_gameOf_15 (by decide) ?_
  refine lv_iload_n hx hb dX12_gameOf_16 rfl (lv_at hl 2 rfl) ?_
  refine lv_imul hx hb dX12_gameOf_17 ?_
  refine lv_iconst (v := 0) hx hb dX12_gameOf_18 (by decide) ?_
  refine lv_iadd hx hb dX12_gameOf_19 ?_
  refine lv_iload_n hx hb dX12_gameOf_20 rfl (lv_at hl 3 rfl) ?_
  obtain ⟨h11, e12, hf⟩ := Option.bind_eq_some_iff.mp hf
  refine r_uI0 X I e12 dX12_gameOf_21 (fun H locs I => ?_)
  refine lv_aload_n hx hb dX12_gameOf_22 rfl (lv_at hl 0 rfl) ?_
  obtain ⟨v13, e14, hf⟩ := Option.bind_eq_some_iff.mp hf
  refine r_gR X I e14 lk_TrapCornerModel_64 dX12_gameOf_23 ?_
  refine lv_bipush (v := 10) hx hb dX12_gameOf_26 (by decide) ?_
  refine lv_iconst (v := 3) hx hb dX12_gameOf_28 (by decide) ?_
  refine lv_iload_n hx hb dX12_gameOf_29 rfl (lv_at hl 1 rfl) ?_
  refine lv_imul hx hb dX12_gameOf_30 ?_
  refine lv_iadd hx hb dX12_gameOf_31 ?_
  refine lv_iconst (v := 2) hx hb dX12_gameOf_32 (by decide) ?_
  refine lv_iadd hx hb dX12_gameOf_33 ?_
  refine lv_iload hx hb dX12_gameOf_34 (lv_at hl 4 rfl) ?_
  obtain ⟨h15, e16, hf⟩ := Option.bind_eq_some_iff.mp hf
  refine r_uI0 X I e16 dX12_gameOf_36 (fun H locs I => ?_)
  refine lv_aload_n hx hb dX12_gameOf_37 rfl (lv_at hl 0 rfl) ?_
  refine lv_aload_n hx hb dX12_gameOf_38 rfl (lv_at hl 0 rfl) ?_
  obtain ⟨v17, e18, hf⟩ := Option.bind_eq_some_iff.mp hf
  refine r_gR X I e18 lk_TrapCornerModel_64 dX12_gameOf_39 ?_
  obtain ⟨_, g23, hf⟩ := Option.bind_eq_some_iff.mp hf
  obtain ⟨v19, h20, e21, z22, hf⟩ := cN_spec hf
  refine k_Vi (As := [.ref (rfG g v17)]) (rest := []) X I (c_X12_goDay l g o0 v17 e21) z22 g23 vk_TrapCornerModel_376 tw_1672 ⟨Nat.le_trans (by decide) hR.1, Nat.le_trans (by decide) hR.2⟩ ⟨Nat.zero_le _, Nat.zero_le _⟩ rfl hl.1 rfl (Nat.le_of_ble_eq_true rfl) dX12_gameOf_42 (fun H locs I => ?_)
  refine lv_istore (lv' := [(6, .int v19), (0, .ref (rfG g o0)), (1, .int x1), (2, .int x2), (3, .int x3), (4, .int x4), (5, .int x5)]) hx hb dX12_gameOf_45 hl (by decide) rfl (fun ls hl => ?_)
  refine lv_iload hx hb dX12_gameOf_47 (lv_at hl 6 rfl) ?_
  refine lv_if_ne (tgt := 79) hx hb dX12_gameOf_49 (by decide) (fun c24 => ?_) (fun c24 => ?_)
  · rw [if_neg c24] at hf
    refine lv_iload hx hb dX12_gameOf_79 (lv_at hl 0 rfl) ?_
    refine lv_iload_n hx hb dX12_gameOf_81 rfl (lv_at hl 2 rfl) ?_
    obtain ⟨v25, h26, e27, z28, hf⟩ := cN_spec hf
    refine k_Si (As := [.int v19, .int x1]) (rest := []) X I (c_X12_has l g v19 x1 e27) z28 sk_TrapCornerModel_229 tw_1520 ⟨Nat.le_trans (by decide) hR.1, Nat.le_trans (by decide) hR.2⟩ ⟨Nat.zero_le _, Nat.zero_le _⟩ rfl hl.1 rfl (Nat.le_of_ble_eq_true rfl) dX12_gameOf_82 (fun H locs I => ?_)
    refine lv_if_eq (tgt := 93) hx hb dX12_gameOf_85 (by decide) (fun c29 => ?_) (fun c29 => ?_)
    · rw [if_pos c29] at hf
      refine lv_iconst (v := 0) hx hb dX12_gameOf_93 (by decide) ?_
      exact w_X12_gameOf_94 X hR hr  o0 x1 x4 0 h26 ls H locs hf I (lv_sub hl [1, 2, 5] rfl)
    · rw [if_neg c29] at hf
      refine lv_bipush (v := (-6)) hx hb dX12_gameOf_88 (by decide) ?_
      refine lv_goto (tgt := 94) hx hb dX12_gameOf_90 (by decide) ?_
      exact w_X12_gameOf_94 X hR hr  o0 x1 x4 ((-6)) h26 ls H locs hf I (lv_sub hl [1, 2, 5] rfl)
  · rw [if_pos c24] at hf
    refine lv_aload_n hx hb dX12_gameOf_52 rfl (lv_at hl 1 rfl) ?_
    obtain ⟨v30, e31, hf⟩ := Option.bind_eq_some_iff.mp hf
    refine r_gR X I e31 lk_TrapCornerModel_81 dX12_gameOf_53 ?_
    refine lv_iload_n hx hb dX12_gameOf_56 rfl (lv_at hl 2 rfl) ?_
    obtain ⟨v32, e33, hf⟩ := Option.bind_eq_some_iff.mp hf
    refine r_aI0 X I e33 dX12_gameOf_57 ?_
    refine lv_iload_n hx hb dX12_gameOf_58 rfl (lv_at hl 3 rfl) ?_
    refine lv_icmp_ne (tgt := 67) hx hb dX12_gameOf_59 (by decide) (fun c34 => ?_) (fun c34 => ?_)
    · rw [if_neg c34] at hf
      refine lv_iconst (v := 0) hx hb dX12_gameOf_67 (by decide) ?_
      exact w_X12_gameOf_68 X hR hr  x3 0 h20 ls H locs hf I (lv_sub hl [4] rfl)
    · rw [if_pos c34] at hf
      refine lv_bipush (v := 6) hx hb dX12_gameOf_62 (by decide) ?_
      refine lv_goto (tgt := 68) hx hb dX12_gameOf_64 (by decide) ?_
      exact w_X12_gameOf_68 X hR hr  x3 6 h20 ls H locs hf I (lv_sub hl [4] rfl)
def f_X12_gameOf (o0 : Nat) (x1 : Int32) (x2 : Int32) (x3 : Int32) (x4 : Int32) (x5 : Int32) (h : AH) : Option (Int32 × AH) := f_X12_gameOf_0 o0 x1 x2 x3 x4 x5 h
end
theorem c_X12_gameOf (l : Launch) (g : GG) (o0 : Nat) (x1 : Int32) (x2 : Int32) (x3 : Int32) (x4 : Int32) (x5 : Int32) {h : AH} {res : Int32 × AH} (hf : f_X12_gameOf o0 x1 x2 x3 x4 x5 h = some res) : CM l g yX12_gameOf cX12_gameOf 7 (some (.int)) 94 6016 0 0 [.ref (rfG g o0), .int x1, .int x2, .int x3, .int x4, .int x5] h (some (.int res.1)) res.2 :=
  k_body (by decide) (Nat.le_of_ble_eq_true rfl) (fun p e s m below meth c R ls hR hr X I hl => w_X12_gameOf_0 X ⟨Nat.le_of_eq hR.1.symm, Nat.le_of_eq hR.2.1.symm⟩ hr o0 x1 x2 x3 x4 x5 h ls s.heap [] hf I (lv_sub hl [0, 1, 2, 3, 4, 5] rfl))
/-! TrapCornerModel.game(IIIII)I -/
theorem dX12_game_0 : decode cX12_game 0 = .ok (.aload_n 0, 1) := by decide +kernel
theorem dX12_game_1 : decode cX12_game 1 = .ok (.iconst 0, 1) := by decide +kernel
theorem dX12_game_2 : decode cX12_game 2 = .ok (.putfield 96, 3) := by decide +kernel
theorem dX12_game_5 : decode cX12_game 5 = .ok (.aload_n 0, 1) := by decide +kernel
theorem dX12_game_6 : decode cX12_game 6 = .ok (.iload_n 1, 1) := by decide +kernel
theorem dX12_game_7 : decode cX12_game 7 = .ok (.invokevirtual 383, 3) := by decide +kernel
theorem dX12_game_10 : decode cX12_game 10 = .ok (.ifCond .eq 59, 3) := by decide +kernel
theorem dX12_game_13 : decode cX12_game 13 = .ok (.aload_n 0, 1) := by decide +kernel
theorem dX12_game_14 : decode cX12_game 14 = .ok (.iload_n 2, 1) := by decide +kernel
theorem dX12_game_15 : decode cX12_game 15 = .ok (.invokevirtual 380, 3) := by decide +kernel
theorem dX12_game_18 : decode cX12_game 18 = .ok (.ifCond .eq 51, 3) := by decide +kernel
theorem dX12_game_21 : decode cX12_game 21 = .ok (.iload_n 3, 1) := by decide +kernel
theorem dX12_game_22 : decode cX12_game 22 = .ok (.i2l, 1) := by decide +kernel
theorem dX12_game_23 : decode cX12_game 23 = .ok (.lconst 0, 1) := by decide +kernel
theorem dX12_game_24 : decode cX12_game 24 = .ok (.ldc2_w 398, 3) := by decide +kernel
theorem dX12_game_27 : decode cX12_game 27 = .ok (.invokestatic 217, 3) := by decide +kernel
theorem dX12_game_30 : decode cX12_game 30 = .ok (.ifCond .eq 39, 3) := by decide +kernel
theorem dX12_game_33 : decode cX12_game 33 = .ok (.iload 4, 2) := by decide +kernel
theorem dX12_game_35 : decode cX12_game 35 = .ok (.i2l, 1) := by decide +kernel
theorem dX12_game_36 : decode cX12_game 36 = .ok (.lconst 0, 1) := by decide +kernel
theorem dX12_game_37 : decode cX12_game 37 = .ok (.lconst 1, 1) := by decide +kernel
theorem dX12_game_38 : decode cX12_game 38 = .ok (.invokestatic 217, 3) := by decide +kernel
theorem dX12_game_41 : decode cX12_game 41 = .ok (.ifCond .eq 28, 3) := by decide +kernel
theorem dX12_game_44 : decode cX12_game 44 = .ok (.iload 5, 2) := by decide +kernel
theorem dX12_game_46 : decode cX12_game 46 = .ok (.i2l, 1) := by decide +kernel
theorem dX12_game_47 : decode cX12_game 47 = .ok (.lconst 0, 1) := by decide +kernel
theorem dX12_game_48 : decode cX12_game 48 = .ok (.lconst 1, 1) := by decide +kernel
theorem dX12_game_49 : decode cX12_game 49 = .ok (.invokestatic 217, 3) := by decide +kernel
theorem dX12_game_52 : decode cX12_game 52 = .ok (.ifCond .eq 17, 3) := by decide +kernel
theorem dX12_game_55 : decode cX12_game 55 = .ok (.aload_n 0, 1) := by decide +kernel
theorem dX12_game_56 : decode cX12_game 56 = .ok (.iload_n 1, 1) := by decide +kernel
theorem dX12_game_57 : decode cX12_game 57 = .ok (.iload_n 2, 1) := by decide +kernel
theorem dX12_game_58 : decode cX12_game 58 = .ok (.iload_n 3, 1) := by decide +kernel
theorem dX12_game_59 : decode cX12_game 59 = .ok (.iload 4, 2) := by decide +kernel
theorem dX12_game_61 : decode cX12_game 61 = .ok (.iload 5, 2) := by decide +kernel
theorem dX12_game_63 : decode cX12_game 63 = .ok (.invokevirtual 464, 3) := by decide +kernel
theorem dX12_game_66 : decode cX12_game 66 = .ok (.goto 6, 3) := by decide +kernel
theorem dX12_game_69 : decode cX12_game 69 = .ok (.ldc_w 434, 3) := by decide +kernel
theorem dX12_game_72 : decode cX12_game 72 = .ok (.ireturn, 1) := by decide +kernel
theorem vk_TrapCornerModel_464 : VK "TrapCornerModel" 464 [12] yX12_gameOf 5 := ⟨tw_1871, tw_1873, tw_13, ⟨by decide, by decide⟩, by decide +kernel, fun ci hci => by
  have hci := List.mem_singleton.mp hci
  subst hci
  exact ⟨_, rfl, tp_104⟩⟩
section
variable {g : GG} {p : Program} {l : Launch} {e : Env} {R : Room} {s : State} {m : MethodId} {args : Array Value} {below : List Frame} {meth : Method} {c : Code} {n0 z0 : Nat}
def f_X12_game_69  (h : AH) : Option (Int32 × AH) :=
  some ((-1000000), h)
set_option maxHeartbeats 1000000 in
theorem w_X12_game_69 (X : Cx g p s m args meth c cX12_game 6 "TrapCornerModel") (hR : 95 ≤ R.frames ∧ 6080 ≤ R.locals) (hr : meth.sig.returnType = (some (.int))) {res : Int32 × AH} : ∀ (h : AH) (ls : Array Slot) (H : Heap) (locs : List Loc), f_X12_game_69  h = some res → Iv g s n0 z0 h H locs 0 0 → lv_has ls 6 [] → W p l e R s m args below meth c H locs 0 0 (MQ below (QG g (some (.int res.1)) res.2) args s 0 0 (AG g)) (F0 m 69 ls []) := by
  have hx := X.1
  have hb := X.2.1
  intro  h ls H locs hf I hl
  unfold f_X12_game_69 at hf
  refine lv_ldcw (v := (-1000000)) hx hb X.2.2.2.1 (X.2.2.2.2.1 _ tw_1786) dX12_game_69 ?_
  cases hf
  exact k_ri X I hr dX12_game_72
def f_X12_game_0  (o0 : Nat) (x1 : Int32) (x2 : Int32) (x3 : Int32) (x4 : Int32) (x5 : Int32) (h : AH) : Option (Int32 × AH) :=
  (pV [12] h o0 0 (.int 0)).bind fun h1 =>
  (isC [12] h1 o0).bind fun _ =>
  cN (f_X12_isPerson o0 x1 h1) h1 fun v3 h4 =>
  if v3 = 0 then
    f_X12_game_69 h4
  else
    (isC [12] h4 o0).bind fun _ =>
    cN (f_X12_isCorner o0 x2 h4) h4 fun v9 h10 =>
    if v9 = 0 then
      f_X12_game_69 h10
    else
      cN (f_X12_isIn (x3.toInt64) 0 3 h10) h10 fun v15 h16 =>
      if v15 = 0 then
        f_X12_game_69 h16
      else
        cN (f_X12_isIn (x4.toInt64) 0 1 h16) h16 fun v20 h21 =>
        if v20 = 0 then
          f_X12_game_69 h21
        else
          cN (f_X12_isIn (x5.toInt64) 0 1 h21) h21 fun v25 h26 =>
          if v25 = 0 then
            f_X12_game_69 h26
          else
            (isC [12] h26 o0).bind fun _ =>
            cN (f_X12_gameOf o0 x1 x2 x3 x4 x5 h26) h26 fun v30 h31 =>
            some (v30, h31)
set_option maxHeartbeats 1000000 in
theorem w_X12_game_0 (X : Cx g p s m args meth c cX12_game 6 "TrapCornerModel") (hR : 95 ≤ R.frames ∧ 6080 ≤ R.locals) (hr : meth.sig.returnType = (some (.int))) {res : Int32 × AH} : ∀ (o0 : Nat) (x1 : Int32) (x2 : Int32) (x3 : Int32) (x4 : Int32) (x5 : Int32) (h : AH) (ls : Array Slot) (H : Heap) (locs : List Loc), f_X12_game_0 o0 x1 x2 x3 x4 x5 h = some res → Iv g s n0 z0 h H locs 0 0 → lv_has ls 6 [(0, .ref (rfG g o0)), (1, .int x1), (2, .int x2), (3, .int x3), (4, .int x4), (5, .int x5)] → W p l e R s m args below meth c H locs 0 0 (MQ below (QG g (some (.int res.1)) res.2) args s 0 0 (AG g)) (F0 m 0 ls []) := by
  have hx := X.1
  have hb := X.2.1
  intro o0 x1 x2 x3 x4 x5 h ls H locs hf I hl
  unfold f_X12_game_0 at hf
  refine lv_aload_n hx hb dX12_game_0 rfl (lv_at hl 0 rfl) ?_
  refine lv_iconst (v := 0) hx hb dX12_game_1 (by decide) ?_
  obtain ⟨h1, e2, hf⟩ := Option.bind_eq_some_iff.mp hf
  refine r_pI X I e2 lp_TrapCornerModel_96 dX12_game_2 (fun H locs I => ?_)
  refine lv_aload_n hx hb dX12_game_5 rfl (lv_at hl 0 rfl) ?_
  refine lv_iload_n hx hb dX12_game_6 rfl (lv_at hl 1 rfl) ?_
  obtain ⟨_, g7, hf⟩ := Option.bind_eq_some_iff.mp hf
  obtain ⟨v3, h4, e5, z6, hf⟩ := cN_spec hf
  refine k_Vi (As := [.int x1]) (rest := []) X I (c_X12_isPerson l g o0 x1 e5) z6 g7 vk_TrapCornerModel_383 tw_1643 ⟨Nat.le_trans (by decide) hR.1, Nat.le_trans (by decide) hR.2⟩ ⟨Nat.zero_le _, Nat.zero_le _⟩ rfl hl.1 rfl (Nat.le_of_ble_eq_true rfl) dX12_game_7 (fun H locs I => ?_)
  refine lv_if_eq (tgt := 69) hx hb dX12_game_10 (by decide) (fun c8 => ?_) (fun c8 => ?_)
  · rw [if_pos c8] at hf
    exact w_X12_game_69 X hR hr  h4 ls H locs hf I (lv_sub hl [] rfl)
  · rw [if_neg c8] at hf
    refine lv_aload_n hx hb dX12_game_13 rfl (lv_at hl 0 rfl) ?_
    refine lv_iload_n hx hb dX12_game_14 rfl (lv_at hl 2 rfl) ?_
    obtain ⟨_, g13, hf⟩ := Option.bind_eq_some_iff.mp hf
    obtain ⟨v9, h10, e11, z12, hf⟩ := cN_spec hf
    refine k_Vi (As := [.int x2]) (rest := []) X I (c_X12_isCorner l g o0 x2 e11) z12 g13 vk_TrapCornerModel_380 tw_1635 ⟨Nat.le_trans (by decide) hR.1, Nat.le_trans (by decide) hR.2⟩ ⟨Nat.zero_le _, Nat.zero_le _⟩ rfl hl.1 rfl (Nat.le_of_ble_eq_true rfl) dX12_game_15 (fun H locs I => ?_)
    refine lv_if_eq (tgt := 69) hx hb dX12_game_18 (by decide) (fun c14 => ?_) (fun c14 => ?_)
    · rw [if_pos c14] at hf
      exact w_X12_game_69 X hR hr  h10 ls H locs hf I (lv_sub hl [] rfl)
    · rw [if_neg c14] at hf
      refine lv_iload_n hx hb dX12_game_21 rfl (lv_at hl 3 rfl) ?_
      refine lv_i2l hx hb dX12_game_22 rfl ?_
      refine lv_lconst (v := 0) hx hb dX12_game_23 (by decide) ?_
      refine lv_ldc2 (v := 3) hx hb X.2.2.2.1 (X.2.2.2.2.1 _ tw_1728) dX12_game_24 ?_
      obtain ⟨v15, h16, e17, z18, hf⟩ := cN_spec hf
      refine k_Si (As := [.long (x3.toInt64), .long 0, .long 3]) (rest := []) X I (c_X12_isIn l g (x3.toInt64) 0 3 e17) z18 sk_TrapCornerModel_217 tw_1465 ⟨Nat.le_trans (by decide) hR.1, Nat.le_trans (by decide) hR.2⟩ ⟨Nat.zero_le _, Nat.zero_le _⟩ rfl hl.1 rfl (Nat.le_of_ble_eq_true rfl) dX12_game_27 (fun H locs I => ?_)
      refine lv_if_eq (tgt := 69) hx hb dX12_game_30 (by decide) (fun c19 => ?_) (fun c19 => ?_)
      · rw [if_pos c19] at hf
        exact w_X12_game_69 X hR hr  h16 ls H locs hf I (lv_sub hl [] rfl)
      · rw [if_neg c19] at hf
        refine lv_iload hx hb dX12_game_33 (lv_at hl 4 rfl) ?_
        refine lv_i2l hx hb dX12_game_35 rfl ?_
        refine lv_lconst (v := 0) hx hb dX12_game_36 (by decide) ?_
        refine lv_lconst (v := 1) hx hb dX12_game_37 (by decide) ?_
        obtain ⟨v20, h21, e22, z23, hf⟩ := cN_spec hf
        refine k_Si (As := [.long (x4.toInt64), .long 0, .long 1]) (rest := []) X I (c_X12_isIn l g (x4.toInt64) 0 1 e22) z23 sk_TrapCornerModel_217 tw_1465 ⟨Nat.le_trans (by decide) hR.1, Nat.le_trans (by decide) hR.2⟩ ⟨Nat.zero_le _, Nat.zero_le _⟩ rfl hl.1 rfl (Nat.le_of_ble_eq_true rfl) dX12_game_38 (fun H locs I => ?_)
        refine lv_if_eq (tgt := 69) hx hb dX12_game_41 (by decide) (fun c24 => ?_) (fun c24 => ?_)
        · rw [if_pos c24] at hf
          exact w_X12_game_69 X hR hr  h21 ls H locs hf I (lv_sub hl [] rfl)
        · rw [if_neg c24] at hf
          refine lv_iload hx hb dX12_game_44 (lv_at hl 5 rfl) ?_
          refine lv_i2l hx hb dX12_game_46 rfl ?_
          refine lv_lconst (v := 0) hx hb dX12_game_47 (by decide) ?_
          refine lv_lconst (v := 1) hx hb dX12_game_48 (by decide) ?_
          obtain ⟨v25, h26, e27, z28, hf⟩ := cN_spec hf
          refine k_Si (As := [.long (x5.toInt64), .long 0, .long 1]) (rest := []) X I (c_X12_isIn l g (x5.toInt64) 0 1 e27) z28 sk_TrapCornerModel_217 tw_1465 ⟨Nat.le_trans (by decide) hR.1, Nat.le_trans (by decide) hR.2⟩ ⟨Nat.zero_le _, Nat.zero_le _⟩ rfl hl.1 rfl (Nat.le_of_ble_eq_true rfl) dX12_game_49 (fun H locs I => ?_)
          refine lv_if_eq (tgt := 69) hx hb dX12_game_52 (by decide) (fun c29 => ?_) (fun c29 => ?_)
          · rw [if_pos c29] at hf
            exact w_X12_game_69 X hR hr  h26 ls H locs hf I (lv_sub hl [] rfl)
          · rw [if_neg c29] at hf
            refine lv_aload_n hx hb dX12_game_55 rfl (lv_at hl 0 rfl) ?_
            refine lv_iload_n hx hb dX12_game_56 rfl (lv_at hl 1 rfl) ?_
            refine lv_iload_n hx hb dX12_game_57 rfl (lv_at hl 2 rfl) ?_
            refine lv_iload_n hx hb dX12_game_58 rfl (lv_at hl 3 rfl) ?_
            refine lv_iload hx hb dX12_game_59 (lv_at hl 4 rfl) ?_
            refine lv_iload hx hb dX12_game_61 (lv_at hl 5 rfl) ?_
            obtain ⟨_, g34, hf⟩ := Option.bind_eq_some_iff.mp hf
            obtain ⟨v30, h31, e32, z33, hf⟩ := cN_spec hf
            refine k_Vi (As := [.int x1, .int x2, .int x3, .int x4, .int x5]) (rest := []) X I (c_X12_gameOf l g o0 x1 x2 x3 x4 x5 e32) z33 g34 vk_TrapCornerModel_464 tw_1874 ⟨Nat.le_trans (by decide) hR.1, Nat.le_trans (by decide) hR.2⟩ ⟨Nat.zero_le _, Nat.zero_le _⟩ rfl hl.1 rfl (Nat.le_of_ble_eq_true rfl) dX12_game_63 (fun H locs I => ?_)
            refine lv_goto (tgt := 72) hx hb dX12_game_66 (by decide) ?_
            cases hf
            exact k_ri X I hr dX12_game_72
def f_X12_game (o0 : Nat) (x1 : Int32) (x2 : Int32) (x3 : Int32) (x4 : Int32) (x5 : Int32) (h : AH) : Option (Int32 × AH) := f_X12_game_0 o0 x1 x2 x3 x4 x5 h
end
theorem c_X12_game (l : Launch) (g : GG) (o0 : Nat) (x1 : Int32) (x2 : Int32) (x3 : Int32) (x4 : Int32) (x5 : Int32) {h : AH} {res : Int32 × AH} (hf : f_X12_game o0 x1 x2 x3 x4 x5 h = some res) : CM l g yX12_game cX12_game 6 (some (.int)) 95 6080 0 0 [.ref (rfG g o0), .int x1, .int x2, .int x3, .int x4, .int x5] h (some (.int res.1)) res.2 :=
  k_body (by decide) (Nat.le_of_ble_eq_true rfl) (fun p e s m below meth c R ls hR hr X I hl => w_X12_game_0 X ⟨Nat.le_of_eq hR.1.symm, Nat.le_of_eq hR.2.1.symm⟩ hr o0 x1 x2 x3 x4 x5 h ls s.heap [] hf I (lv_sub hl [0, 1, 2, 3, 4, 5] rfl))
