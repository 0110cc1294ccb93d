/-! TrapCorner$Town.beyond(II)I -/
theorem dX10_beyond_0 : decode cX10_beyond 0 = .ok (.iload_n 2, 1) := by decide +kernel
theorem dX10_beyond_1 : decode cX10_beyond 1 = .ok (.ifCond .ne 21, 3) := by decide +kernel
theorem dX10_beyond_4 : decode cX10_beyond 4 = .ok (.iload_n 1, 1) := by decide +kernel
theorem dX10_beyond_5 : decode cX10_beyond 5 = .ok (.iconst 1, 1) := by decide +kernel
theorem dX10_beyond_6 : decode cX10_beyond 6 = .ok (.iadd, 1) := by decide +kernel
theorem dX10_beyond_7 : decode cX10_beyond 7 = .ok (.aload_n 0, 1) := by decide +kernel
theorem dX10_beyond_8 : decode cX10_beyond 8 = .ok (.getfield 36, 3) := by decide +kernel
theorem dX10_beyond_11 : decode cX10_beyond 11 = .ok (.if_icmp .ge 9, 3) := by decide +kernel
theorem dX10_beyond_14 : decode cX10_beyond 14 = .ok (.iload_n 1, 1) := by decide +kernel
theorem dX10_beyond_15 : decode cX10_beyond 15 = .ok (.iconst 1, 1) := by decide +kernel
theorem dX10_beyond_16 : decode cX10_beyond 16 = .ok (.iadd, 1) := by decide +kernel
theorem dX10_beyond_17 : decode cX10_beyond 17 = .ok (.goto 4, 3) := by decide +kernel
theorem dX10_beyond_20 : decode cX10_beyond 20 = .ok (.iconst 0, 1) := by decide +kernel
theorem dX10_beyond_21 : decode cX10_beyond 21 = .ok (.ireturn, 1) := by decide +kernel
theorem dX10_beyond_22 : decode cX10_beyond 22 = .ok (.iload_n 1, 1) := by decide +kernel
theorem dX10_beyond_23 : decode cX10_beyond 23 = .ok (.ifCond .le 9, 3) := by decide +kernel
theorem dX10_beyond_26 : decode cX10_beyond 26 = .ok (.iload_n 1, 1) := by decide +kernel
theorem dX10_beyond_27 : decode cX10_beyond 27 = .ok (.iconst 1, 1) := by decide +kernel
theorem dX10_beyond_28 : decode cX10_beyond 28 = .ok (.isub, 1) := by decide +kernel
theorem dX10_beyond_29 : decode cX10_beyond 29 = .ok (.goto 9, 3) := by decide +kernel
theorem dX10_beyond_32 : decode cX10_beyond 32 = .ok (.aload_n 0, 1) := by decide +kernel
theorem dX10_beyond_33 : decode cX10_beyond 33 = .ok (.getfield 36, 3) := by decide +kernel
theorem dX10_beyond_36 : decode cX10_beyond 36 = .ok (.iconst 1, 1) := by decide +kernel
theorem dX10_beyond_37 : decode cX10_beyond 37 = .ok (.isub, 1) := by decide +kernel
theorem dX10_beyond_38 : decode cX10_beyond 38 = .ok (.ireturn, 1) := by decide +kernel
section
variable {g : GG} {p : Program} {l : Launch} {e : Env} {R : Room} {s : State} {m : MethodId} {args : Array Value} {below : List Frame} {meth : Method} {c : Code} {n0 z0 : Nat}
def f_X10_beyond_0  (o0 : Nat) (x1 : Int32) (x2 : Int32) (h : AH) : Option (Int32 × AH) :=
  if x2 = 0 then
    (gI [10] h o0 0).bind fun v5 =>
    if v5 ≤ (x1 + 1) then
      some (0, h)
    else
      some (x1 + 1, h)
  else
    if x1 ≤ 0 then
      (gI [10] h o0 0).bind fun v3 =>
      some (v3 - 1, h)
    else
      some (x1 - 1, h)
set_option maxHeartbeats 1000000 in
theorem w_X10_beyond_0 (X : Cx g p s m args meth c cX10_beyond 3 "TrapCorner$Town") (hR : 1 ≤ R.frames ∧ 64 ≤ R.locals) (hr : meth.sig.returnType = (some (.int))) {res : Int32 × AH} : ∀ (o0 : Nat) (x1 : Int32) (x2 : Int32) (h : AH) (ls : Array Slot) (H : Heap) (locs : List Loc), f_X10_beyond_0 o0 x1 x2 h = some res → Iv g s n0 z0 h H locs 0 0 → lv_has ls 3 [(0, .ref (rfG g o0)), (1, .int x1), (2, .int x2)] → W p l e R s m args below meth c H locs 0 0 (MQ below (QG g (some (.int res.1)) res.2) args s 0 0 (AG g)) (F0 m 0 ls []) := by
  have hx := X.1
  have hb := X.2.1
  intro o0 x1 x2 h ls H locs hf I hl
  unfold f_X10_beyond_0 at hf
  refine lv_iload_n hx hb dX10_beyond_0 rfl (lv_at hl 2 rfl) ?_
  refine lv_if_ne (tgt := 22) hx hb dX10_beyond_1 (by decide) (fun c1 => ?_) (fun c1 => ?_)
  · rw [if_neg c1] at hf
    refine lv_iload_n hx hb dX10_beyond_22 rfl (lv_at hl 1 rfl) ?_
    refine lv_if_le (tgt := 32) hx hb dX10_beyond_23 (by decide) (fun c2 => ?_) (fun c2 => ?_)
    · rw [if_pos c2] at hf
      refine lv_aload_n hx hb dX10_beyond_32 rfl (lv_at hl 0 rfl) ?_
      obtain ⟨v3, e4, hf⟩ := Option.bind_eq_some_iff.mp hf
      refine r_gI X I e4 lk_TrapCorner_Town_36 dX10_beyond_33 ?_
      refine lv_iconst (v := 1) hx hb dX10_beyond_36 (by decide) ?_
      refine lv_isub hx hb dX10_beyond_37 ?_
      cases hf
      exact k_ri X I hr dX10_beyond_38
    · rw [if_neg c2] at hf
      refine lv_iload_n hx hb dX10_beyond_26 rfl (lv_at hl 1 rfl) ?_
      refine lv_iconst (v := 1) hx hb dX10_beyond_27 (by decide) ?_
      refine lv_isub hx hb dX10_beyond_28 ?_
      refine lv_goto (tgt := 38) hx hb dX10_beyond_29 (by decide) ?_
      cases hf
      exact k_ri X I hr dX10_beyond_38
  · rw [if_pos c1] at hf
    refine lv_iload_n hx hb dX10_beyond_4 rfl (lv_at hl 1 rfl) ?_
    refine lv_iconst (v := 1) hx hb dX10_beyond_5 (by decide) ?_
    refine lv_iadd hx hb dX10_beyond_6 ?_
    refine lv_aload_n hx hb dX10_beyond_7 rfl (lv_at hl 0 rfl) ?_
    obtain ⟨v5, e6, hf⟩ := Option.bind_eq_some_iff.mp hf
    refine r_gI X I e6 lk_TrapCorner_Town_36 dX10_beyond_8 ?_
    refine lv_icmp_ge (tgt := 20) hx hb dX10_beyond_11 (by decide) (fun c7 => ?_) (fun c7 => ?_)
    · rw [if_pos c7] at hf
      refine lv_iconst (v := 0) hx hb dX10_beyond_20 (by decide) ?_
      cases hf
      exact k_ri X I hr dX10_beyond_21
    · rw [if_neg c7] at hf
      refine lv_iload_n hx hb dX10_beyond_14 rfl (lv_at hl 1 rfl) ?_
      refine lv_iconst (v := 1) hx hb dX10_beyond_15 (by decide) ?_
      refine lv_iadd hx hb dX10_beyond_16 ?_
      refine lv_goto (tgt := 21) hx hb dX10_beyond_17 (by decide) ?_
      cases hf
      exact k_ri X I hr dX10_beyond_21
def f_X10_beyond (o0 : Nat) (x1 : Int32) (x2 : Int32) (h : AH) : Option (Int32 × AH) := f_X10_beyond_0 o0 x1 x2 h
end
theorem c_X10_beyond (l : Launch) (g : GG) (o0 : Nat) (x1 : Int32) (x2 : Int32) {h : AH} {res : Int32 × AH} (hf : f_X10_beyond o0 x1 x2 h = some res) : CM l g yX10_beyond cX10_beyond 3 (some (.int)) 1 64 0 0 [.ref (rfG g o0), .int x1, .int x2] h (some (.int res.1)) res.2 :=
  k_body (by decide) (Nat.le_of_ble_eq_true rfl) (fun p e s m below meth c R ls hR hr X I hl => w_X10_beyond_0 X ⟨Nat.le_of_eq hR.1.symm, Nat.le_of_eq hR.2.1.symm⟩ hr o0 x1 x2 h ls s.heap [] hf I (lv_sub hl [0, 1, 2] rfl))
/-! TrapCorner$Town.walkLength(II)I -/
theorem dX10_walkLength_0 : decode cX10_walkLength 0 = .ok (.aload_n 0, 1) := by decide +kernel
theorem dX10_walkLength_1 : decode cX10_walkLength 1 = .ok (.getfield 30, 3) := by decide +kernel
theorem dX10_walkLength_4 : decode cX10_walkLength 4 = .ok (.iload_n 1, 1) := by decide +kernel
theorem dX10_walkLength_5 : decode cX10_walkLength 5 = .ok (.iaload, 1) := by decide +kernel
theorem dX10_walkLength_6 : decode cX10_walkLength 6 = .ok (.aload_n 0, 1) := by decide +kernel
theorem dX10_walkLength_7 : decode cX10_walkLength 7 = .ok (.getfield 27, 3) := by decide +kernel
theorem dX10_walkLength_10 : decode cX10_walkLength 10 = .ok (.iload_n 1, 1) := by decide +kernel
theorem dX10_walkLength_11 : decode cX10_walkLength 11 = .ok (.iaload, 1) := by decide +kernel
theorem dX10_walkLength_12 : decode cX10_walkLength 12 = .ok (.isub, 1) := by decide +kernel
theorem dX10_walkLength_13 : decode cX10_walkLength 13 = .ok (.istore_n 3, 1) := by decide +kernel
theorem dX10_walkLength_14 : decode cX10_walkLength 14 = .ok (.iload_n 2, 1) := by decide +kernel
theorem dX10_walkLength_15 : decode cX10_walkLength 15 = .ok (.ifCond .ne 7, 3) := by decide +kernel
theorem dX10_walkLength_18 : decode cX10_walkLength 18 = .ok (.iload_n 3, 1) := by decide +kernel
theorem dX10_walkLength_19 : decode cX10_walkLength 19 = .ok (.goto 5, 3) := by decide +kernel
theorem dX10_walkLength_22 : decode cX10_walkLength 22 = .ok (.iload_n 3, 1) := by decide +kernel
theorem dX10_walkLength_23 : decode cX10_walkLength 23 = .ok (.ineg, 1) := by decide +kernel
theorem dX10_walkLength_24 : decode cX10_walkLength 24 = .ok (.istore 4, 2) := by decide +kernel
theorem dX10_walkLength_26 : decode cX10_walkLength 26 = .ok (.iload 4, 2) := by decide +kernel
theorem dX10_walkLength_28 : decode cX10_walkLength 28 = .ok (.ifCond .ge 13, 3) := by decide +kernel
theorem dX10_walkLength_31 : decode cX10_walkLength 31 = .ok (.iload 4, 2) := by decide +kernel
theorem dX10_walkLength_33 : decode cX10_walkLength 33 = .ok (.aload_n 0, 1) := by decide +kernel
theorem dX10_walkLength_34 : decode cX10_walkLength 34 = .ok (.getfield 36, 3) := by decide +kernel
theorem dX10_walkLength_37 : decode cX10_walkLength 37 = .ok (.iadd, 1) := by decide +kernel
theorem dX10_walkLength_38 : decode cX10_walkLength 38 = .ok (.goto 5, 3) := by decide +kernel
theorem dX10_walkLength_41 : decode cX10_walkLength 41 = .ok (.iload 4, 2) := by decide +kernel
theorem dX10_walkLength_43 : decode cX10_walkLength 43 = .ok (.ireturn, 1) := by decide +kernel
section
variable {g : GG} {p : Program} {l : Launch} {e : Env} {R : Room} {s : State} {m : MethodId} {args : Array Value} {below : List Frame} {meth : Method} {c : Code} {n0 z0 : Nat}
def f_X10_walkLength_24  (o0 : Nat) (s0 : Int32) (h : AH) : Option (Int32 × AH) :=
  if 0 ≤ s0 then
    some (s0, h)
  else
    (gI [10] h o0 0).bind fun v2 =>
    some (s0 + v2, h)
set_option maxHeartbeats 1000000 in
theorem w_X10_walkLength_24 (X : Cx g p s m args meth c cX10_walkLength 5 "TrapCorner$Town") (hR : 1 ≤ R.frames ∧ 64 ≤ R.locals) (hr : meth.sig.returnType = (some (.int))) {res : Int32 × AH} : ∀ (o0 : Nat) (s0 : Int32) (h : AH) (ls : Array Slot) (H : Heap) (locs : List Loc), f_X10_walkLength_24 o0 s0 h = some res → Iv g s n0 z0 h H locs 0 0 → lv_has ls 5 [(0, .ref (rfG g o0))] → W p l e R s m args below meth c H locs 0 0 (MQ below (QG g (some (.int res.1)) res.2) args s 0 0 (AG g)) (F0 m 24 ls [.int s0]) := by
  have hx := X.1
  have hb := X.2.1
  intro o0 s0 h ls H locs hf I hl
  unfold f_X10_walkLength_24 at hf
  refine lv_istore (lv' := [(4, .int s0), (0, .ref (rfG g o0))]) hx hb dX10_walkLength_24 hl (by decide) rfl (fun ls hl => ?_)
  refine lv_iload hx hb dX10_walkLength_26 (lv_at hl 0 rfl) ?_
  refine lv_if_ge (tgt := 41) hx hb dX10_walkLength_28 (by decide) (fun c1 => ?_) (fun c1 => ?_)
  · rw [if_pos c1] at hf
    refine lv_iload hx hb dX10_walkLength_41 (lv_at hl 0 rfl) ?_
    cases hf
    exact k_ri X I hr dX10_walkLength_43
  · rw [if_neg c1] at hf
    refine lv_iload hx hb dX10_walkLength_31 (lv_at hl 0 rfl) ?_
    refine lv_aload_n hx hb dX10_walkLength_33 rfl (lv_at hl 1 rfl) ?_
    obtain ⟨v2, e3, hf⟩ := Option.bind_eq_some_iff.mp hf
    refine r_gI X I e3 lk_TrapCorner_Town_36 dX10_walkLength_34 ?_
    refine lv_iadd hx hb dX10_walkLength_37 ?_
    refine lv_goto (tgt := 43) hx hb dX10_walkLength_38 (by decide) ?_
    cases hf
    exact k_ri X I hr dX10_walkLength_43
def f_X10_walkLength_0  (o0 : Nat) (x1 : Int32) (x2 : Int32) (h : AH) : Option (Int32 × AH) :=
  (gR [10] h o0 11).bind fun v1 =>
  (aI 0 h v1 x1).bind fun v3 =>
  (gR [10] h o0 10).bind fun v5 =>
  (aI 0 h v5 x1).bind fun v7 =>
  if x2 = 0 then
    f_X10_walkLength_24 o0 (v3 - v7) h
  else
    f_X10_walkLength_24 o0 (-(v3 - v7)) h
set_option maxHeartbeats 1000000 in
theorem w_X10_walkLength_0 (X : Cx g p s m args meth c cX10_walkLength 5 "TrapCorner$Town") (hR : 1 ≤ R.frames ∧ 64 ≤ R.locals) (hr : meth.sig.returnType = (some (.int))) {res : Int32 × AH} : ∀ (o0 : Nat) (x1 : Int32) (x2 : Int32) (h : AH) (ls : Array Slot) (H : Heap) (locs : List Loc), f_X10_walkLength_0 o0 x1 x2 h = some res → Iv g s n0 z0 h H locs 0 0 → lv_has ls 5 [(0, .ref (rfG g o0)), (1, .int x1), (2, .int x2)] → W p l e R s m args below meth c H locs 0 0 (MQ below (QG g (some (.int res.1)) res.2) args s 0 0 (AG g)) (F0 m 0 ls []) := by
  have hx := X.1
  have hb := X.2.1
  intro o0 x1 x2 h ls H locs hf I hl
  unfold f_X10_walkLength_0 at hf
  refine lv_aload_n hx hb dX10_walkLength_0 rfl (lv_at hl 0 rfl) ?_
  obtain ⟨v1, e2, hf⟩ := Option.bind_eq_some_iff.mp hf
  refine r_gR X I e2 lk_TrapCorner_Town_30 dX10_walkLength_1 ?_
  refine lv_iload_n hx hb dX10_walkLength_4 rfl (lv_at hl 1 rfl) ?_
  obtain ⟨v3, e4, hf⟩ := Option.bind_eq_some_iff.mp hf
  refine r_aI0 X I e4 dX10_walkLength_5 ?_
  refine lv_aload_n hx hb dX10_walkLength_6 rfl (lv_at hl 0 rfl) ?_
  obtain ⟨v5, e6, hf⟩ := Option.bind_eq_some_iff.mp hf
  refine r_gR X I e6 lk_TrapCorner_Town_27 dX10_walkLength_7 ?_
  refine lv_iload_n hx hb dX10_walkLength_10 rfl (lv_at hl 1 rfl) ?_
  obtain ⟨v7, e8, hf⟩ := Option.bind_eq_some_iff.mp hf
  refine r_aI0 X I e8 dX10_walkLength_11 ?_
  refine lv_isub hx hb dX10_walkLength_12 ?_
  refine lv_istore_n (lv' := [(3, .int (v3 - v7)), (0, .ref (rfG g o0)), (1, .int x1), (2, .int x2)]) hx hb dX10_walkLength_13 rfl hl (by decide) rfl (fun ls hl => ?_)
  refine lv_iload_n hx hb dX10_walkLength_14 rfl (lv_at hl 3 rfl) ?_
  refine lv_if_ne (tgt := 22) hx hb dX10_walkLength_15 (by decide) (fun c9 => ?_) (fun c9 => ?_)
  · rw [if_neg c9] at hf
    refine lv_iload_n hx hb dX10_walkLength_22 rfl (lv_at hl 0 rfl) ?_
    refine lv_ineg hx hb dX10_walkLength_23 ?_
    exact w_X10_walkLength_24 X hR hr  o0 (-(v3 - v7)) h ls H locs hf I (lv_sub hl [1] rfl)
  · rw [if_pos c9] at hf
    refine lv_iload_n hx hb dX10_walkLength_18 rfl (lv_at hl 0 rfl) ?_
    refine lv_goto (tgt := 24) hx hb dX10_walkLength_19 (by decide) ?_
    exact w_X10_walkLength_24 X hR hr  o0 (v3 - v7) h ls H locs hf I (lv_sub hl [1] rfl)
def f_X10_walkLength (o0 : Nat) (x1 : Int32) (x2 : Int32) (h : AH) : Option (Int32 × AH) := f_X10_walkLength_0 o0 x1 x2 h
end
theorem c_X10_walkLength (l : Launch) (g : GG) (o0 : Nat) (x1 : Int32) (x2 : Int32) {h : AH} {res : Int32 × AH} (hf : f_X10_walkLength o0 x1 x2 h = some res) : CM l g yX10_walkLength cX10_walkLength 5 (some (.int)) 1 64 0 0 [.ref (rfG g o0), .int x1, .int x2] h (some (.int res.1)) res.2 :=
  k_body (by decide) (Nat.le_of_ble_eq_true rfl) (fun p e s m below meth c R ls hR hr X I hl => w_X10_walkLength_0 X ⟨Nat.le_of_eq hR.1.symm, Nat.le_of_eq hR.2.1.symm⟩ hr o0 x1 x2 h ls s.heap [] hf I (lv_sub hl [0, 1, 2] rfl))
/-! TrapCorner$Town.walkBits(II)I -/
theorem dX10_walkBits_0 : decode cX10_walkBits 0 = .ok (.iconst 0, 1) := by decide +kernel
theorem dX10_walkBits_1 : decode cX10_walkBits 1 = .ok (.istore_n 3, 1) := by decide +kernel
theorem dX10_walkBits_2 : decode cX10_walkBits 2 = .ok (.aload_n 0, 1) := by decide +kernel
theorem dX10_walkBits_3 : decode cX10_walkBits 3 = .ok (.getfield 27, 3) := by decide +kernel
theorem dX10_walkBits_6 : decode cX10_walkBits 6 = .ok (.iload_n 1, 1) := by decide +kernel
theorem dX10_walkBits_7 : decode cX10_walkBits 7 = .ok (.iaload, 1) := by decide +kernel
theorem dX10_walkBits_8 : decode cX10_walkBits 8 = .ok (.istore 4, 2) := by decide +kernel
theorem dX10_walkBits_10 : decode cX10_walkBits 10 = .ok (.aload_n 0, 1) := by decide +kernel
theorem dX10_walkBits_11 : decode cX10_walkBits 11 = .ok (.iload_n 1, 1) := by decide +kernel
theorem dX10_walkBits_12 : decode cX10_walkBits 12 = .ok (.iload_n 2, 1) := by decide +kernel
theorem dX10_walkBits_13 : decode cX10_walkBits 13 = .ok (.invokevirtual 58, 3) := by decide +kernel
theorem dX10_walkBits_16 : decode cX10_walkBits 16 = .ok (.istore 5, 2) := by decide +kernel
theorem dX10_walkBits_18 : decode cX10_walkBits 18 = .ok (.iconst 0, 1) := by decide +kernel
theorem dX10_walkBits_19 : decode cX10_walkBits 19 = .ok (.istore 6, 2) := by decide +kernel
theorem dX10_walkBits_21 : decode cX10_walkBits 21 = .ok (.iload 6, 2) := by decide +kernel
theorem dX10_walkBits_23 : decode cX10_walkBits 23 = .ok (.iload 5, 2) := by decide +kernel
theorem dX10_walkBits_25 : decode cX10_walkBits 25 = .ok (.if_icmp .ge 25, 3) := by decide +kernel
theorem dX10_walkBits_28 : decode cX10_walkBits 28 = .ok (.aload_n 0, 1) := by decide +kernel
theorem dX10_walkBits_29 : decode cX10_walkBits 29 = .ok (.iload 4, 2) := by decide +kernel
theorem dX10_walkBits_31 : decode cX10_walkBits 31 = .ok (.iload_n 2, 1) := by decide +kernel
theorem dX10_walkBits_32 : decode cX10_walkBits 32 = .ok (.invokevirtual 62, 3) := by decide +kernel
theorem dX10_walkBits_35 : decode cX10_walkBits 35 = .ok (.istore 4, 2) := by decide +kernel
theorem dX10_walkBits_37 : decode cX10_walkBits 37 = .ok (.iload_n 3, 1) := by decide +kernel
theorem dX10_walkBits_38 : decode cX10_walkBits 38 = .ok (.iconst 1, 1) := by decide +kernel
theorem dX10_walkBits_39 : decode cX10_walkBits 39 = .ok (.iload 4, 2) := by decide +kernel
theorem dX10_walkBits_41 : decode cX10_walkBits 41 = .ok (.ishl, 1) := by decide +kernel
theorem dX10_walkBits_42 : decode cX10_walkBits 42 = .ok (.ior, 1) := by decide +kernel
theorem dX10_walkBits_43 : decode cX10_walkBits 43 = .ok (.istore_n 3, 1) := by decide +kernel
theorem dX10_walkBits_44 : decode cX10_walkBits 44 = .ok (.iinc 6 1, 3) := by decide +kernel
theorem dX10_walkBits_47 : decode cX10_walkBits 47 = .ok (.goto (-26), 3) := by decide +kernel
theorem dX10_walkBits_50 : decode cX10_walkBits 50 = .ok (.iload_n 3, 1) := by decide +kernel
theorem dX10_walkBits_51 : decode cX10_walkBits 51 = .ok (.ireturn, 1) := by decide +kernel
theorem vk_TrapCorner_Town_62 : VK "TrapCorner$Town" 62 [10] yX10_beyond 2 := ⟨tw_1117, tw_908, tw_5, ⟨by decide, by decide⟩, by decide +kernel, fun ci hci => by
  have hci := List.mem_singleton.mp hci
  subst hci
  exact ⟨_, rfl, tw_909⟩⟩
theorem vk_TrapCorner_Town_58 : VK "TrapCorner$Town" 58 [10] yX10_walkLength 2 := ⟨tw_1116, tw_904, tw_5, ⟨by decide, by decide⟩, by decide +kernel, fun ci hci => by
  have hci := List.mem_singleton.mp hci
  subst hci
  exact ⟨_, rfl, tw_905⟩⟩
section
variable {g : GG} {p : Program} {l : Launch} {e : Env} {R : Room} {s : State} {m : MethodId} {args : Array Value} {below : List Frame} {meth : Method} {c : Code} {n0 z0 : Nat}
def f_X10_walkBits_21  : Nat → Nat → Int32 → Int32 → Int32 → Int32 → Int32 → AH → Option (Int32 × AH)
  | 0, _, _, _, _, _, _, _ => none
  | n + 1, o0, x2, x3, x4, x5, x6, h =>
  if x5 ≤ x6 then
    some (x3, h)
  else
    (isC [10] h o0).bind fun _ =>
    cN (f_X10_beyond o0 x4 x2 h) h fun v2 h3 =>
    f_X10_walkBits_21  n o0 x2 (x3 ||| (1 <<< (v2 &&& 31))) v2 x5 (x6 + 1) h3
set_option maxHeartbeats 1000000 in
theorem w_X10_walkBits_21 (X : Cx g p s m args meth c cX10_walkBits 7 "TrapCorner$Town") (hR : 2 ≤ R.frames ∧ 128 ≤ R.locals) (hr : meth.sig.returnType = (some (.int))) {res : Int32 × AH} : ∀ (n : Nat) (o0 : Nat) (x2 : Int32) (x3 : Int32) (x4 : Int32) (x5 : Int32) (x6 : Int32) (h : AH) (ls : Array Slot) (H : Heap) (locs : List Loc), f_X10_walkBits_21 n o0 x2 x3 x4 x5 x6 h = some res → Iv g s n0 z0 h H locs 0 0 → lv_has ls 7 [(0, .ref (rfG g o0)), (2, .int x2), (3, .int x3), (4, .int x4), (5, .int x5), (6, .int x6)] → W p l e R s m args below meth c H locs 0 0 (MQ below (QG g (some (.int res.1)) res.2) args s 0 0 (AG g)) (F0 m 21 ls []) := by
  have hx := X.1
  have hb := X.2.1
  intro n
  induction n with
  | zero =>
    intro o0 x2 x3 x4 x5 x6 h ls H locs hf
    rw [f_X10_walkBits_21.eq_1] at hf
    cases hf
  | succ n ih =>
    intro o0 x2 x3 x4 x5 x6 h ls H locs hf I hl
    rw [f_X10_walkBits_21.eq_2] at hf
    refine lv_iload hx hb dX10_walkBits_21 (lv_at hl 5 rfl) ?_
    refine lv_iload hx hb dX10_walkBits_23 (lv_at hl 4 rfl) ?_
    refine lv_icmp_ge (tgt := 50) hx hb dX10_walkBits_25 (by decide) (fun c1 => ?_) (fun c1 => ?_)
    · rw [if_pos c1] at hf
      refine lv_iload_n hx hb dX10_walkBits_50 rfl (lv_at hl 2 rfl) ?_
      cases hf
      exact k_ri X I hr dX10_walkBits_51
    · rw [if_neg c1] at hf
      refine lv_aload_n hx hb dX10_walkBits_28 rfl (lv_at hl 0 rfl) ?_
      refine lv_iload hx hb dX10_walkBits_29 (lv_at hl 3 rfl) ?_
      refine lv_iload_n hx hb dX10_walkBits_31 rfl (lv_at hl 1 rfl) ?_
      obtain ⟨_, g6, hf⟩ := Option.bind_eq_some_iff.mp hf
      obtain ⟨v2, h3, e4, z5, hf⟩ := cN_spec hf
      refine k_Vi (As := [.int x4, .int x2]) (rest := []) X I (c_X10_beyond l g o0 x4 x2 e4) z5 g6 vk_TrapCorner_Town_62 tw_910 ⟨Nat.le_trans (by decide) hR.1, Nat.le_trans (by decide) hR.2⟩ ⟨Nat.zero_le _, Nat.zero_le _⟩ rfl hl.1 rfl (Nat.le_of_ble_eq_true rfl) dX10_walkBits_32 (fun H locs I => ?_)
      refine lv_istore (lv' := [(4, .int v2), (0, .ref (rfG g o0)), (2, .int x2), (3, .int x3), (5, .int x5), (6, .int x6)]) hx hb dX10_walkBits_35 hl (by decide) rfl (fun ls hl => ?_)
      refine lv_iload_n hx hb dX10_walkBits_37 rfl (lv_at hl 3 rfl) ?_
      refine lv_iconst (v := 1) hx hb dX10_walkBits_38 (by decide) ?_
      refine lv_iload hx hb dX10_walkBits_39 (lv_at hl 0 rfl) ?_
      refine lv_ishl hx hb dX10_walkBits_41 ?_
      refine lv_ior hx hb dX10_walkBits_42 ?_
      refine lv_istore_n (lv' := [(3, .int (x3 ||| (1 <<< (v2 &&& 31)))), (4, .int v2), (0, .ref (rfG g o0)), (2, .int x2), (5, .int x5), (6, .int x6)]) hx hb dX10_walkBits_43 rfl hl (by decide) rfl (fun ls hl => ?_)
      refine lv_iinc (v := x6 + 1) (lv' := [(6, .int (x6 + 1)), (3, .int (x3 ||| (1 <<< (v2 &&& 31)))), (4, .int v2), (0, .ref (rfG g o0)), (2, .int x2), (5, .int x5)]) hx hb dX10_walkBits_44 hl (k := 5) rfl rfl (by decide) rfl (fun ls hl => ?_)
      refine lv_goto (tgt := 21) hx hb dX10_walkBits_47 (by decide) ?_
      exact ih o0 x2 (x3 ||| (1 <<< (v2 &&& 31))) v2 x5 (x6 + 1) h3 ls H locs hf I (lv_sub hl [3, 4, 1, 2, 5, 0] rfl)
def f_X10_walkBits_0  (o0 : Nat) (x1 : Int32) (x2 : Int32) (h : AH) : Option (Int32 × AH) :=
  (gR [10] h o0 10).bind fun v1 =>
  (aI 0 h v1 x1).bind fun v3 =>
  (isC [10] h o0).bind fun _ =>
  cN (f_X10_walkLength o0 x1 x2 h) h fun v5 h6 =>
  f_X10_walkBits_21 fu o0 x2 0 v3 v5 0 h6
set_option maxHeartbeats 1000000 in
theorem w_X10_walkBits_0 (X : Cx g p s m args meth c cX10_walkBits 7 "TrapCorner$Town") (hR : 2 ≤ R.frames ∧ 128 ≤ R.locals) (hr : meth.sig.returnType = (some (.int))) {res : Int32 × AH} : ∀ (o0 : Nat) (x1 : Int32) (x2 : Int32) (h : AH) (ls : Array Slot) (H : Heap) (locs : List Loc), f_X10_walkBits_0 o0 x1 x2 h = some res → Iv g s n0 z0 h H locs 0 0 → lv_has ls 7 [(0, .ref (rfG g o0)), (1, .int x1), (2, .int x2)] → W p l e R s m args below meth c H locs 0 0 (MQ below (QG g (some (.int res.1)) res.2) args s 0 0 (AG g)) (F0 m 0 ls []) := by
  have hx := X.1
  have hb := X.2.1
  intro o0 x1 x2 h ls H locs hf I hl
  unfold f_X10_walkBits_0 at hf
  refine lv_iconst (v := 0) hx hb dX10_walkBits_0 (by decide) ?_
  refine lv_istore_n (lv' := [(3, .int 0), (0, .ref (rfG g o0)), (1, .int x1), (2, .int x2)]) hx hb dX10_walkBits_1 rfl hl (by decide) rfl (fun ls hl => ?_)
  refine lv_aload_n hx hb dX10_walkBits_2 rfl (lv_at hl 1 rfl) ?_
  obtain ⟨v1, e2, hf⟩ := Option.bind_eq_some_iff.mp hf
  refine r_gR X I e2 lk_TrapCorner_Town_27 dX10_walkBits_3 ?_
  refine lv_iload_n hx hb dX10_walkBits_6 rfl (lv_at hl 2 rfl) ?_
  obtain ⟨v3, e4, hf⟩ := Option.bind_eq_some_iff.mp hf
  refine r_aI0 X I e4 dX10_walkBits_7 ?_
  refine lv_istore (lv' := [(4, .int v3), (3, .int 0), (0, .ref (rfG g o0)), (1, .int x1), (2, .int x2)]) hx hb dX10_walkBits_8 hl (by decide) rfl (fun ls hl => ?_)
  refine lv_aload_n hx hb dX10_walkBits_10 rfl (lv_at hl 2 rfl) ?_
  refine lv_iload_n hx hb dX10_walkBits_11 rfl (lv_at hl 3 rfl) ?_
  refine lv_iload_n hx hb dX10_walkBits_12 rfl (lv_at hl 4 rfl) ?_
  obtain ⟨_, g9, hf⟩ := Option.bind_eq_some_iff.mp hf
  obtain ⟨v5, h6, e7, z8, hf⟩ := cN_spec hf
  refine k_Vi (As := [.int x1, .int x2]) (rest := []) X I (c_X10_walkLength l g o0 x1 x2 e7) z8 g9 vk_TrapCorner_Town_58 tw_906 ⟨Nat.le_trans (by decide) hR.1, Nat.le_trans (by decide) hR.2⟩ ⟨Nat.zero_le _, Nat.zero_le _⟩ rfl hl.1 rfl (Nat.le_of_ble_eq_true rfl) dX10_walkBits_13 (fun H locs I => ?_)
  refine lv_istore (lv' := [(5, .int v5), (4, .int v3), (3, .int 0), (0, .ref (rfG g o0)), (1, .int x1), (2, .int x2)]) hx hb dX10_walkBits_16 hl (by decide) rfl (fun ls hl => ?_)
  refine lv_iconst (v := 0) hx hb dX10_walkBits_18 (by decide) ?_
  refine lv_istore (lv' := [(6, .int 0), (5, .int v5), (4, .int v3), (3, .int 0), (0, .ref (rfG g o0)), (1, .int x1), (2, .int x2)]) hx hb dX10_walkBits_19 hl (by decide) rfl (fun ls hl => ?_)
  exact w_X10_walkBits_21 X hR hr fu o0 x2 0 v3 v5 0 h6 ls H locs hf I (lv_sub hl [4, 6, 3, 2, 1, 0] rfl)
def f_X10_walkBits (o0 : Nat) (x1 : Int32) (x2 : Int32) (h : AH) : Option (Int32 × AH) := f_X10_walkBits_0 o0 x1 x2 h
end
theorem c_X10_walkBits (l : Launch) (g : GG) (o0 : Nat) (x1 : Int32) (x2 : Int32) {h : AH} {res : Int32 × AH} (hf : f_X10_walkBits o0 x1 x2 h = some res) : CM l g yX10_walkBits cX10_walkBits 7 (some (.int)) 2 128 0 0 [.ref (rfG g o0), .int x1, .int x2] h (some (.int res.1)) res.2 :=
  k_body (by decide) (Nat.le_of_ble_eq_true rfl) (fun p e s m below meth c R ls hR hr X I hl => w_X10_walkBits_0 X ⟨Nat.le_of_eq hR.1.symm, Nat.le_of_eq hR.2.1.symm⟩ hr o0 x1 x2 h ls s.heap [] hf I (lv_sub hl [0, 1, 2] rfl))
/-! TrapCorner.feed(IIIII)I -/
theorem dX11_feed_0 : decode cX11_feed 0 = .ok (.aload_n 0, 1) := by decide +kernel
theorem dX11_feed_1 : decode cX11_feed 1 = .ok (.getfield 10, 3) := by decide +kernel
theorem dX11_feed_4 : decode cX11_feed 4 = .ok (.iload_n 1, 1) := by decide +kernel
theorem dX11_feed_5 : decode cX11_feed 5 = .ok (.invokevirtual 105, 3) := by decide +kernel
theorem dX11_feed_8 : decode cX11_feed 8 = .ok (.aload_n 0, 1) := by decide +kernel
theorem dX11_feed_9 : decode cX11_feed 9 = .ok (.getfield 10, 3) := by decide +kernel
theorem dX11_feed_12 : decode cX11_feed 12 = .ok (.iload_n 2, 1) := by decide +kernel
theorem dX11_feed_13 : decode cX11_feed 13 = .ok (.invokevirtual 105, 3) := by decide +kernel
theorem dX11_feed_16 : decode cX11_feed 16 = .ok (.iadd, 1) := by decide +kernel
theorem dX11_feed_17 : decode cX11_feed 17 = .ok (.aload_n 0, 1) := by decide +kernel
theorem dX11_feed_18 : decode cX11_feed 18 = .ok (.getfield 10, 3) := by decide +kernel
theorem dX11_feed_21 : decode cX11_feed 21 = .ok (.iload_n 3, 1) := by decide +kernel
theorem dX11_feed_22 : decode cX11_feed 22 = .ok (.invokevirtual 105, 3) := by decide +kernel
theorem dX11_feed_25 : decode cX11_feed 25 = .ok (.iadd, 1) := by decide +kernel
theorem dX11_feed_26 : decode cX11_feed 26 = .ok (.aload_n 0, 1) := by decide +kernel
theorem dX11_feed_27 : decode cX11_feed 27 = .ok (.getfield 10, 3) := by decide +kernel
theorem dX11_feed_30 : decode cX11_feed 30 = .ok (.iload 4, 2) := by decide +kernel
theorem dX11_feed_32 : decode cX11_feed 32 = .ok (.invokevirtual 105, 3) := by decide +kernel
theorem dX11_feed_35 : decode cX11_feed 35 = .ok (.iadd, 1) := by decide +kernel
theorem dX11_feed_36 : decode cX11_feed 36 = .ok (.aload_n 0, 1) := by decide +kernel
theorem dX11_feed_37 : decode cX11_feed 37 = .ok (.getfield 10, 3) := by decide +kernel
theorem dX11_feed_40 : decode cX11_feed 40 = .ok (.iload 5, 2) := by decide +kernel
theorem dX11_feed_42 : decode cX11_feed 42 = .ok (.invokevirtual 105, 3) := by decide +kernel
theorem dX11_feed_45 : decode cX11_feed 45 = .ok (.iadd, 1) := by decide +kernel
theorem dX11_feed_46 : decode cX11_feed 46 = .ok (.istore 6, 2) := by decide +kernel
theorem dX11_feed_48 : decode cX11_feed 48 = .ok (.aload_n 0, 1) := by decide +kernel
theorem dX11_feed_49 : decode cX11_feed 49 = .ok (.getfield 10, 3) := by decide +kernel
theorem dX11_feed_52 : decode cX11_feed 52 = .ok (.getfield 109, 3) := by decide +kernel
theorem dX11_feed_55 : decode cX11_feed 55 = .ok (.iload 6, 2) := by decide +kernel
theorem dX11_feed_57 : decode cX11_feed 57 = .ok (.iadd, 1) := by decide +kernel
theorem dX11_feed_58 : decode cX11_feed 58 = .ok (.sipush 240, 3) := by decide +kernel
theorem dX11_feed_61 : decode cX11_feed 61 = .ok (.if_icmp .le 5, 3) := by decide +kernel
theorem dX11_feed_64 : decode cX11_feed 64 = .ok (.iconst (-1), 1) := by decide +kernel
theorem dX11_feed_65 : decode cX11_feed 65 = .ok (.ireturn, 1) := by decide +kernel
theorem dX11_feed_66 : decode cX11_feed 66 = .ok (.aload_n 0, 1) := by decide +kernel
theorem dX11_feed_67 : decode cX11_feed 67 = .ok (.getfield 10, 3) := by decide +kernel
theorem dX11_feed_70 : decode cX11_feed 70 = .ok (.iload_n 1, 1) := by decide +kernel
theorem dX11_feed_71 : decode cX11_feed 71 = .ok (.invokevirtual 112, 3) := by decide +kernel
theorem dX11_feed_74 : decode cX11_feed 74 = .ok (.aload_n 0, 1) := by decide +kernel
theorem dX11_feed_75 : decode cX11_feed 75 = .ok (.getfield 10, 3) := by decide +kernel
theorem dX11_feed_78 : decode cX11_feed 78 = .ok (.iload_n 2, 1) := by decide +kernel
theorem dX11_feed_79 : decode cX11_feed 79 = .ok (.invokevirtual 112, 3) := by decide +kernel
theorem dX11_feed_82 : decode cX11_feed 82 = .ok (.aload_n 0, 1) := by decide +kernel
theorem dX11_feed_83 : decode cX11_feed 83 = .ok (.getfield 10, 3) := by decide +kernel
theorem dX11_feed_86 : decode cX11_feed 86 = .ok (.iload_n 3, 1) := by decide +kernel
theorem dX11_feed_87 : decode cX11_feed 87 = .ok (.invokevirtual 112, 3) := by decide +kernel
theorem dX11_feed_90 : decode cX11_feed 90 = .ok (.aload_n 0, 1) := by decide +kernel
theorem dX11_feed_91 : decode cX11_feed 91 = .ok (.getfield 10, 3) := by decide +kernel
theorem dX11_feed_94 : decode cX11_feed 94 = .ok (.iload 4, 2) := by decide +kernel
theorem dX11_feed_96 : decode cX11_feed 96 = .ok (.invokevirtual 112, 3) := by decide +kernel
theorem dX11_feed_99 : decode cX11_feed 99 = .ok (.aload_n 0, 1) := by decide +kernel
theorem dX11_feed_100 : decode cX11_feed 100 = .ok (.getfield 10, 3) := by decide +kernel
theorem dX11_feed_103 : decode cX11_feed 103 = .ok (.iload 5, 2) := by decide +kernel
theorem dX11_feed_105 : decode cX11_feed 105 = .ok (.invokevirtual 112, 3) := by decide +kernel
theorem dX11_feed_108 : decode cX11_feed 108 = .ok (.aload_n 0, 1) := by decide +kernel
theorem dX11_feed_109 : decode cX11_feed 109 = .ok (.getfield 10, 3) := by decide +kernel
theorem dX11_feed_112 : decode cX11_feed 112 = .ok (.getfield 109, 3) := by decide +kernel
theorem dX11_feed_115 : decode cX11_feed 115 = .ok (.ireturn, 1) := by decide +kernel
theorem lk_TrapCorner_10 : LK "TrapCorner" 10 [11] 0 := by
  intro ci hci
  have hci := List.mem_singleton.mp hci
  subst hci
  exact ⟨RX11, TX11, 19, "TrapCorner", ck_11, by decide, tw_365, Or.inl rfl⟩
theorem vk_TrapCorner_105 : VK "TrapCorner" 105 [9] yX9_bytesIn 1 := ⟨tw_427, tw_428, tw_2, ⟨by decide, by decide⟩, by decide +kernel, fun ci hci => by
  have hci := List.mem_singleton.mp hci
  subst hci
  exact ⟨_, rfl, tw_429⟩⟩
theorem lk_TrapCorner_109 : LK "TrapCorner" 109 [9] 1 := by
  intro ci hci
  have hci := List.mem_singleton.mp hci
  subst hci
  exact ⟨RX9, TX9, 2, "TrapCorner$Tape", ck_9, by decide, tw_44, Or.inl rfl⟩
theorem vk_TrapCorner_112 : VK "TrapCorner" 112 [9] yX9_put 1 := ⟨tw_431, tw_432, tw_2, ⟨by decide, by decide⟩, by decide +kernel, fun ci hci => by
  have hci := List.mem_singleton.mp hci
  subst hci
  exact ⟨_, rfl, tw_433⟩⟩
section
variable {g : GG} {p : Program} {l : Launch} {e : Env} {R : Room} {s : State} {m : MethodId} {args : Array Value} {below : List Frame} {meth : Method} {c : Code} {n0 z0 : Nat}
def f_X11_feed_0  (o0 : Nat) (x1 : Int32) (x2 : Int32) (x3 : Int32) (x4 : Int32) (x5 : Int32) (h : AH) : Option (Int32 × AH) :=
  (gR [11] h o0 0).bind fun v1 =>
  (isC [9] h v1).bind fun _ =>
  cN (f_X9_bytesIn v1 x1 h) h fun v3 h4 =>
  (gR [11] h4 o0 0).bind fun v8 =>
  (isC [9] h4 v8).bind fun _ =>
  cN (f_X9_bytesIn v8 x2 h4) h4 fun v10 h11 =>
  (gR [11] h11 o0 0).bind fun v15 =>
  (isC [9] h11 v15).bind fun _ =>
  cN (f_X9_bytesIn v15 x3 h11) h11 fun v17 h18 =>
  (gR [11] h18 o0 0).bind fun v22 =>
  (isC [9] h18 v22).bind fun _ =>
  cN (f_X9_bytesIn v22 x4 h18) h18 fun v24 h25 =>
  (gR [11] h25 o0 0).bind fun v29 =>
  (isC [9] h25 v29).bind fun _ =>
  cN (f_X9_bytesIn v29 x5 h25) h25 fun v31 h32 =>
  (gR [11] h32 o0 0).bind fun v36 =>
  (gI [9] h32 v36 1).bind fun v38 =>
  if (v38 + ((((v3 + v10) + v17) + v24) + v31)) ≤ 240 then
    (gR [11] h32 o0 0).bind fun v41 =>
    (isC [9] h32 v41).bind fun _ =>
    cN (f_X9_put v41 x1 h32) h32 fun _ h44 =>
    (gR [11] h44 o0 0).bind fun v48 =>
    (isC [9] h44 v48).bind fun _ =>
    cN (f_X9_put v48 x2 h44) h44 fun _ h51 =>
    (gR [11] h51 o0 0).bind fun v55 =>
    (isC [9] h51 v55).bind fun _ =>
    cN (f_X9_put v55 x3 h51) h51 fun _ h58 =>
    (gR [11] h58 o0 0).bind fun v62 =>
    (isC [9] h58 v62).bind fun _ =>
    cN (f_X9_put v62 x4 h58) h58 fun _ h65 =>
    (gR [11] h65 o0 0).bind fun v69 =>
    (isC [9] h65 v69).bind fun _ =>
    cN (f_X9_put v69 x5 h65) h65 fun _ h72 =>
    (gR [11] h72 o0 0).bind fun v76 =>
    (gI [9] h72 v76 1).bind fun v78 =>
    some (v78, h72)
  else
    some ((-1), h32)
set_option maxHeartbeats 1000000 in
theorem w_X11_feed_0 (X : Cx g p s m args meth c cX11_feed 7 "TrapCorner") (hR : 2 ≤ R.frames ∧ 128 ≤ R.locals) (hr : meth.sig.returnType = (some (.int))) {res : Int32 × AH} : ∀ (o0 : Nat) (x1 : Int32) (x2 : Int32) (x3 : Int32) (x4 : Int32) (x5 : Int32) (h : AH) (ls : Array Slot) (H : Heap) (locs : List Loc), f_X11_feed_0 o0 x1 x2 x3 x4 x5 h = some res → Iv g s n0 z0 h H locs 0 0 → lv_has ls 7 [(0, .ref (rfG g o0)), (1, .int x1), (2, .int x2), (3, .int x3), (4, .int x4), (5, .int x5)] → W p l e R s m args below meth c H locs 0 0 (MQ below (QG g (some (.int res.1)) res.2) args s 0 0 (AG g)) (F0 m 0 ls []) := by
  have hx := X.1
  have hb := X.2.1
  intro o0 x1 x2 x3 x4 x5 h ls H locs hf I hl
  unfold f_X11_feed_0 at hf
  refine lv_aload_n hx hb dX11_feed_0 rfl (lv_at hl 0 rfl) ?_
  obtain ⟨v1, e2, hf⟩ := Option.bind_eq_some_iff.mp hf
  refine r_gR X I e2 lk_TrapCorner_10 dX11_feed_1 ?_
  refine lv_iload_n hx hb dX11_feed_4 rfl (lv_at hl 1 rfl) ?_
  obtain ⟨_, g7, hf⟩ := Option.bind_eq_some_iff.mp hf
  obtain ⟨v3, h4, e5, z6, hf⟩ := cN_spec hf
  refine k_Vi (As := [.int x1]) (rest := []) X I (c_X9_bytesIn l g v1 x1 e5) z6 g7 vk_TrapCorner_105 tw_430 ⟨Nat.le_trans (by decide) hR.1, Nat.le_trans (by decide) hR.2⟩ ⟨Nat.zero_le _, Nat.zero_le _⟩ rfl hl.1 rfl (Nat.le_of_ble_eq_true rfl) dX11_feed_5 (fun H locs I => ?_)
  refine lv_aload_n hx hb dX11_feed_8 rfl (lv_at hl 0 rfl) ?_
  obtain ⟨v8, e9, hf⟩ := Option.bind_eq_some_iff.mp hf
  refine r_gR X I e9 lk_TrapCorner_10 dX11_feed_9 ?_
  refine lv_iload_n hx hb dX11_feed_12 rfl (lv_at hl 2 rfl) ?_
  obtain ⟨_, g14, hf⟩ := Option.bind_eq_some_iff.mp hf
  obtain ⟨v10, h11, e12, z13, hf⟩ := cN_spec hf
  refine k_Vi (As := [.int x2]) (rest := [.int v3]) X I (c_X9_bytesIn l g v8 x2 e12) z13 g14 vk_TrapCorner_105 tw_430 ⟨Nat.le_trans (by decide) hR.1, Nat.le_trans (by decide) hR.2⟩ ⟨Nat.zero_le _, Nat.zero_le _⟩ rfl hl.1 rfl (Nat.le_of_ble_eq_true rfl) dX11_feed_13 (fun H locs I => ?_)
  refine lv_iadd hx hb dX11_feed_16 ?_
  refine lv_aload_n hx hb dX11_feed_17 rfl (lv_at hl 0 rfl) ?_
  obtain ⟨v15, e16, hf⟩ := Option.bind_eq_some_iff.mp hf
  refine r_gR X I e16 lk_TrapCorner_10 dX11_feed_18 ?_
  refine lv_iload_n hx hb dX11_feed_21 rfl (lv_at hl 3 rfl) ?_
  obtain ⟨_, g21, hf⟩ := Option.bind_eq_some_iff.mp hf
  obtain ⟨v17, h18, e19, z20, hf⟩ := cN_spec hf
  refine k_Vi (As := [.int x3]) (rest := [.int (v3 + v10)]) X I (c_X9_bytesIn l g v15 x3 e19) z20 g21 vk_TrapCorner_105 tw_430 ⟨Nat.le_trans (by decide) hR.1, Nat.le_trans (by decide) hR.2⟩ ⟨Nat.zero_le _, Nat.zero_le _⟩ rfl hl.1 rfl (Nat.le_of_ble_eq_true rfl) dX11_feed_22 (fun H locs I => ?_)
  refine lv_iadd hx hb dX11_feed_25 ?_
  refine lv_aload_n hx hb dX11_feed_26 rfl (lv_at hl 0 rfl) ?_
  obtain ⟨v22, e23, hf⟩ := Option.bind_eq_some_iff.mp hf
  refine r_gR X I e23 lk_TrapCorner_10 dX11_feed_27 ?_
  refine lv_iload hx hb dX11_feed_30 (lv_at hl 4 rfl) ?_
  obtain ⟨_, g28, hf⟩ := Option.bind_eq_some_iff.mp hf
  obtain ⟨v24, h25, e26, z27, hf⟩ := cN_spec hf
  refine k_Vi (As := [.int x4]) (rest := [.int ((v3 + v10) + v17)]) X I (c_X9_bytesIn l g v22 x4 e26) z27 g28 vk_TrapCorner_105 tw_430 ⟨Nat.le_trans (by decide) hR.1, Nat.le_trans (by decide) hR.2⟩ ⟨Nat.zero_le _, Nat.zero_le _⟩ rfl hl.1 rfl (Nat.le_of_ble_eq_true rfl) dX11_feed_32 (fun H locs I => ?_)
  refine lv_iadd hx hb dX11_feed_35 ?_
  refine lv_aload_n hx hb dX11_feed_36 rfl (lv_at hl 0 rfl) ?_
  obtain ⟨v29, e30, hf⟩ := Option.bind_eq_some_iff.mp hf
  refine r_gR X I e30 lk_TrapCorner_10 dX11_feed_37 ?_
  refine lv_iload hx hb dX11_feed_40 (lv_at hl 5 rfl) ?_
  obtain ⟨_, g35, hf⟩ := Option.bind_eq_some_iff.mp hf
  obtain ⟨v31, h32, e33, z34, hf⟩ := cN_spec hf
  refine k_Vi (As := [.int x5]) (rest := [.int (((v3 + v10) + v17) + v24)]) X I (c_X9_bytesIn l g v29 x5 e33) z34 g35 vk_TrapCorner_105 tw_430 ⟨Nat.le_trans (by decide) hR.1, Nat.le_trans (by decide) hR.2⟩ ⟨Nat.zero_le _, Nat.zero_le _⟩ rfl hl.1 rfl (Nat.le_of_ble_eq_true rfl) dX11_feed_42 (fun H locs I => ?_)
  refine lv_iadd hx hb dX11_feed_45 ?_
  refine lv_istore (lv' := [(6, .int ((((v3 + v10) + v17) + v24) + v31)), (0, .ref (rfG g o0)), (1, .int x1), (2, .int x2), (3, .int x3), (4, .int x4), (5, .int x5)]) hx hb dX11_feed_46 hl (by decide) rfl (fun ls hl => ?_)
  refine lv_aload_n hx hb dX11_feed_48 rfl (lv_at hl 1 rfl) ?_
  obtain ⟨v36, e37, hf⟩ := Option.bind_eq_some_iff.mp hf
  refine r_gR X I e37 lk_TrapCorner_10 dX11_feed_49 ?_
  obtain ⟨v38, e39, hf⟩ := Option.bind_eq_some_iff.mp hf
  refine r_gI X I e39 lk_TrapCorner_109 dX11_feed_52 ?_
  refine lv_iload hx hb dX11_feed_55 (lv_at hl 0 rfl) ?_
  refine lv_iadd hx hb dX11_feed_57 ?_
  refine lv_sipush (v := 240) hx hb dX11_feed_58 (by decide) ?_
  refine lv_icmp_le (tgt := 66) hx hb dX11_feed_61 (by decide) (fun c40 => ?_) (fun c40 => ?_)
  · rw [if_pos c40] at hf
    refine lv_aload_n hx hb dX11_feed_66 rfl (lv_at hl 1 rfl) ?_
    obtain ⟨v41, e42, hf⟩ := Option.bind_eq_some_iff.mp hf
    refine r_gR X I e42 lk_TrapCorner_10 dX11_feed_67 ?_
    refine lv_iload_n hx hb dX11_feed_70 rfl (lv_at hl 2 rfl) ?_
    obtain ⟨_, g47, hf⟩ := Option.bind_eq_some_iff.mp hf
    obtain ⟨⟨⟩, h44, e45, z46, hf⟩ := cN_spec hf
    refine k_Vv (As := [.int x1]) (rest := []) X I (c_X9_put l g v41 x1 e45) z46 g47 vk_TrapCorner_112 tw_434 ⟨Nat.le_trans (by decide) hR.1, Nat.le_trans (by decide) hR.2⟩ ⟨Nat.zero_le _, Nat.zero_le _⟩ rfl hl.1 rfl (Nat.le_of_ble_eq_true rfl) dX11_feed_71 (fun H locs I => ?_)
    refine lv_aload_n hx hb dX11_feed_74 rfl (lv_at hl 1 rfl) ?_
    obtain ⟨v48, e49, hf⟩ := Option.bind_eq_some_iff.mp hf
    refine r_gR X I e49 lk_TrapCorner_10 dX11_feed_75 ?_
    refine lv_iload_n hx hb dX11_feed_78 rfl (lv_at hl 3 rfl) ?_
    obtain ⟨_, g54, hf⟩ := Option.bind_eq_some_iff.mp hf
    obtain ⟨⟨⟩, h51, e52, z53, hf⟩ := cN_spec hf
    refine k_Vv (As := [.int x2]) (rest := []) X I (c_X9_put l g v48 x2 e52) z53 g54 vk_TrapCorner_112 tw_434 ⟨Nat.le_trans (by decide) hR.1, Nat.le_trans (by decide) hR.2⟩ ⟨Nat.zero_le _, Nat.zero_le _⟩ rfl hl.1 rfl (Nat.le_of_ble_eq_true rfl) dX11_feed_79 (fun H locs I => ?_)
    refine lv_aload_n hx hb dX11_feed_82 rfl (lv_at hl 1 rfl) ?_
    obtain ⟨v55, e56, hf⟩ := Option.bind_eq_some_iff.mp hf
    refine r_gR X I e56 lk_TrapCorner_10 dX11_feed_83 ?_
    refine lv_iload_n hx hb dX11_feed_86 rfl (lv_at hl 4 rfl) ?_
    obtain ⟨_, g61, hf⟩ := Option.bind_eq_some_iff.mp hf
    obtain ⟨⟨⟩, h58, e59, z60, hf⟩ := cN_spec hf
    refine k_Vv (As := [.int x3]) (rest := []) X I (c_X9_put l g v55 x3 e59) z60 g61 vk_TrapCorner_112 tw_434 ⟨Nat.le_trans (by decide) hR.1, Nat.le_trans (by decide) hR.2⟩ ⟨Nat.zero_le _, Nat.zero_le _⟩ rfl hl.1 rfl (Nat.le_of_ble_eq_true rfl) dX11_feed_87 (fun H locs I => ?_)
    refine lv_aload_n hx hb dX11_feed_90 rfl (lv_at hl 1 rfl) ?_
    obtain ⟨v62, e63, hf⟩ := Option.bind_eq_some_iff.mp hf
    refine r_gR X I e63 lk_TrapCorner_10 dX11_feed_91 ?_
    refine lv_iload hx hb dX11_feed_94 (lv_at hl 5 rfl) ?_
    obtain ⟨_, g68, hf⟩ := Option.bind_eq_some_iff.mp hf
    obtain ⟨⟨⟩, h65, e66, z67, hf⟩ := cN_spec hf
    refine k_Vv (As := [.int x4]) (rest := []) X I (c_X9_put l g v62 x4 e66) z67 g68 vk_TrapCorner_112 tw_434 ⟨Nat.le_trans (by decide) hR.1, Nat.le_trans (by decide) hR.2⟩ ⟨Nat.zero_le _, Nat.zero_le _⟩ rfl hl.1 rfl (Nat.le_of_ble_eq_true rfl) dX11_feed_96 (fun H locs I => ?_)
    refine lv_aload_n hx hb dX11_feed_99 rfl (lv_at hl 1 rfl) ?_
    obtain ⟨v69, e70, hf⟩ := Option.bind_eq_some_iff.mp hf
    refine r_gR X I e70 lk_TrapCorner_10 dX11_feed_100 ?_
    refine lv_iload hx hb dX11_feed_103 (lv_at hl 6 rfl) ?_
    obtain ⟨_, g75, hf⟩ := Option.bind_eq_some_iff.mp hf
    obtain ⟨⟨⟩, h72, e73, z74, hf⟩ := cN_spec hf
    refine k_Vv (As := [.int x5]) (rest := []) X I (c_X9_put l g v69 x5 e73) z74 g75 vk_TrapCorner_112 tw_434 ⟨Nat.le_trans (by decide) hR.1, Nat.le_trans (by decide) hR.2⟩ ⟨Nat.zero_le _, Nat.zero_le _⟩ rfl hl.1 rfl (Nat.le_of_ble_eq_true rfl) dX11_feed_105 (fun H locs I => ?_)
    refine lv_aload_n hx hb dX11_feed_108 rfl (lv_at hl 1 rfl) ?_
    obtain ⟨v76, e77, hf⟩ := Option.bind_eq_some_iff.mp hf
    refine r_gR X I e77 lk_TrapCorner_10 dX11_feed_109 ?_
    obtain ⟨v78, e79, hf⟩ := Option.bind_eq_some_iff.mp hf
    refine r_gI X I e79 lk_TrapCorner_109 dX11_feed_112 ?_
    cases hf
    exact k_ri X I hr dX11_feed_115
  · rw [if_neg c40] at hf
    refine lv_iconst (v := (-1)) hx hb dX11_feed_64 (by decide) ?_
    cases hf
    exact k_ri X I hr dX11_feed_65
def f_X11_feed (o0 : Nat) (x1 : Int32) (x2 : Int32) (x3 : Int32) (x4 : Int32) (x5 : Int32) (h : AH) : Option (Int32 × AH) := f_X11_feed_0 o0 x1 x2 x3 x4 x5 h
end
theorem c_X11_feed (l : Launch) (g : GG) (o0 : Nat) (x1 : Int32) (x2 : Int32) (x3 : Int32) (x4 : Int32) (x5 : Int32) {h : AH} {res : Int32 × AH} (hf : f_X11_feed o0 x1 x2 x3 x4 x5 h = some res) : CM l g yX11_feed cX11_feed 7 (some (.int)) 2 128 0 0 [.ref (rfG g o0), .int x1, .int x2, .int x3, .int x4, .int x5] h (some (.int res.1)) res.2 :=
  k_body (by decide) (Nat.le_of_ble_eq_true rfl) (fun p e s m below meth c R ls hR hr X I hl => w_X11_feed_0 X ⟨Nat.le_of_eq hR.1.symm, Nat.le_of_eq hR.2.1.symm⟩ hr o0 x1 x2 x3 x4 x5 h ls s.heap [] hf I (lv_sub hl [0, 1, 2, 3, 4, 5] rfl))
/-! TrapCorner.end(I)Z -/
theorem dX11_end_0 : decode cX11_end 0 = .ok (.iload_n 1, 1) := by decide +kernel
theorem dX11_end_1 : decode cX11_end 1 = .ok (.ifCond .lt 14, 3) := by decide +kernel
theorem dX11_end_4 : decode cX11_end 4 = .ok (.iload_n 1, 1) := by decide +kernel
theorem dX11_end_5 : decode cX11_end 5 = .ok (.aload_n 0, 1) := by decide +kernel
theorem dX11_end_6 : decode cX11_end 6 = .ok (.getfield 10, 3) := by decide +kernel
theorem dX11_end_9 : decode cX11_end 9 = .ok (.getfield 109, 3) := by decide +kernel
theorem dX11_end_12 : decode cX11_end 12 = .ok (.if_icmp .le 5, 3) := by decide +kernel
theorem dX11_end_15 : decode cX11_end 15 = .ok (.iconst 0, 1) := by decide +kernel
theorem dX11_end_16 : decode cX11_end 16 = .ok (.ireturn, 1) := by decide +kernel
theorem dX11_end_17 : decode cX11_end 17 = .ok (.aload_n 0, 1) := by decide +kernel
theorem dX11_end_18 : decode cX11_end 18 = .ok (.getfield 10, 3) := by decide +kernel
theorem dX11_end_21 : decode cX11_end 21 = .ok (.iload_n 1, 1) := by decide +kernel
theorem dX11_end_22 : decode cX11_end 22 = .ok (.putfield 109, 3) := by decide +kernel
theorem dX11_end_25 : decode cX11_end 25 = .ok (.iconst 1, 1) := by decide +kernel
theorem dX11_end_26 : decode cX11_end 26 = .ok (.ireturn, 1) := by decide +kernel
theorem lp_TrapCorner_109 : LKP "TrapCorner" 109 [9] 1 (.int) := by
  intro ci hci
  have hci := List.mem_singleton.mp hci
  subst hci
  exact ⟨RX9, TX9, 2, "TrapCorner$Tape", ck_9, by decide, tw_44, Or.inl rfl, rfl, by decide +kernel⟩
section
variable {g : GG} {p : Program} {l : Launch} {e : Env} {R : Room} {s : State} {m : MethodId} {args : Array Value} {below : List Frame} {meth : Method} {c : Code} {n0 z0 : Nat}
def f_X11_end_0  (o0 : Nat) (x1 : Int32) (h : AH) : Option (Int32 × AH) :=
  if x1 < 0 then
    some (0, h)
  else
    (gR [11] h o0 0).bind fun v2 =>
    (gI [9] h v2 1).bind fun v4 =>
    if x1 ≤ v4 then
      (gR [11] h o0 0).bind fun v7 =>
      (pV [9] h v7 1 (.int x1)).bind fun h9 =>
      some (1, h9)
    else
      some (0, h)
set_option maxHeartbeats 1000000 in
theorem w_X11_end_0 (X : Cx g p s m args meth c cX11_end 2 "TrapCorner") (hR : 1 ≤ R.frames ∧ 64 ≤ R.locals) (hr : meth.sig.returnType = (some (.boolean))) {res : Int32 × AH} : ∀ (o0 : Nat) (x1 : Int32) (h : AH) (ls : Array Slot) (H : Heap) (locs : List Loc), f_X11_end_0 o0 x1 h = some res → Iv g s n0 z0 h H locs 0 0 → lv_has ls 2 [(0, .ref (rfG g o0)), (1, .int x1)] → W p l e R s m args below meth c H locs 0 0 (MQ below (QG g (some (.int res.1)) res.2) args s 0 0 (AG g)) (F0 m 0 ls []) := by
  have hx := X.1
  have hb := X.2.1
  intro o0 x1 h ls H locs hf I hl
  unfold f_X11_end_0 at hf
  refine lv_iload_n hx hb dX11_end_0 rfl (lv_at hl 1 rfl) ?_
  refine lv_if_lt (tgt := 15) hx hb dX11_end_1 (by decide) (fun c1 => ?_) (fun c1 => ?_)
  · rw [if_pos c1] at hf
    refine lv_iconst (v := 0) hx hb dX11_end_15 (by decide) ?_
    cases hf
    exact k_rz X I hr (Or.inl rfl) dX11_end_16
  · rw [if_neg c1] at hf
    refine lv_iload_n hx hb dX11_end_4 rfl (lv_at hl 1 rfl) ?_
    refine lv_aload_n hx hb dX11_end_5 rfl (lv_at hl 0 rfl) ?_
    obtain ⟨v2, e3, hf⟩ := Option.bind_eq_some_iff.mp hf
    refine r_gR X I e3 lk_TrapCorner_10 dX11_end_6 ?_
    obtain ⟨v4, e5, hf⟩ := Option.bind_eq_some_iff.mp hf
    refine r_gI X I e5 lk_TrapCorner_109 dX11_end_9 ?_
    refine lv_icmp_le (tgt := 17) hx hb dX11_end_12 (by decide) (fun c6 => ?_) (fun c6 => ?_)
    · rw [if_pos c6] at hf
      refine lv_aload_n hx hb dX11_end_17 rfl (lv_at hl 0 rfl) ?_
      obtain ⟨v7, e8, hf⟩ := Option.bind_eq_some_iff.mp hf
      refine r_gR X I e8 lk_TrapCorner_10 dX11_end_18 ?_
      refine lv_iload_n hx hb dX11_end_21 rfl (lv_at hl 1 rfl) ?_
      obtain ⟨h9, e10, hf⟩ := Option.bind_eq_some_iff.mp hf
      refine r_pI X I e10 lp_TrapCorner_109 dX11_end_22 (fun H locs I => ?_)
      refine lv_iconst (v := 1) hx hb dX11_end_25 (by decide) ?_
      cases hf
      exact k_rz X I hr (Or.inr rfl) dX11_end_26
    · rw [if_neg c6] at hf
      refine lv_iconst (v := 0) hx hb dX11_end_15 (by decide) ?_
      cases hf
      exact k_rz X I hr (Or.inl rfl) dX11_end_16
def f_X11_end (o0 : Nat) (x1 : Int32) (h : AH) : Option (Int32 × AH) := f_X11_end_0 o0 x1 h
end
theorem c_X11_end (l : Launch) (g : GG) (o0 : Nat) (x1 : Int32) {h : AH} {res : Int32 × AH} (hf : f_X11_end o0 x1 h = some res) : CM l g yX11_end cX11_end 2 (some (.boolean)) 1 64 0 0 [.ref (rfG g o0), .int x1] h (some (.int res.1)) res.2 :=
  k_body (by decide) (Nat.le_of_ble_eq_true rfl) (fun p e s m below meth c R ls hR hr X I hl => w_X11_end_0 X ⟨Nat.le_of_eq hR.1.symm, Nat.le_of_eq hR.2.1.symm⟩ hr o0 x1 h ls s.heap [] hf I (lv_sub hl [0, 1] rfl))
/-! TrapCorner.readerOf(I)LTrapCorner$Reader; -/
theorem dX11_readerOf_0 : decode cX11_readerOf 0 = .ok (.iload_n 1, 1) := by decide +kernel
theorem dX11_readerOf_1 : decode cX11_readerOf 1 = .ok (.tableswitch 42 0 2 #[27, 32, 37], 27) := by decide +kernel
theorem dX11_readerOf_28 : decode cX11_readerOf 28 = .ok (.aload_n 0, 1) := by decide +kernel
theorem dX11_readerOf_29 : decode cX11_readerOf 29 = .ok (.getfield 21, 3) := by decide +kernel
theorem dX11_readerOf_32 : decode cX11_readerOf 32 = .ok (.areturn, 1) := by decide +kernel
theorem dX11_readerOf_33 : decode cX11_readerOf 33 = .ok (.aload_n 0, 1) := by decide +kernel
theorem dX11_readerOf_34 : decode cX11_readerOf 34 = .ok (.getfield 28, 3) := by decide +kernel
theorem dX11_readerOf_37 : decode cX11_readerOf 37 = .ok (.areturn, 1) := by decide +kernel
theorem dX11_readerOf_38 : decode cX11_readerOf 38 = .ok (.aload_n 0, 1) := by decide +kernel
theorem dX11_readerOf_39 : decode cX11_readerOf 39 = .ok (.getfield 35, 3) := by decide +kernel
theorem dX11_readerOf_42 : decode cX11_readerOf 42 = .ok (.areturn, 1) := by decide +kernel
theorem dX11_readerOf_43 : decode cX11_readerOf 43 = .ok (.aconst_null, 1) := by decide +kernel
theorem dX11_readerOf_44 : decode cX11_readerOf 44 = .ok (.areturn, 1) := by decide +kernel
theorem lk_TrapCorner_21 : LK "TrapCorner" 21 [11] 1 := by
  intro ci hci
  have hci := List.mem_singleton.mp hci
  subst hci
  exact ⟨RX11, TX11, 19, "TrapCorner", ck_11, by decide, tw_366, Or.inl rfl⟩
theorem lk_TrapCorner_28 : LK "TrapCorner" 28 [11] 2 := by
  intro ci hci
  have hci := List.mem_singleton.mp hci
  subst hci
  exact ⟨RX11, TX11, 19, "TrapCorner", ck_11, by decide, tw_367, Or.inl rfl⟩
theorem lk_TrapCorner_35 : LK "TrapCorner" 35 [11] 3 := by
  intro ci hci
  have hci := List.mem_singleton.mp hci
  subst hci
  exact ⟨RX11, TX11, 19, "TrapCorner", ck_11, by decide, tw_368, Or.inl rfl⟩
section
variable {g : GG} {p : Program} {l : Launch} {e : Env} {R : Room} {s : State} {m : MethodId} {args : Array Value} {below : List Frame} {meth : Method} {c : Code} {n0 z0 : Nat}
def f_X11_readerOf_0  (o0 : Nat) (x1 : Int32) (h : AH) : Option (Option Nat × AH) :=
  if x1 = 0 then
    (gR [11] h o0 1).bind fun v2 =>
    some (some v2, h)
  else
    if x1 = 1 then
      (gR [11] h o0 2).bind fun v5 =>
      some (some v5, h)
    else
      if x1 = 2 then
        (gR [11] h o0 3).bind fun v8 =>
        some (some v8, h)
      else
        some (none, h)
set_option maxHeartbeats 1000000 in
theorem w_X11_readerOf_0 (X : Cx g p s m args meth c cX11_readerOf 2 "TrapCorner") (hR : 1 ≤ R.frames ∧ 64 ≤ R.locals) (hr : meth.sig.returnType = (some (.object "TrapCorner$Reader"))) {res : Option Nat × AH} : ∀ (o0 : Nat) (x1 : Int32) (h : AH) (ls : Array Slot) (H : Heap) (locs : List Loc), f_X11_readerOf_0 o0 x1 h = some res → Iv g s n0 z0 h H locs 0 0 → lv_has ls 2 [(0, .ref (rfG g o0)), (1, .int x1)] → W p l e R s m args below meth c H locs 0 0 (MQ below (QG g (some (qV res.1)) res.2) args s 0 0 (AG g)) (F0 m 0 ls []) := by
  have hx := X.1
  have hb := X.2.1
  intro o0 x1 h ls H locs hf I hl
  unfold f_X11_readerOf_0 at hf
  refine lv_iload_n hx hb dX11_readerOf_0 rfl (lv_at hl 1 rfl) ?_
  by_cases c1 : x1 = 0
  · rw [if_pos c1] at hf
    refine lv_tableIn (tgt := 28) hx hb dX11_readerOf_1 (by rw [c1]; decide) (by rw [c1]; decide) (by rw [c1]; rfl) (by decide) ?_
    refine lv_aload_n hx hb dX11_readerOf_28 rfl (lv_at hl 0 rfl) ?_
    obtain ⟨v2, e3, hf⟩ := Option.bind_eq_some_iff.mp hf
    refine r_gR X I e3 lk_TrapCorner_21 dX11_readerOf_29 ?_
    cases hf
    exact k_rr X I hr (by first | exact Or.inl ⟨_, rfl⟩ | exact Or.inr ⟨_, rfl⟩) dX11_readerOf_32
  · rw [if_neg c1] at hf
    by_cases c4 : x1 = 1
    · rw [if_pos c4] at hf
      refine lv_tableIn (tgt := 33) hx hb dX11_readerOf_1 (by rw [c4]; decide) (by rw [c4]; decide) (by rw [c4]; rfl) (by decide) ?_
      refine lv_aload_n hx hb dX11_readerOf_33 rfl (lv_at hl 0 rfl) ?_
      obtain ⟨v5, e6, hf⟩ := Option.bind_eq_some_iff.mp hf
      refine r_gR X I e6 lk_TrapCorner_28 dX11_readerOf_34 ?_
      cases hf
      exact k_rr X I hr (by first | exact Or.inl ⟨_, rfl⟩ | exact Or.inr ⟨_, rfl⟩) dX11_readerOf_37
    · rw [if_neg c4] at hf
      by_cases c7 : x1 = 2
      · rw [if_pos c7] at hf
        refine lv_tableIn (tgt := 38) hx hb dX11_readerOf_1 (by rw [c7]; decide) (by rw [c7]; decide) (by rw [c7]; rfl) (by decide) ?_
        refine lv_aload_n hx hb dX11_readerOf_38 rfl (lv_at hl 0 rfl) ?_
        obtain ⟨v8, e9, hf⟩ := Option.bind_eq_some_iff.mp hf
        refine r_gR X I e9 lk_TrapCorner_35 dX11_readerOf_39 ?_
        cases hf
        exact k_rr X I hr (by first | exact Or.inl ⟨_, rfl⟩ | exact Or.inr ⟨_, rfl⟩) dX11_readerOf_42
      · rw [if_neg c7] at hf
        refine lv_tableOut (tgt := 43) hx hb dX11_readerOf_1 (sw_out (fun k k1 k2 => by rcases (show k = 0 ∨ k = 1 ∨ k = 2 by omega) with rfl | rfl | rfl <;> assumption)) (by decide) ?_
        refine lv_null hx hb dX11_readerOf_43 ?_
        cases hf
        exact k_rn X I hr (by first | exact Or.inl ⟨_, rfl⟩ | exact Or.inr ⟨_, rfl⟩) dX11_readerOf_44
def f_X11_readerOf (o0 : Nat) (x1 : Int32) (h : AH) : Option (Option Nat × AH) := f_X11_readerOf_0 o0 x1 h
end
theorem c_X11_readerOf (l : Launch) (g : GG) (o0 : Nat) (x1 : Int32) {h : AH} {res : Option Nat × AH} (hf : f_X11_readerOf o0 x1 h = some res) : CM l g yX11_readerOf cX11_readerOf 2 (some (.object "TrapCorner$Reader")) 1 64 0 0 [.ref (rfG g o0), .int x1] h (some (qV res.1)) res.2 :=
  k_body (by decide) (Nat.le_of_ble_eq_true rfl) (fun p e s m below meth c R ls hR hr X I hl => w_X11_readerOf_0 X ⟨Nat.le_of_eq hR.1.symm, Nat.le_of_eq hR.2.1.symm⟩ hr o0 x1 h ls s.heap [] hf I (lv_sub hl [0, 1] rfl))
/-! TrapCorner.timesOfAll()I -/
theorem dX11_timesOfAll_0 : decode cX11_timesOfAll 0 = .ok (.iconst 0, 1) := by decide +kernel
theorem dX11_timesOfAll_1 : decode cX11_timesOfAll 1 = .ok (.istore_n 1, 1) := by decide +kernel
theorem dX11_timesOfAll_2 : decode cX11_timesOfAll 2 = .ok (.iconst 0, 1) := by decide +kernel
theorem dX11_timesOfAll_3 : decode cX11_timesOfAll 3 = .ok (.istore_n 2, 1) := by decide +kernel
theorem dX11_timesOfAll_4 : decode cX11_timesOfAll 4 = .ok (.iload_n 2, 1) := by decide +kernel
theorem dX11_timesOfAll_5 : decode cX11_timesOfAll 5 = .ok (.aload_n 0, 1) := by decide +kernel
theorem dX11_timesOfAll_6 : decode cX11_timesOfAll 6 = .ok (.getfield 42, 3) := by decide +kernel
theorem dX11_timesOfAll_9 : decode cX11_timesOfAll 9 = .ok (.getfield 156, 3) := by decide +kernel
theorem dX11_timesOfAll_12 : decode cX11_timesOfAll 12 = .ok (.if_icmp .ge 21, 3) := by decide +kernel
theorem dX11_timesOfAll_15 : decode cX11_timesOfAll 15 = .ok (.iload_n 1, 1) := by decide +kernel
theorem dX11_timesOfAll_16 : decode cX11_timesOfAll 16 = .ok (.aload_n 0, 1) := by decide +kernel
theorem dX11_timesOfAll_17 : decode cX11_timesOfAll 17 = .ok (.getfield 49, 3) := by decide +kernel
theorem dX11_timesOfAll_20 : decode cX11_timesOfAll 20 = .ok (.getfield 222, 3) := by decide +kernel
theorem dX11_timesOfAll_23 : decode cX11_timesOfAll 23 = .ok (.iload_n 2, 1) := by decide +kernel
theorem dX11_timesOfAll_24 : decode cX11_timesOfAll 24 = .ok (.iaload, 1) := by decide +kernel
theorem dX11_timesOfAll_25 : decode cX11_timesOfAll 25 = .ok (.iadd, 1) := by decide +kernel
theorem dX11_timesOfAll_26 : decode cX11_timesOfAll 26 = .ok (.istore_n 1, 1) := by decide +kernel
theorem dX11_timesOfAll_27 : decode cX11_timesOfAll 27 = .ok (.iinc 2 1, 3) := by decide +kernel
theorem dX11_timesOfAll_30 : decode cX11_timesOfAll 30 = .ok (.goto (-26), 3) := by decide +kernel
theorem dX11_timesOfAll_33 : decode cX11_timesOfAll 33 = .ok (.iload_n 1, 1) := by decide +kernel
theorem dX11_timesOfAll_34 : decode cX11_timesOfAll 34 = .ok (.ireturn, 1) := by decide +kernel
theorem lk_TrapCorner_42 : LK "TrapCorner" 42 [11] 4 := by
  intro ci hci
  have hci := List.mem_singleton.mp hci
  subst hci
  exact ⟨RX11, TX11, 19, "TrapCorner", ck_11, by decide, tw_369, Or.inl rfl⟩
theorem lk_TrapCorner_156 : LK "TrapCorner" 156 [10] 1 := by
  intro ci hci
  have hci := List.mem_singleton.mp hci
  subst hci
  exact ⟨RX10, TX10, 13, "TrapCorner$Town", ck_10, by decide, tw_74, Or.inl rfl⟩
theorem lk_TrapCorner_49 : LK "TrapCorner" 49 [11] 5 := by
  intro ci hci
  have hci := List.mem_singleton.mp hci
  subst hci
  exact ⟨RX11, TX11, 19, "TrapCorner", ck_11, by decide, tw_370, Or.inl rfl⟩
theorem lk_TrapCorner_222 : LK "TrapCorner" 222 [8] 3 := by
  intro ci hci
  have hci := List.mem_singleton.mp hci
  subst hci
  exact ⟨RX8, TX8, 8, "TrapCorner$State", ck_8, by decide, tw_211, Or.inl rfl⟩
section
variable {g : GG} {p : Program} {l : Launch} {e : Env} {R : Room} {s : State} {m : MethodId} {args : Array Value} {below : List Frame} {meth : Method} {c : Code} {n0 z0 : Nat}
def f_X11_timesOfAll_4  : Nat → Nat → Int32 → Int32 → AH → Option (Int32 × AH)
  | 0, _, _, _, _ => none
  | n + 1, o0, x1, x2, h =>
  (gR [11] h o0 4).bind fun v1 =>
  (gI [10] h v1 1).bind fun v3 =>
  if v3 ≤ x2 then
    some (x1, h)
  else
    (gR [11] h o0 5).bind fun v6 =>
    (gR [8] h v6 3).bind fun v8 =>
    (aI 0 h v8 x2).bind fun v10 =>
    f_X11_timesOfAll_4  n o0 (x1 + v10) (x2 + 1) h
set_option maxHeartbeats 1000000 in
theorem w_X11_timesOfAll_4 (X : Cx g p s m args meth c cX11_timesOfAll 3 "TrapCorner") (hR : 1 ≤ R.frames ∧ 64 ≤ R.locals) (hr : meth.sig.returnType = (some (.int))) {res : Int32 × AH} : ∀ (n : Nat) (o0 : Nat) (x1 : Int32) (x2 : Int32) (h : AH) (ls : Array Slot) (H : Heap) (locs : List Loc), f_X11_timesOfAll_4 n o0 x1 x2 h = some res → Iv g s n0 z0 h H locs 0 0 → lv_has ls 3 [(0, .ref (rfG g o0)), (1, .int x1), (2, .int x2)] → W p l e R s m args below meth c H locs 0 0 (MQ below (QG g (some (.int res.1)) res.2) args s 0 0 (AG g)) (F0 m 4 ls []) := by
  have hx := X.1
  have hb := X.2.1
  intro n
  induction n with
  | zero =>
    intro o0 x1 x2 h ls H locs hf
    rw [f_X11_timesOfAll_4.eq_1] at hf
    cases hf
  | succ n ih =>
    intro o0 x1 x2 h ls H locs hf I hl
    rw [f_X11_timesOfAll_4.eq_2] at hf
    refine lv_iload_n hx hb dX11_timesOfAll_4 rfl (lv_at hl 2 rfl) ?_
    refine lv_aload_n hx hb dX11_timesOfAll_5 rfl (lv_at hl 0 rfl) ?_
    obtain ⟨v1, e2, hf⟩ := Option.bind_eq_some_iff.mp hf
    refine r_gR X I e2 lk_TrapCorner_42 dX11_timesOfAll_6 ?_
    obtain ⟨v3, e4, hf⟩ := Option.bind_eq_some_iff.mp hf
    refine r_gI X I e4 lk_TrapCorner_156 dX11_timesOfAll_9 ?_
    refine lv_icmp_ge (tgt := 33) hx hb dX11_timesOfAll_12 (by decide) (fun c5 => ?_) (fun c5 => ?_)
    · rw [if_pos c5] at hf
      refine lv_iload_n hx hb dX11_timesOfAll_33 rfl (lv_at hl 1 rfl) ?_
      cases hf
      exact k_ri X I hr dX11_timesOfAll_34
    · rw [if_neg c5] at hf
      refine lv_iload_n hx hb dX11_timesOfAll_15 rfl (lv_at hl 1 rfl) ?_
      refine lv_aload_n hx hb dX11_timesOfAll_16 rfl (lv_at hl 0 rfl) ?_
      obtain ⟨v6, e7, hf⟩ := Option.bind_eq_some_iff.mp hf
      refine r_gR X I e7 lk_TrapCorner_49 dX11_timesOfAll_17 ?_
      obtain ⟨v8, e9, hf⟩ := Option.bind_eq_some_iff.mp hf
      refine r_gR X I e9 lk_TrapCorner_222 dX11_timesOfAll_20 ?_
      refine lv_iload_n hx hb dX11_timesOfAll_23 rfl (lv_at hl 2 rfl) ?_
      obtain ⟨v10, e11, hf⟩ := Option.bind_eq_some_iff.mp hf
      refine r_aI0 X I e11 dX11_timesOfAll_24 ?_
      refine lv_iadd hx hb dX11_timesOfAll_25 ?_
      refine lv_istore_n (lv' := [(1, .int (x1 + v10)), (0, .ref (rfG g o0)), (2, .int x2)]) hx hb dX11_timesOfAll_26 rfl hl (by decide) rfl (fun ls hl => ?_)
      refine lv_iinc (v := x2 + 1) (lv' := [(2, .int (x2 + 1)), (1, .int (x1 + v10)), (0, .ref (rfG g o0))]) hx hb dX11_timesOfAll_27 hl (k := 2) rfl rfl (by decide) rfl (fun ls hl => ?_)
      refine lv_goto (tgt := 4) hx hb dX11_timesOfAll_30 (by decide) ?_
      exact ih o0 (x1 + v10) (x2 + 1) h ls H locs hf I (lv_sub hl [2, 1, 0] rfl)
def f_X11_timesOfAll_0  (o0 : Nat) (h : AH) : Option (Int32 × AH) :=
  f_X11_timesOfAll_4 fu o0 0 0 h
set_option maxHeartbeats 1000000 in
theorem w_X11_timesOfAll_0 (X : Cx g p s m args meth c cX11_timesOfAll 3 "TrapCorner") (hR : 1 ≤ R.frames ∧ 64 ≤ R.locals) (hr : meth.sig.returnType = (some (.int))) {res : Int32 × AH} : ∀ (o0 : Nat) (h : AH) (ls : Array Slot) (H : Heap) (locs : List Loc), f_X11_timesOfAll_0 o0 h = some res → Iv g s n0 z0 h H locs 0 0 → lv_has ls 3 [(0, .ref (rfG g o0))] → W p l e R s m args below meth c H locs 0 0 (MQ below (QG g (some (.int res.1)) res.2) args s 0 0 (AG g)) (F0 m 0 ls []) := by
  have hx := X.1
  have hb := X.2.1
  intro o0 h ls H locs hf I hl
  unfold f_X11_timesOfAll_0 at hf
  refine lv_iconst (v := 0) hx hb dX11_timesOfAll_0 (by decide) ?_
  refine lv_istore_n (lv' := [(1, .int 0), (0, .ref (rfG g o0))]) hx hb dX11_timesOfAll_1 rfl hl (by decide) rfl (fun ls hl => ?_)
  refine lv_iconst (v := 0) hx hb dX11_timesOfAll_2 (by decide) ?_
  refine lv_istore_n (lv' := [(2, .int 0), (1, .int 0), (0, .ref (rfG g o0))]) hx hb dX11_timesOfAll_3 rfl hl (by decide) rfl (fun ls hl => ?_)
  exact w_X11_timesOfAll_4 X hR hr fu o0 0 0 h ls H locs hf I (lv_sub hl [2, 1, 0] rfl)
def f_X11_timesOfAll (o0 : Nat) (h : AH) : Option (Int32 × AH) := f_X11_timesOfAll_0 o0 h
end
theorem c_X11_timesOfAll (l : Launch) (g : GG) (o0 : Nat) {h : AH} {res : Int32 × AH} (hf : f_X11_timesOfAll o0 h = some res) : CM l g yX11_timesOfAll cX11_timesOfAll 3 (some (.int)) 1 64 0 0 [.ref (rfG g o0)] h (some (.int res.1)) res.2 :=
  k_body (by decide) (Nat.le_of_ble_eq_true rfl) (fun p e s m below meth c R ls hR hr X I hl => w_X11_timesOfAll_0 X ⟨Nat.le_of_eq hR.1.symm, Nat.le_of_eq hR.2.1.symm⟩ hr o0 h ls s.heap [] hf I (lv_sub hl [0] rfl))
/-! TrapCorner.hasCity()Z -/
theorem dX11_hasCity_0 : decode cX11_hasCity 0 = .ok (.aload_n 0, 1) := by decide +kernel
theorem dX11_hasCity_1 : decode cX11_hasCity 1 = .ok (.getfield 42, 3) := by decide +kernel
theorem dX11_hasCity_4 : decode cX11_hasCity 4 = .ok (.getfield 156, 3) := by decide +kernel
theorem dX11_hasCity_7 : decode cX11_hasCity 7 = .ok (.ifCond .le 7, 3) := by decide +kernel
theorem dX11_hasCity_10 : decode cX11_hasCity 10 = .ok (.iconst 1, 1) := by decide +kernel
theorem dX11_hasCity_11 : decode cX11_hasCity 11 = .ok (.goto 4, 3) := by decide +kernel
theorem dX11_hasCity_14 : decode cX11_hasCity 14 = .ok (.iconst 0, 1) := by decide +kernel
theorem dX11_hasCity_15 : decode cX11_hasCity 15 = .ok (.ireturn, 1) := by decide +kernel
section
variable {g : GG} {p : Program} {l : Launch} {e : Env} {R : Room} {s : State} {m : MethodId} {args : Array Value} {below : List Frame} {meth : Method} {c : Code} {n0 z0 : Nat}
def f_X11_hasCity_0  (o0 : Nat) (h : AH) : Option (Int32 × AH) :=
  (gR [11] h o0 4).bind fun v1 =>
  (gI [10] h v1 1).bind fun v3 =>
  if v3 ≤ 0 then
    some (0, h)
  else
    some (1, h)
set_option maxHeartbeats 1000000 in
theorem w_X11_hasCity_0 (X : Cx g p s m args meth c cX11_hasCity 1 "TrapCorner") (hR : 1 ≤ R.frames ∧ 64 ≤ R.locals) (hr : meth.sig.returnType = (some (.boolean))) {res : Int32 × AH} : ∀ (o0 : Nat) (h : AH) (ls : Array Slot) (H : Heap) (locs : List Loc), f_X11_hasCity_0 o0 h = some res → Iv g s n0 z0 h H locs 0 0 → lv_has ls 1 [(0, .ref (rfG g o0))] → W p l e R s m args below meth c H locs 0 0 (MQ below (QG g (some (.int res.1)) res.2) args s 0 0 (AG g)) (F0 m 0 ls []) := by
  have hx := X.1
  have hb := X.2.1
  intro o0 h ls H locs hf I hl
  unfold f_X11_hasCity_0 at hf
  refine lv_aload_n hx hb dX11_hasCity_0 rfl (lv_at hl 0 rfl) ?_
  obtain ⟨v1, e2, hf⟩ := Option.bind_eq_some_iff.mp hf
  refine r_gR X I e2 lk_TrapCorner_42 dX11_hasCity_1 ?_
  obtain ⟨v3, e4, hf⟩ := Option.bind_eq_some_iff.mp hf
  refine r_gI X I e4 lk_TrapCorner_156 dX11_hasCity_4 ?_
  refine lv_if_le (tgt := 14) hx hb dX11_hasCity_7 (by decide) (fun c5 => ?_) (fun c5 => ?_)
  · rw [if_pos c5] at hf
    refine lv_iconst (v := 0) hx hb dX11_hasCity_14 (by decide) ?_
    cases hf
    exact k_rz X I hr (Or.inl rfl) dX11_hasCity_15
  · rw [if_neg c5] at hf
    refine lv_iconst (v := 1) hx hb dX11_hasCity_10 (by decide) ?_
    refine lv_goto (tgt := 15) hx hb dX11_hasCity_11 (by decide) ?_
    cases hf
    exact k_rz X I hr (Or.inr rfl) dX11_hasCity_15
def f_X11_hasCity (o0 : Nat) (h : AH) : Option (Int32 × AH) := f_X11_hasCity_0 o0 h
end
theorem c_X11_hasCity (l : Launch) (g : GG) (o0 : Nat) {h : AH} {res : Int32 × AH} (hf : f_X11_hasCity o0 h = some res) : CM l g yX11_hasCity cX11_hasCity 1 (some (.boolean)) 1 64 0 0 [.ref (rfG g o0)] h (some (.int res.1)) res.2 :=
  k_body (by decide) (Nat.le_of_ble_eq_true rfl) (fun p e s m below meth c R ls hR hr X I hl => w_X11_hasCity_0 X ⟨Nat.le_of_eq hR.1.symm, Nat.le_of_eq hR.2.1.symm⟩ hr o0 h ls s.heap [] hf I (lv_sub hl [0] rfl))
/-! TrapCorner.hasCorner(I)Z -/
theorem dX11_hasCorner_0 : decode cX11_hasCorner 0 = .ok (.iload_n 1, 1) := by decide +kernel
theorem dX11_hasCorner_1 : decode cX11_hasCorner 1 = .ok (.ifCond .lt 18, 3) := by decide +kernel
theorem dX11_hasCorner_4 : decode cX11_hasCorner 4 = .ok (.iload_n 1, 1) := by decide +kernel
theorem dX11_hasCorner_5 : decode cX11_hasCorner 5 = .ok (.aload_n 0, 1) := by decide +kernel
theorem dX11_hasCorner_6 : decode cX11_hasCorner 6 = .ok (.getfield 42, 3) := by decide +kernel
theorem dX11_hasCorner_9 : decode cX11_hasCorner 9 = .ok (.getfield 253, 3) := by decide +kernel
theorem dX11_hasCorner_12 : decode cX11_hasCorner 12 = .ok (.if_icmp .ge 7, 3) := by decide +kernel
theorem dX11_hasCorner_15 : decode cX11_hasCorner 15 = .ok (.iconst 1, 1) := by decide +kernel
theorem dX11_hasCorner_16 : decode cX11_hasCorner 16 = .ok (.goto 4, 3) := by decide +kernel
theorem dX11_hasCorner_19 : decode cX11_hasCorner 19 = .ok (.iconst 0, 1) := by decide +kernel
theorem dX11_hasCorner_20 : decode cX11_hasCorner 20 = .ok (.ireturn, 1) := by decide +kernel
theorem lk_TrapCorner_253 : LK "TrapCorner" 253 [10] 0 := by
  intro ci hci
  have hci := List.mem_singleton.mp hci
  subst hci
  exact ⟨RX10, TX10, 13, "TrapCorner$Town", ck_10, by decide, tw_70, Or.inl rfl⟩
section
variable {g : GG} {p : Program} {l : Launch} {e : Env} {R : Room} {s : State} {m : MethodId} {args : Array Value} {below : List Frame} {meth : Method} {c : Code} {n0 z0 : Nat}
def f_X11_hasCorner_0  (o0 : Nat) (x1 : Int32) (h : AH) : Option (Int32 × AH) :=
  if x1 < 0 then
    some (0, h)
  else
    (gR [11] h o0 4).bind fun v2 =>
    (gI [10] h v2 0).bind fun v4 =>
    if v4 ≤ x1 then
      some (0, h)
    else
      some (1, h)
set_option maxHeartbeats 1000000 in
theorem w_X11_hasCorner_0 (X : Cx g p s m args meth c cX11_hasCorner 2 "TrapCorner") (hR : 1 ≤ R.frames ∧ 64 ≤ R.locals) (hr : meth.sig.returnType = (some (.boolean))) {res : Int32 × AH} : ∀ (o0 : Nat) (x1 : Int32) (h : AH) (ls : Array Slot) (H : Heap) (locs : List Loc), f_X11_hasCorner_0 o0 x1 h = some res → Iv g s n0 z0 h H locs 0 0 → lv_has ls 2 [(0, .ref (rfG g o0)), (1, .int x1)] → W p l e R s m args below meth c H locs 0 0 (MQ below (QG g (some (.int res.1)) res.2) args s 0 0 (AG g)) (F0 m 0 ls []) := by
  have hx := X.1
  have hb := X.2.1
  intro o0 x1 h ls H locs hf I hl
  unfold f_X11_hasCorner_0 at hf
  refine lv_iload_n hx hb dX11_hasCorner_0 rfl (lv_at hl 1 rfl) ?_
  refine lv_if_lt (tgt := 19) hx hb dX11_hasCorner_1 (by decide) (fun c1 => ?_) (fun c1 => ?_)
  · rw [if_pos c1] at hf
    refine lv_iconst (v := 0) hx hb dX11_hasCorner_19 (by decide) ?_
    cases hf
    exact k_rz X I hr (Or.inl rfl) dX11_hasCorner_20
  · rw [if_neg c1] at hf
    refine lv_iload_n hx hb dX11_hasCorner_4 rfl (lv_at hl 1 rfl) ?_
    refine lv_aload_n hx hb dX11_hasCorner_5 rfl (lv_at hl 0 rfl) ?_
    obtain ⟨v2, e3, hf⟩ := Option.bind_eq_some_iff.mp hf
    refine r_gR X I e3 lk_TrapCorner_42 dX11_hasCorner_6 ?_
    obtain ⟨v4, e5, hf⟩ := Option.bind_eq_some_iff.mp hf
    refine r_gI X I e5 lk_TrapCorner_253 dX11_hasCorner_9 ?_
    refine lv_icmp_ge (tgt := 19) hx hb dX11_hasCorner_12 (by decide) (fun c6 => ?_) (fun c6 => ?_)
    · rw [if_pos c6] at hf
      refine lv_iconst (v := 0) hx hb dX11_hasCorner_19 (by decide) ?_
      cases hf
      exact k_rz X I hr (Or.inl rfl) dX11_hasCorner_20
    · rw [if_neg c6] at hf
      refine lv_iconst (v := 1) hx hb dX11_hasCorner_15 (by decide) ?_
      refine lv_goto (tgt := 20) hx hb dX11_hasCorner_16 (by decide) ?_
      cases hf
      exact k_rz X I hr (Or.inr rfl) dX11_hasCorner_20
def f_X11_hasCorner (o0 : Nat) (x1 : Int32) (h : AH) : Option (Int32 × AH) := f_X11_hasCorner_0 o0 x1 h
end
theorem c_X11_hasCorner (l : Launch) (g : GG) (o0 : Nat) (x1 : Int32) {h : AH} {res : Int32 × AH} (hf : f_X11_hasCorner o0 x1 h = some res) : CM l g yX11_hasCorner cX11_hasCorner 2 (some (.boolean)) 1 64 0 0 [.ref (rfG g o0), .int x1] h (some (.int res.1)) res.2 :=
  k_body (by decide) (Nat.le_of_ble_eq_true rfl) (fun p e s m below meth c R ls hR hr X I hl => w_X11_hasCorner_0 X ⟨Nat.le_of_eq hR.1.symm, Nat.le_of_eq hR.2.1.symm⟩ hr o0 x1 h ls s.heap [] hf I (lv_sub hl [0, 1] rfl))
/-! TrapCorner.hasPerson(I)Z -/
theorem dX11_hasPerson_0 : decode cX11_hasPerson 0 = .ok (.iload_n 1, 1) := by decide +kernel
theorem dX11_hasPerson_1 : decode cX11_hasPerson 1 = .ok (.ifCond .lt 18, 3) := by decide +kernel
theorem dX11_hasPerson_4 : decode cX11_hasPerson 4 = .ok (.iload_n 1, 1) := by decide +kernel
theorem dX11_hasPerson_5 : decode cX11_hasPerson 5 = .ok (.aload_n 0, 1) := by decide +kernel
theorem dX11_hasPerson_6 : decode cX11_hasPerson 6 = .ok (.getfield 42, 3) := by decide +kernel
theorem dX11_hasPerson_9 : decode cX11_hasPerson 9 = .ok (.getfield 156, 3) := by decide +kernel
theorem dX11_hasPerson_12 : decode cX11_hasPerson 12 = .ok (.if_icmp .ge 7, 3) := by decide +kernel
theorem dX11_hasPerson_15 : decode cX11_hasPerson 15 = .ok (.iconst 1, 1) := by decide +kernel
theorem dX11_hasPerson_16 : decode cX11_hasPerson 16 = .ok (.goto 4, 3) := by decide +kernel
theorem dX11_hasPerson_19 : decode cX11_hasPerson 19 = .ok (.iconst 0, 1) := by decide +kernel
theorem dX11_hasPerson_20 : decode cX11_hasPerson 20 = .ok (.ireturn, 1) := by decide +kernel
section
variable {g : GG} {p : Program} {l : Launch} {e : Env} {R : Room} {s : State} {m : MethodId} {args : Array Value} {below : List Frame} {meth : Method} {c : Code} {n0 z0 : Nat}
def f_X11_hasPerson_0  (o0 : Nat) (x1 : Int32) (h : AH) : Option (Int32 × AH) :=
  if x1 < 0 then
    some (0, h)
  else
    (gR [11] h o0 4).bind fun v2 =>
    (gI [10] h v2 1).bind fun v4 =>
    if v4 ≤ x1 then
      some (0, h)
    else
      some (1, h)
set_option maxHeartbeats 1000000 in
theorem w_X11_hasPerson_0 (X : Cx g p s m args meth c cX11_hasPerson 2 "TrapCorner") (hR : 1 ≤ R.frames ∧ 64 ≤ R.locals) (hr : meth.sig.returnType = (some (.boolean))) {res : Int32 × AH} : ∀ (o0 : Nat) (x1 : Int32) (h : AH) (ls : Array Slot) (H : Heap) (locs : List Loc), f_X11_hasPerson_0 o0 x1 h = some res → Iv g s n0 z0 h H locs 0 0 → lv_has ls 2 [(0, .ref (rfG g o0)), (1, .int x1)] → W p l e R s m args below meth c H locs 0 0 (MQ below (QG g (some (.int res.1)) res.2) args s 0 0 (AG g)) (F0 m 0 ls []) := by
  have hx := X.1
  have hb := X.2.1
  intro o0 x1 h ls H locs hf I hl
  unfold f_X11_hasPerson_0 at hf
  refine lv_iload_n hx hb dX11_hasPerson_0 rfl (lv_at hl 1 rfl) ?_
  refine lv_if_lt (tgt := 19) hx hb dX11_hasPerson_1 (by decide) (fun c1 => ?_) (fun c1 => ?_)
  · rw [if_pos c1] at hf
    refine lv_iconst (v := 0) hx hb dX11_hasPerson_19 (by decide) ?_
    cases hf
    exact k_rz X I hr (Or.inl rfl) dX11_hasPerson_20
  · rw [if_neg c1] at hf
    refine lv_iload_n hx hb dX11_hasPerson_4 rfl (lv_at hl 1 rfl) ?_
    refine lv_aload_n hx hb dX11_hasPerson_5 rfl (lv_at hl 0 rfl) ?_
    obtain ⟨v2, e3, hf⟩ := Option.bind_eq_some_iff.mp hf
    refine r_gR X I e3 lk_TrapCorner_42 dX11_hasPerson_6 ?_
    obtain ⟨v4, e5, hf⟩ := Option.bind_eq_some_iff.mp hf
    refine r_gI X I e5 lk_TrapCorner_156 dX11_hasPerson_9 ?_
    refine lv_icmp_ge (tgt := 19) hx hb dX11_hasPerson_12 (by decide) (fun c6 => ?_) (fun c6 => ?_)
    · rw [if_pos c6] at hf
      refine lv_iconst (v := 0) hx hb dX11_hasPerson_19 (by decide) ?_
      cases hf
      exact k_rz X I hr (Or.inl rfl) dX11_hasPerson_20
    · rw [if_neg c6] at hf
      refine lv_iconst (v := 1) hx hb dX11_hasPerson_15 (by decide) ?_
      refine lv_goto (tgt := 20) hx hb dX11_hasPerson_16 (by decide) ?_
      cases hf
      exact k_rz X I hr (Or.inr rfl) dX11_hasPerson_20
def f_X11_hasPerson (o0 : Nat) (x1 : Int32) (h : AH) : Option (Int32 × AH) := f_X11_hasPerson_0 o0 x1 h
end
theorem c_X11_hasPerson (l : Launch) (g : GG) (o0 : Nat) (x1 : Int32) {h : AH} {res : Int32 × AH} (hf : f_X11_hasPerson o0 x1 h = some res) : CM l g yX11_hasPerson cX11_hasPerson 2 (some (.boolean)) 1 64 0 0 [.ref (rfG g o0), .int x1] h (some (.int res.1)) res.2 :=
  k_body (by decide) (Nat.le_of_ble_eq_true rfl) (fun p e s m below meth c R ls hR hr X I hl => w_X11_hasPerson_0 X ⟨Nat.le_of_eq hR.1.symm, Nat.le_of_eq hR.2.1.symm⟩ hr o0 x1 h ls s.heap [] hf I (lv_sub hl [0, 1] rfl))
/-! TrapCorner.hasPlan(I)Z -/
theorem dX11_hasPlan_0 : decode cX11_hasPlan 0 = .ok (.iload_n 1, 1) := by decide +kernel
theorem dX11_hasPlan_1 : decode cX11_hasPlan 1 = .ok (.ifCond .lt 15, 3) := by decide +kernel
theorem dX11_hasPlan_4 : decode cX11_hasPlan 4 = .ok (.iload_n 1, 1) := by decide +kernel
theorem dX11_hasPlan_5 : decode cX11_hasPlan 5 = .ok (.aload_n 0, 1) := by decide +kernel
theorem dX11_hasPlan_6 : decode cX11_hasPlan 6 = .ok (.getfield 166, 3) := by decide +kernel
theorem dX11_hasPlan_9 : decode cX11_hasPlan 9 = .ok (.if_icmp .ge 7, 3) := by decide +kernel
theorem dX11_hasPlan_12 : decode cX11_hasPlan 12 = .ok (.iconst 1, 1) := by decide +kernel
theorem dX11_hasPlan_13 : decode cX11_hasPlan 13 = .ok (.goto 4, 3) := by decide +kernel
theorem dX11_hasPlan_16 : decode cX11_hasPlan 16 = .ok (.iconst 0, 1) := by decide +kernel
theorem dX11_hasPlan_17 : decode cX11_hasPlan 17 = .ok (.ireturn, 1) := by decide +kernel
theorem lk_TrapCorner_166 : LK "TrapCorner" 166 [11] 15 := by
  intro ci hci
  have hci := List.mem_singleton.mp hci
  subst hci
  exact ⟨RX11, TX11, 19, "TrapCorner", ck_11, by decide, tw_380, Or.inl rfl⟩
section
variable {g : GG} {p : Program} {l : Launch} {e : Env} {R : Room} {s : State} {m : MethodId} {args : Array Value} {below : List Frame} {meth : Method} {c : Code} {n0 z0 : Nat}
def f_X11_hasPlan_0  (o0 : Nat) (x1 : Int32) (h : AH) : Option (Int32 × AH) :=
  if x1 < 0 then
    some (0, h)
  else
    (gI [11] h o0 15).bind fun v2 =>
    if v2 ≤ x1 then
      some (0, h)
    else
      some (1, h)
set_option maxHeartbeats 1000000 in
theorem w_X11_hasPlan_0 (X : Cx g p s m args meth c cX11_hasPlan 2 "TrapCorner") (hR : 1 ≤ R.frames ∧ 64 ≤ R.locals) (hr : meth.sig.returnType = (some (.boolean))) {res : Int32 × AH} : ∀ (o0 : Nat) (x1 : Int32) (h : AH) (ls : Array Slot) (H : Heap) (locs : List Loc), f_X11_hasPlan_0 o0 x1 h = some res → Iv g s n0 z0 h H locs 0 0 → lv_has ls 2 [(0, .ref (rfG g o0)), (1, .int x1)] → W p l e R s m args below meth c H locs 0 0 (MQ below (QG g (some (.int res.1)) res.2) args s 0 0 (AG g)) (F0 m 0 ls []) := by
  have hx := X.1
  have hb := X.2.1
  intro o0 x1 h ls H locs hf I hl
  unfold f_X11_hasPlan_0 at hf
  refine lv_iload_n hx hb dX11_hasPlan_0 rfl (lv_at hl 1 rfl) ?_
  refine lv_if_lt (tgt := 16) hx hb dX11_hasPlan_1 (by decide) (fun c1 => ?_) (fun c1 => ?_)
  · rw [if_pos c1] at hf
    refine lv_iconst (v := 0) hx hb dX11_hasPlan_16 (by decide) ?_
    cases hf
    exact k_rz X I hr (Or.inl rfl) dX11_hasPlan_17
  · rw [if_neg c1] at hf
    refine lv_iload_n hx hb dX11_hasPlan_4 rfl (lv_at hl 1 rfl) ?_
    refine lv_aload_n hx hb dX11_hasPlan_5 rfl (lv_at hl 0 rfl) ?_
    obtain ⟨v2, e3, hf⟩ := Option.bind_eq_some_iff.mp hf
    refine r_gI X I e3 lk_TrapCorner_166 dX11_hasPlan_6 ?_
    refine lv_icmp_ge (tgt := 16) hx hb dX11_hasPlan_9 (by decide) (fun c4 => ?_) (fun c4 => ?_)
    · rw [if_pos c4] at hf
      refine lv_iconst (v := 0) hx hb dX11_hasPlan_16 (by decide) ?_
      cases hf
      exact k_rz X I hr (Or.inl rfl) dX11_hasPlan_17
    · rw [if_neg c4] at hf
      refine lv_iconst (v := 1) hx hb dX11_hasPlan_12 (by decide) ?_
      refine lv_goto (tgt := 17) hx hb dX11_hasPlan_13 (by decide) ?_
      cases hf
      exact k_rz X I hr (Or.inr rfl) dX11_hasPlan_17
def f_X11_hasPlan (o0 : Nat) (x1 : Int32) (h : AH) : Option (Int32 × AH) := f_X11_hasPlan_0 o0 x1 h
end
theorem c_X11_hasPlan (l : Launch) (g : GG) (o0 : Nat) (x1 : Int32) {h : AH} {res : Int32 × AH} (hf : f_X11_hasPlan o0 x1 h = some res) : CM l g yX11_hasPlan cX11_hasPlan 2 (some (.boolean)) 1 64 0 0 [.ref (rfG g o0), .int x1] h (some (.int res.1)) res.2 :=
  k_body (by decide) (Nat.le_of_ble_eq_true rfl) (fun p e s m below meth c R ls hR hr X I hl => w_X11_hasPlan_0 X ⟨Nat.le_of_eq hR.1.symm, Nat.le_of_eq hR.2.1.symm⟩ hr o0 x1 h ls s.heap [] hf I (lv_sub hl [0, 1] rfl))
/-! TrapCorner.isCrumb(I)Z -/
theorem dX11_isCrumb_0 : decode cX11_isCrumb 0 = .ok (.iload_n 0, 1) := by decide +kernel
theorem dX11_isCrumb_1 : decode cX11_isCrumb 1 = .ok (.ifCond .lt 12, 3) := by decide +kernel
theorem dX11_isCrumb_4 : decode cX11_isCrumb 4 = .ok (.iload_n 0, 1) := by decide +kernel
theorem dX11_isCrumb_5 : decode cX11_isCrumb 5 = .ok (.iconst 3, 1) := by decide +kernel
theorem dX11_isCrumb_6 : decode cX11_isCrumb 6 = .ok (.if_icmp .gt 7, 3) := by decide +kernel
theorem dX11_isCrumb_9 : decode cX11_isCrumb 9 = .ok (.iconst 1, 1) := by decide +kernel
theorem dX11_isCrumb_10 : decode cX11_isCrumb 10 = .ok (.goto 4, 3) := by decide +kernel
theorem dX11_isCrumb_13 : decode cX11_isCrumb 13 = .ok (.iconst 0, 1) := by decide +kernel
theorem dX11_isCrumb_14 : decode cX11_isCrumb 14 = .ok (.ireturn, 1) := by decide +kernel
section
variable {g : GG} {p : Program} {l : Launch} {e : Env} {R : Room} {s : State} {m : MethodId} {args : Array Value} {below : List Frame} {meth : Method} {c : Code} {n0 z0 : Nat}
def f_X11_isCrumb_0  (x0 : Int32) (h : AH) : Option (Int32 × AH) :=
  if x0 < 0 then
    some (0, h)
  else
    if 3 < x0 then
      some (0, h)
    else
      some (1, h)
set_option maxHeartbeats 1000000 in
theorem w_X11_isCrumb_0 (X : Cx g p s m args meth c cX11_isCrumb 1 "TrapCorner") (hR : 1 ≤ R.frames ∧ 64 ≤ R.locals) (hr : meth.sig.returnType = (some (.boolean))) {res : Int32 × AH} : ∀ (x0 : Int32) (h : AH) (ls : Array Slot) (H : Heap) (locs : List Loc), f_X11_isCrumb_0 x0 h = some res → Iv g s n0 z0 h H locs 0 0 → lv_has ls 1 [(0, .int x0)] → W p l e R s m args below meth c H locs 0 0 (MQ below (QG g (some (.int res.1)) res.2) args s 0 0 (AG g)) (F0 m 0 ls []) := by
  have hx := X.1
  have hb := X.2.1
  intro x0 h ls H locs hf I hl
  unfold f_X11_isCrumb_0 at hf
  refine lv_iload_n hx hb dX11_isCrumb_0 rfl (lv_at hl 0 rfl) ?_
  refine lv_if_lt (tgt := 13) hx hb dX11_isCrumb_1 (by decide) (fun c1 => ?_) (fun c1 => ?_)
  · rw [if_pos c1] at hf
    refine lv_iconst (v := 0) hx hb dX11_isCrumb_13 (by decide) ?_
    cases hf
    exact k_rz X I hr (Or.inl rfl) dX11_isCrumb_14
  · rw [if_neg c1] at hf
    refine lv_iload_n hx hb dX11_isCrumb_4 rfl (lv_at hl 0 rfl) ?_
    refine lv_iconst (v := 3) hx hb dX11_isCrumb_5 (by decide) ?_
    refine lv_icmp_gt (tgt := 13) hx hb dX11_isCrumb_6 (by decide) (fun c2 => ?_) (fun c2 => ?_)
    · rw [if_pos c2] at hf
      refine lv_iconst (v := 0) hx hb dX11_isCrumb_13 (by decide) ?_
      cases hf
      exact k_rz X I hr (Or.inl rfl) dX11_isCrumb_14
    · rw [if_neg c2] at hf
      refine lv_iconst (v := 1) hx hb dX11_isCrumb_9 (by decide) ?_
      refine lv_goto (tgt := 14) hx hb dX11_isCrumb_10 (by decide) ?_
      cases hf
      exact k_rz X I hr (Or.inr rfl) dX11_isCrumb_14
def f_X11_isCrumb (x0 : Int32) (h : AH) : Option (Int32 × AH) := f_X11_isCrumb_0 x0 h
end
theorem c_X11_isCrumb (l : Launch) (g : GG) (x0 : Int32) {h : AH} {res : Int32 × AH} (hf : f_X11_isCrumb x0 h = some res) : CM l g yX11_isCrumb cX11_isCrumb 1 (some (.boolean)) 1 64 0 0 [.int x0] h (some (.int res.1)) res.2 :=
  k_body (by decide) (Nat.le_of_ble_eq_true rfl) (fun p e s m below meth c R ls hR hr X I hl => w_X11_isCrumb_0 X ⟨Nat.le_of_eq hR.1.symm, Nat.le_of_eq hR.2.1.symm⟩ hr x0 h ls s.heap [] hf I (lv_sub hl [0] rfl))
/-! TrapCorner.law(I)Z -/
theorem dX11_law_0 : decode cX11_law 0 = .ok (.iload_n 1, 1) := by decide +kernel
theorem dX11_law_1 : decode cX11_law 1 = .ok (.iconst (-1), 1) := by decide +kernel
theorem dX11_law_2 : decode cX11_law 2 = .ok (.if_icmp .lt 11, 3) := by decide +kernel
theorem dX11_law_5 : decode cX11_law 5 = .ok (.iload_n 1, 1) := by decide +kernel
theorem dX11_law_6 : decode cX11_law 6 = .ok (.aload_n 0, 1) := by decide +kernel
theorem dX11_law_7 : decode cX11_law 7 = .ok (.getfield 159, 3) := by decide +kernel
theorem dX11_law_10 : decode cX11_law 10 = .ok (.if_icmp .lt 5, 3) := by decide +kernel
theorem dX11_law_13 : decode cX11_law 13 = .ok (.iconst 0, 1) := by decide +kernel
theorem dX11_law_14 : decode cX11_law 14 = .ok (.ireturn, 1) := by decide +kernel
theorem dX11_law_15 : decode cX11_law 15 = .ok (.aload_n 0, 1) := by decide +kernel
theorem dX11_law_16 : decode cX11_law 16 = .ok (.iload_n 1, 1) := by decide +kernel
theorem dX11_law_17 : decode cX11_law 17 = .ok (.putfield 98, 3) := by decide +kernel
theorem dX11_law_20 : decode cX11_law 20 = .ok (.aload_n 0, 1) := by decide +kernel
theorem dX11_law_21 : decode cX11_law 21 = .ok (.getfield 66, 3) := by decide +kernel
theorem dX11_law_24 : decode cX11_law 24 = .ok (.iload_n 1, 1) := by decide +kernel
theorem dX11_law_25 : decode cX11_law 25 = .ok (.iconst (-1), 1) := by decide +kernel
theorem dX11_law_26 : decode cX11_law 26 = .ok (.if_icmp .ne 7, 3) := by decide +kernel
theorem dX11_law_29 : decode cX11_law 29 = .ok (.aconst_null, 1) := by decide +kernel
theorem dX11_law_30 : decode cX11_law 30 = .ok (.goto 9, 3) := by decide +kernel
theorem dX11_law_33 : decode cX11_law 33 = .ok (.aload_n 0, 1) := by decide +kernel
theorem dX11_law_34 : decode cX11_law 34 = .ok (.getfield 88, 3) := by decide +kernel
theorem dX11_law_37 : decode cX11_law 37 = .ok (.iload_n 1, 1) := by decide +kernel
theorem dX11_law_38 : decode cX11_law 38 = .ok (.aaload, 1) := by decide +kernel
theorem dX11_law_39 : decode cX11_law 39 = .ok (.putfield 274, 3) := by decide +kernel
theorem dX11_law_42 : decode cX11_law 42 = .ok (.iconst 1, 1) := by decide +kernel
theorem dX11_law_43 : decode cX11_law 43 = .ok (.ireturn, 1) := by decide +kernel
theorem lp_TrapCorner_274 : LKP "TrapCorner" 274 [4] 0 (.array .int) := by
  intro ci hci
  have hci := List.mem_singleton.mp hci
  subst hci
  exact ⟨RX4, TX4, 4, "TrapCorner$Pull", ck_4, by decide, tw_281, Or.inl rfl, rfl, by decide +kernel⟩
theorem lk_TrapCorner_159 : LK "TrapCorner" 159 [11] 14 := by
  intro ci hci
  have hci := List.mem_singleton.mp hci
  subst hci
  exact ⟨RX11, TX11, 19, "TrapCorner", ck_11, by decide, tw_379, Or.inl rfl⟩
theorem lp_TrapCorner_98 : LKP "TrapCorner" 98 [11] 16 (.int) := by
  intro ci hci
  have hci := List.mem_singleton.mp hci
  subst hci
  exact ⟨RX11, TX11, 19, "TrapCorner", ck_11, by decide, tw_381, Or.inl rfl, rfl, by decide +kernel⟩
theorem lk_TrapCorner_66 : LK "TrapCorner" 66 [11] 8 := by
  intro ci hci
  have hci := List.mem_singleton.mp hci
  subst hci
  exact ⟨RX11, TX11, 19, "TrapCorner", ck_11, by decide, tw_373, Or.inl rfl⟩
theorem lk_TrapCorner_88 : LK "TrapCorner" 88 [11] 11 := by
  intro ci hci
  have hci := List.mem_singleton.mp hci
  subst hci
  exact ⟨RX11, TX11, 19, "TrapCorner", ck_11, by decide, tw_376, Or.inl rfl⟩
section
variable {g : GG} {p : Program} {l : Launch} {e : Env} {R : Room} {s : State} {m : MethodId} {args : Array Value} {below : List Frame} {meth : Method} {c : Code} {n0 z0 : Nat}
def f_X11_law_39  (s0 : Nat) (s1 : Option Nat) (h : AH) : Option (Int32 × AH) :=
  match s1 with
  | none =>
    (pV [4] h s0 0 .null).bind fun h2 =>
    some (1, h2)
  | some o1 =>
    (pV [4] h s0 0 (.ref o1)).bind fun h4 =>
    some (1, h4)
set_option maxHeartbeats 1000000 in
theorem w_X11_law_39 (X : Cx g p s m args meth c cX11_law 2 "TrapCorner") (hR : 1 ≤ R.frames ∧ 64 ≤ R.locals) (hr : meth.sig.returnType = (some (.boolean))) {res : Int32 × AH} : ∀ (s0 : Nat) (s1 : Option Nat) (h : AH) (ls : Array Slot) (H : Heap) (locs : List Loc), f_X11_law_39 s0 s1 h = some res → Iv g s n0 z0 h H locs 0 0 → lv_has ls 2 [] → W p l e R s m args below meth c H locs 0 0 (MQ below (QG g (some (.int res.1)) res.2) args s 0 0 (AG g)) (F0 m 39 ls [va_rf ((s1).map (rfG g)), .ref (rfG g s0)]) := by
  have hx := X.1
  have hb := X.2.1
  intro s0 s1 h ls H locs hf I hl
  unfold f_X11_law_39 at hf
  cases s1 with
  | none =>
    dsimp only at hf
    obtain ⟨h2, e3, hf⟩ := Option.bind_eq_some_iff.mp hf
    refine r_pN X I e3 lp_TrapCorner_274 rfl dX11_law_39 (fun H locs I => ?_)
    refine lv_iconst (v := 1) hx hb dX11_law_42 (by decide) ?_
    cases hf
    exact k_rz X I hr (Or.inr rfl) dX11_law_43
  | some o1 =>
    dsimp only at hf
    obtain ⟨h4, e5, hf⟩ := Option.bind_eq_some_iff.mp hf
    refine r_pR X I e5 lp_TrapCorner_274 rfl dX11_law_39 (fun H locs I => ?_)
    refine lv_iconst (v := 1) hx hb dX11_law_42 (by decide) ?_
    cases hf
    exact k_rz X I hr (Or.inr rfl) dX11_law_43
def f_X11_law_0  (o0 : Nat) (x1 : Int32) (h : AH) : Option (Int32 × AH) :=
  if x1 < ((-1)) then
    some (0, h)
  else
    (gI [11] h o0 14).bind fun v2 =>
    if x1 < v2 then
      (pV [11] h o0 16 (.int x1)).bind fun h5 =>
      (gR [11] h5 o0 8).bind fun v7 =>
      if x1 = ((-1)) then
        f_X11_law_39 v7 none h5
      else
        (gR [11] h5 o0 11).bind fun v10 =>
        (aQ 5 h5 v10 x1).bind fun v12 =>
        v12.bind fun o14 =>
        f_X11_law_39 v7 (some o14) h5
    else
      some (0, h)
set_option maxHeartbeats 1000000 in
theorem w_X11_law_0 (X : Cx g p s m args meth c cX11_law 2 "TrapCorner") (hR : 1 ≤ R.frames ∧ 64 ≤ R.locals) (hr : meth.sig.returnType = (some (.boolean))) {res : Int32 × AH} : ∀ (o0 : Nat) (x1 : Int32) (h : AH) (ls : Array Slot) (H : Heap) (locs : List Loc), f_X11_law_0 o0 x1 h = some res → Iv g s n0 z0 h H locs 0 0 → lv_has ls 2 [(0, .ref (rfG g o0)), (1, .int x1)] → W p l e R s m args below meth c H locs 0 0 (MQ below (QG g (some (.int res.1)) res.2) args s 0 0 (AG g)) (F0 m 0 ls []) := by
  have hx := X.1
  have hb := X.2.1
  intro o0 x1 h ls H locs hf I hl
  unfold f_X11_law_0 at hf
  refine lv_iload_n hx hb dX11_law_0 rfl (lv_at hl 1 rfl) ?_
  refine lv_iconst (v := (-1)) hx hb dX11_law_1 (by decide) ?_
  refine lv_icmp_lt (tgt := 13) hx hb dX11_law_2 (by decide) (fun c1 => ?_) (fun c1 => ?_)
  · rw [if_pos c1] at hf
    refine lv_iconst (v := 0) hx hb dX11_law_13 (by decide) ?_
    cases hf
    exact k_rz X I hr (Or.inl rfl) dX11_law_14
  · rw [if_neg c1] at hf
    refine lv_iload_n hx hb dX11_law_5 rfl (lv_at hl 1 rfl) ?_
    refine lv_aload_n hx hb dX11_law_6 rfl (lv_at hl 0 rfl) ?_
    obtain ⟨v2, e3, hf⟩ := Option.bind_eq_some_iff.mp hf
    refine r_gI X I e3 lk_TrapCorner_159 dX11_law_7 ?_
    refine lv_icmp_lt (tgt := 15) hx hb dX11_law_10 (by decide) (fun c4 => ?_) (fun c4 => ?_)
    · rw [if_pos c4] at hf
      refine lv_aload_n hx hb dX11_law_15 rfl (lv_at hl 0 rfl) ?_
      refine lv_iload_n hx hb dX11_law_16 rfl (lv_at hl 1 rfl) ?_
      obtain ⟨h5, e6, hf⟩ := Option.bind_eq_some_iff.mp hf
      refine r_pI X I e6 lp_TrapCorner_98 dX11_law_17 (fun H locs I => ?_)
      refine lv_aload_n hx hb dX11_law_20 rfl (lv_at hl 0 rfl) ?_
      obtain ⟨v7, e8, hf⟩ := Option.bind_eq_some_iff.mp hf
      refine r_gR X I e8 lk_TrapCorner_66 dX11_law_21 ?_
      refine lv_iload_n hx hb dX11_law_24 rfl (lv_at hl 1 rfl) ?_
      refine lv_iconst (v := (-1)) hx hb dX11_law_25 (by decide) ?_
      refine lv_icmp_ne (tgt := 33) hx hb dX11_law_26 (by decide) (fun c9 => ?_) (fun c9 => ?_)
      · rw [if_neg c9] at hf
        refine lv_aload_n hx hb dX11_law_33 rfl (lv_at hl 0 rfl) ?_
        obtain ⟨v10, e11, hf⟩ := Option.bind_eq_some_iff.mp hf
        refine r_gR X I e11 lk_TrapCorner_88 dX11_law_34 ?_
        refine lv_iload_n hx hb dX11_law_37 rfl (lv_at hl 1 rfl) ?_
        obtain ⟨v12, e13, hf⟩ := Option.bind_eq_some_iff.mp hf
        refine r_aQ5 X I e13 dX11_law_38 ?_
        obtain ⟨o14, eo14, hf2⟩ := Option.bind_eq_some_iff.mp hf
        clear hf
        have hf := hf2
        subst eo14
        exact w_X11_law_39 X hR hr  v7 (some o14) h5 ls H locs hf I (lv_sub hl [] rfl)
      · rw [if_pos c9] at hf
        refine lv_null hx hb dX11_law_29 ?_
        refine lv_goto (tgt := 39) hx hb dX11_law_30 (by decide) ?_
        exact w_X11_law_39 X hR hr  v7 none h5 ls H locs hf I (lv_sub hl [] rfl)
    · rw [if_neg c4] at hf
      refine lv_iconst (v := 0) hx hb dX11_law_13 (by decide) ?_
      cases hf
      exact k_rz X I hr (Or.inl rfl) dX11_law_14
def f_X11_law (o0 : Nat) (x1 : Int32) (h : AH) : Option (Int32 × AH) := f_X11_law_0 o0 x1 h
end
theorem c_X11_law (l : Launch) (g : GG) (o0 : Nat) (x1 : Int32) {h : AH} {res : Int32 × AH} (hf : f_X11_law o0 x1 h = some res) : CM l g yX11_law cX11_law 2 (some (.boolean)) 1 64 0 0 [.ref (rfG g o0), .int x1] h (some (.int res.1)) res.2 :=
  k_body (by decide) (Nat.le_of_ble_eq_true rfl) (fun p e s m below meth c R ls hR hr X I hl => w_X11_law_0 X ⟨Nat.le_of_eq hR.1.symm, Nat.le_of_eq hR.2.1.symm⟩ hr o0 x1 h ls s.heap [] hf I (lv_sub hl [0, 1] rfl))
/-! TrapCorner.dogs(I)Z -/
theorem dX11_dogs_0 : decode cX11_dogs 0 = .ok (.iload_n 1, 1) := by decide +kernel
theorem dX11_dogs_1 : decode cX11_dogs 1 = .ok (.ifCond .lt 17, 3) := by decide +kernel
theorem dX11_dogs_4 : decode cX11_dogs 4 = .ok (.iload_n 1, 1) := by decide +kernel
theorem dX11_dogs_5 : decode cX11_dogs 5 = .ok (.bipush 9, 2) := by decide +kernel
theorem dX11_dogs_7 : decode cX11_dogs 7 = .ok (.if_icmp .gt 11, 3) := by decide +kernel
theorem dX11_dogs_10 : decode cX11_dogs 10 = .ok (.iload_n 1, 1) := by decide +kernel
theorem dX11_dogs_11 : decode cX11_dogs 11 = .ok (.aload_n 0, 1) := by decide +kernel
theorem dX11_dogs_12 : decode cX11_dogs 12 = .ok (.getfield 102, 3) := by decide +kernel
theorem dX11_dogs_15 : decode cX11_dogs 15 = .ok (.if_icmp .ne 5, 3) := by decide +kernel
theorem dX11_dogs_18 : decode cX11_dogs 18 = .ok (.iconst 0, 1) := by decide +kernel
theorem dX11_dogs_19 : decode cX11_dogs 19 = .ok (.ireturn, 1) := by decide +kernel
theorem dX11_dogs_20 : decode cX11_dogs 20 = .ok (.aload_n 0, 1) := by decide +kernel
theorem dX11_dogs_21 : decode cX11_dogs 21 = .ok (.iload_n 1, 1) := by decide +kernel
theorem dX11_dogs_22 : decode cX11_dogs 22 = .ok (.putfield 102, 3) := by decide +kernel
theorem dX11_dogs_25 : decode cX11_dogs 25 = .ok (.iconst 1, 1) := by decide +kernel
theorem dX11_dogs_26 : decode cX11_dogs 26 = .ok (.ireturn, 1) := by decide +kernel
theorem lk_TrapCorner_102 : LK "TrapCorner" 102 [11] 17 := by
  intro ci hci
  have hci := List.mem_singleton.mp hci
  subst hci
  exact ⟨RX11, TX11, 19, "TrapCorner", ck_11, by decide, tw_382, Or.inl rfl⟩
theorem lp_TrapCorner_102 : LKP "TrapCorner" 102 [11] 17 (.int) := by
  intro ci hci
  have hci := List.mem_singleton.mp hci
  subst hci
  exact ⟨RX11, TX11, 19, "TrapCorner", ck_11, by decide, tw_382, Or.inl rfl, rfl, by decide +kernel⟩
section
variable {g : GG} {p : Program} {l : Launch} {e : Env} {R : Room} {s : State} {m : MethodId} {args : Array Value} {below : List Frame} {meth : Method} {c : Code} {n0 z0 : Nat}
def f_X11_dogs_0  (o0 : Nat) (x1 : Int32) (h : AH) : Option (Int32 × AH) :=
  if x1 < 0 then
    some (0, h)
  else
    if 9 < x1 then
      some (0, h)
    else
      (gI [11] h o0 17).bind fun v3 =>
      if x1 = v3 then
        some (0, h)
      else
        (pV [11] h o0 17 (.int x1)).bind fun h6 =>
        some (1, h6)
set_option maxHeartbeats 1000000 in
theorem w_X11_dogs_0 (X : Cx g p s m args meth c cX11_dogs 2 "TrapCorner") (hR : 1 ≤ R.frames ∧ 64 ≤ R.locals) (hr : meth.sig.returnType = (some (.boolean))) {res : Int32 × AH} : ∀ (o0 : Nat) (x1 : Int32) (h : AH) (ls : Array Slot) (H : Heap) (locs : List Loc), f_X11_dogs_0 o0 x1 h = some res → Iv g s n0 z0 h H locs 0 0 → lv_has ls 2 [(0, .ref (rfG g o0)), (1, .int x1)] → W p l e R s m args below meth c H locs 0 0 (MQ below (QG g (some (.int res.1)) res.2) args s 0 0 (AG g)) (F0 m 0 ls []) := by
  have hx := X.1
  have hb := X.2.1
  intro o0 x1 h ls H locs hf I hl
  unfold f_X11_dogs_0 at hf
  refine lv_iload_n hx hb dX11_dogs_0 rfl (lv_at hl 1 rfl) ?_
  refine lv_if_lt (tgt := 18) hx hb dX11_dogs_1 (by decide) (fun c1 => ?_) (fun c1 => ?_)
  · rw [if_pos c1] at hf
    refine lv_iconst (v := 0) hx hb dX11_dogs_18 (by decide) ?_
    cases hf
    exact k_rz X I hr (Or.inl rfl) dX11_dogs_19
  · rw [if_neg c1] at hf
    refine lv_iload_n hx hb dX11_dogs_4 rfl (lv_at hl 1 rfl) ?_
    refine lv_bipush (v := 9) hx hb dX11_dogs_5 (by decide) ?_
    refine lv_icmp_gt (tgt := 18) hx hb dX11_dogs_7 (by decide) (fun c2 => ?_) (fun c2 => ?_)
    · rw [if_pos c2] at hf
      refine lv_iconst (v := 0) hx hb dX11_dogs_18 (by decide) ?_
      cases hf
      exact k_rz X I hr (Or.inl rfl) dX11_dogs_19
    · rw [if_neg c2] at hf
      refine lv_iload_n hx hb dX11_dogs_10 rfl (lv_at hl 1 rfl) ?_
      refine lv_aload_n hx hb dX11_dogs_11 rfl (lv_at hl 0 rfl) ?_
      obtain ⟨v3, e4, hf⟩ := Option.bind_eq_some_iff.mp hf
      refine r_gI X I e4 lk_TrapCorner_102 dX11_dogs_12 ?_
      refine lv_icmp_ne (tgt := 20) hx hb dX11_dogs_15 (by decide) (fun c5 => ?_) (fun c5 => ?_)
      · rw [if_neg c5] at hf
        refine lv_aload_n hx hb dX11_dogs_20 rfl (lv_at hl 0 rfl) ?_
        refine lv_iload_n hx hb dX11_dogs_21 rfl (lv_at hl 1 rfl) ?_
        obtain ⟨h6, e7, hf⟩ := Option.bind_eq_some_iff.mp hf
        refine r_pI X I e7 lp_TrapCorner_102 dX11_dogs_22 (fun H locs I => ?_)
        refine lv_iconst (v := 1) hx hb dX11_dogs_25 (by decide) ?_
        cases hf
        exact k_rz X I hr (Or.inr rfl) dX11_dogs_26
      · rw [if_pos c5] at hf
        refine lv_iconst (v := 0) hx hb dX11_dogs_18 (by decide) ?_
        cases hf
        exact k_rz X I hr (Or.inl rfl) dX11_dogs_19
def f_X11_dogs (o0 : Nat) (x1 : Int32) (h : AH) : Option (Int32 × AH) := f_X11_dogs_0 o0 x1 h
end
theorem c_X11_dogs (l : Launch) (g : GG) (o0 : Nat) (x1 : Int32) {h : AH} {res : Int32 × AH} (hf : f_X11_dogs o0 x1 h = some res) : CM l g yX11_dogs cX11_dogs 2 (some (.boolean)) 1 64 0 0 [.ref (rfG g o0), .int x1] h (some (.int res.1)) res.2 :=
  k_body (by decide) (Nat.le_of_ble_eq_true rfl) (fun p e s m below meth c R ls hR hr X I hl => w_X11_dogs_0 X ⟨Nat.le_of_eq hR.1.symm, Nat.le_of_eq hR.2.1.symm⟩ hr o0 x1 h ls s.heap [] hf I (lv_sub hl [0, 1] rfl))
/-! TrapCorner.draw(I)I -/
theorem dX11_draw_0 : decode cX11_draw 0 = .ok (.aload_n 0, 1) := by decide +kernel
theorem dX11_draw_1 : decode cX11_draw 1 = .ok (.aload_n 0, 1) := by decide +kernel
theorem dX11_draw_2 : decode cX11_draw 2 = .ok (.getfield 296, 3) := by decide +kernel
theorem dX11_draw_5 : decode cX11_draw 5 = .ok (.ldc2_w 313, 3) := by decide +kernel
theorem dX11_draw_8 : decode cX11_draw 8 = .ok (.lmul, 1) := by decide +kernel
theorem dX11_draw_9 : decode cX11_draw 9 = .ok (.ldc2_w 315, 3) := by decide +kernel
theorem dX11_draw_12 : decode cX11_draw 12 = .ok (.ladd, 1) := by decide +kernel
theorem dX11_draw_13 : decode cX11_draw 13 = .ok (.putfield 296, 3) := by decide +kernel
theorem dX11_draw_16 : decode cX11_draw 16 = .ok (.iload_n 1, 1) := by decide +kernel
theorem dX11_draw_17 : decode cX11_draw 17 = .ok (.ifCond .gt 7, 3) := by decide +kernel
theorem dX11_draw_20 : decode cX11_draw 20 = .ok (.iconst 0, 1) := by decide +kernel
theorem dX11_draw_21 : decode cX11_draw 21 = .ok (.goto 14, 3) := by decide +kernel
theorem dX11_draw_24 : decode cX11_draw 24 = .ok (.aload_n 0, 1) := by decide +kernel
theorem dX11_draw_25 : decode cX11_draw 25 = .ok (.getfield 296, 3) := by decide +kernel
theorem dX11_draw_28 : decode cX11_draw 28 = .ok (.bipush 33, 2) := by decide +kernel
theorem dX11_draw_30 : decode cX11_draw 30 = .ok (.lushr, 1) := by decide +kernel
theorem dX11_draw_31 : decode cX11_draw 31 = .ok (.iload_n 1, 1) := by decide +kernel
theorem dX11_draw_32 : decode cX11_draw 32 = .ok (.i2l, 1) := by decide +kernel
theorem dX11_draw_33 : decode cX11_draw 33 = .ok (.lrem, 1) := by decide +kernel
theorem dX11_draw_34 : decode cX11_draw 34 = .ok (.l2i, 1) := by decide +kernel
theorem dX11_draw_35 : decode cX11_draw 35 = .ok (.ireturn, 1) := by decide +kernel
theorem lk_TrapCorner_296 : LK "TrapCorner" 296 [11] 18 := by
  intro ci hci
  have hci := List.mem_singleton.mp hci
  subst hci
  exact ⟨RX11, TX11, 19, "TrapCorner", ck_11, by decide, tw_383, Or.inl rfl⟩
theorem lp_TrapCorner_296 : LKP "TrapCorner" 296 [11] 18 (.long) := by
  intro ci hci
  have hci := List.mem_singleton.mp hci
  subst hci
  exact ⟨RX11, TX11, 19, "TrapCorner", ck_11, by decide, tw_383, Or.inl rfl, rfl, by decide +kernel⟩
section
variable {g : GG} {p : Program} {l : Launch} {e : Env} {R : Room} {s : State} {m : MethodId} {args : Array Value} {below : List Frame} {meth : Method} {c : Code} {n0 z0 : Nat}
def f_X11_draw_0  (o0 : Nat) (x1 : Int32) (h : AH) : Option (Int32 × AH) :=
  (gJ [11] h o0 18).bind fun v1 =>
  (pV [11] h o0 18 (.long ((v1 * 6364136223846793005) + 1442695040888963407))).bind fun h3 =>
  if 0 < x1 then
    (gJ [11] h3 o0 18).bind fun v6 =>
    if (x1.toInt64) = 0 then none else
    some ((((v6.toUInt64 >>> ((33 : Int32).toInt64.toUInt64 &&& Int64.toUInt64 63)).toInt64) - ((v6.toUInt64 >>> ((33 : Int32).toInt64.toUInt64 &&& Int64.toUInt64 63)).toInt64) / (x1.toInt64) * (x1.toInt64)).toInt32, h3)
  else
    some (0, h3)
set_option maxHeartbeats 1000000 in
theorem w_X11_draw_0 (X : Cx g p s m args meth c cX11_draw 2 "TrapCorner") (hR : 1 ≤ R.frames ∧ 64 ≤ R.locals) (hr : meth.sig.returnType = (some (.int))) {res : Int32 × AH} : ∀ (o0 : Nat) (x1 : Int32) (h : AH) (ls : Array Slot) (H : Heap) (locs : List Loc), f_X11_draw_0 o0 x1 h = some res → Iv g s n0 z0 h H locs 0 0 → lv_has ls 2 [(0, .ref (rfG g o0)), (1, .int x1)] → W p l e R s m args below meth c H locs 0 0 (MQ below (QG g (some (.int res.1)) res.2) args s 0 0 (AG g)) (F0 m 0 ls []) := by
  have hx := X.1
  have hb := X.2.1
  intro o0 x1 h ls H locs hf I hl
  unfold f_X11_draw_0 at hf
  refine lv_aload_n hx hb dX11_draw_0 rfl (lv_at hl 0 rfl) ?_
  refine lv_aload_n hx hb dX11_draw_1 rfl (lv_at hl 0 rfl) ?_
  obtain ⟨v1, e2, hf⟩ := Option.bind_eq_some_iff.mp hf
  refine r_gJ X I e2 lk_TrapCorner_296 dX11_draw_2 ?_
  refine lv_ldc2 (v := 6364136223846793005) hx hb X.2.2.2.1 (X.2.2.2.2.1 _ tw_993) dX11_draw_5 ?_
  refine lv_lmul hx hb dX11_draw_8 ?_
  refine lv_ldc2 (v := 1442695040888963407) hx hb X.2.2.2.1 (X.2.2.2.2.1 _ tw_994) dX11_draw_9 ?_
  refine lv_ladd hx hb dX11_draw_12 ?_
  obtain ⟨h3, e4, hf⟩ := Option.bind_eq_some_iff.mp hf
  refine r_pJ X I e4 lp_TrapCorner_296 dX11_draw_13 (fun H locs I => ?_)
  refine lv_iload_n hx hb dX11_draw_16 rfl (lv_at hl 1 rfl) ?_
  refine lv_if_gt (tgt := 24) hx hb dX11_draw_17 (by decide) (fun c5 => ?_) (fun c5 => ?_)
  · rw [if_pos c5] at hf
    refine lv_aload_n hx hb dX11_draw_24 rfl (lv_at hl 0 rfl) ?_
    obtain ⟨v6, e7, hf⟩ := Option.bind_eq_some_iff.mp hf
    refine r_gJ X I e7 lk_TrapCorner_296 dX11_draw_25 ?_
    refine lv_bipush (v := 33) hx hb dX11_draw_28 (by decide) ?_
    refine lv_lushr hx hb dX11_draw_30 rfl ?_
    refine lv_iload_n hx hb dX11_draw_31 rfl (lv_at hl 1 rfl) ?_
    refine lv_i2l hx hb dX11_draw_32 rfl ?_
    have c8 : ¬ (x1.toInt64) = 0 := fun z => by rw [if_pos z] at hf; cases hf
    rw [if_neg c8] at hf
    refine lv_lrem hx hb dX11_draw_33 c8 ?_
    refine lv_l2i hx hb dX11_draw_34 rfl ?_
    cases hf
    exact k_ri X I hr dX11_draw_35
  · rw [if_neg c5] at hf
    refine lv_iconst (v := 0) hx hb dX11_draw_20 (by decide) ?_
    refine lv_goto (tgt := 35) hx hb dX11_draw_21 (by decide) ?_
    cases hf
    exact k_ri X I hr dX11_draw_35
def f_X11_draw (o0 : Nat) (x1 : Int32) (h : AH) : Option (Int32 × AH) := f_X11_draw_0 o0 x1 h
end
theorem c_X11_draw (l : Launch) (g : GG) (o0 : Nat) (x1 : Int32) {h : AH} {res : Int32 × AH} (hf : f_X11_draw o0 x1 h = some res) : CM l g yX11_draw cX11_draw 2 (some (.int)) 1 64 0 0 [.ref (rfG g o0), .int x1] h (some (.int res.1)) res.2 :=
  k_body (by decide) (Nat.le_of_ble_eq_true rfl) (fun p e s m below meth c R ls hR hr X I hl => w_X11_draw_0 X ⟨Nat.le_of_eq hR.1.symm, Nat.le_of_eq hR.2.1.symm⟩ hr o0 x1 h ls s.heap [] hf I (lv_sub hl [0, 1] rfl))
/-! TrapCorner.priceOf(I)I -/
theorem dX11_priceOf_0 : decode cX11_priceOf 0 = .ok (.iload_n 0, 1) := by decide +kernel
theorem dX11_priceOf_1 : decode cX11_priceOf 1 = .ok (.ifCond .ne 7, 3) := by decide +kernel
theorem dX11_priceOf_4 : decode cX11_priceOf 4 = .ok (.iconst 0, 1) := by decide +kernel
theorem dX11_priceOf_5 : decode cX11_priceOf 5 = .ok (.goto 4, 3) := by decide +kernel
theorem dX11_priceOf_8 : decode cX11_priceOf 8 = .ok (.iconst 2, 1) := by decide +kernel
theorem dX11_priceOf_9 : decode cX11_priceOf 9 = .ok (.ireturn, 1) := by decide +kernel
section
variable {g : GG} {p : Program} {l : Launch} {e : Env} {R : Room} {s : State} {m : MethodId} {args : Array Value} {below : List Frame} {meth : Method} {c : Code} {n0 z0 : Nat}
def f_X11_priceOf_0  (x0 : Int32) (h : AH) : Option (Int32 × AH) :=
  if x0 = 0 then
    some (0, h)
  else
    some (2, h)
set_option maxHeartbeats 1000000 in
theorem w_X11_priceOf_0 (X : Cx g p s m args meth c cX11_priceOf 1 "TrapCorner") (hR : 1 ≤ R.frames ∧ 64 ≤ R.locals) (hr : meth.sig.returnType = (some (.int))) {res : Int32 × AH} : ∀ (x0 : Int32) (h : AH) (ls : Array Slot) (H : Heap) (locs : List Loc), f_X11_priceOf_0 x0 h = some res → Iv g s n0 z0 h H locs 0 0 → lv_has ls 1 [(0, .int x0)] → W p l e R s m args below meth c H locs 0 0 (MQ below (QG g (some (.int res.1)) res.2) args s 0 0 (AG g)) (F0 m 0 ls []) := by
  have hx := X.1
  have hb := X.2.1
  intro x0 h ls H locs hf I hl
  unfold f_X11_priceOf_0 at hf
  refine lv_iload_n hx hb dX11_priceOf_0 rfl (lv_at hl 0 rfl) ?_
  refine lv_if_ne (tgt := 8) hx hb dX11_priceOf_1 (by decide) (fun c1 => ?_) (fun c1 => ?_)
  · rw [if_neg c1] at hf
    refine lv_iconst (v := 2) hx hb dX11_priceOf_8 (by decide) ?_
    cases hf
    exact k_ri X I hr dX11_priceOf_9
  · rw [if_pos c1] at hf
    refine lv_iconst (v := 0) hx hb dX11_priceOf_4 (by decide) ?_
    refine lv_goto (tgt := 9) hx hb dX11_priceOf_5 (by decide) ?_
    cases hf
    exact k_ri X I hr dX11_priceOf_9
def f_X11_priceOf (x0 : Int32) (h : AH) : Option (Int32 × AH) := f_X11_priceOf_0 x0 h
end
theorem c_X11_priceOf (l : Launch) (g : GG) (x0 : Int32) {h : AH} {res : Int32 × AH} (hf : f_X11_priceOf x0 h = some res) : CM l g yX11_priceOf cX11_priceOf 1 (some (.int)) 1 64 0 0 [.int x0] h (some (.int res.1)) res.2 :=
  k_body (by decide) (Nat.le_of_ble_eq_true rfl) (fun p e s m below meth c R ls hR hr X I hl => w_X11_priceOf_0 X ⟨Nat.le_of_eq hR.1.symm, Nat.le_of_eq hR.2.1.symm⟩ hr x0 h ls s.heap [] hf I (lv_sub hl [0] rfl))
/-! TrapCorner.stepOf(III)I -/
theorem dX11_stepOf_0 : decode cX11_stepOf 0 = .ok (.iload_n 0, 1) := by decide +kernel
theorem dX11_stepOf_1 : decode cX11_stepOf 1 = .ok (.bipush 100, 2) := by decide +kernel
theorem dX11_stepOf_3 : decode cX11_stepOf 3 = .ok (.imul, 1) := by decide +kernel
theorem dX11_stepOf_4 : decode cX11_stepOf 4 = .ok (.iload_n 1, 1) := by decide +kernel
theorem dX11_stepOf_5 : decode cX11_stepOf 5 = .ok (.bipush 10, 2) := by decide +kernel
theorem dX11_stepOf_7 : decode cX11_stepOf 7 = .ok (.imul, 1) := by decide +kernel
theorem dX11_stepOf_8 : decode cX11_stepOf 8 = .ok (.iadd, 1) := by decide +kernel
theorem dX11_stepOf_9 : decode cX11_stepOf 9 = .ok (.iload_n 2, 1) := by decide +kernel
theorem dX11_stepOf_10 : decode cX11_stepOf 10 = .ok (.iadd, 1) := by decide +kernel
theorem dX11_stepOf_11 : decode cX11_stepOf 11 = .ok (.ireturn, 1) := by decide +kernel
section
variable {g : GG} {p : Program} {l : Launch} {e : Env} {R : Room} {s : State} {m : MethodId} {args : Array Value} {below : List Frame} {meth : Method} {c : Code} {n0 z0 : Nat}
def f_X11_stepOf_0  (x0 : Int32) (x1 : Int32) (x2 : Int32) (h : AH) : Option (Int32 × AH) :=
  some (((x0 * 100) + (x1 * 10)) + x2, h)
set_option maxHeartbeats 1000000 in
theorem w_X11_stepOf_0 (X : Cx g p s m args meth c cX11_stepOf 3 "TrapCorner") (hR : 1 ≤ R.frames ∧ 64 ≤ R.locals) (hr : meth.sig.returnType = (some (.int))) {res : Int32 × AH} : ∀ (x0 : Int32) (x1 : Int32) (x2 : Int32) (h : AH) (ls : Array Slot) (H : Heap) (locs : List Loc), f_X11_stepOf_0 x0 x1 x2 h = some res → Iv g s n0 z0 h H locs 0 0 → lv_has ls 3 [(0, .int x0), (1, .int x1), (2, .int x2)] → W p l e R s m args below meth c H locs 0 0 (MQ below (QG g (some (.int res.1)) res.2) args s 0 0 (AG g)) (F0 m 0 ls []) := by
  have hx := X.1
  have hb := X.2.1
  intro x0 x1 x2 h ls H locs hf I hl
  unfold f_X11_stepOf_0 at hf
  refine lv_iload_n hx hb dX11_stepOf_0 rfl (lv_at hl 0 rfl) ?_
  refine lv_bipush (v := 100) hx hb dX11_stepOf_1 (by decide) ?_
  refine lv_imul hx hb dX11_stepOf_3 ?_
  refine lv_iload_n hx hb dX11_stepOf_4 rfl (lv_at hl 1 rfl) ?_
  refine lv_bipush (v := 10) hx hb dX11_stepOf_5 (by decide) ?_
  refine lv_imul hx hb dX11_stepOf_7 ?_
  refine lv_iadd hx hb dX11_stepOf_8 ?_
  refine lv_iload_n hx hb dX11_stepOf_9 rfl (lv_at hl 2 rfl) ?_
  refine lv_iadd hx hb dX11_stepOf_10 ?_
  cases hf
  exact k_ri X I hr dX11_stepOf_11
def f_X11_stepOf (x0 : Int32) (x1 : Int32) (x2 : Int32) (h : AH) : Option (Int32 × AH) := f_X11_stepOf_0 x0 x1 x2 h
end
theorem c_X11_stepOf (l : Launch) (g : GG) (x0 : Int32) (x1 : Int32) (x2 : Int32) {h : AH} {res : Int32 × AH} (hf : f_X11_stepOf x0 x1 x2 h = some res) : CM l g yX11_stepOf cX11_stepOf 3 (some (.int)) 1 64 0 0 [.int x0, .int x1, .int x2] h (some (.int res.1)) res.2 :=
  k_body (by decide) (Nat.le_of_ble_eq_true rfl) (fun p e s m below meth c R ls hR hr X I hl => w_X11_stepOf_0 X ⟨Nat.le_of_eq hR.1.symm, Nat.le_of_eq hR.2.1.symm⟩ hr x0 x1 x2 h ls s.heap [] hf I (lv_sub hl [0, 1, 2] rfl))
/-! TrapCorner.kindOf(I)I -/
theorem dX11_kindOf_0 : decode cX11_kindOf 0 = .ok (.iload_n 0, 1) := by decide +kernel
theorem dX11_kindOf_1 : decode cX11_kindOf 1 = .ok (.bipush 100, 2) := by decide +kernel
theorem dX11_kindOf_3 : decode cX11_kindOf 3 = .ok (.idiv, 1) := by decide +kernel
theorem dX11_kindOf_4 : decode cX11_kindOf 4 = .ok (.ireturn, 1) := by decide +kernel
section
variable {g : GG} {p : Program} {l : Launch} {e : Env} {R : Room} {s : State} {m : MethodId} {args : Array Value} {below : List Frame} {meth : Method} {c : Code} {n0 z0 : Nat}
def f_X11_kindOf_0  (x0 : Int32) (h : AH) : Option (Int32 × AH) :=
  some (x0 / 100, h)
set_option maxHeartbeats 1000000 in
theorem w_X11_kindOf_0 (X : Cx g p s m args meth c cX11_kindOf 1 "TrapCorner") (hR : 1 ≤ R.frames ∧ 64 ≤ R.locals) (hr : meth.sig.returnType = (some (.int))) {res : Int32 × AH} : ∀ (x0 : Int32) (h : AH) (ls : Array Slot) (H : Heap) (locs : List Loc), f_X11_kindOf_0 x0 h = some res → Iv g s n0 z0 h H locs 0 0 → lv_has ls 1 [(0, .int x0)] → W p l e R s m args below meth c H locs 0 0 (MQ below (QG g (some (.int res.1)) res.2) args s 0 0 (AG g)) (F0 m 0 ls []) := by
  have hx := X.1
  have hb := X.2.1
  intro x0 h ls H locs hf I hl
  unfold f_X11_kindOf_0 at hf
  refine lv_iload_n hx hb dX11_kindOf_0 rfl (lv_at hl 0 rfl) ?_
  refine lv_bipush (v := 100) hx hb dX11_kindOf_1 (by decide) ?_
  refine lv_idiv hx hb dX11_kindOf_3 (by decide) ?_
  cases hf
  exact k_ri X I hr dX11_kindOf_4
def f_X11_kindOf (x0 : Int32) (h : AH) : Option (Int32 × AH) := f_X11_kindOf_0 x0 h
end
theorem c_X11_kindOf (l : Launch) (g : GG) (x0 : Int32) {h : AH} {res : Int32 × AH} (hf : f_X11_kindOf x0 h = some res) : CM l g yX11_kindOf cX11_kindOf 1 (some (.int)) 1 64 0 0 [.int x0] h (some (.int res.1)) res.2 :=
  k_body (by decide) (Nat.le_of_ble_eq_true rfl) (fun p e s m below meth c R ls hR hr X I hl => w_X11_kindOf_0 X ⟨Nat.le_of_eq hR.1.symm, Nat.le_of_eq hR.2.1.symm⟩ hr x0 h ls s.heap [] hf I (lv_sub hl [0] rfl))
/-! TrapCorner.firstOf(I)I -/
theorem dX11_firstOf_0 : decode cX11_firstOf 0 = .ok (.iload_n 0, 1) := by decide +kernel
theorem dX11_firstOf_1 : decode cX11_firstOf 1 = .ok (.bipush 10, 2) := by decide +kernel
theorem dX11_firstOf_3 : decode cX11_firstOf 3 = .ok (.idiv, 1) := by decide +kernel
theorem dX11_firstOf_4 : decode cX11_firstOf 4 = .ok (.bipush 10, 2) := by decide +kernel
theorem dX11_firstOf_6 : decode cX11_firstOf 6 = .ok (.irem, 1) := by decide +kernel
theorem dX11_firstOf_7 : decode cX11_firstOf 7 = .ok (.ireturn, 1) := by decide +kernel
section
variable {g : GG} {p : Program} {l : Launch} {e : Env} {R : Room} {s : State} {m : MethodId} {args : Array Value} {below : List Frame} {meth : Method} {c : Code} {n0 z0 : Nat}
def f_X11_firstOf_0  (x0 : Int32) (h : AH) : Option (Int32 × AH) :=
  some ((x0 / 10) - (x0 / 10) / 10 * 10, h)
set_option maxHeartbeats 1000000 in
theorem w_X11_firstOf_0 (X : Cx g p s m args meth c cX11_firstOf 1 "TrapCorner") (hR : 1 ≤ R.frames ∧ 64 ≤ R.locals) (hr : meth.sig.returnType = (some (.int))) {res : Int32 × AH} : ∀ (x0 : Int32) (h : AH) (ls : Array Slot) (H : Heap) (locs : List Loc), f_X11_firstOf_0 x0 h = some res → Iv g s n0 z0 h H locs 0 0 → lv_has ls 1 [(0, .int x0)] → W p l e R s m args below meth c H locs 0 0 (MQ below (QG g (some (.int res.1)) res.2) args s 0 0 (AG g)) (F0 m 0 ls []) := by
  have hx := X.1
  have hb := X.2.1
  intro x0 h ls H locs hf I hl
  unfold f_X11_firstOf_0 at hf
  refine lv_iload_n hx hb dX11_firstOf_0 rfl (lv_at hl 0 rfl) ?_
  refine lv_bipush (v := 10) hx hb dX11_firstOf_1 (by decide) ?_
  refine lv_idiv hx hb dX11_firstOf_3 (by decide) ?_
  refine lv_bipush (v := 10) hx hb dX11_firstOf_4 (by decide) ?_
  refine lv_irem hx hb dX11_firstOf_6 (by decide) ?_
  cases hf
  exact k_ri X I hr dX11_firstOf_7
def f_X11_firstOf (x0 : Int32) (h : AH) : Option (Int32 × AH) := f_X11_firstOf_0 x0 h
end
theorem c_X11_firstOf (l : Launch) (g : GG) (x0 : Int32) {h : AH} {res : Int32 × AH} (hf : f_X11_firstOf x0 h = some res) : CM l g yX11_firstOf cX11_firstOf 1 (some (.int)) 1 64 0 0 [.int x0] h (some (.int res.1)) res.2 :=
  k_body (by decide) (Nat.le_of_ble_eq_true rfl) (fun p e s m below meth c R ls hR hr X I hl => w_X11_firstOf_0 X ⟨Nat.le_of_eq hR.1.symm, Nat.le_of_eq hR.2.1.symm⟩ hr x0 h ls s.heap [] hf I (lv_sub hl [0] rfl))
/-! TrapCorner.secondOf(I)I -/
theorem dX11_secondOf_0 : decode cX11_secondOf 0 = .ok (.iload_n 0, 1) := by decide +kernel
theorem dX11_secondOf_1 : decode cX11_secondOf 1 = .ok (.bipush 10, 2) := by decide +kernel
theorem dX11_secondOf_3 : decode cX11_secondOf 3 = .ok (.irem, 1) := by decide +kernel
theorem dX11_secondOf_4 : decode cX11_secondOf 4 = .ok (.ireturn, 1) := by decide +kernel
section
variable {g : GG} {p : Program} {l : Launch} {e : Env} {R : Room} {s : State} {m : MethodId} {args : Array Value} {below : List Frame} {meth : Method} {c : Code} {n0 z0 : Nat}
def f_X11_secondOf_0  (x0 : Int32) (h : AH) : Option (Int32 × AH) :=
  some (x0 - x0 / 10 * 10, h)
set_option maxHeartbeats 1000000 in
theorem w_X11_secondOf_0 (X : Cx g p s m args meth c cX11_secondOf 1 "TrapCorner") (hR : 1 ≤ R.frames ∧ 64 ≤ R.locals) (hr : meth.sig.returnType = (some (.int))) {res : Int32 × AH} : ∀ (x0 : Int32) (h : AH) (ls : Array Slot) (H : Heap) (locs : List Loc), f_X11_secondOf_0 x0 h = some res → Iv g s n0 z0 h H locs 0 0 → lv_has ls 1 [(0, .int x0)] → W p l e R s m args below meth c H locs 0 0 (MQ below (QG g (some (.int res.1)) res.2) args s 0 0 (AG g)) (F0 m 0 ls []) := by
  have hx := X.1
  have hb := X.2.1
  intro x0 h ls H locs hf I hl
  unfold f_X11_secondOf_0 at hf
  refine lv_iload_n hx hb dX11_secondOf_0 rfl (lv_at hl 0 rfl) ?_
  refine lv_bipush (v := 10) hx hb dX11_secondOf_1 (by decide) ?_
  refine lv_irem hx hb dX11_secondOf_3 (by decide) ?_
  cases hf
  exact k_ri X I hr dX11_secondOf_4
def f_X11_secondOf (x0 : Int32) (h : AH) : Option (Int32 × AH) := f_X11_secondOf_0 x0 h
end
theorem c_X11_secondOf (l : Launch) (g : GG) (x0 : Int32) {h : AH} {res : Int32 × AH} (hf : f_X11_secondOf x0 h = some res) : CM l g yX11_secondOf cX11_secondOf 1 (some (.int)) 1 64 0 0 [.int x0] h (some (.int res.1)) res.2 :=
  k_body (by decide) (Nat.le_of_ble_eq_true rfl) (fun p e s m below meth c R ls hR hr X I hl => w_X11_secondOf_0 X ⟨Nat.le_of_eq hR.1.symm, Nat.le_of_eq hR.2.1.symm⟩ hr x0 h ls s.heap [] hf I (lv_sub hl [0] rfl))
