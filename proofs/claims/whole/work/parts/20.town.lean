/-! TrapCorner$Town.beyond(II)I -/
theorem dX10_beyond_0 : decode cX10_beyond 0 = .ok (.iload_n 2, 1) := by decide +kernel
theorem dX10_beyond_1 : decode cX10_beyond 1 = .ok (.ifCond .ne 21, 3) := by decide +kernel
theorem dX10_beyond_4 : decode cX10_beyond 4 = .ok (.iload_n 1, 1) := by decide +kernel
theorem dX10_beyond_5 : decode cX10_beyond 5 = .ok (.iconst 1, 1) := by decide +kernel
theorem dX10_beyond_6 : decode cX10_beyond 6 = .ok (.iadd, 1) := by decide +kernel
theorem dX10_beyond_7 : decode cX10_beyond 7 = .ok (.aload_n 0, 1) := by decide +kernel
theorem dX10_beyond_8 : decode cX10_beyond 8 = .ok (.getfield 36, 3) := by decide +kernel
theorem dX10_beyond_11 : decode cX10_beyond 11 = .ok (.if_icmp .ge 9, 3) := by decide +kernel
theorem dX10_beyond_14 : decode cX10_beyond 14 = .ok (.iload_n 1, 1) := by decide +kernel
theorem dX10_beyond_15 : decode cX10_beyond 15 = .ok (.iconst 1, 1) := by decide +kernel
theorem dX10_beyond_16 : decode cX10_beyond 16 = .ok (.iadd, 1) := by decide +kernel
theorem dX10_beyond_17 : decode cX10_beyond 17 = .ok (.goto 4, 3) := by decide +kernel
theorem dX10_beyond_20 : decode cX10_beyond 20 = .ok (.iconst 0, 1) := by decide +kernel
theorem dX10_beyond_21 : decode cX10_beyond 21 = .ok (.ireturn, 1) := by decide +kernel
theorem dX10_beyond_22 : decode cX10_beyond 22 = .ok (.iload_n 1, 1) := by decide +kernel
theorem dX10_beyond_23 : decode cX10_beyond 23 = .ok (.ifCond .le 9, 3) := by decide +kernel
theorem dX10_beyond_26 : decode cX10_beyond 26 = .ok (.iload_n 1, 1) := by decide +kernel
theorem dX10_beyond_27 : decode cX10_beyond 27 = .ok (.iconst 1, 1) := by decide +kernel
theorem dX10_beyond_28 : decode cX10_beyond 28 = .ok (.isub, 1) := by decide +kernel
theorem dX10_beyond_29 : decode cX10_beyond 29 = .ok (.goto 9, 3) := by decide +kernel
theorem dX10_beyond_32 : decode cX10_beyond 32 = .ok (.aload_n 0, 1) := by decide +kernel
theorem dX10_beyond_33 : decode cX10_beyond 33 = .ok (.getfield 36, 3) := by decide +kernel
theorem dX10_beyond_36 : decode cX10_beyond 36 = .ok (.iconst 1, 1) := by decide +kernel
theorem dX10_beyond_37 : decode cX10_beyond 37 = .ok (.isub, 1) := by decide +kernel
theorem dX10_beyond_38 : decode cX10_beyond 38 = .ok (.ireturn, 1) := by decide +kernel
theorem lk_TrapCorner_Town_36 : LK "TrapCorner$Town" 36 [10] 0 := by
  intro ci hci
  have hci := List.mem_singleton.mp hci
  subst hci
  exact ⟨RX10, TX10, 13, "TrapCorner$Town", ck_10, by decide, tw_68, Or.inl rfl⟩
section
variable {g : GG} {p : Program} {l : Launch} {e : Env} {R : Room} {s : State} {m : MethodId} {args : Array Value} {below : List Frame} {meth : Method} {c : Code} {n0 z0 : Nat}
def f_X10_beyond_0  (o0 : Nat) (x1 : Int32) (x2 : Int32) (h : AH) : Option (Int32 × AH) :=
  if x2 = 0 then
    (gI [10] h o0 0).bind fun v5 =>
    if v5 ≤ (x1 + 1) then
      some (0, h)
    else
      some (x1 + 1, h)
  else
    if x1 ≤ 0 then
      (gI [10] h o0 0).bind fun v3 =>
      some (v3 - 1, h)
    else
      some (x1 - 1, h)
set_option maxHeartbeats 1000000 in
theorem w_X10_beyond_0 (X : Cx g p s m args meth c cX10_beyond 3 "TrapCorner$Town") (hR : 1 ≤ R.frames ∧ 64 ≤ R.locals) (hr : meth.sig.returnType = (some (.int))) {res : Int32 × AH} : ∀ (o0 : Nat) (x1 : Int32) (x2 : Int32) (h : AH) (ls : Array Slot) (H : Heap) (locs : List Loc), f_X10_beyond_0 o0 x1 x2 h = some res → Iv g s n0 z0 h H locs 0 0 → lv_has ls 3 [(0, .ref (rfG g o0)), (1, .int x1), (2, .int x2)] → W p l e R s m args below meth c H locs 0 0 (MQ below (QG g (some (.int res.1)) res.2) args s 0 0 (AG g)) (F0 m 0 ls []) := by
  have hx := X.1
  have hb := X.2.1
  intro o0 x1 x2 h ls H locs hf I hl
  unfold f_X10_beyond_0 at hf
  refine lv_iload_n hx hb dX10_beyond_0 rfl (lv_at hl 2 rfl) ?_
  refine lv_if_ne (tgt := 22) hx hb dX10_beyond_1 (by decide) (fun c1 => ?_) (fun c1 => ?_)
  · rw [if_neg c1] at hf
    refine lv_iload_n hx hb dX10_beyond_22 rfl (lv_at hl 1 rfl) ?_
    refine lv_if_le (tgt := 32) hx hb dX10_beyond_23 (by decide) (fun c2 => ?_) (fun c2 => ?_)
    · rw [if_pos c2] at hf
      refine lv_aload_n hx hb dX10_beyond_32 rfl (lv_at hl 0 rfl) ?_
      obtain ⟨v3, e4, hf⟩ := Option.bind_eq_some_iff.mp hf
      refine r_gI X I e4 lk_TrapCorner_Town_36 dX10_beyond_33 ?_
      refine lv_iconst (v := 1) hx hb dX10_beyond_36 (by decide) ?_
      refine lv_isub hx hb dX10_beyond_37 ?_
      cases hf
      exact k_ri X I hr dX10_beyond_38
    · rw [if_neg c2] at hf
      refine lv_iload_n hx hb dX10_beyond_26 rfl (lv_at hl 1 rfl) ?_
      refine lv_iconst (v := 1) hx hb dX10_beyond_27 (by decide) ?_
      refine lv_isub hx hb dX10_beyond_28 ?_
      refine lv_goto (tgt := 38) hx hb dX10_beyond_29 (by decide) ?_
      cases hf
      exact k_ri X I hr dX10_beyond_38
  · rw [if_pos c1] at hf
    refine lv_iload_n hx hb dX10_beyond_4 rfl (lv_at hl 1 rfl) ?_
    refine lv_iconst (v := 1) hx hb dX10_beyond_5 (by decide) ?_
    refine lv_iadd hx hb dX10_beyond_6 ?_
    refine lv_aload_n hx hb dX10_beyond_7 rfl (lv_at hl 0 rfl) ?_
    obtain ⟨v5, e6, hf⟩ := Option.bind_eq_some_iff.mp hf
    refine r_gI X I e6 lk_TrapCorner_Town_36 dX10_beyond_8 ?_
    refine lv_icmp_ge (tgt := 20) hx hb dX10_beyond_11 (by decide) (fun c7 => ?_) (fun c7 => ?_)
    · rw [if_pos c7] at hf
      refine lv_iconst (v := 0) hx hb dX10_beyond_20 (by decide) ?_
      cases hf
      exact k_ri X I hr dX10_beyond_21
    · rw [if_neg c7] at hf
      refine lv_iload_n hx hb dX10_beyond_14 rfl (lv_at hl 1 rfl) ?_
      refine lv_iconst (v := 1) hx hb dX10_beyond_15 (by decide) ?_
      refine lv_iadd hx hb dX10_beyond_16 ?_
      refine lv_goto (tgt := 21) hx hb dX10_beyond_17 (by decide) ?_
      cases hf
      exact k_ri X I hr dX10_beyond_21
def f_X10_beyond (o0 : Nat) (x1 : Int32) (x2 : Int32) (h : AH) : Option (Int32 × AH) := f_X10_beyond_0 o0 x1 x2 h
end
theorem c_X10_beyond (l : Launch) (g : GG) (o0 : Nat) (x1 : Int32) (x2 : Int32) {h : AH} {res : Int32 × AH} (hf : f_X10_beyond o0 x1 x2 h = some res) : CM l g yX10_beyond cX10_beyond 3 (some (.int)) 1 64 0 0 [.ref (rfG g o0), .int x1, .int x2] h (some (.int res.1)) res.2 :=
  k_body (by decide) (Nat.le_of_ble_eq_true rfl) (fun p e s m below meth c R ls hR hr X I hl => w_X10_beyond_0 X ⟨Nat.le_of_eq hR.1.symm, Nat.le_of_eq hR.2.1.symm⟩ hr o0 x1 x2 h ls s.heap [] hf I (lv_sub hl [0, 1, 2] rfl))
/-! TrapCorner$Town.walkLength(II)I -/
theorem dX10_walkLength_0 : decode cX10_walkLength 0 = .ok (.aload_n 0, 1) := by decide +kernel
theorem dX10_walkLength_1 : decode cX10_walkLength 1 = .ok (.getfield 30, 3) := by decide +kernel
theorem dX10_walkLength_4 : decode cX10_walkLength 4 = .ok (.iload_n 1, 1) := by decide +kernel
theorem dX10_walkLength_5 : decode cX10_walkLength 5 = .ok (.iaload, 1) := by decide +kernel
theorem dX10_walkLength_6 : decode cX10_walkLength 6 = .ok (.aload_n 0, 1) := by decide +kernel
theorem dX10_walkLength_7 : decode cX10_walkLength 7 = .ok (.getfield 27, 3) := by decide +kernel
theorem dX10_walkLength_10 : decode cX10_walkLength 10 = .ok (.iload_n 1, 1) := by decide +kernel
theorem dX10_walkLength_11 : decode cX10_walkLength 11 = .ok (.iaload, 1) := by decide +kernel
theorem dX10_walkLength_12 : decode cX10_walkLength 12 = .ok (.isub, 1) := by decide +kernel
theorem dX10_walkLength_13 : decode cX10_walkLength 13 = .ok (.istore_n 3, 1) := by decide +kernel
theorem dX10_walkLength_14 : decode cX10_walkLength 14 = .ok (.iload_n 2, 1) := by decide +kernel
theorem dX10_walkLength_15 : decode cX10_walkLength 15 = .ok (.ifCond .ne 7, 3) := by decide +kernel
theorem dX10_walkLength_18 : decode cX10_walkLength 18 = .ok (.iload_n 3, 1) := by decide +kernel
theorem dX10_walkLength_19 : decode cX10_walkLength 19 = .ok (.goto 5, 3) := by decide +kernel
theorem dX10_walkLength_22 : decode cX10_walkLength 22 = .ok (.iload_n 3, 1) := by decide +kernel
theorem dX10_walkLength_23 : decode cX10_walkLength 23 = .ok (.ineg, 1) := by decide +kernel
theorem dX10_walkLength_24 : decode cX10_walkLength 24 = .ok (.istore 4, 2) := by decide +kernel
theorem dX10_walkLength_26 : decode cX10_walkLength 26 = .ok (.iload 4, 2) := by decide +kernel
theorem dX10_walkLength_28 : decode cX10_walkLength 28 = .ok (.ifCond .ge 13, 3) := by decide +kernel
theorem dX10_walkLength_31 : decode cX10_walkLength 31 = .ok (.iload 4, 2) := by decide +kernel
theorem dX10_walkLength_33 : decode cX10_walkLength 33 = .ok (.aload_n 0, 1) := by decide +kernel
theorem dX10_walkLength_34 : decode cX10_walkLength 34 = .ok (.getfield 36, 3) := by decide +kernel
theorem dX10_walkLength_37 : decode cX10_walkLength 37 = .ok (.iadd, 1) := by decide +kernel
theorem dX10_walkLength_38 : decode cX10_walkLength 38 = .ok (.goto 5, 3) := by decide +kernel
theorem dX10_walkLength_41 : decode cX10_walkLength 41 = .ok (.iload 4, 2) := by decide +kernel
theorem dX10_walkLength_43 : decode cX10_walkLength 43 = .ok (.ireturn, 1) := by decide +kernel
theorem lk_TrapCorner_Town_30 : LK "TrapCorner$Town" 30 [10] 11 := by
  intro ci hci
  have hci := List.mem_singleton.mp hci
  subst hci
  exact ⟨RX10, TX10, 13, "TrapCorner$Town", ck_10, by decide, tw_100, Or.inl rfl⟩
theorem lk_TrapCorner_Town_27 : LK "TrapCorner$Town" 27 [10] 10 := by
  intro ci hci
  have hci := List.mem_singleton.mp hci
  subst hci
  exact ⟨RX10, TX10, 13, "TrapCorner$Town", ck_10, by decide, tw_97, Or.inl rfl⟩
section
variable {g : GG} {p : Program} {l : Launch} {e : Env} {R : Room} {s : State} {m : MethodId} {args : Array Value} {below : List Frame} {meth : Method} {c : Code} {n0 z0 : Nat}
def f_X10_walkLength_24  (o0 : Nat) (s0 : Int32) (h : AH) : Option (Int32 × AH) :=
  if 0 ≤ s0 then
    some (s0, h)
  else
    (gI [10] h o0 0).bind fun v2 =>
    some (s0 + v2, h)
set_option maxHeartbeats 1000000 in
theorem w_X10_walkLength_24 (X : Cx g p s m args meth c cX10_walkLength 5 "TrapCorner$Town") (hR : 1 ≤ R.frames ∧ 64 ≤ R.locals) (hr : meth.sig.returnType = (some (.int))) {res : Int32 × AH} : ∀ (o0 : Nat) (s0 : Int32) (h : AH) (ls : Array Slot) (H : Heap) (locs : List Loc), f_X10_walkLength_24 o0 s0 h = some res → Iv g s n0 z0 h H locs 0 0 → lv_has ls 5 [(0, .ref (rfG g o0))] → W p l e R s m args below meth c H locs 0 0 (MQ below (QG g (some (.int res.1)) res.2) args s 0 0 (AG g)) (F0 m 24 ls [.int s0]) := by
  have hx := X.1
  have hb := X.2.1
  intro o0 s0 h ls H locs hf I hl
  unfold f_X10_walkLength_24 at hf
  refine lv_istore (lv' := [(4, .int s0), (0, .ref (rfG g o0))]) hx hb dX10_walkLength_24 hl (by decide) rfl (fun ls hl => ?_)
  refine lv_iload hx hb dX10_walkLength_26 (lv_at hl 0 rfl) ?_
  refine lv_if_ge (tgt := 41) hx hb dX10_walkLength_28 (by decide) (fun c1 => ?_) (fun c1 => ?_)
  · rw [if_pos c1] at hf
    refine lv_iload hx hb dX10_walkLength_41 (lv_at hl 0 rfl) ?_
    cases hf
    exact k_ri X I hr dX10_walkLength_43
  · rw [if_neg c1] at hf
    refine lv_iload hx hb dX10_walkLength_31 (lv_at hl 0 rfl) ?_
    refine lv_aload_n hx hb dX10_walkLength_33 rfl (lv_at hl 1 rfl) ?_
    obtain ⟨v2, e3, hf⟩ := Option.bind_eq_some_iff.mp hf
    refine r_gI X I e3 lk_TrapCorner_Town_36 dX10_walkLength_34 ?_
    refine lv_iadd hx hb dX10_walkLength_37 ?_
    refine lv_goto (tgt := 43) hx hb dX10_walkLength_38 (by decide) ?_
    cases hf
    exact k_ri X I hr dX10_walkLength_43
def f_X10_walkLength_0  (o0 : Nat) (x1 : Int32) (x2 : Int32) (h : AH) : Option (Int32 × AH) :=
  (gR [10] h o0 11).bind fun v1 =>
  (aI 0 h v1 x1).bind fun v3 =>
  (gR [10] h o0 10).bind fun v5 =>
  (aI 0 h v5 x1).bind fun v7 =>
  if x2 = 0 then
    f_X10_walkLength_24 o0 (v3 - v7) h
  else
    f_X10_walkLength_24 o0 (-(v3 - v7)) h
set_option maxHeartbeats 1000000 in
theorem w_X10_walkLength_0 (X : Cx g p s m args meth c cX10_walkLength 5 "TrapCorner$Town") (hR : 1 ≤ R.frames ∧ 64 ≤ R.locals) (hr : meth.sig.returnType = (some (.int))) {res : Int32 × AH} : ∀ (o0 : Nat) (x1 : Int32) (x2 : Int32) (h : AH) (ls : Array Slot) (H : Heap) (locs : List Loc), f_X10_walkLength_0 o0 x1 x2 h = some res → Iv g s n0 z0 h H locs 0 0 → lv_has ls 5 [(0, .ref (rfG g o0)), (1, .int x1), (2, .int x2)] → W p l e R s m args below meth c H locs 0 0 (MQ below (QG g (some (.int res.1)) res.2) args s 0 0 (AG g)) (F0 m 0 ls []) := by
  have hx := X.1
  have hb := X.2.1
  intro o0 x1 x2 h ls H locs hf I hl
  unfold f_X10_walkLength_0 at hf
  refine lv_aload_n hx hb dX10_walkLength_0 rfl (lv_at hl 0 rfl) ?_
  obtain ⟨v1, e2, hf⟩ := Option.bind_eq_some_iff.mp hf
  refine r_gR X I e2 lk_TrapCorner_Town_30 dX10_walkLength_1 ?_
  refine lv_iload_n hx hb dX10_walkLength_4 rfl (lv_at hl 1 rfl) ?_
  obtain ⟨v3, e4, hf⟩ := Option.bind_eq_some_iff.mp hf
  refine r_aI0 X I e4 dX10_walkLength_5 ?_
  refine lv_aload_n hx hb dX10_walkLength_6 rfl (lv_at hl 0 rfl) ?_
  obtain ⟨v5, e6, hf⟩ := Option.bind_eq_some_iff.mp hf
  refine r_gR X I e6 lk_TrapCorner_Town_27 dX10_walkLength_7 ?_
  refine lv_iload_n hx hb dX10_walkLength_10 rfl (lv_at hl 1 rfl) ?_
  obtain ⟨v7, e8, hf⟩ := Option.bind_eq_some_iff.mp hf
  refine r_aI0 X I e8 dX10_walkLength_11 ?_
  refine lv_isub hx hb dX10_walkLength_12 ?_
  refine lv_istore_n (lv' := [(3, .int (v3 - v7)), (0, .ref (rfG g o0)), (1, .int x1), (2, .int x2)]) hx hb dX10_walkLength_13 rfl hl (by decide) rfl (fun ls hl => ?_)
  refine lv_iload_n hx hb dX10_walkLength_14 rfl (lv_at hl 3 rfl) ?_
  refine lv_if_ne (tgt := 22) hx hb dX10_walkLength_15 (by decide) (fun c9 => ?_) (fun c9 => ?_)
  · rw [if_neg c9] at hf
    refine lv_iload_n hx hb dX10_walkLength_22 rfl (lv_at hl 0 rfl) ?_
    refine lv_ineg hx hb dX10_walkLength_23 ?_
    exact w_X10_walkLength_24 X hR hr  o0 (-(v3 - v7)) h ls H locs hf I (lv_sub hl [1] rfl)
  · rw [if_pos c9] at hf
    refine lv_iload_n hx hb dX10_walkLength_18 rfl (lv_at hl 0 rfl) ?_
    refine lv_goto (tgt := 24) hx hb dX10_walkLength_19 (by decide) ?_
    exact w_X10_walkLength_24 X hR hr  o0 (v3 - v7) h ls H locs hf I (lv_sub hl [1] rfl)
def f_X10_walkLength (o0 : Nat) (x1 : Int32) (x2 : Int32) (h : AH) : Option (Int32 × AH) := f_X10_walkLength_0 o0 x1 x2 h
end
theorem c_X10_walkLength (l : Launch) (g : GG) (o0 : Nat) (x1 : Int32) (x2 : Int32) {h : AH} {res : Int32 × AH} (hf : f_X10_walkLength o0 x1 x2 h = some res) : CM l g yX10_walkLength cX10_walkLength 5 (some (.int)) 1 64 0 0 [.ref (rfG g o0), .int x1, .int x2] h (some (.int res.1)) res.2 :=
  k_body (by decide) (Nat.le_of_ble_eq_true rfl) (fun p e s m below meth c R ls hR hr X I hl => w_X10_walkLength_0 X ⟨Nat.le_of_eq hR.1.symm, Nat.le_of_eq hR.2.1.symm⟩ hr o0 x1 x2 h ls s.heap [] hf I (lv_sub hl [0, 1, 2] rfl))
/-! TrapCorner$Town.walkBits(II)I -/
theorem dX10_walkBits_0 : decode cX10_walkBits 0 = .ok (.iconst 0, 1) := by decide +kernel
theorem dX10_walkBits_1 : decode cX10_walkBits 1 = .ok (.istore_n 3, 1) := by decide +kernel
theorem dX10_walkBits_2 : decode cX10_walkBits 2 = .ok (.aload_n 0, 1) := by decide +kernel
theorem dX10_walkBits_3 : decode cX10_walkBits 3 = .ok (.getfield 27, 3) := by decide +kernel
theorem dX10_walkBits_6 : decode cX10_walkBits 6 = .ok (.iload_n 1, 1) := by decide +kernel
theorem dX10_walkBits_7 : decode cX10_walkBits 7 = .ok (.iaload, 1) := by decide +kernel
theorem dX10_walkBits_8 : decode cX10_walkBits 8 = .ok (.istore 4, 2) := by decide +kernel
theorem dX10_walkBits_10 : decode cX10_walkBits 10 = .ok (.aload_n 0, 1) := by decide +kernel
theorem dX10_walkBits_11 : decode cX10_walkBits 11 = .ok (.iload_n 1, 1) := by decide +kernel
theorem dX10_walkBits_12 : decode cX10_walkBits 12 = .ok (.iload_n 2, 1) := by decide +kernel
theorem dX10_walkBits_13 : decode cX10_walkBits 13 = .ok (.invokevirtual 58, 3) := by decide +kernel
theorem dX10_walkBits_16 : decode cX10_walkBits 16 = .ok (.istore 5, 2) := by decide +kernel
theorem dX10_walkBits_18 : decode cX10_walkBits 18 = .ok (.iconst 0, 1) := by decide +kernel
theorem dX10_walkBits_19 : decode cX10_walkBits 19 = .ok (.istore 6, 2) := by decide +kernel
theorem dX10_walkBits_21 : decode cX10_walkBits 21 = .ok (.iload 6, 2) := by decide +kernel
theorem dX10_walkBits_23 : decode cX10_walkBits 23 = .ok (.iload 5, 2) := by decide +kernel
theorem dX10_walkBits_25 : decode cX10_walkBits 25 = .ok (.if_icmp .ge 25, 3) := by decide +kernel
theorem dX10_walkBits_28 : decode cX10_walkBits 28 = .ok (.aload_n 0, 1) := by decide +kernel
theorem dX10_walkBits_29 : decode cX10_walkBits 29 = .ok (.iload 4, 2) := by decide +kernel
theorem dX10_walkBits_31 : decode cX10_walkBits 31 = .ok (.iload_n 2, 1) := by decide +kernel
theorem dX10_walkBits_32 : decode cX10_walkBits 32 = .ok (.invokevirtual 62, 3) := by decide +kernel
theorem dX10_walkBits_35 : decode cX10_walkBits 35 = .ok (.istore 4, 2) := by decide +kernel
theorem dX10_walkBits_37 : decode cX10_walkBits 37 = .ok (.iload_n 3, 1) := by decide +kernel
theorem dX10_walkBits_38 : decode cX10_walkBits 38 = .ok (.iconst 1, 1) := by decide +kernel
theorem dX10_walkBits_39 : decode cX10_walkBits 39 = .ok (.iload 4, 2) := by decide +kernel
theorem dX10_walkBits_41 : decode cX10_walkBits 41 = .ok (.ishl, 1) := by decide +kernel
theorem dX10_walkBits_42 : decode cX10_walkBits 42 = .ok (.ior, 1) := by decide +kernel
theorem dX10_walkBits_43 : decode cX10_walkBits 43 = .ok (.istore_n 3, 1) := by decide +kernel
theorem dX10_walkBits_44 : decode cX10_walkBits 44 = .ok (.iinc 6 1, 3) := by decide +kernel
theorem dX10_walkBits_47 : decode cX10_walkBits 47 = .ok (.goto (-26), 3) := by decide +kernel
theorem dX10_walkBits_50 : decode cX10_walkBits 50 = .ok (.iload_n 3, 1) := by decide +kernel
theorem dX10_walkBits_51 : decode cX10_walkBits 51 = .ok (.ireturn, 1) := by decide +kernel
theorem vk_TrapCorner_Town_62 : VK "TrapCorner$Town" 62 [10] yX10_beyond 2 := ⟨tw_1117, tw_908, tw_5, ⟨by decide, by decide⟩, by decide +kernel, fun ci hci => by
  have hci := List.mem_singleton.mp hci
  subst hci
  exact ⟨_, rfl, tw_909⟩⟩
theorem vk_TrapCorner_Town_58 : VK "TrapCorner$Town" 58 [10] yX10_walkLength 2 := ⟨tw_1116, tw_904, tw_5, ⟨by decide, by decide⟩, by decide +kernel, fun ci hci => by
  have hci := List.mem_singleton.mp hci
  subst hci
  exact ⟨_, rfl, tw_905⟩⟩
section
variable {g : GG} {p : Program} {l : Launch} {e : Env} {R : Room} {s : State} {m : MethodId} {args : Array Value} {below : List Frame} {meth : Method} {c : Code} {n0 z0 : Nat}
def f_X10_walkBits_21  : Nat → Nat → Int32 → Int32 → Int32 → Int32 → Int32 → AH → Option (Int32 × AH)
  | 0, _, _, _, _, _, _, _ => none
  | n + 1, o0, x2, x3, x4, x5, x6, h =>
  if x5 ≤ x6 then
    some (x3, h)
  else
    (isC [10] h o0).bind fun _ =>
    cN (f_X10_beyond o0 x4 x2 h) h fun v2 h3 =>
    f_X10_walkBits_21  n o0 x2 (x3 ||| (1 <<< (v2 &&& 31))) v2 x5 (x6 + 1) h3
set_option maxHeartbeats 1000000 in
theorem w_X10_walkBits_21 (X : Cx g p s m args meth c cX10_walkBits 7 "TrapCorner$Town") (hR : 2 ≤ R.frames ∧ 128 ≤ R.locals) (hr : meth.sig.returnType = (some (.int))) {res : Int32 × AH} : ∀ (n : Nat) (o0 : Nat) (x2 : Int32) (x3 : Int32) (x4 : Int32) (x5 : Int32) (x6 : Int32) (h : AH) (ls : Array Slot) (H : Heap) (locs : List Loc), f_X10_walkBits_21 n o0 x2 x3 x4 x5 x6 h = some res → Iv g s n0 z0 h H locs 0 0 → lv_has ls 7 [(0, .ref (rfG g o0)), (2, .int x2), (3, .int x3), (4, .int x4), (5, .int x5), (6, .int x6)] → W p l e R s m args below meth c H locs 0 0 (MQ below (QG g (some (.int res.1)) res.2) args s 0 0 (AG g)) (F0 m 21 ls []) := by
  have hx := X.1
  have hb := X.2.1
  intro n
  induction n with
  | zero =>
    intro o0 x2 x3 x4 x5 x6 h ls H locs hf
    rw [f_X10_walkBits_21.eq_1] at hf
    cases hf
  | succ n ih =>
    intro o0 x2 x3 x4 x5 x6 h ls H locs hf I hl
    rw [f_X10_walkBits_21.eq_2] at hf
    refine lv_iload hx hb dX10_walkBits_21 (lv_at hl 5 rfl) ?_
    refine lv_iload hx hb dX10_walkBits_23 (lv_at hl 4 rfl) ?_
    refine lv_icmp_ge (tgt := 50) hx hb dX10_walkBits_25 (by decide) (fun c1 => ?_) (fun c1 => ?_)
    · rw [if_pos c1] at hf
      refine lv_iload_n hx hb dX10_walkBits_50 rfl (lv_at hl 2 rfl) ?_
      cases hf
      exact k_ri X I hr dX10_walkBits_51
    · rw [if_neg c1] at hf
      refine lv_aload_n hx hb dX10_walkBits_28 rfl (lv_at hl 0 rfl) ?_
      refine lv_iload hx hb dX10_walkBits_29 (lv_at hl 3 rfl) ?_
      refine lv_iload_n hx hb dX10_walkBits_31 rfl (lv_at hl 1 rfl) ?_
      obtain ⟨_, g6, hf⟩ := Option.bind_eq_some_iff.mp hf
      obtain ⟨v2, h3, e4, z5, hf⟩ := cN_spec hf
      refine k_Vi (As := [.int x4, .int x2]) (rest := []) X I (c_X10_beyond l g o0 x4 x2 e4) z5 g6 vk_TrapCorner_Town_62 tw_910 ⟨Nat.le_trans (by decide) hR.1, Nat.le_trans (by decide) hR.2⟩ ⟨Nat.zero_le _, Nat.zero_le _⟩ rfl hl.1 rfl (Nat.le_of_ble_eq_true rfl) dX10_walkBits_32 (fun H locs I => ?_)
      refine lv_istore (lv' := [(4, .int v2), (0, .ref (rfG g o0)), (2, .int x2), (3, .int x3), (5, .int x5), (6, .int x6)]) hx hb dX10_walkBits_35 hl (by decide) rfl (fun ls hl => ?_)
      refine lv_iload_n hx hb dX10_walkBits_37 rfl (lv_at hl 3 rfl) ?_
      refine lv_iconst (v := 1) hx hb dX10_walkBits_38 (by decide) ?_
      refine lv_iload hx hb dX10_walkBits_39 (lv_at hl 0 rfl) ?_
      refine lv_ishl hx hb dX10_walkBits_41 ?_
      refine lv_ior hx hb dX10_walkBits_42 ?_
      refine lv_istore_n (lv' := [(3, .int (x3 ||| (1 <<< (v2 &&& 31)))), (4, .int v2), (0, .ref (rfG g o0)), (2, .int x2), (5, .int x5), (6, .int x6)]) hx hb dX10_walkBits_43 rfl hl (by decide) rfl (fun ls hl => ?_)
      refine lv_iinc (v := x6 + 1) (lv' := [(6, .int (x6 + 1)), (3, .int (x3 ||| (1 <<< (v2 &&& 31)))), (4, .int v2), (0, .ref (rfG g o0)), (2, .int x2), (5, .int x5)]) hx hb dX10_walkBits_44 hl (k := 5) rfl rfl (by decide) rfl (fun ls hl => ?_)
      refine lv_goto (tgt := 21) hx hb dX10_walkBits_47 (by decide) ?_
      exact ih o0 x2 (x3 ||| (1 <<< (v2 &&& 31))) v2 x5 (x6 + 1) h3 ls H locs hf I (lv_sub hl [3, 4, 1, 2, 5, 0] rfl)
def f_X10_walkBits_0  (o0 : Nat) (x1 : Int32) (x2 : Int32) (h : AH) : Option (Int32 × AH) :=
  (gR [10] h o0 10).bind fun v1 =>
  (aI 0 h v1 x1).bind fun v3 =>
  (isC [10] h o0).bind fun _ =>
  cN (f_X10_walkLength o0 x1 x2 h) h fun v5 h6 =>
  f_X10_walkBits_21 fu o0 x2 0 v3 v5 0 h6
set_option maxHeartbeats 1000000 in
theorem w_X10_walkBits_0 (X : Cx g p s m args meth c cX10_walkBits 7 "TrapCorner$Town") (hR : 2 ≤ R.frames ∧ 128 ≤ R.locals) (hr : meth.sig.returnType = (some (.int))) {res : Int32 × AH} : ∀ (o0 : Nat) (x1 : Int32) (x2 : Int32) (h : AH) (ls : Array Slot) (H : Heap) (locs : List Loc), f_X10_walkBits_0 o0 x1 x2 h = some res → Iv g s n0 z0 h H locs 0 0 → lv_has ls 7 [(0, .ref (rfG g o0)), (1, .int x1), (2, .int x2)] → W p l e R s m args below meth c H locs 0 0 (MQ below (QG g (some (.int res.1)) res.2) args s 0 0 (AG g)) (F0 m 0 ls []) := by
  have hx := X.1
  have hb := X.2.1
  intro o0 x1 x2 h ls H locs hf I hl
  unfold f_X10_walkBits_0 at hf
  refine lv_iconst (v := 0) hx hb dX10_walkBits_0 (by decide) ?_
  refine lv_istore_n (lv' := [(3, .int 0), (0, .ref (rfG g o0)), (1, .int x1), (2, .int x2)]) hx hb dX10_walkBits_1 rfl hl (by decide) rfl (fun ls hl => ?_)
  refine lv_aload_n hx hb dX10_walkBits_2 rfl (lv_at hl 1 rfl) ?_
  obtain ⟨v1, e2, hf⟩ := Option.bind_eq_some_iff.mp hf
  refine r_gR X I e2 lk_TrapCorner_Town_27 dX10_walkBits_3 ?_
  refine lv_iload_n hx hb dX10_walkBits_6 rfl (lv_at hl 2 rfl) ?_
  obtain ⟨v3, e4, hf⟩ := Option.bind_eq_some_iff.mp hf
  refine r_aI0 X I e4 dX10_walkBits_7 ?_
  refine lv_istore (lv' := [(4, .int v3), (3, .int 0), (0, .ref (rfG g o0)), (1, .int x1), (2, .int x2)]) hx hb dX10_walkBits_8 hl (by decide) rfl (fun ls hl => ?_)
  refine lv_aload_n hx hb dX10_walkBits_10 rfl (lv_at hl 2 rfl) ?_
  refine lv_iload_n hx hb dX10_walkBits_11 rfl (lv_at hl 3 rfl) ?_
  refine lv_iload_n hx hb dX10_walkBits_12 rfl (lv_at hl 4 rfl) ?_
  obtain ⟨_, g9, hf⟩ := Option.bind_eq_some_iff.mp hf
  obtain ⟨v5, h6, e7, z8, hf⟩ := cN_spec hf
  refine k_Vi (As := [.int x1, .int x2]) (rest := []) X I (c_X10_walkLength l g o0 x1 x2 e7) z8 g9 vk_TrapCorner_Town_58 tw_906 ⟨Nat.le_trans (by decide) hR.1, Nat.le_trans (by decide) hR.2⟩ ⟨Nat.zero_le _, Nat.zero_le _⟩ rfl hl.1 rfl (Nat.le_of_ble_eq_true rfl) dX10_walkBits_13 (fun H locs I => ?_)
  refine lv_istore (lv' := [(5, .int v5), (4, .int v3), (3, .int 0), (0, .ref (rfG g o0)), (1, .int x1), (2, .int x2)]) hx hb dX10_walkBits_16 hl (by decide) rfl (fun ls hl => ?_)
  refine lv_iconst (v := 0) hx hb dX10_walkBits_18 (by decide) ?_
  refine lv_istore (lv' := [(6, .int 0), (5, .int v5), (4, .int v3), (3, .int 0), (0, .ref (rfG g o0)), (1, .int x1), (2, .int x2)]) hx hb dX10_walkBits_19 hl (by decide) rfl (fun ls hl => ?_)
  exact w_X10_walkBits_21 X hR hr fu o0 x2 0 v3 v5 0 h6 ls H locs hf I (lv_sub hl [4, 6, 3, 2, 1, 0] rfl)
def f_X10_walkBits (o0 : Nat) (x1 : Int32) (x2 : Int32) (h : AH) : Option (Int32 × AH) := f_X10_walkBits_0 o0 x1 x2 h
end
theorem c_X10_walkBits (l : Launch) (g : GG) (o0 : Nat) (x1 : Int32) (x2 : Int32) {h : AH} {res : Int32 × AH} (hf : f_X10_walkBits o0 x1 x2 h = some res) : CM l g yX10_walkBits cX10_walkBits 7 (some (.int)) 2 128 0 0 [.ref (rfG g o0), .int x1, .int x2] h (some (.int res.1)) res.2 :=
  k_body (by decide) (Nat.le_of_ble_eq_true rfl) (fun p e s m below meth c R ls hR hr X I hl => w_X10_walkBits_0 X ⟨Nat.le_of_eq hR.1.symm, Nat.le_of_eq hR.2.1.symm⟩ hr o0 x1 x2 h ls s.heap [] hf I (lv_sub hl [0, 1, 2] rfl))
