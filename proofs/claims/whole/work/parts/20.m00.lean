/-! TrapCorner$History.clear()V -/
theorem dX1_clear_0 : decode cX1_clear 0 = .ok (.aload_n 0, 1) := by decide +kernel
theorem dX1_clear_1 : decode cX1_clear 1 = .ok (.iconst 0, 1) := by decide +kernel
theorem dX1_clear_2 : decode cX1_clear 2 = .ok (.putfield 29, 3) := by decide +kernel
theorem dX1_clear_5 : decode cX1_clear 5 = .ok (.aload_n 0, 1) := by decide +kernel
theorem dX1_clear_6 : decode cX1_clear 6 = .ok (.iconst 0, 1) := by decide +kernel
theorem dX1_clear_7 : decode cX1_clear 7 = .ok (.putfield 33, 3) := by decide +kernel
theorem dX1_clear_10 : decode cX1_clear 10 = .ok (.return_, 1) := by decide +kernel
theorem lp_TrapCorner_History_29 : LKP "TrapCorner$History" 29 [1] 2 (.int) := by
  intro ci hci
  have hci := List.mem_singleton.mp hci
  subst hci
  exact ⟨RX1, TX1, 7, "TrapCorner$History", ck_1, by decide, tw_252, Or.inl rfl, rfl, by decide +kernel⟩
theorem lp_TrapCorner_History_33 : LKP "TrapCorner$History" 33 [1] 6 (.boolean) := by
  intro ci hci
  have hci := List.mem_singleton.mp hci
  subst hci
  exact ⟨RX1, TX1, 7, "TrapCorner$History", ck_1, by decide, tw_257, Or.inl rfl, rfl, by decide +kernel⟩
section
variable {g : GG} {p : Program} {l : Launch} {e : Env} {R : Room} {s : State} {m : MethodId} {args : Array Value} {below : List Frame} {meth : Method} {c : Code} {n0 z0 : Nat}
def f_X1_clear_0  (o0 : Nat) (h : AH) : Option (Unit × AH) :=
  (pV [1] h o0 2 (.int 0)).bind fun h1 =>
  (pZ [1] h1 o0 6 0).bind fun h3 =>
  some ((), h3)
set_option maxHeartbeats 1000000 in
theorem w_X1_clear_0 (X : Cx g p s m args meth c cX1_clear 1 "TrapCorner$History") (hR : 1 ≤ R.frames ∧ 64 ≤ R.locals) (hr : meth.sig.returnType = none) {res : Unit × AH} : ∀ (o0 : Nat) (h : AH) (ls : Array Slot) (H : Heap) (locs : List Loc), f_X1_clear_0 o0 h = some res → Iv g s n0 z0 h H locs 0 0 → lv_has ls 1 [(0, .ref (rfG g o0))] → W p l e R s m args below meth c H locs 0 0 (MQ below (QG g none res.2) args s 0 0 (AG g)) (F0 m 0 ls []) := by
  have hx := X.1
  have hb := X.2.1
  intro o0 h ls H locs hf I hl
  unfold f_X1_clear_0 at hf
  refine lv_aload_n hx hb dX1_clear_0 rfl (lv_at hl 0 rfl) ?_
  refine lv_iconst (v := 0) hx hb dX1_clear_1 (by decide) ?_
  obtain ⟨h1, e2, hf⟩ := Option.bind_eq_some_iff.mp hf
  refine r_pI X I e2 lp_TrapCorner_History_29 dX1_clear_2 (fun H locs I => ?_)
  refine lv_aload_n hx hb dX1_clear_5 rfl (lv_at hl 0 rfl) ?_
  refine lv_iconst (v := 0) hx hb dX1_clear_6 (by decide) ?_
  obtain ⟨h3, e4, hf⟩ := Option.bind_eq_some_iff.mp hf
  refine r_pZ X I e4 lp_TrapCorner_History_33 dX1_clear_7 (fun H locs I => ?_)
  cases hf
  exact k_rv X I hr dX1_clear_10
def f_X1_clear (o0 : Nat) (h : AH) : Option (Unit × AH) := f_X1_clear_0 o0 h
end
theorem c_X1_clear (l : Launch) (g : GG) (o0 : Nat) {h : AH} {res : Unit × AH} (hf : f_X1_clear o0 h = some res) : CM l g yX1_clear cX1_clear 1 none 1 64 0 0 [.ref (rfG g o0)] h none res.2 :=
  k_body (by decide) (Nat.le_of_ble_eq_true rfl) (fun p e s m below meth c R ls hR hr X I hl => w_X1_clear_0 X ⟨Nat.le_of_eq hR.1.symm, Nat.le_of_eq hR.2.1.symm⟩ hr o0 h ls s.heap [] hf I (lv_sub hl [0] rfl))
/-! TrapCorner$LawReader.emit(I)V -/
theorem dX2_emit_0 : decode cX2_emit 0 = .ok (.aload_n 0, 1) := by decide +kernel
theorem dX2_emit_1 : decode cX2_emit 1 = .ok (.getfield 15, 3) := by decide +kernel
theorem dX2_emit_4 : decode cX2_emit 4 = .ok (.aload_n 0, 1) := by decide +kernel
theorem dX2_emit_5 : decode cX2_emit 5 = .ok (.getfield 9, 3) := by decide +kernel
theorem dX2_emit_8 : decode cX2_emit 8 = .ok (.arraylength, 1) := by decide +kernel
theorem dX2_emit_9 : decode cX2_emit 9 = .ok (.if_icmp .ge 23, 3) := by decide +kernel
theorem dX2_emit_12 : decode cX2_emit 12 = .ok (.aload_n 0, 1) := by decide +kernel
theorem dX2_emit_13 : decode cX2_emit 13 = .ok (.getfield 9, 3) := by decide +kernel
theorem dX2_emit_16 : decode cX2_emit 16 = .ok (.aload_n 0, 1) := by decide +kernel
theorem dX2_emit_17 : decode cX2_emit 17 = .ok (.getfield 15, 3) := by decide +kernel
theorem dX2_emit_20 : decode cX2_emit 20 = .ok (.iload_n 1, 1) := by decide +kernel
theorem dX2_emit_21 : decode cX2_emit 21 = .ok (.iastore, 1) := by decide +kernel
theorem dX2_emit_22 : decode cX2_emit 22 = .ok (.aload_n 0, 1) := by decide +kernel
theorem dX2_emit_23 : decode cX2_emit 23 = .ok (.dup, 1) := by decide +kernel
theorem dX2_emit_24 : decode cX2_emit 24 = .ok (.getfield 15, 3) := by decide +kernel
theorem dX2_emit_27 : decode cX2_emit 27 = .ok (.iconst 1, 1) := by decide +kernel
theorem dX2_emit_28 : decode cX2_emit 28 = .ok (.iadd, 1) := by decide +kernel
theorem dX2_emit_29 : decode cX2_emit 29 = .ok (.putfield 15, 3) := by decide +kernel
theorem dX2_emit_32 : decode cX2_emit 32 = .ok (.return_, 1) := by decide +kernel
theorem lk_TrapCorner_LawReader_15 : LK "TrapCorner$LawReader" 15 [2] 4 := by
  intro ci hci
  have hci := List.mem_singleton.mp hci
  subst hci
  exact ⟨RX2, TX2, 5, "TrapCorner$LawReader", ck_2, by decide, tw_167, Or.inl rfl⟩
theorem lk_TrapCorner_LawReader_9 : LK "TrapCorner$LawReader" 9 [2] 3 := by
  intro ci hci
  have hci := List.mem_singleton.mp hci
  subst hci
  exact ⟨RX2, TX2, 5, "TrapCorner$LawReader", ck_2, by decide, tw_166, Or.inl rfl⟩
theorem lp_TrapCorner_LawReader_15 : LKP "TrapCorner$LawReader" 15 [2] 4 (.int) := by
  intro ci hci
  have hci := List.mem_singleton.mp hci
  subst hci
  exact ⟨RX2, TX2, 5, "TrapCorner$LawReader", ck_2, by decide, tw_167, Or.inl rfl, rfl, by decide +kernel⟩
section
variable {g : GG} {p : Program} {l : Launch} {e : Env} {R : Room} {s : State} {m : MethodId} {args : Array Value} {below : List Frame} {meth : Method} {c : Code} {n0 z0 : Nat}
def f_X2_emit_0  (o0 : Nat) (x1 : Int32) (h : AH) : Option (Unit × AH) :=
  (gI [2] h o0 4).bind fun v1 =>
  (gR [2] h o0 3).bind fun v3 =>
  (aLen h v3).bind fun v5 =>
  if v5 ≤ v1 then
    some ((), h)
  else
    (gR [2] h o0 3).bind fun v8 =>
    (gI [2] h o0 4).bind fun v10 =>
    (uI 0 h v8 v10 x1).bind fun h12 =>
    (gI [2] h12 o0 4).bind fun v14 =>
    (pV [2] h12 o0 4 (.int (v14 + 1))).bind fun h16 =>
    some ((), h16)
set_option maxHeartbeats 1000000 in
theorem w_X2_emit_0 (X : Cx g p s m args meth c cX2_emit 2 "TrapCorner$LawReader") (hR : 1 ≤ R.frames ∧ 64 ≤ R.locals) (hr : meth.sig.returnType = none) {res : Unit × AH} : ∀ (o0 : Nat) (x1 : Int32) (h : AH) (ls : Array Slot) (H : Heap) (locs : List Loc), f_X2_emit_0 o0 x1 h = some res → Iv g s n0 z0 h H locs 0 0 → lv_has ls 2 [(0, .ref (rfG g o0)), (1, .int x1)] → W p l e R s m args below meth c H locs 0 0 (MQ below (QG g none res.2) args s 0 0 (AG g)) (F0 m 0 ls []) := by
  have hx := X.1
  have hb := X.2.1
  intro o0 x1 h ls H locs hf I hl
  unfold f_X2_emit_0 at hf
  refine lv_aload_n hx hb dX2_emit_0 rfl (lv_at hl 0 rfl) ?_
  obtain ⟨v1, e2, hf⟩ := Option.bind_eq_some_iff.mp hf
  refine r_gI X I e2 lk_TrapCorner_LawReader_15 dX2_emit_1 ?_
  refine lv_aload_n hx hb dX2_emit_4 rfl (lv_at hl 0 rfl) ?_
  obtain ⟨v3, e4, hf⟩ := Option.bind_eq_some_iff.mp hf
  refine r_gR X I e4 lk_TrapCorner_LawReader_9 dX2_emit_5 ?_
  obtain ⟨v5, e6, hf⟩ := Option.bind_eq_some_iff.mp hf
  refine r_len X I e6 dX2_emit_8 ?_
  refine lv_icmp_ge (tgt := 32) hx hb dX2_emit_9 (by decide) (fun c7 => ?_) (fun c7 => ?_)
  · rw [if_pos c7] at hf
    cases hf
    exact k_rv X I hr dX2_emit_32
  · rw [if_neg c7] at hf
    refine lv_aload_n hx hb dX2_emit_12 rfl (lv_at hl 0 rfl) ?_
    obtain ⟨v8, e9, hf⟩ := Option.bind_eq_some_iff.mp hf
    refine r_gR X I e9 lk_TrapCorner_LawReader_9 dX2_emit_13 ?_
    refine lv_aload_n hx hb dX2_emit_16 rfl (lv_at hl 0 rfl) ?_
    obtain ⟨v10, e11, hf⟩ := Option.bind_eq_some_iff.mp hf
    refine r_gI X I e11 lk_TrapCorner_LawReader_15 dX2_emit_17 ?_
    refine lv_iload_n hx hb dX2_emit_20 rfl (lv_at hl 1 rfl) ?_
    obtain ⟨h12, e13, hf⟩ := Option.bind_eq_some_iff.mp hf
    refine r_uI0 X I e13 dX2_emit_21 (fun H locs I => ?_)
    refine lv_aload_n hx hb dX2_emit_22 rfl (lv_at hl 0 rfl) ?_
    refine lv_dup hx hb dX2_emit_23 rfl ?_
    obtain ⟨v14, e15, hf⟩ := Option.bind_eq_some_iff.mp hf
    refine r_gI X I e15 lk_TrapCorner_LawReader_15 dX2_emit_24 ?_
    refine lv_iconst (v := 1) hx hb dX2_emit_27 (by decide) ?_
    refine lv_iadd hx hb dX2_emit_28 ?_
    obtain ⟨h16, e17, hf⟩ := Option.bind_eq_some_iff.mp hf
    refine r_pI X I e17 lp_TrapCorner_LawReader_15 dX2_emit_29 (fun H locs I => ?_)
    cases hf
    exact k_rv X I hr dX2_emit_32
def f_X2_emit (o0 : Nat) (x1 : Int32) (h : AH) : Option (Unit × AH) := f_X2_emit_0 o0 x1 h
end
theorem c_X2_emit (l : Launch) (g : GG) (o0 : Nat) (x1 : Int32) {h : AH} {res : Unit × AH} (hf : f_X2_emit o0 x1 h = some res) : CM l g yX2_emit cX2_emit 2 none 1 64 0 0 [.ref (rfG g o0), .int x1] h none res.2 :=
  k_body (by decide) (Nat.le_of_ble_eq_true rfl) (fun p e s m below meth c R ls hR hr X I hl => w_X2_emit_0 X ⟨Nat.le_of_eq hR.1.symm, Nat.le_of_eq hR.2.1.symm⟩ hr o0 x1 h ls s.heap [] hf I (lv_sub hl [0, 1] rfl))
/-! TrapCorner$LawReader.startsUnit(I)Z -/
theorem dX2_startsUnit_0 : decode cX2_startsUnit 0 = .ok (.iload_n 0, 1) := by decide +kernel
theorem dX2_startsUnit_1 : decode cX2_startsUnit 1 = .ok (.bipush 33, 2) := by decide +kernel
theorem dX2_startsUnit_3 : decode cX2_startsUnit 3 = .ok (.if_icmp .eq 9, 3) := by decide +kernel
theorem dX2_startsUnit_6 : decode cX2_startsUnit 6 = .ok (.iload_n 0, 1) := by decide +kernel
theorem dX2_startsUnit_7 : decode cX2_startsUnit 7 = .ok (.bipush 40, 2) := by decide +kernel
theorem dX2_startsUnit_9 : decode cX2_startsUnit 9 = .ok (.if_icmp .ne 7, 3) := by decide +kernel
theorem dX2_startsUnit_12 : decode cX2_startsUnit 12 = .ok (.iconst 1, 1) := by decide +kernel
theorem dX2_startsUnit_13 : decode cX2_startsUnit 13 = .ok (.goto 4, 3) := by decide +kernel
theorem dX2_startsUnit_16 : decode cX2_startsUnit 16 = .ok (.iconst 0, 1) := by decide +kernel
theorem dX2_startsUnit_17 : decode cX2_startsUnit 17 = .ok (.ireturn, 1) := by decide +kernel
section
variable {g : GG} {p : Program} {l : Launch} {e : Env} {R : Room} {s : State} {m : MethodId} {args : Array Value} {below : List Frame} {meth : Method} {c : Code} {n0 z0 : Nat}
def f_X2_startsUnit_12  (h : AH) : Option (Int32 × AH) :=
  some (1, h)
set_option maxHeartbeats 1000000 in
theorem w_X2_startsUnit_12 (X : Cx g p s m args meth c cX2_startsUnit 1 "TrapCorner$LawReader") (hR : 1 ≤ R.frames ∧ 64 ≤ R.locals) (hr : meth.sig.returnType = (some (.boolean))) {res : Int32 × AH} : ∀ (h : AH) (ls : Array Slot) (H : Heap) (locs : List Loc), f_X2_startsUnit_12  h = some res → Iv g s n0 z0 h H locs 0 0 → lv_has ls 1 [] → W p l e R s m args below meth c H locs 0 0 (MQ below (QG g (some (.int res.1)) res.2) args s 0 0 (AG g)) (F0 m 12 ls []) := by
  have hx := X.1
  have hb := X.2.1
  intro  h ls H locs hf I hl
  unfold f_X2_startsUnit_12 at hf
  refine lv_iconst (v := 1) hx hb dX2_startsUnit_12 (by decide) ?_
  refine lv_goto (tgt := 17) hx hb dX2_startsUnit_13 (by decide) ?_
  cases hf
  exact k_rz X I hr (Or.inr rfl) dX2_startsUnit_17
def f_X2_startsUnit_0  (x0 : Int32) (h : AH) : Option (Int32 × AH) :=
  if x0 = 33 then
    f_X2_startsUnit_12 h
  else
    if x0 = 40 then
      f_X2_startsUnit_12 h
    else
      some (0, h)
set_option maxHeartbeats 1000000 in
theorem w_X2_startsUnit_0 (X : Cx g p s m args meth c cX2_startsUnit 1 "TrapCorner$LawReader") (hR : 1 ≤ R.frames ∧ 64 ≤ R.locals) (hr : meth.sig.returnType = (some (.boolean))) {res : Int32 × AH} : ∀ (x0 : Int32) (h : AH) (ls : Array Slot) (H : Heap) (locs : List Loc), f_X2_startsUnit_0 x0 h = some res → Iv g s n0 z0 h H locs 0 0 → lv_has ls 1 [(0, .int x0)] → W p l e R s m args below meth c H locs 0 0 (MQ below (QG g (some (.int res.1)) res.2) args s 0 0 (AG g)) (F0 m 0 ls []) := by
  have hx := X.1
  have hb := X.2.1
  intro x0 h ls H locs hf I hl
  unfold f_X2_startsUnit_0 at hf
  refine lv_iload_n hx hb dX2_startsUnit_0 rfl (lv_at hl 0 rfl) ?_
  refine lv_bipush (v := 33) hx hb dX2_startsUnit_1 (by decide) ?_
  refine lv_icmp_eq (tgt := 12) hx hb dX2_startsUnit_3 (by decide) (fun c1 => ?_) (fun c1 => ?_)
  · rw [if_pos c1] at hf
    exact w_X2_startsUnit_12 X hR hr  h ls H locs hf I (lv_sub hl [] rfl)
  · rw [if_neg c1] at hf
    refine lv_iload_n hx hb dX2_startsUnit_6 rfl (lv_at hl 0 rfl) ?_
    refine lv_bipush (v := 40) hx hb dX2_startsUnit_7 (by decide) ?_
    refine lv_icmp_ne (tgt := 16) hx hb dX2_startsUnit_9 (by decide) (fun c2 => ?_) (fun c2 => ?_)
    · rw [if_neg c2] at hf
      refine lv_iconst (v := 0) hx hb dX2_startsUnit_16 (by decide) ?_
      cases hf
      exact k_rz X I hr (Or.inl rfl) dX2_startsUnit_17
    · rw [if_pos c2] at hf
      exact w_X2_startsUnit_12 X hR hr  h ls H locs hf I (lv_sub hl [] rfl)
def f_X2_startsUnit (x0 : Int32) (h : AH) : Option (Int32 × AH) := f_X2_startsUnit_0 x0 h
end
theorem c_X2_startsUnit (l : Launch) (g : GG) (x0 : Int32) {h : AH} {res : Int32 × AH} (hf : f_X2_startsUnit x0 h = some res) : CM l g yX2_startsUnit cX2_startsUnit 1 (some (.boolean)) 1 64 0 0 [.int x0] h (some (.int res.1)) res.2 :=
  k_body (by decide) (Nat.le_of_ble_eq_true rfl) (fun p e s m below meth c R ls hR hr X I hl => w_X2_startsUnit_0 X ⟨Nat.le_of_eq hR.1.symm, Nat.le_of_eq hR.2.1.symm⟩ hr x0 h ls s.heap [] hf I (lv_sub hl [0] rfl))
/-! TrapCorner$LawReader.comparing(I)I -/
theorem dX2_comparing_0 : decode cX2_comparing 0 = .ok (.iload_n 0, 1) := by decide +kernel
theorem dX2_comparing_1 : decode cX2_comparing 1 = .ok (.tableswitch 39 60 62 #[31, 27, 35], 27) := by decide +kernel
theorem dX2_comparing_28 : decode cX2_comparing 28 = .ok (.sipush 10010, 3) := by decide +kernel
theorem dX2_comparing_31 : decode cX2_comparing 31 = .ok (.ireturn, 1) := by decide +kernel
theorem dX2_comparing_32 : decode cX2_comparing 32 = .ok (.sipush 10011, 3) := by decide +kernel
theorem dX2_comparing_35 : decode cX2_comparing 35 = .ok (.ireturn, 1) := by decide +kernel
theorem dX2_comparing_36 : decode cX2_comparing 36 = .ok (.sipush 10012, 3) := by decide +kernel
theorem dX2_comparing_39 : decode cX2_comparing 39 = .ok (.ireturn, 1) := by decide +kernel
theorem dX2_comparing_40 : decode cX2_comparing 40 = .ok (.iconst (-1), 1) := by decide +kernel
theorem dX2_comparing_41 : decode cX2_comparing 41 = .ok (.ireturn, 1) := by decide +kernel
section
variable {g : GG} {p : Program} {l : Launch} {e : Env} {R : Room} {s : State} {m : MethodId} {args : Array Value} {below : List Frame} {meth : Method} {c : Code} {n0 z0 : Nat}
def f_X2_comparing_0  (x0 : Int32) (h : AH) : Option (Int32 × AH) :=
  if x0 = 60 then
    some (10011, h)
  else
    if x0 = 61 then
      some (10010, h)
    else
      if x0 = 62 then
        some (10012, h)
      else
        some ((-1), h)
set_option maxHeartbeats 1000000 in
theorem w_X2_comparing_0 (X : Cx g p s m args meth c cX2_comparing 1 "TrapCorner$LawReader") (hR : 1 ≤ R.frames ∧ 64 ≤ R.locals) (hr : meth.sig.returnType = (some (.int))) {res : Int32 × AH} : ∀ (x0 : Int32) (h : AH) (ls : Array Slot) (H : Heap) (locs : List Loc), f_X2_comparing_0 x0 h = some res → Iv g s n0 z0 h H locs 0 0 → lv_has ls 1 [(0, .int x0)] → W p l e R s m args below meth c H locs 0 0 (MQ below (QG g (some (.int res.1)) res.2) args s 0 0 (AG g)) (F0 m 0 ls []) := by
  have hx := X.1
  have hb := X.2.1
  intro x0 h ls H locs hf I hl
  unfold f_X2_comparing_0 at hf
  refine lv_iload_n hx hb dX2_comparing_0 rfl (lv_at hl 0 rfl) ?_
  by_cases c1 : x0 = 60
  · rw [if_pos c1] at hf
    refine lv_tableIn (tgt := 32) hx hb dX2_comparing_1 (by rw [c1]; decide) (by rw [c1]; decide) (by rw [c1]; rfl) (by decide) ?_
    refine lv_sipush (v := 10011) hx hb dX2_comparing_32 (by decide) ?_
    cases hf
    exact k_ri X I hr dX2_comparing_35
  · rw [if_neg c1] at hf
    by_cases c2 : x0 = 61
    · rw [if_pos c2] at hf
      refine lv_tableIn (tgt := 28) hx hb dX2_comparing_1 (by rw [c2]; decide) (by rw [c2]; decide) (by rw [c2]; rfl) (by decide) ?_
      refine lv_sipush (v := 10010) hx hb dX2_comparing_28 (by decide) ?_
      cases hf
      exact k_ri X I hr dX2_comparing_31
    · rw [if_neg c2] at hf
      by_cases c3 : x0 = 62
      · rw [if_pos c3] at hf
        refine lv_tableIn (tgt := 36) hx hb dX2_comparing_1 (by rw [c3]; decide) (by rw [c3]; decide) (by rw [c3]; rfl) (by decide) ?_
        refine lv_sipush (v := 10012) hx hb dX2_comparing_36 (by decide) ?_
        cases hf
        exact k_ri X I hr dX2_comparing_39
      · rw [if_neg c3] at hf
        refine lv_tableOut (tgt := 40) hx hb dX2_comparing_1 (sw_out (fun k k1 k2 => by rcases (show k = 60 ∨ k = 61 ∨ k = 62 by omega) with rfl | rfl | rfl <;> assumption)) (by decide) ?_
        refine lv_iconst (v := (-1)) hx hb dX2_comparing_40 (by decide) ?_
        cases hf
        exact k_ri X I hr dX2_comparing_41
def f_X2_comparing (x0 : Int32) (h : AH) : Option (Int32 × AH) := f_X2_comparing_0 x0 h
end
theorem c_X2_comparing (l : Launch) (g : GG) (x0 : Int32) {h : AH} {res : Int32 × AH} (hf : f_X2_comparing x0 h = some res) : CM l g yX2_comparing cX2_comparing 1 (some (.int)) 1 64 0 0 [.int x0] h (some (.int res.1)) res.2 :=
  k_body (by decide) (Nat.le_of_ble_eq_true rfl) (fun p e s m below meth c R ls hR hr X I hl => w_X2_comparing_0 X ⟨Nat.le_of_eq hR.1.symm, Nat.le_of_eq hR.2.1.symm⟩ hr x0 h ls s.heap [] hf I (lv_sub hl [0] rfl))
/-! TrapCorner$Pull.push(I)V -/
theorem dX4_push_0 : decode cX4_push 0 = .ok (.aload_n 0, 1) := by decide +kernel
theorem dX4_push_1 : decode cX4_push 1 = .ok (.getfield 34, 3) := by decide +kernel
theorem dX4_push_4 : decode cX4_push 4 = .ok (.aload_n 0, 1) := by decide +kernel
theorem dX4_push_5 : decode cX4_push 5 = .ok (.getfield 15, 3) := by decide +kernel
theorem dX4_push_8 : decode cX4_push 8 = .ok (.arraylength, 1) := by decide +kernel
theorem dX4_push_9 : decode cX4_push 9 = .ok (.if_icmp .ge 23, 3) := by decide +kernel
theorem dX4_push_12 : decode cX4_push 12 = .ok (.aload_n 0, 1) := by decide +kernel
theorem dX4_push_13 : decode cX4_push 13 = .ok (.getfield 15, 3) := by decide +kernel
theorem dX4_push_16 : decode cX4_push 16 = .ok (.aload_n 0, 1) := by decide +kernel
theorem dX4_push_17 : decode cX4_push 17 = .ok (.getfield 34, 3) := by decide +kernel
theorem dX4_push_20 : decode cX4_push 20 = .ok (.iload_n 1, 1) := by decide +kernel
theorem dX4_push_21 : decode cX4_push 21 = .ok (.iastore, 1) := by decide +kernel
theorem dX4_push_22 : decode cX4_push 22 = .ok (.aload_n 0, 1) := by decide +kernel
theorem dX4_push_23 : decode cX4_push 23 = .ok (.dup, 1) := by decide +kernel
theorem dX4_push_24 : decode cX4_push 24 = .ok (.getfield 34, 3) := by decide +kernel
theorem dX4_push_27 : decode cX4_push 27 = .ok (.iconst 1, 1) := by decide +kernel
theorem dX4_push_28 : decode cX4_push 28 = .ok (.iadd, 1) := by decide +kernel
theorem dX4_push_29 : decode cX4_push 29 = .ok (.putfield 34, 3) := by decide +kernel
theorem dX4_push_32 : decode cX4_push 32 = .ok (.return_, 1) := by decide +kernel
theorem lk_TrapCorner_Pull_34 : LK "TrapCorner$Pull" 34 [4] 3 := by
  intro ci hci
  have hci := List.mem_singleton.mp hci
  subst hci
  exact ⟨RX4, TX4, 4, "TrapCorner$Pull", ck_4, by decide, tw_284, Or.inl rfl⟩
theorem lk_TrapCorner_Pull_15 : LK "TrapCorner$Pull" 15 [4] 2 := by
  intro ci hci
  have hci := List.mem_singleton.mp hci
  subst hci
  exact ⟨RX4, TX4, 4, "TrapCorner$Pull", ck_4, by decide, tw_283, Or.inl rfl⟩
theorem lp_TrapCorner_Pull_34 : LKP "TrapCorner$Pull" 34 [4] 3 (.int) := by
  intro ci hci
  have hci := List.mem_singleton.mp hci
  subst hci
  exact ⟨RX4, TX4, 4, "TrapCorner$Pull", ck_4, by decide, tw_284, Or.inl rfl, rfl, by decide +kernel⟩
section
variable {g : GG} {p : Program} {l : Launch} {e : Env} {R : Room} {s : State} {m : MethodId} {args : Array Value} {below : List Frame} {meth : Method} {c : Code} {n0 z0 : Nat}
def f_X4_push_0  (o0 : Nat) (x1 : Int32) (h : AH) : Option (Unit × AH) :=
  (gI [4] h o0 3).bind fun v1 =>
  (gR [4] h o0 2).bind fun v3 =>
  (aLen h v3).bind fun v5 =>
  if v5 ≤ v1 then
    some ((), h)
  else
    (gR [4] h o0 2).bind fun v8 =>
    (gI [4] h o0 3).bind fun v10 =>
    (uI 0 h v8 v10 x1).bind fun h12 =>
    (gI [4] h12 o0 3).bind fun v14 =>
    (pV [4] h12 o0 3 (.int (v14 + 1))).bind fun h16 =>
    some ((), h16)
set_option maxHeartbeats 1000000 in
theorem w_X4_push_0 (X : Cx g p s m args meth c cX4_push 2 "TrapCorner$Pull") (hR : 1 ≤ R.frames ∧ 64 ≤ R.locals) (hr : meth.sig.returnType = none) {res : Unit × AH} : ∀ (o0 : Nat) (x1 : Int32) (h : AH) (ls : Array Slot) (H : Heap) (locs : List Loc), f_X4_push_0 o0 x1 h = some res → Iv g s n0 z0 h H locs 0 0 → lv_has ls 2 [(0, .ref (rfG g o0)), (1, .int x1)] → W p l e R s m args below meth c H locs 0 0 (MQ below (QG g none res.2) args s 0 0 (AG g)) (F0 m 0 ls []) := by
  have hx := X.1
  have hb := X.2.1
  intro o0 x1 h ls H locs hf I hl
  unfold f_X4_push_0 at hf
  refine lv_aload_n hx hb dX4_push_0 rfl (lv_at hl 0 rfl) ?_
  obtain ⟨v1, e2, hf⟩ := Option.bind_eq_some_iff.mp hf
  refine r_gI X I e2 lk_TrapCorner_Pull_34 dX4_push_1 ?_
  refine lv_aload_n hx hb dX4_push_4 rfl (lv_at hl 0 rfl) ?_
  obtain ⟨v3, e4, hf⟩ := Option.bind_eq_some_iff.mp hf
  refine r_gR X I e4 lk_TrapCorner_Pull_15 dX4_push_5 ?_
  obtain ⟨v5, e6, hf⟩ := Option.bind_eq_some_iff.mp hf
  refine r_len X I e6 dX4_push_8 ?_
  refine lv_icmp_ge (tgt := 32) hx hb dX4_push_9 (by decide) (fun c7 => ?_) (fun c7 => ?_)
  · rw [if_pos c7] at hf
    cases hf
    exact k_rv X I hr dX4_push_32
  · rw [if_neg c7] at hf
    refine lv_aload_n hx hb dX4_push_12 rfl (lv_at hl 0 rfl) ?_
    obtain ⟨v8, e9, hf⟩ := Option.bind_eq_some_iff.mp hf
    refine r_gR X I e9 lk_TrapCorner_Pull_15 dX4_push_13 ?_
    refine lv_aload_n hx hb dX4_push_16 rfl (lv_at hl 0 rfl) ?_
    obtain ⟨v10, e11, hf⟩ := Option.bind_eq_some_iff.mp hf
    refine r_gI X I e11 lk_TrapCorner_Pull_34 dX4_push_17 ?_
    refine lv_iload_n hx hb dX4_push_20 rfl (lv_at hl 1 rfl) ?_
    obtain ⟨h12, e13, hf⟩ := Option.bind_eq_some_iff.mp hf
    refine r_uI0 X I e13 dX4_push_21 (fun H locs I => ?_)
    refine lv_aload_n hx hb dX4_push_22 rfl (lv_at hl 0 rfl) ?_
    refine lv_dup hx hb dX4_push_23 rfl ?_
    obtain ⟨v14, e15, hf⟩ := Option.bind_eq_some_iff.mp hf
    refine r_gI X I e15 lk_TrapCorner_Pull_34 dX4_push_24 ?_
    refine lv_iconst (v := 1) hx hb dX4_push_27 (by decide) ?_
    refine lv_iadd hx hb dX4_push_28 ?_
    obtain ⟨h16, e17, hf⟩ := Option.bind_eq_some_iff.mp hf
    refine r_pI X I e17 lp_TrapCorner_Pull_34 dX4_push_29 (fun H locs I => ?_)
    cases hf
    exact k_rv X I hr dX4_push_32
def f_X4_push (o0 : Nat) (x1 : Int32) (h : AH) : Option (Unit × AH) := f_X4_push_0 o0 x1 h
end
theorem c_X4_push (l : Launch) (g : GG) (o0 : Nat) (x1 : Int32) {h : AH} {res : Unit × AH} (hf : f_X4_push o0 x1 h = some res) : CM l g yX4_push cX4_push 2 none 1 64 0 0 [.ref (rfG g o0), .int x1] h none res.2 :=
  k_body (by decide) (Nat.le_of_ble_eq_true rfl) (fun p e s m below meth c R ls hR hr X I hl => w_X4_push_0 X ⟨Nat.le_of_eq hR.1.symm, Nat.le_of_eq hR.2.1.symm⟩ hr o0 x1 h ls s.heap [] hf I (lv_sub hl [0, 1] rfl))
/-! TrapCorner$Pull.pop()I -/
theorem dX4_pop_0 : decode cX4_pop 0 = .ok (.aload_n 0, 1) := by decide +kernel
theorem dX4_pop_1 : decode cX4_pop 1 = .ok (.getfield 34, 3) := by decide +kernel
theorem dX4_pop_4 : decode cX4_pop 4 = .ok (.ifCond .ne 5, 3) := by decide +kernel
theorem dX4_pop_7 : decode cX4_pop 7 = .ok (.iconst 0, 1) := by decide +kernel
theorem dX4_pop_8 : decode cX4_pop 8 = .ok (.ireturn, 1) := by decide +kernel
theorem dX4_pop_9 : decode cX4_pop 9 = .ok (.aload_n 0, 1) := by decide +kernel
theorem dX4_pop_10 : decode cX4_pop 10 = .ok (.dup, 1) := by decide +kernel
theorem dX4_pop_11 : decode cX4_pop 11 = .ok (.getfield 34, 3) := by decide +kernel
theorem dX4_pop_14 : decode cX4_pop 14 = .ok (.iconst 1, 1) := by decide +kernel
theorem dX4_pop_15 : decode cX4_pop 15 = .ok (.isub, 1) := by decide +kernel
theorem dX4_pop_16 : decode cX4_pop 16 = .ok (.putfield 34, 3) := by decide +kernel
theorem dX4_pop_19 : decode cX4_pop 19 = .ok (.aload_n 0, 1) := by decide +kernel
theorem dX4_pop_20 : decode cX4_pop 20 = .ok (.getfield 15, 3) := by decide +kernel
theorem dX4_pop_23 : decode cX4_pop 23 = .ok (.aload_n 0, 1) := by decide +kernel
theorem dX4_pop_24 : decode cX4_pop 24 = .ok (.getfield 34, 3) := by decide +kernel
theorem dX4_pop_27 : decode cX4_pop 27 = .ok (.iaload, 1) := by decide +kernel
theorem dX4_pop_28 : decode cX4_pop 28 = .ok (.ireturn, 1) := by decide +kernel
section
variable {g : GG} {p : Program} {l : Launch} {e : Env} {R : Room} {s : State} {m : MethodId} {args : Array Value} {below : List Frame} {meth : Method} {c : Code} {n0 z0 : Nat}
def f_X4_pop_0  (o0 : Nat) (h : AH) : Option (Int32 × AH) :=
  (gI [4] h o0 3).bind fun v1 =>
  if v1 = 0 then
    some (0, h)
  else
    (gI [4] h o0 3).bind fun v4 =>
    (pV [4] h o0 3 (.int (v4 - 1))).bind fun h6 =>
    (gR [4] h6 o0 2).bind fun v8 =>
    (gI [4] h6 o0 3).bind fun v10 =>
    (aI 0 h6 v8 v10).bind fun v12 =>
    some (v12, h6)
set_option maxHeartbeats 1000000 in
theorem w_X4_pop_0 (X : Cx g p s m args meth c cX4_pop 1 "TrapCorner$Pull") (hR : 1 ≤ R.frames ∧ 64 ≤ R.locals) (hr : meth.sig.returnType = (some (.int))) {res : Int32 × AH} : ∀ (o0 : Nat) (h : AH) (ls : Array Slot) (H : Heap) (locs : List Loc), f_X4_pop_0 o0 h = some res → Iv g s n0 z0 h H locs 0 0 → lv_has ls 1 [(0, .ref (rfG g o0))] → W p l e R s m args below meth c H locs 0 0 (MQ below (QG g (some (.int res.1)) res.2) args s 0 0 (AG g)) (F0 m 0 ls []) := by
  have hx := X.1
  have hb := X.2.1
  intro o0 h ls H locs hf I hl
  unfold f_X4_pop_0 at hf
  refine lv_aload_n hx hb dX4_pop_0 rfl (lv_at hl 0 rfl) ?_
  obtain ⟨v1, e2, hf⟩ := Option.bind_eq_some_iff.mp hf
  refine r_gI X I e2 lk_TrapCorner_Pull_34 dX4_pop_1 ?_
  refine lv_if_ne (tgt := 9) hx hb dX4_pop_4 (by decide) (fun c3 => ?_) (fun c3 => ?_)
  · rw [if_neg c3] at hf
    refine lv_aload_n hx hb dX4_pop_9 rfl (lv_at hl 0 rfl) ?_
    refine lv_dup hx hb dX4_pop_10 rfl ?_
    obtain ⟨v4, e5, hf⟩ := Option.bind_eq_some_iff.mp hf
    refine r_gI X I e5 lk_TrapCorner_Pull_34 dX4_pop_11 ?_
    refine lv_iconst (v := 1) hx hb dX4_pop_14 (by decide) ?_
    refine lv_isub hx hb dX4_pop_15 ?_
    obtain ⟨h6, e7, hf⟩ := Option.bind_eq_some_iff.mp hf
    refine r_pI X I e7 lp_TrapCorner_Pull_34 dX4_pop_16 (fun H locs I => ?_)
    refine lv_aload_n hx hb dX4_pop_19 rfl (lv_at hl 0 rfl) ?_
    obtain ⟨v8, e9, hf⟩ := Option.bind_eq_some_iff.mp hf
    refine r_gR X I e9 lk_TrapCorner_Pull_15 dX4_pop_20 ?_
    refine lv_aload_n hx hb dX4_pop_23 rfl (lv_at hl 0 rfl) ?_
    obtain ⟨v10, e11, hf⟩ := Option.bind_eq_some_iff.mp hf
    refine r_gI X I e11 lk_TrapCorner_Pull_34 dX4_pop_24 ?_
    obtain ⟨v12, e13, hf⟩ := Option.bind_eq_some_iff.mp hf
    refine r_aI0 X I e13 dX4_pop_27 ?_
    cases hf
    exact k_ri X I hr dX4_pop_28
  · rw [if_pos c3] at hf
    refine lv_iconst (v := 0) hx hb dX4_pop_7 (by decide) ?_
    cases hf
    exact k_ri X I hr dX4_pop_8
def f_X4_pop (o0 : Nat) (h : AH) : Option (Int32 × AH) := f_X4_pop_0 o0 h
end
theorem c_X4_pop (l : Launch) (g : GG) (o0 : Nat) {h : AH} {res : Int32 × AH} (hf : f_X4_pop o0 h = some res) : CM l g yX4_pop cX4_pop 1 (some (.int)) 1 64 0 0 [.ref (rfG g o0)] h (some (.int res.1)) res.2 :=
  k_body (by decide) (Nat.le_of_ble_eq_true rfl) (fun p e s m below meth c R ls hR hr X I hl => w_X4_pop_0 X ⟨Nat.le_of_eq hR.1.symm, Nat.le_of_eq hR.2.1.symm⟩ hr o0 h ls s.heap [] hf I (lv_sub hl [0] rfl))
/-! TrapCorner$Pull.joined(III)I -/
theorem dX4_joined_0 : decode cX4_joined 0 = .ok (.iload_n 0, 1) := by decide +kernel
theorem dX4_joined_1 : decode cX4_joined 1 = .ok (.tableswitch 138 10006 10013 #[47, 55, 63, 72, 88, 102, 116, 130], 47) := by decide +kernel
theorem dX4_joined_48 : decode cX4_joined 48 = .ok (.iload_n 1, 1) := by decide +kernel
theorem dX4_joined_49 : decode cX4_joined 49 = .ok (.iload_n 2, 1) := by decide +kernel
theorem dX4_joined_50 : decode cX4_joined 50 = .ok (.iadd, 1) := by decide +kernel
theorem dX4_joined_51 : decode cX4_joined 51 = .ok (.i2l, 1) := by decide +kernel
theorem dX4_joined_52 : decode cX4_joined 52 = .ok (.lstore_n 3, 1) := by decide +kernel
theorem dX4_joined_53 : decode cX4_joined 53 = .ok (.goto 91, 3) := by decide +kernel
theorem dX4_joined_56 : decode cX4_joined 56 = .ok (.iload_n 1, 1) := by decide +kernel
theorem dX4_joined_57 : decode cX4_joined 57 = .ok (.iload_n 2, 1) := by decide +kernel
theorem dX4_joined_58 : decode cX4_joined 58 = .ok (.isub, 1) := by decide +kernel
theorem dX4_joined_59 : decode cX4_joined 59 = .ok (.i2l, 1) := by decide +kernel
theorem dX4_joined_60 : decode cX4_joined 60 = .ok (.lstore_n 3, 1) := by decide +kernel
theorem dX4_joined_61 : decode cX4_joined 61 = .ok (.goto 83, 3) := by decide +kernel
theorem dX4_joined_64 : decode cX4_joined 64 = .ok (.iload_n 1, 1) := by decide +kernel
theorem dX4_joined_65 : decode cX4_joined 65 = .ok (.i2l, 1) := by decide +kernel
theorem dX4_joined_66 : decode cX4_joined 66 = .ok (.iload_n 2, 1) := by decide +kernel
theorem dX4_joined_67 : decode cX4_joined 67 = .ok (.i2l, 1) := by decide +kernel
theorem dX4_joined_68 : decode cX4_joined 68 = .ok (.lmul, 1) := by decide +kernel
theorem dX4_joined_69 : decode cX4_joined 69 = .ok (.lstore_n 3, 1) := by decide +kernel
theorem dX4_joined_70 : decode cX4_joined 70 = .ok (.goto 74, 3) := by decide +kernel
theorem dX4_joined_73 : decode cX4_joined 73 = .ok (.iload_n 2, 1) := by decide +kernel
theorem dX4_joined_74 : decode cX4_joined 74 = .ok (.ifCond .ne 7, 3) := by decide +kernel
theorem dX4_joined_77 : decode cX4_joined 77 = .ok (.lconst 0, 1) := by decide +kernel
theorem dX4_joined_78 : decode cX4_joined 78 = .ok (.goto 7, 3) := by decide +kernel
theorem dX4_joined_81 : decode cX4_joined 81 = .ok (.iload_n 1, 1) := by decide +kernel
theorem dX4_joined_82 : decode cX4_joined 82 = .ok (.iload_n 2, 1) := by decide +kernel
theorem dX4_joined_83 : decode cX4_joined 83 = .ok (.idiv, 1) := by decide +kernel
theorem dX4_joined_84 : decode cX4_joined 84 = .ok (.i2l, 1) := by decide +kernel
theorem dX4_joined_85 : decode cX4_joined 85 = .ok (.lstore_n 3, 1) := by decide +kernel
theorem dX4_joined_86 : decode cX4_joined 86 = .ok (.goto 58, 3) := by decide +kernel
theorem dX4_joined_89 : decode cX4_joined 89 = .ok (.iload_n 1, 1) := by decide +kernel
theorem dX4_joined_90 : decode cX4_joined 90 = .ok (.iload_n 2, 1) := by decide +kernel
theorem dX4_joined_91 : decode cX4_joined 91 = .ok (.if_icmp .ne 7, 3) := by decide +kernel
theorem dX4_joined_94 : decode cX4_joined 94 = .ok (.lconst 1, 1) := by decide +kernel
theorem dX4_joined_95 : decode cX4_joined 95 = .ok (.goto 4, 3) := by decide +kernel
theorem dX4_joined_98 : decode cX4_joined 98 = .ok (.lconst 0, 1) := by decide +kernel
theorem dX4_joined_99 : decode cX4_joined 99 = .ok (.lstore_n 3, 1) := by decide +kernel
theorem dX4_joined_100 : decode cX4_joined 100 = .ok (.goto 44, 3) := by decide +kernel
theorem dX4_joined_103 : decode cX4_joined 103 = .ok (.iload_n 1, 1) := by decide +kernel
theorem dX4_joined_104 : decode cX4_joined 104 = .ok (.iload_n 2, 1) := by decide +kernel
theorem dX4_joined_105 : decode cX4_joined 105 = .ok (.if_icmp .ge 7, 3) := by decide +kernel
theorem dX4_joined_108 : decode cX4_joined 108 = .ok (.lconst 1, 1) := by decide +kernel
theorem dX4_joined_109 : decode cX4_joined 109 = .ok (.goto 4, 3) := by decide +kernel
theorem dX4_joined_112 : decode cX4_joined 112 = .ok (.lconst 0, 1) := by decide +kernel
theorem dX4_joined_113 : decode cX4_joined 113 = .ok (.lstore_n 3, 1) := by decide +kernel
theorem dX4_joined_114 : decode cX4_joined 114 = .ok (.goto 30, 3) := by decide +kernel
theorem dX4_joined_117 : decode cX4_joined 117 = .ok (.iload_n 1, 1) := by decide +kernel
theorem dX4_joined_118 : decode cX4_joined 118 = .ok (.iload_n 2, 1) := by decide +kernel
theorem dX4_joined_119 : decode cX4_joined 119 = .ok (.if_icmp .le 7, 3) := by decide +kernel
theorem dX4_joined_122 : decode cX4_joined 122 = .ok (.lconst 1, 1) := by decide +kernel
theorem dX4_joined_123 : decode cX4_joined 123 = .ok (.goto 4, 3) := by decide +kernel
theorem dX4_joined_126 : decode cX4_joined 126 = .ok (.lconst 0, 1) := by decide +kernel
theorem dX4_joined_127 : decode cX4_joined 127 = .ok (.lstore_n 3, 1) := by decide +kernel
theorem dX4_joined_128 : decode cX4_joined 128 = .ok (.goto 16, 3) := by decide +kernel
theorem dX4_joined_131 : decode cX4_joined 131 = .ok (.iload_n 1, 1) := by decide +kernel
theorem dX4_joined_132 : decode cX4_joined 132 = .ok (.iload_n 2, 1) := by decide +kernel
theorem dX4_joined_133 : decode cX4_joined 133 = .ok (.iand, 1) := by decide +kernel
theorem dX4_joined_134 : decode cX4_joined 134 = .ok (.i2l, 1) := by decide +kernel
theorem dX4_joined_135 : decode cX4_joined 135 = .ok (.lstore_n 3, 1) := by decide +kernel
theorem dX4_joined_136 : decode cX4_joined 136 = .ok (.goto 8, 3) := by decide +kernel
theorem dX4_joined_139 : decode cX4_joined 139 = .ok (.iload_n 1, 1) := by decide +kernel
theorem dX4_joined_140 : decode cX4_joined 140 = .ok (.iload_n 2, 1) := by decide +kernel
theorem dX4_joined_141 : decode cX4_joined 141 = .ok (.ior, 1) := by decide +kernel
theorem dX4_joined_142 : decode cX4_joined 142 = .ok (.i2l, 1) := by decide +kernel
theorem dX4_joined_143 : decode cX4_joined 143 = .ok (.lstore_n 3, 1) := by decide +kernel
theorem dX4_joined_144 : decode cX4_joined 144 = .ok (.lload_n 3, 1) := by decide +kernel
theorem dX4_joined_145 : decode cX4_joined 145 = .ok (.ldc2_w 50, 3) := by decide +kernel
theorem dX4_joined_148 : decode cX4_joined 148 = .ok (.lcmp, 1) := by decide +kernel
theorem dX4_joined_149 : decode cX4_joined 149 = .ok (.ifCond .ge 9, 3) := by decide +kernel
theorem dX4_joined_152 : decode cX4_joined 152 = .ok (.ldc2_w 50, 3) := by decide +kernel
theorem dX4_joined_155 : decode cX4_joined 155 = .ok (.goto 18, 3) := by decide +kernel
theorem dX4_joined_158 : decode cX4_joined 158 = .ok (.lload_n 3, 1) := by decide +kernel
theorem dX4_joined_159 : decode cX4_joined 159 = .ok (.ldc2_w 52, 3) := by decide +kernel
theorem dX4_joined_162 : decode cX4_joined 162 = .ok (.lcmp, 1) := by decide +kernel
theorem dX4_joined_163 : decode cX4_joined 163 = .ok (.ifCond .le 9, 3) := by decide +kernel
theorem dX4_joined_166 : decode cX4_joined 166 = .ok (.ldc2_w 52, 3) := by decide +kernel
theorem dX4_joined_169 : decode cX4_joined 169 = .ok (.goto 4, 3) := by decide +kernel
theorem dX4_joined_172 : decode cX4_joined 172 = .ok (.lload_n 3, 1) := by decide +kernel
theorem dX4_joined_173 : decode cX4_joined 173 = .ok (.l2i, 1) := by decide +kernel
theorem dX4_joined_174 : decode cX4_joined 174 = .ok (.ireturn, 1) := by decide +kernel
section
variable {g : GG} {p : Program} {l : Launch} {e : Env} {R : Room} {s : State} {m : MethodId} {args : Array Value} {below : List Frame} {meth : Method} {c : Code} {n0 z0 : Nat}
def f_X4_joined_173  (s0 : Int64) (h : AH) : Option (Int32 × AH) :=
  some (s0.toInt32, h)
set_option maxHeartbeats 1000000 in
theorem w_X4_joined_173 (X : Cx g p s m args meth c cX4_joined 5 "TrapCorner$Pull") (hR : 1 ≤ R.frames ∧ 64 ≤ R.locals) (hr : meth.sig.returnType = (some (.int))) {res : Int32 × AH} : ∀ (s0 : Int64) (h : AH) (ls : Array Slot) (H : Heap) (locs : List Loc), f_X4_joined_173 s0 h = some res → Iv g s n0 z0 h H locs 0 0 → lv_has ls 5 [] → W p l e R s m args below meth c H locs 0 0 (MQ below (QG g (some (.int res.1)) res.2) args s 0 0 (AG g)) (F0 m 173 ls [.long s0]) := by
  have hx := X.1
  have hb := X.2.1
  intro s0 h ls H locs hf I hl
  unfold f_X4_joined_173 at hf
  refine lv_l2i hx hb dX4_joined_173 rfl ?_
  cases hf
  exact k_ri X I hr dX4_joined_174
def f_X4_joined_144  (y3 : Int64) (h : AH) : Option (Int32 × AH) :=
  if 0 ≤ (lg_cmp y3 ((-1000000))) then
    if (lg_cmp y3 1000000) ≤ 0 then
      f_X4_joined_173 y3 h
    else
      f_X4_joined_173 1000000 h
  else
    f_X4_joined_173 ((-1000000)) h
set_option maxHeartbeats 1000000 in
theorem w_X4_joined_144 (X : Cx g p s m args meth c cX4_joined 5 "TrapCorner$Pull") (hR : 1 ≤ R.frames ∧ 64 ≤ R.locals) (hr : meth.sig.returnType = (some (.int))) {res : Int32 × AH} : ∀ (y3 : Int64) (h : AH) (ls : Array Slot) (H : Heap) (locs : List Loc), f_X4_joined_144 y3 h = some res → Iv g s n0 z0 h H locs 0 0 → lv_has ls 5 [(3, .long y3)] → W p l e R s m args below meth c H locs 0 0 (MQ below (QG g (some (.int res.1)) res.2) args s 0 0 (AG g)) (F0 m 144 ls []) := by
  have hx := X.1
  have hb := X.2.1
  intro y3 h ls H locs hf I hl
  unfold f_X4_joined_144 at hf
  refine lv_lload_n hx hb dX4_joined_144 rfl (lv_at hl 0 rfl) ?_
  refine lv_ldc2 (v := (-1000000)) hx hb X.2.2.2.1 (X.2.2.2.2.1 _ tw_934) dX4_joined_145 ?_
  refine W.lcmp hx hb dX4_joined_148 ?_
  refine lv_if_ge (tgt := 158) hx hb dX4_joined_149 (by decide) (fun c1 => ?_) (fun c1 => ?_)
  · rw [if_pos c1] at hf
    refine lv_lload_n hx hb dX4_joined_158 rfl (lv_at hl 0 rfl) ?_
    refine lv_ldc2 (v := 1000000) hx hb X.2.2.2.1 (X.2.2.2.2.1 _ tw_935) dX4_joined_159 ?_
    refine W.lcmp hx hb dX4_joined_162 ?_
    refine lv_if_le (tgt := 172) hx hb dX4_joined_163 (by decide) (fun c2 => ?_) (fun c2 => ?_)
    · rw [if_pos c2] at hf
      refine lv_lload_n hx hb dX4_joined_172 rfl (lv_at hl 0 rfl) ?_
      exact w_X4_joined_173 X hR hr  y3 h ls H locs hf I (lv_sub hl [] rfl)
    · rw [if_neg c2] at hf
      refine lv_ldc2 (v := 1000000) hx hb X.2.2.2.1 (X.2.2.2.2.1 _ tw_935) dX4_joined_166 ?_
      refine lv_goto (tgt := 173) hx hb dX4_joined_169 (by decide) ?_
      exact w_X4_joined_173 X hR hr  1000000 h ls H locs hf I (lv_sub hl [] rfl)
  · rw [if_neg c1] at hf
    refine lv_ldc2 (v := (-1000000)) hx hb X.2.2.2.1 (X.2.2.2.2.1 _ tw_934) dX4_joined_152 ?_
    refine lv_goto (tgt := 173) hx hb dX4_joined_155 (by decide) ?_
    exact w_X4_joined_173 X hR hr  ((-1000000)) h ls H locs hf I (lv_sub hl [] rfl)
def f_X4_joined_85  (s0 : Int64) (h : AH) : Option (Int32 × AH) :=
  f_X4_joined_144 s0 h
set_option maxHeartbeats 1000000 in
theorem w_X4_joined_85 (X : Cx g p s m args meth c cX4_joined 5 "TrapCorner$Pull") (hR : 1 ≤ R.frames ∧ 64 ≤ R.locals) (hr : meth.sig.returnType = (some (.int))) {res : Int32 × AH} : ∀ (s0 : Int64) (h : AH) (ls : Array Slot) (H : Heap) (locs : List Loc), f_X4_joined_85 s0 h = some res → Iv g s n0 z0 h H locs 0 0 → lv_has ls 5 [] → W p l e R s m args below meth c H locs 0 0 (MQ below (QG g (some (.int res.1)) res.2) args s 0 0 (AG g)) (F0 m 85 ls [.long s0]) := by
  have hx := X.1
  have hb := X.2.1
  intro s0 h ls H locs hf I hl
  unfold f_X4_joined_85 at hf
  refine lv_lstore_n (lv' := [(3, .long s0)]) hx hb dX4_joined_85 rfl hl (by decide) rfl (fun ls hl => ?_)
  refine lv_goto (tgt := 144) hx hb dX4_joined_86 (by decide) ?_
  exact w_X4_joined_144 X hR hr  s0 h ls H locs hf I (lv_sub hl [0] rfl)
def f_X4_joined_99  (s0 : Int64) (h : AH) : Option (Int32 × AH) :=
  f_X4_joined_144 s0 h
set_option maxHeartbeats 1000000 in
theorem w_X4_joined_99 (X : Cx g p s m args meth c cX4_joined 5 "TrapCorner$Pull") (hR : 1 ≤ R.frames ∧ 64 ≤ R.locals) (hr : meth.sig.returnType = (some (.int))) {res : Int32 × AH} : ∀ (s0 : Int64) (h : AH) (ls : Array Slot) (H : Heap) (locs : List Loc), f_X4_joined_99 s0 h = some res → Iv g s n0 z0 h H locs 0 0 → lv_has ls 5 [] → W p l e R s m args below meth c H locs 0 0 (MQ below (QG g (some (.int res.1)) res.2) args s 0 0 (AG g)) (F0 m 99 ls [.long s0]) := by
  have hx := X.1
  have hb := X.2.1
  intro s0 h ls H locs hf I hl
  unfold f_X4_joined_99 at hf
  refine lv_lstore_n (lv' := [(3, .long s0)]) hx hb dX4_joined_99 rfl hl (by decide) rfl (fun ls hl => ?_)
  refine lv_goto (tgt := 144) hx hb dX4_joined_100 (by decide) ?_
  exact w_X4_joined_144 X hR hr  s0 h ls H locs hf I (lv_sub hl [0] rfl)
def f_X4_joined_113  (s0 : Int64) (h : AH) : Option (Int32 × AH) :=
  f_X4_joined_144 s0 h
set_option maxHeartbeats 1000000 in
theorem w_X4_joined_113 (X : Cx g p s m args meth c cX4_joined 5 "TrapCorner$Pull") (hR : 1 ≤ R.frames ∧ 64 ≤ R.locals) (hr : meth.sig.returnType = (some (.int))) {res : Int32 × AH} : ∀ (s0 : Int64) (h : AH) (ls : Array Slot) (H : Heap) (locs : List Loc), f_X4_joined_113 s0 h = some res → Iv g s n0 z0 h H locs 0 0 → lv_has ls 5 [] → W p l e R s m args below meth c H locs 0 0 (MQ below (QG g (some (.int res.1)) res.2) args s 0 0 (AG g)) (F0 m 113 ls [.long s0]) := by
  have hx := X.1
  have hb := X.2.1
  intro s0 h ls H locs hf I hl
  unfold f_X4_joined_113 at hf
  refine lv_lstore_n (lv' := [(3, .long s0)]) hx hb dX4_joined_113 rfl hl (by decide) rfl (fun ls hl => ?_)
  refine lv_goto (tgt := 144) hx hb dX4_joined_114 (by decide) ?_
  exact w_X4_joined_144 X hR hr  s0 h ls H locs hf I (lv_sub hl [0] rfl)
def f_X4_joined_127  (s0 : Int64) (h : AH) : Option (Int32 × AH) :=
  f_X4_joined_144 s0 h
set_option maxHeartbeats 1000000 in
theorem w_X4_joined_127 (X : Cx g p s m args meth c cX4_joined 5 "TrapCorner$Pull") (hR : 1 ≤ R.frames ∧ 64 ≤ R.locals) (hr : meth.sig.returnType = (some (.int))) {res : Int32 × AH} : ∀ (s0 : Int64) (h : AH) (ls : Array Slot) (H : Heap) (locs : List Loc), f_X4_joined_127 s0 h = some res → Iv g s n0 z0 h H locs 0 0 → lv_has ls 5 [] → W p l e R s m args below meth c H locs 0 0 (MQ below (QG g (some (.int res.1)) res.2) args s 0 0 (AG g)) (F0 m 127 ls [.long s0]) := by
  have hx := X.1
  have hb := X.2.1
  intro s0 h ls H locs hf I hl
  unfold f_X4_joined_127 at hf
  refine lv_lstore_n (lv' := [(3, .long s0)]) hx hb dX4_joined_127 rfl hl (by decide) rfl (fun ls hl => ?_)
  refine lv_goto (tgt := 144) hx hb dX4_joined_128 (by decide) ?_
  exact w_X4_joined_144 X hR hr  s0 h ls H locs hf I (lv_sub hl [0] rfl)
def f_X4_joined_0  (x0 : Int32) (x1 : Int32) (x2 : Int32) (h : AH) : Option (Int32 × AH) :=
  if x0 = 10006 then
    f_X4_joined_144 ((x1 + x2).toInt64) h
  else
    if x0 = 10007 then
      f_X4_joined_144 ((x1 - x2).toInt64) h
    else
      if x0 = 10008 then
        f_X4_joined_144 ((x1.toInt64) * (x2.toInt64)) h
      else
        if x0 = 10009 then
          if x2 = 0 then
            f_X4_joined_85 0 h
          else
            if x2 = 0 then none else
            f_X4_joined_85 ((x1 / x2).toInt64) h
        else
          if x0 = 10010 then
            if x1 = x2 then
              f_X4_joined_99 1 h
            else
              f_X4_joined_99 0 h
          else
            if x0 = 10011 then
              if x2 ≤ x1 then
                f_X4_joined_113 0 h
              else
                f_X4_joined_113 1 h
            else
              if x0 = 10012 then
                if x1 ≤ x2 then
                  f_X4_joined_127 0 h
                else
                  f_X4_joined_127 1 h
              else
                if x0 = 10013 then
                  f_X4_joined_144 ((x1 &&& x2).toInt64) h
                else
                  f_X4_joined_144 ((x1 ||| x2).toInt64) h
set_option maxHeartbeats 1000000 in
theorem w_X4_joined_0 (X : Cx g p s m args meth c cX4_joined 5 "TrapCorner$Pull") (hR : 1 ≤ R.frames ∧ 64 ≤ R.locals) (hr : meth.sig.returnType = (some (.int))) {res : Int32 × AH} : ∀ (x0 : Int32) (x1 : Int32) (x2 : Int32) (h : AH) (ls : Array Slot) (H : Heap) (locs : List Loc), f_X4_joined_0 x0 x1 x2 h = some res → Iv g s n0 z0 h H locs 0 0 → lv_has ls 5 [(0, .int x0), (1, .int x1), (2, .int x2)] → W p l e R s m args below meth c H locs 0 0 (MQ below (QG g (some (.int res.1)) res.2) args s 0 0 (AG g)) (F0 m 0 ls []) := by
  have hx := X.1
  have hb := X.2.1
  intro x0 x1 x2 h ls H locs hf I hl
  unfold f_X4_joined_0 at hf
  refine lv_iload_n hx hb dX4_joined_0 rfl (lv_at hl 0 rfl) ?_
  by_cases c1 : x0 = 10006
  · rw [if_pos c1] at hf
    refine lv_tableIn (tgt := 48) hx hb dX4_joined_1 (by rw [c1]; decide) (by rw [c1]; decide) (by rw [c1]; rfl) (by decide) ?_
    refine lv_iload_n hx hb dX4_joined_48 rfl (lv_at hl 1 rfl) ?_
    refine lv_iload_n hx hb dX4_joined_49 rfl (lv_at hl 2 rfl) ?_
    refine lv_iadd hx hb dX4_joined_50 ?_
    refine lv_i2l hx hb dX4_joined_51 rfl ?_
    refine lv_lstore_n (lv' := [(3, .long ((x1 + x2).toInt64)), (0, .int x0), (1, .int x1), (2, .int x2)]) hx hb dX4_joined_52 rfl hl (by decide) rfl (fun ls hl => ?_)
    refine lv_goto (tgt := 144) hx hb dX4_joined_53 (by decide) ?_
    exact w_X4_joined_144 X hR hr  ((x1 + x2).toInt64) h ls H locs hf I (lv_sub hl [0] rfl)
  · rw [if_neg c1] at hf
    by_cases c2 : x0 = 10007
    · rw [if_pos c2] at hf
      refine lv_tableIn (tgt := 56) hx hb dX4_joined_1 (by rw [c2]; decide) (by rw [c2]; decide) (by rw [c2]; rfl) (by decide) ?_
      refine lv_iload_n hx hb dX4_joined_56 rfl (lv_at hl 1 rfl) ?_
      refine lv_iload_n hx hb dX4_joined_57 rfl (lv_at hl 2 rfl) ?_
      refine lv_isub hx hb dX4_joined_58 ?_
      refine lv_i2l hx hb dX4_joined_59 rfl ?_
      refine lv_lstore_n (lv' := [(3, .long ((x1 - x2).toInt64)), (0, .int x0), (1, .int x1), (2, .int x2)]) hx hb dX4_joined_60 rfl hl (by decide) rfl (fun ls hl => ?_)
      refine lv_goto (tgt := 144) hx hb dX4_joined_61 (by decide) ?_
      exact w_X4_joined_144 X hR hr  ((x1 - x2).toInt64) h ls H locs hf I (lv_sub hl [0] rfl)
    · rw [if_neg c2] at hf
      by_cases c3 : x0 = 10008
      · rw [if_pos c3] at hf
        refine lv_tableIn (tgt := 64) hx hb dX4_joined_1 (by rw [c3]; decide) (by rw [c3]; decide) (by rw [c3]; rfl) (by decide) ?_
        refine lv_iload_n hx hb dX4_joined_64 rfl (lv_at hl 1 rfl) ?_
        refine lv_i2l hx hb dX4_joined_65 rfl ?_
        refine lv_iload_n hx hb dX4_joined_66 rfl (lv_at hl 2 rfl) ?_
        refine lv_i2l hx hb dX4_joined_67 rfl ?_
        refine lv_lmul hx hb dX4_joined_68 ?_
        refine lv_lstore_n (lv' := [(3, .long ((x1.toInt64) * (x2.toInt64))), (0, .int x0), (1, .int x1), (2, .int x2)]) hx hb dX4_joined_69 rfl hl (by decide) rfl (fun ls hl => ?_)
        refine lv_goto (tgt := 144) hx hb dX4_joined_70 (by decide) ?_
        exact w_X4_joined_144 X hR hr  ((x1.toInt64) * (x2.toInt64)) h ls H locs hf I (lv_sub hl [0] rfl)
      · rw [if_neg c3] at hf
        by_cases c4 : x0 = 10009
        · rw [if_pos c4] at hf
          refine lv_tableIn (tgt := 73) hx hb dX4_joined_1 (by rw [c4]; decide) (by rw [c4]; decide) (by rw [c4]; rfl) (by decide) ?_
          refine lv_iload_n hx hb dX4_joined_73 rfl (lv_at hl 2 rfl) ?_
          refine lv_if_ne (tgt := 81) hx hb dX4_joined_74 (by decide) (fun c5 => ?_) (fun c5 => ?_)
          · rw [if_neg c5] at hf
            refine lv_iload_n hx hb dX4_joined_81 rfl (lv_at hl 1 rfl) ?_
            refine lv_iload_n hx hb dX4_joined_82 rfl (lv_at hl 2 rfl) ?_
            have c6 : ¬ x2 = 0 := fun z => by rw [if_pos z] at hf; cases hf
            rw [if_neg c6] at hf
            refine lv_idiv hx hb dX4_joined_83 c6 ?_
            refine lv_i2l hx hb dX4_joined_84 rfl ?_
            exact w_X4_joined_85 X hR hr  ((x1 / x2).toInt64) h ls H locs hf I (lv_sub hl [] rfl)
          · rw [if_pos c5] at hf
            refine lv_lconst (v := 0) hx hb dX4_joined_77 (by decide) ?_
            refine lv_goto (tgt := 85) hx hb dX4_joined_78 (by decide) ?_
            exact w_X4_joined_85 X hR hr  0 h ls H locs hf I (lv_sub hl [] rfl)
        · rw [if_neg c4] at hf
          by_cases c7 : x0 = 10010
          · rw [if_pos c7] at hf
            refine lv_tableIn (tgt := 89) hx hb dX4_joined_1 (by rw [c7]; decide) (by rw [c7]; decide) (by rw [c7]; rfl) (by decide) ?_
            refine lv_iload_n hx hb dX4_joined_89 rfl (lv_at hl 1 rfl) ?_
            refine lv_iload_n hx hb dX4_joined_90 rfl (lv_at hl 2 rfl) ?_
            refine lv_icmp_ne (tgt := 98) hx hb dX4_joined_91 (by decide) (fun c8 => ?_) (fun c8 => ?_)
            · rw [if_neg c8] at hf
              refine lv_lconst (v := 0) hx hb dX4_joined_98 (by decide) ?_
              exact w_X4_joined_99 X hR hr  0 h ls H locs hf I (lv_sub hl [] rfl)
            · rw [if_pos c8] at hf
              refine lv_lconst (v := 1) hx hb dX4_joined_94 (by decide) ?_
              refine lv_goto (tgt := 99) hx hb dX4_joined_95 (by decide) ?_
              exact w_X4_joined_99 X hR hr  1 h ls H locs hf I (lv_sub hl [] rfl)
          · rw [if_neg c7] at hf
            by_cases c9 : x0 = 10011
            · rw [if_pos c9] at hf
              refine lv_tableIn (tgt := 103) hx hb dX4_joined_1 (by rw [c9]; decide) (by rw [c9]; decide) (by rw [c9]; rfl) (by decide) ?_
              refine lv_iload_n hx hb dX4_joined_103 rfl (lv_at hl 1 rfl) ?_
              refine lv_iload_n hx hb dX4_joined_104 rfl (lv_at hl 2 rfl) ?_
              refine lv_icmp_ge (tgt := 112) hx hb dX4_joined_105 (by decide) (fun c10 => ?_) (fun c10 => ?_)
              · rw [if_pos c10] at hf
                refine lv_lconst (v := 0) hx hb dX4_joined_112 (by decide) ?_
                exact w_X4_joined_113 X hR hr  0 h ls H locs hf I (lv_sub hl [] rfl)
              · rw [if_neg c10] at hf
                refine lv_lconst (v := 1) hx hb dX4_joined_108 (by decide) ?_
                refine lv_goto (tgt := 113) hx hb dX4_joined_109 (by decide) ?_
                exact w_X4_joined_113 X hR hr  1 h ls H locs hf I (lv_sub hl [] rfl)
            · rw [if_neg c9] at hf
              by_cases c11 : x0 = 10012
              · rw [if_pos c11] at hf
                refine lv_tableIn (tgt := 117) hx hb dX4_joined_1 (by rw [c11]; decide) (by rw [c11]; decide) (by rw [c11]; rfl) (by decide) ?_
                refine lv_iload_n hx hb dX4_joined_117 rfl (lv_at hl 1 rfl) ?_
                refine lv_iload_n hx hb dX4_joined_118 rfl (lv_at hl 2 rfl) ?_
                refine lv_icmp_le (tgt := 126) hx hb dX4_joined_119 (by decide) (fun c12 => ?_) (fun c12 => ?_)
                · rw [if_pos c12] at hf
                  refine lv_lconst (v := 0) hx hb dX4_joined_126 (by decide) ?_
                  exact w_X4_joined_127 X hR hr  0 h ls H locs hf I (lv_sub hl [] rfl)
                · rw [if_neg c12] at hf
                  refine lv_lconst (v := 1) hx hb dX4_joined_122 (by decide) ?_
                  refine lv_goto (tgt := 127) hx hb dX4_joined_123 (by decide) ?_
                  exact w_X4_joined_127 X hR hr  1 h ls H locs hf I (lv_sub hl [] rfl)
              · rw [if_neg c11] at hf
                by_cases c13 : x0 = 10013
                · rw [if_pos c13] at hf
                  refine lv_tableIn (tgt := 131) hx hb dX4_joined_1 (by rw [c13]; decide) (by rw [c13]; decide) (by rw [c13]; rfl) (by decide) ?_
                  refine lv_iload_n hx hb dX4_joined_131 rfl (lv_at hl 1 rfl) ?_
                  refine lv_iload_n hx hb dX4_joined_132 rfl (lv_at hl 2 rfl) ?_
                  refine lv_iand hx hb dX4_joined_133 ?_
                  refine lv_i2l hx hb dX4_joined_134 rfl ?_
                  refine lv_lstore_n (lv' := [(3, .long ((x1 &&& x2).toInt64)), (0, .int x0), (1, .int x1), (2, .int x2)]) hx hb dX4_joined_135 rfl hl (by decide) rfl (fun ls hl => ?_)
                  refine lv_goto (tgt := 144) hx hb dX4_joined_136 (by decide) ?_
                  exact w_X4_joined_144 X hR hr  ((x1 &&& x2).toInt64) h ls H locs hf I (lv_sub hl [0] rfl)
                · rw [if_neg c13] at hf
                  refine lv_tableOut (tgt := 139) hx hb dX4_joined_1 (sw_out (fun k k1 k2 => by rcases (show k = 10006 ∨ k = 10007 ∨ k = 10008 ∨ k = 10009 ∨ k = 10010 ∨ k = 10011 ∨ k = 10012 ∨ k = 10013 by omega) with rfl | rfl | rfl | rfl | rfl | rfl | rfl | rfl <;> assumption)) (by decide) ?_
                  refine lv_iload_n hx hb dX4_joined_139 rfl (lv_at hl 1 rfl) ?_
                  refine lv_iload_n hx hb dX4_joined_140 rfl (lv_at hl 2 rfl) ?_
                  refine lv_ior hx hb dX4_joined_141 ?_
                  refine lv_i2l hx hb dX4_joined_142 rfl ?_
                  refine lv_lstore_n (lv' := [(3, .long ((x1 ||| x2).toInt64)), (0, .int x0), (1, .int x1), (2, .int x2)]) hx hb dX4_joined_143 rfl hl (by decide) rfl (fun ls hl => ?_)
                  exact w_X4_joined_144 X hR hr  ((x1 ||| x2).toInt64) h ls H locs hf I (lv_sub hl [0] rfl)
def f_X4_joined (x0 : Int32) (x1 : Int32) (x2 : Int32) (h : AH) : Option (Int32 × AH) := f_X4_joined_0 x0 x1 x2 h
end
theorem c_X4_joined (l : Launch) (g : GG) (x0 : Int32) (x1 : Int32) (x2 : Int32) {h : AH} {res : Int32 × AH} (hf : f_X4_joined x0 x1 x2 h = some res) : CM l g yX4_joined cX4_joined 5 (some (.int)) 1 64 0 0 [.int x0, .int x1, .int x2] h (some (.int res.1)) res.2 :=
  k_body (by decide) (Nat.le_of_ble_eq_true rfl) (fun p e s m below meth c R ls hR hr X I hl => w_X4_joined_0 X ⟨Nat.le_of_eq hR.1.symm, Nat.le_of_eq hR.2.1.symm⟩ hr x0 x1 x2 h ls s.heap [] hf I (lv_sub hl [0, 1, 2] rfl))
/-! TrapCorner$Reader.start()V -/
theorem dX5_start_0 : decode cX5_start 0 = .ok (.aload_n 0, 1) := by decide +kernel
theorem dX5_start_1 : decode cX5_start 1 = .ok (.iconst 0, 1) := by decide +kernel
theorem dX5_start_2 : decode cX5_start 2 = .ok (.putfield 15, 3) := by decide +kernel
theorem dX5_start_5 : decode cX5_start 5 = .ok (.aload_n 0, 1) := by decide +kernel
theorem dX5_start_6 : decode cX5_start 6 = .ok (.iconst (-1), 1) := by decide +kernel
theorem dX5_start_7 : decode cX5_start 7 = .ok (.putfield 19, 3) := by decide +kernel
theorem dX5_start_10 : decode cX5_start 10 = .ok (.return_, 1) := by decide +kernel
theorem lp_TrapCorner_Reader_15 : LKP "TrapCorner$Reader" 15 [0, 2, 3] 1 (.int) := by
  intro ci hci
  simp only [List.mem_cons, List.not_mem_nil, or_false] at hci
  rcases hci with rfl | rfl | rfl
  · exact ⟨RX0, TX0, 6, "TrapCorner$Reader", ck_0, by decide, tw_140, Or.inl rfl, rfl, by decide +kernel⟩
  · exact ⟨RX2, TX2, 5, "TrapCorner$Reader", ck_2, by decide, tw_140, Or.inl rfl, rfl, by decide +kernel⟩
  · exact ⟨RX3, TX3, 5, "TrapCorner$Reader", ck_3, by decide, tw_140, Or.inl rfl, rfl, by decide +kernel⟩
theorem lp_TrapCorner_Reader_19 : LKP "TrapCorner$Reader" 19 [0, 2, 3] 2 (.int) := by
  intro ci hci
  simp only [List.mem_cons, List.not_mem_nil, or_false] at hci
  rcases hci with rfl | rfl | rfl
  · exact ⟨RX0, TX0, 6, "TrapCorner$Reader", ck_0, by decide, tw_145, Or.inl rfl, rfl, by decide +kernel⟩
  · exact ⟨RX2, TX2, 5, "TrapCorner$Reader", ck_2, by decide, tw_145, Or.inl rfl, rfl, by decide +kernel⟩
  · exact ⟨RX3, TX3, 5, "TrapCorner$Reader", ck_3, by decide, tw_145, Or.inl rfl, rfl, by decide +kernel⟩
section
variable {g : GG} {p : Program} {l : Launch} {e : Env} {R : Room} {s : State} {m : MethodId} {args : Array Value} {below : List Frame} {meth : Method} {c : Code} {n0 z0 : Nat}
def f_X5_start_0  (o0 : Nat) (h : AH) : Option (Unit × AH) :=
  (pV [0, 2, 3] h o0 1 (.int 0)).bind fun h1 =>
  (pV [0, 2, 3] h1 o0 2 (.int ((-1)))).bind fun h3 =>
  some ((), h3)
set_option maxHeartbeats 1000000 in
theorem w_X5_start_0 (X : Cx g p s m args meth c cX5_start 1 "TrapCorner$Reader") (hR : 1 ≤ R.frames ∧ 64 ≤ R.locals) (hr : meth.sig.returnType = none) {res : Unit × AH} : ∀ (o0 : Nat) (h : AH) (ls : Array Slot) (H : Heap) (locs : List Loc), f_X5_start_0 o0 h = some res → Iv g s n0 z0 h H locs 0 0 → lv_has ls 1 [(0, .ref (rfG g o0))] → W p l e R s m args below meth c H locs 0 0 (MQ below (QG g none res.2) args s 0 0 (AG g)) (F0 m 0 ls []) := by
  have hx := X.1
  have hb := X.2.1
  intro o0 h ls H locs hf I hl
  unfold f_X5_start_0 at hf
  refine lv_aload_n hx hb dX5_start_0 rfl (lv_at hl 0 rfl) ?_
  refine lv_iconst (v := 0) hx hb dX5_start_1 (by decide) ?_
  obtain ⟨h1, e2, hf⟩ := Option.bind_eq_some_iff.mp hf
  refine r_pI X I e2 lp_TrapCorner_Reader_15 dX5_start_2 (fun H locs I => ?_)
  refine lv_aload_n hx hb dX5_start_5 rfl (lv_at hl 0 rfl) ?_
  refine lv_iconst (v := (-1)) hx hb dX5_start_6 (by decide) ?_
  obtain ⟨h3, e4, hf⟩ := Option.bind_eq_some_iff.mp hf
  refine r_pI X I e4 lp_TrapCorner_Reader_19 dX5_start_7 (fun H locs I => ?_)
  cases hf
  exact k_rv X I hr dX5_start_10
def f_X5_start (o0 : Nat) (h : AH) : Option (Unit × AH) := f_X5_start_0 o0 h
end
theorem c_X5_start (l : Launch) (g : GG) (o0 : Nat) {h : AH} {res : Unit × AH} (hf : f_X5_start o0 h = some res) : CM l g yX5_start cX5_start 1 none 1 64 0 0 [.ref (rfG g o0)] h none res.2 :=
  k_body (by decide) (Nat.le_of_ble_eq_true rfl) (fun p e s m below meth c R ls hR hr X I hl => w_X5_start_0 X ⟨Nat.le_of_eq hR.1.symm, Nat.le_of_eq hR.2.1.symm⟩ hr o0 h ls s.heap [] hf I (lv_sub hl [0] rfl))
/-! TrapCorner$Reader.sign()I -/
theorem dX5_sign_0 : decode cX5_sign 0 = .ok (.aload_n 0, 1) := by decide +kernel
theorem dX5_sign_1 : decode cX5_sign 1 = .ok (.getfield 15, 3) := by decide +kernel
theorem dX5_sign_4 : decode cX5_sign 4 = .ok (.aload_n 0, 1) := by decide +kernel
theorem dX5_sign_5 : decode cX5_sign 5 = .ok (.getfield 9, 3) := by decide +kernel
theorem dX5_sign_8 : decode cX5_sign 8 = .ok (.getfield 22, 3) := by decide +kernel
theorem dX5_sign_11 : decode cX5_sign 11 = .ok (.if_icmp .ge 33, 3) := by decide +kernel
theorem dX5_sign_14 : decode cX5_sign 14 = .ok (.aload_n 0, 1) := by decide +kernel
theorem dX5_sign_15 : decode cX5_sign 15 = .ok (.getfield 9, 3) := by decide +kernel
theorem dX5_sign_18 : decode cX5_sign 18 = .ok (.getfield 27, 3) := by decide +kernel
theorem dX5_sign_21 : decode cX5_sign 21 = .ok (.aload_n 0, 1) := by decide +kernel
theorem dX5_sign_22 : decode cX5_sign 22 = .ok (.getfield 15, 3) := by decide +kernel
theorem dX5_sign_25 : decode cX5_sign 25 = .ok (.iaload, 1) := by decide +kernel
theorem dX5_sign_26 : decode cX5_sign 26 = .ok (.bipush 32, 2) := by decide +kernel
theorem dX5_sign_28 : decode cX5_sign 28 = .ok (.if_icmp .ne 16, 3) := by decide +kernel
theorem dX5_sign_31 : decode cX5_sign 31 = .ok (.aload_n 0, 1) := by decide +kernel
theorem dX5_sign_32 : decode cX5_sign 32 = .ok (.dup, 1) := by decide +kernel
theorem dX5_sign_33 : decode cX5_sign 33 = .ok (.getfield 15, 3) := by decide +kernel
theorem dX5_sign_36 : decode cX5_sign 36 = .ok (.iconst 1, 1) := by decide +kernel
theorem dX5_sign_37 : decode cX5_sign 37 = .ok (.iadd, 1) := by decide +kernel
theorem dX5_sign_38 : decode cX5_sign 38 = .ok (.putfield 15, 3) := by decide +kernel
theorem dX5_sign_41 : decode cX5_sign 41 = .ok (.goto (-41), 3) := by decide +kernel
theorem dX5_sign_44 : decode cX5_sign 44 = .ok (.aload_n 0, 1) := by decide +kernel
theorem dX5_sign_45 : decode cX5_sign 45 = .ok (.getfield 15, 3) := by decide +kernel
theorem dX5_sign_48 : decode cX5_sign 48 = .ok (.aload_n 0, 1) := by decide +kernel
theorem dX5_sign_49 : decode cX5_sign 49 = .ok (.getfield 9, 3) := by decide +kernel
theorem dX5_sign_52 : decode cX5_sign 52 = .ok (.getfield 22, 3) := by decide +kernel
theorem dX5_sign_55 : decode cX5_sign 55 = .ok (.if_icmp .ge 18, 3) := by decide +kernel
theorem dX5_sign_58 : decode cX5_sign 58 = .ok (.aload_n 0, 1) := by decide +kernel
theorem dX5_sign_59 : decode cX5_sign 59 = .ok (.getfield 9, 3) := by decide +kernel
theorem dX5_sign_62 : decode cX5_sign 62 = .ok (.getfield 27, 3) := by decide +kernel
theorem dX5_sign_65 : decode cX5_sign 65 = .ok (.aload_n 0, 1) := by decide +kernel
theorem dX5_sign_66 : decode cX5_sign 66 = .ok (.getfield 15, 3) := by decide +kernel
theorem dX5_sign_69 : decode cX5_sign 69 = .ok (.iaload, 1) := by decide +kernel
theorem dX5_sign_70 : decode cX5_sign 70 = .ok (.goto 4, 3) := by decide +kernel
theorem dX5_sign_73 : decode cX5_sign 73 = .ok (.iconst (-1), 1) := by decide +kernel
theorem dX5_sign_74 : decode cX5_sign 74 = .ok (.ireturn, 1) := by decide +kernel
theorem lk_TrapCorner_Reader_15 : LK "TrapCorner$Reader" 15 [0, 2, 3] 1 := by
  intro ci hci
  simp only [List.mem_cons, List.not_mem_nil, or_false] at hci
  rcases hci with rfl | rfl | rfl
  · exact ⟨RX0, TX0, 6, "TrapCorner$Reader", ck_0, by decide, tw_140, Or.inl rfl⟩
  · exact ⟨RX2, TX2, 5, "TrapCorner$Reader", ck_2, by decide, tw_140, Or.inl rfl⟩
  · exact ⟨RX3, TX3, 5, "TrapCorner$Reader", ck_3, by decide, tw_140, Or.inl rfl⟩
theorem lk_TrapCorner_Reader_9 : LK "TrapCorner$Reader" 9 [0, 2, 3] 0 := by
  intro ci hci
  simp only [List.mem_cons, List.not_mem_nil, or_false] at hci
  rcases hci with rfl | rfl | rfl
  · exact ⟨RX0, TX0, 6, "TrapCorner$Reader", ck_0, by decide, tw_135, Or.inl rfl⟩
  · exact ⟨RX2, TX2, 5, "TrapCorner$Reader", ck_2, by decide, tw_135, Or.inl rfl⟩
  · exact ⟨RX3, TX3, 5, "TrapCorner$Reader", ck_3, by decide, tw_135, Or.inl rfl⟩
theorem lk_TrapCorner_Reader_22 : LK "TrapCorner$Reader" 22 [9] 1 := by
  intro ci hci
  have hci := List.mem_singleton.mp hci
  subst hci
  exact ⟨RX9, TX9, 2, "TrapCorner$Tape", ck_9, by decide, tw_46, Or.inl rfl⟩
theorem lk_TrapCorner_Reader_27 : LK "TrapCorner$Reader" 27 [9] 0 := by
  intro ci hci
  have hci := List.mem_singleton.mp hci
  subst hci
  exact ⟨RX9, TX9, 2, "TrapCorner$Tape", ck_9, by decide, tw_42, Or.inl rfl⟩
section
variable {g : GG} {p : Program} {l : Launch} {e : Env} {R : Room} {s : State} {m : MethodId} {args : Array Value} {below : List Frame} {meth : Method} {c : Code} {n0 z0 : Nat}
def f_X5_sign_44  (o0 : Nat) (h : AH) : Option (Int32 × AH) :=
  (gI [0, 2, 3] h o0 1).bind fun v1 =>
  (gR [0, 2, 3] h o0 0).bind fun v3 =>
  (gI [9] h v3 1).bind fun v5 =>
  if v5 ≤ v1 then
    some ((-1), h)
  else
    (gR [0, 2, 3] h o0 0).bind fun v8 =>
    (gR [9] h v8 0).bind fun v10 =>
    (gI [0, 2, 3] h o0 1).bind fun v12 =>
    (aI 0 h v10 v12).bind fun v14 =>
    some (v14, h)
set_option maxHeartbeats 1000000 in
theorem w_X5_sign_44 (X : Cx g p s m args meth c cX5_sign 1 "TrapCorner$Reader") (hR : 1 ≤ R.frames ∧ 64 ≤ R.locals) (hr : meth.sig.returnType = (some (.int))) {res : Int32 × AH} : ∀ (o0 : Nat) (h : AH) (ls : Array Slot) (H : Heap) (locs : List Loc), f_X5_sign_44 o0 h = some res → Iv g s n0 z0 h H locs 0 0 → lv_has ls 1 [(0, .ref (rfG g o0))] → W p l e R s m args below meth c H locs 0 0 (MQ below (QG g (some (.int res.1)) res.2) args s 0 0 (AG g)) (F0 m 44 ls []) := by
  have hx := X.1
  have hb := X.2.1
  intro o0 h ls H locs hf I hl
  unfold f_X5_sign_44 at hf
  refine lv_aload_n hx hb dX5_sign_44 rfl (lv_at hl 0 rfl) ?_
  obtain ⟨v1, e2, hf⟩ := Option.bind_eq_some_iff.mp hf
  refine r_gI X I e2 lk_TrapCorner_Reader_15 dX5_sign_45 ?_
  refine lv_aload_n hx hb dX5_sign_48 rfl (lv_at hl 0 rfl) ?_
  obtain ⟨v3, e4, hf⟩ := Option.bind_eq_some_iff.mp hf
  refine r_gR X I e4 lk_TrapCorner_Reader_9 dX5_sign_49 ?_
  obtain ⟨v5, e6, hf⟩ := Option.bind_eq_some_iff.mp hf
  refine r_gI X I e6 lk_TrapCorner_Reader_22 dX5_sign_52 ?_
  refine lv_icmp_ge (tgt := 73) hx hb dX5_sign_55 (by decide) (fun c7 => ?_) (fun c7 => ?_)
  · rw [if_pos c7] at hf
    refine lv_iconst (v := (-1)) hx hb dX5_sign_73 (by decide) ?_
    cases hf
    exact k_ri X I hr dX5_sign_74
  · rw [if_neg c7] at hf
    refine lv_aload_n hx hb dX5_sign_58 rfl (lv_at hl 0 rfl) ?_
    obtain ⟨v8, e9, hf⟩ := Option.bind_eq_some_iff.mp hf
    refine r_gR X I e9 lk_TrapCorner_Reader_9 dX5_sign_59 ?_
    obtain ⟨v10, e11, hf⟩ := Option.bind_eq_some_iff.mp hf
    refine r_gR X I e11 lk_TrapCorner_Reader_27 dX5_sign_62 ?_
    refine lv_aload_n hx hb dX5_sign_65 rfl (lv_at hl 0 rfl) ?_
    obtain ⟨v12, e13, hf⟩ := Option.bind_eq_some_iff.mp hf
    refine r_gI X I e13 lk_TrapCorner_Reader_15 dX5_sign_66 ?_
    obtain ⟨v14, e15, hf⟩ := Option.bind_eq_some_iff.mp hf
    refine r_aI0 X I e15 dX5_sign_69 ?_
    refine lv_goto (tgt := 74) hx hb dX5_sign_70 (by decide) ?_
    cases hf
    exact k_ri X I hr dX5_sign_74
def f_X5_sign_0  : Nat → Nat → AH → Option (Int32 × AH)
  | 0, _, _ => none
  | n + 1, o0, h =>
  (gI [0, 2, 3] h o0 1).bind fun v1 =>
  (gR [0, 2, 3] h o0 0).bind fun v3 =>
  (gI [9] h v3 1).bind fun v5 =>
  if v5 ≤ v1 then
    f_X5_sign_44 o0 h
  else
    (gR [0, 2, 3] h o0 0).bind fun v8 =>
    (gR [9] h v8 0).bind fun v10 =>
    (gI [0, 2, 3] h o0 1).bind fun v12 =>
    (aI 0 h v10 v12).bind fun v14 =>
    if v14 = 32 then
      (gI [0, 2, 3] h o0 1).bind fun v17 =>
      (pV [0, 2, 3] h o0 1 (.int (v17 + 1))).bind fun h19 =>
      f_X5_sign_0  n o0 h19
    else
      f_X5_sign_44 o0 h
set_option maxHeartbeats 1000000 in
theorem w_X5_sign_0 (X : Cx g p s m args meth c cX5_sign 1 "TrapCorner$Reader") (hR : 1 ≤ R.frames ∧ 64 ≤ R.locals) (hr : meth.sig.returnType = (some (.int))) {res : Int32 × AH} : ∀ (n : Nat) (o0 : Nat) (h : AH) (ls : Array Slot) (H : Heap) (locs : List Loc), f_X5_sign_0 n o0 h = some res → Iv g s n0 z0 h H locs 0 0 → lv_has ls 1 [(0, .ref (rfG g o0))] → W p l e R s m args below meth c H locs 0 0 (MQ below (QG g (some (.int res.1)) res.2) args s 0 0 (AG g)) (F0 m 0 ls []) := by
  have hx := X.1
  have hb := X.2.1
  intro n
  induction n with
  | zero =>
    intro o0 h ls H locs hf
    rw [f_X5_sign_0.eq_1] at hf
    cases hf
  | succ n ih =>
    intro o0 h ls H locs hf I hl
    rw [f_X5_sign_0.eq_2] at hf
    refine lv_aload_n hx hb dX5_sign_0 rfl (lv_at hl 0 rfl) ?_
    obtain ⟨v1, e2, hf⟩ := Option.bind_eq_some_iff.mp hf
    refine r_gI X I e2 lk_TrapCorner_Reader_15 dX5_sign_1 ?_
    refine lv_aload_n hx hb dX5_sign_4 rfl (lv_at hl 0 rfl) ?_
    obtain ⟨v3, e4, hf⟩ := Option.bind_eq_some_iff.mp hf
    refine r_gR X I e4 lk_TrapCorner_Reader_9 dX5_sign_5 ?_
    obtain ⟨v5, e6, hf⟩ := Option.bind_eq_some_iff.mp hf
    refine r_gI X I e6 lk_TrapCorner_Reader_22 dX5_sign_8 ?_
    refine lv_icmp_ge (tgt := 44) hx hb dX5_sign_11 (by decide) (fun c7 => ?_) (fun c7 => ?_)
    · rw [if_pos c7] at hf
      exact w_X5_sign_44 X hR hr  o0 h ls H locs hf I (lv_sub hl [0] rfl)
    · rw [if_neg c7] at hf
      refine lv_aload_n hx hb dX5_sign_14 rfl (lv_at hl 0 rfl) ?_
      obtain ⟨v8, e9, hf⟩ := Option.bind_eq_some_iff.mp hf
      refine r_gR X I e9 lk_TrapCorner_Reader_9 dX5_sign_15 ?_
      obtain ⟨v10, e11, hf⟩ := Option.bind_eq_some_iff.mp hf
      refine r_gR X I e11 lk_TrapCorner_Reader_27 dX5_sign_18 ?_
      refine lv_aload_n hx hb dX5_sign_21 rfl (lv_at hl 0 rfl) ?_
      obtain ⟨v12, e13, hf⟩ := Option.bind_eq_some_iff.mp hf
      refine r_gI X I e13 lk_TrapCorner_Reader_15 dX5_sign_22 ?_
      obtain ⟨v14, e15, hf⟩ := Option.bind_eq_some_iff.mp hf
      refine r_aI0 X I e15 dX5_sign_25 ?_
      refine lv_bipush (v := 32) hx hb dX5_sign_26 (by decide) ?_
      refine lv_icmp_ne (tgt := 44) hx hb dX5_sign_28 (by decide) (fun c16 => ?_) (fun c16 => ?_)
      · rw [if_neg c16] at hf
        exact w_X5_sign_44 X hR hr  o0 h ls H locs hf I (lv_sub hl [0] rfl)
      · rw [if_pos c16] at hf
        refine lv_aload_n hx hb dX5_sign_31 rfl (lv_at hl 0 rfl) ?_
        refine lv_dup hx hb dX5_sign_32 rfl ?_
        obtain ⟨v17, e18, hf⟩ := Option.bind_eq_some_iff.mp hf
        refine r_gI X I e18 lk_TrapCorner_Reader_15 dX5_sign_33 ?_
        refine lv_iconst (v := 1) hx hb dX5_sign_36 (by decide) ?_
        refine lv_iadd hx hb dX5_sign_37 ?_
        obtain ⟨h19, e20, hf⟩ := Option.bind_eq_some_iff.mp hf
        refine r_pI X I e20 lp_TrapCorner_Reader_15 dX5_sign_38 (fun H locs I => ?_)
        refine lv_goto (tgt := 0) hx hb dX5_sign_41 (by decide) ?_
        exact ih o0 h19 ls H locs hf I (lv_sub hl [0] rfl)
def f_X5_sign (o0 : Nat) (h : AH) : Option (Int32 × AH) := f_X5_sign_0 fu o0 h
end
theorem c_X5_sign (l : Launch) (g : GG) (o0 : Nat) {h : AH} {res : Int32 × AH} (hf : f_X5_sign o0 h = some res) : CM l g yX5_sign cX5_sign 1 (some (.int)) 1 64 0 0 [.ref (rfG g o0)] h (some (.int res.1)) res.2 :=
  k_body (by decide) (Nat.le_of_ble_eq_true rfl) (fun p e s m below meth c R ls hR hr X I hl => w_X5_sign_0 X ⟨Nat.le_of_eq hR.1.symm, Nat.le_of_eq hR.2.1.symm⟩ hr fu o0 h ls s.heap [] hf I (lv_sub hl [0] rfl))
/-! TrapCorner$Reader.fails(I)Z -/
theorem dX5_fails_0 : decode cX5_fails 0 = .ok (.aload_n 0, 1) := by decide +kernel
theorem dX5_fails_1 : decode cX5_fails 1 = .ok (.iload_n 1, 1) := by decide +kernel
theorem dX5_fails_2 : decode cX5_fails 2 = .ok (.putfield 19, 3) := by decide +kernel
theorem dX5_fails_5 : decode cX5_fails 5 = .ok (.iconst 0, 1) := by decide +kernel
theorem dX5_fails_6 : decode cX5_fails 6 = .ok (.ireturn, 1) := by decide +kernel
section
variable {g : GG} {p : Program} {l : Launch} {e : Env} {R : Room} {s : State} {m : MethodId} {args : Array Value} {below : List Frame} {meth : Method} {c : Code} {n0 z0 : Nat}
def f_X5_fails_0  (o0 : Nat) (x1 : Int32) (h : AH) : Option (Int32 × AH) :=
  (pV [0, 2, 3] h o0 2 (.int x1)).bind fun h1 =>
  some (0, h1)
set_option maxHeartbeats 1000000 in
theorem w_X5_fails_0 (X : Cx g p s m args meth c cX5_fails 2 "TrapCorner$Reader") (hR : 1 ≤ R.frames ∧ 64 ≤ R.locals) (hr : meth.sig.returnType = (some (.boolean))) {res : Int32 × AH} : ∀ (o0 : Nat) (x1 : Int32) (h : AH) (ls : Array Slot) (H : Heap) (locs : List Loc), f_X5_fails_0 o0 x1 h = some res → Iv g s n0 z0 h H locs 0 0 → lv_has ls 2 [(0, .ref (rfG g o0)), (1, .int x1)] → W p l e R s m args below meth c H locs 0 0 (MQ below (QG g (some (.int res.1)) res.2) args s 0 0 (AG g)) (F0 m 0 ls []) := by
  have hx := X.1
  have hb := X.2.1
  intro o0 x1 h ls H locs hf I hl
  unfold f_X5_fails_0 at hf
  refine lv_aload_n hx hb dX5_fails_0 rfl (lv_at hl 0 rfl) ?_
  refine lv_iload_n hx hb dX5_fails_1 rfl (lv_at hl 1 rfl) ?_
  obtain ⟨h1, e2, hf⟩ := Option.bind_eq_some_iff.mp hf
  refine r_pI X I e2 lp_TrapCorner_Reader_19 dX5_fails_2 (fun H locs I => ?_)
  refine lv_iconst (v := 0) hx hb dX5_fails_5 (by decide) ?_
  cases hf
  exact k_rz X I hr (Or.inl rfl) dX5_fails_6
def f_X5_fails (o0 : Nat) (x1 : Int32) (h : AH) : Option (Int32 × AH) := f_X5_fails_0 o0 x1 h
end
theorem c_X5_fails (l : Launch) (g : GG) (o0 : Nat) (x1 : Int32) {h : AH} {res : Int32 × AH} (hf : f_X5_fails o0 x1 h = some res) : CM l g yX5_fails cX5_fails 2 (some (.boolean)) 1 64 0 0 [.ref (rfG g o0), .int x1] h (some (.int res.1)) res.2 :=
  k_body (by decide) (Nat.le_of_ble_eq_true rfl) (fun p e s m below meth c R ls hR hr X I hl => w_X5_fails_0 X ⟨Nat.le_of_eq hR.1.symm, Nat.le_of_eq hR.2.1.symm⟩ hr o0 x1 h ls s.heap [] hf I (lv_sub hl [0, 1] rfl))
/-! TrapCorner$Reader.takes(I)Z -/
theorem dX5_takes_0 : decode cX5_takes 0 = .ok (.aload_n 0, 1) := by decide +kernel
theorem dX5_takes_1 : decode cX5_takes 1 = .ok (.invokevirtual 31, 3) := by decide +kernel
theorem dX5_takes_4 : decode cX5_takes 4 = .ok (.iload_n 1, 1) := by decide +kernel
theorem dX5_takes_5 : decode cX5_takes 5 = .ok (.if_icmp .eq 12, 3) := by decide +kernel
theorem dX5_takes_8 : decode cX5_takes 8 = .ok (.aload_n 0, 1) := by decide +kernel
theorem dX5_takes_9 : decode cX5_takes 9 = .ok (.aload_n 0, 1) := by decide +kernel
theorem dX5_takes_10 : decode cX5_takes 10 = .ok (.getfield 15, 3) := by decide +kernel
theorem dX5_takes_13 : decode cX5_takes 13 = .ok (.invokevirtual 35, 3) := by decide +kernel
theorem dX5_takes_16 : decode cX5_takes 16 = .ok (.ireturn, 1) := by decide +kernel
theorem dX5_takes_17 : decode cX5_takes 17 = .ok (.aload_n 0, 1) := by decide +kernel
theorem dX5_takes_18 : decode cX5_takes 18 = .ok (.dup, 1) := by decide +kernel
theorem dX5_takes_19 : decode cX5_takes 19 = .ok (.getfield 15, 3) := by decide +kernel
theorem dX5_takes_22 : decode cX5_takes 22 = .ok (.iconst 1, 1) := by decide +kernel
theorem dX5_takes_23 : decode cX5_takes 23 = .ok (.iadd, 1) := by decide +kernel
theorem dX5_takes_24 : decode cX5_takes 24 = .ok (.putfield 15, 3) := by decide +kernel
theorem dX5_takes_27 : decode cX5_takes 27 = .ok (.iconst 1, 1) := by decide +kernel
theorem dX5_takes_28 : decode cX5_takes 28 = .ok (.ireturn, 1) := by decide +kernel
theorem vk_TrapCorner_Reader_31 : VK "TrapCorner$Reader" 31 [0, 2, 3] yX5_sign 0 := ⟨tw_594, tw_477, tw_3, ⟨by decide, by decide⟩, by decide +kernel, fun ci hci => by
  simp only [List.mem_cons, List.not_mem_nil, or_false] at hci
  rcases hci with rfl | rfl | rfl
  · exact ⟨_, rfl, tw_1939⟩
  · exact ⟨_, rfl, tw_1940⟩
  · exact ⟨_, rfl, tw_1941⟩⟩
theorem vk_TrapCorner_Reader_35 : VK "TrapCorner$Reader" 35 [0, 2, 3] yX5_fails 1 := ⟨tw_602, tw_586, tw_3, ⟨by decide, by decide⟩, by decide +kernel, fun ci hci => by
  simp only [List.mem_cons, List.not_mem_nil, or_false] at hci
  rcases hci with rfl | rfl | rfl
  · exact ⟨_, rfl, tw_1943⟩
  · exact ⟨_, rfl, tw_1944⟩
  · exact ⟨_, rfl, tw_1945⟩⟩
section
variable {g : GG} {p : Program} {l : Launch} {e : Env} {R : Room} {s : State} {m : MethodId} {args : Array Value} {below : List Frame} {meth : Method} {c : Code} {n0 z0 : Nat}
def f_X5_takes_0  (o0 : Nat) (x1 : Int32) (h : AH) : Option (Int32 × AH) :=
  (isC [0, 2, 3] h o0).bind fun _ =>
  cN (f_X5_sign o0 h) h fun v1 h2 =>
  if v1 = x1 then
    (gI [0, 2, 3] h2 o0 1).bind fun v7 =>
    (pV [0, 2, 3] h2 o0 1 (.int (v7 + 1))).bind fun h9 =>
    some (1, h9)
  else
    (gI [0, 2, 3] h2 o0 1).bind fun v11 =>
    (isC [0, 2, 3] h2 o0).bind fun _ =>
    cN (f_X5_fails o0 v11 h2) h2 fun v13 h14 =>
    rZ v13 h14
set_option maxHeartbeats 1000000 in
theorem w_X5_takes_0 (X : Cx g p s m args meth c cX5_takes 2 "TrapCorner$Reader") (hR : 2 ≤ R.frames ∧ 128 ≤ R.locals) (hr : meth.sig.returnType = (some (.boolean))) {res : Int32 × AH} : ∀ (o0 : Nat) (x1 : Int32) (h : AH) (ls : Array Slot) (H : Heap) (locs : List Loc), f_X5_takes_0 o0 x1 h = some res → Iv g s n0 z0 h H locs 0 0 → lv_has ls 2 [(0, .ref (rfG g o0)), (1, .int x1)] → W p l e R s m args below meth c H locs 0 0 (MQ below (QG g (some (.int res.1)) res.2) args s 0 0 (AG g)) (F0 m 0 ls []) := by
  have hx := X.1
  have hb := X.2.1
  intro o0 x1 h ls H locs hf I hl
  unfold f_X5_takes_0 at hf
  refine lv_aload_n hx hb dX5_takes_0 rfl (lv_at hl 0 rfl) ?_
  obtain ⟨_, g5, hf⟩ := Option.bind_eq_some_iff.mp hf
  obtain ⟨v1, h2, e3, z4, hf⟩ := cN_spec hf
  refine k_Vi (As := []) (rest := []) X I (c_X5_sign l g o0 e3) z4 g5 vk_TrapCorner_Reader_31 tw_478 ⟨Nat.le_trans (by decide) hR.1, Nat.le_trans (by decide) hR.2⟩ ⟨Nat.zero_le _, Nat.zero_le _⟩ rfl hl.1 rfl (Nat.le_of_ble_eq_true rfl) dX5_takes_1 (fun H locs I => ?_)
  refine lv_iload_n hx hb dX5_takes_4 rfl (lv_at hl 1 rfl) ?_
  refine lv_icmp_eq (tgt := 17) hx hb dX5_takes_5 (by decide) (fun c6 => ?_) (fun c6 => ?_)
  · rw [if_pos c6] at hf
    refine lv_aload_n hx hb dX5_takes_17 rfl (lv_at hl 0 rfl) ?_
    refine lv_dup hx hb dX5_takes_18 rfl ?_
    obtain ⟨v7, e8, hf⟩ := Option.bind_eq_some_iff.mp hf
    refine r_gI X I e8 lk_TrapCorner_Reader_15 dX5_takes_19 ?_
    refine lv_iconst (v := 1) hx hb dX5_takes_22 (by decide) ?_
    refine lv_iadd hx hb dX5_takes_23 ?_
    obtain ⟨h9, e10, hf⟩ := Option.bind_eq_some_iff.mp hf
    refine r_pI X I e10 lp_TrapCorner_Reader_15 dX5_takes_24 (fun H locs I => ?_)
    refine lv_iconst (v := 1) hx hb dX5_takes_27 (by decide) ?_
    cases hf
    exact k_rz X I hr (Or.inr rfl) dX5_takes_28
  · rw [if_neg c6] at hf
    refine lv_aload_n hx hb dX5_takes_8 rfl (lv_at hl 0 rfl) ?_
    refine lv_aload_n hx hb dX5_takes_9 rfl (lv_at hl 0 rfl) ?_
    obtain ⟨v11, e12, hf⟩ := Option.bind_eq_some_iff.mp hf
    refine r_gI X I e12 lk_TrapCorner_Reader_15 dX5_takes_10 ?_
    obtain ⟨_, g17, hf⟩ := Option.bind_eq_some_iff.mp hf
    obtain ⟨v13, h14, e15, z16, hf⟩ := cN_spec hf
    refine k_Vi (As := [.int v11]) (rest := []) X I (c_X5_fails l g o0 v11 e15) z16 g17 vk_TrapCorner_Reader_35 tw_587 ⟨Nat.le_trans (by decide) hR.1, Nat.le_trans (by decide) hR.2⟩ ⟨Nat.zero_le _, Nat.zero_le _⟩ rfl hl.1 rfl (Nat.le_of_ble_eq_true rfl) dX5_takes_13 (fun H locs I => ?_)
    obtain ⟨hz, rfl⟩ := rZ_spec hf
    exact k_rz X I hr hz dX5_takes_16
def f_X5_takes (o0 : Nat) (x1 : Int32) (h : AH) : Option (Int32 × AH) := f_X5_takes_0 o0 x1 h
end
theorem c_X5_takes (l : Launch) (g : GG) (o0 : Nat) (x1 : Int32) {h : AH} {res : Int32 × AH} (hf : f_X5_takes o0 x1 h = some res) : CM l g yX5_takes cX5_takes 2 (some (.boolean)) 2 128 0 0 [.ref (rfG g o0), .int x1] h (some (.int res.1)) res.2 :=
  k_body (by decide) (Nat.le_of_ble_eq_true rfl) (fun p e s m below meth c R ls hR hr X I hl => w_X5_takes_0 X ⟨Nat.le_of_eq hR.1.symm, Nat.le_of_eq hR.2.1.symm⟩ hr o0 x1 h ls s.heap [] hf I (lv_sub hl [0, 1] rfl))
/-! TrapCorner$Reader.digitHere()Z -/
theorem dX5_digitHere_0 : decode cX5_digitHere 0 = .ok (.aload_n 0, 1) := by decide +kernel
theorem dX5_digitHere_1 : decode cX5_digitHere 1 = .ok (.getfield 15, 3) := by decide +kernel
theorem dX5_digitHere_4 : decode cX5_digitHere 4 = .ok (.aload_n 0, 1) := by decide +kernel
theorem dX5_digitHere_5 : decode cX5_digitHere 5 = .ok (.getfield 9, 3) := by decide +kernel
theorem dX5_digitHere_8 : decode cX5_digitHere 8 = .ok (.getfield 22, 3) := by decide +kernel
theorem dX5_digitHere_11 : decode cX5_digitHere 11 = .ok (.if_icmp .ge 41, 3) := by decide +kernel
theorem dX5_digitHere_14 : decode cX5_digitHere 14 = .ok (.aload_n 0, 1) := by decide +kernel
theorem dX5_digitHere_15 : decode cX5_digitHere 15 = .ok (.getfield 9, 3) := by decide +kernel
theorem dX5_digitHere_18 : decode cX5_digitHere 18 = .ok (.getfield 27, 3) := by decide +kernel
theorem dX5_digitHere_21 : decode cX5_digitHere 21 = .ok (.aload_n 0, 1) := by decide +kernel
theorem dX5_digitHere_22 : decode cX5_digitHere 22 = .ok (.getfield 15, 3) := by decide +kernel
theorem dX5_digitHere_25 : decode cX5_digitHere 25 = .ok (.iaload, 1) := by decide +kernel
theorem dX5_digitHere_26 : decode cX5_digitHere 26 = .ok (.bipush 48, 2) := by decide +kernel
theorem dX5_digitHere_28 : decode cX5_digitHere 28 = .ok (.if_icmp .lt 24, 3) := by decide +kernel
theorem dX5_digitHere_31 : decode cX5_digitHere 31 = .ok (.aload_n 0, 1) := by decide +kernel
theorem dX5_digitHere_32 : decode cX5_digitHere 32 = .ok (.getfield 9, 3) := by decide +kernel
theorem dX5_digitHere_35 : decode cX5_digitHere 35 = .ok (.getfield 27, 3) := by decide +kernel
theorem dX5_digitHere_38 : decode cX5_digitHere 38 = .ok (.aload_n 0, 1) := by decide +kernel
theorem dX5_digitHere_39 : decode cX5_digitHere 39 = .ok (.getfield 15, 3) := by decide +kernel
theorem dX5_digitHere_42 : decode cX5_digitHere 42 = .ok (.iaload, 1) := by decide +kernel
theorem dX5_digitHere_43 : decode cX5_digitHere 43 = .ok (.bipush 57, 2) := by decide +kernel
theorem dX5_digitHere_45 : decode cX5_digitHere 45 = .ok (.if_icmp .gt 7, 3) := by decide +kernel
theorem dX5_digitHere_48 : decode cX5_digitHere 48 = .ok (.iconst 1, 1) := by decide +kernel
theorem dX5_digitHere_49 : decode cX5_digitHere 49 = .ok (.goto 4, 3) := by decide +kernel
theorem dX5_digitHere_52 : decode cX5_digitHere 52 = .ok (.iconst 0, 1) := by decide +kernel
theorem dX5_digitHere_53 : decode cX5_digitHere 53 = .ok (.ireturn, 1) := by decide +kernel
section
variable {g : GG} {p : Program} {l : Launch} {e : Env} {R : Room} {s : State} {m : MethodId} {args : Array Value} {below : List Frame} {meth : Method} {c : Code} {n0 z0 : Nat}
def f_X5_digitHere_0  (o0 : Nat) (h : AH) : Option (Int32 × AH) :=
  (gI [0, 2, 3] h o0 1).bind fun v1 =>
  (gR [0, 2, 3] h o0 0).bind fun v3 =>
  (gI [9] h v3 1).bind fun v5 =>
  if v5 ≤ v1 then
    some (0, h)
  else
    (gR [0, 2, 3] h o0 0).bind fun v8 =>
    (gR [9] h v8 0).bind fun v10 =>
    (gI [0, 2, 3] h o0 1).bind fun v12 =>
    (aI 0 h v10 v12).bind fun v14 =>
    if v14 < 48 then
      some (0, h)
    else
      (gR [0, 2, 3] h o0 0).bind fun v17 =>
      (gR [9] h v17 0).bind fun v19 =>
      (gI [0, 2, 3] h o0 1).bind fun v21 =>
      (aI 0 h v19 v21).bind fun v23 =>
      if 57 < v23 then
        some (0, h)
      else
        some (1, h)
set_option maxHeartbeats 1000000 in
theorem w_X5_digitHere_0 (X : Cx g p s m args meth c cX5_digitHere 1 "TrapCorner$Reader") (hR : 1 ≤ R.frames ∧ 64 ≤ R.locals) (hr : meth.sig.returnType = (some (.boolean))) {res : Int32 × AH} : ∀ (o0 : Nat) (h : AH) (ls : Array Slot) (H : Heap) (locs : List Loc), f_X5_digitHere_0 o0 h = some res → Iv g s n0 z0 h H locs 0 0 → lv_has ls 1 [(0, .ref (rfG g o0))] → W p l e R s m args below meth c H locs 0 0 (MQ below (QG g (some (.int res.1)) res.2) args s 0 0 (AG g)) (F0 m 0 ls []) := by
  have hx := X.1
  have hb := X.2.1
  intro o0 h ls H locs hf I hl
  unfold f_X5_digitHere_0 at hf
  refine lv_aload_n hx hb dX5_digitHere_0 rfl (lv_at hl 0 rfl) ?_
  obtain ⟨v1, e2, hf⟩ := Option.bind_eq_some_iff.mp hf
  refine r_gI X I e2 lk_TrapCorner_Reader_15 dX5_digitHere_1 ?_
  refine lv_aload_n hx hb dX5_digitHere_4 rfl (lv_at hl 0 rfl) ?_
  obtain ⟨v3, e4, hf⟩ := Option.bind_eq_some_iff.mp hf
  refine r_gR X I e4 lk_TrapCorner_Reader_9 dX5_digitHere_5 ?_
  obtain ⟨v5, e6, hf⟩ := Option.bind_eq_some_iff.mp hf
  refine r_gI X I e6 lk_TrapCorner_Reader_22 dX5_digitHere_8 ?_
  refine lv_icmp_ge (tgt := 52) hx hb dX5_digitHere_11 (by decide) (fun c7 => ?_) (fun c7 => ?_)
  · rw [if_pos c7] at hf
    refine lv_iconst (v := 0) hx hb dX5_digitHere_52 (by decide) ?_
    cases hf
    exact k_rz X I hr (Or.inl rfl) dX5_digitHere_53
  · rw [if_neg c7] at hf
    refine lv_aload_n hx hb dX5_digitHere_14 rfl (lv_at hl 0 rfl) ?_
    obtain ⟨v8, e9, hf⟩ := Option.bind_eq_some_iff.mp hf
    refine r_gR X I e9 lk_TrapCorner_Reader_9 dX5_digitHere_15 ?_
    obtain ⟨v10, e11, hf⟩ := Option.bind_eq_some_iff.mp hf
    refine r_gR X I e11 lk_TrapCorner_Reader_27 dX5_digitHere_18 ?_
    refine lv_aload_n hx hb dX5_digitHere_21 rfl (lv_at hl 0 rfl) ?_
    obtain ⟨v12, e13, hf⟩ := Option.bind_eq_some_iff.mp hf
    refine r_gI X I e13 lk_TrapCorner_Reader_15 dX5_digitHere_22 ?_
    obtain ⟨v14, e15, hf⟩ := Option.bind_eq_some_iff.mp hf
    refine r_aI0 X I e15 dX5_digitHere_25 ?_
    refine lv_bipush (v := 48) hx hb dX5_digitHere_26 (by decide) ?_
    refine lv_icmp_lt (tgt := 52) hx hb dX5_digitHere_28 (by decide) (fun c16 => ?_) (fun c16 => ?_)
    · rw [if_pos c16] at hf
      refine lv_iconst (v := 0) hx hb dX5_digitHere_52 (by decide) ?_
      cases hf
      exact k_rz X I hr (Or.inl rfl) dX5_digitHere_53
    · rw [if_neg c16] at hf
      refine lv_aload_n hx hb dX5_digitHere_31 rfl (lv_at hl 0 rfl) ?_
      obtain ⟨v17, e18, hf⟩ := Option.bind_eq_some_iff.mp hf
      refine r_gR X I e18 lk_TrapCorner_Reader_9 dX5_digitHere_32 ?_
      obtain ⟨v19, e20, hf⟩ := Option.bind_eq_some_iff.mp hf
      refine r_gR X I e20 lk_TrapCorner_Reader_27 dX5_digitHere_35 ?_
      refine lv_aload_n hx hb dX5_digitHere_38 rfl (lv_at hl 0 rfl) ?_
      obtain ⟨v21, e22, hf⟩ := Option.bind_eq_some_iff.mp hf
      refine r_gI X I e22 lk_TrapCorner_Reader_15 dX5_digitHere_39 ?_
      obtain ⟨v23, e24, hf⟩ := Option.bind_eq_some_iff.mp hf
      refine r_aI0 X I e24 dX5_digitHere_42 ?_
      refine lv_bipush (v := 57) hx hb dX5_digitHere_43 (by decide) ?_
      refine lv_icmp_gt (tgt := 52) hx hb dX5_digitHere_45 (by decide) (fun c25 => ?_) (fun c25 => ?_)
      · rw [if_pos c25] at hf
        refine lv_iconst (v := 0) hx hb dX5_digitHere_52 (by decide) ?_
        cases hf
        exact k_rz X I hr (Or.inl rfl) dX5_digitHere_53
      · rw [if_neg c25] at hf
        refine lv_iconst (v := 1) hx hb dX5_digitHere_48 (by decide) ?_
        refine lv_goto (tgt := 53) hx hb dX5_digitHere_49 (by decide) ?_
        cases hf
        exact k_rz X I hr (Or.inr rfl) dX5_digitHere_53
def f_X5_digitHere (o0 : Nat) (h : AH) : Option (Int32 × AH) := f_X5_digitHere_0 o0 h
end
theorem c_X5_digitHere (l : Launch) (g : GG) (o0 : Nat) {h : AH} {res : Int32 × AH} (hf : f_X5_digitHere o0 h = some res) : CM l g yX5_digitHere cX5_digitHere 1 (some (.boolean)) 1 64 0 0 [.ref (rfG g o0)] h (some (.int res.1)) res.2 :=
  k_body (by decide) (Nat.le_of_ble_eq_true rfl) (fun p e s m below meth c R ls hR hr X I hl => w_X5_digitHere_0 X ⟨Nat.le_of_eq hR.1.symm, Nat.le_of_eq hR.2.1.symm⟩ hr o0 h ls s.heap [] hf I (lv_sub hl [0] rfl))
/-! TrapCorner$Reader.number(I)I -/
theorem dX5_number_0 : decode cX5_number 0 = .ok (.aload_n 0, 1) := by decide +kernel
theorem dX5_number_1 : decode cX5_number 1 = .ok (.invokevirtual 31, 3) := by decide +kernel
theorem dX5_number_4 : decode cX5_number 4 = .ok (.pop, 1) := by decide +kernel
theorem dX5_number_5 : decode cX5_number 5 = .ok (.iconst 0, 1) := by decide +kernel
theorem dX5_number_6 : decode cX5_number 6 = .ok (.istore_n 2, 1) := by decide +kernel
theorem dX5_number_7 : decode cX5_number 7 = .ok (.iconst 0, 1) := by decide +kernel
theorem dX5_number_8 : decode cX5_number 8 = .ok (.istore_n 3, 1) := by decide +kernel
theorem dX5_number_9 : decode cX5_number 9 = .ok (.iload_n 3, 1) := by decide +kernel
theorem dX5_number_10 : decode cX5_number 10 = .ok (.iload_n 1, 1) := by decide +kernel
theorem dX5_number_11 : decode cX5_number 11 = .ok (.if_icmp .ge 47, 3) := by decide +kernel
theorem dX5_number_14 : decode cX5_number 14 = .ok (.aload_n 0, 1) := by decide +kernel
theorem dX5_number_15 : decode cX5_number 15 = .ok (.invokevirtual 39, 3) := by decide +kernel
theorem dX5_number_18 : decode cX5_number 18 = .ok (.ifCond .eq 40, 3) := by decide +kernel
theorem dX5_number_21 : decode cX5_number 21 = .ok (.iload_n 2, 1) := by decide +kernel
theorem dX5_number_22 : decode cX5_number 22 = .ok (.bipush 10, 2) := by decide +kernel
theorem dX5_number_24 : decode cX5_number 24 = .ok (.imul, 1) := by decide +kernel
theorem dX5_number_25 : decode cX5_number 25 = .ok (.aload_n 0, 1) := by decide +kernel
theorem dX5_number_26 : decode cX5_number 26 = .ok (.getfield 9, 3) := by decide +kernel
theorem dX5_number_29 : decode cX5_number 29 = .ok (.getfield 27, 3) := by decide +kernel
theorem dX5_number_32 : decode cX5_number 32 = .ok (.aload_n 0, 1) := by decide +kernel
theorem dX5_number_33 : decode cX5_number 33 = .ok (.getfield 15, 3) := by decide +kernel
theorem dX5_number_36 : decode cX5_number 36 = .ok (.iaload, 1) := by decide +kernel
theorem dX5_number_37 : decode cX5_number 37 = .ok (.iadd, 1) := by decide +kernel
theorem dX5_number_38 : decode cX5_number 38 = .ok (.bipush 48, 2) := by decide +kernel
theorem dX5_number_40 : decode cX5_number 40 = .ok (.isub, 1) := by decide +kernel
theorem dX5_number_41 : decode cX5_number 41 = .ok (.istore_n 2, 1) := by decide +kernel
theorem dX5_number_42 : decode cX5_number 42 = .ok (.aload_n 0, 1) := by decide +kernel
theorem dX5_number_43 : decode cX5_number 43 = .ok (.dup, 1) := by decide +kernel
theorem dX5_number_44 : decode cX5_number 44 = .ok (.getfield 15, 3) := by decide +kernel
theorem dX5_number_47 : decode cX5_number 47 = .ok (.iconst 1, 1) := by decide +kernel
theorem dX5_number_48 : decode cX5_number 48 = .ok (.iadd, 1) := by decide +kernel
theorem dX5_number_49 : decode cX5_number 49 = .ok (.putfield 15, 3) := by decide +kernel
theorem dX5_number_52 : decode cX5_number 52 = .ok (.iinc 3 1, 3) := by decide +kernel
theorem dX5_number_55 : decode cX5_number 55 = .ok (.goto (-46), 3) := by decide +kernel
theorem dX5_number_58 : decode cX5_number 58 = .ok (.iload_n 3, 1) := by decide +kernel
theorem dX5_number_59 : decode cX5_number 59 = .ok (.ifCond .eq 10, 3) := by decide +kernel
theorem dX5_number_62 : decode cX5_number 62 = .ok (.aload_n 0, 1) := by decide +kernel
theorem dX5_number_63 : decode cX5_number 63 = .ok (.invokevirtual 39, 3) := by decide +kernel
theorem dX5_number_66 : decode cX5_number 66 = .ok (.ifCond .eq 14, 3) := by decide +kernel
theorem dX5_number_69 : decode cX5_number 69 = .ok (.aload_n 0, 1) := by decide +kernel
theorem dX5_number_70 : decode cX5_number 70 = .ok (.aload_n 0, 1) := by decide +kernel
theorem dX5_number_71 : decode cX5_number 71 = .ok (.getfield 15, 3) := by decide +kernel
theorem dX5_number_74 : decode cX5_number 74 = .ok (.invokevirtual 35, 3) := by decide +kernel
theorem dX5_number_77 : decode cX5_number 77 = .ok (.pop, 1) := by decide +kernel
theorem dX5_number_78 : decode cX5_number 78 = .ok (.iconst (-1), 1) := by decide +kernel
theorem dX5_number_79 : decode cX5_number 79 = .ok (.ireturn, 1) := by decide +kernel
theorem dX5_number_80 : decode cX5_number 80 = .ok (.iload_n 2, 1) := by decide +kernel
theorem dX5_number_81 : decode cX5_number 81 = .ok (.ireturn, 1) := by decide +kernel
theorem vk_TrapCorner_Reader_39 : VK "TrapCorner$Reader" 39 [0, 2, 3] yX5_digitHere 0 := ⟨tw_595, tw_596, tw_3, ⟨by decide, by decide⟩, by decide +kernel, fun ci hci => by
  simp only [List.mem_cons, List.not_mem_nil, or_false] at hci
  rcases hci with rfl | rfl | rfl
  · exact ⟨_, rfl, tw_598⟩
  · exact ⟨_, rfl, tw_599⟩
  · exact ⟨_, rfl, tw_600⟩⟩
section
variable {g : GG} {p : Program} {l : Launch} {e : Env} {R : Room} {s : State} {m : MethodId} {args : Array Value} {below : List Frame} {meth : Method} {c : Code} {n0 z0 : Nat}
def f_X5_number_69  (o0 : Nat) (h : AH) : Option (Int32 × AH) :=
  (gI [0, 2, 3] h o0 1).bind fun v1 =>
  (isC [0, 2, 3] h o0).bind fun _ =>
  cN (f_X5_fails o0 v1 h) h fun v3 h4 =>
  some ((-1), h4)
set_option maxHeartbeats 1000000 in
theorem w_X5_number_69 (X : Cx g p s m args meth c cX5_number 4 "TrapCorner$Reader") (hR : 2 ≤ R.frames ∧ 128 ≤ R.locals) (hr : meth.sig.returnType = (some (.int))) {res : Int32 × AH} : ∀ (o0 : Nat) (h : AH) (ls : Array Slot) (H : Heap) (locs : List Loc), f_X5_number_69 o0 h = some res → Iv g s n0 z0 h H locs 0 0 → lv_has ls 4 [(0, .ref (rfG g o0))] → W p l e R s m args below meth c H locs 0 0 (MQ below (QG g (some (.int res.1)) res.2) args s 0 0 (AG g)) (F0 m 69 ls []) := by
  have hx := X.1
  have hb := X.2.1
  intro o0 h ls H locs hf I hl
  unfold f_X5_number_69 at hf
  refine lv_aload_n hx hb dX5_number_69 rfl (lv_at hl 0 rfl) ?_
  refine lv_aload_n hx hb dX5_number_70 rfl (lv_at hl 0 rfl) ?_
  obtain ⟨v1, e2, hf⟩ := Option.bind_eq_some_iff.mp hf
  refine r_gI X I e2 lk_TrapCorner_Reader_15 dX5_number_71 ?_
  obtain ⟨_, g7, hf⟩ := Option.bind_eq_some_iff.mp hf
  obtain ⟨v3, h4, e5, z6, hf⟩ := cN_spec hf
  refine k_Vi (As := [.int v1]) (rest := []) X I (c_X5_fails l g o0 v1 e5) z6 g7 vk_TrapCorner_Reader_35 tw_587 ⟨Nat.le_trans (by decide) hR.1, Nat.le_trans (by decide) hR.2⟩ ⟨Nat.zero_le _, Nat.zero_le _⟩ rfl hl.1 rfl (Nat.le_of_ble_eq_true rfl) dX5_number_74 (fun H locs I => ?_)
  refine lv_pop hx hb dX5_number_77 rfl ?_
  refine lv_iconst (v := (-1)) hx hb dX5_number_78 (by decide) ?_
  cases hf
  exact k_ri X I hr dX5_number_79
def f_X5_number_58  (o0 : Nat) (x2 : Int32) (x3 : Int32) (h : AH) : Option (Int32 × AH) :=
  if x3 = 0 then
    f_X5_number_69 o0 h
  else
    (isC [0, 2, 3] h o0).bind fun _ =>
    cN (f_X5_digitHere o0 h) h fun v2 h3 =>
    if v2 = 0 then
      some (x2, h3)
    else
      f_X5_number_69 o0 h3
set_option maxHeartbeats 1000000 in
theorem w_X5_number_58 (X : Cx g p s m args meth c cX5_number 4 "TrapCorner$Reader") (hR : 2 ≤ R.frames ∧ 128 ≤ R.locals) (hr : meth.sig.returnType = (some (.int))) {res : Int32 × AH} : ∀ (o0 : Nat) (x2 : Int32) (x3 : Int32) (h : AH) (ls : Array Slot) (H : Heap) (locs : List Loc), f_X5_number_58 o0 x2 x3 h = some res → Iv g s n0 z0 h H locs 0 0 → lv_has ls 4 [(0, .ref (rfG g o0)), (2, .int x2), (3, .int x3)] → W p l e R s m args below meth c H locs 0 0 (MQ below (QG g (some (.int res.1)) res.2) args s 0 0 (AG g)) (F0 m 58 ls []) := by
  have hx := X.1
  have hb := X.2.1
  intro o0 x2 x3 h ls H locs hf I hl
  unfold f_X5_number_58 at hf
  refine lv_iload_n hx hb dX5_number_58 rfl (lv_at hl 2 rfl) ?_
  refine lv_if_eq (tgt := 69) hx hb dX5_number_59 (by decide) (fun c1 => ?_) (fun c1 => ?_)
  · rw [if_pos c1] at hf
    exact w_X5_number_69 X hR hr  o0 h ls H locs hf I (lv_sub hl [0] rfl)
  · rw [if_neg c1] at hf
    refine lv_aload_n hx hb dX5_number_62 rfl (lv_at hl 0 rfl) ?_
    obtain ⟨_, g6, hf⟩ := Option.bind_eq_some_iff.mp hf
    obtain ⟨v2, h3, e4, z5, hf⟩ := cN_spec hf
    refine k_Vi (As := []) (rest := []) X I (c_X5_digitHere l g o0 e4) z5 g6 vk_TrapCorner_Reader_39 tw_601 ⟨Nat.le_trans (by decide) hR.1, Nat.le_trans (by decide) hR.2⟩ ⟨Nat.zero_le _, Nat.zero_le _⟩ rfl hl.1 rfl (Nat.le_of_ble_eq_true rfl) dX5_number_63 (fun H locs I => ?_)
    refine lv_if_eq (tgt := 80) hx hb dX5_number_66 (by decide) (fun c7 => ?_) (fun c7 => ?_)
    · rw [if_pos c7] at hf
      refine lv_iload_n hx hb dX5_number_80 rfl (lv_at hl 1 rfl) ?_
      cases hf
      exact k_ri X I hr dX5_number_81
    · rw [if_neg c7] at hf
      exact w_X5_number_69 X hR hr  o0 h3 ls H locs hf I (lv_sub hl [0] rfl)
def f_X5_number_9  : Nat → Nat → Int32 → Int32 → Int32 → AH → Option (Int32 × AH)
  | 0, _, _, _, _, _ => none
  | n + 1, o0, x1, x2, x3, h =>
  if x1 ≤ x3 then
    f_X5_number_58 o0 x2 x3 h
  else
    (isC [0, 2, 3] h o0).bind fun _ =>
    cN (f_X5_digitHere o0 h) h fun v2 h3 =>
    if v2 = 0 then
      f_X5_number_58 o0 x2 x3 h3
    else
      (gR [0, 2, 3] h3 o0 0).bind fun v8 =>
      (gR [9] h3 v8 0).bind fun v10 =>
      (gI [0, 2, 3] h3 o0 1).bind fun v12 =>
      (aI 0 h3 v10 v12).bind fun v14 =>
      (gI [0, 2, 3] h3 o0 1).bind fun v16 =>
      (pV [0, 2, 3] h3 o0 1 (.int (v16 + 1))).bind fun h18 =>
      f_X5_number_9  n o0 x1 (((x2 * 10) + v14) - 48) (x3 + 1) h18
set_option maxHeartbeats 1000000 in
theorem w_X5_number_9 (X : Cx g p s m args meth c cX5_number 4 "TrapCorner$Reader") (hR : 2 ≤ R.frames ∧ 128 ≤ R.locals) (hr : meth.sig.returnType = (some (.int))) {res : Int32 × AH} : ∀ (n : Nat) (o0 : Nat) (x1 : Int32) (x2 : Int32) (x3 : Int32) (h : AH) (ls : Array Slot) (H : Heap) (locs : List Loc), f_X5_number_9 n o0 x1 x2 x3 h = some res → Iv g s n0 z0 h H locs 0 0 → lv_has ls 4 [(0, .ref (rfG g o0)), (1, .int x1), (2, .int x2), (3, .int x3)] → W p l e R s m args below meth c H locs 0 0 (MQ below (QG g (some (.int res.1)) res.2) args s 0 0 (AG g)) (F0 m 9 ls []) := by
  have hx := X.1
  have hb := X.2.1
  intro n
  induction n with
  | zero =>
    intro o0 x1 x2 x3 h ls H locs hf
    rw [f_X5_number_9.eq_1] at hf
    cases hf
  | succ n ih =>
    intro o0 x1 x2 x3 h ls H locs hf I hl
    rw [f_X5_number_9.eq_2] at hf
    refine lv_iload_n hx hb dX5_number_9 rfl (lv_at hl 3 rfl) ?_
    refine lv_iload_n hx hb dX5_number_10 rfl (lv_at hl 1 rfl) ?_
    refine lv_icmp_ge (tgt := 58) hx hb dX5_number_11 (by decide) (fun c1 => ?_) (fun c1 => ?_)
    · rw [if_pos c1] at hf
      exact w_X5_number_58 X hR hr  o0 x2 x3 h ls H locs hf I (lv_sub hl [0, 2, 3] rfl)
    · rw [if_neg c1] at hf
      refine lv_aload_n hx hb dX5_number_14 rfl (lv_at hl 0 rfl) ?_
      obtain ⟨_, g6, hf⟩ := Option.bind_eq_some_iff.mp hf
      obtain ⟨v2, h3, e4, z5, hf⟩ := cN_spec hf
      refine k_Vi (As := []) (rest := []) X I (c_X5_digitHere l g o0 e4) z5 g6 vk_TrapCorner_Reader_39 tw_601 ⟨Nat.le_trans (by decide) hR.1, Nat.le_trans (by decide) hR.2⟩ ⟨Nat.zero_le _, Nat.zero_le _⟩ rfl hl.1 rfl (Nat.le_of_ble_eq_true rfl) dX5_number_15 (fun H locs I => ?_)
      refine lv_if_eq (tgt := 58) hx hb dX5_number_18 (by decide) (fun c7 => ?_) (fun c7 => ?_)
      · rw [if_pos c7] at hf
        exact w_X5_number_58 X hR hr  o0 x2 x3 h3 ls H locs hf I (lv_sub hl [0, 2, 3] rfl)
      · rw [if_neg c7] at hf
        refine lv_iload_n hx hb dX5_number_21 rfl (lv_at hl 2 rfl) ?_
        refine lv_bipush (v := 10) hx hb dX5_number_22 (by decide) ?_
        refine lv_imul hx hb dX5_number_24 ?_
        refine lv_aload_n hx hb dX5_number_25 rfl (lv_at hl 0 rfl) ?_
        obtain ⟨v8, e9, hf⟩ := Option.bind_eq_some_iff.mp hf
        refine r_gR X I e9 lk_TrapCorner_Reader_9 dX5_number_26 ?_
        obtain ⟨v10, e11, hf⟩ := Option.bind_eq_some_iff.mp hf
        refine r_gR X I e11 lk_TrapCorner_Reader_27 dX5_number_29 ?_
        refine lv_aload_n hx hb dX5_number_32 rfl (lv_at hl 0 rfl) ?_
        obtain ⟨v12, e13, hf⟩ := Option.bind_eq_some_iff.mp hf
        refine r_gI X I e13 lk_TrapCorner_Reader_15 dX5_number_33 ?_
        obtain ⟨v14, e15, hf⟩ := Option.bind_eq_some_iff.mp hf
        refine r_aI0 X I e15 dX5_number_36 ?_
        refine lv_iadd hx hb dX5_number_37 ?_
        refine lv_bipush (v := 48) hx hb dX5_number_38 (by decide) ?_
        refine lv_isub hx hb dX5_number_40 ?_
        refine lv_istore_n (lv' := [(2, .int (((x2 * 10) + v14) - 48)), (0, .ref (rfG g o0)), (1, .int x1), (3, .int x3)]) hx hb dX5_number_41 rfl hl (by decide) rfl (fun ls hl => ?_)
        refine lv_aload_n hx hb dX5_number_42 rfl (lv_at hl 1 rfl) ?_
        refine lv_dup hx hb dX5_number_43 rfl ?_
        obtain ⟨v16, e17, hf⟩ := Option.bind_eq_some_iff.mp hf
        refine r_gI X I e17 lk_TrapCorner_Reader_15 dX5_number_44 ?_
        refine lv_iconst (v := 1) hx hb dX5_number_47 (by decide) ?_
        refine lv_iadd hx hb dX5_number_48 ?_
        obtain ⟨h18, e19, hf⟩ := Option.bind_eq_some_iff.mp hf
        refine r_pI X I e19 lp_TrapCorner_Reader_15 dX5_number_49 (fun H locs I => ?_)
        refine lv_iinc (v := x3 + 1) (lv' := [(3, .int (x3 + 1)), (2, .int (((x2 * 10) + v14) - 48)), (0, .ref (rfG g o0)), (1, .int x1)]) hx hb dX5_number_52 hl (k := 3) rfl rfl (by decide) rfl (fun ls hl => ?_)
        refine lv_goto (tgt := 9) hx hb dX5_number_55 (by decide) ?_
        exact ih o0 x1 (((x2 * 10) + v14) - 48) (x3 + 1) h18 ls H locs hf I (lv_sub hl [2, 3, 1, 0] rfl)
def f_X5_number_0  (o0 : Nat) (x1 : Int32) (h : AH) : Option (Int32 × AH) :=
  (isC [0, 2, 3] h o0).bind fun _ =>
  cN (f_X5_sign o0 h) h fun v1 h2 =>
  f_X5_number_9 fu o0 x1 0 0 h2
set_option maxHeartbeats 1000000 in
theorem w_X5_number_0 (X : Cx g p s m args meth c cX5_number 4 "TrapCorner$Reader") (hR : 2 ≤ R.frames ∧ 128 ≤ R.locals) (hr : meth.sig.returnType = (some (.int))) {res : Int32 × AH} : ∀ (o0 : Nat) (x1 : Int32) (h : AH) (ls : Array Slot) (H : Heap) (locs : List Loc), f_X5_number_0 o0 x1 h = some res → Iv g s n0 z0 h H locs 0 0 → lv_has ls 4 [(0, .ref (rfG g o0)), (1, .int x1)] → W p l e R s m args below meth c H locs 0 0 (MQ below (QG g (some (.int res.1)) res.2) args s 0 0 (AG g)) (F0 m 0 ls []) := by
  have hx := X.1
  have hb := X.2.1
  intro o0 x1 h ls H locs hf I hl
  unfold f_X5_number_0 at hf
  refine lv_aload_n hx hb dX5_number_0 rfl (lv_at hl 0 rfl) ?_
  obtain ⟨_, g5, hf⟩ := Option.bind_eq_some_iff.mp hf
  obtain ⟨v1, h2, e3, z4, hf⟩ := cN_spec hf
  refine k_Vi (As := []) (rest := []) X I (c_X5_sign l g o0 e3) z4 g5 vk_TrapCorner_Reader_31 tw_478 ⟨Nat.le_trans (by decide) hR.1, Nat.le_trans (by decide) hR.2⟩ ⟨Nat.zero_le _, Nat.zero_le _⟩ rfl hl.1 rfl (Nat.le_of_ble_eq_true rfl) dX5_number_1 (fun H locs I => ?_)
  refine lv_pop hx hb dX5_number_4 rfl ?_
  refine lv_iconst (v := 0) hx hb dX5_number_5 (by decide) ?_
  refine lv_istore_n (lv' := [(2, .int 0), (0, .ref (rfG g o0)), (1, .int x1)]) hx hb dX5_number_6 rfl hl (by decide) rfl (fun ls hl => ?_)
  refine lv_iconst (v := 0) hx hb dX5_number_7 (by decide) ?_
  refine lv_istore_n (lv' := [(3, .int 0), (2, .int 0), (0, .ref (rfG g o0)), (1, .int x1)]) hx hb dX5_number_8 rfl hl (by decide) rfl (fun ls hl => ?_)
  exact w_X5_number_9 X hR hr fu o0 x1 0 0 h2 ls H locs hf I (lv_sub hl [2, 3, 1, 0] rfl)
def f_X5_number (o0 : Nat) (x1 : Int32) (h : AH) : Option (Int32 × AH) := f_X5_number_0 o0 x1 h
end
theorem c_X5_number (l : Launch) (g : GG) (o0 : Nat) (x1 : Int32) {h : AH} {res : Int32 × AH} (hf : f_X5_number o0 x1 h = some res) : CM l g yX5_number cX5_number 4 (some (.int)) 2 128 0 0 [.ref (rfG g o0), .int x1] h (some (.int res.1)) res.2 :=
  k_body (by decide) (Nat.le_of_ble_eq_true rfl) (fun p e s m below meth c R ls hR hr X I hl => w_X5_number_0 X ⟨Nat.le_of_eq hR.1.symm, Nat.le_of_eq hR.2.1.symm⟩ hr o0 x1 h ls s.heap [] hf I (lv_sub hl [0, 1] rfl))
/-! TrapCorner$Round.snaps(III)V -/
theorem dX6_snaps_0 : decode cX6_snaps 0 = .ok (.iload_n 3, 1) := by decide +kernel
theorem dX6_snaps_1 : decode cX6_snaps 1 = .ok (.ifCond .ne 4, 3) := by decide +kernel
theorem dX6_snaps_4 : decode cX6_snaps 4 = .ok (.return_, 1) := by decide +kernel
theorem dX6_snaps_5 : decode cX6_snaps 5 = .ok (.aload_n 0, 1) := by decide +kernel
theorem dX6_snaps_6 : decode cX6_snaps 6 = .ok (.dup, 1) := by decide +kernel
theorem dX6_snaps_7 : decode cX6_snaps 7 = .ok (.getfield 39, 3) := by decide +kernel
theorem dX6_snaps_10 : decode cX6_snaps 10 = .ok (.iconst 1, 1) := by decide +kernel
theorem dX6_snaps_11 : decode cX6_snaps 11 = .ok (.iload_n 2, 1) := by decide +kernel
theorem dX6_snaps_12 : decode cX6_snaps 12 = .ok (.ishl, 1) := by decide +kernel
theorem dX6_snaps_13 : decode cX6_snaps 13 = .ok (.ior, 1) := by decide +kernel
theorem dX6_snaps_14 : decode cX6_snaps 14 = .ok (.putfield 39, 3) := by decide +kernel
theorem dX6_snaps_17 : decode cX6_snaps 17 = .ok (.iload_n 3, 1) := by decide +kernel
theorem dX6_snaps_18 : decode cX6_snaps 18 = .ok (.iconst 1, 1) := by decide +kernel
theorem dX6_snaps_19 : decode cX6_snaps 19 = .ok (.if_icmp .ne 16, 3) := by decide +kernel
theorem dX6_snaps_22 : decode cX6_snaps 22 = .ok (.aload_n 0, 1) := by decide +kernel
theorem dX6_snaps_23 : decode cX6_snaps 23 = .ok (.dup, 1) := by decide +kernel
theorem dX6_snaps_24 : decode cX6_snaps 24 = .ok (.getfield 36, 3) := by decide +kernel
theorem dX6_snaps_27 : decode cX6_snaps 27 = .ok (.iconst 1, 1) := by decide +kernel
theorem dX6_snaps_28 : decode cX6_snaps 28 = .ok (.iadd, 1) := by decide +kernel
theorem dX6_snaps_29 : decode cX6_snaps 29 = .ok (.putfield 36, 3) := by decide +kernel
theorem dX6_snaps_32 : decode cX6_snaps 32 = .ok (.goto 22, 3) := by decide +kernel
theorem dX6_snaps_35 : decode cX6_snaps 35 = .ok (.aload_n 0, 1) := by decide +kernel
theorem dX6_snaps_36 : decode cX6_snaps 36 = .ok (.getfield 9, 3) := by decide +kernel
theorem dX6_snaps_39 : decode cX6_snaps 39 = .ok (.iload_n 1, 1) := by decide +kernel
theorem dX6_snaps_40 : decode cX6_snaps 40 = .ok (.iload_n 2, 1) := by decide +kernel
theorem dX6_snaps_41 : decode cX6_snaps 41 = .ok (.iastore, 1) := by decide +kernel
theorem dX6_snaps_42 : decode cX6_snaps 42 = .ok (.aload_n 0, 1) := by decide +kernel
theorem dX6_snaps_43 : decode cX6_snaps 43 = .ok (.dup, 1) := by decide +kernel
theorem dX6_snaps_44 : decode cX6_snaps 44 = .ok (.getfield 32, 3) := by decide +kernel
theorem dX6_snaps_47 : decode cX6_snaps 47 = .ok (.iconst 1, 1) := by decide +kernel
theorem dX6_snaps_48 : decode cX6_snaps 48 = .ok (.iload_n 1, 1) := by decide +kernel
theorem dX6_snaps_49 : decode cX6_snaps 49 = .ok (.ishl, 1) := by decide +kernel
theorem dX6_snaps_50 : decode cX6_snaps 50 = .ok (.ior, 1) := by decide +kernel
theorem dX6_snaps_51 : decode cX6_snaps 51 = .ok (.putfield 32, 3) := by decide +kernel
theorem dX6_snaps_54 : decode cX6_snaps 54 = .ok (.return_, 1) := by decide +kernel
theorem lk_TrapCorner_Round_39 : LK "TrapCorner$Round" 39 [6] 5 := by
  intro ci hci
  have hci := List.mem_singleton.mp hci
  subst hci
  exact ⟨RX6, TX6, 7, "TrapCorner$Round", ck_6, by decide, tw_308, Or.inl rfl⟩
theorem lp_TrapCorner_Round_39 : LKP "TrapCorner$Round" 39 [6] 5 (.int) := by
  intro ci hci
  have hci := List.mem_singleton.mp hci
  subst hci
  exact ⟨RX6, TX6, 7, "TrapCorner$Round", ck_6, by decide, tw_308, Or.inl rfl, rfl, by decide +kernel⟩
theorem lk_TrapCorner_Round_9 : LK "TrapCorner$Round" 9 [6] 2 := by
  intro ci hci
  have hci := List.mem_singleton.mp hci
  subst hci
  exact ⟨RX6, TX6, 7, "TrapCorner$Round", ck_6, by decide, tw_302, Or.inl rfl⟩
theorem lk_TrapCorner_Round_32 : LK "TrapCorner$Round" 32 [6] 3 := by
  intro ci hci
  have hci := List.mem_singleton.mp hci
  subst hci
  exact ⟨RX6, TX6, 7, "TrapCorner$Round", ck_6, by decide, tw_304, Or.inl rfl⟩
theorem lp_TrapCorner_Round_32 : LKP "TrapCorner$Round" 32 [6] 3 (.int) := by
  intro ci hci
  have hci := List.mem_singleton.mp hci
  subst hci
  exact ⟨RX6, TX6, 7, "TrapCorner$Round", ck_6, by decide, tw_304, Or.inl rfl, rfl, by decide +kernel⟩
theorem lk_TrapCorner_Round_36 : LK "TrapCorner$Round" 36 [6] 4 := by
  intro ci hci
  have hci := List.mem_singleton.mp hci
  subst hci
  exact ⟨RX6, TX6, 7, "TrapCorner$Round", ck_6, by decide, tw_306, Or.inl rfl⟩
theorem lp_TrapCorner_Round_36 : LKP "TrapCorner$Round" 36 [6] 4 (.int) := by
  intro ci hci
  have hci := List.mem_singleton.mp hci
  subst hci
  exact ⟨RX6, TX6, 7, "TrapCorner$Round", ck_6, by decide, tw_306, Or.inl rfl, rfl, by decide +kernel⟩
section
variable {g : GG} {p : Program} {l : Launch} {e : Env} {R : Room} {s : State} {m : MethodId} {args : Array Value} {below : List Frame} {meth : Method} {c : Code} {n0 z0 : Nat}
def f_X6_snaps_0  (o0 : Nat) (x1 : Int32) (x2 : Int32) (x3 : Int32) (h : AH) : Option (Unit × AH) :=
  if x3 = 0 then
    some ((), h)
  else
    (gI [6] h o0 5).bind fun v2 =>
    (pV [6] h o0 5 (.int (v2 ||| (1 <<< (x2 &&& 31))))).bind fun h4 =>
    if x3 = 1 then
      (gI [6] h4 o0 4).bind fun v15 =>
      (pV [6] h4 o0 4 (.int (v15 + 1))).bind fun h17 =>
      some ((), h17)
    else
      (gR [6] h4 o0 2).bind fun v7 =>
      (uI 0 h4 v7 x1 x2).bind fun h9 =>
      (gI [6] h9 o0 3).bind fun v11 =>
      (pV [6] h9 o0 3 (.int (v11 ||| (1 <<< (x1 &&& 31))))).bind fun h13 =>
      some ((), h13)
set_option maxHeartbeats 1000000 in
theorem w_X6_snaps_0 (X : Cx g p s m args meth c cX6_snaps 4 "TrapCorner$Round") (hR : 1 ≤ R.frames ∧ 64 ≤ R.locals) (hr : meth.sig.returnType = none) {res : Unit × AH} : ∀ (o0 : Nat) (x1 : Int32) (x2 : Int32) (x3 : Int32) (h : AH) (ls : Array Slot) (H : Heap) (locs : List Loc), f_X6_snaps_0 o0 x1 x2 x3 h = some res → Iv g s n0 z0 h H locs 0 0 → lv_has ls 4 [(0, .ref (rfG g o0)), (1, .int x1), (2, .int x2), (3, .int x3)] → W p l e R s m args below meth c H locs 0 0 (MQ below (QG g none res.2) args s 0 0 (AG g)) (F0 m 0 ls []) := by
  have hx := X.1
  have hb := X.2.1
  intro o0 x1 x2 x3 h ls H locs hf I hl
  unfold f_X6_snaps_0 at hf
  refine lv_iload_n hx hb dX6_snaps_0 rfl (lv_at hl 3 rfl) ?_
  refine lv_if_ne (tgt := 5) hx hb dX6_snaps_1 (by decide) (fun c1 => ?_) (fun c1 => ?_)
  · rw [if_neg c1] at hf
    refine lv_aload_n hx hb dX6_snaps_5 rfl (lv_at hl 0 rfl) ?_
    refine lv_dup hx hb dX6_snaps_6 rfl ?_
    obtain ⟨v2, e3, hf⟩ := Option.bind_eq_some_iff.mp hf
    refine r_gI X I e3 lk_TrapCorner_Round_39 dX6_snaps_7 ?_
    refine lv_iconst (v := 1) hx hb dX6_snaps_10 (by decide) ?_
    refine lv_iload_n hx hb dX6_snaps_11 rfl (lv_at hl 2 rfl) ?_
    refine lv_ishl hx hb dX6_snaps_12 ?_
    refine lv_ior hx hb dX6_snaps_13 ?_
    obtain ⟨h4, e5, hf⟩ := Option.bind_eq_some_iff.mp hf
    refine r_pI X I e5 lp_TrapCorner_Round_39 dX6_snaps_14 (fun H locs I => ?_)
    refine lv_iload_n hx hb dX6_snaps_17 rfl (lv_at hl 3 rfl) ?_
    refine lv_iconst (v := 1) hx hb dX6_snaps_18 (by decide) ?_
    refine lv_icmp_ne (tgt := 35) hx hb dX6_snaps_19 (by decide) (fun c6 => ?_) (fun c6 => ?_)
    · rw [if_neg c6] at hf
      refine lv_aload_n hx hb dX6_snaps_35 rfl (lv_at hl 0 rfl) ?_
      obtain ⟨v7, e8, hf⟩ := Option.bind_eq_some_iff.mp hf
      refine r_gR X I e8 lk_TrapCorner_Round_9 dX6_snaps_36 ?_
      refine lv_iload_n hx hb dX6_snaps_39 rfl (lv_at hl 1 rfl) ?_
      refine lv_iload_n hx hb dX6_snaps_40 rfl (lv_at hl 2 rfl) ?_
      obtain ⟨h9, e10, hf⟩ := Option.bind_eq_some_iff.mp hf
      refine r_uI0 X I e10 dX6_snaps_41 (fun H locs I => ?_)
      refine lv_aload_n hx hb dX6_snaps_42 rfl (lv_at hl 0 rfl) ?_
      refine lv_dup hx hb dX6_snaps_43 rfl ?_
      obtain ⟨v11, e12, hf⟩ := Option.bind_eq_some_iff.mp hf
      refine r_gI X I e12 lk_TrapCorner_Round_32 dX6_snaps_44 ?_
      refine lv_iconst (v := 1) hx hb dX6_snaps_47 (by decide) ?_
      refine lv_iload_n hx hb dX6_snaps_48 rfl (lv_at hl 1 rfl) ?_
      refine lv_ishl hx hb dX6_snaps_49 ?_
      refine lv_ior hx hb dX6_snaps_50 ?_
      obtain ⟨h13, e14, hf⟩ := Option.bind_eq_some_iff.mp hf
      refine r_pI X I e14 lp_TrapCorner_Round_32 dX6_snaps_51 (fun H locs I => ?_)
      cases hf
      exact k_rv X I hr dX6_snaps_54
    · rw [if_pos c6] at hf
      refine lv_aload_n hx hb dX6_snaps_22 rfl (lv_at hl 0 rfl) ?_
      refine lv_dup hx hb dX6_snaps_23 rfl ?_
      obtain ⟨v15, e16, hf⟩ := Option.bind_eq_some_iff.mp hf
      refine r_gI X I e16 lk_TrapCorner_Round_36 dX6_snaps_24 ?_
      refine lv_iconst (v := 1) hx hb dX6_snaps_27 (by decide) ?_
      refine lv_iadd hx hb dX6_snaps_28 ?_
      obtain ⟨h17, e18, hf⟩ := Option.bind_eq_some_iff.mp hf
      refine r_pI X I e18 lp_TrapCorner_Round_36 dX6_snaps_29 (fun H locs I => ?_)
      refine lv_goto (tgt := 54) hx hb dX6_snaps_32 (by decide) ?_
      cases hf
      exact k_rv X I hr dX6_snaps_54
  · rw [if_pos c1] at hf
    cases hf
    exact k_rv X I hr dX6_snaps_4
def f_X6_snaps (o0 : Nat) (x1 : Int32) (x2 : Int32) (x3 : Int32) (h : AH) : Option (Unit × AH) := f_X6_snaps_0 o0 x1 x2 x3 h
end
theorem c_X6_snaps (l : Launch) (g : GG) (o0 : Nat) (x1 : Int32) (x2 : Int32) (x3 : Int32) {h : AH} {res : Unit × AH} (hf : f_X6_snaps o0 x1 x2 x3 h = some res) : CM l g yX6_snaps cX6_snaps 4 none 1 64 0 0 [.ref (rfG g o0), .int x1, .int x2, .int x3] h none res.2 :=
  k_body (by decide) (Nat.le_of_ble_eq_true rfl) (fun p e s m below meth c R ls hR hr X I hl => w_X6_snaps_0 X ⟨Nat.le_of_eq hR.1.symm, Nat.le_of_eq hR.2.1.symm⟩ hr o0 x1 x2 x3 h ls s.heap [] hf I (lv_sub hl [0, 1, 2, 3] rfl))
