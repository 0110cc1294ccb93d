/-! TrapCorner.layRow(I)I -/
theorem dX11_layRow_0 : decode cX11_layRow 0 = .ok (.iconst 0, 1) := by decide +kernel
theorem dX11_layRow_1 : decode cX11_layRow 1 = .ok (.istore_n 2, 1) := by decide +kernel
theorem dX11_layRow_2 : decode cX11_layRow 2 = .ok (.iconst 0, 1) := by decide +kernel
theorem dX11_layRow_3 : decode cX11_layRow 3 = .ok (.istore_n 3, 1) := by decide +kernel
theorem dX11_layRow_4 : decode cX11_layRow 4 = .ok (.iload_n 3, 1) := by decide +kernel
theorem dX11_layRow_5 : decode cX11_layRow 5 = .ok (.aload_n 0, 1) := by decide +kernel
theorem dX11_layRow_6 : decode cX11_layRow 6 = .ok (.getfield 42, 3) := by decide +kernel
theorem dX11_layRow_9 : decode cX11_layRow 9 = .ok (.getfield 253, 3) := by decide +kernel
theorem dX11_layRow_12 : decode cX11_layRow 12 = .ok (.if_icmp .ge 52, 3) := by decide +kernel
theorem dX11_layRow_15 : decode cX11_layRow 15 = .ok (.iload_n 1, 1) := by decide +kernel
theorem dX11_layRow_16 : decode cX11_layRow 16 = .ok (.iconst 2, 1) := by decide +kernel
theorem dX11_layRow_17 : decode cX11_layRow 17 = .ok (.aload_n 0, 1) := by decide +kernel
theorem dX11_layRow_18 : decode cX11_layRow 18 = .ok (.getfield 42, 3) := by decide +kernel
theorem dX11_layRow_21 : decode cX11_layRow 21 = .ok (.getfield 253, 3) := by decide +kernel
theorem dX11_layRow_24 : decode cX11_layRow 24 = .ok (.iconst 1, 1) := by decide +kernel
theorem dX11_layRow_25 : decode cX11_layRow 25 = .ok (.isub, 1) := by decide +kernel
theorem dX11_layRow_26 : decode cX11_layRow 26 = .ok (.iload_n 3, 1) := by decide +kernel
theorem dX11_layRow_27 : decode cX11_layRow 27 = .ok (.isub, 1) := by decide +kernel
theorem dX11_layRow_28 : decode cX11_layRow 28 = .ok (.imul, 1) := by decide +kernel
theorem dX11_layRow_29 : decode cX11_layRow 29 = .ok (.ishr, 1) := by decide +kernel
theorem dX11_layRow_30 : decode cX11_layRow 30 = .ok (.iconst 3, 1) := by decide +kernel
theorem dX11_layRow_31 : decode cX11_layRow 31 = .ok (.iand, 1) := by decide +kernel
theorem dX11_layRow_32 : decode cX11_layRow 32 = .ok (.istore 4, 2) := by decide +kernel
theorem dX11_layRow_34 : decode cX11_layRow 34 = .ok (.aload_n 0, 1) := by decide +kernel
theorem dX11_layRow_35 : decode cX11_layRow 35 = .ok (.getfield 53, 3) := by decide +kernel
theorem dX11_layRow_38 : decode cX11_layRow 38 = .ok (.getfield 188, 3) := by decide +kernel
theorem dX11_layRow_41 : decode cX11_layRow 41 = .ok (.iload_n 3, 1) := by decide +kernel
theorem dX11_layRow_42 : decode cX11_layRow 42 = .ok (.iload 4, 2) := by decide +kernel
theorem dX11_layRow_44 : decode cX11_layRow 44 = .ok (.iastore, 1) := by decide +kernel
theorem dX11_layRow_45 : decode cX11_layRow 45 = .ok (.iload_n 2, 1) := by decide +kernel
theorem dX11_layRow_46 : decode cX11_layRow 46 = .ok (.iload 4, 2) := by decide +kernel
theorem dX11_layRow_48 : decode cX11_layRow 48 = .ok (.ifCond .ne 7, 3) := by decide +kernel
theorem dX11_layRow_51 : decode cX11_layRow 51 = .ok (.iconst 0, 1) := by decide +kernel
theorem dX11_layRow_52 : decode cX11_layRow 52 = .ok (.goto 4, 3) := by decide +kernel
theorem dX11_layRow_55 : decode cX11_layRow 55 = .ok (.iconst 1, 1) := by decide +kernel
theorem dX11_layRow_56 : decode cX11_layRow 56 = .ok (.iadd, 1) := by decide +kernel
theorem dX11_layRow_57 : decode cX11_layRow 57 = .ok (.istore_n 2, 1) := by decide +kernel
theorem dX11_layRow_58 : decode cX11_layRow 58 = .ok (.iinc 3 1, 3) := by decide +kernel
theorem dX11_layRow_61 : decode cX11_layRow 61 = .ok (.goto (-57), 3) := by decide +kernel
theorem dX11_layRow_64 : decode cX11_layRow 64 = .ok (.iload_n 2, 1) := by decide +kernel
theorem dX11_layRow_65 : decode cX11_layRow 65 = .ok (.ireturn, 1) := by decide +kernel
theorem lk_TrapCorner_53 : LK "TrapCorner" 53 [11] 6 := by
  intro ci hci
  have hci := List.mem_singleton.mp hci
  subst hci
  exact ⟨RX11, TX11, 19, "TrapCorner", ck_11, by decide, tw_371, Or.inl rfl⟩
theorem lk_TrapCorner_188 : LK "TrapCorner" 188 [8] 0 := by
  intro ci hci
  have hci := List.mem_singleton.mp hci
  subst hci
  exact ⟨RX8, TX8, 8, "TrapCorner$State", ck_8, by decide, tw_202, Or.inl rfl⟩
section
variable {g : GG} {p : Program} {l : Launch} {e : Env} {R : Room} {s : State} {m : MethodId} {args : Array Value} {below : List Frame} {meth : Method} {c : Code} {n0 z0 : Nat}
def f_X11_layRow_56 (k4 : Nat → Int32 → Int32 → Int32 → AH → Option (Int32 × AH)) (o0 : Nat) (x1 : Int32) (x3 : Int32) (s0 : Int32) (s1 : Int32) (h : AH) : Option (Int32 × AH) :=
  k4 o0 x1 (s0 + s1) (x3 + 1) h
set_option maxHeartbeats 1000000 in
theorem w_X11_layRow_56 (X : Cx g p s m args meth c cX11_layRow 5 "TrapCorner") (hR : 1 ≤ R.frames ∧ 64 ≤ R.locals) (hr : meth.sig.returnType = (some (.int))) {res : Int32 × AH} {k4 : Nat → Int32 → Int32 → Int32 → AH → Option (Int32 × AH)} (hk4 : ∀ (o0 : Nat) (x1 : Int32) (x2 : Int32) (x3 : Int32) (h : AH) (ls : Array Slot) (H : Heap) (locs : List Loc), k4 o0 x1 x2 x3 h = some res → Iv g s n0 z0 h H locs 0 0 → lv_has ls 5 [(0, .ref (rfG g o0)), (1, .int x1), (2, .int x2), (3, .int x3)] → W p l e R s m args below meth c H locs 0 0 (MQ below (QG g (some (.int res.1)) res.2) args s 0 0 (AG g)) (F0 m 4 ls [])) : ∀ (o0 : Nat) (x1 : Int32) (x3 : Int32) (s0 : Int32) (s1 : Int32) (h : AH) (ls : Array Slot) (H : Heap) (locs : List Loc), f_X11_layRow_56 k4 o0 x1 x3 s0 s1 h = some res → Iv g s n0 z0 h H locs 0 0 → lv_has ls 5 [(0, .ref (rfG g o0)), (1, .int x1), (3, .int x3)] → W p l e R s m args below meth c H locs 0 0 (MQ below (QG g (some (.int res.1)) res.2) args s 0 0 (AG g)) (F0 m 56 ls [.int s1, .int s0]) := by
  have hx := X.1
  have hb := X.2.1
  intro o0 x1 x3 s0 s1 h ls H locs hf I hl
  unfold f_X11_layRow_56 at hf
  refine lv_iadd hx hb dX11_layRow_56 ?_
  refine lv_istore_n (lv' := [(2, .int (s0 + s1)), (0, .ref (rfG g o0)), (1, .int x1), (3, .int x3)]) hx hb dX11_layRow_57 rfl hl (by decide) rfl (fun ls hl => ?_)
  refine lv_iinc (v := x3 + 1) (lv' := [(3, .int (x3 + 1)), (2, .int (s0 + s1)), (0, .ref (rfG g o0)), (1, .int x1)]) hx hb dX11_layRow_58 hl (k := 3) rfl rfl (by decide) rfl (fun ls hl => ?_)
  refine lv_goto (tgt := 4) hx hb dX11_layRow_61 (by decide) ?_
  exact hk4 o0 x1 (s0 + s1) (x3 + 1) h ls H locs hf I (lv_sub hl [2, 3, 1, 0] rfl)
def f_X11_layRow_4  : Nat → Nat → Int32 → Int32 → Int32 → AH → Option (Int32 × AH)
  | 0, _, _, _, _, _ => none
  | n + 1, o0, x1, x2, x3, h =>
  (gR [11] h o0 4).bind fun v1 =>
  (gI [10] h v1 0).bind fun v3 =>
  if v3 ≤ x3 then
    some (x2, h)
  else
    (gR [11] h o0 4).bind fun v6 =>
    (gI [10] h v6 0).bind fun v8 =>
    (gR [11] h o0 6).bind fun v10 =>
    (gR [8] h v10 0).bind fun v12 =>
    (uI 0 h v12 x3 ((x1 >>> ((2 * ((v8 - 1) - x3)) &&& 31)) &&& 3)).bind fun h14 =>
    if ((x1 >>> ((2 * ((v8 - 1) - x3)) &&& 31)) &&& 3) = 0 then
      f_X11_layRow_56 (f_X11_layRow_4 n) o0 x1 x3 x2 0 h14
    else
      f_X11_layRow_56 (f_X11_layRow_4 n) o0 x1 x3 x2 1 h14
set_option maxHeartbeats 1000000 in
theorem w_X11_layRow_4 (X : Cx g p s m args meth c cX11_layRow 5 "TrapCorner") (hR : 1 ≤ R.frames ∧ 64 ≤ R.locals) (hr : meth.sig.returnType = (some (.int))) {res : Int32 × AH} : ∀ (n : Nat) (o0 : Nat) (x1 : Int32) (x2 : Int32) (x3 : Int32) (h : AH) (ls : Array Slot) (H : Heap) (locs : List Loc), f_X11_layRow_4 n o0 x1 x2 x3 h = some res → Iv g s n0 z0 h H locs 0 0 → lv_has ls 5 [(0, .ref (rfG g o0)), (1, .int x1), (2, .int x2), (3, .int x3)] → W p l e R s m args below meth c H locs 0 0 (MQ below (QG g (some (.int res.1)) res.2) args s 0 0 (AG g)) (F0 m 4 ls []) := by
  have hx := X.1
  have hb := X.2.1
  intro n
  induction n with
  | zero =>
    intro o0 x1 x2 x3 h ls H locs hf
    rw [f_X11_layRow_4.eq_1] at hf
    cases hf
  | succ n ih =>
    intro o0 x1 x2 x3 h ls H locs hf I hl
    rw [f_X11_layRow_4.eq_2] at hf
    refine lv_iload_n hx hb dX11_layRow_4 rfl (lv_at hl 3 rfl) ?_
    refine lv_aload_n hx hb dX11_layRow_5 rfl (lv_at hl 0 rfl) ?_
    obtain ⟨v1, e2, hf⟩ := Option.bind_eq_some_iff.mp hf
    refine r_gR X I e2 lk_TrapCorner_42 dX11_layRow_6 ?_
    obtain ⟨v3, e4, hf⟩ := Option.bind_eq_some_iff.mp hf
    refine r_gI X I e4 lk_TrapCorner_253 dX11_layRow_9 ?_
    refine lv_icmp_ge (tgt := 64) hx hb dX11_layRow_12 (by decide) (fun c5 => ?_) (fun c5 => ?_)
    · rw [if_pos c5] at hf
      refine lv_iload_n hx hb dX11_layRow_64 rfl (lv_at hl 2 rfl) ?_
      cases hf
      exact k_ri X I hr dX11_layRow_65
    · rw [if_neg c5] at hf
      refine lv_iload_n hx hb dX11_layRow_15 rfl (lv_at hl 1 rfl) ?_
      refine lv_iconst (v := 2) hx hb dX11_layRow_16 (by decide) ?_
      refine lv_aload_n hx hb dX11_layRow_17 rfl (lv_at hl 0 rfl) ?_
      obtain ⟨v6, e7, hf⟩ := Option.bind_eq_some_iff.mp hf
      refine r_gR X I e7 lk_TrapCorner_42 dX11_layRow_18 ?_
      obtain ⟨v8, e9, hf⟩ := Option.bind_eq_some_iff.mp hf
      refine r_gI X I e9 lk_TrapCorner_253 dX11_layRow_21 ?_
      refine lv_iconst (v := 1) hx hb dX11_layRow_24 (by decide) ?_
      refine lv_isub hx hb dX11_layRow_25 ?_
      refine lv_iload_n hx hb dX11_layRow_26 rfl (lv_at hl 3 rfl) ?_
      refine lv_isub hx hb dX11_layRow_27 ?_
      refine lv_imul hx hb dX11_layRow_28 ?_
      refine lv_ishr hx hb dX11_layRow_29 ?_
      refine lv_iconst (v := 3) hx hb dX11_layRow_30 (by decide) ?_
      refine lv_iand hx hb dX11_layRow_31 ?_
      refine lv_istore (lv' := [(4, .int ((x1 >>> ((2 * ((v8 - 1) - x3)) &&& 31)) &&& 3)), (0, .ref (rfG g o0)), (1, .int x1), (2, .int x2), (3, .int x3)]) hx hb dX11_layRow_32 hl (by decide) rfl (fun ls hl => ?_)
      refine lv_aload_n hx hb dX11_layRow_34 rfl (lv_at hl 1 rfl) ?_
      obtain ⟨v10, e11, hf⟩ := Option.bind_eq_some_iff.mp hf
      refine r_gR X I e11 lk_TrapCorner_53 dX11_layRow_35 ?_
      obtain ⟨v12, e13, hf⟩ := Option.bind_eq_some_iff.mp hf
      refine r_gR X I e13 lk_TrapCorner_188 dX11_layRow_38 ?_
      refine lv_iload_n hx hb dX11_layRow_41 rfl (lv_at hl 4 rfl) ?_
      refine lv_iload hx hb dX11_layRow_42 (lv_at hl 0 rfl) ?_
      obtain ⟨h14, e15, hf⟩ := Option.bind_eq_some_iff.mp hf
      refine r_uI0 X I e15 dX11_layRow_44 (fun H locs I => ?_)
      refine lv_iload_n hx hb dX11_layRow_45 rfl (lv_at hl 3 rfl) ?_
      refine lv_iload hx hb dX11_layRow_46 (lv_at hl 0 rfl) ?_
      refine lv_if_ne (tgt := 55) hx hb dX11_layRow_48 (by decide) (fun c16 => ?_) (fun c16 => ?_)
      · rw [if_neg c16] at hf
        refine lv_iconst (v := 1) hx hb dX11_layRow_55 (by decide) ?_
        exact w_X11_layRow_56 X hR hr ih o0 x1 x3 x2 1 h14 ls H locs hf I (lv_sub hl [1, 2, 4] rfl)
      · rw [if_pos c16] at hf
        refine lv_iconst (v := 0) hx hb dX11_layRow_51 (by decide) ?_
        refine lv_goto (tgt := 56) hx hb dX11_layRow_52 (by decide) ?_
        exact w_X11_layRow_56 X hR hr ih o0 x1 x3 x2 0 h14 ls H locs hf I (lv_sub hl [1, 2, 4] rfl)
def f_X11_layRow_0  (o0 : Nat) (x1 : Int32) (h : AH) : Option (Int32 × AH) :=
  f_X11_layRow_4 fu o0 x1 0 0 h
set_option maxHeartbeats 1000000 in
theorem w_X11_layRow_0 (X : Cx g p s m args meth c cX11_layRow 5 "TrapCorner") (hR : 1 ≤ R.frames ∧ 64 ≤ R.locals) (hr : meth.sig.returnType = (some (.int))) {res : Int32 × AH} : ∀ (o0 : Nat) (x1 : Int32) (h : AH) (ls : Array Slot) (H : Heap) (locs : List Loc), f_X11_layRow_0 o0 x1 h = some res → Iv g s n0 z0 h H locs 0 0 → lv_has ls 5 [(0, .ref (rfG g o0)), (1, .int x1)] → W p l e R s m args below meth c H locs 0 0 (MQ below (QG g (some (.int res.1)) res.2) args s 0 0 (AG g)) (F0 m 0 ls []) := by
  have hx := X.1
  have hb := X.2.1
  intro o0 x1 h ls H locs hf I hl
  unfold f_X11_layRow_0 at hf
  refine lv_iconst (v := 0) hx hb dX11_layRow_0 (by decide) ?_
  refine lv_istore_n (lv' := [(2, .int 0), (0, .ref (rfG g o0)), (1, .int x1)]) hx hb dX11_layRow_1 rfl hl (by decide) rfl (fun ls hl => ?_)
  refine lv_iconst (v := 0) hx hb dX11_layRow_2 (by decide) ?_
  refine lv_istore_n (lv' := [(3, .int 0), (2, .int 0), (0, .ref (rfG g o0)), (1, .int x1)]) hx hb dX11_layRow_3 rfl hl (by decide) rfl (fun ls hl => ?_)
  exact w_X11_layRow_4 X hR hr fu o0 x1 0 0 h ls H locs hf I (lv_sub hl [2, 3, 1, 0] rfl)
def f_X11_layRow (o0 : Nat) (x1 : Int32) (h : AH) : Option (Int32 × AH) := f_X11_layRow_0 o0 x1 h
end
theorem c_X11_layRow (l : Launch) (g : GG) (o0 : Nat) (x1 : Int32) {h : AH} {res : Int32 × AH} (hf : f_X11_layRow o0 x1 h = some res) : CM l g yX11_layRow cX11_layRow 5 (some (.int)) 1 64 0 0 [.ref (rfG g o0), .int x1] h (some (.int res.1)) res.2 :=
  k_body (by decide) (Nat.le_of_ble_eq_true rfl) (fun p e s m below meth c R ls hR hr X I hl => w_X11_layRow_0 X ⟨Nat.le_of_eq hR.1.symm, Nat.le_of_eq hR.2.1.symm⟩ hr o0 x1 h ls s.heap [] hf I (lv_sub hl [0, 1] rfl))
/-! TrapCorner.digitsOfRow()I -/
theorem dX11_digitsOfRow_0 : decode cX11_digitsOfRow 0 = .ok (.iconst 0, 1) := by decide +kernel
theorem dX11_digitsOfRow_1 : decode cX11_digitsOfRow 1 = .ok (.istore_n 1, 1) := by decide +kernel
theorem dX11_digitsOfRow_2 : decode cX11_digitsOfRow 2 = .ok (.iconst 0, 1) := by decide +kernel
theorem dX11_digitsOfRow_3 : decode cX11_digitsOfRow 3 = .ok (.istore_n 2, 1) := by decide +kernel
theorem dX11_digitsOfRow_4 : decode cX11_digitsOfRow 4 = .ok (.iload_n 2, 1) := by decide +kernel
theorem dX11_digitsOfRow_5 : decode cX11_digitsOfRow 5 = .ok (.aload_n 0, 1) := by decide +kernel
theorem dX11_digitsOfRow_6 : decode cX11_digitsOfRow 6 = .ok (.getfield 42, 3) := by decide +kernel
theorem dX11_digitsOfRow_9 : decode cX11_digitsOfRow 9 = .ok (.getfield 253, 3) := by decide +kernel
theorem dX11_digitsOfRow_12 : decode cX11_digitsOfRow 12 = .ok (.if_icmp .ge 24, 3) := by decide +kernel
theorem dX11_digitsOfRow_15 : decode cX11_digitsOfRow 15 = .ok (.iload_n 1, 1) := by decide +kernel
theorem dX11_digitsOfRow_16 : decode cX11_digitsOfRow 16 = .ok (.bipush 10, 2) := by decide +kernel
theorem dX11_digitsOfRow_18 : decode cX11_digitsOfRow 18 = .ok (.imul, 1) := by decide +kernel
theorem dX11_digitsOfRow_19 : decode cX11_digitsOfRow 19 = .ok (.aload_n 0, 1) := by decide +kernel
theorem dX11_digitsOfRow_20 : decode cX11_digitsOfRow 20 = .ok (.getfield 53, 3) := by decide +kernel
theorem dX11_digitsOfRow_23 : decode cX11_digitsOfRow 23 = .ok (.getfield 188, 3) := by decide +kernel
theorem dX11_digitsOfRow_26 : decode cX11_digitsOfRow 26 = .ok (.iload_n 2, 1) := by decide +kernel
theorem dX11_digitsOfRow_27 : decode cX11_digitsOfRow 27 = .ok (.iaload, 1) := by decide +kernel
theorem dX11_digitsOfRow_28 : decode cX11_digitsOfRow 28 = .ok (.iadd, 1) := by decide +kernel
theorem dX11_digitsOfRow_29 : decode cX11_digitsOfRow 29 = .ok (.istore_n 1, 1) := by decide +kernel
theorem dX11_digitsOfRow_30 : decode cX11_digitsOfRow 30 = .ok (.iinc 2 1, 3) := by decide +kernel
theorem dX11_digitsOfRow_33 : decode cX11_digitsOfRow 33 = .ok (.goto (-29), 3) := by decide +kernel
theorem dX11_digitsOfRow_36 : decode cX11_digitsOfRow 36 = .ok (.iload_n 1, 1) := by decide +kernel
theorem dX11_digitsOfRow_37 : decode cX11_digitsOfRow 37 = .ok (.ireturn, 1) := by decide +kernel
section
variable {g : GG} {p : Program} {l : Launch} {e : Env} {R : Room} {s : State} {m : MethodId} {args : Array Value} {below : List Frame} {meth : Method} {c : Code} {n0 z0 : Nat}
def f_X11_digitsOfRow_4  : Nat → Nat → Int32 → Int32 → AH → Option (Int32 × AH)
  | 0, _, _, _, _ => none
  | n + 1, o0, x1, x2, h =>
  (gR [11] h o0 4).bind fun v1 =>
  (gI [10] h v1 0).bind fun v3 =>
  if v3 ≤ x2 then
    some (x1, h)
  else
    (gR [11] h o0 6).bind fun v6 =>
    (gR [8] h v6 0).bind fun v8 =>
    (aI 0 h v8 x2).bind fun v10 =>
    f_X11_digitsOfRow_4  n o0 ((x1 * 10) + v10) (x2 + 1) h
set_option maxHeartbeats 1000000 in
theorem w_X11_digitsOfRow_4 (X : Cx g p s m args meth c cX11_digitsOfRow 3 "TrapCorner") (hR : 1 ≤ R.frames ∧ 64 ≤ R.locals) (hr : meth.sig.returnType = (some (.int))) {res : Int32 × AH} : ∀ (n : Nat) (o0 : Nat) (x1 : Int32) (x2 : Int32) (h : AH) (ls : Array Slot) (H : Heap) (locs : List Loc), f_X11_digitsOfRow_4 n o0 x1 x2 h = some res → Iv g s n0 z0 h H locs 0 0 → lv_has ls 3 [(0, .ref (rfG g o0)), (1, .int x1), (2, .int x2)] → W p l e R s m args below meth c H locs 0 0 (MQ below (QG g (some (.int res.1)) res.2) args s 0 0 (AG g)) (F0 m 4 ls []) := by
  have hx := X.1
  have hb := X.2.1
  intro n
  induction n with
  | zero =>
    intro o0 x1 x2 h ls H locs hf
    rw [f_X11_digitsOfRow_4.eq_1] at hf
    cases hf
  | succ n ih =>
    intro o0 x1 x2 h ls H locs hf I hl
    rw [f_X11_digitsOfRow_4.eq_2] at hf
    refine lv_iload_n hx hb dX11_digitsOfRow_4 rfl (lv_at hl 2 rfl) ?_
    refine lv_aload_n hx hb dX11_digitsOfRow_5 rfl (lv_at hl 0 rfl) ?_
    obtain ⟨v1, e2, hf⟩ := Option.bind_eq_some_iff.mp hf
    refine r_gR X I e2 lk_TrapCorner_42 dX11_digitsOfRow_6 ?_
    obtain ⟨v3, e4, hf⟩ := Option.bind_eq_some_iff.mp hf
    refine r_gI X I e4 lk_TrapCorner_253 dX11_digitsOfRow_9 ?_
    refine lv_icmp_ge (tgt := 36) hx hb dX11_digitsOfRow_12 (by decide) (fun c5 => ?_) (fun c5 => ?_)
    · rw [if_pos c5] at hf
      refine lv_iload_n hx hb dX11_digitsOfRow_36 rfl (lv_at hl 1 rfl) ?_
      cases hf
      exact k_ri X I hr dX11_digitsOfRow_37
    · rw [if_neg c5] at hf
      refine lv_iload_n hx hb dX11_digitsOfRow_15 rfl (lv_at hl 1 rfl) ?_
      refine lv_bipush (v := 10) hx hb dX11_digitsOfRow_16 (by decide) ?_
      refine lv_imul hx hb dX11_digitsOfRow_18 ?_
      refine lv_aload_n hx hb dX11_digitsOfRow_19 rfl (lv_at hl 0 rfl) ?_
      obtain ⟨v6, e7, hf⟩ := Option.bind_eq_some_iff.mp hf
      refine r_gR X I e7 lk_TrapCorner_53 dX11_digitsOfRow_20 ?_
      obtain ⟨v8, e9, hf⟩ := Option.bind_eq_some_iff.mp hf
      refine r_gR X I e9 lk_TrapCorner_188 dX11_digitsOfRow_23 ?_
      refine lv_iload_n hx hb dX11_digitsOfRow_26 rfl (lv_at hl 2 rfl) ?_
      obtain ⟨v10, e11, hf⟩ := Option.bind_eq_some_iff.mp hf
      refine r_aI0 X I e11 dX11_digitsOfRow_27 ?_
      refine lv_iadd hx hb dX11_digitsOfRow_28 ?_
      refine lv_istore_n (lv' := [(1, .int ((x1 * 10) + v10)), (0, .ref (rfG g o0)), (2, .int x2)]) hx hb dX11_digitsOfRow_29 rfl hl (by decide) rfl (fun ls hl => ?_)
      refine lv_iinc (v := x2 + 1) (lv' := [(2, .int (x2 + 1)), (1, .int ((x1 * 10) + v10)), (0, .ref (rfG g o0))]) hx hb dX11_digitsOfRow_30 hl (k := 2) rfl rfl (by decide) rfl (fun ls hl => ?_)
      refine lv_goto (tgt := 4) hx hb dX11_digitsOfRow_33 (by decide) ?_
      exact ih o0 ((x1 * 10) + v10) (x2 + 1) h ls H locs hf I (lv_sub hl [2, 1, 0] rfl)
def f_X11_digitsOfRow_0  (o0 : Nat) (h : AH) : Option (Int32 × AH) :=
  f_X11_digitsOfRow_4 fu o0 0 0 h
set_option maxHeartbeats 1000000 in
theorem w_X11_digitsOfRow_0 (X : Cx g p s m args meth c cX11_digitsOfRow 3 "TrapCorner") (hR : 1 ≤ R.frames ∧ 64 ≤ R.locals) (hr : meth.sig.returnType = (some (.int))) {res : Int32 × AH} : ∀ (o0 : Nat) (h : AH) (ls : Array Slot) (H : Heap) (locs : List Loc), f_X11_digitsOfRow_0 o0 h = some res → Iv g s n0 z0 h H locs 0 0 → lv_has ls 3 [(0, .ref (rfG g o0))] → W p l e R s m args below meth c H locs 0 0 (MQ below (QG g (some (.int res.1)) res.2) args s 0 0 (AG g)) (F0 m 0 ls []) := by
  have hx := X.1
  have hb := X.2.1
  intro o0 h ls H locs hf I hl
  unfold f_X11_digitsOfRow_0 at hf
  refine lv_iconst (v := 0) hx hb dX11_digitsOfRow_0 (by decide) ?_
  refine lv_istore_n (lv' := [(1, .int 0), (0, .ref (rfG g o0))]) hx hb dX11_digitsOfRow_1 rfl hl (by decide) rfl (fun ls hl => ?_)
  refine lv_iconst (v := 0) hx hb dX11_digitsOfRow_2 (by decide) ?_
  refine lv_istore_n (lv' := [(2, .int 0), (1, .int 0), (0, .ref (rfG g o0))]) hx hb dX11_digitsOfRow_3 rfl hl (by decide) rfl (fun ls hl => ?_)
  exact w_X11_digitsOfRow_4 X hR hr fu o0 0 0 h ls H locs hf I (lv_sub hl [2, 1, 0] rfl)
def f_X11_digitsOfRow (o0 : Nat) (h : AH) : Option (Int32 × AH) := f_X11_digitsOfRow_0 o0 h
end
theorem c_X11_digitsOfRow (l : Launch) (g : GG) (o0 : Nat) {h : AH} {res : Int32 × AH} (hf : f_X11_digitsOfRow o0 h = some res) : CM l g yX11_digitsOfRow cX11_digitsOfRow 3 (some (.int)) 1 64 0 0 [.ref (rfG g o0)] h (some (.int res.1)) res.2 :=
  k_body (by decide) (Nat.le_of_ble_eq_true rfl) (fun p e s m below meth c R ls hR hr X I hl => w_X11_digitsOfRow_0 X ⟨Nat.le_of_eq hR.1.symm, Nat.le_of_eq hR.2.1.symm⟩ hr o0 h ls s.heap [] hf I (lv_sub hl [0] rfl))
/-! TrapCorner.isLiveSpring(I)Z -/
theorem dX11_isLiveSpring_0 : decode cX11_isLiveSpring 0 = .ok (.iload_n 0, 1) := by decide +kernel
theorem dX11_isLiveSpring_1 : decode cX11_isLiveSpring 1 = .ok (.iconst 1, 1) := by decide +kernel
theorem dX11_isLiveSpring_2 : decode cX11_isLiveSpring 2 = .ok (.if_icmp .lt 13, 3) := by decide +kernel
theorem dX11_isLiveSpring_5 : decode cX11_isLiveSpring 5 = .ok (.iload_n 0, 1) := by decide +kernel
theorem dX11_isLiveSpring_6 : decode cX11_isLiveSpring 6 = .ok (.bipush 9, 2) := by decide +kernel
theorem dX11_isLiveSpring_8 : decode cX11_isLiveSpring 8 = .ok (.if_icmp .gt 7, 3) := by decide +kernel
theorem dX11_isLiveSpring_11 : decode cX11_isLiveSpring 11 = .ok (.iconst 1, 1) := by decide +kernel
theorem dX11_isLiveSpring_12 : decode cX11_isLiveSpring 12 = .ok (.goto 4, 3) := by decide +kernel
theorem dX11_isLiveSpring_15 : decode cX11_isLiveSpring 15 = .ok (.iconst 0, 1) := by decide +kernel
theorem dX11_isLiveSpring_16 : decode cX11_isLiveSpring 16 = .ok (.ireturn, 1) := by decide +kernel
section
variable {g : GG} {p : Program} {l : Launch} {e : Env} {R : Room} {s : State} {m : MethodId} {args : Array Value} {below : List Frame} {meth : Method} {c : Code} {n0 z0 : Nat}
def f_X11_isLiveSpring_0  (x0 : Int32) (h : AH) : Option (Int32 × AH) :=
  if x0 < 1 then
    some (0, h)
  else
    if 9 < x0 then
      some (0, h)
    else
      some (1, h)
set_option maxHeartbeats 1000000 in
theorem w_X11_isLiveSpring_0 (X : Cx g p s m args meth c cX11_isLiveSpring 1 "TrapCorner") (hR : 1 ≤ R.frames ∧ 64 ≤ R.locals) (hr : meth.sig.returnType = (some (.boolean))) {res : Int32 × AH} : ∀ (x0 : Int32) (h : AH) (ls : Array Slot) (H : Heap) (locs : List Loc), f_X11_isLiveSpring_0 x0 h = some res → Iv g s n0 z0 h H locs 0 0 → lv_has ls 1 [(0, .int x0)] → W p l e R s m args below meth c H locs 0 0 (MQ below (QG g (some (.int res.1)) res.2) args s 0 0 (AG g)) (F0 m 0 ls []) := by
  have hx := X.1
  have hb := X.2.1
  intro x0 h ls H locs hf I hl
  unfold f_X11_isLiveSpring_0 at hf
  refine lv_iload_n hx hb dX11_isLiveSpring_0 rfl (lv_at hl 0 rfl) ?_
  refine lv_iconst (v := 1) hx hb dX11_isLiveSpring_1 (by decide) ?_
  refine lv_icmp_lt (tgt := 15) hx hb dX11_isLiveSpring_2 (by decide) (fun c1 => ?_) (fun c1 => ?_)
  · rw [if_pos c1] at hf
    refine lv_iconst (v := 0) hx hb dX11_isLiveSpring_15 (by decide) ?_
    cases hf
    exact k_rz X I hr (Or.inl rfl) dX11_isLiveSpring_16
  · rw [if_neg c1] at hf
    refine lv_iload_n hx hb dX11_isLiveSpring_5 rfl (lv_at hl 0 rfl) ?_
    refine lv_bipush (v := 9) hx hb dX11_isLiveSpring_6 (by decide) ?_
    refine lv_icmp_gt (tgt := 15) hx hb dX11_isLiveSpring_8 (by decide) (fun c2 => ?_) (fun c2 => ?_)
    · rw [if_pos c2] at hf
      refine lv_iconst (v := 0) hx hb dX11_isLiveSpring_15 (by decide) ?_
      cases hf
      exact k_rz X I hr (Or.inl rfl) dX11_isLiveSpring_16
    · rw [if_neg c2] at hf
      refine lv_iconst (v := 1) hx hb dX11_isLiveSpring_11 (by decide) ?_
      refine lv_goto (tgt := 16) hx hb dX11_isLiveSpring_12 (by decide) ?_
      cases hf
      exact k_rz X I hr (Or.inr rfl) dX11_isLiveSpring_16
def f_X11_isLiveSpring (x0 : Int32) (h : AH) : Option (Int32 × AH) := f_X11_isLiveSpring_0 x0 h
end
theorem c_X11_isLiveSpring (l : Launch) (g : GG) (x0 : Int32) {h : AH} {res : Int32 × AH} (hf : f_X11_isLiveSpring x0 h = some res) : CM l g yX11_isLiveSpring cX11_isLiveSpring 1 (some (.boolean)) 1 64 0 0 [.int x0] h (some (.int res.1)) res.2 :=
  k_body (by decide) (Nat.le_of_ble_eq_true rfl) (fun p e s m below meth c R ls hR hr X I hl => w_X11_isLiveSpring_0 X ⟨Nat.le_of_eq hR.1.symm, Nat.le_of_eq hR.2.1.symm⟩ hr x0 h ls s.heap [] hf I (lv_sub hl [0] rfl))
/-! TrapCorner.walksBy(II)Z -/
theorem dX11_walksBy_0 : decode cX11_walksBy 0 = .ok (.aload_n 0, 1) := by decide +kernel
theorem dX11_walksBy_1 : decode cX11_walksBy 1 = .ok (.getfield 42, 3) := by decide +kernel
theorem dX11_walksBy_4 : decode cX11_walksBy 4 = .ok (.iload_n 1, 1) := by decide +kernel
theorem dX11_walksBy_5 : decode cX11_walksBy 5 = .ok (.aload_n 0, 1) := by decide +kernel
theorem dX11_walksBy_6 : decode cX11_walksBy 6 = .ok (.getfield 49, 3) := by decide +kernel
theorem dX11_walksBy_9 : decode cX11_walksBy 9 = .ok (.getfield 219, 3) := by decide +kernel
theorem dX11_walksBy_12 : decode cX11_walksBy 12 = .ok (.iload_n 1, 1) := by decide +kernel
theorem dX11_walksBy_13 : decode cX11_walksBy 13 = .ok (.iaload, 1) := by decide +kernel
theorem dX11_walksBy_14 : decode cX11_walksBy 14 = .ok (.invokevirtual 399, 3) := by decide +kernel
theorem dX11_walksBy_17 : decode cX11_walksBy 17 = .ok (.iload_n 2, 1) := by decide +kernel
theorem dX11_walksBy_18 : decode cX11_walksBy 18 = .ok (.ishr, 1) := by decide +kernel
theorem dX11_walksBy_19 : decode cX11_walksBy 19 = .ok (.iconst 1, 1) := by decide +kernel
theorem dX11_walksBy_20 : decode cX11_walksBy 20 = .ok (.iand, 1) := by decide +kernel
theorem dX11_walksBy_21 : decode cX11_walksBy 21 = .ok (.iconst 1, 1) := by decide +kernel
theorem dX11_walksBy_22 : decode cX11_walksBy 22 = .ok (.if_icmp .ne 7, 3) := by decide +kernel
theorem dX11_walksBy_25 : decode cX11_walksBy 25 = .ok (.iconst 1, 1) := by decide +kernel
theorem dX11_walksBy_26 : decode cX11_walksBy 26 = .ok (.goto 4, 3) := by decide +kernel
theorem dX11_walksBy_29 : decode cX11_walksBy 29 = .ok (.iconst 0, 1) := by decide +kernel
theorem dX11_walksBy_30 : decode cX11_walksBy 30 = .ok (.ireturn, 1) := by decide +kernel
theorem lk_TrapCorner_219 : LK "TrapCorner" 219 [8] 4 := by
  intro ci hci
  have hci := List.mem_singleton.mp hci
  subst hci
  exact ⟨RX8, TX8, 8, "TrapCorner$State", ck_8, by decide, tw_214, Or.inl rfl⟩
theorem vk_TrapCorner_399 : VK "TrapCorner" 399 [10] yX10_walkBits 2 := ⟨tw_1112, tw_1113, tw_5, ⟨by decide, by decide⟩, by decide +kernel, fun ci hci => by
  have hci := List.mem_singleton.mp hci
  subst hci
  exact ⟨_, rfl, tw_1114⟩⟩
section
variable {g : GG} {p : Program} {l : Launch} {e : Env} {R : Room} {s : State} {m : MethodId} {args : Array Value} {below : List Frame} {meth : Method} {c : Code} {n0 z0 : Nat}
def f_X11_walksBy_0  (o0 : Nat) (x1 : Int32) (x2 : Int32) (h : AH) : Option (Int32 × AH) :=
  (gR [11] h o0 4).bind fun v1 =>
  (gR [11] h o0 5).bind fun v3 =>
  (gR [8] h v3 4).bind fun v5 =>
  (aI 0 h v5 x1).bind fun v7 =>
  (isC [10] h v1).bind fun _ =>
  cN (f_X10_walkBits v1 x1 v7 h) h fun v9 h10 =>
  if ((v9 >>> (x2 &&& 31)) &&& 1) = 1 then
    some (1, h10)
  else
    some (0, h10)
set_option maxHeartbeats 1000000 in
theorem w_X11_walksBy_0 (X : Cx g p s m args meth c cX11_walksBy 3 "TrapCorner") (hR : 3 ≤ R.frames ∧ 192 ≤ R.locals) (hr : meth.sig.returnType = (some (.boolean))) {res : Int32 × AH} : ∀ (o0 : Nat) (x1 : Int32) (x2 : Int32) (h : AH) (ls : Array Slot) (H : Heap) (locs : List Loc), f_X11_walksBy_0 o0 x1 x2 h = some res → Iv g s n0 z0 h H locs 0 0 → lv_has ls 3 [(0, .ref (rfG g o0)), (1, .int x1), (2, .int x2)] → W p l e R s m args below meth c H locs 0 0 (MQ below (QG g (some (.int res.1)) res.2) args s 0 0 (AG g)) (F0 m 0 ls []) := by
  have hx := X.1
  have hb := X.2.1
  intro o0 x1 x2 h ls H locs hf I hl
  unfold f_X11_walksBy_0 at hf
  refine lv_aload_n hx hb dX11_walksBy_0 rfl (lv_at hl 0 rfl) ?_
  obtain ⟨v1, e2, hf⟩ := Option.bind_eq_some_iff.mp hf
  refine r_gR X I e2 lk_TrapCorner_42 dX11_walksBy_1 ?_
  refine lv_iload_n hx hb dX11_walksBy_4 rfl (lv_at hl 1 rfl) ?_
  refine lv_aload_n hx hb dX11_walksBy_5 rfl (lv_at hl 0 rfl) ?_
  obtain ⟨v3, e4, hf⟩ := Option.bind_eq_some_iff.mp hf
  refine r_gR X I e4 lk_TrapCorner_49 dX11_walksBy_6 ?_
  obtain ⟨v5, e6, hf⟩ := Option.bind_eq_some_iff.mp hf
  refine r_gR X I e6 lk_TrapCorner_219 dX11_walksBy_9 ?_
  refine lv_iload_n hx hb dX11_walksBy_12 rfl (lv_at hl 1 rfl) ?_
  obtain ⟨v7, e8, hf⟩ := Option.bind_eq_some_iff.mp hf
  refine r_aI0 X I e8 dX11_walksBy_13 ?_
  obtain ⟨_, g13, hf⟩ := Option.bind_eq_some_iff.mp hf
  obtain ⟨v9, h10, e11, z12, hf⟩ := cN_spec hf
  refine k_Vi (As := [.int x1, .int v7]) (rest := []) X I (c_X10_walkBits l g v1 x1 v7 e11) z12 g13 vk_TrapCorner_399 tw_1115 ⟨Nat.le_trans (by decide) hR.1, Nat.le_trans (by decide) hR.2⟩ ⟨Nat.zero_le _, Nat.zero_le _⟩ rfl hl.1 rfl (Nat.le_of_ble_eq_true rfl) dX11_walksBy_14 (fun H locs I => ?_)
  refine lv_iload_n hx hb dX11_walksBy_17 rfl (lv_at hl 2 rfl) ?_
  refine lv_ishr hx hb dX11_walksBy_18 ?_
  refine lv_iconst (v := 1) hx hb dX11_walksBy_19 (by decide) ?_
  refine lv_iand hx hb dX11_walksBy_20 ?_
  refine lv_iconst (v := 1) hx hb dX11_walksBy_21 (by decide) ?_
  refine lv_icmp_ne (tgt := 29) hx hb dX11_walksBy_22 (by decide) (fun c14 => ?_) (fun c14 => ?_)
  · rw [if_neg c14] at hf
    refine lv_iconst (v := 0) hx hb dX11_walksBy_29 (by decide) ?_
    cases hf
    exact k_rz X I hr (Or.inl rfl) dX11_walksBy_30
  · rw [if_pos c14] at hf
    refine lv_iconst (v := 1) hx hb dX11_walksBy_25 (by decide) ?_
    refine lv_goto (tgt := 30) hx hb dX11_walksBy_26 (by decide) ?_
    cases hf
    exact k_rz X I hr (Or.inr rfl) dX11_walksBy_30
def f_X11_walksBy (o0 : Nat) (x1 : Int32) (x2 : Int32) (h : AH) : Option (Int32 × AH) := f_X11_walksBy_0 o0 x1 x2 h
end
theorem c_X11_walksBy (l : Launch) (g : GG) (o0 : Nat) (x1 : Int32) (x2 : Int32) {h : AH} {res : Int32 × AH} (hf : f_X11_walksBy o0 x1 x2 h = some res) : CM l g yX11_walksBy cX11_walksBy 3 (some (.boolean)) 3 192 0 0 [.ref (rfG g o0), .int x1, .int x2] h (some (.int res.1)) res.2 :=
  k_body (by decide) (Nat.le_of_ble_eq_true rfl) (fun p e s m below meth c R ls hR hr X I hl => w_X11_walksBy_0 X ⟨Nat.le_of_eq hR.1.symm, Nat.le_of_eq hR.2.1.symm⟩ hr o0 x1 x2 h ls s.heap [] hf I (lv_sub hl [0, 1, 2] rfl))
/-! TrapCorner.walk(I)I -/
theorem dX11_walk_0 : decode cX11_walk 0 = .ok (.aload_n 0, 1) := by decide +kernel
theorem dX11_walk_1 : decode cX11_walk 1 = .ok (.iload_n 1, 1) := by decide +kernel
theorem dX11_walk_2 : decode cX11_walk 2 = .ok (.invokevirtual 194, 3) := by decide +kernel
theorem dX11_walk_5 : decode cX11_walk 5 = .ok (.ifCond .ne 5, 3) := by decide +kernel
theorem dX11_walk_8 : decode cX11_walk 8 = .ok (.iconst (-1), 1) := by decide +kernel
theorem dX11_walk_9 : decode cX11_walk 9 = .ok (.ireturn, 1) := by decide +kernel
theorem dX11_walk_10 : decode cX11_walk 10 = .ok (.aload_n 0, 1) := by decide +kernel
theorem dX11_walk_11 : decode cX11_walk 11 = .ok (.getfield 42, 3) := by decide +kernel
theorem dX11_walk_14 : decode cX11_walk 14 = .ok (.iload_n 1, 1) := by decide +kernel
theorem dX11_walk_15 : decode cX11_walk 15 = .ok (.aload_n 0, 1) := by decide +kernel
theorem dX11_walk_16 : decode cX11_walk 16 = .ok (.getfield 49, 3) := by decide +kernel
theorem dX11_walk_19 : decode cX11_walk 19 = .ok (.getfield 219, 3) := by decide +kernel
theorem dX11_walk_22 : decode cX11_walk 22 = .ok (.iload_n 1, 1) := by decide +kernel
theorem dX11_walk_23 : decode cX11_walk 23 = .ok (.iaload, 1) := by decide +kernel
theorem dX11_walk_24 : decode cX11_walk 24 = .ok (.invokevirtual 393, 3) := by decide +kernel
theorem dX11_walk_27 : decode cX11_walk 27 = .ok (.ireturn, 1) := by decide +kernel
theorem vk_TrapCorner_194 : VK "TrapCorner" 194 [11] yX11_hasPerson 1 := ⟨tw_877, tw_879, tw_1, ⟨by decide, by decide⟩, by decide +kernel, fun ci hci => by
  have hci := List.mem_singleton.mp hci
  subst hci
  exact ⟨_, rfl, tp_24⟩⟩
theorem vk_TrapCorner_393 : VK "TrapCorner" 393 [10] yX10_walkLength 2 := ⟨tw_1103, tw_904, tw_5, ⟨by decide, by decide⟩, by decide +kernel, fun ci hci => by
  have hci := List.mem_singleton.mp hci
  subst hci
  exact ⟨_, rfl, tw_905⟩⟩
section
variable {g : GG} {p : Program} {l : Launch} {e : Env} {R : Room} {s : State} {m : MethodId} {args : Array Value} {below : List Frame} {meth : Method} {c : Code} {n0 z0 : Nat}
def f_X11_walk_0  (o0 : Nat) (x1 : Int32) (h : AH) : Option (Int32 × AH) :=
  (isC [11] h o0).bind fun _ =>
  cN (f_X11_hasPerson o0 x1 h) h fun v1 h2 =>
  if v1 = 0 then
    some ((-1), h2)
  else
    (gR [11] h2 o0 4).bind fun v7 =>
    (gR [11] h2 o0 5).bind fun v9 =>
    (gR [8] h2 v9 4).bind fun v11 =>
    (aI 0 h2 v11 x1).bind fun v13 =>
    (isC [10] h2 v7).bind fun _ =>
    cN (f_X10_walkLength v7 x1 v13 h2) h2 fun v15 h16 =>
    some (v15, h16)
set_option maxHeartbeats 1000000 in
theorem w_X11_walk_0 (X : Cx g p s m args meth c cX11_walk 2 "TrapCorner") (hR : 2 ≤ R.frames ∧ 128 ≤ R.locals) (hr : meth.sig.returnType = (some (.int))) {res : Int32 × AH} : ∀ (o0 : Nat) (x1 : Int32) (h : AH) (ls : Array Slot) (H : Heap) (locs : List Loc), f_X11_walk_0 o0 x1 h = some res → Iv g s n0 z0 h H locs 0 0 → lv_has ls 2 [(0, .ref (rfG g o0)), (1, .int x1)] → W p l e R s m args below meth c H locs 0 0 (MQ below (QG g (some (.int res.1)) res.2) args s 0 0 (AG g)) (F0 m 0 ls []) := by
  have hx := X.1
  have hb := X.2.1
  intro o0 x1 h ls H locs hf I hl
  unfold f_X11_walk_0 at hf
  refine lv_aload_n hx hb dX11_walk_0 rfl (lv_at hl 0 rfl) ?_
  refine lv_iload_n hx hb dX11_walk_1 rfl (lv_at hl 1 rfl) ?_
  obtain ⟨_, g5, hf⟩ := Option.bind_eq_some_iff.mp hf
  obtain ⟨v1, h2, e3, z4, hf⟩ := cN_spec hf
  refine k_Vi (As := [.int x1]) (rest := []) X I (c_X11_hasPerson l g o0 x1 e3) z4 g5 vk_TrapCorner_194 tw_880 ⟨Nat.le_trans (by decide) hR.1, Nat.le_trans (by decide) hR.2⟩ ⟨Nat.zero_le _, Nat.zero_le _⟩ rfl hl.1 rfl (Nat.le_of_ble_eq_true rfl) dX11_walk_2 (fun H locs I => ?_)
  refine lv_if_ne (tgt := 10) hx hb dX11_walk_5 (by decide) (fun c6 => ?_) (fun c6 => ?_)
  · rw [if_neg c6] at hf
    refine lv_aload_n hx hb dX11_walk_10 rfl (lv_at hl 0 rfl) ?_
    obtain ⟨v7, e8, hf⟩ := Option.bind_eq_some_iff.mp hf
    refine r_gR X I e8 lk_TrapCorner_42 dX11_walk_11 ?_
    refine lv_iload_n hx hb dX11_walk_14 rfl (lv_at hl 1 rfl) ?_
    refine lv_aload_n hx hb dX11_walk_15 rfl (lv_at hl 0 rfl) ?_
    obtain ⟨v9, e10, hf⟩ := Option.bind_eq_some_iff.mp hf
    refine r_gR X I e10 lk_TrapCorner_49 dX11_walk_16 ?_
    obtain ⟨v11, e12, hf⟩ := Option.bind_eq_some_iff.mp hf
    refine r_gR X I e12 lk_TrapCorner_219 dX11_walk_19 ?_
    refine lv_iload_n hx hb dX11_walk_22 rfl (lv_at hl 1 rfl) ?_
    obtain ⟨v13, e14, hf⟩ := Option.bind_eq_some_iff.mp hf
    refine r_aI0 X I e14 dX11_walk_23 ?_
    obtain ⟨_, g19, hf⟩ := Option.bind_eq_some_iff.mp hf
    obtain ⟨v15, h16, e17, z18, hf⟩ := cN_spec hf
    refine k_Vi (As := [.int x1, .int v13]) (rest := []) X I (c_X10_walkLength l g v7 x1 v13 e17) z18 g19 vk_TrapCorner_393 tw_906 ⟨Nat.le_trans (by decide) hR.1, Nat.le_trans (by decide) hR.2⟩ ⟨Nat.zero_le _, Nat.zero_le _⟩ rfl hl.1 rfl (Nat.le_of_ble_eq_true rfl) dX11_walk_24 (fun H locs I => ?_)
    cases hf
    exact k_ri X I hr dX11_walk_27
  · rw [if_pos c6] at hf
    refine lv_iconst (v := (-1)) hx hb dX11_walk_8 (by decide) ?_
    cases hf
    exact k_ri X I hr dX11_walk_9
def f_X11_walk (o0 : Nat) (x1 : Int32) (h : AH) : Option (Int32 × AH) := f_X11_walk_0 o0 x1 h
end
theorem c_X11_walk (l : Launch) (g : GG) (o0 : Nat) (x1 : Int32) {h : AH} {res : Int32 × AH} (hf : f_X11_walk o0 x1 h = some res) : CM l g yX11_walk cX11_walk 2 (some (.int)) 2 128 0 0 [.ref (rfG g o0), .int x1] h (some (.int res.1)) res.2 :=
  k_body (by decide) (Nat.le_of_ble_eq_true rfl) (fun p e s m below meth c R ls hR hr X I hl => w_X11_walk_0 X ⟨Nat.le_of_eq hR.1.symm, Nat.le_of_eq hR.2.1.symm⟩ hr o0 x1 h ls s.heap [] hf I (lv_sub hl [0, 1] rfl))
/-! TrapCorner.baiterStake(II)I -/
theorem dX11_baiterStake_0 : decode cX11_baiterStake 0 = .ok (.aload_n 0, 1) := by decide +kernel
theorem dX11_baiterStake_1 : decode cX11_baiterStake 1 = .ok (.getfield 94, 3) := by decide +kernel
theorem dX11_baiterStake_4 : decode cX11_baiterStake 4 = .ok (.iconst 2, 1) := by decide +kernel
theorem dX11_baiterStake_5 : decode cX11_baiterStake 5 = .ok (.iload_n 1, 1) := by decide +kernel
theorem dX11_baiterStake_6 : decode cX11_baiterStake 6 = .ok (.imul, 1) := by decide +kernel
theorem dX11_baiterStake_7 : decode cX11_baiterStake 7 = .ok (.iload_n 2, 1) := by decide +kernel
theorem dX11_baiterStake_8 : decode cX11_baiterStake 8 = .ok (.iadd, 1) := by decide +kernel
theorem dX11_baiterStake_9 : decode cX11_baiterStake 9 = .ok (.iaload, 1) := by decide +kernel
theorem dX11_baiterStake_10 : decode cX11_baiterStake 10 = .ok (.ireturn, 1) := by decide +kernel
theorem lk_TrapCorner_94 : LK "TrapCorner" 94 [11] 13 := by
  intro ci hci
  have hci := List.mem_singleton.mp hci
  subst hci
  exact ⟨RX11, TX11, 19, "TrapCorner", ck_11, by decide, tw_378, Or.inl rfl⟩
section
variable {g : GG} {p : Program} {l : Launch} {e : Env} {R : Room} {s : State} {m : MethodId} {args : Array Value} {below : List Frame} {meth : Method} {c : Code} {n0 z0 : Nat}
def f_X11_baiterStake_0  (o0 : Nat) (x1 : Int32) (x2 : Int32) (h : AH) : Option (Int32 × AH) :=
  (gR [11] h o0 13).bind fun v1 =>
  (aI 0 h v1 ((2 * x1) + x2)).bind fun v3 =>
  some (v3, h)
set_option maxHeartbeats 1000000 in
theorem w_X11_baiterStake_0 (X : Cx g p s m args meth c cX11_baiterStake 3 "TrapCorner") (hR : 1 ≤ R.frames ∧ 64 ≤ R.locals) (hr : meth.sig.returnType = (some (.int))) {res : Int32 × AH} : ∀ (o0 : Nat) (x1 : Int32) (x2 : Int32) (h : AH) (ls : Array Slot) (H : Heap) (locs : List Loc), f_X11_baiterStake_0 o0 x1 x2 h = some res → Iv g s n0 z0 h H locs 0 0 → lv_has ls 3 [(0, .ref (rfG g o0)), (1, .int x1), (2, .int x2)] → W p l e R s m args below meth c H locs 0 0 (MQ below (QG g (some (.int res.1)) res.2) args s 0 0 (AG g)) (F0 m 0 ls []) := by
  have hx := X.1
  have hb := X.2.1
  intro o0 x1 x2 h ls H locs hf I hl
  unfold f_X11_baiterStake_0 at hf
  refine lv_aload_n hx hb dX11_baiterStake_0 rfl (lv_at hl 0 rfl) ?_
  obtain ⟨v1, e2, hf⟩ := Option.bind_eq_some_iff.mp hf
  refine r_gR X I e2 lk_TrapCorner_94 dX11_baiterStake_1 ?_
  refine lv_iconst (v := 2) hx hb dX11_baiterStake_4 (by decide) ?_
  refine lv_iload_n hx hb dX11_baiterStake_5 rfl (lv_at hl 1 rfl) ?_
  refine lv_imul hx hb dX11_baiterStake_6 ?_
  refine lv_iload_n hx hb dX11_baiterStake_7 rfl (lv_at hl 2 rfl) ?_
  refine lv_iadd hx hb dX11_baiterStake_8 ?_
  obtain ⟨v3, e4, hf⟩ := Option.bind_eq_some_iff.mp hf
  refine r_aI0 X I e4 dX11_baiterStake_9 ?_
  cases hf
  exact k_ri X I hr dX11_baiterStake_10
def f_X11_baiterStake (o0 : Nat) (x1 : Int32) (x2 : Int32) (h : AH) : Option (Int32 × AH) := f_X11_baiterStake_0 o0 x1 x2 h
end
theorem c_X11_baiterStake (l : Launch) (g : GG) (o0 : Nat) (x1 : Int32) (x2 : Int32) {h : AH} {res : Int32 × AH} (hf : f_X11_baiterStake o0 x1 x2 h = some res) : CM l g yX11_baiterStake cX11_baiterStake 3 (some (.int)) 1 64 0 0 [.ref (rfG g o0), .int x1, .int x2] h (some (.int res.1)) res.2 :=
  k_body (by decide) (Nat.le_of_ble_eq_true rfl) (fun p e s m below meth c R ls hR hr X I hl => w_X11_baiterStake_0 X ⟨Nat.le_of_eq hR.1.symm, Nat.le_of_eq hR.2.1.symm⟩ hr o0 x1 x2 h ls s.heap [] hf I (lv_sub hl [0, 1, 2] rfl))
/-! TrapCorner.goerStake(II)I -/
theorem dX11_goerStake_0 : decode cX11_goerStake 0 = .ok (.aload_n 0, 1) := by decide +kernel
theorem dX11_goerStake_1 : decode cX11_goerStake 1 = .ok (.getfield 94, 3) := by decide +kernel
theorem dX11_goerStake_4 : decode cX11_goerStake 4 = .ok (.bipush 8, 2) := by decide +kernel
theorem dX11_goerStake_6 : decode cX11_goerStake 6 = .ok (.iconst 2, 1) := by decide +kernel
theorem dX11_goerStake_7 : decode cX11_goerStake 7 = .ok (.iload_n 1, 1) := by decide +kernel
theorem dX11_goerStake_8 : decode cX11_goerStake 8 = .ok (.imul, 1) := by decide +kernel
theorem dX11_goerStake_9 : decode cX11_goerStake 9 = .ok (.iadd, 1) := by decide +kernel
theorem dX11_goerStake_10 : decode cX11_goerStake 10 = .ok (.iload_n 2, 1) := by decide +kernel
theorem dX11_goerStake_11 : decode cX11_goerStake 11 = .ok (.iadd, 1) := by decide +kernel
theorem dX11_goerStake_12 : decode cX11_goerStake 12 = .ok (.iaload, 1) := by decide +kernel
theorem dX11_goerStake_13 : decode cX11_goerStake 13 = .ok (.ireturn, 1) := by decide +kernel
section
variable {g : GG} {p : Program} {l : Launch} {e : Env} {R : Room} {s : State} {m : MethodId} {args : Array Value} {below : List Frame} {meth : Method} {c : Code} {n0 z0 : Nat}
def f_X11_goerStake_0  (o0 : Nat) (x1 : Int32) (x2 : Int32) (h : AH) : Option (Int32 × AH) :=
  (gR [11] h o0 13).bind fun v1 =>
  (aI 0 h v1 ((8 + (2 * x1)) + x2)).bind fun v3 =>
  some (v3, h)
set_option maxHeartbeats 1000000 in
theorem w_X11_goerStake_0 (X : Cx g p s m args meth c cX11_goerStake 3 "TrapCorner") (hR : 1 ≤ R.frames ∧ 64 ≤ R.locals) (hr : meth.sig.returnType = (some (.int))) {res : Int32 × AH} : ∀ (o0 : Nat) (x1 : Int32) (x2 : Int32) (h : AH) (ls : Array Slot) (H : Heap) (locs : List Loc), f_X11_goerStake_0 o0 x1 x2 h = some res → Iv g s n0 z0 h H locs 0 0 → lv_has ls 3 [(0, .ref (rfG g o0)), (1, .int x1), (2, .int x2)] → W p l e R s m args below meth c H locs 0 0 (MQ below (QG g (some (.int res.1)) res.2) args s 0 0 (AG g)) (F0 m 0 ls []) := by
  have hx := X.1
  have hb := X.2.1
  intro o0 x1 x2 h ls H locs hf I hl
  unfold f_X11_goerStake_0 at hf
  refine lv_aload_n hx hb dX11_goerStake_0 rfl (lv_at hl 0 rfl) ?_
  obtain ⟨v1, e2, hf⟩ := Option.bind_eq_some_iff.mp hf
  refine r_gR X I e2 lk_TrapCorner_94 dX11_goerStake_1 ?_
  refine lv_bipush (v := 8) hx hb dX11_goerStake_4 (by decide) ?_
  refine lv_iconst (v := 2) hx hb dX11_goerStake_6 (by decide) ?_
  refine lv_iload_n hx hb dX11_goerStake_7 rfl (lv_at hl 1 rfl) ?_
  refine lv_imul hx hb dX11_goerStake_8 ?_
  refine lv_iadd hx hb dX11_goerStake_9 ?_
  refine lv_iload_n hx hb dX11_goerStake_10 rfl (lv_at hl 2 rfl) ?_
  refine lv_iadd hx hb dX11_goerStake_11 ?_
  obtain ⟨v3, e4, hf⟩ := Option.bind_eq_some_iff.mp hf
  refine r_aI0 X I e4 dX11_goerStake_12 ?_
  cases hf
  exact k_ri X I hr dX11_goerStake_13
def f_X11_goerStake (o0 : Nat) (x1 : Int32) (x2 : Int32) (h : AH) : Option (Int32 × AH) := f_X11_goerStake_0 o0 x1 x2 h
end
theorem c_X11_goerStake (l : Launch) (g : GG) (o0 : Nat) (x1 : Int32) (x2 : Int32) {h : AH} {res : Int32 × AH} (hf : f_X11_goerStake o0 x1 x2 h = some res) : CM l g yX11_goerStake cX11_goerStake 3 (some (.int)) 1 64 0 0 [.ref (rfG g o0), .int x1, .int x2] h (some (.int res.1)) res.2 :=
  k_body (by decide) (Nat.le_of_ble_eq_true rfl) (fun p e s m below meth c R ls hR hr X I hl => w_X11_goerStake_0 X ⟨Nat.le_of_eq hR.1.symm, Nat.le_of_eq hR.2.1.symm⟩ hr o0 x1 x2 h ls s.heap [] hf I (lv_sub hl [0, 1, 2] rfl))
/-! TrapCorner.isRest(II)Z -/
theorem dX11_isRest_0 : decode cX11_isRest 0 = .ok (.iconst 0, 1) := by decide +kernel
theorem dX11_isRest_1 : decode cX11_isRest 1 = .ok (.istore_n 3, 1) := by decide +kernel
theorem dX11_isRest_2 : decode cX11_isRest 2 = .ok (.iload_n 3, 1) := by decide +kernel
theorem dX11_isRest_3 : decode cX11_isRest 3 = .ok (.iconst 3, 1) := by decide +kernel
theorem dX11_isRest_4 : decode cX11_isRest 4 = .ok (.if_icmp .gt 26, 3) := by decide +kernel
theorem dX11_isRest_7 : decode cX11_isRest 7 = .ok (.aload_n 0, 1) := by decide +kernel
theorem dX11_isRest_8 : decode cX11_isRest 8 = .ok (.iload_n 3, 1) := by decide +kernel
theorem dX11_isRest_9 : decode cX11_isRest 9 = .ok (.iload_n 2, 1) := by decide +kernel
theorem dX11_isRest_10 : decode cX11_isRest 10 = .ok (.invokevirtual 405, 3) := by decide +kernel
theorem dX11_isRest_13 : decode cX11_isRest 13 = .ok (.aload_n 0, 1) := by decide +kernel
theorem dX11_isRest_14 : decode cX11_isRest 14 = .ok (.iload_n 1, 1) := by decide +kernel
theorem dX11_isRest_15 : decode cX11_isRest 15 = .ok (.iload_n 2, 1) := by decide +kernel
theorem dX11_isRest_16 : decode cX11_isRest 16 = .ok (.invokevirtual 405, 3) := by decide +kernel
theorem dX11_isRest_19 : decode cX11_isRest 19 = .ok (.if_icmp .le 5, 3) := by decide +kernel
theorem dX11_isRest_22 : decode cX11_isRest 22 = .ok (.iconst 0, 1) := by decide +kernel
theorem dX11_isRest_23 : decode cX11_isRest 23 = .ok (.ireturn, 1) := by decide +kernel
theorem dX11_isRest_24 : decode cX11_isRest 24 = .ok (.iinc 3 1, 3) := by decide +kernel
theorem dX11_isRest_27 : decode cX11_isRest 27 = .ok (.goto (-25), 3) := by decide +kernel
theorem dX11_isRest_30 : decode cX11_isRest 30 = .ok (.aload_n 0, 1) := by decide +kernel
theorem dX11_isRest_31 : decode cX11_isRest 31 = .ok (.iload_n 1, 1) := by decide +kernel
theorem dX11_isRest_32 : decode cX11_isRest 32 = .ok (.iconst 1, 1) := by decide +kernel
theorem dX11_isRest_33 : decode cX11_isRest 33 = .ok (.iload_n 2, 1) := by decide +kernel
theorem dX11_isRest_34 : decode cX11_isRest 34 = .ok (.isub, 1) := by decide +kernel
theorem dX11_isRest_35 : decode cX11_isRest 35 = .ok (.invokevirtual 408, 3) := by decide +kernel
theorem dX11_isRest_38 : decode cX11_isRest 38 = .ok (.aload_n 0, 1) := by decide +kernel
theorem dX11_isRest_39 : decode cX11_isRest 39 = .ok (.iload_n 1, 1) := by decide +kernel
theorem dX11_isRest_40 : decode cX11_isRest 40 = .ok (.iload_n 2, 1) := by decide +kernel
theorem dX11_isRest_41 : decode cX11_isRest 41 = .ok (.invokevirtual 408, 3) := by decide +kernel
theorem dX11_isRest_44 : decode cX11_isRest 44 = .ok (.if_icmp .gt 7, 3) := by decide +kernel
theorem dX11_isRest_47 : decode cX11_isRest 47 = .ok (.iconst 1, 1) := by decide +kernel
theorem dX11_isRest_48 : decode cX11_isRest 48 = .ok (.goto 4, 3) := by decide +kernel
theorem dX11_isRest_51 : decode cX11_isRest 51 = .ok (.iconst 0, 1) := by decide +kernel
theorem dX11_isRest_52 : decode cX11_isRest 52 = .ok (.ireturn, 1) := by decide +kernel
theorem vk_TrapCorner_408 : VK "TrapCorner" 408 [11] yX11_goerStake 2 := ⟨tw_1134, tw_1136, tw_1, ⟨by decide, by decide⟩, by decide +kernel, fun ci hci => by
  have hci := List.mem_singleton.mp hci
  subst hci
  exact ⟨_, rfl, tp_43⟩⟩
theorem vk_TrapCorner_405 : VK "TrapCorner" 405 [11] yX11_baiterStake 2 := ⟨tw_1130, tw_1132, tw_1, ⟨by decide, by decide⟩, by decide +kernel, fun ci hci => by
  have hci := List.mem_singleton.mp hci
  subst hci
  exact ⟨_, rfl, tp_42⟩⟩
section
variable {g : GG} {p : Program} {l : Launch} {e : Env} {R : Room} {s : State} {m : MethodId} {args : Array Value} {below : List Frame} {meth : Method} {c : Code} {n0 z0 : Nat}
def f_X11_isRest_2  : Nat → Nat → Int32 → Int32 → Int32 → AH → Option (Int32 × AH)
  | 0, _, _, _, _, _ => none
  | n + 1, o0, x1, x2, x3, h =>
  if 3 < x3 then
    (isC [11] h o0).bind fun _ =>
    cN (f_X11_goerStake o0 x1 (1 - x2) h) h fun v2 h3 =>
    (isC [11] h3 o0).bind fun _ =>
    cN (f_X11_goerStake o0 x1 x2 h3) h3 fun v7 h8 =>
    if v7 < v2 then
      some (0, h8)
    else
      some (1, h8)
  else
    (isC [11] h o0).bind fun _ =>
    cN (f_X11_baiterStake o0 x3 x2 h) h fun v13 h14 =>
    (isC [11] h14 o0).bind fun _ =>
    cN (f_X11_baiterStake o0 x1 x2 h14) h14 fun v18 h19 =>
    if v13 ≤ v18 then
      f_X11_isRest_2  n o0 x1 x2 (x3 + 1) h19
    else
      some (0, h19)
set_option maxHeartbeats 1000000 in
theorem w_X11_isRest_2 (X : Cx g p s m args meth c cX11_isRest 4 "TrapCorner") (hR : 2 ≤ R.frames ∧ 128 ≤ R.locals) (hr : meth.sig.returnType = (some (.boolean))) {res : Int32 × AH} : ∀ (n : Nat) (o0 : Nat) (x1 : Int32) (x2 : Int32) (x3 : Int32) (h : AH) (ls : Array Slot) (H : Heap) (locs : List Loc), f_X11_isRest_2 n o0 x1 x2 x3 h = some res → Iv g s n0 z0 h H locs 0 0 → lv_has ls 4 [(0, .ref (rfG g o0)), (1, .int x1), (2, .int x2), (3, .int x3)] → W p l e R s m args below meth c H locs 0 0 (MQ below (QG g (some (.int res.1)) res.2) args s 0 0 (AG g)) (F0 m 2 ls []) := by
  have hx := X.1
  have hb := X.2.1
  intro n
  induction n with
  | zero =>
    intro o0 x1 x2 x3 h ls H locs hf
    rw [f_X11_isRest_2.eq_1] at hf
    cases hf
  | succ n ih =>
    intro o0 x1 x2 x3 h ls H locs hf I hl
    rw [f_X11_isRest_2.eq_2] at hf
    refine lv_iload_n hx hb dX11_isRest_2 rfl (lv_at hl 3 rfl) ?_
    refine lv_iconst (v := 3) hx hb dX11_isRest_3 (by decide) ?_
    refine lv_icmp_gt (tgt := 30) hx hb dX11_isRest_4 (by decide) (fun c1 => ?_) (fun c1 => ?_)
    · rw [if_pos c1] at hf
      refine lv_aload_n hx hb dX11_isRest_30 rfl (lv_at hl 0 rfl) ?_
      refine lv_iload_n hx hb dX11_isRest_31 rfl (lv_at hl 1 rfl) ?_
      refine lv_iconst (v := 1) hx hb dX11_isRest_32 (by decide) ?_
      refine lv_iload_n hx hb dX11_isRest_33 rfl (lv_at hl 2 rfl) ?_
      refine lv_isub hx hb dX11_isRest_34 ?_
      obtain ⟨_, g6, hf⟩ := Option.bind_eq_some_iff.mp hf
      obtain ⟨v2, h3, e4, z5, hf⟩ := cN_spec hf
      refine k_Vi (As := [.int x1, .int (1 - x2)]) (rest := []) X I (c_X11_goerStake l g o0 x1 (1 - x2) e4) z5 g6 vk_TrapCorner_408 tw_1137 ⟨Nat.le_trans (by decide) hR.1, Nat.le_trans (by decide) hR.2⟩ ⟨Nat.zero_le _, Nat.zero_le _⟩ rfl hl.1 rfl (Nat.le_of_ble_eq_true rfl) dX11_isRest_35 (fun H locs I => ?_)
      refine lv_aload_n hx hb dX11_isRest_38 rfl (lv_at hl 0 rfl) ?_
      refine lv_iload_n hx hb dX11_isRest_39 rfl (lv_at hl 1 rfl) ?_
      refine lv_iload_n hx hb dX11_isRest_40 rfl (lv_at hl 2 rfl) ?_
      obtain ⟨_, g11, hf⟩ := Option.bind_eq_some_iff.mp hf
      obtain ⟨v7, h8, e9, z10, hf⟩ := cN_spec hf
      refine k_Vi (As := [.int x1, .int x2]) (rest := [.int v2]) X I (c_X11_goerStake l g o0 x1 x2 e9) z10 g11 vk_TrapCorner_408 tw_1137 ⟨Nat.le_trans (by decide) hR.1, Nat.le_trans (by decide) hR.2⟩ ⟨Nat.zero_le _, Nat.zero_le _⟩ rfl hl.1 rfl (Nat.le_of_ble_eq_true rfl) dX11_isRest_41 (fun H locs I => ?_)
      refine lv_icmp_gt (tgt := 51) hx hb dX11_isRest_44 (by decide) (fun c12 => ?_) (fun c12 => ?_)
      · rw [if_pos c12] at hf
        refine lv_iconst (v := 0) hx hb dX11_isRest_51 (by decide) ?_
        cases hf
        exact k_rz X I hr (Or.inl rfl) dX11_isRest_52
      · rw [if_neg c12] at hf
        refine lv_iconst (v := 1) hx hb dX11_isRest_47 (by decide) ?_
        refine lv_goto (tgt := 52) hx hb dX11_isRest_48 (by decide) ?_
        cases hf
        exact k_rz X I hr (Or.inr rfl) dX11_isRest_52
    · rw [if_neg c1] at hf
      refine lv_aload_n hx hb dX11_isRest_7 rfl (lv_at hl 0 rfl) ?_
      refine lv_iload_n hx hb dX11_isRest_8 rfl (lv_at hl 3 rfl) ?_
      refine lv_iload_n hx hb dX11_isRest_9 rfl (lv_at hl 2 rfl) ?_
      obtain ⟨_, g17, hf⟩ := Option.bind_eq_some_iff.mp hf
      obtain ⟨v13, h14, e15, z16, hf⟩ := cN_spec hf
      refine k_Vi (As := [.int x3, .int x2]) (rest := []) X I (c_X11_baiterStake l g o0 x3 x2 e15) z16 g17 vk_TrapCorner_405 tw_1133 ⟨Nat.le_trans (by decide) hR.1, Nat.le_trans (by decide) hR.2⟩ ⟨Nat.zero_le _, Nat.zero_le _⟩ rfl hl.1 rfl (Nat.le_of_ble_eq_true rfl) dX11_isRest_10 (fun H locs I => ?_)
      refine lv_aload_n hx hb dX11_isRest_13 rfl (lv_at hl 0 rfl) ?_
      refine lv_iload_n hx hb dX11_isRest_14 rfl (lv_at hl 1 rfl) ?_
      refine lv_iload_n hx hb dX11_isRest_15 rfl (lv_at hl 2 rfl) ?_
      obtain ⟨_, g22, hf⟩ := Option.bind_eq_some_iff.mp hf
      obtain ⟨v18, h19, e20, z21, hf⟩ := cN_spec hf
      refine k_Vi (As := [.int x1, .int x2]) (rest := [.int v13]) X I (c_X11_baiterStake l g o0 x1 x2 e20) z21 g22 vk_TrapCorner_405 tw_1133 ⟨Nat.le_trans (by decide) hR.1, Nat.le_trans (by decide) hR.2⟩ ⟨Nat.zero_le _, Nat.zero_le _⟩ rfl hl.1 rfl (Nat.le_of_ble_eq_true rfl) dX11_isRest_16 (fun H locs I => ?_)
      refine lv_icmp_le (tgt := 24) hx hb dX11_isRest_19 (by decide) (fun c23 => ?_) (fun c23 => ?_)
      · rw [if_pos c23] at hf
        refine lv_iinc (v := x3 + 1) (lv' := [(3, .int (x3 + 1)), (0, .ref (rfG g o0)), (1, .int x1), (2, .int x2)]) hx hb dX11_isRest_24 hl (k := 3) rfl rfl (by decide) rfl (fun ls hl => ?_)
        refine lv_goto (tgt := 2) hx hb dX11_isRest_27 (by decide) ?_
        exact ih o0 x1 x2 (x3 + 1) h19 ls H locs hf I (lv_sub hl [1, 2, 3, 0] rfl)
      · rw [if_neg c23] at hf
        refine lv_iconst (v := 0) hx hb dX11_isRest_22 (by decide) ?_
        cases hf
        exact k_rz X I hr (Or.inl rfl) dX11_isRest_23
def f_X11_isRest_0  (o0 : Nat) (x1 : Int32) (x2 : Int32) (h : AH) : Option (Int32 × AH) :=
  f_X11_isRest_2 fu o0 x1 x2 0 h
set_option maxHeartbeats 1000000 in
theorem w_X11_isRest_0 (X : Cx g p s m args meth c cX11_isRest 4 "TrapCorner") (hR : 2 ≤ R.frames ∧ 128 ≤ R.locals) (hr : meth.sig.returnType = (some (.boolean))) {res : Int32 × AH} : ∀ (o0 : Nat) (x1 : Int32) (x2 : Int32) (h : AH) (ls : Array Slot) (H : Heap) (locs : List Loc), f_X11_isRest_0 o0 x1 x2 h = some res → Iv g s n0 z0 h H locs 0 0 → lv_has ls 4 [(0, .ref (rfG g o0)), (1, .int x1), (2, .int x2)] → W p l e R s m args below meth c H locs 0 0 (MQ below (QG g (some (.int res.1)) res.2) args s 0 0 (AG g)) (F0 m 0 ls []) := by
  have hx := X.1
  have hb := X.2.1
  intro o0 x1 x2 h ls H locs hf I hl
  unfold f_X11_isRest_0 at hf
  refine lv_iconst (v := 0) hx hb dX11_isRest_0 (by decide) ?_
  refine lv_istore_n (lv' := [(3, .int 0), (0, .ref (rfG g o0)), (1, .int x1), (2, .int x2)]) hx hb dX11_isRest_1 rfl hl (by decide) rfl (fun ls hl => ?_)
  exact w_X11_isRest_2 X hR hr fu o0 x1 x2 0 h ls H locs hf I (lv_sub hl [1, 2, 3, 0] rfl)
def f_X11_isRest (o0 : Nat) (x1 : Int32) (x2 : Int32) (h : AH) : Option (Int32 × AH) := f_X11_isRest_0 o0 x1 x2 h
end
theorem c_X11_isRest (l : Launch) (g : GG) (o0 : Nat) (x1 : Int32) (x2 : Int32) {h : AH} {res : Int32 × AH} (hf : f_X11_isRest o0 x1 x2 h = some res) : CM l g yX11_isRest cX11_isRest 4 (some (.boolean)) 2 128 0 0 [.ref (rfG g o0), .int x1, .int x2] h (some (.int res.1)) res.2 :=
  k_body (by decide) (Nat.le_of_ble_eq_true rfl) (fun p e s m below meth c R ls hR hr X I hl => w_X11_isRest_0 X ⟨Nat.le_of_eq hR.1.symm, Nat.le_of_eq hR.2.1.symm⟩ hr o0 x1 x2 h ls s.heap [] hf I (lv_sub hl [0, 1, 2] rfl))
/-! TrapCorner.busiest()I -/
theorem dX11_busiest_0 : decode cX11_busiest 0 = .ok (.iconst 0, 1) := by decide +kernel
theorem dX11_busiest_1 : decode cX11_busiest 1 = .ok (.istore_n 1, 1) := by decide +kernel
theorem dX11_busiest_2 : decode cX11_busiest 2 = .ok (.iconst (-1), 1) := by decide +kernel
theorem dX11_busiest_3 : decode cX11_busiest 3 = .ok (.istore_n 2, 1) := by decide +kernel
theorem dX11_busiest_4 : decode cX11_busiest 4 = .ok (.iconst 0, 1) := by decide +kernel
theorem dX11_busiest_5 : decode cX11_busiest 5 = .ok (.istore_n 3, 1) := by decide +kernel
theorem dX11_busiest_6 : decode cX11_busiest 6 = .ok (.iload_n 3, 1) := by decide +kernel
theorem dX11_busiest_7 : decode cX11_busiest 7 = .ok (.aload_n 0, 1) := by decide +kernel
theorem dX11_busiest_8 : decode cX11_busiest 8 = .ok (.getfield 42, 3) := by decide +kernel
theorem dX11_busiest_11 : decode cX11_busiest 11 = .ok (.getfield 253, 3) := by decide +kernel
theorem dX11_busiest_14 : decode cX11_busiest 14 = .ok (.if_icmp .ge 64, 3) := by decide +kernel
theorem dX11_busiest_17 : decode cX11_busiest 17 = .ok (.iconst 0, 1) := by decide +kernel
theorem dX11_busiest_18 : decode cX11_busiest 18 = .ok (.istore 4, 2) := by decide +kernel
theorem dX11_busiest_20 : decode cX11_busiest 20 = .ok (.iconst 0, 1) := by decide +kernel
theorem dX11_busiest_21 : decode cX11_busiest 21 = .ok (.istore 5, 2) := by decide +kernel
theorem dX11_busiest_23 : decode cX11_busiest 23 = .ok (.iload 5, 2) := by decide +kernel
theorem dX11_busiest_25 : decode cX11_busiest 25 = .ok (.aload_n 0, 1) := by decide +kernel
theorem dX11_busiest_26 : decode cX11_busiest 26 = .ok (.getfield 42, 3) := by decide +kernel
theorem dX11_busiest_29 : decode cX11_busiest 29 = .ok (.getfield 156, 3) := by decide +kernel
theorem dX11_busiest_32 : decode cX11_busiest 32 = .ok (.if_icmp .ge 29, 3) := by decide +kernel
theorem dX11_busiest_35 : decode cX11_busiest 35 = .ok (.iload 4, 2) := by decide +kernel
theorem dX11_busiest_37 : decode cX11_busiest 37 = .ok (.aload_n 0, 1) := by decide +kernel
theorem dX11_busiest_38 : decode cX11_busiest 38 = .ok (.iload 5, 2) := by decide +kernel
theorem dX11_busiest_40 : decode cX11_busiest 40 = .ok (.iload_n 3, 1) := by decide +kernel
theorem dX11_busiest_41 : decode cX11_busiest 41 = .ok (.invokevirtual 396, 3) := by decide +kernel
theorem dX11_busiest_44 : decode cX11_busiest 44 = .ok (.ifCond .eq 7, 3) := by decide +kernel
theorem dX11_busiest_47 : decode cX11_busiest 47 = .ok (.iconst 1, 1) := by decide +kernel
theorem dX11_busiest_48 : decode cX11_busiest 48 = .ok (.goto 4, 3) := by decide +kernel
theorem dX11_busiest_51 : decode cX11_busiest 51 = .ok (.iconst 0, 1) := by decide +kernel
theorem dX11_busiest_52 : decode cX11_busiest 52 = .ok (.iadd, 1) := by decide +kernel
theorem dX11_busiest_53 : decode cX11_busiest 53 = .ok (.istore 4, 2) := by decide +kernel
theorem dX11_busiest_55 : decode cX11_busiest 55 = .ok (.iinc 5 1, 3) := by decide +kernel
theorem dX11_busiest_58 : decode cX11_busiest 58 = .ok (.goto (-35), 3) := by decide +kernel
theorem dX11_busiest_61 : decode cX11_busiest 61 = .ok (.iload 4, 2) := by decide +kernel
theorem dX11_busiest_63 : decode cX11_busiest 63 = .ok (.iload_n 2, 1) := by decide +kernel
theorem dX11_busiest_64 : decode cX11_busiest 64 = .ok (.if_icmp .le 8, 3) := by decide +kernel
theorem dX11_busiest_67 : decode cX11_busiest 67 = .ok (.iload 4, 2) := by decide +kernel
theorem dX11_busiest_69 : decode cX11_busiest 69 = .ok (.istore_n 2, 1) := by decide +kernel
theorem dX11_busiest_70 : decode cX11_busiest 70 = .ok (.iload_n 3, 1) := by decide +kernel
theorem dX11_busiest_71 : decode cX11_busiest 71 = .ok (.istore_n 1, 1) := by decide +kernel
theorem dX11_busiest_72 : decode cX11_busiest 72 = .ok (.iinc 3 1, 3) := by decide +kernel
theorem dX11_busiest_75 : decode cX11_busiest 75 = .ok (.goto (-69), 3) := by decide +kernel
theorem dX11_busiest_78 : decode cX11_busiest 78 = .ok (.iload_n 1, 1) := by decide +kernel
theorem dX11_busiest_79 : decode cX11_busiest 79 = .ok (.ireturn, 1) := by decide +kernel
theorem vk_TrapCorner_396 : VK "TrapCorner" 396 [11] yX11_walksBy 2 := ⟨tw_1108, tw_1110, tw_1, ⟨by decide, by decide⟩, by decide +kernel, fun ci hci => by
  have hci := List.mem_singleton.mp hci
  subst hci
  exact ⟨_, rfl, tp_40⟩⟩
section
variable {g : GG} {p : Program} {l : Launch} {e : Env} {R : Room} {s : State} {m : MethodId} {args : Array Value} {below : List Frame} {meth : Method} {c : Code} {n0 z0 : Nat}
def f_X11_busiest_52 (k6 : Nat → Int32 → Int32 → Int32 → AH → Option (Int32 × AH)) (k23 : Nat → Int32 → Int32 → Int32 → Int32 → Int32 → AH → Option (Int32 × AH)) (o0 : Nat) (x1 : Int32) (x2 : Int32) (x3 : Int32) (x5 : Int32) (s0 : Int32) (s1 : Int32) (h : AH) : Option (Int32 × AH) :=
  k23 o0 x1 x2 x3 (s0 + s1) (x5 + 1) h
set_option maxHeartbeats 1000000 in
theorem w_X11_busiest_52 (X : Cx g p s m args meth c cX11_busiest 6 "TrapCorner") (hR : 4 ≤ R.frames ∧ 256 ≤ R.locals) (hr : meth.sig.returnType = (some (.int))) {res : Int32 × AH} {k6 : Nat → Int32 → Int32 → Int32 → AH → Option (Int32 × AH)} (hk6 : ∀ (o0 : Nat) (x1 : Int32) (x2 : Int32) (x3 : Int32) (h : AH) (ls : Array Slot) (H : Heap) (locs : List Loc), k6 o0 x1 x2 x3 h = some res → Iv g s n0 z0 h H locs 0 0 → lv_has ls 6 [(0, .ref (rfG g o0)), (1, .int x1), (2, .int x2), (3, .int x3)] → W p l e R s m args below meth c H locs 0 0 (MQ below (QG g (some (.int res.1)) res.2) args s 0 0 (AG g)) (F0 m 6 ls [])) {k23 : Nat → Int32 → Int32 → Int32 → Int32 → Int32 → AH → Option (Int32 × AH)} (hk23 : ∀ (o0 : Nat) (x1 : Int32) (x2 : Int32) (x3 : Int32) (x4 : Int32) (x5 : Int32) (h : AH) (ls : Array Slot) (H : Heap) (locs : List Loc), k23 o0 x1 x2 x3 x4 x5 h = some res → Iv g s n0 z0 h H locs 0 0 → lv_has ls 6 [(0, .ref (rfG g o0)), (1, .int x1), (2, .int x2), (3, .int x3), (4, .int x4), (5, .int x5)] → W p l e R s m args below meth c H locs 0 0 (MQ below (QG g (some (.int res.1)) res.2) args s 0 0 (AG g)) (F0 m 23 ls [])) : ∀ (o0 : Nat) (x1 : Int32) (x2 : Int32) (x3 : Int32) (x5 : Int32) (s0 : Int32) (s1 : Int32) (h : AH) (ls : Array Slot) (H : Heap) (locs : List Loc), f_X11_busiest_52 k6 k23 o0 x1 x2 x3 x5 s0 s1 h = some res → Iv g s n0 z0 h H locs 0 0 → lv_has ls 6 [(0, .ref (rfG g o0)), (1, .int x1), (2, .int x2), (3, .int x3), (5, .int x5)] → W p l e R s m args below meth c H locs 0 0 (MQ below (QG g (some (.int res.1)) res.2) args s 0 0 (AG g)) (F0 m 52 ls [.int s1, .int s0]) := by
  have hx := X.1
  have hb := X.2.1
  intro o0 x1 x2 x3 x5 s0 s1 h ls H locs hf I hl
  unfold f_X11_busiest_52 at hf
  refine lv_iadd hx hb dX11_busiest_52 ?_
  refine lv_istore (lv' := [(4, .int (s0 + s1)), (0, .ref (rfG g o0)), (1, .int x1), (2, .int x2), (3, .int x3), (5, .int x5)]) hx hb dX11_busiest_53 hl (by decide) rfl (fun ls hl => ?_)
  refine lv_iinc (v := x5 + 1) (lv' := [(5, .int (x5 + 1)), (4, .int (s0 + s1)), (0, .ref (rfG g o0)), (1, .int x1), (2, .int x2), (3, .int x3)]) hx hb dX11_busiest_55 hl (k := 5) rfl rfl (by decide) rfl (fun ls hl => ?_)
  refine lv_goto (tgt := 23) hx hb dX11_busiest_58 (by decide) ?_
  exact hk23 o0 x1 x2 x3 (s0 + s1) (x5 + 1) h ls H locs hf I (lv_sub hl [2, 3, 4, 5, 1, 0] rfl)
def f_X11_busiest_72 (k6 : Nat → Int32 → Int32 → Int32 → AH → Option (Int32 × AH)) (o0 : Nat) (x1 : Int32) (x2 : Int32) (x3 : Int32) (h : AH) : Option (Int32 × AH) :=
  k6 o0 x1 x2 (x3 + 1) h
set_option maxHeartbeats 1000000 in
theorem w_X11_busiest_72 (X : Cx g p s m args meth c cX11_busiest 6 "TrapCorner") (hR : 4 ≤ R.frames ∧ 256 ≤ R.locals) (hr : meth.sig.returnType = (some (.int))) {res : Int32 × AH} {k6 : Nat → Int32 → Int32 → Int32 → AH → Option (Int32 × AH)} (hk6 : ∀ (o0 : Nat) (x1 : Int32) (x2 : Int32) (x3 : Int32) (h : AH) (ls : Array Slot) (H : Heap) (locs : List Loc), k6 o0 x1 x2 x3 h = some res → Iv g s n0 z0 h H locs 0 0 → lv_has ls 6 [(0, .ref (rfG g o0)), (1, .int x1), (2, .int x2), (3, .int x3)] → W p l e R s m args below meth c H locs 0 0 (MQ below (QG g (some (.int res.1)) res.2) args s 0 0 (AG g)) (F0 m 6 ls [])) : ∀ (o0 : Nat) (x1 : Int32) (x2 : Int32) (x3 : Int32) (h : AH) (ls : Array Slot) (H : Heap) (locs : List Loc), f_X11_busiest_72 k6 o0 x1 x2 x3 h = some res → Iv g s n0 z0 h H locs 0 0 → lv_has ls 6 [(0, .ref (rfG g o0)), (1, .int x1), (2, .int x2), (3, .int x3)] → W p l e R s m args below meth c H locs 0 0 (MQ below (QG g (some (.int res.1)) res.2) args s 0 0 (AG g)) (F0 m 72 ls []) := by
  have hx := X.1
  have hb := X.2.1
  intro o0 x1 x2 x3 h ls H locs hf I hl
  unfold f_X11_busiest_72 at hf
  refine lv_iinc (v := x3 + 1) (lv' := [(3, .int (x3 + 1)), (0, .ref (rfG g o0)), (1, .int x1), (2, .int x2)]) hx hb dX11_busiest_72 hl (k := 3) rfl rfl (by decide) rfl (fun ls hl => ?_)
  refine lv_goto (tgt := 6) hx hb dX11_busiest_75 (by decide) ?_
  exact hk6 o0 x1 x2 (x3 + 1) h ls H locs hf I (lv_sub hl [1, 2, 3, 0] rfl)
def f_X11_busiest_23 (k6 : Nat → Int32 → Int32 → Int32 → AH → Option (Int32 × AH)) : Nat → Nat → Int32 → Int32 → Int32 → Int32 → Int32 → AH → Option (Int32 × AH)
  | 0, _, _, _, _, _, _, _ => none
  | n + 1, o0, x1, x2, x3, x4, x5, h =>
  (gR [11] h o0 4).bind fun v1 =>
  (gI [10] h v1 1).bind fun v3 =>
  if v3 ≤ x5 then
    if x4 ≤ x2 then
      f_X11_busiest_72 k6 o0 x1 x2 x3 h
    else
      f_X11_busiest_72 k6 o0 x3 x4 x3 h
  else
    (isC [11] h o0).bind fun _ =>
    cN (f_X11_walksBy o0 x5 x3 h) h fun v7 h8 =>
    if v7 = 0 then
      f_X11_busiest_52 k6 (f_X11_busiest_23 k6 n) o0 x1 x2 x3 x5 x4 0 h8
    else
      f_X11_busiest_52 k6 (f_X11_busiest_23 k6 n) o0 x1 x2 x3 x5 x4 1 h8
set_option maxHeartbeats 1000000 in
theorem w_X11_busiest_23 (X : Cx g p s m args meth c cX11_busiest 6 "TrapCorner") (hR : 4 ≤ R.frames ∧ 256 ≤ R.locals) (hr : meth.sig.returnType = (some (.int))) {res : Int32 × AH} {k6 : Nat → Int32 → Int32 → Int32 → AH → Option (Int32 × AH)} (hk6 : ∀ (o0 : Nat) (x1 : Int32) (x2 : Int32) (x3 : Int32) (h : AH) (ls : Array Slot) (H : Heap) (locs : List Loc), k6 o0 x1 x2 x3 h = some res → Iv g s n0 z0 h H locs 0 0 → lv_has ls 6 [(0, .ref (rfG g o0)), (1, .int x1), (2, .int x2), (3, .int x3)] → W p l e R s m args below meth c H locs 0 0 (MQ below (QG g (some (.int res.1)) res.2) args s 0 0 (AG g)) (F0 m 6 ls [])) : ∀ (n : Nat) (o0 : Nat) (x1 : Int32) (x2 : Int32) (x3 : Int32) (x4 : Int32) (x5 : Int32) (h : AH) (ls : Array Slot) (H : Heap) (locs : List Loc), f_X11_busiest_23 k6 n o0 x1 x2 x3 x4 x5 h = some res → Iv g s n0 z0 h H locs 0 0 → lv_has ls 6 [(0, .ref (rfG g o0)), (1, .int x1), (2, .int x2), (3, .int x3), (4, .int x4), (5, .int x5)] → W p l e R s m args below meth c H locs 0 0 (MQ below (QG g (some (.int res.1)) res.2) args s 0 0 (AG g)) (F0 m 23 ls []) := by
  have hx := X.1
  have hb := X.2.1
  intro n
  induction n with
  | zero =>
    intro o0 x1 x2 x3 x4 x5 h ls H locs hf
    rw [f_X11_busiest_23.eq_1] at hf
    cases hf
  | succ n ih =>
    intro o0 x1 x2 x3 x4 x5 h ls H locs hf I hl
    rw [f_X11_busiest_23.eq_2] at hf
    refine lv_iload hx hb dX11_busiest_23 (lv_at hl 5 rfl) ?_
    refine lv_aload_n hx hb dX11_busiest_25 rfl (lv_at hl 0 rfl) ?_
    obtain ⟨v1, e2, hf⟩ := Option.bind_eq_some_iff.mp hf
    refine r_gR X I e2 lk_TrapCorner_42 dX11_busiest_26 ?_
    obtain ⟨v3, e4, hf⟩ := Option.bind_eq_some_iff.mp hf
    refine r_gI X I e4 lk_TrapCorner_156 dX11_busiest_29 ?_
    refine lv_icmp_ge (tgt := 61) hx hb dX11_busiest_32 (by decide) (fun c5 => ?_) (fun c5 => ?_)
    · rw [if_pos c5] at hf
      refine lv_iload hx hb dX11_busiest_61 (lv_at hl 4 rfl) ?_
      refine lv_iload_n hx hb dX11_busiest_63 rfl (lv_at hl 2 rfl) ?_
      refine lv_icmp_le (tgt := 72) hx hb dX11_busiest_64 (by decide) (fun c6 => ?_) (fun c6 => ?_)
      · rw [if_pos c6] at hf
        exact w_X11_busiest_72 X hR hr hk6 o0 x1 x2 x3 h ls H locs hf I (lv_sub hl [0, 1, 2, 3] rfl)
      · rw [if_neg c6] at hf
        refine lv_iload hx hb dX11_busiest_67 (lv_at hl 4 rfl) ?_
        refine lv_istore_n (lv' := [(2, .int x4), (0, .ref (rfG g o0)), (1, .int x1), (3, .int x3), (4, .int x4), (5, .int x5)]) hx hb dX11_busiest_69 rfl hl (by decide) rfl (fun ls hl => ?_)
        refine lv_iload_n hx hb dX11_busiest_70 rfl (lv_at hl 3 rfl) ?_
        refine lv_istore_n (lv' := [(1, .int x3), (2, .int x4), (0, .ref (rfG g o0)), (3, .int x3), (4, .int x4), (5, .int x5)]) hx hb dX11_busiest_71 rfl hl (by decide) rfl (fun ls hl => ?_)
        exact w_X11_busiest_72 X hR hr hk6 o0 x3 x4 x3 h ls H locs hf I (lv_sub hl [2, 0, 1, 3] rfl)
    · rw [if_neg c5] at hf
      refine lv_iload hx hb dX11_busiest_35 (lv_at hl 4 rfl) ?_
      refine lv_aload_n hx hb dX11_busiest_37 rfl (lv_at hl 0 rfl) ?_
      refine lv_iload hx hb dX11_busiest_38 (lv_at hl 5 rfl) ?_
      refine lv_iload_n hx hb dX11_busiest_40 rfl (lv_at hl 3 rfl) ?_
      obtain ⟨_, g11, hf⟩ := Option.bind_eq_some_iff.mp hf
      obtain ⟨v7, h8, e9, z10, hf⟩ := cN_spec hf
      refine k_Vi (As := [.int x5, .int x3]) (rest := [.int x4]) X I (c_X11_walksBy l g o0 x5 x3 e9) z10 g11 vk_TrapCorner_396 tw_1111 ⟨Nat.le_trans (by decide) hR.1, Nat.le_trans (by decide) hR.2⟩ ⟨Nat.zero_le _, Nat.zero_le _⟩ rfl hl.1 rfl (Nat.le_of_ble_eq_true rfl) dX11_busiest_41 (fun H locs I => ?_)
      refine lv_if_eq (tgt := 51) hx hb dX11_busiest_44 (by decide) (fun c12 => ?_) (fun c12 => ?_)
      · rw [if_pos c12] at hf
        refine lv_iconst (v := 0) hx hb dX11_busiest_51 (by decide) ?_
        exact w_X11_busiest_52 X hR hr hk6 ih o0 x1 x2 x3 x5 x4 0 h8 ls H locs hf I (lv_sub hl [0, 1, 2, 3, 5] rfl)
      · rw [if_neg c12] at hf
        refine lv_iconst (v := 1) hx hb dX11_busiest_47 (by decide) ?_
        refine lv_goto (tgt := 52) hx hb dX11_busiest_48 (by decide) ?_
        exact w_X11_busiest_52 X hR hr hk6 ih o0 x1 x2 x3 x5 x4 1 h8 ls H locs hf I (lv_sub hl [0, 1, 2, 3, 5] rfl)
def f_X11_busiest_6  : Nat → Nat → Int32 → Int32 → Int32 → AH → Option (Int32 × AH)
  | 0, _, _, _, _, _ => none
  | n + 1, o0, x1, x2, x3, h =>
  (gR [11] h o0 4).bind fun v1 =>
  (gI [10] h v1 0).bind fun v3 =>
  if v3 ≤ x3 then
    some (x1, h)
  else
    f_X11_busiest_23 (f_X11_busiest_6 n) fu o0 x1 x2 x3 0 0 h
set_option maxHeartbeats 1000000 in
theorem w_X11_busiest_6 (X : Cx g p s m args meth c cX11_busiest 6 "TrapCorner") (hR : 4 ≤ R.frames ∧ 256 ≤ R.locals) (hr : meth.sig.returnType = (some (.int))) {res : Int32 × AH} : ∀ (n : Nat) (o0 : Nat) (x1 : Int32) (x2 : Int32) (x3 : Int32) (h : AH) (ls : Array Slot) (H : Heap) (locs : List Loc), f_X11_busiest_6 n o0 x1 x2 x3 h = some res → Iv g s n0 z0 h H locs 0 0 → lv_has ls 6 [(0, .ref (rfG g o0)), (1, .int x1), (2, .int x2), (3, .int x3)] → W p l e R s m args below meth c H locs 0 0 (MQ below (QG g (some (.int res.1)) res.2) args s 0 0 (AG g)) (F0 m 6 ls []) := by
  have hx := X.1
  have hb := X.2.1
  intro n
  induction n with
  | zero =>
    intro o0 x1 x2 x3 h ls H locs hf
    rw [f_X11_busiest_6.eq_1] at hf
    cases hf
  | succ n ih =>
    intro o0 x1 x2 x3 h ls H locs hf I hl
    rw [f_X11_busiest_6.eq_2] at hf
    refine lv_iload_n hx hb dX11_busiest_6 rfl (lv_at hl 3 rfl) ?_
    refine lv_aload_n hx hb dX11_busiest_7 rfl (lv_at hl 0 rfl) ?_
    obtain ⟨v1, e2, hf⟩ := Option.bind_eq_some_iff.mp hf
    refine r_gR X I e2 lk_TrapCorner_42 dX11_busiest_8 ?_
    obtain ⟨v3, e4, hf⟩ := Option.bind_eq_some_iff.mp hf
    refine r_gI X I e4 lk_TrapCorner_253 dX11_busiest_11 ?_
    refine lv_icmp_ge (tgt := 78) hx hb dX11_busiest_14 (by decide) (fun c5 => ?_) (fun c5 => ?_)
    · rw [if_pos c5] at hf
      refine lv_iload_n hx hb dX11_busiest_78 rfl (lv_at hl 1 rfl) ?_
      cases hf
      exact k_ri X I hr dX11_busiest_79
    · rw [if_neg c5] at hf
      refine lv_iconst (v := 0) hx hb dX11_busiest_17 (by decide) ?_
      refine lv_istore (lv' := [(4, .int 0), (0, .ref (rfG g o0)), (1, .int x1), (2, .int x2), (3, .int x3)]) hx hb dX11_busiest_18 hl (by decide) rfl (fun ls hl => ?_)
      refine lv_iconst (v := 0) hx hb dX11_busiest_20 (by decide) ?_
      refine lv_istore (lv' := [(5, .int 0), (4, .int 0), (0, .ref (rfG g o0)), (1, .int x1), (2, .int x2), (3, .int x3)]) hx hb dX11_busiest_21 hl (by decide) rfl (fun ls hl => ?_)
      exact w_X11_busiest_23 X hR hr ih fu o0 x1 x2 x3 0 0 h ls H locs hf I (lv_sub hl [2, 3, 4, 5, 1, 0] rfl)
def f_X11_busiest_0  (o0 : Nat) (h : AH) : Option (Int32 × AH) :=
  f_X11_busiest_6 fu o0 0 ((-1)) 0 h
set_option maxHeartbeats 1000000 in
theorem w_X11_busiest_0 (X : Cx g p s m args meth c cX11_busiest 6 "TrapCorner") (hR : 4 ≤ R.frames ∧ 256 ≤ R.locals) (hr : meth.sig.returnType = (some (.int))) {res : Int32 × AH} : ∀ (o0 : Nat) (h : AH) (ls : Array Slot) (H : Heap) (locs : List Loc), f_X11_busiest_0 o0 h = some res → Iv g s n0 z0 h H locs 0 0 → lv_has ls 6 [(0, .ref (rfG g o0))] → W p l e R s m args below meth c H locs 0 0 (MQ below (QG g (some (.int res.1)) res.2) args s 0 0 (AG g)) (F0 m 0 ls []) := by
  have hx := X.1
  have hb := X.2.1
  intro o0 h ls H locs hf I hl
  unfold f_X11_busiest_0 at hf
  refine lv_iconst (v := 0) hx hb dX11_busiest_0 (by decide) ?_
  refine lv_istore_n (lv' := [(1, .int 0), (0, .ref (rfG g o0))]) hx hb dX11_busiest_1 rfl hl (by decide) rfl (fun ls hl => ?_)
  refine lv_iconst (v := (-1)) hx hb dX11_busiest_2 (by decide) ?_
  refine lv_istore_n (lv' := [(2, .int ((-1))), (1, .int 0), (0, .ref (rfG g o0))]) hx hb dX11_busiest_3 rfl hl (by decide) rfl (fun ls hl => ?_)
  refine lv_iconst (v := 0) hx hb dX11_busiest_4 (by decide) ?_
  refine lv_istore_n (lv' := [(3, .int 0), (2, .int ((-1))), (1, .int 0), (0, .ref (rfG g o0))]) hx hb dX11_busiest_5 rfl hl (by decide) rfl (fun ls hl => ?_)
  exact w_X11_busiest_6 X hR hr fu o0 0 ((-1)) 0 h ls H locs hf I (lv_sub hl [3, 2, 1, 0] rfl)
def f_X11_busiest (o0 : Nat) (h : AH) : Option (Int32 × AH) := f_X11_busiest_0 o0 h
end
theorem c_X11_busiest (l : Launch) (g : GG) (o0 : Nat) {h : AH} {res : Int32 × AH} (hf : f_X11_busiest o0 h = some res) : CM l g yX11_busiest cX11_busiest 6 (some (.int)) 4 256 0 0 [.ref (rfG g o0)] h (some (.int res.1)) res.2 :=
  k_body (by decide) (Nat.le_of_ble_eq_true rfl) (fun p e s m below meth c R ls hR hr X I hl => w_X11_busiest_0 X ⟨Nat.le_of_eq hR.1.symm, Nat.le_of_eq hR.2.1.symm⟩ hr o0 h ls s.heap [] hf I (lv_sub hl [0] rfl))
/-! TrapCorner.firstHighest([II)I -/
theorem dX11_firstHighest_0 : decode cX11_firstHighest 0 = .ok (.iconst 0, 1) := by decide +kernel
theorem dX11_firstHighest_1 : decode cX11_firstHighest 1 = .ok (.istore_n 2, 1) := by decide +kernel
theorem dX11_firstHighest_2 : decode cX11_firstHighest 2 = .ok (.iconst 1, 1) := by decide +kernel
theorem dX11_firstHighest_3 : decode cX11_firstHighest 3 = .ok (.istore_n 3, 1) := by decide +kernel
theorem dX11_firstHighest_4 : decode cX11_firstHighest 4 = .ok (.iload_n 3, 1) := by decide +kernel
theorem dX11_firstHighest_5 : decode cX11_firstHighest 5 = .ok (.iload_n 1, 1) := by decide +kernel
theorem dX11_firstHighest_6 : decode cX11_firstHighest 6 = .ok (.if_icmp .ge 26, 3) := by decide +kernel
theorem dX11_firstHighest_9 : decode cX11_firstHighest 9 = .ok (.iload_n 3, 1) := by decide +kernel
theorem dX11_firstHighest_10 : decode cX11_firstHighest 10 = .ok (.aload_n 0, 1) := by decide +kernel
theorem dX11_firstHighest_11 : decode cX11_firstHighest 11 = .ok (.arraylength, 1) := by decide +kernel
theorem dX11_firstHighest_12 : decode cX11_firstHighest 12 = .ok (.if_icmp .ge 20, 3) := by decide +kernel
theorem dX11_firstHighest_15 : decode cX11_firstHighest 15 = .ok (.aload_n 0, 1) := by decide +kernel
theorem dX11_firstHighest_16 : decode cX11_firstHighest 16 = .ok (.iload_n 3, 1) := by decide +kernel
theorem dX11_firstHighest_17 : decode cX11_firstHighest 17 = .ok (.iaload, 1) := by decide +kernel
theorem dX11_firstHighest_18 : decode cX11_firstHighest 18 = .ok (.aload_n 0, 1) := by decide +kernel
theorem dX11_firstHighest_19 : decode cX11_firstHighest 19 = .ok (.iload_n 2, 1) := by decide +kernel
theorem dX11_firstHighest_20 : decode cX11_firstHighest 20 = .ok (.iaload, 1) := by decide +kernel
theorem dX11_firstHighest_21 : decode cX11_firstHighest 21 = .ok (.if_icmp .le 5, 3) := by decide +kernel
theorem dX11_firstHighest_24 : decode cX11_firstHighest 24 = .ok (.iload_n 3, 1) := by decide +kernel
theorem dX11_firstHighest_25 : decode cX11_firstHighest 25 = .ok (.istore_n 2, 1) := by decide +kernel
theorem dX11_firstHighest_26 : decode cX11_firstHighest 26 = .ok (.iinc 3 1, 3) := by decide +kernel
theorem dX11_firstHighest_29 : decode cX11_firstHighest 29 = .ok (.goto (-25), 3) := by decide +kernel
theorem dX11_firstHighest_32 : decode cX11_firstHighest 32 = .ok (.iload_n 2, 1) := by decide +kernel
theorem dX11_firstHighest_33 : decode cX11_firstHighest 33 = .ok (.ireturn, 1) := by decide +kernel
section
variable {g : GG} {p : Program} {l : Launch} {e : Env} {R : Room} {s : State} {m : MethodId} {args : Array Value} {below : List Frame} {meth : Method} {c : Code} {n0 z0 : Nat}
def f_X11_firstHighest_26 (k4 : Nat → Int32 → Int32 → Int32 → AH → Option (Int32 × AH)) (o0 : Nat) (x1 : Int32) (x2 : Int32) (x3 : Int32) (h : AH) : Option (Int32 × AH) :=
  k4 o0 x1 x2 (x3 + 1) h
set_option maxHeartbeats 1000000 in
theorem w_X11_firstHighest_26 (X : Cx g p s m args meth c cX11_firstHighest 4 "TrapCorner") (hR : 1 ≤ R.frames ∧ 64 ≤ R.locals) (hr : meth.sig.returnType = (some (.int))) {res : Int32 × AH} {k4 : Nat → Int32 → Int32 → Int32 → AH → Option (Int32 × AH)} (hk4 : ∀ (o0 : Nat) (x1 : Int32) (x2 : Int32) (x3 : Int32) (h : AH) (ls : Array Slot) (H : Heap) (locs : List Loc), k4 o0 x1 x2 x3 h = some res → Iv g s n0 z0 h H locs 0 0 → lv_has ls 4 [(0, .ref (rfG g o0)), (1, .int x1), (2, .int x2), (3, .int x3)] → W p l e R s m args below meth c H locs 0 0 (MQ below (QG g (some (.int res.1)) res.2) args s 0 0 (AG g)) (F0 m 4 ls [])) : ∀ (o0 : Nat) (x1 : Int32) (x2 : Int32) (x3 : Int32) (h : AH) (ls : Array Slot) (H : Heap) (locs : List Loc), f_X11_firstHighest_26 k4 o0 x1 x2 x3 h = some res → Iv g s n0 z0 h H locs 0 0 → lv_has ls 4 [(0, .ref (rfG g o0)), (1, .int x1), (2, .int x2), (3, .int x3)] → W p l e R s m args below meth c H locs 0 0 (MQ below (QG g (some (.int res.1)) res.2) args s 0 0 (AG g)) (F0 m 26 ls []) := by
  have hx := X.1
  have hb := X.2.1
  intro o0 x1 x2 x3 h ls H locs hf I hl
  unfold f_X11_firstHighest_26 at hf
  refine lv_iinc (v := x3 + 1) (lv' := [(3, .int (x3 + 1)), (0, .ref (rfG g o0)), (1, .int x1), (2, .int x2)]) hx hb dX11_firstHighest_26 hl (k := 3) rfl rfl (by decide) rfl (fun ls hl => ?_)
  refine lv_goto (tgt := 4) hx hb dX11_firstHighest_29 (by decide) ?_
  exact hk4 o0 x1 x2 (x3 + 1) h ls H locs hf I (lv_sub hl [1, 2, 3, 0] rfl)
def f_X11_firstHighest_4  : Nat → Nat → Int32 → Int32 → Int32 → AH → Option (Int32 × AH)
  | 0, _, _, _, _, _ => none
  | n + 1, o0, x1, x2, x3, h =>
  if x1 ≤ x3 then
    some (x2, h)
  else
    (aLen h o0).bind fun v2 =>
    if v2 ≤ x3 then
      some (x2, h)
    else
      (aI 0 h o0 x3).bind fun v5 =>
      (aI 0 h o0 x2).bind fun v7 =>
      if v5 ≤ v7 then
        f_X11_firstHighest_26 (f_X11_firstHighest_4 n) o0 x1 x2 x3 h
      else
        f_X11_firstHighest_26 (f_X11_firstHighest_4 n) o0 x1 x3 x3 h
set_option maxHeartbeats 1000000 in
theorem w_X11_firstHighest_4 (X : Cx g p s m args meth c cX11_firstHighest 4 "TrapCorner") (hR : 1 ≤ R.frames ∧ 64 ≤ R.locals) (hr : meth.sig.returnType = (some (.int))) {res : Int32 × AH} : ∀ (n : Nat) (o0 : Nat) (x1 : Int32) (x2 : Int32) (x3 : Int32) (h : AH) (ls : Array Slot) (H : Heap) (locs : List Loc), f_X11_firstHighest_4 n o0 x1 x2 x3 h = some res → Iv g s n0 z0 h H locs 0 0 → lv_has ls 4 [(0, .ref (rfG g o0)), (1, .int x1), (2, .int x2), (3, .int x3)] → W p l e R s m args below meth c H locs 0 0 (MQ below (QG g (some (.int res.1)) res.2) args s 0 0 (AG g)) (F0 m 4 ls []) := by
  have hx := X.1
  have hb := X.2.1
  intro n
  induction n with
  | zero =>
    intro o0 x1 x2 x3 h ls H locs hf
    rw [f_X11_firstHighest_4.eq_1] at hf
    cases hf
  | succ n ih =>
    intro o0 x1 x2 x3 h ls H locs hf I hl
    rw [f_X11_firstHighest_4.eq_2] at hf
    refine lv_iload_n hx hb dX11_firstHighest_4 rfl (lv_at hl 3 rfl) ?_
    refine lv_iload_n hx hb dX11_firstHighest_5 rfl (lv_at hl 1 rfl) ?_
    refine lv_icmp_ge (tgt := 32) hx hb dX11_firstHighest_6 (by decide) (fun c1 => ?_) (fun c1 => ?_)
    · rw [if_pos c1] at hf
      refine lv_iload_n hx hb dX11_firstHighest_32 rfl (lv_at hl 2 rfl) ?_
      cases hf
      exact k_ri X I hr dX11_firstHighest_33
    · rw [if_neg c1] at hf
      refine lv_iload_n hx hb dX11_firstHighest_9 rfl (lv_at hl 3 rfl) ?_
      refine lv_aload_n hx hb dX11_firstHighest_10 rfl (lv_at hl 0 rfl) ?_
      obtain ⟨v2, e3, hf⟩ := Option.bind_eq_some_iff.mp hf
      refine r_len X I e3 dX11_firstHighest_11 ?_
      refine lv_icmp_ge (tgt := 32) hx hb dX11_firstHighest_12 (by decide) (fun c4 => ?_) (fun c4 => ?_)
      · rw [if_pos c4] at hf
        refine lv_iload_n hx hb dX11_firstHighest_32 rfl (lv_at hl 2 rfl) ?_
        cases hf
        exact k_ri X I hr dX11_firstHighest_33
      · rw [if_neg c4] at hf
        refine lv_aload_n hx hb dX11_firstHighest_15 rfl (lv_at hl 0 rfl) ?_
        refine lv_iload_n hx hb dX11_firstHighest_16 rfl (lv_at hl 3 rfl) ?_
        obtain ⟨v5, e6, hf⟩ := Option.bind_eq_some_iff.mp hf
        refine r_aI0 X I e6 dX11_firstHighest_17 ?_
        refine lv_aload_n hx hb dX11_firstHighest_18 rfl (lv_at hl 0 rfl) ?_
        refine lv_iload_n hx hb dX11_firstHighest_19 rfl (lv_at hl 2 rfl) ?_
        obtain ⟨v7, e8, hf⟩ := Option.bind_eq_some_iff.mp hf
        refine r_aI0 X I e8 dX11_firstHighest_20 ?_
        refine lv_icmp_le (tgt := 26) hx hb dX11_firstHighest_21 (by decide) (fun c9 => ?_) (fun c9 => ?_)
        · rw [if_pos c9] at hf
          exact w_X11_firstHighest_26 X hR hr ih o0 x1 x2 x3 h ls H locs hf I (lv_sub hl [0, 1, 2, 3] rfl)
        · rw [if_neg c9] at hf
          refine lv_iload_n hx hb dX11_firstHighest_24 rfl (lv_at hl 3 rfl) ?_
          refine lv_istore_n (lv' := [(2, .int x3), (0, .ref (rfG g o0)), (1, .int x1), (3, .int x3)]) hx hb dX11_firstHighest_25 rfl hl (by decide) rfl (fun ls hl => ?_)
          exact w_X11_firstHighest_26 X hR hr ih o0 x1 x3 x3 h ls H locs hf I (lv_sub hl [1, 2, 0, 3] rfl)
def f_X11_firstHighest_0  (o0 : Nat) (x1 : Int32) (h : AH) : Option (Int32 × AH) :=
  f_X11_firstHighest_4 fu o0 x1 0 1 h
set_option maxHeartbeats 1000000 in
theorem w_X11_firstHighest_0 (X : Cx g p s m args meth c cX11_firstHighest 4 "TrapCorner") (hR : 1 ≤ R.frames ∧ 64 ≤ R.locals) (hr : meth.sig.returnType = (some (.int))) {res : Int32 × AH} : ∀ (o0 : Nat) (x1 : Int32) (h : AH) (ls : Array Slot) (H : Heap) (locs : List Loc), f_X11_firstHighest_0 o0 x1 h = some res → Iv g s n0 z0 h H locs 0 0 → lv_has ls 4 [(0, .ref (rfG g o0)), (1, .int x1)] → W p l e R s m args below meth c H locs 0 0 (MQ below (QG g (some (.int res.1)) res.2) args s 0 0 (AG g)) (F0 m 0 ls []) := by
  have hx := X.1
  have hb := X.2.1
  intro o0 x1 h ls H locs hf I hl
  unfold f_X11_firstHighest_0 at hf
  refine lv_iconst (v := 0) hx hb dX11_firstHighest_0 (by decide) ?_
  refine lv_istore_n (lv' := [(2, .int 0), (0, .ref (rfG g o0)), (1, .int x1)]) hx hb dX11_firstHighest_1 rfl hl (by decide) rfl (fun ls hl => ?_)
  refine lv_iconst (v := 1) hx hb dX11_firstHighest_2 (by decide) ?_
  refine lv_istore_n (lv' := [(3, .int 1), (2, .int 0), (0, .ref (rfG g o0)), (1, .int x1)]) hx hb dX11_firstHighest_3 rfl hl (by decide) rfl (fun ls hl => ?_)
  exact w_X11_firstHighest_4 X hR hr fu o0 x1 0 1 h ls H locs hf I (lv_sub hl [2, 3, 1, 0] rfl)
def f_X11_firstHighest (o0 : Nat) (x1 : Int32) (h : AH) : Option (Int32 × AH) := f_X11_firstHighest_0 o0 x1 h
end
theorem c_X11_firstHighest (l : Launch) (g : GG) (o0 : Nat) (x1 : Int32) {h : AH} {res : Int32 × AH} (hf : f_X11_firstHighest o0 x1 h = some res) : CM l g yX11_firstHighest cX11_firstHighest 4 (some (.int)) 1 64 0 0 [.ref (rfG g o0), .int x1] h (some (.int res.1)) res.2 :=
  k_body (by decide) (Nat.le_of_ble_eq_true rfl) (fun p e s m below meth c R ls hR hr X I hl => w_X11_firstHighest_0 X ⟨Nat.le_of_eq hR.1.symm, Nat.le_of_eq hR.2.1.symm⟩ hr o0 x1 h ls s.heap [] hf I (lv_sub hl [0, 1] rfl))
/-! TrapCorner.cornersWith(I)I -/
theorem dX11_cornersWith_0 : decode cX11_cornersWith 0 = .ok (.iconst 0, 1) := by decide +kernel
theorem dX11_cornersWith_1 : decode cX11_cornersWith 1 = .ok (.istore_n 2, 1) := by decide +kernel
theorem dX11_cornersWith_2 : decode cX11_cornersWith 2 = .ok (.iconst 0, 1) := by decide +kernel
theorem dX11_cornersWith_3 : decode cX11_cornersWith 3 = .ok (.istore_n 3, 1) := by decide +kernel
theorem dX11_cornersWith_4 : decode cX11_cornersWith 4 = .ok (.iload_n 3, 1) := by decide +kernel
theorem dX11_cornersWith_5 : decode cX11_cornersWith 5 = .ok (.aload_n 0, 1) := by decide +kernel
theorem dX11_cornersWith_6 : decode cX11_cornersWith 6 = .ok (.getfield 42, 3) := by decide +kernel
theorem dX11_cornersWith_9 : decode cX11_cornersWith 9 = .ok (.getfield 253, 3) := by decide +kernel
theorem dX11_cornersWith_12 : decode cX11_cornersWith 12 = .ok (.if_icmp .ge 28, 3) := by decide +kernel
theorem dX11_cornersWith_15 : decode cX11_cornersWith 15 = .ok (.aload_n 0, 1) := by decide +kernel
theorem dX11_cornersWith_16 : decode cX11_cornersWith 16 = .ok (.getfield 49, 3) := by decide +kernel
theorem dX11_cornersWith_19 : decode cX11_cornersWith 19 = .ok (.getfield 188, 3) := by decide +kernel
theorem dX11_cornersWith_22 : decode cX11_cornersWith 22 = .ok (.iload_n 3, 1) := by decide +kernel
theorem dX11_cornersWith_23 : decode cX11_cornersWith 23 = .ok (.iaload, 1) := by decide +kernel
theorem dX11_cornersWith_24 : decode cX11_cornersWith 24 = .ok (.iload_n 1, 1) := by decide +kernel
theorem dX11_cornersWith_25 : decode cX11_cornersWith 25 = .ok (.if_icmp .ne 9, 3) := by decide +kernel
theorem dX11_cornersWith_28 : decode cX11_cornersWith 28 = .ok (.iload_n 2, 1) := by decide +kernel
theorem dX11_cornersWith_29 : decode cX11_cornersWith 29 = .ok (.iconst 1, 1) := by decide +kernel
theorem dX11_cornersWith_30 : decode cX11_cornersWith 30 = .ok (.iload_n 3, 1) := by decide +kernel
theorem dX11_cornersWith_31 : decode cX11_cornersWith 31 = .ok (.ishl, 1) := by decide +kernel
theorem dX11_cornersWith_32 : decode cX11_cornersWith 32 = .ok (.ior, 1) := by decide +kernel
theorem dX11_cornersWith_33 : decode cX11_cornersWith 33 = .ok (.istore_n 2, 1) := by decide +kernel
theorem dX11_cornersWith_34 : decode cX11_cornersWith 34 = .ok (.iinc 3 1, 3) := by decide +kernel
theorem dX11_cornersWith_37 : decode cX11_cornersWith 37 = .ok (.goto (-33), 3) := by decide +kernel
theorem dX11_cornersWith_40 : decode cX11_cornersWith 40 = .ok (.iload_n 2, 1) := by decide +kernel
theorem dX11_cornersWith_41 : decode cX11_cornersWith 41 = .ok (.ireturn, 1) := by decide +kernel
section
variable {g : GG} {p : Program} {l : Launch} {e : Env} {R : Room} {s : State} {m : MethodId} {args : Array Value} {below : List Frame} {meth : Method} {c : Code} {n0 z0 : Nat}
def f_X11_cornersWith_34 (k4 : Nat → Int32 → Int32 → Int32 → AH → Option (Int32 × AH)) (o0 : Nat) (x1 : Int32) (x2 : Int32) (x3 : Int32) (h : AH) : Option (Int32 × AH) :=
  k4 o0 x1 x2 (x3 + 1) h
set_option maxHeartbeats 1000000 in
theorem w_X11_cornersWith_34 (X : Cx g p s m args meth c cX11_cornersWith 4 "TrapCorner") (hR : 1 ≤ R.frames ∧ 64 ≤ R.locals) (hr : meth.sig.returnType = (some (.int))) {res : Int32 × AH} {k4 : Nat → Int32 → Int32 → Int32 → AH → Option (Int32 × AH)} (hk4 : ∀ (o0 : Nat) (x1 : Int32) (x2 : Int32) (x3 : Int32) (h : AH) (ls : Array Slot) (H : Heap) (locs : List Loc), k4 o0 x1 x2 x3 h = some res → Iv g s n0 z0 h H locs 0 0 → lv_has ls 4 [(0, .ref (rfG g o0)), (1, .int x1), (2, .int x2), (3, .int x3)] → W p l e R s m args below meth c H locs 0 0 (MQ below (QG g (some (.int res.1)) res.2) args s 0 0 (AG g)) (F0 m 4 ls [])) : ∀ (o0 : Nat) (x1 : Int32) (x2 : Int32) (x3 : Int32) (h : AH) (ls : Array Slot) (H : Heap) (locs : List Loc), f_X11_cornersWith_34 k4 o0 x1 x2 x3 h = some res → Iv g s n0 z0 h H locs 0 0 → lv_has ls 4 [(0, .ref (rfG g o0)), (1, .int x1), (2, .int x2), (3, .int x3)] → W p l e R s m args below meth c H locs 0 0 (MQ below (QG g (some (.int res.1)) res.2) args s 0 0 (AG g)) (F0 m 34 ls []) := by
  have hx := X.1
  have hb := X.2.1
  intro o0 x1 x2 x3 h ls H locs hf I hl
  unfold f_X11_cornersWith_34 at hf
  refine lv_iinc (v := x3 + 1) (lv' := [(3, .int (x3 + 1)), (0, .ref (rfG g o0)), (1, .int x1), (2, .int x2)]) hx hb dX11_cornersWith_34 hl (k := 3) rfl rfl (by decide) rfl (fun ls hl => ?_)
  refine lv_goto (tgt := 4) hx hb dX11_cornersWith_37 (by decide) ?_
  exact hk4 o0 x1 x2 (x3 + 1) h ls H locs hf I (lv_sub hl [1, 2, 3, 0] rfl)
def f_X11_cornersWith_4  : Nat → Nat → Int32 → Int32 → Int32 → AH → Option (Int32 × AH)
  | 0, _, _, _, _, _ => none
  | n + 1, o0, x1, x2, x3, h =>
  (gR [11] h o0 4).bind fun v1 =>
  (gI [10] h v1 0).bind fun v3 =>
  if v3 ≤ x3 then
    some (x2, h)
  else
    (gR [11] h o0 5).bind fun v6 =>
    (gR [8] h v6 0).bind fun v8 =>
    (aI 0 h v8 x3).bind fun v10 =>
    if v10 = x1 then
      f_X11_cornersWith_34 (f_X11_cornersWith_4 n) o0 x1 (x2 ||| (1 <<< (x3 &&& 31))) x3 h
    else
      f_X11_cornersWith_34 (f_X11_cornersWith_4 n) o0 x1 x2 x3 h
set_option maxHeartbeats 1000000 in
theorem w_X11_cornersWith_4 (X : Cx g p s m args meth c cX11_cornersWith 4 "TrapCorner") (hR : 1 ≤ R.frames ∧ 64 ≤ R.locals) (hr : meth.sig.returnType = (some (.int))) {res : Int32 × AH} : ∀ (n : Nat) (o0 : Nat) (x1 : Int32) (x2 : Int32) (x3 : Int32) (h : AH) (ls : Array Slot) (H : Heap) (locs : List Loc), f_X11_cornersWith_4 n o0 x1 x2 x3 h = some res → Iv g s n0 z0 h H locs 0 0 → lv_has ls 4 [(0, .ref (rfG g o0)), (1, .int x1), (2, .int x2), (3, .int x3)] → W p l e R s m args below meth c H locs 0 0 (MQ below (QG g (some (.int res.1)) res.2) args s 0 0 (AG g)) (F0 m 4 ls []) := by
  have hx := X.1
  have hb := X.2.1
  intro n
  induction n with
  | zero =>
    intro o0 x1 x2 x3 h ls H locs hf
    rw [f_X11_cornersWith_4.eq_1] at hf
    cases hf
  | succ n ih =>
    intro o0 x1 x2 x3 h ls H locs hf I hl
    rw [f_X11_cornersWith_4.eq_2] at hf
    refine lv_iload_n hx hb dX11_cornersWith_4 rfl (lv_at hl 3 rfl) ?_
    refine lv_aload_n hx hb dX11_cornersWith_5 rfl (lv_at hl 0 rfl) ?_
    obtain ⟨v1, e2, hf⟩ := Option.bind_eq_some_iff.mp hf
    refine r_gR X I e2 lk_TrapCorner_42 dX11_cornersWith_6 ?_
    obtain ⟨v3, e4, hf⟩ := Option.bind_eq_some_iff.mp hf
    refine r_gI X I e4 lk_TrapCorner_253 dX11_cornersWith_9 ?_
    refine lv_icmp_ge (tgt := 40) hx hb dX11_cornersWith_12 (by decide) (fun c5 => ?_) (fun c5 => ?_)
    · rw [if_pos c5] at hf
      refine lv_iload_n hx hb dX11_cornersWith_40 rfl (lv_at hl 2 rfl) ?_
      cases hf
      exact k_ri X I hr dX11_cornersWith_41
    · rw [if_neg c5] at hf
      refine lv_aload_n hx hb dX11_cornersWith_15 rfl (lv_at hl 0 rfl) ?_
      obtain ⟨v6, e7, hf⟩ := Option.bind_eq_some_iff.mp hf
      refine r_gR X I e7 lk_TrapCorner_49 dX11_cornersWith_16 ?_
      obtain ⟨v8, e9, hf⟩ := Option.bind_eq_some_iff.mp hf
      refine r_gR X I e9 lk_TrapCorner_188 dX11_cornersWith_19 ?_
      refine lv_iload_n hx hb dX11_cornersWith_22 rfl (lv_at hl 3 rfl) ?_
      obtain ⟨v10, e11, hf⟩ := Option.bind_eq_some_iff.mp hf
      refine r_aI0 X I e11 dX11_cornersWith_23 ?_
      refine lv_iload_n hx hb dX11_cornersWith_24 rfl (lv_at hl 1 rfl) ?_
      refine lv_icmp_ne (tgt := 34) hx hb dX11_cornersWith_25 (by decide) (fun c12 => ?_) (fun c12 => ?_)
      · rw [if_neg c12] at hf
        exact w_X11_cornersWith_34 X hR hr ih o0 x1 x2 x3 h ls H locs hf I (lv_sub hl [0, 1, 2, 3] rfl)
      · rw [if_pos c12] at hf
        refine lv_iload_n hx hb dX11_cornersWith_28 rfl (lv_at hl 2 rfl) ?_
        refine lv_iconst (v := 1) hx hb dX11_cornersWith_29 (by decide) ?_
        refine lv_iload_n hx hb dX11_cornersWith_30 rfl (lv_at hl 3 rfl) ?_
        refine lv_ishl hx hb dX11_cornersWith_31 ?_
        refine lv_ior hx hb dX11_cornersWith_32 ?_
        refine lv_istore_n (lv' := [(2, .int (x2 ||| (1 <<< (x3 &&& 31)))), (0, .ref (rfG g o0)), (1, .int x1), (3, .int x3)]) hx hb dX11_cornersWith_33 rfl hl (by decide) rfl (fun ls hl => ?_)
        exact w_X11_cornersWith_34 X hR hr ih o0 x1 (x2 ||| (1 <<< (x3 &&& 31))) x3 h ls H locs hf I (lv_sub hl [1, 2, 0, 3] rfl)
def f_X11_cornersWith_0  (o0 : Nat) (x1 : Int32) (h : AH) : Option (Int32 × AH) :=
  f_X11_cornersWith_4 fu o0 x1 0 0 h
set_option maxHeartbeats 1000000 in
theorem w_X11_cornersWith_0 (X : Cx g p s m args meth c cX11_cornersWith 4 "TrapCorner") (hR : 1 ≤ R.frames ∧ 64 ≤ R.locals) (hr : meth.sig.returnType = (some (.int))) {res : Int32 × AH} : ∀ (o0 : Nat) (x1 : Int32) (h : AH) (ls : Array Slot) (H : Heap) (locs : List Loc), f_X11_cornersWith_0 o0 x1 h = some res → Iv g s n0 z0 h H locs 0 0 → lv_has ls 4 [(0, .ref (rfG g o0)), (1, .int x1)] → W p l e R s m args below meth c H locs 0 0 (MQ below (QG g (some (.int res.1)) res.2) args s 0 0 (AG g)) (F0 m 0 ls []) := by
  have hx := X.1
  have hb := X.2.1
  intro o0 x1 h ls H locs hf I hl
  unfold f_X11_cornersWith_0 at hf
  refine lv_iconst (v := 0) hx hb dX11_cornersWith_0 (by decide) ?_
  refine lv_istore_n (lv' := [(2, .int 0), (0, .ref (rfG g o0)), (1, .int x1)]) hx hb dX11_cornersWith_1 rfl hl (by decide) rfl (fun ls hl => ?_)
  refine lv_iconst (v := 0) hx hb dX11_cornersWith_2 (by decide) ?_
  refine lv_istore_n (lv' := [(3, .int 0), (2, .int 0), (0, .ref (rfG g o0)), (1, .int x1)]) hx hb dX11_cornersWith_3 rfl hl (by decide) rfl (fun ls hl => ?_)
  exact w_X11_cornersWith_4 X hR hr fu o0 x1 0 0 h ls H locs hf I (lv_sub hl [2, 3, 1, 0] rfl)
def f_X11_cornersWith (o0 : Nat) (x1 : Int32) (h : AH) : Option (Int32 × AH) := f_X11_cornersWith_0 o0 x1 h
end
theorem c_X11_cornersWith (l : Launch) (g : GG) (o0 : Nat) (x1 : Int32) {h : AH} {res : Int32 × AH} (hf : f_X11_cornersWith o0 x1 h = some res) : CM l g yX11_cornersWith cX11_cornersWith 4 (some (.int)) 1 64 0 0 [.ref (rfG g o0), .int x1] h (some (.int res.1)) res.2 :=
  k_body (by decide) (Nat.le_of_ble_eq_true rfl) (fun p e s m below meth c R ls hR hr X I hl => w_X11_cornersWith_0 X ⟨Nat.le_of_eq hR.1.symm, Nat.le_of_eq hR.2.1.symm⟩ hr o0 x1 h ls s.heap [] hf I (lv_sub hl [0, 1] rfl))
/-! TrapCorner.oldOnes()I -/
theorem dX11_oldOnes_0 : decode cX11_oldOnes 0 = .ok (.iconst 0, 1) := by decide +kernel
theorem dX11_oldOnes_1 : decode cX11_oldOnes 1 = .ok (.istore_n 1, 1) := by decide +kernel
theorem dX11_oldOnes_2 : decode cX11_oldOnes 2 = .ok (.iconst 0, 1) := by decide +kernel
theorem dX11_oldOnes_3 : decode cX11_oldOnes 3 = .ok (.istore_n 2, 1) := by decide +kernel
theorem dX11_oldOnes_4 : decode cX11_oldOnes 4 = .ok (.iload_n 2, 1) := by decide +kernel
theorem dX11_oldOnes_5 : decode cX11_oldOnes 5 = .ok (.aload_n 0, 1) := by decide +kernel
theorem dX11_oldOnes_6 : decode cX11_oldOnes 6 = .ok (.getfield 42, 3) := by decide +kernel
theorem dX11_oldOnes_9 : decode cX11_oldOnes 9 = .ok (.getfield 156, 3) := by decide +kernel
theorem dX11_oldOnes_12 : decode cX11_oldOnes 12 = .ok (.if_icmp .ge 34, 3) := by decide +kernel
theorem dX11_oldOnes_15 : decode cX11_oldOnes 15 = .ok (.aload_n 0, 1) := by decide +kernel
theorem dX11_oldOnes_16 : decode cX11_oldOnes 16 = .ok (.getfield 49, 3) := by decide +kernel
theorem dX11_oldOnes_19 : decode cX11_oldOnes 19 = .ok (.getfield 222, 3) := by decide +kernel
theorem dX11_oldOnes_22 : decode cX11_oldOnes 22 = .ok (.iload_n 2, 1) := by decide +kernel
theorem dX11_oldOnes_23 : decode cX11_oldOnes 23 = .ok (.iaload, 1) := by decide +kernel
theorem dX11_oldOnes_24 : decode cX11_oldOnes 24 = .ok (.aload_n 0, 1) := by decide +kernel
theorem dX11_oldOnes_25 : decode cX11_oldOnes 25 = .ok (.getfield 42, 3) := by decide +kernel
theorem dX11_oldOnes_28 : decode cX11_oldOnes 28 = .ok (.getfield 181, 3) := by decide +kernel
theorem dX11_oldOnes_31 : decode cX11_oldOnes 31 = .ok (.if_icmp .lt 9, 3) := by decide +kernel
theorem dX11_oldOnes_34 : decode cX11_oldOnes 34 = .ok (.iload_n 1, 1) := by decide +kernel
theorem dX11_oldOnes_35 : decode cX11_oldOnes 35 = .ok (.iconst 1, 1) := by decide +kernel
theorem dX11_oldOnes_36 : decode cX11_oldOnes 36 = .ok (.iload_n 2, 1) := by decide +kernel
theorem dX11_oldOnes_37 : decode cX11_oldOnes 37 = .ok (.ishl, 1) := by decide +kernel
theorem dX11_oldOnes_38 : decode cX11_oldOnes 38 = .ok (.ior, 1) := by decide +kernel
theorem dX11_oldOnes_39 : decode cX11_oldOnes 39 = .ok (.istore_n 1, 1) := by decide +kernel
theorem dX11_oldOnes_40 : decode cX11_oldOnes 40 = .ok (.iinc 2 1, 3) := by decide +kernel
theorem dX11_oldOnes_43 : decode cX11_oldOnes 43 = .ok (.goto (-39), 3) := by decide +kernel
theorem dX11_oldOnes_46 : decode cX11_oldOnes 46 = .ok (.iload_n 1, 1) := by decide +kernel
theorem dX11_oldOnes_47 : decode cX11_oldOnes 47 = .ok (.ireturn, 1) := by decide +kernel
theorem lk_TrapCorner_181 : LK "TrapCorner" 181 [10] 4 := by
  intro ci hci
  have hci := List.mem_singleton.mp hci
  subst hci
  exact ⟨RX10, TX10, 13, "TrapCorner$Town", ck_10, by decide, tw_83, Or.inl rfl⟩
section
variable {g : GG} {p : Program} {l : Launch} {e : Env} {R : Room} {s : State} {m : MethodId} {args : Array Value} {below : List Frame} {meth : Method} {c : Code} {n0 z0 : Nat}
def f_X11_oldOnes_40 (k4 : Nat → Int32 → Int32 → AH → Option (Int32 × AH)) (o0 : Nat) (x1 : Int32) (x2 : Int32) (h : AH) : Option (Int32 × AH) :=
  k4 o0 x1 (x2 + 1) h
set_option maxHeartbeats 1000000 in
theorem w_X11_oldOnes_40 (X : Cx g p s m args meth c cX11_oldOnes 3 "TrapCorner") (hR : 1 ≤ R.frames ∧ 64 ≤ R.locals) (hr : meth.sig.returnType = (some (.int))) {res : Int32 × AH} {k4 : Nat → Int32 → Int32 → AH → Option (Int32 × AH)} (hk4 : ∀ (o0 : Nat) (x1 : Int32) (x2 : Int32) (h : AH) (ls : Array Slot) (H : Heap) (locs : List Loc), k4 o0 x1 x2 h = some res → Iv g s n0 z0 h H locs 0 0 → lv_has ls 3 [(0, .ref (rfG g o0)), (1, .int x1), (2, .int x2)] → W p l e R s m args below meth c H locs 0 0 (MQ below (QG g (some (.int res.1)) res.2) args s 0 0 (AG g)) (F0 m 4 ls [])) : ∀ (o0 : Nat) (x1 : Int32) (x2 : Int32) (h : AH) (ls : Array Slot) (H : Heap) (locs : List Loc), f_X11_oldOnes_40 k4 o0 x1 x2 h = some res → Iv g s n0 z0 h H locs 0 0 → lv_has ls 3 [(0, .ref (rfG g o0)), (1, .int x1), (2, .int x2)] → W p l e R s m args below meth c H locs 0 0 (MQ below (QG g (some (.int res.1)) res.2) args s 0 0 (AG g)) (F0 m 40 ls []) := by
  have hx := X.1
  have hb := X.2.1
  intro o0 x1 x2 h ls H locs hf I hl
  unfold f_X11_oldOnes_40 at hf
  refine lv_iinc (v := x2 + 1) (lv' := [(2, .int (x2 + 1)), (0, .ref (rfG g o0)), (1, .int x1)]) hx hb dX11_oldOnes_40 hl (k := 2) rfl rfl (by decide) rfl (fun ls hl => ?_)
  refine lv_goto (tgt := 4) hx hb dX11_oldOnes_43 (by decide) ?_
  exact hk4 o0 x1 (x2 + 1) h ls H locs hf I (lv_sub hl [1, 2, 0] rfl)
def f_X11_oldOnes_4  : Nat → Nat → Int32 → Int32 → AH → Option (Int32 × AH)
  | 0, _, _, _, _ => none
  | n + 1, o0, x1, x2, h =>
  (gR [11] h o0 4).bind fun v1 =>
  (gI [10] h v1 1).bind fun v3 =>
  if v3 ≤ x2 then
    some (x1, h)
  else
    (gR [11] h o0 5).bind fun v6 =>
    (gR [8] h v6 3).bind fun v8 =>
    (aI 0 h v8 x2).bind fun v10 =>
    (gR [11] h o0 4).bind fun v12 =>
    (gI [10] h v12 4).bind fun v14 =>
    if v10 < v14 then
      f_X11_oldOnes_40 (f_X11_oldOnes_4 n) o0 x1 x2 h
    else
      f_X11_oldOnes_40 (f_X11_oldOnes_4 n) o0 (x1 ||| (1 <<< (x2 &&& 31))) x2 h
set_option maxHeartbeats 1000000 in
theorem w_X11_oldOnes_4 (X : Cx g p s m args meth c cX11_oldOnes 3 "TrapCorner") (hR : 1 ≤ R.frames ∧ 64 ≤ R.locals) (hr : meth.sig.returnType = (some (.int))) {res : Int32 × AH} : ∀ (n : Nat) (o0 : Nat) (x1 : Int32) (x2 : Int32) (h : AH) (ls : Array Slot) (H : Heap) (locs : List Loc), f_X11_oldOnes_4 n o0 x1 x2 h = some res → Iv g s n0 z0 h H locs 0 0 → lv_has ls 3 [(0, .ref (rfG g o0)), (1, .int x1), (2, .int x2)] → W p l e R s m args below meth c H locs 0 0 (MQ below (QG g (some (.int res.1)) res.2) args s 0 0 (AG g)) (F0 m 4 ls []) := by
  have hx := X.1
  have hb := X.2.1
  intro n
  induction n with
  | zero =>
    intro o0 x1 x2 h ls H locs hf
    rw [f_X11_oldOnes_4.eq_1] at hf
    cases hf
  | succ n ih =>
    intro o0 x1 x2 h ls H locs hf I hl
    rw [f_X11_oldOnes_4.eq_2] at hf
    refine lv_iload_n hx hb dX11_oldOnes_4 rfl (lv_at hl 2 rfl) ?_
    refine lv_aload_n hx hb dX11_oldOnes_5 rfl (lv_at hl 0 rfl) ?_
    obtain ⟨v1, e2, hf⟩ := Option.bind_eq_some_iff.mp hf
    refine r_gR X I e2 lk_TrapCorner_42 dX11_oldOnes_6 ?_
    obtain ⟨v3, e4, hf⟩ := Option.bind_eq_some_iff.mp hf
    refine r_gI X I e4 lk_TrapCorner_156 dX11_oldOnes_9 ?_
    refine lv_icmp_ge (tgt := 46) hx hb dX11_oldOnes_12 (by decide) (fun c5 => ?_) (fun c5 => ?_)
    · rw [if_pos c5] at hf
      refine lv_iload_n hx hb dX11_oldOnes_46 rfl (lv_at hl 1 rfl) ?_
      cases hf
      exact k_ri X I hr dX11_oldOnes_47
    · rw [if_neg c5] at hf
      refine lv_aload_n hx hb dX11_oldOnes_15 rfl (lv_at hl 0 rfl) ?_
      obtain ⟨v6, e7, hf⟩ := Option.bind_eq_some_iff.mp hf
      refine r_gR X I e7 lk_TrapCorner_49 dX11_oldOnes_16 ?_
      obtain ⟨v8, e9, hf⟩ := Option.bind_eq_some_iff.mp hf
      refine r_gR X I e9 lk_TrapCorner_222 dX11_oldOnes_19 ?_
      refine lv_iload_n hx hb dX11_oldOnes_22 rfl (lv_at hl 2 rfl) ?_
      obtain ⟨v10, e11, hf⟩ := Option.bind_eq_some_iff.mp hf
      refine r_aI0 X I e11 dX11_oldOnes_23 ?_
      refine lv_aload_n hx hb dX11_oldOnes_24 rfl (lv_at hl 0 rfl) ?_
      obtain ⟨v12, e13, hf⟩ := Option.bind_eq_some_iff.mp hf
      refine r_gR X I e13 lk_TrapCorner_42 dX11_oldOnes_25 ?_
      obtain ⟨v14, e15, hf⟩ := Option.bind_eq_some_iff.mp hf
      refine r_gI X I e15 lk_TrapCorner_181 dX11_oldOnes_28 ?_
      refine lv_icmp_lt (tgt := 40) hx hb dX11_oldOnes_31 (by decide) (fun c16 => ?_) (fun c16 => ?_)
      · rw [if_pos c16] at hf
        exact w_X11_oldOnes_40 X hR hr ih o0 x1 x2 h ls H locs hf I (lv_sub hl [0, 1, 2] rfl)
      · rw [if_neg c16] at hf
        refine lv_iload_n hx hb dX11_oldOnes_34 rfl (lv_at hl 1 rfl) ?_
        refine lv_iconst (v := 1) hx hb dX11_oldOnes_35 (by decide) ?_
        refine lv_iload_n hx hb dX11_oldOnes_36 rfl (lv_at hl 2 rfl) ?_
        refine lv_ishl hx hb dX11_oldOnes_37 ?_
        refine lv_ior hx hb dX11_oldOnes_38 ?_
        refine lv_istore_n (lv' := [(1, .int (x1 ||| (1 <<< (x2 &&& 31)))), (0, .ref (rfG g o0)), (2, .int x2)]) hx hb dX11_oldOnes_39 rfl hl (by decide) rfl (fun ls hl => ?_)
        exact w_X11_oldOnes_40 X hR hr ih o0 (x1 ||| (1 <<< (x2 &&& 31))) x2 h ls H locs hf I (lv_sub hl [1, 0, 2] rfl)
def f_X11_oldOnes_0  (o0 : Nat) (h : AH) : Option (Int32 × AH) :=
  f_X11_oldOnes_4 fu o0 0 0 h
set_option maxHeartbeats 1000000 in
theorem w_X11_oldOnes_0 (X : Cx g p s m args meth c cX11_oldOnes 3 "TrapCorner") (hR : 1 ≤ R.frames ∧ 64 ≤ R.locals) (hr : meth.sig.returnType = (some (.int))) {res : Int32 × AH} : ∀ (o0 : Nat) (h : AH) (ls : Array Slot) (H : Heap) (locs : List Loc), f_X11_oldOnes_0 o0 h = some res → Iv g s n0 z0 h H locs 0 0 → lv_has ls 3 [(0, .ref (rfG g o0))] → W p l e R s m args below meth c H locs 0 0 (MQ below (QG g (some (.int res.1)) res.2) args s 0 0 (AG g)) (F0 m 0 ls []) := by
  have hx := X.1
  have hb := X.2.1
  intro o0 h ls H locs hf I hl
  unfold f_X11_oldOnes_0 at hf
  refine lv_iconst (v := 0) hx hb dX11_oldOnes_0 (by decide) ?_
  refine lv_istore_n (lv' := [(1, .int 0), (0, .ref (rfG g o0))]) hx hb dX11_oldOnes_1 rfl hl (by decide) rfl (fun ls hl => ?_)
  refine lv_iconst (v := 0) hx hb dX11_oldOnes_2 (by decide) ?_
  refine lv_istore_n (lv' := [(2, .int 0), (1, .int 0), (0, .ref (rfG g o0))]) hx hb dX11_oldOnes_3 rfl hl (by decide) rfl (fun ls hl => ?_)
  exact w_X11_oldOnes_4 X hR hr fu o0 0 0 h ls H locs hf I (lv_sub hl [2, 1, 0] rfl)
def f_X11_oldOnes (o0 : Nat) (h : AH) : Option (Int32 × AH) := f_X11_oldOnes_0 o0 h
end
theorem c_X11_oldOnes (l : Launch) (g : GG) (o0 : Nat) {h : AH} {res : Int32 × AH} (hf : f_X11_oldOnes o0 h = some res) : CM l g yX11_oldOnes cX11_oldOnes 3 (some (.int)) 1 64 0 0 [.ref (rfG g o0)] h (some (.int res.1)) res.2 :=
  k_body (by decide) (Nat.le_of_ble_eq_true rfl) (fun p e s m below meth c R ls hR hr X I hl => w_X11_oldOnes_0 X ⟨Nat.le_of_eq hR.1.symm, Nat.le_of_eq hR.2.1.symm⟩ hr o0 h ls s.heap [] hf I (lv_sub hl [0] rfl))
/-! TrapCorner.emptyCorners()I -/
theorem dX11_emptyCorners_0 : decode cX11_emptyCorners 0 = .ok (.aload_n 0, 1) := by decide +kernel
theorem dX11_emptyCorners_1 : decode cX11_emptyCorners 1 = .ok (.iconst 0, 1) := by decide +kernel
theorem dX11_emptyCorners_2 : decode cX11_emptyCorners 2 = .ok (.invokevirtual 445, 3) := by decide +kernel
theorem dX11_emptyCorners_5 : decode cX11_emptyCorners 5 = .ok (.ireturn, 1) := by decide +kernel
theorem vk_TrapCorner_445 : VK "TrapCorner" 445 [11] yX11_cornersWith 1 := ⟨tw_1178, tw_1180, tw_1, ⟨by decide, by decide⟩, by decide +kernel, fun ci hci => by
  have hci := List.mem_singleton.mp hci
  subst hci
  exact ⟨_, rfl, tp_47⟩⟩
section
variable {g : GG} {p : Program} {l : Launch} {e : Env} {R : Room} {s : State} {m : MethodId} {args : Array Value} {below : List Frame} {meth : Method} {c : Code} {n0 z0 : Nat}
def f_X11_emptyCorners_0  (o0 : Nat) (h : AH) : Option (Int32 × AH) :=
  (isC [11] h o0).bind fun _ =>
  cN (f_X11_cornersWith o0 0 h) h fun v1 h2 =>
  some (v1, h2)
set_option maxHeartbeats 1000000 in
theorem w_X11_emptyCorners_0 (X : Cx g p s m args meth c cX11_emptyCorners 1 "TrapCorner") (hR : 2 ≤ R.frames ∧ 128 ≤ R.locals) (hr : meth.sig.returnType = (some (.int))) {res : Int32 × AH} : ∀ (o0 : Nat) (h : AH) (ls : Array Slot) (H : Heap) (locs : List Loc), f_X11_emptyCorners_0 o0 h = some res → Iv g s n0 z0 h H locs 0 0 → lv_has ls 1 [(0, .ref (rfG g o0))] → W p l e R s m args below meth c H locs 0 0 (MQ below (QG g (some (.int res.1)) res.2) args s 0 0 (AG g)) (F0 m 0 ls []) := by
  have hx := X.1
  have hb := X.2.1
  intro o0 h ls H locs hf I hl
  unfold f_X11_emptyCorners_0 at hf
  refine lv_aload_n hx hb dX11_emptyCorners_0 rfl (lv_at hl 0 rfl) ?_
  refine lv_iconst (v := 0) hx hb dX11_emptyCorners_1 (by decide) ?_
  obtain ⟨_, g5, hf⟩ := Option.bind_eq_some_iff.mp hf
  obtain ⟨v1, h2, e3, z4, hf⟩ := cN_spec hf
  refine k_Vi (As := [.int 0]) (rest := []) X I (c_X11_cornersWith l g o0 0 e3) z4 g5 vk_TrapCorner_445 tw_1181 ⟨Nat.le_trans (by decide) hR.1, Nat.le_trans (by decide) hR.2⟩ ⟨Nat.zero_le _, Nat.zero_le _⟩ rfl hl.1 rfl (Nat.le_of_ble_eq_true rfl) dX11_emptyCorners_2 (fun H locs I => ?_)
  cases hf
  exact k_ri X I hr dX11_emptyCorners_5
def f_X11_emptyCorners (o0 : Nat) (h : AH) : Option (Int32 × AH) := f_X11_emptyCorners_0 o0 h
end
theorem c_X11_emptyCorners (l : Launch) (g : GG) (o0 : Nat) {h : AH} {res : Int32 × AH} (hf : f_X11_emptyCorners o0 h = some res) : CM l g yX11_emptyCorners cX11_emptyCorners 1 (some (.int)) 2 128 0 0 [.ref (rfG g o0)] h (some (.int res.1)) res.2 :=
  k_body (by decide) (Nat.le_of_ble_eq_true rfl) (fun p e s m below meth c R ls hR hr X I hl => w_X11_emptyCorners_0 X ⟨Nat.le_of_eq hR.1.symm, Nat.le_of_eq hR.2.1.symm⟩ hr o0 h ls s.heap [] hf I (lv_sub hl [0] rfl))
/-! TrapCorner.crumbsThatLie()I -/
theorem dX11_crumbsThatLie_0 : decode cX11_crumbsThatLie 0 = .ok (.iconst 0, 1) := by decide +kernel
theorem dX11_crumbsThatLie_1 : decode cX11_crumbsThatLie 1 = .ok (.istore_n 1, 1) := by decide +kernel
theorem dX11_crumbsThatLie_2 : decode cX11_crumbsThatLie 2 = .ok (.iconst 1, 1) := by decide +kernel
theorem dX11_crumbsThatLie_3 : decode cX11_crumbsThatLie 3 = .ok (.istore_n 2, 1) := by decide +kernel
theorem dX11_crumbsThatLie_4 : decode cX11_crumbsThatLie 4 = .ok (.iload_n 2, 1) := by decide +kernel
theorem dX11_crumbsThatLie_5 : decode cX11_crumbsThatLie 5 = .ok (.iconst 3, 1) := by decide +kernel
theorem dX11_crumbsThatLie_6 : decode cX11_crumbsThatLie 6 = .ok (.if_icmp .gt 25, 3) := by decide +kernel
theorem dX11_crumbsThatLie_9 : decode cX11_crumbsThatLie 9 = .ok (.iload_n 1, 1) := by decide +kernel
theorem dX11_crumbsThatLie_10 : decode cX11_crumbsThatLie 10 = .ok (.aload_n 0, 1) := by decide +kernel
theorem dX11_crumbsThatLie_11 : decode cX11_crumbsThatLie 11 = .ok (.iload_n 2, 1) := by decide +kernel
theorem dX11_crumbsThatLie_12 : decode cX11_crumbsThatLie 12 = .ok (.invokevirtual 445, 3) := by decide +kernel
theorem dX11_crumbsThatLie_15 : decode cX11_crumbsThatLie 15 = .ok (.ifCond .ne 7, 3) := by decide +kernel
theorem dX11_crumbsThatLie_18 : decode cX11_crumbsThatLie 18 = .ok (.iconst 0, 1) := by decide +kernel
theorem dX11_crumbsThatLie_19 : decode cX11_crumbsThatLie 19 = .ok (.goto 4, 3) := by decide +kernel
theorem dX11_crumbsThatLie_22 : decode cX11_crumbsThatLie 22 = .ok (.iconst 1, 1) := by decide +kernel
theorem dX11_crumbsThatLie_23 : decode cX11_crumbsThatLie 23 = .ok (.iadd, 1) := by decide +kernel
theorem dX11_crumbsThatLie_24 : decode cX11_crumbsThatLie 24 = .ok (.istore_n 1, 1) := by decide +kernel
theorem dX11_crumbsThatLie_25 : decode cX11_crumbsThatLie 25 = .ok (.iinc 2 1, 3) := by decide +kernel
theorem dX11_crumbsThatLie_28 : decode cX11_crumbsThatLie 28 = .ok (.goto (-24), 3) := by decide +kernel
theorem dX11_crumbsThatLie_31 : decode cX11_crumbsThatLie 31 = .ok (.iload_n 1, 1) := by decide +kernel
theorem dX11_crumbsThatLie_32 : decode cX11_crumbsThatLie 32 = .ok (.ireturn, 1) := by decide +kernel
section
variable {g : GG} {p : Program} {l : Launch} {e : Env} {R : Room} {s : State} {m : MethodId} {args : Array Value} {below : List Frame} {meth : Method} {c : Code} {n0 z0 : Nat}
def f_X11_crumbsThatLie_23 (k4 : Nat → Int32 → Int32 → AH → Option (Int32 × AH)) (o0 : Nat) (x2 : Int32) (s0 : Int32) (s1 : Int32) (h : AH) : Option (Int32 × AH) :=
  k4 o0 (s0 + s1) (x2 + 1) h
set_option maxHeartbeats 1000000 in
theorem w_X11_crumbsThatLie_23 (X : Cx g p s m args meth c cX11_crumbsThatLie 3 "TrapCorner") (hR : 2 ≤ R.frames ∧ 128 ≤ R.locals) (hr : meth.sig.returnType = (some (.int))) {res : Int32 × AH} {k4 : Nat → Int32 → Int32 → AH → Option (Int32 × AH)} (hk4 : ∀ (o0 : Nat) (x1 : Int32) (x2 : Int32) (h : AH) (ls : Array Slot) (H : Heap) (locs : List Loc), k4 o0 x1 x2 h = some res → Iv g s n0 z0 h H locs 0 0 → lv_has ls 3 [(0, .ref (rfG g o0)), (1, .int x1), (2, .int x2)] → W p l e R s m args below meth c H locs 0 0 (MQ below (QG g (some (.int res.1)) res.2) args s 0 0 (AG g)) (F0 m 4 ls [])) : ∀ (o0 : Nat) (x2 : Int32) (s0 : Int32) (s1 : Int32) (h : AH) (ls : Array Slot) (H : Heap) (locs : List Loc), f_X11_crumbsThatLie_23 k4 o0 x2 s0 s1 h = some res → Iv g s n0 z0 h H locs 0 0 → lv_has ls 3 [(0, .ref (rfG g o0)), (2, .int x2)] → W p l e R s m args below meth c H locs 0 0 (MQ below (QG g (some (.int res.1)) res.2) args s 0 0 (AG g)) (F0 m 23 ls [.int s1, .int s0]) := by
  have hx := X.1
  have hb := X.2.1
  intro o0 x2 s0 s1 h ls H locs hf I hl
  unfold f_X11_crumbsThatLie_23 at hf
  refine lv_iadd hx hb dX11_crumbsThatLie_23 ?_
  refine lv_istore_n (lv' := [(1, .int (s0 + s1)), (0, .ref (rfG g o0)), (2, .int x2)]) hx hb dX11_crumbsThatLie_24 rfl hl (by decide) rfl (fun ls hl => ?_)
  refine lv_iinc (v := x2 + 1) (lv' := [(2, .int (x2 + 1)), (1, .int (s0 + s1)), (0, .ref (rfG g o0))]) hx hb dX11_crumbsThatLie_25 hl (k := 2) rfl rfl (by decide) rfl (fun ls hl => ?_)
  refine lv_goto (tgt := 4) hx hb dX11_crumbsThatLie_28 (by decide) ?_
  exact hk4 o0 (s0 + s1) (x2 + 1) h ls H locs hf I (lv_sub hl [2, 1, 0] rfl)
def f_X11_crumbsThatLie_4  : Nat → Nat → Int32 → Int32 → AH → Option (Int32 × AH)
  | 0, _, _, _, _ => none
  | n + 1, o0, x1, x2, h =>
  if 3 < x2 then
    some (x1, h)
  else
    (isC [11] h o0).bind fun _ =>
    cN (f_X11_cornersWith o0 x2 h) h fun v2 h3 =>
    if v2 = 0 then
      f_X11_crumbsThatLie_23 (f_X11_crumbsThatLie_4 n) o0 x2 x1 0 h3
    else
      f_X11_crumbsThatLie_23 (f_X11_crumbsThatLie_4 n) o0 x2 x1 1 h3
set_option maxHeartbeats 1000000 in
theorem w_X11_crumbsThatLie_4 (X : Cx g p s m args meth c cX11_crumbsThatLie 3 "TrapCorner") (hR : 2 ≤ R.frames ∧ 128 ≤ R.locals) (hr : meth.sig.returnType = (some (.int))) {res : Int32 × AH} : ∀ (n : Nat) (o0 : Nat) (x1 : Int32) (x2 : Int32) (h : AH) (ls : Array Slot) (H : Heap) (locs : List Loc), f_X11_crumbsThatLie_4 n o0 x1 x2 h = some res → Iv g s n0 z0 h H locs 0 0 → lv_has ls 3 [(0, .ref (rfG g o0)), (1, .int x1), (2, .int x2)] → W p l e R s m args below meth c H locs 0 0 (MQ below (QG g (some (.int res.1)) res.2) args s 0 0 (AG g)) (F0 m 4 ls []) := by
  have hx := X.1
  have hb := X.2.1
  intro n
  induction n with
  | zero =>
    intro o0 x1 x2 h ls H locs hf
    rw [f_X11_crumbsThatLie_4.eq_1] at hf
    cases hf
  | succ n ih =>
    intro o0 x1 x2 h ls H locs hf I hl
    rw [f_X11_crumbsThatLie_4.eq_2] at hf
    refine lv_iload_n hx hb dX11_crumbsThatLie_4 rfl (lv_at hl 2 rfl) ?_
    refine lv_iconst (v := 3) hx hb dX11_crumbsThatLie_5 (by decide) ?_
    refine lv_icmp_gt (tgt := 31) hx hb dX11_crumbsThatLie_6 (by decide) (fun c1 => ?_) (fun c1 => ?_)
    · rw [if_pos c1] at hf
      refine lv_iload_n hx hb dX11_crumbsThatLie_31 rfl (lv_at hl 1 rfl) ?_
      cases hf
      exact k_ri X I hr dX11_crumbsThatLie_32
    · rw [if_neg c1] at hf
      refine lv_iload_n hx hb dX11_crumbsThatLie_9 rfl (lv_at hl 1 rfl) ?_
      refine lv_aload_n hx hb dX11_crumbsThatLie_10 rfl (lv_at hl 0 rfl) ?_
      refine lv_iload_n hx hb dX11_crumbsThatLie_11 rfl (lv_at hl 2 rfl) ?_
      obtain ⟨_, g6, hf⟩ := Option.bind_eq_some_iff.mp hf
      obtain ⟨v2, h3, e4, z5, hf⟩ := cN_spec hf
      refine k_Vi (As := [.int x2]) (rest := [.int x1]) X I (c_X11_cornersWith l g o0 x2 e4) z5 g6 vk_TrapCorner_445 tw_1181 ⟨Nat.le_trans (by decide) hR.1, Nat.le_trans (by decide) hR.2⟩ ⟨Nat.zero_le _, Nat.zero_le _⟩ rfl hl.1 rfl (Nat.le_of_ble_eq_true rfl) dX11_crumbsThatLie_12 (fun H locs I => ?_)
      refine lv_if_ne (tgt := 22) hx hb dX11_crumbsThatLie_15 (by decide) (fun c7 => ?_) (fun c7 => ?_)
      · rw [if_neg c7] at hf
        refine lv_iconst (v := 1) hx hb dX11_crumbsThatLie_22 (by decide) ?_
        exact w_X11_crumbsThatLie_23 X hR hr ih o0 x2 x1 1 h3 ls H locs hf I (lv_sub hl [0, 2] rfl)
      · rw [if_pos c7] at hf
        refine lv_iconst (v := 0) hx hb dX11_crumbsThatLie_18 (by decide) ?_
        refine lv_goto (tgt := 23) hx hb dX11_crumbsThatLie_19 (by decide) ?_
        exact w_X11_crumbsThatLie_23 X hR hr ih o0 x2 x1 0 h3 ls H locs hf I (lv_sub hl [0, 2] rfl)
def f_X11_crumbsThatLie_0  (o0 : Nat) (h : AH) : Option (Int32 × AH) :=
  f_X11_crumbsThatLie_4 fu o0 0 1 h
set_option maxHeartbeats 1000000 in
theorem w_X11_crumbsThatLie_0 (X : Cx g p s m args meth c cX11_crumbsThatLie 3 "TrapCorner") (hR : 2 ≤ R.frames ∧ 128 ≤ R.locals) (hr : meth.sig.returnType = (some (.int))) {res : Int32 × AH} : ∀ (o0 : Nat) (h : AH) (ls : Array Slot) (H : Heap) (locs : List Loc), f_X11_crumbsThatLie_0 o0 h = some res → Iv g s n0 z0 h H locs 0 0 → lv_has ls 3 [(0, .ref (rfG g o0))] → W p l e R s m args below meth c H locs 0 0 (MQ below (QG g (some (.int res.1)) res.2) args s 0 0 (AG g)) (F0 m 0 ls []) := by
  have hx := X.1
  have hb := X.2.1
  intro o0 h ls H locs hf I hl
  unfold f_X11_crumbsThatLie_0 at hf
  refine lv_iconst (v := 0) hx hb dX11_crumbsThatLie_0 (by decide) ?_
  refine lv_istore_n (lv' := [(1, .int 0), (0, .ref (rfG g o0))]) hx hb dX11_crumbsThatLie_1 rfl hl (by decide) rfl (fun ls hl => ?_)
  refine lv_iconst (v := 1) hx hb dX11_crumbsThatLie_2 (by decide) ?_
  refine lv_istore_n (lv' := [(2, .int 1), (1, .int 0), (0, .ref (rfG g o0))]) hx hb dX11_crumbsThatLie_3 rfl hl (by decide) rfl (fun ls hl => ?_)
  exact w_X11_crumbsThatLie_4 X hR hr fu o0 0 1 h ls H locs hf I (lv_sub hl [2, 1, 0] rfl)
def f_X11_crumbsThatLie (o0 : Nat) (h : AH) : Option (Int32 × AH) := f_X11_crumbsThatLie_0 o0 h
end
theorem c_X11_crumbsThatLie (l : Launch) (g : GG) (o0 : Nat) {h : AH} {res : Int32 × AH} (hf : f_X11_crumbsThatLie o0 h = some res) : CM l g yX11_crumbsThatLie cX11_crumbsThatLie 3 (some (.int)) 2 128 0 0 [.ref (rfG g o0)] h (some (.int res.1)) res.2 :=
  k_body (by decide) (Nat.le_of_ble_eq_true rfl) (fun p e s m below meth c R ls hR hr X I hl => w_X11_crumbsThatLie_0 X ⟨Nat.le_of_eq hR.1.symm, Nat.le_of_eq hR.2.1.symm⟩ hr o0 h ls s.heap [] hf I (lv_sub hl [0] rfl))
/-! TrapCorner.kinds(I)I -/
theorem dX11_kinds_0 : decode cX11_kinds 0 = .ok (.aload_n 0, 1) := by decide +kernel
theorem dX11_kinds_1 : decode cX11_kinds 1 = .ok (.invokevirtual 172, 3) := by decide +kernel
theorem dX11_kinds_4 : decode cX11_kinds 4 = .ok (.ifCond .eq 13, 3) := by decide +kernel
theorem dX11_kinds_7 : decode cX11_kinds 7 = .ok (.iload_n 1, 1) := by decide +kernel
theorem dX11_kinds_8 : decode cX11_kinds 8 = .ok (.iconst 1, 1) := by decide +kernel
theorem dX11_kinds_9 : decode cX11_kinds 9 = .ok (.if_icmp .lt 8, 3) := by decide +kernel
theorem dX11_kinds_12 : decode cX11_kinds 12 = .ok (.iload_n 1, 1) := by decide +kernel
theorem dX11_kinds_13 : decode cX11_kinds 13 = .ok (.iconst 3, 1) := by decide +kernel
theorem dX11_kinds_14 : decode cX11_kinds 14 = .ok (.if_icmp .le 5, 3) := by decide +kernel
theorem dX11_kinds_17 : decode cX11_kinds 17 = .ok (.iconst (-1), 1) := by decide +kernel
theorem dX11_kinds_18 : decode cX11_kinds 18 = .ok (.ireturn, 1) := by decide +kernel
theorem dX11_kinds_19 : decode cX11_kinds 19 = .ok (.iconst 0, 1) := by decide +kernel
theorem dX11_kinds_20 : decode cX11_kinds 20 = .ok (.istore_n 2, 1) := by decide +kernel
theorem dX11_kinds_21 : decode cX11_kinds 21 = .ok (.iconst 0, 1) := by decide +kernel
theorem dX11_kinds_22 : decode cX11_kinds 22 = .ok (.istore_n 3, 1) := by decide +kernel
theorem dX11_kinds_23 : decode cX11_kinds 23 = .ok (.iload_n 3, 1) := by decide +kernel
theorem dX11_kinds_24 : decode cX11_kinds 24 = .ok (.aload_n 0, 1) := by decide +kernel
theorem dX11_kinds_25 : decode cX11_kinds 25 = .ok (.getfield 42, 3) := by decide +kernel
theorem dX11_kinds_28 : decode cX11_kinds 28 = .ok (.getfield 156, 3) := by decide +kernel
theorem dX11_kinds_31 : decode cX11_kinds 31 = .ok (.if_icmp .ge 28, 3) := by decide +kernel
theorem dX11_kinds_34 : decode cX11_kinds 34 = .ok (.aload_n 0, 1) := by decide +kernel
theorem dX11_kinds_35 : decode cX11_kinds 35 = .ok (.getfield 42, 3) := by decide +kernel
theorem dX11_kinds_38 : decode cX11_kinds 38 = .ok (.getfield 204, 3) := by decide +kernel
theorem dX11_kinds_41 : decode cX11_kinds 41 = .ok (.iload_n 3, 1) := by decide +kernel
theorem dX11_kinds_42 : decode cX11_kinds 42 = .ok (.iaload, 1) := by decide +kernel
theorem dX11_kinds_43 : decode cX11_kinds 43 = .ok (.iload_n 1, 1) := by decide +kernel
theorem dX11_kinds_44 : decode cX11_kinds 44 = .ok (.if_icmp .ne 9, 3) := by decide +kernel
theorem dX11_kinds_47 : decode cX11_kinds 47 = .ok (.iload_n 2, 1) := by decide +kernel
theorem dX11_kinds_48 : decode cX11_kinds 48 = .ok (.iconst 1, 1) := by decide +kernel
theorem dX11_kinds_49 : decode cX11_kinds 49 = .ok (.iload_n 3, 1) := by decide +kernel
theorem dX11_kinds_50 : decode cX11_kinds 50 = .ok (.ishl, 1) := by decide +kernel
theorem dX11_kinds_51 : decode cX11_kinds 51 = .ok (.ior, 1) := by decide +kernel
theorem dX11_kinds_52 : decode cX11_kinds 52 = .ok (.istore_n 2, 1) := by decide +kernel
theorem dX11_kinds_53 : decode cX11_kinds 53 = .ok (.iinc 3 1, 3) := by decide +kernel
theorem dX11_kinds_56 : decode cX11_kinds 56 = .ok (.goto (-33), 3) := by decide +kernel
theorem dX11_kinds_59 : decode cX11_kinds 59 = .ok (.iload_n 2, 1) := by decide +kernel
theorem dX11_kinds_60 : decode cX11_kinds 60 = .ok (.ireturn, 1) := by decide +kernel
theorem lk_TrapCorner_204 : LK "TrapCorner" 204 [10] 7 := by
  intro ci hci
  have hci := List.mem_singleton.mp hci
  subst hci
  exact ⟨RX10, TX10, 13, "TrapCorner$Town", ck_10, by decide, tw_90, Or.inl rfl⟩
theorem vk_TrapCorner_172 : VK "TrapCorner" 172 [11] yX11_hasCity 0 := ⟨tw_790, tw_792, tw_1, ⟨by decide, by decide⟩, by decide +kernel, fun ci hci => by
  have hci := List.mem_singleton.mp hci
  subst hci
  exact ⟨_, rfl, tp_18⟩⟩
section
variable {g : GG} {p : Program} {l : Launch} {e : Env} {R : Room} {s : State} {m : MethodId} {args : Array Value} {below : List Frame} {meth : Method} {c : Code} {n0 z0 : Nat}
def f_X11_kinds_53 (k23 : Nat → Int32 → Int32 → Int32 → AH → Option (Int32 × AH)) (o0 : Nat) (x1 : Int32) (x2 : Int32) (x3 : Int32) (h : AH) : Option (Int32 × AH) :=
  k23 o0 x1 x2 (x3 + 1) h
set_option maxHeartbeats 1000000 in
theorem w_X11_kinds_53 (X : Cx g p s m args meth c cX11_kinds 4 "TrapCorner") (hR : 2 ≤ R.frames ∧ 128 ≤ R.locals) (hr : meth.sig.returnType = (some (.int))) {res : Int32 × AH} {k23 : Nat → Int32 → Int32 → Int32 → AH → Option (Int32 × AH)} (hk23 : ∀ (o0 : Nat) (x1 : Int32) (x2 : Int32) (x3 : Int32) (h : AH) (ls : Array Slot) (H : Heap) (locs : List Loc), k23 o0 x1 x2 x3 h = some res → Iv g s n0 z0 h H locs 0 0 → lv_has ls 4 [(0, .ref (rfG g o0)), (1, .int x1), (2, .int x2), (3, .int x3)] → W p l e R s m args below meth c H locs 0 0 (MQ below (QG g (some (.int res.1)) res.2) args s 0 0 (AG g)) (F0 m 23 ls [])) : ∀ (o0 : Nat) (x1 : Int32) (x2 : Int32) (x3 : Int32) (h : AH) (ls : Array Slot) (H : Heap) (locs : List Loc), f_X11_kinds_53 k23 o0 x1 x2 x3 h = some res → Iv g s n0 z0 h H locs 0 0 → lv_has ls 4 [(0, .ref (rfG g o0)), (1, .int x1), (2, .int x2), (3, .int x3)] → W p l e R s m args below meth c H locs 0 0 (MQ below (QG g (some (.int res.1)) res.2) args s 0 0 (AG g)) (F0 m 53 ls []) := by
  have hx := X.1
  have hb := X.2.1
  intro o0 x1 x2 x3 h ls H locs hf I hl
  unfold f_X11_kinds_53 at hf
  refine lv_iinc (v := x3 + 1) (lv' := [(3, .int (x3 + 1)), (0, .ref (rfG g o0)), (1, .int x1), (2, .int x2)]) hx hb dX11_kinds_53 hl (k := 3) rfl rfl (by decide) rfl (fun ls hl => ?_)
  refine lv_goto (tgt := 23) hx hb dX11_kinds_56 (by decide) ?_
  exact hk23 o0 x1 x2 (x3 + 1) h ls H locs hf I (lv_sub hl [1, 2, 3, 0] rfl)
def f_X11_kinds_23  : Nat → Nat → Int32 → Int32 → Int32 → AH → Option (Int32 × AH)
  | 0, _, _, _, _, _ => none
  | n + 1, o0, x1, x2, x3, h =>
  (gR [11] h o0 4).bind fun v1 =>
  (gI [10] h v1 1).bind fun v3 =>
  if v3 ≤ x3 then
    some (x2, h)
  else
    (gR [11] h o0 4).bind fun v6 =>
    (gR [10] h v6 7).bind fun v8 =>
    (aI 0 h v8 x3).bind fun v10 =>
    if v10 = x1 then
      f_X11_kinds_53 (f_X11_kinds_23 n) o0 x1 (x2 ||| (1 <<< (x3 &&& 31))) x3 h
    else
      f_X11_kinds_53 (f_X11_kinds_23 n) o0 x1 x2 x3 h
set_option maxHeartbeats 1000000 in
theorem w_X11_kinds_23 (X : Cx g p s m args meth c cX11_kinds 4 "TrapCorner") (hR : 2 ≤ R.frames ∧ 128 ≤ R.locals) (hr : meth.sig.returnType = (some (.int))) {res : Int32 × AH} : ∀ (n : Nat) (o0 : Nat) (x1 : Int32) (x2 : Int32) (x3 : Int32) (h : AH) (ls : Array Slot) (H : Heap) (locs : List Loc), f_X11_kinds_23 n o0 x1 x2 x3 h = some res → Iv g s n0 z0 h H locs 0 0 → lv_has ls 4 [(0, .ref (rfG g o0)), (1, .int x1), (2, .int x2), (3, .int x3)] → W p l e R s m args below meth c H locs 0 0 (MQ below (QG g (some (.int res.1)) res.2) args s 0 0 (AG g)) (F0 m 23 ls []) := by
  have hx := X.1
  have hb := X.2.1
  intro n
  induction n with
  | zero =>
    intro o0 x1 x2 x3 h ls H locs hf
    rw [f_X11_kinds_23.eq_1] at hf
    cases hf
  | succ n ih =>
    intro o0 x1 x2 x3 h ls H locs hf I hl
    rw [f_X11_kinds_23.eq_2] at hf
    refine lv_iload_n hx hb dX11_kinds_23 rfl (lv_at hl 3 rfl) ?_
    refine lv_aload_n hx hb dX11_kinds_24 rfl (lv_at hl 0 rfl) ?_
    obtain ⟨v1, e2, hf⟩ := Option.bind_eq_some_iff.mp hf
    refine r_gR X I e2 lk_TrapCorner_42 dX11_kinds_25 ?_
    obtain ⟨v3, e4, hf⟩ := Option.bind_eq_some_iff.mp hf
    refine r_gI X I e4 lk_TrapCorner_156 dX11_kinds_28 ?_
    refine lv_icmp_ge (tgt := 59) hx hb dX11_kinds_31 (by decide) (fun c5 => ?_) (fun c5 => ?_)
    · rw [if_pos c5] at hf
      refine lv_iload_n hx hb dX11_kinds_59 rfl (lv_at hl 2 rfl) ?_
      cases hf
      exact k_ri X I hr dX11_kinds_60
    · rw [if_neg c5] at hf
      refine lv_aload_n hx hb dX11_kinds_34 rfl (lv_at hl 0 rfl) ?_
      obtain ⟨v6, e7, hf⟩ := Option.bind_eq_some_iff.mp hf
      refine r_gR X I e7 lk_TrapCorner_42 dX11_kinds_35 ?_
      obtain ⟨v8, e9, hf⟩ := Option.bind_eq_some_iff.mp hf
      refine r_gR X I e9 lk_TrapCorner_204 dX11_kinds_38 ?_
      refine lv_iload_n hx hb dX11_kinds_41 rfl (lv_at hl 3 rfl) ?_
      obtain ⟨v10, e11, hf⟩ := Option.bind_eq_some_iff.mp hf
      refine r_aI0 X I e11 dX11_kinds_42 ?_
      refine lv_iload_n hx hb dX11_kinds_43 rfl (lv_at hl 1 rfl) ?_
      refine lv_icmp_ne (tgt := 53) hx hb dX11_kinds_44 (by decide) (fun c12 => ?_) (fun c12 => ?_)
      · rw [if_neg c12] at hf
        exact w_X11_kinds_53 X hR hr ih o0 x1 x2 x3 h ls H locs hf I (lv_sub hl [0, 1, 2, 3] rfl)
      · rw [if_pos c12] at hf
        refine lv_iload_n hx hb dX11_kinds_47 rfl (lv_at hl 2 rfl) ?_
        refine lv_iconst (v := 1) hx hb dX11_kinds_48 (by decide) ?_
        refine lv_iload_n hx hb dX11_kinds_49 rfl (lv_at hl 3 rfl) ?_
        refine lv_ishl hx hb dX11_kinds_50 ?_
        refine lv_ior hx hb dX11_kinds_51 ?_
        refine lv_istore_n (lv' := [(2, .int (x2 ||| (1 <<< (x3 &&& 31)))), (0, .ref (rfG g o0)), (1, .int x1), (3, .int x3)]) hx hb dX11_kinds_52 rfl hl (by decide) rfl (fun ls hl => ?_)
        exact w_X11_kinds_53 X hR hr ih o0 x1 (x2 ||| (1 <<< (x3 &&& 31))) x3 h ls H locs hf I (lv_sub hl [1, 2, 0, 3] rfl)
def f_X11_kinds_0  (o0 : Nat) (x1 : Int32) (h : AH) : Option (Int32 × AH) :=
  (isC [11] h o0).bind fun _ =>
  cN (f_X11_hasCity o0 h) h fun v1 h2 =>
  if v1 = 0 then
    some ((-1), h2)
  else
    if x1 < 1 then
      some ((-1), h2)
    else
      if x1 ≤ 3 then
        f_X11_kinds_23 fu o0 x1 0 0 h2
      else
        some ((-1), h2)
set_option maxHeartbeats 1000000 in
theorem w_X11_kinds_0 (X : Cx g p s m args meth c cX11_kinds 4 "TrapCorner") (hR : 2 ≤ R.frames ∧ 128 ≤ R.locals) (hr : meth.sig.returnType = (some (.int))) {res : Int32 × AH} : ∀ (o0 : Nat) (x1 : Int32) (h : AH) (ls : Array Slot) (H : Heap) (locs : List Loc), f_X11_kinds_0 o0 x1 h = some res → Iv g s n0 z0 h H locs 0 0 → lv_has ls 4 [(0, .ref (rfG g o0)), (1, .int x1)] → W p l e R s m args below meth c H locs 0 0 (MQ below (QG g (some (.int res.1)) res.2) args s 0 0 (AG g)) (F0 m 0 ls []) := by
  have hx := X.1
  have hb := X.2.1
  intro o0 x1 h ls H locs hf I hl
  unfold f_X11_kinds_0 at hf
  refine lv_aload_n hx hb dX11_kinds_0 rfl (lv_at hl 0 rfl) ?_
  obtain ⟨_, g5, hf⟩ := Option.bind_eq_some_iff.mp hf
  obtain ⟨v1, h2, e3, z4, hf⟩ := cN_spec hf
  refine k_Vi (As := []) (rest := []) X I (c_X11_hasCity l g o0 e3) z4 g5 vk_TrapCorner_172 tw_793 ⟨Nat.le_trans (by decide) hR.1, Nat.le_trans (by decide) hR.2⟩ ⟨Nat.zero_le _, Nat.zero_le _⟩ rfl hl.1 rfl (Nat.le_of_ble_eq_true rfl) dX11_kinds_1 (fun H locs I => ?_)
  refine lv_if_eq (tgt := 17) hx hb dX11_kinds_4 (by decide) (fun c6 => ?_) (fun c6 => ?_)
  · rw [if_pos c6] at hf
    refine lv_iconst (v := (-1)) hx hb dX11_kinds_17 (by decide) ?_
    cases hf
    exact k_ri X I hr dX11_kinds_18
  · rw [if_neg c6] at hf
    refine lv_iload_n hx hb dX11_kinds_7 rfl (lv_at hl 1 rfl) ?_
    refine lv_iconst (v := 1) hx hb dX11_kinds_8 (by decide) ?_
    refine lv_icmp_lt (tgt := 17) hx hb dX11_kinds_9 (by decide) (fun c7 => ?_) (fun c7 => ?_)
    · rw [if_pos c7] at hf
      refine lv_iconst (v := (-1)) hx hb dX11_kinds_17 (by decide) ?_
      cases hf
      exact k_ri X I hr dX11_kinds_18
    · rw [if_neg c7] at hf
      refine lv_iload_n hx hb dX11_kinds_12 rfl (lv_at hl 1 rfl) ?_
      refine lv_iconst (v := 3) hx hb dX11_kinds_13 (by decide) ?_
      refine lv_icmp_le (tgt := 19) hx hb dX11_kinds_14 (by decide) (fun c8 => ?_) (fun c8 => ?_)
      · rw [if_pos c8] at hf
        refine lv_iconst (v := 0) hx hb dX11_kinds_19 (by decide) ?_
        refine lv_istore_n (lv' := [(2, .int 0), (0, .ref (rfG g o0)), (1, .int x1)]) hx hb dX11_kinds_20 rfl hl (by decide) rfl (fun ls hl => ?_)
        refine lv_iconst (v := 0) hx hb dX11_kinds_21 (by decide) ?_
        refine lv_istore_n (lv' := [(3, .int 0), (2, .int 0), (0, .ref (rfG g o0)), (1, .int x1)]) hx hb dX11_kinds_22 rfl hl (by decide) rfl (fun ls hl => ?_)
        exact w_X11_kinds_23 X hR hr fu o0 x1 0 0 h2 ls H locs hf I (lv_sub hl [2, 3, 1, 0] rfl)
      · rw [if_neg c8] at hf
        refine lv_iconst (v := (-1)) hx hb dX11_kinds_17 (by decide) ?_
        cases hf
        exact k_ri X I hr dX11_kinds_18
def f_X11_kinds (o0 : Nat) (x1 : Int32) (h : AH) : Option (Int32 × AH) := f_X11_kinds_0 o0 x1 h
end
theorem c_X11_kinds (l : Launch) (g : GG) (o0 : Nat) (x1 : Int32) {h : AH} {res : Int32 × AH} (hf : f_X11_kinds o0 x1 h = some res) : CM l g yX11_kinds cX11_kinds 4 (some (.int)) 2 128 0 0 [.ref (rfG g o0), .int x1] h (some (.int res.1)) res.2 :=
  k_body (by decide) (Nat.le_of_ble_eq_true rfl) (fun p e s m below meth c R ls hR hr X I hl => w_X11_kinds_0 X ⟨Nat.le_of_eq hR.1.symm, Nat.le_of_eq hR.2.1.symm⟩ hr o0 x1 h ls s.heap [] hf I (lv_sub hl [0, 1] rfl))
