/-! TrapCorner.shares(II)I -/
theorem dX11_shares_0 : decode cX11_shares 0 = .ok (.aload_n 0, 1) := by decide +kernel
theorem dX11_shares_1 : decode cX11_shares 1 = .ok (.iload_n 1, 1) := by decide +kernel
theorem dX11_shares_2 : decode cX11_shares 2 = .ok (.invokevirtual 184, 3) := by decide +kernel
theorem dX11_shares_5 : decode cX11_shares 5 = .ok (.ifCond .eq 14, 3) := by decide +kernel
theorem dX11_shares_8 : decode cX11_shares 8 = .ok (.iload_n 2, 1) := by decide +kernel
theorem dX11_shares_9 : decode cX11_shares 9 = .ok (.ifCond .lt 10, 3) := by decide +kernel
theorem dX11_shares_12 : decode cX11_shares 12 = .ok (.iload_n 2, 1) := by decide +kernel
theorem dX11_shares_13 : decode cX11_shares 13 = .ok (.sipush 999, 3) := by decide +kernel
theorem dX11_shares_16 : decode cX11_shares 16 = .ok (.if_icmp .le 5, 3) := by decide +kernel
theorem dX11_shares_19 : decode cX11_shares 19 = .ok (.iconst (-1), 1) := by decide +kernel
theorem dX11_shares_20 : decode cX11_shares 20 = .ok (.ireturn, 1) := by decide +kernel
theorem dX11_shares_21 : decode cX11_shares 21 = .ok (.iconst 0, 1) := by decide +kernel
theorem dX11_shares_22 : decode cX11_shares 22 = .ok (.istore_n 3, 1) := by decide +kernel
theorem dX11_shares_23 : decode cX11_shares 23 = .ok (.iconst 0, 1) := by decide +kernel
theorem dX11_shares_24 : decode cX11_shares 24 = .ok (.istore 4, 2) := by decide +kernel
theorem dX11_shares_26 : decode cX11_shares 26 = .ok (.iload 4, 2) := by decide +kernel
theorem dX11_shares_28 : decode cX11_shares 28 = .ok (.aload_n 0, 1) := by decide +kernel
theorem dX11_shares_29 : decode cX11_shares 29 = .ok (.getfield 42, 3) := by decide +kernel
theorem dX11_shares_32 : decode cX11_shares 32 = .ok (.getfield 253, 3) := by decide +kernel
theorem dX11_shares_35 : decode cX11_shares 35 = .ok (.if_icmp .ge 22, 3) := by decide +kernel
theorem dX11_shares_38 : decode cX11_shares 38 = .ok (.iload_n 3, 1) := by decide +kernel
theorem dX11_shares_39 : decode cX11_shares 39 = .ok (.aload_n 0, 1) := by decide +kernel
theorem dX11_shares_40 : decode cX11_shares 40 = .ok (.getfield 49, 3) := by decide +kernel
theorem dX11_shares_43 : decode cX11_shares 43 = .ok (.getfield 191, 3) := by decide +kernel
theorem dX11_shares_46 : decode cX11_shares 46 = .ok (.iload 4, 2) := by decide +kernel
theorem dX11_shares_48 : decode cX11_shares 48 = .ok (.iaload, 1) := by decide +kernel
theorem dX11_shares_49 : decode cX11_shares 49 = .ok (.iadd, 1) := by decide +kernel
theorem dX11_shares_50 : decode cX11_shares 50 = .ok (.istore_n 3, 1) := by decide +kernel
theorem dX11_shares_51 : decode cX11_shares 51 = .ok (.iinc 4 1, 3) := by decide +kernel
theorem dX11_shares_54 : decode cX11_shares 54 = .ok (.goto (-28), 3) := by decide +kernel
theorem dX11_shares_57 : decode cX11_shares 57 = .ok (.iload_n 3, 1) := by decide +kernel
theorem dX11_shares_58 : decode cX11_shares 58 = .ok (.ifCond .ne 7, 3) := by decide +kernel
theorem dX11_shares_61 : decode cX11_shares 61 = .ok (.iconst 0, 1) := by decide +kernel
theorem dX11_shares_62 : decode cX11_shares 62 = .ok (.goto 16, 3) := by decide +kernel
theorem dX11_shares_65 : decode cX11_shares 65 = .ok (.iload_n 2, 1) := by decide +kernel
theorem dX11_shares_66 : decode cX11_shares 66 = .ok (.aload_n 0, 1) := by decide +kernel
theorem dX11_shares_67 : decode cX11_shares 67 = .ok (.getfield 49, 3) := by decide +kernel
theorem dX11_shares_70 : decode cX11_shares 70 = .ok (.getfield 191, 3) := by decide +kernel
theorem dX11_shares_73 : decode cX11_shares 73 = .ok (.iload_n 1, 1) := by decide +kernel
theorem dX11_shares_74 : decode cX11_shares 74 = .ok (.iaload, 1) := by decide +kernel
theorem dX11_shares_75 : decode cX11_shares 75 = .ok (.imul, 1) := by decide +kernel
theorem dX11_shares_76 : decode cX11_shares 76 = .ok (.iload_n 3, 1) := by decide +kernel
theorem dX11_shares_77 : decode cX11_shares 77 = .ok (.idiv, 1) := by decide +kernel
theorem dX11_shares_78 : decode cX11_shares 78 = .ok (.ireturn, 1) := by decide +kernel
theorem lk_TrapCorner_191 : LK "TrapCorner" 191 [8] 1 := by
  intro ci hci
  have hci := List.mem_singleton.mp hci
  subst hci
  exact ⟨RX8, TX8, 8, "TrapCorner$State", ck_8, by decide, tw_205, Or.inl rfl⟩
theorem vk_TrapCorner_184 : VK "TrapCorner" 184 [11] yX11_hasCorner 1 := ⟨tw_798, tw_800, tw_1, ⟨by decide, by decide⟩, by decide +kernel, fun ci hci => by
  have hci := List.mem_singleton.mp hci
  subst hci
  exact ⟨_, rfl, tp_19⟩⟩
section
variable {g : GG} {p : Program} {l : Launch} {e : Env} {R : Room} {s : State} {m : MethodId} {args : Array Value} {below : List Frame} {meth : Method} {c : Code} {n0 z0 : Nat}
def f_X11_shares_26  : Nat → Nat → Int32 → Int32 → Int32 → Int32 → AH → Option (Int32 × AH)
  | 0, _, _, _, _, _, _ => none
  | n + 1, o0, x1, x2, x3, x4, h =>
  (gR [11] h o0 4).bind fun v1 =>
  (gI [10] h v1 0).bind fun v3 =>
  if v3 ≤ x4 then
    if x3 = 0 then
      some (0, h)
    else
      (gR [11] h o0 5).bind fun v7 =>
      (gR [8] h v7 1).bind fun v9 =>
      (aI 0 h v9 x1).bind fun v11 =>
      if x3 = 0 then none else
      some ((x2 * v11) / x3, h)
  else
    (gR [11] h o0 5).bind fun v14 =>
    (gR [8] h v14 1).bind fun v16 =>
    (aI 0 h v16 x4).bind fun v18 =>
    f_X11_shares_26  n o0 x1 x2 (x3 + v18) (x4 + 1) h
set_option maxHeartbeats 1000000 in
theorem w_X11_shares_26 (X : Cx g p s m args meth c cX11_shares 5 "TrapCorner") (hR : 2 ≤ R.frames ∧ 128 ≤ R.locals) (hr : meth.sig.returnType = (some (.int))) {res : Int32 × AH} : ∀ (n : Nat) (o0 : Nat) (x1 : Int32) (x2 : Int32) (x3 : Int32) (x4 : Int32) (h : AH) (ls : Array Slot) (H : Heap) (locs : List Loc), f_X11_shares_26 n o0 x1 x2 x3 x4 h = some res → Iv g s n0 z0 h H locs 0 0 → lv_has ls 5 [(0, .ref (rfG g o0)), (1, .int x1), (2, .int x2), (3, .int x3), (4, .int x4)] → W p l e R s m args below meth c H locs 0 0 (MQ below (QG g (some (.int res.1)) res.2) args s 0 0 (AG g)) (F0 m 26 ls []) := by
  have hx := X.1
  have hb := X.2.1
  intro n
  induction n with
  | zero =>
    intro o0 x1 x2 x3 x4 h ls H locs hf
    rw [f_X11_shares_26.eq_1] at hf
    cases hf
  | succ n ih =>
    intro o0 x1 x2 x3 x4 h ls H locs hf I hl
    rw [f_X11_shares_26.eq_2] at hf
    refine lv_iload hx hb dX11_shares_26 (lv_at hl 4 rfl) ?_
    refine lv_aload_n hx hb dX11_shares_28 rfl (lv_at hl 0 rfl) ?_
    obtain ⟨v1, e2, hf⟩ := Option.bind_eq_some_iff.mp hf
    refine r_gR X I e2 lk_TrapCorner_42 dX11_shares_29 ?_
    obtain ⟨v3, e4, hf⟩ := Option.bind_eq_some_iff.mp hf
    refine r_gI X I e4 lk_TrapCorner_253 dX11_shares_32 ?_
    refine lv_icmp_ge (tgt := 57) hx hb dX11_shares_35 (by decide) (fun c5 => ?_) (fun c5 => ?_)
    · rw [if_pos c5] at hf
      refine lv_iload_n hx hb dX11_shares_57 rfl (lv_at hl 3 rfl) ?_
      refine lv_if_ne (tgt := 65) hx hb dX11_shares_58 (by decide) (fun c6 => ?_) (fun c6 => ?_)
      · rw [if_neg c6] at hf
        refine lv_iload_n hx hb dX11_shares_65 rfl (lv_at hl 2 rfl) ?_
        refine lv_aload_n hx hb dX11_shares_66 rfl (lv_at hl 0 rfl) ?_
        obtain ⟨v7, e8, hf⟩ := Option.bind_eq_some_iff.mp hf
        refine r_gR X I e8 lk_TrapCorner_49 dX11_shares_67 ?_
        obtain ⟨v9, e10, hf⟩ := Option.bind_eq_some_iff.mp hf
        refine r_gR X I e10 lk_TrapCorner_191 dX11_shares_70 ?_
        refine lv_iload_n hx hb dX11_shares_73 rfl (lv_at hl 1 rfl) ?_
        obtain ⟨v11, e12, hf⟩ := Option.bind_eq_some_iff.mp hf
        refine r_aI0 X I e12 dX11_shares_74 ?_
        refine lv_imul hx hb dX11_shares_75 ?_
        refine lv_iload_n hx hb dX11_shares_76 rfl (lv_at hl 3 rfl) ?_
        have c13 : ¬ x3 = 0 := fun z => by rw [if_pos z] at hf; cases hf
        rw [if_neg c13] at hf
        refine lv_idiv hx hb dX11_shares_77 c13 ?_
        cases hf
        exact k_ri X I hr dX11_shares_78
      · rw [if_pos c6] at hf
        refine lv_iconst (v := 0) hx hb dX11_shares_61 (by decide) ?_
        refine lv_goto (tgt := 78) hx hb dX11_shares_62 (by decide) ?_
        cases hf
        exact k_ri X I hr dX11_shares_78
    · rw [if_neg c5] at hf
      refine lv_iload_n hx hb dX11_shares_38 rfl (lv_at hl 3 rfl) ?_
      refine lv_aload_n hx hb dX11_shares_39 rfl (lv_at hl 0 rfl) ?_
      obtain ⟨v14, e15, hf⟩ := Option.bind_eq_some_iff.mp hf
      refine r_gR X I e15 lk_TrapCorner_49 dX11_shares_40 ?_
      obtain ⟨v16, e17, hf⟩ := Option.bind_eq_some_iff.mp hf
      refine r_gR X I e17 lk_TrapCorner_191 dX11_shares_43 ?_
      refine lv_iload hx hb dX11_shares_46 (lv_at hl 4 rfl) ?_
      obtain ⟨v18, e19, hf⟩ := Option.bind_eq_some_iff.mp hf
      refine r_aI0 X I e19 dX11_shares_48 ?_
      refine lv_iadd hx hb dX11_shares_49 ?_
      refine lv_istore_n (lv' := [(3, .int (x3 + v18)), (0, .ref (rfG g o0)), (1, .int x1), (2, .int x2), (4, .int x4)]) hx hb dX11_shares_50 rfl hl (by decide) rfl (fun ls hl => ?_)
      refine lv_iinc (v := x4 + 1) (lv' := [(4, .int (x4 + 1)), (3, .int (x3 + v18)), (0, .ref (rfG g o0)), (1, .int x1), (2, .int x2)]) hx hb dX11_shares_51 hl (k := 4) rfl rfl (by decide) rfl (fun ls hl => ?_)
      refine lv_goto (tgt := 26) hx hb dX11_shares_54 (by decide) ?_
      exact ih o0 x1 x2 (x3 + v18) (x4 + 1) h ls H locs hf I (lv_sub hl [2, 3, 4, 1, 0] rfl)
def f_X11_shares_0  (o0 : Nat) (x1 : Int32) (x2 : Int32) (h : AH) : Option (Int32 × AH) :=
  (isC [11] h o0).bind fun _ =>
  cN (f_X11_hasCorner o0 x1 h) h fun v1 h2 =>
  if v1 = 0 then
    some ((-1), h2)
  else
    if x2 < 0 then
      some ((-1), h2)
    else
      if x2 ≤ 999 then
        f_X11_shares_26 fu o0 x1 x2 0 0 h2
      else
        some ((-1), h2)
set_option maxHeartbeats 1000000 in
theorem w_X11_shares_0 (X : Cx g p s m args meth c cX11_shares 5 "TrapCorner") (hR : 2 ≤ R.frames ∧ 128 ≤ R.locals) (hr : meth.sig.returnType = (some (.int))) {res : Int32 × AH} : ∀ (o0 : Nat) (x1 : Int32) (x2 : Int32) (h : AH) (ls : Array Slot) (H : Heap) (locs : List Loc), f_X11_shares_0 o0 x1 x2 h = some res → Iv g s n0 z0 h H locs 0 0 → lv_has ls 5 [(0, .ref (rfG g o0)), (1, .int x1), (2, .int x2)] → W p l e R s m args below meth c H locs 0 0 (MQ below (QG g (some (.int res.1)) res.2) args s 0 0 (AG g)) (F0 m 0 ls []) := by
  have hx := X.1
  have hb := X.2.1
  intro o0 x1 x2 h ls H locs hf I hl
  unfold f_X11_shares_0 at hf
  refine lv_aload_n hx hb dX11_shares_0 rfl (lv_at hl 0 rfl) ?_
  refine lv_iload_n hx hb dX11_shares_1 rfl (lv_at hl 1 rfl) ?_
  obtain ⟨_, g5, hf⟩ := Option.bind_eq_some_iff.mp hf
  obtain ⟨v1, h2, e3, z4, hf⟩ := cN_spec hf
  refine k_Vi (As := [.int x1]) (rest := []) X I (c_X11_hasCorner l g o0 x1 e3) z4 g5 vk_TrapCorner_184 tw_801 ⟨Nat.le_trans (by decide) hR.1, Nat.le_trans (by decide) hR.2⟩ ⟨Nat.zero_le _, Nat.zero_le _⟩ rfl hl.1 rfl (Nat.le_of_ble_eq_true rfl) dX11_shares_2 (fun H locs I => ?_)
  refine lv_if_eq (tgt := 19) hx hb dX11_shares_5 (by decide) (fun c6 => ?_) (fun c6 => ?_)
  · rw [if_pos c6] at hf
    refine lv_iconst (v := (-1)) hx hb dX11_shares_19 (by decide) ?_
    cases hf
    exact k_ri X I hr dX11_shares_20
  · rw [if_neg c6] at hf
    refine lv_iload_n hx hb dX11_shares_8 rfl (lv_at hl 2 rfl) ?_
    refine lv_if_lt (tgt := 19) hx hb dX11_shares_9 (by decide) (fun c7 => ?_) (fun c7 => ?_)
    · rw [if_pos c7] at hf
      refine lv_iconst (v := (-1)) hx hb dX11_shares_19 (by decide) ?_
      cases hf
      exact k_ri X I hr dX11_shares_20
    · rw [if_neg c7] at hf
      refine lv_iload_n hx hb dX11_shares_12 rfl (lv_at hl 2 rfl) ?_
      refine lv_sipush (v := 999) hx hb dX11_shares_13 (by decide) ?_
      refine lv_icmp_le (tgt := 21) hx hb dX11_shares_16 (by decide) (fun c8 => ?_) (fun c8 => ?_)
      · rw [if_pos c8] at hf
        refine lv_iconst (v := 0) hx hb dX11_shares_21 (by decide) ?_
        refine lv_istore_n (lv' := [(3, .int 0), (0, .ref (rfG g o0)), (1, .int x1), (2, .int x2)]) hx hb dX11_shares_22 rfl hl (by decide) rfl (fun ls hl => ?_)
        refine lv_iconst (v := 0) hx hb dX11_shares_23 (by decide) ?_
        refine lv_istore (lv' := [(4, .int 0), (3, .int 0), (0, .ref (rfG g o0)), (1, .int x1), (2, .int x2)]) hx hb dX11_shares_24 hl (by decide) rfl (fun ls hl => ?_)
        exact w_X11_shares_26 X hR hr fu o0 x1 x2 0 0 h2 ls H locs hf I (lv_sub hl [2, 3, 4, 1, 0] rfl)
      · rw [if_neg c8] at hf
        refine lv_iconst (v := (-1)) hx hb dX11_shares_19 (by decide) ?_
        cases hf
        exact k_ri X I hr dX11_shares_20
def f_X11_shares (o0 : Nat) (x1 : Int32) (x2 : Int32) (h : AH) : Option (Int32 × AH) := f_X11_shares_0 o0 x1 x2 h
end
theorem c_X11_shares (l : Launch) (g : GG) (o0 : Nat) (x1 : Int32) (x2 : Int32) {h : AH} {res : Int32 × AH} (hf : f_X11_shares o0 x1 x2 h = some res) : CM l g yX11_shares cX11_shares 5 (some (.int)) 2 128 0 0 [.ref (rfG g o0), .int x1, .int x2] h (some (.int res.1)) res.2 :=
  k_body (by decide) (Nat.le_of_ble_eq_true rfl) (fun p e s m below meth c R ls hR hr X I hl => w_X11_shares_0 X ⟨Nat.le_of_eq hR.1.symm, Nat.le_of_eq hR.2.1.symm⟩ hr o0 x1 x2 h ls s.heap [] hf I (lv_sub hl [0, 1, 2] rfl))
/-! TrapCornerModel.thrown()I -/
theorem dX12_thrown_0 : decode cX12_thrown 0 = .ok (.aload_n 0, 1) := by decide +kernel
theorem dX12_thrown_1 : decode cX12_thrown 1 = .ok (.getfield 96, 3) := by decide +kernel
theorem dX12_thrown_4 : decode cX12_thrown 4 = .ok (.ireturn, 1) := by decide +kernel
theorem lk_TrapCornerModel_96 : LK "TrapCornerModel" 96 [12] 0 := by
  intro ci hci
  have hci := List.mem_singleton.mp hci
  subst hci
  exact ⟨RX12, TX12, 50, "TrapCornerModel", ck_12, by decide, tw_1287, Or.inl rfl⟩
section
variable {g : GG} {p : Program} {l : Launch} {e : Env} {R : Room} {s : State} {m : MethodId} {args : Array Value} {below : List Frame} {meth : Method} {c : Code} {n0 z0 : Nat}
def f_X12_thrown_0  (o0 : Nat) (h : AH) : Option (Int32 × AH) :=
  (gI [12] h o0 0).bind fun v1 =>
  some (v1, h)
set_option maxHeartbeats 1000000 in
theorem w_X12_thrown_0 (X : Cx g p s m args meth c cX12_thrown 1 "TrapCornerModel") (hR : 1 ≤ R.frames ∧ 64 ≤ R.locals) (hr : meth.sig.returnType = (some (.int))) {res : Int32 × AH} : ∀ (o0 : Nat) (h : AH) (ls : Array Slot) (H : Heap) (locs : List Loc), f_X12_thrown_0 o0 h = some res → Iv g s n0 z0 h H locs 0 0 → lv_has ls 1 [(0, .ref (rfG g o0))] → W p l e R s m args below meth c H locs 0 0 (MQ below (QG g (some (.int res.1)) res.2) args s 0 0 (AG g)) (F0 m 0 ls []) := by
  have hx := X.1
  have hb := X.2.1
  intro o0 h ls H locs hf I hl
  unfold f_X12_thrown_0 at hf
  refine lv_aload_n hx hb dX12_thrown_0 rfl (lv_at hl 0 rfl) ?_
  obtain ⟨v1, e2, hf⟩ := Option.bind_eq_some_iff.mp hf
  refine r_gI X I e2 lk_TrapCornerModel_96 dX12_thrown_1 ?_
  cases hf
  exact k_ri X I hr dX12_thrown_4
def f_X12_thrown (o0 : Nat) (h : AH) : Option (Int32 × AH) := f_X12_thrown_0 o0 h
end
theorem c_X12_thrown (l : Launch) (g : GG) (o0 : Nat) {h : AH} {res : Int32 × AH} (hf : f_X12_thrown o0 h = some res) : CM l g yX12_thrown cX12_thrown 1 (some (.int)) 1 64 0 0 [.ref (rfG g o0)] h (some (.int res.1)) res.2 :=
  k_body (by decide) (Nat.le_of_ble_eq_true rfl) (fun p e s m below meth c R ls hR hr X I hl => w_X12_thrown_0 X ⟨Nat.le_of_eq hR.1.symm, Nat.le_of_eq hR.2.1.symm⟩ hr o0 h ls s.heap [] hf I (lv_sub hl [0] rfl))
/-! TrapCornerModel.isIn(JJJ)Z -/
theorem dX12_isIn_0 : decode cX12_isIn 0 = .ok (.lload_n 0, 1) := by decide +kernel
theorem dX12_isIn_1 : decode cX12_isIn 1 = .ok (.lload_n 2, 1) := by decide +kernel
theorem dX12_isIn_2 : decode cX12_isIn 2 = .ok (.lcmp, 1) := by decide +kernel
theorem dX12_isIn_3 : decode cX12_isIn 3 = .ok (.ifCond .lt 14, 3) := by decide +kernel
theorem dX12_isIn_6 : decode cX12_isIn 6 = .ok (.lload_n 0, 1) := by decide +kernel
theorem dX12_isIn_7 : decode cX12_isIn 7 = .ok (.lload 4, 2) := by decide +kernel
theorem dX12_isIn_9 : decode cX12_isIn 9 = .ok (.lcmp, 1) := by decide +kernel
theorem dX12_isIn_10 : decode cX12_isIn 10 = .ok (.ifCond .gt 7, 3) := by decide +kernel
theorem dX12_isIn_13 : decode cX12_isIn 13 = .ok (.iconst 1, 1) := by decide +kernel
theorem dX12_isIn_14 : decode cX12_isIn 14 = .ok (.goto 4, 3) := by decide +kernel
theorem dX12_isIn_17 : decode cX12_isIn 17 = .ok (.iconst 0, 1) := by decide +kernel
theorem dX12_isIn_18 : decode cX12_isIn 18 = .ok (.ireturn, 1) := by decide +kernel
section
variable {g : GG} {p : Program} {l : Launch} {e : Env} {R : Room} {s : State} {m : MethodId} {args : Array Value} {below : List Frame} {meth : Method} {c : Code} {n0 z0 : Nat}
def f_X12_isIn_0  (y0 : Int64) (y2 : Int64) (y4 : Int64) (h : AH) : Option (Int32 × AH) :=
  if (lg_cmp y0 y2) < 0 then
    some (0, h)
  else
    if 0 < (lg_cmp y0 y4) then
      some (0, h)
    else
      some (1, h)
set_option maxHeartbeats 1000000 in
theorem w_X12_isIn_0 (X : Cx g p s m args meth c cX12_isIn 6 "TrapCornerModel") (hR : 1 ≤ R.frames ∧ 64 ≤ R.locals) (hr : meth.sig.returnType = (some (.boolean))) {res : Int32 × AH} : ∀ (y0 : Int64) (y2 : Int64) (y4 : Int64) (h : AH) (ls : Array Slot) (H : Heap) (locs : List Loc), f_X12_isIn_0 y0 y2 y4 h = some res → Iv g s n0 z0 h H locs 0 0 → lv_has ls 6 [(0, .long y0), (2, .long y2), (4, .long y4)] → W p l e R s m args below meth c H locs 0 0 (MQ below (QG g (some (.int res.1)) res.2) args s 0 0 (AG g)) (F0 m 0 ls []) := by
  have hx := X.1
  have hb := X.2.1
  intro y0 y2 y4 h ls H locs hf I hl
  unfold f_X12_isIn_0 at hf
  refine lv_lload_n hx hb dX12_isIn_0 rfl (lv_at hl 0 rfl) ?_
  refine lv_lload_n hx hb dX12_isIn_1 rfl (lv_at hl 1 rfl) ?_
  refine W.lcmp hx hb dX12_isIn_2 ?_
  refine lv_if_lt (tgt := 17) hx hb dX12_isIn_3 (by decide) (fun c1 => ?_) (fun c1 => ?_)
  · rw [if_pos c1] at hf
    refine lv_iconst (v := 0) hx hb dX12_isIn_17 (by decide) ?_
    cases hf
    exact k_rz X I hr (Or.inl rfl) dX12_isIn_18
  · rw [if_neg c1] at hf
    refine lv_lload_n hx hb dX12_isIn_6 rfl (lv_at hl 0 rfl) ?_
    refine lv_lload hx hb dX12_isIn_7 (lv_at hl 2 rfl) ?_
    refine W.lcmp hx hb dX12_isIn_9 ?_
    refine lv_if_gt (tgt := 17) hx hb dX12_isIn_10 (by decide) (fun c2 => ?_) (fun c2 => ?_)
    · rw [if_pos c2] at hf
      refine lv_iconst (v := 0) hx hb dX12_isIn_17 (by decide) ?_
      cases hf
      exact k_rz X I hr (Or.inl rfl) dX12_isIn_18
    · rw [if_neg c2] at hf
      refine lv_iconst (v := 1) hx hb dX12_isIn_13 (by decide) ?_
      refine lv_goto (tgt := 18) hx hb dX12_isIn_14 (by decide) ?_
      cases hf
      exact k_rz X I hr (Or.inr rfl) dX12_isIn_18
def f_X12_isIn (y0 : Int64) (y2 : Int64) (y4 : Int64) (h : AH) : Option (Int32 × AH) := f_X12_isIn_0 y0 y2 y4 h
end
theorem c_X12_isIn (l : Launch) (g : GG) (y0 : Int64) (y2 : Int64) (y4 : Int64) {h : AH} {res : Int32 × AH} (hf : f_X12_isIn y0 y2 y4 h = some res) : CM l g yX12_isIn cX12_isIn 6 (some (.boolean)) 1 64 0 0 [.long y0, .long y2, .long y4] h (some (.int res.1)) res.2 :=
  k_body (by decide) (Nat.le_of_ble_eq_true rfl) (fun p e s m below meth c R ls hR hr X I hl => w_X12_isIn_0 X ⟨Nat.le_of_eq hR.1.symm, Nat.le_of_eq hR.2.1.symm⟩ hr y0 y2 y4 h ls s.heap [] hf I (lv_sub hl [0, 1, 2] rfl))
/-! TrapCornerModel.has(II)Z -/
theorem dX12_has_0 : decode cX12_has 0 = .ok (.iload_n 0, 1) := by decide +kernel
theorem dX12_has_1 : decode cX12_has 1 = .ok (.iload_n 1, 1) := by decide +kernel
theorem dX12_has_2 : decode cX12_has 2 = .ok (.ishr, 1) := by decide +kernel
theorem dX12_has_3 : decode cX12_has 3 = .ok (.iconst 1, 1) := by decide +kernel
theorem dX12_has_4 : decode cX12_has 4 = .ok (.iand, 1) := by decide +kernel
theorem dX12_has_5 : decode cX12_has 5 = .ok (.iconst 1, 1) := by decide +kernel
theorem dX12_has_6 : decode cX12_has 6 = .ok (.if_icmp .ne 7, 3) := by decide +kernel
theorem dX12_has_9 : decode cX12_has 9 = .ok (.iconst 1, 1) := by decide +kernel
theorem dX12_has_10 : decode cX12_has 10 = .ok (.goto 4, 3) := by decide +kernel
theorem dX12_has_13 : decode cX12_has 13 = .ok (.iconst 0, 1) := by decide +kernel
theorem dX12_has_14 : decode cX12_has 14 = .ok (.ireturn, 1) := by decide +kernel
section
variable {g : GG} {p : Program} {l : Launch} {e : Env} {R : Room} {s : State} {m : MethodId} {args : Array Value} {below : List Frame} {meth : Method} {c : Code} {n0 z0 : Nat}
def f_X12_has_0  (x0 : Int32) (x1 : Int32) (h : AH) : Option (Int32 × AH) :=
  if ((x0 >>> (x1 &&& 31)) &&& 1) = 1 then
    some (1, h)
  else
    some (0, h)
set_option maxHeartbeats 1000000 in
theorem w_X12_has_0 (X : Cx g p s m args meth c cX12_has 2 "TrapCornerModel") (hR : 1 ≤ R.frames ∧ 64 ≤ R.locals) (hr : meth.sig.returnType = (some (.boolean))) {res : Int32 × AH} : ∀ (x0 : Int32) (x1 : Int32) (h : AH) (ls : Array Slot) (H : Heap) (locs : List Loc), f_X12_has_0 x0 x1 h = some res → Iv g s n0 z0 h H locs 0 0 → lv_has ls 2 [(0, .int x0), (1, .int x1)] → W p l e R s m args below meth c H locs 0 0 (MQ below (QG g (some (.int res.1)) res.2) args s 0 0 (AG g)) (F0 m 0 ls []) := by
  have hx := X.1
  have hb := X.2.1
  intro x0 x1 h ls H locs hf I hl
  unfold f_X12_has_0 at hf
  refine lv_iload_n hx hb dX12_has_0 rfl (lv_at hl 0 rfl) ?_
  refine lv_iload_n hx hb dX12_has_1 rfl (lv_at hl 1 rfl) ?_
  refine lv_ishr hx hb dX12_has_2 ?_
  refine lv_iconst (v := 1) hx hb dX12_has_3 (by decide) ?_
  refine lv_iand hx hb dX12_has_4 ?_
  refine lv_iconst (v := 1) hx hb dX12_has_5 (by decide) ?_
  refine lv_icmp_ne (tgt := 13) hx hb dX12_has_6 (by decide) (fun c1 => ?_) (fun c1 => ?_)
  · rw [if_neg c1] at hf
    refine lv_iconst (v := 0) hx hb dX12_has_13 (by decide) ?_
    cases hf
    exact k_rz X I hr (Or.inl rfl) dX12_has_14
  · rw [if_pos c1] at hf
    refine lv_iconst (v := 1) hx hb dX12_has_9 (by decide) ?_
    refine lv_goto (tgt := 14) hx hb dX12_has_10 (by decide) ?_
    cases hf
    exact k_rz X I hr (Or.inr rfl) dX12_has_14
def f_X12_has (x0 : Int32) (x1 : Int32) (h : AH) : Option (Int32 × AH) := f_X12_has_0 x0 x1 h
end
theorem c_X12_has (l : Launch) (g : GG) (x0 : Int32) (x1 : Int32) {h : AH} {res : Int32 × AH} (hf : f_X12_has x0 x1 h = some res) : CM l g yX12_has cX12_has 2 (some (.boolean)) 1 64 0 0 [.int x0, .int x1] h (some (.int res.1)) res.2 :=
  k_body (by decide) (Nat.le_of_ble_eq_true rfl) (fun p e s m below meth c R ls hR hr X I hl => w_X12_has_0 X ⟨Nat.le_of_eq hR.1.symm, Nat.le_of_eq hR.2.1.symm⟩ hr x0 x1 h ls s.heap [] hf I (lv_sub hl [0, 1] rfl))
/-! TrapCornerModel.bytesIn(I)I -/
theorem dX12_bytesIn_0 : decode cX12_bytesIn 0 = .ok (.iconst 0, 1) := by decide +kernel
theorem dX12_bytesIn_1 : decode cX12_bytesIn 1 = .ok (.istore_n 1, 1) := by decide +kernel
theorem dX12_bytesIn_2 : decode cX12_bytesIn 2 = .ok (.bipush 24, 2) := by decide +kernel
theorem dX12_bytesIn_4 : decode cX12_bytesIn 4 = .ok (.istore_n 2, 1) := by decide +kernel
theorem dX12_bytesIn_5 : decode cX12_bytesIn 5 = .ok (.iload_n 2, 1) := by decide +kernel
theorem dX12_bytesIn_6 : decode cX12_bytesIn 6 = .ok (.ifCond .lt 27, 3) := by decide +kernel
theorem dX12_bytesIn_9 : decode cX12_bytesIn 9 = .ok (.iload_n 1, 1) := by decide +kernel
theorem dX12_bytesIn_10 : decode cX12_bytesIn 10 = .ok (.iload_n 0, 1) := by decide +kernel
theorem dX12_bytesIn_11 : decode cX12_bytesIn 11 = .ok (.iload_n 2, 1) := by decide +kernel
theorem dX12_bytesIn_12 : decode cX12_bytesIn 12 = .ok (.ishr, 1) := by decide +kernel
theorem dX12_bytesIn_13 : decode cX12_bytesIn 13 = .ok (.sipush 255, 3) := by decide +kernel
theorem dX12_bytesIn_16 : decode cX12_bytesIn 16 = .ok (.iand, 1) := by decide +kernel
theorem dX12_bytesIn_17 : decode cX12_bytesIn 17 = .ok (.ifCond .eq 7, 3) := by decide +kernel
theorem dX12_bytesIn_20 : decode cX12_bytesIn 20 = .ok (.iconst 1, 1) := by decide +kernel
theorem dX12_bytesIn_21 : decode cX12_bytesIn 21 = .ok (.goto 4, 3) := by decide +kernel
theorem dX12_bytesIn_24 : decode cX12_bytesIn 24 = .ok (.iconst 0, 1) := by decide +kernel
theorem dX12_bytesIn_25 : decode cX12_bytesIn 25 = .ok (.iadd, 1) := by decide +kernel
theorem dX12_bytesIn_26 : decode cX12_bytesIn 26 = .ok (.istore_n 1, 1) := by decide +kernel
theorem dX12_bytesIn_27 : decode cX12_bytesIn 27 = .ok (.iinc 2 (-8), 3) := by decide +kernel
theorem dX12_bytesIn_30 : decode cX12_bytesIn 30 = .ok (.goto (-25), 3) := by decide +kernel
theorem dX12_bytesIn_33 : decode cX12_bytesIn 33 = .ok (.iload_n 1, 1) := by decide +kernel
theorem dX12_bytesIn_34 : decode cX12_bytesIn 34 = .ok (.ireturn, 1) := by decide +kernel
section
variable {g : GG} {p : Program} {l : Launch} {e : Env} {R : Room} {s : State} {m : MethodId} {args : Array Value} {below : List Frame} {meth : Method} {c : Code} {n0 z0 : Nat}
def f_X12_bytesIn_25 (k5 : Int32 → Int32 → Int32 → AH → Option (Int32 × AH)) (x0 : Int32) (x2 : Int32) (s0 : Int32) (s1 : Int32) (h : AH) : Option (Int32 × AH) :=
  k5 x0 (s0 + s1) (x2 + (-8)) h
set_option maxHeartbeats 1000000 in
theorem w_X12_bytesIn_25 (X : Cx g p s m args meth c cX12_bytesIn 3 "TrapCornerModel") (hR : 1 ≤ R.frames ∧ 64 ≤ R.locals) (hr : meth.sig.returnType = (some (.int))) {res : Int32 × AH} {k5 : Int32 → Int32 → Int32 → AH → Option (Int32 × AH)} (hk5 : ∀ (x0 : Int32) (x1 : Int32) (x2 : Int32) (h : AH) (ls : Array Slot) (H : Heap) (locs : List Loc), k5 x0 x1 x2 h = some res → Iv g s n0 z0 h H locs 0 0 → lv_has ls 3 [(0, .int x0), (1, .int x1), (2, .int x2)] → W p l e R s m args below meth c H locs 0 0 (MQ below (QG g (some (.int res.1)) res.2) args s 0 0 (AG g)) (F0 m 5 ls [])) : ∀ (x0 : Int32) (x2 : Int32) (s0 : Int32) (s1 : Int32) (h : AH) (ls : Array Slot) (H : Heap) (locs : List Loc), f_X12_bytesIn_25 k5 x0 x2 s0 s1 h = some res → Iv g s n0 z0 h H locs 0 0 → lv_has ls 3 [(0, .int x0), (2, .int x2)] → W p l e R s m args below meth c H locs 0 0 (MQ below (QG g (some (.int res.1)) res.2) args s 0 0 (AG g)) (F0 m 25 ls [.int s1, .int s0]) := by
  have hx := X.1
  have hb := X.2.1
  intro x0 x2 s0 s1 h ls H locs hf I hl
  unfold f_X12_bytesIn_25 at hf
  refine lv_iadd hx hb dX12_bytesIn_25 ?_
  refine lv_istore_n (lv' := [(1, .int (s0 + s1)), (0, .int x0), (2, .int x2)]) hx hb dX12_bytesIn_26 rfl hl (by decide) rfl (fun ls hl => ?_)
  refine lv_iinc (v := x2 + (-8)) (lv' := [(2, .int (x2 + (-8))), (1, .int (s0 + s1)), (0, .int x0)]) hx hb dX12_bytesIn_27 hl (k := 2) rfl rfl (by decide) rfl (fun ls hl => ?_)
  refine lv_goto (tgt := 5) hx hb dX12_bytesIn_30 (by decide) ?_
  exact hk5 x0 (s0 + s1) (x2 + (-8)) h ls H locs hf I (lv_sub hl [2, 1, 0] rfl)
def f_X12_bytesIn_5  : Nat → Int32 → Int32 → Int32 → AH → Option (Int32 × AH)
  | 0, _, _, _, _ => none
  | n + 1, x0, x1, x2, h =>
  if x2 < 0 then
    some (x1, h)
  else
    if ((x0 >>> (x2 &&& 31)) &&& 255) = 0 then
      f_X12_bytesIn_25 (f_X12_bytesIn_5 n) x0 x2 x1 0 h
    else
      f_X12_bytesIn_25 (f_X12_bytesIn_5 n) x0 x2 x1 1 h
set_option maxHeartbeats 1000000 in
theorem w_X12_bytesIn_5 (X : Cx g p s m args meth c cX12_bytesIn 3 "TrapCornerModel") (hR : 1 ≤ R.frames ∧ 64 ≤ R.locals) (hr : meth.sig.returnType = (some (.int))) {res : Int32 × AH} : ∀ (n : Nat) (x0 : Int32) (x1 : Int32) (x2 : Int32) (h : AH) (ls : Array Slot) (H : Heap) (locs : List Loc), f_X12_bytesIn_5 n x0 x1 x2 h = some res → Iv g s n0 z0 h H locs 0 0 → lv_has ls 3 [(0, .int x0), (1, .int x1), (2, .int x2)] → W p l e R s m args below meth c H locs 0 0 (MQ below (QG g (some (.int res.1)) res.2) args s 0 0 (AG g)) (F0 m 5 ls []) := by
  have hx := X.1
  have hb := X.2.1
  intro n
  induction n with
  | zero =>
    intro x0 x1 x2 h ls H locs hf
    rw [f_X12_bytesIn_5.eq_1] at hf
    cases hf
  | succ n ih =>
    intro x0 x1 x2 h ls H locs hf I hl
    rw [f_X12_bytesIn_5.eq_2] at hf
    refine lv_iload_n hx hb dX12_bytesIn_5 rfl (lv_at hl 2 rfl) ?_
    refine lv_if_lt (tgt := 33) hx hb dX12_bytesIn_6 (by decide) (fun c1 => ?_) (fun c1 => ?_)
    · rw [if_pos c1] at hf
      refine lv_iload_n hx hb dX12_bytesIn_33 rfl (lv_at hl 1 rfl) ?_
      cases hf
      exact k_ri X I hr dX12_bytesIn_34
    · rw [if_neg c1] at hf
      refine lv_iload_n hx hb dX12_bytesIn_9 rfl (lv_at hl 1 rfl) ?_
      refine lv_iload_n hx hb dX12_bytesIn_10 rfl (lv_at hl 0 rfl) ?_
      refine lv_iload_n hx hb dX12_bytesIn_11 rfl (lv_at hl 2 rfl) ?_
      refine lv_ishr hx hb dX12_bytesIn_12 ?_
      refine lv_sipush (v := 255) hx hb dX12_bytesIn_13 (by decide) ?_
      refine lv_iand hx hb dX12_bytesIn_16 ?_
      refine lv_if_eq (tgt := 24) hx hb dX12_bytesIn_17 (by decide) (fun c2 => ?_) (fun c2 => ?_)
      · rw [if_pos c2] at hf
        refine lv_iconst (v := 0) hx hb dX12_bytesIn_24 (by decide) ?_
        exact w_X12_bytesIn_25 X hR hr ih x0 x2 x1 0 h ls H locs hf I (lv_sub hl [0, 2] rfl)
      · rw [if_neg c2] at hf
        refine lv_iconst (v := 1) hx hb dX12_bytesIn_20 (by decide) ?_
        refine lv_goto (tgt := 25) hx hb dX12_bytesIn_21 (by decide) ?_
        exact w_X12_bytesIn_25 X hR hr ih x0 x2 x1 1 h ls H locs hf I (lv_sub hl [0, 2] rfl)
def f_X12_bytesIn_0  (x0 : Int32) (h : AH) : Option (Int32 × AH) :=
  f_X12_bytesIn_5 fu x0 0 24 h
set_option maxHeartbeats 1000000 in
theorem w_X12_bytesIn_0 (X : Cx g p s m args meth c cX12_bytesIn 3 "TrapCornerModel") (hR : 1 ≤ R.frames ∧ 64 ≤ R.locals) (hr : meth.sig.returnType = (some (.int))) {res : Int32 × AH} : ∀ (x0 : Int32) (h : AH) (ls : Array Slot) (H : Heap) (locs : List Loc), f_X12_bytesIn_0 x0 h = some res → Iv g s n0 z0 h H locs 0 0 → lv_has ls 3 [(0, .int x0)] → W p l e R s m args below meth c H locs 0 0 (MQ below (QG g (some (.int res.1)) res.2) args s 0 0 (AG g)) (F0 m 0 ls []) := by
  have hx := X.1
  have hb := X.2.1
  intro x0 h ls H locs hf I hl
  unfold f_X12_bytesIn_0 at hf
  refine lv_iconst (v := 0) hx hb dX12_bytesIn_0 (by decide) ?_
  refine lv_istore_n (lv' := [(1, .int 0), (0, .int x0)]) hx hb dX12_bytesIn_1 rfl hl (by decide) rfl (fun ls hl => ?_)
  refine lv_bipush (v := 24) hx hb dX12_bytesIn_2 (by decide) ?_
  refine lv_istore_n (lv' := [(2, .int 24), (1, .int 0), (0, .int x0)]) hx hb dX12_bytesIn_4 rfl hl (by decide) rfl (fun ls hl => ?_)
  exact w_X12_bytesIn_5 X hR hr fu x0 0 24 h ls H locs hf I (lv_sub hl [2, 1, 0] rfl)
def f_X12_bytesIn (x0 : Int32) (h : AH) : Option (Int32 × AH) := f_X12_bytesIn_0 x0 h
end
theorem c_X12_bytesIn (l : Launch) (g : GG) (x0 : Int32) {h : AH} {res : Int32 × AH} (hf : f_X12_bytesIn x0 h = some res) : CM l g yX12_bytesIn cX12_bytesIn 3 (some (.int)) 1 64 0 0 [.int x0] h (some (.int res.1)) res.2 :=
  k_body (by decide) (Nat.le_of_ble_eq_true rfl) (fun p e s m below meth c R ls hR hr X I hl => w_X12_bytesIn_0 X ⟨Nat.le_of_eq hR.1.symm, Nat.le_of_eq hR.2.1.symm⟩ hr x0 h ls s.heap [] hf I (lv_sub hl [0] rfl))
/-! TrapCornerModel.put(I)V -/
theorem dX12_put_0 : decode cX12_put 0 = .ok (.bipush 24, 2) := by decide +kernel
theorem dX12_put_2 : decode cX12_put 2 = .ok (.istore_n 2, 1) := by decide +kernel
theorem dX12_put_3 : decode cX12_put 3 = .ok (.iload_n 2, 1) := by decide +kernel
theorem dX12_put_4 : decode cX12_put 4 = .ok (.ifCond .lt 45, 3) := by decide +kernel
theorem dX12_put_7 : decode cX12_put 7 = .ok (.iload_n 1, 1) := by decide +kernel
theorem dX12_put_8 : decode cX12_put 8 = .ok (.iload_n 2, 1) := by decide +kernel
theorem dX12_put_9 : decode cX12_put 9 = .ok (.ishr, 1) := by decide +kernel
theorem dX12_put_10 : decode cX12_put 10 = .ok (.sipush 255, 3) := by decide +kernel
theorem dX12_put_13 : decode cX12_put 13 = .ok (.iand, 1) := by decide +kernel
theorem dX12_put_14 : decode cX12_put 14 = .ok (.ifCond .ne 6, 3) := by decide +kernel
theorem dX12_put_17 : decode cX12_put 17 = .ok (.goto 26, 3) := by decide +kernel
theorem dX12_put_20 : decode cX12_put 20 = .ok (.aload_n 0, 1) := by decide +kernel
theorem dX12_put_21 : decode cX12_put 21 = .ok (.getfield 9, 3) := by decide +kernel
theorem dX12_put_24 : decode cX12_put 24 = .ok (.aload_n 0, 1) := by decide +kernel
theorem dX12_put_25 : decode cX12_put 25 = .ok (.getfield 109, 3) := by decide +kernel
theorem dX12_put_28 : decode cX12_put 28 = .ok (.iload_n 1, 1) := by decide +kernel
theorem dX12_put_29 : decode cX12_put 29 = .ok (.iload_n 2, 1) := by decide +kernel
theorem dX12_put_30 : decode cX12_put 30 = .ok (.ishr, 1) := by decide +kernel
theorem dX12_put_31 : decode cX12_put 31 = .ok (.i2b, 1) := by decide +kernel
theorem dX12_put_32 : decode cX12_put 32 = .ok (.bastore, 1) := by decide +kernel
theorem dX12_put_33 : decode cX12_put 33 = .ok (.aload_n 0, 1) := by decide +kernel
theorem dX12_put_34 : decode cX12_put 34 = .ok (.dup, 1) := by decide +kernel
theorem dX12_put_35 : decode cX12_put 35 = .ok (.getfield 109, 3) := by decide +kernel
theorem dX12_put_38 : decode cX12_put 38 = .ok (.iconst 1, 1) := by decide +kernel
theorem dX12_put_39 : decode cX12_put 39 = .ok (.iadd, 1) := by decide +kernel
theorem dX12_put_40 : decode cX12_put 40 = .ok (.putfield 109, 3) := by decide +kernel
theorem dX12_put_43 : decode cX12_put 43 = .ok (.iinc 2 (-8), 3) := by decide +kernel
theorem dX12_put_46 : decode cX12_put 46 = .ok (.goto (-43), 3) := by decide +kernel
theorem dX12_put_49 : decode cX12_put 49 = .ok (.return_, 1) := by decide +kernel
theorem lk_TrapCornerModel_9 : LK "TrapCornerModel" 9 [12] 1 := by
  intro ci hci
  have hci := List.mem_singleton.mp hci
  subst hci
  exact ⟨RX12, TX12, 50, "TrapCornerModel", ck_12, by decide, tw_1288, Or.inl rfl⟩
theorem lk_TrapCornerModel_109 : LK "TrapCornerModel" 109 [12] 6 := by
  intro ci hci
  have hci := List.mem_singleton.mp hci
  subst hci
  exact ⟨RX12, TX12, 50, "TrapCornerModel", ck_12, by decide, tw_1293, Or.inl rfl⟩
theorem lp_TrapCornerModel_109 : LKP "TrapCornerModel" 109 [12] 6 (.int) := by
  intro ci hci
  have hci := List.mem_singleton.mp hci
  subst hci
  exact ⟨RX12, TX12, 50, "TrapCornerModel", ck_12, by decide, tw_1293, Or.inl rfl, rfl, by decide +kernel⟩
section
variable {g : GG} {p : Program} {l : Launch} {e : Env} {R : Room} {s : State} {m : MethodId} {args : Array Value} {below : List Frame} {meth : Method} {c : Code} {n0 z0 : Nat}
def f_X12_put_43 (k3 : Nat → Int32 → Int32 → AH → Option (Unit × AH)) (o0 : Nat) (x1 : Int32) (x2 : Int32) (h : AH) : Option (Unit × AH) :=
  k3 o0 x1 (x2 + (-8)) h
set_option maxHeartbeats 1000000 in
theorem w_X12_put_43 (X : Cx g p s m args meth c cX12_put 3 "TrapCornerModel") (hR : 1 ≤ R.frames ∧ 64 ≤ R.locals) (hr : meth.sig.returnType = none) {res : Unit × AH} {k3 : Nat → Int32 → Int32 → AH → Option (Unit × AH)} (hk3 : ∀ (o0 : Nat) (x1 : Int32) (x2 : Int32) (h : AH) (ls : Array Slot) (H : Heap) (locs : List Loc), k3 o0 x1 x2 h = some res → Iv g s n0 z0 h H locs 0 0 → lv_has ls 3 [(0, .ref (rfG g o0)), (1, .int x1), (2, .int x2)] → W p l e R s m args below meth c H locs 0 0 (MQ below (QG g none res.2) args s 0 0 (AG g)) (F0 m 3 ls [])) : ∀ (o0 : Nat) (x1 : Int32) (x2 : Int32) (h : AH) (ls : Array Slot) (H : Heap) (locs : List Loc), f_X12_put_43 k3 o0 x1 x2 h = some res → Iv g s n0 z0 h H locs 0 0 → lv_has ls 3 [(0, .ref (rfG g o0)), (1, .int x1), (2, .int x2)] → W p l e R s m args below meth c H locs 0 0 (MQ below (QG g none res.2) args s 0 0 (AG g)) (F0 m 43 ls []) := by
  have hx := X.1
  have hb := X.2.1
  intro o0 x1 x2 h ls H locs hf I hl
  unfold f_X12_put_43 at hf
  refine lv_iinc (v := x2 + (-8)) (lv' := [(2, .int (x2 + (-8))), (0, .ref (rfG g o0)), (1, .int x1)]) hx hb dX12_put_43 hl (k := 2) rfl rfl (by decide) rfl (fun ls hl => ?_)
  refine lv_goto (tgt := 3) hx hb dX12_put_46 (by decide) ?_
  exact hk3 o0 x1 (x2 + (-8)) h ls H locs hf I (lv_sub hl [1, 2, 0] rfl)
def f_X12_put_3  : Nat → Nat → Int32 → Int32 → AH → Option (Unit × AH)
  | 0, _, _, _, _ => none
  | n + 1, o0, x1, x2, h =>
  if x2 < 0 then
    some ((), h)
  else
    if ((x1 >>> (x2 &&& 31)) &&& 255) = 0 then
      f_X12_put_43 (f_X12_put_3 n) o0 x1 x2 h
    else
      (gR [12] h o0 1).bind fun v3 =>
      (gI [12] h o0 6).bind fun v5 =>
      (uI 1 h v3 v5 ((x1 >>> (x2 &&& 31)).toInt8.toInt32)).bind fun h7 =>
      (gI [12] h7 o0 6).bind fun v9 =>
      (pV [12] h7 o0 6 (.int (v9 + 1))).bind fun h11 =>
      f_X12_put_43 (f_X12_put_3 n) o0 x1 x2 h11
set_option maxHeartbeats 1000000 in
theorem w_X12_put_3 (X : Cx g p s m args meth c cX12_put 3 "TrapCornerModel") (hR : 1 ≤ R.frames ∧ 64 ≤ R.locals) (hr : meth.sig.returnType = none) {res : Unit × AH} : ∀ (n : Nat) (o0 : Nat) (x1 : Int32) (x2 : Int32) (h : AH) (ls : Array Slot) (H : Heap) (locs : List Loc), f_X12_put_3 n o0 x1 x2 h = some res → Iv g s n0 z0 h H locs 0 0 → lv_has ls 3 [(0, .ref (rfG g o0)), (1, .int x1), (2, .int x2)] → W p l e R s m args below meth c H locs 0 0 (MQ below (QG g none res.2) args s 0 0 (AG g)) (F0 m 3 ls []) := by
  have hx := X.1
  have hb := X.2.1
  intro n
  induction n with
  | zero =>
    intro o0 x1 x2 h ls H locs hf
    rw [f_X12_put_3.eq_1] at hf
    cases hf
  | succ n ih =>
    intro o0 x1 x2 h ls H locs hf I hl
    rw [f_X12_put_3.eq_2] at hf
    refine lv_iload_n hx hb dX12_put_3 rfl (lv_at hl 2 rfl) ?_
    refine lv_if_lt (tgt := 49) hx hb dX12_put_4 (by decide) (fun c1 => ?_) (fun c1 => ?_)
    · rw [if_pos c1] at hf
      cases hf
      exact k_rv X I hr dX12_put_49
    · rw [if_neg c1] at hf
      refine lv_iload_n hx hb dX12_put_7 rfl (lv_at hl 1 rfl) ?_
      refine lv_iload_n hx hb dX12_put_8 rfl (lv_at hl 2 rfl) ?_
      refine lv_ishr hx hb dX12_put_9 ?_
      refine lv_sipush (v := 255) hx hb dX12_put_10 (by decide) ?_
      refine lv_iand hx hb dX12_put_13 ?_
      refine lv_if_ne (tgt := 20) hx hb dX12_put_14 (by decide) (fun c2 => ?_) (fun c2 => ?_)
      · rw [if_neg c2] at hf
        refine lv_aload_n hx hb dX12_put_20 rfl (lv_at hl 0 rfl) ?_
        obtain ⟨v3, e4, hf⟩ := Option.bind_eq_some_iff.mp hf
        refine r_gR X I e4 lk_TrapCornerModel_9 dX12_put_21 ?_
        refine lv_aload_n hx hb dX12_put_24 rfl (lv_at hl 0 rfl) ?_
        obtain ⟨v5, e6, hf⟩ := Option.bind_eq_some_iff.mp hf
        refine r_gI X I e6 lk_TrapCornerModel_109 dX12_put_25 ?_
        refine lv_iload_n hx hb dX12_put_28 rfl (lv_at hl 1 rfl) ?_
        refine lv_iload_n hx hb dX12_put_29 rfl (lv_at hl 2 rfl) ?_
        refine lv_ishr hx hb dX12_put_30 ?_
        refine lv_i2b hx hb dX12_put_31 rfl ?_
        obtain ⟨h7, e8, hf⟩ := Option.bind_eq_some_iff.mp hf
        refine r_uI1 X I e8 dX12_put_32 (fun H locs I => ?_)
        refine lv_aload_n hx hb dX12_put_33 rfl (lv_at hl 0 rfl) ?_
        refine lv_dup hx hb dX12_put_34 rfl ?_
        obtain ⟨v9, e10, hf⟩ := Option.bind_eq_some_iff.mp hf
        refine r_gI X I e10 lk_TrapCornerModel_109 dX12_put_35 ?_
        refine lv_iconst (v := 1) hx hb dX12_put_38 (by decide) ?_
        refine lv_iadd hx hb dX12_put_39 ?_
        obtain ⟨h11, e12, hf⟩ := Option.bind_eq_some_iff.mp hf
        refine r_pI X I e12 lp_TrapCornerModel_109 dX12_put_40 (fun H locs I => ?_)
        exact w_X12_put_43 X hR hr ih o0 x1 x2 h11 ls H locs hf I (lv_sub hl [0, 1, 2] rfl)
      · rw [if_pos c2] at hf
        refine lv_goto (tgt := 43) hx hb dX12_put_17 (by decide) ?_
        exact w_X12_put_43 X hR hr ih o0 x1 x2 h ls H locs hf I (lv_sub hl [0, 1, 2] rfl)
def f_X12_put_0  (o0 : Nat) (x1 : Int32) (h : AH) : Option (Unit × AH) :=
  f_X12_put_3 fu o0 x1 24 h
set_option maxHeartbeats 1000000 in
theorem w_X12_put_0 (X : Cx g p s m args meth c cX12_put 3 "TrapCornerModel") (hR : 1 ≤ R.frames ∧ 64 ≤ R.locals) (hr : meth.sig.returnType = none) {res : Unit × AH} : ∀ (o0 : Nat) (x1 : Int32) (h : AH) (ls : Array Slot) (H : Heap) (locs : List Loc), f_X12_put_0 o0 x1 h = some res → Iv g s n0 z0 h H locs 0 0 → lv_has ls 3 [(0, .ref (rfG g o0)), (1, .int x1)] → W p l e R s m args below meth c H locs 0 0 (MQ below (QG g none res.2) args s 0 0 (AG g)) (F0 m 0 ls []) := by
  have hx := X.1
  have hb := X.2.1
  intro o0 x1 h ls H locs hf I hl
  unfold f_X12_put_0 at hf
  refine lv_bipush (v := 24) hx hb dX12_put_0 (by decide) ?_
  refine lv_istore_n (lv' := [(2, .int 24), (0, .ref (rfG g o0)), (1, .int x1)]) hx hb dX12_put_2 rfl hl (by decide) rfl (fun ls hl => ?_)
  exact w_X12_put_3 X hR hr fu o0 x1 24 h ls H locs hf I (lv_sub hl [1, 2, 0] rfl)
def f_X12_put (o0 : Nat) (x1 : Int32) (h : AH) : Option (Unit × AH) := f_X12_put_0 o0 x1 h
end
theorem c_X12_put (l : Launch) (g : GG) (o0 : Nat) (x1 : Int32) {h : AH} {res : Unit × AH} (hf : f_X12_put o0 x1 h = some res) : CM l g yX12_put cX12_put 3 none 1 64 0 0 [.ref (rfG g o0), .int x1] h none res.2 :=
  k_body (by decide) (Nat.le_of_ble_eq_true rfl) (fun p e s m below meth c R ls hR hr X I hl => w_X12_put_0 X ⟨Nat.le_of_eq hR.1.symm, Nat.le_of_eq hR.2.1.symm⟩ hr o0 x1 h ls s.heap [] hf I (lv_sub hl [0, 1] rfl))
/-! TrapCornerModel.feed(IIIII)I -/
theorem dX12_feed_0 : decode cX12_feed 0 = .ok (.aload_n 0, 1) := by decide +kernel
theorem dX12_feed_1 : decode cX12_feed 1 = .ok (.iconst 0, 1) := by decide +kernel
theorem dX12_feed_2 : decode cX12_feed 2 = .ok (.putfield 96, 3) := by decide +kernel
theorem dX12_feed_5 : decode cX12_feed 5 = .ok (.aload_n 0, 1) := by decide +kernel
theorem dX12_feed_6 : decode cX12_feed 6 = .ok (.getfield 109, 3) := by decide +kernel
theorem dX12_feed_9 : decode cX12_feed 9 = .ok (.iload_n 1, 1) := by decide +kernel
theorem dX12_feed_10 : decode cX12_feed 10 = .ok (.invokestatic 111, 3) := by decide +kernel
theorem dX12_feed_13 : decode cX12_feed 13 = .ok (.iadd, 1) := by decide +kernel
theorem dX12_feed_14 : decode cX12_feed 14 = .ok (.iload_n 2, 1) := by decide +kernel
theorem dX12_feed_15 : decode cX12_feed 15 = .ok (.invokestatic 111, 3) := by decide +kernel
theorem dX12_feed_18 : decode cX12_feed 18 = .ok (.iadd, 1) := by decide +kernel
theorem dX12_feed_19 : decode cX12_feed 19 = .ok (.iload_n 3, 1) := by decide +kernel
theorem dX12_feed_20 : decode cX12_feed 20 = .ok (.invokestatic 111, 3) := by decide +kernel
theorem dX12_feed_23 : decode cX12_feed 23 = .ok (.iadd, 1) := by decide +kernel
theorem dX12_feed_24 : decode cX12_feed 24 = .ok (.iload 4, 2) := by decide +kernel
theorem dX12_feed_26 : decode cX12_feed 26 = .ok (.invokestatic 111, 3) := by decide +kernel
theorem dX12_feed_29 : decode cX12_feed 29 = .ok (.iadd, 1) := by decide +kernel
theorem dX12_feed_30 : decode cX12_feed 30 = .ok (.iload 5, 2) := by decide +kernel
theorem dX12_feed_32 : decode cX12_feed 32 = .ok (.invokestatic 111, 3) := by decide +kernel
theorem dX12_feed_35 : decode cX12_feed 35 = .ok (.iadd, 1) := by decide +kernel
theorem dX12_feed_36 : decode cX12_feed 36 = .ok (.sipush 240, 3) := by decide +kernel
theorem dX12_feed_39 : decode cX12_feed 39 = .ok (.if_icmp .le 5, 3) := by decide +kernel
theorem dX12_feed_42 : decode cX12_feed 42 = .ok (.iconst (-1), 1) := by decide +kernel
theorem dX12_feed_43 : decode cX12_feed 43 = .ok (.ireturn, 1) := by decide +kernel
theorem dX12_feed_44 : decode cX12_feed 44 = .ok (.aload_n 0, 1) := by decide +kernel
theorem dX12_feed_45 : decode cX12_feed 45 = .ok (.iload_n 1, 1) := by decide +kernel
theorem dX12_feed_46 : decode cX12_feed 46 = .ok (.invokevirtual 115, 3) := by decide +kernel
theorem dX12_feed_49 : decode cX12_feed 49 = .ok (.aload_n 0, 1) := by decide +kernel
theorem dX12_feed_50 : decode cX12_feed 50 = .ok (.iload_n 2, 1) := by decide +kernel
theorem dX12_feed_51 : decode cX12_feed 51 = .ok (.invokevirtual 115, 3) := by decide +kernel
theorem dX12_feed_54 : decode cX12_feed 54 = .ok (.aload_n 0, 1) := by decide +kernel
theorem dX12_feed_55 : decode cX12_feed 55 = .ok (.iload_n 3, 1) := by decide +kernel
theorem dX12_feed_56 : decode cX12_feed 56 = .ok (.invokevirtual 115, 3) := by decide +kernel
theorem dX12_feed_59 : decode cX12_feed 59 = .ok (.aload_n 0, 1) := by decide +kernel
theorem dX12_feed_60 : decode cX12_feed 60 = .ok (.iload 4, 2) := by decide +kernel
theorem dX12_feed_62 : decode cX12_feed 62 = .ok (.invokevirtual 115, 3) := by decide +kernel
theorem dX12_feed_65 : decode cX12_feed 65 = .ok (.aload_n 0, 1) := by decide +kernel
theorem dX12_feed_66 : decode cX12_feed 66 = .ok (.iload 5, 2) := by decide +kernel
theorem dX12_feed_68 : decode cX12_feed 68 = .ok (.invokevirtual 115, 3) := by decide +kernel
theorem dX12_feed_71 : decode cX12_feed 71 = .ok (.aload_n 0, 1) := by decide +kernel
theorem dX12_feed_72 : decode cX12_feed 72 = .ok (.getfield 109, 3) := by decide +kernel
theorem dX12_feed_75 : decode cX12_feed 75 = .ok (.ireturn, 1) := by decide +kernel
theorem lp_TrapCornerModel_96 : LKP "TrapCornerModel" 96 [12] 0 (.int) := by
  intro ci hci
  have hci := List.mem_singleton.mp hci
  subst hci
  exact ⟨RX12, TX12, 50, "TrapCornerModel", ck_12, by decide, tw_1287, Or.inl rfl, rfl, by decide +kernel⟩
theorem sk_TrapCornerModel_111 : SK "TrapCornerModel" 111 yX12_bytesIn 1 := ⟨tw_1447, tw_1448, tw_13, ⟨by decide, by decide⟩, by decide +kernel⟩
theorem vk_TrapCornerModel_115 : VK "TrapCornerModel" 115 [12] yX12_put 1 := ⟨tw_1450, tw_1452, tw_13, ⟨by decide, by decide⟩, by decide +kernel, fun ci hci => by
  have hci := List.mem_singleton.mp hci
  subst hci
  exact ⟨_, rfl, tp_52⟩⟩
section
variable {g : GG} {p : Program} {l : Launch} {e : Env} {R : Room} {s : State} {m : MethodId} {args : Array Value} {below : List Frame} {meth : Method} {c : Code} {n0 z0 : Nat}
def f_X12_feed_0  (o0 : Nat) (x1 : Int32) (x2 : Int32) (x3 : Int32) (x4 : Int32) (x5 : Int32) (h : AH) : Option (Int32 × AH) :=
  (pV [12] h o0 0 (.int 0)).bind fun h1 =>
  (gI [12] h1 o0 6).bind fun v3 =>
  cN (f_X12_bytesIn x1 h1) h1 fun v5 h6 =>
  cN (f_X12_bytesIn x2 h6) h6 fun v9 h10 =>
  cN (f_X12_bytesIn x3 h10) h10 fun v13 h14 =>
  cN (f_X12_bytesIn x4 h14) h14 fun v17 h18 =>
  cN (f_X12_bytesIn x5 h18) h18 fun v21 h22 =>
  if (((((v3 + v5) + v9) + v13) + v17) + v21) ≤ 240 then
    (isC [12] h22 o0).bind fun _ =>
    cN (f_X12_put o0 x1 h22) h22 fun _ h27 =>
    (isC [12] h27 o0).bind fun _ =>
    cN (f_X12_put o0 x2 h27) h27 fun _ h32 =>
    (isC [12] h32 o0).bind fun _ =>
    cN (f_X12_put o0 x3 h32) h32 fun _ h37 =>
    (isC [12] h37 o0).bind fun _ =>
    cN (f_X12_put o0 x4 h37) h37 fun _ h42 =>
    (isC [12] h42 o0).bind fun _ =>
    cN (f_X12_put o0 x5 h42) h42 fun _ h47 =>
    (gI [12] h47 o0 6).bind fun v51 =>
    some (v51, h47)
  else
    some ((-1), h22)
set_option maxHeartbeats 1000000 in
theorem w_X12_feed_0 (X : Cx g p s m args meth c cX12_feed 6 "TrapCornerModel") (hR : 2 ≤ R.frames ∧ 128 ≤ R.locals) (hr : meth.sig.returnType = (some (.int))) {res : Int32 × AH} : ∀ (o0 : Nat) (x1 : Int32) (x2 : Int32) (x3 : Int32) (x4 : Int32) (x5 : Int32) (h : AH) (ls : Array Slot) (H : Heap) (locs : List Loc), f_X12_feed_0 o0 x1 x2 x3 x4 x5 h = some res → Iv g s n0 z0 h H locs 0 0 → lv_has ls 6 [(0, .ref (rfG g o0)), (1, .int x1), (2, .int x2), (3, .int x3), (4, .int x4), (5, .int x5)] → W p l e R s m args below meth c H locs 0 0 (MQ below (QG g (some (.int res.1)) res.2) args s 0 0 (AG g)) (F0 m 0 ls []) := by
  have hx := X.1
  have hb := X.2.1
  intro o0 x1 x2 x3 x4 x5 h ls H locs hf I hl
  unfold f_X12_feed_0 at hf
  refine lv_aload_n hx hb dX12_feed_0 rfl (lv_at hl 0 rfl) ?_
  refine lv_iconst (v := 0) hx hb dX12_feed_1 (by decide) ?_
  obtain ⟨h1, e2, hf⟩ := Option.bind_eq_some_iff.mp hf
  refine r_pI X I e2 lp_TrapCornerModel_96 dX12_feed_2 (fun H locs I => ?_)
  refine lv_aload_n hx hb dX12_feed_5 rfl (lv_at hl 0 rfl) ?_
  obtain ⟨v3, e4, hf⟩ := Option.bind_eq_some_iff.mp hf
  refine r_gI X I e4 lk_TrapCornerModel_109 dX12_feed_6 ?_
  refine lv_iload_n hx hb dX12_feed_9 rfl (lv_at hl 1 rfl) ?_
  obtain ⟨v5, h6, e7, z8, hf⟩ := cN_spec hf
  refine k_Si (As := [.int x1]) (rest := [.int v3]) X I (c_X12_bytesIn l g x1 e7) z8 sk_TrapCornerModel_111 tw_1449 ⟨Nat.le_trans (by decide) hR.1, Nat.le_trans (by decide) hR.2⟩ ⟨Nat.zero_le _, Nat.zero_le _⟩ rfl hl.1 rfl (Nat.le_of_ble_eq_true rfl) dX12_feed_10 (fun H locs I => ?_)
  refine lv_iadd hx hb dX12_feed_13 ?_
  refine lv_iload_n hx hb dX12_feed_14 rfl (lv_at hl 2 rfl) ?_
  obtain ⟨v9, h10, e11, z12, hf⟩ := cN_spec hf
  refine k_Si (As := [.int x2]) (rest := [.int (v3 + v5)]) X I (c_X12_bytesIn l g x2 e11) z12 sk_TrapCornerModel_111 tw_1449 ⟨Nat.le_trans (by decide) hR.1, Nat.le_trans (by decide) hR.2⟩ ⟨Nat.zero_le _, Nat.zero_le _⟩ rfl hl.1 rfl (Nat.le_of_ble_eq_true rfl) dX12_feed_15 (fun H locs I => ?_)
  refine lv_iadd hx hb dX12_feed_18 ?_
  refine lv_iload_n hx hb dX12_feed_19 rfl (lv_at hl 3 rfl) ?_
  obtain ⟨v13, h14, e15, z16, hf⟩ := cN_spec hf
  refine k_Si (As := [.int x3]) (rest := [.int ((v3 + v5) + v9)]) X I (c_X12_bytesIn l g x3 e15) z16 sk_TrapCornerModel_111 tw_1449 ⟨Nat.le_trans (by decide) hR.1, Nat.le_trans (by decide) hR.2⟩ ⟨Nat.zero_le _, Nat.zero_le _⟩ rfl hl.1 rfl (Nat.le_of_ble_eq_true rfl) dX12_feed_20 (fun H locs I => ?_)
  refine lv_iadd hx hb dX12_feed_23 ?_
  refine lv_iload hx hb dX12_feed_24 (lv_at hl 4 rfl) ?_
  obtain ⟨v17, h18, e19, z20, hf⟩ := cN_spec hf
  refine k_Si (As := [.int x4]) (rest := [.int (((v3 + v5) + v9) + v13)]) X I (c_X12_bytesIn l g x4 e19) z20 sk_TrapCornerModel_111 tw_1449 ⟨Nat.le_trans (by decide) hR.1, Nat.le_trans (by decide) hR.2⟩ ⟨Nat.zero_le _, Nat.zero_le _⟩ rfl hl.1 rfl (Nat.le_of_ble_eq_true rfl) dX12_feed_26 (fun H locs I => ?_)
  refine lv_iadd hx hb dX12_feed_29 ?_
  refine lv_iload hx hb dX12_feed_30 (lv_at hl 5 rfl) ?_
  obtain ⟨v21, h22, e23, z24, hf⟩ := cN_spec hf
  refine k_Si (As := [.int x5]) (rest := [.int ((((v3 + v5) + v9) + v13) + v17)]) X I (c_X12_bytesIn l g x5 e23) z24 sk_TrapCornerModel_111 tw_1449 ⟨Nat.le_trans (by decide) hR.1, Nat.le_trans (by decide) hR.2⟩ ⟨Nat.zero_le _, Nat.zero_le _⟩ rfl hl.1 rfl (Nat.le_of_ble_eq_true rfl) dX12_feed_32 (fun H locs I => ?_)
  refine lv_iadd hx hb dX12_feed_35 ?_
  refine lv_sipush (v := 240) hx hb dX12_feed_36 (by decide) ?_
  refine lv_icmp_le (tgt := 44) hx hb dX12_feed_39 (by decide) (fun c25 => ?_) (fun c25 => ?_)
  · rw [if_pos c25] at hf
    refine lv_aload_n hx hb dX12_feed_44 rfl (lv_at hl 0 rfl) ?_
    refine lv_iload_n hx hb dX12_feed_45 rfl (lv_at hl 1 rfl) ?_
    obtain ⟨_, g30, hf⟩ := Option.bind_eq_some_iff.mp hf
    obtain ⟨⟨⟩, h27, e28, z29, hf⟩ := cN_spec hf
    refine k_Vv (As := [.int x1]) (rest := []) X I (c_X12_put l g o0 x1 e28) z29 g30 vk_TrapCornerModel_115 tw_1453 ⟨Nat.le_trans (by decide) hR.1, Nat.le_trans (by decide) hR.2⟩ ⟨Nat.zero_le _, Nat.zero_le _⟩ rfl hl.1 rfl (Nat.le_of_ble_eq_true rfl) dX12_feed_46 (fun H locs I => ?_)
    refine lv_aload_n hx hb dX12_feed_49 rfl (lv_at hl 0 rfl) ?_
    refine lv_iload_n hx hb dX12_feed_50 rfl (lv_at hl 2 rfl) ?_
    obtain ⟨_, g35, hf⟩ := Option.bind_eq_some_iff.mp hf
    obtain ⟨⟨⟩, h32, e33, z34, hf⟩ := cN_spec hf
    refine k_Vv (As := [.int x2]) (rest := []) X I (c_X12_put l g o0 x2 e33) z34 g35 vk_TrapCornerModel_115 tw_1453 ⟨Nat.le_trans (by decide) hR.1, Nat.le_trans (by decide) hR.2⟩ ⟨Nat.zero_le _, Nat.zero_le _⟩ rfl hl.1 rfl (Nat.le_of_ble_eq_true rfl) dX12_feed_51 (fun H locs I => ?_)
    refine lv_aload_n hx hb dX12_feed_54 rfl (lv_at hl 0 rfl) ?_
    refine lv_iload_n hx hb dX12_feed_55 rfl (lv_at hl 3 rfl) ?_
    obtain ⟨_, g40, hf⟩ := Option.bind_eq_some_iff.mp hf
    obtain ⟨⟨⟩, h37, e38, z39, hf⟩ := cN_spec hf
    refine k_Vv (As := [.int x3]) (rest := []) X I (c_X12_put l g o0 x3 e38) z39 g40 vk_TrapCornerModel_115 tw_1453 ⟨Nat.le_trans (by decide) hR.1, Nat.le_trans (by decide) hR.2⟩ ⟨Nat.zero_le _, Nat.zero_le _⟩ rfl hl.1 rfl (Nat.le_of_ble_eq_true rfl) dX12_feed_56 (fun H locs I => ?_)
    refine lv_aload_n hx hb dX12_feed_59 rfl (lv_at hl 0 rfl) ?_
    refine lv_iload hx hb dX12_feed_60 (lv_at hl 4 rfl) ?_
    obtain ⟨_, g45, hf⟩ := Option.bind_eq_some_iff.mp hf
    obtain ⟨⟨⟩, h42, e43, z44, hf⟩ := cN_spec hf
    refine k_Vv (As := [.int x4]) (rest := []) X I (c_X12_put l g o0 x4 e43) z44 g45 vk_TrapCornerModel_115 tw_1453 ⟨Nat.le_trans (by decide) hR.1, Nat.le_trans (by decide) hR.2⟩ ⟨Nat.zero_le _, Nat.zero_le _⟩ rfl hl.1 rfl (Nat.le_of_ble_eq_true rfl) dX12_feed_62 (fun H locs I => ?_)
    refine lv_aload_n hx hb dX12_feed_65 rfl (lv_at hl 0 rfl) ?_
    refine lv_iload hx hb dX12_feed_66 (lv_at hl 5 rfl) ?_
    obtain ⟨_, g50, hf⟩ := Option.bind_eq_some_iff.mp hf
    obtain ⟨⟨⟩, h47, e48, z49, hf⟩ := cN_spec hf
    refine k_Vv (As := [.int x5]) (rest := []) X I (c_X12_put l g o0 x5 e48) z49 g50 vk_TrapCornerModel_115 tw_1453 ⟨Nat.le_trans (by decide) hR.1, Nat.le_trans (by decide) hR.2⟩ ⟨Nat.zero_le _, Nat.zero_le _⟩ rfl hl.1 rfl (Nat.le_of_ble_eq_true rfl) dX12_feed_68 (fun H locs I => ?_)
    refine lv_aload_n hx hb dX12_feed_71 rfl (lv_at hl 0 rfl) ?_
    obtain ⟨v51, e52, hf⟩ := Option.bind_eq_some_iff.mp hf
    refine r_gI X I e52 lk_TrapCornerModel_109 dX12_feed_72 ?_
    cases hf
    exact k_ri X I hr dX12_feed_75
  · rw [if_neg c25] at hf
    refine lv_iconst (v := (-1)) hx hb dX12_feed_42 (by decide) ?_
    cases hf
    exact k_ri X I hr dX12_feed_43
def f_X12_feed (o0 : Nat) (x1 : Int32) (x2 : Int32) (x3 : Int32) (x4 : Int32) (x5 : Int32) (h : AH) : Option (Int32 × AH) := f_X12_feed_0 o0 x1 x2 x3 x4 x5 h
end
theorem c_X12_feed (l : Launch) (g : GG) (o0 : Nat) (x1 : Int32) (x2 : Int32) (x3 : Int32) (x4 : Int32) (x5 : Int32) {h : AH} {res : Int32 × AH} (hf : f_X12_feed o0 x1 x2 x3 x4 x5 h = some res) : CM l g yX12_feed cX12_feed 6 (some (.int)) 2 128 0 0 [.ref (rfG g o0), .int x1, .int x2, .int x3, .int x4, .int x5] h (some (.int res.1)) res.2 :=
  k_body (by decide) (Nat.le_of_ble_eq_true rfl) (fun p e s m below meth c R ls hR hr X I hl => w_X12_feed_0 X ⟨Nat.le_of_eq hR.1.symm, Nat.le_of_eq hR.2.1.symm⟩ hr o0 x1 x2 x3 x4 x5 h ls s.heap [] hf I (lv_sub hl [0, 1, 2, 3, 4, 5] rfl))
/-! TrapCornerModel.end(I)Z -/
theorem dX12_end_0 : decode cX12_end 0 = .ok (.aload_n 0, 1) := by decide +kernel
theorem dX12_end_1 : decode cX12_end 1 = .ok (.iconst 0, 1) := by decide +kernel
theorem dX12_end_2 : decode cX12_end 2 = .ok (.putfield 96, 3) := by decide +kernel
theorem dX12_end_5 : decode cX12_end 5 = .ok (.iload_n 1, 1) := by decide +kernel
theorem dX12_end_6 : decode cX12_end 6 = .ok (.ifCond .lt 11, 3) := by decide +kernel
theorem dX12_end_9 : decode cX12_end 9 = .ok (.iload_n 1, 1) := by decide +kernel
theorem dX12_end_10 : decode cX12_end 10 = .ok (.aload_n 0, 1) := by decide +kernel
theorem dX12_end_11 : decode cX12_end 11 = .ok (.getfield 109, 3) := by decide +kernel
theorem dX12_end_14 : decode cX12_end 14 = .ok (.if_icmp .le 5, 3) := by decide +kernel
theorem dX12_end_17 : decode cX12_end 17 = .ok (.iconst 0, 1) := by decide +kernel
theorem dX12_end_18 : decode cX12_end 18 = .ok (.ireturn, 1) := by decide +kernel
theorem dX12_end_19 : decode cX12_end 19 = .ok (.aload_n 0, 1) := by decide +kernel
theorem dX12_end_20 : decode cX12_end 20 = .ok (.iload_n 1, 1) := by decide +kernel
theorem dX12_end_21 : decode cX12_end 21 = .ok (.putfield 109, 3) := by decide +kernel
theorem dX12_end_24 : decode cX12_end 24 = .ok (.iconst 1, 1) := by decide +kernel
theorem dX12_end_25 : decode cX12_end 25 = .ok (.ireturn, 1) := by decide +kernel
section
variable {g : GG} {p : Program} {l : Launch} {e : Env} {R : Room} {s : State} {m : MethodId} {args : Array Value} {below : List Frame} {meth : Method} {c : Code} {n0 z0 : Nat}
def f_X12_end_0  (o0 : Nat) (x1 : Int32) (h : AH) : Option (Int32 × AH) :=
  (pV [12] h o0 0 (.int 0)).bind fun h1 =>
  if x1 < 0 then
    some (0, h1)
  else
    (gI [12] h1 o0 6).bind fun v4 =>
    if x1 ≤ v4 then
      (pV [12] h1 o0 6 (.int x1)).bind fun h7 =>
      some (1, h7)
    else
      some (0, h1)
set_option maxHeartbeats 1000000 in
theorem w_X12_end_0 (X : Cx g p s m args meth c cX12_end 2 "TrapCornerModel") (hR : 1 ≤ R.frames ∧ 64 ≤ R.locals) (hr : meth.sig.returnType = (some (.boolean))) {res : Int32 × AH} : ∀ (o0 : Nat) (x1 : Int32) (h : AH) (ls : Array Slot) (H : Heap) (locs : List Loc), f_X12_end_0 o0 x1 h = some res → Iv g s n0 z0 h H locs 0 0 → lv_has ls 2 [(0, .ref (rfG g o0)), (1, .int x1)] → W p l e R s m args below meth c H locs 0 0 (MQ below (QG g (some (.int res.1)) res.2) args s 0 0 (AG g)) (F0 m 0 ls []) := by
  have hx := X.1
  have hb := X.2.1
  intro o0 x1 h ls H locs hf I hl
  unfold f_X12_end_0 at hf
  refine lv_aload_n hx hb dX12_end_0 rfl (lv_at hl 0 rfl) ?_
  refine lv_iconst (v := 0) hx hb dX12_end_1 (by decide) ?_
  obtain ⟨h1, e2, hf⟩ := Option.bind_eq_some_iff.mp hf
  refine r_pI X I e2 lp_TrapCornerModel_96 dX12_end_2 (fun H locs I => ?_)
  refine lv_iload_n hx hb dX12_end_5 rfl (lv_at hl 1 rfl) ?_
  refine lv_if_lt (tgt := 17) hx hb dX12_end_6 (by decide) (fun c3 => ?_) (fun c3 => ?_)
  · rw [if_pos c3] at hf
    refine lv_iconst (v := 0) hx hb dX12_end_17 (by decide) ?_
    cases hf
    exact k_rz X I hr (Or.inl rfl) dX12_end_18
  · rw [if_neg c3] at hf
    refine lv_iload_n hx hb dX12_end_9 rfl (lv_at hl 1 rfl) ?_
    refine lv_aload_n hx hb dX12_end_10 rfl (lv_at hl 0 rfl) ?_
    obtain ⟨v4, e5, hf⟩ := Option.bind_eq_some_iff.mp hf
    refine r_gI X I e5 lk_TrapCornerModel_109 dX12_end_11 ?_
    refine lv_icmp_le (tgt := 19) hx hb dX12_end_14 (by decide) (fun c6 => ?_) (fun c6 => ?_)
    · rw [if_pos c6] at hf
      refine lv_aload_n hx hb dX12_end_19 rfl (lv_at hl 0 rfl) ?_
      refine lv_iload_n hx hb dX12_end_20 rfl (lv_at hl 1 rfl) ?_
      obtain ⟨h7, e8, hf⟩ := Option.bind_eq_some_iff.mp hf
      refine r_pI X I e8 lp_TrapCornerModel_109 dX12_end_21 (fun H locs I => ?_)
      refine lv_iconst (v := 1) hx hb dX12_end_24 (by decide) ?_
      cases hf
      exact k_rz X I hr (Or.inr rfl) dX12_end_25
    · rw [if_neg c6] at hf
      refine lv_iconst (v := 0) hx hb dX12_end_17 (by decide) ?_
      cases hf
      exact k_rz X I hr (Or.inl rfl) dX12_end_18
def f_X12_end (o0 : Nat) (x1 : Int32) (h : AH) : Option (Int32 × AH) := f_X12_end_0 o0 x1 h
end
theorem c_X12_end (l : Launch) (g : GG) (o0 : Nat) (x1 : Int32) {h : AH} {res : Int32 × AH} (hf : f_X12_end o0 x1 h = some res) : CM l g yX12_end cX12_end 2 (some (.boolean)) 1 64 0 0 [.ref (rfG g o0), .int x1] h (some (.int res.1)) res.2 :=
  k_body (by decide) (Nat.le_of_ble_eq_true rfl) (fun p e s m below meth c R ls hR hr X I hl => w_X12_end_0 X ⟨Nat.le_of_eq hR.1.symm, Nat.le_of_eq hR.2.1.symm⟩ hr o0 x1 h ls s.heap [] hf I (lv_sub hl [0, 1] rfl))
/-! TrapCornerModel.look()I -/
theorem dX12_look_0 : decode cX12_look 0 = .ok (.aload_n 0, 1) := by decide +kernel
theorem dX12_look_1 : decode cX12_look 1 = .ok (.getfield 119, 3) := by decide +kernel
theorem dX12_look_4 : decode cX12_look 4 = .ok (.aload_n 0, 1) := by decide +kernel
theorem dX12_look_5 : decode cX12_look 5 = .ok (.getfield 122, 3) := by decide +kernel
theorem dX12_look_8 : decode cX12_look 8 = .ok (.if_icmp .ge 35, 3) := by decide +kernel
theorem dX12_look_11 : decode cX12_look 11 = .ok (.aload_n 0, 1) := by decide +kernel
theorem dX12_look_12 : decode cX12_look 12 = .ok (.getfield 23, 3) := by decide +kernel
theorem dX12_look_15 : decode cX12_look 15 = .ok (.aload_n 0, 1) := by decide +kernel
theorem dX12_look_16 : decode cX12_look 16 = .ok (.getfield 125, 3) := by decide +kernel
theorem dX12_look_19 : decode cX12_look 19 = .ok (.aload_n 0, 1) := by decide +kernel
theorem dX12_look_20 : decode cX12_look 20 = .ok (.getfield 119, 3) := by decide +kernel
theorem dX12_look_23 : decode cX12_look 23 = .ok (.iadd, 1) := by decide +kernel
theorem dX12_look_24 : decode cX12_look 24 = .ok (.baload, 1) := by decide +kernel
theorem dX12_look_25 : decode cX12_look 25 = .ok (.bipush 32, 2) := by decide +kernel
theorem dX12_look_27 : decode cX12_look 27 = .ok (.if_icmp .ne 16, 3) := by decide +kernel
theorem dX12_look_30 : decode cX12_look 30 = .ok (.aload_n 0, 1) := by decide +kernel
theorem dX12_look_31 : decode cX12_look 31 = .ok (.dup, 1) := by decide +kernel
theorem dX12_look_32 : decode cX12_look 32 = .ok (.getfield 119, 3) := by decide +kernel
theorem dX12_look_35 : decode cX12_look 35 = .ok (.iconst 1, 1) := by decide +kernel
theorem dX12_look_36 : decode cX12_look 36 = .ok (.iadd, 1) := by decide +kernel
theorem dX12_look_37 : decode cX12_look 37 = .ok (.putfield 119, 3) := by decide +kernel
theorem dX12_look_40 : decode cX12_look 40 = .ok (.goto (-40), 3) := by decide +kernel
theorem dX12_look_43 : decode cX12_look 43 = .ok (.aload_n 0, 1) := by decide +kernel
theorem dX12_look_44 : decode cX12_look 44 = .ok (.getfield 119, 3) := by decide +kernel
theorem dX12_look_47 : decode cX12_look 47 = .ok (.aload_n 0, 1) := by decide +kernel
theorem dX12_look_48 : decode cX12_look 48 = .ok (.getfield 122, 3) := by decide +kernel
theorem dX12_look_51 : decode cX12_look 51 = .ok (.if_icmp .ge 24, 3) := by decide +kernel
theorem dX12_look_54 : decode cX12_look 54 = .ok (.aload_n 0, 1) := by decide +kernel
theorem dX12_look_55 : decode cX12_look 55 = .ok (.getfield 23, 3) := by decide +kernel
theorem dX12_look_58 : decode cX12_look 58 = .ok (.aload_n 0, 1) := by decide +kernel
theorem dX12_look_59 : decode cX12_look 59 = .ok (.getfield 125, 3) := by decide +kernel
theorem dX12_look_62 : decode cX12_look 62 = .ok (.aload_n 0, 1) := by decide +kernel
theorem dX12_look_63 : decode cX12_look 63 = .ok (.getfield 119, 3) := by decide +kernel
theorem dX12_look_66 : decode cX12_look 66 = .ok (.iadd, 1) := by decide +kernel
theorem dX12_look_67 : decode cX12_look 67 = .ok (.baload, 1) := by decide +kernel
theorem dX12_look_68 : decode cX12_look 68 = .ok (.sipush 255, 3) := by decide +kernel
theorem dX12_look_71 : decode cX12_look 71 = .ok (.iand, 1) := by decide +kernel
theorem dX12_look_72 : decode cX12_look 72 = .ok (.goto 4, 3) := by decide +kernel
theorem dX12_look_75 : decode cX12_look 75 = .ok (.iconst (-1), 1) := by decide +kernel
theorem dX12_look_76 : decode cX12_look 76 = .ok (.ireturn, 1) := by decide +kernel
theorem lk_TrapCornerModel_119 : LK "TrapCornerModel" 119 [12] 10 := by
  intro ci hci
  have hci := List.mem_singleton.mp hci
  subst hci
  exact ⟨RX12, TX12, 50, "TrapCornerModel", ck_12, by decide, tw_1297, Or.inl rfl⟩
theorem lk_TrapCornerModel_122 : LK "TrapCornerModel" 122 [12] 9 := by
  intro ci hci
  have hci := List.mem_singleton.mp hci
  subst hci
  exact ⟨RX12, TX12, 50, "TrapCornerModel", ck_12, by decide, tw_1296, Or.inl rfl⟩
theorem lk_TrapCornerModel_23 : LK "TrapCornerModel" 23 [12] 5 := by
  intro ci hci
  have hci := List.mem_singleton.mp hci
  subst hci
  exact ⟨RX12, TX12, 50, "TrapCornerModel", ck_12, by decide, tw_1292, Or.inl rfl⟩
theorem lk_TrapCornerModel_125 : LK "TrapCornerModel" 125 [12] 8 := by
  intro ci hci
  have hci := List.mem_singleton.mp hci
  subst hci
  exact ⟨RX12, TX12, 50, "TrapCornerModel", ck_12, by decide, tw_1295, Or.inl rfl⟩
theorem lp_TrapCornerModel_119 : LKP "TrapCornerModel" 119 [12] 10 (.int) := by
  intro ci hci
  have hci := List.mem_singleton.mp hci
  subst hci
  exact ⟨RX12, TX12, 50, "TrapCornerModel", ck_12, by decide, tw_1297, Or.inl rfl, rfl, by decide +kernel⟩
section
variable {g : GG} {p : Program} {l : Launch} {e : Env} {R : Room} {s : State} {m : MethodId} {args : Array Value} {below : List Frame} {meth : Method} {c : Code} {n0 z0 : Nat}
def f_X12_look_43  (o0 : Nat) (h : AH) : Option (Int32 × AH) :=
  (gI [12] h o0 10).bind fun v1 =>
  (gI [12] h o0 9).bind fun v3 =>
  if v3 ≤ v1 then
    some ((-1), h)
  else
    (gR [12] h o0 5).bind fun v6 =>
    (gI [12] h o0 8).bind fun v8 =>
    (gI [12] h o0 10).bind fun v10 =>
    (aI 1 h v6 (v8 + v10)).bind fun v12 =>
    some (v12 &&& 255, h)
set_option maxHeartbeats 1000000 in
theorem w_X12_look_43 (X : Cx g p s m args meth c cX12_look 1 "TrapCornerModel") (hR : 1 ≤ R.frames ∧ 64 ≤ R.locals) (hr : meth.sig.returnType = (some (.int))) {res : Int32 × AH} : ∀ (o0 : Nat) (h : AH) (ls : Array Slot) (H : Heap) (locs : List Loc), f_X12_look_43 o0 h = some res → Iv g s n0 z0 h H locs 0 0 → lv_has ls 1 [(0, .ref (rfG g o0))] → W p l e R s m args below meth c H locs 0 0 (MQ below (QG g (some (.int res.1)) res.2) args s 0 0 (AG g)) (F0 m 43 ls []) := by
  have hx := X.1
  have hb := X.2.1
  intro o0 h ls H locs hf I hl
  unfold f_X12_look_43 at hf
  refine lv_aload_n hx hb dX12_look_43 rfl (lv_at hl 0 rfl) ?_
  obtain ⟨v1, e2, hf⟩ := Option.bind_eq_some_iff.mp hf
  refine r_gI X I e2 lk_TrapCornerModel_119 dX12_look_44 ?_
  refine lv_aload_n hx hb dX12_look_47 rfl (lv_at hl 0 rfl) ?_
  obtain ⟨v3, e4, hf⟩ := Option.bind_eq_some_iff.mp hf
  refine r_gI X I e4 lk_TrapCornerModel_122 dX12_look_48 ?_
  refine lv_icmp_ge (tgt := 75) hx hb dX12_look_51 (by decide) (fun c5 => ?_) (fun c5 => ?_)
  · rw [if_pos c5] at hf
    refine lv_iconst (v := (-1)) hx hb dX12_look_75 (by decide) ?_
    cases hf
    exact k_ri X I hr dX12_look_76
  · rw [if_neg c5] at hf
    refine lv_aload_n hx hb dX12_look_54 rfl (lv_at hl 0 rfl) ?_
    obtain ⟨v6, e7, hf⟩ := Option.bind_eq_some_iff.mp hf
    refine r_gR X I e7 lk_TrapCornerModel_23 dX12_look_55 ?_
    refine lv_aload_n hx hb dX12_look_58 rfl (lv_at hl 0 rfl) ?_
    obtain ⟨v8, e9, hf⟩ := Option.bind_eq_some_iff.mp hf
    refine r_gI X I e9 lk_TrapCornerModel_125 dX12_look_59 ?_
    refine lv_aload_n hx hb dX12_look_62 rfl (lv_at hl 0 rfl) ?_
    obtain ⟨v10, e11, hf⟩ := Option.bind_eq_some_iff.mp hf
    refine r_gI X I e11 lk_TrapCornerModel_119 dX12_look_63 ?_
    refine lv_iadd hx hb dX12_look_66 ?_
    obtain ⟨v12, e13, hf⟩ := Option.bind_eq_some_iff.mp hf
    refine r_aI1 X I e13 dX12_look_67 ?_
    refine lv_sipush (v := 255) hx hb dX12_look_68 (by decide) ?_
    refine lv_iand hx hb dX12_look_71 ?_
    refine lv_goto (tgt := 76) hx hb dX12_look_72 (by decide) ?_
    cases hf
    exact k_ri X I hr dX12_look_76
def f_X12_look_0  : Nat → Nat → AH → Option (Int32 × AH)
  | 0, _, _ => none
  | n + 1, o0, h =>
  (gI [12] h o0 10).bind fun v1 =>
  (gI [12] h o0 9).bind fun v3 =>
  if v3 ≤ v1 then
    f_X12_look_43 o0 h
  else
    (gR [12] h o0 5).bind fun v6 =>
    (gI [12] h o0 8).bind fun v8 =>
    (gI [12] h o0 10).bind fun v10 =>
    (aI 1 h v6 (v8 + v10)).bind fun v12 =>
    if v12 = 32 then
      (gI [12] h o0 10).bind fun v15 =>
      (pV [12] h o0 10 (.int (v15 + 1))).bind fun h17 =>
      f_X12_look_0  n o0 h17
    else
      f_X12_look_43 o0 h
set_option maxHeartbeats 1000000 in
theorem w_X12_look_0 (X : Cx g p s m args meth c cX12_look 1 "TrapCornerModel") (hR : 1 ≤ R.frames ∧ 64 ≤ R.locals) (hr : meth.sig.returnType = (some (.int))) {res : Int32 × AH} : ∀ (n : Nat) (o0 : Nat) (h : AH) (ls : Array Slot) (H : Heap) (locs : List Loc), f_X12_look_0 n o0 h = some res → Iv g s n0 z0 h H locs 0 0 → lv_has ls 1 [(0, .ref (rfG g o0))] → W p l e R s m args below meth c H locs 0 0 (MQ below (QG g (some (.int res.1)) res.2) args s 0 0 (AG g)) (F0 m 0 ls []) := by
  have hx := X.1
  have hb := X.2.1
  intro n
  induction n with
  | zero =>
    intro o0 h ls H locs hf
    rw [f_X12_look_0.eq_1] at hf
    cases hf
  | succ n ih =>
    intro o0 h ls H locs hf I hl
    rw [f_X12_look_0.eq_2] at hf
    refine lv_aload_n hx hb dX12_look_0 rfl (lv_at hl 0 rfl) ?_
    obtain ⟨v1, e2, hf⟩ := Option.bind_eq_some_iff.mp hf
    refine r_gI X I e2 lk_TrapCornerModel_119 dX12_look_1 ?_
    refine lv_aload_n hx hb dX12_look_4 rfl (lv_at hl 0 rfl) ?_
    obtain ⟨v3, e4, hf⟩ := Option.bind_eq_some_iff.mp hf
    refine r_gI X I e4 lk_TrapCornerModel_122 dX12_look_5 ?_
    refine lv_icmp_ge (tgt := 43) hx hb dX12_look_8 (by decide) (fun c5 => ?_) (fun c5 => ?_)
    · rw [if_pos c5] at hf
      exact w_X12_look_43 X hR hr  o0 h ls H locs hf I (lv_sub hl [0] rfl)
    · rw [if_neg c5] at hf
      refine lv_aload_n hx hb dX12_look_11 rfl (lv_at hl 0 rfl) ?_
      obtain ⟨v6, e7, hf⟩ := Option.bind_eq_some_iff.mp hf
      refine r_gR X I e7 lk_TrapCornerModel_23 dX12_look_12 ?_
      refine lv_aload_n hx hb dX12_look_15 rfl (lv_at hl 0 rfl) ?_
      obtain ⟨v8, e9, hf⟩ := Option.bind_eq_some_iff.mp hf
      refine r_gI X I e9 lk_TrapCornerModel_125 dX12_look_16 ?_
      refine lv_aload_n hx hb dX12_look_19 rfl (lv_at hl 0 rfl) ?_
      obtain ⟨v10, e11, hf⟩ := Option.bind_eq_some_iff.mp hf
      refine r_gI X I e11 lk_TrapCornerModel_119 dX12_look_20 ?_
      refine lv_iadd hx hb dX12_look_23 ?_
      obtain ⟨v12, e13, hf⟩ := Option.bind_eq_some_iff.mp hf
      refine r_aI1 X I e13 dX12_look_24 ?_
      refine lv_bipush (v := 32) hx hb dX12_look_25 (by decide) ?_
      refine lv_icmp_ne (tgt := 43) hx hb dX12_look_27 (by decide) (fun c14 => ?_) (fun c14 => ?_)
      · rw [if_neg c14] at hf
        exact w_X12_look_43 X hR hr  o0 h ls H locs hf I (lv_sub hl [0] rfl)
      · rw [if_pos c14] at hf
        refine lv_aload_n hx hb dX12_look_30 rfl (lv_at hl 0 rfl) ?_
        refine lv_dup hx hb dX12_look_31 rfl ?_
        obtain ⟨v15, e16, hf⟩ := Option.bind_eq_some_iff.mp hf
        refine r_gI X I e16 lk_TrapCornerModel_119 dX12_look_32 ?_
        refine lv_iconst (v := 1) hx hb dX12_look_35 (by decide) ?_
        refine lv_iadd hx hb dX12_look_36 ?_
        obtain ⟨h17, e18, hf⟩ := Option.bind_eq_some_iff.mp hf
        refine r_pI X I e18 lp_TrapCornerModel_119 dX12_look_37 (fun H locs I => ?_)
        refine lv_goto (tgt := 0) hx hb dX12_look_40 (by decide) ?_
        exact ih o0 h17 ls H locs hf I (lv_sub hl [0] rfl)
def f_X12_look (o0 : Nat) (h : AH) : Option (Int32 × AH) := f_X12_look_0 fu o0 h
end
theorem c_X12_look (l : Launch) (g : GG) (o0 : Nat) {h : AH} {res : Int32 × AH} (hf : f_X12_look o0 h = some res) : CM l g yX12_look cX12_look 1 (some (.int)) 1 64 0 0 [.ref (rfG g o0)] h (some (.int res.1)) res.2 :=
  k_body (by decide) (Nat.le_of_ble_eq_true rfl) (fun p e s m below meth c R ls hR hr X I hl => w_X12_look_0 X ⟨Nat.le_of_eq hR.1.symm, Nat.le_of_eq hR.2.1.symm⟩ hr fu o0 h ls s.heap [] hf I (lv_sub hl [0] rfl))
/-! TrapCornerModel.fails()Z -/
theorem dX12_fails_0 : decode cX12_fails 0 = .ok (.aload_n 0, 1) := by decide +kernel
theorem dX12_fails_1 : decode cX12_fails 1 = .ok (.getfield 128, 3) := by decide +kernel
theorem dX12_fails_4 : decode cX12_fails 4 = .ok (.iconst (-1), 1) := by decide +kernel
theorem dX12_fails_5 : decode cX12_fails 5 = .ok (.if_icmp .ne 11, 3) := by decide +kernel
theorem dX12_fails_8 : decode cX12_fails 8 = .ok (.aload_n 0, 1) := by decide +kernel
theorem dX12_fails_9 : decode cX12_fails 9 = .ok (.aload_n 0, 1) := by decide +kernel
theorem dX12_fails_10 : decode cX12_fails 10 = .ok (.getfield 119, 3) := by decide +kernel
theorem dX12_fails_13 : decode cX12_fails 13 = .ok (.putfield 128, 3) := by decide +kernel
theorem dX12_fails_16 : decode cX12_fails 16 = .ok (.iconst 0, 1) := by decide +kernel
theorem dX12_fails_17 : decode cX12_fails 17 = .ok (.ireturn, 1) := by decide +kernel
theorem lk_TrapCornerModel_128 : LK "TrapCornerModel" 128 [12] 11 := by
  intro ci hci
  have hci := List.mem_singleton.mp hci
  subst hci
  exact ⟨RX12, TX12, 50, "TrapCornerModel", ck_12, by decide, tw_1298, Or.inl rfl⟩
theorem lp_TrapCornerModel_128 : LKP "TrapCornerModel" 128 [12] 11 (.int) := by
  intro ci hci
  have hci := List.mem_singleton.mp hci
  subst hci
  exact ⟨RX12, TX12, 50, "TrapCornerModel", ck_12, by decide, tw_1298, Or.inl rfl, rfl, by decide +kernel⟩
section
variable {g : GG} {p : Program} {l : Launch} {e : Env} {R : Room} {s : State} {m : MethodId} {args : Array Value} {below : List Frame} {meth : Method} {c : Code} {n0 z0 : Nat}
def f_X12_fails_0  (o0 : Nat) (h : AH) : Option (Int32 × AH) :=
  (gI [12] h o0 11).bind fun v1 =>
  if v1 = ((-1)) then
    (gI [12] h o0 10).bind fun v4 =>
    (pV [12] h o0 11 (.int v4)).bind fun h6 =>
    some (0, h6)
  else
    some (0, h)
set_option maxHeartbeats 1000000 in
theorem w_X12_fails_0 (X : Cx g p s m args meth c cX12_fails 1 "TrapCornerModel") (hR : 1 ≤ R.frames ∧ 64 ≤ R.locals) (hr : meth.sig.returnType = (some (.boolean))) {res : Int32 × AH} : ∀ (o0 : Nat) (h : AH) (ls : Array Slot) (H : Heap) (locs : List Loc), f_X12_fails_0 o0 h = some res → Iv g s n0 z0 h H locs 0 0 → lv_has ls 1 [(0, .ref (rfG g o0))] → W p l e R s m args below meth c H locs 0 0 (MQ below (QG g (some (.int res.1)) res.2) args s 0 0 (AG g)) (F0 m 0 ls []) := by
  have hx := X.1
  have hb := X.2.1
  intro o0 h ls H locs hf I hl
  unfold f_X12_fails_0 at hf
  refine lv_aload_n hx hb dX12_fails_0 rfl (lv_at hl 0 rfl) ?_
  obtain ⟨v1, e2, hf⟩ := Option.bind_eq_some_iff.mp hf
  refine r_gI X I e2 lk_TrapCornerModel_128 dX12_fails_1 ?_
  refine lv_iconst (v := (-1)) hx hb dX12_fails_4 (by decide) ?_
  refine lv_icmp_ne (tgt := 16) hx hb dX12_fails_5 (by decide) (fun c3 => ?_) (fun c3 => ?_)
  · rw [if_neg c3] at hf
    refine lv_iconst (v := 0) hx hb dX12_fails_16 (by decide) ?_
    cases hf
    exact k_rz X I hr (Or.inl rfl) dX12_fails_17
  · rw [if_pos c3] at hf
    refine lv_aload_n hx hb dX12_fails_8 rfl (lv_at hl 0 rfl) ?_
    refine lv_aload_n hx hb dX12_fails_9 rfl (lv_at hl 0 rfl) ?_
    obtain ⟨v4, e5, hf⟩ := Option.bind_eq_some_iff.mp hf
    refine r_gI X I e5 lk_TrapCornerModel_119 dX12_fails_10 ?_
    obtain ⟨h6, e7, hf⟩ := Option.bind_eq_some_iff.mp hf
    refine r_pI X I e7 lp_TrapCornerModel_128 dX12_fails_13 (fun H locs I => ?_)
    refine lv_iconst (v := 0) hx hb dX12_fails_16 (by decide) ?_
    cases hf
    exact k_rz X I hr (Or.inl rfl) dX12_fails_17
def f_X12_fails (o0 : Nat) (h : AH) : Option (Int32 × AH) := f_X12_fails_0 o0 h
end
theorem c_X12_fails (l : Launch) (g : GG) (o0 : Nat) {h : AH} {res : Int32 × AH} (hf : f_X12_fails o0 h = some res) : CM l g yX12_fails cX12_fails 1 (some (.boolean)) 1 64 0 0 [.ref (rfG g o0)] h (some (.int res.1)) res.2 :=
  k_body (by decide) (Nat.le_of_ble_eq_true rfl) (fun p e s m below meth c R ls hR hr X I hl => w_X12_fails_0 X ⟨Nat.le_of_eq hR.1.symm, Nat.le_of_eq hR.2.1.symm⟩ hr o0 h ls s.heap [] hf I (lv_sub hl [0] rfl))
/-! TrapCornerModel.goesIn()Z -/
theorem dX12_goesIn_0 : decode cX12_goesIn 0 = .ok (.aload_n 0, 1) := by decide +kernel
theorem dX12_goesIn_1 : decode cX12_goesIn 1 = .ok (.getfield 131, 3) := by decide +kernel
theorem dX12_goesIn_4 : decode cX12_goesIn 4 = .ok (.bipush 6, 2) := by decide +kernel
theorem dX12_goesIn_6 : decode cX12_goesIn 6 = .ok (.if_icmp .ne 8, 3) := by decide +kernel
theorem dX12_goesIn_9 : decode cX12_goesIn 9 = .ok (.aload_n 0, 1) := by decide +kernel
theorem dX12_goesIn_10 : decode cX12_goesIn 10 = .ok (.invokevirtual 134, 3) := by decide +kernel
theorem dX12_goesIn_13 : decode cX12_goesIn 13 = .ok (.ireturn, 1) := by decide +kernel
theorem dX12_goesIn_14 : decode cX12_goesIn 14 = .ok (.aload_n 0, 1) := by decide +kernel
theorem dX12_goesIn_15 : decode cX12_goesIn 15 = .ok (.dup, 1) := by decide +kernel
theorem dX12_goesIn_16 : decode cX12_goesIn 16 = .ok (.getfield 131, 3) := by decide +kernel
theorem dX12_goesIn_19 : decode cX12_goesIn 19 = .ok (.iconst 1, 1) := by decide +kernel
theorem dX12_goesIn_20 : decode cX12_goesIn 20 = .ok (.iadd, 1) := by decide +kernel
theorem dX12_goesIn_21 : decode cX12_goesIn 21 = .ok (.putfield 131, 3) := by decide +kernel
theorem dX12_goesIn_24 : decode cX12_goesIn 24 = .ok (.aload_n 0, 1) := by decide +kernel
theorem dX12_goesIn_25 : decode cX12_goesIn 25 = .ok (.dup, 1) := by decide +kernel
theorem dX12_goesIn_26 : decode cX12_goesIn 26 = .ok (.getfield 119, 3) := by decide +kernel
theorem dX12_goesIn_29 : decode cX12_goesIn 29 = .ok (.iconst 1, 1) := by decide +kernel
theorem dX12_goesIn_30 : decode cX12_goesIn 30 = .ok (.iadd, 1) := by decide +kernel
theorem dX12_goesIn_31 : decode cX12_goesIn 31 = .ok (.putfield 119, 3) := by decide +kernel
theorem dX12_goesIn_34 : decode cX12_goesIn 34 = .ok (.iconst 1, 1) := by decide +kernel
theorem dX12_goesIn_35 : decode cX12_goesIn 35 = .ok (.ireturn, 1) := by decide +kernel
theorem lk_TrapCornerModel_131 : LK "TrapCornerModel" 131 [12] 12 := by
  intro ci hci
  have hci := List.mem_singleton.mp hci
  subst hci
  exact ⟨RX12, TX12, 50, "TrapCornerModel", ck_12, by decide, tw_1299, Or.inl rfl⟩
theorem lp_TrapCornerModel_131 : LKP "TrapCornerModel" 131 [12] 12 (.int) := by
  intro ci hci
  have hci := List.mem_singleton.mp hci
  subst hci
  exact ⟨RX12, TX12, 50, "TrapCornerModel", ck_12, by decide, tw_1299, Or.inl rfl, rfl, by decide +kernel⟩
theorem vk_TrapCornerModel_134 : VK "TrapCornerModel" 134 [12] yX12_fails 0 := ⟨tw_1485, tw_1487, tw_13, ⟨by decide, by decide⟩, by decide +kernel, fun ci hci => by
  have hci := List.mem_singleton.mp hci
  subst hci
  exact ⟨_, rfl, tp_57⟩⟩
section
variable {g : GG} {p : Program} {l : Launch} {e : Env} {R : Room} {s : State} {m : MethodId} {args : Array Value} {below : List Frame} {meth : Method} {c : Code} {n0 z0 : Nat}
def f_X12_goesIn_0  (o0 : Nat) (h : AH) : Option (Int32 × AH) :=
  (gI [12] h o0 12).bind fun v1 =>
  if v1 = 6 then
    (isC [12] h o0).bind fun _ =>
    cN (f_X12_fails o0 h) h fun v12 h13 =>
    rZ v12 h13
  else
    (gI [12] h o0 12).bind fun v4 =>
    (pV [12] h o0 12 (.int (v4 + 1))).bind fun h6 =>
    (gI [12] h6 o0 10).bind fun v8 =>
    (pV [12] h6 o0 10 (.int (v8 + 1))).bind fun h10 =>
    some (1, h10)
set_option maxHeartbeats 1000000 in
theorem w_X12_goesIn_0 (X : Cx g p s m args meth c cX12_goesIn 1 "TrapCornerModel") (hR : 2 ≤ R.frames ∧ 128 ≤ R.locals) (hr : meth.sig.returnType = (some (.boolean))) {res : Int32 × AH} : ∀ (o0 : Nat) (h : AH) (ls : Array Slot) (H : Heap) (locs : List Loc), f_X12_goesIn_0 o0 h = some res → Iv g s n0 z0 h H locs 0 0 → lv_has ls 1 [(0, .ref (rfG g o0))] → W p l e R s m args below meth c H locs 0 0 (MQ below (QG g (some (.int res.1)) res.2) args s 0 0 (AG g)) (F0 m 0 ls []) := by
  have hx := X.1
  have hb := X.2.1
  intro o0 h ls H locs hf I hl
  unfold f_X12_goesIn_0 at hf
  refine lv_aload_n hx hb dX12_goesIn_0 rfl (lv_at hl 0 rfl) ?_
  obtain ⟨v1, e2, hf⟩ := Option.bind_eq_some_iff.mp hf
  refine r_gI X I e2 lk_TrapCornerModel_131 dX12_goesIn_1 ?_
  refine lv_bipush (v := 6) hx hb dX12_goesIn_4 (by decide) ?_
  refine lv_icmp_ne (tgt := 14) hx hb dX12_goesIn_6 (by decide) (fun c3 => ?_) (fun c3 => ?_)
  · rw [if_neg c3] at hf
    refine lv_aload_n hx hb dX12_goesIn_14 rfl (lv_at hl 0 rfl) ?_
    refine lv_dup hx hb dX12_goesIn_15 rfl ?_
    obtain ⟨v4, e5, hf⟩ := Option.bind_eq_some_iff.mp hf
    refine r_gI X I e5 lk_TrapCornerModel_131 dX12_goesIn_16 ?_
    refine lv_iconst (v := 1) hx hb dX12_goesIn_19 (by decide) ?_
    refine lv_iadd hx hb dX12_goesIn_20 ?_
    obtain ⟨h6, e7, hf⟩ := Option.bind_eq_some_iff.mp hf
    refine r_pI X I e7 lp_TrapCornerModel_131 dX12_goesIn_21 (fun H locs I => ?_)
    refine lv_aload_n hx hb dX12_goesIn_24 rfl (lv_at hl 0 rfl) ?_
    refine lv_dup hx hb dX12_goesIn_25 rfl ?_
    obtain ⟨v8, e9, hf⟩ := Option.bind_eq_some_iff.mp hf
    refine r_gI X I e9 lk_TrapCornerModel_119 dX12_goesIn_26 ?_
    refine lv_iconst (v := 1) hx hb dX12_goesIn_29 (by decide) ?_
    refine lv_iadd hx hb dX12_goesIn_30 ?_
    obtain ⟨h10, e11, hf⟩ := Option.bind_eq_some_iff.mp hf
    refine r_pI X I e11 lp_TrapCornerModel_119 dX12_goesIn_31 (fun H locs I => ?_)
    refine lv_iconst (v := 1) hx hb dX12_goesIn_34 (by decide) ?_
    cases hf
    exact k_rz X I hr (Or.inr rfl) dX12_goesIn_35
  · rw [if_pos c3] at hf
    refine lv_aload_n hx hb dX12_goesIn_9 rfl (lv_at hl 0 rfl) ?_
    obtain ⟨_, g16, hf⟩ := Option.bind_eq_some_iff.mp hf
    obtain ⟨v12, h13, e14, z15, hf⟩ := cN_spec hf
    refine k_Vi (As := []) (rest := []) X I (c_X12_fails l g o0 e14) z15 g16 vk_TrapCornerModel_134 tw_1488 ⟨Nat.le_trans (by decide) hR.1, Nat.le_trans (by decide) hR.2⟩ ⟨Nat.zero_le _, Nat.zero_le _⟩ rfl hl.1 rfl (Nat.le_of_ble_eq_true rfl) dX12_goesIn_10 (fun H locs I => ?_)
    obtain ⟨hz, rfl⟩ := rZ_spec hf
    exact k_rz X I hr hz dX12_goesIn_13
def f_X12_goesIn (o0 : Nat) (h : AH) : Option (Int32 × AH) := f_X12_goesIn_0 o0 h
end
theorem c_X12_goesIn (l : Launch) (g : GG) (o0 : Nat) {h : AH} {res : Int32 × AH} (hf : f_X12_goesIn o0 h = some res) : CM l g yX12_goesIn cX12_goesIn 1 (some (.boolean)) 2 128 0 0 [.ref (rfG g o0)] h (some (.int res.1)) res.2 :=
  k_body (by decide) (Nat.le_of_ble_eq_true rfl) (fun p e s m below meth c R ls hR hr X I hl => w_X12_goesIn_0 X ⟨Nat.le_of_eq hR.1.symm, Nat.le_of_eq hR.2.1.symm⟩ hr o0 h ls s.heap [] hf I (lv_sub hl [0] rfl))
/-! TrapCornerModel.takes(I)Z -/
theorem dX12_takes_0 : decode cX12_takes 0 = .ok (.aload_n 0, 1) := by decide +kernel
theorem dX12_takes_1 : decode cX12_takes 1 = .ok (.getfield 128, 3) := by decide +kernel
theorem dX12_takes_4 : decode cX12_takes 4 = .ok (.iconst (-1), 1) := by decide +kernel
theorem dX12_takes_5 : decode cX12_takes 5 = .ok (.if_icmp .ne 11, 3) := by decide +kernel
theorem dX12_takes_8 : decode cX12_takes 8 = .ok (.aload_n 0, 1) := by decide +kernel
theorem dX12_takes_9 : decode cX12_takes 9 = .ok (.invokevirtual 138, 3) := by decide +kernel
theorem dX12_takes_12 : decode cX12_takes 12 = .ok (.iload_n 1, 1) := by decide +kernel
theorem dX12_takes_13 : decode cX12_takes 13 = .ok (.if_icmp .eq 8, 3) := by decide +kernel
theorem dX12_takes_16 : decode cX12_takes 16 = .ok (.aload_n 0, 1) := by decide +kernel
theorem dX12_takes_17 : decode cX12_takes 17 = .ok (.invokevirtual 134, 3) := by decide +kernel
theorem dX12_takes_20 : decode cX12_takes 20 = .ok (.ireturn, 1) := by decide +kernel
theorem dX12_takes_21 : decode cX12_takes 21 = .ok (.aload_n 0, 1) := by decide +kernel
theorem dX12_takes_22 : decode cX12_takes 22 = .ok (.dup, 1) := by decide +kernel
theorem dX12_takes_23 : decode cX12_takes 23 = .ok (.getfield 119, 3) := by decide +kernel
theorem dX12_takes_26 : decode cX12_takes 26 = .ok (.iconst 1, 1) := by decide +kernel
theorem dX12_takes_27 : decode cX12_takes 27 = .ok (.iadd, 1) := by decide +kernel
theorem dX12_takes_28 : decode cX12_takes 28 = .ok (.putfield 119, 3) := by decide +kernel
theorem dX12_takes_31 : decode cX12_takes 31 = .ok (.iconst 1, 1) := by decide +kernel
theorem dX12_takes_32 : decode cX12_takes 32 = .ok (.ireturn, 1) := by decide +kernel
theorem vk_TrapCornerModel_138 : VK "TrapCornerModel" 138 [12] yX12_look 0 := ⟨tw_1481, tw_1483, tw_13, ⟨by decide, by decide⟩, by decide +kernel, fun ci hci => by
  have hci := List.mem_singleton.mp hci
  subst hci
  exact ⟨_, rfl, tp_56⟩⟩
section
variable {g : GG} {p : Program} {l : Launch} {e : Env} {R : Room} {s : State} {m : MethodId} {args : Array Value} {below : List Frame} {meth : Method} {c : Code} {n0 z0 : Nat}
def f_X12_takes_16  (o0 : Nat) (h : AH) : Option (Int32 × AH) :=
  (isC [12] h o0).bind fun _ =>
  cN (f_X12_fails o0 h) h fun v1 h2 =>
  rZ v1 h2
set_option maxHeartbeats 1000000 in
theorem w_X12_takes_16 (X : Cx g p s m args meth c cX12_takes 2 "TrapCornerModel") (hR : 2 ≤ R.frames ∧ 128 ≤ R.locals) (hr : meth.sig.returnType = (some (.boolean))) {res : Int32 × AH} : ∀ (o0 : Nat) (h : AH) (ls : Array Slot) (H : Heap) (locs : List Loc), f_X12_takes_16 o0 h = some res → Iv g s n0 z0 h H locs 0 0 → lv_has ls 2 [(0, .ref (rfG g o0))] → W p l e R s m args below meth c H locs 0 0 (MQ below (QG g (some (.int res.1)) res.2) args s 0 0 (AG g)) (F0 m 16 ls []) := by
  have hx := X.1
  have hb := X.2.1
  intro o0 h ls H locs hf I hl
  unfold f_X12_takes_16 at hf
  refine lv_aload_n hx hb dX12_takes_16 rfl (lv_at hl 0 rfl) ?_
  obtain ⟨_, g5, hf⟩ := Option.bind_eq_some_iff.mp hf
  obtain ⟨v1, h2, e3, z4, hf⟩ := cN_spec hf
  refine k_Vi (As := []) (rest := []) X I (c_X12_fails l g o0 e3) z4 g5 vk_TrapCornerModel_134 tw_1488 ⟨Nat.le_trans (by decide) hR.1, Nat.le_trans (by decide) hR.2⟩ ⟨Nat.zero_le _, Nat.zero_le _⟩ rfl hl.1 rfl (Nat.le_of_ble_eq_true rfl) dX12_takes_17 (fun H locs I => ?_)
  obtain ⟨hz, rfl⟩ := rZ_spec hf
  exact k_rz X I hr hz dX12_takes_20
def f_X12_takes_0  (o0 : Nat) (x1 : Int32) (h : AH) : Option (Int32 × AH) :=
  (gI [12] h o0 11).bind fun v1 =>
  if v1 = ((-1)) then
    (isC [12] h o0).bind fun _ =>
    cN (f_X12_look o0 h) h fun v4 h5 =>
    if v4 = x1 then
      (gI [12] h5 o0 10).bind fun v10 =>
      (pV [12] h5 o0 10 (.int (v10 + 1))).bind fun h12 =>
      some (1, h12)
    else
      f_X12_takes_16 o0 h5
  else
    f_X12_takes_16 o0 h
set_option maxHeartbeats 1000000 in
theorem w_X12_takes_0 (X : Cx g p s m args meth c cX12_takes 2 "TrapCornerModel") (hR : 2 ≤ R.frames ∧ 128 ≤ R.locals) (hr : meth.sig.returnType = (some (.boolean))) {res : Int32 × AH} : ∀ (o0 : Nat) (x1 : Int32) (h : AH) (ls : Array Slot) (H : Heap) (locs : List Loc), f_X12_takes_0 o0 x1 h = some res → Iv g s n0 z0 h H locs 0 0 → lv_has ls 2 [(0, .ref (rfG g o0)), (1, .int x1)] → W p l e R s m args below meth c H locs 0 0 (MQ below (QG g (some (.int res.1)) res.2) args s 0 0 (AG g)) (F0 m 0 ls []) := by
  have hx := X.1
  have hb := X.2.1
  intro o0 x1 h ls H locs hf I hl
  unfold f_X12_takes_0 at hf
  refine lv_aload_n hx hb dX12_takes_0 rfl (lv_at hl 0 rfl) ?_
  obtain ⟨v1, e2, hf⟩ := Option.bind_eq_some_iff.mp hf
  refine r_gI X I e2 lk_TrapCornerModel_128 dX12_takes_1 ?_
  refine lv_iconst (v := (-1)) hx hb dX12_takes_4 (by decide) ?_
  refine lv_icmp_ne (tgt := 16) hx hb dX12_takes_5 (by decide) (fun c3 => ?_) (fun c3 => ?_)
  · rw [if_neg c3] at hf
    exact w_X12_takes_16 X hR hr  o0 h ls H locs hf I (lv_sub hl [0] rfl)
  · rw [if_pos c3] at hf
    refine lv_aload_n hx hb dX12_takes_8 rfl (lv_at hl 0 rfl) ?_
    obtain ⟨_, g8, hf⟩ := Option.bind_eq_some_iff.mp hf
    obtain ⟨v4, h5, e6, z7, hf⟩ := cN_spec hf
    refine k_Vi (As := []) (rest := []) X I (c_X12_look l g o0 e6) z7 g8 vk_TrapCornerModel_138 tw_1484 ⟨Nat.le_trans (by decide) hR.1, Nat.le_trans (by decide) hR.2⟩ ⟨Nat.zero_le _, Nat.zero_le _⟩ rfl hl.1 rfl (Nat.le_of_ble_eq_true rfl) dX12_takes_9 (fun H locs I => ?_)
    refine lv_iload_n hx hb dX12_takes_12 rfl (lv_at hl 1 rfl) ?_
    refine lv_icmp_eq (tgt := 21) hx hb dX12_takes_13 (by decide) (fun c9 => ?_) (fun c9 => ?_)
    · rw [if_pos c9] at hf
      refine lv_aload_n hx hb dX12_takes_21 rfl (lv_at hl 0 rfl) ?_
      refine lv_dup hx hb dX12_takes_22 rfl ?_
      obtain ⟨v10, e11, hf⟩ := Option.bind_eq_some_iff.mp hf
      refine r_gI X I e11 lk_TrapCornerModel_119 dX12_takes_23 ?_
      refine lv_iconst (v := 1) hx hb dX12_takes_26 (by decide) ?_
      refine lv_iadd hx hb dX12_takes_27 ?_
      obtain ⟨h12, e13, hf⟩ := Option.bind_eq_some_iff.mp hf
      refine r_pI X I e13 lp_TrapCornerModel_119 dX12_takes_28 (fun H locs I => ?_)
      refine lv_iconst (v := 1) hx hb dX12_takes_31 (by decide) ?_
      cases hf
      exact k_rz X I hr (Or.inr rfl) dX12_takes_32
    · rw [if_neg c9] at hf
      exact w_X12_takes_16 X hR hr  o0 h5 ls H locs hf I (lv_sub hl [0] rfl)
def f_X12_takes (o0 : Nat) (x1 : Int32) (h : AH) : Option (Int32 × AH) := f_X12_takes_0 o0 x1 h
end
theorem c_X12_takes (l : Launch) (g : GG) (o0 : Nat) (x1 : Int32) {h : AH} {res : Int32 × AH} (hf : f_X12_takes o0 x1 h = some res) : CM l g yX12_takes cX12_takes 2 (some (.boolean)) 2 128 0 0 [.ref (rfG g o0), .int x1] h (some (.int res.1)) res.2 :=
  k_body (by decide) (Nat.le_of_ble_eq_true rfl) (fun p e s m below meth c R ls hR hr X I hl => w_X12_takes_0 X ⟨Nat.le_of_eq hR.1.symm, Nat.le_of_eq hR.2.1.symm⟩ hr o0 x1 h ls s.heap [] hf I (lv_sub hl [0, 1] rfl))
/-! TrapCornerModel.isDigit()Z -/
theorem dX12_isDigit_0 : decode cX12_isDigit 0 = .ok (.aload_n 0, 1) := by decide +kernel
theorem dX12_isDigit_1 : decode cX12_isDigit 1 = .ok (.getfield 119, 3) := by decide +kernel
theorem dX12_isDigit_4 : decode cX12_isDigit 4 = .ok (.aload_n 0, 1) := by decide +kernel
theorem dX12_isDigit_5 : decode cX12_isDigit 5 = .ok (.getfield 122, 3) := by decide +kernel
theorem dX12_isDigit_8 : decode cX12_isDigit 8 = .ok (.if_icmp .ge 45, 3) := by decide +kernel
theorem dX12_isDigit_11 : decode cX12_isDigit 11 = .ok (.aload_n 0, 1) := by decide +kernel
theorem dX12_isDigit_12 : decode cX12_isDigit 12 = .ok (.getfield 23, 3) := by decide +kernel
theorem dX12_isDigit_15 : decode cX12_isDigit 15 = .ok (.aload_n 0, 1) := by decide +kernel
theorem dX12_isDigit_16 : decode cX12_isDigit 16 = .ok (.getfield 125, 3) := by decide +kernel
theorem dX12_isDigit_19 : decode cX12_isDigit 19 = .ok (.aload_n 0, 1) := by decide +kernel
theorem dX12_isDigit_20 : decode cX12_isDigit 20 = .ok (.getfield 119, 3) := by decide +kernel
theorem dX12_isDigit_23 : decode cX12_isDigit 23 = .ok (.iadd, 1) := by decide +kernel
theorem dX12_isDigit_24 : decode cX12_isDigit 24 = .ok (.baload, 1) := by decide +kernel
theorem dX12_isDigit_25 : decode cX12_isDigit 25 = .ok (.bipush 48, 2) := by decide +kernel
theorem dX12_isDigit_27 : decode cX12_isDigit 27 = .ok (.if_icmp .lt 26, 3) := by decide +kernel
theorem dX12_isDigit_30 : decode cX12_isDigit 30 = .ok (.aload_n 0, 1) := by decide +kernel
theorem dX12_isDigit_31 : decode cX12_isDigit 31 = .ok (.getfield 23, 3) := by decide +kernel
theorem dX12_isDigit_34 : decode cX12_isDigit 34 = .ok (.aload_n 0, 1) := by decide +kernel
theorem dX12_isDigit_35 : decode cX12_isDigit 35 = .ok (.getfield 125, 3) := by decide +kernel
theorem dX12_isDigit_38 : decode cX12_isDigit 38 = .ok (.aload_n 0, 1) := by decide +kernel
theorem dX12_isDigit_39 : decode cX12_isDigit 39 = .ok (.getfield 119, 3) := by decide +kernel
theorem dX12_isDigit_42 : decode cX12_isDigit 42 = .ok (.iadd, 1) := by decide +kernel
theorem dX12_isDigit_43 : decode cX12_isDigit 43 = .ok (.baload, 1) := by decide +kernel
theorem dX12_isDigit_44 : decode cX12_isDigit 44 = .ok (.bipush 57, 2) := by decide +kernel
theorem dX12_isDigit_46 : decode cX12_isDigit 46 = .ok (.if_icmp .gt 7, 3) := by decide +kernel
theorem dX12_isDigit_49 : decode cX12_isDigit 49 = .ok (.iconst 1, 1) := by decide +kernel
theorem dX12_isDigit_50 : decode cX12_isDigit 50 = .ok (.goto 4, 3) := by decide +kernel
theorem dX12_isDigit_53 : decode cX12_isDigit 53 = .ok (.iconst 0, 1) := by decide +kernel
theorem dX12_isDigit_54 : decode cX12_isDigit 54 = .ok (.ireturn, 1) := by decide +kernel
section
variable {g : GG} {p : Program} {l : Launch} {e : Env} {R : Room} {s : State} {m : MethodId} {args : Array Value} {below : List Frame} {meth : Method} {c : Code} {n0 z0 : Nat}
def f_X12_isDigit_0  (o0 : Nat) (h : AH) : Option (Int32 × AH) :=
  (gI [12] h o0 10).bind fun v1 =>
  (gI [12] h o0 9).bind fun v3 =>
  if v3 ≤ v1 then
    some (0, h)
  else
    (gR [12] h o0 5).bind fun v6 =>
    (gI [12] h o0 8).bind fun v8 =>
    (gI [12] h o0 10).bind fun v10 =>
    (aI 1 h v6 (v8 + v10)).bind fun v12 =>
    if v12 < 48 then
      some (0, h)
    else
      (gR [12] h o0 5).bind fun v15 =>
      (gI [12] h o0 8).bind fun v17 =>
      (gI [12] h o0 10).bind fun v19 =>
      (aI 1 h v15 (v17 + v19)).bind fun v21 =>
      if 57 < v21 then
        some (0, h)
      else
        some (1, h)
set_option maxHeartbeats 1000000 in
theorem w_X12_isDigit_0 (X : Cx g p s m args meth c cX12_isDigit 1 "TrapCornerModel") (hR : 1 ≤ R.frames ∧ 64 ≤ R.locals) (hr : meth.sig.returnType = (some (.boolean))) {res : Int32 × AH} : ∀ (o0 : Nat) (h : AH) (ls : Array Slot) (H : Heap) (locs : List Loc), f_X12_isDigit_0 o0 h = some res → Iv g s n0 z0 h H locs 0 0 → lv_has ls 1 [(0, .ref (rfG g o0))] → W p l e R s m args below meth c H locs 0 0 (MQ below (QG g (some (.int res.1)) res.2) args s 0 0 (AG g)) (F0 m 0 ls []) := by
  have hx := X.1
  have hb := X.2.1
  intro o0 h ls H locs hf I hl
  unfold f_X12_isDigit_0 at hf
  refine lv_aload_n hx hb dX12_isDigit_0 rfl (lv_at hl 0 rfl) ?_
  obtain ⟨v1, e2, hf⟩ := Option.bind_eq_some_iff.mp hf
  refine r_gI X I e2 lk_TrapCornerModel_119 dX12_isDigit_1 ?_
  refine lv_aload_n hx hb dX12_isDigit_4 rfl (lv_at hl 0 rfl) ?_
  obtain ⟨v3, e4, hf⟩ := Option.bind_eq_some_iff.mp hf
  refine r_gI X I e4 lk_TrapCornerModel_122 dX12_isDigit_5 ?_
  refine lv_icmp_ge (tgt := 53) hx hb dX12_isDigit_8 (by decide) (fun c5 => ?_) (fun c5 => ?_)
  · rw [if_pos c5] at hf
    refine lv_iconst (v := 0) hx hb dX12_isDigit_53 (by decide) ?_
    cases hf
    exact k_rz X I hr (Or.inl rfl) dX12_isDigit_54
  · rw [if_neg c5] at hf
    refine lv_aload_n hx hb dX12_isDigit_11 rfl (lv_at hl 0 rfl) ?_
    obtain ⟨v6, e7, hf⟩ := Option.bind_eq_some_iff.mp hf
    refine r_gR X I e7 lk_TrapCornerModel_23 dX12_isDigit_12 ?_
    refine lv_aload_n hx hb dX12_isDigit_15 rfl (lv_at hl 0 rfl) ?_
    obtain ⟨v8, e9, hf⟩ := Option.bind_eq_some_iff.mp hf
    refine r_gI X I e9 lk_TrapCornerModel_125 dX12_isDigit_16 ?_
    refine lv_aload_n hx hb dX12_isDigit_19 rfl (lv_at hl 0 rfl) ?_
    obtain ⟨v10, e11, hf⟩ := Option.bind_eq_some_iff.mp hf
    refine r_gI X I e11 lk_TrapCornerModel_119 dX12_isDigit_20 ?_
    refine lv_iadd hx hb dX12_isDigit_23 ?_
    obtain ⟨v12, e13, hf⟩ := Option.bind_eq_some_iff.mp hf
    refine r_aI1 X I e13 dX12_isDigit_24 ?_
    refine lv_bipush (v := 48) hx hb dX12_isDigit_25 (by decide) ?_
    refine lv_icmp_lt (tgt := 53) hx hb dX12_isDigit_27 (by decide) (fun c14 => ?_) (fun c14 => ?_)
    · rw [if_pos c14] at hf
      refine lv_iconst (v := 0) hx hb dX12_isDigit_53 (by decide) ?_
      cases hf
      exact k_rz X I hr (Or.inl rfl) dX12_isDigit_54
    · rw [if_neg c14] at hf
      refine lv_aload_n hx hb dX12_isDigit_30 rfl (lv_at hl 0 rfl) ?_
      obtain ⟨v15, e16, hf⟩ := Option.bind_eq_some_iff.mp hf
      refine r_gR X I e16 lk_TrapCornerModel_23 dX12_isDigit_31 ?_
      refine lv_aload_n hx hb dX12_isDigit_34 rfl (lv_at hl 0 rfl) ?_
      obtain ⟨v17, e18, hf⟩ := Option.bind_eq_some_iff.mp hf
      refine r_gI X I e18 lk_TrapCornerModel_125 dX12_isDigit_35 ?_
      refine lv_aload_n hx hb dX12_isDigit_38 rfl (lv_at hl 0 rfl) ?_
      obtain ⟨v19, e20, hf⟩ := Option.bind_eq_some_iff.mp hf
      refine r_gI X I e20 lk_TrapCornerModel_119 dX12_isDigit_39 ?_
      refine lv_iadd hx hb dX12_isDigit_42 ?_
      obtain ⟨v21, e22, hf⟩ := Option.bind_eq_some_iff.mp hf
      refine r_aI1 X I e22 dX12_isDigit_43 ?_
      refine lv_bipush (v := 57) hx hb dX12_isDigit_44 (by decide) ?_
      refine lv_icmp_gt (tgt := 53) hx hb dX12_isDigit_46 (by decide) (fun c23 => ?_) (fun c23 => ?_)
      · rw [if_pos c23] at hf
        refine lv_iconst (v := 0) hx hb dX12_isDigit_53 (by decide) ?_
        cases hf
        exact k_rz X I hr (Or.inl rfl) dX12_isDigit_54
      · rw [if_neg c23] at hf
        refine lv_iconst (v := 1) hx hb dX12_isDigit_49 (by decide) ?_
        refine lv_goto (tgt := 54) hx hb dX12_isDigit_50 (by decide) ?_
        cases hf
        exact k_rz X I hr (Or.inr rfl) dX12_isDigit_54
def f_X12_isDigit (o0 : Nat) (h : AH) : Option (Int32 × AH) := f_X12_isDigit_0 o0 h
end
theorem c_X12_isDigit (l : Launch) (g : GG) (o0 : Nat) {h : AH} {res : Int32 × AH} (hf : f_X12_isDigit o0 h = some res) : CM l g yX12_isDigit cX12_isDigit 1 (some (.boolean)) 1 64 0 0 [.ref (rfG g o0)] h (some (.int res.1)) res.2 :=
  k_body (by decide) (Nat.le_of_ble_eq_true rfl) (fun p e s m below meth c R ls hR hr X I hl => w_X12_isDigit_0 X ⟨Nat.le_of_eq hR.1.symm, Nat.le_of_eq hR.2.1.symm⟩ hr o0 h ls s.heap [] hf I (lv_sub hl [0] rfl))
/-! TrapCornerModel.isSign(I)Z -/
theorem dX12_isSign_0 : decode cX12_isSign 0 = .ok (.iload_n 0, 1) := by decide +kernel
theorem dX12_isSign_1 : decode cX12_isSign 1 = .ok (.bipush 61, 2) := by decide +kernel
theorem dX12_isSign_3 : decode cX12_isSign 3 = .ok (.if_icmp .eq 15, 3) := by decide +kernel
theorem dX12_isSign_6 : decode cX12_isSign 6 = .ok (.iload_n 0, 1) := by decide +kernel
theorem dX12_isSign_7 : decode cX12_isSign 7 = .ok (.bipush 60, 2) := by decide +kernel
theorem dX12_isSign_9 : decode cX12_isSign 9 = .ok (.if_icmp .eq 9, 3) := by decide +kernel
theorem dX12_isSign_12 : decode cX12_isSign 12 = .ok (.iload_n 0, 1) := by decide +kernel
theorem dX12_isSign_13 : decode cX12_isSign 13 = .ok (.bipush 62, 2) := by decide +kernel
theorem dX12_isSign_15 : decode cX12_isSign 15 = .ok (.if_icmp .ne 7, 3) := by decide +kernel
theorem dX12_isSign_18 : decode cX12_isSign 18 = .ok (.iconst 1, 1) := by decide +kernel
theorem dX12_isSign_19 : decode cX12_isSign 19 = .ok (.goto 4, 3) := by decide +kernel
theorem dX12_isSign_22 : decode cX12_isSign 22 = .ok (.iconst 0, 1) := by decide +kernel
theorem dX12_isSign_23 : decode cX12_isSign 23 = .ok (.ireturn, 1) := by decide +kernel
section
variable {g : GG} {p : Program} {l : Launch} {e : Env} {R : Room} {s : State} {m : MethodId} {args : Array Value} {below : List Frame} {meth : Method} {c : Code} {n0 z0 : Nat}
def f_X12_isSign_18  (h : AH) : Option (Int32 × AH) :=
  some (1, h)
set_option maxHeartbeats 1000000 in
theorem w_X12_isSign_18 (X : Cx g p s m args meth c cX12_isSign 1 "TrapCornerModel") (hR : 1 ≤ R.frames ∧ 64 ≤ R.locals) (hr : meth.sig.returnType = (some (.boolean))) {res : Int32 × AH} : ∀ (h : AH) (ls : Array Slot) (H : Heap) (locs : List Loc), f_X12_isSign_18  h = some res → Iv g s n0 z0 h H locs 0 0 → lv_has ls 1 [] → W p l e R s m args below meth c H locs 0 0 (MQ below (QG g (some (.int res.1)) res.2) args s 0 0 (AG g)) (F0 m 18 ls []) := by
  have hx := X.1
  have hb := X.2.1
  intro  h ls H locs hf I hl
  unfold f_X12_isSign_18 at hf
  refine lv_iconst (v := 1) hx hb dX12_isSign_18 (by decide) ?_
  refine lv_goto (tgt := 23) hx hb dX12_isSign_19 (by decide) ?_
  cases hf
  exact k_rz X I hr (Or.inr rfl) dX12_isSign_23
def f_X12_isSign_0  (x0 : Int32) (h : AH) : Option (Int32 × AH) :=
  if x0 = 61 then
    f_X12_isSign_18 h
  else
    if x0 = 60 then
      f_X12_isSign_18 h
    else
      if x0 = 62 then
        f_X12_isSign_18 h
      else
        some (0, h)
set_option maxHeartbeats 1000000 in
theorem w_X12_isSign_0 (X : Cx g p s m args meth c cX12_isSign 1 "TrapCornerModel") (hR : 1 ≤ R.frames ∧ 64 ≤ R.locals) (hr : meth.sig.returnType = (some (.boolean))) {res : Int32 × AH} : ∀ (x0 : Int32) (h : AH) (ls : Array Slot) (H : Heap) (locs : List Loc), f_X12_isSign_0 x0 h = some res → Iv g s n0 z0 h H locs 0 0 → lv_has ls 1 [(0, .int x0)] → W p l e R s m args below meth c H locs 0 0 (MQ below (QG g (some (.int res.1)) res.2) args s 0 0 (AG g)) (F0 m 0 ls []) := by
  have hx := X.1
  have hb := X.2.1
  intro x0 h ls H locs hf I hl
  unfold f_X12_isSign_0 at hf
  refine lv_iload_n hx hb dX12_isSign_0 rfl (lv_at hl 0 rfl) ?_
  refine lv_bipush (v := 61) hx hb dX12_isSign_1 (by decide) ?_
  refine lv_icmp_eq (tgt := 18) hx hb dX12_isSign_3 (by decide) (fun c1 => ?_) (fun c1 => ?_)
  · rw [if_pos c1] at hf
    exact w_X12_isSign_18 X hR hr  h ls H locs hf I (lv_sub hl [] rfl)
  · rw [if_neg c1] at hf
    refine lv_iload_n hx hb dX12_isSign_6 rfl (lv_at hl 0 rfl) ?_
    refine lv_bipush (v := 60) hx hb dX12_isSign_7 (by decide) ?_
    refine lv_icmp_eq (tgt := 18) hx hb dX12_isSign_9 (by decide) (fun c2 => ?_) (fun c2 => ?_)
    · rw [if_pos c2] at hf
      exact w_X12_isSign_18 X hR hr  h ls H locs hf I (lv_sub hl [] rfl)
    · rw [if_neg c2] at hf
      refine lv_iload_n hx hb dX12_isSign_12 rfl (lv_at hl 0 rfl) ?_
      refine lv_bipush (v := 62) hx hb dX12_isSign_13 (by decide) ?_
      refine lv_icmp_ne (tgt := 22) hx hb dX12_isSign_15 (by decide) (fun c3 => ?_) (fun c3 => ?_)
      · rw [if_neg c3] at hf
        refine lv_iconst (v := 0) hx hb dX12_isSign_22 (by decide) ?_
        cases hf
        exact k_rz X I hr (Or.inl rfl) dX12_isSign_23
      · rw [if_pos c3] at hf
        exact w_X12_isSign_18 X hR hr  h ls H locs hf I (lv_sub hl [] rfl)
def f_X12_isSign (x0 : Int32) (h : AH) : Option (Int32 × AH) := f_X12_isSign_0 x0 h
end
theorem c_X12_isSign (l : Launch) (g : GG) (x0 : Int32) {h : AH} {res : Int32 × AH} (hf : f_X12_isSign x0 h = some res) : CM l g yX12_isSign cX12_isSign 1 (some (.boolean)) 1 64 0 0 [.int x0] h (some (.int res.1)) res.2 :=
  k_body (by decide) (Nat.le_of_ble_eq_true rfl) (fun p e s m below meth c R ls hR hr X I hl => w_X12_isSign_0 X ⟨Nat.le_of_eq hR.1.symm, Nat.le_of_eq hR.2.1.symm⟩ hr x0 h ls s.heap [] hf I (lv_sub hl [0] rfl))
/-! TrapCornerModel.starts([BII)V -/
theorem dX12_starts_0 : decode cX12_starts 0 = .ok (.aload_n 0, 1) := by decide +kernel
theorem dX12_starts_1 : decode cX12_starts 1 = .ok (.aload_n 1, 1) := by decide +kernel
theorem dX12_starts_2 : decode cX12_starts 2 = .ok (.putfield 23, 3) := by decide +kernel
theorem dX12_starts_5 : decode cX12_starts 5 = .ok (.aload_n 0, 1) := by decide +kernel
theorem dX12_starts_6 : decode cX12_starts 6 = .ok (.iload_n 2, 1) := by decide +kernel
theorem dX12_starts_7 : decode cX12_starts 7 = .ok (.putfield 125, 3) := by decide +kernel
theorem dX12_starts_10 : decode cX12_starts 10 = .ok (.aload_n 0, 1) := by decide +kernel
theorem dX12_starts_11 : decode cX12_starts 11 = .ok (.iload_n 3, 1) := by decide +kernel
theorem dX12_starts_12 : decode cX12_starts 12 = .ok (.putfield 122, 3) := by decide +kernel
theorem dX12_starts_15 : decode cX12_starts 15 = .ok (.aload_n 0, 1) := by decide +kernel
theorem dX12_starts_16 : decode cX12_starts 16 = .ok (.iconst 0, 1) := by decide +kernel
theorem dX12_starts_17 : decode cX12_starts 17 = .ok (.putfield 119, 3) := by decide +kernel
theorem dX12_starts_20 : decode cX12_starts 20 = .ok (.aload_n 0, 1) := by decide +kernel
theorem dX12_starts_21 : decode cX12_starts 21 = .ok (.iconst (-1), 1) := by decide +kernel
theorem dX12_starts_22 : decode cX12_starts 22 = .ok (.putfield 128, 3) := by decide +kernel
theorem dX12_starts_25 : decode cX12_starts 25 = .ok (.return_, 1) := by decide +kernel
theorem lp_TrapCornerModel_23 : LKP "TrapCornerModel" 23 [12] 5 (.array .byte) := by
  intro ci hci
  have hci := List.mem_singleton.mp hci
  subst hci
  exact ⟨RX12, TX12, 50, "TrapCornerModel", ck_12, by decide, tw_1292, Or.inl rfl, rfl, by decide +kernel⟩
theorem lp_TrapCornerModel_125 : LKP "TrapCornerModel" 125 [12] 8 (.int) := by
  intro ci hci
  have hci := List.mem_singleton.mp hci
  subst hci
  exact ⟨RX12, TX12, 50, "TrapCornerModel", ck_12, by decide, tw_1295, Or.inl rfl, rfl, by decide +kernel⟩
theorem lp_TrapCornerModel_122 : LKP "TrapCornerModel" 122 [12] 9 (.int) := by
  intro ci hci
  have hci := List.mem_singleton.mp hci
  subst hci
  exact ⟨RX12, TX12, 50, "TrapCornerModel", ck_12, by decide, tw_1296, Or.inl rfl, rfl, by decide +kernel⟩
section
variable {g : GG} {p : Program} {l : Launch} {e : Env} {R : Room} {s : State} {m : MethodId} {args : Array Value} {below : List Frame} {meth : Method} {c : Code} {n0 z0 : Nat}
def f_X12_starts_0  (o0 : Nat) (o1 : Nat) (x2 : Int32) (x3 : Int32) (h : AH) : Option (Unit × AH) :=
  (pV [12] h o0 5 (.ref o1)).bind fun h1 =>
  (pV [12] h1 o0 8 (.int x2)).bind fun h3 =>
  (pV [12] h3 o0 9 (.int x3)).bind fun h5 =>
  (pV [12] h5 o0 10 (.int 0)).bind fun h7 =>
  (pV [12] h7 o0 11 (.int ((-1)))).bind fun h9 =>
  some ((), h9)
set_option maxHeartbeats 1000000 in
theorem w_X12_starts_0 (X : Cx g p s m args meth c cX12_starts 4 "TrapCornerModel") (hR : 1 ≤ R.frames ∧ 64 ≤ R.locals) (hr : meth.sig.returnType = none) {res : Unit × AH} : ∀ (o0 : Nat) (o1 : Nat) (x2 : Int32) (x3 : Int32) (h : AH) (ls : Array Slot) (H : Heap) (locs : List Loc), f_X12_starts_0 o0 o1 x2 x3 h = some res → Iv g s n0 z0 h H locs 0 0 → lv_has ls 4 [(0, .ref (rfG g o0)), (1, .ref (rfG g o1)), (2, .int x2), (3, .int x3)] → W p l e R s m args below meth c H locs 0 0 (MQ below (QG g none res.2) args s 0 0 (AG g)) (F0 m 0 ls []) := by
  have hx := X.1
  have hb := X.2.1
  intro o0 o1 x2 x3 h ls H locs hf I hl
  unfold f_X12_starts_0 at hf
  refine lv_aload_n hx hb dX12_starts_0 rfl (lv_at hl 0 rfl) ?_
  refine lv_aload_n hx hb dX12_starts_1 rfl (lv_at hl 1 rfl) ?_
  obtain ⟨h1, e2, hf⟩ := Option.bind_eq_some_iff.mp hf
  refine r_pR X I e2 lp_TrapCornerModel_23 rfl dX12_starts_2 (fun H locs I => ?_)
  refine lv_aload_n hx hb dX12_starts_5 rfl (lv_at hl 0 rfl) ?_
  refine lv_iload_n hx hb dX12_starts_6 rfl (lv_at hl 2 rfl) ?_
  obtain ⟨h3, e4, hf⟩ := Option.bind_eq_some_iff.mp hf
  refine r_pI X I e4 lp_TrapCornerModel_125 dX12_starts_7 (fun H locs I => ?_)
  refine lv_aload_n hx hb dX12_starts_10 rfl (lv_at hl 0 rfl) ?_
  refine lv_iload_n hx hb dX12_starts_11 rfl (lv_at hl 3 rfl) ?_
  obtain ⟨h5, e6, hf⟩ := Option.bind_eq_some_iff.mp hf
  refine r_pI X I e6 lp_TrapCornerModel_122 dX12_starts_12 (fun H locs I => ?_)
  refine lv_aload_n hx hb dX12_starts_15 rfl (lv_at hl 0 rfl) ?_
  refine lv_iconst (v := 0) hx hb dX12_starts_16 (by decide) ?_
  obtain ⟨h7, e8, hf⟩ := Option.bind_eq_some_iff.mp hf
  refine r_pI X I e8 lp_TrapCornerModel_119 dX12_starts_17 (fun H locs I => ?_)
  refine lv_aload_n hx hb dX12_starts_20 rfl (lv_at hl 0 rfl) ?_
  refine lv_iconst (v := (-1)) hx hb dX12_starts_21 (by decide) ?_
  obtain ⟨h9, e10, hf⟩ := Option.bind_eq_some_iff.mp hf
  refine r_pI X I e10 lp_TrapCornerModel_128 dX12_starts_22 (fun H locs I => ?_)
  cases hf
  exact k_rv X I hr dX12_starts_25
def f_X12_starts (o0 : Nat) (o1 : Nat) (x2 : Int32) (x3 : Int32) (h : AH) : Option (Unit × AH) := f_X12_starts_0 o0 o1 x2 x3 h
end
theorem c_X12_starts (l : Launch) (g : GG) (o0 : Nat) (o1 : Nat) (x2 : Int32) (x3 : Int32) {h : AH} {res : Unit × AH} (hf : f_X12_starts o0 o1 x2 x3 h = some res) : CM l g yX12_starts cX12_starts 4 none 1 64 0 0 [.ref (rfG g o0), .ref (rfG g o1), .int x2, .int x3] h none res.2 :=
  k_body (by decide) (Nat.le_of_ble_eq_true rfl) (fun p e s m below meth c R ls hR hr X I hl => w_X12_starts_0 X ⟨Nat.le_of_eq hR.1.symm, Nat.le_of_eq hR.2.1.symm⟩ hr o0 o1 x2 x3 h ls s.heap [] hf I (lv_sub hl [0, 1, 2, 3] rfl))
/-! TrapCornerModel.here()I -/
theorem dX12_here_0 : decode cX12_here 0 = .ok (.aload_n 0, 1) := by decide +kernel
theorem dX12_here_1 : decode cX12_here 1 = .ok (.getfield 119, 3) := by decide +kernel
theorem dX12_here_4 : decode cX12_here 4 = .ok (.aload_n 0, 1) := by decide +kernel
theorem dX12_here_5 : decode cX12_here 5 = .ok (.getfield 122, 3) := by decide +kernel
theorem dX12_here_8 : decode cX12_here 8 = .ok (.if_icmp .ge 24, 3) := by decide +kernel
theorem dX12_here_11 : decode cX12_here 11 = .ok (.aload_n 0, 1) := by decide +kernel
theorem dX12_here_12 : decode cX12_here 12 = .ok (.getfield 23, 3) := by decide +kernel
theorem dX12_here_15 : decode cX12_here 15 = .ok (.aload_n 0, 1) := by decide +kernel
theorem dX12_here_16 : decode cX12_here 16 = .ok (.getfield 125, 3) := by decide +kernel
theorem dX12_here_19 : decode cX12_here 19 = .ok (.aload_n 0, 1) := by decide +kernel
theorem dX12_here_20 : decode cX12_here 20 = .ok (.getfield 119, 3) := by decide +kernel
theorem dX12_here_23 : decode cX12_here 23 = .ok (.iadd, 1) := by decide +kernel
theorem dX12_here_24 : decode cX12_here 24 = .ok (.baload, 1) := by decide +kernel
theorem dX12_here_25 : decode cX12_here 25 = .ok (.sipush 255, 3) := by decide +kernel
theorem dX12_here_28 : decode cX12_here 28 = .ok (.iand, 1) := by decide +kernel
theorem dX12_here_29 : decode cX12_here 29 = .ok (.goto 4, 3) := by decide +kernel
theorem dX12_here_32 : decode cX12_here 32 = .ok (.iconst (-1), 1) := by decide +kernel
theorem dX12_here_33 : decode cX12_here 33 = .ok (.ireturn, 1) := by decide +kernel
section
variable {g : GG} {p : Program} {l : Launch} {e : Env} {R : Room} {s : State} {m : MethodId} {args : Array Value} {below : List Frame} {meth : Method} {c : Code} {n0 z0 : Nat}
def f_X12_here_0  (o0 : Nat) (h : AH) : Option (Int32 × AH) :=
  (gI [12] h o0 10).bind fun v1 =>
  (gI [12] h o0 9).bind fun v3 =>
  if v3 ≤ v1 then
    some ((-1), h)
  else
    (gR [12] h o0 5).bind fun v6 =>
    (gI [12] h o0 8).bind fun v8 =>
    (gI [12] h o0 10).bind fun v10 =>
    (aI 1 h v6 (v8 + v10)).bind fun v12 =>
    some (v12 &&& 255, h)
set_option maxHeartbeats 1000000 in
theorem w_X12_here_0 (X : Cx g p s m args meth c cX12_here 1 "TrapCornerModel") (hR : 1 ≤ R.frames ∧ 64 ≤ R.locals) (hr : meth.sig.returnType = (some (.int))) {res : Int32 × AH} : ∀ (o0 : Nat) (h : AH) (ls : Array Slot) (H : Heap) (locs : List Loc), f_X12_here_0 o0 h = some res → Iv g s n0 z0 h H locs 0 0 → lv_has ls 1 [(0, .ref (rfG g o0))] → W p l e R s m args below meth c H locs 0 0 (MQ below (QG g (some (.int res.1)) res.2) args s 0 0 (AG g)) (F0 m 0 ls []) := by
  have hx := X.1
  have hb := X.2.1
  intro o0 h ls H locs hf I hl
  unfold f_X12_here_0 at hf
  refine lv_aload_n hx hb dX12_here_0 rfl (lv_at hl 0 rfl) ?_
  obtain ⟨v1, e2, hf⟩ := Option.bind_eq_some_iff.mp hf
  refine r_gI X I e2 lk_TrapCornerModel_119 dX12_here_1 ?_
  refine lv_aload_n hx hb dX12_here_4 rfl (lv_at hl 0 rfl) ?_
  obtain ⟨v3, e4, hf⟩ := Option.bind_eq_some_iff.mp hf
  refine r_gI X I e4 lk_TrapCornerModel_122 dX12_here_5 ?_
  refine lv_icmp_ge (tgt := 32) hx hb dX12_here_8 (by decide) (fun c5 => ?_) (fun c5 => ?_)
  · rw [if_pos c5] at hf
    refine lv_iconst (v := (-1)) hx hb dX12_here_32 (by decide) ?_
    cases hf
    exact k_ri X I hr dX12_here_33
  · rw [if_neg c5] at hf
    refine lv_aload_n hx hb dX12_here_11 rfl (lv_at hl 0 rfl) ?_
    obtain ⟨v6, e7, hf⟩ := Option.bind_eq_some_iff.mp hf
    refine r_gR X I e7 lk_TrapCornerModel_23 dX12_here_12 ?_
    refine lv_aload_n hx hb dX12_here_15 rfl (lv_at hl 0 rfl) ?_
    obtain ⟨v8, e9, hf⟩ := Option.bind_eq_some_iff.mp hf
    refine r_gI X I e9 lk_TrapCornerModel_125 dX12_here_16 ?_
    refine lv_aload_n hx hb dX12_here_19 rfl (lv_at hl 0 rfl) ?_
    obtain ⟨v10, e11, hf⟩ := Option.bind_eq_some_iff.mp hf
    refine r_gI X I e11 lk_TrapCornerModel_119 dX12_here_20 ?_
    refine lv_iadd hx hb dX12_here_23 ?_
    obtain ⟨v12, e13, hf⟩ := Option.bind_eq_some_iff.mp hf
    refine r_aI1 X I e13 dX12_here_24 ?_
    refine lv_sipush (v := 255) hx hb dX12_here_25 (by decide) ?_
    refine lv_iand hx hb dX12_here_28 ?_
    refine lv_goto (tgt := 33) hx hb dX12_here_29 (by decide) ?_
    cases hf
    exact k_ri X I hr dX12_here_33
def f_X12_here (o0 : Nat) (h : AH) : Option (Int32 × AH) := f_X12_here_0 o0 h
end
theorem c_X12_here (l : Launch) (g : GG) (o0 : Nat) {h : AH} {res : Int32 × AH} (hf : f_X12_here o0 h = some res) : CM l g yX12_here cX12_here 1 (some (.int)) 1 64 0 0 [.ref (rfG g o0)] h (some (.int res.1)) res.2 :=
  k_body (by decide) (Nat.le_of_ble_eq_true rfl) (fun p e s m below meth c R ls hR hr X I hl => w_X12_here_0 X ⟨Nat.le_of_eq hR.1.symm, Nat.le_of_eq hR.2.1.symm⟩ hr o0 h ls s.heap [] hf I (lv_sub hl [0] rfl))
