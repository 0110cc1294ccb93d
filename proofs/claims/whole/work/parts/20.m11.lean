/-! TrapCorner.seen(IIIZ)I -/
theorem dX11_seen_0 : decode cX11_seen 0 = .ok (.aload_n 0, 1) := by decide +kernel
theorem dX11_seen_1 : decode cX11_seen 1 = .ok (.iload_n 1, 1) := by decide +kernel
theorem dX11_seen_2 : decode cX11_seen 2 = .ok (.invokevirtual 194, 3) := by decide +kernel
theorem dX11_seen_5 : decode cX11_seen 5 = .ok (.ifCond .eq 20, 3) := by decide +kernel
theorem dX11_seen_8 : decode cX11_seen 8 = .ok (.iload_n 2, 1) := by decide +kernel
theorem dX11_seen_9 : decode cX11_seen 9 = .ok (.invokestatic 370, 3) := by decide +kernel
theorem dX11_seen_12 : decode cX11_seen 12 = .ok (.ifCond .eq 13, 3) := by decide +kernel
theorem dX11_seen_15 : decode cX11_seen 15 = .ok (.iload_n 3, 1) := by decide +kernel
theorem dX11_seen_16 : decode cX11_seen 16 = .ok (.iconst 1, 1) := by decide +kernel
theorem dX11_seen_17 : decode cX11_seen 17 = .ok (.if_icmp .lt 8, 3) := by decide +kernel
theorem dX11_seen_20 : decode cX11_seen 20 = .ok (.iload_n 3, 1) := by decide +kernel
theorem dX11_seen_21 : decode cX11_seen 21 = .ok (.iconst 3, 1) := by decide +kernel
theorem dX11_seen_22 : decode cX11_seen 22 = .ok (.if_icmp .le 5, 3) := by decide +kernel
theorem dX11_seen_25 : decode cX11_seen 25 = .ok (.iconst (-1), 1) := by decide +kernel
theorem dX11_seen_26 : decode cX11_seen 26 = .ok (.ireturn, 1) := by decide +kernel
theorem dX11_seen_27 : decode cX11_seen 27 = .ok (.aload_n 0, 1) := by decide +kernel
theorem dX11_seen_28 : decode cX11_seen 28 = .ok (.getfield 82, 3) := by decide +kernel
theorem dX11_seen_31 : decode cX11_seen 31 = .ok (.iload_n 1, 1) := by decide +kernel
theorem dX11_seen_32 : decode cX11_seen 32 = .ok (.iload_n 2, 1) := by decide +kernel
theorem dX11_seen_33 : decode cX11_seen 33 = .ok (.iload_n 3, 1) := by decide +kernel
theorem dX11_seen_34 : decode cX11_seen 34 = .ok (.iload 4, 2) := by decide +kernel
theorem dX11_seen_36 : decode cX11_seen 36 = .ok (.invokevirtual 373, 3) := by decide +kernel
theorem dX11_seen_39 : decode cX11_seen 39 = .ok (.ireturn, 1) := by decide +kernel
theorem sk_TrapCorner_370 : SK "TrapCorner" 370 yX11_isLiveSpring 1 := ⟨tw_1059, tw_1060, tw_1, ⟨by decide, by decide⟩, by decide +kernel⟩
theorem vk_TrapCorner_373 : VK "TrapCorner" 373 [7] yX7_add 4 := ⟨tw_1062, tw_1063, tw_12, ⟨by decide, by decide⟩, by decide +kernel, fun ci hci => by
  have hci := List.mem_singleton.mp hci
  subst hci
  exact ⟨_, rfl, tw_1064⟩⟩
section
variable {g : GG} {p : Program} {l : Launch} {e : Env} {R : Room} {s : State} {m : MethodId} {args : Array Value} {below : List Frame} {meth : Method} {c : Code} {n0 z0 : Nat}
def f_X11_seen_0  (o0 : Nat) (x1 : Int32) (x2 : Int32) (x3 : Int32) (x4 : Int32) (h : AH) : Option (Int32 × AH) :=
  (isC [11] h o0).bind fun _ =>
  cN (f_X11_hasPerson o0 x1 h) h fun v1 h2 =>
  if v1 = 0 then
    some ((-1), h2)
  else
    cN (f_X11_isLiveSpring x2 h2) h2 fun v7 h8 =>
    if v7 = 0 then
      some ((-1), h8)
    else
      if x3 < 1 then
        some ((-1), h8)
      else
        if x3 ≤ 3 then
          (gR [11] h8 o0 10).bind fun v14 =>
          (isC [7] h8 v14).bind fun _ =>
          cN (f_X7_add v14 x1 x2 x3 x4 h8) h8 fun v16 h17 =>
          some (v16, h17)
        else
          some ((-1), h8)
set_option maxHeartbeats 1000000 in
theorem w_X11_seen_0 (X : Cx g p s m args meth c cX11_seen 5 "TrapCorner") (hR : 2 ≤ R.frames ∧ 128 ≤ R.locals) (hr : meth.sig.returnType = (some (.int))) {res : Int32 × AH} : ∀ (o0 : Nat) (x1 : Int32) (x2 : Int32) (x3 : Int32) (x4 : Int32) (h : AH) (ls : Array Slot) (H : Heap) (locs : List Loc), f_X11_seen_0 o0 x1 x2 x3 x4 h = some res → Iv g s n0 z0 h H locs 0 0 → lv_has ls 5 [(0, .ref (rfG g o0)), (1, .int x1), (2, .int x2), (3, .int x3), (4, .int x4)] → W p l e R s m args below meth c H locs 0 0 (MQ below (QG g (some (.int res.1)) res.2) args s 0 0 (AG g)) (F0 m 0 ls []) := by
  have hx := X.1
  have hb := X.2.1
  intro o0 x1 x2 x3 x4 h ls H locs hf I hl
  unfold f_X11_seen_0 at hf
  refine lv_aload_n hx hb dX11_seen_0 rfl (lv_at hl 0 rfl) ?_
  refine lv_iload_n hx hb dX11_seen_1 rfl (lv_at hl 1 rfl) ?_
  obtain ⟨_, g5, hf⟩ := Option.bind_eq_some_iff.mp hf
  obtain ⟨v1, h2, e3, z4, hf⟩ := cN_spec hf
  refine k_Vi (As := [.int x1]) (rest := []) X I (c_X11_hasPerson l g o0 x1 e3) z4 g5 vk_TrapCorner_194 tw_880 ⟨Nat.le_trans (by decide) hR.1, Nat.le_trans (by decide) hR.2⟩ ⟨Nat.zero_le _, Nat.zero_le _⟩ rfl hl.1 rfl (Nat.le_of_ble_eq_true rfl) dX11_seen_2 (fun H locs I => ?_)
  refine lv_if_eq (tgt := 25) hx hb dX11_seen_5 (by decide) (fun c6 => ?_) (fun c6 => ?_)
  · rw [if_pos c6] at hf
    refine lv_iconst (v := (-1)) hx hb dX11_seen_25 (by decide) ?_
    cases hf
    exact k_ri X I hr dX11_seen_26
  · rw [if_neg c6] at hf
    refine lv_iload_n hx hb dX11_seen_8 rfl (lv_at hl 2 rfl) ?_
    obtain ⟨v7, h8, e9, z10, hf⟩ := cN_spec hf
    refine k_Si (As := [.int x2]) (rest := []) X I (c_X11_isLiveSpring l g x2 e9) z10 sk_TrapCorner_370 tw_1061 ⟨Nat.le_trans (by decide) hR.1, Nat.le_trans (by decide) hR.2⟩ ⟨Nat.zero_le _, Nat.zero_le _⟩ rfl hl.1 rfl (Nat.le_of_ble_eq_true rfl) dX11_seen_9 (fun H locs I => ?_)
    refine lv_if_eq (tgt := 25) hx hb dX11_seen_12 (by decide) (fun c11 => ?_) (fun c11 => ?_)
    · rw [if_pos c11] at hf
      refine lv_iconst (v := (-1)) hx hb dX11_seen_25 (by decide) ?_
      cases hf
      exact k_ri X I hr dX11_seen_26
    · rw [if_neg c11] at hf
      refine lv_iload_n hx hb dX11_seen_15 rfl (lv_at hl 3 rfl) ?_
      refine lv_iconst (v := 1) hx hb dX11_seen_16 (by decide) ?_
      refine lv_icmp_lt (tgt := 25) hx hb dX11_seen_17 (by decide) (fun c12 => ?_) (fun c12 => ?_)
      · rw [if_pos c12] at hf
        refine lv_iconst (v := (-1)) hx hb dX11_seen_25 (by decide) ?_
        cases hf
        exact k_ri X I hr dX11_seen_26
      · rw [if_neg c12] at hf
        refine lv_iload_n hx hb dX11_seen_20 rfl (lv_at hl 3 rfl) ?_
        refine lv_iconst (v := 3) hx hb dX11_seen_21 (by decide) ?_
        refine lv_icmp_le (tgt := 27) hx hb dX11_seen_22 (by decide) (fun c13 => ?_) (fun c13 => ?_)
        · rw [if_pos c13] at hf
          refine lv_aload_n hx hb dX11_seen_27 rfl (lv_at hl 0 rfl) ?_
          obtain ⟨v14, e15, hf⟩ := Option.bind_eq_some_iff.mp hf
          refine r_gR X I e15 lk_TrapCorner_82 dX11_seen_28 ?_
          refine lv_iload_n hx hb dX11_seen_31 rfl (lv_at hl 1 rfl) ?_
          refine lv_iload_n hx hb dX11_seen_32 rfl (lv_at hl 2 rfl) ?_
          refine lv_iload_n hx hb dX11_seen_33 rfl (lv_at hl 3 rfl) ?_
          refine lv_iload hx hb dX11_seen_34 (lv_at hl 4 rfl) ?_
          obtain ⟨_, g20, hf⟩ := Option.bind_eq_some_iff.mp hf
          obtain ⟨v16, h17, e18, z19, hf⟩ := cN_spec hf
          refine k_Vi (As := [.int x1, .int x2, .int x3, .int x4]) (rest := []) X I (c_X7_add l g v14 x1 x2 x3 x4 e18) z19 g20 vk_TrapCorner_373 tw_1065 ⟨Nat.le_trans (by decide) hR.1, Nat.le_trans (by decide) hR.2⟩ ⟨Nat.zero_le _, Nat.zero_le _⟩ rfl hl.1 rfl (Nat.le_of_ble_eq_true rfl) dX11_seen_36 (fun H locs I => ?_)
          cases hf
          exact k_ri X I hr dX11_seen_39
        · rw [if_neg c13] at hf
          refine lv_iconst (v := (-1)) hx hb dX11_seen_25 (by decide) ?_
          cases hf
          exact k_ri X I hr dX11_seen_26
def f_X11_seen (o0 : Nat) (x1 : Int32) (x2 : Int32) (x3 : Int32) (x4 : Int32) (h : AH) : Option (Int32 × AH) := f_X11_seen_0 o0 x1 x2 x3 x4 h
end
theorem c_X11_seen (l : Launch) (g : GG) (o0 : Nat) (x1 : Int32) (x2 : Int32) (x3 : Int32) (x4 : Int32) {h : AH} {res : Int32 × AH} (hf : f_X11_seen o0 x1 x2 x3 x4 h = some res) : CM l g yX11_seen cX11_seen 5 (some (.int)) 2 128 0 0 [.ref (rfG g o0), .int x1, .int x2, .int x3, .int x4] h (some (.int res.1)) res.2 :=
  k_body (by decide) (Nat.le_of_ble_eq_true rfl) (fun p e s m below meth c R ls hR hr X I hl => w_X11_seen_0 X ⟨Nat.le_of_eq hR.1.symm, Nat.le_of_eq hR.2.1.symm⟩ hr o0 x1 x2 x3 x4 h ls s.heap [] hf I (lv_sub hl [0, 1, 2, 3, 4] rfl))
/-! TrapCorner.passes(I)I -/
theorem dX11_passes_0 : decode cX11_passes 0 = .ok (.aload_n 0, 1) := by decide +kernel
theorem dX11_passes_1 : decode cX11_passes 1 = .ok (.iload_n 1, 1) := by decide +kernel
theorem dX11_passes_2 : decode cX11_passes 2 = .ok (.invokevirtual 184, 3) := by decide +kernel
theorem dX11_passes_5 : decode cX11_passes 5 = .ok (.ifCond .ne 5, 3) := by decide +kernel
theorem dX11_passes_8 : decode cX11_passes 8 = .ok (.iconst (-1), 1) := by decide +kernel
theorem dX11_passes_9 : decode cX11_passes 9 = .ok (.ireturn, 1) := by decide +kernel
theorem dX11_passes_10 : decode cX11_passes 10 = .ok (.iconst 0, 1) := by decide +kernel
theorem dX11_passes_11 : decode cX11_passes 11 = .ok (.istore_n 2, 1) := by decide +kernel
theorem dX11_passes_12 : decode cX11_passes 12 = .ok (.iconst 0, 1) := by decide +kernel
theorem dX11_passes_13 : decode cX11_passes 13 = .ok (.istore_n 3, 1) := by decide +kernel
theorem dX11_passes_14 : decode cX11_passes 14 = .ok (.iload_n 3, 1) := by decide +kernel
theorem dX11_passes_15 : decode cX11_passes 15 = .ok (.aload_n 0, 1) := by decide +kernel
theorem dX11_passes_16 : decode cX11_passes 16 = .ok (.getfield 42, 3) := by decide +kernel
theorem dX11_passes_19 : decode cX11_passes 19 = .ok (.getfield 156, 3) := by decide +kernel
theorem dX11_passes_22 : decode cX11_passes 22 = .ok (.if_icmp .ge 24, 3) := by decide +kernel
theorem dX11_passes_25 : decode cX11_passes 25 = .ok (.aload_n 0, 1) := by decide +kernel
theorem dX11_passes_26 : decode cX11_passes 26 = .ok (.iload_n 3, 1) := by decide +kernel
theorem dX11_passes_27 : decode cX11_passes 27 = .ok (.iload_n 1, 1) := by decide +kernel
theorem dX11_passes_28 : decode cX11_passes 28 = .ok (.invokevirtual 396, 3) := by decide +kernel
theorem dX11_passes_31 : decode cX11_passes 31 = .ok (.ifCond .eq 9, 3) := by decide +kernel
theorem dX11_passes_34 : decode cX11_passes 34 = .ok (.iload_n 2, 1) := by decide +kernel
theorem dX11_passes_35 : decode cX11_passes 35 = .ok (.iconst 1, 1) := by decide +kernel
theorem dX11_passes_36 : decode cX11_passes 36 = .ok (.iload_n 3, 1) := by decide +kernel
theorem dX11_passes_37 : decode cX11_passes 37 = .ok (.ishl, 1) := by decide +kernel
theorem dX11_passes_38 : decode cX11_passes 38 = .ok (.ior, 1) := by decide +kernel
theorem dX11_passes_39 : decode cX11_passes 39 = .ok (.istore_n 2, 1) := by decide +kernel
theorem dX11_passes_40 : decode cX11_passes 40 = .ok (.iinc 3 1, 3) := by decide +kernel
theorem dX11_passes_43 : decode cX11_passes 43 = .ok (.goto (-29), 3) := by decide +kernel
theorem dX11_passes_46 : decode cX11_passes 46 = .ok (.iload_n 2, 1) := by decide +kernel
theorem dX11_passes_47 : decode cX11_passes 47 = .ok (.ireturn, 1) := by decide +kernel
section
variable {g : GG} {p : Program} {l : Launch} {e : Env} {R : Room} {s : State} {m : MethodId} {args : Array Value} {below : List Frame} {meth : Method} {c : Code} {n0 z0 : Nat}
def f_X11_passes_40 (k14 : Nat → Int32 → Int32 → Int32 → AH → Option (Int32 × AH)) (o0 : Nat) (x1 : Int32) (x2 : Int32) (x3 : Int32) (h : AH) : Option (Int32 × AH) :=
  k14 o0 x1 x2 (x3 + 1) h
set_option maxHeartbeats 1000000 in
theorem w_X11_passes_40 (X : Cx g p s m args meth c cX11_passes 4 "TrapCorner") (hR : 4 ≤ R.frames ∧ 256 ≤ R.locals) (hr : meth.sig.returnType = (some (.int))) {res : Int32 × AH} {k14 : Nat → Int32 → Int32 → Int32 → AH → Option (Int32 × AH)} (hk14 : ∀ (o0 : Nat) (x1 : Int32) (x2 : Int32) (x3 : Int32) (h : AH) (ls : Array Slot) (H : Heap) (locs : List Loc), k14 o0 x1 x2 x3 h = some res → Iv g s n0 z0 h H locs 0 0 → lv_has ls 4 [(0, .ref (rfG g o0)), (1, .int x1), (2, .int x2), (3, .int x3)] → W p l e R s m args below meth c H locs 0 0 (MQ below (QG g (some (.int res.1)) res.2) args s 0 0 (AG g)) (F0 m 14 ls [])) : ∀ (o0 : Nat) (x1 : Int32) (x2 : Int32) (x3 : Int32) (h : AH) (ls : Array Slot) (H : Heap) (locs : List Loc), f_X11_passes_40 k14 o0 x1 x2 x3 h = some res → Iv g s n0 z0 h H locs 0 0 → lv_has ls 4 [(0, .ref (rfG g o0)), (1, .int x1), (2, .int x2), (3, .int x3)] → W p l e R s m args below meth c H locs 0 0 (MQ below (QG g (some (.int res.1)) res.2) args s 0 0 (AG g)) (F0 m 40 ls []) := by
  have hx := X.1
  have hb := X.2.1
  intro o0 x1 x2 x3 h ls H locs hf I hl
  unfold f_X11_passes_40 at hf
  refine lv_iinc (v := x3 + 1) (lv' := [(3, .int (x3 + 1)), (0, .ref (rfG g o0)), (1, .int x1), (2, .int x2)]) hx hb dX11_passes_40 hl (k := 3) rfl rfl (by decide) rfl (fun ls hl => ?_)
  refine lv_goto (tgt := 14) hx hb dX11_passes_43 (by decide) ?_
  exact hk14 o0 x1 x2 (x3 + 1) h ls H locs hf I (lv_sub hl [1, 2, 3, 0] rfl)
def f_X11_passes_14  : Nat → Nat → Int32 → Int32 → Int32 → AH → Option (Int32 × AH)
  | 0, _, _, _, _, _ => none
  | n + 1, o0, x1, x2, x3, h =>
  (gR [11] h o0 4).bind fun v1 =>
  (gI [10] h v1 1).bind fun v3 =>
  if v3 ≤ x3 then
    some (x2, h)
  else
    (isC [11] h o0).bind fun _ =>
    cN (f_X11_walksBy o0 x3 x1 h) h fun v6 h7 =>
    if v6 = 0 then
      f_X11_passes_40 (f_X11_passes_14 n) o0 x1 x2 x3 h7
    else
      f_X11_passes_40 (f_X11_passes_14 n) o0 x1 (x2 ||| (1 <<< (x3 &&& 31))) x3 h7
set_option maxHeartbeats 1000000 in
theorem w_X11_passes_14 (X : Cx g p s m args meth c cX11_passes 4 "TrapCorner") (hR : 4 ≤ R.frames ∧ 256 ≤ R.locals) (hr : meth.sig.returnType = (some (.int))) {res : Int32 × AH} : ∀ (n : Nat) (o0 : Nat) (x1 : Int32) (x2 : Int32) (x3 : Int32) (h : AH) (ls : Array Slot) (H : Heap) (locs : List Loc), f_X11_passes_14 n o0 x1 x2 x3 h = some res → Iv g s n0 z0 h H locs 0 0 → lv_has ls 4 [(0, .ref (rfG g o0)), (1, .int x1), (2, .int x2), (3, .int x3)] → W p l e R s m args below meth c H locs 0 0 (MQ below (QG g (some (.int res.1)) res.2) args s 0 0 (AG g)) (F0 m 14 ls []) := by
  have hx := X.1
  have hb := X.2.1
  intro n
  induction n with
  | zero =>
    intro o0 x1 x2 x3 h ls H locs hf
    rw [f_X11_passes_14.eq_1] at hf
    cases hf
  | succ n ih =>
    intro o0 x1 x2 x3 h ls H locs hf I hl
    rw [f_X11_passes_14.eq_2] at hf
    refine lv_iload_n hx hb dX11_passes_14 rfl (lv_at hl 3 rfl) ?_
    refine lv_aload_n hx hb dX11_passes_15 rfl (lv_at hl 0 rfl) ?_
    obtain ⟨v1, e2, hf⟩ := Option.bind_eq_some_iff.mp hf
    refine r_gR X I e2 lk_TrapCorner_42 dX11_passes_16 ?_
    obtain ⟨v3, e4, hf⟩ := Option.bind_eq_some_iff.mp hf
    refine r_gI X I e4 lk_TrapCorner_156 dX11_passes_19 ?_
    refine lv_icmp_ge (tgt := 46) hx hb dX11_passes_22 (by decide) (fun c5 => ?_) (fun c5 => ?_)
    · rw [if_pos c5] at hf
      refine lv_iload_n hx hb dX11_passes_46 rfl (lv_at hl 2 rfl) ?_
      cases hf
      exact k_ri X I hr dX11_passes_47
    · rw [if_neg c5] at hf
      refine lv_aload_n hx hb dX11_passes_25 rfl (lv_at hl 0 rfl) ?_
      refine lv_iload_n hx hb dX11_passes_26 rfl (lv_at hl 3 rfl) ?_
      refine lv_iload_n hx hb dX11_passes_27 rfl (lv_at hl 1 rfl) ?_
      obtain ⟨_, g10, hf⟩ := Option.bind_eq_some_iff.mp hf
      obtain ⟨v6, h7, e8, z9, hf⟩ := cN_spec hf
      refine k_Vi (As := [.int x3, .int x1]) (rest := []) X I (c_X11_walksBy l g o0 x3 x1 e8) z9 g10 vk_TrapCorner_396 tw_1111 ⟨Nat.le_trans (by decide) hR.1, Nat.le_trans (by decide) hR.2⟩ ⟨Nat.zero_le _, Nat.zero_le _⟩ rfl hl.1 rfl (Nat.le_of_ble_eq_true rfl) dX11_passes_28 (fun H locs I => ?_)
      refine lv_if_eq (tgt := 40) hx hb dX11_passes_31 (by decide) (fun c11 => ?_) (fun c11 => ?_)
      · rw [if_pos c11] at hf
        exact w_X11_passes_40 X hR hr ih o0 x1 x2 x3 h7 ls H locs hf I (lv_sub hl [0, 1, 2, 3] rfl)
      · rw [if_neg c11] at hf
        refine lv_iload_n hx hb dX11_passes_34 rfl (lv_at hl 2 rfl) ?_
        refine lv_iconst (v := 1) hx hb dX11_passes_35 (by decide) ?_
        refine lv_iload_n hx hb dX11_passes_36 rfl (lv_at hl 3 rfl) ?_
        refine lv_ishl hx hb dX11_passes_37 ?_
        refine lv_ior hx hb dX11_passes_38 ?_
        refine lv_istore_n (lv' := [(2, .int (x2 ||| (1 <<< (x3 &&& 31)))), (0, .ref (rfG g o0)), (1, .int x1), (3, .int x3)]) hx hb dX11_passes_39 rfl hl (by decide) rfl (fun ls hl => ?_)
        exact w_X11_passes_40 X hR hr ih o0 x1 (x2 ||| (1 <<< (x3 &&& 31))) x3 h7 ls H locs hf I (lv_sub hl [1, 2, 0, 3] rfl)
def f_X11_passes_0  (o0 : Nat) (x1 : Int32) (h : AH) : Option (Int32 × AH) :=
  (isC [11] h o0).bind fun _ =>
  cN (f_X11_hasCorner o0 x1 h) h fun v1 h2 =>
  if v1 = 0 then
    some ((-1), h2)
  else
    f_X11_passes_14 fu o0 x1 0 0 h2
set_option maxHeartbeats 1000000 in
theorem w_X11_passes_0 (X : Cx g p s m args meth c cX11_passes 4 "TrapCorner") (hR : 4 ≤ R.frames ∧ 256 ≤ R.locals) (hr : meth.sig.returnType = (some (.int))) {res : Int32 × AH} : ∀ (o0 : Nat) (x1 : Int32) (h : AH) (ls : Array Slot) (H : Heap) (locs : List Loc), f_X11_passes_0 o0 x1 h = some res → Iv g s n0 z0 h H locs 0 0 → lv_has ls 4 [(0, .ref (rfG g o0)), (1, .int x1)] → W p l e R s m args below meth c H locs 0 0 (MQ below (QG g (some (.int res.1)) res.2) args s 0 0 (AG g)) (F0 m 0 ls []) := by
  have hx := X.1
  have hb := X.2.1
  intro o0 x1 h ls H locs hf I hl
  unfold f_X11_passes_0 at hf
  refine lv_aload_n hx hb dX11_passes_0 rfl (lv_at hl 0 rfl) ?_
  refine lv_iload_n hx hb dX11_passes_1 rfl (lv_at hl 1 rfl) ?_
  obtain ⟨_, g5, hf⟩ := Option.bind_eq_some_iff.mp hf
  obtain ⟨v1, h2, e3, z4, hf⟩ := cN_spec hf
  refine k_Vi (As := [.int x1]) (rest := []) X I (c_X11_hasCorner l g o0 x1 e3) z4 g5 vk_TrapCorner_184 tw_801 ⟨Nat.le_trans (by decide) hR.1, Nat.le_trans (by decide) hR.2⟩ ⟨Nat.zero_le _, Nat.zero_le _⟩ rfl hl.1 rfl (Nat.le_of_ble_eq_true rfl) dX11_passes_2 (fun H locs I => ?_)
  refine lv_if_ne (tgt := 10) hx hb dX11_passes_5 (by decide) (fun c6 => ?_) (fun c6 => ?_)
  · rw [if_neg c6] at hf
    refine lv_iconst (v := 0) hx hb dX11_passes_10 (by decide) ?_
    refine lv_istore_n (lv' := [(2, .int 0), (0, .ref (rfG g o0)), (1, .int x1)]) hx hb dX11_passes_11 rfl hl (by decide) rfl (fun ls hl => ?_)
    refine lv_iconst (v := 0) hx hb dX11_passes_12 (by decide) ?_
    refine lv_istore_n (lv' := [(3, .int 0), (2, .int 0), (0, .ref (rfG g o0)), (1, .int x1)]) hx hb dX11_passes_13 rfl hl (by decide) rfl (fun ls hl => ?_)
    exact w_X11_passes_14 X hR hr fu o0 x1 0 0 h2 ls H locs hf I (lv_sub hl [2, 3, 1, 0] rfl)
  · rw [if_pos c6] at hf
    refine lv_iconst (v := (-1)) hx hb dX11_passes_8 (by decide) ?_
    cases hf
    exact k_ri X I hr dX11_passes_9
def f_X11_passes (o0 : Nat) (x1 : Int32) (h : AH) : Option (Int32 × AH) := f_X11_passes_0 o0 x1 h
end
theorem c_X11_passes (l : Launch) (g : GG) (o0 : Nat) (x1 : Int32) {h : AH} {res : Int32 × AH} (hf : f_X11_passes o0 x1 h = some res) : CM l g yX11_passes cX11_passes 4 (some (.int)) 4 256 0 0 [.ref (rfG g o0), .int x1] h (some (.int res.1)) res.2 :=
  k_body (by decide) (Nat.le_of_ble_eq_true rfl) (fun p e s m below meth c R ls hR hr X I hl => w_X11_passes_0 X ⟨Nat.le_of_eq hR.1.symm, Nat.le_of_eq hR.2.1.symm⟩ hr o0 x1 h ls s.heap [] hf I (lv_sub hl [0, 1] rfl))
/-! TrapCorner.honest()I -/
theorem dX11_honest_0 : decode cX11_honest 0 = .ok (.iconst 0, 1) := by decide +kernel
theorem dX11_honest_1 : decode cX11_honest 1 = .ok (.istore_n 1, 1) := by decide +kernel
theorem dX11_honest_2 : decode cX11_honest 2 = .ok (.iconst 0, 1) := by decide +kernel
theorem dX11_honest_3 : decode cX11_honest 3 = .ok (.istore_n 2, 1) := by decide +kernel
theorem dX11_honest_4 : decode cX11_honest 4 = .ok (.iload_n 2, 1) := by decide +kernel
theorem dX11_honest_5 : decode cX11_honest 5 = .ok (.aload_n 0, 1) := by decide +kernel
theorem dX11_honest_6 : decode cX11_honest 6 = .ok (.getfield 42, 3) := by decide +kernel
theorem dX11_honest_9 : decode cX11_honest 9 = .ok (.getfield 156, 3) := by decide +kernel
theorem dX11_honest_12 : decode cX11_honest 12 = .ok (.if_icmp .ge 49, 3) := by decide +kernel
theorem dX11_honest_15 : decode cX11_honest 15 = .ok (.aload_n 0, 1) := by decide +kernel
theorem dX11_honest_16 : decode cX11_honest 16 = .ok (.getfield 42, 3) := by decide +kernel
theorem dX11_honest_19 : decode cX11_honest 19 = .ok (.iload_n 2, 1) := by decide +kernel
theorem dX11_honest_20 : decode cX11_honest 20 = .ok (.aload_n 0, 1) := by decide +kernel
theorem dX11_honest_21 : decode cX11_honest 21 = .ok (.getfield 49, 3) := by decide +kernel
theorem dX11_honest_24 : decode cX11_honest 24 = .ok (.getfield 219, 3) := by decide +kernel
theorem dX11_honest_27 : decode cX11_honest 27 = .ok (.iload_n 2, 1) := by decide +kernel
theorem dX11_honest_28 : decode cX11_honest 28 = .ok (.iaload, 1) := by decide +kernel
theorem dX11_honest_29 : decode cX11_honest 29 = .ok (.invokevirtual 399, 3) := by decide +kernel
theorem dX11_honest_32 : decode cX11_honest 32 = .ok (.aload_n 0, 1) := by decide +kernel
theorem dX11_honest_33 : decode cX11_honest 33 = .ok (.aload_n 0, 1) := by decide +kernel
theorem dX11_honest_34 : decode cX11_honest 34 = .ok (.getfield 42, 3) := by decide +kernel
theorem dX11_honest_37 : decode cX11_honest 37 = .ok (.getfield 204, 3) := by decide +kernel
theorem dX11_honest_40 : decode cX11_honest 40 = .ok (.iload_n 2, 1) := by decide +kernel
theorem dX11_honest_41 : decode cX11_honest 41 = .ok (.iaload, 1) := by decide +kernel
theorem dX11_honest_42 : decode cX11_honest 42 = .ok (.invokevirtual 445, 3) := by decide +kernel
theorem dX11_honest_45 : decode cX11_honest 45 = .ok (.iand, 1) := by decide +kernel
theorem dX11_honest_46 : decode cX11_honest 46 = .ok (.ifCond .ne 9, 3) := by decide +kernel
theorem dX11_honest_49 : decode cX11_honest 49 = .ok (.iload_n 1, 1) := by decide +kernel
theorem dX11_honest_50 : decode cX11_honest 50 = .ok (.iconst 1, 1) := by decide +kernel
theorem dX11_honest_51 : decode cX11_honest 51 = .ok (.iload_n 2, 1) := by decide +kernel
theorem dX11_honest_52 : decode cX11_honest 52 = .ok (.ishl, 1) := by decide +kernel
theorem dX11_honest_53 : decode cX11_honest 53 = .ok (.ior, 1) := by decide +kernel
theorem dX11_honest_54 : decode cX11_honest 54 = .ok (.istore_n 1, 1) := by decide +kernel
theorem dX11_honest_55 : decode cX11_honest 55 = .ok (.iinc 2 1, 3) := by decide +kernel
theorem dX11_honest_58 : decode cX11_honest 58 = .ok (.goto (-54), 3) := by decide +kernel
theorem dX11_honest_61 : decode cX11_honest 61 = .ok (.iload_n 1, 1) := by decide +kernel
theorem dX11_honest_62 : decode cX11_honest 62 = .ok (.ireturn, 1) := by decide +kernel
section
variable {g : GG} {p : Program} {l : Launch} {e : Env} {R : Room} {s : State} {m : MethodId} {args : Array Value} {below : List Frame} {meth : Method} {c : Code} {n0 z0 : Nat}
def f_X11_honest_55 (k4 : Nat → Int32 → Int32 → AH → Option (Int32 × AH)) (o0 : Nat) (x1 : Int32) (x2 : Int32) (h : AH) : Option (Int32 × AH) :=
  k4 o0 x1 (x2 + 1) h
set_option maxHeartbeats 1000000 in
theorem w_X11_honest_55 (X : Cx g p s m args meth c cX11_honest 3 "TrapCorner") (hR : 3 ≤ R.frames ∧ 192 ≤ R.locals) (hr : meth.sig.returnType = (some (.int))) {res : Int32 × AH} {k4 : Nat → Int32 → Int32 → AH → Option (Int32 × AH)} (hk4 : ∀ (o0 : Nat) (x1 : Int32) (x2 : Int32) (h : AH) (ls : Array Slot) (H : Heap) (locs : List Loc), k4 o0 x1 x2 h = some res → Iv g s n0 z0 h H locs 0 0 → lv_has ls 3 [(0, .ref (rfG g o0)), (1, .int x1), (2, .int x2)] → W p l e R s m args below meth c H locs 0 0 (MQ below (QG g (some (.int res.1)) res.2) args s 0 0 (AG g)) (F0 m 4 ls [])) : ∀ (o0 : Nat) (x1 : Int32) (x2 : Int32) (h : AH) (ls : Array Slot) (H : Heap) (locs : List Loc), f_X11_honest_55 k4 o0 x1 x2 h = some res → Iv g s n0 z0 h H locs 0 0 → lv_has ls 3 [(0, .ref (rfG g o0)), (1, .int x1), (2, .int x2)] → W p l e R s m args below meth c H locs 0 0 (MQ below (QG g (some (.int res.1)) res.2) args s 0 0 (AG g)) (F0 m 55 ls []) := by
  have hx := X.1
  have hb := X.2.1
  intro o0 x1 x2 h ls H locs hf I hl
  unfold f_X11_honest_55 at hf
  refine lv_iinc (v := x2 + 1) (lv' := [(2, .int (x2 + 1)), (0, .ref (rfG g o0)), (1, .int x1)]) hx hb dX11_honest_55 hl (k := 2) rfl rfl (by decide) rfl (fun ls hl => ?_)
  refine lv_goto (tgt := 4) hx hb dX11_honest_58 (by decide) ?_
  exact hk4 o0 x1 (x2 + 1) h ls H locs hf I (lv_sub hl [1, 2, 0] rfl)
def f_X11_honest_4  : Nat → Nat → Int32 → Int32 → AH → Option (Int32 × AH)
  | 0, _, _, _, _ => none
  | n + 1, o0, x1, x2, h =>
  (gR [11] h o0 4).bind fun v1 =>
  (gI [10] h v1 1).bind fun v3 =>
  if v3 ≤ x2 then
    some (x1, h)
  else
    (gR [11] h o0 4).bind fun v6 =>
    (gR [11] h o0 5).bind fun v8 =>
    (gR [8] h v8 4).bind fun v10 =>
    (aI 0 h v10 x2).bind fun v12 =>
    (isC [10] h v6).bind fun _ =>
    cN (f_X10_walkBits v6 x2 v12 h) h fun v14 h15 =>
    (gR [11] h15 o0 4).bind fun v19 =>
    (gR [10] h15 v19 7).bind fun v21 =>
    (aI 0 h15 v21 x2).bind fun v23 =>
    (isC [11] h15 o0).bind fun _ =>
    cN (f_X11_cornersWith o0 v23 h15) h15 fun v25 h26 =>
    if (v14 &&& v25) = 0 then
      f_X11_honest_55 (f_X11_honest_4 n) o0 (x1 ||| (1 <<< (x2 &&& 31))) x2 h26
    else
      f_X11_honest_55 (f_X11_honest_4 n) o0 x1 x2 h26
set_option maxHeartbeats 1000000 in
theorem w_X11_honest_4 (X : Cx g p s m args meth c cX11_honest 3 "TrapCorner") (hR : 3 ≤ R.frames ∧ 192 ≤ R.locals) (hr : meth.sig.returnType = (some (.int))) {res : Int32 × AH} : ∀ (n : Nat) (o0 : Nat) (x1 : Int32) (x2 : Int32) (h : AH) (ls : Array Slot) (H : Heap) (locs : List Loc), f_X11_honest_4 n o0 x1 x2 h = some res → Iv g s n0 z0 h H locs 0 0 → lv_has ls 3 [(0, .ref (rfG g o0)), (1, .int x1), (2, .int x2)] → W p l e R s m args below meth c H locs 0 0 (MQ below (QG g (some (.int res.1)) res.2) args s 0 0 (AG g)) (F0 m 4 ls []) := by
  have hx := X.1
  have hb := X.2.1
  intro n
  induction n with
  | zero =>
    intro o0 x1 x2 h ls H locs hf
    rw [f_X11_honest_4.eq_1] at hf
    cases hf
  | succ n ih =>
    intro o0 x1 x2 h ls H locs hf I hl
    rw [f_X11_honest_4.eq_2] at hf
    refine lv_iload_n hx hb dX11_honest_4 rfl (lv_at hl 2 rfl) ?_
    refine lv_aload_n hx hb dX11_honest_5 rfl (lv_at hl 0 rfl) ?_
    obtain ⟨v1, e2, hf⟩ := Option.bind_eq_some_iff.mp hf
    refine r_gR X I e2 lk_TrapCorner_42 dX11_honest_6 ?_
    obtain ⟨v3, e4, hf⟩ := Option.bind_eq_some_iff.mp hf
    refine r_gI X I e4 lk_TrapCorner_156 dX11_honest_9 ?_
    refine lv_icmp_ge (tgt := 61) hx hb dX11_honest_12 (by decide) (fun c5 => ?_) (fun c5 => ?_)
    · rw [if_pos c5] at hf
      refine lv_iload_n hx hb dX11_honest_61 rfl (lv_at hl 1 rfl) ?_
      cases hf
      exact k_ri X I hr dX11_honest_62
    · rw [if_neg c5] at hf
      refine lv_aload_n hx hb dX11_honest_15 rfl (lv_at hl 0 rfl) ?_
      obtain ⟨v6, e7, hf⟩ := Option.bind_eq_some_iff.mp hf
      refine r_gR X I e7 lk_TrapCorner_42 dX11_honest_16 ?_
      refine lv_iload_n hx hb dX11_honest_19 rfl (lv_at hl 2 rfl) ?_
      refine lv_aload_n hx hb dX11_honest_20 rfl (lv_at hl 0 rfl) ?_
      obtain ⟨v8, e9, hf⟩ := Option.bind_eq_some_iff.mp hf
      refine r_gR X I e9 lk_TrapCorner_49 dX11_honest_21 ?_
      obtain ⟨v10, e11, hf⟩ := Option.bind_eq_some_iff.mp hf
      refine r_gR X I e11 lk_TrapCorner_219 dX11_honest_24 ?_
      refine lv_iload_n hx hb dX11_honest_27 rfl (lv_at hl 2 rfl) ?_
      obtain ⟨v12, e13, hf⟩ := Option.bind_eq_some_iff.mp hf
      refine r_aI0 X I e13 dX11_honest_28 ?_
      obtain ⟨_, g18, hf⟩ := Option.bind_eq_some_iff.mp hf
      obtain ⟨v14, h15, e16, z17, hf⟩ := cN_spec hf
      refine k_Vi (As := [.int x2, .int v12]) (rest := []) X I (c_X10_walkBits l g v6 x2 v12 e16) z17 g18 vk_TrapCorner_399 tw_1115 ⟨Nat.le_trans (by decide) hR.1, Nat.le_trans (by decide) hR.2⟩ ⟨Nat.zero_le _, Nat.zero_le _⟩ rfl hl.1 rfl (Nat.le_of_ble_eq_true rfl) dX11_honest_29 (fun H locs I => ?_)
      refine lv_aload_n hx hb dX11_honest_32 rfl (lv_at hl 0 rfl) ?_
      refine lv_aload_n hx hb dX11_honest_33 rfl (lv_at hl 0 rfl) ?_
      obtain ⟨v19, e20, hf⟩ := Option.bind_eq_some_iff.mp hf
      refine r_gR X I e20 lk_TrapCorner_42 dX11_honest_34 ?_
      obtain ⟨v21, e22, hf⟩ := Option.bind_eq_some_iff.mp hf
      refine r_gR X I e22 lk_TrapCorner_204 dX11_honest_37 ?_
      refine lv_iload_n hx hb dX11_honest_40 rfl (lv_at hl 2 rfl) ?_
      obtain ⟨v23, e24, hf⟩ := Option.bind_eq_some_iff.mp hf
      refine r_aI0 X I e24 dX11_honest_41 ?_
      obtain ⟨_, g29, hf⟩ := Option.bind_eq_some_iff.mp hf
      obtain ⟨v25, h26, e27, z28, hf⟩ := cN_spec hf
      refine k_Vi (As := [.int v23]) (rest := [.int v14]) X I (c_X11_cornersWith l g o0 v23 e27) z28 g29 vk_TrapCorner_445 tw_1181 ⟨Nat.le_trans (by decide) hR.1, Nat.le_trans (by decide) hR.2⟩ ⟨Nat.zero_le _, Nat.zero_le _⟩ rfl hl.1 rfl (Nat.le_of_ble_eq_true rfl) dX11_honest_42 (fun H locs I => ?_)
      refine lv_iand hx hb dX11_honest_45 ?_
      refine lv_if_ne (tgt := 55) hx hb dX11_honest_46 (by decide) (fun c30 => ?_) (fun c30 => ?_)
      · rw [if_neg c30] at hf
        exact w_X11_honest_55 X hR hr ih o0 x1 x2 h26 ls H locs hf I (lv_sub hl [0, 1, 2] rfl)
      · rw [if_pos c30] at hf
        refine lv_iload_n hx hb dX11_honest_49 rfl (lv_at hl 1 rfl) ?_
        refine lv_iconst (v := 1) hx hb dX11_honest_50 (by decide) ?_
        refine lv_iload_n hx hb dX11_honest_51 rfl (lv_at hl 2 rfl) ?_
        refine lv_ishl hx hb dX11_honest_52 ?_
        refine lv_ior hx hb dX11_honest_53 ?_
        refine lv_istore_n (lv' := [(1, .int (x1 ||| (1 <<< (x2 &&& 31)))), (0, .ref (rfG g o0)), (2, .int x2)]) hx hb dX11_honest_54 rfl hl (by decide) rfl (fun ls hl => ?_)
        exact w_X11_honest_55 X hR hr ih o0 (x1 ||| (1 <<< (x2 &&& 31))) x2 h26 ls H locs hf I (lv_sub hl [1, 0, 2] rfl)
def f_X11_honest_0  (o0 : Nat) (h : AH) : Option (Int32 × AH) :=
  f_X11_honest_4 fu o0 0 0 h
set_option maxHeartbeats 1000000 in
theorem w_X11_honest_0 (X : Cx g p s m args meth c cX11_honest 3 "TrapCorner") (hR : 3 ≤ R.frames ∧ 192 ≤ R.locals) (hr : meth.sig.returnType = (some (.int))) {res : Int32 × AH} : ∀ (o0 : Nat) (h : AH) (ls : Array Slot) (H : Heap) (locs : List Loc), f_X11_honest_0 o0 h = some res → Iv g s n0 z0 h H locs 0 0 → lv_has ls 3 [(0, .ref (rfG g o0))] → W p l e R s m args below meth c H locs 0 0 (MQ below (QG g (some (.int res.1)) res.2) args s 0 0 (AG g)) (F0 m 0 ls []) := by
  have hx := X.1
  have hb := X.2.1
  intro o0 h ls H locs hf I hl
  unfold f_X11_honest_0 at hf
  refine lv_iconst (v := 0) hx hb dX11_honest_0 (by decide) ?_
  refine lv_istore_n (lv' := [(1, .int 0), (0, .ref (rfG g o0))]) hx hb dX11_honest_1 rfl hl (by decide) rfl (fun ls hl => ?_)
  refine lv_iconst (v := 0) hx hb dX11_honest_2 (by decide) ?_
  refine lv_istore_n (lv' := [(2, .int 0), (1, .int 0), (0, .ref (rfG g o0))]) hx hb dX11_honest_3 rfl hl (by decide) rfl (fun ls hl => ?_)
  exact w_X11_honest_4 X hR hr fu o0 0 0 h ls H locs hf I (lv_sub hl [2, 1, 0] rfl)
def f_X11_honest (o0 : Nat) (h : AH) : Option (Int32 × AH) := f_X11_honest_0 o0 h
end
theorem c_X11_honest (l : Launch) (g : GG) (o0 : Nat) {h : AH} {res : Int32 × AH} (hf : f_X11_honest o0 h = some res) : CM l g yX11_honest cX11_honest 3 (some (.int)) 3 192 0 0 [.ref (rfG g o0)] h (some (.int res.1)) res.2 :=
  k_body (by decide) (Nat.le_of_ble_eq_true rfl) (fun p e s m below meth c R ls hR hr X I hl => w_X11_honest_0 X ⟨Nat.le_of_eq hR.1.symm, Nat.le_of_eq hR.2.1.symm⟩ hr o0 h ls s.heap [] hf I (lv_sub hl [0] rfl))
/-! TrapCornerModel.within(J)I -/
theorem dX12_within_0 : decode cX12_within 0 = .ok (.ldc2_w 141, 3) := by decide +kernel
theorem dX12_within_3 : decode cX12_within 3 = .ok (.ldc2_w 143, 3) := by decide +kernel
theorem dX12_within_6 : decode cX12_within 6 = .ok (.lload_n 0, 1) := by decide +kernel
theorem dX12_within_7 : decode cX12_within 7 = .ok (.invokestatic 145, 3) := by decide +kernel
theorem dX12_within_10 : decode cX12_within 10 = .ok (.invokestatic 151, 3) := by decide +kernel
theorem dX12_within_13 : decode cX12_within 13 = .ok (.l2i, 1) := by decide +kernel
theorem dX12_within_14 : decode cX12_within 14 = .ok (.ireturn, 1) := by decide +kernel
theorem sk_TrapCornerModel_145 : SK "TrapCornerModel" 145 yJ9_min_f86c9 2 := ⟨tw_1593, tw_1594, tw_17, ⟨by decide, by decide⟩, by decide +kernel⟩
theorem sk_TrapCornerModel_151 : SK "TrapCornerModel" 151 yJ9_max_f86c9 2 := ⟨tw_1596, tw_1597, tw_17, ⟨by decide, by decide⟩, by decide +kernel⟩
section
variable {g : GG} {p : Program} {l : Launch} {e : Env} {R : Room} {s : State} {m : MethodId} {args : Array Value} {below : List Frame} {meth : Method} {c : Code} {n0 z0 : Nat}
def f_X12_within_0  (y0 : Int64) (h : AH) : Option (Int32 × AH) :=
  cN (f_J9_min_f86c9 1000000 y0 h) h fun v1 h2 =>
  cN (f_J9_max_f86c9 ((-1000000)) v1 h2) h2 fun v5 h6 =>
  some (v5.toInt32, h6)
set_option maxHeartbeats 1000000 in
theorem w_X12_within_0 (X : Cx g p s m args meth c cX12_within 2 "TrapCornerModel") (hR : 2 ≤ R.frames ∧ 128 ≤ R.locals) (hr : meth.sig.returnType = (some (.int))) {res : Int32 × AH} : ∀ (y0 : Int64) (h : AH) (ls : Array Slot) (H : Heap) (locs : List Loc), f_X12_within_0 y0 h = some res → Iv g s n0 z0 h H locs 0 0 → lv_has ls 2 [(0, .long y0)] → W p l e R s m args below meth c H locs 0 0 (MQ below (QG g (some (.int res.1)) res.2) args s 0 0 (AG g)) (F0 m 0 ls []) := by
  have hx := X.1
  have hb := X.2.1
  intro y0 h ls H locs hf I hl
  unfold f_X12_within_0 at hf
  refine lv_ldc2 (v := (-1000000)) hx hb X.2.2.2.1 (X.2.2.2.2.1 _ tw_1591) dX12_within_0 ?_
  refine lv_ldc2 (v := 1000000) hx hb X.2.2.2.1 (X.2.2.2.2.1 _ tw_1592) dX12_within_3 ?_
  refine lv_lload_n hx hb dX12_within_6 rfl (lv_at hl 0 rfl) ?_
  obtain ⟨v1, h2, e3, z4, hf⟩ := cN_spec hf
  refine k_Sl (As := [.long 1000000, .long y0]) (rest := [.long ((-1000000))]) X I (c_J9_min_f86c9 l g 1000000 y0 e3) z4 sk_TrapCornerModel_145 tw_1595 ⟨Nat.le_trans (by decide) hR.1, Nat.le_trans (by decide) hR.2⟩ ⟨Nat.zero_le _, Nat.zero_le _⟩ rfl hl.1 rfl (Nat.le_of_ble_eq_true rfl) dX12_within_7 (fun H locs I => ?_)
  obtain ⟨v5, h6, e7, z8, hf⟩ := cN_spec hf
  refine k_Sl (As := [.long ((-1000000)), .long v1]) (rest := []) X I (c_J9_max_f86c9 l g ((-1000000)) v1 e7) z8 sk_TrapCornerModel_151 tw_1598 ⟨Nat.le_trans (by decide) hR.1, Nat.le_trans (by decide) hR.2⟩ ⟨Nat.zero_le _, Nat.zero_le _⟩ rfl hl.1 rfl (Nat.le_of_ble_eq_true rfl) dX12_within_10 (fun H locs I => ?_)
  refine lv_l2i hx hb dX12_within_13 rfl ?_
  cases hf
  exact k_ri X I hr dX12_within_14
def f_X12_within (y0 : Int64) (h : AH) : Option (Int32 × AH) := f_X12_within_0 y0 h
end
theorem c_X12_within (l : Launch) (g : GG) (y0 : Int64) {h : AH} {res : Int32 × AH} (hf : f_X12_within y0 h = some res) : CM l g yX12_within cX12_within 2 (some (.int)) 2 128 0 0 [.long y0] h (some (.int res.1)) res.2 :=
  k_body (by decide) (Nat.le_of_ble_eq_true rfl) (fun p e s m below meth c R ls hR hr X I hl => w_X12_within_0 X ⟨Nat.le_of_eq hR.1.symm, Nat.le_of_eq hR.2.1.symm⟩ hr y0 h ls s.heap [] hf I (lv_sub hl [0] rfl))
/-! TrapCornerModel.valueOf(II)I -/
theorem dX12_valueOf_0 : decode cX12_valueOf 0 = .ok (.iload_n 1, 1) := by decide +kernel
theorem dX12_valueOf_1 : decode cX12_valueOf 1 = .ok (.tableswitch 68 0 3 #[31, 40, 51, 61], 31) := by decide +kernel
theorem dX12_valueOf_32 : decode cX12_valueOf 32 = .ok (.aload_n 0, 1) := by decide +kernel
theorem dX12_valueOf_33 : decode cX12_valueOf 33 = .ok (.iload_n 2, 1) := by decide +kernel
theorem dX12_valueOf_34 : decode cX12_valueOf 34 = .ok (.invokevirtual 461, 3) := by decide +kernel
theorem dX12_valueOf_37 : decode cX12_valueOf 37 = .ok (.invokestatic 393, 3) := by decide +kernel
theorem dX12_valueOf_40 : decode cX12_valueOf 40 = .ok (.ireturn, 1) := by decide +kernel
theorem dX12_valueOf_41 : decode cX12_valueOf 41 = .ok (.aload_n 0, 1) := by decide +kernel
theorem dX12_valueOf_42 : decode cX12_valueOf 42 = .ok (.getfield 61, 3) := by decide +kernel
theorem dX12_valueOf_45 : decode cX12_valueOf 45 = .ok (.iconst 2, 1) := by decide +kernel
theorem dX12_valueOf_46 : decode cX12_valueOf 46 = .ok (.iload_n 2, 1) := by decide +kernel
theorem dX12_valueOf_47 : decode cX12_valueOf 47 = .ok (.imul, 1) := by decide +kernel
theorem dX12_valueOf_48 : decode cX12_valueOf 48 = .ok (.iconst 1, 1) := by decide +kernel
theorem dX12_valueOf_49 : decode cX12_valueOf 49 = .ok (.iadd, 1) := by decide +kernel
theorem dX12_valueOf_50 : decode cX12_valueOf 50 = .ok (.iaload, 1) := by decide +kernel
theorem dX12_valueOf_51 : decode cX12_valueOf 51 = .ok (.ireturn, 1) := by decide +kernel
theorem dX12_valueOf_52 : decode cX12_valueOf 52 = .ok (.aload_n 0, 1) := by decide +kernel
theorem dX12_valueOf_53 : decode cX12_valueOf 53 = .ok (.getfield 61, 3) := by decide +kernel
theorem dX12_valueOf_56 : decode cX12_valueOf 56 = .ok (.iload_n 2, 1) := by decide +kernel
theorem dX12_valueOf_57 : decode cX12_valueOf 57 = .ok (.iconst 0, 1) := by decide +kernel
theorem dX12_valueOf_58 : decode cX12_valueOf 58 = .ok (.invokestatic 328, 3) := by decide +kernel
theorem dX12_valueOf_61 : decode cX12_valueOf 61 = .ok (.ireturn, 1) := by decide +kernel
theorem dX12_valueOf_62 : decode cX12_valueOf 62 = .ok (.aload_n 0, 1) := by decide +kernel
theorem dX12_valueOf_63 : decode cX12_valueOf 63 = .ok (.iload_n 2, 1) := by decide +kernel
theorem dX12_valueOf_64 : decode cX12_valueOf 64 = .ok (.iconst 1, 1) := by decide +kernel
theorem dX12_valueOf_65 : decode cX12_valueOf 65 = .ok (.invokevirtual 325, 3) := by decide +kernel
theorem dX12_valueOf_68 : decode cX12_valueOf 68 = .ok (.ireturn, 1) := by decide +kernel
theorem dX12_valueOf_69 : decode cX12_valueOf 69 = .ok (.aload_n 0, 1) := by decide +kernel
theorem dX12_valueOf_70 : decode cX12_valueOf 70 = .ok (.getfield 61, 3) := by decide +kernel
theorem dX12_valueOf_73 : decode cX12_valueOf 73 = .ok (.iload_n 2, 1) := by decide +kernel
theorem dX12_valueOf_74 : decode cX12_valueOf 74 = .ok (.iconst 1, 1) := by decide +kernel
theorem dX12_valueOf_75 : decode cX12_valueOf 75 = .ok (.invokestatic 328, 3) := by decide +kernel
theorem dX12_valueOf_78 : decode cX12_valueOf 78 = .ok (.ireturn, 1) := by decide +kernel
theorem sk_TrapCornerModel_393 : SK "TrapCornerModel" 393 yJ6_bitCount_0f7a4 1 := ⟨tw_1719, tw_956, tw_26, ⟨by decide, by decide⟩, by decide +kernel⟩
section
variable {g : GG} {p : Program} {l : Launch} {e : Env} {R : Room} {s : State} {m : MethodId} {args : Array Value} {below : List Frame} {meth : Method} {c : Code} {n0 z0 : Nat}
def f_X12_valueOf_0  (o0 : Nat) (x1 : Int32) (x2 : Int32) (h : AH) : Option (Int32 × AH) :=
  if x1 = 0 then
    (isC [12] h o0).bind fun _ =>
    cN (f_X12_passers o0 x2 h) h fun v2 h3 =>
    cN (f_J6_bitCount_0f7a4 v2 h3) h3 fun v7 h8 =>
    some (v7, h8)
  else
    if x1 = 1 then
      (gR [12] h o0 32).bind fun v12 =>
      (aI 0 h v12 ((2 * x2) + 1)).bind fun v14 =>
      some (v14, h)
    else
      if x1 = 2 then
        (gR [12] h o0 32).bind fun v17 =>
        cN (f_X12_folk v17 x2 0 h) h fun v19 h20 =>
        some (v19, h20)
      else
        if x1 = 3 then
          (isC [12] h o0).bind fun _ =>
          cN (f_X12_of o0 x2 1 h) h fun v24 h25 =>
          some (v24, h25)
        else
          (gR [12] h o0 32).bind fun v29 =>
          cN (f_X12_folk v29 x2 1 h) h fun v31 h32 =>
          some (v31, h32)
set_option maxHeartbeats 1000000 in
theorem w_X12_valueOf_0 (X : Cx g p s m args meth c cX12_valueOf 3 "TrapCornerModel") (hR : 5 ≤ R.frames ∧ 320 ≤ R.locals) (hr : meth.sig.returnType = (some (.int))) {res : Int32 × AH} : ∀ (o0 : Nat) (x1 : Int32) (x2 : Int32) (h : AH) (ls : Array Slot) (H : Heap) (locs : List Loc), f_X12_valueOf_0 o0 x1 x2 h = some res → Iv g s n0 z0 h H locs 0 0 → lv_has ls 3 [(0, .ref (rfG g o0)), (1, .int x1), (2, .int x2)] → W p l e R s m args below meth c H locs 0 0 (MQ below (QG g (some (.int res.1)) res.2) args s 0 0 (AG g)) (F0 m 0 ls []) := by
  have hx := X.1
  have hb := X.2.1
  intro o0 x1 x2 h ls H locs hf I hl
  unfold f_X12_valueOf_0 at hf
  refine lv_iload_n hx hb dX12_valueOf_0 rfl (lv_at hl 1 rfl) ?_
  by_cases c1 : x1 = 0
  · rw [if_pos c1] at hf
    refine lv_tableIn (tgt := 32) hx hb dX12_valueOf_1 (by rw [c1]; decide) (by rw [c1]; decide) (by rw [c1]; rfl) (by decide) ?_
    refine lv_aload_n hx hb dX12_valueOf_32 rfl (lv_at hl 0 rfl) ?_
    refine lv_iload_n hx hb dX12_valueOf_33 rfl (lv_at hl 2 rfl) ?_
    obtain ⟨_, g6, hf⟩ := Option.bind_eq_some_iff.mp hf
    obtain ⟨v2, h3, e4, z5, hf⟩ := cN_spec hf
    refine k_Vi (As := [.int x2]) (rest := []) X I (c_X12_passers l g o0 x2 e4) z5 g6 vk_TrapCornerModel_461 tw_1858 ⟨Nat.le_trans (by decide) hR.1, Nat.le_trans (by decide) hR.2⟩ ⟨Nat.zero_le _, Nat.zero_le _⟩ rfl hl.1 rfl (Nat.le_of_ble_eq_true rfl) dX12_valueOf_34 (fun H locs I => ?_)
    obtain ⟨v7, h8, e9, z10, hf⟩ := cN_spec hf
    refine k_Si (As := [.int v2]) (rest := []) X I (c_J6_bitCount_0f7a4 l g v2 e9) z10 sk_TrapCornerModel_393 tw_957 ⟨Nat.le_trans (by decide) hR.1, Nat.le_trans (by decide) hR.2⟩ ⟨Nat.zero_le _, Nat.zero_le _⟩ rfl hl.1 rfl (Nat.le_of_ble_eq_true rfl) dX12_valueOf_37 (fun H locs I => ?_)
    cases hf
    exact k_ri X I hr dX12_valueOf_40
  · rw [if_neg c1] at hf
    by_cases c11 : x1 = 1
    · rw [if_pos c11] at hf
      refine lv_tableIn (tgt := 41) hx hb dX12_valueOf_1 (by rw [c11]; decide) (by rw [c11]; decide) (by rw [c11]; rfl) (by decide) ?_
      refine lv_aload_n hx hb dX12_valueOf_41 rfl (lv_at hl 0 rfl) ?_
      obtain ⟨v12, e13, hf⟩ := Option.bind_eq_some_iff.mp hf
      refine r_gR X I e13 lk_TrapCornerModel_61 dX12_valueOf_42 ?_
      refine lv_iconst (v := 2) hx hb dX12_valueOf_45 (by decide) ?_
      refine lv_iload_n hx hb dX12_valueOf_46 rfl (lv_at hl 2 rfl) ?_
      refine lv_imul hx hb dX12_valueOf_47 ?_
      refine lv_iconst (v := 1) hx hb dX12_valueOf_48 (by decide) ?_
      refine lv_iadd hx hb dX12_valueOf_49 ?_
      obtain ⟨v14, e15, hf⟩ := Option.bind_eq_some_iff.mp hf
      refine r_aI0 X I e15 dX12_valueOf_50 ?_
      cases hf
      exact k_ri X I hr dX12_valueOf_51
    · rw [if_neg c11] at hf
      by_cases c16 : x1 = 2
      · rw [if_pos c16] at hf
        refine lv_tableIn (tgt := 52) hx hb dX12_valueOf_1 (by rw [c16]; decide) (by rw [c16]; decide) (by rw [c16]; rfl) (by decide) ?_
        refine lv_aload_n hx hb dX12_valueOf_52 rfl (lv_at hl 0 rfl) ?_
        obtain ⟨v17, e18, hf⟩ := Option.bind_eq_some_iff.mp hf
        refine r_gR X I e18 lk_TrapCornerModel_61 dX12_valueOf_53 ?_
        refine lv_iload_n hx hb dX12_valueOf_56 rfl (lv_at hl 2 rfl) ?_
        refine lv_iconst (v := 0) hx hb dX12_valueOf_57 (by decide) ?_
        obtain ⟨v19, h20, e21, z22, hf⟩ := cN_spec hf
        refine k_Si (As := [.ref (rfG g v17), .int x2, .int 0]) (rest := []) X I (c_X12_folk l g v17 x2 0 e21) z22 sk_TrapCornerModel_328 tw_1647 ⟨Nat.le_trans (by decide) hR.1, Nat.le_trans (by decide) hR.2⟩ ⟨Nat.zero_le _, Nat.zero_le _⟩ rfl hl.1 rfl (Nat.le_of_ble_eq_true rfl) dX12_valueOf_58 (fun H locs I => ?_)
        cases hf
        exact k_ri X I hr dX12_valueOf_61
      · rw [if_neg c16] at hf
        by_cases c23 : x1 = 3
        · rw [if_pos c23] at hf
          refine lv_tableIn (tgt := 62) hx hb dX12_valueOf_1 (by rw [c23]; decide) (by rw [c23]; decide) (by rw [c23]; rfl) (by decide) ?_
          refine lv_aload_n hx hb dX12_valueOf_62 rfl (lv_at hl 0 rfl) ?_
          refine lv_iload_n hx hb dX12_valueOf_63 rfl (lv_at hl 2 rfl) ?_
          refine lv_iconst (v := 1) hx hb dX12_valueOf_64 (by decide) ?_
          obtain ⟨_, g28, hf⟩ := Option.bind_eq_some_iff.mp hf
          obtain ⟨v24, h25, e26, z27, hf⟩ := cN_spec hf
          refine k_Vi (As := [.int x2, .int 1]) (rest := []) X I (c_X12_of l g o0 x2 1 e26) z27 g28 vk_TrapCornerModel_325 tw_1651 ⟨Nat.le_trans (by decide) hR.1, Nat.le_trans (by decide) hR.2⟩ ⟨Nat.zero_le _, Nat.zero_le _⟩ rfl hl.1 rfl (Nat.le_of_ble_eq_true rfl) dX12_valueOf_65 (fun H locs I => ?_)
          cases hf
          exact k_ri X I hr dX12_valueOf_68
        · rw [if_neg c23] at hf
          refine lv_tableOut (tgt := 69) hx hb dX12_valueOf_1 (sw_out (fun k k1 k2 => by rcases (show k = 0 ∨ k = 1 ∨ k = 2 ∨ k = 3 by omega) with rfl | rfl | rfl | rfl <;> assumption)) (by decide) ?_
          refine lv_aload_n hx hb dX12_valueOf_69 rfl (lv_at hl 0 rfl) ?_
          obtain ⟨v29, e30, hf⟩ := Option.bind_eq_some_iff.mp hf
          refine r_gR X I e30 lk_TrapCornerModel_61 dX12_valueOf_70 ?_
          refine lv_iload_n hx hb dX12_valueOf_73 rfl (lv_at hl 2 rfl) ?_
          refine lv_iconst (v := 1) hx hb dX12_valueOf_74 (by decide) ?_
          obtain ⟨v31, h32, e33, z34, hf⟩ := cN_spec hf
          refine k_Si (As := [.ref (rfG g v29), .int x2, .int 1]) (rest := []) X I (c_X12_folk l g v29 x2 1 e33) z34 sk_TrapCornerModel_328 tw_1647 ⟨Nat.le_trans (by decide) hR.1, Nat.le_trans (by decide) hR.2⟩ ⟨Nat.zero_le _, Nat.zero_le _⟩ rfl hl.1 rfl (Nat.le_of_ble_eq_true rfl) dX12_valueOf_75 (fun H locs I => ?_)
          cases hf
          exact k_ri X I hr dX12_valueOf_78
def f_X12_valueOf (o0 : Nat) (x1 : Int32) (x2 : Int32) (h : AH) : Option (Int32 × AH) := f_X12_valueOf_0 o0 x1 x2 h
end
theorem c_X12_valueOf (l : Launch) (g : GG) (o0 : Nat) (x1 : Int32) (x2 : Int32) {h : AH} {res : Int32 × AH} (hf : f_X12_valueOf o0 x1 x2 h = some res) : CM l g yX12_valueOf cX12_valueOf 3 (some (.int)) 5 320 0 0 [.ref (rfG g o0), .int x1, .int x2] h (some (.int res.1)) res.2 :=
  k_body (by decide) (Nat.le_of_ble_eq_true rfl) (fun p e s m below meth c R ls hR hr X I hl => w_X12_valueOf_0 X ⟨Nat.le_of_eq hR.1.symm, Nat.le_of_eq hR.2.1.symm⟩ hr o0 x1 x2 h ls s.heap [] hf I (lv_sub hl [0, 1, 2] rfl))
/-! TrapCornerModel.greatest(I)I -/
theorem dX12_greatest_0 : decode cX12_greatest 0 = .ok (.iconst 0, 1) := by decide +kernel
theorem dX12_greatest_1 : decode cX12_greatest 1 = .ok (.istore_n 2, 1) := by decide +kernel
theorem dX12_greatest_2 : decode cX12_greatest 2 = .ok (.iload_n 1, 1) := by decide +kernel
theorem dX12_greatest_3 : decode cX12_greatest 3 = .ok (.iconst 2, 1) := by decide +kernel
theorem dX12_greatest_4 : decode cX12_greatest 4 = .ok (.if_icmp .ge 10, 3) := by decide +kernel
theorem dX12_greatest_7 : decode cX12_greatest 7 = .ok (.aload_n 0, 1) := by decide +kernel
theorem dX12_greatest_8 : decode cX12_greatest 8 = .ok (.getfield 294, 3) := by decide +kernel
theorem dX12_greatest_11 : decode cX12_greatest 11 = .ok (.goto 7, 3) := by decide +kernel
theorem dX12_greatest_14 : decode cX12_greatest 14 = .ok (.aload_n 0, 1) := by decide +kernel
theorem dX12_greatest_15 : decode cX12_greatest 15 = .ok (.getfield 297, 3) := by decide +kernel
theorem dX12_greatest_18 : decode cX12_greatest 18 = .ok (.istore_n 3, 1) := by decide +kernel
theorem dX12_greatest_19 : decode cX12_greatest 19 = .ok (.iconst 1, 1) := by decide +kernel
theorem dX12_greatest_20 : decode cX12_greatest 20 = .ok (.istore 4, 2) := by decide +kernel
theorem dX12_greatest_22 : decode cX12_greatest 22 = .ok (.iload 4, 2) := by decide +kernel
theorem dX12_greatest_24 : decode cX12_greatest 24 = .ok (.iload_n 3, 1) := by decide +kernel
theorem dX12_greatest_25 : decode cX12_greatest 25 = .ok (.if_icmp .ge 32, 3) := by decide +kernel
theorem dX12_greatest_28 : decode cX12_greatest 28 = .ok (.aload_n 0, 1) := by decide +kernel
theorem dX12_greatest_29 : decode cX12_greatest 29 = .ok (.iload_n 1, 1) := by decide +kernel
theorem dX12_greatest_30 : decode cX12_greatest 30 = .ok (.iload 4, 2) := by decide +kernel
theorem dX12_greatest_32 : decode cX12_greatest 32 = .ok (.invokevirtual 469, 3) := by decide +kernel
theorem dX12_greatest_35 : decode cX12_greatest 35 = .ok (.aload_n 0, 1) := by decide +kernel
theorem dX12_greatest_36 : decode cX12_greatest 36 = .ok (.iload_n 1, 1) := by decide +kernel
theorem dX12_greatest_37 : decode cX12_greatest 37 = .ok (.iload_n 2, 1) := by decide +kernel
theorem dX12_greatest_38 : decode cX12_greatest 38 = .ok (.invokevirtual 469, 3) := by decide +kernel
theorem dX12_greatest_41 : decode cX12_greatest 41 = .ok (.if_icmp .le 8, 3) := by decide +kernel
theorem dX12_greatest_44 : decode cX12_greatest 44 = .ok (.iload 4, 2) := by decide +kernel
theorem dX12_greatest_46 : decode cX12_greatest 46 = .ok (.goto 4, 3) := by decide +kernel
theorem dX12_greatest_49 : decode cX12_greatest 49 = .ok (.iload_n 2, 1) := by decide +kernel
theorem dX12_greatest_50 : decode cX12_greatest 50 = .ok (.istore_n 2, 1) := by decide +kernel
theorem dX12_greatest_51 : decode cX12_greatest 51 = .ok (.iinc 4 1, 3) := by decide +kernel
theorem dX12_greatest_54 : decode cX12_greatest 54 = .ok (.goto (-32), 3) := by decide +kernel
theorem dX12_greatest_57 : decode cX12_greatest 57 = .ok (.iload_n 2, 1) := by decide +kernel
theorem dX12_greatest_58 : decode cX12_greatest 58 = .ok (.ireturn, 1) := by decide +kernel
theorem vk_TrapCornerModel_469 : VK "TrapCornerModel" 469 [12] yX12_valueOf 2 := ⟨tw_1900, tw_1902, tw_13, ⟨by decide, by decide⟩, by decide +kernel, fun ci hci => by
  have hci := List.mem_singleton.mp hci
  subst hci
  exact ⟨_, rfl, tp_106⟩⟩
section
variable {g : GG} {p : Program} {l : Launch} {e : Env} {R : Room} {s : State} {m : MethodId} {args : Array Value} {below : List Frame} {meth : Method} {c : Code} {n0 z0 : Nat}
def f_X12_greatest_50 (k22 : Nat → Int32 → Int32 → Int32 → Int32 → AH → Option (Int32 × AH)) (o0 : Nat) (x1 : Int32) (x3 : Int32) (x4 : Int32) (s0 : Int32) (h : AH) : Option (Int32 × AH) :=
  k22 o0 x1 s0 x3 (x4 + 1) h
set_option maxHeartbeats 1000000 in
theorem w_X12_greatest_50 (X : Cx g p s m args meth c cX12_greatest 5 "TrapCornerModel") (hR : 6 ≤ R.frames ∧ 384 ≤ R.locals) (hr : meth.sig.returnType = (some (.int))) {res : Int32 × AH} {k22 : Nat → Int32 → Int32 → Int32 → Int32 → AH → Option (Int32 × AH)} (hk22 : ∀ (o0 : Nat) (x1 : Int32) (x2 : Int32) (x3 : Int32) (x4 : Int32) (h : AH) (ls : Array Slot) (H : Heap) (locs : List Loc), k22 o0 x1 x2 x3 x4 h = some res → Iv g s n0 z0 h H locs 0 0 → lv_has ls 5 [(0, .ref (rfG g o0)), (1, .int x1), (2, .int x2), (3, .int x3), (4, .int x4)] → W p l e R s m args below meth c H locs 0 0 (MQ below (QG g (some (.int res.1)) res.2) args s 0 0 (AG g)) (F0 m 22 ls [])) : ∀ (o0 : Nat) (x1 : Int32) (x3 : Int32) (x4 : Int32) (s0 : Int32) (h : AH) (ls : Array Slot) (H : Heap) (locs : List Loc), f_X12_greatest_50 k22 o0 x1 x3 x4 s0 h = some res → Iv g s n0 z0 h H locs 0 0 → lv_has ls 5 [(0, .ref (rfG g o0)), (1, .int x1), (3, .int x3), (4, .int x4)] → W p l e R s m args below meth c H locs 0 0 (MQ below (QG g (some (.int res.1)) res.2) args s 0 0 (AG g)) (F0 m 50 ls [.int s0]) := by
  have hx := X.1
  have hb := X.2.1
  intro o0 x1 x3 x4 s0 h ls H locs hf I hl
  unfold f_X12_greatest_50 at hf
  refine lv_istore_n (lv' := [(2, .int s0), (0, .ref (rfG g o0)), (1, .int x1), (3, .int x3), (4, .int x4)]) hx hb dX12_greatest_50 rfl hl (by decide) rfl (fun ls hl => ?_)
  refine lv_iinc (v := x4 + 1) (lv' := [(4, .int (x4 + 1)), (2, .int s0), (0, .ref (rfG g o0)), (1, .int x1), (3, .int x3)]) hx hb dX12_greatest_51 hl (k := 4) rfl rfl (by decide) rfl (fun ls hl => ?_)
  refine lv_goto (tgt := 22) hx hb dX12_greatest_54 (by decide) ?_
  exact hk22 o0 x1 s0 x3 (x4 + 1) h ls H locs hf I (lv_sub hl [2, 3, 1, 4, 0] rfl)
def f_X12_greatest_22  : Nat → Nat → Int32 → Int32 → Int32 → Int32 → AH → Option (Int32 × AH)
  | 0, _, _, _, _, _, _ => none
  | n + 1, o0, x1, x2, x3, x4, h =>
  if x3 ≤ x4 then
    some (x2, h)
  else
    (isC [12] h o0).bind fun _ =>
    cN (f_X12_valueOf o0 x1 x4 h) h fun v2 h3 =>
    (isC [12] h3 o0).bind fun _ =>
    cN (f_X12_valueOf o0 x1 x2 h3) h3 fun v7 h8 =>
    if v2 ≤ v7 then
      f_X12_greatest_50 (f_X12_greatest_22 n) o0 x1 x3 x4 x2 h8
    else
      f_X12_greatest_50 (f_X12_greatest_22 n) o0 x1 x3 x4 x4 h8
set_option maxHeartbeats 1000000 in
theorem w_X12_greatest_22 (X : Cx g p s m args meth c cX12_greatest 5 "TrapCornerModel") (hR : 6 ≤ R.frames ∧ 384 ≤ R.locals) (hr : meth.sig.returnType = (some (.int))) {res : Int32 × AH} : ∀ (n : Nat) (o0 : Nat) (x1 : Int32) (x2 : Int32) (x3 : Int32) (x4 : Int32) (h : AH) (ls : Array Slot) (H : Heap) (locs : List Loc), f_X12_greatest_22 n o0 x1 x2 x3 x4 h = some res → Iv g s n0 z0 h H locs 0 0 → lv_has ls 5 [(0, .ref (rfG g o0)), (1, .int x1), (2, .int x2), (3, .int x3), (4, .int x4)] → W p l e R s m args below meth c H locs 0 0 (MQ below (QG g (some (.int res.1)) res.2) args s 0 0 (AG g)) (F0 m 22 ls []) := by
  have hx := X.1
  have hb := X.2.1
  intro n
  induction n with
  | zero =>
    intro o0 x1 x2 x3 x4 h ls H locs hf
    rw [f_X12_greatest_22.eq_1] at hf
    cases hf
  | succ n ih =>
    intro o0 x1 x2 x3 x4 h ls H locs hf I hl
    rw [f_X12_greatest_22.eq_2] at hf
    refine lv_iload hx hb dX12_greatest_22 (lv_at hl 4 rfl) ?_
    refine lv_iload_n hx hb dX12_greatest_24 rfl (lv_at hl 3 rfl) ?_
    refine lv_icmp_ge (tgt := 57) hx hb dX12_greatest_25 (by decide) (fun c1 => ?_) (fun c1 => ?_)
    · rw [if_pos c1] at hf
      refine lv_iload_n hx hb dX12_greatest_57 rfl (lv_at hl 2 rfl) ?_
      cases hf
      exact k_ri X I hr dX12_greatest_58
    · rw [if_neg c1] at hf
      refine lv_aload_n hx hb dX12_greatest_28 rfl (lv_at hl 0 rfl) ?_
      refine lv_iload_n hx hb dX12_greatest_29 rfl (lv_at hl 1 rfl) ?_
      refine lv_iload hx hb dX12_greatest_30 (lv_at hl 4 rfl) ?_
      obtain ⟨_, g6, hf⟩ := Option.bind_eq_some_iff.mp hf
      obtain ⟨v2, h3, e4, z5, hf⟩ := cN_spec hf
      refine k_Vi (As := [.int x1, .int x4]) (rest := []) X I (c_X12_valueOf l g o0 x1 x4 e4) z5 g6 vk_TrapCornerModel_469 tw_1903 ⟨Nat.le_trans (by decide) hR.1, Nat.le_trans (by decide) hR.2⟩ ⟨Nat.zero_le _, Nat.zero_le _⟩ rfl hl.1 rfl (Nat.le_of_ble_eq_true rfl) dX12_greatest_32 (fun H locs I => ?_)
      refine lv_aload_n hx hb dX12_greatest_35 rfl (lv_at hl 0 rfl) ?_
      refine lv_iload_n hx hb dX12_greatest_36 rfl (lv_at hl 1 rfl) ?_
      refine lv_iload_n hx hb dX12_greatest_37 rfl (lv_at hl 2 rfl) ?_
      obtain ⟨_, g11, hf⟩ := Option.bind_eq_some_iff.mp hf
      obtain ⟨v7, h8, e9, z10, hf⟩ := cN_spec hf
      refine k_Vi (As := [.int x1, .int x2]) (rest := [.int v2]) X I (c_X12_valueOf l g o0 x1 x2 e9) z10 g11 vk_TrapCornerModel_469 tw_1903 ⟨Nat.le_trans (by decide) hR.1, Nat.le_trans (by decide) hR.2⟩ ⟨Nat.zero_le _, Nat.zero_le _⟩ rfl hl.1 rfl (Nat.le_of_ble_eq_true rfl) dX12_greatest_38 (fun H locs I => ?_)
      refine lv_icmp_le (tgt := 49) hx hb dX12_greatest_41 (by decide) (fun c12 => ?_) (fun c12 => ?_)
      · rw [if_pos c12] at hf
        refine lv_iload_n hx hb dX12_greatest_49 rfl (lv_at hl 2 rfl) ?_
        exact w_X12_greatest_50 X hR hr ih o0 x1 x3 x4 x2 h8 ls H locs hf I (lv_sub hl [0, 1, 3, 4] rfl)
      · rw [if_neg c12] at hf
        refine lv_iload hx hb dX12_greatest_44 (lv_at hl 4 rfl) ?_
        refine lv_goto (tgt := 50) hx hb dX12_greatest_46 (by decide) ?_
        exact w_X12_greatest_50 X hR hr ih o0 x1 x3 x4 x4 h8 ls H locs hf I (lv_sub hl [0, 1, 3, 4] rfl)
def f_X12_greatest_18  (o0 : Nat) (x1 : Int32) (x2 : Int32) (s0 : Int32) (h : AH) : Option (Int32 × AH) :=
  f_X12_greatest_22 fu o0 x1 x2 s0 1 h
set_option maxHeartbeats 1000000 in
theorem w_X12_greatest_18 (X : Cx g p s m args meth c cX12_greatest 5 "TrapCornerModel") (hR : 6 ≤ R.frames ∧ 384 ≤ R.locals) (hr : meth.sig.returnType = (some (.int))) {res : Int32 × AH} : ∀ (o0 : Nat) (x1 : Int32) (x2 : Int32) (s0 : Int32) (h : AH) (ls : Array Slot) (H : Heap) (locs : List Loc), f_X12_greatest_18 o0 x1 x2 s0 h = some res → Iv g s n0 z0 h H locs 0 0 → lv_has ls 5 [(0, .ref (rfG g o0)), (1, .int x1), (2, .int x2)] → W p l e R s m args below meth c H locs 0 0 (MQ below (QG g (some (.int res.1)) res.2) args s 0 0 (AG g)) (F0 m 18 ls [.int s0]) := by
  have hx := X.1
  have hb := X.2.1
  intro o0 x1 x2 s0 h ls H locs hf I hl
  unfold f_X12_greatest_18 at hf
  refine lv_istore_n (lv' := [(3, .int s0), (0, .ref (rfG g o0)), (1, .int x1), (2, .int x2)]) hx hb dX12_greatest_18 rfl hl (by decide) rfl (fun ls hl => ?_)
  refine lv_iconst (v := 1) hx hb dX12_greatest_19 (by decide) ?_
  refine lv_istore (lv' := [(4, .int 1), (3, .int s0), (0, .ref (rfG g o0)), (1, .int x1), (2, .int x2)]) hx hb dX12_greatest_20 hl (by decide) rfl (fun ls hl => ?_)
  exact w_X12_greatest_22 X hR hr fu o0 x1 x2 s0 1 h ls H locs hf I (lv_sub hl [2, 3, 4, 1, 0] rfl)
def f_X12_greatest_0  (o0 : Nat) (x1 : Int32) (h : AH) : Option (Int32 × AH) :=
  if 2 ≤ x1 then
    (gI [12] h o0 27).bind fun v2 =>
    f_X12_greatest_18 o0 x1 0 v2 h
  else
    (gI [12] h o0 26).bind fun v4 =>
    f_X12_greatest_18 o0 x1 0 v4 h
set_option maxHeartbeats 1000000 in
theorem w_X12_greatest_0 (X : Cx g p s m args meth c cX12_greatest 5 "TrapCornerModel") (hR : 6 ≤ R.frames ∧ 384 ≤ R.locals) (hr : meth.sig.returnType = (some (.int))) {res : Int32 × AH} : ∀ (o0 : Nat) (x1 : Int32) (h : AH) (ls : Array Slot) (H : Heap) (locs : List Loc), f_X12_greatest_0 o0 x1 h = some res → Iv g s n0 z0 h H locs 0 0 → lv_has ls 5 [(0, .ref (rfG g o0)), (1, .int x1)] → W p l e R s m args below meth c H locs 0 0 (MQ below (QG g (some (.int res.1)) res.2) args s 0 0 (AG g)) (F0 m 0 ls []) := by
  have hx := X.1
  have hb := X.2.1
  intro o0 x1 h ls H locs hf I hl
  unfold f_X12_greatest_0 at hf
  refine lv_iconst (v := 0) hx hb dX12_greatest_0 (by decide) ?_
  refine lv_istore_n (lv' := [(2, .int 0), (0, .ref (rfG g o0)), (1, .int x1)]) hx hb dX12_greatest_1 rfl hl (by decide) rfl (fun ls hl => ?_)
  refine lv_iload_n hx hb dX12_greatest_2 rfl (lv_at hl 2 rfl) ?_
  refine lv_iconst (v := 2) hx hb dX12_greatest_3 (by decide) ?_
  refine lv_icmp_ge (tgt := 14) hx hb dX12_greatest_4 (by decide) (fun c1 => ?_) (fun c1 => ?_)
  · rw [if_pos c1] at hf
    refine lv_aload_n hx hb dX12_greatest_14 rfl (lv_at hl 1 rfl) ?_
    obtain ⟨v2, e3, hf⟩ := Option.bind_eq_some_iff.mp hf
    refine r_gI X I e3 lk_TrapCornerModel_297 dX12_greatest_15 ?_
    exact w_X12_greatest_18 X hR hr  o0 x1 0 v2 h ls H locs hf I (lv_sub hl [1, 2, 0] rfl)
  · rw [if_neg c1] at hf
    refine lv_aload_n hx hb dX12_greatest_7 rfl (lv_at hl 1 rfl) ?_
    obtain ⟨v4, e5, hf⟩ := Option.bind_eq_some_iff.mp hf
    refine r_gI X I e5 lk_TrapCornerModel_294 dX12_greatest_8 ?_
    refine lv_goto (tgt := 18) hx hb dX12_greatest_11 (by decide) ?_
    exact w_X12_greatest_18 X hR hr  o0 x1 0 v4 h ls H locs hf I (lv_sub hl [1, 2, 0] rfl)
def f_X12_greatest (o0 : Nat) (x1 : Int32) (h : AH) : Option (Int32 × AH) := f_X12_greatest_0 o0 x1 h
end
theorem c_X12_greatest (l : Launch) (g : GG) (o0 : Nat) (x1 : Int32) {h : AH} {res : Int32 × AH} (hf : f_X12_greatest o0 x1 h = some res) : CM l g yX12_greatest cX12_greatest 5 (some (.int)) 6 384 0 0 [.ref (rfG g o0), .int x1] h (some (.int res.1)) res.2 :=
  k_body (by decide) (Nat.le_of_ble_eq_true rfl) (fun p e s m below meth c R ls hR hr X I hl => w_X12_greatest_0 X ⟨Nat.le_of_eq hR.1.symm, Nat.le_of_eq hR.2.1.symm⟩ hr o0 x1 h ls s.heap [] hf I (lv_sub hl [0, 1] rfl))
/-! TrapCornerModel.laidKinds()I -/
theorem dX12_laidKinds_0 : decode cX12_laidKinds 0 = .ok (.iconst 0, 1) := by decide +kernel
theorem dX12_laidKinds_1 : decode cX12_laidKinds 1 = .ok (.istore_n 1, 1) := by decide +kernel
theorem dX12_laidKinds_2 : decode cX12_laidKinds 2 = .ok (.iconst 0, 1) := by decide +kernel
theorem dX12_laidKinds_3 : decode cX12_laidKinds 3 = .ok (.istore_n 2, 1) := by decide +kernel
theorem dX12_laidKinds_4 : decode cX12_laidKinds 4 = .ok (.iload_n 2, 1) := by decide +kernel
theorem dX12_laidKinds_5 : decode cX12_laidKinds 5 = .ok (.aload_n 0, 1) := by decide +kernel
theorem dX12_laidKinds_6 : decode cX12_laidKinds 6 = .ok (.getfield 294, 3) := by decide +kernel
theorem dX12_laidKinds_9 : decode cX12_laidKinds 9 = .ok (.if_icmp .ge 24, 3) := by decide +kernel
theorem dX12_laidKinds_12 : decode cX12_laidKinds 12 = .ok (.iload_n 1, 1) := by decide +kernel
theorem dX12_laidKinds_13 : decode cX12_laidKinds 13 = .ok (.iconst 1, 1) := by decide +kernel
theorem dX12_laidKinds_14 : decode cX12_laidKinds 14 = .ok (.aload_n 0, 1) := by decide +kernel
theorem dX12_laidKinds_15 : decode cX12_laidKinds 15 = .ok (.getfield 61, 3) := by decide +kernel
theorem dX12_laidKinds_18 : decode cX12_laidKinds 18 = .ok (.iconst 2, 1) := by decide +kernel
theorem dX12_laidKinds_19 : decode cX12_laidKinds 19 = .ok (.iload_n 2, 1) := by decide +kernel
theorem dX12_laidKinds_20 : decode cX12_laidKinds 20 = .ok (.imul, 1) := by decide +kernel
theorem dX12_laidKinds_21 : decode cX12_laidKinds 21 = .ok (.iconst 0, 1) := by decide +kernel
theorem dX12_laidKinds_22 : decode cX12_laidKinds 22 = .ok (.iadd, 1) := by decide +kernel
theorem dX12_laidKinds_23 : decode cX12_laidKinds 23 = .ok (.iaload, 1) := by decide +kernel
theorem dX12_laidKinds_24 : decode cX12_laidKinds 24 = .ok (.ishl, 1) := by decide +kernel
theorem dX12_laidKinds_25 : decode cX12_laidKinds 25 = .ok (.ior, 1) := by decide +kernel
theorem dX12_laidKinds_26 : decode cX12_laidKinds 26 = .ok (.istore_n 1, 1) := by decide +kernel
theorem dX12_laidKinds_27 : decode cX12_laidKinds 27 = .ok (.iinc 2 1, 3) := by decide +kernel
theorem dX12_laidKinds_30 : decode cX12_laidKinds 30 = .ok (.goto (-26), 3) := by decide +kernel
theorem dX12_laidKinds_33 : decode cX12_laidKinds 33 = .ok (.iload_n 1, 1) := by decide +kernel
theorem dX12_laidKinds_34 : decode cX12_laidKinds 34 = .ok (.bipush 14, 2) := by decide +kernel
theorem dX12_laidKinds_36 : decode cX12_laidKinds 36 = .ok (.iand, 1) := by decide +kernel
theorem dX12_laidKinds_37 : decode cX12_laidKinds 37 = .ok (.invokestatic 393, 3) := by decide +kernel
theorem dX12_laidKinds_40 : decode cX12_laidKinds 40 = .ok (.ireturn, 1) := by decide +kernel
section
variable {g : GG} {p : Program} {l : Launch} {e : Env} {R : Room} {s : State} {m : MethodId} {args : Array Value} {below : List Frame} {meth : Method} {c : Code} {n0 z0 : Nat}
def f_X12_laidKinds_4  : Nat → Nat → Int32 → Int32 → AH → Option (Int32 × AH)
  | 0, _, _, _, _ => none
  | n + 1, o0, x1, x2, h =>
  (gI [12] h o0 26).bind fun v1 =>
  if v1 ≤ x2 then
    cN (f_J6_bitCount_0f7a4 (x1 &&& 14) h) h fun v4 h5 =>
    some (v4, h5)
  else
    (gR [12] h o0 32).bind fun v8 =>
    (aI 0 h v8 ((2 * x2) + 0)).bind fun v10 =>
    f_X12_laidKinds_4  n o0 (x1 ||| (1 <<< (v10 &&& 31))) (x2 + 1) h
set_option maxHeartbeats 1000000 in
theorem w_X12_laidKinds_4 (X : Cx g p s m args meth c cX12_laidKinds 3 "TrapCornerModel") (hR : 2 ≤ R.frames ∧ 128 ≤ R.locals) (hr : meth.sig.returnType = (some (.int))) {res : Int32 × AH} : ∀ (n : Nat) (o0 : Nat) (x1 : Int32) (x2 : Int32) (h : AH) (ls : Array Slot) (H : Heap) (locs : List Loc), f_X12_laidKinds_4 n o0 x1 x2 h = some res → Iv g s n0 z0 h H locs 0 0 → lv_has ls 3 [(0, .ref (rfG g o0)), (1, .int x1), (2, .int x2)] → W p l e R s m args below meth c H locs 0 0 (MQ below (QG g (some (.int res.1)) res.2) args s 0 0 (AG g)) (F0 m 4 ls []) := by
  have hx := X.1
  have hb := X.2.1
  intro n
  induction n with
  | zero =>
    intro o0 x1 x2 h ls H locs hf
    rw [f_X12_laidKinds_4.eq_1] at hf
    cases hf
  | succ n ih =>
    intro o0 x1 x2 h ls H locs hf I hl
    rw [f_X12_laidKinds_4.eq_2] at hf
    refine lv_iload_n hx hb dX12_laidKinds_4 rfl (lv_at hl 2 rfl) ?_
    refine lv_aload_n hx hb dX12_laidKinds_5 rfl (lv_at hl 0 rfl) ?_
    obtain ⟨v1, e2, hf⟩ := Option.bind_eq_some_iff.mp hf
    refine r_gI X I e2 lk_TrapCornerModel_294 dX12_laidKinds_6 ?_
    refine lv_icmp_ge (tgt := 33) hx hb dX12_laidKinds_9 (by decide) (fun c3 => ?_) (fun c3 => ?_)
    · rw [if_pos c3] at hf
      refine lv_iload_n hx hb dX12_laidKinds_33 rfl (lv_at hl 1 rfl) ?_
      refine lv_bipush (v := 14) hx hb dX12_laidKinds_34 (by decide) ?_
      refine lv_iand hx hb dX12_laidKinds_36 ?_
      obtain ⟨v4, h5, e6, z7, hf⟩ := cN_spec hf
      refine k_Si (As := [.int (x1 &&& 14)]) (rest := []) X I (c_J6_bitCount_0f7a4 l g (x1 &&& 14) e6) z7 sk_TrapCornerModel_393 tw_957 ⟨Nat.le_trans (by decide) hR.1, Nat.le_trans (by decide) hR.2⟩ ⟨Nat.zero_le _, Nat.zero_le _⟩ rfl hl.1 rfl (Nat.le_of_ble_eq_true rfl) dX12_laidKinds_37 (fun H locs I => ?_)
      cases hf
      exact k_ri X I hr dX12_laidKinds_40
    · rw [if_neg c3] at hf
      refine lv_iload_n hx hb dX12_laidKinds_12 rfl (lv_at hl 1 rfl) ?_
      refine lv_iconst (v := 1) hx hb dX12_laidKinds_13 (by decide) ?_
      refine lv_aload_n hx hb dX12_laidKinds_14 rfl (lv_at hl 0 rfl) ?_
      obtain ⟨v8, e9, hf⟩ := Option.bind_eq_some_iff.mp hf
      refine r_gR X I e9 lk_TrapCornerModel_61 dX12_laidKinds_15 ?_
      refine lv_iconst (v := 2) hx hb dX12_laidKinds_18 (by decide) ?_
      refine lv_iload_n hx hb dX12_laidKinds_19 rfl (lv_at hl 2 rfl) ?_
      refine lv_imul hx hb dX12_laidKinds_20 ?_
      refine lv_iconst (v := 0) hx hb dX12_laidKinds_21 (by decide) ?_
      refine lv_iadd hx hb dX12_laidKinds_22 ?_
      obtain ⟨v10, e11, hf⟩ := Option.bind_eq_some_iff.mp hf
      refine r_aI0 X I e11 dX12_laidKinds_23 ?_
      refine lv_ishl hx hb dX12_laidKinds_24 ?_
      refine lv_ior hx hb dX12_laidKinds_25 ?_
      refine lv_istore_n (lv' := [(1, .int (x1 ||| (1 <<< (v10 &&& 31)))), (0, .ref (rfG g o0)), (2, .int x2)]) hx hb dX12_laidKinds_26 rfl hl (by decide) rfl (fun ls hl => ?_)
      refine lv_iinc (v := x2 + 1) (lv' := [(2, .int (x2 + 1)), (1, .int (x1 ||| (1 <<< (v10 &&& 31)))), (0, .ref (rfG g o0))]) hx hb dX12_laidKinds_27 hl (k := 2) rfl rfl (by decide) rfl (fun ls hl => ?_)
      refine lv_goto (tgt := 4) hx hb dX12_laidKinds_30 (by decide) ?_
      exact ih o0 (x1 ||| (1 <<< (v10 &&& 31))) (x2 + 1) h ls H locs hf I (lv_sub hl [2, 1, 0] rfl)
def f_X12_laidKinds_0  (o0 : Nat) (h : AH) : Option (Int32 × AH) :=
  f_X12_laidKinds_4 fu o0 0 0 h
set_option maxHeartbeats 1000000 in
theorem w_X12_laidKinds_0 (X : Cx g p s m args meth c cX12_laidKinds 3 "TrapCornerModel") (hR : 2 ≤ R.frames ∧ 128 ≤ R.locals) (hr : meth.sig.returnType = (some (.int))) {res : Int32 × AH} : ∀ (o0 : Nat) (h : AH) (ls : Array Slot) (H : Heap) (locs : List Loc), f_X12_laidKinds_0 o0 h = some res → Iv g s n0 z0 h H locs 0 0 → lv_has ls 3 [(0, .ref (rfG g o0))] → W p l e R s m args below meth c H locs 0 0 (MQ below (QG g (some (.int res.1)) res.2) args s 0 0 (AG g)) (F0 m 0 ls []) := by
  have hx := X.1
  have hb := X.2.1
  intro o0 h ls H locs hf I hl
  unfold f_X12_laidKinds_0 at hf
  refine lv_iconst (v := 0) hx hb dX12_laidKinds_0 (by decide) ?_
  refine lv_istore_n (lv' := [(1, .int 0), (0, .ref (rfG g o0))]) hx hb dX12_laidKinds_1 rfl hl (by decide) rfl (fun ls hl => ?_)
  refine lv_iconst (v := 0) hx hb dX12_laidKinds_2 (by decide) ?_
  refine lv_istore_n (lv' := [(2, .int 0), (1, .int 0), (0, .ref (rfG g o0))]) hx hb dX12_laidKinds_3 rfl hl (by decide) rfl (fun ls hl => ?_)
  exact w_X12_laidKinds_4 X hR hr fu o0 0 0 h ls H locs hf I (lv_sub hl [2, 1, 0] rfl)
def f_X12_laidKinds (o0 : Nat) (h : AH) : Option (Int32 × AH) := f_X12_laidKinds_0 o0 h
end
theorem c_X12_laidKinds (l : Launch) (g : GG) (o0 : Nat) {h : AH} {res : Int32 × AH} (hf : f_X12_laidKinds o0 h = some res) : CM l g yX12_laidKinds cX12_laidKinds 3 (some (.int)) 2 128 0 0 [.ref (rfG g o0)] h (some (.int res.1)) res.2 :=
  k_body (by decide) (Nat.le_of_ble_eq_true rfl) (fun p e s m below meth c R ls hR hr X I hl => w_X12_laidKinds_0 X ⟨Nat.le_of_eq hR.1.symm, Nat.le_of_eq hR.2.1.symm⟩ hr o0 h ls s.heap [] hf I (lv_sub hl [0] rfl))
/-! java/lang/StringLatin1.indexOf([BIII)I -/
theorem dJ1_indexOf_4cfef_0 : decode cJ1_indexOf_4cfef 0 = .ok (.iload_n 1, 1) := by decide +kernel
theorem dJ1_indexOf_4cfef_1 : decode cJ1_indexOf_4cfef 1 = .ok (.invokestatic 88, 3) := by decide +kernel
theorem dJ1_indexOf_4cfef_4 : decode cJ1_indexOf_4cfef 4 = .ok (.ifCond .ne 5, 3) := by decide +kernel
theorem dJ1_indexOf_4cfef_7 : decode cJ1_indexOf_4cfef 7 = .ok (.iconst (-1), 1) := by decide +kernel
theorem dJ1_indexOf_4cfef_8 : decode cJ1_indexOf_4cfef 8 = .ok (.ireturn, 1) := by decide +kernel
theorem dJ1_indexOf_4cfef_9 : decode cJ1_indexOf_4cfef 9 = .ok (.iload_n 2, 1) := by decide +kernel
theorem dJ1_indexOf_4cfef_10 : decode cJ1_indexOf_4cfef 10 = .ok (.iconst 0, 1) := by decide +kernel
theorem dJ1_indexOf_4cfef_11 : decode cJ1_indexOf_4cfef 11 = .ok (.invokestatic 92, 3) := by decide +kernel
theorem dJ1_indexOf_4cfef_14 : decode cJ1_indexOf_4cfef 14 = .ok (.istore_n 2, 1) := by decide +kernel
theorem dJ1_indexOf_4cfef_15 : decode cJ1_indexOf_4cfef 15 = .ok (.iload_n 3, 1) := by decide +kernel
theorem dJ1_indexOf_4cfef_16 : decode cJ1_indexOf_4cfef 16 = .ok (.aload_n 0, 1) := by decide +kernel
theorem dJ1_indexOf_4cfef_17 : decode cJ1_indexOf_4cfef 17 = .ok (.arraylength, 1) := by decide +kernel
theorem dJ1_indexOf_4cfef_18 : decode cJ1_indexOf_4cfef 18 = .ok (.invokestatic 38, 3) := by decide +kernel
theorem dJ1_indexOf_4cfef_21 : decode cJ1_indexOf_4cfef 21 = .ok (.istore_n 3, 1) := by decide +kernel
theorem dJ1_indexOf_4cfef_22 : decode cJ1_indexOf_4cfef 22 = .ok (.iload_n 2, 1) := by decide +kernel
theorem dJ1_indexOf_4cfef_23 : decode cJ1_indexOf_4cfef 23 = .ok (.iload_n 3, 1) := by decide +kernel
theorem dJ1_indexOf_4cfef_24 : decode cJ1_indexOf_4cfef 24 = .ok (.if_icmp .lt 5, 3) := by decide +kernel
theorem dJ1_indexOf_4cfef_27 : decode cJ1_indexOf_4cfef 27 = .ok (.iconst (-1), 1) := by decide +kernel
theorem dJ1_indexOf_4cfef_28 : decode cJ1_indexOf_4cfef 28 = .ok (.ireturn, 1) := by decide +kernel
theorem dJ1_indexOf_4cfef_29 : decode cJ1_indexOf_4cfef 29 = .ok (.aload_n 0, 1) := by decide +kernel
theorem dJ1_indexOf_4cfef_30 : decode cJ1_indexOf_4cfef 30 = .ok (.iload_n 1, 1) := by decide +kernel
theorem dJ1_indexOf_4cfef_31 : decode cJ1_indexOf_4cfef 31 = .ok (.iload_n 2, 1) := by decide +kernel
theorem dJ1_indexOf_4cfef_32 : decode cJ1_indexOf_4cfef 32 = .ok (.iload_n 3, 1) := by decide +kernel
theorem dJ1_indexOf_4cfef_33 : decode cJ1_indexOf_4cfef 33 = .ok (.invokestatic 95, 3) := by decide +kernel
theorem dJ1_indexOf_4cfef_36 : decode cJ1_indexOf_4cfef 36 = .ok (.ireturn, 1) := by decide +kernel
theorem sk_java_lang_StringLatin1_88 : SK "java/lang/StringLatin1" 88 yJ1_canEncode_9a6ad 1 := ⟨tw_521, tw_522, tw_16, ⟨by decide, by decide⟩, by decide +kernel⟩
theorem sk_java_lang_StringLatin1_92 : SK "java/lang/StringLatin1" 92 yJ9_max_7cf53 2 := ⟨tw_524, tw_525, tw_17, ⟨by decide, by decide⟩, by decide +kernel⟩
theorem sk_java_lang_StringLatin1_38 : SK "java/lang/StringLatin1" 38 yJ9_min_7cf53 2 := ⟨tw_527, tw_528, tw_17, ⟨by decide, by decide⟩, by decide +kernel⟩
theorem sk_java_lang_StringLatin1_95 : SK "java/lang/StringLatin1" 95 yJ1_indexOfChar_4cfef 4 := ⟨tw_530, tw_531, tw_16, ⟨by decide, by decide⟩, by decide +kernel⟩
section
variable {g : GG} {p : Program} {l : Launch} {e : Env} {R : Room} {s : State} {m : MethodId} {args : Array Value} {below : List Frame} {meth : Method} {c : Code} {n0 z0 : Nat}
def f_J1_indexOf_4cfef_0  (o0 : Nat) (x1 : Int32) (x2 : Int32) (x3 : Int32) (h : AH) : Option (Int32 × AH) :=
  cN (f_J1_canEncode_9a6ad x1 h) h fun v1 h2 =>
  if v1 = 0 then
    some ((-1), h2)
  else
    cN (f_J9_max_7cf53 x2 0 h2) h2 fun v6 h7 =>
    (aLen h7 o0).bind fun v10 =>
    cN (f_J9_min_7cf53 x3 v10 h7) h7 fun v12 h13 =>
    if v6 < v12 then
      cN (f_J1_indexOfChar_4cfef o0 x1 v6 v12 h13) h13 fun v17 h18 =>
      some (v17, h18)
    else
      some ((-1), h13)
set_option maxHeartbeats 1000000 in
theorem w_J1_indexOf_4cfef_0 (X : Cx g p s m args meth c cJ1_indexOf_4cfef 4 "java/lang/StringLatin1") (hR : 2 ≤ R.frames ∧ 128 ≤ R.locals) (hr : meth.sig.returnType = (some (.int))) {res : Int32 × AH} : ∀ (o0 : Nat) (x1 : Int32) (x2 : Int32) (x3 : Int32) (h : AH) (ls : Array Slot) (H : Heap) (locs : List Loc), f_J1_indexOf_4cfef_0 o0 x1 x2 x3 h = some res → Iv g s n0 z0 h H locs 0 0 → lv_has ls 4 [(0, .ref (rfG g o0)), (1, .int x1), (2, .int x2), (3, .int x3)] → W p l e R s m args below meth c H locs 0 0 (MQ below (QG g (some (.int res.1)) res.2) args s 0 0 (AG g)) (F0 m 0 ls []) := by
  have hx := X.1
  have hb := X.2.1
  intro o0 x1 x2 x3 h ls H locs hf I hl
  unfold f_J1_indexOf_4cfef_0 at hf
  refine lv_iload_n hx hb dJ1_indexOf_4cfef_0 rfl (lv_at hl 1 rfl) ?_
  obtain ⟨v1, h2, e3, z4, hf⟩ := cN_spec hf
  refine k_Si (As := [.int x1]) (rest := []) X I (c_J1_canEncode_9a6ad l g x1 e3) z4 sk_java_lang_StringLatin1_88 tw_523 ⟨Nat.le_trans (by decide) hR.1, Nat.le_trans (by decide) hR.2⟩ ⟨Nat.zero_le _, Nat.zero_le _⟩ rfl hl.1 rfl (Nat.le_of_ble_eq_true rfl) dJ1_indexOf_4cfef_1 (fun H locs I => ?_)
  refine lv_if_ne (tgt := 9) hx hb dJ1_indexOf_4cfef_4 (by decide) (fun c5 => ?_) (fun c5 => ?_)
  · rw [if_neg c5] at hf
    refine lv_iload_n hx hb dJ1_indexOf_4cfef_9 rfl (lv_at hl 2 rfl) ?_
    refine lv_iconst (v := 0) hx hb dJ1_indexOf_4cfef_10 (by decide) ?_
    obtain ⟨v6, h7, e8, z9, hf⟩ := cN_spec hf
    refine k_Si (As := [.int x2, .int 0]) (rest := []) X I (c_J9_max_7cf53 l g x2 0 e8) z9 sk_java_lang_StringLatin1_92 tw_526 ⟨Nat.le_trans (by decide) hR.1, Nat.le_trans (by decide) hR.2⟩ ⟨Nat.zero_le _, Nat.zero_le _⟩ rfl hl.1 rfl (Nat.le_of_ble_eq_true rfl) dJ1_indexOf_4cfef_11 (fun H locs I => ?_)
    refine lv_istore_n (lv' := [(2, .int v6), (0, .ref (rfG g o0)), (1, .int x1), (3, .int x3)]) hx hb dJ1_indexOf_4cfef_14 rfl hl (by decide) rfl (fun ls hl => ?_)
    refine lv_iload_n hx hb dJ1_indexOf_4cfef_15 rfl (lv_at hl 3 rfl) ?_
    refine lv_aload_n hx hb dJ1_indexOf_4cfef_16 rfl (lv_at hl 1 rfl) ?_
    obtain ⟨v10, e11, hf⟩ := Option.bind_eq_some_iff.mp hf
    refine r_len X I e11 dJ1_indexOf_4cfef_17 ?_
    obtain ⟨v12, h13, e14, z15, hf⟩ := cN_spec hf
    refine k_Si (As := [.int x3, .int v10]) (rest := []) X I (c_J9_min_7cf53 l g x3 v10 e14) z15 sk_java_lang_StringLatin1_38 tw_529 ⟨Nat.le_trans (by decide) hR.1, Nat.le_trans (by decide) hR.2⟩ ⟨Nat.zero_le _, Nat.zero_le _⟩ rfl hl.1 rfl (Nat.le_of_ble_eq_true rfl) dJ1_indexOf_4cfef_18 (fun H locs I => ?_)
    refine lv_istore_n (lv' := [(3, .int v12), (2, .int v6), (0, .ref (rfG g o0)), (1, .int x1)]) hx hb dJ1_indexOf_4cfef_21 rfl hl (by decide) rfl (fun ls hl => ?_)
    refine lv_iload_n hx hb dJ1_indexOf_4cfef_22 rfl (lv_at hl 1 rfl) ?_
    refine lv_iload_n hx hb dJ1_indexOf_4cfef_23 rfl (lv_at hl 0 rfl) ?_
    refine lv_icmp_lt (tgt := 29) hx hb dJ1_indexOf_4cfef_24 (by decide) (fun c16 => ?_) (fun c16 => ?_)
    · rw [if_pos c16] at hf
      refine lv_aload_n hx hb dJ1_indexOf_4cfef_29 rfl (lv_at hl 2 rfl) ?_
      refine lv_iload_n hx hb dJ1_indexOf_4cfef_30 rfl (lv_at hl 3 rfl) ?_
      refine lv_iload_n hx hb dJ1_indexOf_4cfef_31 rfl (lv_at hl 1 rfl) ?_
      refine lv_iload_n hx hb dJ1_indexOf_4cfef_32 rfl (lv_at hl 0 rfl) ?_
      obtain ⟨v17, h18, e19, z20, hf⟩ := cN_spec hf
      refine k_Si (As := [.ref (rfG g o0), .int x1, .int v6, .int v12]) (rest := []) X I (c_J1_indexOfChar_4cfef l g o0 x1 v6 v12 e19) z20 sk_java_lang_StringLatin1_95 tw_532 ⟨Nat.le_trans (by decide) hR.1, Nat.le_trans (by decide) hR.2⟩ ⟨Nat.zero_le _, Nat.zero_le _⟩ rfl hl.1 rfl (Nat.le_of_ble_eq_true rfl) dJ1_indexOf_4cfef_33 (fun H locs I => ?_)
      cases hf
      exact k_ri X I hr dJ1_indexOf_4cfef_36
    · rw [if_neg c16] at hf
      refine lv_iconst (v := (-1)) hx hb dJ1_indexOf_4cfef_27 (by decide) ?_
      cases hf
      exact k_ri X I hr dJ1_indexOf_4cfef_28
  · rw [if_pos c5] at hf
    refine lv_iconst (v := (-1)) hx hb dJ1_indexOf_4cfef_7 (by decide) ?_
    cases hf
    exact k_ri X I hr dJ1_indexOf_4cfef_8
def f_J1_indexOf_4cfef (o0 : Nat) (x1 : Int32) (x2 : Int32) (x3 : Int32) (h : AH) : Option (Int32 × AH) := f_J1_indexOf_4cfef_0 o0 x1 x2 x3 h
end
theorem c_J1_indexOf_4cfef (l : Launch) (g : GG) (o0 : Nat) (x1 : Int32) (x2 : Int32) (x3 : Int32) {h : AH} {res : Int32 × AH} (hf : f_J1_indexOf_4cfef o0 x1 x2 x3 h = some res) : CM l g yJ1_indexOf_4cfef cJ1_indexOf_4cfef 4 (some (.int)) 2 128 0 0 [.ref (rfG g o0), .int x1, .int x2, .int x3] h (some (.int res.1)) res.2 :=
  k_bodyF (by decide +kernel) (Nat.le_of_ble_eq_true rfl) (fun p e s m below meth c R ls hR hr X I hl => w_J1_indexOf_4cfef_0 X ⟨Nat.le_of_eq hR.1.symm, Nat.le_of_eq hR.2.1.symm⟩ hr o0 x1 x2 x3 h ls s.heap [] hf I (lv_sub hl [0, 1, 2, 3] rfl))
/-! TrapCorner$History.write(IIII)V -/
theorem dX1_write_0 : decode cX1_write 0 = .ok (.aload_n 0, 1) := by decide +kernel
theorem dX1_write_1 : decode cX1_write 1 = .ok (.getfield 17, 3) := by decide +kernel
theorem dX1_write_4 : decode cX1_write 4 = .ok (.iload_n 1, 1) := by decide +kernel
theorem dX1_write_5 : decode cX1_write 5 = .ok (.invokestatic 50, 3) := by decide +kernel
theorem dX1_write_8 : decode cX1_write 8 = .ok (.iload_n 2, 1) := by decide +kernel
theorem dX1_write_9 : decode cX1_write 9 = .ok (.iload_n 3, 1) := by decide +kernel
theorem dX1_write_10 : decode cX1_write 10 = .ok (.bipush 6, 2) := by decide +kernel
theorem dX1_write_12 : decode cX1_write 12 = .ok (.ishl, 1) := by decide +kernel
theorem dX1_write_13 : decode cX1_write 13 = .ok (.ior, 1) := by decide +kernel
theorem dX1_write_14 : decode cX1_write 14 = .ok (.iload 4, 2) := by decide +kernel
theorem dX1_write_16 : decode cX1_write 16 = .ok (.bipush 12, 2) := by decide +kernel
theorem dX1_write_18 : decode cX1_write 18 = .ok (.ishl, 1) := by decide +kernel
theorem dX1_write_19 : decode cX1_write 19 = .ok (.ior, 1) := by decide +kernel
theorem dX1_write_20 : decode cX1_write 20 = .ok (.iastore, 1) := by decide +kernel
theorem dX1_write_21 : decode cX1_write 21 = .ok (.return_, 1) := by decide +kernel
theorem sk_TrapCorner_History_50 : SK "TrapCorner$History" 50 yX1_place 1 := ⟨tw_815, tw_816, tw_9, ⟨by decide, by decide⟩, by decide +kernel⟩
section
variable {g : GG} {p : Program} {l : Launch} {e : Env} {R : Room} {s : State} {m : MethodId} {args : Array Value} {below : List Frame} {meth : Method} {c : Code} {n0 z0 : Nat}
def f_X1_write_0  (o0 : Nat) (x1 : Int32) (x2 : Int32) (x3 : Int32) (x4 : Int32) (h : AH) : Option (Unit × AH) :=
  (gR [1] h o0 3).bind fun v1 =>
  cN (f_X1_place x1 h) h fun v3 h4 =>
  (uI 0 h4 v1 v3 ((x2 ||| (x3 <<< (6 &&& 31))) ||| (x4 <<< (12 &&& 31)))).bind fun h7 =>
  some ((), h7)
set_option maxHeartbeats 1000000 in
theorem w_X1_write_0 (X : Cx g p s m args meth c cX1_write 5 "TrapCorner$History") (hR : 3 ≤ R.frames ∧ 192 ≤ R.locals) (hr : meth.sig.returnType = none) {res : Unit × AH} : ∀ (o0 : Nat) (x1 : Int32) (x2 : Int32) (x3 : Int32) (x4 : Int32) (h : AH) (ls : Array Slot) (H : Heap) (locs : List Loc), f_X1_write_0 o0 x1 x2 x3 x4 h = some res → Iv g s n0 z0 h H locs 0 0 → lv_has ls 5 [(0, .ref (rfG g o0)), (1, .int x1), (2, .int x2), (3, .int x3), (4, .int x4)] → W p l e R s m args below meth c H locs 0 0 (MQ below (QG g none res.2) args s 0 0 (AG g)) (F0 m 0 ls []) := by
  have hx := X.1
  have hb := X.2.1
  intro o0 x1 x2 x3 x4 h ls H locs hf I hl
  unfold f_X1_write_0 at hf
  refine lv_aload_n hx hb dX1_write_0 rfl (lv_at hl 0 rfl) ?_
  obtain ⟨v1, e2, hf⟩ := Option.bind_eq_some_iff.mp hf
  refine r_gR X I e2 lk_TrapCorner_History_17 dX1_write_1 ?_
  refine lv_iload_n hx hb dX1_write_4 rfl (lv_at hl 1 rfl) ?_
  obtain ⟨v3, h4, e5, z6, hf⟩ := cN_spec hf
  refine k_Si (As := [.int x1]) (rest := [.ref (rfG g v1)]) X I (c_X1_place l g x1 e5) z6 sk_TrapCorner_History_50 tw_817 ⟨Nat.le_trans (by decide) hR.1, Nat.le_trans (by decide) hR.2⟩ ⟨Nat.zero_le _, Nat.zero_le _⟩ rfl hl.1 rfl (Nat.le_of_ble_eq_true rfl) dX1_write_5 (fun H locs I => ?_)
  refine lv_iload_n hx hb dX1_write_8 rfl (lv_at hl 2 rfl) ?_
  refine lv_iload_n hx hb dX1_write_9 rfl (lv_at hl 3 rfl) ?_
  refine lv_bipush (v := 6) hx hb dX1_write_10 (by decide) ?_
  refine lv_ishl hx hb dX1_write_12 ?_
  refine lv_ior hx hb dX1_write_13 ?_
  refine lv_iload hx hb dX1_write_14 (lv_at hl 4 rfl) ?_
  refine lv_bipush (v := 12) hx hb dX1_write_16 (by decide) ?_
  refine lv_ishl hx hb dX1_write_18 ?_
  refine lv_ior hx hb dX1_write_19 ?_
  obtain ⟨h7, e8, hf⟩ := Option.bind_eq_some_iff.mp hf
  refine r_uI0 X I e8 dX1_write_20 (fun H locs I => ?_)
  cases hf
  exact k_rv X I hr dX1_write_21
def f_X1_write (o0 : Nat) (x1 : Int32) (x2 : Int32) (x3 : Int32) (x4 : Int32) (h : AH) : Option (Unit × AH) := f_X1_write_0 o0 x1 x2 x3 x4 h
end
theorem c_X1_write (l : Launch) (g : GG) (o0 : Nat) (x1 : Int32) (x2 : Int32) (x3 : Int32) (x4 : Int32) {h : AH} {res : Unit × AH} (hf : f_X1_write o0 x1 x2 x3 x4 h = some res) : CM l g yX1_write cX1_write 5 none 3 192 0 0 [.ref (rfG g o0), .int x1, .int x2, .int x3, .int x4] h none res.2 :=
  k_body (by decide) (Nat.le_of_ble_eq_true rfl) (fun p e s m below meth c R ls hR hr X I hl => w_X1_write_0 X ⟨Nat.le_of_eq hR.1.symm, Nat.le_of_eq hR.2.1.symm⟩ hr o0 x1 x2 x3 x4 h ls s.heap [] hf I (lv_sub hl [0, 1, 2, 3, 4] rfl))
/-! TrapCorner$History.takenOn(I)I -/
theorem dX1_takenOn_0 : decode cX1_takenOn 0 = .ok (.aload_n 0, 1) := by decide +kernel
theorem dX1_takenOn_1 : decode cX1_takenOn 1 = .ok (.getfield 17, 3) := by decide +kernel
theorem dX1_takenOn_4 : decode cX1_takenOn 4 = .ok (.iload_n 1, 1) := by decide +kernel
theorem dX1_takenOn_5 : decode cX1_takenOn 5 = .ok (.invokestatic 50, 3) := by decide +kernel
theorem dX1_takenOn_8 : decode cX1_takenOn 8 = .ok (.iaload, 1) := by decide +kernel
theorem dX1_takenOn_9 : decode cX1_takenOn 9 = .ok (.bipush 63, 2) := by decide +kernel
theorem dX1_takenOn_11 : decode cX1_takenOn 11 = .ok (.iand, 1) := by decide +kernel
theorem dX1_takenOn_12 : decode cX1_takenOn 12 = .ok (.ireturn, 1) := by decide +kernel
section
variable {g : GG} {p : Program} {l : Launch} {e : Env} {R : Room} {s : State} {m : MethodId} {args : Array Value} {below : List Frame} {meth : Method} {c : Code} {n0 z0 : Nat}
def f_X1_takenOn_0  (o0 : Nat) (x1 : Int32) (h : AH) : Option (Int32 × AH) :=
  (gR [1] h o0 3).bind fun v1 =>
  cN (f_X1_place x1 h) h fun v3 h4 =>
  (aI 0 h4 v1 v3).bind fun v7 =>
  some (v7 &&& 63, h4)
set_option maxHeartbeats 1000000 in
theorem w_X1_takenOn_0 (X : Cx g p s m args meth c cX1_takenOn 2 "TrapCorner$History") (hR : 3 ≤ R.frames ∧ 192 ≤ R.locals) (hr : meth.sig.returnType = (some (.int))) {res : Int32 × AH} : ∀ (o0 : Nat) (x1 : Int32) (h : AH) (ls : Array Slot) (H : Heap) (locs : List Loc), f_X1_takenOn_0 o0 x1 h = some res → Iv g s n0 z0 h H locs 0 0 → lv_has ls 2 [(0, .ref (rfG g o0)), (1, .int x1)] → W p l e R s m args below meth c H locs 0 0 (MQ below (QG g (some (.int res.1)) res.2) args s 0 0 (AG g)) (F0 m 0 ls []) := by
  have hx := X.1
  have hb := X.2.1
  intro o0 x1 h ls H locs hf I hl
  unfold f_X1_takenOn_0 at hf
  refine lv_aload_n hx hb dX1_takenOn_0 rfl (lv_at hl 0 rfl) ?_
  obtain ⟨v1, e2, hf⟩ := Option.bind_eq_some_iff.mp hf
  refine r_gR X I e2 lk_TrapCorner_History_17 dX1_takenOn_1 ?_
  refine lv_iload_n hx hb dX1_takenOn_4 rfl (lv_at hl 1 rfl) ?_
  obtain ⟨v3, h4, e5, z6, hf⟩ := cN_spec hf
  refine k_Si (As := [.int x1]) (rest := [.ref (rfG g v1)]) X I (c_X1_place l g x1 e5) z6 sk_TrapCorner_History_50 tw_817 ⟨Nat.le_trans (by decide) hR.1, Nat.le_trans (by decide) hR.2⟩ ⟨Nat.zero_le _, Nat.zero_le _⟩ rfl hl.1 rfl (Nat.le_of_ble_eq_true rfl) dX1_takenOn_5 (fun H locs I => ?_)
  obtain ⟨v7, e8, hf⟩ := Option.bind_eq_some_iff.mp hf
  refine r_aI0 X I e8 dX1_takenOn_8 ?_
  refine lv_bipush (v := 63) hx hb dX1_takenOn_9 (by decide) ?_
  refine lv_iand hx hb dX1_takenOn_11 ?_
  cases hf
  exact k_ri X I hr dX1_takenOn_12
def f_X1_takenOn (o0 : Nat) (x1 : Int32) (h : AH) : Option (Int32 × AH) := f_X1_takenOn_0 o0 x1 h
end
theorem c_X1_takenOn (l : Launch) (g : GG) (o0 : Nat) (x1 : Int32) {h : AH} {res : Int32 × AH} (hf : f_X1_takenOn o0 x1 h = some res) : CM l g yX1_takenOn cX1_takenOn 2 (some (.int)) 3 192 0 0 [.ref (rfG g o0), .int x1] h (some (.int res.1)) res.2 :=
  k_body (by decide) (Nat.le_of_ble_eq_true rfl) (fun p e s m below meth c R ls hR hr X I hl => w_X1_takenOn_0 X ⟨Nat.le_of_eq hR.1.symm, Nat.le_of_eq hR.2.1.symm⟩ hr o0 x1 h ls s.heap [] hf I (lv_sub hl [0, 1] rfl))
/-! TrapCorner$History.canesOn(I)I -/
theorem dX1_canesOn_0 : decode cX1_canesOn 0 = .ok (.aload_n 0, 1) := by decide +kernel
theorem dX1_canesOn_1 : decode cX1_canesOn 1 = .ok (.getfield 17, 3) := by decide +kernel
theorem dX1_canesOn_4 : decode cX1_canesOn 4 = .ok (.iload_n 1, 1) := by decide +kernel
theorem dX1_canesOn_5 : decode cX1_canesOn 5 = .ok (.invokestatic 50, 3) := by decide +kernel
theorem dX1_canesOn_8 : decode cX1_canesOn 8 = .ok (.iaload, 1) := by decide +kernel
theorem dX1_canesOn_9 : decode cX1_canesOn 9 = .ok (.bipush 6, 2) := by decide +kernel
theorem dX1_canesOn_11 : decode cX1_canesOn 11 = .ok (.ishr, 1) := by decide +kernel
theorem dX1_canesOn_12 : decode cX1_canesOn 12 = .ok (.bipush 63, 2) := by decide +kernel
theorem dX1_canesOn_14 : decode cX1_canesOn 14 = .ok (.iand, 1) := by decide +kernel
theorem dX1_canesOn_15 : decode cX1_canesOn 15 = .ok (.ireturn, 1) := by decide +kernel
section
variable {g : GG} {p : Program} {l : Launch} {e : Env} {R : Room} {s : State} {m : MethodId} {args : Array Value} {below : List Frame} {meth : Method} {c : Code} {n0 z0 : Nat}
def f_X1_canesOn_0  (o0 : Nat) (x1 : Int32) (h : AH) : Option (Int32 × AH) :=
  (gR [1] h o0 3).bind fun v1 =>
  cN (f_X1_place x1 h) h fun v3 h4 =>
  (aI 0 h4 v1 v3).bind fun v7 =>
  some ((v7 >>> (6 &&& 31)) &&& 63, h4)
set_option maxHeartbeats 1000000 in
theorem w_X1_canesOn_0 (X : Cx g p s m args meth c cX1_canesOn 2 "TrapCorner$History") (hR : 3 ≤ R.frames ∧ 192 ≤ R.locals) (hr : meth.sig.returnType = (some (.int))) {res : Int32 × AH} : ∀ (o0 : Nat) (x1 : Int32) (h : AH) (ls : Array Slot) (H : Heap) (locs : List Loc), f_X1_canesOn_0 o0 x1 h = some res → Iv g s n0 z0 h H locs 0 0 → lv_has ls 2 [(0, .ref (rfG g o0)), (1, .int x1)] → W p l e R s m args below meth c H locs 0 0 (MQ below (QG g (some (.int res.1)) res.2) args s 0 0 (AG g)) (F0 m 0 ls []) := by
  have hx := X.1
  have hb := X.2.1
  intro o0 x1 h ls H locs hf I hl
  unfold f_X1_canesOn_0 at hf
  refine lv_aload_n hx hb dX1_canesOn_0 rfl (lv_at hl 0 rfl) ?_
  obtain ⟨v1, e2, hf⟩ := Option.bind_eq_some_iff.mp hf
  refine r_gR X I e2 lk_TrapCorner_History_17 dX1_canesOn_1 ?_
  refine lv_iload_n hx hb dX1_canesOn_4 rfl (lv_at hl 1 rfl) ?_
  obtain ⟨v3, h4, e5, z6, hf⟩ := cN_spec hf
  refine k_Si (As := [.int x1]) (rest := [.ref (rfG g v1)]) X I (c_X1_place l g x1 e5) z6 sk_TrapCorner_History_50 tw_817 ⟨Nat.le_trans (by decide) hR.1, Nat.le_trans (by decide) hR.2⟩ ⟨Nat.zero_le _, Nat.zero_le _⟩ rfl hl.1 rfl (Nat.le_of_ble_eq_true rfl) dX1_canesOn_5 (fun H locs I => ?_)
  obtain ⟨v7, e8, hf⟩ := Option.bind_eq_some_iff.mp hf
  refine r_aI0 X I e8 dX1_canesOn_8 ?_
  refine lv_bipush (v := 6) hx hb dX1_canesOn_9 (by decide) ?_
  refine lv_ishr hx hb dX1_canesOn_11 ?_
  refine lv_bipush (v := 63) hx hb dX1_canesOn_12 (by decide) ?_
  refine lv_iand hx hb dX1_canesOn_14 ?_
  cases hf
  exact k_ri X I hr dX1_canesOn_15
def f_X1_canesOn (o0 : Nat) (x1 : Int32) (h : AH) : Option (Int32 × AH) := f_X1_canesOn_0 o0 x1 h
end
theorem c_X1_canesOn (l : Launch) (g : GG) (o0 : Nat) (x1 : Int32) {h : AH} {res : Int32 × AH} (hf : f_X1_canesOn o0 x1 h = some res) : CM l g yX1_canesOn cX1_canesOn 2 (some (.int)) 3 192 0 0 [.ref (rfG g o0), .int x1] h (some (.int res.1)) res.2 :=
  k_body (by decide) (Nat.le_of_ble_eq_true rfl) (fun p e s m below meth c R ls hR hr X I hl => w_X1_canesOn_0 X ⟨Nat.le_of_eq hR.1.symm, Nat.le_of_eq hR.2.1.symm⟩ hr o0 x1 h ls s.heap [] hf I (lv_sub hl [0, 1] rfl))
/-! TrapCorner$History.coinsOn(I)I -/
theorem dX1_coinsOn_0 : decode cX1_coinsOn 0 = .ok (.aload_n 0, 1) := by decide +kernel
theorem dX1_coinsOn_1 : decode cX1_coinsOn 1 = .ok (.getfield 17, 3) := by decide +kernel
theorem dX1_coinsOn_4 : decode cX1_coinsOn 4 = .ok (.iload_n 1, 1) := by decide +kernel
theorem dX1_coinsOn_5 : decode cX1_coinsOn 5 = .ok (.invokestatic 50, 3) := by decide +kernel
theorem dX1_coinsOn_8 : decode cX1_coinsOn 8 = .ok (.iaload, 1) := by decide +kernel
theorem dX1_coinsOn_9 : decode cX1_coinsOn 9 = .ok (.bipush 12, 2) := by decide +kernel
theorem dX1_coinsOn_11 : decode cX1_coinsOn 11 = .ok (.ishr, 1) := by decide +kernel
theorem dX1_coinsOn_12 : decode cX1_coinsOn 12 = .ok (.ireturn, 1) := by decide +kernel
section
variable {g : GG} {p : Program} {l : Launch} {e : Env} {R : Room} {s : State} {m : MethodId} {args : Array Value} {below : List Frame} {meth : Method} {c : Code} {n0 z0 : Nat}
def f_X1_coinsOn_0  (o0 : Nat) (x1 : Int32) (h : AH) : Option (Int32 × AH) :=
  (gR [1] h o0 3).bind fun v1 =>
  cN (f_X1_place x1 h) h fun v3 h4 =>
  (aI 0 h4 v1 v3).bind fun v7 =>
  some (v7 >>> (12 &&& 31), h4)
set_option maxHeartbeats 1000000 in
theorem w_X1_coinsOn_0 (X : Cx g p s m args meth c cX1_coinsOn 2 "TrapCorner$History") (hR : 3 ≤ R.frames ∧ 192 ≤ R.locals) (hr : meth.sig.returnType = (some (.int))) {res : Int32 × AH} : ∀ (o0 : Nat) (x1 : Int32) (h : AH) (ls : Array Slot) (H : Heap) (locs : List Loc), f_X1_coinsOn_0 o0 x1 h = some res → Iv g s n0 z0 h H locs 0 0 → lv_has ls 2 [(0, .ref (rfG g o0)), (1, .int x1)] → W p l e R s m args below meth c H locs 0 0 (MQ below (QG g (some (.int res.1)) res.2) args s 0 0 (AG g)) (F0 m 0 ls []) := by
  have hx := X.1
  have hb := X.2.1
  intro o0 x1 h ls H locs hf I hl
  unfold f_X1_coinsOn_0 at hf
  refine lv_aload_n hx hb dX1_coinsOn_0 rfl (lv_at hl 0 rfl) ?_
  obtain ⟨v1, e2, hf⟩ := Option.bind_eq_some_iff.mp hf
  refine r_gR X I e2 lk_TrapCorner_History_17 dX1_coinsOn_1 ?_
  refine lv_iload_n hx hb dX1_coinsOn_4 rfl (lv_at hl 1 rfl) ?_
  obtain ⟨v3, h4, e5, z6, hf⟩ := cN_spec hf
  refine k_Si (As := [.int x1]) (rest := [.ref (rfG g v1)]) X I (c_X1_place l g x1 e5) z6 sk_TrapCorner_History_50 tw_817 ⟨Nat.le_trans (by decide) hR.1, Nat.le_trans (by decide) hR.2⟩ ⟨Nat.zero_le _, Nat.zero_le _⟩ rfl hl.1 rfl (Nat.le_of_ble_eq_true rfl) dX1_coinsOn_5 (fun H locs I => ?_)
  obtain ⟨v7, e8, hf⟩ := Option.bind_eq_some_iff.mp hf
  refine r_aI0 X I e8 dX1_coinsOn_8 ?_
  refine lv_bipush (v := 12) hx hb dX1_coinsOn_9 (by decide) ?_
  refine lv_ishr hx hb dX1_coinsOn_11 ?_
  cases hf
  exact k_ri X I hr dX1_coinsOn_12
def f_X1_coinsOn (o0 : Nat) (x1 : Int32) (h : AH) : Option (Int32 × AH) := f_X1_coinsOn_0 o0 x1 h
end
theorem c_X1_coinsOn (l : Launch) (g : GG) (o0 : Nat) (x1 : Int32) {h : AH} {res : Int32 × AH} (hf : f_X1_coinsOn o0 x1 h = some res) : CM l g yX1_coinsOn cX1_coinsOn 2 (some (.int)) 3 192 0 0 [.ref (rfG g o0), .int x1] h (some (.int res.1)) res.2 :=
  k_body (by decide) (Nat.le_of_ble_eq_true rfl) (fun p e s m below meth c R ls hR hr X I hl => w_X1_coinsOn_0 X ⟨Nat.le_of_eq hR.1.symm, Nat.le_of_eq hR.2.1.symm⟩ hr o0 x1 h ls s.heap [] hf I (lv_sub hl [0, 1] rfl))
/-! TrapCorner$Pull.strength(IIIIII)I -/
theorem dX4_strength_0 : decode cX4_strength 0 = .ok (.aload_n 0, 1) := by decide +kernel
theorem dX4_strength_1 : decode cX4_strength 1 = .ok (.getfield 18, 3) := by decide +kernel
theorem dX4_strength_4 : decode cX4_strength 4 = .ok (.ifnonnull 18, 3) := by decide +kernel
theorem dX4_strength_7 : decode cX4_strength 7 = .ok (.iload_n 1, 1) := by decide +kernel
theorem dX4_strength_8 : decode cX4_strength 8 = .ok (.iconst 2, 1) := by decide +kernel
theorem dX4_strength_9 : decode cX4_strength 9 = .ok (.imul, 1) := by decide +kernel
theorem dX4_strength_10 : decode cX4_strength 10 = .ok (.iload_n 2, 1) := by decide +kernel
theorem dX4_strength_11 : decode cX4_strength 11 = .ok (.imul, 1) := by decide +kernel
theorem dX4_strength_12 : decode cX4_strength 12 = .ok (.iload 4, 2) := by decide +kernel
theorem dX4_strength_14 : decode cX4_strength 14 = .ok (.iadd, 1) := by decide +kernel
theorem dX4_strength_15 : decode cX4_strength 15 = .ok (.iload_n 3, 1) := by decide +kernel
theorem dX4_strength_16 : decode cX4_strength 16 = .ok (.isub, 1) := by decide +kernel
theorem dX4_strength_17 : decode cX4_strength 17 = .ok (.istore 7, 2) := by decide +kernel
theorem dX4_strength_19 : decode cX4_strength 19 = .ok (.goto 58, 3) := by decide +kernel
theorem dX4_strength_22 : decode cX4_strength 22 = .ok (.aload_n 0, 1) := by decide +kernel
theorem dX4_strength_23 : decode cX4_strength 23 = .ok (.getfield 9, 3) := by decide +kernel
theorem dX4_strength_26 : decode cX4_strength 26 = .ok (.iconst 0, 1) := by decide +kernel
theorem dX4_strength_27 : decode cX4_strength 27 = .ok (.iload_n 1, 1) := by decide +kernel
theorem dX4_strength_28 : decode cX4_strength 28 = .ok (.iastore, 1) := by decide +kernel
theorem dX4_strength_29 : decode cX4_strength 29 = .ok (.aload_n 0, 1) := by decide +kernel
theorem dX4_strength_30 : decode cX4_strength 30 = .ok (.getfield 9, 3) := by decide +kernel
theorem dX4_strength_33 : decode cX4_strength 33 = .ok (.iconst 1, 1) := by decide +kernel
theorem dX4_strength_34 : decode cX4_strength 34 = .ok (.iload_n 2, 1) := by decide +kernel
theorem dX4_strength_35 : decode cX4_strength 35 = .ok (.iastore, 1) := by decide +kernel
theorem dX4_strength_36 : decode cX4_strength 36 = .ok (.aload_n 0, 1) := by decide +kernel
theorem dX4_strength_37 : decode cX4_strength 37 = .ok (.getfield 9, 3) := by decide +kernel
theorem dX4_strength_40 : decode cX4_strength 40 = .ok (.iconst 2, 1) := by decide +kernel
theorem dX4_strength_41 : decode cX4_strength 41 = .ok (.iload_n 3, 1) := by decide +kernel
theorem dX4_strength_42 : decode cX4_strength 42 = .ok (.iastore, 1) := by decide +kernel
theorem dX4_strength_43 : decode cX4_strength 43 = .ok (.aload_n 0, 1) := by decide +kernel
theorem dX4_strength_44 : decode cX4_strength 44 = .ok (.getfield 9, 3) := by decide +kernel
theorem dX4_strength_47 : decode cX4_strength 47 = .ok (.iconst 3, 1) := by decide +kernel
theorem dX4_strength_48 : decode cX4_strength 48 = .ok (.iload 4, 2) := by decide +kernel
theorem dX4_strength_50 : decode cX4_strength 50 = .ok (.iastore, 1) := by decide +kernel
theorem dX4_strength_51 : decode cX4_strength 51 = .ok (.aload_n 0, 1) := by decide +kernel
theorem dX4_strength_52 : decode cX4_strength 52 = .ok (.getfield 9, 3) := by decide +kernel
theorem dX4_strength_55 : decode cX4_strength 55 = .ok (.iconst 4, 1) := by decide +kernel
theorem dX4_strength_56 : decode cX4_strength 56 = .ok (.iload 5, 2) := by decide +kernel
theorem dX4_strength_58 : decode cX4_strength 58 = .ok (.iastore, 1) := by decide +kernel
theorem dX4_strength_59 : decode cX4_strength 59 = .ok (.aload_n 0, 1) := by decide +kernel
theorem dX4_strength_60 : decode cX4_strength 60 = .ok (.getfield 9, 3) := by decide +kernel
theorem dX4_strength_63 : decode cX4_strength 63 = .ok (.iconst 5, 1) := by decide +kernel
theorem dX4_strength_64 : decode cX4_strength 64 = .ok (.iload 6, 2) := by decide +kernel
theorem dX4_strength_66 : decode cX4_strength 66 = .ok (.iastore, 1) := by decide +kernel
theorem dX4_strength_67 : decode cX4_strength 67 = .ok (.aload_n 0, 1) := by decide +kernel
theorem dX4_strength_68 : decode cX4_strength 68 = .ok (.aload_n 0, 1) := by decide +kernel
theorem dX4_strength_69 : decode cX4_strength 69 = .ok (.getfield 18, 3) := by decide +kernel
theorem dX4_strength_72 : decode cX4_strength 72 = .ok (.invokevirtual 21, 3) := by decide +kernel
theorem dX4_strength_75 : decode cX4_strength 75 = .ok (.istore 7, 2) := by decide +kernel
theorem dX4_strength_77 : decode cX4_strength 77 = .ok (.iconst 0, 1) := by decide +kernel
theorem dX4_strength_78 : decode cX4_strength 78 = .ok (.bipush 40, 2) := by decide +kernel
theorem dX4_strength_80 : decode cX4_strength 80 = .ok (.iload 7, 2) := by decide +kernel
theorem dX4_strength_82 : decode cX4_strength 82 = .ok (.invokestatic 25, 3) := by decide +kernel
theorem dX4_strength_85 : decode cX4_strength 85 = .ok (.invokestatic 31, 3) := by decide +kernel
theorem dX4_strength_88 : decode cX4_strength 88 = .ok (.ireturn, 1) := by decide +kernel
theorem sk_TrapCorner_Pull_25 : SK "TrapCorner$Pull" 25 yJ9_min_7cf53 2 := ⟨tw_936, tw_528, tw_17, ⟨by decide, by decide⟩, by decide +kernel⟩
theorem sk_TrapCorner_Pull_31 : SK "TrapCorner$Pull" 31 yJ9_max_7cf53 2 := ⟨tw_937, tw_525, tw_17, ⟨by decide, by decide⟩, by decide +kernel⟩
theorem lk_TrapCorner_Pull_18 : LK "TrapCorner$Pull" 18 [4] 0 := by
  intro ci hci
  have hci := List.mem_singleton.mp hci
  subst hci
  exact ⟨RX4, TX4, 4, "TrapCorner$Pull", ck_4, by decide, tw_280, Or.inl rfl⟩
theorem vk_TrapCorner_Pull_21 : VK "TrapCorner$Pull" 21 [4] yX4_worth 1 := ⟨tw_919, tw_921, tw_10, ⟨by decide, by decide⟩, by decide +kernel, fun ci hci => by
  have hci := List.mem_singleton.mp hci
  subst hci
  exact ⟨_, rfl, tp_27⟩⟩
section
variable {g : GG} {p : Program} {l : Launch} {e : Env} {R : Room} {s : State} {m : MethodId} {args : Array Value} {below : List Frame} {meth : Method} {c : Code} {n0 z0 : Nat}
def f_X4_strength_77  (x7 : Int32) (h : AH) : Option (Int32 × AH) :=
  cN (f_J9_min_7cf53 40 x7 h) h fun v1 h2 =>
  cN (f_J9_max_7cf53 0 v1 h2) h2 fun v5 h6 =>
  some (v5, h6)
set_option maxHeartbeats 1000000 in
theorem w_X4_strength_77 (X : Cx g p s m args meth c cX4_strength 8 "TrapCorner$Pull") (hR : 3 ≤ R.frames ∧ 192 ≤ R.locals) (hr : meth.sig.returnType = (some (.int))) {res : Int32 × AH} : ∀ (x7 : Int32) (h : AH) (ls : Array Slot) (H : Heap) (locs : List Loc), f_X4_strength_77 x7 h = some res → Iv g s n0 z0 h H locs 0 0 → lv_has ls 8 [(7, .int x7)] → W p l e R s m args below meth c H locs 0 0 (MQ below (QG g (some (.int res.1)) res.2) args s 0 0 (AG g)) (F0 m 77 ls []) := by
  have hx := X.1
  have hb := X.2.1
  intro x7 h ls H locs hf I hl
  unfold f_X4_strength_77 at hf
  refine lv_iconst (v := 0) hx hb dX4_strength_77 (by decide) ?_
  refine lv_bipush (v := 40) hx hb dX4_strength_78 (by decide) ?_
  refine lv_iload hx hb dX4_strength_80 (lv_at hl 0 rfl) ?_
  obtain ⟨v1, h2, e3, z4, hf⟩ := cN_spec hf
  refine k_Si (As := [.int 40, .int x7]) (rest := [.int 0]) X I (c_J9_min_7cf53 l g 40 x7 e3) z4 sk_TrapCorner_Pull_25 tw_529 ⟨Nat.le_trans (by decide) hR.1, Nat.le_trans (by decide) hR.2⟩ ⟨Nat.zero_le _, Nat.zero_le _⟩ rfl hl.1 rfl (Nat.le_of_ble_eq_true rfl) dX4_strength_82 (fun H locs I => ?_)
  obtain ⟨v5, h6, e7, z8, hf⟩ := cN_spec hf
  refine k_Si (As := [.int 0, .int v1]) (rest := []) X I (c_J9_max_7cf53 l g 0 v1 e7) z8 sk_TrapCorner_Pull_31 tw_526 ⟨Nat.le_trans (by decide) hR.1, Nat.le_trans (by decide) hR.2⟩ ⟨Nat.zero_le _, Nat.zero_le _⟩ rfl hl.1 rfl (Nat.le_of_ble_eq_true rfl) dX4_strength_85 (fun H locs I => ?_)
  cases hf
  exact k_ri X I hr dX4_strength_88
def f_X4_strength_0  (o0 : Nat) (x1 : Int32) (x2 : Int32) (x3 : Int32) (x4 : Int32) (x5 : Int32) (x6 : Int32) (h : AH) : Option (Int32 × AH) :=
  (gQ [4] h o0 0).bind fun v1 =>
  match v1 with
  | none =>
    f_X4_strength_77 ((((x1 * 2) * x2) + x4) - x3) h
  | some o3 =>
    (gR [4] h o0 1).bind fun v4 =>
    (uI 0 h v4 0 x1).bind fun h6 =>
    (gR [4] h6 o0 1).bind fun v8 =>
    (uI 0 h6 v8 1 x2).bind fun h10 =>
    (gR [4] h10 o0 1).bind fun v12 =>
    (uI 0 h10 v12 2 x3).bind fun h14 =>
    (gR [4] h14 o0 1).bind fun v16 =>
    (uI 0 h14 v16 3 x4).bind fun h18 =>
    (gR [4] h18 o0 1).bind fun v20 =>
    (uI 0 h18 v20 4 x5).bind fun h22 =>
    (gR [4] h22 o0 1).bind fun v24 =>
    (uI 0 h22 v24 5 x6).bind fun h26 =>
    (gR [4] h26 o0 0).bind fun v28 =>
    (isC [4] h26 o0).bind fun _ =>
    cN (f_X4_worth o0 v28 h26) h26 fun v30 h31 =>
    f_X4_strength_77 v30 h31
set_option maxHeartbeats 1000000 in
theorem w_X4_strength_0 (X : Cx g p s m args meth c cX4_strength 8 "TrapCorner$Pull") (hR : 3 ≤ R.frames ∧ 192 ≤ R.locals) (hr : meth.sig.returnType = (some (.int))) {res : Int32 × AH} : ∀ (o0 : Nat) (x1 : Int32) (x2 : Int32) (x3 : Int32) (x4 : Int32) (x5 : Int32) (x6 : Int32) (h : AH) (ls : Array Slot) (H : Heap) (locs : List Loc), f_X4_strength_0 o0 x1 x2 x3 x4 x5 x6 h = some res → Iv g s n0 z0 h H locs 0 0 → lv_has ls 8 [(0, .ref (rfG g o0)), (1, .int x1), (2, .int x2), (3, .int x3), (4, .int x4), (5, .int x5), (6, .int x6)] → W p l e R s m args below meth c H locs 0 0 (MQ below (QG g (some (.int res.1)) res.2) args s 0 0 (AG g)) (F0 m 0 ls []) := by
  have hx := X.1
  have hb := X.2.1
  intro o0 x1 x2 x3 x4 x5 x6 h ls H locs hf I hl
  unfold f_X4_strength_0 at hf
  refine lv_aload_n hx hb dX4_strength_0 rfl (lv_at hl 0 rfl) ?_
  obtain ⟨v1, e2, hf⟩ := Option.bind_eq_some_iff.mp hf
  refine r_gQ X I e2 lk_TrapCorner_Pull_18 dX4_strength_1 ?_
  cases v1 with
  | none =>
    dsimp only at hf
    refine lv_ifnonnullN hx hb dX4_strength_4 ?_
    refine lv_iload_n hx hb dX4_strength_7 rfl (lv_at hl 1 rfl) ?_
    refine lv_iconst (v := 2) hx hb dX4_strength_8 (by decide) ?_
    refine lv_imul hx hb dX4_strength_9 ?_
    refine lv_iload_n hx hb dX4_strength_10 rfl (lv_at hl 2 rfl) ?_
    refine lv_imul hx hb dX4_strength_11 ?_
    refine lv_iload hx hb dX4_strength_12 (lv_at hl 4 rfl) ?_
    refine lv_iadd hx hb dX4_strength_14 ?_
    refine lv_iload_n hx hb dX4_strength_15 rfl (lv_at hl 3 rfl) ?_
    refine lv_isub hx hb dX4_strength_16 ?_
    refine lv_istore (lv' := [(7, .int ((((x1 * 2) * x2) + x4) - x3)), (0, .ref (rfG g o0)), (1, .int x1), (2, .int x2), (3, .int x3), (4, .int x4), (5, .int x5), (6, .int x6)]) hx hb dX4_strength_17 hl (by decide) rfl (fun ls hl => ?_)
    refine lv_goto (tgt := 77) hx hb dX4_strength_19 (by decide) ?_
    exact w_X4_strength_77 X hR hr  ((((x1 * 2) * x2) + x4) - x3) h ls H locs hf I (lv_sub hl [0] rfl)
  | some o3 =>
    dsimp only at hf
    refine lv_ifnonnull (tgt := 22) hx hb dX4_strength_4 (by decide) ?_
    refine lv_aload_n hx hb dX4_strength_22 rfl (lv_at hl 0 rfl) ?_
    obtain ⟨v4, e5, hf⟩ := Option.bind_eq_some_iff.mp hf
    refine r_gR X I e5 lk_TrapCorner_Pull_9 dX4_strength_23 ?_
    refine lv_iconst (v := 0) hx hb dX4_strength_26 (by decide) ?_
    refine lv_iload_n hx hb dX4_strength_27 rfl (lv_at hl 1 rfl) ?_
    obtain ⟨h6, e7, hf⟩ := Option.bind_eq_some_iff.mp hf
    refine r_uI0 X I e7 dX4_strength_28 (fun H locs I => ?_)
    refine lv_aload_n hx hb dX4_strength_29 rfl (lv_at hl 0 rfl) ?_
    obtain ⟨v8, e9, hf⟩ := Option.bind_eq_some_iff.mp hf
    refine r_gR X I e9 lk_TrapCorner_Pull_9 dX4_strength_30 ?_
    refine lv_iconst (v := 1) hx hb dX4_strength_33 (by decide) ?_
    refine lv_iload_n hx hb dX4_strength_34 rfl (lv_at hl 2 rfl) ?_
    obtain ⟨h10, e11, hf⟩ := Option.bind_eq_some_iff.mp hf
    refine r_uI0 X I e11 dX4_strength_35 (fun H locs I => ?_)
    refine lv_aload_n hx hb dX4_strength_36 rfl (lv_at hl 0 rfl) ?_
    obtain ⟨v12, e13, hf⟩ := Option.bind_eq_some_iff.mp hf
    refine r_gR X I e13 lk_TrapCorner_Pull_9 dX4_strength_37 ?_
    refine lv_iconst (v := 2) hx hb dX4_strength_40 (by decide) ?_
    refine lv_iload_n hx hb dX4_strength_41 rfl (lv_at hl 3 rfl) ?_
    obtain ⟨h14, e15, hf⟩ := Option.bind_eq_some_iff.mp hf
    refine r_uI0 X I e15 dX4_strength_42 (fun H locs I => ?_)
    refine lv_aload_n hx hb dX4_strength_43 rfl (lv_at hl 0 rfl) ?_
    obtain ⟨v16, e17, hf⟩ := Option.bind_eq_some_iff.mp hf
    refine r_gR X I e17 lk_TrapCorner_Pull_9 dX4_strength_44 ?_
    refine lv_iconst (v := 3) hx hb dX4_strength_47 (by decide) ?_
    refine lv_iload hx hb dX4_strength_48 (lv_at hl 4 rfl) ?_
    obtain ⟨h18, e19, hf⟩ := Option.bind_eq_some_iff.mp hf
    refine r_uI0 X I e19 dX4_strength_50 (fun H locs I => ?_)
    refine lv_aload_n hx hb dX4_strength_51 rfl (lv_at hl 0 rfl) ?_
    obtain ⟨v20, e21, hf⟩ := Option.bind_eq_some_iff.mp hf
    refine r_gR X I e21 lk_TrapCorner_Pull_9 dX4_strength_52 ?_
    refine lv_iconst (v := 4) hx hb dX4_strength_55 (by decide) ?_
    refine lv_iload hx hb dX4_strength_56 (lv_at hl 5 rfl) ?_
    obtain ⟨h22, e23, hf⟩ := Option.bind_eq_some_iff.mp hf
    refine r_uI0 X I e23 dX4_strength_58 (fun H locs I => ?_)
    refine lv_aload_n hx hb dX4_strength_59 rfl (lv_at hl 0 rfl) ?_
    obtain ⟨v24, e25, hf⟩ := Option.bind_eq_some_iff.mp hf
    refine r_gR X I e25 lk_TrapCorner_Pull_9 dX4_strength_60 ?_
    refine lv_iconst (v := 5) hx hb dX4_strength_63 (by decide) ?_
    refine lv_iload hx hb dX4_strength_64 (lv_at hl 6 rfl) ?_
    obtain ⟨h26, e27, hf⟩ := Option.bind_eq_some_iff.mp hf
    refine r_uI0 X I e27 dX4_strength_66 (fun H locs I => ?_)
    refine lv_aload_n hx hb dX4_strength_67 rfl (lv_at hl 0 rfl) ?_
    refine lv_aload_n hx hb dX4_strength_68 rfl (lv_at hl 0 rfl) ?_
    obtain ⟨v28, e29, hf⟩ := Option.bind_eq_some_iff.mp hf
    refine r_gR X I e29 lk_TrapCorner_Pull_18 dX4_strength_69 ?_
    obtain ⟨_, g34, hf⟩ := Option.bind_eq_some_iff.mp hf
    obtain ⟨v30, h31, e32, z33, hf⟩ := cN_spec hf
    refine k_Vi (As := [.ref (rfG g v28)]) (rest := []) X I (c_X4_worth l g o0 v28 e32) z33 g34 vk_TrapCorner_Pull_21 tw_922 ⟨Nat.le_trans (by decide) hR.1, Nat.le_trans (by decide) hR.2⟩ ⟨Nat.zero_le _, Nat.zero_le _⟩ rfl hl.1 rfl (Nat.le_of_ble_eq_true rfl) dX4_strength_72 (fun H locs I => ?_)
    refine lv_istore (lv' := [(7, .int v30), (0, .ref (rfG g o0)), (1, .int x1), (2, .int x2), (3, .int x3), (4, .int x4), (5, .int x5), (6, .int x6)]) hx hb dX4_strength_75 hl (by decide) rfl (fun ls hl => ?_)
    exact w_X4_strength_77 X hR hr  v30 h31 ls H locs hf I (lv_sub hl [0] rfl)
def f_X4_strength (o0 : Nat) (x1 : Int32) (x2 : Int32) (x3 : Int32) (x4 : Int32) (x5 : Int32) (x6 : Int32) (h : AH) : Option (Int32 × AH) := f_X4_strength_0 o0 x1 x2 x3 x4 x5 x6 h
end
theorem c_X4_strength (l : Launch) (g : GG) (o0 : Nat) (x1 : Int32) (x2 : Int32) (x3 : Int32) (x4 : Int32) (x5 : Int32) (x6 : Int32) {h : AH} {res : Int32 × AH} (hf : f_X4_strength o0 x1 x2 x3 x4 x5 x6 h = some res) : CM l g yX4_strength cX4_strength 8 (some (.int)) 3 192 0 0 [.ref (rfG g o0), .int x1, .int x2, .int x3, .int x4, .int x5, .int x6] h (some (.int res.1)) res.2 :=
  k_body (by decide) (Nat.le_of_ble_eq_true rfl) (fun p e s m below meth c R ls hR hr X I hl => w_X4_strength_0 X ⟨Nat.le_of_eq hR.1.symm, Nat.le_of_eq hR.2.1.symm⟩ hr o0 x1 x2 x3 x4 x5 x6 h ls s.heap [] hf I (lv_sub hl [0, 1, 2, 3, 4, 5, 6] rfl))
/-! TrapCorner$Round.meets(LTrapCorner$State;II)I -/
theorem dX6_meets_0 : decode cX6_meets 0 = .ok (.aload_n 0, 1) := by decide +kernel
theorem dX6_meets_1 : decode cX6_meets 1 = .ok (.getfield 39, 3) := by decide +kernel
theorem dX6_meets_4 : decode cX6_meets 4 = .ok (.iload_n 3, 1) := by decide +kernel
theorem dX6_meets_5 : decode cX6_meets 5 = .ok (.ishr, 1) := by decide +kernel
theorem dX6_meets_6 : decode cX6_meets 6 = .ok (.iconst 1, 1) := by decide +kernel
theorem dX6_meets_7 : decode cX6_meets 7 = .ok (.iand, 1) := by decide +kernel
theorem dX6_meets_8 : decode cX6_meets 8 = .ok (.iconst 1, 1) := by decide +kernel
theorem dX6_meets_9 : decode cX6_meets 9 = .ok (.if_icmp .eq 21, 3) := by decide +kernel
theorem dX6_meets_12 : decode cX6_meets 12 = .ok (.aload_n 1, 1) := by decide +kernel
theorem dX6_meets_13 : decode cX6_meets 13 = .ok (.getfield 67, 3) := by decide +kernel
theorem dX6_meets_16 : decode cX6_meets 16 = .ok (.iload_n 3, 1) := by decide +kernel
theorem dX6_meets_17 : decode cX6_meets 17 = .ok (.iaload, 1) := by decide +kernel
theorem dX6_meets_18 : decode cX6_meets 18 = .ok (.ifCond .eq 12, 3) := by decide +kernel
theorem dX6_meets_21 : decode cX6_meets 21 = .ok (.aload_n 1, 1) := by decide +kernel
theorem dX6_meets_22 : decode cX6_meets 22 = .ok (.getfield 70, 3) := by decide +kernel
theorem dX6_meets_25 : decode cX6_meets 25 = .ok (.iload_n 3, 1) := by decide +kernel
theorem dX6_meets_26 : decode cX6_meets 26 = .ok (.iaload, 1) := by decide +kernel
theorem dX6_meets_27 : decode cX6_meets 27 = .ok (.ifCond .ne 5, 3) := by decide +kernel
theorem dX6_meets_30 : decode cX6_meets 30 = .ok (.iconst 0, 1) := by decide +kernel
theorem dX6_meets_31 : decode cX6_meets 31 = .ok (.ireturn, 1) := by decide +kernel
theorem dX6_meets_32 : decode cX6_meets 32 = .ok (.aload_n 1, 1) := by decide +kernel
theorem dX6_meets_33 : decode cX6_meets 33 = .ok (.getfield 70, 3) := by decide +kernel
theorem dX6_meets_36 : decode cX6_meets 36 = .ok (.iload_n 3, 1) := by decide +kernel
theorem dX6_meets_37 : decode cX6_meets 37 = .ok (.iaload, 1) := by decide +kernel
theorem dX6_meets_38 : decode cX6_meets 38 = .ok (.aload_n 0, 1) := by decide +kernel
theorem dX6_meets_39 : decode cX6_meets 39 = .ok (.getfield 18, 3) := by decide +kernel
theorem dX6_meets_42 : decode cX6_meets 42 = .ok (.getfield 73, 3) := by decide +kernel
theorem dX6_meets_45 : decode cX6_meets 45 = .ok (.iload_n 2, 1) := by decide +kernel
theorem dX6_meets_46 : decode cX6_meets 46 = .ok (.iaload, 1) := by decide +kernel
theorem dX6_meets_47 : decode cX6_meets 47 = .ok (.if_icmp .ne 7, 3) := by decide +kernel
theorem dX6_meets_50 : decode cX6_meets 50 = .ok (.iconst 1, 1) := by decide +kernel
theorem dX6_meets_51 : decode cX6_meets 51 = .ok (.goto 4, 3) := by decide +kernel
theorem dX6_meets_54 : decode cX6_meets 54 = .ok (.iconst 0, 1) := by decide +kernel
theorem dX6_meets_55 : decode cX6_meets 55 = .ok (.istore 4, 2) := by decide +kernel
theorem dX6_meets_57 : decode cX6_meets 57 = .ok (.iload_n 2, 1) := by decide +kernel
theorem dX6_meets_58 : decode cX6_meets 58 = .ok (.iconst 5, 1) := by decide +kernel
theorem dX6_meets_59 : decode cX6_meets 59 = .ok (.imul, 1) := by decide +kernel
theorem dX6_meets_60 : decode cX6_meets 60 = .ok (.iload_n 3, 1) := by decide +kernel
theorem dX6_meets_61 : decode cX6_meets 61 = .ok (.iadd, 1) := by decide +kernel
theorem dX6_meets_62 : decode cX6_meets 62 = .ok (.iconst 2, 1) := by decide +kernel
theorem dX6_meets_63 : decode cX6_meets 63 = .ok (.imul, 1) := by decide +kernel
theorem dX6_meets_64 : decode cX6_meets 64 = .ok (.iload 4, 2) := by decide +kernel
theorem dX6_meets_66 : decode cX6_meets 66 = .ok (.iadd, 1) := by decide +kernel
theorem dX6_meets_67 : decode cX6_meets 67 = .ok (.istore 5, 2) := by decide +kernel
theorem dX6_meets_69 : decode cX6_meets 69 = .ok (.aload_n 0, 1) := by decide +kernel
theorem dX6_meets_70 : decode cX6_meets 70 = .ok (.getfield 15, 3) := by decide +kernel
theorem dX6_meets_73 : decode cX6_meets 73 = .ok (.iload 5, 2) := by decide +kernel
theorem dX6_meets_75 : decode cX6_meets 75 = .ok (.iaload, 1) := by decide +kernel
theorem dX6_meets_76 : decode cX6_meets 76 = .ok (.ifCond .ne 69, 3) := by decide +kernel
theorem dX6_meets_79 : decode cX6_meets 79 = .ok (.aload_n 0, 1) := by decide +kernel
theorem dX6_meets_80 : decode cX6_meets 80 = .ok (.getfield 22, 3) := by decide +kernel
theorem dX6_meets_83 : decode cX6_meets 83 = .ok (.iload 4, 2) := by decide +kernel
theorem dX6_meets_85 : decode cX6_meets 85 = .ok (.aload_n 0, 1) := by decide +kernel
theorem dX6_meets_86 : decode cX6_meets 86 = .ok (.getfield 18, 3) := by decide +kernel
theorem dX6_meets_89 : decode cX6_meets 89 = .ok (.getfield 76, 3) := by decide +kernel
theorem dX6_meets_92 : decode cX6_meets 92 = .ok (.iload_n 2, 1) := by decide +kernel
theorem dX6_meets_93 : decode cX6_meets 93 = .ok (.iaload, 1) := by decide +kernel
theorem dX6_meets_94 : decode cX6_meets 94 = .ok (.aload_n 1, 1) := by decide +kernel
theorem dX6_meets_95 : decode cX6_meets 95 = .ok (.getfield 79, 3) := by decide +kernel
theorem dX6_meets_98 : decode cX6_meets 98 = .ok (.iload_n 2, 1) := by decide +kernel
theorem dX6_meets_99 : decode cX6_meets 99 = .ok (.iaload, 1) := by decide +kernel
theorem dX6_meets_100 : decode cX6_meets 100 = .ok (.aload_n 1, 1) := by decide +kernel
theorem dX6_meets_101 : decode cX6_meets 101 = .ok (.getfield 67, 3) := by decide +kernel
theorem dX6_meets_104 : decode cX6_meets 104 = .ok (.iload_n 3, 1) := by decide +kernel
theorem dX6_meets_105 : decode cX6_meets 105 = .ok (.iaload, 1) := by decide +kernel
theorem dX6_meets_106 : decode cX6_meets 106 = .ok (.aload_n 1, 1) := by decide +kernel
theorem dX6_meets_107 : decode cX6_meets 107 = .ok (.getfield 82, 3) := by decide +kernel
theorem dX6_meets_110 : decode cX6_meets 110 = .ok (.iload_n 2, 1) := by decide +kernel
theorem dX6_meets_111 : decode cX6_meets 111 = .ok (.iaload, 1) := by decide +kernel
theorem dX6_meets_112 : decode cX6_meets 112 = .ok (.aload_n 1, 1) := by decide +kernel
theorem dX6_meets_113 : decode cX6_meets 113 = .ok (.getfield 85, 3) := by decide +kernel
theorem dX6_meets_116 : decode cX6_meets 116 = .ok (.invokevirtual 88, 3) := by decide +kernel
theorem dX6_meets_119 : decode cX6_meets 119 = .ok (.istore 6, 2) := by decide +kernel
theorem dX6_meets_121 : decode cX6_meets 121 = .ok (.aload_n 0, 1) := by decide +kernel
theorem dX6_meets_122 : decode cX6_meets 122 = .ok (.getfield 15, 3) := by decide +kernel
theorem dX6_meets_125 : decode cX6_meets 125 = .ok (.iload 5, 2) := by decide +kernel
theorem dX6_meets_127 : decode cX6_meets 127 = .ok (.iload 6, 2) := by decide +kernel
theorem dX6_meets_129 : decode cX6_meets 129 = .ok (.aload_n 0, 1) := by decide +kernel
theorem dX6_meets_130 : decode cX6_meets 130 = .ok (.getfield 18, 3) := by decide +kernel
theorem dX6_meets_133 : decode cX6_meets 133 = .ok (.getfield 94, 3) := by decide +kernel
theorem dX6_meets_136 : decode cX6_meets 136 = .ok (.if_icmp .lt 7, 3) := by decide +kernel
theorem dX6_meets_139 : decode cX6_meets 139 = .ok (.iconst 2, 1) := by decide +kernel
theorem dX6_meets_140 : decode cX6_meets 140 = .ok (.goto 4, 3) := by decide +kernel
theorem dX6_meets_143 : decode cX6_meets 143 = .ok (.iconst 1, 1) := by decide +kernel
theorem dX6_meets_144 : decode cX6_meets 144 = .ok (.iastore, 1) := by decide +kernel
theorem dX6_meets_145 : decode cX6_meets 145 = .ok (.aload_n 0, 1) := by decide +kernel
theorem dX6_meets_146 : decode cX6_meets 146 = .ok (.getfield 15, 3) := by decide +kernel
theorem dX6_meets_149 : decode cX6_meets 149 = .ok (.iload 5, 2) := by decide +kernel
theorem dX6_meets_151 : decode cX6_meets 151 = .ok (.iaload, 1) := by decide +kernel
theorem dX6_meets_152 : decode cX6_meets 152 = .ok (.iconst 1, 1) := by decide +kernel
theorem dX6_meets_153 : decode cX6_meets 153 = .ok (.if_icmp .ne 5, 3) := by decide +kernel
theorem dX6_meets_156 : decode cX6_meets 156 = .ok (.iconst 0, 1) := by decide +kernel
theorem dX6_meets_157 : decode cX6_meets 157 = .ok (.ireturn, 1) := by decide +kernel
theorem dX6_meets_158 : decode cX6_meets 158 = .ok (.aload_n 1, 1) := by decide +kernel
theorem dX6_meets_159 : decode cX6_meets 159 = .ok (.getfield 82, 3) := by decide +kernel
theorem dX6_meets_162 : decode cX6_meets 162 = .ok (.iload_n 2, 1) := by decide +kernel
theorem dX6_meets_163 : decode cX6_meets 163 = .ok (.iaload, 1) := by decide +kernel
theorem dX6_meets_164 : decode cX6_meets 164 = .ok (.aload_n 0, 1) := by decide +kernel
theorem dX6_meets_165 : decode cX6_meets 165 = .ok (.getfield 18, 3) := by decide +kernel
theorem dX6_meets_168 : decode cX6_meets 168 = .ok (.getfield 97, 3) := by decide +kernel
theorem dX6_meets_171 : decode cX6_meets 171 = .ok (.if_icmp .lt 15, 3) := by decide +kernel
theorem dX6_meets_174 : decode cX6_meets 174 = .ok (.aload_n 1, 1) := by decide +kernel
theorem dX6_meets_175 : decode cX6_meets 175 = .ok (.getfield 100, 3) := by decide +kernel
theorem dX6_meets_178 : decode cX6_meets 178 = .ok (.iload_n 3, 1) := by decide +kernel
theorem dX6_meets_179 : decode cX6_meets 179 = .ok (.if_icmp .eq 7, 3) := by decide +kernel
theorem dX6_meets_182 : decode cX6_meets 182 = .ok (.iconst 1, 1) := by decide +kernel
theorem dX6_meets_183 : decode cX6_meets 183 = .ok (.goto 4, 3) := by decide +kernel
theorem dX6_meets_186 : decode cX6_meets 186 = .ok (.iconst 2, 1) := by decide +kernel
theorem dX6_meets_187 : decode cX6_meets 187 = .ok (.ireturn, 1) := by decide +kernel
theorem lk_TrapCorner_Round_15 : LK "TrapCorner$Round" 15 [6] 6 := by
  intro ci hci
  have hci := List.mem_singleton.mp hci
  subst hci
  exact ⟨RX6, TX6, 7, "TrapCorner$Round", ck_6, by decide, tw_309, Or.inl rfl⟩
theorem lk_TrapCorner_Round_97 : LK "TrapCorner$Round" 97 [10] 4 := by
  intro ci hci
  have hci := List.mem_singleton.mp hci
  subst hci
  exact ⟨RX10, TX10, 13, "TrapCorner$Town", ck_10, by decide, tw_82, Or.inl rfl⟩
theorem lk_TrapCorner_Round_100 : LK "TrapCorner$Round" 100 [8] 5 := by
  intro ci hci
  have hci := List.mem_singleton.mp hci
  subst hci
  exact ⟨RX8, TX8, 8, "TrapCorner$State", ck_8, by decide, tw_216, Or.inl rfl⟩
theorem lk_TrapCorner_Round_22 : LK "TrapCorner$Round" 22 [6] 1 := by
  intro ci hci
  have hci := List.mem_singleton.mp hci
  subst hci
  exact ⟨RX6, TX6, 7, "TrapCorner$Round", ck_6, by decide, tw_301, Or.inl rfl⟩
theorem lk_TrapCorner_Round_76 : LK "TrapCorner$Round" 76 [10] 8 := by
  intro ci hci
  have hci := List.mem_singleton.mp hci
  subst hci
  exact ⟨RX10, TX10, 13, "TrapCorner$Town", ck_10, by decide, tw_92, Or.inl rfl⟩
theorem vk_TrapCorner_Round_88 : VK "TrapCorner$Round" 88 [4] yX4_strength 6 := ⟨tw_915, tw_916, tw_10, ⟨by decide, by decide⟩, by decide +kernel, fun ci hci => by
  have hci := List.mem_singleton.mp hci
  subst hci
  exact ⟨_, rfl, tw_917⟩⟩
theorem lk_TrapCorner_Round_94 : LK "TrapCorner$Round" 94 [10] 2 := by
  intro ci hci
  have hci := List.mem_singleton.mp hci
  subst hci
  exact ⟨RX10, TX10, 13, "TrapCorner$Town", ck_10, by decide, tw_76, Or.inl rfl⟩
theorem lk_TrapCorner_Round_70 : LK "TrapCorner$Round" 70 [8] 0 := by
  intro ci hci
  have hci := List.mem_singleton.mp hci
  subst hci
  exact ⟨RX8, TX8, 8, "TrapCorner$State", ck_8, by decide, tw_201, Or.inl rfl⟩
theorem lk_TrapCorner_Round_73 : LK "TrapCorner$Round" 73 [10] 7 := by
  intro ci hci
  have hci := List.mem_singleton.mp hci
  subst hci
  exact ⟨RX10, TX10, 13, "TrapCorner$Town", ck_10, by decide, tw_89, Or.inl rfl⟩
section
variable {g : GG} {p : Program} {l : Launch} {e : Env} {R : Room} {s : State} {m : MethodId} {args : Array Value} {below : List Frame} {meth : Method} {c : Code} {n0 z0 : Nat}
def f_X6_meets_145  (o0 : Nat) (o1 : Nat) (x2 : Int32) (x3 : Int32) (x5 : Int32) (h : AH) : Option (Int32 × AH) :=
  (gR [6] h o0 6).bind fun v1 =>
  (aI 0 h v1 x5).bind fun v3 =>
  if v3 = 1 then
    some (0, h)
  else
    (gR [8] h o1 3).bind fun v6 =>
    (aI 0 h v6 x2).bind fun v8 =>
    (gR [6] h o0 0).bind fun v10 =>
    (gI [10] h v10 4).bind fun v12 =>
    if v8 < v12 then
      some (2, h)
    else
      (gI [8] h o1 5).bind fun v15 =>
      if v15 = x3 then
        some (2, h)
      else
        some (1, h)
set_option maxHeartbeats 1000000 in
theorem w_X6_meets_145 (X : Cx g p s m args meth c cX6_meets 7 "TrapCorner$Round") (hR : 4 ≤ R.frames ∧ 256 ≤ R.locals) (hr : meth.sig.returnType = (some (.int))) {res : Int32 × AH} : ∀ (o0 : Nat) (o1 : Nat) (x2 : Int32) (x3 : Int32) (x5 : Int32) (h : AH) (ls : Array Slot) (H : Heap) (locs : List Loc), f_X6_meets_145 o0 o1 x2 x3 x5 h = some res → Iv g s n0 z0 h H locs 0 0 → lv_has ls 7 [(0, .ref (rfG g o0)), (1, .ref (rfG g o1)), (2, .int x2), (3, .int x3), (5, .int x5)] → W p l e R s m args below meth c H locs 0 0 (MQ below (QG g (some (.int res.1)) res.2) args s 0 0 (AG g)) (F0 m 145 ls []) := by
  have hx := X.1
  have hb := X.2.1
  intro o0 o1 x2 x3 x5 h ls H locs hf I hl
  unfold f_X6_meets_145 at hf
  refine lv_aload_n hx hb dX6_meets_145 rfl (lv_at hl 0 rfl) ?_
  obtain ⟨v1, e2, hf⟩ := Option.bind_eq_some_iff.mp hf
  refine r_gR X I e2 lk_TrapCorner_Round_15 dX6_meets_146 ?_
  refine lv_iload hx hb dX6_meets_149 (lv_at hl 4 rfl) ?_
  obtain ⟨v3, e4, hf⟩ := Option.bind_eq_some_iff.mp hf
  refine r_aI0 X I e4 dX6_meets_151 ?_
  refine lv_iconst (v := 1) hx hb dX6_meets_152 (by decide) ?_
  refine lv_icmp_ne (tgt := 158) hx hb dX6_meets_153 (by decide) (fun c5 => ?_) (fun c5 => ?_)
  · rw [if_neg c5] at hf
    refine lv_aload_n hx hb dX6_meets_158 rfl (lv_at hl 1 rfl) ?_
    obtain ⟨v6, e7, hf⟩ := Option.bind_eq_some_iff.mp hf
    refine r_gR X I e7 lk_TrapCorner_Round_82 dX6_meets_159 ?_
    refine lv_iload_n hx hb dX6_meets_162 rfl (lv_at hl 2 rfl) ?_
    obtain ⟨v8, e9, hf⟩ := Option.bind_eq_some_iff.mp hf
    refine r_aI0 X I e9 dX6_meets_163 ?_
    refine lv_aload_n hx hb dX6_meets_164 rfl (lv_at hl 0 rfl) ?_
    obtain ⟨v10, e11, hf⟩ := Option.bind_eq_some_iff.mp hf
    refine r_gR X I e11 lk_TrapCorner_Round_18 dX6_meets_165 ?_
    obtain ⟨v12, e13, hf⟩ := Option.bind_eq_some_iff.mp hf
    refine r_gI X I e13 lk_TrapCorner_Round_97 dX6_meets_168 ?_
    refine lv_icmp_lt (tgt := 186) hx hb dX6_meets_171 (by decide) (fun c14 => ?_) (fun c14 => ?_)
    · rw [if_pos c14] at hf
      refine lv_iconst (v := 2) hx hb dX6_meets_186 (by decide) ?_
      cases hf
      exact k_ri X I hr dX6_meets_187
    · rw [if_neg c14] at hf
      refine lv_aload_n hx hb dX6_meets_174 rfl (lv_at hl 1 rfl) ?_
      obtain ⟨v15, e16, hf⟩ := Option.bind_eq_some_iff.mp hf
      refine r_gI X I e16 lk_TrapCorner_Round_100 dX6_meets_175 ?_
      refine lv_iload_n hx hb dX6_meets_178 rfl (lv_at hl 3 rfl) ?_
      refine lv_icmp_eq (tgt := 186) hx hb dX6_meets_179 (by decide) (fun c17 => ?_) (fun c17 => ?_)
      · rw [if_pos c17] at hf
        refine lv_iconst (v := 2) hx hb dX6_meets_186 (by decide) ?_
        cases hf
        exact k_ri X I hr dX6_meets_187
      · rw [if_neg c17] at hf
        refine lv_iconst (v := 1) hx hb dX6_meets_182 (by decide) ?_
        refine lv_goto (tgt := 187) hx hb dX6_meets_183 (by decide) ?_
        cases hf
        exact k_ri X I hr dX6_meets_187
  · rw [if_pos c5] at hf
    refine lv_iconst (v := 0) hx hb dX6_meets_156 (by decide) ?_
    cases hf
    exact k_ri X I hr dX6_meets_157
def f_X6_meets_144  (o0 : Nat) (o1 : Nat) (x2 : Int32) (x3 : Int32) (x5 : Int32) (s0 : Nat) (s1 : Int32) (s2 : Int32) (h : AH) : Option (Int32 × AH) :=
  (uI 0 h s0 s1 s2).bind fun h1 =>
  f_X6_meets_145 o0 o1 x2 x3 x5 h1
set_option maxHeartbeats 1000000 in
theorem w_X6_meets_144 (X : Cx g p s m args meth c cX6_meets 7 "TrapCorner$Round") (hR : 4 ≤ R.frames ∧ 256 ≤ R.locals) (hr : meth.sig.returnType = (some (.int))) {res : Int32 × AH} : ∀ (o0 : Nat) (o1 : Nat) (x2 : Int32) (x3 : Int32) (x5 : Int32) (s0 : Nat) (s1 : Int32) (s2 : Int32) (h : AH) (ls : Array Slot) (H : Heap) (locs : List Loc), f_X6_meets_144 o0 o1 x2 x3 x5 s0 s1 s2 h = some res → Iv g s n0 z0 h H locs 0 0 → lv_has ls 7 [(0, .ref (rfG g o0)), (1, .ref (rfG g o1)), (2, .int x2), (3, .int x3), (5, .int x5)] → W p l e R s m args below meth c H locs 0 0 (MQ below (QG g (some (.int res.1)) res.2) args s 0 0 (AG g)) (F0 m 144 ls [.int s2, .int s1, .ref (rfG g s0)]) := by
  have hx := X.1
  have hb := X.2.1
  intro o0 o1 x2 x3 x5 s0 s1 s2 h ls H locs hf I hl
  unfold f_X6_meets_144 at hf
  obtain ⟨h1, e2, hf⟩ := Option.bind_eq_some_iff.mp hf
  refine r_uI0 X I e2 dX6_meets_144 (fun H locs I => ?_)
  exact w_X6_meets_145 X hR hr  o0 o1 x2 x3 x5 h1 ls H locs hf I (lv_sub hl [0, 1, 2, 3, 4] rfl)
def f_X6_meets_55  (o0 : Nat) (o1 : Nat) (x2 : Int32) (x3 : Int32) (s0 : Int32) (h : AH) : Option (Int32 × AH) :=
  (gR [6] h o0 6).bind fun v1 =>
  (aI 0 h v1 ((((x2 * 5) + x3) * 2) + s0)).bind fun v3 =>
  if v3 = 0 then
    (gR [6] h o0 1).bind fun v6 =>
    (gR [6] h o0 0).bind fun v8 =>
    (gR [10] h v8 8).bind fun v10 =>
    (aI 0 h v10 x2).bind fun v12 =>
    (gR [8] h o1 2).bind fun v14 =>
    (aI 0 h v14 x2).bind fun v16 =>
    (gR [8] h o1 1).bind fun v18 =>
    (aI 0 h v18 x3).bind fun v20 =>
    (gR [8] h o1 3).bind fun v22 =>
    (aI 0 h v22 x2).bind fun v24 =>
    (gI [8] h o1 7).bind fun v26 =>
    (isC [4] h v6).bind fun _ =>
    cN (f_X4_strength v6 s0 v12 v16 v20 v24 v26 h) h fun v28 h29 =>
    (gR [6] h29 o0 6).bind fun v33 =>
    (gR [6] h29 o0 0).bind fun v35 =>
    (gI [10] h29 v35 2).bind fun v37 =>
    if v28 < v37 then
      f_X6_meets_144 o0 o1 x2 x3 ((((x2 * 5) + x3) * 2) + s0) v33 ((((x2 * 5) + x3) * 2) + s0) 1 h29
    else
      f_X6_meets_144 o0 o1 x2 x3 ((((x2 * 5) + x3) * 2) + s0) v33 ((((x2 * 5) + x3) * 2) + s0) 2 h29
  else
    f_X6_meets_145 o0 o1 x2 x3 ((((x2 * 5) + x3) * 2) + s0) h
set_option maxHeartbeats 1000000 in
theorem w_X6_meets_55 (X : Cx g p s m args meth c cX6_meets 7 "TrapCorner$Round") (hR : 4 ≤ R.frames ∧ 256 ≤ R.locals) (hr : meth.sig.returnType = (some (.int))) {res : Int32 × AH} : ∀ (o0 : Nat) (o1 : Nat) (x2 : Int32) (x3 : Int32) (s0 : Int32) (h : AH) (ls : Array Slot) (H : Heap) (locs : List Loc), f_X6_meets_55 o0 o1 x2 x3 s0 h = some res → Iv g s n0 z0 h H locs 0 0 → lv_has ls 7 [(0, .ref (rfG g o0)), (1, .ref (rfG g o1)), (2, .int x2), (3, .int x3)] → W p l e R s m args below meth c H locs 0 0 (MQ below (QG g (some (.int res.1)) res.2) args s 0 0 (AG g)) (F0 m 55 ls [.int s0]) := by
  have hx := X.1
  have hb := X.2.1
  intro o0 o1 x2 x3 s0 h ls H locs hf I hl
  unfold f_X6_meets_55 at hf
  refine lv_istore (lv' := [(4, .int s0), (0, .ref (rfG g o0)), (1, .ref (rfG g o1)), (2, .int x2), (3, .int x3)]) hx hb dX6_meets_55 hl (by decide) rfl (fun ls hl => ?_)
  refine lv_iload_n hx hb dX6_meets_57 rfl (lv_at hl 3 rfl) ?_
  refine lv_iconst (v := 5) hx hb dX6_meets_58 (by decide) ?_
  refine lv_imul hx hb dX6_meets_59 ?_
  refine lv_iload_n hx hb dX6_meets_60 rfl (lv_at hl 4 rfl) ?_
  refine lv_iadd hx hb dX6_meets_61 ?_
  refine lv_iconst (v := 2) hx hb dX6_meets_62 (by decide) ?_
  refine lv_imul hx hb dX6_meets_63 ?_
  refine lv_iload hx hb dX6_meets_64 (lv_at hl 0 rfl) ?_
  refine lv_iadd hx hb dX6_meets_66 ?_
  refine lv_istore (lv' := [(5, .int ((((x2 * 5) + x3) * 2) + s0)), (4, .int s0), (0, .ref (rfG g o0)), (1, .ref (rfG g o1)), (2, .int x2), (3, .int x3)]) hx hb dX6_meets_67 hl (by decide) rfl (fun ls hl => ?_)
  refine lv_aload_n hx hb dX6_meets_69 rfl (lv_at hl 2 rfl) ?_
  obtain ⟨v1, e2, hf⟩ := Option.bind_eq_some_iff.mp hf
  refine r_gR X I e2 lk_TrapCorner_Round_15 dX6_meets_70 ?_
  refine lv_iload hx hb dX6_meets_73 (lv_at hl 0 rfl) ?_
  obtain ⟨v3, e4, hf⟩ := Option.bind_eq_some_iff.mp hf
  refine r_aI0 X I e4 dX6_meets_75 ?_
  refine lv_if_ne (tgt := 145) hx hb dX6_meets_76 (by decide) (fun c5 => ?_) (fun c5 => ?_)
  · rw [if_neg c5] at hf
    exact w_X6_meets_145 X hR hr  o0 o1 x2 x3 ((((x2 * 5) + x3) * 2) + s0) h ls H locs hf I (lv_sub hl [2, 3, 4, 5, 0] rfl)
  · rw [if_pos c5] at hf
    refine lv_aload_n hx hb dX6_meets_79 rfl (lv_at hl 2 rfl) ?_
    obtain ⟨v6, e7, hf⟩ := Option.bind_eq_some_iff.mp hf
    refine r_gR X I e7 lk_TrapCorner_Round_22 dX6_meets_80 ?_
    refine lv_iload hx hb dX6_meets_83 (lv_at hl 1 rfl) ?_
    refine lv_aload_n hx hb dX6_meets_85 rfl (lv_at hl 2 rfl) ?_
    obtain ⟨v8, e9, hf⟩ := Option.bind_eq_some_iff.mp hf
    refine r_gR X I e9 lk_TrapCorner_Round_18 dX6_meets_86 ?_
    obtain ⟨v10, e11, hf⟩ := Option.bind_eq_some_iff.mp hf
    refine r_gR X I e11 lk_TrapCorner_Round_76 dX6_meets_89 ?_
    refine lv_iload_n hx hb dX6_meets_92 rfl (lv_at hl 4 rfl) ?_
    obtain ⟨v12, e13, hf⟩ := Option.bind_eq_some_iff.mp hf
    refine r_aI0 X I e13 dX6_meets_93 ?_
    refine lv_aload_n hx hb dX6_meets_94 rfl (lv_at hl 3 rfl) ?_
    obtain ⟨v14, e15, hf⟩ := Option.bind_eq_some_iff.mp hf
    refine r_gR X I e15 lk_TrapCorner_Round_79 dX6_meets_95 ?_
    refine lv_iload_n hx hb dX6_meets_98 rfl (lv_at hl 4 rfl) ?_
    obtain ⟨v16, e17, hf⟩ := Option.bind_eq_some_iff.mp hf
    refine r_aI0 X I e17 dX6_meets_99 ?_
    refine lv_aload_n hx hb dX6_meets_100 rfl (lv_at hl 3 rfl) ?_
    obtain ⟨v18, e19, hf⟩ := Option.bind_eq_some_iff.mp hf
    refine r_gR X I e19 lk_TrapCorner_Round_67 dX6_meets_101 ?_
    refine lv_iload_n hx hb dX6_meets_104 rfl (lv_at hl 5 rfl) ?_
    obtain ⟨v20, e21, hf⟩ := Option.bind_eq_some_iff.mp hf
    refine r_aI0 X I e21 dX6_meets_105 ?_
    refine lv_aload_n hx hb dX6_meets_106 rfl (lv_at hl 3 rfl) ?_
    obtain ⟨v22, e23, hf⟩ := Option.bind_eq_some_iff.mp hf
    refine r_gR X I e23 lk_TrapCorner_Round_82 dX6_meets_107 ?_
    refine lv_iload_n hx hb dX6_meets_110 rfl (lv_at hl 4 rfl) ?_
    obtain ⟨v24, e25, hf⟩ := Option.bind_eq_some_iff.mp hf
    refine r_aI0 X I e25 dX6_meets_111 ?_
    refine lv_aload_n hx hb dX6_meets_112 rfl (lv_at hl 3 rfl) ?_
    obtain ⟨v26, e27, hf⟩ := Option.bind_eq_some_iff.mp hf
    refine r_gI X I e27 lk_TrapCorner_Round_85 dX6_meets_113 ?_
    obtain ⟨_, g32, hf⟩ := Option.bind_eq_some_iff.mp hf
    obtain ⟨v28, h29, e30, z31, hf⟩ := cN_spec hf
    refine k_Vi (As := [.int s0, .int v12, .int v16, .int v20, .int v24, .int v26]) (rest := []) X I (c_X4_strength l g v6 s0 v12 v16 v20 v24 v26 e30) z31 g32 vk_TrapCorner_Round_88 tw_918 ⟨Nat.le_trans (by decide) hR.1, Nat.le_trans (by decide) hR.2⟩ ⟨Nat.zero_le _, Nat.zero_le _⟩ rfl hl.1 rfl (Nat.le_of_ble_eq_true rfl) dX6_meets_116 (fun H locs I => ?_)
    refine lv_istore (lv' := [(6, .int v28), (5, .int ((((x2 * 5) + x3) * 2) + s0)), (4, .int s0), (0, .ref (rfG g o0)), (1, .ref (rfG g o1)), (2, .int x2), (3, .int x3)]) hx hb dX6_meets_119 hl (by decide) rfl (fun ls hl => ?_)
    refine lv_aload_n hx hb dX6_meets_121 rfl (lv_at hl 3 rfl) ?_
    obtain ⟨v33, e34, hf⟩ := Option.bind_eq_some_iff.mp hf
    refine r_gR X I e34 lk_TrapCorner_Round_15 dX6_meets_122 ?_
    refine lv_iload hx hb dX6_meets_125 (lv_at hl 1 rfl) ?_
    refine lv_iload hx hb dX6_meets_127 (lv_at hl 0 rfl) ?_
    refine lv_aload_n hx hb dX6_meets_129 rfl (lv_at hl 3 rfl) ?_
    obtain ⟨v35, e36, hf⟩ := Option.bind_eq_some_iff.mp hf
    refine r_gR X I e36 lk_TrapCorner_Round_18 dX6_meets_130 ?_
    obtain ⟨v37, e38, hf⟩ := Option.bind_eq_some_iff.mp hf
    refine r_gI X I e38 lk_TrapCorner_Round_94 dX6_meets_133 ?_
    refine lv_icmp_lt (tgt := 143) hx hb dX6_meets_136 (by decide) (fun c39 => ?_) (fun c39 => ?_)
    · rw [if_pos c39] at hf
      refine lv_iconst (v := 1) hx hb dX6_meets_143 (by decide) ?_
      exact w_X6_meets_144 X hR hr  o0 o1 x2 x3 ((((x2 * 5) + x3) * 2) + s0) v33 ((((x2 * 5) + x3) * 2) + s0) 1 h29 ls H locs hf I (lv_sub hl [3, 4, 5, 6, 1] rfl)
    · rw [if_neg c39] at hf
      refine lv_iconst (v := 2) hx hb dX6_meets_139 (by decide) ?_
      refine lv_goto (tgt := 144) hx hb dX6_meets_140 (by decide) ?_
      exact w_X6_meets_144 X hR hr  o0 o1 x2 x3 ((((x2 * 5) + x3) * 2) + s0) v33 ((((x2 * 5) + x3) * 2) + s0) 2 h29 ls H locs hf I (lv_sub hl [3, 4, 5, 6, 1] rfl)
def f_X6_meets_0  (o0 : Nat) (o1 : Nat) (x2 : Int32) (x3 : Int32) (h : AH) : Option (Int32 × AH) :=
  (gI [6] h o0 5).bind fun v1 =>
  if ((v1 >>> (x3 &&& 31)) &&& 1) = 1 then
    some (0, h)
  else
    (gR [8] h o1 1).bind fun v4 =>
    (aI 0 h v4 x3).bind fun v6 =>
    if v6 = 0 then
      some (0, h)
    else
      (gR [8] h o1 0).bind fun v9 =>
      (aI 0 h v9 x3).bind fun v11 =>
      if v11 = 0 then
        some (0, h)
      else
        (gR [8] h o1 0).bind fun v14 =>
        (aI 0 h v14 x3).bind fun v16 =>
        (gR [6] h o0 0).bind fun v18 =>
        (gR [10] h v18 7).bind fun v20 =>
        (aI 0 h v20 x2).bind fun v22 =>
        if v16 = v22 then
          f_X6_meets_55 o0 o1 x2 x3 1 h
        else
          f_X6_meets_55 o0 o1 x2 x3 0 h
set_option maxHeartbeats 1000000 in
theorem w_X6_meets_0 (X : Cx g p s m args meth c cX6_meets 7 "TrapCorner$Round") (hR : 4 ≤ R.frames ∧ 256 ≤ R.locals) (hr : meth.sig.returnType = (some (.int))) {res : Int32 × AH} : ∀ (o0 : Nat) (o1 : Nat) (x2 : Int32) (x3 : Int32) (h : AH) (ls : Array Slot) (H : Heap) (locs : List Loc), f_X6_meets_0 o0 o1 x2 x3 h = some res → Iv g s n0 z0 h H locs 0 0 → lv_has ls 7 [(0, .ref (rfG g o0)), (1, .ref (rfG g o1)), (2, .int x2), (3, .int x3)] → W p l e R s m args below meth c H locs 0 0 (MQ below (QG g (some (.int res.1)) res.2) args s 0 0 (AG g)) (F0 m 0 ls []) := by
  have hx := X.1
  have hb := X.2.1
  intro o0 o1 x2 x3 h ls H locs hf I hl
  unfold f_X6_meets_0 at hf
  refine lv_aload_n hx hb dX6_meets_0 rfl (lv_at hl 0 rfl) ?_
  obtain ⟨v1, e2, hf⟩ := Option.bind_eq_some_iff.mp hf
  refine r_gI X I e2 lk_TrapCorner_Round_39 dX6_meets_1 ?_
  refine lv_iload_n hx hb dX6_meets_4 rfl (lv_at hl 3 rfl) ?_
  refine lv_ishr hx hb dX6_meets_5 ?_
  refine lv_iconst (v := 1) hx hb dX6_meets_6 (by decide) ?_
  refine lv_iand hx hb dX6_meets_7 ?_
  refine lv_iconst (v := 1) hx hb dX6_meets_8 (by decide) ?_
  refine lv_icmp_eq (tgt := 30) hx hb dX6_meets_9 (by decide) (fun c3 => ?_) (fun c3 => ?_)
  · rw [if_pos c3] at hf
    refine lv_iconst (v := 0) hx hb dX6_meets_30 (by decide) ?_
    cases hf
    exact k_ri X I hr dX6_meets_31
  · rw [if_neg c3] at hf
    refine lv_aload_n hx hb dX6_meets_12 rfl (lv_at hl 1 rfl) ?_
    obtain ⟨v4, e5, hf⟩ := Option.bind_eq_some_iff.mp hf
    refine r_gR X I e5 lk_TrapCorner_Round_67 dX6_meets_13 ?_
    refine lv_iload_n hx hb dX6_meets_16 rfl (lv_at hl 3 rfl) ?_
    obtain ⟨v6, e7, hf⟩ := Option.bind_eq_some_iff.mp hf
    refine r_aI0 X I e7 dX6_meets_17 ?_
    refine lv_if_eq (tgt := 30) hx hb dX6_meets_18 (by decide) (fun c8 => ?_) (fun c8 => ?_)
    · rw [if_pos c8] at hf
      refine lv_iconst (v := 0) hx hb dX6_meets_30 (by decide) ?_
      cases hf
      exact k_ri X I hr dX6_meets_31
    · rw [if_neg c8] at hf
      refine lv_aload_n hx hb dX6_meets_21 rfl (lv_at hl 1 rfl) ?_
      obtain ⟨v9, e10, hf⟩ := Option.bind_eq_some_iff.mp hf
      refine r_gR X I e10 lk_TrapCorner_Round_70 dX6_meets_22 ?_
      refine lv_iload_n hx hb dX6_meets_25 rfl (lv_at hl 3 rfl) ?_
      obtain ⟨v11, e12, hf⟩ := Option.bind_eq_some_iff.mp hf
      refine r_aI0 X I e12 dX6_meets_26 ?_
      refine lv_if_ne (tgt := 32) hx hb dX6_meets_27 (by decide) (fun c13 => ?_) (fun c13 => ?_)
      · rw [if_neg c13] at hf
        refine lv_aload_n hx hb dX6_meets_32 rfl (lv_at hl 1 rfl) ?_
        obtain ⟨v14, e15, hf⟩ := Option.bind_eq_some_iff.mp hf
        refine r_gR X I e15 lk_TrapCorner_Round_70 dX6_meets_33 ?_
        refine lv_iload_n hx hb dX6_meets_36 rfl (lv_at hl 3 rfl) ?_
        obtain ⟨v16, e17, hf⟩ := Option.bind_eq_some_iff.mp hf
        refine r_aI0 X I e17 dX6_meets_37 ?_
        refine lv_aload_n hx hb dX6_meets_38 rfl (lv_at hl 0 rfl) ?_
        obtain ⟨v18, e19, hf⟩ := Option.bind_eq_some_iff.mp hf
        refine r_gR X I e19 lk_TrapCorner_Round_18 dX6_meets_39 ?_
        obtain ⟨v20, e21, hf⟩ := Option.bind_eq_some_iff.mp hf
        refine r_gR X I e21 lk_TrapCorner_Round_73 dX6_meets_42 ?_
        refine lv_iload_n hx hb dX6_meets_45 rfl (lv_at hl 2 rfl) ?_
        obtain ⟨v22, e23, hf⟩ := Option.bind_eq_some_iff.mp hf
        refine r_aI0 X I e23 dX6_meets_46 ?_
        refine lv_icmp_ne (tgt := 54) hx hb dX6_meets_47 (by decide) (fun c24 => ?_) (fun c24 => ?_)
        · rw [if_neg c24] at hf
          refine lv_iconst (v := 0) hx hb dX6_meets_54 (by decide) ?_
          exact w_X6_meets_55 X hR hr  o0 o1 x2 x3 0 h ls H locs hf I (lv_sub hl [0, 1, 2, 3] rfl)
        · rw [if_pos c24] at hf
          refine lv_iconst (v := 1) hx hb dX6_meets_50 (by decide) ?_
          refine lv_goto (tgt := 55) hx hb dX6_meets_51 (by decide) ?_
          exact w_X6_meets_55 X hR hr  o0 o1 x2 x3 1 h ls H locs hf I (lv_sub hl [0, 1, 2, 3] rfl)
      · rw [if_pos c13] at hf
        refine lv_iconst (v := 0) hx hb dX6_meets_30 (by decide) ?_
        cases hf
        exact k_ri X I hr dX6_meets_31
def f_X6_meets (o0 : Nat) (o1 : Nat) (x2 : Int32) (x3 : Int32) (h : AH) : Option (Int32 × AH) := f_X6_meets_0 o0 o1 x2 x3 h
end
theorem c_X6_meets (l : Launch) (g : GG) (o0 : Nat) (o1 : Nat) (x2 : Int32) (x3 : Int32) {h : AH} {res : Int32 × AH} (hf : f_X6_meets o0 o1 x2 x3 h = some res) : CM l g yX6_meets cX6_meets 7 (some (.int)) 4 256 0 0 [.ref (rfG g o0), .ref (rfG g o1), .int x2, .int x3] h (some (.int res.1)) res.2 :=
  k_body (by decide) (Nat.le_of_ble_eq_true rfl) (fun p e s m below meth c R ls hR hr X I hl => w_X6_meets_0 X ⟨Nat.le_of_eq hR.1.symm, Nat.le_of_eq hR.2.1.symm⟩ hr o0 o1 x2 x3 h ls s.heap [] hf I (lv_sub hl [0, 1, 2, 3] rfl))
