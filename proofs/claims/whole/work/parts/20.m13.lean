/-! TrapCorner$Sightings.fitsAll(II)Z -/
theorem dX7_fitsAll_0 : decode cX7_fitsAll 0 = .ok (.iconst 0, 1) := by decide +kernel
theorem dX7_fitsAll_1 : decode cX7_fitsAll 1 = .ok (.istore_n 3, 1) := by decide +kernel
theorem dX7_fitsAll_2 : decode cX7_fitsAll 2 = .ok (.iload_n 3, 1) := by decide +kernel
theorem dX7_fitsAll_3 : decode cX7_fitsAll 3 = .ok (.aload_n 0, 1) := by decide +kernel
theorem dX7_fitsAll_4 : decode cX7_fitsAll 4 = .ok (.getfield 36, 3) := by decide +kernel
theorem dX7_fitsAll_7 : decode cX7_fitsAll 7 = .ok (.if_icmp .ge 48, 3) := by decide +kernel
theorem dX7_fitsAll_10 : decode cX7_fitsAll 10 = .ok (.aload_n 0, 1) := by decide +kernel
theorem dX7_fitsAll_11 : decode cX7_fitsAll 11 = .ok (.getfield 9, 3) := by decide +kernel
theorem dX7_fitsAll_14 : decode cX7_fitsAll 14 = .ok (.iload_n 3, 1) := by decide +kernel
theorem dX7_fitsAll_15 : decode cX7_fitsAll 15 = .ok (.iaload, 1) := by decide +kernel
theorem dX7_fitsAll_16 : decode cX7_fitsAll 16 = .ok (.iload_n 1, 1) := by decide +kernel
theorem dX7_fitsAll_17 : decode cX7_fitsAll 17 = .ok (.if_icmp .ne 32, 3) := by decide +kernel
theorem dX7_fitsAll_20 : decode cX7_fitsAll 20 = .ok (.aload_n 0, 1) := by decide +kernel
theorem dX7_fitsAll_21 : decode cX7_fitsAll 21 = .ok (.iload_n 1, 1) := by decide +kernel
theorem dX7_fitsAll_22 : decode cX7_fitsAll 22 = .ok (.iload_n 2, 1) := by decide +kernel
theorem dX7_fitsAll_23 : decode cX7_fitsAll 23 = .ok (.aload_n 0, 1) := by decide +kernel
theorem dX7_fitsAll_24 : decode cX7_fitsAll 24 = .ok (.getfield 15, 3) := by decide +kernel
theorem dX7_fitsAll_27 : decode cX7_fitsAll 27 = .ok (.iload_n 3, 1) := by decide +kernel
theorem dX7_fitsAll_28 : decode cX7_fitsAll 28 = .ok (.iaload, 1) := by decide +kernel
theorem dX7_fitsAll_29 : decode cX7_fitsAll 29 = .ok (.aload_n 0, 1) := by decide +kernel
theorem dX7_fitsAll_30 : decode cX7_fitsAll 30 = .ok (.getfield 18, 3) := by decide +kernel
theorem dX7_fitsAll_33 : decode cX7_fitsAll 33 = .ok (.iload_n 3, 1) := by decide +kernel
theorem dX7_fitsAll_34 : decode cX7_fitsAll 34 = .ok (.iaload, 1) := by decide +kernel
theorem dX7_fitsAll_35 : decode cX7_fitsAll 35 = .ok (.invokevirtual 47, 3) := by decide +kernel
theorem dX7_fitsAll_38 : decode cX7_fitsAll 38 = .ok (.aload_n 0, 1) := by decide +kernel
theorem dX7_fitsAll_39 : decode cX7_fitsAll 39 = .ok (.getfield 21, 3) := by decide +kernel
theorem dX7_fitsAll_42 : decode cX7_fitsAll 42 = .ok (.iload_n 3, 1) := by decide +kernel
theorem dX7_fitsAll_43 : decode cX7_fitsAll 43 = .ok (.baload, 1) := by decide +kernel
theorem dX7_fitsAll_44 : decode cX7_fitsAll 44 = .ok (.if_icmp .eq 5, 3) := by decide +kernel
theorem dX7_fitsAll_47 : decode cX7_fitsAll 47 = .ok (.iconst 0, 1) := by decide +kernel
theorem dX7_fitsAll_48 : decode cX7_fitsAll 48 = .ok (.ireturn, 1) := by decide +kernel
theorem dX7_fitsAll_49 : decode cX7_fitsAll 49 = .ok (.iinc 3 1, 3) := by decide +kernel
theorem dX7_fitsAll_52 : decode cX7_fitsAll 52 = .ok (.goto (-50), 3) := by decide +kernel
theorem dX7_fitsAll_55 : decode cX7_fitsAll 55 = .ok (.iconst 1, 1) := by decide +kernel
theorem dX7_fitsAll_56 : decode cX7_fitsAll 56 = .ok (.ireturn, 1) := by decide +kernel
section
variable {g : GG} {p : Program} {l : Launch} {e : Env} {R : Room} {s : State} {m : MethodId} {args : Array Value} {below : List Frame} {meth : Method} {c : Code} {n0 z0 : Nat}
def f_X7_fitsAll_49 (k2 : Nat → Int32 → Int32 → Int32 → AH → Option (Int32 × AH)) (o0 : Nat) (x1 : Int32) (x2 : Int32) (x3 : Int32) (h : AH) : Option (Int32 × AH) :=
  k2 o0 x1 x2 (x3 + 1) h
set_option maxHeartbeats 1000000 in
theorem w_X7_fitsAll_49 (X : Cx g p s m args meth c cX7_fitsAll 4 "TrapCorner$Sightings") (hR : 5 ≤ R.frames ∧ 320 ≤ R.locals) (hr : meth.sig.returnType = (some (.boolean))) {res : Int32 × AH} {k2 : Nat → Int32 → Int32 → Int32 → AH → Option (Int32 × AH)} (hk2 : ∀ (o0 : Nat) (x1 : Int32) (x2 : Int32) (x3 : Int32) (h : AH) (ls : Array Slot) (H : Heap) (locs : List Loc), k2 o0 x1 x2 x3 h = some res → Iv g s n0 z0 h H locs 0 0 → lv_has ls 4 [(0, .ref (rfG g o0)), (1, .int x1), (2, .int x2), (3, .int x3)] → W p l e R s m args below meth c H locs 0 0 (MQ below (QG g (some (.int res.1)) res.2) args s 0 0 (AG g)) (F0 m 2 ls [])) : ∀ (o0 : Nat) (x1 : Int32) (x2 : Int32) (x3 : Int32) (h : AH) (ls : Array Slot) (H : Heap) (locs : List Loc), f_X7_fitsAll_49 k2 o0 x1 x2 x3 h = some res → Iv g s n0 z0 h H locs 0 0 → lv_has ls 4 [(0, .ref (rfG g o0)), (1, .int x1), (2, .int x2), (3, .int x3)] → W p l e R s m args below meth c H locs 0 0 (MQ below (QG g (some (.int res.1)) res.2) args s 0 0 (AG g)) (F0 m 49 ls []) := by
  have hx := X.1
  have hb := X.2.1
  intro o0 x1 x2 x3 h ls H locs hf I hl
  unfold f_X7_fitsAll_49 at hf
  refine lv_iinc (v := x3 + 1) (lv' := [(3, .int (x3 + 1)), (0, .ref (rfG g o0)), (1, .int x1), (2, .int x2)]) hx hb dX7_fitsAll_49 hl (k := 3) rfl rfl (by decide) rfl (fun ls hl => ?_)
  refine lv_goto (tgt := 2) hx hb dX7_fitsAll_52 (by decide) ?_
  exact hk2 o0 x1 x2 (x3 + 1) h ls H locs hf I (lv_sub hl [1, 2, 3, 0] rfl)
def f_X7_fitsAll_2  : Nat → Nat → Int32 → Int32 → Int32 → AH → Option (Int32 × AH)
  | 0, _, _, _, _, _ => none
  | n + 1, o0, x1, x2, x3, h =>
  (gI [7] h o0 6).bind fun v1 =>
  if v1 ≤ x3 then
    some (1, h)
  else
    (gR [7] h o0 2).bind fun v4 =>
    (aI 0 h v4 x3).bind fun v6 =>
    if v6 = x1 then
      (gR [7] h o0 3).bind fun v9 =>
      (aI 0 h v9 x3).bind fun v11 =>
      (gR [7] h o0 4).bind fun v13 =>
      (aI 0 h v13 x3).bind fun v15 =>
      (isC [7] h o0).bind fun _ =>
      cN (f_X7_wouldTake o0 x1 x2 v11 v15 h) h fun v17 h18 =>
      (gR [7] h18 o0 5).bind fun v22 =>
      (aI 3 h18 v22 x3).bind fun v24 =>
      if v17 = v24 then
        f_X7_fitsAll_49 (f_X7_fitsAll_2 n) o0 x1 x2 x3 h18
      else
        some (0, h18)
    else
      f_X7_fitsAll_49 (f_X7_fitsAll_2 n) o0 x1 x2 x3 h
set_option maxHeartbeats 1000000 in
theorem w_X7_fitsAll_2 (X : Cx g p s m args meth c cX7_fitsAll 4 "TrapCorner$Sightings") (hR : 5 ≤ R.frames ∧ 320 ≤ R.locals) (hr : meth.sig.returnType = (some (.boolean))) {res : Int32 × AH} : ∀ (n : Nat) (o0 : Nat) (x1 : Int32) (x2 : Int32) (x3 : Int32) (h : AH) (ls : Array Slot) (H : Heap) (locs : List Loc), f_X7_fitsAll_2 n o0 x1 x2 x3 h = some res → Iv g s n0 z0 h H locs 0 0 → lv_has ls 4 [(0, .ref (rfG g o0)), (1, .int x1), (2, .int x2), (3, .int x3)] → W p l e R s m args below meth c H locs 0 0 (MQ below (QG g (some (.int res.1)) res.2) args s 0 0 (AG g)) (F0 m 2 ls []) := by
  have hx := X.1
  have hb := X.2.1
  intro n
  induction n with
  | zero =>
    intro o0 x1 x2 x3 h ls H locs hf
    rw [f_X7_fitsAll_2.eq_1] at hf
    cases hf
  | succ n ih =>
    intro o0 x1 x2 x3 h ls H locs hf I hl
    rw [f_X7_fitsAll_2.eq_2] at hf
    refine lv_iload_n hx hb dX7_fitsAll_2 rfl (lv_at hl 3 rfl) ?_
    refine lv_aload_n hx hb dX7_fitsAll_3 rfl (lv_at hl 0 rfl) ?_
    obtain ⟨v1, e2, hf⟩ := Option.bind_eq_some_iff.mp hf
    refine r_gI X I e2 lk_TrapCorner_Sightings_36 dX7_fitsAll_4 ?_
    refine lv_icmp_ge (tgt := 55) hx hb dX7_fitsAll_7 (by decide) (fun c3 => ?_) (fun c3 => ?_)
    · rw [if_pos c3] at hf
      refine lv_iconst (v := 1) hx hb dX7_fitsAll_55 (by decide) ?_
      cases hf
      exact k_rz X I hr (Or.inr rfl) dX7_fitsAll_56
    · rw [if_neg c3] at hf
      refine lv_aload_n hx hb dX7_fitsAll_10 rfl (lv_at hl 0 rfl) ?_
      obtain ⟨v4, e5, hf⟩ := Option.bind_eq_some_iff.mp hf
      refine r_gR X I e5 lk_TrapCorner_Sightings_9 dX7_fitsAll_11 ?_
      refine lv_iload_n hx hb dX7_fitsAll_14 rfl (lv_at hl 3 rfl) ?_
      obtain ⟨v6, e7, hf⟩ := Option.bind_eq_some_iff.mp hf
      refine r_aI0 X I e7 dX7_fitsAll_15 ?_
      refine lv_iload_n hx hb dX7_fitsAll_16 rfl (lv_at hl 1 rfl) ?_
      refine lv_icmp_ne (tgt := 49) hx hb dX7_fitsAll_17 (by decide) (fun c8 => ?_) (fun c8 => ?_)
      · rw [if_neg c8] at hf
        exact w_X7_fitsAll_49 X hR hr ih o0 x1 x2 x3 h ls H locs hf I (lv_sub hl [0, 1, 2, 3] rfl)
      · rw [if_pos c8] at hf
        refine lv_aload_n hx hb dX7_fitsAll_20 rfl (lv_at hl 0 rfl) ?_
        refine lv_iload_n hx hb dX7_fitsAll_21 rfl (lv_at hl 1 rfl) ?_
        refine lv_iload_n hx hb dX7_fitsAll_22 rfl (lv_at hl 2 rfl) ?_
        refine lv_aload_n hx hb dX7_fitsAll_23 rfl (lv_at hl 0 rfl) ?_
        obtain ⟨v9, e10, hf⟩ := Option.bind_eq_some_iff.mp hf
        refine r_gR X I e10 lk_TrapCorner_Sightings_15 dX7_fitsAll_24 ?_
        refine lv_iload_n hx hb dX7_fitsAll_27 rfl (lv_at hl 3 rfl) ?_
        obtain ⟨v11, e12, hf⟩ := Option.bind_eq_some_iff.mp hf
        refine r_aI0 X I e12 dX7_fitsAll_28 ?_
        refine lv_aload_n hx hb dX7_fitsAll_29 rfl (lv_at hl 0 rfl) ?_
        obtain ⟨v13, e14, hf⟩ := Option.bind_eq_some_iff.mp hf
        refine r_gR X I e14 lk_TrapCorner_Sightings_18 dX7_fitsAll_30 ?_
        refine lv_iload_n hx hb dX7_fitsAll_33 rfl (lv_at hl 3 rfl) ?_
        obtain ⟨v15, e16, hf⟩ := Option.bind_eq_some_iff.mp hf
        refine r_aI0 X I e16 dX7_fitsAll_34 ?_
        obtain ⟨_, g21, hf⟩ := Option.bind_eq_some_iff.mp hf
        obtain ⟨v17, h18, e19, z20, hf⟩ := cN_spec hf
        refine k_Vi (As := [.int x1, .int x2, .int v11, .int v15]) (rest := []) X I (c_X7_wouldTake l g o0 x1 x2 v11 v15 e19) z20 g21 vk_TrapCorner_Sightings_47 tw_1081 ⟨Nat.le_trans (by decide) hR.1, Nat.le_trans (by decide) hR.2⟩ ⟨Nat.zero_le _, Nat.zero_le _⟩ rfl hl.1 rfl (Nat.le_of_ble_eq_true rfl) dX7_fitsAll_35 (fun H locs I => ?_)
        refine lv_aload_n hx hb dX7_fitsAll_38 rfl (lv_at hl 0 rfl) ?_
        obtain ⟨v22, e23, hf⟩ := Option.bind_eq_some_iff.mp hf
        refine r_gR X I e23 lk_TrapCorner_Sightings_21 dX7_fitsAll_39 ?_
        refine lv_iload_n hx hb dX7_fitsAll_42 rfl (lv_at hl 3 rfl) ?_
        obtain ⟨v24, e25, hf⟩ := Option.bind_eq_some_iff.mp hf
        refine r_aI3 X I e25 dX7_fitsAll_43 ?_
        refine lv_icmp_eq (tgt := 49) hx hb dX7_fitsAll_44 (by decide) (fun c26 => ?_) (fun c26 => ?_)
        · rw [if_pos c26] at hf
          exact w_X7_fitsAll_49 X hR hr ih o0 x1 x2 x3 h18 ls H locs hf I (lv_sub hl [0, 1, 2, 3] rfl)
        · rw [if_neg c26] at hf
          refine lv_iconst (v := 0) hx hb dX7_fitsAll_47 (by decide) ?_
          cases hf
          exact k_rz X I hr (Or.inl rfl) dX7_fitsAll_48
def f_X7_fitsAll_0  (o0 : Nat) (x1 : Int32) (x2 : Int32) (h : AH) : Option (Int32 × AH) :=
  f_X7_fitsAll_2 fu o0 x1 x2 0 h
set_option maxHeartbeats 1000000 in
theorem w_X7_fitsAll_0 (X : Cx g p s m args meth c cX7_fitsAll 4 "TrapCorner$Sightings") (hR : 5 ≤ R.frames ∧ 320 ≤ R.locals) (hr : meth.sig.returnType = (some (.boolean))) {res : Int32 × AH} : ∀ (o0 : Nat) (x1 : Int32) (x2 : Int32) (h : AH) (ls : Array Slot) (H : Heap) (locs : List Loc), f_X7_fitsAll_0 o0 x1 x2 h = some res → Iv g s n0 z0 h H locs 0 0 → lv_has ls 4 [(0, .ref (rfG g o0)), (1, .int x1), (2, .int x2)] → W p l e R s m args below meth c H locs 0 0 (MQ below (QG g (some (.int res.1)) res.2) args s 0 0 (AG g)) (F0 m 0 ls []) := by
  have hx := X.1
  have hb := X.2.1
  intro o0 x1 x2 h ls H locs hf I hl
  unfold f_X7_fitsAll_0 at hf
  refine lv_iconst (v := 0) hx hb dX7_fitsAll_0 (by decide) ?_
  refine lv_istore_n (lv' := [(3, .int 0), (0, .ref (rfG g o0)), (1, .int x1), (2, .int x2)]) hx hb dX7_fitsAll_1 rfl hl (by decide) rfl (fun ls hl => ?_)
  exact w_X7_fitsAll_2 X hR hr fu o0 x1 x2 0 h ls H locs hf I (lv_sub hl [1, 2, 3, 0] rfl)
def f_X7_fitsAll (o0 : Nat) (x1 : Int32) (x2 : Int32) (h : AH) : Option (Int32 × AH) := f_X7_fitsAll_0 o0 x1 x2 h
end
theorem c_X7_fitsAll (l : Launch) (g : GG) (o0 : Nat) (x1 : Int32) (x2 : Int32) {h : AH} {res : Int32 × AH} (hf : f_X7_fitsAll o0 x1 x2 h = some res) : CM l g yX7_fitsAll cX7_fitsAll 4 (some (.boolean)) 5 320 0 0 [.ref (rfG g o0), .int x1, .int x2] h (some (.int res.1)) res.2 :=
  k_body (by decide) (Nat.le_of_ble_eq_true rfl) (fun p e s m below meth c R ls hR hr X I hl => w_X7_fitsAll_0 X ⟨Nat.le_of_eq hR.1.symm, Nat.le_of_eq hR.2.1.symm⟩ hr o0 x1 x2 h ls s.heap [] hf I (lv_sub hl [0, 1, 2] rfl))
/-! TrapCorner.doStep(LTrapCorner$State;III)V -/
theorem dX11_doStep_0 : decode cX11_doStep 0 = .ok (.iload_n 2, 1) := by decide +kernel
theorem dX11_doStep_1 : decode cX11_doStep 1 = .ok (.tableswitch 102 0 2 #[27, 54, 79], 27) := by decide +kernel
theorem dX11_doStep_28 : decode cX11_doStep 28 = .ok (.aload_n 0, 1) := by decide +kernel
theorem dX11_doStep_29 : decode cX11_doStep 29 = .ok (.getfield 75, 3) := by decide +kernel
theorem dX11_doStep_32 : decode cX11_doStep 32 = .ok (.aload_n 1, 1) := by decide +kernel
theorem dX11_doStep_33 : decode cX11_doStep 33 = .ok (.aload_n 0, 1) := by decide +kernel
theorem dX11_doStep_34 : decode cX11_doStep 34 = .ok (.getfield 42, 3) := by decide +kernel
theorem dX11_doStep_37 : decode cX11_doStep 37 = .ok (.getfield 156, 3) := by decide +kernel
theorem dX11_doStep_40 : decode cX11_doStep 40 = .ok (.iconst 0, 1) := by decide +kernel
theorem dX11_doStep_41 : decode cX11_doStep 41 = .ok (.invokevirtual 343, 3) := by decide +kernel
theorem dX11_doStep_44 : decode cX11_doStep 44 = .ok (.aload_n 0, 1) := by decide +kernel
theorem dX11_doStep_45 : decode cX11_doStep 45 = .ok (.getfield 75, 3) := by decide +kernel
theorem dX11_doStep_48 : decode cX11_doStep 48 = .ok (.aload_n 1, 1) := by decide +kernel
theorem dX11_doStep_49 : decode cX11_doStep 49 = .ok (.invokevirtual 347, 3) := by decide +kernel
theorem dX11_doStep_52 : decode cX11_doStep 52 = .ok (.goto 65, 3) := by decide +kernel
theorem dX11_doStep_55 : decode cX11_doStep 55 = .ok (.aload_n 1, 1) := by decide +kernel
theorem dX11_doStep_56 : decode cX11_doStep 56 = .ok (.getfield 188, 3) := by decide +kernel
theorem dX11_doStep_59 : decode cX11_doStep 59 = .ok (.iload_n 3, 1) := by decide +kernel
theorem dX11_doStep_60 : decode cX11_doStep 60 = .ok (.iload 4, 2) := by decide +kernel
theorem dX11_doStep_62 : decode cX11_doStep 62 = .ok (.iastore, 1) := by decide +kernel
theorem dX11_doStep_63 : decode cX11_doStep 63 = .ok (.aload_n 1, 1) := by decide +kernel
theorem dX11_doStep_64 : decode cX11_doStep 64 = .ok (.dup, 1) := by decide +kernel
theorem dX11_doStep_65 : decode cX11_doStep 65 = .ok (.getfield 178, 3) := by decide +kernel
theorem dX11_doStep_68 : decode cX11_doStep 68 = .ok (.iload 4, 2) := by decide +kernel
theorem dX11_doStep_70 : decode cX11_doStep 70 = .ok (.invokestatic 340, 3) := by decide +kernel
theorem dX11_doStep_73 : decode cX11_doStep 73 = .ok (.isub, 1) := by decide +kernel
theorem dX11_doStep_74 : decode cX11_doStep 74 = .ok (.putfield 178, 3) := by decide +kernel
theorem dX11_doStep_77 : decode cX11_doStep 77 = .ok (.goto 40, 3) := by decide +kernel
theorem dX11_doStep_80 : decode cX11_doStep 80 = .ok (.aload_n 1, 1) := by decide +kernel
theorem dX11_doStep_81 : decode cX11_doStep 81 = .ok (.getfield 191, 3) := by decide +kernel
theorem dX11_doStep_84 : decode cX11_doStep 84 = .ok (.iload_n 3, 1) := by decide +kernel
theorem dX11_doStep_85 : decode cX11_doStep 85 = .ok (.dup2, 1) := by decide +kernel
theorem dX11_doStep_86 : decode cX11_doStep 86 = .ok (.iaload, 1) := by decide +kernel
theorem dX11_doStep_87 : decode cX11_doStep 87 = .ok (.iconst 1, 1) := by decide +kernel
theorem dX11_doStep_88 : decode cX11_doStep 88 = .ok (.iadd, 1) := by decide +kernel
theorem dX11_doStep_89 : decode cX11_doStep 89 = .ok (.iastore, 1) := by decide +kernel
theorem dX11_doStep_90 : decode cX11_doStep 90 = .ok (.aload_n 1, 1) := by decide +kernel
theorem dX11_doStep_91 : decode cX11_doStep 91 = .ok (.dup, 1) := by decide +kernel
theorem dX11_doStep_92 : decode cX11_doStep 92 = .ok (.getfield 178, 3) := by decide +kernel
theorem dX11_doStep_95 : decode cX11_doStep 95 = .ok (.iconst 1, 1) := by decide +kernel
theorem dX11_doStep_96 : decode cX11_doStep 96 = .ok (.isub, 1) := by decide +kernel
theorem dX11_doStep_97 : decode cX11_doStep 97 = .ok (.putfield 178, 3) := by decide +kernel
theorem dX11_doStep_100 : decode cX11_doStep 100 = .ok (.goto 17, 3) := by decide +kernel
theorem dX11_doStep_103 : decode cX11_doStep 103 = .ok (.aload_n 1, 1) := by decide +kernel
theorem dX11_doStep_104 : decode cX11_doStep 104 = .ok (.getfield 219, 3) := by decide +kernel
theorem dX11_doStep_107 : decode cX11_doStep 107 = .ok (.iload_n 3, 1) := by decide +kernel
theorem dX11_doStep_108 : decode cX11_doStep 108 = .ok (.iconst 1, 1) := by decide +kernel
theorem dX11_doStep_109 : decode cX11_doStep 109 = .ok (.aload_n 1, 1) := by decide +kernel
theorem dX11_doStep_110 : decode cX11_doStep 110 = .ok (.getfield 219, 3) := by decide +kernel
theorem dX11_doStep_113 : decode cX11_doStep 113 = .ok (.iload_n 3, 1) := by decide +kernel
theorem dX11_doStep_114 : decode cX11_doStep 114 = .ok (.iaload, 1) := by decide +kernel
theorem dX11_doStep_115 : decode cX11_doStep 115 = .ok (.isub, 1) := by decide +kernel
theorem dX11_doStep_116 : decode cX11_doStep 116 = .ok (.iastore, 1) := by decide +kernel
theorem dX11_doStep_117 : decode cX11_doStep 117 = .ok (.return_, 1) := by decide +kernel
theorem vk_TrapCorner_343 : VK "TrapCorner" 343 [6] yX6_play 3 := ⟨tw_898, tw_899, tw_11, ⟨by decide, by decide⟩, by decide +kernel, fun ci hci => by
  have hci := List.mem_singleton.mp hci
  subst hci
  exact ⟨_, rfl, tw_900⟩⟩
theorem vk_TrapCorner_347 : VK "TrapCorner" 347 [6] yX6_settle 1 := ⟨tw_942, tw_943, tw_11, ⟨by decide, by decide⟩, by decide +kernel, fun ci hci => by
  have hci := List.mem_singleton.mp hci
  subst hci
  exact ⟨_, rfl, tw_944⟩⟩
theorem lp_TrapCorner_178 : LKP "TrapCorner" 178 [8] 6 (.int) := by
  intro ci hci
  have hci := List.mem_singleton.mp hci
  subst hci
  exact ⟨RX8, TX8, 8, "TrapCorner$State", ck_8, by decide, tw_220, Or.inl rfl, rfl, by decide +kernel⟩
section
variable {g : GG} {p : Program} {l : Launch} {e : Env} {R : Room} {s : State} {m : MethodId} {args : Array Value} {below : List Frame} {meth : Method} {c : Code} {n0 z0 : Nat}
def f_X11_doStep_0  (o0 : Nat) (o1 : Nat) (x2 : Int32) (x3 : Int32) (x4 : Int32) (h : AH) : Option (Unit × AH) :=
  if x2 = 0 then
    (gR [11] h o0 9).bind fun v2 =>
    (gR [11] h o0 4).bind fun v4 =>
    (gI [10] h v4 1).bind fun v6 =>
    (isC [6] h v2).bind fun _ =>
    cN (f_X6_play v2 o1 v6 0 h) h fun _ h9 =>
    (gR [11] h9 o0 9).bind fun v13 =>
    (isC [6] h9 v13).bind fun _ =>
    cN (f_X6_settle v13 o1 h9) h9 fun _ h16 =>
    some ((), h16)
  else
    if x2 = 1 then
      (gR [8] h o1 0).bind fun v21 =>
      (uI 0 h v21 x3 x4).bind fun h23 =>
      (gI [8] h23 o1 6).bind fun v25 =>
      cN (f_X11_priceOf x4 h23) h23 fun v27 h28 =>
      (pV [8] h28 o1 6 (.int (v25 - v27))).bind fun h31 =>
      some ((), h31)
    else
      if x2 = 2 then
        (gR [8] h o1 1).bind fun v34 =>
        (aI 0 h v34 x3).bind fun v36 =>
        (uI 0 h v34 x3 (v36 + 1)).bind fun h38 =>
        (gI [8] h38 o1 6).bind fun v40 =>
        (pV [8] h38 o1 6 (.int (v40 - 1))).bind fun h42 =>
        some ((), h42)
      else
        (gR [8] h o1 4).bind fun v44 =>
        (gR [8] h o1 4).bind fun v46 =>
        (aI 0 h v46 x3).bind fun v48 =>
        (uI 0 h v44 x3 (1 - v48)).bind fun h50 =>
        some ((), h50)
set_option maxHeartbeats 1000000 in
theorem w_X11_doStep_0 (X : Cx g p s m args meth c cX11_doStep 5 "TrapCorner") (hR : 6 ≤ R.frames ∧ 384 ≤ R.locals) (hr : meth.sig.returnType = none) {res : Unit × AH} : ∀ (o0 : Nat) (o1 : Nat) (x2 : Int32) (x3 : Int32) (x4 : Int32) (h : AH) (ls : Array Slot) (H : Heap) (locs : List Loc), f_X11_doStep_0 o0 o1 x2 x3 x4 h = some res → Iv g s n0 z0 h H locs 0 0 → lv_has ls 5 [(0, .ref (rfG g o0)), (1, .ref (rfG g o1)), (2, .int x2), (3, .int x3), (4, .int x4)] → W p l e R s m args below meth c H locs 0 0 (MQ below (QG g none res.2) args s 0 0 (AG g)) (F0 m 0 ls []) := by
  have hx := X.1
  have hb := X.2.1
  intro o0 o1 x2 x3 x4 h ls H locs hf I hl
  unfold f_X11_doStep_0 at hf
  refine lv_iload_n hx hb dX11_doStep_0 rfl (lv_at hl 2 rfl) ?_
  by_cases c1 : x2 = 0
  · rw [if_pos c1] at hf
    refine lv_tableIn (tgt := 28) hx hb dX11_doStep_1 (by rw [c1]; decide) (by rw [c1]; decide) (by rw [c1]; rfl) (by decide) ?_
    refine lv_aload_n hx hb dX11_doStep_28 rfl (lv_at hl 0 rfl) ?_
    obtain ⟨v2, e3, hf⟩ := Option.bind_eq_some_iff.mp hf
    refine r_gR X I e3 lk_TrapCorner_75 dX11_doStep_29 ?_
    refine lv_aload_n hx hb dX11_doStep_32 rfl (lv_at hl 1 rfl) ?_
    refine lv_aload_n hx hb dX11_doStep_33 rfl (lv_at hl 0 rfl) ?_
    obtain ⟨v4, e5, hf⟩ := Option.bind_eq_some_iff.mp hf
    refine r_gR X I e5 lk_TrapCorner_42 dX11_doStep_34 ?_
    obtain ⟨v6, e7, hf⟩ := Option.bind_eq_some_iff.mp hf
    refine r_gI X I e7 lk_TrapCorner_156 dX11_doStep_37 ?_
    refine lv_iconst (v := 0) hx hb dX11_doStep_40 (by decide) ?_
    obtain ⟨_, g12, hf⟩ := Option.bind_eq_some_iff.mp hf
    obtain ⟨⟨⟩, h9, e10, z11, hf⟩ := cN_spec hf
    refine k_Vv (As := [.ref (rfG g o1), .int v6, .int 0]) (rest := []) X I (c_X6_play l g v2 o1 v6 0 e10) z11 g12 vk_TrapCorner_343 tw_901 ⟨Nat.le_trans (by decide) hR.1, Nat.le_trans (by decide) hR.2⟩ ⟨Nat.zero_le _, Nat.zero_le _⟩ rfl hl.1 rfl (Nat.le_of_ble_eq_true rfl) dX11_doStep_41 (fun H locs I => ?_)
    refine lv_aload_n hx hb dX11_doStep_44 rfl (lv_at hl 0 rfl) ?_
    obtain ⟨v13, e14, hf⟩ := Option.bind_eq_some_iff.mp hf
    refine r_gR X I e14 lk_TrapCorner_75 dX11_doStep_45 ?_
    refine lv_aload_n hx hb dX11_doStep_48 rfl (lv_at hl 1 rfl) ?_
    obtain ⟨_, g19, hf⟩ := Option.bind_eq_some_iff.mp hf
    obtain ⟨⟨⟩, h16, e17, z18, hf⟩ := cN_spec hf
    refine k_Vv (As := [.ref (rfG g o1)]) (rest := []) X I (c_X6_settle l g v13 o1 e17) z18 g19 vk_TrapCorner_347 tw_945 ⟨Nat.le_trans (by decide) hR.1, Nat.le_trans (by decide) hR.2⟩ ⟨Nat.zero_le _, Nat.zero_le _⟩ rfl hl.1 rfl (Nat.le_of_ble_eq_true rfl) dX11_doStep_49 (fun H locs I => ?_)
    refine lv_goto (tgt := 117) hx hb dX11_doStep_52 (by decide) ?_
    cases hf
    exact k_rv X I hr dX11_doStep_117
  · rw [if_neg c1] at hf
    by_cases c20 : x2 = 1
    · rw [if_pos c20] at hf
      refine lv_tableIn (tgt := 55) hx hb dX11_doStep_1 (by rw [c20]; decide) (by rw [c20]; decide) (by rw [c20]; rfl) (by decide) ?_
      refine lv_aload_n hx hb dX11_doStep_55 rfl (lv_at hl 1 rfl) ?_
      obtain ⟨v21, e22, hf⟩ := Option.bind_eq_some_iff.mp hf
      refine r_gR X I e22 lk_TrapCorner_188 dX11_doStep_56 ?_
      refine lv_iload_n hx hb dX11_doStep_59 rfl (lv_at hl 3 rfl) ?_
      refine lv_iload hx hb dX11_doStep_60 (lv_at hl 4 rfl) ?_
      obtain ⟨h23, e24, hf⟩ := Option.bind_eq_some_iff.mp hf
      refine r_uI0 X I e24 dX11_doStep_62 (fun H locs I => ?_)
      refine lv_aload_n hx hb dX11_doStep_63 rfl (lv_at hl 1 rfl) ?_
      refine lv_dup hx hb dX11_doStep_64 rfl ?_
      obtain ⟨v25, e26, hf⟩ := Option.bind_eq_some_iff.mp hf
      refine r_gI X I e26 lk_TrapCorner_178 dX11_doStep_65 ?_
      refine lv_iload hx hb dX11_doStep_68 (lv_at hl 4 rfl) ?_
      obtain ⟨v27, h28, e29, z30, hf⟩ := cN_spec hf
      refine k_Si (As := [.int x4]) (rest := [.int v25, .ref (rfG g o1)]) X I (c_X11_priceOf l g x4 e29) z30 sk_TrapCorner_340 tw_876 ⟨Nat.le_trans (by decide) hR.1, Nat.le_trans (by decide) hR.2⟩ ⟨Nat.zero_le _, Nat.zero_le _⟩ rfl hl.1 rfl (Nat.le_of_ble_eq_true rfl) dX11_doStep_70 (fun H locs I => ?_)
      refine lv_isub hx hb dX11_doStep_73 ?_
      obtain ⟨h31, e32, hf⟩ := Option.bind_eq_some_iff.mp hf
      refine r_pI X I e32 lp_TrapCorner_178 dX11_doStep_74 (fun H locs I => ?_)
      refine lv_goto (tgt := 117) hx hb dX11_doStep_77 (by decide) ?_
      cases hf
      exact k_rv X I hr dX11_doStep_117
    · rw [if_neg c20] at hf
      by_cases c33 : x2 = 2
      · rw [if_pos c33] at hf
        refine lv_tableIn (tgt := 80) hx hb dX11_doStep_1 (by rw [c33]; decide) (by rw [c33]; decide) (by rw [c33]; rfl) (by decide) ?_
        refine lv_aload_n hx hb dX11_doStep_80 rfl (lv_at hl 1 rfl) ?_
        obtain ⟨v34, e35, hf⟩ := Option.bind_eq_some_iff.mp hf
        refine r_gR X I e35 lk_TrapCorner_191 dX11_doStep_81 ?_
        refine lv_iload_n hx hb dX11_doStep_84 rfl (lv_at hl 3 rfl) ?_
        refine lv_dup2_11 hx hb dX11_doStep_85 rfl rfl ?_
        obtain ⟨v36, e37, hf⟩ := Option.bind_eq_some_iff.mp hf
        refine r_aI0 X I e37 dX11_doStep_86 ?_
        refine lv_iconst (v := 1) hx hb dX11_doStep_87 (by decide) ?_
        refine lv_iadd hx hb dX11_doStep_88 ?_
        obtain ⟨h38, e39, hf⟩ := Option.bind_eq_some_iff.mp hf
        refine r_uI0 X I e39 dX11_doStep_89 (fun H locs I => ?_)
        refine lv_aload_n hx hb dX11_doStep_90 rfl (lv_at hl 1 rfl) ?_
        refine lv_dup hx hb dX11_doStep_91 rfl ?_
        obtain ⟨v40, e41, hf⟩ := Option.bind_eq_some_iff.mp hf
        refine r_gI X I e41 lk_TrapCorner_178 dX11_doStep_92 ?_
        refine lv_iconst (v := 1) hx hb dX11_doStep_95 (by decide) ?_
        refine lv_isub hx hb dX11_doStep_96 ?_
        obtain ⟨h42, e43, hf⟩ := Option.bind_eq_some_iff.mp hf
        refine r_pI X I e43 lp_TrapCorner_178 dX11_doStep_97 (fun H locs I => ?_)
        refine lv_goto (tgt := 117) hx hb dX11_doStep_100 (by decide) ?_
        cases hf
        exact k_rv X I hr dX11_doStep_117
      · rw [if_neg c33] at hf
        refine lv_tableOut (tgt := 103) hx hb dX11_doStep_1 (sw_out (fun k k1 k2 => by rcases (show k = 0 ∨ k = 1 ∨ k = 2 by omega) with rfl | rfl | rfl <;> assumption)) (by decide) ?_
        refine lv_aload_n hx hb dX11_doStep_103 rfl (lv_at hl 1 rfl) ?_
        obtain ⟨v44, e45, hf⟩ := Option.bind_eq_some_iff.mp hf
        refine r_gR X I e45 lk_TrapCorner_219 dX11_doStep_104 ?_
        refine lv_iload_n hx hb dX11_doStep_107 rfl (lv_at hl 3 rfl) ?_
        refine lv_iconst (v := 1) hx hb dX11_doStep_108 (by decide) ?_
        refine lv_aload_n hx hb dX11_doStep_109 rfl (lv_at hl 1 rfl) ?_
        obtain ⟨v46, e47, hf⟩ := Option.bind_eq_some_iff.mp hf
        refine r_gR X I e47 lk_TrapCorner_219 dX11_doStep_110 ?_
        refine lv_iload_n hx hb dX11_doStep_113 rfl (lv_at hl 3 rfl) ?_
        obtain ⟨v48, e49, hf⟩ := Option.bind_eq_some_iff.mp hf
        refine r_aI0 X I e49 dX11_doStep_114 ?_
        refine lv_isub hx hb dX11_doStep_115 ?_
        obtain ⟨h50, e51, hf⟩ := Option.bind_eq_some_iff.mp hf
        refine r_uI0 X I e51 dX11_doStep_116 (fun H locs I => ?_)
        cases hf
        exact k_rv X I hr dX11_doStep_117
def f_X11_doStep (o0 : Nat) (o1 : Nat) (x2 : Int32) (x3 : Int32) (x4 : Int32) (h : AH) : Option (Unit × AH) := f_X11_doStep_0 o0 o1 x2 x3 x4 h
end
theorem c_X11_doStep (l : Launch) (g : GG) (o0 : Nat) (o1 : Nat) (x2 : Int32) (x3 : Int32) (x4 : Int32) {h : AH} {res : Unit × AH} (hf : f_X11_doStep o0 o1 x2 x3 x4 h = some res) : CM l g yX11_doStep cX11_doStep 5 none 6 384 0 0 [.ref (rfG g o0), .ref (rfG g o1), .int x2, .int x3, .int x4] h none res.2 :=
  k_body (by decide) (Nat.le_of_ble_eq_true rfl) (fun p e s m below meth c R ls hR hr X I hl => w_X11_doStep_0 X ⟨Nat.le_of_eq hR.1.symm, Nat.le_of_eq hR.2.1.symm⟩ hr o0 o1 x2 x3 x4 h ls s.heap [] hf I (lv_sub hl [0, 1, 2, 3, 4] rfl))
/-! TrapCorner.run(II)I -/
theorem dX11_run_0 : decode cX11_run 0 = .ok (.aload_n 0, 1) := by decide +kernel
theorem dX11_run_1 : decode cX11_run 1 = .ok (.iload_n 1, 1) := by decide +kernel
theorem dX11_run_2 : decode cX11_run 2 = .ok (.invokevirtual 240, 3) := by decide +kernel
theorem dX11_run_5 : decode cX11_run 5 = .ok (.ifCond .eq 19, 3) := by decide +kernel
theorem dX11_run_8 : decode cX11_run 8 = .ok (.aload_n 0, 1) := by decide +kernel
theorem dX11_run_9 : decode cX11_run 9 = .ok (.invokevirtual 172, 3) := by decide +kernel
theorem dX11_run_12 : decode cX11_run 12 = .ok (.ifCond .eq 12, 3) := by decide +kernel
theorem dX11_run_15 : decode cX11_run 15 = .ok (.iload_n 2, 1) := by decide +kernel
theorem dX11_run_16 : decode cX11_run 16 = .ok (.ifCond .lt 8, 3) := by decide +kernel
theorem dX11_run_19 : decode cX11_run 19 = .ok (.iload_n 2, 1) := by decide +kernel
theorem dX11_run_20 : decode cX11_run 20 = .ok (.iconst 1, 1) := by decide +kernel
theorem dX11_run_21 : decode cX11_run 21 = .ok (.if_icmp .le 6, 3) := by decide +kernel
theorem dX11_run_24 : decode cX11_run 24 = .ok (.ldc 243, 2) := by decide +kernel
theorem dX11_run_26 : decode cX11_run 26 = .ok (.ireturn, 1) := by decide +kernel
theorem dX11_run_27 : decode cX11_run 27 = .ok (.aload_n 0, 1) := by decide +kernel
theorem dX11_run_28 : decode cX11_run 28 = .ok (.getfield 91, 3) := by decide +kernel
theorem dX11_run_31 : decode cX11_run 31 = .ok (.iload_n 1, 1) := by decide +kernel
theorem dX11_run_32 : decode cX11_run 32 = .ok (.aaload, 1) := by decide +kernel
theorem dX11_run_33 : decode cX11_run 33 = .ok (.astore_n 3, 1) := by decide +kernel
theorem dX11_run_34 : decode cX11_run 34 = .ok (.iconst 0, 1) := by decide +kernel
theorem dX11_run_35 : decode cX11_run 35 = .ok (.istore 4, 2) := by decide +kernel
theorem dX11_run_37 : decode cX11_run 37 = .ok (.iconst (-1), 1) := by decide +kernel
theorem dX11_run_38 : decode cX11_run 38 = .ok (.istore 5, 2) := by decide +kernel
theorem dX11_run_40 : decode cX11_run 40 = .ok (.aload_n 0, 1) := by decide +kernel
theorem dX11_run_41 : decode cX11_run 41 = .ok (.getfield 53, 3) := by decide +kernel
theorem dX11_run_44 : decode cX11_run 44 = .ok (.aload_n 0, 1) := by decide +kernel
theorem dX11_run_45 : decode cX11_run 45 = .ok (.getfield 49, 3) := by decide +kernel
theorem dX11_run_48 : decode cX11_run 48 = .ok (.invokevirtual 350, 3) := by decide +kernel
theorem dX11_run_51 : decode cX11_run 51 = .ok (.iconst 0, 1) := by decide +kernel
theorem dX11_run_52 : decode cX11_run 52 = .ok (.istore 6, 2) := by decide +kernel
theorem dX11_run_54 : decode cX11_run 54 = .ok (.iload 6, 2) := by decide +kernel
theorem dX11_run_56 : decode cX11_run 56 = .ok (.aload_n 3, 1) := by decide +kernel
theorem dX11_run_57 : decode cX11_run 57 = .ok (.arraylength, 1) := by decide +kernel
theorem dX11_run_58 : decode cX11_run 58 = .ok (.if_icmp .ge 104, 3) := by decide +kernel
theorem dX11_run_61 : decode cX11_run 61 = .ok (.iload 5, 2) := by decide +kernel
theorem dX11_run_63 : decode cX11_run 63 = .ok (.iconst (-1), 1) := by decide +kernel
theorem dX11_run_64 : decode cX11_run 64 = .ok (.if_icmp .ne 98, 3) := by decide +kernel
theorem dX11_run_67 : decode cX11_run 67 = .ok (.aload_n 3, 1) := by decide +kernel
theorem dX11_run_68 : decode cX11_run 68 = .ok (.iload 6, 2) := by decide +kernel
theorem dX11_run_70 : decode cX11_run 70 = .ok (.iaload, 1) := by decide +kernel
theorem dX11_run_71 : decode cX11_run 71 = .ok (.invokestatic 244, 3) := by decide +kernel
theorem dX11_run_74 : decode cX11_run 74 = .ok (.istore 7, 2) := by decide +kernel
theorem dX11_run_76 : decode cX11_run 76 = .ok (.aload_n 3, 1) := by decide +kernel
theorem dX11_run_77 : decode cX11_run 77 = .ok (.iload 6, 2) := by decide +kernel
theorem dX11_run_79 : decode cX11_run 79 = .ok (.iaload, 1) := by decide +kernel
theorem dX11_run_80 : decode cX11_run 80 = .ok (.invokestatic 247, 3) := by decide +kernel
theorem dX11_run_83 : decode cX11_run 83 = .ok (.istore 8, 2) := by decide +kernel
theorem dX11_run_85 : decode cX11_run 85 = .ok (.aload_n 3, 1) := by decide +kernel
theorem dX11_run_86 : decode cX11_run 86 = .ok (.iload 6, 2) := by decide +kernel
theorem dX11_run_88 : decode cX11_run 88 = .ok (.iaload, 1) := by decide +kernel
theorem dX11_run_89 : decode cX11_run 89 = .ok (.invokestatic 250, 3) := by decide +kernel
theorem dX11_run_92 : decode cX11_run 92 = .ok (.istore 9, 2) := by decide +kernel
theorem dX11_run_94 : decode cX11_run 94 = .ok (.aload_n 0, 1) := by decide +kernel
theorem dX11_run_95 : decode cX11_run 95 = .ok (.aload_n 0, 1) := by decide +kernel
theorem dX11_run_96 : decode cX11_run 96 = .ok (.getfield 53, 3) := by decide +kernel
theorem dX11_run_99 : decode cX11_run 99 = .ok (.iload 7, 2) := by decide +kernel
theorem dX11_run_101 : decode cX11_run 101 = .ok (.iload 8, 2) := by decide +kernel
theorem dX11_run_103 : decode cX11_run 103 = .ok (.iload 9, 2) := by decide +kernel
theorem dX11_run_105 : decode cX11_run 105 = .ok (.invokevirtual 276, 3) := by decide +kernel
theorem dX11_run_108 : decode cX11_run 108 = .ok (.ifCond .eq 44, 3) := by decide +kernel
theorem dX11_run_111 : decode cX11_run 111 = .ok (.aload_n 0, 1) := by decide +kernel
theorem dX11_run_112 : decode cX11_run 112 = .ok (.aload_n 0, 1) := by decide +kernel
theorem dX11_run_113 : decode cX11_run 113 = .ok (.getfield 53, 3) := by decide +kernel
theorem dX11_run_116 : decode cX11_run 116 = .ok (.iload 7, 2) := by decide +kernel
theorem dX11_run_118 : decode cX11_run 118 = .ok (.iload 8, 2) := by decide +kernel
theorem dX11_run_120 : decode cX11_run 120 = .ok (.iload 9, 2) := by decide +kernel
theorem dX11_run_122 : decode cX11_run 122 = .ok (.invokevirtual 303, 3) := by decide +kernel
theorem dX11_run_125 : decode cX11_run 125 = .ok (.iload 4, 2) := by decide +kernel
theorem dX11_run_127 : decode cX11_run 127 = .ok (.iload 7, 2) := by decide +kernel
theorem dX11_run_129 : decode cX11_run 129 = .ok (.ifCond .ne 16, 3) := by decide +kernel
theorem dX11_run_132 : decode cX11_run 132 = .ok (.aload_n 0, 1) := by decide +kernel
theorem dX11_run_133 : decode cX11_run 133 = .ok (.getfield 75, 3) := by decide +kernel
theorem dX11_run_136 : decode cX11_run 136 = .ok (.getfield 284, 3) := by decide +kernel
theorem dX11_run_139 : decode cX11_run 139 = .ok (.invokestatic 287, 3) := by decide +kernel
theorem dX11_run_142 : decode cX11_run 142 = .ok (.goto 4, 3) := by decide +kernel
theorem dX11_run_145 : decode cX11_run 145 = .ok (.iconst 0, 1) := by decide +kernel
theorem dX11_run_146 : decode cX11_run 146 = .ok (.iadd, 1) := by decide +kernel
theorem dX11_run_147 : decode cX11_run 147 = .ok (.istore 4, 2) := by decide +kernel
theorem dX11_run_149 : decode cX11_run 149 = .ok (.goto 7, 3) := by decide +kernel
theorem dX11_run_152 : decode cX11_run 152 = .ok (.iload 6, 2) := by decide +kernel
theorem dX11_run_154 : decode cX11_run 154 = .ok (.istore 5, 2) := by decide +kernel
theorem dX11_run_156 : decode cX11_run 156 = .ok (.iinc 6 1, 3) := by decide +kernel
theorem dX11_run_159 : decode cX11_run 159 = .ok (.goto (-105), 3) := by decide +kernel
theorem dX11_run_162 : decode cX11_run 162 = .ok (.iload_n 2, 1) := by decide +kernel
theorem dX11_run_163 : decode cX11_run 163 = .ok (.ifCond .ne 8, 3) := by decide +kernel
theorem dX11_run_166 : decode cX11_run 166 = .ok (.iload 5, 2) := by decide +kernel
theorem dX11_run_168 : decode cX11_run 168 = .ok (.goto 5, 3) := by decide +kernel
theorem dX11_run_171 : decode cX11_run 171 = .ok (.iload 4, 2) := by decide +kernel
theorem dX11_run_173 : decode cX11_run 173 = .ok (.ireturn, 1) := by decide +kernel
theorem vk_TrapCorner_276 : VK "TrapCorner" 276 [11] yX11_canBe 4 := ⟨tw_867, tw_869, tw_1, ⟨by decide, by decide⟩, by decide +kernel, fun ci hci => by
  have hci := List.mem_singleton.mp hci
  subst hci
  exact ⟨_, rfl, tp_23⟩⟩
theorem vk_TrapCorner_303 : VK "TrapCorner" 303 [11] yX11_doStep 4 := ⟨tw_894, tw_896, tw_1, ⟨by decide, by decide⟩, by decide +kernel, fun ci hci => by
  have hci := List.mem_singleton.mp hci
  subst hci
  exact ⟨_, rfl, tp_26⟩⟩
theorem sk_TrapCorner_287 : SK "TrapCorner" 287 yJ6_bitCount_0f7a4 1 := ⟨tw_955, tw_956, tw_26, ⟨by decide, by decide⟩, by decide +kernel⟩
theorem vk_TrapCorner_350 : VK "TrapCorner" 350 [8] yX8_copyFrom 1 := ⟨tw_1028, tw_890, tw_8, ⟨by decide, by decide⟩, by decide +kernel, fun ci hci => by
  have hci := List.mem_singleton.mp hci
  subst hci
  exact ⟨_, rfl, tw_891⟩⟩
section
variable {g : GG} {p : Program} {l : Launch} {e : Env} {R : Room} {s : State} {m : MethodId} {args : Array Value} {below : List Frame} {meth : Method} {c : Code} {n0 z0 : Nat}
def f_X11_run_24  (h : AH) : Option (Int32 × AH) :=
  some ((-1000000), h)
set_option maxHeartbeats 1000000 in
theorem w_X11_run_24 (X : Cx g p s m args meth c cX11_run 10 "TrapCorner") (hR : 7 ≤ R.frames ∧ 448 ≤ R.locals) (hr : meth.sig.returnType = (some (.int))) {res : Int32 × AH} : ∀ (h : AH) (ls : Array Slot) (H : Heap) (locs : List Loc), f_X11_run_24  h = some res → Iv g s n0 z0 h H locs 0 0 → lv_has ls 10 [] → W p l e R s m args below meth c H locs 0 0 (MQ below (QG g (some (.int res.1)) res.2) args s 0 0 (AG g)) (F0 m 24 ls []) := by
  have hx := X.1
  have hb := X.2.1
  intro  h ls H locs hf I hl
  unfold f_X11_run_24 at hf
  refine lv_ldc (v := (-1000000)) hx hb X.2.2.2.1 (X.2.2.2.2.1 _ tw_837) dX11_run_24 ?_
  cases hf
  exact k_ri X I hr dX11_run_26
def f_X11_run_156 (k54 : Nat → Int32 → Nat → Int32 → Int32 → Int32 → AH → Option (Int32 × AH)) (o0 : Nat) (x2 : Int32) (o3 : Nat) (x4 : Int32) (x5 : Int32) (x6 : Int32) (h : AH) : Option (Int32 × AH) :=
  k54 o0 x2 o3 x4 x5 (x6 + 1) h
set_option maxHeartbeats 1000000 in
theorem w_X11_run_156 (X : Cx g p s m args meth c cX11_run 10 "TrapCorner") (hR : 7 ≤ R.frames ∧ 448 ≤ R.locals) (hr : meth.sig.returnType = (some (.int))) {res : Int32 × AH} {k54 : Nat → Int32 → Nat → Int32 → Int32 → Int32 → AH → Option (Int32 × AH)} (hk54 : ∀ (o0 : Nat) (x2 : Int32) (o3 : Nat) (x4 : Int32) (x5 : Int32) (x6 : Int32) (h : AH) (ls : Array Slot) (H : Heap) (locs : List Loc), k54 o0 x2 o3 x4 x5 x6 h = some res → Iv g s n0 z0 h H locs 0 0 → lv_has ls 10 [(0, .ref (rfG g o0)), (2, .int x2), (3, .ref (rfG g o3)), (4, .int x4), (5, .int x5), (6, .int x6)] → W p l e R s m args below meth c H locs 0 0 (MQ below (QG g (some (.int res.1)) res.2) args s 0 0 (AG g)) (F0 m 54 ls [])) : ∀ (o0 : Nat) (x2 : Int32) (o3 : Nat) (x4 : Int32) (x5 : Int32) (x6 : Int32) (h : AH) (ls : Array Slot) (H : Heap) (locs : List Loc), f_X11_run_156 k54 o0 x2 o3 x4 x5 x6 h = some res → Iv g s n0 z0 h H locs 0 0 → lv_has ls 10 [(0, .ref (rfG g o0)), (2, .int x2), (3, .ref (rfG g o3)), (4, .int x4), (5, .int x5), (6, .int x6)] → W p l e R s m args below meth c H locs 0 0 (MQ below (QG g (some (.int res.1)) res.2) args s 0 0 (AG g)) (F0 m 156 ls []) := by
  have hx := X.1
  have hb := X.2.1
  intro o0 x2 o3 x4 x5 x6 h ls H locs hf I hl
  unfold f_X11_run_156 at hf
  refine lv_iinc (v := x6 + 1) (lv' := [(6, .int (x6 + 1)), (0, .ref (rfG g o0)), (2, .int x2), (3, .ref (rfG g o3)), (4, .int x4), (5, .int x5)]) hx hb dX11_run_156 hl (k := 5) rfl rfl (by decide) rfl (fun ls hl => ?_)
  refine lv_goto (tgt := 54) hx hb dX11_run_159 (by decide) ?_
  exact hk54 o0 x2 o3 x4 x5 (x6 + 1) h ls H locs hf I (lv_sub hl [1, 2, 3, 4, 5, 0] rfl)
def f_X11_run_146 (k54 : Nat → Int32 → Nat → Int32 → Int32 → Int32 → AH → Option (Int32 × AH)) (o0 : Nat) (x2 : Int32) (o3 : Nat) (x5 : Int32) (x6 : Int32) (s0 : Int32) (s1 : Int32) (h : AH) : Option (Int32 × AH) :=
  f_X11_run_156 k54 o0 x2 o3 (s0 + s1) x5 x6 h
set_option maxHeartbeats 1000000 in
theorem w_X11_run_146 (X : Cx g p s m args meth c cX11_run 10 "TrapCorner") (hR : 7 ≤ R.frames ∧ 448 ≤ R.locals) (hr : meth.sig.returnType = (some (.int))) {res : Int32 × AH} {k54 : Nat → Int32 → Nat → Int32 → Int32 → Int32 → AH → Option (Int32 × AH)} (hk54 : ∀ (o0 : Nat) (x2 : Int32) (o3 : Nat) (x4 : Int32) (x5 : Int32) (x6 : Int32) (h : AH) (ls : Array Slot) (H : Heap) (locs : List Loc), k54 o0 x2 o3 x4 x5 x6 h = some res → Iv g s n0 z0 h H locs 0 0 → lv_has ls 10 [(0, .ref (rfG g o0)), (2, .int x2), (3, .ref (rfG g o3)), (4, .int x4), (5, .int x5), (6, .int x6)] → W p l e R s m args below meth c H locs 0 0 (MQ below (QG g (some (.int res.1)) res.2) args s 0 0 (AG g)) (F0 m 54 ls [])) : ∀ (o0 : Nat) (x2 : Int32) (o3 : Nat) (x5 : Int32) (x6 : Int32) (s0 : Int32) (s1 : Int32) (h : AH) (ls : Array Slot) (H : Heap) (locs : List Loc), f_X11_run_146 k54 o0 x2 o3 x5 x6 s0 s1 h = some res → Iv g s n0 z0 h H locs 0 0 → lv_has ls 10 [(0, .ref (rfG g o0)), (2, .int x2), (3, .ref (rfG g o3)), (5, .int x5), (6, .int x6)] → W p l e R s m args below meth c H locs 0 0 (MQ below (QG g (some (.int res.1)) res.2) args s 0 0 (AG g)) (F0 m 146 ls [.int s1, .int s0]) := by
  have hx := X.1
  have hb := X.2.1
  intro o0 x2 o3 x5 x6 s0 s1 h ls H locs hf I hl
  unfold f_X11_run_146 at hf
  refine lv_iadd hx hb dX11_run_146 ?_
  refine lv_istore (lv' := [(4, .int (s0 + s1)), (0, .ref (rfG g o0)), (2, .int x2), (3, .ref (rfG g o3)), (5, .int x5), (6, .int x6)]) hx hb dX11_run_147 hl (by decide) rfl (fun ls hl => ?_)
  refine lv_goto (tgt := 156) hx hb dX11_run_149 (by decide) ?_
  exact w_X11_run_156 X hR hr hk54 o0 x2 o3 (s0 + s1) x5 x6 h ls H locs hf I (lv_sub hl [1, 2, 3, 0, 4, 5] rfl)
def f_X11_run_162  (x2 : Int32) (x4 : Int32) (x5 : Int32) (h : AH) : Option (Int32 × AH) :=
  if x2 = 0 then
    some (x5, h)
  else
    some (x4, h)
set_option maxHeartbeats 1000000 in
theorem w_X11_run_162 (X : Cx g p s m args meth c cX11_run 10 "TrapCorner") (hR : 7 ≤ R.frames ∧ 448 ≤ R.locals) (hr : meth.sig.returnType = (some (.int))) {res : Int32 × AH} : ∀ (x2 : Int32) (x4 : Int32) (x5 : Int32) (h : AH) (ls : Array Slot) (H : Heap) (locs : List Loc), f_X11_run_162 x2 x4 x5 h = some res → Iv g s n0 z0 h H locs 0 0 → lv_has ls 10 [(2, .int x2), (4, .int x4), (5, .int x5)] → W p l e R s m args below meth c H locs 0 0 (MQ below (QG g (some (.int res.1)) res.2) args s 0 0 (AG g)) (F0 m 162 ls []) := by
  have hx := X.1
  have hb := X.2.1
  intro x2 x4 x5 h ls H locs hf I hl
  unfold f_X11_run_162 at hf
  refine lv_iload_n hx hb dX11_run_162 rfl (lv_at hl 0 rfl) ?_
  refine lv_if_ne (tgt := 171) hx hb dX11_run_163 (by decide) (fun c1 => ?_) (fun c1 => ?_)
  · rw [if_neg c1] at hf
    refine lv_iload hx hb dX11_run_171 (lv_at hl 1 rfl) ?_
    cases hf
    exact k_ri X I hr dX11_run_173
  · rw [if_pos c1] at hf
    refine lv_iload hx hb dX11_run_166 (lv_at hl 2 rfl) ?_
    refine lv_goto (tgt := 173) hx hb dX11_run_168 (by decide) ?_
    cases hf
    exact k_ri X I hr dX11_run_173
def f_X11_run_54  : Nat → Nat → Int32 → Nat → Int32 → Int32 → Int32 → AH → Option (Int32 × AH)
  | 0, _, _, _, _, _, _, _ => none
  | n + 1, o0, x2, o3, x4, x5, x6, h =>
  (aLen h o3).bind fun v1 =>
  if v1 ≤ x6 then
    f_X11_run_162 x2 x4 x5 h
  else
    if x5 = ((-1)) then
      (aI 0 h o3 x6).bind fun v5 =>
      cN (f_X11_kindOf v5 h) h fun v7 h8 =>
      (aI 0 h8 o3 x6).bind fun v11 =>
      cN (f_X11_firstOf v11 h8) h8 fun v13 h14 =>
      (aI 0 h14 o3 x6).bind fun v17 =>
      cN (f_X11_secondOf v17 h14) h14 fun v19 h20 =>
      (gR [11] h20 o0 6).bind fun v23 =>
      (isC [11] h20 o0).bind fun _ =>
      cN (f_X11_canBe o0 v23 v7 v13 v19 h20) h20 fun v25 h26 =>
      if v25 = 0 then
        f_X11_run_156 (f_X11_run_54 n) o0 x2 o3 x4 x6 x6 h26
      else
        (gR [11] h26 o0 6).bind fun v31 =>
        (isC [11] h26 o0).bind fun _ =>
        cN (f_X11_doStep o0 v31 v7 v13 v19 h26) h26 fun _ h34 =>
        if v7 = 0 then
          (gR [11] h34 o0 9).bind fun v39 =>
          (gI [6] h34 v39 3).bind fun v41 =>
          cN (f_J6_bitCount_0f7a4 v41 h34) h34 fun v43 h44 =>
          f_X11_run_146 (f_X11_run_54 n) o0 x2 o3 x5 x6 x4 v43 h44
        else
          f_X11_run_146 (f_X11_run_54 n) o0 x2 o3 x5 x6 x4 0 h34
    else
      f_X11_run_162 x2 x4 x5 h
set_option maxHeartbeats 1000000 in
theorem w_X11_run_54 (X : Cx g p s m args meth c cX11_run 10 "TrapCorner") (hR : 7 ≤ R.frames ∧ 448 ≤ R.locals) (hr : meth.sig.returnType = (some (.int))) {res : Int32 × AH} : ∀ (n : Nat) (o0 : Nat) (x2 : Int32) (o3 : Nat) (x4 : Int32) (x5 : Int32) (x6 : Int32) (h : AH) (ls : Array Slot) (H : Heap) (locs : List Loc), f_X11_run_54 n o0 x2 o3 x4 x5 x6 h = some res → Iv g s n0 z0 h H locs 0 0 → lv_has ls 10 [(0, .ref (rfG g o0)), (2, .int x2), (3, .ref (rfG g o3)), (4, .int x4), (5, .int x5), (6, .int x6)] → W p l e R s m args below meth c H locs 0 0 (MQ below (QG g (some (.int res.1)) res.2) args s 0 0 (AG g)) (F0 m 54 ls []) := by
  have hx := X.1
  have hb := X.2.1
  intro n
  induction n with
  | zero =>
    intro o0 x2 o3 x4 x5 x6 h ls H locs hf
    rw [f_X11_run_54.eq_1] at hf
    cases hf
  | succ n ih =>
    intro o0 x2 o3 x4 x5 x6 h ls H locs hf I hl
    rw [f_X11_run_54.eq_2] at hf
    refine lv_iload hx hb dX11_run_54 (lv_at hl 5 rfl) ?_
    refine lv_aload_n hx hb dX11_run_56 rfl (lv_at hl 2 rfl) ?_
    obtain ⟨v1, e2, hf⟩ := Option.bind_eq_some_iff.mp hf
    refine r_len X I e2 dX11_run_57 ?_
    refine lv_icmp_ge (tgt := 162) hx hb dX11_run_58 (by decide) (fun c3 => ?_) (fun c3 => ?_)
    · rw [if_pos c3] at hf
      exact w_X11_run_162 X hR hr  x2 x4 x5 h ls H locs hf I (lv_sub hl [1, 3, 4] rfl)
    · rw [if_neg c3] at hf
      refine lv_iload hx hb dX11_run_61 (lv_at hl 4 rfl) ?_
      refine lv_iconst (v := (-1)) hx hb dX11_run_63 (by decide) ?_
      refine lv_icmp_ne (tgt := 162) hx hb dX11_run_64 (by decide) (fun c4 => ?_) (fun c4 => ?_)
      · rw [if_neg c4] at hf
        exact w_X11_run_162 X hR hr  x2 x4 x5 h ls H locs hf I (lv_sub hl [1, 3, 4] rfl)
      · rw [if_pos c4] at hf
        refine lv_aload_n hx hb dX11_run_67 rfl (lv_at hl 2 rfl) ?_
        refine lv_iload hx hb dX11_run_68 (lv_at hl 5 rfl) ?_
        obtain ⟨v5, e6, hf⟩ := Option.bind_eq_some_iff.mp hf
        refine r_aI0 X I e6 dX11_run_70 ?_
        obtain ⟨v7, h8, e9, z10, hf⟩ := cN_spec hf
        refine k_Si (As := [.int v5]) (rest := []) X I (c_X11_kindOf l g v5 e9) z10 sk_TrapCorner_244 tw_840 ⟨Nat.le_trans (by decide) hR.1, Nat.le_trans (by decide) hR.2⟩ ⟨Nat.zero_le _, Nat.zero_le _⟩ rfl hl.1 rfl (Nat.le_of_ble_eq_true rfl) dX11_run_71 (fun H locs I => ?_)
        refine lv_istore (lv' := [(7, .int v7), (0, .ref (rfG g o0)), (2, .int x2), (3, .ref (rfG g o3)), (4, .int x4), (5, .int x5), (6, .int x6)]) hx hb dX11_run_74 hl (by decide) rfl (fun ls hl => ?_)
        refine lv_aload_n hx hb dX11_run_76 rfl (lv_at hl 3 rfl) ?_
        refine lv_iload hx hb dX11_run_77 (lv_at hl 6 rfl) ?_
        obtain ⟨v11, e12, hf⟩ := Option.bind_eq_some_iff.mp hf
        refine r_aI0 X I e12 dX11_run_79 ?_
        obtain ⟨v13, h14, e15, z16, hf⟩ := cN_spec hf
        refine k_Si (As := [.int v11]) (rest := []) X I (c_X11_firstOf l g v11 e15) z16 sk_TrapCorner_247 tw_843 ⟨Nat.le_trans (by decide) hR.1, Nat.le_trans (by decide) hR.2⟩ ⟨Nat.zero_le _, Nat.zero_le _⟩ rfl hl.1 rfl (Nat.le_of_ble_eq_true rfl) dX11_run_80 (fun H locs I => ?_)
        refine lv_istore (lv' := [(8, .int v13), (7, .int v7), (0, .ref (rfG g o0)), (2, .int x2), (3, .ref (rfG g o3)), (4, .int x4), (5, .int x5), (6, .int x6)]) hx hb dX11_run_83 hl (by decide) rfl (fun ls hl => ?_)
        refine lv_aload_n hx hb dX11_run_85 rfl (lv_at hl 4 rfl) ?_
        refine lv_iload hx hb dX11_run_86 (lv_at hl 7 rfl) ?_
        obtain ⟨v17, e18, hf⟩ := Option.bind_eq_some_iff.mp hf
        refine r_aI0 X I e18 dX11_run_88 ?_
        obtain ⟨v19, h20, e21, z22, hf⟩ := cN_spec hf
        refine k_Si (As := [.int v17]) (rest := []) X I (c_X11_secondOf l g v17 e21) z22 sk_TrapCorner_250 tw_846 ⟨Nat.le_trans (by decide) hR.1, Nat.le_trans (by decide) hR.2⟩ ⟨Nat.zero_le _, Nat.zero_le _⟩ rfl hl.1 rfl (Nat.le_of_ble_eq_true rfl) dX11_run_89 (fun H locs I => ?_)
        refine lv_istore (lv' := [(9, .int v19), (8, .int v13), (7, .int v7), (0, .ref (rfG g o0)), (2, .int x2), (3, .ref (rfG g o3)), (4, .int x4), (5, .int x5), (6, .int x6)]) hx hb dX11_run_92 hl (by decide) rfl (fun ls hl => ?_)
        refine lv_aload_n hx hb dX11_run_94 rfl (lv_at hl 3 rfl) ?_
        refine lv_aload_n hx hb dX11_run_95 rfl (lv_at hl 3 rfl) ?_
        obtain ⟨v23, e24, hf⟩ := Option.bind_eq_some_iff.mp hf
        refine r_gR X I e24 lk_TrapCorner_53 dX11_run_96 ?_
        refine lv_iload hx hb dX11_run_99 (lv_at hl 2 rfl) ?_
        refine lv_iload hx hb dX11_run_101 (lv_at hl 1 rfl) ?_
        refine lv_iload hx hb dX11_run_103 (lv_at hl 0 rfl) ?_
        obtain ⟨_, g29, hf⟩ := Option.bind_eq_some_iff.mp hf
        obtain ⟨v25, h26, e27, z28, hf⟩ := cN_spec hf
        refine k_Vi (As := [.ref (rfG g v23), .int v7, .int v13, .int v19]) (rest := []) X I (c_X11_canBe l g o0 v23 v7 v13 v19 e27) z28 g29 vk_TrapCorner_276 tw_870 ⟨Nat.le_trans (by decide) hR.1, Nat.le_trans (by decide) hR.2⟩ ⟨Nat.zero_le _, Nat.zero_le _⟩ rfl hl.1 rfl (Nat.le_of_ble_eq_true rfl) dX11_run_105 (fun H locs I => ?_)
        refine lv_if_eq (tgt := 152) hx hb dX11_run_108 (by decide) (fun c30 => ?_) (fun c30 => ?_)
        · rw [if_pos c30] at hf
          refine lv_iload hx hb dX11_run_152 (lv_at hl 8 rfl) ?_
          refine lv_istore (lv' := [(5, .int x6), (9, .int v19), (8, .int v13), (7, .int v7), (0, .ref (rfG g o0)), (2, .int x2), (3, .ref (rfG g o3)), (4, .int x4), (6, .int x6)]) hx hb dX11_run_154 hl (by decide) rfl (fun ls hl => ?_)
          exact w_X11_run_156 X hR hr ih o0 x2 o3 x4 x6 x6 h26 ls H locs hf I (lv_sub hl [4, 5, 6, 7, 0, 8] rfl)
        · rw [if_neg c30] at hf
          refine lv_aload_n hx hb dX11_run_111 rfl (lv_at hl 3 rfl) ?_
          refine lv_aload_n hx hb dX11_run_112 rfl (lv_at hl 3 rfl) ?_
          obtain ⟨v31, e32, hf⟩ := Option.bind_eq_some_iff.mp hf
          refine r_gR X I e32 lk_TrapCorner_53 dX11_run_113 ?_
          refine lv_iload hx hb dX11_run_116 (lv_at hl 2 rfl) ?_
          refine lv_iload hx hb dX11_run_118 (lv_at hl 1 rfl) ?_
          refine lv_iload hx hb dX11_run_120 (lv_at hl 0 rfl) ?_
          obtain ⟨_, g37, hf⟩ := Option.bind_eq_some_iff.mp hf
          obtain ⟨⟨⟩, h34, e35, z36, hf⟩ := cN_spec hf
          refine k_Vv (As := [.ref (rfG g v31), .int v7, .int v13, .int v19]) (rest := []) X I (c_X11_doStep l g o0 v31 v7 v13 v19 e35) z36 g37 vk_TrapCorner_303 tw_897 ⟨Nat.le_trans (by decide) hR.1, Nat.le_trans (by decide) hR.2⟩ ⟨Nat.zero_le _, Nat.zero_le _⟩ rfl hl.1 rfl (Nat.le_of_ble_eq_true rfl) dX11_run_122 (fun H locs I => ?_)
          refine lv_iload hx hb dX11_run_125 (lv_at hl 6 rfl) ?_
          refine lv_iload hx hb dX11_run_127 (lv_at hl 2 rfl) ?_
          refine lv_if_ne (tgt := 145) hx hb dX11_run_129 (by decide) (fun c38 => ?_) (fun c38 => ?_)
          · rw [if_neg c38] at hf
            refine lv_iconst (v := 0) hx hb dX11_run_145 (by decide) ?_
            exact w_X11_run_146 X hR hr ih o0 x2 o3 x5 x6 x4 0 h34 ls H locs hf I (lv_sub hl [3, 4, 5, 7, 8] rfl)
          · rw [if_pos c38] at hf
            refine lv_aload_n hx hb dX11_run_132 rfl (lv_at hl 3 rfl) ?_
            obtain ⟨v39, e40, hf⟩ := Option.bind_eq_some_iff.mp hf
            refine r_gR X I e40 lk_TrapCorner_75 dX11_run_133 ?_
            obtain ⟨v41, e42, hf⟩ := Option.bind_eq_some_iff.mp hf
            refine r_gI X I e42 lk_TrapCorner_284 dX11_run_136 ?_
            obtain ⟨v43, h44, e45, z46, hf⟩ := cN_spec hf
            refine k_Si (As := [.int v41]) (rest := [.int x4]) X I (c_J6_bitCount_0f7a4 l g v41 e45) z46 sk_TrapCorner_287 tw_957 ⟨Nat.le_trans (by decide) hR.1, Nat.le_trans (by decide) hR.2⟩ ⟨Nat.zero_le _, Nat.zero_le _⟩ rfl hl.1 rfl (Nat.le_of_ble_eq_true rfl) dX11_run_139 (fun H locs I => ?_)
            refine lv_goto (tgt := 146) hx hb dX11_run_142 (by decide) ?_
            exact w_X11_run_146 X hR hr ih o0 x2 o3 x5 x6 x4 v43 h44 ls H locs hf I (lv_sub hl [3, 4, 5, 7, 8] rfl)
def f_X11_run_0  (o0 : Nat) (x1 : Int32) (x2 : Int32) (h : AH) : Option (Int32 × AH) :=
  (isC [11] h o0).bind fun _ =>
  cN (f_X11_hasPlan o0 x1 h) h fun v1 h2 =>
  if v1 = 0 then
    f_X11_run_24 h2
  else
    (isC [11] h2 o0).bind fun _ =>
    cN (f_X11_hasCity o0 h2) h2 fun v7 h8 =>
    if v7 = 0 then
      f_X11_run_24 h8
    else
      if x2 < 0 then
        f_X11_run_24 h8
      else
        if x2 ≤ 1 then
          (gR [11] h8 o0 12).bind fun v15 =>
          (aQ 5 h8 v15 x1).bind fun v17 =>
          v17.bind fun o19 =>
          (gR [11] h8 o0 6).bind fun v20 =>
          (gR [11] h8 o0 5).bind fun v22 =>
          (isC [8] h8 v20).bind fun _ =>
          cN (f_X8_copyFrom v20 v22 h8) h8 fun _ h25 =>
          f_X11_run_54 fu o0 x2 o19 0 ((-1)) 0 h25
        else
          f_X11_run_24 h8
set_option maxHeartbeats 1000000 in
theorem w_X11_run_0 (X : Cx g p s m args meth c cX11_run 10 "TrapCorner") (hR : 7 ≤ R.frames ∧ 448 ≤ R.locals) (hr : meth.sig.returnType = (some (.int))) {res : Int32 × AH} : ∀ (o0 : Nat) (x1 : Int32) (x2 : Int32) (h : AH) (ls : Array Slot) (H : Heap) (locs : List Loc), f_X11_run_0 o0 x1 x2 h = some res → Iv g s n0 z0 h H locs 0 0 → lv_has ls 10 [(0, .ref (rfG g o0)), (1, .int x1), (2, .int x2)] → W p l e R s m args below meth c H locs 0 0 (MQ below (QG g (some (.int res.1)) res.2) args s 0 0 (AG g)) (F0 m 0 ls []) := by
  have hx := X.1
  have hb := X.2.1
  intro o0 x1 x2 h ls H locs hf I hl
  unfold f_X11_run_0 at hf
  refine lv_aload_n hx hb dX11_run_0 rfl (lv_at hl 0 rfl) ?_
  refine lv_iload_n hx hb dX11_run_1 rfl (lv_at hl 1 rfl) ?_
  obtain ⟨_, g5, hf⟩ := Option.bind_eq_some_iff.mp hf
  obtain ⟨v1, h2, e3, z4, hf⟩ := cN_spec hf
  refine k_Vi (As := [.int x1]) (rest := []) X I (c_X11_hasPlan l g o0 x1 e3) z4 g5 vk_TrapCorner_240 tw_836 ⟨Nat.le_trans (by decide) hR.1, Nat.le_trans (by decide) hR.2⟩ ⟨Nat.zero_le _, Nat.zero_le _⟩ rfl hl.1 rfl (Nat.le_of_ble_eq_true rfl) dX11_run_2 (fun H locs I => ?_)
  refine lv_if_eq (tgt := 24) hx hb dX11_run_5 (by decide) (fun c6 => ?_) (fun c6 => ?_)
  · rw [if_pos c6] at hf
    exact w_X11_run_24 X hR hr  h2 ls H locs hf I (lv_sub hl [] rfl)
  · rw [if_neg c6] at hf
    refine lv_aload_n hx hb dX11_run_8 rfl (lv_at hl 0 rfl) ?_
    obtain ⟨_, g11, hf⟩ := Option.bind_eq_some_iff.mp hf
    obtain ⟨v7, h8, e9, z10, hf⟩ := cN_spec hf
    refine k_Vi (As := []) (rest := []) X I (c_X11_hasCity l g o0 e9) z10 g11 vk_TrapCorner_172 tw_793 ⟨Nat.le_trans (by decide) hR.1, Nat.le_trans (by decide) hR.2⟩ ⟨Nat.zero_le _, Nat.zero_le _⟩ rfl hl.1 rfl (Nat.le_of_ble_eq_true rfl) dX11_run_9 (fun H locs I => ?_)
    refine lv_if_eq (tgt := 24) hx hb dX11_run_12 (by decide) (fun c12 => ?_) (fun c12 => ?_)
    · rw [if_pos c12] at hf
      exact w_X11_run_24 X hR hr  h8 ls H locs hf I (lv_sub hl [] rfl)
    · rw [if_neg c12] at hf
      refine lv_iload_n hx hb dX11_run_15 rfl (lv_at hl 2 rfl) ?_
      refine lv_if_lt (tgt := 24) hx hb dX11_run_16 (by decide) (fun c13 => ?_) (fun c13 => ?_)
      · rw [if_pos c13] at hf
        exact w_X11_run_24 X hR hr  h8 ls H locs hf I (lv_sub hl [] rfl)
      · rw [if_neg c13] at hf
        refine lv_iload_n hx hb dX11_run_19 rfl (lv_at hl 2 rfl) ?_
        refine lv_iconst (v := 1) hx hb dX11_run_20 (by decide) ?_
        refine lv_icmp_le (tgt := 27) hx hb dX11_run_21 (by decide) (fun c14 => ?_) (fun c14 => ?_)
        · rw [if_pos c14] at hf
          refine lv_aload_n hx hb dX11_run_27 rfl (lv_at hl 0 rfl) ?_
          obtain ⟨v15, e16, hf⟩ := Option.bind_eq_some_iff.mp hf
          refine r_gR X I e16 lk_TrapCorner_91 dX11_run_28 ?_
          refine lv_iload_n hx hb dX11_run_31 rfl (lv_at hl 1 rfl) ?_
          obtain ⟨v17, e18, hf⟩ := Option.bind_eq_some_iff.mp hf
          refine r_aQ5 X I e18 dX11_run_32 ?_
          obtain ⟨o19, eo19, hf2⟩ := Option.bind_eq_some_iff.mp hf
          clear hf
          have hf := hf2
          subst eo19
          refine lv_astore_n (lv' := [(3, .ref (rfG g o19)), (0, .ref (rfG g o0)), (1, .int x1), (2, .int x2)]) hx hb dX11_run_33 rfl hl (by decide) rfl (fun ls hl => ?_)
          refine lv_iconst (v := 0) hx hb dX11_run_34 (by decide) ?_
          refine lv_istore (lv' := [(4, .int 0), (3, .ref (rfG g o19)), (0, .ref (rfG g o0)), (1, .int x1), (2, .int x2)]) hx hb dX11_run_35 hl (by decide) rfl (fun ls hl => ?_)
          refine lv_iconst (v := (-1)) hx hb dX11_run_37 (by decide) ?_
          refine lv_istore (lv' := [(5, .int ((-1))), (4, .int 0), (3, .ref (rfG g o19)), (0, .ref (rfG g o0)), (1, .int x1), (2, .int x2)]) hx hb dX11_run_38 hl (by decide) rfl (fun ls hl => ?_)
          refine lv_aload_n hx hb dX11_run_40 rfl (lv_at hl 3 rfl) ?_
          obtain ⟨v20, e21, hf⟩ := Option.bind_eq_some_iff.mp hf
          refine r_gR X I e21 lk_TrapCorner_53 dX11_run_41 ?_
          refine lv_aload_n hx hb dX11_run_44 rfl (lv_at hl 3 rfl) ?_
          obtain ⟨v22, e23, hf⟩ := Option.bind_eq_some_iff.mp hf
          refine r_gR X I e23 lk_TrapCorner_49 dX11_run_45 ?_
          obtain ⟨_, g28, hf⟩ := Option.bind_eq_some_iff.mp hf
          obtain ⟨⟨⟩, h25, e26, z27, hf⟩ := cN_spec hf
          refine k_Vv (As := [.ref (rfG g v22)]) (rest := []) X I (c_X8_copyFrom l g v20 v22 e26) z27 g28 vk_TrapCorner_350 tw_892 ⟨Nat.le_trans (by decide) hR.1, Nat.le_trans (by decide) hR.2⟩ ⟨Nat.zero_le _, Nat.zero_le _⟩ rfl hl.1 rfl (Nat.le_of_ble_eq_true rfl) dX11_run_48 (fun H locs I => ?_)
          refine lv_iconst (v := 0) hx hb dX11_run_51 (by decide) ?_
          refine lv_istore (lv' := [(6, .int 0), (5, .int ((-1))), (4, .int 0), (3, .ref (rfG g o19)), (0, .ref (rfG g o0)), (1, .int x1), (2, .int x2)]) hx hb dX11_run_52 hl (by decide) rfl (fun ls hl => ?_)
          exact w_X11_run_54 X hR hr fu o0 x2 o19 0 ((-1)) 0 h25 ls H locs hf I (lv_sub hl [4, 6, 3, 2, 1, 0] rfl)
        · rw [if_neg c14] at hf
          exact w_X11_run_24 X hR hr  h8 ls H locs hf I (lv_sub hl [] rfl)
def f_X11_run (o0 : Nat) (x1 : Int32) (x2 : Int32) (h : AH) : Option (Int32 × AH) := f_X11_run_0 o0 x1 x2 h
end
theorem c_X11_run (l : Launch) (g : GG) (o0 : Nat) (x1 : Int32) (x2 : Int32) {h : AH} {res : Int32 × AH} (hf : f_X11_run o0 x1 x2 h = some res) : CM l g yX11_run cX11_run 10 (some (.int)) 7 448 0 0 [.ref (rfG g o0), .int x1, .int x2] h (some (.int res.1)) res.2 :=
  k_body (by decide) (Nat.le_of_ble_eq_true rfl) (fun p e s m below meth c R ls hR hr X I hl => w_X11_run_0 X ⟨Nat.le_of_eq hR.1.symm, Nat.le_of_eq hR.2.1.symm⟩ hr o0 x1 x2 h ls s.heap [] hf I (lv_sub hl [0, 1, 2] rfl))
/-! TrapCorner.pulled(II)I -/
theorem dX11_pulled_0 : decode cX11_pulled 0 = .ok (.aload_n 0, 1) := by decide +kernel
theorem dX11_pulled_1 : decode cX11_pulled 1 = .ok (.iload_n 1, 1) := by decide +kernel
theorem dX11_pulled_2 : decode cX11_pulled 2 = .ok (.invokevirtual 194, 3) := by decide +kernel
theorem dX11_pulled_5 : decode cX11_pulled 5 = .ok (.ifCond .eq 11, 3) := by decide +kernel
theorem dX11_pulled_8 : decode cX11_pulled 8 = .ok (.aload_n 0, 1) := by decide +kernel
theorem dX11_pulled_9 : decode cX11_pulled 9 = .ok (.iload_n 2, 1) := by decide +kernel
theorem dX11_pulled_10 : decode cX11_pulled 10 = .ok (.invokevirtual 184, 3) := by decide +kernel
theorem dX11_pulled_13 : decode cX11_pulled 13 = .ok (.ifCond .ne 5, 3) := by decide +kernel
theorem dX11_pulled_16 : decode cX11_pulled 16 = .ok (.iconst (-1), 1) := by decide +kernel
theorem dX11_pulled_17 : decode cX11_pulled 17 = .ok (.ireturn, 1) := by decide +kernel
theorem dX11_pulled_18 : decode cX11_pulled 18 = .ok (.aload_n 0, 1) := by decide +kernel
theorem dX11_pulled_19 : decode cX11_pulled 19 = .ok (.iload_n 1, 1) := by decide +kernel
theorem dX11_pulled_20 : decode cX11_pulled 20 = .ok (.iload_n 2, 1) := by decide +kernel
theorem dX11_pulled_21 : decode cX11_pulled 21 = .ok (.aload_n 0, 1) := by decide +kernel
theorem dX11_pulled_22 : decode cX11_pulled 22 = .ok (.getfield 49, 3) := by decide +kernel
theorem dX11_pulled_25 : decode cX11_pulled 25 = .ok (.getfield 191, 3) := by decide +kernel
theorem dX11_pulled_28 : decode cX11_pulled 28 = .ok (.iload_n 2, 1) := by decide +kernel
theorem dX11_pulled_29 : decode cX11_pulled 29 = .ok (.iaload, 1) := by decide +kernel
theorem dX11_pulled_30 : decode cX11_pulled 30 = .ok (.invokevirtual 352, 3) := by decide +kernel
theorem dX11_pulled_33 : decode cX11_pulled 33 = .ok (.ireturn, 1) := by decide +kernel
section
variable {g : GG} {p : Program} {l : Launch} {e : Env} {R : Room} {s : State} {m : MethodId} {args : Array Value} {below : List Frame} {meth : Method} {c : Code} {n0 z0 : Nat}
def f_X11_pulled_0  (o0 : Nat) (x1 : Int32) (x2 : Int32) (h : AH) : Option (Int32 × AH) :=
  (isC [11] h o0).bind fun _ =>
  cN (f_X11_hasPerson o0 x1 h) h fun v1 h2 =>
  if v1 = 0 then
    some ((-1), h2)
  else
    (isC [11] h2 o0).bind fun _ =>
    cN (f_X11_hasCorner o0 x2 h2) h2 fun v7 h8 =>
    if v7 = 0 then
      some ((-1), h8)
    else
      (gR [11] h8 o0 5).bind fun v13 =>
      (gR [8] h8 v13 1).bind fun v15 =>
      (aI 0 h8 v15 x2).bind fun v17 =>
      (isC [11] h8 o0).bind fun _ =>
      cN (f_X11_pullBySpring o0 x1 x2 v17 h8) h8 fun v19 h20 =>
      some (v19, h20)
set_option maxHeartbeats 1000000 in
theorem w_X11_pulled_0 (X : Cx g p s m args meth c cX11_pulled 3 "TrapCorner") (hR : 5 ≤ R.frames ∧ 320 ≤ R.locals) (hr : meth.sig.returnType = (some (.int))) {res : Int32 × AH} : ∀ (o0 : Nat) (x1 : Int32) (x2 : Int32) (h : AH) (ls : Array Slot) (H : Heap) (locs : List Loc), f_X11_pulled_0 o0 x1 x2 h = some res → Iv g s n0 z0 h H locs 0 0 → lv_has ls 3 [(0, .ref (rfG g o0)), (1, .int x1), (2, .int x2)] → W p l e R s m args below meth c H locs 0 0 (MQ below (QG g (some (.int res.1)) res.2) args s 0 0 (AG g)) (F0 m 0 ls []) := by
  have hx := X.1
  have hb := X.2.1
  intro o0 x1 x2 h ls H locs hf I hl
  unfold f_X11_pulled_0 at hf
  refine lv_aload_n hx hb dX11_pulled_0 rfl (lv_at hl 0 rfl) ?_
  refine lv_iload_n hx hb dX11_pulled_1 rfl (lv_at hl 1 rfl) ?_
  obtain ⟨_, g5, hf⟩ := Option.bind_eq_some_iff.mp hf
  obtain ⟨v1, h2, e3, z4, hf⟩ := cN_spec hf
  refine k_Vi (As := [.int x1]) (rest := []) X I (c_X11_hasPerson l g o0 x1 e3) z4 g5 vk_TrapCorner_194 tw_880 ⟨Nat.le_trans (by decide) hR.1, Nat.le_trans (by decide) hR.2⟩ ⟨Nat.zero_le _, Nat.zero_le _⟩ rfl hl.1 rfl (Nat.le_of_ble_eq_true rfl) dX11_pulled_2 (fun H locs I => ?_)
  refine lv_if_eq (tgt := 16) hx hb dX11_pulled_5 (by decide) (fun c6 => ?_) (fun c6 => ?_)
  · rw [if_pos c6] at hf
    refine lv_iconst (v := (-1)) hx hb dX11_pulled_16 (by decide) ?_
    cases hf
    exact k_ri X I hr dX11_pulled_17
  · rw [if_neg c6] at hf
    refine lv_aload_n hx hb dX11_pulled_8 rfl (lv_at hl 0 rfl) ?_
    refine lv_iload_n hx hb dX11_pulled_9 rfl (lv_at hl 2 rfl) ?_
    obtain ⟨_, g11, hf⟩ := Option.bind_eq_some_iff.mp hf
    obtain ⟨v7, h8, e9, z10, hf⟩ := cN_spec hf
    refine k_Vi (As := [.int x2]) (rest := []) X I (c_X11_hasCorner l g o0 x2 e9) z10 g11 vk_TrapCorner_184 tw_801 ⟨Nat.le_trans (by decide) hR.1, Nat.le_trans (by decide) hR.2⟩ ⟨Nat.zero_le _, Nat.zero_le _⟩ rfl hl.1 rfl (Nat.le_of_ble_eq_true rfl) dX11_pulled_10 (fun H locs I => ?_)
    refine lv_if_ne (tgt := 18) hx hb dX11_pulled_13 (by decide) (fun c12 => ?_) (fun c12 => ?_)
    · rw [if_neg c12] at hf
      refine lv_aload_n hx hb dX11_pulled_18 rfl (lv_at hl 0 rfl) ?_
      refine lv_iload_n hx hb dX11_pulled_19 rfl (lv_at hl 1 rfl) ?_
      refine lv_iload_n hx hb dX11_pulled_20 rfl (lv_at hl 2 rfl) ?_
      refine lv_aload_n hx hb dX11_pulled_21 rfl (lv_at hl 0 rfl) ?_
      obtain ⟨v13, e14, hf⟩ := Option.bind_eq_some_iff.mp hf
      refine r_gR X I e14 lk_TrapCorner_49 dX11_pulled_22 ?_
      obtain ⟨v15, e16, hf⟩ := Option.bind_eq_some_iff.mp hf
      refine r_gR X I e16 lk_TrapCorner_191 dX11_pulled_25 ?_
      refine lv_iload_n hx hb dX11_pulled_28 rfl (lv_at hl 2 rfl) ?_
      obtain ⟨v17, e18, hf⟩ := Option.bind_eq_some_iff.mp hf
      refine r_aI0 X I e18 dX11_pulled_29 ?_
      obtain ⟨_, g23, hf⟩ := Option.bind_eq_some_iff.mp hf
      obtain ⟨v19, h20, e21, z22, hf⟩ := cN_spec hf
      refine k_Vi (As := [.int x1, .int x2, .int v17]) (rest := []) X I (c_X11_pullBySpring l g o0 x1 x2 v17 e21) z22 g23 vk_TrapCorner_352 tw_1036 ⟨Nat.le_trans (by decide) hR.1, Nat.le_trans (by decide) hR.2⟩ ⟨Nat.zero_le _, Nat.zero_le _⟩ rfl hl.1 rfl (Nat.le_of_ble_eq_true rfl) dX11_pulled_30 (fun H locs I => ?_)
      cases hf
      exact k_ri X I hr dX11_pulled_33
    · rw [if_pos c12] at hf
      refine lv_iconst (v := (-1)) hx hb dX11_pulled_16 (by decide) ?_
      cases hf
      exact k_ri X I hr dX11_pulled_17
def f_X11_pulled (o0 : Nat) (x1 : Int32) (x2 : Int32) (h : AH) : Option (Int32 × AH) := f_X11_pulled_0 o0 x1 x2 h
end
theorem c_X11_pulled (l : Launch) (g : GG) (o0 : Nat) (x1 : Int32) (x2 : Int32) {h : AH} {res : Int32 × AH} (hf : f_X11_pulled o0 x1 x2 h = some res) : CM l g yX11_pulled cX11_pulled 3 (some (.int)) 5 320 0 0 [.ref (rfG g o0), .int x1, .int x2] h (some (.int res.1)) res.2 :=
  k_body (by decide) (Nat.le_of_ble_eq_true rfl) (fun p e s m below meth c R ls hR hr X I hl => w_X11_pulled_0 X ⟨Nat.le_of_eq hR.1.symm, Nat.le_of_eq hR.2.1.symm⟩ hr o0 x1 x2 h ls s.heap [] hf I (lv_sub hl [0, 1, 2] rfl))
/-! TrapCorner.caught(I)I -/
theorem dX11_caught_0 : decode cX11_caught 0 = .ok (.aload_n 0, 1) := by decide +kernel
theorem dX11_caught_1 : decode cX11_caught 1 = .ok (.iload_n 1, 1) := by decide +kernel
theorem dX11_caught_2 : decode cX11_caught 2 = .ok (.invokevirtual 194, 3) := by decide +kernel
theorem dX11_caught_5 : decode cX11_caught 5 = .ok (.ifCond .ne 5, 3) := by decide +kernel
theorem dX11_caught_8 : decode cX11_caught 8 = .ok (.iconst (-1), 1) := by decide +kernel
theorem dX11_caught_9 : decode cX11_caught 9 = .ok (.ireturn, 1) := by decide +kernel
theorem dX11_caught_10 : decode cX11_caught 10 = .ok (.aload_n 0, 1) := by decide +kernel
theorem dX11_caught_11 : decode cX11_caught 11 = .ok (.getfield 75, 3) := by decide +kernel
theorem dX11_caught_14 : decode cX11_caught 14 = .ok (.aload_n 0, 1) := by decide +kernel
theorem dX11_caught_15 : decode cX11_caught 15 = .ok (.getfield 49, 3) := by decide +kernel
theorem dX11_caught_18 : decode cX11_caught 18 = .ok (.aload_n 0, 1) := by decide +kernel
theorem dX11_caught_19 : decode cX11_caught 19 = .ok (.getfield 42, 3) := by decide +kernel
theorem dX11_caught_22 : decode cX11_caught 22 = .ok (.getfield 156, 3) := by decide +kernel
theorem dX11_caught_25 : decode cX11_caught 25 = .ok (.iconst 0, 1) := by decide +kernel
theorem dX11_caught_26 : decode cX11_caught 26 = .ok (.invokevirtual 343, 3) := by decide +kernel
theorem dX11_caught_29 : decode cX11_caught 29 = .ok (.aload_n 0, 1) := by decide +kernel
theorem dX11_caught_30 : decode cX11_caught 30 = .ok (.getfield 75, 3) := by decide +kernel
theorem dX11_caught_33 : decode cX11_caught 33 = .ok (.getfield 360, 3) := by decide +kernel
theorem dX11_caught_36 : decode cX11_caught 36 = .ok (.iload_n 1, 1) := by decide +kernel
theorem dX11_caught_37 : decode cX11_caught 37 = .ok (.iaload, 1) := by decide +kernel
theorem dX11_caught_38 : decode cX11_caught 38 = .ok (.ireturn, 1) := by decide +kernel
theorem lk_TrapCorner_360 : LK "TrapCorner" 360 [6] 2 := by
  intro ci hci
  have hci := List.mem_singleton.mp hci
  subst hci
  exact ⟨RX6, TX6, 7, "TrapCorner$Round", ck_6, by decide, tw_303, Or.inl rfl⟩
section
variable {g : GG} {p : Program} {l : Launch} {e : Env} {R : Room} {s : State} {m : MethodId} {args : Array Value} {below : List Frame} {meth : Method} {c : Code} {n0 z0 : Nat}
def f_X11_caught_0  (o0 : Nat) (x1 : Int32) (h : AH) : Option (Int32 × AH) :=
  (isC [11] h o0).bind fun _ =>
  cN (f_X11_hasPerson o0 x1 h) h fun v1 h2 =>
  if v1 = 0 then
    some ((-1), h2)
  else
    (gR [11] h2 o0 9).bind fun v7 =>
    (gR [11] h2 o0 5).bind fun v9 =>
    (gR [11] h2 o0 4).bind fun v11 =>
    (gI [10] h2 v11 1).bind fun v13 =>
    (isC [6] h2 v7).bind fun _ =>
    cN (f_X6_play v7 v9 v13 0 h2) h2 fun _ h16 =>
    (gR [11] h16 o0 9).bind fun v20 =>
    (gR [6] h16 v20 2).bind fun v22 =>
    (aI 0 h16 v22 x1).bind fun v24 =>
    some (v24, h16)
set_option maxHeartbeats 1000000 in
theorem w_X11_caught_0 (X : Cx g p s m args meth c cX11_caught 2 "TrapCorner") (hR : 6 ≤ R.frames ∧ 384 ≤ R.locals) (hr : meth.sig.returnType = (some (.int))) {res : Int32 × AH} : ∀ (o0 : Nat) (x1 : Int32) (h : AH) (ls : Array Slot) (H : Heap) (locs : List Loc), f_X11_caught_0 o0 x1 h = some res → Iv g s n0 z0 h H locs 0 0 → lv_has ls 2 [(0, .ref (rfG g o0)), (1, .int x1)] → W p l e R s m args below meth c H locs 0 0 (MQ below (QG g (some (.int res.1)) res.2) args s 0 0 (AG g)) (F0 m 0 ls []) := by
  have hx := X.1
  have hb := X.2.1
  intro o0 x1 h ls H locs hf I hl
  unfold f_X11_caught_0 at hf
  refine lv_aload_n hx hb dX11_caught_0 rfl (lv_at hl 0 rfl) ?_
  refine lv_iload_n hx hb dX11_caught_1 rfl (lv_at hl 1 rfl) ?_
  obtain ⟨_, g5, hf⟩ := Option.bind_eq_some_iff.mp hf
  obtain ⟨v1, h2, e3, z4, hf⟩ := cN_spec hf
  refine k_Vi (As := [.int x1]) (rest := []) X I (c_X11_hasPerson l g o0 x1 e3) z4 g5 vk_TrapCorner_194 tw_880 ⟨Nat.le_trans (by decide) hR.1, Nat.le_trans (by decide) hR.2⟩ ⟨Nat.zero_le _, Nat.zero_le _⟩ rfl hl.1 rfl (Nat.le_of_ble_eq_true rfl) dX11_caught_2 (fun H locs I => ?_)
  refine lv_if_ne (tgt := 10) hx hb dX11_caught_5 (by decide) (fun c6 => ?_) (fun c6 => ?_)
  · rw [if_neg c6] at hf
    refine lv_aload_n hx hb dX11_caught_10 rfl (lv_at hl 0 rfl) ?_
    obtain ⟨v7, e8, hf⟩ := Option.bind_eq_some_iff.mp hf
    refine r_gR X I e8 lk_TrapCorner_75 dX11_caught_11 ?_
    refine lv_aload_n hx hb dX11_caught_14 rfl (lv_at hl 0 rfl) ?_
    obtain ⟨v9, e10, hf⟩ := Option.bind_eq_some_iff.mp hf
    refine r_gR X I e10 lk_TrapCorner_49 dX11_caught_15 ?_
    refine lv_aload_n hx hb dX11_caught_18 rfl (lv_at hl 0 rfl) ?_
    obtain ⟨v11, e12, hf⟩ := Option.bind_eq_some_iff.mp hf
    refine r_gR X I e12 lk_TrapCorner_42 dX11_caught_19 ?_
    obtain ⟨v13, e14, hf⟩ := Option.bind_eq_some_iff.mp hf
    refine r_gI X I e14 lk_TrapCorner_156 dX11_caught_22 ?_
    refine lv_iconst (v := 0) hx hb dX11_caught_25 (by decide) ?_
    obtain ⟨_, g19, hf⟩ := Option.bind_eq_some_iff.mp hf
    obtain ⟨⟨⟩, h16, e17, z18, hf⟩ := cN_spec hf
    refine k_Vv (As := [.ref (rfG g v9), .int v13, .int 0]) (rest := []) X I (c_X6_play l g v7 v9 v13 0 e17) z18 g19 vk_TrapCorner_343 tw_901 ⟨Nat.le_trans (by decide) hR.1, Nat.le_trans (by decide) hR.2⟩ ⟨Nat.zero_le _, Nat.zero_le _⟩ rfl hl.1 rfl (Nat.le_of_ble_eq_true rfl) dX11_caught_26 (fun H locs I => ?_)
    refine lv_aload_n hx hb dX11_caught_29 rfl (lv_at hl 0 rfl) ?_
    obtain ⟨v20, e21, hf⟩ := Option.bind_eq_some_iff.mp hf
    refine r_gR X I e21 lk_TrapCorner_75 dX11_caught_30 ?_
    obtain ⟨v22, e23, hf⟩ := Option.bind_eq_some_iff.mp hf
    refine r_gR X I e23 lk_TrapCorner_360 dX11_caught_33 ?_
    refine lv_iload_n hx hb dX11_caught_36 rfl (lv_at hl 1 rfl) ?_
    obtain ⟨v24, e25, hf⟩ := Option.bind_eq_some_iff.mp hf
    refine r_aI0 X I e25 dX11_caught_37 ?_
    cases hf
    exact k_ri X I hr dX11_caught_38
  · rw [if_pos c6] at hf
    refine lv_iconst (v := (-1)) hx hb dX11_caught_8 (by decide) ?_
    cases hf
    exact k_ri X I hr dX11_caught_9
def f_X11_caught (o0 : Nat) (x1 : Int32) (h : AH) : Option (Int32 × AH) := f_X11_caught_0 o0 x1 h
end
theorem c_X11_caught (l : Launch) (g : GG) (o0 : Nat) (x1 : Int32) {h : AH} {res : Int32 × AH} (hf : f_X11_caught o0 x1 h = some res) : CM l g yX11_caught cX11_caught 2 (some (.int)) 6 384 0 0 [.ref (rfG g o0), .int x1] h (some (.int res.1)) res.2 :=
  k_body (by decide) (Nat.le_of_ble_eq_true rfl) (fun p e s m below meth c R ls hR hr X I hl => w_X11_caught_0 X ⟨Nat.le_of_eq hR.1.symm, Nat.le_of_eq hR.2.1.symm⟩ hr o0 x1 h ls s.heap [] hf I (lv_sub hl [0, 1] rfl))
/-! TrapCorner.baits(II)I -/
theorem dX11_baits_0 : decode cX11_baits 0 = .ok (.aload_n 0, 1) := by decide +kernel
theorem dX11_baits_1 : decode cX11_baits 1 = .ok (.invokevirtual 172, 3) := by decide +kernel
theorem dX11_baits_4 : decode cX11_baits 4 = .ok (.ifCond .eq 29, 3) := by decide +kernel
theorem dX11_baits_7 : decode cX11_baits 7 = .ok (.iload_n 1, 1) := by decide +kernel
theorem dX11_baits_8 : decode cX11_baits 8 = .ok (.ifCond .lt 25, 3) := by decide +kernel
theorem dX11_baits_11 : decode cX11_baits 11 = .ok (.iload_n 1, 1) := by decide +kernel
theorem dX11_baits_12 : decode cX11_baits 12 = .ok (.iconst 1, 1) := by decide +kernel
theorem dX11_baits_13 : decode cX11_baits 13 = .ok (.aload_n 0, 1) := by decide +kernel
theorem dX11_baits_14 : decode cX11_baits 14 = .ok (.getfield 42, 3) := by decide +kernel
theorem dX11_baits_17 : decode cX11_baits 17 = .ok (.getfield 156, 3) := by decide +kernel
theorem dX11_baits_20 : decode cX11_baits 20 = .ok (.ishl, 1) := by decide +kernel
theorem dX11_baits_21 : decode cX11_baits 21 = .ok (.if_icmp .ge 12, 3) := by decide +kernel
theorem dX11_baits_24 : decode cX11_baits 24 = .ok (.iload_n 2, 1) := by decide +kernel
theorem dX11_baits_25 : decode cX11_baits 25 = .ok (.ifCond .lt 8, 3) := by decide +kernel
theorem dX11_baits_28 : decode cX11_baits 28 = .ok (.iload_n 2, 1) := by decide +kernel
theorem dX11_baits_29 : decode cX11_baits 29 = .ok (.iconst 1, 1) := by decide +kernel
theorem dX11_baits_30 : decode cX11_baits 30 = .ok (.if_icmp .le 5, 3) := by decide +kernel
theorem dX11_baits_33 : decode cX11_baits 33 = .ok (.iconst (-1), 1) := by decide +kernel
theorem dX11_baits_34 : decode cX11_baits 34 = .ok (.ireturn, 1) := by decide +kernel
theorem dX11_baits_35 : decode cX11_baits 35 = .ok (.aload_n 0, 1) := by decide +kernel
theorem dX11_baits_36 : decode cX11_baits 36 = .ok (.getfield 53, 3) := by decide +kernel
theorem dX11_baits_39 : decode cX11_baits 39 = .ok (.aload_n 0, 1) := by decide +kernel
theorem dX11_baits_40 : decode cX11_baits 40 = .ok (.getfield 49, 3) := by decide +kernel
theorem dX11_baits_43 : decode cX11_baits 43 = .ok (.invokevirtual 350, 3) := by decide +kernel
theorem dX11_baits_46 : decode cX11_baits 46 = .ok (.ldc_w 363, 3) := by decide +kernel
theorem dX11_baits_49 : decode cX11_baits 49 = .ok (.istore_n 3, 1) := by decide +kernel
theorem dX11_baits_50 : decode cX11_baits 50 = .ok (.iconst (-1), 1) := by decide +kernel
theorem dX11_baits_51 : decode cX11_baits 51 = .ok (.istore 4, 2) := by decide +kernel
theorem dX11_baits_53 : decode cX11_baits 53 = .ok (.iconst 1, 1) := by decide +kernel
theorem dX11_baits_54 : decode cX11_baits 54 = .ok (.iconst 2, 1) := by decide +kernel
theorem dX11_baits_55 : decode cX11_baits 55 = .ok (.aload_n 0, 1) := by decide +kernel
theorem dX11_baits_56 : decode cX11_baits 56 = .ok (.getfield 42, 3) := by decide +kernel
theorem dX11_baits_59 : decode cX11_baits 59 = .ok (.getfield 253, 3) := by decide +kernel
theorem dX11_baits_62 : decode cX11_baits 62 = .ok (.imul, 1) := by decide +kernel
theorem dX11_baits_63 : decode cX11_baits 63 = .ok (.ishl, 1) := by decide +kernel
theorem dX11_baits_64 : decode cX11_baits 64 = .ok (.istore 5, 2) := by decide +kernel
theorem dX11_baits_66 : decode cX11_baits 66 = .ok (.iconst 0, 1) := by decide +kernel
theorem dX11_baits_67 : decode cX11_baits 67 = .ok (.istore 6, 2) := by decide +kernel
theorem dX11_baits_69 : decode cX11_baits 69 = .ok (.iload 6, 2) := by decide +kernel
theorem dX11_baits_71 : decode cX11_baits 71 = .ok (.iload 5, 2) := by decide +kernel
theorem dX11_baits_73 : decode cX11_baits 73 = .ok (.if_icmp .ge 108, 3) := by decide +kernel
theorem dX11_baits_76 : decode cX11_baits 76 = .ok (.aload_n 0, 1) := by decide +kernel
theorem dX11_baits_77 : decode cX11_baits 77 = .ok (.iload 6, 2) := by decide +kernel
theorem dX11_baits_79 : decode cX11_baits 79 = .ok (.invokevirtual 364, 3) := by decide +kernel
theorem dX11_baits_82 : decode cX11_baits 82 = .ok (.istore 7, 2) := by decide +kernel
theorem dX11_baits_84 : decode cX11_baits 84 = .ok (.aload_n 0, 1) := by decide +kernel
theorem dX11_baits_85 : decode cX11_baits 85 = .ok (.getfield 75, 3) := by decide +kernel
theorem dX11_baits_88 : decode cX11_baits 88 = .ok (.aload_n 0, 1) := by decide +kernel
theorem dX11_baits_89 : decode cX11_baits 89 = .ok (.getfield 53, 3) := by decide +kernel
theorem dX11_baits_92 : decode cX11_baits 92 = .ok (.aload_n 0, 1) := by decide +kernel
theorem dX11_baits_93 : decode cX11_baits 93 = .ok (.getfield 42, 3) := by decide +kernel
theorem dX11_baits_96 : decode cX11_baits 96 = .ok (.getfield 156, 3) := by decide +kernel
theorem dX11_baits_99 : decode cX11_baits 99 = .ok (.iload 6, 2) := by decide +kernel
theorem dX11_baits_101 : decode cX11_baits 101 = .ok (.ifCond .le 7, 3) := by decide +kernel
theorem dX11_baits_104 : decode cX11_baits 104 = .ok (.iconst 1, 1) := by decide +kernel
theorem dX11_baits_105 : decode cX11_baits 105 = .ok (.goto 4, 3) := by decide +kernel
theorem dX11_baits_108 : decode cX11_baits 108 = .ok (.iconst 0, 1) := by decide +kernel
theorem dX11_baits_109 : decode cX11_baits 109 = .ok (.invokevirtual 343, 3) := by decide +kernel
theorem dX11_baits_112 : decode cX11_baits 112 = .ok (.aload_n 0, 1) := by decide +kernel
theorem dX11_baits_113 : decode cX11_baits 113 = .ok (.getfield 75, 3) := by decide +kernel
theorem dX11_baits_116 : decode cX11_baits 116 = .ok (.getfield 284, 3) := by decide +kernel
theorem dX11_baits_119 : decode cX11_baits 119 = .ok (.iload_n 1, 1) := by decide +kernel
theorem dX11_baits_120 : decode cX11_baits 120 = .ok (.iconst (-1), 1) := by decide +kernel
theorem dX11_baits_121 : decode cX11_baits 121 = .ok (.ixor, 1) := by decide +kernel
theorem dX11_baits_122 : decode cX11_baits 122 = .ok (.iand, 1) := by decide +kernel
theorem dX11_baits_123 : decode cX11_baits 123 = .ok (.invokestatic 287, 3) := by decide +kernel
theorem dX11_baits_126 : decode cX11_baits 126 = .ok (.istore 8, 2) := by decide +kernel
theorem dX11_baits_128 : decode cX11_baits 128 = .ok (.iload 8, 2) := by decide +kernel
theorem dX11_baits_130 : decode cX11_baits 130 = .ok (.bipush 10, 2) := by decide +kernel
theorem dX11_baits_132 : decode cX11_baits 132 = .ok (.imul, 1) := by decide +kernel
theorem dX11_baits_133 : decode cX11_baits 133 = .ok (.iload 7, 2) := by decide +kernel
theorem dX11_baits_135 : decode cX11_baits 135 = .ok (.iadd, 1) := by decide +kernel
theorem dX11_baits_136 : decode cX11_baits 136 = .ok (.istore 9, 2) := by decide +kernel
theorem dX11_baits_138 : decode cX11_baits 138 = .ok (.aload_n 0, 1) := by decide +kernel
theorem dX11_baits_139 : decode cX11_baits 139 = .ok (.getfield 75, 3) := by decide +kernel
theorem dX11_baits_142 : decode cX11_baits 142 = .ok (.getfield 284, 3) := by decide +kernel
theorem dX11_baits_145 : decode cX11_baits 145 = .ok (.iload_n 1, 1) := by decide +kernel
theorem dX11_baits_146 : decode cX11_baits 146 = .ok (.iand, 1) := by decide +kernel
theorem dX11_baits_147 : decode cX11_baits 147 = .ok (.iload_n 1, 1) := by decide +kernel
theorem dX11_baits_148 : decode cX11_baits 148 = .ok (.if_icmp .ne 27, 3) := by decide +kernel
theorem dX11_baits_151 : decode cX11_baits 151 = .ok (.iload 9, 2) := by decide +kernel
theorem dX11_baits_153 : decode cX11_baits 153 = .ok (.iload_n 3, 1) := by decide +kernel
theorem dX11_baits_154 : decode cX11_baits 154 = .ok (.if_icmp .ge 21, 3) := by decide +kernel
theorem dX11_baits_157 : decode cX11_baits 157 = .ok (.iload 9, 2) := by decide +kernel
theorem dX11_baits_159 : decode cX11_baits 159 = .ok (.istore_n 3, 1) := by decide +kernel
theorem dX11_baits_160 : decode cX11_baits 160 = .ok (.iload_n 2, 1) := by decide +kernel
theorem dX11_baits_161 : decode cX11_baits 161 = .ok (.ifCond .ne 10, 3) := by decide +kernel
theorem dX11_baits_164 : decode cX11_baits 164 = .ok (.aload_n 0, 1) := by decide +kernel
theorem dX11_baits_165 : decode cX11_baits 165 = .ok (.invokevirtual 367, 3) := by decide +kernel
theorem dX11_baits_168 : decode cX11_baits 168 = .ok (.goto 5, 3) := by decide +kernel
theorem dX11_baits_171 : decode cX11_baits 171 = .ok (.iload 8, 2) := by decide +kernel
theorem dX11_baits_173 : decode cX11_baits 173 = .ok (.istore 4, 2) := by decide +kernel
theorem dX11_baits_175 : decode cX11_baits 175 = .ok (.iinc 6 1, 3) := by decide +kernel
theorem dX11_baits_178 : decode cX11_baits 178 = .ok (.goto (-109), 3) := by decide +kernel
theorem dX11_baits_181 : decode cX11_baits 181 = .ok (.iload 4, 2) := by decide +kernel
theorem dX11_baits_183 : decode cX11_baits 183 = .ok (.ireturn, 1) := by decide +kernel
theorem vk_TrapCorner_367 : VK "TrapCorner" 367 [11] yX11_digitsOfRow 0 := ⟨tw_1051, tw_1053, tw_1, ⟨by decide, by decide⟩, by decide +kernel, fun ci hci => by
  have hci := List.mem_singleton.mp hci
  subst hci
  exact ⟨_, rfl, tp_36⟩⟩
theorem vk_TrapCorner_364 : VK "TrapCorner" 364 [11] yX11_layRow 1 := ⟨tw_1047, tw_1049, tw_1, ⟨by decide, by decide⟩, by decide +kernel, fun ci hci => by
  have hci := List.mem_singleton.mp hci
  subst hci
  exact ⟨_, rfl, tp_35⟩⟩
section
variable {g : GG} {p : Program} {l : Launch} {e : Env} {R : Room} {s : State} {m : MethodId} {args : Array Value} {below : List Frame} {meth : Method} {c : Code} {n0 z0 : Nat}
def f_X11_baits_175 (k69 : Nat → Int32 → Int32 → Int32 → Int32 → Int32 → Int32 → AH → Option (Int32 × AH)) (o0 : Nat) (x1 : Int32) (x2 : Int32) (x3 : Int32) (x4 : Int32) (x5 : Int32) (x6 : Int32) (h : AH) : Option (Int32 × AH) :=
  k69 o0 x1 x2 x3 x4 x5 (x6 + 1) h
set_option maxHeartbeats 1000000 in
theorem w_X11_baits_175 (X : Cx g p s m args meth c cX11_baits 10 "TrapCorner") (hR : 6 ≤ R.frames ∧ 384 ≤ R.locals) (hr : meth.sig.returnType = (some (.int))) {res : Int32 × AH} {k69 : Nat → Int32 → Int32 → Int32 → Int32 → Int32 → Int32 → AH → Option (Int32 × AH)} (hk69 : ∀ (o0 : Nat) (x1 : Int32) (x2 : Int32) (x3 : Int32) (x4 : Int32) (x5 : Int32) (x6 : Int32) (h : AH) (ls : Array Slot) (H : Heap) (locs : List Loc), k69 o0 x1 x2 x3 x4 x5 x6 h = some res → Iv g s n0 z0 h H locs 0 0 → lv_has ls 10 [(0, .ref (rfG g o0)), (1, .int x1), (2, .int x2), (3, .int x3), (4, .int x4), (5, .int x5), (6, .int x6)] → W p l e R s m args below meth c H locs 0 0 (MQ below (QG g (some (.int res.1)) res.2) args s 0 0 (AG g)) (F0 m 69 ls [])) : ∀ (o0 : Nat) (x1 : Int32) (x2 : Int32) (x3 : Int32) (x4 : Int32) (x5 : Int32) (x6 : Int32) (h : AH) (ls : Array Slot) (H : Heap) (locs : List Loc), f_X11_baits_175 k69 o0 x1 x2 x3 x4 x5 x6 h = some res → Iv g s n0 z0 h H locs 0 0 → lv_has ls 10 [(0, .ref (rfG g o0)), (1, .int x1), (2, .int x2), (3, .int x3), (4, .int x4), (5, .int x5), (6, .int x6)] → W p l e R s m args below meth c H locs 0 0 (MQ below (QG g (some (.int res.1)) res.2) args s 0 0 (AG g)) (F0 m 175 ls []) := by
  have hx := X.1
  have hb := X.2.1
  intro o0 x1 x2 x3 x4 x5 x6 h ls H locs hf I hl
  unfold f_X11_baits_175 at hf
  refine lv_iinc (v := x6 + 1) (lv' := [(6, .int (x6 + 1)), (0, .ref (rfG g o0)), (1, .int x1), (2, .int x2), (3, .int x3), (4, .int x4), (5, .int x5)]) hx hb dX11_baits_175 hl (k := 6) rfl rfl (by decide) rfl (fun ls hl => ?_)
  refine lv_goto (tgt := 69) hx hb dX11_baits_178 (by decide) ?_
  exact hk69 o0 x1 x2 x3 x4 x5 (x6 + 1) h ls H locs hf I (lv_sub hl [1, 2, 3, 4, 5, 6, 0] rfl)
def f_X11_baits_173 (k69 : Nat → Int32 → Int32 → Int32 → Int32 → Int32 → Int32 → AH → Option (Int32 × AH)) (o0 : Nat) (x1 : Int32) (x2 : Int32) (x3 : Int32) (x5 : Int32) (x6 : Int32) (s0 : Int32) (h : AH) : Option (Int32 × AH) :=
  f_X11_baits_175 k69 o0 x1 x2 x3 s0 x5 x6 h
set_option maxHeartbeats 1000000 in
theorem w_X11_baits_173 (X : Cx g p s m args meth c cX11_baits 10 "TrapCorner") (hR : 6 ≤ R.frames ∧ 384 ≤ R.locals) (hr : meth.sig.returnType = (some (.int))) {res : Int32 × AH} {k69 : Nat → Int32 → Int32 → Int32 → Int32 → Int32 → Int32 → AH → Option (Int32 × AH)} (hk69 : ∀ (o0 : Nat) (x1 : Int32) (x2 : Int32) (x3 : Int32) (x4 : Int32) (x5 : Int32) (x6 : Int32) (h : AH) (ls : Array Slot) (H : Heap) (locs : List Loc), k69 o0 x1 x2 x3 x4 x5 x6 h = some res → Iv g s n0 z0 h H locs 0 0 → lv_has ls 10 [(0, .ref (rfG g o0)), (1, .int x1), (2, .int x2), (3, .int x3), (4, .int x4), (5, .int x5), (6, .int x6)] → W p l e R s m args below meth c H locs 0 0 (MQ below (QG g (some (.int res.1)) res.2) args s 0 0 (AG g)) (F0 m 69 ls [])) : ∀ (o0 : Nat) (x1 : Int32) (x2 : Int32) (x3 : Int32) (x5 : Int32) (x6 : Int32) (s0 : Int32) (h : AH) (ls : Array Slot) (H : Heap) (locs : List Loc), f_X11_baits_173 k69 o0 x1 x2 x3 x5 x6 s0 h = some res → Iv g s n0 z0 h H locs 0 0 → lv_has ls 10 [(0, .ref (rfG g o0)), (1, .int x1), (2, .int x2), (3, .int x3), (5, .int x5), (6, .int x6)] → W p l e R s m args below meth c H locs 0 0 (MQ below (QG g (some (.int res.1)) res.2) args s 0 0 (AG g)) (F0 m 173 ls [.int s0]) := by
  have hx := X.1
  have hb := X.2.1
  intro o0 x1 x2 x3 x5 x6 s0 h ls H locs hf I hl
  unfold f_X11_baits_173 at hf
  refine lv_istore (lv' := [(4, .int s0), (0, .ref (rfG g o0)), (1, .int x1), (2, .int x2), (3, .int x3), (5, .int x5), (6, .int x6)]) hx hb dX11_baits_173 hl (by decide) rfl (fun ls hl => ?_)
  exact w_X11_baits_175 X hR hr hk69 o0 x1 x2 x3 s0 x5 x6 h ls H locs hf I (lv_sub hl [1, 2, 3, 4, 0, 5, 6] rfl)
def f_X11_baits_109 (k69 : Nat → Int32 → Int32 → Int32 → Int32 → Int32 → Int32 → AH → Option (Int32 × AH)) (o0 : Nat) (x1 : Int32) (x2 : Int32) (x3 : Int32) (x4 : Int32) (x5 : Int32) (x6 : Int32) (x7 : Int32) (s0 : Nat) (s1 : Nat) (s2 : Int32) (s3 : Int32) (h : AH) : Option (Int32 × AH) :=
  (isC [6] h s0).bind fun _ =>
  cN (f_X6_play s0 s1 s2 s3 h) h fun _ h2 =>
  (gR [11] h2 o0 9).bind fun v6 =>
  (gI [6] h2 v6 3).bind fun v8 =>
  cN (f_J6_bitCount_0f7a4 (v8 &&& (x1 ^^^ ((-1)))) h2) h2 fun v10 h11 =>
  (gR [11] h11 o0 9).bind fun v14 =>
  (gI [6] h11 v14 3).bind fun v16 =>
  if (v16 &&& x1) = x1 then
    if x3 ≤ ((v10 * 10) + x7) then
      f_X11_baits_175 k69 o0 x1 x2 x3 x4 x5 x6 h11
    else
      if x2 = 0 then
        (isC [11] h11 o0).bind fun _ =>
        cN (f_X11_digitsOfRow o0 h11) h11 fun v21 h22 =>
        f_X11_baits_173 k69 o0 x1 x2 ((v10 * 10) + x7) x5 x6 v21 h22
      else
        f_X11_baits_173 k69 o0 x1 x2 ((v10 * 10) + x7) x5 x6 v10 h11
  else
    f_X11_baits_175 k69 o0 x1 x2 x3 x4 x5 x6 h11
set_option maxHeartbeats 1000000 in
theorem w_X11_baits_109 (X : Cx g p s m args meth c cX11_baits 10 "TrapCorner") (hR : 6 ≤ R.frames ∧ 384 ≤ R.locals) (hr : meth.sig.returnType = (some (.int))) {res : Int32 × AH} {k69 : Nat → Int32 → Int32 → Int32 → Int32 → Int32 → Int32 → AH → Option (Int32 × AH)} (hk69 : ∀ (o0 : Nat) (x1 : Int32) (x2 : Int32) (x3 : Int32) (x4 : Int32) (x5 : Int32) (x6 : Int32) (h : AH) (ls : Array Slot) (H : Heap) (locs : List Loc), k69 o0 x1 x2 x3 x4 x5 x6 h = some res → Iv g s n0 z0 h H locs 0 0 → lv_has ls 10 [(0, .ref (rfG g o0)), (1, .int x1), (2, .int x2), (3, .int x3), (4, .int x4), (5, .int x5), (6, .int x6)] → W p l e R s m args below meth c H locs 0 0 (MQ below (QG g (some (.int res.1)) res.2) args s 0 0 (AG g)) (F0 m 69 ls [])) : ∀ (o0 : Nat) (x1 : Int32) (x2 : Int32) (x3 : Int32) (x4 : Int32) (x5 : Int32) (x6 : Int32) (x7 : Int32) (s0 : Nat) (s1 : Nat) (s2 : Int32) (s3 : Int32) (h : AH) (ls : Array Slot) (H : Heap) (locs : List Loc), f_X11_baits_109 k69 o0 x1 x2 x3 x4 x5 x6 x7 s0 s1 s2 s3 h = some res → Iv g s n0 z0 h H locs 0 0 → lv_has ls 10 [(0, .ref (rfG g o0)), (1, .int x1), (2, .int x2), (3, .int x3), (4, .int x4), (5, .int x5), (6, .int x6), (7, .int x7)] → W p l e R s m args below meth c H locs 0 0 (MQ below (QG g (some (.int res.1)) res.2) args s 0 0 (AG g)) (F0 m 109 ls [.int s3, .int s2, .ref (rfG g s1), .ref (rfG g s0)]) := by
  have hx := X.1
  have hb := X.2.1
  intro o0 x1 x2 x3 x4 x5 x6 x7 s0 s1 s2 s3 h ls H locs hf I hl
  unfold f_X11_baits_109 at hf
  obtain ⟨_, g5, hf⟩ := Option.bind_eq_some_iff.mp hf
  obtain ⟨⟨⟩, h2, e3, z4, hf⟩ := cN_spec hf
  refine k_Vv (As := [.ref (rfG g s1), .int s2, .int s3]) (rest := []) X I (c_X6_play l g s0 s1 s2 s3 e3) z4 g5 vk_TrapCorner_343 tw_901 ⟨Nat.le_trans (by decide) hR.1, Nat.le_trans (by decide) hR.2⟩ ⟨Nat.zero_le _, Nat.zero_le _⟩ rfl hl.1 rfl (Nat.le_of_ble_eq_true rfl) dX11_baits_109 (fun H locs I => ?_)
  refine lv_aload_n hx hb dX11_baits_112 rfl (lv_at hl 0 rfl) ?_
  obtain ⟨v6, e7, hf⟩ := Option.bind_eq_some_iff.mp hf
  refine r_gR X I e7 lk_TrapCorner_75 dX11_baits_113 ?_
  obtain ⟨v8, e9, hf⟩ := Option.bind_eq_some_iff.mp hf
  refine r_gI X I e9 lk_TrapCorner_284 dX11_baits_116 ?_
  refine lv_iload_n hx hb dX11_baits_119 rfl (lv_at hl 1 rfl) ?_
  refine lv_iconst (v := (-1)) hx hb dX11_baits_120 (by decide) ?_
  refine lv_ixor hx hb dX11_baits_121 ?_
  refine lv_iand hx hb dX11_baits_122 ?_
  obtain ⟨v10, h11, e12, z13, hf⟩ := cN_spec hf
  refine k_Si (As := [.int (v8 &&& (x1 ^^^ ((-1))))]) (rest := []) X I (c_J6_bitCount_0f7a4 l g (v8 &&& (x1 ^^^ ((-1)))) e12) z13 sk_TrapCorner_287 tw_957 ⟨Nat.le_trans (by decide) hR.1, Nat.le_trans (by decide) hR.2⟩ ⟨Nat.zero_le _, Nat.zero_le _⟩ rfl hl.1 rfl (Nat.le_of_ble_eq_true rfl) dX11_baits_123 (fun H locs I => ?_)
  refine lv_istore (lv' := [(8, .int v10), (0, .ref (rfG g o0)), (1, .int x1), (2, .int x2), (3, .int x3), (4, .int x4), (5, .int x5), (6, .int x6), (7, .int x7)]) hx hb dX11_baits_126 hl (by decide) rfl (fun ls hl => ?_)
  refine lv_iload hx hb dX11_baits_128 (lv_at hl 0 rfl) ?_
  refine lv_bipush (v := 10) hx hb dX11_baits_130 (by decide) ?_
  refine lv_imul hx hb dX11_baits_132 ?_
  refine lv_iload hx hb dX11_baits_133 (lv_at hl 8 rfl) ?_
  refine lv_iadd hx hb dX11_baits_135 ?_
  refine lv_istore (lv' := [(9, .int ((v10 * 10) + x7)), (8, .int v10), (0, .ref (rfG g o0)), (1, .int x1), (2, .int x2), (3, .int x3), (4, .int x4), (5, .int x5), (6, .int x6), (7, .int x7)]) hx hb dX11_baits_136 hl (by decide) rfl (fun ls hl => ?_)
  refine lv_aload_n hx hb dX11_baits_138 rfl (lv_at hl 2 rfl) ?_
  obtain ⟨v14, e15, hf⟩ := Option.bind_eq_some_iff.mp hf
  refine r_gR X I e15 lk_TrapCorner_75 dX11_baits_139 ?_
  obtain ⟨v16, e17, hf⟩ := Option.bind_eq_some_iff.mp hf
  refine r_gI X I e17 lk_TrapCorner_284 dX11_baits_142 ?_
  refine lv_iload_n hx hb dX11_baits_145 rfl (lv_at hl 3 rfl) ?_
  refine lv_iand hx hb dX11_baits_146 ?_
  refine lv_iload_n hx hb dX11_baits_147 rfl (lv_at hl 3 rfl) ?_
  refine lv_icmp_ne (tgt := 175) hx hb dX11_baits_148 (by decide) (fun c18 => ?_) (fun c18 => ?_)
  · rw [if_neg c18] at hf
    exact w_X11_baits_175 X hR hr hk69 o0 x1 x2 x3 x4 x5 x6 h11 ls H locs hf I (lv_sub hl [2, 3, 4, 5, 6, 7, 8] rfl)
  · rw [if_pos c18] at hf
    refine lv_iload hx hb dX11_baits_151 (lv_at hl 0 rfl) ?_
    refine lv_iload_n hx hb dX11_baits_153 rfl (lv_at hl 5 rfl) ?_
    refine lv_icmp_ge (tgt := 175) hx hb dX11_baits_154 (by decide) (fun c19 => ?_) (fun c19 => ?_)
    · rw [if_pos c19] at hf
      exact w_X11_baits_175 X hR hr hk69 o0 x1 x2 x3 x4 x5 x6 h11 ls H locs hf I (lv_sub hl [2, 3, 4, 5, 6, 7, 8] rfl)
    · rw [if_neg c19] at hf
      refine lv_iload hx hb dX11_baits_157 (lv_at hl 0 rfl) ?_
      refine lv_istore_n (lv' := [(3, .int ((v10 * 10) + x7)), (9, .int ((v10 * 10) + x7)), (8, .int v10), (0, .ref (rfG g o0)), (1, .int x1), (2, .int x2), (4, .int x4), (5, .int x5), (6, .int x6), (7, .int x7)]) hx hb dX11_baits_159 rfl hl (by decide) rfl (fun ls hl => ?_)
      refine lv_iload_n hx hb dX11_baits_160 rfl (lv_at hl 5 rfl) ?_
      refine lv_if_ne (tgt := 171) hx hb dX11_baits_161 (by decide) (fun c20 => ?_) (fun c20 => ?_)
      · rw [if_neg c20] at hf
        refine lv_iload hx hb dX11_baits_171 (lv_at hl 2 rfl) ?_
        exact w_X11_baits_173 X hR hr hk69 o0 x1 x2 ((v10 * 10) + x7) x5 x6 v10 h11 ls H locs hf I (lv_sub hl [3, 4, 5, 0, 7, 8] rfl)
      · rw [if_pos c20] at hf
        refine lv_aload_n hx hb dX11_baits_164 rfl (lv_at hl 3 rfl) ?_
        obtain ⟨_, g25, hf⟩ := Option.bind_eq_some_iff.mp hf
        obtain ⟨v21, h22, e23, z24, hf⟩ := cN_spec hf
        refine k_Vi (As := []) (rest := []) X I (c_X11_digitsOfRow l g o0 e23) z24 g25 vk_TrapCorner_367 tw_1054 ⟨Nat.le_trans (by decide) hR.1, Nat.le_trans (by decide) hR.2⟩ ⟨Nat.zero_le _, Nat.zero_le _⟩ rfl hl.1 rfl (Nat.le_of_ble_eq_true rfl) dX11_baits_165 (fun H locs I => ?_)
        refine lv_goto (tgt := 173) hx hb dX11_baits_168 (by decide) ?_
        exact w_X11_baits_173 X hR hr hk69 o0 x1 x2 ((v10 * 10) + x7) x5 x6 v21 h22 ls H locs hf I (lv_sub hl [3, 4, 5, 0, 7, 8] rfl)
def f_X11_baits_69  : Nat → Nat → Int32 → Int32 → Int32 → Int32 → Int32 → Int32 → AH → Option (Int32 × AH)
  | 0, _, _, _, _, _, _, _, _ => none
  | n + 1, o0, x1, x2, x3, x4, x5, x6, h =>
  if x5 ≤ x6 then
    some (x4, h)
  else
    (isC [11] h o0).bind fun _ =>
    cN (f_X11_layRow o0 x6 h) h fun v2 h3 =>
    (gR [11] h3 o0 9).bind fun v7 =>
    (gR [11] h3 o0 6).bind fun v9 =>
    (gR [11] h3 o0 4).bind fun v11 =>
    (gI [10] h3 v11 1).bind fun v13 =>
    if x6 ≤ 0 then
      f_X11_baits_109 (f_X11_baits_69 n) o0 x1 x2 x3 x4 x5 x6 v2 v7 v9 v13 0 h3
    else
      f_X11_baits_109 (f_X11_baits_69 n) o0 x1 x2 x3 x4 x5 x6 v2 v7 v9 v13 1 h3
set_option maxHeartbeats 1000000 in
theorem w_X11_baits_69 (X : Cx g p s m args meth c cX11_baits 10 "TrapCorner") (hR : 6 ≤ R.frames ∧ 384 ≤ R.locals) (hr : meth.sig.returnType = (some (.int))) {res : Int32 × AH} : ∀ (n : Nat) (o0 : Nat) (x1 : Int32) (x2 : Int32) (x3 : Int32) (x4 : Int32) (x5 : Int32) (x6 : Int32) (h : AH) (ls : Array Slot) (H : Heap) (locs : List Loc), f_X11_baits_69 n o0 x1 x2 x3 x4 x5 x6 h = some res → Iv g s n0 z0 h H locs 0 0 → lv_has ls 10 [(0, .ref (rfG g o0)), (1, .int x1), (2, .int x2), (3, .int x3), (4, .int x4), (5, .int x5), (6, .int x6)] → W p l e R s m args below meth c H locs 0 0 (MQ below (QG g (some (.int res.1)) res.2) args s 0 0 (AG g)) (F0 m 69 ls []) := by
  have hx := X.1
  have hb := X.2.1
  intro n
  induction n with
  | zero =>
    intro o0 x1 x2 x3 x4 x5 x6 h ls H locs hf
    rw [f_X11_baits_69.eq_1] at hf
    cases hf
  | succ n ih =>
    intro o0 x1 x2 x3 x4 x5 x6 h ls H locs hf I hl
    rw [f_X11_baits_69.eq_2] at hf
    refine lv_iload hx hb dX11_baits_69 (lv_at hl 6 rfl) ?_
    refine lv_iload hx hb dX11_baits_71 (lv_at hl 5 rfl) ?_
    refine lv_icmp_ge (tgt := 181) hx hb dX11_baits_73 (by decide) (fun c1 => ?_) (fun c1 => ?_)
    · rw [if_pos c1] at hf
      refine lv_iload hx hb dX11_baits_181 (lv_at hl 4 rfl) ?_
      cases hf
      exact k_ri X I hr dX11_baits_183
    · rw [if_neg c1] at hf
      refine lv_aload_n hx hb dX11_baits_76 rfl (lv_at hl 0 rfl) ?_
      refine lv_iload hx hb dX11_baits_77 (lv_at hl 6 rfl) ?_
      obtain ⟨_, g6, hf⟩ := Option.bind_eq_some_iff.mp hf
      obtain ⟨v2, h3, e4, z5, hf⟩ := cN_spec hf
      refine k_Vi (As := [.int x6]) (rest := []) X I (c_X11_layRow l g o0 x6 e4) z5 g6 vk_TrapCorner_364 tw_1050 ⟨Nat.le_trans (by decide) hR.1, Nat.le_trans (by decide) hR.2⟩ ⟨Nat.zero_le _, Nat.zero_le _⟩ rfl hl.1 rfl (Nat.le_of_ble_eq_true rfl) dX11_baits_79 (fun H locs I => ?_)
      refine lv_istore (lv' := [(7, .int v2), (0, .ref (rfG g o0)), (1, .int x1), (2, .int x2), (3, .int x3), (4, .int x4), (5, .int x5), (6, .int x6)]) hx hb dX11_baits_82 hl (by decide) rfl (fun ls hl => ?_)
      refine lv_aload_n hx hb dX11_baits_84 rfl (lv_at hl 1 rfl) ?_
      obtain ⟨v7, e8, hf⟩ := Option.bind_eq_some_iff.mp hf
      refine r_gR X I e8 lk_TrapCorner_75 dX11_baits_85 ?_
      refine lv_aload_n hx hb dX11_baits_88 rfl (lv_at hl 1 rfl) ?_
      obtain ⟨v9, e10, hf⟩ := Option.bind_eq_some_iff.mp hf
      refine r_gR X I e10 lk_TrapCorner_53 dX11_baits_89 ?_
      refine lv_aload_n hx hb dX11_baits_92 rfl (lv_at hl 1 rfl) ?_
      obtain ⟨v11, e12, hf⟩ := Option.bind_eq_some_iff.mp hf
      refine r_gR X I e12 lk_TrapCorner_42 dX11_baits_93 ?_
      obtain ⟨v13, e14, hf⟩ := Option.bind_eq_some_iff.mp hf
      refine r_gI X I e14 lk_TrapCorner_156 dX11_baits_96 ?_
      refine lv_iload hx hb dX11_baits_99 (lv_at hl 7 rfl) ?_
      refine lv_if_le (tgt := 108) hx hb dX11_baits_101 (by decide) (fun c15 => ?_) (fun c15 => ?_)
      · rw [if_pos c15] at hf
        refine lv_iconst (v := 0) hx hb dX11_baits_108 (by decide) ?_
        exact w_X11_baits_109 X hR hr ih o0 x1 x2 x3 x4 x5 x6 v2 v7 v9 v13 0 h3 ls H locs hf I (lv_sub hl [1, 2, 3, 4, 5, 6, 7, 0] rfl)
      · rw [if_neg c15] at hf
        refine lv_iconst (v := 1) hx hb dX11_baits_104 (by decide) ?_
        refine lv_goto (tgt := 109) hx hb dX11_baits_105 (by decide) ?_
        exact w_X11_baits_109 X hR hr ih o0 x1 x2 x3 x4 x5 x6 v2 v7 v9 v13 1 h3 ls H locs hf I (lv_sub hl [1, 2, 3, 4, 5, 6, 7, 0] rfl)
def f_X11_baits_0  (o0 : Nat) (x1 : Int32) (x2 : Int32) (h : AH) : Option (Int32 × AH) :=
  (isC [11] h o0).bind fun _ =>
  cN (f_X11_hasCity o0 h) h fun v1 h2 =>
  if v1 = 0 then
    some ((-1), h2)
  else
    if x1 < 0 then
      some ((-1), h2)
    else
      (gR [11] h2 o0 4).bind fun v8 =>
      (gI [10] h2 v8 1).bind fun v10 =>
      if (1 <<< (v10 &&& 31)) ≤ x1 then
        some ((-1), h2)
      else
        if x2 < 0 then
          some ((-1), h2)
        else
          if x2 ≤ 1 then
            (gR [11] h2 o0 6).bind fun v15 =>
            (gR [11] h2 o0 5).bind fun v17 =>
            (isC [8] h2 v15).bind fun _ =>
            cN (f_X8_copyFrom v15 v17 h2) h2 fun _ h20 =>
            (gR [11] h20 o0 4).bind fun v24 =>
            (gI [10] h20 v24 0).bind fun v26 =>
            f_X11_baits_69 fu o0 x1 x2 1000000 ((-1)) (1 <<< ((2 * v26) &&& 31)) 0 h20
          else
            some ((-1), h2)
set_option maxHeartbeats 1000000 in
theorem w_X11_baits_0 (X : Cx g p s m args meth c cX11_baits 10 "TrapCorner") (hR : 6 ≤ R.frames ∧ 384 ≤ R.locals) (hr : meth.sig.returnType = (some (.int))) {res : Int32 × AH} : ∀ (o0 : Nat) (x1 : Int32) (x2 : Int32) (h : AH) (ls : Array Slot) (H : Heap) (locs : List Loc), f_X11_baits_0 o0 x1 x2 h = some res → Iv g s n0 z0 h H locs 0 0 → lv_has ls 10 [(0, .ref (rfG g o0)), (1, .int x1), (2, .int x2)] → W p l e R s m args below meth c H locs 0 0 (MQ below (QG g (some (.int res.1)) res.2) args s 0 0 (AG g)) (F0 m 0 ls []) := by
  have hx := X.1
  have hb := X.2.1
  intro o0 x1 x2 h ls H locs hf I hl
  unfold f_X11_baits_0 at hf
  refine lv_aload_n hx hb dX11_baits_0 rfl (lv_at hl 0 rfl) ?_
  obtain ⟨_, g5, hf⟩ := Option.bind_eq_some_iff.mp hf
  obtain ⟨v1, h2, e3, z4, hf⟩ := cN_spec hf
  refine k_Vi (As := []) (rest := []) X I (c_X11_hasCity l g o0 e3) z4 g5 vk_TrapCorner_172 tw_793 ⟨Nat.le_trans (by decide) hR.1, Nat.le_trans (by decide) hR.2⟩ ⟨Nat.zero_le _, Nat.zero_le _⟩ rfl hl.1 rfl (Nat.le_of_ble_eq_true rfl) dX11_baits_1 (fun H locs I => ?_)
  refine lv_if_eq (tgt := 33) hx hb dX11_baits_4 (by decide) (fun c6 => ?_) (fun c6 => ?_)
  · rw [if_pos c6] at hf
    refine lv_iconst (v := (-1)) hx hb dX11_baits_33 (by decide) ?_
    cases hf
    exact k_ri X I hr dX11_baits_34
  · rw [if_neg c6] at hf
    refine lv_iload_n hx hb dX11_baits_7 rfl (lv_at hl 1 rfl) ?_
    refine lv_if_lt (tgt := 33) hx hb dX11_baits_8 (by decide) (fun c7 => ?_) (fun c7 => ?_)
    · rw [if_pos c7] at hf
      refine lv_iconst (v := (-1)) hx hb dX11_baits_33 (by decide) ?_
      cases hf
      exact k_ri X I hr dX11_baits_34
    · rw [if_neg c7] at hf
      refine lv_iload_n hx hb dX11_baits_11 rfl (lv_at hl 1 rfl) ?_
      refine lv_iconst (v := 1) hx hb dX11_baits_12 (by decide) ?_
      refine lv_aload_n hx hb dX11_baits_13 rfl (lv_at hl 0 rfl) ?_
      obtain ⟨v8, e9, hf⟩ := Option.bind_eq_some_iff.mp hf
      refine r_gR X I e9 lk_TrapCorner_42 dX11_baits_14 ?_
      obtain ⟨v10, e11, hf⟩ := Option.bind_eq_some_iff.mp hf
      refine r_gI X I e11 lk_TrapCorner_156 dX11_baits_17 ?_
      refine lv_ishl hx hb dX11_baits_20 ?_
      refine lv_icmp_ge (tgt := 33) hx hb dX11_baits_21 (by decide) (fun c12 => ?_) (fun c12 => ?_)
      · rw [if_pos c12] at hf
        refine lv_iconst (v := (-1)) hx hb dX11_baits_33 (by decide) ?_
        cases hf
        exact k_ri X I hr dX11_baits_34
      · rw [if_neg c12] at hf
        refine lv_iload_n hx hb dX11_baits_24 rfl (lv_at hl 2 rfl) ?_
        refine lv_if_lt (tgt := 33) hx hb dX11_baits_25 (by decide) (fun c13 => ?_) (fun c13 => ?_)
        · rw [if_pos c13] at hf
          refine lv_iconst (v := (-1)) hx hb dX11_baits_33 (by decide) ?_
          cases hf
          exact k_ri X I hr dX11_baits_34
        · rw [if_neg c13] at hf
          refine lv_iload_n hx hb dX11_baits_28 rfl (lv_at hl 2 rfl) ?_
          refine lv_iconst (v := 1) hx hb dX11_baits_29 (by decide) ?_
          refine lv_icmp_le (tgt := 35) hx hb dX11_baits_30 (by decide) (fun c14 => ?_) (fun c14 => ?_)
          · rw [if_pos c14] at hf
            refine lv_aload_n hx hb dX11_baits_35 rfl (lv_at hl 0 rfl) ?_
            obtain ⟨v15, e16, hf⟩ := Option.bind_eq_some_iff.mp hf
            refine r_gR X I e16 lk_TrapCorner_53 dX11_baits_36 ?_
            refine lv_aload_n hx hb dX11_baits_39 rfl (lv_at hl 0 rfl) ?_
            obtain ⟨v17, e18, hf⟩ := Option.bind_eq_some_iff.mp hf
            refine r_gR X I e18 lk_TrapCorner_49 dX11_baits_40 ?_
            obtain ⟨_, g23, hf⟩ := Option.bind_eq_some_iff.mp hf
            obtain ⟨⟨⟩, h20, e21, z22, hf⟩ := cN_spec hf
            refine k_Vv (As := [.ref (rfG g v17)]) (rest := []) X I (c_X8_copyFrom l g v15 v17 e21) z22 g23 vk_TrapCorner_350 tw_892 ⟨Nat.le_trans (by decide) hR.1, Nat.le_trans (by decide) hR.2⟩ ⟨Nat.zero_le _, Nat.zero_le _⟩ rfl hl.1 rfl (Nat.le_of_ble_eq_true rfl) dX11_baits_43 (fun H locs I => ?_)
            refine lv_ldcw (v := 1000000) hx hb X.2.2.2.1 (X.2.2.2.2.1 _ tw_1046) dX11_baits_46 ?_
            refine lv_istore_n (lv' := [(3, .int 1000000), (0, .ref (rfG g o0)), (1, .int x1), (2, .int x2)]) hx hb dX11_baits_49 rfl hl (by decide) rfl (fun ls hl => ?_)
            refine lv_iconst (v := (-1)) hx hb dX11_baits_50 (by decide) ?_
            refine lv_istore (lv' := [(4, .int ((-1))), (3, .int 1000000), (0, .ref (rfG g o0)), (1, .int x1), (2, .int x2)]) hx hb dX11_baits_51 hl (by decide) rfl (fun ls hl => ?_)
            refine lv_iconst (v := 1) hx hb dX11_baits_53 (by decide) ?_
            refine lv_iconst (v := 2) hx hb dX11_baits_54 (by decide) ?_
            refine lv_aload_n hx hb dX11_baits_55 rfl (lv_at hl 2 rfl) ?_
            obtain ⟨v24, e25, hf⟩ := Option.bind_eq_some_iff.mp hf
            refine r_gR X I e25 lk_TrapCorner_42 dX11_baits_56 ?_
            obtain ⟨v26, e27, hf⟩ := Option.bind_eq_some_iff.mp hf
            refine r_gI X I e27 lk_TrapCorner_253 dX11_baits_59 ?_
            refine lv_imul hx hb dX11_baits_62 ?_
            refine lv_ishl hx hb dX11_baits_63 ?_
            refine lv_istore (lv' := [(5, .int (1 <<< ((2 * v26) &&& 31))), (4, .int ((-1))), (3, .int 1000000), (0, .ref (rfG g o0)), (1, .int x1), (2, .int x2)]) hx hb dX11_baits_64 hl (by decide) rfl (fun ls hl => ?_)
            refine lv_iconst (v := 0) hx hb dX11_baits_66 (by decide) ?_
            refine lv_istore (lv' := [(6, .int 0), (5, .int (1 <<< ((2 * v26) &&& 31))), (4, .int ((-1))), (3, .int 1000000), (0, .ref (rfG g o0)), (1, .int x1), (2, .int x2)]) hx hb dX11_baits_67 hl (by decide) rfl (fun ls hl => ?_)
            exact w_X11_baits_69 X hR hr fu o0 x1 x2 1000000 ((-1)) (1 <<< ((2 * v26) &&& 31)) 0 h20 ls H locs hf I (lv_sub hl [4, 5, 6, 3, 2, 1, 0] rfl)
          · rw [if_neg c14] at hf
            refine lv_iconst (v := (-1)) hx hb dX11_baits_33 (by decide) ?_
            cases hf
            exact k_ri X I hr dX11_baits_34
def f_X11_baits (o0 : Nat) (x1 : Int32) (x2 : Int32) (h : AH) : Option (Int32 × AH) := f_X11_baits_0 o0 x1 x2 h
end
theorem c_X11_baits (l : Launch) (g : GG) (o0 : Nat) (x1 : Int32) (x2 : Int32) {h : AH} {res : Int32 × AH} (hf : f_X11_baits o0 x1 x2 h = some res) : CM l g yX11_baits cX11_baits 10 (some (.int)) 6 384 0 0 [.ref (rfG g o0), .int x1, .int x2] h (some (.int res.1)) res.2 :=
  k_body (by decide) (Nat.le_of_ble_eq_true rfl) (fun p e s m below meth c R ls hR hr X I hl => w_X11_baits_0 X ⟨Nat.le_of_eq hR.1.symm, Nat.le_of_eq hR.2.1.symm⟩ hr o0 x1 x2 h ls s.heap [] hf I (lv_sub hl [0, 1, 2] rfl))
/-! TrapCorner.staysFree(II)Z -/
theorem dX11_staysFree_0 : decode cX11_staysFree 0 = .ok (.aload_n 0, 1) := by decide +kernel
theorem dX11_staysFree_1 : decode cX11_staysFree 1 = .ok (.getfield 53, 3) := by decide +kernel
theorem dX11_staysFree_4 : decode cX11_staysFree 4 = .ok (.aload_n 0, 1) := by decide +kernel
theorem dX11_staysFree_5 : decode cX11_staysFree 5 = .ok (.getfield 49, 3) := by decide +kernel
theorem dX11_staysFree_8 : decode cX11_staysFree 8 = .ok (.invokevirtual 350, 3) := by decide +kernel
theorem dX11_staysFree_11 : decode cX11_staysFree 11 = .ok (.aload_n 0, 1) := by decide +kernel
theorem dX11_staysFree_12 : decode cX11_staysFree 12 = .ok (.getfield 53, 3) := by decide +kernel
theorem dX11_staysFree_15 : decode cX11_staysFree 15 = .ok (.getfield 219, 3) := by decide +kernel
theorem dX11_staysFree_18 : decode cX11_staysFree 18 = .ok (.iload_n 1, 1) := by decide +kernel
theorem dX11_staysFree_19 : decode cX11_staysFree 19 = .ok (.iload_n 2, 1) := by decide +kernel
theorem dX11_staysFree_20 : decode cX11_staysFree 20 = .ok (.iastore, 1) := by decide +kernel
theorem dX11_staysFree_21 : decode cX11_staysFree 21 = .ok (.aload_n 0, 1) := by decide +kernel
theorem dX11_staysFree_22 : decode cX11_staysFree 22 = .ok (.getfield 75, 3) := by decide +kernel
theorem dX11_staysFree_25 : decode cX11_staysFree 25 = .ok (.aload_n 0, 1) := by decide +kernel
theorem dX11_staysFree_26 : decode cX11_staysFree 26 = .ok (.getfield 53, 3) := by decide +kernel
theorem dX11_staysFree_29 : decode cX11_staysFree 29 = .ok (.aload_n 0, 1) := by decide +kernel
theorem dX11_staysFree_30 : decode cX11_staysFree 30 = .ok (.getfield 42, 3) := by decide +kernel
theorem dX11_staysFree_33 : decode cX11_staysFree 33 = .ok (.getfield 156, 3) := by decide +kernel
theorem dX11_staysFree_36 : decode cX11_staysFree 36 = .ok (.iconst 0, 1) := by decide +kernel
theorem dX11_staysFree_37 : decode cX11_staysFree 37 = .ok (.invokevirtual 343, 3) := by decide +kernel
theorem dX11_staysFree_40 : decode cX11_staysFree 40 = .ok (.aload_n 0, 1) := by decide +kernel
theorem dX11_staysFree_41 : decode cX11_staysFree 41 = .ok (.getfield 75, 3) := by decide +kernel
theorem dX11_staysFree_44 : decode cX11_staysFree 44 = .ok (.getfield 360, 3) := by decide +kernel
theorem dX11_staysFree_47 : decode cX11_staysFree 47 = .ok (.iload_n 1, 1) := by decide +kernel
theorem dX11_staysFree_48 : decode cX11_staysFree 48 = .ok (.iaload, 1) := by decide +kernel
theorem dX11_staysFree_49 : decode cX11_staysFree 49 = .ok (.iconst (-1), 1) := by decide +kernel
theorem dX11_staysFree_50 : decode cX11_staysFree 50 = .ok (.if_icmp .ne 7, 3) := by decide +kernel
theorem dX11_staysFree_53 : decode cX11_staysFree 53 = .ok (.iconst 1, 1) := by decide +kernel
theorem dX11_staysFree_54 : decode cX11_staysFree 54 = .ok (.goto 4, 3) := by decide +kernel
theorem dX11_staysFree_57 : decode cX11_staysFree 57 = .ok (.iconst 0, 1) := by decide +kernel
theorem dX11_staysFree_58 : decode cX11_staysFree 58 = .ok (.ireturn, 1) := by decide +kernel
section
variable {g : GG} {p : Program} {l : Launch} {e : Env} {R : Room} {s : State} {m : MethodId} {args : Array Value} {below : List Frame} {meth : Method} {c : Code} {n0 z0 : Nat}
def f_X11_staysFree_0  (o0 : Nat) (x1 : Int32) (x2 : Int32) (h : AH) : Option (Int32 × AH) :=
  (gR [11] h o0 6).bind fun v1 =>
  (gR [11] h o0 5).bind fun v3 =>
  (isC [8] h v1).bind fun _ =>
  cN (f_X8_copyFrom v1 v3 h) h fun _ h6 =>
  (gR [11] h6 o0 6).bind fun v10 =>
  (gR [8] h6 v10 4).bind fun v12 =>
  (uI 0 h6 v12 x1 x2).bind fun h14 =>
  (gR [11] h14 o0 9).bind fun v16 =>
  (gR [11] h14 o0 6).bind fun v18 =>
  (gR [11] h14 o0 4).bind fun v20 =>
  (gI [10] h14 v20 1).bind fun v22 =>
  (isC [6] h14 v16).bind fun _ =>
  cN (f_X6_play v16 v18 v22 0 h14) h14 fun _ h25 =>
  (gR [11] h25 o0 9).bind fun v29 =>
  (gR [6] h25 v29 2).bind fun v31 =>
  (aI 0 h25 v31 x1).bind fun v33 =>
  if v33 = ((-1)) then
    some (1, h25)
  else
    some (0, h25)
set_option maxHeartbeats 1000000 in
theorem w_X11_staysFree_0 (X : Cx g p s m args meth c cX11_staysFree 3 "TrapCorner") (hR : 6 ≤ R.frames ∧ 384 ≤ R.locals) (hr : meth.sig.returnType = (some (.boolean))) {res : Int32 × AH} : ∀ (o0 : Nat) (x1 : Int32) (x2 : Int32) (h : AH) (ls : Array Slot) (H : Heap) (locs : List Loc), f_X11_staysFree_0 o0 x1 x2 h = some res → Iv g s n0 z0 h H locs 0 0 → lv_has ls 3 [(0, .ref (rfG g o0)), (1, .int x1), (2, .int x2)] → W p l e R s m args below meth c H locs 0 0 (MQ below (QG g (some (.int res.1)) res.2) args s 0 0 (AG g)) (F0 m 0 ls []) := by
  have hx := X.1
  have hb := X.2.1
  intro o0 x1 x2 h ls H locs hf I hl
  unfold f_X11_staysFree_0 at hf
  refine lv_aload_n hx hb dX11_staysFree_0 rfl (lv_at hl 0 rfl) ?_
  obtain ⟨v1, e2, hf⟩ := Option.bind_eq_some_iff.mp hf
  refine r_gR X I e2 lk_TrapCorner_53 dX11_staysFree_1 ?_
  refine lv_aload_n hx hb dX11_staysFree_4 rfl (lv_at hl 0 rfl) ?_
  obtain ⟨v3, e4, hf⟩ := Option.bind_eq_some_iff.mp hf
  refine r_gR X I e4 lk_TrapCorner_49 dX11_staysFree_5 ?_
  obtain ⟨_, g9, hf⟩ := Option.bind_eq_some_iff.mp hf
  obtain ⟨⟨⟩, h6, e7, z8, hf⟩ := cN_spec hf
  refine k_Vv (As := [.ref (rfG g v3)]) (rest := []) X I (c_X8_copyFrom l g v1 v3 e7) z8 g9 vk_TrapCorner_350 tw_892 ⟨Nat.le_trans (by decide) hR.1, Nat.le_trans (by decide) hR.2⟩ ⟨Nat.zero_le _, Nat.zero_le _⟩ rfl hl.1 rfl (Nat.le_of_ble_eq_true rfl) dX11_staysFree_8 (fun H locs I => ?_)
  refine lv_aload_n hx hb dX11_staysFree_11 rfl (lv_at hl 0 rfl) ?_
  obtain ⟨v10, e11, hf⟩ := Option.bind_eq_some_iff.mp hf
  refine r_gR X I e11 lk_TrapCorner_53 dX11_staysFree_12 ?_
  obtain ⟨v12, e13, hf⟩ := Option.bind_eq_some_iff.mp hf
  refine r_gR X I e13 lk_TrapCorner_219 dX11_staysFree_15 ?_
  refine lv_iload_n hx hb dX11_staysFree_18 rfl (lv_at hl 1 rfl) ?_
  refine lv_iload_n hx hb dX11_staysFree_19 rfl (lv_at hl 2 rfl) ?_
  obtain ⟨h14, e15, hf⟩ := Option.bind_eq_some_iff.mp hf
  refine r_uI0 X I e15 dX11_staysFree_20 (fun H locs I => ?_)
  refine lv_aload_n hx hb dX11_staysFree_21 rfl (lv_at hl 0 rfl) ?_
  obtain ⟨v16, e17, hf⟩ := Option.bind_eq_some_iff.mp hf
  refine r_gR X I e17 lk_TrapCorner_75 dX11_staysFree_22 ?_
  refine lv_aload_n hx hb dX11_staysFree_25 rfl (lv_at hl 0 rfl) ?_
  obtain ⟨v18, e19, hf⟩ := Option.bind_eq_some_iff.mp hf
  refine r_gR X I e19 lk_TrapCorner_53 dX11_staysFree_26 ?_
  refine lv_aload_n hx hb dX11_staysFree_29 rfl (lv_at hl 0 rfl) ?_
  obtain ⟨v20, e21, hf⟩ := Option.bind_eq_some_iff.mp hf
  refine r_gR X I e21 lk_TrapCorner_42 dX11_staysFree_30 ?_
  obtain ⟨v22, e23, hf⟩ := Option.bind_eq_some_iff.mp hf
  refine r_gI X I e23 lk_TrapCorner_156 dX11_staysFree_33 ?_
  refine lv_iconst (v := 0) hx hb dX11_staysFree_36 (by decide) ?_
  obtain ⟨_, g28, hf⟩ := Option.bind_eq_some_iff.mp hf
  obtain ⟨⟨⟩, h25, e26, z27, hf⟩ := cN_spec hf
  refine k_Vv (As := [.ref (rfG g v18), .int v22, .int 0]) (rest := []) X I (c_X6_play l g v16 v18 v22 0 e26) z27 g28 vk_TrapCorner_343 tw_901 ⟨Nat.le_trans (by decide) hR.1, Nat.le_trans (by decide) hR.2⟩ ⟨Nat.zero_le _, Nat.zero_le _⟩ rfl hl.1 rfl (Nat.le_of_ble_eq_true rfl) dX11_staysFree_37 (fun H locs I => ?_)
  refine lv_aload_n hx hb dX11_staysFree_40 rfl (lv_at hl 0 rfl) ?_
  obtain ⟨v29, e30, hf⟩ := Option.bind_eq_some_iff.mp hf
  refine r_gR X I e30 lk_TrapCorner_75 dX11_staysFree_41 ?_
  obtain ⟨v31, e32, hf⟩ := Option.bind_eq_some_iff.mp hf
  refine r_gR X I e32 lk_TrapCorner_360 dX11_staysFree_44 ?_
  refine lv_iload_n hx hb dX11_staysFree_47 rfl (lv_at hl 1 rfl) ?_
  obtain ⟨v33, e34, hf⟩ := Option.bind_eq_some_iff.mp hf
  refine r_aI0 X I e34 dX11_staysFree_48 ?_
  refine lv_iconst (v := (-1)) hx hb dX11_staysFree_49 (by decide) ?_
  refine lv_icmp_ne (tgt := 57) hx hb dX11_staysFree_50 (by decide) (fun c35 => ?_) (fun c35 => ?_)
  · rw [if_neg c35] at hf
    refine lv_iconst (v := 0) hx hb dX11_staysFree_57 (by decide) ?_
    cases hf
    exact k_rz X I hr (Or.inl rfl) dX11_staysFree_58
  · rw [if_pos c35] at hf
    refine lv_iconst (v := 1) hx hb dX11_staysFree_53 (by decide) ?_
    refine lv_goto (tgt := 58) hx hb dX11_staysFree_54 (by decide) ?_
    cases hf
    exact k_rz X I hr (Or.inr rfl) dX11_staysFree_58
def f_X11_staysFree (o0 : Nat) (x1 : Int32) (x2 : Int32) (h : AH) : Option (Int32 × AH) := f_X11_staysFree_0 o0 x1 x2 h
end
theorem c_X11_staysFree (l : Launch) (g : GG) (o0 : Nat) (x1 : Int32) (x2 : Int32) {h : AH} {res : Int32 × AH} (hf : f_X11_staysFree o0 x1 x2 h = some res) : CM l g yX11_staysFree cX11_staysFree 3 (some (.boolean)) 6 384 0 0 [.ref (rfG g o0), .int x1, .int x2] h (some (.int res.1)) res.2 :=
  k_body (by decide) (Nat.le_of_ble_eq_true rfl) (fun p e s m below meth c R ls hR hr X I hl => w_X11_staysFree_0 X ⟨Nat.le_of_eq hR.1.symm, Nat.le_of_eq hR.2.1.symm⟩ hr o0 x1 x2 h ls s.heap [] hf I (lv_sub hl [0, 1, 2] rfl))
