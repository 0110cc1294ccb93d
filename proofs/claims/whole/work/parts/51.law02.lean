theorem vk_TrapCornerLaw_189 : VK "TrapCornerLaw" 189 [11] yX11_image 0 := ⟨tw_1007, tw_1008, tw_1, ⟨by decide, by decide⟩, by decide +kernel, fun ci hci => by
  have hci := List.mem_singleton.mp hci
  subst hci
  exact ⟨_, rfl, tw_1009⟩⟩
theorem vk_TrapCornerLaw_192 : VK "TrapCornerLaw" 192 [12] yX12_image 0 := ⟨tw_1925, tw_1926, tw_13, ⟨by decide, by decide⟩, by decide +kernel, fun ci hci => by
  have hci := List.mem_singleton.mp hci
  subst hci
  exact ⟨_, rfl, tw_1927⟩⟩
theorem vk_TrapCornerLaw_193 : VK "TrapCornerLaw" 193 [11] yX11_back 0 := ⟨tw_1016, tw_1017, tw_1, ⟨by decide, by decide⟩, by decide +kernel, fun ci hci => by
  have hci := List.mem_singleton.mp hci
  subst hci
  exact ⟨_, rfl, tw_1018⟩⟩
theorem vk_TrapCornerLaw_196 : VK "TrapCornerLaw" 196 [12] yX12_back 0 := ⟨tw_1929, tw_1930, tw_13, ⟨by decide, by decide⟩, by decide +kernel, fun ci hci => by
  have hci := List.mem_singleton.mp hci
  subst hci
  exact ⟨_, rfl, tw_1931⟩⟩
theorem vk_TrapCornerLaw_197 : VK "TrapCornerLaw" 197 [11] yX11_count 1 := ⟨tw_847, tw_848, tw_1, ⟨by decide, by decide⟩, by decide +kernel, fun ci hci => by
  have hci := List.mem_singleton.mp hci
  subst hci
  exact ⟨_, rfl, tw_849⟩⟩
theorem vk_TrapCornerLaw_200 : VK "TrapCornerLaw" 200 [12] yX12_count 1 := ⟨tw_1933, tw_1934, tw_13, ⟨by decide, by decide⟩, by decide +kernel, fun ci hci => by
  have hci := List.mem_singleton.mp hci
  subst hci
  exact ⟨_, rfl, tw_1935⟩⟩
section
variable {g : GG} {p : Program} {l : Launch} {e : Env} {s : State} {m : MethodId} {below : List Frame} {meth : Method} {c : Code} {b L : Nat} {xs : Nat → Int32}
def f_L_law_1590 (xs : Nat → Int32) (L : Nat) (k23 : Nat → Nat → Nat → Int32 → AH → Option (Int32 × AH)) (o1 : Nat) (o2 : Nat) (o3 : Nat) (x4 : Int32) (h : AH) : Option (Int32 × AH) :=
  ck h (
  (isC [11] h o1).bind fun _ =>
  cN (f_X11_image o1 h) h fun v1 h2 =>
  (isC [12] h2 o2).bind fun _ =>
  cN (f_X12_image o2 h2) h2 fun v6 h7 =>
  if v1 = v6 then
    f_L_law_1641 xs L k23 o1 o2 o3 x4 h7
  else
    some (0, h7))
set_option maxHeartbeats 1000000 in
theorem w_L_law_1590 (hl9 : l.stackTraces = false) (X : Cx g p s m #[Value.ref b] meth c cL_law 7 "TrapCornerLaw") (hX : SX g s s.heap) (hS : va_X b L xs s s.heap ∧ b < s.heap.size ∧ ¬ AG g b) (hR : 100 ≤ room_1.frames ∧ 7000 ≤ room_1.locals) (hr : meth.sig.returnType = ret) {res : Int32 × AH} (hr1 : res.1 = 1) (hres : res.2.1 ≤ 601024 ∧ res.2.2.1 ≤ 7293033) (hA : room_1.cells + 0 = 601024 ∧ room_1.slots + 0 = 7293033) {k23 : Nat → Nat → Nat → Int32 → AH → Option (Int32 × AH)} (hk23 : ∀ (o1 : Nat) (o2 : Nat) (o3 : Nat) (x4 : Int32) (h : AH) (ls : Array Slot) (H : Heap) (locs : List Loc) (cells slots : Nat), k23 o1 o2 o3 x4 h = some res → Iv g s 0 0 h H locs cells slots → lv_has ls 7 [(0, .ref b), (1, .ref (rfG g o1)), (2, .ref (rfG g o2)), (3, .ref (rfG g o3)), (4, .int x4)] → W p l e room_1 s m #[Value.ref b] below meth c H locs cells slots (lw_Z below #[Value.ref b] s) (F0 m 23 ls [])) : ∀ (o1 : Nat) (o2 : Nat) (o3 : Nat) (x4 : Int32) (h : AH) (ls : Array Slot) (H : Heap) (locs : List Loc) (cells slots : Nat), f_L_law_1590 xs L k23 o1 o2 o3 x4 h = some res → Iv g s 0 0 h H locs cells slots → lv_has ls 7 [(0, .ref b), (1, .ref (rfG g o1)), (2, .ref (rfG g o2)), (3, .ref (rfG g o3)), (4, .int x4)] → W p l e room_1 s m #[Value.ref b] below meth c H locs cells slots (lw_Z below #[Value.ref b] s) (F0 m 1590 ls []) := by
  have hx := X.1
  have hb := X.2.1
  intro o1 o2 o3 x4 h ls H locs cells slots hf I hl
  unfold f_L_law_1590 at hf
  obtain ⟨hbd, hf⟩ := ck_spec hf
  have hbd := lt2 hbd hres
  have hle := I.le hA hbd
  refine lv_aload_n hx hb dL_law_1590 rfl (lv_at hl 1 rfl) ?_
  obtain ⟨_, g5, hf⟩ := Option.bind_eq_some_iff.mp hf
  obtain ⟨v1, h2, e3, z4, hf⟩ := cN_spec hf
  refine k_Vi (As := []) (rest := []) X I (c_X11_image l g o1 e3) z4 g5 vk_TrapCornerLaw_189 tw_1010 ⟨Nat.le_trans (by decide) hR.1, Nat.le_trans (by decide) hR.2⟩ hle rfl hl.1 rfl (Nat.le_of_ble_eq_true rfl) dL_law_1591 (fun H locs I => ?_)
  refine lv_aload_n hx hb dL_law_1594 rfl (lv_at hl 2 rfl) ?_
  obtain ⟨_, g10, hf⟩ := Option.bind_eq_some_iff.mp hf
  obtain ⟨v6, h7, e8, z9, hf⟩ := cN_spec hf
  refine k_Vi (As := []) (rest := [.int v1]) X I (c_X12_image l g o2 e8) z9 g10 vk_TrapCornerLaw_192 tw_1928 ⟨Nat.le_trans (by decide) hR.1, Nat.le_trans (by decide) hR.2⟩ hle rfl hl.1 rfl (Nat.le_of_ble_eq_true rfl) dL_law_1595 (fun H locs I => ?_)
  refine lv_icmp_eq (tgt := 1641) hx hb dL_law_1598 (by decide) (fun c11 => ?_) (fun c11 => ?_)
  · rw [if_pos c11] at hf
    exact w_L_law_1641 hl9 X hX hS hR hr hr1 hres hA hk23 o1 o2 o3 x4 h7 ls H locs _ _ hf I (lv_sub hl [0, 1, 2, 3, 4] rfl)
  · rw [if_neg c11] at hf
    refine lv_iconst (v := 0) hx hb dL_law_1601 (by decide) ?_
    cases hf
    exact absurd (show (0 : Int32) = 1 from hr1) (by decide)
def f_L_law_1603 (xs : Nat → Int32) (L : Nat) (k23 : Nat → Nat → Nat → Int32 → AH → Option (Int32 × AH)) (o1 : Nat) (o2 : Nat) (o3 : Nat) (x4 : Int32) (h : AH) : Option (Int32 × AH) :=
  ck h (
  (isC [11] h o1).bind fun _ =>
  cN (f_X11_back o1 h) h fun v1 h2 =>
  (isC [12] h2 o2).bind fun _ =>
  cN (f_X12_back o2 h2) h2 fun v6 h7 =>
  if v1 = v6 then
    f_L_law_1641 xs L k23 o1 o2 o3 x4 h7
  else
    some (0, h7))
set_option maxHeartbeats 1000000 in
theorem w_L_law_1603 (hl9 : l.stackTraces = false) (X : Cx g p s m #[Value.ref b] meth c cL_law 7 "TrapCornerLaw") (hX : SX g s s.heap) (hS : va_X b L xs s s.heap ∧ b < s.heap.size ∧ ¬ AG g b) (hR : 100 ≤ room_1.frames ∧ 7000 ≤ room_1.locals) (hr : meth.sig.returnType = ret) {res : Int32 × AH} (hr1 : res.1 = 1) (hres : res.2.1 ≤ 601024 ∧ res.2.2.1 ≤ 7293033) (hA : room_1.cells + 0 = 601024 ∧ room_1.slots + 0 = 7293033) {k23 : Nat → Nat → Nat → Int32 → AH → Option (Int32 × AH)} (hk23 : ∀ (o1 : Nat) (o2 : Nat) (o3 : Nat) (x4 : Int32) (h : AH) (ls : Array Slot) (H : Heap) (locs : List Loc) (cells slots : Nat), k23 o1 o2 o3 x4 h = some res → Iv g s 0 0 h H locs cells slots → lv_has ls 7 [(0, .ref b), (1, .ref (rfG g o1)), (2, .ref (rfG g o2)), (3, .ref (rfG g o3)), (4, .int x4)] → W p l e room_1 s m #[Value.ref b] below meth c H locs cells slots (lw_Z below #[Value.ref b] s) (F0 m 23 ls [])) : ∀ (o1 : Nat) (o2 : Nat) (o3 : Nat) (x4 : Int32) (h : AH) (ls : Array Slot) (H : Heap) (locs : List Loc) (cells slots : Nat), f_L_law_1603 xs L k23 o1 o2 o3 x4 h = some res → Iv g s 0 0 h H locs cells slots → lv_has ls 7 [(0, .ref b), (1, .ref (rfG g o1)), (2, .ref (rfG g o2)), (3, .ref (rfG g o3)), (4, .int x4)] → W p l e room_1 s m #[Value.ref b] below meth c H locs cells slots (lw_Z below #[Value.ref b] s) (F0 m 1603 ls []) := by
  have hx := X.1
  have hb := X.2.1
  intro o1 o2 o3 x4 h ls H locs cells slots hf I hl
  unfold f_L_law_1603 at hf
  obtain ⟨hbd, hf⟩ := ck_spec hf
  have hbd := lt2 hbd hres
  have hle := I.le hA hbd
  refine lv_aload_n hx hb dL_law_1603 rfl (lv_at hl 1 rfl) ?_
  obtain ⟨_, g5, hf⟩ := Option.bind_eq_some_iff.mp hf
  obtain ⟨v1, h2, e3, z4, hf⟩ := cN_spec hf
  refine k_Vi (As := []) (rest := []) X I (c_X11_back l g o1 e3) z4 g5 vk_TrapCornerLaw_193 tw_1019 ⟨Nat.le_trans (by decide) hR.1, Nat.le_trans (by decide) hR.2⟩ hle rfl hl.1 rfl (Nat.le_of_ble_eq_true rfl) dL_law_1604 (fun H locs I => ?_)
  refine lv_aload_n hx hb dL_law_1607 rfl (lv_at hl 2 rfl) ?_
  obtain ⟨_, g10, hf⟩ := Option.bind_eq_some_iff.mp hf
  obtain ⟨v6, h7, e8, z9, hf⟩ := cN_spec hf
  refine k_Vi (As := []) (rest := [.int v1]) X I (c_X12_back l g o2 e8) z9 g10 vk_TrapCornerLaw_196 tw_1932 ⟨Nat.le_trans (by decide) hR.1, Nat.le_trans (by decide) hR.2⟩ hle rfl hl.1 rfl (Nat.le_of_ble_eq_true rfl) dL_law_1608 (fun H locs I => ?_)
  refine lv_icmp_eq (tgt := 1641) hx hb dL_law_1611 (by decide) (fun c11 => ?_) (fun c11 => ?_)
  · rw [if_pos c11] at hf
    exact w_L_law_1641 hl9 X hX hS hR hr hr1 hres hA hk23 o1 o2 o3 x4 h7 ls H locs _ _ hf I (lv_sub hl [0, 1, 2, 3, 4] rfl)
  · rw [if_neg c11] at hf
    refine lv_iconst (v := 0) hx hb dL_law_1614 (by decide) ?_
    cases hf
    exact absurd (show (0 : Int32) = 1 from hr1) (by decide)
def f_L_law_1616 (xs : Nat → Int32) (L : Nat) (k23 : Nat → Nat → Nat → Int32 → AH → Option (Int32 × AH)) (o1 : Nat) (o2 : Nat) (o3 : Nat) (x4 : Int32) (h : AH) : Option (Int32 × AH) :=
  ck h (
  (sx xs L (x4 + 1)).bind fun v1 =>
  (isC [11] h o1).bind fun _ =>
  cN (f_X11_count o1 v1 h) h fun v3 h4 =>
  (sx xs L (x4 + 1)).bind fun v8 =>
  (isC [12] h4 o2).bind fun _ =>
  cN (f_X12_count o2 v8 h4) h4 fun v10 h11 =>
  if v3 = v10 then
    f_L_law_1641 xs L k23 o1 o2 o3 x4 h11
  else
    some (0, h11))
set_option maxHeartbeats 1000000 in
theorem w_L_law_1616 (hl9 : l.stackTraces = false) (X : Cx g p s m #[Value.ref b] meth c cL_law 7 "TrapCornerLaw") (hX : SX g s s.heap) (hS : va_X b L xs s s.heap ∧ b < s.heap.size ∧ ¬ AG g b) (hR : 100 ≤ room_1.frames ∧ 7000 ≤ room_1.locals) (hr : meth.sig.returnType = ret) {res : Int32 × AH} (hr1 : res.1 = 1) (hres : res.2.1 ≤ 601024 ∧ res.2.2.1 ≤ 7293033) (hA : room_1.cells + 0 = 601024 ∧ room_1.slots + 0 = 7293033) {k23 : Nat → Nat → Nat → Int32 → AH → Option (Int32 × AH)} (hk23 : ∀ (o1 : Nat) (o2 : Nat) (o3 : Nat) (x4 : Int32) (h : AH) (ls : Array Slot) (H : Heap) (locs : List Loc) (cells slots : Nat), k23 o1 o2 o3 x4 h = some res → Iv g s 0 0 h H locs cells slots → lv_has ls 7 [(0, .ref b), (1, .ref (rfG g o1)), (2, .ref (rfG g o2)), (3, .ref (rfG g o3)), (4, .int x4)] → W p l e room_1 s m #[Value.ref b] below meth c H locs cells slots (lw_Z below #[Value.ref b] s) (F0 m 23 ls [])) : ∀ (o1 : Nat) (o2 : Nat) (o3 : Nat) (x4 : Int32) (h : AH) (ls : Array Slot) (H : Heap) (locs : List Loc) (cells slots : Nat), f_L_law_1616 xs L k23 o1 o2 o3 x4 h = some res → Iv g s 0 0 h H locs cells slots → lv_has ls 7 [(0, .ref b), (1, .ref (rfG g o1)), (2, .ref (rfG g o2)), (3, .ref (rfG g o3)), (4, .int x4)] → W p l e room_1 s m #[Value.ref b] below meth c H locs cells slots (lw_Z below #[Value.ref b] s) (F0 m 1616 ls []) := by
  have hx := X.1
  have hb := X.2.1
  intro o1 o2 o3 x4 h ls H locs cells slots hf I hl
  unfold f_L_law_1616 at hf
  obtain ⟨hbd, hf⟩ := ck_spec hf
  have hbd := lt2 hbd hres
  have hle := I.le hA hbd
  refine lv_aload_n hx hb dL_law_1616 rfl (lv_at hl 1 rfl) ?_
  refine lv_aload_n hx hb dL_law_1617 rfl (lv_at hl 0 rfl) ?_
  refine lv_iload hx hb dL_law_1618 (lv_at hl 4 rfl) ?_
  refine lv_iconst (v := 1) hx hb dL_law_1620 (by decide) ?_
  refine lv_iadd hx hb dL_law_1621 ?_
  obtain ⟨v1, e2, hf⟩ := Option.bind_eq_some_iff.mp hf
  refine r_sx X I hS e2 dL_law_1622 ?_
  obtain ⟨_, g7, hf⟩ := Option.bind_eq_some_iff.mp hf
  obtain ⟨v3, h4, e5, z6, hf⟩ := cN_spec hf
  refine k_Vi (As := [.int v1]) (rest := []) X I (c_X11_count l g o1 v1 e5) z6 g7 vk_TrapCornerLaw_197 tw_850 ⟨Nat.le_trans (by decide) hR.1, Nat.le_trans (by decide) hR.2⟩ hle rfl hl.1 rfl (Nat.le_of_ble_eq_true rfl) dL_law_1623 (fun H locs I => ?_)
  refine lv_aload_n hx hb dL_law_1626 rfl (lv_at hl 2 rfl) ?_
  refine lv_aload_n hx hb dL_law_1627 rfl (lv_at hl 0 rfl) ?_
  refine lv_iload hx hb dL_law_1628 (lv_at hl 4 rfl) ?_
  refine lv_iconst (v := 1) hx hb dL_law_1630 (by decide) ?_
  refine lv_iadd hx hb dL_law_1631 ?_
  obtain ⟨v8, e9, hf⟩ := Option.bind_eq_some_iff.mp hf
  refine r_sx X I hS e9 dL_law_1632 ?_
  obtain ⟨_, g14, hf⟩ := Option.bind_eq_some_iff.mp hf
  obtain ⟨v10, h11, e12, z13, hf⟩ := cN_spec hf
  refine k_Vi (As := [.int v8]) (rest := [.int v3]) X I (c_X12_count l g o2 v8 e12) z13 g14 vk_TrapCornerLaw_200 tw_1936 ⟨Nat.le_trans (by decide) hR.1, Nat.le_trans (by decide) hR.2⟩ hle rfl hl.1 rfl (Nat.le_of_ble_eq_true rfl) dL_law_1633 (fun H locs I => ?_)
  refine lv_icmp_eq (tgt := 1641) hx hb dL_law_1636 (by decide) (fun c15 => ?_) (fun c15 => ?_)
  · rw [if_pos c15] at hf
    exact w_L_law_1641 hl9 X hX hS hR hr hr1 hres hA hk23 o1 o2 o3 x4 h11 ls H locs _ _ hf I (lv_sub hl [0, 1, 2, 3, 4] rfl)
  · rw [if_neg c15] at hf
    refine lv_iconst (v := 0) hx hb dL_law_1639 (by decide) ?_
    cases hf
    exact absurd (show (0 : Int32) = 1 from hr1) (by decide)
def f_L_law_23 (xs : Nat → Int32) (L : Nat)  : Nat → Nat → Nat → Nat → Int32 → AH → Option (Int32 × AH)
  | 0, _, _, _, _, _ => none
  | n + 1, o1, o2, o3, x4, h =>
  ck h (
  if ((Int32.ofNat L) - 6) < x4 then
    some (1, h)
  else
    (sx xs L x4).bind fun v2 =>
    if (v2 &&& 63) = 0 then
      f_L_law_224 xs L (f_L_law_23 xs L n) o1 o2 o3 x4 h
    else
      if (v2 &&& 63) = 1 then
        f_L_law_297 xs L (f_L_law_23 xs L n) o1 o2 o3 x4 h
      else
        if (v2 &&& 63) = 2 then
          f_L_law_322 xs L (f_L_law_23 xs L n) o1 o2 o3 x4 h
        else
          if (v2 &&& 63) = 3 then
            f_L_law_347 xs L (f_L_law_23 xs L n) o1 o2 o3 x4 h
          else
            if (v2 &&& 63) = 4 then
              f_L_law_372 xs L (f_L_law_23 xs L n) o1 o2 o3 x4 h
            else
              if (v2 &&& 63) = 5 then
                f_L_law_397 xs L (f_L_law_23 xs L n) o1 o2 o3 x4 h
              else
                if (v2 &&& 63) = 6 then
                  f_L_law_434 xs L (f_L_law_23 xs L n) o1 o2 o3 x4 h
                else
                  if (v2 &&& 63) = 7 then
                    f_L_law_502 xs L (f_L_law_23 xs L n) o1 o2 o3 x4 h
                  else
                    if (v2 &&& 63) = 8 then
                      f_L_law_527 xs L (f_L_law_23 xs L n) o1 o2 o3 x4 h
                    else
                      if (v2 &&& 63) = 9 then
                        f_L_law_552 xs L (f_L_law_23 xs L n) o1 o2 o3 x4 h
                      else
                        if (v2 &&& 63) = 10 then
                          f_L_law_565 xs L (f_L_law_23 xs L n) o1 o2 o3 x4 h
                        else
                          if (v2 &&& 63) = 11 then
                            f_L_law_602 xs L (f_L_law_23 xs L n) o1 o2 o3 x4 h
                          else
                            if (v2 &&& 63) = 12 then
                              f_L_law_627 xs L (f_L_law_23 xs L n) o1 o2 o3 x4 h
                            else
                              if (v2 &&& 63) = 13 then
                                f_L_law_652 xs L (f_L_law_23 xs L n) o1 o2 o3 x4 h
                              else
                                if (v2 &&& 63) = 14 then
                                  f_L_law_677 xs L (f_L_law_23 xs L n) o1 o2 o3 x4 h
                                else
                                  if (v2 &&& 63) = 15 then
                                    f_L_law_702 xs L (f_L_law_23 xs L n) o1 o2 o3 x4 h
                                  else
                                    if (v2 &&& 63) = 16 then
                                      f_L_law_771 xs L (f_L_law_23 xs L n) o1 o2 o3 x4 h
                                    else
                                      if (v2 &&& 63) = 17 then
                                        f_L_law_784 xs L (f_L_law_23 xs L n) o1 o2 o3 x4 h
                                      else
                                        if (v2 &&& 63) = 18 then
                                          f_L_law_821 xs L (f_L_law_23 xs L n) o1 o2 o3 x4 h
                                        else
                                          if (v2 &&& 63) = 19 then
                                            f_L_law_870 xs L (f_L_law_23 xs L n) o1 o2 o3 x4 h
                                          else
                                            if (v2 &&& 63) = 20 then
                                              f_L_law_907 xs L (f_L_law_23 xs L n) o1 o2 o3 x4 h
                                            else
                                              if (v2 &&& 63) = 21 then
                                                f_L_law_932 xs L (f_L_law_23 xs L n) o1 o2 o3 x4 h
                                              else
                                                if (v2 &&& 63) = 22 then
                                                  f_L_law_969 xs L (f_L_law_23 xs L n) o1 o2 o3 x4 h
                                                else
                                                  if (v2 &&& 63) = 23 then
                                                    f_L_law_994 xs L (f_L_law_23 xs L n) o1 o2 o3 x4 h
                                                  else
                                                    if (v2 &&& 63) = 24 then
                                                      f_L_law_1031 xs L (f_L_law_23 xs L n) o1 o2 o3 x4 h
                                                    else
                                                      if (v2 &&& 63) = 25 then
                                                        f_L_law_1108 xs L (f_L_law_23 xs L n) o1 o2 o3 x4 h
                                                      else
                                                        if (v2 &&& 63) = 26 then
                                                          f_L_law_1145 xs L (f_L_law_23 xs L n) o1 o2 o3 x4 h
                                                        else
                                                          if (v2 &&& 63) = 27 then
                                                            f_L_law_1182 xs L (f_L_law_23 xs L n) o1 o2 o3 x4 h
                                                          else
                                                            if (v2 &&& 63) = 28 then
                                                              f_L_law_1207 xs L (f_L_law_23 xs L n) o1 o2 o3 x4 h
                                                            else
                                                              if (v2 &&& 63) = 29 then
                                                                f_L_law_1232 xs L (f_L_law_23 xs L n) o1 o2 o3 x4 h
                                                              else
                                                                if (v2 &&& 63) = 30 then
                                                                  f_L_law_1257 xs L (f_L_law_23 xs L n) o1 o2 o3 x4 h
                                                                else
                                                                  if (v2 &&& 63) = 31 then
                                                                    f_L_law_1330 xs L (f_L_law_23 xs L n) o1 o2 o3 x4 h
                                                                  else
                                                                    if (v2 &&& 63) = 32 then
                                                                      f_L_law_1379 xs L (f_L_law_23 xs L n) o1 o2 o3 x4 h
                                                                    else
                                                                      if (v2 &&& 63) = 33 then
                                                                        f_L_law_1416 xs L (f_L_law_23 xs L n) o1 o2 o3 x4 h
                                                                      else
                                                                        if (v2 &&& 63) = 34 then
                                                                          f_L_law_1441 xs L (f_L_law_23 xs L n) o1 o2 o3 x4 h
                                                                        else
                                                                          if (v2 &&& 63) = 35 then
                                                                            f_L_law_1466 xs L (f_L_law_23 xs L n) o1 o2 o3 x4 h
                                                                          else
                                                                            if (v2 &&& 63) = 36 then
                                                                              f_L_law_1491 xs L (f_L_law_23 xs L n) o1 o2 o3 x4 h
                                                                            else
                                                                              if (v2 &&& 63) = 37 then
                                                                                f_L_law_1516 xs L (f_L_law_23 xs L n) o1 o2 o3 x4 h
                                                                              else
                                                                                if (v2 &&& 63) = 38 then
                                                                                  f_L_law_1553 xs L (f_L_law_23 xs L n) o1 o2 o3 x4 h
                                                                                else
                                                                                  if (v2 &&& 63) = 39 then
                                                                                    f_L_law_1590 xs L (f_L_law_23 xs L n) o1 o2 o3 x4 h
                                                                                  else
                                                                                    if (v2 &&& 63) = 40 then
                                                                                      f_L_law_1603 xs L (f_L_law_23 xs L n) o1 o2 o3 x4 h
                                                                                    else
                                                                                      if (v2 &&& 63) = 41 then
                                                                                        f_L_law_1616 xs L (f_L_law_23 xs L n) o1 o2 o3 x4 h
                                                                                      else
                                                                                        f_L_law_1641 xs L (f_L_law_23 xs L n) o1 o2 o3 x4 h)
set_option maxHeartbeats 1000000 in
theorem w_L_law_23 (hl9 : l.stackTraces = false) (X : Cx g p s m #[Value.ref b] meth c cL_law 7 "TrapCornerLaw") (hX : SX g s s.heap) (hS : va_X b L xs s s.heap ∧ b < s.heap.size ∧ ¬ AG g b) (hR : 100 ≤ room_1.frames ∧ 7000 ≤ room_1.locals) (hr : meth.sig.returnType = ret) {res : Int32 × AH} (hr1 : res.1 = 1) (hres : res.2.1 ≤ 601024 ∧ res.2.2.1 ≤ 7293033) (hA : room_1.cells + 0 = 601024 ∧ room_1.slots + 0 = 7293033) : ∀ (n : Nat) (o1 : Nat) (o2 : Nat) (o3 : Nat) (x4 : Int32) (h : AH) (ls : Array Slot) (H : Heap) (locs : List Loc) (cells slots : Nat), f_L_law_23 xs L n o1 o2 o3 x4 h = some res → Iv g s 0 0 h H locs cells slots → lv_has ls 7 [(0, .ref b), (1, .ref (rfG g o1)), (2, .ref (rfG g o2)), (3, .ref (rfG g o3)), (4, .int x4)] → W p l e room_1 s m #[Value.ref b] below meth c H locs cells slots (lw_Z below #[Value.ref b] s) (F0 m 23 ls []) := by
  have hx := X.1
  have hb := X.2.1
  intro n
  induction n with
  | zero =>
    intro o1 o2 o3 x4 h ls H locs cells slots hf
    rw [f_L_law_23.eq_1] at hf
    cases hf
  | succ n ih =>
    intro o1 o2 o3 x4 h ls H locs cells slots hf I hl
    rw [f_L_law_23.eq_2] at hf
    obtain ⟨hbd, hf⟩ := ck_spec hf
    have hbd := lt2 hbd hres
    have hle := I.le hA hbd
    refine lv_iload hx hb dL_law_23 (lv_at hl 4 rfl) ?_
    refine lv_aload_n hx hb dL_law_25 rfl (lv_at hl 0 rfl) ?_
    refine r_sl X I hS dL_law_26 ?_
    refine lv_bipush (v := 6) hx hb dL_law_27 (by decide) ?_
    refine lv_isub hx hb dL_law_29 ?_
    refine lv_icmp_gt (tgt := 1647) hx hb dL_law_30 (by decide) (fun c1 => ?_) (fun c1 => ?_)
    · rw [if_pos c1] at hf
      refine lv_iconst (v := 1) hx hb dL_law_1647 (by decide) ?_
      cases hf
      exact va_forget (fun q hq => Nat.le_trans (Nat.le_of_eq I.2.2.1) (I.2.1.2.2 q hq)) (W.widen hle.1 hle.2 (lw_ret hx hb hr X.2.2.2.2.2.2 dL_law_1648))
    · rw [if_neg c1] at hf
      refine lv_aload_n hx hb dL_law_33 rfl (lv_at hl 0 rfl) ?_
      refine lv_iload hx hb dL_law_34 (lv_at hl 4 rfl) ?_
      obtain ⟨v2, e3, hf⟩ := Option.bind_eq_some_iff.mp hf
      refine r_sx X I hS e3 dL_law_36 ?_
      refine lv_bipush (v := 63) hx hb dL_law_37 (by decide) ?_
      refine lv_iand hx hb dL_law_39 ?_
      by_cases c4 : (v2 &&& 63) = 0
      · rw [if_pos c4] at hf
        refine lv_tableIn (tgt := 224) hx hb dL_law_40 (by rw [c4]; decide) (by rw [c4]; decide) (by rw [c4]; rfl) (by decide) ?_
        exact w_L_law_224 hl9 X hX hS hR hr hr1 hres hA ih o1 o2 o3 x4 h ls H locs _ _ hf I (lv_sub hl [0, 1, 2, 3, 4] rfl)
      · rw [if_neg c4] at hf
        by_cases c5 : (v2 &&& 63) = 1
        · rw [if_pos c5] at hf
          refine lv_tableIn (tgt := 297) hx hb dL_law_40 (by rw [c5]; decide) (by rw [c5]; decide) (by rw [c5]; rfl) (by decide) ?_
          exact w_L_law_297 hl9 X hX hS hR hr hr1 hres hA ih o1 o2 o3 x4 h ls H locs _ _ hf I (lv_sub hl [0, 1, 2, 3, 4] rfl)
        · rw [if_neg c5] at hf
          by_cases c6 : (v2 &&& 63) = 2
          · rw [if_pos c6] at hf
            refine lv_tableIn (tgt := 322) hx hb dL_law_40 (by rw [c6]; decide) (by rw [c6]; decide) (by rw [c6]; rfl) (by decide) ?_
            exact w_L_law_322 hl9 X hX hS hR hr hr1 hres hA ih o1 o2 o3 x4 h ls H locs _ _ hf I (lv_sub hl [0, 1, 2, 3, 4] rfl)
          · rw [if_neg c6] at hf
            by_cases c7 : (v2 &&& 63) = 3
            · rw [if_pos c7] at hf
              refine lv_tableIn (tgt := 347) hx hb dL_law_40 (by rw [c7]; decide) (by rw [c7]; decide) (by rw [c7]; rfl) (by decide) ?_
              exact w_L_law_347 hl9 X hX hS hR hr hr1 hres hA ih o1 o2 o3 x4 h ls H locs _ _ hf I (lv_sub hl [0, 1, 2, 3, 4] rfl)
            · rw [if_neg c7] at hf
              by_cases c8 : (v2 &&& 63) = 4
              · rw [if_pos c8] at hf
                refine lv_tableIn (tgt := 372) hx hb dL_law_40 (by rw [c8]; decide) (by rw [c8]; decide) (by rw [c8]; rfl) (by decide) ?_
                exact w_L_law_372 hl9 X hX hS hR hr hr1 hres hA ih o1 o2 o3 x4 h ls H locs _ _ hf I (lv_sub hl [0, 1, 2, 3, 4] rfl)
              · rw [if_neg c8] at hf
                by_cases c9 : (v2 &&& 63) = 5
                · rw [if_pos c9] at hf
                  refine lv_tableIn (tgt := 397) hx hb dL_law_40 (by rw [c9]; decide) (by rw [c9]; decide) (by rw [c9]; rfl) (by decide) ?_
                  exact w_L_law_397 hl9 X hX hS hR hr hr1 hres hA ih o1 o2 o3 x4 h ls H locs _ _ hf I (lv_sub hl [0, 1, 2, 3, 4] rfl)
                · rw [if_neg c9] at hf
                  by_cases c10 : (v2 &&& 63) = 6
                  · rw [if_pos c10] at hf
                    refine lv_tableIn (tgt := 434) hx hb dL_law_40 (by rw [c10]; decide) (by rw [c10]; decide) (by rw [c10]; rfl) (by decide) ?_
                    exact w_L_law_434 hl9 X hX hS hR hr hr1 hres hA ih o1 o2 o3 x4 h ls H locs _ _ hf I (lv_sub hl [0, 1, 2, 3, 4] rfl)
                  · rw [if_neg c10] at hf
                    by_cases c11 : (v2 &&& 63) = 7
                    · rw [if_pos c11] at hf
                      refine lv_tableIn (tgt := 502) hx hb dL_law_40 (by rw [c11]; decide) (by rw [c11]; decide) (by rw [c11]; rfl) (by decide) ?_
                      exact w_L_law_502 hl9 X hX hS hR hr hr1 hres hA ih o1 o2 o3 x4 h ls H locs _ _ hf I (lv_sub hl [0, 1, 2, 3, 4] rfl)
                    · rw [if_neg c11] at hf
                      by_cases c12 : (v2 &&& 63) = 8
                      · rw [if_pos c12] at hf
                        refine lv_tableIn (tgt := 527) hx hb dL_law_40 (by rw [c12]; decide) (by rw [c12]; decide) (by rw [c12]; rfl) (by decide) ?_
                        exact w_L_law_527 hl9 X hX hS hR hr hr1 hres hA ih o1 o2 o3 x4 h ls H locs _ _ hf I (lv_sub hl [0, 1, 2, 3, 4] rfl)
                      · rw [if_neg c12] at hf
                        by_cases c13 : (v2 &&& 63) = 9
                        · rw [if_pos c13] at hf
                          refine lv_tableIn (tgt := 552) hx hb dL_law_40 (by rw [c13]; decide) (by rw [c13]; decide) (by rw [c13]; rfl) (by decide) ?_
                          exact w_L_law_552 hl9 X hX hS hR hr hr1 hres hA ih o1 o2 o3 x4 h ls H locs _ _ hf I (lv_sub hl [0, 1, 2, 3, 4] rfl)
                        · rw [if_neg c13] at hf
                          by_cases c14 : (v2 &&& 63) = 10
                          · rw [if_pos c14] at hf
                            refine lv_tableIn (tgt := 565) hx hb dL_law_40 (by rw [c14]; decide) (by rw [c14]; decide) (by rw [c14]; rfl) (by decide) ?_
                            exact w_L_law_565 hl9 X hX hS hR hr hr1 hres hA ih o1 o2 o3 x4 h ls H locs _ _ hf I (lv_sub hl [0, 1, 2, 3, 4] rfl)
                          · rw [if_neg c14] at hf
                            by_cases c15 : (v2 &&& 63) = 11
                            · rw [if_pos c15] at hf
                              refine lv_tableIn (tgt := 602) hx hb dL_law_40 (by rw [c15]; decide) (by rw [c15]; decide) (by rw [c15]; rfl) (by decide) ?_
                              exact w_L_law_602 hl9 X hX hS hR hr hr1 hres hA ih o1 o2 o3 x4 h ls H locs _ _ hf I (lv_sub hl [0, 1, 2, 3, 4] rfl)
                            · rw [if_neg c15] at hf
                              by_cases c16 : (v2 &&& 63) = 12
                              · rw [if_pos c16] at hf
                                refine lv_tableIn (tgt := 627) hx hb dL_law_40 (by rw [c16]; decide) (by rw [c16]; decide) (by rw [c16]; rfl) (by decide) ?_
                                exact w_L_law_627 hl9 X hX hS hR hr hr1 hres hA ih o1 o2 o3 x4 h ls H locs _ _ hf I (lv_sub hl [0, 1, 2, 3, 4] rfl)
                              · rw [if_neg c16] at hf
                                by_cases c17 : (v2 &&& 63) = 13
                                · rw [if_pos c17] at hf
                                  refine lv_tableIn (tgt := 652) hx hb dL_law_40 (by rw [c17]; decide) (by rw [c17]; decide) (by rw [c17]; rfl) (by decide) ?_
                                  exact w_L_law_652 hl9 X hX hS hR hr hr1 hres hA ih o1 o2 o3 x4 h ls H locs _ _ hf I (lv_sub hl [0, 1, 2, 3, 4] rfl)
                                · rw [if_neg c17] at hf
                                  by_cases c18 : (v2 &&& 63) = 14
                                  · rw [if_pos c18] at hf
                                    refine lv_tableIn (tgt := 677) hx hb dL_law_40 (by rw [c18]; decide) (by rw [c18]; decide) (by rw [c18]; rfl) (by decide) ?_
                                    exact w_L_law_677 hl9 X hX hS hR hr hr1 hres hA ih o1 o2 o3 x4 h ls H locs _ _ hf I (lv_sub hl [0, 1, 2, 3, 4] rfl)
                                  · rw [if_neg c18] at hf
                                    by_cases c19 : (v2 &&& 63) = 15
                                    · rw [if_pos c19] at hf
                                      refine lv_tableIn (tgt := 702) hx hb dL_law_40 (by rw [c19]; decide) (by rw [c19]; decide) (by rw [c19]; rfl) (by decide) ?_
                                      exact w_L_law_702 hl9 X hX hS hR hr hr1 hres hA ih o1 o2 o3 x4 h ls H locs _ _ hf I (lv_sub hl [0, 1, 2, 3, 4] rfl)
                                    · rw [if_neg c19] at hf
                                      by_cases c20 : (v2 &&& 63) = 16
                                      · rw [if_pos c20] at hf
                                        refine lv_tableIn (tgt := 771) hx hb dL_law_40 (by rw [c20]; decide) (by rw [c20]; decide) (by rw [c20]; rfl) (by decide) ?_
                                        exact w_L_law_771 hl9 X hX hS hR hr hr1 hres hA ih o1 o2 o3 x4 h ls H locs _ _ hf I (lv_sub hl [0, 1, 2, 3, 4] rfl)
                                      · rw [if_neg c20] at hf
                                        by_cases c21 : (v2 &&& 63) = 17
                                        · rw [if_pos c21] at hf
                                          refine lv_tableIn (tgt := 784) hx hb dL_law_40 (by rw [c21]; decide) (by rw [c21]; decide) (by rw [c21]; rfl) (by decide) ?_
                                          exact w_L_law_784 hl9 X hX hS hR hr hr1 hres hA ih o1 o2 o3 x4 h ls H locs _ _ hf I (lv_sub hl [0, 1, 2, 3, 4] rfl)
                                        · rw [if_neg c21] at hf
                                          by_cases c22 : (v2 &&& 63) = 18
                                          · rw [if_pos c22] at hf
                                            refine lv_tableIn (tgt := 821) hx hb dL_law_40 (by rw [c22]; decide) (by rw [c22]; decide) (by rw [c22]; rfl) (by decide) ?_
                                            exact w_L_law_821 hl9 X hX hS hR hr hr1 hres hA ih o1 o2 o3 x4 h ls H locs _ _ hf I (lv_sub hl [0, 1, 2, 3, 4] rfl)
                                          · rw [if_neg c22] at hf
                                            by_cases c23 : (v2 &&& 63) = 19
                                            · rw [if_pos c23] at hf
                                              refine lv_tableIn (tgt := 870) hx hb dL_law_40 (by rw [c23]; decide) (by rw [c23]; decide) (by rw [c23]; rfl) (by decide) ?_
                                              exact w_L_law_870 hl9 X hX hS hR hr hr1 hres hA ih o1 o2 o3 x4 h ls H locs _ _ hf I (lv_sub hl [0, 1, 2, 3, 4] rfl)
                                            · rw [if_neg c23] at hf
                                              by_cases c24 : (v2 &&& 63) = 20
                                              · rw [if_pos c24] at hf
                                                refine lv_tableIn (tgt := 907) hx hb dL_law_40 (by rw [c24]; decide) (by rw [c24]; decide) (by rw [c24]; rfl) (by decide) ?_
                                                exact w_L_law_907 hl9 X hX hS hR hr hr1 hres hA ih o1 o2 o3 x4 h ls H locs _ _ hf I (lv_sub hl [0, 1, 2, 3, 4] rfl)
                                              · rw [if_neg c24] at hf
                                                by_cases c25 : (v2 &&& 63) = 21
                                                · rw [if_pos c25] at hf
                                                  refine lv_tableIn (tgt := 932) hx hb dL_law_40 (by rw [c25]; decide) (by rw [c25]; decide) (by rw [c25]; rfl) (by decide) ?_
                                                  exact w_L_law_932 hl9 X hX hS hR hr hr1 hres hA ih o1 o2 o3 x4 h ls H locs _ _ hf I (lv_sub hl [0, 1, 2, 3, 4] rfl)
                                                · rw [if_neg c25] at hf
                                                  by_cases c26 : (v2 &&& 63) = 22
                                                  · rw [if_pos c26] at hf
                                                    refine lv_tableIn (tgt := 969) hx hb dL_law_40 (by rw [c26]; decide) (by rw [c26]; decide) (by rw [c26]; rfl) (by decide) ?_
                                                    exact w_L_law_969 hl9 X hX hS hR hr hr1 hres hA ih o1 o2 o3 x4 h ls H locs _ _ hf I (lv_sub hl [0, 1, 2, 3, 4] rfl)
                                                  · rw [if_neg c26] at hf
                                                    by_cases c27 : (v2 &&& 63) = 23
                                                    · rw [if_pos c27] at hf
                                                      refine lv_tableIn (tgt := 994) hx hb dL_law_40 (by rw [c27]; decide) (by rw [c27]; decide) (by rw [c27]; rfl) (by decide) ?_
                                                      exact w_L_law_994 hl9 X hX hS hR hr hr1 hres hA ih o1 o2 o3 x4 h ls H locs _ _ hf I (lv_sub hl [0, 1, 2, 3, 4] rfl)
                                                    · rw [if_neg c27] at hf
                                                      by_cases c28 : (v2 &&& 63) = 24
                                                      · rw [if_pos c28] at hf
                                                        refine lv_tableIn (tgt := 1031) hx hb dL_law_40 (by rw [c28]; decide) (by rw [c28]; decide) (by rw [c28]; rfl) (by decide) ?_
                                                        exact w_L_law_1031 hl9 X hX hS hR hr hr1 hres hA ih o1 o2 o3 x4 h ls H locs _ _ hf I (lv_sub hl [0, 1, 2, 3, 4] rfl)
                                                      · rw [if_neg c28] at hf
                                                        by_cases c29 : (v2 &&& 63) = 25
                                                        · rw [if_pos c29] at hf
                                                          refine lv_tableIn (tgt := 1108) hx hb dL_law_40 (by rw [c29]; decide) (by rw [c29]; decide) (by rw [c29]; rfl) (by decide) ?_
                                                          exact w_L_law_1108 hl9 X hX hS hR hr hr1 hres hA ih o1 o2 o3 x4 h ls H locs _ _ hf I (lv_sub hl [0, 1, 2, 3, 4] rfl)
                                                        · rw [if_neg c29] at hf
                                                          by_cases c30 : (v2 &&& 63) = 26
                                                          · rw [if_pos c30] at hf
                                                            refine lv_tableIn (tgt := 1145) hx hb dL_law_40 (by rw [c30]; decide) (by rw [c30]; decide) (by rw [c30]; rfl) (by decide) ?_
                                                            exact w_L_law_1145 hl9 X hX hS hR hr hr1 hres hA ih o1 o2 o3 x4 h ls H locs _ _ hf I (lv_sub hl [0, 1, 2, 3, 4] rfl)
                                                          · rw [if_neg c30] at hf
                                                            by_cases c31 : (v2 &&& 63) = 27
                                                            · rw [if_pos c31] at hf
                                                              refine lv_tableIn (tgt := 1182) hx hb dL_law_40 (by rw [c31]; decide) (by rw [c31]; decide) (by rw [c31]; rfl) (by decide) ?_
                                                              exact w_L_law_1182 hl9 X hX hS hR hr hr1 hres hA ih o1 o2 o3 x4 h ls H locs _ _ hf I (lv_sub hl [0, 1, 2, 3, 4] rfl)
                                                            · rw [if_neg c31] at hf
                                                              by_cases c32 : (v2 &&& 63) = 28
                                                              · rw [if_pos c32] at hf
                                                                refine lv_tableIn (tgt := 1207) hx hb dL_law_40 (by rw [c32]; decide) (by rw [c32]; decide) (by rw [c32]; rfl) (by decide) ?_
                                                                exact w_L_law_1207 hl9 X hX hS hR hr hr1 hres hA ih o1 o2 o3 x4 h ls H locs _ _ hf I (lv_sub hl [0, 1, 2, 3, 4] rfl)
                                                              · rw [if_neg c32] at hf
                                                                by_cases c33 : (v2 &&& 63) = 29
                                                                · rw [if_pos c33] at hf
                                                                  refine lv_tableIn (tgt := 1232) hx hb dL_law_40 (by rw [c33]; decide) (by rw [c33]; decide) (by rw [c33]; rfl) (by decide) ?_
                                                                  exact w_L_law_1232 hl9 X hX hS hR hr hr1 hres hA ih o1 o2 o3 x4 h ls H locs _ _ hf I (lv_sub hl [0, 1, 2, 3, 4] rfl)
                                                                · rw [if_neg c33] at hf
                                                                  by_cases c34 : (v2 &&& 63) = 30
                                                                  · rw [if_pos c34] at hf
                                                                    refine lv_tableIn (tgt := 1257) hx hb dL_law_40 (by rw [c34]; decide) (by rw [c34]; decide) (by rw [c34]; rfl) (by decide) ?_
                                                                    exact w_L_law_1257 hl9 X hX hS hR hr hr1 hres hA ih o1 o2 o3 x4 h ls H locs _ _ hf I (lv_sub hl [0, 1, 2, 3, 4] rfl)
                                                                  · rw [if_neg c34] at hf
                                                                    by_cases c35 : (v2 &&& 63) = 31
                                                                    · rw [if_pos c35] at hf
                                                                      refine lv_tableIn (tgt := 1330) hx hb dL_law_40 (by rw [c35]; decide) (by rw [c35]; decide) (by rw [c35]; rfl) (by decide) ?_
                                                                      exact w_L_law_1330 hl9 X hX hS hR hr hr1 hres hA ih o1 o2 o3 x4 h ls H locs _ _ hf I (lv_sub hl [0, 1, 2, 3, 4] rfl)
                                                                    · rw [if_neg c35] at hf
                                                                      by_cases c36 : (v2 &&& 63) = 32
                                                                      · rw [if_pos c36] at hf
                                                                        refine lv_tableIn (tgt := 1379) hx hb dL_law_40 (by rw [c36]; decide) (by rw [c36]; decide) (by rw [c36]; rfl) (by decide) ?_
                                                                        exact w_L_law_1379 hl9 X hX hS hR hr hr1 hres hA ih o1 o2 o3 x4 h ls H locs _ _ hf I (lv_sub hl [0, 1, 2, 3, 4] rfl)
                                                                      · rw [if_neg c36] at hf
                                                                        by_cases c37 : (v2 &&& 63) = 33
                                                                        · rw [if_pos c37] at hf
                                                                          refine lv_tableIn (tgt := 1416) hx hb dL_law_40 (by rw [c37]; decide) (by rw [c37]; decide) (by rw [c37]; rfl) (by decide) ?_
                                                                          exact w_L_law_1416 hl9 X hX hS hR hr hr1 hres hA ih o1 o2 o3 x4 h ls H locs _ _ hf I (lv_sub hl [0, 1, 2, 3, 4] rfl)
                                                                        · rw [if_neg c37] at hf
                                                                          by_cases c38 : (v2 &&& 63) = 34
                                                                          · rw [if_pos c38] at hf
                                                                            refine lv_tableIn (tgt := 1441) hx hb dL_law_40 (by rw [c38]; decide) (by rw [c38]; decide) (by rw [c38]; rfl) (by decide) ?_
                                                                            exact w_L_law_1441 hl9 X hX hS hR hr hr1 hres hA ih o1 o2 o3 x4 h ls H locs _ _ hf I (lv_sub hl [0, 1, 2, 3, 4] rfl)
                                                                          · rw [if_neg c38] at hf
                                                                            by_cases c39 : (v2 &&& 63) = 35
                                                                            · rw [if_pos c39] at hf
                                                                              refine lv_tableIn (tgt := 1466) hx hb dL_law_40 (by rw [c39]; decide) (by rw [c39]; decide) (by rw [c39]; rfl) (by decide) ?_
                                                                              exact w_L_law_1466 hl9 X hX hS hR hr hr1 hres hA ih o1 o2 o3 x4 h ls H locs _ _ hf I (lv_sub hl [0, 1, 2, 3, 4] rfl)
                                                                            · rw [if_neg c39] at hf
                                                                              by_cases c40 : (v2 &&& 63) = 36
                                                                              · rw [if_pos c40] at hf
                                                                                refine lv_tableIn (tgt := 1491) hx hb dL_law_40 (by rw [c40]; decide) (by rw [c40]; decide) (by rw [c40]; rfl) (by decide) ?_
                                                                                exact w_L_law_1491 hl9 X hX hS hR hr hr1 hres hA ih o1 o2 o3 x4 h ls H locs _ _ hf I (lv_sub hl [0, 1, 2, 3, 4] rfl)
                                                                              · rw [if_neg c40] at hf
                                                                                by_cases c41 : (v2 &&& 63) = 37
                                                                                · rw [if_pos c41] at hf
                                                                                  refine lv_tableIn (tgt := 1516) hx hb dL_law_40 (by rw [c41]; decide) (by rw [c41]; decide) (by rw [c41]; rfl) (by decide) ?_
                                                                                  exact w_L_law_1516 hl9 X hX hS hR hr hr1 hres hA ih o1 o2 o3 x4 h ls H locs _ _ hf I (lv_sub hl [0, 1, 2, 3, 4] rfl)
                                                                                · rw [if_neg c41] at hf
                                                                                  by_cases c42 : (v2 &&& 63) = 38
                                                                                  · rw [if_pos c42] at hf
                                                                                    refine lv_tableIn (tgt := 1553) hx hb dL_law_40 (by rw [c42]; decide) (by rw [c42]; decide) (by rw [c42]; rfl) (by decide) ?_
                                                                                    exact w_L_law_1553 hl9 X hX hS hR hr hr1 hres hA ih o1 o2 o3 x4 h ls H locs _ _ hf I (lv_sub hl [0, 1, 2, 3, 4] rfl)
                                                                                  · rw [if_neg c42] at hf
                                                                                    by_cases c43 : (v2 &&& 63) = 39
                                                                                    · rw [if_pos c43] at hf
                                                                                      refine lv_tableIn (tgt := 1590) hx hb dL_law_40 (by rw [c43]; decide) (by rw [c43]; decide) (by rw [c43]; rfl) (by decide) ?_
                                                                                      exact w_L_law_1590 hl9 X hX hS hR hr hr1 hres hA ih o1 o2 o3 x4 h ls H locs _ _ hf I (lv_sub hl [0, 1, 2, 3, 4] rfl)
                                                                                    · rw [if_neg c43] at hf
                                                                                      by_cases c44 : (v2 &&& 63) = 40
                                                                                      · rw [if_pos c44] at hf
                                                                                        refine lv_tableIn (tgt := 1603) hx hb dL_law_40 (by rw [c44]; decide) (by rw [c44]; decide) (by rw [c44]; rfl) (by decide) ?_
                                                                                        exact w_L_law_1603 hl9 X hX hS hR hr hr1 hres hA ih o1 o2 o3 x4 h ls H locs _ _ hf I (lv_sub hl [0, 1, 2, 3, 4] rfl)
                                                                                      · rw [if_neg c44] at hf
                                                                                        by_cases c45 : (v2 &&& 63) = 41
                                                                                        · rw [if_pos c45] at hf
                                                                                          refine lv_tableIn (tgt := 1616) hx hb dL_law_40 (by rw [c45]; decide) (by rw [c45]; decide) (by rw [c45]; rfl) (by decide) ?_
                                                                                          exact w_L_law_1616 hl9 X hX hS hR hr hr1 hres hA ih o1 o2 o3 x4 h ls H locs _ _ hf I (lv_sub hl [0, 1, 2, 3, 4] rfl)
                                                                                        · rw [if_neg c45] at hf
                                                                                          refine lv_tableOut (tgt := 1641) hx hb dL_law_40 (sw_out (fun k k1 k2 => by rcases (show k = 0 ∨ k = 1 ∨ k = 2 ∨ k = 3 ∨ k = 4 ∨ k = 5 ∨ k = 6 ∨ k = 7 ∨ k = 8 ∨ k = 9 ∨ k = 10 ∨ k = 11 ∨ k = 12 ∨ k = 13 ∨ k = 14 ∨ k = 15 ∨ k = 16 ∨ k = 17 ∨ k = 18 ∨ k = 19 ∨ k = 20 ∨ k = 21 ∨ k = 22 ∨ k = 23 ∨ k = 24 ∨ k = 25 ∨ k = 26 ∨ k = 27 ∨ k = 28 ∨ k = 29 ∨ k = 30 ∨ k = 31 ∨ k = 32 ∨ k = 33 ∨ k = 34 ∨ k = 35 ∨ k = 36 ∨ k = 37 ∨ k = 38 ∨ k = 39 ∨ k = 40 ∨ k = 41 by omega) with rfl | rfl | rfl | rfl | rfl | rfl | rfl | rfl | rfl | rfl | rfl | rfl | rfl | rfl | rfl | rfl | rfl | rfl | rfl | rfl | rfl | rfl | rfl | rfl | rfl | rfl | rfl | rfl | rfl | rfl | rfl | rfl | rfl | rfl | rfl | rfl | rfl | rfl | rfl | rfl | rfl | rfl <;> assumption)) (by decide) ?_
                                                                                          exact w_L_law_1641 hl9 X hX hS hR hr hr1 hres hA ih o1 o2 o3 x4 h ls H locs _ _ hf I (lv_sub hl [0, 1, 2, 3, 4] rfl)
def f_L_law_0 (xs : Nat → Int32) (L : Nat)  (h : AH) : Option (Int32 × AH) :=
  ck h (
  nO 11 19 [.null, .null, .null, .null, .null, .null, .null, .null, .null, .null, .null, .null, .null, .null, .int 0, .int 0, .int 0, .int 0, .long 0] h fun w1 h2 =>
  cA (f_X11_init w1 h2) h2 fun _ h5 =>
  nO 12 50 [.int 0, .null, .null, .null, .null, .null, .int 0, .int 0, .int 0, .int 0, .int 0, .int 0, .int 0, .int 0, .int 0, .null, .null, .int 0, .null, .null, .null, .null, .null, .null, .null, .null, .int 0, .int 0, .int 0, .int 0, .int 0, .int 0, .null, .null, .int 0, .int 0, .null, .null, .null, .int 0, .int 0, .int 0, .null, .int 0, .long 0, .null, .int 0, .null, .null, .int 0] h5 fun w9 h10 =>
  cA (f_X12_init w9 h10) h10 fun _ h13 =>
  nA 2 1 h13 fun w17 h18 =>
  f_L_law_23 xs L fu w1 w9 w17 0 h18)
set_option maxHeartbeats 1000000 in
theorem w_L_law_0 (hl9 : l.stackTraces = false) (X : Cx g p s m #[Value.ref b] meth c cL_law 7 "TrapCornerLaw") (hX : SX g s s.heap) (hS : va_X b L xs s s.heap ∧ b < s.heap.size ∧ ¬ AG g b) (hR : 100 ≤ room_1.frames ∧ 7000 ≤ room_1.locals) (hr : meth.sig.returnType = ret) {res : Int32 × AH} (hr1 : res.1 = 1) (hres : res.2.1 ≤ 601024 ∧ res.2.2.1 ≤ 7293033) (hA : room_1.cells + 0 = 601024 ∧ room_1.slots + 0 = 7293033) : ∀ (h : AH) (ls : Array Slot) (H : Heap) (locs : List Loc) (cells slots : Nat), f_L_law_0 xs L  h = some res → Iv g s 0 0 h H locs cells slots → lv_has ls 7 [(0, .ref b)] → W p l e room_1 s m #[Value.ref b] below meth c H locs cells slots (lw_Z below #[Value.ref b] s) (F0 m 0 ls []) := by
  have hx := X.1
  have hb := X.2.1
  intro  h ls H locs cells slots hf I hl
  unfold f_L_law_0 at hf
  obtain ⟨hbd, hf⟩ := ck_spec hf
  have hbd := lt2 hbd hres
  have hle := I.le hA hbd
  obtain ⟨w1, h2, e3, b4, hf⟩ := nO_ex hf
  have b4 := lt2 b4 hres
  refine r_nO X I e3 hA b4 ck_11 tyX11 tyX11_ok tw_27 tw_28 tw_1 (df_11 g) dL_law_0 (fun H I => ?_)
  have hle := I.le hA b4
  refine lv_dup hx hb dL_law_3 rfl ?_
  obtain ⟨⟨⟩, h5, e6, z7, b8, hf⟩ := cA_spec hf
  have b8 := lt2 b8 hres
  refine k_IAv (n := 0) (As := []) (rest := [.ref (rfG g w1)]) X I (c_X11_init l g w1 e6) z7 hA b8 tw_29 rfl tw_30 tw_1 ⟨by decide, by decide⟩ (by decide +kernel) tw_31 ⟨Nat.le_trans (by decide) hR.1, Nat.le_trans (by decide) hR.2⟩ rfl hl.1 rfl (Nat.le_of_ble_eq_true rfl) dL_law_4 (fun H locs I => ?_)
  have hle := I.le hA b8
  refine lv_astore_n (lv' := [(1, .ref (rfG g w1)), (0, .ref b)]) hx hb dL_law_7 rfl hl (by decide) rfl (fun ls hl => ?_)
  obtain ⟨w9, h10, e11, b12, hf⟩ := nO_ex hf
  have b12 := lt2 b12 hres
  refine r_nO X I e11 hA b12 ck_12 tyX12 tyX12_ok tw_1279 tw_1280 tw_13 (df_12 g) dL_law_8 (fun H I => ?_)
  have hle := I.le hA b12
  refine lv_dup hx hb dL_law_11 rfl ?_
  obtain ⟨⟨⟩, h13, e14, z15, b16, hf⟩ := cA_spec hf
  have b16 := lt2 b16 hres
  refine k_IAv (n := 0) (As := []) (rest := [.ref (rfG g w9)]) X I (c_X12_init l g w9 e14) z15 hA b16 tw_1281 rfl tw_1282 tw_13 ⟨by decide, by decide⟩ (by decide +kernel) tw_1283 ⟨Nat.le_trans (by decide) hR.1, Nat.le_trans (by decide) hR.2⟩ rfl hl.1 rfl (Nat.le_of_ble_eq_true rfl) dL_law_12 (fun H locs I => ?_)
  have hle := I.le hA b16
  refine lv_astore_n (lv' := [(2, .ref (rfG g w9)), (1, .ref (rfG g w1)), (0, .ref b)]) hx hb dL_law_15 rfl hl (by decide) rfl (fun ls hl => ?_)
  refine lv_iconst (v := 1) hx hb dL_law_16 (by decide) ?_
  obtain ⟨w17, h18, e19, b20, hf⟩ := nA_ex hf
  have b20 := lt2 b20 hres
  refine r_nA2 X I e19 hA b20 tw_1438 dL_law_17 (fun H I => ?_)
  have hle := I.le hA b20
  refine lv_astore_n (lv' := [(3, .ref (rfG g w17)), (2, .ref (rfG g w9)), (1, .ref (rfG g w1)), (0, .ref b)]) hx hb dL_law_19 rfl hl (by decide) rfl (fun ls hl => ?_)
  refine lv_iconst (v := 0) hx hb dL_law_20 (by decide) ?_
  refine lv_istore (lv' := [(4, .int 0), (3, .ref (rfG g w17)), (2, .ref (rfG g w9)), (1, .ref (rfG g w1)), (0, .ref b)]) hx hb dL_law_21 hl (by decide) rfl (fun ls hl => ?_)
  exact w_L_law_23 hl9 X hX hS hR hr hr1 hres hA fu w1 w9 w17 0 h18 ls H locs _ _ hf I (lv_sub hl [4, 3, 2, 1, 0] rfl)
end
def f_L_law (xs : Nat → Int32) (L : Nat) (h : AH) : Option (Int32 × AH) := f_L_law_0 xs L h
