theorem vk_TrapCornerLaw_19 : VK "TrapCornerLaw" 19 [11] yX11_feed 5 := ⟨tw_423, tw_424, tw_1, ⟨by decide, by decide⟩, by decide +kernel, fun ci hci => by
  have hci := List.mem_singleton.mp hci
  subst hci
  exact ⟨_, rfl, tw_425⟩⟩
theorem vk_TrapCornerLaw_23 : VK "TrapCornerLaw" 23 [12] yX12_feed 5 := ⟨tw_1443, tw_1444, tw_13, ⟨by decide, by decide⟩, by decide +kernel, fun ci hci => by
  have hci := List.mem_singleton.mp hci
  subst hci
  exact ⟨_, rfl, tw_1445⟩⟩
theorem vk_TrapCornerLaw_24 : VK "TrapCornerLaw" 24 [11] yX11_end 1 := ⟨tw_435, tw_436, tw_1, ⟨by decide, by decide⟩, by decide +kernel, fun ci hci => by
  have hci := List.mem_singleton.mp hci
  subst hci
  exact ⟨_, rfl, tw_437⟩⟩
theorem vk_TrapCornerLaw_28 : VK "TrapCornerLaw" 28 [12] yX12_end 1 := ⟨tw_1454, tw_1455, tw_13, ⟨by decide, by decide⟩, by decide +kernel, fun ci hci => by
  have hci := List.mem_singleton.mp hci
  subst hci
  exact ⟨_, rfl, tw_1456⟩⟩
theorem vk_TrapCornerLaw_29 : VK "TrapCornerLaw" 29 [11] yX11_fault 1 := ⟨tw_439, tw_440, tw_1, ⟨by decide, by decide⟩, by decide +kernel, fun ci hci => by
  have hci := List.mem_singleton.mp hci
  subst hci
  exact ⟨_, rfl, tw_441⟩⟩
theorem vk_TrapCornerLaw_33 : VK "TrapCornerLaw" 33 [12] yX12_fault 1 := ⟨tw_1458, tw_1459, tw_13, ⟨by decide, by decide⟩, by decide +kernel, fun ci hci => by
  have hci := List.mem_singleton.mp hci
  subst hci
  exact ⟨_, rfl, tw_1460⟩⟩
theorem vk_TrapCornerLaw_34 : VK "TrapCornerLaw" 34 [11] yX11_text 1 := ⟨tw_727, tw_728, tw_1, ⟨by decide, by decide⟩, by decide +kernel, fun ci hci => by
  have hci := List.mem_singleton.mp hci
  subst hci
  exact ⟨_, rfl, tw_729⟩⟩
theorem vk_TrapCornerLaw_37 : VK "TrapCornerLaw" 37 [12] yX12_text 1 := ⟨tw_1619, tw_1620, tw_13, ⟨by decide, by decide⟩, by decide +kernel, fun ci hci => by
  have hci := List.mem_singleton.mp hci
  subst hci
  exact ⟨_, rfl, tw_1621⟩⟩
theorem vk_TrapCornerLaw_38 : VK "TrapCornerLaw" 38 [11] yX11_rule 1 := ⟨tw_786, tw_787, tw_1, ⟨by decide, by decide⟩, by decide +kernel, fun ci hci => by
  have hci := List.mem_singleton.mp hci
  subst hci
  exact ⟨_, rfl, tw_788⟩⟩
theorem vk_TrapCornerLaw_41 : VK "TrapCornerLaw" 41 [12] yX12_rule 1 := ⟨tw_1624, tw_1625, tw_13, ⟨by decide, by decide⟩, by decide +kernel, fun ci hci => by
  have hci := List.mem_singleton.mp hci
  subst hci
  exact ⟨_, rfl, tw_1626⟩⟩
theorem vk_TrapCornerLaw_42 : VK "TrapCornerLaw" 42 [11] yX11_corner 2 := ⟨tw_794, tw_795, tw_1, ⟨by decide, by decide⟩, by decide +kernel, fun ci hci => by
  have hci := List.mem_singleton.mp hci
  subst hci
  exact ⟨_, rfl, tw_796⟩⟩
theorem vk_TrapCornerLaw_45 : VK "TrapCornerLaw" 45 [12] yX12_corner 2 := ⟨tw_1628, tw_1629, tw_13, ⟨by decide, by decide⟩, by decide +kernel, fun ci hci => by
  have hci := List.mem_singleton.mp hci
  subst hci
  exact ⟨_, rfl, tw_1630⟩⟩
theorem sk_TrapCornerLaw_46 : SK "TrapCornerLaw" 46 yL_person 4 := ⟨tw_1206, tw_1207, tw_0, ⟨by decide, by decide⟩, by decide +kernel⟩
theorem vk_TrapCornerLaw_51 : VK "TrapCornerLaw" 51 [12] yX12_person 2 := ⟨tw_1636, tw_1637, tw_13, ⟨by decide, by decide⟩, by decide +kernel, fun ci hci => by
  have hci := List.mem_singleton.mp hci
  subst hci
  exact ⟨_, rfl, tw_1638⟩⟩
theorem vk_TrapCornerLaw_52 : VK "TrapCornerLaw" 52 [12] yX12_thrown 0 := ⟨tw_1439, tw_1440, tw_13, ⟨by decide, by decide⟩, by decide +kernel, fun ci hci => by
  have hci := List.mem_singleton.mp hci
  subst hci
  exact ⟨_, rfl, tw_1441⟩⟩
theorem vk_TrapCornerLaw_56 : VK "TrapCornerLaw" 56 [11] yX11_law 1 := ⟨tw_855, tw_856, tw_1, ⟨by decide, by decide⟩, by decide +kernel, fun ci hci => by
  have hci := List.mem_singleton.mp hci
  subst hci
  exact ⟨_, rfl, tw_857⟩⟩
theorem vk_TrapCornerLaw_59 : VK "TrapCornerLaw" 59 [12] yX12_law 1 := ⟨tw_1652, tw_1653, tw_13, ⟨by decide, by decide⟩, by decide +kernel, fun ci hci => by
  have hci := List.mem_singleton.mp hci
  subst hci
  exact ⟨_, rfl, tw_1654⟩⟩
theorem vk_TrapCornerLaw_60 : VK "TrapCornerLaw" 60 [11] yX11_dogs 1 := ⟨tw_859, tw_860, tw_1, ⟨by decide, by decide⟩, by decide +kernel, fun ci hci => by
  have hci := List.mem_singleton.mp hci
  subst hci
  exact ⟨_, rfl, tw_861⟩⟩
theorem vk_TrapCornerLaw_63 : VK "TrapCornerLaw" 63 [12] yX12_dogs 1 := ⟨tw_1656, tw_1657, tw_13, ⟨by decide, by decide⟩, by decide +kernel, fun ci hci => by
  have hci := List.mem_singleton.mp hci
  subst hci
  exact ⟨_, rfl, tw_1658⟩⟩
theorem vk_TrapCornerLaw_64 : VK "TrapCornerLaw" 64 [11] yX11_day 0 := ⟨tw_863, tw_864, tw_1, ⟨by decide, by decide⟩, by decide +kernel, fun ci hci => by
  have hci := List.mem_singleton.mp hci
  subst hci
  exact ⟨_, rfl, tw_865⟩⟩
theorem vk_TrapCornerLaw_67 : VK "TrapCornerLaw" 67 [12] yX12_day 0 := ⟨tw_1661, tw_1662, tw_13, ⟨by decide, by decide⟩, by decide +kernel, fun ci hci => by
  have hci := List.mem_singleton.mp hci
  subst hci
  exact ⟨_, rfl, tw_1663⟩⟩
theorem vk_TrapCornerLaw_68 : VK "TrapCornerLaw" 68 [11] yX11_crumb 2 := ⟨tw_961, tw_962, tw_1, ⟨by decide, by decide⟩, by decide +kernel, fun ci hci => by
  have hci := List.mem_singleton.mp hci
  subst hci
  exact ⟨_, rfl, tw_963⟩⟩
theorem vk_TrapCornerLaw_71 : VK "TrapCornerLaw" 71 [12] yX12_crumb 2 := ⟨tw_1720, tw_1721, tw_13, ⟨by decide, by decide⟩, by decide +kernel, fun ci hci => by
  have hci := List.mem_singleton.mp hci
  subst hci
  exact ⟨_, rfl, tw_1722⟩⟩
theorem vk_TrapCornerLaw_72 : VK "TrapCornerLaw" 72 [11] yX11_renew 1 := ⟨tw_965, tw_966, tw_1, ⟨by decide, by decide⟩, by decide +kernel, fun ci hci => by
  have hci := List.mem_singleton.mp hci
  subst hci
  exact ⟨_, rfl, tw_967⟩⟩
theorem vk_TrapCornerLaw_75 : VK "TrapCornerLaw" 75 [12] yX12_renew 1 := ⟨tw_1732, tw_1733, tw_13, ⟨by decide, by decide⟩, by decide +kernel, fun ci hci => by
  have hci := List.mem_singleton.mp hci
  subst hci
  exact ⟨_, rfl, tw_1734⟩⟩
theorem vk_TrapCornerLaw_76 : VK "TrapCornerLaw" 76 [11] yX11_constable 1 := ⟨tw_969, tw_970, tw_1, ⟨by decide, by decide⟩, by decide +kernel, fun ci hci => by
  have hci := List.mem_singleton.mp hci
  subst hci
  exact ⟨_, rfl, tw_971⟩⟩
theorem vk_TrapCornerLaw_79 : VK "TrapCornerLaw" 79 [12] yX12_constable 1 := ⟨tw_1743, tw_1744, tw_13, ⟨by decide, by decide⟩, by decide +kernel, fun ci hci => by
  have hci := List.mem_singleton.mp hci
  subst hci
  exact ⟨_, rfl, tw_1745⟩⟩
theorem vk_TrapCornerLaw_80 : VK "TrapCornerLaw" 80 [11] yX11_about 1 := ⟨tw_973, tw_974, tw_1, ⟨by decide, by decide⟩, by decide +kernel, fun ci hci => by
  have hci := List.mem_singleton.mp hci
  subst hci
  exact ⟨_, rfl, tw_975⟩⟩
theorem vk_TrapCornerLaw_83 : VK "TrapCornerLaw" 83 [12] yX12_about 1 := ⟨tw_1747, tw_1748, tw_13, ⟨by decide, by decide⟩, by decide +kernel, fun ci hci => by
  have hci := List.mem_singleton.mp hci
  subst hci
  exact ⟨_, rfl, tw_1749⟩⟩
theorem vk_TrapCornerLaw_84 : VK "TrapCornerLaw" 84 [11] yX11_give 1 := ⟨tw_977, tw_978, tw_1, ⟨by decide, by decide⟩, by decide +kernel, fun ci hci => by
  have hci := List.mem_singleton.mp hci
  subst hci
  exact ⟨_, rfl, tw_979⟩⟩
theorem vk_TrapCornerLaw_87 : VK "TrapCornerLaw" 87 [12] yX12_give 1 := ⟨tw_1754, tw_1755, tw_13, ⟨by decide, by decide⟩, by decide +kernel, fun ci hci => by
  have hci := List.mem_singleton.mp hci
  subst hci
  exact ⟨_, rfl, tw_1756⟩⟩
theorem vk_TrapCornerLaw_90 : VK "TrapCornerLaw" 90 [11] yX11_years 2 := ⟨tw_981, tw_982, tw_1, ⟨by decide, by decide⟩, by decide +kernel, fun ci hci => by
  have hci := List.mem_singleton.mp hci
  subst hci
  exact ⟨_, rfl, tw_983⟩⟩
theorem vk_TrapCornerLaw_94 : VK "TrapCornerLaw" 94 [12] yX12_years 2 := ⟨tw_1759, tw_1760, tw_13, ⟨by decide, by decide⟩, by decide +kernel, fun ci hci => by
  have hci := List.mem_singleton.mp hci
  subst hci
  exact ⟨_, rfl, tw_1761⟩⟩
theorem vk_TrapCornerLaw_95 : VK "TrapCornerLaw" 95 [11] yX11_undo 0 := ⟨tw_995, tw_996, tw_1, ⟨by decide, by decide⟩, by decide +kernel, fun ci hci => by
  have hci := List.mem_singleton.mp hci
  subst hci
  exact ⟨_, rfl, tw_997⟩⟩
theorem vk_TrapCornerLaw_98 : VK "TrapCornerLaw" 98 [12] yX12_undo 0 := ⟨tw_1770, tw_1771, tw_13, ⟨by decide, by decide⟩, by decide +kernel, fun ci hci => by
  have hci := List.mem_singleton.mp hci
  subst hci
  exact ⟨_, rfl, tw_1772⟩⟩
theorem vk_TrapCornerLaw_99 : VK "TrapCornerLaw" 99 [11] yX11_log 2 := ⟨tw_802, tw_803, tw_1, ⟨by decide, by decide⟩, by decide +kernel, fun ci hci => by
  have hci := List.mem_singleton.mp hci
  subst hci
  exact ⟨_, rfl, tw_804⟩⟩
theorem vk_TrapCornerLaw_102 : VK "TrapCornerLaw" 102 [12] yX12_log 2 := ⟨tw_1774, tw_1775, tw_13, ⟨by decide, by decide⟩, by decide +kernel, fun ci hci => by
  have hci := List.mem_singleton.mp hci
  subst hci
  exact ⟨_, rfl, tw_1776⟩⟩
theorem vk_TrapCornerLaw_103 : VK "TrapCornerLaw" 103 [11] yX11_step 3 := ⟨tw_829, tw_830, tw_1, ⟨by decide, by decide⟩, by decide +kernel, fun ci hci => by
  have hci := List.mem_singleton.mp hci
  subst hci
  exact ⟨_, rfl, tw_831⟩⟩
theorem vk_TrapCornerLaw_107 : VK "TrapCornerLaw" 107 [12] yX12_step 3 := ⟨tw_1778, tw_1779, tw_13, ⟨by decide, by decide⟩, by decide +kernel, fun ci hci => by
  have hci := List.mem_singleton.mp hci
  subst hci
  exact ⟨_, rfl, tw_1780⟩⟩
theorem vk_TrapCornerLaw_108 : VK "TrapCornerLaw" 108 [11] yX11_run 2 := ⟨tw_1024, tw_1025, tw_1, ⟨by decide, by decide⟩, by decide +kernel, fun ci hci => by
  have hci := List.mem_singleton.mp hci
  subst hci
  exact ⟨_, rfl, tw_1026⟩⟩
theorem vk_TrapCornerLaw_111 : VK "TrapCornerLaw" 111 [12] yX12_run 2 := ⟨tw_1787, tw_1788, tw_13, ⟨by decide, by decide⟩, by decide +kernel, fun ci hci => by
  have hci := List.mem_singleton.mp hci
  subst hci
  exact ⟨_, rfl, tw_1789⟩⟩
section
variable {g : GG} {p : Program} {l : Launch} {e : Env} {s : State} {m : MethodId} {below : List Frame} {meth : Method} {c : Code} {b L : Nat} {xs : Nat → Int32}
def f_L_law_1641 (xs : Nat → Int32) (L : Nat) (k23 : Nat → Nat → Nat → Int32 → AH → Option (Int32 × AH)) (o1 : Nat) (o2 : Nat) (o3 : Nat) (x4 : Int32) (h : AH) : Option (Int32 × AH) :=
  ck h (
  k23 o1 o2 o3 (x4 + 6) h)
set_option maxHeartbeats 1000000 in
theorem w_L_law_1641 (hl9 : l.stackTraces = false) (X : Cx g p s m #[Value.ref b] meth c cL_law 7 "TrapCornerLaw") (hX : SX g s s.heap) (hS : va_X b L xs s s.heap ∧ b < s.heap.size ∧ ¬ AG g b) (hR : 100 ≤ room_1.frames ∧ 7000 ≤ room_1.locals) (hr : meth.sig.returnType = ret) {res : Int32 × AH} (hr1 : res.1 = 1) (hres : res.2.1 ≤ 601024 ∧ res.2.2.1 ≤ 7293033) (hA : room_1.cells + 0 = 601024 ∧ room_1.slots + 0 = 7293033) {k23 : Nat → Nat → Nat → Int32 → AH → Option (Int32 × AH)} (hk23 : ∀ (o1 : Nat) (o2 : Nat) (o3 : Nat) (x4 : Int32) (h : AH) (ls : Array Slot) (H : Heap) (locs : List Loc) (cells slots : Nat), k23 o1 o2 o3 x4 h = some res → Iv g s 0 0 h H locs cells slots → lv_has ls 7 [(0, .ref b), (1, .ref (rfG g o1)), (2, .ref (rfG g o2)), (3, .ref (rfG g o3)), (4, .int x4)] → W p l e room_1 s m #[Value.ref b] below meth c H locs cells slots (lw_Z below #[Value.ref b] s) (F0 m 23 ls [])) : ∀ (o1 : Nat) (o2 : Nat) (o3 : Nat) (x4 : Int32) (h : AH) (ls : Array Slot) (H : Heap) (locs : List Loc) (cells slots : Nat), f_L_law_1641 xs L k23 o1 o2 o3 x4 h = some res → Iv g s 0 0 h H locs cells slots → lv_has ls 7 [(0, .ref b), (1, .ref (rfG g o1)), (2, .ref (rfG g o2)), (3, .ref (rfG g o3)), (4, .int x4)] → W p l e room_1 s m #[Value.ref b] below meth c H locs cells slots (lw_Z below #[Value.ref b] s) (F0 m 1641 ls []) := by
  have hx := X.1
  have hb := X.2.1
  intro o1 o2 o3 x4 h ls H locs cells slots hf I hl
  unfold f_L_law_1641 at hf
  obtain ⟨hbd, hf⟩ := ck_spec hf
  have hbd := lt2 hbd hres
  have hle := I.le hA hbd
  refine lv_iinc (v := x4 + 6) (lv' := [(4, .int (x4 + 6)), (0, .ref b), (1, .ref (rfG g o1)), (2, .ref (rfG g o2)), (3, .ref (rfG g o3))]) hx hb dL_law_1641 hl (k := 4) rfl rfl (by decide) rfl (fun ls hl => ?_)
  refine lv_goto (tgt := 23) hx hb dL_law_1644 (by decide) ?_
  exact hk23 o1 o2 o3 (x4 + 6) h ls H locs _ _ hf I (lv_sub hl [1, 2, 3, 4, 0] rfl)
def f_L_law_224 (xs : Nat → Int32) (L : Nat) (k23 : Nat → Nat → Nat → Int32 → AH → Option (Int32 × AH)) (o1 : Nat) (o2 : Nat) (o3 : Nat) (x4 : Int32) (h : AH) : Option (Int32 × AH) :=
  ck h (
  (sx xs L (x4 + 1)).bind fun v1 =>
  (sx xs L (x4 + 2)).bind fun v3 =>
  (sx xs L (x4 + 3)).bind fun v5 =>
  (sx xs L (x4 + 4)).bind fun v7 =>
  (sx xs L (x4 + 5)).bind fun v9 =>
  (isC [11] h o1).bind fun _ =>
  cN (f_X11_feed o1 v1 v3 v5 v7 v9 h) h fun v11 h12 =>
  (sx xs L (x4 + 1)).bind fun v16 =>
  (sx xs L (x4 + 2)).bind fun v18 =>
  (sx xs L (x4 + 3)).bind fun v20 =>
  (sx xs L (x4 + 4)).bind fun v22 =>
  (sx xs L (x4 + 5)).bind fun v24 =>
  (isC [12] h12 o2).bind fun _ =>
  cN (f_X12_feed o2 v16 v18 v20 v22 v24 h12) h12 fun v26 h27 =>
  if v11 = v26 then
    f_L_law_1641 xs L k23 o1 o2 o3 x4 h27
  else
    some (0, h27))
set_option maxHeartbeats 1000000 in
theorem w_L_law_224 (hl9 : l.stackTraces = false) (X : Cx g p s m #[Value.ref b] meth c cL_law 7 "TrapCornerLaw") (hX : SX g s s.heap) (hS : va_X b L xs s s.heap ∧ b < s.heap.size ∧ ¬ AG g b) (hR : 100 ≤ room_1.frames ∧ 7000 ≤ room_1.locals) (hr : meth.sig.returnType = ret) {res : Int32 × AH} (hr1 : res.1 = 1) (hres : res.2.1 ≤ 601024 ∧ res.2.2.1 ≤ 7293033) (hA : room_1.cells + 0 = 601024 ∧ room_1.slots + 0 = 7293033) {k23 : Nat → Nat → Nat → Int32 → AH → Option (Int32 × AH)} (hk23 : ∀ (o1 : Nat) (o2 : Nat) (o3 : Nat) (x4 : Int32) (h : AH) (ls : Array Slot) (H : Heap) (locs : List Loc) (cells slots : Nat), k23 o1 o2 o3 x4 h = some res → Iv g s 0 0 h H locs cells slots → lv_has ls 7 [(0, .ref b), (1, .ref (rfG g o1)), (2, .ref (rfG g o2)), (3, .ref (rfG g o3)), (4, .int x4)] → W p l e room_1 s m #[Value.ref b] below meth c H locs cells slots (lw_Z below #[Value.ref b] s) (F0 m 23 ls [])) : ∀ (o1 : Nat) (o2 : Nat) (o3 : Nat) (x4 : Int32) (h : AH) (ls : Array Slot) (H : Heap) (locs : List Loc) (cells slots : Nat), f_L_law_224 xs L k23 o1 o2 o3 x4 h = some res → Iv g s 0 0 h H locs cells slots → lv_has ls 7 [(0, .ref b), (1, .ref (rfG g o1)), (2, .ref (rfG g o2)), (3, .ref (rfG g o3)), (4, .int x4)] → W p l e room_1 s m #[Value.ref b] below meth c H locs cells slots (lw_Z below #[Value.ref b] s) (F0 m 224 ls []) := by
  have hx := X.1
  have hb := X.2.1
  intro o1 o2 o3 x4 h ls H locs cells slots hf I hl
  unfold f_L_law_224 at hf
  obtain ⟨hbd, hf⟩ := ck_spec hf
  have hbd := lt2 hbd hres
  have hle := I.le hA hbd
  refine lv_aload_n hx hb dL_law_224 rfl (lv_at hl 1 rfl) ?_
  refine lv_aload_n hx hb dL_law_225 rfl (lv_at hl 0 rfl) ?_
  refine lv_iload hx hb dL_law_226 (lv_at hl 4 rfl) ?_
  refine lv_iconst (v := 1) hx hb dL_law_228 (by decide) ?_
  refine lv_iadd hx hb dL_law_229 ?_
  obtain ⟨v1, e2, hf⟩ := Option.bind_eq_some_iff.mp hf
  refine r_sx X I hS e2 dL_law_230 ?_
  refine lv_aload_n hx hb dL_law_231 rfl (lv_at hl 0 rfl) ?_
  refine lv_iload hx hb dL_law_232 (lv_at hl 4 rfl) ?_
  refine lv_iconst (v := 2) hx hb dL_law_234 (by decide) ?_
  refine lv_iadd hx hb dL_law_235 ?_
  obtain ⟨v3, e4, hf⟩ := Option.bind_eq_some_iff.mp hf
  refine r_sx X I hS e4 dL_law_236 ?_
  refine lv_aload_n hx hb dL_law_237 rfl (lv_at hl 0 rfl) ?_
  refine lv_iload hx hb dL_law_238 (lv_at hl 4 rfl) ?_
  refine lv_iconst (v := 3) hx hb dL_law_240 (by decide) ?_
  refine lv_iadd hx hb dL_law_241 ?_
  obtain ⟨v5, e6, hf⟩ := Option.bind_eq_some_iff.mp hf
  refine r_sx X I hS e6 dL_law_242 ?_
  refine lv_aload_n hx hb dL_law_243 rfl (lv_at hl 0 rfl) ?_
  refine lv_iload hx hb dL_law_244 (lv_at hl 4 rfl) ?_
  refine lv_iconst (v := 4) hx hb dL_law_246 (by decide) ?_
  refine lv_iadd hx hb dL_law_247 ?_
  obtain ⟨v7, e8, hf⟩ := Option.bind_eq_some_iff.mp hf
  refine r_sx X I hS e8 dL_law_248 ?_
  refine lv_aload_n hx hb dL_law_249 rfl (lv_at hl 0 rfl) ?_
  refine lv_iload hx hb dL_law_250 (lv_at hl 4 rfl) ?_
  refine lv_iconst (v := 5) hx hb dL_law_252 (by decide) ?_
  refine lv_iadd hx hb dL_law_253 ?_
  obtain ⟨v9, e10, hf⟩ := Option.bind_eq_some_iff.mp hf
  refine r_sx X I hS e10 dL_law_254 ?_
  obtain ⟨_, g15, hf⟩ := Option.bind_eq_some_iff.mp hf
  obtain ⟨v11, h12, e13, z14, hf⟩ := cN_spec hf
  refine k_Vi (As := [.int v1, .int v3, .int v5, .int v7, .int v9]) (rest := []) X I (c_X11_feed l g o1 v1 v3 v5 v7 v9 e13) z14 g15 vk_TrapCornerLaw_19 tw_426 ⟨Nat.le_trans (by decide) hR.1, Nat.le_trans (by decide) hR.2⟩ hle rfl hl.1 rfl (Nat.le_of_ble_eq_true rfl) dL_law_255 (fun H locs I => ?_)
  refine lv_aload_n hx hb dL_law_258 rfl (lv_at hl 2 rfl) ?_
  refine lv_aload_n hx hb dL_law_259 rfl (lv_at hl 0 rfl) ?_
  refine lv_iload hx hb dL_law_260 (lv_at hl 4 rfl) ?_
  refine lv_iconst (v := 1) hx hb dL_law_262 (by decide) ?_
  refine lv_iadd hx hb dL_law_263 ?_
  obtain ⟨v16, e17, hf⟩ := Option.bind_eq_some_iff.mp hf
  refine r_sx X I hS e17 dL_law_264 ?_
  refine lv_aload_n hx hb dL_law_265 rfl (lv_at hl 0 rfl) ?_
  refine lv_iload hx hb dL_law_266 (lv_at hl 4 rfl) ?_
  refine lv_iconst (v := 2) hx hb dL_law_268 (by decide) ?_
  refine lv_iadd hx hb dL_law_269 ?_
  obtain ⟨v18, e19, hf⟩ := Option.bind_eq_some_iff.mp hf
  refine r_sx X I hS e19 dL_law_270 ?_
  refine lv_aload_n hx hb dL_law_271 rfl (lv_at hl 0 rfl) ?_
  refine lv_iload hx hb dL_law_272 (lv_at hl 4 rfl) ?_
  refine lv_iconst (v := 3) hx hb dL_law_274 (by decide) ?_
  refine lv_iadd hx hb dL_law_275 ?_
  obtain ⟨v20, e21, hf⟩ := Option.bind_eq_some_iff.mp hf
  refine r_sx X I hS e21 dL_law_276 ?_
  refine lv_aload_n hx hb dL_law_277 rfl (lv_at hl 0 rfl) ?_
  refine lv_iload hx hb dL_law_278 (lv_at hl 4 rfl) ?_
  refine lv_iconst (v := 4) hx hb dL_law_280 (by decide) ?_
  refine lv_iadd hx hb dL_law_281 ?_
  obtain ⟨v22, e23, hf⟩ := Option.bind_eq_some_iff.mp hf
  refine r_sx X I hS e23 dL_law_282 ?_
  refine lv_aload_n hx hb dL_law_283 rfl (lv_at hl 0 rfl) ?_
  refine lv_iload hx hb dL_law_284 (lv_at hl 4 rfl) ?_
  refine lv_iconst (v := 5) hx hb dL_law_286 (by decide) ?_
  refine lv_iadd hx hb dL_law_287 ?_
  obtain ⟨v24, e25, hf⟩ := Option.bind_eq_some_iff.mp hf
  refine r_sx X I hS e25 dL_law_288 ?_
  obtain ⟨_, g30, hf⟩ := Option.bind_eq_some_iff.mp hf
  obtain ⟨v26, h27, e28, z29, hf⟩ := cN_spec hf
  refine k_Vi (As := [.int v16, .int v18, .int v20, .int v22, .int v24]) (rest := [.int v11]) X I (c_X12_feed l g o2 v16 v18 v20 v22 v24 e28) z29 g30 vk_TrapCornerLaw_23 tw_1446 ⟨Nat.le_trans (by decide) hR.1, Nat.le_trans (by decide) hR.2⟩ hle rfl hl.1 rfl (Nat.le_of_ble_eq_true rfl) dL_law_289 (fun H locs I => ?_)
  refine lv_icmp_eq (tgt := 1641) hx hb dL_law_292 (by decide) (fun c31 => ?_) (fun c31 => ?_)
  · rw [if_pos c31] at hf
    exact w_L_law_1641 hl9 X hX hS hR hr hr1 hres hA hk23 o1 o2 o3 x4 h27 ls H locs _ _ hf I (lv_sub hl [0, 1, 2, 3, 4] rfl)
  · rw [if_neg c31] at hf
    refine lv_iconst (v := 0) hx hb dL_law_295 (by decide) ?_
    cases hf
    exact absurd (show (0 : Int32) = 1 from hr1) (by decide)
def f_L_law_297 (xs : Nat → Int32) (L : Nat) (k23 : Nat → Nat → Nat → Int32 → AH → Option (Int32 × AH)) (o1 : Nat) (o2 : Nat) (o3 : Nat) (x4 : Int32) (h : AH) : Option (Int32 × AH) :=
  ck h (
  (sx xs L (x4 + 1)).bind fun v1 =>
  (isC [11] h o1).bind fun _ =>
  cN (f_X11_end o1 v1 h) h fun v3 h4 =>
  (sx xs L (x4 + 1)).bind fun v8 =>
  (isC [12] h4 o2).bind fun _ =>
  cN (f_X12_end o2 v8 h4) h4 fun v10 h11 =>
  if v3 = v10 then
    f_L_law_1641 xs L k23 o1 o2 o3 x4 h11
  else
    some (0, h11))
set_option maxHeartbeats 1000000 in
theorem w_L_law_297 (hl9 : l.stackTraces = false) (X : Cx g p s m #[Value.ref b] meth c cL_law 7 "TrapCornerLaw") (hX : SX g s s.heap) (hS : va_X b L xs s s.heap ∧ b < s.heap.size ∧ ¬ AG g b) (hR : 100 ≤ room_1.frames ∧ 7000 ≤ room_1.locals) (hr : meth.sig.returnType = ret) {res : Int32 × AH} (hr1 : res.1 = 1) (hres : res.2.1 ≤ 601024 ∧ res.2.2.1 ≤ 7293033) (hA : room_1.cells + 0 = 601024 ∧ room_1.slots + 0 = 7293033) {k23 : Nat → Nat → Nat → Int32 → AH → Option (Int32 × AH)} (hk23 : ∀ (o1 : Nat) (o2 : Nat) (o3 : Nat) (x4 : Int32) (h : AH) (ls : Array Slot) (H : Heap) (locs : List Loc) (cells slots : Nat), k23 o1 o2 o3 x4 h = some res → Iv g s 0 0 h H locs cells slots → lv_has ls 7 [(0, .ref b), (1, .ref (rfG g o1)), (2, .ref (rfG g o2)), (3, .ref (rfG g o3)), (4, .int x4)] → W p l e room_1 s m #[Value.ref b] below meth c H locs cells slots (lw_Z below #[Value.ref b] s) (F0 m 23 ls [])) : ∀ (o1 : Nat) (o2 : Nat) (o3 : Nat) (x4 : Int32) (h : AH) (ls : Array Slot) (H : Heap) (locs : List Loc) (cells slots : Nat), f_L_law_297 xs L k23 o1 o2 o3 x4 h = some res → Iv g s 0 0 h H locs cells slots → lv_has ls 7 [(0, .ref b), (1, .ref (rfG g o1)), (2, .ref (rfG g o2)), (3, .ref (rfG g o3)), (4, .int x4)] → W p l e room_1 s m #[Value.ref b] below meth c H locs cells slots (lw_Z below #[Value.ref b] s) (F0 m 297 ls []) := by
  have hx := X.1
  have hb := X.2.1
  intro o1 o2 o3 x4 h ls H locs cells slots hf I hl
  unfold f_L_law_297 at hf
  obtain ⟨hbd, hf⟩ := ck_spec hf
  have hbd := lt2 hbd hres
  have hle := I.le hA hbd
  refine lv_aload_n hx hb dL_law_297 rfl (lv_at hl 1 rfl) ?_
  refine lv_aload_n hx hb dL_law_298 rfl (lv_at hl 0 rfl) ?_
  refine lv_iload hx hb dL_law_299 (lv_at hl 4 rfl) ?_
  refine lv_iconst (v := 1) hx hb dL_law_301 (by decide) ?_
  refine lv_iadd hx hb dL_law_302 ?_
  obtain ⟨v1, e2, hf⟩ := Option.bind_eq_some_iff.mp hf
  refine r_sx X I hS e2 dL_law_303 ?_
  obtain ⟨_, g7, hf⟩ := Option.bind_eq_some_iff.mp hf
  obtain ⟨v3, h4, e5, z6, hf⟩ := cN_spec hf
  refine k_Vi (As := [.int v1]) (rest := []) X I (c_X11_end l g o1 v1 e5) z6 g7 vk_TrapCornerLaw_24 tw_438 ⟨Nat.le_trans (by decide) hR.1, Nat.le_trans (by decide) hR.2⟩ hle rfl hl.1 rfl (Nat.le_of_ble_eq_true rfl) dL_law_304 (fun H locs I => ?_)
  refine lv_aload_n hx hb dL_law_307 rfl (lv_at hl 2 rfl) ?_
  refine lv_aload_n hx hb dL_law_308 rfl (lv_at hl 0 rfl) ?_
  refine lv_iload hx hb dL_law_309 (lv_at hl 4 rfl) ?_
  refine lv_iconst (v := 1) hx hb dL_law_311 (by decide) ?_
  refine lv_iadd hx hb dL_law_312 ?_
  obtain ⟨v8, e9, hf⟩ := Option.bind_eq_some_iff.mp hf
  refine r_sx X I hS e9 dL_law_313 ?_
  obtain ⟨_, g14, hf⟩ := Option.bind_eq_some_iff.mp hf
  obtain ⟨v10, h11, e12, z13, hf⟩ := cN_spec hf
  refine k_Vi (As := [.int v8]) (rest := [.int v3]) X I (c_X12_end l g o2 v8 e12) z13 g14 vk_TrapCornerLaw_28 tw_1457 ⟨Nat.le_trans (by decide) hR.1, Nat.le_trans (by decide) hR.2⟩ hle rfl hl.1 rfl (Nat.le_of_ble_eq_true rfl) dL_law_314 (fun H locs I => ?_)
  refine lv_icmp_eq (tgt := 1641) hx hb dL_law_317 (by decide) (fun c15 => ?_) (fun c15 => ?_)
  · rw [if_pos c15] at hf
    exact w_L_law_1641 hl9 X hX hS hR hr hr1 hres hA hk23 o1 o2 o3 x4 h11 ls H locs _ _ hf I (lv_sub hl [0, 1, 2, 3, 4] rfl)
  · rw [if_neg c15] at hf
    refine lv_iconst (v := 0) hx hb dL_law_320 (by decide) ?_
    cases hf
    exact absurd (show (0 : Int32) = 1 from hr1) (by decide)
def f_L_law_322 (xs : Nat → Int32) (L : Nat) (k23 : Nat → Nat → Nat → Int32 → AH → Option (Int32 × AH)) (o1 : Nat) (o2 : Nat) (o3 : Nat) (x4 : Int32) (h : AH) : Option (Int32 × AH) :=
  ck h (
  (sx xs L (x4 + 1)).bind fun v1 =>
  (isC [11] h o1).bind fun _ =>
  cN (f_X11_fault o1 v1 h) h fun v3 h4 =>
  (sx xs L (x4 + 1)).bind fun v8 =>
  (isC [12] h4 o2).bind fun _ =>
  cN (f_X12_fault o2 v8 h4) h4 fun v10 h11 =>
  if v3 = v10 then
    f_L_law_1641 xs L k23 o1 o2 o3 x4 h11
  else
    some (0, h11))
set_option maxHeartbeats 1000000 in
theorem w_L_law_322 (hl9 : l.stackTraces = false) (X : Cx g p s m #[Value.ref b] meth c cL_law 7 "TrapCornerLaw") (hX : SX g s s.heap) (hS : va_X b L xs s s.heap ∧ b < s.heap.size ∧ ¬ AG g b) (hR : 100 ≤ room_1.frames ∧ 7000 ≤ room_1.locals) (hr : meth.sig.returnType = ret) {res : Int32 × AH} (hr1 : res.1 = 1) (hres : res.2.1 ≤ 601024 ∧ res.2.2.1 ≤ 7293033) (hA : room_1.cells + 0 = 601024 ∧ room_1.slots + 0 = 7293033) {k23 : Nat → Nat → Nat → Int32 → AH → Option (Int32 × AH)} (hk23 : ∀ (o1 : Nat) (o2 : Nat) (o3 : Nat) (x4 : Int32) (h : AH) (ls : Array Slot) (H : Heap) (locs : List Loc) (cells slots : Nat), k23 o1 o2 o3 x4 h = some res → Iv g s 0 0 h H locs cells slots → lv_has ls 7 [(0, .ref b), (1, .ref (rfG g o1)), (2, .ref (rfG g o2)), (3, .ref (rfG g o3)), (4, .int x4)] → W p l e room_1 s m #[Value.ref b] below meth c H locs cells slots (lw_Z below #[Value.ref b] s) (F0 m 23 ls [])) : ∀ (o1 : Nat) (o2 : Nat) (o3 : Nat) (x4 : Int32) (h : AH) (ls : Array Slot) (H : Heap) (locs : List Loc) (cells slots : Nat), f_L_law_322 xs L k23 o1 o2 o3 x4 h = some res → Iv g s 0 0 h H locs cells slots → lv_has ls 7 [(0, .ref b), (1, .ref (rfG g o1)), (2, .ref (rfG g o2)), (3, .ref (rfG g o3)), (4, .int x4)] → W p l e room_1 s m #[Value.ref b] below meth c H locs cells slots (lw_Z below #[Value.ref b] s) (F0 m 322 ls []) := by
  have hx := X.1
  have hb := X.2.1
  intro o1 o2 o3 x4 h ls H locs cells slots hf I hl
  unfold f_L_law_322 at hf
  obtain ⟨hbd, hf⟩ := ck_spec hf
  have hbd := lt2 hbd hres
  have hle := I.le hA hbd
  refine lv_aload_n hx hb dL_law_322 rfl (lv_at hl 1 rfl) ?_
  refine lv_aload_n hx hb dL_law_323 rfl (lv_at hl 0 rfl) ?_
  refine lv_iload hx hb dL_law_324 (lv_at hl 4 rfl) ?_
  refine lv_iconst (v := 1) hx hb dL_law_326 (by decide) ?_
  refine lv_iadd hx hb dL_law_327 ?_
  obtain ⟨v1, e2, hf⟩ := Option.bind_eq_some_iff.mp hf
  refine r_sx X I hS e2 dL_law_328 ?_
  obtain ⟨_, g7, hf⟩ := Option.bind_eq_some_iff.mp hf
  obtain ⟨v3, h4, e5, z6, hf⟩ := cN_spec hf
  refine k_Vi (As := [.int v1]) (rest := []) X I (c_X11_fault l g o1 v1 e5) z6 g7 vk_TrapCornerLaw_29 tw_442 ⟨Nat.le_trans (by decide) hR.1, Nat.le_trans (by decide) hR.2⟩ hle rfl hl.1 rfl (Nat.le_of_ble_eq_true rfl) dL_law_329 (fun H locs I => ?_)
  refine lv_aload_n hx hb dL_law_332 rfl (lv_at hl 2 rfl) ?_
  refine lv_aload_n hx hb dL_law_333 rfl (lv_at hl 0 rfl) ?_
  refine lv_iload hx hb dL_law_334 (lv_at hl 4 rfl) ?_
  refine lv_iconst (v := 1) hx hb dL_law_336 (by decide) ?_
  refine lv_iadd hx hb dL_law_337 ?_
  obtain ⟨v8, e9, hf⟩ := Option.bind_eq_some_iff.mp hf
  refine r_sx X I hS e9 dL_law_338 ?_
  obtain ⟨_, g14, hf⟩ := Option.bind_eq_some_iff.mp hf
  obtain ⟨v10, h11, e12, z13, hf⟩ := cN_spec hf
  refine k_Vi (As := [.int v8]) (rest := [.int v3]) X I (c_X12_fault l g o2 v8 e12) z13 g14 vk_TrapCornerLaw_33 tw_1461 ⟨Nat.le_trans (by decide) hR.1, Nat.le_trans (by decide) hR.2⟩ hle rfl hl.1 rfl (Nat.le_of_ble_eq_true rfl) dL_law_339 (fun H locs I => ?_)
  refine lv_icmp_eq (tgt := 1641) hx hb dL_law_342 (by decide) (fun c15 => ?_) (fun c15 => ?_)
  · rw [if_pos c15] at hf
    exact w_L_law_1641 hl9 X hX hS hR hr hr1 hres hA hk23 o1 o2 o3 x4 h11 ls H locs _ _ hf I (lv_sub hl [0, 1, 2, 3, 4] rfl)
  · rw [if_neg c15] at hf
    refine lv_iconst (v := 0) hx hb dL_law_345 (by decide) ?_
    cases hf
    exact absurd (show (0 : Int32) = 1 from hr1) (by decide)
def f_L_law_347 (xs : Nat → Int32) (L : Nat) (k23 : Nat → Nat → Nat → Int32 → AH → Option (Int32 × AH)) (o1 : Nat) (o2 : Nat) (o3 : Nat) (x4 : Int32) (h : AH) : Option (Int32 × AH) :=
  ck h (
  (sx xs L (x4 + 1)).bind fun v1 =>
  (isC [11] h o1).bind fun _ =>
  cA (f_X11_text o1 v1 h) h fun v3 h4 =>
  (sx xs L (x4 + 1)).bind fun v9 =>
  (isC [12] h4 o2).bind fun _ =>
  cN (f_X12_text o2 v9 h4) h4 fun v11 h12 =>
  if v3 = v11 then
    f_L_law_1641 xs L k23 o1 o2 o3 x4 h12
  else
    some (0, h12))
set_option maxHeartbeats 1000000 in
theorem w_L_law_347 (hl9 : l.stackTraces = false) (X : Cx g p s m #[Value.ref b] meth c cL_law 7 "TrapCornerLaw") (hX : SX g s s.heap) (hS : va_X b L xs s s.heap ∧ b < s.heap.size ∧ ¬ AG g b) (hR : 100 ≤ room_1.frames ∧ 7000 ≤ room_1.locals) (hr : meth.sig.returnType = ret) {res : Int32 × AH} (hr1 : res.1 = 1) (hres : res.2.1 ≤ 601024 ∧ res.2.2.1 ≤ 7293033) (hA : room_1.cells + 0 = 601024 ∧ room_1.slots + 0 = 7293033) {k23 : Nat → Nat → Nat → Int32 → AH → Option (Int32 × AH)} (hk23 : ∀ (o1 : Nat) (o2 : Nat) (o3 : Nat) (x4 : Int32) (h : AH) (ls : Array Slot) (H : Heap) (locs : List Loc) (cells slots : Nat), k23 o1 o2 o3 x4 h = some res → Iv g s 0 0 h H locs cells slots → lv_has ls 7 [(0, .ref b), (1, .ref (rfG g o1)), (2, .ref (rfG g o2)), (3, .ref (rfG g o3)), (4, .int x4)] → W p l e room_1 s m #[Value.ref b] below meth c H locs cells slots (lw_Z below #[Value.ref b] s) (F0 m 23 ls [])) : ∀ (o1 : Nat) (o2 : Nat) (o3 : Nat) (x4 : Int32) (h : AH) (ls : Array Slot) (H : Heap) (locs : List Loc) (cells slots : Nat), f_L_law_347 xs L k23 o1 o2 o3 x4 h = some res → Iv g s 0 0 h H locs cells slots → lv_has ls 7 [(0, .ref b), (1, .ref (rfG g o1)), (2, .ref (rfG g o2)), (3, .ref (rfG g o3)), (4, .int x4)] → W p l e room_1 s m #[Value.ref b] below meth c H locs cells slots (lw_Z below #[Value.ref b] s) (F0 m 347 ls []) := by
  have hx := X.1
  have hb := X.2.1
  intro o1 o2 o3 x4 h ls H locs cells slots hf I hl
  unfold f_L_law_347 at hf
  obtain ⟨hbd, hf⟩ := ck_spec hf
  have hbd := lt2 hbd hres
  have hle := I.le hA hbd
  refine lv_aload_n hx hb dL_law_347 rfl (lv_at hl 1 rfl) ?_
  refine lv_aload_n hx hb dL_law_348 rfl (lv_at hl 0 rfl) ?_
  refine lv_iload hx hb dL_law_349 (lv_at hl 4 rfl) ?_
  refine lv_iconst (v := 1) hx hb dL_law_351 (by decide) ?_
  refine lv_iadd hx hb dL_law_352 ?_
  obtain ⟨v1, e2, hf⟩ := Option.bind_eq_some_iff.mp hf
  refine r_sx X I hS e2 dL_law_353 ?_
  obtain ⟨_, g7, hf⟩ := Option.bind_eq_some_iff.mp hf
  obtain ⟨v3, h4, e5, z6, b8, hf⟩ := cA_spec hf
  have b8 := lt2 b8 hres
  refine k_VAi (As := [.int v1]) (rest := []) X I (c_X11_text l g o1 v1 e5) z6 hA b8 g7 vk_TrapCornerLaw_34 tw_730 ⟨Nat.le_trans (by decide) hR.1, Nat.le_trans (by decide) hR.2⟩ rfl hl.1 rfl (Nat.le_of_ble_eq_true rfl) dL_law_354 (fun H locs I => ?_)
  have hle := I.le hA b8
  refine lv_aload_n hx hb dL_law_357 rfl (lv_at hl 2 rfl) ?_
  refine lv_aload_n hx hb dL_law_358 rfl (lv_at hl 0 rfl) ?_
  refine lv_iload hx hb dL_law_359 (lv_at hl 4 rfl) ?_
  refine lv_iconst (v := 1) hx hb dL_law_361 (by decide) ?_
  refine lv_iadd hx hb dL_law_362 ?_
  obtain ⟨v9, e10, hf⟩ := Option.bind_eq_some_iff.mp hf
  refine r_sx X I hS e10 dL_law_363 ?_
  obtain ⟨_, g15, hf⟩ := Option.bind_eq_some_iff.mp hf
  obtain ⟨v11, h12, e13, z14, hf⟩ := cN_spec hf
  refine k_Vi (As := [.int v9]) (rest := [.int v3]) X I (c_X12_text l g o2 v9 e13) z14 g15 vk_TrapCornerLaw_37 tw_1622 ⟨Nat.le_trans (by decide) hR.1, Nat.le_trans (by decide) hR.2⟩ hle rfl hl.1 rfl (Nat.le_of_ble_eq_true rfl) dL_law_364 (fun H locs I => ?_)
  refine lv_icmp_eq (tgt := 1641) hx hb dL_law_367 (by decide) (fun c16 => ?_) (fun c16 => ?_)
  · rw [if_pos c16] at hf
    exact w_L_law_1641 hl9 X hX hS hR hr hr1 hres hA hk23 o1 o2 o3 x4 h12 ls H locs _ _ hf I (lv_sub hl [0, 1, 2, 3, 4] rfl)
  · rw [if_neg c16] at hf
    refine lv_iconst (v := 0) hx hb dL_law_370 (by decide) ?_
    cases hf
    exact absurd (show (0 : Int32) = 1 from hr1) (by decide)
def f_L_law_372 (xs : Nat → Int32) (L : Nat) (k23 : Nat → Nat → Nat → Int32 → AH → Option (Int32 × AH)) (o1 : Nat) (o2 : Nat) (o3 : Nat) (x4 : Int32) (h : AH) : Option (Int32 × AH) :=
  ck h (
  (sx xs L (x4 + 1)).bind fun v1 =>
  (isC [11] h o1).bind fun _ =>
  cN (f_X11_rule o1 v1 h) h fun v3 h4 =>
  (sx xs L (x4 + 1)).bind fun v8 =>
  (isC [12] h4 o2).bind fun _ =>
  cN (f_X12_rule o2 v8 h4) h4 fun v10 h11 =>
  if v3 = v10 then
    f_L_law_1641 xs L k23 o1 o2 o3 x4 h11
  else
    some (0, h11))
set_option maxHeartbeats 1000000 in
theorem w_L_law_372 (hl9 : l.stackTraces = false) (X : Cx g p s m #[Value.ref b] meth c cL_law 7 "TrapCornerLaw") (hX : SX g s s.heap) (hS : va_X b L xs s s.heap ∧ b < s.heap.size ∧ ¬ AG g b) (hR : 100 ≤ room_1.frames ∧ 7000 ≤ room_1.locals) (hr : meth.sig.returnType = ret) {res : Int32 × AH} (hr1 : res.1 = 1) (hres : res.2.1 ≤ 601024 ∧ res.2.2.1 ≤ 7293033) (hA : room_1.cells + 0 = 601024 ∧ room_1.slots + 0 = 7293033) {k23 : Nat → Nat → Nat → Int32 → AH → Option (Int32 × AH)} (hk23 : ∀ (o1 : Nat) (o2 : Nat) (o3 : Nat) (x4 : Int32) (h : AH) (ls : Array Slot) (H : Heap) (locs : List Loc) (cells slots : Nat), k23 o1 o2 o3 x4 h = some res → Iv g s 0 0 h H locs cells slots → lv_has ls 7 [(0, .ref b), (1, .ref (rfG g o1)), (2, .ref (rfG g o2)), (3, .ref (rfG g o3)), (4, .int x4)] → W p l e room_1 s m #[Value.ref b] below meth c H locs cells slots (lw_Z below #[Value.ref b] s) (F0 m 23 ls [])) : ∀ (o1 : Nat) (o2 : Nat) (o3 : Nat) (x4 : Int32) (h : AH) (ls : Array Slot) (H : Heap) (locs : List Loc) (cells slots : Nat), f_L_law_372 xs L k23 o1 o2 o3 x4 h = some res → Iv g s 0 0 h H locs cells slots → lv_has ls 7 [(0, .ref b), (1, .ref (rfG g o1)), (2, .ref (rfG g o2)), (3, .ref (rfG g o3)), (4, .int x4)] → W p l e room_1 s m #[Value.ref b] below meth c H locs cells slots (lw_Z below #[Value.ref b] s) (F0 m 372 ls []) := by
  have hx := X.1
  have hb := X.2.1
  intro o1 o2 o3 x4 h ls H locs cells slots hf I hl
  unfold f_L_law_372 at hf
  obtain ⟨hbd, hf⟩ := ck_spec hf
  have hbd := lt2 hbd hres
  have hle := I.le hA hbd
  refine lv_aload_n hx hb dL_law_372 rfl (lv_at hl 1 rfl) ?_
  refine lv_aload_n hx hb dL_law_373 rfl (lv_at hl 0 rfl) ?_
  refine lv_iload hx hb dL_law_374 (lv_at hl 4 rfl) ?_
  refine lv_iconst (v := 1) hx hb dL_law_376 (by decide) ?_
  refine lv_iadd hx hb dL_law_377 ?_
  obtain ⟨v1, e2, hf⟩ := Option.bind_eq_some_iff.mp hf
  refine r_sx X I hS e2 dL_law_378 ?_
  obtain ⟨_, g7, hf⟩ := Option.bind_eq_some_iff.mp hf
  obtain ⟨v3, h4, e5, z6, hf⟩ := cN_spec hf
  refine k_Vi (As := [.int v1]) (rest := []) X I (c_X11_rule l g o1 v1 e5) z6 g7 vk_TrapCornerLaw_38 tw_789 ⟨Nat.le_trans (by decide) hR.1, Nat.le_trans (by decide) hR.2⟩ hle rfl hl.1 rfl (Nat.le_of_ble_eq_true rfl) dL_law_379 (fun H locs I => ?_)
  refine lv_aload_n hx hb dL_law_382 rfl (lv_at hl 2 rfl) ?_
  refine lv_aload_n hx hb dL_law_383 rfl (lv_at hl 0 rfl) ?_
  refine lv_iload hx hb dL_law_384 (lv_at hl 4 rfl) ?_
  refine lv_iconst (v := 1) hx hb dL_law_386 (by decide) ?_
  refine lv_iadd hx hb dL_law_387 ?_
  obtain ⟨v8, e9, hf⟩ := Option.bind_eq_some_iff.mp hf
  refine r_sx X I hS e9 dL_law_388 ?_
  obtain ⟨_, g14, hf⟩ := Option.bind_eq_some_iff.mp hf
  obtain ⟨v10, h11, e12, z13, hf⟩ := cN_spec hf
  refine k_Vi (As := [.int v8]) (rest := [.int v3]) X I (c_X12_rule l g o2 v8 e12) z13 g14 vk_TrapCornerLaw_41 tw_1627 ⟨Nat.le_trans (by decide) hR.1, Nat.le_trans (by decide) hR.2⟩ hle rfl hl.1 rfl (Nat.le_of_ble_eq_true rfl) dL_law_389 (fun H locs I => ?_)
  refine lv_icmp_eq (tgt := 1641) hx hb dL_law_392 (by decide) (fun c15 => ?_) (fun c15 => ?_)
  · rw [if_pos c15] at hf
    exact w_L_law_1641 hl9 X hX hS hR hr hr1 hres hA hk23 o1 o2 o3 x4 h11 ls H locs _ _ hf I (lv_sub hl [0, 1, 2, 3, 4] rfl)
  · rw [if_neg c15] at hf
    refine lv_iconst (v := 0) hx hb dL_law_395 (by decide) ?_
    cases hf
    exact absurd (show (0 : Int32) = 1 from hr1) (by decide)
def f_L_law_397 (xs : Nat → Int32) (L : Nat) (k23 : Nat → Nat → Nat → Int32 → AH → Option (Int32 × AH)) (o1 : Nat) (o2 : Nat) (o3 : Nat) (x4 : Int32) (h : AH) : Option (Int32 × AH) :=
  ck h (
  (sx xs L (x4 + 1)).bind fun v1 =>
  (sx xs L (x4 + 2)).bind fun v3 =>
  (isC [11] h o1).bind fun _ =>
  cN (f_X11_corner o1 v1 v3 h) h fun v5 h6 =>
  (sx xs L (x4 + 1)).bind fun v10 =>
  (sx xs L (x4 + 2)).bind fun v12 =>
  (isC [12] h6 o2).bind fun _ =>
  cN (f_X12_corner o2 v10 v12 h6) h6 fun v14 h15 =>
  if v5 = v14 then
    f_L_law_1641 xs L k23 o1 o2 o3 x4 h15
  else
    some (0, h15))
set_option maxHeartbeats 1000000 in
theorem w_L_law_397 (hl9 : l.stackTraces = false) (X : Cx g p s m #[Value.ref b] meth c cL_law 7 "TrapCornerLaw") (hX : SX g s s.heap) (hS : va_X b L xs s s.heap ∧ b < s.heap.size ∧ ¬ AG g b) (hR : 100 ≤ room_1.frames ∧ 7000 ≤ room_1.locals) (hr : meth.sig.returnType = ret) {res : Int32 × AH} (hr1 : res.1 = 1) (hres : res.2.1 ≤ 601024 ∧ res.2.2.1 ≤ 7293033) (hA : room_1.cells + 0 = 601024 ∧ room_1.slots + 0 = 7293033) {k23 : Nat → Nat → Nat → Int32 → AH → Option (Int32 × AH)} (hk23 : ∀ (o1 : Nat) (o2 : Nat) (o3 : Nat) (x4 : Int32) (h : AH) (ls : Array Slot) (H : Heap) (locs : List Loc) (cells slots : Nat), k23 o1 o2 o3 x4 h = some res → Iv g s 0 0 h H locs cells slots → lv_has ls 7 [(0, .ref b), (1, .ref (rfG g o1)), (2, .ref (rfG g o2)), (3, .ref (rfG g o3)), (4, .int x4)] → W p l e room_1 s m #[Value.ref b] below meth c H locs cells slots (lw_Z below #[Value.ref b] s) (F0 m 23 ls [])) : ∀ (o1 : Nat) (o2 : Nat) (o3 : Nat) (x4 : Int32) (h : AH) (ls : Array Slot) (H : Heap) (locs : List Loc) (cells slots : Nat), f_L_law_397 xs L k23 o1 o2 o3 x4 h = some res → Iv g s 0 0 h H locs cells slots → lv_has ls 7 [(0, .ref b), (1, .ref (rfG g o1)), (2, .ref (rfG g o2)), (3, .ref (rfG g o3)), (4, .int x4)] → W p l e room_1 s m #[Value.ref b] below meth c H locs cells slots (lw_Z below #[Value.ref b] s) (F0 m 397 ls []) := by
  have hx := X.1
  have hb := X.2.1
  intro o1 o2 o3 x4 h ls H locs cells slots hf I hl
  unfold f_L_law_397 at hf
  obtain ⟨hbd, hf⟩ := ck_spec hf
  have hbd := lt2 hbd hres
  have hle := I.le hA hbd
  refine lv_aload_n hx hb dL_law_397 rfl (lv_at hl 1 rfl) ?_
  refine lv_aload_n hx hb dL_law_398 rfl (lv_at hl 0 rfl) ?_
  refine lv_iload hx hb dL_law_399 (lv_at hl 4 rfl) ?_
  refine lv_iconst (v := 1) hx hb dL_law_401 (by decide) ?_
  refine lv_iadd hx hb dL_law_402 ?_
  obtain ⟨v1, e2, hf⟩ := Option.bind_eq_some_iff.mp hf
  refine r_sx X I hS e2 dL_law_403 ?_
  refine lv_aload_n hx hb dL_law_404 rfl (lv_at hl 0 rfl) ?_
  refine lv_iload hx hb dL_law_405 (lv_at hl 4 rfl) ?_
  refine lv_iconst (v := 2) hx hb dL_law_407 (by decide) ?_
  refine lv_iadd hx hb dL_law_408 ?_
  obtain ⟨v3, e4, hf⟩ := Option.bind_eq_some_iff.mp hf
  refine r_sx X I hS e4 dL_law_409 ?_
  obtain ⟨_, g9, hf⟩ := Option.bind_eq_some_iff.mp hf
  obtain ⟨v5, h6, e7, z8, hf⟩ := cN_spec hf
  refine k_Vi (As := [.int v1, .int v3]) (rest := []) X I (c_X11_corner l g o1 v1 v3 e7) z8 g9 vk_TrapCornerLaw_42 tw_797 ⟨Nat.le_trans (by decide) hR.1, Nat.le_trans (by decide) hR.2⟩ hle rfl hl.1 rfl (Nat.le_of_ble_eq_true rfl) dL_law_410 (fun H locs I => ?_)
  refine lv_aload_n hx hb dL_law_413 rfl (lv_at hl 2 rfl) ?_
  refine lv_aload_n hx hb dL_law_414 rfl (lv_at hl 0 rfl) ?_
  refine lv_iload hx hb dL_law_415 (lv_at hl 4 rfl) ?_
  refine lv_iconst (v := 1) hx hb dL_law_417 (by decide) ?_
  refine lv_iadd hx hb dL_law_418 ?_
  obtain ⟨v10, e11, hf⟩ := Option.bind_eq_some_iff.mp hf
  refine r_sx X I hS e11 dL_law_419 ?_
  refine lv_aload_n hx hb dL_law_420 rfl (lv_at hl 0 rfl) ?_
  refine lv_iload hx hb dL_law_421 (lv_at hl 4 rfl) ?_
  refine lv_iconst (v := 2) hx hb dL_law_423 (by decide) ?_
  refine lv_iadd hx hb dL_law_424 ?_
  obtain ⟨v12, e13, hf⟩ := Option.bind_eq_some_iff.mp hf
  refine r_sx X I hS e13 dL_law_425 ?_
  obtain ⟨_, g18, hf⟩ := Option.bind_eq_some_iff.mp hf
  obtain ⟨v14, h15, e16, z17, hf⟩ := cN_spec hf
  refine k_Vi (As := [.int v10, .int v12]) (rest := [.int v5]) X I (c_X12_corner l g o2 v10 v12 e16) z17 g18 vk_TrapCornerLaw_45 tw_1631 ⟨Nat.le_trans (by decide) hR.1, Nat.le_trans (by decide) hR.2⟩ hle rfl hl.1 rfl (Nat.le_of_ble_eq_true rfl) dL_law_426 (fun H locs I => ?_)
  refine lv_icmp_eq (tgt := 1641) hx hb dL_law_429 (by decide) (fun c19 => ?_) (fun c19 => ?_)
  · rw [if_pos c19] at hf
    exact w_L_law_1641 hl9 X hX hS hR hr hr1 hres hA hk23 o1 o2 o3 x4 h15 ls H locs _ _ hf I (lv_sub hl [0, 1, 2, 3, 4] rfl)
  · rw [if_neg c19] at hf
    refine lv_iconst (v := 0) hx hb dL_law_432 (by decide) ?_
    cases hf
    exact absurd (show (0 : Int32) = 1 from hr1) (by decide)
def f_L_law_499 (xs : Nat → Int32) (L : Nat) (k23 : Nat → Nat → Nat → Int32 → AH → Option (Int32 × AH)) (o1 : Nat) (o2 : Nat) (o3 : Nat) (x4 : Int32) (h : AH) : Option (Int32 × AH) :=
  ck h (
  f_L_law_1641 xs L k23 o1 o2 o3 x4 h)
set_option maxHeartbeats 1000000 in
theorem w_L_law_499 (hl9 : l.stackTraces = false) (X : Cx g p s m #[Value.ref b] meth c cL_law 7 "TrapCornerLaw") (hX : SX g s s.heap) (hS : va_X b L xs s s.heap ∧ b < s.heap.size ∧ ¬ AG g b) (hR : 100 ≤ room_1.frames ∧ 7000 ≤ room_1.locals) (hr : meth.sig.returnType = ret) {res : Int32 × AH} (hr1 : res.1 = 1) (hres : res.2.1 ≤ 601024 ∧ res.2.2.1 ≤ 7293033) (hA : room_1.cells + 0 = 601024 ∧ room_1.slots + 0 = 7293033) {k23 : Nat → Nat → Nat → Int32 → AH → Option (Int32 × AH)} (hk23 : ∀ (o1 : Nat) (o2 : Nat) (o3 : Nat) (x4 : Int32) (h : AH) (ls : Array Slot) (H : Heap) (locs : List Loc) (cells slots : Nat), k23 o1 o2 o3 x4 h = some res → Iv g s 0 0 h H locs cells slots → lv_has ls 7 [(0, .ref b), (1, .ref (rfG g o1)), (2, .ref (rfG g o2)), (3, .ref (rfG g o3)), (4, .int x4)] → W p l e room_1 s m #[Value.ref b] below meth c H locs cells slots (lw_Z below #[Value.ref b] s) (F0 m 23 ls [])) : ∀ (o1 : Nat) (o2 : Nat) (o3 : Nat) (x4 : Int32) (h : AH) (ls : Array Slot) (H : Heap) (locs : List Loc) (cells slots : Nat), f_L_law_499 xs L k23 o1 o2 o3 x4 h = some res → Iv g s 0 0 h H locs cells slots → lv_has ls 7 [(0, .ref b), (1, .ref (rfG g o1)), (2, .ref (rfG g o2)), (3, .ref (rfG g o3)), (4, .int x4)] → W p l e room_1 s m #[Value.ref b] below meth c H locs cells slots (lw_Z below #[Value.ref b] s) (F0 m 499 ls []) := by
  have hx := X.1
  have hb := X.2.1
  intro o1 o2 o3 x4 h ls H locs cells slots hf I hl
  unfold f_L_law_499 at hf
  obtain ⟨hbd, hf⟩ := ck_spec hf
  have hbd := lt2 hbd hres
  have hle := I.le hA hbd
  refine lv_goto (tgt := 1641) hx hb dL_law_499 (by decide) ?_
  exact w_L_law_1641 hl9 X hX hS hR hr hr1 hres hA hk23 o1 o2 o3 x4 h ls H locs _ _ hf I (lv_sub hl [0, 1, 2, 3, 4] rfl)
def f_L_law_434 (xs : Nat → Int32) (L : Nat) (k23 : Nat → Nat → Nat → Int32 → AH → Option (Int32 × AH)) (o1 : Nat) (o2 : Nat) (o3 : Nat) (x4 : Int32) (h : AH) : Option (Int32 × AH) :=
  ck h (
  (sx xs L (x4 + 1)).bind fun v1 =>
  (sx xs L (x4 + 2)).bind fun v3 =>
  cA (f_L_person o1 v1 v3 o3 h) h fun v5 h6 =>
  (sx xs L (x4 + 1)).bind fun v10 =>
  (sx xs L (x4 + 2)).bind fun v12 =>
  (isC [12] h6 o2).bind fun _ =>
  cN (f_X12_person o2 v10 v12 h6) h6 fun v14 h15 =>
  (isC [12] h15 o2).bind fun _ =>
  cN (f_X12_thrown o2 h15) h15 fun v19 h20 =>
  if v19 = v5 then
    if v5 = 0 then
      (aJ h20 o3 0).bind fun v26 =>
      if (lg_cmp v26 (v14.toInt64)) = 0 then
        f_L_law_499 xs L k23 o1 o2 o3 x4 h20
      else
        some (0, h20)
    else
      f_L_law_499 xs L k23 o1 o2 o3 x4 h20
  else
    some (0, h20))
set_option maxHeartbeats 1000000 in
theorem w_L_law_434 (hl9 : l.stackTraces = false) (X : Cx g p s m #[Value.ref b] meth c cL_law 7 "TrapCornerLaw") (hX : SX g s s.heap) (hS : va_X b L xs s s.heap ∧ b < s.heap.size ∧ ¬ AG g b) (hR : 100 ≤ room_1.frames ∧ 7000 ≤ room_1.locals) (hr : meth.sig.returnType = ret) {res : Int32 × AH} (hr1 : res.1 = 1) (hres : res.2.1 ≤ 601024 ∧ res.2.2.1 ≤ 7293033) (hA : room_1.cells + 0 = 601024 ∧ room_1.slots + 0 = 7293033) {k23 : Nat → Nat → Nat → Int32 → AH → Option (Int32 × AH)} (hk23 : ∀ (o1 : Nat) (o2 : Nat) (o3 : Nat) (x4 : Int32) (h : AH) (ls : Array Slot) (H : Heap) (locs : List Loc) (cells slots : Nat), k23 o1 o2 o3 x4 h = some res → Iv g s 0 0 h H locs cells slots → lv_has ls 7 [(0, .ref b), (1, .ref (rfG g o1)), (2, .ref (rfG g o2)), (3, .ref (rfG g o3)), (4, .int x4)] → W p l e room_1 s m #[Value.ref b] below meth c H locs cells slots (lw_Z below #[Value.ref b] s) (F0 m 23 ls [])) : ∀ (o1 : Nat) (o2 : Nat) (o3 : Nat) (x4 : Int32) (h : AH) (ls : Array Slot) (H : Heap) (locs : List Loc) (cells slots : Nat), f_L_law_434 xs L k23 o1 o2 o3 x4 h = some res → Iv g s 0 0 h H locs cells slots → lv_has ls 7 [(0, .ref b), (1, .ref (rfG g o1)), (2, .ref (rfG g o2)), (3, .ref (rfG g o3)), (4, .int x4)] → W p l e room_1 s m #[Value.ref b] below meth c H locs cells slots (lw_Z below #[Value.ref b] s) (F0 m 434 ls []) := by
  have hx := X.1
  have hb := X.2.1
  intro o1 o2 o3 x4 h ls H locs cells slots hf I hl
  unfold f_L_law_434 at hf
  obtain ⟨hbd, hf⟩ := ck_spec hf
  have hbd := lt2 hbd hres
  have hle := I.le hA hbd
  refine lv_aload_n hx hb dL_law_434 rfl (lv_at hl 1 rfl) ?_
  refine lv_aload_n hx hb dL_law_435 rfl (lv_at hl 0 rfl) ?_
  refine lv_iload hx hb dL_law_436 (lv_at hl 4 rfl) ?_
  refine lv_iconst (v := 1) hx hb dL_law_438 (by decide) ?_
  refine lv_iadd hx hb dL_law_439 ?_
  obtain ⟨v1, e2, hf⟩ := Option.bind_eq_some_iff.mp hf
  refine r_sx X I hS e2 dL_law_440 ?_
  refine lv_aload_n hx hb dL_law_441 rfl (lv_at hl 0 rfl) ?_
  refine lv_iload hx hb dL_law_442 (lv_at hl 4 rfl) ?_
  refine lv_iconst (v := 2) hx hb dL_law_444 (by decide) ?_
  refine lv_iadd hx hb dL_law_445 ?_
  obtain ⟨v3, e4, hf⟩ := Option.bind_eq_some_iff.mp hf
  refine r_sx X I hS e4 dL_law_446 ?_
  refine lv_aload_n hx hb dL_law_447 rfl (lv_at hl 3 rfl) ?_
  obtain ⟨v5, h6, e7, z8, b9, hf⟩ := cA_spec hf
  have b9 := lt2 b9 hres
  refine k_LP (rest := []) hl9 X hX I e7 z8 hA b9 sk_TrapCornerLaw_46 ⟨Nat.le_trans (by decide) hR.1, Nat.le_trans (by decide) hR.2⟩ hl.1 rfl (Nat.le_of_ble_eq_true rfl) dL_law_448 (fun H locs I => ?_)
  have hle := I.le hA b9
  refine lv_istore (lv' := [(5, .int v5), (0, .ref b), (1, .ref (rfG g o1)), (2, .ref (rfG g o2)), (3, .ref (rfG g o3)), (4, .int x4)]) hx hb dL_law_451 hl (by decide) rfl (fun ls hl => ?_)
  refine lv_aload_n hx hb dL_law_453 rfl (lv_at hl 3 rfl) ?_
  refine lv_aload_n hx hb dL_law_454 rfl (lv_at hl 1 rfl) ?_
  refine lv_iload hx hb dL_law_455 (lv_at hl 5 rfl) ?_
  refine lv_iconst (v := 1) hx hb dL_law_457 (by decide) ?_
  refine lv_iadd hx hb dL_law_458 ?_
  obtain ⟨v10, e11, hf⟩ := Option.bind_eq_some_iff.mp hf
  refine r_sx X I hS e11 dL_law_459 ?_
  refine lv_aload_n hx hb dL_law_460 rfl (lv_at hl 1 rfl) ?_
  refine lv_iload hx hb dL_law_461 (lv_at hl 5 rfl) ?_
  refine lv_iconst (v := 2) hx hb dL_law_463 (by decide) ?_
  refine lv_iadd hx hb dL_law_464 ?_
  obtain ⟨v12, e13, hf⟩ := Option.bind_eq_some_iff.mp hf
  refine r_sx X I hS e13 dL_law_465 ?_
  obtain ⟨_, g18, hf⟩ := Option.bind_eq_some_iff.mp hf
  obtain ⟨v14, h15, e16, z17, hf⟩ := cN_spec hf
  refine k_Vi (As := [.int v10, .int v12]) (rest := []) X I (c_X12_person l g o2 v10 v12 e16) z17 g18 vk_TrapCornerLaw_51 tw_1639 ⟨Nat.le_trans (by decide) hR.1, Nat.le_trans (by decide) hR.2⟩ hle rfl hl.1 rfl (Nat.le_of_ble_eq_true rfl) dL_law_466 (fun H locs I => ?_)
  refine lv_istore (lv' := [(6, .int v14), (5, .int v5), (0, .ref b), (1, .ref (rfG g o1)), (2, .ref (rfG g o2)), (3, .ref (rfG g o3)), (4, .int x4)]) hx hb dL_law_469 hl (by decide) rfl (fun ls hl => ?_)
  refine lv_aload_n hx hb dL_law_471 rfl (lv_at hl 4 rfl) ?_
  obtain ⟨_, g23, hf⟩ := Option.bind_eq_some_iff.mp hf
  obtain ⟨v19, h20, e21, z22, hf⟩ := cN_spec hf
  refine k_Vi (As := []) (rest := []) X I (c_X12_thrown l g o2 e21) z22 g23 vk_TrapCornerLaw_52 tw_1442 ⟨Nat.le_trans (by decide) hR.1, Nat.le_trans (by decide) hR.2⟩ hle rfl hl.1 rfl (Nat.le_of_ble_eq_true rfl) dL_law_472 (fun H locs I => ?_)
  refine lv_iload hx hb dL_law_475 (lv_at hl 1 rfl) ?_
  refine lv_icmp_eq (tgt := 482) hx hb dL_law_477 (by decide) (fun c24 => ?_) (fun c24 => ?_)
  · rw [if_pos c24] at hf
    refine lv_iload hx hb dL_law_482 (lv_at hl 1 rfl) ?_
    refine lv_if_ne (tgt := 499) hx hb dL_law_484 (by decide) (fun c25 => ?_) (fun c25 => ?_)
    · rw [if_neg c25] at hf
      exact w_L_law_499 hl9 X hX hS hR hr hr1 hres hA hk23 o1 o2 o3 x4 h20 ls H locs _ _ hf I (lv_sub hl [2, 3, 4, 5, 6] rfl)
    · rw [if_pos c25] at hf
      refine lv_aload_n hx hb dL_law_487 rfl (lv_at hl 5 rfl) ?_
      refine lv_iconst (v := 0) hx hb dL_law_488 (by decide) ?_
      obtain ⟨v26, e27, hf⟩ := Option.bind_eq_some_iff.mp hf
      refine r_aJ X I e27 dL_law_489 ?_
      refine lv_iload hx hb dL_law_490 (lv_at hl 0 rfl) ?_
      refine lv_i2l hx hb dL_law_492 rfl ?_
      refine W.lcmp hx hb dL_law_493 ?_
      refine lv_if_eq (tgt := 499) hx hb dL_law_494 (by decide) (fun c28 => ?_) (fun c28 => ?_)
      · rw [if_pos c28] at hf
        exact w_L_law_499 hl9 X hX hS hR hr hr1 hres hA hk23 o1 o2 o3 x4 h20 ls H locs _ _ hf I (lv_sub hl [2, 3, 4, 5, 6] rfl)
      · rw [if_neg c28] at hf
        refine lv_iconst (v := 0) hx hb dL_law_497 (by decide) ?_
        cases hf
        exact absurd (show (0 : Int32) = 1 from hr1) (by decide)
  · rw [if_neg c24] at hf
    refine lv_iconst (v := 0) hx hb dL_law_480 (by decide) ?_
    cases hf
    exact absurd (show (0 : Int32) = 1 from hr1) (by decide)
def f_L_law_502 (xs : Nat → Int32) (L : Nat) (k23 : Nat → Nat → Nat → Int32 → AH → Option (Int32 × AH)) (o1 : Nat) (o2 : Nat) (o3 : Nat) (x4 : Int32) (h : AH) : Option (Int32 × AH) :=
  ck h (
  (sx xs L (x4 + 1)).bind fun v1 =>
  (isC [11] h o1).bind fun _ =>
  cN (f_X11_law o1 v1 h) h fun v3 h4 =>
  (sx xs L (x4 + 1)).bind fun v8 =>
  (isC [12] h4 o2).bind fun _ =>
  cN (f_X12_law o2 v8 h4) h4 fun v10 h11 =>
  if v3 = v10 then
    f_L_law_1641 xs L k23 o1 o2 o3 x4 h11
  else
    some (0, h11))
set_option maxHeartbeats 1000000 in
theorem w_L_law_502 (hl9 : l.stackTraces = false) (X : Cx g p s m #[Value.ref b] meth c cL_law 7 "TrapCornerLaw") (hX : SX g s s.heap) (hS : va_X b L xs s s.heap ∧ b < s.heap.size ∧ ¬ AG g b) (hR : 100 ≤ room_1.frames ∧ 7000 ≤ room_1.locals) (hr : meth.sig.returnType = ret) {res : Int32 × AH} (hr1 : res.1 = 1) (hres : res.2.1 ≤ 601024 ∧ res.2.2.1 ≤ 7293033) (hA : room_1.cells + 0 = 601024 ∧ room_1.slots + 0 = 7293033) {k23 : Nat → Nat → Nat → Int32 → AH → Option (Int32 × AH)} (hk23 : ∀ (o1 : Nat) (o2 : Nat) (o3 : Nat) (x4 : Int32) (h : AH) (ls : Array Slot) (H : Heap) (locs : List Loc) (cells slots : Nat), k23 o1 o2 o3 x4 h = some res → Iv g s 0 0 h H locs cells slots → lv_has ls 7 [(0, .ref b), (1, .ref (rfG g o1)), (2, .ref (rfG g o2)), (3, .ref (rfG g o3)), (4, .int x4)] → W p l e room_1 s m #[Value.ref b] below meth c H locs cells slots (lw_Z below #[Value.ref b] s) (F0 m 23 ls [])) : ∀ (o1 : Nat) (o2 : Nat) (o3 : Nat) (x4 : Int32) (h : AH) (ls : Array Slot) (H : Heap) (locs : List Loc) (cells slots : Nat), f_L_law_502 xs L k23 o1 o2 o3 x4 h = some res → Iv g s 0 0 h H locs cells slots → lv_has ls 7 [(0, .ref b), (1, .ref (rfG g o1)), (2, .ref (rfG g o2)), (3, .ref (rfG g o3)), (4, .int x4)] → W p l e room_1 s m #[Value.ref b] below meth c H locs cells slots (lw_Z below #[Value.ref b] s) (F0 m 502 ls []) := by
  have hx := X.1
  have hb := X.2.1
  intro o1 o2 o3 x4 h ls H locs cells slots hf I hl
  unfold f_L_law_502 at hf
  obtain ⟨hbd, hf⟩ := ck_spec hf
  have hbd := lt2 hbd hres
  have hle := I.le hA hbd
  refine lv_aload_n hx hb dL_law_502 rfl (lv_at hl 1 rfl) ?_
  refine lv_aload_n hx hb dL_law_503 rfl (lv_at hl 0 rfl) ?_
  refine lv_iload hx hb dL_law_504 (lv_at hl 4 rfl) ?_
  refine lv_iconst (v := 1) hx hb dL_law_506 (by decide) ?_
  refine lv_iadd hx hb dL_law_507 ?_
  obtain ⟨v1, e2, hf⟩ := Option.bind_eq_some_iff.mp hf
  refine r_sx X I hS e2 dL_law_508 ?_
  obtain ⟨_, g7, hf⟩ := Option.bind_eq_some_iff.mp hf
  obtain ⟨v3, h4, e5, z6, hf⟩ := cN_spec hf
  refine k_Vi (As := [.int v1]) (rest := []) X I (c_X11_law l g o1 v1 e5) z6 g7 vk_TrapCornerLaw_56 tw_858 ⟨Nat.le_trans (by decide) hR.1, Nat.le_trans (by decide) hR.2⟩ hle rfl hl.1 rfl (Nat.le_of_ble_eq_true rfl) dL_law_509 (fun H locs I => ?_)
  refine lv_aload_n hx hb dL_law_512 rfl (lv_at hl 2 rfl) ?_
  refine lv_aload_n hx hb dL_law_513 rfl (lv_at hl 0 rfl) ?_
  refine lv_iload hx hb dL_law_514 (lv_at hl 4 rfl) ?_
  refine lv_iconst (v := 1) hx hb dL_law_516 (by decide) ?_
  refine lv_iadd hx hb dL_law_517 ?_
  obtain ⟨v8, e9, hf⟩ := Option.bind_eq_some_iff.mp hf
  refine r_sx X I hS e9 dL_law_518 ?_
  obtain ⟨_, g14, hf⟩ := Option.bind_eq_some_iff.mp hf
  obtain ⟨v10, h11, e12, z13, hf⟩ := cN_spec hf
  refine k_Vi (As := [.int v8]) (rest := [.int v3]) X I (c_X12_law l g o2 v8 e12) z13 g14 vk_TrapCornerLaw_59 tw_1655 ⟨Nat.le_trans (by decide) hR.1, Nat.le_trans (by decide) hR.2⟩ hle rfl hl.1 rfl (Nat.le_of_ble_eq_true rfl) dL_law_519 (fun H locs I => ?_)
  refine lv_icmp_eq (tgt := 1641) hx hb dL_law_522 (by decide) (fun c15 => ?_) (fun c15 => ?_)
  · rw [if_pos c15] at hf
    exact w_L_law_1641 hl9 X hX hS hR hr hr1 hres hA hk23 o1 o2 o3 x4 h11 ls H locs _ _ hf I (lv_sub hl [0, 1, 2, 3, 4] rfl)
  · rw [if_neg c15] at hf
    refine lv_iconst (v := 0) hx hb dL_law_525 (by decide) ?_
    cases hf
    exact absurd (show (0 : Int32) = 1 from hr1) (by decide)
def f_L_law_527 (xs : Nat → Int32) (L : Nat) (k23 : Nat → Nat → Nat → Int32 → AH → Option (Int32 × AH)) (o1 : Nat) (o2 : Nat) (o3 : Nat) (x4 : Int32) (h : AH) : Option (Int32 × AH) :=
  ck h (
  (sx xs L (x4 + 1)).bind fun v1 =>
  (isC [11] h o1).bind fun _ =>
  cN (f_X11_dogs o1 v1 h) h fun v3 h4 =>
  (sx xs L (x4 + 1)).bind fun v8 =>
  (isC [12] h4 o2).bind fun _ =>
  cN (f_X12_dogs o2 v8 h4) h4 fun v10 h11 =>
  if v3 = v10 then
    f_L_law_1641 xs L k23 o1 o2 o3 x4 h11
  else
    some (0, h11))
set_option maxHeartbeats 1000000 in
theorem w_L_law_527 (hl9 : l.stackTraces = false) (X : Cx g p s m #[Value.ref b] meth c cL_law 7 "TrapCornerLaw") (hX : SX g s s.heap) (hS : va_X b L xs s s.heap ∧ b < s.heap.size ∧ ¬ AG g b) (hR : 100 ≤ room_1.frames ∧ 7000 ≤ room_1.locals) (hr : meth.sig.returnType = ret) {res : Int32 × AH} (hr1 : res.1 = 1) (hres : res.2.1 ≤ 601024 ∧ res.2.2.1 ≤ 7293033) (hA : room_1.cells + 0 = 601024 ∧ room_1.slots + 0 = 7293033) {k23 : Nat → Nat → Nat → Int32 → AH → Option (Int32 × AH)} (hk23 : ∀ (o1 : Nat) (o2 : Nat) (o3 : Nat) (x4 : Int32) (h : AH) (ls : Array Slot) (H : Heap) (locs : List Loc) (cells slots : Nat), k23 o1 o2 o3 x4 h = some res → Iv g s 0 0 h H locs cells slots → lv_has ls 7 [(0, .ref b), (1, .ref (rfG g o1)), (2, .ref (rfG g o2)), (3, .ref (rfG g o3)), (4, .int x4)] → W p l e room_1 s m #[Value.ref b] below meth c H locs cells slots (lw_Z below #[Value.ref b] s) (F0 m 23 ls [])) : ∀ (o1 : Nat) (o2 : Nat) (o3 : Nat) (x4 : Int32) (h : AH) (ls : Array Slot) (H : Heap) (locs : List Loc) (cells slots : Nat), f_L_law_527 xs L k23 o1 o2 o3 x4 h = some res → Iv g s 0 0 h H locs cells slots → lv_has ls 7 [(0, .ref b), (1, .ref (rfG g o1)), (2, .ref (rfG g o2)), (3, .ref (rfG g o3)), (4, .int x4)] → W p l e room_1 s m #[Value.ref b] below meth c H locs cells slots (lw_Z below #[Value.ref b] s) (F0 m 527 ls []) := by
  have hx := X.1
  have hb := X.2.1
  intro o1 o2 o3 x4 h ls H locs cells slots hf I hl
  unfold f_L_law_527 at hf
  obtain ⟨hbd, hf⟩ := ck_spec hf
  have hbd := lt2 hbd hres
  have hle := I.le hA hbd
  refine lv_aload_n hx hb dL_law_527 rfl (lv_at hl 1 rfl) ?_
  refine lv_aload_n hx hb dL_law_528 rfl (lv_at hl 0 rfl) ?_
  refine lv_iload hx hb dL_law_529 (lv_at hl 4 rfl) ?_
  refine lv_iconst (v := 1) hx hb dL_law_531 (by decide) ?_
  refine lv_iadd hx hb dL_law_532 ?_
  obtain ⟨v1, e2, hf⟩ := Option.bind_eq_some_iff.mp hf
  refine r_sx X I hS e2 dL_law_533 ?_
  obtain ⟨_, g7, hf⟩ := Option.bind_eq_some_iff.mp hf
  obtain ⟨v3, h4, e5, z6, hf⟩ := cN_spec hf
  refine k_Vi (As := [.int v1]) (rest := []) X I (c_X11_dogs l g o1 v1 e5) z6 g7 vk_TrapCornerLaw_60 tw_862 ⟨Nat.le_trans (by decide) hR.1, Nat.le_trans (by decide) hR.2⟩ hle rfl hl.1 rfl (Nat.le_of_ble_eq_true rfl) dL_law_534 (fun H locs I => ?_)
  refine lv_aload_n hx hb dL_law_537 rfl (lv_at hl 2 rfl) ?_
  refine lv_aload_n hx hb dL_law_538 rfl (lv_at hl 0 rfl) ?_
  refine lv_iload hx hb dL_law_539 (lv_at hl 4 rfl) ?_
  refine lv_iconst (v := 1) hx hb dL_law_541 (by decide) ?_
  refine lv_iadd hx hb dL_law_542 ?_
  obtain ⟨v8, e9, hf⟩ := Option.bind_eq_some_iff.mp hf
  refine r_sx X I hS e9 dL_law_543 ?_
  obtain ⟨_, g14, hf⟩ := Option.bind_eq_some_iff.mp hf
  obtain ⟨v10, h11, e12, z13, hf⟩ := cN_spec hf
  refine k_Vi (As := [.int v8]) (rest := [.int v3]) X I (c_X12_dogs l g o2 v8 e12) z13 g14 vk_TrapCornerLaw_63 tw_1659 ⟨Nat.le_trans (by decide) hR.1, Nat.le_trans (by decide) hR.2⟩ hle rfl hl.1 rfl (Nat.le_of_ble_eq_true rfl) dL_law_544 (fun H locs I => ?_)
  refine lv_icmp_eq (tgt := 1641) hx hb dL_law_547 (by decide) (fun c15 => ?_) (fun c15 => ?_)
  · rw [if_pos c15] at hf
    exact w_L_law_1641 hl9 X hX hS hR hr hr1 hres hA hk23 o1 o2 o3 x4 h11 ls H locs _ _ hf I (lv_sub hl [0, 1, 2, 3, 4] rfl)
  · rw [if_neg c15] at hf
    refine lv_iconst (v := 0) hx hb dL_law_550 (by decide) ?_
    cases hf
    exact absurd (show (0 : Int32) = 1 from hr1) (by decide)
def f_L_law_552 (xs : Nat → Int32) (L : Nat) (k23 : Nat → Nat → Nat → Int32 → AH → Option (Int32 × AH)) (o1 : Nat) (o2 : Nat) (o3 : Nat) (x4 : Int32) (h : AH) : Option (Int32 × AH) :=
  ck h (
  (isC [11] h o1).bind fun _ =>
  cA (f_X11_day o1 h) h fun v1 h2 =>
  (isC [12] h2 o2).bind fun _ =>
  cN (f_X12_day o2 h2) h2 fun v7 h8 =>
  if v1 = v7 then
    f_L_law_1641 xs L k23 o1 o2 o3 x4 h8
  else
    some (0, h8))
set_option maxHeartbeats 1000000 in
theorem w_L_law_552 (hl9 : l.stackTraces = false) (X : Cx g p s m #[Value.ref b] meth c cL_law 7 "TrapCornerLaw") (hX : SX g s s.heap) (hS : va_X b L xs s s.heap ∧ b < s.heap.size ∧ ¬ AG g b) (hR : 100 ≤ room_1.frames ∧ 7000 ≤ room_1.locals) (hr : meth.sig.returnType = ret) {res : Int32 × AH} (hr1 : res.1 = 1) (hres : res.2.1 ≤ 601024 ∧ res.2.2.1 ≤ 7293033) (hA : room_1.cells + 0 = 601024 ∧ room_1.slots + 0 = 7293033) {k23 : Nat → Nat → Nat → Int32 → AH → Option (Int32 × AH)} (hk23 : ∀ (o1 : Nat) (o2 : Nat) (o3 : Nat) (x4 : Int32) (h : AH) (ls : Array Slot) (H : Heap) (locs : List Loc) (cells slots : Nat), k23 o1 o2 o3 x4 h = some res → Iv g s 0 0 h H locs cells slots → lv_has ls 7 [(0, .ref b), (1, .ref (rfG g o1)), (2, .ref (rfG g o2)), (3, .ref (rfG g o3)), (4, .int x4)] → W p l e room_1 s m #[Value.ref b] below meth c H locs cells slots (lw_Z below #[Value.ref b] s) (F0 m 23 ls [])) : ∀ (o1 : Nat) (o2 : Nat) (o3 : Nat) (x4 : Int32) (h : AH) (ls : Array Slot) (H : Heap) (locs : List Loc) (cells slots : Nat), f_L_law_552 xs L k23 o1 o2 o3 x4 h = some res → Iv g s 0 0 h H locs cells slots → lv_has ls 7 [(0, .ref b), (1, .ref (rfG g o1)), (2, .ref (rfG g o2)), (3, .ref (rfG g o3)), (4, .int x4)] → W p l e room_1 s m #[Value.ref b] below meth c H locs cells slots (lw_Z below #[Value.ref b] s) (F0 m 552 ls []) := by
  have hx := X.1
  have hb := X.2.1
  intro o1 o2 o3 x4 h ls H locs cells slots hf I hl
  unfold f_L_law_552 at hf
  obtain ⟨hbd, hf⟩ := ck_spec hf
  have hbd := lt2 hbd hres
  have hle := I.le hA hbd
  refine lv_aload_n hx hb dL_law_552 rfl (lv_at hl 1 rfl) ?_
  obtain ⟨_, g5, hf⟩ := Option.bind_eq_some_iff.mp hf
  obtain ⟨v1, h2, e3, z4, b6, hf⟩ := cA_spec hf
  have b6 := lt2 b6 hres
  refine k_VAi (As := []) (rest := []) X I (c_X11_day l g o1 e3) z4 hA b6 g5 vk_TrapCornerLaw_64 tw_866 ⟨Nat.le_trans (by decide) hR.1, Nat.le_trans (by decide) hR.2⟩ rfl hl.1 rfl (Nat.le_of_ble_eq_true rfl) dL_law_553 (fun H locs I => ?_)
  have hle := I.le hA b6
  refine lv_aload_n hx hb dL_law_556 rfl (lv_at hl 2 rfl) ?_
  obtain ⟨_, g11, hf⟩ := Option.bind_eq_some_iff.mp hf
  obtain ⟨v7, h8, e9, z10, hf⟩ := cN_spec hf
  refine k_Vi (As := []) (rest := [.int v1]) X I (c_X12_day l g o2 e9) z10 g11 vk_TrapCornerLaw_67 tw_1664 ⟨Nat.le_trans (by decide) hR.1, Nat.le_trans (by decide) hR.2⟩ hle rfl hl.1 rfl (Nat.le_of_ble_eq_true rfl) dL_law_557 (fun H locs I => ?_)
  refine lv_icmp_eq (tgt := 1641) hx hb dL_law_560 (by decide) (fun c12 => ?_) (fun c12 => ?_)
  · rw [if_pos c12] at hf
    exact w_L_law_1641 hl9 X hX hS hR hr hr1 hres hA hk23 o1 o2 o3 x4 h8 ls H locs _ _ hf I (lv_sub hl [0, 1, 2, 3, 4] rfl)
  · rw [if_neg c12] at hf
    refine lv_iconst (v := 0) hx hb dL_law_563 (by decide) ?_
    cases hf
    exact absurd (show (0 : Int32) = 1 from hr1) (by decide)
def f_L_law_565 (xs : Nat → Int32) (L : Nat) (k23 : Nat → Nat → Nat → Int32 → AH → Option (Int32 × AH)) (o1 : Nat) (o2 : Nat) (o3 : Nat) (x4 : Int32) (h : AH) : Option (Int32 × AH) :=
  ck h (
  (sx xs L (x4 + 1)).bind fun v1 =>
  (sx xs L (x4 + 2)).bind fun v3 =>
  (isC [11] h o1).bind fun _ =>
  cA (f_X11_crumb o1 v1 v3 h) h fun v5 h6 =>
  (sx xs L (x4 + 1)).bind fun v11 =>
  (sx xs L (x4 + 2)).bind fun v13 =>
  (isC [12] h6 o2).bind fun _ =>
  cN (f_X12_crumb o2 v11 v13 h6) h6 fun v15 h16 =>
  if v5 = v15 then
    f_L_law_1641 xs L k23 o1 o2 o3 x4 h16
  else
    some (0, h16))
set_option maxHeartbeats 1000000 in
theorem w_L_law_565 (hl9 : l.stackTraces = false) (X : Cx g p s m #[Value.ref b] meth c cL_law 7 "TrapCornerLaw") (hX : SX g s s.heap) (hS : va_X b L xs s s.heap ∧ b < s.heap.size ∧ ¬ AG g b) (hR : 100 ≤ room_1.frames ∧ 7000 ≤ room_1.locals) (hr : meth.sig.returnType = ret) {res : Int32 × AH} (hr1 : res.1 = 1) (hres : res.2.1 ≤ 601024 ∧ res.2.2.1 ≤ 7293033) (hA : room_1.cells + 0 = 601024 ∧ room_1.slots + 0 = 7293033) {k23 : Nat → Nat → Nat → Int32 → AH → Option (Int32 × AH)} (hk23 : ∀ (o1 : Nat) (o2 : Nat) (o3 : Nat) (x4 : Int32) (h : AH) (ls : Array Slot) (H : Heap) (locs : List Loc) (cells slots : Nat), k23 o1 o2 o3 x4 h = some res → Iv g s 0 0 h H locs cells slots → lv_has ls 7 [(0, .ref b), (1, .ref (rfG g o1)), (2, .ref (rfG g o2)), (3, .ref (rfG g o3)), (4, .int x4)] → W p l e room_1 s m #[Value.ref b] below meth c H locs cells slots (lw_Z below #[Value.ref b] s) (F0 m 23 ls [])) : ∀ (o1 : Nat) (o2 : Nat) (o3 : Nat) (x4 : Int32) (h : AH) (ls : Array Slot) (H : Heap) (locs : List Loc) (cells slots : Nat), f_L_law_565 xs L k23 o1 o2 o3 x4 h = some res → Iv g s 0 0 h H locs cells slots → lv_has ls 7 [(0, .ref b), (1, .ref (rfG g o1)), (2, .ref (rfG g o2)), (3, .ref (rfG g o3)), (4, .int x4)] → W p l e room_1 s m #[Value.ref b] below meth c H locs cells slots (lw_Z below #[Value.ref b] s) (F0 m 565 ls []) := by
  have hx := X.1
  have hb := X.2.1
  intro o1 o2 o3 x4 h ls H locs cells slots hf I hl
  unfold f_L_law_565 at hf
  obtain ⟨hbd, hf⟩ := ck_spec hf
  have hbd := lt2 hbd hres
  have hle := I.le hA hbd
  refine lv_aload_n hx hb dL_law_565 rfl (lv_at hl 1 rfl) ?_
  refine lv_aload_n hx hb dL_law_566 rfl (lv_at hl 0 rfl) ?_
  refine lv_iload hx hb dL_law_567 (lv_at hl 4 rfl) ?_
  refine lv_iconst (v := 1) hx hb dL_law_569 (by decide) ?_
  refine lv_iadd hx hb dL_law_570 ?_
  obtain ⟨v1, e2, hf⟩ := Option.bind_eq_some_iff.mp hf
  refine r_sx X I hS e2 dL_law_571 ?_
  refine lv_aload_n hx hb dL_law_572 rfl (lv_at hl 0 rfl) ?_
  refine lv_iload hx hb dL_law_573 (lv_at hl 4 rfl) ?_
  refine lv_iconst (v := 2) hx hb dL_law_575 (by decide) ?_
  refine lv_iadd hx hb dL_law_576 ?_
  obtain ⟨v3, e4, hf⟩ := Option.bind_eq_some_iff.mp hf
  refine r_sx X I hS e4 dL_law_577 ?_
  obtain ⟨_, g9, hf⟩ := Option.bind_eq_some_iff.mp hf
  obtain ⟨v5, h6, e7, z8, b10, hf⟩ := cA_spec hf
  have b10 := lt2 b10 hres
  refine k_VAi (As := [.int v1, .int v3]) (rest := []) X I (c_X11_crumb l g o1 v1 v3 e7) z8 hA b10 g9 vk_TrapCornerLaw_68 tw_964 ⟨Nat.le_trans (by decide) hR.1, Nat.le_trans (by decide) hR.2⟩ rfl hl.1 rfl (Nat.le_of_ble_eq_true rfl) dL_law_578 (fun H locs I => ?_)
  have hle := I.le hA b10
  refine lv_aload_n hx hb dL_law_581 rfl (lv_at hl 2 rfl) ?_
  refine lv_aload_n hx hb dL_law_582 rfl (lv_at hl 0 rfl) ?_
  refine lv_iload hx hb dL_law_583 (lv_at hl 4 rfl) ?_
  refine lv_iconst (v := 1) hx hb dL_law_585 (by decide) ?_
  refine lv_iadd hx hb dL_law_586 ?_
  obtain ⟨v11, e12, hf⟩ := Option.bind_eq_some_iff.mp hf
  refine r_sx X I hS e12 dL_law_587 ?_
  refine lv_aload_n hx hb dL_law_588 rfl (lv_at hl 0 rfl) ?_
  refine lv_iload hx hb dL_law_589 (lv_at hl 4 rfl) ?_
  refine lv_iconst (v := 2) hx hb dL_law_591 (by decide) ?_
  refine lv_iadd hx hb dL_law_592 ?_
  obtain ⟨v13, e14, hf⟩ := Option.bind_eq_some_iff.mp hf
  refine r_sx X I hS e14 dL_law_593 ?_
  obtain ⟨_, g19, hf⟩ := Option.bind_eq_some_iff.mp hf
  obtain ⟨v15, h16, e17, z18, hf⟩ := cN_spec hf
  refine k_Vi (As := [.int v11, .int v13]) (rest := [.int v5]) X I (c_X12_crumb l g o2 v11 v13 e17) z18 g19 vk_TrapCornerLaw_71 tw_1723 ⟨Nat.le_trans (by decide) hR.1, Nat.le_trans (by decide) hR.2⟩ hle rfl hl.1 rfl (Nat.le_of_ble_eq_true rfl) dL_law_594 (fun H locs I => ?_)
  refine lv_icmp_eq (tgt := 1641) hx hb dL_law_597 (by decide) (fun c20 => ?_) (fun c20 => ?_)
  · rw [if_pos c20] at hf
    exact w_L_law_1641 hl9 X hX hS hR hr hr1 hres hA hk23 o1 o2 o3 x4 h16 ls H locs _ _ hf I (lv_sub hl [0, 1, 2, 3, 4] rfl)
  · rw [if_neg c20] at hf
    refine lv_iconst (v := 0) hx hb dL_law_600 (by decide) ?_
    cases hf
    exact absurd (show (0 : Int32) = 1 from hr1) (by decide)
def f_L_law_602 (xs : Nat → Int32) (L : Nat) (k23 : Nat → Nat → Nat → Int32 → AH → Option (Int32 × AH)) (o1 : Nat) (o2 : Nat) (o3 : Nat) (x4 : Int32) (h : AH) : Option (Int32 × AH) :=
  ck h (
  (sx xs L (x4 + 1)).bind fun v1 =>
  (isC [11] h o1).bind fun _ =>
  cA (f_X11_renew o1 v1 h) h fun v3 h4 =>
  (sx xs L (x4 + 1)).bind fun v9 =>
  (isC [12] h4 o2).bind fun _ =>
  cN (f_X12_renew o2 v9 h4) h4 fun v11 h12 =>
  if v3 = v11 then
    f_L_law_1641 xs L k23 o1 o2 o3 x4 h12
  else
    some (0, h12))
set_option maxHeartbeats 1000000 in
theorem w_L_law_602 (hl9 : l.stackTraces = false) (X : Cx g p s m #[Value.ref b] meth c cL_law 7 "TrapCornerLaw") (hX : SX g s s.heap) (hS : va_X b L xs s s.heap ∧ b < s.heap.size ∧ ¬ AG g b) (hR : 100 ≤ room_1.frames ∧ 7000 ≤ room_1.locals) (hr : meth.sig.returnType = ret) {res : Int32 × AH} (hr1 : res.1 = 1) (hres : res.2.1 ≤ 601024 ∧ res.2.2.1 ≤ 7293033) (hA : room_1.cells + 0 = 601024 ∧ room_1.slots + 0 = 7293033) {k23 : Nat → Nat → Nat → Int32 → AH → Option (Int32 × AH)} (hk23 : ∀ (o1 : Nat) (o2 : Nat) (o3 : Nat) (x4 : Int32) (h : AH) (ls : Array Slot) (H : Heap) (locs : List Loc) (cells slots : Nat), k23 o1 o2 o3 x4 h = some res → Iv g s 0 0 h H locs cells slots → lv_has ls 7 [(0, .ref b), (1, .ref (rfG g o1)), (2, .ref (rfG g o2)), (3, .ref (rfG g o3)), (4, .int x4)] → W p l e room_1 s m #[Value.ref b] below meth c H locs cells slots (lw_Z below #[Value.ref b] s) (F0 m 23 ls [])) : ∀ (o1 : Nat) (o2 : Nat) (o3 : Nat) (x4 : Int32) (h : AH) (ls : Array Slot) (H : Heap) (locs : List Loc) (cells slots : Nat), f_L_law_602 xs L k23 o1 o2 o3 x4 h = some res → Iv g s 0 0 h H locs cells slots → lv_has ls 7 [(0, .ref b), (1, .ref (rfG g o1)), (2, .ref (rfG g o2)), (3, .ref (rfG g o3)), (4, .int x4)] → W p l e room_1 s m #[Value.ref b] below meth c H locs cells slots (lw_Z below #[Value.ref b] s) (F0 m 602 ls []) := by
  have hx := X.1
  have hb := X.2.1
  intro o1 o2 o3 x4 h ls H locs cells slots hf I hl
  unfold f_L_law_602 at hf
  obtain ⟨hbd, hf⟩ := ck_spec hf
  have hbd := lt2 hbd hres
  have hle := I.le hA hbd
  refine lv_aload_n hx hb dL_law_602 rfl (lv_at hl 1 rfl) ?_
  refine lv_aload_n hx hb dL_law_603 rfl (lv_at hl 0 rfl) ?_
  refine lv_iload hx hb dL_law_604 (lv_at hl 4 rfl) ?_
  refine lv_iconst (v := 1) hx hb dL_law_606 (by decide) ?_
  refine lv_iadd hx hb dL_law_607 ?_
  obtain ⟨v1, e2, hf⟩ := Option.bind_eq_some_iff.mp hf
  refine r_sx X I hS e2 dL_law_608 ?_
  obtain ⟨_, g7, hf⟩ := Option.bind_eq_some_iff.mp hf
  obtain ⟨v3, h4, e5, z6, b8, hf⟩ := cA_spec hf
  have b8 := lt2 b8 hres
  refine k_VAi (As := [.int v1]) (rest := []) X I (c_X11_renew l g o1 v1 e5) z6 hA b8 g7 vk_TrapCornerLaw_72 tw_968 ⟨Nat.le_trans (by decide) hR.1, Nat.le_trans (by decide) hR.2⟩ rfl hl.1 rfl (Nat.le_of_ble_eq_true rfl) dL_law_609 (fun H locs I => ?_)
  have hle := I.le hA b8
  refine lv_aload_n hx hb dL_law_612 rfl (lv_at hl 2 rfl) ?_
  refine lv_aload_n hx hb dL_law_613 rfl (lv_at hl 0 rfl) ?_
  refine lv_iload hx hb dL_law_614 (lv_at hl 4 rfl) ?_
  refine lv_iconst (v := 1) hx hb dL_law_616 (by decide) ?_
  refine lv_iadd hx hb dL_law_617 ?_
  obtain ⟨v9, e10, hf⟩ := Option.bind_eq_some_iff.mp hf
  refine r_sx X I hS e10 dL_law_618 ?_
  obtain ⟨_, g15, hf⟩ := Option.bind_eq_some_iff.mp hf
  obtain ⟨v11, h12, e13, z14, hf⟩ := cN_spec hf
  refine k_Vi (As := [.int v9]) (rest := [.int v3]) X I (c_X12_renew l g o2 v9 e13) z14 g15 vk_TrapCornerLaw_75 tw_1735 ⟨Nat.le_trans (by decide) hR.1, Nat.le_trans (by decide) hR.2⟩ hle rfl hl.1 rfl (Nat.le_of_ble_eq_true rfl) dL_law_619 (fun H locs I => ?_)
  refine lv_icmp_eq (tgt := 1641) hx hb dL_law_622 (by decide) (fun c16 => ?_) (fun c16 => ?_)
  · rw [if_pos c16] at hf
    exact w_L_law_1641 hl9 X hX hS hR hr hr1 hres hA hk23 o1 o2 o3 x4 h12 ls H locs _ _ hf I (lv_sub hl [0, 1, 2, 3, 4] rfl)
  · rw [if_neg c16] at hf
    refine lv_iconst (v := 0) hx hb dL_law_625 (by decide) ?_
    cases hf
    exact absurd (show (0 : Int32) = 1 from hr1) (by decide)
def f_L_law_627 (xs : Nat → Int32) (L : Nat) (k23 : Nat → Nat → Nat → Int32 → AH → Option (Int32 × AH)) (o1 : Nat) (o2 : Nat) (o3 : Nat) (x4 : Int32) (h : AH) : Option (Int32 × AH) :=
  ck h (
  (sx xs L (x4 + 1)).bind fun v1 =>
  (isC [11] h o1).bind fun _ =>
  cA (f_X11_constable o1 v1 h) h fun v3 h4 =>
  (sx xs L (x4 + 1)).bind fun v9 =>
  (isC [12] h4 o2).bind fun _ =>
  cN (f_X12_constable o2 v9 h4) h4 fun v11 h12 =>
  if v3 = v11 then
    f_L_law_1641 xs L k23 o1 o2 o3 x4 h12
  else
    some (0, h12))
set_option maxHeartbeats 1000000 in
theorem w_L_law_627 (hl9 : l.stackTraces = false) (X : Cx g p s m #[Value.ref b] meth c cL_law 7 "TrapCornerLaw") (hX : SX g s s.heap) (hS : va_X b L xs s s.heap ∧ b < s.heap.size ∧ ¬ AG g b) (hR : 100 ≤ room_1.frames ∧ 7000 ≤ room_1.locals) (hr : meth.sig.returnType = ret) {res : Int32 × AH} (hr1 : res.1 = 1) (hres : res.2.1 ≤ 601024 ∧ res.2.2.1 ≤ 7293033) (hA : room_1.cells + 0 = 601024 ∧ room_1.slots + 0 = 7293033) {k23 : Nat → Nat → Nat → Int32 → AH → Option (Int32 × AH)} (hk23 : ∀ (o1 : Nat) (o2 : Nat) (o3 : Nat) (x4 : Int32) (h : AH) (ls : Array Slot) (H : Heap) (locs : List Loc) (cells slots : Nat), k23 o1 o2 o3 x4 h = some res → Iv g s 0 0 h H locs cells slots → lv_has ls 7 [(0, .ref b), (1, .ref (rfG g o1)), (2, .ref (rfG g o2)), (3, .ref (rfG g o3)), (4, .int x4)] → W p l e room_1 s m #[Value.ref b] below meth c H locs cells slots (lw_Z below #[Value.ref b] s) (F0 m 23 ls [])) : ∀ (o1 : Nat) (o2 : Nat) (o3 : Nat) (x4 : Int32) (h : AH) (ls : Array Slot) (H : Heap) (locs : List Loc) (cells slots : Nat), f_L_law_627 xs L k23 o1 o2 o3 x4 h = some res → Iv g s 0 0 h H locs cells slots → lv_has ls 7 [(0, .ref b), (1, .ref (rfG g o1)), (2, .ref (rfG g o2)), (3, .ref (rfG g o3)), (4, .int x4)] → W p l e room_1 s m #[Value.ref b] below meth c H locs cells slots (lw_Z below #[Value.ref b] s) (F0 m 627 ls []) := by
  have hx := X.1
  have hb := X.2.1
  intro o1 o2 o3 x4 h ls H locs cells slots hf I hl
  unfold f_L_law_627 at hf
  obtain ⟨hbd, hf⟩ := ck_spec hf
  have hbd := lt2 hbd hres
  have hle := I.le hA hbd
  refine lv_aload_n hx hb dL_law_627 rfl (lv_at hl 1 rfl) ?_
  refine lv_aload_n hx hb dL_law_628 rfl (lv_at hl 0 rfl) ?_
  refine lv_iload hx hb dL_law_629 (lv_at hl 4 rfl) ?_
  refine lv_iconst (v := 1) hx hb dL_law_631 (by decide) ?_
  refine lv_iadd hx hb dL_law_632 ?_
  obtain ⟨v1, e2, hf⟩ := Option.bind_eq_some_iff.mp hf
  refine r_sx X I hS e2 dL_law_633 ?_
  obtain ⟨_, g7, hf⟩ := Option.bind_eq_some_iff.mp hf
  obtain ⟨v3, h4, e5, z6, b8, hf⟩ := cA_spec hf
  have b8 := lt2 b8 hres
  refine k_VAi (As := [.int v1]) (rest := []) X I (c_X11_constable l g o1 v1 e5) z6 hA b8 g7 vk_TrapCornerLaw_76 tw_972 ⟨Nat.le_trans (by decide) hR.1, Nat.le_trans (by decide) hR.2⟩ rfl hl.1 rfl (Nat.le_of_ble_eq_true rfl) dL_law_634 (fun H locs I => ?_)
  have hle := I.le hA b8
  refine lv_aload_n hx hb dL_law_637 rfl (lv_at hl 2 rfl) ?_
  refine lv_aload_n hx hb dL_law_638 rfl (lv_at hl 0 rfl) ?_
  refine lv_iload hx hb dL_law_639 (lv_at hl 4 rfl) ?_
  refine lv_iconst (v := 1) hx hb dL_law_641 (by decide) ?_
  refine lv_iadd hx hb dL_law_642 ?_
  obtain ⟨v9, e10, hf⟩ := Option.bind_eq_some_iff.mp hf
  refine r_sx X I hS e10 dL_law_643 ?_
  obtain ⟨_, g15, hf⟩ := Option.bind_eq_some_iff.mp hf
  obtain ⟨v11, h12, e13, z14, hf⟩ := cN_spec hf
  refine k_Vi (As := [.int v9]) (rest := [.int v3]) X I (c_X12_constable l g o2 v9 e13) z14 g15 vk_TrapCornerLaw_79 tw_1746 ⟨Nat.le_trans (by decide) hR.1, Nat.le_trans (by decide) hR.2⟩ hle rfl hl.1 rfl (Nat.le_of_ble_eq_true rfl) dL_law_644 (fun H locs I => ?_)
  refine lv_icmp_eq (tgt := 1641) hx hb dL_law_647 (by decide) (fun c16 => ?_) (fun c16 => ?_)
  · rw [if_pos c16] at hf
    exact w_L_law_1641 hl9 X hX hS hR hr hr1 hres hA hk23 o1 o2 o3 x4 h12 ls H locs _ _ hf I (lv_sub hl [0, 1, 2, 3, 4] rfl)
  · rw [if_neg c16] at hf
    refine lv_iconst (v := 0) hx hb dL_law_650 (by decide) ?_
    cases hf
    exact absurd (show (0 : Int32) = 1 from hr1) (by decide)
def f_L_law_652 (xs : Nat → Int32) (L : Nat) (k23 : Nat → Nat → Nat → Int32 → AH → Option (Int32 × AH)) (o1 : Nat) (o2 : Nat) (o3 : Nat) (x4 : Int32) (h : AH) : Option (Int32 × AH) :=
  ck h (
  (sx xs L (x4 + 1)).bind fun v1 =>
  (isC [11] h o1).bind fun _ =>
  cA (f_X11_about o1 v1 h) h fun v3 h4 =>
  (sx xs L (x4 + 1)).bind fun v9 =>
  (isC [12] h4 o2).bind fun _ =>
  cN (f_X12_about o2 v9 h4) h4 fun v11 h12 =>
  if v3 = v11 then
    f_L_law_1641 xs L k23 o1 o2 o3 x4 h12
  else
    some (0, h12))
set_option maxHeartbeats 1000000 in
theorem w_L_law_652 (hl9 : l.stackTraces = false) (X : Cx g p s m #[Value.ref b] meth c cL_law 7 "TrapCornerLaw") (hX : SX g s s.heap) (hS : va_X b L xs s s.heap ∧ b < s.heap.size ∧ ¬ AG g b) (hR : 100 ≤ room_1.frames ∧ 7000 ≤ room_1.locals) (hr : meth.sig.returnType = ret) {res : Int32 × AH} (hr1 : res.1 = 1) (hres : res.2.1 ≤ 601024 ∧ res.2.2.1 ≤ 7293033) (hA : room_1.cells + 0 = 601024 ∧ room_1.slots + 0 = 7293033) {k23 : Nat → Nat → Nat → Int32 → AH → Option (Int32 × AH)} (hk23 : ∀ (o1 : Nat) (o2 : Nat) (o3 : Nat) (x4 : Int32) (h : AH) (ls : Array Slot) (H : Heap) (locs : List Loc) (cells slots : Nat), k23 o1 o2 o3 x4 h = some res → Iv g s 0 0 h H locs cells slots → lv_has ls 7 [(0, .ref b), (1, .ref (rfG g o1)), (2, .ref (rfG g o2)), (3, .ref (rfG g o3)), (4, .int x4)] → W p l e room_1 s m #[Value.ref b] below meth c H locs cells slots (lw_Z below #[Value.ref b] s) (F0 m 23 ls [])) : ∀ (o1 : Nat) (o2 : Nat) (o3 : Nat) (x4 : Int32) (h : AH) (ls : Array Slot) (H : Heap) (locs : List Loc) (cells slots : Nat), f_L_law_652 xs L k23 o1 o2 o3 x4 h = some res → Iv g s 0 0 h H locs cells slots → lv_has ls 7 [(0, .ref b), (1, .ref (rfG g o1)), (2, .ref (rfG g o2)), (3, .ref (rfG g o3)), (4, .int x4)] → W p l e room_1 s m #[Value.ref b] below meth c H locs cells slots (lw_Z below #[Value.ref b] s) (F0 m 652 ls []) := by
  have hx := X.1
  have hb := X.2.1
  intro o1 o2 o3 x4 h ls H locs cells slots hf I hl
  unfold f_L_law_652 at hf
  obtain ⟨hbd, hf⟩ := ck_spec hf
  have hbd := lt2 hbd hres
  have hle := I.le hA hbd
  refine lv_aload_n hx hb dL_law_652 rfl (lv_at hl 1 rfl) ?_
  refine lv_aload_n hx hb dL_law_653 rfl (lv_at hl 0 rfl) ?_
  refine lv_iload hx hb dL_law_654 (lv_at hl 4 rfl) ?_
  refine lv_iconst (v := 1) hx hb dL_law_656 (by decide) ?_
  refine lv_iadd hx hb dL_law_657 ?_
  obtain ⟨v1, e2, hf⟩ := Option.bind_eq_some_iff.mp hf
  refine r_sx X I hS e2 dL_law_658 ?_
  obtain ⟨_, g7, hf⟩ := Option.bind_eq_some_iff.mp hf
  obtain ⟨v3, h4, e5, z6, b8, hf⟩ := cA_spec hf
  have b8 := lt2 b8 hres
  refine k_VAi (As := [.int v1]) (rest := []) X I (c_X11_about l g o1 v1 e5) z6 hA b8 g7 vk_TrapCornerLaw_80 tw_976 ⟨Nat.le_trans (by decide) hR.1, Nat.le_trans (by decide) hR.2⟩ rfl hl.1 rfl (Nat.le_of_ble_eq_true rfl) dL_law_659 (fun H locs I => ?_)
  have hle := I.le hA b8
  refine lv_aload_n hx hb dL_law_662 rfl (lv_at hl 2 rfl) ?_
  refine lv_aload_n hx hb dL_law_663 rfl (lv_at hl 0 rfl) ?_
  refine lv_iload hx hb dL_law_664 (lv_at hl 4 rfl) ?_
  refine lv_iconst (v := 1) hx hb dL_law_666 (by decide) ?_
  refine lv_iadd hx hb dL_law_667 ?_
  obtain ⟨v9, e10, hf⟩ := Option.bind_eq_some_iff.mp hf
  refine r_sx X I hS e10 dL_law_668 ?_
  obtain ⟨_, g15, hf⟩ := Option.bind_eq_some_iff.mp hf
  obtain ⟨v11, h12, e13, z14, hf⟩ := cN_spec hf
  refine k_Vi (As := [.int v9]) (rest := [.int v3]) X I (c_X12_about l g o2 v9 e13) z14 g15 vk_TrapCornerLaw_83 tw_1750 ⟨Nat.le_trans (by decide) hR.1, Nat.le_trans (by decide) hR.2⟩ hle rfl hl.1 rfl (Nat.le_of_ble_eq_true rfl) dL_law_669 (fun H locs I => ?_)
  refine lv_icmp_eq (tgt := 1641) hx hb dL_law_672 (by decide) (fun c16 => ?_) (fun c16 => ?_)
  · rw [if_pos c16] at hf
    exact w_L_law_1641 hl9 X hX hS hR hr hr1 hres hA hk23 o1 o2 o3 x4 h12 ls H locs _ _ hf I (lv_sub hl [0, 1, 2, 3, 4] rfl)
  · rw [if_neg c16] at hf
    refine lv_iconst (v := 0) hx hb dL_law_675 (by decide) ?_
    cases hf
    exact absurd (show (0 : Int32) = 1 from hr1) (by decide)
def f_L_law_677 (xs : Nat → Int32) (L : Nat) (k23 : Nat → Nat → Nat → Int32 → AH → Option (Int32 × AH)) (o1 : Nat) (o2 : Nat) (o3 : Nat) (x4 : Int32) (h : AH) : Option (Int32 × AH) :=
  ck h (
  (sx xs L (x4 + 1)).bind fun v1 =>
  (isC [11] h o1).bind fun _ =>
  cA (f_X11_give o1 v1 h) h fun v3 h4 =>
  (sx xs L (x4 + 1)).bind fun v9 =>
  (isC [12] h4 o2).bind fun _ =>
  cN (f_X12_give o2 v9 h4) h4 fun v11 h12 =>
  if v3 = v11 then
    f_L_law_1641 xs L k23 o1 o2 o3 x4 h12
  else
    some (0, h12))
set_option maxHeartbeats 1000000 in
theorem w_L_law_677 (hl9 : l.stackTraces = false) (X : Cx g p s m #[Value.ref b] meth c cL_law 7 "TrapCornerLaw") (hX : SX g s s.heap) (hS : va_X b L xs s s.heap ∧ b < s.heap.size ∧ ¬ AG g b) (hR : 100 ≤ room_1.frames ∧ 7000 ≤ room_1.locals) (hr : meth.sig.returnType = ret) {res : Int32 × AH} (hr1 : res.1 = 1) (hres : res.2.1 ≤ 601024 ∧ res.2.2.1 ≤ 7293033) (hA : room_1.cells + 0 = 601024 ∧ room_1.slots + 0 = 7293033) {k23 : Nat → Nat → Nat → Int32 → AH → Option (Int32 × AH)} (hk23 : ∀ (o1 : Nat) (o2 : Nat) (o3 : Nat) (x4 : Int32) (h : AH) (ls : Array Slot) (H : Heap) (locs : List Loc) (cells slots : Nat), k23 o1 o2 o3 x4 h = some res → Iv g s 0 0 h H locs cells slots → lv_has ls 7 [(0, .ref b), (1, .ref (rfG g o1)), (2, .ref (rfG g o2)), (3, .ref (rfG g o3)), (4, .int x4)] → W p l e room_1 s m #[Value.ref b] below meth c H locs cells slots (lw_Z below #[Value.ref b] s) (F0 m 23 ls [])) : ∀ (o1 : Nat) (o2 : Nat) (o3 : Nat) (x4 : Int32) (h : AH) (ls : Array Slot) (H : Heap) (locs : List Loc) (cells slots : Nat), f_L_law_677 xs L k23 o1 o2 o3 x4 h = some res → Iv g s 0 0 h H locs cells slots → lv_has ls 7 [(0, .ref b), (1, .ref (rfG g o1)), (2, .ref (rfG g o2)), (3, .ref (rfG g o3)), (4, .int x4)] → W p l e room_1 s m #[Value.ref b] below meth c H locs cells slots (lw_Z below #[Value.ref b] s) (F0 m 677 ls []) := by
  have hx := X.1
  have hb := X.2.1
  intro o1 o2 o3 x4 h ls H locs cells slots hf I hl
  unfold f_L_law_677 at hf
  obtain ⟨hbd, hf⟩ := ck_spec hf
  have hbd := lt2 hbd hres
  have hle := I.le hA hbd
  refine lv_aload_n hx hb dL_law_677 rfl (lv_at hl 1 rfl) ?_
  refine lv_aload_n hx hb dL_law_678 rfl (lv_at hl 0 rfl) ?_
  refine lv_iload hx hb dL_law_679 (lv_at hl 4 rfl) ?_
  refine lv_iconst (v := 1) hx hb dL_law_681 (by decide) ?_
  refine lv_iadd hx hb dL_law_682 ?_
  obtain ⟨v1, e2, hf⟩ := Option.bind_eq_some_iff.mp hf
  refine r_sx X I hS e2 dL_law_683 ?_
  obtain ⟨_, g7, hf⟩ := Option.bind_eq_some_iff.mp hf
  obtain ⟨v3, h4, e5, z6, b8, hf⟩ := cA_spec hf
  have b8 := lt2 b8 hres
  refine k_VAi (As := [.int v1]) (rest := []) X I (c_X11_give l g o1 v1 e5) z6 hA b8 g7 vk_TrapCornerLaw_84 tw_980 ⟨Nat.le_trans (by decide) hR.1, Nat.le_trans (by decide) hR.2⟩ rfl hl.1 rfl (Nat.le_of_ble_eq_true rfl) dL_law_684 (fun H locs I => ?_)
  have hle := I.le hA b8
  refine lv_aload_n hx hb dL_law_687 rfl (lv_at hl 2 rfl) ?_
  refine lv_aload_n hx hb dL_law_688 rfl (lv_at hl 0 rfl) ?_
  refine lv_iload hx hb dL_law_689 (lv_at hl 4 rfl) ?_
  refine lv_iconst (v := 1) hx hb dL_law_691 (by decide) ?_
  refine lv_iadd hx hb dL_law_692 ?_
  obtain ⟨v9, e10, hf⟩ := Option.bind_eq_some_iff.mp hf
  refine r_sx X I hS e10 dL_law_693 ?_
  obtain ⟨_, g15, hf⟩ := Option.bind_eq_some_iff.mp hf
  obtain ⟨v11, h12, e13, z14, hf⟩ := cN_spec hf
  refine k_Vi (As := [.int v9]) (rest := [.int v3]) X I (c_X12_give l g o2 v9 e13) z14 g15 vk_TrapCornerLaw_87 tw_1757 ⟨Nat.le_trans (by decide) hR.1, Nat.le_trans (by decide) hR.2⟩ hle rfl hl.1 rfl (Nat.le_of_ble_eq_true rfl) dL_law_694 (fun H locs I => ?_)
  refine lv_icmp_eq (tgt := 1641) hx hb dL_law_697 (by decide) (fun c16 => ?_) (fun c16 => ?_)
  · rw [if_pos c16] at hf
    exact w_L_law_1641 hl9 X hX hS hR hr hr1 hres hA hk23 o1 o2 o3 x4 h12 ls H locs _ _ hf I (lv_sub hl [0, 1, 2, 3, 4] rfl)
  · rw [if_neg c16] at hf
    refine lv_iconst (v := 0) hx hb dL_law_700 (by decide) ?_
    cases hf
    exact absurd (show (0 : Int32) = 1 from hr1) (by decide)
def f_L_law_702 (xs : Nat → Int32) (L : Nat) (k23 : Nat → Nat → Nat → Int32 → AH → Option (Int32 × AH)) (o1 : Nat) (o2 : Nat) (o3 : Nat) (x4 : Int32) (h : AH) : Option (Int32 × AH) :=
  ck h (
  (sx xs L (x4 + 1)).bind fun v1 =>
  (sx xs L (x4 + 2)).bind fun v3 =>
  (sx xs L (x4 + 3)).bind fun v5 =>
  (isC [11] h o1).bind fun _ =>
  cA (f_X11_years o1 v1 (((v3.toInt64) <<< ((32 : Int32).toInt64 &&& 63)) ||| ((v5.toInt64) &&& 4294967295)) h) h fun v7 h8 =>
  (sx xs L (x4 + 1)).bind fun v13 =>
  (sx xs L (x4 + 2)).bind fun v15 =>
  (sx xs L (x4 + 3)).bind fun v17 =>
  (isC [12] h8 o2).bind fun _ =>
  cN (f_X12_years o2 v13 (((v15.toInt64) <<< ((32 : Int32).toInt64 &&& 63)) ||| ((v17.toInt64) &&& 4294967295)) h8) h8 fun v19 h20 =>
  if v7 = v19 then
    f_L_law_1641 xs L k23 o1 o2 o3 x4 h20
  else
    some (0, h20))
set_option maxHeartbeats 1000000 in
theorem w_L_law_702 (hl9 : l.stackTraces = false) (X : Cx g p s m #[Value.ref b] meth c cL_law 7 "TrapCornerLaw") (hX : SX g s s.heap) (hS : va_X b L xs s s.heap ∧ b < s.heap.size ∧ ¬ AG g b) (hR : 100 ≤ room_1.frames ∧ 7000 ≤ room_1.locals) (hr : meth.sig.returnType = ret) {res : Int32 × AH} (hr1 : res.1 = 1) (hres : res.2.1 ≤ 601024 ∧ res.2.2.1 ≤ 7293033) (hA : room_1.cells + 0 = 601024 ∧ room_1.slots + 0 = 7293033) {k23 : Nat → Nat → Nat → Int32 → AH → Option (Int32 × AH)} (hk23 : ∀ (o1 : Nat) (o2 : Nat) (o3 : Nat) (x4 : Int32) (h : AH) (ls : Array Slot) (H : Heap) (locs : List Loc) (cells slots : Nat), k23 o1 o2 o3 x4 h = some res → Iv g s 0 0 h H locs cells slots → lv_has ls 7 [(0, .ref b), (1, .ref (rfG g o1)), (2, .ref (rfG g o2)), (3, .ref (rfG g o3)), (4, .int x4)] → W p l e room_1 s m #[Value.ref b] below meth c H locs cells slots (lw_Z below #[Value.ref b] s) (F0 m 23 ls [])) : ∀ (o1 : Nat) (o2 : Nat) (o3 : Nat) (x4 : Int32) (h : AH) (ls : Array Slot) (H : Heap) (locs : List Loc) (cells slots : Nat), f_L_law_702 xs L k23 o1 o2 o3 x4 h = some res → Iv g s 0 0 h H locs cells slots → lv_has ls 7 [(0, .ref b), (1, .ref (rfG g o1)), (2, .ref (rfG g o2)), (3, .ref (rfG g o3)), (4, .int x4)] → W p l e room_1 s m #[Value.ref b] below meth c H locs cells slots (lw_Z below #[Value.ref b] s) (F0 m 702 ls []) := by
  have hx := X.1
  have hb := X.2.1
  intro o1 o2 o3 x4 h ls H locs cells slots hf I hl
  unfold f_L_law_702 at hf
  obtain ⟨hbd, hf⟩ := ck_spec hf
  have hbd := lt2 hbd hres
  have hle := I.le hA hbd
  refine lv_aload_n hx hb dL_law_702 rfl (lv_at hl 1 rfl) ?_
  refine lv_aload_n hx hb dL_law_703 rfl (lv_at hl 0 rfl) ?_
  refine lv_iload hx hb dL_law_704 (lv_at hl 4 rfl) ?_
  refine lv_iconst (v := 1) hx hb dL_law_706 (by decide) ?_
  refine lv_iadd hx hb dL_law_707 ?_
  obtain ⟨v1, e2, hf⟩ := Option.bind_eq_some_iff.mp hf
  refine r_sx X I hS e2 dL_law_708 ?_
  refine lv_aload_n hx hb dL_law_709 rfl (lv_at hl 0 rfl) ?_
  refine lv_iload hx hb dL_law_710 (lv_at hl 4 rfl) ?_
  refine lv_iconst (v := 2) hx hb dL_law_712 (by decide) ?_
  refine lv_iadd hx hb dL_law_713 ?_
  obtain ⟨v3, e4, hf⟩ := Option.bind_eq_some_iff.mp hf
  refine r_sx X I hS e4 dL_law_714 ?_
  refine lv_i2l hx hb dL_law_715 rfl ?_
  refine lv_bipush (v := 32) hx hb dL_law_716 (by decide) ?_
  refine lv_lshl hx hb dL_law_718 rfl ?_
  refine lv_aload_n hx hb dL_law_719 rfl (lv_at hl 0 rfl) ?_
  refine lv_iload hx hb dL_law_720 (lv_at hl 4 rfl) ?_
  refine lv_iconst (v := 3) hx hb dL_law_722 (by decide) ?_
  refine lv_iadd hx hb dL_law_723 ?_
  obtain ⟨v5, e6, hf⟩ := Option.bind_eq_some_iff.mp hf
  refine r_sx X I hS e6 dL_law_724 ?_
  refine lv_i2l hx hb dL_law_725 rfl ?_
  refine lv_ldc2 (v := 4294967295) hx hb X.2.2.2.1 (X.2.2.2.2.1 _ tw_1937) dL_law_726 ?_
  refine lv_land hx hb dL_law_729 ?_
  refine lv_lor hx hb dL_law_730 ?_
  obtain ⟨_, g11, hf⟩ := Option.bind_eq_some_iff.mp hf
  obtain ⟨v7, h8, e9, z10, b12, hf⟩ := cA_spec hf
  have b12 := lt2 b12 hres
  refine k_VAi (As := [.int v1, .long (((v3.toInt64) <<< ((32 : Int32).toInt64 &&& 63)) ||| ((v5.toInt64) &&& 4294967295))]) (rest := []) X I (c_X11_years l g o1 v1 (((v3.toInt64) <<< ((32 : Int32).toInt64 &&& 63)) ||| ((v5.toInt64) &&& 4294967295)) e9) z10 hA b12 g11 vk_TrapCornerLaw_90 tw_984 ⟨Nat.le_trans (by decide) hR.1, Nat.le_trans (by decide) hR.2⟩ rfl hl.1 rfl (Nat.le_of_ble_eq_true rfl) dL_law_731 (fun H locs I => ?_)
  have hle := I.le hA b12
  refine lv_aload_n hx hb dL_law_734 rfl (lv_at hl 2 rfl) ?_
  refine lv_aload_n hx hb dL_law_735 rfl (lv_at hl 0 rfl) ?_
  refine lv_iload hx hb dL_law_736 (lv_at hl 4 rfl) ?_
  refine lv_iconst (v := 1) hx hb dL_law_738 (by decide) ?_
  refine lv_iadd hx hb dL_law_739 ?_
  obtain ⟨v13, e14, hf⟩ := Option.bind_eq_some_iff.mp hf
  refine r_sx X I hS e14 dL_law_740 ?_
  refine lv_aload_n hx hb dL_law_741 rfl (lv_at hl 0 rfl) ?_
  refine lv_iload hx hb dL_law_742 (lv_at hl 4 rfl) ?_
  refine lv_iconst (v := 2) hx hb dL_law_744 (by decide) ?_
  refine lv_iadd hx hb dL_law_745 ?_
  obtain ⟨v15, e16, hf⟩ := Option.bind_eq_some_iff.mp hf
  refine r_sx X I hS e16 dL_law_746 ?_
  refine lv_i2l hx hb dL_law_747 rfl ?_
  refine lv_bipush (v := 32) hx hb dL_law_748 (by decide) ?_
  refine lv_lshl hx hb dL_law_750 rfl ?_
  refine lv_aload_n hx hb dL_law_751 rfl (lv_at hl 0 rfl) ?_
  refine lv_iload hx hb dL_law_752 (lv_at hl 4 rfl) ?_
  refine lv_iconst (v := 3) hx hb dL_law_754 (by decide) ?_
  refine lv_iadd hx hb dL_law_755 ?_
  obtain ⟨v17, e18, hf⟩ := Option.bind_eq_some_iff.mp hf
  refine r_sx X I hS e18 dL_law_756 ?_
  refine lv_i2l hx hb dL_law_757 rfl ?_
  refine lv_ldc2 (v := 4294967295) hx hb X.2.2.2.1 (X.2.2.2.2.1 _ tw_1937) dL_law_758 ?_
  refine lv_land hx hb dL_law_761 ?_
  refine lv_lor hx hb dL_law_762 ?_
  obtain ⟨_, g23, hf⟩ := Option.bind_eq_some_iff.mp hf
  obtain ⟨v19, h20, e21, z22, hf⟩ := cN_spec hf
  refine k_Vi (As := [.int v13, .long (((v15.toInt64) <<< ((32 : Int32).toInt64 &&& 63)) ||| ((v17.toInt64) &&& 4294967295))]) (rest := [.int v7]) X I (c_X12_years l g o2 v13 (((v15.toInt64) <<< ((32 : Int32).toInt64 &&& 63)) ||| ((v17.toInt64) &&& 4294967295)) e21) z22 g23 vk_TrapCornerLaw_94 tw_1762 ⟨Nat.le_trans (by decide) hR.1, Nat.le_trans (by decide) hR.2⟩ hle rfl hl.1 rfl (Nat.le_of_ble_eq_true rfl) dL_law_763 (fun H locs I => ?_)
  refine lv_icmp_eq (tgt := 1641) hx hb dL_law_766 (by decide) (fun c24 => ?_) (fun c24 => ?_)
  · rw [if_pos c24] at hf
    exact w_L_law_1641 hl9 X hX hS hR hr hr1 hres hA hk23 o1 o2 o3 x4 h20 ls H locs _ _ hf I (lv_sub hl [0, 1, 2, 3, 4] rfl)
  · rw [if_neg c24] at hf
    refine lv_iconst (v := 0) hx hb dL_law_769 (by decide) ?_
    cases hf
    exact absurd (show (0 : Int32) = 1 from hr1) (by decide)
def f_L_law_771 (xs : Nat → Int32) (L : Nat) (k23 : Nat → Nat → Nat → Int32 → AH → Option (Int32 × AH)) (o1 : Nat) (o2 : Nat) (o3 : Nat) (x4 : Int32) (h : AH) : Option (Int32 × AH) :=
  ck h (
  (isC [11] h o1).bind fun _ =>
  cN (f_X11_undo o1 h) h fun v1 h2 =>
  (isC [12] h2 o2).bind fun _ =>
  cN (f_X12_undo o2 h2) h2 fun v6 h7 =>
  if v1 = v6 then
    f_L_law_1641 xs L k23 o1 o2 o3 x4 h7
  else
    some (0, h7))
set_option maxHeartbeats 1000000 in
theorem w_L_law_771 (hl9 : l.stackTraces = false) (X : Cx g p s m #[Value.ref b] meth c cL_law 7 "TrapCornerLaw") (hX : SX g s s.heap) (hS : va_X b L xs s s.heap ∧ b < s.heap.size ∧ ¬ AG g b) (hR : 100 ≤ room_1.frames ∧ 7000 ≤ room_1.locals) (hr : meth.sig.returnType = ret) {res : Int32 × AH} (hr1 : res.1 = 1) (hres : res.2.1 ≤ 601024 ∧ res.2.2.1 ≤ 7293033) (hA : room_1.cells + 0 = 601024 ∧ room_1.slots + 0 = 7293033) {k23 : Nat → Nat → Nat → Int32 → AH → Option (Int32 × AH)} (hk23 : ∀ (o1 : Nat) (o2 : Nat) (o3 : Nat) (x4 : Int32) (h : AH) (ls : Array Slot) (H : Heap) (locs : List Loc) (cells slots : Nat), k23 o1 o2 o3 x4 h = some res → Iv g s 0 0 h H locs cells slots → lv_has ls 7 [(0, .ref b), (1, .ref (rfG g o1)), (2, .ref (rfG g o2)), (3, .ref (rfG g o3)), (4, .int x4)] → W p l e room_1 s m #[Value.ref b] below meth c H locs cells slots (lw_Z below #[Value.ref b] s) (F0 m 23 ls [])) : ∀ (o1 : Nat) (o2 : Nat) (o3 : Nat) (x4 : Int32) (h : AH) (ls : Array Slot) (H : Heap) (locs : List Loc) (cells slots : Nat), f_L_law_771 xs L k23 o1 o2 o3 x4 h = some res → Iv g s 0 0 h H locs cells slots → lv_has ls 7 [(0, .ref b), (1, .ref (rfG g o1)), (2, .ref (rfG g o2)), (3, .ref (rfG g o3)), (4, .int x4)] → W p l e room_1 s m #[Value.ref b] below meth c H locs cells slots (lw_Z below #[Value.ref b] s) (F0 m 771 ls []) := by
  have hx := X.1
  have hb := X.2.1
  intro o1 o2 o3 x4 h ls H locs cells slots hf I hl
  unfold f_L_law_771 at hf
  obtain ⟨hbd, hf⟩ := ck_spec hf
  have hbd := lt2 hbd hres
  have hle := I.le hA hbd
  refine lv_aload_n hx hb dL_law_771 rfl (lv_at hl 1 rfl) ?_
  obtain ⟨_, g5, hf⟩ := Option.bind_eq_some_iff.mp hf
  obtain ⟨v1, h2, e3, z4, hf⟩ := cN_spec hf
  refine k_Vi (As := []) (rest := []) X I (c_X11_undo l g o1 e3) z4 g5 vk_TrapCornerLaw_95 tw_998 ⟨Nat.le_trans (by decide) hR.1, Nat.le_trans (by decide) hR.2⟩ hle rfl hl.1 rfl (Nat.le_of_ble_eq_true rfl) dL_law_772 (fun H locs I => ?_)
  refine lv_aload_n hx hb dL_law_775 rfl (lv_at hl 2 rfl) ?_
  obtain ⟨_, g10, hf⟩ := Option.bind_eq_some_iff.mp hf
  obtain ⟨v6, h7, e8, z9, hf⟩ := cN_spec hf
  refine k_Vi (As := []) (rest := [.int v1]) X I (c_X12_undo l g o2 e8) z9 g10 vk_TrapCornerLaw_98 tw_1773 ⟨Nat.le_trans (by decide) hR.1, Nat.le_trans (by decide) hR.2⟩ hle rfl hl.1 rfl (Nat.le_of_ble_eq_true rfl) dL_law_776 (fun H locs I => ?_)
  refine lv_icmp_eq (tgt := 1641) hx hb dL_law_779 (by decide) (fun c11 => ?_) (fun c11 => ?_)
  · rw [if_pos c11] at hf
    exact w_L_law_1641 hl9 X hX hS hR hr hr1 hres hA hk23 o1 o2 o3 x4 h7 ls H locs _ _ hf I (lv_sub hl [0, 1, 2, 3, 4] rfl)
  · rw [if_neg c11] at hf
    refine lv_iconst (v := 0) hx hb dL_law_782 (by decide) ?_
    cases hf
    exact absurd (show (0 : Int32) = 1 from hr1) (by decide)
def f_L_law_784 (xs : Nat → Int32) (L : Nat) (k23 : Nat → Nat → Nat → Int32 → AH → Option (Int32 × AH)) (o1 : Nat) (o2 : Nat) (o3 : Nat) (x4 : Int32) (h : AH) : Option (Int32 × AH) :=
  ck h (
  (sx xs L (x4 + 1)).bind fun v1 =>
  (sx xs L (x4 + 2)).bind fun v3 =>
  (isC [11] h o1).bind fun _ =>
  cN (f_X11_log o1 v1 v3 h) h fun v5 h6 =>
  (sx xs L (x4 + 1)).bind fun v10 =>
  (sx xs L (x4 + 2)).bind fun v12 =>
  (isC [12] h6 o2).bind fun _ =>
  cN (f_X12_log o2 v10 v12 h6) h6 fun v14 h15 =>
  if v5 = v14 then
    f_L_law_1641 xs L k23 o1 o2 o3 x4 h15
  else
    some (0, h15))
set_option maxHeartbeats 1000000 in
theorem w_L_law_784 (hl9 : l.stackTraces = false) (X : Cx g p s m #[Value.ref b] meth c cL_law 7 "TrapCornerLaw") (hX : SX g s s.heap) (hS : va_X b L xs s s.heap ∧ b < s.heap.size ∧ ¬ AG g b) (hR : 100 ≤ room_1.frames ∧ 7000 ≤ room_1.locals) (hr : meth.sig.returnType = ret) {res : Int32 × AH} (hr1 : res.1 = 1) (hres : res.2.1 ≤ 601024 ∧ res.2.2.1 ≤ 7293033) (hA : room_1.cells + 0 = 601024 ∧ room_1.slots + 0 = 7293033) {k23 : Nat → Nat → Nat → Int32 → AH → Option (Int32 × AH)} (hk23 : ∀ (o1 : Nat) (o2 : Nat) (o3 : Nat) (x4 : Int32) (h : AH) (ls : Array Slot) (H : Heap) (locs : List Loc) (cells slots : Nat), k23 o1 o2 o3 x4 h = some res → Iv g s 0 0 h H locs cells slots → lv_has ls 7 [(0, .ref b), (1, .ref (rfG g o1)), (2, .ref (rfG g o2)), (3, .ref (rfG g o3)), (4, .int x4)] → W p l e room_1 s m #[Value.ref b] below meth c H locs cells slots (lw_Z below #[Value.ref b] s) (F0 m 23 ls [])) : ∀ (o1 : Nat) (o2 : Nat) (o3 : Nat) (x4 : Int32) (h : AH) (ls : Array Slot) (H : Heap) (locs : List Loc) (cells slots : Nat), f_L_law_784 xs L k23 o1 o2 o3 x4 h = some res → Iv g s 0 0 h H locs cells slots → lv_has ls 7 [(0, .ref b), (1, .ref (rfG g o1)), (2, .ref (rfG g o2)), (3, .ref (rfG g o3)), (4, .int x4)] → W p l e room_1 s m #[Value.ref b] below meth c H locs cells slots (lw_Z below #[Value.ref b] s) (F0 m 784 ls []) := by
  have hx := X.1
  have hb := X.2.1
  intro o1 o2 o3 x4 h ls H locs cells slots hf I hl
  unfold f_L_law_784 at hf
  obtain ⟨hbd, hf⟩ := ck_spec hf
  have hbd := lt2 hbd hres
  have hle := I.le hA hbd
  refine lv_aload_n hx hb dL_law_784 rfl (lv_at hl 1 rfl) ?_
  refine lv_aload_n hx hb dL_law_785 rfl (lv_at hl 0 rfl) ?_
  refine lv_iload hx hb dL_law_786 (lv_at hl 4 rfl) ?_
  refine lv_iconst (v := 1) hx hb dL_law_788 (by decide) ?_
  refine lv_iadd hx hb dL_law_789 ?_
  obtain ⟨v1, e2, hf⟩ := Option.bind_eq_some_iff.mp hf
  refine r_sx X I hS e2 dL_law_790 ?_
  refine lv_aload_n hx hb dL_law_791 rfl (lv_at hl 0 rfl) ?_
  refine lv_iload hx hb dL_law_792 (lv_at hl 4 rfl) ?_
  refine lv_iconst (v := 2) hx hb dL_law_794 (by decide) ?_
  refine lv_iadd hx hb dL_law_795 ?_
  obtain ⟨v3, e4, hf⟩ := Option.bind_eq_some_iff.mp hf
  refine r_sx X I hS e4 dL_law_796 ?_
  obtain ⟨_, g9, hf⟩ := Option.bind_eq_some_iff.mp hf
  obtain ⟨v5, h6, e7, z8, hf⟩ := cN_spec hf
  refine k_Vi (As := [.int v1, .int v3]) (rest := []) X I (c_X11_log l g o1 v1 v3 e7) z8 g9 vk_TrapCornerLaw_99 tw_805 ⟨Nat.le_trans (by decide) hR.1, Nat.le_trans (by decide) hR.2⟩ hle rfl hl.1 rfl (Nat.le_of_ble_eq_true rfl) dL_law_797 (fun H locs I => ?_)
  refine lv_aload_n hx hb dL_law_800 rfl (lv_at hl 2 rfl) ?_
  refine lv_aload_n hx hb dL_law_801 rfl (lv_at hl 0 rfl) ?_
  refine lv_iload hx hb dL_law_802 (lv_at hl 4 rfl) ?_
  refine lv_iconst (v := 1) hx hb dL_law_804 (by decide) ?_
  refine lv_iadd hx hb dL_law_805 ?_
  obtain ⟨v10, e11, hf⟩ := Option.bind_eq_some_iff.mp hf
  refine r_sx X I hS e11 dL_law_806 ?_
  refine lv_aload_n hx hb dL_law_807 rfl (lv_at hl 0 rfl) ?_
  refine lv_iload hx hb dL_law_808 (lv_at hl 4 rfl) ?_
  refine lv_iconst (v := 2) hx hb dL_law_810 (by decide) ?_
  refine lv_iadd hx hb dL_law_811 ?_
  obtain ⟨v12, e13, hf⟩ := Option.bind_eq_some_iff.mp hf
  refine r_sx X I hS e13 dL_law_812 ?_
  obtain ⟨_, g18, hf⟩ := Option.bind_eq_some_iff.mp hf
  obtain ⟨v14, h15, e16, z17, hf⟩ := cN_spec hf
  refine k_Vi (As := [.int v10, .int v12]) (rest := [.int v5]) X I (c_X12_log l g o2 v10 v12 e16) z17 g18 vk_TrapCornerLaw_102 tw_1777 ⟨Nat.le_trans (by decide) hR.1, Nat.le_trans (by decide) hR.2⟩ hle rfl hl.1 rfl (Nat.le_of_ble_eq_true rfl) dL_law_813 (fun H locs I => ?_)
  refine lv_icmp_eq (tgt := 1641) hx hb dL_law_816 (by decide) (fun c19 => ?_) (fun c19 => ?_)
  · rw [if_pos c19] at hf
    exact w_L_law_1641 hl9 X hX hS hR hr hr1 hres hA hk23 o1 o2 o3 x4 h15 ls H locs _ _ hf I (lv_sub hl [0, 1, 2, 3, 4] rfl)
  · rw [if_neg c19] at hf
    refine lv_iconst (v := 0) hx hb dL_law_819 (by decide) ?_
    cases hf
    exact absurd (show (0 : Int32) = 1 from hr1) (by decide)
def f_L_law_821 (xs : Nat → Int32) (L : Nat) (k23 : Nat → Nat → Nat → Int32 → AH → Option (Int32 × AH)) (o1 : Nat) (o2 : Nat) (o3 : Nat) (x4 : Int32) (h : AH) : Option (Int32 × AH) :=
  ck h (
  (sx xs L (x4 + 1)).bind fun v1 =>
  (sx xs L (x4 + 2)).bind fun v3 =>
  (sx xs L (x4 + 3)).bind fun v5 =>
  (isC [11] h o1).bind fun _ =>
  cN (f_X11_step o1 v1 v3 v5 h) h fun v7 h8 =>
  (sx xs L (x4 + 1)).bind fun v12 =>
  (sx xs L (x4 + 2)).bind fun v14 =>
  (sx xs L (x4 + 3)).bind fun v16 =>
  (isC [12] h8 o2).bind fun _ =>
  cN (f_X12_step o2 v12 v14 v16 h8) h8 fun v18 h19 =>
  if v7 = v18 then
    f_L_law_1641 xs L k23 o1 o2 o3 x4 h19
  else
    some (0, h19))
set_option maxHeartbeats 1000000 in
theorem w_L_law_821 (hl9 : l.stackTraces = false) (X : Cx g p s m #[Value.ref b] meth c cL_law 7 "TrapCornerLaw") (hX : SX g s s.heap) (hS : va_X b L xs s s.heap ∧ b < s.heap.size ∧ ¬ AG g b) (hR : 100 ≤ room_1.frames ∧ 7000 ≤ room_1.locals) (hr : meth.sig.returnType = ret) {res : Int32 × AH} (hr1 : res.1 = 1) (hres : res.2.1 ≤ 601024 ∧ res.2.2.1 ≤ 7293033) (hA : room_1.cells + 0 = 601024 ∧ room_1.slots + 0 = 7293033) {k23 : Nat → Nat → Nat → Int32 → AH → Option (Int32 × AH)} (hk23 : ∀ (o1 : Nat) (o2 : Nat) (o3 : Nat) (x4 : Int32) (h : AH) (ls : Array Slot) (H : Heap) (locs : List Loc) (cells slots : Nat), k23 o1 o2 o3 x4 h = some res → Iv g s 0 0 h H locs cells slots → lv_has ls 7 [(0, .ref b), (1, .ref (rfG g o1)), (2, .ref (rfG g o2)), (3, .ref (rfG g o3)), (4, .int x4)] → W p l e room_1 s m #[Value.ref b] below meth c H locs cells slots (lw_Z below #[Value.ref b] s) (F0 m 23 ls [])) : ∀ (o1 : Nat) (o2 : Nat) (o3 : Nat) (x4 : Int32) (h : AH) (ls : Array Slot) (H : Heap) (locs : List Loc) (cells slots : Nat), f_L_law_821 xs L k23 o1 o2 o3 x4 h = some res → Iv g s 0 0 h H locs cells slots → lv_has ls 7 [(0, .ref b), (1, .ref (rfG g o1)), (2, .ref (rfG g o2)), (3, .ref (rfG g o3)), (4, .int x4)] → W p l e room_1 s m #[Value.ref b] below meth c H locs cells slots (lw_Z below #[Value.ref b] s) (F0 m 821 ls []) := by
  have hx := X.1
  have hb := X.2.1
  intro o1 o2 o3 x4 h ls H locs cells slots hf I hl
  unfold f_L_law_821 at hf
  obtain ⟨hbd, hf⟩ := ck_spec hf
  have hbd := lt2 hbd hres
  have hle := I.le hA hbd
  refine lv_aload_n hx hb dL_law_821 rfl (lv_at hl 1 rfl) ?_
  refine lv_aload_n hx hb dL_law_822 rfl (lv_at hl 0 rfl) ?_
  refine lv_iload hx hb dL_law_823 (lv_at hl 4 rfl) ?_
  refine lv_iconst (v := 1) hx hb dL_law_825 (by decide) ?_
  refine lv_iadd hx hb dL_law_826 ?_
  obtain ⟨v1, e2, hf⟩ := Option.bind_eq_some_iff.mp hf
  refine r_sx X I hS e2 dL_law_827 ?_
  refine lv_aload_n hx hb dL_law_828 rfl (lv_at hl 0 rfl) ?_
  refine lv_iload hx hb dL_law_829 (lv_at hl 4 rfl) ?_
  refine lv_iconst (v := 2) hx hb dL_law_831 (by decide) ?_
  refine lv_iadd hx hb dL_law_832 ?_
  obtain ⟨v3, e4, hf⟩ := Option.bind_eq_some_iff.mp hf
  refine r_sx X I hS e4 dL_law_833 ?_
  refine lv_aload_n hx hb dL_law_834 rfl (lv_at hl 0 rfl) ?_
  refine lv_iload hx hb dL_law_835 (lv_at hl 4 rfl) ?_
  refine lv_iconst (v := 3) hx hb dL_law_837 (by decide) ?_
  refine lv_iadd hx hb dL_law_838 ?_
  obtain ⟨v5, e6, hf⟩ := Option.bind_eq_some_iff.mp hf
  refine r_sx X I hS e6 dL_law_839 ?_
  obtain ⟨_, g11, hf⟩ := Option.bind_eq_some_iff.mp hf
  obtain ⟨v7, h8, e9, z10, hf⟩ := cN_spec hf
  refine k_Vi (As := [.int v1, .int v3, .int v5]) (rest := []) X I (c_X11_step l g o1 v1 v3 v5 e9) z10 g11 vk_TrapCornerLaw_103 tw_832 ⟨Nat.le_trans (by decide) hR.1, Nat.le_trans (by decide) hR.2⟩ hle rfl hl.1 rfl (Nat.le_of_ble_eq_true rfl) dL_law_840 (fun H locs I => ?_)
  refine lv_aload_n hx hb dL_law_843 rfl (lv_at hl 2 rfl) ?_
  refine lv_aload_n hx hb dL_law_844 rfl (lv_at hl 0 rfl) ?_
  refine lv_iload hx hb dL_law_845 (lv_at hl 4 rfl) ?_
  refine lv_iconst (v := 1) hx hb dL_law_847 (by decide) ?_
  refine lv_iadd hx hb dL_law_848 ?_
  obtain ⟨v12, e13, hf⟩ := Option.bind_eq_some_iff.mp hf
  refine r_sx X I hS e13 dL_law_849 ?_
  refine lv_aload_n hx hb dL_law_850 rfl (lv_at hl 0 rfl) ?_
  refine lv_iload hx hb dL_law_851 (lv_at hl 4 rfl) ?_
  refine lv_iconst (v := 2) hx hb dL_law_853 (by decide) ?_
  refine lv_iadd hx hb dL_law_854 ?_
  obtain ⟨v14, e15, hf⟩ := Option.bind_eq_some_iff.mp hf
  refine r_sx X I hS e15 dL_law_855 ?_
  refine lv_aload_n hx hb dL_law_856 rfl (lv_at hl 0 rfl) ?_
  refine lv_iload hx hb dL_law_857 (lv_at hl 4 rfl) ?_
  refine lv_iconst (v := 3) hx hb dL_law_859 (by decide) ?_
  refine lv_iadd hx hb dL_law_860 ?_
  obtain ⟨v16, e17, hf⟩ := Option.bind_eq_some_iff.mp hf
  refine r_sx X I hS e17 dL_law_861 ?_
  obtain ⟨_, g22, hf⟩ := Option.bind_eq_some_iff.mp hf
  obtain ⟨v18, h19, e20, z21, hf⟩ := cN_spec hf
  refine k_Vi (As := [.int v12, .int v14, .int v16]) (rest := [.int v7]) X I (c_X12_step l g o2 v12 v14 v16 e20) z21 g22 vk_TrapCornerLaw_107 tw_1781 ⟨Nat.le_trans (by decide) hR.1, Nat.le_trans (by decide) hR.2⟩ hle rfl hl.1 rfl (Nat.le_of_ble_eq_true rfl) dL_law_862 (fun H locs I => ?_)
  refine lv_icmp_eq (tgt := 1641) hx hb dL_law_865 (by decide) (fun c23 => ?_) (fun c23 => ?_)
  · rw [if_pos c23] at hf
    exact w_L_law_1641 hl9 X hX hS hR hr hr1 hres hA hk23 o1 o2 o3 x4 h19 ls H locs _ _ hf I (lv_sub hl [0, 1, 2, 3, 4] rfl)
  · rw [if_neg c23] at hf
    refine lv_iconst (v := 0) hx hb dL_law_868 (by decide) ?_
    cases hf
    exact absurd (show (0 : Int32) = 1 from hr1) (by decide)
def f_L_law_870 (xs : Nat → Int32) (L : Nat) (k23 : Nat → Nat → Nat → Int32 → AH → Option (Int32 × AH)) (o1 : Nat) (o2 : Nat) (o3 : Nat) (x4 : Int32) (h : AH) : Option (Int32 × AH) :=
  ck h (
  (sx xs L (x4 + 1)).bind fun v1 =>
  (sx xs L (x4 + 2)).bind fun v3 =>
  (isC [11] h o1).bind fun _ =>
  cN (f_X11_run o1 v1 v3 h) h fun v5 h6 =>
  (sx xs L (x4 + 1)).bind fun v10 =>
  (sx xs L (x4 + 2)).bind fun v12 =>
  (isC [12] h6 o2).bind fun _ =>
  cN (f_X12_run o2 v10 v12 h6) h6 fun v14 h15 =>
  if v5 = v14 then
    f_L_law_1641 xs L k23 o1 o2 o3 x4 h15
  else
    some (0, h15))
set_option maxHeartbeats 1000000 in
theorem w_L_law_870 (hl9 : l.stackTraces = false) (X : Cx g p s m #[Value.ref b] meth c cL_law 7 "TrapCornerLaw") (hX : SX g s s.heap) (hS : va_X b L xs s s.heap ∧ b < s.heap.size ∧ ¬ AG g b) (hR : 100 ≤ room_1.frames ∧ 7000 ≤ room_1.locals) (hr : meth.sig.returnType = ret) {res : Int32 × AH} (hr1 : res.1 = 1) (hres : res.2.1 ≤ 601024 ∧ res.2.2.1 ≤ 7293033) (hA : room_1.cells + 0 = 601024 ∧ room_1.slots + 0 = 7293033) {k23 : Nat → Nat → Nat → Int32 → AH → Option (Int32 × AH)} (hk23 : ∀ (o1 : Nat) (o2 : Nat) (o3 : Nat) (x4 : Int32) (h : AH) (ls : Array Slot) (H : Heap) (locs : List Loc) (cells slots : Nat), k23 o1 o2 o3 x4 h = some res → Iv g s 0 0 h H locs cells slots → lv_has ls 7 [(0, .ref b), (1, .ref (rfG g o1)), (2, .ref (rfG g o2)), (3, .ref (rfG g o3)), (4, .int x4)] → W p l e room_1 s m #[Value.ref b] below meth c H locs cells slots (lw_Z below #[Value.ref b] s) (F0 m 23 ls [])) : ∀ (o1 : Nat) (o2 : Nat) (o3 : Nat) (x4 : Int32) (h : AH) (ls : Array Slot) (H : Heap) (locs : List Loc) (cells slots : Nat), f_L_law_870 xs L k23 o1 o2 o3 x4 h = some res → Iv g s 0 0 h H locs cells slots → lv_has ls 7 [(0, .ref b), (1, .ref (rfG g o1)), (2, .ref (rfG g o2)), (3, .ref (rfG g o3)), (4, .int x4)] → W p l e room_1 s m #[Value.ref b] below meth c H locs cells slots (lw_Z below #[Value.ref b] s) (F0 m 870 ls []) := by
  have hx := X.1
  have hb := X.2.1
  intro o1 o2 o3 x4 h ls H locs cells slots hf I hl
  unfold f_L_law_870 at hf
  obtain ⟨hbd, hf⟩ := ck_spec hf
  have hbd := lt2 hbd hres
  have hle := I.le hA hbd
  refine lv_aload_n hx hb dL_law_870 rfl (lv_at hl 1 rfl) ?_
  refine lv_aload_n hx hb dL_law_871 rfl (lv_at hl 0 rfl) ?_
  refine lv_iload hx hb dL_law_872 (lv_at hl 4 rfl) ?_
  refine lv_iconst (v := 1) hx hb dL_law_874 (by decide) ?_
  refine lv_iadd hx hb dL_law_875 ?_
  obtain ⟨v1, e2, hf⟩ := Option.bind_eq_some_iff.mp hf
  refine r_sx X I hS e2 dL_law_876 ?_
  refine lv_aload_n hx hb dL_law_877 rfl (lv_at hl 0 rfl) ?_
  refine lv_iload hx hb dL_law_878 (lv_at hl 4 rfl) ?_
  refine lv_iconst (v := 2) hx hb dL_law_880 (by decide) ?_
  refine lv_iadd hx hb dL_law_881 ?_
  obtain ⟨v3, e4, hf⟩ := Option.bind_eq_some_iff.mp hf
  refine r_sx X I hS e4 dL_law_882 ?_
  obtain ⟨_, g9, hf⟩ := Option.bind_eq_some_iff.mp hf
  obtain ⟨v5, h6, e7, z8, hf⟩ := cN_spec hf
  refine k_Vi (As := [.int v1, .int v3]) (rest := []) X I (c_X11_run l g o1 v1 v3 e7) z8 g9 vk_TrapCornerLaw_108 tw_1027 ⟨Nat.le_trans (by decide) hR.1, Nat.le_trans (by decide) hR.2⟩ hle rfl hl.1 rfl (Nat.le_of_ble_eq_true rfl) dL_law_883 (fun H locs I => ?_)
  refine lv_aload_n hx hb dL_law_886 rfl (lv_at hl 2 rfl) ?_
  refine lv_aload_n hx hb dL_law_887 rfl (lv_at hl 0 rfl) ?_
  refine lv_iload hx hb dL_law_888 (lv_at hl 4 rfl) ?_
  refine lv_iconst (v := 1) hx hb dL_law_890 (by decide) ?_
  refine lv_iadd hx hb dL_law_891 ?_
  obtain ⟨v10, e11, hf⟩ := Option.bind_eq_some_iff.mp hf
  refine r_sx X I hS e11 dL_law_892 ?_
  refine lv_aload_n hx hb dL_law_893 rfl (lv_at hl 0 rfl) ?_
  refine lv_iload hx hb dL_law_894 (lv_at hl 4 rfl) ?_
  refine lv_iconst (v := 2) hx hb dL_law_896 (by decide) ?_
  refine lv_iadd hx hb dL_law_897 ?_
  obtain ⟨v12, e13, hf⟩ := Option.bind_eq_some_iff.mp hf
  refine r_sx X I hS e13 dL_law_898 ?_
  obtain ⟨_, g18, hf⟩ := Option.bind_eq_some_iff.mp hf
  obtain ⟨v14, h15, e16, z17, hf⟩ := cN_spec hf
  refine k_Vi (As := [.int v10, .int v12]) (rest := [.int v5]) X I (c_X12_run l g o2 v10 v12 e16) z17 g18 vk_TrapCornerLaw_111 tw_1790 ⟨Nat.le_trans (by decide) hR.1, Nat.le_trans (by decide) hR.2⟩ hle rfl hl.1 rfl (Nat.le_of_ble_eq_true rfl) dL_law_899 (fun H locs I => ?_)
  refine lv_icmp_eq (tgt := 1641) hx hb dL_law_902 (by decide) (fun c19 => ?_) (fun c19 => ?_)
  · rw [if_pos c19] at hf
    exact w_L_law_1641 hl9 X hX hS hR hr hr1 hres hA hk23 o1 o2 o3 x4 h15 ls H locs _ _ hf I (lv_sub hl [0, 1, 2, 3, 4] rfl)
  · rw [if_neg c19] at hf
    refine lv_iconst (v := 0) hx hb dL_law_905 (by decide) ?_
    cases hf
    exact absurd (show (0 : Int32) = 1 from hr1) (by decide)
end
