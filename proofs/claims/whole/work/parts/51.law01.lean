theorem vk_TrapCornerLaw_112 : VK "TrapCornerLaw" 112 [11] yX11_perform 1 := ⟨tw_1003, tw_1004, tw_1, ⟨by decide, by decide⟩, by decide +kernel, fun ci hci => by
  have hci := List.mem_singleton.mp hci
  subst hci
  exact ⟨_, rfl, tw_1005⟩⟩
theorem vk_TrapCornerLaw_115 : VK "TrapCornerLaw" 115 [12] yX12_perform 1 := ⟨tw_1802, tw_1803, tw_13, ⟨by decide, by decide⟩, by decide +kernel, fun ci hci => by
  have hci := List.mem_singleton.mp hci
  subst hci
  exact ⟨_, rfl, tw_1804⟩⟩
theorem vk_TrapCornerLaw_116 : VK "TrapCornerLaw" 116 [11] yX11_pulled 2 := ⟨tw_1029, tw_1030, tw_1, ⟨by decide, by decide⟩, by decide +kernel, fun ci hci => by
  have hci := List.mem_singleton.mp hci
  subst hci
  exact ⟨_, rfl, tw_1031⟩⟩
theorem vk_TrapCornerLaw_119 : VK "TrapCornerLaw" 119 [12] yX12_pulled 2 := ⟨tw_1806, tw_1807, tw_13, ⟨by decide, by decide⟩, by decide +kernel, fun ci hci => by
  have hci := List.mem_singleton.mp hci
  subst hci
  exact ⟨_, rfl, tw_1808⟩⟩
theorem vk_TrapCornerLaw_120 : VK "TrapCornerLaw" 120 [11] yX11_caught 1 := ⟨tw_1038, tw_1039, tw_1, ⟨by decide, by decide⟩, by decide +kernel, fun ci hci => by
  have hci := List.mem_singleton.mp hci
  subst hci
  exact ⟨_, rfl, tw_1040⟩⟩
theorem vk_TrapCornerLaw_123 : VK "TrapCornerLaw" 123 [12] yX12_caught 1 := ⟨tw_1810, tw_1811, tw_13, ⟨by decide, by decide⟩, by decide +kernel, fun ci hci => by
  have hci := List.mem_singleton.mp hci
  subst hci
  exact ⟨_, rfl, tw_1812⟩⟩
theorem vk_TrapCornerLaw_124 : VK "TrapCornerLaw" 124 [11] yX11_baits 2 := ⟨tw_1042, tw_1043, tw_1, ⟨by decide, by decide⟩, by decide +kernel, fun ci hci => by
  have hci := List.mem_singleton.mp hci
  subst hci
  exact ⟨_, rfl, tw_1044⟩⟩
theorem vk_TrapCornerLaw_127 : VK "TrapCornerLaw" 127 [12] yX12_baits 2 := ⟨tw_1818, tw_1819, tw_13, ⟨by decide, by decide⟩, by decide +kernel, fun ci hci => by
  have hci := List.mem_singleton.mp hci
  subst hci
  exact ⟨_, rfl, tw_1820⟩⟩
theorem vk_TrapCornerLaw_132 : VK "TrapCornerLaw" 132 [12] yX12_seen 4 := ⟨tw_1822, tw_1823, tw_13, ⟨by decide, by decide⟩, by decide +kernel, fun ci hci => by
  have hci := List.mem_singleton.mp hci
  subst hci
  exact ⟨_, rfl, tw_1824⟩⟩
theorem vk_TrapCornerLaw_128 : VK "TrapCornerLaw" 128 [11] yX11_seen 4 := ⟨tw_1055, tw_1056, tw_1, ⟨by decide, by decide⟩, by decide +kernel, fun ci hci => by
  have hci := List.mem_singleton.mp hci
  subst hci
  exact ⟨_, rfl, tw_1057⟩⟩
theorem vk_TrapCornerLaw_133 : VK "TrapCornerLaw" 133 [11] yX11_moves 2 := ⟨tw_1066, tw_1067, tw_1, ⟨by decide, by decide⟩, by decide +kernel, fun ci hci => by
  have hci := List.mem_singleton.mp hci
  subst hci
  exact ⟨_, rfl, tw_1068⟩⟩
theorem vk_TrapCornerLaw_136 : VK "TrapCornerLaw" 136 [12] yX12_moves 2 := ⟨tw_1826, tw_1827, tw_13, ⟨by decide, by decide⟩, by decide +kernel, fun ci hci => by
  have hci := List.mem_singleton.mp hci
  subst hci
  exact ⟨_, rfl, tw_1828⟩⟩
theorem vk_TrapCornerLaw_137 : VK "TrapCornerLaw" 137 [11] yX11_ask 2 := ⟨tw_1083, tw_1084, tw_1, ⟨by decide, by decide⟩, by decide +kernel, fun ci hci => by
  have hci := List.mem_singleton.mp hci
  subst hci
  exact ⟨_, rfl, tw_1085⟩⟩
theorem vk_TrapCornerLaw_140 : VK "TrapCornerLaw" 140 [12] yX12_ask 2 := ⟨tw_1838, tw_1839, tw_13, ⟨by decide, by decide⟩, by decide +kernel, fun ci hci => by
  have hci := List.mem_singleton.mp hci
  subst hci
  exact ⟨_, rfl, tw_1840⟩⟩
theorem vk_TrapCornerLaw_141 : VK "TrapCornerLaw" 141 [11] yX11_safe 1 := ⟨tw_1095, tw_1096, tw_1, ⟨by decide, by decide⟩, by decide +kernel, fun ci hci => by
  have hci := List.mem_singleton.mp hci
  subst hci
  exact ⟨_, rfl, tw_1097⟩⟩
theorem vk_TrapCornerLaw_144 : VK "TrapCornerLaw" 144 [12] yX12_safe 1 := ⟨tw_1843, tw_1844, tw_13, ⟨by decide, by decide⟩, by decide +kernel, fun ci hci => by
  have hci := List.mem_singleton.mp hci
  subst hci
  exact ⟨_, rfl, tw_1845⟩⟩
theorem vk_TrapCornerLaw_145 : VK "TrapCornerLaw" 145 [11] yX11_passes 1 := ⟨tw_1104, tw_1105, tw_1, ⟨by decide, by decide⟩, by decide +kernel, fun ci hci => by
  have hci := List.mem_singleton.mp hci
  subst hci
  exact ⟨_, rfl, tw_1106⟩⟩
theorem vk_TrapCornerLaw_148 : VK "TrapCornerLaw" 148 [12] yX12_passes 1 := ⟨tw_1851, tw_1852, tw_13, ⟨by decide, by decide⟩, by decide +kernel, fun ci hci => by
  have hci := List.mem_singleton.mp hci
  subst hci
  exact ⟨_, rfl, tw_1853⟩⟩
theorem vk_TrapCornerLaw_149 : VK "TrapCornerLaw" 149 [11] yX11_walk 1 := ⟨tw_1118, tw_1119, tw_1, ⟨by decide, by decide⟩, by decide +kernel, fun ci hci => by
  have hci := List.mem_singleton.mp hci
  subst hci
  exact ⟨_, rfl, tw_1120⟩⟩
theorem vk_TrapCornerLaw_152 : VK "TrapCornerLaw" 152 [12] yX12_walk 1 := ⟨tw_1863, tw_1864, tw_13, ⟨by decide, by decide⟩, by decide +kernel, fun ci hci => by
  have hci := List.mem_singleton.mp hci
  subst hci
  exact ⟨_, rfl, tw_1865⟩⟩
theorem vk_TrapCornerLaw_153 : VK "TrapCornerLaw" 153 [11] yX11_game 5 := ⟨tw_1122, tw_1123, tw_1, ⟨by decide, by decide⟩, by decide +kernel, fun ci hci => by
  have hci := List.mem_singleton.mp hci
  subst hci
  exact ⟨_, rfl, tw_1124⟩⟩
theorem vk_TrapCornerLaw_156 : VK "TrapCornerLaw" 156 [12] yX12_game 5 := ⟨tw_1867, tw_1868, tw_13, ⟨by decide, by decide⟩, by decide +kernel, fun ci hci => by
  have hci := List.mem_singleton.mp hci
  subst hci
  exact ⟨_, rfl, tw_1869⟩⟩
theorem vk_TrapCornerLaw_157 : VK "TrapCornerLaw" 157 [11] yX11_rests 3 := ⟨tw_1138, tw_1139, tw_1, ⟨by decide, by decide⟩, by decide +kernel, fun ci hci => by
  have hci := List.mem_singleton.mp hci
  subst hci
  exact ⟨_, rfl, tw_1140⟩⟩
theorem vk_TrapCornerLaw_160 : VK "TrapCornerLaw" 160 [12] yX12_rests 3 := ⟨tw_1875, tw_1876, tw_13, ⟨by decide, by decide⟩, by decide +kernel, fun ci hci => by
  have hci := List.mem_singleton.mp hci
  subst hci
  exact ⟨_, rfl, tw_1877⟩⟩
theorem vk_TrapCornerLaw_161 : VK "TrapCornerLaw" 161 [11] yX11_odds 2 := ⟨tw_1146, tw_1147, tw_1, ⟨by decide, by decide⟩, by decide +kernel, fun ci hci => by
  have hci := List.mem_singleton.mp hci
  subst hci
  exact ⟨_, rfl, tw_1148⟩⟩
theorem vk_TrapCornerLaw_164 : VK "TrapCornerLaw" 164 [12] yX12_odds 2 := ⟨tw_1879, tw_1880, tw_13, ⟨by decide, by decide⟩, by decide +kernel, fun ci hci => by
  have hci := List.mem_singleton.mp hci
  subst hci
  exact ⟨_, rfl, tw_1881⟩⟩
theorem vk_TrapCornerLaw_165 : VK "TrapCornerLaw" 165 [11] yX11_lasts 1 := ⟨tw_1155, tw_1156, tw_1, ⟨by decide, by decide⟩, by decide +kernel, fun ci hci => by
  have hci := List.mem_singleton.mp hci
  subst hci
  exact ⟨_, rfl, tw_1157⟩⟩
theorem vk_TrapCornerLaw_168 : VK "TrapCornerLaw" 168 [12] yX12_lasts 1 := ⟨tw_1884, tw_1885, tw_13, ⟨by decide, by decide⟩, by decide +kernel, fun ci hci => by
  have hci := List.mem_singleton.mp hci
  subst hci
  exact ⟨_, rfl, tw_1886⟩⟩
theorem vk_TrapCornerLaw_169 : VK "TrapCornerLaw" 169 [11] yX11_yearly 1 := ⟨tw_1159, tw_1160, tw_1, ⟨by decide, by decide⟩, by decide +kernel, fun ci hci => by
  have hci := List.mem_singleton.mp hci
  subst hci
  exact ⟨_, rfl, tw_1161⟩⟩
theorem vk_TrapCornerLaw_172 : VK "TrapCornerLaw" 172 [12] yX12_yearly 1 := ⟨tw_1888, tw_1889, tw_13, ⟨by decide, by decide⟩, by decide +kernel, fun ci hci => by
  have hci := List.mem_singleton.mp hci
  subst hci
  exact ⟨_, rfl, tw_1890⟩⟩
theorem vk_TrapCornerLaw_173 : VK "TrapCornerLaw" 173 [11] yX11_all 1 := ⟨tw_1163, tw_1164, tw_1, ⟨by decide, by decide⟩, by decide +kernel, fun ci hci => by
  have hci := List.mem_singleton.mp hci
  subst hci
  exact ⟨_, rfl, tw_1165⟩⟩
theorem vk_TrapCornerLaw_176 : VK "TrapCornerLaw" 176 [12] yX12_all 1 := ⟨tw_1892, tw_1893, tw_13, ⟨by decide, by decide⟩, by decide +kernel, fun ci hci => by
  have hci := List.mem_singleton.mp hci
  subst hci
  exact ⟨_, rfl, tw_1894⟩⟩
theorem vk_TrapCornerLaw_177 : VK "TrapCornerLaw" 177 [11] yX11_kinds 1 := ⟨tw_1194, tw_1195, tw_1, ⟨by decide, by decide⟩, by decide +kernel, fun ci hci => by
  have hci := List.mem_singleton.mp hci
  subst hci
  exact ⟨_, rfl, tw_1196⟩⟩
theorem vk_TrapCornerLaw_180 : VK "TrapCornerLaw" 180 [12] yX12_kinds 1 := ⟨tw_1912, tw_1913, tw_13, ⟨by decide, by decide⟩, by decide +kernel, fun ci hci => by
  have hci := List.mem_singleton.mp hci
  subst hci
  exact ⟨_, rfl, tw_1914⟩⟩
theorem vk_TrapCornerLaw_181 : VK "TrapCornerLaw" 181 [11] yX11_needs 2 := ⟨tw_1198, tw_1199, tw_1, ⟨by decide, by decide⟩, by decide +kernel, fun ci hci => by
  have hci := List.mem_singleton.mp hci
  subst hci
  exact ⟨_, rfl, tw_1200⟩⟩
theorem vk_TrapCornerLaw_184 : VK "TrapCornerLaw" 184 [12] yX12_needs 2 := ⟨tw_1916, tw_1917, tw_13, ⟨by decide, by decide⟩, by decide +kernel, fun ci hci => by
  have hci := List.mem_singleton.mp hci
  subst hci
  exact ⟨_, rfl, tw_1918⟩⟩
theorem vk_TrapCornerLaw_185 : VK "TrapCornerLaw" 185 [11] yX11_shares 2 := ⟨tw_1202, tw_1203, tw_1, ⟨by decide, by decide⟩, by decide +kernel, fun ci hci => by
  have hci := List.mem_singleton.mp hci
  subst hci
  exact ⟨_, rfl, tw_1204⟩⟩
theorem vk_TrapCornerLaw_188 : VK "TrapCornerLaw" 188 [12] yX12_shares 2 := ⟨tw_1920, tw_1921, tw_13, ⟨by decide, by decide⟩, by decide +kernel, fun ci hci => by
  have hci := List.mem_singleton.mp hci
  subst hci
  exact ⟨_, rfl, tw_1922⟩⟩
section
variable {g : GG} {p : Program} {l : Launch} {e : Env} {s : State} {m : MethodId} {below : List Frame} {meth : Method} {c : Code} {b L : Nat} {xs : Nat → Int32}
def f_L_law_907 (xs : Nat → Int32) (L : Nat) (k23 : Nat → Nat → Nat → Int32 → AH → Option (Int32 × AH)) (o1 : Nat) (o2 : Nat) (o3 : Nat) (x4 : Int32) (h : AH) : Option (Int32 × AH) :=
  ck h (
  (sx xs L (x4 + 1)).bind fun v1 =>
  (isC [11] h o1).bind fun _ =>
  cA (f_X11_perform o1 v1 h) h fun v3 h4 =>
  (sx xs L (x4 + 1)).bind fun v9 =>
  (isC [12] h4 o2).bind fun _ =>
  cN (f_X12_perform o2 v9 h4) h4 fun v11 h12 =>
  if v3 = v11 then
    f_L_law_1641 xs L k23 o1 o2 o3 x4 h12
  else
    some (0, h12))
set_option maxHeartbeats 1000000 in
theorem w_L_law_907 (hl9 : l.stackTraces = false) (X : Cx g p s m #[Value.ref b] meth c cL_law 7 "TrapCornerLaw") (hX : SX g s s.heap) (hS : va_X b L xs s s.heap ∧ b < s.heap.size ∧ ¬ AG g b) (hR : 100 ≤ room_1.frames ∧ 7000 ≤ room_1.locals) (hr : meth.sig.returnType = ret) {res : Int32 × AH} (hr1 : res.1 = 1) (hres : res.2.1 ≤ 601024 ∧ res.2.2.1 ≤ 7293033) (hA : room_1.cells + 0 = 601024 ∧ room_1.slots + 0 = 7293033) {k23 : Nat → Nat → Nat → Int32 → AH → Option (Int32 × AH)} (hk23 : ∀ (o1 : Nat) (o2 : Nat) (o3 : Nat) (x4 : Int32) (h : AH) (ls : Array Slot) (H : Heap) (locs : List Loc) (cells slots : Nat), k23 o1 o2 o3 x4 h = some res → Iv g s 0 0 h H locs cells slots → lv_has ls 7 [(0, .ref b), (1, .ref (rfG g o1)), (2, .ref (rfG g o2)), (3, .ref (rfG g o3)), (4, .int x4)] → W p l e room_1 s m #[Value.ref b] below meth c H locs cells slots (lw_Z below #[Value.ref b] s) (F0 m 23 ls [])) : ∀ (o1 : Nat) (o2 : Nat) (o3 : Nat) (x4 : Int32) (h : AH) (ls : Array Slot) (H : Heap) (locs : List Loc) (cells slots : Nat), f_L_law_907 xs L k23 o1 o2 o3 x4 h = some res → Iv g s 0 0 h H locs cells slots → lv_has ls 7 [(0, .ref b), (1, .ref (rfG g o1)), (2, .ref (rfG g o2)), (3, .ref (rfG g o3)), (4, .int x4)] → W p l e room_1 s m #[Value.ref b] below meth c H locs cells slots (lw_Z below #[Value.ref b] s) (F0 m 907 ls []) := by
  have hx := X.1
  have hb := X.2.1
  intro o1 o2 o3 x4 h ls H locs cells slots hf I hl
  unfold f_L_law_907 at hf
  obtain ⟨hbd, hf⟩ := ck_spec hf
  have hbd := lt2 hbd hres
  have hle := I.le hA hbd
  refine lv_aload_n hx hb dL_law_907 rfl (lv_at hl 1 rfl) ?_
  refine lv_aload_n hx hb dL_law_908 rfl (lv_at hl 0 rfl) ?_
  refine lv_iload hx hb dL_law_909 (lv_at hl 4 rfl) ?_
  refine lv_iconst (v := 1) hx hb dL_law_911 (by decide) ?_
  refine lv_iadd hx hb dL_law_912 ?_
  obtain ⟨v1, e2, hf⟩ := Option.bind_eq_some_iff.mp hf
  refine r_sx X I hS e2 dL_law_913 ?_
  obtain ⟨_, g7, hf⟩ := Option.bind_eq_some_iff.mp hf
  obtain ⟨v3, h4, e5, z6, b8, hf⟩ := cA_spec hf
  have b8 := lt2 b8 hres
  refine k_VAi (As := [.int v1]) (rest := []) X I (c_X11_perform l g o1 v1 e5) z6 hA b8 g7 vk_TrapCornerLaw_112 tw_1006 ⟨Nat.le_trans (by decide) hR.1, Nat.le_trans (by decide) hR.2⟩ rfl hl.1 rfl (Nat.le_of_ble_eq_true rfl) dL_law_914 (fun H locs I => ?_)
  have hle := I.le hA b8
  refine lv_aload_n hx hb dL_law_917 rfl (lv_at hl 2 rfl) ?_
  refine lv_aload_n hx hb dL_law_918 rfl (lv_at hl 0 rfl) ?_
  refine lv_iload hx hb dL_law_919 (lv_at hl 4 rfl) ?_
  refine lv_iconst (v := 1) hx hb dL_law_921 (by decide) ?_
  refine lv_iadd hx hb dL_law_922 ?_
  obtain ⟨v9, e10, hf⟩ := Option.bind_eq_some_iff.mp hf
  refine r_sx X I hS e10 dL_law_923 ?_
  obtain ⟨_, g15, hf⟩ := Option.bind_eq_some_iff.mp hf
  obtain ⟨v11, h12, e13, z14, hf⟩ := cN_spec hf
  refine k_Vi (As := [.int v9]) (rest := [.int v3]) X I (c_X12_perform l g o2 v9 e13) z14 g15 vk_TrapCornerLaw_115 tw_1805 ⟨Nat.le_trans (by decide) hR.1, Nat.le_trans (by decide) hR.2⟩ hle rfl hl.1 rfl (Nat.le_of_ble_eq_true rfl) dL_law_924 (fun H locs I => ?_)
  refine lv_icmp_eq (tgt := 1641) hx hb dL_law_927 (by decide) (fun c16 => ?_) (fun c16 => ?_)
  · rw [if_pos c16] at hf
    exact w_L_law_1641 hl9 X hX hS hR hr hr1 hres hA hk23 o1 o2 o3 x4 h12 ls H locs _ _ hf I (lv_sub hl [0, 1, 2, 3, 4] rfl)
  · rw [if_neg c16] at hf
    refine lv_iconst (v := 0) hx hb dL_law_930 (by decide) ?_
    cases hf
    exact absurd (show (0 : Int32) = 1 from hr1) (by decide)
def f_L_law_932 (xs : Nat → Int32) (L : Nat) (k23 : Nat → Nat → Nat → Int32 → AH → Option (Int32 × AH)) (o1 : Nat) (o2 : Nat) (o3 : Nat) (x4 : Int32) (h : AH) : Option (Int32 × AH) :=
  ck h (
  (sx xs L (x4 + 1)).bind fun v1 =>
  (sx xs L (x4 + 2)).bind fun v3 =>
  (isC [11] h o1).bind fun _ =>
  cN (f_X11_pulled o1 v1 v3 h) h fun v5 h6 =>
  (sx xs L (x4 + 1)).bind fun v10 =>
  (sx xs L (x4 + 2)).bind fun v12 =>
  (isC [12] h6 o2).bind fun _ =>
  cN (f_X12_pulled o2 v10 v12 h6) h6 fun v14 h15 =>
  if v5 = v14 then
    f_L_law_1641 xs L k23 o1 o2 o3 x4 h15
  else
    some (0, h15))
set_option maxHeartbeats 1000000 in
theorem w_L_law_932 (hl9 : l.stackTraces = false) (X : Cx g p s m #[Value.ref b] meth c cL_law 7 "TrapCornerLaw") (hX : SX g s s.heap) (hS : va_X b L xs s s.heap ∧ b < s.heap.size ∧ ¬ AG g b) (hR : 100 ≤ room_1.frames ∧ 7000 ≤ room_1.locals) (hr : meth.sig.returnType = ret) {res : Int32 × AH} (hr1 : res.1 = 1) (hres : res.2.1 ≤ 601024 ∧ res.2.2.1 ≤ 7293033) (hA : room_1.cells + 0 = 601024 ∧ room_1.slots + 0 = 7293033) {k23 : Nat → Nat → Nat → Int32 → AH → Option (Int32 × AH)} (hk23 : ∀ (o1 : Nat) (o2 : Nat) (o3 : Nat) (x4 : Int32) (h : AH) (ls : Array Slot) (H : Heap) (locs : List Loc) (cells slots : Nat), k23 o1 o2 o3 x4 h = some res → Iv g s 0 0 h H locs cells slots → lv_has ls 7 [(0, .ref b), (1, .ref (rfG g o1)), (2, .ref (rfG g o2)), (3, .ref (rfG g o3)), (4, .int x4)] → W p l e room_1 s m #[Value.ref b] below meth c H locs cells slots (lw_Z below #[Value.ref b] s) (F0 m 23 ls [])) : ∀ (o1 : Nat) (o2 : Nat) (o3 : Nat) (x4 : Int32) (h : AH) (ls : Array Slot) (H : Heap) (locs : List Loc) (cells slots : Nat), f_L_law_932 xs L k23 o1 o2 o3 x4 h = some res → Iv g s 0 0 h H locs cells slots → lv_has ls 7 [(0, .ref b), (1, .ref (rfG g o1)), (2, .ref (rfG g o2)), (3, .ref (rfG g o3)), (4, .int x4)] → W p l e room_1 s m #[Value.ref b] below meth c H locs cells slots (lw_Z below #[Value.ref b] s) (F0 m 932 ls []) := by
  have hx := X.1
  have hb := X.2.1
  intro o1 o2 o3 x4 h ls H locs cells slots hf I hl
  unfold f_L_law_932 at hf
  obtain ⟨hbd, hf⟩ := ck_spec hf
  have hbd := lt2 hbd hres
  have hle := I.le hA hbd
  refine lv_aload_n hx hb dL_law_932 rfl (lv_at hl 1 rfl) ?_
  refine lv_aload_n hx hb dL_law_933 rfl (lv_at hl 0 rfl) ?_
  refine lv_iload hx hb dL_law_934 (lv_at hl 4 rfl) ?_
  refine lv_iconst (v := 1) hx hb dL_law_936 (by decide) ?_
  refine lv_iadd hx hb dL_law_937 ?_
  obtain ⟨v1, e2, hf⟩ := Option.bind_eq_some_iff.mp hf
  refine r_sx X I hS e2 dL_law_938 ?_
  refine lv_aload_n hx hb dL_law_939 rfl (lv_at hl 0 rfl) ?_
  refine lv_iload hx hb dL_law_940 (lv_at hl 4 rfl) ?_
  refine lv_iconst (v := 2) hx hb dL_law_942 (by decide) ?_
  refine lv_iadd hx hb dL_law_943 ?_
  obtain ⟨v3, e4, hf⟩ := Option.bind_eq_some_iff.mp hf
  refine r_sx X I hS e4 dL_law_944 ?_
  obtain ⟨_, g9, hf⟩ := Option.bind_eq_some_iff.mp hf
  obtain ⟨v5, h6, e7, z8, hf⟩ := cN_spec hf
  refine k_Vi (As := [.int v1, .int v3]) (rest := []) X I (c_X11_pulled l g o1 v1 v3 e7) z8 g9 vk_TrapCornerLaw_116 tw_1032 ⟨Nat.le_trans (by decide) hR.1, Nat.le_trans (by decide) hR.2⟩ hle rfl hl.1 rfl (Nat.le_of_ble_eq_true rfl) dL_law_945 (fun H locs I => ?_)
  refine lv_aload_n hx hb dL_law_948 rfl (lv_at hl 2 rfl) ?_
  refine lv_aload_n hx hb dL_law_949 rfl (lv_at hl 0 rfl) ?_
  refine lv_iload hx hb dL_law_950 (lv_at hl 4 rfl) ?_
  refine lv_iconst (v := 1) hx hb dL_law_952 (by decide) ?_
  refine lv_iadd hx hb dL_law_953 ?_
  obtain ⟨v10, e11, hf⟩ := Option.bind_eq_some_iff.mp hf
  refine r_sx X I hS e11 dL_law_954 ?_
  refine lv_aload_n hx hb dL_law_955 rfl (lv_at hl 0 rfl) ?_
  refine lv_iload hx hb dL_law_956 (lv_at hl 4 rfl) ?_
  refine lv_iconst (v := 2) hx hb dL_law_958 (by decide) ?_
  refine lv_iadd hx hb dL_law_959 ?_
  obtain ⟨v12, e13, hf⟩ := Option.bind_eq_some_iff.mp hf
  refine r_sx X I hS e13 dL_law_960 ?_
  obtain ⟨_, g18, hf⟩ := Option.bind_eq_some_iff.mp hf
  obtain ⟨v14, h15, e16, z17, hf⟩ := cN_spec hf
  refine k_Vi (As := [.int v10, .int v12]) (rest := [.int v5]) X I (c_X12_pulled l g o2 v10 v12 e16) z17 g18 vk_TrapCornerLaw_119 tw_1809 ⟨Nat.le_trans (by decide) hR.1, Nat.le_trans (by decide) hR.2⟩ hle rfl hl.1 rfl (Nat.le_of_ble_eq_true rfl) dL_law_961 (fun H locs I => ?_)
  refine lv_icmp_eq (tgt := 1641) hx hb dL_law_964 (by decide) (fun c19 => ?_) (fun c19 => ?_)
  · rw [if_pos c19] at hf
    exact w_L_law_1641 hl9 X hX hS hR hr hr1 hres hA hk23 o1 o2 o3 x4 h15 ls H locs _ _ hf I (lv_sub hl [0, 1, 2, 3, 4] rfl)
  · rw [if_neg c19] at hf
    refine lv_iconst (v := 0) hx hb dL_law_967 (by decide) ?_
    cases hf
    exact absurd (show (0 : Int32) = 1 from hr1) (by decide)
def f_L_law_969 (xs : Nat → Int32) (L : Nat) (k23 : Nat → Nat → Nat → Int32 → AH → Option (Int32 × AH)) (o1 : Nat) (o2 : Nat) (o3 : Nat) (x4 : Int32) (h : AH) : Option (Int32 × AH) :=
  ck h (
  (sx xs L (x4 + 1)).bind fun v1 =>
  (isC [11] h o1).bind fun _ =>
  cN (f_X11_caught o1 v1 h) h fun v3 h4 =>
  (sx xs L (x4 + 1)).bind fun v8 =>
  (isC [12] h4 o2).bind fun _ =>
  cN (f_X12_caught o2 v8 h4) h4 fun v10 h11 =>
  if v3 = v10 then
    f_L_law_1641 xs L k23 o1 o2 o3 x4 h11
  else
    some (0, h11))
set_option maxHeartbeats 1000000 in
theorem w_L_law_969 (hl9 : l.stackTraces = false) (X : Cx g p s m #[Value.ref b] meth c cL_law 7 "TrapCornerLaw") (hX : SX g s s.heap) (hS : va_X b L xs s s.heap ∧ b < s.heap.size ∧ ¬ AG g b) (hR : 100 ≤ room_1.frames ∧ 7000 ≤ room_1.locals) (hr : meth.sig.returnType = ret) {res : Int32 × AH} (hr1 : res.1 = 1) (hres : res.2.1 ≤ 601024 ∧ res.2.2.1 ≤ 7293033) (hA : room_1.cells + 0 = 601024 ∧ room_1.slots + 0 = 7293033) {k23 : Nat → Nat → Nat → Int32 → AH → Option (Int32 × AH)} (hk23 : ∀ (o1 : Nat) (o2 : Nat) (o3 : Nat) (x4 : Int32) (h : AH) (ls : Array Slot) (H : Heap) (locs : List Loc) (cells slots : Nat), k23 o1 o2 o3 x4 h = some res → Iv g s 0 0 h H locs cells slots → lv_has ls 7 [(0, .ref b), (1, .ref (rfG g o1)), (2, .ref (rfG g o2)), (3, .ref (rfG g o3)), (4, .int x4)] → W p l e room_1 s m #[Value.ref b] below meth c H locs cells slots (lw_Z below #[Value.ref b] s) (F0 m 23 ls [])) : ∀ (o1 : Nat) (o2 : Nat) (o3 : Nat) (x4 : Int32) (h : AH) (ls : Array Slot) (H : Heap) (locs : List Loc) (cells slots : Nat), f_L_law_969 xs L k23 o1 o2 o3 x4 h = some res → Iv g s 0 0 h H locs cells slots → lv_has ls 7 [(0, .ref b), (1, .ref (rfG g o1)), (2, .ref (rfG g o2)), (3, .ref (rfG g o3)), (4, .int x4)] → W p l e room_1 s m #[Value.ref b] below meth c H locs cells slots (lw_Z below #[Value.ref b] s) (F0 m 969 ls []) := by
  have hx := X.1
  have hb := X.2.1
  intro o1 o2 o3 x4 h ls H locs cells slots hf I hl
  unfold f_L_law_969 at hf
  obtain ⟨hbd, hf⟩ := ck_spec hf
  have hbd := lt2 hbd hres
  have hle := I.le hA hbd
  refine lv_aload_n hx hb dL_law_969 rfl (lv_at hl 1 rfl) ?_
  refine lv_aload_n hx hb dL_law_970 rfl (lv_at hl 0 rfl) ?_
  refine lv_iload hx hb dL_law_971 (lv_at hl 4 rfl) ?_
  refine lv_iconst (v := 1) hx hb dL_law_973 (by decide) ?_
  refine lv_iadd hx hb dL_law_974 ?_
  obtain ⟨v1, e2, hf⟩ := Option.bind_eq_some_iff.mp hf
  refine r_sx X I hS e2 dL_law_975 ?_
  obtain ⟨_, g7, hf⟩ := Option.bind_eq_some_iff.mp hf
  obtain ⟨v3, h4, e5, z6, hf⟩ := cN_spec hf
  refine k_Vi (As := [.int v1]) (rest := []) X I (c_X11_caught l g o1 v1 e5) z6 g7 vk_TrapCornerLaw_120 tw_1041 ⟨Nat.le_trans (by decide) hR.1, Nat.le_trans (by decide) hR.2⟩ hle rfl hl.1 rfl (Nat.le_of_ble_eq_true rfl) dL_law_976 (fun H locs I => ?_)
  refine lv_aload_n hx hb dL_law_979 rfl (lv_at hl 2 rfl) ?_
  refine lv_aload_n hx hb dL_law_980 rfl (lv_at hl 0 rfl) ?_
  refine lv_iload hx hb dL_law_981 (lv_at hl 4 rfl) ?_
  refine lv_iconst (v := 1) hx hb dL_law_983 (by decide) ?_
  refine lv_iadd hx hb dL_law_984 ?_
  obtain ⟨v8, e9, hf⟩ := Option.bind_eq_some_iff.mp hf
  refine r_sx X I hS e9 dL_law_985 ?_
  obtain ⟨_, g14, hf⟩ := Option.bind_eq_some_iff.mp hf
  obtain ⟨v10, h11, e12, z13, hf⟩ := cN_spec hf
  refine k_Vi (As := [.int v8]) (rest := [.int v3]) X I (c_X12_caught l g o2 v8 e12) z13 g14 vk_TrapCornerLaw_123 tw_1813 ⟨Nat.le_trans (by decide) hR.1, Nat.le_trans (by decide) hR.2⟩ hle rfl hl.1 rfl (Nat.le_of_ble_eq_true rfl) dL_law_986 (fun H locs I => ?_)
  refine lv_icmp_eq (tgt := 1641) hx hb dL_law_989 (by decide) (fun c15 => ?_) (fun c15 => ?_)
  · rw [if_pos c15] at hf
    exact w_L_law_1641 hl9 X hX hS hR hr hr1 hres hA hk23 o1 o2 o3 x4 h11 ls H locs _ _ hf I (lv_sub hl [0, 1, 2, 3, 4] rfl)
  · rw [if_neg c15] at hf
    refine lv_iconst (v := 0) hx hb dL_law_992 (by decide) ?_
    cases hf
    exact absurd (show (0 : Int32) = 1 from hr1) (by decide)
def f_L_law_994 (xs : Nat → Int32) (L : Nat) (k23 : Nat → Nat → Nat → Int32 → AH → Option (Int32 × AH)) (o1 : Nat) (o2 : Nat) (o3 : Nat) (x4 : Int32) (h : AH) : Option (Int32 × AH) :=
  ck h (
  (sx xs L (x4 + 1)).bind fun v1 =>
  (sx xs L (x4 + 2)).bind fun v3 =>
  (isC [11] h o1).bind fun _ =>
  cN (f_X11_baits o1 v1 v3 h) h fun v5 h6 =>
  (sx xs L (x4 + 1)).bind fun v10 =>
  (sx xs L (x4 + 2)).bind fun v12 =>
  (isC [12] h6 o2).bind fun _ =>
  cN (f_X12_baits o2 v10 v12 h6) h6 fun v14 h15 =>
  if v5 = v14 then
    f_L_law_1641 xs L k23 o1 o2 o3 x4 h15
  else
    some (0, h15))
set_option maxHeartbeats 1000000 in
theorem w_L_law_994 (hl9 : l.stackTraces = false) (X : Cx g p s m #[Value.ref b] meth c cL_law 7 "TrapCornerLaw") (hX : SX g s s.heap) (hS : va_X b L xs s s.heap ∧ b < s.heap.size ∧ ¬ AG g b) (hR : 100 ≤ room_1.frames ∧ 7000 ≤ room_1.locals) (hr : meth.sig.returnType = ret) {res : Int32 × AH} (hr1 : res.1 = 1) (hres : res.2.1 ≤ 601024 ∧ res.2.2.1 ≤ 7293033) (hA : room_1.cells + 0 = 601024 ∧ room_1.slots + 0 = 7293033) {k23 : Nat → Nat → Nat → Int32 → AH → Option (Int32 × AH)} (hk23 : ∀ (o1 : Nat) (o2 : Nat) (o3 : Nat) (x4 : Int32) (h : AH) (ls : Array Slot) (H : Heap) (locs : List Loc) (cells slots : Nat), k23 o1 o2 o3 x4 h = some res → Iv g s 0 0 h H locs cells slots → lv_has ls 7 [(0, .ref b), (1, .ref (rfG g o1)), (2, .ref (rfG g o2)), (3, .ref (rfG g o3)), (4, .int x4)] → W p l e room_1 s m #[Value.ref b] below meth c H locs cells slots (lw_Z below #[Value.ref b] s) (F0 m 23 ls [])) : ∀ (o1 : Nat) (o2 : Nat) (o3 : Nat) (x4 : Int32) (h : AH) (ls : Array Slot) (H : Heap) (locs : List Loc) (cells slots : Nat), f_L_law_994 xs L k23 o1 o2 o3 x4 h = some res → Iv g s 0 0 h H locs cells slots → lv_has ls 7 [(0, .ref b), (1, .ref (rfG g o1)), (2, .ref (rfG g o2)), (3, .ref (rfG g o3)), (4, .int x4)] → W p l e room_1 s m #[Value.ref b] below meth c H locs cells slots (lw_Z below #[Value.ref b] s) (F0 m 994 ls []) := by
  have hx := X.1
  have hb := X.2.1
  intro o1 o2 o3 x4 h ls H locs cells slots hf I hl
  unfold f_L_law_994 at hf
  obtain ⟨hbd, hf⟩ := ck_spec hf
  have hbd := lt2 hbd hres
  have hle := I.le hA hbd
  refine lv_aload_n hx hb dL_law_994 rfl (lv_at hl 1 rfl) ?_
  refine lv_aload_n hx hb dL_law_995 rfl (lv_at hl 0 rfl) ?_
  refine lv_iload hx hb dL_law_996 (lv_at hl 4 rfl) ?_
  refine lv_iconst (v := 1) hx hb dL_law_998 (by decide) ?_
  refine lv_iadd hx hb dL_law_999 ?_
  obtain ⟨v1, e2, hf⟩ := Option.bind_eq_some_iff.mp hf
  refine r_sx X I hS e2 dL_law_1000 ?_
  refine lv_aload_n hx hb dL_law_1001 rfl (lv_at hl 0 rfl) ?_
  refine lv_iload hx hb dL_law_1002 (lv_at hl 4 rfl) ?_
  refine lv_iconst (v := 2) hx hb dL_law_1004 (by decide) ?_
  refine lv_iadd hx hb dL_law_1005 ?_
  obtain ⟨v3, e4, hf⟩ := Option.bind_eq_some_iff.mp hf
  refine r_sx X I hS e4 dL_law_1006 ?_
  obtain ⟨_, g9, hf⟩ := Option.bind_eq_some_iff.mp hf
  obtain ⟨v5, h6, e7, z8, hf⟩ := cN_spec hf
  refine k_Vi (As := [.int v1, .int v3]) (rest := []) X I (c_X11_baits l g o1 v1 v3 e7) z8 g9 vk_TrapCornerLaw_124 tw_1045 ⟨Nat.le_trans (by decide) hR.1, Nat.le_trans (by decide) hR.2⟩ hle rfl hl.1 rfl (Nat.le_of_ble_eq_true rfl) dL_law_1007 (fun H locs I => ?_)
  refine lv_aload_n hx hb dL_law_1010 rfl (lv_at hl 2 rfl) ?_
  refine lv_aload_n hx hb dL_law_1011 rfl (lv_at hl 0 rfl) ?_
  refine lv_iload hx hb dL_law_1012 (lv_at hl 4 rfl) ?_
  refine lv_iconst (v := 1) hx hb dL_law_1014 (by decide) ?_
  refine lv_iadd hx hb dL_law_1015 ?_
  obtain ⟨v10, e11, hf⟩ := Option.bind_eq_some_iff.mp hf
  refine r_sx X I hS e11 dL_law_1016 ?_
  refine lv_aload_n hx hb dL_law_1017 rfl (lv_at hl 0 rfl) ?_
  refine lv_iload hx hb dL_law_1018 (lv_at hl 4 rfl) ?_
  refine lv_iconst (v := 2) hx hb dL_law_1020 (by decide) ?_
  refine lv_iadd hx hb dL_law_1021 ?_
  obtain ⟨v12, e13, hf⟩ := Option.bind_eq_some_iff.mp hf
  refine r_sx X I hS e13 dL_law_1022 ?_
  obtain ⟨_, g18, hf⟩ := Option.bind_eq_some_iff.mp hf
  obtain ⟨v14, h15, e16, z17, hf⟩ := cN_spec hf
  refine k_Vi (As := [.int v10, .int v12]) (rest := [.int v5]) X I (c_X12_baits l g o2 v10 v12 e16) z17 g18 vk_TrapCornerLaw_127 tw_1821 ⟨Nat.le_trans (by decide) hR.1, Nat.le_trans (by decide) hR.2⟩ hle rfl hl.1 rfl (Nat.le_of_ble_eq_true rfl) dL_law_1023 (fun H locs I => ?_)
  refine lv_icmp_eq (tgt := 1641) hx hb dL_law_1026 (by decide) (fun c19 => ?_) (fun c19 => ?_)
  · rw [if_pos c19] at hf
    exact w_L_law_1641 hl9 X hX hS hR hr hr1 hres hA hk23 o1 o2 o3 x4 h15 ls H locs _ _ hf I (lv_sub hl [0, 1, 2, 3, 4] rfl)
  · rw [if_neg c19] at hf
    refine lv_iconst (v := 0) hx hb dL_law_1029 (by decide) ?_
    cases hf
    exact absurd (show (0 : Int32) = 1 from hr1) (by decide)
def f_L_law_1100 (xs : Nat → Int32) (L : Nat) (k23 : Nat → Nat → Nat → Int32 → AH → Option (Int32 × AH)) (o1 : Nat) (o2 : Nat) (o3 : Nat) (x4 : Int32) (s0 : Int32) (s1 : Nat) (s2 : Int32) (s3 : Int32) (s4 : Int32) (s5 : Int32) (h : AH) : Option (Int32 × AH) :=
  ck h (
  (isC [12] h s1).bind fun _ =>
  cN (f_X12_seen s1 s2 s3 s4 s5 h) h fun v1 h2 =>
  if s0 = v1 then
    f_L_law_1641 xs L k23 o1 o2 o3 x4 h2
  else
    some (0, h2))
set_option maxHeartbeats 1000000 in
theorem w_L_law_1100 (hl9 : l.stackTraces = false) (X : Cx g p s m #[Value.ref b] meth c cL_law 7 "TrapCornerLaw") (hX : SX g s s.heap) (hS : va_X b L xs s s.heap ∧ b < s.heap.size ∧ ¬ AG g b) (hR : 100 ≤ room_1.frames ∧ 7000 ≤ room_1.locals) (hr : meth.sig.returnType = ret) {res : Int32 × AH} (hr1 : res.1 = 1) (hres : res.2.1 ≤ 601024 ∧ res.2.2.1 ≤ 7293033) (hA : room_1.cells + 0 = 601024 ∧ room_1.slots + 0 = 7293033) {k23 : Nat → Nat → Nat → Int32 → AH → Option (Int32 × AH)} (hk23 : ∀ (o1 : Nat) (o2 : Nat) (o3 : Nat) (x4 : Int32) (h : AH) (ls : Array Slot) (H : Heap) (locs : List Loc) (cells slots : Nat), k23 o1 o2 o3 x4 h = some res → Iv g s 0 0 h H locs cells slots → lv_has ls 7 [(0, .ref b), (1, .ref (rfG g o1)), (2, .ref (rfG g o2)), (3, .ref (rfG g o3)), (4, .int x4)] → W p l e room_1 s m #[Value.ref b] below meth c H locs cells slots (lw_Z below #[Value.ref b] s) (F0 m 23 ls [])) : ∀ (o1 : Nat) (o2 : Nat) (o3 : Nat) (x4 : Int32) (s0 : Int32) (s1 : Nat) (s2 : Int32) (s3 : Int32) (s4 : Int32) (s5 : Int32) (h : AH) (ls : Array Slot) (H : Heap) (locs : List Loc) (cells slots : Nat), f_L_law_1100 xs L k23 o1 o2 o3 x4 s0 s1 s2 s3 s4 s5 h = some res → Iv g s 0 0 h H locs cells slots → lv_has ls 7 [(0, .ref b), (1, .ref (rfG g o1)), (2, .ref (rfG g o2)), (3, .ref (rfG g o3)), (4, .int x4)] → W p l e room_1 s m #[Value.ref b] below meth c H locs cells slots (lw_Z below #[Value.ref b] s) (F0 m 1100 ls [.int s5, .int s4, .int s3, .int s2, .ref (rfG g s1), .int s0]) := by
  have hx := X.1
  have hb := X.2.1
  intro o1 o2 o3 x4 s0 s1 s2 s3 s4 s5 h ls H locs cells slots hf I hl
  unfold f_L_law_1100 at hf
  obtain ⟨hbd, hf⟩ := ck_spec hf
  have hbd := lt2 hbd hres
  have hle := I.le hA hbd
  obtain ⟨_, g5, hf⟩ := Option.bind_eq_some_iff.mp hf
  obtain ⟨v1, h2, e3, z4, hf⟩ := cN_spec hf
  refine k_Vi (As := [.int s2, .int s3, .int s4, .int s5]) (rest := [.int s0]) X I (c_X12_seen l g s1 s2 s3 s4 s5 e3) z4 g5 vk_TrapCornerLaw_132 tw_1825 ⟨Nat.le_trans (by decide) hR.1, Nat.le_trans (by decide) hR.2⟩ hle rfl hl.1 rfl (Nat.le_of_ble_eq_true rfl) dL_law_1100 (fun H locs I => ?_)
  refine lv_icmp_eq (tgt := 1641) hx hb dL_law_1103 (by decide) (fun c6 => ?_) (fun c6 => ?_)
  · rw [if_pos c6] at hf
    exact w_L_law_1641 hl9 X hX hS hR hr hr1 hres hA hk23 o1 o2 o3 x4 h2 ls H locs _ _ hf I (lv_sub hl [0, 1, 2, 3, 4] rfl)
  · rw [if_neg c6] at hf
    refine lv_iconst (v := 0) hx hb dL_law_1106 (by decide) ?_
    cases hf
    exact absurd (show (0 : Int32) = 1 from hr1) (by decide)
def f_L_law_1064 (xs : Nat → Int32) (L : Nat) (k23 : Nat → Nat → Nat → Int32 → AH → Option (Int32 × AH)) (o1 : Nat) (o2 : Nat) (o3 : Nat) (x4 : Int32) (s0 : Nat) (s1 : Int32) (s2 : Int32) (s3 : Int32) (s4 : Int32) (h : AH) : Option (Int32 × AH) :=
  ck h (
  (isC [11] h s0).bind fun _ =>
  cN (f_X11_seen s0 s1 s2 s3 s4 h) h fun v1 h2 =>
  (sx xs L (x4 + 1)).bind fun v6 =>
  (sx xs L (x4 + 2)).bind fun v8 =>
  (sx xs L (x4 + 3)).bind fun v10 =>
  (sx xs L (x4 + 4)).bind fun v12 =>
  if v12 = 0 then
    f_L_law_1100 xs L k23 o1 o2 o3 x4 v1 o2 v6 v8 v10 0 h2
  else
    f_L_law_1100 xs L k23 o1 o2 o3 x4 v1 o2 v6 v8 v10 1 h2)
set_option maxHeartbeats 1000000 in
theorem w_L_law_1064 (hl9 : l.stackTraces = false) (X : Cx g p s m #[Value.ref b] meth c cL_law 7 "TrapCornerLaw") (hX : SX g s s.heap) (hS : va_X b L xs s s.heap ∧ b < s.heap.size ∧ ¬ AG g b) (hR : 100 ≤ room_1.frames ∧ 7000 ≤ room_1.locals) (hr : meth.sig.returnType = ret) {res : Int32 × AH} (hr1 : res.1 = 1) (hres : res.2.1 ≤ 601024 ∧ res.2.2.1 ≤ 7293033) (hA : room_1.cells + 0 = 601024 ∧ room_1.slots + 0 = 7293033) {k23 : Nat → Nat → Nat → Int32 → AH → Option (Int32 × AH)} (hk23 : ∀ (o1 : Nat) (o2 : Nat) (o3 : Nat) (x4 : Int32) (h : AH) (ls : Array Slot) (H : Heap) (locs : List Loc) (cells slots : Nat), k23 o1 o2 o3 x4 h = some res → Iv g s 0 0 h H locs cells slots → lv_has ls 7 [(0, .ref b), (1, .ref (rfG g o1)), (2, .ref (rfG g o2)), (3, .ref (rfG g o3)), (4, .int x4)] → W p l e room_1 s m #[Value.ref b] below meth c H locs cells slots (lw_Z below #[Value.ref b] s) (F0 m 23 ls [])) : ∀ (o1 : Nat) (o2 : Nat) (o3 : Nat) (x4 : Int32) (s0 : Nat) (s1 : Int32) (s2 : Int32) (s3 : Int32) (s4 : Int32) (h : AH) (ls : Array Slot) (H : Heap) (locs : List Loc) (cells slots : Nat), f_L_law_1064 xs L k23 o1 o2 o3 x4 s0 s1 s2 s3 s4 h = some res → Iv g s 0 0 h H locs cells slots → lv_has ls 7 [(0, .ref b), (1, .ref (rfG g o1)), (2, .ref (rfG g o2)), (3, .ref (rfG g o3)), (4, .int x4)] → W p l e room_1 s m #[Value.ref b] below meth c H locs cells slots (lw_Z below #[Value.ref b] s) (F0 m 1064 ls [.int s4, .int s3, .int s2, .int s1, .ref (rfG g s0)]) := by
  have hx := X.1
  have hb := X.2.1
  intro o1 o2 o3 x4 s0 s1 s2 s3 s4 h ls H locs cells slots hf I hl
  unfold f_L_law_1064 at hf
  obtain ⟨hbd, hf⟩ := ck_spec hf
  have hbd := lt2 hbd hres
  have hle := I.le hA hbd
  obtain ⟨_, g5, hf⟩ := Option.bind_eq_some_iff.mp hf
  obtain ⟨v1, h2, e3, z4, hf⟩ := cN_spec hf
  refine k_Vi (As := [.int s1, .int s2, .int s3, .int s4]) (rest := []) X I (c_X11_seen l g s0 s1 s2 s3 s4 e3) z4 g5 vk_TrapCornerLaw_128 tw_1058 ⟨Nat.le_trans (by decide) hR.1, Nat.le_trans (by decide) hR.2⟩ hle rfl hl.1 rfl (Nat.le_of_ble_eq_true rfl) dL_law_1064 (fun H locs I => ?_)
  refine lv_aload_n hx hb dL_law_1067 rfl (lv_at hl 2 rfl) ?_
  refine lv_aload_n hx hb dL_law_1068 rfl (lv_at hl 0 rfl) ?_
  refine lv_iload hx hb dL_law_1069 (lv_at hl 4 rfl) ?_
  refine lv_iconst (v := 1) hx hb dL_law_1071 (by decide) ?_
  refine lv_iadd hx hb dL_law_1072 ?_
  obtain ⟨v6, e7, hf⟩ := Option.bind_eq_some_iff.mp hf
  refine r_sx X I hS e7 dL_law_1073 ?_
  refine lv_aload_n hx hb dL_law_1074 rfl (lv_at hl 0 rfl) ?_
  refine lv_iload hx hb dL_law_1075 (lv_at hl 4 rfl) ?_
  refine lv_iconst (v := 2) hx hb dL_law_1077 (by decide) ?_
  refine lv_iadd hx hb dL_law_1078 ?_
  obtain ⟨v8, e9, hf⟩ := Option.bind_eq_some_iff.mp hf
  refine r_sx X I hS e9 dL_law_1079 ?_
  refine lv_aload_n hx hb dL_law_1080 rfl (lv_at hl 0 rfl) ?_
  refine lv_iload hx hb dL_law_1081 (lv_at hl 4 rfl) ?_
  refine lv_iconst (v := 3) hx hb dL_law_1083 (by decide) ?_
  refine lv_iadd hx hb dL_law_1084 ?_
  obtain ⟨v10, e11, hf⟩ := Option.bind_eq_some_iff.mp hf
  refine r_sx X I hS e11 dL_law_1085 ?_
  refine lv_aload_n hx hb dL_law_1086 rfl (lv_at hl 0 rfl) ?_
  refine lv_iload hx hb dL_law_1087 (lv_at hl 4 rfl) ?_
  refine lv_iconst (v := 4) hx hb dL_law_1089 (by decide) ?_
  refine lv_iadd hx hb dL_law_1090 ?_
  obtain ⟨v12, e13, hf⟩ := Option.bind_eq_some_iff.mp hf
  refine r_sx X I hS e13 dL_law_1091 ?_
  refine lv_if_eq (tgt := 1099) hx hb dL_law_1092 (by decide) (fun c14 => ?_) (fun c14 => ?_)
  · rw [if_pos c14] at hf
    refine lv_iconst (v := 0) hx hb dL_law_1099 (by decide) ?_
    exact w_L_law_1100 hl9 X hX hS hR hr hr1 hres hA hk23 o1 o2 o3 x4 v1 o2 v6 v8 v10 0 h2 ls H locs _ _ hf I (lv_sub hl [0, 1, 2, 3, 4] rfl)
  · rw [if_neg c14] at hf
    refine lv_iconst (v := 1) hx hb dL_law_1095 (by decide) ?_
    refine lv_goto (tgt := 1100) hx hb dL_law_1096 (by decide) ?_
    exact w_L_law_1100 hl9 X hX hS hR hr hr1 hres hA hk23 o1 o2 o3 x4 v1 o2 v6 v8 v10 1 h2 ls H locs _ _ hf I (lv_sub hl [0, 1, 2, 3, 4] rfl)
def f_L_law_1031 (xs : Nat → Int32) (L : Nat) (k23 : Nat → Nat → Nat → Int32 → AH → Option (Int32 × AH)) (o1 : Nat) (o2 : Nat) (o3 : Nat) (x4 : Int32) (h : AH) : Option (Int32 × AH) :=
  ck h (
  (sx xs L (x4 + 1)).bind fun v1 =>
  (sx xs L (x4 + 2)).bind fun v3 =>
  (sx xs L (x4 + 3)).bind fun v5 =>
  (sx xs L (x4 + 4)).bind fun v7 =>
  if v7 = 0 then
    f_L_law_1064 xs L k23 o1 o2 o3 x4 o1 v1 v3 v5 0 h
  else
    f_L_law_1064 xs L k23 o1 o2 o3 x4 o1 v1 v3 v5 1 h)
set_option maxHeartbeats 1000000 in
theorem w_L_law_1031 (hl9 : l.stackTraces = false) (X : Cx g p s m #[Value.ref b] meth c cL_law 7 "TrapCornerLaw") (hX : SX g s s.heap) (hS : va_X b L xs s s.heap ∧ b < s.heap.size ∧ ¬ AG g b) (hR : 100 ≤ room_1.frames ∧ 7000 ≤ room_1.locals) (hr : meth.sig.returnType = ret) {res : Int32 × AH} (hr1 : res.1 = 1) (hres : res.2.1 ≤ 601024 ∧ res.2.2.1 ≤ 7293033) (hA : room_1.cells + 0 = 601024 ∧ room_1.slots + 0 = 7293033) {k23 : Nat → Nat → Nat → Int32 → AH → Option (Int32 × AH)} (hk23 : ∀ (o1 : Nat) (o2 : Nat) (o3 : Nat) (x4 : Int32) (h : AH) (ls : Array Slot) (H : Heap) (locs : List Loc) (cells slots : Nat), k23 o1 o2 o3 x4 h = some res → Iv g s 0 0 h H locs cells slots → lv_has ls 7 [(0, .ref b), (1, .ref (rfG g o1)), (2, .ref (rfG g o2)), (3, .ref (rfG g o3)), (4, .int x4)] → W p l e room_1 s m #[Value.ref b] below meth c H locs cells slots (lw_Z below #[Value.ref b] s) (F0 m 23 ls [])) : ∀ (o1 : Nat) (o2 : Nat) (o3 : Nat) (x4 : Int32) (h : AH) (ls : Array Slot) (H : Heap) (locs : List Loc) (cells slots : Nat), f_L_law_1031 xs L k23 o1 o2 o3 x4 h = some res → Iv g s 0 0 h H locs cells slots → lv_has ls 7 [(0, .ref b), (1, .ref (rfG g o1)), (2, .ref (rfG g o2)), (3, .ref (rfG g o3)), (4, .int x4)] → W p l e room_1 s m #[Value.ref b] below meth c H locs cells slots (lw_Z below #[Value.ref b] s) (F0 m 1031 ls []) := by
  have hx := X.1
  have hb := X.2.1
  intro o1 o2 o3 x4 h ls H locs cells slots hf I hl
  unfold f_L_law_1031 at hf
  obtain ⟨hbd, hf⟩ := ck_spec hf
  have hbd := lt2 hbd hres
  have hle := I.le hA hbd
  refine lv_aload_n hx hb dL_law_1031 rfl (lv_at hl 1 rfl) ?_
  refine lv_aload_n hx hb dL_law_1032 rfl (lv_at hl 0 rfl) ?_
  refine lv_iload hx hb dL_law_1033 (lv_at hl 4 rfl) ?_
  refine lv_iconst (v := 1) hx hb dL_law_1035 (by decide) ?_
  refine lv_iadd hx hb dL_law_1036 ?_
  obtain ⟨v1, e2, hf⟩ := Option.bind_eq_some_iff.mp hf
  refine r_sx X I hS e2 dL_law_1037 ?_
  refine lv_aload_n hx hb dL_law_1038 rfl (lv_at hl 0 rfl) ?_
  refine lv_iload hx hb dL_law_1039 (lv_at hl 4 rfl) ?_
  refine lv_iconst (v := 2) hx hb dL_law_1041 (by decide) ?_
  refine lv_iadd hx hb dL_law_1042 ?_
  obtain ⟨v3, e4, hf⟩ := Option.bind_eq_some_iff.mp hf
  refine r_sx X I hS e4 dL_law_1043 ?_
  refine lv_aload_n hx hb dL_law_1044 rfl (lv_at hl 0 rfl) ?_
  refine lv_iload hx hb dL_law_1045 (lv_at hl 4 rfl) ?_
  refine lv_iconst (v := 3) hx hb dL_law_1047 (by decide) ?_
  refine lv_iadd hx hb dL_law_1048 ?_
  obtain ⟨v5, e6, hf⟩ := Option.bind_eq_some_iff.mp hf
  refine r_sx X I hS e6 dL_law_1049 ?_
  refine lv_aload_n hx hb dL_law_1050 rfl (lv_at hl 0 rfl) ?_
  refine lv_iload hx hb dL_law_1051 (lv_at hl 4 rfl) ?_
  refine lv_iconst (v := 4) hx hb dL_law_1053 (by decide) ?_
  refine lv_iadd hx hb dL_law_1054 ?_
  obtain ⟨v7, e8, hf⟩ := Option.bind_eq_some_iff.mp hf
  refine r_sx X I hS e8 dL_law_1055 ?_
  refine lv_if_eq (tgt := 1063) hx hb dL_law_1056 (by decide) (fun c9 => ?_) (fun c9 => ?_)
  · rw [if_pos c9] at hf
    refine lv_iconst (v := 0) hx hb dL_law_1063 (by decide) ?_
    exact w_L_law_1064 hl9 X hX hS hR hr hr1 hres hA hk23 o1 o2 o3 x4 o1 v1 v3 v5 0 h ls H locs _ _ hf I (lv_sub hl [0, 1, 2, 3, 4] rfl)
  · rw [if_neg c9] at hf
    refine lv_iconst (v := 1) hx hb dL_law_1059 (by decide) ?_
    refine lv_goto (tgt := 1064) hx hb dL_law_1060 (by decide) ?_
    exact w_L_law_1064 hl9 X hX hS hR hr hr1 hres hA hk23 o1 o2 o3 x4 o1 v1 v3 v5 1 h ls H locs _ _ hf I (lv_sub hl [0, 1, 2, 3, 4] rfl)
def f_L_law_1108 (xs : Nat → Int32) (L : Nat) (k23 : Nat → Nat → Nat → Int32 → AH → Option (Int32 × AH)) (o1 : Nat) (o2 : Nat) (o3 : Nat) (x4 : Int32) (h : AH) : Option (Int32 × AH) :=
  ck h (
  (sx xs L (x4 + 1)).bind fun v1 =>
  (sx xs L (x4 + 2)).bind fun v3 =>
  (isC [11] h o1).bind fun _ =>
  cN (f_X11_moves o1 v1 v3 h) h fun v5 h6 =>
  (sx xs L (x4 + 1)).bind fun v10 =>
  (sx xs L (x4 + 2)).bind fun v12 =>
  (isC [12] h6 o2).bind fun _ =>
  cN (f_X12_moves o2 v10 v12 h6) h6 fun v14 h15 =>
  if v5 = v14 then
    f_L_law_1641 xs L k23 o1 o2 o3 x4 h15
  else
    some (0, h15))
set_option maxHeartbeats 1000000 in
theorem w_L_law_1108 (hl9 : l.stackTraces = false) (X : Cx g p s m #[Value.ref b] meth c cL_law 7 "TrapCornerLaw") (hX : SX g s s.heap) (hS : va_X b L xs s s.heap ∧ b < s.heap.size ∧ ¬ AG g b) (hR : 100 ≤ room_1.frames ∧ 7000 ≤ room_1.locals) (hr : meth.sig.returnType = ret) {res : Int32 × AH} (hr1 : res.1 = 1) (hres : res.2.1 ≤ 601024 ∧ res.2.2.1 ≤ 7293033) (hA : room_1.cells + 0 = 601024 ∧ room_1.slots + 0 = 7293033) {k23 : Nat → Nat → Nat → Int32 → AH → Option (Int32 × AH)} (hk23 : ∀ (o1 : Nat) (o2 : Nat) (o3 : Nat) (x4 : Int32) (h : AH) (ls : Array Slot) (H : Heap) (locs : List Loc) (cells slots : Nat), k23 o1 o2 o3 x4 h = some res → Iv g s 0 0 h H locs cells slots → lv_has ls 7 [(0, .ref b), (1, .ref (rfG g o1)), (2, .ref (rfG g o2)), (3, .ref (rfG g o3)), (4, .int x4)] → W p l e room_1 s m #[Value.ref b] below meth c H locs cells slots (lw_Z below #[Value.ref b] s) (F0 m 23 ls [])) : ∀ (o1 : Nat) (o2 : Nat) (o3 : Nat) (x4 : Int32) (h : AH) (ls : Array Slot) (H : Heap) (locs : List Loc) (cells slots : Nat), f_L_law_1108 xs L k23 o1 o2 o3 x4 h = some res → Iv g s 0 0 h H locs cells slots → lv_has ls 7 [(0, .ref b), (1, .ref (rfG g o1)), (2, .ref (rfG g o2)), (3, .ref (rfG g o3)), (4, .int x4)] → W p l e room_1 s m #[Value.ref b] below meth c H locs cells slots (lw_Z below #[Value.ref b] s) (F0 m 1108 ls []) := by
  have hx := X.1
  have hb := X.2.1
  intro o1 o2 o3 x4 h ls H locs cells slots hf I hl
  unfold f_L_law_1108 at hf
  obtain ⟨hbd, hf⟩ := ck_spec hf
  have hbd := lt2 hbd hres
  have hle := I.le hA hbd
  refine lv_aload_n hx hb dL_law_1108 rfl (lv_at hl 1 rfl) ?_
  refine lv_aload_n hx hb dL_law_1109 rfl (lv_at hl 0 rfl) ?_
  refine lv_iload hx hb dL_law_1110 (lv_at hl 4 rfl) ?_
  refine lv_iconst (v := 1) hx hb dL_law_1112 (by decide) ?_
  refine lv_iadd hx hb dL_law_1113 ?_
  obtain ⟨v1, e2, hf⟩ := Option.bind_eq_some_iff.mp hf
  refine r_sx X I hS e2 dL_law_1114 ?_
  refine lv_aload_n hx hb dL_law_1115 rfl (lv_at hl 0 rfl) ?_
  refine lv_iload hx hb dL_law_1116 (lv_at hl 4 rfl) ?_
  refine lv_iconst (v := 2) hx hb dL_law_1118 (by decide) ?_
  refine lv_iadd hx hb dL_law_1119 ?_
  obtain ⟨v3, e4, hf⟩ := Option.bind_eq_some_iff.mp hf
  refine r_sx X I hS e4 dL_law_1120 ?_
  obtain ⟨_, g9, hf⟩ := Option.bind_eq_some_iff.mp hf
  obtain ⟨v5, h6, e7, z8, hf⟩ := cN_spec hf
  refine k_Vi (As := [.int v1, .int v3]) (rest := []) X I (c_X11_moves l g o1 v1 v3 e7) z8 g9 vk_TrapCornerLaw_133 tw_1069 ⟨Nat.le_trans (by decide) hR.1, Nat.le_trans (by decide) hR.2⟩ hle rfl hl.1 rfl (Nat.le_of_ble_eq_true rfl) dL_law_1121 (fun H locs I => ?_)
  refine lv_aload_n hx hb dL_law_1124 rfl (lv_at hl 2 rfl) ?_
  refine lv_aload_n hx hb dL_law_1125 rfl (lv_at hl 0 rfl) ?_
  refine lv_iload hx hb dL_law_1126 (lv_at hl 4 rfl) ?_
  refine lv_iconst (v := 1) hx hb dL_law_1128 (by decide) ?_
  refine lv_iadd hx hb dL_law_1129 ?_
  obtain ⟨v10, e11, hf⟩ := Option.bind_eq_some_iff.mp hf
  refine r_sx X I hS e11 dL_law_1130 ?_
  refine lv_aload_n hx hb dL_law_1131 rfl (lv_at hl 0 rfl) ?_
  refine lv_iload hx hb dL_law_1132 (lv_at hl 4 rfl) ?_
  refine lv_iconst (v := 2) hx hb dL_law_1134 (by decide) ?_
  refine lv_iadd hx hb dL_law_1135 ?_
  obtain ⟨v12, e13, hf⟩ := Option.bind_eq_some_iff.mp hf
  refine r_sx X I hS e13 dL_law_1136 ?_
  obtain ⟨_, g18, hf⟩ := Option.bind_eq_some_iff.mp hf
  obtain ⟨v14, h15, e16, z17, hf⟩ := cN_spec hf
  refine k_Vi (As := [.int v10, .int v12]) (rest := [.int v5]) X I (c_X12_moves l g o2 v10 v12 e16) z17 g18 vk_TrapCornerLaw_136 tw_1829 ⟨Nat.le_trans (by decide) hR.1, Nat.le_trans (by decide) hR.2⟩ hle rfl hl.1 rfl (Nat.le_of_ble_eq_true rfl) dL_law_1137 (fun H locs I => ?_)
  refine lv_icmp_eq (tgt := 1641) hx hb dL_law_1140 (by decide) (fun c19 => ?_) (fun c19 => ?_)
  · rw [if_pos c19] at hf
    exact w_L_law_1641 hl9 X hX hS hR hr hr1 hres hA hk23 o1 o2 o3 x4 h15 ls H locs _ _ hf I (lv_sub hl [0, 1, 2, 3, 4] rfl)
  · rw [if_neg c19] at hf
    refine lv_iconst (v := 0) hx hb dL_law_1143 (by decide) ?_
    cases hf
    exact absurd (show (0 : Int32) = 1 from hr1) (by decide)
def f_L_law_1145 (xs : Nat → Int32) (L : Nat) (k23 : Nat → Nat → Nat → Int32 → AH → Option (Int32 × AH)) (o1 : Nat) (o2 : Nat) (o3 : Nat) (x4 : Int32) (h : AH) : Option (Int32 × AH) :=
  ck h (
  (sx xs L (x4 + 1)).bind fun v1 =>
  (sx xs L (x4 + 2)).bind fun v3 =>
  (isC [11] h o1).bind fun _ =>
  cN (f_X11_ask o1 v1 v3 h) h fun v5 h6 =>
  (sx xs L (x4 + 1)).bind fun v10 =>
  (sx xs L (x4 + 2)).bind fun v12 =>
  (isC [12] h6 o2).bind fun _ =>
  cN (f_X12_ask o2 v10 v12 h6) h6 fun v14 h15 =>
  if v5 = v14 then
    f_L_law_1641 xs L k23 o1 o2 o3 x4 h15
  else
    some (0, h15))
set_option maxHeartbeats 1000000 in
theorem w_L_law_1145 (hl9 : l.stackTraces = false) (X : Cx g p s m #[Value.ref b] meth c cL_law 7 "TrapCornerLaw") (hX : SX g s s.heap) (hS : va_X b L xs s s.heap ∧ b < s.heap.size ∧ ¬ AG g b) (hR : 100 ≤ room_1.frames ∧ 7000 ≤ room_1.locals) (hr : meth.sig.returnType = ret) {res : Int32 × AH} (hr1 : res.1 = 1) (hres : res.2.1 ≤ 601024 ∧ res.2.2.1 ≤ 7293033) (hA : room_1.cells + 0 = 601024 ∧ room_1.slots + 0 = 7293033) {k23 : Nat → Nat → Nat → Int32 → AH → Option (Int32 × AH)} (hk23 : ∀ (o1 : Nat) (o2 : Nat) (o3 : Nat) (x4 : Int32) (h : AH) (ls : Array Slot) (H : Heap) (locs : List Loc) (cells slots : Nat), k23 o1 o2 o3 x4 h = some res → Iv g s 0 0 h H locs cells slots → lv_has ls 7 [(0, .ref b), (1, .ref (rfG g o1)), (2, .ref (rfG g o2)), (3, .ref (rfG g o3)), (4, .int x4)] → W p l e room_1 s m #[Value.ref b] below meth c H locs cells slots (lw_Z below #[Value.ref b] s) (F0 m 23 ls [])) : ∀ (o1 : Nat) (o2 : Nat) (o3 : Nat) (x4 : Int32) (h : AH) (ls : Array Slot) (H : Heap) (locs : List Loc) (cells slots : Nat), f_L_law_1145 xs L k23 o1 o2 o3 x4 h = some res → Iv g s 0 0 h H locs cells slots → lv_has ls 7 [(0, .ref b), (1, .ref (rfG g o1)), (2, .ref (rfG g o2)), (3, .ref (rfG g o3)), (4, .int x4)] → W p l e room_1 s m #[Value.ref b] below meth c H locs cells slots (lw_Z below #[Value.ref b] s) (F0 m 1145 ls []) := by
  have hx := X.1
  have hb := X.2.1
  intro o1 o2 o3 x4 h ls H locs cells slots hf I hl
  unfold f_L_law_1145 at hf
  obtain ⟨hbd, hf⟩ := ck_spec hf
  have hbd := lt2 hbd hres
  have hle := I.le hA hbd
  refine lv_aload_n hx hb dL_law_1145 rfl (lv_at hl 1 rfl) ?_
  refine lv_aload_n hx hb dL_law_1146 rfl (lv_at hl 0 rfl) ?_
  refine lv_iload hx hb dL_law_1147 (lv_at hl 4 rfl) ?_
  refine lv_iconst (v := 1) hx hb dL_law_1149 (by decide) ?_
  refine lv_iadd hx hb dL_law_1150 ?_
  obtain ⟨v1, e2, hf⟩ := Option.bind_eq_some_iff.mp hf
  refine r_sx X I hS e2 dL_law_1151 ?_
  refine lv_aload_n hx hb dL_law_1152 rfl (lv_at hl 0 rfl) ?_
  refine lv_iload hx hb dL_law_1153 (lv_at hl 4 rfl) ?_
  refine lv_iconst (v := 2) hx hb dL_law_1155 (by decide) ?_
  refine lv_iadd hx hb dL_law_1156 ?_
  obtain ⟨v3, e4, hf⟩ := Option.bind_eq_some_iff.mp hf
  refine r_sx X I hS e4 dL_law_1157 ?_
  obtain ⟨_, g9, hf⟩ := Option.bind_eq_some_iff.mp hf
  obtain ⟨v5, h6, e7, z8, hf⟩ := cN_spec hf
  refine k_Vi (As := [.int v1, .int v3]) (rest := []) X I (c_X11_ask l g o1 v1 v3 e7) z8 g9 vk_TrapCornerLaw_137 tw_1086 ⟨Nat.le_trans (by decide) hR.1, Nat.le_trans (by decide) hR.2⟩ hle rfl hl.1 rfl (Nat.le_of_ble_eq_true rfl) dL_law_1158 (fun H locs I => ?_)
  refine lv_aload_n hx hb dL_law_1161 rfl (lv_at hl 2 rfl) ?_
  refine lv_aload_n hx hb dL_law_1162 rfl (lv_at hl 0 rfl) ?_
  refine lv_iload hx hb dL_law_1163 (lv_at hl 4 rfl) ?_
  refine lv_iconst (v := 1) hx hb dL_law_1165 (by decide) ?_
  refine lv_iadd hx hb dL_law_1166 ?_
  obtain ⟨v10, e11, hf⟩ := Option.bind_eq_some_iff.mp hf
  refine r_sx X I hS e11 dL_law_1167 ?_
  refine lv_aload_n hx hb dL_law_1168 rfl (lv_at hl 0 rfl) ?_
  refine lv_iload hx hb dL_law_1169 (lv_at hl 4 rfl) ?_
  refine lv_iconst (v := 2) hx hb dL_law_1171 (by decide) ?_
  refine lv_iadd hx hb dL_law_1172 ?_
  obtain ⟨v12, e13, hf⟩ := Option.bind_eq_some_iff.mp hf
  refine r_sx X I hS e13 dL_law_1173 ?_
  obtain ⟨_, g18, hf⟩ := Option.bind_eq_some_iff.mp hf
  obtain ⟨v14, h15, e16, z17, hf⟩ := cN_spec hf
  refine k_Vi (As := [.int v10, .int v12]) (rest := [.int v5]) X I (c_X12_ask l g o2 v10 v12 e16) z17 g18 vk_TrapCornerLaw_140 tw_1841 ⟨Nat.le_trans (by decide) hR.1, Nat.le_trans (by decide) hR.2⟩ hle rfl hl.1 rfl (Nat.le_of_ble_eq_true rfl) dL_law_1174 (fun H locs I => ?_)
  refine lv_icmp_eq (tgt := 1641) hx hb dL_law_1177 (by decide) (fun c19 => ?_) (fun c19 => ?_)
  · rw [if_pos c19] at hf
    exact w_L_law_1641 hl9 X hX hS hR hr hr1 hres hA hk23 o1 o2 o3 x4 h15 ls H locs _ _ hf I (lv_sub hl [0, 1, 2, 3, 4] rfl)
  · rw [if_neg c19] at hf
    refine lv_iconst (v := 0) hx hb dL_law_1180 (by decide) ?_
    cases hf
    exact absurd (show (0 : Int32) = 1 from hr1) (by decide)
def f_L_law_1182 (xs : Nat → Int32) (L : Nat) (k23 : Nat → Nat → Nat → Int32 → AH → Option (Int32 × AH)) (o1 : Nat) (o2 : Nat) (o3 : Nat) (x4 : Int32) (h : AH) : Option (Int32 × AH) :=
  ck h (
  (sx xs L (x4 + 1)).bind fun v1 =>
  (isC [11] h o1).bind fun _ =>
  cN (f_X11_safe o1 v1 h) h fun v3 h4 =>
  (sx xs L (x4 + 1)).bind fun v8 =>
  (isC [12] h4 o2).bind fun _ =>
  cN (f_X12_safe o2 v8 h4) h4 fun v10 h11 =>
  if v3 = v10 then
    f_L_law_1641 xs L k23 o1 o2 o3 x4 h11
  else
    some (0, h11))
set_option maxHeartbeats 1000000 in
theorem w_L_law_1182 (hl9 : l.stackTraces = false) (X : Cx g p s m #[Value.ref b] meth c cL_law 7 "TrapCornerLaw") (hX : SX g s s.heap) (hS : va_X b L xs s s.heap ∧ b < s.heap.size ∧ ¬ AG g b) (hR : 100 ≤ room_1.frames ∧ 7000 ≤ room_1.locals) (hr : meth.sig.returnType = ret) {res : Int32 × AH} (hr1 : res.1 = 1) (hres : res.2.1 ≤ 601024 ∧ res.2.2.1 ≤ 7293033) (hA : room_1.cells + 0 = 601024 ∧ room_1.slots + 0 = 7293033) {k23 : Nat → Nat → Nat → Int32 → AH → Option (Int32 × AH)} (hk23 : ∀ (o1 : Nat) (o2 : Nat) (o3 : Nat) (x4 : Int32) (h : AH) (ls : Array Slot) (H : Heap) (locs : List Loc) (cells slots : Nat), k23 o1 o2 o3 x4 h = some res → Iv g s 0 0 h H locs cells slots → lv_has ls 7 [(0, .ref b), (1, .ref (rfG g o1)), (2, .ref (rfG g o2)), (3, .ref (rfG g o3)), (4, .int x4)] → W p l e room_1 s m #[Value.ref b] below meth c H locs cells slots (lw_Z below #[Value.ref b] s) (F0 m 23 ls [])) : ∀ (o1 : Nat) (o2 : Nat) (o3 : Nat) (x4 : Int32) (h : AH) (ls : Array Slot) (H : Heap) (locs : List Loc) (cells slots : Nat), f_L_law_1182 xs L k23 o1 o2 o3 x4 h = some res → Iv g s 0 0 h H locs cells slots → lv_has ls 7 [(0, .ref b), (1, .ref (rfG g o1)), (2, .ref (rfG g o2)), (3, .ref (rfG g o3)), (4, .int x4)] → W p l e room_1 s m #[Value.ref b] below meth c H locs cells slots (lw_Z below #[Value.ref b] s) (F0 m 1182 ls []) := by
  have hx := X.1
  have hb := X.2.1
  intro o1 o2 o3 x4 h ls H locs cells slots hf I hl
  unfold f_L_law_1182 at hf
  obtain ⟨hbd, hf⟩ := ck_spec hf
  have hbd := lt2 hbd hres
  have hle := I.le hA hbd
  refine lv_aload_n hx hb dL_law_1182 rfl (lv_at hl 1 rfl) ?_
  refine lv_aload_n hx hb dL_law_1183 rfl (lv_at hl 0 rfl) ?_
  refine lv_iload hx hb dL_law_1184 (lv_at hl 4 rfl) ?_
  refine lv_iconst (v := 1) hx hb dL_law_1186 (by decide) ?_
  refine lv_iadd hx hb dL_law_1187 ?_
  obtain ⟨v1, e2, hf⟩ := Option.bind_eq_some_iff.mp hf
  refine r_sx X I hS e2 dL_law_1188 ?_
  obtain ⟨_, g7, hf⟩ := Option.bind_eq_some_iff.mp hf
  obtain ⟨v3, h4, e5, z6, hf⟩ := cN_spec hf
  refine k_Vi (As := [.int v1]) (rest := []) X I (c_X11_safe l g o1 v1 e5) z6 g7 vk_TrapCornerLaw_141 tw_1098 ⟨Nat.le_trans (by decide) hR.1, Nat.le_trans (by decide) hR.2⟩ hle rfl hl.1 rfl (Nat.le_of_ble_eq_true rfl) dL_law_1189 (fun H locs I => ?_)
  refine lv_aload_n hx hb dL_law_1192 rfl (lv_at hl 2 rfl) ?_
  refine lv_aload_n hx hb dL_law_1193 rfl (lv_at hl 0 rfl) ?_
  refine lv_iload hx hb dL_law_1194 (lv_at hl 4 rfl) ?_
  refine lv_iconst (v := 1) hx hb dL_law_1196 (by decide) ?_
  refine lv_iadd hx hb dL_law_1197 ?_
  obtain ⟨v8, e9, hf⟩ := Option.bind_eq_some_iff.mp hf
  refine r_sx X I hS e9 dL_law_1198 ?_
  obtain ⟨_, g14, hf⟩ := Option.bind_eq_some_iff.mp hf
  obtain ⟨v10, h11, e12, z13, hf⟩ := cN_spec hf
  refine k_Vi (As := [.int v8]) (rest := [.int v3]) X I (c_X12_safe l g o2 v8 e12) z13 g14 vk_TrapCornerLaw_144 tw_1846 ⟨Nat.le_trans (by decide) hR.1, Nat.le_trans (by decide) hR.2⟩ hle rfl hl.1 rfl (Nat.le_of_ble_eq_true rfl) dL_law_1199 (fun H locs I => ?_)
  refine lv_icmp_eq (tgt := 1641) hx hb dL_law_1202 (by decide) (fun c15 => ?_) (fun c15 => ?_)
  · rw [if_pos c15] at hf
    exact w_L_law_1641 hl9 X hX hS hR hr hr1 hres hA hk23 o1 o2 o3 x4 h11 ls H locs _ _ hf I (lv_sub hl [0, 1, 2, 3, 4] rfl)
  · rw [if_neg c15] at hf
    refine lv_iconst (v := 0) hx hb dL_law_1205 (by decide) ?_
    cases hf
    exact absurd (show (0 : Int32) = 1 from hr1) (by decide)
def f_L_law_1207 (xs : Nat → Int32) (L : Nat) (k23 : Nat → Nat → Nat → Int32 → AH → Option (Int32 × AH)) (o1 : Nat) (o2 : Nat) (o3 : Nat) (x4 : Int32) (h : AH) : Option (Int32 × AH) :=
  ck h (
  (sx xs L (x4 + 1)).bind fun v1 =>
  (isC [11] h o1).bind fun _ =>
  cN (f_X11_passes o1 v1 h) h fun v3 h4 =>
  (sx xs L (x4 + 1)).bind fun v8 =>
  (isC [12] h4 o2).bind fun _ =>
  cN (f_X12_passes o2 v8 h4) h4 fun v10 h11 =>
  if v3 = v10 then
    f_L_law_1641 xs L k23 o1 o2 o3 x4 h11
  else
    some (0, h11))
set_option maxHeartbeats 1000000 in
theorem w_L_law_1207 (hl9 : l.stackTraces = false) (X : Cx g p s m #[Value.ref b] meth c cL_law 7 "TrapCornerLaw") (hX : SX g s s.heap) (hS : va_X b L xs s s.heap ∧ b < s.heap.size ∧ ¬ AG g b) (hR : 100 ≤ room_1.frames ∧ 7000 ≤ room_1.locals) (hr : meth.sig.returnType = ret) {res : Int32 × AH} (hr1 : res.1 = 1) (hres : res.2.1 ≤ 601024 ∧ res.2.2.1 ≤ 7293033) (hA : room_1.cells + 0 = 601024 ∧ room_1.slots + 0 = 7293033) {k23 : Nat → Nat → Nat → Int32 → AH → Option (Int32 × AH)} (hk23 : ∀ (o1 : Nat) (o2 : Nat) (o3 : Nat) (x4 : Int32) (h : AH) (ls : Array Slot) (H : Heap) (locs : List Loc) (cells slots : Nat), k23 o1 o2 o3 x4 h = some res → Iv g s 0 0 h H locs cells slots → lv_has ls 7 [(0, .ref b), (1, .ref (rfG g o1)), (2, .ref (rfG g o2)), (3, .ref (rfG g o3)), (4, .int x4)] → W p l e room_1 s m #[Value.ref b] below meth c H locs cells slots (lw_Z below #[Value.ref b] s) (F0 m 23 ls [])) : ∀ (o1 : Nat) (o2 : Nat) (o3 : Nat) (x4 : Int32) (h : AH) (ls : Array Slot) (H : Heap) (locs : List Loc) (cells slots : Nat), f_L_law_1207 xs L k23 o1 o2 o3 x4 h = some res → Iv g s 0 0 h H locs cells slots → lv_has ls 7 [(0, .ref b), (1, .ref (rfG g o1)), (2, .ref (rfG g o2)), (3, .ref (rfG g o3)), (4, .int x4)] → W p l e room_1 s m #[Value.ref b] below meth c H locs cells slots (lw_Z below #[Value.ref b] s) (F0 m 1207 ls []) := by
  have hx := X.1
  have hb := X.2.1
  intro o1 o2 o3 x4 h ls H locs cells slots hf I hl
  unfold f_L_law_1207 at hf
  obtain ⟨hbd, hf⟩ := ck_spec hf
  have hbd := lt2 hbd hres
  have hle := I.le hA hbd
  refine lv_aload_n hx hb dL_law_1207 rfl (lv_at hl 1 rfl) ?_
  refine lv_aload_n hx hb dL_law_1208 rfl (lv_at hl 0 rfl) ?_
  refine lv_iload hx hb dL_law_1209 (lv_at hl 4 rfl) ?_
  refine lv_iconst (v := 1) hx hb dL_law_1211 (by decide) ?_
  refine lv_iadd hx hb dL_law_1212 ?_
  obtain ⟨v1, e2, hf⟩ := Option.bind_eq_some_iff.mp hf
  refine r_sx X I hS e2 dL_law_1213 ?_
  obtain ⟨_, g7, hf⟩ := Option.bind_eq_some_iff.mp hf
  obtain ⟨v3, h4, e5, z6, hf⟩ := cN_spec hf
  refine k_Vi (As := [.int v1]) (rest := []) X I (c_X11_passes l g o1 v1 e5) z6 g7 vk_TrapCornerLaw_145 tw_1107 ⟨Nat.le_trans (by decide) hR.1, Nat.le_trans (by decide) hR.2⟩ hle rfl hl.1 rfl (Nat.le_of_ble_eq_true rfl) dL_law_1214 (fun H locs I => ?_)
  refine lv_aload_n hx hb dL_law_1217 rfl (lv_at hl 2 rfl) ?_
  refine lv_aload_n hx hb dL_law_1218 rfl (lv_at hl 0 rfl) ?_
  refine lv_iload hx hb dL_law_1219 (lv_at hl 4 rfl) ?_
  refine lv_iconst (v := 1) hx hb dL_law_1221 (by decide) ?_
  refine lv_iadd hx hb dL_law_1222 ?_
  obtain ⟨v8, e9, hf⟩ := Option.bind_eq_some_iff.mp hf
  refine r_sx X I hS e9 dL_law_1223 ?_
  obtain ⟨_, g14, hf⟩ := Option.bind_eq_some_iff.mp hf
  obtain ⟨v10, h11, e12, z13, hf⟩ := cN_spec hf
  refine k_Vi (As := [.int v8]) (rest := [.int v3]) X I (c_X12_passes l g o2 v8 e12) z13 g14 vk_TrapCornerLaw_148 tw_1854 ⟨Nat.le_trans (by decide) hR.1, Nat.le_trans (by decide) hR.2⟩ hle rfl hl.1 rfl (Nat.le_of_ble_eq_true rfl) dL_law_1224 (fun H locs I => ?_)
  refine lv_icmp_eq (tgt := 1641) hx hb dL_law_1227 (by decide) (fun c15 => ?_) (fun c15 => ?_)
  · rw [if_pos c15] at hf
    exact w_L_law_1641 hl9 X hX hS hR hr hr1 hres hA hk23 o1 o2 o3 x4 h11 ls H locs _ _ hf I (lv_sub hl [0, 1, 2, 3, 4] rfl)
  · rw [if_neg c15] at hf
    refine lv_iconst (v := 0) hx hb dL_law_1230 (by decide) ?_
    cases hf
    exact absurd (show (0 : Int32) = 1 from hr1) (by decide)
def f_L_law_1232 (xs : Nat → Int32) (L : Nat) (k23 : Nat → Nat → Nat → Int32 → AH → Option (Int32 × AH)) (o1 : Nat) (o2 : Nat) (o3 : Nat) (x4 : Int32) (h : AH) : Option (Int32 × AH) :=
  ck h (
  (sx xs L (x4 + 1)).bind fun v1 =>
  (isC [11] h o1).bind fun _ =>
  cN (f_X11_walk o1 v1 h) h fun v3 h4 =>
  (sx xs L (x4 + 1)).bind fun v8 =>
  (isC [12] h4 o2).bind fun _ =>
  cN (f_X12_walk o2 v8 h4) h4 fun v10 h11 =>
  if v3 = v10 then
    f_L_law_1641 xs L k23 o1 o2 o3 x4 h11
  else
    some (0, h11))
set_option maxHeartbeats 1000000 in
theorem w_L_law_1232 (hl9 : l.stackTraces = false) (X : Cx g p s m #[Value.ref b] meth c cL_law 7 "TrapCornerLaw") (hX : SX g s s.heap) (hS : va_X b L xs s s.heap ∧ b < s.heap.size ∧ ¬ AG g b) (hR : 100 ≤ room_1.frames ∧ 7000 ≤ room_1.locals) (hr : meth.sig.returnType = ret) {res : Int32 × AH} (hr1 : res.1 = 1) (hres : res.2.1 ≤ 601024 ∧ res.2.2.1 ≤ 7293033) (hA : room_1.cells + 0 = 601024 ∧ room_1.slots + 0 = 7293033) {k23 : Nat → Nat → Nat → Int32 → AH → Option (Int32 × AH)} (hk23 : ∀ (o1 : Nat) (o2 : Nat) (o3 : Nat) (x4 : Int32) (h : AH) (ls : Array Slot) (H : Heap) (locs : List Loc) (cells slots : Nat), k23 o1 o2 o3 x4 h = some res → Iv g s 0 0 h H locs cells slots → lv_has ls 7 [(0, .ref b), (1, .ref (rfG g o1)), (2, .ref (rfG g o2)), (3, .ref (rfG g o3)), (4, .int x4)] → W p l e room_1 s m #[Value.ref b] below meth c H locs cells slots (lw_Z below #[Value.ref b] s) (F0 m 23 ls [])) : ∀ (o1 : Nat) (o2 : Nat) (o3 : Nat) (x4 : Int32) (h : AH) (ls : Array Slot) (H : Heap) (locs : List Loc) (cells slots : Nat), f_L_law_1232 xs L k23 o1 o2 o3 x4 h = some res → Iv g s 0 0 h H locs cells slots → lv_has ls 7 [(0, .ref b), (1, .ref (rfG g o1)), (2, .ref (rfG g o2)), (3, .ref (rfG g o3)), (4, .int x4)] → W p l e room_1 s m #[Value.ref b] below meth c H locs cells slots (lw_Z below #[Value.ref b] s) (F0 m 1232 ls []) := by
  have hx := X.1
  have hb := X.2.1
  intro o1 o2 o3 x4 h ls H locs cells slots hf I hl
  unfold f_L_law_1232 at hf
  obtain ⟨hbd, hf⟩ := ck_spec hf
  have hbd := lt2 hbd hres
  have hle := I.le hA hbd
  refine lv_aload_n hx hb dL_law_1232 rfl (lv_at hl 1 rfl) ?_
  refine lv_aload_n hx hb dL_law_1233 rfl (lv_at hl 0 rfl) ?_
  refine lv_iload hx hb dL_law_1234 (lv_at hl 4 rfl) ?_
  refine lv_iconst (v := 1) hx hb dL_law_1236 (by decide) ?_
  refine lv_iadd hx hb dL_law_1237 ?_
  obtain ⟨v1, e2, hf⟩ := Option.bind_eq_some_iff.mp hf
  refine r_sx X I hS e2 dL_law_1238 ?_
  obtain ⟨_, g7, hf⟩ := Option.bind_eq_some_iff.mp hf
  obtain ⟨v3, h4, e5, z6, hf⟩ := cN_spec hf
  refine k_Vi (As := [.int v1]) (rest := []) X I (c_X11_walk l g o1 v1 e5) z6 g7 vk_TrapCornerLaw_149 tw_1121 ⟨Nat.le_trans (by decide) hR.1, Nat.le_trans (by decide) hR.2⟩ hle rfl hl.1 rfl (Nat.le_of_ble_eq_true rfl) dL_law_1239 (fun H locs I => ?_)
  refine lv_aload_n hx hb dL_law_1242 rfl (lv_at hl 2 rfl) ?_
  refine lv_aload_n hx hb dL_law_1243 rfl (lv_at hl 0 rfl) ?_
  refine lv_iload hx hb dL_law_1244 (lv_at hl 4 rfl) ?_
  refine lv_iconst (v := 1) hx hb dL_law_1246 (by decide) ?_
  refine lv_iadd hx hb dL_law_1247 ?_
  obtain ⟨v8, e9, hf⟩ := Option.bind_eq_some_iff.mp hf
  refine r_sx X I hS e9 dL_law_1248 ?_
  obtain ⟨_, g14, hf⟩ := Option.bind_eq_some_iff.mp hf
  obtain ⟨v10, h11, e12, z13, hf⟩ := cN_spec hf
  refine k_Vi (As := [.int v8]) (rest := [.int v3]) X I (c_X12_walk l g o2 v8 e12) z13 g14 vk_TrapCornerLaw_152 tw_1866 ⟨Nat.le_trans (by decide) hR.1, Nat.le_trans (by decide) hR.2⟩ hle rfl hl.1 rfl (Nat.le_of_ble_eq_true rfl) dL_law_1249 (fun H locs I => ?_)
  refine lv_icmp_eq (tgt := 1641) hx hb dL_law_1252 (by decide) (fun c15 => ?_) (fun c15 => ?_)
  · rw [if_pos c15] at hf
    exact w_L_law_1641 hl9 X hX hS hR hr hr1 hres hA hk23 o1 o2 o3 x4 h11 ls H locs _ _ hf I (lv_sub hl [0, 1, 2, 3, 4] rfl)
  · rw [if_neg c15] at hf
    refine lv_iconst (v := 0) hx hb dL_law_1255 (by decide) ?_
    cases hf
    exact absurd (show (0 : Int32) = 1 from hr1) (by decide)
def f_L_law_1257 (xs : Nat → Int32) (L : Nat) (k23 : Nat → Nat → Nat → Int32 → AH → Option (Int32 × AH)) (o1 : Nat) (o2 : Nat) (o3 : Nat) (x4 : Int32) (h : AH) : Option (Int32 × AH) :=
  ck h (
  (sx xs L (x4 + 1)).bind fun v1 =>
  (sx xs L (x4 + 2)).bind fun v3 =>
  (sx xs L (x4 + 3)).bind fun v5 =>
  (sx xs L (x4 + 4)).bind fun v7 =>
  (sx xs L (x4 + 5)).bind fun v9 =>
  (isC [11] h o1).bind fun _ =>
  cN (f_X11_game o1 v1 v3 v5 v7 v9 h) h fun v11 h12 =>
  (sx xs L (x4 + 1)).bind fun v16 =>
  (sx xs L (x4 + 2)).bind fun v18 =>
  (sx xs L (x4 + 3)).bind fun v20 =>
  (sx xs L (x4 + 4)).bind fun v22 =>
  (sx xs L (x4 + 5)).bind fun v24 =>
  (isC [12] h12 o2).bind fun _ =>
  cN (f_X12_game o2 v16 v18 v20 v22 v24 h12) h12 fun v26 h27 =>
  if v11 = v26 then
    f_L_law_1641 xs L k23 o1 o2 o3 x4 h27
  else
    some (0, h27))
set_option maxHeartbeats 1000000 in
theorem w_L_law_1257 (hl9 : l.stackTraces = false) (X : Cx g p s m #[Value.ref b] meth c cL_law 7 "TrapCornerLaw") (hX : SX g s s.heap) (hS : va_X b L xs s s.heap ∧ b < s.heap.size ∧ ¬ AG g b) (hR : 100 ≤ room_1.frames ∧ 7000 ≤ room_1.locals) (hr : meth.sig.returnType = ret) {res : Int32 × AH} (hr1 : res.1 = 1) (hres : res.2.1 ≤ 601024 ∧ res.2.2.1 ≤ 7293033) (hA : room_1.cells + 0 = 601024 ∧ room_1.slots + 0 = 7293033) {k23 : Nat → Nat → Nat → Int32 → AH → Option (Int32 × AH)} (hk23 : ∀ (o1 : Nat) (o2 : Nat) (o3 : Nat) (x4 : Int32) (h : AH) (ls : Array Slot) (H : Heap) (locs : List Loc) (cells slots : Nat), k23 o1 o2 o3 x4 h = some res → Iv g s 0 0 h H locs cells slots → lv_has ls 7 [(0, .ref b), (1, .ref (rfG g o1)), (2, .ref (rfG g o2)), (3, .ref (rfG g o3)), (4, .int x4)] → W p l e room_1 s m #[Value.ref b] below meth c H locs cells slots (lw_Z below #[Value.ref b] s) (F0 m 23 ls [])) : ∀ (o1 : Nat) (o2 : Nat) (o3 : Nat) (x4 : Int32) (h : AH) (ls : Array Slot) (H : Heap) (locs : List Loc) (cells slots : Nat), f_L_law_1257 xs L k23 o1 o2 o3 x4 h = some res → Iv g s 0 0 h H locs cells slots → lv_has ls 7 [(0, .ref b), (1, .ref (rfG g o1)), (2, .ref (rfG g o2)), (3, .ref (rfG g o3)), (4, .int x4)] → W p l e room_1 s m #[Value.ref b] below meth c H locs cells slots (lw_Z below #[Value.ref b] s) (F0 m 1257 ls []) := by
  have hx := X.1
  have hb := X.2.1
  intro o1 o2 o3 x4 h ls H locs cells slots hf I hl
  unfold f_L_law_1257 at hf
  obtain ⟨hbd, hf⟩ := ck_spec hf
  have hbd := lt2 hbd hres
  have hle := I.le hA hbd
  refine lv_aload_n hx hb dL_law_1257 rfl (lv_at hl 1 rfl) ?_
  refine lv_aload_n hx hb dL_law_1258 rfl (lv_at hl 0 rfl) ?_
  refine lv_iload hx hb dL_law_1259 (lv_at hl 4 rfl) ?_
  refine lv_iconst (v := 1) hx hb dL_law_1261 (by decide) ?_
  refine lv_iadd hx hb dL_law_1262 ?_
  obtain ⟨v1, e2, hf⟩ := Option.bind_eq_some_iff.mp hf
  refine r_sx X I hS e2 dL_law_1263 ?_
  refine lv_aload_n hx hb dL_law_1264 rfl (lv_at hl 0 rfl) ?_
  refine lv_iload hx hb dL_law_1265 (lv_at hl 4 rfl) ?_
  refine lv_iconst (v := 2) hx hb dL_law_1267 (by decide) ?_
  refine lv_iadd hx hb dL_law_1268 ?_
  obtain ⟨v3, e4, hf⟩ := Option.bind_eq_some_iff.mp hf
  refine r_sx X I hS e4 dL_law_1269 ?_
  refine lv_aload_n hx hb dL_law_1270 rfl (lv_at hl 0 rfl) ?_
  refine lv_iload hx hb dL_law_1271 (lv_at hl 4 rfl) ?_
  refine lv_iconst (v := 3) hx hb dL_law_1273 (by decide) ?_
  refine lv_iadd hx hb dL_law_1274 ?_
  obtain ⟨v5, e6, hf⟩ := Option.bind_eq_some_iff.mp hf
  refine r_sx X I hS e6 dL_law_1275 ?_
  refine lv_aload_n hx hb dL_law_1276 rfl (lv_at hl 0 rfl) ?_
  refine lv_iload hx hb dL_law_1277 (lv_at hl 4 rfl) ?_
  refine lv_iconst (v := 4) hx hb dL_law_1279 (by decide) ?_
  refine lv_iadd hx hb dL_law_1280 ?_
  obtain ⟨v7, e8, hf⟩ := Option.bind_eq_some_iff.mp hf
  refine r_sx X I hS e8 dL_law_1281 ?_
  refine lv_aload_n hx hb dL_law_1282 rfl (lv_at hl 0 rfl) ?_
  refine lv_iload hx hb dL_law_1283 (lv_at hl 4 rfl) ?_
  refine lv_iconst (v := 5) hx hb dL_law_1285 (by decide) ?_
  refine lv_iadd hx hb dL_law_1286 ?_
  obtain ⟨v9, e10, hf⟩ := Option.bind_eq_some_iff.mp hf
  refine r_sx X I hS e10 dL_law_1287 ?_
  obtain ⟨_, g15, hf⟩ := Option.bind_eq_some_iff.mp hf
  obtain ⟨v11, h12, e13, z14, hf⟩ := cN_spec hf
  refine k_Vi (As := [.int v1, .int v3, .int v5, .int v7, .int v9]) (rest := []) X I (c_X11_game l g o1 v1 v3 v5 v7 v9 e13) z14 g15 vk_TrapCornerLaw_153 tw_1125 ⟨Nat.le_trans (by decide) hR.1, Nat.le_trans (by decide) hR.2⟩ hle rfl hl.1 rfl (Nat.le_of_ble_eq_true rfl) dL_law_1288 (fun H locs I => ?_)
  refine lv_aload_n hx hb dL_law_1291 rfl (lv_at hl 2 rfl) ?_
  refine lv_aload_n hx hb dL_law_1292 rfl (lv_at hl 0 rfl) ?_
  refine lv_iload hx hb dL_law_1293 (lv_at hl 4 rfl) ?_
  refine lv_iconst (v := 1) hx hb dL_law_1295 (by decide) ?_
  refine lv_iadd hx hb dL_law_1296 ?_
  obtain ⟨v16, e17, hf⟩ := Option.bind_eq_some_iff.mp hf
  refine r_sx X I hS e17 dL_law_1297 ?_
  refine lv_aload_n hx hb dL_law_1298 rfl (lv_at hl 0 rfl) ?_
  refine lv_iload hx hb dL_law_1299 (lv_at hl 4 rfl) ?_
  refine lv_iconst (v := 2) hx hb dL_law_1301 (by decide) ?_
  refine lv_iadd hx hb dL_law_1302 ?_
  obtain ⟨v18, e19, hf⟩ := Option.bind_eq_some_iff.mp hf
  refine r_sx X I hS e19 dL_law_1303 ?_
  refine lv_aload_n hx hb dL_law_1304 rfl (lv_at hl 0 rfl) ?_
  refine lv_iload hx hb dL_law_1305 (lv_at hl 4 rfl) ?_
  refine lv_iconst (v := 3) hx hb dL_law_1307 (by decide) ?_
  refine lv_iadd hx hb dL_law_1308 ?_
  obtain ⟨v20, e21, hf⟩ := Option.bind_eq_some_iff.mp hf
  refine r_sx X I hS e21 dL_law_1309 ?_
  refine lv_aload_n hx hb dL_law_1310 rfl (lv_at hl 0 rfl) ?_
  refine lv_iload hx hb dL_law_1311 (lv_at hl 4 rfl) ?_
  refine lv_iconst (v := 4) hx hb dL_law_1313 (by decide) ?_
  refine lv_iadd hx hb dL_law_1314 ?_
  obtain ⟨v22, e23, hf⟩ := Option.bind_eq_some_iff.mp hf
  refine r_sx X I hS e23 dL_law_1315 ?_
  refine lv_aload_n hx hb dL_law_1316 rfl (lv_at hl 0 rfl) ?_
  refine lv_iload hx hb dL_law_1317 (lv_at hl 4 rfl) ?_
  refine lv_iconst (v := 5) hx hb dL_law_1319 (by decide) ?_
  refine lv_iadd hx hb dL_law_1320 ?_
  obtain ⟨v24, e25, hf⟩ := Option.bind_eq_some_iff.mp hf
  refine r_sx X I hS e25 dL_law_1321 ?_
  obtain ⟨_, g30, hf⟩ := Option.bind_eq_some_iff.mp hf
  obtain ⟨v26, h27, e28, z29, hf⟩ := cN_spec hf
  refine k_Vi (As := [.int v16, .int v18, .int v20, .int v22, .int v24]) (rest := [.int v11]) X I (c_X12_game l g o2 v16 v18 v20 v22 v24 e28) z29 g30 vk_TrapCornerLaw_156 tw_1870 ⟨Nat.le_trans (by decide) hR.1, Nat.le_trans (by decide) hR.2⟩ hle rfl hl.1 rfl (Nat.le_of_ble_eq_true rfl) dL_law_1322 (fun H locs I => ?_)
  refine lv_icmp_eq (tgt := 1641) hx hb dL_law_1325 (by decide) (fun c31 => ?_) (fun c31 => ?_)
  · rw [if_pos c31] at hf
    exact w_L_law_1641 hl9 X hX hS hR hr hr1 hres hA hk23 o1 o2 o3 x4 h27 ls H locs _ _ hf I (lv_sub hl [0, 1, 2, 3, 4] rfl)
  · rw [if_neg c31] at hf
    refine lv_iconst (v := 0) hx hb dL_law_1328 (by decide) ?_
    cases hf
    exact absurd (show (0 : Int32) = 1 from hr1) (by decide)
def f_L_law_1330 (xs : Nat → Int32) (L : Nat) (k23 : Nat → Nat → Nat → Int32 → AH → Option (Int32 × AH)) (o1 : Nat) (o2 : Nat) (o3 : Nat) (x4 : Int32) (h : AH) : Option (Int32 × AH) :=
  ck h (
  (sx xs L (x4 + 1)).bind fun v1 =>
  (sx xs L (x4 + 2)).bind fun v3 =>
  (sx xs L (x4 + 3)).bind fun v5 =>
  (isC [11] h o1).bind fun _ =>
  cN (f_X11_rests o1 v1 v3 v5 h) h fun v7 h8 =>
  (sx xs L (x4 + 1)).bind fun v12 =>
  (sx xs L (x4 + 2)).bind fun v14 =>
  (sx xs L (x4 + 3)).bind fun v16 =>
  (isC [12] h8 o2).bind fun _ =>
  cN (f_X12_rests o2 v12 v14 v16 h8) h8 fun v18 h19 =>
  if v7 = v18 then
    f_L_law_1641 xs L k23 o1 o2 o3 x4 h19
  else
    some (0, h19))
set_option maxHeartbeats 1000000 in
theorem w_L_law_1330 (hl9 : l.stackTraces = false) (X : Cx g p s m #[Value.ref b] meth c cL_law 7 "TrapCornerLaw") (hX : SX g s s.heap) (hS : va_X b L xs s s.heap ∧ b < s.heap.size ∧ ¬ AG g b) (hR : 100 ≤ room_1.frames ∧ 7000 ≤ room_1.locals) (hr : meth.sig.returnType = ret) {res : Int32 × AH} (hr1 : res.1 = 1) (hres : res.2.1 ≤ 601024 ∧ res.2.2.1 ≤ 7293033) (hA : room_1.cells + 0 = 601024 ∧ room_1.slots + 0 = 7293033) {k23 : Nat → Nat → Nat → Int32 → AH → Option (Int32 × AH)} (hk23 : ∀ (o1 : Nat) (o2 : Nat) (o3 : Nat) (x4 : Int32) (h : AH) (ls : Array Slot) (H : Heap) (locs : List Loc) (cells slots : Nat), k23 o1 o2 o3 x4 h = some res → Iv g s 0 0 h H locs cells slots → lv_has ls 7 [(0, .ref b), (1, .ref (rfG g o1)), (2, .ref (rfG g o2)), (3, .ref (rfG g o3)), (4, .int x4)] → W p l e room_1 s m #[Value.ref b] below meth c H locs cells slots (lw_Z below #[Value.ref b] s) (F0 m 23 ls [])) : ∀ (o1 : Nat) (o2 : Nat) (o3 : Nat) (x4 : Int32) (h : AH) (ls : Array Slot) (H : Heap) (locs : List Loc) (cells slots : Nat), f_L_law_1330 xs L k23 o1 o2 o3 x4 h = some res → Iv g s 0 0 h H locs cells slots → lv_has ls 7 [(0, .ref b), (1, .ref (rfG g o1)), (2, .ref (rfG g o2)), (3, .ref (rfG g o3)), (4, .int x4)] → W p l e room_1 s m #[Value.ref b] below meth c H locs cells slots (lw_Z below #[Value.ref b] s) (F0 m 1330 ls []) := by
  have hx := X.1
  have hb := X.2.1
  intro o1 o2 o3 x4 h ls H locs cells slots hf I hl
  unfold f_L_law_1330 at hf
  obtain ⟨hbd, hf⟩ := ck_spec hf
  have hbd := lt2 hbd hres
  have hle := I.le hA hbd
  refine lv_aload_n hx hb dL_law_1330 rfl (lv_at hl 1 rfl) ?_
  refine lv_aload_n hx hb dL_law_1331 rfl (lv_at hl 0 rfl) ?_
  refine lv_iload hx hb dL_law_1332 (lv_at hl 4 rfl) ?_
  refine lv_iconst (v := 1) hx hb dL_law_1334 (by decide) ?_
  refine lv_iadd hx hb dL_law_1335 ?_
  obtain ⟨v1, e2, hf⟩ := Option.bind_eq_some_iff.mp hf
  refine r_sx X I hS e2 dL_law_1336 ?_
  refine lv_aload_n hx hb dL_law_1337 rfl (lv_at hl 0 rfl) ?_
  refine lv_iload hx hb dL_law_1338 (lv_at hl 4 rfl) ?_
  refine lv_iconst (v := 2) hx hb dL_law_1340 (by decide) ?_
  refine lv_iadd hx hb dL_law_1341 ?_
  obtain ⟨v3, e4, hf⟩ := Option.bind_eq_some_iff.mp hf
  refine r_sx X I hS e4 dL_law_1342 ?_
  refine lv_aload_n hx hb dL_law_1343 rfl (lv_at hl 0 rfl) ?_
  refine lv_iload hx hb dL_law_1344 (lv_at hl 4 rfl) ?_
  refine lv_iconst (v := 3) hx hb dL_law_1346 (by decide) ?_
  refine lv_iadd hx hb dL_law_1347 ?_
  obtain ⟨v5, e6, hf⟩ := Option.bind_eq_some_iff.mp hf
  refine r_sx X I hS e6 dL_law_1348 ?_
  obtain ⟨_, g11, hf⟩ := Option.bind_eq_some_iff.mp hf
  obtain ⟨v7, h8, e9, z10, hf⟩ := cN_spec hf
  refine k_Vi (As := [.int v1, .int v3, .int v5]) (rest := []) X I (c_X11_rests l g o1 v1 v3 v5 e9) z10 g11 vk_TrapCornerLaw_157 tw_1141 ⟨Nat.le_trans (by decide) hR.1, Nat.le_trans (by decide) hR.2⟩ hle rfl hl.1 rfl (Nat.le_of_ble_eq_true rfl) dL_law_1349 (fun H locs I => ?_)
  refine lv_aload_n hx hb dL_law_1352 rfl (lv_at hl 2 rfl) ?_
  refine lv_aload_n hx hb dL_law_1353 rfl (lv_at hl 0 rfl) ?_
  refine lv_iload hx hb dL_law_1354 (lv_at hl 4 rfl) ?_
  refine lv_iconst (v := 1) hx hb dL_law_1356 (by decide) ?_
  refine lv_iadd hx hb dL_law_1357 ?_
  obtain ⟨v12, e13, hf⟩ := Option.bind_eq_some_iff.mp hf
  refine r_sx X I hS e13 dL_law_1358 ?_
  refine lv_aload_n hx hb dL_law_1359 rfl (lv_at hl 0 rfl) ?_
  refine lv_iload hx hb dL_law_1360 (lv_at hl 4 rfl) ?_
  refine lv_iconst (v := 2) hx hb dL_law_1362 (by decide) ?_
  refine lv_iadd hx hb dL_law_1363 ?_
  obtain ⟨v14, e15, hf⟩ := Option.bind_eq_some_iff.mp hf
  refine r_sx X I hS e15 dL_law_1364 ?_
  refine lv_aload_n hx hb dL_law_1365 rfl (lv_at hl 0 rfl) ?_
  refine lv_iload hx hb dL_law_1366 (lv_at hl 4 rfl) ?_
  refine lv_iconst (v := 3) hx hb dL_law_1368 (by decide) ?_
  refine lv_iadd hx hb dL_law_1369 ?_
  obtain ⟨v16, e17, hf⟩ := Option.bind_eq_some_iff.mp hf
  refine r_sx X I hS e17 dL_law_1370 ?_
  obtain ⟨_, g22, hf⟩ := Option.bind_eq_some_iff.mp hf
  obtain ⟨v18, h19, e20, z21, hf⟩ := cN_spec hf
  refine k_Vi (As := [.int v12, .int v14, .int v16]) (rest := [.int v7]) X I (c_X12_rests l g o2 v12 v14 v16 e20) z21 g22 vk_TrapCornerLaw_160 tw_1878 ⟨Nat.le_trans (by decide) hR.1, Nat.le_trans (by decide) hR.2⟩ hle rfl hl.1 rfl (Nat.le_of_ble_eq_true rfl) dL_law_1371 (fun H locs I => ?_)
  refine lv_icmp_eq (tgt := 1641) hx hb dL_law_1374 (by decide) (fun c23 => ?_) (fun c23 => ?_)
  · rw [if_pos c23] at hf
    exact w_L_law_1641 hl9 X hX hS hR hr hr1 hres hA hk23 o1 o2 o3 x4 h19 ls H locs _ _ hf I (lv_sub hl [0, 1, 2, 3, 4] rfl)
  · rw [if_neg c23] at hf
    refine lv_iconst (v := 0) hx hb dL_law_1377 (by decide) ?_
    cases hf
    exact absurd (show (0 : Int32) = 1 from hr1) (by decide)
def f_L_law_1379 (xs : Nat → Int32) (L : Nat) (k23 : Nat → Nat → Nat → Int32 → AH → Option (Int32 × AH)) (o1 : Nat) (o2 : Nat) (o3 : Nat) (x4 : Int32) (h : AH) : Option (Int32 × AH) :=
  ck h (
  (sx xs L (x4 + 1)).bind fun v1 =>
  (sx xs L (x4 + 2)).bind fun v3 =>
  (isC [11] h o1).bind fun _ =>
  cN (f_X11_odds o1 v1 v3 h) h fun v5 h6 =>
  (sx xs L (x4 + 1)).bind fun v10 =>
  (sx xs L (x4 + 2)).bind fun v12 =>
  (isC [12] h6 o2).bind fun _ =>
  cN (f_X12_odds o2 v10 v12 h6) h6 fun v14 h15 =>
  if v5 = v14 then
    f_L_law_1641 xs L k23 o1 o2 o3 x4 h15
  else
    some (0, h15))
set_option maxHeartbeats 1000000 in
theorem w_L_law_1379 (hl9 : l.stackTraces = false) (X : Cx g p s m #[Value.ref b] meth c cL_law 7 "TrapCornerLaw") (hX : SX g s s.heap) (hS : va_X b L xs s s.heap ∧ b < s.heap.size ∧ ¬ AG g b) (hR : 100 ≤ room_1.frames ∧ 7000 ≤ room_1.locals) (hr : meth.sig.returnType = ret) {res : Int32 × AH} (hr1 : res.1 = 1) (hres : res.2.1 ≤ 601024 ∧ res.2.2.1 ≤ 7293033) (hA : room_1.cells + 0 = 601024 ∧ room_1.slots + 0 = 7293033) {k23 : Nat → Nat → Nat → Int32 → AH → Option (Int32 × AH)} (hk23 : ∀ (o1 : Nat) (o2 : Nat) (o3 : Nat) (x4 : Int32) (h : AH) (ls : Array Slot) (H : Heap) (locs : List Loc) (cells slots : Nat), k23 o1 o2 o3 x4 h = some res → Iv g s 0 0 h H locs cells slots → lv_has ls 7 [(0, .ref b), (1, .ref (rfG g o1)), (2, .ref (rfG g o2)), (3, .ref (rfG g o3)), (4, .int x4)] → W p l e room_1 s m #[Value.ref b] below meth c H locs cells slots (lw_Z below #[Value.ref b] s) (F0 m 23 ls [])) : ∀ (o1 : Nat) (o2 : Nat) (o3 : Nat) (x4 : Int32) (h : AH) (ls : Array Slot) (H : Heap) (locs : List Loc) (cells slots : Nat), f_L_law_1379 xs L k23 o1 o2 o3 x4 h = some res → Iv g s 0 0 h H locs cells slots → lv_has ls 7 [(0, .ref b), (1, .ref (rfG g o1)), (2, .ref (rfG g o2)), (3, .ref (rfG g o3)), (4, .int x4)] → W p l e room_1 s m #[Value.ref b] below meth c H locs cells slots (lw_Z below #[Value.ref b] s) (F0 m 1379 ls []) := by
  have hx := X.1
  have hb := X.2.1
  intro o1 o2 o3 x4 h ls H locs cells slots hf I hl
  unfold f_L_law_1379 at hf
  obtain ⟨hbd, hf⟩ := ck_spec hf
  have hbd := lt2 hbd hres
  have hle := I.le hA hbd
  refine lv_aload_n hx hb dL_law_1379 rfl (lv_at hl 1 rfl) ?_
  refine lv_aload_n hx hb dL_law_1380 rfl (lv_at hl 0 rfl) ?_
  refine lv_iload hx hb dL_law_1381 (lv_at hl 4 rfl) ?_
  refine lv_iconst (v := 1) hx hb dL_law_1383 (by decide) ?_
  refine lv_iadd hx hb dL_law_1384 ?_
  obtain ⟨v1, e2, hf⟩ := Option.bind_eq_some_iff.mp hf
  refine r_sx X I hS e2 dL_law_1385 ?_
  refine lv_aload_n hx hb dL_law_1386 rfl (lv_at hl 0 rfl) ?_
  refine lv_iload hx hb dL_law_1387 (lv_at hl 4 rfl) ?_
  refine lv_iconst (v := 2) hx hb dL_law_1389 (by decide) ?_
  refine lv_iadd hx hb dL_law_1390 ?_
  obtain ⟨v3, e4, hf⟩ := Option.bind_eq_some_iff.mp hf
  refine r_sx X I hS e4 dL_law_1391 ?_
  obtain ⟨_, g9, hf⟩ := Option.bind_eq_some_iff.mp hf
  obtain ⟨v5, h6, e7, z8, hf⟩ := cN_spec hf
  refine k_Vi (As := [.int v1, .int v3]) (rest := []) X I (c_X11_odds l g o1 v1 v3 e7) z8 g9 vk_TrapCornerLaw_161 tw_1149 ⟨Nat.le_trans (by decide) hR.1, Nat.le_trans (by decide) hR.2⟩ hle rfl hl.1 rfl (Nat.le_of_ble_eq_true rfl) dL_law_1392 (fun H locs I => ?_)
  refine lv_aload_n hx hb dL_law_1395 rfl (lv_at hl 2 rfl) ?_
  refine lv_aload_n hx hb dL_law_1396 rfl (lv_at hl 0 rfl) ?_
  refine lv_iload hx hb dL_law_1397 (lv_at hl 4 rfl) ?_
  refine lv_iconst (v := 1) hx hb dL_law_1399 (by decide) ?_
  refine lv_iadd hx hb dL_law_1400 ?_
  obtain ⟨v10, e11, hf⟩ := Option.bind_eq_some_iff.mp hf
  refine r_sx X I hS e11 dL_law_1401 ?_
  refine lv_aload_n hx hb dL_law_1402 rfl (lv_at hl 0 rfl) ?_
  refine lv_iload hx hb dL_law_1403 (lv_at hl 4 rfl) ?_
  refine lv_iconst (v := 2) hx hb dL_law_1405 (by decide) ?_
  refine lv_iadd hx hb dL_law_1406 ?_
  obtain ⟨v12, e13, hf⟩ := Option.bind_eq_some_iff.mp hf
  refine r_sx X I hS e13 dL_law_1407 ?_
  obtain ⟨_, g18, hf⟩ := Option.bind_eq_some_iff.mp hf
  obtain ⟨v14, h15, e16, z17, hf⟩ := cN_spec hf
  refine k_Vi (As := [.int v10, .int v12]) (rest := [.int v5]) X I (c_X12_odds l g o2 v10 v12 e16) z17 g18 vk_TrapCornerLaw_164 tw_1882 ⟨Nat.le_trans (by decide) hR.1, Nat.le_trans (by decide) hR.2⟩ hle rfl hl.1 rfl (Nat.le_of_ble_eq_true rfl) dL_law_1408 (fun H locs I => ?_)
  refine lv_icmp_eq (tgt := 1641) hx hb dL_law_1411 (by decide) (fun c19 => ?_) (fun c19 => ?_)
  · rw [if_pos c19] at hf
    exact w_L_law_1641 hl9 X hX hS hR hr hr1 hres hA hk23 o1 o2 o3 x4 h15 ls H locs _ _ hf I (lv_sub hl [0, 1, 2, 3, 4] rfl)
  · rw [if_neg c19] at hf
    refine lv_iconst (v := 0) hx hb dL_law_1414 (by decide) ?_
    cases hf
    exact absurd (show (0 : Int32) = 1 from hr1) (by decide)
def f_L_law_1416 (xs : Nat → Int32) (L : Nat) (k23 : Nat → Nat → Nat → Int32 → AH → Option (Int32 × AH)) (o1 : Nat) (o2 : Nat) (o3 : Nat) (x4 : Int32) (h : AH) : Option (Int32 × AH) :=
  ck h (
  (sx xs L (x4 + 1)).bind fun v1 =>
  (isC [11] h o1).bind fun _ =>
  cN (f_X11_lasts o1 v1 h) h fun v3 h4 =>
  (sx xs L (x4 + 1)).bind fun v8 =>
  (isC [12] h4 o2).bind fun _ =>
  cN (f_X12_lasts o2 v8 h4) h4 fun v10 h11 =>
  if v3 = v10 then
    f_L_law_1641 xs L k23 o1 o2 o3 x4 h11
  else
    some (0, h11))
set_option maxHeartbeats 1000000 in
theorem w_L_law_1416 (hl9 : l.stackTraces = false) (X : Cx g p s m #[Value.ref b] meth c cL_law 7 "TrapCornerLaw") (hX : SX g s s.heap) (hS : va_X b L xs s s.heap ∧ b < s.heap.size ∧ ¬ AG g b) (hR : 100 ≤ room_1.frames ∧ 7000 ≤ room_1.locals) (hr : meth.sig.returnType = ret) {res : Int32 × AH} (hr1 : res.1 = 1) (hres : res.2.1 ≤ 601024 ∧ res.2.2.1 ≤ 7293033) (hA : room_1.cells + 0 = 601024 ∧ room_1.slots + 0 = 7293033) {k23 : Nat → Nat → Nat → Int32 → AH → Option (Int32 × AH)} (hk23 : ∀ (o1 : Nat) (o2 : Nat) (o3 : Nat) (x4 : Int32) (h : AH) (ls : Array Slot) (H : Heap) (locs : List Loc) (cells slots : Nat), k23 o1 o2 o3 x4 h = some res → Iv g s 0 0 h H locs cells slots → lv_has ls 7 [(0, .ref b), (1, .ref (rfG g o1)), (2, .ref (rfG g o2)), (3, .ref (rfG g o3)), (4, .int x4)] → W p l e room_1 s m #[Value.ref b] below meth c H locs cells slots (lw_Z below #[Value.ref b] s) (F0 m 23 ls [])) : ∀ (o1 : Nat) (o2 : Nat) (o3 : Nat) (x4 : Int32) (h : AH) (ls : Array Slot) (H : Heap) (locs : List Loc) (cells slots : Nat), f_L_law_1416 xs L k23 o1 o2 o3 x4 h = some res → Iv g s 0 0 h H locs cells slots → lv_has ls 7 [(0, .ref b), (1, .ref (rfG g o1)), (2, .ref (rfG g o2)), (3, .ref (rfG g o3)), (4, .int x4)] → W p l e room_1 s m #[Value.ref b] below meth c H locs cells slots (lw_Z below #[Value.ref b] s) (F0 m 1416 ls []) := by
  have hx := X.1
  have hb := X.2.1
  intro o1 o2 o3 x4 h ls H locs cells slots hf I hl
  unfold f_L_law_1416 at hf
  obtain ⟨hbd, hf⟩ := ck_spec hf
  have hbd := lt2 hbd hres
  have hle := I.le hA hbd
  refine lv_aload_n hx hb dL_law_1416 rfl (lv_at hl 1 rfl) ?_
  refine lv_aload_n hx hb dL_law_1417 rfl (lv_at hl 0 rfl) ?_
  refine lv_iload hx hb dL_law_1418 (lv_at hl 4 rfl) ?_
  refine lv_iconst (v := 1) hx hb dL_law_1420 (by decide) ?_
  refine lv_iadd hx hb dL_law_1421 ?_
  obtain ⟨v1, e2, hf⟩ := Option.bind_eq_some_iff.mp hf
  refine r_sx X I hS e2 dL_law_1422 ?_
  obtain ⟨_, g7, hf⟩ := Option.bind_eq_some_iff.mp hf
  obtain ⟨v3, h4, e5, z6, hf⟩ := cN_spec hf
  refine k_Vi (As := [.int v1]) (rest := []) X I (c_X11_lasts l g o1 v1 e5) z6 g7 vk_TrapCornerLaw_165 tw_1158 ⟨Nat.le_trans (by decide) hR.1, Nat.le_trans (by decide) hR.2⟩ hle rfl hl.1 rfl (Nat.le_of_ble_eq_true rfl) dL_law_1423 (fun H locs I => ?_)
  refine lv_aload_n hx hb dL_law_1426 rfl (lv_at hl 2 rfl) ?_
  refine lv_aload_n hx hb dL_law_1427 rfl (lv_at hl 0 rfl) ?_
  refine lv_iload hx hb dL_law_1428 (lv_at hl 4 rfl) ?_
  refine lv_iconst (v := 1) hx hb dL_law_1430 (by decide) ?_
  refine lv_iadd hx hb dL_law_1431 ?_
  obtain ⟨v8, e9, hf⟩ := Option.bind_eq_some_iff.mp hf
  refine r_sx X I hS e9 dL_law_1432 ?_
  obtain ⟨_, g14, hf⟩ := Option.bind_eq_some_iff.mp hf
  obtain ⟨v10, h11, e12, z13, hf⟩ := cN_spec hf
  refine k_Vi (As := [.int v8]) (rest := [.int v3]) X I (c_X12_lasts l g o2 v8 e12) z13 g14 vk_TrapCornerLaw_168 tw_1887 ⟨Nat.le_trans (by decide) hR.1, Nat.le_trans (by decide) hR.2⟩ hle rfl hl.1 rfl (Nat.le_of_ble_eq_true rfl) dL_law_1433 (fun H locs I => ?_)
  refine lv_icmp_eq (tgt := 1641) hx hb dL_law_1436 (by decide) (fun c15 => ?_) (fun c15 => ?_)
  · rw [if_pos c15] at hf
    exact w_L_law_1641 hl9 X hX hS hR hr hr1 hres hA hk23 o1 o2 o3 x4 h11 ls H locs _ _ hf I (lv_sub hl [0, 1, 2, 3, 4] rfl)
  · rw [if_neg c15] at hf
    refine lv_iconst (v := 0) hx hb dL_law_1439 (by decide) ?_
    cases hf
    exact absurd (show (0 : Int32) = 1 from hr1) (by decide)
def f_L_law_1441 (xs : Nat → Int32) (L : Nat) (k23 : Nat → Nat → Nat → Int32 → AH → Option (Int32 × AH)) (o1 : Nat) (o2 : Nat) (o3 : Nat) (x4 : Int32) (h : AH) : Option (Int32 × AH) :=
  ck h (
  (sx xs L (x4 + 1)).bind fun v1 =>
  (isC [11] h o1).bind fun _ =>
  cN (f_X11_yearly o1 v1 h) h fun v3 h4 =>
  (sx xs L (x4 + 1)).bind fun v8 =>
  (isC [12] h4 o2).bind fun _ =>
  cN (f_X12_yearly o2 v8 h4) h4 fun v10 h11 =>
  if v3 = v10 then
    f_L_law_1641 xs L k23 o1 o2 o3 x4 h11
  else
    some (0, h11))
set_option maxHeartbeats 1000000 in
theorem w_L_law_1441 (hl9 : l.stackTraces = false) (X : Cx g p s m #[Value.ref b] meth c cL_law 7 "TrapCornerLaw") (hX : SX g s s.heap) (hS : va_X b L xs s s.heap ∧ b < s.heap.size ∧ ¬ AG g b) (hR : 100 ≤ room_1.frames ∧ 7000 ≤ room_1.locals) (hr : meth.sig.returnType = ret) {res : Int32 × AH} (hr1 : res.1 = 1) (hres : res.2.1 ≤ 601024 ∧ res.2.2.1 ≤ 7293033) (hA : room_1.cells + 0 = 601024 ∧ room_1.slots + 0 = 7293033) {k23 : Nat → Nat → Nat → Int32 → AH → Option (Int32 × AH)} (hk23 : ∀ (o1 : Nat) (o2 : Nat) (o3 : Nat) (x4 : Int32) (h : AH) (ls : Array Slot) (H : Heap) (locs : List Loc) (cells slots : Nat), k23 o1 o2 o3 x4 h = some res → Iv g s 0 0 h H locs cells slots → lv_has ls 7 [(0, .ref b), (1, .ref (rfG g o1)), (2, .ref (rfG g o2)), (3, .ref (rfG g o3)), (4, .int x4)] → W p l e room_1 s m #[Value.ref b] below meth c H locs cells slots (lw_Z below #[Value.ref b] s) (F0 m 23 ls [])) : ∀ (o1 : Nat) (o2 : Nat) (o3 : Nat) (x4 : Int32) (h : AH) (ls : Array Slot) (H : Heap) (locs : List Loc) (cells slots : Nat), f_L_law_1441 xs L k23 o1 o2 o3 x4 h = some res → Iv g s 0 0 h H locs cells slots → lv_has ls 7 [(0, .ref b), (1, .ref (rfG g o1)), (2, .ref (rfG g o2)), (3, .ref (rfG g o3)), (4, .int x4)] → W p l e room_1 s m #[Value.ref b] below meth c H locs cells slots (lw_Z below #[Value.ref b] s) (F0 m 1441 ls []) := by
  have hx := X.1
  have hb := X.2.1
  intro o1 o2 o3 x4 h ls H locs cells slots hf I hl
  unfold f_L_law_1441 at hf
  obtain ⟨hbd, hf⟩ := ck_spec hf
  have hbd := lt2 hbd hres
  have hle := I.le hA hbd
  refine lv_aload_n hx hb dL_law_1441 rfl (lv_at hl 1 rfl) ?_
  refine lv_aload_n hx hb dL_law_1442 rfl (lv_at hl 0 rfl) ?_
  refine lv_iload hx hb dL_law_1443 (lv_at hl 4 rfl) ?_
  refine lv_iconst (v := 1) hx hb dL_law_1445 (by decide) ?_
  refine lv_iadd hx hb dL_law_1446 ?_
  obtain ⟨v1, e2, hf⟩ := Option.bind_eq_some_iff.mp hf
  refine r_sx X I hS e2 dL_law_1447 ?_
  obtain ⟨_, g7, hf⟩ := Option.bind_eq_some_iff.mp hf
  obtain ⟨v3, h4, e5, z6, hf⟩ := cN_spec hf
  refine k_Vi (As := [.int v1]) (rest := []) X I (c_X11_yearly l g o1 v1 e5) z6 g7 vk_TrapCornerLaw_169 tw_1162 ⟨Nat.le_trans (by decide) hR.1, Nat.le_trans (by decide) hR.2⟩ hle rfl hl.1 rfl (Nat.le_of_ble_eq_true rfl) dL_law_1448 (fun H locs I => ?_)
  refine lv_aload_n hx hb dL_law_1451 rfl (lv_at hl 2 rfl) ?_
  refine lv_aload_n hx hb dL_law_1452 rfl (lv_at hl 0 rfl) ?_
  refine lv_iload hx hb dL_law_1453 (lv_at hl 4 rfl) ?_
  refine lv_iconst (v := 1) hx hb dL_law_1455 (by decide) ?_
  refine lv_iadd hx hb dL_law_1456 ?_
  obtain ⟨v8, e9, hf⟩ := Option.bind_eq_some_iff.mp hf
  refine r_sx X I hS e9 dL_law_1457 ?_
  obtain ⟨_, g14, hf⟩ := Option.bind_eq_some_iff.mp hf
  obtain ⟨v10, h11, e12, z13, hf⟩ := cN_spec hf
  refine k_Vi (As := [.int v8]) (rest := [.int v3]) X I (c_X12_yearly l g o2 v8 e12) z13 g14 vk_TrapCornerLaw_172 tw_1891 ⟨Nat.le_trans (by decide) hR.1, Nat.le_trans (by decide) hR.2⟩ hle rfl hl.1 rfl (Nat.le_of_ble_eq_true rfl) dL_law_1458 (fun H locs I => ?_)
  refine lv_icmp_eq (tgt := 1641) hx hb dL_law_1461 (by decide) (fun c15 => ?_) (fun c15 => ?_)
  · rw [if_pos c15] at hf
    exact w_L_law_1641 hl9 X hX hS hR hr hr1 hres hA hk23 o1 o2 o3 x4 h11 ls H locs _ _ hf I (lv_sub hl [0, 1, 2, 3, 4] rfl)
  · rw [if_neg c15] at hf
    refine lv_iconst (v := 0) hx hb dL_law_1464 (by decide) ?_
    cases hf
    exact absurd (show (0 : Int32) = 1 from hr1) (by decide)
def f_L_law_1466 (xs : Nat → Int32) (L : Nat) (k23 : Nat → Nat → Nat → Int32 → AH → Option (Int32 × AH)) (o1 : Nat) (o2 : Nat) (o3 : Nat) (x4 : Int32) (h : AH) : Option (Int32 × AH) :=
  ck h (
  (sx xs L (x4 + 1)).bind fun v1 =>
  (isC [11] h o1).bind fun _ =>
  cN (f_X11_all o1 v1 h) h fun v3 h4 =>
  (sx xs L (x4 + 1)).bind fun v8 =>
  (isC [12] h4 o2).bind fun _ =>
  cN (f_X12_all o2 v8 h4) h4 fun v10 h11 =>
  if v3 = v10 then
    f_L_law_1641 xs L k23 o1 o2 o3 x4 h11
  else
    some (0, h11))
set_option maxHeartbeats 1000000 in
theorem w_L_law_1466 (hl9 : l.stackTraces = false) (X : Cx g p s m #[Value.ref b] meth c cL_law 7 "TrapCornerLaw") (hX : SX g s s.heap) (hS : va_X b L xs s s.heap ∧ b < s.heap.size ∧ ¬ AG g b) (hR : 100 ≤ room_1.frames ∧ 7000 ≤ room_1.locals) (hr : meth.sig.returnType = ret) {res : Int32 × AH} (hr1 : res.1 = 1) (hres : res.2.1 ≤ 601024 ∧ res.2.2.1 ≤ 7293033) (hA : room_1.cells + 0 = 601024 ∧ room_1.slots + 0 = 7293033) {k23 : Nat → Nat → Nat → Int32 → AH → Option (Int32 × AH)} (hk23 : ∀ (o1 : Nat) (o2 : Nat) (o3 : Nat) (x4 : Int32) (h : AH) (ls : Array Slot) (H : Heap) (locs : List Loc) (cells slots : Nat), k23 o1 o2 o3 x4 h = some res → Iv g s 0 0 h H locs cells slots → lv_has ls 7 [(0, .ref b), (1, .ref (rfG g o1)), (2, .ref (rfG g o2)), (3, .ref (rfG g o3)), (4, .int x4)] → W p l e room_1 s m #[Value.ref b] below meth c H locs cells slots (lw_Z below #[Value.ref b] s) (F0 m 23 ls [])) : ∀ (o1 : Nat) (o2 : Nat) (o3 : Nat) (x4 : Int32) (h : AH) (ls : Array Slot) (H : Heap) (locs : List Loc) (cells slots : Nat), f_L_law_1466 xs L k23 o1 o2 o3 x4 h = some res → Iv g s 0 0 h H locs cells slots → lv_has ls 7 [(0, .ref b), (1, .ref (rfG g o1)), (2, .ref (rfG g o2)), (3, .ref (rfG g o3)), (4, .int x4)] → W p l e room_1 s m #[Value.ref b] below meth c H locs cells slots (lw_Z below #[Value.ref b] s) (F0 m 1466 ls []) := by
  have hx := X.1
  have hb := X.2.1
  intro o1 o2 o3 x4 h ls H locs cells slots hf I hl
  unfold f_L_law_1466 at hf
  obtain ⟨hbd, hf⟩ := ck_spec hf
  have hbd := lt2 hbd hres
  have hle := I.le hA hbd
  refine lv_aload_n hx hb dL_law_1466 rfl (lv_at hl 1 rfl) ?_
  refine lv_aload_n hx hb dL_law_1467 rfl (lv_at hl 0 rfl) ?_
  refine lv_iload hx hb dL_law_1468 (lv_at hl 4 rfl) ?_
  refine lv_iconst (v := 1) hx hb dL_law_1470 (by decide) ?_
  refine lv_iadd hx hb dL_law_1471 ?_
  obtain ⟨v1, e2, hf⟩ := Option.bind_eq_some_iff.mp hf
  refine r_sx X I hS e2 dL_law_1472 ?_
  obtain ⟨_, g7, hf⟩ := Option.bind_eq_some_iff.mp hf
  obtain ⟨v3, h4, e5, z6, hf⟩ := cN_spec hf
  refine k_Vi (As := [.int v1]) (rest := []) X I (c_X11_all l g o1 v1 e5) z6 g7 vk_TrapCornerLaw_173 tw_1166 ⟨Nat.le_trans (by decide) hR.1, Nat.le_trans (by decide) hR.2⟩ hle rfl hl.1 rfl (Nat.le_of_ble_eq_true rfl) dL_law_1473 (fun H locs I => ?_)
  refine lv_aload_n hx hb dL_law_1476 rfl (lv_at hl 2 rfl) ?_
  refine lv_aload_n hx hb dL_law_1477 rfl (lv_at hl 0 rfl) ?_
  refine lv_iload hx hb dL_law_1478 (lv_at hl 4 rfl) ?_
  refine lv_iconst (v := 1) hx hb dL_law_1480 (by decide) ?_
  refine lv_iadd hx hb dL_law_1481 ?_
  obtain ⟨v8, e9, hf⟩ := Option.bind_eq_some_iff.mp hf
  refine r_sx X I hS e9 dL_law_1482 ?_
  obtain ⟨_, g14, hf⟩ := Option.bind_eq_some_iff.mp hf
  obtain ⟨v10, h11, e12, z13, hf⟩ := cN_spec hf
  refine k_Vi (As := [.int v8]) (rest := [.int v3]) X I (c_X12_all l g o2 v8 e12) z13 g14 vk_TrapCornerLaw_176 tw_1895 ⟨Nat.le_trans (by decide) hR.1, Nat.le_trans (by decide) hR.2⟩ hle rfl hl.1 rfl (Nat.le_of_ble_eq_true rfl) dL_law_1483 (fun H locs I => ?_)
  refine lv_icmp_eq (tgt := 1641) hx hb dL_law_1486 (by decide) (fun c15 => ?_) (fun c15 => ?_)
  · rw [if_pos c15] at hf
    exact w_L_law_1641 hl9 X hX hS hR hr hr1 hres hA hk23 o1 o2 o3 x4 h11 ls H locs _ _ hf I (lv_sub hl [0, 1, 2, 3, 4] rfl)
  · rw [if_neg c15] at hf
    refine lv_iconst (v := 0) hx hb dL_law_1489 (by decide) ?_
    cases hf
    exact absurd (show (0 : Int32) = 1 from hr1) (by decide)
def f_L_law_1491 (xs : Nat → Int32) (L : Nat) (k23 : Nat → Nat → Nat → Int32 → AH → Option (Int32 × AH)) (o1 : Nat) (o2 : Nat) (o3 : Nat) (x4 : Int32) (h : AH) : Option (Int32 × AH) :=
  ck h (
  (sx xs L (x4 + 1)).bind fun v1 =>
  (isC [11] h o1).bind fun _ =>
  cN (f_X11_kinds o1 v1 h) h fun v3 h4 =>
  (sx xs L (x4 + 1)).bind fun v8 =>
  (isC [12] h4 o2).bind fun _ =>
  cN (f_X12_kinds o2 v8 h4) h4 fun v10 h11 =>
  if v3 = v10 then
    f_L_law_1641 xs L k23 o1 o2 o3 x4 h11
  else
    some (0, h11))
set_option maxHeartbeats 1000000 in
theorem w_L_law_1491 (hl9 : l.stackTraces = false) (X : Cx g p s m #[Value.ref b] meth c cL_law 7 "TrapCornerLaw") (hX : SX g s s.heap) (hS : va_X b L xs s s.heap ∧ b < s.heap.size ∧ ¬ AG g b) (hR : 100 ≤ room_1.frames ∧ 7000 ≤ room_1.locals) (hr : meth.sig.returnType = ret) {res : Int32 × AH} (hr1 : res.1 = 1) (hres : res.2.1 ≤ 601024 ∧ res.2.2.1 ≤ 7293033) (hA : room_1.cells + 0 = 601024 ∧ room_1.slots + 0 = 7293033) {k23 : Nat → Nat → Nat → Int32 → AH → Option (Int32 × AH)} (hk23 : ∀ (o1 : Nat) (o2 : Nat) (o3 : Nat) (x4 : Int32) (h : AH) (ls : Array Slot) (H : Heap) (locs : List Loc) (cells slots : Nat), k23 o1 o2 o3 x4 h = some res → Iv g s 0 0 h H locs cells slots → lv_has ls 7 [(0, .ref b), (1, .ref (rfG g o1)), (2, .ref (rfG g o2)), (3, .ref (rfG g o3)), (4, .int x4)] → W p l e room_1 s m #[Value.ref b] below meth c H locs cells slots (lw_Z below #[Value.ref b] s) (F0 m 23 ls [])) : ∀ (o1 : Nat) (o2 : Nat) (o3 : Nat) (x4 : Int32) (h : AH) (ls : Array Slot) (H : Heap) (locs : List Loc) (cells slots : Nat), f_L_law_1491 xs L k23 o1 o2 o3 x4 h = some res → Iv g s 0 0 h H locs cells slots → lv_has ls 7 [(0, .ref b), (1, .ref (rfG g o1)), (2, .ref (rfG g o2)), (3, .ref (rfG g o3)), (4, .int x4)] → W p l e room_1 s m #[Value.ref b] below meth c H locs cells slots (lw_Z below #[Value.ref b] s) (F0 m 1491 ls []) := by
  have hx := X.1
  have hb := X.2.1
  intro o1 o2 o3 x4 h ls H locs cells slots hf I hl
  unfold f_L_law_1491 at hf
  obtain ⟨hbd, hf⟩ := ck_spec hf
  have hbd := lt2 hbd hres
  have hle := I.le hA hbd
  refine lv_aload_n hx hb dL_law_1491 rfl (lv_at hl 1 rfl) ?_
  refine lv_aload_n hx hb dL_law_1492 rfl (lv_at hl 0 rfl) ?_
  refine lv_iload hx hb dL_law_1493 (lv_at hl 4 rfl) ?_
  refine lv_iconst (v := 1) hx hb dL_law_1495 (by decide) ?_
  refine lv_iadd hx hb dL_law_1496 ?_
  obtain ⟨v1, e2, hf⟩ := Option.bind_eq_some_iff.mp hf
  refine r_sx X I hS e2 dL_law_1497 ?_
  obtain ⟨_, g7, hf⟩ := Option.bind_eq_some_iff.mp hf
  obtain ⟨v3, h4, e5, z6, hf⟩ := cN_spec hf
  refine k_Vi (As := [.int v1]) (rest := []) X I (c_X11_kinds l g o1 v1 e5) z6 g7 vk_TrapCornerLaw_177 tw_1197 ⟨Nat.le_trans (by decide) hR.1, Nat.le_trans (by decide) hR.2⟩ hle rfl hl.1 rfl (Nat.le_of_ble_eq_true rfl) dL_law_1498 (fun H locs I => ?_)
  refine lv_aload_n hx hb dL_law_1501 rfl (lv_at hl 2 rfl) ?_
  refine lv_aload_n hx hb dL_law_1502 rfl (lv_at hl 0 rfl) ?_
  refine lv_iload hx hb dL_law_1503 (lv_at hl 4 rfl) ?_
  refine lv_iconst (v := 1) hx hb dL_law_1505 (by decide) ?_
  refine lv_iadd hx hb dL_law_1506 ?_
  obtain ⟨v8, e9, hf⟩ := Option.bind_eq_some_iff.mp hf
  refine r_sx X I hS e9 dL_law_1507 ?_
  obtain ⟨_, g14, hf⟩ := Option.bind_eq_some_iff.mp hf
  obtain ⟨v10, h11, e12, z13, hf⟩ := cN_spec hf
  refine k_Vi (As := [.int v8]) (rest := [.int v3]) X I (c_X12_kinds l g o2 v8 e12) z13 g14 vk_TrapCornerLaw_180 tw_1915 ⟨Nat.le_trans (by decide) hR.1, Nat.le_trans (by decide) hR.2⟩ hle rfl hl.1 rfl (Nat.le_of_ble_eq_true rfl) dL_law_1508 (fun H locs I => ?_)
  refine lv_icmp_eq (tgt := 1641) hx hb dL_law_1511 (by decide) (fun c15 => ?_) (fun c15 => ?_)
  · rw [if_pos c15] at hf
    exact w_L_law_1641 hl9 X hX hS hR hr hr1 hres hA hk23 o1 o2 o3 x4 h11 ls H locs _ _ hf I (lv_sub hl [0, 1, 2, 3, 4] rfl)
  · rw [if_neg c15] at hf
    refine lv_iconst (v := 0) hx hb dL_law_1514 (by decide) ?_
    cases hf
    exact absurd (show (0 : Int32) = 1 from hr1) (by decide)
def f_L_law_1516 (xs : Nat → Int32) (L : Nat) (k23 : Nat → Nat → Nat → Int32 → AH → Option (Int32 × AH)) (o1 : Nat) (o2 : Nat) (o3 : Nat) (x4 : Int32) (h : AH) : Option (Int32 × AH) :=
  ck h (
  (sx xs L (x4 + 1)).bind fun v1 =>
  (sx xs L (x4 + 2)).bind fun v3 =>
  (isC [11] h o1).bind fun _ =>
  cN (f_X11_needs o1 v1 v3 h) h fun v5 h6 =>
  (sx xs L (x4 + 1)).bind fun v10 =>
  (sx xs L (x4 + 2)).bind fun v12 =>
  (isC [12] h6 o2).bind fun _ =>
  cN (f_X12_needs o2 v10 v12 h6) h6 fun v14 h15 =>
  if v5 = v14 then
    f_L_law_1641 xs L k23 o1 o2 o3 x4 h15
  else
    some (0, h15))
set_option maxHeartbeats 1000000 in
theorem w_L_law_1516 (hl9 : l.stackTraces = false) (X : Cx g p s m #[Value.ref b] meth c cL_law 7 "TrapCornerLaw") (hX : SX g s s.heap) (hS : va_X b L xs s s.heap ∧ b < s.heap.size ∧ ¬ AG g b) (hR : 100 ≤ room_1.frames ∧ 7000 ≤ room_1.locals) (hr : meth.sig.returnType = ret) {res : Int32 × AH} (hr1 : res.1 = 1) (hres : res.2.1 ≤ 601024 ∧ res.2.2.1 ≤ 7293033) (hA : room_1.cells + 0 = 601024 ∧ room_1.slots + 0 = 7293033) {k23 : Nat → Nat → Nat → Int32 → AH → Option (Int32 × AH)} (hk23 : ∀ (o1 : Nat) (o2 : Nat) (o3 : Nat) (x4 : Int32) (h : AH) (ls : Array Slot) (H : Heap) (locs : List Loc) (cells slots : Nat), k23 o1 o2 o3 x4 h = some res → Iv g s 0 0 h H locs cells slots → lv_has ls 7 [(0, .ref b), (1, .ref (rfG g o1)), (2, .ref (rfG g o2)), (3, .ref (rfG g o3)), (4, .int x4)] → W p l e room_1 s m #[Value.ref b] below meth c H locs cells slots (lw_Z below #[Value.ref b] s) (F0 m 23 ls [])) : ∀ (o1 : Nat) (o2 : Nat) (o3 : Nat) (x4 : Int32) (h : AH) (ls : Array Slot) (H : Heap) (locs : List Loc) (cells slots : Nat), f_L_law_1516 xs L k23 o1 o2 o3 x4 h = some res → Iv g s 0 0 h H locs cells slots → lv_has ls 7 [(0, .ref b), (1, .ref (rfG g o1)), (2, .ref (rfG g o2)), (3, .ref (rfG g o3)), (4, .int x4)] → W p l e room_1 s m #[Value.ref b] below meth c H locs cells slots (lw_Z below #[Value.ref b] s) (F0 m 1516 ls []) := by
  have hx := X.1
  have hb := X.2.1
  intro o1 o2 o3 x4 h ls H locs cells slots hf I hl
  unfold f_L_law_1516 at hf
  obtain ⟨hbd, hf⟩ := ck_spec hf
  have hbd := lt2 hbd hres
  have hle := I.le hA hbd
  refine lv_aload_n hx hb dL_law_1516 rfl (lv_at hl 1 rfl) ?_
  refine lv_aload_n hx hb dL_law_1517 rfl (lv_at hl 0 rfl) ?_
  refine lv_iload hx hb dL_law_1518 (lv_at hl 4 rfl) ?_
  refine lv_iconst (v := 1) hx hb dL_law_1520 (by decide) ?_
  refine lv_iadd hx hb dL_law_1521 ?_
  obtain ⟨v1, e2, hf⟩ := Option.bind_eq_some_iff.mp hf
  refine r_sx X I hS e2 dL_law_1522 ?_
  refine lv_aload_n hx hb dL_law_1523 rfl (lv_at hl 0 rfl) ?_
  refine lv_iload hx hb dL_law_1524 (lv_at hl 4 rfl) ?_
  refine lv_iconst (v := 2) hx hb dL_law_1526 (by decide) ?_
  refine lv_iadd hx hb dL_law_1527 ?_
  obtain ⟨v3, e4, hf⟩ := Option.bind_eq_some_iff.mp hf
  refine r_sx X I hS e4 dL_law_1528 ?_
  obtain ⟨_, g9, hf⟩ := Option.bind_eq_some_iff.mp hf
  obtain ⟨v5, h6, e7, z8, hf⟩ := cN_spec hf
  refine k_Vi (As := [.int v1, .int v3]) (rest := []) X I (c_X11_needs l g o1 v1 v3 e7) z8 g9 vk_TrapCornerLaw_181 tw_1201 ⟨Nat.le_trans (by decide) hR.1, Nat.le_trans (by decide) hR.2⟩ hle rfl hl.1 rfl (Nat.le_of_ble_eq_true rfl) dL_law_1529 (fun H locs I => ?_)
  refine lv_aload_n hx hb dL_law_1532 rfl (lv_at hl 2 rfl) ?_
  refine lv_aload_n hx hb dL_law_1533 rfl (lv_at hl 0 rfl) ?_
  refine lv_iload hx hb dL_law_1534 (lv_at hl 4 rfl) ?_
  refine lv_iconst (v := 1) hx hb dL_law_1536 (by decide) ?_
  refine lv_iadd hx hb dL_law_1537 ?_
  obtain ⟨v10, e11, hf⟩ := Option.bind_eq_some_iff.mp hf
  refine r_sx X I hS e11 dL_law_1538 ?_
  refine lv_aload_n hx hb dL_law_1539 rfl (lv_at hl 0 rfl) ?_
  refine lv_iload hx hb dL_law_1540 (lv_at hl 4 rfl) ?_
  refine lv_iconst (v := 2) hx hb dL_law_1542 (by decide) ?_
  refine lv_iadd hx hb dL_law_1543 ?_
  obtain ⟨v12, e13, hf⟩ := Option.bind_eq_some_iff.mp hf
  refine r_sx X I hS e13 dL_law_1544 ?_
  obtain ⟨_, g18, hf⟩ := Option.bind_eq_some_iff.mp hf
  obtain ⟨v14, h15, e16, z17, hf⟩ := cN_spec hf
  refine k_Vi (As := [.int v10, .int v12]) (rest := [.int v5]) X I (c_X12_needs l g o2 v10 v12 e16) z17 g18 vk_TrapCornerLaw_184 tw_1919 ⟨Nat.le_trans (by decide) hR.1, Nat.le_trans (by decide) hR.2⟩ hle rfl hl.1 rfl (Nat.le_of_ble_eq_true rfl) dL_law_1545 (fun H locs I => ?_)
  refine lv_icmp_eq (tgt := 1641) hx hb dL_law_1548 (by decide) (fun c19 => ?_) (fun c19 => ?_)
  · rw [if_pos c19] at hf
    exact w_L_law_1641 hl9 X hX hS hR hr hr1 hres hA hk23 o1 o2 o3 x4 h15 ls H locs _ _ hf I (lv_sub hl [0, 1, 2, 3, 4] rfl)
  · rw [if_neg c19] at hf
    refine lv_iconst (v := 0) hx hb dL_law_1551 (by decide) ?_
    cases hf
    exact absurd (show (0 : Int32) = 1 from hr1) (by decide)
def f_L_law_1553 (xs : Nat → Int32) (L : Nat) (k23 : Nat → Nat → Nat → Int32 → AH → Option (Int32 × AH)) (o1 : Nat) (o2 : Nat) (o3 : Nat) (x4 : Int32) (h : AH) : Option (Int32 × AH) :=
  ck h (
  (sx xs L (x4 + 1)).bind fun v1 =>
  (sx xs L (x4 + 2)).bind fun v3 =>
  (isC [11] h o1).bind fun _ =>
  cN (f_X11_shares o1 v1 v3 h) h fun v5 h6 =>
  (sx xs L (x4 + 1)).bind fun v10 =>
  (sx xs L (x4 + 2)).bind fun v12 =>
  (isC [12] h6 o2).bind fun _ =>
  cN (f_X12_shares o2 v10 v12 h6) h6 fun v14 h15 =>
  if v5 = v14 then
    f_L_law_1641 xs L k23 o1 o2 o3 x4 h15
  else
    some (0, h15))
set_option maxHeartbeats 1000000 in
theorem w_L_law_1553 (hl9 : l.stackTraces = false) (X : Cx g p s m #[Value.ref b] meth c cL_law 7 "TrapCornerLaw") (hX : SX g s s.heap) (hS : va_X b L xs s s.heap ∧ b < s.heap.size ∧ ¬ AG g b) (hR : 100 ≤ room_1.frames ∧ 7000 ≤ room_1.locals) (hr : meth.sig.returnType = ret) {res : Int32 × AH} (hr1 : res.1 = 1) (hres : res.2.1 ≤ 601024 ∧ res.2.2.1 ≤ 7293033) (hA : room_1.cells + 0 = 601024 ∧ room_1.slots + 0 = 7293033) {k23 : Nat → Nat → Nat → Int32 → AH → Option (Int32 × AH)} (hk23 : ∀ (o1 : Nat) (o2 : Nat) (o3 : Nat) (x4 : Int32) (h : AH) (ls : Array Slot) (H : Heap) (locs : List Loc) (cells slots : Nat), k23 o1 o2 o3 x4 h = some res → Iv g s 0 0 h H locs cells slots → lv_has ls 7 [(0, .ref b), (1, .ref (rfG g o1)), (2, .ref (rfG g o2)), (3, .ref (rfG g o3)), (4, .int x4)] → W p l e room_1 s m #[Value.ref b] below meth c H locs cells slots (lw_Z below #[Value.ref b] s) (F0 m 23 ls [])) : ∀ (o1 : Nat) (o2 : Nat) (o3 : Nat) (x4 : Int32) (h : AH) (ls : Array Slot) (H : Heap) (locs : List Loc) (cells slots : Nat), f_L_law_1553 xs L k23 o1 o2 o3 x4 h = some res → Iv g s 0 0 h H locs cells slots → lv_has ls 7 [(0, .ref b), (1, .ref (rfG g o1)), (2, .ref (rfG g o2)), (3, .ref (rfG g o3)), (4, .int x4)] → W p l e room_1 s m #[Value.ref b] below meth c H locs cells slots (lw_Z below #[Value.ref b] s) (F0 m 1553 ls []) := by
  have hx := X.1
  have hb := X.2.1
  intro o1 o2 o3 x4 h ls H locs cells slots hf I hl
  unfold f_L_law_1553 at hf
  obtain ⟨hbd, hf⟩ := ck_spec hf
  have hbd := lt2 hbd hres
  have hle := I.le hA hbd
  refine lv_aload_n hx hb dL_law_1553 rfl (lv_at hl 1 rfl) ?_
  refine lv_aload_n hx hb dL_law_1554 rfl (lv_at hl 0 rfl) ?_
  refine lv_iload hx hb dL_law_1555 (lv_at hl 4 rfl) ?_
  refine lv_iconst (v := 1) hx hb dL_law_1557 (by decide) ?_
  refine lv_iadd hx hb dL_law_1558 ?_
  obtain ⟨v1, e2, hf⟩ := Option.bind_eq_some_iff.mp hf
  refine r_sx X I hS e2 dL_law_1559 ?_
  refine lv_aload_n hx hb dL_law_1560 rfl (lv_at hl 0 rfl) ?_
  refine lv_iload hx hb dL_law_1561 (lv_at hl 4 rfl) ?_
  refine lv_iconst (v := 2) hx hb dL_law_1563 (by decide) ?_
  refine lv_iadd hx hb dL_law_1564 ?_
  obtain ⟨v3, e4, hf⟩ := Option.bind_eq_some_iff.mp hf
  refine r_sx X I hS e4 dL_law_1565 ?_
  obtain ⟨_, g9, hf⟩ := Option.bind_eq_some_iff.mp hf
  obtain ⟨v5, h6, e7, z8, hf⟩ := cN_spec hf
  refine k_Vi (As := [.int v1, .int v3]) (rest := []) X I (c_X11_shares l g o1 v1 v3 e7) z8 g9 vk_TrapCornerLaw_185 tw_1205 ⟨Nat.le_trans (by decide) hR.1, Nat.le_trans (by decide) hR.2⟩ hle rfl hl.1 rfl (Nat.le_of_ble_eq_true rfl) dL_law_1566 (fun H locs I => ?_)
  refine lv_aload_n hx hb dL_law_1569 rfl (lv_at hl 2 rfl) ?_
  refine lv_aload_n hx hb dL_law_1570 rfl (lv_at hl 0 rfl) ?_
  refine lv_iload hx hb dL_law_1571 (lv_at hl 4 rfl) ?_
  refine lv_iconst (v := 1) hx hb dL_law_1573 (by decide) ?_
  refine lv_iadd hx hb dL_law_1574 ?_
  obtain ⟨v10, e11, hf⟩ := Option.bind_eq_some_iff.mp hf
  refine r_sx X I hS e11 dL_law_1575 ?_
  refine lv_aload_n hx hb dL_law_1576 rfl (lv_at hl 0 rfl) ?_
  refine lv_iload hx hb dL_law_1577 (lv_at hl 4 rfl) ?_
  refine lv_iconst (v := 2) hx hb dL_law_1579 (by decide) ?_
  refine lv_iadd hx hb dL_law_1580 ?_
  obtain ⟨v12, e13, hf⟩ := Option.bind_eq_some_iff.mp hf
  refine r_sx X I hS e13 dL_law_1581 ?_
  obtain ⟨_, g18, hf⟩ := Option.bind_eq_some_iff.mp hf
  obtain ⟨v14, h15, e16, z17, hf⟩ := cN_spec hf
  refine k_Vi (As := [.int v10, .int v12]) (rest := [.int v5]) X I (c_X12_shares l g o2 v10 v12 e16) z17 g18 vk_TrapCornerLaw_188 tw_1923 ⟨Nat.le_trans (by decide) hR.1, Nat.le_trans (by decide) hR.2⟩ hle rfl hl.1 rfl (Nat.le_of_ble_eq_true rfl) dL_law_1582 (fun H locs I => ?_)
  refine lv_icmp_eq (tgt := 1641) hx hb dL_law_1585 (by decide) (fun c19 => ?_) (fun c19 => ?_)
  · rw [if_pos c19] at hf
    exact w_L_law_1641 hl9 X hX hS hR hr hr1 hres hA hk23 o1 o2 o3 x4 h15 ls H locs _ _ hf I (lv_sub hl [0, 1, 2, 3, 4] rfl)
  · rw [if_neg c19] at hf
    refine lv_iconst (v := 0) hx hb dL_law_1588 (by decide) ?_
    cases hf
    exact absurd (show (0 : Int32) = 1 from hr1) (by decide)
end
