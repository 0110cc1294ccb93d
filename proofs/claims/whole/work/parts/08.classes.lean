/-! The classes, with their words. -/
theorem ckw_0 : ∀ w ∈ u_ws RX0 TX0 6, w ∈ TB := by
  show ∀ w ∈ [u_lay RX0 TX0 0, u_lay RX0 TX0 1, u_lay RX0 TX0 2, u_lay RX0 TX0 3, u_lay RX0 TX0 4, u_lay RX0 TX0 5], w ∈ TB
  exact List.forall_mem_cons.mpr ⟨tw_153, List.forall_mem_cons.mpr ⟨tw_155, List.forall_mem_cons.mpr ⟨tw_157, List.forall_mem_cons.mpr ⟨tw_147, List.forall_mem_cons.mpr ⟨tw_149, List.forall_mem_cons.mpr ⟨tw_151, fun _ hw => absurd hw List.not_mem_nil⟩⟩⟩⟩⟩⟩
theorem ck_0 : CK 0 RX0 TX0 6 := ⟨rfl, ckw_0, ⟨tyX0, tyX0_ok⟩, nmX0⟩
theorem ckw_1 : ∀ w ∈ u_ws RX1 TX1 7, w ∈ TB := by
  show ∀ w ∈ [u_lay RX1 TX1 0, u_lay RX1 TX1 1, u_lay RX1 TX1 2, u_lay RX1 TX1 3, u_lay RX1 TX1 4, u_lay RX1 TX1 5, u_lay RX1 TX1 6], w ∈ TB
  exact List.forall_mem_cons.mpr ⟨tw_259, List.forall_mem_cons.mpr ⟨tw_261, List.forall_mem_cons.mpr ⟨tw_263, List.forall_mem_cons.mpr ⟨tw_265, List.forall_mem_cons.mpr ⟨tw_267, List.forall_mem_cons.mpr ⟨tw_269, List.forall_mem_cons.mpr ⟨tw_271, fun _ hw => absurd hw List.not_mem_nil⟩⟩⟩⟩⟩⟩⟩
theorem ck_1 : CK 1 RX1 TX1 7 := ⟨rfl, ckw_1, ⟨tyX1, tyX1_ok⟩, nmX1⟩
theorem ckw_2 : ∀ w ∈ u_ws RX2 TX2 5, w ∈ TB := by
  show ∀ w ∈ [u_lay RX2 TX2 0, u_lay RX2 TX2 1, u_lay RX2 TX2 2, u_lay RX2 TX2 3, u_lay RX2 TX2 4], w ∈ TB
  exact List.forall_mem_cons.mpr ⟨tw_172, List.forall_mem_cons.mpr ⟨tw_173, List.forall_mem_cons.mpr ⟨tw_174, List.forall_mem_cons.mpr ⟨tw_168, List.forall_mem_cons.mpr ⟨tw_170, fun _ hw => absurd hw List.not_mem_nil⟩⟩⟩⟩⟩
theorem ck_2 : CK 2 RX2 TX2 5 := ⟨rfl, ckw_2, ⟨tyX2, tyX2_ok⟩, nmX2⟩
theorem ckw_3 : ∀ w ∈ u_ws RX3 TX3 5, w ∈ TB := by
  show ∀ w ∈ [u_lay RX3 TX3 0, u_lay RX3 TX3 1, u_lay RX3 TX3 2, u_lay RX3 TX3 3, u_lay RX3 TX3 4], w ∈ TB
  exact List.forall_mem_cons.mpr ⟨tw_188, List.forall_mem_cons.mpr ⟨tw_189, List.forall_mem_cons.mpr ⟨tw_190, List.forall_mem_cons.mpr ⟨tw_184, List.forall_mem_cons.mpr ⟨tw_186, fun _ hw => absurd hw List.not_mem_nil⟩⟩⟩⟩⟩
theorem ck_3 : CK 3 RX3 TX3 5 := ⟨rfl, ckw_3, ⟨tyX3, tyX3_ok⟩, nmX3⟩
theorem ckw_4 : ∀ w ∈ u_ws RX4 TX4 4, w ∈ TB := by
  show ∀ w ∈ [u_lay RX4 TX4 0, u_lay RX4 TX4 1, u_lay RX4 TX4 2, u_lay RX4 TX4 3], w ∈ TB
  exact List.forall_mem_cons.mpr ⟨tw_285, List.forall_mem_cons.mpr ⟨tw_287, List.forall_mem_cons.mpr ⟨tw_289, List.forall_mem_cons.mpr ⟨tw_291, fun _ hw => absurd hw List.not_mem_nil⟩⟩⟩⟩
theorem ck_4 : CK 4 RX4 TX4 4 := ⟨rfl, ckw_4, ⟨tyX4, tyX4_ok⟩, nmX4⟩
theorem ckw_6 : ∀ w ∈ u_ws RX6 TX6 7, w ∈ TB := by
  show ∀ w ∈ [u_lay RX6 TX6 0, u_lay RX6 TX6 1, u_lay RX6 TX6 2, u_lay RX6 TX6 3, u_lay RX6 TX6 4, u_lay RX6 TX6 5, u_lay RX6 TX6 6], w ∈ TB
  exact List.forall_mem_cons.mpr ⟨tw_310, List.forall_mem_cons.mpr ⟨tw_312, List.forall_mem_cons.mpr ⟨tw_314, List.forall_mem_cons.mpr ⟨tw_316, List.forall_mem_cons.mpr ⟨tw_318, List.forall_mem_cons.mpr ⟨tw_320, List.forall_mem_cons.mpr ⟨tw_322, fun _ hw => absurd hw List.not_mem_nil⟩⟩⟩⟩⟩⟩⟩
theorem ck_6 : CK 6 RX6 TX6 7 := ⟨rfl, ckw_6, ⟨tyX6, tyX6_ok⟩, nmX6⟩
theorem ckw_7 : ∀ w ∈ u_ws RX7 TX7 9, w ∈ TB := by
  show ∀ w ∈ [u_lay RX7 TX7 0, u_lay RX7 TX7 1, u_lay RX7 TX7 2, u_lay RX7 TX7 3, u_lay RX7 TX7 4, u_lay RX7 TX7 5, u_lay RX7 TX7 6, u_lay RX7 TX7 7, u_lay RX7 TX7 8], w ∈ TB
  exact List.forall_mem_cons.mpr ⟨tw_343, List.forall_mem_cons.mpr ⟨tw_345, List.forall_mem_cons.mpr ⟨tw_347, List.forall_mem_cons.mpr ⟨tw_349, List.forall_mem_cons.mpr ⟨tw_351, List.forall_mem_cons.mpr ⟨tw_353, List.forall_mem_cons.mpr ⟨tw_355, List.forall_mem_cons.mpr ⟨tw_357, List.forall_mem_cons.mpr ⟨tw_359, fun _ hw => absurd hw List.not_mem_nil⟩⟩⟩⟩⟩⟩⟩⟩⟩
theorem ck_7 : CK 7 RX7 TX7 9 := ⟨rfl, ckw_7, ⟨tyX7, tyX7_ok⟩, nmX7⟩
theorem ckw_8 : ∀ w ∈ u_ws RX8 TX8 8, w ∈ TB := by
  show ∀ w ∈ [u_lay RX8 TX8 0, u_lay RX8 TX8 1, u_lay RX8 TX8 2, u_lay RX8 TX8 3, u_lay RX8 TX8 4, u_lay RX8 TX8 5, u_lay RX8 TX8 6, u_lay RX8 TX8 7], w ∈ TB
  exact List.forall_mem_cons.mpr ⟨tw_224, List.forall_mem_cons.mpr ⟨tw_226, List.forall_mem_cons.mpr ⟨tw_228, List.forall_mem_cons.mpr ⟨tw_230, List.forall_mem_cons.mpr ⟨tw_232, List.forall_mem_cons.mpr ⟨tw_234, List.forall_mem_cons.mpr ⟨tw_236, List.forall_mem_cons.mpr ⟨tw_238, fun _ hw => absurd hw List.not_mem_nil⟩⟩⟩⟩⟩⟩⟩⟩
theorem ck_8 : CK 8 RX8 TX8 8 := ⟨rfl, ckw_8, ⟨tyX8, tyX8_ok⟩, nmX8⟩
theorem ckw_9 : ∀ w ∈ u_ws RX9 TX9 2, w ∈ TB := by
  show ∀ w ∈ [u_lay RX9 TX9 0, u_lay RX9 TX9 1], w ∈ TB
  exact List.forall_mem_cons.mpr ⟨tw_47, List.forall_mem_cons.mpr ⟨tw_49, fun _ hw => absurd hw List.not_mem_nil⟩⟩
theorem ck_9 : CK 9 RX9 TX9 2 := ⟨rfl, ckw_9, ⟨tyX9, tyX9_ok⟩, nmX9⟩
theorem ckw_10 : ∀ w ∈ u_ws RX10 TX10 13, w ∈ TB := by
  show ∀ w ∈ [u_lay RX10 TX10 0, u_lay RX10 TX10 1, u_lay RX10 TX10 2, u_lay RX10 TX10 3, u_lay RX10 TX10 4, u_lay RX10 TX10 5, u_lay RX10 TX10 6, u_lay RX10 TX10 7, u_lay RX10 TX10 8, u_lay RX10 TX10 9, u_lay RX10 TX10 10, u_lay RX10 TX10 11, u_lay RX10 TX10 12], w ∈ TB
  exact List.forall_mem_cons.mpr ⟨tw_104, List.forall_mem_cons.mpr ⟨tw_106, List.forall_mem_cons.mpr ⟨tw_108, List.forall_mem_cons.mpr ⟨tw_110, List.forall_mem_cons.mpr ⟨tw_112, List.forall_mem_cons.mpr ⟨tw_114, List.forall_mem_cons.mpr ⟨tw_116, List.forall_mem_cons.mpr ⟨tw_118, List.forall_mem_cons.mpr ⟨tw_120, List.forall_mem_cons.mpr ⟨tw_122, List.forall_mem_cons.mpr ⟨tw_124, List.forall_mem_cons.mpr ⟨tw_126, List.forall_mem_cons.mpr ⟨tw_128, fun _ hw => absurd hw List.not_mem_nil⟩⟩⟩⟩⟩⟩⟩⟩⟩⟩⟩⟩⟩
theorem ck_10 : CK 10 RX10 TX10 13 := ⟨rfl, ckw_10, ⟨tyX10, tyX10_ok⟩, nmX10⟩
theorem ckw_11 : ∀ w ∈ u_ws RX11 TX11 19, w ∈ TB := by
  show ∀ w ∈ [u_lay RX11 TX11 0, u_lay RX11 TX11 1, u_lay RX11 TX11 2, u_lay RX11 TX11 3, u_lay RX11 TX11 4, u_lay RX11 TX11 5, u_lay RX11 TX11 6, u_lay RX11 TX11 7, u_lay RX11 TX11 8, u_lay RX11 TX11 9, u_lay RX11 TX11 10, u_lay RX11 TX11 11, u_lay RX11 TX11 12, u_lay RX11 TX11 13, u_lay RX11 TX11 14, u_lay RX11 TX11 15, u_lay RX11 TX11 16, u_lay RX11 TX11 17, u_lay RX11 TX11 18], w ∈ TB
  exact List.forall_mem_cons.mpr ⟨tw_384, List.forall_mem_cons.mpr ⟨tw_386, List.forall_mem_cons.mpr ⟨tw_388, List.forall_mem_cons.mpr ⟨tw_390, List.forall_mem_cons.mpr ⟨tw_392, List.forall_mem_cons.mpr ⟨tw_394, List.forall_mem_cons.mpr ⟨tw_396, List.forall_mem_cons.mpr ⟨tw_398, List.forall_mem_cons.mpr ⟨tw_400, List.forall_mem_cons.mpr ⟨tw_402, List.forall_mem_cons.mpr ⟨tw_404, List.forall_mem_cons.mpr ⟨tw_406, List.forall_mem_cons.mpr ⟨tw_408, List.forall_mem_cons.mpr ⟨tw_410, List.forall_mem_cons.mpr ⟨tw_412, List.forall_mem_cons.mpr ⟨tw_414, List.forall_mem_cons.mpr ⟨tw_416, List.forall_mem_cons.mpr ⟨tw_418, List.forall_mem_cons.mpr ⟨tw_420, fun _ hw => absurd hw List.not_mem_nil⟩⟩⟩⟩⟩⟩⟩⟩⟩⟩⟩⟩⟩⟩⟩⟩⟩⟩⟩
theorem ck_11 : CK 11 RX11 TX11 19 := ⟨rfl, ckw_11, ⟨tyX11, tyX11_ok⟩, nmX11⟩
theorem ckw_12 : ∀ w ∈ u_ws RX12 TX12 50, w ∈ TB := by
  show ∀ w ∈ [u_lay RX12 TX12 0, u_lay RX12 TX12 1, u_lay RX12 TX12 2, u_lay RX12 TX12 3, u_lay RX12 TX12 4, u_lay RX12 TX12 5, u_lay RX12 TX12 6, u_lay RX12 TX12 7, u_lay RX12 TX12 8, u_lay RX12 TX12 9, u_lay RX12 TX12 10, u_lay RX12 TX12 11, u_lay RX12 TX12 12, u_lay RX12 TX12 13, u_lay RX12 TX12 14, u_lay RX12 TX12 15, u_lay RX12 TX12 16, u_lay RX12 TX12 17, u_lay RX12 TX12 18, u_lay RX12 TX12 19, u_lay RX12 TX12 20, u_lay RX12 TX12 21, u_lay RX12 TX12 22, u_lay RX12 TX12 23, u_lay RX12 TX12 24, u_lay RX12 TX12 25, u_lay RX12 TX12 26, u_lay RX12 TX12 27, u_lay RX12 TX12 28, u_lay RX12 TX12 29, u_lay RX12 TX12 30, u_lay RX12 TX12 31, u_lay RX12 TX12 32, u_lay RX12 TX12 33, u_lay RX12 TX12 34, u_lay RX12 TX12 35, u_lay RX12 TX12 36, u_lay RX12 TX12 37, u_lay RX12 TX12 38, u_lay RX12 TX12 39, u_lay RX12 TX12 40, u_lay RX12 TX12 41, u_lay RX12 TX12 42, u_lay RX12 TX12 43, u_lay RX12 TX12 44, u_lay RX12 TX12 45, u_lay RX12 TX12 46, u_lay RX12 TX12 47, u_lay RX12 TX12 48, u_lay RX12 TX12 49], w ∈ TB
  exact List.forall_mem_cons.mpr ⟨tw_1337, List.forall_mem_cons.mpr ⟨tw_1339, List.forall_mem_cons.mpr ⟨tw_1341, List.forall_mem_cons.mpr ⟨tw_1343, List.forall_mem_cons.mpr ⟨tw_1345, List.forall_mem_cons.mpr ⟨tw_1347, List.forall_mem_cons.mpr ⟨tw_1349, List.forall_mem_cons.mpr ⟨tw_1351, List.forall_mem_cons.mpr ⟨tw_1353, List.forall_mem_cons.mpr ⟨tw_1355, List.forall_mem_cons.mpr ⟨tw_1357, List.forall_mem_cons.mpr ⟨tw_1359, List.forall_mem_cons.mpr ⟨tw_1361, List.forall_mem_cons.mpr ⟨tw_1363, List.forall_mem_cons.mpr ⟨tw_1365, List.forall_mem_cons.mpr ⟨tw_1367, List.forall_mem_cons.mpr ⟨tw_1369, List.forall_mem_cons.mpr ⟨tw_1371, List.forall_mem_cons.mpr ⟨tw_1373, List.forall_mem_cons.mpr ⟨tw_1375, List.forall_mem_cons.mpr ⟨tw_1377, List.forall_mem_cons.mpr ⟨tw_1379, List.forall_mem_cons.mpr ⟨tw_1381, List.forall_mem_cons.mpr ⟨tw_1383, List.forall_mem_cons.mpr ⟨tw_1385, List.forall_mem_cons.mpr ⟨tw_1387, List.forall_mem_cons.mpr ⟨tw_1389, List.forall_mem_cons.mpr ⟨tw_1391, List.forall_mem_cons.mpr ⟨tw_1393, List.forall_mem_cons.mpr ⟨tw_1395, List.forall_mem_cons.mpr ⟨tw_1397, List.forall_mem_cons.mpr ⟨tw_1399, List.forall_mem_cons.mpr ⟨tw_1401, List.forall_mem_cons.mpr ⟨tw_1403, List.forall_mem_cons.mpr ⟨tw_1405, List.forall_mem_cons.mpr ⟨tw_1407, List.forall_mem_cons.mpr ⟨tw_1409, List.forall_mem_cons.mpr ⟨tw_1411, List.forall_mem_cons.mpr ⟨tw_1413, List.forall_mem_cons.mpr ⟨tw_1415, List.forall_mem_cons.mpr ⟨tw_1417, List.forall_mem_cons.mpr ⟨tw_1419, List.forall_mem_cons.mpr ⟨tw_1421, List.forall_mem_cons.mpr ⟨tw_1423, List.forall_mem_cons.mpr ⟨tw_1425, List.forall_mem_cons.mpr ⟨tw_1427, List.forall_mem_cons.mpr ⟨tw_1429, List.forall_mem_cons.mpr ⟨tw_1431, List.forall_mem_cons.mpr ⟨tw_1433, List.forall_mem_cons.mpr ⟨tw_1435, fun _ hw => absurd hw List.not_mem_nil⟩⟩⟩⟩⟩⟩⟩⟩⟩⟩⟩⟩⟩⟩⟩⟩⟩⟩⟩⟩⟩⟩⟩⟩⟩⟩⟩⟩⟩⟩⟩⟩⟩⟩⟩⟩⟩⟩⟩⟩⟩⟩⟩⟩⟩⟩⟩⟩⟩⟩
theorem ck_12 : CK 12 RX12 TX12 50 := ⟨rfl, ckw_12, ⟨tyX12, tyX12_ok⟩, nmX12⟩
