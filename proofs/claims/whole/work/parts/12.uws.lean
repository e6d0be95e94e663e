theorem am_uw0 : (wsX00).map some = ([548, 550, 552, 554, 556, 558, 560, 562, 564, 566, 568, 570] : List Nat).map (fun i => lw_tbl[i]?) := by decide +kernel
theorem am_ug0 : (wsX00).all goodWord = true := by decide +kernel
theorem am_uw1 : (wsX10).map some = ([587, 589, 591, 593, 595, 597] : List Nat).map (fun i => lw_tbl[i]?) := by decide +kernel
theorem am_ug1 : (wsX10).all goodWord = true := by decide +kernel
theorem am_uw2 : (wsX20).map some = ([261, 263, 265, 267, 269] : List Nat).map (fun i => lw_tbl[i]?) := by decide +kernel
theorem am_ug2 : (wsX20).all goodWord = true := by decide +kernel
theorem am_uw3 : (wsX30).map some = ([223, 225, 227, 229, 231, 233, 235, 237, 239, 241, 243, 245] : List Nat).map (fun i => lw_tbl[i]?) := by decide +kernel
theorem am_ug3 : (wsX30).all goodWord = true := by decide +kernel
theorem am_uw4 : (wsX40).map some = ([511, 513, 515, 517, 519, 521, 523] : List Nat).map (fun i => lw_tbl[i]?) := by decide +kernel
theorem am_ug4 : (wsX40).all goodWord = true := by decide +kernel
theorem am_uw5 : (wsX50).map some = ([175, 177, 179] : List Nat).map (fun i => lw_tbl[i]?) := by decide +kernel
theorem am_ug5 : (wsX50).all goodWord = true := by decide +kernel
theorem am_uw6 : (wsX60).map some = ([460, 462, 464, 466, 468, 470, 472, 474, 476, 478, 480, 482, 484, 486, 488, 490, 492] : List Nat).map (fun i => lw_tbl[i]?) := by decide +kernel
theorem am_ug6 : (wsX60).all goodWord = true := by decide +kernel
theorem am_uw7 : (wsX70).map some = ([304, 306, 308, 310, 312, 314, 316, 318, 320, 322, 324, 326, 328, 330, 332] : List Nat).map (fun i => lw_tbl[i]?) := by decide +kernel
theorem am_ug7 : (wsX70).all goodWord = true := by decide +kernel
theorem am_uw8 : (wsX80).map some = ([350, 352, 354, 356, 358, 360, 362, 364] : List Nat).map (fun i => lw_tbl[i]?) := by decide +kernel
theorem am_ug8 : (wsX80).all goodWord = true := by decide +kernel
theorem am_uw9 : (wsX90).map some = ([403, 405, 407, 409, 411, 413, 415, 417, 419, 421, 423, 425, 427] : List Nat).map (fun i => lw_tbl[i]?) := by decide +kernel
theorem am_ug9 : (wsX90).all goodWord = true := by decide +kernel
theorem am_uw10 : (wsX100).map some = ([155, 157] : List Nat).map (fun i => lw_tbl[i]?) := by decide +kernel
theorem am_ug10 : (wsX100).all goodWord = true := by decide +kernel
theorem am_uw11 : (wsX110).map some = ([613, 615, 617, 619, 621, 623, 625, 627, 629, 631, 633, 635, 637] : List Nat).map (fun i => lw_tbl[i]?) := by decide +kernel
theorem am_ug11 : (wsX110).all goodWord = true := by decide +kernel
theorem am_uw12 : (wsX120).map some = ([1300, 1302, 1304, 1306, 1308, 1310, 1312, 1314, 1316, 1318, 1320, 1322, 1324, 1326, 1328, 1330, 1332, 1334, 1336, 1338, 1340, 1342, 1344, 1346, 1348, 1350, 1352, 1354, 1356, 1358, 1360, 1362, 1364, 1366, 1368, 1370, 1372, 1374, 1376, 1378, 1380, 1382, 1384, 1386, 1388, 1390, 1392, 1394, 1396, 1398, 1400, 1402, 1404, 1406, 1408, 1410, 1412, 1414, 1416, 1418, 1420, 1422, 1424, 1426, 1428, 1430, 1432, 1434, 1436, 1438, 1440, 1442, 1444, 1446, 1448, 1450, 1452, 1454, 1456, 1458, 1460, 1462] : List Nat).map (fun i => lw_tbl[i]?) := by decide +kernel
theorem am_ug12 : (wsX120).all goodWord = true := by decide +kernel
theorem am_uw_in {ws : List Cond} {ps : List Nat} (h : ws.map some = ps.map (fun i => lw_tbl[i]?)) (g : ws.all goodWord = true) : ∀ w ∈ ws, w ∈ am_gt := by
  intro w hw
  have h1 : some w ∈ ws.map some := List.mem_map.mpr ⟨w, hw, rfl⟩
  rw [h] at h1
  obtain ⟨i, -, hi⟩ := List.mem_map.mp h1
  exact am_gt_in hi (List.all_eq_true.mp g w hw)
/-- what goes with a class of the abstract machine -/
theorem am_cls_ok : ∀ (ci : Nat) (C : String) (T : u_T) (N : Nat), am_cls[ci]? = some (C, T, N) → ∃ ty0 : Nat → FieldType, (∀ k, k < N → parseFieldDescriptor (T k).2.2.1 = some (ty0 k)) ∧ (∀ a, a < N → ∀ b, b < N → a ≠ b → (T a).2.1 ≠ (T b).2.1) ∧ (∀ w ∈ u_ws C T N, w ∈ am_gt) ∧ (am_ftL.getD ci []).length = N := by
  intro ci C T N h
  match ci, h with
  | 0, h => cases h; exact ⟨tyX0, tyX0_ok, nmX0, am_uw_in am_uw0 am_ug0, by decide +kernel⟩
  | 1, h => cases h; exact ⟨tyX1, tyX1_ok, nmX1, am_uw_in am_uw1 am_ug1, by decide +kernel⟩
  | 2, h => cases h; exact ⟨tyX2, tyX2_ok, nmX2, am_uw_in am_uw2 am_ug2, by decide +kernel⟩
  | 3, h => cases h; exact ⟨tyX3, tyX3_ok, nmX3, am_uw_in am_uw3 am_ug3, by decide +kernel⟩
  | 4, h => cases h; exact ⟨tyX4, tyX4_ok, nmX4, am_uw_in am_uw4 am_ug4, by decide +kernel⟩
  | 5, h => cases h; exact ⟨tyX5, tyX5_ok, nmX5, am_uw_in am_uw5 am_ug5, by decide +kernel⟩
  | 6, h => cases h; exact ⟨tyX6, tyX6_ok, nmX6, am_uw_in am_uw6 am_ug6, by decide +kernel⟩
  | 7, h => cases h; exact ⟨tyX7, tyX7_ok, nmX7, am_uw_in am_uw7 am_ug7, by decide +kernel⟩
  | 8, h => cases h; exact ⟨tyX8, tyX8_ok, nmX8, am_uw_in am_uw8 am_ug8, by decide +kernel⟩
  | 9, h => cases h; exact ⟨tyX9, tyX9_ok, nmX9, am_uw_in am_uw9 am_ug9, by decide +kernel⟩
  | 10, h => cases h; exact ⟨tyX10, tyX10_ok, nmX10, am_uw_in am_uw10 am_ug10, by decide +kernel⟩
  | 11, h => cases h; exact ⟨tyX11, tyX11_ok, nmX11, am_uw_in am_uw11 am_ug11, by decide +kernel⟩
  | 12, h => cases h; exact ⟨tyX12, tyX12_ok, nmX12, am_uw_in am_uw12 am_ug12, by decide +kernel⟩
  | ci + 13, h => simp [am_cls] at h
theorem am_w_ac1 : Cond.native arraycopyName ∈ am_gt := am_gt_in (i := 1040) (by decide +kernel) (by decide +kernel)
theorem am_w_ac2 : Cond.static arraycopyName ∈ am_gt := am_gt_in (i := 1039) (by decide +kernel) (by decide +kernel)
theorem am_w_ac3 : Cond.initialized "java/lang/System" ∈ am_gt := am_gt_in (i := 137) (by decide +kernel) (by decide +kernel)
theorem am_w_ma0 : Cond.initialized "java/lang/Math" ∈ am_gt := am_gt_in (i := 135) (by decide +kernel) (by decide +kernel)
theorem am_w_max1 : Cond.static Lib.Math.max.name ∈ am_gt := am_gt_in (i := 893) (by decide +kernel) (by decide +kernel)
theorem am_w_max2 : Cond.code Lib.Math.max.name Lib.Math.max.code 2 (some .int) ∈ am_gt := am_gt_in (i := 894) (by decide +kernel) (by decide +kernel)
theorem am_w_min1 : Cond.static Lib.Math.min.name ∈ am_gt := am_gt_in (i := 740) (by decide +kernel) (by decide +kernel)
theorem am_w_min2 : Cond.code Lib.Math.min.name Lib.Math.min.code 2 (some .int) ∈ am_gt := am_gt_in (i := 741) (by decide +kernel) (by decide +kernel)
