/-! ===== facts of the tables, by program ===== -/
theorem uw_of {L : List Cond} (ps : List Nat) (h : L = ps.filterMap (fun i => lw_tbl[i]?)) (hg : L.all goodWord = true) : ∀ w ∈ L, w ∈ zW := by
  intro w hw
  have h1 : w ∈ lw_tbl := by
    rw [h] at hw
    obtain ⟨i, -, hi⟩ := List.mem_filterMap.mp hw
    exact List.mem_of_getElem? hi
  exact List.mem_filter.mpr ⟨h1, List.all_eq_true.mp hg w hw⟩
theorem uw0 : ∀ w ∈ u_ws RX0 TX0 9, w ∈ zW := uw_of [515, 517, 519, 521, 523, 525, 527, 529, 531] (by decide +kernel) (by decide +kernel)
theorem uw1 : ∀ w ∈ u_ws RX1 TX1 9, w ∈ zW := uw_of [479, 481, 483, 485, 487, 489, 491, 493, 495] (by decide +kernel) (by decide +kernel)
theorem uw2 : ∀ w ∈ u_ws RX2 TX2 9, w ∈ zW := uw_of [300, 302, 304, 306, 308, 310, 312, 314, 316] (by decide +kernel) (by decide +kernel)
theorem uw3 : ∀ w ∈ u_ws RX3 TX3 4, w ∈ zW := uw_of [348, 350, 352, 354] (by decide +kernel) (by decide +kernel)
theorem uw4 : ∀ w ∈ u_ws RX4 TX4 9, w ∈ zW := uw_of [140, 142, 144, 146, 148, 150, 152, 154, 156] (by decide +kernel) (by decide +kernel)
theorem uw5 : ∀ w ∈ u_ws RX5 TX5 8, w ∈ zW := uw_of [248, 250, 252, 254, 256, 258, 260, 262] (by decide +kernel) (by decide +kernel)
theorem uw6 : ∀ w ∈ u_ws RX6 TX6 3, w ∈ zW := uw_of [323, 325, 327] (by decide +kernel) (by decide +kernel)
theorem uw7 : ∀ w ∈ u_ws RX7 TX7 2, w ∈ zW := uw_of [227, 229] (by decide +kernel) (by decide +kernel)
theorem uw8 : ∀ w ∈ u_ws RX8 TX8 11, w ∈ zW := uw_of [191, 193, 195, 197, 199, 201, 203, 205, 207, 209, 211] (by decide +kernel) (by decide +kernel)
theorem uw9 : ∀ w ∈ u_ws RX9 TX9 11, w ∈ zW := uw_of [381, 383, 385, 387, 389, 391, 393, 395, 397, 399, 401] (by decide +kernel) (by decide +kernel)
theorem uw10 : ∀ w ∈ u_ws RX10 TX10 14, w ∈ zW := uw_of [431, 433, 435, 437, 439, 441, 443, 445, 447, 449, 451, 453, 455, 457] (by decide +kernel) (by decide +kernel)
theorem uw11 : ∀ w ∈ u_ws RX11 TX11 16, w ∈ zW := uw_of [551, 553, 555, 557, 559, 561, 563, 565, 567, 569, 571, 573, 575, 577, 579, 581] (by decide +kernel) (by decide +kernel)
theorem uw12 : ∀ w ∈ u_ws RX12 TX12 75, w ∈ zW := uw_of [1244, 1246, 1248, 1250, 1252, 1254, 1256, 1258, 1260, 1262, 1264, 1266, 1268, 1270, 1272, 1274, 1276, 1278, 1280, 1282, 1284, 1286, 1288, 1290, 1292, 1294, 1296, 1298, 1300, 1302, 1304, 1306, 1308, 1310, 1312, 1314, 1316, 1318, 1320, 1322, 1324, 1326, 1328, 1330, 1332, 1334, 1336, 1338, 1340, 1342, 1344, 1346, 1348, 1350, 1352, 1354, 1356, 1358, 1360, 1362, 1364, 1366, 1368, 1370, 1372, 1374, 1376, 1378, 1380, 1382, 1384, 1386, 1388, 1390, 1392] (by decide +kernel) (by decide +kernel)
theorem ci_m1 : Int32.ofInt (-1) = (-1 : Int32) := by decide
theorem ci_0 : Int32.ofInt (0) = (0 : Int32) := by decide
theorem ci_1 : Int32.ofInt (1) = (1 : Int32) := by decide
theorem ci_2 : Int32.ofInt (2) = (2 : Int32) := by decide
theorem ci_3 : Int32.ofInt (3) = (3 : Int32) := by decide
theorem ci_4 : Int32.ofInt (4) = (4 : Int32) := by decide
theorem ci_5 : Int32.ofInt (5) = (5 : Int32) := by decide
theorem cb_m10 : (Int8.ofInt (-10)).toInt32 = (-10 : Int32) := by decide
theorem cb_6 : (Int8.ofInt (6)).toInt32 = (6 : Int32) := by decide
theorem cb_7 : (Int8.ofInt (7)).toInt32 = (7 : Int32) := by decide
theorem cb_8 : (Int8.ofInt (8)).toInt32 = (8 : Int32) := by decide
theorem cb_9 : (Int8.ofInt (9)).toInt32 = (9 : Int32) := by decide
theorem cb_10 : (Int8.ofInt (10)).toInt32 = (10 : Int32) := by decide
theorem cb_11 : (Int8.ofInt (11)).toInt32 = (11 : Int32) := by decide
theorem cb_12 : (Int8.ofInt (12)).toInt32 = (12 : Int32) := by decide
theorem cb_16 : (Int8.ofInt (16)).toInt32 = (16 : Int32) := by decide
theorem cb_20 : (Int8.ofInt (20)).toInt32 = (20 : Int32) := by decide
theorem cb_23 : (Int8.ofInt (23)).toInt32 = (23 : Int32) := by decide
theorem cb_24 : (Int8.ofInt (24)).toInt32 = (24 : Int32) := by decide
theorem cb_30 : (Int8.ofInt (30)).toInt32 = (30 : Int32) := by decide
theorem cb_32 : (Int8.ofInt (32)).toInt32 = (32 : Int32) := by decide
theorem cb_44 : (Int8.ofInt (44)).toInt32 = (44 : Int32) := by decide
theorem cb_48 : (Int8.ofInt (48)).toInt32 = (48 : Int32) := by decide
theorem cb_57 : (Int8.ofInt (57)).toInt32 = (57 : Int32) := by decide
theorem cb_59 : (Int8.ofInt (59)).toInt32 = (59 : Int32) := by decide
theorem cb_60 : (Int8.ofInt (60)).toInt32 = (60 : Int32) := by decide
theorem cb_63 : (Int8.ofInt (63)).toInt32 = (63 : Int32) := by decide
theorem cb_97 : (Int8.ofInt (97)).toInt32 = (97 : Int32) := by decide
theorem cb_99 : (Int8.ofInt (99)).toInt32 = (99 : Int32) := by decide
theorem cb_100 : (Int8.ofInt (100)).toInt32 = (100 : Int32) := by decide
theorem cb_101 : (Int8.ofInt (101)).toInt32 = (101 : Int32) := by decide
theorem cb_102 : (Int8.ofInt (102)).toInt32 = (102 : Int32) := by decide
theorem cb_104 : (Int8.ofInt (104)).toInt32 = (104 : Int32) := by decide
theorem cb_105 : (Int8.ofInt (105)).toInt32 = (105 : Int32) := by decide
theorem cb_107 : (Int8.ofInt (107)).toInt32 = (107 : Int32) := by decide
theorem cb_108 : (Int8.ofInt (108)).toInt32 = (108 : Int32) := by decide
theorem cb_109 : (Int8.ofInt (109)).toInt32 = (109 : Int32) := by decide
theorem cb_110 : (Int8.ofInt (110)).toInt32 = (110 : Int32) := by decide
theorem cb_111 : (Int8.ofInt (111)).toInt32 = (111 : Int32) := by decide
theorem cb_114 : (Int8.ofInt (114)).toInt32 = (114 : Int32) := by decide
theorem cb_115 : (Int8.ofInt (115)).toInt32 = (115 : Int32) := by decide
theorem cb_116 : (Int8.ofInt (116)).toInt32 = (116 : Int32) := by decide
theorem cb_117 : (Int8.ofInt (117)).toInt32 = (117 : Int32) := by decide
theorem cb_119 : (Int8.ofInt (119)).toInt32 = (119 : Int32) := by decide
theorem cb_121 : (Int8.ofInt (121)).toInt32 = (121 : Int32) := by decide
theorem cb_122 : (Int8.ofInt (122)).toInt32 = (122 : Int32) := by decide
theorem cs_m1004 : (Int16.ofInt (-1004)).toInt32 = (-1004 : Int32) := by decide
theorem cs_m1003 : (Int16.ofInt (-1003)).toInt32 = (-1003 : Int32) := by decide
theorem cs_m1002 : (Int16.ofInt (-1002)).toInt32 = (-1002 : Int32) := by decide
theorem cs_m1001 : (Int16.ofInt (-1001)).toInt32 = (-1001 : Int32) := by decide
theorem cs_144 : (Int16.ofInt (144)).toInt32 = (144 : Int32) := by decide
theorem cs_160 : (Int16.ofInt (160)).toInt32 = (160 : Int32) := by decide
theorem cs_199 : (Int16.ofInt (199)).toInt32 = (199 : Int32) := by decide
theorem cs_200 : (Int16.ofInt (200)).toInt32 = (200 : Int32) := by decide
theorem cs_297 : (Int16.ofInt (297)).toInt32 = (297 : Int32) := by decide
theorem cs_529 : (Int16.ofInt (529)).toInt32 = (529 : Int32) := by decide
theorem cs_999 : (Int16.ofInt (999)).toInt32 = (999 : Int32) := by decide
theorem cs_1024 : (Int16.ofInt (1024)).toInt32 = (1024 : Int32) := by decide
theorem cs_4800 : (Int16.ofInt (4800)).toInt32 = (4800 : Int32) := by decide
theorem cs_9999 : (Int16.ofInt (9999)).toInt32 = (9999 : Int32) := by decide
theorem cs_12167 : (Int16.ofInt (12167)).toInt32 = (12167 : Int32) := by decide
theorem cs_20000 : (Int16.ofInt (20000)).toInt32 = (20000 : Int32) := by decide
theorem cl_0 : Int64.ofNat ((0 : Fin 2) : Nat) = (0 : Int64) := by decide
theorem cl_1 : Int64.ofNat ((1 : Fin 2) : Nat) = (1 : Int64) := by decide
theorem kc_J6_265 : Cond.constant RJ6 265 (1431655765 : Int32) ∈ zW := zin 649 (by decide +kernel) (by decide +kernel)
theorem kc_J6_266 : Cond.constant RJ6 266 (858993459 : Int32) ∈ zW := zin 650 (by decide +kernel) (by decide +kernel)
theorem kc_J6_267 : Cond.constant RJ6 267 (252645135 : Int32) ∈ zW := zin 651 (by decide +kernel) (by decide +kernel)
theorem kc_X12_378 : Cond.constant RX12 378 (1000000 : Int32) ∈ zW := zin 1624 (by decide +kernel) (by decide +kernel)
theorem ld_X11_189 : Cond.constantLong RX11 189 (255 : Int64) ∈ zW := zin 699 (by decide +kernel) (by decide +kernel)
theorem ld_X12_160 : Cond.constantLong RX12 160 (9 : Int64) ∈ zW := zin 1403 (by decide +kernel) (by decide +kernel)
theorem ld_X12_166 : Cond.constantLong RX12 166 (23 : Int64) ∈ zW := zin 1435 (by decide +kernel) (by decide +kernel)
theorem ld_X12_178 : Cond.constantLong RX12 178 (999 : Int64) ∈ zW := zin 1407 (by decide +kernel) (by decide +kernel)
theorem ld_X12_180 : Cond.constantLong RX12 180 (99 : Int64) ∈ zW := zin 1408 (by decide +kernel) (by decide +kernel)
theorem ld_X12_192 : Cond.constantLong RX12 192 (9999 : Int64) ∈ zW := zin 1436 (by decide +kernel) (by decide +kernel)
theorem ld_X12_197 : Cond.constantLong RX12 197 (8 : Int64) ∈ zW := zin 1457 (by decide +kernel) (by decide +kernel)
theorem ld_X12_202 : Cond.constantLong RX12 202 (255 : Int64) ∈ zW := zin 1458 (by decide +kernel) (by decide +kernel)
theorem ld_X12_217 : Cond.constantLong RX12 217 (97 : Int64) ∈ zW := zin 1475 (by decide +kernel) (by decide +kernel)
theorem ld_X12_219 : Cond.constantLong RX12 219 (122 : Int64) ∈ zW := zin 1476 (by decide +kernel) (by decide +kernel)
theorem ld_X12_224 : Cond.constantLong RX12 224 (48 : Int64) ∈ zW := zin 1505 (by decide +kernel) (by decide +kernel)
theorem ld_X12_226 : Cond.constantLong RX12 226 (57 : Int64) ∈ zW := zin 1506 (by decide +kernel) (by decide +kernel)
theorem ld_X12_253 : Cond.constantLong RX12 253 (199 : Int64) ∈ zW := zin 1466 (by decide +kernel) (by decide +kernel)
theorem ld_X12_343 : Cond.constantLong RX12 343 (200 : Int64) ∈ zW := zin 1523 (by decide +kernel) (by decide +kernel)
theorem ld_X12_374 : Cond.constantLong RX12 374 (2 : Int64) ∈ zW := zin 1614 (by decide +kernel) (by decide +kernel)
theorem ld_X12_376 : Cond.constantLong RX12 376 (3 : Int64) ∈ zW := zin 1615 (by decide +kernel) (by decide +kernel)
theorem ld_X12_439 : Cond.constantLong RX12 439 (30 : Int64) ∈ zW := zin 1688 (by decide +kernel) (by decide +kernel)
theorem ld_X12_441 : Cond.constantLong RX12 441 (297 : Int64) ∈ zW := zin 1689 (by decide +kernel) (by decide +kernel)
theorem ld_X12_443 : Cond.constantLong RX12 443 (20 : Int64) ∈ zW := zin 1690 (by decide +kernel) (by decide +kernel)
theorem fl_X0_9 : zF RX0 9 0 0 true := ⟨RX0, TX0, 9, rfl, uw0, Nat.le_of_ble_eq_true rfl, rfl, zin 504 (by decide +kernel) (by decide +kernel)⟩
theorem fl_X0_15 : zF RX0 15 0 8 true := ⟨RX0, TX0, 9, rfl, uw0, Nat.le_of_ble_eq_true rfl, rfl, zin 514 (by decide +kernel) (by decide +kernel)⟩
theorem fl_X0_19 : zF RX0 19 0 2 false := ⟨RX0, TX0, 9, rfl, uw0, Nat.le_of_ble_eq_true rfl, rfl, zin 508 (by decide +kernel) (by decide +kernel)⟩
theorem fl_X0_23 : zF RX0 23 0 3 false := ⟨RX0, TX0, 9, rfl, uw0, Nat.le_of_ble_eq_true rfl, rfl, zin 509 (by decide +kernel) (by decide +kernel)⟩
theorem fl_X0_26 : zF RX0 26 0 4 false := ⟨RX0, TX0, 9, rfl, uw0, Nat.le_of_ble_eq_true rfl, rfl, zin 510 (by decide +kernel) (by decide +kernel)⟩
theorem fl_X0_29 : zF RX0 29 0 5 false := ⟨RX0, TX0, 9, rfl, uw0, Nat.le_of_ble_eq_true rfl, rfl, zin 511 (by decide +kernel) (by decide +kernel)⟩
theorem fl_X0_32 : zF RX0 32 0 6 false := ⟨RX0, TX0, 9, rfl, uw0, Nat.le_of_ble_eq_true rfl, rfl, zin 512 (by decide +kernel) (by decide +kernel)⟩
theorem fl_X0_41 : zF RX0 41 0 7 false := ⟨RX0, TX0, 9, rfl, uw0, Nat.le_of_ble_eq_true rfl, rfl, zin 513 (by decide +kernel) (by decide +kernel)⟩
theorem fl_X0_79 : zF RX0 79 0 1 false := ⟨RX0, TX0, 9, rfl, uw0, Nat.le_of_ble_eq_true rfl, rfl, zin 506 (by decide +kernel) (by decide +kernel)⟩
theorem fl_X1_9 : zF RX1 9 1 4 true := ⟨RX1, TX1, 9, rfl, uw1, Nat.le_of_ble_eq_true rfl, rfl, zin 474 (by decide +kernel) (by decide +kernel)⟩
theorem fl_X1_15 : zF RX1 15 1 5 true := ⟨RX1, TX1, 9, rfl, uw1, Nat.le_of_ble_eq_true rfl, rfl, zin 475 (by decide +kernel) (by decide +kernel)⟩
theorem fl_X1_18 : zF RX1 18 1 6 true := ⟨RX1, TX1, 9, rfl, uw1, Nat.le_of_ble_eq_true rfl, rfl, zin 476 (by decide +kernel) (by decide +kernel)⟩
theorem fl_X1_21 : zF RX1 21 1 7 true := ⟨RX1, TX1, 9, rfl, uw1, Nat.le_of_ble_eq_true rfl, rfl, zin 477 (by decide +kernel) (by decide +kernel)⟩
theorem fl_X1_24 : zF RX1 24 1 0 false := ⟨RX1, TX1, 9, rfl, uw1, Nat.le_of_ble_eq_true rfl, rfl, zin 466 (by decide +kernel) (by decide +kernel)⟩
theorem fl_X1_28 : zF RX1 28 1 1 false := ⟨RX1, TX1, 9, rfl, uw1, Nat.le_of_ble_eq_true rfl, rfl, zin 468 (by decide +kernel) (by decide +kernel)⟩
theorem fl_X1_34 : zF RX1 34 1 2 false := ⟨RX1, TX1, 9, rfl, uw1, Nat.le_of_ble_eq_true rfl, rfl, zin 470 (by decide +kernel) (by decide +kernel)⟩
theorem fl_X1_37 : zF RX1 37 1 3 false := ⟨RX1, TX1, 9, rfl, uw1, Nat.le_of_ble_eq_true rfl, rfl, zin 472 (by decide +kernel) (by decide +kernel)⟩
theorem fl_X1_40 : zF RX1 40 1 8 false := ⟨RX1, TX1, 9, rfl, uw1, Nat.le_of_ble_eq_true rfl, rfl, zin 478 (by decide +kernel) (by decide +kernel)⟩
theorem fl_X10_12 : zF RX10 12 10 3 true := ⟨RX10, TX10, 14, rfl, uw10, Nat.le_of_ble_eq_true rfl, rfl, zin 417 (by decide +kernel) (by decide +kernel)⟩
theorem fl_X10_18 : zF RX10 18 10 4 true := ⟨RX10, TX10, 14, rfl, uw10, Nat.le_of_ble_eq_true rfl, rfl, zin 418 (by decide +kernel) (by decide +kernel)⟩
theorem fl_X10_24 : zF RX10 24 10 5 true := ⟨RX10, TX10, 14, rfl, uw10, Nat.le_of_ble_eq_true rfl, rfl, zin 419 (by decide +kernel) (by decide +kernel)⟩
theorem fl_X10_28 : zF RX10 28 10 6 true := ⟨RX10, TX10, 14, rfl, uw10, Nat.le_of_ble_eq_true rfl, rfl, zin 420 (by decide +kernel) (by decide +kernel)⟩
theorem fl_X10_32 : zF RX10 32 10 7 true := ⟨RX10, TX10, 14, rfl, uw10, Nat.le_of_ble_eq_true rfl, rfl, zin 421 (by decide +kernel) (by decide +kernel)⟩
theorem fl_X10_35 : zF RX10 35 10 8 true := ⟨RX10, TX10, 14, rfl, uw10, Nat.le_of_ble_eq_true rfl, rfl, zin 422 (by decide +kernel) (by decide +kernel)⟩
theorem fl_X10_38 : zF RX10 38 10 9 false := ⟨RX10, TX10, 14, rfl, uw10, Nat.le_of_ble_eq_true rfl, rfl, zin 423 (by decide +kernel) (by decide +kernel)⟩
theorem fl_X10_42 : zF RX10 42 10 10 false := ⟨RX10, TX10, 14, rfl, uw10, Nat.le_of_ble_eq_true rfl, rfl, zin 424 (by decide +kernel) (by decide +kernel)⟩
theorem fl_X10_45 : zF RX10 45 10 11 true := ⟨RX10, TX10, 14, rfl, uw10, Nat.le_of_ble_eq_true rfl, rfl, zin 425 (by decide +kernel) (by decide +kernel)⟩
theorem fl_X10_48 : zF RX10 48 10 0 true := ⟨RX10, TX10, 14, rfl, uw10, Nat.le_of_ble_eq_true rfl, rfl, zin 414 (by decide +kernel) (by decide +kernel)⟩
theorem fl_X10_52 : zF RX10 52 10 1 true := ⟨RX10, TX10, 14, rfl, uw10, Nat.le_of_ble_eq_true rfl, rfl, zin 415 (by decide +kernel) (by decide +kernel)⟩
theorem fl_X10_56 : zF RX10 56 10 2 true := ⟨RX10, TX10, 14, rfl, uw10, Nat.le_of_ble_eq_true rfl, rfl, zin 416 (by decide +kernel) (by decide +kernel)⟩
theorem fl_X10_111 : zF RX10 111 10 12 false := ⟨RX10, TX10, 14, rfl, uw10, Nat.le_of_ble_eq_true rfl, rfl, zin 427 (by decide +kernel) (by decide +kernel)⟩
theorem fl_X10_114 : zF RX10 114 8 0 false := ⟨RX8, TX8, 11, rfl, uw8, Nat.le_of_ble_eq_true rfl, rfl, zin 168 (by decide +kernel) (by decide +kernel)⟩
theorem fl_X10_130 : zF RX10 130 7 0 true := ⟨RX7, TX7, 2, rfl, uw7, Nat.le_of_ble_eq_true rfl, rfl, zin 222 (by decide +kernel) (by decide +kernel)⟩
theorem fl_X11_10 : zF RX11 10 11 0 true := ⟨RX11, TX11, 16, rfl, uw11, Nat.le_of_ble_eq_true rfl, rfl, zin 535 (by decide +kernel) (by decide +kernel)⟩
theorem fl_X11_19 : zF RX11 19 11 1 true := ⟨RX11, TX11, 16, rfl, uw11, Nat.le_of_ble_eq_true rfl, rfl, zin 536 (by decide +kernel) (by decide +kernel)⟩
theorem fl_X11_26 : zF RX11 26 11 2 true := ⟨RX11, TX11, 16, rfl, uw11, Nat.le_of_ble_eq_true rfl, rfl, zin 537 (by decide +kernel) (by decide +kernel)⟩
theorem fl_X11_33 : zF RX11 33 11 3 true := ⟨RX11, TX11, 16, rfl, uw11, Nat.le_of_ble_eq_true rfl, rfl, zin 538 (by decide +kernel) (by decide +kernel)⟩
theorem fl_X11_40 : zF RX11 40 11 4 true := ⟨RX11, TX11, 16, rfl, uw11, Nat.le_of_ble_eq_true rfl, rfl, zin 539 (by decide +kernel) (by decide +kernel)⟩
theorem fl_X11_47 : zF RX11 47 11 5 true := ⟨RX11, TX11, 16, rfl, uw11, Nat.le_of_ble_eq_true rfl, rfl, zin 540 (by decide +kernel) (by decide +kernel)⟩
theorem fl_X11_56 : zF RX11 56 11 6 true := ⟨RX11, TX11, 16, rfl, uw11, Nat.le_of_ble_eq_true rfl, rfl, zin 541 (by decide +kernel) (by decide +kernel)⟩
theorem fl_X11_65 : zF RX11 65 11 7 true := ⟨RX11, TX11, 16, rfl, uw11, Nat.le_of_ble_eq_true rfl, rfl, zin 542 (by decide +kernel) (by decide +kernel)⟩
theorem fl_X11_72 : zF RX11 72 11 8 true := ⟨RX11, TX11, 16, rfl, uw11, Nat.le_of_ble_eq_true rfl, rfl, zin 543 (by decide +kernel) (by decide +kernel)⟩
theorem fl_X11_79 : zF RX11 79 11 9 true := ⟨RX11, TX11, 16, rfl, uw11, Nat.le_of_ble_eq_true rfl, rfl, zin 544 (by decide +kernel) (by decide +kernel)⟩
theorem fl_X11_83 : zF RX11 83 11 10 true := ⟨RX11, TX11, 16, rfl, uw11, Nat.le_of_ble_eq_true rfl, rfl, zin 545 (by decide +kernel) (by decide +kernel)⟩
theorem fl_X11_87 : zF RX11 87 11 11 true := ⟨RX11, TX11, 16, rfl, uw11, Nat.le_of_ble_eq_true rfl, rfl, zin 546 (by decide +kernel) (by decide +kernel)⟩
theorem fl_X11_98 : zF RX11 98 4 0 false := ⟨RX4, TX4, 9, rfl, uw4, Nat.le_of_ble_eq_true rfl, rfl, zin 119 (by decide +kernel) (by decide +kernel)⟩
theorem fl_X11_102 : zF RX11 102 11 15 false := ⟨RX11, TX11, 16, rfl, uw11, Nat.le_of_ble_eq_true rfl, rfl, zin 550 (by decide +kernel) (by decide +kernel)⟩
theorem fl_X11_112 : zF RX11 112 4 1 false := ⟨RX4, TX4, 9, rfl, uw4, Nat.le_of_ble_eq_true rfl, rfl, zin 122 (by decide +kernel) (by decide +kernel)⟩
theorem fl_X11_115 : zF RX11 115 4 5 true := ⟨RX4, TX4, 9, rfl, uw4, Nat.le_of_ble_eq_true rfl, rfl, zin 132 (by decide +kernel) (by decide +kernel)⟩
theorem fl_X11_118 : zF RX11 118 4 6 true := ⟨RX4, TX4, 9, rfl, uw4, Nat.le_of_ble_eq_true rfl, rfl, zin 135 (by decide +kernel) (by decide +kernel)⟩
theorem fl_X11_121 : zF RX11 121 4 7 true := ⟨RX4, TX4, 9, rfl, uw4, Nat.le_of_ble_eq_true rfl, rfl, zin 137 (by decide +kernel) (by decide +kernel)⟩
theorem fl_X11_124 : zF RX11 124 9 3 true := ⟨RX9, TX9, 11, rfl, uw9, Nat.le_of_ble_eq_true rfl, rfl, zin 365 (by decide +kernel) (by decide +kernel)⟩
theorem fl_X11_127 : zF RX11 127 8 0 false := ⟨RX8, TX8, 11, rfl, uw8, Nat.le_of_ble_eq_true rfl, rfl, zin 169 (by decide +kernel) (by decide +kernel)⟩
theorem fl_X11_132 : zF RX11 132 7 0 true := ⟨RX7, TX7, 2, rfl, uw7, Nat.le_of_ble_eq_true rfl, rfl, zin 223 (by decide +kernel) (by decide +kernel)⟩
theorem fl_X11_136 : zF RX11 136 8 6 true := ⟨RX8, TX8, 11, rfl, uw8, Nat.le_of_ble_eq_true rfl, rfl, zin 182 (by decide +kernel) (by decide +kernel)⟩
theorem fl_X11_139 : zF RX11 139 11 12 false := ⟨RX11, TX11, 16, rfl, uw11, Nat.le_of_ble_eq_true rfl, rfl, zin 547 (by decide +kernel) (by decide +kernel)⟩
theorem fl_X11_146 : zF RX11 146 6 0 false := ⟨RX6, TX6, 3, rfl, uw6, Nat.le_of_ble_eq_true rfl, rfl, zin 320 (by decide +kernel) (by decide +kernel)⟩
theorem fl_X11_152 : zF RX11 152 5 0 false := ⟨RX5, TX5, 8, rfl, uw5, Nat.le_of_ble_eq_true rfl, rfl, zin 239 (by decide +kernel) (by decide +kernel)⟩
theorem fl_X11_155 : zF RX11 155 1 0 false := ⟨RX1, TX1, 9, rfl, uw1, Nat.le_of_ble_eq_true rfl, rfl, zin 467 (by decide +kernel) (by decide +kernel)⟩
theorem fl_X11_156 : zF RX11 156 1 1 false := ⟨RX1, TX1, 9, rfl, uw1, Nat.le_of_ble_eq_true rfl, rfl, zin 469 (by decide +kernel) (by decide +kernel)⟩
theorem fl_X11_159 : zF RX11 159 11 13 false := ⟨RX11, TX11, 16, rfl, uw11, Nat.le_of_ble_eq_true rfl, rfl, zin 548 (by decide +kernel) (by decide +kernel)⟩
theorem fl_X11_162 : zF RX11 162 11 14 false := ⟨RX11, TX11, 16, rfl, uw11, Nat.le_of_ble_eq_true rfl, rfl, zin 549 (by decide +kernel) (by decide +kernel)⟩
theorem fl_X11_165 : zF RX11 165 8 1 true := ⟨RX8, TX8, 11, rfl, uw8, Nat.le_of_ble_eq_true rfl, rfl, zin 172 (by decide +kernel) (by decide +kernel)⟩
theorem fl_X11_168 : zF RX11 168 7 1 true := ⟨RX7, TX7, 2, rfl, uw7, Nat.le_of_ble_eq_true rfl, rfl, zin 226 (by decide +kernel) (by decide +kernel)⟩
theorem fl_X11_171 : zF RX11 171 8 7 true := ⟨RX8, TX8, 11, rfl, uw8, Nat.le_of_ble_eq_true rfl, rfl, zin 184 (by decide +kernel) (by decide +kernel)⟩
theorem fl_X11_174 : zF RX11 174 8 8 true := ⟨RX8, TX8, 11, rfl, uw8, Nat.le_of_ble_eq_true rfl, rfl, zin 186 (by decide +kernel) (by decide +kernel)⟩
theorem fl_X11_177 : zF RX11 177 8 9 true := ⟨RX8, TX8, 11, rfl, uw8, Nat.le_of_ble_eq_true rfl, rfl, zin 188 (by decide +kernel) (by decide +kernel)⟩
theorem fl_X11_180 : zF RX11 180 8 10 true := ⟨RX8, TX8, 11, rfl, uw8, Nat.le_of_ble_eq_true rfl, rfl, zin 190 (by decide +kernel) (by decide +kernel)⟩
theorem fl_X11_206 : zF RX11 206 5 1 false := ⟨RX5, TX5, 8, rfl, uw5, Nat.le_of_ble_eq_true rfl, rfl, zin 241 (by decide +kernel) (by decide +kernel)⟩
theorem fl_X11_213 : zF RX11 213 2 2 false := ⟨RX2, TX2, 9, rfl, uw2, Nat.le_of_ble_eq_true rfl, rfl, zin 283 (by decide +kernel) (by decide +kernel)⟩
theorem fl_X11_216 : zF RX11 216 2 3 false := ⟨RX2, TX2, 9, rfl, uw2, Nat.le_of_ble_eq_true rfl, rfl, zin 286 (by decide +kernel) (by decide +kernel)⟩
theorem fl_X11_219 : zF RX11 219 2 4 false := ⟨RX2, TX2, 9, rfl, uw2, Nat.le_of_ble_eq_true rfl, rfl, zin 289 (by decide +kernel) (by decide +kernel)⟩
theorem fl_X11_222 : zF RX11 222 2 5 false := ⟨RX2, TX2, 9, rfl, uw2, Nat.le_of_ble_eq_true rfl, rfl, zin 292 (by decide +kernel) (by decide +kernel)⟩
theorem fl_X11_225 : zF RX11 225 2 6 false := ⟨RX2, TX2, 9, rfl, uw2, Nat.le_of_ble_eq_true rfl, rfl, zin 295 (by decide +kernel) (by decide +kernel)⟩
theorem fl_X11_238 : zF RX11 238 9 4 true := ⟨RX9, TX9, 11, rfl, uw9, Nat.le_of_ble_eq_true rfl, rfl, zin 367 (by decide +kernel) (by decide +kernel)⟩
theorem fl_X11_241 : zF RX11 241 9 5 true := ⟨RX9, TX9, 11, rfl, uw9, Nat.le_of_ble_eq_true rfl, rfl, zin 370 (by decide +kernel) (by decide +kernel)⟩
theorem fl_X11_242 : zF RX11 242 9 10 false := ⟨RX9, TX9, 11, rfl, uw9, Nat.le_of_ble_eq_true rfl, rfl, zin 380 (by decide +kernel) (by decide +kernel)⟩
theorem fl_X11_254 : zF RX11 254 9 9 false := ⟨RX9, TX9, 11, rfl, uw9, Nat.le_of_ble_eq_true rfl, rfl, zin 378 (by decide +kernel) (by decide +kernel)⟩
theorem fl_X11_257 : zF RX11 257 9 8 true := ⟨RX9, TX9, 11, rfl, uw9, Nat.le_of_ble_eq_true rfl, rfl, zin 376 (by decide +kernel) (by decide +kernel)⟩
theorem fl_X11_260 : zF RX11 260 9 2 true := ⟨RX9, TX9, 11, rfl, uw9, Nat.le_of_ble_eq_true rfl, rfl, zin 363 (by decide +kernel) (by decide +kernel)⟩
theorem fl_X11_307 : zF RX11 307 10 13 false := ⟨RX10, TX10, 14, rfl, uw10, Nat.le_of_ble_eq_true rfl, rfl, zin 430 (by decide +kernel) (by decide +kernel)⟩
theorem fl_X11_310 : zF RX11 310 10 12 false := ⟨RX10, TX10, 14, rfl, uw10, Nat.le_of_ble_eq_true rfl, rfl, zin 428 (by decide +kernel) (by decide +kernel)⟩
theorem fl_X11_313 : zF RX11 313 10 11 true := ⟨RX10, TX10, 14, rfl, uw10, Nat.le_of_ble_eq_true rfl, rfl, zin 426 (by decide +kernel) (by decide +kernel)⟩
theorem fl_X11_333 : zF RX11 333 1 2 false := ⟨RX1, TX1, 9, rfl, uw1, Nat.le_of_ble_eq_true rfl, rfl, zin 471 (by decide +kernel) (by decide +kernel)⟩
theorem fl_X11_336 : zF RX11 336 1 3 false := ⟨RX1, TX1, 9, rfl, uw1, Nat.le_of_ble_eq_true rfl, rfl, zin 473 (by decide +kernel) (by decide +kernel)⟩
theorem fl_X11_343 : zF RX11 343 0 1 false := ⟨RX0, TX0, 9, rfl, uw0, Nat.le_of_ble_eq_true rfl, rfl, zin 507 (by decide +kernel) (by decide +kernel)⟩
theorem fl_X11_344 : zF RX11 344 0 0 true := ⟨RX0, TX0, 9, rfl, uw0, Nat.le_of_ble_eq_true rfl, rfl, zin 505 (by decide +kernel) (by decide +kernel)⟩
theorem fl_X11_356 : zF RX11 356 8 2 true := ⟨RX8, TX8, 11, rfl, uw8, Nat.le_of_ble_eq_true rfl, rfl, zin 174 (by decide +kernel) (by decide +kernel)⟩
theorem fl_X12_7 : zF RX12 7 12 1 true := ⟨RX12, TX12, 75, rfl, uw12, Nat.le_of_ble_eq_true rfl, rfl, zin 1170 (by decide +kernel) (by decide +kernel)⟩
theorem fl_X12_13 : zF RX12 13 12 3 true := ⟨RX12, TX12, 75, rfl, uw12, Nat.le_of_ble_eq_true rfl, rfl, zin 1172 (by decide +kernel) (by decide +kernel)⟩
theorem fl_X12_16 : zF RX12 16 12 4 true := ⟨RX12, TX12, 75, rfl, uw12, Nat.le_of_ble_eq_true rfl, rfl, zin 1173 (by decide +kernel) (by decide +kernel)⟩
theorem fl_X12_19 : zF RX12 19 12 5 true := ⟨RX12, TX12, 75, rfl, uw12, Nat.le_of_ble_eq_true rfl, rfl, zin 1174 (by decide +kernel) (by decide +kernel)⟩
theorem fl_X12_22 : zF RX12 22 12 6 true := ⟨RX12, TX12, 75, rfl, uw12, Nat.le_of_ble_eq_true rfl, rfl, zin 1175 (by decide +kernel) (by decide +kernel)⟩
theorem fl_X12_25 : zF RX12 25 12 7 true := ⟨RX12, TX12, 75, rfl, uw12, Nat.le_of_ble_eq_true rfl, rfl, zin 1176 (by decide +kernel) (by decide +kernel)⟩
theorem fl_X12_28 : zF RX12 28 12 8 true := ⟨RX12, TX12, 75, rfl, uw12, Nat.le_of_ble_eq_true rfl, rfl, zin 1177 (by decide +kernel) (by decide +kernel)⟩
theorem fl_X12_31 : zF RX12 31 12 9 true := ⟨RX12, TX12, 75, rfl, uw12, Nat.le_of_ble_eq_true rfl, rfl, zin 1178 (by decide +kernel) (by decide +kernel)⟩
theorem fl_X12_35 : zF RX12 35 12 10 true := ⟨RX12, TX12, 75, rfl, uw12, Nat.le_of_ble_eq_true rfl, rfl, zin 1179 (by decide +kernel) (by decide +kernel)⟩
theorem fl_X12_38 : zF RX12 38 12 12 true := ⟨RX12, TX12, 75, rfl, uw12, Nat.le_of_ble_eq_true rfl, rfl, zin 1181 (by decide +kernel) (by decide +kernel)⟩
theorem fl_X12_41 : zF RX12 41 12 13 true := ⟨RX12, TX12, 75, rfl, uw12, Nat.le_of_ble_eq_true rfl, rfl, zin 1182 (by decide +kernel) (by decide +kernel)⟩
theorem fl_X12_44 : zF RX12 44 12 14 true := ⟨RX12, TX12, 75, rfl, uw12, Nat.le_of_ble_eq_true rfl, rfl, zin 1183 (by decide +kernel) (by decide +kernel)⟩
theorem fl_X12_47 : zF RX12 47 12 15 true := ⟨RX12, TX12, 75, rfl, uw12, Nat.le_of_ble_eq_true rfl, rfl, zin 1184 (by decide +kernel) (by decide +kernel)⟩
theorem fl_X12_50 : zF RX12 50 12 16 true := ⟨RX12, TX12, 75, rfl, uw12, Nat.le_of_ble_eq_true rfl, rfl, zin 1185 (by decide +kernel) (by decide +kernel)⟩
theorem fl_X12_53 : zF RX12 53 12 17 true := ⟨RX12, TX12, 75, rfl, uw12, Nat.le_of_ble_eq_true rfl, rfl, zin 1186 (by decide +kernel) (by decide +kernel)⟩
theorem fl_X12_56 : zF RX12 56 12 18 true := ⟨RX12, TX12, 75, rfl, uw12, Nat.le_of_ble_eq_true rfl, rfl, zin 1187 (by decide +kernel) (by decide +kernel)⟩
theorem fl_X12_59 : zF RX12 59 12 19 true := ⟨RX12, TX12, 75, rfl, uw12, Nat.le_of_ble_eq_true rfl, rfl, zin 1188 (by decide +kernel) (by decide +kernel)⟩
theorem fl_X12_62 : zF RX12 62 12 20 true := ⟨RX12, TX12, 75, rfl, uw12, Nat.le_of_ble_eq_true rfl, rfl, zin 1189 (by decide +kernel) (by decide +kernel)⟩
theorem fl_X12_65 : zF RX12 65 12 21 true := ⟨RX12, TX12, 75, rfl, uw12, Nat.le_of_ble_eq_true rfl, rfl, zin 1190 (by decide +kernel) (by decide +kernel)⟩
theorem fl_X12_68 : zF RX12 68 12 22 true := ⟨RX12, TX12, 75, rfl, uw12, Nat.le_of_ble_eq_true rfl, rfl, zin 1191 (by decide +kernel) (by decide +kernel)⟩
theorem fl_X12_71 : zF RX12 71 12 23 true := ⟨RX12, TX12, 75, rfl, uw12, Nat.le_of_ble_eq_true rfl, rfl, zin 1192 (by decide +kernel) (by decide +kernel)⟩
theorem fl_X12_74 : zF RX12 74 12 27 true := ⟨RX12, TX12, 75, rfl, uw12, Nat.le_of_ble_eq_true rfl, rfl, zin 1196 (by decide +kernel) (by decide +kernel)⟩
theorem fl_X12_77 : zF RX12 77 12 28 true := ⟨RX12, TX12, 75, rfl, uw12, Nat.le_of_ble_eq_true rfl, rfl, zin 1197 (by decide +kernel) (by decide +kernel)⟩
theorem fl_X12_80 : zF RX12 80 12 29 true := ⟨RX12, TX12, 75, rfl, uw12, Nat.le_of_ble_eq_true rfl, rfl, zin 1198 (by decide +kernel) (by decide +kernel)⟩
theorem fl_X12_83 : zF RX12 83 12 30 true := ⟨RX12, TX12, 75, rfl, uw12, Nat.le_of_ble_eq_true rfl, rfl, zin 1199 (by decide +kernel) (by decide +kernel)⟩
theorem fl_X12_86 : zF RX12 86 12 31 true := ⟨RX12, TX12, 75, rfl, uw12, Nat.le_of_ble_eq_true rfl, rfl, zin 1200 (by decide +kernel) (by decide +kernel)⟩
theorem fl_X12_89 : zF RX12 89 12 32 true := ⟨RX12, TX12, 75, rfl, uw12, Nat.le_of_ble_eq_true rfl, rfl, zin 1201 (by decide +kernel) (by decide +kernel)⟩
theorem fl_X12_92 : zF RX12 92 12 36 false := ⟨RX12, TX12, 75, rfl, uw12, Nat.le_of_ble_eq_true rfl, rfl, zin 1205 (by decide +kernel) (by decide +kernel)⟩
theorem fl_X12_96 : zF RX12 96 12 39 true := ⟨RX12, TX12, 75, rfl, uw12, Nat.le_of_ble_eq_true rfl, rfl, zin 1208 (by decide +kernel) (by decide +kernel)⟩
theorem fl_X12_99 : zF RX12 99 12 40 true := ⟨RX12, TX12, 75, rfl, uw12, Nat.le_of_ble_eq_true rfl, rfl, zin 1209 (by decide +kernel) (by decide +kernel)⟩
theorem fl_X12_102 : zF RX12 102 12 47 true := ⟨RX12, TX12, 75, rfl, uw12, Nat.le_of_ble_eq_true rfl, rfl, zin 1216 (by decide +kernel) (by decide +kernel)⟩
theorem fl_X12_105 : zF RX12 105 12 48 true := ⟨RX12, TX12, 75, rfl, uw12, Nat.le_of_ble_eq_true rfl, rfl, zin 1217 (by decide +kernel) (by decide +kernel)⟩
theorem fl_X12_108 : zF RX12 108 12 49 true := ⟨RX12, TX12, 75, rfl, uw12, Nat.le_of_ble_eq_true rfl, rfl, zin 1218 (by decide +kernel) (by decide +kernel)⟩
theorem fl_X12_111 : zF RX12 111 12 50 false := ⟨RX12, TX12, 75, rfl, uw12, Nat.le_of_ble_eq_true rfl, rfl, zin 1219 (by decide +kernel) (by decide +kernel)⟩
theorem fl_X12_114 : zF RX12 114 12 52 true := ⟨RX12, TX12, 75, rfl, uw12, Nat.le_of_ble_eq_true rfl, rfl, zin 1221 (by decide +kernel) (by decide +kernel)⟩
theorem fl_X12_117 : zF RX12 117 12 53 true := ⟨RX12, TX12, 75, rfl, uw12, Nat.le_of_ble_eq_true rfl, rfl, zin 1222 (by decide +kernel) (by decide +kernel)⟩
theorem fl_X12_120 : zF RX12 120 12 54 true := ⟨RX12, TX12, 75, rfl, uw12, Nat.le_of_ble_eq_true rfl, rfl, zin 1223 (by decide +kernel) (by decide +kernel)⟩
theorem fl_X12_123 : zF RX12 123 12 55 true := ⟨RX12, TX12, 75, rfl, uw12, Nat.le_of_ble_eq_true rfl, rfl, zin 1224 (by decide +kernel) (by decide +kernel)⟩
theorem fl_X12_126 : zF RX12 126 12 58 true := ⟨RX12, TX12, 75, rfl, uw12, Nat.le_of_ble_eq_true rfl, rfl, zin 1227 (by decide +kernel) (by decide +kernel)⟩
theorem fl_X12_129 : zF RX12 129 12 59 true := ⟨RX12, TX12, 75, rfl, uw12, Nat.le_of_ble_eq_true rfl, rfl, zin 1228 (by decide +kernel) (by decide +kernel)⟩
theorem fl_X12_132 : zF RX12 132 12 60 true := ⟨RX12, TX12, 75, rfl, uw12, Nat.le_of_ble_eq_true rfl, rfl, zin 1229 (by decide +kernel) (by decide +kernel)⟩
theorem fl_X12_135 : zF RX12 135 12 61 true := ⟨RX12, TX12, 75, rfl, uw12, Nat.le_of_ble_eq_true rfl, rfl, zin 1230 (by decide +kernel) (by decide +kernel)⟩
theorem fl_X12_138 : zF RX12 138 12 62 true := ⟨RX12, TX12, 75, rfl, uw12, Nat.le_of_ble_eq_true rfl, rfl, zin 1231 (by decide +kernel) (by decide +kernel)⟩
theorem fl_X12_141 : zF RX12 141 12 64 true := ⟨RX12, TX12, 75, rfl, uw12, Nat.le_of_ble_eq_true rfl, rfl, zin 1233 (by decide +kernel) (by decide +kernel)⟩
theorem fl_X12_144 : zF RX12 144 12 65 true := ⟨RX12, TX12, 75, rfl, uw12, Nat.le_of_ble_eq_true rfl, rfl, zin 1234 (by decide +kernel) (by decide +kernel)⟩
theorem fl_X12_147 : zF RX12 147 12 67 true := ⟨RX12, TX12, 75, rfl, uw12, Nat.le_of_ble_eq_true rfl, rfl, zin 1236 (by decide +kernel) (by decide +kernel)⟩
theorem fl_X12_150 : zF RX12 150 12 68 true := ⟨RX12, TX12, 75, rfl, uw12, Nat.le_of_ble_eq_true rfl, rfl, zin 1237 (by decide +kernel) (by decide +kernel)⟩
theorem fl_X12_154 : zF RX12 154 12 69 true := ⟨RX12, TX12, 75, rfl, uw12, Nat.le_of_ble_eq_true rfl, rfl, zin 1238 (by decide +kernel) (by decide +kernel)⟩
theorem fl_X12_157 : zF RX12 157 12 74 true := ⟨RX12, TX12, 75, rfl, uw12, Nat.le_of_ble_eq_true rfl, rfl, zin 1243 (by decide +kernel) (by decide +kernel)⟩
theorem fl_X12_168 : zF RX12 168 12 2 false := ⟨RX12, TX12, 75, rfl, uw12, Nat.le_of_ble_eq_true rfl, rfl, zin 1171 (by decide +kernel) (by decide +kernel)⟩
theorem fl_X12_171 : zF RX12 171 12 11 false := ⟨RX12, TX12, 75, rfl, uw12, Nat.le_of_ble_eq_true rfl, rfl, zin 1180 (by decide +kernel) (by decide +kernel)⟩
theorem fl_X12_199 : zF RX12 199 12 33 false := ⟨RX12, TX12, 75, rfl, uw12, Nat.le_of_ble_eq_true rfl, rfl, zin 1202 (by decide +kernel) (by decide +kernel)⟩
theorem fl_X12_204 : zF RX12 204 12 34 false := ⟨RX12, TX12, 75, rfl, uw12, Nat.le_of_ble_eq_true rfl, rfl, zin 1203 (by decide +kernel) (by decide +kernel)⟩
theorem fl_X12_207 : zF RX12 207 12 35 false := ⟨RX12, TX12, 75, rfl, uw12, Nat.le_of_ble_eq_true rfl, rfl, zin 1204 (by decide +kernel) (by decide +kernel)⟩
theorem fl_X12_214 : zF RX12 214 12 37 false := ⟨RX12, TX12, 75, rfl, uw12, Nat.le_of_ble_eq_true rfl, rfl, zin 1206 (by decide +kernel) (by decide +kernel)⟩
theorem fl_X12_221 : zF RX12 221 12 38 false := ⟨RX12, TX12, 75, rfl, uw12, Nat.le_of_ble_eq_true rfl, rfl, zin 1207 (by decide +kernel) (by decide +kernel)⟩
theorem fl_X12_250 : zF RX12 250 12 26 false := ⟨RX12, TX12, 75, rfl, uw12, Nat.le_of_ble_eq_true rfl, rfl, zin 1195 (by decide +kernel) (by decide +kernel)⟩
theorem fl_X12_265 : zF RX12 265 12 41 false := ⟨RX12, TX12, 75, rfl, uw12, Nat.le_of_ble_eq_true rfl, rfl, zin 1210 (by decide +kernel) (by decide +kernel)⟩
theorem fl_X12_268 : zF RX12 268 12 42 false := ⟨RX12, TX12, 75, rfl, uw12, Nat.le_of_ble_eq_true rfl, rfl, zin 1211 (by decide +kernel) (by decide +kernel)⟩
theorem fl_X12_271 : zF RX12 271 12 43 false := ⟨RX12, TX12, 75, rfl, uw12, Nat.le_of_ble_eq_true rfl, rfl, zin 1212 (by decide +kernel) (by decide +kernel)⟩
theorem fl_X12_274 : zF RX12 274 12 44 false := ⟨RX12, TX12, 75, rfl, uw12, Nat.le_of_ble_eq_true rfl, rfl, zin 1213 (by decide +kernel) (by decide +kernel)⟩
theorem fl_X12_277 : zF RX12 277 12 45 false := ⟨RX12, TX12, 75, rfl, uw12, Nat.le_of_ble_eq_true rfl, rfl, zin 1214 (by decide +kernel) (by decide +kernel)⟩
theorem fl_X12_280 : zF RX12 280 12 46 false := ⟨RX12, TX12, 75, rfl, uw12, Nat.le_of_ble_eq_true rfl, rfl, zin 1215 (by decide +kernel) (by decide +kernel)⟩
theorem fl_X12_286 : zF RX12 286 12 0 false := ⟨RX12, TX12, 75, rfl, uw12, Nat.le_of_ble_eq_true rfl, rfl, zin 1169 (by decide +kernel) (by decide +kernel)⟩
theorem fl_X12_292 : zF RX12 292 12 51 false := ⟨RX12, TX12, 75, rfl, uw12, Nat.le_of_ble_eq_true rfl, rfl, zin 1220 (by decide +kernel) (by decide +kernel)⟩
theorem fl_X12_309 : zF RX12 309 12 56 false := ⟨RX12, TX12, 75, rfl, uw12, Nat.le_of_ble_eq_true rfl, rfl, zin 1225 (by decide +kernel) (by decide +kernel)⟩
theorem fl_X12_322 : zF RX12 322 12 57 false := ⟨RX12, TX12, 75, rfl, uw12, Nat.le_of_ble_eq_true rfl, rfl, zin 1226 (by decide +kernel) (by decide +kernel)⟩
theorem fl_X12_340 : zF RX12 340 12 25 false := ⟨RX12, TX12, 75, rfl, uw12, Nat.le_of_ble_eq_true rfl, rfl, zin 1194 (by decide +kernel) (by decide +kernel)⟩
theorem fl_X12_349 : zF RX12 349 12 24 false := ⟨RX12, TX12, 75, rfl, uw12, Nat.le_of_ble_eq_true rfl, rfl, zin 1193 (by decide +kernel) (by decide +kernel)⟩
theorem fl_X12_358 : zF RX12 358 12 66 false := ⟨RX12, TX12, 75, rfl, uw12, Nat.le_of_ble_eq_true rfl, rfl, zin 1235 (by decide +kernel) (by decide +kernel)⟩
theorem fl_X12_386 : zF RX12 386 12 63 false := ⟨RX12, TX12, 75, rfl, uw12, Nat.le_of_ble_eq_true rfl, rfl, zin 1232 (by decide +kernel) (by decide +kernel)⟩
theorem fl_X12_412 : zF RX12 412 12 70 false := ⟨RX12, TX12, 75, rfl, uw12, Nat.le_of_ble_eq_true rfl, rfl, zin 1239 (by decide +kernel) (by decide +kernel)⟩
theorem fl_X12_415 : zF RX12 415 12 71 false := ⟨RX12, TX12, 75, rfl, uw12, Nat.le_of_ble_eq_true rfl, rfl, zin 1240 (by decide +kernel) (by decide +kernel)⟩
theorem fl_X12_418 : zF RX12 418 12 72 false := ⟨RX12, TX12, 75, rfl, uw12, Nat.le_of_ble_eq_true rfl, rfl, zin 1241 (by decide +kernel) (by decide +kernel)⟩
theorem fl_X12_433 : zF RX12 433 12 73 false := ⟨RX12, TX12, 75, rfl, uw12, Nat.le_of_ble_eq_true rfl, rfl, zin 1242 (by decide +kernel) (by decide +kernel)⟩
theorem fl_X2_15 : zF RX2 15 2 2 false := ⟨RX2, TX2, 9, rfl, uw2, Nat.le_of_ble_eq_true rfl, rfl, zin 281 (by decide +kernel) (by decide +kernel)⟩
theorem fl_X2_18 : zF RX2 18 2 3 false := ⟨RX2, TX2, 9, rfl, uw2, Nat.le_of_ble_eq_true rfl, rfl, zin 284 (by decide +kernel) (by decide +kernel)⟩
theorem fl_X2_21 : zF RX2 21 2 4 false := ⟨RX2, TX2, 9, rfl, uw2, Nat.le_of_ble_eq_true rfl, rfl, zin 287 (by decide +kernel) (by decide +kernel)⟩
theorem fl_X2_24 : zF RX2 24 2 5 false := ⟨RX2, TX2, 9, rfl, uw2, Nat.le_of_ble_eq_true rfl, rfl, zin 290 (by decide +kernel) (by decide +kernel)⟩
theorem fl_X2_37 : zF RX2 37 2 6 false := ⟨RX2, TX2, 9, rfl, uw2, Nat.le_of_ble_eq_true rfl, rfl, zin 294 (by decide +kernel) (by decide +kernel)⟩
theorem fl_X2_40 : zF RX2 40 2 7 false := ⟨RX2, TX2, 9, rfl, uw2, Nat.le_of_ble_eq_true rfl, rfl, zin 296 (by decide +kernel) (by decide +kernel)⟩
theorem fl_X3_11 : zF RX3 11 3 0 true := ⟨RX3, TX3, 4, rfl, uw3, Nat.le_of_ble_eq_true rfl, rfl, zin 344 (by decide +kernel) (by decide +kernel)⟩
theorem fl_X3_15 : zF RX3 15 3 1 true := ⟨RX3, TX3, 4, rfl, uw3, Nat.le_of_ble_eq_true rfl, rfl, zin 345 (by decide +kernel) (by decide +kernel)⟩
theorem fl_X3_18 : zF RX3 18 3 2 true := ⟨RX3, TX3, 4, rfl, uw3, Nat.le_of_ble_eq_true rfl, rfl, zin 346 (by decide +kernel) (by decide +kernel)⟩
theorem fl_X3_21 : zF RX3 21 3 3 true := ⟨RX3, TX3, 4, rfl, uw3, Nat.le_of_ble_eq_true rfl, rfl, zin 347 (by decide +kernel) (by decide +kernel)⟩
theorem fl_X3_30 : zF RX3 30 4 0 false := ⟨RX4, TX4, 9, rfl, uw4, Nat.le_of_ble_eq_true rfl, rfl, zin 118 (by decide +kernel) (by decide +kernel)⟩
theorem fl_X3_40 : zF RX3 40 4 2 true := ⟨RX4, TX4, 9, rfl, uw4, Nat.le_of_ble_eq_true rfl, rfl, zin 125 (by decide +kernel) (by decide +kernel)⟩
theorem fl_X3_43 : zF RX3 43 4 3 true := ⟨RX4, TX4, 9, rfl, uw4, Nat.le_of_ble_eq_true rfl, rfl, zin 128 (by decide +kernel) (by decide +kernel)⟩
theorem fl_X3_46 : zF RX3 46 4 4 true := ⟨RX4, TX4, 9, rfl, uw4, Nat.le_of_ble_eq_true rfl, rfl, zin 130 (by decide +kernel) (by decide +kernel)⟩
theorem fl_X4_9 : zF RX4 9 4 2 true := ⟨RX4, TX4, 9, rfl, uw4, Nat.le_of_ble_eq_true rfl, rfl, zin 124 (by decide +kernel) (by decide +kernel)⟩
theorem fl_X4_15 : zF RX4 15 4 3 true := ⟨RX4, TX4, 9, rfl, uw4, Nat.le_of_ble_eq_true rfl, rfl, zin 127 (by decide +kernel) (by decide +kernel)⟩
theorem fl_X4_18 : zF RX4 18 4 4 true := ⟨RX4, TX4, 9, rfl, uw4, Nat.le_of_ble_eq_true rfl, rfl, zin 129 (by decide +kernel) (by decide +kernel)⟩
theorem fl_X4_21 : zF RX4 21 4 5 true := ⟨RX4, TX4, 9, rfl, uw4, Nat.le_of_ble_eq_true rfl, rfl, zin 131 (by decide +kernel) (by decide +kernel)⟩
theorem fl_X4_24 : zF RX4 24 4 6 true := ⟨RX4, TX4, 9, rfl, uw4, Nat.le_of_ble_eq_true rfl, rfl, zin 134 (by decide +kernel) (by decide +kernel)⟩
theorem fl_X4_27 : zF RX4 27 4 7 true := ⟨RX4, TX4, 9, rfl, uw4, Nat.le_of_ble_eq_true rfl, rfl, zin 136 (by decide +kernel) (by decide +kernel)⟩
theorem fl_X4_30 : zF RX4 30 4 8 true := ⟨RX4, TX4, 9, rfl, uw4, Nat.le_of_ble_eq_true rfl, rfl, zin 138 (by decide +kernel) (by decide +kernel)⟩
theorem fl_X4_33 : zF RX4 33 4 0 false := ⟨RX4, TX4, 9, rfl, uw4, Nat.le_of_ble_eq_true rfl, rfl, zin 117 (by decide +kernel) (by decide +kernel)⟩
theorem fl_X4_37 : zF RX4 37 4 1 false := ⟨RX4, TX4, 9, rfl, uw4, Nat.le_of_ble_eq_true rfl, rfl, zin 123 (by decide +kernel) (by decide +kernel)⟩
theorem fl_X5_15 : zF RX5 15 5 2 true := ⟨RX5, TX5, 8, rfl, uw5, Nat.le_of_ble_eq_true rfl, rfl, zin 242 (by decide +kernel) (by decide +kernel)⟩
theorem fl_X5_19 : zF RX5 19 5 0 false := ⟨RX5, TX5, 8, rfl, uw5, Nat.le_of_ble_eq_true rfl, rfl, zin 238 (by decide +kernel) (by decide +kernel)⟩
theorem fl_X5_22 : zF RX5 22 5 4 false := ⟨RX5, TX5, 8, rfl, uw5, Nat.le_of_ble_eq_true rfl, rfl, zin 244 (by decide +kernel) (by decide +kernel)⟩
theorem fl_X5_25 : zF RX5 25 5 3 false := ⟨RX5, TX5, 8, rfl, uw5, Nat.le_of_ble_eq_true rfl, rfl, zin 243 (by decide +kernel) (by decide +kernel)⟩
theorem fl_X5_36 : zF RX5 36 5 5 false := ⟨RX5, TX5, 8, rfl, uw5, Nat.le_of_ble_eq_true rfl, rfl, zin 245 (by decide +kernel) (by decide +kernel)⟩
theorem fl_X5_101 : zF RX5 101 5 7 false := ⟨RX5, TX5, 8, rfl, uw5, Nat.le_of_ble_eq_true rfl, rfl, zin 247 (by decide +kernel) (by decide +kernel)⟩
theorem fl_X5_104 : zF RX5 104 2 2 false := ⟨RX2, TX2, 9, rfl, uw2, Nat.le_of_ble_eq_true rfl, rfl, zin 282 (by decide +kernel) (by decide +kernel)⟩
theorem fl_X5_119 : zF RX5 119 2 8 false := ⟨RX2, TX2, 9, rfl, uw2, Nat.le_of_ble_eq_true rfl, rfl, zin 299 (by decide +kernel) (by decide +kernel)⟩
theorem fl_X5_122 : zF RX5 122 5 6 false := ⟨RX5, TX5, 8, rfl, uw5, Nat.le_of_ble_eq_true rfl, rfl, zin 246 (by decide +kernel) (by decide +kernel)⟩
theorem fl_X6_11 : zF RX6 11 6 1 true := ⟨RX6, TX6, 3, rfl, uw6, Nat.le_of_ble_eq_true rfl, rfl, zin 321 (by decide +kernel) (by decide +kernel)⟩
theorem fl_X6_17 : zF RX6 17 6 2 true := ⟨RX6, TX6, 3, rfl, uw6, Nat.le_of_ble_eq_true rfl, rfl, zin 322 (by decide +kernel) (by decide +kernel)⟩
theorem fl_X6_22 : zF RX6 22 6 0 false := ⟨RX6, TX6, 3, rfl, uw6, Nat.le_of_ble_eq_true rfl, rfl, zin 319 (by decide +kernel) (by decide +kernel)⟩
theorem fl_X6_36 : zF RX6 36 2 0 false := ⟨RX2, TX2, 9, rfl, uw2, Nat.le_of_ble_eq_true rfl, rfl, zin 279 (by decide +kernel) (by decide +kernel)⟩
theorem fl_X6_39 : zF RX6 39 2 1 false := ⟨RX2, TX2, 9, rfl, uw2, Nat.le_of_ble_eq_true rfl, rfl, zin 280 (by decide +kernel) (by decide +kernel)⟩
theorem fl_X6_53 : zF RX6 53 2 8 false := ⟨RX2, TX2, 9, rfl, uw2, Nat.le_of_ble_eq_true rfl, rfl, zin 298 (by decide +kernel) (by decide +kernel)⟩
theorem fl_X7_9 : zF RX7 9 7 0 true := ⟨RX7, TX7, 2, rfl, uw7, Nat.le_of_ble_eq_true rfl, rfl, zin 220 (by decide +kernel) (by decide +kernel)⟩
theorem fl_X7_15 : zF RX7 15 7 1 true := ⟨RX7, TX7, 2, rfl, uw7, Nat.le_of_ble_eq_true rfl, rfl, zin 224 (by decide +kernel) (by decide +kernel)⟩
theorem fl_X8_9 : zF RX8 9 8 1 true := ⟨RX8, TX8, 11, rfl, uw8, Nat.le_of_ble_eq_true rfl, rfl, zin 170 (by decide +kernel) (by decide +kernel)⟩
theorem fl_X8_15 : zF RX8 15 8 2 true := ⟨RX8, TX8, 11, rfl, uw8, Nat.le_of_ble_eq_true rfl, rfl, zin 173 (by decide +kernel) (by decide +kernel)⟩
theorem fl_X8_18 : zF RX8 18 8 3 true := ⟨RX8, TX8, 11, rfl, uw8, Nat.le_of_ble_eq_true rfl, rfl, zin 175 (by decide +kernel) (by decide +kernel)⟩
theorem fl_X8_21 : zF RX8 21 8 4 true := ⟨RX8, TX8, 11, rfl, uw8, Nat.le_of_ble_eq_true rfl, rfl, zin 177 (by decide +kernel) (by decide +kernel)⟩
theorem fl_X8_24 : zF RX8 24 8 5 true := ⟨RX8, TX8, 11, rfl, uw8, Nat.le_of_ble_eq_true rfl, rfl, zin 179 (by decide +kernel) (by decide +kernel)⟩
theorem fl_X8_30 : zF RX8 30 8 7 true := ⟨RX8, TX8, 11, rfl, uw8, Nat.le_of_ble_eq_true rfl, rfl, zin 183 (by decide +kernel) (by decide +kernel)⟩
theorem fl_X8_33 : zF RX8 33 8 8 true := ⟨RX8, TX8, 11, rfl, uw8, Nat.le_of_ble_eq_true rfl, rfl, zin 185 (by decide +kernel) (by decide +kernel)⟩
theorem fl_X8_36 : zF RX8 36 8 9 true := ⟨RX8, TX8, 11, rfl, uw8, Nat.le_of_ble_eq_true rfl, rfl, zin 187 (by decide +kernel) (by decide +kernel)⟩
theorem fl_X8_39 : zF RX8 39 8 10 true := ⟨RX8, TX8, 11, rfl, uw8, Nat.le_of_ble_eq_true rfl, rfl, zin 189 (by decide +kernel) (by decide +kernel)⟩
theorem fl_X8_42 : zF RX8 42 8 0 false := ⟨RX8, TX8, 11, rfl, uw8, Nat.le_of_ble_eq_true rfl, rfl, zin 166 (by decide +kernel) (by decide +kernel)⟩
theorem fl_X8_46 : zF RX8 46 9 5 true := ⟨RX9, TX9, 11, rfl, uw9, Nat.le_of_ble_eq_true rfl, rfl, zin 369 (by decide +kernel) (by decide +kernel)⟩
theorem fl_X8_49 : zF RX8 49 9 7 true := ⟨RX9, TX9, 11, rfl, uw9, Nat.le_of_ble_eq_true rfl, rfl, zin 374 (by decide +kernel) (by decide +kernel)⟩
theorem fl_X8_50 : zF RX8 50 9 6 true := ⟨RX9, TX9, 11, rfl, uw9, Nat.le_of_ble_eq_true rfl, rfl, zin 372 (by decide +kernel) (by decide +kernel)⟩
theorem fl_X9_12 : zF RX9 12 9 2 true := ⟨RX9, TX9, 11, rfl, uw9, Nat.le_of_ble_eq_true rfl, rfl, zin 362 (by decide +kernel) (by decide +kernel)⟩
theorem fl_X9_18 : zF RX9 18 9 3 true := ⟨RX9, TX9, 11, rfl, uw9, Nat.le_of_ble_eq_true rfl, rfl, zin 364 (by decide +kernel) (by decide +kernel)⟩
theorem fl_X9_22 : zF RX9 22 9 4 true := ⟨RX9, TX9, 11, rfl, uw9, Nat.le_of_ble_eq_true rfl, rfl, zin 366 (by decide +kernel) (by decide +kernel)⟩
theorem fl_X9_25 : zF RX9 25 9 5 true := ⟨RX9, TX9, 11, rfl, uw9, Nat.le_of_ble_eq_true rfl, rfl, zin 368 (by decide +kernel) (by decide +kernel)⟩
theorem fl_X9_28 : zF RX9 28 9 6 true := ⟨RX9, TX9, 11, rfl, uw9, Nat.le_of_ble_eq_true rfl, rfl, zin 371 (by decide +kernel) (by decide +kernel)⟩
theorem fl_X9_31 : zF RX9 31 9 7 true := ⟨RX9, TX9, 11, rfl, uw9, Nat.le_of_ble_eq_true rfl, rfl, zin 373 (by decide +kernel) (by decide +kernel)⟩
theorem fl_X9_34 : zF RX9 34 9 8 true := ⟨RX9, TX9, 11, rfl, uw9, Nat.le_of_ble_eq_true rfl, rfl, zin 375 (by decide +kernel) (by decide +kernel)⟩
theorem fl_X9_37 : zF RX9 37 9 0 true := ⟨RX9, TX9, 11, rfl, uw9, Nat.le_of_ble_eq_true rfl, rfl, zin 360 (by decide +kernel) (by decide +kernel)⟩
theorem fl_X9_41 : zF RX9 41 9 1 true := ⟨RX9, TX9, 11, rfl, uw9, Nat.le_of_ble_eq_true rfl, rfl, zin 361 (by decide +kernel) (by decide +kernel)⟩
theorem fl_X9_57 : zF RX9 57 4 1 false := ⟨RX4, TX4, 9, rfl, uw4, Nat.le_of_ble_eq_true rfl, rfl, zin 121 (by decide +kernel) (by decide +kernel)⟩
theorem fl_X9_70 : zF RX9 70 9 9 false := ⟨RX9, TX9, 11, rfl, uw9, Nat.le_of_ble_eq_true rfl, rfl, zin 377 (by decide +kernel) (by decide +kernel)⟩
theorem fl_X9_73 : zF RX9 73 8 0 false := ⟨RX8, TX8, 11, rfl, uw8, Nat.le_of_ble_eq_true rfl, rfl, zin 167 (by decide +kernel) (by decide +kernel)⟩
theorem fl_X9_78 : zF RX9 78 7 0 true := ⟨RX7, TX7, 2, rfl, uw7, Nat.le_of_ble_eq_true rfl, rfl, zin 221 (by decide +kernel) (by decide +kernel)⟩
theorem fl_X9_83 : zF RX9 83 8 3 true := ⟨RX8, TX8, 11, rfl, uw8, Nat.le_of_ble_eq_true rfl, rfl, zin 176 (by decide +kernel) (by decide +kernel)⟩
theorem fl_X9_86 : zF RX9 86 8 4 true := ⟨RX8, TX8, 11, rfl, uw8, Nat.le_of_ble_eq_true rfl, rfl, zin 178 (by decide +kernel) (by decide +kernel)⟩
theorem fl_X9_89 : zF RX9 89 8 5 true := ⟨RX8, TX8, 11, rfl, uw8, Nat.le_of_ble_eq_true rfl, rfl, zin 180 (by decide +kernel) (by decide +kernel)⟩
theorem fl_X9_92 : zF RX9 92 7 1 true := ⟨RX7, TX7, 2, rfl, uw7, Nat.le_of_ble_eq_true rfl, rfl, zin 225 (by decide +kernel) (by decide +kernel)⟩
theorem fl_X9_103 : zF RX9 103 2 6 false := ⟨RX2, TX2, 9, rfl, uw2, Nat.le_of_ble_eq_true rfl, rfl, zin 293 (by decide +kernel) (by decide +kernel)⟩
theorem fl_X9_114 : zF RX9 114 4 8 true := ⟨RX4, TX4, 9, rfl, uw4, Nat.le_of_ble_eq_true rfl, rfl, zin 139 (by decide +kernel) (by decide +kernel)⟩
theorem fl_X9_117 : zF RX9 117 8 1 true := ⟨RX8, TX8, 11, rfl, uw8, Nat.le_of_ble_eq_true rfl, rfl, zin 171 (by decide +kernel) (by decide +kernel)⟩
theorem fl_X9_124 : zF RX9 124 9 10 false := ⟨RX9, TX9, 11, rfl, uw9, Nat.le_of_ble_eq_true rfl, rfl, zin 379 (by decide +kernel) (by decide +kernel)⟩
theorem fl_X9_127 : zF RX9 127 4 0 false := ⟨RX4, TX4, 9, rfl, uw4, Nat.le_of_ble_eq_true rfl, rfl, zin 120 (by decide +kernel) (by decide +kernel)⟩
theorem fl_X9_131 : zF RX9 131 4 2 true := ⟨RX4, TX4, 9, rfl, uw4, Nat.le_of_ble_eq_true rfl, rfl, zin 126 (by decide +kernel) (by decide +kernel)⟩
theorem fl_X9_134 : zF RX9 134 4 5 true := ⟨RX4, TX4, 9, rfl, uw4, Nat.le_of_ble_eq_true rfl, rfl, zin 133 (by decide +kernel) (by decide +kernel)⟩
theorem fp_X0_19 : zFp RX0 19 0 2 := ⟨RX0, TX0, 9, tyX0, rfl, uw0, Nat.le_of_ble_eq_true rfl, rfl, zin 508 (by decide +kernel) (by decide +kernel), rfl, by decide +kernel, tyX0_ok, nmX0⟩
theorem fp_X0_23 : zFp RX0 23 0 3 := ⟨RX0, TX0, 9, tyX0, rfl, uw0, Nat.le_of_ble_eq_true rfl, rfl, zin 509 (by decide +kernel) (by decide +kernel), rfl, by decide +kernel, tyX0_ok, nmX0⟩
theorem fp_X0_26 : zFp RX0 26 0 4 := ⟨RX0, TX0, 9, tyX0, rfl, uw0, Nat.le_of_ble_eq_true rfl, rfl, zin 510 (by decide +kernel) (by decide +kernel), rfl, by decide +kernel, tyX0_ok, nmX0⟩
theorem fp_X0_29 : zFp RX0 29 0 5 := ⟨RX0, TX0, 9, tyX0, rfl, uw0, Nat.le_of_ble_eq_true rfl, rfl, zin 511 (by decide +kernel) (by decide +kernel), rfl, by decide +kernel, tyX0_ok, nmX0⟩
theorem fp_X0_32 : zFp RX0 32 0 6 := ⟨RX0, TX0, 9, tyX0, rfl, uw0, Nat.le_of_ble_eq_true rfl, rfl, zin 512 (by decide +kernel) (by decide +kernel), rfl, by decide +kernel, tyX0_ok, nmX0⟩
theorem fp_X0_41 : zFp RX0 41 0 7 := ⟨RX0, TX0, 9, tyX0, rfl, uw0, Nat.le_of_ble_eq_true rfl, rfl, zin 513 (by decide +kernel) (by decide +kernel), rfl, by decide +kernel, tyX0_ok, nmX0⟩
theorem fp_X0_79 : zFp RX0 79 0 1 := ⟨RX0, TX0, 9, tyX0, rfl, uw0, Nat.le_of_ble_eq_true rfl, rfl, zin 506 (by decide +kernel) (by decide +kernel), rfl, by decide +kernel, tyX0_ok, nmX0⟩
theorem fp_X1_24 : zFp RX1 24 1 0 := ⟨RX1, TX1, 9, tyX1, rfl, uw1, Nat.le_of_ble_eq_true rfl, rfl, zin 466 (by decide +kernel) (by decide +kernel), rfl, by decide +kernel, tyX1_ok, nmX1⟩
theorem fp_X1_28 : zFp RX1 28 1 1 := ⟨RX1, TX1, 9, tyX1, rfl, uw1, Nat.le_of_ble_eq_true rfl, rfl, zin 468 (by decide +kernel) (by decide +kernel), rfl, by decide +kernel, tyX1_ok, nmX1⟩
theorem fp_X1_34 : zFp RX1 34 1 2 := ⟨RX1, TX1, 9, tyX1, rfl, uw1, Nat.le_of_ble_eq_true rfl, rfl, zin 470 (by decide +kernel) (by decide +kernel), rfl, by decide +kernel, tyX1_ok, nmX1⟩
theorem fp_X1_37 : zFp RX1 37 1 3 := ⟨RX1, TX1, 9, tyX1, rfl, uw1, Nat.le_of_ble_eq_true rfl, rfl, zin 472 (by decide +kernel) (by decide +kernel), rfl, by decide +kernel, tyX1_ok, nmX1⟩
theorem fp_X1_40 : zFp RX1 40 1 8 := ⟨RX1, TX1, 9, tyX1, rfl, uw1, Nat.le_of_ble_eq_true rfl, rfl, zin 478 (by decide +kernel) (by decide +kernel), rfl, by decide +kernel, tyX1_ok, nmX1⟩
theorem fp_X10_38 : zFp RX10 38 10 9 := ⟨RX10, TX10, 14, tyX10, rfl, uw10, Nat.le_of_ble_eq_true rfl, rfl, zin 423 (by decide +kernel) (by decide +kernel), rfl, by decide +kernel, tyX10_ok, nmX10⟩
theorem fp_X10_42 : zFp RX10 42 10 10 := ⟨RX10, TX10, 14, tyX10, rfl, uw10, Nat.le_of_ble_eq_true rfl, rfl, zin 424 (by decide +kernel) (by decide +kernel), rfl, by decide +kernel, tyX10_ok, nmX10⟩
theorem fp_X10_111 : zFp RX10 111 10 12 := ⟨RX10, TX10, 14, tyX10, rfl, uw10, Nat.le_of_ble_eq_true rfl, rfl, zin 427 (by decide +kernel) (by decide +kernel), rfl, by decide +kernel, tyX10_ok, nmX10⟩
theorem fp_X10_127 : zFp RX10 127 10 13 := ⟨RX10, TX10, 14, tyX10, rfl, uw10, Nat.le_of_ble_eq_true rfl, rfl, zin 429 (by decide +kernel) (by decide +kernel), rfl, by decide +kernel, tyX10_ok, nmX10⟩
theorem fp_X11_102 : zFp RX11 102 11 15 := ⟨RX11, TX11, 16, tyX11, rfl, uw11, Nat.le_of_ble_eq_true rfl, rfl, zin 550 (by decide +kernel) (by decide +kernel), rfl, by decide +kernel, tyX11_ok, nmX11⟩
theorem fp_X11_112 : zFp RX11 112 4 1 := ⟨RX4, TX4, 9, tyX4, rfl, uw4, Nat.le_of_ble_eq_true rfl, rfl, zin 122 (by decide +kernel) (by decide +kernel), rfl, by decide +kernel, tyX4_ok, nmX4⟩
theorem fp_X11_139 : zFp RX11 139 11 12 := ⟨RX11, TX11, 16, tyX11, rfl, uw11, Nat.le_of_ble_eq_true rfl, rfl, zin 547 (by decide +kernel) (by decide +kernel), rfl, by decide +kernel, tyX11_ok, nmX11⟩
theorem fp_X11_159 : zFp RX11 159 11 13 := ⟨RX11, TX11, 16, tyX11, rfl, uw11, Nat.le_of_ble_eq_true rfl, rfl, zin 548 (by decide +kernel) (by decide +kernel), rfl, by decide +kernel, tyX11_ok, nmX11⟩
theorem fp_X11_162 : zFp RX11 162 11 14 := ⟨RX11, TX11, 16, tyX11, rfl, uw11, Nat.le_of_ble_eq_true rfl, rfl, zin 549 (by decide +kernel) (by decide +kernel), rfl, by decide +kernel, tyX11_ok, nmX11⟩
theorem fp_X12_92 : zFp RX12 92 12 36 := ⟨RX12, TX12, 75, tyX12, rfl, uw12, Nat.le_of_ble_eq_true rfl, rfl, zin 1205 (by decide +kernel) (by decide +kernel), rfl, by decide +kernel, tyX12_ok, nmX12⟩
theorem fp_X12_111 : zFp RX12 111 12 50 := ⟨RX12, TX12, 75, tyX12, rfl, uw12, Nat.le_of_ble_eq_true rfl, rfl, zin 1219 (by decide +kernel) (by decide +kernel), rfl, by decide +kernel, tyX12_ok, nmX12⟩
theorem fp_X12_168 : zFp RX12 168 12 2 := ⟨RX12, TX12, 75, tyX12, rfl, uw12, Nat.le_of_ble_eq_true rfl, rfl, zin 1171 (by decide +kernel) (by decide +kernel), rfl, by decide +kernel, tyX12_ok, nmX12⟩
theorem fp_X12_171 : zFp RX12 171 12 11 := ⟨RX12, TX12, 75, tyX12, rfl, uw12, Nat.le_of_ble_eq_true rfl, rfl, zin 1180 (by decide +kernel) (by decide +kernel), rfl, by decide +kernel, tyX12_ok, nmX12⟩
theorem fp_X12_199 : zFp RX12 199 12 33 := ⟨RX12, TX12, 75, tyX12, rfl, uw12, Nat.le_of_ble_eq_true rfl, rfl, zin 1202 (by decide +kernel) (by decide +kernel), rfl, by decide +kernel, tyX12_ok, nmX12⟩
theorem fp_X12_204 : zFp RX12 204 12 34 := ⟨RX12, TX12, 75, tyX12, rfl, uw12, Nat.le_of_ble_eq_true rfl, rfl, zin 1203 (by decide +kernel) (by decide +kernel), rfl, by decide +kernel, tyX12_ok, nmX12⟩
theorem fp_X12_207 : zFp RX12 207 12 35 := ⟨RX12, TX12, 75, tyX12, rfl, uw12, Nat.le_of_ble_eq_true rfl, rfl, zin 1204 (by decide +kernel) (by decide +kernel), rfl, by decide +kernel, tyX12_ok, nmX12⟩
theorem fp_X12_214 : zFp RX12 214 12 37 := ⟨RX12, TX12, 75, tyX12, rfl, uw12, Nat.le_of_ble_eq_true rfl, rfl, zin 1206 (by decide +kernel) (by decide +kernel), rfl, by decide +kernel, tyX12_ok, nmX12⟩
theorem fp_X12_221 : zFp RX12 221 12 38 := ⟨RX12, TX12, 75, tyX12, rfl, uw12, Nat.le_of_ble_eq_true rfl, rfl, zin 1207 (by decide +kernel) (by decide +kernel), rfl, by decide +kernel, tyX12_ok, nmX12⟩
theorem fp_X12_250 : zFp RX12 250 12 26 := ⟨RX12, TX12, 75, tyX12, rfl, uw12, Nat.le_of_ble_eq_true rfl, rfl, zin 1195 (by decide +kernel) (by decide +kernel), rfl, by decide +kernel, tyX12_ok, nmX12⟩
theorem fp_X12_265 : zFp RX12 265 12 41 := ⟨RX12, TX12, 75, tyX12, rfl, uw12, Nat.le_of_ble_eq_true rfl, rfl, zin 1210 (by decide +kernel) (by decide +kernel), rfl, by decide +kernel, tyX12_ok, nmX12⟩
theorem fp_X12_268 : zFp RX12 268 12 42 := ⟨RX12, TX12, 75, tyX12, rfl, uw12, Nat.le_of_ble_eq_true rfl, rfl, zin 1211 (by decide +kernel) (by decide +kernel), rfl, by decide +kernel, tyX12_ok, nmX12⟩
theorem fp_X12_271 : zFp RX12 271 12 43 := ⟨RX12, TX12, 75, tyX12, rfl, uw12, Nat.le_of_ble_eq_true rfl, rfl, zin 1212 (by decide +kernel) (by decide +kernel), rfl, by decide +kernel, tyX12_ok, nmX12⟩
theorem fp_X12_274 : zFp RX12 274 12 44 := ⟨RX12, TX12, 75, tyX12, rfl, uw12, Nat.le_of_ble_eq_true rfl, rfl, zin 1213 (by decide +kernel) (by decide +kernel), rfl, by decide +kernel, tyX12_ok, nmX12⟩
theorem fp_X12_277 : zFp RX12 277 12 45 := ⟨RX12, TX12, 75, tyX12, rfl, uw12, Nat.le_of_ble_eq_true rfl, rfl, zin 1214 (by decide +kernel) (by decide +kernel), rfl, by decide +kernel, tyX12_ok, nmX12⟩
theorem fp_X12_280 : zFp RX12 280 12 46 := ⟨RX12, TX12, 75, tyX12, rfl, uw12, Nat.le_of_ble_eq_true rfl, rfl, zin 1215 (by decide +kernel) (by decide +kernel), rfl, by decide +kernel, tyX12_ok, nmX12⟩
theorem fp_X12_286 : zFp RX12 286 12 0 := ⟨RX12, TX12, 75, tyX12, rfl, uw12, Nat.le_of_ble_eq_true rfl, rfl, zin 1169 (by decide +kernel) (by decide +kernel), rfl, by decide +kernel, tyX12_ok, nmX12⟩
theorem fp_X12_292 : zFp RX12 292 12 51 := ⟨RX12, TX12, 75, tyX12, rfl, uw12, Nat.le_of_ble_eq_true rfl, rfl, zin 1220 (by decide +kernel) (by decide +kernel), rfl, by decide +kernel, tyX12_ok, nmX12⟩
theorem fp_X12_309 : zFp RX12 309 12 56 := ⟨RX12, TX12, 75, tyX12, rfl, uw12, Nat.le_of_ble_eq_true rfl, rfl, zin 1225 (by decide +kernel) (by decide +kernel), rfl, by decide +kernel, tyX12_ok, nmX12⟩
theorem fp_X12_322 : zFp RX12 322 12 57 := ⟨RX12, TX12, 75, tyX12, rfl, uw12, Nat.le_of_ble_eq_true rfl, rfl, zin 1226 (by decide +kernel) (by decide +kernel), rfl, by decide +kernel, tyX12_ok, nmX12⟩
theorem fp_X12_340 : zFp RX12 340 12 25 := ⟨RX12, TX12, 75, tyX12, rfl, uw12, Nat.le_of_ble_eq_true rfl, rfl, zin 1194 (by decide +kernel) (by decide +kernel), rfl, by decide +kernel, tyX12_ok, nmX12⟩
theorem fp_X12_349 : zFp RX12 349 12 24 := ⟨RX12, TX12, 75, tyX12, rfl, uw12, Nat.le_of_ble_eq_true rfl, rfl, zin 1193 (by decide +kernel) (by decide +kernel), rfl, by decide +kernel, tyX12_ok, nmX12⟩
theorem fp_X12_358 : zFp RX12 358 12 66 := ⟨RX12, TX12, 75, tyX12, rfl, uw12, Nat.le_of_ble_eq_true rfl, rfl, zin 1235 (by decide +kernel) (by decide +kernel), rfl, by decide +kernel, tyX12_ok, nmX12⟩
theorem fp_X12_386 : zFp RX12 386 12 63 := ⟨RX12, TX12, 75, tyX12, rfl, uw12, Nat.le_of_ble_eq_true rfl, rfl, zin 1232 (by decide +kernel) (by decide +kernel), rfl, by decide +kernel, tyX12_ok, nmX12⟩
theorem fp_X12_412 : zFp RX12 412 12 70 := ⟨RX12, TX12, 75, tyX12, rfl, uw12, Nat.le_of_ble_eq_true rfl, rfl, zin 1239 (by decide +kernel) (by decide +kernel), rfl, by decide +kernel, tyX12_ok, nmX12⟩
theorem fp_X12_415 : zFp RX12 415 12 71 := ⟨RX12, TX12, 75, tyX12, rfl, uw12, Nat.le_of_ble_eq_true rfl, rfl, zin 1240 (by decide +kernel) (by decide +kernel), rfl, by decide +kernel, tyX12_ok, nmX12⟩
theorem fp_X12_418 : zFp RX12 418 12 72 := ⟨RX12, TX12, 75, tyX12, rfl, uw12, Nat.le_of_ble_eq_true rfl, rfl, zin 1241 (by decide +kernel) (by decide +kernel), rfl, by decide +kernel, tyX12_ok, nmX12⟩
theorem fp_X12_433 : zFp RX12 433 12 73 := ⟨RX12, TX12, 75, tyX12, rfl, uw12, Nat.le_of_ble_eq_true rfl, rfl, zin 1242 (by decide +kernel) (by decide +kernel), rfl, by decide +kernel, tyX12_ok, nmX12⟩
theorem fp_X2_15 : zFp RX2 15 2 2 := ⟨RX2, TX2, 9, tyX2, rfl, uw2, Nat.le_of_ble_eq_true rfl, rfl, zin 281 (by decide +kernel) (by decide +kernel), rfl, by decide +kernel, tyX2_ok, nmX2⟩
theorem fp_X2_18 : zFp RX2 18 2 3 := ⟨RX2, TX2, 9, tyX2, rfl, uw2, Nat.le_of_ble_eq_true rfl, rfl, zin 284 (by decide +kernel) (by decide +kernel), rfl, by decide +kernel, tyX2_ok, nmX2⟩
theorem fp_X2_21 : zFp RX2 21 2 4 := ⟨RX2, TX2, 9, tyX2, rfl, uw2, Nat.le_of_ble_eq_true rfl, rfl, zin 287 (by decide +kernel) (by decide +kernel), rfl, by decide +kernel, tyX2_ok, nmX2⟩
theorem fp_X2_24 : zFp RX2 24 2 5 := ⟨RX2, TX2, 9, tyX2, rfl, uw2, Nat.le_of_ble_eq_true rfl, rfl, zin 290 (by decide +kernel) (by decide +kernel), rfl, by decide +kernel, tyX2_ok, nmX2⟩
theorem fp_X2_30 : zFp RX2 30 2 8 := ⟨RX2, TX2, 9, tyX2, rfl, uw2, Nat.le_of_ble_eq_true rfl, rfl, zin 297 (by decide +kernel) (by decide +kernel), rfl, by decide +kernel, tyX2_ok, nmX2⟩
theorem fp_X2_37 : zFp RX2 37 2 6 := ⟨RX2, TX2, 9, tyX2, rfl, uw2, Nat.le_of_ble_eq_true rfl, rfl, zin 294 (by decide +kernel) (by decide +kernel), rfl, by decide +kernel, tyX2_ok, nmX2⟩
theorem fp_X2_40 : zFp RX2 40 2 7 := ⟨RX2, TX2, 9, tyX2, rfl, uw2, Nat.le_of_ble_eq_true rfl, rfl, zin 296 (by decide +kernel) (by decide +kernel), rfl, by decide +kernel, tyX2_ok, nmX2⟩
theorem fp_X4_33 : zFp RX4 33 4 0 := ⟨RX4, TX4, 9, tyX4, rfl, uw4, Nat.le_of_ble_eq_true rfl, rfl, zin 117 (by decide +kernel) (by decide +kernel), rfl, by decide +kernel, tyX4_ok, nmX4⟩
theorem fp_X5_9 : zFp RX5 9 5 1 := ⟨RX5, TX5, 8, tyX5, rfl, uw5, Nat.le_of_ble_eq_true rfl, rfl, zin 240 (by decide +kernel) (by decide +kernel), rfl, by decide +kernel, tyX5_ok, nmX5⟩
theorem fp_X5_19 : zFp RX5 19 5 0 := ⟨RX5, TX5, 8, tyX5, rfl, uw5, Nat.le_of_ble_eq_true rfl, rfl, zin 238 (by decide +kernel) (by decide +kernel), rfl, by decide +kernel, tyX5_ok, nmX5⟩
theorem fp_X5_22 : zFp RX5 22 5 4 := ⟨RX5, TX5, 8, tyX5, rfl, uw5, Nat.le_of_ble_eq_true rfl, rfl, zin 244 (by decide +kernel) (by decide +kernel), rfl, by decide +kernel, tyX5_ok, nmX5⟩
theorem fp_X5_25 : zFp RX5 25 5 3 := ⟨RX5, TX5, 8, tyX5, rfl, uw5, Nat.le_of_ble_eq_true rfl, rfl, zin 243 (by decide +kernel) (by decide +kernel), rfl, by decide +kernel, tyX5_ok, nmX5⟩
theorem fp_X5_36 : zFp RX5 36 5 5 := ⟨RX5, TX5, 8, tyX5, rfl, uw5, Nat.le_of_ble_eq_true rfl, rfl, zin 245 (by decide +kernel) (by decide +kernel), rfl, by decide +kernel, tyX5_ok, nmX5⟩
theorem fp_X5_101 : zFp RX5 101 5 7 := ⟨RX5, TX5, 8, tyX5, rfl, uw5, Nat.le_of_ble_eq_true rfl, rfl, zin 247 (by decide +kernel) (by decide +kernel), rfl, by decide +kernel, tyX5_ok, nmX5⟩
theorem fp_X5_104 : zFp RX5 104 2 2 := ⟨RX2, TX2, 9, tyX2, rfl, uw2, Nat.le_of_ble_eq_true rfl, rfl, zin 282 (by decide +kernel) (by decide +kernel), rfl, by decide +kernel, tyX2_ok, nmX2⟩
theorem fp_X5_109 : zFp RX5 109 2 3 := ⟨RX2, TX2, 9, tyX2, rfl, uw2, Nat.le_of_ble_eq_true rfl, rfl, zin 285 (by decide +kernel) (by decide +kernel), rfl, by decide +kernel, tyX2_ok, nmX2⟩
theorem fp_X5_115 : zFp RX5 115 2 5 := ⟨RX2, TX2, 9, tyX2, rfl, uw2, Nat.le_of_ble_eq_true rfl, rfl, zin 291 (by decide +kernel) (by decide +kernel), rfl, by decide +kernel, tyX2_ok, nmX2⟩
theorem fp_X5_117 : zFp RX5 117 2 4 := ⟨RX2, TX2, 9, tyX2, rfl, uw2, Nat.le_of_ble_eq_true rfl, rfl, zin 288 (by decide +kernel) (by decide +kernel), rfl, by decide +kernel, tyX2_ok, nmX2⟩
theorem fp_X5_119 : zFp RX5 119 2 8 := ⟨RX2, TX2, 9, tyX2, rfl, uw2, Nat.le_of_ble_eq_true rfl, rfl, zin 299 (by decide +kernel) (by decide +kernel), rfl, by decide +kernel, tyX2_ok, nmX2⟩
theorem fp_X5_122 : zFp RX5 122 5 6 := ⟨RX5, TX5, 8, tyX5, rfl, uw5, Nat.le_of_ble_eq_true rfl, rfl, zin 246 (by decide +kernel) (by decide +kernel), rfl, by decide +kernel, tyX5_ok, nmX5⟩
theorem fp_X6_22 : zFp RX6 22 6 0 := ⟨RX6, TX6, 3, tyX6, rfl, uw6, Nat.le_of_ble_eq_true rfl, rfl, zin 319 (by decide +kernel) (by decide +kernel), rfl, by decide +kernel, tyX6_ok, nmX6⟩
theorem fp_X6_36 : zFp RX6 36 2 0 := ⟨RX2, TX2, 9, tyX2, rfl, uw2, Nat.le_of_ble_eq_true rfl, rfl, zin 279 (by decide +kernel) (by decide +kernel), rfl, by decide +kernel, tyX2_ok, nmX2⟩
theorem fp_X6_39 : zFp RX6 39 2 1 := ⟨RX2, TX2, 9, tyX2, rfl, uw2, Nat.le_of_ble_eq_true rfl, rfl, zin 280 (by decide +kernel) (by decide +kernel), rfl, by decide +kernel, tyX2_ok, nmX2⟩
theorem fp_X8_42 : zFp RX8 42 8 0 := ⟨RX8, TX8, 11, tyX8, rfl, uw8, Nat.le_of_ble_eq_true rfl, rfl, zin 166 (by decide +kernel) (by decide +kernel), rfl, by decide +kernel, tyX8_ok, nmX8⟩
theorem fp_X9_70 : zFp RX9 70 9 9 := ⟨RX9, TX9, 11, tyX9, rfl, uw9, Nat.le_of_ble_eq_true rfl, rfl, zin 377 (by decide +kernel) (by decide +kernel), rfl, by decide +kernel, tyX9_ok, nmX9⟩
theorem fp_X9_124 : zFp RX9 124 9 10 := ⟨RX9, TX9, 11, tyX9, rfl, uw9, Nat.le_of_ble_eq_true rfl, rfl, zin 379 (by decide +kernel) (by decide +kernel), rfl, by decide +kernel, tyX9_ok, nmX9⟩
theorem lk_X0_35 : Cond.methodLink RX0 35 Lib.Math.min.name ∈ zW := zin 1093 (by decide +kernel) (by decide +kernel)
theorem lk_X0_44 : Cond.methodLink RX0 44 yX0_weighDay ∈ zW := zin 1094 (by decide +kernel) (by decide +kernel)
theorem lk_X0_48 : Cond.methodLink RX0 48 yX0_follow ∈ zW := zin 1120 (by decide +kernel) (by decide +kernel)
theorem lk_X0_51 : Cond.methodLink RX0 51 yX0_oldestOn ∈ zW := zin 1098 (by decide +kernel) (by decide +kernel)
theorem lk_X0_55 : Cond.methodLink RX0 55 yX0_costOf ∈ zW := zin 1102 (by decide +kernel) (by decide +kernel)
theorem lk_X0_59 : Cond.methodLink RX0 59 yX0_place ∈ zW := zin 1117 (by decide +kernel) (by decide +kernel)
theorem lk_X0_63 : Cond.methodLink RX0 63 Lib.Math.max.name ∈ zW := zin 1110 (by decide +kernel) (by decide +kernel)
theorem lk_X0_66 : Cond.methodLink RX0 66 yX0_gives ∈ zW := zin 1106 (by decide +kernel) (by decide +kernel)
theorem lk_X0_70 : Cond.methodLink RX0 70 yX0_older ∈ zW := zin 1113 (by decide +kernel) (by decide +kernel)
theorem lk_X0_73 : Cond.methodLink RX0 73 yJ7_fill_53178 ∈ zW := zin 1124 (by decide +kernel) (by decide +kernel)
theorem lk_X0_82 : Cond.methodLink RX0 82 yX0_firstBest ∈ zW := zin 1125 (by decide +kernel) (by decide +kernel)
theorem lk_X1_31 : Cond.methodLink RX1 31 yX1_listSuspects ∈ zW := zin 1072 (by decide +kernel) (by decide +kernel)
theorem lk_X1_43 : Cond.methodLink RX1 43 yX1_explains ∈ zW := zin 1076 (by decide +kernel) (by decide +kernel)
theorem lk_X1_47 : Cond.methodLink RX1 47 yJ6_bitCount_0f7a4 ∈ zW := zin 1080 (by decide +kernel) (by decide +kernel)
theorem lk_X1_53 : Cond.methodLink RX1 53 yX1_asSet ∈ zW := zin 1081 (by decide +kernel) (by decide +kernel)
theorem lk_X10_60 : Cond.methodLink RX10 60 yX7_startAs ∈ zW := zin 1000 (by decide +kernel) (by decide +kernel)
theorem lk_X10_64 : Cond.methodLink RX10 64 Lib.Math.min.name ∈ zW := zin 1149 (by decide +kernel) (by decide +kernel)
theorem lk_X10_70 : Cond.methodLink RX10 70 yX6_someBeginOn ∈ zW := zin 1150 (by decide +kernel) (by decide +kernel)
theorem lk_X10_76 : Cond.methodLink RX10 76 yX7_hasCisterns ∈ zW := zin 1154 (by decide +kernel) (by decide +kernel)
theorem lk_X10_80 : Cond.methodLink RX10 80 yX7_takeCisterns ∈ zW := zin 1158 (by decide +kernel) (by decide +kernel)
theorem lk_X10_83 : Cond.methodLink RX10 83 yX6_hold ∈ zW := zin 991 (by decide +kernel) (by decide +kernel)
theorem lk_X10_87 : Cond.methodLink RX10 87 yX10_dryOfDay ∈ zW := zin 1010 (by decide +kernel) (by decide +kernel)
theorem lk_X10_91 : Cond.methodLink RX10 91 yX9_ask ∈ zW := zin 1014 (by decide +kernel) (by decide +kernel)
theorem lk_X10_97 : Cond.methodLink RX10 97 yX9_begin ∈ zW := zin 1015 (by decide +kernel) (by decide +kernel)
theorem lk_X10_101 : Cond.methodLink RX10 101 yX9_serve ∈ zW := zin 1016 (by decide +kernel) (by decide +kernel)
theorem lk_X10_104 : Cond.methodLink RX10 104 yX9_settle ∈ zW := zin 1017 (by decide +kernel) (by decide +kernel)
theorem lk_X10_107 : Cond.methodLink RX10 107 yX9_someDry ∈ zW := zin 1018 (by decide +kernel) (by decide +kernel)
theorem lk_X10_119 : Cond.methodLink RX10 119 yX10_leastBehind ∈ zW := zin 996 (by decide +kernel) (by decide +kernel)
theorem lk_X10_123 : Cond.methodLink RX10 123 yX10_changeOver ∈ zW := zin 1006 (by decide +kernel) (by decide +kernel)
theorem lk_X10_133 : Cond.methodLink RX10 133 yX10_firstBest ∈ zW := zin 1023 (by decide +kernel) (by decide +kernel)
theorem lk_X11_90 : Cond.methodLink RX11 90 yX11_isNode ∈ zW := zin 588 (by decide +kernel) (by decide +kernel)
theorem lk_X11_94 : Cond.methodLink RX11 94 yX11_isOutside ∈ zW := zin 591 (by decide +kernel) (by decide +kernel)
theorem lk_X11_105 : Cond.methodLink RX11 105 yX4_lay ∈ zW := zin 594 (by decide +kernel) (by decide +kernel)
theorem lk_X11_109 : Cond.methodLink RX11 109 yX4_has ∈ zW := zin 602 (by decide +kernel) (by decide +kernel)
theorem lk_X11_128 : Cond.methodLink RX11 128 yX8_build ∈ zW := zin 622 (by decide +kernel) (by decide +kernel)
theorem lk_X11_135 : Cond.methodLink RX11 135 yX8_has ∈ zW := zin 630 (by decide +kernel) (by decide +kernel)
theorem lk_X11_142 : Cond.methodLink RX11 142 yX7_always ∈ zW := zin 642 (by decide +kernel) (by decide +kernel)
theorem lk_X11_147 : Cond.methodLink RX11 147 yJ6_bitCount_0f7a4 ∈ zW := zin 646 (by decide +kernel) (by decide +kernel)
theorem lk_X11_183 : Cond.methodLink RX11 183 yX11_paysByRooms ∈ zW := zin 656 (by decide +kernel) (by decide +kernel)
theorem lk_X11_186 : Cond.methodLink RX11 186 yX11_paysByMeter ∈ zW := zin 691 (by decide +kernel) (by decide +kernel)
theorem lk_X11_191 : Cond.methodLink RX11 191 yX5_put ∈ zW := zin 700 (by decide +kernel) (by decide +kernel)
theorem lk_X11_195 : Cond.methodLink RX11 195 yX6_draft ∈ zW := zin 708 (by decide +kernel) (by decide +kernel)
theorem lk_X11_199 : Cond.methodLink RX11 199 yX5_read ∈ zW := zin 713 (by decide +kernel) (by decide +kernel)
theorem lk_X11_203 : Cond.methodLink RX11 203 yX6_enact ∈ zW := zin 838 (by decide +kernel) (by decide +kernel)
theorem lk_X11_209 : Cond.methodLink RX11 209 yX6_hold ∈ zW := zin 667 (by decide +kernel) (by decide +kernel)
theorem lk_X11_228 : Cond.methodLink RX11 228 yX2_key ∈ zW := zin 851 (by decide +kernel) (by decide +kernel)
theorem lk_X11_231 : Cond.methodLink RX11 231 yX11_stepIsDry ∈ zW := zin 856 (by decide +kernel) (by decide +kernel)
theorem lk_X11_235 : Cond.methodLink RX11 235 yX11_supplyHour ∈ zW := zin 860 (by decide +kernel) (by decide +kernel)
theorem lk_X11_243 : Cond.methodLink RX11 243 yX9_gotByAll ∈ zW := zin 951 (by decide +kernel) (by decide +kernel)
theorem lk_X11_247 : Cond.methodLink RX11 247 yX11_today ∈ zW := zin 660 (by decide +kernel) (by decide +kernel)
theorem lk_X11_250 : Cond.methodLink RX11 250 yX9_ask ∈ zW := zin 864 (by decide +kernel) (by decide +kernel)
theorem lk_X11_264 : Cond.methodLink RX11 264 yX3_send ∈ zW := zin 963 (by decide +kernel) (by decide +kernel)
theorem lk_X11_270 : Cond.methodLink RX11 270 arraycopyName ∈ zW := zin 964 (by decide +kernel) (by decide +kernel)
theorem lk_X11_276 : Cond.methodLink RX11 276 yX9_begin ∈ zW := zin 895 (by decide +kernel) (by decide +kernel)
theorem lk_X11_280 : Cond.methodLink RX11 280 yX9_serve ∈ zW := zin 930 (by decide +kernel) (by decide +kernel)
theorem lk_X11_283 : Cond.methodLink RX11 283 yX9_gotLessThan ∈ zW := zin 967 (by decide +kernel) (by decide +kernel)
theorem lk_X11_287 : Cond.methodLink RX11 287 yX8_hasAll ∈ zW := zin 975 (by decide +kernel) (by decide +kernel)
theorem lk_X11_290 : Cond.methodLink RX11 290 yX7_hasAlways ∈ zW := zin 979 (by decide +kernel) (by decide +kernel)
theorem lk_X11_294 : Cond.methodLink RX11 294 yX10_isPlanned ∈ zW := zin 983 (by decide +kernel) (by decide +kernel)
theorem lk_X11_297 : Cond.methodLink RX11 297 yX10_choose ∈ zW := zin 987 (by decide +kernel) (by decide +kernel)
theorem lk_X11_300 : Cond.methodLink RX11 300 yX10_weigh ∈ zW := zin 992 (by decide +kernel) (by decide +kernel)
theorem lk_X11_304 : Cond.methodLink RX11 304 yX10_follow ∈ zW := zin 1019 (by decide +kernel) (by decide +kernel)
theorem lk_X11_316 : Cond.methodLink RX11 316 yX4_hasAll ∈ zW := zin 1031 (by decide +kernel) (by decide +kernel)
theorem lk_X11_317 : Cond.methodLink RX11 317 yX4_joined ∈ zW := zin 1035 (by decide +kernel) (by decide +kernel)
theorem lk_X11_321 : Cond.methodLink RX11 321 yX8_apart ∈ zW := zin 1040 (by decide +kernel) (by decide +kernel)
theorem lk_X11_324 : Cond.methodLink RX11 324 yX1_put ∈ zW := zin 1052 (by decide +kernel) (by decide +kernel)
theorem lk_X11_326 : Cond.methodLink RX11 326 yX1_suppose ∈ zW := zin 1060 (by decide +kernel) (by decide +kernel)
theorem lk_X11_330 : Cond.methodLink RX11 330 yX1_search ∈ zW := zin 1068 (by decide +kernel) (by decide +kernel)
theorem lk_X11_339 : Cond.methodLink RX11 339 yX0_plan ∈ zW := zin 1089 (by decide +kernel) (by decide +kernel)
theorem lk_X11_347 : Cond.methodLink RX11 347 Lib.Math.min.name ∈ zW := zin 664 (by decide +kernel) (by decide +kernel)
theorem lk_X11_352 : Cond.methodLink RX11 352 yX10_dryAgain ∈ zW := zin 1145 (by decide +kernel) (by decide +kernel)
theorem lk_X11_359 : Cond.methodLink RX11 359 yX9_settle ∈ zW := zin 934 (by decide +kernel) (by decide +kernel)
theorem lk_X11_362 : Cond.methodLink RX11 362 yX8_remember ∈ zW := zin 939 (by decide +kernel) (by decide +kernel)
theorem lk_X11_366 : Cond.methodLink RX11 366 yX9_someDry ∈ zW := zin 943 (by decide +kernel) (by decide +kernel)
theorem lk_X12_162 : Cond.methodLink RX12 162 yX12_in ∈ zW := zin 1404 (by decide +kernel) (by decide +kernel)
theorem lk_X12_174 : Cond.methodLink RX12 174 yX12_isNode ∈ zW := zin 1400 (by decide +kernel) (by decide +kernel)
theorem lk_X12_182 : Cond.methodLink RX12 182 yX12_noPipe ∈ zW := zin 1413 (by decide +kernel) (by decide +kernel)
theorem lk_X12_185 : Cond.methodLink RX12 185 yX12_one ∈ zW := zin 1417 (by decide +kernel) (by decide +kernel)
theorem lk_X12_189 : Cond.methodLink RX12 189 yX12_isHour ∈ zW := zin 1432 (by decide +kernel) (by decide +kernel)
theorem lk_X12_194 : Cond.methodLink RX12 194 yX12_noStreet ∈ zW := zin 1445 (by decide +kernel) (by decide +kernel)
theorem lk_X12_210 : Cond.methodLink RX12 210 yX12_here ∈ zW := zin 1467 (by decide +kernel) (by decide +kernel)
theorem lk_X12_228 : Cond.methodLink RX12 228 yX12_want ∈ zW := zin 1485 (by decide +kernel) (by decide +kernel)
theorem lk_X12_232 : Cond.methodLink RX12 232 yX12_isWord ∈ zW := zin 1481 (by decide +kernel) (by decide +kernel)
theorem lk_X12_236 : Cond.methodLink RX12 236 yX12_takeWord ∈ zW := zin 1471 (by decide +kernel) (by decide +kernel)
theorem lk_X12_239 : Cond.methodLink RX12 239 yX12_keyOf ∈ zW := zin 1497 (by decide +kernel) (by decide +kernel)
theorem lk_X12_242 : Cond.methodLink RX12 242 yX12_readKeys ∈ zW := zin 1493 (by decide +kernel) (by decide +kernel)
theorem lk_X12_246 : Cond.methodLink RX12 246 yX12_takeNumber ∈ zW := zin 1501 (by decide +kernel) (by decide +kernel)
theorem lk_X12_255 : Cond.methodLink RX12 255 yX12_isDay ∈ zW := zin 1463 (by decide +kernel) (by decide +kernel)
theorem lk_X12_258 : Cond.methodLink RX12 258 yX12_clauseOf ∈ zW := zin 1477 (by decide +kernel) (by decide +kernel)
theorem lk_X12_261 : Cond.methodLink RX12 261 yX12_readClause ∈ zW := zin 1489 (by decide +kernel) (by decide +kernel)
theorem lk_X12_283 : Cond.methodLink RX12 283 yX12_findRules ∈ zW := zin 1515 (by decide +kernel) (by decide +kernel)
theorem lk_X12_289 : Cond.methodLink RX12 289 yX12_cell ∈ zW := zin 1560 (by decide +kernel) (by decide +kernel)
theorem lk_X12_295 : Cond.methodLink RX12 295 yX12_findWay ∈ zW := zin 1567 (by decide +kernel) (by decide +kernel)
theorem lk_X12_299 : Cond.methodLink RX12 299 yX12_least ∈ zW := zin 1571 (by decide +kernel) (by decide +kernel)
theorem lk_X12_302 : Cond.methodLink RX12 302 yX12_heldBy ∈ zW := zin 1548 (by decide +kernel) (by decide +kernel)
theorem lk_X12_306 : Cond.methodLink RX12 306 yX12_findFar ∈ zW := zin 1536 (by decide +kernel) (by decide +kernel)
theorem lk_X12_312 : Cond.methodLink RX12 312 yX12_isWaterOn ∈ zW := zin 1540 (by decide +kernel) (by decide +kernel)
theorem lk_X12_316 : Cond.methodLink RX12 316 yX12_goesAhead ∈ zW := zin 1544 (by decide +kernel) (by decide +kernel)
theorem lk_X12_319 : Cond.methodLink RX12 319 yX12_layNet ∈ zW := zin 1556 (by decide +kernel) (by decide +kernel)
theorem lk_X12_325 : Cond.methodLink RX12 325 yX12_ask ∈ zW := zin 1563 (by decide +kernel) (by decide +kernel)
theorem lk_X12_328 : Cond.methodLink RX12 328 yX12_findLine ∈ zW := zin 1532 (by decide +kernel) (by decide +kernel)
theorem lk_X12_331 : Cond.methodLink RX12 331 yX12_askLeaks ∈ zW := zin 1552 (by decide +kernel) (by decide +kernel)
theorem lk_X12_334 : Cond.methodLink RX12 334 yX12_askStreets ∈ zW := zin 1574 (by decide +kernel) (by decide +kernel)
theorem lk_X12_337 : Cond.methodLink RX12 337 yX12_findFlow ∈ zW := zin 1528 (by decide +kernel) (by decide +kernel)
theorem lk_X12_345 : Cond.methodLink RX12 345 yX12_doHour ∈ zW := zin 1524 (by decide +kernel) (by decide +kernel)
theorem lk_X12_352 : Cond.methodLink RX12 352 yX12_alwaysMany ∈ zW := zin 1582 (by decide +kernel) (by decide +kernel)
theorem lk_X12_355 : Cond.methodLink RX12 355 yX12_shutMany ∈ zW := zin 1586 (by decide +kernel) (by decide +kernel)
theorem lk_X12_361 : Cond.methodLink RX12 361 yX12_guessMany ∈ zW := zin 1590 (by decide +kernel) (by decide +kernel)
theorem lk_X12_365 : Cond.methodLink RX12 365 yX12_dayNow ∈ zW := zin 1598 (by decide +kernel) (by decide +kernel)
theorem lk_X12_368 : Cond.methodLink RX12 368 yX12_byRooms ∈ zW := zin 1602 (by decide +kernel) (by decide +kernel)
theorem lk_X12_371 : Cond.methodLink RX12 371 yX12_byMeter ∈ zW := zin 1606 (by decide +kernel) (by decide +kernel)
theorem lk_X12_379 : Cond.methodLink RX12 379 yX12_keep ∈ zW := zin 1636 (by decide +kernel) (by decide +kernel)
theorem lk_X12_383 : Cond.methodLink RX12 383 yX12_emptyAll ∈ zW := zin 1648 (by decide +kernel) (by decide +kernel)
theorem lk_X12_389 : Cond.methodLink RX12 389 yX12_tryDay ∈ zW := zin 1644 (by decide +kernel) (by decide +kernel)
theorem lk_X12_392 : Cond.methodLink RX12 392 yX12_ones ∈ zW := zin 1629 (by decide +kernel) (by decide +kernel)
theorem lk_X12_395 : Cond.methodLink RX12 395 yX12_keepAll ∈ zW := zin 1632 (by decide +kernel) (by decide +kernel)
theorem lk_X12_399 : Cond.methodLink RX12 399 yX12_sumOfOrder ∈ zW := zin 1640 (by decide +kernel) (by decide +kernel)
theorem lk_X12_402 : Cond.methodLink RX12 402 yX12_nextOrder ∈ zW := zin 1652 (by decide +kernel) (by decide +kernel)
theorem lk_X12_405 : Cond.methodLink RX12 405 yX12_cutOff ∈ zW := zin 1660 (by decide +kernel) (by decide +kernel)
theorem lk_X12_409 : Cond.methodLink RX12 409 yX12_explains ∈ zW := zin 1680 (by decide +kernel) (by decide +kernel)
theorem lk_X12_421 : Cond.methodLink RX12 421 yX12_ageOf ∈ zW := zin 1698 (by decide +kernel) (by decide +kernel)
theorem lk_X12_424 : Cond.methodLink RX12 424 yX12_bedCell ∈ zW := zin 1695 (by decide +kernel) (by decide +kernel)
theorem lk_X12_427 : Cond.methodLink RX12 427 yX12_bestFrom ∈ zW := zin 1701 (by decide +kernel) (by decide +kernel)
theorem lk_X12_430 : Cond.methodLink RX12 430 yX12_givenBy ∈ zW := zin 1705 (by decide +kernel) (by decide +kernel)
theorem lk_X12_436 : Cond.methodLink RX12 436 yX12_nextAges ∈ zW := zin 1709 (by decide +kernel) (by decide +kernel)
theorem lk_X12_445 : Cond.methodLink RX12 445 yX12_findBeds ∈ zW := zin 1691 (by decide +kernel) (by decide +kernel)
theorem lk_X2_27 : Cond.methodLink RX2 27 yX2_forgetKeys ∈ zW := zin 675 (by decide +kernel) (by decide +kernel)
theorem lk_X2_33 : Cond.methodLink RX2 33 yX2_addKey ∈ zW := zin 679 (by decide +kernel) (by decide +kernel)
theorem lk_X2_43 : Cond.methodLink RX2 43 yX2_key ∈ zW := zin 811 (by decide +kernel) (by decide +kernel)
theorem lk_X3_24 : Cond.methodLink RX3 24 yJ7_fill_53178 ∈ zW := zin 903 (by decide +kernel) (by decide +kernel)
theorem lk_X3_36 : Cond.methodLink RX3 36 yX4_isOpen ∈ zW := zin 904 (by decide +kernel) (by decide +kernel)
theorem lk_X3_49 : Cond.methodLink RX3 49 yX3_widen ∈ zW := zin 908 (by decide +kernel) (by decide +kernel)
theorem lk_X3_53 : Cond.methodLink RX3 53 yX3_findWay ∈ zW := zin 917 (by decide +kernel) (by decide +kernel)
theorem lk_X3_56 : Cond.methodLink RX3 56 yX3_narrowest ∈ zW := zin 921 (by decide +kernel) (by decide +kernel)
theorem lk_X3_60 : Cond.methodLink RX3 60 Lib.Math.min.name ∈ zW := zin 925 (by decide +kernel) (by decide +kernel)
theorem lk_X3_66 : Cond.methodLink RX3 66 yX3_push ∈ zW := zin 926 (by decide +kernel) (by decide +kernel)
theorem lk_X4_40 : Cond.methodLink RX4 40 yJ7_fill_53178 ∈ zW := zin 873 (by decide +kernel) (by decide +kernel)
theorem lk_X4_46 : Cond.methodLink RX4 46 yX4_stepOver ∈ zW := zin 874 (by decide +kernel) (by decide +kernel)
theorem lk_X4_50 : Cond.methodLink RX4 50 yX4_measure ∈ zW := zin 1039 (by decide +kernel) (by decide +kernel)
theorem lk_X5_28 : Cond.methodLink RX5 28 yX2_sayNothing ∈ zW := zin 717 (by decide +kernel) (by decide +kernel)
theorem lk_X5_33 : Cond.methodLink RX5 33 yX5_next ∈ zW := zin 721 (by decide +kernel) (by decide +kernel)
theorem lk_X5_39 : Cond.methodLink RX5 39 yX5_clause ∈ zW := zin 729 (by decide +kernel) (by decide +kernel)
theorem lk_X5_45 : Cond.methodLink RX5 45 yX5_says ∈ zW := zin 734 (by decide +kernel) (by decide +kernel)
theorem lk_X5_57 : Cond.methodLink RX5 57 yX5_fail ∈ zW := zin 790 (by decide +kernel) (by decide +kernel)
theorem lk_X5_61 : Cond.methodLink RX5 61 yX5_keys ∈ zW := zin 794 (by decide +kernel) (by decide +kernel)
theorem lk_X5_65 : Cond.methodLink RX5 65 yX5_turnHours ∈ zW := zin 816 (by decide +kernel) (by decide +kernel)
theorem lk_X5_68 : Cond.methodLink RX5 68 yX5_price ∈ zW := zin 830 (by decide +kernel) (by decide +kernel)
theorem lk_X5_72 : Cond.methodLink RX5 72 yX5_strike ∈ zW := zin 834 (by decide +kernel) (by decide +kernel)
theorem lk_X5_75 : Cond.methodLink RX5 75 yX2_forgetKeys ∈ zW := zin 798 (by decide +kernel) (by decide +kernel)
theorem lk_X5_78 : Cond.methodLink RX5 78 yX5_keyNumber ∈ zW := zin 799 (by decide +kernel) (by decide +kernel)
theorem lk_X5_82 : Cond.methodLink RX5 82 yX2_hasKey ∈ zW := zin 807 (by decide +kernel) (by decide +kernel)
theorem lk_X5_85 : Cond.methodLink RX5 85 yX2_addKey ∈ zW := zin 815 (by decide +kernel) (by decide +kernel)
theorem lk_X5_97 : Cond.methodLink RX5 97 yX5_number ∈ zW := zin 820 (by decide +kernel) (by decide +kernel)
theorem lk_X5_111 : Cond.methodLink RX5 111 yX5_semicolon ∈ zW := zin 826 (by decide +kernel) (by decide +kernel)
theorem lk_X5_129 : Cond.methodLink RX5 129 yJ0_length_8abf5 ∈ zW := zin 738 (by decide +kernel) (by decide +kernel)
theorem lk_X5_133 : Cond.methodLink RX5 133 yJ0_charAt_5068e ∈ zW := zin 748 (by decide +kernel) (by decide +kernel)
theorem lk_X5_137 : Cond.methodLink RX5 137 yX5_kindOf ∈ zW := zin 725 (by decide +kernel) (by decide +kernel)
theorem lk_X5_141 : Cond.methodLink RX5 141 Lib.Math.min.name ∈ zW := zin 728 (by decide +kernel) (by decide +kernel)
theorem lk_X6_26 : Cond.methodLink RX6 26 Lib.Math.min.name ∈ zW := zin 712 (by decide +kernel) (by decide +kernel)
theorem lk_X6_32 : Cond.methodLink RX6 32 yX6_draft ∈ zW := zin 842 (by decide +kernel) (by decide +kernel)
theorem lk_X6_42 : Cond.methodLink RX6 42 yX2_sayWhatHoldsAtFirst ∈ zW := zin 671 (by decide +kernel) (by decide +kernel)
theorem lk_X6_45 : Cond.methodLink RX6 45 yX6_countingOn ∈ zW := zin 683 (by decide +kernel) (by decide +kernel)
theorem lk_X6_49 : Cond.methodLink RX6 49 yX2_follow ∈ zW := zin 687 (by decide +kernel) (by decide +kernel)
theorem lk_X7_18 : Cond.methodLink RX7 18 arraycopyName ∈ zW := zin 1004 (by decide +kernel) (by decide +kernel)
theorem lk_X7_24 : Cond.methodLink RX7 24 yJ7_fill_53178 ∈ zW := zin 1005 (by decide +kernel) (by decide +kernel)
theorem lk_X9_51 : Cond.methodLink RX9 51 yX2_hasKey ∈ zW := zin 868 (by decide +kernel) (by decide +kernel)
theorem lk_X9_63 : Cond.methodLink RX9 63 yX4_measure ∈ zW := zin 869 (by decide +kernel) (by decide +kernel)
theorem lk_X9_67 : Cond.methodLink RX9 67 yX2_isTurnHour ∈ zW := zin 878 (by decide +kernel) (by decide +kernel)
theorem lk_X9_95 : Cond.methodLink RX9 95 yX9_queueUp ∈ zW := zin 882 (by decide +kernel) (by decide +kernel)
theorem lk_X9_99 : Cond.methodLink RX9 99 yX9_isAhead ∈ zW := zin 886 (by decide +kernel) (by decide +kernel)
theorem lk_X9_106 : Cond.methodLink RX9 106 yX2_key ∈ zW := zin 890 (by decide +kernel) (by decide +kernel)
theorem lk_X9_110 : Cond.methodLink RX9 110 yX9_rank ∈ zW := zin 891 (by decide +kernel) (by decide +kernel)
theorem lk_X9_120 : Cond.methodLink RX9 120 yX3_begin ∈ zW := zin 899 (by decide +kernel) (by decide +kernel)
theorem lk_X9_128 : Cond.methodLink RX9 128 yX4_isOpen ∈ zW := zin 912 (by decide +kernel) (by decide +kernel)
theorem lk_X9_137 : Cond.methodLink RX9 137 yX3_send ∈ zW := zin 913 (by decide +kernel) (by decide +kernel)
theorem lk_X9_141 : Cond.methodLink RX9 141 Lib.Math.min.name ∈ zW := zin 938 (by decide +kernel) (by decide +kernel)
theorem mm_imin : Cond.static Lib.Math.min.name ∈ zW ∧ Cond.initialized "java/lang/Math" ∈ zW ∧ Cond.code Lib.Math.min.name Lib.Math.min.code 2 (some .int) ∈ zW := ⟨zin 665 (by decide +kernel) (by decide +kernel), zin 97 (by decide +kernel) (by decide +kernel), zin 666 (by decide +kernel) (by decide +kernel)⟩
theorem mm_imax : Cond.static Lib.Math.max.name ∈ zW ∧ Cond.initialized "java/lang/Math" ∈ zW ∧ Cond.code Lib.Math.max.name Lib.Math.max.code 2 (some .int) ∈ zW := ⟨zin 1111 (by decide +kernel) (by decide +kernel), zin 97 (by decide +kernel) (by decide +kernel), zin 1112 (by decide +kernel) (by decide +kernel)⟩
theorem mm_cpy : Cond.native arraycopyName ∈ zW ∧ Cond.static arraycopyName ∈ zW ∧ Cond.initialized "java/lang/System" ∈ zW := ⟨zin 966 (by decide +kernel) (by decide +kernel), zin 965 (by decide +kernel) (by decide +kernel), zin 102 (by decide +kernel) (by decide +kernel)⟩
theorem mf_X0_oldestOn : mV yX0_oldestOn cX0_oldestOn 2 (some (.int)) 1 0 := ⟨⟨zin 1101 (by decide +kernel) (by decide +kernel), zin 94 (by decide +kernel) (by decide +kernel), by decide, by decide, by decide +kernel⟩, zin 1100 (by decide +kernel) (by decide +kernel), zin 33 (by decide +kernel) (by decide +kernel), TX0, _, rfl⟩
theorem mf_X0_gives : mV yX0_gives cX0_gives 4 (some (.int)) 3 0 := ⟨⟨zin 1109 (by decide +kernel) (by decide +kernel), zin 94 (by decide +kernel) (by decide +kernel), by decide, by decide, by decide +kernel⟩, zin 1108 (by decide +kernel) (by decide +kernel), zin 35 (by decide +kernel) (by decide +kernel), TX0, _, rfl⟩
theorem mf_X0_older : mV yX0_older cX0_older 5 (some (.int)) 4 0 := ⟨⟨zin 1116 (by decide +kernel) (by decide +kernel), zin 94 (by decide +kernel) (by decide +kernel), by decide, by decide, by decide +kernel⟩, zin 1115 (by decide +kernel) (by decide +kernel), zin 36 (by decide +kernel) (by decide +kernel), TX0, _, rfl⟩
theorem mf_X0_place : mS yX0_place cX0_place 8 (some (.int)) 4 := ⟨⟨zin 1119 (by decide +kernel) (by decide +kernel), zin 94 (by decide +kernel) (by decide +kernel), by decide, by decide, by decide +kernel⟩, zin 1118 (by decide +kernel) (by decide +kernel)⟩
theorem mf_X0_costOf : mV yX0_costOf cX0_costOf 9 (some (.int)) 5 0 := ⟨⟨zin 1105 (by decide +kernel) (by decide +kernel), zin 94 (by decide +kernel) (by decide +kernel), by decide, by decide, by decide +kernel⟩, zin 1104 (by decide +kernel) (by decide +kernel), zin 34 (by decide +kernel) (by decide +kernel), TX0, _, rfl⟩
theorem mf_X0_weighDay : mV yX0_weighDay cX0_weighDay 8 none 1 0 := ⟨⟨zin 1097 (by decide +kernel) (by decide +kernel), zin 94 (by decide +kernel) (by decide +kernel), by decide, by decide, by decide +kernel⟩, zin 1096 (by decide +kernel) (by decide +kernel), zin 32 (by decide +kernel) (by decide +kernel), TX0, _, rfl⟩
theorem mf_J7_fill_53178 : mS yJ7_fill_53178 cJ7_fill_53178 4 none 2 := ⟨⟨zin 359 (by decide +kernel) (by decide +kernel), zin 91 (by decide +kernel) (by decide +kernel), by decide, by decide, by decide +kernel⟩, zin 358 (by decide +kernel) (by decide +kernel)⟩
theorem mf_X0_firstBest : mV yX0_firstBest cX0_firstBest 6 (some (.int)) 4 0 := ⟨⟨zin 1128 (by decide +kernel) (by decide +kernel), zin 94 (by decide +kernel) (by decide +kernel), by decide, by decide, by decide +kernel⟩, zin 1127 (by decide +kernel) (by decide +kernel), zin 38 (by decide +kernel) (by decide +kernel), TX0, _, rfl⟩
theorem mf_X0_follow : mV yX0_follow cX0_follow 6 none 0 0 := ⟨⟨zin 1123 (by decide +kernel) (by decide +kernel), zin 94 (by decide +kernel) (by decide +kernel), by decide, by decide, by decide +kernel⟩, zin 1122 (by decide +kernel) (by decide +kernel), zin 37 (by decide +kernel) (by decide +kernel), TX0, _, rfl⟩
theorem mf_X0_plan : mV yX0_plan cX0_plan 7 none 5 0 := ⟨⟨zin 1092 (by decide +kernel) (by decide +kernel), zin 94 (by decide +kernel) (by decide +kernel), by decide, by decide, by decide +kernel⟩, zin 1090 (by decide +kernel) (by decide +kernel), zin 1091 (by decide +kernel) (by decide +kernel), TX0, _, rfl⟩
theorem mf_X1_put : mV yX1_put cX1_put 3 (some (.int)) 2 1 := ⟨⟨zin 1055 (by decide +kernel) (by decide +kernel), zin 93 (by decide +kernel) (by decide +kernel), by decide, by decide, by decide +kernel⟩, zin 1053 (by decide +kernel) (by decide +kernel), zin 1054 (by decide +kernel) (by decide +kernel), TX1, _, rfl⟩
theorem mf_X1_suppose : mV yX1_suppose cX1_suppose 3 none 2 1 := ⟨⟨zin 1063 (by decide +kernel) (by decide +kernel), zin 93 (by decide +kernel) (by decide +kernel), by decide, by decide, by decide +kernel⟩, zin 1061 (by decide +kernel) (by decide +kernel), zin 1062 (by decide +kernel) (by decide +kernel), TX1, _, rfl⟩
theorem mf_X1_listSuspects : mV yX1_listSuspects cX1_listSuspects 2 none 0 1 := ⟨⟨zin 1075 (by decide +kernel) (by decide +kernel), zin 93 (by decide +kernel) (by decide +kernel), by decide, by decide, by decide +kernel⟩, zin 1074 (by decide +kernel) (by decide +kernel), zin 29 (by decide +kernel) (by decide +kernel), TX1, _, rfl⟩
theorem mf_X1_explains : mV yX1_explains cX1_explains 5 (some (.boolean)) 1 1 := ⟨⟨zin 1079 (by decide +kernel) (by decide +kernel), zin 93 (by decide +kernel) (by decide +kernel), by decide, by decide, by decide +kernel⟩, zin 1078 (by decide +kernel) (by decide +kernel), zin 30 (by decide +kernel) (by decide +kernel), TX1, _, rfl⟩
theorem mf_J6_bitCount_0f7a4 : mS yJ6_bitCount_0f7a4 cJ6_bitCount_0f7a4 1 (some (.int)) 1 := ⟨⟨zin 648 (by decide +kernel) (by decide +kernel), zin 96 (by decide +kernel) (by decide +kernel), by decide, by decide, by decide +kernel⟩, zin 647 (by decide +kernel) (by decide +kernel)⟩
theorem mf_X1_asSet : mV yX1_asSet cX1_asSet 4 (some (.int)) 1 1 := ⟨⟨zin 1084 (by decide +kernel) (by decide +kernel), zin 93 (by decide +kernel) (by decide +kernel), by decide, by decide, by decide +kernel⟩, zin 1083 (by decide +kernel) (by decide +kernel), zin 31 (by decide +kernel) (by decide +kernel), TX1, _, rfl⟩
theorem mf_X1_search : mV yX1_search cX1_search 4 none 0 1 := ⟨⟨zin 1071 (by decide +kernel) (by decide +kernel), zin 93 (by decide +kernel) (by decide +kernel), by decide, by decide, by decide +kernel⟩, zin 1069 (by decide +kernel) (by decide +kernel), zin 1070 (by decide +kernel) (by decide +kernel), TX1, _, rfl⟩
theorem mf_X2_forgetKeys : mV yX2_forgetKeys cX2_forgetKeys 1 none 0 2 := ⟨⟨zin 678 (by decide +kernel) (by decide +kernel), zin 88 (by decide +kernel) (by decide +kernel), by decide, by decide, by decide +kernel⟩, zin 676 (by decide +kernel) (by decide +kernel), zin 677 (by decide +kernel) (by decide +kernel), TX2, _, rfl⟩
theorem mf_X2_sayNothing : mV yX2_sayNothing cX2_sayNothing 1 none 0 2 := ⟨⟨zin 720 (by decide +kernel) (by decide +kernel), zin 88 (by decide +kernel) (by decide +kernel), by decide, by decide, by decide +kernel⟩, zin 718 (by decide +kernel) (by decide +kernel), zin 719 (by decide +kernel) (by decide +kernel), TX2, _, rfl⟩
theorem mf_X2_addKey : mV yX2_addKey cX2_addKey 2 none 1 2 := ⟨⟨zin 682 (by decide +kernel) (by decide +kernel), zin 88 (by decide +kernel) (by decide +kernel), by decide, by decide, by decide +kernel⟩, zin 680 (by decide +kernel) (by decide +kernel), zin 681 (by decide +kernel) (by decide +kernel), TX2, _, rfl⟩
theorem mf_X2_sayWhatHoldsAtFirst : mV yX2_sayWhatHoldsAtFirst cX2_sayWhatHoldsAtFirst 1 none 0 2 := ⟨⟨zin 674 (by decide +kernel) (by decide +kernel), zin 88 (by decide +kernel) (by decide +kernel), by decide, by decide, by decide +kernel⟩, zin 672 (by decide +kernel) (by decide +kernel), zin 673 (by decide +kernel) (by decide +kernel), TX2, _, rfl⟩
theorem mf_X2_follow : mV yX2_follow cX2_follow 2 none 1 2 := ⟨⟨zin 690 (by decide +kernel) (by decide +kernel), zin 88 (by decide +kernel) (by decide +kernel), by decide, by decide, by decide +kernel⟩, zin 688 (by decide +kernel) (by decide +kernel), zin 689 (by decide +kernel) (by decide +kernel), TX2, _, rfl⟩
theorem mf_X2_key : mV yX2_key cX2_key 2 (some (.int)) 1 2 := ⟨⟨zin 814 (by decide +kernel) (by decide +kernel), zin 88 (by decide +kernel) (by decide +kernel), by decide, by decide, by decide +kernel⟩, zin 812 (by decide +kernel) (by decide +kernel), zin 813 (by decide +kernel) (by decide +kernel), TX2, _, rfl⟩
theorem mf_X2_hasKey : mV yX2_hasKey cX2_hasKey 3 (some (.boolean)) 1 2 := ⟨⟨zin 810 (by decide +kernel) (by decide +kernel), zin 88 (by decide +kernel) (by decide +kernel), by decide, by decide, by decide +kernel⟩, zin 808 (by decide +kernel) (by decide +kernel), zin 809 (by decide +kernel) (by decide +kernel), TX2, _, rfl⟩
theorem mf_X2_isTurnHour : mV yX2_isTurnHour cX2_isTurnHour 2 (some (.boolean)) 1 2 := ⟨⟨zin 881 (by decide +kernel) (by decide +kernel), zin 88 (by decide +kernel) (by decide +kernel), by decide, by decide, by decide +kernel⟩, zin 879 (by decide +kernel) (by decide +kernel), zin 880 (by decide +kernel) (by decide +kernel), TX2, _, rfl⟩
theorem mf_X4_isOpen : mV yX4_isOpen cX4_isOpen 2 (some (.boolean)) 1 4 := ⟨⟨zin 907 (by decide +kernel) (by decide +kernel), zin 83 (by decide +kernel) (by decide +kernel), by decide, by decide, by decide +kernel⟩, zin 905 (by decide +kernel) (by decide +kernel), zin 906 (by decide +kernel) (by decide +kernel), TX4, _, rfl⟩
theorem mf_X3_widen : mV yX3_widen cX3_widen 5 none 3 3 := ⟨⟨zin 911 (by decide +kernel) (by decide +kernel), zin 90 (by decide +kernel) (by decide +kernel), by decide, by decide, by decide +kernel⟩, zin 910 (by decide +kernel) (by decide +kernel), zin 21 (by decide +kernel) (by decide +kernel), TX3, _, rfl⟩
theorem mf_X3_begin : mV yX3_begin cX3_begin 6 none 4 3 := ⟨⟨zin 902 (by decide +kernel) (by decide +kernel), zin 90 (by decide +kernel) (by decide +kernel), by decide, by decide, by decide +kernel⟩, zin 900 (by decide +kernel) (by decide +kernel), zin 901 (by decide +kernel) (by decide +kernel), TX3, _, rfl⟩
theorem mf_X3_findWay : mV yX3_findWay cX3_findWay 8 (some (.boolean)) 1 3 := ⟨⟨zin 920 (by decide +kernel) (by decide +kernel), zin 90 (by decide +kernel) (by decide +kernel), by decide, by decide, by decide +kernel⟩, zin 919 (by decide +kernel) (by decide +kernel), zin 22 (by decide +kernel) (by decide +kernel), TX3, _, rfl⟩
theorem mf_X3_narrowest : mV yX3_narrowest cX3_narrowest 5 (some (.int)) 1 3 := ⟨⟨zin 924 (by decide +kernel) (by decide +kernel), zin 90 (by decide +kernel) (by decide +kernel), by decide, by decide, by decide +kernel⟩, zin 923 (by decide +kernel) (by decide +kernel), zin 23 (by decide +kernel) (by decide +kernel), TX3, _, rfl⟩
theorem mf_X3_push : mV yX3_push cX3_push 5 none 2 3 := ⟨⟨zin 929 (by decide +kernel) (by decide +kernel), zin 90 (by decide +kernel) (by decide +kernel), by decide, by decide, by decide +kernel⟩, zin 928 (by decide +kernel) (by decide +kernel), zin 24 (by decide +kernel) (by decide +kernel), TX3, _, rfl⟩
theorem mf_X3_send : mV yX3_send cX3_send 6 (some (.int)) 2 3 := ⟨⟨zin 916 (by decide +kernel) (by decide +kernel), zin 90 (by decide +kernel) (by decide +kernel), by decide, by decide, by decide +kernel⟩, zin 914 (by decide +kernel) (by decide +kernel), zin 915 (by decide +kernel) (by decide +kernel), TX3, _, rfl⟩
theorem mf_X4_has : mV yX4_has cX4_has 2 (some (.boolean)) 1 4 := ⟨⟨zin 605 (by decide +kernel) (by decide +kernel), zin 83 (by decide +kernel) (by decide +kernel), by decide, by decide, by decide +kernel⟩, zin 603 (by decide +kernel) (by decide +kernel), zin 604 (by decide +kernel) (by decide +kernel), TX4, _, rfl⟩
theorem mf_X4_hasAll : mV yX4_hasAll cX4_hasAll 2 (some (.boolean)) 1 4 := ⟨⟨zin 1034 (by decide +kernel) (by decide +kernel), zin 83 (by decide +kernel) (by decide +kernel), by decide, by decide, by decide +kernel⟩, zin 1032 (by decide +kernel) (by decide +kernel), zin 1033 (by decide +kernel) (by decide +kernel), TX4, _, rfl⟩
theorem mf_X4_lay : mV yX4_lay cX4_lay 6 (some (.int)) 4 4 := ⟨⟨zin 597 (by decide +kernel) (by decide +kernel), zin 83 (by decide +kernel) (by decide +kernel), by decide, by decide, by decide +kernel⟩, zin 595 (by decide +kernel) (by decide +kernel), zin 596 (by decide +kernel) (by decide +kernel), TX4, _, rfl⟩
theorem mf_X4_stepOver : mV yX4_stepOver cX4_stepOver 4 (some (.boolean)) 3 4 := ⟨⟨zin 877 (by decide +kernel) (by decide +kernel), zin 83 (by decide +kernel) (by decide +kernel), by decide, by decide, by decide +kernel⟩, zin 876 (by decide +kernel) (by decide +kernel), zin 17 (by decide +kernel) (by decide +kernel), TX4, _, rfl⟩
theorem mf_X4_measure : mV yX4_measure cX4_measure 8 none 2 4 := ⟨⟨zin 872 (by decide +kernel) (by decide +kernel), zin 83 (by decide +kernel) (by decide +kernel), by decide, by decide, by decide +kernel⟩, zin 870 (by decide +kernel) (by decide +kernel), zin 871 (by decide +kernel) (by decide +kernel), TX4, _, rfl⟩
theorem mf_X4_joined : mV yX4_joined cX4_joined 5 (some (.int)) 2 4 := ⟨⟨zin 1038 (by decide +kernel) (by decide +kernel), zin 83 (by decide +kernel) (by decide +kernel), by decide, by decide, by decide +kernel⟩, zin 1036 (by decide +kernel) (by decide +kernel), zin 1037 (by decide +kernel) (by decide +kernel), TX4, _, rfl⟩
theorem mf_X5_put : mV yX5_put cX5_put 2 none 1 5 := ⟨⟨zin 703 (by decide +kernel) (by decide +kernel), zin 86 (by decide +kernel) (by decide +kernel), by decide, by decide, by decide +kernel⟩, zin 701 (by decide +kernel) (by decide +kernel), zin 702 (by decide +kernel) (by decide +kernel), TX5, _, rfl⟩
theorem mf_X5_kindOf : mS yX5_kindOf cX5_kindOf 1 (some (.int)) 1 := ⟨⟨zin 727 (by decide +kernel) (by decide +kernel), zin 86 (by decide +kernel) (by decide +kernel), by decide, by decide, by decide +kernel⟩, zin 726 (by decide +kernel) (by decide +kernel)⟩
theorem mf_X5_next : mV yX5_next cX5_next 1 none 0 5 := ⟨⟨zin 724 (by decide +kernel) (by decide +kernel), zin 86 (by decide +kernel) (by decide +kernel), by decide, by decide, by decide +kernel⟩, zin 723 (by decide +kernel) (by decide +kernel), zin 4 (by decide +kernel) (by decide +kernel), TX5, _, rfl⟩
theorem mf_X5_says : mV yX5_says cX5_says 3 (some (.boolean)) 1 5 := ⟨⟨zin 737 (by decide +kernel) (by decide +kernel), zin 86 (by decide +kernel) (by decide +kernel), by decide, by decide, by decide +kernel⟩, zin 736 (by decide +kernel) (by decide +kernel), zin 6 (by decide +kernel) (by decide +kernel), TX5, _, rfl⟩
theorem mf_X5_fail : mV yX5_fail cX5_fail 2 (some (.boolean)) 1 5 := ⟨⟨zin 793 (by decide +kernel) (by decide +kernel), zin 86 (by decide +kernel) (by decide +kernel), by decide, by decide, by decide +kernel⟩, zin 792 (by decide +kernel) (by decide +kernel), zin 7 (by decide +kernel) (by decide +kernel), TX5, _, rfl⟩
theorem mf_X5_keyNumber : mV yX5_keyNumber cX5_keyNumber 1 (some (.int)) 0 5 := ⟨⟨zin 802 (by decide +kernel) (by decide +kernel), zin 86 (by decide +kernel) (by decide +kernel), by decide, by decide, by decide +kernel⟩, zin 801 (by decide +kernel) (by decide +kernel), zin 9 (by decide +kernel) (by decide +kernel), TX5, _, rfl⟩
theorem mf_X5_keys : mV yX5_keys cX5_keys 4 (some (.boolean)) 1 5 := ⟨⟨zin 797 (by decide +kernel) (by decide +kernel), zin 86 (by decide +kernel) (by decide +kernel), by decide, by decide, by decide +kernel⟩, zin 796 (by decide +kernel) (by decide +kernel), zin 8 (by decide +kernel) (by decide +kernel), TX5, _, rfl⟩
theorem mf_X11_isOutside : mS yX11_isOutside cX11_isOutside 3 (some (.boolean)) 3 := ⟨⟨zin 593 (by decide +kernel) (by decide +kernel), zin 82 (by decide +kernel) (by decide +kernel), by decide, by decide, by decide +kernel⟩, zin 592 (by decide +kernel) (by decide +kernel)⟩
theorem mf_X5_number : mV yX5_number cX5_number 3 (some (.boolean)) 2 5 := ⟨⟨zin 823 (by decide +kernel) (by decide +kernel), zin 86 (by decide +kernel) (by decide +kernel), by decide, by decide, by decide +kernel⟩, zin 822 (by decide +kernel) (by decide +kernel), zin 11 (by decide +kernel) (by decide +kernel), TX5, _, rfl⟩
theorem mf_X5_semicolon : mV yX5_semicolon cX5_semicolon 1 (some (.boolean)) 0 5 := ⟨⟨zin 829 (by decide +kernel) (by decide +kernel), zin 86 (by decide +kernel) (by decide +kernel), by decide, by decide, by decide +kernel⟩, zin 828 (by decide +kernel) (by decide +kernel), zin 12 (by decide +kernel) (by decide +kernel), TX5, _, rfl⟩
theorem mf_X5_turnHours : mV yX5_turnHours cX5_turnHours 2 (some (.boolean)) 1 5 := ⟨⟨zin 819 (by decide +kernel) (by decide +kernel), zin 86 (by decide +kernel) (by decide +kernel), by decide, by decide, by decide +kernel⟩, zin 818 (by decide +kernel) (by decide +kernel), zin 10 (by decide +kernel) (by decide +kernel), TX5, _, rfl⟩
theorem mf_X5_price : mV yX5_price cX5_price 3 (some (.boolean)) 2 5 := ⟨⟨zin 833 (by decide +kernel) (by decide +kernel), zin 86 (by decide +kernel) (by decide +kernel), by decide, by decide, by decide +kernel⟩, zin 832 (by decide +kernel) (by decide +kernel), zin 13 (by decide +kernel) (by decide +kernel), TX5, _, rfl⟩
theorem mf_X5_strike : mV yX5_strike cX5_strike 3 (some (.boolean)) 2 5 := ⟨⟨zin 837 (by decide +kernel) (by decide +kernel), zin 86 (by decide +kernel) (by decide +kernel), by decide, by decide, by decide +kernel⟩, zin 836 (by decide +kernel) (by decide +kernel), zin 14 (by decide +kernel) (by decide +kernel), TX5, _, rfl⟩
theorem mf_X5_clause : mV yX5_clause cX5_clause 8 (some (.boolean)) 3 5 := ⟨⟨zin 732 (by decide +kernel) (by decide +kernel), zin 86 (by decide +kernel) (by decide +kernel), by decide, by decide, by decide +kernel⟩, zin 731 (by decide +kernel) (by decide +kernel), zin 5 (by decide +kernel) (by decide +kernel), TX5, _, rfl⟩
theorem mf_X5_read : mV yX5_read cX5_read 5 (some (.int)) 2 5 := ⟨⟨zin 716 (by decide +kernel) (by decide +kernel), zin 86 (by decide +kernel) (by decide +kernel), by decide, by decide, by decide +kernel⟩, zin 714 (by decide +kernel) (by decide +kernel), zin 715 (by decide +kernel) (by decide +kernel), TX5, _, rfl⟩
theorem mf_X6_draft : mV yX6_draft cX6_draft 1 (some (.object "WaterTown$Law")) 0 6 := ⟨⟨zin 711 (by decide +kernel) (by decide +kernel), zin 87 (by decide +kernel) (by decide +kernel), by decide, by decide, by decide +kernel⟩, zin 709 (by decide +kernel) (by decide +kernel), zin 710 (by decide +kernel) (by decide +kernel), TX6, _, rfl⟩
theorem mf_X6_enact : mV yX6_enact cX6_enact 3 (some (.int)) 1 6 := ⟨⟨zin 841 (by decide +kernel) (by decide +kernel), zin 87 (by decide +kernel) (by decide +kernel), by decide, by decide, by decide +kernel⟩, zin 839 (by decide +kernel) (by decide +kernel), zin 840 (by decide +kernel) (by decide +kernel), TX6, _, rfl⟩
theorem mf_X6_countingOn : mV yX6_countingOn cX6_countingOn 5 (some (.int)) 1 6 := ⟨⟨zin 686 (by decide +kernel) (by decide +kernel), zin 87 (by decide +kernel) (by decide +kernel), by decide, by decide, by decide +kernel⟩, zin 685 (by decide +kernel) (by decide +kernel), zin 2 (by decide +kernel) (by decide +kernel), TX6, _, rfl⟩
theorem mf_X6_hold : mV yX6_hold cX6_hold 5 none 2 6 := ⟨⟨zin 670 (by decide +kernel) (by decide +kernel), zin 87 (by decide +kernel) (by decide +kernel), by decide, by decide, by decide +kernel⟩, zin 668 (by decide +kernel) (by decide +kernel), zin 669 (by decide +kernel) (by decide +kernel), TX6, _, rfl⟩
theorem mf_X6_someBeginOn : mV yX6_someBeginOn cX6_someBeginOn 3 (some (.boolean)) 1 6 := ⟨⟨zin 1153 (by decide +kernel) (by decide +kernel), zin 87 (by decide +kernel) (by decide +kernel), by decide, by decide, by decide +kernel⟩, zin 1151 (by decide +kernel) (by decide +kernel), zin 1152 (by decide +kernel) (by decide +kernel), TX6, _, rfl⟩
theorem mf_X7_startAs : mV yX7_startAs cX7_startAs 2 none 1 7 := ⟨⟨zin 1003 (by decide +kernel) (by decide +kernel), zin 85 (by decide +kernel) (by decide +kernel), by decide, by decide, by decide +kernel⟩, zin 1001 (by decide +kernel) (by decide +kernel), zin 1002 (by decide +kernel) (by decide +kernel), TX7, _, rfl⟩
theorem mf_X7_takeCisterns : mV yX7_takeCisterns cX7_takeCisterns 2 none 1 7 := ⟨⟨zin 1161 (by decide +kernel) (by decide +kernel), zin 85 (by decide +kernel) (by decide +kernel), by decide, by decide, by decide +kernel⟩, zin 1159 (by decide +kernel) (by decide +kernel), zin 1160 (by decide +kernel) (by decide +kernel), TX7, _, rfl⟩
theorem mf_X7_hasCisterns : mV yX7_hasCisterns cX7_hasCisterns 3 (some (.boolean)) 1 7 := ⟨⟨zin 1157 (by decide +kernel) (by decide +kernel), zin 85 (by decide +kernel) (by decide +kernel), by decide, by decide, by decide +kernel⟩, zin 1155 (by decide +kernel) (by decide +kernel), zin 1156 (by decide +kernel) (by decide +kernel), TX7, _, rfl⟩
theorem mf_X7_always : mV yX7_always cX7_always 4 (some (.int)) 1 7 := ⟨⟨zin 645 (by decide +kernel) (by decide +kernel), zin 85 (by decide +kernel) (by decide +kernel), by decide, by decide, by decide +kernel⟩, zin 643 (by decide +kernel) (by decide +kernel), zin 644 (by decide +kernel) (by decide +kernel), TX7, _, rfl⟩
theorem mf_X7_hasAlways : mV yX7_hasAlways cX7_hasAlways 4 (some (.boolean)) 2 7 := ⟨⟨zin 982 (by decide +kernel) (by decide +kernel), zin 85 (by decide +kernel) (by decide +kernel), by decide, by decide, by decide +kernel⟩, zin 980 (by decide +kernel) (by decide +kernel), zin 981 (by decide +kernel) (by decide +kernel), TX7, _, rfl⟩
theorem mf_X8_has : mV yX8_has cX8_has 2 (some (.boolean)) 1 8 := ⟨⟨zin 633 (by decide +kernel) (by decide +kernel), zin 84 (by decide +kernel) (by decide +kernel), by decide, by decide, by decide +kernel⟩, zin 631 (by decide +kernel) (by decide +kernel), zin 632 (by decide +kernel) (by decide +kernel), TX8, _, rfl⟩
theorem mf_X8_hasAll : mV yX8_hasAll cX8_hasAll 2 (some (.boolean)) 1 8 := ⟨⟨zin 978 (by decide +kernel) (by decide +kernel), zin 84 (by decide +kernel) (by decide +kernel), by decide, by decide, by decide +kernel⟩, zin 976 (by decide +kernel) (by decide +kernel), zin 977 (by decide +kernel) (by decide +kernel), TX8, _, rfl⟩
theorem mf_X8_build : mV yX8_build cX8_build 7 (some (.int)) 5 8 := ⟨⟨zin 625 (by decide +kernel) (by decide +kernel), zin 84 (by decide +kernel) (by decide +kernel), by decide, by decide, by decide +kernel⟩, zin 623 (by decide +kernel) (by decide +kernel), zin 624 (by decide +kernel) (by decide +kernel), TX8, _, rfl⟩
theorem mf_X8_remember : mV yX8_remember cX8_remember 3 none 1 8 := ⟨⟨zin 942 (by decide +kernel) (by decide +kernel), zin 84 (by decide +kernel) (by decide +kernel), by decide, by decide, by decide +kernel⟩, zin 940 (by decide +kernel) (by decide +kernel), zin 941 (by decide +kernel) (by decide +kernel), TX8, _, rfl⟩
theorem mf_X8_apart : mV yX8_apart cX8_apart 4 (some (.int)) 1 8 := ⟨⟨zin 1043 (by decide +kernel) (by decide +kernel), zin 84 (by decide +kernel) (by decide +kernel), by decide, by decide, by decide +kernel⟩, zin 1041 (by decide +kernel) (by decide +kernel), zin 1042 (by decide +kernel) (by decide +kernel), TX8, _, rfl⟩
theorem mf_X9_rank : mV yX9_rank cX9_rank 5 (some (.int)) 3 9 := ⟨⟨zin 894 (by decide +kernel) (by decide +kernel), zin 89 (by decide +kernel) (by decide +kernel), by decide, by decide, by decide +kernel⟩, zin 893 (by decide +kernel) (by decide +kernel), zin 20 (by decide +kernel) (by decide +kernel), TX9, _, rfl⟩
theorem mf_X9_isAhead : mV yX9_isAhead cX9_isAhead 8 (some (.boolean)) 4 9 := ⟨⟨zin 889 (by decide +kernel) (by decide +kernel), zin 89 (by decide +kernel) (by decide +kernel), by decide, by decide, by decide +kernel⟩, zin 888 (by decide +kernel) (by decide +kernel), zin 19 (by decide +kernel) (by decide +kernel), TX9, _, rfl⟩
theorem mf_X9_queueUp : mV yX9_queueUp cX9_queueUp 5 none 3 9 := ⟨⟨zin 885 (by decide +kernel) (by decide +kernel), zin 89 (by decide +kernel) (by decide +kernel), by decide, by decide, by decide +kernel⟩, zin 884 (by decide +kernel) (by decide +kernel), zin 18 (by decide +kernel) (by decide +kernel), TX9, _, rfl⟩
theorem mf_X9_ask : mV yX9_ask cX9_ask 6 none 3 9 := ⟨⟨zin 867 (by decide +kernel) (by decide +kernel), zin 89 (by decide +kernel) (by decide +kernel), by decide, by decide, by decide +kernel⟩, zin 865 (by decide +kernel) (by decide +kernel), zin 866 (by decide +kernel) (by decide +kernel), TX9, _, rfl⟩
theorem mf_X9_begin : mV yX9_begin cX9_begin 5 none 3 9 := ⟨⟨zin 898 (by decide +kernel) (by decide +kernel), zin 89 (by decide +kernel) (by decide +kernel), by decide, by decide, by decide +kernel⟩, zin 896 (by decide +kernel) (by decide +kernel), zin 897 (by decide +kernel) (by decide +kernel), TX9, _, rfl⟩
theorem mf_X9_serve : mV yX9_serve cX9_serve 3 none 0 9 := ⟨⟨zin 933 (by decide +kernel) (by decide +kernel), zin 89 (by decide +kernel) (by decide +kernel), by decide, by decide, by decide +kernel⟩, zin 931 (by decide +kernel) (by decide +kernel), zin 932 (by decide +kernel) (by decide +kernel), TX9, _, rfl⟩
theorem mf_X9_settle : mV yX9_settle cX9_settle 7 none 1 9 := ⟨⟨zin 937 (by decide +kernel) (by decide +kernel), zin 89 (by decide +kernel) (by decide +kernel), by decide, by decide, by decide +kernel⟩, zin 935 (by decide +kernel) (by decide +kernel), zin 936 (by decide +kernel) (by decide +kernel), TX9, _, rfl⟩
theorem mf_X9_someDry : mV yX9_someDry cX9_someDry 4 (some (.boolean)) 2 9 := ⟨⟨zin 946 (by decide +kernel) (by decide +kernel), zin 89 (by decide +kernel) (by decide +kernel), by decide, by decide, by decide +kernel⟩, zin 944 (by decide +kernel) (by decide +kernel), zin 945 (by decide +kernel) (by decide +kernel), TX9, _, rfl⟩
theorem mf_X9_gotByAll : mV yX9_gotByAll cX9_gotByAll 3 (some (.int)) 0 9 := ⟨⟨zin 954 (by decide +kernel) (by decide +kernel), zin 89 (by decide +kernel) (by decide +kernel), by decide, by decide, by decide +kernel⟩, zin 952 (by decide +kernel) (by decide +kernel), zin 953 (by decide +kernel) (by decide +kernel), TX9, _, rfl⟩
theorem mf_X9_gotLessThan : mV yX9_gotLessThan cX9_gotLessThan 4 (some (.int)) 1 9 := ⟨⟨zin 970 (by decide +kernel) (by decide +kernel), zin 89 (by decide +kernel) (by decide +kernel), by decide, by decide, by decide +kernel⟩, zin 968 (by decide +kernel) (by decide +kernel), zin 969 (by decide +kernel) (by decide +kernel), TX9, _, rfl⟩
theorem mf_X10_dryOfDay : mV yX10_dryOfDay cX10_dryOfDay 7 (some (.int)) 4 10 := ⟨⟨zin 1013 (by decide +kernel) (by decide +kernel), zin 92 (by decide +kernel) (by decide +kernel), by decide, by decide, by decide +kernel⟩, zin 1012 (by decide +kernel) (by decide +kernel), zin 27 (by decide +kernel) (by decide +kernel), TX10, _, rfl⟩
theorem mf_X10_dryAgain : mV yX10_dryAgain cX10_dryAgain 10 (some (.int)) 4 10 := ⟨⟨zin 1148 (by decide +kernel) (by decide +kernel), zin 92 (by decide +kernel) (by decide +kernel), by decide, by decide, by decide +kernel⟩, zin 1146 (by decide +kernel) (by decide +kernel), zin 1147 (by decide +kernel) (by decide +kernel), TX10, _, rfl⟩
theorem mf_X10_isPlanned : mV yX10_isPlanned cX10_isPlanned 3 (some (.boolean)) 2 10 := ⟨⟨zin 986 (by decide +kernel) (by decide +kernel), zin 92 (by decide +kernel) (by decide +kernel), by decide, by decide, by decide +kernel⟩, zin 984 (by decide +kernel) (by decide +kernel), zin 985 (by decide +kernel) (by decide +kernel), TX10, _, rfl⟩
theorem mf_X10_choose : mV yX10_choose cX10_choose 5 none 3 10 := ⟨⟨zin 990 (by decide +kernel) (by decide +kernel), zin 92 (by decide +kernel) (by decide +kernel), by decide, by decide, by decide +kernel⟩, zin 988 (by decide +kernel) (by decide +kernel), zin 989 (by decide +kernel) (by decide +kernel), TX10, _, rfl⟩
theorem mf_X10_leastBehind : mV yX10_leastBehind cX10_leastBehind 5 (some (.int)) 1 10 := ⟨⟨zin 999 (by decide +kernel) (by decide +kernel), zin 92 (by decide +kernel) (by decide +kernel), by decide, by decide, by decide +kernel⟩, zin 998 (by decide +kernel) (by decide +kernel), zin 25 (by decide +kernel) (by decide +kernel), TX10, _, rfl⟩
theorem mf_X10_changeOver : mV yX10_changeOver cX10_changeOver 3 none 1 10 := ⟨⟨zin 1009 (by decide +kernel) (by decide +kernel), zin 92 (by decide +kernel) (by decide +kernel), by decide, by decide, by decide +kernel⟩, zin 1008 (by decide +kernel) (by decide +kernel), zin 26 (by decide +kernel) (by decide +kernel), TX10, _, rfl⟩
theorem mf_X10_weigh : mV yX10_weigh cX10_weigh 4 none 1 10 := ⟨⟨zin 995 (by decide +kernel) (by decide +kernel), zin 92 (by decide +kernel) (by decide +kernel), by decide, by decide, by decide +kernel⟩, zin 993 (by decide +kernel) (by decide +kernel), zin 994 (by decide +kernel) (by decide +kernel), TX10, _, rfl⟩
theorem mf_X10_firstBest : mV yX10_firstBest cX10_firstBest 4 (some (.int)) 1 10 := ⟨⟨zin 1026 (by decide +kernel) (by decide +kernel), zin 92 (by decide +kernel) (by decide +kernel), by decide, by decide, by decide +kernel⟩, zin 1025 (by decide +kernel) (by decide +kernel), zin 28 (by decide +kernel) (by decide +kernel), TX10, _, rfl⟩
theorem mf_X10_follow : mV yX10_follow cX10_follow 4 none 0 10 := ⟨⟨zin 1022 (by decide +kernel) (by decide +kernel), zin 92 (by decide +kernel) (by decide +kernel), by decide, by decide, by decide +kernel⟩, zin 1020 (by decide +kernel) (by decide +kernel), zin 1021 (by decide +kernel) (by decide +kernel), TX10, _, rfl⟩
theorem mf_X11_isNode : mS yX11_isNode cX11_isNode 1 (some (.boolean)) 1 := ⟨⟨zin 590 (by decide +kernel) (by decide +kernel), zin 82 (by decide +kernel) (by decide +kernel), by decide, by decide, by decide +kernel⟩, zin 589 (by decide +kernel) (by decide +kernel)⟩
theorem mf_X11_pipe : mV yX11_pipe cX11_pipe 5 (some (.int)) 4 11 := ⟨⟨zin 587 (by decide +kernel) (by decide +kernel), zin 82 (by decide +kernel) (by decide +kernel), by decide, by decide, by decide +kernel⟩, zin 585 (by decide +kernel) (by decide +kernel), zin 586 (by decide +kernel) (by decide +kernel), TX11, _, rfl⟩
theorem mf_X11_shut : mV yX11_shut cX11_shut 4 (some (.int)) 2 11 := ⟨⟨zin 601 (by decide +kernel) (by decide +kernel), zin 82 (by decide +kernel) (by decide +kernel), by decide, by decide, by decide +kernel⟩, zin 599 (by decide +kernel) (by decide +kernel), zin 600 (by decide +kernel) (by decide +kernel), TX11, _, rfl⟩
theorem mf_X11_leak : mV yX11_leak cX11_leak 4 (some (.int)) 2 11 := ⟨⟨zin 609 (by decide +kernel) (by decide +kernel), zin 82 (by decide +kernel) (by decide +kernel), by decide, by decide, by decide +kernel⟩, zin 607 (by decide +kernel) (by decide +kernel), zin 608 (by decide +kernel) (by decide +kernel), TX11, _, rfl⟩
theorem mf_X11_map : mV yX11_map cX11_map 4 (some (.int)) 3 11 := ⟨⟨zin 613 (by decide +kernel) (by decide +kernel), zin 82 (by decide +kernel) (by decide +kernel), by decide, by decide, by decide +kernel⟩, zin 611 (by decide +kernel) (by decide +kernel), zin 612 (by decide +kernel) (by decide +kernel), TX11, _, rfl⟩
theorem mf_X11_pump : mV yX11_pump cX11_pump 5 (some (.int)) 3 11 := ⟨⟨zin 617 (by decide +kernel) (by decide +kernel), zin 82 (by decide +kernel) (by decide +kernel), by decide, by decide, by decide +kernel⟩, zin 615 (by decide +kernel) (by decide +kernel), zin 616 (by decide +kernel) (by decide +kernel), TX11, _, rfl⟩
theorem mf_X11_street : mV yX11_street cX11_street 8 (some (.int)) 6 11 := ⟨⟨zin 621 (by decide +kernel) (by decide +kernel), zin 82 (by decide +kernel) (by decide +kernel), by decide, by decide, by decide +kernel⟩, zin 619 (by decide +kernel) (by decide +kernel), zin 620 (by decide +kernel) (by decide +kernel), TX11, _, rfl⟩
theorem mf_X11_over : mV yX11_over cX11_over 2 (some (.int)) 1 11 := ⟨⟨zin 629 (by decide +kernel) (by decide +kernel), zin 82 (by decide +kernel) (by decide +kernel), by decide, by decide, by decide +kernel⟩, zin 627 (by decide +kernel) (by decide +kernel), zin 628 (by decide +kernel) (by decide +kernel), TX11, _, rfl⟩
theorem mf_X11_rooms : mV yX11_rooms cX11_rooms 4 (some (.int)) 2 11 := ⟨⟨zin 637 (by decide +kernel) (by decide +kernel), zin 82 (by decide +kernel) (by decide +kernel), by decide, by decide, by decide +kernel⟩, zin 635 (by decide +kernel) (by decide +kernel), zin 636 (by decide +kernel) (by decide +kernel), TX11, _, rfl⟩
theorem mf_X11_count : mV yX11_count cX11_count 2 (some (.int)) 1 11 := ⟨⟨zin 641 (by decide +kernel) (by decide +kernel), zin 82 (by decide +kernel) (by decide +kernel), by decide, by decide, by decide +kernel⟩, zin 639 (by decide +kernel) (by decide +kernel), zin 640 (by decide +kernel) (by decide +kernel), TX11, _, rfl⟩
theorem mf_X11_today : mV yX11_today cX11_today 1 (some (.int)) 0 11 := ⟨⟨zin 663 (by decide +kernel) (by decide +kernel), zin 82 (by decide +kernel) (by decide +kernel), by decide, by decide, by decide +kernel⟩, zin 662 (by decide +kernel) (by decide +kernel), zin 1 (by decide +kernel) (by decide +kernel), TX11, _, rfl⟩
theorem mf_X11_paysByRooms : mV yX11_paysByRooms cX11_paysByRooms 2 (some (.int)) 1 11 := ⟨⟨zin 659 (by decide +kernel) (by decide +kernel), zin 82 (by decide +kernel) (by decide +kernel), by decide, by decide, by decide +kernel⟩, zin 658 (by decide +kernel) (by decide +kernel), zin 0 (by decide +kernel) (by decide +kernel), TX11, _, rfl⟩
theorem mf_X11_paysByMeter : mV yX11_paysByMeter cX11_paysByMeter 2 (some (.int)) 1 11 := ⟨⟨zin 694 (by decide +kernel) (by decide +kernel), zin 82 (by decide +kernel) (by decide +kernel), by decide, by decide, by decide +kernel⟩, zin 693 (by decide +kernel) (by decide +kernel), zin 3 (by decide +kernel) (by decide +kernel), TX11, _, rfl⟩
theorem mf_X11_told : mV yX11_told cX11_told 3 (some (.int)) 2 11 := ⟨⟨zin 655 (by decide +kernel) (by decide +kernel), zin 82 (by decide +kernel) (by decide +kernel), by decide, by decide, by decide +kernel⟩, zin 653 (by decide +kernel) (by decide +kernel), zin 654 (by decide +kernel) (by decide +kernel), TX11, _, rfl⟩
theorem mf_X11_feed : mV yX11_feed cX11_feed 5 (some (.int)) 2 11 := ⟨⟨zin 698 (by decide +kernel) (by decide +kernel), zin 82 (by decide +kernel) (by decide +kernel), by decide, by decide, by decide +kernel⟩, zin 696 (by decide +kernel) (by decide +kernel), zin 697 (by decide +kernel) (by decide +kernel), TX11, _, rfl⟩
theorem mf_X11_rule : mV yX11_rule cX11_rule 3 (some (.int)) 1 11 := ⟨⟨zin 707 (by decide +kernel) (by decide +kernel), zin 82 (by decide +kernel) (by decide +kernel), by decide, by decide, by decide +kernel⟩, zin 705 (by decide +kernel) (by decide +kernel), zin 706 (by decide +kernel) (by decide +kernel), TX11, _, rfl⟩
theorem mf_X11_fault : mV yX11_fault cX11_fault 1 (some (.int)) 0 11 := ⟨⟨zin 846 (by decide +kernel) (by decide +kernel), zin 82 (by decide +kernel) (by decide +kernel), by decide, by decide, by decide +kernel⟩, zin 844 (by decide +kernel) (by decide +kernel), zin 845 (by decide +kernel) (by decide +kernel), TX11, _, rfl⟩
theorem mf_X11_force : mV yX11_force cX11_force 3 (some (.int)) 2 11 := ⟨⟨zin 850 (by decide +kernel) (by decide +kernel), zin 82 (by decide +kernel) (by decide +kernel), by decide, by decide, by decide +kernel⟩, zin 848 (by decide +kernel) (by decide +kernel), zin 849 (by decide +kernel) (by decide +kernel), TX11, _, rfl⟩
theorem mf_X11_supplyHour : mV yX11_supplyHour cX11_supplyHour 2 none 1 11 := ⟨⟨zin 863 (by decide +kernel) (by decide +kernel), zin 82 (by decide +kernel) (by decide +kernel), by decide, by decide, by decide +kernel⟩, zin 862 (by decide +kernel) (by decide +kernel), zin 16 (by decide +kernel) (by decide +kernel), TX11, _, rfl⟩
theorem mf_X11_stepIsDry : mV yX11_stepIsDry cX11_stepIsDry 1 (some (.boolean)) 0 11 := ⟨⟨zin 859 (by decide +kernel) (by decide +kernel), zin 82 (by decide +kernel) (by decide +kernel), by decide, by decide, by decide +kernel⟩, zin 858 (by decide +kernel) (by decide +kernel), zin 15 (by decide +kernel) (by decide +kernel), TX11, _, rfl⟩
theorem mf_X11_go : mV yX11_go cX11_go 4 (some (.int)) 1 11 := ⟨⟨zin 855 (by decide +kernel) (by decide +kernel), zin 82 (by decide +kernel) (by decide +kernel), by decide, by decide, by decide +kernel⟩, zin 853 (by decide +kernel) (by decide +kernel), zin 854 (by decide +kernel) (by decide +kernel), TX11, _, rfl⟩
theorem mf_X11_flow : mV yX11_flow cX11_flow 5 (some (.int)) 3 11 := ⟨⟨zin 950 (by decide +kernel) (by decide +kernel), zin 82 (by decide +kernel) (by decide +kernel), by decide, by decide, by decide +kernel⟩, zin 948 (by decide +kernel) (by decide +kernel), zin 949 (by decide +kernel) (by decide +kernel), TX11, _, rfl⟩
theorem mf_X11_line : mV yX11_line cX11_line 3 (some (.int)) 2 11 := ⟨⟨zin 958 (by decide +kernel) (by decide +kernel), zin 82 (by decide +kernel) (by decide +kernel), by decide, by decide, by decide +kernel⟩, zin 956 (by decide +kernel) (by decide +kernel), zin 957 (by decide +kernel) (by decide +kernel), TX11, _, rfl⟩
theorem mf_X11_draw : mV yX11_draw cX11_draw 5 (some (.int)) 3 11 := ⟨⟨zin 962 (by decide +kernel) (by decide +kernel), zin 82 (by decide +kernel) (by decide +kernel), by decide, by decide, by decide +kernel⟩, zin 960 (by decide +kernel) (by decide +kernel), zin 961 (by decide +kernel) (by decide +kernel), TX11, _, rfl⟩
theorem mf_X11_order : mV yX11_order cX11_order 3 (some (.int)) 2 11 := ⟨⟨zin 974 (by decide +kernel) (by decide +kernel), zin 82 (by decide +kernel) (by decide +kernel), by decide, by decide, by decide +kernel⟩, zin 972 (by decide +kernel) (by decide +kernel), zin 973 (by decide +kernel) (by decide +kernel), TX11, _, rfl⟩
theorem mf_X11_cuts : mV yX11_cuts cX11_cuts 3 (some (.int)) 2 11 := ⟨⟨zin 1030 (by decide +kernel) (by decide +kernel), zin 82 (by decide +kernel) (by decide +kernel), by decide, by decide, by decide +kernel⟩, zin 1028 (by decide +kernel) (by decide +kernel), zin 1029 (by decide +kernel) (by decide +kernel), TX11, _, rfl⟩
theorem mf_X11_wrong : mV yX11_wrong cX11_wrong 4 (some (.int)) 0 11 := ⟨⟨zin 1047 (by decide +kernel) (by decide +kernel), zin 82 (by decide +kernel) (by decide +kernel), by decide, by decide, by decide +kernel⟩, zin 1045 (by decide +kernel) (by decide +kernel), zin 1046 (by decide +kernel) (by decide +kernel), TX11, _, rfl⟩
theorem mf_X11_gauge : mV yX11_gauge cX11_gauge 3 (some (.int)) 2 11 := ⟨⟨zin 1051 (by decide +kernel) (by decide +kernel), zin 82 (by decide +kernel) (by decide +kernel), by decide, by decide, by decide +kernel⟩, zin 1049 (by decide +kernel) (by decide +kernel), zin 1050 (by decide +kernel) (by decide +kernel), TX11, _, rfl⟩
theorem mf_X11_guess : mV yX11_guess cX11_guess 3 (some (.int)) 2 11 := ⟨⟨zin 1059 (by decide +kernel) (by decide +kernel), zin 82 (by decide +kernel) (by decide +kernel), by decide, by decide, by decide +kernel⟩, zin 1057 (by decide +kernel) (by decide +kernel), zin 1058 (by decide +kernel) (by decide +kernel), TX11, _, rfl⟩
theorem mf_X11_explain : mV yX11_explain cX11_explain 2 (some (.int)) 1 11 := ⟨⟨zin 1067 (by decide +kernel) (by decide +kernel), zin 82 (by decide +kernel) (by decide +kernel), by decide, by decide, by decide +kernel⟩, zin 1065 (by decide +kernel) (by decide +kernel), zin 1066 (by decide +kernel) (by decide +kernel), TX11, _, rfl⟩
theorem mf_X11_beds : mV yX11_beds cX11_beds 7 (some (.int)) 6 11 := ⟨⟨zin 1088 (by decide +kernel) (by decide +kernel), zin 82 (by decide +kernel) (by decide +kernel), by decide, by decide, by decide +kernel⟩, zin 1086 (by decide +kernel) (by decide +kernel), zin 1087 (by decide +kernel) (by decide +kernel), TX11, _, rfl⟩
theorem mf_X11_river : mV yX11_river cX11_river 4 (some (.int)) 2 11 := ⟨⟨zin 1132 (by decide +kernel) (by decide +kernel), zin 82 (by decide +kernel) (by decide +kernel), by decide, by decide, by decide +kernel⟩, zin 1130 (by decide +kernel) (by decide +kernel), zin 1131 (by decide +kernel) (by decide +kernel), TX11, _, rfl⟩
theorem mf_X11_share : mV yX11_share cX11_share 12 (some (.int)) 4 11 := ⟨⟨zin 1136 (by decide +kernel) (by decide +kernel), zin 82 (by decide +kernel) (by decide +kernel), by decide, by decide, by decide +kernel⟩, zin 1134 (by decide +kernel) (by decide +kernel), zin 1135 (by decide +kernel) (by decide +kernel), TX11, _, rfl⟩
theorem mf_X11_gains : mV yX11_gains cX11_gains 3 (some (.int)) 0 11 := ⟨⟨zin 1140 (by decide +kernel) (by decide +kernel), zin 82 (by decide +kernel) (by decide +kernel), by decide, by decide, by decide +kernel⟩, zin 1138 (by decide +kernel) (by decide +kernel), zin 1139 (by decide +kernel) (by decide +kernel), TX11, _, rfl⟩
theorem mf_X11_beside : mV yX11_beside cX11_beside 3 (some (.int)) 2 11 := ⟨⟨zin 1144 (by decide +kernel) (by decide +kernel), zin 82 (by decide +kernel) (by decide +kernel), by decide, by decide, by decide +kernel⟩, zin 1142 (by decide +kernel) (by decide +kernel), zin 1143 (by decide +kernel) (by decide +kernel), TX11, _, rfl⟩
theorem mf_X12_in : mS yX12_in cX12_in 6 (some (.boolean)) 3 := ⟨⟨zin 1406 (by decide +kernel) (by decide +kernel), zin 95 (by decide +kernel) (by decide +kernel), by decide, by decide, by decide +kernel⟩, zin 1405 (by decide +kernel) (by decide +kernel)⟩
theorem mf_X12_one : mS yX12_one cX12_one 1 (some (.int)) 1 := ⟨⟨zin 1419 (by decide +kernel) (by decide +kernel), zin 95 (by decide +kernel) (by decide +kernel), by decide, by decide, by decide +kernel⟩, zin 1418 (by decide +kernel) (by decide +kernel)⟩
theorem mf_X12_isNode : mS yX12_isNode cX12_isNode 1 (some (.boolean)) 1 := ⟨⟨zin 1402 (by decide +kernel) (by decide +kernel), zin 95 (by decide +kernel) (by decide +kernel), by decide, by decide, by decide +kernel⟩, zin 1401 (by decide +kernel) (by decide +kernel)⟩
theorem mf_X12_isHour : mS yX12_isHour cX12_isHour 1 (some (.boolean)) 1 := ⟨⟨zin 1434 (by decide +kernel) (by decide +kernel), zin 95 (by decide +kernel) (by decide +kernel), by decide, by decide, by decide +kernel⟩, zin 1433 (by decide +kernel) (by decide +kernel)⟩
theorem mf_X12_least : mS yX12_least cX12_least 2 (some (.int)) 2 := ⟨⟨zin 1573 (by decide +kernel) (by decide +kernel), zin 95 (by decide +kernel) (by decide +kernel), by decide, by decide, by decide +kernel⟩, zin 1572 (by decide +kernel) (by decide +kernel)⟩
theorem mf_X12_noPipe : mV yX12_noPipe cX12_noPipe 2 (some (.boolean)) 1 12 := ⟨⟨zin 1416 (by decide +kernel) (by decide +kernel), zin 95 (by decide +kernel) (by decide +kernel), by decide, by decide, by decide +kernel⟩, zin 1415 (by decide +kernel) (by decide +kernel), zin 39 (by decide +kernel) (by decide +kernel), TX12, _, rfl⟩
theorem mf_X12_noStreet : mV yX12_noStreet cX12_noStreet 2 (some (.boolean)) 1 12 := ⟨⟨zin 1448 (by decide +kernel) (by decide +kernel), zin 95 (by decide +kernel) (by decide +kernel), by decide, by decide, by decide +kernel⟩, zin 1447 (by decide +kernel) (by decide +kernel), zin 40 (by decide +kernel) (by decide +kernel), TX12, _, rfl⟩
theorem mf_X12_pipe : mV yX12_pipe cX12_pipe 5 (some (.int)) 4 12 := ⟨⟨zin 1399 (by decide +kernel) (by decide +kernel), zin 95 (by decide +kernel) (by decide +kernel), by decide, by decide, by decide +kernel⟩, zin 1397 (by decide +kernel) (by decide +kernel), zin 1398 (by decide +kernel) (by decide +kernel), TX12, _, rfl⟩
theorem mf_X12_shut : mV yX12_shut cX12_shut 4 (some (.int)) 2 12 := ⟨⟨zin 1412 (by decide +kernel) (by decide +kernel), zin 95 (by decide +kernel) (by decide +kernel), by decide, by decide, by decide +kernel⟩, zin 1410 (by decide +kernel) (by decide +kernel), zin 1411 (by decide +kernel) (by decide +kernel), TX12, _, rfl⟩
theorem mf_X12_leak : mV yX12_leak cX12_leak 4 (some (.int)) 2 12 := ⟨⟨zin 1423 (by decide +kernel) (by decide +kernel), zin 95 (by decide +kernel) (by decide +kernel), by decide, by decide, by decide +kernel⟩, zin 1421 (by decide +kernel) (by decide +kernel), zin 1422 (by decide +kernel) (by decide +kernel), TX12, _, rfl⟩
theorem mf_X12_map : mV yX12_map cX12_map 4 (some (.int)) 3 12 := ⟨⟨zin 1427 (by decide +kernel) (by decide +kernel), zin 95 (by decide +kernel) (by decide +kernel), by decide, by decide, by decide +kernel⟩, zin 1425 (by decide +kernel) (by decide +kernel), zin 1426 (by decide +kernel) (by decide +kernel), TX12, _, rfl⟩
theorem mf_X12_pump : mV yX12_pump cX12_pump 5 (some (.int)) 3 12 := ⟨⟨zin 1431 (by decide +kernel) (by decide +kernel), zin 95 (by decide +kernel) (by decide +kernel), by decide, by decide, by decide +kernel⟩, zin 1429 (by decide +kernel) (by decide +kernel), zin 1430 (by decide +kernel) (by decide +kernel), TX12, _, rfl⟩
theorem mf_X12_street : mV yX12_street cX12_street 7 (some (.int)) 6 12 := ⟨⟨zin 1440 (by decide +kernel) (by decide +kernel), zin 95 (by decide +kernel) (by decide +kernel), by decide, by decide, by decide +kernel⟩, zin 1438 (by decide +kernel) (by decide +kernel), zin 1439 (by decide +kernel) (by decide +kernel), TX12, _, rfl⟩
theorem mf_X12_over : mV yX12_over cX12_over 2 (some (.int)) 1 12 := ⟨⟨zin 1444 (by decide +kernel) (by decide +kernel), zin 95 (by decide +kernel) (by decide +kernel), by decide, by decide, by decide +kernel⟩, zin 1442 (by decide +kernel) (by decide +kernel), zin 1443 (by decide +kernel) (by decide +kernel), TX12, _, rfl⟩
theorem mf_X12_rooms : mV yX12_rooms cX12_rooms 4 (some (.int)) 2 12 := ⟨⟨zin 1452 (by decide +kernel) (by decide +kernel), zin 95 (by decide +kernel) (by decide +kernel), by decide, by decide, by decide +kernel⟩, zin 1450 (by decide +kernel) (by decide +kernel), zin 1451 (by decide +kernel) (by decide +kernel), TX12, _, rfl⟩
theorem mf_X12_feed : mV yX12_feed cX12_feed 5 (some (.int)) 2 12 := ⟨⟨zin 1456 (by decide +kernel) (by decide +kernel), zin 95 (by decide +kernel) (by decide +kernel), by decide, by decide, by decide +kernel⟩, zin 1454 (by decide +kernel) (by decide +kernel), zin 1455 (by decide +kernel) (by decide +kernel), TX12, _, rfl⟩
theorem mf_X12_here : mV yX12_here cX12_here 1 (some (.int)) 0 12 := ⟨⟨zin 1470 (by decide +kernel) (by decide +kernel), zin 95 (by decide +kernel) (by decide +kernel), by decide, by decide, by decide +kernel⟩, zin 1469 (by decide +kernel) (by decide +kernel), zin 41 (by decide +kernel) (by decide +kernel), TX12, _, rfl⟩
theorem mf_X12_want : mV yX12_want cX12_want 4 (some (.boolean)) 3 12 := ⟨⟨zin 1488 (by decide +kernel) (by decide +kernel), zin 95 (by decide +kernel) (by decide +kernel), by decide, by decide, by decide +kernel⟩, zin 1487 (by decide +kernel) (by decide +kernel), zin 45 (by decide +kernel) (by decide +kernel), TX12, _, rfl⟩
theorem mf_X12_takeWord : mV yX12_takeWord cX12_takeWord 2 none 0 12 := ⟨⟨zin 1474 (by decide +kernel) (by decide +kernel), zin 95 (by decide +kernel) (by decide +kernel), by decide, by decide, by decide +kernel⟩, zin 1473 (by decide +kernel) (by decide +kernel), zin 42 (by decide +kernel) (by decide +kernel), TX12, _, rfl⟩
theorem mf_X12_isWord : mV yX12_isWord cX12_isWord 10 (some (.boolean)) 7 12 := ⟨⟨zin 1484 (by decide +kernel) (by decide +kernel), zin 95 (by decide +kernel) (by decide +kernel), by decide, by decide, by decide +kernel⟩, zin 1483 (by decide +kernel) (by decide +kernel), zin 44 (by decide +kernel) (by decide +kernel), TX12, _, rfl⟩
theorem mf_X12_takeNumber : mV yX12_takeNumber cX12_takeNumber 6 (some (.int)) 2 12 := ⟨⟨zin 1504 (by decide +kernel) (by decide +kernel), zin 95 (by decide +kernel) (by decide +kernel), by decide, by decide, by decide +kernel⟩, zin 1503 (by decide +kernel) (by decide +kernel), zin 49 (by decide +kernel) (by decide +kernel), TX12, _, rfl⟩
theorem mf_X12_clauseOf : mV yX12_clauseOf cX12_clauseOf 1 (some (.int)) 0 12 := ⟨⟨zin 1480 (by decide +kernel) (by decide +kernel), zin 95 (by decide +kernel) (by decide +kernel), by decide, by decide, by decide +kernel⟩, zin 1479 (by decide +kernel) (by decide +kernel), zin 43 (by decide +kernel) (by decide +kernel), TX12, _, rfl⟩
theorem mf_X12_keyOf : mV yX12_keyOf cX12_keyOf 1 (some (.int)) 0 12 := ⟨⟨zin 1500 (by decide +kernel) (by decide +kernel), zin 95 (by decide +kernel) (by decide +kernel), by decide, by decide, by decide +kernel⟩, zin 1499 (by decide +kernel) (by decide +kernel), zin 48 (by decide +kernel) (by decide +kernel), TX12, _, rfl⟩
theorem mf_X12_readKeys : mV yX12_readKeys cX12_readKeys 7 none 1 12 := ⟨⟨zin 1496 (by decide +kernel) (by decide +kernel), zin 95 (by decide +kernel) (by decide +kernel), by decide, by decide, by decide +kernel⟩, zin 1495 (by decide +kernel) (by decide +kernel), zin 47 (by decide +kernel) (by decide +kernel), TX12, _, rfl⟩
theorem mf_X12_readClause : mV yX12_readClause cX12_readClause 4 none 2 12 := ⟨⟨zin 1492 (by decide +kernel) (by decide +kernel), zin 95 (by decide +kernel) (by decide +kernel), by decide, by decide, by decide +kernel⟩, zin 1491 (by decide +kernel) (by decide +kernel), zin 46 (by decide +kernel) (by decide +kernel), TX12, _, rfl⟩
theorem mf_X12_isDay : mS yX12_isDay cX12_isDay 1 (some (.boolean)) 1 := ⟨⟨zin 1465 (by decide +kernel) (by decide +kernel), zin 95 (by decide +kernel) (by decide +kernel), by decide, by decide, by decide +kernel⟩, zin 1464 (by decide +kernel) (by decide +kernel)⟩
theorem mf_X12_rule : mV yX12_rule cX12_rule 4 (some (.int)) 1 12 := ⟨⟨zin 1462 (by decide +kernel) (by decide +kernel), zin 95 (by decide +kernel) (by decide +kernel), by decide, by decide, by decide +kernel⟩, zin 1460 (by decide +kernel) (by decide +kernel), zin 1461 (by decide +kernel) (by decide +kernel), TX12, _, rfl⟩
theorem mf_X12_fault : mV yX12_fault cX12_fault 1 (some (.int)) 0 12 := ⟨⟨zin 1510 (by decide +kernel) (by decide +kernel), zin 95 (by decide +kernel) (by decide +kernel), by decide, by decide, by decide +kernel⟩, zin 1508 (by decide +kernel) (by decide +kernel), zin 1509 (by decide +kernel) (by decide +kernel), TX12, _, rfl⟩
theorem mf_X12_findRules : mV yX12_findRules cX12_findRules 5 none 1 12 := ⟨⟨zin 1518 (by decide +kernel) (by decide +kernel), zin 95 (by decide +kernel) (by decide +kernel), by decide, by decide, by decide +kernel⟩, zin 1517 (by decide +kernel) (by decide +kernel), zin 50 (by decide +kernel) (by decide +kernel), TX12, _, rfl⟩
theorem mf_X12_force : mV yX12_force cX12_force 3 (some (.int)) 2 12 := ⟨⟨zin 1514 (by decide +kernel) (by decide +kernel), zin 95 (by decide +kernel) (by decide +kernel), by decide, by decide, by decide +kernel⟩, zin 1512 (by decide +kernel) (by decide +kernel), zin 1513 (by decide +kernel) (by decide +kernel), TX12, _, rfl⟩
theorem mf_X12_dayNow : mV yX12_dayNow cX12_dayNow 1 (some (.int)) 0 12 := ⟨⟨zin 1601 (by decide +kernel) (by decide +kernel), zin 95 (by decide +kernel) (by decide +kernel), by decide, by decide, by decide +kernel⟩, zin 1600 (by decide +kernel) (by decide +kernel), zin 66 (by decide +kernel) (by decide +kernel), TX12, _, rfl⟩
theorem mf_X12_cell : mS yX12_cell cX12_cell 2 (some (.int)) 2 := ⟨⟨zin 1562 (by decide +kernel) (by decide +kernel), zin 95 (by decide +kernel) (by decide +kernel), by decide, by decide, by decide +kernel⟩, zin 1561 (by decide +kernel) (by decide +kernel)⟩
theorem mf_X12_layNet : mV yX12_layNet cX12_layNet 3 none 1 12 := ⟨⟨zin 1559 (by decide +kernel) (by decide +kernel), zin 95 (by decide +kernel) (by decide +kernel), by decide, by decide, by decide +kernel⟩, zin 1558 (by decide +kernel) (by decide +kernel), zin 59 (by decide +kernel) (by decide +kernel), TX12, _, rfl⟩
theorem mf_X12_findWay : mV yX12_findWay cX12_findWay 4 (some (.boolean)) 0 12 := ⟨⟨zin 1570 (by decide +kernel) (by decide +kernel), zin 95 (by decide +kernel) (by decide +kernel), by decide, by decide, by decide +kernel⟩, zin 1569 (by decide +kernel) (by decide +kernel), zin 61 (by decide +kernel) (by decide +kernel), TX12, _, rfl⟩
theorem mf_X12_ask : mV yX12_ask cX12_ask 6 (some (.int)) 2 12 := ⟨⟨zin 1566 (by decide +kernel) (by decide +kernel), zin 95 (by decide +kernel) (by decide +kernel), by decide, by decide, by decide +kernel⟩, zin 1565 (by decide +kernel) (by decide +kernel), zin 60 (by decide +kernel) (by decide +kernel), TX12, _, rfl⟩
theorem mf_X12_isWaterOn : mV yX12_isWaterOn cX12_isWaterOn 3 (some (.boolean)) 2 12 := ⟨⟨zin 1543 (by decide +kernel) (by decide +kernel), zin 95 (by decide +kernel) (by decide +kernel), by decide, by decide, by decide +kernel⟩, zin 1542 (by decide +kernel) (by decide +kernel), zin 55 (by decide +kernel) (by decide +kernel), TX12, _, rfl⟩
theorem mf_X12_findFar : mV yX12_findFar cX12_findFar 3 none 0 12 := ⟨⟨zin 1539 (by decide +kernel) (by decide +kernel), zin 95 (by decide +kernel) (by decide +kernel), by decide, by decide, by decide +kernel⟩, zin 1538 (by decide +kernel) (by decide +kernel), zin 54 (by decide +kernel) (by decide +kernel), TX12, _, rfl⟩
theorem mf_X12_heldBy : mV yX12_heldBy cX12_heldBy 4 (some (.int)) 3 12 := ⟨⟨zin 1551 (by decide +kernel) (by decide +kernel), zin 95 (by decide +kernel) (by decide +kernel), by decide, by decide, by decide +kernel⟩, zin 1550 (by decide +kernel) (by decide +kernel), zin 57 (by decide +kernel) (by decide +kernel), TX12, _, rfl⟩
theorem mf_X12_goesAhead : mV yX12_goesAhead cX12_goesAhead 5 (some (.boolean)) 2 12 := ⟨⟨zin 1547 (by decide +kernel) (by decide +kernel), zin 95 (by decide +kernel) (by decide +kernel), by decide, by decide, by decide +kernel⟩, zin 1546 (by decide +kernel) (by decide +kernel), zin 56 (by decide +kernel) (by decide +kernel), TX12, _, rfl⟩
theorem mf_X12_findLine : mV yX12_findLine cX12_findLine 4 none 1 12 := ⟨⟨zin 1535 (by decide +kernel) (by decide +kernel), zin 95 (by decide +kernel) (by decide +kernel), by decide, by decide, by decide +kernel⟩, zin 1534 (by decide +kernel) (by decide +kernel), zin 53 (by decide +kernel) (by decide +kernel), TX12, _, rfl⟩
theorem mf_X12_askLeaks : mV yX12_askLeaks cX12_askLeaks 3 none 1 12 := ⟨⟨zin 1555 (by decide +kernel) (by decide +kernel), zin 95 (by decide +kernel) (by decide +kernel), by decide, by decide, by decide +kernel⟩, zin 1554 (by decide +kernel) (by decide +kernel), zin 58 (by decide +kernel) (by decide +kernel), TX12, _, rfl⟩
theorem mf_X12_askStreets : mV yX12_askStreets cX12_askStreets 2 none 0 12 := ⟨⟨zin 1577 (by decide +kernel) (by decide +kernel), zin 95 (by decide +kernel) (by decide +kernel), by decide, by decide, by decide +kernel⟩, zin 1576 (by decide +kernel) (by decide +kernel), zin 62 (by decide +kernel) (by decide +kernel), TX12, _, rfl⟩
theorem mf_X12_findFlow : mV yX12_findFlow cX12_findFlow 2 none 1 12 := ⟨⟨zin 1531 (by decide +kernel) (by decide +kernel), zin 95 (by decide +kernel) (by decide +kernel), by decide, by decide, by decide +kernel⟩, zin 1530 (by decide +kernel) (by decide +kernel), zin 52 (by decide +kernel) (by decide +kernel), TX12, _, rfl⟩
theorem mf_X12_doHour : mV yX12_doHour cX12_doHour 11 (some (.boolean)) 2 12 := ⟨⟨zin 1527 (by decide +kernel) (by decide +kernel), zin 95 (by decide +kernel) (by decide +kernel), by decide, by decide, by decide +kernel⟩, zin 1526 (by decide +kernel) (by decide +kernel), zin 51 (by decide +kernel) (by decide +kernel), TX12, _, rfl⟩
theorem mf_X12_go : mV yX12_go cX12_go 4 (some (.int)) 1 12 := ⟨⟨zin 1522 (by decide +kernel) (by decide +kernel), zin 95 (by decide +kernel) (by decide +kernel), by decide, by decide, by decide +kernel⟩, zin 1520 (by decide +kernel) (by decide +kernel), zin 1521 (by decide +kernel) (by decide +kernel), TX12, _, rfl⟩
theorem mf_X12_shutMany : mV yX12_shutMany cX12_shutMany 3 (some (.int)) 0 12 := ⟨⟨zin 1589 (by decide +kernel) (by decide +kernel), zin 95 (by decide +kernel) (by decide +kernel), by decide, by decide, by decide +kernel⟩, zin 1588 (by decide +kernel) (by decide +kernel), zin 64 (by decide +kernel) (by decide +kernel), TX12, _, rfl⟩
theorem mf_X12_alwaysMany : mV yX12_alwaysMany cX12_alwaysMany 3 (some (.int)) 0 12 := ⟨⟨zin 1585 (by decide +kernel) (by decide +kernel), zin 95 (by decide +kernel) (by decide +kernel), by decide, by decide, by decide +kernel⟩, zin 1584 (by decide +kernel) (by decide +kernel), zin 63 (by decide +kernel) (by decide +kernel), TX12, _, rfl⟩
theorem mf_X12_guessMany : mV yX12_guessMany cX12_guessMany 4 (some (.int)) 1 12 := ⟨⟨zin 1593 (by decide +kernel) (by decide +kernel), zin 95 (by decide +kernel) (by decide +kernel), by decide, by decide, by decide +kernel⟩, zin 1592 (by decide +kernel) (by decide +kernel), zin 65 (by decide +kernel) (by decide +kernel), TX12, _, rfl⟩
theorem mf_X12_count : mV yX12_count cX12_count 2 (some (.int)) 1 12 := ⟨⟨zin 1581 (by decide +kernel) (by decide +kernel), zin 95 (by decide +kernel) (by decide +kernel), by decide, by decide, by decide +kernel⟩, zin 1579 (by decide +kernel) (by decide +kernel), zin 1580 (by decide +kernel) (by decide +kernel), TX12, _, rfl⟩
theorem mf_X12_byRooms : mV yX12_byRooms cX12_byRooms 2 (some (.int)) 1 12 := ⟨⟨zin 1605 (by decide +kernel) (by decide +kernel), zin 95 (by decide +kernel) (by decide +kernel), by decide, by decide, by decide +kernel⟩, zin 1604 (by decide +kernel) (by decide +kernel), zin 67 (by decide +kernel) (by decide +kernel), TX12, _, rfl⟩
theorem mf_X12_byMeter : mV yX12_byMeter cX12_byMeter 2 (some (.int)) 1 12 := ⟨⟨zin 1609 (by decide +kernel) (by decide +kernel), zin 95 (by decide +kernel) (by decide +kernel), by decide, by decide, by decide +kernel⟩, zin 1608 (by decide +kernel) (by decide +kernel), zin 68 (by decide +kernel) (by decide +kernel), TX12, _, rfl⟩
theorem mf_X12_told : mV yX12_told cX12_told 3 (some (.int)) 2 12 := ⟨⟨zin 1597 (by decide +kernel) (by decide +kernel), zin 95 (by decide +kernel) (by decide +kernel), by decide, by decide, by decide +kernel⟩, zin 1595 (by decide +kernel) (by decide +kernel), zin 1596 (by decide +kernel) (by decide +kernel), TX12, _, rfl⟩
theorem mf_X12_flow : mV yX12_flow cX12_flow 6 (some (.int)) 3 12 := ⟨⟨zin 1613 (by decide +kernel) (by decide +kernel), zin 95 (by decide +kernel) (by decide +kernel), by decide, by decide, by decide +kernel⟩, zin 1611 (by decide +kernel) (by decide +kernel), zin 1612 (by decide +kernel) (by decide +kernel), TX12, _, rfl⟩
theorem mf_X12_line : mV yX12_line cX12_line 3 (some (.int)) 2 12 := ⟨⟨zin 1619 (by decide +kernel) (by decide +kernel), zin 95 (by decide +kernel) (by decide +kernel), by decide, by decide, by decide +kernel⟩, zin 1617 (by decide +kernel) (by decide +kernel), zin 1618 (by decide +kernel) (by decide +kernel), TX12, _, rfl⟩
theorem mf_X12_draw : mV yX12_draw cX12_draw 7 (some (.int)) 3 12 := ⟨⟨zin 1623 (by decide +kernel) (by decide +kernel), zin 95 (by decide +kernel) (by decide +kernel), by decide, by decide, by decide +kernel⟩, zin 1621 (by decide +kernel) (by decide +kernel), zin 1622 (by decide +kernel) (by decide +kernel), TX12, _, rfl⟩
theorem mf_X12_keep : mV yX12_keep cX12_keep 5 (some (.int)) 3 12 := ⟨⟨zin 1639 (by decide +kernel) (by decide +kernel), zin 95 (by decide +kernel) (by decide +kernel), by decide, by decide, by decide +kernel⟩, zin 1638 (by decide +kernel) (by decide +kernel), zin 70 (by decide +kernel) (by decide +kernel), TX12, _, rfl⟩
theorem mf_X12_keepAll : mV yX12_keepAll cX12_keepAll 3 none 1 12 := ⟨⟨zin 1635 (by decide +kernel) (by decide +kernel), zin 95 (by decide +kernel) (by decide +kernel), by decide, by decide, by decide +kernel⟩, zin 1634 (by decide +kernel) (by decide +kernel), zin 69 (by decide +kernel) (by decide +kernel), TX12, _, rfl⟩
theorem mf_X12_emptyAll : mV yX12_emptyAll cX12_emptyAll 2 none 0 12 := ⟨⟨zin 1651 (by decide +kernel) (by decide +kernel), zin 95 (by decide +kernel) (by decide +kernel), by decide, by decide, by decide +kernel⟩, zin 1650 (by decide +kernel) (by decide +kernel), zin 73 (by decide +kernel) (by decide +kernel), TX12, _, rfl⟩
theorem mf_X12_tryDay : mV yX12_tryDay cX12_tryDay 4 (some (.int)) 1 12 := ⟨⟨zin 1647 (by decide +kernel) (by decide +kernel), zin 95 (by decide +kernel) (by decide +kernel), by decide, by decide, by decide +kernel⟩, zin 1646 (by decide +kernel) (by decide +kernel), zin 72 (by decide +kernel) (by decide +kernel), TX12, _, rfl⟩
theorem mf_X12_sumOfOrder : mV yX12_sumOfOrder cX12_sumOfOrder 4 (some (.int)) 0 12 := ⟨⟨zin 1643 (by decide +kernel) (by decide +kernel), zin 95 (by decide +kernel) (by decide +kernel), by decide, by decide, by decide +kernel⟩, zin 1642 (by decide +kernel) (by decide +kernel), zin 71 (by decide +kernel) (by decide +kernel), TX12, _, rfl⟩
theorem mf_X12_nextOrder : mV yX12_nextOrder cX12_nextOrder 6 (some (.boolean)) 0 12 := ⟨⟨zin 1655 (by decide +kernel) (by decide +kernel), zin 95 (by decide +kernel) (by decide +kernel), by decide, by decide, by decide +kernel⟩, zin 1654 (by decide +kernel) (by decide +kernel), zin 74 (by decide +kernel) (by decide +kernel), TX12, _, rfl⟩
theorem mf_X12_ones : mS yX12_ones cX12_ones 3 (some (.int)) 1 := ⟨⟨zin 1631 (by decide +kernel) (by decide +kernel), zin 95 (by decide +kernel) (by decide +kernel), by decide, by decide, by decide +kernel⟩, zin 1630 (by decide +kernel) (by decide +kernel)⟩
theorem mf_X12_order : mV yX12_order cX12_order 7 (some (.int)) 2 12 := ⟨⟨zin 1628 (by decide +kernel) (by decide +kernel), zin 95 (by decide +kernel) (by decide +kernel), by decide, by decide, by decide +kernel⟩, zin 1626 (by decide +kernel) (by decide +kernel), zin 1627 (by decide +kernel) (by decide +kernel), TX12, _, rfl⟩
theorem mf_X12_cutOff : mV yX12_cutOff cX12_cutOff 7 (some (.int)) 2 12 := ⟨⟨zin 1663 (by decide +kernel) (by decide +kernel), zin 95 (by decide +kernel) (by decide +kernel), by decide, by decide, by decide +kernel⟩, zin 1662 (by decide +kernel) (by decide +kernel), zin 75 (by decide +kernel) (by decide +kernel), TX12, _, rfl⟩
theorem mf_X12_cuts : mV yX12_cuts cX12_cuts 5 (some (.int)) 2 12 := ⟨⟨zin 1659 (by decide +kernel) (by decide +kernel), zin 95 (by decide +kernel) (by decide +kernel), by decide, by decide, by decide +kernel⟩, zin 1657 (by decide +kernel) (by decide +kernel), zin 1658 (by decide +kernel) (by decide +kernel), TX12, _, rfl⟩
theorem mf_X12_wrong : mV yX12_wrong cX12_wrong 3 (some (.int)) 0 12 := ⟨⟨zin 1667 (by decide +kernel) (by decide +kernel), zin 95 (by decide +kernel) (by decide +kernel), by decide, by decide, by decide +kernel⟩, zin 1665 (by decide +kernel) (by decide +kernel), zin 1666 (by decide +kernel) (by decide +kernel), TX12, _, rfl⟩
theorem mf_X12_gauge : mV yX12_gauge cX12_gauge 3 (some (.int)) 2 12 := ⟨⟨zin 1671 (by decide +kernel) (by decide +kernel), zin 95 (by decide +kernel) (by decide +kernel), by decide, by decide, by decide +kernel⟩, zin 1669 (by decide +kernel) (by decide +kernel), zin 1670 (by decide +kernel) (by decide +kernel), TX12, _, rfl⟩
theorem mf_X12_guess : mV yX12_guess cX12_guess 3 (some (.int)) 2 12 := ⟨⟨zin 1675 (by decide +kernel) (by decide +kernel), zin 95 (by decide +kernel) (by decide +kernel), by decide, by decide, by decide +kernel⟩, zin 1673 (by decide +kernel) (by decide +kernel), zin 1674 (by decide +kernel) (by decide +kernel), TX12, _, rfl⟩
theorem mf_X12_explains : mV yX12_explains cX12_explains 6 (some (.boolean)) 1 12 := ⟨⟨zin 1683 (by decide +kernel) (by decide +kernel), zin 95 (by decide +kernel) (by decide +kernel), by decide, by decide, by decide +kernel⟩, zin 1682 (by decide +kernel) (by decide +kernel), zin 76 (by decide +kernel) (by decide +kernel), TX12, _, rfl⟩
theorem mf_X12_explain : mV yX12_explain cX12_explain 7 (some (.int)) 1 12 := ⟨⟨zin 1679 (by decide +kernel) (by decide +kernel), zin 95 (by decide +kernel) (by decide +kernel), by decide, by decide, by decide +kernel⟩, zin 1677 (by decide +kernel) (by decide +kernel), zin 1678 (by decide +kernel) (by decide +kernel), TX12, _, rfl⟩
theorem mf_X12_ageOf : mS yX12_ageOf cX12_ageOf 2 (some (.int)) 2 := ⟨⟨zin 1700 (by decide +kernel) (by decide +kernel), zin 95 (by decide +kernel) (by decide +kernel), by decide, by decide, by decide +kernel⟩, zin 1699 (by decide +kernel) (by decide +kernel)⟩
theorem mf_X12_givenBy : mV yX12_givenBy cX12_givenBy 6 (some (.int)) 2 12 := ⟨⟨zin 1708 (by decide +kernel) (by decide +kernel), zin 95 (by decide +kernel) (by decide +kernel), by decide, by decide, by decide +kernel⟩, zin 1707 (by decide +kernel) (by decide +kernel), zin 79 (by decide +kernel) (by decide +kernel), TX12, _, rfl⟩
theorem mf_X12_nextAges : mV yX12_nextAges cX12_nextAges 5 (some (.int)) 2 12 := ⟨⟨zin 1712 (by decide +kernel) (by decide +kernel), zin 95 (by decide +kernel) (by decide +kernel), by decide, by decide, by decide +kernel⟩, zin 1711 (by decide +kernel) (by decide +kernel), zin 80 (by decide +kernel) (by decide +kernel), TX12, _, rfl⟩
theorem mf_X12_bedCell : mS yX12_bedCell cX12_bedCell 2 (some (.int)) 2 := ⟨⟨zin 1697 (by decide +kernel) (by decide +kernel), zin 95 (by decide +kernel) (by decide +kernel), by decide, by decide, by decide +kernel⟩, zin 1696 (by decide +kernel) (by decide +kernel)⟩
theorem mf_X12_bestFrom : mV yX12_bestFrom cX12_bestFrom 6 (some (.int)) 2 12 := ⟨⟨zin 1704 (by decide +kernel) (by decide +kernel), zin 95 (by decide +kernel) (by decide +kernel), by decide, by decide, by decide +kernel⟩, zin 1703 (by decide +kernel) (by decide +kernel), zin 78 (by decide +kernel) (by decide +kernel), TX12, _, rfl⟩
theorem mf_X12_findBeds : mV yX12_findBeds cX12_findBeds 5 none 1 12 := ⟨⟨zin 1694 (by decide +kernel) (by decide +kernel), zin 95 (by decide +kernel) (by decide +kernel), by decide, by decide, by decide +kernel⟩, zin 1693 (by decide +kernel) (by decide +kernel), zin 77 (by decide +kernel) (by decide +kernel), TX12, _, rfl⟩
theorem mf_X12_beds : mV yX12_beds cX12_beds 11 (some (.int)) 6 12 := ⟨⟨zin 1687 (by decide +kernel) (by decide +kernel), zin 95 (by decide +kernel) (by decide +kernel), by decide, by decide, by decide +kernel⟩, zin 1685 (by decide +kernel) (by decide +kernel), zin 1686 (by decide +kernel) (by decide +kernel), TX12, _, rfl⟩
theorem mf_X12_river : mV yX12_river cX12_river 4 (some (.int)) 2 12 := ⟨⟨zin 1716 (by decide +kernel) (by decide +kernel), zin 95 (by decide +kernel) (by decide +kernel), by decide, by decide, by decide +kernel⟩, zin 1714 (by decide +kernel) (by decide +kernel), zin 1715 (by decide +kernel) (by decide +kernel), TX12, _, rfl⟩
theorem mf_X12_share : mV yX12_share cX12_share 12 (some (.int)) 4 12 := ⟨⟨zin 1720 (by decide +kernel) (by decide +kernel), zin 95 (by decide +kernel) (by decide +kernel), by decide, by decide, by decide +kernel⟩, zin 1718 (by decide +kernel) (by decide +kernel), zin 1719 (by decide +kernel) (by decide +kernel), TX12, _, rfl⟩
theorem mf_X12_gains : mV yX12_gains cX12_gains 3 (some (.int)) 0 12 := ⟨⟨zin 1724 (by decide +kernel) (by decide +kernel), zin 95 (by decide +kernel) (by decide +kernel), by decide, by decide, by decide +kernel⟩, zin 1722 (by decide +kernel) (by decide +kernel), zin 1723 (by decide +kernel) (by decide +kernel), TX12, _, rfl⟩
theorem mf_X12_beside : mV yX12_beside cX12_beside 5 (some (.int)) 2 12 := ⟨⟨zin 1728 (by decide +kernel) (by decide +kernel), zin 95 (by decide +kernel) (by decide +kernel), by decide, by decide, by decide +kernel⟩, zin 1726 (by decide +kernel) (by decide +kernel), zin 1727 (by decide +kernel) (by decide +kernel), TX12, _, rfl⟩
/-! the cells that may stand for a parameter -/
def zLaw (o : Nat) : Prop := (29 ≤ o ∧ o ≤ 36) ∨ o = 38 ∨ o = 62
def zStand (o : Nat) : Prop := o = 22 ∨ o = 56 ∨ o = 59
theorem zLaw38 : zLaw 38 := Or.inr (Or.inl rfl)
theorem zLaw62 : zLaw 62 := Or.inr (Or.inr rfl)
theorem zStand22 : zStand 22 := Or.inl rfl
theorem zStand56 : zStand 56 := Or.inr (Or.inl rfl)
theorem zStand59 : zStand 59 := Or.inr (Or.inr rfl)
theorem zLaw_k {o : Nat} (h : zLaw o) : zT[o]? = some (12, 9) := by
  have key : ∀ o, o < 63 → zLaw o → zT[o]? = some (12, 9) := by unfold zLaw; decide +kernel
  exact key o (by unfold zLaw at h; omega) h
theorem zStand_k {o : Nat} (h : zStand o) : zT[o]? = some (17, 2) := by rcases h with rfl | rfl | rfl <;> decide +kernel
theorem zStand_0 {o : Nat} (h : zStand o) : zT[rf o 0]? = some (0, 10) := by rcases h with rfl | rfl | rfl <;> decide +kernel
theorem zStand_1 {o : Nat} (h : zStand o) : zT[rf o 1]? = some (0, 10) := by rcases h with rfl | rfl | rfl <;> decide +kernel
theorem zLaw_at {i : Int32} (h : ib i 8 = true) : zLaw (rf 28 (ix i)) := by
  have hj : ix i < 8 := Nat.not_le.mp fun q => ib_in h (Or.inr q)
  have key : ∀ j, j < 8 → zLaw (rf 28 j) := by unfold zLaw; decide +kernel
  exact key _ hj
