theorem ul_X12_1 : Cond.methodLink RX12 1 Lib.objectInit ∈ zW := zin 1167 (by decide +kernel) (by decide +kernel)
theorem uf_X12_7 : uF RX12 7 12 1 true (.array .int) := ⟨RX12, TX12, 75, tyX12, rfl, uw12, Nat.le_of_ble_eq_true rfl, zin 1170 (by decide +kernel) (by decide +kernel), rfl, by decide +kernel, tyX12_ok, nmX12, rfl⟩
theorem uf_X12_13 : uF RX12 13 12 3 true (.array .int) := ⟨RX12, TX12, 75, tyX12, rfl, uw12, Nat.le_of_ble_eq_true rfl, zin 1172 (by decide +kernel) (by decide +kernel), rfl, by decide +kernel, tyX12_ok, nmX12, rfl⟩
theorem uf_X12_16 : uF RX12 16 12 4 true (.array .int) := ⟨RX12, TX12, 75, tyX12, rfl, uw12, Nat.le_of_ble_eq_true rfl, zin 1173 (by decide +kernel) (by decide +kernel), rfl, by decide +kernel, tyX12_ok, nmX12, rfl⟩
theorem uf_X12_19 : uF RX12 19 12 5 true (.array .int) := ⟨RX12, TX12, 75, tyX12, rfl, uw12, Nat.le_of_ble_eq_true rfl, zin 1174 (by decide +kernel) (by decide +kernel), rfl, by decide +kernel, tyX12_ok, nmX12, rfl⟩
theorem uf_X12_22 : uF RX12 22 12 6 true (.array .int) := ⟨RX12, TX12, 75, tyX12, rfl, uw12, Nat.le_of_ble_eq_true rfl, zin 1175 (by decide +kernel) (by decide +kernel), rfl, by decide +kernel, tyX12_ok, nmX12, rfl⟩
theorem uf_X12_25 : uF RX12 25 12 7 true (.array .int) := ⟨RX12, TX12, 75, tyX12, rfl, uw12, Nat.le_of_ble_eq_true rfl, zin 1176 (by decide +kernel) (by decide +kernel), rfl, by decide +kernel, tyX12_ok, nmX12, rfl⟩
theorem uf_X12_28 : uF RX12 28 12 8 true (.array .int) := ⟨RX12, TX12, 75, tyX12, rfl, uw12, Nat.le_of_ble_eq_true rfl, zin 1177 (by decide +kernel) (by decide +kernel), rfl, by decide +kernel, tyX12_ok, nmX12, rfl⟩
theorem uf_X12_31 : uF RX12 31 12 9 true (.array .boolean) := ⟨RX12, TX12, 75, tyX12, rfl, uw12, Nat.le_of_ble_eq_true rfl, zin 1178 (by decide +kernel) (by decide +kernel), rfl, by decide +kernel, tyX12_ok, nmX12, rfl⟩
theorem uf_X12_35 : uF RX12 35 12 10 true (.array .int) := ⟨RX12, TX12, 75, tyX12, rfl, uw12, Nat.le_of_ble_eq_true rfl, zin 1179 (by decide +kernel) (by decide +kernel), rfl, by decide +kernel, tyX12_ok, nmX12, rfl⟩
theorem uf_X12_38 : uF RX12 38 12 12 true (.array .int) := ⟨RX12, TX12, 75, tyX12, rfl, uw12, Nat.le_of_ble_eq_true rfl, zin 1181 (by decide +kernel) (by decide +kernel), rfl, by decide +kernel, tyX12_ok, nmX12, rfl⟩
theorem uf_X12_41 : uF RX12 41 12 13 true (.array .int) := ⟨RX12, TX12, 75, tyX12, rfl, uw12, Nat.le_of_ble_eq_true rfl, zin 1182 (by decide +kernel) (by decide +kernel), rfl, by decide +kernel, tyX12_ok, nmX12, rfl⟩
theorem uf_X12_44 : uF RX12 44 12 14 true (.array .int) := ⟨RX12, TX12, 75, tyX12, rfl, uw12, Nat.le_of_ble_eq_true rfl, zin 1183 (by decide +kernel) (by decide +kernel), rfl, by decide +kernel, tyX12_ok, nmX12, rfl⟩
theorem uf_X12_47 : uF RX12 47 12 15 true (.array .int) := ⟨RX12, TX12, 75, tyX12, rfl, uw12, Nat.le_of_ble_eq_true rfl, zin 1184 (by decide +kernel) (by decide +kernel), rfl, by decide +kernel, tyX12_ok, nmX12, rfl⟩
theorem uf_X12_50 : uF RX12 50 12 16 true (.array .int) := ⟨RX12, TX12, 75, tyX12, rfl, uw12, Nat.le_of_ble_eq_true rfl, zin 1185 (by decide +kernel) (by decide +kernel), rfl, by decide +kernel, tyX12_ok, nmX12, rfl⟩
theorem uf_X12_53 : uF RX12 53 12 17 true (.array .boolean) := ⟨RX12, TX12, 75, tyX12, rfl, uw12, Nat.le_of_ble_eq_true rfl, zin 1186 (by decide +kernel) (by decide +kernel), rfl, by decide +kernel, tyX12_ok, nmX12, rfl⟩
theorem uf_X12_56 : uF RX12 56 12 18 true (.array .int) := ⟨RX12, TX12, 75, tyX12, rfl, uw12, Nat.le_of_ble_eq_true rfl, zin 1187 (by decide +kernel) (by decide +kernel), rfl, by decide +kernel, tyX12_ok, nmX12, rfl⟩
theorem uf_X12_59 : uF RX12 59 12 19 true (.array .int) := ⟨RX12, TX12, 75, tyX12, rfl, uw12, Nat.le_of_ble_eq_true rfl, zin 1188 (by decide +kernel) (by decide +kernel), rfl, by decide +kernel, tyX12_ok, nmX12, rfl⟩
theorem uf_X12_62 : uF RX12 62 12 20 true (.array .int) := ⟨RX12, TX12, 75, tyX12, rfl, uw12, Nat.le_of_ble_eq_true rfl, zin 1189 (by decide +kernel) (by decide +kernel), rfl, by decide +kernel, tyX12_ok, nmX12, rfl⟩
theorem uf_X12_65 : uF RX12 65 12 21 true (.array .int) := ⟨RX12, TX12, 75, tyX12, rfl, uw12, Nat.le_of_ble_eq_true rfl, zin 1190 (by decide +kernel) (by decide +kernel), rfl, by decide +kernel, tyX12_ok, nmX12, rfl⟩
theorem uf_X12_68 : uF RX12 68 12 22 true (.array .int) := ⟨RX12, TX12, 75, tyX12, rfl, uw12, Nat.le_of_ble_eq_true rfl, zin 1191 (by decide +kernel) (by decide +kernel), rfl, by decide +kernel, tyX12_ok, nmX12, rfl⟩
theorem uf_X12_71 : uF RX12 71 12 23 true (.array .int) := ⟨RX12, TX12, 75, tyX12, rfl, uw12, Nat.le_of_ble_eq_true rfl, zin 1192 (by decide +kernel) (by decide +kernel), rfl, by decide +kernel, tyX12_ok, nmX12, rfl⟩
theorem uf_X12_74 : uF RX12 74 12 27 true (.array .int) := ⟨RX12, TX12, 75, tyX12, rfl, uw12, Nat.le_of_ble_eq_true rfl, zin 1196 (by decide +kernel) (by decide +kernel), rfl, by decide +kernel, tyX12_ok, nmX12, rfl⟩
theorem uf_X12_77 : uF RX12 77 12 28 true (.array .int) := ⟨RX12, TX12, 75, tyX12, rfl, uw12, Nat.le_of_ble_eq_true rfl, zin 1197 (by decide +kernel) (by decide +kernel), rfl, by decide +kernel, tyX12_ok, nmX12, rfl⟩
theorem uf_X12_80 : uF RX12 80 12 29 true (.array .int) := ⟨RX12, TX12, 75, tyX12, rfl, uw12, Nat.le_of_ble_eq_true rfl, zin 1198 (by decide +kernel) (by decide +kernel), rfl, by decide +kernel, tyX12_ok, nmX12, rfl⟩
theorem uf_X12_83 : uF RX12 83 12 30 true (.array .int) := ⟨RX12, TX12, 75, tyX12, rfl, uw12, Nat.le_of_ble_eq_true rfl, zin 1199 (by decide +kernel) (by decide +kernel), rfl, by decide +kernel, tyX12_ok, nmX12, rfl⟩
theorem uf_X12_86 : uF RX12 86 12 31 true (.array .int) := ⟨RX12, TX12, 75, tyX12, rfl, uw12, Nat.le_of_ble_eq_true rfl, zin 1200 (by decide +kernel) (by decide +kernel), rfl, by decide +kernel, tyX12_ok, nmX12, rfl⟩
theorem uf_X12_89 : uF RX12 89 12 32 true (.array .int) := ⟨RX12, TX12, 75, tyX12, rfl, uw12, Nat.le_of_ble_eq_true rfl, zin 1201 (by decide +kernel) (by decide +kernel), rfl, by decide +kernel, tyX12_ok, nmX12, rfl⟩
theorem uf_X12_92 : uF RX12 92 12 36 false .int := ⟨RX12, TX12, 75, tyX12, rfl, uw12, Nat.le_of_ble_eq_true rfl, zin 1205 (by decide +kernel) (by decide +kernel), rfl, by decide +kernel, tyX12_ok, nmX12, rfl⟩
theorem uf_X12_96 : uF RX12 96 12 39 true (.array .boolean) := ⟨RX12, TX12, 75, tyX12, rfl, uw12, Nat.le_of_ble_eq_true rfl, zin 1208 (by decide +kernel) (by decide +kernel), rfl, by decide +kernel, tyX12_ok, nmX12, rfl⟩
theorem uf_X12_99 : uF RX12 99 12 40 true (.array .int) := ⟨RX12, TX12, 75, tyX12, rfl, uw12, Nat.le_of_ble_eq_true rfl, zin 1209 (by decide +kernel) (by decide +kernel), rfl, by decide +kernel, tyX12_ok, nmX12, rfl⟩
theorem uf_X12_102 : uF RX12 102 12 47 true (.array .int) := ⟨RX12, TX12, 75, tyX12, rfl, uw12, Nat.le_of_ble_eq_true rfl, zin 1216 (by decide +kernel) (by decide +kernel), rfl, by decide +kernel, tyX12_ok, nmX12, rfl⟩
theorem uf_X12_105 : uF RX12 105 12 48 true (.array .int) := ⟨RX12, TX12, 75, tyX12, rfl, uw12, Nat.le_of_ble_eq_true rfl, zin 1217 (by decide +kernel) (by decide +kernel), rfl, by decide +kernel, tyX12_ok, nmX12, rfl⟩
theorem uf_X12_108 : uF RX12 108 12 49 true (.array .int) := ⟨RX12, TX12, 75, tyX12, rfl, uw12, Nat.le_of_ble_eq_true rfl, zin 1218 (by decide +kernel) (by decide +kernel), rfl, by decide +kernel, tyX12_ok, nmX12, rfl⟩
theorem uf_X12_111 : uF RX12 111 12 50 false .int := ⟨RX12, TX12, 75, tyX12, rfl, uw12, Nat.le_of_ble_eq_true rfl, zin 1219 (by decide +kernel) (by decide +kernel), rfl, by decide +kernel, tyX12_ok, nmX12, rfl⟩
theorem uf_X12_114 : uF RX12 114 12 52 true (.array .int) := ⟨RX12, TX12, 75, tyX12, rfl, uw12, Nat.le_of_ble_eq_true rfl, zin 1221 (by decide +kernel) (by decide +kernel), rfl, by decide +kernel, tyX12_ok, nmX12, rfl⟩
theorem uf_X12_117 : uF RX12 117 12 53 true (.array .int) := ⟨RX12, TX12, 75, tyX12, rfl, uw12, Nat.le_of_ble_eq_true rfl, zin 1222 (by decide +kernel) (by decide +kernel), rfl, by decide +kernel, tyX12_ok, nmX12, rfl⟩
theorem uf_X12_120 : uF RX12 120 12 54 true (.array .int) := ⟨RX12, TX12, 75, tyX12, rfl, uw12, Nat.le_of_ble_eq_true rfl, zin 1223 (by decide +kernel) (by decide +kernel), rfl, by decide +kernel, tyX12_ok, nmX12, rfl⟩
theorem uf_X12_123 : uF RX12 123 12 55 true (.array .int) := ⟨RX12, TX12, 75, tyX12, rfl, uw12, Nat.le_of_ble_eq_true rfl, zin 1224 (by decide +kernel) (by decide +kernel), rfl, by decide +kernel, tyX12_ok, nmX12, rfl⟩
theorem uf_X12_126 : uF RX12 126 12 58 true (.array .int) := ⟨RX12, TX12, 75, tyX12, rfl, uw12, Nat.le_of_ble_eq_true rfl, zin 1227 (by decide +kernel) (by decide +kernel), rfl, by decide +kernel, tyX12_ok, nmX12, rfl⟩
theorem uf_X12_129 : uF RX12 129 12 59 true (.array .int) := ⟨RX12, TX12, 75, tyX12, rfl, uw12, Nat.le_of_ble_eq_true rfl, zin 1228 (by decide +kernel) (by decide +kernel), rfl, by decide +kernel, tyX12_ok, nmX12, rfl⟩
theorem uf_X12_132 : uF RX12 132 12 60 true (.array .boolean) := ⟨RX12, TX12, 75, tyX12, rfl, uw12, Nat.le_of_ble_eq_true rfl, zin 1229 (by decide +kernel) (by decide +kernel), rfl, by decide +kernel, tyX12_ok, nmX12, rfl⟩
theorem uf_X12_135 : uF RX12 135 12 61 true (.array .int) := ⟨RX12, TX12, 75, tyX12, rfl, uw12, Nat.le_of_ble_eq_true rfl, zin 1230 (by decide +kernel) (by decide +kernel), rfl, by decide +kernel, tyX12_ok, nmX12, rfl⟩
theorem uf_X12_138 : uF RX12 138 12 62 true (.array .int) := ⟨RX12, TX12, 75, tyX12, rfl, uw12, Nat.le_of_ble_eq_true rfl, zin 1231 (by decide +kernel) (by decide +kernel), rfl, by decide +kernel, tyX12_ok, nmX12, rfl⟩
theorem uf_X12_141 : uF RX12 141 12 64 true (.array .int) := ⟨RX12, TX12, 75, tyX12, rfl, uw12, Nat.le_of_ble_eq_true rfl, zin 1233 (by decide +kernel) (by decide +kernel), rfl, by decide +kernel, tyX12_ok, nmX12, rfl⟩
theorem uf_X12_144 : uF RX12 144 12 65 true (.array .boolean) := ⟨RX12, TX12, 75, tyX12, rfl, uw12, Nat.le_of_ble_eq_true rfl, zin 1234 (by decide +kernel) (by decide +kernel), rfl, by decide +kernel, tyX12_ok, nmX12, rfl⟩
theorem uf_X12_147 : uF RX12 147 12 67 true (.array .int) := ⟨RX12, TX12, 75, tyX12, rfl, uw12, Nat.le_of_ble_eq_true rfl, zin 1236 (by decide +kernel) (by decide +kernel), rfl, by decide +kernel, tyX12_ok, nmX12, rfl⟩
theorem uf_X12_150 : uF RX12 150 12 68 true (.array .int) := ⟨RX12, TX12, 75, tyX12, rfl, uw12, Nat.le_of_ble_eq_true rfl, zin 1237 (by decide +kernel) (by decide +kernel), rfl, by decide +kernel, tyX12_ok, nmX12, rfl⟩
theorem uf_X12_154 : uF RX12 154 12 69 true (.array .int) := ⟨RX12, TX12, 75, tyX12, rfl, uw12, Nat.le_of_ble_eq_true rfl, zin 1238 (by decide +kernel) (by decide +kernel), rfl, by decide +kernel, tyX12_ok, nmX12, rfl⟩
theorem uf_X12_157 : uF RX12 157 12 74 true (.array .int) := ⟨RX12, TX12, 75, tyX12, rfl, uw12, Nat.le_of_ble_eq_true rfl, zin 1243 (by decide +kernel) (by decide +kernel), rfl, by decide +kernel, tyX12_ok, nmX12, rfl⟩
theorem ul_X11_1 : Cond.methodLink RX11 1 Lib.objectInit ∈ zW := zin 108 (by decide +kernel) (by decide +kernel)
theorem uc_X11_7 : uC RX11 7 4 9 dfX4 := ⟨RX4, TX4, tyX4, rfl, uw4, tyX4_ok, zin 111 (by decide +kernel) (by decide +kernel), zin 112 (by decide +kernel) (by decide +kernel), zin 83 (by decide +kernel) (by decide +kernel), dfl rfl⟩
theorem mb_X4_init : mB yX4_init cX4_init 1 none 0 := ⟨zin 115 (by decide +kernel) (by decide +kernel), zin 83 (by decide +kernel) (by decide +kernel), by decide, by decide, by decide +kernel⟩
theorem mi_X4_init : Cond.instanceMethod yX4_init ∈ zW := zin 114 (by decide +kernel) (by decide +kernel)
theorem uf_X11_10 : uF RX11 10 11 0 true (.object "WaterTown$Pipes") := ⟨RX11, TX11, 16, tyX11, rfl, uw11, Nat.le_of_ble_eq_true rfl, zin 535 (by decide +kernel) (by decide +kernel), rfl, by decide +kernel, tyX11_ok, nmX11, rfl⟩
theorem uc_X11_16 : uC RX11 16 8 11 dfX8 := ⟨RX8, TX8, tyX8, rfl, uw8, tyX8_ok, zin 160 (by decide +kernel) (by decide +kernel), zin 161 (by decide +kernel) (by decide +kernel), zin 84 (by decide +kernel) (by decide +kernel), dfl rfl⟩
theorem mb_X8_init : mB yX8_init cX8_init 1 none 0 := ⟨zin 164 (by decide +kernel) (by decide +kernel), zin 84 (by decide +kernel) (by decide +kernel), by decide, by decide, by decide +kernel⟩
theorem mi_X8_init : Cond.instanceMethod yX8_init ∈ zW := zin 163 (by decide +kernel) (by decide +kernel)
theorem uf_X11_19 : uF RX11 19 11 1 true (.object "WaterTown$Streets") := ⟨RX11, TX11, 16, tyX11, rfl, uw11, Nat.le_of_ble_eq_true rfl, zin 536 (by decide +kernel) (by decide +kernel), rfl, by decide +kernel, tyX11_ok, nmX11, rfl⟩
theorem uc_X11_23 : uC RX11 23 7 2 dfX7 := ⟨RX7, TX7, tyX7, rfl, uw7, tyX7_ok, zin 214 (by decide +kernel) (by decide +kernel), zin 215 (by decide +kernel) (by decide +kernel), zin 85 (by decide +kernel) (by decide +kernel), dfl rfl⟩
theorem uf_X11_26 : uF RX11 26 11 2 true (.object "WaterTown$Stand") := ⟨RX11, TX11, 16, tyX11, rfl, uw11, Nat.le_of_ble_eq_true rfl, zin 537 (by decide +kernel) (by decide +kernel), rfl, by decide +kernel, tyX11_ok, nmX11, rfl⟩
theorem uc_X11_30 : uC RX11 30 5 8 dfX5 := ⟨RX5, TX5, tyX5, rfl, uw5, tyX5_ok, zin 232 (by decide +kernel) (by decide +kernel), zin 233 (by decide +kernel) (by decide +kernel), zin 86 (by decide +kernel) (by decide +kernel), dfl rfl⟩
theorem mb_X5_init : mB yX5_init cX5_init 1 none 0 := ⟨zin 236 (by decide +kernel) (by decide +kernel), zin 86 (by decide +kernel) (by decide +kernel), by decide, by decide, by decide +kernel⟩
theorem mi_X5_init : Cond.instanceMethod yX5_init ∈ zW := zin 235 (by decide +kernel) (by decide +kernel)
theorem uf_X11_33 : uF RX11 33 11 3 true (.object "WaterTown$Reader") := ⟨RX11, TX11, 16, tyX11, rfl, uw11, Nat.le_of_ble_eq_true rfl, zin 538 (by decide +kernel) (by decide +kernel), rfl, by decide +kernel, tyX11_ok, nmX11, rfl⟩
theorem uc_X11_37 : uC RX11 37 6 3 dfX6 := ⟨RX6, TX6, tyX6, rfl, uw6, tyX6_ok, zin 265 (by decide +kernel) (by decide +kernel), zin 266 (by decide +kernel) (by decide +kernel), zin 87 (by decide +kernel) (by decide +kernel), dfl rfl⟩
theorem mb_X6_init : mB yX6_init cX6_init 2 none 0 := ⟨zin 269 (by decide +kernel) (by decide +kernel), zin 87 (by decide +kernel) (by decide +kernel), by decide, by decide, by decide +kernel⟩
theorem mi_X6_init : Cond.instanceMethod yX6_init ∈ zW := zin 268 (by decide +kernel) (by decide +kernel)
theorem ul_X11_39 : Cond.methodLink RX11 39 yX6_init ∈ zW := zin 267 (by decide +kernel) (by decide +kernel)
theorem uf_X11_40 : uF RX11 40 11 4 true (.object "WaterTown$Rules") := ⟨RX11, TX11, 16, tyX11, rfl, uw11, Nat.le_of_ble_eq_true rfl, zin 539 (by decide +kernel) (by decide +kernel), rfl, by decide +kernel, tyX11_ok, nmX11, rfl⟩
theorem uc_X11_44 : uC RX11 44 2 9 dfX2 := ⟨RX2, TX2, tyX2, rfl, uw2, tyX2_ok, zin 330 (by decide +kernel) (by decide +kernel), zin 273 (by decide +kernel) (by decide +kernel), zin 88 (by decide +kernel) (by decide +kernel), dfl rfl⟩
theorem uf_X11_47 : uF RX11 47 11 5 true (.object "WaterTown$Law") := ⟨RX11, TX11, 16, tyX11, rfl, uw11, Nat.le_of_ble_eq_true rfl, zin 540 (by decide +kernel) (by decide +kernel), rfl, by decide +kernel, tyX11_ok, nmX11, rfl⟩
theorem uc_X11_51 : uC RX11 51 9 11 dfX9 := ⟨RX9, TX9, tyX9, rfl, uw9, tyX9_ok, zin 332 (by decide +kernel) (by decide +kernel), zin 333 (by decide +kernel) (by decide +kernel), zin 89 (by decide +kernel) (by decide +kernel), dfl rfl⟩
theorem mb_X9_init : mB yX9_init cX9_init 3 none 2 := ⟨zin 336 (by decide +kernel) (by decide +kernel), zin 89 (by decide +kernel) (by decide +kernel), by decide, by decide, by decide +kernel⟩
theorem mi_X9_init : Cond.instanceMethod yX9_init ∈ zW := zin 335 (by decide +kernel) (by decide +kernel)
theorem ul_X11_53 : Cond.methodLink RX11 53 yX9_init ∈ zW := zin 334 (by decide +kernel) (by decide +kernel)
theorem uf_X11_56 : uF RX11 56 11 6 true (.object "WaterTown$Supply") := ⟨RX11, TX11, 16, tyX11, rfl, uw11, Nat.le_of_ble_eq_true rfl, zin 541 (by decide +kernel) (by decide +kernel), rfl, by decide +kernel, tyX11_ok, nmX11, rfl⟩
theorem uc_X11_60 : uC RX11 60 10 14 dfX10 := ⟨RX10, TX10, tyX10, rfl, uw10, tyX10_ok, zin 404 (by decide +kernel) (by decide +kernel), zin 405 (by decide +kernel) (by decide +kernel), zin 92 (by decide +kernel) (by decide +kernel), dfl rfl⟩
theorem mb_X10_init : mB yX10_init cX10_init 4 none 3 := ⟨zin 408 (by decide +kernel) (by decide +kernel), zin 92 (by decide +kernel) (by decide +kernel), by decide, by decide, by decide +kernel⟩
theorem mi_X10_init : Cond.instanceMethod yX10_init ∈ zW := zin 407 (by decide +kernel) (by decide +kernel)
theorem ul_X11_62 : Cond.methodLink RX11 62 yX10_init ∈ zW := zin 406 (by decide +kernel) (by decide +kernel)
theorem uf_X11_65 : uF RX11 65 11 7 true (.object "WaterTown$Trial") := ⟨RX11, TX11, 16, tyX11, rfl, uw11, Nat.le_of_ble_eq_true rfl, zin 542 (by decide +kernel) (by decide +kernel), rfl, by decide +kernel, tyX11_ok, nmX11, rfl⟩
theorem uc_X11_69 : uC RX11 69 1 9 dfX1 := ⟨RX1, TX1, tyX1, rfl, uw1, tyX1_ok, zin 460 (by decide +kernel) (by decide +kernel), zin 461 (by decide +kernel) (by decide +kernel), zin 93 (by decide +kernel) (by decide +kernel), dfl rfl⟩
theorem mb_X1_init : mB yX1_init cX1_init 1 none 0 := ⟨zin 464 (by decide +kernel) (by decide +kernel), zin 93 (by decide +kernel) (by decide +kernel), by decide, by decide, by decide +kernel⟩
theorem mi_X1_init : Cond.instanceMethod yX1_init ∈ zW := zin 463 (by decide +kernel) (by decide +kernel)
theorem uf_X11_72 : uF RX11 72 11 8 true (.object "WaterTown$Gauges") := ⟨RX11, TX11, 16, tyX11, rfl, uw11, Nat.le_of_ble_eq_true rfl, zin 543 (by decide +kernel) (by decide +kernel), rfl, by decide +kernel, tyX11_ok, nmX11, rfl⟩
theorem uc_X11_76 : uC RX11 76 0 9 dfX0 := ⟨RX0, TX0, tyX0, rfl, uw0, tyX0_ok, zin 498 (by decide +kernel) (by decide +kernel), zin 499 (by decide +kernel) (by decide +kernel), zin 94 (by decide +kernel) (by decide +kernel), dfl rfl⟩
theorem mb_X0_init : mB yX0_init cX0_init 1 none 0 := ⟨zin 502 (by decide +kernel) (by decide +kernel), zin 94 (by decide +kernel) (by decide +kernel), by decide, by decide, by decide +kernel⟩
theorem mi_X0_init : Cond.instanceMethod yX0_init ∈ zW := zin 501 (by decide +kernel) (by decide +kernel)
theorem uf_X11_79 : uF RX11 79 11 9 true (.object "WaterTown$Beds") := ⟨RX11, TX11, 16, tyX11, rfl, uw11, Nat.le_of_ble_eq_true rfl, zin 544 (by decide +kernel) (by decide +kernel), rfl, by decide +kernel, tyX11_ok, nmX11, rfl⟩
theorem uf_X11_83 : uF RX11 83 11 10 true (.array .int) := ⟨RX11, TX11, 16, tyX11, rfl, uw11, Nat.le_of_ble_eq_true rfl, zin 545 (by decide +kernel) (by decide +kernel), rfl, by decide +kernel, tyX11_ok, nmX11, rfl⟩
theorem uf_X11_87 : uF RX11 87 11 11 true (.array .int) := ⟨RX11, TX11, 16, tyX11, rfl, uw11, Nat.le_of_ble_eq_true rfl, zin 546 (by decide +kernel) (by decide +kernel), rfl, by decide +kernel, tyX11_ok, nmX11, rfl⟩
/-! ===== the two big constructors, by program (wip/tools/ctors.py) ===== -/
def uG (D : va_G) (cA : Nat → ClassId) (ad : Nat → Nat) : zG := (D, ad, cA, fun _ => True, fun _ => 0, fun _ => 0)
def mI {α β : Type} (f : Nat → α → β) : List α → Nat → List β
  | [], _ => []
  | a :: l, i => f i a :: mI f l (i + 1)
theorem mI_get {α β : Type} (f : Nat → α → β) : ∀ (l : List α) (k i : Nat), (mI f l k)[i]? = l[i]?.map (f (k + i))
  | [], _, _ => rfl
  | a :: l, k, 0 => rfl
  | a :: l, k, i + 1 => by
    show (mI f l (k + 1))[i]? = l[i]?.map _
    rw [mI_get f l (k + 1) i, show k + 1 + i = k + (i + 1) by omega]
theorem mI_eq {α β : Type} (f : Nat → α → β) (l : List α) : l.mapIdx f = mI f l 0 := by
  apply List.ext_getElem?
  intro i
  rw [mI_get, List.getElem?_mapIdx, Nat.zero_add]
def zfs' (G : zG) (σ : Sg) (o ci : Nat) : List Value := mI (fun j b => cond b (.ref (zad G (rf o j))) (.int (σ o j))) (zRf.getD ci []) 0
theorem zfs_eq (G : zG) (σ : Sg) (o ci : Nat) : zfs G σ o ci = zfs' G σ o ci := by
  unfold zfs zfs'
  rw [mI_eq]
  congr 1
  funext j b
  cases b <;> rfl
def zc' (G : zG) (σ : Sg) (o : Nat) (t : Nat × Nat) : va_E := cond (Nat.ble 10 t.1) (.inr (t.1 - 10, zfs' G σ o (t.1 - 10))) (cond (Nat.beq t.1 3) (.inl (G.2.2.1 3, t.2, .inr (.inr (.inr (.inr (fun j => some (zad G (rf o j)))))))) (.inl (G.2.2.1 t.1, t.2, .inl (σ o))))
def wd' (G : zG) (σ : Sg) : va_W := mI (fun o t => (zad G o, zc' G σ o t)) zT 0
theorem zT_ok : zT.all (fun t => Nat.ble 10 t.1 || Nat.ble t.1 3) = true := by decide
theorem wd_eq (G : zG) (σ : Sg) : wd G σ = wd' G σ := by
  unfold wd'
  apply List.ext_getElem?
  intro i
  rw [mI_get, Nat.zero_add]
  cases h : zT[i]? with
  | none => simp only [wd, List.getElem?_mapIdx, h, Option.map_none]
  | some t =>
    rw [wd_at h, Option.map_some]
    have h2 := List.all_eq_true.mp zT_ok t (List.mem_of_getElem? h)
    congr 2
    obtain ⟨t1, t2⟩ := t
    match t1, h2 with
    | 0, _ => rfl
    | 1, _ => rfl
    | 2, _ => rfl
    | 3, _ => rfl
    | t1 + 4, h2 =>
      have h3 : Nat.ble 10 (t1 + 4) = true := by
        have h4 : Nat.ble (t1 + 4) 3 = false := by cases hq : Nat.ble (t1 + 4) 3; rfl; exact absurd (Nat.le_of_ble_eq_true hq) (by omega)
        rw [h4, Bool.or_false] at h2
        exact h2
      unfold zc'
      rw [h3]
      show Sum.inr (t1 + 4 - 10, zfs G σ i (t1 + 4 - 10)) = _
      rw [zfs_eq]
      rfl
def w1_X11 (D : va_G) (cA : Nat → ClassId) (b : Nat) (q : Nat → Nat) : va_W := (wd' (uG D cA (fun o => cond (Nat.beq o 0) b (q o))) s00).take 71
def w1_X12 (D : va_G) (cA : Nat → ClassId) (b : Nat) (q : Nat → Nat) : va_W := (wd' (uG D cA (fun o => cond (Nat.beq o 71) b (q o))) s00).drop 71
theorem arrV_ext {c : ClassId} {N : Nat} {f f' : Nat → Value} (h : ∀ j, j < N → f j = f' j) : arrV c N f = arrV c N f' := by
  unfold arrV
  congr 2
  funext j
  exact h j.val j.isLt
theorem U_arrR {D : va_G} {A : Nat → Prop} {x : zX} {k n : Nat} {ws : va_W} {lv : List (Nat × Value)} {pc : Nat} {st : List Value} (q0 : Nat) {a N : Nat} {c : ClassId} {f : Nat → Option Nat} (f' : Nat → Option Nat) (he : ws[q0]? = some (a, .inl (c, N, .inr (.inr (.inr (.inr f)))))) (hf : ∀ j, j < N → f j = f' j) (K : UW D A x k n (ws.set q0 (a, .inl (c, N, .inr (.inr (.inr (.inr f')))))) lv pc st) : UW D A x k n ws lv pc st := by
  obtain ⟨p, l, e, R, s, m, args, below, meth, c0, cells, slots, Q, nL⟩ := x
  intro H locs ls hP hD hS hl
  have h1 : H[a]? = some (vp_cell c (N, .inr (.inr (.inr (.inr f))))) := hP q0 _ he
  refine K H locs ls (hP.set hD he ?_ (fun _ _ => rfl)) (hD.set he) hS hl
  show H[a]? = some (vp_cell c (N, .inr (.inr (.inr (.inr f')))))
  rw [h1, vp_cell_q, vp_cell_q, arrV_ext (fun j hj => by rw [hf j hj])]
theorem M_loop {D : va_G} {cA : Nat → ClassId} {A : Nat → Prop} {x : zX} {fr lo kc ks k n mc ms b p : Nat} {fs : List Value} {rest : va_W} {w1 : (Nat → Nat) → va_W} (q : Nat → Nat) (O : uO D cA A x cX12_init RX12 fr lo kc ks 2) (E : uE D A x w1 mc ms) (hf : fs[1]? = some (.ref p)) (hend : (b, .inr (12, fs)) :: (p, .inl (cA 0, 24, .inl (f100 24))) :: rest = w1 q) (hk : k ≤ mc) (hn : n ≤ ms) : ∀ r i, i + r = 24 → UW D A x k n ((b, .inr (12, fs)) :: (p, .inl (cA 0, 24, .inl (f100 i))) :: rest) [(1, .int (nI i)), (0, .ref b)] 395 [] := by
  intro r
  induction r with
  | zero =>
    intro i hi
    obtain rfl : i = 24 := by omega
    refine U_iload 395 0 O dX12_init_395 rfl rfl ?_
    refine U_bipush 396 (v := 24) O dX12_init_396 (by decide) ?_
    refine U_icmp_ge 398 415 O dX12_init_398 rfl (fun _ => ?_) (fun h => absurd (by decide) h)
    exact U_vret 415 q O E hend hk hn dX12_init_415
  | succ r ih =>
    intro i hi
    refine U_iload 395 0 O dX12_init_395 rfl rfl ?_
    refine U_bipush 396 (v := 24) O dX12_init_396 (by decide) ?_
    refine U_icmp_ge 398 415 O dX12_init_398 rfl (fun h => ?_) (fun _ => ?_)
    · rw [show (24 : Int32) = nI 24 from rfl, nle (by omega) (by omega)] at h
      omega
    refine U_aload 401 1 O dX12_init_401 rfl rfl ?_
    refine U_getC 402 O uf_X12_7 hf dX12_init_402 ?_
    refine U_iload 405 0 O dX12_init_405 rfl rfl ?_
    refine U_bipush 406 (v := 100) O dX12_init_406 (by decide) ?_
    refine U_iast 408 1 O rfl (ib_in (ib_n (by omega) (by decide))) dX12_init_408 ?_
    refine U_iinc 409 0 [0, 1] [(1, .int (nI (i + 1))), (0, .ref b)] O dX12_init_409 rfl ci_1 (by decide) (by rw [← nI_1 i]; rfl) ?_
    refine U_goto 412 395 O dX12_init_412 rfl ?_
    refine U_eq (ws' := (b, .inr (12, fs)) :: (p, .inl (cA 0, 24, .inl (f100 (i + 1)))) :: rest) ?_ (ih (i + 1) (by omega))
    rw [show (nI i).toNatClampNeg = i from ix_n (by omega), f100_s]
    rfl
set_option maxRecDepth 100000 in
theorem wM_eq (D : va_G) (cA : Nat → ClassId) (b : Nat) (q : Nat → Nat) : w1_X12 D cA b q = [(b, .inr (12, [.int 0, .ref (q 72), .int 0, .ref (q 73), .ref (q 74), .ref (q 75), .ref (q 76), .ref (q 77), .ref (q 78), .ref (q 79), .ref (q 80), .int 0, .ref (q 81), .ref (q 82), .ref (q 83), .ref (q 84), .ref (q 85), .ref (q 86), .ref (q 87), .ref (q 88), .ref (q 89), .ref (q 90), .ref (q 91), .ref (q 92), .int 0, .int 0, .int 0, .ref (q 93), .ref (q 94), .ref (q 95), .ref (q 96), .ref (q 97), .ref (q 98), .int 0, .int 0, .int 0, .int (-1), .int 0, .int 0, .ref (q 99), .ref (q 100), .int 0, .int 0, .int 0, .int 0, .int 0, .int 0, .ref (q 101), .ref (q 102), .ref (q 103), .int (-1), .int 0, .ref (q 104), .ref (q 105), .ref (q 106), .ref (q 107), .int 0, .int 0, .ref (q 108), .ref (q 109), .ref (q 110), .ref (q 111), .ref (q 112), .int 0, .ref (q 113), .ref (q 114), .int 0, .ref (q 115), .ref (q 116), .ref (q 117), .int 0, .int 0, .int 0, .int 0, .ref (q 118)])), (q 72, .inl (cA 0, 24, .inl (f100 24))), (q 73, .inl (cA 0, 20, .inl (fun _ => 0))), (q 74, .inl (cA 0, 20, .inl (fun _ => 0))), (q 75, .inl (cA 0, 20, .inl (fun _ => 0))), (q 76, .inl (cA 0, 20, .inl (fun _ => 0))), (q 77, .inl (cA 0, 20, .inl (fun _ => 0))), (q 78, .inl (cA 0, 20, .inl (fun _ => 0))), (q 79, .inl (cA 2, 20, .inl (fun _ => 0))), (q 80, .inl (cA 0, 20, .inl (fun _ => 0))), (q 81, .inl (cA 0, 10, .inl (fun _ => 0))), (q 82, .inl (cA 0, 10, .inl (fun _ => 0))), (q 83, .inl (cA 0, 10, .inl (fun _ => 0))), (q 84, .inl (cA 0, 10, .inl (fun _ => 0))), (q 85, .inl (cA 0, 10, .inl (fun _ => 0))), (q 86, .inl (cA 2, 10, .inl (fun _ => 0))), (q 87, .inl (cA 0, 10, .inl (fun _ => 0))), (q 88, .inl (cA 0, 10, .inl (fun _ => 0))), (q 89, .inl (cA 0, 10, .inl (fun _ => 0))), (q 90, .inl (cA 0, 10, .inl (fun _ => 0))), (q 91, .inl (cA 0, 10, .inl (fun _ => 0))), (q 92, .inl (cA 0, 10, .inl (fun _ => 0))), (q 93, .inl (cA 0, 8, .inl (fun _ => 0))), (q 94, .inl (cA 0, 8, .inl (fun _ => 0))), (q 95, .inl (cA 0, 64, .inl (fun _ => 0))), (q 96, .inl (cA 0, 64, .inl (fun _ => 0))), (q 97, .inl (cA 0, 64, .inl (fun _ => 0))), (q 98, .inl (cA 0, 160, .inl (fun _ => 0))), (q 99, .inl (cA 2, 8, .inl (fun _ => 0))), (q 100, .inl (cA 0, 8, .inl (fun _ => 0))), (q 101, .inl (cA 0, 144, .inl (fun _ => 0))), (q 102, .inl (cA 0, 12, .inl (fun _ => 0))), (q 103, .inl (cA 0, 12, .inl (fun _ => 0))), (q 104, .inl (cA 0, 10, .inl (fun _ => 0))), (q 105, .inl (cA 0, 10, .inl (fun _ => 0))), (q 106, .inl (cA 0, 10, .inl (fun _ => 0))), (q 107, .inl (cA 0, 10, .inl (fun _ => 0))), (q 108, .inl (cA 0, 10, .inl (fun _ => 0))), (q 109, .inl (cA 0, 64, .inl (fun _ => 0))), (q 110, .inl (cA 2, 10, .inl (fun _ => 0))), (q 111, .inl (cA 0, 6, .inl (fun _ => 0))), (q 112, .inl (cA 0, 6, .inl (fun _ => 0))), (q 113, .inl (cA 0, 1024, .inl (fun _ => 0))), (q 114, .inl (cA 2, 10, .inl (fun _ => 0))), (q 115, .inl (cA 0, 6, .inl (fun _ => 0))), (q 116, .inl (cA 0, 6, .inl (fun _ => 0))), (q 117, .inl (cA 0, 267674, .inl (fun _ => 0))), (q 118, .inl (cA 0, 31, .inl (fun _ => 0)))] := rfl
