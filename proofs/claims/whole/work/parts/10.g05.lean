-- ==== WaterTown.count(I)I
def s_X11_count (n : Nat) (x1 : Int32) (σ : Sg) : Option (Int32 × Sg) := if x1 = (0 : Int32) then (some (σ 0 12, σ)) else (if x1 = (1 : Int32) then (some (σ 3 0, σ)) else (if x1 = (2 : Int32) then (some (σ 11 0, σ)) else (if x1 = (3 : Int32) then (bd (s_X7_always n 22 (σ 11 0) σ) fun r6 σ5 => some (r6, σ5)) else (if x1 = (4 : Int32) then (some (σ 27 0, σ)) else (if x1 = (5 : Int32) then (bd (s_J6_bitCount_0f7a4 n (σ 3 1) σ) fun r10 σ9 => some (r10, σ9)) else (if x1 = (6 : Int32) then (some (σ 25 0, σ)) else (if x1 = (7 : Int32) then (some (σ 63 0, σ)) else (if x1 = (8 : Int32) then (bd (s_J6_bitCount_0f7a4 n (σ 63 1) σ) fun r15 σ14 => some (r15, σ14)) else (if x1 = (9 : Int32) then (some (σ 0 13, σ)) else (if x1 = (10 : Int32) then (some (σ 0 14, σ)) else (some ((-1002 : Int32), σ))))))))))))
set_option maxRecDepth 20000 in
theorem C_X11_count {l : Launch} {G : zG} {n : Nat} {x1 : Int32} {σ : Sg} {r : Int32} {τ : Sg} (h : s_X11_count n x1 σ = some (r, τ)) : zM l G 1 yX11_count (.code yX11_count cX11_count 2 (some (.int))) [.ref (zad G 0), .int x1] σ (some (.int r)) τ := by
  refine zM_of (by decide) (Nat.le_of_ble_eq_true rfl) (fun x O E => ?_)
  have O : zO G x cX11_count RX11 1 40 2 := O
  unfold s_X11_count at h
  show V G x σ [(0, .ref (zad G 0)), (1, .int x1)] 0 []
  refine V_iloadn 0 1 O dX11_count_0 rfl rfl ?_
  refine V_tab1 1 60 O dX11_count_1 h (by decide) (by decide) rfl rfl (fun h => ?_) (fun q1 h => ?_)
  · refine V_aloadn 60 0 O dX11_count_60 rfl rfl ?_
    refine V_getI 61 O k0 fl_X11_139 dX11_count_61 ?_
    exact V_iret 64 O E dX11_count_64 h
  refine V_tab1 1 65 O dX11_count_1 h (by decide) (by decide) rfl rfl (fun h => ?_) (fun q2 h => ?_)
  · refine V_aloadn 65 0 O dX11_count_65 rfl rfl ?_
    refine V_getR 66 O k0 fl_X11_10 rf0_0 dX11_count_66 ?_
    refine V_getI 69 O k3 fl_X11_98 dX11_count_69 ?_
    exact V_iret 72 O E dX11_count_72 h
  refine V_tab1 1 73 O dX11_count_1 h (by decide) (by decide) rfl rfl (fun h => ?_) (fun q3 h => ?_)
  · refine V_aloadn 73 0 O dX11_count_73 rfl rfl ?_
    refine V_getR 74 O k0 fl_X11_19 rf0_1 dX11_count_74 ?_
    refine V_getI 77 O k11 fl_X11_127 dX11_count_77 ?_
    exact V_iret 80 O E dX11_count_80 h
  refine V_tab1 1 81 O dX11_count_1 h (by decide) (by decide) rfl rfl (fun h => ?_) (fun q4 h => ?_)
  · refine V_aloadn 81 0 O dX11_count_81 rfl rfl ?_
    refine V_getR 82 O k0 fl_X11_26 rf0_2 dX11_count_82 ?_
    refine V_aloadn 85 0 O dX11_count_85 rfl rfl ?_
    refine V_getR 86 O k0 fl_X11_19 rf0_1 dX11_count_86 ?_
    refine V_getI 89 O k11 fl_X11_127 dX11_count_89 ?_
    obtain ⟨r6, σ5, g, h⟩ := bd_of h
    refine V_callVi 92 [.int (σ 11 0)] [] O mf_X7_always lk_X11_142 k22 dX11_count_92 rfl rfl (Nat.le_of_ble_eq_true rfl) ⟨(Nat.le_of_ble_eq_true rfl), (Nat.le_of_ble_eq_true rfl)⟩ (fun l => C_X7_always zStand22 g) ?_
    exact V_iret 95 O E dX11_count_95 h
  refine V_tab1 1 96 O dX11_count_1 h (by decide) (by decide) rfl rfl (fun h => ?_) (fun q7 h => ?_)
  · refine V_aloadn 96 0 O dX11_count_96 rfl rfl ?_
    refine V_getR 97 O k0 fl_X11_40 rf0_4 dX11_count_97 ?_
    refine V_getI 100 O k27 fl_X11_146 dX11_count_100 ?_
    exact V_iret 103 O E dX11_count_103 h
  refine V_tab1 1 104 O dX11_count_1 h (by decide) (by decide) rfl rfl (fun h => ?_) (fun q8 h => ?_)
  · refine V_aloadn 104 0 O dX11_count_104 rfl rfl ?_
    refine V_getR 105 O k0 fl_X11_10 rf0_0 dX11_count_105 ?_
    refine V_getI 108 O k3 fl_X11_112 dX11_count_108 ?_
    obtain ⟨r10, σ9, g, h⟩ := bd_of h
    refine V_callSi 111 [.int (σ 3 1)] [] O mf_J6_bitCount_0f7a4 lk_X11_147 dX11_count_111 rfl rfl (Nat.le_of_ble_eq_true rfl) ⟨(Nat.le_of_ble_eq_true rfl), (Nat.le_of_ble_eq_true rfl)⟩ (fun l => C_J6_bitCount_0f7a4  g) ?_
    exact V_iret 114 O E dX11_count_114 h
  refine V_tab1 1 115 O dX11_count_1 h (by decide) (by decide) rfl rfl (fun h => ?_) (fun q11 h => ?_)
  · refine V_aloadn 115 0 O dX11_count_115 rfl rfl ?_
    refine V_getR 116 O k0 fl_X11_33 rf0_3 dX11_count_116 ?_
    refine V_getI 119 O k25 fl_X11_152 dX11_count_119 ?_
    exact V_iret 122 O E dX11_count_122 h
  refine V_tab1 1 123 O dX11_count_1 h (by decide) (by decide) rfl rfl (fun h => ?_) (fun q12 h => ?_)
  · refine V_aloadn 123 0 O dX11_count_123 rfl rfl ?_
    refine V_getR 124 O k0 fl_X11_72 rf0_8 dX11_count_124 ?_
    refine V_getI 127 O k63 fl_X11_155 dX11_count_127 ?_
    exact V_iret 130 O E dX11_count_130 h
  refine V_tab1 1 131 O dX11_count_1 h (by decide) (by decide) rfl rfl (fun h => ?_) (fun q13 h => ?_)
  · refine V_aloadn 131 0 O dX11_count_131 rfl rfl ?_
    refine V_getR 132 O k0 fl_X11_72 rf0_8 dX11_count_132 ?_
    refine V_getI 135 O k63 fl_X11_156 dX11_count_135 ?_
    obtain ⟨r15, σ14, g, h⟩ := bd_of h
    refine V_callSi 138 [.int (σ 63 1)] [] O mf_J6_bitCount_0f7a4 lk_X11_147 dX11_count_138 rfl rfl (Nat.le_of_ble_eq_true rfl) ⟨(Nat.le_of_ble_eq_true rfl), (Nat.le_of_ble_eq_true rfl)⟩ (fun l => C_J6_bitCount_0f7a4  g) ?_
    exact V_iret 141 O E dX11_count_141 h
  refine V_tab1 1 142 O dX11_count_1 h (by decide) (by decide) rfl rfl (fun h => ?_) (fun q16 h => ?_)
  · refine V_aloadn 142 0 O dX11_count_142 rfl rfl ?_
    refine V_getI 143 O k0 fl_X11_159 dX11_count_143 ?_
    exact V_iret 146 O E dX11_count_146 h
  refine V_tab1 1 147 O dX11_count_1 h (by decide) (by decide) rfl rfl (fun h => ?_) (fun q17 h => ?_)
  · refine V_aloadn 147 0 O dX11_count_147 rfl rfl ?_
    refine V_getI 148 O k0 fl_X11_162 dX11_count_148 ?_
    exact V_iret 151 O E dX11_count_151 h
  refine V_tabO 1 152 O dX11_count_1 (by have w0 := lv_neT q1 (show (0 : Int32).toInt = 0 from rfl); have w1 := lv_neT q2 (show (1 : Int32).toInt = 1 from rfl); have w2 := lv_neT q3 (show (2 : Int32).toInt = 2 from rfl); have w3 := lv_neT q4 (show (3 : Int32).toInt = 3 from rfl); have w4 := lv_neT q7 (show (4 : Int32).toInt = 4 from rfl); have w5 := lv_neT q8 (show (5 : Int32).toInt = 5 from rfl); have w6 := lv_neT q11 (show (6 : Int32).toInt = 6 from rfl); have w7 := lv_neT q12 (show (7 : Int32).toInt = 7 from rfl); have w8 := lv_neT q13 (show (8 : Int32).toInt = 8 from rfl); have w9 := lv_neT q16 (show (9 : Int32).toInt = 9 from rfl); have w10 := lv_neT q17 (show (10 : Int32).toInt = 10 from rfl); omega) rfl ?_
  refine V_sipush 152 O dX11_count_152 cs_m1002 ?_
  exact V_iret 155 O E dX11_count_155 h
-- ==== WaterTown.today()I
def s_X11_today (n : Nat) (σ : Sg) : Option (Int32 × Sg) := some (imin ((σ 0 12) / (24 : Int32)) (199 : Int32), σ)
set_option maxRecDepth 20000 in
theorem C_X11_today {l : Launch} {G : zG} {n : Nat} {σ : Sg} {r : Int32} {τ : Sg} (h : s_X11_today n σ = some (r, τ)) : zM l G 1 yX11_today (.code yX11_today cX11_today 1 (some (.int))) [.ref (zad G 0)] σ (some (.int r)) τ := by
  refine zM_of (by decide) (Nat.le_of_ble_eq_true rfl) (fun x O E => ?_)
  have O : zO G x cX11_today RX11 1 40 1 := O
  unfold s_X11_today at h
  show V G x σ [(0, .ref (zad G 0))] 0 []
  refine V_aloadn 0 0 O dX11_today_0 rfl rfl ?_
  refine V_getI 1 O k0 fl_X11_139 dX11_today_1 ?_
  refine V_bipush 4 O dX11_today_4 cb_24 ?_
  refine V_idivC 6 O dX11_today_6 (by decide) ?_
  refine V_sipush 7 O dX11_today_7 cs_199 ?_
  refine V_min 10 O lk_X11_347 mm_imin.1 mm_imin.2.1 mm_imin.2.2 (Nat.le_of_ble_eq_true rfl) (Nat.le_of_ble_eq_true rfl) dX11_today_10 ?_
  exact V_iret 13 O E dX11_today_13 h
-- ==== WaterTown.paysByRooms(I)I
def s_X11_paysByRooms (n : Nat) (x1 : Int32) (σ : Sg) : Option (Int32 × Sg) := bd (s_X11_today n σ) fun r2 σ1 => bdv (s_X6_hold n r2 38 σ1) fun σ3 => ck x1 10 (ck x1 10 (some (((σ3 38 4) * (σ3 17 (ix x1))) * (σ3 13 (ix x1)), σ3)))
set_option maxRecDepth 20000 in
theorem C_X11_paysByRooms {l : Launch} {G : zG} {n : Nat} {x1 : Int32} {σ : Sg} {r : Int32} {τ : Sg} (h : s_X11_paysByRooms n x1 σ = some (r, τ)) : zM l G 3 yX11_paysByRooms (.code yX11_paysByRooms cX11_paysByRooms 2 (some (.int))) [.ref (zad G 0), .int x1] σ (some (.int r)) τ := by
  refine zM_of (by decide) (Nat.le_of_ble_eq_true rfl) (fun x O E => ?_)
  have O : zO G x cX11_paysByRooms RX11 3 120 2 := O
  unfold s_X11_paysByRooms at h
  show V G x σ [(0, .ref (zad G 0)), (1, .int x1)] 0 []
  refine V_aloadn 0 0 O dX11_paysByRooms_0 rfl rfl ?_
  refine V_getR 1 O k0 fl_X11_40 rf0_4 dX11_paysByRooms_1 ?_
  refine V_aloadn 4 0 O dX11_paysByRooms_4 rfl rfl ?_
  obtain ⟨r2, σ1, g, h⟩ := bd_of h
  refine V_callVi 5 [] [.ref (zad G 27)] O mf_X11_today lk_X11_247 k0 dX11_paysByRooms_5 rfl rfl (Nat.le_of_ble_eq_true rfl) ⟨(Nat.le_of_ble_eq_true rfl), (Nat.le_of_ble_eq_true rfl)⟩ (fun l => C_X11_today  g) ?_
  refine V_aloadn 8 0 O dX11_paysByRooms_8 rfl rfl ?_
  refine V_getR 9 O k0 fl_X11_47 rf0_5 dX11_paysByRooms_9 ?_
  obtain ⟨σ3, g, h⟩ := bdv_of h
  refine V_callVv 12 [.int r2, .ref (zad G 38)] [] O mf_X6_hold lk_X11_209 k27 dX11_paysByRooms_12 rfl rfl (Nat.le_of_ble_eq_true rfl) ⟨(Nat.le_of_ble_eq_true rfl), (Nat.le_of_ble_eq_true rfl)⟩ (fun l => C_X6_hold zLaw38 g) ?_
  refine V_aloadn 15 0 O dX11_paysByRooms_15 rfl rfl ?_
  refine V_getR 16 O k0 fl_X11_47 rf0_5 dX11_paysByRooms_16 ?_
  refine V_getI 19 O k38 fl_X11_219 dX11_paysByRooms_19 ?_
  refine V_aloadn 22 0 O dX11_paysByRooms_22 rfl rfl ?_
  refine V_getR 23 O k0 fl_X11_19 rf0_1 dX11_paysByRooms_23 ?_
  refine V_getR 26 O k11 fl_X11_136 rf11_6 dX11_paysByRooms_26 ?_
  refine V_iloadn 29 1 O dX11_paysByRooms_29 rfl rfl ?_
  refine V_iald 30 O k17 dX11_paysByRooms_30 h (fun h => ?_)
  refine V_imul 31 O dX11_paysByRooms_31 ?_
  refine V_aloadn 32 0 O dX11_paysByRooms_32 rfl rfl ?_
  refine V_getR 33 O k0 fl_X11_19 rf0_1 dX11_paysByRooms_33 ?_
  refine V_getR 36 O k11 fl_X11_356 rf11_2 dX11_paysByRooms_36 ?_
  refine V_iloadn 39 1 O dX11_paysByRooms_39 rfl rfl ?_
  refine V_iald 40 O k13 dX11_paysByRooms_40 h (fun h => ?_)
  refine V_imul 41 O dX11_paysByRooms_41 ?_
  exact V_iret 42 O E dX11_paysByRooms_42 h
-- ==== WaterTown.paysByMeter(I)I
def s_X11_paysByMeter (n : Nat) (x1 : Int32) (σ : Sg) : Option (Int32 × Sg) := bd (s_X11_today n σ) fun r2 σ1 => bdv (s_X6_hold n r2 38 σ1) fun σ3 => ck x1 10 (some (((σ3 38 5) * (σ3 18 (ix x1))) / (10 : Int32), σ3))
set_option maxRecDepth 20000 in
theorem C_X11_paysByMeter {l : Launch} {G : zG} {n : Nat} {x1 : Int32} {σ : Sg} {r : Int32} {τ : Sg} (h : s_X11_paysByMeter n x1 σ = some (r, τ)) : zM l G 3 yX11_paysByMeter (.code yX11_paysByMeter cX11_paysByMeter 2 (some (.int))) [.ref (zad G 0), .int x1] σ (some (.int r)) τ := by
  refine zM_of (by decide) (Nat.le_of_ble_eq_true rfl) (fun x O E => ?_)
  have O : zO G x cX11_paysByMeter RX11 3 120 2 := O
  unfold s_X11_paysByMeter at h
  show V G x σ [(0, .ref (zad G 0)), (1, .int x1)] 0 []
  refine V_aloadn 0 0 O dX11_paysByMeter_0 rfl rfl ?_
  refine V_getR 1 O k0 fl_X11_40 rf0_4 dX11_paysByMeter_1 ?_
  refine V_aloadn 4 0 O dX11_paysByMeter_4 rfl rfl ?_
  obtain ⟨r2, σ1, g, h⟩ := bd_of h
  refine V_callVi 5 [] [.ref (zad G 27)] O mf_X11_today lk_X11_247 k0 dX11_paysByMeter_5 rfl rfl (Nat.le_of_ble_eq_true rfl) ⟨(Nat.le_of_ble_eq_true rfl), (Nat.le_of_ble_eq_true rfl)⟩ (fun l => C_X11_today  g) ?_
  refine V_aloadn 8 0 O dX11_paysByMeter_8 rfl rfl ?_
  refine V_getR 9 O k0 fl_X11_47 rf0_5 dX11_paysByMeter_9 ?_
  obtain ⟨σ3, g, h⟩ := bdv_of h
  refine V_callVv 12 [.int r2, .ref (zad G 38)] [] O mf_X6_hold lk_X11_209 k27 dX11_paysByMeter_12 rfl rfl (Nat.le_of_ble_eq_true rfl) ⟨(Nat.le_of_ble_eq_true rfl), (Nat.le_of_ble_eq_true rfl)⟩ (fun l => C_X6_hold zLaw38 g) ?_
  refine V_aloadn 15 0 O dX11_paysByMeter_15 rfl rfl ?_
  refine V_getR 16 O k0 fl_X11_47 rf0_5 dX11_paysByMeter_16 ?_
  refine V_getI 19 O k38 fl_X11_222 dX11_paysByMeter_19 ?_
  refine V_aloadn 22 0 O dX11_paysByMeter_22 rfl rfl ?_
  refine V_getR 23 O k0 fl_X11_19 rf0_1 dX11_paysByMeter_23 ?_
  refine V_getR 26 O k11 fl_X11_171 rf11_7 dX11_paysByMeter_26 ?_
  refine V_iloadn 29 1 O dX11_paysByMeter_29 rfl rfl ?_
  refine V_iald 30 O k18 dX11_paysByMeter_30 h (fun h => ?_)
  refine V_imul 31 O dX11_paysByMeter_31 ?_
  refine V_bipush 32 O dX11_paysByMeter_32 cb_10 ?_
  refine V_idivC 34 O dX11_paysByMeter_34 (by decide) ?_
  exact V_iret 35 O E dX11_paysByMeter_35 h
-- ==== WaterTown.told(II)I
def s_X11_told (n : Nat) (x1 : Int32) (x2 : Int32) (σ : Sg) : Option (Int32 × Sg) := bd (s_X8_has n x1 σ) fun r2 σ1 => if r2 = 0 then (some ((-1001 : Int32), σ1)) else (if x2 = (0 : Int32) then (ck x1 10 (some (σ1 12 (ix x1), σ1))) else (if x2 = (1 : Int32) then (ck x1 10 (some (σ1 23 (ix x1), σ1))) else (if x2 = (2 : Int32) then (ck x1 10 (some (σ1 24 (ix x1), σ1))) else (if x2 = (3 : Int32) then (ck x1 10 (some (σ1 18 (ix x1), σ1))) else (if x2 = (4 : Int32) then (ck x1 10 (some (σ1 19 (ix x1), σ1))) else (if x2 = (5 : Int32) then (ck x1 10 (some (σ1 20 (ix x1), σ1))) else (if x2 = (6 : Int32) then (ck x1 10 (some (σ1 21 (ix x1), σ1))) else (if x2 = (7 : Int32) then (bd (s_X11_paysByRooms n x1 σ1) fun r12 σ11 => some (r12, σ11)) else (if x2 = (8 : Int32) then (bd (s_X11_paysByMeter n x1 σ1) fun r15 σ14 => some (r15, σ14)) else (some ((-1002 : Int32), σ1)))))))))))
set_option maxRecDepth 20000 in
theorem C_X11_told {l : Launch} {G : zG} {n : Nat} {x1 : Int32} {x2 : Int32} {σ : Sg} {r : Int32} {τ : Sg} (h : s_X11_told n x1 x2 σ = some (r, τ)) : zM l G 4 yX11_told (.code yX11_told cX11_told 3 (some (.int))) [.ref (zad G 0), .int x1, .int x2] σ (some (.int r)) τ := by
  refine zM_of (by decide) (Nat.le_of_ble_eq_true rfl) (fun x O E => ?_)
  have O : zO G x cX11_told RX11 4 160 3 := O
  unfold s_X11_told at h
  show V G x σ [(0, .ref (zad G 0)), (1, .int x1), (2, .int x2)] 0 []
  refine V_aloadn 0 0 O dX11_told_0 rfl rfl ?_
  refine V_getR 1 O k0 fl_X11_19 rf0_1 dX11_told_1 ?_
  refine V_iloadn 4 1 O dX11_told_4 rfl rfl ?_
  obtain ⟨r2, σ1, g, h⟩ := bd_of h
  refine V_callVi 5 [.int x1] [] O mf_X8_has lk_X11_135 k11 dX11_told_5 rfl rfl (Nat.le_of_ble_eq_true rfl) ⟨(Nat.le_of_ble_eq_true rfl), (Nat.le_of_ble_eq_true rfl)⟩ (fun l => C_X8_has  g) ?_
  refine V_if_ne 8 15 O dX11_told_8 rfl h (fun h => ?_) (fun h => ?_)
  · refine V_iloadn 15 2 O dX11_told_15 rfl rfl ?_
    refine V_tab1 16 68 O dX11_told_16 h (by decide) (by decide) rfl rfl (fun h => ?_) (fun q3 h => ?_)
    · refine V_aloadn 68 0 O dX11_told_68 rfl rfl ?_
      refine V_getR 69 O k0 fl_X11_19 rf0_1 dX11_told_69 ?_
      refine V_getR 72 O k11 fl_X11_165 rf11_1 dX11_told_72 ?_
      refine V_iloadn 75 1 O dX11_told_75 rfl rfl ?_
      refine V_iald 76 O k12 dX11_told_76 h (fun h => ?_)
      exact V_iret 77 O E dX11_told_77 h
    refine V_tab1 16 78 O dX11_told_16 h (by decide) (by decide) rfl rfl (fun h => ?_) (fun q4 h => ?_)
    · refine V_aloadn 78 0 O dX11_told_78 rfl rfl ?_
      refine V_getR 79 O k0 fl_X11_26 rf0_2 dX11_told_79 ?_
      refine V_getR 82 O k22 fl_X11_132 rf22_0 dX11_told_82 ?_
      refine V_iloadn 85 1 O dX11_told_85 rfl rfl ?_
      refine V_iald 86 O k23 dX11_told_86 h (fun h => ?_)
      exact V_iret 87 O E dX11_told_87 h
    refine V_tab1 16 88 O dX11_told_16 h (by decide) (by decide) rfl rfl (fun h => ?_) (fun q5 h => ?_)
    · refine V_aloadn 88 0 O dX11_told_88 rfl rfl ?_
      refine V_getR 89 O k0 fl_X11_26 rf0_2 dX11_told_89 ?_
      refine V_getR 92 O k22 fl_X11_168 rf22_1 dX11_told_92 ?_
      refine V_iloadn 95 1 O dX11_told_95 rfl rfl ?_
      refine V_iald 96 O k24 dX11_told_96 h (fun h => ?_)
      exact V_iret 97 O E dX11_told_97 h
    refine V_tab1 16 98 O dX11_told_16 h (by decide) (by decide) rfl rfl (fun h => ?_) (fun q6 h => ?_)
    · refine V_aloadn 98 0 O dX11_told_98 rfl rfl ?_
      refine V_getR 99 O k0 fl_X11_19 rf0_1 dX11_told_99 ?_
      refine V_getR 102 O k11 fl_X11_171 rf11_7 dX11_told_102 ?_
      refine V_iloadn 105 1 O dX11_told_105 rfl rfl ?_
      refine V_iald 106 O k18 dX11_told_106 h (fun h => ?_)
      exact V_iret 107 O E dX11_told_107 h
    refine V_tab1 16 108 O dX11_told_16 h (by decide) (by decide) rfl rfl (fun h => ?_) (fun q7 h => ?_)
    · refine V_aloadn 108 0 O dX11_told_108 rfl rfl ?_
      refine V_getR 109 O k0 fl_X11_19 rf0_1 dX11_told_109 ?_
      refine V_getR 112 O k11 fl_X11_174 rf11_8 dX11_told_112 ?_
      refine V_iloadn 115 1 O dX11_told_115 rfl rfl ?_
      refine V_iald 116 O k19 dX11_told_116 h (fun h => ?_)
      exact V_iret 117 O E dX11_told_117 h
    refine V_tab1 16 118 O dX11_told_16 h (by decide) (by decide) rfl rfl (fun h => ?_) (fun q8 h => ?_)
    · refine V_aloadn 118 0 O dX11_told_118 rfl rfl ?_
      refine V_getR 119 O k0 fl_X11_19 rf0_1 dX11_told_119 ?_
      refine V_getR 122 O k11 fl_X11_177 rf11_9 dX11_told_122 ?_
      refine V_iloadn 125 1 O dX11_told_125 rfl rfl ?_
      refine V_iald 126 O k20 dX11_told_126 h (fun h => ?_)
      exact V_iret 127 O E dX11_told_127 h
    refine V_tab1 16 128 O dX11_told_16 h (by decide) (by decide) rfl rfl (fun h => ?_) (fun q9 h => ?_)
    · refine V_aloadn 128 0 O dX11_told_128 rfl rfl ?_
      refine V_getR 129 O k0 fl_X11_19 rf0_1 dX11_told_129 ?_
      refine V_getR 132 O k11 fl_X11_180 rf11_10 dX11_told_132 ?_
      refine V_iloadn 135 1 O dX11_told_135 rfl rfl ?_
      refine V_iald 136 O k21 dX11_told_136 h (fun h => ?_)
      exact V_iret 137 O E dX11_told_137 h
    refine V_tab1 16 138 O dX11_told_16 h (by decide) (by decide) rfl rfl (fun h => ?_) (fun q10 h => ?_)
    · refine V_aloadn 138 0 O dX11_told_138 rfl rfl ?_
      refine V_iloadn 139 1 O dX11_told_139 rfl rfl ?_
      obtain ⟨r12, σ11, g, h⟩ := bd_of h
      refine V_callVi 140 [.int x1] [] O mf_X11_paysByRooms lk_X11_183 k0 dX11_told_140 rfl rfl (Nat.le_of_ble_eq_true rfl) ⟨(Nat.le_of_ble_eq_true rfl), (Nat.le_of_ble_eq_true rfl)⟩ (fun l => C_X11_paysByRooms  g) ?_
      exact V_iret 143 O E dX11_told_143 h
    refine V_tab1 16 144 O dX11_told_16 h (by decide) (by decide) rfl rfl (fun h => ?_) (fun q13 h => ?_)
    · refine V_aloadn 144 0 O dX11_told_144 rfl rfl ?_
      refine V_iloadn 145 1 O dX11_told_145 rfl rfl ?_
      obtain ⟨r15, σ14, g, h⟩ := bd_of h
      refine V_callVi 146 [.int x1] [] O mf_X11_paysByMeter lk_X11_186 k0 dX11_told_146 rfl rfl (Nat.le_of_ble_eq_true rfl) ⟨(Nat.le_of_ble_eq_true rfl), (Nat.le_of_ble_eq_true rfl)⟩ (fun l => C_X11_paysByMeter  g) ?_
      exact V_iret 149 O E dX11_told_149 h
    refine V_tabO 16 150 O dX11_told_16 (by have w0 := lv_neT q3 (show (0 : Int32).toInt = 0 from rfl); have w1 := lv_neT q4 (show (1 : Int32).toInt = 1 from rfl); have w2 := lv_neT q5 (show (2 : Int32).toInt = 2 from rfl); have w3 := lv_neT q6 (show (3 : Int32).toInt = 3 from rfl); have w4 := lv_neT q7 (show (4 : Int32).toInt = 4 from rfl); have w5 := lv_neT q8 (show (5 : Int32).toInt = 5 from rfl); have w6 := lv_neT q9 (show (6 : Int32).toInt = 6 from rfl); have w7 := lv_neT q10 (show (7 : Int32).toInt = 7 from rfl); have w8 := lv_neT q13 (show (8 : Int32).toInt = 8 from rfl); omega) rfl ?_
    refine V_sipush 150 O dX11_told_150 cs_m1002 ?_
    exact V_iret 153 O E dX11_told_153 h
  · refine V_sipush 11 O dX11_told_11 cs_m1001 ?_
    exact V_iret 14 O E dX11_told_14 h
-- ==== WaterTown.feed(IJ)I
def s_X11_feed_38b (n : Nat) (rc38 : Int64 → Int32 → Sg → Option (Int32 × Sg)) (x2 : Int64) (x4 : Int32) (σ : Sg) : Option (Int32 × Sg) := if x4 < 0 then (some (σ 25 0, σ)) else (bdv (s_X5_put n (((lus x2 ((8 : Int32) * x4)) &&& (255 : Int64)).toInt32) σ) fun σ4 => rc38 x2 (x4 + (-1 : Int32)) σ4)
def s_X11_feed_38 (n : Nat) : Nat → Int64 → Int32 → Sg → Option (Int32 × Sg)
  | 0 => fun _ _ _ => none
  | k + 1 => s_X11_feed_38b n (s_X11_feed_38 n k)
def s_X11_feed (n : Nat) (x1 : Int32) (x2 : Int64) (σ : Sg) : Option (Int32 × Sg) := bd (s_X11_isOutside n x1 (1 : Int32) (8 : Int32) σ) fun r2 σ1 => if r2 = 0 then (if ((σ1 25 0) + x1) ≤ (160 : Int32) then (lt (x1 - (1 : Int32)) fun v3 => s_X11_feed_38 n n x2 v3 σ1) else (some ((-1004 : Int32), σ1))) else (some ((-1002 : Int32), σ1))
set_option maxRecDepth 20000 in
theorem b_X11_feed_38 {G : zG} {x : zX} {r : Int32} {τ : Sg} (O : zO G x cX11_feed RX11 1 40 5) (E : zE G x (some (.int)) (some (.int r)) τ) (n : Nat) (rc38 : Int64 → Int32 → Sg → Option (Int32 × Sg)) (H38 : ∀ (x2 : Int64) (x4 : Int32) (σ : Sg), rc38 x2 x4 σ = some (r, τ) → V G x σ [(0, .ref (zad G 0)), (2, .long x2), (4, .int x4)] 38 []) (x2 : Int64) (x4 : Int32) (σ : Sg) (h : s_X11_feed_38b n rc38 x2 x4 σ = some (r, τ)) : V G x σ [(0, .ref (zad G 0)), (2, .long x2), (4, .int x4)] 38 [] := by
  unfold s_X11_feed_38b at h
  refine V_iload 38 2 O dX11_feed_38 rfl ?_
  refine V_if_lt 40 68 O dX11_feed_40 rfl h (fun h => ?_) (fun h => ?_)
  · refine V_aloadn 68 0 O dX11_feed_68 rfl rfl ?_
    refine V_getR 69 O k0 fl_X11_33 rf0_3 dX11_feed_69 ?_
    refine V_getI 72 O k25 fl_X11_152 dX11_feed_72 ?_
    exact V_iret 75 O E dX11_feed_75 h
  · refine V_aloadn 43 0 O dX11_feed_43 rfl rfl ?_
    refine V_getR 44 O k0 fl_X11_33 rf0_3 dX11_feed_44 ?_
    refine V_lloadn 47 1 O dX11_feed_47 rfl rfl ?_
    refine V_bipush 48 O dX11_feed_48 cb_8 ?_
    refine V_iload 50 2 O dX11_feed_50 rfl ?_
    refine V_imul 52 O dX11_feed_52 ?_
    refine V_lushr 53 O dX11_feed_53 ?_
    refine V_ldc2 54 O dX11_feed_54 ld_X11_189 ?_
    refine V_land 57 O dX11_feed_57 ?_
    refine V_l2i 58 O dX11_feed_58 ?_
    obtain ⟨σ4, g, h⟩ := bdv_of h
    refine V_callVv 59 [.int (((lus x2 ((8 : Int32) * x4)) &&& (255 : Int64)).toInt32)] [] O mf_X5_put lk_X11_191 k25 dX11_feed_59 rfl rfl (Nat.le_of_ble_eq_true rfl) ⟨(Nat.le_of_ble_eq_true rfl), (Nat.le_of_ble_eq_true rfl)⟩ (fun l => C_X5_put  g) ?_
    refine V_iinc 62 2 [1, 2, 0] [(0, .ref (zad G 0)), (2, .long x2), (4, .int (x4 + (-1 : Int32)))] O dX11_feed_62 rfl ci_m1 (Nat.le_of_ble_eq_true rfl) rfl ?_
    refine V_goto 65 38 O dX11_feed_65 rfl ?_
    exact V_sub [0, 1, 2] rfl (H38 x2 (x4 + (-1 : Int32)) σ4  h)
theorem bl_X11_feed_38 {G : zG} {x : zX} {r : Int32} {τ : Sg} (O : zO G x cX11_feed RX11 1 40 5) (E : zE G x (some (.int)) (some (.int r)) τ) (n : Nat) : ∀ (k : Nat) (x2 : Int64) (x4 : Int32) (σ : Sg), s_X11_feed_38 n k x2 x4 σ = some (r, τ) → V G x σ [(0, .ref (zad G 0)), (2, .long x2), (4, .int x4)] 38 [] := by
  intro k
  induction k with
  | zero => intro x2 x4 σ  h; cases h
  | succ k ih => intro x2 x4 σ  h; exact b_X11_feed_38 O E n  (s_X11_feed_38 n  k) ih x2 x4 σ  h
set_option maxRecDepth 20000 in
theorem C_X11_feed {l : Launch} {G : zG} {n : Nat} {x1 : Int32} {x2 : Int64} {σ : Sg} {r : Int32} {τ : Sg} (h : s_X11_feed n x1 x2 σ = some (r, τ)) : zM l G 1 yX11_feed (.code yX11_feed cX11_feed 5 (some (.int))) [.ref (zad G 0), .int x1, .long x2] σ (some (.int r)) τ := by
  refine zM_of (by decide) (Nat.le_of_ble_eq_true rfl) (fun x O E => ?_)
  have O : zO G x cX11_feed RX11 1 40 5 := O
  unfold s_X11_feed at h
  show V G x σ [(0, .ref (zad G 0)), (1, .int x1), (2, .long x2)] 0 []
  refine V_iloadn 0 1 O dX11_feed_0 rfl rfl ?_
  refine V_iconst 1 O dX11_feed_1 ci_1 ?_
  refine V_bipush 2 O dX11_feed_2 cb_8 ?_
  obtain ⟨r2, σ1, g, h⟩ := bd_of h
  refine V_callSi 4 [.int x1, .int (1 : Int32), .int (8 : Int32)] [] O mf_X11_isOutside lk_X11_94 dX11_feed_4 rfl rfl (Nat.le_of_ble_eq_true rfl) ⟨(Nat.le_of_ble_eq_true rfl), (Nat.le_of_ble_eq_true rfl)⟩ (fun l => C_X11_isOutside  g) ?_
  refine V_if_eq 7 14 O dX11_feed_7 rfl h (fun h => ?_) (fun h => ?_)
  · refine V_aloadn 14 0 O dX11_feed_14 rfl rfl ?_
    refine V_getR 15 O k0 fl_X11_33 rf0_3 dX11_feed_15 ?_
    refine V_getI 18 O k25 fl_X11_152 dX11_feed_18 ?_
    refine V_iloadn 21 1 O dX11_feed_21 rfl rfl ?_
    refine V_iadd 22 O dX11_feed_22 ?_
    refine V_sipush 23 O dX11_feed_23 cs_160 ?_
    refine V_icmp_le 26 33 O dX11_feed_26 rfl h (fun h => ?_) (fun h => ?_)
    · refine V_iloadn 33 1 O dX11_feed_33 rfl rfl ?_
      refine V_iconst 34 O dX11_feed_34 ci_1 ?_
      refine V_isub 35 O dX11_feed_35 ?_
      refine V_topi h (fun v3 h => ?_)
      refine V_istore 36 [1, 2, 3, 0] [(0, .ref (zad G 0)), (1, .int x1), (2, .long x2), (4, .int v3)] O dX11_feed_36 (Nat.le_of_ble_eq_true rfl) rfl ?_
      exact V_sub [0, 2, 3] rfl (bl_X11_feed_38 O E n  n x2 v3 σ1  h)
    · refine V_sipush 29 O dX11_feed_29 cs_m1004 ?_
      exact V_iret 32 O E dX11_feed_32 h
  · refine V_sipush 10 O dX11_feed_10 cs_m1002 ?_
    exact V_iret 13 O E dX11_feed_13 h
-- ==== WaterTown.rule(I)I
def s_X11_rule (n : Nat) (x1 : Int32) (σ : Sg) : Option (Int32 × Sg) := bd (s_X11_isOutside n x1 (0 : Int32) (199 : Int32) σ) fun r2 σ1 => if r2 = 0 then (if (σ1 27 0) < (8 : Int32) then (bdr (s_X6_draft n σ1) fun r4 σ3 => bd (s_X5_read n (σ1 27 0) r4 σ3) fun r6 σ5 => if r6 = 0 then (lt (up2 σ5 0 15 ((σ5 0 15) + (1 : Int32))) fun σ7 => bd (s_X6_enact n x1 σ7) fun r9 σ8 => some (r9, σ8)) else (some ((-10 : Int32) - r6, σ5))) else (some ((-1004 : Int32), σ1))) else (some ((-1002 : Int32), σ1))
set_option maxRecDepth 20000 in
theorem C_X11_rule {l : Launch} {G : zG} {n : Nat} {x1 : Int32} {σ : Sg} {r : Int32} {τ : Sg} (h : s_X11_rule n x1 σ = some (r, τ)) : zM l G 10 yX11_rule (.code yX11_rule cX11_rule 3 (some (.int))) [.ref (zad G 0), .int x1] σ (some (.int r)) τ := by
  refine zM_of (by decide) (Nat.le_of_ble_eq_true rfl) (fun x O E => ?_)
  have O : zO G x cX11_rule RX11 10 400 3 := O
  unfold s_X11_rule at h
  show V G x σ [(0, .ref (zad G 0)), (1, .int x1)] 0 []
  refine V_iloadn 0 1 O dX11_rule_0 rfl rfl ?_
  refine V_iconst 1 O dX11_rule_1 ci_0 ?_
  refine V_sipush 2 O dX11_rule_2 cs_199 ?_
  obtain ⟨r2, σ1, g, h⟩ := bd_of h
  refine V_callSi 5 [.int x1, .int (0 : Int32), .int (199 : Int32)] [] O mf_X11_isOutside lk_X11_94 dX11_rule_5 rfl rfl (Nat.le_of_ble_eq_true rfl) ⟨(Nat.le_of_ble_eq_true rfl), (Nat.le_of_ble_eq_true rfl)⟩ (fun l => C_X11_isOutside  g) ?_
  refine V_if_eq 8 15 O dX11_rule_8 rfl h (fun h => ?_) (fun h => ?_)
  · refine V_aloadn 15 0 O dX11_rule_15 rfl rfl ?_
    refine V_getR 16 O k0 fl_X11_40 rf0_4 dX11_rule_16 ?_
    refine V_getI 19 O k27 fl_X11_146 dX11_rule_19 ?_
    refine V_bipush 22 O dX11_rule_22 cb_8 ?_
    refine V_icmp_lt 24 31 O dX11_rule_24 rfl h (fun h => ?_) (fun h => ?_)
    · refine V_aloadn 31 0 O dX11_rule_31 rfl rfl ?_
      refine V_getR 32 O k0 fl_X11_33 rf0_3 dX11_rule_32 ?_
      refine V_aloadn 35 0 O dX11_rule_35 rfl rfl ?_
      refine V_getR 36 O k0 fl_X11_40 rf0_4 dX11_rule_36 ?_
      refine V_getI 39 O k27 fl_X11_146 dX11_rule_39 ?_
      refine V_aloadn 42 0 O dX11_rule_42 rfl rfl ?_
      refine V_getR 43 O k0 fl_X11_40 rf0_4 dX11_rule_43 ?_
      obtain ⟨r4, σ3, g, h⟩ := bdr_of h
      have hl_r4 := draft_law g
      refine V_callVr 46 [] [.int (σ1 27 0), .ref (zad G 25)] O mf_X6_draft lk_X11_195 k27 dX11_rule_46 rfl rfl (Nat.le_of_ble_eq_true rfl) ⟨(Nat.le_of_ble_eq_true rfl), (Nat.le_of_ble_eq_true rfl)⟩ (fun l => C_X6_draft  g) ?_
      obtain ⟨r6, σ5, g, h⟩ := bd_of h
      refine V_callVi 49 [.int (σ1 27 0), .ref (zad G r4)] [] O mf_X5_read lk_X11_199 k25 dX11_rule_49 rfl rfl (Nat.le_of_ble_eq_true rfl) ⟨(Nat.le_of_ble_eq_true rfl), (Nat.le_of_ble_eq_true rfl)⟩ (fun l => C_X5_read hl_r4 g) ?_
      refine V_istoren 52 [1, 2, 0] [(0, .ref (zad G 0)), (1, .int x1), (2, .int r6)] O dX11_rule_52 rfl (Nat.le_of_ble_eq_true rfl) rfl ?_
      refine V_iloadn 53 2 O dX11_rule_53 rfl rfl ?_
      refine V_if_eq 54 62 O dX11_rule_54 rfl h (fun h => ?_) (fun h => ?_)
      · refine V_aloadn 62 0 O dX11_rule_62 rfl rfl ?_
        refine V_dup 63 O dX11_rule_63 rfl ?_
        refine V_getI 64 O k0 fl_X11_102 dX11_rule_64 ?_
        refine V_iconst 67 O dX11_rule_67 ci_1 ?_
        refine V_iadd 68 O dX11_rule_68 ?_
        refine V_put 69 O k0 fp_X11_102 dX11_rule_69 h (fun σ7 h => ?_)
        refine V_aloadn 72 0 O dX11_rule_72 rfl rfl ?_
        refine V_getR 73 O k0 fl_X11_40 rf0_4 dX11_rule_73 ?_
        refine V_iloadn 76 1 O dX11_rule_76 rfl rfl ?_
        obtain ⟨r9, σ8, g, h⟩ := bd_of h
        refine V_callVi 77 [.int x1] [] O mf_X6_enact lk_X11_203 k27 dX11_rule_77 rfl rfl (Nat.le_of_ble_eq_true rfl) ⟨(Nat.le_of_ble_eq_true rfl), (Nat.le_of_ble_eq_true rfl)⟩ (fun l => C_X6_enact  g) ?_
        exact V_iret 80 O E dX11_rule_80 h
      · refine V_bipush 57 O dX11_rule_57 cb_m10 ?_
        refine V_iloadn 59 2 O dX11_rule_59 rfl rfl ?_
        refine V_isub 60 O dX11_rule_60 ?_
        exact V_iret 61 O E dX11_rule_61 h
    · refine V_sipush 27 O dX11_rule_27 cs_m1004 ?_
      exact V_iret 30 O E dX11_rule_30 h
  · refine V_sipush 11 O dX11_rule_11 cs_m1002 ?_
    exact V_iret 14 O E dX11_rule_14 h
-- ==== WaterTown.fault()I
def s_X11_fault (n : Nat) (σ : Sg) : Option (Int32 × Sg) := some (σ 25 1, σ)
set_option maxRecDepth 20000 in
theorem C_X11_fault {l : Launch} {G : zG} {n : Nat} {σ : Sg} {r : Int32} {τ : Sg} (h : s_X11_fault n σ = some (r, τ)) : zM l G 0 yX11_fault (.code yX11_fault cX11_fault 1 (some (.int))) [.ref (zad G 0)] σ (some (.int r)) τ := by
  refine zM_of (by decide) (Nat.le_of_ble_eq_true rfl) (fun x O E => ?_)
  have O : zO G x cX11_fault RX11 0 0 1 := O
  unfold s_X11_fault at h
  show V G x σ [(0, .ref (zad G 0))] 0 []
  refine V_aloadn 0 0 O dX11_fault_0 rfl rfl ?_
  refine V_getR 1 O k0 fl_X11_33 rf0_3 dX11_fault_1 ?_
  refine V_getI 4 O k25 fl_X11_206 dX11_fault_4 ?_
  exact V_iret 7 O E dX11_fault_7 h
-- ==== WaterTown.force(II)I
def s_X11_force (n : Nat) (x1 : Int32) (x2 : Int32) (σ : Sg) : Option (Int32 × Sg) := bd (s_X11_isOutside n x1 (0 : Int32) (8 : Int32) σ) fun r2 σ1 => if r2 = 0 then (bd (s_X11_isOutside n x2 (0 : Int32) (199 : Int32) σ1) fun r4 σ3 => if r4 = 0 then (bdv (s_X6_hold n x2 38 σ3) fun σ5 => if x1 = (0 : Int32) then (some (σ5 38 2, σ5)) else (if x1 = (1 : Int32) then (some (σ5 38 3, σ5)) else (if x1 = (2 : Int32) then (some (σ5 38 4, σ5)) else (if x1 = (3 : Int32) then (some (σ5 38 5, σ5)) else (if x1 = (4 : Int32) then (some (σ5 38 6, σ5)) else (if (σ5 38 6) ≤ (x1 - (5 : Int32)) then (some ((-1 : Int32), σ5)) else (bd (s_X2_key n 38 (x1 - (5 : Int32)) σ5) fun r12 σ11 => some (r12, σ11)))))))) else (some ((-1002 : Int32), σ3))) else (some ((-1002 : Int32), σ1))
set_option maxRecDepth 20000 in
theorem C_X11_force {l : Launch} {G : zG} {n : Nat} {x1 : Int32} {x2 : Int32} {σ : Sg} {r : Int32} {τ : Sg} (h : s_X11_force n x1 x2 σ = some (r, τ)) : zM l G 3 yX11_force (.code yX11_force cX11_force 3 (some (.int))) [.ref (zad G 0), .int x1, .int x2] σ (some (.int r)) τ := by
  refine zM_of (by decide) (Nat.le_of_ble_eq_true rfl) (fun x O E => ?_)
  have O : zO G x cX11_force RX11 3 120 3 := O
  unfold s_X11_force at h
  show V G x σ [(0, .ref (zad G 0)), (1, .int x1), (2, .int x2)] 0 []
  refine V_iloadn 0 1 O dX11_force_0 rfl rfl ?_
  refine V_iconst 1 O dX11_force_1 ci_0 ?_
  refine V_bipush 2 O dX11_force_2 cb_8 ?_
  obtain ⟨r2, σ1, g, h⟩ := bd_of h
  refine V_callSi 4 [.int x1, .int (0 : Int32), .int (8 : Int32)] [] O mf_X11_isOutside lk_X11_94 dX11_force_4 rfl rfl (Nat.le_of_ble_eq_true rfl) ⟨(Nat.le_of_ble_eq_true rfl), (Nat.le_of_ble_eq_true rfl)⟩ (fun l => C_X11_isOutside  g) ?_
  refine V_if_ne 7 21 O dX11_force_7 rfl h (fun h => ?_) (fun h => ?_)
  · refine V_sipush 21 O dX11_force_21 cs_m1002 ?_
    exact V_iret 24 O E dX11_force_24 h
  · refine V_iloadn 10 2 O dX11_force_10 rfl rfl ?_
    refine V_iconst 11 O dX11_force_11 ci_0 ?_
    refine V_sipush 12 O dX11_force_12 cs_199 ?_
    obtain ⟨r4, σ3, g, h⟩ := bd_of h
    refine V_callSi 15 [.int x2, .int (0 : Int32), .int (199 : Int32)] [] O mf_X11_isOutside lk_X11_94 dX11_force_15 rfl rfl (Nat.le_of_ble_eq_true rfl) ⟨(Nat.le_of_ble_eq_true rfl), (Nat.le_of_ble_eq_true rfl)⟩ (fun l => C_X11_isOutside  g) ?_
    refine V_if_eq 18 25 O dX11_force_18 rfl h (fun h => ?_) (fun h => ?_)
    · refine V_aloadn 25 0 O dX11_force_25 rfl rfl ?_
      refine V_getR 26 O k0 fl_X11_40 rf0_4 dX11_force_26 ?_
      refine V_iloadn 29 2 O dX11_force_29 rfl rfl ?_
      refine V_aloadn 30 0 O dX11_force_30 rfl rfl ?_
      refine V_getR 31 O k0 fl_X11_47 rf0_5 dX11_force_31 ?_
      obtain ⟨σ5, g, h⟩ := bdv_of h
      refine V_callVv 34 [.int x2, .ref (zad G 38)] [] O mf_X6_hold lk_X11_209 k27 dX11_force_34 rfl rfl (Nat.le_of_ble_eq_true rfl) ⟨(Nat.le_of_ble_eq_true rfl), (Nat.le_of_ble_eq_true rfl)⟩ (fun l => C_X6_hold zLaw38 g) ?_
      refine V_iloadn 37 1 O dX11_force_37 rfl rfl ?_
      refine V_tab1 38 72 O dX11_force_38 h (by decide) (by decide) rfl rfl (fun h => ?_) (fun q6 h => ?_)
      · refine V_aloadn 72 0 O dX11_force_72 rfl rfl ?_
        refine V_getR 73 O k0 fl_X11_47 rf0_5 dX11_force_73 ?_
        refine V_getI 76 O k38 fl_X11_213 dX11_force_76 ?_
        exact V_iret 79 O E dX11_force_79 h
      refine V_tab1 38 80 O dX11_force_38 h (by decide) (by decide) rfl rfl (fun h => ?_) (fun q7 h => ?_)
      · refine V_aloadn 80 0 O dX11_force_80 rfl rfl ?_
        refine V_getR 81 O k0 fl_X11_47 rf0_5 dX11_force_81 ?_
        refine V_getI 84 O k38 fl_X11_216 dX11_force_84 ?_
        exact V_iret 87 O E dX11_force_87 h
      refine V_tab1 38 88 O dX11_force_38 h (by decide) (by decide) rfl rfl (fun h => ?_) (fun q8 h => ?_)
      · refine V_aloadn 88 0 O dX11_force_88 rfl rfl ?_
        refine V_getR 89 O k0 fl_X11_47 rf0_5 dX11_force_89 ?_
        refine V_getI 92 O k38 fl_X11_219 dX11_force_92 ?_
        exact V_iret 95 O E dX11_force_95 h
      refine V_tab1 38 96 O dX11_force_38 h (by decide) (by decide) rfl rfl (fun h => ?_) (fun q9 h => ?_)
      · refine V_aloadn 96 0 O dX11_force_96 rfl rfl ?_
        refine V_getR 97 O k0 fl_X11_47 rf0_5 dX11_force_97 ?_
        refine V_getI 100 O k38 fl_X11_222 dX11_force_100 ?_
        exact V_iret 103 O E dX11_force_103 h
      refine V_tab1 38 104 O dX11_force_38 h (by decide) (by decide) rfl rfl (fun h => ?_) (fun q10 h => ?_)
      · refine V_aloadn 104 0 O dX11_force_104 rfl rfl ?_
        refine V_getR 105 O k0 fl_X11_47 rf0_5 dX11_force_105 ?_
        refine V_getI 108 O k38 fl_X11_225 dX11_force_108 ?_
        exact V_iret 111 O E dX11_force_111 h
      refine V_tabO 38 112 O dX11_force_38 (by have w0 := lv_neT q6 (show (0 : Int32).toInt = 0 from rfl); have w1 := lv_neT q7 (show (1 : Int32).toInt = 1 from rfl); have w2 := lv_neT q8 (show (2 : Int32).toInt = 2 from rfl); have w3 := lv_neT q9 (show (3 : Int32).toInt = 3 from rfl); have w4 := lv_neT q10 (show (4 : Int32).toInt = 4 from rfl); omega) rfl ?_
      refine V_iloadn 112 1 O dX11_force_112 rfl rfl ?_
      refine V_iconst 113 O dX11_force_113 ci_5 ?_
      refine V_isub 114 O dX11_force_114 ?_
      refine V_aloadn 115 0 O dX11_force_115 rfl rfl ?_
      refine V_getR 116 O k0 fl_X11_47 rf0_5 dX11_force_116 ?_
      refine V_getI 119 O k38 fl_X11_225 dX11_force_119 ?_
      refine V_icmp_ge 122 138 O dX11_force_122 rfl h (fun h => ?_) (fun h => ?_)
      · refine V_iconst 138 O dX11_force_138 ci_m1 ?_
        exact V_iret 139 O E dX11_force_139 h
      · refine V_aloadn 125 0 O dX11_force_125 rfl rfl ?_
        refine V_getR 126 O k0 fl_X11_47 rf0_5 dX11_force_126 ?_
        refine V_iloadn 129 1 O dX11_force_129 rfl rfl ?_
        refine V_iconst 130 O dX11_force_130 ci_5 ?_
        refine V_isub 131 O dX11_force_131 ?_
        obtain ⟨r12, σ11, g, h⟩ := bd_of h
        refine V_callVi 132 [.int (x1 - (5 : Int32))] [] O mf_X2_key lk_X11_228 k38 dX11_force_132 rfl rfl (Nat.le_of_ble_eq_true rfl) ⟨(Nat.le_of_ble_eq_true rfl), (Nat.le_of_ble_eq_true rfl)⟩ (fun l => C_X2_key zLaw38 g) ?_
        refine V_goto 135 139 O dX11_force_135 rfl ?_
        exact V_iret 139 O E dX11_force_139 h
    · refine V_sipush 21 O dX11_force_21 cs_m1002 ?_
      exact V_iret 24 O E dX11_force_24 h
-- ==== WaterTown.supplyHour(I)V
def s_X11_supplyHour (n : Nat) (x1 : Int32) (σ : Sg) : Option Sg := bd (s_X11_today n σ) fun r2 σ1 => bdv (s_X6_hold n r2 38 σ1) fun σ3 => bdv (s_X9_ask n 22 38 x1 σ3) fun σ4 => bdv (s_X9_begin n x1 (0 : Int32) (0 : Int32) σ4) fun σ5 => bdv (s_X9_serve n σ5) fun σ6 => some σ6
set_option maxRecDepth 20000 in
theorem C_X11_supplyHour {l : Launch} {G : zG} {n : Nat} {x1 : Int32} {σ : Sg} {τ : Sg} (h : s_X11_supplyHour n x1 σ = some τ) : zM l G 4 yX11_supplyHour (.code yX11_supplyHour cX11_supplyHour 2 none) [.ref (zad G 0), .int x1] σ none τ := by
  refine zM_of (by decide) (Nat.le_of_ble_eq_true rfl) (fun x O E => ?_)
  have O : zO G x cX11_supplyHour RX11 4 160 2 := O
  unfold s_X11_supplyHour at h
  show V G x σ [(0, .ref (zad G 0)), (1, .int x1)] 0 []
  refine V_aloadn 0 0 O dX11_supplyHour_0 rfl rfl ?_
  refine V_getR 1 O k0 fl_X11_40 rf0_4 dX11_supplyHour_1 ?_
  refine V_aloadn 4 0 O dX11_supplyHour_4 rfl rfl ?_
  obtain ⟨r2, σ1, g, h⟩ := bd_of h
  refine V_callVi 5 [] [.ref (zad G 27)] O mf_X11_today lk_X11_247 k0 dX11_supplyHour_5 rfl rfl (Nat.le_of_ble_eq_true rfl) ⟨(Nat.le_of_ble_eq_true rfl), (Nat.le_of_ble_eq_true rfl)⟩ (fun l => C_X11_today  g) ?_
  refine V_aloadn 8 0 O dX11_supplyHour_8 rfl rfl ?_
  refine V_getR 9 O k0 fl_X11_47 rf0_5 dX11_supplyHour_9 ?_
  obtain ⟨σ3, g, h⟩ := bdv_of h
  refine V_callVv 12 [.int r2, .ref (zad G 38)] [] O mf_X6_hold lk_X11_209 k27 dX11_supplyHour_12 rfl rfl (Nat.le_of_ble_eq_true rfl) ⟨(Nat.le_of_ble_eq_true rfl), (Nat.le_of_ble_eq_true rfl)⟩ (fun l => C_X6_hold zLaw38 g) ?_
  refine V_aloadn 15 0 O dX11_supplyHour_15 rfl rfl ?_
  refine V_getR 16 O k0 fl_X11_56 rf0_6 dX11_supplyHour_16 ?_
  refine V_aloadn 19 0 O dX11_supplyHour_19 rfl rfl ?_
  refine V_getR 20 O k0 fl_X11_26 rf0_2 dX11_supplyHour_20 ?_
  refine V_aloadn 23 0 O dX11_supplyHour_23 rfl rfl ?_
  refine V_getR 24 O k0 fl_X11_47 rf0_5 dX11_supplyHour_24 ?_
  refine V_iloadn 27 1 O dX11_supplyHour_27 rfl rfl ?_
  obtain ⟨σ4, g, h⟩ := bdv_of h
  refine V_callVv 28 [.ref (zad G 22), .ref (zad G 38), .int x1] [] O mf_X9_ask lk_X11_250 k39 dX11_supplyHour_28 rfl rfl (Nat.le_of_ble_eq_true rfl) ⟨(Nat.le_of_ble_eq_true rfl), (Nat.le_of_ble_eq_true rfl)⟩ (fun l => C_X9_ask zStand22 zLaw38 g) ?_
  refine V_aloadn 31 0 O dX11_supplyHour_31 rfl rfl ?_
  refine V_getR 32 O k0 fl_X11_56 rf0_6 dX11_supplyHour_32 ?_
  refine V_iloadn 35 1 O dX11_supplyHour_35 rfl rfl ?_
  refine V_iconst 36 O dX11_supplyHour_36 ci_0 ?_
  refine V_iconst 37 O dX11_supplyHour_37 ci_0 ?_
  obtain ⟨σ5, g, h⟩ := bdv_of h
  refine V_callVv 38 [.int x1, .int (0 : Int32), .int (0 : Int32)] [] O mf_X9_begin lk_X11_276 k39 dX11_supplyHour_38 rfl rfl (Nat.le_of_ble_eq_true rfl) ⟨(Nat.le_of_ble_eq_true rfl), (Nat.le_of_ble_eq_true rfl)⟩ (fun l => C_X9_begin  g) ?_
  refine V_aloadn 41 0 O dX11_supplyHour_41 rfl rfl ?_
  refine V_getR 42 O k0 fl_X11_56 rf0_6 dX11_supplyHour_42 ?_
  obtain ⟨σ6, g, h⟩ := bdv_of h
  refine V_callVv 45 [] [] O mf_X9_serve lk_X11_280 k39 dX11_supplyHour_45 rfl rfl (Nat.le_of_ble_eq_true rfl) ⟨(Nat.le_of_ble_eq_true rfl), (Nat.le_of_ble_eq_true rfl)⟩ (fun l => C_X9_serve  g) ?_
  exact V_vret 48 O E dX11_supplyHour_48 h
-- ==== WaterTown.stepIsDry()Z
def s_X11_stepIsDry (n : Nat) (σ : Sg) : Option (Int32 × Sg) := bdv (s_X11_supplyHour n (irm (σ 0 12) (24 : Int32)) σ) fun σ1 => bdv (s_X9_settle n 22 σ1) fun σ2 => bdv (s_X8_remember n σ2) fun σ3 => lt (up2 σ3 0 14 ((σ3 0 14) + (σ3 39 10))) fun σ4 => lt (up2 σ4 0 12 ((σ4 0 12) + (1 : Int32))) fun σ5 => bd (s_X9_someDry n 22 (0 : Int32) σ5) fun r7 σ6 => bck r7 (some (r7, σ6))
set_option maxRecDepth 20000 in
theorem C_X11_stepIsDry {l : Launch} {G : zG} {n : Nat} {σ : Sg} {r : Int32} {τ : Sg} (h : s_X11_stepIsDry n σ = some (r, τ)) : zM l G 5 yX11_stepIsDry (.code yX11_stepIsDry cX11_stepIsDry 1 (some (.boolean))) [.ref (zad G 0)] σ (some (.int r)) τ := by
  refine zM_of (by decide) (Nat.le_of_ble_eq_true rfl) (fun x O E => ?_)
  have O : zO G x cX11_stepIsDry RX11 5 200 1 := O
  unfold s_X11_stepIsDry at h
  show V G x σ [(0, .ref (zad G 0))] 0 []
  refine V_aloadn 0 0 O dX11_stepIsDry_0 rfl rfl ?_
  refine V_aloadn 1 0 O dX11_stepIsDry_1 rfl rfl ?_
  refine V_getI 2 O k0 fl_X11_139 dX11_stepIsDry_2 ?_
  refine V_bipush 5 O dX11_stepIsDry_5 cb_24 ?_
  refine V_iremC 7 O dX11_stepIsDry_7 (by decide) ?_
  obtain ⟨σ1, g, h⟩ := bdv_of h
  refine V_callVv 8 [.int (irm (σ 0 12) (24 : Int32))] [] O mf_X11_supplyHour lk_X11_235 k0 dX11_stepIsDry_8 rfl rfl (Nat.le_of_ble_eq_true rfl) ⟨(Nat.le_of_ble_eq_true rfl), (Nat.le_of_ble_eq_true rfl)⟩ (fun l => C_X11_supplyHour  g) ?_
  refine V_aloadn 11 0 O dX11_stepIsDry_11 rfl rfl ?_
  refine V_getR 12 O k0 fl_X11_56 rf0_6 dX11_stepIsDry_12 ?_
  refine V_aloadn 15 0 O dX11_stepIsDry_15 rfl rfl ?_
  refine V_getR 16 O k0 fl_X11_26 rf0_2 dX11_stepIsDry_16 ?_
  obtain ⟨σ2, g, h⟩ := bdv_of h
  refine V_callVv 19 [.ref (zad G 22)] [] O mf_X9_settle lk_X11_359 k39 dX11_stepIsDry_19 rfl rfl (Nat.le_of_ble_eq_true rfl) ⟨(Nat.le_of_ble_eq_true rfl), (Nat.le_of_ble_eq_true rfl)⟩ (fun l => C_X9_settle zStand22 g) ?_
  refine V_aloadn 22 0 O dX11_stepIsDry_22 rfl rfl ?_
  refine V_getR 23 O k0 fl_X11_19 rf0_1 dX11_stepIsDry_23 ?_
  refine V_aloadn 26 0 O dX11_stepIsDry_26 rfl rfl ?_
  refine V_getR 27 O k0 fl_X11_56 rf0_6 dX11_stepIsDry_27 ?_
  obtain ⟨σ3, g, h⟩ := bdv_of h
  refine V_callVv 30 [.ref (zad G 39)] [] O mf_X8_remember lk_X11_362 k11 dX11_stepIsDry_30 rfl rfl (Nat.le_of_ble_eq_true rfl) ⟨(Nat.le_of_ble_eq_true rfl), (Nat.le_of_ble_eq_true rfl)⟩ (fun l => C_X8_remember  g) ?_
  refine V_aloadn 33 0 O dX11_stepIsDry_33 rfl rfl ?_
  refine V_dup 34 O dX11_stepIsDry_34 rfl ?_
  refine V_getI 35 O k0 fl_X11_162 dX11_stepIsDry_35 ?_
  refine V_aloadn 38 0 O dX11_stepIsDry_38 rfl rfl ?_
  refine V_getR 39 O k0 fl_X11_56 rf0_6 dX11_stepIsDry_39 ?_
  refine V_getI 42 O k39 fl_X11_242 dX11_stepIsDry_42 ?_
  refine V_iadd 45 O dX11_stepIsDry_45 ?_
  refine V_put 46 O k0 fp_X11_162 dX11_stepIsDry_46 h (fun σ4 h => ?_)
  refine V_aloadn 49 0 O dX11_stepIsDry_49 rfl rfl ?_
  refine V_dup 50 O dX11_stepIsDry_50 rfl ?_
  refine V_getI 51 O k0 fl_X11_139 dX11_stepIsDry_51 ?_
  refine V_iconst 54 O dX11_stepIsDry_54 ci_1 ?_
  refine V_iadd 55 O dX11_stepIsDry_55 ?_
  refine V_put 56 O k0 fp_X11_139 dX11_stepIsDry_56 h (fun σ5 h => ?_)
  refine V_aloadn 59 0 O dX11_stepIsDry_59 rfl rfl ?_
  refine V_getR 60 O k0 fl_X11_56 rf0_6 dX11_stepIsDry_60 ?_
  refine V_aloadn 63 0 O dX11_stepIsDry_63 rfl rfl ?_
  refine V_getR 64 O k0 fl_X11_26 rf0_2 dX11_stepIsDry_64 ?_
  refine V_iconst 67 O dX11_stepIsDry_67 ci_0 ?_
  obtain ⟨r7, σ6, g, h⟩ := bd_of h
  refine V_callVi 68 [.ref (zad G 22), .int (0 : Int32)] [] O mf_X9_someDry lk_X11_366 k39 dX11_stepIsDry_68 rfl rfl (Nat.le_of_ble_eq_true rfl) ⟨(Nat.le_of_ble_eq_true rfl), (Nat.le_of_ble_eq_true rfl)⟩ (fun l => C_X9_someDry zStand22 g) ?_
  exact V_zret 71 O E dX11_stepIsDry_71 h
-- ==== WaterTown.go(I)I
def s_X11_go_45b (n : Nat) (rc45 : Int32 → Int32 → Int32 → Sg → Option (Int32 × Sg)) (x1 : Int32) (x2 : Int32) (x3 : Int32) (σ : Sg) : Option (Int32 × Sg) := if x1 ≤ x3 then (lt (up2 σ 0 13 ((σ 0 13) + x2)) fun σ4 => some (x2, σ4)) else (bd (s_X11_stepIsDry n σ) fun r6 σ5 => if r6 = 0 then (rc45 x1 x2 (x3 + (1 : Int32)) σ5) else (rc45 x1 (x2 + (1 : Int32)) (x3 + (1 : Int32)) σ5))
def s_X11_go_45 (n : Nat) : Nat → Int32 → Int32 → Int32 → Sg → Option (Int32 × Sg)
  | 0 => fun _ _ _ _ => none
  | k + 1 => s_X11_go_45b n (s_X11_go_45 n k)
def s_X11_go (n : Nat) (x1 : Int32) (σ : Sg) : Option (Int32 × Sg) := bd (s_X11_isOutside n x1 (0 : Int32) (200 : Int32) σ) fun r2 σ1 => if r2 = 0 then (if ((σ1 0 12) + x1) ≤ (4800 : Int32) then (lt (up2 σ1 0 15 ((σ1 0 15) + (1 : Int32))) fun σ3 => s_X11_go_45 n n x1 (0 : Int32) (0 : Int32) σ3) else (some ((-1003 : Int32), σ1))) else (some ((-1002 : Int32), σ1))
set_option maxRecDepth 20000 in
theorem b_X11_go_45 {G : zG} {x : zX} {r : Int32} {τ : Sg} (O : zO G x cX11_go RX11 6 240 4) (E : zE G x (some (.int)) (some (.int r)) τ) (n : Nat) (rc45 : Int32 → Int32 → Int32 → Sg → Option (Int32 × Sg)) (H45 : ∀ (x1 : Int32) (x2 : Int32) (x3 : Int32) (σ : Sg), rc45 x1 x2 x3 σ = some (r, τ) → V G x σ [(0, .ref (zad G 0)), (1, .int x1), (2, .int x2), (3, .int x3)] 45 []) (x1 : Int32) (x2 : Int32) (x3 : Int32) (σ : Sg) (h : s_X11_go_45b n rc45 x1 x2 x3 σ = some (r, τ)) : V G x σ [(0, .ref (zad G 0)), (1, .int x1), (2, .int x2), (3, .int x3)] 45 [] := by
  unfold s_X11_go_45b at h
  refine V_iloadn 45 3 O dX11_go_45 rfl rfl ?_
  refine V_iloadn 46 1 O dX11_go_46 rfl rfl ?_
  refine V_icmp_ge 47 66 O dX11_go_47 rfl h (fun h => ?_) (fun h => ?_)
  · refine V_aloadn 66 0 O dX11_go_66 rfl rfl ?_
    refine V_dup 67 O dX11_go_67 rfl ?_
    refine V_getI 68 O k0 fl_X11_159 dX11_go_68 ?_
    refine V_iloadn 71 2 O dX11_go_71 rfl rfl ?_
    refine V_iadd 72 O dX11_go_72 ?_
    refine V_put 73 O k0 fp_X11_159 dX11_go_73 h (fun σ4 h => ?_)
    refine V_iloadn 76 2 O dX11_go_76 rfl rfl ?_
    exact V_iret 77 O E dX11_go_77 h
  · refine V_aloadn 50 0 O dX11_go_50 rfl rfl ?_
    obtain ⟨r6, σ5, g, h⟩ := bd_of h
    refine V_callVi 51 [] [] O mf_X11_stepIsDry lk_X11_231 k0 dX11_go_51 rfl rfl (Nat.le_of_ble_eq_true rfl) ⟨(Nat.le_of_ble_eq_true rfl), (Nat.le_of_ble_eq_true rfl)⟩ (fun l => C_X11_stepIsDry  g) ?_
    refine V_if_eq 54 60 O dX11_go_54 rfl h (fun h => ?_) (fun h => ?_)
    · refine V_iinc 60 3 [1, 2, 3, 0] [(0, .ref (zad G 0)), (1, .int x1), (2, .int x2), (3, .int (x3 + (1 : Int32)))] O dX11_go_60 rfl ci_1 (Nat.le_of_ble_eq_true rfl) rfl ?_
      refine V_goto 63 45 O dX11_go_63 rfl ?_
      exact V_sub [0, 1, 2, 3] rfl (H45 x1 x2 (x3 + (1 : Int32)) σ5  h)
    · refine V_iinc 57 2 [1, 2, 0, 3] [(0, .ref (zad G 0)), (1, .int x1), (2, .int (x2 + (1 : Int32))), (3, .int x3)] O dX11_go_57 rfl ci_1 (Nat.le_of_ble_eq_true rfl) rfl ?_
      refine V_iinc 60 3 [1, 2, 3, 0] [(0, .ref (zad G 0)), (1, .int x1), (2, .int (x2 + (1 : Int32))), (3, .int (x3 + (1 : Int32)))] O dX11_go_60 rfl ci_1 (Nat.le_of_ble_eq_true rfl) rfl ?_
      refine V_goto 63 45 O dX11_go_63 rfl ?_
      exact V_sub [0, 1, 2, 3] rfl (H45 x1 (x2 + (1 : Int32)) (x3 + (1 : Int32)) σ5  h)
theorem bl_X11_go_45 {G : zG} {x : zX} {r : Int32} {τ : Sg} (O : zO G x cX11_go RX11 6 240 4) (E : zE G x (some (.int)) (some (.int r)) τ) (n : Nat) : ∀ (k : Nat) (x1 : Int32) (x2 : Int32) (x3 : Int32) (σ : Sg), s_X11_go_45 n k x1 x2 x3 σ = some (r, τ) → V G x σ [(0, .ref (zad G 0)), (1, .int x1), (2, .int x2), (3, .int x3)] 45 [] := by
  intro k
  induction k with
  | zero => intro x1 x2 x3 σ  h; cases h
  | succ k ih => intro x1 x2 x3 σ  h; exact b_X11_go_45 O E n  (s_X11_go_45 n  k) ih x1 x2 x3 σ  h
set_option maxRecDepth 20000 in
theorem C_X11_go {l : Launch} {G : zG} {n : Nat} {x1 : Int32} {σ : Sg} {r : Int32} {τ : Sg} (h : s_X11_go n x1 σ = some (r, τ)) : zM l G 6 yX11_go (.code yX11_go cX11_go 4 (some (.int))) [.ref (zad G 0), .int x1] σ (some (.int r)) τ := by
  refine zM_of (by decide) (Nat.le_of_ble_eq_true rfl) (fun x O E => ?_)
  have O : zO G x cX11_go RX11 6 240 4 := O
  unfold s_X11_go at h
  show V G x σ [(0, .ref (zad G 0)), (1, .int x1)] 0 []
  refine V_iloadn 0 1 O dX11_go_0 rfl rfl ?_
  refine V_iconst 1 O dX11_go_1 ci_0 ?_
  refine V_sipush 2 O dX11_go_2 cs_200 ?_
  obtain ⟨r2, σ1, g, h⟩ := bd_of h
  refine V_callSi 5 [.int x1, .int (0 : Int32), .int (200 : Int32)] [] O mf_X11_isOutside lk_X11_94 dX11_go_5 rfl rfl (Nat.le_of_ble_eq_true rfl) ⟨(Nat.le_of_ble_eq_true rfl), (Nat.le_of_ble_eq_true rfl)⟩ (fun l => C_X11_isOutside  g) ?_
  refine V_if_eq 8 15 O dX11_go_8 rfl h (fun h => ?_) (fun h => ?_)
  · refine V_aloadn 15 0 O dX11_go_15 rfl rfl ?_
    refine V_getI 16 O k0 fl_X11_139 dX11_go_16 ?_
    refine V_iloadn 19 1 O dX11_go_19 rfl rfl ?_
    refine V_iadd 20 O dX11_go_20 ?_
    refine V_sipush 21 O dX11_go_21 cs_4800 ?_
    refine V_icmp_le 24 31 O dX11_go_24 rfl h (fun h => ?_) (fun h => ?_)
    · refine V_aloadn 31 0 O dX11_go_31 rfl rfl ?_
      refine V_dup 32 O dX11_go_32 rfl ?_
      refine V_getI 33 O k0 fl_X11_102 dX11_go_33 ?_
      refine V_iconst 36 O dX11_go_36 ci_1 ?_
      refine V_iadd 37 O dX11_go_37 ?_
      refine V_put 38 O k0 fp_X11_102 dX11_go_38 h (fun σ3 h => ?_)
      refine V_iconst 41 O dX11_go_41 ci_0 ?_
      refine V_istoren 42 [1, 2, 0] [(0, .ref (zad G 0)), (1, .int x1), (2, .int (0 : Int32))] O dX11_go_42 rfl (Nat.le_of_ble_eq_true rfl) rfl ?_
      refine V_iconst 43 O dX11_go_43 ci_0 ?_
      refine V_istoren 44 [1, 2, 3, 0] [(0, .ref (zad G 0)), (1, .int x1), (2, .int (0 : Int32)), (3, .int (0 : Int32))] O dX11_go_44 rfl (Nat.le_of_ble_eq_true rfl) rfl ?_
      exact V_sub [0, 1, 2, 3] rfl (bl_X11_go_45 O E n  n x1 (0 : Int32) (0 : Int32) σ3  h)
    · refine V_sipush 27 O dX11_go_27 cs_m1003 ?_
      exact V_iret 30 O E dX11_go_30 h
  · refine V_sipush 11 O dX11_go_11 cs_m1002 ?_
    exact V_iret 14 O E dX11_go_14 h
-- ==== WaterTown.flow(III)I
def s_X11_flow_30 (n : Nat) (x1 : Int32) (x2 : Int32) (x3 : Int32) (y0 : Int32) (σ : Sg) : Option (Int32 × Sg) := bd (s_X11_isOutside n x1 (0 : Int32) (23 : Int32) σ) fun r7 σ6 => if r7 = 0 then (bd (s_X11_isOutside n x3 y0 (y0 + (1 : Int32)) σ6) fun r9 σ8 => if r9 = 0 then (bdv (s_X11_supplyHour n x1 σ8) fun σ10 => if x3 = (0 : Int32) then (ck x2 10 (some (σ10 41 (ix x2), σ10))) else (if x3 = (1 : Int32) then (ck x2 10 (some (σ10 42 (ix x2), σ10))) else (if x3 = (2 : Int32) then (some (σ10 39 10, σ10)) else (bd (s_X9_gotByAll n σ10) fun r15 σ14 => some ((σ10 39 10) + r15, σ14))))) else (some ((-1002 : Int32), σ8))) else (some ((-1002 : Int32), σ6))
def s_X11_flow_20 (n : Nat) (x1 : Int32) (x2 : Int32) (x3 : Int32) (σ : Sg) : Option (Int32 × Sg) := lt (if x2 = (-1 : Int32) then (2 : Int32) else (0 : Int32)) fun v5 => s_X11_flow_30 n x1 x2 x3 v5 σ
def s_X11_flow (n : Nat) (x1 : Int32) (x2 : Int32) (x3 : Int32) (σ : Sg) : Option (Int32 × Sg) := if x2 = (-1 : Int32) then (s_X11_flow_20 n x1 x2 x3 σ) else (bd (s_X8_has n x2 σ) fun r2 σ1 => if r2 = 0 then (some ((-1001 : Int32), σ1)) else (s_X11_flow_20 n x1 x2 x3 σ1))
set_option maxRecDepth 20000 in
theorem b_X11_flow_30 {G : zG} {x : zX} {r : Int32} {τ : Sg} (O : zO G x cX11_flow RX11 5 200 5) (E : zE G x (some (.int)) (some (.int r)) τ) (n : Nat) (x1 : Int32) (x2 : Int32) (x3 : Int32) (y0 : Int32) (σ : Sg) (h : s_X11_flow_30 n x1 x2 x3 y0 σ = some (r, τ)) : V G x σ [(0, .ref (zad G 0)), (1, .int x1), (2, .int x2), (3, .int x3)] 30 [.int y0] := by
  unfold s_X11_flow_30 at h
  refine V_istore 30 [1, 2, 3, 4, 0] [(0, .ref (zad G 0)), (1, .int x1), (2, .int x2), (3, .int x3), (4, .int y0)] O dX11_flow_30 (Nat.le_of_ble_eq_true rfl) rfl ?_
  refine V_iloadn 32 1 O dX11_flow_32 rfl rfl ?_
  refine V_iconst 33 O dX11_flow_33 ci_0 ?_
  refine V_bipush 34 O dX11_flow_34 cb_23 ?_
  obtain ⟨r7, σ6, g, h⟩ := bd_of h
  refine V_callSi 36 [.int x1, .int (0 : Int32), .int (23 : Int32)] [] O mf_X11_isOutside lk_X11_94 dX11_flow_36 rfl rfl (Nat.le_of_ble_eq_true rfl) ⟨(Nat.le_of_ble_eq_true rfl), (Nat.le_of_ble_eq_true rfl)⟩ (fun l => C_X11_isOutside  g) ?_
  refine V_if_ne 39 55 O dX11_flow_39 rfl h (fun h => ?_) (fun h => ?_)
  · refine V_sipush 55 O dX11_flow_55 cs_m1002 ?_
    exact V_iret 58 O E dX11_flow_58 h
  · refine V_iloadn 42 3 O dX11_flow_42 rfl rfl ?_
    refine V_iload 43 4 O dX11_flow_43 rfl ?_
    refine V_iload 45 4 O dX11_flow_45 rfl ?_
    refine V_iconst 47 O dX11_flow_47 ci_1 ?_
    refine V_iadd 48 O dX11_flow_48 ?_
    obtain ⟨r9, σ8, g, h⟩ := bd_of h
    refine V_callSi 49 [.int x3, .int y0, .int (y0 + (1 : Int32))] [] O mf_X11_isOutside lk_X11_94 dX11_flow_49 rfl rfl (Nat.le_of_ble_eq_true rfl) ⟨(Nat.le_of_ble_eq_true rfl), (Nat.le_of_ble_eq_true rfl)⟩ (fun l => C_X11_isOutside  g) ?_
    refine V_if_eq 52 59 O dX11_flow_52 rfl h (fun h => ?_) (fun h => ?_)
    · refine V_aloadn 59 0 O dX11_flow_59 rfl rfl ?_
      refine V_iloadn 60 1 O dX11_flow_60 rfl rfl ?_
      obtain ⟨σ10, g, h⟩ := bdv_of h
      refine V_callVv 61 [.int x1] [] O mf_X11_supplyHour lk_X11_235 k0 dX11_flow_61 rfl rfl (Nat.le_of_ble_eq_true rfl) ⟨(Nat.le_of_ble_eq_true rfl), (Nat.le_of_ble_eq_true rfl)⟩ (fun l => C_X11_supplyHour  g) ?_
      refine V_iloadn 64 3 O dX11_flow_64 rfl rfl ?_
      refine V_tab1 65 92 O dX11_flow_65 h (by decide) (by decide) rfl rfl (fun h => ?_) (fun q11 h => ?_)
      · refine V_aloadn 92 0 O dX11_flow_92 rfl rfl ?_
        refine V_getR 93 O k0 fl_X11_56 rf0_6 dX11_flow_93 ?_
        refine V_getR 96 O k39 fl_X11_238 rf39_4 dX11_flow_96 ?_
        refine V_iloadn 99 2 O dX11_flow_99 rfl rfl ?_
        refine V_iald 100 O k41 dX11_flow_100 h (fun h => ?_)
        exact V_iret 101 O E dX11_flow_101 h
      refine V_tab1 65 102 O dX11_flow_65 h (by decide) (by decide) rfl rfl (fun h => ?_) (fun q12 h => ?_)
      · refine V_aloadn 102 0 O dX11_flow_102 rfl rfl ?_
        refine V_getR 103 O k0 fl_X11_56 rf0_6 dX11_flow_103 ?_
        refine V_getR 106 O k39 fl_X11_241 rf39_5 dX11_flow_106 ?_
        refine V_iloadn 109 2 O dX11_flow_109 rfl rfl ?_
        refine V_iald 110 O k42 dX11_flow_110 h (fun h => ?_)
        exact V_iret 111 O E dX11_flow_111 h
      refine V_tab1 65 112 O dX11_flow_65 h (by decide) (by decide) rfl rfl (fun h => ?_) (fun q13 h => ?_)
      · refine V_aloadn 112 0 O dX11_flow_112 rfl rfl ?_
        refine V_getR 113 O k0 fl_X11_56 rf0_6 dX11_flow_113 ?_
        refine V_getI 116 O k39 fl_X11_242 dX11_flow_116 ?_
        exact V_iret 119 O E dX11_flow_119 h
      refine V_tabO 65 120 O dX11_flow_65 (by have w0 := lv_neT q11 (show (0 : Int32).toInt = 0 from rfl); have w1 := lv_neT q12 (show (1 : Int32).toInt = 1 from rfl); have w2 := lv_neT q13 (show (2 : Int32).toInt = 2 from rfl); omega) rfl ?_
      refine V_aloadn 120 0 O dX11_flow_120 rfl rfl ?_
      refine V_getR 121 O k0 fl_X11_56 rf0_6 dX11_flow_121 ?_
      refine V_getI 124 O k39 fl_X11_242 dX11_flow_124 ?_
      refine V_aloadn 127 0 O dX11_flow_127 rfl rfl ?_
      refine V_getR 128 O k0 fl_X11_56 rf0_6 dX11_flow_128 ?_
      obtain ⟨r15, σ14, g, h⟩ := bd_of h
      refine V_callVi 131 [] [.int (σ10 39 10)] O mf_X9_gotByAll lk_X11_243 k39 dX11_flow_131 rfl rfl (Nat.le_of_ble_eq_true rfl) ⟨(Nat.le_of_ble_eq_true rfl), (Nat.le_of_ble_eq_true rfl)⟩ (fun l => C_X9_gotByAll  g) ?_
      refine V_iadd 134 O dX11_flow_134 ?_
      exact V_iret 135 O E dX11_flow_135 h
    · refine V_sipush 55 O dX11_flow_55 cs_m1002 ?_
      exact V_iret 58 O E dX11_flow_58 h
set_option maxRecDepth 20000 in
theorem b_X11_flow_20 {G : zG} {x : zX} {r : Int32} {τ : Sg} (O : zO G x cX11_flow RX11 5 200 5) (E : zE G x (some (.int)) (some (.int r)) τ) (n : Nat) (x1 : Int32) (x2 : Int32) (x3 : Int32) (σ : Sg) (h : s_X11_flow_20 n x1 x2 x3 σ = some (r, τ)) : V G x σ [(0, .ref (zad G 0)), (1, .int x1), (2, .int x2), (3, .int x3)] 20 [] := by
  unfold s_X11_flow_20 at h
  refine V_iloadn 20 2 O dX11_flow_20 rfl rfl ?_
  refine V_iconst 21 O dX11_flow_21 ci_m1 ?_
  have J3 : V G x σ [(0, .ref (zad G 0)), (1, .int x1), (2, .int x2), (3, .int x3)] 30 [.int (if x2 = (-1 : Int32) then (2 : Int32) else (0 : Int32))] := by
    refine V_topi h (fun v5 h => ?_)
    exact V_sub [0, 1, 2, 3] rfl (b_X11_flow_30 O E n  x1 x2 x3 v5 σ  h)
  refine V_icmp_nec 22 29 O dX11_flow_22 rfl (fun c4 => ?_) (fun c4 => ?_)
  · refine V_iconst 29 O dX11_flow_29 ci_0 ?_
    exact V_top (by rw [if_neg c4]) J3
  · refine V_iconst 25 O dX11_flow_25 ci_2 ?_
    refine V_goto 26 30 O dX11_flow_26 rfl ?_
    exact V_top (by rw [if_pos c4]) J3
set_option maxRecDepth 20000 in
theorem C_X11_flow {l : Launch} {G : zG} {n : Nat} {x1 : Int32} {x2 : Int32} {x3 : Int32} {σ : Sg} {r : Int32} {τ : Sg} (h : s_X11_flow n x1 x2 x3 σ = some (r, τ)) : zM l G 5 yX11_flow (.code yX11_flow cX11_flow 5 (some (.int))) [.ref (zad G 0), .int x1, .int x2, .int x3] σ (some (.int r)) τ := by
  refine zM_of (by decide) (Nat.le_of_ble_eq_true rfl) (fun x O E => ?_)
  have O : zO G x cX11_flow RX11 5 200 5 := O
  unfold s_X11_flow at h
  show V G x σ [(0, .ref (zad G 0)), (1, .int x1), (2, .int x2), (3, .int x3)] 0 []
  refine V_iloadn 0 2 O dX11_flow_0 rfl rfl ?_
  refine V_iconst 1 O dX11_flow_1 ci_m1 ?_
  refine V_icmp_eq 2 20 O dX11_flow_2 rfl h (fun h => ?_) (fun h => ?_)
  · exact V_sub [0, 1, 2, 3] rfl (b_X11_flow_20 O E n  x1 x2 x3 σ  h)
  · refine V_aloadn 5 0 O dX11_flow_5 rfl rfl ?_
    refine V_getR 6 O k0 fl_X11_19 rf0_1 dX11_flow_6 ?_
    refine V_iloadn 9 2 O dX11_flow_9 rfl rfl ?_
    obtain ⟨r2, σ1, g, h⟩ := bd_of h
    refine V_callVi 10 [.int x2] [] O mf_X8_has lk_X11_135 k11 dX11_flow_10 rfl rfl (Nat.le_of_ble_eq_true rfl) ⟨(Nat.le_of_ble_eq_true rfl), (Nat.le_of_ble_eq_true rfl)⟩ (fun l => C_X8_has  g) ?_
    refine V_if_ne 13 20 O dX11_flow_13 rfl h (fun h => ?_) (fun h => ?_)
    · exact V_sub [0, 1, 2, 3] rfl (b_X11_flow_20 O E n  x1 x2 x3 σ1  h)
    · refine V_sipush 16 O dX11_flow_16 cs_m1001 ?_
      exact V_iret 19 O E dX11_flow_19 h
-- ==== WaterTown.line(II)I
def s_X11_line_72 (n : Nat) (σ : Sg) : Option (Int32 × Sg) := some ((-1 : Int32), σ)
def s_X11_line (n : Nat) (x1 : Int32) (x2 : Int32) (σ : Sg) : Option (Int32 × Sg) := bd (s_X11_isOutside n x1 (0 : Int32) (23 : Int32) σ) fun r2 σ1 => if r2 = 0 then (bd (s_X11_today n σ1) fun r4 σ3 => bdv (s_X6_hold n r4 38 σ3) fun σ5 => bdv (s_X9_ask n 22 38 x1 σ5) fun σ6 => if x2 < 0 then (s_X11_line_72 n σ6) else (if (σ6 39 9) ≤ x2 then (s_X11_line_72 n σ6) else (ck x2 10 (some (σ6 45 (ix x2), σ6))))) else (some ((-1002 : Int32), σ1))
set_option maxRecDepth 20000 in
theorem b_X11_line_72 {G : zG} {x : zX} {r : Int32} {τ : Sg} (O : zO G x cX11_line RX11 4 160 3) (E : zE G x (some (.int)) (some (.int r)) τ) (n : Nat) (σ : Sg) (h : s_X11_line_72 n σ = some (r, τ)) : V G x σ [] 72 [] := by
  unfold s_X11_line_72 at h
  refine V_iconst 72 O dX11_line_72 ci_m1 ?_
  exact V_iret 73 O E dX11_line_73 h
set_option maxRecDepth 20000 in
theorem C_X11_line {l : Launch} {G : zG} {n : Nat} {x1 : Int32} {x2 : Int32} {σ : Sg} {r : Int32} {τ : Sg} (h : s_X11_line n x1 x2 σ = some (r, τ)) : zM l G 4 yX11_line (.code yX11_line cX11_line 3 (some (.int))) [.ref (zad G 0), .int x1, .int x2] σ (some (.int r)) τ := by
  refine zM_of (by decide) (Nat.le_of_ble_eq_true rfl) (fun x O E => ?_)
  have O : zO G x cX11_line RX11 4 160 3 := O
  unfold s_X11_line at h
  show V G x σ [(0, .ref (zad G 0)), (1, .int x1), (2, .int x2)] 0 []
  refine V_iloadn 0 1 O dX11_line_0 rfl rfl ?_
  refine V_iconst 1 O dX11_line_1 ci_0 ?_
  refine V_bipush 2 O dX11_line_2 cb_23 ?_
  obtain ⟨r2, σ1, g, h⟩ := bd_of h
  refine V_callSi 4 [.int x1, .int (0 : Int32), .int (23 : Int32)] [] O mf_X11_isOutside lk_X11_94 dX11_line_4 rfl rfl (Nat.le_of_ble_eq_true rfl) ⟨(Nat.le_of_ble_eq_true rfl), (Nat.le_of_ble_eq_true rfl)⟩ (fun l => C_X11_isOutside  g) ?_
  refine V_if_eq 7 14 O dX11_line_7 rfl h (fun h => ?_) (fun h => ?_)
  · refine V_aloadn 14 0 O dX11_line_14 rfl rfl ?_
    refine V_getR 15 O k0 fl_X11_40 rf0_4 dX11_line_15 ?_
    refine V_aloadn 18 0 O dX11_line_18 rfl rfl ?_
    obtain ⟨r4, σ3, g, h⟩ := bd_of h
    refine V_callVi 19 [] [.ref (zad G 27)] O mf_X11_today lk_X11_247 k0 dX11_line_19 rfl rfl (Nat.le_of_ble_eq_true rfl) ⟨(Nat.le_of_ble_eq_true rfl), (Nat.le_of_ble_eq_true rfl)⟩ (fun l => C_X11_today  g) ?_
    refine V_aloadn 22 0 O dX11_line_22 rfl rfl ?_
    refine V_getR 23 O k0 fl_X11_47 rf0_5 dX11_line_23 ?_
    obtain ⟨σ5, g, h⟩ := bdv_of h
    refine V_callVv 26 [.int r4, .ref (zad G 38)] [] O mf_X6_hold lk_X11_209 k27 dX11_line_26 rfl rfl (Nat.le_of_ble_eq_true rfl) ⟨(Nat.le_of_ble_eq_true rfl), (Nat.le_of_ble_eq_true rfl)⟩ (fun l => C_X6_hold zLaw38 g) ?_
    refine V_aloadn 29 0 O dX11_line_29 rfl rfl ?_
    refine V_getR 30 O k0 fl_X11_56 rf0_6 dX11_line_30 ?_
    refine V_aloadn 33 0 O dX11_line_33 rfl rfl ?_
    refine V_getR 34 O k0 fl_X11_26 rf0_2 dX11_line_34 ?_
    refine V_aloadn 37 0 O dX11_line_37 rfl rfl ?_
    refine V_getR 38 O k0 fl_X11_47 rf0_5 dX11_line_38 ?_
    refine V_iloadn 41 1 O dX11_line_41 rfl rfl ?_
    obtain ⟨σ6, g, h⟩ := bdv_of h
    refine V_callVv 42 [.ref (zad G 22), .ref (zad G 38), .int x1] [] O mf_X9_ask lk_X11_250 k39 dX11_line_42 rfl rfl (Nat.le_of_ble_eq_true rfl) ⟨(Nat.le_of_ble_eq_true rfl), (Nat.le_of_ble_eq_true rfl)⟩ (fun l => C_X9_ask zStand22 zLaw38 g) ?_
    refine V_iloadn 45 2 O dX11_line_45 rfl rfl ?_
    refine V_if_lt 46 72 O dX11_line_46 rfl h (fun h => ?_) (fun h => ?_)
    · exact V_sub [] rfl (b_X11_line_72 O E n   σ6  h)
    · refine V_iloadn 49 2 O dX11_line_49 rfl rfl ?_
      refine V_aloadn 50 0 O dX11_line_50 rfl rfl ?_
      refine V_getR 51 O k0 fl_X11_56 rf0_6 dX11_line_51 ?_
      refine V_getI 54 O k39 fl_X11_254 dX11_line_54 ?_
      refine V_icmp_ge 57 72 O dX11_line_57 rfl h (fun h => ?_) (fun h => ?_)
      · exact V_sub [] rfl (b_X11_line_72 O E n   σ6  h)
      · refine V_aloadn 60 0 O dX11_line_60 rfl rfl ?_
        refine V_getR 61 O k0 fl_X11_56 rf0_6 dX11_line_61 ?_
        refine V_getR 64 O k39 fl_X11_257 rf39_8 dX11_line_64 ?_
        refine V_iloadn 67 2 O dX11_line_67 rfl rfl ?_
        refine V_iald 68 O k45 dX11_line_68 h (fun h => ?_)
        refine V_goto 69 73 O dX11_line_69 rfl ?_
        exact V_iret 73 O E dX11_line_73 h
  · refine V_sipush 10 O dX11_line_10 cs_m1002 ?_
    exact V_iret 13 O E dX11_line_13 h
-- ==== WaterTown.draw(III)I
def s_X11_draw (n : Nat) (x1 : Int32) (x2 : Int32) (x3 : Int32) (σ : Sg) : Option (Int32 × Sg) := bd (s_X11_isNode n x1 σ) fun r2 σ1 => if r2 = 0 then (some ((-1001 : Int32), σ1)) else (bd (s_X11_isOutside n x2 (0 : Int32) (23 : Int32) σ1) fun r4 σ3 => if r4 = 0 then (bd (s_X11_isOutside n x3 (0 : Int32) (2 : Int32) σ3) fun r6 σ5 => if r6 = 0 then (bdv (s_X11_supplyHour n x2 σ5) fun σ7 => if x3 = 0 then (bd (s_X3_send n x1 (20000 : Int32) σ7) fun r16 σ15 => some (r16, σ15)) else (lt (cp2 σ7 42 2 0 0 10) fun σ8 => bdv (s_X9_begin n x2 (0 : Int32) (0 : Int32) σ8) fun σ9 => bd (s_X3_send n x1 (20000 : Int32) σ9) fun r11 σ10 => if x3 = (1 : Int32) then (some (r11, σ10)) else (bdv (s_X9_serve n σ10) fun σ12 => bd (s_X9_gotLessThan n σ12) fun r14 σ13 => some (r14, σ13)))) else (some ((-1002 : Int32), σ5))) else (some ((-1002 : Int32), σ3)))
set_option maxRecDepth 20000 in
theorem C_X11_draw {l : Launch} {G : zG} {n : Nat} {x1 : Int32} {x2 : Int32} {x3 : Int32} {σ : Sg} {r : Int32} {τ : Sg} (h : s_X11_draw n x1 x2 x3 σ = some (r, τ)) : zM l G 5 yX11_draw (.code yX11_draw cX11_draw 5 (some (.int))) [.ref (zad G 0), .int x1, .int x2, .int x3] σ (some (.int r)) τ := by
  refine zM_of (by decide) (Nat.le_of_ble_eq_true rfl) (fun x O E => ?_)
  have O : zO G x cX11_draw RX11 5 200 5 := O
  unfold s_X11_draw at h
  show V G x σ [(0, .ref (zad G 0)), (1, .int x1), (2, .int x2), (3, .int x3)] 0 []
  refine V_iloadn 0 1 O dX11_draw_0 rfl rfl ?_
  obtain ⟨r2, σ1, g, h⟩ := bd_of h
  refine V_callSi 1 [.int x1] [] O mf_X11_isNode lk_X11_90 dX11_draw_1 rfl rfl (Nat.le_of_ble_eq_true rfl) ⟨(Nat.le_of_ble_eq_true rfl), (Nat.le_of_ble_eq_true rfl)⟩ (fun l => C_X11_isNode  g) ?_
  refine V_if_ne 4 11 O dX11_draw_4 rfl h (fun h => ?_) (fun h => ?_)
  · refine V_iloadn 11 2 O dX11_draw_11 rfl rfl ?_
    refine V_iconst 12 O dX11_draw_12 ci_0 ?_
    refine V_bipush 13 O dX11_draw_13 cb_23 ?_
    obtain ⟨r4, σ3, g, h⟩ := bd_of h
    refine V_callSi 15 [.int x2, .int (0 : Int32), .int (23 : Int32)] [] O mf_X11_isOutside lk_X11_94 dX11_draw_15 rfl rfl (Nat.le_of_ble_eq_true rfl) ⟨(Nat.le_of_ble_eq_true rfl), (Nat.le_of_ble_eq_true rfl)⟩ (fun l => C_X11_isOutside  g) ?_
    refine V_if_ne 18 30 O dX11_draw_18 rfl h (fun h => ?_) (fun h => ?_)
    · refine V_sipush 30 O dX11_draw_30 cs_m1002 ?_
      exact V_iret 33 O E dX11_draw_33 h
    · refine V_iloadn 21 3 O dX11_draw_21 rfl rfl ?_
      refine V_iconst 22 O dX11_draw_22 ci_0 ?_
      refine V_iconst 23 O dX11_draw_23 ci_2 ?_
      obtain ⟨r6, σ5, g, h⟩ := bd_of h
      refine V_callSi 24 [.int x3, .int (0 : Int32), .int (2 : Int32)] [] O mf_X11_isOutside lk_X11_94 dX11_draw_24 rfl rfl (Nat.le_of_ble_eq_true rfl) ⟨(Nat.le_of_ble_eq_true rfl), (Nat.le_of_ble_eq_true rfl)⟩ (fun l => C_X11_isOutside  g) ?_
      refine V_if_eq 27 34 O dX11_draw_27 rfl h (fun h => ?_) (fun h => ?_)
      · refine V_aloadn 34 0 O dX11_draw_34 rfl rfl ?_
        refine V_iloadn 35 2 O dX11_draw_35 rfl rfl ?_
        obtain ⟨σ7, g, h⟩ := bdv_of h
        refine V_callVv 36 [.int x2] [] O mf_X11_supplyHour lk_X11_235 k0 dX11_draw_36 rfl rfl (Nat.le_of_ble_eq_true rfl) ⟨(Nat.le_of_ble_eq_true rfl), (Nat.le_of_ble_eq_true rfl)⟩ (fun l => C_X11_supplyHour  g) ?_
        refine V_iloadn 39 3 O dX11_draw_39 rfl rfl ?_
        refine V_if_ne 40 58 O dX11_draw_40 rfl h (fun h => ?_) (fun h => ?_)
        · refine V_aloadn 58 0 O dX11_draw_58 rfl rfl ?_
          refine V_getR 59 O k0 fl_X11_56 rf0_6 dX11_draw_59 ?_
          refine V_getR 62 O k39 fl_X11_241 rf39_5 dX11_draw_62 ?_
          refine V_iconst 65 O dX11_draw_65 ci_0 ?_
          refine V_aloadn 66 0 O dX11_draw_66 rfl rfl ?_
          refine V_getR 67 O k0 fl_X11_87 rf0_11 dX11_draw_67 ?_
          refine V_iconst 70 O dX11_draw_70 ci_0 ?_
          refine V_bipush 71 O dX11_draw_71 cb_10 ?_
          refine V_copy 73 O lk_X11_270 mm_cpy.1 mm_cpy.2.1 mm_cpy.2.2 k42 k2 (Nat.le_of_ble_eq_true rfl) (Nat.le_of_ble_eq_true rfl) dX11_draw_73 h (fun σ8 h => ?_)
          refine V_aloadn 76 0 O dX11_draw_76 rfl rfl ?_
          refine V_getR 77 O k0 fl_X11_56 rf0_6 dX11_draw_77 ?_
          refine V_iloadn 80 2 O dX11_draw_80 rfl rfl ?_
          refine V_iconst 81 O dX11_draw_81 ci_0 ?_
          refine V_iconst 82 O dX11_draw_82 ci_0 ?_
          obtain ⟨σ9, g, h⟩ := bdv_of h
          refine V_callVv 83 [.int x2, .int (0 : Int32), .int (0 : Int32)] [] O mf_X9_begin lk_X11_276 k39 dX11_draw_83 rfl rfl (Nat.le_of_ble_eq_true rfl) ⟨(Nat.le_of_ble_eq_true rfl), (Nat.le_of_ble_eq_true rfl)⟩ (fun l => C_X9_begin  g) ?_
          refine V_aloadn 86 0 O dX11_draw_86 rfl rfl ?_
          refine V_getR 87 O k0 fl_X11_56 rf0_6 dX11_draw_87 ?_
          refine V_getR 90 O k39 fl_X11_260 rf39_2 dX11_draw_90 ?_
          refine V_iloadn 93 1 O dX11_draw_93 rfl rfl ?_
          refine V_sipush 94 O dX11_draw_94 cs_20000 ?_
          obtain ⟨r11, σ10, g, h⟩ := bd_of h
          refine V_callVi 97 [.int x1, .int (20000 : Int32)] [] O mf_X3_send lk_X11_264 k46 dX11_draw_97 rfl rfl (Nat.le_of_ble_eq_true rfl) ⟨(Nat.le_of_ble_eq_true rfl), (Nat.le_of_ble_eq_true rfl)⟩ (fun l => C_X3_send  g) ?_
          refine V_istore 100 [1, 2, 3, 4, 0] [(0, .ref (zad G 0)), (1, .int x1), (2, .int x2), (3, .int x3), (4, .int r11)] O dX11_draw_100 (Nat.le_of_ble_eq_true rfl) rfl ?_
          refine V_iloadn 102 3 O dX11_draw_102 rfl rfl ?_
          refine V_iconst 103 O dX11_draw_103 ci_1 ?_
          refine V_icmp_ne 104 110 O dX11_draw_104 rfl h (fun h => ?_) (fun h => ?_)
          · refine V_aloadn 110 0 O dX11_draw_110 rfl rfl ?_
            refine V_getR 111 O k0 fl_X11_56 rf0_6 dX11_draw_111 ?_
            obtain ⟨σ12, g, h⟩ := bdv_of h
            refine V_callVv 114 [] [] O mf_X9_serve lk_X11_280 k39 dX11_draw_114 rfl rfl (Nat.le_of_ble_eq_true rfl) ⟨(Nat.le_of_ble_eq_true rfl), (Nat.le_of_ble_eq_true rfl)⟩ (fun l => C_X9_serve  g) ?_
            refine V_aloadn 117 0 O dX11_draw_117 rfl rfl ?_
            refine V_getR 118 O k0 fl_X11_56 rf0_6 dX11_draw_118 ?_
            refine V_aloadn 121 0 O dX11_draw_121 rfl rfl ?_
            refine V_getR 122 O k0 fl_X11_87 rf0_11 dX11_draw_122 ?_
            obtain ⟨r14, σ13, g, h⟩ := bd_of h
            refine V_callVi 125 [.ref (zad G 2)] [] O mf_X9_gotLessThan lk_X11_283 k39 dX11_draw_125 rfl rfl (Nat.le_of_ble_eq_true rfl) ⟨(Nat.le_of_ble_eq_true rfl), (Nat.le_of_ble_eq_true rfl)⟩ (fun l => C_X9_gotLessThan  g) ?_
            exact V_iret 128 O E dX11_draw_128 h
          · refine V_iload 107 4 O dX11_draw_107 rfl ?_
            exact V_iret 109 O E dX11_draw_109 h
        · refine V_aloadn 43 0 O dX11_draw_43 rfl rfl ?_
          refine V_getR 44 O k0 fl_X11_56 rf0_6 dX11_draw_44 ?_
          refine V_getR 47 O k39 fl_X11_260 rf39_2 dX11_draw_47 ?_
          refine V_iloadn 50 1 O dX11_draw_50 rfl rfl ?_
          refine V_sipush 51 O dX11_draw_51 cs_20000 ?_
          obtain ⟨r16, σ15, g, h⟩ := bd_of h
          refine V_callVi 54 [.int x1, .int (20000 : Int32)] [] O mf_X3_send lk_X11_264 k46 dX11_draw_54 rfl rfl (Nat.le_of_ble_eq_true rfl) ⟨(Nat.le_of_ble_eq_true rfl), (Nat.le_of_ble_eq_true rfl)⟩ (fun l => C_X3_send  g) ?_
          exact V_iret 57 O E dX11_draw_57 h
      · refine V_sipush 30 O dX11_draw_30 cs_m1002 ?_
        exact V_iret 33 O E dX11_draw_33 h
  · refine V_sipush 7 O dX11_draw_7 cs_m1001 ?_
    exact V_iret 10 O E dX11_draw_10 h
-- ==== WaterTown.order(II)I
def s_X11_order_139 (n : Nat) (σ : Sg) : Option (Int32 × Sg) := some ((-1 : Int32), σ)
def s_X11_order_99 (n : Nat) (x2 : Int32) (σ : Sg) : Option (Int32 × Sg) := if x2 = (-1 : Int32) then (some (σ 51 13, σ)) else (if x2 < 0 then (s_X11_order_139 n σ) else (if (σ 51 12) ≤ x2 then (s_X11_order_139 n σ) else (ck x2 6 (some (σ 55 (ix x2), σ)))))
def s_X11_order (n : Nat) (x1 : Int32) (x2 : Int32) (σ : Sg) : Option (Int32 × Sg) := bd (s_X8_hasAll n x1 σ) fun r2 σ1 => if r2 = 0 then (some ((-1001 : Int32), σ1)) else (bd (s_J6_bitCount_0f7a4 n x1 σ1) fun r4 σ3 => if r4 ≤ (6 : Int32) then (bd (s_X7_hasAlways n 22 x1 (σ3 11 0) σ3) fun r6 σ5 => if r6 = 0 then (bd (s_X10_isPlanned n x1 (σ5 0 15) σ5) fun r8 σ7 => if r8 = 0 then (bd (s_X11_today n σ7) fun r10 σ9 => bdv (s_X10_choose n x1 (σ7 0 15) r10 σ9) fun σ11 => bdv (s_X10_weigh n 22 σ11) fun σ12 => bdv (s_X10_follow n σ12) fun σ13 => s_X11_order_99 n x2 σ13) else (s_X11_order_99 n x2 σ7)) else (some ((-1003 : Int32), σ5))) else (some ((-1002 : Int32), σ3)))
set_option maxRecDepth 20000 in
theorem b_X11_order_139 {G : zG} {x : zX} {r : Int32} {τ : Sg} (O : zO G x cX11_order RX11 6 240 3) (E : zE G x (some (.int)) (some (.int r)) τ) (n : Nat) (σ : Sg) (h : s_X11_order_139 n σ = some (r, τ)) : V G x σ [] 139 [] := by
  unfold s_X11_order_139 at h
  refine V_iconst 139 O dX11_order_139 ci_m1 ?_
  exact V_iret 140 O E dX11_order_140 h
set_option maxRecDepth 20000 in
theorem b_X11_order_99 {G : zG} {x : zX} {r : Int32} {τ : Sg} (O : zO G x cX11_order RX11 6 240 3) (E : zE G x (some (.int)) (some (.int r)) τ) (n : Nat) (x2 : Int32) (σ : Sg) (h : s_X11_order_99 n x2 σ = some (r, τ)) : V G x σ [(0, .ref (zad G 0)), (2, .int x2)] 99 [] := by
  unfold s_X11_order_99 at h
  refine V_iloadn 99 1 O dX11_order_99 rfl rfl ?_
  refine V_iconst 100 O dX11_order_100 ci_m1 ?_
  refine V_icmp_ne 101 112 O dX11_order_101 rfl h (fun h => ?_) (fun h => ?_)
  · refine V_iloadn 112 1 O dX11_order_112 rfl rfl ?_
    refine V_if_lt 113 139 O dX11_order_113 rfl h (fun h => ?_) (fun h => ?_)
    · exact V_sub [] rfl (b_X11_order_139 O E n   σ  h)
    · refine V_iloadn 116 1 O dX11_order_116 rfl rfl ?_
      refine V_aloadn 117 0 O dX11_order_117 rfl rfl ?_
      refine V_getR 118 O k0 fl_X11_65 rf0_7 dX11_order_118 ?_
      refine V_getI 121 O k51 fl_X11_310 dX11_order_121 ?_
      refine V_icmp_ge 124 139 O dX11_order_124 rfl h (fun h => ?_) (fun h => ?_)
      · exact V_sub [] rfl (b_X11_order_139 O E n   σ  h)
      · refine V_aloadn 127 0 O dX11_order_127 rfl rfl ?_
        refine V_getR 128 O k0 fl_X11_65 rf0_7 dX11_order_128 ?_
        refine V_getR 131 O k51 fl_X11_313 rf51_11 dX11_order_131 ?_
        refine V_iloadn 134 1 O dX11_order_134 rfl rfl ?_
        refine V_iald 135 O k55 dX11_order_135 h (fun h => ?_)
        refine V_goto 136 140 O dX11_order_136 rfl ?_
        exact V_iret 140 O E dX11_order_140 h
  · refine V_aloadn 104 0 O dX11_order_104 rfl rfl ?_
    refine V_getR 105 O k0 fl_X11_65 rf0_7 dX11_order_105 ?_
    refine V_getI 108 O k51 fl_X11_307 dX11_order_108 ?_
    exact V_iret 111 O E dX11_order_111 h
set_option maxRecDepth 20000 in
theorem C_X11_order {l : Launch} {G : zG} {n : Nat} {x1 : Int32} {x2 : Int32} {σ : Sg} {r : Int32} {τ : Sg} (h : s_X11_order n x1 x2 σ = some (r, τ)) : zM l G 6 yX11_order (.code yX11_order cX11_order 3 (some (.int))) [.ref (zad G 0), .int x1, .int x2] σ (some (.int r)) τ := by
  refine zM_of (by decide) (Nat.le_of_ble_eq_true rfl) (fun x O E => ?_)
  have O : zO G x cX11_order RX11 6 240 3 := O
  unfold s_X11_order at h
  show V G x σ [(0, .ref (zad G 0)), (1, .int x1), (2, .int x2)] 0 []
  refine V_aloadn 0 0 O dX11_order_0 rfl rfl ?_
  refine V_getR 1 O k0 fl_X11_19 rf0_1 dX11_order_1 ?_
  refine V_iloadn 4 1 O dX11_order_4 rfl rfl ?_
  obtain ⟨r2, σ1, g, h⟩ := bd_of h
  refine V_callVi 5 [.int x1] [] O mf_X8_hasAll lk_X11_287 k11 dX11_order_5 rfl rfl (Nat.le_of_ble_eq_true rfl) ⟨(Nat.le_of_ble_eq_true rfl), (Nat.le_of_ble_eq_true rfl)⟩ (fun l => C_X8_hasAll  g) ?_
  refine V_if_ne 8 15 O dX11_order_8 rfl h (fun h => ?_) (fun h => ?_)
  · refine V_iloadn 15 1 O dX11_order_15 rfl rfl ?_
    obtain ⟨r4, σ3, g, h⟩ := bd_of h
    refine V_callSi 16 [.int x1] [] O mf_J6_bitCount_0f7a4 lk_X11_147 dX11_order_16 rfl rfl (Nat.le_of_ble_eq_true rfl) ⟨(Nat.le_of_ble_eq_true rfl), (Nat.le_of_ble_eq_true rfl)⟩ (fun l => C_J6_bitCount_0f7a4  g) ?_
    refine V_bipush 19 O dX11_order_19 cb_6 ?_
    refine V_icmp_le 21 28 O dX11_order_21 rfl h (fun h => ?_) (fun h => ?_)
    · refine V_aloadn 28 0 O dX11_order_28 rfl rfl ?_
      refine V_getR 29 O k0 fl_X11_26 rf0_2 dX11_order_29 ?_
      refine V_iloadn 32 1 O dX11_order_32 rfl rfl ?_
      refine V_aloadn 33 0 O dX11_order_33 rfl rfl ?_
      refine V_getR 34 O k0 fl_X11_19 rf0_1 dX11_order_34 ?_
      refine V_getI 37 O k11 fl_X11_127 dX11_order_37 ?_
      obtain ⟨r6, σ5, g, h⟩ := bd_of h
      refine V_callVi 40 [.int x1, .int (σ3 11 0)] [] O mf_X7_hasAlways lk_X11_290 k22 dX11_order_40 rfl rfl (Nat.le_of_ble_eq_true rfl) ⟨(Nat.le_of_ble_eq_true rfl), (Nat.le_of_ble_eq_true rfl)⟩ (fun l => C_X7_hasAlways zStand22 g) ?_
      refine V_if_eq 43 50 O dX11_order_43 rfl h (fun h => ?_) (fun h => ?_)
      · refine V_aloadn 50 0 O dX11_order_50 rfl rfl ?_
        refine V_getR 51 O k0 fl_X11_65 rf0_7 dX11_order_51 ?_
        refine V_iloadn 54 1 O dX11_order_54 rfl rfl ?_
        refine V_aloadn 55 0 O dX11_order_55 rfl rfl ?_
        refine V_getI 56 O k0 fl_X11_102 dX11_order_56 ?_
        obtain ⟨r8, σ7, g, h⟩ := bd_of h
        refine V_callVi 59 [.int x1, .int (σ5 0 15)] [] O mf_X10_isPlanned lk_X11_294 k51 dX11_order_59 rfl rfl (Nat.le_of_ble_eq_true rfl) ⟨(Nat.le_of_ble_eq_true rfl), (Nat.le_of_ble_eq_true rfl)⟩ (fun l => C_X10_isPlanned  g) ?_
        refine V_if_ne 62 99 O dX11_order_62 rfl h (fun h => ?_) (fun h => ?_)
        · exact V_sub [0, 2] rfl (b_X11_order_99 O E n  x2 σ7  h)
        · refine V_aloadn 65 0 O dX11_order_65 rfl rfl ?_
          refine V_getR 66 O k0 fl_X11_65 rf0_7 dX11_order_66 ?_
          refine V_iloadn 69 1 O dX11_order_69 rfl rfl ?_
          refine V_aloadn 70 0 O dX11_order_70 rfl rfl ?_
          refine V_getI 71 O k0 fl_X11_102 dX11_order_71 ?_
          refine V_aloadn 74 0 O dX11_order_74 rfl rfl ?_
          obtain ⟨r10, σ9, g, h⟩ := bd_of h
          refine V_callVi 75 [] [.int (σ7 0 15), .int x1, .ref (zad G 51)] O mf_X11_today lk_X11_247 k0 dX11_order_75 rfl rfl (Nat.le_of_ble_eq_true rfl) ⟨(Nat.le_of_ble_eq_true rfl), (Nat.le_of_ble_eq_true rfl)⟩ (fun l => C_X11_today  g) ?_
          obtain ⟨σ11, g, h⟩ := bdv_of h
          refine V_callVv 78 [.int x1, .int (σ7 0 15), .int r10] [] O mf_X10_choose lk_X11_297 k51 dX11_order_78 rfl rfl (Nat.le_of_ble_eq_true rfl) ⟨(Nat.le_of_ble_eq_true rfl), (Nat.le_of_ble_eq_true rfl)⟩ (fun l => C_X10_choose  g) ?_
          refine V_aloadn 81 0 O dX11_order_81 rfl rfl ?_
          refine V_getR 82 O k0 fl_X11_65 rf0_7 dX11_order_82 ?_
          refine V_aloadn 85 0 O dX11_order_85 rfl rfl ?_
          refine V_getR 86 O k0 fl_X11_26 rf0_2 dX11_order_86 ?_
          obtain ⟨σ12, g, h⟩ := bdv_of h
          refine V_callVv 89 [.ref (zad G 22)] [] O mf_X10_weigh lk_X11_300 k51 dX11_order_89 rfl rfl (Nat.le_of_ble_eq_true rfl) ⟨(Nat.le_of_ble_eq_true rfl), (Nat.le_of_ble_eq_true rfl)⟩ (fun l => C_X10_weigh zStand22 g) ?_
          refine V_aloadn 92 0 O dX11_order_92 rfl rfl ?_
          refine V_getR 93 O k0 fl_X11_65 rf0_7 dX11_order_93 ?_
          obtain ⟨σ13, g, h⟩ := bdv_of h
          refine V_callVv 96 [] [] O mf_X10_follow lk_X11_304 k51 dX11_order_96 rfl rfl (Nat.le_of_ble_eq_true rfl) ⟨(Nat.le_of_ble_eq_true rfl), (Nat.le_of_ble_eq_true rfl)⟩ (fun l => C_X10_follow  g) ?_
          exact V_sub [0, 2] rfl (b_X11_order_99 O E n  x2 σ13  h)
      · refine V_sipush 46 O dX11_order_46 cs_m1003 ?_
        exact V_iret 49 O E dX11_order_49 h
    · refine V_sipush 24 O dX11_order_24 cs_m1002 ?_
      exact V_iret 27 O E dX11_order_27 h
  · refine V_sipush 11 O dX11_order_11 cs_m1001 ?_
    exact V_iret 14 O E dX11_order_14 h
-- ==== WaterTown.cuts(II)I
def s_X11_cuts_55 (n : Nat) (y0 : Int32) (y1 : Int32) (σ : Sg) : Option (Int32 × Sg) := bd (s_X4_joined n y1 y0 σ) fun r9 σ8 => bd (s_X8_apart n r9 σ8) fun r11 σ10 => some (r11, σ10)
def s_X11_cuts (n : Nat) (x1 : Int32) (x2 : Int32) (σ : Sg) : Option (Int32 × Sg) := bd (s_X4_hasAll n x1 σ) fun r2 σ1 => if r2 = 0 then (some ((-1001 : Int32), σ1)) else (bd (s_X11_isOutside n x2 (0 : Int32) (1 : Int32) σ1) fun r4 σ3 => if r4 = 0 then (lt (if x2 = (1 : Int32) then (1 : Int32) else (0 : Int32)) fun v7 => s_X11_cuts_55 n v7 ((σ3 3 1) ||| x1) σ3) else (some ((-1002 : Int32), σ3)))
set_option maxRecDepth 20000 in
theorem b_X11_cuts_55 {G : zG} {x : zX} {r : Int32} {τ : Sg} (O : zO G x cX11_cuts RX11 3 120 3) (E : zE G x (some (.int)) (some (.int r)) τ) (n : Nat) (y0 : Int32) (y1 : Int32) (σ : Sg) (h : s_X11_cuts_55 n y0 y1 σ = some (r, τ)) : V G x σ [] 55 [.int y0, .int y1, .ref (zad G 3), .ref (zad G 11)] := by
  unfold s_X11_cuts_55 at h
  obtain ⟨r9, σ8, g, h⟩ := bd_of h
  refine V_callVi 55 [.int y1, .int y0] [.ref (zad G 11)] O mf_X4_joined lk_X11_317 k3 dX11_cuts_55 rfl rfl (Nat.le_of_ble_eq_true rfl) ⟨(Nat.le_of_ble_eq_true rfl), (Nat.le_of_ble_eq_true rfl)⟩ (fun l => C_X4_joined  g) ?_
  obtain ⟨r11, σ10, g, h⟩ := bd_of h
  refine V_callVi 58 [.int r9] [] O mf_X8_apart lk_X11_321 k11 dX11_cuts_58 rfl rfl (Nat.le_of_ble_eq_true rfl) ⟨(Nat.le_of_ble_eq_true rfl), (Nat.le_of_ble_eq_true rfl)⟩ (fun l => C_X8_apart  g) ?_
  exact V_iret 61 O E dX11_cuts_61 h
set_option maxRecDepth 20000 in
theorem C_X11_cuts {l : Launch} {G : zG} {n : Nat} {x1 : Int32} {x2 : Int32} {σ : Sg} {r : Int32} {τ : Sg} (h : s_X11_cuts n x1 x2 σ = some (r, τ)) : zM l G 3 yX11_cuts (.code yX11_cuts cX11_cuts 3 (some (.int))) [.ref (zad G 0), .int x1, .int x2] σ (some (.int r)) τ := by
  refine zM_of (by decide) (Nat.le_of_ble_eq_true rfl) (fun x O E => ?_)
  have O : zO G x cX11_cuts RX11 3 120 3 := O
  unfold s_X11_cuts at h
  show V G x σ [(0, .ref (zad G 0)), (1, .int x1), (2, .int x2)] 0 []
  refine V_aloadn 0 0 O dX11_cuts_0 rfl rfl ?_
  refine V_getR 1 O k0 fl_X11_10 rf0_0 dX11_cuts_1 ?_
  refine V_iloadn 4 1 O dX11_cuts_4 rfl rfl ?_
  obtain ⟨r2, σ1, g, h⟩ := bd_of h
  refine V_callVi 5 [.int x1] [] O mf_X4_hasAll lk_X11_316 k3 dX11_cuts_5 rfl rfl (Nat.le_of_ble_eq_true rfl) ⟨(Nat.le_of_ble_eq_true rfl), (Nat.le_of_ble_eq_true rfl)⟩ (fun l => C_X4_hasAll  g) ?_
  refine V_if_ne 8 15 O dX11_cuts_8 rfl h (fun h => ?_) (fun h => ?_)
  · refine V_iloadn 15 2 O dX11_cuts_15 rfl rfl ?_
    refine V_iconst 16 O dX11_cuts_16 ci_0 ?_
    refine V_iconst 17 O dX11_cuts_17 ci_1 ?_
    obtain ⟨r4, σ3, g, h⟩ := bd_of h
    refine V_callSi 18 [.int x2, .int (0 : Int32), .int (1 : Int32)] [] O mf_X11_isOutside lk_X11_94 dX11_cuts_18 rfl rfl (Nat.le_of_ble_eq_true rfl) ⟨(Nat.le_of_ble_eq_true rfl), (Nat.le_of_ble_eq_true rfl)⟩ (fun l => C_X11_isOutside  g) ?_
    refine V_if_eq 21 28 O dX11_cuts_21 rfl h (fun h => ?_) (fun h => ?_)
    · refine V_aloadn 28 0 O dX11_cuts_28 rfl rfl ?_
      refine V_getR 29 O k0 fl_X11_19 rf0_1 dX11_cuts_29 ?_
      refine V_aloadn 32 0 O dX11_cuts_32 rfl rfl ?_
      refine V_getR 33 O k0 fl_X11_10 rf0_0 dX11_cuts_33 ?_
      refine V_aloadn 36 0 O dX11_cuts_36 rfl rfl ?_
      refine V_getR 37 O k0 fl_X11_10 rf0_0 dX11_cuts_37 ?_
      refine V_getI 40 O k3 fl_X11_112 dX11_cuts_40 ?_
      refine V_iloadn 43 1 O dX11_cuts_43 rfl rfl ?_
      refine V_ior 44 O dX11_cuts_44 ?_
      refine V_iloadn 45 2 O dX11_cuts_45 rfl rfl ?_
      refine V_iconst 46 O dX11_cuts_46 ci_1 ?_
      have J5 : V G x σ3 [(0, .ref (zad G 0)), (1, .int x1), (2, .int x2)] 55 [.int (if x2 = (1 : Int32) then (1 : Int32) else (0 : Int32)), .int ((σ3 3 1) ||| x1), .ref (zad G 3), .ref (zad G 11)] := by
        refine V_topi h (fun v7 h => ?_)
        exact V_sub [] rfl (b_X11_cuts_55 O E n  v7 ((σ3 3 1) ||| x1) σ3  h)
      refine V_icmp_nec 47 54 O dX11_cuts_47 rfl (fun c6 => ?_) (fun c6 => ?_)
      · refine V_iconst 54 O dX11_cuts_54 ci_0 ?_
        exact V_top (by rw [if_neg c6]) J5
      · refine V_iconst 50 O dX11_cuts_50 ci_1 ?_
        refine V_goto 51 55 O dX11_cuts_51 rfl ?_
        exact V_top (by rw [if_pos c6]) J5
    · refine V_sipush 24 O dX11_cuts_24 cs_m1002 ?_
      exact V_iret 27 O E dX11_cuts_27 h
  · refine V_sipush 11 O dX11_cuts_11 cs_m1001 ?_
    exact V_iret 14 O E dX11_cuts_14 h
-- ==== WaterTown.wrong()I
def s_X11_wrong_4b (n : Nat) (rc4 : Int32 → Int32 → Sg → Option (Int32 × Sg)) (x1 : Int32) (x2 : Int32) (σ : Sg) : Option (Int32 × Sg) := if (σ 3 0) ≤ x2 then (some (x1, σ)) else (bd (s_X4_joined n (sl (1 : Int32) x2) (0 : Int32) σ) fun r2 σ1 => bd (s_X8_apart n r2 σ1) fun r4 σ3 => bd (s_X4_joined n (sl (1 : Int32) x2) (1 : Int32) σ3) fun r6 σ5 => bd (s_X8_apart n r6 σ5) fun r8 σ7 => if r4 = r8 then (rc4 x1 (x2 + (1 : Int32)) σ7) else (lt (x1 ||| (sl (1 : Int32) x2)) fun v9 => rc4 v9 (x2 + (1 : Int32)) σ7))
def s_X11_wrong_4 (n : Nat) : Nat → Int32 → Int32 → Sg → Option (Int32 × Sg)
  | 0 => fun _ _ _ => none
  | k + 1 => s_X11_wrong_4b n (s_X11_wrong_4 n k)
def s_X11_wrong (n : Nat) (σ : Sg) : Option (Int32 × Sg) := s_X11_wrong_4 n n (0 : Int32) (0 : Int32) σ
set_option maxRecDepth 20000 in
theorem b_X11_wrong_4 {G : zG} {x : zX} {r : Int32} {τ : Sg} (O : zO G x cX11_wrong RX11 3 120 4) (E : zE G x (some (.int)) (some (.int r)) τ) (n : Nat) (rc4 : Int32 → Int32 → Sg → Option (Int32 × Sg)) (H4 : ∀ (x1 : Int32) (x2 : Int32) (σ : Sg), rc4 x1 x2 σ = some (r, τ) → V G x σ [(0, .ref (zad G 0)), (1, .int x1), (2, .int x2)] 4 []) (x1 : Int32) (x2 : Int32) (σ : Sg) (h : s_X11_wrong_4b n rc4 x1 x2 σ = some (r, τ)) : V G x σ [(0, .ref (zad G 0)), (1, .int x1), (2, .int x2)] 4 [] := by
  unfold s_X11_wrong_4b at h
  refine V_iloadn 4 2 O dX11_wrong_4 rfl rfl ?_
  refine V_aloadn 5 0 O dX11_wrong_5 rfl rfl ?_
  refine V_getR 6 O k0 fl_X11_10 rf0_0 dX11_wrong_6 ?_
  refine V_getI 9 O k3 fl_X11_98 dX11_wrong_9 ?_
  refine V_icmp_ge 12 68 O dX11_wrong_12 rfl h (fun h => ?_) (fun h => ?_)
  · refine V_iloadn 68 1 O dX11_wrong_68 rfl rfl ?_
    exact V_iret 69 O E dX11_wrong_69 h
  · refine V_aloadn 15 0 O dX11_wrong_15 rfl rfl ?_
    refine V_getR 16 O k0 fl_X11_19 rf0_1 dX11_wrong_16 ?_
    refine V_aloadn 19 0 O dX11_wrong_19 rfl rfl ?_
    refine V_getR 20 O k0 fl_X11_10 rf0_0 dX11_wrong_20 ?_
    refine V_iconst 23 O dX11_wrong_23 ci_1 ?_
    refine V_iloadn 24 2 O dX11_wrong_24 rfl rfl ?_
    refine V_ishl 25 O dX11_wrong_25 ?_
    refine V_iconst 26 O dX11_wrong_26 ci_0 ?_
    obtain ⟨r2, σ1, g, h⟩ := bd_of h
    refine V_callVi 27 [.int (sl (1 : Int32) x2), .int (0 : Int32)] [.ref (zad G 11)] O mf_X4_joined lk_X11_317 k3 dX11_wrong_27 rfl rfl (Nat.le_of_ble_eq_true rfl) ⟨(Nat.le_of_ble_eq_true rfl), (Nat.le_of_ble_eq_true rfl)⟩ (fun l => C_X4_joined  g) ?_
    obtain ⟨r4, σ3, g, h⟩ := bd_of h
    refine V_callVi 30 [.int r2] [] O mf_X8_apart lk_X11_321 k11 dX11_wrong_30 rfl rfl (Nat.le_of_ble_eq_true rfl) ⟨(Nat.le_of_ble_eq_true rfl), (Nat.le_of_ble_eq_true rfl)⟩ (fun l => C_X8_apart  g) ?_
    refine V_istoren 33 [1, 2, 3, 0] [(0, .ref (zad G 0)), (1, .int x1), (2, .int x2), (3, .int r4)] O dX11_wrong_33 rfl (Nat.le_of_ble_eq_true rfl) rfl ?_
    refine V_iloadn 34 3 O dX11_wrong_34 rfl rfl ?_
    refine V_aloadn 35 0 O dX11_wrong_35 rfl rfl ?_
    refine V_getR 36 O k0 fl_X11_19 rf0_1 dX11_wrong_36 ?_
    refine V_aloadn 39 0 O dX11_wrong_39 rfl rfl ?_
    refine V_getR 40 O k0 fl_X11_10 rf0_0 dX11_wrong_40 ?_
    refine V_iconst 43 O dX11_wrong_43 ci_1 ?_
    refine V_iloadn 44 2 O dX11_wrong_44 rfl rfl ?_
    refine V_ishl 45 O dX11_wrong_45 ?_
    refine V_iconst 46 O dX11_wrong_46 ci_1 ?_
    obtain ⟨r6, σ5, g, h⟩ := bd_of h
    refine V_callVi 47 [.int (sl (1 : Int32) x2), .int (1 : Int32)] [.ref (zad G 11), .int r4] O mf_X4_joined lk_X11_317 k3 dX11_wrong_47 rfl rfl (Nat.le_of_ble_eq_true rfl) ⟨(Nat.le_of_ble_eq_true rfl), (Nat.le_of_ble_eq_true rfl)⟩ (fun l => C_X4_joined  g) ?_
    obtain ⟨r8, σ7, g, h⟩ := bd_of h
    refine V_callVi 50 [.int r6] [.int r4] O mf_X8_apart lk_X11_321 k11 dX11_wrong_50 rfl rfl (Nat.le_of_ble_eq_true rfl) ⟨(Nat.le_of_ble_eq_true rfl), (Nat.le_of_ble_eq_true rfl)⟩ (fun l => C_X8_apart  g) ?_
    refine V_icmp_eq 53 62 O dX11_wrong_53 rfl h (fun h => ?_) (fun h => ?_)
    · refine V_iinc 62 2 [1, 2, 0, 3] [(0, .ref (zad G 0)), (1, .int x1), (2, .int (x2 + (1 : Int32))), (3, .int r4)] O dX11_wrong_62 rfl ci_1 (Nat.le_of_ble_eq_true rfl) rfl ?_
      refine V_goto 65 4 O dX11_wrong_65 rfl ?_
      exact V_sub [0, 1, 2] rfl (H4 x1 (x2 + (1 : Int32)) σ7  h)
    · refine V_iloadn 56 1 O dX11_wrong_56 rfl rfl ?_
      refine V_iconst 57 O dX11_wrong_57 ci_1 ?_
      refine V_iloadn 58 2 O dX11_wrong_58 rfl rfl ?_
      refine V_ishl 59 O dX11_wrong_59 ?_
      refine V_ior 60 O dX11_wrong_60 ?_
      refine V_topi h (fun v9 h => ?_)
      refine V_istoren 61 [1, 0, 2, 3] [(0, .ref (zad G 0)), (1, .int v9), (2, .int x2), (3, .int r4)] O dX11_wrong_61 rfl (Nat.le_of_ble_eq_true rfl) rfl ?_
      refine V_iinc 62 2 [1, 2, 0, 3] [(0, .ref (zad G 0)), (1, .int v9), (2, .int (x2 + (1 : Int32))), (3, .int r4)] O dX11_wrong_62 rfl ci_1 (Nat.le_of_ble_eq_true rfl) rfl ?_
      refine V_goto 65 4 O dX11_wrong_65 rfl ?_
      exact V_sub [0, 1, 2] rfl (H4 v9 (x2 + (1 : Int32)) σ7  h)
theorem bl_X11_wrong_4 {G : zG} {x : zX} {r : Int32} {τ : Sg} (O : zO G x cX11_wrong RX11 3 120 4) (E : zE G x (some (.int)) (some (.int r)) τ) (n : Nat) : ∀ (k : Nat) (x1 : Int32) (x2 : Int32) (σ : Sg), s_X11_wrong_4 n k x1 x2 σ = some (r, τ) → V G x σ [(0, .ref (zad G 0)), (1, .int x1), (2, .int x2)] 4 [] := by
  intro k
  induction k with
  | zero => intro x1 x2 σ  h; cases h
  | succ k ih => intro x1 x2 σ  h; exact b_X11_wrong_4 O E n  (s_X11_wrong_4 n  k) ih x1 x2 σ  h
set_option maxRecDepth 20000 in
theorem C_X11_wrong {l : Launch} {G : zG} {n : Nat} {σ : Sg} {r : Int32} {τ : Sg} (h : s_X11_wrong n σ = some (r, τ)) : zM l G 3 yX11_wrong (.code yX11_wrong cX11_wrong 4 (some (.int))) [.ref (zad G 0)] σ (some (.int r)) τ := by
  refine zM_of (by decide) (Nat.le_of_ble_eq_true rfl) (fun x O E => ?_)
  have O : zO G x cX11_wrong RX11 3 120 4 := O
  unfold s_X11_wrong at h
  show V G x σ [(0, .ref (zad G 0))] 0 []
  refine V_iconst 0 O dX11_wrong_0 ci_0 ?_
  refine V_istoren 1 [1, 0] [(0, .ref (zad G 0)), (1, .int (0 : Int32))] O dX11_wrong_1 rfl (Nat.le_of_ble_eq_true rfl) rfl ?_
  refine V_iconst 2 O dX11_wrong_2 ci_0 ?_
  refine V_istoren 3 [1, 2, 0] [(0, .ref (zad G 0)), (1, .int (0 : Int32)), (2, .int (0 : Int32))] O dX11_wrong_3 rfl (Nat.le_of_ble_eq_true rfl) rfl ?_
  exact V_sub [0, 1, 2] rfl (bl_X11_wrong_4 O E n  n (0 : Int32) (0 : Int32) σ  h)
-- ==== WaterTown.gauge(II)I
def s_X11_gauge (n : Nat) (x1 : Int32) (x2 : Int32) (σ : Sg) : Option (Int32 × Sg) := bd (s_X4_hasAll n x1 σ) fun r2 σ1 => if r2 = 0 then (some ((-1001 : Int32), σ1)) else (bd (s_X11_isOutside n x2 (0 : Int32) (9999 : Int32) σ1) fun r4 σ3 => if r4 = 0 then (if (σ3 63 0) < (6 : Int32) then (bd (s_X1_put n x1 x2 σ3) fun r6 σ5 => some (r6, σ5)) else (some ((-1004 : Int32), σ3))) else (some ((-1002 : Int32), σ3)))
set_option maxRecDepth 20000 in
theorem C_X11_gauge {l : Launch} {G : zG} {n : Nat} {x1 : Int32} {x2 : Int32} {σ : Sg} {r : Int32} {τ : Sg} (h : s_X11_gauge n x1 x2 σ = some (r, τ)) : zM l G 1 yX11_gauge (.code yX11_gauge cX11_gauge 3 (some (.int))) [.ref (zad G 0), .int x1, .int x2] σ (some (.int r)) τ := by
  refine zM_of (by decide) (Nat.le_of_ble_eq_true rfl) (fun x O E => ?_)
  have O : zO G x cX11_gauge RX11 1 40 3 := O
  unfold s_X11_gauge at h
  show V G x σ [(0, .ref (zad G 0)), (1, .int x1), (2, .int x2)] 0 []
  refine V_aloadn 0 0 O dX11_gauge_0 rfl rfl ?_
  refine V_getR 1 O k0 fl_X11_10 rf0_0 dX11_gauge_1 ?_
  refine V_iloadn 4 1 O dX11_gauge_4 rfl rfl ?_
  obtain ⟨r2, σ1, g, h⟩ := bd_of h
  refine V_callVi 5 [.int x1] [] O mf_X4_hasAll lk_X11_316 k3 dX11_gauge_5 rfl rfl (Nat.le_of_ble_eq_true rfl) ⟨(Nat.le_of_ble_eq_true rfl), (Nat.le_of_ble_eq_true rfl)⟩ (fun l => C_X4_hasAll  g) ?_
  refine V_if_ne 8 15 O dX11_gauge_8 rfl h (fun h => ?_) (fun h => ?_)
  · refine V_iloadn 15 2 O dX11_gauge_15 rfl rfl ?_
    refine V_iconst 16 O dX11_gauge_16 ci_0 ?_
    refine V_sipush 17 O dX11_gauge_17 cs_9999 ?_
    obtain ⟨r4, σ3, g, h⟩ := bd_of h
    refine V_callSi 20 [.int x2, .int (0 : Int32), .int (9999 : Int32)] [] O mf_X11_isOutside lk_X11_94 dX11_gauge_20 rfl rfl (Nat.le_of_ble_eq_true rfl) ⟨(Nat.le_of_ble_eq_true rfl), (Nat.le_of_ble_eq_true rfl)⟩ (fun l => C_X11_isOutside  g) ?_
    refine V_if_eq 23 30 O dX11_gauge_23 rfl h (fun h => ?_) (fun h => ?_)
    · refine V_aloadn 30 0 O dX11_gauge_30 rfl rfl ?_
      refine V_getR 31 O k0 fl_X11_72 rf0_8 dX11_gauge_31 ?_
      refine V_getI 34 O k63 fl_X11_155 dX11_gauge_34 ?_
      refine V_bipush 37 O dX11_gauge_37 cb_6 ?_
      refine V_icmp_lt 39 46 O dX11_gauge_39 rfl h (fun h => ?_) (fun h => ?_)
      · refine V_aloadn 46 0 O dX11_gauge_46 rfl rfl ?_
        refine V_getR 47 O k0 fl_X11_72 rf0_8 dX11_gauge_47 ?_
        refine V_iloadn 50 1 O dX11_gauge_50 rfl rfl ?_
        refine V_iloadn 51 2 O dX11_gauge_51 rfl rfl ?_
        obtain ⟨r6, σ5, g, h⟩ := bd_of h
        refine V_callVi 52 [.int x1, .int x2] [] O mf_X1_put lk_X11_324 k63 dX11_gauge_52 rfl rfl (Nat.le_of_ble_eq_true rfl) ⟨(Nat.le_of_ble_eq_true rfl), (Nat.le_of_ble_eq_true rfl)⟩ (fun l => C_X1_put  g) ?_
        exact V_iret 55 O E dX11_gauge_55 h
      · refine V_sipush 42 O dX11_gauge_42 cs_m1004 ?_
        exact V_iret 45 O E dX11_gauge_45 h
    · refine V_sipush 26 O dX11_gauge_26 cs_m1002 ?_
      exact V_iret 29 O E dX11_gauge_29 h
  · refine V_sipush 11 O dX11_gauge_11 cs_m1001 ?_
    exact V_iret 14 O E dX11_gauge_14 h
-- ==== WaterTown.guess(II)I
def s_X11_guess_65 (n : Nat) (x1 : Int32) (x2 : Int32) (σ : Sg) : Option (Int32 × Sg) := bdv (s_X1_suppose n x1 x2 σ) fun σ7 => some ((1 : Int32), σ7)
def s_X11_guess_35 (n : Nat) (x1 : Int32) (x2 : Int32) (σ : Sg) : Option (Int32 × Sg) := if x2 = (-1 : Int32) then (s_X11_guess_65 n x1 x2 σ) else (bd (s_J6_bitCount_0f7a4 n ((σ 63 1) &&& ((sl (1 : Int32) x1) ^^^ (-1 : Int32))) σ) fun r6 σ5 => if r6 < (12 : Int32) then (s_X11_guess_65 n x1 x2 σ5) else (some ((-1004 : Int32), σ5)))
def s_X11_guess (n : Nat) (x1 : Int32) (x2 : Int32) (σ : Sg) : Option (Int32 × Sg) := bd (s_X4_has n x1 σ) fun r2 σ1 => if r2 = 0 then (some ((-1001 : Int32), σ1)) else (if x2 = (-1 : Int32) then (s_X11_guess_35 n x1 x2 σ1) else (bd (s_X11_isOutside n x2 (1 : Int32) (999 : Int32) σ1) fun r4 σ3 => if r4 = 0 then (s_X11_guess_35 n x1 x2 σ3) else (some ((-1002 : Int32), σ3))))
set_option maxRecDepth 20000 in
theorem b_X11_guess_65 {G : zG} {x : zX} {r : Int32} {τ : Sg} (O : zO G x cX11_guess RX11 1 40 3) (E : zE G x (some (.int)) (some (.int r)) τ) (n : Nat) (x1 : Int32) (x2 : Int32) (σ : Sg) (h : s_X11_guess_65 n x1 x2 σ = some (r, τ)) : V G x σ [(0, .ref (zad G 0)), (1, .int x1), (2, .int x2)] 65 [] := by
  unfold s_X11_guess_65 at h
  refine V_aloadn 65 0 O dX11_guess_65 rfl rfl ?_
  refine V_getR 66 O k0 fl_X11_72 rf0_8 dX11_guess_66 ?_
  refine V_iloadn 69 1 O dX11_guess_69 rfl rfl ?_
  refine V_iloadn 70 2 O dX11_guess_70 rfl rfl ?_
  obtain ⟨σ7, g, h⟩ := bdv_of h
  refine V_callVv 71 [.int x1, .int x2] [] O mf_X1_suppose lk_X11_326 k63 dX11_guess_71 rfl rfl (Nat.le_of_ble_eq_true rfl) ⟨(Nat.le_of_ble_eq_true rfl), (Nat.le_of_ble_eq_true rfl)⟩ (fun l => C_X1_suppose  g) ?_
  refine V_iconst 74 O dX11_guess_74 ci_1 ?_
  exact V_iret 75 O E dX11_guess_75 h
set_option maxRecDepth 20000 in
theorem b_X11_guess_35 {G : zG} {x : zX} {r : Int32} {τ : Sg} (O : zO G x cX11_guess RX11 1 40 3) (E : zE G x (some (.int)) (some (.int r)) τ) (n : Nat) (x1 : Int32) (x2 : Int32) (σ : Sg) (h : s_X11_guess_35 n x1 x2 σ = some (r, τ)) : V G x σ [(0, .ref (zad G 0)), (1, .int x1), (2, .int x2)] 35 [] := by
  unfold s_X11_guess_35 at h
  refine V_iloadn 35 2 O dX11_guess_35 rfl rfl ?_
  refine V_iconst 36 O dX11_guess_36 ci_m1 ?_
  refine V_icmp_eq 37 65 O dX11_guess_37 rfl h (fun h => ?_) (fun h => ?_)
  · exact V_sub [0, 1, 2] rfl (b_X11_guess_65 O E n  x1 x2 σ  h)
  · refine V_aloadn 40 0 O dX11_guess_40 rfl rfl ?_
    refine V_getR 41 O k0 fl_X11_72 rf0_8 dX11_guess_41 ?_
    refine V_getI 44 O k63 fl_X11_156 dX11_guess_44 ?_
    refine V_iconst 47 O dX11_guess_47 ci_1 ?_
    refine V_iloadn 48 1 O dX11_guess_48 rfl rfl ?_
    refine V_ishl 49 O dX11_guess_49 ?_
    refine V_iconst 50 O dX11_guess_50 ci_m1 ?_
    refine V_ixor 51 O dX11_guess_51 ?_
    refine V_iand 52 O dX11_guess_52 ?_
    obtain ⟨r6, σ5, g, h⟩ := bd_of h
    refine V_callSi 53 [.int ((σ 63 1) &&& ((sl (1 : Int32) x1) ^^^ (-1 : Int32)))] [] O mf_J6_bitCount_0f7a4 lk_X11_147 dX11_guess_53 rfl rfl (Nat.le_of_ble_eq_true rfl) ⟨(Nat.le_of_ble_eq_true rfl), (Nat.le_of_ble_eq_true rfl)⟩ (fun l => C_J6_bitCount_0f7a4  g) ?_
    refine V_bipush 56 O dX11_guess_56 cb_12 ?_
    refine V_icmp_lt 58 65 O dX11_guess_58 rfl h (fun h => ?_) (fun h => ?_)
    · exact V_sub [0, 1, 2] rfl (b_X11_guess_65 O E n  x1 x2 σ5  h)
    · refine V_sipush 61 O dX11_guess_61 cs_m1004 ?_
      exact V_iret 64 O E dX11_guess_64 h
set_option maxRecDepth 20000 in
theorem C_X11_guess {l : Launch} {G : zG} {n : Nat} {x1 : Int32} {x2 : Int32} {σ : Sg} {r : Int32} {τ : Sg} (h : s_X11_guess n x1 x2 σ = some (r, τ)) : zM l G 1 yX11_guess (.code yX11_guess cX11_guess 3 (some (.int))) [.ref (zad G 0), .int x1, .int x2] σ (some (.int r)) τ := by
  refine zM_of (by decide) (Nat.le_of_ble_eq_true rfl) (fun x O E => ?_)
  have O : zO G x cX11_guess RX11 1 40 3 := O
  unfold s_X11_guess at h
  show V G x σ [(0, .ref (zad G 0)), (1, .int x1), (2, .int x2)] 0 []
  refine V_aloadn 0 0 O dX11_guess_0 rfl rfl ?_
  refine V_getR 1 O k0 fl_X11_10 rf0_0 dX11_guess_1 ?_
  refine V_iloadn 4 1 O dX11_guess_4 rfl rfl ?_
  obtain ⟨r2, σ1, g, h⟩ := bd_of h
  refine V_callVi 5 [.int x1] [] O mf_X4_has lk_X11_109 k3 dX11_guess_5 rfl rfl (Nat.le_of_ble_eq_true rfl) ⟨(Nat.le_of_ble_eq_true rfl), (Nat.le_of_ble_eq_true rfl)⟩ (fun l => C_X4_has  g) ?_
  refine V_if_ne 8 15 O dX11_guess_8 rfl h (fun h => ?_) (fun h => ?_)
  · refine V_iloadn 15 2 O dX11_guess_15 rfl rfl ?_
    refine V_iconst 16 O dX11_guess_16 ci_m1 ?_
    refine V_icmp_eq 17 35 O dX11_guess_17 rfl h (fun h => ?_) (fun h => ?_)
    · exact V_sub [0, 1, 2] rfl (b_X11_guess_35 O E n  x1 x2 σ1  h)
    · refine V_iloadn 20 2 O dX11_guess_20 rfl rfl ?_
      refine V_iconst 21 O dX11_guess_21 ci_1 ?_
      refine V_sipush 22 O dX11_guess_22 cs_999 ?_
      obtain ⟨r4, σ3, g, h⟩ := bd_of h
      refine V_callSi 25 [.int x2, .int (1 : Int32), .int (999 : Int32)] [] O mf_X11_isOutside lk_X11_94 dX11_guess_25 rfl rfl (Nat.le_of_ble_eq_true rfl) ⟨(Nat.le_of_ble_eq_true rfl), (Nat.le_of_ble_eq_true rfl)⟩ (fun l => C_X11_isOutside  g) ?_
      refine V_if_eq 28 35 O dX11_guess_28 rfl h (fun h => ?_) (fun h => ?_)
      · exact V_sub [0, 1, 2] rfl (b_X11_guess_35 O E n  x1 x2 σ3  h)
      · refine V_sipush 31 O dX11_guess_31 cs_m1002 ?_
        exact V_iret 34 O E dX11_guess_34 h
  · refine V_sipush 11 O dX11_guess_11 cs_m1001 ?_
    exact V_iret 14 O E dX11_guess_14 h
