-- ==== WaterTown.explain(I)I
def s_X11_explain (n : Nat) (x1 : Int32) (σ : Sg) : Option (Int32 × Sg) := bd (s_X11_isOutside n x1 (0 : Int32) (1 : Int32) σ) fun r2 σ1 => if r2 = 0 then (if (σ1 63 0) = 0 then (some ((-1003 : Int32), σ1)) else (bdv (s_X1_search n σ1) fun σ3 => if x1 = 0 then (some (σ3 63 2, σ3)) else (some (σ3 63 3, σ3)))) else (some ((-1002 : Int32), σ1))
set_option maxRecDepth 20000 in
theorem C_X11_explain {l : Launch} {G : zG} {n : Nat} {x1 : Int32} {σ : Sg} {r : Int32} {τ : Sg} (h : s_X11_explain n x1 σ = some (r, τ)) : zM l G 2 yX11_explain (.code yX11_explain cX11_explain 2 (some (.int))) [.ref (zad G 0), .int x1] σ (some (.int r)) τ := by
  refine zM_of (by decide) (Nat.le_of_ble_eq_true rfl) (fun x O E => ?_)
  have O : zO G x cX11_explain RX11 2 80 2 := O
  unfold s_X11_explain at h
  show V G x σ [(0, .ref (zad G 0)), (1, .int x1)] 0 []
  refine V_iloadn 0 1 O dX11_explain_0 rfl rfl ?_
  refine V_iconst 1 O dX11_explain_1 ci_0 ?_
  refine V_iconst 2 O dX11_explain_2 ci_1 ?_
  obtain ⟨r2, σ1, g, h⟩ := bd_of h
  refine V_callSi 3 [.int x1, .int (0 : Int32), .int (1 : Int32)] [] O mf_X11_isOutside lk_X11_94 dX11_explain_3 rfl rfl (Nat.le_of_ble_eq_true rfl) ⟨(Nat.le_of_ble_eq_true rfl), (Nat.le_of_ble_eq_true rfl)⟩ (fun l => C_X11_isOutside  g) ?_
  refine V_if_eq 6 13 O dX11_explain_6 rfl h (fun h => ?_) (fun h => ?_)
  · refine V_aloadn 13 0 O dX11_explain_13 rfl rfl ?_
    refine V_getR 14 O k0 fl_X11_72 rf0_8 dX11_explain_14 ?_
    refine V_getI 17 O k63 fl_X11_155 dX11_explain_17 ?_
    refine V_if_ne 20 27 O dX11_explain_20 rfl h (fun h => ?_) (fun h => ?_)
    · refine V_aloadn 27 0 O dX11_explain_27 rfl rfl ?_
      refine V_getR 28 O k0 fl_X11_72 rf0_8 dX11_explain_28 ?_
      obtain ⟨σ3, g, h⟩ := bdv_of h
      refine V_callVv 31 [] [] O mf_X1_search lk_X11_330 k63 dX11_explain_31 rfl rfl (Nat.le_of_ble_eq_true rfl) ⟨(Nat.le_of_ble_eq_true rfl), (Nat.le_of_ble_eq_true rfl)⟩ (fun l => C_X1_search  g) ?_
      refine V_iloadn 34 1 O dX11_explain_34 rfl rfl ?_
      refine V_if_ne 35 48 O dX11_explain_35 rfl h (fun h => ?_) (fun h => ?_)
      · refine V_aloadn 48 0 O dX11_explain_48 rfl rfl ?_
        refine V_getR 49 O k0 fl_X11_72 rf0_8 dX11_explain_49 ?_
        refine V_getI 52 O k63 fl_X11_336 dX11_explain_52 ?_
        exact V_iret 55 O E dX11_explain_55 h
      · refine V_aloadn 38 0 O dX11_explain_38 rfl rfl ?_
        refine V_getR 39 O k0 fl_X11_72 rf0_8 dX11_explain_39 ?_
        refine V_getI 42 O k63 fl_X11_333 dX11_explain_42 ?_
        refine V_goto 45 55 O dX11_explain_45 rfl ?_
        exact V_iret 55 O E dX11_explain_55 h
    · refine V_sipush 23 O dX11_explain_23 cs_m1003 ?_
      exact V_iret 26 O E dX11_explain_26 h
  · refine V_sipush 9 O dX11_explain_9 cs_m1002 ?_
    exact V_iret 12 O E dX11_explain_12 h
-- ==== WaterTown.beds(IIIIII)I
def s_X11_beds_109 (n : Nat) (σ : Sg) : Option (Int32 × Sg) := some ((-1 : Int32), σ)
def s_X11_beds (n : Nat) (x1 : Int32) (x2 : Int32) (x3 : Int32) (x4 : Int32) (x5 : Int32) (x6 : Int32) (σ : Sg) : Option (Int32 × Sg) := bd (s_X11_isOutside n x1 (1 : Int32) (3 : Int32) σ) fun r2 σ1 => if r2 = 0 then (bd (s_X11_isOutside n x2 (1 : Int32) (99 : Int32) σ1) fun r4 σ3 => if r4 = 0 then (bd (s_X11_isOutside n x3 (0 : Int32) (30 : Int32) σ3) fun r6 σ5 => if r6 = 0 then (bd (s_X11_isOutside n x4 (0 : Int32) (297 : Int32) σ5) fun r8 σ7 => if r8 = 0 then (bd (s_X11_isOutside n x5 (0 : Int32) (20 : Int32) σ7) fun r10 σ9 => if r10 = 0 then (bdv (s_X0_plan n x1 x2 x3 x4 x5 σ9) fun σ11 => if x6 = (-1 : Int32) then (some (σ11 68 1, σ11)) else (if x6 < 0 then (s_X11_beds_109 n σ11) else (if x5 < x6 then (s_X11_beds_109 n σ11) else (ck x6 21 (some (σ11 69 (ix x6), σ11)))))) else (some ((-1002 : Int32), σ9))) else (some ((-1002 : Int32), σ7))) else (some ((-1002 : Int32), σ5))) else (some ((-1002 : Int32), σ3))) else (some ((-1002 : Int32), σ1))
set_option maxRecDepth 20000 in
theorem b_X11_beds_109 {G : zG} {x : zX} {r : Int32} {τ : Sg} (O : zO G x cX11_beds RX11 7 280 7) (E : zE G x (some (.int)) (some (.int r)) τ) (n : Nat) (σ : Sg) (h : s_X11_beds_109 n σ = some (r, τ)) : V G x σ [] 109 [] := by
  unfold s_X11_beds_109 at h
  refine V_iconst 109 O dX11_beds_109 ci_m1 ?_
  exact V_iret 110 O E dX11_beds_110 h
set_option maxRecDepth 20000 in
theorem C_X11_beds {l : Launch} {G : zG} {n : Nat} {x1 : Int32} {x2 : Int32} {x3 : Int32} {x4 : Int32} {x5 : Int32} {x6 : Int32} {σ : Sg} {r : Int32} {τ : Sg} (h : s_X11_beds n x1 x2 x3 x4 x5 x6 σ = some (r, τ)) : zM l G 7 yX11_beds (.code yX11_beds cX11_beds 7 (some (.int))) [.ref (zad G 0), .int x1, .int x2, .int x3, .int x4, .int x5, .int x6] σ (some (.int r)) τ := by
  refine zM_of (by decide) (Nat.le_of_ble_eq_true rfl) (fun x O E => ?_)
  have O : zO G x cX11_beds RX11 7 280 7 := O
  unfold s_X11_beds at h
  show V G x σ [(0, .ref (zad G 0)), (1, .int x1), (2, .int x2), (3, .int x3), (4, .int x4), (5, .int x5), (6, .int x6)] 0 []
  refine V_iloadn 0 1 O dX11_beds_0 rfl rfl ?_
  refine V_iconst 1 O dX11_beds_1 ci_1 ?_
  refine V_iconst 2 O dX11_beds_2 ci_3 ?_
  obtain ⟨r2, σ1, g, h⟩ := bd_of h
  refine V_callSi 3 [.int x1, .int (1 : Int32), .int (3 : Int32)] [] O mf_X11_isOutside lk_X11_94 dX11_beds_3 rfl rfl (Nat.le_of_ble_eq_true rfl) ⟨(Nat.le_of_ble_eq_true rfl), (Nat.le_of_ble_eq_true rfl)⟩ (fun l => C_X11_isOutside  g) ?_
  refine V_if_ne 6 52 O dX11_beds_6 rfl h (fun h => ?_) (fun h => ?_)
  · refine V_sipush 52 O dX11_beds_52 cs_m1002 ?_
    exact V_iret 55 O E dX11_beds_55 h
  · refine V_iloadn 9 2 O dX11_beds_9 rfl rfl ?_
    refine V_iconst 10 O dX11_beds_10 ci_1 ?_
    refine V_bipush 11 O dX11_beds_11 cb_99 ?_
    obtain ⟨r4, σ3, g, h⟩ := bd_of h
    refine V_callSi 13 [.int x2, .int (1 : Int32), .int (99 : Int32)] [] O mf_X11_isOutside lk_X11_94 dX11_beds_13 rfl rfl (Nat.le_of_ble_eq_true rfl) ⟨(Nat.le_of_ble_eq_true rfl), (Nat.le_of_ble_eq_true rfl)⟩ (fun l => C_X11_isOutside  g) ?_
    refine V_if_ne 16 52 O dX11_beds_16 rfl h (fun h => ?_) (fun h => ?_)
    · refine V_sipush 52 O dX11_beds_52 cs_m1002 ?_
      exact V_iret 55 O E dX11_beds_55 h
    · refine V_iloadn 19 3 O dX11_beds_19 rfl rfl ?_
      refine V_iconst 20 O dX11_beds_20 ci_0 ?_
      refine V_bipush 21 O dX11_beds_21 cb_30 ?_
      obtain ⟨r6, σ5, g, h⟩ := bd_of h
      refine V_callSi 23 [.int x3, .int (0 : Int32), .int (30 : Int32)] [] O mf_X11_isOutside lk_X11_94 dX11_beds_23 rfl rfl (Nat.le_of_ble_eq_true rfl) ⟨(Nat.le_of_ble_eq_true rfl), (Nat.le_of_ble_eq_true rfl)⟩ (fun l => C_X11_isOutside  g) ?_
      refine V_if_ne 26 52 O dX11_beds_26 rfl h (fun h => ?_) (fun h => ?_)
      · refine V_sipush 52 O dX11_beds_52 cs_m1002 ?_
        exact V_iret 55 O E dX11_beds_55 h
      · refine V_iload 29 4 O dX11_beds_29 rfl ?_
        refine V_iconst 31 O dX11_beds_31 ci_0 ?_
        refine V_sipush 32 O dX11_beds_32 cs_297 ?_
        obtain ⟨r8, σ7, g, h⟩ := bd_of h
        refine V_callSi 35 [.int x4, .int (0 : Int32), .int (297 : Int32)] [] O mf_X11_isOutside lk_X11_94 dX11_beds_35 rfl rfl (Nat.le_of_ble_eq_true rfl) ⟨(Nat.le_of_ble_eq_true rfl), (Nat.le_of_ble_eq_true rfl)⟩ (fun l => C_X11_isOutside  g) ?_
        refine V_if_ne 38 52 O dX11_beds_38 rfl h (fun h => ?_) (fun h => ?_)
        · refine V_sipush 52 O dX11_beds_52 cs_m1002 ?_
          exact V_iret 55 O E dX11_beds_55 h
        · refine V_iload 41 5 O dX11_beds_41 rfl ?_
          refine V_iconst 43 O dX11_beds_43 ci_0 ?_
          refine V_bipush 44 O dX11_beds_44 cb_20 ?_
          obtain ⟨r10, σ9, g, h⟩ := bd_of h
          refine V_callSi 46 [.int x5, .int (0 : Int32), .int (20 : Int32)] [] O mf_X11_isOutside lk_X11_94 dX11_beds_46 rfl rfl (Nat.le_of_ble_eq_true rfl) ⟨(Nat.le_of_ble_eq_true rfl), (Nat.le_of_ble_eq_true rfl)⟩ (fun l => C_X11_isOutside  g) ?_
          refine V_if_eq 49 56 O dX11_beds_49 rfl h (fun h => ?_) (fun h => ?_)
          · refine V_aloadn 56 0 O dX11_beds_56 rfl rfl ?_
            refine V_getR 57 O k0 fl_X11_79 rf0_9 dX11_beds_57 ?_
            refine V_iloadn 60 1 O dX11_beds_60 rfl rfl ?_
            refine V_iloadn 61 2 O dX11_beds_61 rfl rfl ?_
            refine V_iloadn 62 3 O dX11_beds_62 rfl rfl ?_
            refine V_iload 63 4 O dX11_beds_63 rfl ?_
            refine V_iload 65 5 O dX11_beds_65 rfl ?_
            obtain ⟨σ11, g, h⟩ := bdv_of h
            refine V_callVv 67 [.int x1, .int x2, .int x3, .int x4, .int x5] [] O mf_X0_plan lk_X11_339 k68 dX11_beds_67 rfl rfl (Nat.le_of_ble_eq_true rfl) ⟨(Nat.le_of_ble_eq_true rfl), (Nat.le_of_ble_eq_true rfl)⟩ (fun l => C_X0_plan  g) ?_
            refine V_iload 70 6 O dX11_beds_70 rfl ?_
            refine V_iconst 72 O dX11_beds_72 ci_m1 ?_
            refine V_icmp_ne 73 84 O dX11_beds_73 rfl h (fun h => ?_) (fun h => ?_)
            · refine V_iload 84 6 O dX11_beds_84 rfl ?_
              refine V_if_lt 86 109 O dX11_beds_86 rfl h (fun h => ?_) (fun h => ?_)
              · exact V_sub [] rfl (b_X11_beds_109 O E n   σ11  h)
              · refine V_iload 89 6 O dX11_beds_89 rfl ?_
                refine V_iload 91 5 O dX11_beds_91 rfl ?_
                refine V_icmp_gt 93 109 O dX11_beds_93 rfl h (fun h => ?_) (fun h => ?_)
                · exact V_sub [] rfl (b_X11_beds_109 O E n   σ11  h)
                · refine V_aloadn 96 0 O dX11_beds_96 rfl rfl ?_
                  refine V_getR 97 O k0 fl_X11_79 rf0_9 dX11_beds_97 ?_
                  refine V_getR 100 O k68 fl_X11_344 rf68_0 dX11_beds_100 ?_
                  refine V_iload 103 6 O dX11_beds_103 rfl ?_
                  refine V_iald 105 O k69 dX11_beds_105 h (fun h => ?_)
                  refine V_goto 106 110 O dX11_beds_106 rfl ?_
                  exact V_iret 110 O E dX11_beds_110 h
            · refine V_aloadn 76 0 O dX11_beds_76 rfl rfl ?_
              refine V_getR 77 O k0 fl_X11_79 rf0_9 dX11_beds_77 ?_
              refine V_getI 80 O k68 fl_X11_343 dX11_beds_80 ?_
              exact V_iret 83 O E dX11_beds_83 h
          · refine V_sipush 52 O dX11_beds_52 cs_m1002 ?_
            exact V_iret 55 O E dX11_beds_55 h
-- ==== WaterTown.river(II)I
def s_X11_river (n : Nat) (x1 : Int32) (x2 : Int32) (σ : Sg) : Option (Int32 × Sg) := bd (s_X11_isOutside n x1 (0 : Int32) (30 : Int32) σ) fun r2 σ1 => if r2 = 0 then (bd (s_X11_isOutside n x2 (0 : Int32) (9999 : Int32) σ1) fun r4 σ3 => if r4 = 0 then (ck x1 31 (lt (σ3 1 (ix x1)) fun v5 => ck x1 31 (lt (up2 σ3 1 (ix x1) x2) fun σ6 => some (v5, σ6)))) else (some ((-1002 : Int32), σ3))) else (some ((-1002 : Int32), σ1))
set_option maxRecDepth 20000 in
theorem C_X11_river {l : Launch} {G : zG} {n : Nat} {x1 : Int32} {x2 : Int32} {σ : Sg} {r : Int32} {τ : Sg} (h : s_X11_river n x1 x2 σ = some (r, τ)) : zM l G 1 yX11_river (.code yX11_river cX11_river 4 (some (.int))) [.ref (zad G 0), .int x1, .int x2] σ (some (.int r)) τ := by
  refine zM_of (by decide) (Nat.le_of_ble_eq_true rfl) (fun x O E => ?_)
  have O : zO G x cX11_river RX11 1 40 4 := O
  unfold s_X11_river at h
  show V G x σ [(0, .ref (zad G 0)), (1, .int x1), (2, .int x2)] 0 []
  refine V_iloadn 0 1 O dX11_river_0 rfl rfl ?_
  refine V_iconst 1 O dX11_river_1 ci_0 ?_
  refine V_bipush 2 O dX11_river_2 cb_30 ?_
  obtain ⟨r2, σ1, g, h⟩ := bd_of h
  refine V_callSi 4 [.int x1, .int (0 : Int32), .int (30 : Int32)] [] O mf_X11_isOutside lk_X11_94 dX11_river_4 rfl rfl (Nat.le_of_ble_eq_true rfl) ⟨(Nat.le_of_ble_eq_true rfl), (Nat.le_of_ble_eq_true rfl)⟩ (fun l => C_X11_isOutside  g) ?_
  refine V_if_ne 7 21 O dX11_river_7 rfl h (fun h => ?_) (fun h => ?_)
  · refine V_sipush 21 O dX11_river_21 cs_m1002 ?_
    exact V_iret 24 O E dX11_river_24 h
  · refine V_iloadn 10 2 O dX11_river_10 rfl rfl ?_
    refine V_iconst 11 O dX11_river_11 ci_0 ?_
    refine V_sipush 12 O dX11_river_12 cs_9999 ?_
    obtain ⟨r4, σ3, g, h⟩ := bd_of h
    refine V_callSi 15 [.int x2, .int (0 : Int32), .int (9999 : Int32)] [] O mf_X11_isOutside lk_X11_94 dX11_river_15 rfl rfl (Nat.le_of_ble_eq_true rfl) ⟨(Nat.le_of_ble_eq_true rfl), (Nat.le_of_ble_eq_true rfl)⟩ (fun l => C_X11_isOutside  g) ?_
    refine V_if_eq 18 25 O dX11_river_18 rfl h (fun h => ?_) (fun h => ?_)
    · refine V_aloadn 25 0 O dX11_river_25 rfl rfl ?_
      refine V_getR 26 O k0 fl_X11_83 rf0_10 dX11_river_26 ?_
      refine V_iloadn 29 1 O dX11_river_29 rfl rfl ?_
      refine V_iald 30 O k1 dX11_river_30 h (fun h => ?_)
      refine V_topi h (fun v5 h => ?_)
      refine V_istoren 31 [1, 2, 3, 0] [(0, .ref (zad G 0)), (1, .int x1), (2, .int x2), (3, .int v5)] O dX11_river_31 rfl (Nat.le_of_ble_eq_true rfl) rfl ?_
      refine V_aloadn 32 0 O dX11_river_32 rfl rfl ?_
      refine V_getR 33 O k0 fl_X11_83 rf0_10 dX11_river_33 ?_
      refine V_iloadn 36 1 O dX11_river_36 rfl rfl ?_
      refine V_iloadn 37 2 O dX11_river_37 rfl rfl ?_
      refine V_iast 38 O k1 dX11_river_38 h (fun σ6 h => ?_)
      refine V_iloadn 39 3 O dX11_river_39 rfl rfl ?_
      exact V_iret 40 O E dX11_river_40 h
    · refine V_sipush 21 O dX11_river_21 cs_m1002 ?_
      exact V_iret 24 O E dX11_river_24 h
-- ==== WaterTown.share(IIII)I
def s_X11_share_112 (n : Nat) (rc61 : Int32 → Int32 → Int32 → Int32 → Int32 → Int32 → Int32 → Int32 → Int32 → Sg → Option (Int32 × Sg)) (x1 : Int32) (x2 : Int32) (x3 : Int32) (x4 : Int32) (x5 : Int32) (x6 : Int32) (x7 : Int32) (x8 : Int32) (x9 : Int32) (x10 : Int32) (x11 : Int32) (σ : Sg) : Option (Int32 × Sg) := lt (x6 + x10) fun v11 => lt (x7 + x11) fun v12 => ck x9 31 (lt (x8 + (((σ 1 (ix x9)) - x10) - x11)) fun v13 => rc61 x1 x2 x3 x4 x5 v11 v12 v13 (x9 + (1 : Int32)) σ)
def s_X11_share_61b (n : Nat) (rc61 : Int32 → Int32 → Int32 → Int32 → Int32 → Int32 → Int32 → Int32 → Int32 → Sg → Option (Int32 × Sg)) (x1 : Int32) (x2 : Int32) (x3 : Int32) (x4 : Int32) (x5 : Int32) (x6 : Int32) (x7 : Int32) (x8 : Int32) (x9 : Int32) (σ : Sg) : Option (Int32 × Sg) := if x3 < x9 then (if x4 = 0 then (some (x5, σ)) else (if x4 = (1 : Int32) then (some (x6, σ)) else (if x4 = (2 : Int32) then (some (x7, σ)) else (some (x8, σ))))) else (ck x9 31 (lt (imin x1 (σ 1 (ix x9))) fun v9 => ck x9 31 (lt (imin x2 ((σ 1 (ix x9)) - v9)) fun v10 => if x2 ≤ v10 then (s_X11_share_112 n rc61 x1 x2 x3 x4 x5 x6 x7 x8 x9 v9 v10 σ) else (if x5 = (-1 : Int32) then (s_X11_share_112 n rc61 x1 x2 x3 x4 x9 x6 x7 x8 x9 v9 v10 σ) else (s_X11_share_112 n rc61 x1 x2 x3 x4 x5 x6 x7 x8 x9 v9 v10 σ)))))
def s_X11_share_61 (n : Nat) : Nat → Int32 → Int32 → Int32 → Int32 → Int32 → Int32 → Int32 → Int32 → Int32 → Sg → Option (Int32 × Sg)
  | 0 => fun _ _ _ _ _ _ _ _ _ _ => none
  | k + 1 => s_X11_share_61b n (s_X11_share_61 n k)
def s_X11_share (n : Nat) (x1 : Int32) (x2 : Int32) (x3 : Int32) (x4 : Int32) (σ : Sg) : Option (Int32 × Sg) := bd (s_X11_isOutside n x1 (0 : Int32) (9999 : Int32) σ) fun r2 σ1 => if r2 = 0 then (bd (s_X11_isOutside n x2 (0 : Int32) (9999 : Int32) σ1) fun r4 σ3 => if r4 = 0 then (bd (s_X11_isOutside n x3 (0 : Int32) (30 : Int32) σ3) fun r6 σ5 => if r6 = 0 then (bd (s_X11_isOutside n x4 (0 : Int32) (3 : Int32) σ5) fun r8 σ7 => if r8 = 0 then (s_X11_share_61 n n x1 x2 x3 x4 (-1 : Int32) (0 : Int32) (0 : Int32) (0 : Int32) (0 : Int32) σ7) else (some ((-1002 : Int32), σ7))) else (some ((-1002 : Int32), σ5))) else (some ((-1002 : Int32), σ3))) else (some ((-1002 : Int32), σ1))
set_option maxRecDepth 20000 in
theorem b_X11_share_112 {G : zG} {x : zX} {r : Int32} {τ : Sg} (O : zO G x cX11_share RX11 1 40 12) (E : zE G x (some (.int)) (some (.int r)) τ) (n : Nat) (rc61 : Int32 → Int32 → Int32 → Int32 → Int32 → Int32 → Int32 → Int32 → Int32 → Sg → Option (Int32 × Sg)) (H61 : ∀ (x1 : Int32) (x2 : Int32) (x3 : Int32) (x4 : Int32) (x5 : Int32) (x6 : Int32) (x7 : Int32) (x8 : Int32) (x9 : Int32) (σ : Sg), rc61 x1 x2 x3 x4 x5 x6 x7 x8 x9 σ = some (r, τ) → V G x σ [(0, .ref (zad G 0)), (1, .int x1), (2, .int x2), (3, .int x3), (4, .int x4), (5, .int x5), (6, .int x6), (7, .int x7), (8, .int x8), (9, .int x9)] 61 []) (x1 : Int32) (x2 : Int32) (x3 : Int32) (x4 : Int32) (x5 : Int32) (x6 : Int32) (x7 : Int32) (x8 : Int32) (x9 : Int32) (x10 : Int32) (x11 : Int32) (σ : Sg) (h : s_X11_share_112 n rc61 x1 x2 x3 x4 x5 x6 x7 x8 x9 x10 x11 σ = some (r, τ)) : V G x σ [(0, .ref (zad G 0)), (1, .int x1), (2, .int x2), (3, .int x3), (4, .int x4), (5, .int x5), (6, .int x6), (7, .int x7), (8, .int x8), (9, .int x9), (10, .int x10), (11, .int x11)] 112 [] := by
  unfold s_X11_share_112 at h
  refine V_iload 112 6 O dX11_share_112 rfl ?_
  refine V_iload 114 10 O dX11_share_114 rfl ?_
  refine V_iadd 116 O dX11_share_116 ?_
  refine V_topi h (fun v11 h => ?_)
  refine V_istore 117 [1, 2, 3, 4, 5, 6, 0, 7, 8, 9, 10, 11] [(0, .ref (zad G 0)), (1, .int x1), (2, .int x2), (3, .int x3), (4, .int x4), (5, .int x5), (6, .int v11), (7, .int x7), (8, .int x8), (9, .int x9), (10, .int x10), (11, .int x11)] O dX11_share_117 (Nat.le_of_ble_eq_true rfl) rfl ?_
  refine V_iload 119 7 O dX11_share_119 rfl ?_
  refine V_iload 121 11 O dX11_share_121 rfl ?_
  refine V_iadd 123 O dX11_share_123 ?_
  refine V_topi h (fun v12 h => ?_)
  refine V_istore 124 [1, 2, 3, 4, 5, 6, 7, 0, 8, 9, 10, 11] [(0, .ref (zad G 0)), (1, .int x1), (2, .int x2), (3, .int x3), (4, .int x4), (5, .int x5), (6, .int v11), (7, .int v12), (8, .int x8), (9, .int x9), (10, .int x10), (11, .int x11)] O dX11_share_124 (Nat.le_of_ble_eq_true rfl) rfl ?_
  refine V_iload 126 8 O dX11_share_126 rfl ?_
  refine V_aloadn 128 0 O dX11_share_128 rfl rfl ?_
  refine V_getR 129 O k0 fl_X11_83 rf0_10 dX11_share_129 ?_
  refine V_iload 132 9 O dX11_share_132 rfl ?_
  refine V_iald 134 O k1 dX11_share_134 h (fun h => ?_)
  refine V_iload 135 10 O dX11_share_135 rfl ?_
  refine V_isub 137 O dX11_share_137 ?_
  refine V_iload 138 11 O dX11_share_138 rfl ?_
  refine V_isub 140 O dX11_share_140 ?_
  refine V_iadd 141 O dX11_share_141 ?_
  refine V_topi h (fun v13 h => ?_)
  refine V_istore 142 [1, 2, 3, 4, 5, 6, 7, 8, 0, 9, 10, 11] [(0, .ref (zad G 0)), (1, .int x1), (2, .int x2), (3, .int x3), (4, .int x4), (5, .int x5), (6, .int v11), (7, .int v12), (8, .int v13), (9, .int x9), (10, .int x10), (11, .int x11)] O dX11_share_142 (Nat.le_of_ble_eq_true rfl) rfl ?_
  refine V_iinc 144 9 [1, 2, 3, 4, 5, 6, 7, 8, 9, 0, 10, 11] [(0, .ref (zad G 0)), (1, .int x1), (2, .int x2), (3, .int x3), (4, .int x4), (5, .int x5), (6, .int v11), (7, .int v12), (8, .int v13), (9, .int (x9 + (1 : Int32))), (10, .int x10), (11, .int x11)] O dX11_share_144 rfl ci_1 (Nat.le_of_ble_eq_true rfl) rfl ?_
  refine V_goto 147 61 O dX11_share_147 rfl ?_
  exact V_sub [0, 1, 2, 3, 4, 5, 6, 7, 8, 9] rfl (H61 x1 x2 x3 x4 x5 v11 v12 v13 (x9 + (1 : Int32)) σ  h)
set_option maxRecDepth 20000 in
theorem b_X11_share_61 {G : zG} {x : zX} {r : Int32} {τ : Sg} (O : zO G x cX11_share RX11 1 40 12) (E : zE G x (some (.int)) (some (.int r)) τ) (n : Nat) (rc61 : Int32 → Int32 → Int32 → Int32 → Int32 → Int32 → Int32 → Int32 → Int32 → Sg → Option (Int32 × Sg)) (H61 : ∀ (x1 : Int32) (x2 : Int32) (x3 : Int32) (x4 : Int32) (x5 : Int32) (x6 : Int32) (x7 : Int32) (x8 : Int32) (x9 : Int32) (σ : Sg), rc61 x1 x2 x3 x4 x5 x6 x7 x8 x9 σ = some (r, τ) → V G x σ [(0, .ref (zad G 0)), (1, .int x1), (2, .int x2), (3, .int x3), (4, .int x4), (5, .int x5), (6, .int x6), (7, .int x7), (8, .int x8), (9, .int x9)] 61 []) (x1 : Int32) (x2 : Int32) (x3 : Int32) (x4 : Int32) (x5 : Int32) (x6 : Int32) (x7 : Int32) (x8 : Int32) (x9 : Int32) (σ : Sg) (h : s_X11_share_61b n rc61 x1 x2 x3 x4 x5 x6 x7 x8 x9 σ = some (r, τ)) : V G x σ [(0, .ref (zad G 0)), (1, .int x1), (2, .int x2), (3, .int x3), (4, .int x4), (5, .int x5), (6, .int x6), (7, .int x7), (8, .int x8), (9, .int x9)] 61 [] := by
  unfold s_X11_share_61b at h
  refine V_iload 61 9 O dX11_share_61 rfl ?_
  refine V_iloadn 63 3 O dX11_share_63 rfl rfl ?_
  refine V_icmp_gt 64 150 O dX11_share_64 rfl h (fun h => ?_) (fun h => ?_)
  · refine V_iload 150 4 O dX11_share_150 rfl ?_
    refine V_if_ne 152 158 O dX11_share_152 rfl h (fun h => ?_) (fun h => ?_)
    · refine V_iload 158 4 O dX11_share_158 rfl ?_
      refine V_iconst 160 O dX11_share_160 ci_1 ?_
      refine V_icmp_ne 161 169 O dX11_share_161 rfl h (fun h => ?_) (fun h => ?_)
      · refine V_iload 169 4 O dX11_share_169 rfl ?_
        refine V_iconst 171 O dX11_share_171 ci_2 ?_
        refine V_icmp_ne 172 180 O dX11_share_172 rfl h (fun h => ?_) (fun h => ?_)
        · refine V_iload 180 8 O dX11_share_180 rfl ?_
          exact V_iret 182 O E dX11_share_182 h
        · refine V_iload 175 7 O dX11_share_175 rfl ?_
          refine V_goto 177 182 O dX11_share_177 rfl ?_
          exact V_iret 182 O E dX11_share_182 h
      · refine V_iload 164 6 O dX11_share_164 rfl ?_
        refine V_goto 166 182 O dX11_share_166 rfl ?_
        exact V_iret 182 O E dX11_share_182 h
    · refine V_iload 155 5 O dX11_share_155 rfl ?_
      exact V_iret 157 O E dX11_share_157 h
  · refine V_iloadn 67 1 O dX11_share_67 rfl rfl ?_
    refine V_aloadn 68 0 O dX11_share_68 rfl rfl ?_
    refine V_getR 69 O k0 fl_X11_83 rf0_10 dX11_share_69 ?_
    refine V_iload 72 9 O dX11_share_72 rfl ?_
    refine V_iald 74 O k1 dX11_share_74 h (fun h => ?_)
    refine V_min 75 O lk_X11_347 mm_imin.1 mm_imin.2.1 mm_imin.2.2 (Nat.le_of_ble_eq_true rfl) (Nat.le_of_ble_eq_true rfl) dX11_share_75 ?_
    refine V_topi h (fun v9 h => ?_)
    refine V_istore 78 [1, 2, 3, 4, 5, 6, 7, 8, 9, 10, 0] [(0, .ref (zad G 0)), (1, .int x1), (2, .int x2), (3, .int x3), (4, .int x4), (5, .int x5), (6, .int x6), (7, .int x7), (8, .int x8), (9, .int x9), (10, .int v9)] O dX11_share_78 (Nat.le_of_ble_eq_true rfl) rfl ?_
    refine V_iloadn 80 2 O dX11_share_80 rfl rfl ?_
    refine V_aloadn 81 0 O dX11_share_81 rfl rfl ?_
    refine V_getR 82 O k0 fl_X11_83 rf0_10 dX11_share_82 ?_
    refine V_iload 85 9 O dX11_share_85 rfl ?_
    refine V_iald 87 O k1 dX11_share_87 h (fun h => ?_)
    refine V_iload 88 10 O dX11_share_88 rfl ?_
    refine V_isub 90 O dX11_share_90 ?_
    refine V_min 91 O lk_X11_347 mm_imin.1 mm_imin.2.1 mm_imin.2.2 (Nat.le_of_ble_eq_true rfl) (Nat.le_of_ble_eq_true rfl) dX11_share_91 ?_
    refine V_topi h (fun v10 h => ?_)
    refine V_istore 94 [1, 2, 3, 4, 5, 6, 7, 8, 9, 10, 11, 0] [(0, .ref (zad G 0)), (1, .int x1), (2, .int x2), (3, .int x3), (4, .int x4), (5, .int x5), (6, .int x6), (7, .int x7), (8, .int x8), (9, .int x9), (10, .int v9), (11, .int v10)] O dX11_share_94 (Nat.le_of_ble_eq_true rfl) rfl ?_
    refine V_iload 96 11 O dX11_share_96 rfl ?_
    refine V_iloadn 98 2 O dX11_share_98 rfl rfl ?_
    refine V_icmp_ge 99 112 O dX11_share_99 rfl h (fun h => ?_) (fun h => ?_)
    · exact V_sub [0, 1, 2, 3, 4, 5, 6, 7, 8, 9, 10, 11] rfl (b_X11_share_112 O E n rc61 H61 x1 x2 x3 x4 x5 x6 x7 x8 x9 v9 v10 σ  h)
    · refine V_iload 102 5 O dX11_share_102 rfl ?_
      refine V_iconst 104 O dX11_share_104 ci_m1 ?_
      refine V_icmp_ne 105 112 O dX11_share_105 rfl h (fun h => ?_) (fun h => ?_)
      · exact V_sub [0, 1, 2, 3, 4, 5, 6, 7, 8, 9, 10, 11] rfl (b_X11_share_112 O E n rc61 H61 x1 x2 x3 x4 x5 x6 x7 x8 x9 v9 v10 σ  h)
      · refine V_iload 108 9 O dX11_share_108 rfl ?_
        refine V_istore 110 [1, 2, 3, 4, 5, 0, 6, 7, 8, 9, 10, 11] [(0, .ref (zad G 0)), (1, .int x1), (2, .int x2), (3, .int x3), (4, .int x4), (5, .int x9), (6, .int x6), (7, .int x7), (8, .int x8), (9, .int x9), (10, .int v9), (11, .int v10)] O dX11_share_110 (Nat.le_of_ble_eq_true rfl) rfl ?_
        exact V_sub [0, 1, 2, 3, 4, 5, 6, 7, 8, 9, 10, 11] rfl (b_X11_share_112 O E n rc61 H61 x1 x2 x3 x4 x9 x6 x7 x8 x9 v9 v10 σ  h)
theorem bl_X11_share_61 {G : zG} {x : zX} {r : Int32} {τ : Sg} (O : zO G x cX11_share RX11 1 40 12) (E : zE G x (some (.int)) (some (.int r)) τ) (n : Nat) : ∀ (k : Nat) (x1 : Int32) (x2 : Int32) (x3 : Int32) (x4 : Int32) (x5 : Int32) (x6 : Int32) (x7 : Int32) (x8 : Int32) (x9 : Int32) (σ : Sg), s_X11_share_61 n k x1 x2 x3 x4 x5 x6 x7 x8 x9 σ = some (r, τ) → V G x σ [(0, .ref (zad G 0)), (1, .int x1), (2, .int x2), (3, .int x3), (4, .int x4), (5, .int x5), (6, .int x6), (7, .int x7), (8, .int x8), (9, .int x9)] 61 [] := by
  intro k
  induction k with
  | zero => intro x1 x2 x3 x4 x5 x6 x7 x8 x9 σ  h; cases h
  | succ k ih => intro x1 x2 x3 x4 x5 x6 x7 x8 x9 σ  h; exact b_X11_share_61 O E n  (s_X11_share_61 n  k) ih x1 x2 x3 x4 x5 x6 x7 x8 x9 σ  h
set_option maxRecDepth 20000 in
theorem C_X11_share {l : Launch} {G : zG} {n : Nat} {x1 : Int32} {x2 : Int32} {x3 : Int32} {x4 : Int32} {σ : Sg} {r : Int32} {τ : Sg} (h : s_X11_share n x1 x2 x3 x4 σ = some (r, τ)) : zM l G 1 yX11_share (.code yX11_share cX11_share 12 (some (.int))) [.ref (zad G 0), .int x1, .int x2, .int x3, .int x4] σ (some (.int r)) τ := by
  refine zM_of (by decide) (Nat.le_of_ble_eq_true rfl) (fun x O E => ?_)
  have O : zO G x cX11_share RX11 1 40 12 := O
  unfold s_X11_share at h
  show V G x σ [(0, .ref (zad G 0)), (1, .int x1), (2, .int x2), (3, .int x3), (4, .int x4)] 0 []
  refine V_iloadn 0 1 O dX11_share_0 rfl rfl ?_
  refine V_iconst 1 O dX11_share_1 ci_0 ?_
  refine V_sipush 2 O dX11_share_2 cs_9999 ?_
  obtain ⟨r2, σ1, g, h⟩ := bd_of h
  refine V_callSi 5 [.int x1, .int (0 : Int32), .int (9999 : Int32)] [] O mf_X11_isOutside lk_X11_94 dX11_share_5 rfl rfl (Nat.le_of_ble_eq_true rfl) ⟨(Nat.le_of_ble_eq_true rfl), (Nat.le_of_ble_eq_true rfl)⟩ (fun l => C_X11_isOutside  g) ?_
  refine V_if_ne 8 42 O dX11_share_8 rfl h (fun h => ?_) (fun h => ?_)
  · refine V_sipush 42 O dX11_share_42 cs_m1002 ?_
    exact V_iret 45 O E dX11_share_45 h
  · refine V_iloadn 11 2 O dX11_share_11 rfl rfl ?_
    refine V_iconst 12 O dX11_share_12 ci_0 ?_
    refine V_sipush 13 O dX11_share_13 cs_9999 ?_
    obtain ⟨r4, σ3, g, h⟩ := bd_of h
    refine V_callSi 16 [.int x2, .int (0 : Int32), .int (9999 : Int32)] [] O mf_X11_isOutside lk_X11_94 dX11_share_16 rfl rfl (Nat.le_of_ble_eq_true rfl) ⟨(Nat.le_of_ble_eq_true rfl), (Nat.le_of_ble_eq_true rfl)⟩ (fun l => C_X11_isOutside  g) ?_
    refine V_if_ne 19 42 O dX11_share_19 rfl h (fun h => ?_) (fun h => ?_)
    · refine V_sipush 42 O dX11_share_42 cs_m1002 ?_
      exact V_iret 45 O E dX11_share_45 h
    · refine V_iloadn 22 3 O dX11_share_22 rfl rfl ?_
      refine V_iconst 23 O dX11_share_23 ci_0 ?_
      refine V_bipush 24 O dX11_share_24 cb_30 ?_
      obtain ⟨r6, σ5, g, h⟩ := bd_of h
      refine V_callSi 26 [.int x3, .int (0 : Int32), .int (30 : Int32)] [] O mf_X11_isOutside lk_X11_94 dX11_share_26 rfl rfl (Nat.le_of_ble_eq_true rfl) ⟨(Nat.le_of_ble_eq_true rfl), (Nat.le_of_ble_eq_true rfl)⟩ (fun l => C_X11_isOutside  g) ?_
      refine V_if_ne 29 42 O dX11_share_29 rfl h (fun h => ?_) (fun h => ?_)
      · refine V_sipush 42 O dX11_share_42 cs_m1002 ?_
        exact V_iret 45 O E dX11_share_45 h
      · refine V_iload 32 4 O dX11_share_32 rfl ?_
        refine V_iconst 34 O dX11_share_34 ci_0 ?_
        refine V_iconst 35 O dX11_share_35 ci_3 ?_
        obtain ⟨r8, σ7, g, h⟩ := bd_of h
        refine V_callSi 36 [.int x4, .int (0 : Int32), .int (3 : Int32)] [] O mf_X11_isOutside lk_X11_94 dX11_share_36 rfl rfl (Nat.le_of_ble_eq_true rfl) ⟨(Nat.le_of_ble_eq_true rfl), (Nat.le_of_ble_eq_true rfl)⟩ (fun l => C_X11_isOutside  g) ?_
        refine V_if_eq 39 46 O dX11_share_39 rfl h (fun h => ?_) (fun h => ?_)
        · refine V_iconst 46 O dX11_share_46 ci_m1 ?_
          refine V_istore 47 [1, 2, 3, 4, 5, 0] [(0, .ref (zad G 0)), (1, .int x1), (2, .int x2), (3, .int x3), (4, .int x4), (5, .int (-1 : Int32))] O dX11_share_47 (Nat.le_of_ble_eq_true rfl) rfl ?_
          refine V_iconst 49 O dX11_share_49 ci_0 ?_
          refine V_istore 50 [1, 2, 3, 4, 5, 6, 0] [(0, .ref (zad G 0)), (1, .int x1), (2, .int x2), (3, .int x3), (4, .int x4), (5, .int (-1 : Int32)), (6, .int (0 : Int32))] O dX11_share_50 (Nat.le_of_ble_eq_true rfl) rfl ?_
          refine V_iconst 52 O dX11_share_52 ci_0 ?_
          refine V_istore 53 [1, 2, 3, 4, 5, 6, 7, 0] [(0, .ref (zad G 0)), (1, .int x1), (2, .int x2), (3, .int x3), (4, .int x4), (5, .int (-1 : Int32)), (6, .int (0 : Int32)), (7, .int (0 : Int32))] O dX11_share_53 (Nat.le_of_ble_eq_true rfl) rfl ?_
          refine V_iconst 55 O dX11_share_55 ci_0 ?_
          refine V_istore 56 [1, 2, 3, 4, 5, 6, 7, 8, 0] [(0, .ref (zad G 0)), (1, .int x1), (2, .int x2), (3, .int x3), (4, .int x4), (5, .int (-1 : Int32)), (6, .int (0 : Int32)), (7, .int (0 : Int32)), (8, .int (0 : Int32))] O dX11_share_56 (Nat.le_of_ble_eq_true rfl) rfl ?_
          refine V_iconst 58 O dX11_share_58 ci_0 ?_
          refine V_istore 59 [1, 2, 3, 4, 5, 6, 7, 8, 9, 0] [(0, .ref (zad G 0)), (1, .int x1), (2, .int x2), (3, .int x3), (4, .int x4), (5, .int (-1 : Int32)), (6, .int (0 : Int32)), (7, .int (0 : Int32)), (8, .int (0 : Int32)), (9, .int (0 : Int32))] O dX11_share_59 (Nat.le_of_ble_eq_true rfl) rfl ?_
          exact V_sub [0, 1, 2, 3, 4, 5, 6, 7, 8, 9] rfl (bl_X11_share_61 O E n  n x1 x2 x3 x4 (-1 : Int32) (0 : Int32) (0 : Int32) (0 : Int32) (0 : Int32) σ7  h)
        · refine V_sipush 42 O dX11_share_42 cs_m1002 ?_
          exact V_iret 45 O E dX11_share_45 h
-- ==== WaterTown.gains()I
def s_X11_gains_4b (n : Nat) (rc4 : Int32 → Int32 → Sg → Option (Int32 × Sg)) (x1 : Int32) (x2 : Int32) (σ : Sg) : Option (Int32 × Sg) := if (σ 11 0) ≤ x2 then (some (x1, σ)) else (bd (s_X11_paysByMeter n x2 σ) fun r2 σ1 => bd (s_X11_paysByRooms n x2 σ1) fun r4 σ3 => if r4 ≤ r2 then (rc4 x1 (x2 + (1 : Int32)) σ3) else (rc4 (x1 + (1 : Int32)) (x2 + (1 : Int32)) σ3))
def s_X11_gains_4 (n : Nat) : Nat → Int32 → Int32 → Sg → Option (Int32 × Sg)
  | 0 => fun _ _ _ => none
  | k + 1 => s_X11_gains_4b n (s_X11_gains_4 n k)
def s_X11_gains (n : Nat) (σ : Sg) : Option (Int32 × Sg) := s_X11_gains_4 n n (0 : Int32) (0 : Int32) σ
set_option maxRecDepth 20000 in
theorem b_X11_gains_4 {G : zG} {x : zX} {r : Int32} {τ : Sg} (O : zO G x cX11_gains RX11 4 160 3) (E : zE G x (some (.int)) (some (.int r)) τ) (n : Nat) (rc4 : Int32 → Int32 → Sg → Option (Int32 × Sg)) (H4 : ∀ (x1 : Int32) (x2 : Int32) (σ : Sg), rc4 x1 x2 σ = some (r, τ) → V G x σ [(0, .ref (zad G 0)), (1, .int x1), (2, .int x2)] 4 []) (x1 : Int32) (x2 : Int32) (σ : Sg) (h : s_X11_gains_4b n rc4 x1 x2 σ = some (r, τ)) : V G x σ [(0, .ref (zad G 0)), (1, .int x1), (2, .int x2)] 4 [] := by
  unfold s_X11_gains_4b at h
  refine V_iloadn 4 2 O dX11_gains_4 rfl rfl ?_
  refine V_aloadn 5 0 O dX11_gains_5 rfl rfl ?_
  refine V_getR 6 O k0 fl_X11_19 rf0_1 dX11_gains_6 ?_
  refine V_getI 9 O k11 fl_X11_127 dX11_gains_9 ?_
  refine V_icmp_ge 12 37 O dX11_gains_12 rfl h (fun h => ?_) (fun h => ?_)
  · refine V_iloadn 37 1 O dX11_gains_37 rfl rfl ?_
    exact V_iret 38 O E dX11_gains_38 h
  · refine V_aloadn 15 0 O dX11_gains_15 rfl rfl ?_
    refine V_iloadn 16 2 O dX11_gains_16 rfl rfl ?_
    obtain ⟨r2, σ1, g, h⟩ := bd_of h
    refine V_callVi 17 [.int x2] [] O mf_X11_paysByMeter lk_X11_186 k0 dX11_gains_17 rfl rfl (Nat.le_of_ble_eq_true rfl) ⟨(Nat.le_of_ble_eq_true rfl), (Nat.le_of_ble_eq_true rfl)⟩ (fun l => C_X11_paysByMeter  g) ?_
    refine V_aloadn 20 0 O dX11_gains_20 rfl rfl ?_
    refine V_iloadn 21 2 O dX11_gains_21 rfl rfl ?_
    obtain ⟨r4, σ3, g, h⟩ := bd_of h
    refine V_callVi 22 [.int x2] [.int r2] O mf_X11_paysByRooms lk_X11_183 k0 dX11_gains_22 rfl rfl (Nat.le_of_ble_eq_true rfl) ⟨(Nat.le_of_ble_eq_true rfl), (Nat.le_of_ble_eq_true rfl)⟩ (fun l => C_X11_paysByRooms  g) ?_
    refine V_icmp_ge 25 31 O dX11_gains_25 rfl h (fun h => ?_) (fun h => ?_)
    · refine V_iinc 31 2 [1, 2, 0] [(0, .ref (zad G 0)), (1, .int x1), (2, .int (x2 + (1 : Int32)))] O dX11_gains_31 rfl ci_1 (Nat.le_of_ble_eq_true rfl) rfl ?_
      refine V_goto 34 4 O dX11_gains_34 rfl ?_
      exact V_sub [0, 1, 2] rfl (H4 x1 (x2 + (1 : Int32)) σ3  h)
    · refine V_iinc 28 1 [1, 0, 2] [(0, .ref (zad G 0)), (1, .int (x1 + (1 : Int32))), (2, .int x2)] O dX11_gains_28 rfl ci_1 (Nat.le_of_ble_eq_true rfl) rfl ?_
      refine V_iinc 31 2 [1, 2, 0] [(0, .ref (zad G 0)), (1, .int (x1 + (1 : Int32))), (2, .int (x2 + (1 : Int32)))] O dX11_gains_31 rfl ci_1 (Nat.le_of_ble_eq_true rfl) rfl ?_
      refine V_goto 34 4 O dX11_gains_34 rfl ?_
      exact V_sub [0, 1, 2] rfl (H4 (x1 + (1 : Int32)) (x2 + (1 : Int32)) σ3  h)
theorem bl_X11_gains_4 {G : zG} {x : zX} {r : Int32} {τ : Sg} (O : zO G x cX11_gains RX11 4 160 3) (E : zE G x (some (.int)) (some (.int r)) τ) (n : Nat) : ∀ (k : Nat) (x1 : Int32) (x2 : Int32) (σ : Sg), s_X11_gains_4 n k x1 x2 σ = some (r, τ) → V G x σ [(0, .ref (zad G 0)), (1, .int x1), (2, .int x2)] 4 [] := by
  intro k
  induction k with
  | zero => intro x1 x2 σ  h; cases h
  | succ k ih => intro x1 x2 σ  h; exact b_X11_gains_4 O E n  (s_X11_gains_4 n  k) ih x1 x2 σ  h
set_option maxRecDepth 20000 in
theorem C_X11_gains {l : Launch} {G : zG} {n : Nat} {σ : Sg} {r : Int32} {τ : Sg} (h : s_X11_gains n σ = some (r, τ)) : zM l G 4 yX11_gains (.code yX11_gains cX11_gains 3 (some (.int))) [.ref (zad G 0)] σ (some (.int r)) τ := by
  refine zM_of (by decide) (Nat.le_of_ble_eq_true rfl) (fun x O E => ?_)
  have O : zO G x cX11_gains RX11 4 160 3 := O
  unfold s_X11_gains at h
  show V G x σ [(0, .ref (zad G 0))] 0 []
  refine V_iconst 0 O dX11_gains_0 ci_0 ?_
  refine V_istoren 1 [1, 0] [(0, .ref (zad G 0)), (1, .int (0 : Int32))] O dX11_gains_1 rfl (Nat.le_of_ble_eq_true rfl) rfl ?_
  refine V_iconst 2 O dX11_gains_2 ci_0 ?_
  refine V_istoren 3 [1, 2, 0] [(0, .ref (zad G 0)), (1, .int (0 : Int32)), (2, .int (0 : Int32))] O dX11_gains_3 rfl (Nat.le_of_ble_eq_true rfl) rfl ?_
  exact V_sub [0, 1, 2] rfl (bl_X11_gains_4 O E n  n (0 : Int32) (0 : Int32) σ  h)
-- ==== WaterTown.beside(II)I
def s_X11_beside (n : Nat) (x1 : Int32) (x2 : Int32) (σ : Sg) : Option (Int32 × Sg) := bd (s_X11_isNode n x1 σ) fun r2 σ1 => if r2 = 0 then (some ((-1001 : Int32), σ1)) else (bd (s_X11_isOutside n x2 (0 : Int32) (999 : Int32) σ1) fun r4 σ3 => if r4 = 0 then (bd (s_X10_dryAgain n 22 (σ3 0 12) x1 x2 σ3) fun r6 σ5 => some (r6, σ5)) else (some ((-1002 : Int32), σ3)))
set_option maxRecDepth 20000 in
theorem C_X11_beside {l : Launch} {G : zG} {n : Nat} {x1 : Int32} {x2 : Int32} {σ : Sg} {r : Int32} {τ : Sg} (h : s_X11_beside n x1 x2 σ = some (r, τ)) : zM l G 6 yX11_beside (.code yX11_beside cX11_beside 3 (some (.int))) [.ref (zad G 0), .int x1, .int x2] σ (some (.int r)) τ := by
  refine zM_of (by decide) (Nat.le_of_ble_eq_true rfl) (fun x O E => ?_)
  have O : zO G x cX11_beside RX11 6 240 3 := O
  unfold s_X11_beside at h
  show V G x σ [(0, .ref (zad G 0)), (1, .int x1), (2, .int x2)] 0 []
  refine V_iloadn 0 1 O dX11_beside_0 rfl rfl ?_
  obtain ⟨r2, σ1, g, h⟩ := bd_of h
  refine V_callSi 1 [.int x1] [] O mf_X11_isNode lk_X11_90 dX11_beside_1 rfl rfl (Nat.le_of_ble_eq_true rfl) ⟨(Nat.le_of_ble_eq_true rfl), (Nat.le_of_ble_eq_true rfl)⟩ (fun l => C_X11_isNode  g) ?_
  refine V_if_ne 4 11 O dX11_beside_4 rfl h (fun h => ?_) (fun h => ?_)
  · refine V_iloadn 11 2 O dX11_beside_11 rfl rfl ?_
    refine V_iconst 12 O dX11_beside_12 ci_0 ?_
    refine V_sipush 13 O dX11_beside_13 cs_999 ?_
    obtain ⟨r4, σ3, g, h⟩ := bd_of h
    refine V_callSi 16 [.int x2, .int (0 : Int32), .int (999 : Int32)] [] O mf_X11_isOutside lk_X11_94 dX11_beside_16 rfl rfl (Nat.le_of_ble_eq_true rfl) ⟨(Nat.le_of_ble_eq_true rfl), (Nat.le_of_ble_eq_true rfl)⟩ (fun l => C_X11_isOutside  g) ?_
    refine V_if_eq 19 26 O dX11_beside_19 rfl h (fun h => ?_) (fun h => ?_)
    · refine V_aloadn 26 0 O dX11_beside_26 rfl rfl ?_
      refine V_getR 27 O k0 fl_X11_65 rf0_7 dX11_beside_27 ?_
      refine V_aloadn 30 0 O dX11_beside_30 rfl rfl ?_
      refine V_getR 31 O k0 fl_X11_26 rf0_2 dX11_beside_31 ?_
      refine V_aloadn 34 0 O dX11_beside_34 rfl rfl ?_
      refine V_getI 35 O k0 fl_X11_139 dX11_beside_35 ?_
      refine V_iloadn 38 1 O dX11_beside_38 rfl rfl ?_
      refine V_iloadn 39 2 O dX11_beside_39 rfl rfl ?_
      obtain ⟨r6, σ5, g, h⟩ := bd_of h
      refine V_callVi 40 [.ref (zad G 22), .int (σ3 0 12), .int x1, .int x2] [] O mf_X10_dryAgain lk_X11_352 k51 dX11_beside_40 rfl rfl (Nat.le_of_ble_eq_true rfl) ⟨(Nat.le_of_ble_eq_true rfl), (Nat.le_of_ble_eq_true rfl)⟩ (fun l => C_X10_dryAgain zStand22 g) ?_
      exact V_iret 43 O E dX11_beside_43 h
    · refine V_sipush 22 O dX11_beside_22 cs_m1002 ?_
      exact V_iret 25 O E dX11_beside_25 h
  · refine V_sipush 7 O dX11_beside_7 cs_m1001 ?_
    exact V_iret 10 O E dX11_beside_10 h
-- ==== WaterTownModel.in(JJJ)Z
def s_X12_in_17 (n : Nat) (σ : Sg) : Option (Int32 × Sg) := some ((0 : Int32), σ)
def s_X12_in (n : Nat) (x0 : Int64) (x2 : Int64) (x4 : Int64) (σ : Sg) : Option (Int32 × Sg) := if (lg_cmp x0 x2) < 0 then (s_X12_in_17 n σ) else (if 0 < (lg_cmp x0 x4) then (s_X12_in_17 n σ) else (some ((1 : Int32), σ)))
set_option maxRecDepth 20000 in
theorem b_X12_in_17 {G : zG} {x : zX} {r : Int32} {τ : Sg} (O : zO G x cX12_in RX12 0 0 6) (E : zE G x (some (.boolean)) (some (.int r)) τ) (n : Nat) (σ : Sg) (h : s_X12_in_17 n σ = some (r, τ)) : V G x σ [] 17 [] := by
  unfold s_X12_in_17 at h
  refine V_iconst 17 O dX12_in_17 ci_0 ?_
  exact V_zret0 18 O E dX12_in_18 h
set_option maxRecDepth 20000 in
theorem C_X12_in {l : Launch} {G : zG} {n : Nat} {x0 : Int64} {x2 : Int64} {x4 : Int64} {σ : Sg} {r : Int32} {τ : Sg} (h : s_X12_in n x0 x2 x4 σ = some (r, τ)) : zM l G 0 yX12_in (.code yX12_in cX12_in 6 (some (.boolean))) [.long x0, .long x2, .long x4] σ (some (.int r)) τ := by
  refine zM_of (by decide) (Nat.le_of_ble_eq_true rfl) (fun x O E => ?_)
  have O : zO G x cX12_in RX12 0 0 6 := O
  unfold s_X12_in at h
  show V G x σ [(0, .long x0), (2, .long x2), (4, .long x4)] 0 []
  refine V_lloadn 0 0 O dX12_in_0 rfl rfl ?_
  refine V_lloadn 1 1 O dX12_in_1 rfl rfl ?_
  refine V_lcmp 2 O dX12_in_2 ?_
  refine V_if_lt 3 17 O dX12_in_3 rfl h (fun h => ?_) (fun h => ?_)
  · exact V_sub [] rfl (b_X12_in_17 O E n   σ  h)
  · refine V_lloadn 6 0 O dX12_in_6 rfl rfl ?_
    refine V_lload 7 2 O dX12_in_7 rfl ?_
    refine V_lcmp 9 O dX12_in_9 ?_
    refine V_if_gt 10 17 O dX12_in_10 rfl h (fun h => ?_) (fun h => ?_)
    · exact V_sub [] rfl (b_X12_in_17 O E n   σ  h)
    · refine V_iconst 13 O dX12_in_13 ci_1 ?_
      refine V_goto 14 18 O dX12_in_14 rfl ?_
      exact V_zret1 18 O E dX12_in_18 h
-- ==== WaterTownModel.one(Z)I
def s_X12_one (n : Nat) (x0 : Int32) (σ : Sg) : Option (Int32 × Sg) := if x0 = 0 then (some ((0 : Int32), σ)) else (some ((1 : Int32), σ))
set_option maxRecDepth 20000 in
theorem C_X12_one {l : Launch} {G : zG} {n : Nat} {x0 : Int32} {σ : Sg} {r : Int32} {τ : Sg} (h : s_X12_one n x0 σ = some (r, τ)) : zM l G 0 yX12_one (.code yX12_one cX12_one 1 (some (.int))) [.int x0] σ (some (.int r)) τ := by
  refine zM_of (by decide) (Nat.le_of_ble_eq_true rfl) (fun x O E => ?_)
  have O : zO G x cX12_one RX12 0 0 1 := O
  unfold s_X12_one at h
  show V G x σ [(0, .int x0)] 0 []
  refine V_iloadn 0 0 O dX12_one_0 rfl rfl ?_
  refine V_if_eq 1 8 O dX12_one_1 rfl h (fun h => ?_) (fun h => ?_)
  · refine V_iconst 8 O dX12_one_8 ci_0 ?_
    exact V_iret 9 O E dX12_one_9 h
  · refine V_iconst 4 O dX12_one_4 ci_1 ?_
    refine V_goto 5 9 O dX12_one_5 rfl ?_
    exact V_iret 9 O E dX12_one_9 h
-- ==== WaterTownModel.isNode(I)Z
def s_X12_isNode (n : Nat) (x0 : Int32) (σ : Sg) : Option (Int32 × Sg) := bd (s_X12_in n x0.toInt64 (0 : Int64) (9 : Int64) σ) fun r2 σ1 => bck r2 (some (r2, σ1))
set_option maxRecDepth 20000 in
theorem C_X12_isNode {l : Launch} {G : zG} {n : Nat} {x0 : Int32} {σ : Sg} {r : Int32} {τ : Sg} (h : s_X12_isNode n x0 σ = some (r, τ)) : zM l G 1 yX12_isNode (.code yX12_isNode cX12_isNode 1 (some (.boolean))) [.int x0] σ (some (.int r)) τ := by
  refine zM_of (by decide) (Nat.le_of_ble_eq_true rfl) (fun x O E => ?_)
  have O : zO G x cX12_isNode RX12 1 40 1 := O
  unfold s_X12_isNode at h
  show V G x σ [(0, .int x0)] 0 []
  refine V_iloadn 0 0 O dX12_isNode_0 rfl rfl ?_
  refine V_i2l 1 O dX12_isNode_1 ?_
  refine V_lconst 2 O dX12_isNode_2 cl_0 ?_
  refine V_ldc2 3 O dX12_isNode_3 ld_X12_160 ?_
  obtain ⟨r2, σ1, g, h⟩ := bd_of h
  refine V_callSi 6 [.long x0.toInt64, .long (0 : Int64), .long (9 : Int64)] [] O mf_X12_in lk_X12_162 dX12_isNode_6 rfl rfl (Nat.le_of_ble_eq_true rfl) ⟨(Nat.le_of_ble_eq_true rfl), (Nat.le_of_ble_eq_true rfl)⟩ (fun l => C_X12_in  g) ?_
  exact V_zret 9 O E dX12_isNode_9 h
-- ==== WaterTownModel.isHour(I)Z
def s_X12_isHour (n : Nat) (x0 : Int32) (σ : Sg) : Option (Int32 × Sg) := bd (s_X12_in n x0.toInt64 (0 : Int64) (23 : Int64) σ) fun r2 σ1 => bck r2 (some (r2, σ1))
set_option maxRecDepth 20000 in
theorem C_X12_isHour {l : Launch} {G : zG} {n : Nat} {x0 : Int32} {σ : Sg} {r : Int32} {τ : Sg} (h : s_X12_isHour n x0 σ = some (r, τ)) : zM l G 1 yX12_isHour (.code yX12_isHour cX12_isHour 1 (some (.boolean))) [.int x0] σ (some (.int r)) τ := by
  refine zM_of (by decide) (Nat.le_of_ble_eq_true rfl) (fun x O E => ?_)
  have O : zO G x cX12_isHour RX12 1 40 1 := O
  unfold s_X12_isHour at h
  show V G x σ [(0, .int x0)] 0 []
  refine V_iloadn 0 0 O dX12_isHour_0 rfl rfl ?_
  refine V_i2l 1 O dX12_isHour_1 ?_
  refine V_lconst 2 O dX12_isHour_2 cl_0 ?_
  refine V_ldc2 3 O dX12_isHour_3 ld_X12_166 ?_
  obtain ⟨r2, σ1, g, h⟩ := bd_of h
  refine V_callSi 6 [.long x0.toInt64, .long (0 : Int64), .long (23 : Int64)] [] O mf_X12_in lk_X12_162 dX12_isHour_6 rfl rfl (Nat.le_of_ble_eq_true rfl) ⟨(Nat.le_of_ble_eq_true rfl), (Nat.le_of_ble_eq_true rfl)⟩ (fun l => C_X12_in  g) ?_
  exact V_zret 9 O E dX12_isHour_9 h
-- ==== WaterTownModel.least(II)I
def s_X12_least (n : Nat) (x0 : Int32) (x1 : Int32) (σ : Sg) : Option (Int32 × Sg) := if x1 ≤ x0 then (some (x1, σ)) else (some (x0, σ))
set_option maxRecDepth 20000 in
theorem C_X12_least {l : Launch} {G : zG} {n : Nat} {x0 : Int32} {x1 : Int32} {σ : Sg} {r : Int32} {τ : Sg} (h : s_X12_least n x0 x1 σ = some (r, τ)) : zM l G 0 yX12_least (.code yX12_least cX12_least 2 (some (.int))) [.int x0, .int x1] σ (some (.int r)) τ := by
  refine zM_of (by decide) (Nat.le_of_ble_eq_true rfl) (fun x O E => ?_)
  have O : zO G x cX12_least RX12 0 0 2 := O
  unfold s_X12_least at h
  show V G x σ [(0, .int x0), (1, .int x1)] 0 []
  refine V_iloadn 0 0 O dX12_least_0 rfl rfl ?_
  refine V_iloadn 1 1 O dX12_least_1 rfl rfl ?_
  refine V_icmp_ge 2 9 O dX12_least_2 rfl h (fun h => ?_) (fun h => ?_)
  · refine V_iloadn 9 1 O dX12_least_9 rfl rfl ?_
    exact V_iret 10 O E dX12_least_10 h
  · refine V_iloadn 5 0 O dX12_least_5 rfl rfl ?_
    refine V_goto 6 10 O dX12_least_6 rfl ?_
    exact V_iret 10 O E dX12_least_10 h
-- ==== WaterTownModel.noPipe(I)Z
def s_X12_noPipe (n : Nat) (x1 : Int32) (σ : Sg) : Option (Int32 × Sg) := bd (s_X12_in n x1.toInt64 (0 : Int64) (((σ 71 2) - (1 : Int32)).toInt64) σ) fun r2 σ1 => if r2 = 0 then (some ((1 : Int32), σ1)) else (some ((0 : Int32), σ1))
set_option maxRecDepth 20000 in
theorem C_X12_noPipe {l : Launch} {G : zG} {n : Nat} {x1 : Int32} {σ : Sg} {r : Int32} {τ : Sg} (h : s_X12_noPipe n x1 σ = some (r, τ)) : zM l G 1 yX12_noPipe (.code yX12_noPipe cX12_noPipe 2 (some (.boolean))) [.ref (zad G 71), .int x1] σ (some (.int r)) τ := by
  refine zM_of (by decide) (Nat.le_of_ble_eq_true rfl) (fun x O E => ?_)
  have O : zO G x cX12_noPipe RX12 1 40 2 := O
  unfold s_X12_noPipe at h
  show V G x σ [(0, .ref (zad G 71)), (1, .int x1)] 0 []
  refine V_iloadn 0 1 O dX12_noPipe_0 rfl rfl ?_
  refine V_i2l 1 O dX12_noPipe_1 ?_
  refine V_lconst 2 O dX12_noPipe_2 cl_0 ?_
  refine V_aloadn 3 0 O dX12_noPipe_3 rfl rfl ?_
  refine V_getI 4 O k71 fl_X12_168 dX12_noPipe_4 ?_
  refine V_iconst 7 O dX12_noPipe_7 ci_1 ?_
  refine V_isub 8 O dX12_noPipe_8 ?_
  refine V_i2l 9 O dX12_noPipe_9 ?_
  obtain ⟨r2, σ1, g, h⟩ := bd_of h
  refine V_callSi 10 [.long x1.toInt64, .long (0 : Int64), .long (((σ 71 2) - (1 : Int32)).toInt64)] [] O mf_X12_in lk_X12_162 dX12_noPipe_10 rfl rfl (Nat.le_of_ble_eq_true rfl) ⟨(Nat.le_of_ble_eq_true rfl), (Nat.le_of_ble_eq_true rfl)⟩ (fun l => C_X12_in  g) ?_
  refine V_if_ne 13 20 O dX12_noPipe_13 rfl h (fun h => ?_) (fun h => ?_)
  · refine V_iconst 20 O dX12_noPipe_20 ci_0 ?_
    exact V_zret0 21 O E dX12_noPipe_21 h
  · refine V_iconst 16 O dX12_noPipe_16 ci_1 ?_
    refine V_goto 17 21 O dX12_noPipe_17 rfl ?_
    exact V_zret1 21 O E dX12_noPipe_21 h
-- ==== WaterTownModel.noStreet(I)Z
def s_X12_noStreet (n : Nat) (x1 : Int32) (σ : Sg) : Option (Int32 × Sg) := bd (s_X12_in n x1.toInt64 (0 : Int64) (((σ 71 11) - (1 : Int32)).toInt64) σ) fun r2 σ1 => if r2 = 0 then (some ((1 : Int32), σ1)) else (some ((0 : Int32), σ1))
set_option maxRecDepth 20000 in
theorem C_X12_noStreet {l : Launch} {G : zG} {n : Nat} {x1 : Int32} {σ : Sg} {r : Int32} {τ : Sg} (h : s_X12_noStreet n x1 σ = some (r, τ)) : zM l G 1 yX12_noStreet (.code yX12_noStreet cX12_noStreet 2 (some (.boolean))) [.ref (zad G 71), .int x1] σ (some (.int r)) τ := by
  refine zM_of (by decide) (Nat.le_of_ble_eq_true rfl) (fun x O E => ?_)
  have O : zO G x cX12_noStreet RX12 1 40 2 := O
  unfold s_X12_noStreet at h
  show V G x σ [(0, .ref (zad G 71)), (1, .int x1)] 0 []
  refine V_iloadn 0 1 O dX12_noStreet_0 rfl rfl ?_
  refine V_i2l 1 O dX12_noStreet_1 ?_
  refine V_lconst 2 O dX12_noStreet_2 cl_0 ?_
  refine V_aloadn 3 0 O dX12_noStreet_3 rfl rfl ?_
  refine V_getI 4 O k71 fl_X12_171 dX12_noStreet_4 ?_
  refine V_iconst 7 O dX12_noStreet_7 ci_1 ?_
  refine V_isub 8 O dX12_noStreet_8 ?_
  refine V_i2l 9 O dX12_noStreet_9 ?_
  obtain ⟨r2, σ1, g, h⟩ := bd_of h
  refine V_callSi 10 [.long x1.toInt64, .long (0 : Int64), .long (((σ 71 11) - (1 : Int32)).toInt64)] [] O mf_X12_in lk_X12_162 dX12_noStreet_10 rfl rfl (Nat.le_of_ble_eq_true rfl) ⟨(Nat.le_of_ble_eq_true rfl), (Nat.le_of_ble_eq_true rfl)⟩ (fun l => C_X12_in  g) ?_
  refine V_if_ne 13 20 O dX12_noStreet_13 rfl h (fun h => ?_) (fun h => ?_)
  · refine V_iconst 20 O dX12_noStreet_20 ci_0 ?_
    exact V_zret0 21 O E dX12_noStreet_21 h
  · refine V_iconst 16 O dX12_noStreet_16 ci_1 ?_
    refine V_goto 17 21 O dX12_noStreet_17 rfl ?_
    exact V_zret1 21 O E dX12_noStreet_21 h
-- ==== WaterTownModel.pipe(IIII)I
def s_X12_pipe (n : Nat) (x1 : Int32) (x2 : Int32) (x3 : Int32) (x4 : Int32) (σ : Sg) : Option (Int32 × Sg) := bd (s_X12_isNode n x1 σ) fun r2 σ1 => if r2 = 0 then (some ((-1001 : Int32), σ1)) else (bd (s_X12_isNode n x2 σ1) fun r4 σ3 => if r4 = 0 then (some ((-1001 : Int32), σ3)) else (if x1 = x2 then (some ((-1002 : Int32), σ3)) else (bd (s_X12_in n x3.toInt64 (1 : Int64) (999 : Int64) σ3) fun r6 σ5 => if r6 = 0 then (some ((-1002 : Int32), σ5)) else (bd (s_X12_in n x4.toInt64 (0 : Int64) (99 : Int64) σ5) fun r8 σ7 => if r8 = 0 then (some ((-1002 : Int32), σ7)) else (if (σ7 71 2) = (20 : Int32) then (some ((-1004 : Int32), σ7)) else (ck (σ7 71 2) 20 (lt (up2 σ7 73 (ix (σ7 71 2)) x1) fun σ9 => ck (σ9 71 2) 20 (lt (up2 σ9 74 (ix (σ9 71 2)) x2) fun σ10 => ck (σ10 71 2) 20 (lt (up2 σ10 75 (ix (σ10 71 2)) x1) fun σ11 => ck (σ11 71 2) 20 (lt (up2 σ11 76 (ix (σ11 71 2)) x2) fun σ12 => ck (σ12 71 2) 20 (lt (up2 σ12 77 (ix (σ12 71 2)) x3) fun σ13 => ck (σ13 71 2) 20 (lt (up2 σ13 78 (ix (σ13 71 2)) x4) fun σ14 => ck (σ14 71 2) 20 (lt (up2 σ14 80 (ix (σ14 71 2)) (-1 : Int32)) fun σ15 => lt (up2 σ15 71 2 ((σ15 71 2) + (1 : Int32))) fun σ16 => some ((σ16 71 2) - (1 : Int32), σ16))))))))))))))
set_option maxRecDepth 20000 in
theorem C_X12_pipe {l : Launch} {G : zG} {n : Nat} {x1 : Int32} {x2 : Int32} {x3 : Int32} {x4 : Int32} {σ : Sg} {r : Int32} {τ : Sg} (h : s_X12_pipe n x1 x2 x3 x4 σ = some (r, τ)) : zM l G 2 yX12_pipe (.code yX12_pipe cX12_pipe 5 (some (.int))) [.ref (zad G 71), .int x1, .int x2, .int x3, .int x4] σ (some (.int r)) τ := by
  refine zM_of (by decide) (Nat.le_of_ble_eq_true rfl) (fun x O E => ?_)
  have O : zO G x cX12_pipe RX12 2 80 5 := O
  unfold s_X12_pipe at h
  show V G x σ [(0, .ref (zad G 71)), (1, .int x1), (2, .int x2), (3, .int x3), (4, .int x4)] 0 []
  refine V_iloadn 0 1 O dX12_pipe_0 rfl rfl ?_
  obtain ⟨r2, σ1, g, h⟩ := bd_of h
  refine V_callSi 1 [.int x1] [] O mf_X12_isNode lk_X12_174 dX12_pipe_1 rfl rfl (Nat.le_of_ble_eq_true rfl) ⟨(Nat.le_of_ble_eq_true rfl), (Nat.le_of_ble_eq_true rfl)⟩ (fun l => C_X12_isNode  g) ?_
  refine V_if_eq 4 14 O dX12_pipe_4 rfl h (fun h => ?_) (fun h => ?_)
  · refine V_sipush 14 O dX12_pipe_14 cs_m1001 ?_
    exact V_iret 17 O E dX12_pipe_17 h
  · refine V_iloadn 7 2 O dX12_pipe_7 rfl rfl ?_
    obtain ⟨r4, σ3, g, h⟩ := bd_of h
    refine V_callSi 8 [.int x2] [] O mf_X12_isNode lk_X12_174 dX12_pipe_8 rfl rfl (Nat.le_of_ble_eq_true rfl) ⟨(Nat.le_of_ble_eq_true rfl), (Nat.le_of_ble_eq_true rfl)⟩ (fun l => C_X12_isNode  g) ?_
    refine V_if_ne 11 18 O dX12_pipe_11 rfl h (fun h => ?_) (fun h => ?_)
    · refine V_iloadn 18 1 O dX12_pipe_18 rfl rfl ?_
      refine V_iloadn 19 2 O dX12_pipe_19 rfl rfl ?_
      refine V_icmp_eq 20 48 O dX12_pipe_20 rfl h (fun h => ?_) (fun h => ?_)
      · refine V_sipush 48 O dX12_pipe_48 cs_m1002 ?_
        exact V_iret 51 O E dX12_pipe_51 h
      · refine V_iloadn 23 3 O dX12_pipe_23 rfl rfl ?_
        refine V_i2l 24 O dX12_pipe_24 ?_
        refine V_lconst 25 O dX12_pipe_25 cl_1 ?_
        refine V_ldc2 26 O dX12_pipe_26 ld_X12_178 ?_
        obtain ⟨r6, σ5, g, h⟩ := bd_of h
        refine V_callSi 29 [.long x3.toInt64, .long (1 : Int64), .long (999 : Int64)] [] O mf_X12_in lk_X12_162 dX12_pipe_29 rfl rfl (Nat.le_of_ble_eq_true rfl) ⟨(Nat.le_of_ble_eq_true rfl), (Nat.le_of_ble_eq_true rfl)⟩ (fun l => C_X12_in  g) ?_
        refine V_if_eq 32 48 O dX12_pipe_32 rfl h (fun h => ?_) (fun h => ?_)
        · refine V_sipush 48 O dX12_pipe_48 cs_m1002 ?_
          exact V_iret 51 O E dX12_pipe_51 h
        · refine V_iload 35 4 O dX12_pipe_35 rfl ?_
          refine V_i2l 37 O dX12_pipe_37 ?_
          refine V_lconst 38 O dX12_pipe_38 cl_0 ?_
          refine V_ldc2 39 O dX12_pipe_39 ld_X12_180 ?_
          obtain ⟨r8, σ7, g, h⟩ := bd_of h
          refine V_callSi 42 [.long x4.toInt64, .long (0 : Int64), .long (99 : Int64)] [] O mf_X12_in lk_X12_162 dX12_pipe_42 rfl rfl (Nat.le_of_ble_eq_true rfl) ⟨(Nat.le_of_ble_eq_true rfl), (Nat.le_of_ble_eq_true rfl)⟩ (fun l => C_X12_in  g) ?_
          refine V_if_ne 45 52 O dX12_pipe_45 rfl h (fun h => ?_) (fun h => ?_)
          · refine V_aloadn 52 0 O dX12_pipe_52 rfl rfl ?_
            refine V_getI 53 O k71 fl_X12_168 dX12_pipe_53 ?_
            refine V_bipush 56 O dX12_pipe_56 cb_20 ?_
            refine V_icmp_ne 58 65 O dX12_pipe_58 rfl h (fun h => ?_) (fun h => ?_)
            · refine V_aloadn 65 0 O dX12_pipe_65 rfl rfl ?_
              refine V_getR 66 O k71 fl_X12_13 rf71_3 dX12_pipe_66 ?_
              refine V_aloadn 69 0 O dX12_pipe_69 rfl rfl ?_
              refine V_getI 70 O k71 fl_X12_168 dX12_pipe_70 ?_
              refine V_iloadn 73 1 O dX12_pipe_73 rfl rfl ?_
              refine V_iast 74 O k73 dX12_pipe_74 h (fun σ9 h => ?_)
              refine V_aloadn 75 0 O dX12_pipe_75 rfl rfl ?_
              refine V_getR 76 O k71 fl_X12_16 rf71_4 dX12_pipe_76 ?_
              refine V_aloadn 79 0 O dX12_pipe_79 rfl rfl ?_
              refine V_getI 80 O k71 fl_X12_168 dX12_pipe_80 ?_
              refine V_iloadn 83 2 O dX12_pipe_83 rfl rfl ?_
              refine V_iast 84 O k74 dX12_pipe_84 h (fun σ10 h => ?_)
              refine V_aloadn 85 0 O dX12_pipe_85 rfl rfl ?_
              refine V_getR 86 O k71 fl_X12_19 rf71_5 dX12_pipe_86 ?_
              refine V_aloadn 89 0 O dX12_pipe_89 rfl rfl ?_
              refine V_getI 90 O k71 fl_X12_168 dX12_pipe_90 ?_
              refine V_iloadn 93 1 O dX12_pipe_93 rfl rfl ?_
              refine V_iast 94 O k75 dX12_pipe_94 h (fun σ11 h => ?_)
              refine V_aloadn 95 0 O dX12_pipe_95 rfl rfl ?_
              refine V_getR 96 O k71 fl_X12_22 rf71_6 dX12_pipe_96 ?_
              refine V_aloadn 99 0 O dX12_pipe_99 rfl rfl ?_
              refine V_getI 100 O k71 fl_X12_168 dX12_pipe_100 ?_
              refine V_iloadn 103 2 O dX12_pipe_103 rfl rfl ?_
              refine V_iast 104 O k76 dX12_pipe_104 h (fun σ12 h => ?_)
              refine V_aloadn 105 0 O dX12_pipe_105 rfl rfl ?_
              refine V_getR 106 O k71 fl_X12_25 rf71_7 dX12_pipe_106 ?_
              refine V_aloadn 109 0 O dX12_pipe_109 rfl rfl ?_
              refine V_getI 110 O k71 fl_X12_168 dX12_pipe_110 ?_
              refine V_iloadn 113 3 O dX12_pipe_113 rfl rfl ?_
              refine V_iast 114 O k77 dX12_pipe_114 h (fun σ13 h => ?_)
              refine V_aloadn 115 0 O dX12_pipe_115 rfl rfl ?_
              refine V_getR 116 O k71 fl_X12_28 rf71_8 dX12_pipe_116 ?_
              refine V_aloadn 119 0 O dX12_pipe_119 rfl rfl ?_
              refine V_getI 120 O k71 fl_X12_168 dX12_pipe_120 ?_
              refine V_iload 123 4 O dX12_pipe_123 rfl ?_
              refine V_iast 125 O k78 dX12_pipe_125 h (fun σ14 h => ?_)
              refine V_aloadn 126 0 O dX12_pipe_126 rfl rfl ?_
              refine V_getR 127 O k71 fl_X12_35 rf71_10 dX12_pipe_127 ?_
              refine V_aloadn 130 0 O dX12_pipe_130 rfl rfl ?_
              refine V_getI 131 O k71 fl_X12_168 dX12_pipe_131 ?_
              refine V_iconst 134 O dX12_pipe_134 ci_m1 ?_
              refine V_iast 135 O k80 dX12_pipe_135 h (fun σ15 h => ?_)
              refine V_aloadn 136 0 O dX12_pipe_136 rfl rfl ?_
              refine V_dup 137 O dX12_pipe_137 rfl ?_
              refine V_getI 138 O k71 fl_X12_168 dX12_pipe_138 ?_
              refine V_iconst 141 O dX12_pipe_141 ci_1 ?_
              refine V_iadd 142 O dX12_pipe_142 ?_
              refine V_put 143 O k71 fp_X12_168 dX12_pipe_143 h (fun σ16 h => ?_)
              refine V_aloadn 146 0 O dX12_pipe_146 rfl rfl ?_
              refine V_getI 147 O k71 fl_X12_168 dX12_pipe_147 ?_
              refine V_iconst 150 O dX12_pipe_150 ci_1 ?_
              refine V_isub 151 O dX12_pipe_151 ?_
              exact V_iret 152 O E dX12_pipe_152 h
            · refine V_sipush 61 O dX12_pipe_61 cs_m1004 ?_
              exact V_iret 64 O E dX12_pipe_64 h
          · refine V_sipush 48 O dX12_pipe_48 cs_m1002 ?_
            exact V_iret 51 O E dX12_pipe_51 h
    · refine V_sipush 14 O dX12_pipe_14 cs_m1001 ?_
      exact V_iret 17 O E dX12_pipe_17 h
-- ==== WaterTownModel.shut(IZ)I
def s_X12_shut (n : Nat) (x1 : Int32) (x2 : Int32) (σ : Sg) : Option (Int32 × Sg) := bd (s_X12_noPipe n x1 σ) fun r2 σ1 => if r2 = 0 then (ck x1 20 (bd (s_X12_one n (σ1 79 (ix x1)) σ1) fun r4 σ3 => ck x1 20 (lt (up2 σ3 79 (ix x1) (vp_nar .boolean x2)) fun σ5 => some (r4, σ5)))) else (some ((-1001 : Int32), σ1))
set_option maxRecDepth 20000 in
theorem C_X12_shut {l : Launch} {G : zG} {n : Nat} {x1 : Int32} {x2 : Int32} {σ : Sg} {r : Int32} {τ : Sg} (h : s_X12_shut n x1 x2 σ = some (r, τ)) : zM l G 2 yX12_shut (.code yX12_shut cX12_shut 4 (some (.int))) [.ref (zad G 71), .int x1, .int x2] σ (some (.int r)) τ := by
  refine zM_of (by decide) (Nat.le_of_ble_eq_true rfl) (fun x O E => ?_)
  have O : zO G x cX12_shut RX12 2 80 4 := O
  unfold s_X12_shut at h
  show V G x σ [(0, .ref (zad G 71)), (1, .int x1), (2, .int x2)] 0 []
  refine V_aloadn 0 0 O dX12_shut_0 rfl rfl ?_
  refine V_iloadn 1 1 O dX12_shut_1 rfl rfl ?_
  obtain ⟨r2, σ1, g, h⟩ := bd_of h
  refine V_callVi 2 [.int x1] [] O mf_X12_noPipe lk_X12_182 k71 dX12_shut_2 rfl rfl (Nat.le_of_ble_eq_true rfl) ⟨(Nat.le_of_ble_eq_true rfl), (Nat.le_of_ble_eq_true rfl)⟩ (fun l => C_X12_noPipe  g) ?_
  refine V_if_eq 5 12 O dX12_shut_5 rfl h (fun h => ?_) (fun h => ?_)
  · refine V_aloadn 12 0 O dX12_shut_12 rfl rfl ?_
    refine V_getR 13 O k71 fl_X12_31 rf71_9 dX12_shut_13 ?_
    refine V_iloadn 16 1 O dX12_shut_16 rfl rfl ?_
    refine V_zald 17 O k79 dX12_shut_17 h (fun h => ?_)
    obtain ⟨r4, σ3, g, h⟩ := bd_of h
    refine V_callSi 18 [.int (σ1 79 (ix x1))] [] O mf_X12_one lk_X12_185 dX12_shut_18 rfl rfl (Nat.le_of_ble_eq_true rfl) ⟨(Nat.le_of_ble_eq_true rfl), (Nat.le_of_ble_eq_true rfl)⟩ (fun l => C_X12_one  g) ?_
    refine V_istoren 21 [1, 2, 3, 0] [(0, .ref (zad G 71)), (1, .int x1), (2, .int x2), (3, .int r4)] O dX12_shut_21 rfl (Nat.le_of_ble_eq_true rfl) rfl ?_
    refine V_aloadn 22 0 O dX12_shut_22 rfl rfl ?_
    refine V_getR 23 O k71 fl_X12_31 rf71_9 dX12_shut_23 ?_
    refine V_iloadn 26 1 O dX12_shut_26 rfl rfl ?_
    refine V_iloadn 27 2 O dX12_shut_27 rfl rfl ?_
    refine V_zast 28 O k79 dX12_shut_28 h (fun σ5 h => ?_)
    refine V_iloadn 29 3 O dX12_shut_29 rfl rfl ?_
    exact V_iret 30 O E dX12_shut_30 h
  · refine V_sipush 8 O dX12_shut_8 cs_m1001 ?_
    exact V_iret 11 O E dX12_shut_11 h
-- ==== WaterTownModel.leak(II)I
def s_X12_leak (n : Nat) (x1 : Int32) (x2 : Int32) (σ : Sg) : Option (Int32 × Sg) := bd (s_X12_noPipe n x1 σ) fun r2 σ1 => if r2 = 0 then (bd (s_X12_in n x2.toInt64 (0 : Int64) (99 : Int64) σ1) fun r4 σ3 => if r4 = 0 then (some ((-1002 : Int32), σ3)) else (ck x1 20 (lt (σ3 78 (ix x1)) fun v5 => ck x1 20 (lt (up2 σ3 78 (ix x1) x2) fun σ6 => some (v5, σ6))))) else (some ((-1001 : Int32), σ1))
set_option maxRecDepth 20000 in
theorem C_X12_leak {l : Launch} {G : zG} {n : Nat} {x1 : Int32} {x2 : Int32} {σ : Sg} {r : Int32} {τ : Sg} (h : s_X12_leak n x1 x2 σ = some (r, τ)) : zM l G 2 yX12_leak (.code yX12_leak cX12_leak 4 (some (.int))) [.ref (zad G 71), .int x1, .int x2] σ (some (.int r)) τ := by
  refine zM_of (by decide) (Nat.le_of_ble_eq_true rfl) (fun x O E => ?_)
  have O : zO G x cX12_leak RX12 2 80 4 := O
  unfold s_X12_leak at h
  show V G x σ [(0, .ref (zad G 71)), (1, .int x1), (2, .int x2)] 0 []
  refine V_aloadn 0 0 O dX12_leak_0 rfl rfl ?_
  refine V_iloadn 1 1 O dX12_leak_1 rfl rfl ?_
  obtain ⟨r2, σ1, g, h⟩ := bd_of h
  refine V_callVi 2 [.int x1] [] O mf_X12_noPipe lk_X12_182 k71 dX12_leak_2 rfl rfl (Nat.le_of_ble_eq_true rfl) ⟨(Nat.le_of_ble_eq_true rfl), (Nat.le_of_ble_eq_true rfl)⟩ (fun l => C_X12_noPipe  g) ?_
  refine V_if_eq 5 12 O dX12_leak_5 rfl h (fun h => ?_) (fun h => ?_)
  · refine V_iloadn 12 2 O dX12_leak_12 rfl rfl ?_
    refine V_i2l 13 O dX12_leak_13 ?_
    refine V_lconst 14 O dX12_leak_14 cl_0 ?_
    refine V_ldc2 15 O dX12_leak_15 ld_X12_180 ?_
    obtain ⟨r4, σ3, g, h⟩ := bd_of h
    refine V_callSi 18 [.long x2.toInt64, .long (0 : Int64), .long (99 : Int64)] [] O mf_X12_in lk_X12_162 dX12_leak_18 rfl rfl (Nat.le_of_ble_eq_true rfl) ⟨(Nat.le_of_ble_eq_true rfl), (Nat.le_of_ble_eq_true rfl)⟩ (fun l => C_X12_in  g) ?_
    refine V_if_ne 21 28 O dX12_leak_21 rfl h (fun h => ?_) (fun h => ?_)
    · refine V_aloadn 28 0 O dX12_leak_28 rfl rfl ?_
      refine V_getR 29 O k71 fl_X12_28 rf71_8 dX12_leak_29 ?_
      refine V_iloadn 32 1 O dX12_leak_32 rfl rfl ?_
      refine V_iald 33 O k78 dX12_leak_33 h (fun h => ?_)
      refine V_topi h (fun v5 h => ?_)
      refine V_istoren 34 [1, 2, 3, 0] [(0, .ref (zad G 71)), (1, .int x1), (2, .int x2), (3, .int v5)] O dX12_leak_34 rfl (Nat.le_of_ble_eq_true rfl) rfl ?_
      refine V_aloadn 35 0 O dX12_leak_35 rfl rfl ?_
      refine V_getR 36 O k71 fl_X12_28 rf71_8 dX12_leak_36 ?_
      refine V_iloadn 39 1 O dX12_leak_39 rfl rfl ?_
      refine V_iloadn 40 2 O dX12_leak_40 rfl rfl ?_
      refine V_iast 41 O k78 dX12_leak_41 h (fun σ6 h => ?_)
      refine V_iloadn 42 3 O dX12_leak_42 rfl rfl ?_
      exact V_iret 43 O E dX12_leak_43 h
    · refine V_sipush 24 O dX12_leak_24 cs_m1002 ?_
      exact V_iret 27 O E dX12_leak_27 h
  · refine V_sipush 8 O dX12_leak_8 cs_m1001 ?_
    exact V_iret 11 O E dX12_leak_11 h
-- ==== WaterTownModel.map(III)I
def s_X12_map (n : Nat) (x1 : Int32) (x2 : Int32) (x3 : Int32) (σ : Sg) : Option (Int32 × Sg) := bd (s_X12_noPipe n x1 σ) fun r2 σ1 => if r2 = 0 then (bd (s_X12_isNode n x2 σ1) fun r4 σ3 => if r4 = 0 then (some ((-1001 : Int32), σ3)) else (bd (s_X12_isNode n x3 σ3) fun r6 σ5 => if r6 = 0 then (some ((-1001 : Int32), σ5)) else (if x2 = x3 then (some ((-1002 : Int32), σ5)) else (ck x1 20 (lt (up2 σ5 75 (ix x1) x2) fun σ7 => ck x1 20 (lt (up2 σ7 76 (ix x1) x3) fun σ8 => some ((1 : Int32), σ8))))))) else (some ((-1001 : Int32), σ1))
set_option maxRecDepth 20000 in
theorem C_X12_map {l : Launch} {G : zG} {n : Nat} {x1 : Int32} {x2 : Int32} {x3 : Int32} {σ : Sg} {r : Int32} {τ : Sg} (h : s_X12_map n x1 x2 x3 σ = some (r, τ)) : zM l G 2 yX12_map (.code yX12_map cX12_map 4 (some (.int))) [.ref (zad G 71), .int x1, .int x2, .int x3] σ (some (.int r)) τ := by
  refine zM_of (by decide) (Nat.le_of_ble_eq_true rfl) (fun x O E => ?_)
  have O : zO G x cX12_map RX12 2 80 4 := O
  unfold s_X12_map at h
  show V G x σ [(0, .ref (zad G 71)), (1, .int x1), (2, .int x2), (3, .int x3)] 0 []
  refine V_aloadn 0 0 O dX12_map_0 rfl rfl ?_
  refine V_iloadn 1 1 O dX12_map_1 rfl rfl ?_
  obtain ⟨r2, σ1, g, h⟩ := bd_of h
  refine V_callVi 2 [.int x1] [] O mf_X12_noPipe lk_X12_182 k71 dX12_map_2 rfl rfl (Nat.le_of_ble_eq_true rfl) ⟨(Nat.le_of_ble_eq_true rfl), (Nat.le_of_ble_eq_true rfl)⟩ (fun l => C_X12_noPipe  g) ?_
  refine V_if_ne 5 22 O dX12_map_5 rfl h (fun h => ?_) (fun h => ?_)
  · refine V_sipush 22 O dX12_map_22 cs_m1001 ?_
    exact V_iret 25 O E dX12_map_25 h
  · refine V_iloadn 8 2 O dX12_map_8 rfl rfl ?_
    obtain ⟨r4, σ3, g, h⟩ := bd_of h
    refine V_callSi 9 [.int x2] [] O mf_X12_isNode lk_X12_174 dX12_map_9 rfl rfl (Nat.le_of_ble_eq_true rfl) ⟨(Nat.le_of_ble_eq_true rfl), (Nat.le_of_ble_eq_true rfl)⟩ (fun l => C_X12_isNode  g) ?_
    refine V_if_eq 12 22 O dX12_map_12 rfl h (fun h => ?_) (fun h => ?_)
    · refine V_sipush 22 O dX12_map_22 cs_m1001 ?_
      exact V_iret 25 O E dX12_map_25 h
    · refine V_iloadn 15 3 O dX12_map_15 rfl rfl ?_
      obtain ⟨r6, σ5, g, h⟩ := bd_of h
      refine V_callSi 16 [.int x3] [] O mf_X12_isNode lk_X12_174 dX12_map_16 rfl rfl (Nat.le_of_ble_eq_true rfl) ⟨(Nat.le_of_ble_eq_true rfl), (Nat.le_of_ble_eq_true rfl)⟩ (fun l => C_X12_isNode  g) ?_
      refine V_if_ne 19 26 O dX12_map_19 rfl h (fun h => ?_) (fun h => ?_)
      · refine V_iloadn 26 2 O dX12_map_26 rfl rfl ?_
        refine V_iloadn 27 3 O dX12_map_27 rfl rfl ?_
        refine V_icmp_ne 28 35 O dX12_map_28 rfl h (fun h => ?_) (fun h => ?_)
        · refine V_aloadn 35 0 O dX12_map_35 rfl rfl ?_
          refine V_getR 36 O k71 fl_X12_19 rf71_5 dX12_map_36 ?_
          refine V_iloadn 39 1 O dX12_map_39 rfl rfl ?_
          refine V_iloadn 40 2 O dX12_map_40 rfl rfl ?_
          refine V_iast 41 O k75 dX12_map_41 h (fun σ7 h => ?_)
          refine V_aloadn 42 0 O dX12_map_42 rfl rfl ?_
          refine V_getR 43 O k71 fl_X12_22 rf71_6 dX12_map_43 ?_
          refine V_iloadn 46 1 O dX12_map_46 rfl rfl ?_
          refine V_iloadn 47 3 O dX12_map_47 rfl rfl ?_
          refine V_iast 48 O k76 dX12_map_48 h (fun σ8 h => ?_)
          refine V_iconst 49 O dX12_map_49 ci_1 ?_
          exact V_iret 50 O E dX12_map_50 h
        · refine V_sipush 31 O dX12_map_31 cs_m1002 ?_
          exact V_iret 34 O E dX12_map_34 h
      · refine V_sipush 22 O dX12_map_22 cs_m1001 ?_
        exact V_iret 25 O E dX12_map_25 h
-- ==== WaterTownModel.pump(III)I
def s_X12_pump_39b (n : Nat) (rc39 : Int32 → Int32 → Int32 → Sg → Option (Int32 × Sg)) (x2 : Int32) (x3 : Int32) (x4 : Int32) (σ : Sg) : Option (Int32 × Sg) := if x2 < x4 then (some ((1 : Int32), σ)) else (ck x4 24 (lt (up2 σ 72 (ix x4) x3) fun σ7 => rc39 x2 x3 (x4 + (1 : Int32)) σ7))
def s_X12_pump_39 (n : Nat) : Nat → Int32 → Int32 → Int32 → Sg → Option (Int32 × Sg)
  | 0 => fun _ _ _ _ => none
  | k + 1 => s_X12_pump_39b n (s_X12_pump_39 n k)
def s_X12_pump (n : Nat) (x1 : Int32) (x2 : Int32) (x3 : Int32) (σ : Sg) : Option (Int32 × Sg) := bd (s_X12_isHour n x1 σ) fun r2 σ1 => if r2 = 0 then (some ((-1002 : Int32), σ1)) else (bd (s_X12_in n x2.toInt64 x1.toInt64 (23 : Int64) σ1) fun r4 σ3 => if r4 = 0 then (some ((-1002 : Int32), σ3)) else (bd (s_X12_in n x3.toInt64 (0 : Int64) (9999 : Int64) σ3) fun r6 σ5 => if r6 = 0 then (some ((-1002 : Int32), σ5)) else (s_X12_pump_39 n n x2 x3 x1 σ5)))
set_option maxRecDepth 20000 in
theorem b_X12_pump_39 {G : zG} {x : zX} {r : Int32} {τ : Sg} (O : zO G x cX12_pump RX12 2 80 5) (E : zE G x (some (.int)) (some (.int r)) τ) (n : Nat) (rc39 : Int32 → Int32 → Int32 → Sg → Option (Int32 × Sg)) (H39 : ∀ (x2 : Int32) (x3 : Int32) (x4 : Int32) (σ : Sg), rc39 x2 x3 x4 σ = some (r, τ) → V G x σ [(0, .ref (zad G 71)), (2, .int x2), (3, .int x3), (4, .int x4)] 39 []) (x2 : Int32) (x3 : Int32) (x4 : Int32) (σ : Sg) (h : s_X12_pump_39b n rc39 x2 x3 x4 σ = some (r, τ)) : V G x σ [(0, .ref (zad G 71)), (2, .int x2), (3, .int x3), (4, .int x4)] 39 [] := by
  unfold s_X12_pump_39b at h
  refine V_iload 39 3 O dX12_pump_39 rfl ?_
  refine V_iloadn 41 1 O dX12_pump_41 rfl rfl ?_
  refine V_icmp_gt 42 59 O dX12_pump_42 rfl h (fun h => ?_) (fun h => ?_)
  · refine V_iconst 59 O dX12_pump_59 ci_1 ?_
    exact V_iret 60 O E dX12_pump_60 h
  · refine V_aloadn 45 0 O dX12_pump_45 rfl rfl ?_
    refine V_getR 46 O k71 fl_X12_7 rf71_1 dX12_pump_46 ?_
    refine V_iload 49 3 O dX12_pump_49 rfl ?_
    refine V_iloadn 51 2 O dX12_pump_51 rfl rfl ?_
    refine V_iast 52 O k72 dX12_pump_52 h (fun σ7 h => ?_)
    refine V_iinc 53 3 [1, 2, 3, 0] [(0, .ref (zad G 71)), (2, .int x2), (3, .int x3), (4, .int (x4 + (1 : Int32)))] O dX12_pump_53 rfl ci_1 (Nat.le_of_ble_eq_true rfl) rfl ?_
    refine V_goto 56 39 O dX12_pump_56 rfl ?_
    exact V_sub [0, 1, 2, 3] rfl (H39 x2 x3 (x4 + (1 : Int32)) σ7  h)
theorem bl_X12_pump_39 {G : zG} {x : zX} {r : Int32} {τ : Sg} (O : zO G x cX12_pump RX12 2 80 5) (E : zE G x (some (.int)) (some (.int r)) τ) (n : Nat) : ∀ (k : Nat) (x2 : Int32) (x3 : Int32) (x4 : Int32) (σ : Sg), s_X12_pump_39 n k x2 x3 x4 σ = some (r, τ) → V G x σ [(0, .ref (zad G 71)), (2, .int x2), (3, .int x3), (4, .int x4)] 39 [] := by
  intro k
  induction k with
  | zero => intro x2 x3 x4 σ  h; cases h
  | succ k ih => intro x2 x3 x4 σ  h; exact b_X12_pump_39 O E n  (s_X12_pump_39 n  k) ih x2 x3 x4 σ  h
set_option maxRecDepth 20000 in
theorem C_X12_pump {l : Launch} {G : zG} {n : Nat} {x1 : Int32} {x2 : Int32} {x3 : Int32} {σ : Sg} {r : Int32} {τ : Sg} (h : s_X12_pump n x1 x2 x3 σ = some (r, τ)) : zM l G 2 yX12_pump (.code yX12_pump cX12_pump 5 (some (.int))) [.ref (zad G 71), .int x1, .int x2, .int x3] σ (some (.int r)) τ := by
  refine zM_of (by decide) (Nat.le_of_ble_eq_true rfl) (fun x O E => ?_)
  have O : zO G x cX12_pump RX12 2 80 5 := O
  unfold s_X12_pump at h
  show V G x σ [(0, .ref (zad G 71)), (1, .int x1), (2, .int x2), (3, .int x3)] 0 []
  refine V_iloadn 0 1 O dX12_pump_0 rfl rfl ?_
  obtain ⟨r2, σ1, g, h⟩ := bd_of h
  refine V_callSi 1 [.int x1] [] O mf_X12_isHour lk_X12_189 dX12_pump_1 rfl rfl (Nat.le_of_ble_eq_true rfl) ⟨(Nat.le_of_ble_eq_true rfl), (Nat.le_of_ble_eq_true rfl)⟩ (fun l => C_X12_isHour  g) ?_
  refine V_if_eq 4 32 O dX12_pump_4 rfl h (fun h => ?_) (fun h => ?_)
  · refine V_sipush 32 O dX12_pump_32 cs_m1002 ?_
    exact V_iret 35 O E dX12_pump_35 h
  · refine V_iloadn 7 2 O dX12_pump_7 rfl rfl ?_
    refine V_i2l 8 O dX12_pump_8 ?_
    refine V_iloadn 9 1 O dX12_pump_9 rfl rfl ?_
    refine V_i2l 10 O dX12_pump_10 ?_
    refine V_ldc2 11 O dX12_pump_11 ld_X12_166 ?_
    obtain ⟨r4, σ3, g, h⟩ := bd_of h
    refine V_callSi 14 [.long x2.toInt64, .long x1.toInt64, .long (23 : Int64)] [] O mf_X12_in lk_X12_162 dX12_pump_14 rfl rfl (Nat.le_of_ble_eq_true rfl) ⟨(Nat.le_of_ble_eq_true rfl), (Nat.le_of_ble_eq_true rfl)⟩ (fun l => C_X12_in  g) ?_
    refine V_if_eq 17 32 O dX12_pump_17 rfl h (fun h => ?_) (fun h => ?_)
    · refine V_sipush 32 O dX12_pump_32 cs_m1002 ?_
      exact V_iret 35 O E dX12_pump_35 h
    · refine V_iloadn 20 3 O dX12_pump_20 rfl rfl ?_
      refine V_i2l 21 O dX12_pump_21 ?_
      refine V_lconst 22 O dX12_pump_22 cl_0 ?_
      refine V_ldc2 23 O dX12_pump_23 ld_X12_192 ?_
      obtain ⟨r6, σ5, g, h⟩ := bd_of h
      refine V_callSi 26 [.long x3.toInt64, .long (0 : Int64), .long (9999 : Int64)] [] O mf_X12_in lk_X12_162 dX12_pump_26 rfl rfl (Nat.le_of_ble_eq_true rfl) ⟨(Nat.le_of_ble_eq_true rfl), (Nat.le_of_ble_eq_true rfl)⟩ (fun l => C_X12_in  g) ?_
      refine V_if_ne 29 36 O dX12_pump_29 rfl h (fun h => ?_) (fun h => ?_)
      · refine V_iloadn 36 1 O dX12_pump_36 rfl rfl ?_
        refine V_istore 37 [1, 2, 3, 4, 0] [(0, .ref (zad G 71)), (1, .int x1), (2, .int x2), (3, .int x3), (4, .int x1)] O dX12_pump_37 (Nat.le_of_ble_eq_true rfl) rfl ?_
        exact V_sub [0, 2, 3, 4] rfl (bl_X12_pump_39 O E n  n x2 x3 x1 σ5  h)
      · refine V_sipush 32 O dX12_pump_32 cs_m1002 ?_
        exact V_iret 35 O E dX12_pump_35 h
-- ==== WaterTownModel.street(IIIIII)I
def s_X12_street_160 (n : Nat) (y0 : Int32) (y1 : Int32) (σ : Sg) : Option (Int32 × Sg) := ck y1 10 (lt (up2 σ 86 (ix y1) (vp_nar .boolean y0)) fun σ21 => lt (up2 σ21 71 11 ((σ21 71 11) + (1 : Int32))) fun σ22 => some ((σ22 71 11) - (1 : Int32), σ22))
def s_X12_street (n : Nat) (x1 : Int32) (x2 : Int32) (x3 : Int32) (x4 : Int32) (x5 : Int32) (x6 : Int32) (σ : Sg) : Option (Int32 × Sg) := bd (s_X12_isNode n x1 σ) fun r2 σ1 => if r2 = 0 then (some ((-1001 : Int32), σ1)) else (bd (s_X12_in n x2.toInt64 (1 : Int64) (99 : Int64) σ1) fun r4 σ3 => if r4 = 0 then (some ((-1002 : Int32), σ3)) else (bd (s_X12_in n x3.toInt64 (1 : Int64) (9 : Int64) σ3) fun r6 σ5 => if r6 = 0 then (some ((-1002 : Int32), σ5)) else (bd (s_X12_in n x4.toInt64 (0 : Int64) (99 : Int64) σ5) fun r8 σ7 => if r8 = 0 then (some ((-1002 : Int32), σ7)) else (bd (s_X12_in n x5.toInt64 (0 : Int64) (999 : Int64) σ7) fun r10 σ9 => if r10 = 0 then (some ((-1002 : Int32), σ9)) else (bd (s_X12_in n x6.toInt64 (0 : Int64) (1 : Int64) σ9) fun r12 σ11 => if r12 = 0 then (some ((-1002 : Int32), σ11)) else (if (σ11 71 11) = (10 : Int32) then (some ((-1004 : Int32), σ11)) else (ck (σ11 71 11) 10 (lt (up2 σ11 81 (ix (σ11 71 11)) x1) fun σ13 => ck (σ13 71 11) 10 (lt (up2 σ13 82 (ix (σ13 71 11)) x2) fun σ14 => ck (σ14 71 11) 10 (lt (up2 σ14 83 (ix (σ14 71 11)) x3) fun σ15 => ck (σ15 71 11) 10 (lt (up2 σ15 84 (ix (σ15 71 11)) x4) fun σ16 => ck (σ16 71 11) 10 (lt (up2 σ16 85 (ix (σ16 71 11)) x5) fun σ17 => lt (if x6 = (1 : Int32) then (1 : Int32) else (0 : Int32)) fun v20 => s_X12_street_160 n v20 (σ17 71 11) σ17))))))))))))
set_option maxRecDepth 20000 in
theorem b_X12_street_160 {G : zG} {x : zX} {r : Int32} {τ : Sg} (O : zO G x cX12_street RX12 2 80 7) (E : zE G x (some (.int)) (some (.int r)) τ) (n : Nat) (y0 : Int32) (y1 : Int32) (σ : Sg) (h : s_X12_street_160 n y0 y1 σ = some (r, τ)) : V G x σ [(0, .ref (zad G 71))] 160 [.int y0, .int y1, .ref (zad G 86)] := by
  unfold s_X12_street_160 at h
  refine V_zast 160 O k86 dX12_street_160 h (fun σ21 h => ?_)
  refine V_aloadn 161 0 O dX12_street_161 rfl rfl ?_
  refine V_dup 162 O dX12_street_162 rfl ?_
  refine V_getI 163 O k71 fl_X12_171 dX12_street_163 ?_
  refine V_iconst 166 O dX12_street_166 ci_1 ?_
  refine V_iadd 167 O dX12_street_167 ?_
  refine V_put 168 O k71 fp_X12_171 dX12_street_168 h (fun σ22 h => ?_)
  refine V_aloadn 171 0 O dX12_street_171 rfl rfl ?_
  refine V_getI 172 O k71 fl_X12_171 dX12_street_172 ?_
  refine V_iconst 175 O dX12_street_175 ci_1 ?_
  refine V_isub 176 O dX12_street_176 ?_
  exact V_iret 177 O E dX12_street_177 h
set_option maxRecDepth 20000 in
theorem C_X12_street {l : Launch} {G : zG} {n : Nat} {x1 : Int32} {x2 : Int32} {x3 : Int32} {x4 : Int32} {x5 : Int32} {x6 : Int32} {σ : Sg} {r : Int32} {τ : Sg} (h : s_X12_street n x1 x2 x3 x4 x5 x6 σ = some (r, τ)) : zM l G 2 yX12_street (.code yX12_street cX12_street 7 (some (.int))) [.ref (zad G 71), .int x1, .int x2, .int x3, .int x4, .int x5, .int x6] σ (some (.int r)) τ := by
  refine zM_of (by decide) (Nat.le_of_ble_eq_true rfl) (fun x O E => ?_)
  have O : zO G x cX12_street RX12 2 80 7 := O
  unfold s_X12_street at h
  show V G x σ [(0, .ref (zad G 71)), (1, .int x1), (2, .int x2), (3, .int x3), (4, .int x4), (5, .int x5), (6, .int x6)] 0 []
  refine V_iloadn 0 1 O dX12_street_0 rfl rfl ?_
  obtain ⟨r2, σ1, g, h⟩ := bd_of h
  refine V_callSi 1 [.int x1] [] O mf_X12_isNode lk_X12_174 dX12_street_1 rfl rfl (Nat.le_of_ble_eq_true rfl) ⟨(Nat.le_of_ble_eq_true rfl), (Nat.le_of_ble_eq_true rfl)⟩ (fun l => C_X12_isNode  g) ?_
  refine V_if_ne 4 11 O dX12_street_4 rfl h (fun h => ?_) (fun h => ?_)
  · refine V_iloadn 11 2 O dX12_street_11 rfl rfl ?_
    refine V_i2l 12 O dX12_street_12 ?_
    refine V_lconst 13 O dX12_street_13 cl_1 ?_
    refine V_ldc2 14 O dX12_street_14 ld_X12_180 ?_
    obtain ⟨r4, σ3, g, h⟩ := bd_of h
    refine V_callSi 17 [.long x2.toInt64, .long (1 : Int64), .long (99 : Int64)] [] O mf_X12_in lk_X12_162 dX12_street_17 rfl rfl (Nat.le_of_ble_eq_true rfl) ⟨(Nat.le_of_ble_eq_true rfl), (Nat.le_of_ble_eq_true rfl)⟩ (fun l => C_X12_in  g) ?_
    refine V_if_eq 20 72 O dX12_street_20 rfl h (fun h => ?_) (fun h => ?_)
    · refine V_sipush 72 O dX12_street_72 cs_m1002 ?_
      exact V_iret 75 O E dX12_street_75 h
    · refine V_iloadn 23 3 O dX12_street_23 rfl rfl ?_
      refine V_i2l 24 O dX12_street_24 ?_
      refine V_lconst 25 O dX12_street_25 cl_1 ?_
      refine V_ldc2 26 O dX12_street_26 ld_X12_160 ?_
      obtain ⟨r6, σ5, g, h⟩ := bd_of h
      refine V_callSi 29 [.long x3.toInt64, .long (1 : Int64), .long (9 : Int64)] [] O mf_X12_in lk_X12_162 dX12_street_29 rfl rfl (Nat.le_of_ble_eq_true rfl) ⟨(Nat.le_of_ble_eq_true rfl), (Nat.le_of_ble_eq_true rfl)⟩ (fun l => C_X12_in  g) ?_
      refine V_if_eq 32 72 O dX12_street_32 rfl h (fun h => ?_) (fun h => ?_)
      · refine V_sipush 72 O dX12_street_72 cs_m1002 ?_
        exact V_iret 75 O E dX12_street_75 h
      · refine V_iload 35 4 O dX12_street_35 rfl ?_
        refine V_i2l 37 O dX12_street_37 ?_
        refine V_lconst 38 O dX12_street_38 cl_0 ?_
        refine V_ldc2 39 O dX12_street_39 ld_X12_180 ?_
        obtain ⟨r8, σ7, g, h⟩ := bd_of h
        refine V_callSi 42 [.long x4.toInt64, .long (0 : Int64), .long (99 : Int64)] [] O mf_X12_in lk_X12_162 dX12_street_42 rfl rfl (Nat.le_of_ble_eq_true rfl) ⟨(Nat.le_of_ble_eq_true rfl), (Nat.le_of_ble_eq_true rfl)⟩ (fun l => C_X12_in  g) ?_
        refine V_if_eq 45 72 O dX12_street_45 rfl h (fun h => ?_) (fun h => ?_)
        · refine V_sipush 72 O dX12_street_72 cs_m1002 ?_
          exact V_iret 75 O E dX12_street_75 h
        · refine V_iload 48 5 O dX12_street_48 rfl ?_
          refine V_i2l 50 O dX12_street_50 ?_
          refine V_lconst 51 O dX12_street_51 cl_0 ?_
          refine V_ldc2 52 O dX12_street_52 ld_X12_178 ?_
          obtain ⟨r10, σ9, g, h⟩ := bd_of h
          refine V_callSi 55 [.long x5.toInt64, .long (0 : Int64), .long (999 : Int64)] [] O mf_X12_in lk_X12_162 dX12_street_55 rfl rfl (Nat.le_of_ble_eq_true rfl) ⟨(Nat.le_of_ble_eq_true rfl), (Nat.le_of_ble_eq_true rfl)⟩ (fun l => C_X12_in  g) ?_
          refine V_if_eq 58 72 O dX12_street_58 rfl h (fun h => ?_) (fun h => ?_)
          · refine V_sipush 72 O dX12_street_72 cs_m1002 ?_
            exact V_iret 75 O E dX12_street_75 h
          · refine V_iload 61 6 O dX12_street_61 rfl ?_
            refine V_i2l 63 O dX12_street_63 ?_
            refine V_lconst 64 O dX12_street_64 cl_0 ?_
            refine V_lconst 65 O dX12_street_65 cl_1 ?_
            obtain ⟨r12, σ11, g, h⟩ := bd_of h
            refine V_callSi 66 [.long x6.toInt64, .long (0 : Int64), .long (1 : Int64)] [] O mf_X12_in lk_X12_162 dX12_street_66 rfl rfl (Nat.le_of_ble_eq_true rfl) ⟨(Nat.le_of_ble_eq_true rfl), (Nat.le_of_ble_eq_true rfl)⟩ (fun l => C_X12_in  g) ?_
            refine V_if_ne 69 76 O dX12_street_69 rfl h (fun h => ?_) (fun h => ?_)
            · refine V_aloadn 76 0 O dX12_street_76 rfl rfl ?_
              refine V_getI 77 O k71 fl_X12_171 dX12_street_77 ?_
              refine V_bipush 80 O dX12_street_80 cb_10 ?_
              refine V_icmp_ne 82 89 O dX12_street_82 rfl h (fun h => ?_) (fun h => ?_)
              · refine V_aloadn 89 0 O dX12_street_89 rfl rfl ?_
                refine V_getR 90 O k71 fl_X12_38 rf71_12 dX12_street_90 ?_
                refine V_aloadn 93 0 O dX12_street_93 rfl rfl ?_
                refine V_getI 94 O k71 fl_X12_171 dX12_street_94 ?_
                refine V_iloadn 97 1 O dX12_street_97 rfl rfl ?_
                refine V_iast 98 O k81 dX12_street_98 h (fun σ13 h => ?_)
                refine V_aloadn 99 0 O dX12_street_99 rfl rfl ?_
                refine V_getR 100 O k71 fl_X12_41 rf71_13 dX12_street_100 ?_
                refine V_aloadn 103 0 O dX12_street_103 rfl rfl ?_
                refine V_getI 104 O k71 fl_X12_171 dX12_street_104 ?_
                refine V_iloadn 107 2 O dX12_street_107 rfl rfl ?_
                refine V_iast 108 O k82 dX12_street_108 h (fun σ14 h => ?_)
                refine V_aloadn 109 0 O dX12_street_109 rfl rfl ?_
                refine V_getR 110 O k71 fl_X12_44 rf71_14 dX12_street_110 ?_
                refine V_aloadn 113 0 O dX12_street_113 rfl rfl ?_
                refine V_getI 114 O k71 fl_X12_171 dX12_street_114 ?_
                refine V_iloadn 117 3 O dX12_street_117 rfl rfl ?_
                refine V_iast 118 O k83 dX12_street_118 h (fun σ15 h => ?_)
                refine V_aloadn 119 0 O dX12_street_119 rfl rfl ?_
                refine V_getR 120 O k71 fl_X12_47 rf71_15 dX12_street_120 ?_
                refine V_aloadn 123 0 O dX12_street_123 rfl rfl ?_
                refine V_getI 124 O k71 fl_X12_171 dX12_street_124 ?_
                refine V_iload 127 4 O dX12_street_127 rfl ?_
                refine V_iast 129 O k84 dX12_street_129 h (fun σ16 h => ?_)
                refine V_aloadn 130 0 O dX12_street_130 rfl rfl ?_
                refine V_getR 131 O k71 fl_X12_50 rf71_16 dX12_street_131 ?_
                refine V_aloadn 134 0 O dX12_street_134 rfl rfl ?_
                refine V_getI 135 O k71 fl_X12_171 dX12_street_135 ?_
                refine V_iload 138 5 O dX12_street_138 rfl ?_
                refine V_iast 140 O k85 dX12_street_140 h (fun σ17 h => ?_)
                refine V_aloadn 141 0 O dX12_street_141 rfl rfl ?_
                refine V_getR 142 O k71 fl_X12_53 rf71_17 dX12_street_142 ?_
                refine V_aloadn 145 0 O dX12_street_145 rfl rfl ?_
                refine V_getI 146 O k71 fl_X12_171 dX12_street_146 ?_
                refine V_iload 149 6 O dX12_street_149 rfl ?_
                refine V_iconst 151 O dX12_street_151 ci_1 ?_
                have J18 : V G x σ17 [(0, .ref (zad G 71)), (1, .int x1), (2, .int x2), (3, .int x3), (4, .int x4), (5, .int x5), (6, .int x6)] 160 [.int (if x6 = (1 : Int32) then (1 : Int32) else (0 : Int32)), .int (σ17 71 11), .ref (zad G 86)] := by
                  refine V_topi h (fun v20 h => ?_)
                  exact V_sub [0] rfl (b_X12_street_160 O E n  v20 (σ17 71 11) σ17  h)
                refine V_icmp_nec 152 159 O dX12_street_152 rfl (fun c19 => ?_) (fun c19 => ?_)
                · refine V_iconst 159 O dX12_street_159 ci_0 ?_
                  exact V_top (by rw [if_neg c19]) J18
                · refine V_iconst 155 O dX12_street_155 ci_1 ?_
                  refine V_goto 156 160 O dX12_street_156 rfl ?_
                  exact V_top (by rw [if_pos c19]) J18
              · refine V_sipush 85 O dX12_street_85 cs_m1004 ?_
                exact V_iret 88 O E dX12_street_88 h
            · refine V_sipush 72 O dX12_street_72 cs_m1002 ?_
              exact V_iret 75 O E dX12_street_75 h
  · refine V_sipush 7 O dX12_street_7 cs_m1001 ?_
    exact V_iret 10 O E dX12_street_10 h
-- ==== WaterTownModel.over(I)I
def s_X12_over (n : Nat) (x1 : Int32) (σ : Sg) : Option (Int32 × Sg) := bd (s_X12_noStreet n x1 σ) fun r2 σ1 => if r2 = 0 then (ck x1 10 (if (σ1 86 (ix x1)) = 0 then (ck x1 10 (lt (up2 σ1 86 (ix x1) (vp_nar .boolean (1 : Int32))) fun σ3 => some ((1 : Int32), σ3))) else (some ((-1003 : Int32), σ1)))) else (some ((-1001 : Int32), σ1))
set_option maxRecDepth 20000 in
theorem C_X12_over {l : Launch} {G : zG} {n : Nat} {x1 : Int32} {σ : Sg} {r : Int32} {τ : Sg} (h : s_X12_over n x1 σ = some (r, τ)) : zM l G 2 yX12_over (.code yX12_over cX12_over 2 (some (.int))) [.ref (zad G 71), .int x1] σ (some (.int r)) τ := by
  refine zM_of (by decide) (Nat.le_of_ble_eq_true rfl) (fun x O E => ?_)
  have O : zO G x cX12_over RX12 2 80 2 := O
  unfold s_X12_over at h
  show V G x σ [(0, .ref (zad G 71)), (1, .int x1)] 0 []
  refine V_aloadn 0 0 O dX12_over_0 rfl rfl ?_
  refine V_iloadn 1 1 O dX12_over_1 rfl rfl ?_
  obtain ⟨r2, σ1, g, h⟩ := bd_of h
  refine V_callVi 2 [.int x1] [] O mf_X12_noStreet lk_X12_194 k71 dX12_over_2 rfl rfl (Nat.le_of_ble_eq_true rfl) ⟨(Nat.le_of_ble_eq_true rfl), (Nat.le_of_ble_eq_true rfl)⟩ (fun l => C_X12_noStreet  g) ?_
  refine V_if_eq 5 12 O dX12_over_5 rfl h (fun h => ?_) (fun h => ?_)
  · refine V_aloadn 12 0 O dX12_over_12 rfl rfl ?_
    refine V_getR 13 O k71 fl_X12_53 rf71_17 dX12_over_13 ?_
    refine V_iloadn 16 1 O dX12_over_16 rfl rfl ?_
    refine V_zald 17 O k86 dX12_over_17 h (fun h => ?_)
    refine V_if_eq 18 25 O dX12_over_18 rfl h (fun h => ?_) (fun h => ?_)
    · refine V_aloadn 25 0 O dX12_over_25 rfl rfl ?_
      refine V_getR 26 O k71 fl_X12_53 rf71_17 dX12_over_26 ?_
      refine V_iloadn 29 1 O dX12_over_29 rfl rfl ?_
      refine V_iconst 30 O dX12_over_30 ci_1 ?_
      refine V_zast 31 O k86 dX12_over_31 h (fun σ3 h => ?_)
      refine V_iconst 32 O dX12_over_32 ci_1 ?_
      exact V_iret 33 O E dX12_over_33 h
    · refine V_sipush 21 O dX12_over_21 cs_m1003 ?_
      exact V_iret 24 O E dX12_over_24 h
  · refine V_sipush 8 O dX12_over_8 cs_m1001 ?_
    exact V_iret 11 O E dX12_over_11 h
-- ==== WaterTownModel.rooms(II)I
def s_X12_rooms (n : Nat) (x1 : Int32) (x2 : Int32) (σ : Sg) : Option (Int32 × Sg) := bd (s_X12_noStreet n x1 σ) fun r2 σ1 => if r2 = 0 then (bd (s_X12_in n x2.toInt64 (0 : Int64) (99 : Int64) σ1) fun r4 σ3 => if r4 = 0 then (some ((-1002 : Int32), σ3)) else (ck x1 10 (lt (σ3 87 (ix x1)) fun v5 => ck x1 10 (lt (up2 σ3 87 (ix x1) x2) fun σ6 => some (v5, σ6))))) else (some ((-1001 : Int32), σ1))
set_option maxRecDepth 20000 in
theorem C_X12_rooms {l : Launch} {G : zG} {n : Nat} {x1 : Int32} {x2 : Int32} {σ : Sg} {r : Int32} {τ : Sg} (h : s_X12_rooms n x1 x2 σ = some (r, τ)) : zM l G 2 yX12_rooms (.code yX12_rooms cX12_rooms 4 (some (.int))) [.ref (zad G 71), .int x1, .int x2] σ (some (.int r)) τ := by
  refine zM_of (by decide) (Nat.le_of_ble_eq_true rfl) (fun x O E => ?_)
  have O : zO G x cX12_rooms RX12 2 80 4 := O
  unfold s_X12_rooms at h
  show V G x σ [(0, .ref (zad G 71)), (1, .int x1), (2, .int x2)] 0 []
  refine V_aloadn 0 0 O dX12_rooms_0 rfl rfl ?_
  refine V_iloadn 1 1 O dX12_rooms_1 rfl rfl ?_
  obtain ⟨r2, σ1, g, h⟩ := bd_of h
  refine V_callVi 2 [.int x1] [] O mf_X12_noStreet lk_X12_194 k71 dX12_rooms_2 rfl rfl (Nat.le_of_ble_eq_true rfl) ⟨(Nat.le_of_ble_eq_true rfl), (Nat.le_of_ble_eq_true rfl)⟩ (fun l => C_X12_noStreet  g) ?_
  refine V_if_eq 5 12 O dX12_rooms_5 rfl h (fun h => ?_) (fun h => ?_)
  · refine V_iloadn 12 2 O dX12_rooms_12 rfl rfl ?_
    refine V_i2l 13 O dX12_rooms_13 ?_
    refine V_lconst 14 O dX12_rooms_14 cl_0 ?_
    refine V_ldc2 15 O dX12_rooms_15 ld_X12_180 ?_
    obtain ⟨r4, σ3, g, h⟩ := bd_of h
    refine V_callSi 18 [.long x2.toInt64, .long (0 : Int64), .long (99 : Int64)] [] O mf_X12_in lk_X12_162 dX12_rooms_18 rfl rfl (Nat.le_of_ble_eq_true rfl) ⟨(Nat.le_of_ble_eq_true rfl), (Nat.le_of_ble_eq_true rfl)⟩ (fun l => C_X12_in  g) ?_
    refine V_if_ne 21 28 O dX12_rooms_21 rfl h (fun h => ?_) (fun h => ?_)
    · refine V_aloadn 28 0 O dX12_rooms_28 rfl rfl ?_
      refine V_getR 29 O k71 fl_X12_56 rf71_18 dX12_rooms_29 ?_
      refine V_iloadn 32 1 O dX12_rooms_32 rfl rfl ?_
      refine V_iald 33 O k87 dX12_rooms_33 h (fun h => ?_)
      refine V_topi h (fun v5 h => ?_)
      refine V_istoren 34 [1, 2, 3, 0] [(0, .ref (zad G 71)), (1, .int x1), (2, .int x2), (3, .int v5)] O dX12_rooms_34 rfl (Nat.le_of_ble_eq_true rfl) rfl ?_
      refine V_aloadn 35 0 O dX12_rooms_35 rfl rfl ?_
      refine V_getR 36 O k71 fl_X12_56 rf71_18 dX12_rooms_36 ?_
      refine V_iloadn 39 1 O dX12_rooms_39 rfl rfl ?_
      refine V_iloadn 40 2 O dX12_rooms_40 rfl rfl ?_
      refine V_iast 41 O k87 dX12_rooms_41 h (fun σ6 h => ?_)
      refine V_iloadn 42 3 O dX12_rooms_42 rfl rfl ?_
      exact V_iret 43 O E dX12_rooms_43 h
    · refine V_sipush 24 O dX12_rooms_24 cs_m1002 ?_
      exact V_iret 27 O E dX12_rooms_27 h
  · refine V_sipush 8 O dX12_rooms_8 cs_m1001 ?_
    exact V_iret 11 O E dX12_rooms_11 h
-- ==== WaterTownModel.feed(IJ)I
def s_X12_feed_37b (n : Nat) (rc37 : Int64 → Int32 → Sg → Option (Int32 × Sg)) (x2 : Int64) (x4 : Int32) (σ : Sg) : Option (Int32 × Sg) := if x4 < 0 then (some (σ 71 33, σ)) else (ck (σ 71 33) 160 (lt (up2 σ 98 (ix (σ 71 33)) (((lsr x2 ((8 : Int32) * x4)) &&& (255 : Int64)).toInt32)) fun σ4 => lt (up2 σ4 71 33 ((σ4 71 33) + (1 : Int32))) fun σ5 => rc37 x2 (x4 + (-1 : Int32)) σ5))
def s_X12_feed_37 (n : Nat) : Nat → Int64 → Int32 → Sg → Option (Int32 × Sg)
  | 0 => fun _ _ _ => none
  | k + 1 => s_X12_feed_37b n (s_X12_feed_37 n k)
def s_X12_feed (n : Nat) (x1 : Int32) (x2 : Int64) (σ : Sg) : Option (Int32 × Sg) := bd (s_X12_in n x1.toInt64 (1 : Int64) (8 : Int64) σ) fun r2 σ1 => if r2 = 0 then (some ((-1002 : Int32), σ1)) else (if ((σ1 71 33) + x1) ≤ (160 : Int32) then (lt (x1 - (1 : Int32)) fun v3 => s_X12_feed_37 n n x2 v3 σ1) else (some ((-1004 : Int32), σ1)))
set_option maxRecDepth 20000 in
theorem b_X12_feed_37 {G : zG} {x : zX} {r : Int32} {τ : Sg} (O : zO G x cX12_feed RX12 1 40 5) (E : zE G x (some (.int)) (some (.int r)) τ) (n : Nat) (rc37 : Int64 → Int32 → Sg → Option (Int32 × Sg)) (H37 : ∀ (x2 : Int64) (x4 : Int32) (σ : Sg), rc37 x2 x4 σ = some (r, τ) → V G x σ [(0, .ref (zad G 71)), (2, .long x2), (4, .int x4)] 37 []) (x2 : Int64) (x4 : Int32) (σ : Sg) (h : s_X12_feed_37b n rc37 x2 x4 σ = some (r, τ)) : V G x σ [(0, .ref (zad G 71)), (2, .long x2), (4, .int x4)] 37 [] := by
  unfold s_X12_feed_37b at h
  refine V_iload 37 2 O dX12_feed_37 rfl ?_
  refine V_if_lt 39 79 O dX12_feed_39 rfl h (fun h => ?_) (fun h => ?_)
  · refine V_aloadn 79 0 O dX12_feed_79 rfl rfl ?_
    refine V_getI 80 O k71 fl_X12_199 dX12_feed_80 ?_
    exact V_iret 83 O E dX12_feed_83 h
  · refine V_aloadn 42 0 O dX12_feed_42 rfl rfl ?_
    refine V_getR 43 O k71 fl_X12_89 rf71_32 dX12_feed_43 ?_
    refine V_aloadn 46 0 O dX12_feed_46 rfl rfl ?_
    refine V_getI 47 O k71 fl_X12_199 dX12_feed_47 ?_
    refine V_lloadn 50 1 O dX12_feed_50 rfl rfl ?_
    refine V_bipush 51 O dX12_feed_51 cb_8 ?_
    refine V_iload 53 2 O dX12_feed_53 rfl ?_
    refine V_imul 55 O dX12_feed_55 ?_
    refine V_lshr 56 O dX12_feed_56 ?_
    refine V_ldc2 57 O dX12_feed_57 ld_X12_202 ?_
    refine V_land 60 O dX12_feed_60 ?_
    refine V_l2i 61 O dX12_feed_61 ?_
    refine V_iast 62 O k98 dX12_feed_62 h (fun σ4 h => ?_)
    refine V_aloadn 63 0 O dX12_feed_63 rfl rfl ?_
    refine V_dup 64 O dX12_feed_64 rfl ?_
    refine V_getI 65 O k71 fl_X12_199 dX12_feed_65 ?_
    refine V_iconst 68 O dX12_feed_68 ci_1 ?_
    refine V_iadd 69 O dX12_feed_69 ?_
    refine V_put 70 O k71 fp_X12_199 dX12_feed_70 h (fun σ5 h => ?_)
    refine V_iinc 73 2 [1, 2, 0] [(0, .ref (zad G 71)), (2, .long x2), (4, .int (x4 + (-1 : Int32)))] O dX12_feed_73 rfl ci_m1 (Nat.le_of_ble_eq_true rfl) rfl ?_
    refine V_goto 76 37 O dX12_feed_76 rfl ?_
    exact V_sub [0, 1, 2] rfl (H37 x2 (x4 + (-1 : Int32)) σ5  h)
theorem bl_X12_feed_37 {G : zG} {x : zX} {r : Int32} {τ : Sg} (O : zO G x cX12_feed RX12 1 40 5) (E : zE G x (some (.int)) (some (.int r)) τ) (n : Nat) : ∀ (k : Nat) (x2 : Int64) (x4 : Int32) (σ : Sg), s_X12_feed_37 n k x2 x4 σ = some (r, τ) → V G x σ [(0, .ref (zad G 71)), (2, .long x2), (4, .int x4)] 37 [] := by
  intro k
  induction k with
  | zero => intro x2 x4 σ  h; cases h
  | succ k ih => intro x2 x4 σ  h; exact b_X12_feed_37 O E n  (s_X12_feed_37 n  k) ih x2 x4 σ  h
set_option maxRecDepth 20000 in
theorem C_X12_feed {l : Launch} {G : zG} {n : Nat} {x1 : Int32} {x2 : Int64} {σ : Sg} {r : Int32} {τ : Sg} (h : s_X12_feed n x1 x2 σ = some (r, τ)) : zM l G 1 yX12_feed (.code yX12_feed cX12_feed 5 (some (.int))) [.ref (zad G 71), .int x1, .long x2] σ (some (.int r)) τ := by
  refine zM_of (by decide) (Nat.le_of_ble_eq_true rfl) (fun x O E => ?_)
  have O : zO G x cX12_feed RX12 1 40 5 := O
  unfold s_X12_feed at h
  show V G x σ [(0, .ref (zad G 71)), (1, .int x1), (2, .long x2)] 0 []
  refine V_iloadn 0 1 O dX12_feed_0 rfl rfl ?_
  refine V_i2l 1 O dX12_feed_1 ?_
  refine V_lconst 2 O dX12_feed_2 cl_1 ?_
  refine V_ldc2 3 O dX12_feed_3 ld_X12_197 ?_
  obtain ⟨r2, σ1, g, h⟩ := bd_of h
  refine V_callSi 6 [.long x1.toInt64, .long (1 : Int64), .long (8 : Int64)] [] O mf_X12_in lk_X12_162 dX12_feed_6 rfl rfl (Nat.le_of_ble_eq_true rfl) ⟨(Nat.le_of_ble_eq_true rfl), (Nat.le_of_ble_eq_true rfl)⟩ (fun l => C_X12_in  g) ?_
  refine V_if_ne 9 16 O dX12_feed_9 rfl h (fun h => ?_) (fun h => ?_)
  · refine V_aloadn 16 0 O dX12_feed_16 rfl rfl ?_
    refine V_getI 17 O k71 fl_X12_199 dX12_feed_17 ?_
    refine V_iloadn 20 1 O dX12_feed_20 rfl rfl ?_
    refine V_iadd 21 O dX12_feed_21 ?_
    refine V_sipush 22 O dX12_feed_22 cs_160 ?_
    refine V_icmp_le 25 32 O dX12_feed_25 rfl h (fun h => ?_) (fun h => ?_)
    · refine V_iloadn 32 1 O dX12_feed_32 rfl rfl ?_
      refine V_iconst 33 O dX12_feed_33 ci_1 ?_
      refine V_isub 34 O dX12_feed_34 ?_
      refine V_topi h (fun v3 h => ?_)
      refine V_istore 35 [1, 2, 3, 0] [(0, .ref (zad G 71)), (1, .int x1), (2, .long x2), (4, .int v3)] O dX12_feed_35 (Nat.le_of_ble_eq_true rfl) rfl ?_
      exact V_sub [0, 2, 3] rfl (bl_X12_feed_37 O E n  n x2 v3 σ1  h)
    · refine V_sipush 28 O dX12_feed_28 cs_m1004 ?_
      exact V_iret 31 O E dX12_feed_31 h
  · refine V_sipush 12 O dX12_feed_12 cs_m1002 ?_
    exact V_iret 15 O E dX12_feed_15 h
-- ==== WaterTownModel.here()I
def s_X12_here_38 (n : Nat) (σ : Sg) : Option (Int32 × Sg) := if (σ 71 33) ≤ (σ 71 34) then (some ((-1 : Int32), σ)) else (ck (σ 71 34) 160 (some (σ 98 (ix (σ 71 34)), σ)))
def s_X12_here_0b (n : Nat) (rc0 : Sg → Option (Int32 × Sg)) (σ : Sg) : Option (Int32 × Sg) := if (σ 71 33) ≤ (σ 71 34) then (s_X12_here_38 n σ) else (ck (σ 71 34) 160 (if (σ 98 (ix (σ 71 34))) = (32 : Int32) then (lt (up2 σ 71 34 ((σ 71 34) + (1 : Int32))) fun σ1 => rc0 σ1) else (s_X12_here_38 n σ)))
def s_X12_here_0 (n : Nat) : Nat → Sg → Option (Int32 × Sg)
  | 0 => fun  _ => none
  | k + 1 => s_X12_here_0b n (s_X12_here_0 n k)
def s_X12_here (n : Nat) (σ : Sg) : Option (Int32 × Sg) := s_X12_here_0 n n σ
set_option maxRecDepth 20000 in
theorem b_X12_here_38 {G : zG} {x : zX} {r : Int32} {τ : Sg} (O : zO G x cX12_here RX12 0 0 1) (E : zE G x (some (.int)) (some (.int r)) τ) (n : Nat) (σ : Sg) (h : s_X12_here_38 n σ = some (r, τ)) : V G x σ [(0, .ref (zad G 71))] 38 [] := by
  unfold s_X12_here_38 at h
  refine V_aloadn 38 0 O dX12_here_38 rfl rfl ?_
  refine V_getI 39 O k71 fl_X12_204 dX12_here_39 ?_
  refine V_aloadn 42 0 O dX12_here_42 rfl rfl ?_
  refine V_getI 43 O k71 fl_X12_199 dX12_here_43 ?_
  refine V_icmp_ge 46 61 O dX12_here_46 rfl h (fun h => ?_) (fun h => ?_)
  · refine V_iconst 61 O dX12_here_61 ci_m1 ?_
    exact V_iret 62 O E dX12_here_62 h
  · refine V_aloadn 49 0 O dX12_here_49 rfl rfl ?_
    refine V_getR 50 O k71 fl_X12_89 rf71_32 dX12_here_50 ?_
    refine V_aloadn 53 0 O dX12_here_53 rfl rfl ?_
    refine V_getI 54 O k71 fl_X12_204 dX12_here_54 ?_
    refine V_iald 57 O k98 dX12_here_57 h (fun h => ?_)
    refine V_goto 58 62 O dX12_here_58 rfl ?_
    exact V_iret 62 O E dX12_here_62 h
set_option maxRecDepth 20000 in
theorem b_X12_here_0 {G : zG} {x : zX} {r : Int32} {τ : Sg} (O : zO G x cX12_here RX12 0 0 1) (E : zE G x (some (.int)) (some (.int r)) τ) (n : Nat) (rc0 : Sg → Option (Int32 × Sg)) (H0 : ∀ (σ : Sg), rc0 σ = some (r, τ) → V G x σ [(0, .ref (zad G 71))] 0 []) (σ : Sg) (h : s_X12_here_0b n rc0 σ = some (r, τ)) : V G x σ [(0, .ref (zad G 71))] 0 [] := by
  unfold s_X12_here_0b at h
  refine V_aloadn 0 0 O dX12_here_0 rfl rfl ?_
  refine V_getI 1 O k71 fl_X12_204 dX12_here_1 ?_
  refine V_aloadn 4 0 O dX12_here_4 rfl rfl ?_
  refine V_getI 5 O k71 fl_X12_199 dX12_here_5 ?_
  refine V_icmp_ge 8 38 O dX12_here_8 rfl h (fun h => ?_) (fun h => ?_)
  · exact V_sub [0] rfl (b_X12_here_38 O E n   σ  h)
  · refine V_aloadn 11 0 O dX12_here_11 rfl rfl ?_
    refine V_getR 12 O k71 fl_X12_89 rf71_32 dX12_here_12 ?_
    refine V_aloadn 15 0 O dX12_here_15 rfl rfl ?_
    refine V_getI 16 O k71 fl_X12_204 dX12_here_16 ?_
    refine V_iald 19 O k98 dX12_here_19 h (fun h => ?_)
    refine V_bipush 20 O dX12_here_20 cb_32 ?_
    refine V_icmp_ne 22 38 O dX12_here_22 rfl h (fun h => ?_) (fun h => ?_)
    · exact V_sub [0] rfl (b_X12_here_38 O E n   σ  h)
    · refine V_aloadn 25 0 O dX12_here_25 rfl rfl ?_
      refine V_dup 26 O dX12_here_26 rfl ?_
      refine V_getI 27 O k71 fl_X12_204 dX12_here_27 ?_
      refine V_iconst 30 O dX12_here_30 ci_1 ?_
      refine V_iadd 31 O dX12_here_31 ?_
      refine V_put 32 O k71 fp_X12_204 dX12_here_32 h (fun σ1 h => ?_)
      refine V_goto 35 0 O dX12_here_35 rfl ?_
      exact V_sub [0] rfl (H0  σ1  h)
theorem bl_X12_here_0 {G : zG} {x : zX} {r : Int32} {τ : Sg} (O : zO G x cX12_here RX12 0 0 1) (E : zE G x (some (.int)) (some (.int r)) τ) (n : Nat) : ∀ (k : Nat) (σ : Sg), s_X12_here_0 n k σ = some (r, τ) → V G x σ [(0, .ref (zad G 71))] 0 [] := by
  intro k
  induction k with
  | zero => intro  σ  h; cases h
  | succ k ih => intro  σ  h; exact b_X12_here_0 O E n  (s_X12_here_0 n  k) ih  σ  h
set_option maxRecDepth 20000 in
theorem C_X12_here {l : Launch} {G : zG} {n : Nat} {σ : Sg} {r : Int32} {τ : Sg} (h : s_X12_here n σ = some (r, τ)) : zM l G 0 yX12_here (.code yX12_here cX12_here 1 (some (.int))) [.ref (zad G 71)] σ (some (.int r)) τ := by
  refine zM_of (by decide) (Nat.le_of_ble_eq_true rfl) (fun x O E => ?_)
  have O : zO G x cX12_here RX12 0 0 1 := O
  unfold s_X12_here at h
  show V G x σ [(0, .ref (zad G 71))] 0 []
  exact V_sub [0] rfl (bl_X12_here_0 O E n  n  σ  h)
-- ==== WaterTownModel.want(ZII)Z
def s_X12_want_21 (n : Nat) (σ : Sg) : Option (Int32 × Sg) := if (σ 71 35) = 0 then (some ((1 : Int32), σ)) else (some ((0 : Int32), σ))
def s_X12_want (n : Nat) (x1 : Int32) (x2 : Int32) (x3 : Int32) (σ : Sg) : Option (Int32 × Sg) := if x1 = 0 then (if (σ 71 35) = 0 then (lt (up2 σ 71 35 x2) fun σ1 => lt (up2 σ1 71 36 x3) fun σ2 => s_X12_want_21 n σ2) else (s_X12_want_21 n σ)) else (s_X12_want_21 n σ)
set_option maxRecDepth 20000 in
theorem b_X12_want_21 {G : zG} {x : zX} {r : Int32} {τ : Sg} (O : zO G x cX12_want RX12 0 0 4) (E : zE G x (some (.boolean)) (some (.int r)) τ) (n : Nat) (σ : Sg) (h : s_X12_want_21 n σ = some (r, τ)) : V G x σ [(0, .ref (zad G 71))] 21 [] := by
  unfold s_X12_want_21 at h
  refine V_aloadn 21 0 O dX12_want_21 rfl rfl ?_
  refine V_getI 22 O k71 fl_X12_207 dX12_want_22 ?_
  refine V_if_ne 25 32 O dX12_want_25 rfl h (fun h => ?_) (fun h => ?_)
  · refine V_iconst 32 O dX12_want_32 ci_0 ?_
    exact V_zret0 33 O E dX12_want_33 h
  · refine V_iconst 28 O dX12_want_28 ci_1 ?_
    refine V_goto 29 33 O dX12_want_29 rfl ?_
    exact V_zret1 33 O E dX12_want_33 h
set_option maxRecDepth 20000 in
theorem C_X12_want {l : Launch} {G : zG} {n : Nat} {x1 : Int32} {x2 : Int32} {x3 : Int32} {σ : Sg} {r : Int32} {τ : Sg} (h : s_X12_want n x1 x2 x3 σ = some (r, τ)) : zM l G 0 yX12_want (.code yX12_want cX12_want 4 (some (.boolean))) [.ref (zad G 71), .int x1, .int x2, .int x3] σ (some (.int r)) τ := by
  refine zM_of (by decide) (Nat.le_of_ble_eq_true rfl) (fun x O E => ?_)
  have O : zO G x cX12_want RX12 0 0 4 := O
  unfold s_X12_want at h
  show V G x σ [(0, .ref (zad G 71)), (1, .int x1), (2, .int x2), (3, .int x3)] 0 []
  refine V_iloadn 0 1 O dX12_want_0 rfl rfl ?_
  refine V_if_ne 1 21 O dX12_want_1 rfl h (fun h => ?_) (fun h => ?_)
  · exact V_sub [0] rfl (b_X12_want_21 O E n   σ  h)
  · refine V_aloadn 4 0 O dX12_want_4 rfl rfl ?_
    refine V_getI 5 O k71 fl_X12_207 dX12_want_5 ?_
    refine V_if_ne 8 21 O dX12_want_8 rfl h (fun h => ?_) (fun h => ?_)
    · exact V_sub [0] rfl (b_X12_want_21 O E n   σ  h)
    · refine V_aloadn 11 0 O dX12_want_11 rfl rfl ?_
      refine V_iloadn 12 2 O dX12_want_12 rfl rfl ?_
      refine V_put 13 O k71 fp_X12_207 dX12_want_13 h (fun σ1 h => ?_)
      refine V_aloadn 16 0 O dX12_want_16 rfl rfl ?_
      refine V_iloadn 17 3 O dX12_want_17 rfl rfl ?_
      refine V_put 18 O k71 fp_X12_92 dX12_want_18 h (fun σ2 h => ?_)
      exact V_sub [0] rfl (b_X12_want_21 O E n   σ2  h)
