-- ==== Beds.oldestOn(I)I
def s_X0_oldestOn (n : Nat) (x1 : Int32) (σ : Sg) : Option (Int32 × Sg) := some (imin x1 (σ 68 7), σ)
set_option maxRecDepth 20000 in
theorem C_X0_oldestOn {l : Launch} {G : zG} {n : Nat} {x1 : Int32} {σ : Sg} {r : Int32} {τ : Sg} (h : s_X0_oldestOn n x1 σ = some (r, τ)) : zM l G 1 yX0_oldestOn (.code yX0_oldestOn cX0_oldestOn 2 (some (.int))) [.ref (zad G 68), .int x1] σ (some (.int r)) τ := by
  refine zM_of (by decide) (Nat.le_of_ble_eq_true rfl) (fun x O E => ?_)
  have O : zO G x cX0_oldestOn RX0 1 40 2 := O
  unfold s_X0_oldestOn at h
  show V G x σ [(0, .ref (zad G 68)), (1, .int x1)] 0 []
  refine V_iloadn 0 1 O dX0_oldestOn_0 rfl rfl ?_
  refine V_aloadn 1 0 O dX0_oldestOn_1 rfl rfl ?_
  refine V_getI 2 O k68 fl_X0_41 dX0_oldestOn_2 ?_
  refine V_min 5 O lk_X0_35 mm_imin.1 mm_imin.2.1 mm_imin.2.2 (Nat.le_of_ble_eq_true rfl) (Nat.le_of_ble_eq_true rfl) dX0_oldestOn_5 ?_
  exact V_iret 8 O E dX0_oldestOn_8 h
-- ==== Beds.gives(III)I
def s_X0_gives (n : Nat) (x1 : Int32) (x2 : Int32) (x3 : Int32) (σ : Sg) : Option (Int32 × Sg) := if (σ 68 2) ≤ x1 then (some ((0 : Int32), σ)) else (if x1 = x3 then (some ((0 : Int32), σ)) else (some (imax (0 : Int32) ((σ 68 3) - ((σ 68 4) * x2)), σ)))
set_option maxRecDepth 20000 in
theorem C_X0_gives {l : Launch} {G : zG} {n : Nat} {x1 : Int32} {x2 : Int32} {x3 : Int32} {σ : Sg} {r : Int32} {τ : Sg} (h : s_X0_gives n x1 x2 x3 σ = some (r, τ)) : zM l G 1 yX0_gives (.code yX0_gives cX0_gives 4 (some (.int))) [.ref (zad G 68), .int x1, .int x2, .int x3] σ (some (.int r)) τ := by
  refine zM_of (by decide) (Nat.le_of_ble_eq_true rfl) (fun x O E => ?_)
  have O : zO G x cX0_gives RX0 1 40 4 := O
  unfold s_X0_gives at h
  show V G x σ [(0, .ref (zad G 68)), (1, .int x1), (2, .int x2), (3, .int x3)] 0 []
  refine V_iloadn 0 1 O dX0_gives_0 rfl rfl ?_
  refine V_aloadn 1 0 O dX0_gives_1 rfl rfl ?_
  refine V_getI 2 O k68 fl_X0_19 dX0_gives_2 ?_
  refine V_icmp_ge 5 13 O dX0_gives_5 rfl h (fun h => ?_) (fun h => ?_)
  · refine V_iconst 13 O dX0_gives_13 ci_0 ?_
    refine V_goto 14 32 O dX0_gives_14 rfl ?_
    exact V_iret 32 O E dX0_gives_32 h
  · refine V_iloadn 8 1 O dX0_gives_8 rfl rfl ?_
    refine V_iloadn 9 3 O dX0_gives_9 rfl rfl ?_
    refine V_icmp_ne 10 17 O dX0_gives_10 rfl h (fun h => ?_) (fun h => ?_)
    · refine V_iconst 17 O dX0_gives_17 ci_0 ?_
      refine V_aloadn 18 0 O dX0_gives_18 rfl rfl ?_
      refine V_getI 19 O k68 fl_X0_23 dX0_gives_19 ?_
      refine V_aloadn 22 0 O dX0_gives_22 rfl rfl ?_
      refine V_getI 23 O k68 fl_X0_26 dX0_gives_23 ?_
      refine V_iloadn 26 2 O dX0_gives_26 rfl rfl ?_
      refine V_imul 27 O dX0_gives_27 ?_
      refine V_isub 28 O dX0_gives_28 ?_
      refine V_max 29 O lk_X0_63 mm_imax.1 mm_imax.2.1 mm_imax.2.2 (Nat.le_of_ble_eq_true rfl) (Nat.le_of_ble_eq_true rfl) dX0_gives_29 ?_
      exact V_iret 32 O E dX0_gives_32 h
    · refine V_iconst 13 O dX0_gives_13 ci_0 ?_
      refine V_goto 14 32 O dX0_gives_14 rfl ?_
      exact V_iret 32 O E dX0_gives_32 h
-- ==== Beds.older(IIII)I
def s_X0_older (n : Nat) (x1 : Int32) (x2 : Int32) (x3 : Int32) (x4 : Int32) (σ : Sg) : Option (Int32 × Sg) := if (σ 68 2) ≤ x1 then (some ((0 : Int32), σ)) else (if x1 = x3 then (some ((0 : Int32), σ)) else (bd (s_X0_oldestOn n (x4 + (1 : Int32)) σ) fun r2 σ1 => some (imin (x2 + (1 : Int32)) r2, σ1)))
set_option maxRecDepth 20000 in
theorem C_X0_older {l : Launch} {G : zG} {n : Nat} {x1 : Int32} {x2 : Int32} {x3 : Int32} {x4 : Int32} {σ : Sg} {r : Int32} {τ : Sg} (h : s_X0_older n x1 x2 x3 x4 σ = some (r, τ)) : zM l G 2 yX0_older (.code yX0_older cX0_older 5 (some (.int))) [.ref (zad G 68), .int x1, .int x2, .int x3, .int x4] σ (some (.int r)) τ := by
  refine zM_of (by decide) (Nat.le_of_ble_eq_true rfl) (fun x O E => ?_)
  have O : zO G x cX0_older RX0 2 80 5 := O
  unfold s_X0_older at h
  show V G x σ [(0, .ref (zad G 68)), (1, .int x1), (2, .int x2), (3, .int x3), (4, .int x4)] 0 []
  refine V_iloadn 0 1 O dX0_older_0 rfl rfl ?_
  refine V_aloadn 1 0 O dX0_older_1 rfl rfl ?_
  refine V_getI 2 O k68 fl_X0_19 dX0_older_2 ?_
  refine V_icmp_ge 5 13 O dX0_older_5 rfl h (fun h => ?_) (fun h => ?_)
  · refine V_iconst 13 O dX0_older_13 ci_0 ?_
    refine V_goto 14 31 O dX0_older_14 rfl ?_
    exact V_iret 31 O E dX0_older_31 h
  · refine V_iloadn 8 1 O dX0_older_8 rfl rfl ?_
    refine V_iloadn 9 3 O dX0_older_9 rfl rfl ?_
    refine V_icmp_ne 10 17 O dX0_older_10 rfl h (fun h => ?_) (fun h => ?_)
    · refine V_iloadn 17 2 O dX0_older_17 rfl rfl ?_
      refine V_iconst 18 O dX0_older_18 ci_1 ?_
      refine V_iadd 19 O dX0_older_19 ?_
      refine V_aloadn 20 0 O dX0_older_20 rfl rfl ?_
      refine V_iload 21 4 O dX0_older_21 rfl ?_
      refine V_iconst 23 O dX0_older_23 ci_1 ?_
      refine V_iadd 24 O dX0_older_24 ?_
      obtain ⟨r2, σ1, g, h⟩ := bd_of h
      refine V_callVi 25 [.int (x4 + (1 : Int32))] [.int (x2 + (1 : Int32))] O mf_X0_oldestOn lk_X0_51 k68 dX0_older_25 rfl rfl (Nat.le_of_ble_eq_true rfl) ⟨(Nat.le_of_ble_eq_true rfl), (Nat.le_of_ble_eq_true rfl)⟩ (fun l => C_X0_oldestOn  g) ?_
      refine V_min 28 O lk_X0_35 mm_imin.1 mm_imin.2.1 mm_imin.2.2 (Nat.le_of_ble_eq_true rfl) (Nat.le_of_ble_eq_true rfl) dX0_older_28 ?_
      exact V_iret 31 O E dX0_older_31 h
    · refine V_iconst 13 O dX0_older_13 ci_0 ?_
      refine V_goto 14 31 O dX0_older_14 rfl ?_
      exact V_iret 31 O E dX0_older_31 h
-- ==== Beds.place(IIII)I
def s_X0_place (n : Nat) (x0 : Int32) (x1 : Int32) (x2 : Int32) (x3 : Int32) (σ : Sg) : Option (Int32 × Sg) := lt (imax x1 (imax x2 x3)) fun v1 => lt (imin x1 (imin x2 x3)) fun v2 => lt ((((x1 + x2) + x3) - v1) - v2) fun v3 => lt ((((x0 * (x0 + (1 : Int32))) * (x0 + (2 : Int32))) * (x0 + (3 : Int32))) / (24 : Int32)) fun v4 => some (((v4 + (((v1 * (v1 + (1 : Int32))) * (v1 + (2 : Int32))) / (6 : Int32))) + ((v3 * (v3 + (1 : Int32))) / (2 : Int32))) + v2, σ)
set_option maxRecDepth 20000 in
theorem C_X0_place {l : Launch} {G : zG} {n : Nat} {x0 : Int32} {x1 : Int32} {x2 : Int32} {x3 : Int32} {σ : Sg} {r : Int32} {τ : Sg} (h : s_X0_place n x0 x1 x2 x3 σ = some (r, τ)) : zM l G 1 yX0_place (.code yX0_place cX0_place 8 (some (.int))) [.int x0, .int x1, .int x2, .int x3] σ (some (.int r)) τ := by
  refine zM_of (by decide) (Nat.le_of_ble_eq_true rfl) (fun x O E => ?_)
  have O : zO G x cX0_place RX0 1 40 8 := O
  unfold s_X0_place at h
  show V G x σ [(0, .int x0), (1, .int x1), (2, .int x2), (3, .int x3)] 0 []
  refine V_iloadn 0 1 O dX0_place_0 rfl rfl ?_
  refine V_iloadn 1 2 O dX0_place_1 rfl rfl ?_
  refine V_iloadn 2 3 O dX0_place_2 rfl rfl ?_
  refine V_max 3 O lk_X0_63 mm_imax.1 mm_imax.2.1 mm_imax.2.2 (Nat.le_of_ble_eq_true rfl) (Nat.le_of_ble_eq_true rfl) dX0_place_3 ?_
  refine V_max 6 O lk_X0_63 mm_imax.1 mm_imax.2.1 mm_imax.2.2 (Nat.le_of_ble_eq_true rfl) (Nat.le_of_ble_eq_true rfl) dX0_place_6 ?_
  refine V_topi h (fun v1 h => ?_)
  refine V_istore 9 [1, 2, 3, 4, 0] [(0, .int x0), (1, .int x1), (2, .int x2), (3, .int x3), (4, .int v1)] O dX0_place_9 (Nat.le_of_ble_eq_true rfl) rfl ?_
  refine V_iloadn 11 1 O dX0_place_11 rfl rfl ?_
  refine V_iloadn 12 2 O dX0_place_12 rfl rfl ?_
  refine V_iloadn 13 3 O dX0_place_13 rfl rfl ?_
  refine V_min 14 O lk_X0_35 mm_imin.1 mm_imin.2.1 mm_imin.2.2 (Nat.le_of_ble_eq_true rfl) (Nat.le_of_ble_eq_true rfl) dX0_place_14 ?_
  refine V_min 17 O lk_X0_35 mm_imin.1 mm_imin.2.1 mm_imin.2.2 (Nat.le_of_ble_eq_true rfl) (Nat.le_of_ble_eq_true rfl) dX0_place_17 ?_
  refine V_topi h (fun v2 h => ?_)
  refine V_istore 20 [1, 2, 3, 4, 5, 0] [(0, .int x0), (1, .int x1), (2, .int x2), (3, .int x3), (4, .int v1), (5, .int v2)] O dX0_place_20 (Nat.le_of_ble_eq_true rfl) rfl ?_
  refine V_iloadn 22 1 O dX0_place_22 rfl rfl ?_
  refine V_iloadn 23 2 O dX0_place_23 rfl rfl ?_
  refine V_iadd 24 O dX0_place_24 ?_
  refine V_iloadn 25 3 O dX0_place_25 rfl rfl ?_
  refine V_iadd 26 O dX0_place_26 ?_
  refine V_iload 27 4 O dX0_place_27 rfl ?_
  refine V_isub 29 O dX0_place_29 ?_
  refine V_iload 30 5 O dX0_place_30 rfl ?_
  refine V_isub 32 O dX0_place_32 ?_
  refine V_topi h (fun v3 h => ?_)
  refine V_istore 33 [1, 2, 3, 4, 5, 6, 0] [(0, .int x0), (1, .int x1), (2, .int x2), (3, .int x3), (4, .int v1), (5, .int v2), (6, .int v3)] O dX0_place_33 (Nat.le_of_ble_eq_true rfl) rfl ?_
  refine V_iloadn 35 0 O dX0_place_35 rfl rfl ?_
  refine V_iloadn 36 0 O dX0_place_36 rfl rfl ?_
  refine V_iconst 37 O dX0_place_37 ci_1 ?_
  refine V_iadd 38 O dX0_place_38 ?_
  refine V_imul 39 O dX0_place_39 ?_
  refine V_iloadn 40 0 O dX0_place_40 rfl rfl ?_
  refine V_iconst 41 O dX0_place_41 ci_2 ?_
  refine V_iadd 42 O dX0_place_42 ?_
  refine V_imul 43 O dX0_place_43 ?_
  refine V_iloadn 44 0 O dX0_place_44 rfl rfl ?_
  refine V_iconst 45 O dX0_place_45 ci_3 ?_
  refine V_iadd 46 O dX0_place_46 ?_
  refine V_imul 47 O dX0_place_47 ?_
  refine V_bipush 48 O dX0_place_48 cb_24 ?_
  refine V_idivC 50 O dX0_place_50 (by decide) ?_
  refine V_topi h (fun v4 h => ?_)
  refine V_istore 51 [1, 2, 3, 4, 5, 6, 7, 0] [(0, .int x0), (1, .int x1), (2, .int x2), (3, .int x3), (4, .int v1), (5, .int v2), (6, .int v3), (7, .int v4)] O dX0_place_51 (Nat.le_of_ble_eq_true rfl) rfl ?_
  refine V_iload 53 7 O dX0_place_53 rfl ?_
  refine V_iload 55 4 O dX0_place_55 rfl ?_
  refine V_iload 57 4 O dX0_place_57 rfl ?_
  refine V_iconst 59 O dX0_place_59 ci_1 ?_
  refine V_iadd 60 O dX0_place_60 ?_
  refine V_imul 61 O dX0_place_61 ?_
  refine V_iload 62 4 O dX0_place_62 rfl ?_
  refine V_iconst 64 O dX0_place_64 ci_2 ?_
  refine V_iadd 65 O dX0_place_65 ?_
  refine V_imul 66 O dX0_place_66 ?_
  refine V_bipush 67 O dX0_place_67 cb_6 ?_
  refine V_idivC 69 O dX0_place_69 (by decide) ?_
  refine V_iadd 70 O dX0_place_70 ?_
  refine V_iload 71 6 O dX0_place_71 rfl ?_
  refine V_iload 73 6 O dX0_place_73 rfl ?_
  refine V_iconst 75 O dX0_place_75 ci_1 ?_
  refine V_iadd 76 O dX0_place_76 ?_
  refine V_imul 77 O dX0_place_77 ?_
  refine V_iconst 78 O dX0_place_78 ci_2 ?_
  refine V_idivC 79 O dX0_place_79 (by decide) ?_
  refine V_iadd 80 O dX0_place_80 ?_
  refine V_iload 81 5 O dX0_place_81 rfl ?_
  refine V_iadd 83 O dX0_place_83 ?_
  exact V_iret 84 O E dX0_place_84 h
-- ==== Beds.costOf(IIIII)I
def s_X0_costOf_52 (n : Nat) (x1 : Int32) (x2 : Int32) (x3 : Int32) (x4 : Int32) (x5 : Int32) (y0 : Int32) (σ : Sg) : Option (Int32 × Sg) := if x1 = (σ 68 6) then (some (y0, σ)) else (bd (s_X0_older n (0 : Int32) x2 x5 x1 σ) fun r12 σ11 => bd (s_X0_older n (1 : Int32) x3 x5 x1 σ11) fun r14 σ13 => bd (s_X0_older n (2 : Int32) x4 x5 x1 σ13) fun r16 σ15 => bd (s_X0_place n (x1 + (1 : Int32)) r12 r14 r16 σ15) fun r18 σ17 => ck r18 10626 (some (imin (100 : Int32) (y0 + (σ17 70 (ix r18))), σ17)))
def s_X0_costOf (n : Nat) (x1 : Int32) (x2 : Int32) (x3 : Int32) (x4 : Int32) (x5 : Int32) (σ : Sg) : Option (Int32 × Sg) := bd (s_X0_gives n (0 : Int32) x2 x5 σ) fun r2 σ1 => bd (s_X0_gives n (1 : Int32) x3 x5 σ1) fun r4 σ3 => bd (s_X0_gives n (2 : Int32) x4 x5 σ3) fun r6 σ5 => lt ((r2 + r4) + r6) fun v7 => if (σ5 68 5) ≤ v7 then (lt (if x5 = (-1 : Int32) then (0 : Int32) else (1 : Int32)) fun v10 => s_X0_costOf_52 n x1 x2 x3 x4 x5 v10 σ5) else (some ((100 : Int32), σ5))
set_option maxRecDepth 20000 in
theorem b_X0_costOf_52 {G : zG} {x : zX} {r : Int32} {τ : Sg} (O : zO G x cX0_costOf RX0 3 120 9) (E : zE G x (some (.int)) (some (.int r)) τ) (n : Nat) (x1 : Int32) (x2 : Int32) (x3 : Int32) (x4 : Int32) (x5 : Int32) (y0 : Int32) (σ : Sg) (h : s_X0_costOf_52 n x1 x2 x3 x4 x5 y0 σ = some (r, τ)) : V G x σ [(0, .ref (zad G 68)), (1, .int x1), (2, .int x2), (3, .int x3), (4, .int x4), (5, .int x5)] 52 [.int y0] := by
  unfold s_X0_costOf_52 at h
  refine V_istore 52 [1, 2, 3, 4, 5, 6, 0] [(0, .ref (zad G 68)), (1, .int x1), (2, .int x2), (3, .int x3), (4, .int x4), (5, .int x5), (7, .int y0)] O dX0_costOf_52 (Nat.le_of_ble_eq_true rfl) rfl ?_
  refine V_iloadn 54 1 O dX0_costOf_54 rfl rfl ?_
  refine V_aloadn 55 0 O dX0_costOf_55 rfl rfl ?_
  refine V_getI 56 O k68 fl_X0_32 dX0_costOf_56 ?_
  refine V_icmp_ne 59 65 O dX0_costOf_59 rfl h (fun h => ?_) (fun h => ?_)
  · refine V_iloadn 65 1 O dX0_costOf_65 rfl rfl ?_
    refine V_iconst 66 O dX0_costOf_66 ci_1 ?_
    refine V_iadd 67 O dX0_costOf_67 ?_
    refine V_aloadn 68 0 O dX0_costOf_68 rfl rfl ?_
    refine V_iconst 69 O dX0_costOf_69 ci_0 ?_
    refine V_iloadn 70 2 O dX0_costOf_70 rfl rfl ?_
    refine V_iload 71 5 O dX0_costOf_71 rfl ?_
    refine V_iloadn 73 1 O dX0_costOf_73 rfl rfl ?_
    obtain ⟨r12, σ11, g, h⟩ := bd_of h
    refine V_callVi 74 [.int (0 : Int32), .int x2, .int x5, .int x1] [.int (x1 + (1 : Int32))] O mf_X0_older lk_X0_70 k68 dX0_costOf_74 rfl rfl (Nat.le_of_ble_eq_true rfl) ⟨(Nat.le_of_ble_eq_true rfl), (Nat.le_of_ble_eq_true rfl)⟩ (fun l => C_X0_older  g) ?_
    refine V_aloadn 77 0 O dX0_costOf_77 rfl rfl ?_
    refine V_iconst 78 O dX0_costOf_78 ci_1 ?_
    refine V_iloadn 79 3 O dX0_costOf_79 rfl rfl ?_
    refine V_iload 80 5 O dX0_costOf_80 rfl ?_
    refine V_iloadn 82 1 O dX0_costOf_82 rfl rfl ?_
    obtain ⟨r14, σ13, g, h⟩ := bd_of h
    refine V_callVi 83 [.int (1 : Int32), .int x3, .int x5, .int x1] [.int r12, .int (x1 + (1 : Int32))] O mf_X0_older lk_X0_70 k68 dX0_costOf_83 rfl rfl (Nat.le_of_ble_eq_true rfl) ⟨(Nat.le_of_ble_eq_true rfl), (Nat.le_of_ble_eq_true rfl)⟩ (fun l => C_X0_older  g) ?_
    refine V_aloadn 86 0 O dX0_costOf_86 rfl rfl ?_
    refine V_iconst 87 O dX0_costOf_87 ci_2 ?_
    refine V_iload 88 4 O dX0_costOf_88 rfl ?_
    refine V_iload 90 5 O dX0_costOf_90 rfl ?_
    refine V_iloadn 92 1 O dX0_costOf_92 rfl rfl ?_
    obtain ⟨r16, σ15, g, h⟩ := bd_of h
    refine V_callVi 93 [.int (2 : Int32), .int x4, .int x5, .int x1] [.int r14, .int r12, .int (x1 + (1 : Int32))] O mf_X0_older lk_X0_70 k68 dX0_costOf_93 rfl rfl (Nat.le_of_ble_eq_true rfl) ⟨(Nat.le_of_ble_eq_true rfl), (Nat.le_of_ble_eq_true rfl)⟩ (fun l => C_X0_older  g) ?_
    obtain ⟨r18, σ17, g, h⟩ := bd_of h
    refine V_callSi 96 [.int (x1 + (1 : Int32)), .int r12, .int r14, .int r16] [] O mf_X0_place lk_X0_59 dX0_costOf_96 rfl rfl (Nat.le_of_ble_eq_true rfl) ⟨(Nat.le_of_ble_eq_true rfl), (Nat.le_of_ble_eq_true rfl)⟩ (fun l => C_X0_place  g) ?_
    refine V_istore 99 [1, 2, 3, 4, 5, 6, 7, 0] [(0, .ref (zad G 68)), (1, .int x1), (2, .int x2), (3, .int x3), (4, .int x4), (5, .int x5), (7, .int y0), (8, .int r18)] O dX0_costOf_99 (Nat.le_of_ble_eq_true rfl) rfl ?_
    refine V_bipush 101 O dX0_costOf_101 cb_100 ?_
    refine V_iload 103 6 O dX0_costOf_103 rfl ?_
    refine V_aloadn 105 0 O dX0_costOf_105 rfl rfl ?_
    refine V_getR 106 O k68 fl_X0_15 rf68_8 dX0_costOf_106 ?_
    refine V_iload 109 7 O dX0_costOf_109 rfl ?_
    refine V_bald 111 O k70 dX0_costOf_111 h (fun h => ?_)
    refine V_iadd 112 O dX0_costOf_112 ?_
    refine V_min 113 O lk_X0_35 mm_imin.1 mm_imin.2.1 mm_imin.2.2 (Nat.le_of_ble_eq_true rfl) (Nat.le_of_ble_eq_true rfl) dX0_costOf_113 ?_
    exact V_iret 116 O E dX0_costOf_116 h
  · refine V_iload 62 6 O dX0_costOf_62 rfl ?_
    exact V_iret 64 O E dX0_costOf_64 h
set_option maxRecDepth 20000 in
theorem C_X0_costOf {l : Launch} {G : zG} {n : Nat} {x1 : Int32} {x2 : Int32} {x3 : Int32} {x4 : Int32} {x5 : Int32} {σ : Sg} {r : Int32} {τ : Sg} (h : s_X0_costOf n x1 x2 x3 x4 x5 σ = some (r, τ)) : zM l G 3 yX0_costOf (.code yX0_costOf cX0_costOf 9 (some (.int))) [.ref (zad G 68), .int x1, .int x2, .int x3, .int x4, .int x5] σ (some (.int r)) τ := by
  refine zM_of (by decide) (Nat.le_of_ble_eq_true rfl) (fun x O E => ?_)
  have O : zO G x cX0_costOf RX0 3 120 9 := O
  unfold s_X0_costOf at h
  show V G x σ [(0, .ref (zad G 68)), (1, .int x1), (2, .int x2), (3, .int x3), (4, .int x4), (5, .int x5)] 0 []
  refine V_aloadn 0 0 O dX0_costOf_0 rfl rfl ?_
  refine V_iconst 1 O dX0_costOf_1 ci_0 ?_
  refine V_iloadn 2 2 O dX0_costOf_2 rfl rfl ?_
  refine V_iload 3 5 O dX0_costOf_3 rfl ?_
  obtain ⟨r2, σ1, g, h⟩ := bd_of h
  refine V_callVi 5 [.int (0 : Int32), .int x2, .int x5] [] O mf_X0_gives lk_X0_66 k68 dX0_costOf_5 rfl rfl (Nat.le_of_ble_eq_true rfl) ⟨(Nat.le_of_ble_eq_true rfl), (Nat.le_of_ble_eq_true rfl)⟩ (fun l => C_X0_gives  g) ?_
  refine V_aloadn 8 0 O dX0_costOf_8 rfl rfl ?_
  refine V_iconst 9 O dX0_costOf_9 ci_1 ?_
  refine V_iloadn 10 3 O dX0_costOf_10 rfl rfl ?_
  refine V_iload 11 5 O dX0_costOf_11 rfl ?_
  obtain ⟨r4, σ3, g, h⟩ := bd_of h
  refine V_callVi 13 [.int (1 : Int32), .int x3, .int x5] [.int r2] O mf_X0_gives lk_X0_66 k68 dX0_costOf_13 rfl rfl (Nat.le_of_ble_eq_true rfl) ⟨(Nat.le_of_ble_eq_true rfl), (Nat.le_of_ble_eq_true rfl)⟩ (fun l => C_X0_gives  g) ?_
  refine V_iadd 16 O dX0_costOf_16 ?_
  refine V_aloadn 17 0 O dX0_costOf_17 rfl rfl ?_
  refine V_iconst 18 O dX0_costOf_18 ci_2 ?_
  refine V_iload 19 4 O dX0_costOf_19 rfl ?_
  refine V_iload 21 5 O dX0_costOf_21 rfl ?_
  obtain ⟨r6, σ5, g, h⟩ := bd_of h
  refine V_callVi 23 [.int (2 : Int32), .int x4, .int x5] [.int (r2 + r4)] O mf_X0_gives lk_X0_66 k68 dX0_costOf_23 rfl rfl (Nat.le_of_ble_eq_true rfl) ⟨(Nat.le_of_ble_eq_true rfl), (Nat.le_of_ble_eq_true rfl)⟩ (fun l => C_X0_gives  g) ?_
  refine V_iadd 26 O dX0_costOf_26 ?_
  refine V_topi h (fun v7 h => ?_)
  refine V_istore 27 [1, 2, 3, 4, 5, 6, 0] [(0, .ref (zad G 68)), (1, .int x1), (2, .int x2), (3, .int x3), (4, .int x4), (5, .int x5), (6, .int v7)] O dX0_costOf_27 (Nat.le_of_ble_eq_true rfl) rfl ?_
  refine V_iload 29 6 O dX0_costOf_29 rfl ?_
  refine V_aloadn 31 0 O dX0_costOf_31 rfl rfl ?_
  refine V_getI 32 O k68 fl_X0_29 dX0_costOf_32 ?_
  refine V_icmp_ge 35 41 O dX0_costOf_35 rfl h (fun h => ?_) (fun h => ?_)
  · refine V_iload 41 5 O dX0_costOf_41 rfl ?_
    refine V_iconst 43 O dX0_costOf_43 ci_m1 ?_
    have J8 : V G x σ5 [(0, .ref (zad G 68)), (1, .int x1), (2, .int x2), (3, .int x3), (4, .int x4), (5, .int x5), (6, .int v7)] 52 [.int (if x5 = (-1 : Int32) then (0 : Int32) else (1 : Int32))] := by
      refine V_topi h (fun v10 h => ?_)
      exact V_sub [0, 1, 2, 3, 4, 5] rfl (b_X0_costOf_52 O E n  x1 x2 x3 x4 x5 v10 σ5  h)
    refine V_icmp_nec 44 51 O dX0_costOf_44 rfl (fun c9 => ?_) (fun c9 => ?_)
    · refine V_iconst 51 O dX0_costOf_51 ci_1 ?_
      exact V_top (by rw [if_neg c9]) J8
    · refine V_iconst 47 O dX0_costOf_47 ci_0 ?_
      refine V_goto 48 52 O dX0_costOf_48 rfl ?_
      exact V_top (by rw [if_pos c9]) J8
  · refine V_bipush 38 O dX0_costOf_38 cb_100 ?_
    exact V_iret 40 O E dX0_costOf_40 h
-- ==== Beds.weighDay(I)V
def s_X0_weighDay_63b (n : Nat) (rc8 : Int32 → Int32 → Int32 → Sg → Option Sg) (rc16 : Int32 → Int32 → Int32 → Int32 → Sg → Option Sg) (rc37 : Int32 → Int32 → Int32 → Int32 → Int32 → Sg → Option Sg) (rc63 : Int32 → Int32 → Int32 → Int32 → Int32 → Int32 → Int32 → Sg → Option Sg) (x1 : Int32) (x2 : Int32) (x3 : Int32) (x4 : Int32) (x5 : Int32) (x6 : Int32) (x7 : Int32) (σ : Sg) : Option Sg := if (σ 68 2) ≤ x7 then (bd (s_X0_place n x1 x3 x4 x5 σ) fun r10 σ9 => ck r10 10626 (lt (up2 σ9 70 (ix r10) (vp_nar .byte x6.toInt8.toInt32)) fun σ11 => rc37 x1 x2 x3 x4 (x5 + (1 : Int32)) σ11)) else (bd (s_X0_costOf n x1 x3 x4 x5 x7 σ) fun r13 σ12 => lt (imin x6 r13) fun v14 => rc63 x1 x2 x3 x4 x5 v14 (x7 + (1 : Int32)) σ12)
def s_X0_weighDay_63 (n : Nat) (rc8 : Int32 → Int32 → Int32 → Sg → Option Sg) (rc16 : Int32 → Int32 → Int32 → Int32 → Sg → Option Sg) (rc37 : Int32 → Int32 → Int32 → Int32 → Int32 → Sg → Option Sg) : Nat → Int32 → Int32 → Int32 → Int32 → Int32 → Int32 → Int32 → Sg → Option Sg
  | 0 => fun _ _ _ _ _ _ _ _ => none
  | k + 1 => s_X0_weighDay_63b n rc8 rc16 rc37 (s_X0_weighDay_63 n rc8 rc16 rc37 k)
def s_X0_weighDay_53 (n : Nat) (rc8 : Int32 → Int32 → Int32 → Sg → Option Sg) (rc16 : Int32 → Int32 → Int32 → Int32 → Sg → Option Sg) (rc37 : Int32 → Int32 → Int32 → Int32 → Int32 → Sg → Option Sg) (x1 : Int32) (x2 : Int32) (x3 : Int32) (x4 : Int32) (x5 : Int32) (y0 : Int32) (y1 : Int32) (σ : Sg) : Option Sg := if y0 < y1 then (rc16 x1 x2 x3 (x4 + (1 : Int32)) σ) else (s_X0_weighDay_63 n rc8 rc16 rc37 n x1 x2 x3 x4 x5 (100 : Int32) (-1 : Int32) σ)
def s_X0_weighDay_37b (n : Nat) (rc8 : Int32 → Int32 → Int32 → Sg → Option Sg) (rc16 : Int32 → Int32 → Int32 → Int32 → Sg → Option Sg) (rc37 : Int32 → Int32 → Int32 → Int32 → Int32 → Sg → Option Sg) (x1 : Int32) (x2 : Int32) (x3 : Int32) (x4 : Int32) (x5 : Int32) (σ : Sg) : Option Sg := lt (if (σ 68 2) ≤ (2 : Int32) then (0 : Int32) else x4) fun v8 => s_X0_weighDay_53 n rc8 rc16 rc37 x1 x2 x3 x4 x5 v8 x5 σ
def s_X0_weighDay_37 (n : Nat) (rc8 : Int32 → Int32 → Int32 → Sg → Option Sg) (rc16 : Int32 → Int32 → Int32 → Int32 → Sg → Option Sg) : Nat → Int32 → Int32 → Int32 → Int32 → Int32 → Sg → Option Sg
  | 0 => fun _ _ _ _ _ _ => none
  | k + 1 => s_X0_weighDay_37b n rc8 rc16 (s_X0_weighDay_37 n rc8 rc16 k)
def s_X0_weighDay_31 (n : Nat) (rc8 : Int32 → Int32 → Int32 → Sg → Option Sg) (rc16 : Int32 → Int32 → Int32 → Int32 → Sg → Option Sg) (x1 : Int32) (x2 : Int32) (x3 : Int32) (x4 : Int32) (y0 : Int32) (y1 : Int32) (σ : Sg) : Option Sg := if y0 < y1 then (rc8 x1 x2 (x3 + (1 : Int32)) σ) else (s_X0_weighDay_37 n rc8 rc16 n x1 x2 x3 x4 (0 : Int32) σ)
def s_X0_weighDay_16b (n : Nat) (rc8 : Int32 → Int32 → Int32 → Sg → Option Sg) (rc16 : Int32 → Int32 → Int32 → Int32 → Sg → Option Sg) (x1 : Int32) (x2 : Int32) (x3 : Int32) (x4 : Int32) (σ : Sg) : Option Sg := lt (if (σ 68 2) ≤ (1 : Int32) then (0 : Int32) else x3) fun v5 => s_X0_weighDay_31 n rc8 rc16 x1 x2 x3 x4 v5 x4 σ
def s_X0_weighDay_16 (n : Nat) (rc8 : Int32 → Int32 → Int32 → Sg → Option Sg) : Nat → Int32 → Int32 → Int32 → Int32 → Sg → Option Sg
  | 0 => fun _ _ _ _ _ => none
  | k + 1 => s_X0_weighDay_16b n rc8 (s_X0_weighDay_16 n rc8 k)
def s_X0_weighDay_8b (n : Nat) (rc8 : Int32 → Int32 → Int32 → Sg → Option Sg) (x1 : Int32) (x2 : Int32) (x3 : Int32) (σ : Sg) : Option Sg := if x2 < x3 then (some σ) else (s_X0_weighDay_16 n rc8 n x1 x2 x3 (0 : Int32) σ)
def s_X0_weighDay_8 (n : Nat) : Nat → Int32 → Int32 → Int32 → Sg → Option Sg
  | 0 => fun _ _ _ _ => none
  | k + 1 => s_X0_weighDay_8b n (s_X0_weighDay_8 n k)
def s_X0_weighDay (n : Nat) (x1 : Int32) (σ : Sg) : Option Sg := bd (s_X0_oldestOn n x1 σ) fun r2 σ1 => s_X0_weighDay_8 n n x1 r2 (0 : Int32) σ1
set_option maxRecDepth 20000 in
theorem b_X0_weighDay_63 {G : zG} {x : zX} {τ : Sg} (O : zO G x cX0_weighDay RX0 4 160 8) (E : zE G x none none τ) (n : Nat) (rc8 : Int32 → Int32 → Int32 → Sg → Option Sg) (H8 : ∀ (x1 : Int32) (x2 : Int32) (x3 : Int32) (σ : Sg), rc8 x1 x2 x3 σ = some τ → V G x σ [(0, .ref (zad G 68)), (1, .int x1), (2, .int x2), (3, .int x3)] 8 []) (rc16 : Int32 → Int32 → Int32 → Int32 → Sg → Option Sg) (H16 : ∀ (x1 : Int32) (x2 : Int32) (x3 : Int32) (x4 : Int32) (σ : Sg), rc16 x1 x2 x3 x4 σ = some τ → V G x σ [(0, .ref (zad G 68)), (1, .int x1), (2, .int x2), (3, .int x3), (4, .int x4)] 16 []) (rc37 : Int32 → Int32 → Int32 → Int32 → Int32 → Sg → Option Sg) (H37 : ∀ (x1 : Int32) (x2 : Int32) (x3 : Int32) (x4 : Int32) (x5 : Int32) (σ : Sg), rc37 x1 x2 x3 x4 x5 σ = some τ → V G x σ [(0, .ref (zad G 68)), (1, .int x1), (2, .int x2), (3, .int x3), (4, .int x4), (5, .int x5)] 37 []) (rc63 : Int32 → Int32 → Int32 → Int32 → Int32 → Int32 → Int32 → Sg → Option Sg) (H63 : ∀ (x1 : Int32) (x2 : Int32) (x3 : Int32) (x4 : Int32) (x5 : Int32) (x6 : Int32) (x7 : Int32) (σ : Sg), rc63 x1 x2 x3 x4 x5 x6 x7 σ = some τ → V G x σ [(0, .ref (zad G 68)), (1, .int x1), (2, .int x2), (3, .int x3), (4, .int x4), (5, .int x5), (6, .int x6), (7, .int x7)] 63 []) (x1 : Int32) (x2 : Int32) (x3 : Int32) (x4 : Int32) (x5 : Int32) (x6 : Int32) (x7 : Int32) (σ : Sg) (h : s_X0_weighDay_63b n rc8 rc16 rc37 rc63 x1 x2 x3 x4 x5 x6 x7 σ = some τ) : V G x σ [(0, .ref (zad G 68)), (1, .int x1), (2, .int x2), (3, .int x3), (4, .int x4), (5, .int x5), (6, .int x6), (7, .int x7)] 63 [] := by
  unfold s_X0_weighDay_63b at h
  refine V_iload 63 7 O dX0_weighDay_63 rfl ?_
  refine V_aloadn 65 0 O dX0_weighDay_65 rfl rfl ?_
  refine V_getI 66 O k68 fl_X0_19 dX0_weighDay_66 ?_
  refine V_icmp_ge 69 97 O dX0_weighDay_69 rfl h (fun h => ?_) (fun h => ?_)
  · refine V_aloadn 97 0 O dX0_weighDay_97 rfl rfl ?_
    refine V_getR 98 O k68 fl_X0_15 rf68_8 dX0_weighDay_98 ?_
    refine V_iloadn 101 1 O dX0_weighDay_101 rfl rfl ?_
    refine V_iloadn 102 3 O dX0_weighDay_102 rfl rfl ?_
    refine V_iload 103 4 O dX0_weighDay_103 rfl ?_
    refine V_iload 105 5 O dX0_weighDay_105 rfl ?_
    obtain ⟨r10, σ9, g, h⟩ := bd_of h
    refine V_callSi 107 [.int x1, .int x3, .int x4, .int x5] [.ref (zad G 70)] O mf_X0_place lk_X0_59 dX0_weighDay_107 rfl rfl (Nat.le_of_ble_eq_true rfl) ⟨(Nat.le_of_ble_eq_true rfl), (Nat.le_of_ble_eq_true rfl)⟩ (fun l => C_X0_place  g) ?_
    refine V_iload 110 6 O dX0_weighDay_110 rfl ?_
    refine V_i2b 112 O dX0_weighDay_112 ?_
    refine V_bast 113 O k70 dX0_weighDay_113 h (fun σ11 h => ?_)
    refine V_iinc 114 5 [1, 2, 3, 4, 5, 0, 6, 7] [(0, .ref (zad G 68)), (1, .int x1), (2, .int x2), (3, .int x3), (4, .int x4), (5, .int (x5 + (1 : Int32))), (6, .int x6), (7, .int x7)] O dX0_weighDay_114 rfl ci_1 (Nat.le_of_ble_eq_true rfl) rfl ?_
    refine V_goto 117 37 O dX0_weighDay_117 rfl ?_
    exact V_sub [0, 1, 2, 3, 4, 5] rfl (H37 x1 x2 x3 x4 (x5 + (1 : Int32)) σ11  h)
  · refine V_iload 72 6 O dX0_weighDay_72 rfl ?_
    refine V_aloadn 74 0 O dX0_weighDay_74 rfl rfl ?_
    refine V_iloadn 75 1 O dX0_weighDay_75 rfl rfl ?_
    refine V_iloadn 76 3 O dX0_weighDay_76 rfl rfl ?_
    refine V_iload 77 4 O dX0_weighDay_77 rfl ?_
    refine V_iload 79 5 O dX0_weighDay_79 rfl ?_
    refine V_iload 81 7 O dX0_weighDay_81 rfl ?_
    obtain ⟨r13, σ12, g, h⟩ := bd_of h
    refine V_callVi 83 [.int x1, .int x3, .int x4, .int x5, .int x7] [.int x6] O mf_X0_costOf lk_X0_55 k68 dX0_weighDay_83 rfl rfl (Nat.le_of_ble_eq_true rfl) ⟨(Nat.le_of_ble_eq_true rfl), (Nat.le_of_ble_eq_true rfl)⟩ (fun l => C_X0_costOf  g) ?_
    refine V_min 86 O lk_X0_35 mm_imin.1 mm_imin.2.1 mm_imin.2.2 (Nat.le_of_ble_eq_true rfl) (Nat.le_of_ble_eq_true rfl) dX0_weighDay_86 ?_
    refine V_topi h (fun v14 h => ?_)
    refine V_istore 89 [1, 2, 3, 4, 5, 6, 0, 7] [(0, .ref (zad G 68)), (1, .int x1), (2, .int x2), (3, .int x3), (4, .int x4), (5, .int x5), (6, .int v14), (7, .int x7)] O dX0_weighDay_89 (Nat.le_of_ble_eq_true rfl) rfl ?_
    refine V_iinc 91 7 [1, 2, 3, 4, 5, 6, 7, 0] [(0, .ref (zad G 68)), (1, .int x1), (2, .int x2), (3, .int x3), (4, .int x4), (5, .int x5), (6, .int v14), (7, .int (x7 + (1 : Int32)))] O dX0_weighDay_91 rfl ci_1 (Nat.le_of_ble_eq_true rfl) rfl ?_
    refine V_goto 94 63 O dX0_weighDay_94 rfl ?_
    exact V_sub [0, 1, 2, 3, 4, 5, 6, 7] rfl (H63 x1 x2 x3 x4 x5 v14 (x7 + (1 : Int32)) σ12  h)
theorem bl_X0_weighDay_63 {G : zG} {x : zX} {τ : Sg} (O : zO G x cX0_weighDay RX0 4 160 8) (E : zE G x none none τ) (n : Nat) (rc8 : Int32 → Int32 → Int32 → Sg → Option Sg) (H8 : ∀ (x1 : Int32) (x2 : Int32) (x3 : Int32) (σ : Sg), rc8 x1 x2 x3 σ = some τ → V G x σ [(0, .ref (zad G 68)), (1, .int x1), (2, .int x2), (3, .int x3)] 8 []) (rc16 : Int32 → Int32 → Int32 → Int32 → Sg → Option Sg) (H16 : ∀ (x1 : Int32) (x2 : Int32) (x3 : Int32) (x4 : Int32) (σ : Sg), rc16 x1 x2 x3 x4 σ = some τ → V G x σ [(0, .ref (zad G 68)), (1, .int x1), (2, .int x2), (3, .int x3), (4, .int x4)] 16 []) (rc37 : Int32 → Int32 → Int32 → Int32 → Int32 → Sg → Option Sg) (H37 : ∀ (x1 : Int32) (x2 : Int32) (x3 : Int32) (x4 : Int32) (x5 : Int32) (σ : Sg), rc37 x1 x2 x3 x4 x5 σ = some τ → V G x σ [(0, .ref (zad G 68)), (1, .int x1), (2, .int x2), (3, .int x3), (4, .int x4), (5, .int x5)] 37 []) : ∀ (k : Nat) (x1 : Int32) (x2 : Int32) (x3 : Int32) (x4 : Int32) (x5 : Int32) (x6 : Int32) (x7 : Int32) (σ : Sg), s_X0_weighDay_63 n rc8 rc16 rc37 k x1 x2 x3 x4 x5 x6 x7 σ = some τ → V G x σ [(0, .ref (zad G 68)), (1, .int x1), (2, .int x2), (3, .int x3), (4, .int x4), (5, .int x5), (6, .int x6), (7, .int x7)] 63 [] := by
  intro k
  induction k with
  | zero => intro x1 x2 x3 x4 x5 x6 x7 σ  h; cases h
  | succ k ih => intro x1 x2 x3 x4 x5 x6 x7 σ  h; exact b_X0_weighDay_63 O E n rc8 H8 rc16 H16 rc37 H37 (s_X0_weighDay_63 n rc8 rc16 rc37 k) ih x1 x2 x3 x4 x5 x6 x7 σ  h
set_option maxRecDepth 20000 in
theorem b_X0_weighDay_53 {G : zG} {x : zX} {τ : Sg} (O : zO G x cX0_weighDay RX0 4 160 8) (E : zE G x none none τ) (n : Nat) (rc8 : Int32 → Int32 → Int32 → Sg → Option Sg) (H8 : ∀ (x1 : Int32) (x2 : Int32) (x3 : Int32) (σ : Sg), rc8 x1 x2 x3 σ = some τ → V G x σ [(0, .ref (zad G 68)), (1, .int x1), (2, .int x2), (3, .int x3)] 8 []) (rc16 : Int32 → Int32 → Int32 → Int32 → Sg → Option Sg) (H16 : ∀ (x1 : Int32) (x2 : Int32) (x3 : Int32) (x4 : Int32) (σ : Sg), rc16 x1 x2 x3 x4 σ = some τ → V G x σ [(0, .ref (zad G 68)), (1, .int x1), (2, .int x2), (3, .int x3), (4, .int x4)] 16 []) (rc37 : Int32 → Int32 → Int32 → Int32 → Int32 → Sg → Option Sg) (H37 : ∀ (x1 : Int32) (x2 : Int32) (x3 : Int32) (x4 : Int32) (x5 : Int32) (σ : Sg), rc37 x1 x2 x3 x4 x5 σ = some τ → V G x σ [(0, .ref (zad G 68)), (1, .int x1), (2, .int x2), (3, .int x3), (4, .int x4), (5, .int x5)] 37 []) (x1 : Int32) (x2 : Int32) (x3 : Int32) (x4 : Int32) (x5 : Int32) (y0 : Int32) (y1 : Int32) (σ : Sg) (h : s_X0_weighDay_53 n rc8 rc16 rc37 x1 x2 x3 x4 x5 y0 y1 σ = some τ) : V G x σ [(0, .ref (zad G 68)), (1, .int x1), (2, .int x2), (3, .int x3), (4, .int x4), (5, .int x5)] 53 [.int y0, .int y1] := by
  unfold s_X0_weighDay_53 at h
  refine V_icmp_gt 53 120 O dX0_weighDay_53 rfl h (fun h => ?_) (fun h => ?_)
  · refine V_iinc 120 4 [1, 2, 3, 4, 0, 5] [(0, .ref (zad G 68)), (1, .int x1), (2, .int x2), (3, .int x3), (4, .int (x4 + (1 : Int32))), (5, .int x5)] O dX0_weighDay_120 rfl ci_1 (Nat.le_of_ble_eq_true rfl) rfl ?_
    refine V_goto 123 16 O dX0_weighDay_123 rfl ?_
    exact V_sub [0, 1, 2, 3, 4] rfl (H16 x1 x2 x3 (x4 + (1 : Int32)) σ  h)
  · refine V_bipush 56 O dX0_weighDay_56 cb_100 ?_
    refine V_istore 58 [1, 2, 3, 4, 5, 6, 0] [(0, .ref (zad G 68)), (1, .int x1), (2, .int x2), (3, .int x3), (4, .int x4), (5, .int x5), (6, .int (100 : Int32))] O dX0_weighDay_58 (Nat.le_of_ble_eq_true rfl) rfl ?_
    refine V_iconst 60 O dX0_weighDay_60 ci_m1 ?_
    refine V_istore 61 [1, 2, 3, 4, 5, 6, 7, 0] [(0, .ref (zad G 68)), (1, .int x1), (2, .int x2), (3, .int x3), (4, .int x4), (5, .int x5), (6, .int (100 : Int32)), (7, .int (-1 : Int32))] O dX0_weighDay_61 (Nat.le_of_ble_eq_true rfl) rfl ?_
    exact V_sub [0, 1, 2, 3, 4, 5, 6, 7] rfl (bl_X0_weighDay_63 O E n rc8 H8 rc16 H16 rc37 H37 n x1 x2 x3 x4 x5 (100 : Int32) (-1 : Int32) σ  h)
set_option maxRecDepth 20000 in
theorem b_X0_weighDay_37 {G : zG} {x : zX} {τ : Sg} (O : zO G x cX0_weighDay RX0 4 160 8) (E : zE G x none none τ) (n : Nat) (rc8 : Int32 → Int32 → Int32 → Sg → Option Sg) (H8 : ∀ (x1 : Int32) (x2 : Int32) (x3 : Int32) (σ : Sg), rc8 x1 x2 x3 σ = some τ → V G x σ [(0, .ref (zad G 68)), (1, .int x1), (2, .int x2), (3, .int x3)] 8 []) (rc16 : Int32 → Int32 → Int32 → Int32 → Sg → Option Sg) (H16 : ∀ (x1 : Int32) (x2 : Int32) (x3 : Int32) (x4 : Int32) (σ : Sg), rc16 x1 x2 x3 x4 σ = some τ → V G x σ [(0, .ref (zad G 68)), (1, .int x1), (2, .int x2), (3, .int x3), (4, .int x4)] 16 []) (rc37 : Int32 → Int32 → Int32 → Int32 → Int32 → Sg → Option Sg) (H37 : ∀ (x1 : Int32) (x2 : Int32) (x3 : Int32) (x4 : Int32) (x5 : Int32) (σ : Sg), rc37 x1 x2 x3 x4 x5 σ = some τ → V G x σ [(0, .ref (zad G 68)), (1, .int x1), (2, .int x2), (3, .int x3), (4, .int x4), (5, .int x5)] 37 []) (x1 : Int32) (x2 : Int32) (x3 : Int32) (x4 : Int32) (x5 : Int32) (σ : Sg) (h : s_X0_weighDay_37b n rc8 rc16 rc37 x1 x2 x3 x4 x5 σ = some τ) : V G x σ [(0, .ref (zad G 68)), (1, .int x1), (2, .int x2), (3, .int x3), (4, .int x4), (5, .int x5)] 37 [] := by
  unfold s_X0_weighDay_37b at h
  refine V_iload 37 5 O dX0_weighDay_37 rfl ?_
  refine V_aloadn 39 0 O dX0_weighDay_39 rfl rfl ?_
  refine V_getI 40 O k68 fl_X0_19 dX0_weighDay_40 ?_
  refine V_iconst 43 O dX0_weighDay_43 ci_2 ?_
  have J6 : V G x σ [(0, .ref (zad G 68)), (1, .int x1), (2, .int x2), (3, .int x3), (4, .int x4), (5, .int x5)] 53 [.int (if (σ 68 2) ≤ (2 : Int32) then (0 : Int32) else x4), .int x5] := by
    refine V_topi h (fun v8 h => ?_)
    exact V_sub [0, 1, 2, 3, 4, 5] rfl (b_X0_weighDay_53 O E n rc8 H8 rc16 H16 rc37 H37 x1 x2 x3 x4 x5 v8 x5 σ  h)
  refine V_icmp_lec 44 52 O dX0_weighDay_44 rfl (fun c7 => ?_) (fun c7 => ?_)
  · refine V_iconst 52 O dX0_weighDay_52 ci_0 ?_
    exact V_top (by rw [if_pos c7]) J6
  · refine V_iload 47 4 O dX0_weighDay_47 rfl ?_
    refine V_goto 49 53 O dX0_weighDay_49 rfl ?_
    exact V_top (by rw [if_neg c7]) J6
theorem bl_X0_weighDay_37 {G : zG} {x : zX} {τ : Sg} (O : zO G x cX0_weighDay RX0 4 160 8) (E : zE G x none none τ) (n : Nat) (rc8 : Int32 → Int32 → Int32 → Sg → Option Sg) (H8 : ∀ (x1 : Int32) (x2 : Int32) (x3 : Int32) (σ : Sg), rc8 x1 x2 x3 σ = some τ → V G x σ [(0, .ref (zad G 68)), (1, .int x1), (2, .int x2), (3, .int x3)] 8 []) (rc16 : Int32 → Int32 → Int32 → Int32 → Sg → Option Sg) (H16 : ∀ (x1 : Int32) (x2 : Int32) (x3 : Int32) (x4 : Int32) (σ : Sg), rc16 x1 x2 x3 x4 σ = some τ → V G x σ [(0, .ref (zad G 68)), (1, .int x1), (2, .int x2), (3, .int x3), (4, .int x4)] 16 []) : ∀ (k : Nat) (x1 : Int32) (x2 : Int32) (x3 : Int32) (x4 : Int32) (x5 : Int32) (σ : Sg), s_X0_weighDay_37 n rc8 rc16 k x1 x2 x3 x4 x5 σ = some τ → V G x σ [(0, .ref (zad G 68)), (1, .int x1), (2, .int x2), (3, .int x3), (4, .int x4), (5, .int x5)] 37 [] := by
  intro k
  induction k with
  | zero => intro x1 x2 x3 x4 x5 σ  h; cases h
  | succ k ih => intro x1 x2 x3 x4 x5 σ  h; exact b_X0_weighDay_37 O E n rc8 H8 rc16 H16 (s_X0_weighDay_37 n rc8 rc16 k) ih x1 x2 x3 x4 x5 σ  h
set_option maxRecDepth 20000 in
theorem b_X0_weighDay_31 {G : zG} {x : zX} {τ : Sg} (O : zO G x cX0_weighDay RX0 4 160 8) (E : zE G x none none τ) (n : Nat) (rc8 : Int32 → Int32 → Int32 → Sg → Option Sg) (H8 : ∀ (x1 : Int32) (x2 : Int32) (x3 : Int32) (σ : Sg), rc8 x1 x2 x3 σ = some τ → V G x σ [(0, .ref (zad G 68)), (1, .int x1), (2, .int x2), (3, .int x3)] 8 []) (rc16 : Int32 → Int32 → Int32 → Int32 → Sg → Option Sg) (H16 : ∀ (x1 : Int32) (x2 : Int32) (x3 : Int32) (x4 : Int32) (σ : Sg), rc16 x1 x2 x3 x4 σ = some τ → V G x σ [(0, .ref (zad G 68)), (1, .int x1), (2, .int x2), (3, .int x3), (4, .int x4)] 16 []) (x1 : Int32) (x2 : Int32) (x3 : Int32) (x4 : Int32) (y0 : Int32) (y1 : Int32) (σ : Sg) (h : s_X0_weighDay_31 n rc8 rc16 x1 x2 x3 x4 y0 y1 σ = some τ) : V G x σ [(0, .ref (zad G 68)), (1, .int x1), (2, .int x2), (3, .int x3), (4, .int x4)] 31 [.int y0, .int y1] := by
  unfold s_X0_weighDay_31 at h
  refine V_icmp_gt 31 126 O dX0_weighDay_31 rfl h (fun h => ?_) (fun h => ?_)
  · refine V_iinc 126 3 [1, 2, 3, 0, 4] [(0, .ref (zad G 68)), (1, .int x1), (2, .int x2), (3, .int (x3 + (1 : Int32))), (4, .int x4)] O dX0_weighDay_126 rfl ci_1 (Nat.le_of_ble_eq_true rfl) rfl ?_
    refine V_goto 129 8 O dX0_weighDay_129 rfl ?_
    exact V_sub [0, 1, 2, 3] rfl (H8 x1 x2 (x3 + (1 : Int32)) σ  h)
  · refine V_iconst 34 O dX0_weighDay_34 ci_0 ?_
    refine V_istore 35 [1, 2, 3, 4, 5, 0] [(0, .ref (zad G 68)), (1, .int x1), (2, .int x2), (3, .int x3), (4, .int x4), (5, .int (0 : Int32))] O dX0_weighDay_35 (Nat.le_of_ble_eq_true rfl) rfl ?_
    exact V_sub [0, 1, 2, 3, 4, 5] rfl (bl_X0_weighDay_37 O E n rc8 H8 rc16 H16 n x1 x2 x3 x4 (0 : Int32) σ  h)
set_option maxRecDepth 20000 in
theorem b_X0_weighDay_16 {G : zG} {x : zX} {τ : Sg} (O : zO G x cX0_weighDay RX0 4 160 8) (E : zE G x none none τ) (n : Nat) (rc8 : Int32 → Int32 → Int32 → Sg → Option Sg) (H8 : ∀ (x1 : Int32) (x2 : Int32) (x3 : Int32) (σ : Sg), rc8 x1 x2 x3 σ = some τ → V G x σ [(0, .ref (zad G 68)), (1, .int x1), (2, .int x2), (3, .int x3)] 8 []) (rc16 : Int32 → Int32 → Int32 → Int32 → Sg → Option Sg) (H16 : ∀ (x1 : Int32) (x2 : Int32) (x3 : Int32) (x4 : Int32) (σ : Sg), rc16 x1 x2 x3 x4 σ = some τ → V G x σ [(0, .ref (zad G 68)), (1, .int x1), (2, .int x2), (3, .int x3), (4, .int x4)] 16 []) (x1 : Int32) (x2 : Int32) (x3 : Int32) (x4 : Int32) (σ : Sg) (h : s_X0_weighDay_16b n rc8 rc16 x1 x2 x3 x4 σ = some τ) : V G x σ [(0, .ref (zad G 68)), (1, .int x1), (2, .int x2), (3, .int x3), (4, .int x4)] 16 [] := by
  unfold s_X0_weighDay_16b at h
  refine V_iload 16 4 O dX0_weighDay_16 rfl ?_
  refine V_aloadn 18 0 O dX0_weighDay_18 rfl rfl ?_
  refine V_getI 19 O k68 fl_X0_19 dX0_weighDay_19 ?_
  refine V_iconst 22 O dX0_weighDay_22 ci_1 ?_
  have J3 : V G x σ [(0, .ref (zad G 68)), (1, .int x1), (2, .int x2), (3, .int x3), (4, .int x4)] 31 [.int (if (σ 68 2) ≤ (1 : Int32) then (0 : Int32) else x3), .int x4] := by
    refine V_topi h (fun v5 h => ?_)
    exact V_sub [0, 1, 2, 3, 4] rfl (b_X0_weighDay_31 O E n rc8 H8 rc16 H16 x1 x2 x3 x4 v5 x4 σ  h)
  refine V_icmp_lec 23 30 O dX0_weighDay_23 rfl (fun c4 => ?_) (fun c4 => ?_)
  · refine V_iconst 30 O dX0_weighDay_30 ci_0 ?_
    exact V_top (by rw [if_pos c4]) J3
  · refine V_iloadn 26 3 O dX0_weighDay_26 rfl rfl ?_
    refine V_goto 27 31 O dX0_weighDay_27 rfl ?_
    exact V_top (by rw [if_neg c4]) J3
theorem bl_X0_weighDay_16 {G : zG} {x : zX} {τ : Sg} (O : zO G x cX0_weighDay RX0 4 160 8) (E : zE G x none none τ) (n : Nat) (rc8 : Int32 → Int32 → Int32 → Sg → Option Sg) (H8 : ∀ (x1 : Int32) (x2 : Int32) (x3 : Int32) (σ : Sg), rc8 x1 x2 x3 σ = some τ → V G x σ [(0, .ref (zad G 68)), (1, .int x1), (2, .int x2), (3, .int x3)] 8 []) : ∀ (k : Nat) (x1 : Int32) (x2 : Int32) (x3 : Int32) (x4 : Int32) (σ : Sg), s_X0_weighDay_16 n rc8 k x1 x2 x3 x4 σ = some τ → V G x σ [(0, .ref (zad G 68)), (1, .int x1), (2, .int x2), (3, .int x3), (4, .int x4)] 16 [] := by
  intro k
  induction k with
  | zero => intro x1 x2 x3 x4 σ  h; cases h
  | succ k ih => intro x1 x2 x3 x4 σ  h; exact b_X0_weighDay_16 O E n rc8 H8 (s_X0_weighDay_16 n rc8 k) ih x1 x2 x3 x4 σ  h
set_option maxRecDepth 20000 in
theorem b_X0_weighDay_8 {G : zG} {x : zX} {τ : Sg} (O : zO G x cX0_weighDay RX0 4 160 8) (E : zE G x none none τ) (n : Nat) (rc8 : Int32 → Int32 → Int32 → Sg → Option Sg) (H8 : ∀ (x1 : Int32) (x2 : Int32) (x3 : Int32) (σ : Sg), rc8 x1 x2 x3 σ = some τ → V G x σ [(0, .ref (zad G 68)), (1, .int x1), (2, .int x2), (3, .int x3)] 8 []) (x1 : Int32) (x2 : Int32) (x3 : Int32) (σ : Sg) (h : s_X0_weighDay_8b n rc8 x1 x2 x3 σ = some τ) : V G x σ [(0, .ref (zad G 68)), (1, .int x1), (2, .int x2), (3, .int x3)] 8 [] := by
  unfold s_X0_weighDay_8b at h
  refine V_iloadn 8 3 O dX0_weighDay_8 rfl rfl ?_
  refine V_iloadn 9 2 O dX0_weighDay_9 rfl rfl ?_
  refine V_icmp_gt 10 132 O dX0_weighDay_10 rfl h (fun h => ?_) (fun h => ?_)
  · exact V_vret 132 O E dX0_weighDay_132 h
  · refine V_iconst 13 O dX0_weighDay_13 ci_0 ?_
    refine V_istore 14 [1, 2, 3, 4, 0] [(0, .ref (zad G 68)), (1, .int x1), (2, .int x2), (3, .int x3), (4, .int (0 : Int32))] O dX0_weighDay_14 (Nat.le_of_ble_eq_true rfl) rfl ?_
    exact V_sub [0, 1, 2, 3, 4] rfl (bl_X0_weighDay_16 O E n rc8 H8 n x1 x2 x3 (0 : Int32) σ  h)
theorem bl_X0_weighDay_8 {G : zG} {x : zX} {τ : Sg} (O : zO G x cX0_weighDay RX0 4 160 8) (E : zE G x none none τ) (n : Nat) : ∀ (k : Nat) (x1 : Int32) (x2 : Int32) (x3 : Int32) (σ : Sg), s_X0_weighDay_8 n k x1 x2 x3 σ = some τ → V G x σ [(0, .ref (zad G 68)), (1, .int x1), (2, .int x2), (3, .int x3)] 8 [] := by
  intro k
  induction k with
  | zero => intro x1 x2 x3 σ  h; cases h
  | succ k ih => intro x1 x2 x3 σ  h; exact b_X0_weighDay_8 O E n  (s_X0_weighDay_8 n  k) ih x1 x2 x3 σ  h
set_option maxRecDepth 20000 in
theorem C_X0_weighDay {l : Launch} {G : zG} {n : Nat} {x1 : Int32} {σ : Sg} {τ : Sg} (h : s_X0_weighDay n x1 σ = some τ) : zM l G 4 yX0_weighDay (.code yX0_weighDay cX0_weighDay 8 none) [.ref (zad G 68), .int x1] σ none τ := by
  refine zM_of (by decide) (Nat.le_of_ble_eq_true rfl) (fun x O E => ?_)
  have O : zO G x cX0_weighDay RX0 4 160 8 := O
  unfold s_X0_weighDay at h
  show V G x σ [(0, .ref (zad G 68)), (1, .int x1)] 0 []
  refine V_aloadn 0 0 O dX0_weighDay_0 rfl rfl ?_
  refine V_iloadn 1 1 O dX0_weighDay_1 rfl rfl ?_
  obtain ⟨r2, σ1, g, h⟩ := bd_of h
  refine V_callVi 2 [.int x1] [] O mf_X0_oldestOn lk_X0_51 k68 dX0_weighDay_2 rfl rfl (Nat.le_of_ble_eq_true rfl) ⟨(Nat.le_of_ble_eq_true rfl), (Nat.le_of_ble_eq_true rfl)⟩ (fun l => C_X0_oldestOn  g) ?_
  refine V_istoren 5 [1, 2, 0] [(0, .ref (zad G 68)), (1, .int x1), (2, .int r2)] O dX0_weighDay_5 rfl (Nat.le_of_ble_eq_true rfl) rfl ?_
  refine V_iconst 6 O dX0_weighDay_6 ci_0 ?_
  refine V_istoren 7 [1, 2, 3, 0] [(0, .ref (zad G 68)), (1, .int x1), (2, .int r2), (3, .int (0 : Int32))] O dX0_weighDay_7 rfl (Nat.le_of_ble_eq_true rfl) rfl ?_
  exact V_sub [0, 1, 2, 3] rfl (bl_X0_weighDay_8 O E n  n x1 r2 (0 : Int32) σ1  h)
-- ==== java/util/Arrays.fill([II)V
def s_J7_fill_53178_5b (n : Nat) (rc5 : Nat → Nat → Int32 → Int32 → Int32 → Sg → Option Sg) (x0 : Nat) (m0 : Nat) (x1 : Int32) (x2 : Int32) (x3 : Int32) (σ : Sg) : Option Sg := if x3 ≤ x2 then (some σ) else (ck x2 m0 (lt (up2 σ x0 (ix x2) x1) fun σ2 => rc5 x0 m0 x1 (x2 + (1 : Int32)) x3 σ2))
def s_J7_fill_53178_5 (n : Nat) : Nat → Nat → Nat → Int32 → Int32 → Int32 → Sg → Option Sg
  | 0 => fun _ _ _ _ _ _ => none
  | k + 1 => s_J7_fill_53178_5b n (s_J7_fill_53178_5 n k)
def s_J7_fill_53178 (n : Nat) (x0 : Nat) (m0 : Nat) (x1 : Int32) (σ : Sg) : Option Sg := lt (nI m0) fun v1 => s_J7_fill_53178_5 n n x0 m0 x1 (0 : Int32) v1 σ
set_option maxRecDepth 20000 in
theorem b_J7_fill_53178_5 {G : zG} {x : zX} {τ : Sg} (O : zO G x cJ7_fill_53178 RJ7 0 0 4) (E : zE G x none none τ) (n : Nat) (rc5 : Nat → Nat → Int32 → Int32 → Int32 → Sg → Option Sg) (H5 : ∀ (x0 : Nat) (m0 : Nat) (x1 : Int32) (x2 : Int32) (x3 : Int32) (σ : Sg), zT[x0]? = some (0, m0) → rc5 x0 m0 x1 x2 x3 σ = some τ → V G x σ [(0, .ref (zad G x0)), (1, .int x1), (2, .int x2), (3, .int x3)] 5 []) (x0 : Nat) (m0 : Nat) (x1 : Int32) (x2 : Int32) (x3 : Int32) (σ : Sg) (hm0 : zT[x0]? = some (0, m0)) (h : s_J7_fill_53178_5b n rc5 x0 m0 x1 x2 x3 σ = some τ) : V G x σ [(0, .ref (zad G x0)), (1, .int x1), (2, .int x2), (3, .int x3)] 5 [] := by
  unfold s_J7_fill_53178_5b at h
  refine V_iloadn 5 2 O dJ7_fill_53178_5 rfl rfl ?_
  refine V_iloadn 6 3 O dJ7_fill_53178_6 rfl rfl ?_
  refine V_icmp_ge 7 20 O dJ7_fill_53178_7 rfl h (fun h => ?_) (fun h => ?_)
  · exact V_vret 20 O E dJ7_fill_53178_20 h
  · refine V_aloadn 10 0 O dJ7_fill_53178_10 rfl rfl ?_
    refine V_iloadn 11 2 O dJ7_fill_53178_11 rfl rfl ?_
    refine V_iloadn 12 1 O dJ7_fill_53178_12 rfl rfl ?_
    refine V_iast 13 O hm0 dJ7_fill_53178_13 h (fun σ2 h => ?_)
    refine V_iinc 14 2 [1, 2, 0, 3] [(0, .ref (zad G x0)), (1, .int x1), (2, .int (x2 + (1 : Int32))), (3, .int x3)] O dJ7_fill_53178_14 rfl ci_1 (Nat.le_of_ble_eq_true rfl) rfl ?_
    refine V_goto 17 5 O dJ7_fill_53178_17 rfl ?_
    exact V_sub [0, 1, 2, 3] rfl (H5 x0 m0 x1 (x2 + (1 : Int32)) x3 σ2 hm0 h)
theorem bl_J7_fill_53178_5 {G : zG} {x : zX} {τ : Sg} (O : zO G x cJ7_fill_53178 RJ7 0 0 4) (E : zE G x none none τ) (n : Nat) : ∀ (k : Nat) (x0 : Nat) (m0 : Nat) (x1 : Int32) (x2 : Int32) (x3 : Int32) (σ : Sg), zT[x0]? = some (0, m0) → s_J7_fill_53178_5 n k x0 m0 x1 x2 x3 σ = some τ → V G x σ [(0, .ref (zad G x0)), (1, .int x1), (2, .int x2), (3, .int x3)] 5 [] := by
  intro k
  induction k with
  | zero => intro x0 m0 x1 x2 x3 σ hm0 h; cases h
  | succ k ih => intro x0 m0 x1 x2 x3 σ hm0 h; exact b_J7_fill_53178_5 O E n  (s_J7_fill_53178_5 n  k) ih x0 m0 x1 x2 x3 σ hm0 h
set_option maxRecDepth 20000 in
theorem C_J7_fill_53178 {l : Launch} {G : zG} {n : Nat} {x0 : Nat} {m0 : Nat} {x1 : Int32} {σ : Sg} {τ : Sg} (hm0 : zT[x0]? = some (0, m0)) (h : s_J7_fill_53178 n x0 m0 x1 σ = some τ) : zM l G 0 yJ7_fill_53178 (.code yJ7_fill_53178 cJ7_fill_53178 4 none) [.ref (zad G x0), .int x1] σ none τ := by
  refine zM_of (by decide) (Nat.le_of_ble_eq_true rfl) (fun x O E => ?_)
  have O : zO G x cJ7_fill_53178 RJ7 0 0 4 := O
  unfold s_J7_fill_53178 at h
  show V G x σ [(0, .ref (zad G x0)), (1, .int x1)] 0 []
  refine V_iconst 0 O dJ7_fill_53178_0 ci_0 ?_
  refine V_istoren 1 [1, 2, 0] [(0, .ref (zad G x0)), (1, .int x1), (2, .int (0 : Int32))] O dJ7_fill_53178_1 rfl (Nat.le_of_ble_eq_true rfl) rfl ?_
  refine V_aloadn 2 0 O dJ7_fill_53178_2 rfl rfl ?_
  refine V_alen 3 O hm0 dJ7_fill_53178_3 ?_
  refine V_topi h (fun v1 h => ?_)
  refine V_istoren 4 [1, 2, 3, 0] [(0, .ref (zad G x0)), (1, .int x1), (2, .int (0 : Int32)), (3, .int v1)] O dJ7_fill_53178_4 rfl (Nat.le_of_ble_eq_true rfl) rfl ?_
  exact V_sub [0, 1, 2, 3] rfl (bl_J7_fill_53178_5 O E n  n x0 m0 x1 (0 : Int32) v1 σ hm0 h)
-- ==== Beds.firstBest(IIII)I
def s_X0_firstBest_3b (n : Nat) (rc3 : Int32 → Int32 → Int32 → Int32 → Int32 → Sg → Option (Int32 × Sg)) (x1 : Int32) (x2 : Int32) (x3 : Int32) (x4 : Int32) (x5 : Int32) (σ : Sg) : Option (Int32 × Sg) := if (σ 68 2) ≤ x5 then (some ((-1 : Int32), σ)) else (bd (s_X0_costOf n x1 x2 x3 x4 x5 σ) fun r2 σ1 => bd (s_X0_place n x1 x2 x3 x4 σ1) fun r4 σ3 => ck r4 10626 (if r2 = (σ3 70 (ix r4)) then (some (x5, σ3)) else (rc3 x1 x2 x3 x4 (x5 + (1 : Int32)) σ3)))
def s_X0_firstBest_3 (n : Nat) : Nat → Int32 → Int32 → Int32 → Int32 → Int32 → Sg → Option (Int32 × Sg)
  | 0 => fun _ _ _ _ _ _ => none
  | k + 1 => s_X0_firstBest_3b n (s_X0_firstBest_3 n k)
def s_X0_firstBest (n : Nat) (x1 : Int32) (x2 : Int32) (x3 : Int32) (x4 : Int32) (σ : Sg) : Option (Int32 × Sg) := s_X0_firstBest_3 n n x1 x2 x3 x4 (-1 : Int32) σ
set_option maxRecDepth 20000 in
theorem b_X0_firstBest_3 {G : zG} {x : zX} {r : Int32} {τ : Sg} (O : zO G x cX0_firstBest RX0 4 160 6) (E : zE G x (some (.int)) (some (.int r)) τ) (n : Nat) (rc3 : Int32 → Int32 → Int32 → Int32 → Int32 → Sg → Option (Int32 × Sg)) (H3 : ∀ (x1 : Int32) (x2 : Int32) (x3 : Int32) (x4 : Int32) (x5 : Int32) (σ : Sg), rc3 x1 x2 x3 x4 x5 σ = some (r, τ) → V G x σ [(0, .ref (zad G 68)), (1, .int x1), (2, .int x2), (3, .int x3), (4, .int x4), (5, .int x5)] 3 []) (x1 : Int32) (x2 : Int32) (x3 : Int32) (x4 : Int32) (x5 : Int32) (σ : Sg) (h : s_X0_firstBest_3b n rc3 x1 x2 x3 x4 x5 σ = some (r, τ)) : V G x σ [(0, .ref (zad G 68)), (1, .int x1), (2, .int x2), (3, .int x3), (4, .int x4), (5, .int x5)] 3 [] := by
  unfold s_X0_firstBest_3b at h
  refine V_iload 3 5 O dX0_firstBest_3 rfl ?_
  refine V_aloadn 5 0 O dX0_firstBest_5 rfl rfl ?_
  refine V_getI 6 O k68 fl_X0_19 dX0_firstBest_6 ?_
  refine V_icmp_ge 9 48 O dX0_firstBest_9 rfl h (fun h => ?_) (fun h => ?_)
  · refine V_iconst 48 O dX0_firstBest_48 ci_m1 ?_
    exact V_iret 49 O E dX0_firstBest_49 h
  · refine V_aloadn 12 0 O dX0_firstBest_12 rfl rfl ?_
    refine V_iloadn 13 1 O dX0_firstBest_13 rfl rfl ?_
    refine V_iloadn 14 2 O dX0_firstBest_14 rfl rfl ?_
    refine V_iloadn 15 3 O dX0_firstBest_15 rfl rfl ?_
    refine V_iload 16 4 O dX0_firstBest_16 rfl ?_
    refine V_iload 18 5 O dX0_firstBest_18 rfl ?_
    obtain ⟨r2, σ1, g, h⟩ := bd_of h
    refine V_callVi 20 [.int x1, .int x2, .int x3, .int x4, .int x5] [] O mf_X0_costOf lk_X0_55 k68 dX0_firstBest_20 rfl rfl (Nat.le_of_ble_eq_true rfl) ⟨(Nat.le_of_ble_eq_true rfl), (Nat.le_of_ble_eq_true rfl)⟩ (fun l => C_X0_costOf  g) ?_
    refine V_aloadn 23 0 O dX0_firstBest_23 rfl rfl ?_
    refine V_getR 24 O k68 fl_X0_15 rf68_8 dX0_firstBest_24 ?_
    refine V_iloadn 27 1 O dX0_firstBest_27 rfl rfl ?_
    refine V_iloadn 28 2 O dX0_firstBest_28 rfl rfl ?_
    refine V_iloadn 29 3 O dX0_firstBest_29 rfl rfl ?_
    refine V_iload 30 4 O dX0_firstBest_30 rfl ?_
    obtain ⟨r4, σ3, g, h⟩ := bd_of h
    refine V_callSi 32 [.int x1, .int x2, .int x3, .int x4] [.ref (zad G 70), .int r2] O mf_X0_place lk_X0_59 dX0_firstBest_32 rfl rfl (Nat.le_of_ble_eq_true rfl) ⟨(Nat.le_of_ble_eq_true rfl), (Nat.le_of_ble_eq_true rfl)⟩ (fun l => C_X0_place  g) ?_
    refine V_bald 35 O k70 dX0_firstBest_35 h (fun h => ?_)
    refine V_icmp_ne 36 42 O dX0_firstBest_36 rfl h (fun h => ?_) (fun h => ?_)
    · refine V_iinc 42 5 [1, 2, 3, 4, 5, 0] [(0, .ref (zad G 68)), (1, .int x1), (2, .int x2), (3, .int x3), (4, .int x4), (5, .int (x5 + (1 : Int32)))] O dX0_firstBest_42 rfl ci_1 (Nat.le_of_ble_eq_true rfl) rfl ?_
      refine V_goto 45 3 O dX0_firstBest_45 rfl ?_
      exact V_sub [0, 1, 2, 3, 4, 5] rfl (H3 x1 x2 x3 x4 (x5 + (1 : Int32)) σ3  h)
    · refine V_iload 39 5 O dX0_firstBest_39 rfl ?_
      exact V_iret 41 O E dX0_firstBest_41 h
theorem bl_X0_firstBest_3 {G : zG} {x : zX} {r : Int32} {τ : Sg} (O : zO G x cX0_firstBest RX0 4 160 6) (E : zE G x (some (.int)) (some (.int r)) τ) (n : Nat) : ∀ (k : Nat) (x1 : Int32) (x2 : Int32) (x3 : Int32) (x4 : Int32) (x5 : Int32) (σ : Sg), s_X0_firstBest_3 n k x1 x2 x3 x4 x5 σ = some (r, τ) → V G x σ [(0, .ref (zad G 68)), (1, .int x1), (2, .int x2), (3, .int x3), (4, .int x4), (5, .int x5)] 3 [] := by
  intro k
  induction k with
  | zero => intro x1 x2 x3 x4 x5 σ  h; cases h
  | succ k ih => intro x1 x2 x3 x4 x5 σ  h; exact b_X0_firstBest_3 O E n  (s_X0_firstBest_3 n  k) ih x1 x2 x3 x4 x5 σ  h
set_option maxRecDepth 20000 in
theorem C_X0_firstBest {l : Launch} {G : zG} {n : Nat} {x1 : Int32} {x2 : Int32} {x3 : Int32} {x4 : Int32} {σ : Sg} {r : Int32} {τ : Sg} (h : s_X0_firstBest n x1 x2 x3 x4 σ = some (r, τ)) : zM l G 4 yX0_firstBest (.code yX0_firstBest cX0_firstBest 6 (some (.int))) [.ref (zad G 68), .int x1, .int x2, .int x3, .int x4] σ (some (.int r)) τ := by
  refine zM_of (by decide) (Nat.le_of_ble_eq_true rfl) (fun x O E => ?_)
  have O : zO G x cX0_firstBest RX0 4 160 6 := O
  unfold s_X0_firstBest at h
  show V G x σ [(0, .ref (zad G 68)), (1, .int x1), (2, .int x2), (3, .int x3), (4, .int x4)] 0 []
  refine V_iconst 0 O dX0_firstBest_0 ci_m1 ?_
  refine V_istore 1 [1, 2, 3, 4, 5, 0] [(0, .ref (zad G 68)), (1, .int x1), (2, .int x2), (3, .int x3), (4, .int x4), (5, .int (-1 : Int32))] O dX0_firstBest_1 (Nat.le_of_ble_eq_true rfl) rfl ?_
  exact V_sub [0, 1, 2, 3, 4, 5] rfl (bl_X0_firstBest_3 O E n  n x1 x2 x3 x4 (-1 : Int32) σ  h)
-- ==== Beds.follow()V
def s_X0_follow_48b (n : Nat) (rc48 : Int32 → Int32 → Int32 → Int32 → Sg → Option Sg) (x1 : Int32) (x2 : Int32) (x3 : Int32) (x4 : Int32) (σ : Sg) : Option Sg := if (σ 68 6) < x4 then (some σ) else (bd (s_X0_firstBest n x4 x1 x2 x3 σ) fun r7 σ6 => ck x4 21 (lt (up2 σ6 69 (ix x4) r7) fun σ8 => bd (s_X0_older n (0 : Int32) x1 r7 x4 σ8) fun r10 σ9 => bd (s_X0_older n (1 : Int32) x2 r7 x4 σ9) fun r12 σ11 => bd (s_X0_older n (2 : Int32) x3 r7 x4 σ11) fun r14 σ13 => rc48 r10 r12 r14 (x4 + (1 : Int32)) σ13))
def s_X0_follow_48 (n : Nat) : Nat → Int32 → Int32 → Int32 → Int32 → Sg → Option Sg
  | 0 => fun _ _ _ _ _ => none
  | k + 1 => s_X0_follow_48b n (s_X0_follow_48 n k)
def s_X0_follow (n : Nat) (σ : Sg) : Option Sg := bdv (s_J7_fill_53178 n 69 21 (-1 : Int32) σ) fun σ1 => bd (s_X0_place n (0 : Int32) (0 : Int32) (0 : Int32) (0 : Int32) σ1) fun r3 σ2 => ck r3 10626 (lt (up2 σ2 68 1 (σ2 70 (ix r3))) fun σ4 => if (σ4 68 1) < (100 : Int32) then (s_X0_follow_48 n n (0 : Int32) (0 : Int32) (0 : Int32) (0 : Int32) σ4) else (lt (up2 σ4 68 1 (-1 : Int32)) fun σ5 => some σ5))
set_option maxRecDepth 20000 in
theorem b_X0_follow_48 {G : zG} {x : zX} {τ : Sg} (O : zO G x cX0_follow RX0 5 200 6) (E : zE G x none none τ) (n : Nat) (rc48 : Int32 → Int32 → Int32 → Int32 → Sg → Option Sg) (H48 : ∀ (x1 : Int32) (x2 : Int32) (x3 : Int32) (x4 : Int32) (σ : Sg), rc48 x1 x2 x3 x4 σ = some τ → V G x σ [(0, .ref (zad G 68)), (1, .int x1), (2, .int x2), (3, .int x3), (4, .int x4)] 48 []) (x1 : Int32) (x2 : Int32) (x3 : Int32) (x4 : Int32) (σ : Sg) (h : s_X0_follow_48b n rc48 x1 x2 x3 x4 σ = some τ) : V G x σ [(0, .ref (zad G 68)), (1, .int x1), (2, .int x2), (3, .int x3), (4, .int x4)] 48 [] := by
  unfold s_X0_follow_48b at h
  refine V_iload 48 4 O dX0_follow_48 rfl ?_
  refine V_aloadn 50 0 O dX0_follow_50 rfl rfl ?_
  refine V_getI 51 O k68 fl_X0_32 dX0_follow_51 ?_
  refine V_icmp_gt 54 116 O dX0_follow_54 rfl h (fun h => ?_) (fun h => ?_)
  · exact V_vret 116 O E dX0_follow_116 h
  · refine V_aloadn 57 0 O dX0_follow_57 rfl rfl ?_
    refine V_iload 58 4 O dX0_follow_58 rfl ?_
    refine V_iloadn 60 1 O dX0_follow_60 rfl rfl ?_
    refine V_iloadn 61 2 O dX0_follow_61 rfl rfl ?_
    refine V_iloadn 62 3 O dX0_follow_62 rfl rfl ?_
    obtain ⟨r7, σ6, g, h⟩ := bd_of h
    refine V_callVi 63 [.int x4, .int x1, .int x2, .int x3] [] O mf_X0_firstBest lk_X0_82 k68 dX0_follow_63 rfl rfl (Nat.le_of_ble_eq_true rfl) ⟨(Nat.le_of_ble_eq_true rfl), (Nat.le_of_ble_eq_true rfl)⟩ (fun l => C_X0_firstBest  g) ?_
    refine V_istore 66 [1, 2, 3, 4, 5, 0] [(0, .ref (zad G 68)), (1, .int x1), (2, .int x2), (3, .int x3), (4, .int x4), (5, .int r7)] O dX0_follow_66 (Nat.le_of_ble_eq_true rfl) rfl ?_
    refine V_aloadn 68 0 O dX0_follow_68 rfl rfl ?_
    refine V_getR 69 O k68 fl_X0_9 rf68_0 dX0_follow_69 ?_
    refine V_iload 72 4 O dX0_follow_72 rfl ?_
    refine V_iload 74 5 O dX0_follow_74 rfl ?_
    refine V_iast 76 O k69 dX0_follow_76 h (fun σ8 h => ?_)
    refine V_aloadn 77 0 O dX0_follow_77 rfl rfl ?_
    refine V_iconst 78 O dX0_follow_78 ci_0 ?_
    refine V_iloadn 79 1 O dX0_follow_79 rfl rfl ?_
    refine V_iload 80 5 O dX0_follow_80 rfl ?_
    refine V_iload 82 4 O dX0_follow_82 rfl ?_
    obtain ⟨r10, σ9, g, h⟩ := bd_of h
    refine V_callVi 84 [.int (0 : Int32), .int x1, .int r7, .int x4] [] O mf_X0_older lk_X0_70 k68 dX0_follow_84 rfl rfl (Nat.le_of_ble_eq_true rfl) ⟨(Nat.le_of_ble_eq_true rfl), (Nat.le_of_ble_eq_true rfl)⟩ (fun l => C_X0_older  g) ?_
    refine V_istoren 87 [1, 0, 2, 3, 4, 5] [(0, .ref (zad G 68)), (1, .int r10), (2, .int x2), (3, .int x3), (4, .int x4), (5, .int r7)] O dX0_follow_87 rfl (Nat.le_of_ble_eq_true rfl) rfl ?_
    refine V_aloadn 88 0 O dX0_follow_88 rfl rfl ?_
    refine V_iconst 89 O dX0_follow_89 ci_1 ?_
    refine V_iloadn 90 2 O dX0_follow_90 rfl rfl ?_
    refine V_iload 91 5 O dX0_follow_91 rfl ?_
    refine V_iload 93 4 O dX0_follow_93 rfl ?_
    obtain ⟨r12, σ11, g, h⟩ := bd_of h
    refine V_callVi 95 [.int (1 : Int32), .int x2, .int r7, .int x4] [] O mf_X0_older lk_X0_70 k68 dX0_follow_95 rfl rfl (Nat.le_of_ble_eq_true rfl) ⟨(Nat.le_of_ble_eq_true rfl), (Nat.le_of_ble_eq_true rfl)⟩ (fun l => C_X0_older  g) ?_
    refine V_istoren 98 [1, 2, 0, 3, 4, 5] [(0, .ref (zad G 68)), (1, .int r10), (2, .int r12), (3, .int x3), (4, .int x4), (5, .int r7)] O dX0_follow_98 rfl (Nat.le_of_ble_eq_true rfl) rfl ?_
    refine V_aloadn 99 0 O dX0_follow_99 rfl rfl ?_
    refine V_iconst 100 O dX0_follow_100 ci_2 ?_
    refine V_iloadn 101 3 O dX0_follow_101 rfl rfl ?_
    refine V_iload 102 5 O dX0_follow_102 rfl ?_
    refine V_iload 104 4 O dX0_follow_104 rfl ?_
    obtain ⟨r14, σ13, g, h⟩ := bd_of h
    refine V_callVi 106 [.int (2 : Int32), .int x3, .int r7, .int x4] [] O mf_X0_older lk_X0_70 k68 dX0_follow_106 rfl rfl (Nat.le_of_ble_eq_true rfl) ⟨(Nat.le_of_ble_eq_true rfl), (Nat.le_of_ble_eq_true rfl)⟩ (fun l => C_X0_older  g) ?_
    refine V_istoren 109 [1, 2, 3, 0, 4, 5] [(0, .ref (zad G 68)), (1, .int r10), (2, .int r12), (3, .int r14), (4, .int x4), (5, .int r7)] O dX0_follow_109 rfl (Nat.le_of_ble_eq_true rfl) rfl ?_
    refine V_iinc 110 4 [1, 2, 3, 4, 0, 5] [(0, .ref (zad G 68)), (1, .int r10), (2, .int r12), (3, .int r14), (4, .int (x4 + (1 : Int32))), (5, .int r7)] O dX0_follow_110 rfl ci_1 (Nat.le_of_ble_eq_true rfl) rfl ?_
    refine V_goto 113 48 O dX0_follow_113 rfl ?_
    exact V_sub [0, 1, 2, 3, 4] rfl (H48 r10 r12 r14 (x4 + (1 : Int32)) σ13  h)
theorem bl_X0_follow_48 {G : zG} {x : zX} {τ : Sg} (O : zO G x cX0_follow RX0 5 200 6) (E : zE G x none none τ) (n : Nat) : ∀ (k : Nat) (x1 : Int32) (x2 : Int32) (x3 : Int32) (x4 : Int32) (σ : Sg), s_X0_follow_48 n k x1 x2 x3 x4 σ = some τ → V G x σ [(0, .ref (zad G 68)), (1, .int x1), (2, .int x2), (3, .int x3), (4, .int x4)] 48 [] := by
  intro k
  induction k with
  | zero => intro x1 x2 x3 x4 σ  h; cases h
  | succ k ih => intro x1 x2 x3 x4 σ  h; exact b_X0_follow_48 O E n  (s_X0_follow_48 n  k) ih x1 x2 x3 x4 σ  h
set_option maxRecDepth 20000 in
theorem C_X0_follow {l : Launch} {G : zG} {n : Nat} {σ : Sg} {τ : Sg} (h : s_X0_follow n σ = some τ) : zM l G 5 yX0_follow (.code yX0_follow cX0_follow 6 none) [.ref (zad G 68)] σ none τ := by
  refine zM_of (by decide) (Nat.le_of_ble_eq_true rfl) (fun x O E => ?_)
  have O : zO G x cX0_follow RX0 5 200 6 := O
  unfold s_X0_follow at h
  show V G x σ [(0, .ref (zad G 68))] 0 []
  refine V_aloadn 0 0 O dX0_follow_0 rfl rfl ?_
  refine V_getR 1 O k68 fl_X0_9 rf68_0 dX0_follow_1 ?_
  refine V_iconst 4 O dX0_follow_4 ci_m1 ?_
  obtain ⟨σ1, g, h⟩ := bdv_of h
  refine V_callSv 5 [.ref (zad G 69), .int (-1 : Int32)] [] O mf_J7_fill_53178 lk_X0_73 dX0_follow_5 rfl rfl (Nat.le_of_ble_eq_true rfl) ⟨(Nat.le_of_ble_eq_true rfl), (Nat.le_of_ble_eq_true rfl)⟩ (fun l => C_J7_fill_53178 k69 g) ?_
  refine V_aloadn 8 0 O dX0_follow_8 rfl rfl ?_
  refine V_aloadn 9 0 O dX0_follow_9 rfl rfl ?_
  refine V_getR 10 O k68 fl_X0_15 rf68_8 dX0_follow_10 ?_
  refine V_iconst 13 O dX0_follow_13 ci_0 ?_
  refine V_iconst 14 O dX0_follow_14 ci_0 ?_
  refine V_iconst 15 O dX0_follow_15 ci_0 ?_
  refine V_iconst 16 O dX0_follow_16 ci_0 ?_
  obtain ⟨r3, σ2, g, h⟩ := bd_of h
  refine V_callSi 17 [.int (0 : Int32), .int (0 : Int32), .int (0 : Int32), .int (0 : Int32)] [.ref (zad G 70), .ref (zad G 68)] O mf_X0_place lk_X0_59 dX0_follow_17 rfl rfl (Nat.le_of_ble_eq_true rfl) ⟨(Nat.le_of_ble_eq_true rfl), (Nat.le_of_ble_eq_true rfl)⟩ (fun l => C_X0_place  g) ?_
  refine V_bald 20 O k70 dX0_follow_20 h (fun h => ?_)
  refine V_put 21 O k68 fp_X0_79 dX0_follow_21 h (fun σ4 h => ?_)
  refine V_aloadn 24 0 O dX0_follow_24 rfl rfl ?_
  refine V_getI 25 O k68 fl_X0_79 dX0_follow_25 ?_
  refine V_bipush 28 O dX0_follow_28 cb_100 ?_
  refine V_icmp_lt 30 39 O dX0_follow_30 rfl h (fun h => ?_) (fun h => ?_)
  · refine V_iconst 39 O dX0_follow_39 ci_0 ?_
    refine V_istoren 40 [1, 0] [(0, .ref (zad G 68)), (1, .int (0 : Int32))] O dX0_follow_40 rfl (Nat.le_of_ble_eq_true rfl) rfl ?_
    refine V_iconst 41 O dX0_follow_41 ci_0 ?_
    refine V_istoren 42 [1, 2, 0] [(0, .ref (zad G 68)), (1, .int (0 : Int32)), (2, .int (0 : Int32))] O dX0_follow_42 rfl (Nat.le_of_ble_eq_true rfl) rfl ?_
    refine V_iconst 43 O dX0_follow_43 ci_0 ?_
    refine V_istoren 44 [1, 2, 3, 0] [(0, .ref (zad G 68)), (1, .int (0 : Int32)), (2, .int (0 : Int32)), (3, .int (0 : Int32))] O dX0_follow_44 rfl (Nat.le_of_ble_eq_true rfl) rfl ?_
    refine V_iconst 45 O dX0_follow_45 ci_0 ?_
    refine V_istore 46 [1, 2, 3, 4, 0] [(0, .ref (zad G 68)), (1, .int (0 : Int32)), (2, .int (0 : Int32)), (3, .int (0 : Int32)), (4, .int (0 : Int32))] O dX0_follow_46 (Nat.le_of_ble_eq_true rfl) rfl ?_
    exact V_sub [0, 1, 2, 3, 4] rfl (bl_X0_follow_48 O E n  n (0 : Int32) (0 : Int32) (0 : Int32) (0 : Int32) σ4  h)
  · refine V_aloadn 33 0 O dX0_follow_33 rfl rfl ?_
    refine V_iconst 34 O dX0_follow_34 ci_m1 ?_
    refine V_put 35 O k68 fp_X0_79 dX0_follow_35 h (fun σ5 h => ?_)
    exact V_vret 38 O E dX0_follow_38 h
-- ==== Beds.plan(IIIII)V
def s_X0_plan_98b (n : Nat) (rc98 : Int32 → Sg → Option Sg) (x6 : Int32) (σ : Sg) : Option Sg := if x6 < 0 then (bdv (s_X0_follow n σ) fun σ8 => some σ8) else (bdv (s_X0_weighDay n x6 σ) fun σ9 => rc98 (x6 + (-1 : Int32)) σ9)
def s_X0_plan_98 (n : Nat) : Nat → Int32 → Sg → Option Sg
  | 0 => fun _ _ => none
  | k + 1 => s_X0_plan_98b n (s_X0_plan_98 n k)
def s_X0_plan_43 (n : Nat) (x1 : Int32) (x2 : Int32) (x3 : Int32) (x4 : Int32) (x5 : Int32) (σ : Sg) : Option Sg := lt (up2 σ 68 2 x1) fun σ1 => lt (up2 σ1 68 3 x2) fun σ2 => lt (up2 σ2 68 4 x3) fun σ3 => lt (up2 σ3 68 5 x4) fun σ4 => lt (up2 σ4 68 6 x5) fun σ5 => if x3 = 0 then (lt (up2 σ5 68 7 (0 : Int32)) fun σ7 => s_X0_plan_98 n n x5 σ7) else (dvc x3 (lt (up2 σ5 68 7 (imin (20 : Int32) (((x2 + x3) - (1 : Int32)) / x3))) fun σ6 => s_X0_plan_98 n n x5 σ6))
def s_X0_plan (n : Nat) (x1 : Int32) (x2 : Int32) (x3 : Int32) (x4 : Int32) (x5 : Int32) (σ : Sg) : Option Sg := if x1 = (σ 68 2) then (if x2 = (σ 68 3) then (if x3 = (σ 68 4) then (if x4 = (σ 68 5) then (if x5 = (σ 68 6) then (some σ) else (s_X0_plan_43 n x1 x2 x3 x4 x5 σ)) else (s_X0_plan_43 n x1 x2 x3 x4 x5 σ)) else (s_X0_plan_43 n x1 x2 x3 x4 x5 σ)) else (s_X0_plan_43 n x1 x2 x3 x4 x5 σ)) else (s_X0_plan_43 n x1 x2 x3 x4 x5 σ)
set_option maxRecDepth 20000 in
theorem b_X0_plan_98 {G : zG} {x : zX} {τ : Sg} (O : zO G x cX0_plan RX0 6 240 7) (E : zE G x none none τ) (n : Nat) (rc98 : Int32 → Sg → Option Sg) (H98 : ∀ (x6 : Int32) (σ : Sg), rc98 x6 σ = some τ → V G x σ [(0, .ref (zad G 68)), (6, .int x6)] 98 []) (x6 : Int32) (σ : Sg) (h : s_X0_plan_98b n rc98 x6 σ = some τ) : V G x σ [(0, .ref (zad G 68)), (6, .int x6)] 98 [] := by
  unfold s_X0_plan_98b at h
  refine V_iload 98 1 O dX0_plan_98 rfl ?_
  refine V_if_lt 100 115 O dX0_plan_100 rfl h (fun h => ?_) (fun h => ?_)
  · refine V_aloadn 115 0 O dX0_plan_115 rfl rfl ?_
    obtain ⟨σ8, g, h⟩ := bdv_of h
    refine V_callVv 116 [] [] O mf_X0_follow lk_X0_48 k68 dX0_plan_116 rfl rfl (Nat.le_of_ble_eq_true rfl) ⟨(Nat.le_of_ble_eq_true rfl), (Nat.le_of_ble_eq_true rfl)⟩ (fun l => C_X0_follow  g) ?_
    exact V_vret 119 O E dX0_plan_119 h
  · refine V_aloadn 103 0 O dX0_plan_103 rfl rfl ?_
    refine V_iload 104 1 O dX0_plan_104 rfl ?_
    obtain ⟨σ9, g, h⟩ := bdv_of h
    refine V_callVv 106 [.int x6] [] O mf_X0_weighDay lk_X0_44 k68 dX0_plan_106 rfl rfl (Nat.le_of_ble_eq_true rfl) ⟨(Nat.le_of_ble_eq_true rfl), (Nat.le_of_ble_eq_true rfl)⟩ (fun l => C_X0_weighDay  g) ?_
    refine V_iinc 109 1 [1, 0] [(0, .ref (zad G 68)), (6, .int (x6 + (-1 : Int32)))] O dX0_plan_109 rfl ci_m1 (Nat.le_of_ble_eq_true rfl) rfl ?_
    refine V_goto 112 98 O dX0_plan_112 rfl ?_
    exact V_sub [0, 1] rfl (H98 (x6 + (-1 : Int32)) σ9  h)
theorem bl_X0_plan_98 {G : zG} {x : zX} {τ : Sg} (O : zO G x cX0_plan RX0 6 240 7) (E : zE G x none none τ) (n : Nat) : ∀ (k : Nat) (x6 : Int32) (σ : Sg), s_X0_plan_98 n k x6 σ = some τ → V G x σ [(0, .ref (zad G 68)), (6, .int x6)] 98 [] := by
  intro k
  induction k with
  | zero => intro x6 σ  h; cases h
  | succ k ih => intro x6 σ  h; exact b_X0_plan_98 O E n  (s_X0_plan_98 n  k) ih x6 σ  h
set_option maxRecDepth 20000 in
theorem b_X0_plan_43 {G : zG} {x : zX} {τ : Sg} (O : zO G x cX0_plan RX0 6 240 7) (E : zE G x none none τ) (n : Nat) (x1 : Int32) (x2 : Int32) (x3 : Int32) (x4 : Int32) (x5 : Int32) (σ : Sg) (h : s_X0_plan_43 n x1 x2 x3 x4 x5 σ = some τ) : V G x σ [(0, .ref (zad G 68)), (1, .int x1), (2, .int x2), (3, .int x3), (4, .int x4), (5, .int x5)] 43 [] := by
  unfold s_X0_plan_43 at h
  refine V_aloadn 43 0 O dX0_plan_43 rfl rfl ?_
  refine V_iloadn 44 1 O dX0_plan_44 rfl rfl ?_
  refine V_put 45 O k68 fp_X0_19 dX0_plan_45 h (fun σ1 h => ?_)
  refine V_aloadn 48 0 O dX0_plan_48 rfl rfl ?_
  refine V_iloadn 49 2 O dX0_plan_49 rfl rfl ?_
  refine V_put 50 O k68 fp_X0_23 dX0_plan_50 h (fun σ2 h => ?_)
  refine V_aloadn 53 0 O dX0_plan_53 rfl rfl ?_
  refine V_iloadn 54 3 O dX0_plan_54 rfl rfl ?_
  refine V_put 55 O k68 fp_X0_26 dX0_plan_55 h (fun σ3 h => ?_)
  refine V_aloadn 58 0 O dX0_plan_58 rfl rfl ?_
  refine V_iload 59 4 O dX0_plan_59 rfl ?_
  refine V_put 61 O k68 fp_X0_29 dX0_plan_61 h (fun σ4 h => ?_)
  refine V_aloadn 64 0 O dX0_plan_64 rfl rfl ?_
  refine V_iload 65 5 O dX0_plan_65 rfl ?_
  refine V_put 67 O k68 fp_X0_32 dX0_plan_67 h (fun σ5 h => ?_)
  refine V_aloadn 70 0 O dX0_plan_70 rfl rfl ?_
  refine V_iloadn 71 3 O dX0_plan_71 rfl rfl ?_
  refine V_if_ne 72 79 O dX0_plan_72 rfl h (fun h => ?_) (fun h => ?_)
  · refine V_bipush 79 O dX0_plan_79 cb_20 ?_
    refine V_iloadn 81 2 O dX0_plan_81 rfl rfl ?_
    refine V_iloadn 82 3 O dX0_plan_82 rfl rfl ?_
    refine V_iadd 83 O dX0_plan_83 ?_
    refine V_iconst 84 O dX0_plan_84 ci_1 ?_
    refine V_isub 85 O dX0_plan_85 ?_
    refine V_iloadn 86 3 O dX0_plan_86 rfl rfl ?_
    refine V_idiv 87 O dX0_plan_87 h (fun h => ?_)
    refine V_min 88 O lk_X0_35 mm_imin.1 mm_imin.2.1 mm_imin.2.2 (Nat.le_of_ble_eq_true rfl) (Nat.le_of_ble_eq_true rfl) dX0_plan_88 ?_
    refine V_put 91 O k68 fp_X0_41 dX0_plan_91 h (fun σ6 h => ?_)
    refine V_iload 94 5 O dX0_plan_94 rfl ?_
    refine V_istore 96 [1, 2, 3, 4, 5, 6, 0] [(0, .ref (zad G 68)), (1, .int x1), (2, .int x2), (3, .int x3), (4, .int x4), (5, .int x5), (6, .int x5)] O dX0_plan_96 (Nat.le_of_ble_eq_true rfl) rfl ?_
    exact V_sub [0, 6] rfl (bl_X0_plan_98 O E n  n x5 σ6  h)
  · refine V_iconst 75 O dX0_plan_75 ci_0 ?_
    refine V_goto 76 91 O dX0_plan_76 rfl ?_
    refine V_put 91 O k68 fp_X0_41 dX0_plan_91 h (fun σ7 h => ?_)
    refine V_iload 94 5 O dX0_plan_94 rfl ?_
    refine V_istore 96 [1, 2, 3, 4, 5, 6, 0] [(0, .ref (zad G 68)), (1, .int x1), (2, .int x2), (3, .int x3), (4, .int x4), (5, .int x5), (6, .int x5)] O dX0_plan_96 (Nat.le_of_ble_eq_true rfl) rfl ?_
    exact V_sub [0, 6] rfl (bl_X0_plan_98 O E n  n x5 σ7  h)
set_option maxRecDepth 20000 in
theorem C_X0_plan {l : Launch} {G : zG} {n : Nat} {x1 : Int32} {x2 : Int32} {x3 : Int32} {x4 : Int32} {x5 : Int32} {σ : Sg} {τ : Sg} (h : s_X0_plan n x1 x2 x3 x4 x5 σ = some τ) : zM l G 6 yX0_plan (.code yX0_plan cX0_plan 7 none) [.ref (zad G 68), .int x1, .int x2, .int x3, .int x4, .int x5] σ none τ := by
  refine zM_of (by decide) (Nat.le_of_ble_eq_true rfl) (fun x O E => ?_)
  have O : zO G x cX0_plan RX0 6 240 7 := O
  unfold s_X0_plan at h
  show V G x σ [(0, .ref (zad G 68)), (1, .int x1), (2, .int x2), (3, .int x3), (4, .int x4), (5, .int x5)] 0 []
  refine V_iloadn 0 1 O dX0_plan_0 rfl rfl ?_
  refine V_aloadn 1 0 O dX0_plan_1 rfl rfl ?_
  refine V_getI 2 O k68 fl_X0_19 dX0_plan_2 ?_
  refine V_icmp_ne 5 43 O dX0_plan_5 rfl h (fun h => ?_) (fun h => ?_)
  · exact V_sub [0, 1, 2, 3, 4, 5] rfl (b_X0_plan_43 O E n  x1 x2 x3 x4 x5 σ  h)
  · refine V_iloadn 8 2 O dX0_plan_8 rfl rfl ?_
    refine V_aloadn 9 0 O dX0_plan_9 rfl rfl ?_
    refine V_getI 10 O k68 fl_X0_23 dX0_plan_10 ?_
    refine V_icmp_ne 13 43 O dX0_plan_13 rfl h (fun h => ?_) (fun h => ?_)
    · exact V_sub [0, 1, 2, 3, 4, 5] rfl (b_X0_plan_43 O E n  x1 x2 x3 x4 x5 σ  h)
    · refine V_iloadn 16 3 O dX0_plan_16 rfl rfl ?_
      refine V_aloadn 17 0 O dX0_plan_17 rfl rfl ?_
      refine V_getI 18 O k68 fl_X0_26 dX0_plan_18 ?_
      refine V_icmp_ne 21 43 O dX0_plan_21 rfl h (fun h => ?_) (fun h => ?_)
      · exact V_sub [0, 1, 2, 3, 4, 5] rfl (b_X0_plan_43 O E n  x1 x2 x3 x4 x5 σ  h)
      · refine V_iload 24 4 O dX0_plan_24 rfl ?_
        refine V_aloadn 26 0 O dX0_plan_26 rfl rfl ?_
        refine V_getI 27 O k68 fl_X0_29 dX0_plan_27 ?_
        refine V_icmp_ne 30 43 O dX0_plan_30 rfl h (fun h => ?_) (fun h => ?_)
        · exact V_sub [0, 1, 2, 3, 4, 5] rfl (b_X0_plan_43 O E n  x1 x2 x3 x4 x5 σ  h)
        · refine V_iload 33 5 O dX0_plan_33 rfl ?_
          refine V_aloadn 35 0 O dX0_plan_35 rfl rfl ?_
          refine V_getI 36 O k68 fl_X0_32 dX0_plan_36 ?_
          refine V_icmp_ne 39 43 O dX0_plan_39 rfl h (fun h => ?_) (fun h => ?_)
          · exact V_sub [0, 1, 2, 3, 4, 5] rfl (b_X0_plan_43 O E n  x1 x2 x3 x4 x5 σ  h)
          · exact V_vret 42 O E dX0_plan_42 h
-- ==== Gauges.put(II)I
def s_X1_put (n : Nat) (x1 : Int32) (x2 : Int32) (σ : Sg) : Option (Int32 × Sg) := ck (σ 63 0) 6 (lt (up2 σ 64 (ix (σ 63 0)) x1) fun σ1 => ck (σ1 63 0) 6 (lt (up2 σ1 65 (ix (σ1 63 0)) x2) fun σ2 => lt (up2 σ2 63 0 ((σ2 63 0) + (1 : Int32))) fun σ3 => some (σ3 63 0, σ3)))
set_option maxRecDepth 20000 in
theorem C_X1_put {l : Launch} {G : zG} {n : Nat} {x1 : Int32} {x2 : Int32} {σ : Sg} {r : Int32} {τ : Sg} (h : s_X1_put n x1 x2 σ = some (r, τ)) : zM l G 0 yX1_put (.code yX1_put cX1_put 3 (some (.int))) [.ref (zad G 63), .int x1, .int x2] σ (some (.int r)) τ := by
  refine zM_of (by decide) (Nat.le_of_ble_eq_true rfl) (fun x O E => ?_)
  have O : zO G x cX1_put RX1 0 0 3 := O
  unfold s_X1_put at h
  show V G x σ [(0, .ref (zad G 63)), (1, .int x1), (2, .int x2)] 0 []
  refine V_aloadn 0 0 O dX1_put_0 rfl rfl ?_
  refine V_getR 1 O k63 fl_X1_9 rf63_4 dX1_put_1 ?_
  refine V_aloadn 4 0 O dX1_put_4 rfl rfl ?_
  refine V_getI 5 O k63 fl_X1_24 dX1_put_5 ?_
  refine V_iloadn 8 1 O dX1_put_8 rfl rfl ?_
  refine V_iast 9 O k64 dX1_put_9 h (fun σ1 h => ?_)
  refine V_aloadn 10 0 O dX1_put_10 rfl rfl ?_
  refine V_getR 11 O k63 fl_X1_15 rf63_5 dX1_put_11 ?_
  refine V_aloadn 14 0 O dX1_put_14 rfl rfl ?_
  refine V_getI 15 O k63 fl_X1_24 dX1_put_15 ?_
  refine V_iloadn 18 2 O dX1_put_18 rfl rfl ?_
  refine V_iast 19 O k65 dX1_put_19 h (fun σ2 h => ?_)
  refine V_aloadn 20 0 O dX1_put_20 rfl rfl ?_
  refine V_dup 21 O dX1_put_21 rfl ?_
  refine V_getI 22 O k63 fl_X1_24 dX1_put_22 ?_
  refine V_iconst 25 O dX1_put_25 ci_1 ?_
  refine V_iadd 26 O dX1_put_26 ?_
  refine V_put 27 O k63 fp_X1_24 dX1_put_27 h (fun σ3 h => ?_)
  refine V_aloadn 30 0 O dX1_put_30 rfl rfl ?_
  refine V_getI 31 O k63 fl_X1_24 dX1_put_31 ?_
  exact V_iret 34 O E dX1_put_34 h
-- ==== Gauges.suppose(II)V
def s_X1_suppose (n : Nat) (x1 : Int32) (x2 : Int32) (σ : Sg) : Option Sg := if x2 = (-1 : Int32) then (lt (up2 σ 63 1 ((σ 63 1) &&& ((sl (1 : Int32) x1) ^^^ (-1 : Int32)))) fun σ3 => some σ3) else (lt (up2 σ 63 1 ((σ 63 1) ||| (sl (1 : Int32) x1))) fun σ1 => ck x1 20 (lt (up2 σ1 66 (ix x1) x2) fun σ2 => some σ2))
set_option maxRecDepth 20000 in
theorem C_X1_suppose {l : Launch} {G : zG} {n : Nat} {x1 : Int32} {x2 : Int32} {σ : Sg} {τ : Sg} (h : s_X1_suppose n x1 x2 σ = some τ) : zM l G 0 yX1_suppose (.code yX1_suppose cX1_suppose 3 none) [.ref (zad G 63), .int x1, .int x2] σ none τ := by
  refine zM_of (by decide) (Nat.le_of_ble_eq_true rfl) (fun x O E => ?_)
  have O : zO G x cX1_suppose RX1 0 0 3 := O
  unfold s_X1_suppose at h
  show V G x σ [(0, .ref (zad G 63)), (1, .int x1), (2, .int x2)] 0 []
  refine V_iloadn 0 2 O dX1_suppose_0 rfl rfl ?_
  refine V_iconst 1 O dX1_suppose_1 ci_m1 ?_
  refine V_icmp_ne 2 22 O dX1_suppose_2 rfl h (fun h => ?_) (fun h => ?_)
  · refine V_aloadn 22 0 O dX1_suppose_22 rfl rfl ?_
    refine V_dup 23 O dX1_suppose_23 rfl ?_
    refine V_getI 24 O k63 fl_X1_28 dX1_suppose_24 ?_
    refine V_iconst 27 O dX1_suppose_27 ci_1 ?_
    refine V_iloadn 28 1 O dX1_suppose_28 rfl rfl ?_
    refine V_ishl 29 O dX1_suppose_29 ?_
    refine V_ior 30 O dX1_suppose_30 ?_
    refine V_put 31 O k63 fp_X1_28 dX1_suppose_31 h (fun σ1 h => ?_)
    refine V_aloadn 34 0 O dX1_suppose_34 rfl rfl ?_
    refine V_getR 35 O k63 fl_X1_18 rf63_6 dX1_suppose_35 ?_
    refine V_iloadn 38 1 O dX1_suppose_38 rfl rfl ?_
    refine V_iloadn 39 2 O dX1_suppose_39 rfl rfl ?_
    refine V_iast 40 O k66 dX1_suppose_40 h (fun σ2 h => ?_)
    exact V_vret 41 O E dX1_suppose_41 h
  · refine V_aloadn 5 0 O dX1_suppose_5 rfl rfl ?_
    refine V_dup 6 O dX1_suppose_6 rfl ?_
    refine V_getI 7 O k63 fl_X1_28 dX1_suppose_7 ?_
    refine V_iconst 10 O dX1_suppose_10 ci_1 ?_
    refine V_iloadn 11 1 O dX1_suppose_11 rfl rfl ?_
    refine V_ishl 12 O dX1_suppose_12 ?_
    refine V_iconst 13 O dX1_suppose_13 ci_m1 ?_
    refine V_ixor 14 O dX1_suppose_14 ?_
    refine V_iand 15 O dX1_suppose_15 ?_
    refine V_put 16 O k63 fp_X1_28 dX1_suppose_16 h (fun σ3 h => ?_)
    refine V_goto 19 41 O dX1_suppose_19 rfl ?_
    exact V_vret 41 O E dX1_suppose_41 h
-- ==== Gauges.listSuspects()V
def s_X1_listSuspects_7b (n : Nat) (rc7 : Int32 → Sg → Option Sg) (x1 : Int32) (σ : Sg) : Option Sg := if (20 : Int32) ≤ x1 then (some σ) else (if (12 : Int32) ≤ (σ 63 8) then (some σ) else (if ((sr (σ 63 1) x1) &&& (1 : Int32)) = (1 : Int32) then (ck (σ 63 8) 12 (lt (up2 σ 67 (ix (σ 63 8)) x1) fun σ2 => lt (up2 σ2 63 8 ((σ2 63 8) + (1 : Int32))) fun σ3 => rc7 (x1 + (1 : Int32)) σ3)) else (rc7 (x1 + (1 : Int32)) σ)))
def s_X1_listSuspects_7 (n : Nat) : Nat → Int32 → Sg → Option Sg
  | 0 => fun _ _ => none
  | k + 1 => s_X1_listSuspects_7b n (s_X1_listSuspects_7 n k)
def s_X1_listSuspects (n : Nat) (σ : Sg) : Option Sg := lt (up2 σ 63 8 (0 : Int32)) fun σ1 => s_X1_listSuspects_7 n n (0 : Int32) σ1
set_option maxRecDepth 20000 in
theorem b_X1_listSuspects_7 {G : zG} {x : zX} {τ : Sg} (O : zO G x cX1_listSuspects RX1 0 0 2) (E : zE G x none none τ) (n : Nat) (rc7 : Int32 → Sg → Option Sg) (H7 : ∀ (x1 : Int32) (σ : Sg), rc7 x1 σ = some τ → V G x σ [(0, .ref (zad G 63)), (1, .int x1)] 7 []) (x1 : Int32) (σ : Sg) (h : s_X1_listSuspects_7b n rc7 x1 σ = some τ) : V G x σ [(0, .ref (zad G 63)), (1, .int x1)] 7 [] := by
  unfold s_X1_listSuspects_7b at h
  refine V_iloadn 7 1 O dX1_listSuspects_7 rfl rfl ?_
  refine V_bipush 8 O dX1_listSuspects_8 cb_20 ?_
  refine V_icmp_ge 10 60 O dX1_listSuspects_10 rfl h (fun h => ?_) (fun h => ?_)
  · exact V_vret 60 O E dX1_listSuspects_60 h
  · refine V_aloadn 13 0 O dX1_listSuspects_13 rfl rfl ?_
    refine V_getI 14 O k63 fl_X1_40 dX1_listSuspects_14 ?_
    refine V_bipush 17 O dX1_listSuspects_17 cb_12 ?_
    refine V_icmp_ge 19 60 O dX1_listSuspects_19 rfl h (fun h => ?_) (fun h => ?_)
    · exact V_vret 60 O E dX1_listSuspects_60 h
    · refine V_aloadn 22 0 O dX1_listSuspects_22 rfl rfl ?_
      refine V_getI 23 O k63 fl_X1_28 dX1_listSuspects_23 ?_
      refine V_iloadn 26 1 O dX1_listSuspects_26 rfl rfl ?_
      refine V_ishr 27 O dX1_listSuspects_27 ?_
      refine V_iconst 28 O dX1_listSuspects_28 ci_1 ?_
      refine V_iand 29 O dX1_listSuspects_29 ?_
      refine V_iconst 30 O dX1_listSuspects_30 ci_1 ?_
      refine V_icmp_ne 31 54 O dX1_listSuspects_31 rfl h (fun h => ?_) (fun h => ?_)
      · refine V_iinc 54 1 [1, 0] [(0, .ref (zad G 63)), (1, .int (x1 + (1 : Int32)))] O dX1_listSuspects_54 rfl ci_1 (Nat.le_of_ble_eq_true rfl) rfl ?_
        refine V_goto 57 7 O dX1_listSuspects_57 rfl ?_
        exact V_sub [0, 1] rfl (H7 (x1 + (1 : Int32)) σ  h)
      · refine V_aloadn 34 0 O dX1_listSuspects_34 rfl rfl ?_
        refine V_getR 35 O k63 fl_X1_21 rf63_7 dX1_listSuspects_35 ?_
        refine V_aloadn 38 0 O dX1_listSuspects_38 rfl rfl ?_
        refine V_getI 39 O k63 fl_X1_40 dX1_listSuspects_39 ?_
        refine V_iloadn 42 1 O dX1_listSuspects_42 rfl rfl ?_
        refine V_iast 43 O k67 dX1_listSuspects_43 h (fun σ2 h => ?_)
        refine V_aloadn 44 0 O dX1_listSuspects_44 rfl rfl ?_
        refine V_dup 45 O dX1_listSuspects_45 rfl ?_
        refine V_getI 46 O k63 fl_X1_40 dX1_listSuspects_46 ?_
        refine V_iconst 49 O dX1_listSuspects_49 ci_1 ?_
        refine V_iadd 50 O dX1_listSuspects_50 ?_
        refine V_put 51 O k63 fp_X1_40 dX1_listSuspects_51 h (fun σ3 h => ?_)
        refine V_iinc 54 1 [1, 0] [(0, .ref (zad G 63)), (1, .int (x1 + (1 : Int32)))] O dX1_listSuspects_54 rfl ci_1 (Nat.le_of_ble_eq_true rfl) rfl ?_
        refine V_goto 57 7 O dX1_listSuspects_57 rfl ?_
        exact V_sub [0, 1] rfl (H7 (x1 + (1 : Int32)) σ3  h)
theorem bl_X1_listSuspects_7 {G : zG} {x : zX} {τ : Sg} (O : zO G x cX1_listSuspects RX1 0 0 2) (E : zE G x none none τ) (n : Nat) : ∀ (k : Nat) (x1 : Int32) (σ : Sg), s_X1_listSuspects_7 n k x1 σ = some τ → V G x σ [(0, .ref (zad G 63)), (1, .int x1)] 7 [] := by
  intro k
  induction k with
  | zero => intro x1 σ  h; cases h
  | succ k ih => intro x1 σ  h; exact b_X1_listSuspects_7 O E n  (s_X1_listSuspects_7 n  k) ih x1 σ  h
set_option maxRecDepth 20000 in
theorem C_X1_listSuspects {l : Launch} {G : zG} {n : Nat} {σ : Sg} {τ : Sg} (h : s_X1_listSuspects n σ = some τ) : zM l G 0 yX1_listSuspects (.code yX1_listSuspects cX1_listSuspects 2 none) [.ref (zad G 63)] σ none τ := by
  refine zM_of (by decide) (Nat.le_of_ble_eq_true rfl) (fun x O E => ?_)
  have O : zO G x cX1_listSuspects RX1 0 0 2 := O
  unfold s_X1_listSuspects at h
  show V G x σ [(0, .ref (zad G 63))] 0 []
  refine V_aloadn 0 0 O dX1_listSuspects_0 rfl rfl ?_
  refine V_iconst 1 O dX1_listSuspects_1 ci_0 ?_
  refine V_put 2 O k63 fp_X1_40 dX1_listSuspects_2 h (fun σ1 h => ?_)
  refine V_iconst 5 O dX1_listSuspects_5 ci_0 ?_
  refine V_istoren 6 [1, 0] [(0, .ref (zad G 63)), (1, .int (0 : Int32))] O dX1_listSuspects_6 rfl (Nat.le_of_ble_eq_true rfl) rfl ?_
  exact V_sub [0, 1] rfl (bl_X1_listSuspects_7 O E n  n (0 : Int32) σ1  h)
-- ==== Gauges.explains(I)Z
def s_X1_explains_15b (n : Nat) (rc2 : Int32 → Int32 → Sg → Option (Int32 × Sg)) (rc15 : Int32 → Int32 → Int32 → Int32 → Sg → Option (Int32 × Sg)) (x1 : Int32) (x2 : Int32) (x3 : Int32) (x4 : Int32) (σ : Sg) : Option (Int32 × Sg) := if (σ 63 8) ≤ x4 then (ck x2 6 (if x3 = (σ 65 (ix x2)) then (rc2 x1 (x2 + (1 : Int32)) σ) else (some ((0 : Int32), σ)))) else (ck x2 6 (ck x4 12 (if (((sr x1 x4) &&& (sr (σ 64 (ix x2)) (σ 67 (ix x4)))) &&& (1 : Int32)) = (1 : Int32) then (ck x4 12 (ck (σ 67 (ix x4)) 20 (lt (x3 + (σ 66 (ix (σ 67 (ix x4))))) fun v1 => rc15 x1 x2 v1 (x4 + (1 : Int32)) σ))) else (rc15 x1 x2 x3 (x4 + (1 : Int32)) σ))))
def s_X1_explains_15 (n : Nat) (rc2 : Int32 → Int32 → Sg → Option (Int32 × Sg)) : Nat → Int32 → Int32 → Int32 → Int32 → Sg → Option (Int32 × Sg)
  | 0 => fun _ _ _ _ _ => none
  | k + 1 => s_X1_explains_15b n rc2 (s_X1_explains_15 n rc2 k)
def s_X1_explains_2b (n : Nat) (rc2 : Int32 → Int32 → Sg → Option (Int32 × Sg)) (x1 : Int32) (x2 : Int32) (σ : Sg) : Option (Int32 × Sg) := if (σ 63 0) ≤ x2 then (some ((1 : Int32), σ)) else (s_X1_explains_15 n rc2 n x1 x2 (0 : Int32) (0 : Int32) σ)
def s_X1_explains_2 (n : Nat) : Nat → Int32 → Int32 → Sg → Option (Int32 × Sg)
  | 0 => fun _ _ _ => none
  | k + 1 => s_X1_explains_2b n (s_X1_explains_2 n k)
def s_X1_explains (n : Nat) (x1 : Int32) (σ : Sg) : Option (Int32 × Sg) := s_X1_explains_2 n n x1 (0 : Int32) σ
set_option maxRecDepth 20000 in
theorem b_X1_explains_15 {G : zG} {x : zX} {r : Int32} {τ : Sg} (O : zO G x cX1_explains RX1 0 0 5) (E : zE G x (some (.boolean)) (some (.int r)) τ) (n : Nat) (rc2 : Int32 → Int32 → Sg → Option (Int32 × Sg)) (H2 : ∀ (x1 : Int32) (x2 : Int32) (σ : Sg), rc2 x1 x2 σ = some (r, τ) → V G x σ [(0, .ref (zad G 63)), (1, .int x1), (2, .int x2)] 2 []) (rc15 : Int32 → Int32 → Int32 → Int32 → Sg → Option (Int32 × Sg)) (H15 : ∀ (x1 : Int32) (x2 : Int32) (x3 : Int32) (x4 : Int32) (σ : Sg), rc15 x1 x2 x3 x4 σ = some (r, τ) → V G x σ [(0, .ref (zad G 63)), (1, .int x1), (2, .int x2), (3, .int x3), (4, .int x4)] 15 []) (x1 : Int32) (x2 : Int32) (x3 : Int32) (x4 : Int32) (σ : Sg) (h : s_X1_explains_15b n rc2 rc15 x1 x2 x3 x4 σ = some (r, τ)) : V G x σ [(0, .ref (zad G 63)), (1, .int x1), (2, .int x2), (3, .int x3), (4, .int x4)] 15 [] := by
  unfold s_X1_explains_15b at h
  refine V_iload 15 4 O dX1_explains_15 rfl ?_
  refine V_aloadn 17 0 O dX1_explains_17 rfl rfl ?_
  refine V_getI 18 O k63 fl_X1_40 dX1_explains_18 ?_
  refine V_icmp_ge 21 70 O dX1_explains_21 rfl h (fun h => ?_) (fun h => ?_)
  · refine V_iloadn 70 3 O dX1_explains_70 rfl rfl ?_
    refine V_aloadn 71 0 O dX1_explains_71 rfl rfl ?_
    refine V_getR 72 O k63 fl_X1_15 rf63_5 dX1_explains_72 ?_
    refine V_iloadn 75 2 O dX1_explains_75 rfl rfl ?_
    refine V_iald 76 O k65 dX1_explains_76 h (fun h => ?_)
    refine V_icmp_eq 77 82 O dX1_explains_77 rfl h (fun h => ?_) (fun h => ?_)
    · refine V_iinc 82 2 [1, 2, 0, 3, 4] [(0, .ref (zad G 63)), (1, .int x1), (2, .int (x2 + (1 : Int32))), (3, .int x3), (4, .int x4)] O dX1_explains_82 rfl ci_1 (Nat.le_of_ble_eq_true rfl) rfl ?_
      refine V_goto 85 2 O dX1_explains_85 rfl ?_
      exact V_sub [0, 1, 2] rfl (H2 x1 (x2 + (1 : Int32)) σ  h)
    · refine V_iconst 80 O dX1_explains_80 ci_0 ?_
      exact V_zret0 81 O E dX1_explains_81 h
  · refine V_iloadn 24 1 O dX1_explains_24 rfl rfl ?_
    refine V_iload 25 4 O dX1_explains_25 rfl ?_
    refine V_ishr 27 O dX1_explains_27 ?_
    refine V_aloadn 28 0 O dX1_explains_28 rfl rfl ?_
    refine V_getR 29 O k63 fl_X1_9 rf63_4 dX1_explains_29 ?_
    refine V_iloadn 32 2 O dX1_explains_32 rfl rfl ?_
    refine V_iald 33 O k64 dX1_explains_33 h (fun h => ?_)
    refine V_aloadn 34 0 O dX1_explains_34 rfl rfl ?_
    refine V_getR 35 O k63 fl_X1_21 rf63_7 dX1_explains_35 ?_
    refine V_iload 38 4 O dX1_explains_38 rfl ?_
    refine V_iald 40 O k67 dX1_explains_40 h (fun h => ?_)
    refine V_ishr 41 O dX1_explains_41 ?_
    refine V_iand 42 O dX1_explains_42 ?_
    refine V_iconst 43 O dX1_explains_43 ci_1 ?_
    refine V_iand 44 O dX1_explains_44 ?_
    refine V_iconst 45 O dX1_explains_45 ci_1 ?_
    refine V_icmp_ne 46 64 O dX1_explains_46 rfl h (fun h => ?_) (fun h => ?_)
    · refine V_iinc 64 4 [1, 2, 3, 4, 0] [(0, .ref (zad G 63)), (1, .int x1), (2, .int x2), (3, .int x3), (4, .int (x4 + (1 : Int32)))] O dX1_explains_64 rfl ci_1 (Nat.le_of_ble_eq_true rfl) rfl ?_
      refine V_goto 67 15 O dX1_explains_67 rfl ?_
      exact V_sub [0, 1, 2, 3, 4] rfl (H15 x1 x2 x3 (x4 + (1 : Int32)) σ  h)
    · refine V_iloadn 49 3 O dX1_explains_49 rfl rfl ?_
      refine V_aloadn 50 0 O dX1_explains_50 rfl rfl ?_
      refine V_getR 51 O k63 fl_X1_18 rf63_6 dX1_explains_51 ?_
      refine V_aloadn 54 0 O dX1_explains_54 rfl rfl ?_
      refine V_getR 55 O k63 fl_X1_21 rf63_7 dX1_explains_55 ?_
      refine V_iload 58 4 O dX1_explains_58 rfl ?_
      refine V_iald 60 O k67 dX1_explains_60 h (fun h => ?_)
      refine V_iald 61 O k66 dX1_explains_61 h (fun h => ?_)
      refine V_iadd 62 O dX1_explains_62 ?_
      refine V_topi h (fun v1 h => ?_)
      refine V_istoren 63 [1, 2, 3, 0, 4] [(0, .ref (zad G 63)), (1, .int x1), (2, .int x2), (3, .int v1), (4, .int x4)] O dX1_explains_63 rfl (Nat.le_of_ble_eq_true rfl) rfl ?_
      refine V_iinc 64 4 [1, 2, 3, 4, 0] [(0, .ref (zad G 63)), (1, .int x1), (2, .int x2), (3, .int v1), (4, .int (x4 + (1 : Int32)))] O dX1_explains_64 rfl ci_1 (Nat.le_of_ble_eq_true rfl) rfl ?_
      refine V_goto 67 15 O dX1_explains_67 rfl ?_
      exact V_sub [0, 1, 2, 3, 4] rfl (H15 x1 x2 v1 (x4 + (1 : Int32)) σ  h)
theorem bl_X1_explains_15 {G : zG} {x : zX} {r : Int32} {τ : Sg} (O : zO G x cX1_explains RX1 0 0 5) (E : zE G x (some (.boolean)) (some (.int r)) τ) (n : Nat) (rc2 : Int32 → Int32 → Sg → Option (Int32 × Sg)) (H2 : ∀ (x1 : Int32) (x2 : Int32) (σ : Sg), rc2 x1 x2 σ = some (r, τ) → V G x σ [(0, .ref (zad G 63)), (1, .int x1), (2, .int x2)] 2 []) : ∀ (k : Nat) (x1 : Int32) (x2 : Int32) (x3 : Int32) (x4 : Int32) (σ : Sg), s_X1_explains_15 n rc2 k x1 x2 x3 x4 σ = some (r, τ) → V G x σ [(0, .ref (zad G 63)), (1, .int x1), (2, .int x2), (3, .int x3), (4, .int x4)] 15 [] := by
  intro k
  induction k with
  | zero => intro x1 x2 x3 x4 σ  h; cases h
  | succ k ih => intro x1 x2 x3 x4 σ  h; exact b_X1_explains_15 O E n rc2 H2 (s_X1_explains_15 n rc2 k) ih x1 x2 x3 x4 σ  h
set_option maxRecDepth 20000 in
theorem b_X1_explains_2 {G : zG} {x : zX} {r : Int32} {τ : Sg} (O : zO G x cX1_explains RX1 0 0 5) (E : zE G x (some (.boolean)) (some (.int r)) τ) (n : Nat) (rc2 : Int32 → Int32 → Sg → Option (Int32 × Sg)) (H2 : ∀ (x1 : Int32) (x2 : Int32) (σ : Sg), rc2 x1 x2 σ = some (r, τ) → V G x σ [(0, .ref (zad G 63)), (1, .int x1), (2, .int x2)] 2 []) (x1 : Int32) (x2 : Int32) (σ : Sg) (h : s_X1_explains_2b n rc2 x1 x2 σ = some (r, τ)) : V G x σ [(0, .ref (zad G 63)), (1, .int x1), (2, .int x2)] 2 [] := by
  unfold s_X1_explains_2b at h
  refine V_iloadn 2 2 O dX1_explains_2 rfl rfl ?_
  refine V_aloadn 3 0 O dX1_explains_3 rfl rfl ?_
  refine V_getI 4 O k63 fl_X1_24 dX1_explains_4 ?_
  refine V_icmp_ge 7 88 O dX1_explains_7 rfl h (fun h => ?_) (fun h => ?_)
  · refine V_iconst 88 O dX1_explains_88 ci_1 ?_
    exact V_zret1 89 O E dX1_explains_89 h
  · refine V_iconst 10 O dX1_explains_10 ci_0 ?_
    refine V_istoren 11 [1, 2, 3, 0] [(0, .ref (zad G 63)), (1, .int x1), (2, .int x2), (3, .int (0 : Int32))] O dX1_explains_11 rfl (Nat.le_of_ble_eq_true rfl) rfl ?_
    refine V_iconst 12 O dX1_explains_12 ci_0 ?_
    refine V_istore 13 [1, 2, 3, 4, 0] [(0, .ref (zad G 63)), (1, .int x1), (2, .int x2), (3, .int (0 : Int32)), (4, .int (0 : Int32))] O dX1_explains_13 (Nat.le_of_ble_eq_true rfl) rfl ?_
    exact V_sub [0, 1, 2, 3, 4] rfl (bl_X1_explains_15 O E n rc2 H2 n x1 x2 (0 : Int32) (0 : Int32) σ  h)
theorem bl_X1_explains_2 {G : zG} {x : zX} {r : Int32} {τ : Sg} (O : zO G x cX1_explains RX1 0 0 5) (E : zE G x (some (.boolean)) (some (.int r)) τ) (n : Nat) : ∀ (k : Nat) (x1 : Int32) (x2 : Int32) (σ : Sg), s_X1_explains_2 n k x1 x2 σ = some (r, τ) → V G x σ [(0, .ref (zad G 63)), (1, .int x1), (2, .int x2)] 2 [] := by
  intro k
  induction k with
  | zero => intro x1 x2 σ  h; cases h
  | succ k ih => intro x1 x2 σ  h; exact b_X1_explains_2 O E n  (s_X1_explains_2 n  k) ih x1 x2 σ  h
set_option maxRecDepth 20000 in
theorem C_X1_explains {l : Launch} {G : zG} {n : Nat} {x1 : Int32} {σ : Sg} {r : Int32} {τ : Sg} (h : s_X1_explains n x1 σ = some (r, τ)) : zM l G 0 yX1_explains (.code yX1_explains cX1_explains 5 (some (.boolean))) [.ref (zad G 63), .int x1] σ (some (.int r)) τ := by
  refine zM_of (by decide) (Nat.le_of_ble_eq_true rfl) (fun x O E => ?_)
  have O : zO G x cX1_explains RX1 0 0 5 := O
  unfold s_X1_explains at h
  show V G x σ [(0, .ref (zad G 63)), (1, .int x1)] 0 []
  refine V_iconst 0 O dX1_explains_0 ci_0 ?_
  refine V_istoren 1 [1, 2, 0] [(0, .ref (zad G 63)), (1, .int x1), (2, .int (0 : Int32))] O dX1_explains_1 rfl (Nat.le_of_ble_eq_true rfl) rfl ?_
  exact V_sub [0, 1, 2] rfl (bl_X1_explains_2 O E n  n x1 (0 : Int32) σ  h)
-- ==== java/lang/Integer.bitCount(I)I
def s_J6_bitCount_0f7a4 (n : Nat) (x0 : Int32) (σ : Sg) : Option (Int32 × Sg) := lt (x0 - ((ush x0 (1 : Int32)) &&& (1431655765 : Int32))) fun v1 => lt ((v1 &&& (858993459 : Int32)) + ((ush v1 (2 : Int32)) &&& (858993459 : Int32))) fun v2 => lt ((v2 + (ush v2 (4 : Int32))) &&& (252645135 : Int32)) fun v3 => lt (v3 + (ush v3 (8 : Int32))) fun v4 => lt (v4 + (ush v4 (16 : Int32))) fun v5 => some (v5 &&& (63 : Int32), σ)
set_option maxRecDepth 20000 in
theorem C_J6_bitCount_0f7a4 {l : Launch} {G : zG} {n : Nat} {x0 : Int32} {σ : Sg} {r : Int32} {τ : Sg} (h : s_J6_bitCount_0f7a4 n x0 σ = some (r, τ)) : zM l G 0 yJ6_bitCount_0f7a4 (.code yJ6_bitCount_0f7a4 cJ6_bitCount_0f7a4 1 (some (.int))) [.int x0] σ (some (.int r)) τ := by
  refine zM_of (by decide) (Nat.le_of_ble_eq_true rfl) (fun x O E => ?_)
  have O : zO G x cJ6_bitCount_0f7a4 RJ6 0 0 1 := O
  unfold s_J6_bitCount_0f7a4 at h
  show V G x σ [(0, .int x0)] 0 []
  refine V_iloadn 0 0 O dJ6_bitCount_0f7a4_0 rfl rfl ?_
  refine V_iloadn 1 0 O dJ6_bitCount_0f7a4_1 rfl rfl ?_
  refine V_iconst 2 O dJ6_bitCount_0f7a4_2 ci_1 ?_
  refine V_iushr 3 O dJ6_bitCount_0f7a4_3 ?_
  refine V_ldcw 4 O dJ6_bitCount_0f7a4_4 kc_J6_265 ?_
  refine V_iand 7 O dJ6_bitCount_0f7a4_7 ?_
  refine V_isub 8 O dJ6_bitCount_0f7a4_8 ?_
  refine V_topi h (fun v1 h => ?_)
  refine V_istoren 9 [0] [(0, .int v1)] O dJ6_bitCount_0f7a4_9 rfl (Nat.le_of_ble_eq_true rfl) rfl ?_
  refine V_iloadn 10 0 O dJ6_bitCount_0f7a4_10 rfl rfl ?_
  refine V_ldcw 11 O dJ6_bitCount_0f7a4_11 kc_J6_266 ?_
  refine V_iand 14 O dJ6_bitCount_0f7a4_14 ?_
  refine V_iloadn 15 0 O dJ6_bitCount_0f7a4_15 rfl rfl ?_
  refine V_iconst 16 O dJ6_bitCount_0f7a4_16 ci_2 ?_
  refine V_iushr 17 O dJ6_bitCount_0f7a4_17 ?_
  refine V_ldcw 18 O dJ6_bitCount_0f7a4_18 kc_J6_266 ?_
  refine V_iand 21 O dJ6_bitCount_0f7a4_21 ?_
  refine V_iadd 22 O dJ6_bitCount_0f7a4_22 ?_
  refine V_topi h (fun v2 h => ?_)
  refine V_istoren 23 [0] [(0, .int v2)] O dJ6_bitCount_0f7a4_23 rfl (Nat.le_of_ble_eq_true rfl) rfl ?_
  refine V_iloadn 24 0 O dJ6_bitCount_0f7a4_24 rfl rfl ?_
  refine V_iloadn 25 0 O dJ6_bitCount_0f7a4_25 rfl rfl ?_
  refine V_iconst 26 O dJ6_bitCount_0f7a4_26 ci_4 ?_
  refine V_iushr 27 O dJ6_bitCount_0f7a4_27 ?_
  refine V_iadd 28 O dJ6_bitCount_0f7a4_28 ?_
  refine V_ldcw 29 O dJ6_bitCount_0f7a4_29 kc_J6_267 ?_
  refine V_iand 32 O dJ6_bitCount_0f7a4_32 ?_
  refine V_topi h (fun v3 h => ?_)
  refine V_istoren 33 [0] [(0, .int v3)] O dJ6_bitCount_0f7a4_33 rfl (Nat.le_of_ble_eq_true rfl) rfl ?_
  refine V_iloadn 34 0 O dJ6_bitCount_0f7a4_34 rfl rfl ?_
  refine V_iloadn 35 0 O dJ6_bitCount_0f7a4_35 rfl rfl ?_
  refine V_bipush 36 O dJ6_bitCount_0f7a4_36 cb_8 ?_
  refine V_iushr 38 O dJ6_bitCount_0f7a4_38 ?_
  refine V_iadd 39 O dJ6_bitCount_0f7a4_39 ?_
  refine V_topi h (fun v4 h => ?_)
  refine V_istoren 40 [0] [(0, .int v4)] O dJ6_bitCount_0f7a4_40 rfl (Nat.le_of_ble_eq_true rfl) rfl ?_
  refine V_iloadn 41 0 O dJ6_bitCount_0f7a4_41 rfl rfl ?_
  refine V_iloadn 42 0 O dJ6_bitCount_0f7a4_42 rfl rfl ?_
  refine V_bipush 43 O dJ6_bitCount_0f7a4_43 cb_16 ?_
  refine V_iushr 45 O dJ6_bitCount_0f7a4_45 ?_
  refine V_iadd 46 O dJ6_bitCount_0f7a4_46 ?_
  refine V_topi h (fun v5 h => ?_)
  refine V_istoren 47 [0] [(0, .int v5)] O dJ6_bitCount_0f7a4_47 rfl (Nat.le_of_ble_eq_true rfl) rfl ?_
  refine V_iloadn 48 0 O dJ6_bitCount_0f7a4_48 rfl rfl ?_
  refine V_bipush 49 O dJ6_bitCount_0f7a4_49 cb_63 ?_
  refine V_iand 51 O dJ6_bitCount_0f7a4_51 ?_
  exact V_iret 52 O E dJ6_bitCount_0f7a4_52 h
-- ==== Gauges.asSet(I)I
def s_X1_asSet_4b (n : Nat) (rc4 : Int32 → Int32 → Int32 → Sg → Option (Int32 × Sg)) (x1 : Int32) (x2 : Int32) (x3 : Int32) (σ : Sg) : Option (Int32 × Sg) := if (σ 63 8) ≤ x3 then (some (x2, σ)) else (if ((sr x1 x3) &&& (1 : Int32)) = (1 : Int32) then (ck x3 12 (lt (x2 ||| (sl (1 : Int32) (σ 67 (ix x3)))) fun v1 => rc4 x1 v1 (x3 + (1 : Int32)) σ)) else (rc4 x1 x2 (x3 + (1 : Int32)) σ))
def s_X1_asSet_4 (n : Nat) : Nat → Int32 → Int32 → Int32 → Sg → Option (Int32 × Sg)
  | 0 => fun _ _ _ _ => none
  | k + 1 => s_X1_asSet_4b n (s_X1_asSet_4 n k)
def s_X1_asSet (n : Nat) (x1 : Int32) (σ : Sg) : Option (Int32 × Sg) := s_X1_asSet_4 n n x1 (0 : Int32) (0 : Int32) σ
set_option maxRecDepth 20000 in
theorem b_X1_asSet_4 {G : zG} {x : zX} {r : Int32} {τ : Sg} (O : zO G x cX1_asSet RX1 0 0 4) (E : zE G x (some (.int)) (some (.int r)) τ) (n : Nat) (rc4 : Int32 → Int32 → Int32 → Sg → Option (Int32 × Sg)) (H4 : ∀ (x1 : Int32) (x2 : Int32) (x3 : Int32) (σ : Sg), rc4 x1 x2 x3 σ = some (r, τ) → V G x σ [(0, .ref (zad G 63)), (1, .int x1), (2, .int x2), (3, .int x3)] 4 []) (x1 : Int32) (x2 : Int32) (x3 : Int32) (σ : Sg) (h : s_X1_asSet_4b n rc4 x1 x2 x3 σ = some (r, τ)) : V G x σ [(0, .ref (zad G 63)), (1, .int x1), (2, .int x2), (3, .int x3)] 4 [] := by
  unfold s_X1_asSet_4b at h
  refine V_iloadn 4 3 O dX1_asSet_4 rfl rfl ?_
  refine V_aloadn 5 0 O dX1_asSet_5 rfl rfl ?_
  refine V_getI 6 O k63 fl_X1_40 dX1_asSet_6 ?_
  refine V_icmp_ge 9 38 O dX1_asSet_9 rfl h (fun h => ?_) (fun h => ?_)
  · refine V_iloadn 38 2 O dX1_asSet_38 rfl rfl ?_
    exact V_iret 39 O E dX1_asSet_39 h
  · refine V_iloadn 12 1 O dX1_asSet_12 rfl rfl ?_
    refine V_iloadn 13 3 O dX1_asSet_13 rfl rfl ?_
    refine V_ishr 14 O dX1_asSet_14 ?_
    refine V_iconst 15 O dX1_asSet_15 ci_1 ?_
    refine V_iand 16 O dX1_asSet_16 ?_
    refine V_iconst 17 O dX1_asSet_17 ci_1 ?_
    refine V_icmp_ne 18 32 O dX1_asSet_18 rfl h (fun h => ?_) (fun h => ?_)
    · refine V_iinc 32 3 [1, 2, 3, 0] [(0, .ref (zad G 63)), (1, .int x1), (2, .int x2), (3, .int (x3 + (1 : Int32)))] O dX1_asSet_32 rfl ci_1 (Nat.le_of_ble_eq_true rfl) rfl ?_
      refine V_goto 35 4 O dX1_asSet_35 rfl ?_
      exact V_sub [0, 1, 2, 3] rfl (H4 x1 x2 (x3 + (1 : Int32)) σ  h)
    · refine V_iloadn 21 2 O dX1_asSet_21 rfl rfl ?_
      refine V_iconst 22 O dX1_asSet_22 ci_1 ?_
      refine V_aloadn 23 0 O dX1_asSet_23 rfl rfl ?_
      refine V_getR 24 O k63 fl_X1_21 rf63_7 dX1_asSet_24 ?_
      refine V_iloadn 27 3 O dX1_asSet_27 rfl rfl ?_
      refine V_iald 28 O k67 dX1_asSet_28 h (fun h => ?_)
      refine V_ishl 29 O dX1_asSet_29 ?_
      refine V_ior 30 O dX1_asSet_30 ?_
      refine V_topi h (fun v1 h => ?_)
      refine V_istoren 31 [1, 2, 0, 3] [(0, .ref (zad G 63)), (1, .int x1), (2, .int v1), (3, .int x3)] O dX1_asSet_31 rfl (Nat.le_of_ble_eq_true rfl) rfl ?_
      refine V_iinc 32 3 [1, 2, 3, 0] [(0, .ref (zad G 63)), (1, .int x1), (2, .int v1), (3, .int (x3 + (1 : Int32)))] O dX1_asSet_32 rfl ci_1 (Nat.le_of_ble_eq_true rfl) rfl ?_
      refine V_goto 35 4 O dX1_asSet_35 rfl ?_
      exact V_sub [0, 1, 2, 3] rfl (H4 x1 v1 (x3 + (1 : Int32)) σ  h)
theorem bl_X1_asSet_4 {G : zG} {x : zX} {r : Int32} {τ : Sg} (O : zO G x cX1_asSet RX1 0 0 4) (E : zE G x (some (.int)) (some (.int r)) τ) (n : Nat) : ∀ (k : Nat) (x1 : Int32) (x2 : Int32) (x3 : Int32) (σ : Sg), s_X1_asSet_4 n k x1 x2 x3 σ = some (r, τ) → V G x σ [(0, .ref (zad G 63)), (1, .int x1), (2, .int x2), (3, .int x3)] 4 [] := by
  intro k
  induction k with
  | zero => intro x1 x2 x3 σ  h; cases h
  | succ k ih => intro x1 x2 x3 σ  h; exact b_X1_asSet_4 O E n  (s_X1_asSet_4 n  k) ih x1 x2 x3 σ  h
set_option maxRecDepth 20000 in
theorem C_X1_asSet {l : Launch} {G : zG} {n : Nat} {x1 : Int32} {σ : Sg} {r : Int32} {τ : Sg} (h : s_X1_asSet n x1 σ = some (r, τ)) : zM l G 0 yX1_asSet (.code yX1_asSet cX1_asSet 4 (some (.int))) [.ref (zad G 63), .int x1] σ (some (.int r)) τ := by
  refine zM_of (by decide) (Nat.le_of_ble_eq_true rfl) (fun x O E => ?_)
  have O : zO G x cX1_asSet RX1 0 0 4 := O
  unfold s_X1_asSet at h
  show V G x σ [(0, .ref (zad G 63)), (1, .int x1)] 0 []
  refine V_iconst 0 O dX1_asSet_0 ci_0 ?_
  refine V_istoren 1 [1, 2, 0] [(0, .ref (zad G 63)), (1, .int x1), (2, .int (0 : Int32))] O dX1_asSet_1 rfl (Nat.le_of_ble_eq_true rfl) rfl ?_
  refine V_iconst 2 O dX1_asSet_2 ci_0 ?_
  refine V_istoren 3 [1, 2, 3, 0] [(0, .ref (zad G 63)), (1, .int x1), (2, .int (0 : Int32)), (3, .int (0 : Int32))] O dX1_asSet_3 rfl (Nat.le_of_ble_eq_true rfl) rfl ?_
  exact V_sub [0, 1, 2, 3] rfl (bl_X1_asSet_4 O E n  n x1 (0 : Int32) (0 : Int32) σ  h)
-- ==== Gauges.search()V
def s_X1_search_64 (n : Nat) (rc18 : Int32 → Int32 → Sg → Option Sg) (x2 : Int32) (x3 : Int32) (σ : Sg) : Option Sg := bd (s_X1_asSet n x2 σ) fun r10 σ9 => lt (up2 σ9 63 2 r10) fun σ11 => rc18 x3 (x2 + (1 : Int32)) σ11
def s_X1_search_18b (n : Nat) (rc18 : Int32 → Int32 → Sg → Option Sg) (x1 : Int32) (x2 : Int32) (σ : Sg) : Option Sg := if (sl (1 : Int32) (σ 63 8)) ≤ x2 then (some σ) else (bd (s_X1_explains n x2 σ) fun r5 σ4 => if r5 = 0 then (rc18 x1 (x2 + (1 : Int32)) σ4) else (lt (up2 σ4 63 3 ((σ4 63 3) + (1 : Int32))) fun σ6 => bd (s_J6_bitCount_0f7a4 n x2 σ6) fun r8 σ7 => if (σ7 63 2) = (-1 : Int32) then (s_X1_search_64 n rc18 x2 r8 σ7) else (if x1 ≤ r8 then (rc18 x1 (x2 + (1 : Int32)) σ7) else (s_X1_search_64 n rc18 x2 r8 σ7))))
def s_X1_search_18 (n : Nat) : Nat → Int32 → Int32 → Sg → Option Sg
  | 0 => fun _ _ _ => none
  | k + 1 => s_X1_search_18b n (s_X1_search_18 n k)
def s_X1_search (n : Nat) (σ : Sg) : Option Sg := bdv (s_X1_listSuspects n σ) fun σ1 => lt (up2 σ1 63 2 (-1 : Int32)) fun σ2 => lt (up2 σ2 63 3 (0 : Int32)) fun σ3 => s_X1_search_18 n n (0 : Int32) (0 : Int32) σ3
set_option maxRecDepth 20000 in
theorem b_X1_search_64 {G : zG} {x : zX} {τ : Sg} (O : zO G x cX1_search RX1 1 40 4) (E : zE G x none none τ) (n : Nat) (rc18 : Int32 → Int32 → Sg → Option Sg) (H18 : ∀ (x1 : Int32) (x2 : Int32) (σ : Sg), rc18 x1 x2 σ = some τ → V G x σ [(0, .ref (zad G 63)), (1, .int x1), (2, .int x2)] 18 []) (x2 : Int32) (x3 : Int32) (σ : Sg) (h : s_X1_search_64 n rc18 x2 x3 σ = some τ) : V G x σ [(0, .ref (zad G 63)), (2, .int x2), (3, .int x3)] 64 [] := by
  unfold s_X1_search_64 at h
  refine V_iloadn 64 2 O dX1_search_64 rfl rfl ?_
  refine V_istoren 65 [1, 0, 2, 3] [(0, .ref (zad G 63)), (1, .int x3), (2, .int x2), (3, .int x3)] O dX1_search_65 rfl (Nat.le_of_ble_eq_true rfl) rfl ?_
  refine V_aloadn 66 0 O dX1_search_66 rfl rfl ?_
  refine V_aloadn 67 0 O dX1_search_67 rfl rfl ?_
  refine V_iloadn 68 2 O dX1_search_68 rfl rfl ?_
  obtain ⟨r10, σ9, g, h⟩ := bd_of h
  refine V_callVi 69 [.int x2] [.ref (zad G 63)] O mf_X1_asSet lk_X1_53 k63 dX1_search_69 rfl rfl (Nat.le_of_ble_eq_true rfl) ⟨(Nat.le_of_ble_eq_true rfl), (Nat.le_of_ble_eq_true rfl)⟩ (fun l => C_X1_asSet  g) ?_
  refine V_put 72 O k63 fp_X1_34 dX1_search_72 h (fun σ11 h => ?_)
  refine V_iinc 75 2 [1, 2, 0, 3] [(0, .ref (zad G 63)), (1, .int x3), (2, .int (x2 + (1 : Int32))), (3, .int x3)] O dX1_search_75 rfl ci_1 (Nat.le_of_ble_eq_true rfl) rfl ?_
  refine V_goto 78 18 O dX1_search_78 rfl ?_
  exact V_sub [0, 1, 2] rfl (H18 x3 (x2 + (1 : Int32)) σ11  h)
set_option maxRecDepth 20000 in
theorem b_X1_search_18 {G : zG} {x : zX} {τ : Sg} (O : zO G x cX1_search RX1 1 40 4) (E : zE G x none none τ) (n : Nat) (rc18 : Int32 → Int32 → Sg → Option Sg) (H18 : ∀ (x1 : Int32) (x2 : Int32) (σ : Sg), rc18 x1 x2 σ = some τ → V G x σ [(0, .ref (zad G 63)), (1, .int x1), (2, .int x2)] 18 []) (x1 : Int32) (x2 : Int32) (σ : Sg) (h : s_X1_search_18b n rc18 x1 x2 σ = some τ) : V G x σ [(0, .ref (zad G 63)), (1, .int x1), (2, .int x2)] 18 [] := by
  unfold s_X1_search_18b at h
  refine V_iloadn 18 2 O dX1_search_18 rfl rfl ?_
  refine V_iconst 19 O dX1_search_19 ci_1 ?_
  refine V_aloadn 20 0 O dX1_search_20 rfl rfl ?_
  refine V_getI 21 O k63 fl_X1_40 dX1_search_21 ?_
  refine V_ishl 24 O dX1_search_24 ?_
  refine V_icmp_ge 25 81 O dX1_search_25 rfl h (fun h => ?_) (fun h => ?_)
  · exact V_vret 81 O E dX1_search_81 h
  · refine V_aloadn 28 0 O dX1_search_28 rfl rfl ?_
    refine V_iloadn 29 2 O dX1_search_29 rfl rfl ?_
    obtain ⟨r5, σ4, g, h⟩ := bd_of h
    refine V_callVi 30 [.int x2] [] O mf_X1_explains lk_X1_43 k63 dX1_search_30 rfl rfl (Nat.le_of_ble_eq_true rfl) ⟨(Nat.le_of_ble_eq_true rfl), (Nat.le_of_ble_eq_true rfl)⟩ (fun l => C_X1_explains  g) ?_
    refine V_if_eq 33 75 O dX1_search_33 rfl h (fun h => ?_) (fun h => ?_)
    · refine V_iinc 75 2 [1, 2, 0] [(0, .ref (zad G 63)), (1, .int x1), (2, .int (x2 + (1 : Int32)))] O dX1_search_75 rfl ci_1 (Nat.le_of_ble_eq_true rfl) rfl ?_
      refine V_goto 78 18 O dX1_search_78 rfl ?_
      exact V_sub [0, 1, 2] rfl (H18 x1 (x2 + (1 : Int32)) σ4  h)
    · refine V_aloadn 36 0 O dX1_search_36 rfl rfl ?_
      refine V_dup 37 O dX1_search_37 rfl ?_
      refine V_getI 38 O k63 fl_X1_37 dX1_search_38 ?_
      refine V_iconst 41 O dX1_search_41 ci_1 ?_
      refine V_iadd 42 O dX1_search_42 ?_
      refine V_put 43 O k63 fp_X1_37 dX1_search_43 h (fun σ6 h => ?_)
      refine V_iloadn 46 2 O dX1_search_46 rfl rfl ?_
      obtain ⟨r8, σ7, g, h⟩ := bd_of h
      refine V_callSi 47 [.int x2] [] O mf_J6_bitCount_0f7a4 lk_X1_47 dX1_search_47 rfl rfl (Nat.le_of_ble_eq_true rfl) ⟨(Nat.le_of_ble_eq_true rfl), (Nat.le_of_ble_eq_true rfl)⟩ (fun l => C_J6_bitCount_0f7a4  g) ?_
      refine V_istoren 50 [1, 2, 3, 0] [(0, .ref (zad G 63)), (1, .int x1), (2, .int x2), (3, .int r8)] O dX1_search_50 rfl (Nat.le_of_ble_eq_true rfl) rfl ?_
      refine V_aloadn 51 0 O dX1_search_51 rfl rfl ?_
      refine V_getI 52 O k63 fl_X1_34 dX1_search_52 ?_
      refine V_iconst 55 O dX1_search_55 ci_m1 ?_
      refine V_icmp_eq 56 64 O dX1_search_56 rfl h (fun h => ?_) (fun h => ?_)
      · exact V_sub [0, 2, 3] rfl (b_X1_search_64 O E n rc18 H18 x2 r8 σ7  h)
      · refine V_iloadn 59 3 O dX1_search_59 rfl rfl ?_
        refine V_iloadn 60 1 O dX1_search_60 rfl rfl ?_
        refine V_icmp_ge 61 75 O dX1_search_61 rfl h (fun h => ?_) (fun h => ?_)
        · refine V_iinc 75 2 [1, 2, 0, 3] [(0, .ref (zad G 63)), (1, .int x1), (2, .int (x2 + (1 : Int32))), (3, .int r8)] O dX1_search_75 rfl ci_1 (Nat.le_of_ble_eq_true rfl) rfl ?_
          refine V_goto 78 18 O dX1_search_78 rfl ?_
          exact V_sub [0, 1, 2] rfl (H18 x1 (x2 + (1 : Int32)) σ7  h)
        · exact V_sub [0, 2, 3] rfl (b_X1_search_64 O E n rc18 H18 x2 r8 σ7  h)
theorem bl_X1_search_18 {G : zG} {x : zX} {τ : Sg} (O : zO G x cX1_search RX1 1 40 4) (E : zE G x none none τ) (n : Nat) : ∀ (k : Nat) (x1 : Int32) (x2 : Int32) (σ : Sg), s_X1_search_18 n k x1 x2 σ = some τ → V G x σ [(0, .ref (zad G 63)), (1, .int x1), (2, .int x2)] 18 [] := by
  intro k
  induction k with
  | zero => intro x1 x2 σ  h; cases h
  | succ k ih => intro x1 x2 σ  h; exact b_X1_search_18 O E n  (s_X1_search_18 n  k) ih x1 x2 σ  h
set_option maxRecDepth 20000 in
theorem C_X1_search {l : Launch} {G : zG} {n : Nat} {σ : Sg} {τ : Sg} (h : s_X1_search n σ = some τ) : zM l G 1 yX1_search (.code yX1_search cX1_search 4 none) [.ref (zad G 63)] σ none τ := by
  refine zM_of (by decide) (Nat.le_of_ble_eq_true rfl) (fun x O E => ?_)
  have O : zO G x cX1_search RX1 1 40 4 := O
  unfold s_X1_search at h
  show V G x σ [(0, .ref (zad G 63))] 0 []
  refine V_aloadn 0 0 O dX1_search_0 rfl rfl ?_
  obtain ⟨σ1, g, h⟩ := bdv_of h
  refine V_callVv 1 [] [] O mf_X1_listSuspects lk_X1_31 k63 dX1_search_1 rfl rfl (Nat.le_of_ble_eq_true rfl) ⟨(Nat.le_of_ble_eq_true rfl), (Nat.le_of_ble_eq_true rfl)⟩ (fun l => C_X1_listSuspects  g) ?_
  refine V_aloadn 4 0 O dX1_search_4 rfl rfl ?_
  refine V_iconst 5 O dX1_search_5 ci_m1 ?_
  refine V_put 6 O k63 fp_X1_34 dX1_search_6 h (fun σ2 h => ?_)
  refine V_aloadn 9 0 O dX1_search_9 rfl rfl ?_
  refine V_iconst 10 O dX1_search_10 ci_0 ?_
  refine V_put 11 O k63 fp_X1_37 dX1_search_11 h (fun σ3 h => ?_)
  refine V_iconst 14 O dX1_search_14 ci_0 ?_
  refine V_istoren 15 [1, 0] [(0, .ref (zad G 63)), (1, .int (0 : Int32))] O dX1_search_15 rfl (Nat.le_of_ble_eq_true rfl) rfl ?_
  refine V_iconst 16 O dX1_search_16 ci_0 ?_
  refine V_istoren 17 [1, 2, 0] [(0, .ref (zad G 63)), (1, .int (0 : Int32)), (2, .int (0 : Int32))] O dX1_search_17 rfl (Nat.le_of_ble_eq_true rfl) rfl ?_
  exact V_sub [0, 1, 2] rfl (bl_X1_search_18 O E n  n (0 : Int32) (0 : Int32) σ3  h)
-- ==== Law.forgetKeys()V
def s_X2_forgetKeys (n : Nat) (x0 : Nat) (σ : Sg) : Option Sg := lt (up2 σ x0 6 (0 : Int32)) fun σ1 => lt (up2 σ1 x0 7 (0 : Int32)) fun σ2 => some σ2
set_option maxRecDepth 20000 in
theorem C_X2_forgetKeys {l : Launch} {G : zG} {n : Nat} {x0 : Nat} {σ : Sg} {τ : Sg} (hx0 : zLaw x0) (h : s_X2_forgetKeys n x0 σ = some τ) : zM l G 0 yX2_forgetKeys (.code yX2_forgetKeys cX2_forgetKeys 1 none) [.ref (zad G x0)] σ none τ := by
  refine zM_of (by decide) (Nat.le_of_ble_eq_true rfl) (fun x O E => ?_)
  have O : zO G x cX2_forgetKeys RX2 0 0 1 := O
  unfold s_X2_forgetKeys at h
  show V G x σ [(0, .ref (zad G x0))] 0 []
  refine V_aloadn 0 0 O dX2_forgetKeys_0 rfl rfl ?_
  refine V_iconst 1 O dX2_forgetKeys_1 ci_0 ?_
  refine V_put 2 O (zLaw_k hx0) fp_X2_37 dX2_forgetKeys_2 h (fun σ1 h => ?_)
  refine V_aloadn 5 0 O dX2_forgetKeys_5 rfl rfl ?_
  refine V_iconst 6 O dX2_forgetKeys_6 ci_0 ?_
  refine V_put 7 O (zLaw_k hx0) fp_X2_40 dX2_forgetKeys_7 h (fun σ2 h => ?_)
  exact V_vret 10 O E dX2_forgetKeys_10 h
-- ==== Law.sayNothing()V
def s_X2_sayNothing (n : Nat) (x0 : Nat) (σ : Sg) : Option Sg := lt (up2 σ x0 2 (-1 : Int32)) fun σ1 => lt (up2 σ1 x0 3 (-1 : Int32)) fun σ2 => lt (up2 σ2 x0 4 (-1 : Int32)) fun σ3 => lt (up2 σ3 x0 5 (-1 : Int32)) fun σ4 => bdv (s_X2_forgetKeys n x0 σ4) fun σ5 => lt (up2 σ5 x0 8 (0 : Int32)) fun σ6 => some σ6
set_option maxRecDepth 20000 in
theorem C_X2_sayNothing {l : Launch} {G : zG} {n : Nat} {x0 : Nat} {σ : Sg} {τ : Sg} (hx0 : zLaw x0) (h : s_X2_sayNothing n x0 σ = some τ) : zM l G 1 yX2_sayNothing (.code yX2_sayNothing cX2_sayNothing 1 none) [.ref (zad G x0)] σ none τ := by
  refine zM_of (by decide) (Nat.le_of_ble_eq_true rfl) (fun x O E => ?_)
  have O : zO G x cX2_sayNothing RX2 1 40 1 := O
  unfold s_X2_sayNothing at h
  show V G x σ [(0, .ref (zad G x0))] 0 []
  refine V_aloadn 0 0 O dX2_sayNothing_0 rfl rfl ?_
  refine V_iconst 1 O dX2_sayNothing_1 ci_m1 ?_
  refine V_put 2 O (zLaw_k hx0) fp_X2_15 dX2_sayNothing_2 h (fun σ1 h => ?_)
  refine V_aloadn 5 0 O dX2_sayNothing_5 rfl rfl ?_
  refine V_iconst 6 O dX2_sayNothing_6 ci_m1 ?_
  refine V_put 7 O (zLaw_k hx0) fp_X2_18 dX2_sayNothing_7 h (fun σ2 h => ?_)
  refine V_aloadn 10 0 O dX2_sayNothing_10 rfl rfl ?_
  refine V_iconst 11 O dX2_sayNothing_11 ci_m1 ?_
  refine V_put 12 O (zLaw_k hx0) fp_X2_21 dX2_sayNothing_12 h (fun σ3 h => ?_)
  refine V_aloadn 15 0 O dX2_sayNothing_15 rfl rfl ?_
  refine V_iconst 16 O dX2_sayNothing_16 ci_m1 ?_
  refine V_put 17 O (zLaw_k hx0) fp_X2_24 dX2_sayNothing_17 h (fun σ4 h => ?_)
  refine V_aloadn 20 0 O dX2_sayNothing_20 rfl rfl ?_
  obtain ⟨σ5, g, h⟩ := bdv_of h
  refine V_callVv 21 [] [] O mf_X2_forgetKeys lk_X2_27 (zLaw_k hx0) dX2_sayNothing_21 rfl rfl (Nat.le_of_ble_eq_true rfl) ⟨(Nat.le_of_ble_eq_true rfl), (Nat.le_of_ble_eq_true rfl)⟩ (fun l => C_X2_forgetKeys hx0 g) ?_
  refine V_aloadn 24 0 O dX2_sayNothing_24 rfl rfl ?_
  refine V_iconst 25 O dX2_sayNothing_25 ci_0 ?_
  refine V_put 26 O (zLaw_k hx0) fp_X2_30 dX2_sayNothing_26 h (fun σ6 h => ?_)
  exact V_vret 29 O E dX2_sayNothing_29 h
