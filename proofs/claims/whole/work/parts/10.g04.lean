-- ==== Trial.dryOfDay(IZII)I
def s_X10_dryOfDay_6b (n : Nat) (rc6 : Int32 → Int32 → Int32 → Int32 → Int32 → Int32 → Sg → Option (Int32 × Sg)) (x1 : Int32) (x2 : Int32) (x3 : Int32) (x4 : Int32) (x5 : Int32) (x6 : Int32) (σ : Sg) : Option (Int32 × Sg) := if x1 ≤ x6 then (some (x5, σ)) else (bdv (s_X9_ask n 56 62 x6 σ) fun σ1 => bdv (s_X9_begin n x6 x3 x4 σ1) fun σ2 => bdv (s_X9_serve n σ2) fun σ3 => bdv (s_X9_settle n 56 σ3) fun σ4 => bd (s_X9_someDry n 56 x2 σ4) fun r6 σ5 => if r6 = 0 then (rc6 x1 x2 x3 x4 x5 (x6 + (1 : Int32)) σ5) else (rc6 x1 x2 x3 x4 (x5 + (1 : Int32)) (x6 + (1 : Int32)) σ5))
def s_X10_dryOfDay_6 (n : Nat) : Nat → Int32 → Int32 → Int32 → Int32 → Int32 → Int32 → Sg → Option (Int32 × Sg)
  | 0 => fun _ _ _ _ _ _ _ => none
  | k + 1 => s_X10_dryOfDay_6b n (s_X10_dryOfDay_6 n k)
def s_X10_dryOfDay (n : Nat) (x1 : Int32) (x2 : Int32) (x3 : Int32) (x4 : Int32) (σ : Sg) : Option (Int32 × Sg) := s_X10_dryOfDay_6 n n x1 x2 x3 x4 (0 : Int32) (0 : Int32) σ
set_option maxRecDepth 20000 in
theorem b_X10_dryOfDay_6 {G : zG} {x : zX} {r : Int32} {τ : Sg} (O : zO G x cX10_dryOfDay RX10 4 160 7) (E : zE G x (some (.int)) (some (.int r)) τ) (n : Nat) (rc6 : Int32 → Int32 → Int32 → Int32 → Int32 → Int32 → Sg → Option (Int32 × Sg)) (H6 : ∀ (x1 : Int32) (x2 : Int32) (x3 : Int32) (x4 : Int32) (x5 : Int32) (x6 : Int32) (σ : Sg), rc6 x1 x2 x3 x4 x5 x6 σ = some (r, τ) → V G x σ [(0, .ref (zad G 51)), (1, .int x1), (2, .int x2), (3, .int x3), (4, .int x4), (5, .int x5), (6, .int x6)] 6 []) (x1 : Int32) (x2 : Int32) (x3 : Int32) (x4 : Int32) (x5 : Int32) (x6 : Int32) (σ : Sg) (h : s_X10_dryOfDay_6b n rc6 x1 x2 x3 x4 x5 x6 σ = some (r, τ)) : V G x σ [(0, .ref (zad G 51)), (1, .int x1), (2, .int x2), (3, .int x3), (4, .int x4), (5, .int x5), (6, .int x6)] 6 [] := by
  unfold s_X10_dryOfDay_6b at h
  refine V_iload 6 6 O dX10_dryOfDay_6 rfl ?_
  refine V_iloadn 8 1 O dX10_dryOfDay_8 rfl rfl ?_
  refine V_icmp_ge 9 83 O dX10_dryOfDay_9 rfl h (fun h => ?_) (fun h => ?_)
  · refine V_iload 83 5 O dX10_dryOfDay_83 rfl ?_
    exact V_iret 85 O E dX10_dryOfDay_85 h
  · refine V_aloadn 12 0 O dX10_dryOfDay_12 rfl rfl ?_
    refine V_getR 13 O k51 fl_X10_48 rf51_0 dX10_dryOfDay_13 ?_
    refine V_aloadn 16 0 O dX10_dryOfDay_16 rfl rfl ?_
    refine V_getR 17 O k51 fl_X10_12 rf51_3 dX10_dryOfDay_17 ?_
    refine V_aloadn 20 0 O dX10_dryOfDay_20 rfl rfl ?_
    refine V_getR 21 O k51 fl_X10_24 rf51_5 dX10_dryOfDay_21 ?_
    refine V_iload 24 6 O dX10_dryOfDay_24 rfl ?_
    obtain ⟨σ1, g, h⟩ := bdv_of h
    refine V_callVv 26 [.ref (zad G 56), .ref (zad G 62), .int x6] [] O mf_X9_ask lk_X10_91 k39 dX10_dryOfDay_26 rfl rfl (Nat.le_of_ble_eq_true rfl) ⟨(Nat.le_of_ble_eq_true rfl), (Nat.le_of_ble_eq_true rfl)⟩ (fun l => C_X9_ask zStand56 zLaw62 g) ?_
    refine V_aloadn 29 0 O dX10_dryOfDay_29 rfl rfl ?_
    refine V_getR 30 O k51 fl_X10_48 rf51_0 dX10_dryOfDay_30 ?_
    refine V_iload 33 6 O dX10_dryOfDay_33 rfl ?_
    refine V_iloadn 35 3 O dX10_dryOfDay_35 rfl rfl ?_
    refine V_iload 36 4 O dX10_dryOfDay_36 rfl ?_
    obtain ⟨σ2, g, h⟩ := bdv_of h
    refine V_callVv 38 [.int x6, .int x3, .int x4] [] O mf_X9_begin lk_X10_97 k39 dX10_dryOfDay_38 rfl rfl (Nat.le_of_ble_eq_true rfl) ⟨(Nat.le_of_ble_eq_true rfl), (Nat.le_of_ble_eq_true rfl)⟩ (fun l => C_X9_begin  g) ?_
    refine V_aloadn 41 0 O dX10_dryOfDay_41 rfl rfl ?_
    refine V_getR 42 O k51 fl_X10_48 rf51_0 dX10_dryOfDay_42 ?_
    obtain ⟨σ3, g, h⟩ := bdv_of h
    refine V_callVv 45 [] [] O mf_X9_serve lk_X10_101 k39 dX10_dryOfDay_45 rfl rfl (Nat.le_of_ble_eq_true rfl) ⟨(Nat.le_of_ble_eq_true rfl), (Nat.le_of_ble_eq_true rfl)⟩ (fun l => C_X9_serve  g) ?_
    refine V_aloadn 48 0 O dX10_dryOfDay_48 rfl rfl ?_
    refine V_getR 49 O k51 fl_X10_48 rf51_0 dX10_dryOfDay_49 ?_
    refine V_aloadn 52 0 O dX10_dryOfDay_52 rfl rfl ?_
    refine V_getR 53 O k51 fl_X10_12 rf51_3 dX10_dryOfDay_53 ?_
    obtain ⟨σ4, g, h⟩ := bdv_of h
    refine V_callVv 56 [.ref (zad G 56)] [] O mf_X9_settle lk_X10_104 k39 dX10_dryOfDay_56 rfl rfl (Nat.le_of_ble_eq_true rfl) ⟨(Nat.le_of_ble_eq_true rfl), (Nat.le_of_ble_eq_true rfl)⟩ (fun l => C_X9_settle zStand56 g) ?_
    refine V_aloadn 59 0 O dX10_dryOfDay_59 rfl rfl ?_
    refine V_getR 60 O k51 fl_X10_48 rf51_0 dX10_dryOfDay_60 ?_
    refine V_aloadn 63 0 O dX10_dryOfDay_63 rfl rfl ?_
    refine V_getR 64 O k51 fl_X10_12 rf51_3 dX10_dryOfDay_64 ?_
    refine V_iloadn 67 2 O dX10_dryOfDay_67 rfl rfl ?_
    obtain ⟨r6, σ5, g, h⟩ := bd_of h
    refine V_callVi 68 [.ref (zad G 56), .int x2] [] O mf_X9_someDry lk_X10_107 k39 dX10_dryOfDay_68 rfl rfl (Nat.le_of_ble_eq_true rfl) ⟨(Nat.le_of_ble_eq_true rfl), (Nat.le_of_ble_eq_true rfl)⟩ (fun l => C_X9_someDry zStand56 g) ?_
    refine V_if_eq 71 77 O dX10_dryOfDay_71 rfl h (fun h => ?_) (fun h => ?_)
    · refine V_iinc 77 6 [1, 2, 3, 4, 5, 6, 0] [(0, .ref (zad G 51)), (1, .int x1), (2, .int x2), (3, .int x3), (4, .int x4), (5, .int x5), (6, .int (x6 + (1 : Int32)))] O dX10_dryOfDay_77 rfl ci_1 (Nat.le_of_ble_eq_true rfl) rfl ?_
      refine V_goto 80 6 O dX10_dryOfDay_80 rfl ?_
      exact V_sub [0, 1, 2, 3, 4, 5, 6] rfl (H6 x1 x2 x3 x4 x5 (x6 + (1 : Int32)) σ5  h)
    · refine V_iinc 74 5 [1, 2, 3, 4, 5, 0, 6] [(0, .ref (zad G 51)), (1, .int x1), (2, .int x2), (3, .int x3), (4, .int x4), (5, .int (x5 + (1 : Int32))), (6, .int x6)] O dX10_dryOfDay_74 rfl ci_1 (Nat.le_of_ble_eq_true rfl) rfl ?_
      refine V_iinc 77 6 [1, 2, 3, 4, 5, 6, 0] [(0, .ref (zad G 51)), (1, .int x1), (2, .int x2), (3, .int x3), (4, .int x4), (5, .int (x5 + (1 : Int32))), (6, .int (x6 + (1 : Int32)))] O dX10_dryOfDay_77 rfl ci_1 (Nat.le_of_ble_eq_true rfl) rfl ?_
      refine V_goto 80 6 O dX10_dryOfDay_80 rfl ?_
      exact V_sub [0, 1, 2, 3, 4, 5, 6] rfl (H6 x1 x2 x3 x4 (x5 + (1 : Int32)) (x6 + (1 : Int32)) σ5  h)
theorem bl_X10_dryOfDay_6 {G : zG} {x : zX} {r : Int32} {τ : Sg} (O : zO G x cX10_dryOfDay RX10 4 160 7) (E : zE G x (some (.int)) (some (.int r)) τ) (n : Nat) : ∀ (k : Nat) (x1 : Int32) (x2 : Int32) (x3 : Int32) (x4 : Int32) (x5 : Int32) (x6 : Int32) (σ : Sg), s_X10_dryOfDay_6 n k x1 x2 x3 x4 x5 x6 σ = some (r, τ) → V G x σ [(0, .ref (zad G 51)), (1, .int x1), (2, .int x2), (3, .int x3), (4, .int x4), (5, .int x5), (6, .int x6)] 6 [] := by
  intro k
  induction k with
  | zero => intro x1 x2 x3 x4 x5 x6 σ  h; cases h
  | succ k ih => intro x1 x2 x3 x4 x5 x6 σ  h; exact b_X10_dryOfDay_6 O E n  (s_X10_dryOfDay_6 n  k) ih x1 x2 x3 x4 x5 x6 σ  h
set_option maxRecDepth 20000 in
theorem C_X10_dryOfDay {l : Launch} {G : zG} {n : Nat} {x1 : Int32} {x2 : Int32} {x3 : Int32} {x4 : Int32} {σ : Sg} {r : Int32} {τ : Sg} (h : s_X10_dryOfDay n x1 x2 x3 x4 σ = some (r, τ)) : zM l G 4 yX10_dryOfDay (.code yX10_dryOfDay cX10_dryOfDay 7 (some (.int))) [.ref (zad G 51), .int x1, .int x2, .int x3, .int x4] σ (some (.int r)) τ := by
  refine zM_of (by decide) (Nat.le_of_ble_eq_true rfl) (fun x O E => ?_)
  have O : zO G x cX10_dryOfDay RX10 4 160 7 := O
  unfold s_X10_dryOfDay at h
  show V G x σ [(0, .ref (zad G 51)), (1, .int x1), (2, .int x2), (3, .int x3), (4, .int x4)] 0 []
  refine V_iconst 0 O dX10_dryOfDay_0 ci_0 ?_
  refine V_istore 1 [1, 2, 3, 4, 5, 0] [(0, .ref (zad G 51)), (1, .int x1), (2, .int x2), (3, .int x3), (4, .int x4), (5, .int (0 : Int32))] O dX10_dryOfDay_1 (Nat.le_of_ble_eq_true rfl) rfl ?_
  refine V_iconst 3 O dX10_dryOfDay_3 ci_0 ?_
  refine V_istore 4 [1, 2, 3, 4, 5, 6, 0] [(0, .ref (zad G 51)), (1, .int x1), (2, .int x2), (3, .int x3), (4, .int x4), (5, .int (0 : Int32)), (6, .int (0 : Int32))] O dX10_dryOfDay_4 (Nat.le_of_ble_eq_true rfl) rfl ?_
  exact V_sub [0, 1, 2, 3, 4, 5, 6] rfl (bl_X10_dryOfDay_6 O E n  n x1 x2 x3 x4 (0 : Int32) (0 : Int32) σ  h)
-- ==== Trial.dryAgain(LWaterTown$Stand;III)I
def s_X10_dryAgain_91 (n : Nat) (rc17 : Int32 → Int32 → Int32 → Int32 → Int32 → Int32 → Sg → Option (Int32 × Sg)) (x2 : Int32) (x3 : Int32) (x4 : Int32) (x5 : Int32) (x6 : Int32) (x7 : Int32) (x8 : Int32) (y0 : Int32) (σ : Sg) : Option (Int32 × Sg) := if y0 = 0 then (bdv (s_X7_takeCisterns n 59 56 σ) fun σ11 => bdv (s_X6_hold n x7 62 σ11) fun σ12 => bd (s_X10_dryOfDay n x8 (0 : Int32) x3 x4 σ12) fun r14 σ13 => lt (x5 + r14) fun v15 => rc17 x2 x3 x4 v15 r14 (x7 + (1 : Int32)) σ13) else (lt (x5 + x6) fun v10 => rc17 x2 x3 x4 v10 x6 (x7 + (1 : Int32)) σ)
def s_X10_dryAgain_90 (n : Nat) (rc17 : Int32 → Int32 → Int32 → Int32 → Int32 → Int32 → Sg → Option (Int32 × Sg)) (x2 : Int32) (x3 : Int32) (x4 : Int32) (x5 : Int32) (x6 : Int32) (x7 : Int32) (x8 : Int32) (σ : Sg) : Option (Int32 × Sg) := s_X10_dryAgain_91 n rc17 x2 x3 x4 x5 x6 x7 x8 (0 : Int32) σ
def s_X10_dryAgain_17b (n : Nat) (rc17 : Int32 → Int32 → Int32 → Int32 → Int32 → Int32 → Sg → Option (Int32 × Sg)) (x2 : Int32) (x3 : Int32) (x4 : Int32) (x5 : Int32) (x6 : Int32) (x7 : Int32) (σ : Sg) : Option (Int32 × Sg) := if (199 : Int32) < x7 then (some (x5, σ)) else (if x2 ≤ (x7 * (24 : Int32)) then (some (x5, σ)) else (lt (imin (24 : Int32) (x2 - (x7 * (24 : Int32)))) fun v2 => if x7 ≤ 0 then (s_X10_dryAgain_90 n rc17 x2 x3 x4 x5 x6 x7 v2 σ) else (if v2 = (24 : Int32) then (bd (s_X6_someBeginOn n x7 σ) fun r4 σ3 => if r4 = 0 then (bd (s_X7_hasCisterns n 56 59 σ3) fun r6 σ5 => lt (if r6 = 0 then (0 : Int32) else (1 : Int32)) fun v9 => s_X10_dryAgain_91 n rc17 x2 x3 x4 x5 x6 x7 v2 v9 σ5) else (s_X10_dryAgain_90 n rc17 x2 x3 x4 x5 x6 x7 v2 σ3)) else (s_X10_dryAgain_90 n rc17 x2 x3 x4 x5 x6 x7 v2 σ))))
def s_X10_dryAgain_17 (n : Nat) : Nat → Int32 → Int32 → Int32 → Int32 → Int32 → Int32 → Sg → Option (Int32 × Sg)
  | 0 => fun _ _ _ _ _ _ _ => none
  | k + 1 => s_X10_dryAgain_17b n (s_X10_dryAgain_17 n k)
def s_X10_dryAgain (n : Nat) (x1 : Nat) (x2 : Int32) (x3 : Int32) (x4 : Int32) (σ : Sg) : Option (Int32 × Sg) := bdv (s_X7_startAs n 56 x1 σ) fun σ1 => s_X10_dryAgain_17 n n x2 x3 x4 (0 : Int32) (0 : Int32) (0 : Int32) σ1
set_option maxRecDepth 20000 in
theorem b_X10_dryAgain_91 {G : zG} {x : zX} {r : Int32} {τ : Sg} (O : zO G x cX10_dryAgain RX10 5 200 10) (E : zE G x (some (.int)) (some (.int r)) τ) (n : Nat) (rc17 : Int32 → Int32 → Int32 → Int32 → Int32 → Int32 → Sg → Option (Int32 × Sg)) (H17 : ∀ (x2 : Int32) (x3 : Int32) (x4 : Int32) (x5 : Int32) (x6 : Int32) (x7 : Int32) (σ : Sg), rc17 x2 x3 x4 x5 x6 x7 σ = some (r, τ) → V G x σ [(0, .ref (zad G 51)), (2, .int x2), (3, .int x3), (4, .int x4), (5, .int x5), (6, .int x6), (7, .int x7)] 17 []) (x2 : Int32) (x3 : Int32) (x4 : Int32) (x5 : Int32) (x6 : Int32) (x7 : Int32) (x8 : Int32) (y0 : Int32) (σ : Sg) (h : s_X10_dryAgain_91 n rc17 x2 x3 x4 x5 x6 x7 x8 y0 σ = some (r, τ)) : V G x σ [(0, .ref (zad G 51)), (2, .int x2), (3, .int x3), (4, .int x4), (5, .int x5), (6, .int x6), (7, .int x7), (8, .int x8)] 91 [.int y0] := by
  unfold s_X10_dryAgain_91 at h
  refine V_istore 91 [1, 2, 3, 4, 5, 6, 7, 8, 0] [(0, .ref (zad G 51)), (2, .int x2), (3, .int x3), (4, .int x4), (5, .int x5), (6, .int x6), (7, .int x7), (8, .int x8), (9, .int y0)] O dX10_dryAgain_91 (Nat.le_of_ble_eq_true rfl) rfl ?_
  refine V_iload 93 8 O dX10_dryAgain_93 rfl ?_
  refine V_if_ne 95 134 O dX10_dryAgain_95 rfl h (fun h => ?_) (fun h => ?_)
  · refine V_iload 134 4 O dX10_dryAgain_134 rfl ?_
    refine V_iload 136 5 O dX10_dryAgain_136 rfl ?_
    refine V_iadd 138 O dX10_dryAgain_138 ?_
    refine V_topi h (fun v10 h => ?_)
    refine V_istore 139 [1, 2, 3, 4, 0, 5, 6, 7, 8] [(0, .ref (zad G 51)), (2, .int x2), (3, .int x3), (4, .int x4), (5, .int v10), (6, .int x6), (7, .int x7), (8, .int x8), (9, .int y0)] O dX10_dryAgain_139 (Nat.le_of_ble_eq_true rfl) rfl ?_
    refine V_iinc 141 6 [1, 2, 3, 4, 5, 6, 0, 7, 8] [(0, .ref (zad G 51)), (2, .int x2), (3, .int x3), (4, .int x4), (5, .int v10), (6, .int x6), (7, .int (x7 + (1 : Int32))), (8, .int x8), (9, .int y0)] O dX10_dryAgain_141 rfl ci_1 (Nat.le_of_ble_eq_true rfl) rfl ?_
    refine V_goto 144 17 O dX10_dryAgain_144 rfl ?_
    exact V_sub [0, 1, 2, 3, 4, 5, 6] rfl (H17 x2 x3 x4 v10 x6 (x7 + (1 : Int32)) σ  h)
  · refine V_aloadn 98 0 O dX10_dryAgain_98 rfl rfl ?_
    refine V_getR 99 O k51 fl_X10_18 rf51_4 dX10_dryAgain_99 ?_
    refine V_aloadn 102 0 O dX10_dryAgain_102 rfl rfl ?_
    refine V_getR 103 O k51 fl_X10_12 rf51_3 dX10_dryAgain_103 ?_
    obtain ⟨σ11, g, h⟩ := bdv_of h
    refine V_callVv 106 [.ref (zad G 56)] [] O mf_X7_takeCisterns lk_X10_80 k59 dX10_dryAgain_106 rfl rfl (Nat.le_of_ble_eq_true rfl) ⟨(Nat.le_of_ble_eq_true rfl), (Nat.le_of_ble_eq_true rfl)⟩ (fun l => C_X7_takeCisterns zStand59 zStand56 g) ?_
    refine V_aloadn 109 0 O dX10_dryAgain_109 rfl rfl ?_
    refine V_getR 110 O k51 fl_X10_56 rf51_2 dX10_dryAgain_110 ?_
    refine V_iload 113 6 O dX10_dryAgain_113 rfl ?_
    refine V_aloadn 115 0 O dX10_dryAgain_115 rfl rfl ?_
    refine V_getR 116 O k51 fl_X10_24 rf51_5 dX10_dryAgain_116 ?_
    obtain ⟨σ12, g, h⟩ := bdv_of h
    refine V_callVv 119 [.int x7, .ref (zad G 62)] [] O mf_X6_hold lk_X10_83 k27 dX10_dryAgain_119 rfl rfl (Nat.le_of_ble_eq_true rfl) ⟨(Nat.le_of_ble_eq_true rfl), (Nat.le_of_ble_eq_true rfl)⟩ (fun l => C_X6_hold zLaw62 g) ?_
    refine V_aloadn 122 0 O dX10_dryAgain_122 rfl rfl ?_
    refine V_iload 123 7 O dX10_dryAgain_123 rfl ?_
    refine V_iconst 125 O dX10_dryAgain_125 ci_0 ?_
    refine V_iloadn 126 2 O dX10_dryAgain_126 rfl rfl ?_
    refine V_iload 127 3 O dX10_dryAgain_127 rfl ?_
    obtain ⟨r14, σ13, g, h⟩ := bd_of h
    refine V_callVi 129 [.int x8, .int (0 : Int32), .int x3, .int x4] [] O mf_X10_dryOfDay lk_X10_87 k51 dX10_dryAgain_129 rfl rfl (Nat.le_of_ble_eq_true rfl) ⟨(Nat.le_of_ble_eq_true rfl), (Nat.le_of_ble_eq_true rfl)⟩ (fun l => C_X10_dryOfDay  g) ?_
    refine V_istore 132 [1, 2, 3, 4, 5, 0, 6, 7, 8] [(0, .ref (zad G 51)), (2, .int x2), (3, .int x3), (4, .int x4), (5, .int x5), (6, .int r14), (7, .int x7), (8, .int x8), (9, .int y0)] O dX10_dryAgain_132 (Nat.le_of_ble_eq_true rfl) rfl ?_
    refine V_iload 134 4 O dX10_dryAgain_134 rfl ?_
    refine V_iload 136 5 O dX10_dryAgain_136 rfl ?_
    refine V_iadd 138 O dX10_dryAgain_138 ?_
    refine V_topi h (fun v15 h => ?_)
    refine V_istore 139 [1, 2, 3, 4, 0, 5, 6, 7, 8] [(0, .ref (zad G 51)), (2, .int x2), (3, .int x3), (4, .int x4), (5, .int v15), (6, .int r14), (7, .int x7), (8, .int x8), (9, .int y0)] O dX10_dryAgain_139 (Nat.le_of_ble_eq_true rfl) rfl ?_
    refine V_iinc 141 6 [1, 2, 3, 4, 5, 6, 0, 7, 8] [(0, .ref (zad G 51)), (2, .int x2), (3, .int x3), (4, .int x4), (5, .int v15), (6, .int r14), (7, .int (x7 + (1 : Int32))), (8, .int x8), (9, .int y0)] O dX10_dryAgain_141 rfl ci_1 (Nat.le_of_ble_eq_true rfl) rfl ?_
    refine V_goto 144 17 O dX10_dryAgain_144 rfl ?_
    exact V_sub [0, 1, 2, 3, 4, 5, 6] rfl (H17 x2 x3 x4 v15 r14 (x7 + (1 : Int32)) σ13  h)
set_option maxRecDepth 20000 in
theorem b_X10_dryAgain_90 {G : zG} {x : zX} {r : Int32} {τ : Sg} (O : zO G x cX10_dryAgain RX10 5 200 10) (E : zE G x (some (.int)) (some (.int r)) τ) (n : Nat) (rc17 : Int32 → Int32 → Int32 → Int32 → Int32 → Int32 → Sg → Option (Int32 × Sg)) (H17 : ∀ (x2 : Int32) (x3 : Int32) (x4 : Int32) (x5 : Int32) (x6 : Int32) (x7 : Int32) (σ : Sg), rc17 x2 x3 x4 x5 x6 x7 σ = some (r, τ) → V G x σ [(0, .ref (zad G 51)), (2, .int x2), (3, .int x3), (4, .int x4), (5, .int x5), (6, .int x6), (7, .int x7)] 17 []) (x2 : Int32) (x3 : Int32) (x4 : Int32) (x5 : Int32) (x6 : Int32) (x7 : Int32) (x8 : Int32) (σ : Sg) (h : s_X10_dryAgain_90 n rc17 x2 x3 x4 x5 x6 x7 x8 σ = some (r, τ)) : V G x σ [(0, .ref (zad G 51)), (2, .int x2), (3, .int x3), (4, .int x4), (5, .int x5), (6, .int x6), (7, .int x7), (8, .int x8)] 90 [] := by
  unfold s_X10_dryAgain_90 at h
  refine V_iconst 90 O dX10_dryAgain_90 ci_0 ?_
  exact V_sub [0, 1, 2, 3, 4, 5, 6, 7] rfl (b_X10_dryAgain_91 O E n rc17 H17 x2 x3 x4 x5 x6 x7 x8 (0 : Int32) σ  h)
set_option maxRecDepth 20000 in
theorem b_X10_dryAgain_17 {G : zG} {x : zX} {r : Int32} {τ : Sg} (O : zO G x cX10_dryAgain RX10 5 200 10) (E : zE G x (some (.int)) (some (.int r)) τ) (n : Nat) (rc17 : Int32 → Int32 → Int32 → Int32 → Int32 → Int32 → Sg → Option (Int32 × Sg)) (H17 : ∀ (x2 : Int32) (x3 : Int32) (x4 : Int32) (x5 : Int32) (x6 : Int32) (x7 : Int32) (σ : Sg), rc17 x2 x3 x4 x5 x6 x7 σ = some (r, τ) → V G x σ [(0, .ref (zad G 51)), (2, .int x2), (3, .int x3), (4, .int x4), (5, .int x5), (6, .int x6), (7, .int x7)] 17 []) (x2 : Int32) (x3 : Int32) (x4 : Int32) (x5 : Int32) (x6 : Int32) (x7 : Int32) (σ : Sg) (h : s_X10_dryAgain_17b n rc17 x2 x3 x4 x5 x6 x7 σ = some (r, τ)) : V G x σ [(0, .ref (zad G 51)), (2, .int x2), (3, .int x3), (4, .int x4), (5, .int x5), (6, .int x6), (7, .int x7)] 17 [] := by
  unfold s_X10_dryAgain_17b at h
  refine V_iload 17 6 O dX10_dryAgain_17 rfl ?_
  refine V_sipush 19 O dX10_dryAgain_19 cs_199 ?_
  refine V_icmp_gt 22 147 O dX10_dryAgain_22 rfl h (fun h => ?_) (fun h => ?_)
  · refine V_iload 147 4 O dX10_dryAgain_147 rfl ?_
    exact V_iret 149 O E dX10_dryAgain_149 h
  · refine V_iload 25 6 O dX10_dryAgain_25 rfl ?_
    refine V_bipush 27 O dX10_dryAgain_27 cb_24 ?_
    refine V_imul 29 O dX10_dryAgain_29 ?_
    refine V_iloadn 30 1 O dX10_dryAgain_30 rfl rfl ?_
    refine V_icmp_ge 31 147 O dX10_dryAgain_31 rfl h (fun h => ?_) (fun h => ?_)
    · refine V_iload 147 4 O dX10_dryAgain_147 rfl ?_
      exact V_iret 149 O E dX10_dryAgain_149 h
    · refine V_bipush 34 O dX10_dryAgain_34 cb_24 ?_
      refine V_iloadn 36 1 O dX10_dryAgain_36 rfl rfl ?_
      refine V_iload 37 6 O dX10_dryAgain_37 rfl ?_
      refine V_bipush 39 O dX10_dryAgain_39 cb_24 ?_
      refine V_imul 41 O dX10_dryAgain_41 ?_
      refine V_isub 42 O dX10_dryAgain_42 ?_
      refine V_min 43 O lk_X10_64 mm_imin.1 mm_imin.2.1 mm_imin.2.2 (Nat.le_of_ble_eq_true rfl) (Nat.le_of_ble_eq_true rfl) dX10_dryAgain_43 ?_
      refine V_topi h (fun v2 h => ?_)
      refine V_istore 46 [1, 2, 3, 4, 5, 6, 7, 0] [(0, .ref (zad G 51)), (2, .int x2), (3, .int x3), (4, .int x4), (5, .int x5), (6, .int x6), (7, .int x7), (8, .int v2)] O dX10_dryAgain_46 (Nat.le_of_ble_eq_true rfl) rfl ?_
      refine V_iload 48 6 O dX10_dryAgain_48 rfl ?_
      refine V_if_le 50 90 O dX10_dryAgain_50 rfl h (fun h => ?_) (fun h => ?_)
      · exact V_sub [0, 1, 2, 3, 4, 5, 6, 7] rfl (b_X10_dryAgain_90 O E n rc17 H17 x2 x3 x4 x5 x6 x7 v2 σ  h)
      · refine V_iload 53 7 O dX10_dryAgain_53 rfl ?_
        refine V_bipush 55 O dX10_dryAgain_55 cb_24 ?_
        refine V_icmp_ne 57 90 O dX10_dryAgain_57 rfl h (fun h => ?_) (fun h => ?_)
        · exact V_sub [0, 1, 2, 3, 4, 5, 6, 7] rfl (b_X10_dryAgain_90 O E n rc17 H17 x2 x3 x4 x5 x6 x7 v2 σ  h)
        · refine V_aloadn 60 0 O dX10_dryAgain_60 rfl rfl ?_
          refine V_getR 61 O k51 fl_X10_56 rf51_2 dX10_dryAgain_61 ?_
          refine V_iload 64 6 O dX10_dryAgain_64 rfl ?_
          obtain ⟨r4, σ3, g, h⟩ := bd_of h
          refine V_callVi 66 [.int x7] [] O mf_X6_someBeginOn lk_X10_70 k27 dX10_dryAgain_66 rfl rfl (Nat.le_of_ble_eq_true rfl) ⟨(Nat.le_of_ble_eq_true rfl), (Nat.le_of_ble_eq_true rfl)⟩ (fun l => C_X6_someBeginOn  g) ?_
          refine V_if_ne 69 90 O dX10_dryAgain_69 rfl h (fun h => ?_) (fun h => ?_)
          · exact V_sub [0, 1, 2, 3, 4, 5, 6, 7] rfl (b_X10_dryAgain_90 O E n rc17 H17 x2 x3 x4 x5 x6 x7 v2 σ3  h)
          · refine V_aloadn 72 0 O dX10_dryAgain_72 rfl rfl ?_
            refine V_getR 73 O k51 fl_X10_12 rf51_3 dX10_dryAgain_73 ?_
            refine V_aloadn 76 0 O dX10_dryAgain_76 rfl rfl ?_
            refine V_getR 77 O k51 fl_X10_18 rf51_4 dX10_dryAgain_77 ?_
            obtain ⟨r6, σ5, g, h⟩ := bd_of h
            refine V_callVi 80 [.ref (zad G 59)] [] O mf_X7_hasCisterns lk_X10_76 k56 dX10_dryAgain_80 rfl rfl (Nat.le_of_ble_eq_true rfl) ⟨(Nat.le_of_ble_eq_true rfl), (Nat.le_of_ble_eq_true rfl)⟩ (fun l => C_X7_hasCisterns zStand56 zStand59 g) ?_
            have J7 : V G x σ5 [(0, .ref (zad G 51)), (2, .int x2), (3, .int x3), (4, .int x4), (5, .int x5), (6, .int x6), (7, .int x7), (8, .int v2)] 91 [.int (if r6 = 0 then (0 : Int32) else (1 : Int32))] := by
              refine V_topi h (fun v9 h => ?_)
              exact V_sub [0, 1, 2, 3, 4, 5, 6, 7] rfl (b_X10_dryAgain_91 O E n rc17 H17 x2 x3 x4 x5 x6 x7 v2 v9 σ5  h)
            refine V_if_eqc 83 90 O dX10_dryAgain_83 rfl (fun c8 => ?_) (fun c8 => ?_)
            · refine V_iconst 90 O dX10_dryAgain_90 ci_0 ?_
              exact V_top (by rw [if_pos c8]) J7
            · refine V_iconst 86 O dX10_dryAgain_86 ci_1 ?_
              refine V_goto 87 91 O dX10_dryAgain_87 rfl ?_
              exact V_top (by rw [if_neg c8]) J7
theorem bl_X10_dryAgain_17 {G : zG} {x : zX} {r : Int32} {τ : Sg} (O : zO G x cX10_dryAgain RX10 5 200 10) (E : zE G x (some (.int)) (some (.int r)) τ) (n : Nat) : ∀ (k : Nat) (x2 : Int32) (x3 : Int32) (x4 : Int32) (x5 : Int32) (x6 : Int32) (x7 : Int32) (σ : Sg), s_X10_dryAgain_17 n k x2 x3 x4 x5 x6 x7 σ = some (r, τ) → V G x σ [(0, .ref (zad G 51)), (2, .int x2), (3, .int x3), (4, .int x4), (5, .int x5), (6, .int x6), (7, .int x7)] 17 [] := by
  intro k
  induction k with
  | zero => intro x2 x3 x4 x5 x6 x7 σ  h; cases h
  | succ k ih => intro x2 x3 x4 x5 x6 x7 σ  h; exact b_X10_dryAgain_17 O E n  (s_X10_dryAgain_17 n  k) ih x2 x3 x4 x5 x6 x7 σ  h
set_option maxRecDepth 20000 in
theorem C_X10_dryAgain {l : Launch} {G : zG} {n : Nat} {x1 : Nat} {x2 : Int32} {x3 : Int32} {x4 : Int32} {σ : Sg} {r : Int32} {τ : Sg} (hx1 : zStand x1) (h : s_X10_dryAgain n x1 x2 x3 x4 σ = some (r, τ)) : zM l G 5 yX10_dryAgain (.code yX10_dryAgain cX10_dryAgain 10 (some (.int))) [.ref (zad G 51), .ref (zad G x1), .int x2, .int x3, .int x4] σ (some (.int r)) τ := by
  refine zM_of (by decide) (Nat.le_of_ble_eq_true rfl) (fun x O E => ?_)
  have O : zO G x cX10_dryAgain RX10 5 200 10 := O
  unfold s_X10_dryAgain at h
  show V G x σ [(0, .ref (zad G 51)), (1, .ref (zad G x1)), (2, .int x2), (3, .int x3), (4, .int x4)] 0 []
  refine V_aloadn 0 0 O dX10_dryAgain_0 rfl rfl ?_
  refine V_getR 1 O k51 fl_X10_12 rf51_3 dX10_dryAgain_1 ?_
  refine V_aloadn 4 1 O dX10_dryAgain_4 rfl rfl ?_
  obtain ⟨σ1, g, h⟩ := bdv_of h
  refine V_callVv 5 [.ref (zad G x1)] [] O mf_X7_startAs lk_X10_60 k56 dX10_dryAgain_5 rfl rfl (Nat.le_of_ble_eq_true rfl) ⟨(Nat.le_of_ble_eq_true rfl), (Nat.le_of_ble_eq_true rfl)⟩ (fun l => C_X7_startAs zStand56 hx1 g) ?_
  refine V_iconst 8 O dX10_dryAgain_8 ci_0 ?_
  refine V_istore 9 [1, 2, 3, 4, 5, 0] [(0, .ref (zad G 51)), (1, .ref (zad G x1)), (2, .int x2), (3, .int x3), (4, .int x4), (5, .int (0 : Int32))] O dX10_dryAgain_9 (Nat.le_of_ble_eq_true rfl) rfl ?_
  refine V_iconst 11 O dX10_dryAgain_11 ci_0 ?_
  refine V_istore 12 [1, 2, 3, 4, 5, 6, 0] [(0, .ref (zad G 51)), (1, .ref (zad G x1)), (2, .int x2), (3, .int x3), (4, .int x4), (5, .int (0 : Int32)), (6, .int (0 : Int32))] O dX10_dryAgain_12 (Nat.le_of_ble_eq_true rfl) rfl ?_
  refine V_iconst 14 O dX10_dryAgain_14 ci_0 ?_
  refine V_istore 15 [1, 2, 3, 4, 5, 6, 7, 0] [(0, .ref (zad G 51)), (1, .ref (zad G x1)), (2, .int x2), (3, .int x3), (4, .int x4), (5, .int (0 : Int32)), (6, .int (0 : Int32)), (7, .int (0 : Int32))] O dX10_dryAgain_15 (Nat.le_of_ble_eq_true rfl) rfl ?_
  exact V_sub [0, 2, 3, 4, 5, 6, 7] rfl (bl_X10_dryAgain_17 O E n  n x2 x3 x4 (0 : Int32) (0 : Int32) (0 : Int32) σ1  h)
-- ==== Trial.isPlanned(II)Z
def s_X10_isPlanned_20 (n : Nat) (σ : Sg) : Option (Int32 × Sg) := some ((0 : Int32), σ)
def s_X10_isPlanned (n : Nat) (x1 : Int32) (x2 : Int32) (σ : Sg) : Option (Int32 × Sg) := if x1 = (σ 51 9) then (if x2 = (σ 51 10) then (some ((1 : Int32), σ)) else (s_X10_isPlanned_20 n σ)) else (s_X10_isPlanned_20 n σ)
set_option maxRecDepth 20000 in
theorem b_X10_isPlanned_20 {G : zG} {x : zX} {r : Int32} {τ : Sg} (O : zO G x cX10_isPlanned RX10 0 0 3) (E : zE G x (some (.boolean)) (some (.int r)) τ) (n : Nat) (σ : Sg) (h : s_X10_isPlanned_20 n σ = some (r, τ)) : V G x σ [] 20 [] := by
  unfold s_X10_isPlanned_20 at h
  refine V_iconst 20 O dX10_isPlanned_20 ci_0 ?_
  exact V_zret0 21 O E dX10_isPlanned_21 h
set_option maxRecDepth 20000 in
theorem C_X10_isPlanned {l : Launch} {G : zG} {n : Nat} {x1 : Int32} {x2 : Int32} {σ : Sg} {r : Int32} {τ : Sg} (h : s_X10_isPlanned n x1 x2 σ = some (r, τ)) : zM l G 0 yX10_isPlanned (.code yX10_isPlanned cX10_isPlanned 3 (some (.boolean))) [.ref (zad G 51), .int x1, .int x2] σ (some (.int r)) τ := by
  refine zM_of (by decide) (Nat.le_of_ble_eq_true rfl) (fun x O E => ?_)
  have O : zO G x cX10_isPlanned RX10 0 0 3 := O
  unfold s_X10_isPlanned at h
  show V G x σ [(0, .ref (zad G 51)), (1, .int x1), (2, .int x2)] 0 []
  refine V_iloadn 0 1 O dX10_isPlanned_0 rfl rfl ?_
  refine V_aloadn 1 0 O dX10_isPlanned_1 rfl rfl ?_
  refine V_getI 2 O k51 fl_X10_38 dX10_isPlanned_2 ?_
  refine V_icmp_ne 5 20 O dX10_isPlanned_5 rfl h (fun h => ?_) (fun h => ?_)
  · exact V_sub [] rfl (b_X10_isPlanned_20 O E n   σ  h)
  · refine V_iloadn 8 2 O dX10_isPlanned_8 rfl rfl ?_
    refine V_aloadn 9 0 O dX10_isPlanned_9 rfl rfl ?_
    refine V_getI 10 O k51 fl_X10_42 dX10_isPlanned_10 ?_
    refine V_icmp_ne 13 20 O dX10_isPlanned_13 rfl h (fun h => ?_) (fun h => ?_)
    · exact V_sub [] rfl (b_X10_isPlanned_20 O E n   σ  h)
    · refine V_iconst 16 O dX10_isPlanned_16 ci_1 ?_
      refine V_goto 17 21 O dX10_isPlanned_17 rfl ?_
      exact V_zret1 21 O E dX10_isPlanned_21 h
-- ==== Trial.choose(III)V
def s_X10_choose_76 (n : Nat) (x3 : Int32) (σ : Sg) : Option Sg := bdv (s_X6_hold n x3 62 σ) fun σ6 => some σ6
def s_X10_choose_18b (n : Nat) (rc18 : Int32 → Int32 → Int32 → Sg → Option Sg) (x1 : Int32) (x3 : Int32) (x4 : Int32) (σ : Sg) : Option Sg := if (σ 11 0) ≤ x4 then (s_X10_choose_76 n x3 σ) else (if (6 : Int32) ≤ (σ 51 12) then (s_X10_choose_76 n x3 σ) else (if ((sr x1 x4) &&& (1 : Int32)) = (1 : Int32) then (ck (σ 51 12) 6 (lt (up2 σ 52 (ix (σ 51 12)) x4) fun σ4 => lt (up2 σ4 51 12 ((σ4 51 12) + (1 : Int32))) fun σ5 => rc18 x1 x3 (x4 + (1 : Int32)) σ5)) else (rc18 x1 x3 (x4 + (1 : Int32)) σ)))
def s_X10_choose_18 (n : Nat) : Nat → Int32 → Int32 → Int32 → Sg → Option Sg
  | 0 => fun _ _ _ _ => none
  | k + 1 => s_X10_choose_18b n (s_X10_choose_18 n k)
def s_X10_choose (n : Nat) (x1 : Int32) (x2 : Int32) (x3 : Int32) (σ : Sg) : Option Sg := lt (up2 σ 51 9 x1) fun σ1 => lt (up2 σ1 51 10 x2) fun σ2 => lt (up2 σ2 51 12 (0 : Int32)) fun σ3 => s_X10_choose_18 n n x1 x3 (0 : Int32) σ3
set_option maxRecDepth 20000 in
theorem b_X10_choose_76 {G : zG} {x : zX} {τ : Sg} (O : zO G x cX10_choose RX10 3 120 5) (E : zE G x none none τ) (n : Nat) (x3 : Int32) (σ : Sg) (h : s_X10_choose_76 n x3 σ = some τ) : V G x σ [(0, .ref (zad G 51)), (3, .int x3)] 76 [] := by
  unfold s_X10_choose_76 at h
  refine V_aloadn 76 0 O dX10_choose_76 rfl rfl ?_
  refine V_getR 77 O k51 fl_X10_56 rf51_2 dX10_choose_77 ?_
  refine V_iloadn 80 1 O dX10_choose_80 rfl rfl ?_
  refine V_aloadn 81 0 O dX10_choose_81 rfl rfl ?_
  refine V_getR 82 O k51 fl_X10_24 rf51_5 dX10_choose_82 ?_
  obtain ⟨σ6, g, h⟩ := bdv_of h
  refine V_callVv 85 [.int x3, .ref (zad G 62)] [] O mf_X6_hold lk_X10_83 k27 dX10_choose_85 rfl rfl (Nat.le_of_ble_eq_true rfl) ⟨(Nat.le_of_ble_eq_true rfl), (Nat.le_of_ble_eq_true rfl)⟩ (fun l => C_X6_hold zLaw62 g) ?_
  exact V_vret 88 O E dX10_choose_88 h
set_option maxRecDepth 20000 in
theorem b_X10_choose_18 {G : zG} {x : zX} {τ : Sg} (O : zO G x cX10_choose RX10 3 120 5) (E : zE G x none none τ) (n : Nat) (rc18 : Int32 → Int32 → Int32 → Sg → Option Sg) (H18 : ∀ (x1 : Int32) (x3 : Int32) (x4 : Int32) (σ : Sg), rc18 x1 x3 x4 σ = some τ → V G x σ [(0, .ref (zad G 51)), (1, .int x1), (3, .int x3), (4, .int x4)] 18 []) (x1 : Int32) (x3 : Int32) (x4 : Int32) (σ : Sg) (h : s_X10_choose_18b n rc18 x1 x3 x4 σ = some τ) : V G x σ [(0, .ref (zad G 51)), (1, .int x1), (3, .int x3), (4, .int x4)] 18 [] := by
  unfold s_X10_choose_18b at h
  refine V_iload 18 3 O dX10_choose_18 rfl ?_
  refine V_aloadn 20 0 O dX10_choose_20 rfl rfl ?_
  refine V_getR 21 O k51 fl_X10_52 rf51_1 dX10_choose_21 ?_
  refine V_getI 24 O k11 fl_X10_114 dX10_choose_24 ?_
  refine V_icmp_ge 27 76 O dX10_choose_27 rfl h (fun h => ?_) (fun h => ?_)
  · exact V_sub [0, 2] rfl (b_X10_choose_76 O E n  x3 σ  h)
  · refine V_aloadn 30 0 O dX10_choose_30 rfl rfl ?_
    refine V_getI 31 O k51 fl_X10_111 dX10_choose_31 ?_
    refine V_bipush 34 O dX10_choose_34 cb_6 ?_
    refine V_icmp_ge 36 76 O dX10_choose_36 rfl h (fun h => ?_) (fun h => ?_)
    · exact V_sub [0, 2] rfl (b_X10_choose_76 O E n  x3 σ  h)
    · refine V_iloadn 39 1 O dX10_choose_39 rfl rfl ?_
      refine V_iload 40 3 O dX10_choose_40 rfl ?_
      refine V_ishr 42 O dX10_choose_42 ?_
      refine V_iconst 43 O dX10_choose_43 ci_1 ?_
      refine V_iand 44 O dX10_choose_44 ?_
      refine V_iconst 45 O dX10_choose_45 ci_1 ?_
      refine V_icmp_ne 46 70 O dX10_choose_46 rfl h (fun h => ?_) (fun h => ?_)
      · refine V_iinc 70 3 [1, 2, 3, 0] [(0, .ref (zad G 51)), (1, .int x1), (3, .int x3), (4, .int (x4 + (1 : Int32)))] O dX10_choose_70 rfl ci_1 (Nat.le_of_ble_eq_true rfl) rfl ?_
        refine V_goto 73 18 O dX10_choose_73 rfl ?_
        exact V_sub [0, 1, 2, 3] rfl (H18 x1 x3 (x4 + (1 : Int32)) σ  h)
      · refine V_aloadn 49 0 O dX10_choose_49 rfl rfl ?_
        refine V_getR 50 O k51 fl_X10_28 rf51_6 dX10_choose_50 ?_
        refine V_aloadn 53 0 O dX10_choose_53 rfl rfl ?_
        refine V_getI 54 O k51 fl_X10_111 dX10_choose_54 ?_
        refine V_iload 57 3 O dX10_choose_57 rfl ?_
        refine V_iast 59 O k52 dX10_choose_59 h (fun σ4 h => ?_)
        refine V_aloadn 60 0 O dX10_choose_60 rfl rfl ?_
        refine V_dup 61 O dX10_choose_61 rfl ?_
        refine V_getI 62 O k51 fl_X10_111 dX10_choose_62 ?_
        refine V_iconst 65 O dX10_choose_65 ci_1 ?_
        refine V_iadd 66 O dX10_choose_66 ?_
        refine V_put 67 O k51 fp_X10_111 dX10_choose_67 h (fun σ5 h => ?_)
        refine V_iinc 70 3 [1, 2, 3, 0] [(0, .ref (zad G 51)), (1, .int x1), (3, .int x3), (4, .int (x4 + (1 : Int32)))] O dX10_choose_70 rfl ci_1 (Nat.le_of_ble_eq_true rfl) rfl ?_
        refine V_goto 73 18 O dX10_choose_73 rfl ?_
        exact V_sub [0, 1, 2, 3] rfl (H18 x1 x3 (x4 + (1 : Int32)) σ5  h)
theorem bl_X10_choose_18 {G : zG} {x : zX} {τ : Sg} (O : zO G x cX10_choose RX10 3 120 5) (E : zE G x none none τ) (n : Nat) : ∀ (k : Nat) (x1 : Int32) (x3 : Int32) (x4 : Int32) (σ : Sg), s_X10_choose_18 n k x1 x3 x4 σ = some τ → V G x σ [(0, .ref (zad G 51)), (1, .int x1), (3, .int x3), (4, .int x4)] 18 [] := by
  intro k
  induction k with
  | zero => intro x1 x3 x4 σ  h; cases h
  | succ k ih => intro x1 x3 x4 σ  h; exact b_X10_choose_18 O E n  (s_X10_choose_18 n  k) ih x1 x3 x4 σ  h
set_option maxRecDepth 20000 in
theorem C_X10_choose {l : Launch} {G : zG} {n : Nat} {x1 : Int32} {x2 : Int32} {x3 : Int32} {σ : Sg} {τ : Sg} (h : s_X10_choose n x1 x2 x3 σ = some τ) : zM l G 3 yX10_choose (.code yX10_choose cX10_choose 5 none) [.ref (zad G 51), .int x1, .int x2, .int x3] σ none τ := by
  refine zM_of (by decide) (Nat.le_of_ble_eq_true rfl) (fun x O E => ?_)
  have O : zO G x cX10_choose RX10 3 120 5 := O
  unfold s_X10_choose at h
  show V G x σ [(0, .ref (zad G 51)), (1, .int x1), (2, .int x2), (3, .int x3)] 0 []
  refine V_aloadn 0 0 O dX10_choose_0 rfl rfl ?_
  refine V_iloadn 1 1 O dX10_choose_1 rfl rfl ?_
  refine V_put 2 O k51 fp_X10_38 dX10_choose_2 h (fun σ1 h => ?_)
  refine V_aloadn 5 0 O dX10_choose_5 rfl rfl ?_
  refine V_iloadn 6 2 O dX10_choose_6 rfl rfl ?_
  refine V_put 7 O k51 fp_X10_42 dX10_choose_7 h (fun σ2 h => ?_)
  refine V_aloadn 10 0 O dX10_choose_10 rfl rfl ?_
  refine V_iconst 11 O dX10_choose_11 ci_0 ?_
  refine V_put 12 O k51 fp_X10_111 dX10_choose_12 h (fun σ3 h => ?_)
  refine V_iconst 15 O dX10_choose_15 ci_0 ?_
  refine V_istore 16 [1, 2, 3, 4, 0] [(0, .ref (zad G 51)), (1, .int x1), (2, .int x2), (3, .int x3), (4, .int (0 : Int32))] O dX10_choose_16 (Nat.le_of_ble_eq_true rfl) rfl ?_
  exact V_sub [0, 1, 3, 4] rfl (bl_X10_choose_18 O E n  n x1 x3 (0 : Int32) σ3  h)
-- ==== Trial.leastBehind(I)I
def s_X10_leastBehind_49 (n : Nat) (rc4 : Int32 → Int32 → Int32 → Sg → Option (Int32 × Sg)) (x1 : Int32) (x3 : Int32) (x4 : Int32) (σ : Sg) : Option (Int32 × Sg) := ck x4 64 (ck x4 64 (lt ((σ 53 (ix x4)) + (σ 54 (ix x4))) fun v2 => rc4 x1 v2 (x3 + (1 : Int32)) σ))
def s_X10_leastBehind_4b (n : Nat) (rc4 : Int32 → Int32 → Int32 → Sg → Option (Int32 × Sg)) (x1 : Int32) (x2 : Int32) (x3 : Int32) (σ : Sg) : Option (Int32 × Sg) := if (σ 51 12) ≤ x3 then (some (x2, σ)) else (lt (x1 ||| (sl (1 : Int32) x3)) fun v1 => if v1 = x1 then (rc4 x1 x2 (x3 + (1 : Int32)) σ) else (if x2 = (-1 : Int32) then (s_X10_leastBehind_49 n rc4 x1 x3 v1 σ) else (ck v1 64 (ck v1 64 (if x2 ≤ ((σ 53 (ix v1)) + (σ 54 (ix v1))) then (rc4 x1 x2 (x3 + (1 : Int32)) σ) else (s_X10_leastBehind_49 n rc4 x1 x3 v1 σ))))))
def s_X10_leastBehind_4 (n : Nat) : Nat → Int32 → Int32 → Int32 → Sg → Option (Int32 × Sg)
  | 0 => fun _ _ _ _ => none
  | k + 1 => s_X10_leastBehind_4b n (s_X10_leastBehind_4 n k)
def s_X10_leastBehind (n : Nat) (x1 : Int32) (σ : Sg) : Option (Int32 × Sg) := s_X10_leastBehind_4 n n x1 (-1 : Int32) (0 : Int32) σ
set_option maxRecDepth 20000 in
theorem b_X10_leastBehind_49 {G : zG} {x : zX} {r : Int32} {τ : Sg} (O : zO G x cX10_leastBehind RX10 0 0 5) (E : zE G x (some (.int)) (some (.int r)) τ) (n : Nat) (rc4 : Int32 → Int32 → Int32 → Sg → Option (Int32 × Sg)) (H4 : ∀ (x1 : Int32) (x2 : Int32) (x3 : Int32) (σ : Sg), rc4 x1 x2 x3 σ = some (r, τ) → V G x σ [(0, .ref (zad G 51)), (1, .int x1), (2, .int x2), (3, .int x3)] 4 []) (x1 : Int32) (x3 : Int32) (x4 : Int32) (σ : Sg) (h : s_X10_leastBehind_49 n rc4 x1 x3 x4 σ = some (r, τ)) : V G x σ [(0, .ref (zad G 51)), (1, .int x1), (3, .int x3), (4, .int x4)] 49 [] := by
  unfold s_X10_leastBehind_49 at h
  refine V_aloadn 49 0 O dX10_leastBehind_49 rfl rfl ?_
  refine V_getR 50 O k51 fl_X10_32 rf51_7 dX10_leastBehind_50 ?_
  refine V_iload 53 3 O dX10_leastBehind_53 rfl ?_
  refine V_iald 55 O k53 dX10_leastBehind_55 h (fun h => ?_)
  refine V_aloadn 56 0 O dX10_leastBehind_56 rfl rfl ?_
  refine V_getR 57 O k51 fl_X10_35 rf51_8 dX10_leastBehind_57 ?_
  refine V_iload 60 3 O dX10_leastBehind_60 rfl ?_
  refine V_iald 62 O k54 dX10_leastBehind_62 h (fun h => ?_)
  refine V_iadd 63 O dX10_leastBehind_63 ?_
  refine V_topi h (fun v2 h => ?_)
  refine V_istoren 64 [1, 2, 0, 3, 4] [(0, .ref (zad G 51)), (1, .int x1), (2, .int v2), (3, .int x3), (4, .int x4)] O dX10_leastBehind_64 rfl (Nat.le_of_ble_eq_true rfl) rfl ?_
  refine V_iinc 65 3 [1, 2, 3, 0, 4] [(0, .ref (zad G 51)), (1, .int x1), (2, .int v2), (3, .int (x3 + (1 : Int32))), (4, .int x4)] O dX10_leastBehind_65 rfl ci_1 (Nat.le_of_ble_eq_true rfl) rfl ?_
  refine V_goto 68 4 O dX10_leastBehind_68 rfl ?_
  exact V_sub [0, 1, 2, 3] rfl (H4 x1 v2 (x3 + (1 : Int32)) σ  h)
set_option maxRecDepth 20000 in
theorem b_X10_leastBehind_4 {G : zG} {x : zX} {r : Int32} {τ : Sg} (O : zO G x cX10_leastBehind RX10 0 0 5) (E : zE G x (some (.int)) (some (.int r)) τ) (n : Nat) (rc4 : Int32 → Int32 → Int32 → Sg → Option (Int32 × Sg)) (H4 : ∀ (x1 : Int32) (x2 : Int32) (x3 : Int32) (σ : Sg), rc4 x1 x2 x3 σ = some (r, τ) → V G x σ [(0, .ref (zad G 51)), (1, .int x1), (2, .int x2), (3, .int x3)] 4 []) (x1 : Int32) (x2 : Int32) (x3 : Int32) (σ : Sg) (h : s_X10_leastBehind_4b n rc4 x1 x2 x3 σ = some (r, τ)) : V G x σ [(0, .ref (zad G 51)), (1, .int x1), (2, .int x2), (3, .int x3)] 4 [] := by
  unfold s_X10_leastBehind_4b at h
  refine V_iloadn 4 3 O dX10_leastBehind_4 rfl rfl ?_
  refine V_aloadn 5 0 O dX10_leastBehind_5 rfl rfl ?_
  refine V_getI 6 O k51 fl_X10_111 dX10_leastBehind_6 ?_
  refine V_icmp_ge 9 71 O dX10_leastBehind_9 rfl h (fun h => ?_) (fun h => ?_)
  · refine V_iloadn 71 2 O dX10_leastBehind_71 rfl rfl ?_
    exact V_iret 72 O E dX10_leastBehind_72 h
  · refine V_iloadn 12 1 O dX10_leastBehind_12 rfl rfl ?_
    refine V_iconst 13 O dX10_leastBehind_13 ci_1 ?_
    refine V_iloadn 14 3 O dX10_leastBehind_14 rfl rfl ?_
    refine V_ishl 15 O dX10_leastBehind_15 ?_
    refine V_ior 16 O dX10_leastBehind_16 ?_
    refine V_topi h (fun v1 h => ?_)
    refine V_istore 17 [1, 2, 3, 4, 0] [(0, .ref (zad G 51)), (1, .int x1), (2, .int x2), (3, .int x3), (4, .int v1)] O dX10_leastBehind_17 (Nat.le_of_ble_eq_true rfl) rfl ?_
    refine V_iload 19 4 O dX10_leastBehind_19 rfl ?_
    refine V_iloadn 21 1 O dX10_leastBehind_21 rfl rfl ?_
    refine V_icmp_eq 22 65 O dX10_leastBehind_22 rfl h (fun h => ?_) (fun h => ?_)
    · refine V_iinc 65 3 [1, 2, 3, 0, 4] [(0, .ref (zad G 51)), (1, .int x1), (2, .int x2), (3, .int (x3 + (1 : Int32))), (4, .int v1)] O dX10_leastBehind_65 rfl ci_1 (Nat.le_of_ble_eq_true rfl) rfl ?_
      refine V_goto 68 4 O dX10_leastBehind_68 rfl ?_
      exact V_sub [0, 1, 2, 3] rfl (H4 x1 x2 (x3 + (1 : Int32)) σ  h)
    · refine V_iloadn 25 2 O dX10_leastBehind_25 rfl rfl ?_
      refine V_iconst 26 O dX10_leastBehind_26 ci_m1 ?_
      refine V_icmp_eq 27 49 O dX10_leastBehind_27 rfl h (fun h => ?_) (fun h => ?_)
      · exact V_sub [0, 1, 3, 4] rfl (b_X10_leastBehind_49 O E n rc4 H4 x1 x3 v1 σ  h)
      · refine V_aloadn 30 0 O dX10_leastBehind_30 rfl rfl ?_
        refine V_getR 31 O k51 fl_X10_32 rf51_7 dX10_leastBehind_31 ?_
        refine V_iload 34 4 O dX10_leastBehind_34 rfl ?_
        refine V_iald 36 O k53 dX10_leastBehind_36 h (fun h => ?_)
        refine V_aloadn 37 0 O dX10_leastBehind_37 rfl rfl ?_
        refine V_getR 38 O k51 fl_X10_35 rf51_8 dX10_leastBehind_38 ?_
        refine V_iload 41 4 O dX10_leastBehind_41 rfl ?_
        refine V_iald 43 O k54 dX10_leastBehind_43 h (fun h => ?_)
        refine V_iadd 44 O dX10_leastBehind_44 ?_
        refine V_iloadn 45 2 O dX10_leastBehind_45 rfl rfl ?_
        refine V_icmp_ge 46 65 O dX10_leastBehind_46 rfl h (fun h => ?_) (fun h => ?_)
        · refine V_iinc 65 3 [1, 2, 3, 0, 4] [(0, .ref (zad G 51)), (1, .int x1), (2, .int x2), (3, .int (x3 + (1 : Int32))), (4, .int v1)] O dX10_leastBehind_65 rfl ci_1 (Nat.le_of_ble_eq_true rfl) rfl ?_
          refine V_goto 68 4 O dX10_leastBehind_68 rfl ?_
          exact V_sub [0, 1, 2, 3] rfl (H4 x1 x2 (x3 + (1 : Int32)) σ  h)
        · exact V_sub [0, 1, 3, 4] rfl (b_X10_leastBehind_49 O E n rc4 H4 x1 x3 v1 σ  h)
theorem bl_X10_leastBehind_4 {G : zG} {x : zX} {r : Int32} {τ : Sg} (O : zO G x cX10_leastBehind RX10 0 0 5) (E : zE G x (some (.int)) (some (.int r)) τ) (n : Nat) : ∀ (k : Nat) (x1 : Int32) (x2 : Int32) (x3 : Int32) (σ : Sg), s_X10_leastBehind_4 n k x1 x2 x3 σ = some (r, τ) → V G x σ [(0, .ref (zad G 51)), (1, .int x1), (2, .int x2), (3, .int x3)] 4 [] := by
  intro k
  induction k with
  | zero => intro x1 x2 x3 σ  h; cases h
  | succ k ih => intro x1 x2 x3 σ  h; exact b_X10_leastBehind_4 O E n  (s_X10_leastBehind_4 n  k) ih x1 x2 x3 σ  h
set_option maxRecDepth 20000 in
theorem C_X10_leastBehind {l : Launch} {G : zG} {n : Nat} {x1 : Int32} {σ : Sg} {r : Int32} {τ : Sg} (h : s_X10_leastBehind n x1 σ = some (r, τ)) : zM l G 0 yX10_leastBehind (.code yX10_leastBehind cX10_leastBehind 5 (some (.int))) [.ref (zad G 51), .int x1] σ (some (.int r)) τ := by
  refine zM_of (by decide) (Nat.le_of_ble_eq_true rfl) (fun x O E => ?_)
  have O : zO G x cX10_leastBehind RX10 0 0 5 := O
  unfold s_X10_leastBehind at h
  show V G x σ [(0, .ref (zad G 51)), (1, .int x1)] 0 []
  refine V_iconst 0 O dX10_leastBehind_0 ci_m1 ?_
  refine V_istoren 1 [1, 2, 0] [(0, .ref (zad G 51)), (1, .int x1), (2, .int (-1 : Int32))] O dX10_leastBehind_1 rfl (Nat.le_of_ble_eq_true rfl) rfl ?_
  refine V_iconst 2 O dX10_leastBehind_2 ci_0 ?_
  refine V_istoren 3 [1, 2, 3, 0] [(0, .ref (zad G 51)), (1, .int x1), (2, .int (-1 : Int32)), (3, .int (0 : Int32))] O dX10_leastBehind_3 rfl (Nat.le_of_ble_eq_true rfl) rfl ?_
  exact V_sub [0, 1, 2, 3] rfl (bl_X10_leastBehind_4 O E n  n x1 (-1 : Int32) (0 : Int32) σ  h)
-- ==== Trial.changeOver(I)V
def s_X10_changeOver_2b (n : Nat) (rc2 : Int32 → Int32 → Sg → Option Sg) (x1 : Int32) (x2 : Int32) (σ : Sg) : Option Sg := if (σ 51 12) ≤ x2 then (some σ) else (if ((sr x1 x2) &&& (1 : Int32)) = (1 : Int32) then (ck x2 6 (ck (σ 52 (ix x2)) 10 (lt (up2 σ 57 (ix (σ 52 (ix x2))) (1 : Int32)) fun σ1 => rc2 x1 (x2 + (1 : Int32)) σ1))) else (rc2 x1 (x2 + (1 : Int32)) σ))
def s_X10_changeOver_2 (n : Nat) : Nat → Int32 → Int32 → Sg → Option Sg
  | 0 => fun _ _ _ => none
  | k + 1 => s_X10_changeOver_2b n (s_X10_changeOver_2 n k)
def s_X10_changeOver (n : Nat) (x1 : Int32) (σ : Sg) : Option Sg := s_X10_changeOver_2 n n x1 (0 : Int32) σ
set_option maxRecDepth 20000 in
theorem b_X10_changeOver_2 {G : zG} {x : zX} {τ : Sg} (O : zO G x cX10_changeOver RX10 0 0 3) (E : zE G x none none τ) (n : Nat) (rc2 : Int32 → Int32 → Sg → Option Sg) (H2 : ∀ (x1 : Int32) (x2 : Int32) (σ : Sg), rc2 x1 x2 σ = some τ → V G x σ [(0, .ref (zad G 51)), (1, .int x1), (2, .int x2)] 2 []) (x1 : Int32) (x2 : Int32) (σ : Sg) (h : s_X10_changeOver_2b n rc2 x1 x2 σ = some τ) : V G x σ [(0, .ref (zad G 51)), (1, .int x1), (2, .int x2)] 2 [] := by
  unfold s_X10_changeOver_2b at h
  refine V_iloadn 2 2 O dX10_changeOver_2 rfl rfl ?_
  refine V_aloadn 3 0 O dX10_changeOver_3 rfl rfl ?_
  refine V_getI 4 O k51 fl_X10_111 dX10_changeOver_4 ?_
  refine V_icmp_ge 7 40 O dX10_changeOver_7 rfl h (fun h => ?_) (fun h => ?_)
  · exact V_vret 40 O E dX10_changeOver_40 h
  · refine V_iloadn 10 1 O dX10_changeOver_10 rfl rfl ?_
    refine V_iloadn 11 2 O dX10_changeOver_11 rfl rfl ?_
    refine V_ishr 12 O dX10_changeOver_12 ?_
    refine V_iconst 13 O dX10_changeOver_13 ci_1 ?_
    refine V_iand 14 O dX10_changeOver_14 ?_
    refine V_iconst 15 O dX10_changeOver_15 ci_1 ?_
    refine V_icmp_ne 16 34 O dX10_changeOver_16 rfl h (fun h => ?_) (fun h => ?_)
    · refine V_iinc 34 2 [1, 2, 0] [(0, .ref (zad G 51)), (1, .int x1), (2, .int (x2 + (1 : Int32)))] O dX10_changeOver_34 rfl ci_1 (Nat.le_of_ble_eq_true rfl) rfl ?_
      refine V_goto 37 2 O dX10_changeOver_37 rfl ?_
      exact V_sub [0, 1, 2] rfl (H2 x1 (x2 + (1 : Int32)) σ  h)
    · refine V_aloadn 19 0 O dX10_changeOver_19 rfl rfl ?_
      refine V_getR 20 O k51 fl_X10_12 rf51_3 dX10_changeOver_20 ?_
      refine V_getR 23 O k56 fl_X10_130 rf56_0 dX10_changeOver_23 ?_
      refine V_aloadn 26 0 O dX10_changeOver_26 rfl rfl ?_
      refine V_getR 27 O k51 fl_X10_28 rf51_6 dX10_changeOver_27 ?_
      refine V_iloadn 30 2 O dX10_changeOver_30 rfl rfl ?_
      refine V_iald 31 O k52 dX10_changeOver_31 h (fun h => ?_)
      refine V_iconst 32 O dX10_changeOver_32 ci_1 ?_
      refine V_iast 33 O k57 dX10_changeOver_33 h (fun σ1 h => ?_)
      refine V_iinc 34 2 [1, 2, 0] [(0, .ref (zad G 51)), (1, .int x1), (2, .int (x2 + (1 : Int32)))] O dX10_changeOver_34 rfl ci_1 (Nat.le_of_ble_eq_true rfl) rfl ?_
      refine V_goto 37 2 O dX10_changeOver_37 rfl ?_
      exact V_sub [0, 1, 2] rfl (H2 x1 (x2 + (1 : Int32)) σ1  h)
theorem bl_X10_changeOver_2 {G : zG} {x : zX} {τ : Sg} (O : zO G x cX10_changeOver RX10 0 0 3) (E : zE G x none none τ) (n : Nat) : ∀ (k : Nat) (x1 : Int32) (x2 : Int32) (σ : Sg), s_X10_changeOver_2 n k x1 x2 σ = some τ → V G x σ [(0, .ref (zad G 51)), (1, .int x1), (2, .int x2)] 2 [] := by
  intro k
  induction k with
  | zero => intro x1 x2 σ  h; cases h
  | succ k ih => intro x1 x2 σ  h; exact b_X10_changeOver_2 O E n  (s_X10_changeOver_2 n  k) ih x1 x2 σ  h
set_option maxRecDepth 20000 in
theorem C_X10_changeOver {l : Launch} {G : zG} {n : Nat} {x1 : Int32} {σ : Sg} {τ : Sg} (h : s_X10_changeOver n x1 σ = some τ) : zM l G 0 yX10_changeOver (.code yX10_changeOver cX10_changeOver 3 none) [.ref (zad G 51), .int x1] σ none τ := by
  refine zM_of (by decide) (Nat.le_of_ble_eq_true rfl) (fun x O E => ?_)
  have O : zO G x cX10_changeOver RX10 0 0 3 := O
  unfold s_X10_changeOver at h
  show V G x σ [(0, .ref (zad G 51)), (1, .int x1)] 0 []
  refine V_iconst 0 O dX10_changeOver_0 ci_0 ?_
  refine V_istoren 1 [1, 2, 0] [(0, .ref (zad G 51)), (1, .int x1), (2, .int (0 : Int32))] O dX10_changeOver_1 rfl (Nat.le_of_ble_eq_true rfl) rfl ?_
  exact V_sub [0, 1, 2] rfl (bl_X10_changeOver_2 O E n  n x1 (0 : Int32) σ  h)
-- ==== Trial.weigh(LWaterTown$Stand;)V
def s_X10_weigh_34 (n : Nat) (rc11 : Nat → Int32 → Int32 → Sg → Option Sg) (x1 : Nat) (x2 : Int32) (x3 : Int32) (y0 : Int32) (y1 : Int32) (σ : Sg) : Option Sg := ck y1 64 (lt (up2 σ 54 (ix y1) y0) fun σ5 => if x3 = 0 then (rc11 x1 x2 (x3 + (-1 : Int32)) σ5) else (bdv (s_X7_startAs n 56 x1 σ5) fun σ6 => bdv (s_X10_changeOver n x3 σ6) fun σ7 => bd (s_X10_dryOfDay n (24 : Int32) (1 : Int32) (0 : Int32) (0 : Int32) σ7) fun r9 σ8 => ck x3 64 (lt (up2 σ8 53 (ix x3) r9) fun σ10 => rc11 x1 x2 (x3 + (-1 : Int32)) σ10)))
def s_X10_weigh_11b (n : Nat) (rc11 : Nat → Int32 → Int32 → Sg → Option Sg) (x1 : Nat) (x2 : Int32) (x3 : Int32) (σ : Sg) : Option Sg := if x3 < 0 then (ck (0 : Int32) 64 (lt (up2 σ 51 13 (σ 54 (ix (0 : Int32)))) fun σ2 => some σ2)) else (if x3 = x2 then (s_X10_weigh_34 n rc11 x1 x2 x3 (0 : Int32) x3 σ) else (bd (s_X10_leastBehind n x3 σ) fun r4 σ3 => s_X10_weigh_34 n rc11 x1 x2 x3 r4 x3 σ3))
def s_X10_weigh_11 (n : Nat) : Nat → Nat → Int32 → Int32 → Sg → Option Sg
  | 0 => fun _ _ _ _ => none
  | k + 1 => s_X10_weigh_11b n (s_X10_weigh_11 n k)
def s_X10_weigh (n : Nat) (x1 : Nat) (σ : Sg) : Option Sg := lt ((sl (1 : Int32) (σ 51 12)) - (1 : Int32)) fun v1 => s_X10_weigh_11 n n x1 v1 v1 σ
set_option maxRecDepth 20000 in
theorem b_X10_weigh_34 {G : zG} {x : zX} {τ : Sg} (O : zO G x cX10_weigh RX10 5 200 4) (E : zE G x none none τ) (n : Nat) (rc11 : Nat → Int32 → Int32 → Sg → Option Sg) (H11 : ∀ (x1 : Nat) (x2 : Int32) (x3 : Int32) (σ : Sg), zStand x1 → rc11 x1 x2 x3 σ = some τ → V G x σ [(0, .ref (zad G 51)), (1, .ref (zad G x1)), (2, .int x2), (3, .int x3)] 11 []) (x1 : Nat) (x2 : Int32) (x3 : Int32) (y0 : Int32) (y1 : Int32) (σ : Sg) (hx1 : zStand x1) (h : s_X10_weigh_34 n rc11 x1 x2 x3 y0 y1 σ = some τ) : V G x σ [(0, .ref (zad G 51)), (1, .ref (zad G x1)), (2, .int x2), (3, .int x3)] 34 [.int y0, .int y1, .ref (zad G 54)] := by
  unfold s_X10_weigh_34 at h
  refine V_iast 34 O k54 dX10_weigh_34 h (fun σ5 h => ?_)
  refine V_iloadn 35 3 O dX10_weigh_35 rfl rfl ?_
  refine V_if_eq 36 67 O dX10_weigh_36 rfl h (fun h => ?_) (fun h => ?_)
  · refine V_iinc 67 3 [1, 2, 3, 0] [(0, .ref (zad G 51)), (1, .ref (zad G x1)), (2, .int x2), (3, .int (x3 + (-1 : Int32)))] O dX10_weigh_67 rfl ci_m1 (Nat.le_of_ble_eq_true rfl) rfl ?_
    refine V_goto 70 11 O dX10_weigh_70 rfl ?_
    exact V_sub [0, 1, 2, 3] rfl (H11 x1 x2 (x3 + (-1 : Int32)) σ5 hx1 h)
  · refine V_aloadn 39 0 O dX10_weigh_39 rfl rfl ?_
    refine V_getR 40 O k51 fl_X10_12 rf51_3 dX10_weigh_40 ?_
    refine V_aloadn 43 1 O dX10_weigh_43 rfl rfl ?_
    obtain ⟨σ6, g, h⟩ := bdv_of h
    refine V_callVv 44 [.ref (zad G x1)] [] O mf_X7_startAs lk_X10_60 k56 dX10_weigh_44 rfl rfl (Nat.le_of_ble_eq_true rfl) ⟨(Nat.le_of_ble_eq_true rfl), (Nat.le_of_ble_eq_true rfl)⟩ (fun l => C_X7_startAs zStand56 hx1 g) ?_
    refine V_aloadn 47 0 O dX10_weigh_47 rfl rfl ?_
    refine V_iloadn 48 3 O dX10_weigh_48 rfl rfl ?_
    obtain ⟨σ7, g, h⟩ := bdv_of h
    refine V_callVv 49 [.int x3] [] O mf_X10_changeOver lk_X10_123 k51 dX10_weigh_49 rfl rfl (Nat.le_of_ble_eq_true rfl) ⟨(Nat.le_of_ble_eq_true rfl), (Nat.le_of_ble_eq_true rfl)⟩ (fun l => C_X10_changeOver  g) ?_
    refine V_aloadn 52 0 O dX10_weigh_52 rfl rfl ?_
    refine V_getR 53 O k51 fl_X10_32 rf51_7 dX10_weigh_53 ?_
    refine V_iloadn 56 3 O dX10_weigh_56 rfl rfl ?_
    refine V_aloadn 57 0 O dX10_weigh_57 rfl rfl ?_
    refine V_bipush 58 O dX10_weigh_58 cb_24 ?_
    refine V_iconst 60 O dX10_weigh_60 ci_1 ?_
    refine V_iconst 61 O dX10_weigh_61 ci_0 ?_
    refine V_iconst 62 O dX10_weigh_62 ci_0 ?_
    obtain ⟨r9, σ8, g, h⟩ := bd_of h
    refine V_callVi 63 [.int (24 : Int32), .int (1 : Int32), .int (0 : Int32), .int (0 : Int32)] [.int x3, .ref (zad G 53)] O mf_X10_dryOfDay lk_X10_87 k51 dX10_weigh_63 rfl rfl (Nat.le_of_ble_eq_true rfl) ⟨(Nat.le_of_ble_eq_true rfl), (Nat.le_of_ble_eq_true rfl)⟩ (fun l => C_X10_dryOfDay  g) ?_
    refine V_iast 66 O k53 dX10_weigh_66 h (fun σ10 h => ?_)
    refine V_iinc 67 3 [1, 2, 3, 0] [(0, .ref (zad G 51)), (1, .ref (zad G x1)), (2, .int x2), (3, .int (x3 + (-1 : Int32)))] O dX10_weigh_67 rfl ci_m1 (Nat.le_of_ble_eq_true rfl) rfl ?_
    refine V_goto 70 11 O dX10_weigh_70 rfl ?_
    exact V_sub [0, 1, 2, 3] rfl (H11 x1 x2 (x3 + (-1 : Int32)) σ10 hx1 h)
set_option maxRecDepth 20000 in
theorem b_X10_weigh_11 {G : zG} {x : zX} {τ : Sg} (O : zO G x cX10_weigh RX10 5 200 4) (E : zE G x none none τ) (n : Nat) (rc11 : Nat → Int32 → Int32 → Sg → Option Sg) (H11 : ∀ (x1 : Nat) (x2 : Int32) (x3 : Int32) (σ : Sg), zStand x1 → rc11 x1 x2 x3 σ = some τ → V G x σ [(0, .ref (zad G 51)), (1, .ref (zad G x1)), (2, .int x2), (3, .int x3)] 11 []) (x1 : Nat) (x2 : Int32) (x3 : Int32) (σ : Sg) (hx1 : zStand x1) (h : s_X10_weigh_11b n rc11 x1 x2 x3 σ = some τ) : V G x σ [(0, .ref (zad G 51)), (1, .ref (zad G x1)), (2, .int x2), (3, .int x3)] 11 [] := by
  unfold s_X10_weigh_11b at h
  refine V_iloadn 11 3 O dX10_weigh_11 rfl rfl ?_
  refine V_if_lt 12 73 O dX10_weigh_12 rfl h (fun h => ?_) (fun h => ?_)
  · refine V_aloadn 73 0 O dX10_weigh_73 rfl rfl ?_
    refine V_aloadn 74 0 O dX10_weigh_74 rfl rfl ?_
    refine V_getR 75 O k51 fl_X10_35 rf51_8 dX10_weigh_75 ?_
    refine V_iconst 78 O dX10_weigh_78 ci_0 ?_
    refine V_iald 79 O k54 dX10_weigh_79 h (fun h => ?_)
    refine V_put 80 O k51 fp_X10_127 dX10_weigh_80 h (fun σ2 h => ?_)
    exact V_vret 83 O E dX10_weigh_83 h
  · refine V_aloadn 15 0 O dX10_weigh_15 rfl rfl ?_
    refine V_getR 16 O k51 fl_X10_35 rf51_8 dX10_weigh_16 ?_
    refine V_iloadn 19 3 O dX10_weigh_19 rfl rfl ?_
    refine V_iloadn 20 3 O dX10_weigh_20 rfl rfl ?_
    refine V_iloadn 21 2 O dX10_weigh_21 rfl rfl ?_
    refine V_icmp_ne 22 29 O dX10_weigh_22 rfl h (fun h => ?_) (fun h => ?_)
    · refine V_aloadn 29 0 O dX10_weigh_29 rfl rfl ?_
      refine V_iloadn 30 3 O dX10_weigh_30 rfl rfl ?_
      obtain ⟨r4, σ3, g, h⟩ := bd_of h
      refine V_callVi 31 [.int x3] [.int x3, .ref (zad G 54)] O mf_X10_leastBehind lk_X10_119 k51 dX10_weigh_31 rfl rfl (Nat.le_of_ble_eq_true rfl) ⟨(Nat.le_of_ble_eq_true rfl), (Nat.le_of_ble_eq_true rfl)⟩ (fun l => C_X10_leastBehind  g) ?_
      exact V_sub [0, 1, 2, 3] rfl (b_X10_weigh_34 O E n rc11 H11 x1 x2 x3 r4 x3 σ3 hx1 h)
    · refine V_iconst 25 O dX10_weigh_25 ci_0 ?_
      refine V_goto 26 34 O dX10_weigh_26 rfl ?_
      exact V_sub [0, 1, 2, 3] rfl (b_X10_weigh_34 O E n rc11 H11 x1 x2 x3 (0 : Int32) x3 σ hx1 h)
theorem bl_X10_weigh_11 {G : zG} {x : zX} {τ : Sg} (O : zO G x cX10_weigh RX10 5 200 4) (E : zE G x none none τ) (n : Nat) : ∀ (k : Nat) (x1 : Nat) (x2 : Int32) (x3 : Int32) (σ : Sg), zStand x1 → s_X10_weigh_11 n k x1 x2 x3 σ = some τ → V G x σ [(0, .ref (zad G 51)), (1, .ref (zad G x1)), (2, .int x2), (3, .int x3)] 11 [] := by
  intro k
  induction k with
  | zero => intro x1 x2 x3 σ hx1 h; cases h
  | succ k ih => intro x1 x2 x3 σ hx1 h; exact b_X10_weigh_11 O E n  (s_X10_weigh_11 n  k) ih x1 x2 x3 σ hx1 h
set_option maxRecDepth 20000 in
theorem C_X10_weigh {l : Launch} {G : zG} {n : Nat} {x1 : Nat} {σ : Sg} {τ : Sg} (hx1 : zStand x1) (h : s_X10_weigh n x1 σ = some τ) : zM l G 5 yX10_weigh (.code yX10_weigh cX10_weigh 4 none) [.ref (zad G 51), .ref (zad G x1)] σ none τ := by
  refine zM_of (by decide) (Nat.le_of_ble_eq_true rfl) (fun x O E => ?_)
  have O : zO G x cX10_weigh RX10 5 200 4 := O
  unfold s_X10_weigh at h
  show V G x σ [(0, .ref (zad G 51)), (1, .ref (zad G x1))] 0 []
  refine V_iconst 0 O dX10_weigh_0 ci_1 ?_
  refine V_aloadn 1 0 O dX10_weigh_1 rfl rfl ?_
  refine V_getI 2 O k51 fl_X10_111 dX10_weigh_2 ?_
  refine V_ishl 5 O dX10_weigh_5 ?_
  refine V_iconst 6 O dX10_weigh_6 ci_1 ?_
  refine V_isub 7 O dX10_weigh_7 ?_
  refine V_topi h (fun v1 h => ?_)
  refine V_istoren 8 [1, 2, 0] [(0, .ref (zad G 51)), (1, .ref (zad G x1)), (2, .int v1)] O dX10_weigh_8 rfl (Nat.le_of_ble_eq_true rfl) rfl ?_
  refine V_iloadn 9 2 O dX10_weigh_9 rfl rfl ?_
  refine V_istoren 10 [1, 2, 3, 0] [(0, .ref (zad G 51)), (1, .ref (zad G x1)), (2, .int v1), (3, .int v1)] O dX10_weigh_10 rfl (Nat.le_of_ble_eq_true rfl) rfl ?_
  exact V_sub [0, 1, 2, 3] rfl (bl_X10_weigh_11 O E n  n x1 v1 v1 σ hx1 h)
-- ==== Trial.firstBest(I)I
def s_X10_firstBest_2b (n : Nat) (rc2 : Int32 → Int32 → Sg → Option (Int32 × Sg)) (x1 : Int32) (x2 : Int32) (σ : Sg) : Option (Int32 × Sg) := if (σ 51 12) ≤ x2 then (some ((0 : Int32), σ)) else (lt (x1 ||| (sl (1 : Int32) x2)) fun v1 => if v1 = x1 then (rc2 x1 (x2 + (1 : Int32)) σ) else (ck v1 64 (ck v1 64 (ck x1 64 (if ((σ 53 (ix v1)) + (σ 54 (ix v1))) = (σ 54 (ix x1)) then (some (x2, σ)) else (rc2 x1 (x2 + (1 : Int32)) σ))))))
def s_X10_firstBest_2 (n : Nat) : Nat → Int32 → Int32 → Sg → Option (Int32 × Sg)
  | 0 => fun _ _ _ => none
  | k + 1 => s_X10_firstBest_2b n (s_X10_firstBest_2 n k)
def s_X10_firstBest (n : Nat) (x1 : Int32) (σ : Sg) : Option (Int32 × Sg) := s_X10_firstBest_2 n n x1 (0 : Int32) σ
set_option maxRecDepth 20000 in
theorem b_X10_firstBest_2 {G : zG} {x : zX} {r : Int32} {τ : Sg} (O : zO G x cX10_firstBest RX10 0 0 4) (E : zE G x (some (.int)) (some (.int r)) τ) (n : Nat) (rc2 : Int32 → Int32 → Sg → Option (Int32 × Sg)) (H2 : ∀ (x1 : Int32) (x2 : Int32) (σ : Sg), rc2 x1 x2 σ = some (r, τ) → V G x σ [(0, .ref (zad G 51)), (1, .int x1), (2, .int x2)] 2 []) (x1 : Int32) (x2 : Int32) (σ : Sg) (h : s_X10_firstBest_2b n rc2 x1 x2 σ = some (r, τ)) : V G x σ [(0, .ref (zad G 51)), (1, .int x1), (2, .int x2)] 2 [] := by
  unfold s_X10_firstBest_2b at h
  refine V_iloadn 2 2 O dX10_firstBest_2 rfl rfl ?_
  refine V_aloadn 3 0 O dX10_firstBest_3 rfl rfl ?_
  refine V_getI 4 O k51 fl_X10_111 dX10_firstBest_4 ?_
  refine V_icmp_ge 7 51 O dX10_firstBest_7 rfl h (fun h => ?_) (fun h => ?_)
  · refine V_iconst 51 O dX10_firstBest_51 ci_0 ?_
    exact V_iret 52 O E dX10_firstBest_52 h
  · refine V_iloadn 10 1 O dX10_firstBest_10 rfl rfl ?_
    refine V_iconst 11 O dX10_firstBest_11 ci_1 ?_
    refine V_iloadn 12 2 O dX10_firstBest_12 rfl rfl ?_
    refine V_ishl 13 O dX10_firstBest_13 ?_
    refine V_ior 14 O dX10_firstBest_14 ?_
    refine V_topi h (fun v1 h => ?_)
    refine V_istoren 15 [1, 2, 3, 0] [(0, .ref (zad G 51)), (1, .int x1), (2, .int x2), (3, .int v1)] O dX10_firstBest_15 rfl (Nat.le_of_ble_eq_true rfl) rfl ?_
    refine V_iloadn 16 3 O dX10_firstBest_16 rfl rfl ?_
    refine V_iloadn 17 1 O dX10_firstBest_17 rfl rfl ?_
    refine V_icmp_eq 18 45 O dX10_firstBest_18 rfl h (fun h => ?_) (fun h => ?_)
    · refine V_iinc 45 2 [1, 2, 0, 3] [(0, .ref (zad G 51)), (1, .int x1), (2, .int (x2 + (1 : Int32))), (3, .int v1)] O dX10_firstBest_45 rfl ci_1 (Nat.le_of_ble_eq_true rfl) rfl ?_
      refine V_goto 48 2 O dX10_firstBest_48 rfl ?_
      exact V_sub [0, 1, 2] rfl (H2 x1 (x2 + (1 : Int32)) σ  h)
    · refine V_aloadn 21 0 O dX10_firstBest_21 rfl rfl ?_
      refine V_getR 22 O k51 fl_X10_32 rf51_7 dX10_firstBest_22 ?_
      refine V_iloadn 25 3 O dX10_firstBest_25 rfl rfl ?_
      refine V_iald 26 O k53 dX10_firstBest_26 h (fun h => ?_)
      refine V_aloadn 27 0 O dX10_firstBest_27 rfl rfl ?_
      refine V_getR 28 O k51 fl_X10_35 rf51_8 dX10_firstBest_28 ?_
      refine V_iloadn 31 3 O dX10_firstBest_31 rfl rfl ?_
      refine V_iald 32 O k54 dX10_firstBest_32 h (fun h => ?_)
      refine V_iadd 33 O dX10_firstBest_33 ?_
      refine V_aloadn 34 0 O dX10_firstBest_34 rfl rfl ?_
      refine V_getR 35 O k51 fl_X10_35 rf51_8 dX10_firstBest_35 ?_
      refine V_iloadn 38 1 O dX10_firstBest_38 rfl rfl ?_
      refine V_iald 39 O k54 dX10_firstBest_39 h (fun h => ?_)
      refine V_icmp_ne 40 45 O dX10_firstBest_40 rfl h (fun h => ?_) (fun h => ?_)
      · refine V_iinc 45 2 [1, 2, 0, 3] [(0, .ref (zad G 51)), (1, .int x1), (2, .int (x2 + (1 : Int32))), (3, .int v1)] O dX10_firstBest_45 rfl ci_1 (Nat.le_of_ble_eq_true rfl) rfl ?_
        refine V_goto 48 2 O dX10_firstBest_48 rfl ?_
        exact V_sub [0, 1, 2] rfl (H2 x1 (x2 + (1 : Int32)) σ  h)
      · refine V_iloadn 43 2 O dX10_firstBest_43 rfl rfl ?_
        exact V_iret 44 O E dX10_firstBest_44 h
theorem bl_X10_firstBest_2 {G : zG} {x : zX} {r : Int32} {τ : Sg} (O : zO G x cX10_firstBest RX10 0 0 4) (E : zE G x (some (.int)) (some (.int r)) τ) (n : Nat) : ∀ (k : Nat) (x1 : Int32) (x2 : Int32) (σ : Sg), s_X10_firstBest_2 n k x1 x2 σ = some (r, τ) → V G x σ [(0, .ref (zad G 51)), (1, .int x1), (2, .int x2)] 2 [] := by
  intro k
  induction k with
  | zero => intro x1 x2 σ  h; cases h
  | succ k ih => intro x1 x2 σ  h; exact b_X10_firstBest_2 O E n  (s_X10_firstBest_2 n  k) ih x1 x2 σ  h
set_option maxRecDepth 20000 in
theorem C_X10_firstBest {l : Launch} {G : zG} {n : Nat} {x1 : Int32} {σ : Sg} {r : Int32} {τ : Sg} (h : s_X10_firstBest n x1 σ = some (r, τ)) : zM l G 0 yX10_firstBest (.code yX10_firstBest cX10_firstBest 4 (some (.int))) [.ref (zad G 51), .int x1] σ (some (.int r)) τ := by
  refine zM_of (by decide) (Nat.le_of_ble_eq_true rfl) (fun x O E => ?_)
  have O : zO G x cX10_firstBest RX10 0 0 4 := O
  unfold s_X10_firstBest at h
  show V G x σ [(0, .ref (zad G 51)), (1, .int x1)] 0 []
  refine V_iconst 0 O dX10_firstBest_0 ci_0 ?_
  refine V_istoren 1 [1, 2, 0] [(0, .ref (zad G 51)), (1, .int x1), (2, .int (0 : Int32))] O dX10_firstBest_1 rfl (Nat.le_of_ble_eq_true rfl) rfl ?_
  exact V_sub [0, 1, 2] rfl (bl_X10_firstBest_2 O E n  n x1 (0 : Int32) σ  h)
-- ==== Trial.follow()V
def s_X10_follow_4b (n : Nat) (rc4 : Int32 → Int32 → Sg → Option Sg) (x1 : Int32) (x2 : Int32) (σ : Sg) : Option Sg := if (σ 51 12) ≤ x2 then (some σ) else (bd (s_X10_firstBest n x1 σ) fun r2 σ1 => ck r2 6 (ck x2 6 (lt (up2 σ1 55 (ix x2) (σ1 52 (ix r2))) fun σ3 => lt (x1 ||| (sl (1 : Int32) r2)) fun v4 => rc4 v4 (x2 + (1 : Int32)) σ3)))
def s_X10_follow_4 (n : Nat) : Nat → Int32 → Int32 → Sg → Option Sg
  | 0 => fun _ _ _ => none
  | k + 1 => s_X10_follow_4b n (s_X10_follow_4 n k)
def s_X10_follow (n : Nat) (σ : Sg) : Option Sg := s_X10_follow_4 n n (0 : Int32) (0 : Int32) σ
set_option maxRecDepth 20000 in
theorem b_X10_follow_4 {G : zG} {x : zX} {τ : Sg} (O : zO G x cX10_follow RX10 1 40 4) (E : zE G x none none τ) (n : Nat) (rc4 : Int32 → Int32 → Sg → Option Sg) (H4 : ∀ (x1 : Int32) (x2 : Int32) (σ : Sg), rc4 x1 x2 σ = some τ → V G x σ [(0, .ref (zad G 51)), (1, .int x1), (2, .int x2)] 4 []) (x1 : Int32) (x2 : Int32) (σ : Sg) (h : s_X10_follow_4b n rc4 x1 x2 σ = some τ) : V G x σ [(0, .ref (zad G 51)), (1, .int x1), (2, .int x2)] 4 [] := by
  unfold s_X10_follow_4b at h
  refine V_iloadn 4 2 O dX10_follow_4 rfl rfl ?_
  refine V_aloadn 5 0 O dX10_follow_5 rfl rfl ?_
  refine V_getI 6 O k51 fl_X10_111 dX10_follow_6 ?_
  refine V_icmp_ge 9 42 O dX10_follow_9 rfl h (fun h => ?_) (fun h => ?_)
  · exact V_vret 42 O E dX10_follow_42 h
  · refine V_aloadn 12 0 O dX10_follow_12 rfl rfl ?_
    refine V_iloadn 13 1 O dX10_follow_13 rfl rfl ?_
    obtain ⟨r2, σ1, g, h⟩ := bd_of h
    refine V_callVi 14 [.int x1] [] O mf_X10_firstBest lk_X10_133 k51 dX10_follow_14 rfl rfl (Nat.le_of_ble_eq_true rfl) ⟨(Nat.le_of_ble_eq_true rfl), (Nat.le_of_ble_eq_true rfl)⟩ (fun l => C_X10_firstBest  g) ?_
    refine V_istoren 17 [1, 2, 3, 0] [(0, .ref (zad G 51)), (1, .int x1), (2, .int x2), (3, .int r2)] O dX10_follow_17 rfl (Nat.le_of_ble_eq_true rfl) rfl ?_
    refine V_aloadn 18 0 O dX10_follow_18 rfl rfl ?_
    refine V_getR 19 O k51 fl_X10_45 rf51_11 dX10_follow_19 ?_
    refine V_iloadn 22 2 O dX10_follow_22 rfl rfl ?_
    refine V_aloadn 23 0 O dX10_follow_23 rfl rfl ?_
    refine V_getR 24 O k51 fl_X10_28 rf51_6 dX10_follow_24 ?_
    refine V_iloadn 27 3 O dX10_follow_27 rfl rfl ?_
    refine V_iald 28 O k52 dX10_follow_28 h (fun h => ?_)
    refine V_iast 29 O k55 dX10_follow_29 h (fun σ3 h => ?_)
    refine V_iloadn 30 1 O dX10_follow_30 rfl rfl ?_
    refine V_iconst 31 O dX10_follow_31 ci_1 ?_
    refine V_iloadn 32 3 O dX10_follow_32 rfl rfl ?_
    refine V_ishl 33 O dX10_follow_33 ?_
    refine V_ior 34 O dX10_follow_34 ?_
    refine V_topi h (fun v4 h => ?_)
    refine V_istoren 35 [1, 0, 2, 3] [(0, .ref (zad G 51)), (1, .int v4), (2, .int x2), (3, .int r2)] O dX10_follow_35 rfl (Nat.le_of_ble_eq_true rfl) rfl ?_
    refine V_iinc 36 2 [1, 2, 0, 3] [(0, .ref (zad G 51)), (1, .int v4), (2, .int (x2 + (1 : Int32))), (3, .int r2)] O dX10_follow_36 rfl ci_1 (Nat.le_of_ble_eq_true rfl) rfl ?_
    refine V_goto 39 4 O dX10_follow_39 rfl ?_
    exact V_sub [0, 1, 2] rfl (H4 v4 (x2 + (1 : Int32)) σ3  h)
theorem bl_X10_follow_4 {G : zG} {x : zX} {τ : Sg} (O : zO G x cX10_follow RX10 1 40 4) (E : zE G x none none τ) (n : Nat) : ∀ (k : Nat) (x1 : Int32) (x2 : Int32) (σ : Sg), s_X10_follow_4 n k x1 x2 σ = some τ → V G x σ [(0, .ref (zad G 51)), (1, .int x1), (2, .int x2)] 4 [] := by
  intro k
  induction k with
  | zero => intro x1 x2 σ  h; cases h
  | succ k ih => intro x1 x2 σ  h; exact b_X10_follow_4 O E n  (s_X10_follow_4 n  k) ih x1 x2 σ  h
set_option maxRecDepth 20000 in
theorem C_X10_follow {l : Launch} {G : zG} {n : Nat} {σ : Sg} {τ : Sg} (h : s_X10_follow n σ = some τ) : zM l G 1 yX10_follow (.code yX10_follow cX10_follow 4 none) [.ref (zad G 51)] σ none τ := by
  refine zM_of (by decide) (Nat.le_of_ble_eq_true rfl) (fun x O E => ?_)
  have O : zO G x cX10_follow RX10 1 40 4 := O
  unfold s_X10_follow at h
  show V G x σ [(0, .ref (zad G 51))] 0 []
  refine V_iconst 0 O dX10_follow_0 ci_0 ?_
  refine V_istoren 1 [1, 0] [(0, .ref (zad G 51)), (1, .int (0 : Int32))] O dX10_follow_1 rfl (Nat.le_of_ble_eq_true rfl) rfl ?_
  refine V_iconst 2 O dX10_follow_2 ci_0 ?_
  refine V_istoren 3 [1, 2, 0] [(0, .ref (zad G 51)), (1, .int (0 : Int32)), (2, .int (0 : Int32))] O dX10_follow_3 rfl (Nat.le_of_ble_eq_true rfl) rfl ?_
  exact V_sub [0, 1, 2] rfl (bl_X10_follow_4 O E n  n (0 : Int32) (0 : Int32) σ  h)
-- ==== WaterTown.isNode(I)Z
def s_X11_isNode_14 (n : Nat) (σ : Sg) : Option (Int32 × Sg) := some ((0 : Int32), σ)
def s_X11_isNode (n : Nat) (x0 : Int32) (σ : Sg) : Option (Int32 × Sg) := if x0 < 0 then (s_X11_isNode_14 n σ) else (if (10 : Int32) ≤ x0 then (s_X11_isNode_14 n σ) else (some ((1 : Int32), σ)))
set_option maxRecDepth 20000 in
theorem b_X11_isNode_14 {G : zG} {x : zX} {r : Int32} {τ : Sg} (O : zO G x cX11_isNode RX11 0 0 1) (E : zE G x (some (.boolean)) (some (.int r)) τ) (n : Nat) (σ : Sg) (h : s_X11_isNode_14 n σ = some (r, τ)) : V G x σ [] 14 [] := by
  unfold s_X11_isNode_14 at h
  refine V_iconst 14 O dX11_isNode_14 ci_0 ?_
  exact V_zret0 15 O E dX11_isNode_15 h
set_option maxRecDepth 20000 in
theorem C_X11_isNode {l : Launch} {G : zG} {n : Nat} {x0 : Int32} {σ : Sg} {r : Int32} {τ : Sg} (h : s_X11_isNode n x0 σ = some (r, τ)) : zM l G 0 yX11_isNode (.code yX11_isNode cX11_isNode 1 (some (.boolean))) [.int x0] σ (some (.int r)) τ := by
  refine zM_of (by decide) (Nat.le_of_ble_eq_true rfl) (fun x O E => ?_)
  have O : zO G x cX11_isNode RX11 0 0 1 := O
  unfold s_X11_isNode at h
  show V G x σ [(0, .int x0)] 0 []
  refine V_iloadn 0 0 O dX11_isNode_0 rfl rfl ?_
  refine V_if_lt 1 14 O dX11_isNode_1 rfl h (fun h => ?_) (fun h => ?_)
  · exact V_sub [] rfl (b_X11_isNode_14 O E n   σ  h)
  · refine V_iloadn 4 0 O dX11_isNode_4 rfl rfl ?_
    refine V_bipush 5 O dX11_isNode_5 cb_10 ?_
    refine V_icmp_ge 7 14 O dX11_isNode_7 rfl h (fun h => ?_) (fun h => ?_)
    · exact V_sub [] rfl (b_X11_isNode_14 O E n   σ  h)
    · refine V_iconst 10 O dX11_isNode_10 ci_1 ?_
      refine V_goto 11 15 O dX11_isNode_11 rfl ?_
      exact V_zret1 15 O E dX11_isNode_15 h
-- ==== WaterTown.pipe(IIII)I
def s_X11_pipe (n : Nat) (x1 : Int32) (x2 : Int32) (x3 : Int32) (x4 : Int32) (σ : Sg) : Option (Int32 × Sg) := bd (s_X11_isNode n x1 σ) fun r2 σ1 => if r2 = 0 then (some ((-1001 : Int32), σ1)) else (bd (s_X11_isNode n x2 σ1) fun r4 σ3 => if r4 = 0 then (some ((-1001 : Int32), σ3)) else (if x1 = x2 then (some ((-1002 : Int32), σ3)) else (bd (s_X11_isOutside n x3 (1 : Int32) (999 : Int32) σ3) fun r6 σ5 => if r6 = 0 then (bd (s_X11_isOutside n x4 (0 : Int32) (99 : Int32) σ5) fun r8 σ7 => if r8 = 0 then (if (σ7 3 0) < (20 : Int32) then (lt (up2 σ7 0 15 ((σ7 0 15) + (1 : Int32))) fun σ9 => bd (s_X4_lay n x1 x2 x3 x4 σ9) fun r11 σ10 => some (r11, σ10)) else (some ((-1004 : Int32), σ7))) else (some ((-1002 : Int32), σ7))) else (some ((-1002 : Int32), σ5)))))
set_option maxRecDepth 20000 in
theorem C_X11_pipe {l : Launch} {G : zG} {n : Nat} {x1 : Int32} {x2 : Int32} {x3 : Int32} {x4 : Int32} {σ : Sg} {r : Int32} {τ : Sg} (h : s_X11_pipe n x1 x2 x3 x4 σ = some (r, τ)) : zM l G 1 yX11_pipe (.code yX11_pipe cX11_pipe 5 (some (.int))) [.ref (zad G 0), .int x1, .int x2, .int x3, .int x4] σ (some (.int r)) τ := by
  refine zM_of (by decide) (Nat.le_of_ble_eq_true rfl) (fun x O E => ?_)
  have O : zO G x cX11_pipe RX11 1 40 5 := O
  unfold s_X11_pipe at h
  show V G x σ [(0, .ref (zad G 0)), (1, .int x1), (2, .int x2), (3, .int x3), (4, .int x4)] 0 []
  refine V_iloadn 0 1 O dX11_pipe_0 rfl rfl ?_
  obtain ⟨r2, σ1, g, h⟩ := bd_of h
  refine V_callSi 1 [.int x1] [] O mf_X11_isNode lk_X11_90 dX11_pipe_1 rfl rfl (Nat.le_of_ble_eq_true rfl) ⟨(Nat.le_of_ble_eq_true rfl), (Nat.le_of_ble_eq_true rfl)⟩ (fun l => C_X11_isNode  g) ?_
  refine V_if_eq 4 14 O dX11_pipe_4 rfl h (fun h => ?_) (fun h => ?_)
  · refine V_sipush 14 O dX11_pipe_14 cs_m1001 ?_
    exact V_iret 17 O E dX11_pipe_17 h
  · refine V_iloadn 7 2 O dX11_pipe_7 rfl rfl ?_
    obtain ⟨r4, σ3, g, h⟩ := bd_of h
    refine V_callSi 8 [.int x2] [] O mf_X11_isNode lk_X11_90 dX11_pipe_8 rfl rfl (Nat.le_of_ble_eq_true rfl) ⟨(Nat.le_of_ble_eq_true rfl), (Nat.le_of_ble_eq_true rfl)⟩ (fun l => C_X11_isNode  g) ?_
    refine V_if_ne 11 18 O dX11_pipe_11 rfl h (fun h => ?_) (fun h => ?_)
    · refine V_iloadn 18 1 O dX11_pipe_18 rfl rfl ?_
      refine V_iloadn 19 2 O dX11_pipe_19 rfl rfl ?_
      refine V_icmp_eq 20 45 O dX11_pipe_20 rfl h (fun h => ?_) (fun h => ?_)
      · refine V_sipush 45 O dX11_pipe_45 cs_m1002 ?_
        exact V_iret 48 O E dX11_pipe_48 h
      · refine V_iloadn 23 3 O dX11_pipe_23 rfl rfl ?_
        refine V_iconst 24 O dX11_pipe_24 ci_1 ?_
        refine V_sipush 25 O dX11_pipe_25 cs_999 ?_
        obtain ⟨r6, σ5, g, h⟩ := bd_of h
        refine V_callSi 28 [.int x3, .int (1 : Int32), .int (999 : Int32)] [] O mf_X11_isOutside lk_X11_94 dX11_pipe_28 rfl rfl (Nat.le_of_ble_eq_true rfl) ⟨(Nat.le_of_ble_eq_true rfl), (Nat.le_of_ble_eq_true rfl)⟩ (fun l => C_X11_isOutside  g) ?_
        refine V_if_ne 31 45 O dX11_pipe_31 rfl h (fun h => ?_) (fun h => ?_)
        · refine V_sipush 45 O dX11_pipe_45 cs_m1002 ?_
          exact V_iret 48 O E dX11_pipe_48 h
        · refine V_iload 34 4 O dX11_pipe_34 rfl ?_
          refine V_iconst 36 O dX11_pipe_36 ci_0 ?_
          refine V_bipush 37 O dX11_pipe_37 cb_99 ?_
          obtain ⟨r8, σ7, g, h⟩ := bd_of h
          refine V_callSi 39 [.int x4, .int (0 : Int32), .int (99 : Int32)] [] O mf_X11_isOutside lk_X11_94 dX11_pipe_39 rfl rfl (Nat.le_of_ble_eq_true rfl) ⟨(Nat.le_of_ble_eq_true rfl), (Nat.le_of_ble_eq_true rfl)⟩ (fun l => C_X11_isOutside  g) ?_
          refine V_if_eq 42 49 O dX11_pipe_42 rfl h (fun h => ?_) (fun h => ?_)
          · refine V_aloadn 49 0 O dX11_pipe_49 rfl rfl ?_
            refine V_getR 50 O k0 fl_X11_10 rf0_0 dX11_pipe_50 ?_
            refine V_getI 53 O k3 fl_X11_98 dX11_pipe_53 ?_
            refine V_bipush 56 O dX11_pipe_56 cb_20 ?_
            refine V_icmp_lt 58 65 O dX11_pipe_58 rfl h (fun h => ?_) (fun h => ?_)
            · refine V_aloadn 65 0 O dX11_pipe_65 rfl rfl ?_
              refine V_dup 66 O dX11_pipe_66 rfl ?_
              refine V_getI 67 O k0 fl_X11_102 dX11_pipe_67 ?_
              refine V_iconst 70 O dX11_pipe_70 ci_1 ?_
              refine V_iadd 71 O dX11_pipe_71 ?_
              refine V_put 72 O k0 fp_X11_102 dX11_pipe_72 h (fun σ9 h => ?_)
              refine V_aloadn 75 0 O dX11_pipe_75 rfl rfl ?_
              refine V_getR 76 O k0 fl_X11_10 rf0_0 dX11_pipe_76 ?_
              refine V_iloadn 79 1 O dX11_pipe_79 rfl rfl ?_
              refine V_iloadn 80 2 O dX11_pipe_80 rfl rfl ?_
              refine V_iloadn 81 3 O dX11_pipe_81 rfl rfl ?_
              refine V_iload 82 4 O dX11_pipe_82 rfl ?_
              obtain ⟨r11, σ10, g, h⟩ := bd_of h
              refine V_callVi 84 [.int x1, .int x2, .int x3, .int x4] [] O mf_X4_lay lk_X11_105 k3 dX11_pipe_84 rfl rfl (Nat.le_of_ble_eq_true rfl) ⟨(Nat.le_of_ble_eq_true rfl), (Nat.le_of_ble_eq_true rfl)⟩ (fun l => C_X4_lay  g) ?_
              exact V_iret 87 O E dX11_pipe_87 h
            · refine V_sipush 61 O dX11_pipe_61 cs_m1004 ?_
              exact V_iret 64 O E dX11_pipe_64 h
          · refine V_sipush 45 O dX11_pipe_45 cs_m1002 ?_
            exact V_iret 48 O E dX11_pipe_48 h
    · refine V_sipush 14 O dX11_pipe_14 cs_m1001 ?_
      exact V_iret 17 O E dX11_pipe_17 h
-- ==== WaterTown.shut(IZ)I
def s_X11_shut (n : Nat) (x1 : Int32) (x2 : Int32) (σ : Sg) : Option (Int32 × Sg) := bd (s_X4_has n x1 σ) fun r2 σ1 => if r2 = 0 then (some ((-1001 : Int32), σ1)) else (lt ((sr (σ1 3 1) x1) &&& (1 : Int32)) fun v3 => lt (up2 σ1 0 15 ((σ1 0 15) + (1 : Int32))) fun σ4 => lt (if x2 = 0 then (σ4 3 1) &&& ((sl (1 : Int32) x1) ^^^ (-1 : Int32)) else (σ4 3 1) ||| (sl (1 : Int32) x1)) fun v7 => lt (up2 σ4 3 1 v7) fun σ8 => some (v3, σ8))
set_option maxRecDepth 20000 in
theorem C_X11_shut {l : Launch} {G : zG} {n : Nat} {x1 : Int32} {x2 : Int32} {σ : Sg} {r : Int32} {τ : Sg} (h : s_X11_shut n x1 x2 σ = some (r, τ)) : zM l G 1 yX11_shut (.code yX11_shut cX11_shut 4 (some (.int))) [.ref (zad G 0), .int x1, .int x2] σ (some (.int r)) τ := by
  refine zM_of (by decide) (Nat.le_of_ble_eq_true rfl) (fun x O E => ?_)
  have O : zO G x cX11_shut RX11 1 40 4 := O
  unfold s_X11_shut at h
  show V G x σ [(0, .ref (zad G 0)), (1, .int x1), (2, .int x2)] 0 []
  refine V_aloadn 0 0 O dX11_shut_0 rfl rfl ?_
  refine V_getR 1 O k0 fl_X11_10 rf0_0 dX11_shut_1 ?_
  refine V_iloadn 4 1 O dX11_shut_4 rfl rfl ?_
  obtain ⟨r2, σ1, g, h⟩ := bd_of h
  refine V_callVi 5 [.int x1] [] O mf_X4_has lk_X11_109 k3 dX11_shut_5 rfl rfl (Nat.le_of_ble_eq_true rfl) ⟨(Nat.le_of_ble_eq_true rfl), (Nat.le_of_ble_eq_true rfl)⟩ (fun l => C_X4_has  g) ?_
  refine V_if_ne 8 15 O dX11_shut_8 rfl h (fun h => ?_) (fun h => ?_)
  · refine V_aloadn 15 0 O dX11_shut_15 rfl rfl ?_
    refine V_getR 16 O k0 fl_X11_10 rf0_0 dX11_shut_16 ?_
    refine V_getI 19 O k3 fl_X11_112 dX11_shut_19 ?_
    refine V_iloadn 22 1 O dX11_shut_22 rfl rfl ?_
    refine V_ishr 23 O dX11_shut_23 ?_
    refine V_iconst 24 O dX11_shut_24 ci_1 ?_
    refine V_iand 25 O dX11_shut_25 ?_
    refine V_topi h (fun v3 h => ?_)
    refine V_istoren 26 [1, 2, 3, 0] [(0, .ref (zad G 0)), (1, .int x1), (2, .int x2), (3, .int v3)] O dX11_shut_26 rfl (Nat.le_of_ble_eq_true rfl) rfl ?_
    refine V_aloadn 27 0 O dX11_shut_27 rfl rfl ?_
    refine V_dup 28 O dX11_shut_28 rfl ?_
    refine V_getI 29 O k0 fl_X11_102 dX11_shut_29 ?_
    refine V_iconst 32 O dX11_shut_32 ci_1 ?_
    refine V_iadd 33 O dX11_shut_33 ?_
    refine V_put 34 O k0 fp_X11_102 dX11_shut_34 h (fun σ4 h => ?_)
    refine V_aloadn 37 0 O dX11_shut_37 rfl rfl ?_
    refine V_getR 38 O k0 fl_X11_10 rf0_0 dX11_shut_38 ?_
    refine V_iloadn 41 2 O dX11_shut_41 rfl rfl ?_
    have J5 : V G x σ4 [(0, .ref (zad G 0)), (1, .int x1), (2, .int x2), (3, .int v3)] 72 [.int (if x2 = 0 then (σ4 3 1) &&& ((sl (1 : Int32) x1) ^^^ (-1 : Int32)) else (σ4 3 1) ||| (sl (1 : Int32) x1)), .ref (zad G 3)] := by
      refine V_topi h (fun v7 h => ?_)
      refine V_put 72 O k3 fp_X11_112 dX11_shut_72 h (fun σ8 h => ?_)
      refine V_iloadn 75 3 O dX11_shut_75 rfl rfl ?_
      exact V_iret 76 O E dX11_shut_76 h
    refine V_if_eqc 42 59 O dX11_shut_42 rfl (fun c6 => ?_) (fun c6 => ?_)
    · refine V_aloadn 59 0 O dX11_shut_59 rfl rfl ?_
      refine V_getR 60 O k0 fl_X11_10 rf0_0 dX11_shut_60 ?_
      refine V_getI 63 O k3 fl_X11_112 dX11_shut_63 ?_
      refine V_iconst 66 O dX11_shut_66 ci_1 ?_
      refine V_iloadn 67 1 O dX11_shut_67 rfl rfl ?_
      refine V_ishl 68 O dX11_shut_68 ?_
      refine V_iconst 69 O dX11_shut_69 ci_m1 ?_
      refine V_ixor 70 O dX11_shut_70 ?_
      refine V_iand 71 O dX11_shut_71 ?_
      exact V_top (by rw [if_pos c6]) J5
    · refine V_aloadn 45 0 O dX11_shut_45 rfl rfl ?_
      refine V_getR 46 O k0 fl_X11_10 rf0_0 dX11_shut_46 ?_
      refine V_getI 49 O k3 fl_X11_112 dX11_shut_49 ?_
      refine V_iconst 52 O dX11_shut_52 ci_1 ?_
      refine V_iloadn 53 1 O dX11_shut_53 rfl rfl ?_
      refine V_ishl 54 O dX11_shut_54 ?_
      refine V_ior 55 O dX11_shut_55 ?_
      refine V_goto 56 72 O dX11_shut_56 rfl ?_
      exact V_top (by rw [if_neg c6]) J5
  · refine V_sipush 11 O dX11_shut_11 cs_m1001 ?_
    exact V_iret 14 O E dX11_shut_14 h
-- ==== WaterTown.leak(II)I
def s_X11_leak (n : Nat) (x1 : Int32) (x2 : Int32) (σ : Sg) : Option (Int32 × Sg) := bd (s_X4_has n x1 σ) fun r2 σ1 => if r2 = 0 then (some ((-1001 : Int32), σ1)) else (bd (s_X11_isOutside n x2 (0 : Int32) (99 : Int32) σ1) fun r4 σ3 => if r4 = 0 then (ck x1 20 (lt (σ3 7 (ix x1)) fun v5 => lt (up2 σ3 0 15 ((σ3 0 15) + (1 : Int32))) fun σ6 => ck x1 20 (lt (up2 σ6 7 (ix x1) x2) fun σ7 => some (v5, σ7)))) else (some ((-1002 : Int32), σ3)))
set_option maxRecDepth 20000 in
theorem C_X11_leak {l : Launch} {G : zG} {n : Nat} {x1 : Int32} {x2 : Int32} {σ : Sg} {r : Int32} {τ : Sg} (h : s_X11_leak n x1 x2 σ = some (r, τ)) : zM l G 1 yX11_leak (.code yX11_leak cX11_leak 4 (some (.int))) [.ref (zad G 0), .int x1, .int x2] σ (some (.int r)) τ := by
  refine zM_of (by decide) (Nat.le_of_ble_eq_true rfl) (fun x O E => ?_)
  have O : zO G x cX11_leak RX11 1 40 4 := O
  unfold s_X11_leak at h
  show V G x σ [(0, .ref (zad G 0)), (1, .int x1), (2, .int x2)] 0 []
  refine V_aloadn 0 0 O dX11_leak_0 rfl rfl ?_
  refine V_getR 1 O k0 fl_X11_10 rf0_0 dX11_leak_1 ?_
  refine V_iloadn 4 1 O dX11_leak_4 rfl rfl ?_
  obtain ⟨r2, σ1, g, h⟩ := bd_of h
  refine V_callVi 5 [.int x1] [] O mf_X4_has lk_X11_109 k3 dX11_leak_5 rfl rfl (Nat.le_of_ble_eq_true rfl) ⟨(Nat.le_of_ble_eq_true rfl), (Nat.le_of_ble_eq_true rfl)⟩ (fun l => C_X4_has  g) ?_
  refine V_if_ne 8 15 O dX11_leak_8 rfl h (fun h => ?_) (fun h => ?_)
  · refine V_iloadn 15 2 O dX11_leak_15 rfl rfl ?_
    refine V_iconst 16 O dX11_leak_16 ci_0 ?_
    refine V_bipush 17 O dX11_leak_17 cb_99 ?_
    obtain ⟨r4, σ3, g, h⟩ := bd_of h
    refine V_callSi 19 [.int x2, .int (0 : Int32), .int (99 : Int32)] [] O mf_X11_isOutside lk_X11_94 dX11_leak_19 rfl rfl (Nat.le_of_ble_eq_true rfl) ⟨(Nat.le_of_ble_eq_true rfl), (Nat.le_of_ble_eq_true rfl)⟩ (fun l => C_X11_isOutside  g) ?_
    refine V_if_eq 22 29 O dX11_leak_22 rfl h (fun h => ?_) (fun h => ?_)
    · refine V_aloadn 29 0 O dX11_leak_29 rfl rfl ?_
      refine V_getR 30 O k0 fl_X11_10 rf0_0 dX11_leak_30 ?_
      refine V_getR 33 O k3 fl_X11_115 rf3_5 dX11_leak_33 ?_
      refine V_iloadn 36 1 O dX11_leak_36 rfl rfl ?_
      refine V_iald 37 O k7 dX11_leak_37 h (fun h => ?_)
      refine V_topi h (fun v5 h => ?_)
      refine V_istoren 38 [1, 2, 3, 0] [(0, .ref (zad G 0)), (1, .int x1), (2, .int x2), (3, .int v5)] O dX11_leak_38 rfl (Nat.le_of_ble_eq_true rfl) rfl ?_
      refine V_aloadn 39 0 O dX11_leak_39 rfl rfl ?_
      refine V_dup 40 O dX11_leak_40 rfl ?_
      refine V_getI 41 O k0 fl_X11_102 dX11_leak_41 ?_
      refine V_iconst 44 O dX11_leak_44 ci_1 ?_
      refine V_iadd 45 O dX11_leak_45 ?_
      refine V_put 46 O k0 fp_X11_102 dX11_leak_46 h (fun σ6 h => ?_)
      refine V_aloadn 49 0 O dX11_leak_49 rfl rfl ?_
      refine V_getR 50 O k0 fl_X11_10 rf0_0 dX11_leak_50 ?_
      refine V_getR 53 O k3 fl_X11_115 rf3_5 dX11_leak_53 ?_
      refine V_iloadn 56 1 O dX11_leak_56 rfl rfl ?_
      refine V_iloadn 57 2 O dX11_leak_57 rfl rfl ?_
      refine V_iast 58 O k7 dX11_leak_58 h (fun σ7 h => ?_)
      refine V_iloadn 59 3 O dX11_leak_59 rfl rfl ?_
      exact V_iret 60 O E dX11_leak_60 h
    · refine V_sipush 25 O dX11_leak_25 cs_m1002 ?_
      exact V_iret 28 O E dX11_leak_28 h
  · refine V_sipush 11 O dX11_leak_11 cs_m1001 ?_
    exact V_iret 14 O E dX11_leak_14 h
-- ==== WaterTown.map(III)I
def s_X11_map (n : Nat) (x1 : Int32) (x2 : Int32) (x3 : Int32) (σ : Sg) : Option (Int32 × Sg) := bd (s_X4_has n x1 σ) fun r2 σ1 => if r2 = 0 then (some ((-1001 : Int32), σ1)) else (bd (s_X11_isNode n x2 σ1) fun r4 σ3 => if r4 = 0 then (some ((-1001 : Int32), σ3)) else (bd (s_X11_isNode n x3 σ3) fun r6 σ5 => if r6 = 0 then (some ((-1001 : Int32), σ5)) else (if x2 = x3 then (some ((-1002 : Int32), σ5)) else (ck x1 20 (lt (up2 σ5 8 (ix x1) x2) fun σ7 => ck x1 20 (lt (up2 σ7 9 (ix x1) x3) fun σ8 => some ((1 : Int32), σ8)))))))
set_option maxRecDepth 20000 in
theorem C_X11_map {l : Launch} {G : zG} {n : Nat} {x1 : Int32} {x2 : Int32} {x3 : Int32} {σ : Sg} {r : Int32} {τ : Sg} (h : s_X11_map n x1 x2 x3 σ = some (r, τ)) : zM l G 1 yX11_map (.code yX11_map cX11_map 4 (some (.int))) [.ref (zad G 0), .int x1, .int x2, .int x3] σ (some (.int r)) τ := by
  refine zM_of (by decide) (Nat.le_of_ble_eq_true rfl) (fun x O E => ?_)
  have O : zO G x cX11_map RX11 1 40 4 := O
  unfold s_X11_map at h
  show V G x σ [(0, .ref (zad G 0)), (1, .int x1), (2, .int x2), (3, .int x3)] 0 []
  refine V_aloadn 0 0 O dX11_map_0 rfl rfl ?_
  refine V_getR 1 O k0 fl_X11_10 rf0_0 dX11_map_1 ?_
  refine V_iloadn 4 1 O dX11_map_4 rfl rfl ?_
  obtain ⟨r2, σ1, g, h⟩ := bd_of h
  refine V_callVi 5 [.int x1] [] O mf_X4_has lk_X11_109 k3 dX11_map_5 rfl rfl (Nat.le_of_ble_eq_true rfl) ⟨(Nat.le_of_ble_eq_true rfl), (Nat.le_of_ble_eq_true rfl)⟩ (fun l => C_X4_has  g) ?_
  refine V_if_eq 8 25 O dX11_map_8 rfl h (fun h => ?_) (fun h => ?_)
  · refine V_sipush 25 O dX11_map_25 cs_m1001 ?_
    exact V_iret 28 O E dX11_map_28 h
  · refine V_iloadn 11 2 O dX11_map_11 rfl rfl ?_
    obtain ⟨r4, σ3, g, h⟩ := bd_of h
    refine V_callSi 12 [.int x2] [] O mf_X11_isNode lk_X11_90 dX11_map_12 rfl rfl (Nat.le_of_ble_eq_true rfl) ⟨(Nat.le_of_ble_eq_true rfl), (Nat.le_of_ble_eq_true rfl)⟩ (fun l => C_X11_isNode  g) ?_
    refine V_if_eq 15 25 O dX11_map_15 rfl h (fun h => ?_) (fun h => ?_)
    · refine V_sipush 25 O dX11_map_25 cs_m1001 ?_
      exact V_iret 28 O E dX11_map_28 h
    · refine V_iloadn 18 3 O dX11_map_18 rfl rfl ?_
      obtain ⟨r6, σ5, g, h⟩ := bd_of h
      refine V_callSi 19 [.int x3] [] O mf_X11_isNode lk_X11_90 dX11_map_19 rfl rfl (Nat.le_of_ble_eq_true rfl) ⟨(Nat.le_of_ble_eq_true rfl), (Nat.le_of_ble_eq_true rfl)⟩ (fun l => C_X11_isNode  g) ?_
      refine V_if_ne 22 29 O dX11_map_22 rfl h (fun h => ?_) (fun h => ?_)
      · refine V_iloadn 29 2 O dX11_map_29 rfl rfl ?_
        refine V_iloadn 30 3 O dX11_map_30 rfl rfl ?_
        refine V_icmp_ne 31 38 O dX11_map_31 rfl h (fun h => ?_) (fun h => ?_)
        · refine V_aloadn 38 0 O dX11_map_38 rfl rfl ?_
          refine V_getR 39 O k0 fl_X11_10 rf0_0 dX11_map_39 ?_
          refine V_getR 42 O k3 fl_X11_118 rf3_6 dX11_map_42 ?_
          refine V_iloadn 45 1 O dX11_map_45 rfl rfl ?_
          refine V_iloadn 46 2 O dX11_map_46 rfl rfl ?_
          refine V_iast 47 O k8 dX11_map_47 h (fun σ7 h => ?_)
          refine V_aloadn 48 0 O dX11_map_48 rfl rfl ?_
          refine V_getR 49 O k0 fl_X11_10 rf0_0 dX11_map_49 ?_
          refine V_getR 52 O k3 fl_X11_121 rf3_7 dX11_map_52 ?_
          refine V_iloadn 55 1 O dX11_map_55 rfl rfl ?_
          refine V_iloadn 56 3 O dX11_map_56 rfl rfl ?_
          refine V_iast 57 O k9 dX11_map_57 h (fun σ8 h => ?_)
          refine V_iconst 58 O dX11_map_58 ci_1 ?_
          exact V_iret 59 O E dX11_map_59 h
        · refine V_sipush 34 O dX11_map_34 cs_m1002 ?_
          exact V_iret 37 O E dX11_map_37 h
      · refine V_sipush 25 O dX11_map_25 cs_m1001 ?_
        exact V_iret 28 O E dX11_map_28 h
-- ==== WaterTown.pump(III)I
def s_X11_pump_48b (n : Nat) (rc48 : Int32 → Int32 → Int32 → Sg → Option (Int32 × Sg)) (x2 : Int32) (x3 : Int32) (x4 : Int32) (σ : Sg) : Option (Int32 × Sg) := if x2 < x4 then (some ((1 : Int32), σ)) else (ck x4 24 (lt (up2 σ 40 (ix x4) x3) fun σ8 => rc48 x2 x3 (x4 + (1 : Int32)) σ8))
def s_X11_pump_48 (n : Nat) : Nat → Int32 → Int32 → Int32 → Sg → Option (Int32 × Sg)
  | 0 => fun _ _ _ _ => none
  | k + 1 => s_X11_pump_48b n (s_X11_pump_48 n k)
def s_X11_pump (n : Nat) (x1 : Int32) (x2 : Int32) (x3 : Int32) (σ : Sg) : Option (Int32 × Sg) := bd (s_X11_isOutside n x1 (0 : Int32) (23 : Int32) σ) fun r2 σ1 => if r2 = 0 then (bd (s_X11_isOutside n x2 x1 (23 : Int32) σ1) fun r4 σ3 => if r4 = 0 then (bd (s_X11_isOutside n x3 (0 : Int32) (9999 : Int32) σ3) fun r6 σ5 => if r6 = 0 then (lt (up2 σ5 0 15 ((σ5 0 15) + (1 : Int32))) fun σ7 => s_X11_pump_48 n n x2 x3 x1 σ7) else (some ((-1002 : Int32), σ5))) else (some ((-1002 : Int32), σ3))) else (some ((-1002 : Int32), σ1))
set_option maxRecDepth 20000 in
theorem b_X11_pump_48 {G : zG} {x : zX} {r : Int32} {τ : Sg} (O : zO G x cX11_pump RX11 1 40 5) (E : zE G x (some (.int)) (some (.int r)) τ) (n : Nat) (rc48 : Int32 → Int32 → Int32 → Sg → Option (Int32 × Sg)) (H48 : ∀ (x2 : Int32) (x3 : Int32) (x4 : Int32) (σ : Sg), rc48 x2 x3 x4 σ = some (r, τ) → V G x σ [(0, .ref (zad G 0)), (2, .int x2), (3, .int x3), (4, .int x4)] 48 []) (x2 : Int32) (x3 : Int32) (x4 : Int32) (σ : Sg) (h : s_X11_pump_48b n rc48 x2 x3 x4 σ = some (r, τ)) : V G x σ [(0, .ref (zad G 0)), (2, .int x2), (3, .int x3), (4, .int x4)] 48 [] := by
  unfold s_X11_pump_48b at h
  refine V_iload 48 3 O dX11_pump_48 rfl ?_
  refine V_iloadn 50 1 O dX11_pump_50 rfl rfl ?_
  refine V_icmp_gt 51 71 O dX11_pump_51 rfl h (fun h => ?_) (fun h => ?_)
  · refine V_iconst 71 O dX11_pump_71 ci_1 ?_
    exact V_iret 72 O E dX11_pump_72 h
  · refine V_aloadn 54 0 O dX11_pump_54 rfl rfl ?_
    refine V_getR 55 O k0 fl_X11_56 rf0_6 dX11_pump_55 ?_
    refine V_getR 58 O k39 fl_X11_124 rf39_3 dX11_pump_58 ?_
    refine V_iload 61 3 O dX11_pump_61 rfl ?_
    refine V_iloadn 63 2 O dX11_pump_63 rfl rfl ?_
    refine V_iast 64 O k40 dX11_pump_64 h (fun σ8 h => ?_)
    refine V_iinc 65 3 [1, 2, 3, 0] [(0, .ref (zad G 0)), (2, .int x2), (3, .int x3), (4, .int (x4 + (1 : Int32)))] O dX11_pump_65 rfl ci_1 (Nat.le_of_ble_eq_true rfl) rfl ?_
    refine V_goto 68 48 O dX11_pump_68 rfl ?_
    exact V_sub [0, 1, 2, 3] rfl (H48 x2 x3 (x4 + (1 : Int32)) σ8  h)
theorem bl_X11_pump_48 {G : zG} {x : zX} {r : Int32} {τ : Sg} (O : zO G x cX11_pump RX11 1 40 5) (E : zE G x (some (.int)) (some (.int r)) τ) (n : Nat) : ∀ (k : Nat) (x2 : Int32) (x3 : Int32) (x4 : Int32) (σ : Sg), s_X11_pump_48 n k x2 x3 x4 σ = some (r, τ) → V G x σ [(0, .ref (zad G 0)), (2, .int x2), (3, .int x3), (4, .int x4)] 48 [] := by
  intro k
  induction k with
  | zero => intro x2 x3 x4 σ  h; cases h
  | succ k ih => intro x2 x3 x4 σ  h; exact b_X11_pump_48 O E n  (s_X11_pump_48 n  k) ih x2 x3 x4 σ  h
set_option maxRecDepth 20000 in
theorem C_X11_pump {l : Launch} {G : zG} {n : Nat} {x1 : Int32} {x2 : Int32} {x3 : Int32} {σ : Sg} {r : Int32} {τ : Sg} (h : s_X11_pump n x1 x2 x3 σ = some (r, τ)) : zM l G 1 yX11_pump (.code yX11_pump cX11_pump 5 (some (.int))) [.ref (zad G 0), .int x1, .int x2, .int x3] σ (some (.int r)) τ := by
  refine zM_of (by decide) (Nat.le_of_ble_eq_true rfl) (fun x O E => ?_)
  have O : zO G x cX11_pump RX11 1 40 5 := O
  unfold s_X11_pump at h
  show V G x σ [(0, .ref (zad G 0)), (1, .int x1), (2, .int x2), (3, .int x3)] 0 []
  refine V_iloadn 0 1 O dX11_pump_0 rfl rfl ?_
  refine V_iconst 1 O dX11_pump_1 ci_0 ?_
  refine V_bipush 2 O dX11_pump_2 cb_23 ?_
  obtain ⟨r2, σ1, g, h⟩ := bd_of h
  refine V_callSi 4 [.int x1, .int (0 : Int32), .int (23 : Int32)] [] O mf_X11_isOutside lk_X11_94 dX11_pump_4 rfl rfl (Nat.le_of_ble_eq_true rfl) ⟨(Nat.le_of_ble_eq_true rfl), (Nat.le_of_ble_eq_true rfl)⟩ (fun l => C_X11_isOutside  g) ?_
  refine V_if_ne 7 31 O dX11_pump_7 rfl h (fun h => ?_) (fun h => ?_)
  · refine V_sipush 31 O dX11_pump_31 cs_m1002 ?_
    exact V_iret 34 O E dX11_pump_34 h
  · refine V_iloadn 10 2 O dX11_pump_10 rfl rfl ?_
    refine V_iloadn 11 1 O dX11_pump_11 rfl rfl ?_
    refine V_bipush 12 O dX11_pump_12 cb_23 ?_
    obtain ⟨r4, σ3, g, h⟩ := bd_of h
    refine V_callSi 14 [.int x2, .int x1, .int (23 : Int32)] [] O mf_X11_isOutside lk_X11_94 dX11_pump_14 rfl rfl (Nat.le_of_ble_eq_true rfl) ⟨(Nat.le_of_ble_eq_true rfl), (Nat.le_of_ble_eq_true rfl)⟩ (fun l => C_X11_isOutside  g) ?_
    refine V_if_ne 17 31 O dX11_pump_17 rfl h (fun h => ?_) (fun h => ?_)
    · refine V_sipush 31 O dX11_pump_31 cs_m1002 ?_
      exact V_iret 34 O E dX11_pump_34 h
    · refine V_iloadn 20 3 O dX11_pump_20 rfl rfl ?_
      refine V_iconst 21 O dX11_pump_21 ci_0 ?_
      refine V_sipush 22 O dX11_pump_22 cs_9999 ?_
      obtain ⟨r6, σ5, g, h⟩ := bd_of h
      refine V_callSi 25 [.int x3, .int (0 : Int32), .int (9999 : Int32)] [] O mf_X11_isOutside lk_X11_94 dX11_pump_25 rfl rfl (Nat.le_of_ble_eq_true rfl) ⟨(Nat.le_of_ble_eq_true rfl), (Nat.le_of_ble_eq_true rfl)⟩ (fun l => C_X11_isOutside  g) ?_
      refine V_if_eq 28 35 O dX11_pump_28 rfl h (fun h => ?_) (fun h => ?_)
      · refine V_aloadn 35 0 O dX11_pump_35 rfl rfl ?_
        refine V_dup 36 O dX11_pump_36 rfl ?_
        refine V_getI 37 O k0 fl_X11_102 dX11_pump_37 ?_
        refine V_iconst 40 O dX11_pump_40 ci_1 ?_
        refine V_iadd 41 O dX11_pump_41 ?_
        refine V_put 42 O k0 fp_X11_102 dX11_pump_42 h (fun σ7 h => ?_)
        refine V_iloadn 45 1 O dX11_pump_45 rfl rfl ?_
        refine V_istore 46 [1, 2, 3, 4, 0] [(0, .ref (zad G 0)), (1, .int x1), (2, .int x2), (3, .int x3), (4, .int x1)] O dX11_pump_46 (Nat.le_of_ble_eq_true rfl) rfl ?_
        exact V_sub [0, 2, 3, 4] rfl (bl_X11_pump_48 O E n  n x2 x3 x1 σ7  h)
      · refine V_sipush 31 O dX11_pump_31 cs_m1002 ?_
        exact V_iret 34 O E dX11_pump_34 h
-- ==== WaterTown.street(IIIIII)I
def s_X11_street (n : Nat) (x1 : Int32) (x2 : Int32) (x3 : Int32) (x4 : Int32) (x5 : Int32) (x6 : Int32) (σ : Sg) : Option (Int32 × Sg) := bd (s_X11_isNode n x1 σ) fun r2 σ1 => if r2 = 0 then (some ((-1001 : Int32), σ1)) else (bd (s_X11_isOutside n x2 (1 : Int32) (99 : Int32) σ1) fun r4 σ3 => if r4 = 0 then (bd (s_X11_isOutside n x3 (1 : Int32) (9 : Int32) σ3) fun r6 σ5 => if r6 = 0 then (bd (s_X11_isOutside n x4 (0 : Int32) (99 : Int32) σ5) fun r8 σ7 => if r8 = 0 then (bd (s_X11_isOutside n x5 (0 : Int32) (999 : Int32) σ7) fun r10 σ9 => if r10 = 0 then (bd (s_X11_isOutside n x6 (0 : Int32) (1 : Int32) σ9) fun r12 σ11 => if r12 = 0 then (if (σ11 11 0) < (10 : Int32) then (lt (up2 σ11 0 15 ((σ11 0 15) + (1 : Int32))) fun σ13 => bd (s_X8_build n x1 x2 x3 x4 x5 σ13) fun r15 σ14 => ck r15 10 (lt (up2 σ14 23 (ix r15) x6) fun σ16 => some (r15, σ16))) else (some ((-1004 : Int32), σ11))) else (some ((-1002 : Int32), σ11))) else (some ((-1002 : Int32), σ9))) else (some ((-1002 : Int32), σ7))) else (some ((-1002 : Int32), σ5))) else (some ((-1002 : Int32), σ3)))
set_option maxRecDepth 20000 in
theorem C_X11_street {l : Launch} {G : zG} {n : Nat} {x1 : Int32} {x2 : Int32} {x3 : Int32} {x4 : Int32} {x5 : Int32} {x6 : Int32} {σ : Sg} {r : Int32} {τ : Sg} (h : s_X11_street n x1 x2 x3 x4 x5 x6 σ = some (r, τ)) : zM l G 1 yX11_street (.code yX11_street cX11_street 8 (some (.int))) [.ref (zad G 0), .int x1, .int x2, .int x3, .int x4, .int x5, .int x6] σ (some (.int r)) τ := by
  refine zM_of (by decide) (Nat.le_of_ble_eq_true rfl) (fun x O E => ?_)
  have O : zO G x cX11_street RX11 1 40 8 := O
  unfold s_X11_street at h
  show V G x σ [(0, .ref (zad G 0)), (1, .int x1), (2, .int x2), (3, .int x3), (4, .int x4), (5, .int x5), (6, .int x6)] 0 []
  refine V_iloadn 0 1 O dX11_street_0 rfl rfl ?_
  obtain ⟨r2, σ1, g, h⟩ := bd_of h
  refine V_callSi 1 [.int x1] [] O mf_X11_isNode lk_X11_90 dX11_street_1 rfl rfl (Nat.le_of_ble_eq_true rfl) ⟨(Nat.le_of_ble_eq_true rfl), (Nat.le_of_ble_eq_true rfl)⟩ (fun l => C_X11_isNode  g) ?_
  refine V_if_ne 4 11 O dX11_street_4 rfl h (fun h => ?_) (fun h => ?_)
  · refine V_iloadn 11 2 O dX11_street_11 rfl rfl ?_
    refine V_iconst 12 O dX11_street_12 ci_1 ?_
    refine V_bipush 13 O dX11_street_13 cb_99 ?_
    obtain ⟨r4, σ3, g, h⟩ := bd_of h
    refine V_callSi 15 [.int x2, .int (1 : Int32), .int (99 : Int32)] [] O mf_X11_isOutside lk_X11_94 dX11_street_15 rfl rfl (Nat.le_of_ble_eq_true rfl) ⟨(Nat.le_of_ble_eq_true rfl), (Nat.le_of_ble_eq_true rfl)⟩ (fun l => C_X11_isOutside  g) ?_
    refine V_if_ne 18 64 O dX11_street_18 rfl h (fun h => ?_) (fun h => ?_)
    · refine V_sipush 64 O dX11_street_64 cs_m1002 ?_
      exact V_iret 67 O E dX11_street_67 h
    · refine V_iloadn 21 3 O dX11_street_21 rfl rfl ?_
      refine V_iconst 22 O dX11_street_22 ci_1 ?_
      refine V_bipush 23 O dX11_street_23 cb_9 ?_
      obtain ⟨r6, σ5, g, h⟩ := bd_of h
      refine V_callSi 25 [.int x3, .int (1 : Int32), .int (9 : Int32)] [] O mf_X11_isOutside lk_X11_94 dX11_street_25 rfl rfl (Nat.le_of_ble_eq_true rfl) ⟨(Nat.le_of_ble_eq_true rfl), (Nat.le_of_ble_eq_true rfl)⟩ (fun l => C_X11_isOutside  g) ?_
      refine V_if_ne 28 64 O dX11_street_28 rfl h (fun h => ?_) (fun h => ?_)
      · refine V_sipush 64 O dX11_street_64 cs_m1002 ?_
        exact V_iret 67 O E dX11_street_67 h
      · refine V_iload 31 4 O dX11_street_31 rfl ?_
        refine V_iconst 33 O dX11_street_33 ci_0 ?_
        refine V_bipush 34 O dX11_street_34 cb_99 ?_
        obtain ⟨r8, σ7, g, h⟩ := bd_of h
        refine V_callSi 36 [.int x4, .int (0 : Int32), .int (99 : Int32)] [] O mf_X11_isOutside lk_X11_94 dX11_street_36 rfl rfl (Nat.le_of_ble_eq_true rfl) ⟨(Nat.le_of_ble_eq_true rfl), (Nat.le_of_ble_eq_true rfl)⟩ (fun l => C_X11_isOutside  g) ?_
        refine V_if_ne 39 64 O dX11_street_39 rfl h (fun h => ?_) (fun h => ?_)
        · refine V_sipush 64 O dX11_street_64 cs_m1002 ?_
          exact V_iret 67 O E dX11_street_67 h
        · refine V_iload 42 5 O dX11_street_42 rfl ?_
          refine V_iconst 44 O dX11_street_44 ci_0 ?_
          refine V_sipush 45 O dX11_street_45 cs_999 ?_
          obtain ⟨r10, σ9, g, h⟩ := bd_of h
          refine V_callSi 48 [.int x5, .int (0 : Int32), .int (999 : Int32)] [] O mf_X11_isOutside lk_X11_94 dX11_street_48 rfl rfl (Nat.le_of_ble_eq_true rfl) ⟨(Nat.le_of_ble_eq_true rfl), (Nat.le_of_ble_eq_true rfl)⟩ (fun l => C_X11_isOutside  g) ?_
          refine V_if_ne 51 64 O dX11_street_51 rfl h (fun h => ?_) (fun h => ?_)
          · refine V_sipush 64 O dX11_street_64 cs_m1002 ?_
            exact V_iret 67 O E dX11_street_67 h
          · refine V_iload 54 6 O dX11_street_54 rfl ?_
            refine V_iconst 56 O dX11_street_56 ci_0 ?_
            refine V_iconst 57 O dX11_street_57 ci_1 ?_
            obtain ⟨r12, σ11, g, h⟩ := bd_of h
            refine V_callSi 58 [.int x6, .int (0 : Int32), .int (1 : Int32)] [] O mf_X11_isOutside lk_X11_94 dX11_street_58 rfl rfl (Nat.le_of_ble_eq_true rfl) ⟨(Nat.le_of_ble_eq_true rfl), (Nat.le_of_ble_eq_true rfl)⟩ (fun l => C_X11_isOutside  g) ?_
            refine V_if_eq 61 68 O dX11_street_61 rfl h (fun h => ?_) (fun h => ?_)
            · refine V_aloadn 68 0 O dX11_street_68 rfl rfl ?_
              refine V_getR 69 O k0 fl_X11_19 rf0_1 dX11_street_69 ?_
              refine V_getI 72 O k11 fl_X11_127 dX11_street_72 ?_
              refine V_bipush 75 O dX11_street_75 cb_10 ?_
              refine V_icmp_lt 77 84 O dX11_street_77 rfl h (fun h => ?_) (fun h => ?_)
              · refine V_aloadn 84 0 O dX11_street_84 rfl rfl ?_
                refine V_dup 85 O dX11_street_85 rfl ?_
                refine V_getI 86 O k0 fl_X11_102 dX11_street_86 ?_
                refine V_iconst 89 O dX11_street_89 ci_1 ?_
                refine V_iadd 90 O dX11_street_90 ?_
                refine V_put 91 O k0 fp_X11_102 dX11_street_91 h (fun σ13 h => ?_)
                refine V_aloadn 94 0 O dX11_street_94 rfl rfl ?_
                refine V_getR 95 O k0 fl_X11_19 rf0_1 dX11_street_95 ?_
                refine V_iloadn 98 1 O dX11_street_98 rfl rfl ?_
                refine V_iloadn 99 2 O dX11_street_99 rfl rfl ?_
                refine V_iloadn 100 3 O dX11_street_100 rfl rfl ?_
                refine V_iload 101 4 O dX11_street_101 rfl ?_
                refine V_iload 103 5 O dX11_street_103 rfl ?_
                obtain ⟨r15, σ14, g, h⟩ := bd_of h
                refine V_callVi 105 [.int x1, .int x2, .int x3, .int x4, .int x5] [] O mf_X8_build lk_X11_128 k11 dX11_street_105 rfl rfl (Nat.le_of_ble_eq_true rfl) ⟨(Nat.le_of_ble_eq_true rfl), (Nat.le_of_ble_eq_true rfl)⟩ (fun l => C_X8_build  g) ?_
                refine V_istore 108 [1, 2, 3, 4, 5, 6, 7, 0] [(0, .ref (zad G 0)), (1, .int x1), (2, .int x2), (3, .int x3), (4, .int x4), (5, .int x5), (6, .int x6), (7, .int r15)] O dX11_street_108 (Nat.le_of_ble_eq_true rfl) rfl ?_
                refine V_aloadn 110 0 O dX11_street_110 rfl rfl ?_
                refine V_getR 111 O k0 fl_X11_26 rf0_2 dX11_street_111 ?_
                refine V_getR 114 O k22 fl_X11_132 rf22_0 dX11_street_114 ?_
                refine V_iload 117 7 O dX11_street_117 rfl ?_
                refine V_iload 119 6 O dX11_street_119 rfl ?_
                refine V_iast 121 O k23 dX11_street_121 h (fun σ16 h => ?_)
                refine V_iload 122 7 O dX11_street_122 rfl ?_
                exact V_iret 124 O E dX11_street_124 h
              · refine V_sipush 80 O dX11_street_80 cs_m1004 ?_
                exact V_iret 83 O E dX11_street_83 h
            · refine V_sipush 64 O dX11_street_64 cs_m1002 ?_
              exact V_iret 67 O E dX11_street_67 h
  · refine V_sipush 7 O dX11_street_7 cs_m1001 ?_
    exact V_iret 10 O E dX11_street_10 h
-- ==== WaterTown.over(I)I
def s_X11_over (n : Nat) (x1 : Int32) (σ : Sg) : Option (Int32 × Sg) := bd (s_X8_has n x1 σ) fun r2 σ1 => if r2 = 0 then (some ((-1001 : Int32), σ1)) else (ck x1 10 (if (σ1 23 (ix x1)) = (1 : Int32) then (some ((-1003 : Int32), σ1)) else (lt (up2 σ1 0 15 ((σ1 0 15) + (1 : Int32))) fun σ3 => ck x1 10 (lt (up2 σ3 23 (ix x1) (1 : Int32)) fun σ4 => some ((1 : Int32), σ4)))))
set_option maxRecDepth 20000 in
theorem C_X11_over {l : Launch} {G : zG} {n : Nat} {x1 : Int32} {σ : Sg} {r : Int32} {τ : Sg} (h : s_X11_over n x1 σ = some (r, τ)) : zM l G 1 yX11_over (.code yX11_over cX11_over 2 (some (.int))) [.ref (zad G 0), .int x1] σ (some (.int r)) τ := by
  refine zM_of (by decide) (Nat.le_of_ble_eq_true rfl) (fun x O E => ?_)
  have O : zO G x cX11_over RX11 1 40 2 := O
  unfold s_X11_over at h
  show V G x σ [(0, .ref (zad G 0)), (1, .int x1)] 0 []
  refine V_aloadn 0 0 O dX11_over_0 rfl rfl ?_
  refine V_getR 1 O k0 fl_X11_19 rf0_1 dX11_over_1 ?_
  refine V_iloadn 4 1 O dX11_over_4 rfl rfl ?_
  obtain ⟨r2, σ1, g, h⟩ := bd_of h
  refine V_callVi 5 [.int x1] [] O mf_X8_has lk_X11_135 k11 dX11_over_5 rfl rfl (Nat.le_of_ble_eq_true rfl) ⟨(Nat.le_of_ble_eq_true rfl), (Nat.le_of_ble_eq_true rfl)⟩ (fun l => C_X8_has  g) ?_
  refine V_if_ne 8 15 O dX11_over_8 rfl h (fun h => ?_) (fun h => ?_)
  · refine V_aloadn 15 0 O dX11_over_15 rfl rfl ?_
    refine V_getR 16 O k0 fl_X11_26 rf0_2 dX11_over_16 ?_
    refine V_getR 19 O k22 fl_X11_132 rf22_0 dX11_over_19 ?_
    refine V_iloadn 22 1 O dX11_over_22 rfl rfl ?_
    refine V_iald 23 O k23 dX11_over_23 h (fun h => ?_)
    refine V_iconst 24 O dX11_over_24 ci_1 ?_
    refine V_icmp_ne 25 32 O dX11_over_25 rfl h (fun h => ?_) (fun h => ?_)
    · refine V_aloadn 32 0 O dX11_over_32 rfl rfl ?_
      refine V_dup 33 O dX11_over_33 rfl ?_
      refine V_getI 34 O k0 fl_X11_102 dX11_over_34 ?_
      refine V_iconst 37 O dX11_over_37 ci_1 ?_
      refine V_iadd 38 O dX11_over_38 ?_
      refine V_put 39 O k0 fp_X11_102 dX11_over_39 h (fun σ3 h => ?_)
      refine V_aloadn 42 0 O dX11_over_42 rfl rfl ?_
      refine V_getR 43 O k0 fl_X11_26 rf0_2 dX11_over_43 ?_
      refine V_getR 46 O k22 fl_X11_132 rf22_0 dX11_over_46 ?_
      refine V_iloadn 49 1 O dX11_over_49 rfl rfl ?_
      refine V_iconst 50 O dX11_over_50 ci_1 ?_
      refine V_iast 51 O k23 dX11_over_51 h (fun σ4 h => ?_)
      refine V_iconst 52 O dX11_over_52 ci_1 ?_
      exact V_iret 53 O E dX11_over_53 h
    · refine V_sipush 28 O dX11_over_28 cs_m1003 ?_
      exact V_iret 31 O E dX11_over_31 h
  · refine V_sipush 11 O dX11_over_11 cs_m1001 ?_
    exact V_iret 14 O E dX11_over_14 h
-- ==== WaterTown.rooms(II)I
def s_X11_rooms (n : Nat) (x1 : Int32) (x2 : Int32) (σ : Sg) : Option (Int32 × Sg) := bd (s_X8_has n x1 σ) fun r2 σ1 => if r2 = 0 then (some ((-1001 : Int32), σ1)) else (bd (s_X11_isOutside n x2 (0 : Int32) (99 : Int32) σ1) fun r4 σ3 => if r4 = 0 then (ck x1 10 (lt (σ3 17 (ix x1)) fun v5 => ck x1 10 (lt (up2 σ3 17 (ix x1) x2) fun σ6 => some (v5, σ6)))) else (some ((-1002 : Int32), σ3)))
set_option maxRecDepth 20000 in
theorem C_X11_rooms {l : Launch} {G : zG} {n : Nat} {x1 : Int32} {x2 : Int32} {σ : Sg} {r : Int32} {τ : Sg} (h : s_X11_rooms n x1 x2 σ = some (r, τ)) : zM l G 1 yX11_rooms (.code yX11_rooms cX11_rooms 4 (some (.int))) [.ref (zad G 0), .int x1, .int x2] σ (some (.int r)) τ := by
  refine zM_of (by decide) (Nat.le_of_ble_eq_true rfl) (fun x O E => ?_)
  have O : zO G x cX11_rooms RX11 1 40 4 := O
  unfold s_X11_rooms at h
  show V G x σ [(0, .ref (zad G 0)), (1, .int x1), (2, .int x2)] 0 []
  refine V_aloadn 0 0 O dX11_rooms_0 rfl rfl ?_
  refine V_getR 1 O k0 fl_X11_19 rf0_1 dX11_rooms_1 ?_
  refine V_iloadn 4 1 O dX11_rooms_4 rfl rfl ?_
  obtain ⟨r2, σ1, g, h⟩ := bd_of h
  refine V_callVi 5 [.int x1] [] O mf_X8_has lk_X11_135 k11 dX11_rooms_5 rfl rfl (Nat.le_of_ble_eq_true rfl) ⟨(Nat.le_of_ble_eq_true rfl), (Nat.le_of_ble_eq_true rfl)⟩ (fun l => C_X8_has  g) ?_
  refine V_if_ne 8 15 O dX11_rooms_8 rfl h (fun h => ?_) (fun h => ?_)
  · refine V_iloadn 15 2 O dX11_rooms_15 rfl rfl ?_
    refine V_iconst 16 O dX11_rooms_16 ci_0 ?_
    refine V_bipush 17 O dX11_rooms_17 cb_99 ?_
    obtain ⟨r4, σ3, g, h⟩ := bd_of h
    refine V_callSi 19 [.int x2, .int (0 : Int32), .int (99 : Int32)] [] O mf_X11_isOutside lk_X11_94 dX11_rooms_19 rfl rfl (Nat.le_of_ble_eq_true rfl) ⟨(Nat.le_of_ble_eq_true rfl), (Nat.le_of_ble_eq_true rfl)⟩ (fun l => C_X11_isOutside  g) ?_
    refine V_if_eq 22 29 O dX11_rooms_22 rfl h (fun h => ?_) (fun h => ?_)
    · refine V_aloadn 29 0 O dX11_rooms_29 rfl rfl ?_
      refine V_getR 30 O k0 fl_X11_19 rf0_1 dX11_rooms_30 ?_
      refine V_getR 33 O k11 fl_X11_136 rf11_6 dX11_rooms_33 ?_
      refine V_iloadn 36 1 O dX11_rooms_36 rfl rfl ?_
      refine V_iald 37 O k17 dX11_rooms_37 h (fun h => ?_)
      refine V_topi h (fun v5 h => ?_)
      refine V_istoren 38 [1, 2, 3, 0] [(0, .ref (zad G 0)), (1, .int x1), (2, .int x2), (3, .int v5)] O dX11_rooms_38 rfl (Nat.le_of_ble_eq_true rfl) rfl ?_
      refine V_aloadn 39 0 O dX11_rooms_39 rfl rfl ?_
      refine V_getR 40 O k0 fl_X11_19 rf0_1 dX11_rooms_40 ?_
      refine V_getR 43 O k11 fl_X11_136 rf11_6 dX11_rooms_43 ?_
      refine V_iloadn 46 1 O dX11_rooms_46 rfl rfl ?_
      refine V_iloadn 47 2 O dX11_rooms_47 rfl rfl ?_
      refine V_iast 48 O k17 dX11_rooms_48 h (fun σ6 h => ?_)
      refine V_iloadn 49 3 O dX11_rooms_49 rfl rfl ?_
      exact V_iret 50 O E dX11_rooms_50 h
    · refine V_sipush 25 O dX11_rooms_25 cs_m1002 ?_
      exact V_iret 28 O E dX11_rooms_28 h
  · refine V_sipush 11 O dX11_rooms_11 cs_m1001 ?_
    exact V_iret 14 O E dX11_rooms_14 h
