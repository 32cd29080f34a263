-- ==== WaterTownModel.flow(III)I
def s_X12_flow_82b (n : Nat) (rc82 : Int32 → Int32 → Int32 → Int32 → Sg → Option (Int32 × Sg)) (x2 : Int32) (x3 : Int32) (x4 : Int32) (x5 : Int32) (σ : Sg) : Option (Int32 × Sg) := if (σ 71 11) ≤ x5 then (if x3 = 0 then (ck x2 10 (some (σ 104 (ix x2), σ))) else (if x3 = (1 : Int32) then (ck x2 10 (some (σ 105 (ix x2), σ))) else (if x3 = (2 : Int32) then (some (σ 71 57, σ)) else (some (x4, σ))))) else (ck x5 10 (lt (x4 + (σ 105 (ix x5))) fun v14 => rc82 x2 x3 v14 (x5 + (1 : Int32)) σ))
def s_X12_flow_82 (n : Nat) : Nat → Int32 → Int32 → Int32 → Int32 → Sg → Option (Int32 × Sg)
  | 0 => fun _ _ _ _ _ => none
  | k + 1 => s_X12_flow_82b n (s_X12_flow_82 n k)
def s_X12_flow_60 (n : Nat) (x1 : Int32) (x2 : Int32) (x3 : Int32) (σ : Sg) : Option (Int32 × Sg) := bd (s_X12_dayNow n σ) fun r10 σ9 => bdv (s_X12_findRules n r10 σ9) fun σ11 => bdv (s_X12_findFlow n x1 σ11) fun σ12 => lt (σ12 71 57) fun v13 => s_X12_flow_82 n n x2 x3 v13 (0 : Int32) σ12
def s_X12_flow_17 (n : Nat) (x1 : Int32) (x2 : Int32) (x3 : Int32) (σ : Sg) : Option (Int32 × Sg) := bd (s_X12_isHour n x1 σ) fun r4 σ3 => if r4 = 0 then (some ((-1002 : Int32), σ3)) else (if x2 = (-1 : Int32) then (bd (s_X12_in n x3.toInt64 (2 : Int64) (3 : Int64) σ3) fun r8 σ7 => if r8 = 0 then (some ((-1002 : Int32), σ7)) else (s_X12_flow_60 n x1 x2 x3 σ7)) else (bd (s_X12_in n x3.toInt64 (0 : Int64) (1 : Int64) σ3) fun r6 σ5 => if r6 = 0 then (some ((-1002 : Int32), σ5)) else (s_X12_flow_60 n x1 x2 x3 σ5)))
def s_X12_flow (n : Nat) (x1 : Int32) (x2 : Int32) (x3 : Int32) (σ : Sg) : Option (Int32 × Sg) := if x2 = (-1 : Int32) then (s_X12_flow_17 n x1 x2 x3 σ) else (bd (s_X12_noStreet n x2 σ) fun r2 σ1 => if r2 = 0 then (s_X12_flow_17 n x1 x2 x3 σ1) else (some ((-1001 : Int32), σ1)))
set_option maxRecDepth 20000 in
theorem b_X12_flow_82 {G : zG} {x : zX} {r : Int32} {τ : Sg} (O : zO G x cX12_flow RX12 5 200 6) (E : zE G x (some (.int)) (some (.int r)) τ) (n : Nat) (rc82 : Int32 → Int32 → Int32 → Int32 → Sg → Option (Int32 × Sg)) (H82 : ∀ (x2 : Int32) (x3 : Int32) (x4 : Int32) (x5 : Int32) (σ : Sg), rc82 x2 x3 x4 x5 σ = some (r, τ) → V G x σ [(0, .ref (zad G 71)), (2, .int x2), (3, .int x3), (4, .int x4), (5, .int x5)] 82 []) (x2 : Int32) (x3 : Int32) (x4 : Int32) (x5 : Int32) (σ : Sg) (h : s_X12_flow_82b n rc82 x2 x3 x4 x5 σ = some (r, τ)) : V G x σ [(0, .ref (zad G 71)), (2, .int x2), (3, .int x3), (4, .int x4), (5, .int x5)] 82 [] := by
  unfold s_X12_flow_82b at h
  refine V_iload 82 4 O dX12_flow_82 rfl ?_
  refine V_aloadn 84 0 O dX12_flow_84 rfl rfl ?_
  refine V_getI 85 O k71 fl_X12_171 dX12_flow_85 ?_
  refine V_icmp_ge 88 109 O dX12_flow_88 rfl h (fun h => ?_) (fun h => ?_)
  · refine V_iloadn 109 2 O dX12_flow_109 rfl rfl ?_
    refine V_if_ne 110 122 O dX12_flow_110 rfl h (fun h => ?_) (fun h => ?_)
    · refine V_iloadn 122 2 O dX12_flow_122 rfl rfl ?_
      refine V_iconst 123 O dX12_flow_123 ci_1 ?_
      refine V_icmp_ne 124 136 O dX12_flow_124 rfl h (fun h => ?_) (fun h => ?_)
      · refine V_iloadn 136 2 O dX12_flow_136 rfl rfl ?_
        refine V_iconst 137 O dX12_flow_137 ci_2 ?_
        refine V_icmp_ne 138 148 O dX12_flow_138 rfl h (fun h => ?_) (fun h => ?_)
        · refine V_iload 148 3 O dX12_flow_148 rfl ?_
          exact V_iret 150 O E dX12_flow_150 h
        · refine V_aloadn 141 0 O dX12_flow_141 rfl rfl ?_
          refine V_getI 142 O k71 fl_X12_322 dX12_flow_142 ?_
          refine V_goto 145 150 O dX12_flow_145 rfl ?_
          exact V_iret 150 O E dX12_flow_150 h
      · refine V_aloadn 127 0 O dX12_flow_127 rfl rfl ?_
        refine V_getR 128 O k71 fl_X12_117 rf71_53 dX12_flow_128 ?_
        refine V_iloadn 131 1 O dX12_flow_131 rfl rfl ?_
        refine V_iald 132 O k105 dX12_flow_132 h (fun h => ?_)
        refine V_goto 133 150 O dX12_flow_133 rfl ?_
        exact V_iret 150 O E dX12_flow_150 h
    · refine V_aloadn 113 0 O dX12_flow_113 rfl rfl ?_
      refine V_getR 114 O k71 fl_X12_114 rf71_52 dX12_flow_114 ?_
      refine V_iloadn 117 1 O dX12_flow_117 rfl rfl ?_
      refine V_iald 118 O k104 dX12_flow_118 h (fun h => ?_)
      refine V_goto 119 150 O dX12_flow_119 rfl ?_
      exact V_iret 150 O E dX12_flow_150 h
  · refine V_iload 91 3 O dX12_flow_91 rfl ?_
    refine V_aloadn 93 0 O dX12_flow_93 rfl rfl ?_
    refine V_getR 94 O k71 fl_X12_117 rf71_53 dX12_flow_94 ?_
    refine V_iload 97 4 O dX12_flow_97 rfl ?_
    refine V_iald 99 O k105 dX12_flow_99 h (fun h => ?_)
    refine V_iadd 100 O dX12_flow_100 ?_
    refine V_topi h (fun v14 h => ?_)
    refine V_istore 101 [1, 2, 3, 0, 4] [(0, .ref (zad G 71)), (2, .int x2), (3, .int x3), (4, .int v14), (5, .int x5)] O dX12_flow_101 (Nat.le_of_ble_eq_true rfl) rfl ?_
    refine V_iinc 103 4 [1, 2, 3, 4, 0] [(0, .ref (zad G 71)), (2, .int x2), (3, .int x3), (4, .int v14), (5, .int (x5 + (1 : Int32)))] O dX12_flow_103 rfl ci_1 (Nat.le_of_ble_eq_true rfl) rfl ?_
    refine V_goto 106 82 O dX12_flow_106 rfl ?_
    exact V_sub [0, 1, 2, 3, 4] rfl (H82 x2 x3 v14 (x5 + (1 : Int32)) σ  h)
theorem bl_X12_flow_82 {G : zG} {x : zX} {r : Int32} {τ : Sg} (O : zO G x cX12_flow RX12 5 200 6) (E : zE G x (some (.int)) (some (.int r)) τ) (n : Nat) : ∀ (k : Nat) (x2 : Int32) (x3 : Int32) (x4 : Int32) (x5 : Int32) (σ : Sg), s_X12_flow_82 n k x2 x3 x4 x5 σ = some (r, τ) → V G x σ [(0, .ref (zad G 71)), (2, .int x2), (3, .int x3), (4, .int x4), (5, .int x5)] 82 [] := by
  intro k
  induction k with
  | zero => intro x2 x3 x4 x5 σ  h; cases h
  | succ k ih => intro x2 x3 x4 x5 σ  h; exact b_X12_flow_82 O E n  (s_X12_flow_82 n  k) ih x2 x3 x4 x5 σ  h
set_option maxRecDepth 20000 in
theorem b_X12_flow_60 {G : zG} {x : zX} {r : Int32} {τ : Sg} (O : zO G x cX12_flow RX12 5 200 6) (E : zE G x (some (.int)) (some (.int r)) τ) (n : Nat) (x1 : Int32) (x2 : Int32) (x3 : Int32) (σ : Sg) (h : s_X12_flow_60 n x1 x2 x3 σ = some (r, τ)) : V G x σ [(0, .ref (zad G 71)), (1, .int x1), (2, .int x2), (3, .int x3)] 60 [] := by
  unfold s_X12_flow_60 at h
  refine V_aloadn 60 0 O dX12_flow_60 rfl rfl ?_
  refine V_aloadn 61 0 O dX12_flow_61 rfl rfl ?_
  obtain ⟨r10, σ9, g, h⟩ := bd_of h
  refine V_callVi 62 [] [.ref (zad G 71)] O mf_X12_dayNow lk_X12_365 k71 dX12_flow_62 rfl rfl (Nat.le_of_ble_eq_true rfl) ⟨(Nat.le_of_ble_eq_true rfl), (Nat.le_of_ble_eq_true rfl)⟩ (fun l => C_X12_dayNow  g) ?_
  obtain ⟨σ11, g, h⟩ := bdv_of h
  refine V_callVv 65 [.int r10] [] O mf_X12_findRules lk_X12_283 k71 dX12_flow_65 rfl rfl (Nat.le_of_ble_eq_true rfl) ⟨(Nat.le_of_ble_eq_true rfl), (Nat.le_of_ble_eq_true rfl)⟩ (fun l => C_X12_findRules  g) ?_
  refine V_aloadn 68 0 O dX12_flow_68 rfl rfl ?_
  refine V_iloadn 69 1 O dX12_flow_69 rfl rfl ?_
  obtain ⟨σ12, g, h⟩ := bdv_of h
  refine V_callVv 70 [.int x1] [] O mf_X12_findFlow lk_X12_337 k71 dX12_flow_70 rfl rfl (Nat.le_of_ble_eq_true rfl) ⟨(Nat.le_of_ble_eq_true rfl), (Nat.le_of_ble_eq_true rfl)⟩ (fun l => C_X12_findFlow  g) ?_
  refine V_aloadn 73 0 O dX12_flow_73 rfl rfl ?_
  refine V_getI 74 O k71 fl_X12_322 dX12_flow_74 ?_
  refine V_topi h (fun v13 h => ?_)
  refine V_istore 77 [1, 2, 3, 4, 0] [(0, .ref (zad G 71)), (1, .int x1), (2, .int x2), (3, .int x3), (4, .int v13)] O dX12_flow_77 (Nat.le_of_ble_eq_true rfl) rfl ?_
  refine V_iconst 79 O dX12_flow_79 ci_0 ?_
  refine V_istore 80 [1, 2, 3, 4, 5, 0] [(0, .ref (zad G 71)), (1, .int x1), (2, .int x2), (3, .int x3), (4, .int v13), (5, .int (0 : Int32))] O dX12_flow_80 (Nat.le_of_ble_eq_true rfl) rfl ?_
  exact V_sub [0, 2, 3, 4, 5] rfl (bl_X12_flow_82 O E n  n x2 x3 v13 (0 : Int32) σ12  h)
set_option maxRecDepth 20000 in
theorem b_X12_flow_17 {G : zG} {x : zX} {r : Int32} {τ : Sg} (O : zO G x cX12_flow RX12 5 200 6) (E : zE G x (some (.int)) (some (.int r)) τ) (n : Nat) (x1 : Int32) (x2 : Int32) (x3 : Int32) (σ : Sg) (h : s_X12_flow_17 n x1 x2 x3 σ = some (r, τ)) : V G x σ [(0, .ref (zad G 71)), (1, .int x1), (2, .int x2), (3, .int x3)] 17 [] := by
  unfold s_X12_flow_17 at h
  refine V_iloadn 17 1 O dX12_flow_17 rfl rfl ?_
  obtain ⟨r4, σ3, g, h⟩ := bd_of h
  refine V_callSi 18 [.int x1] [] O mf_X12_isHour lk_X12_189 dX12_flow_18 rfl rfl (Nat.le_of_ble_eq_true rfl) ⟨(Nat.le_of_ble_eq_true rfl), (Nat.le_of_ble_eq_true rfl)⟩ (fun l => C_X12_isHour  g) ?_
  refine V_if_eq 21 56 O dX12_flow_21 rfl h (fun h => ?_) (fun h => ?_)
  · refine V_sipush 56 O dX12_flow_56 cs_m1002 ?_
    exact V_iret 59 O E dX12_flow_59 h
  · refine V_iloadn 24 2 O dX12_flow_24 rfl rfl ?_
    refine V_iconst 25 O dX12_flow_25 ci_m1 ?_
    refine V_icmp_ne 26 46 O dX12_flow_26 rfl h (fun h => ?_) (fun h => ?_)
    · refine V_iloadn 46 3 O dX12_flow_46 rfl rfl ?_
      refine V_i2l 47 O dX12_flow_47 ?_
      refine V_lconst 48 O dX12_flow_48 cl_0 ?_
      refine V_lconst 49 O dX12_flow_49 cl_1 ?_
      obtain ⟨r6, σ5, g, h⟩ := bd_of h
      refine V_callSi 50 [.long x3.toInt64, .long (0 : Int64), .long (1 : Int64)] [] O mf_X12_in lk_X12_162 dX12_flow_50 rfl rfl (Nat.le_of_ble_eq_true rfl) ⟨(Nat.le_of_ble_eq_true rfl), (Nat.le_of_ble_eq_true rfl)⟩ (fun l => C_X12_in  g) ?_
      refine V_if_ne 53 60 O dX12_flow_53 rfl h (fun h => ?_) (fun h => ?_)
      · exact V_sub [0, 1, 2, 3] rfl (b_X12_flow_60 O E n  x1 x2 x3 σ5  h)
      · refine V_sipush 56 O dX12_flow_56 cs_m1002 ?_
        exact V_iret 59 O E dX12_flow_59 h
    · refine V_iloadn 29 3 O dX12_flow_29 rfl rfl ?_
      refine V_i2l 30 O dX12_flow_30 ?_
      refine V_ldc2 31 O dX12_flow_31 ld_X12_374 ?_
      refine V_ldc2 34 O dX12_flow_34 ld_X12_376 ?_
      obtain ⟨r8, σ7, g, h⟩ := bd_of h
      refine V_callSi 37 [.long x3.toInt64, .long (2 : Int64), .long (3 : Int64)] [] O mf_X12_in lk_X12_162 dX12_flow_37 rfl rfl (Nat.le_of_ble_eq_true rfl) ⟨(Nat.le_of_ble_eq_true rfl), (Nat.le_of_ble_eq_true rfl)⟩ (fun l => C_X12_in  g) ?_
      refine V_if_ne 40 60 O dX12_flow_40 rfl h (fun h => ?_) (fun h => ?_)
      · exact V_sub [0, 1, 2, 3] rfl (b_X12_flow_60 O E n  x1 x2 x3 σ7  h)
      · refine V_goto 43 56 O dX12_flow_43 rfl ?_
        refine V_sipush 56 O dX12_flow_56 cs_m1002 ?_
        exact V_iret 59 O E dX12_flow_59 h
set_option maxRecDepth 20000 in
theorem C_X12_flow {l : Launch} {G : zG} {n : Nat} {x1 : Int32} {x2 : Int32} {x3 : Int32} {σ : Sg} {r : Int32} {τ : Sg} (h : s_X12_flow n x1 x2 x3 σ = some (r, τ)) : zM l G 5 yX12_flow (.code yX12_flow cX12_flow 6 (some (.int))) [.ref (zad G 71), .int x1, .int x2, .int x3] σ (some (.int r)) τ := by
  refine zM_of (by decide) (Nat.le_of_ble_eq_true rfl) (fun x O E => ?_)
  have O : zO G x cX12_flow RX12 5 200 6 := O
  unfold s_X12_flow at h
  show V G x σ [(0, .ref (zad G 71)), (1, .int x1), (2, .int x2), (3, .int x3)] 0 []
  refine V_iloadn 0 2 O dX12_flow_0 rfl rfl ?_
  refine V_iconst 1 O dX12_flow_1 ci_m1 ?_
  refine V_icmp_eq 2 17 O dX12_flow_2 rfl h (fun h => ?_) (fun h => ?_)
  · exact V_sub [0, 1, 2, 3] rfl (b_X12_flow_17 O E n  x1 x2 x3 σ  h)
  · refine V_aloadn 5 0 O dX12_flow_5 rfl rfl ?_
    refine V_iloadn 6 2 O dX12_flow_6 rfl rfl ?_
    obtain ⟨r2, σ1, g, h⟩ := bd_of h
    refine V_callVi 7 [.int x2] [] O mf_X12_noStreet lk_X12_194 k71 dX12_flow_7 rfl rfl (Nat.le_of_ble_eq_true rfl) ⟨(Nat.le_of_ble_eq_true rfl), (Nat.le_of_ble_eq_true rfl)⟩ (fun l => C_X12_noStreet  g) ?_
    refine V_if_eq 10 17 O dX12_flow_10 rfl h (fun h => ?_) (fun h => ?_)
    · exact V_sub [0, 1, 2, 3] rfl (b_X12_flow_17 O E n  x1 x2 x3 σ1  h)
    · refine V_sipush 13 O dX12_flow_13 cs_m1001 ?_
      exact V_iret 16 O E dX12_flow_16 h
-- ==== WaterTownModel.line(II)I
def s_X12_line (n : Nat) (x1 : Int32) (x2 : Int32) (σ : Sg) : Option (Int32 × Sg) := bd (s_X12_isHour n x1 σ) fun r2 σ1 => if r2 = 0 then (some ((-1002 : Int32), σ1)) else (bd (s_X12_dayNow n σ1) fun r4 σ3 => bdv (s_X12_findRules n r4 σ3) fun σ5 => bdv (s_X12_findLine n x1 σ5) fun σ6 => bd (s_X12_in n x2.toInt64 (0 : Int64) (((σ6 71 56) - (1 : Int32)).toInt64) σ6) fun r8 σ7 => if r8 = 0 then (some ((-1 : Int32), σ7)) else (ck x2 10 (some (σ7 107 (ix x2), σ7))))
set_option maxRecDepth 20000 in
theorem C_X12_line {l : Launch} {G : zG} {n : Nat} {x1 : Int32} {x2 : Int32} {σ : Sg} {r : Int32} {τ : Sg} (h : s_X12_line n x1 x2 σ = some (r, τ)) : zM l G 4 yX12_line (.code yX12_line cX12_line 3 (some (.int))) [.ref (zad G 71), .int x1, .int x2] σ (some (.int r)) τ := by
  refine zM_of (by decide) (Nat.le_of_ble_eq_true rfl) (fun x O E => ?_)
  have O : zO G x cX12_line RX12 4 160 3 := O
  unfold s_X12_line at h
  show V G x σ [(0, .ref (zad G 71)), (1, .int x1), (2, .int x2)] 0 []
  refine V_iloadn 0 1 O dX12_line_0 rfl rfl ?_
  obtain ⟨r2, σ1, g, h⟩ := bd_of h
  refine V_callSi 1 [.int x1] [] O mf_X12_isHour lk_X12_189 dX12_line_1 rfl rfl (Nat.le_of_ble_eq_true rfl) ⟨(Nat.le_of_ble_eq_true rfl), (Nat.le_of_ble_eq_true rfl)⟩ (fun l => C_X12_isHour  g) ?_
  refine V_if_ne 4 11 O dX12_line_4 rfl h (fun h => ?_) (fun h => ?_)
  · refine V_aloadn 11 0 O dX12_line_11 rfl rfl ?_
    refine V_aloadn 12 0 O dX12_line_12 rfl rfl ?_
    obtain ⟨r4, σ3, g, h⟩ := bd_of h
    refine V_callVi 13 [] [.ref (zad G 71)] O mf_X12_dayNow lk_X12_365 k71 dX12_line_13 rfl rfl (Nat.le_of_ble_eq_true rfl) ⟨(Nat.le_of_ble_eq_true rfl), (Nat.le_of_ble_eq_true rfl)⟩ (fun l => C_X12_dayNow  g) ?_
    obtain ⟨σ5, g, h⟩ := bdv_of h
    refine V_callVv 16 [.int r4] [] O mf_X12_findRules lk_X12_283 k71 dX12_line_16 rfl rfl (Nat.le_of_ble_eq_true rfl) ⟨(Nat.le_of_ble_eq_true rfl), (Nat.le_of_ble_eq_true rfl)⟩ (fun l => C_X12_findRules  g) ?_
    refine V_aloadn 19 0 O dX12_line_19 rfl rfl ?_
    refine V_iloadn 20 1 O dX12_line_20 rfl rfl ?_
    obtain ⟨σ6, g, h⟩ := bdv_of h
    refine V_callVv 21 [.int x1] [] O mf_X12_findLine lk_X12_328 k71 dX12_line_21 rfl rfl (Nat.le_of_ble_eq_true rfl) ⟨(Nat.le_of_ble_eq_true rfl), (Nat.le_of_ble_eq_true rfl)⟩ (fun l => C_X12_findLine  g) ?_
    refine V_iloadn 24 2 O dX12_line_24 rfl rfl ?_
    refine V_i2l 25 O dX12_line_25 ?_
    refine V_lconst 26 O dX12_line_26 cl_0 ?_
    refine V_aloadn 27 0 O dX12_line_27 rfl rfl ?_
    refine V_getI 28 O k71 fl_X12_309 dX12_line_28 ?_
    refine V_iconst 31 O dX12_line_31 ci_1 ?_
    refine V_isub 32 O dX12_line_32 ?_
    refine V_i2l 33 O dX12_line_33 ?_
    obtain ⟨r8, σ7, g, h⟩ := bd_of h
    refine V_callSi 34 [.long x2.toInt64, .long (0 : Int64), .long (((σ6 71 56) - (1 : Int32)).toInt64)] [] O mf_X12_in lk_X12_162 dX12_line_34 rfl rfl (Nat.le_of_ble_eq_true rfl) ⟨(Nat.le_of_ble_eq_true rfl), (Nat.le_of_ble_eq_true rfl)⟩ (fun l => C_X12_in  g) ?_
    refine V_if_eq 37 49 O dX12_line_37 rfl h (fun h => ?_) (fun h => ?_)
    · refine V_iconst 49 O dX12_line_49 ci_m1 ?_
      exact V_iret 50 O E dX12_line_50 h
    · refine V_aloadn 40 0 O dX12_line_40 rfl rfl ?_
      refine V_getR 41 O k71 fl_X12_123 rf71_55 dX12_line_41 ?_
      refine V_iloadn 44 2 O dX12_line_44 rfl rfl ?_
      refine V_iald 45 O k107 dX12_line_45 h (fun h => ?_)
      refine V_goto 46 50 O dX12_line_46 rfl ?_
      exact V_iret 50 O E dX12_line_50 h
  · refine V_sipush 7 O dX12_line_7 cs_m1002 ?_
    exact V_iret 10 O E dX12_line_10 h
-- ==== WaterTownModel.draw(III)I
def s_X12_draw_158 (n : Nat) (rc125 : Int32 → Int32 → Sg → Option (Int32 × Sg)) (x6 : Int32) (y0 : Int32) (y1 : Int32) (σ : Sg) : Option (Int32 × Sg) := bd (s_X12_one n y0 σ) fun r22 σ21 => lt (y1 ||| (sl r22 x6)) fun v23 => rc125 v23 (x6 + (1 : Int32)) σ21
def s_X12_draw_125b (n : Nat) (rc125 : Int32 → Int32 → Sg → Option (Int32 × Sg)) (x5 : Int32) (x6 : Int32) (σ : Sg) : Option (Int32 × Sg) := if (σ 71 11) ≤ x6 then (some (x5, σ)) else (ck x6 10 (ck x6 10 (lt (if (σ 108 (ix x6)) ≤ (σ 105 (ix x6)) then (0 : Int32) else (1 : Int32)) fun v20 => s_X12_draw_158 n rc125 x6 v20 x5 σ)))
def s_X12_draw_125 (n : Nat) : Nat → Int32 → Int32 → Sg → Option (Int32 × Sg)
  | 0 => fun _ _ _ => none
  | k + 1 => s_X12_draw_125b n (s_X12_draw_125 n k)
def s_X12_draw_63b (n : Nat) (rc63 : Int32 → Int32 → Int32 → Int32 → Sg → Option (Int32 × Sg)) (x1 : Int32) (x2 : Int32) (x3 : Int32) (x4 : Int32) (σ : Sg) : Option (Int32 × Sg) := if (σ 71 11) ≤ x4 then (bdv (s_X12_askLeaks n x2 σ) fun σ13 => bd (s_X12_ask n x1 (1000000 : Int32) σ13) fun r15 σ14 => if x3 = (1 : Int32) then (some (r15, σ14)) else (bdv (s_X12_askStreets n σ14) fun σ16 => s_X12_draw_125 n n (0 : Int32) (0 : Int32) σ16)) else (ck x4 10 (ck x4 10 (lt (up2 σ 108 (ix x4) (σ 105 (ix x4))) fun σ17 => rc63 x1 x2 x3 (x4 + (1 : Int32)) σ17)))
def s_X12_draw_63 (n : Nat) : Nat → Int32 → Int32 → Int32 → Int32 → Sg → Option (Int32 × Sg)
  | 0 => fun _ _ _ _ _ => none
  | k + 1 => s_X12_draw_63b n (s_X12_draw_63 n k)
def s_X12_draw (n : Nat) (x1 : Int32) (x2 : Int32) (x3 : Int32) (σ : Sg) : Option (Int32 × Sg) := bd (s_X12_isNode n x1 σ) fun r2 σ1 => if r2 = 0 then (some ((-1001 : Int32), σ1)) else (bd (s_X12_isHour n x2 σ1) fun r4 σ3 => if r4 = 0 then (some ((-1002 : Int32), σ3)) else (bd (s_X12_in n x3.toInt64 (0 : Int64) (2 : Int64) σ3) fun r6 σ5 => if r6 = 0 then (some ((-1002 : Int32), σ5)) else (bd (s_X12_dayNow n σ5) fun r8 σ7 => bdv (s_X12_findRules n r8 σ7) fun σ9 => bdv (s_X12_findFlow n x2 σ9) fun σ10 => if x3 = 0 then (bd (s_X12_ask n x1 (1000000 : Int32) σ10) fun r12 σ11 => some (r12, σ11)) else (s_X12_draw_63 n n x1 x2 x3 (0 : Int32) σ10))))
set_option maxRecDepth 20000 in
theorem b_X12_draw_158 {G : zG} {x : zX} {r : Int32} {τ : Sg} (O : zO G x cX12_draw RX12 5 200 7) (E : zE G x (some (.int)) (some (.int r)) τ) (n : Nat) (rc125 : Int32 → Int32 → Sg → Option (Int32 × Sg)) (H125 : ∀ (x5 : Int32) (x6 : Int32) (σ : Sg), rc125 x5 x6 σ = some (r, τ) → V G x σ [(0, .ref (zad G 71)), (5, .int x5), (6, .int x6)] 125 []) (x6 : Int32) (y0 : Int32) (y1 : Int32) (σ : Sg) (h : s_X12_draw_158 n rc125 x6 y0 y1 σ = some (r, τ)) : V G x σ [(0, .ref (zad G 71)), (6, .int x6)] 158 [.int y0, .int y1] := by
  unfold s_X12_draw_158 at h
  obtain ⟨r22, σ21, g, h⟩ := bd_of h
  refine V_callSi 158 [.int y0] [.int y1] O mf_X12_one lk_X12_185 dX12_draw_158 rfl rfl (Nat.le_of_ble_eq_true rfl) ⟨(Nat.le_of_ble_eq_true rfl), (Nat.le_of_ble_eq_true rfl)⟩ (fun l => C_X12_one  g) ?_
  refine V_iload 161 1 O dX12_draw_161 rfl ?_
  refine V_ishl 163 O dX12_draw_163 ?_
  refine V_ior 164 O dX12_draw_164 ?_
  refine V_topi h (fun v23 h => ?_)
  refine V_istore 165 [1, 0, 2] [(0, .ref (zad G 71)), (5, .int v23), (6, .int x6)] O dX12_draw_165 (Nat.le_of_ble_eq_true rfl) rfl ?_
  refine V_iinc 167 2 [1, 2, 0] [(0, .ref (zad G 71)), (5, .int v23), (6, .int (x6 + (1 : Int32)))] O dX12_draw_167 rfl ci_1 (Nat.le_of_ble_eq_true rfl) rfl ?_
  refine V_goto 170 125 O dX12_draw_170 rfl ?_
  exact V_sub [0, 1, 2] rfl (H125 v23 (x6 + (1 : Int32)) σ21  h)
set_option maxRecDepth 20000 in
theorem b_X12_draw_125 {G : zG} {x : zX} {r : Int32} {τ : Sg} (O : zO G x cX12_draw RX12 5 200 7) (E : zE G x (some (.int)) (some (.int r)) τ) (n : Nat) (rc125 : Int32 → Int32 → Sg → Option (Int32 × Sg)) (H125 : ∀ (x5 : Int32) (x6 : Int32) (σ : Sg), rc125 x5 x6 σ = some (r, τ) → V G x σ [(0, .ref (zad G 71)), (5, .int x5), (6, .int x6)] 125 []) (x5 : Int32) (x6 : Int32) (σ : Sg) (h : s_X12_draw_125b n rc125 x5 x6 σ = some (r, τ)) : V G x σ [(0, .ref (zad G 71)), (5, .int x5), (6, .int x6)] 125 [] := by
  unfold s_X12_draw_125b at h
  refine V_iload 125 2 O dX12_draw_125 rfl ?_
  refine V_aloadn 127 0 O dX12_draw_127 rfl rfl ?_
  refine V_getI 128 O k71 fl_X12_171 dX12_draw_128 ?_
  refine V_icmp_ge 131 173 O dX12_draw_131 rfl h (fun h => ?_) (fun h => ?_)
  · refine V_iload 173 1 O dX12_draw_173 rfl ?_
    exact V_iret 175 O E dX12_draw_175 h
  · refine V_iload 134 1 O dX12_draw_134 rfl ?_
    refine V_aloadn 136 0 O dX12_draw_136 rfl rfl ?_
    refine V_getR 137 O k71 fl_X12_117 rf71_53 dX12_draw_137 ?_
    refine V_iload 140 2 O dX12_draw_140 rfl ?_
    refine V_iald 142 O k105 dX12_draw_142 h (fun h => ?_)
    refine V_aloadn 143 0 O dX12_draw_143 rfl rfl ?_
    refine V_getR 144 O k71 fl_X12_126 rf71_58 dX12_draw_144 ?_
    refine V_iload 147 2 O dX12_draw_147 rfl ?_
    refine V_iald 149 O k108 dX12_draw_149 h (fun h => ?_)
    have J18 : V G x σ [(0, .ref (zad G 71)), (5, .int x5), (6, .int x6)] 158 [.int (if (σ 108 (ix x6)) ≤ (σ 105 (ix x6)) then (0 : Int32) else (1 : Int32)), .int x5] := by
      refine V_topi h (fun v20 h => ?_)
      exact V_sub [0, 2] rfl (b_X12_draw_158 O E n rc125 H125 x6 v20 x5 σ  h)
    refine V_icmp_gec 150 157 O dX12_draw_150 rfl (fun c19 => ?_) (fun c19 => ?_)
    · refine V_iconst 157 O dX12_draw_157 ci_0 ?_
      exact V_top (by rw [if_pos c19]) J18
    · refine V_iconst 153 O dX12_draw_153 ci_1 ?_
      refine V_goto 154 158 O dX12_draw_154 rfl ?_
      exact V_top (by rw [if_neg c19]) J18
theorem bl_X12_draw_125 {G : zG} {x : zX} {r : Int32} {τ : Sg} (O : zO G x cX12_draw RX12 5 200 7) (E : zE G x (some (.int)) (some (.int r)) τ) (n : Nat) : ∀ (k : Nat) (x5 : Int32) (x6 : Int32) (σ : Sg), s_X12_draw_125 n k x5 x6 σ = some (r, τ) → V G x σ [(0, .ref (zad G 71)), (5, .int x5), (6, .int x6)] 125 [] := by
  intro k
  induction k with
  | zero => intro x5 x6 σ  h; cases h
  | succ k ih => intro x5 x6 σ  h; exact b_X12_draw_125 O E n  (s_X12_draw_125 n  k) ih x5 x6 σ  h
set_option maxRecDepth 20000 in
theorem b_X12_draw_63 {G : zG} {x : zX} {r : Int32} {τ : Sg} (O : zO G x cX12_draw RX12 5 200 7) (E : zE G x (some (.int)) (some (.int r)) τ) (n : Nat) (rc63 : Int32 → Int32 → Int32 → Int32 → Sg → Option (Int32 × Sg)) (H63 : ∀ (x1 : Int32) (x2 : Int32) (x3 : Int32) (x4 : Int32) (σ : Sg), rc63 x1 x2 x3 x4 σ = some (r, τ) → V G x σ [(0, .ref (zad G 71)), (1, .int x1), (2, .int x2), (3, .int x3), (4, .int x4)] 63 []) (x1 : Int32) (x2 : Int32) (x3 : Int32) (x4 : Int32) (σ : Sg) (h : s_X12_draw_63b n rc63 x1 x2 x3 x4 σ = some (r, τ)) : V G x σ [(0, .ref (zad G 71)), (1, .int x1), (2, .int x2), (3, .int x3), (4, .int x4)] 63 [] := by
  unfold s_X12_draw_63b at h
  refine V_iload 63 4 O dX12_draw_63 rfl ?_
  refine V_aloadn 65 0 O dX12_draw_65 rfl rfl ?_
  refine V_getI 66 O k71 fl_X12_171 dX12_draw_66 ?_
  refine V_icmp_ge 69 92 O dX12_draw_69 rfl h (fun h => ?_) (fun h => ?_)
  · refine V_aloadn 92 0 O dX12_draw_92 rfl rfl ?_
    refine V_iloadn 93 2 O dX12_draw_93 rfl rfl ?_
    obtain ⟨σ13, g, h⟩ := bdv_of h
    refine V_callVv 94 [.int x2] [] O mf_X12_askLeaks lk_X12_331 k71 dX12_draw_94 rfl rfl (Nat.le_of_ble_eq_true rfl) ⟨(Nat.le_of_ble_eq_true rfl), (Nat.le_of_ble_eq_true rfl)⟩ (fun l => C_X12_askLeaks  g) ?_
    refine V_aloadn 97 0 O dX12_draw_97 rfl rfl ?_
    refine V_iloadn 98 1 O dX12_draw_98 rfl rfl ?_
    refine V_ldcw 99 O dX12_draw_99 kc_X12_378 ?_
    obtain ⟨r15, σ14, g, h⟩ := bd_of h
    refine V_callVi 102 [.int x1, .int (1000000 : Int32)] [] O mf_X12_ask lk_X12_325 k71 dX12_draw_102 rfl rfl (Nat.le_of_ble_eq_true rfl) ⟨(Nat.le_of_ble_eq_true rfl), (Nat.le_of_ble_eq_true rfl)⟩ (fun l => C_X12_ask  g) ?_
    refine V_istore 105 [1, 2, 3, 4, 0] [(0, .ref (zad G 71)), (1, .int x1), (2, .int x2), (3, .int x3), (4, .int r15)] O dX12_draw_105 (Nat.le_of_ble_eq_true rfl) rfl ?_
    refine V_iloadn 107 3 O dX12_draw_107 rfl rfl ?_
    refine V_iconst 108 O dX12_draw_108 ci_1 ?_
    refine V_icmp_ne 109 115 O dX12_draw_109 rfl h (fun h => ?_) (fun h => ?_)
    · refine V_aloadn 115 0 O dX12_draw_115 rfl rfl ?_
      obtain ⟨σ16, g, h⟩ := bdv_of h
      refine V_callVv 116 [] [] O mf_X12_askStreets lk_X12_334 k71 dX12_draw_116 rfl rfl (Nat.le_of_ble_eq_true rfl) ⟨(Nat.le_of_ble_eq_true rfl), (Nat.le_of_ble_eq_true rfl)⟩ (fun l => C_X12_askStreets  g) ?_
      refine V_iconst 119 O dX12_draw_119 ci_0 ?_
      refine V_istore 120 [1, 2, 3, 4, 5, 0] [(0, .ref (zad G 71)), (1, .int x1), (2, .int x2), (3, .int x3), (4, .int r15), (5, .int (0 : Int32))] O dX12_draw_120 (Nat.le_of_ble_eq_true rfl) rfl ?_
      refine V_iconst 122 O dX12_draw_122 ci_0 ?_
      refine V_istore 123 [1, 2, 3, 4, 5, 6, 0] [(0, .ref (zad G 71)), (1, .int x1), (2, .int x2), (3, .int x3), (4, .int r15), (5, .int (0 : Int32)), (6, .int (0 : Int32))] O dX12_draw_123 (Nat.le_of_ble_eq_true rfl) rfl ?_
      exact V_sub [0, 5, 6] rfl (bl_X12_draw_125 O E n  n (0 : Int32) (0 : Int32) σ16  h)
    · refine V_iload 112 4 O dX12_draw_112 rfl ?_
      exact V_iret 114 O E dX12_draw_114 h
  · refine V_aloadn 72 0 O dX12_draw_72 rfl rfl ?_
    refine V_getR 73 O k71 fl_X12_126 rf71_58 dX12_draw_73 ?_
    refine V_iload 76 4 O dX12_draw_76 rfl ?_
    refine V_aloadn 78 0 O dX12_draw_78 rfl rfl ?_
    refine V_getR 79 O k71 fl_X12_117 rf71_53 dX12_draw_79 ?_
    refine V_iload 82 4 O dX12_draw_82 rfl ?_
    refine V_iald 84 O k105 dX12_draw_84 h (fun h => ?_)
    refine V_iast 85 O k108 dX12_draw_85 h (fun σ17 h => ?_)
    refine V_iinc 86 4 [1, 2, 3, 4, 0] [(0, .ref (zad G 71)), (1, .int x1), (2, .int x2), (3, .int x3), (4, .int (x4 + (1 : Int32)))] O dX12_draw_86 rfl ci_1 (Nat.le_of_ble_eq_true rfl) rfl ?_
    refine V_goto 89 63 O dX12_draw_89 rfl ?_
    exact V_sub [0, 1, 2, 3, 4] rfl (H63 x1 x2 x3 (x4 + (1 : Int32)) σ17  h)
theorem bl_X12_draw_63 {G : zG} {x : zX} {r : Int32} {τ : Sg} (O : zO G x cX12_draw RX12 5 200 7) (E : zE G x (some (.int)) (some (.int r)) τ) (n : Nat) : ∀ (k : Nat) (x1 : Int32) (x2 : Int32) (x3 : Int32) (x4 : Int32) (σ : Sg), s_X12_draw_63 n k x1 x2 x3 x4 σ = some (r, τ) → V G x σ [(0, .ref (zad G 71)), (1, .int x1), (2, .int x2), (3, .int x3), (4, .int x4)] 63 [] := by
  intro k
  induction k with
  | zero => intro x1 x2 x3 x4 σ  h; cases h
  | succ k ih => intro x1 x2 x3 x4 σ  h; exact b_X12_draw_63 O E n  (s_X12_draw_63 n  k) ih x1 x2 x3 x4 σ  h
set_option maxRecDepth 20000 in
theorem C_X12_draw {l : Launch} {G : zG} {n : Nat} {x1 : Int32} {x2 : Int32} {x3 : Int32} {σ : Sg} {r : Int32} {τ : Sg} (h : s_X12_draw n x1 x2 x3 σ = some (r, τ)) : zM l G 5 yX12_draw (.code yX12_draw cX12_draw 7 (some (.int))) [.ref (zad G 71), .int x1, .int x2, .int x3] σ (some (.int r)) τ := by
  refine zM_of (by decide) (Nat.le_of_ble_eq_true rfl) (fun x O E => ?_)
  have O : zO G x cX12_draw RX12 5 200 7 := O
  unfold s_X12_draw at h
  show V G x σ [(0, .ref (zad G 71)), (1, .int x1), (2, .int x2), (3, .int x3)] 0 []
  refine V_iloadn 0 1 O dX12_draw_0 rfl rfl ?_
  obtain ⟨r2, σ1, g, h⟩ := bd_of h
  refine V_callSi 1 [.int x1] [] O mf_X12_isNode lk_X12_174 dX12_draw_1 rfl rfl (Nat.le_of_ble_eq_true rfl) ⟨(Nat.le_of_ble_eq_true rfl), (Nat.le_of_ble_eq_true rfl)⟩ (fun l => C_X12_isNode  g) ?_
  refine V_if_ne 4 11 O dX12_draw_4 rfl h (fun h => ?_) (fun h => ?_)
  · refine V_iloadn 11 2 O dX12_draw_11 rfl rfl ?_
    obtain ⟨r4, σ3, g, h⟩ := bd_of h
    refine V_callSi 12 [.int x2] [] O mf_X12_isHour lk_X12_189 dX12_draw_12 rfl rfl (Nat.le_of_ble_eq_true rfl) ⟨(Nat.le_of_ble_eq_true rfl), (Nat.le_of_ble_eq_true rfl)⟩ (fun l => C_X12_isHour  g) ?_
    refine V_if_eq 15 30 O dX12_draw_15 rfl h (fun h => ?_) (fun h => ?_)
    · refine V_sipush 30 O dX12_draw_30 cs_m1002 ?_
      exact V_iret 33 O E dX12_draw_33 h
    · refine V_iloadn 18 3 O dX12_draw_18 rfl rfl ?_
      refine V_i2l 19 O dX12_draw_19 ?_
      refine V_lconst 20 O dX12_draw_20 cl_0 ?_
      refine V_ldc2 21 O dX12_draw_21 ld_X12_374 ?_
      obtain ⟨r6, σ5, g, h⟩ := bd_of h
      refine V_callSi 24 [.long x3.toInt64, .long (0 : Int64), .long (2 : Int64)] [] O mf_X12_in lk_X12_162 dX12_draw_24 rfl rfl (Nat.le_of_ble_eq_true rfl) ⟨(Nat.le_of_ble_eq_true rfl), (Nat.le_of_ble_eq_true rfl)⟩ (fun l => C_X12_in  g) ?_
      refine V_if_ne 27 34 O dX12_draw_27 rfl h (fun h => ?_) (fun h => ?_)
      · refine V_aloadn 34 0 O dX12_draw_34 rfl rfl ?_
        refine V_aloadn 35 0 O dX12_draw_35 rfl rfl ?_
        obtain ⟨r8, σ7, g, h⟩ := bd_of h
        refine V_callVi 36 [] [.ref (zad G 71)] O mf_X12_dayNow lk_X12_365 k71 dX12_draw_36 rfl rfl (Nat.le_of_ble_eq_true rfl) ⟨(Nat.le_of_ble_eq_true rfl), (Nat.le_of_ble_eq_true rfl)⟩ (fun l => C_X12_dayNow  g) ?_
        obtain ⟨σ9, g, h⟩ := bdv_of h
        refine V_callVv 39 [.int r8] [] O mf_X12_findRules lk_X12_283 k71 dX12_draw_39 rfl rfl (Nat.le_of_ble_eq_true rfl) ⟨(Nat.le_of_ble_eq_true rfl), (Nat.le_of_ble_eq_true rfl)⟩ (fun l => C_X12_findRules  g) ?_
        refine V_aloadn 42 0 O dX12_draw_42 rfl rfl ?_
        refine V_iloadn 43 2 O dX12_draw_43 rfl rfl ?_
        obtain ⟨σ10, g, h⟩ := bdv_of h
        refine V_callVv 44 [.int x2] [] O mf_X12_findFlow lk_X12_337 k71 dX12_draw_44 rfl rfl (Nat.le_of_ble_eq_true rfl) ⟨(Nat.le_of_ble_eq_true rfl), (Nat.le_of_ble_eq_true rfl)⟩ (fun l => C_X12_findFlow  g) ?_
        refine V_iloadn 47 3 O dX12_draw_47 rfl rfl ?_
        refine V_if_ne 48 60 O dX12_draw_48 rfl h (fun h => ?_) (fun h => ?_)
        · refine V_iconst 60 O dX12_draw_60 ci_0 ?_
          refine V_istore 61 [1, 2, 3, 4, 0] [(0, .ref (zad G 71)), (1, .int x1), (2, .int x2), (3, .int x3), (4, .int (0 : Int32))] O dX12_draw_61 (Nat.le_of_ble_eq_true rfl) rfl ?_
          exact V_sub [0, 1, 2, 3, 4] rfl (bl_X12_draw_63 O E n  n x1 x2 x3 (0 : Int32) σ10  h)
        · refine V_aloadn 51 0 O dX12_draw_51 rfl rfl ?_
          refine V_iloadn 52 1 O dX12_draw_52 rfl rfl ?_
          refine V_ldcw 53 O dX12_draw_53 kc_X12_378 ?_
          obtain ⟨r12, σ11, g, h⟩ := bd_of h
          refine V_callVi 56 [.int x1, .int (1000000 : Int32)] [] O mf_X12_ask lk_X12_325 k71 dX12_draw_56 rfl rfl (Nat.le_of_ble_eq_true rfl) ⟨(Nat.le_of_ble_eq_true rfl), (Nat.le_of_ble_eq_true rfl)⟩ (fun l => C_X12_ask  g) ?_
          exact V_iret 59 O E dX12_draw_59 h
      · refine V_sipush 30 O dX12_draw_30 cs_m1002 ?_
        exact V_iret 33 O E dX12_draw_33 h
  · refine V_sipush 7 O dX12_draw_7 cs_m1001 ?_
    exact V_iret 10 O E dX12_draw_10 h
-- ==== WaterTownModel.keep(IIZ)I
def s_X12_keep (n : Nat) (x1 : Int32) (x2 : Int32) (x3 : Int32) (σ : Sg) : Option (Int32 × Sg) := if x3 = 0 then (ck x1 64 (lt (up2 σ 109 (ix x1) x2) fun σ1 => ck x1 64 (some (σ1 109 (ix x1), σ1)))) else (ck x1 64 (some (σ 109 (ix x1), σ)))
set_option maxRecDepth 20000 in
theorem C_X12_keep {l : Launch} {G : zG} {n : Nat} {x1 : Int32} {x2 : Int32} {x3 : Int32} {σ : Sg} {r : Int32} {τ : Sg} (h : s_X12_keep n x1 x2 x3 σ = some (r, τ)) : zM l G 0 yX12_keep (.code yX12_keep cX12_keep 5 (some (.int))) [.ref (zad G 71), .int x1, .int x2, .int x3] σ (some (.int r)) τ := by
  refine zM_of (by decide) (Nat.le_of_ble_eq_true rfl) (fun x O E => ?_)
  have O : zO G x cX12_keep RX12 0 0 5 := O
  unfold s_X12_keep at h
  show V G x σ [(0, .ref (zad G 71)), (1, .int x1), (2, .int x2), (3, .int x3)] 0 []
  refine V_iloadn 0 1 O dX12_keep_0 rfl rfl ?_
  refine V_istore 1 [1, 2, 3, 4, 0] [(0, .ref (zad G 71)), (1, .int x1), (2, .int x2), (3, .int x3), (4, .int x1)] O dX12_keep_1 (Nat.le_of_ble_eq_true rfl) rfl ?_
  refine V_iloadn 3 3 O dX12_keep_3 rfl rfl ?_
  refine V_if_ne 4 15 O dX12_keep_4 rfl h (fun h => ?_) (fun h => ?_)
  · refine V_aloadn 15 0 O dX12_keep_15 rfl rfl ?_
    refine V_getR 16 O k71 fl_X12_129 rf71_59 dX12_keep_16 ?_
    refine V_iload 19 4 O dX12_keep_19 rfl ?_
    refine V_iald 21 O k109 dX12_keep_21 h (fun h => ?_)
    exact V_iret 22 O E dX12_keep_22 h
  · refine V_aloadn 7 0 O dX12_keep_7 rfl rfl ?_
    refine V_getR 8 O k71 fl_X12_129 rf71_59 dX12_keep_8 ?_
    refine V_iload 11 4 O dX12_keep_11 rfl ?_
    refine V_iloadn 13 2 O dX12_keep_13 rfl rfl ?_
    refine V_iast 14 O k109 dX12_keep_14 h (fun σ1 h => ?_)
    refine V_aloadn 15 0 O dX12_keep_15 rfl rfl ?_
    refine V_getR 16 O k71 fl_X12_129 rf71_59 dX12_keep_16 ?_
    refine V_iload 19 4 O dX12_keep_19 rfl ?_
    refine V_iald 21 O k109 dX12_keep_21 h (fun h => ?_)
    exact V_iret 22 O E dX12_keep_22 h
-- ==== WaterTownModel.keepAll(Z)V
def s_X12_keepAll_2b (n : Nat) (rc2 : Int32 → Int32 → Sg → Option Sg) (x1 : Int32) (x2 : Int32) (σ : Sg) : Option Sg := if (10 : Int32) ≤ x2 then (bd (s_X12_keep n (60 : Int32) (σ 71 25) x1 σ) fun r2 σ1 => lt (up2 σ1 71 25 r2) fun σ3 => some σ3) else (ck x2 10 (bd (s_X12_keep n ((6 : Int32) * x2) (σ 88 (ix x2)) x1 σ) fun r5 σ4 => ck x2 10 (lt (up2 σ4 88 (ix x2) r5) fun σ6 => ck x2 10 (bd (s_X12_keep n (((6 : Int32) * x2) + (1 : Int32)) (σ6 89 (ix x2)) x1 σ6) fun r8 σ7 => ck x2 10 (lt (up2 σ7 89 (ix x2) r8) fun σ9 => ck x2 10 (bd (s_X12_keep n (((6 : Int32) * x2) + (2 : Int32)) (σ9 90 (ix x2)) x1 σ9) fun r11 σ10 => ck x2 10 (lt (up2 σ10 90 (ix x2) r11) fun σ12 => ck x2 10 (bd (s_X12_keep n (((6 : Int32) * x2) + (3 : Int32)) (σ12 91 (ix x2)) x1 σ12) fun r14 σ13 => ck x2 10 (lt (up2 σ13 91 (ix x2) r14) fun σ15 => ck x2 10 (bd (s_X12_keep n (((6 : Int32) * x2) + (4 : Int32)) (σ15 92 (ix x2)) x1 σ15) fun r17 σ16 => ck x2 10 (lt (up2 σ16 92 (ix x2) r17) fun σ18 => if x1 = 0 then (ck x2 10 (ck x2 10 (lt (up2 σ18 110 (ix x2) (vp_nar .boolean (σ18 86 (ix x2)))) fun σ19 => rc2 x1 (x2 + (1 : Int32)) σ19))) else (ck x2 10 (ck x2 10 (lt (up2 σ18 86 (ix x2) (vp_nar .boolean (σ18 110 (ix x2)))) fun σ20 => rc2 x1 (x2 + (1 : Int32)) σ20))))))))))))))
def s_X12_keepAll_2 (n : Nat) : Nat → Int32 → Int32 → Sg → Option Sg
  | 0 => fun _ _ _ => none
  | k + 1 => s_X12_keepAll_2b n (s_X12_keepAll_2 n k)
def s_X12_keepAll (n : Nat) (x1 : Int32) (σ : Sg) : Option Sg := s_X12_keepAll_2 n n x1 (0 : Int32) σ
set_option maxRecDepth 20000 in
theorem b_X12_keepAll_2 {G : zG} {x : zX} {τ : Sg} (O : zO G x cX12_keepAll RX12 1 40 3) (E : zE G x none none τ) (n : Nat) (rc2 : Int32 → Int32 → Sg → Option Sg) (H2 : ∀ (x1 : Int32) (x2 : Int32) (σ : Sg), rc2 x1 x2 σ = some τ → V G x σ [(0, .ref (zad G 71)), (1, .int x1), (2, .int x2)] 2 []) (x1 : Int32) (x2 : Int32) (σ : Sg) (h : s_X12_keepAll_2b n rc2 x1 x2 σ = some τ) : V G x σ [(0, .ref (zad G 71)), (1, .int x1), (2, .int x2)] 2 [] := by
  unfold s_X12_keepAll_2b at h
  refine V_iloadn 2 2 O dX12_keepAll_2 rfl rfl ?_
  refine V_bipush 3 O dX12_keepAll_3 cb_10 ?_
  refine V_icmp_ge 5 158 O dX12_keepAll_5 rfl h (fun h => ?_) (fun h => ?_)
  · refine V_aloadn 158 0 O dX12_keepAll_158 rfl rfl ?_
    refine V_aloadn 159 0 O dX12_keepAll_159 rfl rfl ?_
    refine V_bipush 160 O dX12_keepAll_160 cb_60 ?_
    refine V_aloadn 162 0 O dX12_keepAll_162 rfl rfl ?_
    refine V_getI 163 O k71 fl_X12_340 dX12_keepAll_163 ?_
    refine V_iloadn 166 1 O dX12_keepAll_166 rfl rfl ?_
    obtain ⟨r2, σ1, g, h⟩ := bd_of h
    refine V_callVi 167 [.int (60 : Int32), .int (σ 71 25), .int x1] [.ref (zad G 71)] O mf_X12_keep lk_X12_379 k71 dX12_keepAll_167 rfl rfl (Nat.le_of_ble_eq_true rfl) ⟨(Nat.le_of_ble_eq_true rfl), (Nat.le_of_ble_eq_true rfl)⟩ (fun l => C_X12_keep  g) ?_
    refine V_put 170 O k71 fp_X12_340 dX12_keepAll_170 h (fun σ3 h => ?_)
    exact V_vret 173 O E dX12_keepAll_173 h
  · refine V_aloadn 8 0 O dX12_keepAll_8 rfl rfl ?_
    refine V_getR 9 O k71 fl_X12_59 rf71_19 dX12_keepAll_9 ?_
    refine V_iloadn 12 2 O dX12_keepAll_12 rfl rfl ?_
    refine V_aloadn 13 0 O dX12_keepAll_13 rfl rfl ?_
    refine V_bipush 14 O dX12_keepAll_14 cb_6 ?_
    refine V_iloadn 16 2 O dX12_keepAll_16 rfl rfl ?_
    refine V_imul 17 O dX12_keepAll_17 ?_
    refine V_aloadn 18 0 O dX12_keepAll_18 rfl rfl ?_
    refine V_getR 19 O k71 fl_X12_59 rf71_19 dX12_keepAll_19 ?_
    refine V_iloadn 22 2 O dX12_keepAll_22 rfl rfl ?_
    refine V_iald 23 O k88 dX12_keepAll_23 h (fun h => ?_)
    refine V_iloadn 24 1 O dX12_keepAll_24 rfl rfl ?_
    obtain ⟨r5, σ4, g, h⟩ := bd_of h
    refine V_callVi 25 [.int ((6 : Int32) * x2), .int (σ 88 (ix x2)), .int x1] [.int x2, .ref (zad G 88)] O mf_X12_keep lk_X12_379 k71 dX12_keepAll_25 rfl rfl (Nat.le_of_ble_eq_true rfl) ⟨(Nat.le_of_ble_eq_true rfl), (Nat.le_of_ble_eq_true rfl)⟩ (fun l => C_X12_keep  g) ?_
    refine V_iast 28 O k88 dX12_keepAll_28 h (fun σ6 h => ?_)
    refine V_aloadn 29 0 O dX12_keepAll_29 rfl rfl ?_
    refine V_getR 30 O k71 fl_X12_62 rf71_20 dX12_keepAll_30 ?_
    refine V_iloadn 33 2 O dX12_keepAll_33 rfl rfl ?_
    refine V_aloadn 34 0 O dX12_keepAll_34 rfl rfl ?_
    refine V_bipush 35 O dX12_keepAll_35 cb_6 ?_
    refine V_iloadn 37 2 O dX12_keepAll_37 rfl rfl ?_
    refine V_imul 38 O dX12_keepAll_38 ?_
    refine V_iconst 39 O dX12_keepAll_39 ci_1 ?_
    refine V_iadd 40 O dX12_keepAll_40 ?_
    refine V_aloadn 41 0 O dX12_keepAll_41 rfl rfl ?_
    refine V_getR 42 O k71 fl_X12_62 rf71_20 dX12_keepAll_42 ?_
    refine V_iloadn 45 2 O dX12_keepAll_45 rfl rfl ?_
    refine V_iald 46 O k89 dX12_keepAll_46 h (fun h => ?_)
    refine V_iloadn 47 1 O dX12_keepAll_47 rfl rfl ?_
    obtain ⟨r8, σ7, g, h⟩ := bd_of h
    refine V_callVi 48 [.int (((6 : Int32) * x2) + (1 : Int32)), .int (σ6 89 (ix x2)), .int x1] [.int x2, .ref (zad G 89)] O mf_X12_keep lk_X12_379 k71 dX12_keepAll_48 rfl rfl (Nat.le_of_ble_eq_true rfl) ⟨(Nat.le_of_ble_eq_true rfl), (Nat.le_of_ble_eq_true rfl)⟩ (fun l => C_X12_keep  g) ?_
    refine V_iast 51 O k89 dX12_keepAll_51 h (fun σ9 h => ?_)
    refine V_aloadn 52 0 O dX12_keepAll_52 rfl rfl ?_
    refine V_getR 53 O k71 fl_X12_65 rf71_21 dX12_keepAll_53 ?_
    refine V_iloadn 56 2 O dX12_keepAll_56 rfl rfl ?_
    refine V_aloadn 57 0 O dX12_keepAll_57 rfl rfl ?_
    refine V_bipush 58 O dX12_keepAll_58 cb_6 ?_
    refine V_iloadn 60 2 O dX12_keepAll_60 rfl rfl ?_
    refine V_imul 61 O dX12_keepAll_61 ?_
    refine V_iconst 62 O dX12_keepAll_62 ci_2 ?_
    refine V_iadd 63 O dX12_keepAll_63 ?_
    refine V_aloadn 64 0 O dX12_keepAll_64 rfl rfl ?_
    refine V_getR 65 O k71 fl_X12_65 rf71_21 dX12_keepAll_65 ?_
    refine V_iloadn 68 2 O dX12_keepAll_68 rfl rfl ?_
    refine V_iald 69 O k90 dX12_keepAll_69 h (fun h => ?_)
    refine V_iloadn 70 1 O dX12_keepAll_70 rfl rfl ?_
    obtain ⟨r11, σ10, g, h⟩ := bd_of h
    refine V_callVi 71 [.int (((6 : Int32) * x2) + (2 : Int32)), .int (σ9 90 (ix x2)), .int x1] [.int x2, .ref (zad G 90)] O mf_X12_keep lk_X12_379 k71 dX12_keepAll_71 rfl rfl (Nat.le_of_ble_eq_true rfl) ⟨(Nat.le_of_ble_eq_true rfl), (Nat.le_of_ble_eq_true rfl)⟩ (fun l => C_X12_keep  g) ?_
    refine V_iast 74 O k90 dX12_keepAll_74 h (fun σ12 h => ?_)
    refine V_aloadn 75 0 O dX12_keepAll_75 rfl rfl ?_
    refine V_getR 76 O k71 fl_X12_68 rf71_22 dX12_keepAll_76 ?_
    refine V_iloadn 79 2 O dX12_keepAll_79 rfl rfl ?_
    refine V_aloadn 80 0 O dX12_keepAll_80 rfl rfl ?_
    refine V_bipush 81 O dX12_keepAll_81 cb_6 ?_
    refine V_iloadn 83 2 O dX12_keepAll_83 rfl rfl ?_
    refine V_imul 84 O dX12_keepAll_84 ?_
    refine V_iconst 85 O dX12_keepAll_85 ci_3 ?_
    refine V_iadd 86 O dX12_keepAll_86 ?_
    refine V_aloadn 87 0 O dX12_keepAll_87 rfl rfl ?_
    refine V_getR 88 O k71 fl_X12_68 rf71_22 dX12_keepAll_88 ?_
    refine V_iloadn 91 2 O dX12_keepAll_91 rfl rfl ?_
    refine V_iald 92 O k91 dX12_keepAll_92 h (fun h => ?_)
    refine V_iloadn 93 1 O dX12_keepAll_93 rfl rfl ?_
    obtain ⟨r14, σ13, g, h⟩ := bd_of h
    refine V_callVi 94 [.int (((6 : Int32) * x2) + (3 : Int32)), .int (σ12 91 (ix x2)), .int x1] [.int x2, .ref (zad G 91)] O mf_X12_keep lk_X12_379 k71 dX12_keepAll_94 rfl rfl (Nat.le_of_ble_eq_true rfl) ⟨(Nat.le_of_ble_eq_true rfl), (Nat.le_of_ble_eq_true rfl)⟩ (fun l => C_X12_keep  g) ?_
    refine V_iast 97 O k91 dX12_keepAll_97 h (fun σ15 h => ?_)
    refine V_aloadn 98 0 O dX12_keepAll_98 rfl rfl ?_
    refine V_getR 99 O k71 fl_X12_71 rf71_23 dX12_keepAll_99 ?_
    refine V_iloadn 102 2 O dX12_keepAll_102 rfl rfl ?_
    refine V_aloadn 103 0 O dX12_keepAll_103 rfl rfl ?_
    refine V_bipush 104 O dX12_keepAll_104 cb_6 ?_
    refine V_iloadn 106 2 O dX12_keepAll_106 rfl rfl ?_
    refine V_imul 107 O dX12_keepAll_107 ?_
    refine V_iconst 108 O dX12_keepAll_108 ci_4 ?_
    refine V_iadd 109 O dX12_keepAll_109 ?_
    refine V_aloadn 110 0 O dX12_keepAll_110 rfl rfl ?_
    refine V_getR 111 O k71 fl_X12_71 rf71_23 dX12_keepAll_111 ?_
    refine V_iloadn 114 2 O dX12_keepAll_114 rfl rfl ?_
    refine V_iald 115 O k92 dX12_keepAll_115 h (fun h => ?_)
    refine V_iloadn 116 1 O dX12_keepAll_116 rfl rfl ?_
    obtain ⟨r17, σ16, g, h⟩ := bd_of h
    refine V_callVi 117 [.int (((6 : Int32) * x2) + (4 : Int32)), .int (σ15 92 (ix x2)), .int x1] [.int x2, .ref (zad G 92)] O mf_X12_keep lk_X12_379 k71 dX12_keepAll_117 rfl rfl (Nat.le_of_ble_eq_true rfl) ⟨(Nat.le_of_ble_eq_true rfl), (Nat.le_of_ble_eq_true rfl)⟩ (fun l => C_X12_keep  g) ?_
    refine V_iast 120 O k92 dX12_keepAll_120 h (fun σ18 h => ?_)
    refine V_iloadn 121 1 O dX12_keepAll_121 rfl rfl ?_
    refine V_if_eq 122 140 O dX12_keepAll_122 rfl h (fun h => ?_) (fun h => ?_)
    · refine V_aloadn 140 0 O dX12_keepAll_140 rfl rfl ?_
      refine V_getR 141 O k71 fl_X12_132 rf71_60 dX12_keepAll_141 ?_
      refine V_iloadn 144 2 O dX12_keepAll_144 rfl rfl ?_
      refine V_aloadn 145 0 O dX12_keepAll_145 rfl rfl ?_
      refine V_getR 146 O k71 fl_X12_53 rf71_17 dX12_keepAll_146 ?_
      refine V_iloadn 149 2 O dX12_keepAll_149 rfl rfl ?_
      refine V_zald 150 O k86 dX12_keepAll_150 h (fun h => ?_)
      refine V_zast 151 O k110 dX12_keepAll_151 h (fun σ19 h => ?_)
      refine V_iinc 152 2 [1, 2, 0] [(0, .ref (zad G 71)), (1, .int x1), (2, .int (x2 + (1 : Int32)))] O dX12_keepAll_152 rfl ci_1 (Nat.le_of_ble_eq_true rfl) rfl ?_
      refine V_goto 155 2 O dX12_keepAll_155 rfl ?_
      exact V_sub [0, 1, 2] rfl (H2 x1 (x2 + (1 : Int32)) σ19  h)
    · refine V_aloadn 125 0 O dX12_keepAll_125 rfl rfl ?_
      refine V_getR 126 O k71 fl_X12_53 rf71_17 dX12_keepAll_126 ?_
      refine V_iloadn 129 2 O dX12_keepAll_129 rfl rfl ?_
      refine V_aloadn 130 0 O dX12_keepAll_130 rfl rfl ?_
      refine V_getR 131 O k71 fl_X12_132 rf71_60 dX12_keepAll_131 ?_
      refine V_iloadn 134 2 O dX12_keepAll_134 rfl rfl ?_
      refine V_zald 135 O k110 dX12_keepAll_135 h (fun h => ?_)
      refine V_zast 136 O k86 dX12_keepAll_136 h (fun σ20 h => ?_)
      refine V_goto 137 152 O dX12_keepAll_137 rfl ?_
      refine V_iinc 152 2 [1, 2, 0] [(0, .ref (zad G 71)), (1, .int x1), (2, .int (x2 + (1 : Int32)))] O dX12_keepAll_152 rfl ci_1 (Nat.le_of_ble_eq_true rfl) rfl ?_
      refine V_goto 155 2 O dX12_keepAll_155 rfl ?_
      exact V_sub [0, 1, 2] rfl (H2 x1 (x2 + (1 : Int32)) σ20  h)
theorem bl_X12_keepAll_2 {G : zG} {x : zX} {τ : Sg} (O : zO G x cX12_keepAll RX12 1 40 3) (E : zE G x none none τ) (n : Nat) : ∀ (k : Nat) (x1 : Int32) (x2 : Int32) (σ : Sg), s_X12_keepAll_2 n k x1 x2 σ = some τ → V G x σ [(0, .ref (zad G 71)), (1, .int x1), (2, .int x2)] 2 [] := by
  intro k
  induction k with
  | zero => intro x1 x2 σ  h; cases h
  | succ k ih => intro x1 x2 σ  h; exact b_X12_keepAll_2 O E n  (s_X12_keepAll_2 n  k) ih x1 x2 σ  h
set_option maxRecDepth 20000 in
theorem C_X12_keepAll {l : Launch} {G : zG} {n : Nat} {x1 : Int32} {σ : Sg} {τ : Sg} (h : s_X12_keepAll n x1 σ = some τ) : zM l G 1 yX12_keepAll (.code yX12_keepAll cX12_keepAll 3 none) [.ref (zad G 71), .int x1] σ none τ := by
  refine zM_of (by decide) (Nat.le_of_ble_eq_true rfl) (fun x O E => ?_)
  have O : zO G x cX12_keepAll RX12 1 40 3 := O
  unfold s_X12_keepAll at h
  show V G x σ [(0, .ref (zad G 71)), (1, .int x1)] 0 []
  refine V_iconst 0 O dX12_keepAll_0 ci_0 ?_
  refine V_istoren 1 [1, 2, 0] [(0, .ref (zad G 71)), (1, .int x1), (2, .int (0 : Int32))] O dX12_keepAll_1 rfl (Nat.le_of_ble_eq_true rfl) rfl ?_
  exact V_sub [0, 1, 2] rfl (bl_X12_keepAll_2 O E n  n x1 (0 : Int32) σ  h)
-- ==== WaterTownModel.emptyAll()V
def s_X12_emptyAll_2b (n : Nat) (rc2 : Int32 → Sg → Option Sg) (x1 : Int32) (σ : Sg) : Option Sg := if (σ 71 11) ≤ x1 then (some σ) else (ck x1 10 (lt (up2 σ 88 (ix x1) (0 : Int32)) fun σ1 => rc2 (x1 + (1 : Int32)) σ1))
def s_X12_emptyAll_2 (n : Nat) : Nat → Int32 → Sg → Option Sg
  | 0 => fun _ _ => none
  | k + 1 => s_X12_emptyAll_2b n (s_X12_emptyAll_2 n k)
def s_X12_emptyAll (n : Nat) (σ : Sg) : Option Sg := s_X12_emptyAll_2 n n (0 : Int32) σ
set_option maxRecDepth 20000 in
theorem b_X12_emptyAll_2 {G : zG} {x : zX} {τ : Sg} (O : zO G x cX12_emptyAll RX12 0 0 2) (E : zE G x none none τ) (n : Nat) (rc2 : Int32 → Sg → Option Sg) (H2 : ∀ (x1 : Int32) (σ : Sg), rc2 x1 σ = some τ → V G x σ [(0, .ref (zad G 71)), (1, .int x1)] 2 []) (x1 : Int32) (σ : Sg) (h : s_X12_emptyAll_2b n rc2 x1 σ = some τ) : V G x σ [(0, .ref (zad G 71)), (1, .int x1)] 2 [] := by
  unfold s_X12_emptyAll_2b at h
  refine V_iloadn 2 1 O dX12_emptyAll_2 rfl rfl ?_
  refine V_aloadn 3 0 O dX12_emptyAll_3 rfl rfl ?_
  refine V_getI 4 O k71 fl_X12_171 dX12_emptyAll_4 ?_
  refine V_icmp_ge 7 23 O dX12_emptyAll_7 rfl h (fun h => ?_) (fun h => ?_)
  · exact V_vret 23 O E dX12_emptyAll_23 h
  · refine V_aloadn 10 0 O dX12_emptyAll_10 rfl rfl ?_
    refine V_getR 11 O k71 fl_X12_59 rf71_19 dX12_emptyAll_11 ?_
    refine V_iloadn 14 1 O dX12_emptyAll_14 rfl rfl ?_
    refine V_iconst 15 O dX12_emptyAll_15 ci_0 ?_
    refine V_iast 16 O k88 dX12_emptyAll_16 h (fun σ1 h => ?_)
    refine V_iinc 17 1 [1, 0] [(0, .ref (zad G 71)), (1, .int (x1 + (1 : Int32)))] O dX12_emptyAll_17 rfl ci_1 (Nat.le_of_ble_eq_true rfl) rfl ?_
    refine V_goto 20 2 O dX12_emptyAll_20 rfl ?_
    exact V_sub [0, 1] rfl (H2 (x1 + (1 : Int32)) σ1  h)
theorem bl_X12_emptyAll_2 {G : zG} {x : zX} {τ : Sg} (O : zO G x cX12_emptyAll RX12 0 0 2) (E : zE G x none none τ) (n : Nat) : ∀ (k : Nat) (x1 : Int32) (σ : Sg), s_X12_emptyAll_2 n k x1 σ = some τ → V G x σ [(0, .ref (zad G 71)), (1, .int x1)] 2 [] := by
  intro k
  induction k with
  | zero => intro x1 σ  h; cases h
  | succ k ih => intro x1 σ  h; exact b_X12_emptyAll_2 O E n  (s_X12_emptyAll_2 n  k) ih x1 σ  h
set_option maxRecDepth 20000 in
theorem C_X12_emptyAll {l : Launch} {G : zG} {n : Nat} {σ : Sg} {τ : Sg} (h : s_X12_emptyAll n σ = some τ) : zM l G 0 yX12_emptyAll (.code yX12_emptyAll cX12_emptyAll 2 none) [.ref (zad G 71)] σ none τ := by
  refine zM_of (by decide) (Nat.le_of_ble_eq_true rfl) (fun x O E => ?_)
  have O : zO G x cX12_emptyAll RX12 0 0 2 := O
  unfold s_X12_emptyAll at h
  show V G x σ [(0, .ref (zad G 71))] 0 []
  refine V_iconst 0 O dX12_emptyAll_0 ci_0 ?_
  refine V_istoren 1 [1, 0] [(0, .ref (zad G 71)), (1, .int (0 : Int32))] O dX12_emptyAll_1 rfl (Nat.le_of_ble_eq_true rfl) rfl ?_
  exact V_sub [0, 1] rfl (bl_X12_emptyAll_2 O E n  n (0 : Int32) σ  h)
-- ==== WaterTownModel.tryDay(I)I
def s_X12_tryDay_62b (n : Nat) (rc62 : Int32 → Int32 → Int32 → Sg → Option (Int32 × Sg)) (x1 : Int32) (x2 : Int32) (x3 : Int32) (σ : Sg) : Option (Int32 × Sg) := if (24 : Int32) ≤ x3 then (ck x1 1024 (lt (up2 σ 113 (ix x1) x2) fun σ7 => ck x1 1024 (some (σ7 113 (ix x1), σ7)))) else (bd (s_X12_doHour n x3 (1 : Int32) σ) fun r9 σ8 => bd (s_X12_one n r9 σ8) fun r11 σ10 => lt (x2 + r11) fun v12 => rc62 x1 v12 (x3 + (1 : Int32)) σ10)
def s_X12_tryDay_62 (n : Nat) : Nat → Int32 → Int32 → Int32 → Sg → Option (Int32 × Sg)
  | 0 => fun _ _ _ _ => none
  | k + 1 => s_X12_tryDay_62b n (s_X12_tryDay_62 n k)
def s_X12_tryDay_17b (n : Nat) (rc17 : Int32 → Int32 → Int32 → Sg → Option (Int32 × Sg)) (x1 : Int32) (x2 : Int32) (x3 : Int32) (σ : Sg) : Option (Int32 × Sg) := if (σ 71 11) ≤ x3 then (s_X12_tryDay_62 n n x1 x2 (0 : Int32) σ) else (ck x3 10 (lt (if (σ 110 (ix x3)) = 0 then if ((sr x1 x3) &&& (1 : Int32)) = (1 : Int32) then (1 : Int32) else (0 : Int32) else (1 : Int32)) fun v5 => ck x3 10 (lt (up2 σ 86 (ix x3) (vp_nar .boolean v5)) fun σ6 => rc17 x1 x2 (x3 + (1 : Int32)) σ6)))
def s_X12_tryDay_17 (n : Nat) : Nat → Int32 → Int32 → Int32 → Sg → Option (Int32 × Sg)
  | 0 => fun _ _ _ _ => none
  | k + 1 => s_X12_tryDay_17b n (s_X12_tryDay_17 n k)
def s_X12_tryDay (n : Nat) (x1 : Int32) (σ : Sg) : Option (Int32 × Sg) := ck x1 1024 (if 0 ≤ (σ 113 (ix x1)) then (ck x1 1024 (some (σ 113 (ix x1), σ))) else (bdv (s_X12_emptyAll n σ) fun σ1 => s_X12_tryDay_17 n n x1 (0 : Int32) (0 : Int32) σ1))
set_option maxRecDepth 20000 in
theorem b_X12_tryDay_62 {G : zG} {x : zX} {r : Int32} {τ : Sg} (O : zO G x cX12_tryDay RX12 6 240 4) (E : zE G x (some (.int)) (some (.int r)) τ) (n : Nat) (rc62 : Int32 → Int32 → Int32 → Sg → Option (Int32 × Sg)) (H62 : ∀ (x1 : Int32) (x2 : Int32) (x3 : Int32) (σ : Sg), rc62 x1 x2 x3 σ = some (r, τ) → V G x σ [(0, .ref (zad G 71)), (1, .int x1), (2, .int x2), (3, .int x3)] 62 []) (x1 : Int32) (x2 : Int32) (x3 : Int32) (σ : Sg) (h : s_X12_tryDay_62b n rc62 x1 x2 x3 σ = some (r, τ)) : V G x σ [(0, .ref (zad G 71)), (1, .int x1), (2, .int x2), (3, .int x3)] 62 [] := by
  unfold s_X12_tryDay_62b at h
  refine V_iloadn 62 3 O dX12_tryDay_62 rfl rfl ?_
  refine V_bipush 63 O dX12_tryDay_63 cb_24 ?_
  refine V_icmp_ge 65 86 O dX12_tryDay_65 rfl h (fun h => ?_) (fun h => ?_)
  · refine V_aloadn 86 0 O dX12_tryDay_86 rfl rfl ?_
    refine V_getR 87 O k71 fl_X12_141 rf71_64 dX12_tryDay_87 ?_
    refine V_iloadn 90 1 O dX12_tryDay_90 rfl rfl ?_
    refine V_iloadn 91 2 O dX12_tryDay_91 rfl rfl ?_
    refine V_iast 92 O k113 dX12_tryDay_92 h (fun σ7 h => ?_)
    refine V_aloadn 93 0 O dX12_tryDay_93 rfl rfl ?_
    refine V_getR 94 O k71 fl_X12_141 rf71_64 dX12_tryDay_94 ?_
    refine V_iloadn 97 1 O dX12_tryDay_97 rfl rfl ?_
    refine V_iald 98 O k113 dX12_tryDay_98 h (fun h => ?_)
    exact V_iret 99 O E dX12_tryDay_99 h
  · refine V_iloadn 68 2 O dX12_tryDay_68 rfl rfl ?_
    refine V_aloadn 69 0 O dX12_tryDay_69 rfl rfl ?_
    refine V_iloadn 70 3 O dX12_tryDay_70 rfl rfl ?_
    refine V_iconst 71 O dX12_tryDay_71 ci_1 ?_
    obtain ⟨r9, σ8, g, h⟩ := bd_of h
    refine V_callVi 72 [.int x3, .int (1 : Int32)] [.int x2] O mf_X12_doHour lk_X12_345 k71 dX12_tryDay_72 rfl rfl (Nat.le_of_ble_eq_true rfl) ⟨(Nat.le_of_ble_eq_true rfl), (Nat.le_of_ble_eq_true rfl)⟩ (fun l => C_X12_doHour  g) ?_
    obtain ⟨r11, σ10, g, h⟩ := bd_of h
    refine V_callSi 75 [.int r9] [.int x2] O mf_X12_one lk_X12_185 dX12_tryDay_75 rfl rfl (Nat.le_of_ble_eq_true rfl) ⟨(Nat.le_of_ble_eq_true rfl), (Nat.le_of_ble_eq_true rfl)⟩ (fun l => C_X12_one  g) ?_
    refine V_iadd 78 O dX12_tryDay_78 ?_
    refine V_topi h (fun v12 h => ?_)
    refine V_istoren 79 [1, 2, 0, 3] [(0, .ref (zad G 71)), (1, .int x1), (2, .int v12), (3, .int x3)] O dX12_tryDay_79 rfl (Nat.le_of_ble_eq_true rfl) rfl ?_
    refine V_iinc 80 3 [1, 2, 3, 0] [(0, .ref (zad G 71)), (1, .int x1), (2, .int v12), (3, .int (x3 + (1 : Int32)))] O dX12_tryDay_80 rfl ci_1 (Nat.le_of_ble_eq_true rfl) rfl ?_
    refine V_goto 83 62 O dX12_tryDay_83 rfl ?_
    exact V_sub [0, 1, 2, 3] rfl (H62 x1 v12 (x3 + (1 : Int32)) σ10  h)
theorem bl_X12_tryDay_62 {G : zG} {x : zX} {r : Int32} {τ : Sg} (O : zO G x cX12_tryDay RX12 6 240 4) (E : zE G x (some (.int)) (some (.int r)) τ) (n : Nat) : ∀ (k : Nat) (x1 : Int32) (x2 : Int32) (x3 : Int32) (σ : Sg), s_X12_tryDay_62 n k x1 x2 x3 σ = some (r, τ) → V G x σ [(0, .ref (zad G 71)), (1, .int x1), (2, .int x2), (3, .int x3)] 62 [] := by
  intro k
  induction k with
  | zero => intro x1 x2 x3 σ  h; cases h
  | succ k ih => intro x1 x2 x3 σ  h; exact b_X12_tryDay_62 O E n  (s_X12_tryDay_62 n  k) ih x1 x2 x3 σ  h
set_option maxRecDepth 20000 in
theorem b_X12_tryDay_17 {G : zG} {x : zX} {r : Int32} {τ : Sg} (O : zO G x cX12_tryDay RX12 6 240 4) (E : zE G x (some (.int)) (some (.int r)) τ) (n : Nat) (rc17 : Int32 → Int32 → Int32 → Sg → Option (Int32 × Sg)) (H17 : ∀ (x1 : Int32) (x2 : Int32) (x3 : Int32) (σ : Sg), rc17 x1 x2 x3 σ = some (r, τ) → V G x σ [(0, .ref (zad G 71)), (1, .int x1), (2, .int x2), (3, .int x3)] 17 []) (x1 : Int32) (x2 : Int32) (x3 : Int32) (σ : Sg) (h : s_X12_tryDay_17b n rc17 x1 x2 x3 σ = some (r, τ)) : V G x σ [(0, .ref (zad G 71)), (1, .int x1), (2, .int x2), (3, .int x3)] 17 [] := by
  unfold s_X12_tryDay_17b at h
  refine V_iloadn 17 3 O dX12_tryDay_17 rfl rfl ?_
  refine V_aloadn 18 0 O dX12_tryDay_18 rfl rfl ?_
  refine V_getI 19 O k71 fl_X12_171 dX12_tryDay_19 ?_
  refine V_icmp_ge 22 60 O dX12_tryDay_22 rfl h (fun h => ?_) (fun h => ?_)
  · refine V_iconst 60 O dX12_tryDay_60 ci_0 ?_
    refine V_istoren 61 [1, 2, 3, 0] [(0, .ref (zad G 71)), (1, .int x1), (2, .int x2), (3, .int (0 : Int32))] O dX12_tryDay_61 rfl (Nat.le_of_ble_eq_true rfl) rfl ?_
    exact V_sub [0, 1, 2, 3] rfl (bl_X12_tryDay_62 O E n  n x1 x2 (0 : Int32) σ  h)
  · refine V_aloadn 25 0 O dX12_tryDay_25 rfl rfl ?_
    refine V_getR 26 O k71 fl_X12_53 rf71_17 dX12_tryDay_26 ?_
    refine V_iloadn 29 3 O dX12_tryDay_29 rfl rfl ?_
    refine V_aloadn 30 0 O dX12_tryDay_30 rfl rfl ?_
    refine V_getR 31 O k71 fl_X12_132 rf71_60 dX12_tryDay_31 ?_
    refine V_iloadn 34 3 O dX12_tryDay_34 rfl rfl ?_
    refine V_zald 35 O k110 dX12_tryDay_35 h (fun h => ?_)
    have J2 : V G x σ [(0, .ref (zad G 71)), (1, .int x1), (2, .int x2), (3, .int x3)] 53 [.int (if (σ 110 (ix x3)) = 0 then if ((sr x1 x3) &&& (1 : Int32)) = (1 : Int32) then (1 : Int32) else (0 : Int32) else (1 : Int32)), .int x3, .ref (zad G 86)] := by
      refine V_topi h (fun v5 h => ?_)
      refine V_zast 53 O k86 dX12_tryDay_53 h (fun σ6 h => ?_)
      refine V_iinc 54 3 [1, 2, 3, 0] [(0, .ref (zad G 71)), (1, .int x1), (2, .int x2), (3, .int (x3 + (1 : Int32)))] O dX12_tryDay_54 rfl ci_1 (Nat.le_of_ble_eq_true rfl) rfl ?_
      refine V_goto 57 17 O dX12_tryDay_57 rfl ?_
      exact V_sub [0, 1, 2, 3] rfl (H17 x1 x2 (x3 + (1 : Int32)) σ6  h)
    refine V_if_nec 36 48 O dX12_tryDay_36 rfl (fun c3 => ?_) (fun c3 => ?_)
    · refine V_iconst 48 O dX12_tryDay_48 ci_1 ?_
      refine V_goto 49 53 O dX12_tryDay_49 rfl ?_
      exact V_top (by rw [if_neg c3]) J2
    · refine V_iloadn 39 1 O dX12_tryDay_39 rfl rfl ?_
      refine V_iloadn 40 3 O dX12_tryDay_40 rfl rfl ?_
      refine V_ishr 41 O dX12_tryDay_41 ?_
      refine V_iconst 42 O dX12_tryDay_42 ci_1 ?_
      refine V_iand 43 O dX12_tryDay_43 ?_
      refine V_iconst 44 O dX12_tryDay_44 ci_1 ?_
      refine V_icmp_nec 45 52 O dX12_tryDay_45 rfl (fun c4 => ?_) (fun c4 => ?_)
      · refine V_iconst 52 O dX12_tryDay_52 ci_0 ?_
        exact V_top (by rw [if_pos c3, if_neg c4]) J2
      · refine V_iconst 48 O dX12_tryDay_48 ci_1 ?_
        refine V_goto 49 53 O dX12_tryDay_49 rfl ?_
        exact V_top (by rw [if_pos c3, if_pos c4]) J2
theorem bl_X12_tryDay_17 {G : zG} {x : zX} {r : Int32} {τ : Sg} (O : zO G x cX12_tryDay RX12 6 240 4) (E : zE G x (some (.int)) (some (.int r)) τ) (n : Nat) : ∀ (k : Nat) (x1 : Int32) (x2 : Int32) (x3 : Int32) (σ : Sg), s_X12_tryDay_17 n k x1 x2 x3 σ = some (r, τ) → V G x σ [(0, .ref (zad G 71)), (1, .int x1), (2, .int x2), (3, .int x3)] 17 [] := by
  intro k
  induction k with
  | zero => intro x1 x2 x3 σ  h; cases h
  | succ k ih => intro x1 x2 x3 σ  h; exact b_X12_tryDay_17 O E n  (s_X12_tryDay_17 n  k) ih x1 x2 x3 σ  h
set_option maxRecDepth 20000 in
theorem C_X12_tryDay {l : Launch} {G : zG} {n : Nat} {x1 : Int32} {σ : Sg} {r : Int32} {τ : Sg} (h : s_X12_tryDay n x1 σ = some (r, τ)) : zM l G 6 yX12_tryDay (.code yX12_tryDay cX12_tryDay 4 (some (.int))) [.ref (zad G 71), .int x1] σ (some (.int r)) τ := by
  refine zM_of (by decide) (Nat.le_of_ble_eq_true rfl) (fun x O E => ?_)
  have O : zO G x cX12_tryDay RX12 6 240 4 := O
  unfold s_X12_tryDay at h
  show V G x σ [(0, .ref (zad G 71)), (1, .int x1)] 0 []
  refine V_aloadn 0 0 O dX12_tryDay_0 rfl rfl ?_
  refine V_getR 1 O k71 fl_X12_141 rf71_64 dX12_tryDay_1 ?_
  refine V_iloadn 4 1 O dX12_tryDay_4 rfl rfl ?_
  refine V_iald 5 O k113 dX12_tryDay_5 h (fun h => ?_)
  refine V_if_ge 6 93 O dX12_tryDay_6 rfl h (fun h => ?_) (fun h => ?_)
  · refine V_aloadn 93 0 O dX12_tryDay_93 rfl rfl ?_
    refine V_getR 94 O k71 fl_X12_141 rf71_64 dX12_tryDay_94 ?_
    refine V_iloadn 97 1 O dX12_tryDay_97 rfl rfl ?_
    refine V_iald 98 O k113 dX12_tryDay_98 h (fun h => ?_)
    exact V_iret 99 O E dX12_tryDay_99 h
  · refine V_iconst 9 O dX12_tryDay_9 ci_0 ?_
    refine V_istoren 10 [1, 2, 0] [(0, .ref (zad G 71)), (1, .int x1), (2, .int (0 : Int32))] O dX12_tryDay_10 rfl (Nat.le_of_ble_eq_true rfl) rfl ?_
    refine V_aloadn 11 0 O dX12_tryDay_11 rfl rfl ?_
    obtain ⟨σ1, g, h⟩ := bdv_of h
    refine V_callVv 12 [] [] O mf_X12_emptyAll lk_X12_383 k71 dX12_tryDay_12 rfl rfl (Nat.le_of_ble_eq_true rfl) ⟨(Nat.le_of_ble_eq_true rfl), (Nat.le_of_ble_eq_true rfl)⟩ (fun l => C_X12_emptyAll  g) ?_
    refine V_iconst 15 O dX12_tryDay_15 ci_0 ?_
    refine V_istoren 16 [1, 2, 3, 0] [(0, .ref (zad G 71)), (1, .int x1), (2, .int (0 : Int32)), (3, .int (0 : Int32))] O dX12_tryDay_16 rfl (Nat.le_of_ble_eq_true rfl) rfl ?_
    exact V_sub [0, 1, 2, 3] rfl (bl_X12_tryDay_17 O E n  n x1 (0 : Int32) (0 : Int32) σ1  h)
-- ==== WaterTownModel.sumOfOrder()I
def s_X12_sumOfOrder_6b (n : Nat) (rc6 : Int32 → Int32 → Int32 → Sg → Option (Int32 × Sg)) (x1 : Int32) (x2 : Int32) (x3 : Int32) (σ : Sg) : Option (Int32 × Sg) := if (σ 71 63) ≤ x3 then (some (x1, σ)) else (ck x3 6 (lt (x2 ||| (sl (1 : Int32) (σ 111 (ix x3)))) fun v1 => bd (s_X12_tryDay n v1 σ) fun r3 σ2 => lt (x1 + r3) fun v4 => rc6 v4 v1 (x3 + (1 : Int32)) σ2))
def s_X12_sumOfOrder_6 (n : Nat) : Nat → Int32 → Int32 → Int32 → Sg → Option (Int32 × Sg)
  | 0 => fun _ _ _ _ => none
  | k + 1 => s_X12_sumOfOrder_6b n (s_X12_sumOfOrder_6 n k)
def s_X12_sumOfOrder (n : Nat) (σ : Sg) : Option (Int32 × Sg) := s_X12_sumOfOrder_6 n n (0 : Int32) (0 : Int32) (0 : Int32) σ
set_option maxRecDepth 20000 in
theorem b_X12_sumOfOrder_6 {G : zG} {x : zX} {r : Int32} {τ : Sg} (O : zO G x cX12_sumOfOrder RX12 7 280 4) (E : zE G x (some (.int)) (some (.int r)) τ) (n : Nat) (rc6 : Int32 → Int32 → Int32 → Sg → Option (Int32 × Sg)) (H6 : ∀ (x1 : Int32) (x2 : Int32) (x3 : Int32) (σ : Sg), rc6 x1 x2 x3 σ = some (r, τ) → V G x σ [(0, .ref (zad G 71)), (1, .int x1), (2, .int x2), (3, .int x3)] 6 []) (x1 : Int32) (x2 : Int32) (x3 : Int32) (σ : Sg) (h : s_X12_sumOfOrder_6b n rc6 x1 x2 x3 σ = some (r, τ)) : V G x σ [(0, .ref (zad G 71)), (1, .int x1), (2, .int x2), (3, .int x3)] 6 [] := by
  unfold s_X12_sumOfOrder_6b at h
  refine V_iloadn 6 3 O dX12_sumOfOrder_6 rfl rfl ?_
  refine V_aloadn 7 0 O dX12_sumOfOrder_7 rfl rfl ?_
  refine V_getI 8 O k71 fl_X12_386 dX12_sumOfOrder_8 ?_
  refine V_icmp_ge 11 39 O dX12_sumOfOrder_11 rfl h (fun h => ?_) (fun h => ?_)
  · refine V_iloadn 39 1 O dX12_sumOfOrder_39 rfl rfl ?_
    exact V_iret 40 O E dX12_sumOfOrder_40 h
  · refine V_iloadn 14 2 O dX12_sumOfOrder_14 rfl rfl ?_
    refine V_iconst 15 O dX12_sumOfOrder_15 ci_1 ?_
    refine V_aloadn 16 0 O dX12_sumOfOrder_16 rfl rfl ?_
    refine V_getR 17 O k71 fl_X12_135 rf71_61 dX12_sumOfOrder_17 ?_
    refine V_iloadn 20 3 O dX12_sumOfOrder_20 rfl rfl ?_
    refine V_iald 21 O k111 dX12_sumOfOrder_21 h (fun h => ?_)
    refine V_ishl 22 O dX12_sumOfOrder_22 ?_
    refine V_ior 23 O dX12_sumOfOrder_23 ?_
    refine V_topi h (fun v1 h => ?_)
    refine V_istoren 24 [1, 2, 0, 3] [(0, .ref (zad G 71)), (1, .int x1), (2, .int v1), (3, .int x3)] O dX12_sumOfOrder_24 rfl (Nat.le_of_ble_eq_true rfl) rfl ?_
    refine V_iloadn 25 1 O dX12_sumOfOrder_25 rfl rfl ?_
    refine V_aloadn 26 0 O dX12_sumOfOrder_26 rfl rfl ?_
    refine V_iloadn 27 2 O dX12_sumOfOrder_27 rfl rfl ?_
    obtain ⟨r3, σ2, g, h⟩ := bd_of h
    refine V_callVi 28 [.int v1] [.int x1] O mf_X12_tryDay lk_X12_389 k71 dX12_sumOfOrder_28 rfl rfl (Nat.le_of_ble_eq_true rfl) ⟨(Nat.le_of_ble_eq_true rfl), (Nat.le_of_ble_eq_true rfl)⟩ (fun l => C_X12_tryDay  g) ?_
    refine V_iadd 31 O dX12_sumOfOrder_31 ?_
    refine V_topi h (fun v4 h => ?_)
    refine V_istoren 32 [1, 0, 2, 3] [(0, .ref (zad G 71)), (1, .int v4), (2, .int v1), (3, .int x3)] O dX12_sumOfOrder_32 rfl (Nat.le_of_ble_eq_true rfl) rfl ?_
    refine V_iinc 33 3 [1, 2, 3, 0] [(0, .ref (zad G 71)), (1, .int v4), (2, .int v1), (3, .int (x3 + (1 : Int32)))] O dX12_sumOfOrder_33 rfl ci_1 (Nat.le_of_ble_eq_true rfl) rfl ?_
    refine V_goto 36 6 O dX12_sumOfOrder_36 rfl ?_
    exact V_sub [0, 1, 2, 3] rfl (H6 v4 v1 (x3 + (1 : Int32)) σ2  h)
theorem bl_X12_sumOfOrder_6 {G : zG} {x : zX} {r : Int32} {τ : Sg} (O : zO G x cX12_sumOfOrder RX12 7 280 4) (E : zE G x (some (.int)) (some (.int r)) τ) (n : Nat) : ∀ (k : Nat) (x1 : Int32) (x2 : Int32) (x3 : Int32) (σ : Sg), s_X12_sumOfOrder_6 n k x1 x2 x3 σ = some (r, τ) → V G x σ [(0, .ref (zad G 71)), (1, .int x1), (2, .int x2), (3, .int x3)] 6 [] := by
  intro k
  induction k with
  | zero => intro x1 x2 x3 σ  h; cases h
  | succ k ih => intro x1 x2 x3 σ  h; exact b_X12_sumOfOrder_6 O E n  (s_X12_sumOfOrder_6 n  k) ih x1 x2 x3 σ  h
set_option maxRecDepth 20000 in
theorem C_X12_sumOfOrder {l : Launch} {G : zG} {n : Nat} {σ : Sg} {r : Int32} {τ : Sg} (h : s_X12_sumOfOrder n σ = some (r, τ)) : zM l G 7 yX12_sumOfOrder (.code yX12_sumOfOrder cX12_sumOfOrder 4 (some (.int))) [.ref (zad G 71)] σ (some (.int r)) τ := by
  refine zM_of (by decide) (Nat.le_of_ble_eq_true rfl) (fun x O E => ?_)
  have O : zO G x cX12_sumOfOrder RX12 7 280 4 := O
  unfold s_X12_sumOfOrder at h
  show V G x σ [(0, .ref (zad G 71))] 0 []
  refine V_iconst 0 O dX12_sumOfOrder_0 ci_0 ?_
  refine V_istoren 1 [1, 0] [(0, .ref (zad G 71)), (1, .int (0 : Int32))] O dX12_sumOfOrder_1 rfl (Nat.le_of_ble_eq_true rfl) rfl ?_
  refine V_iconst 2 O dX12_sumOfOrder_2 ci_0 ?_
  refine V_istoren 3 [1, 2, 0] [(0, .ref (zad G 71)), (1, .int (0 : Int32)), (2, .int (0 : Int32))] O dX12_sumOfOrder_3 rfl (Nat.le_of_ble_eq_true rfl) rfl ?_
  refine V_iconst 4 O dX12_sumOfOrder_4 ci_0 ?_
  refine V_istoren 5 [1, 2, 3, 0] [(0, .ref (zad G 71)), (1, .int (0 : Int32)), (2, .int (0 : Int32)), (3, .int (0 : Int32))] O dX12_sumOfOrder_5 rfl (Nat.le_of_ble_eq_true rfl) rfl ?_
  exact V_sub [0, 1, 2, 3] rfl (bl_X12_sumOfOrder_6 O E n  n (0 : Int32) (0 : Int32) (0 : Int32) σ  h)
-- ==== WaterTownModel.nextOrder()Z
def s_X12_nextOrder_107b (n : Nat) (rc107 : Int32 → Int32 → Sg → Option (Int32 × Sg)) (x4 : Int32) (x5 : Int32) (σ : Sg) : Option (Int32 × Sg) := if x5 ≤ x4 then (some ((1 : Int32), σ)) else (ck x4 6 (lt (σ 111 (ix x4)) fun v8 => ck x5 6 (ck x4 6 (lt (up2 σ 111 (ix x4) (σ 111 (ix x5))) fun σ9 => ck x5 6 (lt (up2 σ9 111 (ix x5) v8) fun σ10 => rc107 (x4 + (1 : Int32)) (x5 + (-1 : Int32)) σ10)))))
def s_X12_nextOrder_107 (n : Nat) : Nat → Int32 → Int32 → Sg → Option (Int32 × Sg)
  | 0 => fun _ _ _ => none
  | k + 1 => s_X12_nextOrder_107b n (s_X12_nextOrder_107 n k)
def s_X12_nextOrder_47b (n : Nat) (rc47 : Int32 → Int32 → Sg → Option (Int32 × Sg)) (x1 : Int32) (x2 : Int32) (σ : Sg) : Option (Int32 × Sg) := ck x2 6 (ck x1 6 (if (σ 111 (ix x1)) ≤ (σ 111 (ix x2)) then (ck x1 6 (lt (σ 111 (ix x1)) fun v3 => ck x2 6 (ck x1 6 (lt (up2 σ 111 (ix x1) (σ 111 (ix x2))) fun σ4 => ck x2 6 (lt (up2 σ4 111 (ix x2) v3) fun σ5 => lt (x1 + (1 : Int32)) fun v6 => lt ((σ5 71 63) - (1 : Int32)) fun v7 => s_X12_nextOrder_107 n n v6 v7 σ5))))) else (rc47 x1 (x2 + (-1 : Int32)) σ)))
def s_X12_nextOrder_47 (n : Nat) : Nat → Int32 → Int32 → Sg → Option (Int32 × Sg)
  | 0 => fun _ _ _ => none
  | k + 1 => s_X12_nextOrder_47b n (s_X12_nextOrder_47 n k)
def s_X12_nextOrder_34 (n : Nat) (x1 : Int32) (σ : Sg) : Option (Int32 × Sg) := if 0 ≤ x1 then (lt ((σ 71 63) - (1 : Int32)) fun v2 => s_X12_nextOrder_47 n n x1 v2 σ) else (some ((0 : Int32), σ))
def s_X12_nextOrder_7b (n : Nat) (rc7 : Int32 → Sg → Option (Int32 × Sg)) (x1 : Int32) (σ : Sg) : Option (Int32 × Sg) := if x1 < 0 then (s_X12_nextOrder_34 n x1 σ) else (ck x1 6 (ck (x1 + (1 : Int32)) 6 (if (σ 111 (ix x1)) ≤ (σ 111 (ix (x1 + (1 : Int32)))) then (s_X12_nextOrder_34 n x1 σ) else (rc7 (x1 + (-1 : Int32)) σ))))
def s_X12_nextOrder_7 (n : Nat) : Nat → Int32 → Sg → Option (Int32 × Sg)
  | 0 => fun _ _ => none
  | k + 1 => s_X12_nextOrder_7b n (s_X12_nextOrder_7 n k)
def s_X12_nextOrder (n : Nat) (σ : Sg) : Option (Int32 × Sg) := lt ((σ 71 63) - (2 : Int32)) fun v1 => s_X12_nextOrder_7 n n v1 σ
set_option maxRecDepth 20000 in
theorem b_X12_nextOrder_107 {G : zG} {x : zX} {r : Int32} {τ : Sg} (O : zO G x cX12_nextOrder RX12 0 0 6) (E : zE G x (some (.boolean)) (some (.int r)) τ) (n : Nat) (rc107 : Int32 → Int32 → Sg → Option (Int32 × Sg)) (H107 : ∀ (x4 : Int32) (x5 : Int32) (σ : Sg), rc107 x4 x5 σ = some (r, τ) → V G x σ [(0, .ref (zad G 71)), (4, .int x4), (5, .int x5)] 107 []) (x4 : Int32) (x5 : Int32) (σ : Sg) (h : s_X12_nextOrder_107b n rc107 x4 x5 σ = some (r, τ)) : V G x σ [(0, .ref (zad G 71)), (4, .int x4), (5, .int x5)] 107 [] := by
  unfold s_X12_nextOrder_107b at h
  refine V_iload 107 1 O dX12_nextOrder_107 rfl ?_
  refine V_iload 109 2 O dX12_nextOrder_109 rfl ?_
  refine V_icmp_ge 111 153 O dX12_nextOrder_111 rfl h (fun h => ?_) (fun h => ?_)
  · refine V_iconst 153 O dX12_nextOrder_153 ci_1 ?_
    exact V_zret1 154 O E dX12_nextOrder_154 h
  · refine V_aloadn 114 0 O dX12_nextOrder_114 rfl rfl ?_
    refine V_getR 115 O k71 fl_X12_135 rf71_61 dX12_nextOrder_115 ?_
    refine V_iload 118 1 O dX12_nextOrder_118 rfl ?_
    refine V_iald 120 O k111 dX12_nextOrder_120 h (fun h => ?_)
    refine V_topi h (fun v8 h => ?_)
    refine V_istoren 121 [1, 0, 2, 3] [(0, .ref (zad G 71)), (3, .int v8), (4, .int x4), (5, .int x5)] O dX12_nextOrder_121 rfl (Nat.le_of_ble_eq_true rfl) rfl ?_
    refine V_aloadn 122 0 O dX12_nextOrder_122 rfl rfl ?_
    refine V_getR 123 O k71 fl_X12_135 rf71_61 dX12_nextOrder_123 ?_
    refine V_iload 126 2 O dX12_nextOrder_126 rfl ?_
    refine V_aloadn 128 0 O dX12_nextOrder_128 rfl rfl ?_
    refine V_getR 129 O k71 fl_X12_135 rf71_61 dX12_nextOrder_129 ?_
    refine V_iload 132 3 O dX12_nextOrder_132 rfl ?_
    refine V_iald 134 O k111 dX12_nextOrder_134 h (fun h => ?_)
    refine V_iast 135 O k111 dX12_nextOrder_135 h (fun σ9 h => ?_)
    refine V_aloadn 136 0 O dX12_nextOrder_136 rfl rfl ?_
    refine V_getR 137 O k71 fl_X12_135 rf71_61 dX12_nextOrder_137 ?_
    refine V_iload 140 3 O dX12_nextOrder_140 rfl ?_
    refine V_iloadn 142 1 O dX12_nextOrder_142 rfl rfl ?_
    refine V_iast 143 O k111 dX12_nextOrder_143 h (fun σ10 h => ?_)
    refine V_iinc 144 2 [1, 2, 0, 3] [(0, .ref (zad G 71)), (3, .int v8), (4, .int (x4 + (1 : Int32))), (5, .int x5)] O dX12_nextOrder_144 rfl ci_1 (Nat.le_of_ble_eq_true rfl) rfl ?_
    refine V_iinc 147 3 [1, 2, 3, 0] [(0, .ref (zad G 71)), (3, .int v8), (4, .int (x4 + (1 : Int32))), (5, .int (x5 + (-1 : Int32)))] O dX12_nextOrder_147 rfl ci_m1 (Nat.le_of_ble_eq_true rfl) rfl ?_
    refine V_goto 150 107 O dX12_nextOrder_150 rfl ?_
    exact V_sub [0, 2, 3] rfl (H107 (x4 + (1 : Int32)) (x5 + (-1 : Int32)) σ10  h)
theorem bl_X12_nextOrder_107 {G : zG} {x : zX} {r : Int32} {τ : Sg} (O : zO G x cX12_nextOrder RX12 0 0 6) (E : zE G x (some (.boolean)) (some (.int r)) τ) (n : Nat) : ∀ (k : Nat) (x4 : Int32) (x5 : Int32) (σ : Sg), s_X12_nextOrder_107 n k x4 x5 σ = some (r, τ) → V G x σ [(0, .ref (zad G 71)), (4, .int x4), (5, .int x5)] 107 [] := by
  intro k
  induction k with
  | zero => intro x4 x5 σ  h; cases h
  | succ k ih => intro x4 x5 σ  h; exact b_X12_nextOrder_107 O E n  (s_X12_nextOrder_107 n  k) ih x4 x5 σ  h
set_option maxRecDepth 20000 in
theorem b_X12_nextOrder_47 {G : zG} {x : zX} {r : Int32} {τ : Sg} (O : zO G x cX12_nextOrder RX12 0 0 6) (E : zE G x (some (.boolean)) (some (.int r)) τ) (n : Nat) (rc47 : Int32 → Int32 → Sg → Option (Int32 × Sg)) (H47 : ∀ (x1 : Int32) (x2 : Int32) (σ : Sg), rc47 x1 x2 σ = some (r, τ) → V G x σ [(0, .ref (zad G 71)), (1, .int x1), (2, .int x2)] 47 []) (x1 : Int32) (x2 : Int32) (σ : Sg) (h : s_X12_nextOrder_47b n rc47 x1 x2 σ = some (r, τ)) : V G x σ [(0, .ref (zad G 71)), (1, .int x1), (2, .int x2)] 47 [] := by
  unfold s_X12_nextOrder_47b at h
  refine V_aloadn 47 0 O dX12_nextOrder_47 rfl rfl ?_
  refine V_getR 48 O k71 fl_X12_135 rf71_61 dX12_nextOrder_48 ?_
  refine V_iloadn 51 2 O dX12_nextOrder_51 rfl rfl ?_
  refine V_iald 52 O k111 dX12_nextOrder_52 h (fun h => ?_)
  refine V_aloadn 53 0 O dX12_nextOrder_53 rfl rfl ?_
  refine V_getR 54 O k71 fl_X12_135 rf71_61 dX12_nextOrder_54 ?_
  refine V_iloadn 57 1 O dX12_nextOrder_57 rfl rfl ?_
  refine V_iald 58 O k111 dX12_nextOrder_58 h (fun h => ?_)
  refine V_icmp_ge 59 68 O dX12_nextOrder_59 rfl h (fun h => ?_) (fun h => ?_)
  · refine V_aloadn 68 0 O dX12_nextOrder_68 rfl rfl ?_
    refine V_getR 69 O k71 fl_X12_135 rf71_61 dX12_nextOrder_69 ?_
    refine V_iloadn 72 1 O dX12_nextOrder_72 rfl rfl ?_
    refine V_iald 73 O k111 dX12_nextOrder_73 h (fun h => ?_)
    refine V_topi h (fun v3 h => ?_)
    refine V_istoren 74 [1, 2, 3, 0] [(0, .ref (zad G 71)), (1, .int x1), (2, .int x2), (3, .int v3)] O dX12_nextOrder_74 rfl (Nat.le_of_ble_eq_true rfl) rfl ?_
    refine V_aloadn 75 0 O dX12_nextOrder_75 rfl rfl ?_
    refine V_getR 76 O k71 fl_X12_135 rf71_61 dX12_nextOrder_76 ?_
    refine V_iloadn 79 1 O dX12_nextOrder_79 rfl rfl ?_
    refine V_aloadn 80 0 O dX12_nextOrder_80 rfl rfl ?_
    refine V_getR 81 O k71 fl_X12_135 rf71_61 dX12_nextOrder_81 ?_
    refine V_iloadn 84 2 O dX12_nextOrder_84 rfl rfl ?_
    refine V_iald 85 O k111 dX12_nextOrder_85 h (fun h => ?_)
    refine V_iast 86 O k111 dX12_nextOrder_86 h (fun σ4 h => ?_)
    refine V_aloadn 87 0 O dX12_nextOrder_87 rfl rfl ?_
    refine V_getR 88 O k71 fl_X12_135 rf71_61 dX12_nextOrder_88 ?_
    refine V_iloadn 91 2 O dX12_nextOrder_91 rfl rfl ?_
    refine V_iloadn 92 3 O dX12_nextOrder_92 rfl rfl ?_
    refine V_iast 93 O k111 dX12_nextOrder_93 h (fun σ5 h => ?_)
    refine V_iloadn 94 1 O dX12_nextOrder_94 rfl rfl ?_
    refine V_iconst 95 O dX12_nextOrder_95 ci_1 ?_
    refine V_iadd 96 O dX12_nextOrder_96 ?_
    refine V_topi h (fun v6 h => ?_)
    refine V_istore 97 [1, 2, 3, 4, 0] [(0, .ref (zad G 71)), (1, .int x1), (2, .int x2), (3, .int v3), (4, .int v6)] O dX12_nextOrder_97 (Nat.le_of_ble_eq_true rfl) rfl ?_
    refine V_aloadn 99 0 O dX12_nextOrder_99 rfl rfl ?_
    refine V_getI 100 O k71 fl_X12_386 dX12_nextOrder_100 ?_
    refine V_iconst 103 O dX12_nextOrder_103 ci_1 ?_
    refine V_isub 104 O dX12_nextOrder_104 ?_
    refine V_topi h (fun v7 h => ?_)
    refine V_istore 105 [1, 2, 3, 4, 5, 0] [(0, .ref (zad G 71)), (1, .int x1), (2, .int x2), (3, .int v3), (4, .int v6), (5, .int v7)] O dX12_nextOrder_105 (Nat.le_of_ble_eq_true rfl) rfl ?_
    exact V_sub [0, 4, 5] rfl (bl_X12_nextOrder_107 O E n  n v6 v7 σ5  h)
  · refine V_iinc 62 2 [1, 2, 0] [(0, .ref (zad G 71)), (1, .int x1), (2, .int (x2 + (-1 : Int32)))] O dX12_nextOrder_62 rfl ci_m1 (Nat.le_of_ble_eq_true rfl) rfl ?_
    refine V_goto 65 47 O dX12_nextOrder_65 rfl ?_
    exact V_sub [0, 1, 2] rfl (H47 x1 (x2 + (-1 : Int32)) σ  h)
theorem bl_X12_nextOrder_47 {G : zG} {x : zX} {r : Int32} {τ : Sg} (O : zO G x cX12_nextOrder RX12 0 0 6) (E : zE G x (some (.boolean)) (some (.int r)) τ) (n : Nat) : ∀ (k : Nat) (x1 : Int32) (x2 : Int32) (σ : Sg), s_X12_nextOrder_47 n k x1 x2 σ = some (r, τ) → V G x σ [(0, .ref (zad G 71)), (1, .int x1), (2, .int x2)] 47 [] := by
  intro k
  induction k with
  | zero => intro x1 x2 σ  h; cases h
  | succ k ih => intro x1 x2 σ  h; exact b_X12_nextOrder_47 O E n  (s_X12_nextOrder_47 n  k) ih x1 x2 σ  h
set_option maxRecDepth 20000 in
theorem b_X12_nextOrder_34 {G : zG} {x : zX} {r : Int32} {τ : Sg} (O : zO G x cX12_nextOrder RX12 0 0 6) (E : zE G x (some (.boolean)) (some (.int r)) τ) (n : Nat) (x1 : Int32) (σ : Sg) (h : s_X12_nextOrder_34 n x1 σ = some (r, τ)) : V G x σ [(0, .ref (zad G 71)), (1, .int x1)] 34 [] := by
  unfold s_X12_nextOrder_34 at h
  refine V_iloadn 34 1 O dX12_nextOrder_34 rfl rfl ?_
  refine V_if_ge 35 40 O dX12_nextOrder_35 rfl h (fun h => ?_) (fun h => ?_)
  · refine V_aloadn 40 0 O dX12_nextOrder_40 rfl rfl ?_
    refine V_getI 41 O k71 fl_X12_386 dX12_nextOrder_41 ?_
    refine V_iconst 44 O dX12_nextOrder_44 ci_1 ?_
    refine V_isub 45 O dX12_nextOrder_45 ?_
    refine V_topi h (fun v2 h => ?_)
    refine V_istoren 46 [1, 2, 0] [(0, .ref (zad G 71)), (1, .int x1), (2, .int v2)] O dX12_nextOrder_46 rfl (Nat.le_of_ble_eq_true rfl) rfl ?_
    exact V_sub [0, 1, 2] rfl (bl_X12_nextOrder_47 O E n  n x1 v2 σ  h)
  · refine V_iconst 38 O dX12_nextOrder_38 ci_0 ?_
    exact V_zret0 39 O E dX12_nextOrder_39 h
set_option maxRecDepth 20000 in
theorem b_X12_nextOrder_7 {G : zG} {x : zX} {r : Int32} {τ : Sg} (O : zO G x cX12_nextOrder RX12 0 0 6) (E : zE G x (some (.boolean)) (some (.int r)) τ) (n : Nat) (rc7 : Int32 → Sg → Option (Int32 × Sg)) (H7 : ∀ (x1 : Int32) (σ : Sg), rc7 x1 σ = some (r, τ) → V G x σ [(0, .ref (zad G 71)), (1, .int x1)] 7 []) (x1 : Int32) (σ : Sg) (h : s_X12_nextOrder_7b n rc7 x1 σ = some (r, τ)) : V G x σ [(0, .ref (zad G 71)), (1, .int x1)] 7 [] := by
  unfold s_X12_nextOrder_7b at h
  refine V_iloadn 7 1 O dX12_nextOrder_7 rfl rfl ?_
  refine V_if_lt 8 34 O dX12_nextOrder_8 rfl h (fun h => ?_) (fun h => ?_)
  · exact V_sub [0, 1] rfl (b_X12_nextOrder_34 O E n  x1 σ  h)
  · refine V_aloadn 11 0 O dX12_nextOrder_11 rfl rfl ?_
    refine V_getR 12 O k71 fl_X12_135 rf71_61 dX12_nextOrder_12 ?_
    refine V_iloadn 15 1 O dX12_nextOrder_15 rfl rfl ?_
    refine V_iald 16 O k111 dX12_nextOrder_16 h (fun h => ?_)
    refine V_aloadn 17 0 O dX12_nextOrder_17 rfl rfl ?_
    refine V_getR 18 O k71 fl_X12_135 rf71_61 dX12_nextOrder_18 ?_
    refine V_iloadn 21 1 O dX12_nextOrder_21 rfl rfl ?_
    refine V_iconst 22 O dX12_nextOrder_22 ci_1 ?_
    refine V_iadd 23 O dX12_nextOrder_23 ?_
    refine V_iald 24 O k111 dX12_nextOrder_24 h (fun h => ?_)
    refine V_icmp_le 25 34 O dX12_nextOrder_25 rfl h (fun h => ?_) (fun h => ?_)
    · exact V_sub [0, 1] rfl (b_X12_nextOrder_34 O E n  x1 σ  h)
    · refine V_iinc 28 1 [1, 0] [(0, .ref (zad G 71)), (1, .int (x1 + (-1 : Int32)))] O dX12_nextOrder_28 rfl ci_m1 (Nat.le_of_ble_eq_true rfl) rfl ?_
      refine V_goto 31 7 O dX12_nextOrder_31 rfl ?_
      exact V_sub [0, 1] rfl (H7 (x1 + (-1 : Int32)) σ  h)
theorem bl_X12_nextOrder_7 {G : zG} {x : zX} {r : Int32} {τ : Sg} (O : zO G x cX12_nextOrder RX12 0 0 6) (E : zE G x (some (.boolean)) (some (.int r)) τ) (n : Nat) : ∀ (k : Nat) (x1 : Int32) (σ : Sg), s_X12_nextOrder_7 n k x1 σ = some (r, τ) → V G x σ [(0, .ref (zad G 71)), (1, .int x1)] 7 [] := by
  intro k
  induction k with
  | zero => intro x1 σ  h; cases h
  | succ k ih => intro x1 σ  h; exact b_X12_nextOrder_7 O E n  (s_X12_nextOrder_7 n  k) ih x1 σ  h
set_option maxRecDepth 20000 in
theorem C_X12_nextOrder {l : Launch} {G : zG} {n : Nat} {σ : Sg} {r : Int32} {τ : Sg} (h : s_X12_nextOrder n σ = some (r, τ)) : zM l G 0 yX12_nextOrder (.code yX12_nextOrder cX12_nextOrder 6 (some (.boolean))) [.ref (zad G 71)] σ (some (.int r)) τ := by
  refine zM_of (by decide) (Nat.le_of_ble_eq_true rfl) (fun x O E => ?_)
  have O : zO G x cX12_nextOrder RX12 0 0 6 := O
  unfold s_X12_nextOrder at h
  show V G x σ [(0, .ref (zad G 71))] 0 []
  refine V_aloadn 0 0 O dX12_nextOrder_0 rfl rfl ?_
  refine V_getI 1 O k71 fl_X12_386 dX12_nextOrder_1 ?_
  refine V_iconst 4 O dX12_nextOrder_4 ci_2 ?_
  refine V_isub 5 O dX12_nextOrder_5 ?_
  refine V_topi h (fun v1 h => ?_)
  refine V_istoren 6 [1, 0] [(0, .ref (zad G 71)), (1, .int v1)] O dX12_nextOrder_6 rfl (Nat.le_of_ble_eq_true rfl) rfl ?_
  exact V_sub [0, 1] rfl (bl_X12_nextOrder_7 O E n  n v1 σ  h)
-- ==== WaterTownModel.ones(I)I
def s_X12_ones_4b (n : Nat) (rc4 : Int32 → Int32 → Int32 → Sg → Option (Int32 × Sg)) (x0 : Int32) (x1 : Int32) (x2 : Int32) (σ : Sg) : Option (Int32 × Sg) := if (24 : Int32) ≤ x2 then (some (x1, σ)) else (lt (x1 + ((sr x0 x2) &&& (1 : Int32))) fun v1 => rc4 x0 v1 (x2 + (1 : Int32)) σ)
def s_X12_ones_4 (n : Nat) : Nat → Int32 → Int32 → Int32 → Sg → Option (Int32 × Sg)
  | 0 => fun _ _ _ _ => none
  | k + 1 => s_X12_ones_4b n (s_X12_ones_4 n k)
def s_X12_ones (n : Nat) (x0 : Int32) (σ : Sg) : Option (Int32 × Sg) := s_X12_ones_4 n n x0 (0 : Int32) (0 : Int32) σ
set_option maxRecDepth 20000 in
theorem b_X12_ones_4 {G : zG} {x : zX} {r : Int32} {τ : Sg} (O : zO G x cX12_ones RX12 0 0 3) (E : zE G x (some (.int)) (some (.int r)) τ) (n : Nat) (rc4 : Int32 → Int32 → Int32 → Sg → Option (Int32 × Sg)) (H4 : ∀ (x0 : Int32) (x1 : Int32) (x2 : Int32) (σ : Sg), rc4 x0 x1 x2 σ = some (r, τ) → V G x σ [(0, .int x0), (1, .int x1), (2, .int x2)] 4 []) (x0 : Int32) (x1 : Int32) (x2 : Int32) (σ : Sg) (h : s_X12_ones_4b n rc4 x0 x1 x2 σ = some (r, τ)) : V G x σ [(0, .int x0), (1, .int x1), (2, .int x2)] 4 [] := by
  unfold s_X12_ones_4b at h
  refine V_iloadn 4 2 O dX12_ones_4 rfl rfl ?_
  refine V_bipush 5 O dX12_ones_5 cb_24 ?_
  refine V_icmp_ge 7 24 O dX12_ones_7 rfl h (fun h => ?_) (fun h => ?_)
  · refine V_iloadn 24 1 O dX12_ones_24 rfl rfl ?_
    exact V_iret 25 O E dX12_ones_25 h
  · refine V_iloadn 10 1 O dX12_ones_10 rfl rfl ?_
    refine V_iloadn 11 0 O dX12_ones_11 rfl rfl ?_
    refine V_iloadn 12 2 O dX12_ones_12 rfl rfl ?_
    refine V_ishr 13 O dX12_ones_13 ?_
    refine V_iconst 14 O dX12_ones_14 ci_1 ?_
    refine V_iand 15 O dX12_ones_15 ?_
    refine V_iadd 16 O dX12_ones_16 ?_
    refine V_topi h (fun v1 h => ?_)
    refine V_istoren 17 [1, 0, 2] [(0, .int x0), (1, .int v1), (2, .int x2)] O dX12_ones_17 rfl (Nat.le_of_ble_eq_true rfl) rfl ?_
    refine V_iinc 18 2 [1, 2, 0] [(0, .int x0), (1, .int v1), (2, .int (x2 + (1 : Int32)))] O dX12_ones_18 rfl ci_1 (Nat.le_of_ble_eq_true rfl) rfl ?_
    refine V_goto 21 4 O dX12_ones_21 rfl ?_
    exact V_sub [0, 1, 2] rfl (H4 x0 v1 (x2 + (1 : Int32)) σ  h)
theorem bl_X12_ones_4 {G : zG} {x : zX} {r : Int32} {τ : Sg} (O : zO G x cX12_ones RX12 0 0 3) (E : zE G x (some (.int)) (some (.int r)) τ) (n : Nat) : ∀ (k : Nat) (x0 : Int32) (x1 : Int32) (x2 : Int32) (σ : Sg), s_X12_ones_4 n k x0 x1 x2 σ = some (r, τ) → V G x σ [(0, .int x0), (1, .int x1), (2, .int x2)] 4 [] := by
  intro k
  induction k with
  | zero => intro x0 x1 x2 σ  h; cases h
  | succ k ih => intro x0 x1 x2 σ  h; exact b_X12_ones_4 O E n  (s_X12_ones_4 n  k) ih x0 x1 x2 σ  h
set_option maxRecDepth 20000 in
theorem C_X12_ones {l : Launch} {G : zG} {n : Nat} {x0 : Int32} {σ : Sg} {r : Int32} {τ : Sg} (h : s_X12_ones n x0 σ = some (r, τ)) : zM l G 0 yX12_ones (.code yX12_ones cX12_ones 3 (some (.int))) [.int x0] σ (some (.int r)) τ := by
  refine zM_of (by decide) (Nat.le_of_ble_eq_true rfl) (fun x O E => ?_)
  have O : zO G x cX12_ones RX12 0 0 3 := O
  unfold s_X12_ones at h
  show V G x σ [(0, .int x0)] 0 []
  refine V_iconst 0 O dX12_ones_0 ci_0 ?_
  refine V_istoren 1 [1, 0] [(0, .int x0), (1, .int (0 : Int32))] O dX12_ones_1 rfl (Nat.le_of_ble_eq_true rfl) rfl ?_
  refine V_iconst 2 O dX12_ones_2 ci_0 ?_
  refine V_istoren 3 [1, 2, 0] [(0, .int x0), (1, .int (0 : Int32)), (2, .int (0 : Int32))] O dX12_ones_3 rfl (Nat.le_of_ble_eq_true rfl) rfl ?_
  exact V_sub [0, 1, 2] rfl (bl_X12_ones_4 O E n  n x0 (0 : Int32) (0 : Int32) σ  h)
-- ==== WaterTownModel.order(II)I
def s_X12_order_189 (n : Nat) (rc133 : Int32 → Int32 → Int32 → Sg → Option (Int32 × Sg)) (x2 : Int32) (x3 : Int32) (σ : Sg) : Option (Int32 × Sg) := bd (s_X12_nextOrder n σ) fun r18 σ17 => rc133 x2 x3 r18 σ17
def s_X12_order_160b (n : Nat) (rc133 : Int32 → Int32 → Int32 → Sg → Option (Int32 × Sg)) (rc160 : Int32 → Int32 → Int32 → Sg → Option (Int32 × Sg)) (x2 : Int32) (x3 : Int32) (x6 : Int32) (σ : Sg) : Option (Int32 × Sg) := if (σ 71 63) ≤ x6 then (s_X12_order_189 n rc133 x2 x3 σ) else (ck x6 6 (ck x6 6 (lt (up2 σ 112 (ix x6) (σ 111 (ix x6))) fun σ16 => rc160 x2 x3 (x6 + (1 : Int32)) σ16)))
def s_X12_order_160 (n : Nat) (rc133 : Int32 → Int32 → Int32 → Sg → Option (Int32 × Sg)) : Nat → Int32 → Int32 → Int32 → Sg → Option (Int32 × Sg)
  | 0 => fun _ _ _ _ => none
  | k + 1 => s_X12_order_160b n rc133 (s_X12_order_160 n rc133 k)
def s_X12_order_133b (n : Nat) (rc133 : Int32 → Int32 → Int32 → Sg → Option (Int32 × Sg)) (x2 : Int32) (x3 : Int32) (x4 : Int32) (σ : Sg) : Option (Int32 × Sg) := if x4 = 0 then (bdv (s_X12_keepAll n (1 : Int32) σ) fun σ11 => if x2 = (-1 : Int32) then (some (x3, σ11)) else (bd (s_X12_in n x2.toInt64 (0 : Int64) (((σ11 71 63) - (1 : Int32)).toInt64) σ11) fun r13 σ12 => if r13 = 0 then (some ((-1 : Int32), σ12)) else (ck x2 6 (some (σ12 112 (ix x2), σ12))))) else (bd (s_X12_sumOfOrder n σ) fun r15 σ14 => if x3 < 0 then (s_X12_order_160 n rc133 n x2 r15 (0 : Int32) σ14) else (if x3 ≤ r15 then (s_X12_order_189 n rc133 x2 x3 σ14) else (s_X12_order_160 n rc133 n x2 r15 (0 : Int32) σ14)))
def s_X12_order_133 (n : Nat) : Nat → Int32 → Int32 → Int32 → Sg → Option (Int32 × Sg)
  | 0 => fun _ _ _ _ => none
  | k + 1 => s_X12_order_133b n (s_X12_order_133 n k)
def s_X12_order_95b (n : Nat) (rc95 : Int32 → Int32 → Sg → Option (Int32 × Sg)) (x2 : Int32) (x3 : Int32) (σ : Sg) : Option (Int32 × Sg) := if (1024 : Int32) ≤ x3 then (bd (s_X12_dayNow n σ) fun r7 σ6 => bdv (s_X12_findRules n r7 σ6) fun σ8 => bdv (s_X12_keepAll n (0 : Int32) σ8) fun σ9 => s_X12_order_133 n n x2 (-1 : Int32) (1 : Int32) σ9) else (ck x3 1024 (lt (up2 σ 113 (ix x3) (-1 : Int32)) fun σ10 => rc95 x2 (x3 + (1 : Int32)) σ10))
def s_X12_order_95 (n : Nat) : Nat → Int32 → Int32 → Sg → Option (Int32 × Sg)
  | 0 => fun _ _ _ => none
  | k + 1 => s_X12_order_95b n (s_X12_order_95 n k)
def s_X12_order_37b (n : Nat) (rc37 : Int32 → Int32 → Int32 → Sg → Option (Int32 × Sg)) (x1 : Int32) (x2 : Int32) (x3 : Int32) (σ : Sg) : Option (Int32 × Sg) := if (σ 71 11) ≤ x3 then (s_X12_order_95 n n x2 (0 : Int32) σ) else (if ((sr x1 x3) &&& (1 : Int32)) = (1 : Int32) then (ck x3 10 (if (σ 86 (ix x3)) = 0 then (ck (σ 71 63) 6 (lt (up2 σ 111 (ix (σ 71 63)) x3) fun σ4 => lt (up2 σ4 71 63 ((σ4 71 63) + (1 : Int32))) fun σ5 => rc37 x1 x2 (x3 + (1 : Int32)) σ5)) else (some ((-1003 : Int32), σ)))) else (rc37 x1 x2 (x3 + (1 : Int32)) σ))
def s_X12_order_37 (n : Nat) : Nat → Int32 → Int32 → Int32 → Sg → Option (Int32 × Sg)
  | 0 => fun _ _ _ _ => none
  | k + 1 => s_X12_order_37b n (s_X12_order_37 n k)
def s_X12_order (n : Nat) (x1 : Int32) (x2 : Int32) (σ : Sg) : Option (Int32 × Sg) := if x1 < 0 then (some ((-1001 : Int32), σ)) else (if (sr x1 (σ 71 11)) = 0 then (bd (s_X12_ones n x1 σ) fun r2 σ1 => if r2 ≤ (6 : Int32) then (lt (up2 σ1 71 63 (0 : Int32)) fun σ3 => s_X12_order_37 n n x1 x2 (0 : Int32) σ3) else (some ((-1002 : Int32), σ1))) else (some ((-1001 : Int32), σ)))
set_option maxRecDepth 20000 in
theorem b_X12_order_189 {G : zG} {x : zX} {r : Int32} {τ : Sg} (O : zO G x cX12_order RX12 8 320 7) (E : zE G x (some (.int)) (some (.int r)) τ) (n : Nat) (rc133 : Int32 → Int32 → Int32 → Sg → Option (Int32 × Sg)) (H133 : ∀ (x2 : Int32) (x3 : Int32) (x4 : Int32) (σ : Sg), rc133 x2 x3 x4 σ = some (r, τ) → V G x σ [(0, .ref (zad G 71)), (2, .int x2), (3, .int x3), (4, .int x4)] 133 []) (x2 : Int32) (x3 : Int32) (σ : Sg) (h : s_X12_order_189 n rc133 x2 x3 σ = some (r, τ)) : V G x σ [(0, .ref (zad G 71)), (2, .int x2), (3, .int x3)] 189 [] := by
  unfold s_X12_order_189 at h
  refine V_aloadn 189 0 O dX12_order_189 rfl rfl ?_
  obtain ⟨r18, σ17, g, h⟩ := bd_of h
  refine V_callVi 190 [] [] O mf_X12_nextOrder lk_X12_402 k71 dX12_order_190 rfl rfl (Nat.le_of_ble_eq_true rfl) ⟨(Nat.le_of_ble_eq_true rfl), (Nat.le_of_ble_eq_true rfl)⟩ (fun l => C_X12_nextOrder  g) ?_
  refine V_istore 193 [1, 2, 3, 0] [(0, .ref (zad G 71)), (2, .int x2), (3, .int x3), (4, .int r18)] O dX12_order_193 (Nat.le_of_ble_eq_true rfl) rfl ?_
  refine V_goto 195 133 O dX12_order_195 rfl ?_
  exact V_sub [0, 1, 2, 3] rfl (H133 x2 x3 r18 σ17  h)
set_option maxRecDepth 20000 in
theorem b_X12_order_160 {G : zG} {x : zX} {r : Int32} {τ : Sg} (O : zO G x cX12_order RX12 8 320 7) (E : zE G x (some (.int)) (some (.int r)) τ) (n : Nat) (rc133 : Int32 → Int32 → Int32 → Sg → Option (Int32 × Sg)) (H133 : ∀ (x2 : Int32) (x3 : Int32) (x4 : Int32) (σ : Sg), rc133 x2 x3 x4 σ = some (r, τ) → V G x σ [(0, .ref (zad G 71)), (2, .int x2), (3, .int x3), (4, .int x4)] 133 []) (rc160 : Int32 → Int32 → Int32 → Sg → Option (Int32 × Sg)) (H160 : ∀ (x2 : Int32) (x3 : Int32) (x6 : Int32) (σ : Sg), rc160 x2 x3 x6 σ = some (r, τ) → V G x σ [(0, .ref (zad G 71)), (2, .int x2), (3, .int x3), (6, .int x6)] 160 []) (x2 : Int32) (x3 : Int32) (x6 : Int32) (σ : Sg) (h : s_X12_order_160b n rc133 rc160 x2 x3 x6 σ = some (r, τ)) : V G x σ [(0, .ref (zad G 71)), (2, .int x2), (3, .int x3), (6, .int x6)] 160 [] := by
  unfold s_X12_order_160b at h
  refine V_iload 160 3 O dX12_order_160 rfl ?_
  refine V_aloadn 162 0 O dX12_order_162 rfl rfl ?_
  refine V_getI 163 O k71 fl_X12_386 dX12_order_163 ?_
  refine V_icmp_ge 166 189 O dX12_order_166 rfl h (fun h => ?_) (fun h => ?_)
  · exact V_sub [0, 1, 2] rfl (b_X12_order_189 O E n rc133 H133 x2 x3 σ  h)
  · refine V_aloadn 169 0 O dX12_order_169 rfl rfl ?_
    refine V_getR 170 O k71 fl_X12_138 rf71_62 dX12_order_170 ?_
    refine V_iload 173 3 O dX12_order_173 rfl ?_
    refine V_aloadn 175 0 O dX12_order_175 rfl rfl ?_
    refine V_getR 176 O k71 fl_X12_135 rf71_61 dX12_order_176 ?_
    refine V_iload 179 3 O dX12_order_179 rfl ?_
    refine V_iald 181 O k111 dX12_order_181 h (fun h => ?_)
    refine V_iast 182 O k112 dX12_order_182 h (fun σ16 h => ?_)
    refine V_iinc 183 3 [1, 2, 3, 0] [(0, .ref (zad G 71)), (2, .int x2), (3, .int x3), (6, .int (x6 + (1 : Int32)))] O dX12_order_183 rfl ci_1 (Nat.le_of_ble_eq_true rfl) rfl ?_
    refine V_goto 186 160 O dX12_order_186 rfl ?_
    exact V_sub [0, 1, 2, 3] rfl (H160 x2 x3 (x6 + (1 : Int32)) σ16  h)
theorem bl_X12_order_160 {G : zG} {x : zX} {r : Int32} {τ : Sg} (O : zO G x cX12_order RX12 8 320 7) (E : zE G x (some (.int)) (some (.int r)) τ) (n : Nat) (rc133 : Int32 → Int32 → Int32 → Sg → Option (Int32 × Sg)) (H133 : ∀ (x2 : Int32) (x3 : Int32) (x4 : Int32) (σ : Sg), rc133 x2 x3 x4 σ = some (r, τ) → V G x σ [(0, .ref (zad G 71)), (2, .int x2), (3, .int x3), (4, .int x4)] 133 []) : ∀ (k : Nat) (x2 : Int32) (x3 : Int32) (x6 : Int32) (σ : Sg), s_X12_order_160 n rc133 k x2 x3 x6 σ = some (r, τ) → V G x σ [(0, .ref (zad G 71)), (2, .int x2), (3, .int x3), (6, .int x6)] 160 [] := by
  intro k
  induction k with
  | zero => intro x2 x3 x6 σ  h; cases h
  | succ k ih => intro x2 x3 x6 σ  h; exact b_X12_order_160 O E n rc133 H133 (s_X12_order_160 n rc133 k) ih x2 x3 x6 σ  h
set_option maxRecDepth 20000 in
theorem b_X12_order_133 {G : zG} {x : zX} {r : Int32} {τ : Sg} (O : zO G x cX12_order RX12 8 320 7) (E : zE G x (some (.int)) (some (.int r)) τ) (n : Nat) (rc133 : Int32 → Int32 → Int32 → Sg → Option (Int32 × Sg)) (H133 : ∀ (x2 : Int32) (x3 : Int32) (x4 : Int32) (σ : Sg), rc133 x2 x3 x4 σ = some (r, τ) → V G x σ [(0, .ref (zad G 71)), (2, .int x2), (3, .int x3), (4, .int x4)] 133 []) (x2 : Int32) (x3 : Int32) (x4 : Int32) (σ : Sg) (h : s_X12_order_133b n rc133 x2 x3 x4 σ = some (r, τ)) : V G x σ [(0, .ref (zad G 71)), (2, .int x2), (3, .int x3), (4, .int x4)] 133 [] := by
  unfold s_X12_order_133b at h
  refine V_iload 133 3 O dX12_order_133 rfl ?_
  refine V_if_eq 135 198 O dX12_order_135 rfl h (fun h => ?_) (fun h => ?_)
  · refine V_aloadn 198 0 O dX12_order_198 rfl rfl ?_
    refine V_iconst 199 O dX12_order_199 ci_1 ?_
    obtain ⟨σ11, g, h⟩ := bdv_of h
    refine V_callVv 200 [.int (1 : Int32)] [] O mf_X12_keepAll lk_X12_395 k71 dX12_order_200 rfl rfl (Nat.le_of_ble_eq_true rfl) ⟨(Nat.le_of_ble_eq_true rfl), (Nat.le_of_ble_eq_true rfl)⟩ (fun l => C_X12_keepAll  g) ?_
    refine V_iloadn 203 1 O dX12_order_203 rfl rfl ?_
    refine V_iconst 204 O dX12_order_204 ci_m1 ?_
    refine V_icmp_ne 205 212 O dX12_order_205 rfl h (fun h => ?_) (fun h => ?_)
    · refine V_iloadn 212 1 O dX12_order_212 rfl rfl ?_
      refine V_i2l 213 O dX12_order_213 ?_
      refine V_lconst 214 O dX12_order_214 cl_0 ?_
      refine V_aloadn 215 0 O dX12_order_215 rfl rfl ?_
      refine V_getI 216 O k71 fl_X12_386 dX12_order_216 ?_
      refine V_iconst 219 O dX12_order_219 ci_1 ?_
      refine V_isub 220 O dX12_order_220 ?_
      refine V_i2l 221 O dX12_order_221 ?_
      obtain ⟨r13, σ12, g, h⟩ := bd_of h
      refine V_callSi 222 [.long x2.toInt64, .long (0 : Int64), .long (((σ11 71 63) - (1 : Int32)).toInt64)] [] O mf_X12_in lk_X12_162 dX12_order_222 rfl rfl (Nat.le_of_ble_eq_true rfl) ⟨(Nat.le_of_ble_eq_true rfl), (Nat.le_of_ble_eq_true rfl)⟩ (fun l => C_X12_in  g) ?_
      refine V_if_eq 225 237 O dX12_order_225 rfl h (fun h => ?_) (fun h => ?_)
      · refine V_iconst 237 O dX12_order_237 ci_m1 ?_
        exact V_iret 238 O E dX12_order_238 h
      · refine V_aloadn 228 0 O dX12_order_228 rfl rfl ?_
        refine V_getR 229 O k71 fl_X12_138 rf71_62 dX12_order_229 ?_
        refine V_iloadn 232 1 O dX12_order_232 rfl rfl ?_
        refine V_iald 233 O k112 dX12_order_233 h (fun h => ?_)
        refine V_goto 234 238 O dX12_order_234 rfl ?_
        exact V_iret 238 O E dX12_order_238 h
    · refine V_iloadn 208 2 O dX12_order_208 rfl rfl ?_
      refine V_goto 209 238 O dX12_order_209 rfl ?_
      exact V_iret 238 O E dX12_order_238 h
  · refine V_aloadn 138 0 O dX12_order_138 rfl rfl ?_
    obtain ⟨r15, σ14, g, h⟩ := bd_of h
    refine V_callVi 139 [] [] O mf_X12_sumOfOrder lk_X12_399 k71 dX12_order_139 rfl rfl (Nat.le_of_ble_eq_true rfl) ⟨(Nat.le_of_ble_eq_true rfl), (Nat.le_of_ble_eq_true rfl)⟩ (fun l => C_X12_sumOfOrder  g) ?_
    refine V_istore 142 [1, 2, 3, 4, 0] [(0, .ref (zad G 71)), (2, .int x2), (3, .int x3), (4, .int x4), (5, .int r15)] O dX12_order_142 (Nat.le_of_ble_eq_true rfl) rfl ?_
    refine V_iloadn 144 2 O dX12_order_144 rfl rfl ?_
    refine V_if_lt 145 154 O dX12_order_145 rfl h (fun h => ?_) (fun h => ?_)
    · refine V_iload 154 4 O dX12_order_154 rfl ?_
      refine V_istoren 156 [1, 2, 0, 3, 4] [(0, .ref (zad G 71)), (2, .int x2), (3, .int r15), (4, .int x4), (5, .int r15)] O dX12_order_156 rfl (Nat.le_of_ble_eq_true rfl) rfl ?_
      refine V_iconst 157 O dX12_order_157 ci_0 ?_
      refine V_istore 158 [1, 2, 3, 4, 5, 0] [(0, .ref (zad G 71)), (2, .int x2), (3, .int r15), (4, .int x4), (5, .int r15), (6, .int (0 : Int32))] O dX12_order_158 (Nat.le_of_ble_eq_true rfl) rfl ?_
      exact V_sub [0, 1, 2, 5] rfl (bl_X12_order_160 O E n rc133 H133 n x2 r15 (0 : Int32) σ14  h)
    · refine V_iload 148 4 O dX12_order_148 rfl ?_
      refine V_iloadn 150 2 O dX12_order_150 rfl rfl ?_
      refine V_icmp_ge 151 189 O dX12_order_151 rfl h (fun h => ?_) (fun h => ?_)
      · exact V_sub [0, 1, 2] rfl (b_X12_order_189 O E n rc133 H133 x2 x3 σ14  h)
      · refine V_iload 154 4 O dX12_order_154 rfl ?_
        refine V_istoren 156 [1, 2, 0, 3, 4] [(0, .ref (zad G 71)), (2, .int x2), (3, .int r15), (4, .int x4), (5, .int r15)] O dX12_order_156 rfl (Nat.le_of_ble_eq_true rfl) rfl ?_
        refine V_iconst 157 O dX12_order_157 ci_0 ?_
        refine V_istore 158 [1, 2, 3, 4, 5, 0] [(0, .ref (zad G 71)), (2, .int x2), (3, .int r15), (4, .int x4), (5, .int r15), (6, .int (0 : Int32))] O dX12_order_158 (Nat.le_of_ble_eq_true rfl) rfl ?_
        exact V_sub [0, 1, 2, 5] rfl (bl_X12_order_160 O E n rc133 H133 n x2 r15 (0 : Int32) σ14  h)
theorem bl_X12_order_133 {G : zG} {x : zX} {r : Int32} {τ : Sg} (O : zO G x cX12_order RX12 8 320 7) (E : zE G x (some (.int)) (some (.int r)) τ) (n : Nat) : ∀ (k : Nat) (x2 : Int32) (x3 : Int32) (x4 : Int32) (σ : Sg), s_X12_order_133 n k x2 x3 x4 σ = some (r, τ) → V G x σ [(0, .ref (zad G 71)), (2, .int x2), (3, .int x3), (4, .int x4)] 133 [] := by
  intro k
  induction k with
  | zero => intro x2 x3 x4 σ  h; cases h
  | succ k ih => intro x2 x3 x4 σ  h; exact b_X12_order_133 O E n  (s_X12_order_133 n  k) ih x2 x3 x4 σ  h
set_option maxRecDepth 20000 in
theorem b_X12_order_95 {G : zG} {x : zX} {r : Int32} {τ : Sg} (O : zO G x cX12_order RX12 8 320 7) (E : zE G x (some (.int)) (some (.int r)) τ) (n : Nat) (rc95 : Int32 → Int32 → Sg → Option (Int32 × Sg)) (H95 : ∀ (x2 : Int32) (x3 : Int32) (σ : Sg), rc95 x2 x3 σ = some (r, τ) → V G x σ [(0, .ref (zad G 71)), (2, .int x2), (3, .int x3)] 95 []) (x2 : Int32) (x3 : Int32) (σ : Sg) (h : s_X12_order_95b n rc95 x2 x3 σ = some (r, τ)) : V G x σ [(0, .ref (zad G 71)), (2, .int x2), (3, .int x3)] 95 [] := by
  unfold s_X12_order_95b at h
  refine V_iloadn 95 2 O dX12_order_95 rfl rfl ?_
  refine V_sipush 96 O dX12_order_96 cs_1024 ?_
  refine V_icmp_ge 99 115 O dX12_order_99 rfl h (fun h => ?_) (fun h => ?_)
  · refine V_aloadn 115 0 O dX12_order_115 rfl rfl ?_
    refine V_aloadn 116 0 O dX12_order_116 rfl rfl ?_
    obtain ⟨r7, σ6, g, h⟩ := bd_of h
    refine V_callVi 117 [] [.ref (zad G 71)] O mf_X12_dayNow lk_X12_365 k71 dX12_order_117 rfl rfl (Nat.le_of_ble_eq_true rfl) ⟨(Nat.le_of_ble_eq_true rfl), (Nat.le_of_ble_eq_true rfl)⟩ (fun l => C_X12_dayNow  g) ?_
    obtain ⟨σ8, g, h⟩ := bdv_of h
    refine V_callVv 120 [.int r7] [] O mf_X12_findRules lk_X12_283 k71 dX12_order_120 rfl rfl (Nat.le_of_ble_eq_true rfl) ⟨(Nat.le_of_ble_eq_true rfl), (Nat.le_of_ble_eq_true rfl)⟩ (fun l => C_X12_findRules  g) ?_
    refine V_aloadn 123 0 O dX12_order_123 rfl rfl ?_
    refine V_iconst 124 O dX12_order_124 ci_0 ?_
    obtain ⟨σ9, g, h⟩ := bdv_of h
    refine V_callVv 125 [.int (0 : Int32)] [] O mf_X12_keepAll lk_X12_395 k71 dX12_order_125 rfl rfl (Nat.le_of_ble_eq_true rfl) ⟨(Nat.le_of_ble_eq_true rfl), (Nat.le_of_ble_eq_true rfl)⟩ (fun l => C_X12_keepAll  g) ?_
    refine V_iconst 128 O dX12_order_128 ci_m1 ?_
    refine V_istoren 129 [1, 2, 0] [(0, .ref (zad G 71)), (2, .int x2), (3, .int (-1 : Int32))] O dX12_order_129 rfl (Nat.le_of_ble_eq_true rfl) rfl ?_
    refine V_iconst 130 O dX12_order_130 ci_1 ?_
    refine V_istore 131 [1, 2, 3, 0] [(0, .ref (zad G 71)), (2, .int x2), (3, .int (-1 : Int32)), (4, .int (1 : Int32))] O dX12_order_131 (Nat.le_of_ble_eq_true rfl) rfl ?_
    exact V_sub [0, 1, 2, 3] rfl (bl_X12_order_133 O E n  n x2 (-1 : Int32) (1 : Int32) σ9  h)
  · refine V_aloadn 102 0 O dX12_order_102 rfl rfl ?_
    refine V_getR 103 O k71 fl_X12_141 rf71_64 dX12_order_103 ?_
    refine V_iloadn 106 2 O dX12_order_106 rfl rfl ?_
    refine V_iconst 107 O dX12_order_107 ci_m1 ?_
    refine V_iast 108 O k113 dX12_order_108 h (fun σ10 h => ?_)
    refine V_iinc 109 2 [1, 2, 0] [(0, .ref (zad G 71)), (2, .int x2), (3, .int (x3 + (1 : Int32)))] O dX12_order_109 rfl ci_1 (Nat.le_of_ble_eq_true rfl) rfl ?_
    refine V_goto 112 95 O dX12_order_112 rfl ?_
    exact V_sub [0, 1, 2] rfl (H95 x2 (x3 + (1 : Int32)) σ10  h)
theorem bl_X12_order_95 {G : zG} {x : zX} {r : Int32} {τ : Sg} (O : zO G x cX12_order RX12 8 320 7) (E : zE G x (some (.int)) (some (.int r)) τ) (n : Nat) : ∀ (k : Nat) (x2 : Int32) (x3 : Int32) (σ : Sg), s_X12_order_95 n k x2 x3 σ = some (r, τ) → V G x σ [(0, .ref (zad G 71)), (2, .int x2), (3, .int x3)] 95 [] := by
  intro k
  induction k with
  | zero => intro x2 x3 σ  h; cases h
  | succ k ih => intro x2 x3 σ  h; exact b_X12_order_95 O E n  (s_X12_order_95 n  k) ih x2 x3 σ  h
set_option maxRecDepth 20000 in
theorem b_X12_order_37 {G : zG} {x : zX} {r : Int32} {τ : Sg} (O : zO G x cX12_order RX12 8 320 7) (E : zE G x (some (.int)) (some (.int r)) τ) (n : Nat) (rc37 : Int32 → Int32 → Int32 → Sg → Option (Int32 × Sg)) (H37 : ∀ (x1 : Int32) (x2 : Int32) (x3 : Int32) (σ : Sg), rc37 x1 x2 x3 σ = some (r, τ) → V G x σ [(0, .ref (zad G 71)), (1, .int x1), (2, .int x2), (3, .int x3)] 37 []) (x1 : Int32) (x2 : Int32) (x3 : Int32) (σ : Sg) (h : s_X12_order_37b n rc37 x1 x2 x3 σ = some (r, τ)) : V G x σ [(0, .ref (zad G 71)), (1, .int x1), (2, .int x2), (3, .int x3)] 37 [] := by
  unfold s_X12_order_37b at h
  refine V_iloadn 37 3 O dX12_order_37 rfl rfl ?_
  refine V_aloadn 38 0 O dX12_order_38 rfl rfl ?_
  refine V_getI 39 O k71 fl_X12_171 dX12_order_39 ?_
  refine V_icmp_ge 42 93 O dX12_order_42 rfl h (fun h => ?_) (fun h => ?_)
  · refine V_iconst 93 O dX12_order_93 ci_0 ?_
    refine V_istoren 94 [1, 2, 3, 0] [(0, .ref (zad G 71)), (1, .int x1), (2, .int x2), (3, .int (0 : Int32))] O dX12_order_94 rfl (Nat.le_of_ble_eq_true rfl) rfl ?_
    exact V_sub [0, 2, 3] rfl (bl_X12_order_95 O E n  n x2 (0 : Int32) σ  h)
  · refine V_iloadn 45 1 O dX12_order_45 rfl rfl ?_
    refine V_iloadn 46 3 O dX12_order_46 rfl rfl ?_
    refine V_ishr 47 O dX12_order_47 ?_
    refine V_iconst 48 O dX12_order_48 ci_1 ?_
    refine V_iand 49 O dX12_order_49 ?_
    refine V_iconst 50 O dX12_order_50 ci_1 ?_
    refine V_icmp_ne 51 87 O dX12_order_51 rfl h (fun h => ?_) (fun h => ?_)
    · refine V_iinc 87 3 [1, 2, 3, 0] [(0, .ref (zad G 71)), (1, .int x1), (2, .int x2), (3, .int (x3 + (1 : Int32)))] O dX12_order_87 rfl ci_1 (Nat.le_of_ble_eq_true rfl) rfl ?_
      refine V_goto 90 37 O dX12_order_90 rfl ?_
      exact V_sub [0, 1, 2, 3] rfl (H37 x1 x2 (x3 + (1 : Int32)) σ  h)
    · refine V_aloadn 54 0 O dX12_order_54 rfl rfl ?_
      refine V_getR 55 O k71 fl_X12_53 rf71_17 dX12_order_55 ?_
      refine V_iloadn 58 3 O dX12_order_58 rfl rfl ?_
      refine V_zald 59 O k86 dX12_order_59 h (fun h => ?_)
      refine V_if_eq 60 67 O dX12_order_60 rfl h (fun h => ?_) (fun h => ?_)
      · refine V_aloadn 67 0 O dX12_order_67 rfl rfl ?_
        refine V_getR 68 O k71 fl_X12_135 rf71_61 dX12_order_68 ?_
        refine V_aloadn 71 0 O dX12_order_71 rfl rfl ?_
        refine V_getI 72 O k71 fl_X12_386 dX12_order_72 ?_
        refine V_iloadn 75 3 O dX12_order_75 rfl rfl ?_
        refine V_iast 76 O k111 dX12_order_76 h (fun σ4 h => ?_)
        refine V_aloadn 77 0 O dX12_order_77 rfl rfl ?_
        refine V_dup 78 O dX12_order_78 rfl ?_
        refine V_getI 79 O k71 fl_X12_386 dX12_order_79 ?_
        refine V_iconst 82 O dX12_order_82 ci_1 ?_
        refine V_iadd 83 O dX12_order_83 ?_
        refine V_put 84 O k71 fp_X12_386 dX12_order_84 h (fun σ5 h => ?_)
        refine V_iinc 87 3 [1, 2, 3, 0] [(0, .ref (zad G 71)), (1, .int x1), (2, .int x2), (3, .int (x3 + (1 : Int32)))] O dX12_order_87 rfl ci_1 (Nat.le_of_ble_eq_true rfl) rfl ?_
        refine V_goto 90 37 O dX12_order_90 rfl ?_
        exact V_sub [0, 1, 2, 3] rfl (H37 x1 x2 (x3 + (1 : Int32)) σ5  h)
      · refine V_sipush 63 O dX12_order_63 cs_m1003 ?_
        exact V_iret 66 O E dX12_order_66 h
theorem bl_X12_order_37 {G : zG} {x : zX} {r : Int32} {τ : Sg} (O : zO G x cX12_order RX12 8 320 7) (E : zE G x (some (.int)) (some (.int r)) τ) (n : Nat) : ∀ (k : Nat) (x1 : Int32) (x2 : Int32) (x3 : Int32) (σ : Sg), s_X12_order_37 n k x1 x2 x3 σ = some (r, τ) → V G x σ [(0, .ref (zad G 71)), (1, .int x1), (2, .int x2), (3, .int x3)] 37 [] := by
  intro k
  induction k with
  | zero => intro x1 x2 x3 σ  h; cases h
  | succ k ih => intro x1 x2 x3 σ  h; exact b_X12_order_37 O E n  (s_X12_order_37 n  k) ih x1 x2 x3 σ  h
set_option maxRecDepth 20000 in
theorem C_X12_order {l : Launch} {G : zG} {n : Nat} {x1 : Int32} {x2 : Int32} {σ : Sg} {r : Int32} {τ : Sg} (h : s_X12_order n x1 x2 σ = some (r, τ)) : zM l G 8 yX12_order (.code yX12_order cX12_order 7 (some (.int))) [.ref (zad G 71), .int x1, .int x2] σ (some (.int r)) τ := by
  refine zM_of (by decide) (Nat.le_of_ble_eq_true rfl) (fun x O E => ?_)
  have O : zO G x cX12_order RX12 8 320 7 := O
  unfold s_X12_order at h
  show V G x σ [(0, .ref (zad G 71)), (1, .int x1), (2, .int x2)] 0 []
  refine V_iloadn 0 1 O dX12_order_0 rfl rfl ?_
  refine V_if_lt 1 13 O dX12_order_1 rfl h (fun h => ?_) (fun h => ?_)
  · refine V_sipush 13 O dX12_order_13 cs_m1001 ?_
    exact V_iret 16 O E dX12_order_16 h
  · refine V_iloadn 4 1 O dX12_order_4 rfl rfl ?_
    refine V_aloadn 5 0 O dX12_order_5 rfl rfl ?_
    refine V_getI 6 O k71 fl_X12_171 dX12_order_6 ?_
    refine V_ishr 9 O dX12_order_9 ?_
    refine V_if_eq 10 17 O dX12_order_10 rfl h (fun h => ?_) (fun h => ?_)
    · refine V_iloadn 17 1 O dX12_order_17 rfl rfl ?_
      obtain ⟨r2, σ1, g, h⟩ := bd_of h
      refine V_callSi 18 [.int x1] [] O mf_X12_ones lk_X12_392 dX12_order_18 rfl rfl (Nat.le_of_ble_eq_true rfl) ⟨(Nat.le_of_ble_eq_true rfl), (Nat.le_of_ble_eq_true rfl)⟩ (fun l => C_X12_ones  g) ?_
      refine V_bipush 21 O dX12_order_21 cb_6 ?_
      refine V_icmp_le 23 30 O dX12_order_23 rfl h (fun h => ?_) (fun h => ?_)
      · refine V_aloadn 30 0 O dX12_order_30 rfl rfl ?_
        refine V_iconst 31 O dX12_order_31 ci_0 ?_
        refine V_put 32 O k71 fp_X12_386 dX12_order_32 h (fun σ3 h => ?_)
        refine V_iconst 35 O dX12_order_35 ci_0 ?_
        refine V_istoren 36 [1, 2, 3, 0] [(0, .ref (zad G 71)), (1, .int x1), (2, .int x2), (3, .int (0 : Int32))] O dX12_order_36 rfl (Nat.le_of_ble_eq_true rfl) rfl ?_
        exact V_sub [0, 1, 2, 3] rfl (bl_X12_order_37 O E n  n x1 x2 (0 : Int32) σ3  h)
      · refine V_sipush 26 O dX12_order_26 cs_m1002 ?_
        exact V_iret 29 O E dX12_order_29 h
    · refine V_sipush 13 O dX12_order_13 cs_m1001 ?_
      exact V_iret 16 O E dX12_order_16 h
