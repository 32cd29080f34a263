-- ==== WaterTownModel.heldBy(III)I
def s_X12_heldBy (n : Nat) (x1 : Int32) (x2 : Int32) (x3 : Int32) (σ : Sg) : Option (Int32 × Sg) := if x1 = (0 : Int32) then (ck x3 10 (bd (s_X12_one n (σ 86 (ix x3)) σ) fun r3 σ2 => ck x2 10 (bd (s_X12_one n (σ2 86 (ix x2)) σ2) fun r5 σ4 => some (r3 - r5, σ4)))) else (if x1 = (1 : Int32) then (ck x2 10 (bd (s_X12_one n (σ 86 (ix x2)) σ) fun r8 σ7 => ck x3 10 (bd (s_X12_one n (σ7 86 (ix x3)) σ7) fun r10 σ9 => some (r8 - r10, σ9)))) else (if x1 = (2 : Int32) then (ck x2 10 (ck x3 10 (some ((σ 104 (ix x2)) - (σ 104 (ix x3)), σ)))) else (ck x3 10 (ck (σ 81 (ix x3)) 10 (ck x2 10 (ck (σ 81 (ix x2)) 10 (some ((σ 106 (ix (σ 81 (ix x3)))) - (σ 106 (ix (σ 81 (ix x2)))), σ))))))))
set_option maxRecDepth 20000 in
theorem C_X12_heldBy {l : Launch} {G : zG} {n : Nat} {x1 : Int32} {x2 : Int32} {x3 : Int32} {σ : Sg} {r : Int32} {τ : Sg} (h : s_X12_heldBy n x1 x2 x3 σ = some (r, τ)) : zM l G 1 yX12_heldBy (.code yX12_heldBy cX12_heldBy 4 (some (.int))) [.ref (zad G 71), .int x1, .int x2, .int x3] σ (some (.int r)) τ := by
  refine zM_of (by decide) (Nat.le_of_ble_eq_true rfl) (fun x O E => ?_)
  have O : zO G x cX12_heldBy RX12 1 40 4 := O
  unfold s_X12_heldBy at h
  show V G x σ [(0, .ref (zad G 71)), (1, .int x1), (2, .int x2), (3, .int x3)] 0 []
  refine V_iloadn 0 1 O dX12_heldBy_0 rfl rfl ?_
  refine V_tab1 1 28 O dX12_heldBy_1 h (by decide) (by decide) rfl rfl (fun h => ?_) (fun q1 h => ?_)
  · refine V_aloadn 28 0 O dX12_heldBy_28 rfl rfl ?_
    refine V_getR 29 O k71 fl_X12_53 rf71_17 dX12_heldBy_29 ?_
    refine V_iloadn 32 3 O dX12_heldBy_32 rfl rfl ?_
    refine V_zald 33 O k86 dX12_heldBy_33 h (fun h => ?_)
    obtain ⟨r3, σ2, g, h⟩ := bd_of h
    refine V_callSi 34 [.int (σ 86 (ix x3))] [] O mf_X12_one lk_X12_185 dX12_heldBy_34 rfl rfl (Nat.le_of_ble_eq_true rfl) ⟨(Nat.le_of_ble_eq_true rfl), (Nat.le_of_ble_eq_true rfl)⟩ (fun l => C_X12_one  g) ?_
    refine V_aloadn 37 0 O dX12_heldBy_37 rfl rfl ?_
    refine V_getR 38 O k71 fl_X12_53 rf71_17 dX12_heldBy_38 ?_
    refine V_iloadn 41 2 O dX12_heldBy_41 rfl rfl ?_
    refine V_zald 42 O k86 dX12_heldBy_42 h (fun h => ?_)
    obtain ⟨r5, σ4, g, h⟩ := bd_of h
    refine V_callSi 43 [.int (σ2 86 (ix x2))] [.int r3] O mf_X12_one lk_X12_185 dX12_heldBy_43 rfl rfl (Nat.le_of_ble_eq_true rfl) ⟨(Nat.le_of_ble_eq_true rfl), (Nat.le_of_ble_eq_true rfl)⟩ (fun l => C_X12_one  g) ?_
    refine V_isub 46 O dX12_heldBy_46 ?_
    exact V_iret 47 O E dX12_heldBy_47 h
  refine V_tab1 1 48 O dX12_heldBy_1 h (by decide) (by decide) rfl rfl (fun h => ?_) (fun q6 h => ?_)
  · refine V_aloadn 48 0 O dX12_heldBy_48 rfl rfl ?_
    refine V_getR 49 O k71 fl_X12_53 rf71_17 dX12_heldBy_49 ?_
    refine V_iloadn 52 2 O dX12_heldBy_52 rfl rfl ?_
    refine V_zald 53 O k86 dX12_heldBy_53 h (fun h => ?_)
    obtain ⟨r8, σ7, g, h⟩ := bd_of h
    refine V_callSi 54 [.int (σ 86 (ix x2))] [] O mf_X12_one lk_X12_185 dX12_heldBy_54 rfl rfl (Nat.le_of_ble_eq_true rfl) ⟨(Nat.le_of_ble_eq_true rfl), (Nat.le_of_ble_eq_true rfl)⟩ (fun l => C_X12_one  g) ?_
    refine V_aloadn 57 0 O dX12_heldBy_57 rfl rfl ?_
    refine V_getR 58 O k71 fl_X12_53 rf71_17 dX12_heldBy_58 ?_
    refine V_iloadn 61 3 O dX12_heldBy_61 rfl rfl ?_
    refine V_zald 62 O k86 dX12_heldBy_62 h (fun h => ?_)
    obtain ⟨r10, σ9, g, h⟩ := bd_of h
    refine V_callSi 63 [.int (σ7 86 (ix x3))] [.int r8] O mf_X12_one lk_X12_185 dX12_heldBy_63 rfl rfl (Nat.le_of_ble_eq_true rfl) ⟨(Nat.le_of_ble_eq_true rfl), (Nat.le_of_ble_eq_true rfl)⟩ (fun l => C_X12_one  g) ?_
    refine V_isub 66 O dX12_heldBy_66 ?_
    exact V_iret 67 O E dX12_heldBy_67 h
  refine V_tab1 1 68 O dX12_heldBy_1 h (by decide) (by decide) rfl rfl (fun h => ?_) (fun q11 h => ?_)
  · refine V_aloadn 68 0 O dX12_heldBy_68 rfl rfl ?_
    refine V_getR 69 O k71 fl_X12_114 rf71_52 dX12_heldBy_69 ?_
    refine V_iloadn 72 2 O dX12_heldBy_72 rfl rfl ?_
    refine V_iald 73 O k104 dX12_heldBy_73 h (fun h => ?_)
    refine V_aloadn 74 0 O dX12_heldBy_74 rfl rfl ?_
    refine V_getR 75 O k71 fl_X12_114 rf71_52 dX12_heldBy_75 ?_
    refine V_iloadn 78 3 O dX12_heldBy_78 rfl rfl ?_
    refine V_iald 79 O k104 dX12_heldBy_79 h (fun h => ?_)
    refine V_isub 80 O dX12_heldBy_80 ?_
    exact V_iret 81 O E dX12_heldBy_81 h
  refine V_tabO 1 82 O dX12_heldBy_1 (by have w0 := lv_neT q1 (show (0 : Int32).toInt = 0 from rfl); have w1 := lv_neT q6 (show (1 : Int32).toInt = 1 from rfl); have w2 := lv_neT q11 (show (2 : Int32).toInt = 2 from rfl); omega) rfl ?_
  refine V_aloadn 82 0 O dX12_heldBy_82 rfl rfl ?_
  refine V_getR 83 O k71 fl_X12_120 rf71_54 dX12_heldBy_83 ?_
  refine V_aloadn 86 0 O dX12_heldBy_86 rfl rfl ?_
  refine V_getR 87 O k71 fl_X12_38 rf71_12 dX12_heldBy_87 ?_
  refine V_iloadn 90 3 O dX12_heldBy_90 rfl rfl ?_
  refine V_iald 91 O k81 dX12_heldBy_91 h (fun h => ?_)
  refine V_iald 92 O k106 dX12_heldBy_92 h (fun h => ?_)
  refine V_aloadn 93 0 O dX12_heldBy_93 rfl rfl ?_
  refine V_getR 94 O k71 fl_X12_120 rf71_54 dX12_heldBy_94 ?_
  refine V_aloadn 97 0 O dX12_heldBy_97 rfl rfl ?_
  refine V_getR 98 O k71 fl_X12_38 rf71_12 dX12_heldBy_98 ?_
  refine V_iloadn 101 2 O dX12_heldBy_101 rfl rfl ?_
  refine V_iald 102 O k81 dX12_heldBy_102 h (fun h => ?_)
  refine V_iald 103 O k106 dX12_heldBy_103 h (fun h => ?_)
  refine V_isub 104 O dX12_heldBy_104 ?_
  exact V_iret 105 O E dX12_heldBy_105 h
-- ==== WaterTownModel.goesAhead(II)Z
def s_X12_goesAhead_2b (n : Nat) (rc2 : Int32 → Int32 → Int32 → Sg → Option (Int32 × Sg)) (x1 : Int32) (x2 : Int32) (x3 : Int32) (σ : Sg) : Option (Int32 × Sg) := if (σ 71 42) ≤ x3 then (if x2 ≤ x1 then (some ((0 : Int32), σ)) else (some ((1 : Int32), σ))) else (bd (s_X12_heldBy n ((sr (σ 71 41) ((2 : Int32) * x3)) &&& (3 : Int32)) x1 x2 σ) fun r2 σ1 => if r2 = 0 then (rc2 x1 x2 (x3 + (1 : Int32)) σ1) else (if 0 ≤ r2 then (some ((0 : Int32), σ1)) else (some ((1 : Int32), σ1))))
def s_X12_goesAhead_2 (n : Nat) : Nat → Int32 → Int32 → Int32 → Sg → Option (Int32 × Sg)
  | 0 => fun _ _ _ _ => none
  | k + 1 => s_X12_goesAhead_2b n (s_X12_goesAhead_2 n k)
def s_X12_goesAhead (n : Nat) (x1 : Int32) (x2 : Int32) (σ : Sg) : Option (Int32 × Sg) := s_X12_goesAhead_2 n n x1 x2 (0 : Int32) σ
set_option maxRecDepth 20000 in
theorem b_X12_goesAhead_2 {G : zG} {x : zX} {r : Int32} {τ : Sg} (O : zO G x cX12_goesAhead RX12 2 80 5) (E : zE G x (some (.boolean)) (some (.int r)) τ) (n : Nat) (rc2 : Int32 → Int32 → Int32 → Sg → Option (Int32 × Sg)) (H2 : ∀ (x1 : Int32) (x2 : Int32) (x3 : Int32) (σ : Sg), rc2 x1 x2 x3 σ = some (r, τ) → V G x σ [(0, .ref (zad G 71)), (1, .int x1), (2, .int x2), (3, .int x3)] 2 []) (x1 : Int32) (x2 : Int32) (x3 : Int32) (σ : Sg) (h : s_X12_goesAhead_2b n rc2 x1 x2 x3 σ = some (r, τ)) : V G x σ [(0, .ref (zad G 71)), (1, .int x1), (2, .int x2), (3, .int x3)] 2 [] := by
  unfold s_X12_goesAhead_2b at h
  refine V_iloadn 2 3 O dX12_goesAhead_2 rfl rfl ?_
  refine V_aloadn 3 0 O dX12_goesAhead_3 rfl rfl ?_
  refine V_getI 4 O k71 fl_X12_268 dX12_goesAhead_4 ?_
  refine V_icmp_ge 7 50 O dX12_goesAhead_7 rfl h (fun h => ?_) (fun h => ?_)
  · refine V_iloadn 50 1 O dX12_goesAhead_50 rfl rfl ?_
    refine V_iloadn 51 2 O dX12_goesAhead_51 rfl rfl ?_
    refine V_icmp_ge 52 59 O dX12_goesAhead_52 rfl h (fun h => ?_) (fun h => ?_)
    · refine V_iconst 59 O dX12_goesAhead_59 ci_0 ?_
      exact V_zret0 60 O E dX12_goesAhead_60 h
    · refine V_iconst 55 O dX12_goesAhead_55 ci_1 ?_
      refine V_goto 56 60 O dX12_goesAhead_56 rfl ?_
      exact V_zret1 60 O E dX12_goesAhead_60 h
  · refine V_aloadn 10 0 O dX12_goesAhead_10 rfl rfl ?_
    refine V_aloadn 11 0 O dX12_goesAhead_11 rfl rfl ?_
    refine V_getI 12 O k71 fl_X12_265 dX12_goesAhead_12 ?_
    refine V_iconst 15 O dX12_goesAhead_15 ci_2 ?_
    refine V_iloadn 16 3 O dX12_goesAhead_16 rfl rfl ?_
    refine V_imul 17 O dX12_goesAhead_17 ?_
    refine V_ishr 18 O dX12_goesAhead_18 ?_
    refine V_iconst 19 O dX12_goesAhead_19 ci_3 ?_
    refine V_iand 20 O dX12_goesAhead_20 ?_
    refine V_iloadn 21 1 O dX12_goesAhead_21 rfl rfl ?_
    refine V_iloadn 22 2 O dX12_goesAhead_22 rfl rfl ?_
    obtain ⟨r2, σ1, g, h⟩ := bd_of h
    refine V_callVi 23 [.int ((sr (σ 71 41) ((2 : Int32) * x3)) &&& (3 : Int32)), .int x1, .int x2] [] O mf_X12_heldBy lk_X12_302 k71 dX12_goesAhead_23 rfl rfl (Nat.le_of_ble_eq_true rfl) ⟨(Nat.le_of_ble_eq_true rfl), (Nat.le_of_ble_eq_true rfl)⟩ (fun l => C_X12_heldBy  g) ?_
    refine V_istore 26 [1, 2, 3, 4, 0] [(0, .ref (zad G 71)), (1, .int x1), (2, .int x2), (3, .int x3), (4, .int r2)] O dX12_goesAhead_26 (Nat.le_of_ble_eq_true rfl) rfl ?_
    refine V_iload 28 4 O dX12_goesAhead_28 rfl ?_
    refine V_if_eq 30 44 O dX12_goesAhead_30 rfl h (fun h => ?_) (fun h => ?_)
    · refine V_iinc 44 3 [1, 2, 3, 0, 4] [(0, .ref (zad G 71)), (1, .int x1), (2, .int x2), (3, .int (x3 + (1 : Int32))), (4, .int r2)] O dX12_goesAhead_44 rfl ci_1 (Nat.le_of_ble_eq_true rfl) rfl ?_
      refine V_goto 47 2 O dX12_goesAhead_47 rfl ?_
      exact V_sub [0, 1, 2, 3] rfl (H2 x1 x2 (x3 + (1 : Int32)) σ1  h)
    · refine V_iload 33 4 O dX12_goesAhead_33 rfl ?_
      refine V_if_ge 35 42 O dX12_goesAhead_35 rfl h (fun h => ?_) (fun h => ?_)
      · refine V_iconst 42 O dX12_goesAhead_42 ci_0 ?_
        exact V_zret0 43 O E dX12_goesAhead_43 h
      · refine V_iconst 38 O dX12_goesAhead_38 ci_1 ?_
        refine V_goto 39 43 O dX12_goesAhead_39 rfl ?_
        exact V_zret1 43 O E dX12_goesAhead_43 h
theorem bl_X12_goesAhead_2 {G : zG} {x : zX} {r : Int32} {τ : Sg} (O : zO G x cX12_goesAhead RX12 2 80 5) (E : zE G x (some (.boolean)) (some (.int r)) τ) (n : Nat) : ∀ (k : Nat) (x1 : Int32) (x2 : Int32) (x3 : Int32) (σ : Sg), s_X12_goesAhead_2 n k x1 x2 x3 σ = some (r, τ) → V G x σ [(0, .ref (zad G 71)), (1, .int x1), (2, .int x2), (3, .int x3)] 2 [] := by
  intro k
  induction k with
  | zero => intro x1 x2 x3 σ  h; cases h
  | succ k ih => intro x1 x2 x3 σ  h; exact b_X12_goesAhead_2 O E n  (s_X12_goesAhead_2 n  k) ih x1 x2 x3 σ  h
set_option maxRecDepth 20000 in
theorem C_X12_goesAhead {l : Launch} {G : zG} {n : Nat} {x1 : Int32} {x2 : Int32} {σ : Sg} {r : Int32} {τ : Sg} (h : s_X12_goesAhead n x1 x2 σ = some (r, τ)) : zM l G 2 yX12_goesAhead (.code yX12_goesAhead cX12_goesAhead 5 (some (.boolean))) [.ref (zad G 71), .int x1, .int x2] σ (some (.int r)) τ := by
  refine zM_of (by decide) (Nat.le_of_ble_eq_true rfl) (fun x O E => ?_)
  have O : zO G x cX12_goesAhead RX12 2 80 5 := O
  unfold s_X12_goesAhead at h
  show V G x σ [(0, .ref (zad G 71)), (1, .int x1), (2, .int x2)] 0 []
  refine V_iconst 0 O dX12_goesAhead_0 ci_0 ?_
  refine V_istoren 1 [1, 2, 3, 0] [(0, .ref (zad G 71)), (1, .int x1), (2, .int x2), (3, .int (0 : Int32))] O dX12_goesAhead_1 rfl (Nat.le_of_ble_eq_true rfl) rfl ?_
  exact V_sub [0, 1, 2, 3] rfl (bl_X12_goesAhead_2 O E n  n x1 x2 (0 : Int32) σ  h)
-- ==== WaterTownModel.findLine(I)V
def s_X12_findLine_140 (n : Nat) (rc11 : Int32 → Int32 → Sg → Option Sg) (x1 : Int32) (x2 : Int32) (x3 : Int32) (σ : Sg) : Option Sg := ck x3 10 (lt (up2 σ 107 (ix x3) x2) fun σ14 => lt (up2 σ14 71 56 ((σ14 71 56) + (1 : Int32))) fun σ15 => rc11 x1 (x2 + (1 : Int32)) σ15)
def s_X12_findLine_100b (n : Nat) (rc11 : Int32 → Int32 → Sg → Option Sg) (rc100 : Int32 → Int32 → Int32 → Sg → Option Sg) (x1 : Int32) (x2 : Int32) (x3 : Int32) (σ : Sg) : Option Sg := if x3 ≤ 0 then (s_X12_findLine_140 n rc11 x1 x2 x3 σ) else (ck (x3 - (1 : Int32)) 10 (bd (s_X12_goesAhead n x2 (σ 107 (ix (x3 - (1 : Int32)))) σ) fun r12 σ11 => if r12 = 0 then (s_X12_findLine_140 n rc11 x1 x2 x3 σ11) else (ck (x3 - (1 : Int32)) 10 (ck x3 10 (lt (up2 σ11 107 (ix x3) (σ11 107 (ix (x3 - (1 : Int32))))) fun σ13 => rc100 x1 x2 (x3 + (-1 : Int32)) σ13)))))
def s_X12_findLine_100 (n : Nat) (rc11 : Int32 → Int32 → Sg → Option Sg) : Nat → Int32 → Int32 → Int32 → Sg → Option Sg
  | 0 => fun _ _ _ _ => none
  | k + 1 => s_X12_findLine_100b n rc11 (s_X12_findLine_100 n rc11 k)
def s_X12_findLine_11b (n : Nat) (rc11 : Int32 → Int32 → Sg → Option Sg) (x1 : Int32) (x2 : Int32) (σ : Sg) : Option Sg := if (σ 71 11) ≤ x2 then (some σ) else (ck x2 10 (lt (up2 σ 105 (ix x2) (0 : Int32)) fun σ3 => ck x2 10 (lt (up2 σ3 104 (ix x2) (0 : Int32)) fun σ4 => bd (s_X12_isWaterOn n x2 x1 σ4) fun r6 σ5 => if r6 = 0 then (rc11 x1 (x2 + (1 : Int32)) σ5) else (ck x2 10 (ck x2 10 (ck x2 10 (ck x2 10 (if (σ5 86 (ix x2)) = 0 then (ck x2 10 (ck x2 10 (ck x2 10 (lt (up2 σ5 104 (ix x2) ((((σ5 82 (ix x2)) * (σ5 83 (ix x2))) + (σ5 84 (ix x2))) + ((σ5 85 (ix x2)) - (σ5 88 (ix x2))))) fun σ7 => lt (σ7 71 56) fun v8 => s_X12_findLine_100 n rc11 n x1 x2 v8 σ7)))) else (ck x2 10 (lt (up2 σ5 104 (ix x2) ((((σ5 82 (ix x2)) * (σ5 83 (ix x2))) + (σ5 84 (ix x2))) + (0 : Int32))) fun σ9 => lt (σ9 71 56) fun v10 => s_X12_findLine_100 n rc11 n x1 x2 v10 σ9))))))))))
def s_X12_findLine_11 (n : Nat) : Nat → Int32 → Int32 → Sg → Option Sg
  | 0 => fun _ _ _ => none
  | k + 1 => s_X12_findLine_11b n (s_X12_findLine_11 n k)
def s_X12_findLine (n : Nat) (x1 : Int32) (σ : Sg) : Option Sg := bdv (s_X12_findFar n σ) fun σ1 => lt (up2 σ1 71 56 (0 : Int32)) fun σ2 => s_X12_findLine_11 n n x1 (0 : Int32) σ2
set_option maxRecDepth 20000 in
theorem b_X12_findLine_140 {G : zG} {x : zX} {τ : Sg} (O : zO G x cX12_findLine RX12 3 120 4) (E : zE G x none none τ) (n : Nat) (rc11 : Int32 → Int32 → Sg → Option Sg) (H11 : ∀ (x1 : Int32) (x2 : Int32) (σ : Sg), rc11 x1 x2 σ = some τ → V G x σ [(0, .ref (zad G 71)), (1, .int x1), (2, .int x2)] 11 []) (x1 : Int32) (x2 : Int32) (x3 : Int32) (σ : Sg) (h : s_X12_findLine_140 n rc11 x1 x2 x3 σ = some τ) : V G x σ [(0, .ref (zad G 71)), (1, .int x1), (2, .int x2), (3, .int x3)] 140 [] := by
  unfold s_X12_findLine_140 at h
  refine V_aloadn 140 0 O dX12_findLine_140 rfl rfl ?_
  refine V_getR 141 O k71 fl_X12_123 rf71_55 dX12_findLine_141 ?_
  refine V_iloadn 144 3 O dX12_findLine_144 rfl rfl ?_
  refine V_iloadn 145 2 O dX12_findLine_145 rfl rfl ?_
  refine V_iast 146 O k107 dX12_findLine_146 h (fun σ14 h => ?_)
  refine V_aloadn 147 0 O dX12_findLine_147 rfl rfl ?_
  refine V_dup 148 O dX12_findLine_148 rfl ?_
  refine V_getI 149 O k71 fl_X12_309 dX12_findLine_149 ?_
  refine V_iconst 152 O dX12_findLine_152 ci_1 ?_
  refine V_iadd 153 O dX12_findLine_153 ?_
  refine V_put 154 O k71 fp_X12_309 dX12_findLine_154 h (fun σ15 h => ?_)
  refine V_iinc 157 2 [1, 2, 0, 3] [(0, .ref (zad G 71)), (1, .int x1), (2, .int (x2 + (1 : Int32))), (3, .int x3)] O dX12_findLine_157 rfl ci_1 (Nat.le_of_ble_eq_true rfl) rfl ?_
  refine V_goto 160 11 O dX12_findLine_160 rfl ?_
  exact V_sub [0, 1, 2] rfl (H11 x1 (x2 + (1 : Int32)) σ15  h)
set_option maxRecDepth 20000 in
theorem b_X12_findLine_100 {G : zG} {x : zX} {τ : Sg} (O : zO G x cX12_findLine RX12 3 120 4) (E : zE G x none none τ) (n : Nat) (rc11 : Int32 → Int32 → Sg → Option Sg) (H11 : ∀ (x1 : Int32) (x2 : Int32) (σ : Sg), rc11 x1 x2 σ = some τ → V G x σ [(0, .ref (zad G 71)), (1, .int x1), (2, .int x2)] 11 []) (rc100 : Int32 → Int32 → Int32 → Sg → Option Sg) (H100 : ∀ (x1 : Int32) (x2 : Int32) (x3 : Int32) (σ : Sg), rc100 x1 x2 x3 σ = some τ → V G x σ [(0, .ref (zad G 71)), (1, .int x1), (2, .int x2), (3, .int x3)] 100 []) (x1 : Int32) (x2 : Int32) (x3 : Int32) (σ : Sg) (h : s_X12_findLine_100b n rc11 rc100 x1 x2 x3 σ = some τ) : V G x σ [(0, .ref (zad G 71)), (1, .int x1), (2, .int x2), (3, .int x3)] 100 [] := by
  unfold s_X12_findLine_100b at h
  refine V_iloadn 100 3 O dX12_findLine_100 rfl rfl ?_
  refine V_if_le 101 140 O dX12_findLine_101 rfl h (fun h => ?_) (fun h => ?_)
  · exact V_sub [0, 1, 2, 3] rfl (b_X12_findLine_140 O E n rc11 H11 x1 x2 x3 σ  h)
  · refine V_aloadn 104 0 O dX12_findLine_104 rfl rfl ?_
    refine V_iloadn 105 2 O dX12_findLine_105 rfl rfl ?_
    refine V_aloadn 106 0 O dX12_findLine_106 rfl rfl ?_
    refine V_getR 107 O k71 fl_X12_123 rf71_55 dX12_findLine_107 ?_
    refine V_iloadn 110 3 O dX12_findLine_110 rfl rfl ?_
    refine V_iconst 111 O dX12_findLine_111 ci_1 ?_
    refine V_isub 112 O dX12_findLine_112 ?_
    refine V_iald 113 O k107 dX12_findLine_113 h (fun h => ?_)
    obtain ⟨r12, σ11, g, h⟩ := bd_of h
    refine V_callVi 114 [.int x2, .int (σ 107 (ix (x3 - (1 : Int32))))] [] O mf_X12_goesAhead lk_X12_316 k71 dX12_findLine_114 rfl rfl (Nat.le_of_ble_eq_true rfl) ⟨(Nat.le_of_ble_eq_true rfl), (Nat.le_of_ble_eq_true rfl)⟩ (fun l => C_X12_goesAhead  g) ?_
    refine V_if_eq 117 140 O dX12_findLine_117 rfl h (fun h => ?_) (fun h => ?_)
    · exact V_sub [0, 1, 2, 3] rfl (b_X12_findLine_140 O E n rc11 H11 x1 x2 x3 σ11  h)
    · refine V_aloadn 120 0 O dX12_findLine_120 rfl rfl ?_
      refine V_getR 121 O k71 fl_X12_123 rf71_55 dX12_findLine_121 ?_
      refine V_iloadn 124 3 O dX12_findLine_124 rfl rfl ?_
      refine V_aloadn 125 0 O dX12_findLine_125 rfl rfl ?_
      refine V_getR 126 O k71 fl_X12_123 rf71_55 dX12_findLine_126 ?_
      refine V_iloadn 129 3 O dX12_findLine_129 rfl rfl ?_
      refine V_iconst 130 O dX12_findLine_130 ci_1 ?_
      refine V_isub 131 O dX12_findLine_131 ?_
      refine V_iald 132 O k107 dX12_findLine_132 h (fun h => ?_)
      refine V_iast 133 O k107 dX12_findLine_133 h (fun σ13 h => ?_)
      refine V_iinc 134 3 [1, 2, 3, 0] [(0, .ref (zad G 71)), (1, .int x1), (2, .int x2), (3, .int (x3 + (-1 : Int32)))] O dX12_findLine_134 rfl ci_m1 (Nat.le_of_ble_eq_true rfl) rfl ?_
      refine V_goto 137 100 O dX12_findLine_137 rfl ?_
      exact V_sub [0, 1, 2, 3] rfl (H100 x1 x2 (x3 + (-1 : Int32)) σ13  h)
theorem bl_X12_findLine_100 {G : zG} {x : zX} {τ : Sg} (O : zO G x cX12_findLine RX12 3 120 4) (E : zE G x none none τ) (n : Nat) (rc11 : Int32 → Int32 → Sg → Option Sg) (H11 : ∀ (x1 : Int32) (x2 : Int32) (σ : Sg), rc11 x1 x2 σ = some τ → V G x σ [(0, .ref (zad G 71)), (1, .int x1), (2, .int x2)] 11 []) : ∀ (k : Nat) (x1 : Int32) (x2 : Int32) (x3 : Int32) (σ : Sg), s_X12_findLine_100 n rc11 k x1 x2 x3 σ = some τ → V G x σ [(0, .ref (zad G 71)), (1, .int x1), (2, .int x2), (3, .int x3)] 100 [] := by
  intro k
  induction k with
  | zero => intro x1 x2 x3 σ  h; cases h
  | succ k ih => intro x1 x2 x3 σ  h; exact b_X12_findLine_100 O E n rc11 H11 (s_X12_findLine_100 n rc11 k) ih x1 x2 x3 σ  h
set_option maxRecDepth 20000 in
theorem b_X12_findLine_11 {G : zG} {x : zX} {τ : Sg} (O : zO G x cX12_findLine RX12 3 120 4) (E : zE G x none none τ) (n : Nat) (rc11 : Int32 → Int32 → Sg → Option Sg) (H11 : ∀ (x1 : Int32) (x2 : Int32) (σ : Sg), rc11 x1 x2 σ = some τ → V G x σ [(0, .ref (zad G 71)), (1, .int x1), (2, .int x2)] 11 []) (x1 : Int32) (x2 : Int32) (σ : Sg) (h : s_X12_findLine_11b n rc11 x1 x2 σ = some τ) : V G x σ [(0, .ref (zad G 71)), (1, .int x1), (2, .int x2)] 11 [] := by
  unfold s_X12_findLine_11b at h
  refine V_iloadn 11 2 O dX12_findLine_11 rfl rfl ?_
  refine V_aloadn 12 0 O dX12_findLine_12 rfl rfl ?_
  refine V_getI 13 O k71 fl_X12_171 dX12_findLine_13 ?_
  refine V_icmp_ge 16 163 O dX12_findLine_16 rfl h (fun h => ?_) (fun h => ?_)
  · exact V_vret 163 O E dX12_findLine_163 h
  · refine V_aloadn 19 0 O dX12_findLine_19 rfl rfl ?_
    refine V_getR 20 O k71 fl_X12_117 rf71_53 dX12_findLine_20 ?_
    refine V_iloadn 23 2 O dX12_findLine_23 rfl rfl ?_
    refine V_iconst 24 O dX12_findLine_24 ci_0 ?_
    refine V_iast 25 O k105 dX12_findLine_25 h (fun σ3 h => ?_)
    refine V_aloadn 26 0 O dX12_findLine_26 rfl rfl ?_
    refine V_getR 27 O k71 fl_X12_114 rf71_52 dX12_findLine_27 ?_
    refine V_iloadn 30 2 O dX12_findLine_30 rfl rfl ?_
    refine V_iconst 31 O dX12_findLine_31 ci_0 ?_
    refine V_iast 32 O k104 dX12_findLine_32 h (fun σ4 h => ?_)
    refine V_aloadn 33 0 O dX12_findLine_33 rfl rfl ?_
    refine V_iloadn 34 2 O dX12_findLine_34 rfl rfl ?_
    refine V_iloadn 35 1 O dX12_findLine_35 rfl rfl ?_
    obtain ⟨r6, σ5, g, h⟩ := bd_of h
    refine V_callVi 36 [.int x2, .int x1] [] O mf_X12_isWaterOn lk_X12_312 k71 dX12_findLine_36 rfl rfl (Nat.le_of_ble_eq_true rfl) ⟨(Nat.le_of_ble_eq_true rfl), (Nat.le_of_ble_eq_true rfl)⟩ (fun l => C_X12_isWaterOn  g) ?_
    refine V_if_eq 39 157 O dX12_findLine_39 rfl h (fun h => ?_) (fun h => ?_)
    · refine V_iinc 157 2 [1, 2, 0] [(0, .ref (zad G 71)), (1, .int x1), (2, .int (x2 + (1 : Int32)))] O dX12_findLine_157 rfl ci_1 (Nat.le_of_ble_eq_true rfl) rfl ?_
      refine V_goto 160 11 O dX12_findLine_160 rfl ?_
      exact V_sub [0, 1, 2] rfl (H11 x1 (x2 + (1 : Int32)) σ5  h)
    · refine V_aloadn 42 0 O dX12_findLine_42 rfl rfl ?_
      refine V_getR 43 O k71 fl_X12_114 rf71_52 dX12_findLine_43 ?_
      refine V_iloadn 46 2 O dX12_findLine_46 rfl rfl ?_
      refine V_aloadn 47 0 O dX12_findLine_47 rfl rfl ?_
      refine V_getR 48 O k71 fl_X12_41 rf71_13 dX12_findLine_48 ?_
      refine V_iloadn 51 2 O dX12_findLine_51 rfl rfl ?_
      refine V_iald 52 O k82 dX12_findLine_52 h (fun h => ?_)
      refine V_aloadn 53 0 O dX12_findLine_53 rfl rfl ?_
      refine V_getR 54 O k71 fl_X12_44 rf71_14 dX12_findLine_54 ?_
      refine V_iloadn 57 2 O dX12_findLine_57 rfl rfl ?_
      refine V_iald 58 O k83 dX12_findLine_58 h (fun h => ?_)
      refine V_imul 59 O dX12_findLine_59 ?_
      refine V_aloadn 60 0 O dX12_findLine_60 rfl rfl ?_
      refine V_getR 61 O k71 fl_X12_47 rf71_15 dX12_findLine_61 ?_
      refine V_iloadn 64 2 O dX12_findLine_64 rfl rfl ?_
      refine V_iald 65 O k84 dX12_findLine_65 h (fun h => ?_)
      refine V_iadd 66 O dX12_findLine_66 ?_
      refine V_aloadn 67 0 O dX12_findLine_67 rfl rfl ?_
      refine V_getR 68 O k71 fl_X12_53 rf71_17 dX12_findLine_68 ?_
      refine V_iloadn 71 2 O dX12_findLine_71 rfl rfl ?_
      refine V_zald 72 O k86 dX12_findLine_72 h (fun h => ?_)
      refine V_if_eq 73 80 O dX12_findLine_73 rfl h (fun h => ?_) (fun h => ?_)
      · refine V_aloadn 80 0 O dX12_findLine_80 rfl rfl ?_
        refine V_getR 81 O k71 fl_X12_50 rf71_16 dX12_findLine_81 ?_
        refine V_iloadn 84 2 O dX12_findLine_84 rfl rfl ?_
        refine V_iald 85 O k85 dX12_findLine_85 h (fun h => ?_)
        refine V_aloadn 86 0 O dX12_findLine_86 rfl rfl ?_
        refine V_getR 87 O k71 fl_X12_59 rf71_19 dX12_findLine_87 ?_
        refine V_iloadn 90 2 O dX12_findLine_90 rfl rfl ?_
        refine V_iald 91 O k88 dX12_findLine_91 h (fun h => ?_)
        refine V_isub 92 O dX12_findLine_92 ?_
        refine V_iadd 93 O dX12_findLine_93 ?_
        refine V_iast 94 O k104 dX12_findLine_94 h (fun σ7 h => ?_)
        refine V_aloadn 95 0 O dX12_findLine_95 rfl rfl ?_
        refine V_getI 96 O k71 fl_X12_309 dX12_findLine_96 ?_
        refine V_topi h (fun v8 h => ?_)
        refine V_istoren 99 [1, 2, 3, 0] [(0, .ref (zad G 71)), (1, .int x1), (2, .int x2), (3, .int v8)] O dX12_findLine_99 rfl (Nat.le_of_ble_eq_true rfl) rfl ?_
        exact V_sub [0, 1, 2, 3] rfl (bl_X12_findLine_100 O E n rc11 H11 n x1 x2 v8 σ7  h)
      · refine V_iconst 76 O dX12_findLine_76 ci_0 ?_
        refine V_goto 77 93 O dX12_findLine_77 rfl ?_
        refine V_iadd 93 O dX12_findLine_93 ?_
        refine V_iast 94 O k104 dX12_findLine_94 h (fun σ9 h => ?_)
        refine V_aloadn 95 0 O dX12_findLine_95 rfl rfl ?_
        refine V_getI 96 O k71 fl_X12_309 dX12_findLine_96 ?_
        refine V_topi h (fun v10 h => ?_)
        refine V_istoren 99 [1, 2, 3, 0] [(0, .ref (zad G 71)), (1, .int x1), (2, .int x2), (3, .int v10)] O dX12_findLine_99 rfl (Nat.le_of_ble_eq_true rfl) rfl ?_
        exact V_sub [0, 1, 2, 3] rfl (bl_X12_findLine_100 O E n rc11 H11 n x1 x2 v10 σ9  h)
theorem bl_X12_findLine_11 {G : zG} {x : zX} {τ : Sg} (O : zO G x cX12_findLine RX12 3 120 4) (E : zE G x none none τ) (n : Nat) : ∀ (k : Nat) (x1 : Int32) (x2 : Int32) (σ : Sg), s_X12_findLine_11 n k x1 x2 σ = some τ → V G x σ [(0, .ref (zad G 71)), (1, .int x1), (2, .int x2)] 11 [] := by
  intro k
  induction k with
  | zero => intro x1 x2 σ  h; cases h
  | succ k ih => intro x1 x2 σ  h; exact b_X12_findLine_11 O E n  (s_X12_findLine_11 n  k) ih x1 x2 σ  h
set_option maxRecDepth 20000 in
theorem C_X12_findLine {l : Launch} {G : zG} {n : Nat} {x1 : Int32} {σ : Sg} {τ : Sg} (h : s_X12_findLine n x1 σ = some τ) : zM l G 3 yX12_findLine (.code yX12_findLine cX12_findLine 4 none) [.ref (zad G 71), .int x1] σ none τ := by
  refine zM_of (by decide) (Nat.le_of_ble_eq_true rfl) (fun x O E => ?_)
  have O : zO G x cX12_findLine RX12 3 120 4 := O
  unfold s_X12_findLine at h
  show V G x σ [(0, .ref (zad G 71)), (1, .int x1)] 0 []
  refine V_aloadn 0 0 O dX12_findLine_0 rfl rfl ?_
  obtain ⟨σ1, g, h⟩ := bdv_of h
  refine V_callVv 1 [] [] O mf_X12_findFar lk_X12_306 k71 dX12_findLine_1 rfl rfl (Nat.le_of_ble_eq_true rfl) ⟨(Nat.le_of_ble_eq_true rfl), (Nat.le_of_ble_eq_true rfl)⟩ (fun l => C_X12_findFar  g) ?_
  refine V_aloadn 4 0 O dX12_findLine_4 rfl rfl ?_
  refine V_iconst 5 O dX12_findLine_5 ci_0 ?_
  refine V_put 6 O k71 fp_X12_309 dX12_findLine_6 h (fun σ2 h => ?_)
  refine V_iconst 9 O dX12_findLine_9 ci_0 ?_
  refine V_istoren 10 [1, 2, 0] [(0, .ref (zad G 71)), (1, .int x1), (2, .int (0 : Int32))] O dX12_findLine_10 rfl (Nat.le_of_ble_eq_true rfl) rfl ?_
  exact V_sub [0, 1, 2] rfl (bl_X12_findLine_11 O E n  n x1 (0 : Int32) σ2  h)
-- ==== WaterTownModel.askLeaks(I)V
def s_X12_askLeaks_12b (n : Nat) (rc12 : Int32 → Sg → Option Sg) (x2 : Int32) (σ : Sg) : Option Sg := if (σ 71 2) ≤ x2 then (some σ) else (ck x2 20 (if (σ 79 (ix x2)) = 0 then (ck x2 20 (ck x2 20 (bd (s_X12_ask n (σ 73 (ix x2)) (σ 78 (ix x2)) σ) fun r4 σ3 => lt (up2 σ3 71 57 ((σ 71 57) + r4)) fun σ5 => rc12 (x2 + (1 : Int32)) σ5))) else (lt (up2 σ 71 57 ((σ 71 57) + (0 : Int32))) fun σ6 => rc12 (x2 + (1 : Int32)) σ6)))
def s_X12_askLeaks_12 (n : Nat) : Nat → Int32 → Sg → Option Sg
  | 0 => fun _ _ => none
  | k + 1 => s_X12_askLeaks_12b n (s_X12_askLeaks_12 n k)
def s_X12_askLeaks (n : Nat) (x1 : Int32) (σ : Sg) : Option Sg := bdv (s_X12_layNet n x1 σ) fun σ1 => lt (up2 σ1 71 57 (0 : Int32)) fun σ2 => s_X12_askLeaks_12 n n (0 : Int32) σ2
set_option maxRecDepth 20000 in
theorem b_X12_askLeaks_12 {G : zG} {x : zX} {τ : Sg} (O : zO G x cX12_askLeaks RX12 3 120 3) (E : zE G x none none τ) (n : Nat) (rc12 : Int32 → Sg → Option Sg) (H12 : ∀ (x2 : Int32) (σ : Sg), rc12 x2 σ = some τ → V G x σ [(0, .ref (zad G 71)), (2, .int x2)] 12 []) (x2 : Int32) (σ : Sg) (h : s_X12_askLeaks_12b n rc12 x2 σ = some τ) : V G x σ [(0, .ref (zad G 71)), (2, .int x2)] 12 [] := by
  unfold s_X12_askLeaks_12b at h
  refine V_iloadn 12 1 O dX12_askLeaks_12 rfl rfl ?_
  refine V_aloadn 13 0 O dX12_askLeaks_13 rfl rfl ?_
  refine V_getI 14 O k71 fl_X12_168 dX12_askLeaks_14 ?_
  refine V_icmp_ge 17 64 O dX12_askLeaks_17 rfl h (fun h => ?_) (fun h => ?_)
  · exact V_vret 64 O E dX12_askLeaks_64 h
  · refine V_aloadn 20 0 O dX12_askLeaks_20 rfl rfl ?_
    refine V_dup 21 O dX12_askLeaks_21 rfl ?_
    refine V_getI 22 O k71 fl_X12_322 dX12_askLeaks_22 ?_
    refine V_aloadn 25 0 O dX12_askLeaks_25 rfl rfl ?_
    refine V_getR 26 O k71 fl_X12_31 rf71_9 dX12_askLeaks_26 ?_
    refine V_iloadn 29 1 O dX12_askLeaks_29 rfl rfl ?_
    refine V_zald 30 O k79 dX12_askLeaks_30 h (fun h => ?_)
    refine V_if_eq 31 38 O dX12_askLeaks_31 rfl h (fun h => ?_) (fun h => ?_)
    · refine V_aloadn 38 0 O dX12_askLeaks_38 rfl rfl ?_
      refine V_aloadn 39 0 O dX12_askLeaks_39 rfl rfl ?_
      refine V_getR 40 O k71 fl_X12_13 rf71_3 dX12_askLeaks_40 ?_
      refine V_iloadn 43 1 O dX12_askLeaks_43 rfl rfl ?_
      refine V_iald 44 O k73 dX12_askLeaks_44 h (fun h => ?_)
      refine V_aloadn 45 0 O dX12_askLeaks_45 rfl rfl ?_
      refine V_getR 46 O k71 fl_X12_28 rf71_8 dX12_askLeaks_46 ?_
      refine V_iloadn 49 1 O dX12_askLeaks_49 rfl rfl ?_
      refine V_iald 50 O k78 dX12_askLeaks_50 h (fun h => ?_)
      obtain ⟨r4, σ3, g, h⟩ := bd_of h
      refine V_callVi 51 [.int (σ 73 (ix x2)), .int (σ 78 (ix x2))] [.int (σ 71 57), .ref (zad G 71)] O mf_X12_ask lk_X12_325 k71 dX12_askLeaks_51 rfl rfl (Nat.le_of_ble_eq_true rfl) ⟨(Nat.le_of_ble_eq_true rfl), (Nat.le_of_ble_eq_true rfl)⟩ (fun l => C_X12_ask  g) ?_
      refine V_iadd 54 O dX12_askLeaks_54 ?_
      refine V_put 55 O k71 fp_X12_322 dX12_askLeaks_55 h (fun σ5 h => ?_)
      refine V_iinc 58 1 [1, 0] [(0, .ref (zad G 71)), (2, .int (x2 + (1 : Int32)))] O dX12_askLeaks_58 rfl ci_1 (Nat.le_of_ble_eq_true rfl) rfl ?_
      refine V_goto 61 12 O dX12_askLeaks_61 rfl ?_
      exact V_sub [0, 1] rfl (H12 (x2 + (1 : Int32)) σ5  h)
    · refine V_iconst 34 O dX12_askLeaks_34 ci_0 ?_
      refine V_goto 35 54 O dX12_askLeaks_35 rfl ?_
      refine V_iadd 54 O dX12_askLeaks_54 ?_
      refine V_put 55 O k71 fp_X12_322 dX12_askLeaks_55 h (fun σ6 h => ?_)
      refine V_iinc 58 1 [1, 0] [(0, .ref (zad G 71)), (2, .int (x2 + (1 : Int32)))] O dX12_askLeaks_58 rfl ci_1 (Nat.le_of_ble_eq_true rfl) rfl ?_
      refine V_goto 61 12 O dX12_askLeaks_61 rfl ?_
      exact V_sub [0, 1] rfl (H12 (x2 + (1 : Int32)) σ6  h)
theorem bl_X12_askLeaks_12 {G : zG} {x : zX} {τ : Sg} (O : zO G x cX12_askLeaks RX12 3 120 3) (E : zE G x none none τ) (n : Nat) : ∀ (k : Nat) (x2 : Int32) (σ : Sg), s_X12_askLeaks_12 n k x2 σ = some τ → V G x σ [(0, .ref (zad G 71)), (2, .int x2)] 12 [] := by
  intro k
  induction k with
  | zero => intro x2 σ  h; cases h
  | succ k ih => intro x2 σ  h; exact b_X12_askLeaks_12 O E n  (s_X12_askLeaks_12 n  k) ih x2 σ  h
set_option maxRecDepth 20000 in
theorem C_X12_askLeaks {l : Launch} {G : zG} {n : Nat} {x1 : Int32} {σ : Sg} {τ : Sg} (h : s_X12_askLeaks n x1 σ = some τ) : zM l G 3 yX12_askLeaks (.code yX12_askLeaks cX12_askLeaks 3 none) [.ref (zad G 71), .int x1] σ none τ := by
  refine zM_of (by decide) (Nat.le_of_ble_eq_true rfl) (fun x O E => ?_)
  have O : zO G x cX12_askLeaks RX12 3 120 3 := O
  unfold s_X12_askLeaks at h
  show V G x σ [(0, .ref (zad G 71)), (1, .int x1)] 0 []
  refine V_aloadn 0 0 O dX12_askLeaks_0 rfl rfl ?_
  refine V_iloadn 1 1 O dX12_askLeaks_1 rfl rfl ?_
  obtain ⟨σ1, g, h⟩ := bdv_of h
  refine V_callVv 2 [.int x1] [] O mf_X12_layNet lk_X12_319 k71 dX12_askLeaks_2 rfl rfl (Nat.le_of_ble_eq_true rfl) ⟨(Nat.le_of_ble_eq_true rfl), (Nat.le_of_ble_eq_true rfl)⟩ (fun l => C_X12_layNet  g) ?_
  refine V_aloadn 5 0 O dX12_askLeaks_5 rfl rfl ?_
  refine V_iconst 6 O dX12_askLeaks_6 ci_0 ?_
  refine V_put 7 O k71 fp_X12_322 dX12_askLeaks_7 h (fun σ2 h => ?_)
  refine V_iconst 10 O dX12_askLeaks_10 ci_0 ?_
  refine V_istoren 11 [1, 2, 0] [(0, .ref (zad G 71)), (1, .int x1), (2, .int (0 : Int32))] O dX12_askLeaks_11 rfl (Nat.le_of_ble_eq_true rfl) rfl ?_
  exact V_sub [0, 2] rfl (bl_X12_askLeaks_12 O E n  n (0 : Int32) σ2  h)
-- ==== WaterTownModel.askStreets()V
def s_X12_askStreets_2b (n : Nat) (rc2 : Int32 → Sg → Option Sg) (x1 : Int32) (σ : Sg) : Option Sg := if (σ 71 56) ≤ x1 then (some σ) else (ck x1 10 (ck x1 10 (ck (σ 107 (ix x1)) 10 (ck x1 10 (ck (σ 107 (ix x1)) 10 (bd (s_X12_ask n (σ 81 (ix (σ 107 (ix x1)))) (σ 104 (ix (σ 107 (ix x1)))) σ) fun r2 σ1 => ck (σ 107 (ix x1)) 10 (lt (up2 σ1 105 (ix (σ 107 (ix x1))) r2) fun σ3 => rc2 (x1 + (1 : Int32)) σ3)))))))
def s_X12_askStreets_2 (n : Nat) : Nat → Int32 → Sg → Option Sg
  | 0 => fun _ _ => none
  | k + 1 => s_X12_askStreets_2b n (s_X12_askStreets_2 n k)
def s_X12_askStreets (n : Nat) (σ : Sg) : Option Sg := s_X12_askStreets_2 n n (0 : Int32) σ
set_option maxRecDepth 20000 in
theorem b_X12_askStreets_2 {G : zG} {x : zX} {τ : Sg} (O : zO G x cX12_askStreets RX12 3 120 2) (E : zE G x none none τ) (n : Nat) (rc2 : Int32 → Sg → Option Sg) (H2 : ∀ (x1 : Int32) (σ : Sg), rc2 x1 σ = some τ → V G x σ [(0, .ref (zad G 71)), (1, .int x1)] 2 []) (x1 : Int32) (σ : Sg) (h : s_X12_askStreets_2b n rc2 x1 σ = some τ) : V G x σ [(0, .ref (zad G 71)), (1, .int x1)] 2 [] := by
  unfold s_X12_askStreets_2b at h
  refine V_iloadn 2 1 O dX12_askStreets_2 rfl rfl ?_
  refine V_aloadn 3 0 O dX12_askStreets_3 rfl rfl ?_
  refine V_getI 4 O k71 fl_X12_309 dX12_askStreets_4 ?_
  refine V_icmp_ge 7 53 O dX12_askStreets_7 rfl h (fun h => ?_) (fun h => ?_)
  · exact V_vret 53 O E dX12_askStreets_53 h
  · refine V_aloadn 10 0 O dX12_askStreets_10 rfl rfl ?_
    refine V_getR 11 O k71 fl_X12_117 rf71_53 dX12_askStreets_11 ?_
    refine V_aloadn 14 0 O dX12_askStreets_14 rfl rfl ?_
    refine V_getR 15 O k71 fl_X12_123 rf71_55 dX12_askStreets_15 ?_
    refine V_iloadn 18 1 O dX12_askStreets_18 rfl rfl ?_
    refine V_iald 19 O k107 dX12_askStreets_19 h (fun h => ?_)
    refine V_aloadn 20 0 O dX12_askStreets_20 rfl rfl ?_
    refine V_aloadn 21 0 O dX12_askStreets_21 rfl rfl ?_
    refine V_getR 22 O k71 fl_X12_38 rf71_12 dX12_askStreets_22 ?_
    refine V_aloadn 25 0 O dX12_askStreets_25 rfl rfl ?_
    refine V_getR 26 O k71 fl_X12_123 rf71_55 dX12_askStreets_26 ?_
    refine V_iloadn 29 1 O dX12_askStreets_29 rfl rfl ?_
    refine V_iald 30 O k107 dX12_askStreets_30 h (fun h => ?_)
    refine V_iald 31 O k81 dX12_askStreets_31 h (fun h => ?_)
    refine V_aloadn 32 0 O dX12_askStreets_32 rfl rfl ?_
    refine V_getR 33 O k71 fl_X12_114 rf71_52 dX12_askStreets_33 ?_
    refine V_aloadn 36 0 O dX12_askStreets_36 rfl rfl ?_
    refine V_getR 37 O k71 fl_X12_123 rf71_55 dX12_askStreets_37 ?_
    refine V_iloadn 40 1 O dX12_askStreets_40 rfl rfl ?_
    refine V_iald 41 O k107 dX12_askStreets_41 h (fun h => ?_)
    refine V_iald 42 O k104 dX12_askStreets_42 h (fun h => ?_)
    obtain ⟨r2, σ1, g, h⟩ := bd_of h
    refine V_callVi 43 [.int (σ 81 (ix (σ 107 (ix x1)))), .int (σ 104 (ix (σ 107 (ix x1))))] [.int (σ 107 (ix x1)), .ref (zad G 105)] O mf_X12_ask lk_X12_325 k71 dX12_askStreets_43 rfl rfl (Nat.le_of_ble_eq_true rfl) ⟨(Nat.le_of_ble_eq_true rfl), (Nat.le_of_ble_eq_true rfl)⟩ (fun l => C_X12_ask  g) ?_
    refine V_iast 46 O k105 dX12_askStreets_46 h (fun σ3 h => ?_)
    refine V_iinc 47 1 [1, 0] [(0, .ref (zad G 71)), (1, .int (x1 + (1 : Int32)))] O dX12_askStreets_47 rfl ci_1 (Nat.le_of_ble_eq_true rfl) rfl ?_
    refine V_goto 50 2 O dX12_askStreets_50 rfl ?_
    exact V_sub [0, 1] rfl (H2 (x1 + (1 : Int32)) σ3  h)
theorem bl_X12_askStreets_2 {G : zG} {x : zX} {τ : Sg} (O : zO G x cX12_askStreets RX12 3 120 2) (E : zE G x none none τ) (n : Nat) : ∀ (k : Nat) (x1 : Int32) (σ : Sg), s_X12_askStreets_2 n k x1 σ = some τ → V G x σ [(0, .ref (zad G 71)), (1, .int x1)] 2 [] := by
  intro k
  induction k with
  | zero => intro x1 σ  h; cases h
  | succ k ih => intro x1 σ  h; exact b_X12_askStreets_2 O E n  (s_X12_askStreets_2 n  k) ih x1 σ  h
set_option maxRecDepth 20000 in
theorem C_X12_askStreets {l : Launch} {G : zG} {n : Nat} {σ : Sg} {τ : Sg} (h : s_X12_askStreets n σ = some τ) : zM l G 3 yX12_askStreets (.code yX12_askStreets cX12_askStreets 2 none) [.ref (zad G 71)] σ none τ := by
  refine zM_of (by decide) (Nat.le_of_ble_eq_true rfl) (fun x O E => ?_)
  have O : zO G x cX12_askStreets RX12 3 120 2 := O
  unfold s_X12_askStreets at h
  show V G x σ [(0, .ref (zad G 71))] 0 []
  refine V_iconst 0 O dX12_askStreets_0 ci_0 ?_
  refine V_istoren 1 [1, 0] [(0, .ref (zad G 71)), (1, .int (0 : Int32))] O dX12_askStreets_1 rfl (Nat.le_of_ble_eq_true rfl) rfl ?_
  exact V_sub [0, 1] rfl (bl_X12_askStreets_2 O E n  n (0 : Int32) σ  h)
-- ==== WaterTownModel.findFlow(I)V
def s_X12_findFlow (n : Nat) (x1 : Int32) (σ : Sg) : Option Sg := bdv (s_X12_findLine n x1 σ) fun σ1 => bdv (s_X12_askLeaks n x1 σ1) fun σ2 => bdv (s_X12_askStreets n σ2) fun σ3 => some σ3
set_option maxRecDepth 20000 in
theorem C_X12_findFlow {l : Launch} {G : zG} {n : Nat} {x1 : Int32} {σ : Sg} {τ : Sg} (h : s_X12_findFlow n x1 σ = some τ) : zM l G 4 yX12_findFlow (.code yX12_findFlow cX12_findFlow 2 none) [.ref (zad G 71), .int x1] σ none τ := by
  refine zM_of (by decide) (Nat.le_of_ble_eq_true rfl) (fun x O E => ?_)
  have O : zO G x cX12_findFlow RX12 4 160 2 := O
  unfold s_X12_findFlow at h
  show V G x σ [(0, .ref (zad G 71)), (1, .int x1)] 0 []
  refine V_aloadn 0 0 O dX12_findFlow_0 rfl rfl ?_
  refine V_iloadn 1 1 O dX12_findFlow_1 rfl rfl ?_
  obtain ⟨σ1, g, h⟩ := bdv_of h
  refine V_callVv 2 [.int x1] [] O mf_X12_findLine lk_X12_328 k71 dX12_findFlow_2 rfl rfl (Nat.le_of_ble_eq_true rfl) ⟨(Nat.le_of_ble_eq_true rfl), (Nat.le_of_ble_eq_true rfl)⟩ (fun l => C_X12_findLine  g) ?_
  refine V_aloadn 5 0 O dX12_findFlow_5 rfl rfl ?_
  refine V_iloadn 6 1 O dX12_findFlow_6 rfl rfl ?_
  obtain ⟨σ2, g, h⟩ := bdv_of h
  refine V_callVv 7 [.int x1] [] O mf_X12_askLeaks lk_X12_331 k71 dX12_findFlow_7 rfl rfl (Nat.le_of_ble_eq_true rfl) ⟨(Nat.le_of_ble_eq_true rfl), (Nat.le_of_ble_eq_true rfl)⟩ (fun l => C_X12_askLeaks  g) ?_
  refine V_aloadn 10 0 O dX12_findFlow_10 rfl rfl ?_
  obtain ⟨σ3, g, h⟩ := bdv_of h
  refine V_callVv 11 [] [] O mf_X12_askStreets lk_X12_334 k71 dX12_findFlow_11 rfl rfl (Nat.le_of_ble_eq_true rfl) ⟨(Nat.le_of_ble_eq_true rfl), (Nat.le_of_ble_eq_true rfl)⟩ (fun l => C_X12_askStreets  g) ?_
  exact V_vret 14 O E dX12_findFlow_14 h
-- ==== WaterTownModel.doHour(IZ)Z
def s_X12_doHour_261 (n : Nat) (rc23 : Int32 → Int32 → Int32 → Int32 → Sg → Option (Int32 × Sg)) (x1 : Int32) (x2 : Int32) (x4 : Int32) (σ : Sg) : Option (Int32 × Sg) := rc23 x1 x2 (0 : Int32) (x4 + (1 : Int32)) σ
def s_X12_doHour_229 (n : Nat) (rc23 : Int32 → Int32 → Int32 → Int32 → Sg → Option (Int32 × Sg)) (x1 : Int32) (x2 : Int32) (x3 : Int32) (x4 : Int32) (x10 : Int32) (y0 : Int32) (y1 : Int32) (y2 : Int32) (σ : Sg) : Option (Int32 × Sg) := bd (s_X12_one n y0 σ) fun r25 σ24 => ck y2 10 (lt (up2 σ24 90 (ix y2) (y1 + r25)) fun σ26 => if x3 = 0 then (if x10 ≤ 0 then (s_X12_doHour_261 n rc23 x1 x2 x4 σ26) else (ck x4 10 (lt (if (σ26 86 (ix x4)) = 0 then if x2 = 0 then (1 : Int32) else (0 : Int32) else (1 : Int32)) fun v30 => rc23 x1 x2 v30 (x4 + (1 : Int32)) σ26))) else (rc23 x1 x2 (1 : Int32) (x4 + (1 : Int32)) σ26))
def s_X12_doHour_155 (n : Nat) (rc23 : Int32 → Int32 → Int32 → Int32 → Sg → Option (Int32 × Sg)) (x1 : Int32) (x2 : Int32) (x3 : Int32) (x4 : Int32) (x5 : Int32) (x6 : Int32) (x7 : Int32) (x9 : Int32) (y0 : Int32) (y1 : Int32) (y2 : Int32) (σ : Sg) : Option (Int32 × Sg) := ck y2 10 (lt (up2 σ 88 (ix y2) (y1 + (y0 - x9))) fun σ16 => lt ((x6 - x7) - x9) fun v17 => ck x4 10 (ck x4 10 (ck x4 10 (lt (up2 σ16 89 (ix x4) ((σ16 89 (ix x4)) + (σ16 105 (ix x4)))) fun σ18 => ck x4 10 (ck x4 10 (lt (up2 σ18 92 (ix x4) ((σ18 92 (ix x4)) + x5)) fun σ19 => ck x4 10 (ck x4 10 (lt (up2 σ19 91 (ix x4) ((σ19 91 (ix x4)) + v17)) fun σ20 => ck x4 10 (lt (if v17 ≤ 0 then (0 : Int32) else (1 : Int32)) fun v23 => s_X12_doHour_229 n rc23 x1 x2 x3 x4 v17 v23 (σ20 90 (ix x4)) x4 σ20)))))))))
def s_X12_doHour_60 (n : Nat) (rc23 : Int32 → Int32 → Int32 → Int32 → Sg → Option (Int32 × Sg)) (x1 : Int32) (x2 : Int32) (x3 : Int32) (x4 : Int32) (y0 : Int32) (y1 : Int32) (σ : Sg) : Option (Int32 × Sg) := bd (s_X12_least n y1 y0 σ) fun r6 σ5 => ck x4 10 (ck x4 10 (lt ((σ5 82 (ix x4)) * (σ5 83 (ix x4))) fun v7 => ck x4 10 (bd (s_X12_least n ((σ5 105 (ix x4)) - r6) v7 σ5) fun r9 σ8 => ck x4 10 (lt (((σ8 105 (ix x4)) - r6) - r9) fun v10 => ck x4 10 (bd (s_X12_least n (σ8 88 (ix x4)) (v7 - r9) σ8) fun r12 σ11 => ck x4 10 (ck x4 10 (lt (if (σ11 86 (ix x4)) = 0 then v10 else (0 : Int32)) fun v15 => s_X12_doHour_155 n rc23 x1 x2 x3 x4 r6 v7 r9 r12 v15 (σ11 88 (ix x4)) x4 σ11)))))))
def s_X12_doHour_23b (n : Nat) (rc23 : Int32 → Int32 → Int32 → Int32 → Sg → Option (Int32 × Sg)) (x1 : Int32) (x2 : Int32) (x3 : Int32) (x4 : Int32) (σ : Sg) : Option (Int32 × Sg) := if (σ 71 11) ≤ x4 then (bck x3 (some (x3, σ))) else (ck x4 10 (bd (s_X12_isWaterOn n x4 x1 σ) fun r4 σ3 => if r4 = 0 then (s_X12_doHour_60 n rc23 x1 x2 x3 x4 (0 : Int32) (σ 105 (ix x4)) σ3) else (ck x4 10 (s_X12_doHour_60 n rc23 x1 x2 x3 x4 (σ3 84 (ix x4)) (σ 105 (ix x4)) σ3))))
def s_X12_doHour_23 (n : Nat) : Nat → Int32 → Int32 → Int32 → Int32 → Sg → Option (Int32 × Sg)
  | 0 => fun _ _ _ _ _ => none
  | k + 1 => s_X12_doHour_23b n (s_X12_doHour_23 n k)
def s_X12_doHour (n : Nat) (x1 : Int32) (x2 : Int32) (σ : Sg) : Option (Int32 × Sg) := bdv (s_X12_findFlow n x1 σ) fun σ1 => lt (up2 σ1 71 25 ((σ1 71 25) + (σ1 71 57))) fun σ2 => s_X12_doHour_23 n n x1 x2 (0 : Int32) (0 : Int32) σ2
set_option maxRecDepth 20000 in
theorem b_X12_doHour_261 {G : zG} {x : zX} {r : Int32} {τ : Sg} (O : zO G x cX12_doHour RX12 5 200 11) (E : zE G x (some (.boolean)) (some (.int r)) τ) (n : Nat) (rc23 : Int32 → Int32 → Int32 → Int32 → Sg → Option (Int32 × Sg)) (H23 : ∀ (x1 : Int32) (x2 : Int32) (x3 : Int32) (x4 : Int32) (σ : Sg), rc23 x1 x2 x3 x4 σ = some (r, τ) → V G x σ [(0, .ref (zad G 71)), (1, .int x1), (2, .int x2), (3, .int x3), (4, .int x4)] 23 []) (x1 : Int32) (x2 : Int32) (x4 : Int32) (σ : Sg) (h : s_X12_doHour_261 n rc23 x1 x2 x4 σ = some (r, τ)) : V G x σ [(0, .ref (zad G 71)), (1, .int x1), (2, .int x2), (4, .int x4)] 261 [] := by
  unfold s_X12_doHour_261 at h
  refine V_iconst 261 O dX12_doHour_261 ci_0 ?_
  refine V_istoren 262 [1, 2, 3, 0, 4] [(0, .ref (zad G 71)), (1, .int x1), (2, .int x2), (3, .int (0 : Int32)), (4, .int x4)] O dX12_doHour_262 rfl (Nat.le_of_ble_eq_true rfl) rfl ?_
  refine V_iinc 263 4 [1, 2, 3, 4, 0] [(0, .ref (zad G 71)), (1, .int x1), (2, .int x2), (3, .int (0 : Int32)), (4, .int (x4 + (1 : Int32)))] O dX12_doHour_263 rfl ci_1 (Nat.le_of_ble_eq_true rfl) rfl ?_
  refine V_goto 266 23 O dX12_doHour_266 rfl ?_
  exact V_sub [0, 1, 2, 3, 4] rfl (H23 x1 x2 (0 : Int32) (x4 + (1 : Int32)) σ  h)
set_option maxRecDepth 20000 in
theorem b_X12_doHour_229 {G : zG} {x : zX} {r : Int32} {τ : Sg} (O : zO G x cX12_doHour RX12 5 200 11) (E : zE G x (some (.boolean)) (some (.int r)) τ) (n : Nat) (rc23 : Int32 → Int32 → Int32 → Int32 → Sg → Option (Int32 × Sg)) (H23 : ∀ (x1 : Int32) (x2 : Int32) (x3 : Int32) (x4 : Int32) (σ : Sg), rc23 x1 x2 x3 x4 σ = some (r, τ) → V G x σ [(0, .ref (zad G 71)), (1, .int x1), (2, .int x2), (3, .int x3), (4, .int x4)] 23 []) (x1 : Int32) (x2 : Int32) (x3 : Int32) (x4 : Int32) (x10 : Int32) (y0 : Int32) (y1 : Int32) (y2 : Int32) (σ : Sg) (h : s_X12_doHour_229 n rc23 x1 x2 x3 x4 x10 y0 y1 y2 σ = some (r, τ)) : V G x σ [(0, .ref (zad G 71)), (1, .int x1), (2, .int x2), (3, .int x3), (4, .int x4), (10, .int x10)] 229 [.int y0, .int y1, .int y2, .ref (zad G 90)] := by
  unfold s_X12_doHour_229 at h
  obtain ⟨r25, σ24, g, h⟩ := bd_of h
  refine V_callSi 229 [.int y0] [.int y1, .int y2, .ref (zad G 90)] O mf_X12_one lk_X12_185 dX12_doHour_229 rfl rfl (Nat.le_of_ble_eq_true rfl) ⟨(Nat.le_of_ble_eq_true rfl), (Nat.le_of_ble_eq_true rfl)⟩ (fun l => C_X12_one  g) ?_
  refine V_iadd 232 O dX12_doHour_232 ?_
  refine V_iast 233 O k90 dX12_doHour_233 h (fun σ26 h => ?_)
  refine V_iloadn 234 3 O dX12_doHour_234 rfl rfl ?_
  refine V_if_ne 235 257 O dX12_doHour_235 rfl h (fun h => ?_) (fun h => ?_)
  · refine V_iconst 257 O dX12_doHour_257 ci_1 ?_
    refine V_goto 258 262 O dX12_doHour_258 rfl ?_
    refine V_istoren 262 [1, 2, 3, 0, 4, 5] [(0, .ref (zad G 71)), (1, .int x1), (2, .int x2), (3, .int (1 : Int32)), (4, .int x4), (10, .int x10)] O dX12_doHour_262 rfl (Nat.le_of_ble_eq_true rfl) rfl ?_
    refine V_iinc 263 4 [1, 2, 3, 4, 0, 5] [(0, .ref (zad G 71)), (1, .int x1), (2, .int x2), (3, .int (1 : Int32)), (4, .int (x4 + (1 : Int32))), (10, .int x10)] O dX12_doHour_263 rfl ci_1 (Nat.le_of_ble_eq_true rfl) rfl ?_
    refine V_goto 266 23 O dX12_doHour_266 rfl ?_
    exact V_sub [0, 1, 2, 3, 4] rfl (H23 x1 x2 (1 : Int32) (x4 + (1 : Int32)) σ26  h)
  · refine V_iload 238 5 O dX12_doHour_238 rfl ?_
    refine V_if_le 240 261 O dX12_doHour_240 rfl h (fun h => ?_) (fun h => ?_)
    · exact V_sub [0, 1, 2, 4] rfl (b_X12_doHour_261 O E n rc23 H23 x1 x2 x4 σ26  h)
    · refine V_aloadn 243 0 O dX12_doHour_243 rfl rfl ?_
      refine V_getR 244 O k71 fl_X12_53 rf71_17 dX12_doHour_244 ?_
      refine V_iload 247 4 O dX12_doHour_247 rfl ?_
      refine V_zald 249 O k86 dX12_doHour_249 h (fun h => ?_)
      have J27 : V G x σ26 [(0, .ref (zad G 71)), (1, .int x1), (2, .int x2), (3, .int x3), (4, .int x4), (10, .int x10)] 262 [.int (if (σ26 86 (ix x4)) = 0 then if x2 = 0 then (1 : Int32) else (0 : Int32) else (1 : Int32))] := by
        refine V_topi h (fun v30 h => ?_)
        refine V_istoren 262 [1, 2, 3, 0, 4, 5] [(0, .ref (zad G 71)), (1, .int x1), (2, .int x2), (3, .int v30), (4, .int x4), (10, .int x10)] O dX12_doHour_262 rfl (Nat.le_of_ble_eq_true rfl) rfl ?_
        refine V_iinc 263 4 [1, 2, 3, 4, 0, 5] [(0, .ref (zad G 71)), (1, .int x1), (2, .int x2), (3, .int v30), (4, .int (x4 + (1 : Int32))), (10, .int x10)] O dX12_doHour_263 rfl ci_1 (Nat.le_of_ble_eq_true rfl) rfl ?_
        refine V_goto 266 23 O dX12_doHour_266 rfl ?_
        exact V_sub [0, 1, 2, 3, 4] rfl (H23 x1 x2 v30 (x4 + (1 : Int32)) σ26  h)
      refine V_if_nec 250 257 O dX12_doHour_250 rfl (fun c28 => ?_) (fun c28 => ?_)
      · refine V_iconst 257 O dX12_doHour_257 ci_1 ?_
        refine V_goto 258 262 O dX12_doHour_258 rfl ?_
        exact V_top (by rw [if_neg c28]) J27
      · refine V_iloadn 253 2 O dX12_doHour_253 rfl rfl ?_
        refine V_if_nec 254 261 O dX12_doHour_254 rfl (fun c29 => ?_) (fun c29 => ?_)
        · refine V_iconst 261 O dX12_doHour_261 ci_0 ?_
          exact V_top (by rw [if_pos c28, if_neg c29]) J27
        · refine V_iconst 257 O dX12_doHour_257 ci_1 ?_
          refine V_goto 258 262 O dX12_doHour_258 rfl ?_
          exact V_top (by rw [if_pos c28, if_pos c29]) J27
set_option maxRecDepth 20000 in
theorem b_X12_doHour_155 {G : zG} {x : zX} {r : Int32} {τ : Sg} (O : zO G x cX12_doHour RX12 5 200 11) (E : zE G x (some (.boolean)) (some (.int r)) τ) (n : Nat) (rc23 : Int32 → Int32 → Int32 → Int32 → Sg → Option (Int32 × Sg)) (H23 : ∀ (x1 : Int32) (x2 : Int32) (x3 : Int32) (x4 : Int32) (σ : Sg), rc23 x1 x2 x3 x4 σ = some (r, τ) → V G x σ [(0, .ref (zad G 71)), (1, .int x1), (2, .int x2), (3, .int x3), (4, .int x4)] 23 []) (x1 : Int32) (x2 : Int32) (x3 : Int32) (x4 : Int32) (x5 : Int32) (x6 : Int32) (x7 : Int32) (x9 : Int32) (y0 : Int32) (y1 : Int32) (y2 : Int32) (σ : Sg) (h : s_X12_doHour_155 n rc23 x1 x2 x3 x4 x5 x6 x7 x9 y0 y1 y2 σ = some (r, τ)) : V G x σ [(0, .ref (zad G 71)), (1, .int x1), (2, .int x2), (3, .int x3), (4, .int x4), (5, .int x5), (6, .int x6), (7, .int x7), (9, .int x9)] 155 [.int y0, .int y1, .int y2, .ref (zad G 88)] := by
  unfold s_X12_doHour_155 at h
  refine V_iload 155 8 O dX12_doHour_155 rfl ?_
  refine V_isub 157 O dX12_doHour_157 ?_
  refine V_iadd 158 O dX12_doHour_158 ?_
  refine V_iast 159 O k88 dX12_doHour_159 h (fun σ16 h => ?_)
  refine V_iload 160 6 O dX12_doHour_160 rfl ?_
  refine V_iload 162 7 O dX12_doHour_162 rfl ?_
  refine V_isub 164 O dX12_doHour_164 ?_
  refine V_iload 165 8 O dX12_doHour_165 rfl ?_
  refine V_isub 167 O dX12_doHour_167 ?_
  refine V_topi h (fun v17 h => ?_)
  refine V_istore 168 [1, 2, 3, 4, 5, 6, 7, 8, 9, 0] [(0, .ref (zad G 71)), (1, .int x1), (2, .int x2), (3, .int x3), (4, .int x4), (5, .int x5), (6, .int x6), (7, .int x7), (9, .int x9), (10, .int v17)] O dX12_doHour_168 (Nat.le_of_ble_eq_true rfl) rfl ?_
  refine V_aloadn 170 0 O dX12_doHour_170 rfl rfl ?_
  refine V_getR 171 O k71 fl_X12_62 rf71_20 dX12_doHour_171 ?_
  refine V_iload 174 4 O dX12_doHour_174 rfl ?_
  refine V_dup2 176 O dX12_doHour_176 rfl rfl ?_
  refine V_iald 177 O k89 dX12_doHour_177 h (fun h => ?_)
  refine V_aloadn 178 0 O dX12_doHour_178 rfl rfl ?_
  refine V_getR 179 O k71 fl_X12_117 rf71_53 dX12_doHour_179 ?_
  refine V_iload 182 4 O dX12_doHour_182 rfl ?_
  refine V_iald 184 O k105 dX12_doHour_184 h (fun h => ?_)
  refine V_iadd 185 O dX12_doHour_185 ?_
  refine V_iast 186 O k89 dX12_doHour_186 h (fun σ18 h => ?_)
  refine V_aloadn 187 0 O dX12_doHour_187 rfl rfl ?_
  refine V_getR 188 O k71 fl_X12_71 rf71_23 dX12_doHour_188 ?_
  refine V_iload 191 4 O dX12_doHour_191 rfl ?_
  refine V_dup2 193 O dX12_doHour_193 rfl rfl ?_
  refine V_iald 194 O k92 dX12_doHour_194 h (fun h => ?_)
  refine V_iload 195 5 O dX12_doHour_195 rfl ?_
  refine V_iadd 197 O dX12_doHour_197 ?_
  refine V_iast 198 O k92 dX12_doHour_198 h (fun σ19 h => ?_)
  refine V_aloadn 199 0 O dX12_doHour_199 rfl rfl ?_
  refine V_getR 200 O k71 fl_X12_68 rf71_22 dX12_doHour_200 ?_
  refine V_iload 203 4 O dX12_doHour_203 rfl ?_
  refine V_dup2 205 O dX12_doHour_205 rfl rfl ?_
  refine V_iald 206 O k91 dX12_doHour_206 h (fun h => ?_)
  refine V_iload 207 9 O dX12_doHour_207 rfl ?_
  refine V_iadd 209 O dX12_doHour_209 ?_
  refine V_iast 210 O k91 dX12_doHour_210 h (fun σ20 h => ?_)
  refine V_aloadn 211 0 O dX12_doHour_211 rfl rfl ?_
  refine V_getR 212 O k71 fl_X12_65 rf71_21 dX12_doHour_212 ?_
  refine V_iload 215 4 O dX12_doHour_215 rfl ?_
  refine V_dup2 217 O dX12_doHour_217 rfl rfl ?_
  refine V_iald 218 O k90 dX12_doHour_218 h (fun h => ?_)
  refine V_iload 219 9 O dX12_doHour_219 rfl ?_
  have J21 : V G x σ20 [(0, .ref (zad G 71)), (1, .int x1), (2, .int x2), (3, .int x3), (4, .int x4), (5, .int x5), (6, .int x6), (7, .int x7), (9, .int x9), (10, .int v17)] 229 [.int (if v17 ≤ 0 then (0 : Int32) else (1 : Int32)), .int (σ20 90 (ix x4)), .int x4, .ref (zad G 90)] := by
    refine V_topi h (fun v23 h => ?_)
    exact V_sub [0, 1, 2, 3, 4, 9] rfl (b_X12_doHour_229 O E n rc23 H23 x1 x2 x3 x4 v17 v23 (σ20 90 (ix x4)) x4 σ20  h)
  refine V_if_lec 221 228 O dX12_doHour_221 rfl (fun c22 => ?_) (fun c22 => ?_)
  · refine V_iconst 228 O dX12_doHour_228 ci_0 ?_
    exact V_top (by rw [if_pos c22]) J21
  · refine V_iconst 224 O dX12_doHour_224 ci_1 ?_
    refine V_goto 225 229 O dX12_doHour_225 rfl ?_
    exact V_top (by rw [if_neg c22]) J21
set_option maxRecDepth 20000 in
theorem b_X12_doHour_60 {G : zG} {x : zX} {r : Int32} {τ : Sg} (O : zO G x cX12_doHour RX12 5 200 11) (E : zE G x (some (.boolean)) (some (.int r)) τ) (n : Nat) (rc23 : Int32 → Int32 → Int32 → Int32 → Sg → Option (Int32 × Sg)) (H23 : ∀ (x1 : Int32) (x2 : Int32) (x3 : Int32) (x4 : Int32) (σ : Sg), rc23 x1 x2 x3 x4 σ = some (r, τ) → V G x σ [(0, .ref (zad G 71)), (1, .int x1), (2, .int x2), (3, .int x3), (4, .int x4)] 23 []) (x1 : Int32) (x2 : Int32) (x3 : Int32) (x4 : Int32) (y0 : Int32) (y1 : Int32) (σ : Sg) (h : s_X12_doHour_60 n rc23 x1 x2 x3 x4 y0 y1 σ = some (r, τ)) : V G x σ [(0, .ref (zad G 71)), (1, .int x1), (2, .int x2), (3, .int x3), (4, .int x4)] 60 [.int y0, .int y1] := by
  unfold s_X12_doHour_60 at h
  obtain ⟨r6, σ5, g, h⟩ := bd_of h
  refine V_callSi 60 [.int y1, .int y0] [] O mf_X12_least lk_X12_299 dX12_doHour_60 rfl rfl (Nat.le_of_ble_eq_true rfl) ⟨(Nat.le_of_ble_eq_true rfl), (Nat.le_of_ble_eq_true rfl)⟩ (fun l => C_X12_least  g) ?_
  refine V_istore 63 [1, 2, 3, 4, 5, 0] [(0, .ref (zad G 71)), (1, .int x1), (2, .int x2), (3, .int x3), (4, .int x4), (5, .int r6)] O dX12_doHour_63 (Nat.le_of_ble_eq_true rfl) rfl ?_
  refine V_aloadn 65 0 O dX12_doHour_65 rfl rfl ?_
  refine V_getR 66 O k71 fl_X12_41 rf71_13 dX12_doHour_66 ?_
  refine V_iload 69 4 O dX12_doHour_69 rfl ?_
  refine V_iald 71 O k82 dX12_doHour_71 h (fun h => ?_)
  refine V_aloadn 72 0 O dX12_doHour_72 rfl rfl ?_
  refine V_getR 73 O k71 fl_X12_44 rf71_14 dX12_doHour_73 ?_
  refine V_iload 76 4 O dX12_doHour_76 rfl ?_
  refine V_iald 78 O k83 dX12_doHour_78 h (fun h => ?_)
  refine V_imul 79 O dX12_doHour_79 ?_
  refine V_topi h (fun v7 h => ?_)
  refine V_istore 80 [1, 2, 3, 4, 5, 6, 0] [(0, .ref (zad G 71)), (1, .int x1), (2, .int x2), (3, .int x3), (4, .int x4), (5, .int r6), (6, .int v7)] O dX12_doHour_80 (Nat.le_of_ble_eq_true rfl) rfl ?_
  refine V_aloadn 82 0 O dX12_doHour_82 rfl rfl ?_
  refine V_getR 83 O k71 fl_X12_117 rf71_53 dX12_doHour_83 ?_
  refine V_iload 86 4 O dX12_doHour_86 rfl ?_
  refine V_iald 88 O k105 dX12_doHour_88 h (fun h => ?_)
  refine V_iload 89 5 O dX12_doHour_89 rfl ?_
  refine V_isub 91 O dX12_doHour_91 ?_
  refine V_iload 92 6 O dX12_doHour_92 rfl ?_
  obtain ⟨r9, σ8, g, h⟩ := bd_of h
  refine V_callSi 94 [.int ((σ5 105 (ix x4)) - r6), .int v7] [] O mf_X12_least lk_X12_299 dX12_doHour_94 rfl rfl (Nat.le_of_ble_eq_true rfl) ⟨(Nat.le_of_ble_eq_true rfl), (Nat.le_of_ble_eq_true rfl)⟩ (fun l => C_X12_least  g) ?_
  refine V_istore 97 [1, 2, 3, 4, 5, 6, 7, 0] [(0, .ref (zad G 71)), (1, .int x1), (2, .int x2), (3, .int x3), (4, .int x4), (5, .int r6), (6, .int v7), (7, .int r9)] O dX12_doHour_97 (Nat.le_of_ble_eq_true rfl) rfl ?_
  refine V_aloadn 99 0 O dX12_doHour_99 rfl rfl ?_
  refine V_getR 100 O k71 fl_X12_117 rf71_53 dX12_doHour_100 ?_
  refine V_iload 103 4 O dX12_doHour_103 rfl ?_
  refine V_iald 105 O k105 dX12_doHour_105 h (fun h => ?_)
  refine V_iload 106 5 O dX12_doHour_106 rfl ?_
  refine V_isub 108 O dX12_doHour_108 ?_
  refine V_iload 109 7 O dX12_doHour_109 rfl ?_
  refine V_isub 111 O dX12_doHour_111 ?_
  refine V_topi h (fun v10 h => ?_)
  refine V_istore 112 [1, 2, 3, 4, 5, 6, 7, 8, 0] [(0, .ref (zad G 71)), (1, .int x1), (2, .int x2), (3, .int x3), (4, .int x4), (5, .int r6), (6, .int v7), (7, .int r9), (8, .int v10)] O dX12_doHour_112 (Nat.le_of_ble_eq_true rfl) rfl ?_
  refine V_aloadn 114 0 O dX12_doHour_114 rfl rfl ?_
  refine V_getR 115 O k71 fl_X12_59 rf71_19 dX12_doHour_115 ?_
  refine V_iload 118 4 O dX12_doHour_118 rfl ?_
  refine V_iald 120 O k88 dX12_doHour_120 h (fun h => ?_)
  refine V_iload 121 6 O dX12_doHour_121 rfl ?_
  refine V_iload 123 7 O dX12_doHour_123 rfl ?_
  refine V_isub 125 O dX12_doHour_125 ?_
  obtain ⟨r12, σ11, g, h⟩ := bd_of h
  refine V_callSi 126 [.int (σ8 88 (ix x4)), .int (v7 - r9)] [] O mf_X12_least lk_X12_299 dX12_doHour_126 rfl rfl (Nat.le_of_ble_eq_true rfl) ⟨(Nat.le_of_ble_eq_true rfl), (Nat.le_of_ble_eq_true rfl)⟩ (fun l => C_X12_least  g) ?_
  refine V_istore 129 [1, 2, 3, 4, 5, 6, 7, 8, 9, 0] [(0, .ref (zad G 71)), (1, .int x1), (2, .int x2), (3, .int x3), (4, .int x4), (5, .int r6), (6, .int v7), (7, .int r9), (8, .int v10), (9, .int r12)] O dX12_doHour_129 (Nat.le_of_ble_eq_true rfl) rfl ?_
  refine V_aloadn 131 0 O dX12_doHour_131 rfl rfl ?_
  refine V_getR 132 O k71 fl_X12_59 rf71_19 dX12_doHour_132 ?_
  refine V_iload 135 4 O dX12_doHour_135 rfl ?_
  refine V_dup2 137 O dX12_doHour_137 rfl rfl ?_
  refine V_iald 138 O k88 dX12_doHour_138 h (fun h => ?_)
  refine V_aloadn 139 0 O dX12_doHour_139 rfl rfl ?_
  refine V_getR 140 O k71 fl_X12_53 rf71_17 dX12_doHour_140 ?_
  refine V_iload 143 4 O dX12_doHour_143 rfl ?_
  refine V_zald 145 O k86 dX12_doHour_145 h (fun h => ?_)
  have J13 : V G x σ11 [(0, .ref (zad G 71)), (1, .int x1), (2, .int x2), (3, .int x3), (4, .int x4), (5, .int r6), (6, .int v7), (7, .int r9), (8, .int v10), (9, .int r12)] 155 [.int (if (σ11 86 (ix x4)) = 0 then v10 else (0 : Int32)), .int (σ11 88 (ix x4)), .int x4, .ref (zad G 88)] := by
    refine V_topi h (fun v15 h => ?_)
    exact V_sub [0, 1, 2, 3, 4, 5, 6, 7, 9] rfl (b_X12_doHour_155 O E n rc23 H23 x1 x2 x3 x4 r6 v7 r9 r12 v15 (σ11 88 (ix x4)) x4 σ11  h)
  refine V_if_eqc 146 153 O dX12_doHour_146 rfl (fun c14 => ?_) (fun c14 => ?_)
  · refine V_iload 153 8 O dX12_doHour_153 rfl ?_
    exact V_top (by rw [if_pos c14]) J13
  · refine V_iconst 149 O dX12_doHour_149 ci_0 ?_
    refine V_goto 150 155 O dX12_doHour_150 rfl ?_
    exact V_top (by rw [if_neg c14]) J13
set_option maxRecDepth 20000 in
theorem b_X12_doHour_23 {G : zG} {x : zX} {r : Int32} {τ : Sg} (O : zO G x cX12_doHour RX12 5 200 11) (E : zE G x (some (.boolean)) (some (.int r)) τ) (n : Nat) (rc23 : Int32 → Int32 → Int32 → Int32 → Sg → Option (Int32 × Sg)) (H23 : ∀ (x1 : Int32) (x2 : Int32) (x3 : Int32) (x4 : Int32) (σ : Sg), rc23 x1 x2 x3 x4 σ = some (r, τ) → V G x σ [(0, .ref (zad G 71)), (1, .int x1), (2, .int x2), (3, .int x3), (4, .int x4)] 23 []) (x1 : Int32) (x2 : Int32) (x3 : Int32) (x4 : Int32) (σ : Sg) (h : s_X12_doHour_23b n rc23 x1 x2 x3 x4 σ = some (r, τ)) : V G x σ [(0, .ref (zad G 71)), (1, .int x1), (2, .int x2), (3, .int x3), (4, .int x4)] 23 [] := by
  unfold s_X12_doHour_23b at h
  refine V_iload 23 4 O dX12_doHour_23 rfl ?_
  refine V_aloadn 25 0 O dX12_doHour_25 rfl rfl ?_
  refine V_getI 26 O k71 fl_X12_171 dX12_doHour_26 ?_
  refine V_icmp_ge 29 269 O dX12_doHour_29 rfl h (fun h => ?_) (fun h => ?_)
  · refine V_iloadn 269 3 O dX12_doHour_269 rfl rfl ?_
    exact V_zret 270 O E dX12_doHour_270 h
  · refine V_aloadn 32 0 O dX12_doHour_32 rfl rfl ?_
    refine V_getR 33 O k71 fl_X12_117 rf71_53 dX12_doHour_33 ?_
    refine V_iload 36 4 O dX12_doHour_36 rfl ?_
    refine V_iald 38 O k105 dX12_doHour_38 h (fun h => ?_)
    refine V_aloadn 39 0 O dX12_doHour_39 rfl rfl ?_
    refine V_iload 40 4 O dX12_doHour_40 rfl ?_
    refine V_iloadn 42 1 O dX12_doHour_42 rfl rfl ?_
    obtain ⟨r4, σ3, g, h⟩ := bd_of h
    refine V_callVi 43 [.int x4, .int x1] [.int (σ 105 (ix x4))] O mf_X12_isWaterOn lk_X12_312 k71 dX12_doHour_43 rfl rfl (Nat.le_of_ble_eq_true rfl) ⟨(Nat.le_of_ble_eq_true rfl), (Nat.le_of_ble_eq_true rfl)⟩ (fun l => C_X12_isWaterOn  g) ?_
    refine V_if_eq 46 59 O dX12_doHour_46 rfl h (fun h => ?_) (fun h => ?_)
    · refine V_iconst 59 O dX12_doHour_59 ci_0 ?_
      exact V_sub [0, 1, 2, 3, 4] rfl (b_X12_doHour_60 O E n rc23 H23 x1 x2 x3 x4 (0 : Int32) (σ 105 (ix x4)) σ3  h)
    · refine V_aloadn 49 0 O dX12_doHour_49 rfl rfl ?_
      refine V_getR 50 O k71 fl_X12_47 rf71_15 dX12_doHour_50 ?_
      refine V_iload 53 4 O dX12_doHour_53 rfl ?_
      refine V_iald 55 O k84 dX12_doHour_55 h (fun h => ?_)
      refine V_goto 56 60 O dX12_doHour_56 rfl ?_
      exact V_sub [0, 1, 2, 3, 4] rfl (b_X12_doHour_60 O E n rc23 H23 x1 x2 x3 x4 (σ3 84 (ix x4)) (σ 105 (ix x4)) σ3  h)
theorem bl_X12_doHour_23 {G : zG} {x : zX} {r : Int32} {τ : Sg} (O : zO G x cX12_doHour RX12 5 200 11) (E : zE G x (some (.boolean)) (some (.int r)) τ) (n : Nat) : ∀ (k : Nat) (x1 : Int32) (x2 : Int32) (x3 : Int32) (x4 : Int32) (σ : Sg), s_X12_doHour_23 n k x1 x2 x3 x4 σ = some (r, τ) → V G x σ [(0, .ref (zad G 71)), (1, .int x1), (2, .int x2), (3, .int x3), (4, .int x4)] 23 [] := by
  intro k
  induction k with
  | zero => intro x1 x2 x3 x4 σ  h; cases h
  | succ k ih => intro x1 x2 x3 x4 σ  h; exact b_X12_doHour_23 O E n  (s_X12_doHour_23 n  k) ih x1 x2 x3 x4 σ  h
set_option maxRecDepth 20000 in
theorem C_X12_doHour {l : Launch} {G : zG} {n : Nat} {x1 : Int32} {x2 : Int32} {σ : Sg} {r : Int32} {τ : Sg} (h : s_X12_doHour n x1 x2 σ = some (r, τ)) : zM l G 5 yX12_doHour (.code yX12_doHour cX12_doHour 11 (some (.boolean))) [.ref (zad G 71), .int x1, .int x2] σ (some (.int r)) τ := by
  refine zM_of (by decide) (Nat.le_of_ble_eq_true rfl) (fun x O E => ?_)
  have O : zO G x cX12_doHour RX12 5 200 11 := O
  unfold s_X12_doHour at h
  show V G x σ [(0, .ref (zad G 71)), (1, .int x1), (2, .int x2)] 0 []
  refine V_aloadn 0 0 O dX12_doHour_0 rfl rfl ?_
  refine V_iloadn 1 1 O dX12_doHour_1 rfl rfl ?_
  obtain ⟨σ1, g, h⟩ := bdv_of h
  refine V_callVv 2 [.int x1] [] O mf_X12_findFlow lk_X12_337 k71 dX12_doHour_2 rfl rfl (Nat.le_of_ble_eq_true rfl) ⟨(Nat.le_of_ble_eq_true rfl), (Nat.le_of_ble_eq_true rfl)⟩ (fun l => C_X12_findFlow  g) ?_
  refine V_aloadn 5 0 O dX12_doHour_5 rfl rfl ?_
  refine V_dup 6 O dX12_doHour_6 rfl ?_
  refine V_getI 7 O k71 fl_X12_340 dX12_doHour_7 ?_
  refine V_aloadn 10 0 O dX12_doHour_10 rfl rfl ?_
  refine V_getI 11 O k71 fl_X12_322 dX12_doHour_11 ?_
  refine V_iadd 14 O dX12_doHour_14 ?_
  refine V_put 15 O k71 fp_X12_340 dX12_doHour_15 h (fun σ2 h => ?_)
  refine V_iconst 18 O dX12_doHour_18 ci_0 ?_
  refine V_istoren 19 [1, 2, 3, 0] [(0, .ref (zad G 71)), (1, .int x1), (2, .int x2), (3, .int (0 : Int32))] O dX12_doHour_19 rfl (Nat.le_of_ble_eq_true rfl) rfl ?_
  refine V_iconst 20 O dX12_doHour_20 ci_0 ?_
  refine V_istore 21 [1, 2, 3, 4, 0] [(0, .ref (zad G 71)), (1, .int x1), (2, .int x2), (3, .int (0 : Int32)), (4, .int (0 : Int32))] O dX12_doHour_21 (Nat.le_of_ble_eq_true rfl) rfl ?_
  exact V_sub [0, 1, 2, 3, 4] rfl (bl_X12_doHour_23 O E n  n x1 x2 (0 : Int32) (0 : Int32) σ2  h)
-- ==== WaterTownModel.go(I)I
def s_X12_go_36b (n : Nat) (rc36 : Int32 → Int32 → Int32 → Sg → Option (Int32 × Sg)) (x1 : Int32) (x2 : Int32) (x3 : Int32) (σ : Sg) : Option (Int32 × Sg) := if x1 ≤ x3 then (lt (up2 σ 71 24 ((σ 71 24) + x2)) fun σ3 => some (x2, σ3)) else (bdv (s_X12_findRules n ((σ 71 0) / (24 : Int32)) σ) fun σ4 => bd (s_X12_doHour n (irm (σ4 71 0) (24 : Int32)) (0 : Int32) σ4) fun r6 σ5 => bd (s_X12_one n r6 σ5) fun r8 σ7 => lt (x2 + r8) fun v9 => lt (up2 σ7 71 0 ((σ7 71 0) + (1 : Int32))) fun σ10 => rc36 x1 v9 (x3 + (1 : Int32)) σ10)
def s_X12_go_36 (n : Nat) : Nat → Int32 → Int32 → Int32 → Sg → Option (Int32 × Sg)
  | 0 => fun _ _ _ _ => none
  | k + 1 => s_X12_go_36b n (s_X12_go_36 n k)
def s_X12_go (n : Nat) (x1 : Int32) (σ : Sg) : Option (Int32 × Sg) := bd (s_X12_in n x1.toInt64 (0 : Int64) (200 : Int64) σ) fun r2 σ1 => if r2 = 0 then (some ((-1002 : Int32), σ1)) else (if ((σ1 71 0) + x1) ≤ (4800 : Int32) then (s_X12_go_36 n n x1 (0 : Int32) (0 : Int32) σ1) else (some ((-1003 : Int32), σ1)))
set_option maxRecDepth 20000 in
theorem b_X12_go_36 {G : zG} {x : zX} {r : Int32} {τ : Sg} (O : zO G x cX12_go RX12 6 240 4) (E : zE G x (some (.int)) (some (.int r)) τ) (n : Nat) (rc36 : Int32 → Int32 → Int32 → Sg → Option (Int32 × Sg)) (H36 : ∀ (x1 : Int32) (x2 : Int32) (x3 : Int32) (σ : Sg), rc36 x1 x2 x3 σ = some (r, τ) → V G x σ [(0, .ref (zad G 71)), (1, .int x1), (2, .int x2), (3, .int x3)] 36 []) (x1 : Int32) (x2 : Int32) (x3 : Int32) (σ : Sg) (h : s_X12_go_36b n rc36 x1 x2 x3 σ = some (r, τ)) : V G x σ [(0, .ref (zad G 71)), (1, .int x1), (2, .int x2), (3, .int x3)] 36 [] := by
  unfold s_X12_go_36b at h
  refine V_iloadn 36 3 O dX12_go_36 rfl rfl ?_
  refine V_iloadn 37 1 O dX12_go_37 rfl rfl ?_
  refine V_icmp_ge 38 86 O dX12_go_38 rfl h (fun h => ?_) (fun h => ?_)
  · refine V_aloadn 86 0 O dX12_go_86 rfl rfl ?_
    refine V_dup 87 O dX12_go_87 rfl ?_
    refine V_getI 88 O k71 fl_X12_349 dX12_go_88 ?_
    refine V_iloadn 91 2 O dX12_go_91 rfl rfl ?_
    refine V_iadd 92 O dX12_go_92 ?_
    refine V_put 93 O k71 fp_X12_349 dX12_go_93 h (fun σ3 h => ?_)
    refine V_iloadn 96 2 O dX12_go_96 rfl rfl ?_
    exact V_iret 97 O E dX12_go_97 h
  · refine V_aloadn 41 0 O dX12_go_41 rfl rfl ?_
    refine V_aloadn 42 0 O dX12_go_42 rfl rfl ?_
    refine V_getI 43 O k71 fl_X12_286 dX12_go_43 ?_
    refine V_bipush 46 O dX12_go_46 cb_24 ?_
    refine V_idivC 48 O dX12_go_48 (by decide) ?_
    obtain ⟨σ4, g, h⟩ := bdv_of h
    refine V_callVv 49 [.int ((σ 71 0) / (24 : Int32))] [] O mf_X12_findRules lk_X12_283 k71 dX12_go_49 rfl rfl (Nat.le_of_ble_eq_true rfl) ⟨(Nat.le_of_ble_eq_true rfl), (Nat.le_of_ble_eq_true rfl)⟩ (fun l => C_X12_findRules  g) ?_
    refine V_iloadn 52 2 O dX12_go_52 rfl rfl ?_
    refine V_aloadn 53 0 O dX12_go_53 rfl rfl ?_
    refine V_aloadn 54 0 O dX12_go_54 rfl rfl ?_
    refine V_getI 55 O k71 fl_X12_286 dX12_go_55 ?_
    refine V_bipush 58 O dX12_go_58 cb_24 ?_
    refine V_iremC 60 O dX12_go_60 (by decide) ?_
    refine V_iconst 61 O dX12_go_61 ci_0 ?_
    obtain ⟨r6, σ5, g, h⟩ := bd_of h
    refine V_callVi 62 [.int (irm (σ4 71 0) (24 : Int32)), .int (0 : Int32)] [.int x2] O mf_X12_doHour lk_X12_345 k71 dX12_go_62 rfl rfl (Nat.le_of_ble_eq_true rfl) ⟨(Nat.le_of_ble_eq_true rfl), (Nat.le_of_ble_eq_true rfl)⟩ (fun l => C_X12_doHour  g) ?_
    obtain ⟨r8, σ7, g, h⟩ := bd_of h
    refine V_callSi 65 [.int r6] [.int x2] O mf_X12_one lk_X12_185 dX12_go_65 rfl rfl (Nat.le_of_ble_eq_true rfl) ⟨(Nat.le_of_ble_eq_true rfl), (Nat.le_of_ble_eq_true rfl)⟩ (fun l => C_X12_one  g) ?_
    refine V_iadd 68 O dX12_go_68 ?_
    refine V_topi h (fun v9 h => ?_)
    refine V_istoren 69 [1, 2, 0, 3] [(0, .ref (zad G 71)), (1, .int x1), (2, .int v9), (3, .int x3)] O dX12_go_69 rfl (Nat.le_of_ble_eq_true rfl) rfl ?_
    refine V_aloadn 70 0 O dX12_go_70 rfl rfl ?_
    refine V_dup 71 O dX12_go_71 rfl ?_
    refine V_getI 72 O k71 fl_X12_286 dX12_go_72 ?_
    refine V_iconst 75 O dX12_go_75 ci_1 ?_
    refine V_iadd 76 O dX12_go_76 ?_
    refine V_put 77 O k71 fp_X12_286 dX12_go_77 h (fun σ10 h => ?_)
    refine V_iinc 80 3 [1, 2, 3, 0] [(0, .ref (zad G 71)), (1, .int x1), (2, .int v9), (3, .int (x3 + (1 : Int32)))] O dX12_go_80 rfl ci_1 (Nat.le_of_ble_eq_true rfl) rfl ?_
    refine V_goto 83 36 O dX12_go_83 rfl ?_
    exact V_sub [0, 1, 2, 3] rfl (H36 x1 v9 (x3 + (1 : Int32)) σ10  h)
theorem bl_X12_go_36 {G : zG} {x : zX} {r : Int32} {τ : Sg} (O : zO G x cX12_go RX12 6 240 4) (E : zE G x (some (.int)) (some (.int r)) τ) (n : Nat) : ∀ (k : Nat) (x1 : Int32) (x2 : Int32) (x3 : Int32) (σ : Sg), s_X12_go_36 n k x1 x2 x3 σ = some (r, τ) → V G x σ [(0, .ref (zad G 71)), (1, .int x1), (2, .int x2), (3, .int x3)] 36 [] := by
  intro k
  induction k with
  | zero => intro x1 x2 x3 σ  h; cases h
  | succ k ih => intro x1 x2 x3 σ  h; exact b_X12_go_36 O E n  (s_X12_go_36 n  k) ih x1 x2 x3 σ  h
set_option maxRecDepth 20000 in
theorem C_X12_go {l : Launch} {G : zG} {n : Nat} {x1 : Int32} {σ : Sg} {r : Int32} {τ : Sg} (h : s_X12_go n x1 σ = some (r, τ)) : zM l G 6 yX12_go (.code yX12_go cX12_go 4 (some (.int))) [.ref (zad G 71), .int x1] σ (some (.int r)) τ := by
  refine zM_of (by decide) (Nat.le_of_ble_eq_true rfl) (fun x O E => ?_)
  have O : zO G x cX12_go RX12 6 240 4 := O
  unfold s_X12_go at h
  show V G x σ [(0, .ref (zad G 71)), (1, .int x1)] 0 []
  refine V_iloadn 0 1 O dX12_go_0 rfl rfl ?_
  refine V_i2l 1 O dX12_go_1 ?_
  refine V_lconst 2 O dX12_go_2 cl_0 ?_
  refine V_ldc2 3 O dX12_go_3 ld_X12_343 ?_
  obtain ⟨r2, σ1, g, h⟩ := bd_of h
  refine V_callSi 6 [.long x1.toInt64, .long (0 : Int64), .long (200 : Int64)] [] O mf_X12_in lk_X12_162 dX12_go_6 rfl rfl (Nat.le_of_ble_eq_true rfl) ⟨(Nat.le_of_ble_eq_true rfl), (Nat.le_of_ble_eq_true rfl)⟩ (fun l => C_X12_in  g) ?_
  refine V_if_ne 9 16 O dX12_go_9 rfl h (fun h => ?_) (fun h => ?_)
  · refine V_aloadn 16 0 O dX12_go_16 rfl rfl ?_
    refine V_getI 17 O k71 fl_X12_286 dX12_go_17 ?_
    refine V_iloadn 20 1 O dX12_go_20 rfl rfl ?_
    refine V_iadd 21 O dX12_go_21 ?_
    refine V_sipush 22 O dX12_go_22 cs_4800 ?_
    refine V_icmp_le 25 32 O dX12_go_25 rfl h (fun h => ?_) (fun h => ?_)
    · refine V_iconst 32 O dX12_go_32 ci_0 ?_
      refine V_istoren 33 [1, 2, 0] [(0, .ref (zad G 71)), (1, .int x1), (2, .int (0 : Int32))] O dX12_go_33 rfl (Nat.le_of_ble_eq_true rfl) rfl ?_
      refine V_iconst 34 O dX12_go_34 ci_0 ?_
      refine V_istoren 35 [1, 2, 3, 0] [(0, .ref (zad G 71)), (1, .int x1), (2, .int (0 : Int32)), (3, .int (0 : Int32))] O dX12_go_35 rfl (Nat.le_of_ble_eq_true rfl) rfl ?_
      exact V_sub [0, 1, 2, 3] rfl (bl_X12_go_36 O E n  n x1 (0 : Int32) (0 : Int32) σ1  h)
    · refine V_sipush 28 O dX12_go_28 cs_m1003 ?_
      exact V_iret 31 O E dX12_go_31 h
  · refine V_sipush 12 O dX12_go_12 cs_m1002 ?_
    exact V_iret 15 O E dX12_go_15 h
-- ==== WaterTownModel.shutMany()I
def s_X12_shutMany_4b (n : Nat) (rc4 : Int32 → Int32 → Sg → Option (Int32 × Sg)) (x1 : Int32) (x2 : Int32) (σ : Sg) : Option (Int32 × Sg) := if (σ 71 2) ≤ x2 then (some (x1, σ)) else (ck x2 20 (bd (s_X12_one n (σ 79 (ix x2)) σ) fun r2 σ1 => lt (x1 + r2) fun v3 => rc4 v3 (x2 + (1 : Int32)) σ1))
def s_X12_shutMany_4 (n : Nat) : Nat → Int32 → Int32 → Sg → Option (Int32 × Sg)
  | 0 => fun _ _ _ => none
  | k + 1 => s_X12_shutMany_4b n (s_X12_shutMany_4 n k)
def s_X12_shutMany (n : Nat) (σ : Sg) : Option (Int32 × Sg) := s_X12_shutMany_4 n n (0 : Int32) (0 : Int32) σ
set_option maxRecDepth 20000 in
theorem b_X12_shutMany_4 {G : zG} {x : zX} {r : Int32} {τ : Sg} (O : zO G x cX12_shutMany RX12 1 40 3) (E : zE G x (some (.int)) (some (.int r)) τ) (n : Nat) (rc4 : Int32 → Int32 → Sg → Option (Int32 × Sg)) (H4 : ∀ (x1 : Int32) (x2 : Int32) (σ : Sg), rc4 x1 x2 σ = some (r, τ) → V G x σ [(0, .ref (zad G 71)), (1, .int x1), (2, .int x2)] 4 []) (x1 : Int32) (x2 : Int32) (σ : Sg) (h : s_X12_shutMany_4b n rc4 x1 x2 σ = some (r, τ)) : V G x σ [(0, .ref (zad G 71)), (1, .int x1), (2, .int x2)] 4 [] := by
  unfold s_X12_shutMany_4b at h
  refine V_iloadn 4 2 O dX12_shutMany_4 rfl rfl ?_
  refine V_aloadn 5 0 O dX12_shutMany_5 rfl rfl ?_
  refine V_getI 6 O k71 fl_X12_168 dX12_shutMany_6 ?_
  refine V_icmp_ge 9 30 O dX12_shutMany_9 rfl h (fun h => ?_) (fun h => ?_)
  · refine V_iloadn 30 1 O dX12_shutMany_30 rfl rfl ?_
    exact V_iret 31 O E dX12_shutMany_31 h
  · refine V_iloadn 12 1 O dX12_shutMany_12 rfl rfl ?_
    refine V_aloadn 13 0 O dX12_shutMany_13 rfl rfl ?_
    refine V_getR 14 O k71 fl_X12_31 rf71_9 dX12_shutMany_14 ?_
    refine V_iloadn 17 2 O dX12_shutMany_17 rfl rfl ?_
    refine V_zald 18 O k79 dX12_shutMany_18 h (fun h => ?_)
    obtain ⟨r2, σ1, g, h⟩ := bd_of h
    refine V_callSi 19 [.int (σ 79 (ix x2))] [.int x1] O mf_X12_one lk_X12_185 dX12_shutMany_19 rfl rfl (Nat.le_of_ble_eq_true rfl) ⟨(Nat.le_of_ble_eq_true rfl), (Nat.le_of_ble_eq_true rfl)⟩ (fun l => C_X12_one  g) ?_
    refine V_iadd 22 O dX12_shutMany_22 ?_
    refine V_topi h (fun v3 h => ?_)
    refine V_istoren 23 [1, 0, 2] [(0, .ref (zad G 71)), (1, .int v3), (2, .int x2)] O dX12_shutMany_23 rfl (Nat.le_of_ble_eq_true rfl) rfl ?_
    refine V_iinc 24 2 [1, 2, 0] [(0, .ref (zad G 71)), (1, .int v3), (2, .int (x2 + (1 : Int32)))] O dX12_shutMany_24 rfl ci_1 (Nat.le_of_ble_eq_true rfl) rfl ?_
    refine V_goto 27 4 O dX12_shutMany_27 rfl ?_
    exact V_sub [0, 1, 2] rfl (H4 v3 (x2 + (1 : Int32)) σ1  h)
theorem bl_X12_shutMany_4 {G : zG} {x : zX} {r : Int32} {τ : Sg} (O : zO G x cX12_shutMany RX12 1 40 3) (E : zE G x (some (.int)) (some (.int r)) τ) (n : Nat) : ∀ (k : Nat) (x1 : Int32) (x2 : Int32) (σ : Sg), s_X12_shutMany_4 n k x1 x2 σ = some (r, τ) → V G x σ [(0, .ref (zad G 71)), (1, .int x1), (2, .int x2)] 4 [] := by
  intro k
  induction k with
  | zero => intro x1 x2 σ  h; cases h
  | succ k ih => intro x1 x2 σ  h; exact b_X12_shutMany_4 O E n  (s_X12_shutMany_4 n  k) ih x1 x2 σ  h
set_option maxRecDepth 20000 in
theorem C_X12_shutMany {l : Launch} {G : zG} {n : Nat} {σ : Sg} {r : Int32} {τ : Sg} (h : s_X12_shutMany n σ = some (r, τ)) : zM l G 1 yX12_shutMany (.code yX12_shutMany cX12_shutMany 3 (some (.int))) [.ref (zad G 71)] σ (some (.int r)) τ := by
  refine zM_of (by decide) (Nat.le_of_ble_eq_true rfl) (fun x O E => ?_)
  have O : zO G x cX12_shutMany RX12 1 40 3 := O
  unfold s_X12_shutMany at h
  show V G x σ [(0, .ref (zad G 71))] 0 []
  refine V_iconst 0 O dX12_shutMany_0 ci_0 ?_
  refine V_istoren 1 [1, 0] [(0, .ref (zad G 71)), (1, .int (0 : Int32))] O dX12_shutMany_1 rfl (Nat.le_of_ble_eq_true rfl) rfl ?_
  refine V_iconst 2 O dX12_shutMany_2 ci_0 ?_
  refine V_istoren 3 [1, 2, 0] [(0, .ref (zad G 71)), (1, .int (0 : Int32)), (2, .int (0 : Int32))] O dX12_shutMany_3 rfl (Nat.le_of_ble_eq_true rfl) rfl ?_
  exact V_sub [0, 1, 2] rfl (bl_X12_shutMany_4 O E n  n (0 : Int32) (0 : Int32) σ  h)
-- ==== WaterTownModel.alwaysMany()I
def s_X12_alwaysMany_4b (n : Nat) (rc4 : Int32 → Int32 → Sg → Option (Int32 × Sg)) (x1 : Int32) (x2 : Int32) (σ : Sg) : Option (Int32 × Sg) := if (σ 71 11) ≤ x2 then (some (x1, σ)) else (ck x2 10 (bd (s_X12_one n (σ 86 (ix x2)) σ) fun r2 σ1 => lt (x1 + r2) fun v3 => rc4 v3 (x2 + (1 : Int32)) σ1))
def s_X12_alwaysMany_4 (n : Nat) : Nat → Int32 → Int32 → Sg → Option (Int32 × Sg)
  | 0 => fun _ _ _ => none
  | k + 1 => s_X12_alwaysMany_4b n (s_X12_alwaysMany_4 n k)
def s_X12_alwaysMany (n : Nat) (σ : Sg) : Option (Int32 × Sg) := s_X12_alwaysMany_4 n n (0 : Int32) (0 : Int32) σ
set_option maxRecDepth 20000 in
theorem b_X12_alwaysMany_4 {G : zG} {x : zX} {r : Int32} {τ : Sg} (O : zO G x cX12_alwaysMany RX12 1 40 3) (E : zE G x (some (.int)) (some (.int r)) τ) (n : Nat) (rc4 : Int32 → Int32 → Sg → Option (Int32 × Sg)) (H4 : ∀ (x1 : Int32) (x2 : Int32) (σ : Sg), rc4 x1 x2 σ = some (r, τ) → V G x σ [(0, .ref (zad G 71)), (1, .int x1), (2, .int x2)] 4 []) (x1 : Int32) (x2 : Int32) (σ : Sg) (h : s_X12_alwaysMany_4b n rc4 x1 x2 σ = some (r, τ)) : V G x σ [(0, .ref (zad G 71)), (1, .int x1), (2, .int x2)] 4 [] := by
  unfold s_X12_alwaysMany_4b at h
  refine V_iloadn 4 2 O dX12_alwaysMany_4 rfl rfl ?_
  refine V_aloadn 5 0 O dX12_alwaysMany_5 rfl rfl ?_
  refine V_getI 6 O k71 fl_X12_171 dX12_alwaysMany_6 ?_
  refine V_icmp_ge 9 30 O dX12_alwaysMany_9 rfl h (fun h => ?_) (fun h => ?_)
  · refine V_iloadn 30 1 O dX12_alwaysMany_30 rfl rfl ?_
    exact V_iret 31 O E dX12_alwaysMany_31 h
  · refine V_iloadn 12 1 O dX12_alwaysMany_12 rfl rfl ?_
    refine V_aloadn 13 0 O dX12_alwaysMany_13 rfl rfl ?_
    refine V_getR 14 O k71 fl_X12_53 rf71_17 dX12_alwaysMany_14 ?_
    refine V_iloadn 17 2 O dX12_alwaysMany_17 rfl rfl ?_
    refine V_zald 18 O k86 dX12_alwaysMany_18 h (fun h => ?_)
    obtain ⟨r2, σ1, g, h⟩ := bd_of h
    refine V_callSi 19 [.int (σ 86 (ix x2))] [.int x1] O mf_X12_one lk_X12_185 dX12_alwaysMany_19 rfl rfl (Nat.le_of_ble_eq_true rfl) ⟨(Nat.le_of_ble_eq_true rfl), (Nat.le_of_ble_eq_true rfl)⟩ (fun l => C_X12_one  g) ?_
    refine V_iadd 22 O dX12_alwaysMany_22 ?_
    refine V_topi h (fun v3 h => ?_)
    refine V_istoren 23 [1, 0, 2] [(0, .ref (zad G 71)), (1, .int v3), (2, .int x2)] O dX12_alwaysMany_23 rfl (Nat.le_of_ble_eq_true rfl) rfl ?_
    refine V_iinc 24 2 [1, 2, 0] [(0, .ref (zad G 71)), (1, .int v3), (2, .int (x2 + (1 : Int32)))] O dX12_alwaysMany_24 rfl ci_1 (Nat.le_of_ble_eq_true rfl) rfl ?_
    refine V_goto 27 4 O dX12_alwaysMany_27 rfl ?_
    exact V_sub [0, 1, 2] rfl (H4 v3 (x2 + (1 : Int32)) σ1  h)
theorem bl_X12_alwaysMany_4 {G : zG} {x : zX} {r : Int32} {τ : Sg} (O : zO G x cX12_alwaysMany RX12 1 40 3) (E : zE G x (some (.int)) (some (.int r)) τ) (n : Nat) : ∀ (k : Nat) (x1 : Int32) (x2 : Int32) (σ : Sg), s_X12_alwaysMany_4 n k x1 x2 σ = some (r, τ) → V G x σ [(0, .ref (zad G 71)), (1, .int x1), (2, .int x2)] 4 [] := by
  intro k
  induction k with
  | zero => intro x1 x2 σ  h; cases h
  | succ k ih => intro x1 x2 σ  h; exact b_X12_alwaysMany_4 O E n  (s_X12_alwaysMany_4 n  k) ih x1 x2 σ  h
set_option maxRecDepth 20000 in
theorem C_X12_alwaysMany {l : Launch} {G : zG} {n : Nat} {σ : Sg} {r : Int32} {τ : Sg} (h : s_X12_alwaysMany n σ = some (r, τ)) : zM l G 1 yX12_alwaysMany (.code yX12_alwaysMany cX12_alwaysMany 3 (some (.int))) [.ref (zad G 71)] σ (some (.int r)) τ := by
  refine zM_of (by decide) (Nat.le_of_ble_eq_true rfl) (fun x O E => ?_)
  have O : zO G x cX12_alwaysMany RX12 1 40 3 := O
  unfold s_X12_alwaysMany at h
  show V G x σ [(0, .ref (zad G 71))] 0 []
  refine V_iconst 0 O dX12_alwaysMany_0 ci_0 ?_
  refine V_istoren 1 [1, 0] [(0, .ref (zad G 71)), (1, .int (0 : Int32))] O dX12_alwaysMany_1 rfl (Nat.le_of_ble_eq_true rfl) rfl ?_
  refine V_iconst 2 O dX12_alwaysMany_2 ci_0 ?_
  refine V_istoren 3 [1, 2, 0] [(0, .ref (zad G 71)), (1, .int (0 : Int32)), (2, .int (0 : Int32))] O dX12_alwaysMany_3 rfl (Nat.le_of_ble_eq_true rfl) rfl ?_
  exact V_sub [0, 1, 2] rfl (bl_X12_alwaysMany_4 O E n  n (0 : Int32) (0 : Int32) σ  h)
-- ==== WaterTownModel.guessMany(I)I
def s_X12_guessMany_32 (n : Nat) (rc4 : Int32 → Int32 → Int32 → Sg → Option (Int32 × Sg)) (x1 : Int32) (x3 : Int32) (y0 : Int32) (y1 : Int32) (σ : Sg) : Option (Int32 × Sg) := bd (s_X12_one n y0 σ) fun r6 σ5 => lt (y1 + r6) fun v7 => rc4 x1 v7 (x3 + (1 : Int32)) σ5
def s_X12_guessMany_4b (n : Nat) (rc4 : Int32 → Int32 → Int32 → Sg → Option (Int32 × Sg)) (x1 : Int32) (x2 : Int32) (x3 : Int32) (σ : Sg) : Option (Int32 × Sg) := if (σ 71 2) ≤ x3 then (some (x2, σ)) else (ck x3 20 (lt (if (σ 80 (ix x3)) ≤ 0 then (0 : Int32) else if x3 = x1 then (0 : Int32) else (1 : Int32)) fun v4 => s_X12_guessMany_32 n rc4 x1 x3 v4 x2 σ))
def s_X12_guessMany_4 (n : Nat) : Nat → Int32 → Int32 → Int32 → Sg → Option (Int32 × Sg)
  | 0 => fun _ _ _ _ => none
  | k + 1 => s_X12_guessMany_4b n (s_X12_guessMany_4 n k)
def s_X12_guessMany (n : Nat) (x1 : Int32) (σ : Sg) : Option (Int32 × Sg) := s_X12_guessMany_4 n n x1 (0 : Int32) (0 : Int32) σ
set_option maxRecDepth 20000 in
theorem b_X12_guessMany_32 {G : zG} {x : zX} {r : Int32} {τ : Sg} (O : zO G x cX12_guessMany RX12 1 40 4) (E : zE G x (some (.int)) (some (.int r)) τ) (n : Nat) (rc4 : Int32 → Int32 → Int32 → Sg → Option (Int32 × Sg)) (H4 : ∀ (x1 : Int32) (x2 : Int32) (x3 : Int32) (σ : Sg), rc4 x1 x2 x3 σ = some (r, τ) → V G x σ [(0, .ref (zad G 71)), (1, .int x1), (2, .int x2), (3, .int x3)] 4 []) (x1 : Int32) (x3 : Int32) (y0 : Int32) (y1 : Int32) (σ : Sg) (h : s_X12_guessMany_32 n rc4 x1 x3 y0 y1 σ = some (r, τ)) : V G x σ [(0, .ref (zad G 71)), (1, .int x1), (3, .int x3)] 32 [.int y0, .int y1] := by
  unfold s_X12_guessMany_32 at h
  obtain ⟨r6, σ5, g, h⟩ := bd_of h
  refine V_callSi 32 [.int y0] [.int y1] O mf_X12_one lk_X12_185 dX12_guessMany_32 rfl rfl (Nat.le_of_ble_eq_true rfl) ⟨(Nat.le_of_ble_eq_true rfl), (Nat.le_of_ble_eq_true rfl)⟩ (fun l => C_X12_one  g) ?_
  refine V_iadd 35 O dX12_guessMany_35 ?_
  refine V_topi h (fun v7 h => ?_)
  refine V_istoren 36 [1, 2, 0, 3] [(0, .ref (zad G 71)), (1, .int x1), (2, .int v7), (3, .int x3)] O dX12_guessMany_36 rfl (Nat.le_of_ble_eq_true rfl) rfl ?_
  refine V_iinc 37 3 [1, 2, 3, 0] [(0, .ref (zad G 71)), (1, .int x1), (2, .int v7), (3, .int (x3 + (1 : Int32)))] O dX12_guessMany_37 rfl ci_1 (Nat.le_of_ble_eq_true rfl) rfl ?_
  refine V_goto 40 4 O dX12_guessMany_40 rfl ?_
  exact V_sub [0, 1, 2, 3] rfl (H4 x1 v7 (x3 + (1 : Int32)) σ5  h)
set_option maxRecDepth 20000 in
theorem b_X12_guessMany_4 {G : zG} {x : zX} {r : Int32} {τ : Sg} (O : zO G x cX12_guessMany RX12 1 40 4) (E : zE G x (some (.int)) (some (.int r)) τ) (n : Nat) (rc4 : Int32 → Int32 → Int32 → Sg → Option (Int32 × Sg)) (H4 : ∀ (x1 : Int32) (x2 : Int32) (x3 : Int32) (σ : Sg), rc4 x1 x2 x3 σ = some (r, τ) → V G x σ [(0, .ref (zad G 71)), (1, .int x1), (2, .int x2), (3, .int x3)] 4 []) (x1 : Int32) (x2 : Int32) (x3 : Int32) (σ : Sg) (h : s_X12_guessMany_4b n rc4 x1 x2 x3 σ = some (r, τ)) : V G x σ [(0, .ref (zad G 71)), (1, .int x1), (2, .int x2), (3, .int x3)] 4 [] := by
  unfold s_X12_guessMany_4b at h
  refine V_iloadn 4 3 O dX12_guessMany_4 rfl rfl ?_
  refine V_aloadn 5 0 O dX12_guessMany_5 rfl rfl ?_
  refine V_getI 6 O k71 fl_X12_168 dX12_guessMany_6 ?_
  refine V_icmp_ge 9 43 O dX12_guessMany_9 rfl h (fun h => ?_) (fun h => ?_)
  · refine V_iloadn 43 2 O dX12_guessMany_43 rfl rfl ?_
    exact V_iret 44 O E dX12_guessMany_44 h
  · refine V_iloadn 12 2 O dX12_guessMany_12 rfl rfl ?_
    refine V_aloadn 13 0 O dX12_guessMany_13 rfl rfl ?_
    refine V_getR 14 O k71 fl_X12_35 rf71_10 dX12_guessMany_14 ?_
    refine V_iloadn 17 3 O dX12_guessMany_17 rfl rfl ?_
    refine V_iald 18 O k80 dX12_guessMany_18 h (fun h => ?_)
    have J1 : V G x σ [(0, .ref (zad G 71)), (1, .int x1), (2, .int x2), (3, .int x3)] 32 [.int (if (σ 80 (ix x3)) ≤ 0 then (0 : Int32) else if x3 = x1 then (0 : Int32) else (1 : Int32)), .int x2] := by
      refine V_topi h (fun v4 h => ?_)
      exact V_sub [0, 1, 3] rfl (b_X12_guessMany_32 O E n rc4 H4 x1 x3 v4 x2 σ  h)
    refine V_if_lec 19 31 O dX12_guessMany_19 rfl (fun c2 => ?_) (fun c2 => ?_)
    · refine V_iconst 31 O dX12_guessMany_31 ci_0 ?_
      exact V_top (by rw [if_pos c2]) J1
    · refine V_iloadn 22 3 O dX12_guessMany_22 rfl rfl ?_
      refine V_iloadn 23 1 O dX12_guessMany_23 rfl rfl ?_
      refine V_icmp_eqc 24 31 O dX12_guessMany_24 rfl (fun c3 => ?_) (fun c3 => ?_)
      · refine V_iconst 31 O dX12_guessMany_31 ci_0 ?_
        exact V_top (by rw [if_neg c2, if_pos c3]) J1
      · refine V_iconst 27 O dX12_guessMany_27 ci_1 ?_
        refine V_goto 28 32 O dX12_guessMany_28 rfl ?_
        exact V_top (by rw [if_neg c2, if_neg c3]) J1
theorem bl_X12_guessMany_4 {G : zG} {x : zX} {r : Int32} {τ : Sg} (O : zO G x cX12_guessMany RX12 1 40 4) (E : zE G x (some (.int)) (some (.int r)) τ) (n : Nat) : ∀ (k : Nat) (x1 : Int32) (x2 : Int32) (x3 : Int32) (σ : Sg), s_X12_guessMany_4 n k x1 x2 x3 σ = some (r, τ) → V G x σ [(0, .ref (zad G 71)), (1, .int x1), (2, .int x2), (3, .int x3)] 4 [] := by
  intro k
  induction k with
  | zero => intro x1 x2 x3 σ  h; cases h
  | succ k ih => intro x1 x2 x3 σ  h; exact b_X12_guessMany_4 O E n  (s_X12_guessMany_4 n  k) ih x1 x2 x3 σ  h
set_option maxRecDepth 20000 in
theorem C_X12_guessMany {l : Launch} {G : zG} {n : Nat} {x1 : Int32} {σ : Sg} {r : Int32} {τ : Sg} (h : s_X12_guessMany n x1 σ = some (r, τ)) : zM l G 1 yX12_guessMany (.code yX12_guessMany cX12_guessMany 4 (some (.int))) [.ref (zad G 71), .int x1] σ (some (.int r)) τ := by
  refine zM_of (by decide) (Nat.le_of_ble_eq_true rfl) (fun x O E => ?_)
  have O : zO G x cX12_guessMany RX12 1 40 4 := O
  unfold s_X12_guessMany at h
  show V G x σ [(0, .ref (zad G 71)), (1, .int x1)] 0 []
  refine V_iconst 0 O dX12_guessMany_0 ci_0 ?_
  refine V_istoren 1 [1, 2, 0] [(0, .ref (zad G 71)), (1, .int x1), (2, .int (0 : Int32))] O dX12_guessMany_1 rfl (Nat.le_of_ble_eq_true rfl) rfl ?_
  refine V_iconst 2 O dX12_guessMany_2 ci_0 ?_
  refine V_istoren 3 [1, 2, 3, 0] [(0, .ref (zad G 71)), (1, .int x1), (2, .int (0 : Int32)), (3, .int (0 : Int32))] O dX12_guessMany_3 rfl (Nat.le_of_ble_eq_true rfl) rfl ?_
  exact V_sub [0, 1, 2, 3] rfl (bl_X12_guessMany_4 O E n  n x1 (0 : Int32) (0 : Int32) σ  h)
-- ==== WaterTownModel.count(I)I
def s_X12_count (n : Nat) (x1 : Int32) (σ : Sg) : Option (Int32 × Sg) := if x1 = (0 : Int32) then (some (σ 71 0, σ)) else (if x1 = (1 : Int32) then (some (σ 71 2, σ)) else (if x1 = (2 : Int32) then (some (σ 71 11, σ)) else (if x1 = (3 : Int32) then (bd (s_X12_alwaysMany n σ) fun r6 σ5 => some (r6, σ5)) else (if x1 = (4 : Int32) then (some (σ 71 26, σ)) else (if x1 = (5 : Int32) then (bd (s_X12_shutMany n σ) fun r10 σ9 => some (r10, σ9)) else (if x1 = (6 : Int32) then (some (σ 71 33, σ)) else (if x1 = (7 : Int32) then (some (σ 71 66, σ)) else (if x1 = (8 : Int32) then (bd (s_X12_guessMany n (-1 : Int32) σ) fun r15 σ14 => some (r15, σ14)) else (if x1 = (9 : Int32) then (some (σ 71 24, σ)) else (if x1 = (10 : Int32) then (some (σ 71 25, σ)) else (some ((-1002 : Int32), σ))))))))))))
set_option maxRecDepth 20000 in
theorem C_X12_count {l : Launch} {G : zG} {n : Nat} {x1 : Int32} {σ : Sg} {r : Int32} {τ : Sg} (h : s_X12_count n x1 σ = some (r, τ)) : zM l G 2 yX12_count (.code yX12_count cX12_count 2 (some (.int))) [.ref (zad G 71), .int x1] σ (some (.int r)) τ := by
  refine zM_of (by decide) (Nat.le_of_ble_eq_true rfl) (fun x O E => ?_)
  have O : zO G x cX12_count RX12 2 80 2 := O
  unfold s_X12_count at h
  show V G x σ [(0, .ref (zad G 71)), (1, .int x1)] 0 []
  refine V_iloadn 0 1 O dX12_count_0 rfl rfl ?_
  refine V_tab1 1 60 O dX12_count_1 h (by decide) (by decide) rfl rfl (fun h => ?_) (fun q1 h => ?_)
  · refine V_aloadn 60 0 O dX12_count_60 rfl rfl ?_
    refine V_getI 61 O k71 fl_X12_286 dX12_count_61 ?_
    exact V_iret 64 O E dX12_count_64 h
  refine V_tab1 1 65 O dX12_count_1 h (by decide) (by decide) rfl rfl (fun h => ?_) (fun q2 h => ?_)
  · refine V_aloadn 65 0 O dX12_count_65 rfl rfl ?_
    refine V_getI 66 O k71 fl_X12_168 dX12_count_66 ?_
    exact V_iret 69 O E dX12_count_69 h
  refine V_tab1 1 70 O dX12_count_1 h (by decide) (by decide) rfl rfl (fun h => ?_) (fun q3 h => ?_)
  · refine V_aloadn 70 0 O dX12_count_70 rfl rfl ?_
    refine V_getI 71 O k71 fl_X12_171 dX12_count_71 ?_
    exact V_iret 74 O E dX12_count_74 h
  refine V_tab1 1 75 O dX12_count_1 h (by decide) (by decide) rfl rfl (fun h => ?_) (fun q4 h => ?_)
  · refine V_aloadn 75 0 O dX12_count_75 rfl rfl ?_
    obtain ⟨r6, σ5, g, h⟩ := bd_of h
    refine V_callVi 76 [] [] O mf_X12_alwaysMany lk_X12_352 k71 dX12_count_76 rfl rfl (Nat.le_of_ble_eq_true rfl) ⟨(Nat.le_of_ble_eq_true rfl), (Nat.le_of_ble_eq_true rfl)⟩ (fun l => C_X12_alwaysMany  g) ?_
    exact V_iret 79 O E dX12_count_79 h
  refine V_tab1 1 80 O dX12_count_1 h (by decide) (by decide) rfl rfl (fun h => ?_) (fun q7 h => ?_)
  · refine V_aloadn 80 0 O dX12_count_80 rfl rfl ?_
    refine V_getI 81 O k71 fl_X12_250 dX12_count_81 ?_
    exact V_iret 84 O E dX12_count_84 h
  refine V_tab1 1 85 O dX12_count_1 h (by decide) (by decide) rfl rfl (fun h => ?_) (fun q8 h => ?_)
  · refine V_aloadn 85 0 O dX12_count_85 rfl rfl ?_
    obtain ⟨r10, σ9, g, h⟩ := bd_of h
    refine V_callVi 86 [] [] O mf_X12_shutMany lk_X12_355 k71 dX12_count_86 rfl rfl (Nat.le_of_ble_eq_true rfl) ⟨(Nat.le_of_ble_eq_true rfl), (Nat.le_of_ble_eq_true rfl)⟩ (fun l => C_X12_shutMany  g) ?_
    exact V_iret 89 O E dX12_count_89 h
  refine V_tab1 1 90 O dX12_count_1 h (by decide) (by decide) rfl rfl (fun h => ?_) (fun q11 h => ?_)
  · refine V_aloadn 90 0 O dX12_count_90 rfl rfl ?_
    refine V_getI 91 O k71 fl_X12_199 dX12_count_91 ?_
    exact V_iret 94 O E dX12_count_94 h
  refine V_tab1 1 95 O dX12_count_1 h (by decide) (by decide) rfl rfl (fun h => ?_) (fun q12 h => ?_)
  · refine V_aloadn 95 0 O dX12_count_95 rfl rfl ?_
    refine V_getI 96 O k71 fl_X12_358 dX12_count_96 ?_
    exact V_iret 99 O E dX12_count_99 h
  refine V_tab1 1 100 O dX12_count_1 h (by decide) (by decide) rfl rfl (fun h => ?_) (fun q13 h => ?_)
  · refine V_aloadn 100 0 O dX12_count_100 rfl rfl ?_
    refine V_iconst 101 O dX12_count_101 ci_m1 ?_
    obtain ⟨r15, σ14, g, h⟩ := bd_of h
    refine V_callVi 102 [.int (-1 : Int32)] [] O mf_X12_guessMany lk_X12_361 k71 dX12_count_102 rfl rfl (Nat.le_of_ble_eq_true rfl) ⟨(Nat.le_of_ble_eq_true rfl), (Nat.le_of_ble_eq_true rfl)⟩ (fun l => C_X12_guessMany  g) ?_
    exact V_iret 105 O E dX12_count_105 h
  refine V_tab1 1 106 O dX12_count_1 h (by decide) (by decide) rfl rfl (fun h => ?_) (fun q16 h => ?_)
  · refine V_aloadn 106 0 O dX12_count_106 rfl rfl ?_
    refine V_getI 107 O k71 fl_X12_349 dX12_count_107 ?_
    exact V_iret 110 O E dX12_count_110 h
  refine V_tab1 1 111 O dX12_count_1 h (by decide) (by decide) rfl rfl (fun h => ?_) (fun q17 h => ?_)
  · refine V_aloadn 111 0 O dX12_count_111 rfl rfl ?_
    refine V_getI 112 O k71 fl_X12_340 dX12_count_112 ?_
    exact V_iret 115 O E dX12_count_115 h
  refine V_tabO 1 116 O dX12_count_1 (by have w0 := lv_neT q1 (show (0 : Int32).toInt = 0 from rfl); have w1 := lv_neT q2 (show (1 : Int32).toInt = 1 from rfl); have w2 := lv_neT q3 (show (2 : Int32).toInt = 2 from rfl); have w3 := lv_neT q4 (show (3 : Int32).toInt = 3 from rfl); have w4 := lv_neT q7 (show (4 : Int32).toInt = 4 from rfl); have w5 := lv_neT q8 (show (5 : Int32).toInt = 5 from rfl); have w6 := lv_neT q11 (show (6 : Int32).toInt = 6 from rfl); have w7 := lv_neT q12 (show (7 : Int32).toInt = 7 from rfl); have w8 := lv_neT q13 (show (8 : Int32).toInt = 8 from rfl); have w9 := lv_neT q16 (show (9 : Int32).toInt = 9 from rfl); have w10 := lv_neT q17 (show (10 : Int32).toInt = 10 from rfl); omega) rfl ?_
  refine V_sipush 116 O dX12_count_116 cs_m1002 ?_
  exact V_iret 119 O E dX12_count_119 h
-- ==== WaterTownModel.byRooms(I)I
def s_X12_byRooms (n : Nat) (x1 : Int32) (σ : Sg) : Option (Int32 × Sg) := ck x1 10 (ck x1 10 (some (((σ 71 45) * (σ 87 (ix x1))) * (σ 82 (ix x1)), σ)))
set_option maxRecDepth 20000 in
theorem C_X12_byRooms {l : Launch} {G : zG} {n : Nat} {x1 : Int32} {σ : Sg} {r : Int32} {τ : Sg} (h : s_X12_byRooms n x1 σ = some (r, τ)) : zM l G 0 yX12_byRooms (.code yX12_byRooms cX12_byRooms 2 (some (.int))) [.ref (zad G 71), .int x1] σ (some (.int r)) τ := by
  refine zM_of (by decide) (Nat.le_of_ble_eq_true rfl) (fun x O E => ?_)
  have O : zO G x cX12_byRooms RX12 0 0 2 := O
  unfold s_X12_byRooms at h
  show V G x σ [(0, .ref (zad G 71)), (1, .int x1)] 0 []
  refine V_aloadn 0 0 O dX12_byRooms_0 rfl rfl ?_
  refine V_getI 1 O k71 fl_X12_277 dX12_byRooms_1 ?_
  refine V_aloadn 4 0 O dX12_byRooms_4 rfl rfl ?_
  refine V_getR 5 O k71 fl_X12_56 rf71_18 dX12_byRooms_5 ?_
  refine V_iloadn 8 1 O dX12_byRooms_8 rfl rfl ?_
  refine V_iald 9 O k87 dX12_byRooms_9 h (fun h => ?_)
  refine V_imul 10 O dX12_byRooms_10 ?_
  refine V_aloadn 11 0 O dX12_byRooms_11 rfl rfl ?_
  refine V_getR 12 O k71 fl_X12_41 rf71_13 dX12_byRooms_12 ?_
  refine V_iloadn 15 1 O dX12_byRooms_15 rfl rfl ?_
  refine V_iald 16 O k82 dX12_byRooms_16 h (fun h => ?_)
  refine V_imul 17 O dX12_byRooms_17 ?_
  exact V_iret 18 O E dX12_byRooms_18 h
-- ==== WaterTownModel.byMeter(I)I
def s_X12_byMeter (n : Nat) (x1 : Int32) (σ : Sg) : Option (Int32 × Sg) := ck x1 10 (some (((σ 71 46) * (σ 89 (ix x1))) / (10 : Int32), σ))
set_option maxRecDepth 20000 in
theorem C_X12_byMeter {l : Launch} {G : zG} {n : Nat} {x1 : Int32} {σ : Sg} {r : Int32} {τ : Sg} (h : s_X12_byMeter n x1 σ = some (r, τ)) : zM l G 0 yX12_byMeter (.code yX12_byMeter cX12_byMeter 2 (some (.int))) [.ref (zad G 71), .int x1] σ (some (.int r)) τ := by
  refine zM_of (by decide) (Nat.le_of_ble_eq_true rfl) (fun x O E => ?_)
  have O : zO G x cX12_byMeter RX12 0 0 2 := O
  unfold s_X12_byMeter at h
  show V G x σ [(0, .ref (zad G 71)), (1, .int x1)] 0 []
  refine V_aloadn 0 0 O dX12_byMeter_0 rfl rfl ?_
  refine V_getI 1 O k71 fl_X12_280 dX12_byMeter_1 ?_
  refine V_aloadn 4 0 O dX12_byMeter_4 rfl rfl ?_
  refine V_getR 5 O k71 fl_X12_62 rf71_20 dX12_byMeter_5 ?_
  refine V_iloadn 8 1 O dX12_byMeter_8 rfl rfl ?_
  refine V_iald 9 O k89 dX12_byMeter_9 h (fun h => ?_)
  refine V_imul 10 O dX12_byMeter_10 ?_
  refine V_bipush 11 O dX12_byMeter_11 cb_10 ?_
  refine V_idivC 13 O dX12_byMeter_13 (by decide) ?_
  exact V_iret 14 O E dX12_byMeter_14 h
-- ==== WaterTownModel.told(II)I
def s_X12_told (n : Nat) (x1 : Int32) (x2 : Int32) (σ : Sg) : Option (Int32 × Sg) := bd (s_X12_noStreet n x1 σ) fun r2 σ1 => if r2 = 0 then (bd (s_X12_dayNow n σ1) fun r4 σ3 => bdv (s_X12_findRules n r4 σ3) fun σ5 => if x2 = (0 : Int32) then (ck x1 10 (some (σ5 81 (ix x1), σ5))) else (if x2 = (1 : Int32) then (ck x1 10 (bd (s_X12_one n (σ5 86 (ix x1)) σ5) fun r9 σ8 => some (r9, σ8))) else (if x2 = (2 : Int32) then (ck x1 10 (some (σ5 88 (ix x1), σ5))) else (if x2 = (3 : Int32) then (ck x1 10 (some (σ5 89 (ix x1), σ5))) else (if x2 = (4 : Int32) then (ck x1 10 (some (σ5 90 (ix x1), σ5))) else (if x2 = (5 : Int32) then (ck x1 10 (some (σ5 91 (ix x1), σ5))) else (if x2 = (6 : Int32) then (ck x1 10 (some (σ5 92 (ix x1), σ5))) else (if x2 = (7 : Int32) then (bd (s_X12_byRooms n x1 σ5) fun r17 σ16 => some (r17, σ16)) else (if x2 = (8 : Int32) then (bd (s_X12_byMeter n x1 σ5) fun r20 σ19 => some (r20, σ19)) else (some ((-1002 : Int32), σ5))))))))))) else (some ((-1001 : Int32), σ1))
set_option maxRecDepth 20000 in
theorem C_X12_told {l : Launch} {G : zG} {n : Nat} {x1 : Int32} {x2 : Int32} {σ : Sg} {r : Int32} {τ : Sg} (h : s_X12_told n x1 x2 σ = some (r, τ)) : zM l G 2 yX12_told (.code yX12_told cX12_told 3 (some (.int))) [.ref (zad G 71), .int x1, .int x2] σ (some (.int r)) τ := by
  refine zM_of (by decide) (Nat.le_of_ble_eq_true rfl) (fun x O E => ?_)
  have O : zO G x cX12_told RX12 2 80 3 := O
  unfold s_X12_told at h
  show V G x σ [(0, .ref (zad G 71)), (1, .int x1), (2, .int x2)] 0 []
  refine V_aloadn 0 0 O dX12_told_0 rfl rfl ?_
  refine V_iloadn 1 1 O dX12_told_1 rfl rfl ?_
  obtain ⟨r2, σ1, g, h⟩ := bd_of h
  refine V_callVi 2 [.int x1] [] O mf_X12_noStreet lk_X12_194 k71 dX12_told_2 rfl rfl (Nat.le_of_ble_eq_true rfl) ⟨(Nat.le_of_ble_eq_true rfl), (Nat.le_of_ble_eq_true rfl)⟩ (fun l => C_X12_noStreet  g) ?_
  refine V_if_eq 5 12 O dX12_told_5 rfl h (fun h => ?_) (fun h => ?_)
  · refine V_aloadn 12 0 O dX12_told_12 rfl rfl ?_
    refine V_aloadn 13 0 O dX12_told_13 rfl rfl ?_
    obtain ⟨r4, σ3, g, h⟩ := bd_of h
    refine V_callVi 14 [] [.ref (zad G 71)] O mf_X12_dayNow lk_X12_365 k71 dX12_told_14 rfl rfl (Nat.le_of_ble_eq_true rfl) ⟨(Nat.le_of_ble_eq_true rfl), (Nat.le_of_ble_eq_true rfl)⟩ (fun l => C_X12_dayNow  g) ?_
    obtain ⟨σ5, g, h⟩ := bdv_of h
    refine V_callVv 17 [.int r4] [] O mf_X12_findRules lk_X12_283 k71 dX12_told_17 rfl rfl (Nat.le_of_ble_eq_true rfl) ⟨(Nat.le_of_ble_eq_true rfl), (Nat.le_of_ble_eq_true rfl)⟩ (fun l => C_X12_findRules  g) ?_
    refine V_iloadn 20 2 O dX12_told_20 rfl rfl ?_
    refine V_tab1 21 72 O dX12_told_21 h (by decide) (by decide) rfl rfl (fun h => ?_) (fun q6 h => ?_)
    · refine V_aloadn 72 0 O dX12_told_72 rfl rfl ?_
      refine V_getR 73 O k71 fl_X12_38 rf71_12 dX12_told_73 ?_
      refine V_iloadn 76 1 O dX12_told_76 rfl rfl ?_
      refine V_iald 77 O k81 dX12_told_77 h (fun h => ?_)
      exact V_iret 78 O E dX12_told_78 h
    refine V_tab1 21 79 O dX12_told_21 h (by decide) (by decide) rfl rfl (fun h => ?_) (fun q7 h => ?_)
    · refine V_aloadn 79 0 O dX12_told_79 rfl rfl ?_
      refine V_getR 80 O k71 fl_X12_53 rf71_17 dX12_told_80 ?_
      refine V_iloadn 83 1 O dX12_told_83 rfl rfl ?_
      refine V_zald 84 O k86 dX12_told_84 h (fun h => ?_)
      obtain ⟨r9, σ8, g, h⟩ := bd_of h
      refine V_callSi 85 [.int (σ5 86 (ix x1))] [] O mf_X12_one lk_X12_185 dX12_told_85 rfl rfl (Nat.le_of_ble_eq_true rfl) ⟨(Nat.le_of_ble_eq_true rfl), (Nat.le_of_ble_eq_true rfl)⟩ (fun l => C_X12_one  g) ?_
      exact V_iret 88 O E dX12_told_88 h
    refine V_tab1 21 89 O dX12_told_21 h (by decide) (by decide) rfl rfl (fun h => ?_) (fun q10 h => ?_)
    · refine V_aloadn 89 0 O dX12_told_89 rfl rfl ?_
      refine V_getR 90 O k71 fl_X12_59 rf71_19 dX12_told_90 ?_
      refine V_iloadn 93 1 O dX12_told_93 rfl rfl ?_
      refine V_iald 94 O k88 dX12_told_94 h (fun h => ?_)
      exact V_iret 95 O E dX12_told_95 h
    refine V_tab1 21 96 O dX12_told_21 h (by decide) (by decide) rfl rfl (fun h => ?_) (fun q11 h => ?_)
    · refine V_aloadn 96 0 O dX12_told_96 rfl rfl ?_
      refine V_getR 97 O k71 fl_X12_62 rf71_20 dX12_told_97 ?_
      refine V_iloadn 100 1 O dX12_told_100 rfl rfl ?_
      refine V_iald 101 O k89 dX12_told_101 h (fun h => ?_)
      exact V_iret 102 O E dX12_told_102 h
    refine V_tab1 21 103 O dX12_told_21 h (by decide) (by decide) rfl rfl (fun h => ?_) (fun q12 h => ?_)
    · refine V_aloadn 103 0 O dX12_told_103 rfl rfl ?_
      refine V_getR 104 O k71 fl_X12_65 rf71_21 dX12_told_104 ?_
      refine V_iloadn 107 1 O dX12_told_107 rfl rfl ?_
      refine V_iald 108 O k90 dX12_told_108 h (fun h => ?_)
      exact V_iret 109 O E dX12_told_109 h
    refine V_tab1 21 110 O dX12_told_21 h (by decide) (by decide) rfl rfl (fun h => ?_) (fun q13 h => ?_)
    · refine V_aloadn 110 0 O dX12_told_110 rfl rfl ?_
      refine V_getR 111 O k71 fl_X12_68 rf71_22 dX12_told_111 ?_
      refine V_iloadn 114 1 O dX12_told_114 rfl rfl ?_
      refine V_iald 115 O k91 dX12_told_115 h (fun h => ?_)
      exact V_iret 116 O E dX12_told_116 h
    refine V_tab1 21 117 O dX12_told_21 h (by decide) (by decide) rfl rfl (fun h => ?_) (fun q14 h => ?_)
    · refine V_aloadn 117 0 O dX12_told_117 rfl rfl ?_
      refine V_getR 118 O k71 fl_X12_71 rf71_23 dX12_told_118 ?_
      refine V_iloadn 121 1 O dX12_told_121 rfl rfl ?_
      refine V_iald 122 O k92 dX12_told_122 h (fun h => ?_)
      exact V_iret 123 O E dX12_told_123 h
    refine V_tab1 21 124 O dX12_told_21 h (by decide) (by decide) rfl rfl (fun h => ?_) (fun q15 h => ?_)
    · refine V_aloadn 124 0 O dX12_told_124 rfl rfl ?_
      refine V_iloadn 125 1 O dX12_told_125 rfl rfl ?_
      obtain ⟨r17, σ16, g, h⟩ := bd_of h
      refine V_callVi 126 [.int x1] [] O mf_X12_byRooms lk_X12_368 k71 dX12_told_126 rfl rfl (Nat.le_of_ble_eq_true rfl) ⟨(Nat.le_of_ble_eq_true rfl), (Nat.le_of_ble_eq_true rfl)⟩ (fun l => C_X12_byRooms  g) ?_
      exact V_iret 129 O E dX12_told_129 h
    refine V_tab1 21 130 O dX12_told_21 h (by decide) (by decide) rfl rfl (fun h => ?_) (fun q18 h => ?_)
    · refine V_aloadn 130 0 O dX12_told_130 rfl rfl ?_
      refine V_iloadn 131 1 O dX12_told_131 rfl rfl ?_
      obtain ⟨r20, σ19, g, h⟩ := bd_of h
      refine V_callVi 132 [.int x1] [] O mf_X12_byMeter lk_X12_371 k71 dX12_told_132 rfl rfl (Nat.le_of_ble_eq_true rfl) ⟨(Nat.le_of_ble_eq_true rfl), (Nat.le_of_ble_eq_true rfl)⟩ (fun l => C_X12_byMeter  g) ?_
      exact V_iret 135 O E dX12_told_135 h
    refine V_tabO 21 136 O dX12_told_21 (by have w0 := lv_neT q6 (show (0 : Int32).toInt = 0 from rfl); have w1 := lv_neT q7 (show (1 : Int32).toInt = 1 from rfl); have w2 := lv_neT q10 (show (2 : Int32).toInt = 2 from rfl); have w3 := lv_neT q11 (show (3 : Int32).toInt = 3 from rfl); have w4 := lv_neT q12 (show (4 : Int32).toInt = 4 from rfl); have w5 := lv_neT q13 (show (5 : Int32).toInt = 5 from rfl); have w6 := lv_neT q14 (show (6 : Int32).toInt = 6 from rfl); have w7 := lv_neT q15 (show (7 : Int32).toInt = 7 from rfl); have w8 := lv_neT q18 (show (8 : Int32).toInt = 8 from rfl); omega) rfl ?_
    refine V_sipush 136 O dX12_told_136 cs_m1002 ?_
    exact V_iret 139 O E dX12_told_139 h
  · refine V_sipush 8 O dX12_told_8 cs_m1001 ?_
    exact V_iret 11 O E dX12_told_11 h
