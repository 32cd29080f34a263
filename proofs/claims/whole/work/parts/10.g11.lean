-- ==== WaterTownModel.cutOff(IZ)I
def s_X12_cutOff_124 (n : Nat) (rc31 : Int32 → Int32 → Int32 → Sg → Option (Int32 × Sg)) (rc40 : Int32 → Int32 → Int32 → Int32 → Sg → Option (Int32 × Sg)) (x1 : Int32) (x2 : Int32) (x3 : Int32) (x4 : Int32) (x5 : Int32) (x6 : Int32) (σ : Sg) : Option (Int32 × Sg) := ck x5 10 (lt (up2 σ 114 (ix x5) (vp_nar .boolean (1 : Int32))) fun σ11 => ck x6 10 (lt (up2 σ11 114 (ix x6) (vp_nar .boolean (1 : Int32))) fun σ12 => rc40 x1 x2 x3 (x4 + (1 : Int32)) σ12))
def s_X12_cutOff_93 (n : Nat) (rc31 : Int32 → Int32 → Int32 → Sg → Option (Int32 × Sg)) (rc40 : Int32 → Int32 → Int32 → Int32 → Sg → Option (Int32 × Sg)) (x1 : Int32) (x2 : Int32) (x3 : Int32) (x4 : Int32) (x5 : Int32) (y0 : Int32) (σ : Sg) : Option (Int32 × Sg) := if ((sr x1 x4) &&& (1 : Int32)) = 0 then (ck x5 10 (if (σ 114 (ix x5)) = 0 then (ck y0 10 (if (σ 114 (ix y0)) = 0 then (rc40 x1 x2 x3 (x4 + (1 : Int32)) σ) else (s_X12_cutOff_124 n rc31 rc40 x1 x2 x3 x4 x5 y0 σ))) else (s_X12_cutOff_124 n rc31 rc40 x1 x2 x3 x4 x5 y0 σ))) else (rc40 x1 x2 x3 (x4 + (1 : Int32)) σ)
def s_X12_cutOff_70 (n : Nat) (rc31 : Int32 → Int32 → Int32 → Sg → Option (Int32 × Sg)) (rc40 : Int32 → Int32 → Int32 → Int32 → Sg → Option (Int32 × Sg)) (x1 : Int32) (x2 : Int32) (x3 : Int32) (x4 : Int32) (y0 : Int32) (σ : Sg) : Option (Int32 × Sg) := if x2 = 0 then (ck x4 20 (s_X12_cutOff_93 n rc31 rc40 x1 x2 x3 x4 y0 (σ 74 (ix x4)) σ)) else (ck x4 20 (s_X12_cutOff_93 n rc31 rc40 x1 x2 x3 x4 y0 (σ 76 (ix x4)) σ))
def s_X12_cutOff_40b (n : Nat) (rc31 : Int32 → Int32 → Int32 → Sg → Option (Int32 × Sg)) (rc40 : Int32 → Int32 → Int32 → Int32 → Sg → Option (Int32 × Sg)) (x1 : Int32) (x2 : Int32) (x3 : Int32) (x4 : Int32) (σ : Sg) : Option (Int32 × Sg) := if (σ 71 2) ≤ x4 then (rc31 x1 x2 (x3 + (1 : Int32)) σ) else (if x2 = 0 then (ck x4 20 (s_X12_cutOff_70 n rc31 rc40 x1 x2 x3 x4 (σ 73 (ix x4)) σ)) else (ck x4 20 (s_X12_cutOff_70 n rc31 rc40 x1 x2 x3 x4 (σ 75 (ix x4)) σ)))
def s_X12_cutOff_40 (n : Nat) (rc31 : Int32 → Int32 → Int32 → Sg → Option (Int32 × Sg)) : Nat → Int32 → Int32 → Int32 → Int32 → Sg → Option (Int32 × Sg)
  | 0 => fun _ _ _ _ _ => none
  | k + 1 => s_X12_cutOff_40b n rc31 (s_X12_cutOff_40 n rc31 k)
def s_X12_cutOff_187 (n : Nat) (rc157 : Int32 → Int32 → Sg → Option (Int32 × Sg)) (x4 : Int32) (y0 : Int32) (y1 : Int32) (σ : Sg) : Option (Int32 × Sg) := bd (s_X12_one n y0 σ) fun r9 σ8 => lt (y1 ||| (sl r9 x4)) fun v10 => rc157 v10 (x4 + (1 : Int32)) σ8
def s_X12_cutOff_157b (n : Nat) (rc157 : Int32 → Int32 → Sg → Option (Int32 × Sg)) (x3 : Int32) (x4 : Int32) (σ : Sg) : Option (Int32 × Sg) := if (σ 71 11) ≤ x4 then (some (x3, σ)) else (ck x4 10 (ck (σ 81 (ix x4)) 10 (lt (if (σ 114 (ix (σ 81 (ix x4)))) = 0 then (1 : Int32) else (0 : Int32)) fun v7 => s_X12_cutOff_187 n rc157 x4 v7 x3 σ)))
def s_X12_cutOff_157 (n : Nat) : Nat → Int32 → Int32 → Sg → Option (Int32 × Sg)
  | 0 => fun _ _ _ => none
  | k + 1 => s_X12_cutOff_157b n (s_X12_cutOff_157 n k)
def s_X12_cutOff_31b (n : Nat) (rc31 : Int32 → Int32 → Int32 → Sg → Option (Int32 × Sg)) (x1 : Int32) (x2 : Int32) (x3 : Int32) (σ : Sg) : Option (Int32 × Sg) := if (10 : Int32) ≤ x3 then (s_X12_cutOff_157 n n (0 : Int32) (0 : Int32) σ) else (s_X12_cutOff_40 n rc31 n x1 x2 x3 (0 : Int32) σ)
def s_X12_cutOff_31 (n : Nat) : Nat → Int32 → Int32 → Int32 → Sg → Option (Int32 × Sg)
  | 0 => fun _ _ _ _ => none
  | k + 1 => s_X12_cutOff_31b n (s_X12_cutOff_31 n k)
def s_X12_cutOff_2b (n : Nat) (rc2 : Int32 → Int32 → Int32 → Sg → Option (Int32 × Sg)) (x1 : Int32) (x2 : Int32) (x3 : Int32) (σ : Sg) : Option (Int32 × Sg) := if (10 : Int32) ≤ x3 then (s_X12_cutOff_31 n n x1 x2 (0 : Int32) σ) else (lt (if x3 = 0 then (1 : Int32) else (0 : Int32)) fun v3 => ck x3 10 (lt (up2 σ 114 (ix x3) (vp_nar .boolean v3)) fun σ4 => rc2 x1 x2 (x3 + (1 : Int32)) σ4))
def s_X12_cutOff_2 (n : Nat) : Nat → Int32 → Int32 → Int32 → Sg → Option (Int32 × Sg)
  | 0 => fun _ _ _ _ => none
  | k + 1 => s_X12_cutOff_2b n (s_X12_cutOff_2 n k)
def s_X12_cutOff (n : Nat) (x1 : Int32) (x2 : Int32) (σ : Sg) : Option (Int32 × Sg) := s_X12_cutOff_2 n n x1 x2 (0 : Int32) σ
set_option maxRecDepth 20000 in
theorem b_X12_cutOff_124 {G : zG} {x : zX} {r : Int32} {τ : Sg} (O : zO G x cX12_cutOff RX12 1 40 7) (E : zE G x (some (.int)) (some (.int r)) τ) (n : Nat) (rc31 : Int32 → Int32 → Int32 → Sg → Option (Int32 × Sg)) (H31 : ∀ (x1 : Int32) (x2 : Int32) (x3 : Int32) (σ : Sg), rc31 x1 x2 x3 σ = some (r, τ) → V G x σ [(0, .ref (zad G 71)), (1, .int x1), (2, .int x2), (3, .int x3)] 31 []) (rc40 : Int32 → Int32 → Int32 → Int32 → Sg → Option (Int32 × Sg)) (H40 : ∀ (x1 : Int32) (x2 : Int32) (x3 : Int32) (x4 : Int32) (σ : Sg), rc40 x1 x2 x3 x4 σ = some (r, τ) → V G x σ [(0, .ref (zad G 71)), (1, .int x1), (2, .int x2), (3, .int x3), (4, .int x4)] 40 []) (x1 : Int32) (x2 : Int32) (x3 : Int32) (x4 : Int32) (x5 : Int32) (x6 : Int32) (σ : Sg) (h : s_X12_cutOff_124 n rc31 rc40 x1 x2 x3 x4 x5 x6 σ = some (r, τ)) : V G x σ [(0, .ref (zad G 71)), (1, .int x1), (2, .int x2), (3, .int x3), (4, .int x4), (5, .int x5), (6, .int x6)] 124 [] := by
  unfold s_X12_cutOff_124 at h
  refine V_aloadn 124 0 O dX12_cutOff_124 rfl rfl ?_
  refine V_getR 125 O k71 fl_X12_144 rf71_65 dX12_cutOff_125 ?_
  refine V_iload 128 5 O dX12_cutOff_128 rfl ?_
  refine V_iconst 130 O dX12_cutOff_130 ci_1 ?_
  refine V_zast 131 O k114 dX12_cutOff_131 h (fun σ11 h => ?_)
  refine V_aloadn 132 0 O dX12_cutOff_132 rfl rfl ?_
  refine V_getR 133 O k71 fl_X12_144 rf71_65 dX12_cutOff_133 ?_
  refine V_iload 136 6 O dX12_cutOff_136 rfl ?_
  refine V_iconst 138 O dX12_cutOff_138 ci_1 ?_
  refine V_zast 139 O k114 dX12_cutOff_139 h (fun σ12 h => ?_)
  refine V_iinc 140 4 [1, 2, 3, 4, 0, 5, 6] [(0, .ref (zad G 71)), (1, .int x1), (2, .int x2), (3, .int x3), (4, .int (x4 + (1 : Int32))), (5, .int x5), (6, .int x6)] O dX12_cutOff_140 rfl ci_1 (Nat.le_of_ble_eq_true rfl) rfl ?_
  refine V_goto 143 40 O dX12_cutOff_143 rfl ?_
  exact V_sub [0, 1, 2, 3, 4] rfl (H40 x1 x2 x3 (x4 + (1 : Int32)) σ12  h)
set_option maxRecDepth 20000 in
theorem b_X12_cutOff_93 {G : zG} {x : zX} {r : Int32} {τ : Sg} (O : zO G x cX12_cutOff RX12 1 40 7) (E : zE G x (some (.int)) (some (.int r)) τ) (n : Nat) (rc31 : Int32 → Int32 → Int32 → Sg → Option (Int32 × Sg)) (H31 : ∀ (x1 : Int32) (x2 : Int32) (x3 : Int32) (σ : Sg), rc31 x1 x2 x3 σ = some (r, τ) → V G x σ [(0, .ref (zad G 71)), (1, .int x1), (2, .int x2), (3, .int x3)] 31 []) (rc40 : Int32 → Int32 → Int32 → Int32 → Sg → Option (Int32 × Sg)) (H40 : ∀ (x1 : Int32) (x2 : Int32) (x3 : Int32) (x4 : Int32) (σ : Sg), rc40 x1 x2 x3 x4 σ = some (r, τ) → V G x σ [(0, .ref (zad G 71)), (1, .int x1), (2, .int x2), (3, .int x3), (4, .int x4)] 40 []) (x1 : Int32) (x2 : Int32) (x3 : Int32) (x4 : Int32) (x5 : Int32) (y0 : Int32) (σ : Sg) (h : s_X12_cutOff_93 n rc31 rc40 x1 x2 x3 x4 x5 y0 σ = some (r, τ)) : V G x σ [(0, .ref (zad G 71)), (1, .int x1), (2, .int x2), (3, .int x3), (4, .int x4), (5, .int x5)] 93 [.int y0] := by
  unfold s_X12_cutOff_93 at h
  refine V_istore 93 [1, 2, 3, 4, 5, 6, 0] [(0, .ref (zad G 71)), (1, .int x1), (2, .int x2), (3, .int x3), (4, .int x4), (5, .int x5), (6, .int y0)] O dX12_cutOff_93 (Nat.le_of_ble_eq_true rfl) rfl ?_
  refine V_iloadn 95 1 O dX12_cutOff_95 rfl rfl ?_
  refine V_iload 96 4 O dX12_cutOff_96 rfl ?_
  refine V_ishr 98 O dX12_cutOff_98 ?_
  refine V_iconst 99 O dX12_cutOff_99 ci_1 ?_
  refine V_iand 100 O dX12_cutOff_100 ?_
  refine V_if_ne 101 140 O dX12_cutOff_101 rfl h (fun h => ?_) (fun h => ?_)
  · refine V_iinc 140 4 [1, 2, 3, 4, 0, 5, 6] [(0, .ref (zad G 71)), (1, .int x1), (2, .int x2), (3, .int x3), (4, .int (x4 + (1 : Int32))), (5, .int x5), (6, .int y0)] O dX12_cutOff_140 rfl ci_1 (Nat.le_of_ble_eq_true rfl) rfl ?_
    refine V_goto 143 40 O dX12_cutOff_143 rfl ?_
    exact V_sub [0, 1, 2, 3, 4] rfl (H40 x1 x2 x3 (x4 + (1 : Int32)) σ  h)
  · refine V_aloadn 104 0 O dX12_cutOff_104 rfl rfl ?_
    refine V_getR 105 O k71 fl_X12_144 rf71_65 dX12_cutOff_105 ?_
    refine V_iload 108 5 O dX12_cutOff_108 rfl ?_
    refine V_zald 110 O k114 dX12_cutOff_110 h (fun h => ?_)
    refine V_if_ne 111 124 O dX12_cutOff_111 rfl h (fun h => ?_) (fun h => ?_)
    · exact V_sub [0, 1, 2, 3, 4, 5, 6] rfl (b_X12_cutOff_124 O E n rc31 H31 rc40 H40 x1 x2 x3 x4 x5 y0 σ  h)
    · refine V_aloadn 114 0 O dX12_cutOff_114 rfl rfl ?_
      refine V_getR 115 O k71 fl_X12_144 rf71_65 dX12_cutOff_115 ?_
      refine V_iload 118 6 O dX12_cutOff_118 rfl ?_
      refine V_zald 120 O k114 dX12_cutOff_120 h (fun h => ?_)
      refine V_if_eq 121 140 O dX12_cutOff_121 rfl h (fun h => ?_) (fun h => ?_)
      · refine V_iinc 140 4 [1, 2, 3, 4, 0, 5, 6] [(0, .ref (zad G 71)), (1, .int x1), (2, .int x2), (3, .int x3), (4, .int (x4 + (1 : Int32))), (5, .int x5), (6, .int y0)] O dX12_cutOff_140 rfl ci_1 (Nat.le_of_ble_eq_true rfl) rfl ?_
        refine V_goto 143 40 O dX12_cutOff_143 rfl ?_
        exact V_sub [0, 1, 2, 3, 4] rfl (H40 x1 x2 x3 (x4 + (1 : Int32)) σ  h)
      · exact V_sub [0, 1, 2, 3, 4, 5, 6] rfl (b_X12_cutOff_124 O E n rc31 H31 rc40 H40 x1 x2 x3 x4 x5 y0 σ  h)
set_option maxRecDepth 20000 in
theorem b_X12_cutOff_70 {G : zG} {x : zX} {r : Int32} {τ : Sg} (O : zO G x cX12_cutOff RX12 1 40 7) (E : zE G x (some (.int)) (some (.int r)) τ) (n : Nat) (rc31 : Int32 → Int32 → Int32 → Sg → Option (Int32 × Sg)) (H31 : ∀ (x1 : Int32) (x2 : Int32) (x3 : Int32) (σ : Sg), rc31 x1 x2 x3 σ = some (r, τ) → V G x σ [(0, .ref (zad G 71)), (1, .int x1), (2, .int x2), (3, .int x3)] 31 []) (rc40 : Int32 → Int32 → Int32 → Int32 → Sg → Option (Int32 × Sg)) (H40 : ∀ (x1 : Int32) (x2 : Int32) (x3 : Int32) (x4 : Int32) (σ : Sg), rc40 x1 x2 x3 x4 σ = some (r, τ) → V G x σ [(0, .ref (zad G 71)), (1, .int x1), (2, .int x2), (3, .int x3), (4, .int x4)] 40 []) (x1 : Int32) (x2 : Int32) (x3 : Int32) (x4 : Int32) (y0 : Int32) (σ : Sg) (h : s_X12_cutOff_70 n rc31 rc40 x1 x2 x3 x4 y0 σ = some (r, τ)) : V G x σ [(0, .ref (zad G 71)), (1, .int x1), (2, .int x2), (3, .int x3), (4, .int x4)] 70 [.int y0] := by
  unfold s_X12_cutOff_70 at h
  refine V_istore 70 [1, 2, 3, 4, 5, 0] [(0, .ref (zad G 71)), (1, .int x1), (2, .int x2), (3, .int x3), (4, .int x4), (5, .int y0)] O dX12_cutOff_70 (Nat.le_of_ble_eq_true rfl) rfl ?_
  refine V_iloadn 72 2 O dX12_cutOff_72 rfl rfl ?_
  refine V_if_eq 73 86 O dX12_cutOff_73 rfl h (fun h => ?_) (fun h => ?_)
  · refine V_aloadn 86 0 O dX12_cutOff_86 rfl rfl ?_
    refine V_getR 87 O k71 fl_X12_16 rf71_4 dX12_cutOff_87 ?_
    refine V_iload 90 4 O dX12_cutOff_90 rfl ?_
    refine V_iald 92 O k74 dX12_cutOff_92 h (fun h => ?_)
    exact V_sub [0, 1, 2, 3, 4, 5] rfl (b_X12_cutOff_93 O E n rc31 H31 rc40 H40 x1 x2 x3 x4 y0 (σ 74 (ix x4)) σ  h)
  · refine V_aloadn 76 0 O dX12_cutOff_76 rfl rfl ?_
    refine V_getR 77 O k71 fl_X12_22 rf71_6 dX12_cutOff_77 ?_
    refine V_iload 80 4 O dX12_cutOff_80 rfl ?_
    refine V_iald 82 O k76 dX12_cutOff_82 h (fun h => ?_)
    refine V_goto 83 93 O dX12_cutOff_83 rfl ?_
    exact V_sub [0, 1, 2, 3, 4, 5] rfl (b_X12_cutOff_93 O E n rc31 H31 rc40 H40 x1 x2 x3 x4 y0 (σ 76 (ix x4)) σ  h)
set_option maxRecDepth 20000 in
theorem b_X12_cutOff_40 {G : zG} {x : zX} {r : Int32} {τ : Sg} (O : zO G x cX12_cutOff RX12 1 40 7) (E : zE G x (some (.int)) (some (.int r)) τ) (n : Nat) (rc31 : Int32 → Int32 → Int32 → Sg → Option (Int32 × Sg)) (H31 : ∀ (x1 : Int32) (x2 : Int32) (x3 : Int32) (σ : Sg), rc31 x1 x2 x3 σ = some (r, τ) → V G x σ [(0, .ref (zad G 71)), (1, .int x1), (2, .int x2), (3, .int x3)] 31 []) (rc40 : Int32 → Int32 → Int32 → Int32 → Sg → Option (Int32 × Sg)) (H40 : ∀ (x1 : Int32) (x2 : Int32) (x3 : Int32) (x4 : Int32) (σ : Sg), rc40 x1 x2 x3 x4 σ = some (r, τ) → V G x σ [(0, .ref (zad G 71)), (1, .int x1), (2, .int x2), (3, .int x3), (4, .int x4)] 40 []) (x1 : Int32) (x2 : Int32) (x3 : Int32) (x4 : Int32) (σ : Sg) (h : s_X12_cutOff_40b n rc31 rc40 x1 x2 x3 x4 σ = some (r, τ)) : V G x σ [(0, .ref (zad G 71)), (1, .int x1), (2, .int x2), (3, .int x3), (4, .int x4)] 40 [] := by
  unfold s_X12_cutOff_40b at h
  refine V_iload 40 4 O dX12_cutOff_40 rfl ?_
  refine V_aloadn 42 0 O dX12_cutOff_42 rfl rfl ?_
  refine V_getI 43 O k71 fl_X12_168 dX12_cutOff_43 ?_
  refine V_icmp_ge 46 146 O dX12_cutOff_46 rfl h (fun h => ?_) (fun h => ?_)
  · refine V_iinc 146 3 [1, 2, 3, 0, 4] [(0, .ref (zad G 71)), (1, .int x1), (2, .int x2), (3, .int (x3 + (1 : Int32))), (4, .int x4)] O dX12_cutOff_146 rfl ci_1 (Nat.le_of_ble_eq_true rfl) rfl ?_
    refine V_goto 149 31 O dX12_cutOff_149 rfl ?_
    exact V_sub [0, 1, 2, 3] rfl (H31 x1 x2 (x3 + (1 : Int32)) σ  h)
  · refine V_iloadn 49 2 O dX12_cutOff_49 rfl rfl ?_
    refine V_if_eq 50 63 O dX12_cutOff_50 rfl h (fun h => ?_) (fun h => ?_)
    · refine V_aloadn 63 0 O dX12_cutOff_63 rfl rfl ?_
      refine V_getR 64 O k71 fl_X12_13 rf71_3 dX12_cutOff_64 ?_
      refine V_iload 67 4 O dX12_cutOff_67 rfl ?_
      refine V_iald 69 O k73 dX12_cutOff_69 h (fun h => ?_)
      exact V_sub [0, 1, 2, 3, 4] rfl (b_X12_cutOff_70 O E n rc31 H31 rc40 H40 x1 x2 x3 x4 (σ 73 (ix x4)) σ  h)
    · refine V_aloadn 53 0 O dX12_cutOff_53 rfl rfl ?_
      refine V_getR 54 O k71 fl_X12_19 rf71_5 dX12_cutOff_54 ?_
      refine V_iload 57 4 O dX12_cutOff_57 rfl ?_
      refine V_iald 59 O k75 dX12_cutOff_59 h (fun h => ?_)
      refine V_goto 60 70 O dX12_cutOff_60 rfl ?_
      exact V_sub [0, 1, 2, 3, 4] rfl (b_X12_cutOff_70 O E n rc31 H31 rc40 H40 x1 x2 x3 x4 (σ 75 (ix x4)) σ  h)
theorem bl_X12_cutOff_40 {G : zG} {x : zX} {r : Int32} {τ : Sg} (O : zO G x cX12_cutOff RX12 1 40 7) (E : zE G x (some (.int)) (some (.int r)) τ) (n : Nat) (rc31 : Int32 → Int32 → Int32 → Sg → Option (Int32 × Sg)) (H31 : ∀ (x1 : Int32) (x2 : Int32) (x3 : Int32) (σ : Sg), rc31 x1 x2 x3 σ = some (r, τ) → V G x σ [(0, .ref (zad G 71)), (1, .int x1), (2, .int x2), (3, .int x3)] 31 []) : ∀ (k : Nat) (x1 : Int32) (x2 : Int32) (x3 : Int32) (x4 : Int32) (σ : Sg), s_X12_cutOff_40 n rc31 k x1 x2 x3 x4 σ = some (r, τ) → V G x σ [(0, .ref (zad G 71)), (1, .int x1), (2, .int x2), (3, .int x3), (4, .int x4)] 40 [] := by
  intro k
  induction k with
  | zero => intro x1 x2 x3 x4 σ  h; cases h
  | succ k ih => intro x1 x2 x3 x4 σ  h; exact b_X12_cutOff_40 O E n rc31 H31 (s_X12_cutOff_40 n rc31 k) ih x1 x2 x3 x4 σ  h
set_option maxRecDepth 20000 in
theorem b_X12_cutOff_187 {G : zG} {x : zX} {r : Int32} {τ : Sg} (O : zO G x cX12_cutOff RX12 1 40 7) (E : zE G x (some (.int)) (some (.int r)) τ) (n : Nat) (rc157 : Int32 → Int32 → Sg → Option (Int32 × Sg)) (H157 : ∀ (x3 : Int32) (x4 : Int32) (σ : Sg), rc157 x3 x4 σ = some (r, τ) → V G x σ [(0, .ref (zad G 71)), (3, .int x3), (4, .int x4)] 157 []) (x4 : Int32) (y0 : Int32) (y1 : Int32) (σ : Sg) (h : s_X12_cutOff_187 n rc157 x4 y0 y1 σ = some (r, τ)) : V G x σ [(0, .ref (zad G 71)), (4, .int x4)] 187 [.int y0, .int y1] := by
  unfold s_X12_cutOff_187 at h
  obtain ⟨r9, σ8, g, h⟩ := bd_of h
  refine V_callSi 187 [.int y0] [.int y1] O mf_X12_one lk_X12_185 dX12_cutOff_187 rfl rfl (Nat.le_of_ble_eq_true rfl) ⟨(Nat.le_of_ble_eq_true rfl), (Nat.le_of_ble_eq_true rfl)⟩ (fun l => C_X12_one  g) ?_
  refine V_iload 190 1 O dX12_cutOff_190 rfl ?_
  refine V_ishl 192 O dX12_cutOff_192 ?_
  refine V_ior 193 O dX12_cutOff_193 ?_
  refine V_topi h (fun v10 h => ?_)
  refine V_istoren 194 [1, 0, 2] [(0, .ref (zad G 71)), (3, .int v10), (4, .int x4)] O dX12_cutOff_194 rfl (Nat.le_of_ble_eq_true rfl) rfl ?_
  refine V_iinc 195 2 [1, 2, 0] [(0, .ref (zad G 71)), (3, .int v10), (4, .int (x4 + (1 : Int32)))] O dX12_cutOff_195 rfl ci_1 (Nat.le_of_ble_eq_true rfl) rfl ?_
  refine V_goto 198 157 O dX12_cutOff_198 rfl ?_
  exact V_sub [0, 1, 2] rfl (H157 v10 (x4 + (1 : Int32)) σ8  h)
set_option maxRecDepth 20000 in
theorem b_X12_cutOff_157 {G : zG} {x : zX} {r : Int32} {τ : Sg} (O : zO G x cX12_cutOff RX12 1 40 7) (E : zE G x (some (.int)) (some (.int r)) τ) (n : Nat) (rc157 : Int32 → Int32 → Sg → Option (Int32 × Sg)) (H157 : ∀ (x3 : Int32) (x4 : Int32) (σ : Sg), rc157 x3 x4 σ = some (r, τ) → V G x σ [(0, .ref (zad G 71)), (3, .int x3), (4, .int x4)] 157 []) (x3 : Int32) (x4 : Int32) (σ : Sg) (h : s_X12_cutOff_157b n rc157 x3 x4 σ = some (r, τ)) : V G x σ [(0, .ref (zad G 71)), (3, .int x3), (4, .int x4)] 157 [] := by
  unfold s_X12_cutOff_157b at h
  refine V_iload 157 2 O dX12_cutOff_157 rfl ?_
  refine V_aloadn 159 0 O dX12_cutOff_159 rfl rfl ?_
  refine V_getI 160 O k71 fl_X12_171 dX12_cutOff_160 ?_
  refine V_icmp_ge 163 201 O dX12_cutOff_163 rfl h (fun h => ?_) (fun h => ?_)
  · refine V_iloadn 201 1 O dX12_cutOff_201 rfl rfl ?_
    exact V_iret 202 O E dX12_cutOff_202 h
  · refine V_iloadn 166 1 O dX12_cutOff_166 rfl rfl ?_
    refine V_aloadn 167 0 O dX12_cutOff_167 rfl rfl ?_
    refine V_getR 168 O k71 fl_X12_144 rf71_65 dX12_cutOff_168 ?_
    refine V_aloadn 171 0 O dX12_cutOff_171 rfl rfl ?_
    refine V_getR 172 O k71 fl_X12_38 rf71_12 dX12_cutOff_172 ?_
    refine V_iload 175 2 O dX12_cutOff_175 rfl ?_
    refine V_iald 177 O k81 dX12_cutOff_177 h (fun h => ?_)
    refine V_zald 178 O k114 dX12_cutOff_178 h (fun h => ?_)
    have J5 : V G x σ [(0, .ref (zad G 71)), (3, .int x3), (4, .int x4)] 187 [.int (if (σ 114 (ix (σ 81 (ix x4)))) = 0 then (1 : Int32) else (0 : Int32)), .int x3] := by
      refine V_topi h (fun v7 h => ?_)
      exact V_sub [0, 2] rfl (b_X12_cutOff_187 O E n rc157 H157 x4 v7 x3 σ  h)
    refine V_if_nec 179 186 O dX12_cutOff_179 rfl (fun c6 => ?_) (fun c6 => ?_)
    · refine V_iconst 186 O dX12_cutOff_186 ci_0 ?_
      exact V_top (by rw [if_neg c6]) J5
    · refine V_iconst 182 O dX12_cutOff_182 ci_1 ?_
      refine V_goto 183 187 O dX12_cutOff_183 rfl ?_
      exact V_top (by rw [if_pos c6]) J5
theorem bl_X12_cutOff_157 {G : zG} {x : zX} {r : Int32} {τ : Sg} (O : zO G x cX12_cutOff RX12 1 40 7) (E : zE G x (some (.int)) (some (.int r)) τ) (n : Nat) : ∀ (k : Nat) (x3 : Int32) (x4 : Int32) (σ : Sg), s_X12_cutOff_157 n k x3 x4 σ = some (r, τ) → V G x σ [(0, .ref (zad G 71)), (3, .int x3), (4, .int x4)] 157 [] := by
  intro k
  induction k with
  | zero => intro x3 x4 σ  h; cases h
  | succ k ih => intro x3 x4 σ  h; exact b_X12_cutOff_157 O E n  (s_X12_cutOff_157 n  k) ih x3 x4 σ  h
set_option maxRecDepth 20000 in
theorem b_X12_cutOff_31 {G : zG} {x : zX} {r : Int32} {τ : Sg} (O : zO G x cX12_cutOff RX12 1 40 7) (E : zE G x (some (.int)) (some (.int r)) τ) (n : Nat) (rc31 : Int32 → Int32 → Int32 → Sg → Option (Int32 × Sg)) (H31 : ∀ (x1 : Int32) (x2 : Int32) (x3 : Int32) (σ : Sg), rc31 x1 x2 x3 σ = some (r, τ) → V G x σ [(0, .ref (zad G 71)), (1, .int x1), (2, .int x2), (3, .int x3)] 31 []) (x1 : Int32) (x2 : Int32) (x3 : Int32) (σ : Sg) (h : s_X12_cutOff_31b n rc31 x1 x2 x3 σ = some (r, τ)) : V G x σ [(0, .ref (zad G 71)), (1, .int x1), (2, .int x2), (3, .int x3)] 31 [] := by
  unfold s_X12_cutOff_31b at h
  refine V_iloadn 31 3 O dX12_cutOff_31 rfl rfl ?_
  refine V_bipush 32 O dX12_cutOff_32 cb_10 ?_
  refine V_icmp_ge 34 152 O dX12_cutOff_34 rfl h (fun h => ?_) (fun h => ?_)
  · refine V_iconst 152 O dX12_cutOff_152 ci_0 ?_
    refine V_istoren 153 [1, 2, 3, 0] [(0, .ref (zad G 71)), (1, .int x1), (2, .int x2), (3, .int (0 : Int32))] O dX12_cutOff_153 rfl (Nat.le_of_ble_eq_true rfl) rfl ?_
    refine V_iconst 154 O dX12_cutOff_154 ci_0 ?_
    refine V_istore 155 [1, 2, 3, 4, 0] [(0, .ref (zad G 71)), (1, .int x1), (2, .int x2), (3, .int (0 : Int32)), (4, .int (0 : Int32))] O dX12_cutOff_155 (Nat.le_of_ble_eq_true rfl) rfl ?_
    exact V_sub [0, 3, 4] rfl (bl_X12_cutOff_157 O E n  n (0 : Int32) (0 : Int32) σ  h)
  · refine V_iconst 37 O dX12_cutOff_37 ci_0 ?_
    refine V_istore 38 [1, 2, 3, 4, 0] [(0, .ref (zad G 71)), (1, .int x1), (2, .int x2), (3, .int x3), (4, .int (0 : Int32))] O dX12_cutOff_38 (Nat.le_of_ble_eq_true rfl) rfl ?_
    exact V_sub [0, 1, 2, 3, 4] rfl (bl_X12_cutOff_40 O E n rc31 H31 n x1 x2 x3 (0 : Int32) σ  h)
theorem bl_X12_cutOff_31 {G : zG} {x : zX} {r : Int32} {τ : Sg} (O : zO G x cX12_cutOff RX12 1 40 7) (E : zE G x (some (.int)) (some (.int r)) τ) (n : Nat) : ∀ (k : Nat) (x1 : Int32) (x2 : Int32) (x3 : Int32) (σ : Sg), s_X12_cutOff_31 n k x1 x2 x3 σ = some (r, τ) → V G x σ [(0, .ref (zad G 71)), (1, .int x1), (2, .int x2), (3, .int x3)] 31 [] := by
  intro k
  induction k with
  | zero => intro x1 x2 x3 σ  h; cases h
  | succ k ih => intro x1 x2 x3 σ  h; exact b_X12_cutOff_31 O E n  (s_X12_cutOff_31 n  k) ih x1 x2 x3 σ  h
set_option maxRecDepth 20000 in
theorem b_X12_cutOff_2 {G : zG} {x : zX} {r : Int32} {τ : Sg} (O : zO G x cX12_cutOff RX12 1 40 7) (E : zE G x (some (.int)) (some (.int r)) τ) (n : Nat) (rc2 : Int32 → Int32 → Int32 → Sg → Option (Int32 × Sg)) (H2 : ∀ (x1 : Int32) (x2 : Int32) (x3 : Int32) (σ : Sg), rc2 x1 x2 x3 σ = some (r, τ) → V G x σ [(0, .ref (zad G 71)), (1, .int x1), (2, .int x2), (3, .int x3)] 2 []) (x1 : Int32) (x2 : Int32) (x3 : Int32) (σ : Sg) (h : s_X12_cutOff_2b n rc2 x1 x2 x3 σ = some (r, τ)) : V G x σ [(0, .ref (zad G 71)), (1, .int x1), (2, .int x2), (3, .int x3)] 2 [] := by
  unfold s_X12_cutOff_2b at h
  refine V_iloadn 2 3 O dX12_cutOff_2 rfl rfl ?_
  refine V_bipush 3 O dX12_cutOff_3 cb_10 ?_
  refine V_icmp_ge 5 29 O dX12_cutOff_5 rfl h (fun h => ?_) (fun h => ?_)
  · refine V_iconst 29 O dX12_cutOff_29 ci_0 ?_
    refine V_istoren 30 [1, 2, 3, 0] [(0, .ref (zad G 71)), (1, .int x1), (2, .int x2), (3, .int (0 : Int32))] O dX12_cutOff_30 rfl (Nat.le_of_ble_eq_true rfl) rfl ?_
    exact V_sub [0, 1, 2, 3] rfl (bl_X12_cutOff_31 O E n  n x1 x2 (0 : Int32) σ  h)
  · refine V_aloadn 8 0 O dX12_cutOff_8 rfl rfl ?_
    refine V_getR 9 O k71 fl_X12_144 rf71_65 dX12_cutOff_9 ?_
    refine V_iloadn 12 3 O dX12_cutOff_12 rfl rfl ?_
    refine V_iloadn 13 3 O dX12_cutOff_13 rfl rfl ?_
    have J1 : V G x σ [(0, .ref (zad G 71)), (1, .int x1), (2, .int x2), (3, .int x3)] 22 [.int (if x3 = 0 then (1 : Int32) else (0 : Int32)), .int x3, .ref (zad G 114)] := by
      refine V_topi h (fun v3 h => ?_)
      refine V_zast 22 O k114 dX12_cutOff_22 h (fun σ4 h => ?_)
      refine V_iinc 23 3 [1, 2, 3, 0] [(0, .ref (zad G 71)), (1, .int x1), (2, .int x2), (3, .int (x3 + (1 : Int32)))] O dX12_cutOff_23 rfl ci_1 (Nat.le_of_ble_eq_true rfl) rfl ?_
      refine V_goto 26 2 O dX12_cutOff_26 rfl ?_
      exact V_sub [0, 1, 2, 3] rfl (H2 x1 x2 (x3 + (1 : Int32)) σ4  h)
    refine V_if_nec 14 21 O dX12_cutOff_14 rfl (fun c2 => ?_) (fun c2 => ?_)
    · refine V_iconst 21 O dX12_cutOff_21 ci_0 ?_
      exact V_top (by rw [if_neg c2]) J1
    · refine V_iconst 17 O dX12_cutOff_17 ci_1 ?_
      refine V_goto 18 22 O dX12_cutOff_18 rfl ?_
      exact V_top (by rw [if_pos c2]) J1
theorem bl_X12_cutOff_2 {G : zG} {x : zX} {r : Int32} {τ : Sg} (O : zO G x cX12_cutOff RX12 1 40 7) (E : zE G x (some (.int)) (some (.int r)) τ) (n : Nat) : ∀ (k : Nat) (x1 : Int32) (x2 : Int32) (x3 : Int32) (σ : Sg), s_X12_cutOff_2 n k x1 x2 x3 σ = some (r, τ) → V G x σ [(0, .ref (zad G 71)), (1, .int x1), (2, .int x2), (3, .int x3)] 2 [] := by
  intro k
  induction k with
  | zero => intro x1 x2 x3 σ  h; cases h
  | succ k ih => intro x1 x2 x3 σ  h; exact b_X12_cutOff_2 O E n  (s_X12_cutOff_2 n  k) ih x1 x2 x3 σ  h
set_option maxRecDepth 20000 in
theorem C_X12_cutOff {l : Launch} {G : zG} {n : Nat} {x1 : Int32} {x2 : Int32} {σ : Sg} {r : Int32} {τ : Sg} (h : s_X12_cutOff n x1 x2 σ = some (r, τ)) : zM l G 1 yX12_cutOff (.code yX12_cutOff cX12_cutOff 7 (some (.int))) [.ref (zad G 71), .int x1, .int x2] σ (some (.int r)) τ := by
  refine zM_of (by decide) (Nat.le_of_ble_eq_true rfl) (fun x O E => ?_)
  have O : zO G x cX12_cutOff RX12 1 40 7 := O
  unfold s_X12_cutOff at h
  show V G x σ [(0, .ref (zad G 71)), (1, .int x1), (2, .int x2)] 0 []
  refine V_iconst 0 O dX12_cutOff_0 ci_0 ?_
  refine V_istoren 1 [1, 2, 3, 0] [(0, .ref (zad G 71)), (1, .int x1), (2, .int x2), (3, .int (0 : Int32))] O dX12_cutOff_1 rfl (Nat.le_of_ble_eq_true rfl) rfl ?_
  exact V_sub [0, 1, 2, 3] rfl (bl_X12_cutOff_2 O E n  n x1 x2 (0 : Int32) σ  h)
-- ==== WaterTownModel.cuts(II)I
def s_X12_cuts_79 (n : Nat) (y0 : Int32) (y1 : Int32) (σ : Sg) : Option (Int32 × Sg) := bd (s_X12_cutOff n y1 y0 σ) fun r10 σ9 => some (r10, σ9)
def s_X12_cuts_36b (n : Nat) (rc36 : Int32 → Int32 → Int32 → Sg → Option (Int32 × Sg)) (x2 : Int32) (x3 : Int32) (x4 : Int32) (σ : Sg) : Option (Int32 × Sg) := if (σ 71 2) ≤ x4 then (lt (if x2 = (1 : Int32) then (1 : Int32) else (0 : Int32)) fun v5 => s_X12_cuts_79 n v5 x3 σ) else (ck x4 20 (bd (s_X12_one n (σ 79 (ix x4)) σ) fun r7 σ6 => lt (x3 ||| (sl r7 x4)) fun v8 => rc36 x2 v8 (x4 + (1 : Int32)) σ6))
def s_X12_cuts_36 (n : Nat) : Nat → Int32 → Int32 → Int32 → Sg → Option (Int32 × Sg)
  | 0 => fun _ _ _ _ => none
  | k + 1 => s_X12_cuts_36b n (s_X12_cuts_36 n k)
def s_X12_cuts (n : Nat) (x1 : Int32) (x2 : Int32) (σ : Sg) : Option (Int32 × Sg) := if x1 < 0 then (some ((-1001 : Int32), σ)) else (if (sr x1 (σ 71 2)) = 0 then (bd (s_X12_in n x2.toInt64 (0 : Int64) (1 : Int64) σ) fun r2 σ1 => if r2 = 0 then (some ((-1002 : Int32), σ1)) else (s_X12_cuts_36 n n x2 x1 (0 : Int32) σ1)) else (some ((-1001 : Int32), σ)))
set_option maxRecDepth 20000 in
theorem b_X12_cuts_79 {G : zG} {x : zX} {r : Int32} {τ : Sg} (O : zO G x cX12_cuts RX12 2 80 5) (E : zE G x (some (.int)) (some (.int r)) τ) (n : Nat) (y0 : Int32) (y1 : Int32) (σ : Sg) (h : s_X12_cuts_79 n y0 y1 σ = some (r, τ)) : V G x σ [] 79 [.int y0, .int y1, .ref (zad G 71)] := by
  unfold s_X12_cuts_79 at h
  obtain ⟨r10, σ9, g, h⟩ := bd_of h
  refine V_callVi 79 [.int y1, .int y0] [] O mf_X12_cutOff lk_X12_405 k71 dX12_cuts_79 rfl rfl (Nat.le_of_ble_eq_true rfl) ⟨(Nat.le_of_ble_eq_true rfl), (Nat.le_of_ble_eq_true rfl)⟩ (fun l => C_X12_cutOff  g) ?_
  exact V_iret 82 O E dX12_cuts_82 h
set_option maxRecDepth 20000 in
theorem b_X12_cuts_36 {G : zG} {x : zX} {r : Int32} {τ : Sg} (O : zO G x cX12_cuts RX12 2 80 5) (E : zE G x (some (.int)) (some (.int r)) τ) (n : Nat) (rc36 : Int32 → Int32 → Int32 → Sg → Option (Int32 × Sg)) (H36 : ∀ (x2 : Int32) (x3 : Int32) (x4 : Int32) (σ : Sg), rc36 x2 x3 x4 σ = some (r, τ) → V G x σ [(0, .ref (zad G 71)), (2, .int x2), (3, .int x3), (4, .int x4)] 36 []) (x2 : Int32) (x3 : Int32) (x4 : Int32) (σ : Sg) (h : s_X12_cuts_36b n rc36 x2 x3 x4 σ = some (r, τ)) : V G x σ [(0, .ref (zad G 71)), (2, .int x2), (3, .int x3), (4, .int x4)] 36 [] := by
  unfold s_X12_cuts_36b at h
  refine V_iload 36 3 O dX12_cuts_36 rfl ?_
  refine V_aloadn 38 0 O dX12_cuts_38 rfl rfl ?_
  refine V_getI 39 O k71 fl_X12_168 dX12_cuts_39 ?_
  refine V_icmp_ge 42 67 O dX12_cuts_42 rfl h (fun h => ?_) (fun h => ?_)
  · refine V_aloadn 67 0 O dX12_cuts_67 rfl rfl ?_
    refine V_iloadn 68 2 O dX12_cuts_68 rfl rfl ?_
    refine V_iloadn 69 1 O dX12_cuts_69 rfl rfl ?_
    refine V_iconst 70 O dX12_cuts_70 ci_1 ?_
    have J3 : V G x σ [(0, .ref (zad G 71)), (2, .int x2), (3, .int x3), (4, .int x4)] 79 [.int (if x2 = (1 : Int32) then (1 : Int32) else (0 : Int32)), .int x3, .ref (zad G 71)] := by
      refine V_topi h (fun v5 h => ?_)
      exact V_sub [] rfl (b_X12_cuts_79 O E n  v5 x3 σ  h)
    refine V_icmp_nec 71 78 O dX12_cuts_71 rfl (fun c4 => ?_) (fun c4 => ?_)
    · refine V_iconst 78 O dX12_cuts_78 ci_0 ?_
      exact V_top (by rw [if_neg c4]) J3
    · refine V_iconst 74 O dX12_cuts_74 ci_1 ?_
      refine V_goto 75 79 O dX12_cuts_75 rfl ?_
      exact V_top (by rw [if_pos c4]) J3
  · refine V_iloadn 45 2 O dX12_cuts_45 rfl rfl ?_
    refine V_aloadn 46 0 O dX12_cuts_46 rfl rfl ?_
    refine V_getR 47 O k71 fl_X12_31 rf71_9 dX12_cuts_47 ?_
    refine V_iload 50 3 O dX12_cuts_50 rfl ?_
    refine V_zald 52 O k79 dX12_cuts_52 h (fun h => ?_)
    obtain ⟨r7, σ6, g, h⟩ := bd_of h
    refine V_callSi 53 [.int (σ 79 (ix x4))] [.int x3] O mf_X12_one lk_X12_185 dX12_cuts_53 rfl rfl (Nat.le_of_ble_eq_true rfl) ⟨(Nat.le_of_ble_eq_true rfl), (Nat.le_of_ble_eq_true rfl)⟩ (fun l => C_X12_one  g) ?_
    refine V_iload 56 3 O dX12_cuts_56 rfl ?_
    refine V_ishl 58 O dX12_cuts_58 ?_
    refine V_ior 59 O dX12_cuts_59 ?_
    refine V_topi h (fun v8 h => ?_)
    refine V_istoren 60 [1, 2, 0, 3] [(0, .ref (zad G 71)), (2, .int x2), (3, .int v8), (4, .int x4)] O dX12_cuts_60 rfl (Nat.le_of_ble_eq_true rfl) rfl ?_
    refine V_iinc 61 3 [1, 2, 3, 0] [(0, .ref (zad G 71)), (2, .int x2), (3, .int v8), (4, .int (x4 + (1 : Int32)))] O dX12_cuts_61 rfl ci_1 (Nat.le_of_ble_eq_true rfl) rfl ?_
    refine V_goto 64 36 O dX12_cuts_64 rfl ?_
    exact V_sub [0, 1, 2, 3] rfl (H36 x2 v8 (x4 + (1 : Int32)) σ6  h)
theorem bl_X12_cuts_36 {G : zG} {x : zX} {r : Int32} {τ : Sg} (O : zO G x cX12_cuts RX12 2 80 5) (E : zE G x (some (.int)) (some (.int r)) τ) (n : Nat) : ∀ (k : Nat) (x2 : Int32) (x3 : Int32) (x4 : Int32) (σ : Sg), s_X12_cuts_36 n k x2 x3 x4 σ = some (r, τ) → V G x σ [(0, .ref (zad G 71)), (2, .int x2), (3, .int x3), (4, .int x4)] 36 [] := by
  intro k
  induction k with
  | zero => intro x2 x3 x4 σ  h; cases h
  | succ k ih => intro x2 x3 x4 σ  h; exact b_X12_cuts_36 O E n  (s_X12_cuts_36 n  k) ih x2 x3 x4 σ  h
set_option maxRecDepth 20000 in
theorem C_X12_cuts {l : Launch} {G : zG} {n : Nat} {x1 : Int32} {x2 : Int32} {σ : Sg} {r : Int32} {τ : Sg} (h : s_X12_cuts n x1 x2 σ = some (r, τ)) : zM l G 2 yX12_cuts (.code yX12_cuts cX12_cuts 5 (some (.int))) [.ref (zad G 71), .int x1, .int x2] σ (some (.int r)) τ := by
  refine zM_of (by decide) (Nat.le_of_ble_eq_true rfl) (fun x O E => ?_)
  have O : zO G x cX12_cuts RX12 2 80 5 := O
  unfold s_X12_cuts at h
  show V G x σ [(0, .ref (zad G 71)), (1, .int x1), (2, .int x2)] 0 []
  refine V_iloadn 0 1 O dX12_cuts_0 rfl rfl ?_
  refine V_if_lt 1 13 O dX12_cuts_1 rfl h (fun h => ?_) (fun h => ?_)
  · refine V_sipush 13 O dX12_cuts_13 cs_m1001 ?_
    exact V_iret 16 O E dX12_cuts_16 h
  · refine V_iloadn 4 1 O dX12_cuts_4 rfl rfl ?_
    refine V_aloadn 5 0 O dX12_cuts_5 rfl rfl ?_
    refine V_getI 6 O k71 fl_X12_168 dX12_cuts_6 ?_
    refine V_ishr 9 O dX12_cuts_9 ?_
    refine V_if_eq 10 17 O dX12_cuts_10 rfl h (fun h => ?_) (fun h => ?_)
    · refine V_iloadn 17 2 O dX12_cuts_17 rfl rfl ?_
      refine V_i2l 18 O dX12_cuts_18 ?_
      refine V_lconst 19 O dX12_cuts_19 cl_0 ?_
      refine V_lconst 20 O dX12_cuts_20 cl_1 ?_
      obtain ⟨r2, σ1, g, h⟩ := bd_of h
      refine V_callSi 21 [.long x2.toInt64, .long (0 : Int64), .long (1 : Int64)] [] O mf_X12_in lk_X12_162 dX12_cuts_21 rfl rfl (Nat.le_of_ble_eq_true rfl) ⟨(Nat.le_of_ble_eq_true rfl), (Nat.le_of_ble_eq_true rfl)⟩ (fun l => C_X12_in  g) ?_
      refine V_if_ne 24 31 O dX12_cuts_24 rfl h (fun h => ?_) (fun h => ?_)
      · refine V_iloadn 31 1 O dX12_cuts_31 rfl rfl ?_
        refine V_istoren 32 [1, 2, 3, 0] [(0, .ref (zad G 71)), (1, .int x1), (2, .int x2), (3, .int x1)] O dX12_cuts_32 rfl (Nat.le_of_ble_eq_true rfl) rfl ?_
        refine V_iconst 33 O dX12_cuts_33 ci_0 ?_
        refine V_istore 34 [1, 2, 3, 4, 0] [(0, .ref (zad G 71)), (1, .int x1), (2, .int x2), (3, .int x1), (4, .int (0 : Int32))] O dX12_cuts_34 (Nat.le_of_ble_eq_true rfl) rfl ?_
        exact V_sub [0, 2, 3, 4] rfl (bl_X12_cuts_36 O E n  n x2 x1 (0 : Int32) σ1  h)
      · refine V_sipush 27 O dX12_cuts_27 cs_m1002 ?_
        exact V_iret 30 O E dX12_cuts_30 h
    · refine V_sipush 13 O dX12_cuts_13 cs_m1001 ?_
      exact V_iret 16 O E dX12_cuts_16 h
-- ==== WaterTownModel.wrong()I
def s_X12_wrong_37 (n : Nat) (rc4 : Int32 → Int32 → Sg → Option (Int32 × Sg)) (x2 : Int32) (y0 : Int32) (y1 : Int32) (σ : Sg) : Option (Int32 × Sg) := bd (s_X12_one n y0 σ) fun r9 σ8 => lt (y1 ||| (sl r9 x2)) fun v10 => rc4 v10 (x2 + (1 : Int32)) σ8
def s_X12_wrong_4b (n : Nat) (rc4 : Int32 → Int32 → Sg → Option (Int32 × Sg)) (x1 : Int32) (x2 : Int32) (σ : Sg) : Option (Int32 × Sg) := if (σ 71 2) ≤ x2 then (some (x1, σ)) else (bd (s_X12_cutOff n (sl (1 : Int32) x2) (0 : Int32) σ) fun r2 σ1 => bd (s_X12_cutOff n (sl (1 : Int32) x2) (1 : Int32) σ1) fun r4 σ3 => lt (if r2 = r4 then (0 : Int32) else (1 : Int32)) fun v7 => s_X12_wrong_37 n rc4 x2 v7 x1 σ3)
def s_X12_wrong_4 (n : Nat) : Nat → Int32 → Int32 → Sg → Option (Int32 × Sg)
  | 0 => fun _ _ _ => none
  | k + 1 => s_X12_wrong_4b n (s_X12_wrong_4 n k)
def s_X12_wrong (n : Nat) (σ : Sg) : Option (Int32 × Sg) := s_X12_wrong_4 n n (0 : Int32) (0 : Int32) σ
set_option maxRecDepth 20000 in
theorem b_X12_wrong_37 {G : zG} {x : zX} {r : Int32} {τ : Sg} (O : zO G x cX12_wrong RX12 2 80 3) (E : zE G x (some (.int)) (some (.int r)) τ) (n : Nat) (rc4 : Int32 → Int32 → Sg → Option (Int32 × Sg)) (H4 : ∀ (x1 : Int32) (x2 : Int32) (σ : Sg), rc4 x1 x2 σ = some (r, τ) → V G x σ [(0, .ref (zad G 71)), (1, .int x1), (2, .int x2)] 4 []) (x2 : Int32) (y0 : Int32) (y1 : Int32) (σ : Sg) (h : s_X12_wrong_37 n rc4 x2 y0 y1 σ = some (r, τ)) : V G x σ [(0, .ref (zad G 71)), (2, .int x2)] 37 [.int y0, .int y1] := by
  unfold s_X12_wrong_37 at h
  obtain ⟨r9, σ8, g, h⟩ := bd_of h
  refine V_callSi 37 [.int y0] [.int y1] O mf_X12_one lk_X12_185 dX12_wrong_37 rfl rfl (Nat.le_of_ble_eq_true rfl) ⟨(Nat.le_of_ble_eq_true rfl), (Nat.le_of_ble_eq_true rfl)⟩ (fun l => C_X12_one  g) ?_
  refine V_iloadn 40 1 O dX12_wrong_40 rfl rfl ?_
  refine V_ishl 41 O dX12_wrong_41 ?_
  refine V_ior 42 O dX12_wrong_42 ?_
  refine V_topi h (fun v10 h => ?_)
  refine V_istoren 43 [1, 0, 2] [(0, .ref (zad G 71)), (1, .int v10), (2, .int x2)] O dX12_wrong_43 rfl (Nat.le_of_ble_eq_true rfl) rfl ?_
  refine V_iinc 44 2 [1, 2, 0] [(0, .ref (zad G 71)), (1, .int v10), (2, .int (x2 + (1 : Int32)))] O dX12_wrong_44 rfl ci_1 (Nat.le_of_ble_eq_true rfl) rfl ?_
  refine V_goto 47 4 O dX12_wrong_47 rfl ?_
  exact V_sub [0, 1, 2] rfl (H4 v10 (x2 + (1 : Int32)) σ8  h)
set_option maxRecDepth 20000 in
theorem b_X12_wrong_4 {G : zG} {x : zX} {r : Int32} {τ : Sg} (O : zO G x cX12_wrong RX12 2 80 3) (E : zE G x (some (.int)) (some (.int r)) τ) (n : Nat) (rc4 : Int32 → Int32 → Sg → Option (Int32 × Sg)) (H4 : ∀ (x1 : Int32) (x2 : Int32) (σ : Sg), rc4 x1 x2 σ = some (r, τ) → V G x σ [(0, .ref (zad G 71)), (1, .int x1), (2, .int x2)] 4 []) (x1 : Int32) (x2 : Int32) (σ : Sg) (h : s_X12_wrong_4b n rc4 x1 x2 σ = some (r, τ)) : V G x σ [(0, .ref (zad G 71)), (1, .int x1), (2, .int x2)] 4 [] := by
  unfold s_X12_wrong_4b at h
  refine V_iloadn 4 2 O dX12_wrong_4 rfl rfl ?_
  refine V_aloadn 5 0 O dX12_wrong_5 rfl rfl ?_
  refine V_getI 6 O k71 fl_X12_168 dX12_wrong_6 ?_
  refine V_icmp_ge 9 50 O dX12_wrong_9 rfl h (fun h => ?_) (fun h => ?_)
  · refine V_iloadn 50 1 O dX12_wrong_50 rfl rfl ?_
    exact V_iret 51 O E dX12_wrong_51 h
  · refine V_iloadn 12 1 O dX12_wrong_12 rfl rfl ?_
    refine V_aloadn 13 0 O dX12_wrong_13 rfl rfl ?_
    refine V_iconst 14 O dX12_wrong_14 ci_1 ?_
    refine V_iloadn 15 2 O dX12_wrong_15 rfl rfl ?_
    refine V_ishl 16 O dX12_wrong_16 ?_
    refine V_iconst 17 O dX12_wrong_17 ci_0 ?_
    obtain ⟨r2, σ1, g, h⟩ := bd_of h
    refine V_callVi 18 [.int (sl (1 : Int32) x2), .int (0 : Int32)] [.int x1] O mf_X12_cutOff lk_X12_405 k71 dX12_wrong_18 rfl rfl (Nat.le_of_ble_eq_true rfl) ⟨(Nat.le_of_ble_eq_true rfl), (Nat.le_of_ble_eq_true rfl)⟩ (fun l => C_X12_cutOff  g) ?_
    refine V_aloadn 21 0 O dX12_wrong_21 rfl rfl ?_
    refine V_iconst 22 O dX12_wrong_22 ci_1 ?_
    refine V_iloadn 23 2 O dX12_wrong_23 rfl rfl ?_
    refine V_ishl 24 O dX12_wrong_24 ?_
    refine V_iconst 25 O dX12_wrong_25 ci_1 ?_
    obtain ⟨r4, σ3, g, h⟩ := bd_of h
    refine V_callVi 26 [.int (sl (1 : Int32) x2), .int (1 : Int32)] [.int r2, .int x1] O mf_X12_cutOff lk_X12_405 k71 dX12_wrong_26 rfl rfl (Nat.le_of_ble_eq_true rfl) ⟨(Nat.le_of_ble_eq_true rfl), (Nat.le_of_ble_eq_true rfl)⟩ (fun l => C_X12_cutOff  g) ?_
    have J5 : V G x σ3 [(0, .ref (zad G 71)), (1, .int x1), (2, .int x2)] 37 [.int (if r2 = r4 then (0 : Int32) else (1 : Int32)), .int x1] := by
      refine V_topi h (fun v7 h => ?_)
      exact V_sub [0, 2] rfl (b_X12_wrong_37 O E n rc4 H4 x2 v7 x1 σ3  h)
    refine V_icmp_eqc 29 36 O dX12_wrong_29 rfl (fun c6 => ?_) (fun c6 => ?_)
    · refine V_iconst 36 O dX12_wrong_36 ci_0 ?_
      exact V_top (by rw [if_pos c6]) J5
    · refine V_iconst 32 O dX12_wrong_32 ci_1 ?_
      refine V_goto 33 37 O dX12_wrong_33 rfl ?_
      exact V_top (by rw [if_neg c6]) J5
theorem bl_X12_wrong_4 {G : zG} {x : zX} {r : Int32} {τ : Sg} (O : zO G x cX12_wrong RX12 2 80 3) (E : zE G x (some (.int)) (some (.int r)) τ) (n : Nat) : ∀ (k : Nat) (x1 : Int32) (x2 : Int32) (σ : Sg), s_X12_wrong_4 n k x1 x2 σ = some (r, τ) → V G x σ [(0, .ref (zad G 71)), (1, .int x1), (2, .int x2)] 4 [] := by
  intro k
  induction k with
  | zero => intro x1 x2 σ  h; cases h
  | succ k ih => intro x1 x2 σ  h; exact b_X12_wrong_4 O E n  (s_X12_wrong_4 n  k) ih x1 x2 σ  h
set_option maxRecDepth 20000 in
theorem C_X12_wrong {l : Launch} {G : zG} {n : Nat} {σ : Sg} {r : Int32} {τ : Sg} (h : s_X12_wrong n σ = some (r, τ)) : zM l G 2 yX12_wrong (.code yX12_wrong cX12_wrong 3 (some (.int))) [.ref (zad G 71)] σ (some (.int r)) τ := by
  refine zM_of (by decide) (Nat.le_of_ble_eq_true rfl) (fun x O E => ?_)
  have O : zO G x cX12_wrong RX12 2 80 3 := O
  unfold s_X12_wrong at h
  show V G x σ [(0, .ref (zad G 71))] 0 []
  refine V_iconst 0 O dX12_wrong_0 ci_0 ?_
  refine V_istoren 1 [1, 0] [(0, .ref (zad G 71)), (1, .int (0 : Int32))] O dX12_wrong_1 rfl (Nat.le_of_ble_eq_true rfl) rfl ?_
  refine V_iconst 2 O dX12_wrong_2 ci_0 ?_
  refine V_istoren 3 [1, 2, 0] [(0, .ref (zad G 71)), (1, .int (0 : Int32)), (2, .int (0 : Int32))] O dX12_wrong_3 rfl (Nat.le_of_ble_eq_true rfl) rfl ?_
  exact V_sub [0, 1, 2] rfl (bl_X12_wrong_4 O E n  n (0 : Int32) (0 : Int32) σ  h)
-- ==== WaterTownModel.gauge(II)I
def s_X12_gauge (n : Nat) (x1 : Int32) (x2 : Int32) (σ : Sg) : Option (Int32 × Sg) := if x1 < 0 then (some ((-1001 : Int32), σ)) else (if (sr x1 (σ 71 2)) = 0 then (bd (s_X12_in n x2.toInt64 (0 : Int64) (9999 : Int64) σ) fun r2 σ1 => if r2 = 0 then (some ((-1002 : Int32), σ1)) else (if (σ1 71 66) = (6 : Int32) then (some ((-1004 : Int32), σ1)) else (ck (σ1 71 66) 6 (lt (up2 σ1 115 (ix (σ1 71 66)) x1) fun σ3 => ck (σ3 71 66) 6 (lt (up2 σ3 116 (ix (σ3 71 66)) x2) fun σ4 => lt (up2 σ4 71 66 ((σ4 71 66) + (1 : Int32))) fun σ5 => some (σ5 71 66, σ5)))))) else (some ((-1001 : Int32), σ)))
set_option maxRecDepth 20000 in
theorem C_X12_gauge {l : Launch} {G : zG} {n : Nat} {x1 : Int32} {x2 : Int32} {σ : Sg} {r : Int32} {τ : Sg} (h : s_X12_gauge n x1 x2 σ = some (r, τ)) : zM l G 1 yX12_gauge (.code yX12_gauge cX12_gauge 3 (some (.int))) [.ref (zad G 71), .int x1, .int x2] σ (some (.int r)) τ := by
  refine zM_of (by decide) (Nat.le_of_ble_eq_true rfl) (fun x O E => ?_)
  have O : zO G x cX12_gauge RX12 1 40 3 := O
  unfold s_X12_gauge at h
  show V G x σ [(0, .ref (zad G 71)), (1, .int x1), (2, .int x2)] 0 []
  refine V_iloadn 0 1 O dX12_gauge_0 rfl rfl ?_
  refine V_if_lt 1 13 O dX12_gauge_1 rfl h (fun h => ?_) (fun h => ?_)
  · refine V_sipush 13 O dX12_gauge_13 cs_m1001 ?_
    exact V_iret 16 O E dX12_gauge_16 h
  · refine V_iloadn 4 1 O dX12_gauge_4 rfl rfl ?_
    refine V_aloadn 5 0 O dX12_gauge_5 rfl rfl ?_
    refine V_getI 6 O k71 fl_X12_168 dX12_gauge_6 ?_
    refine V_ishr 9 O dX12_gauge_9 ?_
    refine V_if_eq 10 17 O dX12_gauge_10 rfl h (fun h => ?_) (fun h => ?_)
    · refine V_iloadn 17 2 O dX12_gauge_17 rfl rfl ?_
      refine V_i2l 18 O dX12_gauge_18 ?_
      refine V_lconst 19 O dX12_gauge_19 cl_0 ?_
      refine V_ldc2 20 O dX12_gauge_20 ld_X12_192 ?_
      obtain ⟨r2, σ1, g, h⟩ := bd_of h
      refine V_callSi 23 [.long x2.toInt64, .long (0 : Int64), .long (9999 : Int64)] [] O mf_X12_in lk_X12_162 dX12_gauge_23 rfl rfl (Nat.le_of_ble_eq_true rfl) ⟨(Nat.le_of_ble_eq_true rfl), (Nat.le_of_ble_eq_true rfl)⟩ (fun l => C_X12_in  g) ?_
      refine V_if_ne 26 33 O dX12_gauge_26 rfl h (fun h => ?_) (fun h => ?_)
      · refine V_aloadn 33 0 O dX12_gauge_33 rfl rfl ?_
        refine V_getI 34 O k71 fl_X12_358 dX12_gauge_34 ?_
        refine V_bipush 37 O dX12_gauge_37 cb_6 ?_
        refine V_icmp_ne 39 46 O dX12_gauge_39 rfl h (fun h => ?_) (fun h => ?_)
        · refine V_aloadn 46 0 O dX12_gauge_46 rfl rfl ?_
          refine V_getR 47 O k71 fl_X12_147 rf71_67 dX12_gauge_47 ?_
          refine V_aloadn 50 0 O dX12_gauge_50 rfl rfl ?_
          refine V_getI 51 O k71 fl_X12_358 dX12_gauge_51 ?_
          refine V_iloadn 54 1 O dX12_gauge_54 rfl rfl ?_
          refine V_iast 55 O k115 dX12_gauge_55 h (fun σ3 h => ?_)
          refine V_aloadn 56 0 O dX12_gauge_56 rfl rfl ?_
          refine V_getR 57 O k71 fl_X12_150 rf71_68 dX12_gauge_57 ?_
          refine V_aloadn 60 0 O dX12_gauge_60 rfl rfl ?_
          refine V_getI 61 O k71 fl_X12_358 dX12_gauge_61 ?_
          refine V_iloadn 64 2 O dX12_gauge_64 rfl rfl ?_
          refine V_iast 65 O k116 dX12_gauge_65 h (fun σ4 h => ?_)
          refine V_aloadn 66 0 O dX12_gauge_66 rfl rfl ?_
          refine V_dup 67 O dX12_gauge_67 rfl ?_
          refine V_getI 68 O k71 fl_X12_358 dX12_gauge_68 ?_
          refine V_iconst 71 O dX12_gauge_71 ci_1 ?_
          refine V_iadd 72 O dX12_gauge_72 ?_
          refine V_put 73 O k71 fp_X12_358 dX12_gauge_73 h (fun σ5 h => ?_)
          refine V_aloadn 76 0 O dX12_gauge_76 rfl rfl ?_
          refine V_getI 77 O k71 fl_X12_358 dX12_gauge_77 ?_
          exact V_iret 80 O E dX12_gauge_80 h
        · refine V_sipush 42 O dX12_gauge_42 cs_m1004 ?_
          exact V_iret 45 O E dX12_gauge_45 h
      · refine V_sipush 29 O dX12_gauge_29 cs_m1002 ?_
        exact V_iret 32 O E dX12_gauge_32 h
    · refine V_sipush 13 O dX12_gauge_13 cs_m1001 ?_
      exact V_iret 16 O E dX12_gauge_16 h
-- ==== WaterTownModel.guess(II)I
def s_X12_guess_33 (n : Nat) (x1 : Int32) (x2 : Int32) (σ : Sg) : Option (Int32 × Sg) := if x2 = (-1 : Int32) then (ck x1 20 (lt (up2 σ 80 (ix x1) x2) fun σ5 => some ((1 : Int32), σ5))) else (bd (s_X12_guessMany n x1 σ) fun r7 σ6 => if r7 = (12 : Int32) then (some ((-1004 : Int32), σ6)) else (ck x1 20 (lt (up2 σ6 80 (ix x1) x2) fun σ8 => some ((1 : Int32), σ8))))
def s_X12_guess (n : Nat) (x1 : Int32) (x2 : Int32) (σ : Sg) : Option (Int32 × Sg) := bd (s_X12_noPipe n x1 σ) fun r2 σ1 => if r2 = 0 then (if x2 = (-1 : Int32) then (s_X12_guess_33 n x1 x2 σ1) else (bd (s_X12_in n x2.toInt64 (1 : Int64) (999 : Int64) σ1) fun r4 σ3 => if r4 = 0 then (some ((-1002 : Int32), σ3)) else (s_X12_guess_33 n x1 x2 σ3))) else (some ((-1001 : Int32), σ1))
set_option maxRecDepth 20000 in
theorem b_X12_guess_33 {G : zG} {x : zX} {r : Int32} {τ : Sg} (O : zO G x cX12_guess RX12 2 80 3) (E : zE G x (some (.int)) (some (.int r)) τ) (n : Nat) (x1 : Int32) (x2 : Int32) (σ : Sg) (h : s_X12_guess_33 n x1 x2 σ = some (r, τ)) : V G x σ [(0, .ref (zad G 71)), (1, .int x1), (2, .int x2)] 33 [] := by
  unfold s_X12_guess_33 at h
  refine V_iloadn 33 2 O dX12_guess_33 rfl rfl ?_
  refine V_iconst 34 O dX12_guess_34 ci_m1 ?_
  refine V_icmp_eq 35 52 O dX12_guess_35 rfl h (fun h => ?_) (fun h => ?_)
  · refine V_aloadn 52 0 O dX12_guess_52 rfl rfl ?_
    refine V_getR 53 O k71 fl_X12_35 rf71_10 dX12_guess_53 ?_
    refine V_iloadn 56 1 O dX12_guess_56 rfl rfl ?_
    refine V_iloadn 57 2 O dX12_guess_57 rfl rfl ?_
    refine V_iast 58 O k80 dX12_guess_58 h (fun σ5 h => ?_)
    refine V_iconst 59 O dX12_guess_59 ci_1 ?_
    exact V_iret 60 O E dX12_guess_60 h
  · refine V_aloadn 38 0 O dX12_guess_38 rfl rfl ?_
    refine V_iloadn 39 1 O dX12_guess_39 rfl rfl ?_
    obtain ⟨r7, σ6, g, h⟩ := bd_of h
    refine V_callVi 40 [.int x1] [] O mf_X12_guessMany lk_X12_361 k71 dX12_guess_40 rfl rfl (Nat.le_of_ble_eq_true rfl) ⟨(Nat.le_of_ble_eq_true rfl), (Nat.le_of_ble_eq_true rfl)⟩ (fun l => C_X12_guessMany  g) ?_
    refine V_bipush 43 O dX12_guess_43 cb_12 ?_
    refine V_icmp_ne 45 52 O dX12_guess_45 rfl h (fun h => ?_) (fun h => ?_)
    · refine V_aloadn 52 0 O dX12_guess_52 rfl rfl ?_
      refine V_getR 53 O k71 fl_X12_35 rf71_10 dX12_guess_53 ?_
      refine V_iloadn 56 1 O dX12_guess_56 rfl rfl ?_
      refine V_iloadn 57 2 O dX12_guess_57 rfl rfl ?_
      refine V_iast 58 O k80 dX12_guess_58 h (fun σ8 h => ?_)
      refine V_iconst 59 O dX12_guess_59 ci_1 ?_
      exact V_iret 60 O E dX12_guess_60 h
    · refine V_sipush 48 O dX12_guess_48 cs_m1004 ?_
      exact V_iret 51 O E dX12_guess_51 h
set_option maxRecDepth 20000 in
theorem C_X12_guess {l : Launch} {G : zG} {n : Nat} {x1 : Int32} {x2 : Int32} {σ : Sg} {r : Int32} {τ : Sg} (h : s_X12_guess n x1 x2 σ = some (r, τ)) : zM l G 2 yX12_guess (.code yX12_guess cX12_guess 3 (some (.int))) [.ref (zad G 71), .int x1, .int x2] σ (some (.int r)) τ := by
  refine zM_of (by decide) (Nat.le_of_ble_eq_true rfl) (fun x O E => ?_)
  have O : zO G x cX12_guess RX12 2 80 3 := O
  unfold s_X12_guess at h
  show V G x σ [(0, .ref (zad G 71)), (1, .int x1), (2, .int x2)] 0 []
  refine V_aloadn 0 0 O dX12_guess_0 rfl rfl ?_
  refine V_iloadn 1 1 O dX12_guess_1 rfl rfl ?_
  obtain ⟨r2, σ1, g, h⟩ := bd_of h
  refine V_callVi 2 [.int x1] [] O mf_X12_noPipe lk_X12_182 k71 dX12_guess_2 rfl rfl (Nat.le_of_ble_eq_true rfl) ⟨(Nat.le_of_ble_eq_true rfl), (Nat.le_of_ble_eq_true rfl)⟩ (fun l => C_X12_noPipe  g) ?_
  refine V_if_eq 5 12 O dX12_guess_5 rfl h (fun h => ?_) (fun h => ?_)
  · refine V_iloadn 12 2 O dX12_guess_12 rfl rfl ?_
    refine V_iconst 13 O dX12_guess_13 ci_m1 ?_
    refine V_icmp_eq 14 33 O dX12_guess_14 rfl h (fun h => ?_) (fun h => ?_)
    · exact V_sub [0, 1, 2] rfl (b_X12_guess_33 O E n  x1 x2 σ1  h)
    · refine V_iloadn 17 2 O dX12_guess_17 rfl rfl ?_
      refine V_i2l 18 O dX12_guess_18 ?_
      refine V_lconst 19 O dX12_guess_19 cl_1 ?_
      refine V_ldc2 20 O dX12_guess_20 ld_X12_178 ?_
      obtain ⟨r4, σ3, g, h⟩ := bd_of h
      refine V_callSi 23 [.long x2.toInt64, .long (1 : Int64), .long (999 : Int64)] [] O mf_X12_in lk_X12_162 dX12_guess_23 rfl rfl (Nat.le_of_ble_eq_true rfl) ⟨(Nat.le_of_ble_eq_true rfl), (Nat.le_of_ble_eq_true rfl)⟩ (fun l => C_X12_in  g) ?_
      refine V_if_ne 26 33 O dX12_guess_26 rfl h (fun h => ?_) (fun h => ?_)
      · exact V_sub [0, 1, 2] rfl (b_X12_guess_33 O E n  x1 x2 σ3  h)
      · refine V_sipush 29 O dX12_guess_29 cs_m1002 ?_
        exact V_iret 32 O E dX12_guess_32 h
  · refine V_sipush 8 O dX12_guess_8 cs_m1001 ?_
    exact V_iret 11 O E dX12_guess_11 h
-- ==== WaterTownModel.explains(I)Z
def s_X12_explains_68 (n : Nat) (rc4 : Int32 → Int32 → Int32 → Sg → Option (Int32 × Sg)) (rc22 : Int32 → Int32 → Int32 → Int32 → Sg → Option (Int32 × Sg)) (x1 : Int32) (x3 : Int32) (x5 : Int32) (y0 : Int32) (σ : Sg) : Option (Int32 × Sg) := lt (y0 + (0 : Int32)) fun v5 => rc22 x1 x3 v5 (x5 + (1 : Int32)) σ
def s_X12_explains_22b (n : Nat) (rc4 : Int32 → Int32 → Int32 → Sg → Option (Int32 × Sg)) (rc22 : Int32 → Int32 → Int32 → Int32 → Sg → Option (Int32 × Sg)) (x1 : Int32) (x3 : Int32) (x4 : Int32) (x5 : Int32) (σ : Sg) : Option (Int32 × Sg) := if (σ 71 2) ≤ x5 then (ck x3 6 (lt (if x4 = (σ 116 (ix x3)) then (1 : Int32) else (0 : Int32)) fun v3 => rc4 x1 v3 (x3 + (1 : Int32)) σ)) else (if ((sr x1 x5) &&& (1 : Int32)) = (1 : Int32) then (ck x3 6 (if ((sr (σ 115 (ix x3)) x5) &&& (1 : Int32)) = (1 : Int32) then (ck x5 20 (lt (x4 + (σ 80 (ix x5))) fun v4 => rc22 x1 x3 v4 (x5 + (1 : Int32)) σ)) else (s_X12_explains_68 n rc4 rc22 x1 x3 x5 x4 σ))) else (s_X12_explains_68 n rc4 rc22 x1 x3 x5 x4 σ))
def s_X12_explains_22 (n : Nat) (rc4 : Int32 → Int32 → Int32 → Sg → Option (Int32 × Sg)) : Nat → Int32 → Int32 → Int32 → Int32 → Sg → Option (Int32 × Sg)
  | 0 => fun _ _ _ _ _ => none
  | k + 1 => s_X12_explains_22b n rc4 (s_X12_explains_22 n rc4 k)
def s_X12_explains_4b (n : Nat) (rc4 : Int32 → Int32 → Int32 → Sg → Option (Int32 × Sg)) (x1 : Int32) (x2 : Int32) (x3 : Int32) (σ : Sg) : Option (Int32 × Sg) := if (σ 71 66) ≤ x3 then (bck x2 (some (x2, σ))) else (if x2 = 0 then (bck x2 (some (x2, σ))) else (s_X12_explains_22 n rc4 n x1 x3 (0 : Int32) (0 : Int32) σ))
def s_X12_explains_4 (n : Nat) : Nat → Int32 → Int32 → Int32 → Sg → Option (Int32 × Sg)
  | 0 => fun _ _ _ _ => none
  | k + 1 => s_X12_explains_4b n (s_X12_explains_4 n k)
def s_X12_explains (n : Nat) (x1 : Int32) (σ : Sg) : Option (Int32 × Sg) := s_X12_explains_4 n n x1 (1 : Int32) (0 : Int32) σ
set_option maxRecDepth 20000 in
theorem b_X12_explains_68 {G : zG} {x : zX} {r : Int32} {τ : Sg} (O : zO G x cX12_explains RX12 0 0 6) (E : zE G x (some (.boolean)) (some (.int r)) τ) (n : Nat) (rc4 : Int32 → Int32 → Int32 → Sg → Option (Int32 × Sg)) (H4 : ∀ (x1 : Int32) (x2 : Int32) (x3 : Int32) (σ : Sg), rc4 x1 x2 x3 σ = some (r, τ) → V G x σ [(0, .ref (zad G 71)), (1, .int x1), (2, .int x2), (3, .int x3)] 4 []) (rc22 : Int32 → Int32 → Int32 → Int32 → Sg → Option (Int32 × Sg)) (H22 : ∀ (x1 : Int32) (x3 : Int32) (x4 : Int32) (x5 : Int32) (σ : Sg), rc22 x1 x3 x4 x5 σ = some (r, τ) → V G x σ [(0, .ref (zad G 71)), (1, .int x1), (3, .int x3), (4, .int x4), (5, .int x5)] 22 []) (x1 : Int32) (x3 : Int32) (x5 : Int32) (y0 : Int32) (σ : Sg) (h : s_X12_explains_68 n rc4 rc22 x1 x3 x5 y0 σ = some (r, τ)) : V G x σ [(0, .ref (zad G 71)), (1, .int x1), (3, .int x3), (5, .int x5)] 68 [.int y0] := by
  unfold s_X12_explains_68 at h
  refine V_iconst 68 O dX12_explains_68 ci_0 ?_
  refine V_iadd 69 O dX12_explains_69 ?_
  refine V_topi h (fun v5 h => ?_)
  refine V_istore 70 [1, 2, 3, 0, 4] [(0, .ref (zad G 71)), (1, .int x1), (3, .int x3), (4, .int v5), (5, .int x5)] O dX12_explains_70 (Nat.le_of_ble_eq_true rfl) rfl ?_
  refine V_iinc 72 4 [1, 2, 3, 4, 0] [(0, .ref (zad G 71)), (1, .int x1), (3, .int x3), (4, .int v5), (5, .int (x5 + (1 : Int32)))] O dX12_explains_72 rfl ci_1 (Nat.le_of_ble_eq_true rfl) rfl ?_
  refine V_goto 75 22 O dX12_explains_75 rfl ?_
  exact V_sub [0, 1, 2, 3, 4] rfl (H22 x1 x3 v5 (x5 + (1 : Int32)) σ  h)
set_option maxRecDepth 20000 in
theorem b_X12_explains_22 {G : zG} {x : zX} {r : Int32} {τ : Sg} (O : zO G x cX12_explains RX12 0 0 6) (E : zE G x (some (.boolean)) (some (.int r)) τ) (n : Nat) (rc4 : Int32 → Int32 → Int32 → Sg → Option (Int32 × Sg)) (H4 : ∀ (x1 : Int32) (x2 : Int32) (x3 : Int32) (σ : Sg), rc4 x1 x2 x3 σ = some (r, τ) → V G x σ [(0, .ref (zad G 71)), (1, .int x1), (2, .int x2), (3, .int x3)] 4 []) (rc22 : Int32 → Int32 → Int32 → Int32 → Sg → Option (Int32 × Sg)) (H22 : ∀ (x1 : Int32) (x3 : Int32) (x4 : Int32) (x5 : Int32) (σ : Sg), rc22 x1 x3 x4 x5 σ = some (r, τ) → V G x σ [(0, .ref (zad G 71)), (1, .int x1), (3, .int x3), (4, .int x4), (5, .int x5)] 22 []) (x1 : Int32) (x3 : Int32) (x4 : Int32) (x5 : Int32) (σ : Sg) (h : s_X12_explains_22b n rc4 rc22 x1 x3 x4 x5 σ = some (r, τ)) : V G x σ [(0, .ref (zad G 71)), (1, .int x1), (3, .int x3), (4, .int x4), (5, .int x5)] 22 [] := by
  unfold s_X12_explains_22b at h
  refine V_iload 22 4 O dX12_explains_22 rfl ?_
  refine V_aloadn 24 0 O dX12_explains_24 rfl rfl ?_
  refine V_getI 25 O k71 fl_X12_168 dX12_explains_25 ?_
  refine V_icmp_ge 28 78 O dX12_explains_28 rfl h (fun h => ?_) (fun h => ?_)
  · refine V_iload 78 3 O dX12_explains_78 rfl ?_
    refine V_aloadn 80 0 O dX12_explains_80 rfl rfl ?_
    refine V_getR 81 O k71 fl_X12_150 rf71_68 dX12_explains_81 ?_
    refine V_iloadn 84 2 O dX12_explains_84 rfl rfl ?_
    refine V_iald 85 O k116 dX12_explains_85 h (fun h => ?_)
    have J1 : V G x σ [(0, .ref (zad G 71)), (1, .int x1), (3, .int x3), (4, .int x4), (5, .int x5)] 94 [.int (if x4 = (σ 116 (ix x3)) then (1 : Int32) else (0 : Int32))] := by
      refine V_topi h (fun v3 h => ?_)
      refine V_istoren 94 [1, 2, 0, 3, 4, 5] [(0, .ref (zad G 71)), (1, .int x1), (2, .int v3), (3, .int x3), (4, .int x4), (5, .int x5)] O dX12_explains_94 rfl (Nat.le_of_ble_eq_true rfl) rfl ?_
      refine V_iinc 95 3 [1, 2, 3, 0, 4, 5] [(0, .ref (zad G 71)), (1, .int x1), (2, .int v3), (3, .int (x3 + (1 : Int32))), (4, .int x4), (5, .int x5)] O dX12_explains_95 rfl ci_1 (Nat.le_of_ble_eq_true rfl) rfl ?_
      refine V_goto 98 4 O dX12_explains_98 rfl ?_
      exact V_sub [0, 1, 2, 3] rfl (H4 x1 v3 (x3 + (1 : Int32)) σ  h)
    refine V_icmp_nec 86 93 O dX12_explains_86 rfl (fun c2 => ?_) (fun c2 => ?_)
    · refine V_iconst 93 O dX12_explains_93 ci_0 ?_
      exact V_top (by rw [if_neg c2]) J1
    · refine V_iconst 89 O dX12_explains_89 ci_1 ?_
      refine V_goto 90 94 O dX12_explains_90 rfl ?_
      exact V_top (by rw [if_pos c2]) J1
  · refine V_iload 31 3 O dX12_explains_31 rfl ?_
    refine V_iloadn 33 1 O dX12_explains_33 rfl rfl ?_
    refine V_iload 34 4 O dX12_explains_34 rfl ?_
    refine V_ishr 36 O dX12_explains_36 ?_
    refine V_iconst 37 O dX12_explains_37 ci_1 ?_
    refine V_iand 38 O dX12_explains_38 ?_
    refine V_iconst 39 O dX12_explains_39 ci_1 ?_
    refine V_icmp_ne 40 68 O dX12_explains_40 rfl h (fun h => ?_) (fun h => ?_)
    · exact V_sub [0, 1, 2, 4] rfl (b_X12_explains_68 O E n rc4 H4 rc22 H22 x1 x3 x5 x4 σ  h)
    · refine V_aloadn 43 0 O dX12_explains_43 rfl rfl ?_
      refine V_getR 44 O k71 fl_X12_147 rf71_67 dX12_explains_44 ?_
      refine V_iloadn 47 2 O dX12_explains_47 rfl rfl ?_
      refine V_iald 48 O k115 dX12_explains_48 h (fun h => ?_)
      refine V_iload 49 4 O dX12_explains_49 rfl ?_
      refine V_ishr 51 O dX12_explains_51 ?_
      refine V_iconst 52 O dX12_explains_52 ci_1 ?_
      refine V_iand 53 O dX12_explains_53 ?_
      refine V_iconst 54 O dX12_explains_54 ci_1 ?_
      refine V_icmp_ne 55 68 O dX12_explains_55 rfl h (fun h => ?_) (fun h => ?_)
      · exact V_sub [0, 1, 2, 4] rfl (b_X12_explains_68 O E n rc4 H4 rc22 H22 x1 x3 x5 x4 σ  h)
      · refine V_aloadn 58 0 O dX12_explains_58 rfl rfl ?_
        refine V_getR 59 O k71 fl_X12_35 rf71_10 dX12_explains_59 ?_
        refine V_iload 62 4 O dX12_explains_62 rfl ?_
        refine V_iald 64 O k80 dX12_explains_64 h (fun h => ?_)
        refine V_goto 65 69 O dX12_explains_65 rfl ?_
        refine V_iadd 69 O dX12_explains_69 ?_
        refine V_topi h (fun v4 h => ?_)
        refine V_istore 70 [1, 2, 3, 0, 4] [(0, .ref (zad G 71)), (1, .int x1), (3, .int x3), (4, .int v4), (5, .int x5)] O dX12_explains_70 (Nat.le_of_ble_eq_true rfl) rfl ?_
        refine V_iinc 72 4 [1, 2, 3, 4, 0] [(0, .ref (zad G 71)), (1, .int x1), (3, .int x3), (4, .int v4), (5, .int (x5 + (1 : Int32)))] O dX12_explains_72 rfl ci_1 (Nat.le_of_ble_eq_true rfl) rfl ?_
        refine V_goto 75 22 O dX12_explains_75 rfl ?_
        exact V_sub [0, 1, 2, 3, 4] rfl (H22 x1 x3 v4 (x5 + (1 : Int32)) σ  h)
theorem bl_X12_explains_22 {G : zG} {x : zX} {r : Int32} {τ : Sg} (O : zO G x cX12_explains RX12 0 0 6) (E : zE G x (some (.boolean)) (some (.int r)) τ) (n : Nat) (rc4 : Int32 → Int32 → Int32 → Sg → Option (Int32 × Sg)) (H4 : ∀ (x1 : Int32) (x2 : Int32) (x3 : Int32) (σ : Sg), rc4 x1 x2 x3 σ = some (r, τ) → V G x σ [(0, .ref (zad G 71)), (1, .int x1), (2, .int x2), (3, .int x3)] 4 []) : ∀ (k : Nat) (x1 : Int32) (x3 : Int32) (x4 : Int32) (x5 : Int32) (σ : Sg), s_X12_explains_22 n rc4 k x1 x3 x4 x5 σ = some (r, τ) → V G x σ [(0, .ref (zad G 71)), (1, .int x1), (3, .int x3), (4, .int x4), (5, .int x5)] 22 [] := by
  intro k
  induction k with
  | zero => intro x1 x3 x4 x5 σ  h; cases h
  | succ k ih => intro x1 x3 x4 x5 σ  h; exact b_X12_explains_22 O E n rc4 H4 (s_X12_explains_22 n rc4 k) ih x1 x3 x4 x5 σ  h
set_option maxRecDepth 20000 in
theorem b_X12_explains_4 {G : zG} {x : zX} {r : Int32} {τ : Sg} (O : zO G x cX12_explains RX12 0 0 6) (E : zE G x (some (.boolean)) (some (.int r)) τ) (n : Nat) (rc4 : Int32 → Int32 → Int32 → Sg → Option (Int32 × Sg)) (H4 : ∀ (x1 : Int32) (x2 : Int32) (x3 : Int32) (σ : Sg), rc4 x1 x2 x3 σ = some (r, τ) → V G x σ [(0, .ref (zad G 71)), (1, .int x1), (2, .int x2), (3, .int x3)] 4 []) (x1 : Int32) (x2 : Int32) (x3 : Int32) (σ : Sg) (h : s_X12_explains_4b n rc4 x1 x2 x3 σ = some (r, τ)) : V G x σ [(0, .ref (zad G 71)), (1, .int x1), (2, .int x2), (3, .int x3)] 4 [] := by
  unfold s_X12_explains_4b at h
  refine V_iloadn 4 3 O dX12_explains_4 rfl rfl ?_
  refine V_aloadn 5 0 O dX12_explains_5 rfl rfl ?_
  refine V_getI 6 O k71 fl_X12_358 dX12_explains_6 ?_
  refine V_icmp_ge 9 101 O dX12_explains_9 rfl h (fun h => ?_) (fun h => ?_)
  · refine V_iloadn 101 2 O dX12_explains_101 rfl rfl ?_
    exact V_zret 102 O E dX12_explains_102 h
  · refine V_iloadn 12 2 O dX12_explains_12 rfl rfl ?_
    refine V_if_eq 13 101 O dX12_explains_13 rfl h (fun h => ?_) (fun h => ?_)
    · refine V_iloadn 101 2 O dX12_explains_101 rfl rfl ?_
      exact V_zret 102 O E dX12_explains_102 h
    · refine V_iconst 16 O dX12_explains_16 ci_0 ?_
      refine V_istore 17 [1, 2, 3, 4, 0] [(0, .ref (zad G 71)), (1, .int x1), (2, .int x2), (3, .int x3), (4, .int (0 : Int32))] O dX12_explains_17 (Nat.le_of_ble_eq_true rfl) rfl ?_
      refine V_iconst 19 O dX12_explains_19 ci_0 ?_
      refine V_istore 20 [1, 2, 3, 4, 5, 0] [(0, .ref (zad G 71)), (1, .int x1), (2, .int x2), (3, .int x3), (4, .int (0 : Int32)), (5, .int (0 : Int32))] O dX12_explains_20 (Nat.le_of_ble_eq_true rfl) rfl ?_
      exact V_sub [0, 1, 3, 4, 5] rfl (bl_X12_explains_22 O E n rc4 H4 n x1 x3 (0 : Int32) (0 : Int32) σ  h)
theorem bl_X12_explains_4 {G : zG} {x : zX} {r : Int32} {τ : Sg} (O : zO G x cX12_explains RX12 0 0 6) (E : zE G x (some (.boolean)) (some (.int r)) τ) (n : Nat) : ∀ (k : Nat) (x1 : Int32) (x2 : Int32) (x3 : Int32) (σ : Sg), s_X12_explains_4 n k x1 x2 x3 σ = some (r, τ) → V G x σ [(0, .ref (zad G 71)), (1, .int x1), (2, .int x2), (3, .int x3)] 4 [] := by
  intro k
  induction k with
  | zero => intro x1 x2 x3 σ  h; cases h
  | succ k ih => intro x1 x2 x3 σ  h; exact b_X12_explains_4 O E n  (s_X12_explains_4 n  k) ih x1 x2 x3 σ  h
set_option maxRecDepth 20000 in
theorem C_X12_explains {l : Launch} {G : zG} {n : Nat} {x1 : Int32} {σ : Sg} {r : Int32} {τ : Sg} (h : s_X12_explains n x1 σ = some (r, τ)) : zM l G 0 yX12_explains (.code yX12_explains cX12_explains 6 (some (.boolean))) [.ref (zad G 71), .int x1] σ (some (.int r)) τ := by
  refine zM_of (by decide) (Nat.le_of_ble_eq_true rfl) (fun x O E => ?_)
  have O : zO G x cX12_explains RX12 0 0 6 := O
  unfold s_X12_explains at h
  show V G x σ [(0, .ref (zad G 71)), (1, .int x1)] 0 []
  refine V_iconst 0 O dX12_explains_0 ci_1 ?_
  refine V_istoren 1 [1, 2, 0] [(0, .ref (zad G 71)), (1, .int x1), (2, .int (1 : Int32))] O dX12_explains_1 rfl (Nat.le_of_ble_eq_true rfl) rfl ?_
  refine V_iconst 2 O dX12_explains_2 ci_0 ?_
  refine V_istoren 3 [1, 2, 3, 0] [(0, .ref (zad G 71)), (1, .int x1), (2, .int (1 : Int32)), (3, .int (0 : Int32))] O dX12_explains_3 rfl (Nat.le_of_ble_eq_true rfl) rfl ?_
  exact V_sub [0, 1, 2, 3] rfl (bl_X12_explains_4 O E n  n x1 (1 : Int32) (0 : Int32) σ  h)
-- ==== WaterTownModel.explain(I)I
def s_X12_explain_52 (n : Nat) (rc29 : Int32 → Int32 → Int32 → Sg → Option (Int32 × Sg)) (x1 : Int32) (x3 : Int32) (y0 : Int32) (y1 : Int32) (σ : Sg) : Option (Int32 × Sg) := bd (s_X12_one n y0 σ) fun r16 σ15 => lt (y1 ||| (sl r16 x3)) fun v17 => rc29 x1 v17 (x3 + (1 : Int32)) σ15
def s_X12_explain_116 (n : Nat) (rc76 : Int32 → Int32 → Int32 → Int32 → Int32 → Int32 → Sg → Option (Int32 × Sg)) (x1 : Int32) (x2 : Int32) (x3 : Int32) (x4 : Int32) (x5 : Int32) (σ : Sg) : Option (Int32 × Sg) := lt ((x5 - x2) &&& x2) fun v18 => lt (if v18 = 0 then (0 : Int32) else (1 : Int32)) fun v21 => rc76 x1 x2 x3 x4 v18 v21 σ
def s_X12_explain_112 (n : Nat) (rc76 : Int32 → Int32 → Int32 → Int32 → Int32 → Int32 → Sg → Option (Int32 × Sg)) (x1 : Int32) (x2 : Int32) (x4 : Int32) (x5 : Int32) (y0 : Int32) (σ : Sg) : Option (Int32 × Sg) := s_X12_explain_116 n rc76 x1 x2 y0 (x4 + (1 : Int32)) x5 σ
def s_X12_explain_106 (n : Nat) (rc76 : Int32 → Int32 → Int32 → Int32 → Int32 → Int32 → Sg → Option (Int32 × Sg)) (x1 : Int32) (x2 : Int32) (x4 : Int32) (x5 : Int32) (σ : Sg) : Option (Int32 × Sg) := s_X12_explain_112 n rc76 x1 x2 x4 x5 x5 σ
def s_X12_explain_76b (n : Nat) (rc76 : Int32 → Int32 → Int32 → Int32 → Int32 → Int32 → Sg → Option (Int32 × Sg)) (x1 : Int32) (x2 : Int32) (x3 : Int32) (x4 : Int32) (x5 : Int32) (x6 : Int32) (σ : Sg) : Option (Int32 × Sg) := if x6 = 0 then (if x1 = 0 then (some (x3, σ)) else (some (x4, σ))) else (bd (s_X12_explains n x5 σ) fun r7 σ6 => if r7 = 0 then (s_X12_explain_116 n rc76 x1 x2 x3 x4 x5 σ6) else (if x3 < 0 then (s_X12_explain_106 n rc76 x1 x2 x4 x5 σ6) else (bd (s_X12_ones n x5 σ6) fun r9 σ8 => bd (s_X12_ones n x3 σ8) fun r11 σ10 => lt (if r11 ≤ r9 then x3 else x5) fun v14 => s_X12_explain_112 n rc76 x1 x2 x4 x5 v14 σ10)))
def s_X12_explain_76 (n : Nat) : Nat → Int32 → Int32 → Int32 → Int32 → Int32 → Int32 → Sg → Option (Int32 × Sg)
  | 0 => fun _ _ _ _ _ _ _ => none
  | k + 1 => s_X12_explain_76b n (s_X12_explain_76 n k)
def s_X12_explain_29b (n : Nat) (rc29 : Int32 → Int32 → Int32 → Sg → Option (Int32 × Sg)) (x1 : Int32) (x2 : Int32) (x3 : Int32) (σ : Sg) : Option (Int32 × Sg) := if (σ 71 2) ≤ x3 then (s_X12_explain_76 n n x1 x2 (-1 : Int32) (0 : Int32) (0 : Int32) (1 : Int32) σ) else (ck x3 20 (lt (if (σ 80 (ix x3)) ≤ 0 then (0 : Int32) else (1 : Int32)) fun v5 => s_X12_explain_52 n rc29 x1 x3 v5 x2 σ))
def s_X12_explain_29 (n : Nat) : Nat → Int32 → Int32 → Int32 → Sg → Option (Int32 × Sg)
  | 0 => fun _ _ _ _ => none
  | k + 1 => s_X12_explain_29b n (s_X12_explain_29 n k)
def s_X12_explain (n : Nat) (x1 : Int32) (σ : Sg) : Option (Int32 × Sg) := bd (s_X12_in n x1.toInt64 (0 : Int64) (1 : Int64) σ) fun r2 σ1 => if r2 = 0 then (some ((-1002 : Int32), σ1)) else (if (σ1 71 66) = 0 then (some ((-1003 : Int32), σ1)) else (s_X12_explain_29 n n x1 (0 : Int32) (0 : Int32) σ1))
set_option maxRecDepth 20000 in
theorem b_X12_explain_52 {G : zG} {x : zX} {r : Int32} {τ : Sg} (O : zO G x cX12_explain RX12 1 40 7) (E : zE G x (some (.int)) (some (.int r)) τ) (n : Nat) (rc29 : Int32 → Int32 → Int32 → Sg → Option (Int32 × Sg)) (H29 : ∀ (x1 : Int32) (x2 : Int32) (x3 : Int32) (σ : Sg), rc29 x1 x2 x3 σ = some (r, τ) → V G x σ [(0, .ref (zad G 71)), (1, .int x1), (2, .int x2), (3, .int x3)] 29 []) (x1 : Int32) (x3 : Int32) (y0 : Int32) (y1 : Int32) (σ : Sg) (h : s_X12_explain_52 n rc29 x1 x3 y0 y1 σ = some (r, τ)) : V G x σ [(0, .ref (zad G 71)), (1, .int x1), (3, .int x3)] 52 [.int y0, .int y1] := by
  unfold s_X12_explain_52 at h
  obtain ⟨r16, σ15, g, h⟩ := bd_of h
  refine V_callSi 52 [.int y0] [.int y1] O mf_X12_one lk_X12_185 dX12_explain_52 rfl rfl (Nat.le_of_ble_eq_true rfl) ⟨(Nat.le_of_ble_eq_true rfl), (Nat.le_of_ble_eq_true rfl)⟩ (fun l => C_X12_one  g) ?_
  refine V_iloadn 55 2 O dX12_explain_55 rfl rfl ?_
  refine V_ishl 56 O dX12_explain_56 ?_
  refine V_ior 57 O dX12_explain_57 ?_
  refine V_topi h (fun v17 h => ?_)
  refine V_istoren 58 [1, 2, 0, 3] [(0, .ref (zad G 71)), (1, .int x1), (2, .int v17), (3, .int x3)] O dX12_explain_58 rfl (Nat.le_of_ble_eq_true rfl) rfl ?_
  refine V_iinc 59 3 [1, 2, 3, 0] [(0, .ref (zad G 71)), (1, .int x1), (2, .int v17), (3, .int (x3 + (1 : Int32)))] O dX12_explain_59 rfl ci_1 (Nat.le_of_ble_eq_true rfl) rfl ?_
  refine V_goto 62 29 O dX12_explain_62 rfl ?_
  exact V_sub [0, 1, 2, 3] rfl (H29 x1 v17 (x3 + (1 : Int32)) σ15  h)
set_option maxRecDepth 20000 in
theorem b_X12_explain_116 {G : zG} {x : zX} {r : Int32} {τ : Sg} (O : zO G x cX12_explain RX12 1 40 7) (E : zE G x (some (.int)) (some (.int r)) τ) (n : Nat) (rc76 : Int32 → Int32 → Int32 → Int32 → Int32 → Int32 → Sg → Option (Int32 × Sg)) (H76 : ∀ (x1 : Int32) (x2 : Int32) (x3 : Int32) (x4 : Int32) (x5 : Int32) (x6 : Int32) (σ : Sg), rc76 x1 x2 x3 x4 x5 x6 σ = some (r, τ) → V G x σ [(0, .ref (zad G 71)), (1, .int x1), (2, .int x2), (3, .int x3), (4, .int x4), (5, .int x5), (6, .int x6)] 76 []) (x1 : Int32) (x2 : Int32) (x3 : Int32) (x4 : Int32) (x5 : Int32) (σ : Sg) (h : s_X12_explain_116 n rc76 x1 x2 x3 x4 x5 σ = some (r, τ)) : V G x σ [(0, .ref (zad G 71)), (1, .int x1), (2, .int x2), (3, .int x3), (4, .int x4), (5, .int x5)] 116 [] := by
  unfold s_X12_explain_116 at h
  refine V_iload 116 5 O dX12_explain_116 rfl ?_
  refine V_iloadn 118 2 O dX12_explain_118 rfl rfl ?_
  refine V_isub 119 O dX12_explain_119 ?_
  refine V_iloadn 120 2 O dX12_explain_120 rfl rfl ?_
  refine V_iand 121 O dX12_explain_121 ?_
  refine V_topi h (fun v18 h => ?_)
  refine V_istore 122 [1, 2, 3, 4, 5, 0] [(0, .ref (zad G 71)), (1, .int x1), (2, .int x2), (3, .int x3), (4, .int x4), (5, .int v18)] O dX12_explain_122 (Nat.le_of_ble_eq_true rfl) rfl ?_
  refine V_iload 124 5 O dX12_explain_124 rfl ?_
  have J19 : V G x σ [(0, .ref (zad G 71)), (1, .int x1), (2, .int x2), (3, .int x3), (4, .int x4), (5, .int v18)] 134 [.int (if v18 = 0 then (0 : Int32) else (1 : Int32))] := by
    refine V_topi h (fun v21 h => ?_)
    refine V_istore 134 [1, 2, 3, 4, 5, 6, 0] [(0, .ref (zad G 71)), (1, .int x1), (2, .int x2), (3, .int x3), (4, .int x4), (5, .int v18), (6, .int v21)] O dX12_explain_134 (Nat.le_of_ble_eq_true rfl) rfl ?_
    refine V_goto 136 76 O dX12_explain_136 rfl ?_
    exact V_sub [0, 1, 2, 3, 4, 5, 6] rfl (H76 x1 x2 x3 x4 v18 v21 σ  h)
  refine V_if_eqc 126 133 O dX12_explain_126 rfl (fun c20 => ?_) (fun c20 => ?_)
  · refine V_iconst 133 O dX12_explain_133 ci_0 ?_
    exact V_top (by rw [if_pos c20]) J19
  · refine V_iconst 129 O dX12_explain_129 ci_1 ?_
    refine V_goto 130 134 O dX12_explain_130 rfl ?_
    exact V_top (by rw [if_neg c20]) J19
set_option maxRecDepth 20000 in
theorem b_X12_explain_112 {G : zG} {x : zX} {r : Int32} {τ : Sg} (O : zO G x cX12_explain RX12 1 40 7) (E : zE G x (some (.int)) (some (.int r)) τ) (n : Nat) (rc76 : Int32 → Int32 → Int32 → Int32 → Int32 → Int32 → Sg → Option (Int32 × Sg)) (H76 : ∀ (x1 : Int32) (x2 : Int32) (x3 : Int32) (x4 : Int32) (x5 : Int32) (x6 : Int32) (σ : Sg), rc76 x1 x2 x3 x4 x5 x6 σ = some (r, τ) → V G x σ [(0, .ref (zad G 71)), (1, .int x1), (2, .int x2), (3, .int x3), (4, .int x4), (5, .int x5), (6, .int x6)] 76 []) (x1 : Int32) (x2 : Int32) (x4 : Int32) (x5 : Int32) (y0 : Int32) (σ : Sg) (h : s_X12_explain_112 n rc76 x1 x2 x4 x5 y0 σ = some (r, τ)) : V G x σ [(0, .ref (zad G 71)), (1, .int x1), (2, .int x2), (4, .int x4), (5, .int x5)] 112 [.int y0] := by
  unfold s_X12_explain_112 at h
  refine V_istoren 112 [1, 2, 3, 0, 4, 5] [(0, .ref (zad G 71)), (1, .int x1), (2, .int x2), (3, .int y0), (4, .int x4), (5, .int x5)] O dX12_explain_112 rfl (Nat.le_of_ble_eq_true rfl) rfl ?_
  refine V_iinc 113 4 [1, 2, 3, 4, 0, 5] [(0, .ref (zad G 71)), (1, .int x1), (2, .int x2), (3, .int y0), (4, .int (x4 + (1 : Int32))), (5, .int x5)] O dX12_explain_113 rfl ci_1 (Nat.le_of_ble_eq_true rfl) rfl ?_
  exact V_sub [0, 1, 2, 3, 4, 5] rfl (b_X12_explain_116 O E n rc76 H76 x1 x2 y0 (x4 + (1 : Int32)) x5 σ  h)
set_option maxRecDepth 20000 in
theorem b_X12_explain_106 {G : zG} {x : zX} {r : Int32} {τ : Sg} (O : zO G x cX12_explain RX12 1 40 7) (E : zE G x (some (.int)) (some (.int r)) τ) (n : Nat) (rc76 : Int32 → Int32 → Int32 → Int32 → Int32 → Int32 → Sg → Option (Int32 × Sg)) (H76 : ∀ (x1 : Int32) (x2 : Int32) (x3 : Int32) (x4 : Int32) (x5 : Int32) (x6 : Int32) (σ : Sg), rc76 x1 x2 x3 x4 x5 x6 σ = some (r, τ) → V G x σ [(0, .ref (zad G 71)), (1, .int x1), (2, .int x2), (3, .int x3), (4, .int x4), (5, .int x5), (6, .int x6)] 76 []) (x1 : Int32) (x2 : Int32) (x4 : Int32) (x5 : Int32) (σ : Sg) (h : s_X12_explain_106 n rc76 x1 x2 x4 x5 σ = some (r, τ)) : V G x σ [(0, .ref (zad G 71)), (1, .int x1), (2, .int x2), (4, .int x4), (5, .int x5)] 106 [] := by
  unfold s_X12_explain_106 at h
  refine V_iload 106 4 O dX12_explain_106 rfl ?_
  refine V_goto 108 112 O dX12_explain_108 rfl ?_
  exact V_sub [0, 1, 2, 3, 4] rfl (b_X12_explain_112 O E n rc76 H76 x1 x2 x4 x5 x5 σ  h)
set_option maxRecDepth 20000 in
theorem b_X12_explain_76 {G : zG} {x : zX} {r : Int32} {τ : Sg} (O : zO G x cX12_explain RX12 1 40 7) (E : zE G x (some (.int)) (some (.int r)) τ) (n : Nat) (rc76 : Int32 → Int32 → Int32 → Int32 → Int32 → Int32 → Sg → Option (Int32 × Sg)) (H76 : ∀ (x1 : Int32) (x2 : Int32) (x3 : Int32) (x4 : Int32) (x5 : Int32) (x6 : Int32) (σ : Sg), rc76 x1 x2 x3 x4 x5 x6 σ = some (r, τ) → V G x σ [(0, .ref (zad G 71)), (1, .int x1), (2, .int x2), (3, .int x3), (4, .int x4), (5, .int x5), (6, .int x6)] 76 []) (x1 : Int32) (x2 : Int32) (x3 : Int32) (x4 : Int32) (x5 : Int32) (x6 : Int32) (σ : Sg) (h : s_X12_explain_76b n rc76 x1 x2 x3 x4 x5 x6 σ = some (r, τ)) : V G x σ [(0, .ref (zad G 71)), (1, .int x1), (2, .int x2), (3, .int x3), (4, .int x4), (5, .int x5), (6, .int x6)] 76 [] := by
  unfold s_X12_explain_76b at h
  refine V_iload 76 6 O dX12_explain_76 rfl ?_
  refine V_if_eq 78 139 O dX12_explain_78 rfl h (fun h => ?_) (fun h => ?_)
  · refine V_iloadn 139 1 O dX12_explain_139 rfl rfl ?_
    refine V_if_ne 140 147 O dX12_explain_140 rfl h (fun h => ?_) (fun h => ?_)
    · refine V_iload 147 4 O dX12_explain_147 rfl ?_
      exact V_iret 149 O E dX12_explain_149 h
    · refine V_iloadn 143 3 O dX12_explain_143 rfl rfl ?_
      refine V_goto 144 149 O dX12_explain_144 rfl ?_
      exact V_iret 149 O E dX12_explain_149 h
  · refine V_aloadn 81 0 O dX12_explain_81 rfl rfl ?_
    refine V_iload 82 5 O dX12_explain_82 rfl ?_
    obtain ⟨r7, σ6, g, h⟩ := bd_of h
    refine V_callVi 84 [.int x5] [] O mf_X12_explains lk_X12_409 k71 dX12_explain_84 rfl rfl (Nat.le_of_ble_eq_true rfl) ⟨(Nat.le_of_ble_eq_true rfl), (Nat.le_of_ble_eq_true rfl)⟩ (fun l => C_X12_explains  g) ?_
    refine V_if_eq 87 116 O dX12_explain_87 rfl h (fun h => ?_) (fun h => ?_)
    · exact V_sub [0, 1, 2, 3, 4, 5] rfl (b_X12_explain_116 O E n rc76 H76 x1 x2 x3 x4 x5 σ6  h)
    · refine V_iloadn 90 3 O dX12_explain_90 rfl rfl ?_
      refine V_if_lt 91 106 O dX12_explain_91 rfl h (fun h => ?_) (fun h => ?_)
      · exact V_sub [0, 1, 2, 4, 5] rfl (b_X12_explain_106 O E n rc76 H76 x1 x2 x4 x5 σ6  h)
      · refine V_iload 94 5 O dX12_explain_94 rfl ?_
        obtain ⟨r9, σ8, g, h⟩ := bd_of h
        refine V_callSi 96 [.int x5] [] O mf_X12_ones lk_X12_392 dX12_explain_96 rfl rfl (Nat.le_of_ble_eq_true rfl) ⟨(Nat.le_of_ble_eq_true rfl), (Nat.le_of_ble_eq_true rfl)⟩ (fun l => C_X12_ones  g) ?_
        refine V_iloadn 99 3 O dX12_explain_99 rfl rfl ?_
        obtain ⟨r11, σ10, g, h⟩ := bd_of h
        refine V_callSi 100 [.int x3] [.int r9] O mf_X12_ones lk_X12_392 dX12_explain_100 rfl rfl (Nat.le_of_ble_eq_true rfl) ⟨(Nat.le_of_ble_eq_true rfl), (Nat.le_of_ble_eq_true rfl)⟩ (fun l => C_X12_ones  g) ?_
        have J12 : V G x σ10 [(0, .ref (zad G 71)), (1, .int x1), (2, .int x2), (3, .int x3), (4, .int x4), (5, .int x5), (6, .int x6)] 112 [.int (if r11 ≤ r9 then x3 else x5)] := by
          refine V_topi h (fun v14 h => ?_)
          exact V_sub [0, 1, 2, 4, 5] rfl (b_X12_explain_112 O E n rc76 H76 x1 x2 x4 x5 v14 σ10  h)
        refine V_icmp_gec 103 111 O dX12_explain_103 rfl (fun c13 => ?_) (fun c13 => ?_)
        · refine V_iloadn 111 3 O dX12_explain_111 rfl rfl ?_
          exact V_top (by rw [if_pos c13]) J12
        · refine V_iload 106 5 O dX12_explain_106 rfl ?_
          refine V_goto 108 112 O dX12_explain_108 rfl ?_
          exact V_top (by rw [if_neg c13]) J12
theorem bl_X12_explain_76 {G : zG} {x : zX} {r : Int32} {τ : Sg} (O : zO G x cX12_explain RX12 1 40 7) (E : zE G x (some (.int)) (some (.int r)) τ) (n : Nat) : ∀ (k : Nat) (x1 : Int32) (x2 : Int32) (x3 : Int32) (x4 : Int32) (x5 : Int32) (x6 : Int32) (σ : Sg), s_X12_explain_76 n k x1 x2 x3 x4 x5 x6 σ = some (r, τ) → V G x σ [(0, .ref (zad G 71)), (1, .int x1), (2, .int x2), (3, .int x3), (4, .int x4), (5, .int x5), (6, .int x6)] 76 [] := by
  intro k
  induction k with
  | zero => intro x1 x2 x3 x4 x5 x6 σ  h; cases h
  | succ k ih => intro x1 x2 x3 x4 x5 x6 σ  h; exact b_X12_explain_76 O E n  (s_X12_explain_76 n  k) ih x1 x2 x3 x4 x5 x6 σ  h
set_option maxRecDepth 20000 in
theorem b_X12_explain_29 {G : zG} {x : zX} {r : Int32} {τ : Sg} (O : zO G x cX12_explain RX12 1 40 7) (E : zE G x (some (.int)) (some (.int r)) τ) (n : Nat) (rc29 : Int32 → Int32 → Int32 → Sg → Option (Int32 × Sg)) (H29 : ∀ (x1 : Int32) (x2 : Int32) (x3 : Int32) (σ : Sg), rc29 x1 x2 x3 σ = some (r, τ) → V G x σ [(0, .ref (zad G 71)), (1, .int x1), (2, .int x2), (3, .int x3)] 29 []) (x1 : Int32) (x2 : Int32) (x3 : Int32) (σ : Sg) (h : s_X12_explain_29b n rc29 x1 x2 x3 σ = some (r, τ)) : V G x σ [(0, .ref (zad G 71)), (1, .int x1), (2, .int x2), (3, .int x3)] 29 [] := by
  unfold s_X12_explain_29b at h
  refine V_iloadn 29 3 O dX12_explain_29 rfl rfl ?_
  refine V_aloadn 30 0 O dX12_explain_30 rfl rfl ?_
  refine V_getI 31 O k71 fl_X12_168 dX12_explain_31 ?_
  refine V_icmp_ge 34 65 O dX12_explain_34 rfl h (fun h => ?_) (fun h => ?_)
  · refine V_iconst 65 O dX12_explain_65 ci_m1 ?_
    refine V_istoren 66 [1, 2, 3, 0] [(0, .ref (zad G 71)), (1, .int x1), (2, .int x2), (3, .int (-1 : Int32))] O dX12_explain_66 rfl (Nat.le_of_ble_eq_true rfl) rfl ?_
    refine V_iconst 67 O dX12_explain_67 ci_0 ?_
    refine V_istore 68 [1, 2, 3, 4, 0] [(0, .ref (zad G 71)), (1, .int x1), (2, .int x2), (3, .int (-1 : Int32)), (4, .int (0 : Int32))] O dX12_explain_68 (Nat.le_of_ble_eq_true rfl) rfl ?_
    refine V_iconst 70 O dX12_explain_70 ci_0 ?_
    refine V_istore 71 [1, 2, 3, 4, 5, 0] [(0, .ref (zad G 71)), (1, .int x1), (2, .int x2), (3, .int (-1 : Int32)), (4, .int (0 : Int32)), (5, .int (0 : Int32))] O dX12_explain_71 (Nat.le_of_ble_eq_true rfl) rfl ?_
    refine V_iconst 73 O dX12_explain_73 ci_1 ?_
    refine V_istore 74 [1, 2, 3, 4, 5, 6, 0] [(0, .ref (zad G 71)), (1, .int x1), (2, .int x2), (3, .int (-1 : Int32)), (4, .int (0 : Int32)), (5, .int (0 : Int32)), (6, .int (1 : Int32))] O dX12_explain_74 (Nat.le_of_ble_eq_true rfl) rfl ?_
    exact V_sub [0, 1, 2, 3, 4, 5, 6] rfl (bl_X12_explain_76 O E n  n x1 x2 (-1 : Int32) (0 : Int32) (0 : Int32) (1 : Int32) σ  h)
  · refine V_iloadn 37 2 O dX12_explain_37 rfl rfl ?_
    refine V_aloadn 38 0 O dX12_explain_38 rfl rfl ?_
    refine V_getR 39 O k71 fl_X12_35 rf71_10 dX12_explain_39 ?_
    refine V_iloadn 42 3 O dX12_explain_42 rfl rfl ?_
    refine V_iald 43 O k80 dX12_explain_43 h (fun h => ?_)
    have J3 : V G x σ [(0, .ref (zad G 71)), (1, .int x1), (2, .int x2), (3, .int x3)] 52 [.int (if (σ 80 (ix x3)) ≤ 0 then (0 : Int32) else (1 : Int32)), .int x2] := by
      refine V_topi h (fun v5 h => ?_)
      exact V_sub [0, 1, 3] rfl (b_X12_explain_52 O E n rc29 H29 x1 x3 v5 x2 σ  h)
    refine V_if_lec 44 51 O dX12_explain_44 rfl (fun c4 => ?_) (fun c4 => ?_)
    · refine V_iconst 51 O dX12_explain_51 ci_0 ?_
      exact V_top (by rw [if_pos c4]) J3
    · refine V_iconst 47 O dX12_explain_47 ci_1 ?_
      refine V_goto 48 52 O dX12_explain_48 rfl ?_
      exact V_top (by rw [if_neg c4]) J3
theorem bl_X12_explain_29 {G : zG} {x : zX} {r : Int32} {τ : Sg} (O : zO G x cX12_explain RX12 1 40 7) (E : zE G x (some (.int)) (some (.int r)) τ) (n : Nat) : ∀ (k : Nat) (x1 : Int32) (x2 : Int32) (x3 : Int32) (σ : Sg), s_X12_explain_29 n k x1 x2 x3 σ = some (r, τ) → V G x σ [(0, .ref (zad G 71)), (1, .int x1), (2, .int x2), (3, .int x3)] 29 [] := by
  intro k
  induction k with
  | zero => intro x1 x2 x3 σ  h; cases h
  | succ k ih => intro x1 x2 x3 σ  h; exact b_X12_explain_29 O E n  (s_X12_explain_29 n  k) ih x1 x2 x3 σ  h
set_option maxRecDepth 20000 in
theorem C_X12_explain {l : Launch} {G : zG} {n : Nat} {x1 : Int32} {σ : Sg} {r : Int32} {τ : Sg} (h : s_X12_explain n x1 σ = some (r, τ)) : zM l G 1 yX12_explain (.code yX12_explain cX12_explain 7 (some (.int))) [.ref (zad G 71), .int x1] σ (some (.int r)) τ := by
  refine zM_of (by decide) (Nat.le_of_ble_eq_true rfl) (fun x O E => ?_)
  have O : zO G x cX12_explain RX12 1 40 7 := O
  unfold s_X12_explain at h
  show V G x σ [(0, .ref (zad G 71)), (1, .int x1)] 0 []
  refine V_iloadn 0 1 O dX12_explain_0 rfl rfl ?_
  refine V_i2l 1 O dX12_explain_1 ?_
  refine V_lconst 2 O dX12_explain_2 cl_0 ?_
  refine V_lconst 3 O dX12_explain_3 cl_1 ?_
  obtain ⟨r2, σ1, g, h⟩ := bd_of h
  refine V_callSi 4 [.long x1.toInt64, .long (0 : Int64), .long (1 : Int64)] [] O mf_X12_in lk_X12_162 dX12_explain_4 rfl rfl (Nat.le_of_ble_eq_true rfl) ⟨(Nat.le_of_ble_eq_true rfl), (Nat.le_of_ble_eq_true rfl)⟩ (fun l => C_X12_in  g) ?_
  refine V_if_ne 7 14 O dX12_explain_7 rfl h (fun h => ?_) (fun h => ?_)
  · refine V_aloadn 14 0 O dX12_explain_14 rfl rfl ?_
    refine V_getI 15 O k71 fl_X12_358 dX12_explain_15 ?_
    refine V_if_ne 18 25 O dX12_explain_18 rfl h (fun h => ?_) (fun h => ?_)
    · refine V_iconst 25 O dX12_explain_25 ci_0 ?_
      refine V_istoren 26 [1, 2, 0] [(0, .ref (zad G 71)), (1, .int x1), (2, .int (0 : Int32))] O dX12_explain_26 rfl (Nat.le_of_ble_eq_true rfl) rfl ?_
      refine V_iconst 27 O dX12_explain_27 ci_0 ?_
      refine V_istoren 28 [1, 2, 3, 0] [(0, .ref (zad G 71)), (1, .int x1), (2, .int (0 : Int32)), (3, .int (0 : Int32))] O dX12_explain_28 rfl (Nat.le_of_ble_eq_true rfl) rfl ?_
      exact V_sub [0, 1, 2, 3] rfl (bl_X12_explain_29 O E n  n x1 (0 : Int32) (0 : Int32) σ1  h)
    · refine V_sipush 21 O dX12_explain_21 cs_m1003 ?_
      exact V_iret 24 O E dX12_explain_24 h
  · refine V_sipush 10 O dX12_explain_10 cs_m1002 ?_
    exact V_iret 13 O E dX12_explain_13 h
-- ==== WaterTownModel.ageOf(II)I
def s_X12_ageOf (n : Nat) (x0 : Int32) (x1 : Int32) (σ : Sg) : Option (Int32 × Sg) := if x1 = 0 then (some (irm x0 (23 : Int32), σ)) else (if x1 = (1 : Int32) then (some (irm (x0 / (23 : Int32)) (23 : Int32), σ)) else (some (x0 / (529 : Int32), σ)))
set_option maxRecDepth 20000 in
theorem C_X12_ageOf {l : Launch} {G : zG} {n : Nat} {x0 : Int32} {x1 : Int32} {σ : Sg} {r : Int32} {τ : Sg} (h : s_X12_ageOf n x0 x1 σ = some (r, τ)) : zM l G 0 yX12_ageOf (.code yX12_ageOf cX12_ageOf 2 (some (.int))) [.int x0, .int x1] σ (some (.int r)) τ := by
  refine zM_of (by decide) (Nat.le_of_ble_eq_true rfl) (fun x O E => ?_)
  have O : zO G x cX12_ageOf RX12 0 0 2 := O
  unfold s_X12_ageOf at h
  show V G x σ [(0, .int x0), (1, .int x1)] 0 []
  refine V_iloadn 0 1 O dX12_ageOf_0 rfl rfl ?_
  refine V_if_ne 1 11 O dX12_ageOf_1 rfl h (fun h => ?_) (fun h => ?_)
  · refine V_iloadn 11 1 O dX12_ageOf_11 rfl rfl ?_
    refine V_iconst 12 O dX12_ageOf_12 ci_1 ?_
    refine V_icmp_ne 13 26 O dX12_ageOf_13 rfl h (fun h => ?_) (fun h => ?_)
    · refine V_iloadn 26 0 O dX12_ageOf_26 rfl rfl ?_
      refine V_sipush 27 O dX12_ageOf_27 cs_529 ?_
      refine V_idivC 30 O dX12_ageOf_30 (by decide) ?_
      exact V_iret 31 O E dX12_ageOf_31 h
    · refine V_iloadn 16 0 O dX12_ageOf_16 rfl rfl ?_
      refine V_bipush 17 O dX12_ageOf_17 cb_23 ?_
      refine V_idivC 19 O dX12_ageOf_19 (by decide) ?_
      refine V_bipush 20 O dX12_ageOf_20 cb_23 ?_
      refine V_iremC 22 O dX12_ageOf_22 (by decide) ?_
      refine V_goto 23 31 O dX12_ageOf_23 rfl ?_
      exact V_iret 31 O E dX12_ageOf_31 h
  · refine V_iloadn 4 0 O dX12_ageOf_4 rfl rfl ?_
    refine V_bipush 5 O dX12_ageOf_5 cb_23 ?_
    refine V_iremC 7 O dX12_ageOf_7 (by decide) ?_
    refine V_goto 8 31 O dX12_ageOf_8 rfl ?_
    exact V_iret 31 O E dX12_ageOf_31 h
-- ==== WaterTownModel.givenBy(II)I
def s_X12_givenBy_5b (n : Nat) (rc5 : Int32 → Int32 → Int32 → Int32 → Sg → Option (Int32 × Sg)) (x1 : Int32) (x2 : Int32) (x3 : Int32) (x4 : Int32) (σ : Sg) : Option (Int32 × Sg) := if (σ 71 70) ≤ x4 then (some (x3, σ)) else (bd (s_X12_ageOf n x1 x4 σ) fun r2 σ1 => lt ((σ 71 71) - ((σ 71 72) * r2)) fun v3 => lt (if x4 = x2 then (0 : Int32) else if 0 ≤ v3 then v3 else (0 : Int32)) fun v7 => lt (x3 + v7) fun v8 => rc5 x1 x2 v8 (x4 + (1 : Int32)) σ1)
def s_X12_givenBy_5 (n : Nat) : Nat → Int32 → Int32 → Int32 → Int32 → Sg → Option (Int32 × Sg)
  | 0 => fun _ _ _ _ _ => none
  | k + 1 => s_X12_givenBy_5b n (s_X12_givenBy_5 n k)
def s_X12_givenBy (n : Nat) (x1 : Int32) (x2 : Int32) (σ : Sg) : Option (Int32 × Sg) := s_X12_givenBy_5 n n x1 x2 (0 : Int32) (0 : Int32) σ
set_option maxRecDepth 20000 in
theorem b_X12_givenBy_5 {G : zG} {x : zX} {r : Int32} {τ : Sg} (O : zO G x cX12_givenBy RX12 1 40 6) (E : zE G x (some (.int)) (some (.int r)) τ) (n : Nat) (rc5 : Int32 → Int32 → Int32 → Int32 → Sg → Option (Int32 × Sg)) (H5 : ∀ (x1 : Int32) (x2 : Int32) (x3 : Int32) (x4 : Int32) (σ : Sg), rc5 x1 x2 x3 x4 σ = some (r, τ) → V G x σ [(0, .ref (zad G 71)), (1, .int x1), (2, .int x2), (3, .int x3), (4, .int x4)] 5 []) (x1 : Int32) (x2 : Int32) (x3 : Int32) (x4 : Int32) (σ : Sg) (h : s_X12_givenBy_5b n rc5 x1 x2 x3 x4 σ = some (r, τ)) : V G x σ [(0, .ref (zad G 71)), (1, .int x1), (2, .int x2), (3, .int x3), (4, .int x4)] 5 [] := by
  unfold s_X12_givenBy_5b at h
  refine V_iload 5 4 O dX12_givenBy_5 rfl ?_
  refine V_aloadn 7 0 O dX12_givenBy_7 rfl rfl ?_
  refine V_getI 8 O k71 fl_X12_412 dX12_givenBy_8 ?_
  refine V_icmp_ge 11 58 O dX12_givenBy_11 rfl h (fun h => ?_) (fun h => ?_)
  · refine V_iloadn 58 3 O dX12_givenBy_58 rfl rfl ?_
    exact V_iret 59 O E dX12_givenBy_59 h
  · refine V_aloadn 14 0 O dX12_givenBy_14 rfl rfl ?_
    refine V_getI 15 O k71 fl_X12_415 dX12_givenBy_15 ?_
    refine V_aloadn 18 0 O dX12_givenBy_18 rfl rfl ?_
    refine V_getI 19 O k71 fl_X12_418 dX12_givenBy_19 ?_
    refine V_iloadn 22 1 O dX12_givenBy_22 rfl rfl ?_
    refine V_iload 23 4 O dX12_givenBy_23 rfl ?_
    obtain ⟨r2, σ1, g, h⟩ := bd_of h
    refine V_callSi 25 [.int x1, .int x4] [.int (σ 71 72), .int (σ 71 71)] O mf_X12_ageOf lk_X12_421 dX12_givenBy_25 rfl rfl (Nat.le_of_ble_eq_true rfl) ⟨(Nat.le_of_ble_eq_true rfl), (Nat.le_of_ble_eq_true rfl)⟩ (fun l => C_X12_ageOf  g) ?_
    refine V_imul 28 O dX12_givenBy_28 ?_
    refine V_isub 29 O dX12_givenBy_29 ?_
    refine V_topi h (fun v3 h => ?_)
    refine V_istore 30 [1, 2, 3, 4, 5, 0] [(0, .ref (zad G 71)), (1, .int x1), (2, .int x2), (3, .int x3), (4, .int x4), (5, .int v3)] O dX12_givenBy_30 (Nat.le_of_ble_eq_true rfl) rfl ?_
    refine V_iloadn 32 3 O dX12_givenBy_32 rfl rfl ?_
    refine V_iload 33 4 O dX12_givenBy_33 rfl ?_
    refine V_iloadn 35 2 O dX12_givenBy_35 rfl rfl ?_
    have J4 : V G x σ1 [(0, .ref (zad G 71)), (1, .int x1), (2, .int x2), (3, .int x3), (4, .int x4), (5, .int v3)] 50 [.int (if x4 = x2 then (0 : Int32) else if 0 ≤ v3 then v3 else (0 : Int32)), .int x3] := by
      refine V_topi h (fun v7 h => ?_)
      refine V_iadd 50 O dX12_givenBy_50 ?_
      refine V_topi h (fun v8 h => ?_)
      refine V_istoren 51 [1, 2, 3, 0, 4, 5] [(0, .ref (zad G 71)), (1, .int x1), (2, .int x2), (3, .int v8), (4, .int x4), (5, .int v3)] O dX12_givenBy_51 rfl (Nat.le_of_ble_eq_true rfl) rfl ?_
      refine V_iinc 52 4 [1, 2, 3, 4, 0, 5] [(0, .ref (zad G 71)), (1, .int x1), (2, .int x2), (3, .int v8), (4, .int (x4 + (1 : Int32))), (5, .int v3)] O dX12_givenBy_52 rfl ci_1 (Nat.le_of_ble_eq_true rfl) rfl ?_
      refine V_goto 55 5 O dX12_givenBy_55 rfl ?_
      exact V_sub [0, 1, 2, 3, 4] rfl (H5 x1 x2 v8 (x4 + (1 : Int32)) σ1  h)
    refine V_icmp_eqc 36 44 O dX12_givenBy_36 rfl (fun c5 => ?_) (fun c5 => ?_)
    · refine V_iconst 44 O dX12_givenBy_44 ci_0 ?_
      refine V_goto 45 50 O dX12_givenBy_45 rfl ?_
      exact V_top (by rw [if_pos c5]) J4
    · refine V_iload 39 5 O dX12_givenBy_39 rfl ?_
      refine V_if_gec 41 48 O dX12_givenBy_41 rfl (fun c6 => ?_) (fun c6 => ?_)
      · refine V_iload 48 5 O dX12_givenBy_48 rfl ?_
        exact V_top (by rw [if_neg c5, if_pos c6]) J4
      · refine V_iconst 44 O dX12_givenBy_44 ci_0 ?_
        refine V_goto 45 50 O dX12_givenBy_45 rfl ?_
        exact V_top (by rw [if_neg c5, if_neg c6]) J4
theorem bl_X12_givenBy_5 {G : zG} {x : zX} {r : Int32} {τ : Sg} (O : zO G x cX12_givenBy RX12 1 40 6) (E : zE G x (some (.int)) (some (.int r)) τ) (n : Nat) : ∀ (k : Nat) (x1 : Int32) (x2 : Int32) (x3 : Int32) (x4 : Int32) (σ : Sg), s_X12_givenBy_5 n k x1 x2 x3 x4 σ = some (r, τ) → V G x σ [(0, .ref (zad G 71)), (1, .int x1), (2, .int x2), (3, .int x3), (4, .int x4)] 5 [] := by
  intro k
  induction k with
  | zero => intro x1 x2 x3 x4 σ  h; cases h
  | succ k ih => intro x1 x2 x3 x4 σ  h; exact b_X12_givenBy_5 O E n  (s_X12_givenBy_5 n  k) ih x1 x2 x3 x4 σ  h
set_option maxRecDepth 20000 in
theorem C_X12_givenBy {l : Launch} {G : zG} {n : Nat} {x1 : Int32} {x2 : Int32} {σ : Sg} {r : Int32} {τ : Sg} (h : s_X12_givenBy n x1 x2 σ = some (r, τ)) : zM l G 1 yX12_givenBy (.code yX12_givenBy cX12_givenBy 6 (some (.int))) [.ref (zad G 71), .int x1, .int x2] σ (some (.int r)) τ := by
  refine zM_of (by decide) (Nat.le_of_ble_eq_true rfl) (fun x O E => ?_)
  have O : zO G x cX12_givenBy RX12 1 40 6 := O
  unfold s_X12_givenBy at h
  show V G x σ [(0, .ref (zad G 71)), (1, .int x1), (2, .int x2)] 0 []
  refine V_iconst 0 O dX12_givenBy_0 ci_0 ?_
  refine V_istoren 1 [1, 2, 3, 0] [(0, .ref (zad G 71)), (1, .int x1), (2, .int x2), (3, .int (0 : Int32))] O dX12_givenBy_1 rfl (Nat.le_of_ble_eq_true rfl) rfl ?_
  refine V_iconst 2 O dX12_givenBy_2 ci_0 ?_
  refine V_istore 3 [1, 2, 3, 4, 0] [(0, .ref (zad G 71)), (1, .int x1), (2, .int x2), (3, .int (0 : Int32)), (4, .int (0 : Int32))] O dX12_givenBy_3 (Nat.le_of_ble_eq_true rfl) rfl ?_
  exact V_sub [0, 1, 2, 3, 4] rfl (bl_X12_givenBy_5 O E n  n x1 x2 (0 : Int32) (0 : Int32) σ  h)
-- ==== WaterTownModel.nextAges(II)I
def s_X12_nextAges_10b (n : Nat) (rc10 : Int32 → Int32 → Int32 → Int32 → Sg → Option (Int32 × Sg)) (x1 : Int32) (x2 : Int32) (x3 : Int32) (x4 : Int32) (σ : Sg) : Option (Int32 × Sg) := if x4 < 0 then (some (x3, σ)) else (if x4 = x2 then (lt (((23 : Int32) * x3) + (0 : Int32)) fun v5 => rc10 x1 x2 v5 (x4 + (-1 : Int32)) σ) else (bd (s_X12_ageOf n x1 x4 σ) fun r3 σ2 => lt (((23 : Int32) * x3) + (r3 + (1 : Int32))) fun v4 => rc10 x1 x2 v4 (x4 + (-1 : Int32)) σ2))
def s_X12_nextAges_10 (n : Nat) : Nat → Int32 → Int32 → Int32 → Int32 → Sg → Option (Int32 × Sg)
  | 0 => fun _ _ _ _ _ => none
  | k + 1 => s_X12_nextAges_10b n (s_X12_nextAges_10 n k)
def s_X12_nextAges (n : Nat) (x1 : Int32) (x2 : Int32) (σ : Sg) : Option (Int32 × Sg) := lt ((σ 71 70) - (1 : Int32)) fun v1 => s_X12_nextAges_10 n n x1 x2 (0 : Int32) v1 σ
set_option maxRecDepth 20000 in
theorem b_X12_nextAges_10 {G : zG} {x : zX} {r : Int32} {τ : Sg} (O : zO G x cX12_nextAges RX12 1 40 5) (E : zE G x (some (.int)) (some (.int r)) τ) (n : Nat) (rc10 : Int32 → Int32 → Int32 → Int32 → Sg → Option (Int32 × Sg)) (H10 : ∀ (x1 : Int32) (x2 : Int32) (x3 : Int32) (x4 : Int32) (σ : Sg), rc10 x1 x2 x3 x4 σ = some (r, τ) → V G x σ [(1, .int x1), (2, .int x2), (3, .int x3), (4, .int x4)] 10 []) (x1 : Int32) (x2 : Int32) (x3 : Int32) (x4 : Int32) (σ : Sg) (h : s_X12_nextAges_10b n rc10 x1 x2 x3 x4 σ = some (r, τ)) : V G x σ [(1, .int x1), (2, .int x2), (3, .int x3), (4, .int x4)] 10 [] := by
  unfold s_X12_nextAges_10b at h
  refine V_iload 10 3 O dX12_nextAges_10 rfl ?_
  refine V_if_lt 12 45 O dX12_nextAges_12 rfl h (fun h => ?_) (fun h => ?_)
  · refine V_iloadn 45 2 O dX12_nextAges_45 rfl rfl ?_
    exact V_iret 46 O E dX12_nextAges_46 h
  · refine V_bipush 15 O dX12_nextAges_15 cb_23 ?_
    refine V_iloadn 17 2 O dX12_nextAges_17 rfl rfl ?_
    refine V_imul 18 O dX12_nextAges_18 ?_
    refine V_iload 19 3 O dX12_nextAges_19 rfl ?_
    refine V_iloadn 21 1 O dX12_nextAges_21 rfl rfl ?_
    refine V_icmp_ne 22 29 O dX12_nextAges_22 rfl h (fun h => ?_) (fun h => ?_)
    · refine V_iloadn 29 0 O dX12_nextAges_29 rfl rfl ?_
      refine V_iload 30 3 O dX12_nextAges_30 rfl ?_
      obtain ⟨r3, σ2, g, h⟩ := bd_of h
      refine V_callSi 32 [.int x1, .int x4] [.int ((23 : Int32) * x3)] O mf_X12_ageOf lk_X12_421 dX12_nextAges_32 rfl rfl (Nat.le_of_ble_eq_true rfl) ⟨(Nat.le_of_ble_eq_true rfl), (Nat.le_of_ble_eq_true rfl)⟩ (fun l => C_X12_ageOf  g) ?_
      refine V_iconst 35 O dX12_nextAges_35 ci_1 ?_
      refine V_iadd 36 O dX12_nextAges_36 ?_
      refine V_iadd 37 O dX12_nextAges_37 ?_
      refine V_topi h (fun v4 h => ?_)
      refine V_istoren 38 [1, 2, 0, 3] [(1, .int x1), (2, .int x2), (3, .int v4), (4, .int x4)] O dX12_nextAges_38 rfl (Nat.le_of_ble_eq_true rfl) rfl ?_
      refine V_iinc 39 3 [1, 2, 3, 0] [(1, .int x1), (2, .int x2), (3, .int v4), (4, .int (x4 + (-1 : Int32)))] O dX12_nextAges_39 rfl ci_m1 (Nat.le_of_ble_eq_true rfl) rfl ?_
      refine V_goto 42 10 O dX12_nextAges_42 rfl ?_
      exact V_sub [0, 1, 2, 3] rfl (H10 x1 x2 v4 (x4 + (-1 : Int32)) σ2  h)
    · refine V_iconst 25 O dX12_nextAges_25 ci_0 ?_
      refine V_goto 26 37 O dX12_nextAges_26 rfl ?_
      refine V_iadd 37 O dX12_nextAges_37 ?_
      refine V_topi h (fun v5 h => ?_)
      refine V_istoren 38 [1, 2, 0, 3] [(1, .int x1), (2, .int x2), (3, .int v5), (4, .int x4)] O dX12_nextAges_38 rfl (Nat.le_of_ble_eq_true rfl) rfl ?_
      refine V_iinc 39 3 [1, 2, 3, 0] [(1, .int x1), (2, .int x2), (3, .int v5), (4, .int (x4 + (-1 : Int32)))] O dX12_nextAges_39 rfl ci_m1 (Nat.le_of_ble_eq_true rfl) rfl ?_
      refine V_goto 42 10 O dX12_nextAges_42 rfl ?_
      exact V_sub [0, 1, 2, 3] rfl (H10 x1 x2 v5 (x4 + (-1 : Int32)) σ  h)
theorem bl_X12_nextAges_10 {G : zG} {x : zX} {r : Int32} {τ : Sg} (O : zO G x cX12_nextAges RX12 1 40 5) (E : zE G x (some (.int)) (some (.int r)) τ) (n : Nat) : ∀ (k : Nat) (x1 : Int32) (x2 : Int32) (x3 : Int32) (x4 : Int32) (σ : Sg), s_X12_nextAges_10 n k x1 x2 x3 x4 σ = some (r, τ) → V G x σ [(1, .int x1), (2, .int x2), (3, .int x3), (4, .int x4)] 10 [] := by
  intro k
  induction k with
  | zero => intro x1 x2 x3 x4 σ  h; cases h
  | succ k ih => intro x1 x2 x3 x4 σ  h; exact b_X12_nextAges_10 O E n  (s_X12_nextAges_10 n  k) ih x1 x2 x3 x4 σ  h
set_option maxRecDepth 20000 in
theorem C_X12_nextAges {l : Launch} {G : zG} {n : Nat} {x1 : Int32} {x2 : Int32} {σ : Sg} {r : Int32} {τ : Sg} (h : s_X12_nextAges n x1 x2 σ = some (r, τ)) : zM l G 1 yX12_nextAges (.code yX12_nextAges cX12_nextAges 5 (some (.int))) [.ref (zad G 71), .int x1, .int x2] σ (some (.int r)) τ := by
  refine zM_of (by decide) (Nat.le_of_ble_eq_true rfl) (fun x O E => ?_)
  have O : zO G x cX12_nextAges RX12 1 40 5 := O
  unfold s_X12_nextAges at h
  show V G x σ [(0, .ref (zad G 71)), (1, .int x1), (2, .int x2)] 0 []
  refine V_iconst 0 O dX12_nextAges_0 ci_0 ?_
  refine V_istoren 1 [1, 2, 3, 0] [(0, .ref (zad G 71)), (1, .int x1), (2, .int x2), (3, .int (0 : Int32))] O dX12_nextAges_1 rfl (Nat.le_of_ble_eq_true rfl) rfl ?_
  refine V_aloadn 2 0 O dX12_nextAges_2 rfl rfl ?_
  refine V_getI 3 O k71 fl_X12_412 dX12_nextAges_3 ?_
  refine V_iconst 6 O dX12_nextAges_6 ci_1 ?_
  refine V_isub 7 O dX12_nextAges_7 ?_
  refine V_topi h (fun v1 h => ?_)
  refine V_istore 8 [1, 2, 3, 4, 0] [(0, .ref (zad G 71)), (1, .int x1), (2, .int x2), (3, .int (0 : Int32)), (4, .int v1)] O dX12_nextAges_8 (Nat.le_of_ble_eq_true rfl) rfl ?_
  exact V_sub [1, 2, 3, 4] rfl (bl_X12_nextAges_10 O E n  n x1 x2 (0 : Int32) v1 σ  h)
-- ==== WaterTownModel.bedCell(II)I
def s_X12_bedCell (n : Nat) (x0 : Int32) (x1 : Int32) (σ : Sg) : Option (Int32 × Sg) := some (((12167 : Int32) * x0) + x1, σ)
set_option maxRecDepth 20000 in
theorem C_X12_bedCell {l : Launch} {G : zG} {n : Nat} {x0 : Int32} {x1 : Int32} {σ : Sg} {r : Int32} {τ : Sg} (h : s_X12_bedCell n x0 x1 σ = some (r, τ)) : zM l G 0 yX12_bedCell (.code yX12_bedCell cX12_bedCell 2 (some (.int))) [.int x0, .int x1] σ (some (.int r)) τ := by
  refine zM_of (by decide) (Nat.le_of_ble_eq_true rfl) (fun x O E => ?_)
  have O : zO G x cX12_bedCell RX12 0 0 2 := O
  unfold s_X12_bedCell at h
  show V G x σ [(0, .int x0), (1, .int x1)] 0 []
  refine V_sipush 0 O dX12_bedCell_0 cs_12167 ?_
  refine V_iloadn 3 0 O dX12_bedCell_3 rfl rfl ?_
  refine V_imul 4 O dX12_bedCell_4 ?_
  refine V_iloadn 5 1 O dX12_bedCell_5 rfl rfl ?_
  refine V_iadd 6 O dX12_bedCell_6 ?_
  exact V_iret 7 O E dX12_bedCell_7 h
-- ==== WaterTownModel.bestFrom(II)I
def s_X12_bestFrom_76 (n : Nat) (rc7 : Int32 → Int32 → Int32 → Int32 → Sg → Option (Int32 × Sg)) (x1 : Int32) (x2 : Int32) (x4 : Int32) (y0 : Int32) (σ : Sg) : Option (Int32 × Sg) := rc7 x1 x2 y0 (x4 + (1 : Int32)) σ
def s_X12_bestFrom_40 (n : Nat) (rc7 : Int32 → Int32 → Int32 → Int32 → Sg → Option (Int32 × Sg)) (x1 : Int32) (x2 : Int32) (x3 : Int32) (x4 : Int32) (y0 : Int32) (σ : Sg) : Option (Int32 × Sg) := bd (s_X12_one n y0 σ) fun r7 σ6 => bd (s_X12_nextAges n x2 x4 σ6) fun r9 σ8 => bd (s_X12_bedCell n (x1 + (1 : Int32)) r9 σ8) fun r11 σ10 => ck r11 267674 (lt (r7 + (σ10 117 (ix r11))) fun v12 => lt (if x3 ≤ v12 then x3 else v12) fun v15 => s_X12_bestFrom_76 n rc7 x1 x2 x4 v15 σ10)
def s_X12_bestFrom_7b (n : Nat) (rc7 : Int32 → Int32 → Int32 → Int32 → Sg → Option (Int32 × Sg)) (x1 : Int32) (x2 : Int32) (x3 : Int32) (x4 : Int32) (σ : Sg) : Option (Int32 × Sg) := if (σ 71 70) ≤ x4 then (some (x3, σ)) else (bd (s_X12_givenBy n x2 x4 σ) fun r2 σ1 => if r2 < (σ1 71 73) then (rc7 x1 x2 x3 (x4 + (1 : Int32)) σ1) else (lt (if x4 < 0 then (0 : Int32) else (1 : Int32)) fun v5 => s_X12_bestFrom_40 n rc7 x1 x2 x3 x4 v5 σ1))
def s_X12_bestFrom_7 (n : Nat) : Nat → Int32 → Int32 → Int32 → Int32 → Sg → Option (Int32 × Sg)
  | 0 => fun _ _ _ _ _ => none
  | k + 1 => s_X12_bestFrom_7b n (s_X12_bestFrom_7 n k)
def s_X12_bestFrom (n : Nat) (x1 : Int32) (x2 : Int32) (σ : Sg) : Option (Int32 × Sg) := s_X12_bestFrom_7 n n x1 x2 (1000000 : Int32) (-1 : Int32) σ
set_option maxRecDepth 20000 in
theorem b_X12_bestFrom_76 {G : zG} {x : zX} {r : Int32} {τ : Sg} (O : zO G x cX12_bestFrom RX12 2 80 6) (E : zE G x (some (.int)) (some (.int r)) τ) (n : Nat) (rc7 : Int32 → Int32 → Int32 → Int32 → Sg → Option (Int32 × Sg)) (H7 : ∀ (x1 : Int32) (x2 : Int32) (x3 : Int32) (x4 : Int32) (σ : Sg), rc7 x1 x2 x3 x4 σ = some (r, τ) → V G x σ [(0, .ref (zad G 71)), (1, .int x1), (2, .int x2), (3, .int x3), (4, .int x4)] 7 []) (x1 : Int32) (x2 : Int32) (x4 : Int32) (y0 : Int32) (σ : Sg) (h : s_X12_bestFrom_76 n rc7 x1 x2 x4 y0 σ = some (r, τ)) : V G x σ [(0, .ref (zad G 71)), (1, .int x1), (2, .int x2), (4, .int x4)] 76 [.int y0] := by
  unfold s_X12_bestFrom_76 at h
  refine V_istoren 76 [1, 2, 3, 0, 4] [(0, .ref (zad G 71)), (1, .int x1), (2, .int x2), (3, .int y0), (4, .int x4)] O dX12_bestFrom_76 rfl (Nat.le_of_ble_eq_true rfl) rfl ?_
  refine V_iinc 77 4 [1, 2, 3, 4, 0] [(0, .ref (zad G 71)), (1, .int x1), (2, .int x2), (3, .int y0), (4, .int (x4 + (1 : Int32)))] O dX12_bestFrom_77 rfl ci_1 (Nat.le_of_ble_eq_true rfl) rfl ?_
  refine V_goto 80 7 O dX12_bestFrom_80 rfl ?_
  exact V_sub [0, 1, 2, 3, 4] rfl (H7 x1 x2 y0 (x4 + (1 : Int32)) σ  h)
set_option maxRecDepth 20000 in
theorem b_X12_bestFrom_40 {G : zG} {x : zX} {r : Int32} {τ : Sg} (O : zO G x cX12_bestFrom RX12 2 80 6) (E : zE G x (some (.int)) (some (.int r)) τ) (n : Nat) (rc7 : Int32 → Int32 → Int32 → Int32 → Sg → Option (Int32 × Sg)) (H7 : ∀ (x1 : Int32) (x2 : Int32) (x3 : Int32) (x4 : Int32) (σ : Sg), rc7 x1 x2 x3 x4 σ = some (r, τ) → V G x σ [(0, .ref (zad G 71)), (1, .int x1), (2, .int x2), (3, .int x3), (4, .int x4)] 7 []) (x1 : Int32) (x2 : Int32) (x3 : Int32) (x4 : Int32) (y0 : Int32) (σ : Sg) (h : s_X12_bestFrom_40 n rc7 x1 x2 x3 x4 y0 σ = some (r, τ)) : V G x σ [(0, .ref (zad G 71)), (1, .int x1), (2, .int x2), (3, .int x3), (4, .int x4)] 40 [.int y0] := by
  unfold s_X12_bestFrom_40 at h
  obtain ⟨r7, σ6, g, h⟩ := bd_of h
  refine V_callSi 40 [.int y0] [] O mf_X12_one lk_X12_185 dX12_bestFrom_40 rfl rfl (Nat.le_of_ble_eq_true rfl) ⟨(Nat.le_of_ble_eq_true rfl), (Nat.le_of_ble_eq_true rfl)⟩ (fun l => C_X12_one  g) ?_
  refine V_aloadn 43 0 O dX12_bestFrom_43 rfl rfl ?_
  refine V_getR 44 O k71 fl_X12_154 rf71_69 dX12_bestFrom_44 ?_
  refine V_iloadn 47 1 O dX12_bestFrom_47 rfl rfl ?_
  refine V_iconst 48 O dX12_bestFrom_48 ci_1 ?_
  refine V_iadd 49 O dX12_bestFrom_49 ?_
  refine V_aloadn 50 0 O dX12_bestFrom_50 rfl rfl ?_
  refine V_iloadn 51 2 O dX12_bestFrom_51 rfl rfl ?_
  refine V_iload 52 4 O dX12_bestFrom_52 rfl ?_
  obtain ⟨r9, σ8, g, h⟩ := bd_of h
  refine V_callVi 54 [.int x2, .int x4] [.int (x1 + (1 : Int32)), .ref (zad G 117), .int r7] O mf_X12_nextAges lk_X12_436 k71 dX12_bestFrom_54 rfl rfl (Nat.le_of_ble_eq_true rfl) ⟨(Nat.le_of_ble_eq_true rfl), (Nat.le_of_ble_eq_true rfl)⟩ (fun l => C_X12_nextAges  g) ?_
  obtain ⟨r11, σ10, g, h⟩ := bd_of h
  refine V_callSi 57 [.int (x1 + (1 : Int32)), .int r9] [.ref (zad G 117), .int r7] O mf_X12_bedCell lk_X12_424 dX12_bestFrom_57 rfl rfl (Nat.le_of_ble_eq_true rfl) ⟨(Nat.le_of_ble_eq_true rfl), (Nat.le_of_ble_eq_true rfl)⟩ (fun l => C_X12_bedCell  g) ?_
  refine V_iald 60 O k117 dX12_bestFrom_60 h (fun h => ?_)
  refine V_iadd 61 O dX12_bestFrom_61 ?_
  refine V_topi h (fun v12 h => ?_)
  refine V_istore 62 [1, 2, 3, 4, 5, 0] [(0, .ref (zad G 71)), (1, .int x1), (2, .int x2), (3, .int x3), (4, .int x4), (5, .int v12)] O dX12_bestFrom_62 (Nat.le_of_ble_eq_true rfl) rfl ?_
  refine V_iload 64 5 O dX12_bestFrom_64 rfl ?_
  refine V_iloadn 66 3 O dX12_bestFrom_66 rfl rfl ?_
  have J13 : V G x σ10 [(0, .ref (zad G 71)), (1, .int x1), (2, .int x2), (3, .int x3), (4, .int x4), (5, .int v12)] 76 [.int (if x3 ≤ v12 then x3 else v12)] := by
    refine V_topi h (fun v15 h => ?_)
    exact V_sub [0, 1, 2, 4] rfl (b_X12_bestFrom_76 O E n rc7 H7 x1 x2 x4 v15 σ10  h)
  refine V_icmp_gec 67 75 O dX12_bestFrom_67 rfl (fun c14 => ?_) (fun c14 => ?_)
  · refine V_iloadn 75 3 O dX12_bestFrom_75 rfl rfl ?_
    exact V_top (by rw [if_pos c14]) J13
  · refine V_iload 70 5 O dX12_bestFrom_70 rfl ?_
    refine V_goto 72 76 O dX12_bestFrom_72 rfl ?_
    exact V_top (by rw [if_neg c14]) J13
set_option maxRecDepth 20000 in
theorem b_X12_bestFrom_7 {G : zG} {x : zX} {r : Int32} {τ : Sg} (O : zO G x cX12_bestFrom RX12 2 80 6) (E : zE G x (some (.int)) (some (.int r)) τ) (n : Nat) (rc7 : Int32 → Int32 → Int32 → Int32 → Sg → Option (Int32 × Sg)) (H7 : ∀ (x1 : Int32) (x2 : Int32) (x3 : Int32) (x4 : Int32) (σ : Sg), rc7 x1 x2 x3 x4 σ = some (r, τ) → V G x σ [(0, .ref (zad G 71)), (1, .int x1), (2, .int x2), (3, .int x3), (4, .int x4)] 7 []) (x1 : Int32) (x2 : Int32) (x3 : Int32) (x4 : Int32) (σ : Sg) (h : s_X12_bestFrom_7b n rc7 x1 x2 x3 x4 σ = some (r, τ)) : V G x σ [(0, .ref (zad G 71)), (1, .int x1), (2, .int x2), (3, .int x3), (4, .int x4)] 7 [] := by
  unfold s_X12_bestFrom_7b at h
  refine V_iload 7 4 O dX12_bestFrom_7 rfl ?_
  refine V_aloadn 9 0 O dX12_bestFrom_9 rfl rfl ?_
  refine V_getI 10 O k71 fl_X12_412 dX12_bestFrom_10 ?_
  refine V_icmp_ge 13 83 O dX12_bestFrom_13 rfl h (fun h => ?_) (fun h => ?_)
  · refine V_iloadn 83 3 O dX12_bestFrom_83 rfl rfl ?_
    exact V_iret 84 O E dX12_bestFrom_84 h
  · refine V_aloadn 16 0 O dX12_bestFrom_16 rfl rfl ?_
    refine V_iloadn 17 2 O dX12_bestFrom_17 rfl rfl ?_
    refine V_iload 18 4 O dX12_bestFrom_18 rfl ?_
    obtain ⟨r2, σ1, g, h⟩ := bd_of h
    refine V_callVi 20 [.int x2, .int x4] [] O mf_X12_givenBy lk_X12_430 k71 dX12_bestFrom_20 rfl rfl (Nat.le_of_ble_eq_true rfl) ⟨(Nat.le_of_ble_eq_true rfl), (Nat.le_of_ble_eq_true rfl)⟩ (fun l => C_X12_givenBy  g) ?_
    refine V_aloadn 23 0 O dX12_bestFrom_23 rfl rfl ?_
    refine V_getI 24 O k71 fl_X12_433 dX12_bestFrom_24 ?_
    refine V_icmp_lt 27 77 O dX12_bestFrom_27 rfl h (fun h => ?_) (fun h => ?_)
    · refine V_iinc 77 4 [1, 2, 3, 4, 0] [(0, .ref (zad G 71)), (1, .int x1), (2, .int x2), (3, .int x3), (4, .int (x4 + (1 : Int32)))] O dX12_bestFrom_77 rfl ci_1 (Nat.le_of_ble_eq_true rfl) rfl ?_
      refine V_goto 80 7 O dX12_bestFrom_80 rfl ?_
      exact V_sub [0, 1, 2, 3, 4] rfl (H7 x1 x2 x3 (x4 + (1 : Int32)) σ1  h)
    · refine V_iload 30 4 O dX12_bestFrom_30 rfl ?_
      have J3 : V G x σ1 [(0, .ref (zad G 71)), (1, .int x1), (2, .int x2), (3, .int x3), (4, .int x4)] 40 [.int (if x4 < 0 then (0 : Int32) else (1 : Int32))] := by
        refine V_topi h (fun v5 h => ?_)
        exact V_sub [0, 1, 2, 3, 4] rfl (b_X12_bestFrom_40 O E n rc7 H7 x1 x2 x3 x4 v5 σ1  h)
      refine V_if_ltc 32 39 O dX12_bestFrom_32 rfl (fun c4 => ?_) (fun c4 => ?_)
      · refine V_iconst 39 O dX12_bestFrom_39 ci_0 ?_
        exact V_top (by rw [if_pos c4]) J3
      · refine V_iconst 35 O dX12_bestFrom_35 ci_1 ?_
        refine V_goto 36 40 O dX12_bestFrom_36 rfl ?_
        exact V_top (by rw [if_neg c4]) J3
theorem bl_X12_bestFrom_7 {G : zG} {x : zX} {r : Int32} {τ : Sg} (O : zO G x cX12_bestFrom RX12 2 80 6) (E : zE G x (some (.int)) (some (.int r)) τ) (n : Nat) : ∀ (k : Nat) (x1 : Int32) (x2 : Int32) (x3 : Int32) (x4 : Int32) (σ : Sg), s_X12_bestFrom_7 n k x1 x2 x3 x4 σ = some (r, τ) → V G x σ [(0, .ref (zad G 71)), (1, .int x1), (2, .int x2), (3, .int x3), (4, .int x4)] 7 [] := by
  intro k
  induction k with
  | zero => intro x1 x2 x3 x4 σ  h; cases h
  | succ k ih => intro x1 x2 x3 x4 σ  h; exact b_X12_bestFrom_7 O E n  (s_X12_bestFrom_7 n  k) ih x1 x2 x3 x4 σ  h
set_option maxRecDepth 20000 in
theorem C_X12_bestFrom {l : Launch} {G : zG} {n : Nat} {x1 : Int32} {x2 : Int32} {σ : Sg} {r : Int32} {τ : Sg} (h : s_X12_bestFrom n x1 x2 σ = some (r, τ)) : zM l G 2 yX12_bestFrom (.code yX12_bestFrom cX12_bestFrom 6 (some (.int))) [.ref (zad G 71), .int x1, .int x2] σ (some (.int r)) τ := by
  refine zM_of (by decide) (Nat.le_of_ble_eq_true rfl) (fun x O E => ?_)
  have O : zO G x cX12_bestFrom RX12 2 80 6 := O
  unfold s_X12_bestFrom at h
  show V G x σ [(0, .ref (zad G 71)), (1, .int x1), (2, .int x2)] 0 []
  refine V_ldcw 0 O dX12_bestFrom_0 kc_X12_378 ?_
  refine V_istoren 3 [1, 2, 3, 0] [(0, .ref (zad G 71)), (1, .int x1), (2, .int x2), (3, .int (1000000 : Int32))] O dX12_bestFrom_3 rfl (Nat.le_of_ble_eq_true rfl) rfl ?_
  refine V_iconst 4 O dX12_bestFrom_4 ci_m1 ?_
  refine V_istore 5 [1, 2, 3, 4, 0] [(0, .ref (zad G 71)), (1, .int x1), (2, .int x2), (3, .int (1000000 : Int32)), (4, .int (-1 : Int32))] O dX12_bestFrom_5 (Nat.le_of_ble_eq_true rfl) rfl ?_
  exact V_sub [0, 1, 2, 3, 4] rfl (bl_X12_bestFrom_7 O E n  n x1 x2 (1000000 : Int32) (-1 : Int32) σ  h)
