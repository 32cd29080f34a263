-- ==== WaterTownModel.findRules(I)V
def s_X12_findRules_53b (n : Nat) (rc44 : Int32 → Sg → Option Sg) (rc53 : Int32 → Int32 → Sg → Option Sg) (x2 : Int32) (x3 : Int32) (σ : Sg) : Option Sg := ck x2 8 (if (((8 : Int32) * x2) + (σ 94 (ix x2))) ≤ x3 then (rc44 (x2 + (-1 : Int32)) σ) else (ck x2 8 (if (σ 99 (ix x2)) = 0 then (rc44 (x2 + (-1 : Int32)) σ) else (ck x3 64 (if (σ 95 (ix x3)) = (4 : Int32) then (ck x3 64 (ck (σ 96 (ix x3)) 8 (lt (up2 σ 99 (ix (σ 96 (ix x3))) (vp_nar .boolean (0 : Int32))) fun σ13 => rc53 x2 (x3 + (1 : Int32)) σ13))) else (rc53 x2 (x3 + (1 : Int32)) σ))))))
def s_X12_findRules_53 (n : Nat) (rc44 : Int32 → Sg → Option Sg) : Nat → Int32 → Int32 → Sg → Option Sg
  | 0 => fun _ _ _ => none
  | k + 1 => s_X12_findRules_53b n rc44 (s_X12_findRules_53 n rc44 k)
def s_X12_findRules_185 (n : Nat) (rc115 : Int32 → Int32 → Sg → Option Sg) (x2 : Int32) (x3 : Int32) (x4 : Int32) (σ : Sg) : Option Sg := ck x4 8 (lt (up2 σ 100 (ix x4) x3) fun σ22 => rc115 (x2 + (1 : Int32)) (x3 + (1 : Int32)) σ22)
def s_X12_findRules_135b (n : Nat) (rc115 : Int32 → Int32 → Sg → Option Sg) (rc135 : Int32 → Int32 → Int32 → Sg → Option Sg) (x2 : Int32) (x3 : Int32) (x4 : Int32) (σ : Sg) : Option Sg := if x4 ≤ 0 then (s_X12_findRules_185 n rc115 x2 x3 x4 σ) else (ck (x4 - (1 : Int32)) 8 (ck (σ 100 (ix (x4 - (1 : Int32)))) 8 (ck x3 8 (if (σ 93 (ix (σ 100 (ix (x4 - (1 : Int32)))))) ≤ (σ 93 (ix x3)) then (s_X12_findRules_185 n rc115 x2 x3 x4 σ) else (ck (x4 - (1 : Int32)) 8 (ck x4 8 (lt (up2 σ 100 (ix x4) (σ 100 (ix (x4 - (1 : Int32))))) fun σ15 => rc135 x2 x3 (x4 + (-1 : Int32)) σ15)))))))
def s_X12_findRules_135 (n : Nat) (rc115 : Int32 → Int32 → Sg → Option Sg) : Nat → Int32 → Int32 → Int32 → Sg → Option Sg
  | 0 => fun _ _ _ _ => none
  | k + 1 => s_X12_findRules_135b n rc115 (s_X12_findRules_135 n rc115 k)
def s_X12_findRules_252b (n : Nat) (rc236 : Int32 → Int32 → Sg → Option Sg) (rc252 : Int32 → Int32 → Int32 → Sg → Option Sg) (x2 : Int32) (x3 : Int32) (x4 : Int32) (σ : Sg) : Option Sg := ck x3 8 (ck x3 8 (ck (σ 100 (ix x3)) 8 (if (((8 : Int32) * (σ 100 (ix x3))) + (σ 94 (ix (σ 100 (ix x3))))) ≤ x4 then (rc236 x2 (x3 + (1 : Int32)) σ) else (ck x4 64 (if (σ 95 (ix x4)) = 0 then (ck x4 64 (lt (up2 σ 71 41 (σ 96 (ix x4))) fun σ20 => ck x4 64 (lt (up2 σ20 71 42 (σ20 97 (ix x4))) fun σ21 => rc252 x2 x3 (x4 + (1 : Int32)) σ21))) else (ck x4 64 (if (σ 95 (ix x4)) = (1 : Int32) then (ck x4 64 (lt (up2 σ 71 43 (σ 96 (ix x4))) fun σ18 => ck x4 64 (lt (up2 σ18 71 44 (σ18 97 (ix x4))) fun σ19 => rc252 x2 x3 (x4 + (1 : Int32)) σ19))) else (ck x4 64 (if (σ 95 (ix x4)) = (2 : Int32) then (ck x4 64 (lt (up2 σ 71 45 (σ 96 (ix x4))) fun σ17 => rc252 x2 x3 (x4 + (1 : Int32)) σ17)) else (ck x4 64 (if (σ 95 (ix x4)) = (3 : Int32) then (ck x4 64 (lt (up2 σ 71 46 (σ 96 (ix x4))) fun σ16 => rc252 x2 x3 (x4 + (1 : Int32)) σ16)) else (rc252 x2 x3 (x4 + (1 : Int32)) σ))))))))))))
def s_X12_findRules_252 (n : Nat) (rc236 : Int32 → Int32 → Sg → Option Sg) : Nat → Int32 → Int32 → Int32 → Sg → Option Sg
  | 0 => fun _ _ _ _ => none
  | k + 1 => s_X12_findRules_252b n rc236 (s_X12_findRules_252 n rc236 k)
def s_X12_findRules_236b (n : Nat) (rc236 : Int32 → Int32 → Sg → Option Sg) (x2 : Int32) (x3 : Int32) (σ : Sg) : Option Sg := if x2 ≤ x3 then (some σ) else (ck x3 8 (lt ((8 : Int32) * (σ 100 (ix x3))) fun v14 => s_X12_findRules_252 n rc236 n x2 x3 v14 σ))
def s_X12_findRules_236 (n : Nat) : Nat → Int32 → Int32 → Sg → Option Sg
  | 0 => fun _ _ _ => none
  | k + 1 => s_X12_findRules_236b n (s_X12_findRules_236 n k)
def s_X12_findRules_115b (n : Nat) (rc115 : Int32 → Int32 → Sg → Option Sg) (x2 : Int32) (x3 : Int32) (σ : Sg) : Option Sg := if (σ 71 26) ≤ x3 then (lt (up2 σ 71 41 (4 : Int32)) fun σ7 => lt (up2 σ7 71 42 (2 : Int32)) fun σ8 => lt (up2 σ8 71 43 (6 : Int32)) fun σ9 => lt (up2 σ9 71 44 (8 : Int32)) fun σ10 => lt (up2 σ10 71 45 (2 : Int32)) fun σ11 => lt (up2 σ11 71 46 (1 : Int32)) fun σ12 => s_X12_findRules_236 n n x2 (0 : Int32) σ12) else (ck x3 8 (if (σ 99 (ix x3)) = 0 then (rc115 x2 (x3 + (1 : Int32)) σ) else (s_X12_findRules_135 n rc115 n x2 x3 x2 σ)))
def s_X12_findRules_115 (n : Nat) : Nat → Int32 → Int32 → Sg → Option Sg
  | 0 => fun _ _ _ => none
  | k + 1 => s_X12_findRules_115b n (s_X12_findRules_115 n k)
def s_X12_findRules_44b (n : Nat) (rc44 : Int32 → Sg → Option Sg) (x2 : Int32) (σ : Sg) : Option Sg := if x2 < 0 then (s_X12_findRules_115 n n (0 : Int32) (0 : Int32) σ) else (lt ((8 : Int32) * x2) fun v6 => s_X12_findRules_53 n rc44 n x2 v6 σ)
def s_X12_findRules_44 (n : Nat) : Nat → Int32 → Sg → Option Sg
  | 0 => fun _ _ => none
  | k + 1 => s_X12_findRules_44b n (s_X12_findRules_44 n k)
def s_X12_findRules_2b (n : Nat) (rc2 : Int32 → Int32 → Sg → Option Sg) (x1 : Int32) (x2 : Int32) (σ : Sg) : Option Sg := if (σ 71 26) ≤ x2 then (lt ((σ 71 26) - (1 : Int32)) fun v1 => s_X12_findRules_44 n n v1 σ) else (ck x2 8 (lt (if x1 < (σ 93 (ix x2)) then (0 : Int32) else (1 : Int32)) fun v4 => ck x2 8 (lt (up2 σ 99 (ix x2) (vp_nar .boolean v4)) fun σ5 => rc2 x1 (x2 + (1 : Int32)) σ5)))
def s_X12_findRules_2 (n : Nat) : Nat → Int32 → Int32 → Sg → Option Sg
  | 0 => fun _ _ _ => none
  | k + 1 => s_X12_findRules_2b n (s_X12_findRules_2 n k)
def s_X12_findRules (n : Nat) (x1 : Int32) (σ : Sg) : Option Sg := s_X12_findRules_2 n n x1 (0 : Int32) σ
set_option maxRecDepth 20000 in
theorem b_X12_findRules_53 {G : zG} {x : zX} {τ : Sg} (O : zO G x cX12_findRules RX12 0 0 5) (E : zE G x none none τ) (n : Nat) (rc44 : Int32 → Sg → Option Sg) (H44 : ∀ (x2 : Int32) (σ : Sg), rc44 x2 σ = some τ → V G x σ [(0, .ref (zad G 71)), (2, .int x2)] 44 []) (rc53 : Int32 → Int32 → Sg → Option Sg) (H53 : ∀ (x2 : Int32) (x3 : Int32) (σ : Sg), rc53 x2 x3 σ = some τ → V G x σ [(0, .ref (zad G 71)), (2, .int x2), (3, .int x3)] 53 []) (x2 : Int32) (x3 : Int32) (σ : Sg) (h : s_X12_findRules_53b n rc44 rc53 x2 x3 σ = some τ) : V G x σ [(0, .ref (zad G 71)), (2, .int x2), (3, .int x3)] 53 [] := by
  unfold s_X12_findRules_53b at h
  refine V_iloadn 53 2 O dX12_findRules_53 rfl rfl ?_
  refine V_bipush 54 O dX12_findRules_54 cb_8 ?_
  refine V_iloadn 56 1 O dX12_findRules_56 rfl rfl ?_
  refine V_imul 57 O dX12_findRules_57 ?_
  refine V_aloadn 58 0 O dX12_findRules_58 rfl rfl ?_
  refine V_getR 59 O k71 fl_X12_77 rf71_28 dX12_findRules_59 ?_
  refine V_iloadn 62 1 O dX12_findRules_62 rfl rfl ?_
  refine V_iald 63 O k94 dX12_findRules_63 h (fun h => ?_)
  refine V_iadd 64 O dX12_findRules_64 ?_
  refine V_icmp_ge 65 105 O dX12_findRules_65 rfl h (fun h => ?_) (fun h => ?_)
  · refine V_iinc 105 1 [1, 0, 2] [(0, .ref (zad G 71)), (2, .int (x2 + (-1 : Int32))), (3, .int x3)] O dX12_findRules_105 rfl ci_m1 (Nat.le_of_ble_eq_true rfl) rfl ?_
    refine V_goto 108 44 O dX12_findRules_108 rfl ?_
    exact V_sub [0, 1] rfl (H44 (x2 + (-1 : Int32)) σ  h)
  · refine V_aloadn 68 0 O dX12_findRules_68 rfl rfl ?_
    refine V_getR 69 O k71 fl_X12_96 rf71_39 dX12_findRules_69 ?_
    refine V_iloadn 72 1 O dX12_findRules_72 rfl rfl ?_
    refine V_zald 73 O k99 dX12_findRules_73 h (fun h => ?_)
    refine V_if_eq 74 105 O dX12_findRules_74 rfl h (fun h => ?_) (fun h => ?_)
    · refine V_iinc 105 1 [1, 0, 2] [(0, .ref (zad G 71)), (2, .int (x2 + (-1 : Int32))), (3, .int x3)] O dX12_findRules_105 rfl ci_m1 (Nat.le_of_ble_eq_true rfl) rfl ?_
      refine V_goto 108 44 O dX12_findRules_108 rfl ?_
      exact V_sub [0, 1] rfl (H44 (x2 + (-1 : Int32)) σ  h)
    · refine V_aloadn 77 0 O dX12_findRules_77 rfl rfl ?_
      refine V_getR 78 O k71 fl_X12_80 rf71_29 dX12_findRules_78 ?_
      refine V_iloadn 81 2 O dX12_findRules_81 rfl rfl ?_
      refine V_iald 82 O k95 dX12_findRules_82 h (fun h => ?_)
      refine V_iconst 83 O dX12_findRules_83 ci_4 ?_
      refine V_icmp_ne 84 99 O dX12_findRules_84 rfl h (fun h => ?_) (fun h => ?_)
      · refine V_iinc 99 2 [1, 2, 0] [(0, .ref (zad G 71)), (2, .int x2), (3, .int (x3 + (1 : Int32)))] O dX12_findRules_99 rfl ci_1 (Nat.le_of_ble_eq_true rfl) rfl ?_
        refine V_goto 102 53 O dX12_findRules_102 rfl ?_
        exact V_sub [0, 1, 2] rfl (H53 x2 (x3 + (1 : Int32)) σ  h)
      · refine V_aloadn 87 0 O dX12_findRules_87 rfl rfl ?_
        refine V_getR 88 O k71 fl_X12_96 rf71_39 dX12_findRules_88 ?_
        refine V_aloadn 91 0 O dX12_findRules_91 rfl rfl ?_
        refine V_getR 92 O k71 fl_X12_83 rf71_30 dX12_findRules_92 ?_
        refine V_iloadn 95 2 O dX12_findRules_95 rfl rfl ?_
        refine V_iald 96 O k96 dX12_findRules_96 h (fun h => ?_)
        refine V_iconst 97 O dX12_findRules_97 ci_0 ?_
        refine V_zast 98 O k99 dX12_findRules_98 h (fun σ13 h => ?_)
        refine V_iinc 99 2 [1, 2, 0] [(0, .ref (zad G 71)), (2, .int x2), (3, .int (x3 + (1 : Int32)))] O dX12_findRules_99 rfl ci_1 (Nat.le_of_ble_eq_true rfl) rfl ?_
        refine V_goto 102 53 O dX12_findRules_102 rfl ?_
        exact V_sub [0, 1, 2] rfl (H53 x2 (x3 + (1 : Int32)) σ13  h)
theorem bl_X12_findRules_53 {G : zG} {x : zX} {τ : Sg} (O : zO G x cX12_findRules RX12 0 0 5) (E : zE G x none none τ) (n : Nat) (rc44 : Int32 → Sg → Option Sg) (H44 : ∀ (x2 : Int32) (σ : Sg), rc44 x2 σ = some τ → V G x σ [(0, .ref (zad G 71)), (2, .int x2)] 44 []) : ∀ (k : Nat) (x2 : Int32) (x3 : Int32) (σ : Sg), s_X12_findRules_53 n rc44 k x2 x3 σ = some τ → V G x σ [(0, .ref (zad G 71)), (2, .int x2), (3, .int x3)] 53 [] := by
  intro k
  induction k with
  | zero => intro x2 x3 σ  h; cases h
  | succ k ih => intro x2 x3 σ  h; exact b_X12_findRules_53 O E n rc44 H44 (s_X12_findRules_53 n rc44 k) ih x2 x3 σ  h
set_option maxRecDepth 20000 in
theorem b_X12_findRules_185 {G : zG} {x : zX} {τ : Sg} (O : zO G x cX12_findRules RX12 0 0 5) (E : zE G x none none τ) (n : Nat) (rc115 : Int32 → Int32 → Sg → Option Sg) (H115 : ∀ (x2 : Int32) (x3 : Int32) (σ : Sg), rc115 x2 x3 σ = some τ → V G x σ [(0, .ref (zad G 71)), (2, .int x2), (3, .int x3)] 115 []) (x2 : Int32) (x3 : Int32) (x4 : Int32) (σ : Sg) (h : s_X12_findRules_185 n rc115 x2 x3 x4 σ = some τ) : V G x σ [(0, .ref (zad G 71)), (2, .int x2), (3, .int x3), (4, .int x4)] 185 [] := by
  unfold s_X12_findRules_185 at h
  refine V_aloadn 185 0 O dX12_findRules_185 rfl rfl ?_
  refine V_getR 186 O k71 fl_X12_99 rf71_40 dX12_findRules_186 ?_
  refine V_iload 189 3 O dX12_findRules_189 rfl ?_
  refine V_iloadn 191 2 O dX12_findRules_191 rfl rfl ?_
  refine V_iast 192 O k100 dX12_findRules_192 h (fun σ22 h => ?_)
  refine V_iinc 193 1 [1, 0, 2, 3] [(0, .ref (zad G 71)), (2, .int (x2 + (1 : Int32))), (3, .int x3), (4, .int x4)] O dX12_findRules_193 rfl ci_1 (Nat.le_of_ble_eq_true rfl) rfl ?_
  refine V_iinc 196 2 [1, 2, 0, 3] [(0, .ref (zad G 71)), (2, .int (x2 + (1 : Int32))), (3, .int (x3 + (1 : Int32))), (4, .int x4)] O dX12_findRules_196 rfl ci_1 (Nat.le_of_ble_eq_true rfl) rfl ?_
  refine V_goto 199 115 O dX12_findRules_199 rfl ?_
  exact V_sub [0, 1, 2] rfl (H115 (x2 + (1 : Int32)) (x3 + (1 : Int32)) σ22  h)
set_option maxRecDepth 20000 in
theorem b_X12_findRules_135 {G : zG} {x : zX} {τ : Sg} (O : zO G x cX12_findRules RX12 0 0 5) (E : zE G x none none τ) (n : Nat) (rc115 : Int32 → Int32 → Sg → Option Sg) (H115 : ∀ (x2 : Int32) (x3 : Int32) (σ : Sg), rc115 x2 x3 σ = some τ → V G x σ [(0, .ref (zad G 71)), (2, .int x2), (3, .int x3)] 115 []) (rc135 : Int32 → Int32 → Int32 → Sg → Option Sg) (H135 : ∀ (x2 : Int32) (x3 : Int32) (x4 : Int32) (σ : Sg), rc135 x2 x3 x4 σ = some τ → V G x σ [(0, .ref (zad G 71)), (2, .int x2), (3, .int x3), (4, .int x4)] 135 []) (x2 : Int32) (x3 : Int32) (x4 : Int32) (σ : Sg) (h : s_X12_findRules_135b n rc115 rc135 x2 x3 x4 σ = some τ) : V G x σ [(0, .ref (zad G 71)), (2, .int x2), (3, .int x3), (4, .int x4)] 135 [] := by
  unfold s_X12_findRules_135b at h
  refine V_iload 135 3 O dX12_findRules_135 rfl ?_
  refine V_if_le 137 185 O dX12_findRules_137 rfl h (fun h => ?_) (fun h => ?_)
  · exact V_sub [0, 1, 2, 3] rfl (b_X12_findRules_185 O E n rc115 H115 x2 x3 x4 σ  h)
  · refine V_aloadn 140 0 O dX12_findRules_140 rfl rfl ?_
    refine V_getR 141 O k71 fl_X12_74 rf71_27 dX12_findRules_141 ?_
    refine V_aloadn 144 0 O dX12_findRules_144 rfl rfl ?_
    refine V_getR 145 O k71 fl_X12_99 rf71_40 dX12_findRules_145 ?_
    refine V_iload 148 3 O dX12_findRules_148 rfl ?_
    refine V_iconst 150 O dX12_findRules_150 ci_1 ?_
    refine V_isub 151 O dX12_findRules_151 ?_
    refine V_iald 152 O k100 dX12_findRules_152 h (fun h => ?_)
    refine V_iald 153 O k93 dX12_findRules_153 h (fun h => ?_)
    refine V_aloadn 154 0 O dX12_findRules_154 rfl rfl ?_
    refine V_getR 155 O k71 fl_X12_74 rf71_27 dX12_findRules_155 ?_
    refine V_iloadn 158 2 O dX12_findRules_158 rfl rfl ?_
    refine V_iald 159 O k93 dX12_findRules_159 h (fun h => ?_)
    refine V_icmp_le 160 185 O dX12_findRules_160 rfl h (fun h => ?_) (fun h => ?_)
    · exact V_sub [0, 1, 2, 3] rfl (b_X12_findRules_185 O E n rc115 H115 x2 x3 x4 σ  h)
    · refine V_aloadn 163 0 O dX12_findRules_163 rfl rfl ?_
      refine V_getR 164 O k71 fl_X12_99 rf71_40 dX12_findRules_164 ?_
      refine V_iload 167 3 O dX12_findRules_167 rfl ?_
      refine V_aloadn 169 0 O dX12_findRules_169 rfl rfl ?_
      refine V_getR 170 O k71 fl_X12_99 rf71_40 dX12_findRules_170 ?_
      refine V_iload 173 3 O dX12_findRules_173 rfl ?_
      refine V_iconst 175 O dX12_findRules_175 ci_1 ?_
      refine V_isub 176 O dX12_findRules_176 ?_
      refine V_iald 177 O k100 dX12_findRules_177 h (fun h => ?_)
      refine V_iast 178 O k100 dX12_findRules_178 h (fun σ15 h => ?_)
      refine V_iinc 179 3 [1, 2, 3, 0] [(0, .ref (zad G 71)), (2, .int x2), (3, .int x3), (4, .int (x4 + (-1 : Int32)))] O dX12_findRules_179 rfl ci_m1 (Nat.le_of_ble_eq_true rfl) rfl ?_
      refine V_goto 182 135 O dX12_findRules_182 rfl ?_
      exact V_sub [0, 1, 2, 3] rfl (H135 x2 x3 (x4 + (-1 : Int32)) σ15  h)
theorem bl_X12_findRules_135 {G : zG} {x : zX} {τ : Sg} (O : zO G x cX12_findRules RX12 0 0 5) (E : zE G x none none τ) (n : Nat) (rc115 : Int32 → Int32 → Sg → Option Sg) (H115 : ∀ (x2 : Int32) (x3 : Int32) (σ : Sg), rc115 x2 x3 σ = some τ → V G x σ [(0, .ref (zad G 71)), (2, .int x2), (3, .int x3)] 115 []) : ∀ (k : Nat) (x2 : Int32) (x3 : Int32) (x4 : Int32) (σ : Sg), s_X12_findRules_135 n rc115 k x2 x3 x4 σ = some τ → V G x σ [(0, .ref (zad G 71)), (2, .int x2), (3, .int x3), (4, .int x4)] 135 [] := by
  intro k
  induction k with
  | zero => intro x2 x3 x4 σ  h; cases h
  | succ k ih => intro x2 x3 x4 σ  h; exact b_X12_findRules_135 O E n rc115 H115 (s_X12_findRules_135 n rc115 k) ih x2 x3 x4 σ  h
set_option maxRecDepth 20000 in
theorem b_X12_findRules_252 {G : zG} {x : zX} {τ : Sg} (O : zO G x cX12_findRules RX12 0 0 5) (E : zE G x none none τ) (n : Nat) (rc236 : Int32 → Int32 → Sg → Option Sg) (H236 : ∀ (x2 : Int32) (x3 : Int32) (σ : Sg), rc236 x2 x3 σ = some τ → V G x σ [(0, .ref (zad G 71)), (2, .int x2), (3, .int x3)] 236 []) (rc252 : Int32 → Int32 → Int32 → Sg → Option Sg) (H252 : ∀ (x2 : Int32) (x3 : Int32) (x4 : Int32) (σ : Sg), rc252 x2 x3 x4 σ = some τ → V G x σ [(0, .ref (zad G 71)), (2, .int x2), (3, .int x3), (4, .int x4)] 252 []) (x2 : Int32) (x3 : Int32) (x4 : Int32) (σ : Sg) (h : s_X12_findRules_252b n rc236 rc252 x2 x3 x4 σ = some τ) : V G x σ [(0, .ref (zad G 71)), (2, .int x2), (3, .int x3), (4, .int x4)] 252 [] := by
  unfold s_X12_findRules_252b at h
  refine V_iload 252 3 O dX12_findRules_252 rfl ?_
  refine V_bipush 254 O dX12_findRules_254 cb_8 ?_
  refine V_aloadn 256 0 O dX12_findRules_256 rfl rfl ?_
  refine V_getR 257 O k71 fl_X12_99 rf71_40 dX12_findRules_257 ?_
  refine V_iloadn 260 2 O dX12_findRules_260 rfl rfl ?_
  refine V_iald 261 O k100 dX12_findRules_261 h (fun h => ?_)
  refine V_imul 262 O dX12_findRules_262 ?_
  refine V_aloadn 263 0 O dX12_findRules_263 rfl rfl ?_
  refine V_getR 264 O k71 fl_X12_77 rf71_28 dX12_findRules_264 ?_
  refine V_aloadn 267 0 O dX12_findRules_267 rfl rfl ?_
  refine V_getR 268 O k71 fl_X12_99 rf71_40 dX12_findRules_268 ?_
  refine V_iloadn 271 2 O dX12_findRules_271 rfl rfl ?_
  refine V_iald 272 O k100 dX12_findRules_272 h (fun h => ?_)
  refine V_iald 273 O k94 dX12_findRules_273 h (fun h => ?_)
  refine V_iadd 274 O dX12_findRules_274 ?_
  refine V_icmp_ge 275 402 O dX12_findRules_275 rfl h (fun h => ?_) (fun h => ?_)
  · refine V_iinc 402 2 [1, 2, 0, 3] [(0, .ref (zad G 71)), (2, .int x2), (3, .int (x3 + (1 : Int32))), (4, .int x4)] O dX12_findRules_402 rfl ci_1 (Nat.le_of_ble_eq_true rfl) rfl ?_
    refine V_goto 405 236 O dX12_findRules_405 rfl ?_
    exact V_sub [0, 1, 2] rfl (H236 x2 (x3 + (1 : Int32)) σ  h)
  · refine V_aloadn 278 0 O dX12_findRules_278 rfl rfl ?_
    refine V_getR 279 O k71 fl_X12_80 rf71_29 dX12_findRules_279 ?_
    refine V_iload 282 3 O dX12_findRules_282 rfl ?_
    refine V_iald 284 O k95 dX12_findRules_284 h (fun h => ?_)
    refine V_if_ne 285 313 O dX12_findRules_285 rfl h (fun h => ?_) (fun h => ?_)
    · refine V_aloadn 313 0 O dX12_findRules_313 rfl rfl ?_
      refine V_getR 314 O k71 fl_X12_80 rf71_29 dX12_findRules_314 ?_
      refine V_iload 317 3 O dX12_findRules_317 rfl ?_
      refine V_iald 319 O k95 dX12_findRules_319 h (fun h => ?_)
      refine V_iconst 320 O dX12_findRules_320 ci_1 ?_
      refine V_icmp_ne 321 349 O dX12_findRules_321 rfl h (fun h => ?_) (fun h => ?_)
      · refine V_aloadn 349 0 O dX12_findRules_349 rfl rfl ?_
        refine V_getR 350 O k71 fl_X12_80 rf71_29 dX12_findRules_350 ?_
        refine V_iload 353 3 O dX12_findRules_353 rfl ?_
        refine V_iald 355 O k95 dX12_findRules_355 h (fun h => ?_)
        refine V_iconst 356 O dX12_findRules_356 ci_2 ?_
        refine V_icmp_ne 357 374 O dX12_findRules_357 rfl h (fun h => ?_) (fun h => ?_)
        · refine V_aloadn 374 0 O dX12_findRules_374 rfl rfl ?_
          refine V_getR 375 O k71 fl_X12_80 rf71_29 dX12_findRules_375 ?_
          refine V_iload 378 3 O dX12_findRules_378 rfl ?_
          refine V_iald 380 O k95 dX12_findRules_380 h (fun h => ?_)
          refine V_iconst 381 O dX12_findRules_381 ci_3 ?_
          refine V_icmp_ne 382 396 O dX12_findRules_382 rfl h (fun h => ?_) (fun h => ?_)
          · refine V_iinc 396 3 [1, 2, 3, 0] [(0, .ref (zad G 71)), (2, .int x2), (3, .int x3), (4, .int (x4 + (1 : Int32)))] O dX12_findRules_396 rfl ci_1 (Nat.le_of_ble_eq_true rfl) rfl ?_
            refine V_goto 399 252 O dX12_findRules_399 rfl ?_
            exact V_sub [0, 1, 2, 3] rfl (H252 x2 x3 (x4 + (1 : Int32)) σ  h)
          · refine V_aloadn 385 0 O dX12_findRules_385 rfl rfl ?_
            refine V_aloadn 386 0 O dX12_findRules_386 rfl rfl ?_
            refine V_getR 387 O k71 fl_X12_83 rf71_30 dX12_findRules_387 ?_
            refine V_iload 390 3 O dX12_findRules_390 rfl ?_
            refine V_iald 392 O k96 dX12_findRules_392 h (fun h => ?_)
            refine V_put 393 O k71 fp_X12_280 dX12_findRules_393 h (fun σ16 h => ?_)
            refine V_iinc 396 3 [1, 2, 3, 0] [(0, .ref (zad G 71)), (2, .int x2), (3, .int x3), (4, .int (x4 + (1 : Int32)))] O dX12_findRules_396 rfl ci_1 (Nat.le_of_ble_eq_true rfl) rfl ?_
            refine V_goto 399 252 O dX12_findRules_399 rfl ?_
            exact V_sub [0, 1, 2, 3] rfl (H252 x2 x3 (x4 + (1 : Int32)) σ16  h)
        · refine V_aloadn 360 0 O dX12_findRules_360 rfl rfl ?_
          refine V_aloadn 361 0 O dX12_findRules_361 rfl rfl ?_
          refine V_getR 362 O k71 fl_X12_83 rf71_30 dX12_findRules_362 ?_
          refine V_iload 365 3 O dX12_findRules_365 rfl ?_
          refine V_iald 367 O k96 dX12_findRules_367 h (fun h => ?_)
          refine V_put 368 O k71 fp_X12_277 dX12_findRules_368 h (fun σ17 h => ?_)
          refine V_goto 371 396 O dX12_findRules_371 rfl ?_
          refine V_iinc 396 3 [1, 2, 3, 0] [(0, .ref (zad G 71)), (2, .int x2), (3, .int x3), (4, .int (x4 + (1 : Int32)))] O dX12_findRules_396 rfl ci_1 (Nat.le_of_ble_eq_true rfl) rfl ?_
          refine V_goto 399 252 O dX12_findRules_399 rfl ?_
          exact V_sub [0, 1, 2, 3] rfl (H252 x2 x3 (x4 + (1 : Int32)) σ17  h)
      · refine V_aloadn 324 0 O dX12_findRules_324 rfl rfl ?_
        refine V_aloadn 325 0 O dX12_findRules_325 rfl rfl ?_
        refine V_getR 326 O k71 fl_X12_83 rf71_30 dX12_findRules_326 ?_
        refine V_iload 329 3 O dX12_findRules_329 rfl ?_
        refine V_iald 331 O k96 dX12_findRules_331 h (fun h => ?_)
        refine V_put 332 O k71 fp_X12_271 dX12_findRules_332 h (fun σ18 h => ?_)
        refine V_aloadn 335 0 O dX12_findRules_335 rfl rfl ?_
        refine V_aloadn 336 0 O dX12_findRules_336 rfl rfl ?_
        refine V_getR 337 O k71 fl_X12_86 rf71_31 dX12_findRules_337 ?_
        refine V_iload 340 3 O dX12_findRules_340 rfl ?_
        refine V_iald 342 O k97 dX12_findRules_342 h (fun h => ?_)
        refine V_put 343 O k71 fp_X12_274 dX12_findRules_343 h (fun σ19 h => ?_)
        refine V_goto 346 396 O dX12_findRules_346 rfl ?_
        refine V_iinc 396 3 [1, 2, 3, 0] [(0, .ref (zad G 71)), (2, .int x2), (3, .int x3), (4, .int (x4 + (1 : Int32)))] O dX12_findRules_396 rfl ci_1 (Nat.le_of_ble_eq_true rfl) rfl ?_
        refine V_goto 399 252 O dX12_findRules_399 rfl ?_
        exact V_sub [0, 1, 2, 3] rfl (H252 x2 x3 (x4 + (1 : Int32)) σ19  h)
    · refine V_aloadn 288 0 O dX12_findRules_288 rfl rfl ?_
      refine V_aloadn 289 0 O dX12_findRules_289 rfl rfl ?_
      refine V_getR 290 O k71 fl_X12_83 rf71_30 dX12_findRules_290 ?_
      refine V_iload 293 3 O dX12_findRules_293 rfl ?_
      refine V_iald 295 O k96 dX12_findRules_295 h (fun h => ?_)
      refine V_put 296 O k71 fp_X12_265 dX12_findRules_296 h (fun σ20 h => ?_)
      refine V_aloadn 299 0 O dX12_findRules_299 rfl rfl ?_
      refine V_aloadn 300 0 O dX12_findRules_300 rfl rfl ?_
      refine V_getR 301 O k71 fl_X12_86 rf71_31 dX12_findRules_301 ?_
      refine V_iload 304 3 O dX12_findRules_304 rfl ?_
      refine V_iald 306 O k97 dX12_findRules_306 h (fun h => ?_)
      refine V_put 307 O k71 fp_X12_268 dX12_findRules_307 h (fun σ21 h => ?_)
      refine V_goto 310 396 O dX12_findRules_310 rfl ?_
      refine V_iinc 396 3 [1, 2, 3, 0] [(0, .ref (zad G 71)), (2, .int x2), (3, .int x3), (4, .int (x4 + (1 : Int32)))] O dX12_findRules_396 rfl ci_1 (Nat.le_of_ble_eq_true rfl) rfl ?_
      refine V_goto 399 252 O dX12_findRules_399 rfl ?_
      exact V_sub [0, 1, 2, 3] rfl (H252 x2 x3 (x4 + (1 : Int32)) σ21  h)
theorem bl_X12_findRules_252 {G : zG} {x : zX} {τ : Sg} (O : zO G x cX12_findRules RX12 0 0 5) (E : zE G x none none τ) (n : Nat) (rc236 : Int32 → Int32 → Sg → Option Sg) (H236 : ∀ (x2 : Int32) (x3 : Int32) (σ : Sg), rc236 x2 x3 σ = some τ → V G x σ [(0, .ref (zad G 71)), (2, .int x2), (3, .int x3)] 236 []) : ∀ (k : Nat) (x2 : Int32) (x3 : Int32) (x4 : Int32) (σ : Sg), s_X12_findRules_252 n rc236 k x2 x3 x4 σ = some τ → V G x σ [(0, .ref (zad G 71)), (2, .int x2), (3, .int x3), (4, .int x4)] 252 [] := by
  intro k
  induction k with
  | zero => intro x2 x3 x4 σ  h; cases h
  | succ k ih => intro x2 x3 x4 σ  h; exact b_X12_findRules_252 O E n rc236 H236 (s_X12_findRules_252 n rc236 k) ih x2 x3 x4 σ  h
set_option maxRecDepth 20000 in
theorem b_X12_findRules_236 {G : zG} {x : zX} {τ : Sg} (O : zO G x cX12_findRules RX12 0 0 5) (E : zE G x none none τ) (n : Nat) (rc236 : Int32 → Int32 → Sg → Option Sg) (H236 : ∀ (x2 : Int32) (x3 : Int32) (σ : Sg), rc236 x2 x3 σ = some τ → V G x σ [(0, .ref (zad G 71)), (2, .int x2), (3, .int x3)] 236 []) (x2 : Int32) (x3 : Int32) (σ : Sg) (h : s_X12_findRules_236b n rc236 x2 x3 σ = some τ) : V G x σ [(0, .ref (zad G 71)), (2, .int x2), (3, .int x3)] 236 [] := by
  unfold s_X12_findRules_236b at h
  refine V_iloadn 236 2 O dX12_findRules_236 rfl rfl ?_
  refine V_iloadn 237 1 O dX12_findRules_237 rfl rfl ?_
  refine V_icmp_ge 238 408 O dX12_findRules_238 rfl h (fun h => ?_) (fun h => ?_)
  · exact V_vret 408 O E dX12_findRules_408 h
  · refine V_bipush 241 O dX12_findRules_241 cb_8 ?_
    refine V_aloadn 243 0 O dX12_findRules_243 rfl rfl ?_
    refine V_getR 244 O k71 fl_X12_99 rf71_40 dX12_findRules_244 ?_
    refine V_iloadn 247 2 O dX12_findRules_247 rfl rfl ?_
    refine V_iald 248 O k100 dX12_findRules_248 h (fun h => ?_)
    refine V_imul 249 O dX12_findRules_249 ?_
    refine V_topi h (fun v14 h => ?_)
    refine V_istore 250 [1, 2, 3, 0] [(0, .ref (zad G 71)), (2, .int x2), (3, .int x3), (4, .int v14)] O dX12_findRules_250 (Nat.le_of_ble_eq_true rfl) rfl ?_
    exact V_sub [0, 1, 2, 3] rfl (bl_X12_findRules_252 O E n rc236 H236 n x2 x3 v14 σ  h)
theorem bl_X12_findRules_236 {G : zG} {x : zX} {τ : Sg} (O : zO G x cX12_findRules RX12 0 0 5) (E : zE G x none none τ) (n : Nat) : ∀ (k : Nat) (x2 : Int32) (x3 : Int32) (σ : Sg), s_X12_findRules_236 n k x2 x3 σ = some τ → V G x σ [(0, .ref (zad G 71)), (2, .int x2), (3, .int x3)] 236 [] := by
  intro k
  induction k with
  | zero => intro x2 x3 σ  h; cases h
  | succ k ih => intro x2 x3 σ  h; exact b_X12_findRules_236 O E n  (s_X12_findRules_236 n  k) ih x2 x3 σ  h
set_option maxRecDepth 20000 in
theorem b_X12_findRules_115 {G : zG} {x : zX} {τ : Sg} (O : zO G x cX12_findRules RX12 0 0 5) (E : zE G x none none τ) (n : Nat) (rc115 : Int32 → Int32 → Sg → Option Sg) (H115 : ∀ (x2 : Int32) (x3 : Int32) (σ : Sg), rc115 x2 x3 σ = some τ → V G x σ [(0, .ref (zad G 71)), (2, .int x2), (3, .int x3)] 115 []) (x2 : Int32) (x3 : Int32) (σ : Sg) (h : s_X12_findRules_115b n rc115 x2 x3 σ = some τ) : V G x σ [(0, .ref (zad G 71)), (2, .int x2), (3, .int x3)] 115 [] := by
  unfold s_X12_findRules_115b at h
  refine V_iloadn 115 2 O dX12_findRules_115 rfl rfl ?_
  refine V_aloadn 116 0 O dX12_findRules_116 rfl rfl ?_
  refine V_getI 117 O k71 fl_X12_250 dX12_findRules_117 ?_
  refine V_icmp_ge 120 202 O dX12_findRules_120 rfl h (fun h => ?_) (fun h => ?_)
  · refine V_aloadn 202 0 O dX12_findRules_202 rfl rfl ?_
    refine V_iconst 203 O dX12_findRules_203 ci_4 ?_
    refine V_put 204 O k71 fp_X12_265 dX12_findRules_204 h (fun σ7 h => ?_)
    refine V_aloadn 207 0 O dX12_findRules_207 rfl rfl ?_
    refine V_iconst 208 O dX12_findRules_208 ci_2 ?_
    refine V_put 209 O k71 fp_X12_268 dX12_findRules_209 h (fun σ8 h => ?_)
    refine V_aloadn 212 0 O dX12_findRules_212 rfl rfl ?_
    refine V_bipush 213 O dX12_findRules_213 cb_6 ?_
    refine V_put 215 O k71 fp_X12_271 dX12_findRules_215 h (fun σ9 h => ?_)
    refine V_aloadn 218 0 O dX12_findRules_218 rfl rfl ?_
    refine V_bipush 219 O dX12_findRules_219 cb_8 ?_
    refine V_put 221 O k71 fp_X12_274 dX12_findRules_221 h (fun σ10 h => ?_)
    refine V_aloadn 224 0 O dX12_findRules_224 rfl rfl ?_
    refine V_iconst 225 O dX12_findRules_225 ci_2 ?_
    refine V_put 226 O k71 fp_X12_277 dX12_findRules_226 h (fun σ11 h => ?_)
    refine V_aloadn 229 0 O dX12_findRules_229 rfl rfl ?_
    refine V_iconst 230 O dX12_findRules_230 ci_1 ?_
    refine V_put 231 O k71 fp_X12_280 dX12_findRules_231 h (fun σ12 h => ?_)
    refine V_iconst 234 O dX12_findRules_234 ci_0 ?_
    refine V_istoren 235 [1, 2, 0] [(0, .ref (zad G 71)), (2, .int x2), (3, .int (0 : Int32))] O dX12_findRules_235 rfl (Nat.le_of_ble_eq_true rfl) rfl ?_
    exact V_sub [0, 1, 2] rfl (bl_X12_findRules_236 O E n  n x2 (0 : Int32) σ12  h)
  · refine V_aloadn 123 0 O dX12_findRules_123 rfl rfl ?_
    refine V_getR 124 O k71 fl_X12_96 rf71_39 dX12_findRules_124 ?_
    refine V_iloadn 127 2 O dX12_findRules_127 rfl rfl ?_
    refine V_zald 128 O k99 dX12_findRules_128 h (fun h => ?_)
    refine V_if_eq 129 196 O dX12_findRules_129 rfl h (fun h => ?_) (fun h => ?_)
    · refine V_iinc 196 2 [1, 2, 0] [(0, .ref (zad G 71)), (2, .int x2), (3, .int (x3 + (1 : Int32)))] O dX12_findRules_196 rfl ci_1 (Nat.le_of_ble_eq_true rfl) rfl ?_
      refine V_goto 199 115 O dX12_findRules_199 rfl ?_
      exact V_sub [0, 1, 2] rfl (H115 x2 (x3 + (1 : Int32)) σ  h)
    · refine V_iloadn 132 1 O dX12_findRules_132 rfl rfl ?_
      refine V_istore 133 [1, 2, 3, 0] [(0, .ref (zad G 71)), (2, .int x2), (3, .int x3), (4, .int x2)] O dX12_findRules_133 (Nat.le_of_ble_eq_true rfl) rfl ?_
      exact V_sub [0, 1, 2, 3] rfl (bl_X12_findRules_135 O E n rc115 H115 n x2 x3 x2 σ  h)
theorem bl_X12_findRules_115 {G : zG} {x : zX} {τ : Sg} (O : zO G x cX12_findRules RX12 0 0 5) (E : zE G x none none τ) (n : Nat) : ∀ (k : Nat) (x2 : Int32) (x3 : Int32) (σ : Sg), s_X12_findRules_115 n k x2 x3 σ = some τ → V G x σ [(0, .ref (zad G 71)), (2, .int x2), (3, .int x3)] 115 [] := by
  intro k
  induction k with
  | zero => intro x2 x3 σ  h; cases h
  | succ k ih => intro x2 x3 σ  h; exact b_X12_findRules_115 O E n  (s_X12_findRules_115 n  k) ih x2 x3 σ  h
set_option maxRecDepth 20000 in
theorem b_X12_findRules_44 {G : zG} {x : zX} {τ : Sg} (O : zO G x cX12_findRules RX12 0 0 5) (E : zE G x none none τ) (n : Nat) (rc44 : Int32 → Sg → Option Sg) (H44 : ∀ (x2 : Int32) (σ : Sg), rc44 x2 σ = some τ → V G x σ [(0, .ref (zad G 71)), (2, .int x2)] 44 []) (x2 : Int32) (σ : Sg) (h : s_X12_findRules_44b n rc44 x2 σ = some τ) : V G x σ [(0, .ref (zad G 71)), (2, .int x2)] 44 [] := by
  unfold s_X12_findRules_44b at h
  refine V_iloadn 44 1 O dX12_findRules_44 rfl rfl ?_
  refine V_if_lt 45 111 O dX12_findRules_45 rfl h (fun h => ?_) (fun h => ?_)
  · refine V_iconst 111 O dX12_findRules_111 ci_0 ?_
    refine V_istoren 112 [1, 0] [(0, .ref (zad G 71)), (2, .int (0 : Int32))] O dX12_findRules_112 rfl (Nat.le_of_ble_eq_true rfl) rfl ?_
    refine V_iconst 113 O dX12_findRules_113 ci_0 ?_
    refine V_istoren 114 [1, 2, 0] [(0, .ref (zad G 71)), (2, .int (0 : Int32)), (3, .int (0 : Int32))] O dX12_findRules_114 rfl (Nat.le_of_ble_eq_true rfl) rfl ?_
    exact V_sub [0, 1, 2] rfl (bl_X12_findRules_115 O E n  n (0 : Int32) (0 : Int32) σ  h)
  · refine V_bipush 48 O dX12_findRules_48 cb_8 ?_
    refine V_iloadn 50 1 O dX12_findRules_50 rfl rfl ?_
    refine V_imul 51 O dX12_findRules_51 ?_
    refine V_topi h (fun v6 h => ?_)
    refine V_istoren 52 [1, 2, 0] [(0, .ref (zad G 71)), (2, .int x2), (3, .int v6)] O dX12_findRules_52 rfl (Nat.le_of_ble_eq_true rfl) rfl ?_
    exact V_sub [0, 1, 2] rfl (bl_X12_findRules_53 O E n rc44 H44 n x2 v6 σ  h)
theorem bl_X12_findRules_44 {G : zG} {x : zX} {τ : Sg} (O : zO G x cX12_findRules RX12 0 0 5) (E : zE G x none none τ) (n : Nat) : ∀ (k : Nat) (x2 : Int32) (σ : Sg), s_X12_findRules_44 n k x2 σ = some τ → V G x σ [(0, .ref (zad G 71)), (2, .int x2)] 44 [] := by
  intro k
  induction k with
  | zero => intro x2 σ  h; cases h
  | succ k ih => intro x2 σ  h; exact b_X12_findRules_44 O E n  (s_X12_findRules_44 n  k) ih x2 σ  h
set_option maxRecDepth 20000 in
theorem b_X12_findRules_2 {G : zG} {x : zX} {τ : Sg} (O : zO G x cX12_findRules RX12 0 0 5) (E : zE G x none none τ) (n : Nat) (rc2 : Int32 → Int32 → Sg → Option Sg) (H2 : ∀ (x1 : Int32) (x2 : Int32) (σ : Sg), rc2 x1 x2 σ = some τ → V G x σ [(0, .ref (zad G 71)), (1, .int x1), (2, .int x2)] 2 []) (x1 : Int32) (x2 : Int32) (σ : Sg) (h : s_X12_findRules_2b n rc2 x1 x2 σ = some τ) : V G x σ [(0, .ref (zad G 71)), (1, .int x1), (2, .int x2)] 2 [] := by
  unfold s_X12_findRules_2b at h
  refine V_iloadn 2 2 O dX12_findRules_2 rfl rfl ?_
  refine V_aloadn 3 0 O dX12_findRules_3 rfl rfl ?_
  refine V_getI 4 O k71 fl_X12_250 dX12_findRules_4 ?_
  refine V_icmp_ge 7 37 O dX12_findRules_7 rfl h (fun h => ?_) (fun h => ?_)
  · refine V_aloadn 37 0 O dX12_findRules_37 rfl rfl ?_
    refine V_getI 38 O k71 fl_X12_250 dX12_findRules_38 ?_
    refine V_iconst 41 O dX12_findRules_41 ci_1 ?_
    refine V_isub 42 O dX12_findRules_42 ?_
    refine V_topi h (fun v1 h => ?_)
    refine V_istoren 43 [1, 2, 0] [(0, .ref (zad G 71)), (1, .int x1), (2, .int v1)] O dX12_findRules_43 rfl (Nat.le_of_ble_eq_true rfl) rfl ?_
    exact V_sub [0, 2] rfl (bl_X12_findRules_44 O E n  n v1 σ  h)
  · refine V_aloadn 10 0 O dX12_findRules_10 rfl rfl ?_
    refine V_getR 11 O k71 fl_X12_96 rf71_39 dX12_findRules_11 ?_
    refine V_iloadn 14 2 O dX12_findRules_14 rfl rfl ?_
    refine V_aloadn 15 0 O dX12_findRules_15 rfl rfl ?_
    refine V_getR 16 O k71 fl_X12_74 rf71_27 dX12_findRules_16 ?_
    refine V_iloadn 19 2 O dX12_findRules_19 rfl rfl ?_
    refine V_iald 20 O k93 dX12_findRules_20 h (fun h => ?_)
    refine V_iloadn 21 1 O dX12_findRules_21 rfl rfl ?_
    have J2 : V G x σ [(0, .ref (zad G 71)), (1, .int x1), (2, .int x2)] 30 [.int (if x1 < (σ 93 (ix x2)) then (0 : Int32) else (1 : Int32)), .int x2, .ref (zad G 99)] := by
      refine V_topi h (fun v4 h => ?_)
      refine V_zast 30 O k99 dX12_findRules_30 h (fun σ5 h => ?_)
      refine V_iinc 31 2 [1, 2, 0] [(0, .ref (zad G 71)), (1, .int x1), (2, .int (x2 + (1 : Int32)))] O dX12_findRules_31 rfl ci_1 (Nat.le_of_ble_eq_true rfl) rfl ?_
      refine V_goto 34 2 O dX12_findRules_34 rfl ?_
      exact V_sub [0, 1, 2] rfl (H2 x1 (x2 + (1 : Int32)) σ5  h)
    refine V_icmp_gtc 22 29 O dX12_findRules_22 rfl (fun c3 => ?_) (fun c3 => ?_)
    · refine V_iconst 29 O dX12_findRules_29 ci_0 ?_
      exact V_top (by rw [if_pos c3]) J2
    · refine V_iconst 25 O dX12_findRules_25 ci_1 ?_
      refine V_goto 26 30 O dX12_findRules_26 rfl ?_
      exact V_top (by rw [if_neg c3]) J2
theorem bl_X12_findRules_2 {G : zG} {x : zX} {τ : Sg} (O : zO G x cX12_findRules RX12 0 0 5) (E : zE G x none none τ) (n : Nat) : ∀ (k : Nat) (x1 : Int32) (x2 : Int32) (σ : Sg), s_X12_findRules_2 n k x1 x2 σ = some τ → V G x σ [(0, .ref (zad G 71)), (1, .int x1), (2, .int x2)] 2 [] := by
  intro k
  induction k with
  | zero => intro x1 x2 σ  h; cases h
  | succ k ih => intro x1 x2 σ  h; exact b_X12_findRules_2 O E n  (s_X12_findRules_2 n  k) ih x1 x2 σ  h
set_option maxRecDepth 20000 in
theorem C_X12_findRules {l : Launch} {G : zG} {n : Nat} {x1 : Int32} {σ : Sg} {τ : Sg} (h : s_X12_findRules n x1 σ = some τ) : zM l G 0 yX12_findRules (.code yX12_findRules cX12_findRules 5 none) [.ref (zad G 71), .int x1] σ none τ := by
  refine zM_of (by decide) (Nat.le_of_ble_eq_true rfl) (fun x O E => ?_)
  have O : zO G x cX12_findRules RX12 0 0 5 := O
  unfold s_X12_findRules at h
  show V G x σ [(0, .ref (zad G 71)), (1, .int x1)] 0 []
  refine V_iconst 0 O dX12_findRules_0 ci_0 ?_
  refine V_istoren 1 [1, 2, 0] [(0, .ref (zad G 71)), (1, .int x1), (2, .int (0 : Int32))] O dX12_findRules_1 rfl (Nat.le_of_ble_eq_true rfl) rfl ?_
  exact V_sub [0, 1, 2] rfl (bl_X12_findRules_2 O E n  n x1 (0 : Int32) σ  h)
-- ==== WaterTownModel.force(II)I
def s_X12_force (n : Nat) (x1 : Int32) (x2 : Int32) (σ : Sg) : Option (Int32 × Sg) := bd (s_X12_in n x1.toInt64 (0 : Int64) (8 : Int64) σ) fun r2 σ1 => if r2 = 0 then (some ((-1002 : Int32), σ1)) else (bd (s_X12_isDay n x2 σ1) fun r4 σ3 => if r4 = 0 then (some ((-1002 : Int32), σ3)) else (bdv (s_X12_findRules n x2 σ3) fun σ5 => if x1 = (0 : Int32) then (some (σ5 71 43, σ5)) else (if x1 = (1 : Int32) then (some (σ5 71 44, σ5)) else (if x1 = (2 : Int32) then (some (σ5 71 45, σ5)) else (if x1 = (3 : Int32) then (some (σ5 71 46, σ5)) else (if x1 = (4 : Int32) then (some (σ5 71 42, σ5)) else (if (σ5 71 42) ≤ (x1 - (5 : Int32)) then (some ((-1 : Int32), σ5)) else (some ((sr (σ5 71 41) ((2 : Int32) * (x1 - (5 : Int32)))) &&& (3 : Int32), σ5)))))))))
set_option maxRecDepth 20000 in
theorem C_X12_force {l : Launch} {G : zG} {n : Nat} {x1 : Int32} {x2 : Int32} {σ : Sg} {r : Int32} {τ : Sg} (h : s_X12_force n x1 x2 σ = some (r, τ)) : zM l G 2 yX12_force (.code yX12_force cX12_force 3 (some (.int))) [.ref (zad G 71), .int x1, .int x2] σ (some (.int r)) τ := by
  refine zM_of (by decide) (Nat.le_of_ble_eq_true rfl) (fun x O E => ?_)
  have O : zO G x cX12_force RX12 2 80 3 := O
  unfold s_X12_force at h
  show V G x σ [(0, .ref (zad G 71)), (1, .int x1), (2, .int x2)] 0 []
  refine V_iloadn 0 1 O dX12_force_0 rfl rfl ?_
  refine V_i2l 1 O dX12_force_1 ?_
  refine V_lconst 2 O dX12_force_2 cl_0 ?_
  refine V_ldc2 3 O dX12_force_3 ld_X12_197 ?_
  obtain ⟨r2, σ1, g, h⟩ := bd_of h
  refine V_callSi 6 [.long x1.toInt64, .long (0 : Int64), .long (8 : Int64)] [] O mf_X12_in lk_X12_162 dX12_force_6 rfl rfl (Nat.le_of_ble_eq_true rfl) ⟨(Nat.le_of_ble_eq_true rfl), (Nat.le_of_ble_eq_true rfl)⟩ (fun l => C_X12_in  g) ?_
  refine V_if_eq 9 19 O dX12_force_9 rfl h (fun h => ?_) (fun h => ?_)
  · refine V_sipush 19 O dX12_force_19 cs_m1002 ?_
    exact V_iret 22 O E dX12_force_22 h
  · refine V_iloadn 12 2 O dX12_force_12 rfl rfl ?_
    obtain ⟨r4, σ3, g, h⟩ := bd_of h
    refine V_callSi 13 [.int x2] [] O mf_X12_isDay lk_X12_255 dX12_force_13 rfl rfl (Nat.le_of_ble_eq_true rfl) ⟨(Nat.le_of_ble_eq_true rfl), (Nat.le_of_ble_eq_true rfl)⟩ (fun l => C_X12_isDay  g) ?_
    refine V_if_ne 16 23 O dX12_force_16 rfl h (fun h => ?_) (fun h => ?_)
    · refine V_aloadn 23 0 O dX12_force_23 rfl rfl ?_
      refine V_iloadn 24 2 O dX12_force_24 rfl rfl ?_
      obtain ⟨σ5, g, h⟩ := bdv_of h
      refine V_callVv 25 [.int x2] [] O mf_X12_findRules lk_X12_283 k71 dX12_force_25 rfl rfl (Nat.le_of_ble_eq_true rfl) ⟨(Nat.le_of_ble_eq_true rfl), (Nat.le_of_ble_eq_true rfl)⟩ (fun l => C_X12_findRules  g) ?_
      refine V_iloadn 28 1 O dX12_force_28 rfl rfl ?_
      refine V_tab1 29 64 O dX12_force_29 h (by decide) (by decide) rfl rfl (fun h => ?_) (fun q6 h => ?_)
      · refine V_aloadn 64 0 O dX12_force_64 rfl rfl ?_
        refine V_getI 65 O k71 fl_X12_271 dX12_force_65 ?_
        exact V_iret 68 O E dX12_force_68 h
      refine V_tab1 29 69 O dX12_force_29 h (by decide) (by decide) rfl rfl (fun h => ?_) (fun q7 h => ?_)
      · refine V_aloadn 69 0 O dX12_force_69 rfl rfl ?_
        refine V_getI 70 O k71 fl_X12_274 dX12_force_70 ?_
        exact V_iret 73 O E dX12_force_73 h
      refine V_tab1 29 74 O dX12_force_29 h (by decide) (by decide) rfl rfl (fun h => ?_) (fun q8 h => ?_)
      · refine V_aloadn 74 0 O dX12_force_74 rfl rfl ?_
        refine V_getI 75 O k71 fl_X12_277 dX12_force_75 ?_
        exact V_iret 78 O E dX12_force_78 h
      refine V_tab1 29 79 O dX12_force_29 h (by decide) (by decide) rfl rfl (fun h => ?_) (fun q9 h => ?_)
      · refine V_aloadn 79 0 O dX12_force_79 rfl rfl ?_
        refine V_getI 80 O k71 fl_X12_280 dX12_force_80 ?_
        exact V_iret 83 O E dX12_force_83 h
      refine V_tab1 29 84 O dX12_force_29 h (by decide) (by decide) rfl rfl (fun h => ?_) (fun q10 h => ?_)
      · refine V_aloadn 84 0 O dX12_force_84 rfl rfl ?_
        refine V_getI 85 O k71 fl_X12_268 dX12_force_85 ?_
        exact V_iret 88 O E dX12_force_88 h
      refine V_tabO 29 89 O dX12_force_29 (by have w0 := lv_neT q6 (show (0 : Int32).toInt = 0 from rfl); have w1 := lv_neT q7 (show (1 : Int32).toInt = 1 from rfl); have w2 := lv_neT q8 (show (2 : Int32).toInt = 2 from rfl); have w3 := lv_neT q9 (show (3 : Int32).toInt = 3 from rfl); have w4 := lv_neT q10 (show (4 : Int32).toInt = 4 from rfl); omega) rfl ?_
      refine V_iloadn 89 1 O dX12_force_89 rfl rfl ?_
      refine V_iconst 90 O dX12_force_90 ci_5 ?_
      refine V_isub 91 O dX12_force_91 ?_
      refine V_aloadn 92 0 O dX12_force_92 rfl rfl ?_
      refine V_getI 93 O k71 fl_X12_268 dX12_force_93 ?_
      refine V_icmp_ge 96 114 O dX12_force_96 rfl h (fun h => ?_) (fun h => ?_)
      · refine V_iconst 114 O dX12_force_114 ci_m1 ?_
        exact V_iret 115 O E dX12_force_115 h
      · refine V_aloadn 99 0 O dX12_force_99 rfl rfl ?_
        refine V_getI 100 O k71 fl_X12_265 dX12_force_100 ?_
        refine V_iconst 103 O dX12_force_103 ci_2 ?_
        refine V_iloadn 104 1 O dX12_force_104 rfl rfl ?_
        refine V_iconst 105 O dX12_force_105 ci_5 ?_
        refine V_isub 106 O dX12_force_106 ?_
        refine V_imul 107 O dX12_force_107 ?_
        refine V_ishr 108 O dX12_force_108 ?_
        refine V_iconst 109 O dX12_force_109 ci_3 ?_
        refine V_iand 110 O dX12_force_110 ?_
        refine V_goto 111 115 O dX12_force_111 rfl ?_
        exact V_iret 115 O E dX12_force_115 h
    · refine V_sipush 19 O dX12_force_19 cs_m1002 ?_
      exact V_iret 22 O E dX12_force_22 h
-- ==== WaterTownModel.dayNow()I
def s_X12_dayNow (n : Nat) (σ : Sg) : Option (Int32 × Sg) := if (σ 71 0) = (4800 : Int32) then (some ((199 : Int32), σ)) else (some ((σ 71 0) / (24 : Int32), σ))
set_option maxRecDepth 20000 in
theorem C_X12_dayNow {l : Launch} {G : zG} {n : Nat} {σ : Sg} {r : Int32} {τ : Sg} (h : s_X12_dayNow n σ = some (r, τ)) : zM l G 0 yX12_dayNow (.code yX12_dayNow cX12_dayNow 1 (some (.int))) [.ref (zad G 71)] σ (some (.int r)) τ := by
  refine zM_of (by decide) (Nat.le_of_ble_eq_true rfl) (fun x O E => ?_)
  have O : zO G x cX12_dayNow RX12 0 0 1 := O
  unfold s_X12_dayNow at h
  show V G x σ [(0, .ref (zad G 71))] 0 []
  refine V_aloadn 0 0 O dX12_dayNow_0 rfl rfl ?_
  refine V_getI 1 O k71 fl_X12_286 dX12_dayNow_1 ?_
  refine V_sipush 4 O dX12_dayNow_4 cs_4800 ?_
  refine V_icmp_ne 7 16 O dX12_dayNow_7 rfl h (fun h => ?_) (fun h => ?_)
  · refine V_aloadn 16 0 O dX12_dayNow_16 rfl rfl ?_
    refine V_getI 17 O k71 fl_X12_286 dX12_dayNow_17 ?_
    refine V_bipush 20 O dX12_dayNow_20 cb_24 ?_
    refine V_idivC 22 O dX12_dayNow_22 (by decide) ?_
    exact V_iret 23 O E dX12_dayNow_23 h
  · refine V_sipush 10 O dX12_dayNow_10 cs_199 ?_
    refine V_goto 13 23 O dX12_dayNow_13 rfl ?_
    exact V_iret 23 O E dX12_dayNow_23 h
-- ==== WaterTownModel.cell(II)I
def s_X12_cell (n : Nat) (x0 : Int32) (x1 : Int32) (σ : Sg) : Option (Int32 × Sg) := some (((12 : Int32) * x0) + x1, σ)
set_option maxRecDepth 20000 in
theorem C_X12_cell {l : Launch} {G : zG} {n : Nat} {x0 : Int32} {x1 : Int32} {σ : Sg} {r : Int32} {τ : Sg} (h : s_X12_cell n x0 x1 σ = some (r, τ)) : zM l G 0 yX12_cell (.code yX12_cell cX12_cell 2 (some (.int))) [.int x0, .int x1] σ (some (.int r)) τ := by
  refine zM_of (by decide) (Nat.le_of_ble_eq_true rfl) (fun x O E => ?_)
  have O : zO G x cX12_cell RX12 0 0 2 := O
  unfold s_X12_cell at h
  show V G x σ [(0, .int x0), (1, .int x1)] 0 []
  refine V_bipush 0 O dX12_cell_0 cb_12 ?_
  refine V_iloadn 2 0 O dX12_cell_2 rfl rfl ?_
  refine V_imul 3 O dX12_cell_3 ?_
  refine V_iloadn 4 1 O dX12_cell_4 rfl rfl ?_
  refine V_iadd 5 O dX12_cell_5 ?_
  exact V_iret 6 O E dX12_cell_6 h
-- ==== WaterTownModel.layNet(I)V
def s_X12_layNet_24b (n : Nat) (rc24 : Int32 → Int32 → Sg → Option Sg) (x1 : Int32) (x2 : Int32) (σ : Sg) : Option Sg := if (σ 71 2) ≤ x2 then (bd (s_X12_cell n (10 : Int32) (0 : Int32) σ) fun r3 σ2 => ck x1 24 (ck r3 144 (lt (up2 σ2 101 (ix r3) (σ2 72 (ix x1))) fun σ4 => if (σ4 71 50) < 0 then (some σ4) else (bd (s_X12_cell n (10 : Int32) (σ4 71 50) σ4) fun r6 σ5 => ck r6 144 (ck r6 144 (lt (up2 σ5 101 (ix r6) ((σ5 101 (ix r6)) + (σ5 71 51))) fun σ7 => some σ7)))))) else (ck x2 20 (if (σ 79 (ix x2)) = 0 then (ck x2 20 (ck x2 20 (bd (s_X12_cell n (σ 73 (ix x2)) (σ 74 (ix x2)) σ) fun r9 σ8 => ck r9 144 (ck x2 20 (ck r9 144 (lt (up2 σ8 101 (ix r9) ((σ8 101 (ix r9)) + (σ8 77 (ix x2)))) fun σ10 => ck x2 20 (ck x2 20 (bd (s_X12_cell n (σ10 74 (ix x2)) (σ10 73 (ix x2)) σ10) fun r12 σ11 => ck r12 144 (ck x2 20 (ck r12 144 (lt (up2 σ11 101 (ix r12) ((σ11 101 (ix r12)) + (σ11 77 (ix x2)))) fun σ13 => rc24 x1 (x2 + (1 : Int32)) σ13))))))))))) else (rc24 x1 (x2 + (1 : Int32)) σ)))
def s_X12_layNet_24 (n : Nat) : Nat → Int32 → Int32 → Sg → Option Sg
  | 0 => fun _ _ _ => none
  | k + 1 => s_X12_layNet_24b n (s_X12_layNet_24 n k)
def s_X12_layNet_2b (n : Nat) (rc2 : Int32 → Int32 → Sg → Option Sg) (x1 : Int32) (x2 : Int32) (σ : Sg) : Option Sg := if (144 : Int32) ≤ x2 then (s_X12_layNet_24 n n x1 (0 : Int32) σ) else (ck x2 144 (lt (up2 σ 101 (ix x2) (0 : Int32)) fun σ1 => rc2 x1 (x2 + (1 : Int32)) σ1))
def s_X12_layNet_2 (n : Nat) : Nat → Int32 → Int32 → Sg → Option Sg
  | 0 => fun _ _ _ => none
  | k + 1 => s_X12_layNet_2b n (s_X12_layNet_2 n k)
def s_X12_layNet (n : Nat) (x1 : Int32) (σ : Sg) : Option Sg := s_X12_layNet_2 n n x1 (0 : Int32) σ
set_option maxRecDepth 20000 in
theorem b_X12_layNet_24 {G : zG} {x : zX} {τ : Sg} (O : zO G x cX12_layNet RX12 1 40 3) (E : zE G x none none τ) (n : Nat) (rc24 : Int32 → Int32 → Sg → Option Sg) (H24 : ∀ (x1 : Int32) (x2 : Int32) (σ : Sg), rc24 x1 x2 σ = some τ → V G x σ [(0, .ref (zad G 71)), (1, .int x1), (2, .int x2)] 24 []) (x1 : Int32) (x2 : Int32) (σ : Sg) (h : s_X12_layNet_24b n rc24 x1 x2 σ = some τ) : V G x σ [(0, .ref (zad G 71)), (1, .int x1), (2, .int x2)] 24 [] := by
  unfold s_X12_layNet_24b at h
  refine V_iloadn 24 2 O dX12_layNet_24 rfl rfl ?_
  refine V_aloadn 25 0 O dX12_layNet_25 rfl rfl ?_
  refine V_getI 26 O k71 fl_X12_168 dX12_layNet_26 ?_
  refine V_icmp_ge 29 105 O dX12_layNet_29 rfl h (fun h => ?_) (fun h => ?_)
  · refine V_aloadn 105 0 O dX12_layNet_105 rfl rfl ?_
    refine V_getR 106 O k71 fl_X12_102 rf71_47 dX12_layNet_106 ?_
    refine V_bipush 109 O dX12_layNet_109 cb_10 ?_
    refine V_iconst 111 O dX12_layNet_111 ci_0 ?_
    obtain ⟨r3, σ2, g, h⟩ := bd_of h
    refine V_callSi 112 [.int (10 : Int32), .int (0 : Int32)] [.ref (zad G 101)] O mf_X12_cell lk_X12_289 dX12_layNet_112 rfl rfl (Nat.le_of_ble_eq_true rfl) ⟨(Nat.le_of_ble_eq_true rfl), (Nat.le_of_ble_eq_true rfl)⟩ (fun l => C_X12_cell  g) ?_
    refine V_aloadn 115 0 O dX12_layNet_115 rfl rfl ?_
    refine V_getR 116 O k71 fl_X12_7 rf71_1 dX12_layNet_116 ?_
    refine V_iloadn 119 1 O dX12_layNet_119 rfl rfl ?_
    refine V_iald 120 O k72 dX12_layNet_120 h (fun h => ?_)
    refine V_iast 121 O k101 dX12_layNet_121 h (fun σ4 h => ?_)
    refine V_aloadn 122 0 O dX12_layNet_122 rfl rfl ?_
    refine V_getI 123 O k71 fl_X12_111 dX12_layNet_123 ?_
    refine V_if_lt 126 150 O dX12_layNet_126 rfl h (fun h => ?_) (fun h => ?_)
    · exact V_vret 150 O E dX12_layNet_150 h
    · refine V_aloadn 129 0 O dX12_layNet_129 rfl rfl ?_
      refine V_getR 130 O k71 fl_X12_102 rf71_47 dX12_layNet_130 ?_
      refine V_bipush 133 O dX12_layNet_133 cb_10 ?_
      refine V_aloadn 135 0 O dX12_layNet_135 rfl rfl ?_
      refine V_getI 136 O k71 fl_X12_111 dX12_layNet_136 ?_
      obtain ⟨r6, σ5, g, h⟩ := bd_of h
      refine V_callSi 139 [.int (10 : Int32), .int (σ4 71 50)] [.ref (zad G 101)] O mf_X12_cell lk_X12_289 dX12_layNet_139 rfl rfl (Nat.le_of_ble_eq_true rfl) ⟨(Nat.le_of_ble_eq_true rfl), (Nat.le_of_ble_eq_true rfl)⟩ (fun l => C_X12_cell  g) ?_
      refine V_dup2 142 O dX12_layNet_142 rfl rfl ?_
      refine V_iald 143 O k101 dX12_layNet_143 h (fun h => ?_)
      refine V_aloadn 144 0 O dX12_layNet_144 rfl rfl ?_
      refine V_getI 145 O k71 fl_X12_292 dX12_layNet_145 ?_
      refine V_iadd 148 O dX12_layNet_148 ?_
      refine V_iast 149 O k101 dX12_layNet_149 h (fun σ7 h => ?_)
      exact V_vret 150 O E dX12_layNet_150 h
  · refine V_aloadn 32 0 O dX12_layNet_32 rfl rfl ?_
    refine V_getR 33 O k71 fl_X12_31 rf71_9 dX12_layNet_33 ?_
    refine V_iloadn 36 2 O dX12_layNet_36 rfl rfl ?_
    refine V_zald 37 O k79 dX12_layNet_37 h (fun h => ?_)
    refine V_if_ne 38 99 O dX12_layNet_38 rfl h (fun h => ?_) (fun h => ?_)
    · refine V_iinc 99 2 [1, 2, 0] [(0, .ref (zad G 71)), (1, .int x1), (2, .int (x2 + (1 : Int32)))] O dX12_layNet_99 rfl ci_1 (Nat.le_of_ble_eq_true rfl) rfl ?_
      refine V_goto 102 24 O dX12_layNet_102 rfl ?_
      exact V_sub [0, 1, 2] rfl (H24 x1 (x2 + (1 : Int32)) σ  h)
    · refine V_aloadn 41 0 O dX12_layNet_41 rfl rfl ?_
      refine V_getR 42 O k71 fl_X12_102 rf71_47 dX12_layNet_42 ?_
      refine V_aloadn 45 0 O dX12_layNet_45 rfl rfl ?_
      refine V_getR 46 O k71 fl_X12_13 rf71_3 dX12_layNet_46 ?_
      refine V_iloadn 49 2 O dX12_layNet_49 rfl rfl ?_
      refine V_iald 50 O k73 dX12_layNet_50 h (fun h => ?_)
      refine V_aloadn 51 0 O dX12_layNet_51 rfl rfl ?_
      refine V_getR 52 O k71 fl_X12_16 rf71_4 dX12_layNet_52 ?_
      refine V_iloadn 55 2 O dX12_layNet_55 rfl rfl ?_
      refine V_iald 56 O k74 dX12_layNet_56 h (fun h => ?_)
      obtain ⟨r9, σ8, g, h⟩ := bd_of h
      refine V_callSi 57 [.int (σ 73 (ix x2)), .int (σ 74 (ix x2))] [.ref (zad G 101)] O mf_X12_cell lk_X12_289 dX12_layNet_57 rfl rfl (Nat.le_of_ble_eq_true rfl) ⟨(Nat.le_of_ble_eq_true rfl), (Nat.le_of_ble_eq_true rfl)⟩ (fun l => C_X12_cell  g) ?_
      refine V_dup2 60 O dX12_layNet_60 rfl rfl ?_
      refine V_iald 61 O k101 dX12_layNet_61 h (fun h => ?_)
      refine V_aloadn 62 0 O dX12_layNet_62 rfl rfl ?_
      refine V_getR 63 O k71 fl_X12_25 rf71_7 dX12_layNet_63 ?_
      refine V_iloadn 66 2 O dX12_layNet_66 rfl rfl ?_
      refine V_iald 67 O k77 dX12_layNet_67 h (fun h => ?_)
      refine V_iadd 68 O dX12_layNet_68 ?_
      refine V_iast 69 O k101 dX12_layNet_69 h (fun σ10 h => ?_)
      refine V_aloadn 70 0 O dX12_layNet_70 rfl rfl ?_
      refine V_getR 71 O k71 fl_X12_102 rf71_47 dX12_layNet_71 ?_
      refine V_aloadn 74 0 O dX12_layNet_74 rfl rfl ?_
      refine V_getR 75 O k71 fl_X12_16 rf71_4 dX12_layNet_75 ?_
      refine V_iloadn 78 2 O dX12_layNet_78 rfl rfl ?_
      refine V_iald 79 O k74 dX12_layNet_79 h (fun h => ?_)
      refine V_aloadn 80 0 O dX12_layNet_80 rfl rfl ?_
      refine V_getR 81 O k71 fl_X12_13 rf71_3 dX12_layNet_81 ?_
      refine V_iloadn 84 2 O dX12_layNet_84 rfl rfl ?_
      refine V_iald 85 O k73 dX12_layNet_85 h (fun h => ?_)
      obtain ⟨r12, σ11, g, h⟩ := bd_of h
      refine V_callSi 86 [.int (σ10 74 (ix x2)), .int (σ10 73 (ix x2))] [.ref (zad G 101)] O mf_X12_cell lk_X12_289 dX12_layNet_86 rfl rfl (Nat.le_of_ble_eq_true rfl) ⟨(Nat.le_of_ble_eq_true rfl), (Nat.le_of_ble_eq_true rfl)⟩ (fun l => C_X12_cell  g) ?_
      refine V_dup2 89 O dX12_layNet_89 rfl rfl ?_
      refine V_iald 90 O k101 dX12_layNet_90 h (fun h => ?_)
      refine V_aloadn 91 0 O dX12_layNet_91 rfl rfl ?_
      refine V_getR 92 O k71 fl_X12_25 rf71_7 dX12_layNet_92 ?_
      refine V_iloadn 95 2 O dX12_layNet_95 rfl rfl ?_
      refine V_iald 96 O k77 dX12_layNet_96 h (fun h => ?_)
      refine V_iadd 97 O dX12_layNet_97 ?_
      refine V_iast 98 O k101 dX12_layNet_98 h (fun σ13 h => ?_)
      refine V_iinc 99 2 [1, 2, 0] [(0, .ref (zad G 71)), (1, .int x1), (2, .int (x2 + (1 : Int32)))] O dX12_layNet_99 rfl ci_1 (Nat.le_of_ble_eq_true rfl) rfl ?_
      refine V_goto 102 24 O dX12_layNet_102 rfl ?_
      exact V_sub [0, 1, 2] rfl (H24 x1 (x2 + (1 : Int32)) σ13  h)
theorem bl_X12_layNet_24 {G : zG} {x : zX} {τ : Sg} (O : zO G x cX12_layNet RX12 1 40 3) (E : zE G x none none τ) (n : Nat) : ∀ (k : Nat) (x1 : Int32) (x2 : Int32) (σ : Sg), s_X12_layNet_24 n k x1 x2 σ = some τ → V G x σ [(0, .ref (zad G 71)), (1, .int x1), (2, .int x2)] 24 [] := by
  intro k
  induction k with
  | zero => intro x1 x2 σ  h; cases h
  | succ k ih => intro x1 x2 σ  h; exact b_X12_layNet_24 O E n  (s_X12_layNet_24 n  k) ih x1 x2 σ  h
set_option maxRecDepth 20000 in
theorem b_X12_layNet_2 {G : zG} {x : zX} {τ : Sg} (O : zO G x cX12_layNet RX12 1 40 3) (E : zE G x none none τ) (n : Nat) (rc2 : Int32 → Int32 → Sg → Option Sg) (H2 : ∀ (x1 : Int32) (x2 : Int32) (σ : Sg), rc2 x1 x2 σ = some τ → V G x σ [(0, .ref (zad G 71)), (1, .int x1), (2, .int x2)] 2 []) (x1 : Int32) (x2 : Int32) (σ : Sg) (h : s_X12_layNet_2b n rc2 x1 x2 σ = some τ) : V G x σ [(0, .ref (zad G 71)), (1, .int x1), (2, .int x2)] 2 [] := by
  unfold s_X12_layNet_2b at h
  refine V_iloadn 2 2 O dX12_layNet_2 rfl rfl ?_
  refine V_sipush 3 O dX12_layNet_3 cs_144 ?_
  refine V_icmp_ge 6 22 O dX12_layNet_6 rfl h (fun h => ?_) (fun h => ?_)
  · refine V_iconst 22 O dX12_layNet_22 ci_0 ?_
    refine V_istoren 23 [1, 2, 0] [(0, .ref (zad G 71)), (1, .int x1), (2, .int (0 : Int32))] O dX12_layNet_23 rfl (Nat.le_of_ble_eq_true rfl) rfl ?_
    exact V_sub [0, 1, 2] rfl (bl_X12_layNet_24 O E n  n x1 (0 : Int32) σ  h)
  · refine V_aloadn 9 0 O dX12_layNet_9 rfl rfl ?_
    refine V_getR 10 O k71 fl_X12_102 rf71_47 dX12_layNet_10 ?_
    refine V_iloadn 13 2 O dX12_layNet_13 rfl rfl ?_
    refine V_iconst 14 O dX12_layNet_14 ci_0 ?_
    refine V_iast 15 O k101 dX12_layNet_15 h (fun σ1 h => ?_)
    refine V_iinc 16 2 [1, 2, 0] [(0, .ref (zad G 71)), (1, .int x1), (2, .int (x2 + (1 : Int32)))] O dX12_layNet_16 rfl ci_1 (Nat.le_of_ble_eq_true rfl) rfl ?_
    refine V_goto 19 2 O dX12_layNet_19 rfl ?_
    exact V_sub [0, 1, 2] rfl (H2 x1 (x2 + (1 : Int32)) σ1  h)
theorem bl_X12_layNet_2 {G : zG} {x : zX} {τ : Sg} (O : zO G x cX12_layNet RX12 1 40 3) (E : zE G x none none τ) (n : Nat) : ∀ (k : Nat) (x1 : Int32) (x2 : Int32) (σ : Sg), s_X12_layNet_2 n k x1 x2 σ = some τ → V G x σ [(0, .ref (zad G 71)), (1, .int x1), (2, .int x2)] 2 [] := by
  intro k
  induction k with
  | zero => intro x1 x2 σ  h; cases h
  | succ k ih => intro x1 x2 σ  h; exact b_X12_layNet_2 O E n  (s_X12_layNet_2 n  k) ih x1 x2 σ  h
set_option maxRecDepth 20000 in
theorem C_X12_layNet {l : Launch} {G : zG} {n : Nat} {x1 : Int32} {σ : Sg} {τ : Sg} (h : s_X12_layNet n x1 σ = some τ) : zM l G 1 yX12_layNet (.code yX12_layNet cX12_layNet 3 none) [.ref (zad G 71), .int x1] σ none τ := by
  refine zM_of (by decide) (Nat.le_of_ble_eq_true rfl) (fun x O E => ?_)
  have O : zO G x cX12_layNet RX12 1 40 3 := O
  unfold s_X12_layNet at h
  show V G x σ [(0, .ref (zad G 71)), (1, .int x1)] 0 []
  refine V_iconst 0 O dX12_layNet_0 ci_0 ?_
  refine V_istoren 1 [1, 2, 0] [(0, .ref (zad G 71)), (1, .int x1), (2, .int (0 : Int32))] O dX12_layNet_1 rfl (Nat.le_of_ble_eq_true rfl) rfl ?_
  exact V_sub [0, 1, 2] rfl (bl_X12_layNet_2 O E n  n x1 (0 : Int32) σ  h)
-- ==== WaterTownModel.findWay()Z
def s_X12_findWay_59b (n : Nat) (rc42 : Int32 → Int32 → Sg → Option (Int32 × Sg)) (rc59 : Int32 → Int32 → Int32 → Sg → Option (Int32 × Sg)) (x1 : Int32) (x2 : Int32) (x3 : Int32) (σ : Sg) : Option (Int32 × Sg) := if (12 : Int32) ≤ x3 then (rc42 x1 (x2 + (1 : Int32)) σ) else (ck x3 12 (if 0 ≤ (σ 102 (ix x3)) then (rc59 x1 x2 (x3 + (1 : Int32)) σ) else (ck x2 12 (bd (s_X12_cell n (σ 103 (ix x2)) x3 σ) fun r5 σ4 => ck r5 144 (if (σ4 101 (ix r5)) ≤ 0 then (rc59 x1 x2 (x3 + (1 : Int32)) σ4) else (ck x2 12 (ck x3 12 (lt (up2 σ4 102 (ix x3) (σ4 103 (ix x2))) fun σ6 => ck x1 12 (lt (up2 σ6 103 (ix x1) x3) fun σ7 => rc59 (x1 + (1 : Int32)) x2 (x3 + (1 : Int32)) σ7)))))))))
def s_X12_findWay_59 (n : Nat) (rc42 : Int32 → Int32 → Sg → Option (Int32 × Sg)) : Nat → Int32 → Int32 → Int32 → Sg → Option (Int32 × Sg)
  | 0 => fun _ _ _ _ => none
  | k + 1 => s_X12_findWay_59b n rc42 (s_X12_findWay_59 n rc42 k)
def s_X12_findWay_126 (n : Nat) (σ : Sg) : Option (Int32 × Sg) := ck (11 : Int32) 12 (if (σ 102 (ix (11 : Int32))) < 0 then (some ((0 : Int32), σ)) else (some ((1 : Int32), σ)))
def s_X12_findWay_42b (n : Nat) (rc42 : Int32 → Int32 → Sg → Option (Int32 × Sg)) (x1 : Int32) (x2 : Int32) (σ : Sg) : Option (Int32 × Sg) := if x1 ≤ x2 then (s_X12_findWay_126 n σ) else (ck (11 : Int32) 12 (if 0 ≤ (σ 102 (ix (11 : Int32))) then (s_X12_findWay_126 n σ) else (s_X12_findWay_59 n rc42 n x1 x2 (0 : Int32) σ)))
def s_X12_findWay_42 (n : Nat) : Nat → Int32 → Int32 → Sg → Option (Int32 × Sg)
  | 0 => fun _ _ _ => none
  | k + 1 => s_X12_findWay_42b n (s_X12_findWay_42 n k)
def s_X12_findWay_2b (n : Nat) (rc2 : Int32 → Sg → Option (Int32 × Sg)) (x1 : Int32) (σ : Sg) : Option (Int32 × Sg) := if (12 : Int32) ≤ x1 then (ck (10 : Int32) 12 (lt (up2 σ 102 (ix (10 : Int32)) (10 : Int32)) fun σ1 => ck (0 : Int32) 12 (lt (up2 σ1 103 (ix (0 : Int32)) (10 : Int32)) fun σ2 => s_X12_findWay_42 n n (1 : Int32) (0 : Int32) σ2))) else (ck x1 12 (lt (up2 σ 102 (ix x1) (-1 : Int32)) fun σ3 => rc2 (x1 + (1 : Int32)) σ3))
def s_X12_findWay_2 (n : Nat) : Nat → Int32 → Sg → Option (Int32 × Sg)
  | 0 => fun _ _ => none
  | k + 1 => s_X12_findWay_2b n (s_X12_findWay_2 n k)
def s_X12_findWay (n : Nat) (σ : Sg) : Option (Int32 × Sg) := s_X12_findWay_2 n n (0 : Int32) σ
set_option maxRecDepth 20000 in
theorem b_X12_findWay_59 {G : zG} {x : zX} {r : Int32} {τ : Sg} (O : zO G x cX12_findWay RX12 1 40 4) (E : zE G x (some (.boolean)) (some (.int r)) τ) (n : Nat) (rc42 : Int32 → Int32 → Sg → Option (Int32 × Sg)) (H42 : ∀ (x1 : Int32) (x2 : Int32) (σ : Sg), rc42 x1 x2 σ = some (r, τ) → V G x σ [(0, .ref (zad G 71)), (1, .int x1), (2, .int x2)] 42 []) (rc59 : Int32 → Int32 → Int32 → Sg → Option (Int32 × Sg)) (H59 : ∀ (x1 : Int32) (x2 : Int32) (x3 : Int32) (σ : Sg), rc59 x1 x2 x3 σ = some (r, τ) → V G x σ [(0, .ref (zad G 71)), (1, .int x1), (2, .int x2), (3, .int x3)] 59 []) (x1 : Int32) (x2 : Int32) (x3 : Int32) (σ : Sg) (h : s_X12_findWay_59b n rc42 rc59 x1 x2 x3 σ = some (r, τ)) : V G x σ [(0, .ref (zad G 71)), (1, .int x1), (2, .int x2), (3, .int x3)] 59 [] := by
  unfold s_X12_findWay_59b at h
  refine V_iloadn 59 3 O dX12_findWay_59 rfl rfl ?_
  refine V_bipush 60 O dX12_findWay_60 cb_12 ?_
  refine V_icmp_ge 62 120 O dX12_findWay_62 rfl h (fun h => ?_) (fun h => ?_)
  · refine V_iinc 120 2 [1, 2, 0, 3] [(0, .ref (zad G 71)), (1, .int x1), (2, .int (x2 + (1 : Int32))), (3, .int x3)] O dX12_findWay_120 rfl ci_1 (Nat.le_of_ble_eq_true rfl) rfl ?_
    refine V_goto 123 42 O dX12_findWay_123 rfl ?_
    exact V_sub [0, 1, 2] rfl (H42 x1 (x2 + (1 : Int32)) σ  h)
  · refine V_aloadn 65 0 O dX12_findWay_65 rfl rfl ?_
    refine V_getR 66 O k71 fl_X12_105 rf71_48 dX12_findWay_66 ?_
    refine V_iloadn 69 3 O dX12_findWay_69 rfl rfl ?_
    refine V_iald 70 O k102 dX12_findWay_70 h (fun h => ?_)
    refine V_if_ge 71 114 O dX12_findWay_71 rfl h (fun h => ?_) (fun h => ?_)
    · refine V_iinc 114 3 [1, 2, 3, 0] [(0, .ref (zad G 71)), (1, .int x1), (2, .int x2), (3, .int (x3 + (1 : Int32)))] O dX12_findWay_114 rfl ci_1 (Nat.le_of_ble_eq_true rfl) rfl ?_
      refine V_goto 117 59 O dX12_findWay_117 rfl ?_
      exact V_sub [0, 1, 2, 3] rfl (H59 x1 x2 (x3 + (1 : Int32)) σ  h)
    · refine V_aloadn 74 0 O dX12_findWay_74 rfl rfl ?_
      refine V_getR 75 O k71 fl_X12_102 rf71_47 dX12_findWay_75 ?_
      refine V_aloadn 78 0 O dX12_findWay_78 rfl rfl ?_
      refine V_getR 79 O k71 fl_X12_108 rf71_49 dX12_findWay_79 ?_
      refine V_iloadn 82 2 O dX12_findWay_82 rfl rfl ?_
      refine V_iald 83 O k103 dX12_findWay_83 h (fun h => ?_)
      refine V_iloadn 84 3 O dX12_findWay_84 rfl rfl ?_
      obtain ⟨r5, σ4, g, h⟩ := bd_of h
      refine V_callSi 85 [.int (σ 103 (ix x2)), .int x3] [.ref (zad G 101)] O mf_X12_cell lk_X12_289 dX12_findWay_85 rfl rfl (Nat.le_of_ble_eq_true rfl) ⟨(Nat.le_of_ble_eq_true rfl), (Nat.le_of_ble_eq_true rfl)⟩ (fun l => C_X12_cell  g) ?_
      refine V_iald 88 O k101 dX12_findWay_88 h (fun h => ?_)
      refine V_if_le 89 114 O dX12_findWay_89 rfl h (fun h => ?_) (fun h => ?_)
      · refine V_iinc 114 3 [1, 2, 3, 0] [(0, .ref (zad G 71)), (1, .int x1), (2, .int x2), (3, .int (x3 + (1 : Int32)))] O dX12_findWay_114 rfl ci_1 (Nat.le_of_ble_eq_true rfl) rfl ?_
        refine V_goto 117 59 O dX12_findWay_117 rfl ?_
        exact V_sub [0, 1, 2, 3] rfl (H59 x1 x2 (x3 + (1 : Int32)) σ4  h)
      · refine V_aloadn 92 0 O dX12_findWay_92 rfl rfl ?_
        refine V_getR 93 O k71 fl_X12_105 rf71_48 dX12_findWay_93 ?_
        refine V_iloadn 96 3 O dX12_findWay_96 rfl rfl ?_
        refine V_aloadn 97 0 O dX12_findWay_97 rfl rfl ?_
        refine V_getR 98 O k71 fl_X12_108 rf71_49 dX12_findWay_98 ?_
        refine V_iloadn 101 2 O dX12_findWay_101 rfl rfl ?_
        refine V_iald 102 O k103 dX12_findWay_102 h (fun h => ?_)
        refine V_iast 103 O k102 dX12_findWay_103 h (fun σ6 h => ?_)
        refine V_aloadn 104 0 O dX12_findWay_104 rfl rfl ?_
        refine V_getR 105 O k71 fl_X12_108 rf71_49 dX12_findWay_105 ?_
        refine V_iloadn 108 1 O dX12_findWay_108 rfl rfl ?_
        refine V_iloadn 109 3 O dX12_findWay_109 rfl rfl ?_
        refine V_iast 110 O k103 dX12_findWay_110 h (fun σ7 h => ?_)
        refine V_iinc 111 1 [1, 0, 2, 3] [(0, .ref (zad G 71)), (1, .int (x1 + (1 : Int32))), (2, .int x2), (3, .int x3)] O dX12_findWay_111 rfl ci_1 (Nat.le_of_ble_eq_true rfl) rfl ?_
        refine V_iinc 114 3 [1, 2, 3, 0] [(0, .ref (zad G 71)), (1, .int (x1 + (1 : Int32))), (2, .int x2), (3, .int (x3 + (1 : Int32)))] O dX12_findWay_114 rfl ci_1 (Nat.le_of_ble_eq_true rfl) rfl ?_
        refine V_goto 117 59 O dX12_findWay_117 rfl ?_
        exact V_sub [0, 1, 2, 3] rfl (H59 (x1 + (1 : Int32)) x2 (x3 + (1 : Int32)) σ7  h)
theorem bl_X12_findWay_59 {G : zG} {x : zX} {r : Int32} {τ : Sg} (O : zO G x cX12_findWay RX12 1 40 4) (E : zE G x (some (.boolean)) (some (.int r)) τ) (n : Nat) (rc42 : Int32 → Int32 → Sg → Option (Int32 × Sg)) (H42 : ∀ (x1 : Int32) (x2 : Int32) (σ : Sg), rc42 x1 x2 σ = some (r, τ) → V G x σ [(0, .ref (zad G 71)), (1, .int x1), (2, .int x2)] 42 []) : ∀ (k : Nat) (x1 : Int32) (x2 : Int32) (x3 : Int32) (σ : Sg), s_X12_findWay_59 n rc42 k x1 x2 x3 σ = some (r, τ) → V G x σ [(0, .ref (zad G 71)), (1, .int x1), (2, .int x2), (3, .int x3)] 59 [] := by
  intro k
  induction k with
  | zero => intro x1 x2 x3 σ  h; cases h
  | succ k ih => intro x1 x2 x3 σ  h; exact b_X12_findWay_59 O E n rc42 H42 (s_X12_findWay_59 n rc42 k) ih x1 x2 x3 σ  h
set_option maxRecDepth 20000 in
theorem b_X12_findWay_126 {G : zG} {x : zX} {r : Int32} {τ : Sg} (O : zO G x cX12_findWay RX12 1 40 4) (E : zE G x (some (.boolean)) (some (.int r)) τ) (n : Nat) (σ : Sg) (h : s_X12_findWay_126 n σ = some (r, τ)) : V G x σ [(0, .ref (zad G 71))] 126 [] := by
  unfold s_X12_findWay_126 at h
  refine V_aloadn 126 0 O dX12_findWay_126 rfl rfl ?_
  refine V_getR 127 O k71 fl_X12_105 rf71_48 dX12_findWay_127 ?_
  refine V_bipush 130 O dX12_findWay_130 cb_11 ?_
  refine V_iald 132 O k102 dX12_findWay_132 h (fun h => ?_)
  refine V_if_lt 133 140 O dX12_findWay_133 rfl h (fun h => ?_) (fun h => ?_)
  · refine V_iconst 140 O dX12_findWay_140 ci_0 ?_
    exact V_zret0 141 O E dX12_findWay_141 h
  · refine V_iconst 136 O dX12_findWay_136 ci_1 ?_
    refine V_goto 137 141 O dX12_findWay_137 rfl ?_
    exact V_zret1 141 O E dX12_findWay_141 h
set_option maxRecDepth 20000 in
theorem b_X12_findWay_42 {G : zG} {x : zX} {r : Int32} {τ : Sg} (O : zO G x cX12_findWay RX12 1 40 4) (E : zE G x (some (.boolean)) (some (.int r)) τ) (n : Nat) (rc42 : Int32 → Int32 → Sg → Option (Int32 × Sg)) (H42 : ∀ (x1 : Int32) (x2 : Int32) (σ : Sg), rc42 x1 x2 σ = some (r, τ) → V G x σ [(0, .ref (zad G 71)), (1, .int x1), (2, .int x2)] 42 []) (x1 : Int32) (x2 : Int32) (σ : Sg) (h : s_X12_findWay_42b n rc42 x1 x2 σ = some (r, τ)) : V G x σ [(0, .ref (zad G 71)), (1, .int x1), (2, .int x2)] 42 [] := by
  unfold s_X12_findWay_42b at h
  refine V_iloadn 42 2 O dX12_findWay_42 rfl rfl ?_
  refine V_iloadn 43 1 O dX12_findWay_43 rfl rfl ?_
  refine V_icmp_ge 44 126 O dX12_findWay_44 rfl h (fun h => ?_) (fun h => ?_)
  · exact V_sub [0] rfl (b_X12_findWay_126 O E n   σ  h)
  · refine V_aloadn 47 0 O dX12_findWay_47 rfl rfl ?_
    refine V_getR 48 O k71 fl_X12_105 rf71_48 dX12_findWay_48 ?_
    refine V_bipush 51 O dX12_findWay_51 cb_11 ?_
    refine V_iald 53 O k102 dX12_findWay_53 h (fun h => ?_)
    refine V_if_ge 54 126 O dX12_findWay_54 rfl h (fun h => ?_) (fun h => ?_)
    · exact V_sub [0] rfl (b_X12_findWay_126 O E n   σ  h)
    · refine V_iconst 57 O dX12_findWay_57 ci_0 ?_
      refine V_istoren 58 [1, 2, 3, 0] [(0, .ref (zad G 71)), (1, .int x1), (2, .int x2), (3, .int (0 : Int32))] O dX12_findWay_58 rfl (Nat.le_of_ble_eq_true rfl) rfl ?_
      exact V_sub [0, 1, 2, 3] rfl (bl_X12_findWay_59 O E n rc42 H42 n x1 x2 (0 : Int32) σ  h)
theorem bl_X12_findWay_42 {G : zG} {x : zX} {r : Int32} {τ : Sg} (O : zO G x cX12_findWay RX12 1 40 4) (E : zE G x (some (.boolean)) (some (.int r)) τ) (n : Nat) : ∀ (k : Nat) (x1 : Int32) (x2 : Int32) (σ : Sg), s_X12_findWay_42 n k x1 x2 σ = some (r, τ) → V G x σ [(0, .ref (zad G 71)), (1, .int x1), (2, .int x2)] 42 [] := by
  intro k
  induction k with
  | zero => intro x1 x2 σ  h; cases h
  | succ k ih => intro x1 x2 σ  h; exact b_X12_findWay_42 O E n  (s_X12_findWay_42 n  k) ih x1 x2 σ  h
set_option maxRecDepth 20000 in
theorem b_X12_findWay_2 {G : zG} {x : zX} {r : Int32} {τ : Sg} (O : zO G x cX12_findWay RX12 1 40 4) (E : zE G x (some (.boolean)) (some (.int r)) τ) (n : Nat) (rc2 : Int32 → Sg → Option (Int32 × Sg)) (H2 : ∀ (x1 : Int32) (σ : Sg), rc2 x1 σ = some (r, τ) → V G x σ [(0, .ref (zad G 71)), (1, .int x1)] 2 []) (x1 : Int32) (σ : Sg) (h : s_X12_findWay_2b n rc2 x1 σ = some (r, τ)) : V G x σ [(0, .ref (zad G 71)), (1, .int x1)] 2 [] := by
  unfold s_X12_findWay_2b at h
  refine V_iloadn 2 1 O dX12_findWay_2 rfl rfl ?_
  refine V_bipush 3 O dX12_findWay_3 cb_12 ?_
  refine V_icmp_ge 5 21 O dX12_findWay_5 rfl h (fun h => ?_) (fun h => ?_)
  · refine V_aloadn 21 0 O dX12_findWay_21 rfl rfl ?_
    refine V_getR 22 O k71 fl_X12_105 rf71_48 dX12_findWay_22 ?_
    refine V_bipush 25 O dX12_findWay_25 cb_10 ?_
    refine V_bipush 27 O dX12_findWay_27 cb_10 ?_
    refine V_iast 29 O k102 dX12_findWay_29 h (fun σ1 h => ?_)
    refine V_aloadn 30 0 O dX12_findWay_30 rfl rfl ?_
    refine V_getR 31 O k71 fl_X12_108 rf71_49 dX12_findWay_31 ?_
    refine V_iconst 34 O dX12_findWay_34 ci_0 ?_
    refine V_bipush 35 O dX12_findWay_35 cb_10 ?_
    refine V_iast 37 O k103 dX12_findWay_37 h (fun σ2 h => ?_)
    refine V_iconst 38 O dX12_findWay_38 ci_1 ?_
    refine V_istoren 39 [1, 0] [(0, .ref (zad G 71)), (1, .int (1 : Int32))] O dX12_findWay_39 rfl (Nat.le_of_ble_eq_true rfl) rfl ?_
    refine V_iconst 40 O dX12_findWay_40 ci_0 ?_
    refine V_istoren 41 [1, 2, 0] [(0, .ref (zad G 71)), (1, .int (1 : Int32)), (2, .int (0 : Int32))] O dX12_findWay_41 rfl (Nat.le_of_ble_eq_true rfl) rfl ?_
    exact V_sub [0, 1, 2] rfl (bl_X12_findWay_42 O E n  n (1 : Int32) (0 : Int32) σ2  h)
  · refine V_aloadn 8 0 O dX12_findWay_8 rfl rfl ?_
    refine V_getR 9 O k71 fl_X12_105 rf71_48 dX12_findWay_9 ?_
    refine V_iloadn 12 1 O dX12_findWay_12 rfl rfl ?_
    refine V_iconst 13 O dX12_findWay_13 ci_m1 ?_
    refine V_iast 14 O k102 dX12_findWay_14 h (fun σ3 h => ?_)
    refine V_iinc 15 1 [1, 0] [(0, .ref (zad G 71)), (1, .int (x1 + (1 : Int32)))] O dX12_findWay_15 rfl ci_1 (Nat.le_of_ble_eq_true rfl) rfl ?_
    refine V_goto 18 2 O dX12_findWay_18 rfl ?_
    exact V_sub [0, 1] rfl (H2 (x1 + (1 : Int32)) σ3  h)
theorem bl_X12_findWay_2 {G : zG} {x : zX} {r : Int32} {τ : Sg} (O : zO G x cX12_findWay RX12 1 40 4) (E : zE G x (some (.boolean)) (some (.int r)) τ) (n : Nat) : ∀ (k : Nat) (x1 : Int32) (σ : Sg), s_X12_findWay_2 n k x1 σ = some (r, τ) → V G x σ [(0, .ref (zad G 71)), (1, .int x1)] 2 [] := by
  intro k
  induction k with
  | zero => intro x1 σ  h; cases h
  | succ k ih => intro x1 σ  h; exact b_X12_findWay_2 O E n  (s_X12_findWay_2 n  k) ih x1 σ  h
set_option maxRecDepth 20000 in
theorem C_X12_findWay {l : Launch} {G : zG} {n : Nat} {σ : Sg} {r : Int32} {τ : Sg} (h : s_X12_findWay n σ = some (r, τ)) : zM l G 1 yX12_findWay (.code yX12_findWay cX12_findWay 4 (some (.boolean))) [.ref (zad G 71)] σ (some (.int r)) τ := by
  refine zM_of (by decide) (Nat.le_of_ble_eq_true rfl) (fun x O E => ?_)
  have O : zO G x cX12_findWay RX12 1 40 4 := O
  unfold s_X12_findWay at h
  show V G x σ [(0, .ref (zad G 71))] 0 []
  refine V_iconst 0 O dX12_findWay_0 ci_0 ?_
  refine V_istoren 1 [1, 0] [(0, .ref (zad G 71)), (1, .int (0 : Int32))] O dX12_findWay_1 rfl (Nat.le_of_ble_eq_true rfl) rfl ?_
  exact V_sub [0, 1] rfl (bl_X12_findWay_2 O E n  n (0 : Int32) σ  h)
-- ==== WaterTownModel.ask(II)I
def s_X12_ask_85b (n : Nat) (rc17 : Int32 → Int32 → Int32 → Sg → Option (Int32 × Sg)) (rc85 : Int32 → Int32 → Int32 → Int32 → Int32 → Sg → Option (Int32 × Sg)) (x1 : Int32) (x2 : Int32) (x3 : Int32) (x4 : Int32) (x5 : Int32) (σ : Sg) : Option (Int32 × Sg) := if x5 = (10 : Int32) then (lt (x3 + x4) fun v15 => rc17 x1 x2 v15 σ) else (ck x5 12 (bd (s_X12_cell n (σ 102 (ix x5)) x5 σ) fun r17 σ16 => ck r17 144 (ck r17 144 (lt (up2 σ16 101 (ix r17) ((σ16 101 (ix r17)) - x4)) fun σ18 => ck x5 12 (bd (s_X12_cell n x5 (σ18 102 (ix x5)) σ18) fun r20 σ19 => ck r20 144 (ck r20 144 (lt (up2 σ19 101 (ix r20) ((σ19 101 (ix r20)) + x4)) fun σ21 => ck x5 12 (lt (σ21 102 (ix x5)) fun v22 => rc85 x1 x2 x3 x4 v22 σ21))))))))
def s_X12_ask_85 (n : Nat) (rc17 : Int32 → Int32 → Int32 → Sg → Option (Int32 × Sg)) : Nat → Int32 → Int32 → Int32 → Int32 → Int32 → Sg → Option (Int32 × Sg)
  | 0 => fun _ _ _ _ _ _ => none
  | k + 1 => s_X12_ask_85b n rc17 (s_X12_ask_85 n rc17 k)
def s_X12_ask_38b (n : Nat) (rc17 : Int32 → Int32 → Int32 → Sg → Option (Int32 × Sg)) (rc38 : Int32 → Int32 → Int32 → Int32 → Int32 → Sg → Option (Int32 × Sg)) (x1 : Int32) (x2 : Int32) (x3 : Int32) (x4 : Int32) (x5 : Int32) (σ : Sg) : Option (Int32 × Sg) := if x5 = (10 : Int32) then (s_X12_ask_85 n rc17 n x1 x2 x3 x4 (11 : Int32) σ) else (ck x5 12 (bd (s_X12_cell n (σ 102 (ix x5)) x5 σ) fun r11 σ10 => ck r11 144 (bd (s_X12_least n x4 (σ10 101 (ix r11)) σ10) fun r13 σ12 => ck x5 12 (lt (σ12 102 (ix x5)) fun v14 => rc38 x1 x2 x3 r13 v14 σ12))))
def s_X12_ask_38 (n : Nat) (rc17 : Int32 → Int32 → Int32 → Sg → Option (Int32 × Sg)) : Nat → Int32 → Int32 → Int32 → Int32 → Int32 → Sg → Option (Int32 × Sg)
  | 0 => fun _ _ _ _ _ _ => none
  | k + 1 => s_X12_ask_38b n rc17 (s_X12_ask_38 n rc17 k)
def s_X12_ask_156 (n : Nat) (x1 : Int32) (x2 : Int32) (x3 : Int32) (σ : Sg) : Option (Int32 × Sg) := bd (s_X12_cell n x1 (11 : Int32) σ) fun r8 σ7 => ck r8 144 (ck r8 144 (lt (up2 σ7 101 (ix r8) ((σ7 101 (ix r8)) - (x2 - x3))) fun σ9 => some (x3, σ9)))
def s_X12_ask_17b (n : Nat) (rc17 : Int32 → Int32 → Int32 → Sg → Option (Int32 × Sg)) (x1 : Int32) (x2 : Int32) (x3 : Int32) (σ : Sg) : Option (Int32 × Sg) := if x2 ≤ x3 then (s_X12_ask_156 n x1 x2 x3 σ) else (bd (s_X12_findWay n σ) fun r5 σ4 => if r5 = 0 then (s_X12_ask_156 n x1 x2 x3 σ4) else (lt (x2 - x3) fun v6 => s_X12_ask_38 n rc17 n x1 x2 x3 v6 (11 : Int32) σ4))
def s_X12_ask_17 (n : Nat) : Nat → Int32 → Int32 → Int32 → Sg → Option (Int32 × Sg)
  | 0 => fun _ _ _ _ => none
  | k + 1 => s_X12_ask_17b n (s_X12_ask_17 n k)
def s_X12_ask (n : Nat) (x1 : Int32) (x2 : Int32) (σ : Sg) : Option (Int32 × Sg) := bd (s_X12_cell n x1 (11 : Int32) σ) fun r2 σ1 => ck r2 144 (ck r2 144 (lt (up2 σ1 101 (ix r2) ((σ1 101 (ix r2)) + x2)) fun σ3 => s_X12_ask_17 n n x1 x2 (0 : Int32) σ3))
set_option maxRecDepth 20000 in
theorem b_X12_ask_85 {G : zG} {x : zX} {r : Int32} {τ : Sg} (O : zO G x cX12_ask RX12 2 80 6) (E : zE G x (some (.int)) (some (.int r)) τ) (n : Nat) (rc17 : Int32 → Int32 → Int32 → Sg → Option (Int32 × Sg)) (H17 : ∀ (x1 : Int32) (x2 : Int32) (x3 : Int32) (σ : Sg), rc17 x1 x2 x3 σ = some (r, τ) → V G x σ [(0, .ref (zad G 71)), (1, .int x1), (2, .int x2), (3, .int x3)] 17 []) (rc85 : Int32 → Int32 → Int32 → Int32 → Int32 → Sg → Option (Int32 × Sg)) (H85 : ∀ (x1 : Int32) (x2 : Int32) (x3 : Int32) (x4 : Int32) (x5 : Int32) (σ : Sg), rc85 x1 x2 x3 x4 x5 σ = some (r, τ) → V G x σ [(0, .ref (zad G 71)), (1, .int x1), (2, .int x2), (3, .int x3), (4, .int x4), (5, .int x5)] 85 []) (x1 : Int32) (x2 : Int32) (x3 : Int32) (x4 : Int32) (x5 : Int32) (σ : Sg) (h : s_X12_ask_85b n rc17 rc85 x1 x2 x3 x4 x5 σ = some (r, τ)) : V G x σ [(0, .ref (zad G 71)), (1, .int x1), (2, .int x2), (3, .int x3), (4, .int x4), (5, .int x5)] 85 [] := by
  unfold s_X12_ask_85b at h
  refine V_iload 85 5 O dX12_ask_85 rfl ?_
  refine V_bipush 87 O dX12_ask_87 cb_10 ?_
  refine V_icmp_eq 89 148 O dX12_ask_89 rfl h (fun h => ?_) (fun h => ?_)
  · refine V_iloadn 148 3 O dX12_ask_148 rfl rfl ?_
    refine V_iload 149 4 O dX12_ask_149 rfl ?_
    refine V_iadd 151 O dX12_ask_151 ?_
    refine V_topi h (fun v15 h => ?_)
    refine V_istoren 152 [1, 2, 3, 0, 4, 5] [(0, .ref (zad G 71)), (1, .int x1), (2, .int x2), (3, .int v15), (4, .int x4), (5, .int x5)] O dX12_ask_152 rfl (Nat.le_of_ble_eq_true rfl) rfl ?_
    refine V_goto 153 17 O dX12_ask_153 rfl ?_
    exact V_sub [0, 1, 2, 3] rfl (H17 x1 x2 v15 σ  h)
  · refine V_aloadn 92 0 O dX12_ask_92 rfl rfl ?_
    refine V_getR 93 O k71 fl_X12_102 rf71_47 dX12_ask_93 ?_
    refine V_aloadn 96 0 O dX12_ask_96 rfl rfl ?_
    refine V_getR 97 O k71 fl_X12_105 rf71_48 dX12_ask_97 ?_
    refine V_iload 100 5 O dX12_ask_100 rfl ?_
    refine V_iald 102 O k102 dX12_ask_102 h (fun h => ?_)
    refine V_iload 103 5 O dX12_ask_103 rfl ?_
    obtain ⟨r17, σ16, g, h⟩ := bd_of h
    refine V_callSi 105 [.int (σ 102 (ix x5)), .int x5] [.ref (zad G 101)] O mf_X12_cell lk_X12_289 dX12_ask_105 rfl rfl (Nat.le_of_ble_eq_true rfl) ⟨(Nat.le_of_ble_eq_true rfl), (Nat.le_of_ble_eq_true rfl)⟩ (fun l => C_X12_cell  g) ?_
    refine V_dup2 108 O dX12_ask_108 rfl rfl ?_
    refine V_iald 109 O k101 dX12_ask_109 h (fun h => ?_)
    refine V_iload 110 4 O dX12_ask_110 rfl ?_
    refine V_isub 112 O dX12_ask_112 ?_
    refine V_iast 113 O k101 dX12_ask_113 h (fun σ18 h => ?_)
    refine V_aloadn 114 0 O dX12_ask_114 rfl rfl ?_
    refine V_getR 115 O k71 fl_X12_102 rf71_47 dX12_ask_115 ?_
    refine V_iload 118 5 O dX12_ask_118 rfl ?_
    refine V_aloadn 120 0 O dX12_ask_120 rfl rfl ?_
    refine V_getR 121 O k71 fl_X12_105 rf71_48 dX12_ask_121 ?_
    refine V_iload 124 5 O dX12_ask_124 rfl ?_
    refine V_iald 126 O k102 dX12_ask_126 h (fun h => ?_)
    obtain ⟨r20, σ19, g, h⟩ := bd_of h
    refine V_callSi 127 [.int x5, .int (σ18 102 (ix x5))] [.ref (zad G 101)] O mf_X12_cell lk_X12_289 dX12_ask_127 rfl rfl (Nat.le_of_ble_eq_true rfl) ⟨(Nat.le_of_ble_eq_true rfl), (Nat.le_of_ble_eq_true rfl)⟩ (fun l => C_X12_cell  g) ?_
    refine V_dup2 130 O dX12_ask_130 rfl rfl ?_
    refine V_iald 131 O k101 dX12_ask_131 h (fun h => ?_)
    refine V_iload 132 4 O dX12_ask_132 rfl ?_
    refine V_iadd 134 O dX12_ask_134 ?_
    refine V_iast 135 O k101 dX12_ask_135 h (fun σ21 h => ?_)
    refine V_aloadn 136 0 O dX12_ask_136 rfl rfl ?_
    refine V_getR 137 O k71 fl_X12_105 rf71_48 dX12_ask_137 ?_
    refine V_iload 140 5 O dX12_ask_140 rfl ?_
    refine V_iald 142 O k102 dX12_ask_142 h (fun h => ?_)
    refine V_topi h (fun v22 h => ?_)
    refine V_istore 143 [1, 2, 3, 4, 5, 0] [(0, .ref (zad G 71)), (1, .int x1), (2, .int x2), (3, .int x3), (4, .int x4), (5, .int v22)] O dX12_ask_143 (Nat.le_of_ble_eq_true rfl) rfl ?_
    refine V_goto 145 85 O dX12_ask_145 rfl ?_
    exact V_sub [0, 1, 2, 3, 4, 5] rfl (H85 x1 x2 x3 x4 v22 σ21  h)
theorem bl_X12_ask_85 {G : zG} {x : zX} {r : Int32} {τ : Sg} (O : zO G x cX12_ask RX12 2 80 6) (E : zE G x (some (.int)) (some (.int r)) τ) (n : Nat) (rc17 : Int32 → Int32 → Int32 → Sg → Option (Int32 × Sg)) (H17 : ∀ (x1 : Int32) (x2 : Int32) (x3 : Int32) (σ : Sg), rc17 x1 x2 x3 σ = some (r, τ) → V G x σ [(0, .ref (zad G 71)), (1, .int x1), (2, .int x2), (3, .int x3)] 17 []) : ∀ (k : Nat) (x1 : Int32) (x2 : Int32) (x3 : Int32) (x4 : Int32) (x5 : Int32) (σ : Sg), s_X12_ask_85 n rc17 k x1 x2 x3 x4 x5 σ = some (r, τ) → V G x σ [(0, .ref (zad G 71)), (1, .int x1), (2, .int x2), (3, .int x3), (4, .int x4), (5, .int x5)] 85 [] := by
  intro k
  induction k with
  | zero => intro x1 x2 x3 x4 x5 σ  h; cases h
  | succ k ih => intro x1 x2 x3 x4 x5 σ  h; exact b_X12_ask_85 O E n rc17 H17 (s_X12_ask_85 n rc17 k) ih x1 x2 x3 x4 x5 σ  h
set_option maxRecDepth 20000 in
theorem b_X12_ask_38 {G : zG} {x : zX} {r : Int32} {τ : Sg} (O : zO G x cX12_ask RX12 2 80 6) (E : zE G x (some (.int)) (some (.int r)) τ) (n : Nat) (rc17 : Int32 → Int32 → Int32 → Sg → Option (Int32 × Sg)) (H17 : ∀ (x1 : Int32) (x2 : Int32) (x3 : Int32) (σ : Sg), rc17 x1 x2 x3 σ = some (r, τ) → V G x σ [(0, .ref (zad G 71)), (1, .int x1), (2, .int x2), (3, .int x3)] 17 []) (rc38 : Int32 → Int32 → Int32 → Int32 → Int32 → Sg → Option (Int32 × Sg)) (H38 : ∀ (x1 : Int32) (x2 : Int32) (x3 : Int32) (x4 : Int32) (x5 : Int32) (σ : Sg), rc38 x1 x2 x3 x4 x5 σ = some (r, τ) → V G x σ [(0, .ref (zad G 71)), (1, .int x1), (2, .int x2), (3, .int x3), (4, .int x4), (5, .int x5)] 38 []) (x1 : Int32) (x2 : Int32) (x3 : Int32) (x4 : Int32) (x5 : Int32) (σ : Sg) (h : s_X12_ask_38b n rc17 rc38 x1 x2 x3 x4 x5 σ = some (r, τ)) : V G x σ [(0, .ref (zad G 71)), (1, .int x1), (2, .int x2), (3, .int x3), (4, .int x4), (5, .int x5)] 38 [] := by
  unfold s_X12_ask_38b at h
  refine V_iload 38 5 O dX12_ask_38 rfl ?_
  refine V_bipush 40 O dX12_ask_40 cb_10 ?_
  refine V_icmp_eq 42 81 O dX12_ask_42 rfl h (fun h => ?_) (fun h => ?_)
  · refine V_bipush 81 O dX12_ask_81 cb_11 ?_
    refine V_istore 83 [1, 2, 3, 4, 5, 0] [(0, .ref (zad G 71)), (1, .int x1), (2, .int x2), (3, .int x3), (4, .int x4), (5, .int (11 : Int32))] O dX12_ask_83 (Nat.le_of_ble_eq_true rfl) rfl ?_
    exact V_sub [0, 1, 2, 3, 4, 5] rfl (bl_X12_ask_85 O E n rc17 H17 n x1 x2 x3 x4 (11 : Int32) σ  h)
  · refine V_iload 45 4 O dX12_ask_45 rfl ?_
    refine V_aloadn 47 0 O dX12_ask_47 rfl rfl ?_
    refine V_getR 48 O k71 fl_X12_102 rf71_47 dX12_ask_48 ?_
    refine V_aloadn 51 0 O dX12_ask_51 rfl rfl ?_
    refine V_getR 52 O k71 fl_X12_105 rf71_48 dX12_ask_52 ?_
    refine V_iload 55 5 O dX12_ask_55 rfl ?_
    refine V_iald 57 O k102 dX12_ask_57 h (fun h => ?_)
    refine V_iload 58 5 O dX12_ask_58 rfl ?_
    obtain ⟨r11, σ10, g, h⟩ := bd_of h
    refine V_callSi 60 [.int (σ 102 (ix x5)), .int x5] [.ref (zad G 101), .int x4] O mf_X12_cell lk_X12_289 dX12_ask_60 rfl rfl (Nat.le_of_ble_eq_true rfl) ⟨(Nat.le_of_ble_eq_true rfl), (Nat.le_of_ble_eq_true rfl)⟩ (fun l => C_X12_cell  g) ?_
    refine V_iald 63 O k101 dX12_ask_63 h (fun h => ?_)
    obtain ⟨r13, σ12, g, h⟩ := bd_of h
    refine V_callSi 64 [.int x4, .int (σ10 101 (ix r11))] [] O mf_X12_least lk_X12_299 dX12_ask_64 rfl rfl (Nat.le_of_ble_eq_true rfl) ⟨(Nat.le_of_ble_eq_true rfl), (Nat.le_of_ble_eq_true rfl)⟩ (fun l => C_X12_least  g) ?_
    refine V_istore 67 [1, 2, 3, 4, 0, 5] [(0, .ref (zad G 71)), (1, .int x1), (2, .int x2), (3, .int x3), (4, .int r13), (5, .int x5)] O dX12_ask_67 (Nat.le_of_ble_eq_true rfl) rfl ?_
    refine V_aloadn 69 0 O dX12_ask_69 rfl rfl ?_
    refine V_getR 70 O k71 fl_X12_105 rf71_48 dX12_ask_70 ?_
    refine V_iload 73 5 O dX12_ask_73 rfl ?_
    refine V_iald 75 O k102 dX12_ask_75 h (fun h => ?_)
    refine V_topi h (fun v14 h => ?_)
    refine V_istore 76 [1, 2, 3, 4, 5, 0] [(0, .ref (zad G 71)), (1, .int x1), (2, .int x2), (3, .int x3), (4, .int r13), (5, .int v14)] O dX12_ask_76 (Nat.le_of_ble_eq_true rfl) rfl ?_
    refine V_goto 78 38 O dX12_ask_78 rfl ?_
    exact V_sub [0, 1, 2, 3, 4, 5] rfl (H38 x1 x2 x3 r13 v14 σ12  h)
theorem bl_X12_ask_38 {G : zG} {x : zX} {r : Int32} {τ : Sg} (O : zO G x cX12_ask RX12 2 80 6) (E : zE G x (some (.int)) (some (.int r)) τ) (n : Nat) (rc17 : Int32 → Int32 → Int32 → Sg → Option (Int32 × Sg)) (H17 : ∀ (x1 : Int32) (x2 : Int32) (x3 : Int32) (σ : Sg), rc17 x1 x2 x3 σ = some (r, τ) → V G x σ [(0, .ref (zad G 71)), (1, .int x1), (2, .int x2), (3, .int x3)] 17 []) : ∀ (k : Nat) (x1 : Int32) (x2 : Int32) (x3 : Int32) (x4 : Int32) (x5 : Int32) (σ : Sg), s_X12_ask_38 n rc17 k x1 x2 x3 x4 x5 σ = some (r, τ) → V G x σ [(0, .ref (zad G 71)), (1, .int x1), (2, .int x2), (3, .int x3), (4, .int x4), (5, .int x5)] 38 [] := by
  intro k
  induction k with
  | zero => intro x1 x2 x3 x4 x5 σ  h; cases h
  | succ k ih => intro x1 x2 x3 x4 x5 σ  h; exact b_X12_ask_38 O E n rc17 H17 (s_X12_ask_38 n rc17 k) ih x1 x2 x3 x4 x5 σ  h
set_option maxRecDepth 20000 in
theorem b_X12_ask_156 {G : zG} {x : zX} {r : Int32} {τ : Sg} (O : zO G x cX12_ask RX12 2 80 6) (E : zE G x (some (.int)) (some (.int r)) τ) (n : Nat) (x1 : Int32) (x2 : Int32) (x3 : Int32) (σ : Sg) (h : s_X12_ask_156 n x1 x2 x3 σ = some (r, τ)) : V G x σ [(0, .ref (zad G 71)), (1, .int x1), (2, .int x2), (3, .int x3)] 156 [] := by
  unfold s_X12_ask_156 at h
  refine V_aloadn 156 0 O dX12_ask_156 rfl rfl ?_
  refine V_getR 157 O k71 fl_X12_102 rf71_47 dX12_ask_157 ?_
  refine V_iloadn 160 1 O dX12_ask_160 rfl rfl ?_
  refine V_bipush 161 O dX12_ask_161 cb_11 ?_
  obtain ⟨r8, σ7, g, h⟩ := bd_of h
  refine V_callSi 163 [.int x1, .int (11 : Int32)] [.ref (zad G 101)] O mf_X12_cell lk_X12_289 dX12_ask_163 rfl rfl (Nat.le_of_ble_eq_true rfl) ⟨(Nat.le_of_ble_eq_true rfl), (Nat.le_of_ble_eq_true rfl)⟩ (fun l => C_X12_cell  g) ?_
  refine V_dup2 166 O dX12_ask_166 rfl rfl ?_
  refine V_iald 167 O k101 dX12_ask_167 h (fun h => ?_)
  refine V_iloadn 168 2 O dX12_ask_168 rfl rfl ?_
  refine V_iloadn 169 3 O dX12_ask_169 rfl rfl ?_
  refine V_isub 170 O dX12_ask_170 ?_
  refine V_isub 171 O dX12_ask_171 ?_
  refine V_iast 172 O k101 dX12_ask_172 h (fun σ9 h => ?_)
  refine V_iloadn 173 3 O dX12_ask_173 rfl rfl ?_
  exact V_iret 174 O E dX12_ask_174 h
set_option maxRecDepth 20000 in
theorem b_X12_ask_17 {G : zG} {x : zX} {r : Int32} {τ : Sg} (O : zO G x cX12_ask RX12 2 80 6) (E : zE G x (some (.int)) (some (.int r)) τ) (n : Nat) (rc17 : Int32 → Int32 → Int32 → Sg → Option (Int32 × Sg)) (H17 : ∀ (x1 : Int32) (x2 : Int32) (x3 : Int32) (σ : Sg), rc17 x1 x2 x3 σ = some (r, τ) → V G x σ [(0, .ref (zad G 71)), (1, .int x1), (2, .int x2), (3, .int x3)] 17 []) (x1 : Int32) (x2 : Int32) (x3 : Int32) (σ : Sg) (h : s_X12_ask_17b n rc17 x1 x2 x3 σ = some (r, τ)) : V G x σ [(0, .ref (zad G 71)), (1, .int x1), (2, .int x2), (3, .int x3)] 17 [] := by
  unfold s_X12_ask_17b at h
  refine V_iloadn 17 3 O dX12_ask_17 rfl rfl ?_
  refine V_iloadn 18 2 O dX12_ask_18 rfl rfl ?_
  refine V_icmp_ge 19 156 O dX12_ask_19 rfl h (fun h => ?_) (fun h => ?_)
  · exact V_sub [0, 1, 2, 3] rfl (b_X12_ask_156 O E n  x1 x2 x3 σ  h)
  · refine V_aloadn 22 0 O dX12_ask_22 rfl rfl ?_
    obtain ⟨r5, σ4, g, h⟩ := bd_of h
    refine V_callVi 23 [] [] O mf_X12_findWay lk_X12_295 k71 dX12_ask_23 rfl rfl (Nat.le_of_ble_eq_true rfl) ⟨(Nat.le_of_ble_eq_true rfl), (Nat.le_of_ble_eq_true rfl)⟩ (fun l => C_X12_findWay  g) ?_
    refine V_if_eq 26 156 O dX12_ask_26 rfl h (fun h => ?_) (fun h => ?_)
    · exact V_sub [0, 1, 2, 3] rfl (b_X12_ask_156 O E n  x1 x2 x3 σ4  h)
    · refine V_iloadn 29 2 O dX12_ask_29 rfl rfl ?_
      refine V_iloadn 30 3 O dX12_ask_30 rfl rfl ?_
      refine V_isub 31 O dX12_ask_31 ?_
      refine V_topi h (fun v6 h => ?_)
      refine V_istore 32 [1, 2, 3, 4, 0] [(0, .ref (zad G 71)), (1, .int x1), (2, .int x2), (3, .int x3), (4, .int v6)] O dX12_ask_32 (Nat.le_of_ble_eq_true rfl) rfl ?_
      refine V_bipush 34 O dX12_ask_34 cb_11 ?_
      refine V_istore 36 [1, 2, 3, 4, 5, 0] [(0, .ref (zad G 71)), (1, .int x1), (2, .int x2), (3, .int x3), (4, .int v6), (5, .int (11 : Int32))] O dX12_ask_36 (Nat.le_of_ble_eq_true rfl) rfl ?_
      exact V_sub [0, 1, 2, 3, 4, 5] rfl (bl_X12_ask_38 O E n rc17 H17 n x1 x2 x3 v6 (11 : Int32) σ4  h)
theorem bl_X12_ask_17 {G : zG} {x : zX} {r : Int32} {τ : Sg} (O : zO G x cX12_ask RX12 2 80 6) (E : zE G x (some (.int)) (some (.int r)) τ) (n : Nat) : ∀ (k : Nat) (x1 : Int32) (x2 : Int32) (x3 : Int32) (σ : Sg), s_X12_ask_17 n k x1 x2 x3 σ = some (r, τ) → V G x σ [(0, .ref (zad G 71)), (1, .int x1), (2, .int x2), (3, .int x3)] 17 [] := by
  intro k
  induction k with
  | zero => intro x1 x2 x3 σ  h; cases h
  | succ k ih => intro x1 x2 x3 σ  h; exact b_X12_ask_17 O E n  (s_X12_ask_17 n  k) ih x1 x2 x3 σ  h
set_option maxRecDepth 20000 in
theorem C_X12_ask {l : Launch} {G : zG} {n : Nat} {x1 : Int32} {x2 : Int32} {σ : Sg} {r : Int32} {τ : Sg} (h : s_X12_ask n x1 x2 σ = some (r, τ)) : zM l G 2 yX12_ask (.code yX12_ask cX12_ask 6 (some (.int))) [.ref (zad G 71), .int x1, .int x2] σ (some (.int r)) τ := by
  refine zM_of (by decide) (Nat.le_of_ble_eq_true rfl) (fun x O E => ?_)
  have O : zO G x cX12_ask RX12 2 80 6 := O
  unfold s_X12_ask at h
  show V G x σ [(0, .ref (zad G 71)), (1, .int x1), (2, .int x2)] 0 []
  refine V_aloadn 0 0 O dX12_ask_0 rfl rfl ?_
  refine V_getR 1 O k71 fl_X12_102 rf71_47 dX12_ask_1 ?_
  refine V_iloadn 4 1 O dX12_ask_4 rfl rfl ?_
  refine V_bipush 5 O dX12_ask_5 cb_11 ?_
  obtain ⟨r2, σ1, g, h⟩ := bd_of h
  refine V_callSi 7 [.int x1, .int (11 : Int32)] [.ref (zad G 101)] O mf_X12_cell lk_X12_289 dX12_ask_7 rfl rfl (Nat.le_of_ble_eq_true rfl) ⟨(Nat.le_of_ble_eq_true rfl), (Nat.le_of_ble_eq_true rfl)⟩ (fun l => C_X12_cell  g) ?_
  refine V_dup2 10 O dX12_ask_10 rfl rfl ?_
  refine V_iald 11 O k101 dX12_ask_11 h (fun h => ?_)
  refine V_iloadn 12 2 O dX12_ask_12 rfl rfl ?_
  refine V_iadd 13 O dX12_ask_13 ?_
  refine V_iast 14 O k101 dX12_ask_14 h (fun σ3 h => ?_)
  refine V_iconst 15 O dX12_ask_15 ci_0 ?_
  refine V_istoren 16 [1, 2, 3, 0] [(0, .ref (zad G 71)), (1, .int x1), (2, .int x2), (3, .int (0 : Int32))] O dX12_ask_16 rfl (Nat.le_of_ble_eq_true rfl) rfl ?_
  exact V_sub [0, 1, 2, 3] rfl (bl_X12_ask_17 O E n  n x1 x2 (0 : Int32) σ3  h)
-- ==== WaterTownModel.isWaterOn(II)Z
def s_X12_isWaterOn (n : Nat) (x1 : Int32) (x2 : Int32) (σ : Sg) : Option (Int32 × Sg) := ck x1 10 (if (σ 86 (ix x1)) = 0 then (bd (s_X12_in n x2.toInt64 ((σ 71 43).toInt64) ((σ 71 44).toInt64) σ) fun r2 σ1 => if r2 = 0 then (some ((0 : Int32), σ1)) else (some ((1 : Int32), σ1))) else (some ((1 : Int32), σ)))
set_option maxRecDepth 20000 in
theorem C_X12_isWaterOn {l : Launch} {G : zG} {n : Nat} {x1 : Int32} {x2 : Int32} {σ : Sg} {r : Int32} {τ : Sg} (h : s_X12_isWaterOn n x1 x2 σ = some (r, τ)) : zM l G 1 yX12_isWaterOn (.code yX12_isWaterOn cX12_isWaterOn 3 (some (.boolean))) [.ref (zad G 71), .int x1, .int x2] σ (some (.int r)) τ := by
  refine zM_of (by decide) (Nat.le_of_ble_eq_true rfl) (fun x O E => ?_)
  have O : zO G x cX12_isWaterOn RX12 1 40 3 := O
  unfold s_X12_isWaterOn at h
  show V G x σ [(0, .ref (zad G 71)), (1, .int x1), (2, .int x2)] 0 []
  refine V_aloadn 0 0 O dX12_isWaterOn_0 rfl rfl ?_
  refine V_getR 1 O k71 fl_X12_53 rf71_17 dX12_isWaterOn_1 ?_
  refine V_iloadn 4 1 O dX12_isWaterOn_4 rfl rfl ?_
  refine V_zald 5 O k86 dX12_isWaterOn_5 h (fun h => ?_)
  refine V_if_ne 6 27 O dX12_isWaterOn_6 rfl h (fun h => ?_) (fun h => ?_)
  · refine V_iconst 27 O dX12_isWaterOn_27 ci_1 ?_
    refine V_goto 28 32 O dX12_isWaterOn_28 rfl ?_
    exact V_zret1 32 O E dX12_isWaterOn_32 h
  · refine V_iloadn 9 2 O dX12_isWaterOn_9 rfl rfl ?_
    refine V_i2l 10 O dX12_isWaterOn_10 ?_
    refine V_aloadn 11 0 O dX12_isWaterOn_11 rfl rfl ?_
    refine V_getI 12 O k71 fl_X12_271 dX12_isWaterOn_12 ?_
    refine V_i2l 15 O dX12_isWaterOn_15 ?_
    refine V_aloadn 16 0 O dX12_isWaterOn_16 rfl rfl ?_
    refine V_getI 17 O k71 fl_X12_274 dX12_isWaterOn_17 ?_
    refine V_i2l 20 O dX12_isWaterOn_20 ?_
    obtain ⟨r2, σ1, g, h⟩ := bd_of h
    refine V_callSi 21 [.long x2.toInt64, .long ((σ 71 43).toInt64), .long ((σ 71 44).toInt64)] [] O mf_X12_in lk_X12_162 dX12_isWaterOn_21 rfl rfl (Nat.le_of_ble_eq_true rfl) ⟨(Nat.le_of_ble_eq_true rfl), (Nat.le_of_ble_eq_true rfl)⟩ (fun l => C_X12_in  g) ?_
    refine V_if_eq 24 31 O dX12_isWaterOn_24 rfl h (fun h => ?_) (fun h => ?_)
    · refine V_iconst 31 O dX12_isWaterOn_31 ci_0 ?_
      exact V_zret0 32 O E dX12_isWaterOn_32 h
    · refine V_iconst 27 O dX12_isWaterOn_27 ci_1 ?_
      refine V_goto 28 32 O dX12_isWaterOn_28 rfl ?_
      exact V_zret1 32 O E dX12_isWaterOn_32 h
-- ==== WaterTownModel.findFar()V
def s_X12_findFar_169 (n : Nat) (rc31 : Int32 → Sg → Option Sg) (rc39 : Int32 → Int32 → Sg → Option Sg) (x1 : Int32) (x2 : Int32) (y0 : Int32) (y1 : Int32) (σ : Sg) : Option Sg := ck y1 10 (lt (up2 σ 106 (ix y1) y0) fun σ6 => rc39 x1 (x2 + (1 : Int32)) σ6)
def s_X12_findFar_158 (n : Nat) (rc31 : Int32 → Sg → Option Sg) (rc39 : Int32 → Int32 → Sg → Option Sg) (x1 : Int32) (x2 : Int32) (y0 : Int32) (σ : Sg) : Option Sg := ck x2 20 (ck (σ 73 (ix x2)) 10 (s_X12_findFar_169 n rc31 rc39 x1 x2 (σ 106 (ix (σ 73 (ix x2)))) y0 σ))
def s_X12_findFar_112 (n : Nat) (rc31 : Int32 → Sg → Option Sg) (rc39 : Int32 → Int32 → Sg → Option Sg) (x1 : Int32) (x2 : Int32) (y0 : Int32) (y1 : Int32) (σ : Sg) : Option Sg := ck y1 10 (lt (up2 σ 106 (ix y1) y0) fun σ5 => ck x2 20 (ck x2 20 (ck (σ5 74 (ix x2)) 10 (if (σ5 106 (ix (σ5 74 (ix x2)))) = x1 then (ck x2 20 (ck (σ5 73 (ix x2)) 10 (if 0 ≤ (σ5 106 (ix (σ5 73 (ix x2)))) then (s_X12_findFar_158 n rc31 rc39 x1 x2 (σ5 73 (ix x2)) σ5) else (s_X12_findFar_169 n rc31 rc39 x1 x2 (x1 + (1 : Int32)) (σ5 73 (ix x2)) σ5)))) else (s_X12_findFar_158 n rc31 rc39 x1 x2 (σ5 73 (ix x2)) σ5)))))
def s_X12_findFar_101 (n : Nat) (rc31 : Int32 → Sg → Option Sg) (rc39 : Int32 → Int32 → Sg → Option Sg) (x1 : Int32) (x2 : Int32) (y0 : Int32) (σ : Sg) : Option Sg := ck x2 20 (ck (σ 74 (ix x2)) 10 (s_X12_findFar_112 n rc31 rc39 x1 x2 (σ 106 (ix (σ 74 (ix x2)))) y0 σ))
def s_X12_findFar_39b (n : Nat) (rc31 : Int32 → Sg → Option Sg) (rc39 : Int32 → Int32 → Sg → Option Sg) (x1 : Int32) (x2 : Int32) (σ : Sg) : Option Sg := if (σ 71 2) ≤ x2 then (rc31 (x1 + (1 : Int32)) σ) else (ck x2 20 (if (σ 79 (ix x2)) = 0 then (ck x2 20 (ck x2 20 (ck (σ 73 (ix x2)) 10 (if (σ 106 (ix (σ 73 (ix x2)))) = x1 then (ck x2 20 (ck (σ 74 (ix x2)) 10 (if 0 ≤ (σ 106 (ix (σ 74 (ix x2)))) then (s_X12_findFar_101 n rc31 rc39 x1 x2 (σ 74 (ix x2)) σ) else (s_X12_findFar_112 n rc31 rc39 x1 x2 (x1 + (1 : Int32)) (σ 74 (ix x2)) σ)))) else (s_X12_findFar_101 n rc31 rc39 x1 x2 (σ 74 (ix x2)) σ))))) else (rc39 x1 (x2 + (1 : Int32)) σ)))
def s_X12_findFar_39 (n : Nat) (rc31 : Int32 → Sg → Option Sg) : Nat → Int32 → Int32 → Sg → Option Sg
  | 0 => fun _ _ _ => none
  | k + 1 => s_X12_findFar_39b n rc31 (s_X12_findFar_39 n rc31 k)
def s_X12_findFar_31b (n : Nat) (rc31 : Int32 → Sg → Option Sg) (x1 : Int32) (σ : Sg) : Option Sg := if (10 : Int32) ≤ x1 then (some σ) else (s_X12_findFar_39 n rc31 n x1 (0 : Int32) σ)
def s_X12_findFar_31 (n : Nat) : Nat → Int32 → Sg → Option Sg
  | 0 => fun _ _ => none
  | k + 1 => s_X12_findFar_31b n (s_X12_findFar_31 n k)
def s_X12_findFar_2b (n : Nat) (rc2 : Int32 → Sg → Option Sg) (x1 : Int32) (σ : Sg) : Option Sg := if (10 : Int32) ≤ x1 then (s_X12_findFar_31 n n (0 : Int32) σ) else (lt (if x1 = 0 then (0 : Int32) else (-1 : Int32)) fun v3 => ck x1 10 (lt (up2 σ 106 (ix x1) v3) fun σ4 => rc2 (x1 + (1 : Int32)) σ4))
def s_X12_findFar_2 (n : Nat) : Nat → Int32 → Sg → Option Sg
  | 0 => fun _ _ => none
  | k + 1 => s_X12_findFar_2b n (s_X12_findFar_2 n k)
def s_X12_findFar (n : Nat) (σ : Sg) : Option Sg := s_X12_findFar_2 n n (0 : Int32) σ
set_option maxRecDepth 20000 in
theorem b_X12_findFar_169 {G : zG} {x : zX} {τ : Sg} (O : zO G x cX12_findFar RX12 0 0 3) (E : zE G x none none τ) (n : Nat) (rc31 : Int32 → Sg → Option Sg) (H31 : ∀ (x1 : Int32) (σ : Sg), rc31 x1 σ = some τ → V G x σ [(0, .ref (zad G 71)), (1, .int x1)] 31 []) (rc39 : Int32 → Int32 → Sg → Option Sg) (H39 : ∀ (x1 : Int32) (x2 : Int32) (σ : Sg), rc39 x1 x2 σ = some τ → V G x σ [(0, .ref (zad G 71)), (1, .int x1), (2, .int x2)] 39 []) (x1 : Int32) (x2 : Int32) (y0 : Int32) (y1 : Int32) (σ : Sg) (h : s_X12_findFar_169 n rc31 rc39 x1 x2 y0 y1 σ = some τ) : V G x σ [(0, .ref (zad G 71)), (1, .int x1), (2, .int x2)] 169 [.int y0, .int y1, .ref (zad G 106)] := by
  unfold s_X12_findFar_169 at h
  refine V_iast 169 O k106 dX12_findFar_169 h (fun σ6 h => ?_)
  refine V_iinc 170 2 [1, 2, 0] [(0, .ref (zad G 71)), (1, .int x1), (2, .int (x2 + (1 : Int32)))] O dX12_findFar_170 rfl ci_1 (Nat.le_of_ble_eq_true rfl) rfl ?_
  refine V_goto 173 39 O dX12_findFar_173 rfl ?_
  exact V_sub [0, 1, 2] rfl (H39 x1 (x2 + (1 : Int32)) σ6  h)
set_option maxRecDepth 20000 in
theorem b_X12_findFar_158 {G : zG} {x : zX} {τ : Sg} (O : zO G x cX12_findFar RX12 0 0 3) (E : zE G x none none τ) (n : Nat) (rc31 : Int32 → Sg → Option Sg) (H31 : ∀ (x1 : Int32) (σ : Sg), rc31 x1 σ = some τ → V G x σ [(0, .ref (zad G 71)), (1, .int x1)] 31 []) (rc39 : Int32 → Int32 → Sg → Option Sg) (H39 : ∀ (x1 : Int32) (x2 : Int32) (σ : Sg), rc39 x1 x2 σ = some τ → V G x σ [(0, .ref (zad G 71)), (1, .int x1), (2, .int x2)] 39 []) (x1 : Int32) (x2 : Int32) (y0 : Int32) (σ : Sg) (h : s_X12_findFar_158 n rc31 rc39 x1 x2 y0 σ = some τ) : V G x σ [(0, .ref (zad G 71)), (1, .int x1), (2, .int x2)] 158 [.int y0, .ref (zad G 106)] := by
  unfold s_X12_findFar_158 at h
  refine V_aloadn 158 0 O dX12_findFar_158 rfl rfl ?_
  refine V_getR 159 O k71 fl_X12_120 rf71_54 dX12_findFar_159 ?_
  refine V_aloadn 162 0 O dX12_findFar_162 rfl rfl ?_
  refine V_getR 163 O k71 fl_X12_13 rf71_3 dX12_findFar_163 ?_
  refine V_iloadn 166 2 O dX12_findFar_166 rfl rfl ?_
  refine V_iald 167 O k73 dX12_findFar_167 h (fun h => ?_)
  refine V_iald 168 O k106 dX12_findFar_168 h (fun h => ?_)
  exact V_sub [0, 1, 2] rfl (b_X12_findFar_169 O E n rc31 H31 rc39 H39 x1 x2 (σ 106 (ix (σ 73 (ix x2)))) y0 σ  h)
set_option maxRecDepth 20000 in
theorem b_X12_findFar_112 {G : zG} {x : zX} {τ : Sg} (O : zO G x cX12_findFar RX12 0 0 3) (E : zE G x none none τ) (n : Nat) (rc31 : Int32 → Sg → Option Sg) (H31 : ∀ (x1 : Int32) (σ : Sg), rc31 x1 σ = some τ → V G x σ [(0, .ref (zad G 71)), (1, .int x1)] 31 []) (rc39 : Int32 → Int32 → Sg → Option Sg) (H39 : ∀ (x1 : Int32) (x2 : Int32) (σ : Sg), rc39 x1 x2 σ = some τ → V G x σ [(0, .ref (zad G 71)), (1, .int x1), (2, .int x2)] 39 []) (x1 : Int32) (x2 : Int32) (y0 : Int32) (y1 : Int32) (σ : Sg) (h : s_X12_findFar_112 n rc31 rc39 x1 x2 y0 y1 σ = some τ) : V G x σ [(0, .ref (zad G 71)), (1, .int x1), (2, .int x2)] 112 [.int y0, .int y1, .ref (zad G 106)] := by
  unfold s_X12_findFar_112 at h
  refine V_iast 112 O k106 dX12_findFar_112 h (fun σ5 h => ?_)
  refine V_aloadn 113 0 O dX12_findFar_113 rfl rfl ?_
  refine V_getR 114 O k71 fl_X12_120 rf71_54 dX12_findFar_114 ?_
  refine V_aloadn 117 0 O dX12_findFar_117 rfl rfl ?_
  refine V_getR 118 O k71 fl_X12_13 rf71_3 dX12_findFar_118 ?_
  refine V_iloadn 121 2 O dX12_findFar_121 rfl rfl ?_
  refine V_iald 122 O k73 dX12_findFar_122 h (fun h => ?_)
  refine V_aloadn 123 0 O dX12_findFar_123 rfl rfl ?_
  refine V_getR 124 O k71 fl_X12_120 rf71_54 dX12_findFar_124 ?_
  refine V_aloadn 127 0 O dX12_findFar_127 rfl rfl ?_
  refine V_getR 128 O k71 fl_X12_16 rf71_4 dX12_findFar_128 ?_
  refine V_iloadn 131 2 O dX12_findFar_131 rfl rfl ?_
  refine V_iald 132 O k74 dX12_findFar_132 h (fun h => ?_)
  refine V_iald 133 O k106 dX12_findFar_133 h (fun h => ?_)
  refine V_iloadn 134 1 O dX12_findFar_134 rfl rfl ?_
  refine V_icmp_ne 135 158 O dX12_findFar_135 rfl h (fun h => ?_) (fun h => ?_)
  · exact V_sub [0, 1, 2] rfl (b_X12_findFar_158 O E n rc31 H31 rc39 H39 x1 x2 (σ5 73 (ix x2)) σ5  h)
  · refine V_aloadn 138 0 O dX12_findFar_138 rfl rfl ?_
    refine V_getR 139 O k71 fl_X12_120 rf71_54 dX12_findFar_139 ?_
    refine V_aloadn 142 0 O dX12_findFar_142 rfl rfl ?_
    refine V_getR 143 O k71 fl_X12_13 rf71_3 dX12_findFar_143 ?_
    refine V_iloadn 146 2 O dX12_findFar_146 rfl rfl ?_
    refine V_iald 147 O k73 dX12_findFar_147 h (fun h => ?_)
    refine V_iald 148 O k106 dX12_findFar_148 h (fun h => ?_)
    refine V_if_ge 149 158 O dX12_findFar_149 rfl h (fun h => ?_) (fun h => ?_)
    · exact V_sub [0, 1, 2] rfl (b_X12_findFar_158 O E n rc31 H31 rc39 H39 x1 x2 (σ5 73 (ix x2)) σ5  h)
    · refine V_iloadn 152 1 O dX12_findFar_152 rfl rfl ?_
      refine V_iconst 153 O dX12_findFar_153 ci_1 ?_
      refine V_iadd 154 O dX12_findFar_154 ?_
      refine V_goto 155 169 O dX12_findFar_155 rfl ?_
      exact V_sub [0, 1, 2] rfl (b_X12_findFar_169 O E n rc31 H31 rc39 H39 x1 x2 (x1 + (1 : Int32)) (σ5 73 (ix x2)) σ5  h)
set_option maxRecDepth 20000 in
theorem b_X12_findFar_101 {G : zG} {x : zX} {τ : Sg} (O : zO G x cX12_findFar RX12 0 0 3) (E : zE G x none none τ) (n : Nat) (rc31 : Int32 → Sg → Option Sg) (H31 : ∀ (x1 : Int32) (σ : Sg), rc31 x1 σ = some τ → V G x σ [(0, .ref (zad G 71)), (1, .int x1)] 31 []) (rc39 : Int32 → Int32 → Sg → Option Sg) (H39 : ∀ (x1 : Int32) (x2 : Int32) (σ : Sg), rc39 x1 x2 σ = some τ → V G x σ [(0, .ref (zad G 71)), (1, .int x1), (2, .int x2)] 39 []) (x1 : Int32) (x2 : Int32) (y0 : Int32) (σ : Sg) (h : s_X12_findFar_101 n rc31 rc39 x1 x2 y0 σ = some τ) : V G x σ [(0, .ref (zad G 71)), (1, .int x1), (2, .int x2)] 101 [.int y0, .ref (zad G 106)] := by
  unfold s_X12_findFar_101 at h
  refine V_aloadn 101 0 O dX12_findFar_101 rfl rfl ?_
  refine V_getR 102 O k71 fl_X12_120 rf71_54 dX12_findFar_102 ?_
  refine V_aloadn 105 0 O dX12_findFar_105 rfl rfl ?_
  refine V_getR 106 O k71 fl_X12_16 rf71_4 dX12_findFar_106 ?_
  refine V_iloadn 109 2 O dX12_findFar_109 rfl rfl ?_
  refine V_iald 110 O k74 dX12_findFar_110 h (fun h => ?_)
  refine V_iald 111 O k106 dX12_findFar_111 h (fun h => ?_)
  exact V_sub [0, 1, 2] rfl (b_X12_findFar_112 O E n rc31 H31 rc39 H39 x1 x2 (σ 106 (ix (σ 74 (ix x2)))) y0 σ  h)
set_option maxRecDepth 20000 in
theorem b_X12_findFar_39 {G : zG} {x : zX} {τ : Sg} (O : zO G x cX12_findFar RX12 0 0 3) (E : zE G x none none τ) (n : Nat) (rc31 : Int32 → Sg → Option Sg) (H31 : ∀ (x1 : Int32) (σ : Sg), rc31 x1 σ = some τ → V G x σ [(0, .ref (zad G 71)), (1, .int x1)] 31 []) (rc39 : Int32 → Int32 → Sg → Option Sg) (H39 : ∀ (x1 : Int32) (x2 : Int32) (σ : Sg), rc39 x1 x2 σ = some τ → V G x σ [(0, .ref (zad G 71)), (1, .int x1), (2, .int x2)] 39 []) (x1 : Int32) (x2 : Int32) (σ : Sg) (h : s_X12_findFar_39b n rc31 rc39 x1 x2 σ = some τ) : V G x σ [(0, .ref (zad G 71)), (1, .int x1), (2, .int x2)] 39 [] := by
  unfold s_X12_findFar_39b at h
  refine V_iloadn 39 2 O dX12_findFar_39 rfl rfl ?_
  refine V_aloadn 40 0 O dX12_findFar_40 rfl rfl ?_
  refine V_getI 41 O k71 fl_X12_168 dX12_findFar_41 ?_
  refine V_icmp_ge 44 176 O dX12_findFar_44 rfl h (fun h => ?_) (fun h => ?_)
  · refine V_iinc 176 1 [1, 0, 2] [(0, .ref (zad G 71)), (1, .int (x1 + (1 : Int32))), (2, .int x2)] O dX12_findFar_176 rfl ci_1 (Nat.le_of_ble_eq_true rfl) rfl ?_
    refine V_goto 179 31 O dX12_findFar_179 rfl ?_
    exact V_sub [0, 1] rfl (H31 (x1 + (1 : Int32)) σ  h)
  · refine V_aloadn 47 0 O dX12_findFar_47 rfl rfl ?_
    refine V_getR 48 O k71 fl_X12_31 rf71_9 dX12_findFar_48 ?_
    refine V_iloadn 51 2 O dX12_findFar_51 rfl rfl ?_
    refine V_zald 52 O k79 dX12_findFar_52 h (fun h => ?_)
    refine V_if_ne 53 170 O dX12_findFar_53 rfl h (fun h => ?_) (fun h => ?_)
    · refine V_iinc 170 2 [1, 2, 0] [(0, .ref (zad G 71)), (1, .int x1), (2, .int (x2 + (1 : Int32)))] O dX12_findFar_170 rfl ci_1 (Nat.le_of_ble_eq_true rfl) rfl ?_
      refine V_goto 173 39 O dX12_findFar_173 rfl ?_
      exact V_sub [0, 1, 2] rfl (H39 x1 (x2 + (1 : Int32)) σ  h)
    · refine V_aloadn 56 0 O dX12_findFar_56 rfl rfl ?_
      refine V_getR 57 O k71 fl_X12_120 rf71_54 dX12_findFar_57 ?_
      refine V_aloadn 60 0 O dX12_findFar_60 rfl rfl ?_
      refine V_getR 61 O k71 fl_X12_16 rf71_4 dX12_findFar_61 ?_
      refine V_iloadn 64 2 O dX12_findFar_64 rfl rfl ?_
      refine V_iald 65 O k74 dX12_findFar_65 h (fun h => ?_)
      refine V_aloadn 66 0 O dX12_findFar_66 rfl rfl ?_
      refine V_getR 67 O k71 fl_X12_120 rf71_54 dX12_findFar_67 ?_
      refine V_aloadn 70 0 O dX12_findFar_70 rfl rfl ?_
      refine V_getR 71 O k71 fl_X12_13 rf71_3 dX12_findFar_71 ?_
      refine V_iloadn 74 2 O dX12_findFar_74 rfl rfl ?_
      refine V_iald 75 O k73 dX12_findFar_75 h (fun h => ?_)
      refine V_iald 76 O k106 dX12_findFar_76 h (fun h => ?_)
      refine V_iloadn 77 1 O dX12_findFar_77 rfl rfl ?_
      refine V_icmp_ne 78 101 O dX12_findFar_78 rfl h (fun h => ?_) (fun h => ?_)
      · exact V_sub [0, 1, 2] rfl (b_X12_findFar_101 O E n rc31 H31 rc39 H39 x1 x2 (σ 74 (ix x2)) σ  h)
      · refine V_aloadn 81 0 O dX12_findFar_81 rfl rfl ?_
        refine V_getR 82 O k71 fl_X12_120 rf71_54 dX12_findFar_82 ?_
        refine V_aloadn 85 0 O dX12_findFar_85 rfl rfl ?_
        refine V_getR 86 O k71 fl_X12_16 rf71_4 dX12_findFar_86 ?_
        refine V_iloadn 89 2 O dX12_findFar_89 rfl rfl ?_
        refine V_iald 90 O k74 dX12_findFar_90 h (fun h => ?_)
        refine V_iald 91 O k106 dX12_findFar_91 h (fun h => ?_)
        refine V_if_ge 92 101 O dX12_findFar_92 rfl h (fun h => ?_) (fun h => ?_)
        · exact V_sub [0, 1, 2] rfl (b_X12_findFar_101 O E n rc31 H31 rc39 H39 x1 x2 (σ 74 (ix x2)) σ  h)
        · refine V_iloadn 95 1 O dX12_findFar_95 rfl rfl ?_
          refine V_iconst 96 O dX12_findFar_96 ci_1 ?_
          refine V_iadd 97 O dX12_findFar_97 ?_
          refine V_goto 98 112 O dX12_findFar_98 rfl ?_
          exact V_sub [0, 1, 2] rfl (b_X12_findFar_112 O E n rc31 H31 rc39 H39 x1 x2 (x1 + (1 : Int32)) (σ 74 (ix x2)) σ  h)
theorem bl_X12_findFar_39 {G : zG} {x : zX} {τ : Sg} (O : zO G x cX12_findFar RX12 0 0 3) (E : zE G x none none τ) (n : Nat) (rc31 : Int32 → Sg → Option Sg) (H31 : ∀ (x1 : Int32) (σ : Sg), rc31 x1 σ = some τ → V G x σ [(0, .ref (zad G 71)), (1, .int x1)] 31 []) : ∀ (k : Nat) (x1 : Int32) (x2 : Int32) (σ : Sg), s_X12_findFar_39 n rc31 k x1 x2 σ = some τ → V G x σ [(0, .ref (zad G 71)), (1, .int x1), (2, .int x2)] 39 [] := by
  intro k
  induction k with
  | zero => intro x1 x2 σ  h; cases h
  | succ k ih => intro x1 x2 σ  h; exact b_X12_findFar_39 O E n rc31 H31 (s_X12_findFar_39 n rc31 k) ih x1 x2 σ  h
set_option maxRecDepth 20000 in
theorem b_X12_findFar_31 {G : zG} {x : zX} {τ : Sg} (O : zO G x cX12_findFar RX12 0 0 3) (E : zE G x none none τ) (n : Nat) (rc31 : Int32 → Sg → Option Sg) (H31 : ∀ (x1 : Int32) (σ : Sg), rc31 x1 σ = some τ → V G x σ [(0, .ref (zad G 71)), (1, .int x1)] 31 []) (x1 : Int32) (σ : Sg) (h : s_X12_findFar_31b n rc31 x1 σ = some τ) : V G x σ [(0, .ref (zad G 71)), (1, .int x1)] 31 [] := by
  unfold s_X12_findFar_31b at h
  refine V_iloadn 31 1 O dX12_findFar_31 rfl rfl ?_
  refine V_bipush 32 O dX12_findFar_32 cb_10 ?_
  refine V_icmp_ge 34 182 O dX12_findFar_34 rfl h (fun h => ?_) (fun h => ?_)
  · exact V_vret 182 O E dX12_findFar_182 h
  · refine V_iconst 37 O dX12_findFar_37 ci_0 ?_
    refine V_istoren 38 [1, 2, 0] [(0, .ref (zad G 71)), (1, .int x1), (2, .int (0 : Int32))] O dX12_findFar_38 rfl (Nat.le_of_ble_eq_true rfl) rfl ?_
    exact V_sub [0, 1, 2] rfl (bl_X12_findFar_39 O E n rc31 H31 n x1 (0 : Int32) σ  h)
theorem bl_X12_findFar_31 {G : zG} {x : zX} {τ : Sg} (O : zO G x cX12_findFar RX12 0 0 3) (E : zE G x none none τ) (n : Nat) : ∀ (k : Nat) (x1 : Int32) (σ : Sg), s_X12_findFar_31 n k x1 σ = some τ → V G x σ [(0, .ref (zad G 71)), (1, .int x1)] 31 [] := by
  intro k
  induction k with
  | zero => intro x1 σ  h; cases h
  | succ k ih => intro x1 σ  h; exact b_X12_findFar_31 O E n  (s_X12_findFar_31 n  k) ih x1 σ  h
set_option maxRecDepth 20000 in
theorem b_X12_findFar_2 {G : zG} {x : zX} {τ : Sg} (O : zO G x cX12_findFar RX12 0 0 3) (E : zE G x none none τ) (n : Nat) (rc2 : Int32 → Sg → Option Sg) (H2 : ∀ (x1 : Int32) (σ : Sg), rc2 x1 σ = some τ → V G x σ [(0, .ref (zad G 71)), (1, .int x1)] 2 []) (x1 : Int32) (σ : Sg) (h : s_X12_findFar_2b n rc2 x1 σ = some τ) : V G x σ [(0, .ref (zad G 71)), (1, .int x1)] 2 [] := by
  unfold s_X12_findFar_2b at h
  refine V_iloadn 2 1 O dX12_findFar_2 rfl rfl ?_
  refine V_bipush 3 O dX12_findFar_3 cb_10 ?_
  refine V_icmp_ge 5 29 O dX12_findFar_5 rfl h (fun h => ?_) (fun h => ?_)
  · refine V_iconst 29 O dX12_findFar_29 ci_0 ?_
    refine V_istoren 30 [1, 0] [(0, .ref (zad G 71)), (1, .int (0 : Int32))] O dX12_findFar_30 rfl (Nat.le_of_ble_eq_true rfl) rfl ?_
    exact V_sub [0, 1] rfl (bl_X12_findFar_31 O E n  n (0 : Int32) σ  h)
  · refine V_aloadn 8 0 O dX12_findFar_8 rfl rfl ?_
    refine V_getR 9 O k71 fl_X12_120 rf71_54 dX12_findFar_9 ?_
    refine V_iloadn 12 1 O dX12_findFar_12 rfl rfl ?_
    refine V_iloadn 13 1 O dX12_findFar_13 rfl rfl ?_
    have J1 : V G x σ [(0, .ref (zad G 71)), (1, .int x1)] 22 [.int (if x1 = 0 then (0 : Int32) else (-1 : Int32)), .int x1, .ref (zad G 106)] := by
      refine V_topi h (fun v3 h => ?_)
      refine V_iast 22 O k106 dX12_findFar_22 h (fun σ4 h => ?_)
      refine V_iinc 23 1 [1, 0] [(0, .ref (zad G 71)), (1, .int (x1 + (1 : Int32)))] O dX12_findFar_23 rfl ci_1 (Nat.le_of_ble_eq_true rfl) rfl ?_
      refine V_goto 26 2 O dX12_findFar_26 rfl ?_
      exact V_sub [0, 1] rfl (H2 (x1 + (1 : Int32)) σ4  h)
    refine V_if_nec 14 21 O dX12_findFar_14 rfl (fun c2 => ?_) (fun c2 => ?_)
    · refine V_iconst 21 O dX12_findFar_21 ci_m1 ?_
      exact V_top (by rw [if_neg c2]) J1
    · refine V_iconst 17 O dX12_findFar_17 ci_0 ?_
      refine V_goto 18 22 O dX12_findFar_18 rfl ?_
      exact V_top (by rw [if_pos c2]) J1
theorem bl_X12_findFar_2 {G : zG} {x : zX} {τ : Sg} (O : zO G x cX12_findFar RX12 0 0 3) (E : zE G x none none τ) (n : Nat) : ∀ (k : Nat) (x1 : Int32) (σ : Sg), s_X12_findFar_2 n k x1 σ = some τ → V G x σ [(0, .ref (zad G 71)), (1, .int x1)] 2 [] := by
  intro k
  induction k with
  | zero => intro x1 σ  h; cases h
  | succ k ih => intro x1 σ  h; exact b_X12_findFar_2 O E n  (s_X12_findFar_2 n  k) ih x1 σ  h
set_option maxRecDepth 20000 in
theorem C_X12_findFar {l : Launch} {G : zG} {n : Nat} {σ : Sg} {τ : Sg} (h : s_X12_findFar n σ = some τ) : zM l G 0 yX12_findFar (.code yX12_findFar cX12_findFar 3 none) [.ref (zad G 71)] σ none τ := by
  refine zM_of (by decide) (Nat.le_of_ble_eq_true rfl) (fun x O E => ?_)
  have O : zO G x cX12_findFar RX12 0 0 3 := O
  unfold s_X12_findFar at h
  show V G x σ [(0, .ref (zad G 71))] 0 []
  refine V_iconst 0 O dX12_findFar_0 ci_0 ?_
  refine V_istoren 1 [1, 0] [(0, .ref (zad G 71)), (1, .int (0 : Int32))] O dX12_findFar_1 rfl (Nat.le_of_ble_eq_true rfl) rfl ?_
  exact V_sub [0, 1] rfl (bl_X12_findFar_2 O E n  n (0 : Int32) σ  h)
