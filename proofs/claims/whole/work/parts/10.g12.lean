-- ==== WaterTownModel.findBeds(I)V
def s_X12_findBeds_75 (n : Nat) (rc30 : Int32 → Sg → Option Sg) (rc36 : Int32 → Int32 → Sg → Option Sg) (x2 : Int32) (x3 : Int32) (y0 : Int32) (σ : Sg) : Option Sg := bd (s_X12_bedCell n x2 x3 σ) fun r14 σ13 => if y0 = 0 then (ck r14 267674 (lt (up2 σ13 117 (ix r14) (1000000 : Int32)) fun σ15 => rc36 x2 (x3 + (1 : Int32)) σ15)) else (bd (s_X12_bestFrom n x2 x3 σ13) fun r17 σ16 => ck r14 267674 (lt (up2 σ16 117 (ix r14) r17) fun σ18 => rc36 x2 (x3 + (1 : Int32)) σ18))
def s_X12_findBeds_74 (n : Nat) (rc30 : Int32 → Sg → Option Sg) (rc36 : Int32 → Int32 → Sg → Option Sg) (x2 : Int32) (x3 : Int32) (σ : Sg) : Option Sg := s_X12_findBeds_75 n rc30 rc36 x2 x3 (0 : Int32) σ
def s_X12_findBeds_36b (n : Nat) (rc30 : Int32 → Sg → Option Sg) (rc36 : Int32 → Int32 → Sg → Option Sg) (x2 : Int32) (x3 : Int32) (σ : Sg) : Option Sg := if (12167 : Int32) ≤ x3 then (rc30 (x2 + (-1 : Int32)) σ) else (bd (s_X12_ageOf n x3 (0 : Int32) σ) fun r5 σ4 => if x2 < r5 then (s_X12_findBeds_74 n rc30 rc36 x2 x3 σ4) else (bd (s_X12_ageOf n x3 (1 : Int32) σ4) fun r7 σ6 => if x2 < r7 then (s_X12_findBeds_74 n rc30 rc36 x2 x3 σ6) else (bd (s_X12_ageOf n x3 (2 : Int32) σ6) fun r9 σ8 => lt (if x2 < r9 then (0 : Int32) else (1 : Int32)) fun v12 => s_X12_findBeds_75 n rc30 rc36 x2 x3 v12 σ8)))
def s_X12_findBeds_36 (n : Nat) (rc30 : Int32 → Sg → Option Sg) : Nat → Int32 → Int32 → Sg → Option Sg
  | 0 => fun _ _ _ => none
  | k + 1 => s_X12_findBeds_36b n rc30 (s_X12_findBeds_36 n rc30 k)
def s_X12_findBeds_30b (n : Nat) (rc30 : Int32 → Sg → Option Sg) (x2 : Int32) (σ : Sg) : Option Sg := if x2 < 0 then (some σ) else (s_X12_findBeds_36 n rc30 n x2 (0 : Int32) σ)
def s_X12_findBeds_30 (n : Nat) : Nat → Int32 → Sg → Option Sg
  | 0 => fun _ _ => none
  | k + 1 => s_X12_findBeds_30b n (s_X12_findBeds_30 n k)
def s_X12_findBeds_2b (n : Nat) (rc2 : Int32 → Int32 → Sg → Option Sg) (x1 : Int32) (x2 : Int32) (σ : Sg) : Option Sg := if (12167 : Int32) ≤ x2 then (s_X12_findBeds_30 n n x1 σ) else (bd (s_X12_bedCell n (x1 + (1 : Int32)) x2 σ) fun r2 σ1 => ck r2 267674 (lt (up2 σ1 117 (ix r2) (0 : Int32)) fun σ3 => rc2 x1 (x2 + (1 : Int32)) σ3))
def s_X12_findBeds_2 (n : Nat) : Nat → Int32 → Int32 → Sg → Option Sg
  | 0 => fun _ _ _ => none
  | k + 1 => s_X12_findBeds_2b n (s_X12_findBeds_2 n k)
def s_X12_findBeds (n : Nat) (x1 : Int32) (σ : Sg) : Option Sg := s_X12_findBeds_2 n n x1 (0 : Int32) σ
set_option maxRecDepth 20000 in
theorem b_X12_findBeds_75 {G : zG} {x : zX} {τ : Sg} (O : zO G x cX12_findBeds RX12 3 120 5) (E : zE G x none none τ) (n : Nat) (rc30 : Int32 → Sg → Option Sg) (H30 : ∀ (x2 : Int32) (σ : Sg), rc30 x2 σ = some τ → V G x σ [(0, .ref (zad G 71)), (2, .int x2)] 30 []) (rc36 : Int32 → Int32 → Sg → Option Sg) (H36 : ∀ (x2 : Int32) (x3 : Int32) (σ : Sg), rc36 x2 x3 σ = some τ → V G x σ [(0, .ref (zad G 71)), (2, .int x2), (3, .int x3)] 36 []) (x2 : Int32) (x3 : Int32) (y0 : Int32) (σ : Sg) (h : s_X12_findBeds_75 n rc30 rc36 x2 x3 y0 σ = some τ) : V G x σ [(0, .ref (zad G 71)), (2, .int x2), (3, .int x3)] 75 [.int y0] := by
  unfold s_X12_findBeds_75 at h
  refine V_istore 75 [1, 2, 3, 0] [(0, .ref (zad G 71)), (2, .int x2), (3, .int x3), (4, .int y0)] O dX12_findBeds_75 (Nat.le_of_ble_eq_true rfl) rfl ?_
  refine V_aloadn 77 0 O dX12_findBeds_77 rfl rfl ?_
  refine V_getR 78 O k71 fl_X12_154 rf71_69 dX12_findBeds_78 ?_
  refine V_iloadn 81 1 O dX12_findBeds_81 rfl rfl ?_
  refine V_iloadn 82 2 O dX12_findBeds_82 rfl rfl ?_
  obtain ⟨r14, σ13, g, h⟩ := bd_of h
  refine V_callSi 83 [.int x2, .int x3] [.ref (zad G 117)] O mf_X12_bedCell lk_X12_424 dX12_findBeds_83 rfl rfl (Nat.le_of_ble_eq_true rfl) ⟨(Nat.le_of_ble_eq_true rfl), (Nat.le_of_ble_eq_true rfl)⟩ (fun l => C_X12_bedCell  g) ?_
  refine V_iload 86 3 O dX12_findBeds_86 rfl ?_
  refine V_if_eq 88 100 O dX12_findBeds_88 rfl h (fun h => ?_) (fun h => ?_)
  · refine V_ldcw 100 O dX12_findBeds_100 kc_X12_378 ?_
    refine V_iast 103 O k117 dX12_findBeds_103 h (fun σ15 h => ?_)
    refine V_iinc 104 2 [1, 2, 0, 3] [(0, .ref (zad G 71)), (2, .int x2), (3, .int (x3 + (1 : Int32))), (4, .int y0)] O dX12_findBeds_104 rfl ci_1 (Nat.le_of_ble_eq_true rfl) rfl ?_
    refine V_goto 107 36 O dX12_findBeds_107 rfl ?_
    exact V_sub [0, 1, 2] rfl (H36 x2 (x3 + (1 : Int32)) σ15  h)
  · refine V_aloadn 91 0 O dX12_findBeds_91 rfl rfl ?_
    refine V_iloadn 92 1 O dX12_findBeds_92 rfl rfl ?_
    refine V_iloadn 93 2 O dX12_findBeds_93 rfl rfl ?_
    obtain ⟨r17, σ16, g, h⟩ := bd_of h
    refine V_callVi 94 [.int x2, .int x3] [.int r14, .ref (zad G 117)] O mf_X12_bestFrom lk_X12_427 k71 dX12_findBeds_94 rfl rfl (Nat.le_of_ble_eq_true rfl) ⟨(Nat.le_of_ble_eq_true rfl), (Nat.le_of_ble_eq_true rfl)⟩ (fun l => C_X12_bestFrom  g) ?_
    refine V_goto 97 103 O dX12_findBeds_97 rfl ?_
    refine V_iast 103 O k117 dX12_findBeds_103 h (fun σ18 h => ?_)
    refine V_iinc 104 2 [1, 2, 0, 3] [(0, .ref (zad G 71)), (2, .int x2), (3, .int (x3 + (1 : Int32))), (4, .int y0)] O dX12_findBeds_104 rfl ci_1 (Nat.le_of_ble_eq_true rfl) rfl ?_
    refine V_goto 107 36 O dX12_findBeds_107 rfl ?_
    exact V_sub [0, 1, 2] rfl (H36 x2 (x3 + (1 : Int32)) σ18  h)
set_option maxRecDepth 20000 in
theorem b_X12_findBeds_74 {G : zG} {x : zX} {τ : Sg} (O : zO G x cX12_findBeds RX12 3 120 5) (E : zE G x none none τ) (n : Nat) (rc30 : Int32 → Sg → Option Sg) (H30 : ∀ (x2 : Int32) (σ : Sg), rc30 x2 σ = some τ → V G x σ [(0, .ref (zad G 71)), (2, .int x2)] 30 []) (rc36 : Int32 → Int32 → Sg → Option Sg) (H36 : ∀ (x2 : Int32) (x3 : Int32) (σ : Sg), rc36 x2 x3 σ = some τ → V G x σ [(0, .ref (zad G 71)), (2, .int x2), (3, .int x3)] 36 []) (x2 : Int32) (x3 : Int32) (σ : Sg) (h : s_X12_findBeds_74 n rc30 rc36 x2 x3 σ = some τ) : V G x σ [(0, .ref (zad G 71)), (2, .int x2), (3, .int x3)] 74 [] := by
  unfold s_X12_findBeds_74 at h
  refine V_iconst 74 O dX12_findBeds_74 ci_0 ?_
  exact V_sub [0, 1, 2] rfl (b_X12_findBeds_75 O E n rc30 H30 rc36 H36 x2 x3 (0 : Int32) σ  h)
set_option maxRecDepth 20000 in
theorem b_X12_findBeds_36 {G : zG} {x : zX} {τ : Sg} (O : zO G x cX12_findBeds RX12 3 120 5) (E : zE G x none none τ) (n : Nat) (rc30 : Int32 → Sg → Option Sg) (H30 : ∀ (x2 : Int32) (σ : Sg), rc30 x2 σ = some τ → V G x σ [(0, .ref (zad G 71)), (2, .int x2)] 30 []) (rc36 : Int32 → Int32 → Sg → Option Sg) (H36 : ∀ (x2 : Int32) (x3 : Int32) (σ : Sg), rc36 x2 x3 σ = some τ → V G x σ [(0, .ref (zad G 71)), (2, .int x2), (3, .int x3)] 36 []) (x2 : Int32) (x3 : Int32) (σ : Sg) (h : s_X12_findBeds_36b n rc30 rc36 x2 x3 σ = some τ) : V G x σ [(0, .ref (zad G 71)), (2, .int x2), (3, .int x3)] 36 [] := by
  unfold s_X12_findBeds_36b at h
  refine V_iloadn 36 2 O dX12_findBeds_36 rfl rfl ?_
  refine V_sipush 37 O dX12_findBeds_37 cs_12167 ?_
  refine V_icmp_ge 40 110 O dX12_findBeds_40 rfl h (fun h => ?_) (fun h => ?_)
  · refine V_iinc 110 1 [1, 0, 2] [(0, .ref (zad G 71)), (2, .int (x2 + (-1 : Int32))), (3, .int x3)] O dX12_findBeds_110 rfl ci_m1 (Nat.le_of_ble_eq_true rfl) rfl ?_
    refine V_goto 113 30 O dX12_findBeds_113 rfl ?_
    exact V_sub [0, 1] rfl (H30 (x2 + (-1 : Int32)) σ  h)
  · refine V_iloadn 43 2 O dX12_findBeds_43 rfl rfl ?_
    refine V_iconst 44 O dX12_findBeds_44 ci_0 ?_
    obtain ⟨r5, σ4, g, h⟩ := bd_of h
    refine V_callSi 45 [.int x3, .int (0 : Int32)] [] O mf_X12_ageOf lk_X12_421 dX12_findBeds_45 rfl rfl (Nat.le_of_ble_eq_true rfl) ⟨(Nat.le_of_ble_eq_true rfl), (Nat.le_of_ble_eq_true rfl)⟩ (fun l => C_X12_ageOf  g) ?_
    refine V_iloadn 48 1 O dX12_findBeds_48 rfl rfl ?_
    refine V_icmp_gt 49 74 O dX12_findBeds_49 rfl h (fun h => ?_) (fun h => ?_)
    · exact V_sub [0, 1, 2] rfl (b_X12_findBeds_74 O E n rc30 H30 rc36 H36 x2 x3 σ4  h)
    · refine V_iloadn 52 2 O dX12_findBeds_52 rfl rfl ?_
      refine V_iconst 53 O dX12_findBeds_53 ci_1 ?_
      obtain ⟨r7, σ6, g, h⟩ := bd_of h
      refine V_callSi 54 [.int x3, .int (1 : Int32)] [] O mf_X12_ageOf lk_X12_421 dX12_findBeds_54 rfl rfl (Nat.le_of_ble_eq_true rfl) ⟨(Nat.le_of_ble_eq_true rfl), (Nat.le_of_ble_eq_true rfl)⟩ (fun l => C_X12_ageOf  g) ?_
      refine V_iloadn 57 1 O dX12_findBeds_57 rfl rfl ?_
      refine V_icmp_gt 58 74 O dX12_findBeds_58 rfl h (fun h => ?_) (fun h => ?_)
      · exact V_sub [0, 1, 2] rfl (b_X12_findBeds_74 O E n rc30 H30 rc36 H36 x2 x3 σ6  h)
      · refine V_iloadn 61 2 O dX12_findBeds_61 rfl rfl ?_
        refine V_iconst 62 O dX12_findBeds_62 ci_2 ?_
        obtain ⟨r9, σ8, g, h⟩ := bd_of h
        refine V_callSi 63 [.int x3, .int (2 : Int32)] [] O mf_X12_ageOf lk_X12_421 dX12_findBeds_63 rfl rfl (Nat.le_of_ble_eq_true rfl) ⟨(Nat.le_of_ble_eq_true rfl), (Nat.le_of_ble_eq_true rfl)⟩ (fun l => C_X12_ageOf  g) ?_
        refine V_iloadn 66 1 O dX12_findBeds_66 rfl rfl ?_
        have J10 : V G x σ8 [(0, .ref (zad G 71)), (2, .int x2), (3, .int x3)] 75 [.int (if x2 < r9 then (0 : Int32) else (1 : Int32))] := by
          refine V_topi h (fun v12 h => ?_)
          exact V_sub [0, 1, 2] rfl (b_X12_findBeds_75 O E n rc30 H30 rc36 H36 x2 x3 v12 σ8  h)
        refine V_icmp_gtc 67 74 O dX12_findBeds_67 rfl (fun c11 => ?_) (fun c11 => ?_)
        · refine V_iconst 74 O dX12_findBeds_74 ci_0 ?_
          exact V_top (by rw [if_pos c11]) J10
        · refine V_iconst 70 O dX12_findBeds_70 ci_1 ?_
          refine V_goto 71 75 O dX12_findBeds_71 rfl ?_
          exact V_top (by rw [if_neg c11]) J10
theorem bl_X12_findBeds_36 {G : zG} {x : zX} {τ : Sg} (O : zO G x cX12_findBeds RX12 3 120 5) (E : zE G x none none τ) (n : Nat) (rc30 : Int32 → Sg → Option Sg) (H30 : ∀ (x2 : Int32) (σ : Sg), rc30 x2 σ = some τ → V G x σ [(0, .ref (zad G 71)), (2, .int x2)] 30 []) : ∀ (k : Nat) (x2 : Int32) (x3 : Int32) (σ : Sg), s_X12_findBeds_36 n rc30 k x2 x3 σ = some τ → V G x σ [(0, .ref (zad G 71)), (2, .int x2), (3, .int x3)] 36 [] := by
  intro k
  induction k with
  | zero => intro x2 x3 σ  h; cases h
  | succ k ih => intro x2 x3 σ  h; exact b_X12_findBeds_36 O E n rc30 H30 (s_X12_findBeds_36 n rc30 k) ih x2 x3 σ  h
set_option maxRecDepth 20000 in
theorem b_X12_findBeds_30 {G : zG} {x : zX} {τ : Sg} (O : zO G x cX12_findBeds RX12 3 120 5) (E : zE G x none none τ) (n : Nat) (rc30 : Int32 → Sg → Option Sg) (H30 : ∀ (x2 : Int32) (σ : Sg), rc30 x2 σ = some τ → V G x σ [(0, .ref (zad G 71)), (2, .int x2)] 30 []) (x2 : Int32) (σ : Sg) (h : s_X12_findBeds_30b n rc30 x2 σ = some τ) : V G x σ [(0, .ref (zad G 71)), (2, .int x2)] 30 [] := by
  unfold s_X12_findBeds_30b at h
  refine V_iloadn 30 1 O dX12_findBeds_30 rfl rfl ?_
  refine V_if_lt 31 116 O dX12_findBeds_31 rfl h (fun h => ?_) (fun h => ?_)
  · exact V_vret 116 O E dX12_findBeds_116 h
  · refine V_iconst 34 O dX12_findBeds_34 ci_0 ?_
    refine V_istoren 35 [1, 2, 0] [(0, .ref (zad G 71)), (2, .int x2), (3, .int (0 : Int32))] O dX12_findBeds_35 rfl (Nat.le_of_ble_eq_true rfl) rfl ?_
    exact V_sub [0, 1, 2] rfl (bl_X12_findBeds_36 O E n rc30 H30 n x2 (0 : Int32) σ  h)
theorem bl_X12_findBeds_30 {G : zG} {x : zX} {τ : Sg} (O : zO G x cX12_findBeds RX12 3 120 5) (E : zE G x none none τ) (n : Nat) : ∀ (k : Nat) (x2 : Int32) (σ : Sg), s_X12_findBeds_30 n k x2 σ = some τ → V G x σ [(0, .ref (zad G 71)), (2, .int x2)] 30 [] := by
  intro k
  induction k with
  | zero => intro x2 σ  h; cases h
  | succ k ih => intro x2 σ  h; exact b_X12_findBeds_30 O E n  (s_X12_findBeds_30 n  k) ih x2 σ  h
set_option maxRecDepth 20000 in
theorem b_X12_findBeds_2 {G : zG} {x : zX} {τ : Sg} (O : zO G x cX12_findBeds RX12 3 120 5) (E : zE G x none none τ) (n : Nat) (rc2 : Int32 → Int32 → Sg → Option Sg) (H2 : ∀ (x1 : Int32) (x2 : Int32) (σ : Sg), rc2 x1 x2 σ = some τ → V G x σ [(0, .ref (zad G 71)), (1, .int x1), (2, .int x2)] 2 []) (x1 : Int32) (x2 : Int32) (σ : Sg) (h : s_X12_findBeds_2b n rc2 x1 x2 σ = some τ) : V G x σ [(0, .ref (zad G 71)), (1, .int x1), (2, .int x2)] 2 [] := by
  unfold s_X12_findBeds_2b at h
  refine V_iloadn 2 2 O dX12_findBeds_2 rfl rfl ?_
  refine V_sipush 3 O dX12_findBeds_3 cs_12167 ?_
  refine V_icmp_ge 6 28 O dX12_findBeds_6 rfl h (fun h => ?_) (fun h => ?_)
  · refine V_iloadn 28 1 O dX12_findBeds_28 rfl rfl ?_
    refine V_istoren 29 [1, 2, 0] [(0, .ref (zad G 71)), (1, .int x1), (2, .int x1)] O dX12_findBeds_29 rfl (Nat.le_of_ble_eq_true rfl) rfl ?_
    exact V_sub [0, 2] rfl (bl_X12_findBeds_30 O E n  n x1 σ  h)
  · refine V_aloadn 9 0 O dX12_findBeds_9 rfl rfl ?_
    refine V_getR 10 O k71 fl_X12_154 rf71_69 dX12_findBeds_10 ?_
    refine V_iloadn 13 1 O dX12_findBeds_13 rfl rfl ?_
    refine V_iconst 14 O dX12_findBeds_14 ci_1 ?_
    refine V_iadd 15 O dX12_findBeds_15 ?_
    refine V_iloadn 16 2 O dX12_findBeds_16 rfl rfl ?_
    obtain ⟨r2, σ1, g, h⟩ := bd_of h
    refine V_callSi 17 [.int (x1 + (1 : Int32)), .int x2] [.ref (zad G 117)] O mf_X12_bedCell lk_X12_424 dX12_findBeds_17 rfl rfl (Nat.le_of_ble_eq_true rfl) ⟨(Nat.le_of_ble_eq_true rfl), (Nat.le_of_ble_eq_true rfl)⟩ (fun l => C_X12_bedCell  g) ?_
    refine V_iconst 20 O dX12_findBeds_20 ci_0 ?_
    refine V_iast 21 O k117 dX12_findBeds_21 h (fun σ3 h => ?_)
    refine V_iinc 22 2 [1, 2, 0] [(0, .ref (zad G 71)), (1, .int x1), (2, .int (x2 + (1 : Int32)))] O dX12_findBeds_22 rfl ci_1 (Nat.le_of_ble_eq_true rfl) rfl ?_
    refine V_goto 25 2 O dX12_findBeds_25 rfl ?_
    exact V_sub [0, 1, 2] rfl (H2 x1 (x2 + (1 : Int32)) σ3  h)
theorem bl_X12_findBeds_2 {G : zG} {x : zX} {τ : Sg} (O : zO G x cX12_findBeds RX12 3 120 5) (E : zE G x none none τ) (n : Nat) : ∀ (k : Nat) (x1 : Int32) (x2 : Int32) (σ : Sg), s_X12_findBeds_2 n k x1 x2 σ = some τ → V G x σ [(0, .ref (zad G 71)), (1, .int x1), (2, .int x2)] 2 [] := by
  intro k
  induction k with
  | zero => intro x1 x2 σ  h; cases h
  | succ k ih => intro x1 x2 σ  h; exact b_X12_findBeds_2 O E n  (s_X12_findBeds_2 n  k) ih x1 x2 σ  h
set_option maxRecDepth 20000 in
theorem C_X12_findBeds {l : Launch} {G : zG} {n : Nat} {x1 : Int32} {σ : Sg} {τ : Sg} (h : s_X12_findBeds n x1 σ = some τ) : zM l G 3 yX12_findBeds (.code yX12_findBeds cX12_findBeds 5 none) [.ref (zad G 71), .int x1] σ none τ := by
  refine zM_of (by decide) (Nat.le_of_ble_eq_true rfl) (fun x O E => ?_)
  have O : zO G x cX12_findBeds RX12 3 120 5 := O
  unfold s_X12_findBeds at h
  show V G x σ [(0, .ref (zad G 71)), (1, .int x1)] 0 []
  refine V_iconst 0 O dX12_findBeds_0 ci_0 ?_
  refine V_istoren 1 [1, 2, 0] [(0, .ref (zad G 71)), (1, .int x1), (2, .int (0 : Int32))] O dX12_findBeds_1 rfl (Nat.le_of_ble_eq_true rfl) rfl ?_
  exact V_sub [0, 1, 2] rfl (bl_X12_findBeds_2 O E n  n x1 (0 : Int32) σ  h)
-- ==== WaterTownModel.beds(IIIIII)I
def s_X12_beds_115 (n : Nat) (x7 : Int32) (σ : Sg) : Option (Int32 × Sg) := if x7 < (1000000 : Int32) then (some (x7, σ)) else (some ((-1 : Int32), σ))
def s_X12_beds_169 (n : Nat) (rc136 : Int32 → Int32 → Int32 → Int32 → Int32 → Sg → Option (Int32 × Sg)) (rc146 : Int32 → Int32 → Int32 → Int32 → Int32 → Int32 → Sg → Option (Int32 × Sg)) (x4 : Int32) (x5 : Int32) (x6 : Int32) (x8 : Int32) (x9 : Int32) (x10 : Int32) (y0 : Int32) (σ : Sg) : Option (Int32 × Sg) := bd (s_X12_one n y0 σ) fun r23 σ22 => bd (s_X12_nextAges n x8 x10 σ22) fun r25 σ24 => bd (s_X12_bedCell n (x9 + (1 : Int32)) r25 σ24) fun r27 σ26 => ck r27 267674 (bd (s_X12_bedCell n x9 x8 σ26) fun r29 σ28 => ck r29 267674 (if (r23 + (σ26 117 (ix r27))) = (σ28 117 (ix r29)) then (if x9 = x6 then (some (x10, σ28)) else (bd (s_X12_nextAges n x8 x10 σ28) fun r31 σ30 => rc136 x4 x5 x6 r31 (x9 + (1 : Int32)) σ30)) else (rc146 x4 x5 x6 x8 x9 (x10 + (1 : Int32)) σ28)))
def s_X12_beds_146b (n : Nat) (rc136 : Int32 → Int32 → Int32 → Int32 → Int32 → Sg → Option (Int32 × Sg)) (rc146 : Int32 → Int32 → Int32 → Int32 → Int32 → Int32 → Sg → Option (Int32 × Sg)) (x4 : Int32) (x5 : Int32) (x6 : Int32) (x8 : Int32) (x9 : Int32) (x10 : Int32) (σ : Sg) : Option (Int32 × Sg) := bd (s_X12_givenBy n x8 x10 σ) fun r18 σ17 => if r18 < x4 then (rc146 x4 x5 x6 x8 x9 (x10 + (1 : Int32)) σ17) else (lt (if x10 < 0 then (0 : Int32) else (1 : Int32)) fun v21 => s_X12_beds_169 n rc136 rc146 x4 x5 x6 x8 x9 x10 v21 σ17)
def s_X12_beds_146 (n : Nat) (rc136 : Int32 → Int32 → Int32 → Int32 → Int32 → Sg → Option (Int32 × Sg)) : Nat → Int32 → Int32 → Int32 → Int32 → Int32 → Int32 → Sg → Option (Int32 × Sg)
  | 0 => fun _ _ _ _ _ _ _ => none
  | k + 1 => s_X12_beds_146b n rc136 (s_X12_beds_146 n rc136 k)
def s_X12_beds_136b (n : Nat) (rc136 : Int32 → Int32 → Int32 → Int32 → Int32 → Sg → Option (Int32 × Sg)) (x4 : Int32) (x5 : Int32) (x6 : Int32) (x8 : Int32) (x9 : Int32) (σ : Sg) : Option (Int32 × Sg) := if x5 < x9 then (some ((-1 : Int32), σ)) else (s_X12_beds_146 n rc136 n x4 x5 x6 x8 x9 (-1 : Int32) σ)
def s_X12_beds_136 (n : Nat) : Nat → Int32 → Int32 → Int32 → Int32 → Int32 → Sg → Option (Int32 × Sg)
  | 0 => fun _ _ _ _ _ _ => none
  | k + 1 => s_X12_beds_136b n (s_X12_beds_136 n k)
def s_X12_beds (n : Nat) (x1 : Int32) (x2 : Int32) (x3 : Int32) (x4 : Int32) (x5 : Int32) (x6 : Int32) (σ : Sg) : Option (Int32 × Sg) := bd (s_X12_in n x1.toInt64 (1 : Int64) (3 : Int64) σ) fun r2 σ1 => if r2 = 0 then (some ((-1002 : Int32), σ1)) else (bd (s_X12_in n x2.toInt64 (1 : Int64) (99 : Int64) σ1) fun r4 σ3 => if r4 = 0 then (some ((-1002 : Int32), σ3)) else (bd (s_X12_in n x3.toInt64 (0 : Int64) (30 : Int64) σ3) fun r6 σ5 => if r6 = 0 then (some ((-1002 : Int32), σ5)) else (bd (s_X12_in n x4.toInt64 (0 : Int64) (297 : Int64) σ5) fun r8 σ7 => if r8 = 0 then (some ((-1002 : Int32), σ7)) else (bd (s_X12_in n x5.toInt64 (0 : Int64) (20 : Int64) σ7) fun r10 σ9 => if r10 = 0 then (some ((-1002 : Int32), σ9)) else (lt (up2 σ9 71 70 x1) fun σ11 => lt (up2 σ11 71 71 x2) fun σ12 => lt (up2 σ12 71 72 x3) fun σ13 => lt (up2 σ13 71 73 x4) fun σ14 => bdv (s_X12_findBeds n x5 σ14) fun σ15 => ck (0 : Int32) 267674 (lt (σ15 117 (ix (0 : Int32))) fun v16 => if x6 = (-1 : Int32) then (s_X12_beds_115 n v16 σ15) else (if v16 < (1000000 : Int32) then (s_X12_beds_136 n n x4 x5 x6 (0 : Int32) (0 : Int32) σ15) else (s_X12_beds_115 n v16 σ15))))))))
set_option maxRecDepth 20000 in
theorem b_X12_beds_115 {G : zG} {x : zX} {r : Int32} {τ : Sg} (O : zO G x cX12_beds RX12 4 160 11) (E : zE G x (some (.int)) (some (.int r)) τ) (n : Nat) (x7 : Int32) (σ : Sg) (h : s_X12_beds_115 n x7 σ = some (r, τ)) : V G x σ [(7, .int x7)] 115 [] := by
  unfold s_X12_beds_115 at h
  refine V_iload 115 0 O dX12_beds_115 rfl ?_
  refine V_ldcw 117 O dX12_beds_117 kc_X12_378 ?_
  refine V_icmp_lt 120 127 O dX12_beds_120 rfl h (fun h => ?_) (fun h => ?_)
  · refine V_iload 127 0 O dX12_beds_127 rfl ?_
    exact V_iret 129 O E dX12_beds_129 h
  · refine V_iconst 123 O dX12_beds_123 ci_m1 ?_
    refine V_goto 124 129 O dX12_beds_124 rfl ?_
    exact V_iret 129 O E dX12_beds_129 h
set_option maxRecDepth 20000 in
theorem b_X12_beds_169 {G : zG} {x : zX} {r : Int32} {τ : Sg} (O : zO G x cX12_beds RX12 4 160 11) (E : zE G x (some (.int)) (some (.int r)) τ) (n : Nat) (rc136 : Int32 → Int32 → Int32 → Int32 → Int32 → Sg → Option (Int32 × Sg)) (H136 : ∀ (x4 : Int32) (x5 : Int32) (x6 : Int32) (x8 : Int32) (x9 : Int32) (σ : Sg), rc136 x4 x5 x6 x8 x9 σ = some (r, τ) → V G x σ [(0, .ref (zad G 71)), (4, .int x4), (5, .int x5), (6, .int x6), (8, .int x8), (9, .int x9)] 136 []) (rc146 : Int32 → Int32 → Int32 → Int32 → Int32 → Int32 → Sg → Option (Int32 × Sg)) (H146 : ∀ (x4 : Int32) (x5 : Int32) (x6 : Int32) (x8 : Int32) (x9 : Int32) (x10 : Int32) (σ : Sg), rc146 x4 x5 x6 x8 x9 x10 σ = some (r, τ) → V G x σ [(0, .ref (zad G 71)), (4, .int x4), (5, .int x5), (6, .int x6), (8, .int x8), (9, .int x9), (10, .int x10)] 146 []) (x4 : Int32) (x5 : Int32) (x6 : Int32) (x8 : Int32) (x9 : Int32) (x10 : Int32) (y0 : Int32) (σ : Sg) (h : s_X12_beds_169 n rc136 rc146 x4 x5 x6 x8 x9 x10 y0 σ = some (r, τ)) : V G x σ [(0, .ref (zad G 71)), (4, .int x4), (5, .int x5), (6, .int x6), (8, .int x8), (9, .int x9), (10, .int x10)] 169 [.int y0] := by
  unfold s_X12_beds_169 at h
  obtain ⟨r23, σ22, g, h⟩ := bd_of h
  refine V_callSi 169 [.int y0] [] O mf_X12_one lk_X12_185 dX12_beds_169 rfl rfl (Nat.le_of_ble_eq_true rfl) ⟨(Nat.le_of_ble_eq_true rfl), (Nat.le_of_ble_eq_true rfl)⟩ (fun l => C_X12_one  g) ?_
  refine V_aloadn 172 0 O dX12_beds_172 rfl rfl ?_
  refine V_getR 173 O k71 fl_X12_154 rf71_69 dX12_beds_173 ?_
  refine V_iload 176 5 O dX12_beds_176 rfl ?_
  refine V_iconst 178 O dX12_beds_178 ci_1 ?_
  refine V_iadd 179 O dX12_beds_179 ?_
  refine V_aloadn 180 0 O dX12_beds_180 rfl rfl ?_
  refine V_iload 181 4 O dX12_beds_181 rfl ?_
  refine V_iload 183 6 O dX12_beds_183 rfl ?_
  obtain ⟨r25, σ24, g, h⟩ := bd_of h
  refine V_callVi 185 [.int x8, .int x10] [.int (x9 + (1 : Int32)), .ref (zad G 117), .int r23] O mf_X12_nextAges lk_X12_436 k71 dX12_beds_185 rfl rfl (Nat.le_of_ble_eq_true rfl) ⟨(Nat.le_of_ble_eq_true rfl), (Nat.le_of_ble_eq_true rfl)⟩ (fun l => C_X12_nextAges  g) ?_
  obtain ⟨r27, σ26, g, h⟩ := bd_of h
  refine V_callSi 188 [.int (x9 + (1 : Int32)), .int r25] [.ref (zad G 117), .int r23] O mf_X12_bedCell lk_X12_424 dX12_beds_188 rfl rfl (Nat.le_of_ble_eq_true rfl) ⟨(Nat.le_of_ble_eq_true rfl), (Nat.le_of_ble_eq_true rfl)⟩ (fun l => C_X12_bedCell  g) ?_
  refine V_iald 191 O k117 dX12_beds_191 h (fun h => ?_)
  refine V_iadd 192 O dX12_beds_192 ?_
  refine V_aloadn 193 0 O dX12_beds_193 rfl rfl ?_
  refine V_getR 194 O k71 fl_X12_154 rf71_69 dX12_beds_194 ?_
  refine V_iload 197 5 O dX12_beds_197 rfl ?_
  refine V_iload 199 4 O dX12_beds_199 rfl ?_
  obtain ⟨r29, σ28, g, h⟩ := bd_of h
  refine V_callSi 201 [.int x9, .int x8] [.ref (zad G 117), .int (r23 + (σ26 117 (ix r27)))] O mf_X12_bedCell lk_X12_424 dX12_beds_201 rfl rfl (Nat.le_of_ble_eq_true rfl) ⟨(Nat.le_of_ble_eq_true rfl), (Nat.le_of_ble_eq_true rfl)⟩ (fun l => C_X12_bedCell  g) ?_
  refine V_iald 204 O k117 dX12_beds_204 h (fun h => ?_)
  refine V_icmp_eq 205 214 O dX12_beds_205 rfl h (fun h => ?_) (fun h => ?_)
  · refine V_iload 214 5 O dX12_beds_214 rfl ?_
    refine V_iload 216 3 O dX12_beds_216 rfl ?_
    refine V_icmp_ne 218 224 O dX12_beds_218 rfl h (fun h => ?_) (fun h => ?_)
    · refine V_aloadn 224 0 O dX12_beds_224 rfl rfl ?_
      refine V_iload 225 4 O dX12_beds_225 rfl ?_
      refine V_iload 227 6 O dX12_beds_227 rfl ?_
      obtain ⟨r31, σ30, g, h⟩ := bd_of h
      refine V_callVi 229 [.int x8, .int x10] [] O mf_X12_nextAges lk_X12_436 k71 dX12_beds_229 rfl rfl (Nat.le_of_ble_eq_true rfl) ⟨(Nat.le_of_ble_eq_true rfl), (Nat.le_of_ble_eq_true rfl)⟩ (fun l => C_X12_nextAges  g) ?_
      refine V_istore 232 [1, 2, 3, 4, 0, 5, 6] [(0, .ref (zad G 71)), (4, .int x4), (5, .int x5), (6, .int x6), (8, .int r31), (9, .int x9), (10, .int x10)] O dX12_beds_232 (Nat.le_of_ble_eq_true rfl) rfl ?_
      refine V_iinc 234 5 [1, 2, 3, 4, 5, 0, 6] [(0, .ref (zad G 71)), (4, .int x4), (5, .int x5), (6, .int x6), (8, .int r31), (9, .int (x9 + (1 : Int32))), (10, .int x10)] O dX12_beds_234 rfl ci_1 (Nat.le_of_ble_eq_true rfl) rfl ?_
      refine V_goto 237 136 O dX12_beds_237 rfl ?_
      exact V_sub [0, 1, 2, 3, 4, 5] rfl (H136 x4 x5 x6 r31 (x9 + (1 : Int32)) σ30  h)
    · refine V_iload 221 6 O dX12_beds_221 rfl ?_
      exact V_iret 223 O E dX12_beds_223 h
  · refine V_iinc 208 6 [1, 2, 3, 4, 5, 6, 0] [(0, .ref (zad G 71)), (4, .int x4), (5, .int x5), (6, .int x6), (8, .int x8), (9, .int x9), (10, .int (x10 + (1 : Int32)))] O dX12_beds_208 rfl ci_1 (Nat.le_of_ble_eq_true rfl) rfl ?_
    refine V_goto 211 146 O dX12_beds_211 rfl ?_
    exact V_sub [0, 1, 2, 3, 4, 5, 6] rfl (H146 x4 x5 x6 x8 x9 (x10 + (1 : Int32)) σ28  h)
set_option maxRecDepth 20000 in
theorem b_X12_beds_146 {G : zG} {x : zX} {r : Int32} {τ : Sg} (O : zO G x cX12_beds RX12 4 160 11) (E : zE G x (some (.int)) (some (.int r)) τ) (n : Nat) (rc136 : Int32 → Int32 → Int32 → Int32 → Int32 → Sg → Option (Int32 × Sg)) (H136 : ∀ (x4 : Int32) (x5 : Int32) (x6 : Int32) (x8 : Int32) (x9 : Int32) (σ : Sg), rc136 x4 x5 x6 x8 x9 σ = some (r, τ) → V G x σ [(0, .ref (zad G 71)), (4, .int x4), (5, .int x5), (6, .int x6), (8, .int x8), (9, .int x9)] 136 []) (rc146 : Int32 → Int32 → Int32 → Int32 → Int32 → Int32 → Sg → Option (Int32 × Sg)) (H146 : ∀ (x4 : Int32) (x5 : Int32) (x6 : Int32) (x8 : Int32) (x9 : Int32) (x10 : Int32) (σ : Sg), rc146 x4 x5 x6 x8 x9 x10 σ = some (r, τ) → V G x σ [(0, .ref (zad G 71)), (4, .int x4), (5, .int x5), (6, .int x6), (8, .int x8), (9, .int x9), (10, .int x10)] 146 []) (x4 : Int32) (x5 : Int32) (x6 : Int32) (x8 : Int32) (x9 : Int32) (x10 : Int32) (σ : Sg) (h : s_X12_beds_146b n rc136 rc146 x4 x5 x6 x8 x9 x10 σ = some (r, τ)) : V G x σ [(0, .ref (zad G 71)), (4, .int x4), (5, .int x5), (6, .int x6), (8, .int x8), (9, .int x9), (10, .int x10)] 146 [] := by
  unfold s_X12_beds_146b at h
  refine V_aloadn 146 0 O dX12_beds_146 rfl rfl ?_
  refine V_iload 147 4 O dX12_beds_147 rfl ?_
  refine V_iload 149 6 O dX12_beds_149 rfl ?_
  obtain ⟨r18, σ17, g, h⟩ := bd_of h
  refine V_callVi 151 [.int x8, .int x10] [] O mf_X12_givenBy lk_X12_430 k71 dX12_beds_151 rfl rfl (Nat.le_of_ble_eq_true rfl) ⟨(Nat.le_of_ble_eq_true rfl), (Nat.le_of_ble_eq_true rfl)⟩ (fun l => C_X12_givenBy  g) ?_
  refine V_iload 154 1 O dX12_beds_154 rfl ?_
  refine V_icmp_lt 156 208 O dX12_beds_156 rfl h (fun h => ?_) (fun h => ?_)
  · refine V_iinc 208 6 [1, 2, 3, 4, 5, 6, 0] [(0, .ref (zad G 71)), (4, .int x4), (5, .int x5), (6, .int x6), (8, .int x8), (9, .int x9), (10, .int (x10 + (1 : Int32)))] O dX12_beds_208 rfl ci_1 (Nat.le_of_ble_eq_true rfl) rfl ?_
    refine V_goto 211 146 O dX12_beds_211 rfl ?_
    exact V_sub [0, 1, 2, 3, 4, 5, 6] rfl (H146 x4 x5 x6 x8 x9 (x10 + (1 : Int32)) σ17  h)
  · refine V_iload 159 6 O dX12_beds_159 rfl ?_
    have J19 : V G x σ17 [(0, .ref (zad G 71)), (4, .int x4), (5, .int x5), (6, .int x6), (8, .int x8), (9, .int x9), (10, .int x10)] 169 [.int (if x10 < 0 then (0 : Int32) else (1 : Int32))] := by
      refine V_topi h (fun v21 h => ?_)
      exact V_sub [0, 1, 2, 3, 4, 5, 6] rfl (b_X12_beds_169 O E n rc136 H136 rc146 H146 x4 x5 x6 x8 x9 x10 v21 σ17  h)
    refine V_if_ltc 161 168 O dX12_beds_161 rfl (fun c20 => ?_) (fun c20 => ?_)
    · refine V_iconst 168 O dX12_beds_168 ci_0 ?_
      exact V_top (by rw [if_pos c20]) J19
    · refine V_iconst 164 O dX12_beds_164 ci_1 ?_
      refine V_goto 165 169 O dX12_beds_165 rfl ?_
      exact V_top (by rw [if_neg c20]) J19
theorem bl_X12_beds_146 {G : zG} {x : zX} {r : Int32} {τ : Sg} (O : zO G x cX12_beds RX12 4 160 11) (E : zE G x (some (.int)) (some (.int r)) τ) (n : Nat) (rc136 : Int32 → Int32 → Int32 → Int32 → Int32 → Sg → Option (Int32 × Sg)) (H136 : ∀ (x4 : Int32) (x5 : Int32) (x6 : Int32) (x8 : Int32) (x9 : Int32) (σ : Sg), rc136 x4 x5 x6 x8 x9 σ = some (r, τ) → V G x σ [(0, .ref (zad G 71)), (4, .int x4), (5, .int x5), (6, .int x6), (8, .int x8), (9, .int x9)] 136 []) : ∀ (k : Nat) (x4 : Int32) (x5 : Int32) (x6 : Int32) (x8 : Int32) (x9 : Int32) (x10 : Int32) (σ : Sg), s_X12_beds_146 n rc136 k x4 x5 x6 x8 x9 x10 σ = some (r, τ) → V G x σ [(0, .ref (zad G 71)), (4, .int x4), (5, .int x5), (6, .int x6), (8, .int x8), (9, .int x9), (10, .int x10)] 146 [] := by
  intro k
  induction k with
  | zero => intro x4 x5 x6 x8 x9 x10 σ  h; cases h
  | succ k ih => intro x4 x5 x6 x8 x9 x10 σ  h; exact b_X12_beds_146 O E n rc136 H136 (s_X12_beds_146 n rc136 k) ih x4 x5 x6 x8 x9 x10 σ  h
set_option maxRecDepth 20000 in
theorem b_X12_beds_136 {G : zG} {x : zX} {r : Int32} {τ : Sg} (O : zO G x cX12_beds RX12 4 160 11) (E : zE G x (some (.int)) (some (.int r)) τ) (n : Nat) (rc136 : Int32 → Int32 → Int32 → Int32 → Int32 → Sg → Option (Int32 × Sg)) (H136 : ∀ (x4 : Int32) (x5 : Int32) (x6 : Int32) (x8 : Int32) (x9 : Int32) (σ : Sg), rc136 x4 x5 x6 x8 x9 σ = some (r, τ) → V G x σ [(0, .ref (zad G 71)), (4, .int x4), (5, .int x5), (6, .int x6), (8, .int x8), (9, .int x9)] 136 []) (x4 : Int32) (x5 : Int32) (x6 : Int32) (x8 : Int32) (x9 : Int32) (σ : Sg) (h : s_X12_beds_136b n rc136 x4 x5 x6 x8 x9 σ = some (r, τ)) : V G x σ [(0, .ref (zad G 71)), (4, .int x4), (5, .int x5), (6, .int x6), (8, .int x8), (9, .int x9)] 136 [] := by
  unfold s_X12_beds_136b at h
  refine V_iload 136 5 O dX12_beds_136 rfl ?_
  refine V_iload 138 2 O dX12_beds_138 rfl ?_
  refine V_icmp_gt 140 240 O dX12_beds_140 rfl h (fun h => ?_) (fun h => ?_)
  · refine V_iconst 240 O dX12_beds_240 ci_m1 ?_
    exact V_iret 241 O E dX12_beds_241 h
  · refine V_iconst 143 O dX12_beds_143 ci_m1 ?_
    refine V_istore 144 [1, 2, 3, 4, 5, 6, 0] [(0, .ref (zad G 71)), (4, .int x4), (5, .int x5), (6, .int x6), (8, .int x8), (9, .int x9), (10, .int (-1 : Int32))] O dX12_beds_144 (Nat.le_of_ble_eq_true rfl) rfl ?_
    exact V_sub [0, 1, 2, 3, 4, 5, 6] rfl (bl_X12_beds_146 O E n rc136 H136 n x4 x5 x6 x8 x9 (-1 : Int32) σ  h)
theorem bl_X12_beds_136 {G : zG} {x : zX} {r : Int32} {τ : Sg} (O : zO G x cX12_beds RX12 4 160 11) (E : zE G x (some (.int)) (some (.int r)) τ) (n : Nat) : ∀ (k : Nat) (x4 : Int32) (x5 : Int32) (x6 : Int32) (x8 : Int32) (x9 : Int32) (σ : Sg), s_X12_beds_136 n k x4 x5 x6 x8 x9 σ = some (r, τ) → V G x σ [(0, .ref (zad G 71)), (4, .int x4), (5, .int x5), (6, .int x6), (8, .int x8), (9, .int x9)] 136 [] := by
  intro k
  induction k with
  | zero => intro x4 x5 x6 x8 x9 σ  h; cases h
  | succ k ih => intro x4 x5 x6 x8 x9 σ  h; exact b_X12_beds_136 O E n  (s_X12_beds_136 n  k) ih x4 x5 x6 x8 x9 σ  h
set_option maxRecDepth 20000 in
theorem C_X12_beds {l : Launch} {G : zG} {n : Nat} {x1 : Int32} {x2 : Int32} {x3 : Int32} {x4 : Int32} {x5 : Int32} {x6 : Int32} {σ : Sg} {r : Int32} {τ : Sg} (h : s_X12_beds n x1 x2 x3 x4 x5 x6 σ = some (r, τ)) : zM l G 4 yX12_beds (.code yX12_beds cX12_beds 11 (some (.int))) [.ref (zad G 71), .int x1, .int x2, .int x3, .int x4, .int x5, .int x6] σ (some (.int r)) τ := by
  refine zM_of (by decide) (Nat.le_of_ble_eq_true rfl) (fun x O E => ?_)
  have O : zO G x cX12_beds RX12 4 160 11 := O
  unfold s_X12_beds at h
  show V G x σ [(0, .ref (zad G 71)), (1, .int x1), (2, .int x2), (3, .int x3), (4, .int x4), (5, .int x5), (6, .int x6)] 0 []
  refine V_iloadn 0 1 O dX12_beds_0 rfl rfl ?_
  refine V_i2l 1 O dX12_beds_1 ?_
  refine V_lconst 2 O dX12_beds_2 cl_1 ?_
  refine V_ldc2 3 O dX12_beds_3 ld_X12_376 ?_
  obtain ⟨r2, σ1, g, h⟩ := bd_of h
  refine V_callSi 6 [.long x1.toInt64, .long (1 : Int64), .long (3 : Int64)] [] O mf_X12_in lk_X12_162 dX12_beds_6 rfl rfl (Nat.le_of_ble_eq_true rfl) ⟨(Nat.le_of_ble_eq_true rfl), (Nat.le_of_ble_eq_true rfl)⟩ (fun l => C_X12_in  g) ?_
  refine V_if_eq 9 62 O dX12_beds_9 rfl h (fun h => ?_) (fun h => ?_)
  · refine V_sipush 62 O dX12_beds_62 cs_m1002 ?_
    exact V_iret 65 O E dX12_beds_65 h
  · refine V_iloadn 12 2 O dX12_beds_12 rfl rfl ?_
    refine V_i2l 13 O dX12_beds_13 ?_
    refine V_lconst 14 O dX12_beds_14 cl_1 ?_
    refine V_ldc2 15 O dX12_beds_15 ld_X12_180 ?_
    obtain ⟨r4, σ3, g, h⟩ := bd_of h
    refine V_callSi 18 [.long x2.toInt64, .long (1 : Int64), .long (99 : Int64)] [] O mf_X12_in lk_X12_162 dX12_beds_18 rfl rfl (Nat.le_of_ble_eq_true rfl) ⟨(Nat.le_of_ble_eq_true rfl), (Nat.le_of_ble_eq_true rfl)⟩ (fun l => C_X12_in  g) ?_
    refine V_if_eq 21 62 O dX12_beds_21 rfl h (fun h => ?_) (fun h => ?_)
    · refine V_sipush 62 O dX12_beds_62 cs_m1002 ?_
      exact V_iret 65 O E dX12_beds_65 h
    · refine V_iloadn 24 3 O dX12_beds_24 rfl rfl ?_
      refine V_i2l 25 O dX12_beds_25 ?_
      refine V_lconst 26 O dX12_beds_26 cl_0 ?_
      refine V_ldc2 27 O dX12_beds_27 ld_X12_439 ?_
      obtain ⟨r6, σ5, g, h⟩ := bd_of h
      refine V_callSi 30 [.long x3.toInt64, .long (0 : Int64), .long (30 : Int64)] [] O mf_X12_in lk_X12_162 dX12_beds_30 rfl rfl (Nat.le_of_ble_eq_true rfl) ⟨(Nat.le_of_ble_eq_true rfl), (Nat.le_of_ble_eq_true rfl)⟩ (fun l => C_X12_in  g) ?_
      refine V_if_eq 33 62 O dX12_beds_33 rfl h (fun h => ?_) (fun h => ?_)
      · refine V_sipush 62 O dX12_beds_62 cs_m1002 ?_
        exact V_iret 65 O E dX12_beds_65 h
      · refine V_iload 36 4 O dX12_beds_36 rfl ?_
        refine V_i2l 38 O dX12_beds_38 ?_
        refine V_lconst 39 O dX12_beds_39 cl_0 ?_
        refine V_ldc2 40 O dX12_beds_40 ld_X12_441 ?_
        obtain ⟨r8, σ7, g, h⟩ := bd_of h
        refine V_callSi 43 [.long x4.toInt64, .long (0 : Int64), .long (297 : Int64)] [] O mf_X12_in lk_X12_162 dX12_beds_43 rfl rfl (Nat.le_of_ble_eq_true rfl) ⟨(Nat.le_of_ble_eq_true rfl), (Nat.le_of_ble_eq_true rfl)⟩ (fun l => C_X12_in  g) ?_
        refine V_if_eq 46 62 O dX12_beds_46 rfl h (fun h => ?_) (fun h => ?_)
        · refine V_sipush 62 O dX12_beds_62 cs_m1002 ?_
          exact V_iret 65 O E dX12_beds_65 h
        · refine V_iload 49 5 O dX12_beds_49 rfl ?_
          refine V_i2l 51 O dX12_beds_51 ?_
          refine V_lconst 52 O dX12_beds_52 cl_0 ?_
          refine V_ldc2 53 O dX12_beds_53 ld_X12_443 ?_
          obtain ⟨r10, σ9, g, h⟩ := bd_of h
          refine V_callSi 56 [.long x5.toInt64, .long (0 : Int64), .long (20 : Int64)] [] O mf_X12_in lk_X12_162 dX12_beds_56 rfl rfl (Nat.le_of_ble_eq_true rfl) ⟨(Nat.le_of_ble_eq_true rfl), (Nat.le_of_ble_eq_true rfl)⟩ (fun l => C_X12_in  g) ?_
          refine V_if_ne 59 66 O dX12_beds_59 rfl h (fun h => ?_) (fun h => ?_)
          · refine V_aloadn 66 0 O dX12_beds_66 rfl rfl ?_
            refine V_iloadn 67 1 O dX12_beds_67 rfl rfl ?_
            refine V_put 68 O k71 fp_X12_412 dX12_beds_68 h (fun σ11 h => ?_)
            refine V_aloadn 71 0 O dX12_beds_71 rfl rfl ?_
            refine V_iloadn 72 2 O dX12_beds_72 rfl rfl ?_
            refine V_put 73 O k71 fp_X12_415 dX12_beds_73 h (fun σ12 h => ?_)
            refine V_aloadn 76 0 O dX12_beds_76 rfl rfl ?_
            refine V_iloadn 77 3 O dX12_beds_77 rfl rfl ?_
            refine V_put 78 O k71 fp_X12_418 dX12_beds_78 h (fun σ13 h => ?_)
            refine V_aloadn 81 0 O dX12_beds_81 rfl rfl ?_
            refine V_iload 82 4 O dX12_beds_82 rfl ?_
            refine V_put 84 O k71 fp_X12_433 dX12_beds_84 h (fun σ14 h => ?_)
            refine V_aloadn 87 0 O dX12_beds_87 rfl rfl ?_
            refine V_iload 88 5 O dX12_beds_88 rfl ?_
            obtain ⟨σ15, g, h⟩ := bdv_of h
            refine V_callVv 90 [.int x5] [] O mf_X12_findBeds lk_X12_445 k71 dX12_beds_90 rfl rfl (Nat.le_of_ble_eq_true rfl) ⟨(Nat.le_of_ble_eq_true rfl), (Nat.le_of_ble_eq_true rfl)⟩ (fun l => C_X12_findBeds  g) ?_
            refine V_aloadn 93 0 O dX12_beds_93 rfl rfl ?_
            refine V_getR 94 O k71 fl_X12_154 rf71_69 dX12_beds_94 ?_
            refine V_iconst 97 O dX12_beds_97 ci_0 ?_
            refine V_iald 98 O k117 dX12_beds_98 h (fun h => ?_)
            refine V_topi h (fun v16 h => ?_)
            refine V_istore 99 [1, 2, 3, 4, 5, 6, 7, 0] [(0, .ref (zad G 71)), (1, .int x1), (2, .int x2), (3, .int x3), (4, .int x4), (5, .int x5), (6, .int x6), (7, .int v16)] O dX12_beds_99 (Nat.le_of_ble_eq_true rfl) rfl ?_
            refine V_iload 101 6 O dX12_beds_101 rfl ?_
            refine V_iconst 103 O dX12_beds_103 ci_m1 ?_
            refine V_icmp_eq 104 115 O dX12_beds_104 rfl h (fun h => ?_) (fun h => ?_)
            · exact V_sub [7] rfl (b_X12_beds_115 O E n  v16 σ15  h)
            · refine V_iload 107 7 O dX12_beds_107 rfl ?_
              refine V_ldcw 109 O dX12_beds_109 kc_X12_378 ?_
              refine V_icmp_lt 112 130 O dX12_beds_112 rfl h (fun h => ?_) (fun h => ?_)
              · refine V_iconst 130 O dX12_beds_130 ci_0 ?_
                refine V_istore 131 [1, 2, 3, 4, 5, 6, 7, 8, 0] [(0, .ref (zad G 71)), (1, .int x1), (2, .int x2), (3, .int x3), (4, .int x4), (5, .int x5), (6, .int x6), (7, .int v16), (8, .int (0 : Int32))] O dX12_beds_131 (Nat.le_of_ble_eq_true rfl) rfl ?_
                refine V_iconst 133 O dX12_beds_133 ci_0 ?_
                refine V_istore 134 [1, 2, 3, 4, 5, 6, 7, 8, 9, 0] [(0, .ref (zad G 71)), (1, .int x1), (2, .int x2), (3, .int x3), (4, .int x4), (5, .int x5), (6, .int x6), (7, .int v16), (8, .int (0 : Int32)), (9, .int (0 : Int32))] O dX12_beds_134 (Nat.le_of_ble_eq_true rfl) rfl ?_
                exact V_sub [0, 4, 5, 6, 8, 9] rfl (bl_X12_beds_136 O E n  n x4 x5 x6 (0 : Int32) (0 : Int32) σ15  h)
              · exact V_sub [7] rfl (b_X12_beds_115 O E n  v16 σ15  h)
          · refine V_sipush 62 O dX12_beds_62 cs_m1002 ?_
            exact V_iret 65 O E dX12_beds_65 h
-- ==== WaterTownModel.river(II)I
def s_X12_river (n : Nat) (x1 : Int32) (x2 : Int32) (σ : Sg) : Option (Int32 × Sg) := bd (s_X12_in n x1.toInt64 (0 : Int64) (30 : Int64) σ) fun r2 σ1 => if r2 = 0 then (some ((-1002 : Int32), σ1)) else (bd (s_X12_in n x2.toInt64 (0 : Int64) (9999 : Int64) σ1) fun r4 σ3 => if r4 = 0 then (some ((-1002 : Int32), σ3)) else (ck x1 31 (lt (σ3 118 (ix x1)) fun v5 => ck x1 31 (lt (up2 σ3 118 (ix x1) x2) fun σ6 => some (v5, σ6)))))
set_option maxRecDepth 20000 in
theorem C_X12_river {l : Launch} {G : zG} {n : Nat} {x1 : Int32} {x2 : Int32} {σ : Sg} {r : Int32} {τ : Sg} (h : s_X12_river n x1 x2 σ = some (r, τ)) : zM l G 1 yX12_river (.code yX12_river cX12_river 4 (some (.int))) [.ref (zad G 71), .int x1, .int x2] σ (some (.int r)) τ := by
  refine zM_of (by decide) (Nat.le_of_ble_eq_true rfl) (fun x O E => ?_)
  have O : zO G x cX12_river RX12 1 40 4 := O
  unfold s_X12_river at h
  show V G x σ [(0, .ref (zad G 71)), (1, .int x1), (2, .int x2)] 0 []
  refine V_iloadn 0 1 O dX12_river_0 rfl rfl ?_
  refine V_i2l 1 O dX12_river_1 ?_
  refine V_lconst 2 O dX12_river_2 cl_0 ?_
  refine V_ldc2 3 O dX12_river_3 ld_X12_439 ?_
  obtain ⟨r2, σ1, g, h⟩ := bd_of h
  refine V_callSi 6 [.long x1.toInt64, .long (0 : Int64), .long (30 : Int64)] [] O mf_X12_in lk_X12_162 dX12_river_6 rfl rfl (Nat.le_of_ble_eq_true rfl) ⟨(Nat.le_of_ble_eq_true rfl), (Nat.le_of_ble_eq_true rfl)⟩ (fun l => C_X12_in  g) ?_
  refine V_if_eq 9 24 O dX12_river_9 rfl h (fun h => ?_) (fun h => ?_)
  · refine V_sipush 24 O dX12_river_24 cs_m1002 ?_
    exact V_iret 27 O E dX12_river_27 h
  · refine V_iloadn 12 2 O dX12_river_12 rfl rfl ?_
    refine V_i2l 13 O dX12_river_13 ?_
    refine V_lconst 14 O dX12_river_14 cl_0 ?_
    refine V_ldc2 15 O dX12_river_15 ld_X12_192 ?_
    obtain ⟨r4, σ3, g, h⟩ := bd_of h
    refine V_callSi 18 [.long x2.toInt64, .long (0 : Int64), .long (9999 : Int64)] [] O mf_X12_in lk_X12_162 dX12_river_18 rfl rfl (Nat.le_of_ble_eq_true rfl) ⟨(Nat.le_of_ble_eq_true rfl), (Nat.le_of_ble_eq_true rfl)⟩ (fun l => C_X12_in  g) ?_
    refine V_if_ne 21 28 O dX12_river_21 rfl h (fun h => ?_) (fun h => ?_)
    · refine V_aloadn 28 0 O dX12_river_28 rfl rfl ?_
      refine V_getR 29 O k71 fl_X12_157 rf71_74 dX12_river_29 ?_
      refine V_iloadn 32 1 O dX12_river_32 rfl rfl ?_
      refine V_iald 33 O k118 dX12_river_33 h (fun h => ?_)
      refine V_topi h (fun v5 h => ?_)
      refine V_istoren 34 [1, 2, 3, 0] [(0, .ref (zad G 71)), (1, .int x1), (2, .int x2), (3, .int v5)] O dX12_river_34 rfl (Nat.le_of_ble_eq_true rfl) rfl ?_
      refine V_aloadn 35 0 O dX12_river_35 rfl rfl ?_
      refine V_getR 36 O k71 fl_X12_157 rf71_74 dX12_river_36 ?_
      refine V_iloadn 39 1 O dX12_river_39 rfl rfl ?_
      refine V_iloadn 40 2 O dX12_river_40 rfl rfl ?_
      refine V_iast 41 O k118 dX12_river_41 h (fun σ6 h => ?_)
      refine V_iloadn 42 3 O dX12_river_42 rfl rfl ?_
      exact V_iret 43 O E dX12_river_43 h
    · refine V_sipush 24 O dX12_river_24 cs_m1002 ?_
      exact V_iret 27 O E dX12_river_27 h
-- ==== WaterTownModel.share(IIII)I
def s_X12_share_121 (n : Nat) (rc68 : Int32 → Int32 → Int32 → Int32 → Int32 → Int32 → Int32 → Int32 → Int32 → Sg → Option (Int32 × Sg)) (x1 : Int32) (x2 : Int32) (x3 : Int32) (x4 : Int32) (x6 : Int32) (x7 : Int32) (x8 : Int32) (x9 : Int32) (x10 : Int32) (x11 : Int32) (y0 : Int32) (σ : Sg) : Option (Int32 × Sg) := lt (x6 + x10) fun v17 => lt (x7 + x11) fun v18 => ck x9 31 (lt (x8 + (((σ 118 (ix x9)) - x10) - x11)) fun v19 => rc68 x1 x2 x3 x4 y0 v17 v18 v19 (x9 + (1 : Int32)) σ)
def s_X12_share_68b (n : Nat) (rc68 : Int32 → Int32 → Int32 → Int32 → Int32 → Int32 → Int32 → Int32 → Int32 → Sg → Option (Int32 × Sg)) (x1 : Int32) (x2 : Int32) (x3 : Int32) (x4 : Int32) (x5 : Int32) (x6 : Int32) (x7 : Int32) (x8 : Int32) (x9 : Int32) (σ : Sg) : Option (Int32 × Sg) := if x3 < x9 then (if x4 = 0 then (some (x5, σ)) else (if x4 = (1 : Int32) then (some (x6, σ)) else (if x4 = (2 : Int32) then (some (x7, σ)) else (some (x8, σ))))) else (ck x9 31 (bd (s_X12_least n x1 (σ 118 (ix x9)) σ) fun r10 σ9 => ck x9 31 (bd (s_X12_least n x2 ((σ9 118 (ix x9)) - r10) σ9) fun r12 σ11 => lt (if x2 ≤ r12 then x5 else if 0 ≤ x5 then x5 else x9) fun v16 => s_X12_share_121 n rc68 x1 x2 x3 x4 x6 x7 x8 x9 r10 r12 v16 σ11)))
def s_X12_share_68 (n : Nat) : Nat → Int32 → Int32 → Int32 → Int32 → Int32 → Int32 → Int32 → Int32 → Int32 → Sg → Option (Int32 × Sg)
  | 0 => fun _ _ _ _ _ _ _ _ _ _ => none
  | k + 1 => s_X12_share_68b n (s_X12_share_68 n k)
def s_X12_share (n : Nat) (x1 : Int32) (x2 : Int32) (x3 : Int32) (x4 : Int32) (σ : Sg) : Option (Int32 × Sg) := bd (s_X12_in n x1.toInt64 (0 : Int64) (9999 : Int64) σ) fun r2 σ1 => if r2 = 0 then (some ((-1002 : Int32), σ1)) else (bd (s_X12_in n x2.toInt64 (0 : Int64) (9999 : Int64) σ1) fun r4 σ3 => if r4 = 0 then (some ((-1002 : Int32), σ3)) else (bd (s_X12_in n x3.toInt64 (0 : Int64) (30 : Int64) σ3) fun r6 σ5 => if r6 = 0 then (some ((-1002 : Int32), σ5)) else (bd (s_X12_in n x4.toInt64 (0 : Int64) (3 : Int64) σ5) fun r8 σ7 => if r8 = 0 then (some ((-1002 : Int32), σ7)) else (s_X12_share_68 n n x1 x2 x3 x4 (-1 : Int32) (0 : Int32) (0 : Int32) (0 : Int32) (0 : Int32) σ7))))
set_option maxRecDepth 20000 in
theorem b_X12_share_121 {G : zG} {x : zX} {r : Int32} {τ : Sg} (O : zO G x cX12_share RX12 1 40 12) (E : zE G x (some (.int)) (some (.int r)) τ) (n : Nat) (rc68 : Int32 → Int32 → Int32 → Int32 → Int32 → Int32 → Int32 → Int32 → Int32 → Sg → Option (Int32 × Sg)) (H68 : ∀ (x1 : Int32) (x2 : Int32) (x3 : Int32) (x4 : Int32) (x5 : Int32) (x6 : Int32) (x7 : Int32) (x8 : Int32) (x9 : Int32) (σ : Sg), rc68 x1 x2 x3 x4 x5 x6 x7 x8 x9 σ = some (r, τ) → V G x σ [(0, .ref (zad G 71)), (1, .int x1), (2, .int x2), (3, .int x3), (4, .int x4), (5, .int x5), (6, .int x6), (7, .int x7), (8, .int x8), (9, .int x9)] 68 []) (x1 : Int32) (x2 : Int32) (x3 : Int32) (x4 : Int32) (x6 : Int32) (x7 : Int32) (x8 : Int32) (x9 : Int32) (x10 : Int32) (x11 : Int32) (y0 : Int32) (σ : Sg) (h : s_X12_share_121 n rc68 x1 x2 x3 x4 x6 x7 x8 x9 x10 x11 y0 σ = some (r, τ)) : V G x σ [(0, .ref (zad G 71)), (1, .int x1), (2, .int x2), (3, .int x3), (4, .int x4), (6, .int x6), (7, .int x7), (8, .int x8), (9, .int x9), (10, .int x10), (11, .int x11)] 121 [.int y0] := by
  unfold s_X12_share_121 at h
  refine V_istore 121 [1, 2, 3, 4, 5, 0, 6, 7, 8, 9, 10, 11] [(0, .ref (zad G 71)), (1, .int x1), (2, .int x2), (3, .int x3), (4, .int x4), (5, .int y0), (6, .int x6), (7, .int x7), (8, .int x8), (9, .int x9), (10, .int x10), (11, .int x11)] O dX12_share_121 (Nat.le_of_ble_eq_true rfl) rfl ?_
  refine V_iload 123 6 O dX12_share_123 rfl ?_
  refine V_iload 125 10 O dX12_share_125 rfl ?_
  refine V_iadd 127 O dX12_share_127 ?_
  refine V_topi h (fun v17 h => ?_)
  refine V_istore 128 [1, 2, 3, 4, 5, 6, 0, 7, 8, 9, 10, 11] [(0, .ref (zad G 71)), (1, .int x1), (2, .int x2), (3, .int x3), (4, .int x4), (5, .int y0), (6, .int v17), (7, .int x7), (8, .int x8), (9, .int x9), (10, .int x10), (11, .int x11)] O dX12_share_128 (Nat.le_of_ble_eq_true rfl) rfl ?_
  refine V_iload 130 7 O dX12_share_130 rfl ?_
  refine V_iload 132 11 O dX12_share_132 rfl ?_
  refine V_iadd 134 O dX12_share_134 ?_
  refine V_topi h (fun v18 h => ?_)
  refine V_istore 135 [1, 2, 3, 4, 5, 6, 7, 0, 8, 9, 10, 11] [(0, .ref (zad G 71)), (1, .int x1), (2, .int x2), (3, .int x3), (4, .int x4), (5, .int y0), (6, .int v17), (7, .int v18), (8, .int x8), (9, .int x9), (10, .int x10), (11, .int x11)] O dX12_share_135 (Nat.le_of_ble_eq_true rfl) rfl ?_
  refine V_iload 137 8 O dX12_share_137 rfl ?_
  refine V_aloadn 139 0 O dX12_share_139 rfl rfl ?_
  refine V_getR 140 O k71 fl_X12_157 rf71_74 dX12_share_140 ?_
  refine V_iload 143 9 O dX12_share_143 rfl ?_
  refine V_iald 145 O k118 dX12_share_145 h (fun h => ?_)
  refine V_iload 146 10 O dX12_share_146 rfl ?_
  refine V_isub 148 O dX12_share_148 ?_
  refine V_iload 149 11 O dX12_share_149 rfl ?_
  refine V_isub 151 O dX12_share_151 ?_
  refine V_iadd 152 O dX12_share_152 ?_
  refine V_topi h (fun v19 h => ?_)
  refine V_istore 153 [1, 2, 3, 4, 5, 6, 7, 8, 0, 9, 10, 11] [(0, .ref (zad G 71)), (1, .int x1), (2, .int x2), (3, .int x3), (4, .int x4), (5, .int y0), (6, .int v17), (7, .int v18), (8, .int v19), (9, .int x9), (10, .int x10), (11, .int x11)] O dX12_share_153 (Nat.le_of_ble_eq_true rfl) rfl ?_
  refine V_iinc 155 9 [1, 2, 3, 4, 5, 6, 7, 8, 9, 0, 10, 11] [(0, .ref (zad G 71)), (1, .int x1), (2, .int x2), (3, .int x3), (4, .int x4), (5, .int y0), (6, .int v17), (7, .int v18), (8, .int v19), (9, .int (x9 + (1 : Int32))), (10, .int x10), (11, .int x11)] O dX12_share_155 rfl ci_1 (Nat.le_of_ble_eq_true rfl) rfl ?_
  refine V_goto 158 68 O dX12_share_158 rfl ?_
  exact V_sub [0, 1, 2, 3, 4, 5, 6, 7, 8, 9] rfl (H68 x1 x2 x3 x4 y0 v17 v18 v19 (x9 + (1 : Int32)) σ  h)
set_option maxRecDepth 20000 in
theorem b_X12_share_68 {G : zG} {x : zX} {r : Int32} {τ : Sg} (O : zO G x cX12_share RX12 1 40 12) (E : zE G x (some (.int)) (some (.int r)) τ) (n : Nat) (rc68 : Int32 → Int32 → Int32 → Int32 → Int32 → Int32 → Int32 → Int32 → Int32 → Sg → Option (Int32 × Sg)) (H68 : ∀ (x1 : Int32) (x2 : Int32) (x3 : Int32) (x4 : Int32) (x5 : Int32) (x6 : Int32) (x7 : Int32) (x8 : Int32) (x9 : Int32) (σ : Sg), rc68 x1 x2 x3 x4 x5 x6 x7 x8 x9 σ = some (r, τ) → V G x σ [(0, .ref (zad G 71)), (1, .int x1), (2, .int x2), (3, .int x3), (4, .int x4), (5, .int x5), (6, .int x6), (7, .int x7), (8, .int x8), (9, .int x9)] 68 []) (x1 : Int32) (x2 : Int32) (x3 : Int32) (x4 : Int32) (x5 : Int32) (x6 : Int32) (x7 : Int32) (x8 : Int32) (x9 : Int32) (σ : Sg) (h : s_X12_share_68b n rc68 x1 x2 x3 x4 x5 x6 x7 x8 x9 σ = some (r, τ)) : V G x σ [(0, .ref (zad G 71)), (1, .int x1), (2, .int x2), (3, .int x3), (4, .int x4), (5, .int x5), (6, .int x6), (7, .int x7), (8, .int x8), (9, .int x9)] 68 [] := by
  unfold s_X12_share_68b at h
  refine V_iload 68 9 O dX12_share_68 rfl ?_
  refine V_iloadn 70 3 O dX12_share_70 rfl rfl ?_
  refine V_icmp_gt 71 161 O dX12_share_71 rfl h (fun h => ?_) (fun h => ?_)
  · refine V_iload 161 4 O dX12_share_161 rfl ?_
    refine V_if_ne 163 171 O dX12_share_163 rfl h (fun h => ?_) (fun h => ?_)
    · refine V_iload 171 4 O dX12_share_171 rfl ?_
      refine V_iconst 173 O dX12_share_173 ci_1 ?_
      refine V_icmp_ne 174 182 O dX12_share_174 rfl h (fun h => ?_) (fun h => ?_)
      · refine V_iload 182 4 O dX12_share_182 rfl ?_
        refine V_iconst 184 O dX12_share_184 ci_2 ?_
        refine V_icmp_ne 185 193 O dX12_share_185 rfl h (fun h => ?_) (fun h => ?_)
        · refine V_iload 193 8 O dX12_share_193 rfl ?_
          exact V_iret 195 O E dX12_share_195 h
        · refine V_iload 188 7 O dX12_share_188 rfl ?_
          refine V_goto 190 195 O dX12_share_190 rfl ?_
          exact V_iret 195 O E dX12_share_195 h
      · refine V_iload 177 6 O dX12_share_177 rfl ?_
        refine V_goto 179 195 O dX12_share_179 rfl ?_
        exact V_iret 195 O E dX12_share_195 h
    · refine V_iload 166 5 O dX12_share_166 rfl ?_
      refine V_goto 168 195 O dX12_share_168 rfl ?_
      exact V_iret 195 O E dX12_share_195 h
  · refine V_iloadn 74 1 O dX12_share_74 rfl rfl ?_
    refine V_aloadn 75 0 O dX12_share_75 rfl rfl ?_
    refine V_getR 76 O k71 fl_X12_157 rf71_74 dX12_share_76 ?_
    refine V_iload 79 9 O dX12_share_79 rfl ?_
    refine V_iald 81 O k118 dX12_share_81 h (fun h => ?_)
    obtain ⟨r10, σ9, g, h⟩ := bd_of h
    refine V_callSi 82 [.int x1, .int (σ 118 (ix x9))] [] O mf_X12_least lk_X12_299 dX12_share_82 rfl rfl (Nat.le_of_ble_eq_true rfl) ⟨(Nat.le_of_ble_eq_true rfl), (Nat.le_of_ble_eq_true rfl)⟩ (fun l => C_X12_least  g) ?_
    refine V_istore 85 [1, 2, 3, 4, 5, 6, 7, 8, 9, 10, 0] [(0, .ref (zad G 71)), (1, .int x1), (2, .int x2), (3, .int x3), (4, .int x4), (5, .int x5), (6, .int x6), (7, .int x7), (8, .int x8), (9, .int x9), (10, .int r10)] O dX12_share_85 (Nat.le_of_ble_eq_true rfl) rfl ?_
    refine V_iloadn 87 2 O dX12_share_87 rfl rfl ?_
    refine V_aloadn 88 0 O dX12_share_88 rfl rfl ?_
    refine V_getR 89 O k71 fl_X12_157 rf71_74 dX12_share_89 ?_
    refine V_iload 92 9 O dX12_share_92 rfl ?_
    refine V_iald 94 O k118 dX12_share_94 h (fun h => ?_)
    refine V_iload 95 10 O dX12_share_95 rfl ?_
    refine V_isub 97 O dX12_share_97 ?_
    obtain ⟨r12, σ11, g, h⟩ := bd_of h
    refine V_callSi 98 [.int x2, .int ((σ9 118 (ix x9)) - r10)] [] O mf_X12_least lk_X12_299 dX12_share_98 rfl rfl (Nat.le_of_ble_eq_true rfl) ⟨(Nat.le_of_ble_eq_true rfl), (Nat.le_of_ble_eq_true rfl)⟩ (fun l => C_X12_least  g) ?_
    refine V_istore 101 [1, 2, 3, 4, 5, 6, 7, 8, 9, 10, 11, 0] [(0, .ref (zad G 71)), (1, .int x1), (2, .int x2), (3, .int x3), (4, .int x4), (5, .int x5), (6, .int x6), (7, .int x7), (8, .int x8), (9, .int x9), (10, .int r10), (11, .int r12)] O dX12_share_101 (Nat.le_of_ble_eq_true rfl) rfl ?_
    refine V_iload 103 11 O dX12_share_103 rfl ?_
    refine V_iloadn 105 2 O dX12_share_105 rfl rfl ?_
    have J13 : V G x σ11 [(0, .ref (zad G 71)), (1, .int x1), (2, .int x2), (3, .int x3), (4, .int x4), (5, .int x5), (6, .int x6), (7, .int x7), (8, .int x8), (9, .int x9), (10, .int r10), (11, .int r12)] 121 [.int (if x2 ≤ r12 then x5 else if 0 ≤ x5 then x5 else x9)] := by
      refine V_topi h (fun v16 h => ?_)
      exact V_sub [0, 1, 2, 3, 4, 6, 7, 8, 9, 10, 11] rfl (b_X12_share_121 O E n rc68 H68 x1 x2 x3 x4 x6 x7 x8 x9 r10 r12 v16 σ11  h)
    refine V_icmp_gec 106 119 O dX12_share_106 rfl (fun c14 => ?_) (fun c14 => ?_)
    · refine V_iload 119 5 O dX12_share_119 rfl ?_
      exact V_top (by rw [if_pos c14]) J13
    · refine V_iload 109 5 O dX12_share_109 rfl ?_
      refine V_if_gec 111 119 O dX12_share_111 rfl (fun c15 => ?_) (fun c15 => ?_)
      · refine V_iload 119 5 O dX12_share_119 rfl ?_
        exact V_top (by rw [if_neg c14, if_pos c15]) J13
      · refine V_iload 114 9 O dX12_share_114 rfl ?_
        refine V_goto 116 121 O dX12_share_116 rfl ?_
        exact V_top (by rw [if_neg c14, if_neg c15]) J13
theorem bl_X12_share_68 {G : zG} {x : zX} {r : Int32} {τ : Sg} (O : zO G x cX12_share RX12 1 40 12) (E : zE G x (some (.int)) (some (.int r)) τ) (n : Nat) : ∀ (k : Nat) (x1 : Int32) (x2 : Int32) (x3 : Int32) (x4 : Int32) (x5 : Int32) (x6 : Int32) (x7 : Int32) (x8 : Int32) (x9 : Int32) (σ : Sg), s_X12_share_68 n k x1 x2 x3 x4 x5 x6 x7 x8 x9 σ = some (r, τ) → V G x σ [(0, .ref (zad G 71)), (1, .int x1), (2, .int x2), (3, .int x3), (4, .int x4), (5, .int x5), (6, .int x6), (7, .int x7), (8, .int x8), (9, .int x9)] 68 [] := by
  intro k
  induction k with
  | zero => intro x1 x2 x3 x4 x5 x6 x7 x8 x9 σ  h; cases h
  | succ k ih => intro x1 x2 x3 x4 x5 x6 x7 x8 x9 σ  h; exact b_X12_share_68 O E n  (s_X12_share_68 n  k) ih x1 x2 x3 x4 x5 x6 x7 x8 x9 σ  h
set_option maxRecDepth 20000 in
theorem C_X12_share {l : Launch} {G : zG} {n : Nat} {x1 : Int32} {x2 : Int32} {x3 : Int32} {x4 : Int32} {σ : Sg} {r : Int32} {τ : Sg} (h : s_X12_share n x1 x2 x3 x4 σ = some (r, τ)) : zM l G 1 yX12_share (.code yX12_share cX12_share 12 (some (.int))) [.ref (zad G 71), .int x1, .int x2, .int x3, .int x4] σ (some (.int r)) τ := by
  refine zM_of (by decide) (Nat.le_of_ble_eq_true rfl) (fun x O E => ?_)
  have O : zO G x cX12_share RX12 1 40 12 := O
  unfold s_X12_share at h
  show V G x σ [(0, .ref (zad G 71)), (1, .int x1), (2, .int x2), (3, .int x3), (4, .int x4)] 0 []
  refine V_iloadn 0 1 O dX12_share_0 rfl rfl ?_
  refine V_i2l 1 O dX12_share_1 ?_
  refine V_lconst 2 O dX12_share_2 cl_0 ?_
  refine V_ldc2 3 O dX12_share_3 ld_X12_192 ?_
  obtain ⟨r2, σ1, g, h⟩ := bd_of h
  refine V_callSi 6 [.long x1.toInt64, .long (0 : Int64), .long (9999 : Int64)] [] O mf_X12_in lk_X12_162 dX12_share_6 rfl rfl (Nat.le_of_ble_eq_true rfl) ⟨(Nat.le_of_ble_eq_true rfl), (Nat.le_of_ble_eq_true rfl)⟩ (fun l => C_X12_in  g) ?_
  refine V_if_eq 9 49 O dX12_share_9 rfl h (fun h => ?_) (fun h => ?_)
  · refine V_sipush 49 O dX12_share_49 cs_m1002 ?_
    exact V_iret 52 O E dX12_share_52 h
  · refine V_iloadn 12 2 O dX12_share_12 rfl rfl ?_
    refine V_i2l 13 O dX12_share_13 ?_
    refine V_lconst 14 O dX12_share_14 cl_0 ?_
    refine V_ldc2 15 O dX12_share_15 ld_X12_192 ?_
    obtain ⟨r4, σ3, g, h⟩ := bd_of h
    refine V_callSi 18 [.long x2.toInt64, .long (0 : Int64), .long (9999 : Int64)] [] O mf_X12_in lk_X12_162 dX12_share_18 rfl rfl (Nat.le_of_ble_eq_true rfl) ⟨(Nat.le_of_ble_eq_true rfl), (Nat.le_of_ble_eq_true rfl)⟩ (fun l => C_X12_in  g) ?_
    refine V_if_eq 21 49 O dX12_share_21 rfl h (fun h => ?_) (fun h => ?_)
    · refine V_sipush 49 O dX12_share_49 cs_m1002 ?_
      exact V_iret 52 O E dX12_share_52 h
    · refine V_iloadn 24 3 O dX12_share_24 rfl rfl ?_
      refine V_i2l 25 O dX12_share_25 ?_
      refine V_lconst 26 O dX12_share_26 cl_0 ?_
      refine V_ldc2 27 O dX12_share_27 ld_X12_439 ?_
      obtain ⟨r6, σ5, g, h⟩ := bd_of h
      refine V_callSi 30 [.long x3.toInt64, .long (0 : Int64), .long (30 : Int64)] [] O mf_X12_in lk_X12_162 dX12_share_30 rfl rfl (Nat.le_of_ble_eq_true rfl) ⟨(Nat.le_of_ble_eq_true rfl), (Nat.le_of_ble_eq_true rfl)⟩ (fun l => C_X12_in  g) ?_
      refine V_if_eq 33 49 O dX12_share_33 rfl h (fun h => ?_) (fun h => ?_)
      · refine V_sipush 49 O dX12_share_49 cs_m1002 ?_
        exact V_iret 52 O E dX12_share_52 h
      · refine V_iload 36 4 O dX12_share_36 rfl ?_
        refine V_i2l 38 O dX12_share_38 ?_
        refine V_lconst 39 O dX12_share_39 cl_0 ?_
        refine V_ldc2 40 O dX12_share_40 ld_X12_376 ?_
        obtain ⟨r8, σ7, g, h⟩ := bd_of h
        refine V_callSi 43 [.long x4.toInt64, .long (0 : Int64), .long (3 : Int64)] [] O mf_X12_in lk_X12_162 dX12_share_43 rfl rfl (Nat.le_of_ble_eq_true rfl) ⟨(Nat.le_of_ble_eq_true rfl), (Nat.le_of_ble_eq_true rfl)⟩ (fun l => C_X12_in  g) ?_
        refine V_if_ne 46 53 O dX12_share_46 rfl h (fun h => ?_) (fun h => ?_)
        · refine V_iconst 53 O dX12_share_53 ci_m1 ?_
          refine V_istore 54 [1, 2, 3, 4, 5, 0] [(0, .ref (zad G 71)), (1, .int x1), (2, .int x2), (3, .int x3), (4, .int x4), (5, .int (-1 : Int32))] O dX12_share_54 (Nat.le_of_ble_eq_true rfl) rfl ?_
          refine V_iconst 56 O dX12_share_56 ci_0 ?_
          refine V_istore 57 [1, 2, 3, 4, 5, 6, 0] [(0, .ref (zad G 71)), (1, .int x1), (2, .int x2), (3, .int x3), (4, .int x4), (5, .int (-1 : Int32)), (6, .int (0 : Int32))] O dX12_share_57 (Nat.le_of_ble_eq_true rfl) rfl ?_
          refine V_iconst 59 O dX12_share_59 ci_0 ?_
          refine V_istore 60 [1, 2, 3, 4, 5, 6, 7, 0] [(0, .ref (zad G 71)), (1, .int x1), (2, .int x2), (3, .int x3), (4, .int x4), (5, .int (-1 : Int32)), (6, .int (0 : Int32)), (7, .int (0 : Int32))] O dX12_share_60 (Nat.le_of_ble_eq_true rfl) rfl ?_
          refine V_iconst 62 O dX12_share_62 ci_0 ?_
          refine V_istore 63 [1, 2, 3, 4, 5, 6, 7, 8, 0] [(0, .ref (zad G 71)), (1, .int x1), (2, .int x2), (3, .int x3), (4, .int x4), (5, .int (-1 : Int32)), (6, .int (0 : Int32)), (7, .int (0 : Int32)), (8, .int (0 : Int32))] O dX12_share_63 (Nat.le_of_ble_eq_true rfl) rfl ?_
          refine V_iconst 65 O dX12_share_65 ci_0 ?_
          refine V_istore 66 [1, 2, 3, 4, 5, 6, 7, 8, 9, 0] [(0, .ref (zad G 71)), (1, .int x1), (2, .int x2), (3, .int x3), (4, .int x4), (5, .int (-1 : Int32)), (6, .int (0 : Int32)), (7, .int (0 : Int32)), (8, .int (0 : Int32)), (9, .int (0 : Int32))] O dX12_share_66 (Nat.le_of_ble_eq_true rfl) rfl ?_
          exact V_sub [0, 1, 2, 3, 4, 5, 6, 7, 8, 9] rfl (bl_X12_share_68 O E n  n x1 x2 x3 x4 (-1 : Int32) (0 : Int32) (0 : Int32) (0 : Int32) (0 : Int32) σ7  h)
        · refine V_sipush 49 O dX12_share_49 cs_m1002 ?_
          exact V_iret 52 O E dX12_share_52 h
-- ==== WaterTownModel.gains()I
def s_X12_gains_39 (n : Nat) (rc12 : Int32 → Int32 → Sg → Option (Int32 × Sg)) (x2 : Int32) (y0 : Int32) (y1 : Int32) (σ : Sg) : Option (Int32 × Sg) := bd (s_X12_one n y0 σ) fun r12 σ11 => lt (y1 + r12) fun v13 => rc12 v13 (x2 + (1 : Int32)) σ11
def s_X12_gains_12b (n : Nat) (rc12 : Int32 → Int32 → Sg → Option (Int32 × Sg)) (x1 : Int32) (x2 : Int32) (σ : Sg) : Option (Int32 × Sg) := if (σ 71 11) ≤ x2 then (some (x1, σ)) else (bd (s_X12_byMeter n x2 σ) fun r5 σ4 => bd (s_X12_byRooms n x2 σ4) fun r7 σ6 => lt (if r7 ≤ r5 then (0 : Int32) else (1 : Int32)) fun v10 => s_X12_gains_39 n rc12 x2 v10 x1 σ6)
def s_X12_gains_12 (n : Nat) : Nat → Int32 → Int32 → Sg → Option (Int32 × Sg)
  | 0 => fun _ _ _ => none
  | k + 1 => s_X12_gains_12b n (s_X12_gains_12 n k)
def s_X12_gains (n : Nat) (σ : Sg) : Option (Int32 × Sg) := bd (s_X12_dayNow n σ) fun r2 σ1 => bdv (s_X12_findRules n r2 σ1) fun σ3 => s_X12_gains_12 n n (0 : Int32) (0 : Int32) σ3
set_option maxRecDepth 20000 in
theorem b_X12_gains_39 {G : zG} {x : zX} {r : Int32} {τ : Sg} (O : zO G x cX12_gains RX12 1 40 3) (E : zE G x (some (.int)) (some (.int r)) τ) (n : Nat) (rc12 : Int32 → Int32 → Sg → Option (Int32 × Sg)) (H12 : ∀ (x1 : Int32) (x2 : Int32) (σ : Sg), rc12 x1 x2 σ = some (r, τ) → V G x σ [(0, .ref (zad G 71)), (1, .int x1), (2, .int x2)] 12 []) (x2 : Int32) (y0 : Int32) (y1 : Int32) (σ : Sg) (h : s_X12_gains_39 n rc12 x2 y0 y1 σ = some (r, τ)) : V G x σ [(0, .ref (zad G 71)), (2, .int x2)] 39 [.int y0, .int y1] := by
  unfold s_X12_gains_39 at h
  obtain ⟨r12, σ11, g, h⟩ := bd_of h
  refine V_callSi 39 [.int y0] [.int y1] O mf_X12_one lk_X12_185 dX12_gains_39 rfl rfl (Nat.le_of_ble_eq_true rfl) ⟨(Nat.le_of_ble_eq_true rfl), (Nat.le_of_ble_eq_true rfl)⟩ (fun l => C_X12_one  g) ?_
  refine V_iadd 42 O dX12_gains_42 ?_
  refine V_topi h (fun v13 h => ?_)
  refine V_istoren 43 [1, 0, 2] [(0, .ref (zad G 71)), (1, .int v13), (2, .int x2)] O dX12_gains_43 rfl (Nat.le_of_ble_eq_true rfl) rfl ?_
  refine V_iinc 44 2 [1, 2, 0] [(0, .ref (zad G 71)), (1, .int v13), (2, .int (x2 + (1 : Int32)))] O dX12_gains_44 rfl ci_1 (Nat.le_of_ble_eq_true rfl) rfl ?_
  refine V_goto 47 12 O dX12_gains_47 rfl ?_
  exact V_sub [0, 1, 2] rfl (H12 v13 (x2 + (1 : Int32)) σ11  h)
set_option maxRecDepth 20000 in
theorem b_X12_gains_12 {G : zG} {x : zX} {r : Int32} {τ : Sg} (O : zO G x cX12_gains RX12 1 40 3) (E : zE G x (some (.int)) (some (.int r)) τ) (n : Nat) (rc12 : Int32 → Int32 → Sg → Option (Int32 × Sg)) (H12 : ∀ (x1 : Int32) (x2 : Int32) (σ : Sg), rc12 x1 x2 σ = some (r, τ) → V G x σ [(0, .ref (zad G 71)), (1, .int x1), (2, .int x2)] 12 []) (x1 : Int32) (x2 : Int32) (σ : Sg) (h : s_X12_gains_12b n rc12 x1 x2 σ = some (r, τ)) : V G x σ [(0, .ref (zad G 71)), (1, .int x1), (2, .int x2)] 12 [] := by
  unfold s_X12_gains_12b at h
  refine V_iloadn 12 2 O dX12_gains_12 rfl rfl ?_
  refine V_aloadn 13 0 O dX12_gains_13 rfl rfl ?_
  refine V_getI 14 O k71 fl_X12_171 dX12_gains_14 ?_
  refine V_icmp_ge 17 50 O dX12_gains_17 rfl h (fun h => ?_) (fun h => ?_)
  · refine V_iloadn 50 1 O dX12_gains_50 rfl rfl ?_
    exact V_iret 51 O E dX12_gains_51 h
  · refine V_iloadn 20 1 O dX12_gains_20 rfl rfl ?_
    refine V_aloadn 21 0 O dX12_gains_21 rfl rfl ?_
    refine V_iloadn 22 2 O dX12_gains_22 rfl rfl ?_
    obtain ⟨r5, σ4, g, h⟩ := bd_of h
    refine V_callVi 23 [.int x2] [.int x1] O mf_X12_byMeter lk_X12_371 k71 dX12_gains_23 rfl rfl (Nat.le_of_ble_eq_true rfl) ⟨(Nat.le_of_ble_eq_true rfl), (Nat.le_of_ble_eq_true rfl)⟩ (fun l => C_X12_byMeter  g) ?_
    refine V_aloadn 26 0 O dX12_gains_26 rfl rfl ?_
    refine V_iloadn 27 2 O dX12_gains_27 rfl rfl ?_
    obtain ⟨r7, σ6, g, h⟩ := bd_of h
    refine V_callVi 28 [.int x2] [.int r5, .int x1] O mf_X12_byRooms lk_X12_368 k71 dX12_gains_28 rfl rfl (Nat.le_of_ble_eq_true rfl) ⟨(Nat.le_of_ble_eq_true rfl), (Nat.le_of_ble_eq_true rfl)⟩ (fun l => C_X12_byRooms  g) ?_
    have J8 : V G x σ6 [(0, .ref (zad G 71)), (1, .int x1), (2, .int x2)] 39 [.int (if r7 ≤ r5 then (0 : Int32) else (1 : Int32)), .int x1] := by
      refine V_topi h (fun v10 h => ?_)
      exact V_sub [0, 2] rfl (b_X12_gains_39 O E n rc12 H12 x2 v10 x1 σ6  h)
    refine V_icmp_gec 31 38 O dX12_gains_31 rfl (fun c9 => ?_) (fun c9 => ?_)
    · refine V_iconst 38 O dX12_gains_38 ci_0 ?_
      exact V_top (by rw [if_pos c9]) J8
    · refine V_iconst 34 O dX12_gains_34 ci_1 ?_
      refine V_goto 35 39 O dX12_gains_35 rfl ?_
      exact V_top (by rw [if_neg c9]) J8
theorem bl_X12_gains_12 {G : zG} {x : zX} {r : Int32} {τ : Sg} (O : zO G x cX12_gains RX12 1 40 3) (E : zE G x (some (.int)) (some (.int r)) τ) (n : Nat) : ∀ (k : Nat) (x1 : Int32) (x2 : Int32) (σ : Sg), s_X12_gains_12 n k x1 x2 σ = some (r, τ) → V G x σ [(0, .ref (zad G 71)), (1, .int x1), (2, .int x2)] 12 [] := by
  intro k
  induction k with
  | zero => intro x1 x2 σ  h; cases h
  | succ k ih => intro x1 x2 σ  h; exact b_X12_gains_12 O E n  (s_X12_gains_12 n  k) ih x1 x2 σ  h
set_option maxRecDepth 20000 in
theorem C_X12_gains {l : Launch} {G : zG} {n : Nat} {σ : Sg} {r : Int32} {τ : Sg} (h : s_X12_gains n σ = some (r, τ)) : zM l G 1 yX12_gains (.code yX12_gains cX12_gains 3 (some (.int))) [.ref (zad G 71)] σ (some (.int r)) τ := by
  refine zM_of (by decide) (Nat.le_of_ble_eq_true rfl) (fun x O E => ?_)
  have O : zO G x cX12_gains RX12 1 40 3 := O
  unfold s_X12_gains at h
  show V G x σ [(0, .ref (zad G 71))] 0 []
  refine V_aloadn 0 0 O dX12_gains_0 rfl rfl ?_
  refine V_aloadn 1 0 O dX12_gains_1 rfl rfl ?_
  obtain ⟨r2, σ1, g, h⟩ := bd_of h
  refine V_callVi 2 [] [.ref (zad G 71)] O mf_X12_dayNow lk_X12_365 k71 dX12_gains_2 rfl rfl (Nat.le_of_ble_eq_true rfl) ⟨(Nat.le_of_ble_eq_true rfl), (Nat.le_of_ble_eq_true rfl)⟩ (fun l => C_X12_dayNow  g) ?_
  obtain ⟨σ3, g, h⟩ := bdv_of h
  refine V_callVv 5 [.int r2] [] O mf_X12_findRules lk_X12_283 k71 dX12_gains_5 rfl rfl (Nat.le_of_ble_eq_true rfl) ⟨(Nat.le_of_ble_eq_true rfl), (Nat.le_of_ble_eq_true rfl)⟩ (fun l => C_X12_findRules  g) ?_
  refine V_iconst 8 O dX12_gains_8 ci_0 ?_
  refine V_istoren 9 [1, 0] [(0, .ref (zad G 71)), (1, .int (0 : Int32))] O dX12_gains_9 rfl (Nat.le_of_ble_eq_true rfl) rfl ?_
  refine V_iconst 10 O dX12_gains_10 ci_0 ?_
  refine V_istoren 11 [1, 2, 0] [(0, .ref (zad G 71)), (1, .int (0 : Int32)), (2, .int (0 : Int32))] O dX12_gains_11 rfl (Nat.le_of_ble_eq_true rfl) rfl ?_
  exact V_sub [0, 1, 2] rfl (bl_X12_gains_12 O E n  n (0 : Int32) (0 : Int32) σ3  h)
-- ==== WaterTownModel.beside(II)I
def s_X12_beside_51b (n : Nat) (rc51 : Int32 → Int32 → Sg → Option (Int32 × Sg)) (x3 : Int32) (x4 : Int32) (σ : Sg) : Option (Int32 × Sg) := if (σ 71 0) ≤ x4 then (lt (up2 σ 71 50 (-1 : Int32)) fun σ9 => bdv (s_X12_keepAll n (1 : Int32) σ9) fun σ10 => some (x3, σ10)) else (bdv (s_X12_findRules n (x4 / (24 : Int32)) σ) fun σ11 => bd (s_X12_doHour n (irm x4 (24 : Int32)) (0 : Int32) σ11) fun r13 σ12 => bd (s_X12_one n r13 σ12) fun r15 σ14 => lt (x3 + r15) fun v16 => rc51 v16 (x4 + (1 : Int32)) σ14)
def s_X12_beside_51 (n : Nat) : Nat → Int32 → Int32 → Sg → Option (Int32 × Sg)
  | 0 => fun _ _ _ => none
  | k + 1 => s_X12_beside_51b n (s_X12_beside_51 n k)
def s_X12_beside (n : Nat) (x1 : Int32) (x2 : Int32) (σ : Sg) : Option (Int32 × Sg) := bd (s_X12_isNode n x1 σ) fun r2 σ1 => if r2 = 0 then (some ((-1001 : Int32), σ1)) else (bd (s_X12_in n x2.toInt64 (0 : Int64) (999 : Int64) σ1) fun r4 σ3 => if r4 = 0 then (some ((-1002 : Int32), σ3)) else (bdv (s_X12_keepAll n (0 : Int32) σ3) fun σ5 => bdv (s_X12_emptyAll n σ5) fun σ6 => lt (up2 σ6 71 50 x1) fun σ7 => lt (up2 σ7 71 51 x2) fun σ8 => s_X12_beside_51 n n (0 : Int32) (0 : Int32) σ8))
set_option maxRecDepth 20000 in
theorem b_X12_beside_51 {G : zG} {x : zX} {r : Int32} {τ : Sg} (O : zO G x cX12_beside RX12 6 240 5) (E : zE G x (some (.int)) (some (.int r)) τ) (n : Nat) (rc51 : Int32 → Int32 → Sg → Option (Int32 × Sg)) (H51 : ∀ (x3 : Int32) (x4 : Int32) (σ : Sg), rc51 x3 x4 σ = some (r, τ) → V G x σ [(0, .ref (zad G 71)), (3, .int x3), (4, .int x4)] 51 []) (x3 : Int32) (x4 : Int32) (σ : Sg) (h : s_X12_beside_51b n rc51 x3 x4 σ = some (r, τ)) : V G x σ [(0, .ref (zad G 71)), (3, .int x3), (4, .int x4)] 51 [] := by
  unfold s_X12_beside_51b at h
  refine V_iload 51 2 O dX12_beside_51 rfl ?_
  refine V_aloadn 53 0 O dX12_beside_53 rfl rfl ?_
  refine V_getI 54 O k71 fl_X12_286 dX12_beside_54 ?_
  refine V_icmp_ge 57 91 O dX12_beside_57 rfl h (fun h => ?_) (fun h => ?_)
  · refine V_aloadn 91 0 O dX12_beside_91 rfl rfl ?_
    refine V_iconst 92 O dX12_beside_92 ci_m1 ?_
    refine V_put 93 O k71 fp_X12_111 dX12_beside_93 h (fun σ9 h => ?_)
    refine V_aloadn 96 0 O dX12_beside_96 rfl rfl ?_
    refine V_iconst 97 O dX12_beside_97 ci_1 ?_
    obtain ⟨σ10, g, h⟩ := bdv_of h
    refine V_callVv 98 [.int (1 : Int32)] [] O mf_X12_keepAll lk_X12_395 k71 dX12_beside_98 rfl rfl (Nat.le_of_ble_eq_true rfl) ⟨(Nat.le_of_ble_eq_true rfl), (Nat.le_of_ble_eq_true rfl)⟩ (fun l => C_X12_keepAll  g) ?_
    refine V_iloadn 101 1 O dX12_beside_101 rfl rfl ?_
    exact V_iret 102 O E dX12_beside_102 h
  · refine V_aloadn 60 0 O dX12_beside_60 rfl rfl ?_
    refine V_iload 61 2 O dX12_beside_61 rfl ?_
    refine V_bipush 63 O dX12_beside_63 cb_24 ?_
    refine V_idivC 65 O dX12_beside_65 (by decide) ?_
    obtain ⟨σ11, g, h⟩ := bdv_of h
    refine V_callVv 66 [.int (x4 / (24 : Int32))] [] O mf_X12_findRules lk_X12_283 k71 dX12_beside_66 rfl rfl (Nat.le_of_ble_eq_true rfl) ⟨(Nat.le_of_ble_eq_true rfl), (Nat.le_of_ble_eq_true rfl)⟩ (fun l => C_X12_findRules  g) ?_
    refine V_iloadn 69 1 O dX12_beside_69 rfl rfl ?_
    refine V_aloadn 70 0 O dX12_beside_70 rfl rfl ?_
    refine V_iload 71 2 O dX12_beside_71 rfl ?_
    refine V_bipush 73 O dX12_beside_73 cb_24 ?_
    refine V_iremC 75 O dX12_beside_75 (by decide) ?_
    refine V_iconst 76 O dX12_beside_76 ci_0 ?_
    obtain ⟨r13, σ12, g, h⟩ := bd_of h
    refine V_callVi 77 [.int (irm x4 (24 : Int32)), .int (0 : Int32)] [.int x3] O mf_X12_doHour lk_X12_345 k71 dX12_beside_77 rfl rfl (Nat.le_of_ble_eq_true rfl) ⟨(Nat.le_of_ble_eq_true rfl), (Nat.le_of_ble_eq_true rfl)⟩ (fun l => C_X12_doHour  g) ?_
    obtain ⟨r15, σ14, g, h⟩ := bd_of h
    refine V_callSi 80 [.int r13] [.int x3] O mf_X12_one lk_X12_185 dX12_beside_80 rfl rfl (Nat.le_of_ble_eq_true rfl) ⟨(Nat.le_of_ble_eq_true rfl), (Nat.le_of_ble_eq_true rfl)⟩ (fun l => C_X12_one  g) ?_
    refine V_iadd 83 O dX12_beside_83 ?_
    refine V_topi h (fun v16 h => ?_)
    refine V_istoren 84 [1, 0, 2] [(0, .ref (zad G 71)), (3, .int v16), (4, .int x4)] O dX12_beside_84 rfl (Nat.le_of_ble_eq_true rfl) rfl ?_
    refine V_iinc 85 2 [1, 2, 0] [(0, .ref (zad G 71)), (3, .int v16), (4, .int (x4 + (1 : Int32)))] O dX12_beside_85 rfl ci_1 (Nat.le_of_ble_eq_true rfl) rfl ?_
    refine V_goto 88 51 O dX12_beside_88 rfl ?_
    exact V_sub [0, 1, 2] rfl (H51 v16 (x4 + (1 : Int32)) σ14  h)
theorem bl_X12_beside_51 {G : zG} {x : zX} {r : Int32} {τ : Sg} (O : zO G x cX12_beside RX12 6 240 5) (E : zE G x (some (.int)) (some (.int r)) τ) (n : Nat) : ∀ (k : Nat) (x3 : Int32) (x4 : Int32) (σ : Sg), s_X12_beside_51 n k x3 x4 σ = some (r, τ) → V G x σ [(0, .ref (zad G 71)), (3, .int x3), (4, .int x4)] 51 [] := by
  intro k
  induction k with
  | zero => intro x3 x4 σ  h; cases h
  | succ k ih => intro x3 x4 σ  h; exact b_X12_beside_51 O E n  (s_X12_beside_51 n  k) ih x3 x4 σ  h
set_option maxRecDepth 20000 in
theorem C_X12_beside {l : Launch} {G : zG} {n : Nat} {x1 : Int32} {x2 : Int32} {σ : Sg} {r : Int32} {τ : Sg} (h : s_X12_beside n x1 x2 σ = some (r, τ)) : zM l G 6 yX12_beside (.code yX12_beside cX12_beside 5 (some (.int))) [.ref (zad G 71), .int x1, .int x2] σ (some (.int r)) τ := by
  refine zM_of (by decide) (Nat.le_of_ble_eq_true rfl) (fun x O E => ?_)
  have O : zO G x cX12_beside RX12 6 240 5 := O
  unfold s_X12_beside at h
  show V G x σ [(0, .ref (zad G 71)), (1, .int x1), (2, .int x2)] 0 []
  refine V_iloadn 0 1 O dX12_beside_0 rfl rfl ?_
  obtain ⟨r2, σ1, g, h⟩ := bd_of h
  refine V_callSi 1 [.int x1] [] O mf_X12_isNode lk_X12_174 dX12_beside_1 rfl rfl (Nat.le_of_ble_eq_true rfl) ⟨(Nat.le_of_ble_eq_true rfl), (Nat.le_of_ble_eq_true rfl)⟩ (fun l => C_X12_isNode  g) ?_
  refine V_if_ne 4 11 O dX12_beside_4 rfl h (fun h => ?_) (fun h => ?_)
  · refine V_iloadn 11 2 O dX12_beside_11 rfl rfl ?_
    refine V_i2l 12 O dX12_beside_12 ?_
    refine V_lconst 13 O dX12_beside_13 cl_0 ?_
    refine V_ldc2 14 O dX12_beside_14 ld_X12_178 ?_
    obtain ⟨r4, σ3, g, h⟩ := bd_of h
    refine V_callSi 17 [.long x2.toInt64, .long (0 : Int64), .long (999 : Int64)] [] O mf_X12_in lk_X12_162 dX12_beside_17 rfl rfl (Nat.le_of_ble_eq_true rfl) ⟨(Nat.le_of_ble_eq_true rfl), (Nat.le_of_ble_eq_true rfl)⟩ (fun l => C_X12_in  g) ?_
    refine V_if_ne 20 27 O dX12_beside_20 rfl h (fun h => ?_) (fun h => ?_)
    · refine V_aloadn 27 0 O dX12_beside_27 rfl rfl ?_
      refine V_iconst 28 O dX12_beside_28 ci_0 ?_
      obtain ⟨σ5, g, h⟩ := bdv_of h
      refine V_callVv 29 [.int (0 : Int32)] [] O mf_X12_keepAll lk_X12_395 k71 dX12_beside_29 rfl rfl (Nat.le_of_ble_eq_true rfl) ⟨(Nat.le_of_ble_eq_true rfl), (Nat.le_of_ble_eq_true rfl)⟩ (fun l => C_X12_keepAll  g) ?_
      refine V_aloadn 32 0 O dX12_beside_32 rfl rfl ?_
      obtain ⟨σ6, g, h⟩ := bdv_of h
      refine V_callVv 33 [] [] O mf_X12_emptyAll lk_X12_383 k71 dX12_beside_33 rfl rfl (Nat.le_of_ble_eq_true rfl) ⟨(Nat.le_of_ble_eq_true rfl), (Nat.le_of_ble_eq_true rfl)⟩ (fun l => C_X12_emptyAll  g) ?_
      refine V_aloadn 36 0 O dX12_beside_36 rfl rfl ?_
      refine V_iloadn 37 1 O dX12_beside_37 rfl rfl ?_
      refine V_put 38 O k71 fp_X12_111 dX12_beside_38 h (fun σ7 h => ?_)
      refine V_aloadn 41 0 O dX12_beside_41 rfl rfl ?_
      refine V_iloadn 42 2 O dX12_beside_42 rfl rfl ?_
      refine V_put 43 O k71 fp_X12_292 dX12_beside_43 h (fun σ8 h => ?_)
      refine V_iconst 46 O dX12_beside_46 ci_0 ?_
      refine V_istoren 47 [1, 2, 3, 0] [(0, .ref (zad G 71)), (1, .int x1), (2, .int x2), (3, .int (0 : Int32))] O dX12_beside_47 rfl (Nat.le_of_ble_eq_true rfl) rfl ?_
      refine V_iconst 48 O dX12_beside_48 ci_0 ?_
      refine V_istore 49 [1, 2, 3, 4, 0] [(0, .ref (zad G 71)), (1, .int x1), (2, .int x2), (3, .int (0 : Int32)), (4, .int (0 : Int32))] O dX12_beside_49 (Nat.le_of_ble_eq_true rfl) rfl ?_
      exact V_sub [0, 3, 4] rfl (bl_X12_beside_51 O E n  n (0 : Int32) (0 : Int32) σ8  h)
    · refine V_sipush 23 O dX12_beside_23 cs_m1002 ?_
      exact V_iret 26 O E dX12_beside_26 h
  · refine V_sipush 7 O dX12_beside_7 cs_m1001 ?_
    exact V_iret 10 O E dX12_beside_10 h
