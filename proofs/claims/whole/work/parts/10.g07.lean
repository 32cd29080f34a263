-- ==== WaterTownModel.takeWord()V
def s_X12_takeWord_13b (n : Nat) (rc13 : Sg → Option Sg) (σ : Sg) : Option Sg := if (σ 71 33) ≤ (σ 71 34) then (lt (up2 σ 71 38 ((σ 71 34) - (σ 71 37))) fun σ4 => some σ4) else (ck (σ 71 34) 160 (bd (s_X12_in n ((σ 98 (ix (σ 71 34))).toInt64) (97 : Int64) (122 : Int64) σ) fun r6 σ5 => if r6 = 0 then (lt (up2 σ5 71 38 ((σ5 71 34) - (σ5 71 37))) fun σ7 => some σ7) else (lt (up2 σ5 71 34 ((σ5 71 34) + (1 : Int32))) fun σ8 => rc13 σ8)))
def s_X12_takeWord_13 (n : Nat) : Nat → Sg → Option Sg
  | 0 => fun  _ => none
  | k + 1 => s_X12_takeWord_13b n (s_X12_takeWord_13 n k)
def s_X12_takeWord (n : Nat) (σ : Sg) : Option Sg := bd (s_X12_here n σ) fun r2 σ1 => lt (up2 σ1 71 37 (σ1 71 34)) fun σ3 => s_X12_takeWord_13 n n σ3
set_option maxRecDepth 20000 in
theorem b_X12_takeWord_13 {G : zG} {x : zX} {τ : Sg} (O : zO G x cX12_takeWord RX12 1 40 2) (E : zE G x none none τ) (n : Nat) (rc13 : Sg → Option Sg) (H13 : ∀ (σ : Sg), rc13 σ = some τ → V G x σ [(0, .ref (zad G 71))] 13 []) (σ : Sg) (h : s_X12_takeWord_13b n rc13 σ = some τ) : V G x σ [(0, .ref (zad G 71))] 13 [] := by
  unfold s_X12_takeWord_13b at h
  refine V_aloadn 13 0 O dX12_takeWord_13 rfl rfl ?_
  refine V_getI 14 O k71 fl_X12_204 dX12_takeWord_14 ?_
  refine V_aloadn 17 0 O dX12_takeWord_17 rfl rfl ?_
  refine V_getI 18 O k71 fl_X12_199 dX12_takeWord_18 ?_
  refine V_icmp_ge 21 59 O dX12_takeWord_21 rfl h (fun h => ?_) (fun h => ?_)
  · refine V_aloadn 59 0 O dX12_takeWord_59 rfl rfl ?_
    refine V_aloadn 60 0 O dX12_takeWord_60 rfl rfl ?_
    refine V_getI 61 O k71 fl_X12_204 dX12_takeWord_61 ?_
    refine V_aloadn 64 0 O dX12_takeWord_64 rfl rfl ?_
    refine V_getI 65 O k71 fl_X12_214 dX12_takeWord_65 ?_
    refine V_isub 68 O dX12_takeWord_68 ?_
    refine V_put 69 O k71 fp_X12_221 dX12_takeWord_69 h (fun σ4 h => ?_)
    exact V_vret 72 O E dX12_takeWord_72 h
  · refine V_aloadn 24 0 O dX12_takeWord_24 rfl rfl ?_
    refine V_getR 25 O k71 fl_X12_89 rf71_32 dX12_takeWord_25 ?_
    refine V_aloadn 28 0 O dX12_takeWord_28 rfl rfl ?_
    refine V_getI 29 O k71 fl_X12_204 dX12_takeWord_29 ?_
    refine V_iald 32 O k98 dX12_takeWord_32 h (fun h => ?_)
    refine V_i2l 33 O dX12_takeWord_33 ?_
    refine V_ldc2 34 O dX12_takeWord_34 ld_X12_217 ?_
    refine V_ldc2 37 O dX12_takeWord_37 ld_X12_219 ?_
    obtain ⟨r6, σ5, g, h⟩ := bd_of h
    refine V_callSi 40 [.long ((σ 98 (ix (σ 71 34))).toInt64), .long (97 : Int64), .long (122 : Int64)] [] O mf_X12_in lk_X12_162 dX12_takeWord_40 rfl rfl (Nat.le_of_ble_eq_true rfl) ⟨(Nat.le_of_ble_eq_true rfl), (Nat.le_of_ble_eq_true rfl)⟩ (fun l => C_X12_in  g) ?_
    refine V_if_eq 43 59 O dX12_takeWord_43 rfl h (fun h => ?_) (fun h => ?_)
    · refine V_aloadn 59 0 O dX12_takeWord_59 rfl rfl ?_
      refine V_aloadn 60 0 O dX12_takeWord_60 rfl rfl ?_
      refine V_getI 61 O k71 fl_X12_204 dX12_takeWord_61 ?_
      refine V_aloadn 64 0 O dX12_takeWord_64 rfl rfl ?_
      refine V_getI 65 O k71 fl_X12_214 dX12_takeWord_65 ?_
      refine V_isub 68 O dX12_takeWord_68 ?_
      refine V_put 69 O k71 fp_X12_221 dX12_takeWord_69 h (fun σ7 h => ?_)
      exact V_vret 72 O E dX12_takeWord_72 h
    · refine V_aloadn 46 0 O dX12_takeWord_46 rfl rfl ?_
      refine V_dup 47 O dX12_takeWord_47 rfl ?_
      refine V_getI 48 O k71 fl_X12_204 dX12_takeWord_48 ?_
      refine V_iconst 51 O dX12_takeWord_51 ci_1 ?_
      refine V_iadd 52 O dX12_takeWord_52 ?_
      refine V_put 53 O k71 fp_X12_204 dX12_takeWord_53 h (fun σ8 h => ?_)
      refine V_goto 56 13 O dX12_takeWord_56 rfl ?_
      exact V_sub [0] rfl (H13  σ8  h)
theorem bl_X12_takeWord_13 {G : zG} {x : zX} {τ : Sg} (O : zO G x cX12_takeWord RX12 1 40 2) (E : zE G x none none τ) (n : Nat) : ∀ (k : Nat) (σ : Sg), s_X12_takeWord_13 n k σ = some τ → V G x σ [(0, .ref (zad G 71))] 13 [] := by
  intro k
  induction k with
  | zero => intro  σ  h; cases h
  | succ k ih => intro  σ  h; exact b_X12_takeWord_13 O E n  (s_X12_takeWord_13 n  k) ih  σ  h
set_option maxRecDepth 20000 in
theorem C_X12_takeWord {l : Launch} {G : zG} {n : Nat} {σ : Sg} {τ : Sg} (h : s_X12_takeWord n σ = some τ) : zM l G 1 yX12_takeWord (.code yX12_takeWord cX12_takeWord 2 none) [.ref (zad G 71)] σ none τ := by
  refine zM_of (by decide) (Nat.le_of_ble_eq_true rfl) (fun x O E => ?_)
  have O : zO G x cX12_takeWord RX12 1 40 2 := O
  unfold s_X12_takeWord at h
  show V G x σ [(0, .ref (zad G 71))] 0 []
  refine V_aloadn 0 0 O dX12_takeWord_0 rfl rfl ?_
  obtain ⟨r2, σ1, g, h⟩ := bd_of h
  refine V_callVi 1 [] [] O mf_X12_here lk_X12_210 k71 dX12_takeWord_1 rfl rfl (Nat.le_of_ble_eq_true rfl) ⟨(Nat.le_of_ble_eq_true rfl), (Nat.le_of_ble_eq_true rfl)⟩ (fun l => C_X12_here  g) ?_
  refine V_istoren 4 [1, 0] [(0, .ref (zad G 71)), (1, .int r2)] O dX12_takeWord_4 rfl (Nat.le_of_ble_eq_true rfl) rfl ?_
  refine V_aloadn 5 0 O dX12_takeWord_5 rfl rfl ?_
  refine V_aloadn 6 0 O dX12_takeWord_6 rfl rfl ?_
  refine V_getI 7 O k71 fl_X12_204 dX12_takeWord_7 ?_
  refine V_put 10 O k71 fp_X12_214 dX12_takeWord_10 h (fun σ3 h => ?_)
  exact V_sub [0] rfl (bl_X12_takeWord_13 O E n  n  σ3  h)
-- ==== WaterTownModel.isWord(IIIIIII)Z
def s_X12_isWord_95 (n : Nat) (rc18 : Int32 → Int32 → Int32 → Int32 → Int32 → Int32 → Int32 → Int32 → Int32 → Sg → Option (Int32 × Sg)) (x1 : Int32) (x2 : Int32) (x3 : Int32) (x4 : Int32) (x5 : Int32) (x6 : Int32) (x7 : Int32) (x9 : Int32) (y0 : Int32) (y1 : Int32) (σ : Sg) : Option (Int32 × Sg) := lt (if y1 = y0 then (1 : Int32) else (0 : Int32)) fun v13 => rc18 x1 x2 x3 x4 x5 x6 x7 v13 (x9 + (1 : Int32)) σ
def s_X12_isWord_18b (n : Nat) (rc18 : Int32 → Int32 → Int32 → Int32 → Int32 → Int32 → Int32 → Int32 → Int32 → Sg → Option (Int32 × Sg)) (x1 : Int32) (x2 : Int32) (x3 : Int32) (x4 : Int32) (x5 : Int32) (x6 : Int32) (x7 : Int32) (x8 : Int32) (x9 : Int32) (σ : Sg) : Option (Int32 × Sg) := if x1 ≤ x9 then (bck x8 (some (x8, σ))) else (if x8 = 0 then (bck x8 (some (x8, σ))) else (ck ((σ 71 37) + x9) 160 (lt (if x9 = 0 then x2 else if x9 = (1 : Int32) then x3 else if x9 = (2 : Int32) then x4 else if x9 = (3 : Int32) then x5 else if x9 = (4 : Int32) then x6 else x7) fun v10 => s_X12_isWord_95 n rc18 x1 x2 x3 x4 x5 x6 x7 x9 v10 (σ 98 (ix ((σ 71 37) + x9))) σ)))
def s_X12_isWord_18 (n : Nat) : Nat → Int32 → Int32 → Int32 → Int32 → Int32 → Int32 → Int32 → Int32 → Int32 → Sg → Option (Int32 × Sg)
  | 0 => fun _ _ _ _ _ _ _ _ _ _ => none
  | k + 1 => s_X12_isWord_18b n (s_X12_isWord_18 n k)
def s_X12_isWord (n : Nat) (x1 : Int32) (x2 : Int32) (x3 : Int32) (x4 : Int32) (x5 : Int32) (x6 : Int32) (x7 : Int32) (σ : Sg) : Option (Int32 × Sg) := lt (if (σ 71 38) = x1 then (1 : Int32) else (0 : Int32)) fun v3 => s_X12_isWord_18 n n x1 x2 x3 x4 x5 x6 x7 v3 (0 : Int32) σ
set_option maxRecDepth 20000 in
theorem b_X12_isWord_95 {G : zG} {x : zX} {r : Int32} {τ : Sg} (O : zO G x cX12_isWord RX12 0 0 10) (E : zE G x (some (.boolean)) (some (.int r)) τ) (n : Nat) (rc18 : Int32 → Int32 → Int32 → Int32 → Int32 → Int32 → Int32 → Int32 → Int32 → Sg → Option (Int32 × Sg)) (H18 : ∀ (x1 : Int32) (x2 : Int32) (x3 : Int32) (x4 : Int32) (x5 : Int32) (x6 : Int32) (x7 : Int32) (x8 : Int32) (x9 : Int32) (σ : Sg), rc18 x1 x2 x3 x4 x5 x6 x7 x8 x9 σ = some (r, τ) → V G x σ [(0, .ref (zad G 71)), (1, .int x1), (2, .int x2), (3, .int x3), (4, .int x4), (5, .int x5), (6, .int x6), (7, .int x7), (8, .int x8), (9, .int x9)] 18 []) (x1 : Int32) (x2 : Int32) (x3 : Int32) (x4 : Int32) (x5 : Int32) (x6 : Int32) (x7 : Int32) (x9 : Int32) (y0 : Int32) (y1 : Int32) (σ : Sg) (h : s_X12_isWord_95 n rc18 x1 x2 x3 x4 x5 x6 x7 x9 y0 y1 σ = some (r, τ)) : V G x σ [(0, .ref (zad G 71)), (1, .int x1), (2, .int x2), (3, .int x3), (4, .int x4), (5, .int x5), (6, .int x6), (7, .int x7), (9, .int x9)] 95 [.int y0, .int y1] := by
  unfold s_X12_isWord_95 at h
  have J11 : V G x σ [(0, .ref (zad G 71)), (1, .int x1), (2, .int x2), (3, .int x3), (4, .int x4), (5, .int x5), (6, .int x6), (7, .int x7), (9, .int x9)] 103 [.int (if y1 = y0 then (1 : Int32) else (0 : Int32))] := by
    refine V_topi h (fun v13 h => ?_)
    refine V_istore 103 [1, 2, 3, 4, 5, 6, 7, 8, 0, 9] [(0, .ref (zad G 71)), (1, .int x1), (2, .int x2), (3, .int x3), (4, .int x4), (5, .int x5), (6, .int x6), (7, .int x7), (8, .int v13), (9, .int x9)] O dX12_isWord_103 (Nat.le_of_ble_eq_true rfl) rfl ?_
    refine V_iinc 105 9 [1, 2, 3, 4, 5, 6, 7, 8, 9, 0] [(0, .ref (zad G 71)), (1, .int x1), (2, .int x2), (3, .int x3), (4, .int x4), (5, .int x5), (6, .int x6), (7, .int x7), (8, .int v13), (9, .int (x9 + (1 : Int32)))] O dX12_isWord_105 rfl ci_1 (Nat.le_of_ble_eq_true rfl) rfl ?_
    refine V_goto 108 18 O dX12_isWord_108 rfl ?_
    exact V_sub [0, 1, 2, 3, 4, 5, 6, 7, 8, 9] rfl (H18 x1 x2 x3 x4 x5 x6 x7 v13 (x9 + (1 : Int32)) σ  h)
  refine V_icmp_nec 95 102 O dX12_isWord_95 rfl (fun c12 => ?_) (fun c12 => ?_)
  · refine V_iconst 102 O dX12_isWord_102 ci_0 ?_
    exact V_top (by rw [if_neg c12]) J11
  · refine V_iconst 98 O dX12_isWord_98 ci_1 ?_
    refine V_goto 99 103 O dX12_isWord_99 rfl ?_
    exact V_top (by rw [if_pos c12]) J11
set_option maxRecDepth 20000 in
theorem b_X12_isWord_18 {G : zG} {x : zX} {r : Int32} {τ : Sg} (O : zO G x cX12_isWord RX12 0 0 10) (E : zE G x (some (.boolean)) (some (.int r)) τ) (n : Nat) (rc18 : Int32 → Int32 → Int32 → Int32 → Int32 → Int32 → Int32 → Int32 → Int32 → Sg → Option (Int32 × Sg)) (H18 : ∀ (x1 : Int32) (x2 : Int32) (x3 : Int32) (x4 : Int32) (x5 : Int32) (x6 : Int32) (x7 : Int32) (x8 : Int32) (x9 : Int32) (σ : Sg), rc18 x1 x2 x3 x4 x5 x6 x7 x8 x9 σ = some (r, τ) → V G x σ [(0, .ref (zad G 71)), (1, .int x1), (2, .int x2), (3, .int x3), (4, .int x4), (5, .int x5), (6, .int x6), (7, .int x7), (8, .int x8), (9, .int x9)] 18 []) (x1 : Int32) (x2 : Int32) (x3 : Int32) (x4 : Int32) (x5 : Int32) (x6 : Int32) (x7 : Int32) (x8 : Int32) (x9 : Int32) (σ : Sg) (h : s_X12_isWord_18b n rc18 x1 x2 x3 x4 x5 x6 x7 x8 x9 σ = some (r, τ)) : V G x σ [(0, .ref (zad G 71)), (1, .int x1), (2, .int x2), (3, .int x3), (4, .int x4), (5, .int x5), (6, .int x6), (7, .int x7), (8, .int x8), (9, .int x9)] 18 [] := by
  unfold s_X12_isWord_18b at h
  refine V_iload 18 9 O dX12_isWord_18 rfl ?_
  refine V_iloadn 20 1 O dX12_isWord_20 rfl rfl ?_
  refine V_icmp_ge 21 111 O dX12_isWord_21 rfl h (fun h => ?_) (fun h => ?_)
  · refine V_iload 111 8 O dX12_isWord_111 rfl ?_
    exact V_zret 113 O E dX12_isWord_113 h
  · refine V_iload 24 8 O dX12_isWord_24 rfl ?_
    refine V_if_eq 26 111 O dX12_isWord_26 rfl h (fun h => ?_) (fun h => ?_)
    · refine V_iload 111 8 O dX12_isWord_111 rfl ?_
      exact V_zret 113 O E dX12_isWord_113 h
    · refine V_aloadn 29 0 O dX12_isWord_29 rfl rfl ?_
      refine V_getR 30 O k71 fl_X12_89 rf71_32 dX12_isWord_30 ?_
      refine V_aloadn 33 0 O dX12_isWord_33 rfl rfl ?_
      refine V_getI 34 O k71 fl_X12_214 dX12_isWord_34 ?_
      refine V_iload 37 9 O dX12_isWord_37 rfl ?_
      refine V_iadd 39 O dX12_isWord_39 ?_
      refine V_iald 40 O k98 dX12_isWord_40 h (fun h => ?_)
      refine V_iload 41 9 O dX12_isWord_41 rfl ?_
      have J4 : V G x σ [(0, .ref (zad G 71)), (1, .int x1), (2, .int x2), (3, .int x3), (4, .int x4), (5, .int x5), (6, .int x6), (7, .int x7), (8, .int x8), (9, .int x9)] 95 [.int (if x9 = 0 then x2 else if x9 = (1 : Int32) then x3 else if x9 = (2 : Int32) then x4 else if x9 = (3 : Int32) then x5 else if x9 = (4 : Int32) then x6 else x7), .int (σ 98 (ix ((σ 71 37) + x9)))] := by
        refine V_topi h (fun v10 h => ?_)
        exact V_sub [0, 1, 2, 3, 4, 5, 6, 7, 9] rfl (b_X12_isWord_95 O E n rc18 H18 x1 x2 x3 x4 x5 x6 x7 x9 v10 (σ 98 (ix ((σ 71 37) + x9))) σ  h)
      refine V_if_nec 43 50 O dX12_isWord_43 rfl (fun c5 => ?_) (fun c5 => ?_)
      · refine V_iload 50 9 O dX12_isWord_50 rfl ?_
        refine V_iconst 52 O dX12_isWord_52 ci_1 ?_
        refine V_icmp_nec 53 60 O dX12_isWord_53 rfl (fun c6 => ?_) (fun c6 => ?_)
        · refine V_iload 60 9 O dX12_isWord_60 rfl ?_
          refine V_iconst 62 O dX12_isWord_62 ci_2 ?_
          refine V_icmp_nec 63 71 O dX12_isWord_63 rfl (fun c7 => ?_) (fun c7 => ?_)
          · refine V_iload 71 9 O dX12_isWord_71 rfl ?_
            refine V_iconst 73 O dX12_isWord_73 ci_3 ?_
            refine V_icmp_nec 74 82 O dX12_isWord_74 rfl (fun c8 => ?_) (fun c8 => ?_)
            · refine V_iload 82 9 O dX12_isWord_82 rfl ?_
              refine V_iconst 84 O dX12_isWord_84 ci_4 ?_
              refine V_icmp_nec 85 93 O dX12_isWord_85 rfl (fun c9 => ?_) (fun c9 => ?_)
              · refine V_iload 93 7 O dX12_isWord_93 rfl ?_
                exact V_top (by rw [if_neg c5, if_neg c6, if_neg c7, if_neg c8, if_neg c9]) J4
              · refine V_iload 88 6 O dX12_isWord_88 rfl ?_
                refine V_goto 90 95 O dX12_isWord_90 rfl ?_
                exact V_top (by rw [if_neg c5, if_neg c6, if_neg c7, if_neg c8, if_pos c9]) J4
            · refine V_iload 77 5 O dX12_isWord_77 rfl ?_
              refine V_goto 79 95 O dX12_isWord_79 rfl ?_
              exact V_top (by rw [if_neg c5, if_neg c6, if_neg c7, if_pos c8]) J4
          · refine V_iload 66 4 O dX12_isWord_66 rfl ?_
            refine V_goto 68 95 O dX12_isWord_68 rfl ?_
            exact V_top (by rw [if_neg c5, if_neg c6, if_pos c7]) J4
        · refine V_iloadn 56 3 O dX12_isWord_56 rfl rfl ?_
          refine V_goto 57 95 O dX12_isWord_57 rfl ?_
          exact V_top (by rw [if_neg c5, if_pos c6]) J4
      · refine V_iloadn 46 2 O dX12_isWord_46 rfl rfl ?_
        refine V_goto 47 95 O dX12_isWord_47 rfl ?_
        exact V_top (by rw [if_pos c5]) J4
theorem bl_X12_isWord_18 {G : zG} {x : zX} {r : Int32} {τ : Sg} (O : zO G x cX12_isWord RX12 0 0 10) (E : zE G x (some (.boolean)) (some (.int r)) τ) (n : Nat) : ∀ (k : Nat) (x1 : Int32) (x2 : Int32) (x3 : Int32) (x4 : Int32) (x5 : Int32) (x6 : Int32) (x7 : Int32) (x8 : Int32) (x9 : Int32) (σ : Sg), s_X12_isWord_18 n k x1 x2 x3 x4 x5 x6 x7 x8 x9 σ = some (r, τ) → V G x σ [(0, .ref (zad G 71)), (1, .int x1), (2, .int x2), (3, .int x3), (4, .int x4), (5, .int x5), (6, .int x6), (7, .int x7), (8, .int x8), (9, .int x9)] 18 [] := by
  intro k
  induction k with
  | zero => intro x1 x2 x3 x4 x5 x6 x7 x8 x9 σ  h; cases h
  | succ k ih => intro x1 x2 x3 x4 x5 x6 x7 x8 x9 σ  h; exact b_X12_isWord_18 O E n  (s_X12_isWord_18 n  k) ih x1 x2 x3 x4 x5 x6 x7 x8 x9 σ  h
set_option maxRecDepth 20000 in
theorem C_X12_isWord {l : Launch} {G : zG} {n : Nat} {x1 : Int32} {x2 : Int32} {x3 : Int32} {x4 : Int32} {x5 : Int32} {x6 : Int32} {x7 : Int32} {σ : Sg} {r : Int32} {τ : Sg} (h : s_X12_isWord n x1 x2 x3 x4 x5 x6 x7 σ = some (r, τ)) : zM l G 0 yX12_isWord (.code yX12_isWord cX12_isWord 10 (some (.boolean))) [.ref (zad G 71), .int x1, .int x2, .int x3, .int x4, .int x5, .int x6, .int x7] σ (some (.int r)) τ := by
  refine zM_of (by decide) (Nat.le_of_ble_eq_true rfl) (fun x O E => ?_)
  have O : zO G x cX12_isWord RX12 0 0 10 := O
  unfold s_X12_isWord at h
  show V G x σ [(0, .ref (zad G 71)), (1, .int x1), (2, .int x2), (3, .int x3), (4, .int x4), (5, .int x5), (6, .int x6), (7, .int x7)] 0 []
  refine V_aloadn 0 0 O dX12_isWord_0 rfl rfl ?_
  refine V_getI 1 O k71 fl_X12_221 dX12_isWord_1 ?_
  refine V_iloadn 4 1 O dX12_isWord_4 rfl rfl ?_
  have J1 : V G x σ [(0, .ref (zad G 71)), (1, .int x1), (2, .int x2), (3, .int x3), (4, .int x4), (5, .int x5), (6, .int x6), (7, .int x7)] 13 [.int (if (σ 71 38) = x1 then (1 : Int32) else (0 : Int32))] := by
    refine V_topi h (fun v3 h => ?_)
    refine V_istore 13 [1, 2, 3, 4, 5, 6, 7, 8, 0] [(0, .ref (zad G 71)), (1, .int x1), (2, .int x2), (3, .int x3), (4, .int x4), (5, .int x5), (6, .int x6), (7, .int x7), (8, .int v3)] O dX12_isWord_13 (Nat.le_of_ble_eq_true rfl) rfl ?_
    refine V_iconst 15 O dX12_isWord_15 ci_0 ?_
    refine V_istore 16 [1, 2, 3, 4, 5, 6, 7, 8, 9, 0] [(0, .ref (zad G 71)), (1, .int x1), (2, .int x2), (3, .int x3), (4, .int x4), (5, .int x5), (6, .int x6), (7, .int x7), (8, .int v3), (9, .int (0 : Int32))] O dX12_isWord_16 (Nat.le_of_ble_eq_true rfl) rfl ?_
    exact V_sub [0, 1, 2, 3, 4, 5, 6, 7, 8, 9] rfl (bl_X12_isWord_18 O E n  n x1 x2 x3 x4 x5 x6 x7 v3 (0 : Int32) σ  h)
  refine V_icmp_nec 5 12 O dX12_isWord_5 rfl (fun c2 => ?_) (fun c2 => ?_)
  · refine V_iconst 12 O dX12_isWord_12 ci_0 ?_
    exact V_top (by rw [if_neg c2]) J1
  · refine V_iconst 8 O dX12_isWord_8 ci_1 ?_
    refine V_goto 9 13 O dX12_isWord_9 rfl ?_
    exact V_top (by rw [if_pos c2]) J1
-- ==== WaterTownModel.takeNumber(II)I
def s_X12_takeNumber_161 (n : Nat) (x4 : Int32) (y0 : Int32) (σ : Sg) : Option (Int32 × Sg) := bd (s_X12_want n y0 (2 : Int32) (σ 71 37) σ) fun r19 σ18 => some (x4, σ18)
def s_X12_takeNumber_160 (n : Nat) (x4 : Int32) (σ : Sg) : Option (Int32 × Sg) := s_X12_takeNumber_161 n x4 (0 : Int32) σ
def s_X12_takeNumber_129 (n : Nat) (x1 : Int32) (x2 : Int32) (x4 : Int32) (σ : Sg) : Option (Int32 × Sg) := if (4 : Int32) ≤ ((σ 71 34) - (σ 71 37)) then (s_X12_takeNumber_160 n x4 σ) else (bd (s_X12_in n x4.toInt64 x1.toInt64 x2.toInt64 σ) fun r14 σ13 => lt (if r14 = 0 then (0 : Int32) else (1 : Int32)) fun v17 => s_X12_takeNumber_161 n x4 v17 σ13)
def s_X12_takeNumber_50b (n : Nat) (rc50 : Int32 → Int32 → Int32 → Sg → Option (Int32 × Sg)) (x1 : Int32) (x2 : Int32) (x4 : Int32) (σ : Sg) : Option (Int32 × Sg) := if (σ 71 33) ≤ (σ 71 34) then (s_X12_takeNumber_129 n x1 x2 x4 σ) else (ck (σ 71 34) 160 (bd (s_X12_in n ((σ 98 (ix (σ 71 34))).toInt64) (48 : Int64) (57 : Int64) σ) fun r9 σ8 => if r9 = 0 then (s_X12_takeNumber_129 n x1 x2 x4 σ8) else (if x4 ≤ (999 : Int32) then (ck (σ8 71 34) 160 (lt ((((10 : Int32) * x4) + (σ8 98 (ix (σ8 71 34)))) - (48 : Int32)) fun v10 => lt (up2 σ8 71 34 ((σ8 71 34) + (1 : Int32))) fun σ11 => rc50 x1 x2 v10 σ11)) else (lt (up2 σ8 71 34 ((σ8 71 34) + (1 : Int32))) fun σ12 => rc50 x1 x2 x4 σ12))))
def s_X12_takeNumber_50 (n : Nat) : Nat → Int32 → Int32 → Int32 → Sg → Option (Int32 × Sg)
  | 0 => fun _ _ _ _ => none
  | k + 1 => s_X12_takeNumber_50b n (s_X12_takeNumber_50 n k)
def s_X12_takeNumber (n : Nat) (x1 : Int32) (x2 : Int32) (σ : Sg) : Option (Int32 × Sg) := if (σ 71 35) ≤ 0 then (bd (s_X12_here n σ) fun r2 σ1 => lt (up2 σ1 71 37 (σ1 71 34)) fun σ3 => bd (s_X12_in n r2.toInt64 (48 : Int64) (57 : Int64) σ3) fun r5 σ4 => bd (s_X12_want n r5 (1 : Int32) (σ4 71 34) σ4) fun r7 σ6 => if r7 = 0 then (some ((0 : Int32), σ6)) else (s_X12_takeNumber_50 n n x1 x2 (0 : Int32) σ6)) else (some ((0 : Int32), σ))
set_option maxRecDepth 20000 in
theorem b_X12_takeNumber_161 {G : zG} {x : zX} {r : Int32} {τ : Sg} (O : zO G x cX12_takeNumber RX12 1 40 6) (E : zE G x (some (.int)) (some (.int r)) τ) (n : Nat) (x4 : Int32) (y0 : Int32) (σ : Sg) (h : s_X12_takeNumber_161 n x4 y0 σ = some (r, τ)) : V G x σ [(0, .ref (zad G 71)), (4, .int x4)] 161 [.int y0, .ref (zad G 71)] := by
  unfold s_X12_takeNumber_161 at h
  refine V_iconst 161 O dX12_takeNumber_161 ci_2 ?_
  refine V_aloadn 162 0 O dX12_takeNumber_162 rfl rfl ?_
  refine V_getI 163 O k71 fl_X12_214 dX12_takeNumber_163 ?_
  obtain ⟨r19, σ18, g, h⟩ := bd_of h
  refine V_callVi 166 [.int y0, .int (2 : Int32), .int (σ 71 37)] [] O mf_X12_want lk_X12_228 k71 dX12_takeNumber_166 rfl rfl (Nat.le_of_ble_eq_true rfl) ⟨(Nat.le_of_ble_eq_true rfl), (Nat.le_of_ble_eq_true rfl)⟩ (fun l => C_X12_want  g) ?_
  refine V_istore 169 [1, 2, 0] [(0, .ref (zad G 71)), (4, .int x4), (5, .int r19)] O dX12_takeNumber_169 (Nat.le_of_ble_eq_true rfl) rfl ?_
  refine V_iload 171 1 O dX12_takeNumber_171 rfl ?_
  exact V_iret 173 O E dX12_takeNumber_173 h
set_option maxRecDepth 20000 in
theorem b_X12_takeNumber_160 {G : zG} {x : zX} {r : Int32} {τ : Sg} (O : zO G x cX12_takeNumber RX12 1 40 6) (E : zE G x (some (.int)) (some (.int r)) τ) (n : Nat) (x4 : Int32) (σ : Sg) (h : s_X12_takeNumber_160 n x4 σ = some (r, τ)) : V G x σ [(0, .ref (zad G 71)), (4, .int x4)] 160 [.ref (zad G 71)] := by
  unfold s_X12_takeNumber_160 at h
  refine V_iconst 160 O dX12_takeNumber_160 ci_0 ?_
  exact V_sub [0, 1] rfl (b_X12_takeNumber_161 O E n  x4 (0 : Int32) σ  h)
set_option maxRecDepth 20000 in
theorem b_X12_takeNumber_129 {G : zG} {x : zX} {r : Int32} {τ : Sg} (O : zO G x cX12_takeNumber RX12 1 40 6) (E : zE G x (some (.int)) (some (.int r)) τ) (n : Nat) (x1 : Int32) (x2 : Int32) (x4 : Int32) (σ : Sg) (h : s_X12_takeNumber_129 n x1 x2 x4 σ = some (r, τ)) : V G x σ [(0, .ref (zad G 71)), (1, .int x1), (2, .int x2), (4, .int x4)] 129 [] := by
  unfold s_X12_takeNumber_129 at h
  refine V_aloadn 129 0 O dX12_takeNumber_129 rfl rfl ?_
  refine V_aloadn 130 0 O dX12_takeNumber_130 rfl rfl ?_
  refine V_getI 131 O k71 fl_X12_204 dX12_takeNumber_131 ?_
  refine V_aloadn 134 0 O dX12_takeNumber_134 rfl rfl ?_
  refine V_getI 135 O k71 fl_X12_214 dX12_takeNumber_135 ?_
  refine V_isub 138 O dX12_takeNumber_138 ?_
  refine V_iconst 139 O dX12_takeNumber_139 ci_4 ?_
  refine V_icmp_ge 140 160 O dX12_takeNumber_140 rfl h (fun h => ?_) (fun h => ?_)
  · exact V_sub [0, 3] rfl (b_X12_takeNumber_160 O E n  x4 σ  h)
  · refine V_iload 143 3 O dX12_takeNumber_143 rfl ?_
    refine V_i2l 145 O dX12_takeNumber_145 ?_
    refine V_iloadn 146 1 O dX12_takeNumber_146 rfl rfl ?_
    refine V_i2l 147 O dX12_takeNumber_147 ?_
    refine V_iloadn 148 2 O dX12_takeNumber_148 rfl rfl ?_
    refine V_i2l 149 O dX12_takeNumber_149 ?_
    obtain ⟨r14, σ13, g, h⟩ := bd_of h
    refine V_callSi 150 [.long x4.toInt64, .long x1.toInt64, .long x2.toInt64] [.ref (zad G 71)] O mf_X12_in lk_X12_162 dX12_takeNumber_150 rfl rfl (Nat.le_of_ble_eq_true rfl) ⟨(Nat.le_of_ble_eq_true rfl), (Nat.le_of_ble_eq_true rfl)⟩ (fun l => C_X12_in  g) ?_
    have J15 : V G x σ13 [(0, .ref (zad G 71)), (1, .int x1), (2, .int x2), (4, .int x4)] 161 [.int (if r14 = 0 then (0 : Int32) else (1 : Int32)), .ref (zad G 71)] := by
      refine V_topi h (fun v17 h => ?_)
      exact V_sub [0, 3] rfl (b_X12_takeNumber_161 O E n  x4 v17 σ13  h)
    refine V_if_eqc 153 160 O dX12_takeNumber_153 rfl (fun c16 => ?_) (fun c16 => ?_)
    · refine V_iconst 160 O dX12_takeNumber_160 ci_0 ?_
      exact V_top (by rw [if_pos c16]) J15
    · refine V_iconst 156 O dX12_takeNumber_156 ci_1 ?_
      refine V_goto 157 161 O dX12_takeNumber_157 rfl ?_
      exact V_top (by rw [if_neg c16]) J15
set_option maxRecDepth 20000 in
theorem b_X12_takeNumber_50 {G : zG} {x : zX} {r : Int32} {τ : Sg} (O : zO G x cX12_takeNumber RX12 1 40 6) (E : zE G x (some (.int)) (some (.int r)) τ) (n : Nat) (rc50 : Int32 → Int32 → Int32 → Sg → Option (Int32 × Sg)) (H50 : ∀ (x1 : Int32) (x2 : Int32) (x4 : Int32) (σ : Sg), rc50 x1 x2 x4 σ = some (r, τ) → V G x σ [(0, .ref (zad G 71)), (1, .int x1), (2, .int x2), (4, .int x4)] 50 []) (x1 : Int32) (x2 : Int32) (x4 : Int32) (σ : Sg) (h : s_X12_takeNumber_50b n rc50 x1 x2 x4 σ = some (r, τ)) : V G x σ [(0, .ref (zad G 71)), (1, .int x1), (2, .int x2), (4, .int x4)] 50 [] := by
  unfold s_X12_takeNumber_50b at h
  refine V_aloadn 50 0 O dX12_takeNumber_50 rfl rfl ?_
  refine V_getI 51 O k71 fl_X12_204 dX12_takeNumber_51 ?_
  refine V_aloadn 54 0 O dX12_takeNumber_54 rfl rfl ?_
  refine V_getI 55 O k71 fl_X12_199 dX12_takeNumber_55 ?_
  refine V_icmp_ge 58 129 O dX12_takeNumber_58 rfl h (fun h => ?_) (fun h => ?_)
  · exact V_sub [0, 1, 2, 3] rfl (b_X12_takeNumber_129 O E n  x1 x2 x4 σ  h)
  · refine V_aloadn 61 0 O dX12_takeNumber_61 rfl rfl ?_
    refine V_getR 62 O k71 fl_X12_89 rf71_32 dX12_takeNumber_62 ?_
    refine V_aloadn 65 0 O dX12_takeNumber_65 rfl rfl ?_
    refine V_getI 66 O k71 fl_X12_204 dX12_takeNumber_66 ?_
    refine V_iald 69 O k98 dX12_takeNumber_69 h (fun h => ?_)
    refine V_i2l 70 O dX12_takeNumber_70 ?_
    refine V_ldc2 71 O dX12_takeNumber_71 ld_X12_224 ?_
    refine V_ldc2 74 O dX12_takeNumber_74 ld_X12_226 ?_
    obtain ⟨r9, σ8, g, h⟩ := bd_of h
    refine V_callSi 77 [.long ((σ 98 (ix (σ 71 34))).toInt64), .long (48 : Int64), .long (57 : Int64)] [] O mf_X12_in lk_X12_162 dX12_takeNumber_77 rfl rfl (Nat.le_of_ble_eq_true rfl) ⟨(Nat.le_of_ble_eq_true rfl), (Nat.le_of_ble_eq_true rfl)⟩ (fun l => C_X12_in  g) ?_
    refine V_if_eq 80 129 O dX12_takeNumber_80 rfl h (fun h => ?_) (fun h => ?_)
    · exact V_sub [0, 1, 2, 3] rfl (b_X12_takeNumber_129 O E n  x1 x2 x4 σ8  h)
    · refine V_iload 83 3 O dX12_takeNumber_83 rfl ?_
      refine V_sipush 85 O dX12_takeNumber_85 cs_999 ?_
      refine V_icmp_le 88 96 O dX12_takeNumber_88 rfl h (fun h => ?_) (fun h => ?_)
      · refine V_bipush 96 O dX12_takeNumber_96 cb_10 ?_
        refine V_iload 98 3 O dX12_takeNumber_98 rfl ?_
        refine V_imul 100 O dX12_takeNumber_100 ?_
        refine V_aloadn 101 0 O dX12_takeNumber_101 rfl rfl ?_
        refine V_getR 102 O k71 fl_X12_89 rf71_32 dX12_takeNumber_102 ?_
        refine V_aloadn 105 0 O dX12_takeNumber_105 rfl rfl ?_
        refine V_getI 106 O k71 fl_X12_204 dX12_takeNumber_106 ?_
        refine V_iald 109 O k98 dX12_takeNumber_109 h (fun h => ?_)
        refine V_iadd 110 O dX12_takeNumber_110 ?_
        refine V_bipush 111 O dX12_takeNumber_111 cb_48 ?_
        refine V_isub 113 O dX12_takeNumber_113 ?_
        refine V_topi h (fun v10 h => ?_)
        refine V_istore 114 [1, 2, 3, 0] [(0, .ref (zad G 71)), (1, .int x1), (2, .int x2), (4, .int v10)] O dX12_takeNumber_114 (Nat.le_of_ble_eq_true rfl) rfl ?_
        refine V_aloadn 116 0 O dX12_takeNumber_116 rfl rfl ?_
        refine V_dup 117 O dX12_takeNumber_117 rfl ?_
        refine V_getI 118 O k71 fl_X12_204 dX12_takeNumber_118 ?_
        refine V_iconst 121 O dX12_takeNumber_121 ci_1 ?_
        refine V_iadd 122 O dX12_takeNumber_122 ?_
        refine V_put 123 O k71 fp_X12_204 dX12_takeNumber_123 h (fun σ11 h => ?_)
        refine V_goto 126 50 O dX12_takeNumber_126 rfl ?_
        exact V_sub [0, 1, 2, 3] rfl (H50 x1 x2 v10 σ11  h)
      · refine V_iload 91 3 O dX12_takeNumber_91 rfl ?_
        refine V_goto 93 114 O dX12_takeNumber_93 rfl ?_
        refine V_istore 114 [1, 2, 3, 0] [(0, .ref (zad G 71)), (1, .int x1), (2, .int x2), (4, .int x4)] O dX12_takeNumber_114 (Nat.le_of_ble_eq_true rfl) rfl ?_
        refine V_aloadn 116 0 O dX12_takeNumber_116 rfl rfl ?_
        refine V_dup 117 O dX12_takeNumber_117 rfl ?_
        refine V_getI 118 O k71 fl_X12_204 dX12_takeNumber_118 ?_
        refine V_iconst 121 O dX12_takeNumber_121 ci_1 ?_
        refine V_iadd 122 O dX12_takeNumber_122 ?_
        refine V_put 123 O k71 fp_X12_204 dX12_takeNumber_123 h (fun σ12 h => ?_)
        refine V_goto 126 50 O dX12_takeNumber_126 rfl ?_
        exact V_sub [0, 1, 2, 3] rfl (H50 x1 x2 x4 σ12  h)
theorem bl_X12_takeNumber_50 {G : zG} {x : zX} {r : Int32} {τ : Sg} (O : zO G x cX12_takeNumber RX12 1 40 6) (E : zE G x (some (.int)) (some (.int r)) τ) (n : Nat) : ∀ (k : Nat) (x1 : Int32) (x2 : Int32) (x4 : Int32) (σ : Sg), s_X12_takeNumber_50 n k x1 x2 x4 σ = some (r, τ) → V G x σ [(0, .ref (zad G 71)), (1, .int x1), (2, .int x2), (4, .int x4)] 50 [] := by
  intro k
  induction k with
  | zero => intro x1 x2 x4 σ  h; cases h
  | succ k ih => intro x1 x2 x4 σ  h; exact b_X12_takeNumber_50 O E n  (s_X12_takeNumber_50 n  k) ih x1 x2 x4 σ  h
set_option maxRecDepth 20000 in
theorem C_X12_takeNumber {l : Launch} {G : zG} {n : Nat} {x1 : Int32} {x2 : Int32} {σ : Sg} {r : Int32} {τ : Sg} (h : s_X12_takeNumber n x1 x2 σ = some (r, τ)) : zM l G 1 yX12_takeNumber (.code yX12_takeNumber cX12_takeNumber 6 (some (.int))) [.ref (zad G 71), .int x1, .int x2] σ (some (.int r)) τ := by
  refine zM_of (by decide) (Nat.le_of_ble_eq_true rfl) (fun x O E => ?_)
  have O : zO G x cX12_takeNumber RX12 1 40 6 := O
  unfold s_X12_takeNumber at h
  show V G x σ [(0, .ref (zad G 71)), (1, .int x1), (2, .int x2)] 0 []
  refine V_aloadn 0 0 O dX12_takeNumber_0 rfl rfl ?_
  refine V_getI 1 O k71 fl_X12_207 dX12_takeNumber_1 ?_
  refine V_if_le 4 9 O dX12_takeNumber_4 rfl h (fun h => ?_) (fun h => ?_)
  · refine V_aloadn 9 0 O dX12_takeNumber_9 rfl rfl ?_
    obtain ⟨r2, σ1, g, h⟩ := bd_of h
    refine V_callVi 10 [] [] O mf_X12_here lk_X12_210 k71 dX12_takeNumber_10 rfl rfl (Nat.le_of_ble_eq_true rfl) ⟨(Nat.le_of_ble_eq_true rfl), (Nat.le_of_ble_eq_true rfl)⟩ (fun l => C_X12_here  g) ?_
    refine V_istoren 13 [1, 2, 3, 0] [(0, .ref (zad G 71)), (1, .int x1), (2, .int x2), (3, .int r2)] O dX12_takeNumber_13 rfl (Nat.le_of_ble_eq_true rfl) rfl ?_
    refine V_aloadn 14 0 O dX12_takeNumber_14 rfl rfl ?_
    refine V_aloadn 15 0 O dX12_takeNumber_15 rfl rfl ?_
    refine V_getI 16 O k71 fl_X12_204 dX12_takeNumber_16 ?_
    refine V_put 19 O k71 fp_X12_214 dX12_takeNumber_19 h (fun σ3 h => ?_)
    refine V_aloadn 22 0 O dX12_takeNumber_22 rfl rfl ?_
    refine V_iloadn 23 3 O dX12_takeNumber_23 rfl rfl ?_
    refine V_i2l 24 O dX12_takeNumber_24 ?_
    refine V_ldc2 25 O dX12_takeNumber_25 ld_X12_224 ?_
    refine V_ldc2 28 O dX12_takeNumber_28 ld_X12_226 ?_
    obtain ⟨r5, σ4, g, h⟩ := bd_of h
    refine V_callSi 31 [.long r2.toInt64, .long (48 : Int64), .long (57 : Int64)] [.ref (zad G 71)] O mf_X12_in lk_X12_162 dX12_takeNumber_31 rfl rfl (Nat.le_of_ble_eq_true rfl) ⟨(Nat.le_of_ble_eq_true rfl), (Nat.le_of_ble_eq_true rfl)⟩ (fun l => C_X12_in  g) ?_
    refine V_iconst 34 O dX12_takeNumber_34 ci_1 ?_
    refine V_aloadn 35 0 O dX12_takeNumber_35 rfl rfl ?_
    refine V_getI 36 O k71 fl_X12_204 dX12_takeNumber_36 ?_
    obtain ⟨r7, σ6, g, h⟩ := bd_of h
    refine V_callVi 39 [.int r5, .int (1 : Int32), .int (σ4 71 34)] [] O mf_X12_want lk_X12_228 k71 dX12_takeNumber_39 rfl rfl (Nat.le_of_ble_eq_true rfl) ⟨(Nat.le_of_ble_eq_true rfl), (Nat.le_of_ble_eq_true rfl)⟩ (fun l => C_X12_want  g) ?_
    refine V_if_ne 42 47 O dX12_takeNumber_42 rfl h (fun h => ?_) (fun h => ?_)
    · refine V_iconst 47 O dX12_takeNumber_47 ci_0 ?_
      refine V_istore 48 [1, 2, 3, 4, 0] [(0, .ref (zad G 71)), (1, .int x1), (2, .int x2), (3, .int r2), (4, .int (0 : Int32))] O dX12_takeNumber_48 (Nat.le_of_ble_eq_true rfl) rfl ?_
      exact V_sub [0, 1, 2, 4] rfl (bl_X12_takeNumber_50 O E n  n x1 x2 (0 : Int32) σ6  h)
    · refine V_iconst 45 O dX12_takeNumber_45 ci_0 ?_
      exact V_iret 46 O E dX12_takeNumber_46 h
  · refine V_iconst 7 O dX12_takeNumber_7 ci_0 ?_
    exact V_iret 8 O E dX12_takeNumber_8 h
-- ==== WaterTownModel.clauseOf()I
def s_X12_clauseOf (n : Nat) (σ : Sg) : Option (Int32 × Sg) := bd (s_X12_isWord n (5 : Int32) (102 : Int32) (105 : Int32) (114 : Int32) (115 : Int32) (116 : Int32) (0 : Int32) σ) fun r2 σ1 => if r2 = 0 then (bd (s_X12_isWord n (5 : Int32) (104 : Int32) (111 : Int32) (117 : Int32) (114 : Int32) (115 : Int32) (0 : Int32) σ1) fun r4 σ3 => if r4 = 0 then (bd (s_X12_isWord n (4 : Int32) (114 : Int32) (97 : Int32) (116 : Int32) (101 : Int32) (0 : Int32) (0 : Int32) σ3) fun r6 σ5 => if r6 = 0 then (bd (s_X12_isWord n (5 : Int32) (109 : Int32) (101 : Int32) (116 : Int32) (101 : Int32) (114 : Int32) (0 : Int32) σ5) fun r8 σ7 => if r8 = 0 then (bd (s_X12_isWord n (6 : Int32) (115 : Int32) (116 : Int32) (114 : Int32) (105 : Int32) (107 : Int32) (101 : Int32) σ7) fun r10 σ9 => if r10 = 0 then (some ((-1 : Int32), σ9)) else (some ((4 : Int32), σ9))) else (some ((3 : Int32), σ7))) else (some ((2 : Int32), σ5))) else (some ((1 : Int32), σ3))) else (some ((0 : Int32), σ1))
set_option maxRecDepth 20000 in
theorem C_X12_clauseOf {l : Launch} {G : zG} {n : Nat} {σ : Sg} {r : Int32} {τ : Sg} (h : s_X12_clauseOf n σ = some (r, τ)) : zM l G 1 yX12_clauseOf (.code yX12_clauseOf cX12_clauseOf 1 (some (.int))) [.ref (zad G 71)] σ (some (.int r)) τ := by
  refine zM_of (by decide) (Nat.le_of_ble_eq_true rfl) (fun x O E => ?_)
  have O : zO G x cX12_clauseOf RX12 1 40 1 := O
  unfold s_X12_clauseOf at h
  show V G x σ [(0, .ref (zad G 71))] 0 []
  refine V_aloadn 0 0 O dX12_clauseOf_0 rfl rfl ?_
  refine V_iconst 1 O dX12_clauseOf_1 ci_5 ?_
  refine V_bipush 2 O dX12_clauseOf_2 cb_102 ?_
  refine V_bipush 4 O dX12_clauseOf_4 cb_105 ?_
  refine V_bipush 6 O dX12_clauseOf_6 cb_114 ?_
  refine V_bipush 8 O dX12_clauseOf_8 cb_115 ?_
  refine V_bipush 10 O dX12_clauseOf_10 cb_116 ?_
  refine V_iconst 12 O dX12_clauseOf_12 ci_0 ?_
  obtain ⟨r2, σ1, g, h⟩ := bd_of h
  refine V_callVi 13 [.int (5 : Int32), .int (102 : Int32), .int (105 : Int32), .int (114 : Int32), .int (115 : Int32), .int (116 : Int32), .int (0 : Int32)] [] O mf_X12_isWord lk_X12_232 k71 dX12_clauseOf_13 rfl rfl (Nat.le_of_ble_eq_true rfl) ⟨(Nat.le_of_ble_eq_true rfl), (Nat.le_of_ble_eq_true rfl)⟩ (fun l => C_X12_isWord  g) ?_
  refine V_if_eq 16 21 O dX12_clauseOf_16 rfl h (fun h => ?_) (fun h => ?_)
  · refine V_aloadn 21 0 O dX12_clauseOf_21 rfl rfl ?_
    refine V_iconst 22 O dX12_clauseOf_22 ci_5 ?_
    refine V_bipush 23 O dX12_clauseOf_23 cb_104 ?_
    refine V_bipush 25 O dX12_clauseOf_25 cb_111 ?_
    refine V_bipush 27 O dX12_clauseOf_27 cb_117 ?_
    refine V_bipush 29 O dX12_clauseOf_29 cb_114 ?_
    refine V_bipush 31 O dX12_clauseOf_31 cb_115 ?_
    refine V_iconst 33 O dX12_clauseOf_33 ci_0 ?_
    obtain ⟨r4, σ3, g, h⟩ := bd_of h
    refine V_callVi 34 [.int (5 : Int32), .int (104 : Int32), .int (111 : Int32), .int (117 : Int32), .int (114 : Int32), .int (115 : Int32), .int (0 : Int32)] [] O mf_X12_isWord lk_X12_232 k71 dX12_clauseOf_34 rfl rfl (Nat.le_of_ble_eq_true rfl) ⟨(Nat.le_of_ble_eq_true rfl), (Nat.le_of_ble_eq_true rfl)⟩ (fun l => C_X12_isWord  g) ?_
    refine V_if_eq 37 42 O dX12_clauseOf_37 rfl h (fun h => ?_) (fun h => ?_)
    · refine V_aloadn 42 0 O dX12_clauseOf_42 rfl rfl ?_
      refine V_iconst 43 O dX12_clauseOf_43 ci_4 ?_
      refine V_bipush 44 O dX12_clauseOf_44 cb_114 ?_
      refine V_bipush 46 O dX12_clauseOf_46 cb_97 ?_
      refine V_bipush 48 O dX12_clauseOf_48 cb_116 ?_
      refine V_bipush 50 O dX12_clauseOf_50 cb_101 ?_
      refine V_iconst 52 O dX12_clauseOf_52 ci_0 ?_
      refine V_iconst 53 O dX12_clauseOf_53 ci_0 ?_
      obtain ⟨r6, σ5, g, h⟩ := bd_of h
      refine V_callVi 54 [.int (4 : Int32), .int (114 : Int32), .int (97 : Int32), .int (116 : Int32), .int (101 : Int32), .int (0 : Int32), .int (0 : Int32)] [] O mf_X12_isWord lk_X12_232 k71 dX12_clauseOf_54 rfl rfl (Nat.le_of_ble_eq_true rfl) ⟨(Nat.le_of_ble_eq_true rfl), (Nat.le_of_ble_eq_true rfl)⟩ (fun l => C_X12_isWord  g) ?_
      refine V_if_eq 57 62 O dX12_clauseOf_57 rfl h (fun h => ?_) (fun h => ?_)
      · refine V_aloadn 62 0 O dX12_clauseOf_62 rfl rfl ?_
        refine V_iconst 63 O dX12_clauseOf_63 ci_5 ?_
        refine V_bipush 64 O dX12_clauseOf_64 cb_109 ?_
        refine V_bipush 66 O dX12_clauseOf_66 cb_101 ?_
        refine V_bipush 68 O dX12_clauseOf_68 cb_116 ?_
        refine V_bipush 70 O dX12_clauseOf_70 cb_101 ?_
        refine V_bipush 72 O dX12_clauseOf_72 cb_114 ?_
        refine V_iconst 74 O dX12_clauseOf_74 ci_0 ?_
        obtain ⟨r8, σ7, g, h⟩ := bd_of h
        refine V_callVi 75 [.int (5 : Int32), .int (109 : Int32), .int (101 : Int32), .int (116 : Int32), .int (101 : Int32), .int (114 : Int32), .int (0 : Int32)] [] O mf_X12_isWord lk_X12_232 k71 dX12_clauseOf_75 rfl rfl (Nat.le_of_ble_eq_true rfl) ⟨(Nat.le_of_ble_eq_true rfl), (Nat.le_of_ble_eq_true rfl)⟩ (fun l => C_X12_isWord  g) ?_
        refine V_if_eq 78 83 O dX12_clauseOf_78 rfl h (fun h => ?_) (fun h => ?_)
        · refine V_aloadn 83 0 O dX12_clauseOf_83 rfl rfl ?_
          refine V_bipush 84 O dX12_clauseOf_84 cb_6 ?_
          refine V_bipush 86 O dX12_clauseOf_86 cb_115 ?_
          refine V_bipush 88 O dX12_clauseOf_88 cb_116 ?_
          refine V_bipush 90 O dX12_clauseOf_90 cb_114 ?_
          refine V_bipush 92 O dX12_clauseOf_92 cb_105 ?_
          refine V_bipush 94 O dX12_clauseOf_94 cb_107 ?_
          refine V_bipush 96 O dX12_clauseOf_96 cb_101 ?_
          obtain ⟨r10, σ9, g, h⟩ := bd_of h
          refine V_callVi 98 [.int (6 : Int32), .int (115 : Int32), .int (116 : Int32), .int (114 : Int32), .int (105 : Int32), .int (107 : Int32), .int (101 : Int32)] [] O mf_X12_isWord lk_X12_232 k71 dX12_clauseOf_98 rfl rfl (Nat.le_of_ble_eq_true rfl) ⟨(Nat.le_of_ble_eq_true rfl), (Nat.le_of_ble_eq_true rfl)⟩ (fun l => C_X12_isWord  g) ?_
          refine V_if_eq 101 108 O dX12_clauseOf_101 rfl h (fun h => ?_) (fun h => ?_)
          · refine V_iconst 108 O dX12_clauseOf_108 ci_m1 ?_
            exact V_iret 109 O E dX12_clauseOf_109 h
          · refine V_iconst 104 O dX12_clauseOf_104 ci_4 ?_
            refine V_goto 105 109 O dX12_clauseOf_105 rfl ?_
            exact V_iret 109 O E dX12_clauseOf_109 h
        · refine V_iconst 81 O dX12_clauseOf_81 ci_3 ?_
          exact V_iret 82 O E dX12_clauseOf_82 h
      · refine V_iconst 60 O dX12_clauseOf_60 ci_2 ?_
        exact V_iret 61 O E dX12_clauseOf_61 h
    · refine V_iconst 40 O dX12_clauseOf_40 ci_1 ?_
      exact V_iret 41 O E dX12_clauseOf_41 h
  · refine V_iconst 19 O dX12_clauseOf_19 ci_0 ?_
    exact V_iret 20 O E dX12_clauseOf_20 h
-- ==== WaterTownModel.keyOf()I
def s_X12_keyOf (n : Nat) (σ : Sg) : Option (Int32 × Sg) := bd (s_X12_isWord n (6 : Int32) (97 : Int32) (108 : Int32) (119 : Int32) (97 : Int32) (121 : Int32) (115 : Int32) σ) fun r2 σ1 => if r2 = 0 then (bd (s_X12_isWord n (4 : Int32) (116 : Int32) (117 : Int32) (114 : Int32) (110 : Int32) (0 : Int32) (0 : Int32) σ1) fun r4 σ3 => if r4 = 0 then (bd (s_X12_isWord n (5 : Int32) (115 : Int32) (109 : Int32) (97 : Int32) (108 : Int32) (108 : Int32) (0 : Int32) σ3) fun r6 σ5 => if r6 = 0 then (bd (s_X12_isWord n (3 : Int32) (102 : Int32) (97 : Int32) (114 : Int32) (0 : Int32) (0 : Int32) (0 : Int32) σ5) fun r8 σ7 => if r8 = 0 then (some ((-1 : Int32), σ7)) else (some ((3 : Int32), σ7))) else (some ((2 : Int32), σ5))) else (some ((1 : Int32), σ3))) else (some ((0 : Int32), σ1))
set_option maxRecDepth 20000 in
theorem C_X12_keyOf {l : Launch} {G : zG} {n : Nat} {σ : Sg} {r : Int32} {τ : Sg} (h : s_X12_keyOf n σ = some (r, τ)) : zM l G 1 yX12_keyOf (.code yX12_keyOf cX12_keyOf 1 (some (.int))) [.ref (zad G 71)] σ (some (.int r)) τ := by
  refine zM_of (by decide) (Nat.le_of_ble_eq_true rfl) (fun x O E => ?_)
  have O : zO G x cX12_keyOf RX12 1 40 1 := O
  unfold s_X12_keyOf at h
  show V G x σ [(0, .ref (zad G 71))] 0 []
  refine V_aloadn 0 0 O dX12_keyOf_0 rfl rfl ?_
  refine V_bipush 1 O dX12_keyOf_1 cb_6 ?_
  refine V_bipush 3 O dX12_keyOf_3 cb_97 ?_
  refine V_bipush 5 O dX12_keyOf_5 cb_108 ?_
  refine V_bipush 7 O dX12_keyOf_7 cb_119 ?_
  refine V_bipush 9 O dX12_keyOf_9 cb_97 ?_
  refine V_bipush 11 O dX12_keyOf_11 cb_121 ?_
  refine V_bipush 13 O dX12_keyOf_13 cb_115 ?_
  obtain ⟨r2, σ1, g, h⟩ := bd_of h
  refine V_callVi 15 [.int (6 : Int32), .int (97 : Int32), .int (108 : Int32), .int (119 : Int32), .int (97 : Int32), .int (121 : Int32), .int (115 : Int32)] [] O mf_X12_isWord lk_X12_232 k71 dX12_keyOf_15 rfl rfl (Nat.le_of_ble_eq_true rfl) ⟨(Nat.le_of_ble_eq_true rfl), (Nat.le_of_ble_eq_true rfl)⟩ (fun l => C_X12_isWord  g) ?_
  refine V_if_eq 18 23 O dX12_keyOf_18 rfl h (fun h => ?_) (fun h => ?_)
  · refine V_aloadn 23 0 O dX12_keyOf_23 rfl rfl ?_
    refine V_iconst 24 O dX12_keyOf_24 ci_4 ?_
    refine V_bipush 25 O dX12_keyOf_25 cb_116 ?_
    refine V_bipush 27 O dX12_keyOf_27 cb_117 ?_
    refine V_bipush 29 O dX12_keyOf_29 cb_114 ?_
    refine V_bipush 31 O dX12_keyOf_31 cb_110 ?_
    refine V_iconst 33 O dX12_keyOf_33 ci_0 ?_
    refine V_iconst 34 O dX12_keyOf_34 ci_0 ?_
    obtain ⟨r4, σ3, g, h⟩ := bd_of h
    refine V_callVi 35 [.int (4 : Int32), .int (116 : Int32), .int (117 : Int32), .int (114 : Int32), .int (110 : Int32), .int (0 : Int32), .int (0 : Int32)] [] O mf_X12_isWord lk_X12_232 k71 dX12_keyOf_35 rfl rfl (Nat.le_of_ble_eq_true rfl) ⟨(Nat.le_of_ble_eq_true rfl), (Nat.le_of_ble_eq_true rfl)⟩ (fun l => C_X12_isWord  g) ?_
    refine V_if_eq 38 43 O dX12_keyOf_38 rfl h (fun h => ?_) (fun h => ?_)
    · refine V_aloadn 43 0 O dX12_keyOf_43 rfl rfl ?_
      refine V_iconst 44 O dX12_keyOf_44 ci_5 ?_
      refine V_bipush 45 O dX12_keyOf_45 cb_115 ?_
      refine V_bipush 47 O dX12_keyOf_47 cb_109 ?_
      refine V_bipush 49 O dX12_keyOf_49 cb_97 ?_
      refine V_bipush 51 O dX12_keyOf_51 cb_108 ?_
      refine V_bipush 53 O dX12_keyOf_53 cb_108 ?_
      refine V_iconst 55 O dX12_keyOf_55 ci_0 ?_
      obtain ⟨r6, σ5, g, h⟩ := bd_of h
      refine V_callVi 56 [.int (5 : Int32), .int (115 : Int32), .int (109 : Int32), .int (97 : Int32), .int (108 : Int32), .int (108 : Int32), .int (0 : Int32)] [] O mf_X12_isWord lk_X12_232 k71 dX12_keyOf_56 rfl rfl (Nat.le_of_ble_eq_true rfl) ⟨(Nat.le_of_ble_eq_true rfl), (Nat.le_of_ble_eq_true rfl)⟩ (fun l => C_X12_isWord  g) ?_
      refine V_if_eq 59 64 O dX12_keyOf_59 rfl h (fun h => ?_) (fun h => ?_)
      · refine V_aloadn 64 0 O dX12_keyOf_64 rfl rfl ?_
        refine V_iconst 65 O dX12_keyOf_65 ci_3 ?_
        refine V_bipush 66 O dX12_keyOf_66 cb_102 ?_
        refine V_bipush 68 O dX12_keyOf_68 cb_97 ?_
        refine V_bipush 70 O dX12_keyOf_70 cb_114 ?_
        refine V_iconst 72 O dX12_keyOf_72 ci_0 ?_
        refine V_iconst 73 O dX12_keyOf_73 ci_0 ?_
        refine V_iconst 74 O dX12_keyOf_74 ci_0 ?_
        obtain ⟨r8, σ7, g, h⟩ := bd_of h
        refine V_callVi 75 [.int (3 : Int32), .int (102 : Int32), .int (97 : Int32), .int (114 : Int32), .int (0 : Int32), .int (0 : Int32), .int (0 : Int32)] [] O mf_X12_isWord lk_X12_232 k71 dX12_keyOf_75 rfl rfl (Nat.le_of_ble_eq_true rfl) ⟨(Nat.le_of_ble_eq_true rfl), (Nat.le_of_ble_eq_true rfl)⟩ (fun l => C_X12_isWord  g) ?_
        refine V_if_eq 78 85 O dX12_keyOf_78 rfl h (fun h => ?_) (fun h => ?_)
        · refine V_iconst 85 O dX12_keyOf_85 ci_m1 ?_
          exact V_iret 86 O E dX12_keyOf_86 h
        · refine V_iconst 81 O dX12_keyOf_81 ci_3 ?_
          refine V_goto 82 86 O dX12_keyOf_82 rfl ?_
          exact V_iret 86 O E dX12_keyOf_86 h
      · refine V_iconst 62 O dX12_keyOf_62 ci_2 ?_
        exact V_iret 63 O E dX12_keyOf_63 h
    · refine V_iconst 41 O dX12_keyOf_41 ci_1 ?_
      exact V_iret 42 O E dX12_keyOf_42 h
  · refine V_iconst 21 O dX12_keyOf_21 ci_0 ?_
    exact V_iret 22 O E dX12_keyOf_22 h
-- ==== WaterTownModel.readKeys(I)V
def s_X12_readKeys_115 (n : Nat) (rc10 : Int32 → Int32 → Int32 → Int32 → Int32 → Sg → Option Sg) (x1 : Int32) (x2 : Int32) (x3 : Int32) (x4 : Int32) (y0 : Int32) (σ : Sg) : Option Sg := bd (s_X12_one n y0 σ) fun r24 σ23 => lt (up2 σ23 71 34 ((σ 71 34) + r24)) fun σ25 => rc10 x1 x2 x3 x4 y0 σ25
def s_X12_readKeys_69 (n : Nat) (rc10 : Int32 → Int32 → Int32 → Int32 → Int32 → Sg → Option Sg) (x1 : Int32) (x2 : Int32) (x3 : Int32) (x4 : Int32) (x5 : Int32) (x6 : Int32) (y0 : Int32) (σ : Sg) : Option Sg := bd (s_X12_want n y0 (4 : Int32) (σ 71 37) σ) fun r15 σ14 => if r15 = 0 then (rc10 x1 x2 x3 x4 x5 σ14) else (lt (x2 ||| (sl (1 : Int32) x6)) fun v16 => lt (x4 ||| (sl x6 ((2 : Int32) * x3))) fun v17 => bd (s_X12_here n σ14) fun r19 σ18 => lt (if r19 = (44 : Int32) then (1 : Int32) else (0 : Int32)) fun v22 => s_X12_readKeys_115 n rc10 x1 v16 (x3 + (1 : Int32)) v17 v22 σ18)
def s_X12_readKeys_43 (n : Nat) (rc10 : Int32 → Int32 → Int32 → Int32 → Int32 → Sg → Option Sg) (x1 : Int32) (x2 : Int32) (x3 : Int32) (x4 : Int32) (x5 : Int32) (x6 : Int32) (y0 : Int32) (σ : Sg) : Option Sg := bd (s_X12_want n y0 (1 : Int32) (σ 71 37) σ) fun r10 σ9 => if r10 = 0 then (rc10 x1 x2 x3 x4 x5 σ9) else (lt (if ((sr x2 x6) &&& (1 : Int32)) = 0 then (1 : Int32) else (0 : Int32)) fun v13 => s_X12_readKeys_69 n rc10 x1 x2 x3 x4 x5 x6 v13 σ9)
def s_X12_readKeys_134 (n : Nat) (x1 : Int32) (x3 : Int32) (x4 : Int32) (σ : Sg) : Option Sg := ck x1 64 (lt (up2 σ 96 (ix x1) x4) fun σ7 => ck x1 64 (lt (up2 σ7 97 (ix x1) x3) fun σ8 => some σ8))
def s_X12_readKeys_10b (n : Nat) (rc10 : Int32 → Int32 → Int32 → Int32 → Int32 → Sg → Option Sg) (x1 : Int32) (x2 : Int32) (x3 : Int32) (x4 : Int32) (x5 : Int32) (σ : Sg) : Option Sg := if x5 = 0 then (s_X12_readKeys_134 n x1 x3 x4 σ) else (if (σ 71 35) = 0 then (bdv (s_X12_takeWord n σ) fun σ1 => bd (s_X12_keyOf n σ1) fun r3 σ2 => lt (if r3 < 0 then (0 : Int32) else (1 : Int32)) fun v6 => s_X12_readKeys_43 n rc10 x1 x2 x3 x4 x5 r3 v6 σ2) else (s_X12_readKeys_134 n x1 x3 x4 σ))
def s_X12_readKeys_10 (n : Nat) : Nat → Int32 → Int32 → Int32 → Int32 → Int32 → Sg → Option Sg
  | 0 => fun _ _ _ _ _ _ => none
  | k + 1 => s_X12_readKeys_10b n (s_X12_readKeys_10 n k)
def s_X12_readKeys (n : Nat) (x1 : Int32) (σ : Sg) : Option Sg := s_X12_readKeys_10 n n x1 (0 : Int32) (0 : Int32) (0 : Int32) (1 : Int32) σ
set_option maxRecDepth 20000 in
theorem b_X12_readKeys_115 {G : zG} {x : zX} {τ : Sg} (O : zO G x cX12_readKeys RX12 2 80 7) (E : zE G x none none τ) (n : Nat) (rc10 : Int32 → Int32 → Int32 → Int32 → Int32 → Sg → Option Sg) (H10 : ∀ (x1 : Int32) (x2 : Int32) (x3 : Int32) (x4 : Int32) (x5 : Int32) (σ : Sg), rc10 x1 x2 x3 x4 x5 σ = some τ → V G x σ [(0, .ref (zad G 71)), (1, .int x1), (2, .int x2), (3, .int x3), (4, .int x4), (5, .int x5)] 10 []) (x1 : Int32) (x2 : Int32) (x3 : Int32) (x4 : Int32) (y0 : Int32) (σ : Sg) (h : s_X12_readKeys_115 n rc10 x1 x2 x3 x4 y0 σ = some τ) : V G x σ [(0, .ref (zad G 71)), (1, .int x1), (2, .int x2), (3, .int x3), (4, .int x4)] 115 [.int y0] := by
  unfold s_X12_readKeys_115 at h
  refine V_istore 115 [1, 2, 3, 4, 5, 0] [(0, .ref (zad G 71)), (1, .int x1), (2, .int x2), (3, .int x3), (4, .int x4), (5, .int y0)] O dX12_readKeys_115 (Nat.le_of_ble_eq_true rfl) rfl ?_
  refine V_aloadn 117 0 O dX12_readKeys_117 rfl rfl ?_
  refine V_dup 118 O dX12_readKeys_118 rfl ?_
  refine V_getI 119 O k71 fl_X12_204 dX12_readKeys_119 ?_
  refine V_iload 122 5 O dX12_readKeys_122 rfl ?_
  obtain ⟨r24, σ23, g, h⟩ := bd_of h
  refine V_callSi 124 [.int y0] [.int (σ 71 34), .ref (zad G 71)] O mf_X12_one lk_X12_185 dX12_readKeys_124 rfl rfl (Nat.le_of_ble_eq_true rfl) ⟨(Nat.le_of_ble_eq_true rfl), (Nat.le_of_ble_eq_true rfl)⟩ (fun l => C_X12_one  g) ?_
  refine V_iadd 127 O dX12_readKeys_127 ?_
  refine V_put 128 O k71 fp_X12_204 dX12_readKeys_128 h (fun σ25 h => ?_)
  refine V_goto 131 10 O dX12_readKeys_131 rfl ?_
  exact V_sub [0, 1, 2, 3, 4, 5] rfl (H10 x1 x2 x3 x4 y0 σ25  h)
set_option maxRecDepth 20000 in
theorem b_X12_readKeys_69 {G : zG} {x : zX} {τ : Sg} (O : zO G x cX12_readKeys RX12 2 80 7) (E : zE G x none none τ) (n : Nat) (rc10 : Int32 → Int32 → Int32 → Int32 → Int32 → Sg → Option Sg) (H10 : ∀ (x1 : Int32) (x2 : Int32) (x3 : Int32) (x4 : Int32) (x5 : Int32) (σ : Sg), rc10 x1 x2 x3 x4 x5 σ = some τ → V G x σ [(0, .ref (zad G 71)), (1, .int x1), (2, .int x2), (3, .int x3), (4, .int x4), (5, .int x5)] 10 []) (x1 : Int32) (x2 : Int32) (x3 : Int32) (x4 : Int32) (x5 : Int32) (x6 : Int32) (y0 : Int32) (σ : Sg) (h : s_X12_readKeys_69 n rc10 x1 x2 x3 x4 x5 x6 y0 σ = some τ) : V G x σ [(0, .ref (zad G 71)), (1, .int x1), (2, .int x2), (3, .int x3), (4, .int x4), (5, .int x5), (6, .int x6)] 69 [.int y0, .ref (zad G 71)] := by
  unfold s_X12_readKeys_69 at h
  refine V_iconst 69 O dX12_readKeys_69 ci_4 ?_
  refine V_aloadn 70 0 O dX12_readKeys_70 rfl rfl ?_
  refine V_getI 71 O k71 fl_X12_214 dX12_readKeys_71 ?_
  obtain ⟨r15, σ14, g, h⟩ := bd_of h
  refine V_callVi 74 [.int y0, .int (4 : Int32), .int (σ 71 37)] [] O mf_X12_want lk_X12_228 k71 dX12_readKeys_74 rfl rfl (Nat.le_of_ble_eq_true rfl) ⟨(Nat.le_of_ble_eq_true rfl), (Nat.le_of_ble_eq_true rfl)⟩ (fun l => C_X12_want  g) ?_
  refine V_if_eq 77 131 O dX12_readKeys_77 rfl h (fun h => ?_) (fun h => ?_)
  · refine V_goto 131 10 O dX12_readKeys_131 rfl ?_
    exact V_sub [0, 1, 2, 3, 4, 5] rfl (H10 x1 x2 x3 x4 x5 σ14  h)
  · refine V_iloadn 80 2 O dX12_readKeys_80 rfl rfl ?_
    refine V_iconst 81 O dX12_readKeys_81 ci_1 ?_
    refine V_iload 82 6 O dX12_readKeys_82 rfl ?_
    refine V_ishl 84 O dX12_readKeys_84 ?_
    refine V_ior 85 O dX12_readKeys_85 ?_
    refine V_topi h (fun v16 h => ?_)
    refine V_istoren 86 [1, 2, 0, 3, 4, 5, 6] [(0, .ref (zad G 71)), (1, .int x1), (2, .int v16), (3, .int x3), (4, .int x4), (5, .int x5), (6, .int x6)] O dX12_readKeys_86 rfl (Nat.le_of_ble_eq_true rfl) rfl ?_
    refine V_iload 87 4 O dX12_readKeys_87 rfl ?_
    refine V_iload 89 6 O dX12_readKeys_89 rfl ?_
    refine V_iconst 91 O dX12_readKeys_91 ci_2 ?_
    refine V_iloadn 92 3 O dX12_readKeys_92 rfl rfl ?_
    refine V_imul 93 O dX12_readKeys_93 ?_
    refine V_ishl 94 O dX12_readKeys_94 ?_
    refine V_ior 95 O dX12_readKeys_95 ?_
    refine V_topi h (fun v17 h => ?_)
    refine V_istore 96 [1, 2, 3, 4, 0, 5, 6] [(0, .ref (zad G 71)), (1, .int x1), (2, .int v16), (3, .int x3), (4, .int v17), (5, .int x5), (6, .int x6)] O dX12_readKeys_96 (Nat.le_of_ble_eq_true rfl) rfl ?_
    refine V_iinc 98 3 [1, 2, 3, 0, 4, 5, 6] [(0, .ref (zad G 71)), (1, .int x1), (2, .int v16), (3, .int (x3 + (1 : Int32))), (4, .int v17), (5, .int x5), (6, .int x6)] O dX12_readKeys_98 rfl ci_1 (Nat.le_of_ble_eq_true rfl) rfl ?_
    refine V_aloadn 101 0 O dX12_readKeys_101 rfl rfl ?_
    obtain ⟨r19, σ18, g, h⟩ := bd_of h
    refine V_callVi 102 [] [] O mf_X12_here lk_X12_210 k71 dX12_readKeys_102 rfl rfl (Nat.le_of_ble_eq_true rfl) ⟨(Nat.le_of_ble_eq_true rfl), (Nat.le_of_ble_eq_true rfl)⟩ (fun l => C_X12_here  g) ?_
    refine V_bipush 105 O dX12_readKeys_105 cb_44 ?_
    have J20 : V G x σ18 [(0, .ref (zad G 71)), (1, .int x1), (2, .int v16), (3, .int (x3 + (1 : Int32))), (4, .int v17), (5, .int x5), (6, .int x6)] 115 [.int (if r19 = (44 : Int32) then (1 : Int32) else (0 : Int32))] := by
      refine V_topi h (fun v22 h => ?_)
      exact V_sub [0, 1, 2, 3, 4] rfl (b_X12_readKeys_115 O E n rc10 H10 x1 v16 (x3 + (1 : Int32)) v17 v22 σ18  h)
    refine V_icmp_nec 107 114 O dX12_readKeys_107 rfl (fun c21 => ?_) (fun c21 => ?_)
    · refine V_iconst 114 O dX12_readKeys_114 ci_0 ?_
      exact V_top (by rw [if_neg c21]) J20
    · refine V_iconst 110 O dX12_readKeys_110 ci_1 ?_
      refine V_goto 111 115 O dX12_readKeys_111 rfl ?_
      exact V_top (by rw [if_pos c21]) J20
set_option maxRecDepth 20000 in
theorem b_X12_readKeys_43 {G : zG} {x : zX} {τ : Sg} (O : zO G x cX12_readKeys RX12 2 80 7) (E : zE G x none none τ) (n : Nat) (rc10 : Int32 → Int32 → Int32 → Int32 → Int32 → Sg → Option Sg) (H10 : ∀ (x1 : Int32) (x2 : Int32) (x3 : Int32) (x4 : Int32) (x5 : Int32) (σ : Sg), rc10 x1 x2 x3 x4 x5 σ = some τ → V G x σ [(0, .ref (zad G 71)), (1, .int x1), (2, .int x2), (3, .int x3), (4, .int x4), (5, .int x5)] 10 []) (x1 : Int32) (x2 : Int32) (x3 : Int32) (x4 : Int32) (x5 : Int32) (x6 : Int32) (y0 : Int32) (σ : Sg) (h : s_X12_readKeys_43 n rc10 x1 x2 x3 x4 x5 x6 y0 σ = some τ) : V G x σ [(0, .ref (zad G 71)), (1, .int x1), (2, .int x2), (3, .int x3), (4, .int x4), (5, .int x5), (6, .int x6)] 43 [.int y0, .ref (zad G 71)] := by
  unfold s_X12_readKeys_43 at h
  refine V_iconst 43 O dX12_readKeys_43 ci_1 ?_
  refine V_aloadn 44 0 O dX12_readKeys_44 rfl rfl ?_
  refine V_getI 45 O k71 fl_X12_214 dX12_readKeys_45 ?_
  obtain ⟨r10, σ9, g, h⟩ := bd_of h
  refine V_callVi 48 [.int y0, .int (1 : Int32), .int (σ 71 37)] [] O mf_X12_want lk_X12_228 k71 dX12_readKeys_48 rfl rfl (Nat.le_of_ble_eq_true rfl) ⟨(Nat.le_of_ble_eq_true rfl), (Nat.le_of_ble_eq_true rfl)⟩ (fun l => C_X12_want  g) ?_
  refine V_if_eq 51 131 O dX12_readKeys_51 rfl h (fun h => ?_) (fun h => ?_)
  · refine V_goto 131 10 O dX12_readKeys_131 rfl ?_
    exact V_sub [0, 1, 2, 3, 4, 5] rfl (H10 x1 x2 x3 x4 x5 σ9  h)
  · refine V_aloadn 54 0 O dX12_readKeys_54 rfl rfl ?_
    refine V_iloadn 55 2 O dX12_readKeys_55 rfl rfl ?_
    refine V_iload 56 6 O dX12_readKeys_56 rfl ?_
    refine V_ishr 58 O dX12_readKeys_58 ?_
    refine V_iconst 59 O dX12_readKeys_59 ci_1 ?_
    refine V_iand 60 O dX12_readKeys_60 ?_
    have J11 : V G x σ9 [(0, .ref (zad G 71)), (1, .int x1), (2, .int x2), (3, .int x3), (4, .int x4), (5, .int x5), (6, .int x6)] 69 [.int (if ((sr x2 x6) &&& (1 : Int32)) = 0 then (1 : Int32) else (0 : Int32)), .ref (zad G 71)] := by
      refine V_topi h (fun v13 h => ?_)
      exact V_sub [0, 1, 2, 3, 4, 5, 6] rfl (b_X12_readKeys_69 O E n rc10 H10 x1 x2 x3 x4 x5 x6 v13 σ9  h)
    refine V_if_nec 61 68 O dX12_readKeys_61 rfl (fun c12 => ?_) (fun c12 => ?_)
    · refine V_iconst 68 O dX12_readKeys_68 ci_0 ?_
      exact V_top (by rw [if_neg c12]) J11
    · refine V_iconst 64 O dX12_readKeys_64 ci_1 ?_
      refine V_goto 65 69 O dX12_readKeys_65 rfl ?_
      exact V_top (by rw [if_pos c12]) J11
set_option maxRecDepth 20000 in
theorem b_X12_readKeys_134 {G : zG} {x : zX} {τ : Sg} (O : zO G x cX12_readKeys RX12 2 80 7) (E : zE G x none none τ) (n : Nat) (x1 : Int32) (x3 : Int32) (x4 : Int32) (σ : Sg) (h : s_X12_readKeys_134 n x1 x3 x4 σ = some τ) : V G x σ [(0, .ref (zad G 71)), (1, .int x1), (3, .int x3), (4, .int x4)] 134 [] := by
  unfold s_X12_readKeys_134 at h
  refine V_aloadn 134 0 O dX12_readKeys_134 rfl rfl ?_
  refine V_getR 135 O k71 fl_X12_83 rf71_30 dX12_readKeys_135 ?_
  refine V_iloadn 138 1 O dX12_readKeys_138 rfl rfl ?_
  refine V_iload 139 3 O dX12_readKeys_139 rfl ?_
  refine V_iast 141 O k96 dX12_readKeys_141 h (fun σ7 h => ?_)
  refine V_aloadn 142 0 O dX12_readKeys_142 rfl rfl ?_
  refine V_getR 143 O k71 fl_X12_86 rf71_31 dX12_readKeys_143 ?_
  refine V_iloadn 146 1 O dX12_readKeys_146 rfl rfl ?_
  refine V_iloadn 147 2 O dX12_readKeys_147 rfl rfl ?_
  refine V_iast 148 O k97 dX12_readKeys_148 h (fun σ8 h => ?_)
  exact V_vret 149 O E dX12_readKeys_149 h
set_option maxRecDepth 20000 in
theorem b_X12_readKeys_10 {G : zG} {x : zX} {τ : Sg} (O : zO G x cX12_readKeys RX12 2 80 7) (E : zE G x none none τ) (n : Nat) (rc10 : Int32 → Int32 → Int32 → Int32 → Int32 → Sg → Option Sg) (H10 : ∀ (x1 : Int32) (x2 : Int32) (x3 : Int32) (x4 : Int32) (x5 : Int32) (σ : Sg), rc10 x1 x2 x3 x4 x5 σ = some τ → V G x σ [(0, .ref (zad G 71)), (1, .int x1), (2, .int x2), (3, .int x3), (4, .int x4), (5, .int x5)] 10 []) (x1 : Int32) (x2 : Int32) (x3 : Int32) (x4 : Int32) (x5 : Int32) (σ : Sg) (h : s_X12_readKeys_10b n rc10 x1 x2 x3 x4 x5 σ = some τ) : V G x σ [(0, .ref (zad G 71)), (1, .int x1), (2, .int x2), (3, .int x3), (4, .int x4), (5, .int x5)] 10 [] := by
  unfold s_X12_readKeys_10b at h
  refine V_iload 10 5 O dX12_readKeys_10 rfl ?_
  refine V_if_eq 12 134 O dX12_readKeys_12 rfl h (fun h => ?_) (fun h => ?_)
  · exact V_sub [0, 1, 3, 4] rfl (b_X12_readKeys_134 O E n  x1 x3 x4 σ  h)
  · refine V_aloadn 15 0 O dX12_readKeys_15 rfl rfl ?_
    refine V_getI 16 O k71 fl_X12_207 dX12_readKeys_16 ?_
    refine V_if_ne 19 134 O dX12_readKeys_19 rfl h (fun h => ?_) (fun h => ?_)
    · exact V_sub [0, 1, 3, 4] rfl (b_X12_readKeys_134 O E n  x1 x3 x4 σ  h)
    · refine V_aloadn 22 0 O dX12_readKeys_22 rfl rfl ?_
      obtain ⟨σ1, g, h⟩ := bdv_of h
      refine V_callVv 23 [] [] O mf_X12_takeWord lk_X12_236 k71 dX12_readKeys_23 rfl rfl (Nat.le_of_ble_eq_true rfl) ⟨(Nat.le_of_ble_eq_true rfl), (Nat.le_of_ble_eq_true rfl)⟩ (fun l => C_X12_takeWord  g) ?_
      refine V_aloadn 26 0 O dX12_readKeys_26 rfl rfl ?_
      obtain ⟨r3, σ2, g, h⟩ := bd_of h
      refine V_callVi 27 [] [] O mf_X12_keyOf lk_X12_239 k71 dX12_readKeys_27 rfl rfl (Nat.le_of_ble_eq_true rfl) ⟨(Nat.le_of_ble_eq_true rfl), (Nat.le_of_ble_eq_true rfl)⟩ (fun l => C_X12_keyOf  g) ?_
      refine V_istore 30 [1, 2, 3, 4, 5, 6, 0] [(0, .ref (zad G 71)), (1, .int x1), (2, .int x2), (3, .int x3), (4, .int x4), (5, .int x5), (6, .int r3)] O dX12_readKeys_30 (Nat.le_of_ble_eq_true rfl) rfl ?_
      refine V_aloadn 32 0 O dX12_readKeys_32 rfl rfl ?_
      refine V_iload 33 6 O dX12_readKeys_33 rfl ?_
      have J4 : V G x σ2 [(0, .ref (zad G 71)), (1, .int x1), (2, .int x2), (3, .int x3), (4, .int x4), (5, .int x5), (6, .int r3)] 43 [.int (if r3 < 0 then (0 : Int32) else (1 : Int32)), .ref (zad G 71)] := by
        refine V_topi h (fun v6 h => ?_)
        exact V_sub [0, 1, 2, 3, 4, 5, 6] rfl (b_X12_readKeys_43 O E n rc10 H10 x1 x2 x3 x4 x5 r3 v6 σ2  h)
      refine V_if_ltc 35 42 O dX12_readKeys_35 rfl (fun c5 => ?_) (fun c5 => ?_)
      · refine V_iconst 42 O dX12_readKeys_42 ci_0 ?_
        exact V_top (by rw [if_pos c5]) J4
      · refine V_iconst 38 O dX12_readKeys_38 ci_1 ?_
        refine V_goto 39 43 O dX12_readKeys_39 rfl ?_
        exact V_top (by rw [if_neg c5]) J4
theorem bl_X12_readKeys_10 {G : zG} {x : zX} {τ : Sg} (O : zO G x cX12_readKeys RX12 2 80 7) (E : zE G x none none τ) (n : Nat) : ∀ (k : Nat) (x1 : Int32) (x2 : Int32) (x3 : Int32) (x4 : Int32) (x5 : Int32) (σ : Sg), s_X12_readKeys_10 n k x1 x2 x3 x4 x5 σ = some τ → V G x σ [(0, .ref (zad G 71)), (1, .int x1), (2, .int x2), (3, .int x3), (4, .int x4), (5, .int x5)] 10 [] := by
  intro k
  induction k with
  | zero => intro x1 x2 x3 x4 x5 σ  h; cases h
  | succ k ih => intro x1 x2 x3 x4 x5 σ  h; exact b_X12_readKeys_10 O E n  (s_X12_readKeys_10 n  k) ih x1 x2 x3 x4 x5 σ  h
set_option maxRecDepth 20000 in
theorem C_X12_readKeys {l : Launch} {G : zG} {n : Nat} {x1 : Int32} {σ : Sg} {τ : Sg} (h : s_X12_readKeys n x1 σ = some τ) : zM l G 2 yX12_readKeys (.code yX12_readKeys cX12_readKeys 7 none) [.ref (zad G 71), .int x1] σ none τ := by
  refine zM_of (by decide) (Nat.le_of_ble_eq_true rfl) (fun x O E => ?_)
  have O : zO G x cX12_readKeys RX12 2 80 7 := O
  unfold s_X12_readKeys at h
  show V G x σ [(0, .ref (zad G 71)), (1, .int x1)] 0 []
  refine V_iconst 0 O dX12_readKeys_0 ci_0 ?_
  refine V_istoren 1 [1, 2, 0] [(0, .ref (zad G 71)), (1, .int x1), (2, .int (0 : Int32))] O dX12_readKeys_1 rfl (Nat.le_of_ble_eq_true rfl) rfl ?_
  refine V_iconst 2 O dX12_readKeys_2 ci_0 ?_
  refine V_istoren 3 [1, 2, 3, 0] [(0, .ref (zad G 71)), (1, .int x1), (2, .int (0 : Int32)), (3, .int (0 : Int32))] O dX12_readKeys_3 rfl (Nat.le_of_ble_eq_true rfl) rfl ?_
  refine V_iconst 4 O dX12_readKeys_4 ci_0 ?_
  refine V_istore 5 [1, 2, 3, 4, 0] [(0, .ref (zad G 71)), (1, .int x1), (2, .int (0 : Int32)), (3, .int (0 : Int32)), (4, .int (0 : Int32))] O dX12_readKeys_5 (Nat.le_of_ble_eq_true rfl) rfl ?_
  refine V_iconst 7 O dX12_readKeys_7 ci_1 ?_
  refine V_istore 8 [1, 2, 3, 4, 5, 0] [(0, .ref (zad G 71)), (1, .int x1), (2, .int (0 : Int32)), (3, .int (0 : Int32)), (4, .int (0 : Int32)), (5, .int (1 : Int32))] O dX12_readKeys_8 (Nat.le_of_ble_eq_true rfl) rfl ?_
  exact V_sub [0, 1, 2, 3, 4, 5] rfl (bl_X12_readKeys_10 O E n  n x1 (0 : Int32) (0 : Int32) (0 : Int32) (1 : Int32) σ  h)
-- ==== WaterTownModel.readClause(II)V
def s_X12_readClause_184 (n : Nat) (y0 : Int32) (y2 : Int32) (σ : Sg) : Option Sg := bd (s_X12_want n y0 (1 : Int32) (σ 71 34) σ) fun r31 σ30 => bd (s_X12_one n r31 σ30) fun r33 σ32 => lt (up2 σ32 71 34 (y2 + r33)) fun σ34 => some σ34
def s_X12_readClause_155 (n : Nat) (σ : Sg) : Option Sg := if (σ 71 35) = 0 then (bd (s_X12_here n σ) fun r24 σ23 => lt (if r24 = (59 : Int32) then (1 : Int32) else (0 : Int32)) fun v27 => s_X12_readClause_184 n v27 (σ23 71 34) σ23) else (some σ)
def s_X12_readClause_130 (n : Nat) (y0 : Int32) (σ : Sg) : Option Sg := bd (s_X12_want n y0 (3 : Int32) (σ 71 37) σ) fun r29 σ28 => s_X12_readClause_155 n σ28
def s_X12_readClause (n : Nat) (x1 : Int32) (x2 : Int32) (σ : Sg) : Option Sg := ck x2 64 (lt (up2 σ 95 (ix x2) x1) fun σ1 => if x1 = 0 then (bdv (s_X12_readKeys n x2 σ1) fun σ22 => s_X12_readClause_155 n σ22) else (if x1 = (1 : Int32) then (bd (s_X12_takeNumber n (0 : Int32) (23 : Int32) σ1) fun r12 σ11 => ck x2 64 (lt (up2 σ11 96 (ix x2) r12) fun σ13 => if (σ13 71 35) = 0 then (bdv (s_X12_takeWord n σ13) fun σ14 => bd (s_X12_isWord n (2 : Int32) (116 : Int32) (111 : Int32) (0 : Int32) (0 : Int32) (0 : Int32) (0 : Int32) σ14) fun r16 σ15 => bd (s_X12_want n r16 (1 : Int32) (σ15 71 37) σ15) fun r18 σ17 => ck x2 64 (bd (s_X12_takeNumber n (σ17 96 (ix x2)) (23 : Int32) σ17) fun r20 σ19 => ck x2 64 (lt (up2 σ19 97 (ix x2) r20) fun σ21 => s_X12_readClause_155 n σ21))) else (s_X12_readClause_155 n σ13))) else (if x1 = (4 : Int32) then (bd (s_X12_takeNumber n (0 : Int32) (999 : Int32) σ1) fun r6 σ5 => ck x2 64 (lt (up2 σ5 96 (ix x2) r6) fun σ7 => ck x2 64 (lt (if (σ7 71 26) ≤ (σ7 96 (ix x2)) then (0 : Int32) else (1 : Int32)) fun v10 => s_X12_readClause_130 n v10 σ7))) else (bd (s_X12_takeNumber n (0 : Int32) (99 : Int32) σ1) fun r3 σ2 => ck x2 64 (lt (up2 σ2 96 (ix x2) r3) fun σ4 => s_X12_readClause_155 n σ4)))))
set_option maxRecDepth 20000 in
theorem b_X12_readClause_184 {G : zG} {x : zX} {τ : Sg} (O : zO G x cX12_readClause RX12 3 120 4) (E : zE G x none none τ) (n : Nat) (y0 : Int32) (y2 : Int32) (σ : Sg) (h : s_X12_readClause_184 n y0 y2 σ = some τ) : V G x σ [(0, .ref (zad G 71))] 184 [.int y0, .ref (zad G 71), .int y2, .ref (zad G 71)] := by
  unfold s_X12_readClause_184 at h
  refine V_iconst 184 O dX12_readClause_184 ci_1 ?_
  refine V_aloadn 185 0 O dX12_readClause_185 rfl rfl ?_
  refine V_getI 186 O k71 fl_X12_204 dX12_readClause_186 ?_
  obtain ⟨r31, σ30, g, h⟩ := bd_of h
  refine V_callVi 189 [.int y0, .int (1 : Int32), .int (σ 71 34)] [.int y2, .ref (zad G 71)] O mf_X12_want lk_X12_228 k71 dX12_readClause_189 rfl rfl (Nat.le_of_ble_eq_true rfl) ⟨(Nat.le_of_ble_eq_true rfl), (Nat.le_of_ble_eq_true rfl)⟩ (fun l => C_X12_want  g) ?_
  obtain ⟨r33, σ32, g, h⟩ := bd_of h
  refine V_callSi 192 [.int r31] [.int y2, .ref (zad G 71)] O mf_X12_one lk_X12_185 dX12_readClause_192 rfl rfl (Nat.le_of_ble_eq_true rfl) ⟨(Nat.le_of_ble_eq_true rfl), (Nat.le_of_ble_eq_true rfl)⟩ (fun l => C_X12_one  g) ?_
  refine V_iadd 195 O dX12_readClause_195 ?_
  refine V_put 196 O k71 fp_X12_204 dX12_readClause_196 h (fun σ34 h => ?_)
  exact V_vret 199 O E dX12_readClause_199 h
set_option maxRecDepth 20000 in
theorem b_X12_readClause_155 {G : zG} {x : zX} {τ : Sg} (O : zO G x cX12_readClause RX12 3 120 4) (E : zE G x none none τ) (n : Nat) (σ : Sg) (h : s_X12_readClause_155 n σ = some τ) : V G x σ [(0, .ref (zad G 71))] 155 [] := by
  unfold s_X12_readClause_155 at h
  refine V_aloadn 155 0 O dX12_readClause_155 rfl rfl ?_
  refine V_getI 156 O k71 fl_X12_207 dX12_readClause_156 ?_
  refine V_if_ne 159 199 O dX12_readClause_159 rfl h (fun h => ?_) (fun h => ?_)
  · exact V_vret 199 O E dX12_readClause_199 h
  · refine V_aloadn 162 0 O dX12_readClause_162 rfl rfl ?_
    obtain ⟨r24, σ23, g, h⟩ := bd_of h
    refine V_callVi 163 [] [] O mf_X12_here lk_X12_210 k71 dX12_readClause_163 rfl rfl (Nat.le_of_ble_eq_true rfl) ⟨(Nat.le_of_ble_eq_true rfl), (Nat.le_of_ble_eq_true rfl)⟩ (fun l => C_X12_here  g) ?_
    refine V_istoren 166 [1, 0] [(0, .ref (zad G 71)), (3, .int r24)] O dX12_readClause_166 rfl (Nat.le_of_ble_eq_true rfl) rfl ?_
    refine V_aloadn 167 0 O dX12_readClause_167 rfl rfl ?_
    refine V_dup 168 O dX12_readClause_168 rfl ?_
    refine V_getI 169 O k71 fl_X12_204 dX12_readClause_169 ?_
    refine V_aloadn 172 0 O dX12_readClause_172 rfl rfl ?_
    refine V_iloadn 173 1 O dX12_readClause_173 rfl rfl ?_
    refine V_bipush 174 O dX12_readClause_174 cb_59 ?_
    have J25 : V G x σ23 [(0, .ref (zad G 71)), (3, .int r24)] 184 [.int (if r24 = (59 : Int32) then (1 : Int32) else (0 : Int32)), .ref (zad G 71), .int (σ23 71 34), .ref (zad G 71)] := by
      refine V_topi h (fun v27 h => ?_)
      exact V_sub [0] rfl (b_X12_readClause_184 O E n  v27 (σ23 71 34) σ23  h)
    refine V_icmp_nec 176 183 O dX12_readClause_176 rfl (fun c26 => ?_) (fun c26 => ?_)
    · refine V_iconst 183 O dX12_readClause_183 ci_0 ?_
      exact V_top (by rw [if_neg c26]) J25
    · refine V_iconst 179 O dX12_readClause_179 ci_1 ?_
      refine V_goto 180 184 O dX12_readClause_180 rfl ?_
      exact V_top (by rw [if_pos c26]) J25
set_option maxRecDepth 20000 in
theorem b_X12_readClause_130 {G : zG} {x : zX} {τ : Sg} (O : zO G x cX12_readClause RX12 3 120 4) (E : zE G x none none τ) (n : Nat) (y0 : Int32) (σ : Sg) (h : s_X12_readClause_130 n y0 σ = some τ) : V G x σ [(0, .ref (zad G 71))] 130 [.int y0, .ref (zad G 71)] := by
  unfold s_X12_readClause_130 at h
  refine V_iconst 130 O dX12_readClause_130 ci_3 ?_
  refine V_aloadn 131 0 O dX12_readClause_131 rfl rfl ?_
  refine V_getI 132 O k71 fl_X12_214 dX12_readClause_132 ?_
  obtain ⟨r29, σ28, g, h⟩ := bd_of h
  refine V_callVi 135 [.int y0, .int (3 : Int32), .int (σ 71 37)] [] O mf_X12_want lk_X12_228 k71 dX12_readClause_135 rfl rfl (Nat.le_of_ble_eq_true rfl) ⟨(Nat.le_of_ble_eq_true rfl), (Nat.le_of_ble_eq_true rfl)⟩ (fun l => C_X12_want  g) ?_
  refine V_istoren 138 [1, 0] [(0, .ref (zad G 71)), (3, .int r29)] O dX12_readClause_138 rfl (Nat.le_of_ble_eq_true rfl) rfl ?_
  refine V_goto 139 155 O dX12_readClause_139 rfl ?_
  exact V_sub [0] rfl (b_X12_readClause_155 O E n   σ28  h)
set_option maxRecDepth 20000 in
theorem C_X12_readClause {l : Launch} {G : zG} {n : Nat} {x1 : Int32} {x2 : Int32} {σ : Sg} {τ : Sg} (h : s_X12_readClause n x1 x2 σ = some τ) : zM l G 3 yX12_readClause (.code yX12_readClause cX12_readClause 4 none) [.ref (zad G 71), .int x1, .int x2] σ none τ := by
  refine zM_of (by decide) (Nat.le_of_ble_eq_true rfl) (fun x O E => ?_)
  have O : zO G x cX12_readClause RX12 3 120 4 := O
  unfold s_X12_readClause at h
  show V G x σ [(0, .ref (zad G 71)), (1, .int x1), (2, .int x2)] 0 []
  refine V_aloadn 0 0 O dX12_readClause_0 rfl rfl ?_
  refine V_getR 1 O k71 fl_X12_80 rf71_29 dX12_readClause_1 ?_
  refine V_iloadn 4 2 O dX12_readClause_4 rfl rfl ?_
  refine V_iloadn 5 1 O dX12_readClause_5 rfl rfl ?_
  refine V_iast 6 O k95 dX12_readClause_6 h (fun σ1 h => ?_)
  refine V_iloadn 7 1 O dX12_readClause_7 rfl rfl ?_
  refine V_if_ne 8 19 O dX12_readClause_8 rfl h (fun h => ?_) (fun h => ?_)
  · refine V_iloadn 19 1 O dX12_readClause_19 rfl rfl ?_
    refine V_iconst 20 O dX12_readClause_20 ci_1 ?_
    refine V_icmp_ne 21 92 O dX12_readClause_21 rfl h (fun h => ?_) (fun h => ?_)
    · refine V_iloadn 92 1 O dX12_readClause_92 rfl rfl ?_
      refine V_iconst 93 O dX12_readClause_93 ci_4 ?_
      refine V_icmp_ne 94 142 O dX12_readClause_94 rfl h (fun h => ?_) (fun h => ?_)
      · refine V_aloadn 142 0 O dX12_readClause_142 rfl rfl ?_
        refine V_getR 143 O k71 fl_X12_83 rf71_30 dX12_readClause_143 ?_
        refine V_iloadn 146 2 O dX12_readClause_146 rfl rfl ?_
        refine V_aloadn 147 0 O dX12_readClause_147 rfl rfl ?_
        refine V_iconst 148 O dX12_readClause_148 ci_0 ?_
        refine V_bipush 149 O dX12_readClause_149 cb_99 ?_
        obtain ⟨r3, σ2, g, h⟩ := bd_of h
        refine V_callVi 151 [.int (0 : Int32), .int (99 : Int32)] [.int x2, .ref (zad G 96)] O mf_X12_takeNumber lk_X12_246 k71 dX12_readClause_151 rfl rfl (Nat.le_of_ble_eq_true rfl) ⟨(Nat.le_of_ble_eq_true rfl), (Nat.le_of_ble_eq_true rfl)⟩ (fun l => C_X12_takeNumber  g) ?_
        refine V_iast 154 O k96 dX12_readClause_154 h (fun σ4 h => ?_)
        exact V_sub [0] rfl (b_X12_readClause_155 O E n   σ4  h)
      · refine V_aloadn 97 0 O dX12_readClause_97 rfl rfl ?_
        refine V_getR 98 O k71 fl_X12_83 rf71_30 dX12_readClause_98 ?_
        refine V_iloadn 101 2 O dX12_readClause_101 rfl rfl ?_
        refine V_aloadn 102 0 O dX12_readClause_102 rfl rfl ?_
        refine V_iconst 103 O dX12_readClause_103 ci_0 ?_
        refine V_sipush 104 O dX12_readClause_104 cs_999 ?_
        obtain ⟨r6, σ5, g, h⟩ := bd_of h
        refine V_callVi 107 [.int (0 : Int32), .int (999 : Int32)] [.int x2, .ref (zad G 96)] O mf_X12_takeNumber lk_X12_246 k71 dX12_readClause_107 rfl rfl (Nat.le_of_ble_eq_true rfl) ⟨(Nat.le_of_ble_eq_true rfl), (Nat.le_of_ble_eq_true rfl)⟩ (fun l => C_X12_takeNumber  g) ?_
        refine V_iast 110 O k96 dX12_readClause_110 h (fun σ7 h => ?_)
        refine V_aloadn 111 0 O dX12_readClause_111 rfl rfl ?_
        refine V_aloadn 112 0 O dX12_readClause_112 rfl rfl ?_
        refine V_getR 113 O k71 fl_X12_83 rf71_30 dX12_readClause_113 ?_
        refine V_iloadn 116 2 O dX12_readClause_116 rfl rfl ?_
        refine V_iald 117 O k96 dX12_readClause_117 h (fun h => ?_)
        refine V_aloadn 118 0 O dX12_readClause_118 rfl rfl ?_
        refine V_getI 119 O k71 fl_X12_250 dX12_readClause_119 ?_
        have J8 : V G x σ7 [(0, .ref (zad G 71)), (1, .int x1), (2, .int x2)] 130 [.int (if (σ7 71 26) ≤ (σ7 96 (ix x2)) then (0 : Int32) else (1 : Int32)), .ref (zad G 71)] := by
          refine V_topi h (fun v10 h => ?_)
          exact V_sub [0] rfl (b_X12_readClause_130 O E n  v10 σ7  h)
        refine V_icmp_gec 122 129 O dX12_readClause_122 rfl (fun c9 => ?_) (fun c9 => ?_)
        · refine V_iconst 129 O dX12_readClause_129 ci_0 ?_
          exact V_top (by rw [if_pos c9]) J8
        · refine V_iconst 125 O dX12_readClause_125 ci_1 ?_
          refine V_goto 126 130 O dX12_readClause_126 rfl ?_
          exact V_top (by rw [if_neg c9]) J8
    · refine V_aloadn 24 0 O dX12_readClause_24 rfl rfl ?_
      refine V_getR 25 O k71 fl_X12_83 rf71_30 dX12_readClause_25 ?_
      refine V_iloadn 28 2 O dX12_readClause_28 rfl rfl ?_
      refine V_aloadn 29 0 O dX12_readClause_29 rfl rfl ?_
      refine V_iconst 30 O dX12_readClause_30 ci_0 ?_
      refine V_bipush 31 O dX12_readClause_31 cb_23 ?_
      obtain ⟨r12, σ11, g, h⟩ := bd_of h
      refine V_callVi 33 [.int (0 : Int32), .int (23 : Int32)] [.int x2, .ref (zad G 96)] O mf_X12_takeNumber lk_X12_246 k71 dX12_readClause_33 rfl rfl (Nat.le_of_ble_eq_true rfl) ⟨(Nat.le_of_ble_eq_true rfl), (Nat.le_of_ble_eq_true rfl)⟩ (fun l => C_X12_takeNumber  g) ?_
      refine V_iast 36 O k96 dX12_readClause_36 h (fun σ13 h => ?_)
      refine V_aloadn 37 0 O dX12_readClause_37 rfl rfl ?_
      refine V_getI 38 O k71 fl_X12_207 dX12_readClause_38 ?_
      refine V_if_ne 41 155 O dX12_readClause_41 rfl h (fun h => ?_) (fun h => ?_)
      · exact V_sub [0] rfl (b_X12_readClause_155 O E n   σ13  h)
      · refine V_aloadn 44 0 O dX12_readClause_44 rfl rfl ?_
        obtain ⟨σ14, g, h⟩ := bdv_of h
        refine V_callVv 45 [] [] O mf_X12_takeWord lk_X12_236 k71 dX12_readClause_45 rfl rfl (Nat.le_of_ble_eq_true rfl) ⟨(Nat.le_of_ble_eq_true rfl), (Nat.le_of_ble_eq_true rfl)⟩ (fun l => C_X12_takeWord  g) ?_
        refine V_aloadn 48 0 O dX12_readClause_48 rfl rfl ?_
        refine V_aloadn 49 0 O dX12_readClause_49 rfl rfl ?_
        refine V_iconst 50 O dX12_readClause_50 ci_2 ?_
        refine V_bipush 51 O dX12_readClause_51 cb_116 ?_
        refine V_bipush 53 O dX12_readClause_53 cb_111 ?_
        refine V_iconst 55 O dX12_readClause_55 ci_0 ?_
        refine V_iconst 56 O dX12_readClause_56 ci_0 ?_
        refine V_iconst 57 O dX12_readClause_57 ci_0 ?_
        refine V_iconst 58 O dX12_readClause_58 ci_0 ?_
        obtain ⟨r16, σ15, g, h⟩ := bd_of h
        refine V_callVi 59 [.int (2 : Int32), .int (116 : Int32), .int (111 : Int32), .int (0 : Int32), .int (0 : Int32), .int (0 : Int32), .int (0 : Int32)] [.ref (zad G 71)] O mf_X12_isWord lk_X12_232 k71 dX12_readClause_59 rfl rfl (Nat.le_of_ble_eq_true rfl) ⟨(Nat.le_of_ble_eq_true rfl), (Nat.le_of_ble_eq_true rfl)⟩ (fun l => C_X12_isWord  g) ?_
        refine V_iconst 62 O dX12_readClause_62 ci_1 ?_
        refine V_aloadn 63 0 O dX12_readClause_63 rfl rfl ?_
        refine V_getI 64 O k71 fl_X12_214 dX12_readClause_64 ?_
        obtain ⟨r18, σ17, g, h⟩ := bd_of h
        refine V_callVi 67 [.int r16, .int (1 : Int32), .int (σ15 71 37)] [] O mf_X12_want lk_X12_228 k71 dX12_readClause_67 rfl rfl (Nat.le_of_ble_eq_true rfl) ⟨(Nat.le_of_ble_eq_true rfl), (Nat.le_of_ble_eq_true rfl)⟩ (fun l => C_X12_want  g) ?_
        refine V_istoren 70 [1, 2, 3, 0] [(0, .ref (zad G 71)), (1, .int x1), (2, .int x2), (3, .int r18)] O dX12_readClause_70 rfl (Nat.le_of_ble_eq_true rfl) rfl ?_
        refine V_aloadn 71 0 O dX12_readClause_71 rfl rfl ?_
        refine V_getR 72 O k71 fl_X12_86 rf71_31 dX12_readClause_72 ?_
        refine V_iloadn 75 2 O dX12_readClause_75 rfl rfl ?_
        refine V_aloadn 76 0 O dX12_readClause_76 rfl rfl ?_
        refine V_aloadn 77 0 O dX12_readClause_77 rfl rfl ?_
        refine V_getR 78 O k71 fl_X12_83 rf71_30 dX12_readClause_78 ?_
        refine V_iloadn 81 2 O dX12_readClause_81 rfl rfl ?_
        refine V_iald 82 O k96 dX12_readClause_82 h (fun h => ?_)
        refine V_bipush 83 O dX12_readClause_83 cb_23 ?_
        obtain ⟨r20, σ19, g, h⟩ := bd_of h
        refine V_callVi 85 [.int (σ17 96 (ix x2)), .int (23 : Int32)] [.int x2, .ref (zad G 97)] O mf_X12_takeNumber lk_X12_246 k71 dX12_readClause_85 rfl rfl (Nat.le_of_ble_eq_true rfl) ⟨(Nat.le_of_ble_eq_true rfl), (Nat.le_of_ble_eq_true rfl)⟩ (fun l => C_X12_takeNumber  g) ?_
        refine V_iast 88 O k97 dX12_readClause_88 h (fun σ21 h => ?_)
        refine V_goto 89 155 O dX12_readClause_89 rfl ?_
        exact V_sub [0] rfl (b_X12_readClause_155 O E n   σ21  h)
  · refine V_aloadn 11 0 O dX12_readClause_11 rfl rfl ?_
    refine V_iloadn 12 2 O dX12_readClause_12 rfl rfl ?_
    obtain ⟨σ22, g, h⟩ := bdv_of h
    refine V_callVv 13 [.int x2] [] O mf_X12_readKeys lk_X12_242 k71 dX12_readClause_13 rfl rfl (Nat.le_of_ble_eq_true rfl) ⟨(Nat.le_of_ble_eq_true rfl), (Nat.le_of_ble_eq_true rfl)⟩ (fun l => C_X12_readKeys  g) ?_
    refine V_goto 16 155 O dX12_readClause_16 rfl ?_
    exact V_sub [0] rfl (b_X12_readClause_155 O E n   σ22  h)
-- ==== WaterTownModel.isDay(I)Z
def s_X12_isDay (n : Nat) (x0 : Int32) (σ : Sg) : Option (Int32 × Sg) := bd (s_X12_in n x0.toInt64 (0 : Int64) (199 : Int64) σ) fun r2 σ1 => bck r2 (some (r2, σ1))
set_option maxRecDepth 20000 in
theorem C_X12_isDay {l : Launch} {G : zG} {n : Nat} {x0 : Int32} {σ : Sg} {r : Int32} {τ : Sg} (h : s_X12_isDay n x0 σ = some (r, τ)) : zM l G 1 yX12_isDay (.code yX12_isDay cX12_isDay 1 (some (.boolean))) [.int x0] σ (some (.int r)) τ := by
  refine zM_of (by decide) (Nat.le_of_ble_eq_true rfl) (fun x O E => ?_)
  have O : zO G x cX12_isDay RX12 1 40 1 := O
  unfold s_X12_isDay at h
  show V G x σ [(0, .int x0)] 0 []
  refine V_iloadn 0 0 O dX12_isDay_0 rfl rfl ?_
  refine V_i2l 1 O dX12_isDay_1 ?_
  refine V_lconst 2 O dX12_isDay_2 cl_0 ?_
  refine V_ldc2 3 O dX12_isDay_3 ld_X12_253 ?_
  obtain ⟨r2, σ1, g, h⟩ := bd_of h
  refine V_callSi 6 [.long x0.toInt64, .long (0 : Int64), .long (199 : Int64)] [] O mf_X12_in lk_X12_162 dX12_isDay_6 rfl rfl (Nat.le_of_ble_eq_true rfl) ⟨(Nat.le_of_ble_eq_true rfl), (Nat.le_of_ble_eq_true rfl)⟩ (fun l => C_X12_in  g) ?_
  exact V_zret 9 O E dX12_isDay_9 h
-- ==== WaterTownModel.rule(I)I
def s_X12_rule_97 (n : Nat) (rc41 : Int32 → Int32 → Sg → Option (Int32 × Sg)) (x1 : Int32) (x2 : Int32) (x3 : Int32) (y0 : Int32) (σ : Sg) : Option (Int32 × Sg) := bd (s_X12_want n y0 (5 : Int32) (σ 71 37) σ) fun r24 σ23 => if r24 = 0 then (rc41 x1 x2 σ23) else (bdv (s_X12_readClause n x3 (((8 : Int32) * (σ23 71 26)) + x2) σ23) fun σ25 => rc41 x1 (x2 + (1 : Int32)) σ25)
def s_X12_rule_74 (n : Nat) (rc41 : Int32 → Int32 → Sg → Option (Int32 × Sg)) (x1 : Int32) (x2 : Int32) (x3 : Int32) (y0 : Int32) (σ : Sg) : Option (Int32 × Sg) := bd (s_X12_want n y0 (1 : Int32) (σ 71 37) σ) fun r19 σ18 => if r19 = 0 then (rc41 x1 x2 σ18) else (lt (if (8 : Int32) ≤ x2 then (0 : Int32) else (1 : Int32)) fun v22 => s_X12_rule_97 n rc41 x1 x2 x3 v22 σ18)
def s_X12_rule_128 (n : Nat) (x1 : Int32) (x2 : Int32) (σ : Sg) : Option (Int32 × Sg) := lt (up2 σ 71 33 (0 : Int32)) fun σ14 => if (σ14 71 35) ≤ 0 then (ck (σ14 71 26) 8 (lt (up2 σ14 94 (ix (σ14 71 26)) x2) fun σ15 => ck (σ15 71 26) 8 (lt (up2 σ15 93 (ix (σ15 71 26)) x1) fun σ16 => lt (up2 σ16 71 26 ((σ16 71 26) + (1 : Int32))) fun σ17 => some ((σ17 71 26) - (1 : Int32), σ17)))) else (some ((-10 : Int32) - (σ14 71 35), σ14))
def s_X12_rule_41b (n : Nat) (rc41 : Int32 → Int32 → Sg → Option (Int32 × Sg)) (x1 : Int32) (x2 : Int32) (σ : Sg) : Option (Int32 × Sg) := if (σ 71 35) = 0 then (bd (s_X12_here n σ) fun r7 σ6 => if r7 < 0 then (s_X12_rule_128 n x1 x2 σ6) else (bdv (s_X12_takeWord n σ6) fun σ8 => bd (s_X12_clauseOf n σ8) fun r10 σ9 => lt (if r10 < 0 then (0 : Int32) else (1 : Int32)) fun v13 => s_X12_rule_74 n rc41 x1 x2 r10 v13 σ9)) else (s_X12_rule_128 n x1 x2 σ)
def s_X12_rule_41 (n : Nat) : Nat → Int32 → Int32 → Sg → Option (Int32 × Sg)
  | 0 => fun _ _ _ => none
  | k + 1 => s_X12_rule_41b n (s_X12_rule_41 n k)
def s_X12_rule (n : Nat) (x1 : Int32) (σ : Sg) : Option (Int32 × Sg) := bd (s_X12_isDay n x1 σ) fun r2 σ1 => if r2 = 0 then (some ((-1002 : Int32), σ1)) else (if (σ1 71 26) = (8 : Int32) then (some ((-1004 : Int32), σ1)) else (lt (up2 σ1 71 34 (0 : Int32)) fun σ3 => lt (up2 σ3 71 35 (0 : Int32)) fun σ4 => lt (up2 σ4 71 36 (-1 : Int32)) fun σ5 => s_X12_rule_41 n n x1 (0 : Int32) σ5))
set_option maxRecDepth 20000 in
theorem b_X12_rule_97 {G : zG} {x : zX} {r : Int32} {τ : Sg} (O : zO G x cX12_rule RX12 4 160 4) (E : zE G x (some (.int)) (some (.int r)) τ) (n : Nat) (rc41 : Int32 → Int32 → Sg → Option (Int32 × Sg)) (H41 : ∀ (x1 : Int32) (x2 : Int32) (σ : Sg), rc41 x1 x2 σ = some (r, τ) → V G x σ [(0, .ref (zad G 71)), (1, .int x1), (2, .int x2)] 41 []) (x1 : Int32) (x2 : Int32) (x3 : Int32) (y0 : Int32) (σ : Sg) (h : s_X12_rule_97 n rc41 x1 x2 x3 y0 σ = some (r, τ)) : V G x σ [(0, .ref (zad G 71)), (1, .int x1), (2, .int x2), (3, .int x3)] 97 [.int y0, .ref (zad G 71)] := by
  unfold s_X12_rule_97 at h
  refine V_iconst 97 O dX12_rule_97 ci_5 ?_
  refine V_aloadn 98 0 O dX12_rule_98 rfl rfl ?_
  refine V_getI 99 O k71 fl_X12_214 dX12_rule_99 ?_
  obtain ⟨r24, σ23, g, h⟩ := bd_of h
  refine V_callVi 102 [.int y0, .int (5 : Int32), .int (σ 71 37)] [] O mf_X12_want lk_X12_228 k71 dX12_rule_102 rfl rfl (Nat.le_of_ble_eq_true rfl) ⟨(Nat.le_of_ble_eq_true rfl), (Nat.le_of_ble_eq_true rfl)⟩ (fun l => C_X12_want  g) ?_
  refine V_if_eq 105 125 O dX12_rule_105 rfl h (fun h => ?_) (fun h => ?_)
  · refine V_goto 125 41 O dX12_rule_125 rfl ?_
    exact V_sub [0, 1, 2] rfl (H41 x1 x2 σ23  h)
  · refine V_aloadn 108 0 O dX12_rule_108 rfl rfl ?_
    refine V_iloadn 109 3 O dX12_rule_109 rfl rfl ?_
    refine V_bipush 110 O dX12_rule_110 cb_8 ?_
    refine V_aloadn 112 0 O dX12_rule_112 rfl rfl ?_
    refine V_getI 113 O k71 fl_X12_250 dX12_rule_113 ?_
    refine V_imul 116 O dX12_rule_116 ?_
    refine V_iloadn 117 2 O dX12_rule_117 rfl rfl ?_
    refine V_iadd 118 O dX12_rule_118 ?_
    obtain ⟨σ25, g, h⟩ := bdv_of h
    refine V_callVv 119 [.int x3, .int (((8 : Int32) * (σ23 71 26)) + x2)] [] O mf_X12_readClause lk_X12_261 k71 dX12_rule_119 rfl rfl (Nat.le_of_ble_eq_true rfl) ⟨(Nat.le_of_ble_eq_true rfl), (Nat.le_of_ble_eq_true rfl)⟩ (fun l => C_X12_readClause  g) ?_
    refine V_iinc 122 2 [1, 2, 0, 3] [(0, .ref (zad G 71)), (1, .int x1), (2, .int (x2 + (1 : Int32))), (3, .int x3)] O dX12_rule_122 rfl ci_1 (Nat.le_of_ble_eq_true rfl) rfl ?_
    refine V_goto 125 41 O dX12_rule_125 rfl ?_
    exact V_sub [0, 1, 2] rfl (H41 x1 (x2 + (1 : Int32)) σ25  h)
set_option maxRecDepth 20000 in
theorem b_X12_rule_74 {G : zG} {x : zX} {r : Int32} {τ : Sg} (O : zO G x cX12_rule RX12 4 160 4) (E : zE G x (some (.int)) (some (.int r)) τ) (n : Nat) (rc41 : Int32 → Int32 → Sg → Option (Int32 × Sg)) (H41 : ∀ (x1 : Int32) (x2 : Int32) (σ : Sg), rc41 x1 x2 σ = some (r, τ) → V G x σ [(0, .ref (zad G 71)), (1, .int x1), (2, .int x2)] 41 []) (x1 : Int32) (x2 : Int32) (x3 : Int32) (y0 : Int32) (σ : Sg) (h : s_X12_rule_74 n rc41 x1 x2 x3 y0 σ = some (r, τ)) : V G x σ [(0, .ref (zad G 71)), (1, .int x1), (2, .int x2), (3, .int x3)] 74 [.int y0, .ref (zad G 71)] := by
  unfold s_X12_rule_74 at h
  refine V_iconst 74 O dX12_rule_74 ci_1 ?_
  refine V_aloadn 75 0 O dX12_rule_75 rfl rfl ?_
  refine V_getI 76 O k71 fl_X12_214 dX12_rule_76 ?_
  obtain ⟨r19, σ18, g, h⟩ := bd_of h
  refine V_callVi 79 [.int y0, .int (1 : Int32), .int (σ 71 37)] [] O mf_X12_want lk_X12_228 k71 dX12_rule_79 rfl rfl (Nat.le_of_ble_eq_true rfl) ⟨(Nat.le_of_ble_eq_true rfl), (Nat.le_of_ble_eq_true rfl)⟩ (fun l => C_X12_want  g) ?_
  refine V_if_eq 82 125 O dX12_rule_82 rfl h (fun h => ?_) (fun h => ?_)
  · refine V_goto 125 41 O dX12_rule_125 rfl ?_
    exact V_sub [0, 1, 2] rfl (H41 x1 x2 σ18  h)
  · refine V_aloadn 85 0 O dX12_rule_85 rfl rfl ?_
    refine V_iloadn 86 2 O dX12_rule_86 rfl rfl ?_
    refine V_bipush 87 O dX12_rule_87 cb_8 ?_
    have J20 : V G x σ18 [(0, .ref (zad G 71)), (1, .int x1), (2, .int x2), (3, .int x3)] 97 [.int (if (8 : Int32) ≤ x2 then (0 : Int32) else (1 : Int32)), .ref (zad G 71)] := by
      refine V_topi h (fun v22 h => ?_)
      exact V_sub [0, 1, 2, 3] rfl (b_X12_rule_97 O E n rc41 H41 x1 x2 x3 v22 σ18  h)
    refine V_icmp_gec 89 96 O dX12_rule_89 rfl (fun c21 => ?_) (fun c21 => ?_)
    · refine V_iconst 96 O dX12_rule_96 ci_0 ?_
      exact V_top (by rw [if_pos c21]) J20
    · refine V_iconst 92 O dX12_rule_92 ci_1 ?_
      refine V_goto 93 97 O dX12_rule_93 rfl ?_
      exact V_top (by rw [if_neg c21]) J20
set_option maxRecDepth 20000 in
theorem b_X12_rule_128 {G : zG} {x : zX} {r : Int32} {τ : Sg} (O : zO G x cX12_rule RX12 4 160 4) (E : zE G x (some (.int)) (some (.int r)) τ) (n : Nat) (x1 : Int32) (x2 : Int32) (σ : Sg) (h : s_X12_rule_128 n x1 x2 σ = some (r, τ)) : V G x σ [(0, .ref (zad G 71)), (1, .int x1), (2, .int x2)] 128 [] := by
  unfold s_X12_rule_128 at h
  refine V_aloadn 128 0 O dX12_rule_128 rfl rfl ?_
  refine V_iconst 129 O dX12_rule_129 ci_0 ?_
  refine V_put 130 O k71 fp_X12_199 dX12_rule_130 h (fun σ14 h => ?_)
  refine V_aloadn 133 0 O dX12_rule_133 rfl rfl ?_
  refine V_getI 134 O k71 fl_X12_207 dX12_rule_134 ?_
  refine V_if_le 137 148 O dX12_rule_137 rfl h (fun h => ?_) (fun h => ?_)
  · refine V_aloadn 148 0 O dX12_rule_148 rfl rfl ?_
    refine V_getR 149 O k71 fl_X12_77 rf71_28 dX12_rule_149 ?_
    refine V_aloadn 152 0 O dX12_rule_152 rfl rfl ?_
    refine V_getI 153 O k71 fl_X12_250 dX12_rule_153 ?_
    refine V_iloadn 156 2 O dX12_rule_156 rfl rfl ?_
    refine V_iast 157 O k94 dX12_rule_157 h (fun σ15 h => ?_)
    refine V_aloadn 158 0 O dX12_rule_158 rfl rfl ?_
    refine V_getR 159 O k71 fl_X12_74 rf71_27 dX12_rule_159 ?_
    refine V_aloadn 162 0 O dX12_rule_162 rfl rfl ?_
    refine V_getI 163 O k71 fl_X12_250 dX12_rule_163 ?_
    refine V_iloadn 166 1 O dX12_rule_166 rfl rfl ?_
    refine V_iast 167 O k93 dX12_rule_167 h (fun σ16 h => ?_)
    refine V_aloadn 168 0 O dX12_rule_168 rfl rfl ?_
    refine V_dup 169 O dX12_rule_169 rfl ?_
    refine V_getI 170 O k71 fl_X12_250 dX12_rule_170 ?_
    refine V_iconst 173 O dX12_rule_173 ci_1 ?_
    refine V_iadd 174 O dX12_rule_174 ?_
    refine V_put 175 O k71 fp_X12_250 dX12_rule_175 h (fun σ17 h => ?_)
    refine V_aloadn 178 0 O dX12_rule_178 rfl rfl ?_
    refine V_getI 179 O k71 fl_X12_250 dX12_rule_179 ?_
    refine V_iconst 182 O dX12_rule_182 ci_1 ?_
    refine V_isub 183 O dX12_rule_183 ?_
    exact V_iret 184 O E dX12_rule_184 h
  · refine V_bipush 140 O dX12_rule_140 cb_m10 ?_
    refine V_aloadn 142 0 O dX12_rule_142 rfl rfl ?_
    refine V_getI 143 O k71 fl_X12_207 dX12_rule_143 ?_
    refine V_isub 146 O dX12_rule_146 ?_
    exact V_iret 147 O E dX12_rule_147 h
set_option maxRecDepth 20000 in
theorem b_X12_rule_41 {G : zG} {x : zX} {r : Int32} {τ : Sg} (O : zO G x cX12_rule RX12 4 160 4) (E : zE G x (some (.int)) (some (.int r)) τ) (n : Nat) (rc41 : Int32 → Int32 → Sg → Option (Int32 × Sg)) (H41 : ∀ (x1 : Int32) (x2 : Int32) (σ : Sg), rc41 x1 x2 σ = some (r, τ) → V G x σ [(0, .ref (zad G 71)), (1, .int x1), (2, .int x2)] 41 []) (x1 : Int32) (x2 : Int32) (σ : Sg) (h : s_X12_rule_41b n rc41 x1 x2 σ = some (r, τ)) : V G x σ [(0, .ref (zad G 71)), (1, .int x1), (2, .int x2)] 41 [] := by
  unfold s_X12_rule_41b at h
  refine V_aloadn 41 0 O dX12_rule_41 rfl rfl ?_
  refine V_getI 42 O k71 fl_X12_207 dX12_rule_42 ?_
  refine V_if_ne 45 128 O dX12_rule_45 rfl h (fun h => ?_) (fun h => ?_)
  · exact V_sub [0, 1, 2] rfl (b_X12_rule_128 O E n  x1 x2 σ  h)
  · refine V_aloadn 48 0 O dX12_rule_48 rfl rfl ?_
    obtain ⟨r7, σ6, g, h⟩ := bd_of h
    refine V_callVi 49 [] [] O mf_X12_here lk_X12_210 k71 dX12_rule_49 rfl rfl (Nat.le_of_ble_eq_true rfl) ⟨(Nat.le_of_ble_eq_true rfl), (Nat.le_of_ble_eq_true rfl)⟩ (fun l => C_X12_here  g) ?_
    refine V_if_lt 52 128 O dX12_rule_52 rfl h (fun h => ?_) (fun h => ?_)
    · exact V_sub [0, 1, 2] rfl (b_X12_rule_128 O E n  x1 x2 σ6  h)
    · refine V_aloadn 55 0 O dX12_rule_55 rfl rfl ?_
      obtain ⟨σ8, g, h⟩ := bdv_of h
      refine V_callVv 56 [] [] O mf_X12_takeWord lk_X12_236 k71 dX12_rule_56 rfl rfl (Nat.le_of_ble_eq_true rfl) ⟨(Nat.le_of_ble_eq_true rfl), (Nat.le_of_ble_eq_true rfl)⟩ (fun l => C_X12_takeWord  g) ?_
      refine V_aloadn 59 0 O dX12_rule_59 rfl rfl ?_
      obtain ⟨r10, σ9, g, h⟩ := bd_of h
      refine V_callVi 60 [] [] O mf_X12_clauseOf lk_X12_258 k71 dX12_rule_60 rfl rfl (Nat.le_of_ble_eq_true rfl) ⟨(Nat.le_of_ble_eq_true rfl), (Nat.le_of_ble_eq_true rfl)⟩ (fun l => C_X12_clauseOf  g) ?_
      refine V_istoren 63 [1, 2, 3, 0] [(0, .ref (zad G 71)), (1, .int x1), (2, .int x2), (3, .int r10)] O dX12_rule_63 rfl (Nat.le_of_ble_eq_true rfl) rfl ?_
      refine V_aloadn 64 0 O dX12_rule_64 rfl rfl ?_
      refine V_iloadn 65 3 O dX12_rule_65 rfl rfl ?_
      have J11 : V G x σ9 [(0, .ref (zad G 71)), (1, .int x1), (2, .int x2), (3, .int r10)] 74 [.int (if r10 < 0 then (0 : Int32) else (1 : Int32)), .ref (zad G 71)] := by
        refine V_topi h (fun v13 h => ?_)
        exact V_sub [0, 1, 2, 3] rfl (b_X12_rule_74 O E n rc41 H41 x1 x2 r10 v13 σ9  h)
      refine V_if_ltc 66 73 O dX12_rule_66 rfl (fun c12 => ?_) (fun c12 => ?_)
      · refine V_iconst 73 O dX12_rule_73 ci_0 ?_
        exact V_top (by rw [if_pos c12]) J11
      · refine V_iconst 69 O dX12_rule_69 ci_1 ?_
        refine V_goto 70 74 O dX12_rule_70 rfl ?_
        exact V_top (by rw [if_neg c12]) J11
theorem bl_X12_rule_41 {G : zG} {x : zX} {r : Int32} {τ : Sg} (O : zO G x cX12_rule RX12 4 160 4) (E : zE G x (some (.int)) (some (.int r)) τ) (n : Nat) : ∀ (k : Nat) (x1 : Int32) (x2 : Int32) (σ : Sg), s_X12_rule_41 n k x1 x2 σ = some (r, τ) → V G x σ [(0, .ref (zad G 71)), (1, .int x1), (2, .int x2)] 41 [] := by
  intro k
  induction k with
  | zero => intro x1 x2 σ  h; cases h
  | succ k ih => intro x1 x2 σ  h; exact b_X12_rule_41 O E n  (s_X12_rule_41 n  k) ih x1 x2 σ  h
set_option maxRecDepth 20000 in
theorem C_X12_rule {l : Launch} {G : zG} {n : Nat} {x1 : Int32} {σ : Sg} {r : Int32} {τ : Sg} (h : s_X12_rule n x1 σ = some (r, τ)) : zM l G 4 yX12_rule (.code yX12_rule cX12_rule 4 (some (.int))) [.ref (zad G 71), .int x1] σ (some (.int r)) τ := by
  refine zM_of (by decide) (Nat.le_of_ble_eq_true rfl) (fun x O E => ?_)
  have O : zO G x cX12_rule RX12 4 160 4 := O
  unfold s_X12_rule at h
  show V G x σ [(0, .ref (zad G 71)), (1, .int x1)] 0 []
  refine V_iloadn 0 1 O dX12_rule_0 rfl rfl ?_
  obtain ⟨r2, σ1, g, h⟩ := bd_of h
  refine V_callSi 1 [.int x1] [] O mf_X12_isDay lk_X12_255 dX12_rule_1 rfl rfl (Nat.le_of_ble_eq_true rfl) ⟨(Nat.le_of_ble_eq_true rfl), (Nat.le_of_ble_eq_true rfl)⟩ (fun l => C_X12_isDay  g) ?_
  refine V_if_ne 4 11 O dX12_rule_4 rfl h (fun h => ?_) (fun h => ?_)
  · refine V_aloadn 11 0 O dX12_rule_11 rfl rfl ?_
    refine V_getI 12 O k71 fl_X12_250 dX12_rule_12 ?_
    refine V_bipush 15 O dX12_rule_15 cb_8 ?_
    refine V_icmp_ne 17 24 O dX12_rule_17 rfl h (fun h => ?_) (fun h => ?_)
    · refine V_aloadn 24 0 O dX12_rule_24 rfl rfl ?_
      refine V_iconst 25 O dX12_rule_25 ci_0 ?_
      refine V_put 26 O k71 fp_X12_204 dX12_rule_26 h (fun σ3 h => ?_)
      refine V_aloadn 29 0 O dX12_rule_29 rfl rfl ?_
      refine V_iconst 30 O dX12_rule_30 ci_0 ?_
      refine V_put 31 O k71 fp_X12_207 dX12_rule_31 h (fun σ4 h => ?_)
      refine V_aloadn 34 0 O dX12_rule_34 rfl rfl ?_
      refine V_iconst 35 O dX12_rule_35 ci_m1 ?_
      refine V_put 36 O k71 fp_X12_92 dX12_rule_36 h (fun σ5 h => ?_)
      refine V_iconst 39 O dX12_rule_39 ci_0 ?_
      refine V_istoren 40 [1, 2, 0] [(0, .ref (zad G 71)), (1, .int x1), (2, .int (0 : Int32))] O dX12_rule_40 rfl (Nat.le_of_ble_eq_true rfl) rfl ?_
      exact V_sub [0, 1, 2] rfl (bl_X12_rule_41 O E n  n x1 (0 : Int32) σ5  h)
    · refine V_sipush 20 O dX12_rule_20 cs_m1004 ?_
      exact V_iret 23 O E dX12_rule_23 h
  · refine V_sipush 7 O dX12_rule_7 cs_m1002 ?_
    exact V_iret 10 O E dX12_rule_10 h
-- ==== WaterTownModel.fault()I
def s_X12_fault (n : Nat) (σ : Sg) : Option (Int32 × Sg) := some (σ 71 36, σ)
set_option maxRecDepth 20000 in
theorem C_X12_fault {l : Launch} {G : zG} {n : Nat} {σ : Sg} {r : Int32} {τ : Sg} (h : s_X12_fault n σ = some (r, τ)) : zM l G 0 yX12_fault (.code yX12_fault cX12_fault 1 (some (.int))) [.ref (zad G 71)] σ (some (.int r)) τ := by
  refine zM_of (by decide) (Nat.le_of_ble_eq_true rfl) (fun x O E => ?_)
  have O : zO G x cX12_fault RX12 0 0 1 := O
  unfold s_X12_fault at h
  show V G x σ [(0, .ref (zad G 71))] 0 []
  refine V_aloadn 0 0 O dX12_fault_0 rfl rfl ?_
  refine V_getI 1 O k71 fl_X12_92 dX12_fault_1 ?_
  exact V_iret 4 O E dX12_fault_4 h
