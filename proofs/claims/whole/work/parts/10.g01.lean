-- ==== Law.addKey(I)V
def s_X2_addKey (n : Nat) (x0 : Nat) (x1 : Int32) (σ : Sg) : Option Sg := lt (up2 σ x0 7 ((σ x0 7) ||| (sl x1 ((2 : Int32) * (σ x0 6))))) fun σ1 => lt (up2 σ1 x0 6 ((σ1 x0 6) + (1 : Int32))) fun σ2 => some σ2
set_option maxRecDepth 20000 in
theorem C_X2_addKey {l : Launch} {G : zG} {n : Nat} {x0 : Nat} {x1 : Int32} {σ : Sg} {τ : Sg} (hx0 : zLaw x0) (h : s_X2_addKey n x0 x1 σ = some τ) : zM l G 0 yX2_addKey (.code yX2_addKey cX2_addKey 2 none) [.ref (zad G x0), .int x1] σ none τ := by
  refine zM_of (by decide) (Nat.le_of_ble_eq_true rfl) (fun x O E => ?_)
  have O : zO G x cX2_addKey RX2 0 0 2 := O
  unfold s_X2_addKey at h
  show V G x σ [(0, .ref (zad G x0)), (1, .int x1)] 0 []
  refine V_aloadn 0 0 O dX2_addKey_0 rfl rfl ?_
  refine V_dup 1 O dX2_addKey_1 rfl ?_
  refine V_getI 2 O (zLaw_k hx0) fl_X2_40 dX2_addKey_2 ?_
  refine V_iloadn 5 1 O dX2_addKey_5 rfl rfl ?_
  refine V_iconst 6 O dX2_addKey_6 ci_2 ?_
  refine V_aloadn 7 0 O dX2_addKey_7 rfl rfl ?_
  refine V_getI 8 O (zLaw_k hx0) fl_X2_37 dX2_addKey_8 ?_
  refine V_imul 11 O dX2_addKey_11 ?_
  refine V_ishl 12 O dX2_addKey_12 ?_
  refine V_ior 13 O dX2_addKey_13 ?_
  refine V_put 14 O (zLaw_k hx0) fp_X2_40 dX2_addKey_14 h (fun σ1 h => ?_)
  refine V_aloadn 17 0 O dX2_addKey_17 rfl rfl ?_
  refine V_dup 18 O dX2_addKey_18 rfl ?_
  refine V_getI 19 O (zLaw_k hx0) fl_X2_37 dX2_addKey_19 ?_
  refine V_iconst 22 O dX2_addKey_22 ci_1 ?_
  refine V_iadd 23 O dX2_addKey_23 ?_
  refine V_put 24 O (zLaw_k hx0) fp_X2_37 dX2_addKey_24 h (fun σ2 h => ?_)
  exact V_vret 27 O E dX2_addKey_27 h
-- ==== Law.sayWhatHoldsAtFirst()V
def s_X2_sayWhatHoldsAtFirst (n : Nat) (x0 : Nat) (σ : Sg) : Option Sg := lt (up2 σ x0 2 (6 : Int32)) fun σ1 => lt (up2 σ1 x0 3 (8 : Int32)) fun σ2 => lt (up2 σ2 x0 4 (2 : Int32)) fun σ3 => lt (up2 σ3 x0 5 (1 : Int32)) fun σ4 => bdv (s_X2_forgetKeys n x0 σ4) fun σ5 => bdv (s_X2_addKey n x0 (0 : Int32) σ5) fun σ6 => bdv (s_X2_addKey n x0 (1 : Int32) σ6) fun σ7 => some σ7
set_option maxRecDepth 20000 in
theorem C_X2_sayWhatHoldsAtFirst {l : Launch} {G : zG} {n : Nat} {x0 : Nat} {σ : Sg} {τ : Sg} (hx0 : zLaw x0) (h : s_X2_sayWhatHoldsAtFirst n x0 σ = some τ) : zM l G 1 yX2_sayWhatHoldsAtFirst (.code yX2_sayWhatHoldsAtFirst cX2_sayWhatHoldsAtFirst 1 none) [.ref (zad G x0)] σ none τ := by
  refine zM_of (by decide) (Nat.le_of_ble_eq_true rfl) (fun x O E => ?_)
  have O : zO G x cX2_sayWhatHoldsAtFirst RX2 1 40 1 := O
  unfold s_X2_sayWhatHoldsAtFirst at h
  show V G x σ [(0, .ref (zad G x0))] 0 []
  refine V_aloadn 0 0 O dX2_sayWhatHoldsAtFirst_0 rfl rfl ?_
  refine V_bipush 1 O dX2_sayWhatHoldsAtFirst_1 cb_6 ?_
  refine V_put 3 O (zLaw_k hx0) fp_X2_15 dX2_sayWhatHoldsAtFirst_3 h (fun σ1 h => ?_)
  refine V_aloadn 6 0 O dX2_sayWhatHoldsAtFirst_6 rfl rfl ?_
  refine V_bipush 7 O dX2_sayWhatHoldsAtFirst_7 cb_8 ?_
  refine V_put 9 O (zLaw_k hx0) fp_X2_18 dX2_sayWhatHoldsAtFirst_9 h (fun σ2 h => ?_)
  refine V_aloadn 12 0 O dX2_sayWhatHoldsAtFirst_12 rfl rfl ?_
  refine V_iconst 13 O dX2_sayWhatHoldsAtFirst_13 ci_2 ?_
  refine V_put 14 O (zLaw_k hx0) fp_X2_21 dX2_sayWhatHoldsAtFirst_14 h (fun σ3 h => ?_)
  refine V_aloadn 17 0 O dX2_sayWhatHoldsAtFirst_17 rfl rfl ?_
  refine V_iconst 18 O dX2_sayWhatHoldsAtFirst_18 ci_1 ?_
  refine V_put 19 O (zLaw_k hx0) fp_X2_24 dX2_sayWhatHoldsAtFirst_19 h (fun σ4 h => ?_)
  refine V_aloadn 22 0 O dX2_sayWhatHoldsAtFirst_22 rfl rfl ?_
  obtain ⟨σ5, g, h⟩ := bdv_of h
  refine V_callVv 23 [] [] O mf_X2_forgetKeys lk_X2_27 (zLaw_k hx0) dX2_sayWhatHoldsAtFirst_23 rfl rfl (Nat.le_of_ble_eq_true rfl) ⟨(Nat.le_of_ble_eq_true rfl), (Nat.le_of_ble_eq_true rfl)⟩ (fun l => C_X2_forgetKeys hx0 g) ?_
  refine V_aloadn 26 0 O dX2_sayWhatHoldsAtFirst_26 rfl rfl ?_
  refine V_iconst 27 O dX2_sayWhatHoldsAtFirst_27 ci_0 ?_
  obtain ⟨σ6, g, h⟩ := bdv_of h
  refine V_callVv 28 [.int (0 : Int32)] [] O mf_X2_addKey lk_X2_33 (zLaw_k hx0) dX2_sayWhatHoldsAtFirst_28 rfl rfl (Nat.le_of_ble_eq_true rfl) ⟨(Nat.le_of_ble_eq_true rfl), (Nat.le_of_ble_eq_true rfl)⟩ (fun l => C_X2_addKey hx0 g) ?_
  refine V_aloadn 31 0 O dX2_sayWhatHoldsAtFirst_31 rfl rfl ?_
  refine V_iconst 32 O dX2_sayWhatHoldsAtFirst_32 ci_1 ?_
  obtain ⟨σ7, g, h⟩ := bdv_of h
  refine V_callVv 33 [.int (1 : Int32)] [] O mf_X2_addKey lk_X2_33 (zLaw_k hx0) dX2_sayWhatHoldsAtFirst_33 rfl rfl (Nat.le_of_ble_eq_true rfl) ⟨(Nat.le_of_ble_eq_true rfl), (Nat.le_of_ble_eq_true rfl)⟩ (fun l => C_X2_addKey hx0 g) ?_
  exact V_vret 36 O E dX2_sayWhatHoldsAtFirst_36 h
-- ==== Law.follow(LWaterTown$Law;)V
def s_X2_follow_56 (n : Nat) (x0 : Nat) (x1 : Nat) (σ : Sg) : Option Sg := if (σ x1 6) ≤ 0 then (some σ) else (lt (up2 σ x0 6 (σ x1 6)) fun σ5 => lt (up2 σ5 x0 7 (σ5 x1 7)) fun σ6 => some σ6)
def s_X2_follow_40 (n : Nat) (x0 : Nat) (x1 : Nat) (σ : Sg) : Option Sg := if (σ x1 5) = (-1 : Int32) then (s_X2_follow_56 n x0 x1 σ) else (lt (up2 σ x0 5 (σ x1 5)) fun σ4 => s_X2_follow_56 n x0 x1 σ4)
def s_X2_follow_24 (n : Nat) (x0 : Nat) (x1 : Nat) (σ : Sg) : Option Sg := if (σ x1 4) = (-1 : Int32) then (s_X2_follow_40 n x0 x1 σ) else (lt (up2 σ x0 4 (σ x1 4)) fun σ3 => s_X2_follow_40 n x0 x1 σ3)
def s_X2_follow (n : Nat) (x0 : Nat) (x1 : Nat) (σ : Sg) : Option Sg := if (σ x1 2) = (-1 : Int32) then (s_X2_follow_24 n x0 x1 σ) else (lt (up2 σ x0 2 (σ x1 2)) fun σ1 => lt (up2 σ1 x0 3 (σ1 x1 3)) fun σ2 => s_X2_follow_24 n x0 x1 σ2)
set_option maxRecDepth 20000 in
theorem b_X2_follow_56 {G : zG} {x : zX} {τ : Sg} (O : zO G x cX2_follow RX2 0 0 2) (E : zE G x none none τ) (n : Nat) (x0 : Nat) (x1 : Nat) (σ : Sg) (hx0 : zLaw x0) (hx1 : zLaw x1) (h : s_X2_follow_56 n x0 x1 σ = some τ) : V G x σ [(0, .ref (zad G x0)), (1, .ref (zad G x1))] 56 [] := by
  unfold s_X2_follow_56 at h
  refine V_aloadn 56 1 O dX2_follow_56 rfl rfl ?_
  refine V_getI 57 O (zLaw_k hx1) fl_X2_37 dX2_follow_57 ?_
  refine V_if_le 60 79 O dX2_follow_60 rfl h (fun h => ?_) (fun h => ?_)
  · exact V_vret 79 O E dX2_follow_79 h
  · refine V_aloadn 63 0 O dX2_follow_63 rfl rfl ?_
    refine V_aloadn 64 1 O dX2_follow_64 rfl rfl ?_
    refine V_getI 65 O (zLaw_k hx1) fl_X2_37 dX2_follow_65 ?_
    refine V_put 68 O (zLaw_k hx0) fp_X2_37 dX2_follow_68 h (fun σ5 h => ?_)
    refine V_aloadn 71 0 O dX2_follow_71 rfl rfl ?_
    refine V_aloadn 72 1 O dX2_follow_72 rfl rfl ?_
    refine V_getI 73 O (zLaw_k hx1) fl_X2_40 dX2_follow_73 ?_
    refine V_put 76 O (zLaw_k hx0) fp_X2_40 dX2_follow_76 h (fun σ6 h => ?_)
    exact V_vret 79 O E dX2_follow_79 h
set_option maxRecDepth 20000 in
theorem b_X2_follow_40 {G : zG} {x : zX} {τ : Sg} (O : zO G x cX2_follow RX2 0 0 2) (E : zE G x none none τ) (n : Nat) (x0 : Nat) (x1 : Nat) (σ : Sg) (hx0 : zLaw x0) (hx1 : zLaw x1) (h : s_X2_follow_40 n x0 x1 σ = some τ) : V G x σ [(0, .ref (zad G x0)), (1, .ref (zad G x1))] 40 [] := by
  unfold s_X2_follow_40 at h
  refine V_aloadn 40 1 O dX2_follow_40 rfl rfl ?_
  refine V_getI 41 O (zLaw_k hx1) fl_X2_24 dX2_follow_41 ?_
  refine V_iconst 44 O dX2_follow_44 ci_m1 ?_
  refine V_icmp_eq 45 56 O dX2_follow_45 rfl h (fun h => ?_) (fun h => ?_)
  · exact V_sub [0, 1] rfl (b_X2_follow_56 O E n  x0 x1 σ hx0 hx1 h)
  · refine V_aloadn 48 0 O dX2_follow_48 rfl rfl ?_
    refine V_aloadn 49 1 O dX2_follow_49 rfl rfl ?_
    refine V_getI 50 O (zLaw_k hx1) fl_X2_24 dX2_follow_50 ?_
    refine V_put 53 O (zLaw_k hx0) fp_X2_24 dX2_follow_53 h (fun σ4 h => ?_)
    exact V_sub [0, 1] rfl (b_X2_follow_56 O E n  x0 x1 σ4 hx0 hx1 h)
set_option maxRecDepth 20000 in
theorem b_X2_follow_24 {G : zG} {x : zX} {τ : Sg} (O : zO G x cX2_follow RX2 0 0 2) (E : zE G x none none τ) (n : Nat) (x0 : Nat) (x1 : Nat) (σ : Sg) (hx0 : zLaw x0) (hx1 : zLaw x1) (h : s_X2_follow_24 n x0 x1 σ = some τ) : V G x σ [(0, .ref (zad G x0)), (1, .ref (zad G x1))] 24 [] := by
  unfold s_X2_follow_24 at h
  refine V_aloadn 24 1 O dX2_follow_24 rfl rfl ?_
  refine V_getI 25 O (zLaw_k hx1) fl_X2_21 dX2_follow_25 ?_
  refine V_iconst 28 O dX2_follow_28 ci_m1 ?_
  refine V_icmp_eq 29 40 O dX2_follow_29 rfl h (fun h => ?_) (fun h => ?_)
  · exact V_sub [0, 1] rfl (b_X2_follow_40 O E n  x0 x1 σ hx0 hx1 h)
  · refine V_aloadn 32 0 O dX2_follow_32 rfl rfl ?_
    refine V_aloadn 33 1 O dX2_follow_33 rfl rfl ?_
    refine V_getI 34 O (zLaw_k hx1) fl_X2_21 dX2_follow_34 ?_
    refine V_put 37 O (zLaw_k hx0) fp_X2_21 dX2_follow_37 h (fun σ3 h => ?_)
    exact V_sub [0, 1] rfl (b_X2_follow_40 O E n  x0 x1 σ3 hx0 hx1 h)
set_option maxRecDepth 20000 in
theorem C_X2_follow {l : Launch} {G : zG} {n : Nat} {x0 : Nat} {x1 : Nat} {σ : Sg} {τ : Sg} (hx0 : zLaw x0) (hx1 : zLaw x1) (h : s_X2_follow n x0 x1 σ = some τ) : zM l G 0 yX2_follow (.code yX2_follow cX2_follow 2 none) [.ref (zad G x0), .ref (zad G x1)] σ none τ := by
  refine zM_of (by decide) (Nat.le_of_ble_eq_true rfl) (fun x O E => ?_)
  have O : zO G x cX2_follow RX2 0 0 2 := O
  unfold s_X2_follow at h
  show V G x σ [(0, .ref (zad G x0)), (1, .ref (zad G x1))] 0 []
  refine V_aloadn 0 1 O dX2_follow_0 rfl rfl ?_
  refine V_getI 1 O (zLaw_k hx1) fl_X2_15 dX2_follow_1 ?_
  refine V_iconst 4 O dX2_follow_4 ci_m1 ?_
  refine V_icmp_eq 5 24 O dX2_follow_5 rfl h (fun h => ?_) (fun h => ?_)
  · exact V_sub [0, 1] rfl (b_X2_follow_24 O E n  x0 x1 σ hx0 hx1 h)
  · refine V_aloadn 8 0 O dX2_follow_8 rfl rfl ?_
    refine V_aloadn 9 1 O dX2_follow_9 rfl rfl ?_
    refine V_getI 10 O (zLaw_k hx1) fl_X2_15 dX2_follow_10 ?_
    refine V_put 13 O (zLaw_k hx0) fp_X2_15 dX2_follow_13 h (fun σ1 h => ?_)
    refine V_aloadn 16 0 O dX2_follow_16 rfl rfl ?_
    refine V_aloadn 17 1 O dX2_follow_17 rfl rfl ?_
    refine V_getI 18 O (zLaw_k hx1) fl_X2_18 dX2_follow_18 ?_
    refine V_put 21 O (zLaw_k hx0) fp_X2_18 dX2_follow_21 h (fun σ2 h => ?_)
    exact V_sub [0, 1] rfl (b_X2_follow_24 O E n  x0 x1 σ2 hx0 hx1 h)
-- ==== Law.key(I)I
def s_X2_key (n : Nat) (x0 : Nat) (x1 : Int32) (σ : Sg) : Option (Int32 × Sg) := some ((sr (σ x0 7) ((2 : Int32) * x1)) &&& (3 : Int32), σ)
set_option maxRecDepth 20000 in
theorem C_X2_key {l : Launch} {G : zG} {n : Nat} {x0 : Nat} {x1 : Int32} {σ : Sg} {r : Int32} {τ : Sg} (hx0 : zLaw x0) (h : s_X2_key n x0 x1 σ = some (r, τ)) : zM l G 0 yX2_key (.code yX2_key cX2_key 2 (some (.int))) [.ref (zad G x0), .int x1] σ (some (.int r)) τ := by
  refine zM_of (by decide) (Nat.le_of_ble_eq_true rfl) (fun x O E => ?_)
  have O : zO G x cX2_key RX2 0 0 2 := O
  unfold s_X2_key at h
  show V G x σ [(0, .ref (zad G x0)), (1, .int x1)] 0 []
  refine V_aloadn 0 0 O dX2_key_0 rfl rfl ?_
  refine V_getI 1 O (zLaw_k hx0) fl_X2_40 dX2_key_1 ?_
  refine V_iconst 4 O dX2_key_4 ci_2 ?_
  refine V_iloadn 5 1 O dX2_key_5 rfl rfl ?_
  refine V_imul 6 O dX2_key_6 ?_
  refine V_ishr 7 O dX2_key_7 ?_
  refine V_iconst 8 O dX2_key_8 ci_3 ?_
  refine V_iand 9 O dX2_key_9 ?_
  exact V_iret 10 O E dX2_key_10 h
-- ==== Law.hasKey(I)Z
def s_X2_hasKey_2b (n : Nat) (rc2 : Nat → Int32 → Int32 → Sg → Option (Int32 × Sg)) (x0 : Nat) (x1 : Int32) (x2 : Int32) (σ : Sg) : Option (Int32 × Sg) := if (σ x0 6) ≤ x2 then (some ((0 : Int32), σ)) else (bd (s_X2_key n x0 x2 σ) fun r2 σ1 => if r2 = x1 then (some ((1 : Int32), σ1)) else (rc2 x0 x1 (x2 + (1 : Int32)) σ1))
def s_X2_hasKey_2 (n : Nat) : Nat → Nat → Int32 → Int32 → Sg → Option (Int32 × Sg)
  | 0 => fun _ _ _ _ => none
  | k + 1 => s_X2_hasKey_2b n (s_X2_hasKey_2 n k)
def s_X2_hasKey (n : Nat) (x0 : Nat) (x1 : Int32) (σ : Sg) : Option (Int32 × Sg) := s_X2_hasKey_2 n n x0 x1 (0 : Int32) σ
set_option maxRecDepth 20000 in
theorem b_X2_hasKey_2 {G : zG} {x : zX} {r : Int32} {τ : Sg} (O : zO G x cX2_hasKey RX2 1 40 3) (E : zE G x (some (.boolean)) (some (.int r)) τ) (n : Nat) (rc2 : Nat → Int32 → Int32 → Sg → Option (Int32 × Sg)) (H2 : ∀ (x0 : Nat) (x1 : Int32) (x2 : Int32) (σ : Sg), zLaw x0 → rc2 x0 x1 x2 σ = some (r, τ) → V G x σ [(0, .ref (zad G x0)), (1, .int x1), (2, .int x2)] 2 []) (x0 : Nat) (x1 : Int32) (x2 : Int32) (σ : Sg) (hx0 : zLaw x0) (h : s_X2_hasKey_2b n rc2 x0 x1 x2 σ = some (r, τ)) : V G x σ [(0, .ref (zad G x0)), (1, .int x1), (2, .int x2)] 2 [] := by
  unfold s_X2_hasKey_2b at h
  refine V_iloadn 2 2 O dX2_hasKey_2 rfl rfl ?_
  refine V_aloadn 3 0 O dX2_hasKey_3 rfl rfl ?_
  refine V_getI 4 O (zLaw_k hx0) fl_X2_37 dX2_hasKey_4 ?_
  refine V_icmp_ge 7 27 O dX2_hasKey_7 rfl h (fun h => ?_) (fun h => ?_)
  · refine V_iconst 27 O dX2_hasKey_27 ci_0 ?_
    exact V_zret0 28 O E dX2_hasKey_28 h
  · refine V_aloadn 10 0 O dX2_hasKey_10 rfl rfl ?_
    refine V_iloadn 11 2 O dX2_hasKey_11 rfl rfl ?_
    obtain ⟨r2, σ1, g, h⟩ := bd_of h
    refine V_callVi 12 [.int x2] [] O mf_X2_key lk_X2_43 (zLaw_k hx0) dX2_hasKey_12 rfl rfl (Nat.le_of_ble_eq_true rfl) ⟨(Nat.le_of_ble_eq_true rfl), (Nat.le_of_ble_eq_true rfl)⟩ (fun l => C_X2_key hx0 g) ?_
    refine V_iloadn 15 1 O dX2_hasKey_15 rfl rfl ?_
    refine V_icmp_ne 16 21 O dX2_hasKey_16 rfl h (fun h => ?_) (fun h => ?_)
    · refine V_iinc 21 2 [1, 2, 0] [(0, .ref (zad G x0)), (1, .int x1), (2, .int (x2 + (1 : Int32)))] O dX2_hasKey_21 rfl ci_1 (Nat.le_of_ble_eq_true rfl) rfl ?_
      refine V_goto 24 2 O dX2_hasKey_24 rfl ?_
      exact V_sub [0, 1, 2] rfl (H2 x0 x1 (x2 + (1 : Int32)) σ1 hx0 h)
    · refine V_iconst 19 O dX2_hasKey_19 ci_1 ?_
      exact V_zret1 20 O E dX2_hasKey_20 h
theorem bl_X2_hasKey_2 {G : zG} {x : zX} {r : Int32} {τ : Sg} (O : zO G x cX2_hasKey RX2 1 40 3) (E : zE G x (some (.boolean)) (some (.int r)) τ) (n : Nat) : ∀ (k : Nat) (x0 : Nat) (x1 : Int32) (x2 : Int32) (σ : Sg), zLaw x0 → s_X2_hasKey_2 n k x0 x1 x2 σ = some (r, τ) → V G x σ [(0, .ref (zad G x0)), (1, .int x1), (2, .int x2)] 2 [] := by
  intro k
  induction k with
  | zero => intro x0 x1 x2 σ hx0 h; cases h
  | succ k ih => intro x0 x1 x2 σ hx0 h; exact b_X2_hasKey_2 O E n  (s_X2_hasKey_2 n  k) ih x0 x1 x2 σ hx0 h
set_option maxRecDepth 20000 in
theorem C_X2_hasKey {l : Launch} {G : zG} {n : Nat} {x0 : Nat} {x1 : Int32} {σ : Sg} {r : Int32} {τ : Sg} (hx0 : zLaw x0) (h : s_X2_hasKey n x0 x1 σ = some (r, τ)) : zM l G 1 yX2_hasKey (.code yX2_hasKey cX2_hasKey 3 (some (.boolean))) [.ref (zad G x0), .int x1] σ (some (.int r)) τ := by
  refine zM_of (by decide) (Nat.le_of_ble_eq_true rfl) (fun x O E => ?_)
  have O : zO G x cX2_hasKey RX2 1 40 3 := O
  unfold s_X2_hasKey at h
  show V G x σ [(0, .ref (zad G x0)), (1, .int x1)] 0 []
  refine V_iconst 0 O dX2_hasKey_0 ci_0 ?_
  refine V_istoren 1 [1, 2, 0] [(0, .ref (zad G x0)), (1, .int x1), (2, .int (0 : Int32))] O dX2_hasKey_1 rfl (Nat.le_of_ble_eq_true rfl) rfl ?_
  exact V_sub [0, 1, 2] rfl (bl_X2_hasKey_2 O E n  n x0 x1 (0 : Int32) σ hx0 h)
-- ==== Law.isTurnHour(I)Z
def s_X2_isTurnHour_20 (n : Nat) (σ : Sg) : Option (Int32 × Sg) := some ((0 : Int32), σ)
def s_X2_isTurnHour (n : Nat) (x0 : Nat) (x1 : Int32) (σ : Sg) : Option (Int32 × Sg) := if x1 < (σ x0 2) then (s_X2_isTurnHour_20 n σ) else (if (σ x0 3) < x1 then (s_X2_isTurnHour_20 n σ) else (some ((1 : Int32), σ)))
set_option maxRecDepth 20000 in
theorem b_X2_isTurnHour_20 {G : zG} {x : zX} {r : Int32} {τ : Sg} (O : zO G x cX2_isTurnHour RX2 0 0 2) (E : zE G x (some (.boolean)) (some (.int r)) τ) (n : Nat) (σ : Sg) (h : s_X2_isTurnHour_20 n σ = some (r, τ)) : V G x σ [] 20 [] := by
  unfold s_X2_isTurnHour_20 at h
  refine V_iconst 20 O dX2_isTurnHour_20 ci_0 ?_
  exact V_zret0 21 O E dX2_isTurnHour_21 h
set_option maxRecDepth 20000 in
theorem C_X2_isTurnHour {l : Launch} {G : zG} {n : Nat} {x0 : Nat} {x1 : Int32} {σ : Sg} {r : Int32} {τ : Sg} (hx0 : zLaw x0) (h : s_X2_isTurnHour n x0 x1 σ = some (r, τ)) : zM l G 0 yX2_isTurnHour (.code yX2_isTurnHour cX2_isTurnHour 2 (some (.boolean))) [.ref (zad G x0), .int x1] σ (some (.int r)) τ := by
  refine zM_of (by decide) (Nat.le_of_ble_eq_true rfl) (fun x O E => ?_)
  have O : zO G x cX2_isTurnHour RX2 0 0 2 := O
  unfold s_X2_isTurnHour at h
  show V G x σ [(0, .ref (zad G x0)), (1, .int x1)] 0 []
  refine V_iloadn 0 1 O dX2_isTurnHour_0 rfl rfl ?_
  refine V_aloadn 1 0 O dX2_isTurnHour_1 rfl rfl ?_
  refine V_getI 2 O (zLaw_k hx0) fl_X2_15 dX2_isTurnHour_2 ?_
  refine V_icmp_lt 5 20 O dX2_isTurnHour_5 rfl h (fun h => ?_) (fun h => ?_)
  · exact V_sub [] rfl (b_X2_isTurnHour_20 O E n   σ  h)
  · refine V_iloadn 8 1 O dX2_isTurnHour_8 rfl rfl ?_
    refine V_aloadn 9 0 O dX2_isTurnHour_9 rfl rfl ?_
    refine V_getI 10 O (zLaw_k hx0) fl_X2_18 dX2_isTurnHour_10 ?_
    refine V_icmp_gt 13 20 O dX2_isTurnHour_13 rfl h (fun h => ?_) (fun h => ?_)
    · exact V_sub [] rfl (b_X2_isTurnHour_20 O E n   σ  h)
    · refine V_iconst 16 O dX2_isTurnHour_16 ci_1 ?_
      refine V_goto 17 21 O dX2_isTurnHour_17 rfl ?_
      exact V_zret1 21 O E dX2_isTurnHour_21 h
-- ==== Pipes.isOpen(I)Z
def s_X4_isOpen (n : Nat) (x1 : Int32) (σ : Sg) : Option (Int32 × Sg) := if ((sr (σ 3 1) x1) &&& (1 : Int32)) = 0 then (some ((1 : Int32), σ)) else (some ((0 : Int32), σ))
set_option maxRecDepth 20000 in
theorem C_X4_isOpen {l : Launch} {G : zG} {n : Nat} {x1 : Int32} {σ : Sg} {r : Int32} {τ : Sg} (h : s_X4_isOpen n x1 σ = some (r, τ)) : zM l G 0 yX4_isOpen (.code yX4_isOpen cX4_isOpen 2 (some (.boolean))) [.ref (zad G 3), .int x1] σ (some (.int r)) τ := by
  refine zM_of (by decide) (Nat.le_of_ble_eq_true rfl) (fun x O E => ?_)
  have O : zO G x cX4_isOpen RX4 0 0 2 := O
  unfold s_X4_isOpen at h
  show V G x σ [(0, .ref (zad G 3)), (1, .int x1)] 0 []
  refine V_aloadn 0 0 O dX4_isOpen_0 rfl rfl ?_
  refine V_getI 1 O k3 fl_X4_37 dX4_isOpen_1 ?_
  refine V_iloadn 4 1 O dX4_isOpen_4 rfl rfl ?_
  refine V_ishr 5 O dX4_isOpen_5 ?_
  refine V_iconst 6 O dX4_isOpen_6 ci_1 ?_
  refine V_iand 7 O dX4_isOpen_7 ?_
  refine V_if_ne 8 15 O dX4_isOpen_8 rfl h (fun h => ?_) (fun h => ?_)
  · refine V_iconst 15 O dX4_isOpen_15 ci_0 ?_
    exact V_zret0 16 O E dX4_isOpen_16 h
  · refine V_iconst 11 O dX4_isOpen_11 ci_1 ?_
    refine V_goto 12 16 O dX4_isOpen_12 rfl ?_
    exact V_zret1 16 O E dX4_isOpen_16 h
-- ==== Mains.widen(III)V
def s_X3_widen (n : Nat) (x1 : Int32) (x2 : Int32) (x3 : Int32) (σ : Sg) : Option Sg := ck ((x1 * (11 : Int32)) + x2) 121 (lt ((σ 47 (ix ((x1 * (11 : Int32)) + x2))) + x3) fun v1 => ck ((x1 * (11 : Int32)) + x2) 121 (lt (up2 σ 47 (ix ((x1 * (11 : Int32)) + x2)) v1) fun σ2 => if v1 ≤ 0 then (ck x1 11 (ck x1 11 (lt (up2 σ2 48 (ix x1) ((σ2 48 (ix x1)) &&& ((sl (1 : Int32) x2) ^^^ (-1 : Int32)))) fun σ3 => some σ3))) else (ck x1 11 (ck x1 11 (lt (up2 σ2 48 (ix x1) ((σ2 48 (ix x1)) ||| (sl (1 : Int32) x2))) fun σ4 => some σ4)))))
set_option maxRecDepth 20000 in
theorem C_X3_widen {l : Launch} {G : zG} {n : Nat} {x1 : Int32} {x2 : Int32} {x3 : Int32} {σ : Sg} {τ : Sg} (h : s_X3_widen n x1 x2 x3 σ = some τ) : zM l G 0 yX3_widen (.code yX3_widen cX3_widen 5 none) [.ref (zad G 46), .int x1, .int x2, .int x3] σ none τ := by
  refine zM_of (by decide) (Nat.le_of_ble_eq_true rfl) (fun x O E => ?_)
  have O : zO G x cX3_widen RX3 0 0 5 := O
  unfold s_X3_widen at h
  show V G x σ [(0, .ref (zad G 46)), (1, .int x1), (2, .int x2), (3, .int x3)] 0 []
  refine V_aloadn 0 0 O dX3_widen_0 rfl rfl ?_
  refine V_getR 1 O k46 fl_X3_11 rf46_0 dX3_widen_1 ?_
  refine V_iloadn 4 1 O dX3_widen_4 rfl rfl ?_
  refine V_bipush 5 O dX3_widen_5 cb_11 ?_
  refine V_imul 7 O dX3_widen_7 ?_
  refine V_iloadn 8 2 O dX3_widen_8 rfl rfl ?_
  refine V_iadd 9 O dX3_widen_9 ?_
  refine V_iald 10 O k47 dX3_widen_10 h (fun h => ?_)
  refine V_iloadn 11 3 O dX3_widen_11 rfl rfl ?_
  refine V_iadd 12 O dX3_widen_12 ?_
  refine V_topi h (fun v1 h => ?_)
  refine V_istore 13 [1, 2, 3, 4, 0] [(0, .ref (zad G 46)), (1, .int x1), (2, .int x2), (3, .int x3), (4, .int v1)] O dX3_widen_13 (Nat.le_of_ble_eq_true rfl) rfl ?_
  refine V_aloadn 15 0 O dX3_widen_15 rfl rfl ?_
  refine V_getR 16 O k46 fl_X3_11 rf46_0 dX3_widen_16 ?_
  refine V_iloadn 19 1 O dX3_widen_19 rfl rfl ?_
  refine V_bipush 20 O dX3_widen_20 cb_11 ?_
  refine V_imul 22 O dX3_widen_22 ?_
  refine V_iloadn 23 2 O dX3_widen_23 rfl rfl ?_
  refine V_iadd 24 O dX3_widen_24 ?_
  refine V_iload 25 4 O dX3_widen_25 rfl ?_
  refine V_iast 27 O k47 dX3_widen_27 h (fun σ2 h => ?_)
  refine V_aloadn 28 0 O dX3_widen_28 rfl rfl ?_
  refine V_getR 29 O k46 fl_X3_15 rf46_1 dX3_widen_29 ?_
  refine V_iloadn 32 1 O dX3_widen_32 rfl rfl ?_
  refine V_iload 33 4 O dX3_widen_33 rfl ?_
  refine V_if_le 35 51 O dX3_widen_35 rfl h (fun h => ?_) (fun h => ?_)
  · refine V_aloadn 51 0 O dX3_widen_51 rfl rfl ?_
    refine V_getR 52 O k46 fl_X3_15 rf46_1 dX3_widen_52 ?_
    refine V_iloadn 55 1 O dX3_widen_55 rfl rfl ?_
    refine V_iald 56 O k48 dX3_widen_56 h (fun h => ?_)
    refine V_iconst 57 O dX3_widen_57 ci_1 ?_
    refine V_iloadn 58 2 O dX3_widen_58 rfl rfl ?_
    refine V_ishl 59 O dX3_widen_59 ?_
    refine V_iconst 60 O dX3_widen_60 ci_m1 ?_
    refine V_ixor 61 O dX3_widen_61 ?_
    refine V_iand 62 O dX3_widen_62 ?_
    refine V_iast 63 O k48 dX3_widen_63 h (fun σ3 h => ?_)
    exact V_vret 64 O E dX3_widen_64 h
  · refine V_aloadn 38 0 O dX3_widen_38 rfl rfl ?_
    refine V_getR 39 O k46 fl_X3_15 rf46_1 dX3_widen_39 ?_
    refine V_iloadn 42 1 O dX3_widen_42 rfl rfl ?_
    refine V_iald 43 O k48 dX3_widen_43 h (fun h => ?_)
    refine V_iconst 44 O dX3_widen_44 ci_1 ?_
    refine V_iloadn 45 2 O dX3_widen_45 rfl rfl ?_
    refine V_ishl 46 O dX3_widen_46 ?_
    refine V_ior 47 O dX3_widen_47 ?_
    refine V_goto 48 63 O dX3_widen_48 rfl ?_
    refine V_iast 63 O k48 dX3_widen_63 h (fun σ4 h => ?_)
    exact V_vret 64 O E dX3_widen_64 h
-- ==== Mains.begin(LWaterTown$Pipes;III)V
def s_X3_begin_19b (n : Nat) (rc19 : Int32 → Int32 → Int32 → Int32 → Sg → Option Sg) (x2 : Int32) (x3 : Int32) (x4 : Int32) (x5 : Int32) (σ : Sg) : Option Sg := if (σ 3 0) ≤ x5 then (bdv (s_X3_widen n (10 : Int32) (0 : Int32) x2 σ) fun σ3 => bdv (s_X3_widen n (10 : Int32) x3 x4 σ3) fun σ4 => some σ4) else (bd (s_X4_isOpen n x5 σ) fun r6 σ5 => if r6 = 0 then (rc19 x2 x3 x4 (x5 + (1 : Int32)) σ5) else (ck x5 20 (ck x5 20 (ck x5 20 (bdv (s_X3_widen n (σ5 4 (ix x5)) (σ5 5 (ix x5)) (σ5 6 (ix x5)) σ5) fun σ7 => ck x5 20 (ck x5 20 (ck x5 20 (bdv (s_X3_widen n (σ7 5 (ix x5)) (σ7 4 (ix x5)) (σ7 6 (ix x5)) σ7) fun σ8 => rc19 x2 x3 x4 (x5 + (1 : Int32)) σ8))))))))
def s_X3_begin_19 (n : Nat) : Nat → Int32 → Int32 → Int32 → Int32 → Sg → Option Sg
  | 0 => fun _ _ _ _ _ => none
  | k + 1 => s_X3_begin_19b n (s_X3_begin_19 n k)
def s_X3_begin (n : Nat) (x2 : Int32) (x3 : Int32) (x4 : Int32) (σ : Sg) : Option Sg := bdv (s_J7_fill_53178 n 47 121 (0 : Int32) σ) fun σ1 => bdv (s_J7_fill_53178 n 48 11 (0 : Int32) σ1) fun σ2 => s_X3_begin_19 n n x2 x3 x4 (0 : Int32) σ2
set_option maxRecDepth 20000 in
theorem b_X3_begin_19 {G : zG} {x : zX} {τ : Sg} (O : zO G x cX3_begin RX3 1 40 6) (E : zE G x none none τ) (n : Nat) (rc19 : Int32 → Int32 → Int32 → Int32 → Sg → Option Sg) (H19 : ∀ (x2 : Int32) (x3 : Int32) (x4 : Int32) (x5 : Int32) (σ : Sg), rc19 x2 x3 x4 x5 σ = some τ → V G x σ [(0, .ref (zad G 46)), (1, .ref (zad G 3)), (2, .int x2), (3, .int x3), (4, .int x4), (5, .int x5)] 19 []) (x2 : Int32) (x3 : Int32) (x4 : Int32) (x5 : Int32) (σ : Sg) (h : s_X3_begin_19b n rc19 x2 x3 x4 x5 σ = some τ) : V G x σ [(0, .ref (zad G 46)), (1, .ref (zad G 3)), (2, .int x2), (3, .int x3), (4, .int x4), (5, .int x5)] 19 [] := by
  unfold s_X3_begin_19b at h
  refine V_iload 19 5 O dX3_begin_19 rfl ?_
  refine V_aloadn 21 1 O dX3_begin_21 rfl rfl ?_
  refine V_getI 22 O k3 fl_X3_30 dX3_begin_22 ?_
  refine V_icmp_ge 25 93 O dX3_begin_25 rfl h (fun h => ?_) (fun h => ?_)
  · refine V_aloadn 93 0 O dX3_begin_93 rfl rfl ?_
    refine V_bipush 94 O dX3_begin_94 cb_10 ?_
    refine V_iconst 96 O dX3_begin_96 ci_0 ?_
    refine V_iloadn 97 2 O dX3_begin_97 rfl rfl ?_
    obtain ⟨σ3, g, h⟩ := bdv_of h
    refine V_callVv 98 [.int (10 : Int32), .int (0 : Int32), .int x2] [] O mf_X3_widen lk_X3_49 k46 dX3_begin_98 rfl rfl (Nat.le_of_ble_eq_true rfl) ⟨(Nat.le_of_ble_eq_true rfl), (Nat.le_of_ble_eq_true rfl)⟩ (fun l => C_X3_widen  g) ?_
    refine V_aloadn 101 0 O dX3_begin_101 rfl rfl ?_
    refine V_bipush 102 O dX3_begin_102 cb_10 ?_
    refine V_iloadn 104 3 O dX3_begin_104 rfl rfl ?_
    refine V_iload 105 4 O dX3_begin_105 rfl ?_
    obtain ⟨σ4, g, h⟩ := bdv_of h
    refine V_callVv 107 [.int (10 : Int32), .int x3, .int x4] [] O mf_X3_widen lk_X3_49 k46 dX3_begin_107 rfl rfl (Nat.le_of_ble_eq_true rfl) ⟨(Nat.le_of_ble_eq_true rfl), (Nat.le_of_ble_eq_true rfl)⟩ (fun l => C_X3_widen  g) ?_
    exact V_vret 110 O E dX3_begin_110 h
  · refine V_aloadn 28 1 O dX3_begin_28 rfl rfl ?_
    refine V_iload 29 5 O dX3_begin_29 rfl ?_
    obtain ⟨r6, σ5, g, h⟩ := bd_of h
    refine V_callVi 31 [.int x5] [] O mf_X4_isOpen lk_X3_36 k3 dX3_begin_31 rfl rfl (Nat.le_of_ble_eq_true rfl) ⟨(Nat.le_of_ble_eq_true rfl), (Nat.le_of_ble_eq_true rfl)⟩ (fun l => C_X4_isOpen  g) ?_
    refine V_if_eq 34 87 O dX3_begin_34 rfl h (fun h => ?_) (fun h => ?_)
    · refine V_iinc 87 5 [1, 2, 3, 4, 5, 0] [(0, .ref (zad G 46)), (1, .ref (zad G 3)), (2, .int x2), (3, .int x3), (4, .int x4), (5, .int (x5 + (1 : Int32)))] O dX3_begin_87 rfl ci_1 (Nat.le_of_ble_eq_true rfl) rfl ?_
      refine V_goto 90 19 O dX3_begin_90 rfl ?_
      exact V_sub [0, 1, 2, 3, 4, 5] rfl (H19 x2 x3 x4 (x5 + (1 : Int32)) σ5  h)
    · refine V_aloadn 37 0 O dX3_begin_37 rfl rfl ?_
      refine V_aloadn 38 1 O dX3_begin_38 rfl rfl ?_
      refine V_getR 39 O k3 fl_X3_40 rf3_2 dX3_begin_39 ?_
      refine V_iload 42 5 O dX3_begin_42 rfl ?_
      refine V_iald 44 O k4 dX3_begin_44 h (fun h => ?_)
      refine V_aloadn 45 1 O dX3_begin_45 rfl rfl ?_
      refine V_getR 46 O k3 fl_X3_43 rf3_3 dX3_begin_46 ?_
      refine V_iload 49 5 O dX3_begin_49 rfl ?_
      refine V_iald 51 O k5 dX3_begin_51 h (fun h => ?_)
      refine V_aloadn 52 1 O dX3_begin_52 rfl rfl ?_
      refine V_getR 53 O k3 fl_X3_46 rf3_4 dX3_begin_53 ?_
      refine V_iload 56 5 O dX3_begin_56 rfl ?_
      refine V_iald 58 O k6 dX3_begin_58 h (fun h => ?_)
      obtain ⟨σ7, g, h⟩ := bdv_of h
      refine V_callVv 59 [.int (σ5 4 (ix x5)), .int (σ5 5 (ix x5)), .int (σ5 6 (ix x5))] [] O mf_X3_widen lk_X3_49 k46 dX3_begin_59 rfl rfl (Nat.le_of_ble_eq_true rfl) ⟨(Nat.le_of_ble_eq_true rfl), (Nat.le_of_ble_eq_true rfl)⟩ (fun l => C_X3_widen  g) ?_
      refine V_aloadn 62 0 O dX3_begin_62 rfl rfl ?_
      refine V_aloadn 63 1 O dX3_begin_63 rfl rfl ?_
      refine V_getR 64 O k3 fl_X3_43 rf3_3 dX3_begin_64 ?_
      refine V_iload 67 5 O dX3_begin_67 rfl ?_
      refine V_iald 69 O k5 dX3_begin_69 h (fun h => ?_)
      refine V_aloadn 70 1 O dX3_begin_70 rfl rfl ?_
      refine V_getR 71 O k3 fl_X3_40 rf3_2 dX3_begin_71 ?_
      refine V_iload 74 5 O dX3_begin_74 rfl ?_
      refine V_iald 76 O k4 dX3_begin_76 h (fun h => ?_)
      refine V_aloadn 77 1 O dX3_begin_77 rfl rfl ?_
      refine V_getR 78 O k3 fl_X3_46 rf3_4 dX3_begin_78 ?_
      refine V_iload 81 5 O dX3_begin_81 rfl ?_
      refine V_iald 83 O k6 dX3_begin_83 h (fun h => ?_)
      obtain ⟨σ8, g, h⟩ := bdv_of h
      refine V_callVv 84 [.int (σ7 5 (ix x5)), .int (σ7 4 (ix x5)), .int (σ7 6 (ix x5))] [] O mf_X3_widen lk_X3_49 k46 dX3_begin_84 rfl rfl (Nat.le_of_ble_eq_true rfl) ⟨(Nat.le_of_ble_eq_true rfl), (Nat.le_of_ble_eq_true rfl)⟩ (fun l => C_X3_widen  g) ?_
      refine V_iinc 87 5 [1, 2, 3, 4, 5, 0] [(0, .ref (zad G 46)), (1, .ref (zad G 3)), (2, .int x2), (3, .int x3), (4, .int x4), (5, .int (x5 + (1 : Int32)))] O dX3_begin_87 rfl ci_1 (Nat.le_of_ble_eq_true rfl) rfl ?_
      refine V_goto 90 19 O dX3_begin_90 rfl ?_
      exact V_sub [0, 1, 2, 3, 4, 5] rfl (H19 x2 x3 x4 (x5 + (1 : Int32)) σ8  h)
theorem bl_X3_begin_19 {G : zG} {x : zX} {τ : Sg} (O : zO G x cX3_begin RX3 1 40 6) (E : zE G x none none τ) (n : Nat) : ∀ (k : Nat) (x2 : Int32) (x3 : Int32) (x4 : Int32) (x5 : Int32) (σ : Sg), s_X3_begin_19 n k x2 x3 x4 x5 σ = some τ → V G x σ [(0, .ref (zad G 46)), (1, .ref (zad G 3)), (2, .int x2), (3, .int x3), (4, .int x4), (5, .int x5)] 19 [] := by
  intro k
  induction k with
  | zero => intro x2 x3 x4 x5 σ  h; cases h
  | succ k ih => intro x2 x3 x4 x5 σ  h; exact b_X3_begin_19 O E n  (s_X3_begin_19 n  k) ih x2 x3 x4 x5 σ  h
set_option maxRecDepth 20000 in
theorem C_X3_begin {l : Launch} {G : zG} {n : Nat} {x2 : Int32} {x3 : Int32} {x4 : Int32} {σ : Sg} {τ : Sg} (h : s_X3_begin n x2 x3 x4 σ = some τ) : zM l G 1 yX3_begin (.code yX3_begin cX3_begin 6 none) [.ref (zad G 46), .ref (zad G 3), .int x2, .int x3, .int x4] σ none τ := by
  refine zM_of (by decide) (Nat.le_of_ble_eq_true rfl) (fun x O E => ?_)
  have O : zO G x cX3_begin RX3 1 40 6 := O
  unfold s_X3_begin at h
  show V G x σ [(0, .ref (zad G 46)), (1, .ref (zad G 3)), (2, .int x2), (3, .int x3), (4, .int x4)] 0 []
  refine V_aloadn 0 0 O dX3_begin_0 rfl rfl ?_
  refine V_getR 1 O k46 fl_X3_11 rf46_0 dX3_begin_1 ?_
  refine V_iconst 4 O dX3_begin_4 ci_0 ?_
  obtain ⟨σ1, g, h⟩ := bdv_of h
  refine V_callSv 5 [.ref (zad G 47), .int (0 : Int32)] [] O mf_J7_fill_53178 lk_X3_24 dX3_begin_5 rfl rfl (Nat.le_of_ble_eq_true rfl) ⟨(Nat.le_of_ble_eq_true rfl), (Nat.le_of_ble_eq_true rfl)⟩ (fun l => C_J7_fill_53178 k47 g) ?_
  refine V_aloadn 8 0 O dX3_begin_8 rfl rfl ?_
  refine V_getR 9 O k46 fl_X3_15 rf46_1 dX3_begin_9 ?_
  refine V_iconst 12 O dX3_begin_12 ci_0 ?_
  obtain ⟨σ2, g, h⟩ := bdv_of h
  refine V_callSv 13 [.ref (zad G 48), .int (0 : Int32)] [] O mf_J7_fill_53178 lk_X3_24 dX3_begin_13 rfl rfl (Nat.le_of_ble_eq_true rfl) ⟨(Nat.le_of_ble_eq_true rfl), (Nat.le_of_ble_eq_true rfl)⟩ (fun l => C_J7_fill_53178 k48 g) ?_
  refine V_iconst 16 O dX3_begin_16 ci_0 ?_
  refine V_istore 17 [1, 2, 3, 4, 5, 0] [(0, .ref (zad G 46)), (1, .ref (zad G 3)), (2, .int x2), (3, .int x3), (4, .int x4), (5, .int (0 : Int32))] O dX3_begin_17 (Nat.le_of_ble_eq_true rfl) rfl ?_
  exact V_sub [0, 1, 2, 3, 4, 5] rfl (bl_X3_begin_19 O E n  n x2 x3 x4 (0 : Int32) σ2  h)
-- ==== Mains.findWay(I)Z
def s_X3_findWay_112 (n : Nat) (rc17 : Int32 → Int32 → Int32 → Int32 → Sg → Option (Int32 × Sg)) (x1 : Int32) (x2 : Int32) (x3 : Int32) (x4 : Int32) (σ : Sg) : Option (Int32 × Sg) := if ((sr x2 x1) &&& (1 : Int32)) = (1 : Int32) then (some ((1 : Int32), σ)) else (rc17 x1 x2 x3 (x4 + (1 : Int32)) σ)
def s_X3_findWay_60b (n : Nat) (rc17 : Int32 → Int32 → Int32 → Int32 → Sg → Option (Int32 × Sg)) (rc60 : Int32 → Int32 → Int32 → Int32 → Int32 → Int32 → Int32 → Sg → Option (Int32 × Sg)) (x1 : Int32) (x2 : Int32) (x3 : Int32) (x4 : Int32) (x5 : Int32) (x6 : Int32) (x7 : Int32) (σ : Sg) : Option (Int32 × Sg) := if (10 : Int32) ≤ x7 then (s_X3_findWay_112 n rc17 x1 x2 x3 x4 σ) else (if (sr x6 x7) = 0 then (s_X3_findWay_112 n rc17 x1 x2 x3 x4 σ) else (if ((sr x6 x7) &&& (1 : Int32)) = (1 : Int32) then (ck x7 11 (lt (up2 σ 49 (ix x7) x5) fun σ5 => ck x3 11 (lt (up2 σ5 50 (ix x3) x7) fun σ6 => rc60 x1 x2 (x3 + (1 : Int32)) x4 x5 x6 (x7 + (1 : Int32)) σ6))) else (rc60 x1 x2 x3 x4 x5 x6 (x7 + (1 : Int32)) σ)))
def s_X3_findWay_60 (n : Nat) (rc17 : Int32 → Int32 → Int32 → Int32 → Sg → Option (Int32 × Sg)) : Nat → Int32 → Int32 → Int32 → Int32 → Int32 → Int32 → Int32 → Sg → Option (Int32 × Sg)
  | 0 => fun _ _ _ _ _ _ _ _ => none
  | k + 1 => s_X3_findWay_60b n rc17 (s_X3_findWay_60 n rc17 k)
def s_X3_findWay_17b (n : Nat) (rc17 : Int32 → Int32 → Int32 → Int32 → Sg → Option (Int32 × Sg)) (x1 : Int32) (x2 : Int32) (x3 : Int32) (x4 : Int32) (σ : Sg) : Option (Int32 × Sg) := if x3 ≤ x4 then (some ((0 : Int32), σ)) else (if (11 : Int32) ≤ x4 then (some ((0 : Int32), σ)) else (ck x4 11 (lt (σ 50 (ix x4)) fun v2 => ck v2 11 (lt ((σ 48 (ix v2)) &&& (x2 ^^^ (-1 : Int32))) fun v3 => lt (x2 ||| v3) fun v4 => s_X3_findWay_60 n rc17 n x1 v4 x3 x4 v2 v3 (0 : Int32) σ))))
def s_X3_findWay_17 (n : Nat) : Nat → Int32 → Int32 → Int32 → Int32 → Sg → Option (Int32 × Sg)
  | 0 => fun _ _ _ _ _ => none
  | k + 1 => s_X3_findWay_17b n (s_X3_findWay_17 n k)
def s_X3_findWay (n : Nat) (x1 : Int32) (σ : Sg) : Option (Int32 × Sg) := ck (0 : Int32) 11 (lt (up2 σ 50 (ix (0 : Int32)) (10 : Int32)) fun σ1 => s_X3_findWay_17 n n x1 (1024 : Int32) (1 : Int32) (0 : Int32) σ1)
set_option maxRecDepth 20000 in
theorem b_X3_findWay_112 {G : zG} {x : zX} {r : Int32} {τ : Sg} (O : zO G x cX3_findWay RX3 0 0 8) (E : zE G x (some (.boolean)) (some (.int r)) τ) (n : Nat) (rc17 : Int32 → Int32 → Int32 → Int32 → Sg → Option (Int32 × Sg)) (H17 : ∀ (x1 : Int32) (x2 : Int32) (x3 : Int32) (x4 : Int32) (σ : Sg), rc17 x1 x2 x3 x4 σ = some (r, τ) → V G x σ [(0, .ref (zad G 46)), (1, .int x1), (2, .int x2), (3, .int x3), (4, .int x4)] 17 []) (x1 : Int32) (x2 : Int32) (x3 : Int32) (x4 : Int32) (σ : Sg) (h : s_X3_findWay_112 n rc17 x1 x2 x3 x4 σ = some (r, τ)) : V G x σ [(0, .ref (zad G 46)), (1, .int x1), (2, .int x2), (3, .int x3), (4, .int x4)] 112 [] := by
  unfold s_X3_findWay_112 at h
  refine V_iloadn 112 2 O dX3_findWay_112 rfl rfl ?_
  refine V_iloadn 113 1 O dX3_findWay_113 rfl rfl ?_
  refine V_ishr 114 O dX3_findWay_114 ?_
  refine V_iconst 115 O dX3_findWay_115 ci_1 ?_
  refine V_iand 116 O dX3_findWay_116 ?_
  refine V_iconst 117 O dX3_findWay_117 ci_1 ?_
  refine V_icmp_ne 118 123 O dX3_findWay_118 rfl h (fun h => ?_) (fun h => ?_)
  · refine V_iinc 123 4 [1, 2, 3, 4, 0] [(0, .ref (zad G 46)), (1, .int x1), (2, .int x2), (3, .int x3), (4, .int (x4 + (1 : Int32)))] O dX3_findWay_123 rfl ci_1 (Nat.le_of_ble_eq_true rfl) rfl ?_
    refine V_goto 126 17 O dX3_findWay_126 rfl ?_
    exact V_sub [0, 1, 2, 3, 4] rfl (H17 x1 x2 x3 (x4 + (1 : Int32)) σ  h)
  · refine V_iconst 121 O dX3_findWay_121 ci_1 ?_
    exact V_zret1 122 O E dX3_findWay_122 h
set_option maxRecDepth 20000 in
theorem b_X3_findWay_60 {G : zG} {x : zX} {r : Int32} {τ : Sg} (O : zO G x cX3_findWay RX3 0 0 8) (E : zE G x (some (.boolean)) (some (.int r)) τ) (n : Nat) (rc17 : Int32 → Int32 → Int32 → Int32 → Sg → Option (Int32 × Sg)) (H17 : ∀ (x1 : Int32) (x2 : Int32) (x3 : Int32) (x4 : Int32) (σ : Sg), rc17 x1 x2 x3 x4 σ = some (r, τ) → V G x σ [(0, .ref (zad G 46)), (1, .int x1), (2, .int x2), (3, .int x3), (4, .int x4)] 17 []) (rc60 : Int32 → Int32 → Int32 → Int32 → Int32 → Int32 → Int32 → Sg → Option (Int32 × Sg)) (H60 : ∀ (x1 : Int32) (x2 : Int32) (x3 : Int32) (x4 : Int32) (x5 : Int32) (x6 : Int32) (x7 : Int32) (σ : Sg), rc60 x1 x2 x3 x4 x5 x6 x7 σ = some (r, τ) → V G x σ [(0, .ref (zad G 46)), (1, .int x1), (2, .int x2), (3, .int x3), (4, .int x4), (5, .int x5), (6, .int x6), (7, .int x7)] 60 []) (x1 : Int32) (x2 : Int32) (x3 : Int32) (x4 : Int32) (x5 : Int32) (x6 : Int32) (x7 : Int32) (σ : Sg) (h : s_X3_findWay_60b n rc17 rc60 x1 x2 x3 x4 x5 x6 x7 σ = some (r, τ)) : V G x σ [(0, .ref (zad G 46)), (1, .int x1), (2, .int x2), (3, .int x3), (4, .int x4), (5, .int x5), (6, .int x6), (7, .int x7)] 60 [] := by
  unfold s_X3_findWay_60b at h
  refine V_iload 60 7 O dX3_findWay_60 rfl ?_
  refine V_bipush 62 O dX3_findWay_62 cb_10 ?_
  refine V_icmp_ge 64 112 O dX3_findWay_64 rfl h (fun h => ?_) (fun h => ?_)
  · exact V_sub [0, 1, 2, 3, 4] rfl (b_X3_findWay_112 O E n rc17 H17 x1 x2 x3 x4 σ  h)
  · refine V_iload 67 6 O dX3_findWay_67 rfl ?_
    refine V_iload 69 7 O dX3_findWay_69 rfl ?_
    refine V_ishr 71 O dX3_findWay_71 ?_
    refine V_if_eq 72 112 O dX3_findWay_72 rfl h (fun h => ?_) (fun h => ?_)
    · exact V_sub [0, 1, 2, 3, 4] rfl (b_X3_findWay_112 O E n rc17 H17 x1 x2 x3 x4 σ  h)
    · refine V_iload 75 6 O dX3_findWay_75 rfl ?_
      refine V_iload 77 7 O dX3_findWay_77 rfl ?_
      refine V_ishr 79 O dX3_findWay_79 ?_
      refine V_iconst 80 O dX3_findWay_80 ci_1 ?_
      refine V_iand 81 O dX3_findWay_81 ?_
      refine V_iconst 82 O dX3_findWay_82 ci_1 ?_
      refine V_icmp_ne 83 106 O dX3_findWay_83 rfl h (fun h => ?_) (fun h => ?_)
      · refine V_iinc 106 7 [1, 2, 3, 4, 5, 6, 7, 0] [(0, .ref (zad G 46)), (1, .int x1), (2, .int x2), (3, .int x3), (4, .int x4), (5, .int x5), (6, .int x6), (7, .int (x7 + (1 : Int32)))] O dX3_findWay_106 rfl ci_1 (Nat.le_of_ble_eq_true rfl) rfl ?_
        refine V_goto 109 60 O dX3_findWay_109 rfl ?_
        exact V_sub [0, 1, 2, 3, 4, 5, 6, 7] rfl (H60 x1 x2 x3 x4 x5 x6 (x7 + (1 : Int32)) σ  h)
      · refine V_aloadn 86 0 O dX3_findWay_86 rfl rfl ?_
        refine V_getR 87 O k46 fl_X3_18 rf46_2 dX3_findWay_87 ?_
        refine V_iload 90 7 O dX3_findWay_90 rfl ?_
        refine V_iload 92 5 O dX3_findWay_92 rfl ?_
        refine V_iast 94 O k49 dX3_findWay_94 h (fun σ5 h => ?_)
        refine V_aloadn 95 0 O dX3_findWay_95 rfl rfl ?_
        refine V_getR 96 O k46 fl_X3_21 rf46_3 dX3_findWay_96 ?_
        refine V_iloadn 99 3 O dX3_findWay_99 rfl rfl ?_
        refine V_iload 100 7 O dX3_findWay_100 rfl ?_
        refine V_iast 102 O k50 dX3_findWay_102 h (fun σ6 h => ?_)
        refine V_iinc 103 3 [1, 2, 3, 0, 4, 5, 6, 7] [(0, .ref (zad G 46)), (1, .int x1), (2, .int x2), (3, .int (x3 + (1 : Int32))), (4, .int x4), (5, .int x5), (6, .int x6), (7, .int x7)] O dX3_findWay_103 rfl ci_1 (Nat.le_of_ble_eq_true rfl) rfl ?_
        refine V_iinc 106 7 [1, 2, 3, 4, 5, 6, 7, 0] [(0, .ref (zad G 46)), (1, .int x1), (2, .int x2), (3, .int (x3 + (1 : Int32))), (4, .int x4), (5, .int x5), (6, .int x6), (7, .int (x7 + (1 : Int32)))] O dX3_findWay_106 rfl ci_1 (Nat.le_of_ble_eq_true rfl) rfl ?_
        refine V_goto 109 60 O dX3_findWay_109 rfl ?_
        exact V_sub [0, 1, 2, 3, 4, 5, 6, 7] rfl (H60 x1 x2 (x3 + (1 : Int32)) x4 x5 x6 (x7 + (1 : Int32)) σ6  h)
theorem bl_X3_findWay_60 {G : zG} {x : zX} {r : Int32} {τ : Sg} (O : zO G x cX3_findWay RX3 0 0 8) (E : zE G x (some (.boolean)) (some (.int r)) τ) (n : Nat) (rc17 : Int32 → Int32 → Int32 → Int32 → Sg → Option (Int32 × Sg)) (H17 : ∀ (x1 : Int32) (x2 : Int32) (x3 : Int32) (x4 : Int32) (σ : Sg), rc17 x1 x2 x3 x4 σ = some (r, τ) → V G x σ [(0, .ref (zad G 46)), (1, .int x1), (2, .int x2), (3, .int x3), (4, .int x4)] 17 []) : ∀ (k : Nat) (x1 : Int32) (x2 : Int32) (x3 : Int32) (x4 : Int32) (x5 : Int32) (x6 : Int32) (x7 : Int32) (σ : Sg), s_X3_findWay_60 n rc17 k x1 x2 x3 x4 x5 x6 x7 σ = some (r, τ) → V G x σ [(0, .ref (zad G 46)), (1, .int x1), (2, .int x2), (3, .int x3), (4, .int x4), (5, .int x5), (6, .int x6), (7, .int x7)] 60 [] := by
  intro k
  induction k with
  | zero => intro x1 x2 x3 x4 x5 x6 x7 σ  h; cases h
  | succ k ih => intro x1 x2 x3 x4 x5 x6 x7 σ  h; exact b_X3_findWay_60 O E n rc17 H17 (s_X3_findWay_60 n rc17 k) ih x1 x2 x3 x4 x5 x6 x7 σ  h
set_option maxRecDepth 20000 in
theorem b_X3_findWay_17 {G : zG} {x : zX} {r : Int32} {τ : Sg} (O : zO G x cX3_findWay RX3 0 0 8) (E : zE G x (some (.boolean)) (some (.int r)) τ) (n : Nat) (rc17 : Int32 → Int32 → Int32 → Int32 → Sg → Option (Int32 × Sg)) (H17 : ∀ (x1 : Int32) (x2 : Int32) (x3 : Int32) (x4 : Int32) (σ : Sg), rc17 x1 x2 x3 x4 σ = some (r, τ) → V G x σ [(0, .ref (zad G 46)), (1, .int x1), (2, .int x2), (3, .int x3), (4, .int x4)] 17 []) (x1 : Int32) (x2 : Int32) (x3 : Int32) (x4 : Int32) (σ : Sg) (h : s_X3_findWay_17b n rc17 x1 x2 x3 x4 σ = some (r, τ)) : V G x σ [(0, .ref (zad G 46)), (1, .int x1), (2, .int x2), (3, .int x3), (4, .int x4)] 17 [] := by
  unfold s_X3_findWay_17b at h
  refine V_iload 17 4 O dX3_findWay_17 rfl ?_
  refine V_iloadn 19 3 O dX3_findWay_19 rfl rfl ?_
  refine V_icmp_ge 20 129 O dX3_findWay_20 rfl h (fun h => ?_) (fun h => ?_)
  · refine V_iconst 129 O dX3_findWay_129 ci_0 ?_
    exact V_zret0 130 O E dX3_findWay_130 h
  · refine V_iload 23 4 O dX3_findWay_23 rfl ?_
    refine V_bipush 25 O dX3_findWay_25 cb_11 ?_
    refine V_icmp_ge 27 129 O dX3_findWay_27 rfl h (fun h => ?_) (fun h => ?_)
    · refine V_iconst 129 O dX3_findWay_129 ci_0 ?_
      exact V_zret0 130 O E dX3_findWay_130 h
    · refine V_aloadn 30 0 O dX3_findWay_30 rfl rfl ?_
      refine V_getR 31 O k46 fl_X3_21 rf46_3 dX3_findWay_31 ?_
      refine V_iload 34 4 O dX3_findWay_34 rfl ?_
      refine V_iald 36 O k50 dX3_findWay_36 h (fun h => ?_)
      refine V_topi h (fun v2 h => ?_)
      refine V_istore 37 [1, 2, 3, 4, 5, 0] [(0, .ref (zad G 46)), (1, .int x1), (2, .int x2), (3, .int x3), (4, .int x4), (5, .int v2)] O dX3_findWay_37 (Nat.le_of_ble_eq_true rfl) rfl ?_
      refine V_aloadn 39 0 O dX3_findWay_39 rfl rfl ?_
      refine V_getR 40 O k46 fl_X3_15 rf46_1 dX3_findWay_40 ?_
      refine V_iload 43 5 O dX3_findWay_43 rfl ?_
      refine V_iald 45 O k48 dX3_findWay_45 h (fun h => ?_)
      refine V_iloadn 46 2 O dX3_findWay_46 rfl rfl ?_
      refine V_iconst 47 O dX3_findWay_47 ci_m1 ?_
      refine V_ixor 48 O dX3_findWay_48 ?_
      refine V_iand 49 O dX3_findWay_49 ?_
      refine V_topi h (fun v3 h => ?_)
      refine V_istore 50 [1, 2, 3, 4, 5, 6, 0] [(0, .ref (zad G 46)), (1, .int x1), (2, .int x2), (3, .int x3), (4, .int x4), (5, .int v2), (6, .int v3)] O dX3_findWay_50 (Nat.le_of_ble_eq_true rfl) rfl ?_
      refine V_iloadn 52 2 O dX3_findWay_52 rfl rfl ?_
      refine V_iload 53 6 O dX3_findWay_53 rfl ?_
      refine V_ior 55 O dX3_findWay_55 ?_
      refine V_topi h (fun v4 h => ?_)
      refine V_istoren 56 [1, 2, 0, 3, 4, 5, 6] [(0, .ref (zad G 46)), (1, .int x1), (2, .int v4), (3, .int x3), (4, .int x4), (5, .int v2), (6, .int v3)] O dX3_findWay_56 rfl (Nat.le_of_ble_eq_true rfl) rfl ?_
      refine V_iconst 57 O dX3_findWay_57 ci_0 ?_
      refine V_istore 58 [1, 2, 3, 4, 5, 6, 7, 0] [(0, .ref (zad G 46)), (1, .int x1), (2, .int v4), (3, .int x3), (4, .int x4), (5, .int v2), (6, .int v3), (7, .int (0 : Int32))] O dX3_findWay_58 (Nat.le_of_ble_eq_true rfl) rfl ?_
      exact V_sub [0, 1, 2, 3, 4, 5, 6, 7] rfl (bl_X3_findWay_60 O E n rc17 H17 n x1 v4 x3 x4 v2 v3 (0 : Int32) σ  h)
theorem bl_X3_findWay_17 {G : zG} {x : zX} {r : Int32} {τ : Sg} (O : zO G x cX3_findWay RX3 0 0 8) (E : zE G x (some (.boolean)) (some (.int r)) τ) (n : Nat) : ∀ (k : Nat) (x1 : Int32) (x2 : Int32) (x3 : Int32) (x4 : Int32) (σ : Sg), s_X3_findWay_17 n k x1 x2 x3 x4 σ = some (r, τ) → V G x σ [(0, .ref (zad G 46)), (1, .int x1), (2, .int x2), (3, .int x3), (4, .int x4)] 17 [] := by
  intro k
  induction k with
  | zero => intro x1 x2 x3 x4 σ  h; cases h
  | succ k ih => intro x1 x2 x3 x4 σ  h; exact b_X3_findWay_17 O E n  (s_X3_findWay_17 n  k) ih x1 x2 x3 x4 σ  h
set_option maxRecDepth 20000 in
theorem C_X3_findWay {l : Launch} {G : zG} {n : Nat} {x1 : Int32} {σ : Sg} {r : Int32} {τ : Sg} (h : s_X3_findWay n x1 σ = some (r, τ)) : zM l G 0 yX3_findWay (.code yX3_findWay cX3_findWay 8 (some (.boolean))) [.ref (zad G 46), .int x1] σ (some (.int r)) τ := by
  refine zM_of (by decide) (Nat.le_of_ble_eq_true rfl) (fun x O E => ?_)
  have O : zO G x cX3_findWay RX3 0 0 8 := O
  unfold s_X3_findWay at h
  show V G x σ [(0, .ref (zad G 46)), (1, .int x1)] 0 []
  refine V_sipush 0 O dX3_findWay_0 cs_1024 ?_
  refine V_istoren 3 [1, 2, 0] [(0, .ref (zad G 46)), (1, .int x1), (2, .int (1024 : Int32))] O dX3_findWay_3 rfl (Nat.le_of_ble_eq_true rfl) rfl ?_
  refine V_iconst 4 O dX3_findWay_4 ci_1 ?_
  refine V_istoren 5 [1, 2, 3, 0] [(0, .ref (zad G 46)), (1, .int x1), (2, .int (1024 : Int32)), (3, .int (1 : Int32))] O dX3_findWay_5 rfl (Nat.le_of_ble_eq_true rfl) rfl ?_
  refine V_aloadn 6 0 O dX3_findWay_6 rfl rfl ?_
  refine V_getR 7 O k46 fl_X3_21 rf46_3 dX3_findWay_7 ?_
  refine V_iconst 10 O dX3_findWay_10 ci_0 ?_
  refine V_bipush 11 O dX3_findWay_11 cb_10 ?_
  refine V_iast 13 O k50 dX3_findWay_13 h (fun σ1 h => ?_)
  refine V_iconst 14 O dX3_findWay_14 ci_0 ?_
  refine V_istore 15 [1, 2, 3, 4, 0] [(0, .ref (zad G 46)), (1, .int x1), (2, .int (1024 : Int32)), (3, .int (1 : Int32)), (4, .int (0 : Int32))] O dX3_findWay_15 (Nat.le_of_ble_eq_true rfl) rfl ?_
  exact V_sub [0, 1, 2, 3, 4] rfl (bl_X3_findWay_17 O E n  n x1 (1024 : Int32) (1 : Int32) (0 : Int32) σ1  h)
-- ==== Mains.narrowest(I)I
def s_X3_narrowest_9b (n : Nat) (rc9 : Int32 → Int32 → Int32 → Sg → Option (Int32 × Sg)) (x2 : Int32) (x3 : Int32) (x4 : Int32) (σ : Sg) : Option (Int32 × Sg) := if (11 : Int32) ≤ x4 then (some (x2, σ)) else (if x3 = (10 : Int32) then (some (x2, σ)) else (ck x3 11 (ck (((σ 49 (ix x3)) * (11 : Int32)) + x3) 121 (lt (imin x2 (σ 47 (ix (((σ 49 (ix x3)) * (11 : Int32)) + x3)))) fun v1 => ck x3 11 (lt (σ 49 (ix x3)) fun v2 => rc9 v1 v2 (x4 + (1 : Int32)) σ)))))
def s_X3_narrowest_9 (n : Nat) : Nat → Int32 → Int32 → Int32 → Sg → Option (Int32 × Sg)
  | 0 => fun _ _ _ _ => none
  | k + 1 => s_X3_narrowest_9b n (s_X3_narrowest_9 n k)
def s_X3_narrowest (n : Nat) (x1 : Int32) (σ : Sg) : Option (Int32 × Sg) := s_X3_narrowest_9 n n (20000 : Int32) x1 (0 : Int32) σ
set_option maxRecDepth 20000 in
theorem b_X3_narrowest_9 {G : zG} {x : zX} {r : Int32} {τ : Sg} (O : zO G x cX3_narrowest RX3 1 40 5) (E : zE G x (some (.int)) (some (.int r)) τ) (n : Nat) (rc9 : Int32 → Int32 → Int32 → Sg → Option (Int32 × Sg)) (H9 : ∀ (x2 : Int32) (x3 : Int32) (x4 : Int32) (σ : Sg), rc9 x2 x3 x4 σ = some (r, τ) → V G x σ [(0, .ref (zad G 46)), (2, .int x2), (3, .int x3), (4, .int x4)] 9 []) (x2 : Int32) (x3 : Int32) (x4 : Int32) (σ : Sg) (h : s_X3_narrowest_9b n rc9 x2 x3 x4 σ = some (r, τ)) : V G x σ [(0, .ref (zad G 46)), (2, .int x2), (3, .int x3), (4, .int x4)] 9 [] := by
  unfold s_X3_narrowest_9b at h
  refine V_iload 9 3 O dX3_narrowest_9 rfl ?_
  refine V_bipush 11 O dX3_narrowest_11 cb_11 ?_
  refine V_icmp_ge 13 56 O dX3_narrowest_13 rfl h (fun h => ?_) (fun h => ?_)
  · refine V_iloadn 56 1 O dX3_narrowest_56 rfl rfl ?_
    exact V_iret 57 O E dX3_narrowest_57 h
  · refine V_iloadn 16 2 O dX3_narrowest_16 rfl rfl ?_
    refine V_bipush 17 O dX3_narrowest_17 cb_10 ?_
    refine V_icmp_eq 19 56 O dX3_narrowest_19 rfl h (fun h => ?_) (fun h => ?_)
    · refine V_iloadn 56 1 O dX3_narrowest_56 rfl rfl ?_
      exact V_iret 57 O E dX3_narrowest_57 h
    · refine V_iloadn 22 1 O dX3_narrowest_22 rfl rfl ?_
      refine V_aloadn 23 0 O dX3_narrowest_23 rfl rfl ?_
      refine V_getR 24 O k46 fl_X3_11 rf46_0 dX3_narrowest_24 ?_
      refine V_aloadn 27 0 O dX3_narrowest_27 rfl rfl ?_
      refine V_getR 28 O k46 fl_X3_18 rf46_2 dX3_narrowest_28 ?_
      refine V_iloadn 31 2 O dX3_narrowest_31 rfl rfl ?_
      refine V_iald 32 O k49 dX3_narrowest_32 h (fun h => ?_)
      refine V_bipush 33 O dX3_narrowest_33 cb_11 ?_
      refine V_imul 35 O dX3_narrowest_35 ?_
      refine V_iloadn 36 2 O dX3_narrowest_36 rfl rfl ?_
      refine V_iadd 37 O dX3_narrowest_37 ?_
      refine V_iald 38 O k47 dX3_narrowest_38 h (fun h => ?_)
      refine V_min 39 O lk_X3_60 mm_imin.1 mm_imin.2.1 mm_imin.2.2 (Nat.le_of_ble_eq_true rfl) (Nat.le_of_ble_eq_true rfl) dX3_narrowest_39 ?_
      refine V_topi h (fun v1 h => ?_)
      refine V_istoren 42 [1, 0, 2, 3] [(0, .ref (zad G 46)), (2, .int v1), (3, .int x3), (4, .int x4)] O dX3_narrowest_42 rfl (Nat.le_of_ble_eq_true rfl) rfl ?_
      refine V_aloadn 43 0 O dX3_narrowest_43 rfl rfl ?_
      refine V_getR 44 O k46 fl_X3_18 rf46_2 dX3_narrowest_44 ?_
      refine V_iloadn 47 2 O dX3_narrowest_47 rfl rfl ?_
      refine V_iald 48 O k49 dX3_narrowest_48 h (fun h => ?_)
      refine V_topi h (fun v2 h => ?_)
      refine V_istoren 49 [1, 2, 0, 3] [(0, .ref (zad G 46)), (2, .int v1), (3, .int v2), (4, .int x4)] O dX3_narrowest_49 rfl (Nat.le_of_ble_eq_true rfl) rfl ?_
      refine V_iinc 50 3 [1, 2, 3, 0] [(0, .ref (zad G 46)), (2, .int v1), (3, .int v2), (4, .int (x4 + (1 : Int32)))] O dX3_narrowest_50 rfl ci_1 (Nat.le_of_ble_eq_true rfl) rfl ?_
      refine V_goto 53 9 O dX3_narrowest_53 rfl ?_
      exact V_sub [0, 1, 2, 3] rfl (H9 v1 v2 (x4 + (1 : Int32)) σ  h)
theorem bl_X3_narrowest_9 {G : zG} {x : zX} {r : Int32} {τ : Sg} (O : zO G x cX3_narrowest RX3 1 40 5) (E : zE G x (some (.int)) (some (.int r)) τ) (n : Nat) : ∀ (k : Nat) (x2 : Int32) (x3 : Int32) (x4 : Int32) (σ : Sg), s_X3_narrowest_9 n k x2 x3 x4 σ = some (r, τ) → V G x σ [(0, .ref (zad G 46)), (2, .int x2), (3, .int x3), (4, .int x4)] 9 [] := by
  intro k
  induction k with
  | zero => intro x2 x3 x4 σ  h; cases h
  | succ k ih => intro x2 x3 x4 σ  h; exact b_X3_narrowest_9 O E n  (s_X3_narrowest_9 n  k) ih x2 x3 x4 σ  h
set_option maxRecDepth 20000 in
theorem C_X3_narrowest {l : Launch} {G : zG} {n : Nat} {x1 : Int32} {σ : Sg} {r : Int32} {τ : Sg} (h : s_X3_narrowest n x1 σ = some (r, τ)) : zM l G 1 yX3_narrowest (.code yX3_narrowest cX3_narrowest 5 (some (.int))) [.ref (zad G 46), .int x1] σ (some (.int r)) τ := by
  refine zM_of (by decide) (Nat.le_of_ble_eq_true rfl) (fun x O E => ?_)
  have O : zO G x cX3_narrowest RX3 1 40 5 := O
  unfold s_X3_narrowest at h
  show V G x σ [(0, .ref (zad G 46)), (1, .int x1)] 0 []
  refine V_sipush 0 O dX3_narrowest_0 cs_20000 ?_
  refine V_istoren 3 [1, 2, 0] [(0, .ref (zad G 46)), (1, .int x1), (2, .int (20000 : Int32))] O dX3_narrowest_3 rfl (Nat.le_of_ble_eq_true rfl) rfl ?_
  refine V_iloadn 4 1 O dX3_narrowest_4 rfl rfl ?_
  refine V_istoren 5 [1, 2, 3, 0] [(0, .ref (zad G 46)), (1, .int x1), (2, .int (20000 : Int32)), (3, .int x1)] O dX3_narrowest_5 rfl (Nat.le_of_ble_eq_true rfl) rfl ?_
  refine V_iconst 6 O dX3_narrowest_6 ci_0 ?_
  refine V_istore 7 [1, 2, 3, 4, 0] [(0, .ref (zad G 46)), (1, .int x1), (2, .int (20000 : Int32)), (3, .int x1), (4, .int (0 : Int32))] O dX3_narrowest_7 (Nat.le_of_ble_eq_true rfl) rfl ?_
  exact V_sub [0, 2, 3, 4] rfl (bl_X3_narrowest_9 O E n  n (20000 : Int32) x1 (0 : Int32) σ  h)
-- ==== Mains.push(II)V
def s_X3_push_5b (n : Nat) (rc5 : Int32 → Int32 → Int32 → Sg → Option Sg) (x2 : Int32) (x3 : Int32) (x4 : Int32) (σ : Sg) : Option Sg := if (11 : Int32) ≤ x4 then (some σ) else (if x3 = (10 : Int32) then (some σ) else (ck x3 11 (bdv (s_X3_widen n (σ 49 (ix x3)) x3 (-x2) σ) fun σ1 => ck x3 11 (bdv (s_X3_widen n x3 (σ1 49 (ix x3)) x2 σ1) fun σ2 => ck x3 11 (lt (σ2 49 (ix x3)) fun v3 => rc5 x2 v3 (x4 + (1 : Int32)) σ2)))))
def s_X3_push_5 (n : Nat) : Nat → Int32 → Int32 → Int32 → Sg → Option Sg
  | 0 => fun _ _ _ _ => none
  | k + 1 => s_X3_push_5b n (s_X3_push_5 n k)
def s_X3_push (n : Nat) (x1 : Int32) (x2 : Int32) (σ : Sg) : Option Sg := s_X3_push_5 n n x2 x1 (0 : Int32) σ
set_option maxRecDepth 20000 in
theorem b_X3_push_5 {G : zG} {x : zX} {τ : Sg} (O : zO G x cX3_push RX3 1 40 5) (E : zE G x none none τ) (n : Nat) (rc5 : Int32 → Int32 → Int32 → Sg → Option Sg) (H5 : ∀ (x2 : Int32) (x3 : Int32) (x4 : Int32) (σ : Sg), rc5 x2 x3 x4 σ = some τ → V G x σ [(0, .ref (zad G 46)), (2, .int x2), (3, .int x3), (4, .int x4)] 5 []) (x2 : Int32) (x3 : Int32) (x4 : Int32) (σ : Sg) (h : s_X3_push_5b n rc5 x2 x3 x4 σ = some τ) : V G x σ [(0, .ref (zad G 46)), (2, .int x2), (3, .int x3), (4, .int x4)] 5 [] := by
  unfold s_X3_push_5b at h
  refine V_iload 5 3 O dX3_push_5 rfl ?_
  refine V_bipush 7 O dX3_push_7 cb_11 ?_
  refine V_icmp_ge 9 56 O dX3_push_9 rfl h (fun h => ?_) (fun h => ?_)
  · exact V_vret 56 O E dX3_push_56 h
  · refine V_iloadn 12 2 O dX3_push_12 rfl rfl ?_
    refine V_bipush 13 O dX3_push_13 cb_10 ?_
    refine V_icmp_eq 15 56 O dX3_push_15 rfl h (fun h => ?_) (fun h => ?_)
    · exact V_vret 56 O E dX3_push_56 h
    · refine V_aloadn 18 0 O dX3_push_18 rfl rfl ?_
      refine V_aloadn 19 0 O dX3_push_19 rfl rfl ?_
      refine V_getR 20 O k46 fl_X3_18 rf46_2 dX3_push_20 ?_
      refine V_iloadn 23 2 O dX3_push_23 rfl rfl ?_
      refine V_iald 24 O k49 dX3_push_24 h (fun h => ?_)
      refine V_iloadn 25 2 O dX3_push_25 rfl rfl ?_
      refine V_iloadn 26 1 O dX3_push_26 rfl rfl ?_
      refine V_ineg 27 O dX3_push_27 ?_
      obtain ⟨σ1, g, h⟩ := bdv_of h
      refine V_callVv 28 [.int (σ 49 (ix x3)), .int x3, .int (-x2)] [] O mf_X3_widen lk_X3_49 k46 dX3_push_28 rfl rfl (Nat.le_of_ble_eq_true rfl) ⟨(Nat.le_of_ble_eq_true rfl), (Nat.le_of_ble_eq_true rfl)⟩ (fun l => C_X3_widen  g) ?_
      refine V_aloadn 31 0 O dX3_push_31 rfl rfl ?_
      refine V_iloadn 32 2 O dX3_push_32 rfl rfl ?_
      refine V_aloadn 33 0 O dX3_push_33 rfl rfl ?_
      refine V_getR 34 O k46 fl_X3_18 rf46_2 dX3_push_34 ?_
      refine V_iloadn 37 2 O dX3_push_37 rfl rfl ?_
      refine V_iald 38 O k49 dX3_push_38 h (fun h => ?_)
      refine V_iloadn 39 1 O dX3_push_39 rfl rfl ?_
      obtain ⟨σ2, g, h⟩ := bdv_of h
      refine V_callVv 40 [.int x3, .int (σ1 49 (ix x3)), .int x2] [] O mf_X3_widen lk_X3_49 k46 dX3_push_40 rfl rfl (Nat.le_of_ble_eq_true rfl) ⟨(Nat.le_of_ble_eq_true rfl), (Nat.le_of_ble_eq_true rfl)⟩ (fun l => C_X3_widen  g) ?_
      refine V_aloadn 43 0 O dX3_push_43 rfl rfl ?_
      refine V_getR 44 O k46 fl_X3_18 rf46_2 dX3_push_44 ?_
      refine V_iloadn 47 2 O dX3_push_47 rfl rfl ?_
      refine V_iald 48 O k49 dX3_push_48 h (fun h => ?_)
      refine V_topi h (fun v3 h => ?_)
      refine V_istoren 49 [1, 2, 0, 3] [(0, .ref (zad G 46)), (2, .int x2), (3, .int v3), (4, .int x4)] O dX3_push_49 rfl (Nat.le_of_ble_eq_true rfl) rfl ?_
      refine V_iinc 50 3 [1, 2, 3, 0] [(0, .ref (zad G 46)), (2, .int x2), (3, .int v3), (4, .int (x4 + (1 : Int32)))] O dX3_push_50 rfl ci_1 (Nat.le_of_ble_eq_true rfl) rfl ?_
      refine V_goto 53 5 O dX3_push_53 rfl ?_
      exact V_sub [0, 1, 2, 3] rfl (H5 x2 v3 (x4 + (1 : Int32)) σ2  h)
theorem bl_X3_push_5 {G : zG} {x : zX} {τ : Sg} (O : zO G x cX3_push RX3 1 40 5) (E : zE G x none none τ) (n : Nat) : ∀ (k : Nat) (x2 : Int32) (x3 : Int32) (x4 : Int32) (σ : Sg), s_X3_push_5 n k x2 x3 x4 σ = some τ → V G x σ [(0, .ref (zad G 46)), (2, .int x2), (3, .int x3), (4, .int x4)] 5 [] := by
  intro k
  induction k with
  | zero => intro x2 x3 x4 σ  h; cases h
  | succ k ih => intro x2 x3 x4 σ  h; exact b_X3_push_5 O E n  (s_X3_push_5 n  k) ih x2 x3 x4 σ  h
set_option maxRecDepth 20000 in
theorem C_X3_push {l : Launch} {G : zG} {n : Nat} {x1 : Int32} {x2 : Int32} {σ : Sg} {τ : Sg} (h : s_X3_push n x1 x2 σ = some τ) : zM l G 1 yX3_push (.code yX3_push cX3_push 5 none) [.ref (zad G 46), .int x1, .int x2] σ none τ := by
  refine zM_of (by decide) (Nat.le_of_ble_eq_true rfl) (fun x O E => ?_)
  have O : zO G x cX3_push RX3 1 40 5 := O
  unfold s_X3_push at h
  show V G x σ [(0, .ref (zad G 46)), (1, .int x1), (2, .int x2)] 0 []
  refine V_iloadn 0 1 O dX3_push_0 rfl rfl ?_
  refine V_istoren 1 [1, 2, 3, 0] [(0, .ref (zad G 46)), (1, .int x1), (2, .int x2), (3, .int x1)] O dX3_push_1 rfl (Nat.le_of_ble_eq_true rfl) rfl ?_
  refine V_iconst 2 O dX3_push_2 ci_0 ?_
  refine V_istore 3 [1, 2, 3, 4, 0] [(0, .ref (zad G 46)), (1, .int x1), (2, .int x2), (3, .int x1), (4, .int (0 : Int32))] O dX3_push_3 (Nat.le_of_ble_eq_true rfl) rfl ?_
  exact V_sub [0, 2, 3, 4] rfl (bl_X3_push_5 O E n  n x2 x1 (0 : Int32) σ  h)
-- ==== Mains.send(II)I
def s_X3_send_5b (n : Nat) (rc5 : Int32 → Int32 → Int32 → Int32 → Sg → Option (Int32 × Sg)) (x1 : Int32) (x2 : Int32) (x3 : Int32) (x4 : Int32) (σ : Sg) : Option (Int32 × Sg) := if (20000 : Int32) ≤ x4 then (some (x3, σ)) else (if x2 ≤ x3 then (some (x3, σ)) else (bd (s_X3_findWay n x1 σ) fun r2 σ1 => if r2 = 0 then (some (x3, σ1)) else (bd (s_X3_narrowest n x1 σ1) fun r4 σ3 => lt (imin (x2 - x3) r4) fun v5 => bdv (s_X3_push n x1 v5 σ3) fun σ6 => lt (x3 + v5) fun v7 => rc5 x1 x2 v7 (x4 + (1 : Int32)) σ6)))
def s_X3_send_5 (n : Nat) : Nat → Int32 → Int32 → Int32 → Int32 → Sg → Option (Int32 × Sg)
  | 0 => fun _ _ _ _ _ => none
  | k + 1 => s_X3_send_5b n (s_X3_send_5 n k)
def s_X3_send (n : Nat) (x1 : Int32) (x2 : Int32) (σ : Sg) : Option (Int32 × Sg) := s_X3_send_5 n n x1 x2 (0 : Int32) (0 : Int32) σ
set_option maxRecDepth 20000 in
theorem b_X3_send_5 {G : zG} {x : zX} {r : Int32} {τ : Sg} (O : zO G x cX3_send RX3 2 80 6) (E : zE G x (some (.int)) (some (.int r)) τ) (n : Nat) (rc5 : Int32 → Int32 → Int32 → Int32 → Sg → Option (Int32 × Sg)) (H5 : ∀ (x1 : Int32) (x2 : Int32) (x3 : Int32) (x4 : Int32) (σ : Sg), rc5 x1 x2 x3 x4 σ = some (r, τ) → V G x σ [(0, .ref (zad G 46)), (1, .int x1), (2, .int x2), (3, .int x3), (4, .int x4)] 5 []) (x1 : Int32) (x2 : Int32) (x3 : Int32) (x4 : Int32) (σ : Sg) (h : s_X3_send_5b n rc5 x1 x2 x3 x4 σ = some (r, τ)) : V G x σ [(0, .ref (zad G 46)), (1, .int x1), (2, .int x2), (3, .int x3), (4, .int x4)] 5 [] := by
  unfold s_X3_send_5b at h
  refine V_iload 5 4 O dX3_send_5 rfl ?_
  refine V_sipush 7 O dX3_send_7 cs_20000 ?_
  refine V_icmp_ge 10 60 O dX3_send_10 rfl h (fun h => ?_) (fun h => ?_)
  · refine V_iloadn 60 3 O dX3_send_60 rfl rfl ?_
    exact V_iret 61 O E dX3_send_61 h
  · refine V_iloadn 13 3 O dX3_send_13 rfl rfl ?_
    refine V_iloadn 14 2 O dX3_send_14 rfl rfl ?_
    refine V_icmp_ge 15 60 O dX3_send_15 rfl h (fun h => ?_) (fun h => ?_)
    · refine V_iloadn 60 3 O dX3_send_60 rfl rfl ?_
      exact V_iret 61 O E dX3_send_61 h
    · refine V_aloadn 18 0 O dX3_send_18 rfl rfl ?_
      refine V_iloadn 19 1 O dX3_send_19 rfl rfl ?_
      obtain ⟨r2, σ1, g, h⟩ := bd_of h
      refine V_callVi 20 [.int x1] [] O mf_X3_findWay lk_X3_53 k46 dX3_send_20 rfl rfl (Nat.le_of_ble_eq_true rfl) ⟨(Nat.le_of_ble_eq_true rfl), (Nat.le_of_ble_eq_true rfl)⟩ (fun l => C_X3_findWay  g) ?_
      refine V_if_ne 23 29 O dX3_send_23 rfl h (fun h => ?_) (fun h => ?_)
      · refine V_iloadn 29 2 O dX3_send_29 rfl rfl ?_
        refine V_iloadn 30 3 O dX3_send_30 rfl rfl ?_
        refine V_isub 31 O dX3_send_31 ?_
        refine V_aloadn 32 0 O dX3_send_32 rfl rfl ?_
        refine V_iloadn 33 1 O dX3_send_33 rfl rfl ?_
        obtain ⟨r4, σ3, g, h⟩ := bd_of h
        refine V_callVi 34 [.int x1] [.int (x2 - x3)] O mf_X3_narrowest lk_X3_56 k46 dX3_send_34 rfl rfl (Nat.le_of_ble_eq_true rfl) ⟨(Nat.le_of_ble_eq_true rfl), (Nat.le_of_ble_eq_true rfl)⟩ (fun l => C_X3_narrowest  g) ?_
        refine V_min 37 O lk_X3_60 mm_imin.1 mm_imin.2.1 mm_imin.2.2 (Nat.le_of_ble_eq_true rfl) (Nat.le_of_ble_eq_true rfl) dX3_send_37 ?_
        refine V_topi h (fun v5 h => ?_)
        refine V_istore 40 [1, 2, 3, 4, 5, 0] [(0, .ref (zad G 46)), (1, .int x1), (2, .int x2), (3, .int x3), (4, .int x4), (5, .int v5)] O dX3_send_40 (Nat.le_of_ble_eq_true rfl) rfl ?_
        refine V_aloadn 42 0 O dX3_send_42 rfl rfl ?_
        refine V_iloadn 43 1 O dX3_send_43 rfl rfl ?_
        refine V_iload 44 5 O dX3_send_44 rfl ?_
        obtain ⟨σ6, g, h⟩ := bdv_of h
        refine V_callVv 46 [.int x1, .int v5] [] O mf_X3_push lk_X3_66 k46 dX3_send_46 rfl rfl (Nat.le_of_ble_eq_true rfl) ⟨(Nat.le_of_ble_eq_true rfl), (Nat.le_of_ble_eq_true rfl)⟩ (fun l => C_X3_push  g) ?_
        refine V_iloadn 49 3 O dX3_send_49 rfl rfl ?_
        refine V_iload 50 5 O dX3_send_50 rfl ?_
        refine V_iadd 52 O dX3_send_52 ?_
        refine V_topi h (fun v7 h => ?_)
        refine V_istoren 53 [1, 2, 3, 0, 4, 5] [(0, .ref (zad G 46)), (1, .int x1), (2, .int x2), (3, .int v7), (4, .int x4), (5, .int v5)] O dX3_send_53 rfl (Nat.le_of_ble_eq_true rfl) rfl ?_
        refine V_iinc 54 4 [1, 2, 3, 4, 0, 5] [(0, .ref (zad G 46)), (1, .int x1), (2, .int x2), (3, .int v7), (4, .int (x4 + (1 : Int32))), (5, .int v5)] O dX3_send_54 rfl ci_1 (Nat.le_of_ble_eq_true rfl) rfl ?_
        refine V_goto 57 5 O dX3_send_57 rfl ?_
        exact V_sub [0, 1, 2, 3, 4] rfl (H5 x1 x2 v7 (x4 + (1 : Int32)) σ6  h)
      · refine V_goto 26 60 O dX3_send_26 rfl ?_
        refine V_iloadn 60 3 O dX3_send_60 rfl rfl ?_
        exact V_iret 61 O E dX3_send_61 h
theorem bl_X3_send_5 {G : zG} {x : zX} {r : Int32} {τ : Sg} (O : zO G x cX3_send RX3 2 80 6) (E : zE G x (some (.int)) (some (.int r)) τ) (n : Nat) : ∀ (k : Nat) (x1 : Int32) (x2 : Int32) (x3 : Int32) (x4 : Int32) (σ : Sg), s_X3_send_5 n k x1 x2 x3 x4 σ = some (r, τ) → V G x σ [(0, .ref (zad G 46)), (1, .int x1), (2, .int x2), (3, .int x3), (4, .int x4)] 5 [] := by
  intro k
  induction k with
  | zero => intro x1 x2 x3 x4 σ  h; cases h
  | succ k ih => intro x1 x2 x3 x4 σ  h; exact b_X3_send_5 O E n  (s_X3_send_5 n  k) ih x1 x2 x3 x4 σ  h
set_option maxRecDepth 20000 in
theorem C_X3_send {l : Launch} {G : zG} {n : Nat} {x1 : Int32} {x2 : Int32} {σ : Sg} {r : Int32} {τ : Sg} (h : s_X3_send n x1 x2 σ = some (r, τ)) : zM l G 2 yX3_send (.code yX3_send cX3_send 6 (some (.int))) [.ref (zad G 46), .int x1, .int x2] σ (some (.int r)) τ := by
  refine zM_of (by decide) (Nat.le_of_ble_eq_true rfl) (fun x O E => ?_)
  have O : zO G x cX3_send RX3 2 80 6 := O
  unfold s_X3_send at h
  show V G x σ [(0, .ref (zad G 46)), (1, .int x1), (2, .int x2)] 0 []
  refine V_iconst 0 O dX3_send_0 ci_0 ?_
  refine V_istoren 1 [1, 2, 3, 0] [(0, .ref (zad G 46)), (1, .int x1), (2, .int x2), (3, .int (0 : Int32))] O dX3_send_1 rfl (Nat.le_of_ble_eq_true rfl) rfl ?_
  refine V_iconst 2 O dX3_send_2 ci_0 ?_
  refine V_istore 3 [1, 2, 3, 4, 0] [(0, .ref (zad G 46)), (1, .int x1), (2, .int x2), (3, .int (0 : Int32)), (4, .int (0 : Int32))] O dX3_send_3 (Nat.le_of_ble_eq_true rfl) rfl ?_
  exact V_sub [0, 1, 2, 3, 4] rfl (bl_X3_send_5 O E n  n x1 x2 (0 : Int32) (0 : Int32) σ  h)
-- ==== Pipes.has(I)Z
def s_X4_has_16 (n : Nat) (σ : Sg) : Option (Int32 × Sg) := some ((0 : Int32), σ)
def s_X4_has (n : Nat) (x1 : Int32) (σ : Sg) : Option (Int32 × Sg) := if x1 < 0 then (s_X4_has_16 n σ) else (if (σ 3 0) ≤ x1 then (s_X4_has_16 n σ) else (some ((1 : Int32), σ)))
set_option maxRecDepth 20000 in
theorem b_X4_has_16 {G : zG} {x : zX} {r : Int32} {τ : Sg} (O : zO G x cX4_has RX4 0 0 2) (E : zE G x (some (.boolean)) (some (.int r)) τ) (n : Nat) (σ : Sg) (h : s_X4_has_16 n σ = some (r, τ)) : V G x σ [] 16 [] := by
  unfold s_X4_has_16 at h
  refine V_iconst 16 O dX4_has_16 ci_0 ?_
  exact V_zret0 17 O E dX4_has_17 h
set_option maxRecDepth 20000 in
theorem C_X4_has {l : Launch} {G : zG} {n : Nat} {x1 : Int32} {σ : Sg} {r : Int32} {τ : Sg} (h : s_X4_has n x1 σ = some (r, τ)) : zM l G 0 yX4_has (.code yX4_has cX4_has 2 (some (.boolean))) [.ref (zad G 3), .int x1] σ (some (.int r)) τ := by
  refine zM_of (by decide) (Nat.le_of_ble_eq_true rfl) (fun x O E => ?_)
  have O : zO G x cX4_has RX4 0 0 2 := O
  unfold s_X4_has at h
  show V G x σ [(0, .ref (zad G 3)), (1, .int x1)] 0 []
  refine V_iloadn 0 1 O dX4_has_0 rfl rfl ?_
  refine V_if_lt 1 16 O dX4_has_1 rfl h (fun h => ?_) (fun h => ?_)
  · exact V_sub [] rfl (b_X4_has_16 O E n   σ  h)
  · refine V_iloadn 4 1 O dX4_has_4 rfl rfl ?_
    refine V_aloadn 5 0 O dX4_has_5 rfl rfl ?_
    refine V_getI 6 O k3 fl_X4_33 dX4_has_6 ?_
    refine V_icmp_ge 9 16 O dX4_has_9 rfl h (fun h => ?_) (fun h => ?_)
    · exact V_sub [] rfl (b_X4_has_16 O E n   σ  h)
    · refine V_iconst 12 O dX4_has_12 ci_1 ?_
      refine V_goto 13 17 O dX4_has_13 rfl ?_
      exact V_zret1 17 O E dX4_has_17 h
-- ==== Pipes.hasAll(I)Z
def s_X4_hasAll (n : Nat) (x1 : Int32) (σ : Sg) : Option (Int32 × Sg) := if (ush x1 (σ 3 0)) = 0 then (some ((1 : Int32), σ)) else (some ((0 : Int32), σ))
set_option maxRecDepth 20000 in
theorem C_X4_hasAll {l : Launch} {G : zG} {n : Nat} {x1 : Int32} {σ : Sg} {r : Int32} {τ : Sg} (h : s_X4_hasAll n x1 σ = some (r, τ)) : zM l G 0 yX4_hasAll (.code yX4_hasAll cX4_hasAll 2 (some (.boolean))) [.ref (zad G 3), .int x1] σ (some (.int r)) τ := by
  refine zM_of (by decide) (Nat.le_of_ble_eq_true rfl) (fun x O E => ?_)
  have O : zO G x cX4_hasAll RX4 0 0 2 := O
  unfold s_X4_hasAll at h
  show V G x σ [(0, .ref (zad G 3)), (1, .int x1)] 0 []
  refine V_iloadn 0 1 O dX4_hasAll_0 rfl rfl ?_
  refine V_aloadn 1 0 O dX4_hasAll_1 rfl rfl ?_
  refine V_getI 2 O k3 fl_X4_33 dX4_hasAll_2 ?_
  refine V_iushr 5 O dX4_hasAll_5 ?_
  refine V_if_ne 6 13 O dX4_hasAll_6 rfl h (fun h => ?_) (fun h => ?_)
  · refine V_iconst 13 O dX4_hasAll_13 ci_0 ?_
    exact V_zret0 14 O E dX4_hasAll_14 h
  · refine V_iconst 9 O dX4_hasAll_9 ci_1 ?_
    refine V_goto 10 14 O dX4_hasAll_10 rfl ?_
    exact V_zret1 14 O E dX4_hasAll_14 h
-- ==== Pipes.lay(IIII)I
def s_X4_lay (n : Nat) (x1 : Int32) (x2 : Int32) (x3 : Int32) (x4 : Int32) (σ : Sg) : Option (Int32 × Sg) := lt (σ 3 0) fun v1 => ck v1 20 (lt (up2 σ 4 (ix v1) x1) fun σ2 => ck v1 20 (lt (up2 σ2 5 (ix v1) x2) fun σ3 => ck v1 20 (lt (up2 σ3 6 (ix v1) x3) fun σ4 => ck v1 20 (lt (up2 σ4 7 (ix v1) x4) fun σ5 => ck v1 20 (lt (up2 σ5 8 (ix v1) x1) fun σ6 => ck v1 20 (lt (up2 σ6 9 (ix v1) x2) fun σ7 => lt (up2 σ7 3 0 ((σ7 3 0) + (1 : Int32))) fun σ8 => some (v1, σ8)))))))
set_option maxRecDepth 20000 in
theorem C_X4_lay {l : Launch} {G : zG} {n : Nat} {x1 : Int32} {x2 : Int32} {x3 : Int32} {x4 : Int32} {σ : Sg} {r : Int32} {τ : Sg} (h : s_X4_lay n x1 x2 x3 x4 σ = some (r, τ)) : zM l G 0 yX4_lay (.code yX4_lay cX4_lay 6 (some (.int))) [.ref (zad G 3), .int x1, .int x2, .int x3, .int x4] σ (some (.int r)) τ := by
  refine zM_of (by decide) (Nat.le_of_ble_eq_true rfl) (fun x O E => ?_)
  have O : zO G x cX4_lay RX4 0 0 6 := O
  unfold s_X4_lay at h
  show V G x σ [(0, .ref (zad G 3)), (1, .int x1), (2, .int x2), (3, .int x3), (4, .int x4)] 0 []
  refine V_aloadn 0 0 O dX4_lay_0 rfl rfl ?_
  refine V_getI 1 O k3 fl_X4_33 dX4_lay_1 ?_
  refine V_topi h (fun v1 h => ?_)
  refine V_istore 4 [1, 2, 3, 4, 5, 0] [(0, .ref (zad G 3)), (1, .int x1), (2, .int x2), (3, .int x3), (4, .int x4), (5, .int v1)] O dX4_lay_4 (Nat.le_of_ble_eq_true rfl) rfl ?_
  refine V_aloadn 6 0 O dX4_lay_6 rfl rfl ?_
  refine V_getR 7 O k3 fl_X4_9 rf3_2 dX4_lay_7 ?_
  refine V_iload 10 5 O dX4_lay_10 rfl ?_
  refine V_iloadn 12 1 O dX4_lay_12 rfl rfl ?_
  refine V_iast 13 O k4 dX4_lay_13 h (fun σ2 h => ?_)
  refine V_aloadn 14 0 O dX4_lay_14 rfl rfl ?_
  refine V_getR 15 O k3 fl_X4_15 rf3_3 dX4_lay_15 ?_
  refine V_iload 18 5 O dX4_lay_18 rfl ?_
  refine V_iloadn 20 2 O dX4_lay_20 rfl rfl ?_
  refine V_iast 21 O k5 dX4_lay_21 h (fun σ3 h => ?_)
  refine V_aloadn 22 0 O dX4_lay_22 rfl rfl ?_
  refine V_getR 23 O k3 fl_X4_18 rf3_4 dX4_lay_23 ?_
  refine V_iload 26 5 O dX4_lay_26 rfl ?_
  refine V_iloadn 28 3 O dX4_lay_28 rfl rfl ?_
  refine V_iast 29 O k6 dX4_lay_29 h (fun σ4 h => ?_)
  refine V_aloadn 30 0 O dX4_lay_30 rfl rfl ?_
  refine V_getR 31 O k3 fl_X4_21 rf3_5 dX4_lay_31 ?_
  refine V_iload 34 5 O dX4_lay_34 rfl ?_
  refine V_iload 36 4 O dX4_lay_36 rfl ?_
  refine V_iast 38 O k7 dX4_lay_38 h (fun σ5 h => ?_)
  refine V_aloadn 39 0 O dX4_lay_39 rfl rfl ?_
  refine V_getR 40 O k3 fl_X4_24 rf3_6 dX4_lay_40 ?_
  refine V_iload 43 5 O dX4_lay_43 rfl ?_
  refine V_iloadn 45 1 O dX4_lay_45 rfl rfl ?_
  refine V_iast 46 O k8 dX4_lay_46 h (fun σ6 h => ?_)
  refine V_aloadn 47 0 O dX4_lay_47 rfl rfl ?_
  refine V_getR 48 O k3 fl_X4_27 rf3_7 dX4_lay_48 ?_
  refine V_iload 51 5 O dX4_lay_51 rfl ?_
  refine V_iloadn 53 2 O dX4_lay_53 rfl rfl ?_
  refine V_iast 54 O k9 dX4_lay_54 h (fun σ7 h => ?_)
  refine V_aloadn 55 0 O dX4_lay_55 rfl rfl ?_
  refine V_dup 56 O dX4_lay_56 rfl ?_
  refine V_getI 57 O k3 fl_X4_33 dX4_lay_57 ?_
  refine V_iconst 60 O dX4_lay_60 ci_1 ?_
  refine V_iadd 61 O dX4_lay_61 ?_
  refine V_put 62 O k3 fp_X4_33 dX4_lay_62 h (fun σ8 h => ?_)
  refine V_iload 65 5 O dX4_lay_65 rfl ?_
  exact V_iret 67 O E dX4_lay_67 h
-- ==== Pipes.stepOver(III)Z
def s_X4_stepOver (n : Nat) (x1 : Int32) (x2 : Int32) (x3 : Int32) (σ : Sg) : Option (Int32 × Sg) := ck x1 10 (if (σ 10 (ix x1)) = x3 then (ck x2 10 (if (σ 10 (ix x2)) = (-1 : Int32) then (ck x2 10 (lt (up2 σ 10 (ix x2) (x3 + (1 : Int32))) fun σ1 => some ((1 : Int32), σ1))) else (some ((0 : Int32), σ)))) else (some ((0 : Int32), σ)))
set_option maxRecDepth 20000 in
theorem C_X4_stepOver {l : Launch} {G : zG} {n : Nat} {x1 : Int32} {x2 : Int32} {x3 : Int32} {σ : Sg} {r : Int32} {τ : Sg} (h : s_X4_stepOver n x1 x2 x3 σ = some (r, τ)) : zM l G 0 yX4_stepOver (.code yX4_stepOver cX4_stepOver 4 (some (.boolean))) [.ref (zad G 3), .int x1, .int x2, .int x3] σ (some (.int r)) τ := by
  refine zM_of (by decide) (Nat.le_of_ble_eq_true rfl) (fun x O E => ?_)
  have O : zO G x cX4_stepOver RX4 0 0 4 := O
  unfold s_X4_stepOver at h
  show V G x σ [(0, .ref (zad G 3)), (1, .int x1), (2, .int x2), (3, .int x3)] 0 []
  refine V_aloadn 0 0 O dX4_stepOver_0 rfl rfl ?_
  refine V_getR 1 O k3 fl_X4_30 rf3_8 dX4_stepOver_1 ?_
  refine V_iloadn 4 1 O dX4_stepOver_4 rfl rfl ?_
  refine V_iald 5 O k10 dX4_stepOver_5 h (fun h => ?_)
  refine V_iloadn 6 3 O dX4_stepOver_6 rfl rfl ?_
  refine V_icmp_ne 7 20 O dX4_stepOver_7 rfl h (fun h => ?_) (fun h => ?_)
  · refine V_iconst 20 O dX4_stepOver_20 ci_0 ?_
    exact V_zret0 21 O E dX4_stepOver_21 h
  · refine V_aloadn 10 0 O dX4_stepOver_10 rfl rfl ?_
    refine V_getR 11 O k3 fl_X4_30 rf3_8 dX4_stepOver_11 ?_
    refine V_iloadn 14 2 O dX4_stepOver_14 rfl rfl ?_
    refine V_iald 15 O k10 dX4_stepOver_15 h (fun h => ?_)
    refine V_iconst 16 O dX4_stepOver_16 ci_m1 ?_
    refine V_icmp_eq 17 22 O dX4_stepOver_17 rfl h (fun h => ?_) (fun h => ?_)
    · refine V_aloadn 22 0 O dX4_stepOver_22 rfl rfl ?_
      refine V_getR 23 O k3 fl_X4_30 rf3_8 dX4_stepOver_23 ?_
      refine V_iloadn 26 2 O dX4_stepOver_26 rfl rfl ?_
      refine V_iloadn 27 3 O dX4_stepOver_27 rfl rfl ?_
      refine V_iconst 28 O dX4_stepOver_28 ci_1 ?_
      refine V_iadd 29 O dX4_stepOver_29 ?_
      refine V_iast 30 O k10 dX4_stepOver_30 h (fun σ1 h => ?_)
      refine V_iconst 31 O dX4_stepOver_31 ci_1 ?_
      exact V_zret1 32 O E dX4_stepOver_32 h
    · refine V_iconst 20 O dX4_stepOver_20 ci_0 ?_
      exact V_zret0 21 O E dX4_stepOver_21 h
-- ==== Pipes.measure(IZ)V
def s_X4_measure_133 (n : Nat) (rc54 : Int32 → Nat → Nat → Int32 → Int32 → Sg → Option Sg) (rc72 : Int32 → Nat → Nat → Int32 → Int32 → Int32 → Sg → Option Sg) (x1 : Int32) (x3 : Nat) (x4 : Nat) (x6 : Int32) (x7 : Int32) (y0 : Int32) (y1 : Int32) (σ : Sg) : Option Sg := lt (y1 ||| y0) fun v14 => rc72 x1 x3 x4 v14 x6 (x7 + (1 : Int32)) σ
def s_X4_measure_128 (n : Nat) (rc54 : Int32 → Nat → Nat → Int32 → Int32 → Sg → Option Sg) (rc72 : Int32 → Nat → Nat → Int32 → Int32 → Int32 → Sg → Option Sg) (x1 : Int32) (x3 : Nat) (x4 : Nat) (x6 : Int32) (x7 : Int32) (y0 : Int32) (σ : Sg) : Option Sg := s_X4_measure_133 n rc54 rc72 x1 x3 x4 x6 x7 (1 : Int32) y0 σ
def s_X4_measure_72b (n : Nat) (rc54 : Int32 → Nat → Nat → Int32 → Int32 → Sg → Option Sg) (rc72 : Int32 → Nat → Nat → Int32 → Int32 → Int32 → Sg → Option Sg) (x1 : Int32) (x3 : Nat) (x4 : Nat) (x5 : Int32) (x6 : Int32) (x7 : Int32) (σ : Sg) : Option Sg := if (σ 3 0) ≤ x7 then (rc54 x1 x3 x4 x5 (x6 + (1 : Int32)) σ) else (if ((sr x1 x7) &&& (1 : Int32)) = 0 then (ck x7 20 (ck x7 20 (bd (s_X4_stepOver n (σ x3 (ix x7)) (σ x4 (ix x7)) x6 σ) fun r8 σ7 => if r8 = 0 then (ck x7 20 (ck x7 20 (bd (s_X4_stepOver n (σ7 x4 (ix x7)) (σ7 x3 (ix x7)) x6 σ7) fun r10 σ9 => lt (if r10 = 0 then (0 : Int32) else (1 : Int32)) fun v13 => s_X4_measure_133 n rc54 rc72 x1 x3 x4 x6 x7 v13 x5 σ9))) else (s_X4_measure_128 n rc54 rc72 x1 x3 x4 x6 x7 x5 σ7)))) else (rc72 x1 x3 x4 x5 x6 (x7 + (1 : Int32)) σ))
def s_X4_measure_72 (n : Nat) (rc54 : Int32 → Nat → Nat → Int32 → Int32 → Sg → Option Sg) : Nat → Int32 → Nat → Nat → Int32 → Int32 → Int32 → Sg → Option Sg
  | 0 => fun _ _ _ _ _ _ _ => none
  | k + 1 => s_X4_measure_72b n rc54 (s_X4_measure_72 n rc54 k)
def s_X4_measure_54b (n : Nat) (rc54 : Int32 → Nat → Nat → Int32 → Int32 → Sg → Option Sg) (x1 : Int32) (x3 : Nat) (x4 : Nat) (x5 : Int32) (x6 : Int32) (σ : Sg) : Option Sg := if (10 : Int32) ≤ x6 then (some σ) else (if x5 = 0 then (some σ) else (s_X4_measure_72 n rc54 n x1 x3 x4 (0 : Int32) x6 (0 : Int32) σ))
def s_X4_measure_54 (n : Nat) : Nat → Int32 → Nat → Nat → Int32 → Int32 → Sg → Option Sg
  | 0 => fun _ _ _ _ _ _ => none
  | k + 1 => s_X4_measure_54b n (s_X4_measure_54 n k)
def s_X4_measure_31 (n : Nat) (x1 : Int32) (x3 : Nat) (y0 : Nat) (σ : Sg) : Option Sg := bdv (s_J7_fill_53178 n 10 10 (-1 : Int32) σ) fun σ5 => ck (0 : Int32) 10 (lt (up2 σ5 10 (ix (0 : Int32)) (0 : Int32)) fun σ6 => s_X4_measure_54 n n x1 x3 y0 (1 : Int32) (0 : Int32) σ6)
def s_X4_measure_15 (n : Nat) (x1 : Int32) (x2 : Int32) (y0 : Nat) (σ : Sg) : Option Sg := if x2 = 0 then (s_X4_measure_31 n x1 y0 5 σ) else (s_X4_measure_31 n x1 y0 9 σ)
def s_X4_measure (n : Nat) (x1 : Int32) (x2 : Int32) (σ : Sg) : Option Sg := if x2 = 0 then (s_X4_measure_15 n x1 x2 4 σ) else (s_X4_measure_15 n x1 x2 8 σ)
set_option maxRecDepth 20000 in
theorem b_X4_measure_133 {G : zG} {x : zX} {τ : Sg} (O : zO G x cX4_measure RX4 1 40 8) (E : zE G x none none τ) (n : Nat) (rc54 : Int32 → Nat → Nat → Int32 → Int32 → Sg → Option Sg) (H54 : ∀ (x1 : Int32) (x3 : Nat) (x4 : Nat) (x5 : Int32) (x6 : Int32) (σ : Sg), zT[x3]? = some (0, 20) → zT[x4]? = some (0, 20) → rc54 x1 x3 x4 x5 x6 σ = some τ → V G x σ [(0, .ref (zad G 3)), (1, .int x1), (3, .ref (zad G x3)), (4, .ref (zad G x4)), (5, .int x5), (6, .int x6)] 54 []) (rc72 : Int32 → Nat → Nat → Int32 → Int32 → Int32 → Sg → Option Sg) (H72 : ∀ (x1 : Int32) (x3 : Nat) (x4 : Nat) (x5 : Int32) (x6 : Int32) (x7 : Int32) (σ : Sg), zT[x3]? = some (0, 20) → zT[x4]? = some (0, 20) → rc72 x1 x3 x4 x5 x6 x7 σ = some τ → V G x σ [(0, .ref (zad G 3)), (1, .int x1), (3, .ref (zad G x3)), (4, .ref (zad G x4)), (5, .int x5), (6, .int x6), (7, .int x7)] 72 []) (x1 : Int32) (x3 : Nat) (x4 : Nat) (x6 : Int32) (x7 : Int32) (y0 : Int32) (y1 : Int32) (σ : Sg) (hx3 : zT[x3]? = some (0, 20)) (hx4 : zT[x4]? = some (0, 20)) (h : s_X4_measure_133 n rc54 rc72 x1 x3 x4 x6 x7 y0 y1 σ = some τ) : V G x σ [(0, .ref (zad G 3)), (1, .int x1), (3, .ref (zad G x3)), (4, .ref (zad G x4)), (6, .int x6), (7, .int x7)] 133 [.int y0, .int y1] := by
  unfold s_X4_measure_133 at h
  refine V_ior 133 O dX4_measure_133 ?_
  refine V_topi h (fun v14 h => ?_)
  refine V_istore 134 [1, 2, 3, 4, 0, 5, 6] [(0, .ref (zad G 3)), (1, .int x1), (3, .ref (zad G x3)), (4, .ref (zad G x4)), (5, .int v14), (6, .int x6), (7, .int x7)] O dX4_measure_134 (Nat.le_of_ble_eq_true rfl) rfl ?_
  refine V_iinc 136 6 [1, 2, 3, 4, 5, 6, 0] [(0, .ref (zad G 3)), (1, .int x1), (3, .ref (zad G x3)), (4, .ref (zad G x4)), (5, .int v14), (6, .int x6), (7, .int (x7 + (1 : Int32)))] O dX4_measure_136 rfl ci_1 (Nat.le_of_ble_eq_true rfl) rfl ?_
  refine V_goto 139 72 O dX4_measure_139 rfl ?_
  exact V_sub [0, 1, 2, 3, 4, 5, 6] rfl (H72 x1 x3 x4 v14 x6 (x7 + (1 : Int32)) σ hx3 hx4 h)
set_option maxRecDepth 20000 in
theorem b_X4_measure_128 {G : zG} {x : zX} {τ : Sg} (O : zO G x cX4_measure RX4 1 40 8) (E : zE G x none none τ) (n : Nat) (rc54 : Int32 → Nat → Nat → Int32 → Int32 → Sg → Option Sg) (H54 : ∀ (x1 : Int32) (x3 : Nat) (x4 : Nat) (x5 : Int32) (x6 : Int32) (σ : Sg), zT[x3]? = some (0, 20) → zT[x4]? = some (0, 20) → rc54 x1 x3 x4 x5 x6 σ = some τ → V G x σ [(0, .ref (zad G 3)), (1, .int x1), (3, .ref (zad G x3)), (4, .ref (zad G x4)), (5, .int x5), (6, .int x6)] 54 []) (rc72 : Int32 → Nat → Nat → Int32 → Int32 → Int32 → Sg → Option Sg) (H72 : ∀ (x1 : Int32) (x3 : Nat) (x4 : Nat) (x5 : Int32) (x6 : Int32) (x7 : Int32) (σ : Sg), zT[x3]? = some (0, 20) → zT[x4]? = some (0, 20) → rc72 x1 x3 x4 x5 x6 x7 σ = some τ → V G x σ [(0, .ref (zad G 3)), (1, .int x1), (3, .ref (zad G x3)), (4, .ref (zad G x4)), (5, .int x5), (6, .int x6), (7, .int x7)] 72 []) (x1 : Int32) (x3 : Nat) (x4 : Nat) (x6 : Int32) (x7 : Int32) (y0 : Int32) (σ : Sg) (hx3 : zT[x3]? = some (0, 20)) (hx4 : zT[x4]? = some (0, 20)) (h : s_X4_measure_128 n rc54 rc72 x1 x3 x4 x6 x7 y0 σ = some τ) : V G x σ [(0, .ref (zad G 3)), (1, .int x1), (3, .ref (zad G x3)), (4, .ref (zad G x4)), (6, .int x6), (7, .int x7)] 128 [.int y0] := by
  unfold s_X4_measure_128 at h
  refine V_iconst 128 O dX4_measure_128 ci_1 ?_
  refine V_goto 129 133 O dX4_measure_129 rfl ?_
  exact V_sub [0, 1, 2, 3, 4, 5] rfl (b_X4_measure_133 O E n rc54 H54 rc72 H72 x1 x3 x4 x6 x7 (1 : Int32) y0 σ hx3 hx4 h)
set_option maxRecDepth 20000 in
theorem b_X4_measure_72 {G : zG} {x : zX} {τ : Sg} (O : zO G x cX4_measure RX4 1 40 8) (E : zE G x none none τ) (n : Nat) (rc54 : Int32 → Nat → Nat → Int32 → Int32 → Sg → Option Sg) (H54 : ∀ (x1 : Int32) (x3 : Nat) (x4 : Nat) (x5 : Int32) (x6 : Int32) (σ : Sg), zT[x3]? = some (0, 20) → zT[x4]? = some (0, 20) → rc54 x1 x3 x4 x5 x6 σ = some τ → V G x σ [(0, .ref (zad G 3)), (1, .int x1), (3, .ref (zad G x3)), (4, .ref (zad G x4)), (5, .int x5), (6, .int x6)] 54 []) (rc72 : Int32 → Nat → Nat → Int32 → Int32 → Int32 → Sg → Option Sg) (H72 : ∀ (x1 : Int32) (x3 : Nat) (x4 : Nat) (x5 : Int32) (x6 : Int32) (x7 : Int32) (σ : Sg), zT[x3]? = some (0, 20) → zT[x4]? = some (0, 20) → rc72 x1 x3 x4 x5 x6 x7 σ = some τ → V G x σ [(0, .ref (zad G 3)), (1, .int x1), (3, .ref (zad G x3)), (4, .ref (zad G x4)), (5, .int x5), (6, .int x6), (7, .int x7)] 72 []) (x1 : Int32) (x3 : Nat) (x4 : Nat) (x5 : Int32) (x6 : Int32) (x7 : Int32) (σ : Sg) (hx3 : zT[x3]? = some (0, 20)) (hx4 : zT[x4]? = some (0, 20)) (h : s_X4_measure_72b n rc54 rc72 x1 x3 x4 x5 x6 x7 σ = some τ) : V G x σ [(0, .ref (zad G 3)), (1, .int x1), (3, .ref (zad G x3)), (4, .ref (zad G x4)), (5, .int x5), (6, .int x6), (7, .int x7)] 72 [] := by
  unfold s_X4_measure_72b at h
  refine V_iload 72 6 O dX4_measure_72 rfl ?_
  refine V_aloadn 74 0 O dX4_measure_74 rfl rfl ?_
  refine V_getI 75 O k3 fl_X4_33 dX4_measure_75 ?_
  refine V_icmp_ge 78 142 O dX4_measure_78 rfl h (fun h => ?_) (fun h => ?_)
  · refine V_iinc 142 5 [1, 2, 3, 4, 5, 0, 6] [(0, .ref (zad G 3)), (1, .int x1), (3, .ref (zad G x3)), (4, .ref (zad G x4)), (5, .int x5), (6, .int (x6 + (1 : Int32))), (7, .int x7)] O dX4_measure_142 rfl ci_1 (Nat.le_of_ble_eq_true rfl) rfl ?_
    refine V_goto 145 54 O dX4_measure_145 rfl ?_
    exact V_sub [0, 1, 2, 3, 4, 5] rfl (H54 x1 x3 x4 x5 (x6 + (1 : Int32)) σ hx3 hx4 h)
  · refine V_iloadn 81 1 O dX4_measure_81 rfl rfl ?_
    refine V_iload 82 6 O dX4_measure_82 rfl ?_
    refine V_ishr 84 O dX4_measure_84 ?_
    refine V_iconst 85 O dX4_measure_85 ci_1 ?_
    refine V_iand 86 O dX4_measure_86 ?_
    refine V_if_ne 87 136 O dX4_measure_87 rfl h (fun h => ?_) (fun h => ?_)
    · refine V_iinc 136 6 [1, 2, 3, 4, 5, 6, 0] [(0, .ref (zad G 3)), (1, .int x1), (3, .ref (zad G x3)), (4, .ref (zad G x4)), (5, .int x5), (6, .int x6), (7, .int (x7 + (1 : Int32)))] O dX4_measure_136 rfl ci_1 (Nat.le_of_ble_eq_true rfl) rfl ?_
      refine V_goto 139 72 O dX4_measure_139 rfl ?_
      exact V_sub [0, 1, 2, 3, 4, 5, 6] rfl (H72 x1 x3 x4 x5 x6 (x7 + (1 : Int32)) σ hx3 hx4 h)
    · refine V_iload 90 4 O dX4_measure_90 rfl ?_
      refine V_aloadn 92 0 O dX4_measure_92 rfl rfl ?_
      refine V_aloadn 93 2 O dX4_measure_93 rfl rfl ?_
      refine V_iload 94 6 O dX4_measure_94 rfl ?_
      refine V_iald 96 O hx3 dX4_measure_96 h (fun h => ?_)
      refine V_aload 97 3 O dX4_measure_97 rfl ?_
      refine V_iload 99 6 O dX4_measure_99 rfl ?_
      refine V_iald 101 O hx4 dX4_measure_101 h (fun h => ?_)
      refine V_iload 102 5 O dX4_measure_102 rfl ?_
      obtain ⟨r8, σ7, g, h⟩ := bd_of h
      refine V_callVi 104 [.int (σ x3 (ix x7)), .int (σ x4 (ix x7)), .int x6] [.int x5] O mf_X4_stepOver lk_X4_46 k3 dX4_measure_104 rfl rfl (Nat.le_of_ble_eq_true rfl) ⟨(Nat.le_of_ble_eq_true rfl), (Nat.le_of_ble_eq_true rfl)⟩ (fun l => C_X4_stepOver  g) ?_
      refine V_if_ne 107 128 O dX4_measure_107 rfl h (fun h => ?_) (fun h => ?_)
      · exact V_sub [0, 1, 2, 3, 5, 6] rfl (b_X4_measure_128 O E n rc54 H54 rc72 H72 x1 x3 x4 x6 x7 x5 σ7 hx3 hx4 h)
      · refine V_aloadn 110 0 O dX4_measure_110 rfl rfl ?_
        refine V_aload 111 3 O dX4_measure_111 rfl ?_
        refine V_iload 113 6 O dX4_measure_113 rfl ?_
        refine V_iald 115 O hx4 dX4_measure_115 h (fun h => ?_)
        refine V_aloadn 116 2 O dX4_measure_116 rfl rfl ?_
        refine V_iload 117 6 O dX4_measure_117 rfl ?_
        refine V_iald 119 O hx3 dX4_measure_119 h (fun h => ?_)
        refine V_iload 120 5 O dX4_measure_120 rfl ?_
        obtain ⟨r10, σ9, g, h⟩ := bd_of h
        refine V_callVi 122 [.int (σ7 x4 (ix x7)), .int (σ7 x3 (ix x7)), .int x6] [.int x5] O mf_X4_stepOver lk_X4_46 k3 dX4_measure_122 rfl rfl (Nat.le_of_ble_eq_true rfl) ⟨(Nat.le_of_ble_eq_true rfl), (Nat.le_of_ble_eq_true rfl)⟩ (fun l => C_X4_stepOver  g) ?_
        have J11 : V G x σ9 [(0, .ref (zad G 3)), (1, .int x1), (3, .ref (zad G x3)), (4, .ref (zad G x4)), (5, .int x5), (6, .int x6), (7, .int x7)] 133 [.int (if r10 = 0 then (0 : Int32) else (1 : Int32)), .int x5] := by
          refine V_topi h (fun v13 h => ?_)
          exact V_sub [0, 1, 2, 3, 5, 6] rfl (b_X4_measure_133 O E n rc54 H54 rc72 H72 x1 x3 x4 x6 x7 v13 x5 σ9 hx3 hx4 h)
        refine V_if_eqc 125 132 O dX4_measure_125 rfl (fun c12 => ?_) (fun c12 => ?_)
        · refine V_iconst 132 O dX4_measure_132 ci_0 ?_
          exact V_top (by rw [if_pos c12]) J11
        · refine V_iconst 128 O dX4_measure_128 ci_1 ?_
          refine V_goto 129 133 O dX4_measure_129 rfl ?_
          exact V_top (by rw [if_neg c12]) J11
theorem bl_X4_measure_72 {G : zG} {x : zX} {τ : Sg} (O : zO G x cX4_measure RX4 1 40 8) (E : zE G x none none τ) (n : Nat) (rc54 : Int32 → Nat → Nat → Int32 → Int32 → Sg → Option Sg) (H54 : ∀ (x1 : Int32) (x3 : Nat) (x4 : Nat) (x5 : Int32) (x6 : Int32) (σ : Sg), zT[x3]? = some (0, 20) → zT[x4]? = some (0, 20) → rc54 x1 x3 x4 x5 x6 σ = some τ → V G x σ [(0, .ref (zad G 3)), (1, .int x1), (3, .ref (zad G x3)), (4, .ref (zad G x4)), (5, .int x5), (6, .int x6)] 54 []) : ∀ (k : Nat) (x1 : Int32) (x3 : Nat) (x4 : Nat) (x5 : Int32) (x6 : Int32) (x7 : Int32) (σ : Sg), zT[x3]? = some (0, 20) → zT[x4]? = some (0, 20) → s_X4_measure_72 n rc54 k x1 x3 x4 x5 x6 x7 σ = some τ → V G x σ [(0, .ref (zad G 3)), (1, .int x1), (3, .ref (zad G x3)), (4, .ref (zad G x4)), (5, .int x5), (6, .int x6), (7, .int x7)] 72 [] := by
  intro k
  induction k with
  | zero => intro x1 x3 x4 x5 x6 x7 σ hx3 hx4 h; cases h
  | succ k ih => intro x1 x3 x4 x5 x6 x7 σ hx3 hx4 h; exact b_X4_measure_72 O E n rc54 H54 (s_X4_measure_72 n rc54 k) ih x1 x3 x4 x5 x6 x7 σ hx3 hx4 h
set_option maxRecDepth 20000 in
theorem b_X4_measure_54 {G : zG} {x : zX} {τ : Sg} (O : zO G x cX4_measure RX4 1 40 8) (E : zE G x none none τ) (n : Nat) (rc54 : Int32 → Nat → Nat → Int32 → Int32 → Sg → Option Sg) (H54 : ∀ (x1 : Int32) (x3 : Nat) (x4 : Nat) (x5 : Int32) (x6 : Int32) (σ : Sg), zT[x3]? = some (0, 20) → zT[x4]? = some (0, 20) → rc54 x1 x3 x4 x5 x6 σ = some τ → V G x σ [(0, .ref (zad G 3)), (1, .int x1), (3, .ref (zad G x3)), (4, .ref (zad G x4)), (5, .int x5), (6, .int x6)] 54 []) (x1 : Int32) (x3 : Nat) (x4 : Nat) (x5 : Int32) (x6 : Int32) (σ : Sg) (hx3 : zT[x3]? = some (0, 20)) (hx4 : zT[x4]? = some (0, 20)) (h : s_X4_measure_54b n rc54 x1 x3 x4 x5 x6 σ = some τ) : V G x σ [(0, .ref (zad G 3)), (1, .int x1), (3, .ref (zad G x3)), (4, .ref (zad G x4)), (5, .int x5), (6, .int x6)] 54 [] := by
  unfold s_X4_measure_54b at h
  refine V_iload 54 5 O dX4_measure_54 rfl ?_
  refine V_bipush 56 O dX4_measure_56 cb_10 ?_
  refine V_icmp_ge 58 148 O dX4_measure_58 rfl h (fun h => ?_) (fun h => ?_)
  · exact V_vret 148 O E dX4_measure_148 h
  · refine V_iload 61 4 O dX4_measure_61 rfl ?_
    refine V_if_eq 63 148 O dX4_measure_63 rfl h (fun h => ?_) (fun h => ?_)
    · exact V_vret 148 O E dX4_measure_148 h
    · refine V_iconst 66 O dX4_measure_66 ci_0 ?_
      refine V_istore 67 [1, 2, 3, 4, 0, 5] [(0, .ref (zad G 3)), (1, .int x1), (3, .ref (zad G x3)), (4, .ref (zad G x4)), (5, .int (0 : Int32)), (6, .int x6)] O dX4_measure_67 (Nat.le_of_ble_eq_true rfl) rfl ?_
      refine V_iconst 69 O dX4_measure_69 ci_0 ?_
      refine V_istore 70 [1, 2, 3, 4, 5, 6, 0] [(0, .ref (zad G 3)), (1, .int x1), (3, .ref (zad G x3)), (4, .ref (zad G x4)), (5, .int (0 : Int32)), (6, .int x6), (7, .int (0 : Int32))] O dX4_measure_70 (Nat.le_of_ble_eq_true rfl) rfl ?_
      exact V_sub [0, 1, 2, 3, 4, 5, 6] rfl (bl_X4_measure_72 O E n rc54 H54 n x1 x3 x4 (0 : Int32) x6 (0 : Int32) σ hx3 hx4 h)
theorem bl_X4_measure_54 {G : zG} {x : zX} {τ : Sg} (O : zO G x cX4_measure RX4 1 40 8) (E : zE G x none none τ) (n : Nat) : ∀ (k : Nat) (x1 : Int32) (x3 : Nat) (x4 : Nat) (x5 : Int32) (x6 : Int32) (σ : Sg), zT[x3]? = some (0, 20) → zT[x4]? = some (0, 20) → s_X4_measure_54 n k x1 x3 x4 x5 x6 σ = some τ → V G x σ [(0, .ref (zad G 3)), (1, .int x1), (3, .ref (zad G x3)), (4, .ref (zad G x4)), (5, .int x5), (6, .int x6)] 54 [] := by
  intro k
  induction k with
  | zero => intro x1 x3 x4 x5 x6 σ hx3 hx4 h; cases h
  | succ k ih => intro x1 x3 x4 x5 x6 σ hx3 hx4 h; exact b_X4_measure_54 O E n  (s_X4_measure_54 n  k) ih x1 x3 x4 x5 x6 σ hx3 hx4 h
set_option maxRecDepth 20000 in
theorem b_X4_measure_31 {G : zG} {x : zX} {τ : Sg} (O : zO G x cX4_measure RX4 1 40 8) (E : zE G x none none τ) (n : Nat) (x1 : Int32) (x3 : Nat) (y0 : Nat) (σ : Sg) (hx3 : zT[x3]? = some (0, 20)) (hy0 : zT[y0]? = some (0, 20)) (h : s_X4_measure_31 n x1 x3 y0 σ = some τ) : V G x σ [(0, .ref (zad G 3)), (1, .int x1), (3, .ref (zad G x3))] 31 [.ref (zad G y0)] := by
  unfold s_X4_measure_31 at h
  refine V_astore 31 [1, 2, 3, 0] [(0, .ref (zad G 3)), (1, .int x1), (3, .ref (zad G x3)), (4, .ref (zad G y0))] O dX4_measure_31 (Nat.le_of_ble_eq_true rfl) rfl ?_
  refine V_aloadn 33 0 O dX4_measure_33 rfl rfl ?_
  refine V_getR 34 O k3 fl_X4_30 rf3_8 dX4_measure_34 ?_
  refine V_iconst 37 O dX4_measure_37 ci_m1 ?_
  obtain ⟨σ5, g, h⟩ := bdv_of h
  refine V_callSv 38 [.ref (zad G 10), .int (-1 : Int32)] [] O mf_J7_fill_53178 lk_X4_40 dX4_measure_38 rfl rfl (Nat.le_of_ble_eq_true rfl) ⟨(Nat.le_of_ble_eq_true rfl), (Nat.le_of_ble_eq_true rfl)⟩ (fun l => C_J7_fill_53178 k10 g) ?_
  refine V_aloadn 41 0 O dX4_measure_41 rfl rfl ?_
  refine V_getR 42 O k3 fl_X4_30 rf3_8 dX4_measure_42 ?_
  refine V_iconst 45 O dX4_measure_45 ci_0 ?_
  refine V_iconst 46 O dX4_measure_46 ci_0 ?_
  refine V_iast 47 O k10 dX4_measure_47 h (fun σ6 h => ?_)
  refine V_iconst 48 O dX4_measure_48 ci_1 ?_
  refine V_istore 49 [1, 2, 3, 4, 0] [(0, .ref (zad G 3)), (1, .int x1), (3, .ref (zad G x3)), (4, .ref (zad G y0)), (5, .int (1 : Int32))] O dX4_measure_49 (Nat.le_of_ble_eq_true rfl) rfl ?_
  refine V_iconst 51 O dX4_measure_51 ci_0 ?_
  refine V_istore 52 [1, 2, 3, 4, 5, 0] [(0, .ref (zad G 3)), (1, .int x1), (3, .ref (zad G x3)), (4, .ref (zad G y0)), (5, .int (1 : Int32)), (6, .int (0 : Int32))] O dX4_measure_52 (Nat.le_of_ble_eq_true rfl) rfl ?_
  exact V_sub [0, 1, 2, 3, 4, 5] rfl (bl_X4_measure_54 O E n  n x1 x3 y0 (1 : Int32) (0 : Int32) σ6 hx3 hy0 h)
set_option maxRecDepth 20000 in
theorem b_X4_measure_15 {G : zG} {x : zX} {τ : Sg} (O : zO G x cX4_measure RX4 1 40 8) (E : zE G x none none τ) (n : Nat) (x1 : Int32) (x2 : Int32) (y0 : Nat) (σ : Sg) (hy0 : zT[y0]? = some (0, 20)) (h : s_X4_measure_15 n x1 x2 y0 σ = some τ) : V G x σ [(0, .ref (zad G 3)), (1, .int x1), (2, .int x2)] 15 [.ref (zad G y0)] := by
  unfold s_X4_measure_15 at h
  refine V_astoren 15 [1, 2, 3, 0] [(0, .ref (zad G 3)), (1, .int x1), (2, .int x2), (3, .ref (zad G y0))] O dX4_measure_15 rfl (Nat.le_of_ble_eq_true rfl) rfl ?_
  refine V_iloadn 16 2 O dX4_measure_16 rfl rfl ?_
  refine V_if_eq 17 27 O dX4_measure_17 rfl h (fun h => ?_) (fun h => ?_)
  · refine V_aloadn 27 0 O dX4_measure_27 rfl rfl ?_
    refine V_getR 28 O k3 fl_X4_15 rf3_3 dX4_measure_28 ?_
    exact V_sub [0, 1, 3] rfl (b_X4_measure_31 O E n  x1 y0 5 σ hy0 k5 h)
  · refine V_aloadn 20 0 O dX4_measure_20 rfl rfl ?_
    refine V_getR 21 O k3 fl_X4_27 rf3_7 dX4_measure_21 ?_
    refine V_goto 24 31 O dX4_measure_24 rfl ?_
    exact V_sub [0, 1, 3] rfl (b_X4_measure_31 O E n  x1 y0 9 σ hy0 k9 h)
set_option maxRecDepth 20000 in
theorem C_X4_measure {l : Launch} {G : zG} {n : Nat} {x1 : Int32} {x2 : Int32} {σ : Sg} {τ : Sg} (h : s_X4_measure n x1 x2 σ = some τ) : zM l G 1 yX4_measure (.code yX4_measure cX4_measure 8 none) [.ref (zad G 3), .int x1, .int x2] σ none τ := by
  refine zM_of (by decide) (Nat.le_of_ble_eq_true rfl) (fun x O E => ?_)
  have O : zO G x cX4_measure RX4 1 40 8 := O
  unfold s_X4_measure at h
  show V G x σ [(0, .ref (zad G 3)), (1, .int x1), (2, .int x2)] 0 []
  refine V_iloadn 0 2 O dX4_measure_0 rfl rfl ?_
  refine V_if_eq 1 11 O dX4_measure_1 rfl h (fun h => ?_) (fun h => ?_)
  · refine V_aloadn 11 0 O dX4_measure_11 rfl rfl ?_
    refine V_getR 12 O k3 fl_X4_9 rf3_2 dX4_measure_12 ?_
    exact V_sub [0, 1, 2] rfl (b_X4_measure_15 O E n  x1 x2 4 σ k4 h)
  · refine V_aloadn 4 0 O dX4_measure_4 rfl rfl ?_
    refine V_getR 5 O k3 fl_X4_24 rf3_6 dX4_measure_5 ?_
    refine V_goto 8 15 O dX4_measure_8 rfl ?_
    exact V_sub [0, 1, 2] rfl (b_X4_measure_15 O E n  x1 x2 8 σ k8 h)
-- ==== Pipes.joined(IZ)I
def s_X4_joined_11b (n : Nat) (rc11 : Int32 → Int32 → Sg → Option (Int32 × Sg)) (x3 : Int32) (x4 : Int32) (σ : Sg) : Option (Int32 × Sg) := if (10 : Int32) ≤ x4 then (some (x3, σ)) else (ck x4 10 (if (σ 10 (ix x4)) = (-1 : Int32) then (rc11 x3 (x4 + (1 : Int32)) σ) else (lt (x3 ||| (sl (1 : Int32) x4)) fun v2 => rc11 v2 (x4 + (1 : Int32)) σ)))
def s_X4_joined_11 (n : Nat) : Nat → Int32 → Int32 → Sg → Option (Int32 × Sg)
  | 0 => fun _ _ _ => none
  | k + 1 => s_X4_joined_11b n (s_X4_joined_11 n k)
def s_X4_joined (n : Nat) (x1 : Int32) (x2 : Int32) (σ : Sg) : Option (Int32 × Sg) := bdv (s_X4_measure n x1 x2 σ) fun σ1 => s_X4_joined_11 n n (0 : Int32) (0 : Int32) σ1
set_option maxRecDepth 20000 in
theorem b_X4_joined_11 {G : zG} {x : zX} {r : Int32} {τ : Sg} (O : zO G x cX4_joined RX4 2 80 5) (E : zE G x (some (.int)) (some (.int r)) τ) (n : Nat) (rc11 : Int32 → Int32 → Sg → Option (Int32 × Sg)) (H11 : ∀ (x3 : Int32) (x4 : Int32) (σ : Sg), rc11 x3 x4 σ = some (r, τ) → V G x σ [(0, .ref (zad G 3)), (3, .int x3), (4, .int x4)] 11 []) (x3 : Int32) (x4 : Int32) (σ : Sg) (h : s_X4_joined_11b n rc11 x3 x4 σ = some (r, τ)) : V G x σ [(0, .ref (zad G 3)), (3, .int x3), (4, .int x4)] 11 [] := by
  unfold s_X4_joined_11b at h
  refine V_iload 11 2 O dX4_joined_11 rfl ?_
  refine V_bipush 13 O dX4_joined_13 cb_10 ?_
  refine V_icmp_ge 15 42 O dX4_joined_15 rfl h (fun h => ?_) (fun h => ?_)
  · refine V_iloadn 42 1 O dX4_joined_42 rfl rfl ?_
    exact V_iret 43 O E dX4_joined_43 h
  · refine V_aloadn 18 0 O dX4_joined_18 rfl rfl ?_
    refine V_getR 19 O k3 fl_X4_30 rf3_8 dX4_joined_19 ?_
    refine V_iload 22 2 O dX4_joined_22 rfl ?_
    refine V_iald 24 O k10 dX4_joined_24 h (fun h => ?_)
    refine V_iconst 25 O dX4_joined_25 ci_m1 ?_
    refine V_icmp_eq 26 36 O dX4_joined_26 rfl h (fun h => ?_) (fun h => ?_)
    · refine V_iinc 36 2 [1, 2, 0] [(0, .ref (zad G 3)), (3, .int x3), (4, .int (x4 + (1 : Int32)))] O dX4_joined_36 rfl ci_1 (Nat.le_of_ble_eq_true rfl) rfl ?_
      refine V_goto 39 11 O dX4_joined_39 rfl ?_
      exact V_sub [0, 1, 2] rfl (H11 x3 (x4 + (1 : Int32)) σ  h)
    · refine V_iloadn 29 1 O dX4_joined_29 rfl rfl ?_
      refine V_iconst 30 O dX4_joined_30 ci_1 ?_
      refine V_iload 31 2 O dX4_joined_31 rfl ?_
      refine V_ishl 33 O dX4_joined_33 ?_
      refine V_ior 34 O dX4_joined_34 ?_
      refine V_topi h (fun v2 h => ?_)
      refine V_istoren 35 [1, 0, 2] [(0, .ref (zad G 3)), (3, .int v2), (4, .int x4)] O dX4_joined_35 rfl (Nat.le_of_ble_eq_true rfl) rfl ?_
      refine V_iinc 36 2 [1, 2, 0] [(0, .ref (zad G 3)), (3, .int v2), (4, .int (x4 + (1 : Int32)))] O dX4_joined_36 rfl ci_1 (Nat.le_of_ble_eq_true rfl) rfl ?_
      refine V_goto 39 11 O dX4_joined_39 rfl ?_
      exact V_sub [0, 1, 2] rfl (H11 v2 (x4 + (1 : Int32)) σ  h)
theorem bl_X4_joined_11 {G : zG} {x : zX} {r : Int32} {τ : Sg} (O : zO G x cX4_joined RX4 2 80 5) (E : zE G x (some (.int)) (some (.int r)) τ) (n : Nat) : ∀ (k : Nat) (x3 : Int32) (x4 : Int32) (σ : Sg), s_X4_joined_11 n k x3 x4 σ = some (r, τ) → V G x σ [(0, .ref (zad G 3)), (3, .int x3), (4, .int x4)] 11 [] := by
  intro k
  induction k with
  | zero => intro x3 x4 σ  h; cases h
  | succ k ih => intro x3 x4 σ  h; exact b_X4_joined_11 O E n  (s_X4_joined_11 n  k) ih x3 x4 σ  h
set_option maxRecDepth 20000 in
theorem C_X4_joined {l : Launch} {G : zG} {n : Nat} {x1 : Int32} {x2 : Int32} {σ : Sg} {r : Int32} {τ : Sg} (h : s_X4_joined n x1 x2 σ = some (r, τ)) : zM l G 2 yX4_joined (.code yX4_joined cX4_joined 5 (some (.int))) [.ref (zad G 3), .int x1, .int x2] σ (some (.int r)) τ := by
  refine zM_of (by decide) (Nat.le_of_ble_eq_true rfl) (fun x O E => ?_)
  have O : zO G x cX4_joined RX4 2 80 5 := O
  unfold s_X4_joined at h
  show V G x σ [(0, .ref (zad G 3)), (1, .int x1), (2, .int x2)] 0 []
  refine V_aloadn 0 0 O dX4_joined_0 rfl rfl ?_
  refine V_iloadn 1 1 O dX4_joined_1 rfl rfl ?_
  refine V_iloadn 2 2 O dX4_joined_2 rfl rfl ?_
  obtain ⟨σ1, g, h⟩ := bdv_of h
  refine V_callVv 3 [.int x1, .int x2] [] O mf_X4_measure lk_X4_50 k3 dX4_joined_3 rfl rfl (Nat.le_of_ble_eq_true rfl) ⟨(Nat.le_of_ble_eq_true rfl), (Nat.le_of_ble_eq_true rfl)⟩ (fun l => C_X4_measure  g) ?_
  refine V_iconst 6 O dX4_joined_6 ci_0 ?_
  refine V_istoren 7 [1, 2, 3, 0] [(0, .ref (zad G 3)), (1, .int x1), (2, .int x2), (3, .int (0 : Int32))] O dX4_joined_7 rfl (Nat.le_of_ble_eq_true rfl) rfl ?_
  refine V_iconst 8 O dX4_joined_8 ci_0 ?_
  refine V_istore 9 [1, 2, 3, 4, 0] [(0, .ref (zad G 3)), (1, .int x1), (2, .int x2), (3, .int (0 : Int32)), (4, .int (0 : Int32))] O dX4_joined_9 (Nat.le_of_ble_eq_true rfl) rfl ?_
  exact V_sub [0, 3, 4] rfl (bl_X4_joined_11 O E n  n (0 : Int32) (0 : Int32) σ1  h)
-- ==== Reader.put(I)V
def s_X5_put (n : Nat) (x1 : Int32) (σ : Sg) : Option Sg := if (160 : Int32) ≤ (σ 25 0) then (some σ) else (ck (σ 25 0) 160 (lt (up2 σ 26 (ix (σ 25 0)) x1) fun σ1 => lt (up2 σ1 25 0 ((σ1 25 0) + (1 : Int32))) fun σ2 => some σ2))
set_option maxRecDepth 20000 in
theorem C_X5_put {l : Launch} {G : zG} {n : Nat} {x1 : Int32} {σ : Sg} {τ : Sg} (h : s_X5_put n x1 σ = some τ) : zM l G 0 yX5_put (.code yX5_put cX5_put 2 none) [.ref (zad G 25), .int x1] σ none τ := by
  refine zM_of (by decide) (Nat.le_of_ble_eq_true rfl) (fun x O E => ?_)
  have O : zO G x cX5_put RX5 0 0 2 := O
  unfold s_X5_put at h
  show V G x σ [(0, .ref (zad G 25)), (1, .int x1)] 0 []
  refine V_aloadn 0 0 O dX5_put_0 rfl rfl ?_
  refine V_getI 1 O k25 fl_X5_19 dX5_put_1 ?_
  refine V_sipush 4 O dX5_put_4 cs_160 ?_
  refine V_icmp_ge 7 30 O dX5_put_7 rfl h (fun h => ?_) (fun h => ?_)
  · exact V_vret 30 O E dX5_put_30 h
  · refine V_aloadn 10 0 O dX5_put_10 rfl rfl ?_
    refine V_getR 11 O k25 fl_X5_15 rf25_2 dX5_put_11 ?_
    refine V_aloadn 14 0 O dX5_put_14 rfl rfl ?_
    refine V_getI 15 O k25 fl_X5_19 dX5_put_15 ?_
    refine V_iloadn 18 1 O dX5_put_18 rfl rfl ?_
    refine V_iast 19 O k26 dX5_put_19 h (fun σ1 h => ?_)
    refine V_aloadn 20 0 O dX5_put_20 rfl rfl ?_
    refine V_dup 21 O dX5_put_21 rfl ?_
    refine V_getI 22 O k25 fl_X5_19 dX5_put_22 ?_
    refine V_iconst 25 O dX5_put_25 ci_1 ?_
    refine V_iadd 26 O dX5_put_26 ?_
    refine V_put 27 O k25 fp_X5_19 dX5_put_27 h (fun σ2 h => ?_)
    exact V_vret 30 O E dX5_put_30 h
-- ==== Reader.kindOf(I)I
def s_X5_kindOf_28 (n : Nat) (x0 : Int32) (σ : Sg) : Option (Int32 × Sg) := if x0 = (44 : Int32) then (some ((3 : Int32), σ)) else (if x0 = (59 : Int32) then (some ((4 : Int32), σ)) else (some ((5 : Int32), σ)))
def s_X5_kindOf_14 (n : Nat) (x0 : Int32) (σ : Sg) : Option (Int32 × Sg) := if x0 < (48 : Int32) then (s_X5_kindOf_28 n x0 σ) else (if (57 : Int32) < x0 then (s_X5_kindOf_28 n x0 σ) else (some ((2 : Int32), σ)))
def s_X5_kindOf (n : Nat) (x0 : Int32) (σ : Sg) : Option (Int32 × Sg) := if x0 < (97 : Int32) then (s_X5_kindOf_14 n x0 σ) else (if (122 : Int32) < x0 then (s_X5_kindOf_14 n x0 σ) else (some ((1 : Int32), σ)))
set_option maxRecDepth 20000 in
theorem b_X5_kindOf_28 {G : zG} {x : zX} {r : Int32} {τ : Sg} (O : zO G x cX5_kindOf RX5 0 0 1) (E : zE G x (some (.int)) (some (.int r)) τ) (n : Nat) (x0 : Int32) (σ : Sg) (h : s_X5_kindOf_28 n x0 σ = some (r, τ)) : V G x σ [(0, .int x0)] 28 [] := by
  unfold s_X5_kindOf_28 at h
  refine V_iloadn 28 0 O dX5_kindOf_28 rfl rfl ?_
  refine V_bipush 29 O dX5_kindOf_29 cb_44 ?_
  refine V_icmp_ne 31 38 O dX5_kindOf_31 rfl h (fun h => ?_) (fun h => ?_)
  · refine V_iloadn 38 0 O dX5_kindOf_38 rfl rfl ?_
    refine V_bipush 39 O dX5_kindOf_39 cb_59 ?_
    refine V_icmp_ne 41 48 O dX5_kindOf_41 rfl h (fun h => ?_) (fun h => ?_)
    · refine V_iconst 48 O dX5_kindOf_48 ci_5 ?_
      exact V_iret 49 O E dX5_kindOf_49 h
    · refine V_iconst 44 O dX5_kindOf_44 ci_4 ?_
      refine V_goto 45 49 O dX5_kindOf_45 rfl ?_
      exact V_iret 49 O E dX5_kindOf_49 h
  · refine V_iconst 34 O dX5_kindOf_34 ci_3 ?_
    refine V_goto 35 49 O dX5_kindOf_35 rfl ?_
    exact V_iret 49 O E dX5_kindOf_49 h
set_option maxRecDepth 20000 in
theorem b_X5_kindOf_14 {G : zG} {x : zX} {r : Int32} {τ : Sg} (O : zO G x cX5_kindOf RX5 0 0 1) (E : zE G x (some (.int)) (some (.int r)) τ) (n : Nat) (x0 : Int32) (σ : Sg) (h : s_X5_kindOf_14 n x0 σ = some (r, τ)) : V G x σ [(0, .int x0)] 14 [] := by
  unfold s_X5_kindOf_14 at h
  refine V_iloadn 14 0 O dX5_kindOf_14 rfl rfl ?_
  refine V_bipush 15 O dX5_kindOf_15 cb_48 ?_
  refine V_icmp_lt 17 28 O dX5_kindOf_17 rfl h (fun h => ?_) (fun h => ?_)
  · exact V_sub [0] rfl (b_X5_kindOf_28 O E n  x0 σ  h)
  · refine V_iloadn 20 0 O dX5_kindOf_20 rfl rfl ?_
    refine V_bipush 21 O dX5_kindOf_21 cb_57 ?_
    refine V_icmp_gt 23 28 O dX5_kindOf_23 rfl h (fun h => ?_) (fun h => ?_)
    · exact V_sub [0] rfl (b_X5_kindOf_28 O E n  x0 σ  h)
    · refine V_iconst 26 O dX5_kindOf_26 ci_2 ?_
      exact V_iret 27 O E dX5_kindOf_27 h
set_option maxRecDepth 20000 in
theorem C_X5_kindOf {l : Launch} {G : zG} {n : Nat} {x0 : Int32} {σ : Sg} {r : Int32} {τ : Sg} (h : s_X5_kindOf n x0 σ = some (r, τ)) : zM l G 0 yX5_kindOf (.code yX5_kindOf cX5_kindOf 1 (some (.int))) [.int x0] σ (some (.int r)) τ := by
  refine zM_of (by decide) (Nat.le_of_ble_eq_true rfl) (fun x O E => ?_)
  have O : zO G x cX5_kindOf RX5 0 0 1 := O
  unfold s_X5_kindOf at h
  show V G x σ [(0, .int x0)] 0 []
  refine V_iloadn 0 0 O dX5_kindOf_0 rfl rfl ?_
  refine V_bipush 1 O dX5_kindOf_1 cb_97 ?_
  refine V_icmp_lt 3 14 O dX5_kindOf_3 rfl h (fun h => ?_) (fun h => ?_)
  · exact V_sub [0] rfl (b_X5_kindOf_14 O E n  x0 σ  h)
  · refine V_iloadn 6 0 O dX5_kindOf_6 rfl rfl ?_
    refine V_bipush 7 O dX5_kindOf_7 cb_122 ?_
    refine V_icmp_gt 9 14 O dX5_kindOf_9 rfl h (fun h => ?_) (fun h => ?_)
    · exact V_sub [0] rfl (b_X5_kindOf_14 O E n  x0 σ  h)
    · refine V_iconst 12 O dX5_kindOf_12 ci_1 ?_
      exact V_iret 13 O E dX5_kindOf_13 h
