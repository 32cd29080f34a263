-- ==== Stand.hasCisterns(LWaterTown$Stand;)Z
def s_X7_hasCisterns_2b (n : Nat) (rc2 : Nat → Nat → Int32 → Sg → Option (Int32 × Sg)) (x0 : Nat) (x1 : Nat) (x2 : Int32) (σ : Sg) : Option (Int32 × Sg) := if (10 : Int32) ≤ x2 then (some ((1 : Int32), σ)) else (ck x2 10 (ck x2 10 (if (σ (rf x0 1) (ix x2)) = (σ (rf x1 1) (ix x2)) then (rc2 x0 x1 (x2 + (1 : Int32)) σ) else (some ((0 : Int32), σ)))))
def s_X7_hasCisterns_2 (n : Nat) : Nat → Nat → Nat → Int32 → Sg → Option (Int32 × Sg)
  | 0 => fun _ _ _ _ => none
  | k + 1 => s_X7_hasCisterns_2b n (s_X7_hasCisterns_2 n k)
def s_X7_hasCisterns (n : Nat) (x0 : Nat) (x1 : Nat) (σ : Sg) : Option (Int32 × Sg) := s_X7_hasCisterns_2 n n x0 x1 (0 : Int32) σ
set_option maxRecDepth 20000 in
theorem b_X7_hasCisterns_2 {G : zG} {x : zX} {r : Int32} {τ : Sg} (O : zO G x cX7_hasCisterns RX7 0 0 3) (E : zE G x (some (.boolean)) (some (.int r)) τ) (n : Nat) (rc2 : Nat → Nat → Int32 → Sg → Option (Int32 × Sg)) (H2 : ∀ (x0 : Nat) (x1 : Nat) (x2 : Int32) (σ : Sg), zStand x0 → zStand x1 → rc2 x0 x1 x2 σ = some (r, τ) → V G x σ [(0, .ref (zad G x0)), (1, .ref (zad G x1)), (2, .int x2)] 2 []) (x0 : Nat) (x1 : Nat) (x2 : Int32) (σ : Sg) (hx0 : zStand x0) (hx1 : zStand x1) (h : s_X7_hasCisterns_2b n rc2 x0 x1 x2 σ = some (r, τ)) : V G x σ [(0, .ref (zad G x0)), (1, .ref (zad G x1)), (2, .int x2)] 2 [] := by
  unfold s_X7_hasCisterns_2b at h
  refine V_iloadn 2 2 O dX7_hasCisterns_2 rfl rfl ?_
  refine V_bipush 3 O dX7_hasCisterns_3 cb_10 ?_
  refine V_icmp_ge 5 31 O dX7_hasCisterns_5 rfl h (fun h => ?_) (fun h => ?_)
  · refine V_iconst 31 O dX7_hasCisterns_31 ci_1 ?_
    exact V_zret1 32 O E dX7_hasCisterns_32 h
  · refine V_aloadn 8 0 O dX7_hasCisterns_8 rfl rfl ?_
    refine V_getR 9 O (zStand_k hx0) fl_X7_15 rfl dX7_hasCisterns_9 ?_
    refine V_iloadn 12 2 O dX7_hasCisterns_12 rfl rfl ?_
    refine V_iald 13 O (zStand_1 hx0) dX7_hasCisterns_13 h (fun h => ?_)
    refine V_aloadn 14 1 O dX7_hasCisterns_14 rfl rfl ?_
    refine V_getR 15 O (zStand_k hx1) fl_X7_15 rfl dX7_hasCisterns_15 ?_
    refine V_iloadn 18 2 O dX7_hasCisterns_18 rfl rfl ?_
    refine V_iald 19 O (zStand_1 hx1) dX7_hasCisterns_19 h (fun h => ?_)
    refine V_icmp_eq 20 25 O dX7_hasCisterns_20 rfl h (fun h => ?_) (fun h => ?_)
    · refine V_iinc 25 2 [1, 2, 0] [(0, .ref (zad G x0)), (1, .ref (zad G x1)), (2, .int (x2 + (1 : Int32)))] O dX7_hasCisterns_25 rfl ci_1 (Nat.le_of_ble_eq_true rfl) rfl ?_
      refine V_goto 28 2 O dX7_hasCisterns_28 rfl ?_
      exact V_sub [0, 1, 2] rfl (H2 x0 x1 (x2 + (1 : Int32)) σ hx0 hx1 h)
    · refine V_iconst 23 O dX7_hasCisterns_23 ci_0 ?_
      exact V_zret0 24 O E dX7_hasCisterns_24 h
theorem bl_X7_hasCisterns_2 {G : zG} {x : zX} {r : Int32} {τ : Sg} (O : zO G x cX7_hasCisterns RX7 0 0 3) (E : zE G x (some (.boolean)) (some (.int r)) τ) (n : Nat) : ∀ (k : Nat) (x0 : Nat) (x1 : Nat) (x2 : Int32) (σ : Sg), zStand x0 → zStand x1 → s_X7_hasCisterns_2 n k x0 x1 x2 σ = some (r, τ) → V G x σ [(0, .ref (zad G x0)), (1, .ref (zad G x1)), (2, .int x2)] 2 [] := by
  intro k
  induction k with
  | zero => intro x0 x1 x2 σ hx0 hx1 h; cases h
  | succ k ih => intro x0 x1 x2 σ hx0 hx1 h; exact b_X7_hasCisterns_2 O E n  (s_X7_hasCisterns_2 n  k) ih x0 x1 x2 σ hx0 hx1 h
set_option maxRecDepth 20000 in
theorem C_X7_hasCisterns {l : Launch} {G : zG} {n : Nat} {x0 : Nat} {x1 : Nat} {σ : Sg} {r : Int32} {τ : Sg} (hx0 : zStand x0) (hx1 : zStand x1) (h : s_X7_hasCisterns n x0 x1 σ = some (r, τ)) : zM l G 0 yX7_hasCisterns (.code yX7_hasCisterns cX7_hasCisterns 3 (some (.boolean))) [.ref (zad G x0), .ref (zad G x1)] σ (some (.int r)) τ := by
  refine zM_of (by decide) (Nat.le_of_ble_eq_true rfl) (fun x O E => ?_)
  have O : zO G x cX7_hasCisterns RX7 0 0 3 := O
  unfold s_X7_hasCisterns at h
  show V G x σ [(0, .ref (zad G x0)), (1, .ref (zad G x1))] 0 []
  refine V_iconst 0 O dX7_hasCisterns_0 ci_0 ?_
  refine V_istoren 1 [1, 2, 0] [(0, .ref (zad G x0)), (1, .ref (zad G x1)), (2, .int (0 : Int32))] O dX7_hasCisterns_1 rfl (Nat.le_of_ble_eq_true rfl) rfl ?_
  exact V_sub [0, 1, 2] rfl (bl_X7_hasCisterns_2 O E n  n x0 x1 (0 : Int32) σ hx0 hx1 h)
-- ==== Stand.always(I)I
def s_X7_always_4b (n : Nat) (rc4 : Nat → Int32 → Int32 → Int32 → Sg → Option (Int32 × Sg)) (x0 : Nat) (x1 : Int32) (x2 : Int32) (x3 : Int32) (σ : Sg) : Option (Int32 × Sg) := if x1 ≤ x3 then (some (x2, σ)) else (ck x3 10 (if (σ (rf x0 0) (ix x3)) = (1 : Int32) then (rc4 x0 x1 (x2 + (1 : Int32)) (x3 + (1 : Int32)) σ) else (rc4 x0 x1 x2 (x3 + (1 : Int32)) σ)))
def s_X7_always_4 (n : Nat) : Nat → Nat → Int32 → Int32 → Int32 → Sg → Option (Int32 × Sg)
  | 0 => fun _ _ _ _ _ => none
  | k + 1 => s_X7_always_4b n (s_X7_always_4 n k)
def s_X7_always (n : Nat) (x0 : Nat) (x1 : Int32) (σ : Sg) : Option (Int32 × Sg) := s_X7_always_4 n n x0 x1 (0 : Int32) (0 : Int32) σ
set_option maxRecDepth 20000 in
theorem b_X7_always_4 {G : zG} {x : zX} {r : Int32} {τ : Sg} (O : zO G x cX7_always RX7 0 0 4) (E : zE G x (some (.int)) (some (.int r)) τ) (n : Nat) (rc4 : Nat → Int32 → Int32 → Int32 → Sg → Option (Int32 × Sg)) (H4 : ∀ (x0 : Nat) (x1 : Int32) (x2 : Int32) (x3 : Int32) (σ : Sg), zStand x0 → rc4 x0 x1 x2 x3 σ = some (r, τ) → V G x σ [(0, .ref (zad G x0)), (1, .int x1), (2, .int x2), (3, .int x3)] 4 []) (x0 : Nat) (x1 : Int32) (x2 : Int32) (x3 : Int32) (σ : Sg) (hx0 : zStand x0) (h : s_X7_always_4b n rc4 x0 x1 x2 x3 σ = some (r, τ)) : V G x σ [(0, .ref (zad G x0)), (1, .int x1), (2, .int x2), (3, .int x3)] 4 [] := by
  unfold s_X7_always_4b at h
  refine V_iloadn 4 3 O dX7_always_4 rfl rfl ?_
  refine V_iloadn 5 1 O dX7_always_5 rfl rfl ?_
  refine V_icmp_ge 6 28 O dX7_always_6 rfl h (fun h => ?_) (fun h => ?_)
  · refine V_iloadn 28 2 O dX7_always_28 rfl rfl ?_
    exact V_iret 29 O E dX7_always_29 h
  · refine V_aloadn 9 0 O dX7_always_9 rfl rfl ?_
    refine V_getR 10 O (zStand_k hx0) fl_X7_9 rfl dX7_always_10 ?_
    refine V_iloadn 13 3 O dX7_always_13 rfl rfl ?_
    refine V_iald 14 O (zStand_0 hx0) dX7_always_14 h (fun h => ?_)
    refine V_iconst 15 O dX7_always_15 ci_1 ?_
    refine V_icmp_ne 16 22 O dX7_always_16 rfl h (fun h => ?_) (fun h => ?_)
    · refine V_iinc 22 3 [1, 2, 3, 0] [(0, .ref (zad G x0)), (1, .int x1), (2, .int x2), (3, .int (x3 + (1 : Int32)))] O dX7_always_22 rfl ci_1 (Nat.le_of_ble_eq_true rfl) rfl ?_
      refine V_goto 25 4 O dX7_always_25 rfl ?_
      exact V_sub [0, 1, 2, 3] rfl (H4 x0 x1 x2 (x3 + (1 : Int32)) σ hx0 h)
    · refine V_iinc 19 2 [1, 2, 0, 3] [(0, .ref (zad G x0)), (1, .int x1), (2, .int (x2 + (1 : Int32))), (3, .int x3)] O dX7_always_19 rfl ci_1 (Nat.le_of_ble_eq_true rfl) rfl ?_
      refine V_iinc 22 3 [1, 2, 3, 0] [(0, .ref (zad G x0)), (1, .int x1), (2, .int (x2 + (1 : Int32))), (3, .int (x3 + (1 : Int32)))] O dX7_always_22 rfl ci_1 (Nat.le_of_ble_eq_true rfl) rfl ?_
      refine V_goto 25 4 O dX7_always_25 rfl ?_
      exact V_sub [0, 1, 2, 3] rfl (H4 x0 x1 (x2 + (1 : Int32)) (x3 + (1 : Int32)) σ hx0 h)
theorem bl_X7_always_4 {G : zG} {x : zX} {r : Int32} {τ : Sg} (O : zO G x cX7_always RX7 0 0 4) (E : zE G x (some (.int)) (some (.int r)) τ) (n : Nat) : ∀ (k : Nat) (x0 : Nat) (x1 : Int32) (x2 : Int32) (x3 : Int32) (σ : Sg), zStand x0 → s_X7_always_4 n k x0 x1 x2 x3 σ = some (r, τ) → V G x σ [(0, .ref (zad G x0)), (1, .int x1), (2, .int x2), (3, .int x3)] 4 [] := by
  intro k
  induction k with
  | zero => intro x0 x1 x2 x3 σ hx0 h; cases h
  | succ k ih => intro x0 x1 x2 x3 σ hx0 h; exact b_X7_always_4 O E n  (s_X7_always_4 n  k) ih x0 x1 x2 x3 σ hx0 h
set_option maxRecDepth 20000 in
theorem C_X7_always {l : Launch} {G : zG} {n : Nat} {x0 : Nat} {x1 : Int32} {σ : Sg} {r : Int32} {τ : Sg} (hx0 : zStand x0) (h : s_X7_always n x0 x1 σ = some (r, τ)) : zM l G 0 yX7_always (.code yX7_always cX7_always 4 (some (.int))) [.ref (zad G x0), .int x1] σ (some (.int r)) τ := by
  refine zM_of (by decide) (Nat.le_of_ble_eq_true rfl) (fun x O E => ?_)
  have O : zO G x cX7_always RX7 0 0 4 := O
  unfold s_X7_always at h
  show V G x σ [(0, .ref (zad G x0)), (1, .int x1)] 0 []
  refine V_iconst 0 O dX7_always_0 ci_0 ?_
  refine V_istoren 1 [1, 2, 0] [(0, .ref (zad G x0)), (1, .int x1), (2, .int (0 : Int32))] O dX7_always_1 rfl (Nat.le_of_ble_eq_true rfl) rfl ?_
  refine V_iconst 2 O dX7_always_2 ci_0 ?_
  refine V_istoren 3 [1, 2, 3, 0] [(0, .ref (zad G x0)), (1, .int x1), (2, .int (0 : Int32)), (3, .int (0 : Int32))] O dX7_always_3 rfl (Nat.le_of_ble_eq_true rfl) rfl ?_
  exact V_sub [0, 1, 2, 3] rfl (bl_X7_always_4 O E n  n x0 x1 (0 : Int32) (0 : Int32) σ hx0 h)
-- ==== Stand.hasAlways(II)Z
def s_X7_hasAlways_2b (n : Nat) (rc2 : Nat → Int32 → Int32 → Int32 → Sg → Option (Int32 × Sg)) (x0 : Nat) (x1 : Int32) (x2 : Int32) (x3 : Int32) (σ : Sg) : Option (Int32 × Sg) := if x2 ≤ x3 then (some ((0 : Int32), σ)) else (if ((sr x1 x3) &&& (1 : Int32)) = (1 : Int32) then (ck x3 10 (if (σ (rf x0 0) (ix x3)) = (1 : Int32) then (some ((1 : Int32), σ)) else (rc2 x0 x1 x2 (x3 + (1 : Int32)) σ))) else (rc2 x0 x1 x2 (x3 + (1 : Int32)) σ))
def s_X7_hasAlways_2 (n : Nat) : Nat → Nat → Int32 → Int32 → Int32 → Sg → Option (Int32 × Sg)
  | 0 => fun _ _ _ _ _ => none
  | k + 1 => s_X7_hasAlways_2b n (s_X7_hasAlways_2 n k)
def s_X7_hasAlways (n : Nat) (x0 : Nat) (x1 : Int32) (x2 : Int32) (σ : Sg) : Option (Int32 × Sg) := s_X7_hasAlways_2 n n x0 x1 x2 (0 : Int32) σ
set_option maxRecDepth 20000 in
theorem b_X7_hasAlways_2 {G : zG} {x : zX} {r : Int32} {τ : Sg} (O : zO G x cX7_hasAlways RX7 0 0 4) (E : zE G x (some (.boolean)) (some (.int r)) τ) (n : Nat) (rc2 : Nat → Int32 → Int32 → Int32 → Sg → Option (Int32 × Sg)) (H2 : ∀ (x0 : Nat) (x1 : Int32) (x2 : Int32) (x3 : Int32) (σ : Sg), zStand x0 → rc2 x0 x1 x2 x3 σ = some (r, τ) → V G x σ [(0, .ref (zad G x0)), (1, .int x1), (2, .int x2), (3, .int x3)] 2 []) (x0 : Nat) (x1 : Int32) (x2 : Int32) (x3 : Int32) (σ : Sg) (hx0 : zStand x0) (h : s_X7_hasAlways_2b n rc2 x0 x1 x2 x3 σ = some (r, τ)) : V G x σ [(0, .ref (zad G x0)), (1, .int x1), (2, .int x2), (3, .int x3)] 2 [] := by
  unfold s_X7_hasAlways_2b at h
  refine V_iloadn 2 3 O dX7_hasAlways_2 rfl rfl ?_
  refine V_iloadn 3 2 O dX7_hasAlways_3 rfl rfl ?_
  refine V_icmp_ge 4 34 O dX7_hasAlways_4 rfl h (fun h => ?_) (fun h => ?_)
  · refine V_iconst 34 O dX7_hasAlways_34 ci_0 ?_
    exact V_zret0 35 O E dX7_hasAlways_35 h
  · refine V_iloadn 7 1 O dX7_hasAlways_7 rfl rfl ?_
    refine V_iloadn 8 3 O dX7_hasAlways_8 rfl rfl ?_
    refine V_ishr 9 O dX7_hasAlways_9 ?_
    refine V_iconst 10 O dX7_hasAlways_10 ci_1 ?_
    refine V_iand 11 O dX7_hasAlways_11 ?_
    refine V_iconst 12 O dX7_hasAlways_12 ci_1 ?_
    refine V_icmp_ne 13 28 O dX7_hasAlways_13 rfl h (fun h => ?_) (fun h => ?_)
    · refine V_iinc 28 3 [1, 2, 3, 0] [(0, .ref (zad G x0)), (1, .int x1), (2, .int x2), (3, .int (x3 + (1 : Int32)))] O dX7_hasAlways_28 rfl ci_1 (Nat.le_of_ble_eq_true rfl) rfl ?_
      refine V_goto 31 2 O dX7_hasAlways_31 rfl ?_
      exact V_sub [0, 1, 2, 3] rfl (H2 x0 x1 x2 (x3 + (1 : Int32)) σ hx0 h)
    · refine V_aloadn 16 0 O dX7_hasAlways_16 rfl rfl ?_
      refine V_getR 17 O (zStand_k hx0) fl_X7_9 rfl dX7_hasAlways_17 ?_
      refine V_iloadn 20 3 O dX7_hasAlways_20 rfl rfl ?_
      refine V_iald 21 O (zStand_0 hx0) dX7_hasAlways_21 h (fun h => ?_)
      refine V_iconst 22 O dX7_hasAlways_22 ci_1 ?_
      refine V_icmp_ne 23 28 O dX7_hasAlways_23 rfl h (fun h => ?_) (fun h => ?_)
      · refine V_iinc 28 3 [1, 2, 3, 0] [(0, .ref (zad G x0)), (1, .int x1), (2, .int x2), (3, .int (x3 + (1 : Int32)))] O dX7_hasAlways_28 rfl ci_1 (Nat.le_of_ble_eq_true rfl) rfl ?_
        refine V_goto 31 2 O dX7_hasAlways_31 rfl ?_
        exact V_sub [0, 1, 2, 3] rfl (H2 x0 x1 x2 (x3 + (1 : Int32)) σ hx0 h)
      · refine V_iconst 26 O dX7_hasAlways_26 ci_1 ?_
        exact V_zret1 27 O E dX7_hasAlways_27 h
theorem bl_X7_hasAlways_2 {G : zG} {x : zX} {r : Int32} {τ : Sg} (O : zO G x cX7_hasAlways RX7 0 0 4) (E : zE G x (some (.boolean)) (some (.int r)) τ) (n : Nat) : ∀ (k : Nat) (x0 : Nat) (x1 : Int32) (x2 : Int32) (x3 : Int32) (σ : Sg), zStand x0 → s_X7_hasAlways_2 n k x0 x1 x2 x3 σ = some (r, τ) → V G x σ [(0, .ref (zad G x0)), (1, .int x1), (2, .int x2), (3, .int x3)] 2 [] := by
  intro k
  induction k with
  | zero => intro x0 x1 x2 x3 σ hx0 h; cases h
  | succ k ih => intro x0 x1 x2 x3 σ hx0 h; exact b_X7_hasAlways_2 O E n  (s_X7_hasAlways_2 n  k) ih x0 x1 x2 x3 σ hx0 h
set_option maxRecDepth 20000 in
theorem C_X7_hasAlways {l : Launch} {G : zG} {n : Nat} {x0 : Nat} {x1 : Int32} {x2 : Int32} {σ : Sg} {r : Int32} {τ : Sg} (hx0 : zStand x0) (h : s_X7_hasAlways n x0 x1 x2 σ = some (r, τ)) : zM l G 0 yX7_hasAlways (.code yX7_hasAlways cX7_hasAlways 4 (some (.boolean))) [.ref (zad G x0), .int x1, .int x2] σ (some (.int r)) τ := by
  refine zM_of (by decide) (Nat.le_of_ble_eq_true rfl) (fun x O E => ?_)
  have O : zO G x cX7_hasAlways RX7 0 0 4 := O
  unfold s_X7_hasAlways at h
  show V G x σ [(0, .ref (zad G x0)), (1, .int x1), (2, .int x2)] 0 []
  refine V_iconst 0 O dX7_hasAlways_0 ci_0 ?_
  refine V_istoren 1 [1, 2, 3, 0] [(0, .ref (zad G x0)), (1, .int x1), (2, .int x2), (3, .int (0 : Int32))] O dX7_hasAlways_1 rfl (Nat.le_of_ble_eq_true rfl) rfl ?_
  exact V_sub [0, 1, 2, 3] rfl (bl_X7_hasAlways_2 O E n  n x0 x1 x2 (0 : Int32) σ hx0 h)
-- ==== Streets.has(I)Z
def s_X8_has_16 (n : Nat) (σ : Sg) : Option (Int32 × Sg) := some ((0 : Int32), σ)
def s_X8_has (n : Nat) (x1 : Int32) (σ : Sg) : Option (Int32 × Sg) := if x1 < 0 then (s_X8_has_16 n σ) else (if (σ 11 0) ≤ x1 then (s_X8_has_16 n σ) else (some ((1 : Int32), σ)))
set_option maxRecDepth 20000 in
theorem b_X8_has_16 {G : zG} {x : zX} {r : Int32} {τ : Sg} (O : zO G x cX8_has RX8 0 0 2) (E : zE G x (some (.boolean)) (some (.int r)) τ) (n : Nat) (σ : Sg) (h : s_X8_has_16 n σ = some (r, τ)) : V G x σ [] 16 [] := by
  unfold s_X8_has_16 at h
  refine V_iconst 16 O dX8_has_16 ci_0 ?_
  exact V_zret0 17 O E dX8_has_17 h
set_option maxRecDepth 20000 in
theorem C_X8_has {l : Launch} {G : zG} {n : Nat} {x1 : Int32} {σ : Sg} {r : Int32} {τ : Sg} (h : s_X8_has n x1 σ = some (r, τ)) : zM l G 0 yX8_has (.code yX8_has cX8_has 2 (some (.boolean))) [.ref (zad G 11), .int x1] σ (some (.int r)) τ := by
  refine zM_of (by decide) (Nat.le_of_ble_eq_true rfl) (fun x O E => ?_)
  have O : zO G x cX8_has RX8 0 0 2 := O
  unfold s_X8_has at h
  show V G x σ [(0, .ref (zad G 11)), (1, .int x1)] 0 []
  refine V_iloadn 0 1 O dX8_has_0 rfl rfl ?_
  refine V_if_lt 1 16 O dX8_has_1 rfl h (fun h => ?_) (fun h => ?_)
  · exact V_sub [] rfl (b_X8_has_16 O E n   σ  h)
  · refine V_iloadn 4 1 O dX8_has_4 rfl rfl ?_
    refine V_aloadn 5 0 O dX8_has_5 rfl rfl ?_
    refine V_getI 6 O k11 fl_X8_42 dX8_has_6 ?_
    refine V_icmp_ge 9 16 O dX8_has_9 rfl h (fun h => ?_) (fun h => ?_)
    · exact V_sub [] rfl (b_X8_has_16 O E n   σ  h)
    · refine V_iconst 12 O dX8_has_12 ci_1 ?_
      refine V_goto 13 17 O dX8_has_13 rfl ?_
      exact V_zret1 17 O E dX8_has_17 h
-- ==== Streets.hasAll(I)Z
def s_X8_hasAll (n : Nat) (x1 : Int32) (σ : Sg) : Option (Int32 × Sg) := if (ush x1 (σ 11 0)) = 0 then (some ((1 : Int32), σ)) else (some ((0 : Int32), σ))
set_option maxRecDepth 20000 in
theorem C_X8_hasAll {l : Launch} {G : zG} {n : Nat} {x1 : Int32} {σ : Sg} {r : Int32} {τ : Sg} (h : s_X8_hasAll n x1 σ = some (r, τ)) : zM l G 0 yX8_hasAll (.code yX8_hasAll cX8_hasAll 2 (some (.boolean))) [.ref (zad G 11), .int x1] σ (some (.int r)) τ := by
  refine zM_of (by decide) (Nat.le_of_ble_eq_true rfl) (fun x O E => ?_)
  have O : zO G x cX8_hasAll RX8 0 0 2 := O
  unfold s_X8_hasAll at h
  show V G x σ [(0, .ref (zad G 11)), (1, .int x1)] 0 []
  refine V_iloadn 0 1 O dX8_hasAll_0 rfl rfl ?_
  refine V_aloadn 1 0 O dX8_hasAll_1 rfl rfl ?_
  refine V_getI 2 O k11 fl_X8_42 dX8_hasAll_2 ?_
  refine V_iushr 5 O dX8_hasAll_5 ?_
  refine V_if_ne 6 13 O dX8_hasAll_6 rfl h (fun h => ?_) (fun h => ?_)
  · refine V_iconst 13 O dX8_hasAll_13 ci_0 ?_
    exact V_zret0 14 O E dX8_hasAll_14 h
  · refine V_iconst 9 O dX8_hasAll_9 ci_1 ?_
    refine V_goto 10 14 O dX8_hasAll_10 rfl ?_
    exact V_zret1 14 O E dX8_hasAll_14 h
-- ==== Streets.build(IIIII)I
def s_X8_build (n : Nat) (x1 : Int32) (x2 : Int32) (x3 : Int32) (x4 : Int32) (x5 : Int32) (σ : Sg) : Option (Int32 × Sg) := lt (σ 11 0) fun v1 => ck v1 10 (lt (up2 σ 12 (ix v1) x1) fun σ2 => ck v1 10 (lt (up2 σ2 13 (ix v1) x2) fun σ3 => ck v1 10 (lt (up2 σ3 14 (ix v1) (x2 * x3)) fun σ4 => ck v1 10 (lt (up2 σ4 15 (ix v1) x4) fun σ5 => ck v1 10 (lt (up2 σ5 16 (ix v1) x5) fun σ6 => lt (up2 σ6 11 0 ((σ6 11 0) + (1 : Int32))) fun σ7 => some (v1, σ7))))))
set_option maxRecDepth 20000 in
theorem C_X8_build {l : Launch} {G : zG} {n : Nat} {x1 : Int32} {x2 : Int32} {x3 : Int32} {x4 : Int32} {x5 : Int32} {σ : Sg} {r : Int32} {τ : Sg} (h : s_X8_build n x1 x2 x3 x4 x5 σ = some (r, τ)) : zM l G 0 yX8_build (.code yX8_build cX8_build 7 (some (.int))) [.ref (zad G 11), .int x1, .int x2, .int x3, .int x4, .int x5] σ (some (.int r)) τ := by
  refine zM_of (by decide) (Nat.le_of_ble_eq_true rfl) (fun x O E => ?_)
  have O : zO G x cX8_build RX8 0 0 7 := O
  unfold s_X8_build at h
  show V G x σ [(0, .ref (zad G 11)), (1, .int x1), (2, .int x2), (3, .int x3), (4, .int x4), (5, .int x5)] 0 []
  refine V_aloadn 0 0 O dX8_build_0 rfl rfl ?_
  refine V_getI 1 O k11 fl_X8_42 dX8_build_1 ?_
  refine V_topi h (fun v1 h => ?_)
  refine V_istore 4 [1, 2, 3, 4, 5, 6, 0] [(0, .ref (zad G 11)), (1, .int x1), (2, .int x2), (3, .int x3), (4, .int x4), (5, .int x5), (6, .int v1)] O dX8_build_4 (Nat.le_of_ble_eq_true rfl) rfl ?_
  refine V_aloadn 6 0 O dX8_build_6 rfl rfl ?_
  refine V_getR 7 O k11 fl_X8_9 rf11_1 dX8_build_7 ?_
  refine V_iload 10 6 O dX8_build_10 rfl ?_
  refine V_iloadn 12 1 O dX8_build_12 rfl rfl ?_
  refine V_iast 13 O k12 dX8_build_13 h (fun σ2 h => ?_)
  refine V_aloadn 14 0 O dX8_build_14 rfl rfl ?_
  refine V_getR 15 O k11 fl_X8_15 rf11_2 dX8_build_15 ?_
  refine V_iload 18 6 O dX8_build_18 rfl ?_
  refine V_iloadn 20 2 O dX8_build_20 rfl rfl ?_
  refine V_iast 21 O k13 dX8_build_21 h (fun σ3 h => ?_)
  refine V_aloadn 22 0 O dX8_build_22 rfl rfl ?_
  refine V_getR 23 O k11 fl_X8_18 rf11_3 dX8_build_23 ?_
  refine V_iload 26 6 O dX8_build_26 rfl ?_
  refine V_iloadn 28 2 O dX8_build_28 rfl rfl ?_
  refine V_iloadn 29 3 O dX8_build_29 rfl rfl ?_
  refine V_imul 30 O dX8_build_30 ?_
  refine V_iast 31 O k14 dX8_build_31 h (fun σ4 h => ?_)
  refine V_aloadn 32 0 O dX8_build_32 rfl rfl ?_
  refine V_getR 33 O k11 fl_X8_21 rf11_4 dX8_build_33 ?_
  refine V_iload 36 6 O dX8_build_36 rfl ?_
  refine V_iload 38 4 O dX8_build_38 rfl ?_
  refine V_iast 40 O k15 dX8_build_40 h (fun σ5 h => ?_)
  refine V_aloadn 41 0 O dX8_build_41 rfl rfl ?_
  refine V_getR 42 O k11 fl_X8_24 rf11_5 dX8_build_42 ?_
  refine V_iload 45 6 O dX8_build_45 rfl ?_
  refine V_iload 47 5 O dX8_build_47 rfl ?_
  refine V_iast 49 O k16 dX8_build_49 h (fun σ6 h => ?_)
  refine V_aloadn 50 0 O dX8_build_50 rfl rfl ?_
  refine V_dup 51 O dX8_build_51 rfl ?_
  refine V_getI 52 O k11 fl_X8_42 dX8_build_52 ?_
  refine V_iconst 55 O dX8_build_55 ci_1 ?_
  refine V_iadd 56 O dX8_build_56 ?_
  refine V_put 57 O k11 fp_X8_42 dX8_build_57 h (fun σ7 h => ?_)
  refine V_iload 60 6 O dX8_build_60 rfl ?_
  exact V_iret 62 O E dX8_build_62 h
-- ==== Streets.remember(LWaterTown$Supply;)V
def s_X8_remember_2b (n : Nat) (rc2 : Int32 → Sg → Option Sg) (x2 : Int32) (σ : Sg) : Option Sg := if (σ 11 0) ≤ x2 then (some σ) else (ck x2 10 (ck x2 10 (ck x2 10 (lt (up2 σ 18 (ix x2) ((σ 18 (ix x2)) + (σ 42 (ix x2)))) fun σ1 => ck x2 10 (ck x2 10 (ck x2 10 (lt (up2 σ1 21 (ix x2) ((σ1 21 (ix x2)) + (σ1 44 (ix x2)))) fun σ2 => ck x2 10 (ck x2 10 (ck x2 10 (lt (up2 σ2 20 (ix x2) ((σ2 20 (ix x2)) + (σ2 43 (ix x2)))) fun σ3 => ck x2 10 (if (σ3 43 (ix x2)) ≤ 0 then (rc2 (x2 + (1 : Int32)) σ3) else (ck x2 10 (ck x2 10 (lt (up2 σ3 19 (ix x2) ((σ3 19 (ix x2)) + (1 : Int32))) fun σ4 => rc2 (x2 + (1 : Int32)) σ4))))))))))))))
def s_X8_remember_2 (n : Nat) : Nat → Int32 → Sg → Option Sg
  | 0 => fun _ _ => none
  | k + 1 => s_X8_remember_2b n (s_X8_remember_2 n k)
def s_X8_remember (n : Nat) (σ : Sg) : Option Sg := s_X8_remember_2 n n (0 : Int32) σ
set_option maxRecDepth 20000 in
theorem b_X8_remember_2 {G : zG} {x : zX} {τ : Sg} (O : zO G x cX8_remember RX8 0 0 3) (E : zE G x none none τ) (n : Nat) (rc2 : Int32 → Sg → Option Sg) (H2 : ∀ (x2 : Int32) (σ : Sg), rc2 x2 σ = some τ → V G x σ [(0, .ref (zad G 11)), (1, .ref (zad G 39)), (2, .int x2)] 2 []) (x2 : Int32) (σ : Sg) (h : s_X8_remember_2b n rc2 x2 σ = some τ) : V G x σ [(0, .ref (zad G 11)), (1, .ref (zad G 39)), (2, .int x2)] 2 [] := by
  unfold s_X8_remember_2b at h
  refine V_iloadn 2 2 O dX8_remember_2 rfl rfl ?_
  refine V_aloadn 3 0 O dX8_remember_3 rfl rfl ?_
  refine V_getI 4 O k11 fl_X8_42 dX8_remember_4 ?_
  refine V_icmp_ge 7 80 O dX8_remember_7 rfl h (fun h => ?_) (fun h => ?_)
  · exact V_vret 80 O E dX8_remember_80 h
  · refine V_aloadn 10 0 O dX8_remember_10 rfl rfl ?_
    refine V_getR 11 O k11 fl_X8_30 rf11_7 dX8_remember_11 ?_
    refine V_iloadn 14 2 O dX8_remember_14 rfl rfl ?_
    refine V_dup2 15 O dX8_remember_15 rfl rfl ?_
    refine V_iald 16 O k18 dX8_remember_16 h (fun h => ?_)
    refine V_aloadn 17 1 O dX8_remember_17 rfl rfl ?_
    refine V_getR 18 O k39 fl_X8_46 rf39_5 dX8_remember_18 ?_
    refine V_iloadn 21 2 O dX8_remember_21 rfl rfl ?_
    refine V_iald 22 O k42 dX8_remember_22 h (fun h => ?_)
    refine V_iadd 23 O dX8_remember_23 ?_
    refine V_iast 24 O k18 dX8_remember_24 h (fun σ1 h => ?_)
    refine V_aloadn 25 0 O dX8_remember_25 rfl rfl ?_
    refine V_getR 26 O k11 fl_X8_39 rf11_10 dX8_remember_26 ?_
    refine V_iloadn 29 2 O dX8_remember_29 rfl rfl ?_
    refine V_dup2 30 O dX8_remember_30 rfl rfl ?_
    refine V_iald 31 O k21 dX8_remember_31 h (fun h => ?_)
    refine V_aloadn 32 1 O dX8_remember_32 rfl rfl ?_
    refine V_getR 33 O k39 fl_X8_49 rf39_7 dX8_remember_33 ?_
    refine V_iloadn 36 2 O dX8_remember_36 rfl rfl ?_
    refine V_iald 37 O k44 dX8_remember_37 h (fun h => ?_)
    refine V_iadd 38 O dX8_remember_38 ?_
    refine V_iast 39 O k21 dX8_remember_39 h (fun σ2 h => ?_)
    refine V_aloadn 40 0 O dX8_remember_40 rfl rfl ?_
    refine V_getR 41 O k11 fl_X8_36 rf11_9 dX8_remember_41 ?_
    refine V_iloadn 44 2 O dX8_remember_44 rfl rfl ?_
    refine V_dup2 45 O dX8_remember_45 rfl rfl ?_
    refine V_iald 46 O k20 dX8_remember_46 h (fun h => ?_)
    refine V_aloadn 47 1 O dX8_remember_47 rfl rfl ?_
    refine V_getR 48 O k39 fl_X8_50 rf39_6 dX8_remember_48 ?_
    refine V_iloadn 51 2 O dX8_remember_51 rfl rfl ?_
    refine V_iald 52 O k43 dX8_remember_52 h (fun h => ?_)
    refine V_iadd 53 O dX8_remember_53 ?_
    refine V_iast 54 O k20 dX8_remember_54 h (fun σ3 h => ?_)
    refine V_aloadn 55 1 O dX8_remember_55 rfl rfl ?_
    refine V_getR 56 O k39 fl_X8_50 rf39_6 dX8_remember_56 ?_
    refine V_iloadn 59 2 O dX8_remember_59 rfl rfl ?_
    refine V_iald 60 O k43 dX8_remember_60 h (fun h => ?_)
    refine V_if_le 61 74 O dX8_remember_61 rfl h (fun h => ?_) (fun h => ?_)
    · refine V_iinc 74 2 [1, 2, 0] [(0, .ref (zad G 11)), (1, .ref (zad G 39)), (2, .int (x2 + (1 : Int32)))] O dX8_remember_74 rfl ci_1 (Nat.le_of_ble_eq_true rfl) rfl ?_
      refine V_goto 77 2 O dX8_remember_77 rfl ?_
      exact V_sub [0, 1, 2] rfl (H2 (x2 + (1 : Int32)) σ3  h)
    · refine V_aloadn 64 0 O dX8_remember_64 rfl rfl ?_
      refine V_getR 65 O k11 fl_X8_33 rf11_8 dX8_remember_65 ?_
      refine V_iloadn 68 2 O dX8_remember_68 rfl rfl ?_
      refine V_dup2 69 O dX8_remember_69 rfl rfl ?_
      refine V_iald 70 O k19 dX8_remember_70 h (fun h => ?_)
      refine V_iconst 71 O dX8_remember_71 ci_1 ?_
      refine V_iadd 72 O dX8_remember_72 ?_
      refine V_iast 73 O k19 dX8_remember_73 h (fun σ4 h => ?_)
      refine V_iinc 74 2 [1, 2, 0] [(0, .ref (zad G 11)), (1, .ref (zad G 39)), (2, .int (x2 + (1 : Int32)))] O dX8_remember_74 rfl ci_1 (Nat.le_of_ble_eq_true rfl) rfl ?_
      refine V_goto 77 2 O dX8_remember_77 rfl ?_
      exact V_sub [0, 1, 2] rfl (H2 (x2 + (1 : Int32)) σ4  h)
theorem bl_X8_remember_2 {G : zG} {x : zX} {τ : Sg} (O : zO G x cX8_remember RX8 0 0 3) (E : zE G x none none τ) (n : Nat) : ∀ (k : Nat) (x2 : Int32) (σ : Sg), s_X8_remember_2 n k x2 σ = some τ → V G x σ [(0, .ref (zad G 11)), (1, .ref (zad G 39)), (2, .int x2)] 2 [] := by
  intro k
  induction k with
  | zero => intro x2 σ  h; cases h
  | succ k ih => intro x2 σ  h; exact b_X8_remember_2 O E n  (s_X8_remember_2 n  k) ih x2 σ  h
set_option maxRecDepth 20000 in
theorem C_X8_remember {l : Launch} {G : zG} {n : Nat} {σ : Sg} {τ : Sg} (h : s_X8_remember n σ = some τ) : zM l G 0 yX8_remember (.code yX8_remember cX8_remember 3 none) [.ref (zad G 11), .ref (zad G 39)] σ none τ := by
  refine zM_of (by decide) (Nat.le_of_ble_eq_true rfl) (fun x O E => ?_)
  have O : zO G x cX8_remember RX8 0 0 3 := O
  unfold s_X8_remember at h
  show V G x σ [(0, .ref (zad G 11)), (1, .ref (zad G 39))] 0 []
  refine V_iconst 0 O dX8_remember_0 ci_0 ?_
  refine V_istoren 1 [1, 2, 0] [(0, .ref (zad G 11)), (1, .ref (zad G 39)), (2, .int (0 : Int32))] O dX8_remember_1 rfl (Nat.le_of_ble_eq_true rfl) rfl ?_
  exact V_sub [0, 1, 2] rfl (bl_X8_remember_2 O E n  n (0 : Int32) σ  h)
-- ==== Streets.apart(I)I
def s_X8_apart_4b (n : Nat) (rc4 : Int32 → Int32 → Int32 → Sg → Option (Int32 × Sg)) (x1 : Int32) (x2 : Int32) (x3 : Int32) (σ : Sg) : Option (Int32 × Sg) := if (σ 11 0) ≤ x3 then (some (x2, σ)) else (ck x3 10 (if ((sr x1 (σ 12 (ix x3))) &&& (1 : Int32)) = 0 then (lt (x2 ||| (sl (1 : Int32) x3)) fun v1 => rc4 x1 v1 (x3 + (1 : Int32)) σ) else (rc4 x1 x2 (x3 + (1 : Int32)) σ)))
def s_X8_apart_4 (n : Nat) : Nat → Int32 → Int32 → Int32 → Sg → Option (Int32 × Sg)
  | 0 => fun _ _ _ _ => none
  | k + 1 => s_X8_apart_4b n (s_X8_apart_4 n k)
def s_X8_apart (n : Nat) (x1 : Int32) (σ : Sg) : Option (Int32 × Sg) := s_X8_apart_4 n n x1 (0 : Int32) (0 : Int32) σ
set_option maxRecDepth 20000 in
theorem b_X8_apart_4 {G : zG} {x : zX} {r : Int32} {τ : Sg} (O : zO G x cX8_apart RX8 0 0 4) (E : zE G x (some (.int)) (some (.int r)) τ) (n : Nat) (rc4 : Int32 → Int32 → Int32 → Sg → Option (Int32 × Sg)) (H4 : ∀ (x1 : Int32) (x2 : Int32) (x3 : Int32) (σ : Sg), rc4 x1 x2 x3 σ = some (r, τ) → V G x σ [(0, .ref (zad G 11)), (1, .int x1), (2, .int x2), (3, .int x3)] 4 []) (x1 : Int32) (x2 : Int32) (x3 : Int32) (σ : Sg) (h : s_X8_apart_4b n rc4 x1 x2 x3 σ = some (r, τ)) : V G x σ [(0, .ref (zad G 11)), (1, .int x1), (2, .int x2), (3, .int x3)] 4 [] := by
  unfold s_X8_apart_4b at h
  refine V_iloadn 4 3 O dX8_apart_4 rfl rfl ?_
  refine V_aloadn 5 0 O dX8_apart_5 rfl rfl ?_
  refine V_getI 6 O k11 fl_X8_42 dX8_apart_6 ?_
  refine V_icmp_ge 9 37 O dX8_apart_9 rfl h (fun h => ?_) (fun h => ?_)
  · refine V_iloadn 37 2 O dX8_apart_37 rfl rfl ?_
    exact V_iret 38 O E dX8_apart_38 h
  · refine V_iloadn 12 1 O dX8_apart_12 rfl rfl ?_
    refine V_aloadn 13 0 O dX8_apart_13 rfl rfl ?_
    refine V_getR 14 O k11 fl_X8_9 rf11_1 dX8_apart_14 ?_
    refine V_iloadn 17 3 O dX8_apart_17 rfl rfl ?_
    refine V_iald 18 O k12 dX8_apart_18 h (fun h => ?_)
    refine V_ishr 19 O dX8_apart_19 ?_
    refine V_iconst 20 O dX8_apart_20 ci_1 ?_
    refine V_iand 21 O dX8_apart_21 ?_
    refine V_if_ne 22 31 O dX8_apart_22 rfl h (fun h => ?_) (fun h => ?_)
    · refine V_iinc 31 3 [1, 2, 3, 0] [(0, .ref (zad G 11)), (1, .int x1), (2, .int x2), (3, .int (x3 + (1 : Int32)))] O dX8_apart_31 rfl ci_1 (Nat.le_of_ble_eq_true rfl) rfl ?_
      refine V_goto 34 4 O dX8_apart_34 rfl ?_
      exact V_sub [0, 1, 2, 3] rfl (H4 x1 x2 (x3 + (1 : Int32)) σ  h)
    · refine V_iloadn 25 2 O dX8_apart_25 rfl rfl ?_
      refine V_iconst 26 O dX8_apart_26 ci_1 ?_
      refine V_iloadn 27 3 O dX8_apart_27 rfl rfl ?_
      refine V_ishl 28 O dX8_apart_28 ?_
      refine V_ior 29 O dX8_apart_29 ?_
      refine V_topi h (fun v1 h => ?_)
      refine V_istoren 30 [1, 2, 0, 3] [(0, .ref (zad G 11)), (1, .int x1), (2, .int v1), (3, .int x3)] O dX8_apart_30 rfl (Nat.le_of_ble_eq_true rfl) rfl ?_
      refine V_iinc 31 3 [1, 2, 3, 0] [(0, .ref (zad G 11)), (1, .int x1), (2, .int v1), (3, .int (x3 + (1 : Int32)))] O dX8_apart_31 rfl ci_1 (Nat.le_of_ble_eq_true rfl) rfl ?_
      refine V_goto 34 4 O dX8_apart_34 rfl ?_
      exact V_sub [0, 1, 2, 3] rfl (H4 x1 v1 (x3 + (1 : Int32)) σ  h)
theorem bl_X8_apart_4 {G : zG} {x : zX} {r : Int32} {τ : Sg} (O : zO G x cX8_apart RX8 0 0 4) (E : zE G x (some (.int)) (some (.int r)) τ) (n : Nat) : ∀ (k : Nat) (x1 : Int32) (x2 : Int32) (x3 : Int32) (σ : Sg), s_X8_apart_4 n k x1 x2 x3 σ = some (r, τ) → V G x σ [(0, .ref (zad G 11)), (1, .int x1), (2, .int x2), (3, .int x3)] 4 [] := by
  intro k
  induction k with
  | zero => intro x1 x2 x3 σ  h; cases h
  | succ k ih => intro x1 x2 x3 σ  h; exact b_X8_apart_4 O E n  (s_X8_apart_4 n  k) ih x1 x2 x3 σ  h
set_option maxRecDepth 20000 in
theorem C_X8_apart {l : Launch} {G : zG} {n : Nat} {x1 : Int32} {σ : Sg} {r : Int32} {τ : Sg} (h : s_X8_apart n x1 σ = some (r, τ)) : zM l G 0 yX8_apart (.code yX8_apart cX8_apart 4 (some (.int))) [.ref (zad G 11), .int x1] σ (some (.int r)) τ := by
  refine zM_of (by decide) (Nat.le_of_ble_eq_true rfl) (fun x O E => ?_)
  have O : zO G x cX8_apart RX8 0 0 4 := O
  unfold s_X8_apart at h
  show V G x σ [(0, .ref (zad G 11)), (1, .int x1)] 0 []
  refine V_iconst 0 O dX8_apart_0 ci_0 ?_
  refine V_istoren 1 [1, 2, 0] [(0, .ref (zad G 11)), (1, .int x1), (2, .int (0 : Int32))] O dX8_apart_1 rfl (Nat.le_of_ble_eq_true rfl) rfl ?_
  refine V_iconst 2 O dX8_apart_2 ci_0 ?_
  refine V_istoren 3 [1, 2, 3, 0] [(0, .ref (zad G 11)), (1, .int x1), (2, .int (0 : Int32)), (3, .int (0 : Int32))] O dX8_apart_3 rfl (Nat.le_of_ble_eq_true rfl) rfl ?_
  exact V_sub [0, 1, 2, 3] rfl (bl_X8_apart_4 O E n  n x1 (0 : Int32) (0 : Int32) σ  h)
-- ==== Supply.rank(IILWaterTown$Stand;)I
def s_X9_rank (n : Nat) (x1 : Int32) (x2 : Int32) (x3 : Nat) (σ : Sg) : Option (Int32 × Sg) := if x2 = (0 : Int32) then (ck x1 10 (if (σ (rf x3 0) (ix x1)) = (1 : Int32) then (some ((0 : Int32), σ)) else (some ((1 : Int32), σ)))) else (if x2 = (1 : Int32) then (ck x1 10 (if (σ (rf x3 0) (ix x1)) = 0 then (some ((0 : Int32), σ)) else (some ((1 : Int32), σ)))) else (if x2 = (2 : Int32) then (ck x1 10 (some (σ 41 (ix x1), σ))) else (ck x1 10 (ck (σ 12 (ix x1)) 10 (lt (σ 10 (ix (σ 12 (ix x1)))) fun v4 => if v4 = (-1 : Int32) then (some ((1 : Int32), σ)) else (some (-v4, σ)))))))
set_option maxRecDepth 20000 in
theorem C_X9_rank {l : Launch} {G : zG} {n : Nat} {x1 : Int32} {x2 : Int32} {x3 : Nat} {σ : Sg} {r : Int32} {τ : Sg} (hx3 : zStand x3) (h : s_X9_rank n x1 x2 x3 σ = some (r, τ)) : zM l G 0 yX9_rank (.code yX9_rank cX9_rank 5 (some (.int))) [.ref (zad G 39), .int x1, .int x2, .ref (zad G x3)] σ (some (.int r)) τ := by
  refine zM_of (by decide) (Nat.le_of_ble_eq_true rfl) (fun x O E => ?_)
  have O : zO G x cX9_rank RX9 0 0 5 := O
  unfold s_X9_rank at h
  show V G x σ [(0, .ref (zad G 39)), (1, .int x1), (2, .int x2), (3, .ref (zad G x3))] 0 []
  refine V_iloadn 0 2 O dX9_rank_0 rfl rfl ?_
  refine V_tab1 1 28 O dX9_rank_1 h (by decide) (by decide) rfl rfl (fun h => ?_) (fun q1 h => ?_)
  · refine V_aloadn 28 3 O dX9_rank_28 rfl rfl ?_
    refine V_getR 29 O (zStand_k hx3) fl_X9_78 rfl dX9_rank_29 ?_
    refine V_iloadn 32 1 O dX9_rank_32 rfl rfl ?_
    refine V_iald 33 O (zStand_0 hx3) dX9_rank_33 h (fun h => ?_)
    refine V_iconst 34 O dX9_rank_34 ci_1 ?_
    refine V_icmp_ne 35 42 O dX9_rank_35 rfl h (fun h => ?_) (fun h => ?_)
    · refine V_iconst 42 O dX9_rank_42 ci_1 ?_
      exact V_iret 43 O E dX9_rank_43 h
    · refine V_iconst 38 O dX9_rank_38 ci_0 ?_
      refine V_goto 39 43 O dX9_rank_39 rfl ?_
      exact V_iret 43 O E dX9_rank_43 h
  refine V_tab1 1 44 O dX9_rank_1 h (by decide) (by decide) rfl rfl (fun h => ?_) (fun q2 h => ?_)
  · refine V_aloadn 44 3 O dX9_rank_44 rfl rfl ?_
    refine V_getR 45 O (zStand_k hx3) fl_X9_78 rfl dX9_rank_45 ?_
    refine V_iloadn 48 1 O dX9_rank_48 rfl rfl ?_
    refine V_iald 49 O (zStand_0 hx3) dX9_rank_49 h (fun h => ?_)
    refine V_if_ne 50 57 O dX9_rank_50 rfl h (fun h => ?_) (fun h => ?_)
    · refine V_iconst 57 O dX9_rank_57 ci_1 ?_
      exact V_iret 58 O E dX9_rank_58 h
    · refine V_iconst 53 O dX9_rank_53 ci_0 ?_
      refine V_goto 54 58 O dX9_rank_54 rfl ?_
      exact V_iret 58 O E dX9_rank_58 h
  refine V_tab1 1 59 O dX9_rank_1 h (by decide) (by decide) rfl rfl (fun h => ?_) (fun q3 h => ?_)
  · refine V_aloadn 59 0 O dX9_rank_59 rfl rfl ?_
    refine V_getR 60 O k39 fl_X9_22 rf39_4 dX9_rank_60 ?_
    refine V_iloadn 63 1 O dX9_rank_63 rfl rfl ?_
    refine V_iald 64 O k41 dX9_rank_64 h (fun h => ?_)
    exact V_iret 65 O E dX9_rank_65 h
  refine V_tabO 1 66 O dX9_rank_1 (by have w0 := lv_neT q1 (show (0 : Int32).toInt = 0 from rfl); have w1 := lv_neT q2 (show (1 : Int32).toInt = 1 from rfl); have w2 := lv_neT q3 (show (2 : Int32).toInt = 2 from rfl); omega) rfl ?_
  refine V_aloadn 66 0 O dX9_rank_66 rfl rfl ?_
  refine V_getR 67 O k39 fl_X9_37 rf39_0 dX9_rank_67 ?_
  refine V_getR 70 O k3 fl_X9_114 rf3_8 dX9_rank_70 ?_
  refine V_aloadn 73 0 O dX9_rank_73 rfl rfl ?_
  refine V_getR 74 O k39 fl_X9_41 rf39_1 dX9_rank_74 ?_
  refine V_getR 77 O k11 fl_X9_117 rf11_1 dX9_rank_77 ?_
  refine V_iloadn 80 1 O dX9_rank_80 rfl rfl ?_
  refine V_iald 81 O k12 dX9_rank_81 h (fun h => ?_)
  refine V_iald 82 O k10 dX9_rank_82 h (fun h => ?_)
  refine V_topi h (fun v4 h => ?_)
  refine V_istore 83 [1, 2, 3, 4, 0] [(0, .ref (zad G 39)), (1, .int x1), (2, .int x2), (3, .ref (zad G x3)), (4, .int v4)] O dX9_rank_83 (Nat.le_of_ble_eq_true rfl) rfl ?_
  refine V_iload 85 4 O dX9_rank_85 rfl ?_
  refine V_iconst 87 O dX9_rank_87 ci_m1 ?_
  refine V_icmp_ne 88 95 O dX9_rank_88 rfl h (fun h => ?_) (fun h => ?_)
  · refine V_iload 95 4 O dX9_rank_95 rfl ?_
    refine V_ineg 97 O dX9_rank_97 ?_
    exact V_iret 98 O E dX9_rank_98 h
  · refine V_iconst 91 O dX9_rank_91 ci_1 ?_
    refine V_goto 92 98 O dX9_rank_92 rfl ?_
    exact V_iret 98 O E dX9_rank_98 h
-- ==== Supply.isAhead(IILWaterTown$Stand;LWaterTown$Law;)Z
def s_X9_isAhead_3b (n : Nat) (rc3 : Int32 → Int32 → Nat → Nat → Int32 → Sg → Option (Int32 × Sg)) (x1 : Int32) (x2 : Int32) (x3 : Nat) (x4 : Nat) (x5 : Int32) (σ : Sg) : Option (Int32 × Sg) := if (σ x4 6) ≤ x5 then (some ((0 : Int32), σ)) else (bd (s_X2_key n x4 x5 σ) fun r2 σ1 => bd (s_X9_rank n x1 r2 x3 σ1) fun r4 σ3 => bd (s_X9_rank n x2 r2 x3 σ3) fun r6 σ5 => lt (r4 - r6) fun v7 => if v7 = 0 then (rc3 x1 x2 x3 x4 (x5 + (1 : Int32)) σ5) else (if 0 ≤ v7 then (some ((0 : Int32), σ5)) else (some ((1 : Int32), σ5))))
def s_X9_isAhead_3 (n : Nat) : Nat → Int32 → Int32 → Nat → Nat → Int32 → Sg → Option (Int32 × Sg)
  | 0 => fun _ _ _ _ _ _ => none
  | k + 1 => s_X9_isAhead_3b n (s_X9_isAhead_3 n k)
def s_X9_isAhead (n : Nat) (x1 : Int32) (x2 : Int32) (x3 : Nat) (x4 : Nat) (σ : Sg) : Option (Int32 × Sg) := s_X9_isAhead_3 n n x1 x2 x3 x4 (0 : Int32) σ
set_option maxRecDepth 20000 in
theorem b_X9_isAhead_3 {G : zG} {x : zX} {r : Int32} {τ : Sg} (O : zO G x cX9_isAhead RX9 1 40 8) (E : zE G x (some (.boolean)) (some (.int r)) τ) (n : Nat) (rc3 : Int32 → Int32 → Nat → Nat → Int32 → Sg → Option (Int32 × Sg)) (H3 : ∀ (x1 : Int32) (x2 : Int32) (x3 : Nat) (x4 : Nat) (x5 : Int32) (σ : Sg), zStand x3 → zLaw x4 → rc3 x1 x2 x3 x4 x5 σ = some (r, τ) → V G x σ [(0, .ref (zad G 39)), (1, .int x1), (2, .int x2), (3, .ref (zad G x3)), (4, .ref (zad G x4)), (5, .int x5)] 3 []) (x1 : Int32) (x2 : Int32) (x3 : Nat) (x4 : Nat) (x5 : Int32) (σ : Sg) (hx3 : zStand x3) (hx4 : zLaw x4) (h : s_X9_isAhead_3b n rc3 x1 x2 x3 x4 x5 σ = some (r, τ)) : V G x σ [(0, .ref (zad G 39)), (1, .int x1), (2, .int x2), (3, .ref (zad G x3)), (4, .ref (zad G x4)), (5, .int x5)] 3 [] := by
  unfold s_X9_isAhead_3b at h
  refine V_iload 3 5 O dX9_isAhead_3 rfl ?_
  refine V_aload 5 4 O dX9_isAhead_5 rfl ?_
  refine V_getI 7 O (zLaw_k hx4) fl_X9_103 dX9_isAhead_7 ?_
  refine V_icmp_ge 10 63 O dX9_isAhead_10 rfl h (fun h => ?_) (fun h => ?_)
  · refine V_iconst 63 O dX9_isAhead_63 ci_0 ?_
    exact V_zret0 64 O E dX9_isAhead_64 h
  · refine V_aload 13 4 O dX9_isAhead_13 rfl ?_
    refine V_iload 15 5 O dX9_isAhead_15 rfl ?_
    obtain ⟨r2, σ1, g, h⟩ := bd_of h
    refine V_callVi 17 [.int x5] [] O mf_X2_key lk_X9_106 (zLaw_k hx4) dX9_isAhead_17 rfl rfl (Nat.le_of_ble_eq_true rfl) ⟨(Nat.le_of_ble_eq_true rfl), (Nat.le_of_ble_eq_true rfl)⟩ (fun l => C_X2_key hx4 g) ?_
    refine V_istore 20 [1, 2, 3, 4, 5, 6, 0] [(0, .ref (zad G 39)), (1, .int x1), (2, .int x2), (3, .ref (zad G x3)), (4, .ref (zad G x4)), (5, .int x5), (6, .int r2)] O dX9_isAhead_20 (Nat.le_of_ble_eq_true rfl) rfl ?_
    refine V_aloadn 22 0 O dX9_isAhead_22 rfl rfl ?_
    refine V_iloadn 23 1 O dX9_isAhead_23 rfl rfl ?_
    refine V_iload 24 6 O dX9_isAhead_24 rfl ?_
    refine V_aloadn 26 3 O dX9_isAhead_26 rfl rfl ?_
    obtain ⟨r4, σ3, g, h⟩ := bd_of h
    refine V_callVi 27 [.int x1, .int r2, .ref (zad G x3)] [] O mf_X9_rank lk_X9_110 k39 dX9_isAhead_27 rfl rfl (Nat.le_of_ble_eq_true rfl) ⟨(Nat.le_of_ble_eq_true rfl), (Nat.le_of_ble_eq_true rfl)⟩ (fun l => C_X9_rank hx3 g) ?_
    refine V_aloadn 30 0 O dX9_isAhead_30 rfl rfl ?_
    refine V_iloadn 31 2 O dX9_isAhead_31 rfl rfl ?_
    refine V_iload 32 6 O dX9_isAhead_32 rfl ?_
    refine V_aloadn 34 3 O dX9_isAhead_34 rfl rfl ?_
    obtain ⟨r6, σ5, g, h⟩ := bd_of h
    refine V_callVi 35 [.int x2, .int r2, .ref (zad G x3)] [.int r4] O mf_X9_rank lk_X9_110 k39 dX9_isAhead_35 rfl rfl (Nat.le_of_ble_eq_true rfl) ⟨(Nat.le_of_ble_eq_true rfl), (Nat.le_of_ble_eq_true rfl)⟩ (fun l => C_X9_rank hx3 g) ?_
    refine V_isub 38 O dX9_isAhead_38 ?_
    refine V_topi h (fun v7 h => ?_)
    refine V_istore 39 [1, 2, 3, 4, 5, 6, 7, 0] [(0, .ref (zad G 39)), (1, .int x1), (2, .int x2), (3, .ref (zad G x3)), (4, .ref (zad G x4)), (5, .int x5), (6, .int r2), (7, .int v7)] O dX9_isAhead_39 (Nat.le_of_ble_eq_true rfl) rfl ?_
    refine V_iload 41 7 O dX9_isAhead_41 rfl ?_
    refine V_if_eq 43 57 O dX9_isAhead_43 rfl h (fun h => ?_) (fun h => ?_)
    · refine V_iinc 57 5 [1, 2, 3, 4, 5, 0, 6, 7] [(0, .ref (zad G 39)), (1, .int x1), (2, .int x2), (3, .ref (zad G x3)), (4, .ref (zad G x4)), (5, .int (x5 + (1 : Int32))), (6, .int r2), (7, .int v7)] O dX9_isAhead_57 rfl ci_1 (Nat.le_of_ble_eq_true rfl) rfl ?_
      refine V_goto 60 3 O dX9_isAhead_60 rfl ?_
      exact V_sub [0, 1, 2, 3, 4, 5] rfl (H3 x1 x2 x3 x4 (x5 + (1 : Int32)) σ5 hx3 hx4 h)
    · refine V_iload 46 7 O dX9_isAhead_46 rfl ?_
      refine V_if_ge 48 55 O dX9_isAhead_48 rfl h (fun h => ?_) (fun h => ?_)
      · refine V_iconst 55 O dX9_isAhead_55 ci_0 ?_
        exact V_zret0 56 O E dX9_isAhead_56 h
      · refine V_iconst 51 O dX9_isAhead_51 ci_1 ?_
        refine V_goto 52 56 O dX9_isAhead_52 rfl ?_
        exact V_zret1 56 O E dX9_isAhead_56 h
theorem bl_X9_isAhead_3 {G : zG} {x : zX} {r : Int32} {τ : Sg} (O : zO G x cX9_isAhead RX9 1 40 8) (E : zE G x (some (.boolean)) (some (.int r)) τ) (n : Nat) : ∀ (k : Nat) (x1 : Int32) (x2 : Int32) (x3 : Nat) (x4 : Nat) (x5 : Int32) (σ : Sg), zStand x3 → zLaw x4 → s_X9_isAhead_3 n k x1 x2 x3 x4 x5 σ = some (r, τ) → V G x σ [(0, .ref (zad G 39)), (1, .int x1), (2, .int x2), (3, .ref (zad G x3)), (4, .ref (zad G x4)), (5, .int x5)] 3 [] := by
  intro k
  induction k with
  | zero => intro x1 x2 x3 x4 x5 σ hx3 hx4 h; cases h
  | succ k ih => intro x1 x2 x3 x4 x5 σ hx3 hx4 h; exact b_X9_isAhead_3 O E n  (s_X9_isAhead_3 n  k) ih x1 x2 x3 x4 x5 σ hx3 hx4 h
set_option maxRecDepth 20000 in
theorem C_X9_isAhead {l : Launch} {G : zG} {n : Nat} {x1 : Int32} {x2 : Int32} {x3 : Nat} {x4 : Nat} {σ : Sg} {r : Int32} {τ : Sg} (hx3 : zStand x3) (hx4 : zLaw x4) (h : s_X9_isAhead n x1 x2 x3 x4 σ = some (r, τ)) : zM l G 1 yX9_isAhead (.code yX9_isAhead cX9_isAhead 8 (some (.boolean))) [.ref (zad G 39), .int x1, .int x2, .ref (zad G x3), .ref (zad G x4)] σ (some (.int r)) τ := by
  refine zM_of (by decide) (Nat.le_of_ble_eq_true rfl) (fun x O E => ?_)
  have O : zO G x cX9_isAhead RX9 1 40 8 := O
  unfold s_X9_isAhead at h
  show V G x σ [(0, .ref (zad G 39)), (1, .int x1), (2, .int x2), (3, .ref (zad G x3)), (4, .ref (zad G x4))] 0 []
  refine V_iconst 0 O dX9_isAhead_0 ci_0 ?_
  refine V_istore 1 [1, 2, 3, 4, 5, 0] [(0, .ref (zad G 39)), (1, .int x1), (2, .int x2), (3, .ref (zad G x3)), (4, .ref (zad G x4)), (5, .int (0 : Int32))] O dX9_isAhead_1 (Nat.le_of_ble_eq_true rfl) rfl ?_
  exact V_sub [0, 1, 2, 3, 4, 5] rfl (bl_X9_isAhead_3 O E n  n x1 x2 x3 x4 (0 : Int32) σ hx3 hx4 h)
-- ==== Supply.queueUp(ILWaterTown$Stand;LWaterTown$Law;)V
def s_X9_queueUp_52 (n : Nat) (x1 : Int32) (x4 : Int32) (σ : Sg) : Option Sg := ck x4 10 (lt (up2 σ 45 (ix x4) x1) fun σ5 => lt (up2 σ5 39 9 ((σ5 39 9) + (1 : Int32))) fun σ6 => some σ6)
def s_X9_queueUp_6b (n : Nat) (rc6 : Int32 → Nat → Nat → Int32 → Sg → Option Sg) (x1 : Int32) (x2 : Nat) (x3 : Nat) (x4 : Int32) (σ : Sg) : Option Sg := if x4 ≤ 0 then (s_X9_queueUp_52 n x1 x4 σ) else (ck (x4 - (1 : Int32)) 10 (bd (s_X9_isAhead n x1 (σ 45 (ix (x4 - (1 : Int32)))) x2 x3 σ) fun r3 σ2 => if r3 = 0 then (s_X9_queueUp_52 n x1 x4 σ2) else (ck (x4 - (1 : Int32)) 10 (ck x4 10 (lt (up2 σ2 45 (ix x4) (σ2 45 (ix (x4 - (1 : Int32))))) fun σ4 => rc6 x1 x2 x3 (x4 + (-1 : Int32)) σ4)))))
def s_X9_queueUp_6 (n : Nat) : Nat → Int32 → Nat → Nat → Int32 → Sg → Option Sg
  | 0 => fun _ _ _ _ _ => none
  | k + 1 => s_X9_queueUp_6b n (s_X9_queueUp_6 n k)
def s_X9_queueUp (n : Nat) (x1 : Int32) (x2 : Nat) (x3 : Nat) (σ : Sg) : Option Sg := lt (σ 39 9) fun v1 => s_X9_queueUp_6 n n x1 x2 x3 v1 σ
set_option maxRecDepth 20000 in
theorem b_X9_queueUp_52 {G : zG} {x : zX} {τ : Sg} (O : zO G x cX9_queueUp RX9 2 80 5) (E : zE G x none none τ) (n : Nat) (x1 : Int32) (x4 : Int32) (σ : Sg) (h : s_X9_queueUp_52 n x1 x4 σ = some τ) : V G x σ [(0, .ref (zad G 39)), (1, .int x1), (4, .int x4)] 52 [] := by
  unfold s_X9_queueUp_52 at h
  refine V_aloadn 52 0 O dX9_queueUp_52 rfl rfl ?_
  refine V_getR 53 O k39 fl_X9_34 rf39_8 dX9_queueUp_53 ?_
  refine V_iload 56 2 O dX9_queueUp_56 rfl ?_
  refine V_iloadn 58 1 O dX9_queueUp_58 rfl rfl ?_
  refine V_iast 59 O k45 dX9_queueUp_59 h (fun σ5 h => ?_)
  refine V_aloadn 60 0 O dX9_queueUp_60 rfl rfl ?_
  refine V_dup 61 O dX9_queueUp_61 rfl ?_
  refine V_getI 62 O k39 fl_X9_70 dX9_queueUp_62 ?_
  refine V_iconst 65 O dX9_queueUp_65 ci_1 ?_
  refine V_iadd 66 O dX9_queueUp_66 ?_
  refine V_put 67 O k39 fp_X9_70 dX9_queueUp_67 h (fun σ6 h => ?_)
  exact V_vret 70 O E dX9_queueUp_70 h
set_option maxRecDepth 20000 in
theorem b_X9_queueUp_6 {G : zG} {x : zX} {τ : Sg} (O : zO G x cX9_queueUp RX9 2 80 5) (E : zE G x none none τ) (n : Nat) (rc6 : Int32 → Nat → Nat → Int32 → Sg → Option Sg) (H6 : ∀ (x1 : Int32) (x2 : Nat) (x3 : Nat) (x4 : Int32) (σ : Sg), zStand x2 → zLaw x3 → rc6 x1 x2 x3 x4 σ = some τ → V G x σ [(0, .ref (zad G 39)), (1, .int x1), (2, .ref (zad G x2)), (3, .ref (zad G x3)), (4, .int x4)] 6 []) (x1 : Int32) (x2 : Nat) (x3 : Nat) (x4 : Int32) (σ : Sg) (hx2 : zStand x2) (hx3 : zLaw x3) (h : s_X9_queueUp_6b n rc6 x1 x2 x3 x4 σ = some τ) : V G x σ [(0, .ref (zad G 39)), (1, .int x1), (2, .ref (zad G x2)), (3, .ref (zad G x3)), (4, .int x4)] 6 [] := by
  unfold s_X9_queueUp_6b at h
  refine V_iload 6 4 O dX9_queueUp_6 rfl ?_
  refine V_if_le 8 52 O dX9_queueUp_8 rfl h (fun h => ?_) (fun h => ?_)
  · exact V_sub [0, 1, 4] rfl (b_X9_queueUp_52 O E n  x1 x4 σ  h)
  · refine V_aloadn 11 0 O dX9_queueUp_11 rfl rfl ?_
    refine V_iloadn 12 1 O dX9_queueUp_12 rfl rfl ?_
    refine V_aloadn 13 0 O dX9_queueUp_13 rfl rfl ?_
    refine V_getR 14 O k39 fl_X9_34 rf39_8 dX9_queueUp_14 ?_
    refine V_iload 17 4 O dX9_queueUp_17 rfl ?_
    refine V_iconst 19 O dX9_queueUp_19 ci_1 ?_
    refine V_isub 20 O dX9_queueUp_20 ?_
    refine V_iald 21 O k45 dX9_queueUp_21 h (fun h => ?_)
    refine V_aloadn 22 2 O dX9_queueUp_22 rfl rfl ?_
    refine V_aloadn 23 3 O dX9_queueUp_23 rfl rfl ?_
    obtain ⟨r3, σ2, g, h⟩ := bd_of h
    refine V_callVi 24 [.int x1, .int (σ 45 (ix (x4 - (1 : Int32)))), .ref (zad G x2), .ref (zad G x3)] [] O mf_X9_isAhead lk_X9_99 k39 dX9_queueUp_24 rfl rfl (Nat.le_of_ble_eq_true rfl) ⟨(Nat.le_of_ble_eq_true rfl), (Nat.le_of_ble_eq_true rfl)⟩ (fun l => C_X9_isAhead hx2 hx3 g) ?_
    refine V_if_eq 27 52 O dX9_queueUp_27 rfl h (fun h => ?_) (fun h => ?_)
    · exact V_sub [0, 1, 4] rfl (b_X9_queueUp_52 O E n  x1 x4 σ2  h)
    · refine V_aloadn 30 0 O dX9_queueUp_30 rfl rfl ?_
      refine V_getR 31 O k39 fl_X9_34 rf39_8 dX9_queueUp_31 ?_
      refine V_iload 34 4 O dX9_queueUp_34 rfl ?_
      refine V_aloadn 36 0 O dX9_queueUp_36 rfl rfl ?_
      refine V_getR 37 O k39 fl_X9_34 rf39_8 dX9_queueUp_37 ?_
      refine V_iload 40 4 O dX9_queueUp_40 rfl ?_
      refine V_iconst 42 O dX9_queueUp_42 ci_1 ?_
      refine V_isub 43 O dX9_queueUp_43 ?_
      refine V_iald 44 O k45 dX9_queueUp_44 h (fun h => ?_)
      refine V_iast 45 O k45 dX9_queueUp_45 h (fun σ4 h => ?_)
      refine V_iinc 46 4 [1, 2, 3, 4, 0] [(0, .ref (zad G 39)), (1, .int x1), (2, .ref (zad G x2)), (3, .ref (zad G x3)), (4, .int (x4 + (-1 : Int32)))] O dX9_queueUp_46 rfl ci_m1 (Nat.le_of_ble_eq_true rfl) rfl ?_
      refine V_goto 49 6 O dX9_queueUp_49 rfl ?_
      exact V_sub [0, 1, 2, 3, 4] rfl (H6 x1 x2 x3 (x4 + (-1 : Int32)) σ4 hx2 hx3 h)
theorem bl_X9_queueUp_6 {G : zG} {x : zX} {τ : Sg} (O : zO G x cX9_queueUp RX9 2 80 5) (E : zE G x none none τ) (n : Nat) : ∀ (k : Nat) (x1 : Int32) (x2 : Nat) (x3 : Nat) (x4 : Int32) (σ : Sg), zStand x2 → zLaw x3 → s_X9_queueUp_6 n k x1 x2 x3 x4 σ = some τ → V G x σ [(0, .ref (zad G 39)), (1, .int x1), (2, .ref (zad G x2)), (3, .ref (zad G x3)), (4, .int x4)] 6 [] := by
  intro k
  induction k with
  | zero => intro x1 x2 x3 x4 σ hx2 hx3 h; cases h
  | succ k ih => intro x1 x2 x3 x4 σ hx2 hx3 h; exact b_X9_queueUp_6 O E n  (s_X9_queueUp_6 n  k) ih x1 x2 x3 x4 σ hx2 hx3 h
set_option maxRecDepth 20000 in
theorem C_X9_queueUp {l : Launch} {G : zG} {n : Nat} {x1 : Int32} {x2 : Nat} {x3 : Nat} {σ : Sg} {τ : Sg} (hx2 : zStand x2) (hx3 : zLaw x3) (h : s_X9_queueUp n x1 x2 x3 σ = some τ) : zM l G 2 yX9_queueUp (.code yX9_queueUp cX9_queueUp 5 none) [.ref (zad G 39), .int x1, .ref (zad G x2), .ref (zad G x3)] σ none τ := by
  refine zM_of (by decide) (Nat.le_of_ble_eq_true rfl) (fun x O E => ?_)
  have O : zO G x cX9_queueUp RX9 2 80 5 := O
  unfold s_X9_queueUp at h
  show V G x σ [(0, .ref (zad G 39)), (1, .int x1), (2, .ref (zad G x2)), (3, .ref (zad G x3))] 0 []
  refine V_aloadn 0 0 O dX9_queueUp_0 rfl rfl ?_
  refine V_getI 1 O k39 fl_X9_70 dX9_queueUp_1 ?_
  refine V_topi h (fun v1 h => ?_)
  refine V_istore 4 [1, 2, 3, 4, 0] [(0, .ref (zad G 39)), (1, .int x1), (2, .ref (zad G x2)), (3, .ref (zad G x3)), (4, .int v1)] O dX9_queueUp_4 (Nat.le_of_ble_eq_true rfl) rfl ?_
  exact V_sub [0, 1, 2, 3, 4] rfl (bl_X9_queueUp_6 O E n  n x1 x2 x3 v1 σ hx2 hx3 h)
-- ==== Supply.ask(LWaterTown$Stand;LWaterTown$Law;I)V
def s_X9_ask_148 (n : Nat) (rc38 : Nat → Nat → Int32 → Int32 → Sg → Option Sg) (x1 : Nat) (x2 : Nat) (x4 : Int32) (x5 : Int32) (σ : Sg) : Option Sg := bdv (s_X9_queueUp n x5 x1 x2 σ) fun σ11 => rc38 x1 x2 x4 (x5 + (1 : Int32)) σ11
def s_X9_ask_82 (n : Nat) (rc38 : Nat → Nat → Int32 → Int32 → Sg → Option Sg) (x1 : Nat) (x2 : Nat) (x4 : Int32) (x5 : Int32) (σ : Sg) : Option Sg := ck x5 10 (ck x5 10 (ck x5 10 (lt (up2 σ 41 (ix x5) ((σ 14 (ix x5)) + (σ 15 (ix x5)))) fun σ9 => ck x5 10 (if (σ9 (rf x1 0) (ix x5)) = 0 then (ck x5 10 (ck x5 10 (ck x5 10 (ck x5 10 (lt (up2 σ9 41 (ix x5) ((σ9 41 (ix x5)) + ((σ9 16 (ix x5)) - (σ9 (rf x1 1) (ix x5))))) fun σ10 => s_X9_ask_148 n rc38 x1 x2 x4 x5 σ10))))) else (s_X9_ask_148 n rc38 x1 x2 x4 x5 σ9)))))
def s_X9_ask_38b (n : Nat) (rc38 : Nat → Nat → Int32 → Int32 → Sg → Option Sg) (x1 : Nat) (x2 : Nat) (x4 : Int32) (x5 : Int32) (σ : Sg) : Option Sg := if (σ 11 0) ≤ x5 then (some σ) else (ck x5 10 (lt (up2 σ 41 (ix x5) (0 : Int32)) fun σ7 => ck x5 10 (lt (up2 σ7 42 (ix x5) (0 : Int32)) fun σ8 => ck x5 10 (if (σ8 (rf x1 0) (ix x5)) = (1 : Int32) then (s_X9_ask_82 n rc38 x1 x2 x4 x5 σ8) else (if x4 = 0 then (rc38 x1 x2 x4 (x5 + (1 : Int32)) σ8) else (s_X9_ask_82 n rc38 x1 x2 x4 x5 σ8))))))
def s_X9_ask_38 (n : Nat) : Nat → Nat → Nat → Int32 → Int32 → Sg → Option Sg
  | 0 => fun _ _ _ _ _ => none
  | k + 1 => s_X9_ask_38b n (s_X9_ask_38 n k)
def s_X9_ask_23 (n : Nat) (x1 : Nat) (x2 : Nat) (x3 : Int32) (σ : Sg) : Option Sg := bd (s_X2_isTurnHour n x2 x3 σ) fun r5 σ4 => lt (up2 σ4 39 9 (0 : Int32)) fun σ6 => s_X9_ask_38 n n x1 x2 r5 (0 : Int32) σ6
def s_X9_ask (n : Nat) (x1 : Nat) (x2 : Nat) (x3 : Int32) (σ : Sg) : Option Sg := bd (s_X2_hasKey n x2 (3 : Int32) σ) fun r2 σ1 => if r2 = 0 then (s_X9_ask_23 n x1 x2 x3 σ1) else (bdv (s_X4_measure n (σ1 3 1) (0 : Int32) σ1) fun σ3 => s_X9_ask_23 n x1 x2 x3 σ3)
set_option maxRecDepth 20000 in
theorem b_X9_ask_148 {G : zG} {x : zX} {τ : Sg} (O : zO G x cX9_ask RX9 3 120 6) (E : zE G x none none τ) (n : Nat) (rc38 : Nat → Nat → Int32 → Int32 → Sg → Option Sg) (H38 : ∀ (x1 : Nat) (x2 : Nat) (x4 : Int32) (x5 : Int32) (σ : Sg), zStand x1 → zLaw x2 → rc38 x1 x2 x4 x5 σ = some τ → V G x σ [(0, .ref (zad G 39)), (1, .ref (zad G x1)), (2, .ref (zad G x2)), (4, .int x4), (5, .int x5)] 38 []) (x1 : Nat) (x2 : Nat) (x4 : Int32) (x5 : Int32) (σ : Sg) (hx1 : zStand x1) (hx2 : zLaw x2) (h : s_X9_ask_148 n rc38 x1 x2 x4 x5 σ = some τ) : V G x σ [(0, .ref (zad G 39)), (1, .ref (zad G x1)), (2, .ref (zad G x2)), (4, .int x4), (5, .int x5)] 148 [] := by
  unfold s_X9_ask_148 at h
  refine V_aloadn 148 0 O dX9_ask_148 rfl rfl ?_
  refine V_iload 149 4 O dX9_ask_149 rfl ?_
  refine V_aloadn 151 1 O dX9_ask_151 rfl rfl ?_
  refine V_aloadn 152 2 O dX9_ask_152 rfl rfl ?_
  obtain ⟨σ11, g, h⟩ := bdv_of h
  refine V_callVv 153 [.int x5, .ref (zad G x1), .ref (zad G x2)] [] O mf_X9_queueUp lk_X9_95 k39 dX9_ask_153 rfl rfl (Nat.le_of_ble_eq_true rfl) ⟨(Nat.le_of_ble_eq_true rfl), (Nat.le_of_ble_eq_true rfl)⟩ (fun l => C_X9_queueUp hx1 hx2 g) ?_
  refine V_iinc 156 4 [1, 2, 3, 4, 0] [(0, .ref (zad G 39)), (1, .ref (zad G x1)), (2, .ref (zad G x2)), (4, .int x4), (5, .int (x5 + (1 : Int32)))] O dX9_ask_156 rfl ci_1 (Nat.le_of_ble_eq_true rfl) rfl ?_
  refine V_goto 159 38 O dX9_ask_159 rfl ?_
  exact V_sub [0, 1, 2, 3, 4] rfl (H38 x1 x2 x4 (x5 + (1 : Int32)) σ11 hx1 hx2 h)
set_option maxRecDepth 20000 in
theorem b_X9_ask_82 {G : zG} {x : zX} {τ : Sg} (O : zO G x cX9_ask RX9 3 120 6) (E : zE G x none none τ) (n : Nat) (rc38 : Nat → Nat → Int32 → Int32 → Sg → Option Sg) (H38 : ∀ (x1 : Nat) (x2 : Nat) (x4 : Int32) (x5 : Int32) (σ : Sg), zStand x1 → zLaw x2 → rc38 x1 x2 x4 x5 σ = some τ → V G x σ [(0, .ref (zad G 39)), (1, .ref (zad G x1)), (2, .ref (zad G x2)), (4, .int x4), (5, .int x5)] 38 []) (x1 : Nat) (x2 : Nat) (x4 : Int32) (x5 : Int32) (σ : Sg) (hx1 : zStand x1) (hx2 : zLaw x2) (h : s_X9_ask_82 n rc38 x1 x2 x4 x5 σ = some τ) : V G x σ [(0, .ref (zad G 39)), (1, .ref (zad G x1)), (2, .ref (zad G x2)), (4, .int x4), (5, .int x5)] 82 [] := by
  unfold s_X9_ask_82 at h
  refine V_aloadn 82 0 O dX9_ask_82 rfl rfl ?_
  refine V_getR 83 O k39 fl_X9_22 rf39_4 dX9_ask_83 ?_
  refine V_iload 86 4 O dX9_ask_86 rfl ?_
  refine V_aloadn 88 0 O dX9_ask_88 rfl rfl ?_
  refine V_getR 89 O k39 fl_X9_41 rf39_1 dX9_ask_89 ?_
  refine V_getR 92 O k11 fl_X9_83 rf11_3 dX9_ask_92 ?_
  refine V_iload 95 4 O dX9_ask_95 rfl ?_
  refine V_iald 97 O k14 dX9_ask_97 h (fun h => ?_)
  refine V_aloadn 98 0 O dX9_ask_98 rfl rfl ?_
  refine V_getR 99 O k39 fl_X9_41 rf39_1 dX9_ask_99 ?_
  refine V_getR 102 O k11 fl_X9_86 rf11_4 dX9_ask_102 ?_
  refine V_iload 105 4 O dX9_ask_105 rfl ?_
  refine V_iald 107 O k15 dX9_ask_107 h (fun h => ?_)
  refine V_iadd 108 O dX9_ask_108 ?_
  refine V_iast 109 O k41 dX9_ask_109 h (fun σ9 h => ?_)
  refine V_aloadn 110 1 O dX9_ask_110 rfl rfl ?_
  refine V_getR 111 O (zStand_k hx1) fl_X9_78 rfl dX9_ask_111 ?_
  refine V_iload 114 4 O dX9_ask_114 rfl ?_
  refine V_iald 116 O (zStand_0 hx1) dX9_ask_116 h (fun h => ?_)
  refine V_if_ne 117 148 O dX9_ask_117 rfl h (fun h => ?_) (fun h => ?_)
  · exact V_sub [0, 1, 2, 3, 4] rfl (b_X9_ask_148 O E n rc38 H38 x1 x2 x4 x5 σ9 hx1 hx2 h)
  · refine V_aloadn 120 0 O dX9_ask_120 rfl rfl ?_
    refine V_getR 121 O k39 fl_X9_22 rf39_4 dX9_ask_121 ?_
    refine V_iload 124 4 O dX9_ask_124 rfl ?_
    refine V_dup2 126 O dX9_ask_126 rfl rfl ?_
    refine V_iald 127 O k41 dX9_ask_127 h (fun h => ?_)
    refine V_aloadn 128 0 O dX9_ask_128 rfl rfl ?_
    refine V_getR 129 O k39 fl_X9_41 rf39_1 dX9_ask_129 ?_
    refine V_getR 132 O k11 fl_X9_89 rf11_5 dX9_ask_132 ?_
    refine V_iload 135 4 O dX9_ask_135 rfl ?_
    refine V_iald 137 O k16 dX9_ask_137 h (fun h => ?_)
    refine V_aloadn 138 1 O dX9_ask_138 rfl rfl ?_
    refine V_getR 139 O (zStand_k hx1) fl_X9_92 rfl dX9_ask_139 ?_
    refine V_iload 142 4 O dX9_ask_142 rfl ?_
    refine V_iald 144 O (zStand_1 hx1) dX9_ask_144 h (fun h => ?_)
    refine V_isub 145 O dX9_ask_145 ?_
    refine V_iadd 146 O dX9_ask_146 ?_
    refine V_iast 147 O k41 dX9_ask_147 h (fun σ10 h => ?_)
    exact V_sub [0, 1, 2, 3, 4] rfl (b_X9_ask_148 O E n rc38 H38 x1 x2 x4 x5 σ10 hx1 hx2 h)
set_option maxRecDepth 20000 in
theorem b_X9_ask_38 {G : zG} {x : zX} {τ : Sg} (O : zO G x cX9_ask RX9 3 120 6) (E : zE G x none none τ) (n : Nat) (rc38 : Nat → Nat → Int32 → Int32 → Sg → Option Sg) (H38 : ∀ (x1 : Nat) (x2 : Nat) (x4 : Int32) (x5 : Int32) (σ : Sg), zStand x1 → zLaw x2 → rc38 x1 x2 x4 x5 σ = some τ → V G x σ [(0, .ref (zad G 39)), (1, .ref (zad G x1)), (2, .ref (zad G x2)), (4, .int x4), (5, .int x5)] 38 []) (x1 : Nat) (x2 : Nat) (x4 : Int32) (x5 : Int32) (σ : Sg) (hx1 : zStand x1) (hx2 : zLaw x2) (h : s_X9_ask_38b n rc38 x1 x2 x4 x5 σ = some τ) : V G x σ [(0, .ref (zad G 39)), (1, .ref (zad G x1)), (2, .ref (zad G x2)), (4, .int x4), (5, .int x5)] 38 [] := by
  unfold s_X9_ask_38b at h
  refine V_iload 38 4 O dX9_ask_38 rfl ?_
  refine V_aloadn 40 0 O dX9_ask_40 rfl rfl ?_
  refine V_getR 41 O k39 fl_X9_41 rf39_1 dX9_ask_41 ?_
  refine V_getI 44 O k11 fl_X9_73 dX9_ask_44 ?_
  refine V_icmp_ge 47 162 O dX9_ask_47 rfl h (fun h => ?_) (fun h => ?_)
  · exact V_vret 162 O E dX9_ask_162 h
  · refine V_aloadn 50 0 O dX9_ask_50 rfl rfl ?_
    refine V_getR 51 O k39 fl_X9_22 rf39_4 dX9_ask_51 ?_
    refine V_iload 54 4 O dX9_ask_54 rfl ?_
    refine V_iconst 56 O dX9_ask_56 ci_0 ?_
    refine V_iast 57 O k41 dX9_ask_57 h (fun σ7 h => ?_)
    refine V_aloadn 58 0 O dX9_ask_58 rfl rfl ?_
    refine V_getR 59 O k39 fl_X9_25 rf39_5 dX9_ask_59 ?_
    refine V_iload 62 4 O dX9_ask_62 rfl ?_
    refine V_iconst 64 O dX9_ask_64 ci_0 ?_
    refine V_iast 65 O k42 dX9_ask_65 h (fun σ8 h => ?_)
    refine V_aloadn 66 1 O dX9_ask_66 rfl rfl ?_
    refine V_getR 67 O (zStand_k hx1) fl_X9_78 rfl dX9_ask_67 ?_
    refine V_iload 70 4 O dX9_ask_70 rfl ?_
    refine V_iald 72 O (zStand_0 hx1) dX9_ask_72 h (fun h => ?_)
    refine V_iconst 73 O dX9_ask_73 ci_1 ?_
    refine V_icmp_eq 74 82 O dX9_ask_74 rfl h (fun h => ?_) (fun h => ?_)
    · exact V_sub [0, 1, 2, 3, 4] rfl (b_X9_ask_82 O E n rc38 H38 x1 x2 x4 x5 σ8 hx1 hx2 h)
    · refine V_iload 77 3 O dX9_ask_77 rfl ?_
      refine V_if_eq 79 156 O dX9_ask_79 rfl h (fun h => ?_) (fun h => ?_)
      · refine V_iinc 156 4 [1, 2, 3, 4, 0] [(0, .ref (zad G 39)), (1, .ref (zad G x1)), (2, .ref (zad G x2)), (4, .int x4), (5, .int (x5 + (1 : Int32)))] O dX9_ask_156 rfl ci_1 (Nat.le_of_ble_eq_true rfl) rfl ?_
        refine V_goto 159 38 O dX9_ask_159 rfl ?_
        exact V_sub [0, 1, 2, 3, 4] rfl (H38 x1 x2 x4 (x5 + (1 : Int32)) σ8 hx1 hx2 h)
      · exact V_sub [0, 1, 2, 3, 4] rfl (b_X9_ask_82 O E n rc38 H38 x1 x2 x4 x5 σ8 hx1 hx2 h)
theorem bl_X9_ask_38 {G : zG} {x : zX} {τ : Sg} (O : zO G x cX9_ask RX9 3 120 6) (E : zE G x none none τ) (n : Nat) : ∀ (k : Nat) (x1 : Nat) (x2 : Nat) (x4 : Int32) (x5 : Int32) (σ : Sg), zStand x1 → zLaw x2 → s_X9_ask_38 n k x1 x2 x4 x5 σ = some τ → V G x σ [(0, .ref (zad G 39)), (1, .ref (zad G x1)), (2, .ref (zad G x2)), (4, .int x4), (5, .int x5)] 38 [] := by
  intro k
  induction k with
  | zero => intro x1 x2 x4 x5 σ hx1 hx2 h; cases h
  | succ k ih => intro x1 x2 x4 x5 σ hx1 hx2 h; exact b_X9_ask_38 O E n  (s_X9_ask_38 n  k) ih x1 x2 x4 x5 σ hx1 hx2 h
set_option maxRecDepth 20000 in
theorem b_X9_ask_23 {G : zG} {x : zX} {τ : Sg} (O : zO G x cX9_ask RX9 3 120 6) (E : zE G x none none τ) (n : Nat) (x1 : Nat) (x2 : Nat) (x3 : Int32) (σ : Sg) (hx1 : zStand x1) (hx2 : zLaw x2) (h : s_X9_ask_23 n x1 x2 x3 σ = some τ) : V G x σ [(0, .ref (zad G 39)), (1, .ref (zad G x1)), (2, .ref (zad G x2)), (3, .int x3)] 23 [] := by
  unfold s_X9_ask_23 at h
  refine V_aloadn 23 2 O dX9_ask_23 rfl rfl ?_
  refine V_iloadn 24 3 O dX9_ask_24 rfl rfl ?_
  obtain ⟨r5, σ4, g, h⟩ := bd_of h
  refine V_callVi 25 [.int x3] [] O mf_X2_isTurnHour lk_X9_67 (zLaw_k hx2) dX9_ask_25 rfl rfl (Nat.le_of_ble_eq_true rfl) ⟨(Nat.le_of_ble_eq_true rfl), (Nat.le_of_ble_eq_true rfl)⟩ (fun l => C_X2_isTurnHour hx2 g) ?_
  refine V_istore 28 [1, 2, 3, 4, 0] [(0, .ref (zad G 39)), (1, .ref (zad G x1)), (2, .ref (zad G x2)), (3, .int x3), (4, .int r5)] O dX9_ask_28 (Nat.le_of_ble_eq_true rfl) rfl ?_
  refine V_aloadn 30 0 O dX9_ask_30 rfl rfl ?_
  refine V_iconst 31 O dX9_ask_31 ci_0 ?_
  refine V_put 32 O k39 fp_X9_70 dX9_ask_32 h (fun σ6 h => ?_)
  refine V_iconst 35 O dX9_ask_35 ci_0 ?_
  refine V_istore 36 [1, 2, 3, 4, 5, 0] [(0, .ref (zad G 39)), (1, .ref (zad G x1)), (2, .ref (zad G x2)), (3, .int x3), (4, .int r5), (5, .int (0 : Int32))] O dX9_ask_36 (Nat.le_of_ble_eq_true rfl) rfl ?_
  exact V_sub [0, 1, 2, 4, 5] rfl (bl_X9_ask_38 O E n  n x1 x2 r5 (0 : Int32) σ6 hx1 hx2 h)
set_option maxRecDepth 20000 in
theorem C_X9_ask {l : Launch} {G : zG} {n : Nat} {x1 : Nat} {x2 : Nat} {x3 : Int32} {σ : Sg} {τ : Sg} (hx1 : zStand x1) (hx2 : zLaw x2) (h : s_X9_ask n x1 x2 x3 σ = some τ) : zM l G 3 yX9_ask (.code yX9_ask cX9_ask 6 none) [.ref (zad G 39), .ref (zad G x1), .ref (zad G x2), .int x3] σ none τ := by
  refine zM_of (by decide) (Nat.le_of_ble_eq_true rfl) (fun x O E => ?_)
  have O : zO G x cX9_ask RX9 3 120 6 := O
  unfold s_X9_ask at h
  show V G x σ [(0, .ref (zad G 39)), (1, .ref (zad G x1)), (2, .ref (zad G x2)), (3, .int x3)] 0 []
  refine V_aloadn 0 2 O dX9_ask_0 rfl rfl ?_
  refine V_iconst 1 O dX9_ask_1 ci_3 ?_
  obtain ⟨r2, σ1, g, h⟩ := bd_of h
  refine V_callVi 2 [.int (3 : Int32)] [] O mf_X2_hasKey lk_X9_51 (zLaw_k hx2) dX9_ask_2 rfl rfl (Nat.le_of_ble_eq_true rfl) ⟨(Nat.le_of_ble_eq_true rfl), (Nat.le_of_ble_eq_true rfl)⟩ (fun l => C_X2_hasKey hx2 g) ?_
  refine V_if_eq 5 23 O dX9_ask_5 rfl h (fun h => ?_) (fun h => ?_)
  · exact V_sub [0, 1, 2, 3] rfl (b_X9_ask_23 O E n  x1 x2 x3 σ1 hx1 hx2 h)
  · refine V_aloadn 8 0 O dX9_ask_8 rfl rfl ?_
    refine V_getR 9 O k39 fl_X9_37 rf39_0 dX9_ask_9 ?_
    refine V_aloadn 12 0 O dX9_ask_12 rfl rfl ?_
    refine V_getR 13 O k39 fl_X9_37 rf39_0 dX9_ask_13 ?_
    refine V_getI 16 O k3 fl_X9_57 dX9_ask_16 ?_
    refine V_iconst 19 O dX9_ask_19 ci_0 ?_
    obtain ⟨σ3, g, h⟩ := bdv_of h
    refine V_callVv 20 [.int (σ1 3 1), .int (0 : Int32)] [] O mf_X4_measure lk_X9_63 k3 dX9_ask_20 rfl rfl (Nat.le_of_ble_eq_true rfl) ⟨(Nat.le_of_ble_eq_true rfl), (Nat.le_of_ble_eq_true rfl)⟩ (fun l => C_X4_measure  g) ?_
    exact V_sub [0, 1, 2, 3] rfl (b_X9_ask_23 O E n  x1 x2 x3 σ3 hx1 hx2 h)
-- ==== Supply.begin(III)V
def s_X9_begin_27b (n : Nat) (rc27 : Int32 → Sg → Option Sg) (x4 : Int32) (σ : Sg) : Option Sg := if (σ 3 0) ≤ x4 then (some σ) else (bd (s_X4_isOpen n x4 σ) fun r4 σ3 => if r4 = 0 then (rc27 (x4 + (1 : Int32)) σ3) else (ck x4 20 (ck x4 20 (bd (s_X3_send n (σ3 4 (ix x4)) (σ3 7 (ix x4)) σ3) fun r6 σ5 => lt (up2 σ5 39 10 ((σ3 39 10) + r6)) fun σ7 => rc27 (x4 + (1 : Int32)) σ7))))
def s_X9_begin_27 (n : Nat) : Nat → Int32 → Sg → Option Sg
  | 0 => fun _ _ => none
  | k + 1 => s_X9_begin_27b n (s_X9_begin_27 n k)
def s_X9_begin (n : Nat) (x1 : Int32) (x2 : Int32) (x3 : Int32) (σ : Sg) : Option Sg := ck x1 24 (bdv (s_X3_begin n (σ 40 (ix x1)) x2 x3 σ) fun σ1 => lt (up2 σ1 39 10 (0 : Int32)) fun σ2 => s_X9_begin_27 n n (0 : Int32) σ2)
set_option maxRecDepth 20000 in
theorem b_X9_begin_27 {G : zG} {x : zX} {τ : Sg} (O : zO G x cX9_begin RX9 3 120 5) (E : zE G x none none τ) (n : Nat) (rc27 : Int32 → Sg → Option Sg) (H27 : ∀ (x4 : Int32) (σ : Sg), rc27 x4 σ = some τ → V G x σ [(0, .ref (zad G 39)), (4, .int x4)] 27 []) (x4 : Int32) (σ : Sg) (h : s_X9_begin_27b n rc27 x4 σ = some τ) : V G x σ [(0, .ref (zad G 39)), (4, .int x4)] 27 [] := by
  unfold s_X9_begin_27b at h
  refine V_iload 27 1 O dX9_begin_27 rfl ?_
  refine V_aloadn 29 0 O dX9_begin_29 rfl rfl ?_
  refine V_getR 30 O k39 fl_X9_37 rf39_0 dX9_begin_30 ?_
  refine V_getI 33 O k3 fl_X9_127 dX9_begin_33 ?_
  refine V_icmp_ge 36 93 O dX9_begin_36 rfl h (fun h => ?_) (fun h => ?_)
  · exact V_vret 93 O E dX9_begin_93 h
  · refine V_aloadn 39 0 O dX9_begin_39 rfl rfl ?_
    refine V_getR 40 O k39 fl_X9_37 rf39_0 dX9_begin_40 ?_
    refine V_iload 43 1 O dX9_begin_43 rfl ?_
    obtain ⟨r4, σ3, g, h⟩ := bd_of h
    refine V_callVi 45 [.int x4] [] O mf_X4_isOpen lk_X9_128 k3 dX9_begin_45 rfl rfl (Nat.le_of_ble_eq_true rfl) ⟨(Nat.le_of_ble_eq_true rfl), (Nat.le_of_ble_eq_true rfl)⟩ (fun l => C_X4_isOpen  g) ?_
    refine V_if_eq 48 87 O dX9_begin_48 rfl h (fun h => ?_) (fun h => ?_)
    · refine V_iinc 87 1 [1, 0] [(0, .ref (zad G 39)), (4, .int (x4 + (1 : Int32)))] O dX9_begin_87 rfl ci_1 (Nat.le_of_ble_eq_true rfl) rfl ?_
      refine V_goto 90 27 O dX9_begin_90 rfl ?_
      exact V_sub [0, 1] rfl (H27 (x4 + (1 : Int32)) σ3  h)
    · refine V_aloadn 51 0 O dX9_begin_51 rfl rfl ?_
      refine V_dup 52 O dX9_begin_52 rfl ?_
      refine V_getI 53 O k39 fl_X9_124 dX9_begin_53 ?_
      refine V_aloadn 56 0 O dX9_begin_56 rfl rfl ?_
      refine V_getR 57 O k39 fl_X9_12 rf39_2 dX9_begin_57 ?_
      refine V_aloadn 60 0 O dX9_begin_60 rfl rfl ?_
      refine V_getR 61 O k39 fl_X9_37 rf39_0 dX9_begin_61 ?_
      refine V_getR 64 O k3 fl_X9_131 rf3_2 dX9_begin_64 ?_
      refine V_iload 67 1 O dX9_begin_67 rfl ?_
      refine V_iald 69 O k4 dX9_begin_69 h (fun h => ?_)
      refine V_aloadn 70 0 O dX9_begin_70 rfl rfl ?_
      refine V_getR 71 O k39 fl_X9_37 rf39_0 dX9_begin_71 ?_
      refine V_getR 74 O k3 fl_X9_134 rf3_5 dX9_begin_74 ?_
      refine V_iload 77 1 O dX9_begin_77 rfl ?_
      refine V_iald 79 O k7 dX9_begin_79 h (fun h => ?_)
      obtain ⟨r6, σ5, g, h⟩ := bd_of h
      refine V_callVi 80 [.int (σ3 4 (ix x4)), .int (σ3 7 (ix x4))] [.int (σ3 39 10), .ref (zad G 39)] O mf_X3_send lk_X9_137 k46 dX9_begin_80 rfl rfl (Nat.le_of_ble_eq_true rfl) ⟨(Nat.le_of_ble_eq_true rfl), (Nat.le_of_ble_eq_true rfl)⟩ (fun l => C_X3_send  g) ?_
      refine V_iadd 83 O dX9_begin_83 ?_
      refine V_put 84 O k39 fp_X9_124 dX9_begin_84 h (fun σ7 h => ?_)
      refine V_iinc 87 1 [1, 0] [(0, .ref (zad G 39)), (4, .int (x4 + (1 : Int32)))] O dX9_begin_87 rfl ci_1 (Nat.le_of_ble_eq_true rfl) rfl ?_
      refine V_goto 90 27 O dX9_begin_90 rfl ?_
      exact V_sub [0, 1] rfl (H27 (x4 + (1 : Int32)) σ7  h)
theorem bl_X9_begin_27 {G : zG} {x : zX} {τ : Sg} (O : zO G x cX9_begin RX9 3 120 5) (E : zE G x none none τ) (n : Nat) : ∀ (k : Nat) (x4 : Int32) (σ : Sg), s_X9_begin_27 n k x4 σ = some τ → V G x σ [(0, .ref (zad G 39)), (4, .int x4)] 27 [] := by
  intro k
  induction k with
  | zero => intro x4 σ  h; cases h
  | succ k ih => intro x4 σ  h; exact b_X9_begin_27 O E n  (s_X9_begin_27 n  k) ih x4 σ  h
set_option maxRecDepth 20000 in
theorem C_X9_begin {l : Launch} {G : zG} {n : Nat} {x1 : Int32} {x2 : Int32} {x3 : Int32} {σ : Sg} {τ : Sg} (h : s_X9_begin n x1 x2 x3 σ = some τ) : zM l G 3 yX9_begin (.code yX9_begin cX9_begin 5 none) [.ref (zad G 39), .int x1, .int x2, .int x3] σ none τ := by
  refine zM_of (by decide) (Nat.le_of_ble_eq_true rfl) (fun x O E => ?_)
  have O : zO G x cX9_begin RX9 3 120 5 := O
  unfold s_X9_begin at h
  show V G x σ [(0, .ref (zad G 39)), (1, .int x1), (2, .int x2), (3, .int x3)] 0 []
  refine V_aloadn 0 0 O dX9_begin_0 rfl rfl ?_
  refine V_getR 1 O k39 fl_X9_12 rf39_2 dX9_begin_1 ?_
  refine V_aloadn 4 0 O dX9_begin_4 rfl rfl ?_
  refine V_getR 5 O k39 fl_X9_37 rf39_0 dX9_begin_5 ?_
  refine V_aloadn 8 0 O dX9_begin_8 rfl rfl ?_
  refine V_getR 9 O k39 fl_X9_18 rf39_3 dX9_begin_9 ?_
  refine V_iloadn 12 1 O dX9_begin_12 rfl rfl ?_
  refine V_iald 13 O k40 dX9_begin_13 h (fun h => ?_)
  refine V_iloadn 14 2 O dX9_begin_14 rfl rfl ?_
  refine V_iloadn 15 3 O dX9_begin_15 rfl rfl ?_
  obtain ⟨σ1, g, h⟩ := bdv_of h
  refine V_callVv 16 [.ref (zad G 3), .int (σ 40 (ix x1)), .int x2, .int x3] [] O mf_X3_begin lk_X9_120 k46 dX9_begin_16 rfl rfl (Nat.le_of_ble_eq_true rfl) ⟨(Nat.le_of_ble_eq_true rfl), (Nat.le_of_ble_eq_true rfl)⟩ (fun l => C_X3_begin  g) ?_
  refine V_aloadn 19 0 O dX9_begin_19 rfl rfl ?_
  refine V_iconst 20 O dX9_begin_20 ci_0 ?_
  refine V_put 21 O k39 fp_X9_124 dX9_begin_21 h (fun σ2 h => ?_)
  refine V_iconst 24 O dX9_begin_24 ci_0 ?_
  refine V_istore 25 [1, 2, 3, 4, 0] [(0, .ref (zad G 39)), (1, .int x1), (2, .int x2), (3, .int x3), (4, .int (0 : Int32))] O dX9_begin_25 (Nat.le_of_ble_eq_true rfl) rfl ?_
  exact V_sub [0, 4] rfl (bl_X9_begin_27 O E n  n (0 : Int32) σ2  h)
-- ==== Supply.serve()V
def s_X9_serve_2b (n : Nat) (rc2 : Int32 → Sg → Option Sg) (x1 : Int32) (σ : Sg) : Option Sg := if (σ 39 9) ≤ x1 then (some σ) else (ck x1 10 (lt (σ 45 (ix x1)) fun v1 => ck v1 10 (ck v1 10 (bd (s_X3_send n (σ 12 (ix v1)) (σ 41 (ix v1)) σ) fun r3 σ2 => ck v1 10 (lt (up2 σ2 42 (ix v1) r3) fun σ4 => rc2 (x1 + (1 : Int32)) σ4)))))
def s_X9_serve_2 (n : Nat) : Nat → Int32 → Sg → Option Sg
  | 0 => fun _ _ => none
  | k + 1 => s_X9_serve_2b n (s_X9_serve_2 n k)
def s_X9_serve (n : Nat) (σ : Sg) : Option Sg := s_X9_serve_2 n n (0 : Int32) σ
set_option maxRecDepth 20000 in
theorem b_X9_serve_2 {G : zG} {x : zX} {τ : Sg} (O : zO G x cX9_serve RX9 3 120 3) (E : zE G x none none τ) (n : Nat) (rc2 : Int32 → Sg → Option Sg) (H2 : ∀ (x1 : Int32) (σ : Sg), rc2 x1 σ = some τ → V G x σ [(0, .ref (zad G 39)), (1, .int x1)] 2 []) (x1 : Int32) (σ : Sg) (h : s_X9_serve_2b n rc2 x1 σ = some τ) : V G x σ [(0, .ref (zad G 39)), (1, .int x1)] 2 [] := by
  unfold s_X9_serve_2b at h
  refine V_iloadn 2 1 O dX9_serve_2 rfl rfl ?_
  refine V_aloadn 3 0 O dX9_serve_3 rfl rfl ?_
  refine V_getI 4 O k39 fl_X9_70 dX9_serve_4 ?_
  refine V_icmp_ge 7 51 O dX9_serve_7 rfl h (fun h => ?_) (fun h => ?_)
  · exact V_vret 51 O E dX9_serve_51 h
  · refine V_aloadn 10 0 O dX9_serve_10 rfl rfl ?_
    refine V_getR 11 O k39 fl_X9_34 rf39_8 dX9_serve_11 ?_
    refine V_iloadn 14 1 O dX9_serve_14 rfl rfl ?_
    refine V_iald 15 O k45 dX9_serve_15 h (fun h => ?_)
    refine V_topi h (fun v1 h => ?_)
    refine V_istoren 16 [1, 2, 0] [(0, .ref (zad G 39)), (1, .int x1), (2, .int v1)] O dX9_serve_16 rfl (Nat.le_of_ble_eq_true rfl) rfl ?_
    refine V_aloadn 17 0 O dX9_serve_17 rfl rfl ?_
    refine V_getR 18 O k39 fl_X9_25 rf39_5 dX9_serve_18 ?_
    refine V_iloadn 21 2 O dX9_serve_21 rfl rfl ?_
    refine V_aloadn 22 0 O dX9_serve_22 rfl rfl ?_
    refine V_getR 23 O k39 fl_X9_12 rf39_2 dX9_serve_23 ?_
    refine V_aloadn 26 0 O dX9_serve_26 rfl rfl ?_
    refine V_getR 27 O k39 fl_X9_41 rf39_1 dX9_serve_27 ?_
    refine V_getR 30 O k11 fl_X9_117 rf11_1 dX9_serve_30 ?_
    refine V_iloadn 33 2 O dX9_serve_33 rfl rfl ?_
    refine V_iald 34 O k12 dX9_serve_34 h (fun h => ?_)
    refine V_aloadn 35 0 O dX9_serve_35 rfl rfl ?_
    refine V_getR 36 O k39 fl_X9_22 rf39_4 dX9_serve_36 ?_
    refine V_iloadn 39 2 O dX9_serve_39 rfl rfl ?_
    refine V_iald 40 O k41 dX9_serve_40 h (fun h => ?_)
    obtain ⟨r3, σ2, g, h⟩ := bd_of h
    refine V_callVi 41 [.int (σ 12 (ix v1)), .int (σ 41 (ix v1))] [.int v1, .ref (zad G 42)] O mf_X3_send lk_X9_137 k46 dX9_serve_41 rfl rfl (Nat.le_of_ble_eq_true rfl) ⟨(Nat.le_of_ble_eq_true rfl), (Nat.le_of_ble_eq_true rfl)⟩ (fun l => C_X3_send  g) ?_
    refine V_iast 44 O k42 dX9_serve_44 h (fun σ4 h => ?_)
    refine V_iinc 45 1 [1, 0, 2] [(0, .ref (zad G 39)), (1, .int (x1 + (1 : Int32))), (2, .int v1)] O dX9_serve_45 rfl ci_1 (Nat.le_of_ble_eq_true rfl) rfl ?_
    refine V_goto 48 2 O dX9_serve_48 rfl ?_
    exact V_sub [0, 1] rfl (H2 (x1 + (1 : Int32)) σ4  h)
theorem bl_X9_serve_2 {G : zG} {x : zX} {τ : Sg} (O : zO G x cX9_serve RX9 3 120 3) (E : zE G x none none τ) (n : Nat) : ∀ (k : Nat) (x1 : Int32) (σ : Sg), s_X9_serve_2 n k x1 σ = some τ → V G x σ [(0, .ref (zad G 39)), (1, .int x1)] 2 [] := by
  intro k
  induction k with
  | zero => intro x1 σ  h; cases h
  | succ k ih => intro x1 σ  h; exact b_X9_serve_2 O E n  (s_X9_serve_2 n  k) ih x1 σ  h
set_option maxRecDepth 20000 in
theorem C_X9_serve {l : Launch} {G : zG} {n : Nat} {σ : Sg} {τ : Sg} (h : s_X9_serve n σ = some τ) : zM l G 3 yX9_serve (.code yX9_serve cX9_serve 3 none) [.ref (zad G 39)] σ none τ := by
  refine zM_of (by decide) (Nat.le_of_ble_eq_true rfl) (fun x O E => ?_)
  have O : zO G x cX9_serve RX9 3 120 3 := O
  unfold s_X9_serve at h
  show V G x σ [(0, .ref (zad G 39))] 0 []
  refine V_iconst 0 O dX9_serve_0 ci_0 ?_
  refine V_istoren 1 [1, 0] [(0, .ref (zad G 39)), (1, .int (0 : Int32))] O dX9_serve_1 rfl (Nat.le_of_ble_eq_true rfl) rfl ?_
  exact V_sub [0, 1] rfl (bl_X9_serve_2 O E n  n (0 : Int32) σ  h)
-- ==== Supply.settle(LWaterTown$Stand;)V
def s_X9_settle_88 (n : Nat) (rc2 : Nat → Int32 → Sg → Option Sg) (x1 : Nat) (x2 : Int32) (x4 : Int32) (σ : Sg) : Option Sg := ck x2 10 (lt ((σ 14 (ix x2)) - x4) fun v5 => ck x2 10 (lt (imin v5 (σ (rf x1 1) (ix x2))) fun v6 => ck x2 10 (ck x2 10 (lt (up2 σ (rf x1 1) (ix x2) ((σ (rf x1 1) (ix x2)) - v6)) fun σ7 => ck x2 10 (lt (up2 σ7 43 (ix x2) (v5 - v6)) fun σ8 => rc2 x1 (x2 + (1 : Int32)) σ8)))))
def s_X9_settle_2b (n : Nat) (rc2 : Nat → Int32 → Sg → Option Sg) (x1 : Nat) (x2 : Int32) (σ : Sg) : Option Sg := if (σ 11 0) ≤ x2 then (some σ) else (ck x2 10 (ck x2 10 (ck x2 10 (lt (up2 σ 44 (ix x2) (imin (σ 15 (ix x2)) (σ 42 (ix x2)))) fun σ1 => ck x2 10 (ck x2 10 (lt ((σ1 42 (ix x2)) - (σ1 44 (ix x2))) fun v2 => ck x2 10 (lt (imin (σ1 14 (ix x2)) v2) fun v3 => ck x2 10 (if (σ1 (rf x1 0) (ix x2)) = 0 then (ck x2 10 (ck x2 10 (lt (up2 σ1 (rf x1 1) (ix x2) ((σ1 (rf x1 1) (ix x2)) + (v2 - v3))) fun σ4 => s_X9_settle_88 n rc2 x1 x2 v3 σ4))) else (s_X9_settle_88 n rc2 x1 x2 v3 σ1)))))))))
def s_X9_settle_2 (n : Nat) : Nat → Nat → Int32 → Sg → Option Sg
  | 0 => fun _ _ _ => none
  | k + 1 => s_X9_settle_2b n (s_X9_settle_2 n k)
def s_X9_settle (n : Nat) (x1 : Nat) (σ : Sg) : Option Sg := s_X9_settle_2 n n x1 (0 : Int32) σ
set_option maxRecDepth 20000 in
theorem b_X9_settle_88 {G : zG} {x : zX} {τ : Sg} (O : zO G x cX9_settle RX9 1 40 7) (E : zE G x none none τ) (n : Nat) (rc2 : Nat → Int32 → Sg → Option Sg) (H2 : ∀ (x1 : Nat) (x2 : Int32) (σ : Sg), zStand x1 → rc2 x1 x2 σ = some τ → V G x σ [(0, .ref (zad G 39)), (1, .ref (zad G x1)), (2, .int x2)] 2 []) (x1 : Nat) (x2 : Int32) (x4 : Int32) (σ : Sg) (hx1 : zStand x1) (h : s_X9_settle_88 n rc2 x1 x2 x4 σ = some τ) : V G x σ [(0, .ref (zad G 39)), (1, .ref (zad G x1)), (2, .int x2), (4, .int x4)] 88 [] := by
  unfold s_X9_settle_88 at h
  refine V_aloadn 88 0 O dX9_settle_88 rfl rfl ?_
  refine V_getR 89 O k39 fl_X9_41 rf39_1 dX9_settle_89 ?_
  refine V_getR 92 O k11 fl_X9_83 rf11_3 dX9_settle_92 ?_
  refine V_iloadn 95 2 O dX9_settle_95 rfl rfl ?_
  refine V_iald 96 O k14 dX9_settle_96 h (fun h => ?_)
  refine V_iload 97 3 O dX9_settle_97 rfl ?_
  refine V_isub 99 O dX9_settle_99 ?_
  refine V_topi h (fun v5 h => ?_)
  refine V_istore 100 [1, 2, 3, 4, 0] [(0, .ref (zad G 39)), (1, .ref (zad G x1)), (2, .int x2), (4, .int x4), (5, .int v5)] O dX9_settle_100 (Nat.le_of_ble_eq_true rfl) rfl ?_
  refine V_iload 102 4 O dX9_settle_102 rfl ?_
  refine V_aloadn 104 1 O dX9_settle_104 rfl rfl ?_
  refine V_getR 105 O (zStand_k hx1) fl_X9_92 rfl dX9_settle_105 ?_
  refine V_iloadn 108 2 O dX9_settle_108 rfl rfl ?_
  refine V_iald 109 O (zStand_1 hx1) dX9_settle_109 h (fun h => ?_)
  refine V_min 110 O lk_X9_141 mm_imin.1 mm_imin.2.1 mm_imin.2.2 (Nat.le_of_ble_eq_true rfl) (Nat.le_of_ble_eq_true rfl) dX9_settle_110 ?_
  refine V_topi h (fun v6 h => ?_)
  refine V_istore 113 [1, 2, 3, 4, 5, 0] [(0, .ref (zad G 39)), (1, .ref (zad G x1)), (2, .int x2), (4, .int x4), (5, .int v5), (6, .int v6)] O dX9_settle_113 (Nat.le_of_ble_eq_true rfl) rfl ?_
  refine V_aloadn 115 1 O dX9_settle_115 rfl rfl ?_
  refine V_getR 116 O (zStand_k hx1) fl_X9_92 rfl dX9_settle_116 ?_
  refine V_iloadn 119 2 O dX9_settle_119 rfl rfl ?_
  refine V_dup2 120 O dX9_settle_120 rfl rfl ?_
  refine V_iald 121 O (zStand_1 hx1) dX9_settle_121 h (fun h => ?_)
  refine V_iload 122 5 O dX9_settle_122 rfl ?_
  refine V_isub 124 O dX9_settle_124 ?_
  refine V_iast 125 O (zStand_1 hx1) dX9_settle_125 h (fun σ7 h => ?_)
  refine V_aloadn 126 0 O dX9_settle_126 rfl rfl ?_
  refine V_getR 127 O k39 fl_X9_28 rf39_6 dX9_settle_127 ?_
  refine V_iloadn 130 2 O dX9_settle_130 rfl rfl ?_
  refine V_iload 131 4 O dX9_settle_131 rfl ?_
  refine V_iload 133 5 O dX9_settle_133 rfl ?_
  refine V_isub 135 O dX9_settle_135 ?_
  refine V_iast 136 O k43 dX9_settle_136 h (fun σ8 h => ?_)
  refine V_iinc 137 2 [1, 2, 0, 3, 4, 5] [(0, .ref (zad G 39)), (1, .ref (zad G x1)), (2, .int (x2 + (1 : Int32))), (4, .int x4), (5, .int v5), (6, .int v6)] O dX9_settle_137 rfl ci_1 (Nat.le_of_ble_eq_true rfl) rfl ?_
  refine V_goto 140 2 O dX9_settle_140 rfl ?_
  exact V_sub [0, 1, 2] rfl (H2 x1 (x2 + (1 : Int32)) σ8 hx1 h)
set_option maxRecDepth 20000 in
theorem b_X9_settle_2 {G : zG} {x : zX} {τ : Sg} (O : zO G x cX9_settle RX9 1 40 7) (E : zE G x none none τ) (n : Nat) (rc2 : Nat → Int32 → Sg → Option Sg) (H2 : ∀ (x1 : Nat) (x2 : Int32) (σ : Sg), zStand x1 → rc2 x1 x2 σ = some τ → V G x σ [(0, .ref (zad G 39)), (1, .ref (zad G x1)), (2, .int x2)] 2 []) (x1 : Nat) (x2 : Int32) (σ : Sg) (hx1 : zStand x1) (h : s_X9_settle_2b n rc2 x1 x2 σ = some τ) : V G x σ [(0, .ref (zad G 39)), (1, .ref (zad G x1)), (2, .int x2)] 2 [] := by
  unfold s_X9_settle_2b at h
  refine V_iloadn 2 2 O dX9_settle_2 rfl rfl ?_
  refine V_aloadn 3 0 O dX9_settle_3 rfl rfl ?_
  refine V_getR 4 O k39 fl_X9_41 rf39_1 dX9_settle_4 ?_
  refine V_getI 7 O k11 fl_X9_73 dX9_settle_7 ?_
  refine V_icmp_ge 10 143 O dX9_settle_10 rfl h (fun h => ?_) (fun h => ?_)
  · exact V_vret 143 O E dX9_settle_143 h
  · refine V_aloadn 13 0 O dX9_settle_13 rfl rfl ?_
    refine V_getR 14 O k39 fl_X9_31 rf39_7 dX9_settle_14 ?_
    refine V_iloadn 17 2 O dX9_settle_17 rfl rfl ?_
    refine V_aloadn 18 0 O dX9_settle_18 rfl rfl ?_
    refine V_getR 19 O k39 fl_X9_41 rf39_1 dX9_settle_19 ?_
    refine V_getR 22 O k11 fl_X9_86 rf11_4 dX9_settle_22 ?_
    refine V_iloadn 25 2 O dX9_settle_25 rfl rfl ?_
    refine V_iald 26 O k15 dX9_settle_26 h (fun h => ?_)
    refine V_aloadn 27 0 O dX9_settle_27 rfl rfl ?_
    refine V_getR 28 O k39 fl_X9_25 rf39_5 dX9_settle_28 ?_
    refine V_iloadn 31 2 O dX9_settle_31 rfl rfl ?_
    refine V_iald 32 O k42 dX9_settle_32 h (fun h => ?_)
    refine V_min 33 O lk_X9_141 mm_imin.1 mm_imin.2.1 mm_imin.2.2 (Nat.le_of_ble_eq_true rfl) (Nat.le_of_ble_eq_true rfl) dX9_settle_33 ?_
    refine V_iast 36 O k44 dX9_settle_36 h (fun σ1 h => ?_)
    refine V_aloadn 37 0 O dX9_settle_37 rfl rfl ?_
    refine V_getR 38 O k39 fl_X9_25 rf39_5 dX9_settle_38 ?_
    refine V_iloadn 41 2 O dX9_settle_41 rfl rfl ?_
    refine V_iald 42 O k42 dX9_settle_42 h (fun h => ?_)
    refine V_aloadn 43 0 O dX9_settle_43 rfl rfl ?_
    refine V_getR 44 O k39 fl_X9_31 rf39_7 dX9_settle_44 ?_
    refine V_iloadn 47 2 O dX9_settle_47 rfl rfl ?_
    refine V_iald 48 O k44 dX9_settle_48 h (fun h => ?_)
    refine V_isub 49 O dX9_settle_49 ?_
    refine V_topi h (fun v2 h => ?_)
    refine V_istoren 50 [1, 2, 3, 0] [(0, .ref (zad G 39)), (1, .ref (zad G x1)), (2, .int x2), (3, .int v2)] O dX9_settle_50 rfl (Nat.le_of_ble_eq_true rfl) rfl ?_
    refine V_aloadn 51 0 O dX9_settle_51 rfl rfl ?_
    refine V_getR 52 O k39 fl_X9_41 rf39_1 dX9_settle_52 ?_
    refine V_getR 55 O k11 fl_X9_83 rf11_3 dX9_settle_55 ?_
    refine V_iloadn 58 2 O dX9_settle_58 rfl rfl ?_
    refine V_iald 59 O k14 dX9_settle_59 h (fun h => ?_)
    refine V_iloadn 60 3 O dX9_settle_60 rfl rfl ?_
    refine V_min 61 O lk_X9_141 mm_imin.1 mm_imin.2.1 mm_imin.2.2 (Nat.le_of_ble_eq_true rfl) (Nat.le_of_ble_eq_true rfl) dX9_settle_61 ?_
    refine V_topi h (fun v3 h => ?_)
    refine V_istore 64 [1, 2, 3, 4, 0] [(0, .ref (zad G 39)), (1, .ref (zad G x1)), (2, .int x2), (3, .int v2), (4, .int v3)] O dX9_settle_64 (Nat.le_of_ble_eq_true rfl) rfl ?_
    refine V_aloadn 66 1 O dX9_settle_66 rfl rfl ?_
    refine V_getR 67 O (zStand_k hx1) fl_X9_78 rfl dX9_settle_67 ?_
    refine V_iloadn 70 2 O dX9_settle_70 rfl rfl ?_
    refine V_iald 71 O (zStand_0 hx1) dX9_settle_71 h (fun h => ?_)
    refine V_if_ne 72 88 O dX9_settle_72 rfl h (fun h => ?_) (fun h => ?_)
    · exact V_sub [0, 1, 2, 4] rfl (b_X9_settle_88 O E n rc2 H2 x1 x2 v3 σ1 hx1 h)
    · refine V_aloadn 75 1 O dX9_settle_75 rfl rfl ?_
      refine V_getR 76 O (zStand_k hx1) fl_X9_92 rfl dX9_settle_76 ?_
      refine V_iloadn 79 2 O dX9_settle_79 rfl rfl ?_
      refine V_dup2 80 O dX9_settle_80 rfl rfl ?_
      refine V_iald 81 O (zStand_1 hx1) dX9_settle_81 h (fun h => ?_)
      refine V_iloadn 82 3 O dX9_settle_82 rfl rfl ?_
      refine V_iload 83 4 O dX9_settle_83 rfl ?_
      refine V_isub 85 O dX9_settle_85 ?_
      refine V_iadd 86 O dX9_settle_86 ?_
      refine V_iast 87 O (zStand_1 hx1) dX9_settle_87 h (fun σ4 h => ?_)
      exact V_sub [0, 1, 2, 4] rfl (b_X9_settle_88 O E n rc2 H2 x1 x2 v3 σ4 hx1 h)
theorem bl_X9_settle_2 {G : zG} {x : zX} {τ : Sg} (O : zO G x cX9_settle RX9 1 40 7) (E : zE G x none none τ) (n : Nat) : ∀ (k : Nat) (x1 : Nat) (x2 : Int32) (σ : Sg), zStand x1 → s_X9_settle_2 n k x1 x2 σ = some τ → V G x σ [(0, .ref (zad G 39)), (1, .ref (zad G x1)), (2, .int x2)] 2 [] := by
  intro k
  induction k with
  | zero => intro x1 x2 σ hx1 h; cases h
  | succ k ih => intro x1 x2 σ hx1 h; exact b_X9_settle_2 O E n  (s_X9_settle_2 n  k) ih x1 x2 σ hx1 h
set_option maxRecDepth 20000 in
theorem C_X9_settle {l : Launch} {G : zG} {n : Nat} {x1 : Nat} {σ : Sg} {τ : Sg} (hx1 : zStand x1) (h : s_X9_settle n x1 σ = some τ) : zM l G 1 yX9_settle (.code yX9_settle cX9_settle 7 none) [.ref (zad G 39), .ref (zad G x1)] σ none τ := by
  refine zM_of (by decide) (Nat.le_of_ble_eq_true rfl) (fun x O E => ?_)
  have O : zO G x cX9_settle RX9 1 40 7 := O
  unfold s_X9_settle at h
  show V G x σ [(0, .ref (zad G 39)), (1, .ref (zad G x1))] 0 []
  refine V_iconst 0 O dX9_settle_0 ci_0 ?_
  refine V_istoren 1 [1, 2, 0] [(0, .ref (zad G 39)), (1, .ref (zad G x1)), (2, .int (0 : Int32))] O dX9_settle_1 rfl (Nat.le_of_ble_eq_true rfl) rfl ?_
  exact V_sub [0, 1, 2] rfl (bl_X9_settle_2 O E n  n x1 (0 : Int32) σ hx1 h)
-- ==== Supply.someDry(LWaterTown$Stand;Z)Z
def s_X9_someDry_2b (n : Nat) (rc2 : Nat → Int32 → Int32 → Sg → Option (Int32 × Sg)) (x1 : Nat) (x2 : Int32) (x3 : Int32) (σ : Sg) : Option (Int32 × Sg) := if (σ 11 0) ≤ x3 then (some ((0 : Int32), σ)) else (ck x3 10 (if (σ 43 (ix x3)) ≤ 0 then (rc2 x1 x2 (x3 + (1 : Int32)) σ) else (if x2 = 0 then (some ((1 : Int32), σ)) else (ck x3 10 (if (σ (rf x1 0) (ix x3)) = (1 : Int32) then (some ((1 : Int32), σ)) else (rc2 x1 x2 (x3 + (1 : Int32)) σ))))))
def s_X9_someDry_2 (n : Nat) : Nat → Nat → Int32 → Int32 → Sg → Option (Int32 × Sg)
  | 0 => fun _ _ _ _ => none
  | k + 1 => s_X9_someDry_2b n (s_X9_someDry_2 n k)
def s_X9_someDry (n : Nat) (x1 : Nat) (x2 : Int32) (σ : Sg) : Option (Int32 × Sg) := s_X9_someDry_2 n n x1 x2 (0 : Int32) σ
set_option maxRecDepth 20000 in
theorem b_X9_someDry_2 {G : zG} {x : zX} {r : Int32} {τ : Sg} (O : zO G x cX9_someDry RX9 0 0 4) (E : zE G x (some (.boolean)) (some (.int r)) τ) (n : Nat) (rc2 : Nat → Int32 → Int32 → Sg → Option (Int32 × Sg)) (H2 : ∀ (x1 : Nat) (x2 : Int32) (x3 : Int32) (σ : Sg), zStand x1 → rc2 x1 x2 x3 σ = some (r, τ) → V G x σ [(0, .ref (zad G 39)), (1, .ref (zad G x1)), (2, .int x2), (3, .int x3)] 2 []) (x1 : Nat) (x2 : Int32) (x3 : Int32) (σ : Sg) (hx1 : zStand x1) (h : s_X9_someDry_2b n rc2 x1 x2 x3 σ = some (r, τ)) : V G x σ [(0, .ref (zad G 39)), (1, .ref (zad G x1)), (2, .int x2), (3, .int x3)] 2 [] := by
  unfold s_X9_someDry_2b at h
  refine V_iloadn 2 3 O dX9_someDry_2 rfl rfl ?_
  refine V_aloadn 3 0 O dX9_someDry_3 rfl rfl ?_
  refine V_getR 4 O k39 fl_X9_41 rf39_1 dX9_someDry_4 ?_
  refine V_getI 7 O k11 fl_X9_73 dX9_someDry_7 ?_
  refine V_icmp_ge 10 44 O dX9_someDry_10 rfl h (fun h => ?_) (fun h => ?_)
  · refine V_iconst 44 O dX9_someDry_44 ci_0 ?_
    exact V_zret0 45 O E dX9_someDry_45 h
  · refine V_aloadn 13 0 O dX9_someDry_13 rfl rfl ?_
    refine V_getR 14 O k39 fl_X9_28 rf39_6 dX9_someDry_14 ?_
    refine V_iloadn 17 3 O dX9_someDry_17 rfl rfl ?_
    refine V_iald 18 O k43 dX9_someDry_18 h (fun h => ?_)
    refine V_if_le 19 38 O dX9_someDry_19 rfl h (fun h => ?_) (fun h => ?_)
    · refine V_iinc 38 3 [1, 2, 3, 0] [(0, .ref (zad G 39)), (1, .ref (zad G x1)), (2, .int x2), (3, .int (x3 + (1 : Int32)))] O dX9_someDry_38 rfl ci_1 (Nat.le_of_ble_eq_true rfl) rfl ?_
      refine V_goto 41 2 O dX9_someDry_41 rfl ?_
      exact V_sub [0, 1, 2, 3] rfl (H2 x1 x2 (x3 + (1 : Int32)) σ hx1 h)
    · refine V_iloadn 22 2 O dX9_someDry_22 rfl rfl ?_
      refine V_if_eq 23 36 O dX9_someDry_23 rfl h (fun h => ?_) (fun h => ?_)
      · refine V_iconst 36 O dX9_someDry_36 ci_1 ?_
        exact V_zret1 37 O E dX9_someDry_37 h
      · refine V_aloadn 26 1 O dX9_someDry_26 rfl rfl ?_
        refine V_getR 27 O (zStand_k hx1) fl_X9_78 rfl dX9_someDry_27 ?_
        refine V_iloadn 30 3 O dX9_someDry_30 rfl rfl ?_
        refine V_iald 31 O (zStand_0 hx1) dX9_someDry_31 h (fun h => ?_)
        refine V_iconst 32 O dX9_someDry_32 ci_1 ?_
        refine V_icmp_ne 33 38 O dX9_someDry_33 rfl h (fun h => ?_) (fun h => ?_)
        · refine V_iinc 38 3 [1, 2, 3, 0] [(0, .ref (zad G 39)), (1, .ref (zad G x1)), (2, .int x2), (3, .int (x3 + (1 : Int32)))] O dX9_someDry_38 rfl ci_1 (Nat.le_of_ble_eq_true rfl) rfl ?_
          refine V_goto 41 2 O dX9_someDry_41 rfl ?_
          exact V_sub [0, 1, 2, 3] rfl (H2 x1 x2 (x3 + (1 : Int32)) σ hx1 h)
        · refine V_iconst 36 O dX9_someDry_36 ci_1 ?_
          exact V_zret1 37 O E dX9_someDry_37 h
theorem bl_X9_someDry_2 {G : zG} {x : zX} {r : Int32} {τ : Sg} (O : zO G x cX9_someDry RX9 0 0 4) (E : zE G x (some (.boolean)) (some (.int r)) τ) (n : Nat) : ∀ (k : Nat) (x1 : Nat) (x2 : Int32) (x3 : Int32) (σ : Sg), zStand x1 → s_X9_someDry_2 n k x1 x2 x3 σ = some (r, τ) → V G x σ [(0, .ref (zad G 39)), (1, .ref (zad G x1)), (2, .int x2), (3, .int x3)] 2 [] := by
  intro k
  induction k with
  | zero => intro x1 x2 x3 σ hx1 h; cases h
  | succ k ih => intro x1 x2 x3 σ hx1 h; exact b_X9_someDry_2 O E n  (s_X9_someDry_2 n  k) ih x1 x2 x3 σ hx1 h
set_option maxRecDepth 20000 in
theorem C_X9_someDry {l : Launch} {G : zG} {n : Nat} {x1 : Nat} {x2 : Int32} {σ : Sg} {r : Int32} {τ : Sg} (hx1 : zStand x1) (h : s_X9_someDry n x1 x2 σ = some (r, τ)) : zM l G 0 yX9_someDry (.code yX9_someDry cX9_someDry 4 (some (.boolean))) [.ref (zad G 39), .ref (zad G x1), .int x2] σ (some (.int r)) τ := by
  refine zM_of (by decide) (Nat.le_of_ble_eq_true rfl) (fun x O E => ?_)
  have O : zO G x cX9_someDry RX9 0 0 4 := O
  unfold s_X9_someDry at h
  show V G x σ [(0, .ref (zad G 39)), (1, .ref (zad G x1)), (2, .int x2)] 0 []
  refine V_iconst 0 O dX9_someDry_0 ci_0 ?_
  refine V_istoren 1 [1, 2, 3, 0] [(0, .ref (zad G 39)), (1, .ref (zad G x1)), (2, .int x2), (3, .int (0 : Int32))] O dX9_someDry_1 rfl (Nat.le_of_ble_eq_true rfl) rfl ?_
  exact V_sub [0, 1, 2, 3] rfl (bl_X9_someDry_2 O E n  n x1 x2 (0 : Int32) σ hx1 h)
-- ==== Supply.gotByAll()I
def s_X9_gotByAll_4b (n : Nat) (rc4 : Int32 → Int32 → Sg → Option (Int32 × Sg)) (x1 : Int32) (x2 : Int32) (σ : Sg) : Option (Int32 × Sg) := if (σ 11 0) ≤ x2 then (some (x1, σ)) else (ck x2 10 (lt (x1 + (σ 42 (ix x2))) fun v1 => rc4 v1 (x2 + (1 : Int32)) σ))
def s_X9_gotByAll_4 (n : Nat) : Nat → Int32 → Int32 → Sg → Option (Int32 × Sg)
  | 0 => fun _ _ _ => none
  | k + 1 => s_X9_gotByAll_4b n (s_X9_gotByAll_4 n k)
def s_X9_gotByAll (n : Nat) (σ : Sg) : Option (Int32 × Sg) := s_X9_gotByAll_4 n n (0 : Int32) (0 : Int32) σ
set_option maxRecDepth 20000 in
theorem b_X9_gotByAll_4 {G : zG} {x : zX} {r : Int32} {τ : Sg} (O : zO G x cX9_gotByAll RX9 0 0 3) (E : zE G x (some (.int)) (some (.int r)) τ) (n : Nat) (rc4 : Int32 → Int32 → Sg → Option (Int32 × Sg)) (H4 : ∀ (x1 : Int32) (x2 : Int32) (σ : Sg), rc4 x1 x2 σ = some (r, τ) → V G x σ [(0, .ref (zad G 39)), (1, .int x1), (2, .int x2)] 4 []) (x1 : Int32) (x2 : Int32) (σ : Sg) (h : s_X9_gotByAll_4b n rc4 x1 x2 σ = some (r, τ)) : V G x σ [(0, .ref (zad G 39)), (1, .int x1), (2, .int x2)] 4 [] := by
  unfold s_X9_gotByAll_4b at h
  refine V_iloadn 4 2 O dX9_gotByAll_4 rfl rfl ?_
  refine V_aloadn 5 0 O dX9_gotByAll_5 rfl rfl ?_
  refine V_getR 6 O k39 fl_X9_41 rf39_1 dX9_gotByAll_6 ?_
  refine V_getI 9 O k11 fl_X9_73 dX9_gotByAll_9 ?_
  refine V_icmp_ge 12 30 O dX9_gotByAll_12 rfl h (fun h => ?_) (fun h => ?_)
  · refine V_iloadn 30 1 O dX9_gotByAll_30 rfl rfl ?_
    exact V_iret 31 O E dX9_gotByAll_31 h
  · refine V_iloadn 15 1 O dX9_gotByAll_15 rfl rfl ?_
    refine V_aloadn 16 0 O dX9_gotByAll_16 rfl rfl ?_
    refine V_getR 17 O k39 fl_X9_25 rf39_5 dX9_gotByAll_17 ?_
    refine V_iloadn 20 2 O dX9_gotByAll_20 rfl rfl ?_
    refine V_iald 21 O k42 dX9_gotByAll_21 h (fun h => ?_)
    refine V_iadd 22 O dX9_gotByAll_22 ?_
    refine V_topi h (fun v1 h => ?_)
    refine V_istoren 23 [1, 0, 2] [(0, .ref (zad G 39)), (1, .int v1), (2, .int x2)] O dX9_gotByAll_23 rfl (Nat.le_of_ble_eq_true rfl) rfl ?_
    refine V_iinc 24 2 [1, 2, 0] [(0, .ref (zad G 39)), (1, .int v1), (2, .int (x2 + (1 : Int32)))] O dX9_gotByAll_24 rfl ci_1 (Nat.le_of_ble_eq_true rfl) rfl ?_
    refine V_goto 27 4 O dX9_gotByAll_27 rfl ?_
    exact V_sub [0, 1, 2] rfl (H4 v1 (x2 + (1 : Int32)) σ  h)
theorem bl_X9_gotByAll_4 {G : zG} {x : zX} {r : Int32} {τ : Sg} (O : zO G x cX9_gotByAll RX9 0 0 3) (E : zE G x (some (.int)) (some (.int r)) τ) (n : Nat) : ∀ (k : Nat) (x1 : Int32) (x2 : Int32) (σ : Sg), s_X9_gotByAll_4 n k x1 x2 σ = some (r, τ) → V G x σ [(0, .ref (zad G 39)), (1, .int x1), (2, .int x2)] 4 [] := by
  intro k
  induction k with
  | zero => intro x1 x2 σ  h; cases h
  | succ k ih => intro x1 x2 σ  h; exact b_X9_gotByAll_4 O E n  (s_X9_gotByAll_4 n  k) ih x1 x2 σ  h
set_option maxRecDepth 20000 in
theorem C_X9_gotByAll {l : Launch} {G : zG} {n : Nat} {σ : Sg} {r : Int32} {τ : Sg} (h : s_X9_gotByAll n σ = some (r, τ)) : zM l G 0 yX9_gotByAll (.code yX9_gotByAll cX9_gotByAll 3 (some (.int))) [.ref (zad G 39)] σ (some (.int r)) τ := by
  refine zM_of (by decide) (Nat.le_of_ble_eq_true rfl) (fun x O E => ?_)
  have O : zO G x cX9_gotByAll RX9 0 0 3 := O
  unfold s_X9_gotByAll at h
  show V G x σ [(0, .ref (zad G 39))] 0 []
  refine V_iconst 0 O dX9_gotByAll_0 ci_0 ?_
  refine V_istoren 1 [1, 0] [(0, .ref (zad G 39)), (1, .int (0 : Int32))] O dX9_gotByAll_1 rfl (Nat.le_of_ble_eq_true rfl) rfl ?_
  refine V_iconst 2 O dX9_gotByAll_2 ci_0 ?_
  refine V_istoren 3 [1, 2, 0] [(0, .ref (zad G 39)), (1, .int (0 : Int32)), (2, .int (0 : Int32))] O dX9_gotByAll_3 rfl (Nat.le_of_ble_eq_true rfl) rfl ?_
  exact V_sub [0, 1, 2] rfl (bl_X9_gotByAll_4 O E n  n (0 : Int32) (0 : Int32) σ  h)
-- ==== Supply.gotLessThan([I)I
def s_X9_gotLessThan_4b (n : Nat) (rc4 : Int32 → Int32 → Sg → Option (Int32 × Sg)) (x2 : Int32) (x3 : Int32) (σ : Sg) : Option (Int32 × Sg) := if (σ 11 0) ≤ x3 then (some (x2, σ)) else (ck x3 10 (ck x3 10 (if (σ 2 (ix x3)) ≤ (σ 42 (ix x3)) then (rc4 x2 (x3 + (1 : Int32)) σ) else (lt (x2 ||| (sl (1 : Int32) x3)) fun v1 => rc4 v1 (x3 + (1 : Int32)) σ))))
def s_X9_gotLessThan_4 (n : Nat) : Nat → Int32 → Int32 → Sg → Option (Int32 × Sg)
  | 0 => fun _ _ _ => none
  | k + 1 => s_X9_gotLessThan_4b n (s_X9_gotLessThan_4 n k)
def s_X9_gotLessThan (n : Nat) (σ : Sg) : Option (Int32 × Sg) := s_X9_gotLessThan_4 n n (0 : Int32) (0 : Int32) σ
set_option maxRecDepth 20000 in
theorem b_X9_gotLessThan_4 {G : zG} {x : zX} {r : Int32} {τ : Sg} (O : zO G x cX9_gotLessThan RX9 0 0 4) (E : zE G x (some (.int)) (some (.int r)) τ) (n : Nat) (rc4 : Int32 → Int32 → Sg → Option (Int32 × Sg)) (H4 : ∀ (x2 : Int32) (x3 : Int32) (σ : Sg), rc4 x2 x3 σ = some (r, τ) → V G x σ [(0, .ref (zad G 39)), (1, .ref (zad G 2)), (2, .int x2), (3, .int x3)] 4 []) (x2 : Int32) (x3 : Int32) (σ : Sg) (h : s_X9_gotLessThan_4b n rc4 x2 x3 σ = some (r, τ)) : V G x σ [(0, .ref (zad G 39)), (1, .ref (zad G 2)), (2, .int x2), (3, .int x3)] 4 [] := by
  unfold s_X9_gotLessThan_4b at h
  refine V_iloadn 4 3 O dX9_gotLessThan_4 rfl rfl ?_
  refine V_aloadn 5 0 O dX9_gotLessThan_5 rfl rfl ?_
  refine V_getR 6 O k39 fl_X9_41 rf39_1 dX9_gotLessThan_6 ?_
  refine V_getI 9 O k11 fl_X9_73 dX9_gotLessThan_9 ?_
  refine V_icmp_ge 12 39 O dX9_gotLessThan_12 rfl h (fun h => ?_) (fun h => ?_)
  · refine V_iloadn 39 2 O dX9_gotLessThan_39 rfl rfl ?_
    exact V_iret 40 O E dX9_gotLessThan_40 h
  · refine V_aloadn 15 0 O dX9_gotLessThan_15 rfl rfl ?_
    refine V_getR 16 O k39 fl_X9_25 rf39_5 dX9_gotLessThan_16 ?_
    refine V_iloadn 19 3 O dX9_gotLessThan_19 rfl rfl ?_
    refine V_iald 20 O k42 dX9_gotLessThan_20 h (fun h => ?_)
    refine V_aloadn 21 1 O dX9_gotLessThan_21 rfl rfl ?_
    refine V_iloadn 22 3 O dX9_gotLessThan_22 rfl rfl ?_
    refine V_iald 23 O k2 dX9_gotLessThan_23 h (fun h => ?_)
    refine V_icmp_ge 24 33 O dX9_gotLessThan_24 rfl h (fun h => ?_) (fun h => ?_)
    · refine V_iinc 33 3 [1, 2, 3, 0] [(0, .ref (zad G 39)), (1, .ref (zad G 2)), (2, .int x2), (3, .int (x3 + (1 : Int32)))] O dX9_gotLessThan_33 rfl ci_1 (Nat.le_of_ble_eq_true rfl) rfl ?_
      refine V_goto 36 4 O dX9_gotLessThan_36 rfl ?_
      exact V_sub [0, 1, 2, 3] rfl (H4 x2 (x3 + (1 : Int32)) σ  h)
    · refine V_iloadn 27 2 O dX9_gotLessThan_27 rfl rfl ?_
      refine V_iconst 28 O dX9_gotLessThan_28 ci_1 ?_
      refine V_iloadn 29 3 O dX9_gotLessThan_29 rfl rfl ?_
      refine V_ishl 30 O dX9_gotLessThan_30 ?_
      refine V_ior 31 O dX9_gotLessThan_31 ?_
      refine V_topi h (fun v1 h => ?_)
      refine V_istoren 32 [1, 2, 0, 3] [(0, .ref (zad G 39)), (1, .ref (zad G 2)), (2, .int v1), (3, .int x3)] O dX9_gotLessThan_32 rfl (Nat.le_of_ble_eq_true rfl) rfl ?_
      refine V_iinc 33 3 [1, 2, 3, 0] [(0, .ref (zad G 39)), (1, .ref (zad G 2)), (2, .int v1), (3, .int (x3 + (1 : Int32)))] O dX9_gotLessThan_33 rfl ci_1 (Nat.le_of_ble_eq_true rfl) rfl ?_
      refine V_goto 36 4 O dX9_gotLessThan_36 rfl ?_
      exact V_sub [0, 1, 2, 3] rfl (H4 v1 (x3 + (1 : Int32)) σ  h)
theorem bl_X9_gotLessThan_4 {G : zG} {x : zX} {r : Int32} {τ : Sg} (O : zO G x cX9_gotLessThan RX9 0 0 4) (E : zE G x (some (.int)) (some (.int r)) τ) (n : Nat) : ∀ (k : Nat) (x2 : Int32) (x3 : Int32) (σ : Sg), s_X9_gotLessThan_4 n k x2 x3 σ = some (r, τ) → V G x σ [(0, .ref (zad G 39)), (1, .ref (zad G 2)), (2, .int x2), (3, .int x3)] 4 [] := by
  intro k
  induction k with
  | zero => intro x2 x3 σ  h; cases h
  | succ k ih => intro x2 x3 σ  h; exact b_X9_gotLessThan_4 O E n  (s_X9_gotLessThan_4 n  k) ih x2 x3 σ  h
set_option maxRecDepth 20000 in
theorem C_X9_gotLessThan {l : Launch} {G : zG} {n : Nat} {σ : Sg} {r : Int32} {τ : Sg} (h : s_X9_gotLessThan n σ = some (r, τ)) : zM l G 0 yX9_gotLessThan (.code yX9_gotLessThan cX9_gotLessThan 4 (some (.int))) [.ref (zad G 39), .ref (zad G 2)] σ (some (.int r)) τ := by
  refine zM_of (by decide) (Nat.le_of_ble_eq_true rfl) (fun x O E => ?_)
  have O : zO G x cX9_gotLessThan RX9 0 0 4 := O
  unfold s_X9_gotLessThan at h
  show V G x σ [(0, .ref (zad G 39)), (1, .ref (zad G 2))] 0 []
  refine V_iconst 0 O dX9_gotLessThan_0 ci_0 ?_
  refine V_istoren 1 [1, 2, 0] [(0, .ref (zad G 39)), (1, .ref (zad G 2)), (2, .int (0 : Int32))] O dX9_gotLessThan_1 rfl (Nat.le_of_ble_eq_true rfl) rfl ?_
  refine V_iconst 2 O dX9_gotLessThan_2 ci_0 ?_
  refine V_istoren 3 [1, 2, 3, 0] [(0, .ref (zad G 39)), (1, .ref (zad G 2)), (2, .int (0 : Int32)), (3, .int (0 : Int32))] O dX9_gotLessThan_3 rfl (Nat.le_of_ble_eq_true rfl) rfl ?_
  exact V_sub [0, 1, 2, 3] rfl (bl_X9_gotLessThan_4 O E n  n (0 : Int32) (0 : Int32) σ  h)
