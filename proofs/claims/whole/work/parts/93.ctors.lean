/-! ===== the constructors, by program (wip/tools/ctors.py) ===== -/
theorem oi_1 : Cond.instanceMethod Lib.objectInit ∈ zW := zin 109 (by decide +kernel) (by decide +kernel)
theorem oi_2 : Cond.code Lib.objectInit ⟨#[0xb1]⟩ 1 none ∈ zW := zin 110 (by decide +kernel) (by decide +kernel)
def dfX0 : List Value := [.null, .int 0, .int 0, .int 0, .int 0, .int 0, .int 0, .int 0, .null]
def dfX1 : List Value := [.int 0, .int 0, .int 0, .int 0, .null, .null, .null, .null, .int 0]
def dfX2 : List Value := [.int 0, .int 0, .int 0, .int 0, .int 0, .int 0, .int 0, .int 0, .int 0]
def dfX3 : List Value := [.null, .null, .null, .null]
def dfX4 : List Value := [.int 0, .int 0, .null, .null, .null, .null, .null, .null, .null]
def dfX5 : List Value := [.int 0, .int 0, .null, .int 0, .int 0, .int 0, .int 0, .int 0]
def dfX6 : List Value := [.int 0, .null, .null]
def dfX7 : List Value := [.null, .null]
def dfX8 : List Value := [.int 0, .null, .null, .null, .null, .null, .null, .null, .null, .null, .null]
def dfX9 : List Value := [.null, .null, .null, .null, .null, .null, .null, .null, .null, .int 0, .int 0]
def dfX10 : List Value := [.null, .null, .null, .null, .null, .null, .null, .null, .null, .int 0, .int 0, .null, .int 0, .int 0]
def dfX11 : List Value := [.null, .null, .null, .null, .null, .null, .null, .null, .null, .null, .null, .null, .int 0, .int 0, .int 0, .int 0]
def dfX12 : List Value := [.int 0, .null, .int 0, .null, .null, .null, .null, .null, .null, .null, .null, .int 0, .null, .null, .null, .null, .null, .null, .null, .null, .null, .null, .null, .null, .int 0, .int 0, .int 0, .null, .null, .null, .null, .null, .null, .int 0, .int 0, .int 0, .int 0, .int 0, .int 0, .null, .null, .int 0, .int 0, .int 0, .int 0, .int 0, .int 0, .null, .null, .null, .int 0, .int 0, .null, .null, .null, .null, .int 0, .int 0, .null, .null, .null, .null, .null, .int 0, .null, .null, .int 0, .null, .null, .null, .int 0, .int 0, .int 0, .int 0, .null]
theorem ul_X2_3 : Cond.methodLink RX2 3 Lib.objectInit ∈ zW := zin 277 (by decide +kernel) (by decide +kernel)
theorem uf_X2_9 : uF RX2 9 2 0 false .int := ⟨RX2, TX2, 9, tyX2, rfl, uw2, Nat.le_of_ble_eq_true rfl, zin 278 (by decide +kernel) (by decide +kernel), rfl, by decide +kernel, tyX2_ok, nmX2, rfl⟩
def w1_X2 (cA : Nat → ClassId) (b : Nat) (q : Nat → Nat) : va_W := [(b, .inr (2, [.int (-1), .int 0, .int 0, .int 0, .int 0, .int 0, .int 0, .int 0, .int 0]))]
set_option maxRecDepth 10000 in
theorem N_X2 {l : Launch} {D : va_G} {cA : Nat → ClassId} (b : Nat) : uN l D cA 1 12 0 0 yX2_init (.code yX2_init cX2_init 1 none) [.ref b] [(b, .inr (2, dfX2))] (w1_X2 cA b) := by
  refine uN_of (by decide) (Nat.le_of_ble_eq_true rfl) (fun A x O I E => ?_)
  have I := I rfl
  refine U_aload 0 0 O dX2_init_0 rfl rfl ?_
  refine U_obj 1 O ul_X2_3 oi_1 oi_2 (by decide) (by decide) dX2_init_1 ?_
  refine U_aload 4 0 O dX2_init_4 rfl rfl ?_
  refine U_iconst 5 O dX2_init_5 ci_m1 ?_
  refine U_putC 6 O uf_X2_9 ⟨rfl, rfl⟩ (by (try simp only [List.length_set]); decide) dX2_init_6 ?_
  exact U_vret 9 (fun i => [].getD i 0) O E rfl (by decide) (by decide) dX2_init_9
theorem ul_X3_3 : Cond.methodLink RX3 3 Lib.objectInit ∈ zW := zin 343 (by decide +kernel) (by decide +kernel)
theorem uf_X3_11 : uF RX3 11 3 0 true (.array .int) := ⟨RX3, TX3, 4, tyX3, rfl, uw3, Nat.le_of_ble_eq_true rfl, zin 344 (by decide +kernel) (by decide +kernel), rfl, by decide +kernel, tyX3_ok, nmX3, rfl⟩
theorem uf_X3_15 : uF RX3 15 3 1 true (.array .int) := ⟨RX3, TX3, 4, tyX3, rfl, uw3, Nat.le_of_ble_eq_true rfl, zin 345 (by decide +kernel) (by decide +kernel), rfl, by decide +kernel, tyX3_ok, nmX3, rfl⟩
theorem uf_X3_18 : uF RX3 18 3 2 true (.array .int) := ⟨RX3, TX3, 4, tyX3, rfl, uw3, Nat.le_of_ble_eq_true rfl, zin 346 (by decide +kernel) (by decide +kernel), rfl, by decide +kernel, tyX3_ok, nmX3, rfl⟩
theorem uf_X3_21 : uF RX3 21 3 3 true (.array .int) := ⟨RX3, TX3, 4, tyX3, rfl, uw3, Nat.le_of_ble_eq_true rfl, zin 347 (by decide +kernel) (by decide +kernel), rfl, by decide +kernel, tyX3_ok, nmX3, rfl⟩
def w1_X3 (cA : Nat → ClassId) (b : Nat) (q : Nat → Nat) : va_W := [(b, .inr (3, [.ref (q 0), .ref (q 1), .ref (q 2), .ref (q 3)])), (q 0, .inl (cA 0, 121, .inl (fun _ => 0))), (q 1, .inl (cA 0, 11, .inl (fun _ => 0))), (q 2, .inl (cA 0, 11, .inl (fun _ => 0))), (q 3, .inl (cA 0, 11, .inl (fun _ => 0)))]
set_option maxRecDepth 10000 in
theorem N_X3 {l : Launch} {D : va_G} {cA : Nat → ClassId} (b : Nat) : uN l D cA 1 12 4 154 yX3_init (.code yX3_init cX3_init 1 none) [.ref b] [(b, .inr (3, dfX3))] (w1_X3 cA b) := by
  refine uN_of (by decide) (Nat.le_of_ble_eq_true rfl) (fun A x O I E => ?_)
  have I := I rfl
  refine U_aload 0 0 O dX3_init_0 rfl rfl ?_
  refine U_obj 1 O ul_X3_3 oi_1 oi_2 (by decide) (by decide) dX3_init_1 ?_
  refine U_arr 4 2 (N := 121) (v := 121) O I dX3_init_4 rfl (fun st => U_bipush 5 O dX3_init_5 (by decide)) uT0 (by decide) (by decide) (by decide) (by decide) (by decide) uf_X3_11 (fun _ => ⟨rfl, rfl⟩) (by (try simp only [List.length_set]); decide) dX3_init_7 dX3_init_9 (fun q1 => ?_)
  refine U_arr 12 2 (N := 11) (v := 11) O I dX3_init_12 rfl (fun st => U_bipush 13 O dX3_init_13 (by decide)) uT0 (by decide) (by decide) (by decide) (by decide) (by decide) uf_X3_15 (fun _ => ⟨rfl, rfl⟩) (by (try simp only [List.length_set]); decide) dX3_init_15 dX3_init_17 (fun q2 => ?_)
  refine U_arr 20 2 (N := 11) (v := 11) O I dX3_init_20 rfl (fun st => U_bipush 21 O dX3_init_21 (by decide)) uT0 (by decide) (by decide) (by decide) (by decide) (by decide) uf_X3_18 (fun _ => ⟨rfl, rfl⟩) (by (try simp only [List.length_set]); decide) dX3_init_23 dX3_init_25 (fun q3 => ?_)
  refine U_arr 28 2 (N := 11) (v := 11) O I dX3_init_28 rfl (fun st => U_bipush 29 O dX3_init_29 (by decide)) uT0 (by decide) (by decide) (by decide) (by decide) (by decide) uf_X3_21 (fun _ => ⟨rfl, rfl⟩) (by (try simp only [List.length_set]); decide) dX3_init_31 dX3_init_33 (fun q4 => ?_)
  exact U_vret 36 (fun i => [q1, q2, q3, q4].getD i 0) O E rfl (by decide) (by decide) dX3_init_36
theorem ul_X7_3 : Cond.methodLink RX7 3 Lib.objectInit ∈ zW := zin 219 (by decide +kernel) (by decide +kernel)
theorem uf_X7_9 : uF RX7 9 7 0 true (.array .int) := ⟨RX7, TX7, 2, tyX7, rfl, uw7, Nat.le_of_ble_eq_true rfl, zin 220 (by decide +kernel) (by decide +kernel), rfl, by decide +kernel, tyX7_ok, nmX7, rfl⟩
theorem uf_X7_15 : uF RX7 15 7 1 true (.array .int) := ⟨RX7, TX7, 2, tyX7, rfl, uw7, Nat.le_of_ble_eq_true rfl, zin 224 (by decide +kernel) (by decide +kernel), rfl, by decide +kernel, tyX7_ok, nmX7, rfl⟩
def w1_X7 (cA : Nat → ClassId) (b : Nat) (q : Nat → Nat) : va_W := [(b, .inr (7, [.ref (q 0), .ref (q 1)])), (q 0, .inl (cA 0, 10, .inl (fun _ => 0))), (q 1, .inl (cA 0, 10, .inl (fun _ => 0)))]
set_option maxRecDepth 10000 in
theorem N_X7 {l : Launch} {D : va_G} {cA : Nat → ClassId} (b : Nat) : uN l D cA 1 12 2 20 yX7_init (.code yX7_init cX7_init 1 none) [.ref b] [(b, .inr (7, dfX7))] (w1_X7 cA b) := by
  refine uN_of (by decide) (Nat.le_of_ble_eq_true rfl) (fun A x O I E => ?_)
  have I := I rfl
  refine U_aload 0 0 O dX7_init_0 rfl rfl ?_
  refine U_obj 1 O ul_X7_3 oi_1 oi_2 (by decide) (by decide) dX7_init_1 ?_
  refine U_arr 4 2 (N := 10) (v := 10) O I dX7_init_4 rfl (fun st => U_bipush 5 O dX7_init_5 (by decide)) uT0 (by decide) (by decide) (by decide) (by decide) (by decide) uf_X7_9 (fun _ => ⟨rfl, rfl⟩) (by (try simp only [List.length_set]); decide) dX7_init_7 dX7_init_9 (fun q1 => ?_)
  refine U_arr 12 2 (N := 10) (v := 10) O I dX7_init_12 rfl (fun st => U_bipush 13 O dX7_init_13 (by decide)) uT0 (by decide) (by decide) (by decide) (by decide) (by decide) uf_X7_15 (fun _ => ⟨rfl, rfl⟩) (by (try simp only [List.length_set]); decide) dX7_init_15 dX7_init_17 (fun q2 => ?_)
  exact U_vret 20 (fun i => [q1, q2].getD i 0) O E rfl (by decide) (by decide) dX7_init_20
theorem ul_X4_3 : Cond.methodLink RX4 3 Lib.objectInit ∈ zW := zin 116 (by decide +kernel) (by decide +kernel)
theorem uf_X4_9 : uF RX4 9 4 2 true (.array .int) := ⟨RX4, TX4, 9, tyX4, rfl, uw4, Nat.le_of_ble_eq_true rfl, zin 124 (by decide +kernel) (by decide +kernel), rfl, by decide +kernel, tyX4_ok, nmX4, rfl⟩
theorem uf_X4_15 : uF RX4 15 4 3 true (.array .int) := ⟨RX4, TX4, 9, tyX4, rfl, uw4, Nat.le_of_ble_eq_true rfl, zin 127 (by decide +kernel) (by decide +kernel), rfl, by decide +kernel, tyX4_ok, nmX4, rfl⟩
theorem uf_X4_18 : uF RX4 18 4 4 true (.array .int) := ⟨RX4, TX4, 9, tyX4, rfl, uw4, Nat.le_of_ble_eq_true rfl, zin 129 (by decide +kernel) (by decide +kernel), rfl, by decide +kernel, tyX4_ok, nmX4, rfl⟩
theorem uf_X4_21 : uF RX4 21 4 5 true (.array .int) := ⟨RX4, TX4, 9, tyX4, rfl, uw4, Nat.le_of_ble_eq_true rfl, zin 131 (by decide +kernel) (by decide +kernel), rfl, by decide +kernel, tyX4_ok, nmX4, rfl⟩
theorem uf_X4_24 : uF RX4 24 4 6 true (.array .int) := ⟨RX4, TX4, 9, tyX4, rfl, uw4, Nat.le_of_ble_eq_true rfl, zin 134 (by decide +kernel) (by decide +kernel), rfl, by decide +kernel, tyX4_ok, nmX4, rfl⟩
theorem uf_X4_27 : uF RX4 27 4 7 true (.array .int) := ⟨RX4, TX4, 9, tyX4, rfl, uw4, Nat.le_of_ble_eq_true rfl, zin 136 (by decide +kernel) (by decide +kernel), rfl, by decide +kernel, tyX4_ok, nmX4, rfl⟩
theorem uf_X4_30 : uF RX4 30 4 8 true (.array .int) := ⟨RX4, TX4, 9, tyX4, rfl, uw4, Nat.le_of_ble_eq_true rfl, zin 138 (by decide +kernel) (by decide +kernel), rfl, by decide +kernel, tyX4_ok, nmX4, rfl⟩
def w1_X4 (cA : Nat → ClassId) (b : Nat) (q : Nat → Nat) : va_W := [(b, .inr (4, [.int 0, .int 0, .ref (q 0), .ref (q 1), .ref (q 2), .ref (q 3), .ref (q 4), .ref (q 5), .ref (q 6)])), (q 0, .inl (cA 0, 20, .inl (fun _ => 0))), (q 1, .inl (cA 0, 20, .inl (fun _ => 0))), (q 2, .inl (cA 0, 20, .inl (fun _ => 0))), (q 3, .inl (cA 0, 20, .inl (fun _ => 0))), (q 4, .inl (cA 0, 20, .inl (fun _ => 0))), (q 5, .inl (cA 0, 20, .inl (fun _ => 0))), (q 6, .inl (cA 0, 10, .inl (fun _ => 0)))]
set_option maxRecDepth 10000 in
theorem N_X4 {l : Launch} {D : va_G} {cA : Nat → ClassId} (b : Nat) : uN l D cA 1 12 7 130 yX4_init (.code yX4_init cX4_init 1 none) [.ref b] [(b, .inr (4, dfX4))] (w1_X4 cA b) := by
  refine uN_of (by decide) (Nat.le_of_ble_eq_true rfl) (fun A x O I E => ?_)
  have I := I rfl
  refine U_aload 0 0 O dX4_init_0 rfl rfl ?_
  refine U_obj 1 O ul_X4_3 oi_1 oi_2 (by decide) (by decide) dX4_init_1 ?_
  refine U_arr 4 2 (N := 20) (v := 20) O I dX4_init_4 rfl (fun st => U_bipush 5 O dX4_init_5 (by decide)) uT0 (by decide) (by decide) (by decide) (by decide) (by decide) uf_X4_9 (fun _ => ⟨rfl, rfl⟩) (by (try simp only [List.length_set]); decide) dX4_init_7 dX4_init_9 (fun q1 => ?_)
  refine U_arr 12 2 (N := 20) (v := 20) O I dX4_init_12 rfl (fun st => U_bipush 13 O dX4_init_13 (by decide)) uT0 (by decide) (by decide) (by decide) (by decide) (by decide) uf_X4_15 (fun _ => ⟨rfl, rfl⟩) (by (try simp only [List.length_set]); decide) dX4_init_15 dX4_init_17 (fun q2 => ?_)
  refine U_arr 20 2 (N := 20) (v := 20) O I dX4_init_20 rfl (fun st => U_bipush 21 O dX4_init_21 (by decide)) uT0 (by decide) (by decide) (by decide) (by decide) (by decide) uf_X4_18 (fun _ => ⟨rfl, rfl⟩) (by (try simp only [List.length_set]); decide) dX4_init_23 dX4_init_25 (fun q3 => ?_)
  refine U_arr 28 2 (N := 20) (v := 20) O I dX4_init_28 rfl (fun st => U_bipush 29 O dX4_init_29 (by decide)) uT0 (by decide) (by decide) (by decide) (by decide) (by decide) uf_X4_21 (fun _ => ⟨rfl, rfl⟩) (by (try simp only [List.length_set]); decide) dX4_init_31 dX4_init_33 (fun q4 => ?_)
  refine U_arr 36 2 (N := 20) (v := 20) O I dX4_init_36 rfl (fun st => U_bipush 37 O dX4_init_37 (by decide)) uT0 (by decide) (by decide) (by decide) (by decide) (by decide) uf_X4_24 (fun _ => ⟨rfl, rfl⟩) (by (try simp only [List.length_set]); decide) dX4_init_39 dX4_init_41 (fun q5 => ?_)
  refine U_arr 44 2 (N := 20) (v := 20) O I dX4_init_44 rfl (fun st => U_bipush 45 O dX4_init_45 (by decide)) uT0 (by decide) (by decide) (by decide) (by decide) (by decide) uf_X4_27 (fun _ => ⟨rfl, rfl⟩) (by (try simp only [List.length_set]); decide) dX4_init_47 dX4_init_49 (fun q6 => ?_)
  refine U_arr 52 2 (N := 10) (v := 10) O I dX4_init_52 rfl (fun st => U_bipush 53 O dX4_init_53 (by decide)) uT0 (by decide) (by decide) (by decide) (by decide) (by decide) uf_X4_30 (fun _ => ⟨rfl, rfl⟩) (by (try simp only [List.length_set]); decide) dX4_init_55 dX4_init_57 (fun q7 => ?_)
  exact U_vret 60 (fun i => [q1, q2, q3, q4, q5, q6, q7].getD i 0) O E rfl (by decide) (by decide) dX4_init_60
theorem ul_X8_3 : Cond.methodLink RX8 3 Lib.objectInit ∈ zW := zin 165 (by decide +kernel) (by decide +kernel)
theorem uf_X8_9 : uF RX8 9 8 1 true (.array .int) := ⟨RX8, TX8, 11, tyX8, rfl, uw8, Nat.le_of_ble_eq_true rfl, zin 170 (by decide +kernel) (by decide +kernel), rfl, by decide +kernel, tyX8_ok, nmX8, rfl⟩
theorem uf_X8_15 : uF RX8 15 8 2 true (.array .int) := ⟨RX8, TX8, 11, tyX8, rfl, uw8, Nat.le_of_ble_eq_true rfl, zin 173 (by decide +kernel) (by decide +kernel), rfl, by decide +kernel, tyX8_ok, nmX8, rfl⟩
theorem uf_X8_18 : uF RX8 18 8 3 true (.array .int) := ⟨RX8, TX8, 11, tyX8, rfl, uw8, Nat.le_of_ble_eq_true rfl, zin 175 (by decide +kernel) (by decide +kernel), rfl, by decide +kernel, tyX8_ok, nmX8, rfl⟩
theorem uf_X8_21 : uF RX8 21 8 4 true (.array .int) := ⟨RX8, TX8, 11, tyX8, rfl, uw8, Nat.le_of_ble_eq_true rfl, zin 177 (by decide +kernel) (by decide +kernel), rfl, by decide +kernel, tyX8_ok, nmX8, rfl⟩
theorem uf_X8_24 : uF RX8 24 8 5 true (.array .int) := ⟨RX8, TX8, 11, tyX8, rfl, uw8, Nat.le_of_ble_eq_true rfl, zin 179 (by decide +kernel) (by decide +kernel), rfl, by decide +kernel, tyX8_ok, nmX8, rfl⟩
theorem uf_X8_27 : uF RX8 27 8 6 true (.array .int) := ⟨RX8, TX8, 11, tyX8, rfl, uw8, Nat.le_of_ble_eq_true rfl, zin 181 (by decide +kernel) (by decide +kernel), rfl, by decide +kernel, tyX8_ok, nmX8, rfl⟩
theorem uf_X8_30 : uF RX8 30 8 7 true (.array .int) := ⟨RX8, TX8, 11, tyX8, rfl, uw8, Nat.le_of_ble_eq_true rfl, zin 183 (by decide +kernel) (by decide +kernel), rfl, by decide +kernel, tyX8_ok, nmX8, rfl⟩
theorem uf_X8_33 : uF RX8 33 8 8 true (.array .int) := ⟨RX8, TX8, 11, tyX8, rfl, uw8, Nat.le_of_ble_eq_true rfl, zin 185 (by decide +kernel) (by decide +kernel), rfl, by decide +kernel, tyX8_ok, nmX8, rfl⟩
theorem uf_X8_36 : uF RX8 36 8 9 true (.array .int) := ⟨RX8, TX8, 11, tyX8, rfl, uw8, Nat.le_of_ble_eq_true rfl, zin 187 (by decide +kernel) (by decide +kernel), rfl, by decide +kernel, tyX8_ok, nmX8, rfl⟩
theorem uf_X8_39 : uF RX8 39 8 10 true (.array .int) := ⟨RX8, TX8, 11, tyX8, rfl, uw8, Nat.le_of_ble_eq_true rfl, zin 189 (by decide +kernel) (by decide +kernel), rfl, by decide +kernel, tyX8_ok, nmX8, rfl⟩
def w1_X8 (cA : Nat → ClassId) (b : Nat) (q : Nat → Nat) : va_W := [(b, .inr (8, [.int 0, .ref (q 0), .ref (q 1), .ref (q 2), .ref (q 3), .ref (q 4), .ref (q 5), .ref (q 6), .ref (q 7), .ref (q 8), .ref (q 9)])), (q 0, .inl (cA 0, 10, .inl (fun _ => 0))), (q 1, .inl (cA 0, 10, .inl (fun _ => 0))), (q 2, .inl (cA 0, 10, .inl (fun _ => 0))), (q 3, .inl (cA 0, 10, .inl (fun _ => 0))), (q 4, .inl (cA 0, 10, .inl (fun _ => 0))), (q 5, .inl (cA 0, 10, .inl (fun _ => 0))), (q 6, .inl (cA 0, 10, .inl (fun _ => 0))), (q 7, .inl (cA 0, 10, .inl (fun _ => 0))), (q 8, .inl (cA 0, 10, .inl (fun _ => 0))), (q 9, .inl (cA 0, 10, .inl (fun _ => 0)))]
set_option maxRecDepth 10000 in
theorem N_X8 {l : Launch} {D : va_G} {cA : Nat → ClassId} (b : Nat) : uN l D cA 1 12 10 100 yX8_init (.code yX8_init cX8_init 1 none) [.ref b] [(b, .inr (8, dfX8))] (w1_X8 cA b) := by
  refine uN_of (by decide) (Nat.le_of_ble_eq_true rfl) (fun A x O I E => ?_)
  have I := I rfl
  refine U_aload 0 0 O dX8_init_0 rfl rfl ?_
  refine U_obj 1 O ul_X8_3 oi_1 oi_2 (by decide) (by decide) dX8_init_1 ?_
  refine U_arr 4 2 (N := 10) (v := 10) O I dX8_init_4 rfl (fun st => U_bipush 5 O dX8_init_5 (by decide)) uT0 (by decide) (by decide) (by decide) (by decide) (by decide) uf_X8_9 (fun _ => ⟨rfl, rfl⟩) (by (try simp only [List.length_set]); decide) dX8_init_7 dX8_init_9 (fun q1 => ?_)
  refine U_arr 12 2 (N := 10) (v := 10) O I dX8_init_12 rfl (fun st => U_bipush 13 O dX8_init_13 (by decide)) uT0 (by decide) (by decide) (by decide) (by decide) (by decide) uf_X8_15 (fun _ => ⟨rfl, rfl⟩) (by (try simp only [List.length_set]); decide) dX8_init_15 dX8_init_17 (fun q2 => ?_)
  refine U_arr 20 2 (N := 10) (v := 10) O I dX8_init_20 rfl (fun st => U_bipush 21 O dX8_init_21 (by decide)) uT0 (by decide) (by decide) (by decide) (by decide) (by decide) uf_X8_18 (fun _ => ⟨rfl, rfl⟩) (by (try simp only [List.length_set]); decide) dX8_init_23 dX8_init_25 (fun q3 => ?_)
  refine U_arr 28 2 (N := 10) (v := 10) O I dX8_init_28 rfl (fun st => U_bipush 29 O dX8_init_29 (by decide)) uT0 (by decide) (by decide) (by decide) (by decide) (by decide) uf_X8_21 (fun _ => ⟨rfl, rfl⟩) (by (try simp only [List.length_set]); decide) dX8_init_31 dX8_init_33 (fun q4 => ?_)
  refine U_arr 36 2 (N := 10) (v := 10) O I dX8_init_36 rfl (fun st => U_bipush 37 O dX8_init_37 (by decide)) uT0 (by decide) (by decide) (by decide) (by decide) (by decide) uf_X8_24 (fun _ => ⟨rfl, rfl⟩) (by (try simp only [List.length_set]); decide) dX8_init_39 dX8_init_41 (fun q5 => ?_)
  refine U_arr 44 2 (N := 10) (v := 10) O I dX8_init_44 rfl (fun st => U_bipush 45 O dX8_init_45 (by decide)) uT0 (by decide) (by decide) (by decide) (by decide) (by decide) uf_X8_27 (fun _ => ⟨rfl, rfl⟩) (by (try simp only [List.length_set]); decide) dX8_init_47 dX8_init_49 (fun q6 => ?_)
  refine U_arr 52 2 (N := 10) (v := 10) O I dX8_init_52 rfl (fun st => U_bipush 53 O dX8_init_53 (by decide)) uT0 (by decide) (by decide) (by decide) (by decide) (by decide) uf_X8_30 (fun _ => ⟨rfl, rfl⟩) (by (try simp only [List.length_set]); decide) dX8_init_55 dX8_init_57 (fun q7 => ?_)
  refine U_arr 60 2 (N := 10) (v := 10) O I dX8_init_60 rfl (fun st => U_bipush 61 O dX8_init_61 (by decide)) uT0 (by decide) (by decide) (by decide) (by decide) (by decide) uf_X8_33 (fun _ => ⟨rfl, rfl⟩) (by (try simp only [List.length_set]); decide) dX8_init_63 dX8_init_65 (fun q8 => ?_)
  refine U_arr 68 2 (N := 10) (v := 10) O I dX8_init_68 rfl (fun st => U_bipush 69 O dX8_init_69 (by decide)) uT0 (by decide) (by decide) (by decide) (by decide) (by decide) uf_X8_36 (fun _ => ⟨rfl, rfl⟩) (by (try simp only [List.length_set]); decide) dX8_init_71 dX8_init_73 (fun q9 => ?_)
  refine U_arr 76 2 (N := 10) (v := 10) O I dX8_init_76 rfl (fun st => U_bipush 77 O dX8_init_77 (by decide)) uT0 (by decide) (by decide) (by decide) (by decide) (by decide) uf_X8_39 (fun _ => ⟨rfl, rfl⟩) (by (try simp only [List.length_set]); decide) dX8_init_79 dX8_init_81 (fun q10 => ?_)
  exact U_vret 84 (fun i => [q1, q2, q3, q4, q5, q6, q7, q8, q9, q10].getD i 0) O E rfl (by decide) (by decide) dX8_init_84
theorem ul_X5_3 : Cond.methodLink RX5 3 Lib.objectInit ∈ zW := zin 237 (by decide +kernel) (by decide +kernel)
theorem uf_X5_9 : uF RX5 9 5 1 false .int := ⟨RX5, TX5, 8, tyX5, rfl, uw5, Nat.le_of_ble_eq_true rfl, zin 240 (by decide +kernel) (by decide +kernel), rfl, by decide +kernel, tyX5_ok, nmX5, rfl⟩
theorem uf_X5_15 : uF RX5 15 5 2 true (.array .int) := ⟨RX5, TX5, 8, tyX5, rfl, uw5, Nat.le_of_ble_eq_true rfl, zin 242 (by decide +kernel) (by decide +kernel), rfl, by decide +kernel, tyX5_ok, nmX5, rfl⟩
def w1_X5 (cA : Nat → ClassId) (b : Nat) (q : Nat → Nat) : va_W := [(b, .inr (5, [.int 0, .int (-1), .ref (q 0), .int 0, .int 0, .int 0, .int 0, .int 0])), (q 0, .inl (cA 0, 160, .inl (fun _ => 0)))]
set_option maxRecDepth 10000 in
theorem N_X5 {l : Launch} {D : va_G} {cA : Nat → ClassId} (b : Nat) : uN l D cA 1 12 1 160 yX5_init (.code yX5_init cX5_init 1 none) [.ref b] [(b, .inr (5, dfX5))] (w1_X5 cA b) := by
  refine uN_of (by decide) (Nat.le_of_ble_eq_true rfl) (fun A x O I E => ?_)
  have I := I rfl
  refine U_aload 0 0 O dX5_init_0 rfl rfl ?_
  refine U_obj 1 O ul_X5_3 oi_1 oi_2 (by decide) (by decide) dX5_init_1 ?_
  refine U_aload 4 0 O dX5_init_4 rfl rfl ?_
  refine U_iconst 5 O dX5_init_5 ci_m1 ?_
  refine U_putC 6 O uf_X5_9 ⟨rfl, rfl⟩ (by (try simp only [List.length_set]); decide) dX5_init_6 ?_
  refine U_arr 9 3 (N := 160) (v := 160) O I dX5_init_9 rfl (fun st => U_sipush 10 O dX5_init_10 (by decide)) uT0 (by decide) (by decide) (by decide) (by decide) (by decide) uf_X5_15 (fun _ => ⟨rfl, rfl⟩) (by (try simp only [List.length_set]); decide) dX5_init_13 dX5_init_15 (fun q1 => ?_)
  exact U_vret 18 (fun i => [q1].getD i 0) O E rfl (by decide) (by decide) dX5_init_18
theorem ul_X1_3 : Cond.methodLink RX1 3 Lib.objectInit ∈ zW := zin 465 (by decide +kernel) (by decide +kernel)
theorem uf_X1_9 : uF RX1 9 1 4 true (.array .int) := ⟨RX1, TX1, 9, tyX1, rfl, uw1, Nat.le_of_ble_eq_true rfl, zin 474 (by decide +kernel) (by decide +kernel), rfl, by decide +kernel, tyX1_ok, nmX1, rfl⟩
theorem uf_X1_15 : uF RX1 15 1 5 true (.array .int) := ⟨RX1, TX1, 9, tyX1, rfl, uw1, Nat.le_of_ble_eq_true rfl, zin 475 (by decide +kernel) (by decide +kernel), rfl, by decide +kernel, tyX1_ok, nmX1, rfl⟩
theorem uf_X1_18 : uF RX1 18 1 6 true (.array .int) := ⟨RX1, TX1, 9, tyX1, rfl, uw1, Nat.le_of_ble_eq_true rfl, zin 476 (by decide +kernel) (by decide +kernel), rfl, by decide +kernel, tyX1_ok, nmX1, rfl⟩
theorem uf_X1_21 : uF RX1 21 1 7 true (.array .int) := ⟨RX1, TX1, 9, tyX1, rfl, uw1, Nat.le_of_ble_eq_true rfl, zin 477 (by decide +kernel) (by decide +kernel), rfl, by decide +kernel, tyX1_ok, nmX1, rfl⟩
def w1_X1 (cA : Nat → ClassId) (b : Nat) (q : Nat → Nat) : va_W := [(b, .inr (1, [.int 0, .int 0, .int 0, .int 0, .ref (q 0), .ref (q 1), .ref (q 2), .ref (q 3), .int 0])), (q 0, .inl (cA 0, 6, .inl (fun _ => 0))), (q 1, .inl (cA 0, 6, .inl (fun _ => 0))), (q 2, .inl (cA 0, 20, .inl (fun _ => 0))), (q 3, .inl (cA 0, 12, .inl (fun _ => 0)))]
set_option maxRecDepth 10000 in
theorem N_X1 {l : Launch} {D : va_G} {cA : Nat → ClassId} (b : Nat) : uN l D cA 1 12 4 44 yX1_init (.code yX1_init cX1_init 1 none) [.ref b] [(b, .inr (1, dfX1))] (w1_X1 cA b) := by
  refine uN_of (by decide) (Nat.le_of_ble_eq_true rfl) (fun A x O I E => ?_)
  have I := I rfl
  refine U_aload 0 0 O dX1_init_0 rfl rfl ?_
  refine U_obj 1 O ul_X1_3 oi_1 oi_2 (by decide) (by decide) dX1_init_1 ?_
  refine U_arr 4 2 (N := 6) (v := 6) O I dX1_init_4 rfl (fun st => U_bipush 5 O dX1_init_5 (by decide)) uT0 (by decide) (by decide) (by decide) (by decide) (by decide) uf_X1_9 (fun _ => ⟨rfl, rfl⟩) (by (try simp only [List.length_set]); decide) dX1_init_7 dX1_init_9 (fun q1 => ?_)
  refine U_arr 12 2 (N := 6) (v := 6) O I dX1_init_12 rfl (fun st => U_bipush 13 O dX1_init_13 (by decide)) uT0 (by decide) (by decide) (by decide) (by decide) (by decide) uf_X1_15 (fun _ => ⟨rfl, rfl⟩) (by (try simp only [List.length_set]); decide) dX1_init_15 dX1_init_17 (fun q2 => ?_)
  refine U_arr 20 2 (N := 20) (v := 20) O I dX1_init_20 rfl (fun st => U_bipush 21 O dX1_init_21 (by decide)) uT0 (by decide) (by decide) (by decide) (by decide) (by decide) uf_X1_18 (fun _ => ⟨rfl, rfl⟩) (by (try simp only [List.length_set]); decide) dX1_init_23 dX1_init_25 (fun q3 => ?_)
  refine U_arr 28 2 (N := 12) (v := 12) O I dX1_init_28 rfl (fun st => U_bipush 29 O dX1_init_29 (by decide)) uT0 (by decide) (by decide) (by decide) (by decide) (by decide) uf_X1_21 (fun _ => ⟨rfl, rfl⟩) (by (try simp only [List.length_set]); decide) dX1_init_31 dX1_init_33 (fun q4 => ?_)
  exact U_vret 36 (fun i => [q1, q2, q3, q4].getD i 0) O E rfl (by decide) (by decide) dX1_init_36
theorem ul_X0_3 : Cond.methodLink RX0 3 Lib.objectInit ∈ zW := zin 503 (by decide +kernel) (by decide +kernel)
theorem uf_X0_9 : uF RX0 9 0 0 true (.array .int) := ⟨RX0, TX0, 9, tyX0, rfl, uw0, Nat.le_of_ble_eq_true rfl, zin 504 (by decide +kernel) (by decide +kernel), rfl, by decide +kernel, tyX0_ok, nmX0, rfl⟩
theorem uf_X0_15 : uF RX0 15 0 8 true (.array .byte) := ⟨RX0, TX0, 9, tyX0, rfl, uw0, Nat.le_of_ble_eq_true rfl, zin 514 (by decide +kernel) (by decide +kernel), rfl, by decide +kernel, tyX0_ok, nmX0, rfl⟩
def w1_X0 (cA : Nat → ClassId) (b : Nat) (q : Nat → Nat) : va_W := [(b, .inr (0, [.ref (q 0), .int 0, .int 0, .int 0, .int 0, .int 0, .int 0, .int 0, .ref (q 1)])), (q 0, .inl (cA 0, 21, .inl (fun _ => 0))), (q 1, .inl (cA 1, 10626, .inl (fun _ => 0)))]
set_option maxRecDepth 10000 in
theorem N_X0 {l : Launch} {D : va_G} {cA : Nat → ClassId} (b : Nat) : uN l D cA 1 12 2 10647 yX0_init (.code yX0_init cX0_init 1 none) [.ref b] [(b, .inr (0, dfX0))] (w1_X0 cA b) := by
  refine uN_of (by decide) (Nat.le_of_ble_eq_true rfl) (fun A x O I E => ?_)
  have I := I rfl
  refine U_aload 0 0 O dX0_init_0 rfl rfl ?_
  refine U_obj 1 O ul_X0_3 oi_1 oi_2 (by decide) (by decide) dX0_init_1 ?_
  refine U_arr 4 2 (N := 21) (v := 21) O I dX0_init_4 rfl (fun st => U_bipush 5 O dX0_init_5 (by decide)) uT0 (by decide) (by decide) (by decide) (by decide) (by decide) uf_X0_9 (fun _ => ⟨rfl, rfl⟩) (by (try simp only [List.length_set]); decide) dX0_init_7 dX0_init_9 (fun q1 => ?_)
  refine U_arr 12 3 (N := 10626) (v := 10626) O I dX0_init_12 rfl (fun st => U_sipush 13 O dX0_init_13 (by decide)) uT1 (by decide) (by decide) (by decide) (by decide) (by decide) uf_X0_15 (fun _ => ⟨rfl, rfl⟩) (by (try simp only [List.length_set]); decide) dX0_init_16 dX0_init_18 (fun q2 => ?_)
  exact U_vret 21 (fun i => [q1, q2].getD i 0) O E rfl (by decide) (by decide) dX0_init_21
theorem uf_X6_11 : uF RX6 11 6 1 true (.array (.object "WaterTown$Law")) := ⟨RX6, TX6, 3, tyX6, rfl, uw6, Nat.le_of_ble_eq_true rfl, zin 321 (by decide +kernel) (by decide +kernel), rfl, by decide +kernel, tyX6_ok, nmX6, rfl⟩
theorem uf_X6_17 : uF RX6 17 6 2 true (.array .int) := ⟨RX6, TX6, 3, tyX6, rfl, uw6, Nat.le_of_ble_eq_true rfl, zin 322 (by decide +kernel) (by decide +kernel), rfl, by decide +kernel, tyX6_ok, nmX6, rfl⟩
theorem uc_X6_9 : uC RX6 9 2 9 dfX2 := ⟨RX2, TX2, tyX2, rfl, uw2, tyX2_ok, zin 271 (by decide +kernel) (by decide +kernel), zin 273 (by decide +kernel) (by decide +kernel), zin 88 (by decide +kernel) (by decide +kernel), dfl rfl⟩
theorem mb_X2_init : mB yX2_init cX2_init 1 none 0 := ⟨zin 276 (by decide +kernel) (by decide +kernel), zin 88 (by decide +kernel) (by decide +kernel), by decide, by decide, by decide +kernel⟩
theorem mi_X2_init : Cond.instanceMethod yX2_init ∈ zW := zin 275 (by decide +kernel) (by decide +kernel)
theorem ul_X6_3 : Cond.methodLink RX6 3 Lib.objectInit ∈ zW := zin 270 (by decide +kernel) (by decide +kernel)
def w1_X6 (cA : Nat → ClassId) (b : Nat) (q : Nat → Nat) : va_W := [(b, .inr (6, [.int 0, .ref (q 0), .ref (q 1)])), (q 0, .inl (cA 3, 8, .inr (.inr (.inr (.inr (va_up (va_up (va_up (va_up (va_up (va_up (va_up (va_up (fun _ => none) (0 : Int32).toNatClampNeg (some (q 2))) (1 : Int32).toNatClampNeg (some (q 3))) (2 : Int32).toNatClampNeg (some (q 4))) (3 : Int32).toNatClampNeg (some (q 5))) (4 : Int32).toNatClampNeg (some (q 6))) (5 : Int32).toNatClampNeg (some (q 7))) (6 : Int32).toNatClampNeg (some (q 8))) (7 : Int32).toNatClampNeg (some (q 9)))))))), (q 1, .inl (cA 0, 8, .inl (fun _ => 0))), (q 2, .inr (2, [.int (-1), .int 0, .int 0, .int 0, .int 0, .int 0, .int 0, .int 0, .int 0])), (q 3, .inr (2, [.int (-1), .int 0, .int 0, .int 0, .int 0, .int 0, .int 0, .int 0, .int 0])), (q 4, .inr (2, [.int (-1), .int 0, .int 0, .int 0, .int 0, .int 0, .int 0, .int 0, .int 0])), (q 5, .inr (2, [.int (-1), .int 0, .int 0, .int 0, .int 0, .int 0, .int 0, .int 0, .int 0])), (q 6, .inr (2, [.int (-1), .int 0, .int 0, .int 0, .int 0, .int 0, .int 0, .int 0, .int 0])), (q 7, .inr (2, [.int (-1), .int 0, .int 0, .int 0, .int 0, .int 0, .int 0, .int 0, .int 0])), (q 8, .inr (2, [.int (-1), .int 0, .int 0, .int 0, .int 0, .int 0, .int 0, .int 0, .int 0])), (q 9, .inr (2, [.int (-1), .int 0, .int 0, .int 0, .int 0, .int 0, .int 0, .int 0, .int 0]))]
set_option maxRecDepth 10000 in
theorem N_X6 {l : Launch} {D : va_G} {cA : Nat → ClassId} (b : Nat) : uN l D cA 2 32 10 88 yX6_init (.code yX6_init cX6_init 2 none) [.ref b] [(b, .inr (6, dfX6))] (w1_X6 cA b) := by
  refine uN_of (by decide) (Nat.le_of_ble_eq_true rfl) (fun A x O I E => ?_)
  have I := I rfl
  refine U_aload 0 0 O dX6_init_0 rfl rfl ?_
  refine U_obj 1 O ul_X6_3 oi_1 oi_2 (by decide) (by decide) dX6_init_1 ?_
  refine U_aload 4 0 O dX6_init_4 rfl rfl ?_
  refine U_bipush 5 (v := 8) O dX6_init_5 (by decide) ?_
  refine U_newq 7 (N := 8) O (zin 271 (by decide +kernel) (by decide +kernel)) (by decide) (by decide) (by decide) (by decide) (by decide) dX6_init_7 (fun la => ?_)
  refine U_eq (ws' := (b, .inr (6, dfX6)) :: _) rfl ?_
  refine U_putFC 10 O I uf_X6_11 ⟨rfl, rfl⟩ (by (try simp only [List.length_set]); decide) dX6_init_10 ?_
  refine U_arr 13 2 (N := 8) (v := 8) O I dX6_init_13 rfl (fun st => U_bipush 14 O dX6_init_14 (by decide)) uT0 (by decide) (by decide) (by decide) (by decide) (by decide) uf_X6_17 (fun _ => ⟨rfl, rfl⟩) (by (try simp only [List.length_set]); decide) dX6_init_16 dX6_init_18 (fun ro => ?_)
  refine U_iconst 21 O dX6_init_21 ci_0 ?_
  refine U_istore 22 [0, 1] [(1, .int 0), (0, .ref b)] O dX6_init_22 rfl (by decide) rfl ?_
  refine U_iload 23 0 O dX6_init_23 rfl rfl ?_
  refine U_bipush 24 (v := 8) O dX6_init_24 (by decide) ?_
  refine U_icmp_ge 26 48 O dX6_init_26 rfl (fun h => absurd h (by decide)) (fun _ => ?_)
  refine U_aload 29 1 O dX6_init_29 rfl rfl ?_
  refine U_getC 30 O uf_X6_11 rfl dX6_init_30 ?_
  refine U_iload 33 0 O dX6_init_33 rfl rfl ?_
  refine U_newC 34 O uc_X6_9 (by decide) (by decide) dX6_init_34 (fun z0 => ?_)
  refine U_dup 37 O dX6_init_37 rfl ?_
  refine U_callNC 38 [] [.ref z0, .int 0, .ref la] O mb_X2_init rfl mi_X2_init (by decide) dX6_init_38 rfl rfl (Nat.le_of_ble_eq_true rfl) (by decide) (by decide) (by decide) (fun l => N_X2 z0) (fun _ => ?_)
  refine U_astq 41 1 3 2 O rfl rfl rfl (ib_in (by decide)) dX6_init_41 ?_
  refine U_eq (ws' := (b, .inr (6, _)) :: _) rfl ?_
  refine U_iinc 42 0 [0, 1] [(1, .int 1), (0, .ref b)] O dX6_init_42 rfl ci_1 (by decide) rfl ?_
  refine U_goto 45 23 O dX6_init_45 rfl ?_
  refine U_iload 23 0 O dX6_init_23 rfl rfl ?_
  refine U_bipush 24 (v := 8) O dX6_init_24 (by decide) ?_
  refine U_icmp_ge 26 48 O dX6_init_26 rfl (fun h => absurd h (by decide)) (fun _ => ?_)
  refine U_aload 29 1 O dX6_init_29 rfl rfl ?_
  refine U_getC 30 O uf_X6_11 rfl dX6_init_30 ?_
  refine U_iload 33 0 O dX6_init_33 rfl rfl ?_
  refine U_newC 34 O uc_X6_9 (by decide) (by decide) dX6_init_34 (fun z1 => ?_)
  refine U_dup 37 O dX6_init_37 rfl ?_
  refine U_callNC 38 [] [.ref z1, .int 1, .ref la] O mb_X2_init rfl mi_X2_init (by decide) dX6_init_38 rfl rfl (Nat.le_of_ble_eq_true rfl) (by decide) (by decide) (by decide) (fun l => N_X2 z1) (fun _ => ?_)
  refine U_astq 41 1 4 2 O rfl rfl rfl (ib_in (by decide)) dX6_init_41 ?_
  refine U_eq (ws' := (b, .inr (6, _)) :: _) rfl ?_
  refine U_iinc 42 0 [0, 1] [(1, .int 2), (0, .ref b)] O dX6_init_42 rfl ci_1 (by decide) rfl ?_
  refine U_goto 45 23 O dX6_init_45 rfl ?_
  refine U_iload 23 0 O dX6_init_23 rfl rfl ?_
  refine U_bipush 24 (v := 8) O dX6_init_24 (by decide) ?_
  refine U_icmp_ge 26 48 O dX6_init_26 rfl (fun h => absurd h (by decide)) (fun _ => ?_)
  refine U_aload 29 1 O dX6_init_29 rfl rfl ?_
  refine U_getC 30 O uf_X6_11 rfl dX6_init_30 ?_
  refine U_iload 33 0 O dX6_init_33 rfl rfl ?_
  refine U_newC 34 O uc_X6_9 (by decide) (by decide) dX6_init_34 (fun z2 => ?_)
  refine U_dup 37 O dX6_init_37 rfl ?_
  refine U_callNC 38 [] [.ref z2, .int 2, .ref la] O mb_X2_init rfl mi_X2_init (by decide) dX6_init_38 rfl rfl (Nat.le_of_ble_eq_true rfl) (by decide) (by decide) (by decide) (fun l => N_X2 z2) (fun _ => ?_)
  refine U_astq 41 1 5 2 O rfl rfl rfl (ib_in (by decide)) dX6_init_41 ?_
  refine U_eq (ws' := (b, .inr (6, _)) :: _) rfl ?_
  refine U_iinc 42 0 [0, 1] [(1, .int 3), (0, .ref b)] O dX6_init_42 rfl ci_1 (by decide) rfl ?_
  refine U_goto 45 23 O dX6_init_45 rfl ?_
  refine U_iload 23 0 O dX6_init_23 rfl rfl ?_
  refine U_bipush 24 (v := 8) O dX6_init_24 (by decide) ?_
  refine U_icmp_ge 26 48 O dX6_init_26 rfl (fun h => absurd h (by decide)) (fun _ => ?_)
  refine U_aload 29 1 O dX6_init_29 rfl rfl ?_
  refine U_getC 30 O uf_X6_11 rfl dX6_init_30 ?_
  refine U_iload 33 0 O dX6_init_33 rfl rfl ?_
  refine U_newC 34 O uc_X6_9 (by decide) (by decide) dX6_init_34 (fun z3 => ?_)
  refine U_dup 37 O dX6_init_37 rfl ?_
  refine U_callNC 38 [] [.ref z3, .int 3, .ref la] O mb_X2_init rfl mi_X2_init (by decide) dX6_init_38 rfl rfl (Nat.le_of_ble_eq_true rfl) (by decide) (by decide) (by decide) (fun l => N_X2 z3) (fun _ => ?_)
  refine U_astq 41 1 6 2 O rfl rfl rfl (ib_in (by decide)) dX6_init_41 ?_
  refine U_eq (ws' := (b, .inr (6, _)) :: _) rfl ?_
  refine U_iinc 42 0 [0, 1] [(1, .int 4), (0, .ref b)] O dX6_init_42 rfl ci_1 (by decide) rfl ?_
  refine U_goto 45 23 O dX6_init_45 rfl ?_
  refine U_iload 23 0 O dX6_init_23 rfl rfl ?_
  refine U_bipush 24 (v := 8) O dX6_init_24 (by decide) ?_
  refine U_icmp_ge 26 48 O dX6_init_26 rfl (fun h => absurd h (by decide)) (fun _ => ?_)
  refine U_aload 29 1 O dX6_init_29 rfl rfl ?_
  refine U_getC 30 O uf_X6_11 rfl dX6_init_30 ?_
  refine U_iload 33 0 O dX6_init_33 rfl rfl ?_
  refine U_newC 34 O uc_X6_9 (by decide) (by decide) dX6_init_34 (fun z4 => ?_)
  refine U_dup 37 O dX6_init_37 rfl ?_
  refine U_callNC 38 [] [.ref z4, .int 4, .ref la] O mb_X2_init rfl mi_X2_init (by decide) dX6_init_38 rfl rfl (Nat.le_of_ble_eq_true rfl) (by decide) (by decide) (by decide) (fun l => N_X2 z4) (fun _ => ?_)
  refine U_astq 41 1 7 2 O rfl rfl rfl (ib_in (by decide)) dX6_init_41 ?_
  refine U_eq (ws' := (b, .inr (6, _)) :: _) rfl ?_
  refine U_iinc 42 0 [0, 1] [(1, .int 5), (0, .ref b)] O dX6_init_42 rfl ci_1 (by decide) rfl ?_
  refine U_goto 45 23 O dX6_init_45 rfl ?_
  refine U_iload 23 0 O dX6_init_23 rfl rfl ?_
  refine U_bipush 24 (v := 8) O dX6_init_24 (by decide) ?_
  refine U_icmp_ge 26 48 O dX6_init_26 rfl (fun h => absurd h (by decide)) (fun _ => ?_)
  refine U_aload 29 1 O dX6_init_29 rfl rfl ?_
  refine U_getC 30 O uf_X6_11 rfl dX6_init_30 ?_
  refine U_iload 33 0 O dX6_init_33 rfl rfl ?_
  refine U_newC 34 O uc_X6_9 (by decide) (by decide) dX6_init_34 (fun z5 => ?_)
  refine U_dup 37 O dX6_init_37 rfl ?_
  refine U_callNC 38 [] [.ref z5, .int 5, .ref la] O mb_X2_init rfl mi_X2_init (by decide) dX6_init_38 rfl rfl (Nat.le_of_ble_eq_true rfl) (by decide) (by decide) (by decide) (fun l => N_X2 z5) (fun _ => ?_)
  refine U_astq 41 1 8 2 O rfl rfl rfl (ib_in (by decide)) dX6_init_41 ?_
  refine U_eq (ws' := (b, .inr (6, _)) :: _) rfl ?_
  refine U_iinc 42 0 [0, 1] [(1, .int 6), (0, .ref b)] O dX6_init_42 rfl ci_1 (by decide) rfl ?_
  refine U_goto 45 23 O dX6_init_45 rfl ?_
  refine U_iload 23 0 O dX6_init_23 rfl rfl ?_
  refine U_bipush 24 (v := 8) O dX6_init_24 (by decide) ?_
  refine U_icmp_ge 26 48 O dX6_init_26 rfl (fun h => absurd h (by decide)) (fun _ => ?_)
  refine U_aload 29 1 O dX6_init_29 rfl rfl ?_
  refine U_getC 30 O uf_X6_11 rfl dX6_init_30 ?_
  refine U_iload 33 0 O dX6_init_33 rfl rfl ?_
  refine U_newC 34 O uc_X6_9 (by decide) (by decide) dX6_init_34 (fun z6 => ?_)
  refine U_dup 37 O dX6_init_37 rfl ?_
  refine U_callNC 38 [] [.ref z6, .int 6, .ref la] O mb_X2_init rfl mi_X2_init (by decide) dX6_init_38 rfl rfl (Nat.le_of_ble_eq_true rfl) (by decide) (by decide) (by decide) (fun l => N_X2 z6) (fun _ => ?_)
  refine U_astq 41 1 9 2 O rfl rfl rfl (ib_in (by decide)) dX6_init_41 ?_
  refine U_eq (ws' := (b, .inr (6, _)) :: _) rfl ?_
  refine U_iinc 42 0 [0, 1] [(1, .int 7), (0, .ref b)] O dX6_init_42 rfl ci_1 (by decide) rfl ?_
  refine U_goto 45 23 O dX6_init_45 rfl ?_
  refine U_iload 23 0 O dX6_init_23 rfl rfl ?_
  refine U_bipush 24 (v := 8) O dX6_init_24 (by decide) ?_
  refine U_icmp_ge 26 48 O dX6_init_26 rfl (fun h => absurd h (by decide)) (fun _ => ?_)
  refine U_aload 29 1 O dX6_init_29 rfl rfl ?_
  refine U_getC 30 O uf_X6_11 rfl dX6_init_30 ?_
  refine U_iload 33 0 O dX6_init_33 rfl rfl ?_
  refine U_newC 34 O uc_X6_9 (by decide) (by decide) dX6_init_34 (fun z7 => ?_)
  refine U_dup 37 O dX6_init_37 rfl ?_
  refine U_callNC 38 [] [.ref z7, .int 7, .ref la] O mb_X2_init rfl mi_X2_init (by decide) dX6_init_38 rfl rfl (Nat.le_of_ble_eq_true rfl) (by decide) (by decide) (by decide) (fun l => N_X2 z7) (fun _ => ?_)
  refine U_astq 41 1 10 2 O rfl rfl rfl (ib_in (by decide)) dX6_init_41 ?_
  refine U_eq (ws' := (b, .inr (6, _)) :: _) rfl ?_
  refine U_iinc 42 0 [0, 1] [(1, .int 8), (0, .ref b)] O dX6_init_42 rfl ci_1 (by decide) rfl ?_
  refine U_goto 45 23 O dX6_init_45 rfl ?_
  refine U_iload 23 0 O dX6_init_23 rfl rfl ?_
  refine U_bipush 24 (v := 8) O dX6_init_24 (by decide) ?_
  refine U_icmp_ge 26 48 O dX6_init_26 rfl (fun _ => ?_) (fun h => absurd (by decide) h)
  exact U_vret 48 (fun i => [la, ro, z0, z1, z2, z3, z4, z5, z6, z7].getD i 0) O E rfl (by decide) (by decide) dX6_init_48
theorem ul_X9_3 : Cond.methodLink RX9 3 Lib.objectInit ∈ zW := zin 337 (by decide +kernel) (by decide +kernel)
theorem uc_X9_9 : uC RX9 9 3 4 dfX3 := ⟨RX3, TX3, tyX3, rfl, uw3, tyX3_ok, zin 338 (by decide +kernel) (by decide +kernel), zin 339 (by decide +kernel) (by decide +kernel), zin 90 (by decide +kernel) (by decide +kernel), dfl rfl⟩
theorem mb_X3_init : mB yX3_init cX3_init 1 none 0 := ⟨zin 342 (by decide +kernel) (by decide +kernel), zin 90 (by decide +kernel) (by decide +kernel), by decide, by decide, by decide +kernel⟩
theorem mi_X3_init : Cond.instanceMethod yX3_init ∈ zW := zin 341 (by decide +kernel) (by decide +kernel)
theorem uf_X9_12 : uF RX9 12 9 2 true (.object "WaterTown$Mains") := ⟨RX9, TX9, 11, tyX9, rfl, uw9, Nat.le_of_ble_eq_true rfl, zin 362 (by decide +kernel) (by decide +kernel), rfl, by decide +kernel, tyX9_ok, nmX9, rfl⟩
theorem uf_X9_18 : uF RX9 18 9 3 true (.array .int) := ⟨RX9, TX9, 11, tyX9, rfl, uw9, Nat.le_of_ble_eq_true rfl, zin 364 (by decide +kernel) (by decide +kernel), rfl, by decide +kernel, tyX9_ok, nmX9, rfl⟩
theorem uf_X9_22 : uF RX9 22 9 4 true (.array .int) := ⟨RX9, TX9, 11, tyX9, rfl, uw9, Nat.le_of_ble_eq_true rfl, zin 366 (by decide +kernel) (by decide +kernel), rfl, by decide +kernel, tyX9_ok, nmX9, rfl⟩
theorem uf_X9_25 : uF RX9 25 9 5 true (.array .int) := ⟨RX9, TX9, 11, tyX9, rfl, uw9, Nat.le_of_ble_eq_true rfl, zin 368 (by decide +kernel) (by decide +kernel), rfl, by decide +kernel, tyX9_ok, nmX9, rfl⟩
theorem uf_X9_28 : uF RX9 28 9 6 true (.array .int) := ⟨RX9, TX9, 11, tyX9, rfl, uw9, Nat.le_of_ble_eq_true rfl, zin 371 (by decide +kernel) (by decide +kernel), rfl, by decide +kernel, tyX9_ok, nmX9, rfl⟩
theorem uf_X9_31 : uF RX9 31 9 7 true (.array .int) := ⟨RX9, TX9, 11, tyX9, rfl, uw9, Nat.le_of_ble_eq_true rfl, zin 373 (by decide +kernel) (by decide +kernel), rfl, by decide +kernel, tyX9_ok, nmX9, rfl⟩
theorem uf_X9_34 : uF RX9 34 9 8 true (.array .int) := ⟨RX9, TX9, 11, tyX9, rfl, uw9, Nat.le_of_ble_eq_true rfl, zin 375 (by decide +kernel) (by decide +kernel), rfl, by decide +kernel, tyX9_ok, nmX9, rfl⟩
theorem uf_X9_37 : uF RX9 37 9 0 true (.object "WaterTown$Pipes") := ⟨RX9, TX9, 11, tyX9, rfl, uw9, Nat.le_of_ble_eq_true rfl, zin 360 (by decide +kernel) (by decide +kernel), rfl, by decide +kernel, tyX9_ok, nmX9, rfl⟩
theorem uf_X9_41 : uF RX9 41 9 1 true (.object "WaterTown$Streets") := ⟨RX9, TX9, 11, tyX9, rfl, uw9, Nat.le_of_ble_eq_true rfl, zin 361 (by decide +kernel) (by decide +kernel), rfl, by decide +kernel, tyX9_ok, nmX9, rfl⟩
theorem ms_fill : mS yJ7_fill_53178 cJ7_fill_53178 4 none 2 := ⟨⟨zin 359 (by decide +kernel) (by decide +kernel), zin 91 (by decide +kernel) (by decide +kernel), by decide, by decide, by decide +kernel⟩, zin 358 (by decide +kernel) (by decide +kernel)⟩
theorem ul_X9_45 : Cond.methodLink RX9 45 yJ7_fill_53178 ∈ zW := zin 357 (by decide +kernel) (by decide +kernel)
def w1_X9 (cA : Nat → ClassId) (b a1 a2 : Nat) (q : Nat → Nat) : va_W := [(b, .inr (9, [.ref (a1), .ref (a2), .ref (q 0), .ref (q 10), .ref (q 5), .ref (q 6), .ref (q 7), .ref (q 8), .ref (q 9), .int 0, .int 0])), (q 0, .inr (3, [.ref (q 1), .ref (q 2), .ref (q 3), .ref (q 4)])), (q 1, .inl (cA 0, 121, .inl (fun _ => 0))), (q 2, .inl (cA 0, 11, .inl (fun _ => 0))), (q 3, .inl (cA 0, 11, .inl (fun _ => 0))), (q 4, .inl (cA 0, 11, .inl (fun _ => 0))), (q 5, .inl (cA 0, 10, .inl (fun _ => 0))), (q 6, .inl (cA 0, 10, .inl (fun _ => 0))), (q 7, .inl (cA 0, 10, .inl (fun _ => 0))), (q 8, .inl (cA 0, 10, .inl (fun _ => 0))), (q 9, .inl (cA 0, 10, .inl (fun _ => 0))), (q 10, .inl (cA 0, 24, .inl (f100 24)))]
set_option maxRecDepth 10000 in
theorem N_X9 {l : Launch} {D : va_G} {cA : Nat → ClassId} (b a1 a2 : Nat) : uN l D cA 2 32 11 232 yX9_init (.code yX9_init cX9_init 3 none) [.ref b, .ref a1, .ref a2] [(b, .inr (9, dfX9))] (w1_X9 cA b a1 a2) := by
  refine uN_of (by decide) (Nat.le_of_ble_eq_true rfl) (fun A x O I E => ?_)
  have I := I rfl
  refine U_aload 0 0 O dX9_init_0 rfl rfl ?_
  refine U_obj 1 O ul_X9_3 oi_1 oi_2 (by decide) (by decide) dX9_init_1 ?_
  refine U_sub 4 O I dX9_init_4 rfl uc_X9_9 dX9_init_5 dX9_init_8 mb_X3_init rfl mi_X3_init (by decide) dX9_init_9 (by decide) (by decide) (by decide) (fun _ => N_X3) uf_X9_12 (fun _ => ⟨rfl, rfl⟩) (by (try simp only [List.length_set]); decide) dX9_init_12 (fun q1 q2 => ?_)
  refine U_arr 15 2 (N := 24) (v := 24) O I dX9_init_15 rfl (fun st => U_bipush 16 O dX9_init_16 (by decide)) uT0 (by decide) (by decide) (by decide) (by decide) (by decide) uf_X9_18 (fun _ => ⟨rfl, rfl⟩) (by (try simp only [List.length_set]); decide) dX9_init_18 dX9_init_20 (fun q3 => ?_)
  refine U_arr 23 2 (N := 10) (v := 10) O I dX9_init_23 rfl (fun st => U_bipush 24 O dX9_init_24 (by decide)) uT0 (by decide) (by decide) (by decide) (by decide) (by decide) uf_X9_22 (fun _ => ⟨rfl, rfl⟩) (by (try simp only [List.length_set]); decide) dX9_init_26 dX9_init_28 (fun q4 => ?_)
  refine U_arr 31 2 (N := 10) (v := 10) O I dX9_init_31 rfl (fun st => U_bipush 32 O dX9_init_32 (by decide)) uT0 (by decide) (by decide) (by decide) (by decide) (by decide) uf_X9_25 (fun _ => ⟨rfl, rfl⟩) (by (try simp only [List.length_set]); decide) dX9_init_34 dX9_init_36 (fun q5 => ?_)
  refine U_arr 39 2 (N := 10) (v := 10) O I dX9_init_39 rfl (fun st => U_bipush 40 O dX9_init_40 (by decide)) uT0 (by decide) (by decide) (by decide) (by decide) (by decide) uf_X9_28 (fun _ => ⟨rfl, rfl⟩) (by (try simp only [List.length_set]); decide) dX9_init_42 dX9_init_44 (fun q6 => ?_)
  refine U_arr 47 2 (N := 10) (v := 10) O I dX9_init_47 rfl (fun st => U_bipush 48 O dX9_init_48 (by decide)) uT0 (by decide) (by decide) (by decide) (by decide) (by decide) uf_X9_31 (fun _ => ⟨rfl, rfl⟩) (by (try simp only [List.length_set]); decide) dX9_init_50 dX9_init_52 (fun q7 => ?_)
  refine U_arr 55 2 (N := 10) (v := 10) O I dX9_init_55 rfl (fun st => U_bipush 56 O dX9_init_56 (by decide)) uT0 (by decide) (by decide) (by decide) (by decide) (by decide) uf_X9_34 (fun _ => ⟨rfl, rfl⟩) (by (try simp only [List.length_set]); decide) dX9_init_58 dX9_init_60 (fun q8 => ?_)
  refine U_aload 63 0 O dX9_init_63 rfl rfl ?_
  refine U_aload 64 1 O dX9_init_64 rfl rfl ?_
  refine U_putFC 65 O I uf_X9_37 ⟨rfl, rfl⟩ (by (try simp only [List.length_set]); decide) dX9_init_65 ?_
  refine U_aload 68 0 O dX9_init_68 rfl rfl ?_
  refine U_aload 69 2 O dX9_init_69 rfl rfl ?_
  refine U_putFC 70 O I uf_X9_41 ⟨rfl, rfl⟩ (by (try simp only [List.length_set]); decide) dX9_init_70 ?_
  refine U_aload 73 0 O dX9_init_73 rfl rfl ?_
  refine U_getC 74 O uf_X9_18 rfl dX9_init_74 ?_
  refine U_bipush 77 (v := 100) O dX9_init_77 (by decide) ?_
  refine U_callS 79 6 [0, 1, 2, 3, 4, 5, 7, 8, 9, 10, 11] [(b, .inr (9, [.ref (a1), .ref (a2), .ref (q1), .ref (q3), .ref (q4), .ref (q5), .ref (q6), .ref (q7), .ref (q8), .int 0, .int 0])), (q1, .inr (3, [.ref (q2 0), .ref (q2 1), .ref (q2 2), .ref (q2 3)])), (q2 0, .inl (cA 0, 121, .inl (fun _ => 0))), (q2 1, .inl (cA 0, 11, .inl (fun _ => 0))), (q2 2, .inl (cA 0, 11, .inl (fun _ => 0))), (q2 3, .inl (cA 0, 11, .inl (fun _ => 0))), (q4, .inl (cA 0, 10, .inl (fun _ => 0))), (q5, .inl (cA 0, 10, .inl (fun _ => 0))), (q6, .inl (cA 0, 10, .inl (fun _ => 0))), (q7, .inl (cA 0, 10, .inl (fun _ => 0))), (q8, .inl (cA 0, 10, .inl (fun _ => 0)))] [.ref q3, .int 100] [] O ms_fill ul_X9_45 dX9_init_79 rfl rfl (by decide) (by decide) (by decide) (by decide) rfl rfl (by decide) (by decide) (fun l => N_fill q3) (fun _ => ?_)
  exact U_vret 82 (fun i => [q1, q2 0, q2 1, q2 2, q2 3, q4, q5, q6, q7, q8, q3].getD i 0) O E rfl (by decide) (by decide) dX9_init_82
theorem ul_X10_3 : Cond.methodLink RX10 3 Lib.objectInit ∈ zW := zin 409 (by decide +kernel) (by decide +kernel)
theorem uc_X10_9 : uC RX10 9 7 2 dfX7 := ⟨RX7, TX7, tyX7, rfl, uw7, tyX7_ok, zin 410 (by decide +kernel) (by decide +kernel), zin 215 (by decide +kernel) (by decide +kernel), zin 85 (by decide +kernel) (by decide +kernel), dfl rfl⟩
theorem mb_X7_init : mB yX7_init cX7_init 1 none 0 := ⟨zin 218 (by decide +kernel) (by decide +kernel), zin 85 (by decide +kernel) (by decide +kernel), by decide, by decide, by decide +kernel⟩
theorem mi_X7_init : Cond.instanceMethod yX7_init ∈ zW := zin 217 (by decide +kernel) (by decide +kernel)
theorem uf_X10_12 : uF RX10 12 10 3 true (.object "WaterTown$Stand") := ⟨RX10, TX10, 14, tyX10, rfl, uw10, Nat.le_of_ble_eq_true rfl, zin 417 (by decide +kernel) (by decide +kernel), rfl, by decide +kernel, tyX10_ok, nmX10, rfl⟩
theorem uf_X10_18 : uF RX10 18 10 4 true (.object "WaterTown$Stand") := ⟨RX10, TX10, 14, tyX10, rfl, uw10, Nat.le_of_ble_eq_true rfl, zin 418 (by decide +kernel) (by decide +kernel), rfl, by decide +kernel, tyX10_ok, nmX10, rfl⟩
theorem uc_X10_21 : uC RX10 21 2 9 dfX2 := ⟨RX2, TX2, tyX2, rfl, uw2, tyX2_ok, zin 412 (by decide +kernel) (by decide +kernel), zin 273 (by decide +kernel) (by decide +kernel), zin 88 (by decide +kernel) (by decide +kernel), dfl rfl⟩
theorem uf_X10_24 : uF RX10 24 10 5 true (.object "WaterTown$Law") := ⟨RX10, TX10, 14, tyX10, rfl, uw10, Nat.le_of_ble_eq_true rfl, zin 419 (by decide +kernel) (by decide +kernel), rfl, by decide +kernel, tyX10_ok, nmX10, rfl⟩
theorem uf_X10_28 : uF RX10 28 10 6 true (.array .int) := ⟨RX10, TX10, 14, tyX10, rfl, uw10, Nat.le_of_ble_eq_true rfl, zin 420 (by decide +kernel) (by decide +kernel), rfl, by decide +kernel, tyX10_ok, nmX10, rfl⟩
theorem uf_X10_32 : uF RX10 32 10 7 true (.array .int) := ⟨RX10, TX10, 14, tyX10, rfl, uw10, Nat.le_of_ble_eq_true rfl, zin 421 (by decide +kernel) (by decide +kernel), rfl, by decide +kernel, tyX10_ok, nmX10, rfl⟩
theorem uf_X10_35 : uF RX10 35 10 8 true (.array .int) := ⟨RX10, TX10, 14, tyX10, rfl, uw10, Nat.le_of_ble_eq_true rfl, zin 422 (by decide +kernel) (by decide +kernel), rfl, by decide +kernel, tyX10_ok, nmX10, rfl⟩
theorem uf_X10_38 : uF RX10 38 10 9 false .int := ⟨RX10, TX10, 14, tyX10, rfl, uw10, Nat.le_of_ble_eq_true rfl, zin 423 (by decide +kernel) (by decide +kernel), rfl, by decide +kernel, tyX10_ok, nmX10, rfl⟩
theorem uf_X10_42 : uF RX10 42 10 10 false .int := ⟨RX10, TX10, 14, tyX10, rfl, uw10, Nat.le_of_ble_eq_true rfl, zin 424 (by decide +kernel) (by decide +kernel), rfl, by decide +kernel, tyX10_ok, nmX10, rfl⟩
theorem uf_X10_45 : uF RX10 45 10 11 true (.array .int) := ⟨RX10, TX10, 14, tyX10, rfl, uw10, Nat.le_of_ble_eq_true rfl, zin 425 (by decide +kernel) (by decide +kernel), rfl, by decide +kernel, tyX10_ok, nmX10, rfl⟩
theorem uf_X10_48 : uF RX10 48 10 0 true (.object "WaterTown$Supply") := ⟨RX10, TX10, 14, tyX10, rfl, uw10, Nat.le_of_ble_eq_true rfl, zin 414 (by decide +kernel) (by decide +kernel), rfl, by decide +kernel, tyX10_ok, nmX10, rfl⟩
theorem uf_X10_52 : uF RX10 52 10 1 true (.object "WaterTown$Streets") := ⟨RX10, TX10, 14, tyX10, rfl, uw10, Nat.le_of_ble_eq_true rfl, zin 415 (by decide +kernel) (by decide +kernel), rfl, by decide +kernel, tyX10_ok, nmX10, rfl⟩
theorem uf_X10_56 : uF RX10 56 10 2 true (.object "WaterTown$Rules") := ⟨RX10, TX10, 14, tyX10, rfl, uw10, Nat.le_of_ble_eq_true rfl, zin 416 (by decide +kernel) (by decide +kernel), rfl, by decide +kernel, tyX10_ok, nmX10, rfl⟩
def w1_X10 (cA : Nat → ClassId) (b a1 a2 a3 : Nat) (q : Nat → Nat) : va_W := [(b, .inr (10, [.ref (a1), .ref (a2), .ref (a3), .ref (q 0), .ref (q 3), .ref (q 6), .ref (q 7), .ref (q 8), .ref (q 9), .int (-1), .int (-1), .ref (q 10), .int 0, .int 0])), (q 0, .inr (7, [.ref (q 1), .ref (q 2)])), (q 1, .inl (cA 0, 10, .inl (fun _ => 0))), (q 2, .inl (cA 0, 10, .inl (fun _ => 0))), (q 3, .inr (7, [.ref (q 4), .ref (q 5)])), (q 4, .inl (cA 0, 10, .inl (fun _ => 0))), (q 5, .inl (cA 0, 10, .inl (fun _ => 0))), (q 6, .inr (2, [.int (-1), .int 0, .int 0, .int 0, .int 0, .int 0, .int 0, .int 0, .int 0])), (q 7, .inl (cA 0, 6, .inl (fun _ => 0))), (q 8, .inl (cA 0, 64, .inl (fun _ => 0))), (q 9, .inl (cA 0, 64, .inl (fun _ => 0))), (q 10, .inl (cA 0, 6, .inl (fun _ => 0)))]
set_option maxRecDepth 10000 in
theorem N_X10 {l : Launch} {D : va_G} {cA : Nat → ClassId} (b a1 a2 a3 : Nat) : uN l D cA 2 32 11 193 yX10_init (.code yX10_init cX10_init 4 none) [.ref b, .ref a1, .ref a2, .ref a3] [(b, .inr (10, dfX10))] (w1_X10 cA b a1 a2 a3) := by
  refine uN_of (by decide) (Nat.le_of_ble_eq_true rfl) (fun A x O I E => ?_)
  have I := I rfl
  refine U_aload 0 0 O dX10_init_0 rfl rfl ?_
  refine U_obj 1 O ul_X10_3 oi_1 oi_2 (by decide) (by decide) dX10_init_1 ?_
  refine U_sub 4 O I dX10_init_4 rfl uc_X10_9 dX10_init_5 dX10_init_8 mb_X7_init rfl mi_X7_init (by decide) dX10_init_9 (by decide) (by decide) (by decide) (fun _ => N_X7) uf_X10_12 (fun _ => ⟨rfl, rfl⟩) (by (try simp only [List.length_set]); decide) dX10_init_12 (fun q1 q2 => ?_)
  refine U_sub 15 O I dX10_init_15 rfl uc_X10_9 dX10_init_16 dX10_init_19 mb_X7_init rfl mi_X7_init (by decide) dX10_init_20 (by decide) (by decide) (by decide) (fun _ => N_X7) uf_X10_18 (fun _ => ⟨rfl, rfl⟩) (by (try simp only [List.length_set]); decide) dX10_init_23 (fun q3 q4 => ?_)
  refine U_sub 26 O I dX10_init_26 rfl uc_X10_21 dX10_init_27 dX10_init_30 mb_X2_init rfl mi_X2_init (by decide) dX10_init_31 (by decide) (by decide) (by decide) (fun _ => N_X2) uf_X10_24 (fun _ => ⟨rfl, rfl⟩) (by (try simp only [List.length_set]); decide) dX10_init_34 (fun q5 q6 => ?_)
  refine U_arr 37 2 (N := 6) (v := 6) O I dX10_init_37 rfl (fun st => U_bipush 38 O dX10_init_38 (by decide)) uT0 (by decide) (by decide) (by decide) (by decide) (by decide) uf_X10_28 (fun _ => ⟨rfl, rfl⟩) (by (try simp only [List.length_set]); decide) dX10_init_40 dX10_init_42 (fun q7 => ?_)
  refine U_arr 45 2 (N := 64) (v := 64) O I dX10_init_45 rfl (fun st => U_bipush 46 O dX10_init_46 (by decide)) uT0 (by decide) (by decide) (by decide) (by decide) (by decide) uf_X10_32 (fun _ => ⟨rfl, rfl⟩) (by (try simp only [List.length_set]); decide) dX10_init_48 dX10_init_50 (fun q8 => ?_)
  refine U_arr 53 2 (N := 64) (v := 64) O I dX10_init_53 rfl (fun st => U_bipush 54 O dX10_init_54 (by decide)) uT0 (by decide) (by decide) (by decide) (by decide) (by decide) uf_X10_35 (fun _ => ⟨rfl, rfl⟩) (by (try simp only [List.length_set]); decide) dX10_init_56 dX10_init_58 (fun q9 => ?_)
  refine U_aload 61 0 O dX10_init_61 rfl rfl ?_
  refine U_iconst 62 O dX10_init_62 ci_m1 ?_
  refine U_putC 63 O uf_X10_38 ⟨rfl, rfl⟩ (by (try simp only [List.length_set]); decide) dX10_init_63 ?_
  refine U_aload 66 0 O dX10_init_66 rfl rfl ?_
  refine U_iconst 67 O dX10_init_67 ci_m1 ?_
  refine U_putC 68 O uf_X10_42 ⟨rfl, rfl⟩ (by (try simp only [List.length_set]); decide) dX10_init_68 ?_
  refine U_arr 71 2 (N := 6) (v := 6) O I dX10_init_71 rfl (fun st => U_bipush 72 O dX10_init_72 (by decide)) uT0 (by decide) (by decide) (by decide) (by decide) (by decide) uf_X10_45 (fun _ => ⟨rfl, rfl⟩) (by (try simp only [List.length_set]); decide) dX10_init_74 dX10_init_76 (fun q10 => ?_)
  refine U_aload 79 0 O dX10_init_79 rfl rfl ?_
  refine U_aload 80 1 O dX10_init_80 rfl rfl ?_
  refine U_putFC 81 O I uf_X10_48 ⟨rfl, rfl⟩ (by (try simp only [List.length_set]); decide) dX10_init_81 ?_
  refine U_aload 84 0 O dX10_init_84 rfl rfl ?_
  refine U_aload 85 2 O dX10_init_85 rfl rfl ?_
  refine U_putFC 86 O I uf_X10_52 ⟨rfl, rfl⟩ (by (try simp only [List.length_set]); decide) dX10_init_86 ?_
  refine U_aload 89 0 O dX10_init_89 rfl rfl ?_
  refine U_aload 90 3 O dX10_init_90 rfl rfl ?_
  refine U_putFC 91 O I uf_X10_56 ⟨rfl, rfl⟩ (by (try simp only [List.length_set]); decide) dX10_init_91 ?_
  exact U_vret 94 (fun i => [q1, q2 0, q2 1, q3, q4 0, q4 1, q5, q7, q8, q9, q10].getD i 0) O E rfl (by decide) (by decide) dX10_init_94
