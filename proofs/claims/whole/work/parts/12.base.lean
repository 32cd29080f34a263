def bt (x : Int32) (i : Nat) : Bool := x.toBitVec.getLsbD i
theorem b_ext {x y : Int32} (h : ∀ i, i < 32 → bt x i = bt y i) : x = y := Int32.toBitVec_inj.mp (BitVec.eq_of_getLsbD_eq (fun i hi => h i hi))
theorem b_or (x y : Int32) (i : Nat) : bt (x ||| y) i = (bt x i || bt y i) := by unfold bt; rw [Int32.toBitVec_or, BitVec.getLsbD_or]
theorem b_and (x y : Int32) (i : Nat) : bt (x &&& y) i = (bt x i && bt y i) := by unfold bt; rw [Int32.toBitVec_and, BitVec.getLsbD_and]
theorem b_xor (x y : Int32) (i : Nat) : bt (x ^^^ y) i = (bt x i ^^ bt y i) := by unfold bt; rw [Int32.toBitVec_xor, BitVec.getLsbD_xor]
theorem b_big {x : Int32} {i : Nat} (h : 32 ≤ i) : bt x i = false := BitVec.getLsbD_of_ge _ _ h
theorem b_255 (i : Nat) : bt 255 i = decide (i < 8) := by
  rcases Nat.lt_or_ge i 32 with h | h
  · exact (by decide +kernel : ∀ i, i < 32 → bt 255 i = decide (i < 8)) i h
  · rw [b_big h, decide_eq_false (by omega)]
theorem b_65535 (i : Nat) : bt 65535 i = decide (i < 16) := by
  rcases Nat.lt_or_ge i 32 with h | h
  · exact (by decide +kernel : ∀ i, i < 32 → bt 65535 i = decide (i < 16)) i h
  · rw [b_big h, decide_eq_false (by omega)]
theorem b_m1 : ∀ i, i < 32 → bt (-1) i = true := by decide +kernel
theorem b_0 (i : Nat) : bt 0 i = false := BitVec.getLsbD_zero
theorem s_l : ∀ n, n < 32 → ((nI n &&& 31).toBitVec.smod 32).toNat = n := by decide +kernel
theorem s_u : ∀ n, n < 32 → (((nI n).toUInt32 &&& Int32.toUInt32 31).toBitVec % 32).toNat = n := by decide +kernel
theorem b_shl (n : Nat) (hn : n < 32) (x : Int32) {i : Nat} (hi : i < 32) : bt (x <<< (nI n &&& 31)) i = (decide (n ≤ i) && bt x (i - n)) := by
  unfold bt
  rw [Int32.toBitVec_shiftLeft]
  show (x.toBitVec <<< ((nI n &&& 31).toBitVec.smod 32).toNat).getLsbD i = _
  rw [s_l n hn, BitVec.getLsbD_shiftLeft]
  rcases Nat.lt_or_ge i n with h | h
  · simp [h, Nat.not_le.mpr h]
  · simp [hi, h, Nat.not_lt.mpr h]
theorem b_ushr (n : Nat) (hn : n < 32) (x : Int32) (i : Nat) : bt ((x.toUInt32 >>> ((nI n).toUInt32 &&& Int32.toUInt32 31)).toInt32) i = bt x (n + i) := by
  show (x.toUInt32 >>> ((nI n).toUInt32 &&& Int32.toUInt32 31)).toBitVec.getLsbD i = x.toUInt32.toBitVec.getLsbD (n + i)
  rw [UInt32.toBitVec_shiftRight]
  show (x.toUInt32.toBitVec >>> (((nI n).toUInt32 &&& Int32.toUInt32 31).toBitVec % 32).toNat).getLsbD i = _
  rw [s_u n hn, BitVec.getLsbD_ushiftRight]
theorem b_sshr (n : Nat) (hn : n < 32) (x : Int32) {i : Nat} (hi : i < 32) : bt (x >>> (nI n &&& 31)) i = if n + i < 32 then bt x (n + i) else bt x 31 := by
  unfold bt
  rw [Int32.toBitVec_shiftRight]
  show (x.toBitVec.sshiftRight ((nI n &&& 31).toBitVec.smod 32).toNat).getLsbD i = _
  rw [s_l n hn, BitVec.getLsbD_sshiftRight, BitVec.msb_eq_getLsbD_last]
  simp [hi]
theorem b_shl8 (x : Int32) {i : Nat} (hi : i < 32) : bt (x <<< ((8 : Int32) &&& 31)) i = (decide (8 ≤ i) && bt x (i - 8)) := b_shl 8 (by omega) x hi
theorem b_shl16 (x : Int32) {i : Nat} (hi : i < 32) : bt (x <<< ((16 : Int32) &&& 31)) i = (decide (16 ≤ i) && bt x (i - 16)) := b_shl 16 (by omega) x hi
theorem b_shl24 (x : Int32) {i : Nat} (hi : i < 32) : bt (x <<< ((24 : Int32) &&& 31)) i = (decide (24 ≤ i) && bt x (i - 24)) := b_shl 24 (by omega) x hi
theorem b_sshr8 (x : Int32) {i : Nat} (hi : i < 32) : bt (x >>> ((8 : Int32) &&& 31)) i = if 8 + i < 32 then bt x (8 + i) else bt x 31 := b_sshr 8 (by omega) x hi
/-! ===== numbers and places ===== -/
theorem ix_n {j : Nat} (h : j < 2147483648) : ix (nI j) = j := nI_clamp (by omega)
theorem ib_n {j m : Nat} (h : j < m) (hm : m < 2147483648) : ib (nI j) m = true := by
  unfold ib
  rw [nI_clamp (by omega)]
  simp only [Bool.and_eq_true, decide_eq_true_eq]
  exact ⟨nI_pos (by omega), h⟩
theorem ck_n {ρ : Type} {A : Option ρ} {j m : Nat} (h : j < m) (hm : m < 2147483648) : ck (nI j) m A = A := by
  unfold ck
  rw [if_pos (ib_n h hm)]
theorem lit_n (k : Nat) : (OfNat.ofNat k : Int32) = nI k := rfl
theorem nle {a b : Nat} (ha : a < 2147483648) (hb : b < 2147483648) : (nI a ≤ nI b) = (a ≤ b) := propext (nI_leI (by omega) (by omega))
theorem nlt {a b : Nat} (ha : a < 2147483648) (hb : b < 2147483648) : (nI a < nI b) = (a < b) := propext (nI_ltI (by omega) (by omega))
theorem neq {a b : Nat} (ha : a < 2147483648) (hb : b < 2147483648) : (nI a = nI b) = (a = b) := propext (nI_eq (by omega) (by omega))
theorem nmul (a b : Nat) : nI a * nI b = nI (a * b) := pk_mul a b
theorem nadd (a b : Nat) : nI a + nI b = nI (a + b) := nI_add a b
theorem nsub {a b : Nat} (h : b ≤ a) : nI a - nI b = nI (a - b) := pk_sub h
theorem ndec {a : Nat} (h : 0 < a) : nI a + (-1) = nI (a - 1) := by
  obtain ⟨b, rfl⟩ : ∃ b, a = b + 1 := ⟨a - 1, by omega⟩
  exact pk_m1 b
theorem m1_lt : (-1 : Int32) < 0 := by decide
theorem m1_nn : ¬ (0 : Int32) ≤ (-1 : Int32) := by decide
theorem n_nn {a : Nat} (ha : a < 2147483648) : (0 : Int32) ≤ nI a := nI_pos' (by omega)
theorem n_nlt0 {a : Nat} (ha : a < 2147483648) : ¬ nI a < 0 := nI_pos (by omega)
theorem n_ne1 {a : Nat} (ha : a < 2147483648) : ¬ nI a = (-1 : Int32) := by
  intro e
  have h1 := n_nn ha
  rw [e] at h1
  exact m1_nn h1
theorem up2_app (σ : Sg) (o j : Nat) (v : Int32) (o' k : Nat) : up2 σ o j v o' k = if o' = o then (if k = j then v else σ o' k) else σ o' k := by
  unfold up2 upd
  by_cases h : o' = o
  · simp [h]
  · simp [h]
theorem bt_n {a : Nat} (i : Nat) (ha : a < 4294967296) : bt (nI a) i = a.testBit i := by
  unfold bt nI
  show (BitVec.ofNat 32 a).getLsbD i = _
  rw [BitVec.getLsbD_ofNat]
  by_cases hi : i < 32
  · simp [hi]
  · simp only [hi, decide_false, Bool.false_and]
    exact (Nat.testBit_lt_two_pow (Nat.lt_of_lt_of_le ha (by
      show 2 ^ 32 ≤ 2 ^ i
      exact Nat.pow_le_pow_right (by omega) (by omega)))).symm
theorem sl1_bt {v i : Nat} (hv : v < 32) (hi : i < 32) : bt (sl 1 (nI v)) i = decide (i = v) := by
  unfold sl
  rw [b_shl v hv 1 hi]
  have h1 : ∀ k, k < 32 → bt 1 k = decide (k = 0) := by decide +kernel
  rw [h1 (i - v) (by omega)]
  by_cases h : i = v
  · subst h; simp
  · by_cases h2 : v ≤ i
    · have : i - v ≠ 0 := by omega
      simp [h, this]
    · simp [h, h2]
theorem not_bt (x : Int32) {i : Nat} (hi : i < 32) : bt (x ^^^ -1) i = !bt x i := by
  rw [b_xor, b_m1 i hi]
  cases bt x i <;> rfl
/-- bit v of x, as the program asks for it -/
theorem sr_bit (x : Int32) {v : Nat} (hv : v < 32) : (sr x (nI v) &&& (1 : Int32)) = if bt x v = true then 1 else 0 := by
  apply b_ext
  intro i hi
  have h1 : ∀ k, k < 32 → bt 1 k = decide (k = 0) := by decide +kernel
  unfold sr
  rw [b_and, b_sshr v hv x hi, h1 i hi]
  by_cases h0 : i = 0
  · subst h0
    simp only [Nat.add_zero, hv, if_true, decide_true, Bool.and_true]
    cases hb : bt x v
    · simp [b_0]
    · simp [h1 0 (by omega)]
  · simp only [h0, decide_false, Bool.and_false]
    cases hb : bt x v
    · simp [b_0]
    · simp [h1 i hi, h0]
theorem sr_zero (x : Int32) {v : Nat} (hv : v < 32) (h : sr x (nI v) = 0) : ∀ i, v ≤ i → i < 32 → bt x i = false := by
  intro i h1 h2
  have h3 : bt (sr x (nI v)) (i - v) = false := by rw [h]; exact b_0 _
  unfold sr at h3
  rw [b_sshr v hv x (by omega), if_pos (by omega), show v + (i - v) = i by omega] at h3
  exact h3
theorem sr_ne (x : Int32) {v : Nat} (hv : v < 32) (h : ¬ sr x (nI v) = 0) (hs : bt x 31 = false) : ∃ i, v ≤ i ∧ i < 31 ∧ bt x i = true := by
  apply Classical.byContradiction
  intro hn
  apply h
  apply b_ext
  intro i hi
  unfold sr
  rw [b_sshr v hv x hi, b_0]
  by_cases h1 : v + i < 32
  · rw [if_pos h1]
    by_cases h2 : v + i = 31
    · rw [h2]; exact hs
    · cases hb : bt x (v + i)
      · rfl
      · exact absurd ⟨v + i, by omega, by omega, hb⟩ hn
  · rw [if_neg h1]; exact hs
