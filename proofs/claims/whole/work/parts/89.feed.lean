theorem fd_s : ∀ k, k < 8 → (((8 * nI k).toInt64 &&& 63).toBitVec.smod 64).toNat = 8 * k := by decide +kernel
theorem fd_u : ∀ k, k < 8 → (((8 * nI k).toInt64.toUInt64 &&& Int64.toUInt64 63).toBitVec % 64).toNat = 8 * k := by decide +kernel
theorem fd_255 (i : Nat) : (255#64).getLsbD i = decide (i < 8) := by
  rw [BitVec.getLsbD_ofNat, show (255 : Nat) = 2 ^ 8 - 1 from rfl, Nat.testBit_two_pow_sub_one]
  by_cases h : i < 8
  · rw [decide_eq_true h, decide_eq_true (by omega)]; rfl
  · rw [decide_eq_false h, Bool.and_false]
theorem fd_eq (x : Int64) {k : Nat} (hk : k < 8) : lus x (8 * nI k) &&& (255 : Int64) = lsr x (8 * nI k) &&& (255 : Int64) := by
  have e : (lus x (8 * nI k) &&& (255 : Int64)).toBitVec = (lsr x (8 * nI k) &&& (255 : Int64)).toBitVec := by
    have e1 : (lus x (8 * nI k) &&& (255 : Int64)).toBitVec = (x.toBitVec >>> (((8 * nI k).toInt64.toUInt64 &&& Int64.toUInt64 63).toBitVec % 64).toNat) &&& 255#64 := rfl
    have e2 : (lsr x (8 * nI k) &&& (255 : Int64)).toBitVec = (x.toBitVec.sshiftRight (((8 * nI k).toInt64 &&& 63).toBitVec.smod 64).toNat) &&& 255#64 := rfl
    rw [e1, e2, fd_s k hk, fd_u k hk]
    apply BitVec.eq_of_getLsbD_eq
    intro i hi
    rw [BitVec.getLsbD_and, BitVec.getLsbD_and, fd_255]
    by_cases h : i < 8
    · rw [BitVec.getLsbD_ushiftRight, BitVec.getLsbD_sshiftRight, decide_eq_false (show ¬ 64 ≤ i by omega), if_pos (show 8 * k + i < 64 by omega)]
      rfl
    · rw [decide_eq_false h, Bool.and_false, Bool.and_false]
  cases ha : (lus x (8 * nI k) &&& (255 : Int64))
  cases hb : (lsr x (8 * nI k) &&& (255 : Int64))
  rw [ha, hb] at e
  rename_i u v
  cases u; cases v
  exact congrArg (fun z => Int64.ofUInt64 (UInt64.ofBitVec z)) e
theorem fd_c (y : Int64) : ∃ c, c < 256 ∧ (y &&& (255 : Int64)).toInt32 = nI c := by
  refine ⟨y.toBitVec.toNat % 256, Nat.mod_lt _ (by decide), ?_⟩
  have e : (y &&& (255 : Int64)) = Int64.ofNat (y.toBitVec.toNat % 256) := by
    apply Int64.toBitVec_inj.mp
    have e1 : (y &&& (255 : Int64)).toBitVec = y.toBitVec &&& 255#64 := rfl
    have e2 : (Int64.ofNat (y.toBitVec.toNat % 256)).toBitVec = BitVec.ofNat 64 (y.toBitVec.toNat % 256) := rfl
    rw [e1, e2]
    apply BitVec.eq_of_toNat_eq
    rw [BitVec.toNat_and, BitVec.toNat_ofNat, BitVec.toNat_ofNat, show 255 % 2 ^ 64 = 2 ^ 8 - 1 from rfl, Nat.and_two_pow_sub_one_eq_mod, Nat.mod_eq_of_lt (Nat.lt_trans (Nat.mod_lt _ (by decide)) (by decide))]
  rw [e, Int64.toInt32_ofNat']
  rfl
theorem fd_k {k : Nat} (hk : k < 8) : nI (k + 1) - (1 : Int32) = nI k := by
  rw [show (1 : Int32) = nI 1 from rfl, nsub (by omega)]
  rfl
theorem fd_n (k : Nat) : nI k + (-1 : Int32) = nI k - 1 := by rw [Int32.sub_eq_add_neg]
def fdB (x : Int64) (j : Nat) : Int32 := ((lus x ((8 : Int32) * nI j)) &&& (255 : Int64)).toInt32
theorem cfeed_go (n : Nat) (x : Int64) : ∀ k, k ≤ 8 → ∀ m, k < m → ∀ len, len + k ≤ 160 → ∀ σ : Sg, σ 25 0 = nI len → ∃ τ, s_X11_feed_38 n m x (nI k - 1) σ = some (nI (len + k), τ) ∧ τ 25 0 = nI (len + k) ∧ (∀ i, i < len → τ 26 i = σ 26 i) ∧ (∀ i, i < k → τ 26 (len + i) = fdB x (k - 1 - i)) := by
  intro k
  induction k with
  | zero =>
    intro _ m hm len hl σ h
    obtain ⟨m, rfl⟩ : ∃ q, m = q + 1 := ⟨m - 1, by omega⟩
    refine ⟨σ, ?_, h, fun _ _ => rfl, fun i hi => absurd hi (Nat.not_lt_zero _)⟩
    show s_X11_feed_38b n (s_X11_feed_38 n m) x _ σ = _
    unfold s_X11_feed_38b
    rw [if_pos (by decide), h]
    rfl
  | succ k ih =>
    intro hk m hm len hl σ h
    obtain ⟨m, rfl⟩ : ∃ q, m = q + 1 := ⟨m - 1, by omega⟩
    obtain ⟨τ, a1, a2, a3, a4⟩ := ih (by omega) m (by omega) (len + 1) (by omega) (up2 (up2 σ 26 len (fdB x k)) 25 0 (nI len + 1)) (by rw [up2_app, if_pos rfl, if_pos rfl, nI_1])
    refine ⟨τ, ?_, by rw [a2]; congr 1; omega, fun i hi => ?_, fun i hi => ?_⟩
    · show s_X11_feed_38b n (s_X11_feed_38 n m) x _ σ = _
      unfold s_X11_feed_38b
      rw [fd_k (by omega), if_neg (n_nlt0 (by omega))]
      unfold s_X5_put
      rw [h, if_neg (by rw [show (160 : Int32) = nI 160 from rfl, nle (by omega) (by omega)]; omega), ck_n (by omega) (by omega), ix_n (by omega)]
      have q : up2 σ 26 len (fdB x k) 25 0 = nI len := by rw [up2_o (by decide)]; exact h
      rw [lt_eq, lt_eq]
      show s_X11_feed_38 n m x (nI k + -1) (up2 (up2 σ 26 len (fdB x k)) 25 0 (up2 σ 26 len (fdB x k) 25 0 + 1)) = _
      rw [q, fd_n, a1]
      congr 3; omega
    · rw [a3 i (by omega), up2_o (by decide), up2_app, if_pos rfl, if_neg (by omega)]
    · cases i with
      | zero => rw [Nat.add_zero, a3 len (by omega), up2_o (by decide), up2_app, if_pos rfl, if_pos rfl]; rfl
      | succ i =>
        rw [show len + (i + 1) = len + 1 + i by omega, a4 i (by omega)]
        congr 1; omega
theorem mfeed_go (n : Nat) (x : Int64) : ∀ k, k ≤ 8 → ∀ m, k < m → ∀ len, len + k ≤ 160 → ∀ σ : Sg, σ 71 33 = nI len → ∃ τ, s_X12_feed_37 n m x (nI k - 1) σ = some (nI (len + k), τ) ∧ τ 71 33 = nI (len + k) ∧ (∀ i, i < len → τ 98 i = σ 98 i) ∧ (∀ i, i < k → τ 98 (len + i) = fdB x (k - 1 - i)) := by
  intro k
  induction k with
  | zero =>
    intro _ m hm len hl σ h
    obtain ⟨m, rfl⟩ : ∃ q, m = q + 1 := ⟨m - 1, by omega⟩
    refine ⟨σ, ?_, h, fun _ _ => rfl, fun i hi => absurd hi (Nat.not_lt_zero _)⟩
    show s_X12_feed_37b n (s_X12_feed_37 n m) x _ σ = _
    unfold s_X12_feed_37b
    rw [if_pos (by decide), h]
    rfl
  | succ k ih =>
    intro hk m hm len hl σ h
    obtain ⟨m, rfl⟩ : ∃ q, m = q + 1 := ⟨m - 1, by omega⟩
    obtain ⟨τ, a1, a2, a3, a4⟩ := ih (by omega) m (by omega) (len + 1) (by omega) (up2 (up2 σ 98 len (fdB x k)) 71 33 (nI len + 1)) (by rw [up2_app, if_pos rfl, if_pos rfl, nI_1])
    refine ⟨τ, ?_, by rw [a2]; congr 1; omega, fun i hi => ?_, fun i hi => ?_⟩
    · show s_X12_feed_37b n (s_X12_feed_37 n m) x _ σ = _
      unfold s_X12_feed_37b
      rw [fd_k (by omega), if_neg (n_nlt0 (by omega)), h, ck_n (by omega) (by omega), ix_n (by omega), ← fd_eq x (show k < 8 by omega)]
      have q : up2 σ 98 len (fdB x k) 71 33 = nI len := by rw [up2_o (by decide)]; exact h
      rw [lt_eq, lt_eq]
      show s_X12_feed_37 n m x (nI k + -1) (up2 (up2 σ 98 len (fdB x k)) 71 33 (up2 σ 98 len (fdB x k) 71 33 + 1)) = _
      rw [q, fd_n, a1]
      congr 3; omega
    · rw [a3 i (by omega), up2_o (by decide), up2_app, if_pos rfl, if_neg (by omega)]
    · cases i with
      | zero => rw [Nat.add_zero, a3 len (by omega), up2_o (by decide), up2_app, if_pos rfl, if_pos rfl]; rfl
      | succ i =>
        rw [show len + (i + 1) = len + 1 + i by omega, a4 i (by omega)]
        congr 1; omega
theorem st_feed {n c : Nat} {x1 : Int32} {x2 : Int64} {σ : Sg} (hn : 300000 ≤ n) (h : Inv c σ) : wStp c (s_X11_feed n x1 x2) (s_X12_feed n x1 x2) σ := by
  have i1 : ∀ σ, s_X12_in n x1.toInt64 1 8 σ = some (zo (inb 1 x1 8), σ) := fun σ => inb_ok n x1 1 8 σ
  have o1 : ∀ σ, s_X11_isOutside n x1 1 8 σ = some (zo (!inb 1 x1 8), σ) := fun σ => out_ok n x1 1 8 σ
  obtain ⟨N, ma, mb, S, K, now, pu, Rs, nr, h⟩ := h
  cases e1 : inb 1 x1 8
  · refine ⟨-1002, σ, σ, ?_, ?_, Inv_s h⟩
    · unfold s_X11_feed; rw [o1, bd_so, e1, if_neg z_nf]
    · unfold s_X12_feed; rw [i1, bd_so, e1, if_pos z_f]
  obtain ⟨k, rfl, k1, k2⟩ := rng (a := 1) (c := 8) (by omega) (by omega) e1
  obtain ⟨h1, h2, h3, h4, h5, h6, h7, h8, h9, h10, h11⟩ := h
  obtain ⟨x0, len, xl, x25, x33, xb⟩ := h5
  by_cases hl : len + k ≤ 160
  · have hle : ((nI len + nI k) ≤ (160 : Int32)) := by rw [nadd, show (160 : Int32) = nI 160 from rfl, nle (by omega) (by omega)]; exact hl
    obtain ⟨τ, a1, a2, a3, a4⟩ := cfeed_go n x2 k (by omega) n (by omega) len hl σ x25
    have eC : s_X11_feed n (nI k) x2 σ = some (nI (len + k), τ) := by
      unfold s_X11_feed; rw [o1, bd_so, e1, if_pos z_nt, x25, if_pos hle, lt_eq]; exact a1
    have fτ : ∀ o j, fok W_X11_feed o j = true → τ o j = σ o j := fun o j ho => fr_s_X11_feed ho _ _ _ eC
    obtain ⟨ρ, b1, b2, b3, b4⟩ := mfeed_go n x2 k (by omega) n (by omega) len hl τ (by rw [fτ 71 33 rfl]; exact x33)
    have eM : s_X12_feed n (nI k) x2 τ = some (nI (len + k), ρ) := by
      unfold s_X12_feed; rw [i1, bd_so, e1, if_neg z_t, fτ 71 33 rfl, x33, if_pos hle, lt_eq]; exact b1
    have fρ : ∀ o j, fok W_X12_feed o j = true → ρ o j = τ o j := fun o j ho => fr_s_X12_feed ho _ _ _ eM
    have f : ∀ o j, fok (W_X11_feed ++ W_X12_feed) o j = true → ρ o j = σ o j := fun o j ho => by
      rw [fρ o j (fok_app ho).2, fτ o j (fok_app ho).1]
    refine ⟨nI (len + k), τ, ρ, eC, eM, Inv_s ⟨iN_of h1 (fr_sup rfl f), iS_of h2 (fr_sup rfl f), iT_of h3 (fr_sup rfl f), iP_of h4 (fr_sup rfl f), ⟨by rw [f 25 1 rfl, f 71 36 rfl]; exact x0, len + k, hl, by rw [fρ 25 0 rfl]; exact a2, b2, fun i hi => ?_⟩, iR_of h6 (fr_sup rfl f), iC_of h7 (fr_sup rfl f), iG_of h8 (fr_sup rfl f), iV_of h9 (fr_sup rfl f), iB_of h10 (fr_sup rfl f), iO_of h11 (fr_sup rfl f)⟩⟩
    rw [fρ 26 i rfl]
    by_cases hi2 : i < len
    · rw [a3 i hi2, b3 i hi2, fτ 98 i rfl]
      exact xb i hi2
    · obtain ⟨j, rfl⟩ : ∃ j, i = len + j := ⟨i - len, by omega⟩
      rw [a4 j (by omega), b4 j (by omega)]
      exact ⟨rfl, fd_c _⟩
  · have hle : ¬ ((nI len + nI k) ≤ (160 : Int32)) := by rw [nadd, show (160 : Int32) = nI 160 from rfl, nle (by omega) (by omega)]; exact hl
    refine ⟨-1004, σ, σ, ?_, ?_, Inv_s ⟨h1, h2, h3, h4, ⟨x0, len, xl, x25, x33, xb⟩, h6, h7, h8, h9, h10, h11⟩⟩
    · unfold s_X11_feed; rw [o1, bd_so, e1, if_pos z_nt, x25, if_neg hle]
    · unfold s_X12_feed; rw [i1, bd_so, e1, if_neg z_t, x33, if_neg hle]
