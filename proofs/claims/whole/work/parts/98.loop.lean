/-! ===== the law's loop, by program (wip/tools/loop.py) ===== -/
theorem and31 (y : Int32) : ∃ k, k < 32 ∧ y &&& (31 : Int32) = nI k := by
  refine ⟨y.toBitVec.toNat % 32, Nat.mod_lt _ (by decide), ?_⟩
  apply Int32.toBitVec_inj.mp
  have e1 : (y &&& (31 : Int32)).toBitVec = y.toBitVec &&& 31#32 := rfl
  have e2 : (nI (y.toBitVec.toNat % 32)).toBitVec = BitVec.ofNat 32 (y.toBitVec.toNat % 32) := rfl
  rw [e1, e2]
  apply BitVec.eq_of_toNat_eq
  rw [BitVec.toNat_and, BitVec.toNat_ofNat, BitVec.toNat_ofNat, show 31 % 2 ^ 32 = 2 ^ 5 - 1 from rfl, Nat.and_two_pow_sub_one_eq_mod, Nat.mod_eq_of_lt (Nat.lt_trans (Nat.mod_lt _ (by decide)) (by decide))]
theorem neg7 : ∀ L, L < 7 → nI L - 7 < 0 := by decide
theorem room7 {L i : Nat} (hL : L ≤ 3584) (hi : i ≤ 3584) (h : ¬ (nI L - 7 < nI i)) : i + 7 ≤ L := by
  by_cases h7 : 7 ≤ L
  · rw [show (7 : Int32) = nI 7 from rfl, nsub h7, nlt (by omega) (by omega)] at h
    omega
  · exact absurd (Int32.lt_of_lt_of_le (neg7 L (by omega)) (n_nn (by omega))) h
section LO
variable {G : zG} {x : zX} {σ : Sg} {b L i : Nat} {xs : Nat → Int32} {n c : Nat}
theorem law_case (O : zO G x cL_law RL 13 492 4) (X : lX G x b L xs) (hL : L ≤ 3584) (hi : i + 6 < L) (hn : 300000 ≤ n) (hc : c < 600) (h : Inv c σ) (k : ∀ τ : Sg, Inv (c + 1) τ → V G x τ (lL G b i) 1221 []) (k0 : V G x σ (lL G b i) 1221 []) : ∀ j, j < 32 → V G x σ (lL G b i) 33 [.int (nI j)]
  | 0, _ => V_tin 33 164 O dL_law_33 (by decide) (by decide) rfl rfl (law_pipe O X hL hi hn hc h k)
  | 1, _ => V_tin 33 217 O dL_law_33 (by decide) (by decide) rfl rfl (law_shut O X hL hi hn hc h k)
  | 2, _ => V_tin 33 266 O dL_law_33 (by decide) (by decide) rfl rfl (law_leak O X hL hi hn hc h k)
  | 3, _ => V_tin 33 299 O dL_law_33 (by decide) (by decide) rfl rfl (law_map O X hL hi hn hc h k)
  | 4, _ => V_tin 33 342 O dL_law_33 (by decide) (by decide) rfl rfl (law_pump O X hL hi hn hc h k)
  | 5, _ => V_tin 33 385 O dL_law_33 (by decide) (by decide) rfl rfl (law_street O X hL hi hn hc h k)
  | 6, _ => V_tin 33 460 O dL_law_33 (by decide) (by decide) rfl rfl (law_over O X hL hi hn hc h k)
  | 7, _ => V_tin 33 483 O dL_law_33 (by decide) (by decide) rfl rfl (law_rooms O X hL hi hn hc h k)
  | 8, _ => V_tin 33 516 O dL_law_33 (by decide) (by decide) rfl rfl (law_count O X hL hi hn hc h k)
  | 9, _ => V_tin 33 539 O dL_law_33 (by decide) (by decide) rfl rfl (law_told O X hL hi hn hc h k)
  | 10, _ => V_tin 33 572 O dL_law_33 (by decide) (by decide) rfl rfl (law_feed O X hL hi hn hc h k)
  | 11, _ => V_tin 33 635 O dL_law_33 (by decide) (by decide) rfl rfl (law_rule O X hL hi hn hc h k)
  | 12, _ => V_tin 33 658 O dL_law_33 (by decide) (by decide) rfl rfl (law_fault O X hL hi hn hc h k)
  | 13, _ => V_tin 33 671 O dL_law_33 (by decide) (by decide) rfl rfl (law_force O X hL hi hn hc h k)
  | 14, _ => V_tin 33 704 O dL_law_33 (by decide) (by decide) rfl rfl (law_go O X hL hi hn hc h k)
  | 15, _ => V_tin 33 727 O dL_law_33 (by decide) (by decide) rfl rfl (law_flow O X hL hi hn hc h k)
  | 16, _ => V_tin 33 770 O dL_law_33 (by decide) (by decide) rfl rfl (law_line O X hL hi hn hc h k)
  | 17, _ => V_tin 33 803 O dL_law_33 (by decide) (by decide) rfl rfl (law_draw O X hL hi hn hc h k)
  | 18, _ => V_tin 33 846 O dL_law_33 (by decide) (by decide) rfl rfl (law_order O X hL hi hn hc h k)
  | 19, _ => V_tin 33 879 O dL_law_33 (by decide) (by decide) rfl rfl (law_cuts O X hL hi hn hc h k)
  | 20, _ => V_tin 33 912 O dL_law_33 (by decide) (by decide) rfl rfl (law_wrong O X hL hi hn hc h k)
  | 21, _ => V_tin 33 925 O dL_law_33 (by decide) (by decide) rfl rfl (law_gauge O X hL hi hn hc h k)
  | 22, _ => V_tin 33 958 O dL_law_33 (by decide) (by decide) rfl rfl (law_guess O X hL hi hn hc h k)
  | 23, _ => V_tin 33 991 O dL_law_33 (by decide) (by decide) rfl rfl (law_explain O X hL hi hn hc h k)
  | 24, _ => V_tin 33 1014 O dL_law_33 (by decide) (by decide) rfl rfl (law_beds O X hL hi hn hc h k)
  | 25, _ => V_tin 33 1089 O dL_law_33 (by decide) (by decide) rfl rfl (law_river O X hL hi hn hc h k)
  | 26, _ => V_tin 33 1122 O dL_law_33 (by decide) (by decide) rfl rfl (law_share O X hL hi hn hc h k)
  | 27, _ => V_tin 33 1175 O dL_law_33 (by decide) (by decide) rfl rfl (law_gains O X hL hi hn hc h k)
  | 28, _ => V_tin 33 1188 O dL_law_33 (by decide) (by decide) rfl rfl (law_beside O X hL hi hn hc h k)
  | 29, _ => V_tout 33 1221 O dL_law_33 (by decide) rfl k0
  | 30, _ => V_tout 33 1221 O dL_law_33 (by decide) rfl k0
  | 31, _ => V_tout 33 1221 O dL_law_33 (by decide) rfl k0
  | j + 32, hj => absurd hj (by omega)
theorem law_loop (O : zO G x cL_law RL 13 492 4) (X : lX G x b L xs) (hL : L ≤ 3584) (hn : 300000 ≤ n) (hend : ∀ σ i, V G x σ (lL G b i) 1227 []) : ∀ r c σ, L < 7 * c + 7 * r + 7 → 7 * c ≤ L → Inv c σ → V G x σ (lL G b (7 * c)) 18 [] := by
  intro r
  induction r with
  | zero =>
    intro c σ h1 h2 h
    refine V_iloadn 18 3 O dL_law_18 rfl rfl (V_aloadn 19 0 O dL_law_19 rfl rfl (V_slen 20 O X dL_law_20 (V_bipush 21 O dL_law_21 cb_7 (V_isub 23 O dL_law_23 ?_))))
    refine V_icmp_gtc 24 1227 O dL_law_24 rfl (fun _ => hend _ _) (fun hq => ?_)
    have := room7 hL (by omega) hq
    omega
  | succ r ih =>
    intro c σ h1 h2 h
    refine V_iloadn 18 3 O dL_law_18 rfl rfl (V_aloadn 19 0 O dL_law_19 rfl rfl (V_slen 20 O X dL_law_20 (V_bipush 21 O dL_law_21 cb_7 (V_isub 23 O dL_law_23 ?_))))
    refine V_icmp_gtc 24 1227 O dL_law_24 rfl (fun _ => hend _ _) (fun hq => ?_)
    have h7 := room7 hL (by omega) hq
    refine V_aloadn 27 0 O dL_law_27 rfl rfl (V_iloadn 28 3 O dL_law_28 rfl rfl (V_sld 29 O X (ib_in (ib_n (by omega) (by omega))) dL_law_29 (V_bipush 30 (v := 31) O dL_law_30 (by decide) (V_iand 32 O dL_law_32 ?_))))
    obtain ⟨j, hj, ej⟩ := and31 (xs (nI (7 * c)).toNatClampNeg)
    rw [ej]
    have next : ∀ τ : Sg, Inv (c + 1) τ → V G x τ (lL G b (7 * c)) 1221 [] := fun τ hI => by
      refine V_iinc 1221 3 [1, 2, 3, 0] (lL G b (7 * (c + 1))) O dL_law_1221 rfl (show Int32.ofInt 7 = 7 by decide) (by decide) ?_ (V_goto 1224 18 O dL_law_1224 rfl (ih (c + 1) τ (by omega) (by omega) hI))
      have e : nI (7 * (c + 1)) = nI (7 * c) + 7 := by rw [show (7 : Int32) = nI 7 from rfl, nadd]; rfl
      unfold lL
      rw [e]
      rfl
    refine law_case O X hL (by omega) hn (by omega) h next (next σ ?_) j hj
    obtain ⟨N, ma, mb, S, K, now, pu, Rs, nr, h'⟩ := h
    exact Inv_s h'
end LO
