/-! ===== the class reads tokens ===== -/
def cTx (t : Tx) (σ : Sg) : Prop := σ 25 0 = nI t.1 ∧ ∀ i, i < t.1 → σ 26 i = nI (t.2 i)
theorem cTx_of {t : Tx} {σ τ : Sg} (h : cTx t σ) (h1 : τ 25 0 = σ 25 0) (h2 : ∀ j, τ 26 j = σ 26 j) : cTx t τ := ⟨by rw [h1]; exact h.1, fun i hi => by rw [h2]; exact h.2 i hi⟩
theorem kindOf_ok {n c : Nat} {σ : Sg} (hc : c < 256) : s_X5_kindOf n (nI c) σ = some (nI (kd c), σ) := by
  have key28 : isD c = false → isL c = false → s_X5_kindOf_28 n (nI c) σ = some (nI (kd c), σ) := by
    intro h1 h2
    unfold s_X5_kindOf_28 kd
    rw [h1, h2, if_neg (show ¬ false = true by decide), if_neg (show ¬ false = true by decide)]
    by_cases e1 : c = 44
    · rw [if_pos (by rw [e1]; rfl), if_pos e1]; rfl
    · rw [if_neg (by rw [show (44 : Int32) = nI 44 from rfl, neq (by omega) (by omega)]; exact e1), if_neg e1]
      by_cases e2 : c = 59
      · rw [if_pos (by rw [e2]; rfl), if_pos e2]; rfl
      · rw [if_neg (by rw [show (59 : Int32) = nI 59 from rfl, neq (by omega) (by omega)]; exact e2), if_neg e2]; rfl
  have key14 : isL c = false → s_X5_kindOf_14 n (nI c) σ = some (nI (kd c), σ) := by
    intro h2
    unfold s_X5_kindOf_14
    by_cases e1 : c < 48
    · rw [if_pos (by rw [show (48 : Int32) = nI 48 from rfl, nlt (by omega) (by omega)]; exact e1)]
      exact key28 (by unfold isD; rw [decide_eq_false (by omega)]; rfl) h2
    · rw [if_neg (by rw [show (48 : Int32) = nI 48 from rfl, nlt (by omega) (by omega)]; exact e1)]
      by_cases e2 : 57 < c
      · rw [if_pos (by rw [show (57 : Int32) = nI 57 from rfl, nlt (by omega) (by omega)]; exact e2)]
        exact key28 (by unfold isD; rw [decide_eq_false (show ¬ c ≤ 57 by omega), Bool.and_false]) h2
      · rw [if_neg (by rw [show (57 : Int32) = nI 57 from rfl, nlt (by omega) (by omega)]; exact e2)]
        unfold kd
        rw [h2, if_neg (show ¬ false = true by decide), if_pos (by unfold isD; rw [decide_eq_true (by omega), decide_eq_true (by omega)]; rfl)]
        rfl
  unfold s_X5_kindOf
  by_cases e1 : c < 97
  · rw [if_pos (by rw [show (97 : Int32) = nI 97 from rfl, nlt (by omega) (by omega)]; exact e1)]
    exact key14 (by unfold isL; rw [decide_eq_false (by omega)]; rfl)
  · rw [if_neg (by rw [show (97 : Int32) = nI 97 from rfl, nlt (by omega) (by omega)]; exact e1)]
    by_cases e2 : 122 < c
    · rw [if_pos (by rw [show (122 : Int32) = nI 122 from rfl, nlt (by omega) (by omega)]; exact e2)]
      exact key14 (by unfold isL; rw [decide_eq_false (show ¬ c ≤ 122 by omega), Bool.and_false])
    · rw [if_neg (by rw [show (122 : Int32) = nI 122 from rfl, nlt (by omega) (by omega)]; exact e2)]
      unfold kd
      rw [if_pos (by unfold isL; rw [decide_eq_true (by omega), decide_eq_true (by omega)]; rfl)]
      rfl
theorem kd_le (c : Nat) : kd c ≤ 5 := by
  unfold kd
  repeat' split
  all_goals omega
theorem kd_pos (c : Nat) : 0 < kd c := by
  unfold kd
  repeat' split
  all_goals omega
theorem kd_1 (c : Nat) : kd c = 1 ↔ isL c = true := by
  unfold kd
  by_cases h : isL c = true
  · rw [if_pos h]; simp [h]
  · rw [if_neg h]
    constructor
    · intro z
      split at z
      · cases z
      · split at z
        · cases z
        · split at z <;> cases z
    · intro z; exact absurd z h
theorem kd_2 (c : Nat) : kd c = 2 ↔ isD c = true := by
  unfold kd
  by_cases h : isL c = true
  · rw [if_pos h]
    have hD : ¬ isD c = true := by
      unfold isL at h
      unfold isD
      rw [Bool.and_eq_true, decide_eq_true_eq, decide_eq_true_eq] at h ⊢
      omega
    constructor
    · intro z; cases z
    · intro z; exact absurd z hD
  · rw [if_neg h]
    by_cases h2 : isD c = true
    · rw [if_pos h2]; simp [h2]
    · rw [if_neg h2]
      constructor
      · intro z
        split at z
        · cases z
        · split at z <;> cases z
      · intro z; exact absurd z h2
theorem skip_go {n : Nat} {t : Tx} (ht : txok t) : ∀ (e p k : Nat) (σ : Sg), p + e = t.1 → e < k → cTx t σ → σ 25 4 = nI p → ∃ τ, s_X5_next_0 n k σ = s_X5_next_38 n τ ∧ τ 25 4 = nI (sk t p) ∧ ∀ o j, (o = 25 → j ≠ 4) → τ o j = σ o j := by
  have h160 := ht.1
  intro e
  induction e with
  | zero =>
    intro p k σ he hk hc h4
    obtain ⟨k, rfl⟩ : ∃ k', k = k' + 1 := ⟨k - 1, by omega⟩
    refine ⟨σ, ?_, by rw [h4]; unfold sk; rw [rn_end (by omega)], fun _ _ _ => rfl⟩
    show s_X5_next_0b n _ _ = _
    unfold s_X5_next_0b
    rw [hc.1, h4, if_pos (by rw [nle (by omega) (by omega)]; omega)]
  | succ e ih =>
    intro p k σ he hk hc h4
    obtain ⟨k, rfl⟩ : ∃ k', k = k' + 1 := ⟨k - 1, by omega⟩
    have hch := ht.2 p (by omega)
    show ∃ τ, s_X5_next_0b n (s_X5_next_0 n k) _ = _ ∧ _
    unfold s_X5_next_0b
    rw [hc.1, h4, if_neg (by rw [nle (by omega) (by omega)]; omega), ck_n (by omega) (by omega), ix_n (by omega), hc.2 p (by omega)]
    by_cases e1 : t.2 p = 32
    · rw [if_pos (by rw [e1]; rfl), lt_eq, nI_1]
      obtain ⟨τ, t1, t2, t3⟩ := ih (p + 1) k (up2 σ 25 4 (nI (p + 1))) (by omega) (by omega) (cTx_of hc (by rw [up2_app, if_pos rfl, if_neg (by decide)]) (fun j => up2_o (by decide))) (by simp [up2_app])
      refine ⟨τ, t1, ?_, fun o j ho => ?_⟩
      · rw [t2]
        unfold sk
        rw [rn_yes (p := p) (by omega) (by unfold bl; rw [e1]; rfl)]
      · rw [t3 o j ho]
        by_cases e2 : o = 25
        · subst e2
          rw [up2_app, if_pos rfl, if_neg (ho rfl)]
        · exact up2_o e2
    · rw [if_neg (by rw [show (32 : Int32) = nI 32 from rfl, neq (by omega) (by omega)]; exact e1)]
      refine ⟨σ, rfl, ?_, fun _ _ _ => rfl⟩
      rw [h4]
      unfold sk
      rw [rn_no (by omega) (by unfold bl; rw [decide_eq_false e1])]
theorem word_go {n : Nat} {t : Tx} (ht : txok t) : ∀ (e p k : Nat) (σ : Sg), p + e = t.1 → e < k → cTx t σ → σ 25 5 = 1 → σ 25 4 = nI p → ∃ τ, s_X5_next_117 n k σ = some τ ∧ τ 25 4 = nI (rn isL t p) ∧ ∀ o j, (o = 25 → j ≠ 4) → τ o j = σ o j := by
  have h160 := ht.1
  intro e
  induction e with
  | zero =>
    intro p k σ he hk hc h5 h4
    obtain ⟨k, rfl⟩ : ∃ k', k = k' + 1 := ⟨k - 1, by omega⟩
    refine ⟨σ, ?_, by rw [h4, rn_end (by omega)], fun _ _ _ => rfl⟩
    show s_X5_next_117b n _ _ = _
    unfold s_X5_next_117b
    rw [hc.1, h4, if_pos (by rw [nle (by omega) (by omega)]; omega)]
  | succ e ih =>
    intro p k σ he hk hc h5 h4
    obtain ⟨k, rfl⟩ : ∃ k', k = k' + 1 := ⟨k - 1, by omega⟩
    have hch := ht.2 p (by omega)
    have hkd := kd_le (t.2 p)
    show ∃ τ, s_X5_next_117b n (s_X5_next_117 n k) _ = _ ∧ _
    unfold s_X5_next_117b
    rw [hc.1, h4, if_neg (by rw [nle (by omega) (by omega)]; omega), ck_n (by omega) (by omega), ix_n (by omega), hc.2 p (by omega), kindOf_ok hch, bd_so, h5]
    cases hL : isL (t.2 p)
    · have hne : ¬ kd (t.2 p) = 1 := fun z => by rw [(kd_1 _).mp z] at hL; cases hL
      rw [if_neg (by rw [show (1 : Int32) = nI 1 from rfl, neq (by omega) (by omega)]; exact hne)]
      exact ⟨σ, rfl, by rw [h4, rn_no (by omega) hL], fun _ _ _ => rfl⟩
    · rw [if_pos (by rw [(kd_1 _).mpr hL]; rfl), if_neg (by decide), h4, lt_eq, nI_1]
      obtain ⟨τ, t1, t2, t3⟩ := ih (p + 1) k (up2 σ 25 4 (nI (p + 1))) (by omega) (by omega) (cTx_of hc (by rw [up2_app, if_pos rfl, if_neg (by decide)]) (fun j => up2_o (by decide))) (by rw [up2_app, if_pos rfl, if_neg (by decide)]; exact h5) (by simp [up2_app])
      refine ⟨τ, t1, by rw [t2, rn_yes (p := p) (by omega) hL], fun o j ho => ?_⟩
      rw [t3 o j ho]
      by_cases e2 : o = 25
      · subst e2
        rw [up2_app, if_pos rfl, if_neg (ho rfl)]
      · exact up2_o e2
theorem num_go {n q : Nat} {t : Tx} (ht : txok t) : ∀ (e c k : Nat) (σ : Sg), q + c + e = t.1 → e < k → (∀ i, q ≤ i → i < q + c → isD (t.2 i) = true) → cTx t σ → σ 25 5 = 2 → σ 25 4 = nI (q + c) → (c ≤ 3 → σ 25 7 = nI (vF t.2 c q 0)) → ∃ τ, s_X5_next_117 n k σ = some τ ∧ τ 25 4 = nI (rn isD t (q + c)) ∧ (rn isD t (q + c) - q ≤ 3 → τ 25 7 = nI (vF t.2 (rn isD t (q + c) - q) q 0)) ∧ ∀ o j, (o = 25 → j ≠ 4 ∧ j ≠ 7) → τ o j = σ o j := by
  have h160 := ht.1
  intro e
  induction e with
  | zero =>
    intro c k σ he hk hall hc h5 h4 h7
    obtain ⟨k, rfl⟩ : ∃ k', k = k' + 1 := ⟨k - 1, by omega⟩
    refine ⟨σ, ?_, by rw [h4, rn_end (by omega)], fun hle => ?_, fun _ _ _ => rfl⟩
    · show s_X5_next_117b n _ _ = _
      unfold s_X5_next_117b
      rw [hc.1, h4, if_pos (by rw [nle (by omega) (by omega)]; omega)]
    · rw [rn_end (by omega), show q + c - q = c by omega] at hle ⊢
      exact h7 hle
  | succ e ih =>
    intro c k σ he hk hall hc h5 h4 h7
    obtain ⟨k, rfl⟩ : ∃ k', k = k' + 1 := ⟨k - 1, by omega⟩
    have hch := ht.2 (q + c) (by omega)
    have hkd := kd_le (t.2 (q + c))
    show ∃ τ, s_X5_next_117b n (s_X5_next_117 n k) _ = _ ∧ _
    unfold s_X5_next_117b
    rw [hc.1, h4, if_neg (by rw [nle (by omega) (by omega)]; omega), ck_n (by omega) (by omega), ix_n (by omega), hc.2 (q + c) (by omega), kindOf_ok hch, bd_so, h5]
    cases hD : isD (t.2 (q + c))
    · have hne : ¬ kd (t.2 (q + c)) = 2 := fun z => by rw [(kd_2 _).mp z] at hD; cases hD
      rw [if_neg (by rw [show (2 : Int32) = nI 2 from rfl, neq (by omega) (by omega)]; exact hne)]
      refine ⟨σ, rfl, by rw [h4, rn_no (by omega) hD], fun hle => ?_, fun _ _ _ => rfl⟩
      rw [rn_no (by omega) hD, show q + c - q = c by omega] at hle ⊢
      exact h7 hle
    · rw [if_pos (by rw [(kd_2 _).mpr hD]; rfl), if_pos rfl, h4, ck_n (by omega) (by omega), ix_n (by omega), hc.2 (q + c) (by omega), lt_eq, lt_eq]
      have e4 : ∀ x : Int32, up2 σ 25 7 x 25 4 = nI (q + c) := fun x => by rw [up2_app, if_pos rfl, if_neg (by decide)]; exact h4
      rw [e4, nI_1, show q + c + 1 = q + (c + 1) by omega]
      obtain ⟨τ, t1, t2, t3, t4⟩ := ih (c + 1) k (up2 (up2 σ 25 7 (imin 9999 (σ 25 7 * 10 + nI (t.2 (q + c)) - 48))) 25 4 (nI (q + (c + 1)))) (by omega) (by omega) (fun i i1 i2 => by
        by_cases e1 : i = q + c
        · rw [e1]; exact hD
        · exact hall i i1 (by omega)) (cTx_of hc (by rw [up2_app, if_pos rfl, if_neg (by decide), up2_app, if_pos rfl, if_neg (by decide)]) (fun j => by rw [up2_o (by decide), up2_o (by decide)])) (by rw [up2_app, if_pos rfl, if_neg (by decide), up2_app, if_pos rfl, if_neg (by decide)]; exact h5) (by simp [up2_app]) (fun hle => by
        rw [up2_app, if_pos rfl, if_neg (by decide), up2_app, if_pos rfl, if_pos rfl, h7 (by omega)]
        have hb := vF_lt (ch := t.2) c q 0 hall
        have hp : 10 ^ c ≤ 100 := Nat.pow_le_pow_right (n := 10) (j := 2) (by decide) (by omega)
        have hd2 := hD
        unfold isD at hd2
        rw [Bool.and_eq_true, decide_eq_true_eq, decide_eq_true_eq] at hd2
        rw [show (10 : Int32) = nI 10 from rfl, nmul, nadd, show (48 : Int32) = nI 48 from rfl, nsub (by omega), vF_s]
        unfold imin
        rw [if_pos (by rw [show (9999 : Int32) = nI 9999 from rfl, nlt (by omega) (by omega)]; omega)]
        congr 1
        omega)
      have hrn : rn isD t (q + c) = rn isD t (q + (c + 1)) := by rw [rn_yes (p := q + c) (by omega) hD]; rfl
      rw [hrn]
      refine ⟨τ, t1, t2, t3, fun o j ho => ?_⟩
      rw [t4 o j ho]
      by_cases e2 : o = 25
      · subst e2
        rw [up2_app, if_pos rfl, if_neg (ho rfl).1, up2_app, if_pos rfl, if_neg (ho rfl).2]
      · rw [up2_o e2, up2_o e2]
/-- a token has been read -/
def tokd (t : Tx) (p : Nat) (σ : Sg) : Prop := cTx t σ ∧ σ 25 5 = nI (tk t p) ∧ σ 25 4 = nI (te t p) ∧ σ 25 6 = nI (sk t p)
theorem next5_ok {n p : Nat} {t : Tx} {σ : Sg} (hn : 300000 ≤ n) (ht : txok t) (hp : p ≤ t.1) (hc : cTx t σ) (h4 : σ 25 4 = nI p) : ∃ τ, s_X5_next n σ = some τ ∧ tokd t p τ ∧ (tk t p = 2 → te t p - sk t p ≤ 3 → τ 25 7 = nI (nv t p)) := by
  have h160 := ht.1
  have hsk := sk_le hp
  obtain ⟨σ0, a1, a2, a3⟩ := skip_go (n := n) ht (t.1 - p) p n σ (by omega) (by omega) hc h4
  have a1' : s_X5_next n σ = s_X5_next_38 n σ0 := a1
  rw [a1']
  unfold s_X5_next_38
  rw [lt_eq, a2]
  have b0 : up2 σ0 25 6 (nI (sk t p)) 25 0 = nI t.1 := by rw [up2_app, if_pos rfl, if_neg (by decide), a3 25 0 (fun _ => by decide)]; exact hc.1
  have b4 : up2 σ0 25 6 (nI (sk t p)) 25 4 = nI (sk t p) := by rw [up2_app, if_pos rfl, if_neg (by decide)]; exact a2
  have b26 : ∀ i, i < t.1 → up2 σ0 25 6 (nI (sk t p)) 26 i = nI (t.2 i) := fun i hi => by rw [up2_o (by decide), a3 26 i (fun z => absurd z (by decide))]; exact hc.2 i hi
  have b6 : up2 σ0 25 6 (nI (sk t p)) 25 6 = nI (sk t p) := by simp [up2_app]
  generalize up2 σ0 25 6 (nI (sk t p)) = σ1 at *
  have hk5 : tk t p ≤ 5 := by unfold tk; split; exact kd_le _; omega
  -- behind the kind
  have rest : ∃ τ, s_X5_next_74 n (nI (tk t p)) σ1 = some τ ∧ tokd t p τ ∧ (tk t p = 2 → te t p - sk t p ≤ 3 → τ 25 7 = nI (nv t p)) := by
    unfold s_X5_next_74
    rw [lt_eq]
    have e5 : up2 σ1 25 5 (nI (tk t p)) 25 5 = nI (tk t p) := by simp [up2_app]
    have e4 : up2 σ1 25 5 (nI (tk t p)) 25 4 = nI (sk t p) := by rw [up2_app, if_pos rfl, if_neg (by decide)]; exact b4
    have ec : cTx t (up2 σ1 25 5 (nI (tk t p))) := ⟨by rw [up2_app, if_pos rfl, if_neg (by decide)]; exact b0, fun i hi => by rw [up2_o (by decide)]; exact b26 i hi⟩
    have e6 : up2 σ1 25 5 (nI (tk t p)) 25 6 = nI (sk t p) := by rw [up2_app, if_pos rfl, if_neg (by decide)]; exact b6
    generalize up2 σ1 25 5 (nI (tk t p)) = σ2 at *
    have one : (tk t p = 3 ∨ tk t p = 4 ∨ tk t p = 5) → tokd t p (up2 σ2 25 4 (σ2 25 4 + 1)) ∧ (tk t p = 2 → te t p - sk t p ≤ 3 → up2 σ2 25 4 (σ2 25 4 + 1) 25 7 = nI (nv t p)) := by
      intro hk
      have he : te t p = sk t p + 1 := by unfold te; rw [if_neg (by omega), if_neg (by omega), if_neg (by omega)]
      refine ⟨⟨cTx_of ec (by rw [up2_app, if_pos rfl, if_neg (by decide)]) (fun j => up2_o (by decide)), by rw [up2_app, if_pos rfl, if_neg (by decide)]; exact e5, by rw [up2_app, if_pos rfl, if_pos rfl, e4, nI_1, he], by rw [up2_app, if_pos rfl, if_neg (by decide)]; exact e6⟩, fun z => by omega⟩
    rw [e5]
    by_cases k3 : tk t p = 3
    · rw [if_pos (by rw [k3]; rfl), lt_eq]
      exact ⟨_, rfl, one (.inl k3)⟩
    rw [if_neg (by rw [show (3 : Int32) = nI 3 from rfl, neq (by omega) (by omega)]; exact k3)]
    by_cases k4 : tk t p = 4
    · rw [if_pos (by rw [k4]; rfl), lt_eq]
      exact ⟨_, rfl, one (.inr (.inl k4))⟩
    rw [if_neg (by rw [show (4 : Int32) = nI 4 from rfl, neq (by omega) (by omega)]; exact k4)]
    by_cases k5 : tk t p = 5
    · rw [if_pos (by rw [k5]; rfl), lt_eq]
      exact ⟨_, rfl, one (.inr (.inr k5))⟩
    rw [if_neg (by rw [show (5 : Int32) = nI 5 from rfl, neq (by omega) (by omega)]; exact k5), lt_eq]
    have g : ∀ j, j ≠ 7 → up2 σ2 25 7 0 25 j = σ2 25 j := fun j hj => by rw [up2_app, if_pos rfl, if_neg hj]
    have gc : cTx t (up2 σ2 25 7 0) := cTx_of ec (g 0 (by decide)) (fun j => up2_o (by decide))
    by_cases k1 : tk t p = 1
    · obtain ⟨τ, t1, t2, t3⟩ := word_go (n := n) ht (t.1 - sk t p) (sk t p) n (up2 σ2 25 7 0) (by omega) (by omega) gc (by rw [g 5 (by decide), e5, k1]; rfl) (by rw [g 4 (by decide)]; exact e4)
      refine ⟨τ, t1, ⟨cTx_of gc (t3 25 0 (fun _ => by decide)) (fun j => t3 26 j (fun z => absurd z (by decide))), by rw [t3 25 5 (fun _ => by decide), g 5 (by decide)]; exact e5, by rw [t2]; unfold te; rw [if_pos k1], by rw [t3 25 6 (fun _ => by decide), g 6 (by decide)]; exact e6⟩, fun z => by omega⟩
    by_cases k2 : tk t p = 2
    · obtain ⟨τ, t1, t2, t3, t4⟩ := num_go (n := n) (q := sk t p) ht (t.1 - sk t p) 0 n (up2 σ2 25 7 0) (by omega) (by omega) (fun i i1 i2 => by omega) gc (by rw [g 5 (by decide), e5, k2]; rfl) (by rw [g 4 (by decide)]; exact e4) (fun _ => by simp [up2_app]; rfl)
      have he : te t p = rn isD t (sk t p + 0) := by unfold te; rw [if_neg k1, if_pos k2, Nat.add_zero]
      refine ⟨τ, t1, ⟨cTx_of gc (t4 25 0 (fun _ => by decide)) (fun j => t4 26 j (fun z => absurd z (by decide))), by rw [t4 25 5 (fun _ => by decide), g 5 (by decide)]; exact e5, by rw [t2, he], by rw [t4 25 6 (fun _ => by decide), g 6 (by decide)]; exact e6⟩, fun _ hle => ?_⟩
      unfold nv
      rw [he] at hle ⊢
      exact t3 hle
    · have k0 : tk t p = 0 := by omega
      have hend := (tk_0 hp).mp k0
      obtain ⟨n', rfl⟩ : ∃ k', n = k' + 1 := ⟨n - 1, by omega⟩
      refine ⟨up2 σ2 25 7 0, ?_, ⟨gc, by rw [g 5 (by decide)]; exact e5, by rw [g 4 (by decide), e4]; unfold te; rw [if_neg k1, if_neg k2, if_pos k0], by rw [g 6 (by decide)]; exact e6⟩, fun z => by omega⟩
      show s_X5_next_117b _ _ _ = _
      unfold s_X5_next_117b
      rw [gc.1, g 4 (by decide), e4, hend, if_pos (Int32.le_refl _)]
  rw [b0, b4]
  by_cases hlt : sk t p < t.1
  · have htk : tk t p = kd (t.2 (sk t p)) := by unfold tk; rw [if_pos hlt]
    rw [if_neg (by rw [nle (by omega) (by omega)]; omega), ck_n (by omega) (by omega), ix_n (by omega), b26 _ hlt, kindOf_ok (ht.2 _ hlt), bd_so, ← htk]
    exact rest
  · have htk : tk t p = 0 := by unfold tk; rw [if_neg hlt]
    rw [if_pos (by rw [nle (by omega) (by omega)]; omega)]
    rw [htk] at rest
    rw [htk]
    exact rest
theorem wJ_tab : ∀ w, w < 10 → slen w = nI (wJ w).length ∧ (wJ w).length ≤ 6 ∧ 0 < (wJ w).length ∧ (lenJS.getD w 0) = (wJ w).length ∧ ∀ k, k < (wJ w).length → sch w (nI k) = nI ((wJ w).getD k 0) ∧ (wJ w).getD k 0 < 256 := by decide +kernel
theorem says_go {n w q : Nat} {t : Tx} {σ : Sg} (ht : txok t) (hw : w < 10) (hc : cTx t σ) (h6 : σ 25 6 = nI q) (hq : q + (wJ w).length ≤ t.1) : ∀ (e k f : Nat), k + e = (wJ w).length → e < f → s_X5_says_28 n f w (nI k) σ = some (zo (wEq t.2 (q + k) ((wJ w).drop k)), σ) := by
  obtain ⟨w1, w2, w3, w4, w5⟩ := wJ_tab w hw
  have h160 := ht.1
  intro e
  induction e with
  | zero =>
    intro k f he hf
    obtain ⟨f, rfl⟩ : ∃ k', f = k' + 1 := ⟨f - 1, by omega⟩
    show s_X5_says_28b n _ _ _ _ = _
    unfold s_X5_says_28b
    rw [w1, if_pos (by rw [nle (by omega) (by omega)]; omega), List.drop_eq_nil_of_le (by omega)]
    rfl
  | succ e ih =>
    intro k f he hf
    obtain ⟨f, rfl⟩ : ∃ k', f = k' + 1 := ⟨f - 1, by omega⟩
    have hk : k < (wJ w).length := by omega
    obtain ⟨c1, c2⟩ := w5 k hk
    have hch := ht.2 (q + k) (by omega)
    show s_X5_says_28b n (s_X5_says_28 n f) _ _ _ = _
    unfold s_X5_says_28b
    rw [w1, if_neg (by rw [nle (by omega) (by omega)]; omega), h6, nadd, ck_n (by omega) (by omega), ck_n (by rw [w4]; exact hk) (by rw [w4]; omega), ix_n (by omega), hc.2 _ (by omega), c1, show nI k + 1 = nI (k + 1) from nI_1 k]
    have hdrop : (wJ w).drop k = (wJ w).getD k 0 :: (wJ w).drop (k + 1) := by
      rw [List.drop_eq_getElem_cons hk, List.getD_eq_getElem?_getD, List.getElem?_eq_getElem hk]
      rfl
    rw [hdrop]
    show _ = some (zo (decide (t.2 (q + k) = (wJ w).getD k 0) && wEq t.2 (q + k + 1) ((wJ w).drop (k + 1))), σ)
    by_cases e1 : t.2 (q + k) = (wJ w).getD k 0
    · rw [if_pos (by rw [e1]), decide_eq_true e1, Bool.true_and]
      exact ih (k + 1) f (by omega) (by omega)
    · rw [if_neg (by rw [neq (by omega) (by omega)]; exact e1), decide_eq_false e1, Bool.false_and]
      rfl
theorem says_ok {n w p : Nat} {t : Tx} {σ : Sg} (hn : 300000 ≤ n) (ht : txok t) (hp : p ≤ t.1) (hw : w < 10) (h : tokd t p σ) : s_X5_says n w σ = some (zo (isW t p (wJ w)), σ) := by
  obtain ⟨w1, w2, w3, w4, w5⟩ := wJ_tab w hw
  have h160 := ht.1
  have hsk := sk_le hp
  have hte := te_le hp
  obtain ⟨hc, h5, h4, h6⟩ := h
  have hk5 : tk t p ≤ 5 := by unfold tk; split; exact kd_le _; omega
  unfold s_X5_says isW
  rw [h5]
  by_cases e1 : tk t p = 1
  · rw [if_pos (by rw [e1]; rfl), decide_eq_true e1, Bool.true_and, h4, h6, nsub (by omega), w1]
    by_cases e2 : te t p - sk t p = (wJ w).length
    · rw [if_pos (by rw [e2]), decide_eq_true e2, Bool.true_and]
      have := says_go (n := n) (q := sk t p) ht hw hc h6 (by omega) (wJ w).length 0 n (by omega) (by omega)
      exact this
    · rw [if_neg (by rw [neq (by omega) (by omega)]; exact e2), decide_eq_false e2, Bool.false_and]
      rfl
  · rw [if_neg (by rw [show (1 : Int32) = nI 1 from rfl, neq (by omega) (by omega)]; exact e1), decide_eq_false e1, Bool.false_and]
    rfl
