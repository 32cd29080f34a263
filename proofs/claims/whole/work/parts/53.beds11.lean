/-! ===== beds, the class: the way followed ===== -/
theorem bA_B {B c l v D : Nat} : ∀ d i, B ≤ i → bA B c l v D d i = 0
  | 0, _, _ => rfl
  | d + 1, i, h => by
    show nxt _ _ _ _ = _
    unfold nxt
    rw [if_neg (by omega)]
theorem bA_tr {B c l v D : Nat} (hB : B ≤ 3) (d : Nat) : bA B c l v D d = tr (bA B c l v D d 0) (bA B c l v D d 1) (bA B c l v D d 2) := by
  funext i
  unfold tr
  by_cases h0 : i = 0
  · rw [if_pos h0, h0]
  · by_cases h1 : i = 1
    · rw [if_neg h0, if_pos h1, h1]
    · by_cases h2 : i = 2
      · rw [if_neg h0, if_neg h1, if_pos h2, h2]
      · rw [if_neg h0, if_neg h1, if_neg h2]
        exact bA_3 hB d i (by omega)
theorem fol_q {B c l v O D d jj : Nat} (hB1 : 1 ≤ B) (hB : B ≤ 3) (hold : oldOk c l O) (hD : D ≤ 20) (hd : d ≤ D) (hF : bF B c l v (D + 1) (fun _ => 0) < 1000000) : bdp B c l v (D - d) (bA B c l v D d) jj = decide (min 100 (cw B c l v (D - d) (tr (min (bA B c l v D d 0) (min d O)) (min (bA B c l v D d 1) (min d O)) (min (bA B c l v D d 2) (min d O))) jj) = min 100 (bF B c l v (D - d + 1) (tr (min (bA B c l v D d 0) (min d O)) (min (bA B c l v D d 1) (min d O)) (min (bA B c l v D d 2) (min d O))))) := by
  have l0 := bA_le (B := B) (c := c) (l := l) (v := v) (D := D) d 0
  have l1 := bA_le (B := B) (c := c) (l := l) (v := v) (D := D) d 1
  have l2 := bA_le (B := B) (c := c) (l := l) (v := v) (D := D) d 2
  have hlt := bA_lt hF d (by omega)
  rw [show D + 1 - d = D - d + 1 by omega] at hlt
  have hsm := bF_sm B c l v (D - d + 1) (bA B c l v D d)
  have hcap : bF B c l v (D - d + 1) (tr (min (bA B c l v D d 0) (min d O)) (min (bA B c l v D d 1) (min d O)) (min (bA B c l v D d 2) (min d O))) = bF B c l v (D - d + 1) (bA B c l v D d) := by
    refine Eq.trans ?_ (congrArg (bF B c l v (D - d + 1)) (bA_tr hB d)).symm
    exact capB hB1 hB hold (d := d) (by omega) (by omega) (by omega) (by omega) l0 l1 l2 (by omega) (by omega) (by omega) (fun hb => by rw [bA_B d 2 (by omega), Nat.zero_min]; exact ⟨rfl, rfl⟩) (fun hb => by rw [bA_B d 1 (by omega), Nat.zero_min]; exact ⟨rfl, rfl⟩)
  rw [hcap, cw_cap hB1 hB hold hD hd l0 l1 l2, ← bA_tr hB d]
  unfold bdp cw
  by_cases h : v ≤ sG c l (bA B c l v D d) jj B
  · rw [decide_eq_true h, Bool.true_and, if_pos h]
    apply decide_eq_decide.mpr
    constructor
    · intro e; rw [e]
    · intro e; omega
  · rw [decide_eq_false h, Bool.false_and, if_neg h]
    symm
    apply decide_eq_false
    omega
theorem fol_go {n B c l v D O : Nat} (hn : 60 ≤ n) (hB1 : 1 ≤ B) (hB : B ≤ 3) (hc : c ≤ 99) (hl : l ≤ 30) (hv : v ≤ 297) (hO : O ≤ 20) (hold : oldOk c l O) (hD : D ≤ 20) (hF : bF B c l v (D + 1) (fun _ => 0) < 1000000) : ∀ (e d k : Nat) (σ : Sg), d + e = D + 1 → e < k → bC B c l v D O σ → (∀ d, d ≤ D → cT B c l v (D - d + 1) d O σ) → (∀ d', d' < d → σ 69 d' = jI (pick B c l v (D - d') (bA B c l v D d'))) → ∃ τ, s_X0_follow_48 n k (nI (min (bA B c l v D d 0) (min d O))) (nI (min (bA B c l v D d 1) (min d O))) (nI (min (bA B c l v D d 2) (min d O))) (nI d) σ = some τ ∧ (∀ d', d' ≤ D → τ 69 d' = jI (pick B c l v (D - d') (bA B c l v D d'))) ∧ ∀ o j, o ≠ 69 → τ o j = σ o j := by
  intro e
  induction e with
  | zero =>
    intro d k σ hd hk hC hT hU
    obtain ⟨k, rfl⟩ : ∃ k', k = k' + 1 := ⟨k - 1, by omega⟩
    have hd : d = D + 1 := by omega
    subst hd
    refine ⟨σ, ?_, fun d' h => hU d' (by omega), fun _ _ _ => rfl⟩
    show s_X0_follow_48b n _ _ _ _ _ _ = _
    unfold s_X0_follow_48b
    rw [hC.2.2.2.2.1, if_pos (by rw [nlt (by omega) (by omega)]; omega)]
  | succ e ih =>
    intro d k σ hd hk hC hT hU
    obtain ⟨k, rfl⟩ : ∃ k', k = k' + 1 := ⟨k - 1, by omega⟩
    have l0 := bA_le (B := B) (c := c) (l := l) (v := v) (D := D) d 0
    have l1 := bA_le (B := B) (c := c) (l := l) (v := v) (D := D) d 1
    have l2 := bA_le (B := B) (c := c) (l := l) (v := v) (D := D) d 2
    have hlt := bA_lt hF d (by omega)
    rw [show D + 1 - d = D - d + 1 by omega] at hlt
    have hpk := pick_ok hlt
    have hfb : s_X0_firstBest n (nI d) (nI (min (bA B c l v D d 0) (min d O))) (nI (min (bA B c l v D d 1) (min d O))) (nI (min (bA B c l v D d 2) (min d O))) σ = some (jI (pick B c l v (D - d) (bA B c l v D d)), σ) :=
      first_go (n := n) (q := bdp B c l v (D - d) (bA B c l v D d)) hB1 hB hc hl hv hO hold hD (show d ≤ D by omega) (by omega) (by omega) (by omega) ⟨fun hb => by rw [bA_B d 2 (by omega), Nat.zero_min], fun hb => by rw [bA_B d 1 (by omega), Nat.zero_min]⟩ hC hT (fun jj _ => fol_q hB1 hB hold hD (by omega) hF) ⟨pick B c l v (D - d) (bA B c l v D d), by have := hpk.2; omega, hpk.1⟩ (B + 1) 0 n (by omega) (by omega) (fun j hj => absurd hj (by omega))
    generalize hjj : pick B c l v (D - d) (bA B c l v D d) = jj at hpk hfb
    have hjB : jj ≤ B := by have := hpk.2; omega
    have hC1 : bC B c l v D O (up2 σ 69 d (jI jj)) := ⟨by rw [up2_o (by decide)]; exact hC.1, by rw [up2_o (by decide)]; exact hC.2.1, by rw [up2_o (by decide)]; exact hC.2.2.1, by rw [up2_o (by decide)]; exact hC.2.2.2.1, by rw [up2_o (by decide)]; exact hC.2.2.2.2.1, by rw [up2_o (by decide)]; exact hC.2.2.2.2.2⟩
    have hold' : ∀ i a, a ≤ d → bA B c l v D d i = a → i < 3 → s_X0_older n (nI i) (nI (min a (min d O))) (jI jj) (nI d) (up2 σ 69 d (jI jj)) = some (nI (min (bA B c l v D (d + 1) i) (min (d + 1) O)), up2 σ 69 d (jI jj)) := by
      intro i a ha hai hi
      rw [older_ok (a := fun _ => min a (min d O)) hB hO (by omega) (by omega) rfl hi hjB hC1]
      congr 3
      show _ = min (nxt B (bA B c l v D d) (pick B c l v (D - d) (bA B c l v D d)) i) _
      rw [hjj]
      unfold nxt
      rw [hai]
      split
      · split
        · rfl
        · show min (min a (min d O) + 1) (min (d + 1) O) = min (a + 1) (min (d + 1) O)
          omega
      · rfl
    obtain ⟨τ, t1, t2, t3⟩ := ih (d + 1) k (up2 σ 69 d (jI jj)) (by omega) (by omega) hC1 (fun d' h x y z hx hy hz ht => by rw [up2_o (by decide)]; exact hT d' h x y z hx hy hz ht) (fun d' h => by
      rw [up2_app, if_pos rfl]
      by_cases e1 : d' = d
      · rw [if_pos e1, e1, hjj]
      · rw [if_neg e1]; exact hU d' (by omega))
    refine ⟨τ, ?_, t2, fun o j ho => by rw [t3 o j ho, up2_o ho]⟩
    show s_X0_follow_48b n (s_X0_follow_48 n k) _ _ _ _ _ = _
    unfold s_X0_follow_48b
    rw [hC.2.2.2.2.1, if_neg (by rw [nlt (by omega) (by omega)]; omega), hfb, bd_so, ck_n (by omega) (by omega), ix_n (by omega), lt_eq]
    rw [show s_X0_older n 0 _ (jI jj) (nI d) (up2 σ 69 d (jI jj)) = _ from hold' 0 _ l0 rfl (by omega), bd_so, show s_X0_older n 1 _ (jI jj) (nI d) (up2 σ 69 d (jI jj)) = _ from hold' 1 _ l1 rfl (by omega), bd_so, show s_X0_older n 2 _ (jI jj) (nI d) (up2 σ 69 d (jI jj)) = _ from hold' 2 _ l2 rfl (by omega), bd_so, show nI d + 1 = nI (d + 1) from nI_1 d]
    exact t1
theorem bdv_so {ρ : Type} (s : Sg) (F : Sg → Option ρ) : bdv (some s) F = F s := rfl
theorem bfollow_ok {n B c l v D O : Nat} {σ : Sg} (hn : 60 ≤ n) (hB1 : 1 ≤ B) (hB : B ≤ 3) (hc : c ≤ 99) (hl : l ≤ 30) (hv : v ≤ 297) (hO : O ≤ 20) (hold : oldOk c l O) (hD : D ≤ 20) (hC : bC B c l v D O σ) (hT : ∀ d, d ≤ D → cT B c l v (D - d + 1) d O σ) : ∃ τ, s_X0_follow n σ = some τ ∧ bC B c l v D O τ ∧ (τ 68 1 = if bF B c l v (D + 1) (fun _ => 0) < 1000000 then nI (bF B c l v (D + 1) (fun _ => 0)) else -1) ∧ (∀ d, d ≤ D → τ 69 d = if bF B c l v (D + 1) (fun _ => 0) < 1000000 then jI (pick B c l v (D - d) (bA B c l v D d)) else -1) ∧ ∀ o j, (o ≠ 69 ∧ ¬ (o = 68 ∧ j = 1)) → τ o j = σ o j := by
  obtain ⟨σ1, f1, f2, f3⟩ := fill_ok (n := n) (o := 69) (m := 21) (v := -1) (σ := σ) (by omega) (by omega)
  unfold s_X0_follow
  rw [f1, bdv_so, show s_X0_place n 0 0 0 0 σ1 = some (nI (pl 0 0 0 0), σ1) from place_ok n (d := 0) (x := 0) (y := 0) (z := 0) (by omega) (by omega) (by omega) (by omega) σ1, bd_so, show pl 0 0 0 0 = 0 by decide, ck_n (by omega) (by omega), ix_n (by omega), lt_eq]
  have hz : tr 0 0 0 = fun _ => 0 := by
    funext i
    unfold tr
    split
    · rfl
    · split
      · rfl
      · split <;> rfl
  have h70 : σ1 70 0 = nI (min 100 (bF B c l v (D + 1) (fun _ => 0))) := by
    rw [f3 70 0 (.inl (by decide))]
    have := hT 0 (by omega) 0 0 0 (by omega) (by omega) (by omega) ⟨fun _ => rfl, fun _ => rfl⟩
    rw [show pl 0 0 0 0 = 0 by decide, hz, Nat.sub_zero] at this
    exact this
  rw [h70, up2_app, if_pos rfl, if_pos rfl]
  have hsm := bF_sm B c l v (D + 1) (fun _ => 0)
  have hq := nlt (a := min 100 (bF B c l v (D + 1) (fun _ => 0))) (b := 100) (by omega) (by omega)
  have hC1 : ∀ w, bC B c l v D O (up2 σ1 68 1 w) := fun w => by
    refine ⟨?_, ?_, ?_, ?_, ?_, ?_⟩ <;> rw [up2_app, if_pos rfl, if_neg (by omega), f3 _ _ (.inl (by decide))]
    · exact hC.1
    · exact hC.2.1
    · exact hC.2.2.1
    · exact hC.2.2.2.1
    · exact hC.2.2.2.2.1
    · exact hC.2.2.2.2.2
  by_cases hF : bF B c l v (D + 1) (fun _ => 0) < 1000000
  · have hle : bF B c l v (D + 1) (fun _ => 0) ≤ 21 := by omega
    rw [if_pos (by rw [show (100 : Int32) = nI 100 from rfl, hq]; omega), Nat.min_eq_right (by omega)]
    obtain ⟨τ, t1, t2, t3⟩ := fol_go (n := n) hn hB1 hB hc hl hv hO hold hD hF (D + 1) 0 n (up2 σ1 68 1 (nI (bF B c l v (D + 1) (fun _ => 0)))) (by omega) (by omega) (hC1 _) (fun d' h x y z hx hy hz ht => by rw [up2_o (by decide), f3 _ _ (.inl (by decide))]; exact hT d' h x y z hx hy hz ht) (fun d' h => absurd h (by omega))
    rw [show bA B c l v D 0 = fun _ => 0 from rfl, Nat.zero_min] at t1
    refine ⟨τ, t1, ?_, ?_, ?_, ?_⟩
    · have h1 := hC1 (nI (bF B c l v (D + 1) (fun _ => 0)))
      refine ⟨?_, ?_, ?_, ?_, ?_, ?_⟩ <;> rw [t3 _ _ (by decide)]
      · exact h1.1
      · exact h1.2.1
      · exact h1.2.2.1
      · exact h1.2.2.2.1
      · exact h1.2.2.2.2.1
      · exact h1.2.2.2.2.2
    · rw [if_pos hF, t3 _ _ (by decide), up2_app, if_pos rfl, if_pos rfl]
    · intro d hd
      rw [if_pos hF]
      exact t2 d hd
    · intro o j ho
      rw [t3 o j ho.1, up2_app]
      by_cases e1 : o = 68
      · rw [if_pos e1, if_neg (fun e2 => ho.2 ⟨e1, e2⟩), f3 o j (.inl ho.1)]
      · rw [if_neg e1, f3 o j (.inl ho.1)]
  · rw [if_neg (by rw [show (100 : Int32) = nI 100 from rfl, hq]; omega), lt_eq]
    refine ⟨_, rfl, ?_, ?_, ?_, ?_⟩
    · have h1 := hC1 (nI (min 100 (bF B c l v (D + 1) (fun _ => 0))))
      refine ⟨?_, ?_, ?_, ?_, ?_, ?_⟩ <;> rw [up2_app, if_pos rfl, if_neg (by omega)]
      · exact h1.1
      · exact h1.2.1
      · exact h1.2.2.1
      · exact h1.2.2.2.1
      · exact h1.2.2.2.2.1
      · exact h1.2.2.2.2.2
    · rw [if_neg hF, up2_app, if_pos rfl, if_pos rfl]
    · intro d hd
      rw [if_neg hF, up2_o (by decide), up2_o (by decide)]
      exact f2 d (by omega)
    · intro o j ho
      rw [up2_app, up2_app]
      by_cases e1 : o = 68
      · have : j ≠ 1 := fun e2 => ho.2 ⟨e1, e2⟩
        rw [if_pos e1, if_neg this, if_pos e1, if_neg this, f3 o j (.inl ho.1)]
      · rw [if_neg e1, if_neg e1, f3 o j (.inl ho.1)]
