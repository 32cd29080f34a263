/-! ===== beds, the class: all days weighed ===== -/
theorem plan_go {n B c l v D O : Nat} (hn : 60 ≤ n) (hB1 : 1 ≤ B) (hB : B ≤ 3) (hc : c ≤ 99) (hl : l ≤ 30) (hv : v ≤ 297) (hO : O ≤ 20) (hold : oldOk c l O) (hD : D ≤ 20) : ∀ (m k : Nat) (σ : Sg), m ≤ D + 1 → m < k → bC B c l v D O σ → (∀ d, m ≤ d → d ≤ D → cT B c l v (D - d + 1) d O σ) → ∃ τ, s_X0_plan_98 n k (jI m) σ = s_X0_follow n τ ∧ bC B c l v D O τ ∧ (∀ d, d ≤ D → cT B c l v (D - d + 1) d O τ) ∧ ∀ o j, o ≠ 70 → τ o j = σ o j := by
  have hbv : ∀ (n : Nat) (σ : Sg), bdv (s_X0_follow n σ) (fun σ8 => some σ8) = s_X0_follow n σ := fun n σ => by
    cases s_X0_follow n σ <;> rfl
  intro m
  induction m with
  | zero =>
    intro k σ hm hk hC hT
    obtain ⟨k, rfl⟩ : ∃ k', k = k' + 1 := ⟨k - 1, by omega⟩
    refine ⟨σ, ?_, hC, fun d hd => hT d (by omega) hd, fun _ _ _ => rfl⟩
    show s_X0_plan_98b n _ _ _ = _
    unfold s_X0_plan_98b
    rw [if_pos (show jI 0 < 0 by decide), hbv]
  | succ m ih =>
    intro k σ hm hk hC hT
    obtain ⟨k, rfl⟩ : ∃ k', k = k' + 1 := ⟨k - 1, by omega⟩
    have hneg := jI_neg (jj := m + 1) (by omega)
    obtain ⟨τ1, a1, a2, a3, a4⟩ := weigh_ok (n := n) (d := m) hn hB1 hB hc hl hv hO hold hD (by omega) (σ := σ) ⟨hC, fun h => by
      have := hT (m + 1) (by omega) (by omega)
      rw [show D - (m + 1) + 1 = D - m by omega] at this
      exact this⟩
    obtain ⟨τ, t1, t2, t3, t5⟩ := ih k τ1 (by omega) (by omega) a2.1 (fun d h1 h2 => by
      by_cases e : d = m
      · subst e; exact a3
      · intro x y z hx hy hz ht
        have p := (pl_lt (d := d) (x := x) (y := y) (z := z) (by omega) (by omega) (by omega) (by omega)).1
        have q := (t_m d (by omega) (m + 1) (by omega)).1
        rw [a4 _ _ (fun h => by omega)]
        exact hT d (by omega) h2 x y z hx hy hz ht)
    refine ⟨τ, ?_, t2, t3, fun o j ho => (t5 o j ho).trans (a4 o j fun h => ho h.1)⟩
    show s_X0_plan_98b n (s_X0_plan_98 n k) _ _ = _
    unfold s_X0_plan_98b
    rw [if_neg (by rw [hneg]; omega), show s_X0_weighDay n (jI (m + 1)) σ = some τ1 from a1]
    show s_X0_plan_98 n k (jI (m + 1) + -1) τ1 = _
    rw [jI_p]
    exact t1
-- the value of a way is small, or there is none
theorem bF_sm (B c l v : Nat) : ∀ r a, bF B c l v r a ≤ r ∨ bF B c l v r a = 1000000
  | 0, _ => .inl (Nat.le_refl _)
  | r + 1, a => by
    have h1 := bmin_ex (fun jj => decide (v ≤ sG c l a jj B)) (fun jj => (if jj = 0 then 0 else 1) + bF B c l v r (nxt B a jj)) (B + 1)
    have hle := bF_le B c l v (r + 1) a
    rcases h1 with h1 | ⟨j, _, _, h3⟩
    · exact .inr h1
    · have ih := bF_sm B c l v r (nxt B a j)
      have h4 : (if j = 0 then 0 else 1) + bF B c l v r (nxt B a j) = bF B c l v (r + 1) a := h3
      rcases ih with ih | ih
      · left
        rw [← h4]
        split <;> omega
      · right
        rw [ih] at h4
        omega
