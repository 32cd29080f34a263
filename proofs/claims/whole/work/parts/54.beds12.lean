/-! ===== beds, the class: the plan, kept or made ===== -/
def bAns (B c l v D : Nat) (σ : Sg) : Prop := (σ 68 1 = if bF B c l v (D + 1) (fun _ => 0) < 1000000 then nI (bF B c l v (D + 1) (fun _ => 0)) else -1) ∧ ∀ d, d ≤ D → σ 69 d = if bF B c l v (D + 1) (fun _ => 0) < 1000000 then jI (pick B c l v (D - d) (bA B c l v D d)) else -1
def bIn (B c l v D : Nat) : Prop := 1 ≤ B ∧ B ≤ 3 ∧ c ≤ 99 ∧ l ≤ 30 ∧ v ≤ 297 ∧ D ≤ 20
def bKp (σ : Sg) : Prop := ∀ B c l v D, bIn B c l v D → σ 68 2 = nI B → σ 68 3 = nI c → σ 68 4 = nI l → σ 68 5 = nI v → σ 68 6 = nI D → bAns B c l v D σ
theorem plan43_ok {n B c l v D : Nat} {σ : Sg} (hn : 60 ≤ n) (hi : bIn B c l v D) : ∃ τ, s_X0_plan_43 n (nI B) (nI c) (nI l) (nI v) (nI D) σ = some τ ∧ bKp τ ∧ bAns B c l v D τ ∧ ∀ o j, (o ≠ 68 ∧ o ≠ 69 ∧ o ≠ 70) → τ o j = σ o j := by
  obtain ⟨hB1, hB, hc, hl, hv, hD⟩ := hi
  have main : ∀ (O : Nat) (σ' : Sg), O ≤ 20 → oldOk c l O → bC B c l v D O σ' → (∀ o j, o ≠ 68 → σ' o j = σ o j) → ∃ τ, s_X0_plan_98 n n (nI D) σ' = some τ ∧ bKp τ ∧ bAns B c l v D τ ∧ ∀ o j, (o ≠ 68 ∧ o ≠ 69 ∧ o ≠ 70) → τ o j = σ o j := by
    intro O σ' hO hold hC hf
    obtain ⟨τ1, a1, a2, a3, a4⟩ := plan_go (n := n) hn hB1 hB hc hl hv hO hold hD (D + 1) n σ' (by omega) (by omega) hC (fun d h1 h2 => by omega)
    obtain ⟨τ, t1, t2, t3, t4', t5⟩ := bfollow_ok (n := n) hn hB1 hB hc hl hv hO hold hD a2 a3
    have hans : bAns B c l v D τ := ⟨t3, t4'⟩
    refine ⟨τ, a1.trans t1, ?_, hans, fun o j ho => by rw [t5 o j ⟨ho.2.1, fun h => ho.1 h.1⟩, a4 o j ho.2.2, hf o j ho.1]⟩
    intro B' c' l' v' D' hi' e1 e2 e3 e4 e5
    obtain ⟨_, k2, k3, k4, k5, k6⟩ := hi'
    rw [t2.1, neq (by omega) (by omega)] at e1
    rw [t2.2.1, neq (by omega) (by omega)] at e2
    rw [t2.2.2.1, neq (by omega) (by omega)] at e3
    rw [t2.2.2.2.1, neq (by omega) (by omega)] at e4
    rw [t2.2.2.2.2.1, neq (by omega) (by omega)] at e5
    subst e1 e2 e3 e4 e5
    exact hans
  unfold s_X0_plan_43
  simp only [lt_eq]
  by_cases h0 : l = 0
  · subst h0
    rw [if_pos (show nI 0 = (0 : Int32) from rfl)]
    exact main 0 _ (by omega) (old_0 c) ⟨by simp [up2_app], by simp [up2_app], by simp [up2_app], by simp [up2_app], by simp [up2_app], by simp [up2_app]; rfl⟩ (fun o j ho => by simp [up2_app, ho])
  · have hz : ¬ nI l = (0 : Int32) := by
      rw [show (0 : Int32) = nI 0 from rfl, neq (by omega) (by omega)]; exact h0
    have hdiv : (c + l - 1) / l ≤ c + l - 1 := Nat.div_le_self _ _
    rw [if_neg hz]
    unfold dvc
    rw [if_neg hz, nadd, show nI (c + l) - 1 = nI (c + l - 1) from nsub (a := c + l) (b := 1) (by omega), ndiv (by omega) (by omega), show (20 : Int32) = nI 20 from rfl, nimin (by omega) (by omega)]
    exact main (min 20 ((c + l - 1) / l)) _ (by omega) (old_l (by omega)) ⟨by simp [up2_app], by simp [up2_app], by simp [up2_app], by simp [up2_app], by simp [up2_app], by simp [up2_app]⟩ (fun o j ho => by simp [up2_app, ho])
theorem bplan_ok {n B c l v D : Nat} {σ : Sg} (hn : 60 ≤ n) (hi : bIn B c l v D) (hk : bKp σ) : ∃ τ, s_X0_plan n (nI B) (nI c) (nI l) (nI v) (nI D) σ = some τ ∧ bKp τ ∧ bAns B c l v D τ ∧ ∀ o j, (o ≠ 68 ∧ o ≠ 69 ∧ o ≠ 70) → τ o j = σ o j := by
  have h := plan43_ok (n := n) (σ := σ) hn hi
  unfold s_X0_plan
  by_cases e1 : nI B = σ 68 2
  · rw [if_pos e1]
    by_cases e2 : nI c = σ 68 3
    · rw [if_pos e2]
      by_cases e3 : nI l = σ 68 4
      · rw [if_pos e3]
        by_cases e4 : nI v = σ 68 5
        · rw [if_pos e4]
          by_cases e5 : nI D = σ 68 6
          · rw [if_pos e5]
            exact ⟨σ, rfl, hk, hk B c l v D hi e1.symm e2.symm e3.symm e4.symm e5.symm, fun _ _ _ => rfl⟩
          · rw [if_neg e5]; exact h
        · rw [if_neg e4]; exact h
      · rw [if_neg e3]; exact h
    · rw [if_neg e2]; exact h
  · rw [if_neg e1]; exact h
