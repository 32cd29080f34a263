/-! ===== explain: the search, both sides ===== -/
def bs (M : Int32) (w : Nat → Int32) (ng : Nat) (G V : Nat → Int32) : Nat → Int32 × Nat × Nat
  | 0 => (-1, 0, 0)
  | X + 1 => if exA M w G V (nI X) ng = true then (if (bs M w ng G V X).1 = -1 ∨ pcn (nI X) 24 < (bs M w ng G V X).2.1 then (dpo M (nI X) 20, pcn (nI X) 24, (bs M w ng G V X).2.2 + 1) else ((bs M w ng G V X).1, (bs M w ng G V X).2.1, (bs M w ng G V X).2.2 + 1)) else bs M w ng G V X
theorem bs_s (M : Int32) (w : Nat → Int32) (ng : Nat) (G V : Nat → Int32) (X : Nat) : bs M w ng G V (X + 1) = if exA M w G V (nI X) ng = true then (if (bs M w ng G V X).1 = -1 ∨ pcn (nI X) 24 < (bs M w ng G V X).2.1 then (dpo M (nI X) 20, pcn (nI X) 24, (bs M w ng G V X).2.2 + 1) else ((bs M w ng G V X).1, (bs M w ng G V X).2.1, (bs M w ng G V X).2.2 + 1)) else bs M w ng G V X := rfl
theorem sl1_12 : ∀ m, m < 13 → sl 1 (nI m) = nI (2 ^ m) := by decide +kernel
theorem pow12 {m : Nat} (h : m ≤ 12) : 2 ^ m ≤ 4096 := Nat.pow_le_pow_right (by decide) h
theorem bs_le {M : Int32} {w : Nat → Int32} {ng : Nat} {G V : Nat → Int32} : ∀ X, (bs M w ng G V X).2.1 ≤ 24 ∧ (bs M w ng G V X).2.2 ≤ X
  | 0 => ⟨Nat.zero_le _, Nat.le_refl 0⟩
  | X + 1 => by
    have ih := bs_le (M := M) (w := w) (ng := ng) (G := G) (V := V) X
    have hp := pcn_le (nI X) 24
    rw [bs_s]
    split
    · split
      · exact ⟨hp, by simp only; omega⟩
      · exact ⟨ih.1, by simp only; omega⟩
    · exact ⟨ih.1, by omega⟩
theorem srch_go {n : Nat} {M : Int32} {w : Nat → Int32} {ng : Nat} {G V : Nat → Int32} (hn : 30 ≤ n) (hM : mok M) (hng : ng ≤ 6) : ∀ (e X k : Nat) (σ : Sg), X + e = 2 ^ (pcn M 20) → e < k → eC M w ng G V σ → eS M 20 σ → σ 63 2 = (bs M w ng G V X).1 → σ 63 3 = nI (bs M w ng G V X).2.2 → ∃ τ, s_X1_search_18 n k (nI (bs M w ng G V X).2.1) (nI X) σ = some τ ∧ τ 63 2 = (bs M w ng G V (2 ^ (pcn M 20))).1 ∧ τ 63 3 = nI (bs M w ng G V (2 ^ (pcn M 20))).2.2 ∧ ∀ o j, ¬ (o = 63 ∧ (j = 2 ∨ j = 3)) → τ o j = σ o j := by
  have hp := pow12 hM.2
  intro e
  induction e with
  | zero =>
    intro X k σ hX hk hc hS h2 h3
    obtain ⟨k, rfl⟩ : ∃ k', k = k' + 1 := ⟨k - 1, by omega⟩
    have hX : X = 2 ^ (pcn M 20) := by omega
    refine ⟨σ, ?_, hX ▸ h2, hX ▸ h3, fun _ _ _ => rfl⟩
    show s_X1_search_18b n _ _ _ _ = _
    unfold s_X1_search_18b
    rw [hS.1, sl1_12 _ (by have := hM.2; omega), ← hX, if_pos (Int32.le_refl _)]
  | succ e ih =>
    intro X k σ hX hk hc hS h2 h3
    obtain ⟨k, rfl⟩ : ∃ k', k = k' + 1 := ⟨k - 1, by omega⟩
    show ∃ τ, s_X1_search_18b n (s_X1_search_18 n k) _ _ _ = _ ∧ _
    unfold s_X1_search_18b
    have hb := bs_le (M := M) (w := w) (ng := ng) (G := G) (V := V) X
    have hpx := pcn_le (nI X) 24
    rw [hS.1, sl1_12 _ (by have := hM.2; omega), if_neg (by rw [nle (by omega) (by omega)]; omega), cexp_ok (nI X) hn hM hc hS hng]
    show ∃ τ, (if zo (exA M w G V (nI X) ng) = 0 then _ else _) = _ ∧ _
    rw [show nI X + 1 = nI (X + 1) from nI_1 X]
    cases hE : exA M w G V (nI X) ng
    · rw [if_pos (show zo false = 0 from rfl)]
      have hbs : bs M w ng G V (X + 1) = bs M w ng G V X := by rw [bs_s, hE]; rfl
      have h := ih (X + 1) k σ (by omega) (by omega) hc hS (by rw [hbs]; exact h2) (by rw [hbs]; exact h3)
      rw [hbs] at h
      exact h
    · rw [if_neg (show ¬ zo true = 0 by decide), lt_eq]
      dsimp only
      rw [h3, show nI (bs M w ng G V X).2.2 + 1 = nI ((bs M w ng G V X).2.2 + 1) from nI_1 _, bc_n n (by omega)]
      show ∃ τ, (if up2 σ 63 3 (nI ((bs M w ng G V X).2.2 + 1)) 63 2 = -1 then _ else if nI (bs M w ng G V X).2.1 ≤ nI (pcn (nI X) 24) then _ else _) = _ ∧ _
      rw [show up2 σ 63 3 (nI ((bs M w ng G V X).2.2 + 1)) 63 2 = (bs M w ng G V X).1 by simp [up2_app, h2]]
      have hc1 : eC M w ng G V (up2 σ 63 3 (nI ((bs M w ng G V X).2.2 + 1))) := by
        refine ⟨?_, ?_, ?_, ?_⟩
        · simp [up2_app, hc.1]
        · simp [up2_app, hc.2.1]
        · intro g hg; simp [up2_app, hc.2.2.1 g hg]
        · intro i hi hbi; simp [up2_app, hc.2.2.2 i hi hbi]
      have hS1 : eS M 20 (up2 σ 63 3 (nI ((bs M w ng G V X).2.2 + 1))) := by
        refine ⟨?_, ?_⟩
        · simp [up2_app, hS.1]
        · intro j hj hbj; simp [up2_app, hS.2 j hj hbj]
      have hc2 : eC M w ng G V (up2 (up2 σ 63 3 (nI ((bs M w ng G V X).2.2 + 1))) 63 2 (dpo M (nI X) 20)) := by
        refine ⟨?_, ?_, ?_, ?_⟩
        · simp [up2_app, hc.1]
        · simp [up2_app, hc.2.1]
        · intro g hg; simp [up2_app, hc.2.2.1 g hg]
        · intro i hi hbi; simp [up2_app, hc.2.2.2 i hi hbi]
      have hS2 : eS M 20 (up2 (up2 σ 63 3 (nI ((bs M w ng G V X).2.2 + 1))) 63 2 (dpo M (nI X) 20)) := by
        refine ⟨?_, ?_⟩
        · simp [up2_app, hS.1]
        · intro j hj hbj; simp [up2_app, hS.2 j hj hbj]
      by_cases hlt : (bs M w ng G V X).1 = -1 ∨ pcn (nI X) 24 < (bs M w ng G V X).2.1
      · have hbs : bs M w ng G V (X + 1) = (dpo M (nI X) 20, pcn (nI X) 24, (bs M w ng G V X).2.2 + 1) := by rw [bs_s, if_pos hE, if_pos hlt]
        have h := ih (X + 1) k (up2 (up2 σ 63 3 (nI ((bs M w ng G V X).2.2 + 1))) 63 2 (dpo M (nI X) 20)) (by omega) (by omega) hc2 hS2 (by rw [hbs]; simp [up2_app]) (by rw [hbs]; simp [up2_app])
        rw [hbs] at h
        obtain ⟨τ, t1, t2, t3, t4⟩ := h
        have hres : s_X1_search_64 n (s_X1_search_18 n k) (nI X) (nI (pcn (nI X) 24)) (up2 σ 63 3 (nI ((bs M w ng G V X).2.2 + 1))) = some τ := by
          unfold s_X1_search_64
          rw [asSet_ok (nI X) hn hM hS1]
          show s_X1_search_18 n k (nI (pcn (nI X) 24)) (nI X + 1) (up2 (up2 σ 63 3 (nI ((bs M w ng G V X).2.2 + 1))) 63 2 (dpo M (nI X) 20)) = some τ
          rw [show nI X + 1 = nI (X + 1) from nI_1 X]
          exact t1
        refine ⟨τ, ?_, t2, t3, fun o j ho => ?_⟩
        · by_cases h1 : (bs M w ng G V X).1 = -1
          · rw [if_pos h1]; exact hres
          · rw [if_neg h1, if_neg (by rw [nle (by omega) (by omega)]; rcases hlt with h | h
                                      · exact absurd h h1
                                      · omega)]
            exact hres
        · rw [t4 o j ho, up2_app, up2_app]
          by_cases e1 : o = 63
          · subst e1
            have a2 : j ≠ 2 := fun e => ho ⟨rfl, .inl e⟩
            have a3 : j ≠ 3 := fun e => ho ⟨rfl, .inr e⟩
            simp [a2, a3]
          · simp [e1]
      · have hbs : bs M w ng G V (X + 1) = ((bs M w ng G V X).1, (bs M w ng G V X).2.1, (bs M w ng G V X).2.2 + 1) := by rw [bs_s, if_pos hE, if_neg hlt]
        have h := ih (X + 1) k (up2 σ 63 3 (nI ((bs M w ng G V X).2.2 + 1))) (by omega) (by omega) hc1 hS1 (by rw [hbs]; simp [up2_app, h2]) (by rw [hbs]; simp [up2_app])
        rw [hbs] at h
        obtain ⟨τ, t1, t2, t3, t4⟩ := h
        rw [not_or] at hlt
        refine ⟨τ, ?_, t2, t3, fun o j ho => ?_⟩
        · rw [if_neg hlt.1, if_pos (by rw [nle (by omega) (by omega)]; omega)]
          exact t1
        · rw [t4 o j ho, up2_app]
          by_cases e1 : o = 63
          · subst e1
            have a3 : j ≠ 3 := fun e => ho ⟨rfl, .inr e⟩
            simp [a3]
          · simp [e1]
theorem search_ok {n : Nat} {M : Int32} {w : Nat → Int32} {ng : Nat} {G V : Nat → Int32} {σ : Sg} (hn : 300000 ≤ n) (hM : mok M) (hng : ng ≤ 6) (hc : eC M w ng G V σ) : ∃ τ, s_X1_search n σ = some τ ∧ τ 63 2 = (bs M w ng G V (2 ^ (pcn M 20))).1 ∧ τ 63 3 = nI (bs M w ng G V (2 ^ (pcn M 20))).2.2 ∧ ∀ o j, (o ≠ 67 ∧ ¬ (o = 63 ∧ (j = 2 ∨ j = 3 ∨ j = 8))) → τ o j = σ o j := by
  obtain ⟨τ1, a1, a2, a3⟩ := list_go (n := n) hM 20 0 n (up2 σ 63 8 0) (by omega) (by omega) (by simp [up2_app, hc.1]) ⟨by simp [up2_app, pcn]; rfl, fun j hj => absurd hj (by omega)⟩
  have hl : s_X1_listSuspects n σ = some τ1 := a1
  have hp := pow12 hM.2
  have hfr : ∀ o j, (o ≠ 67 ∧ ¬ (o = 63 ∧ j = 8)) → τ1 o j = σ o j := fun o j ho => by
    rw [a3 o j ho, up2_app]
    by_cases e1 : o = 63
    · subst e1
      have : j ≠ 8 := fun e => ho.2 ⟨rfl, e⟩
      simp [this]
    · simp [e1]
  have hc1 : eC M w ng G V (up2 (up2 τ1 63 2 (-1)) 63 3 0) := by
    refine ⟨?_, ?_, ?_, ?_⟩
    · simp [up2_app, hfr 63 1 (by decide), hc.1]
    · simp [up2_app, hfr 63 0 (by decide), hc.2.1]
    · intro g hg; simp [up2_app, hfr 64 g (by simp), hfr 65 g (by simp), hc.2.2.1 g hg]
    · intro i hi hbi; simp [up2_app, hfr 66 i (by simp), hc.2.2.2 i hi hbi]
  have hS1 : eS M 20 (up2 (up2 τ1 63 2 (-1)) 63 3 0) := by
    refine ⟨?_, ?_⟩
    · simp [up2_app, a2.1]
    · intro j hj hbj; simp [up2_app, a2.2 j hj hbj]
  obtain ⟨τ, t1, t2, t3, t4⟩ := srch_go (n := n) (by omega) hM hng (2 ^ (pcn M 20)) 0 n _ (by omega) (by omega) hc1 hS1 (by simp [up2_app, bs]) (by simp [up2_app, bs]; rfl)
  refine ⟨τ, ?_, t2, t3, fun o j ho => ?_⟩
  · unfold s_X1_search
    rw [hl]
    exact t1
  · have a2 : ¬ (o = 63 ∧ (j = 2 ∨ j = 3)) := fun h => ho.2 ⟨h.1, h.2.elim .inl fun h => .inr (.inl h)⟩
    rw [t4 o j a2, up2_app, up2_app]
    have a8 : ¬ (o = 63 ∧ j = 8) := fun h => ho.2 ⟨h.1, .inr (.inr h.2)⟩
    by_cases e1 : o = 63
    · subst e1
      have b2 : j ≠ 2 := fun e => a2 ⟨rfl, .inl e⟩
      have b3 : j ≠ 3 := fun e => a2 ⟨rfl, .inr e⟩
      simp [b2, b3, hfr 63 j ⟨by decide, a8⟩]
    · simp [e1, hfr o j ⟨ho.1, a8⟩]
