/-! ===== share: both sides ===== -/
theorem share_go {n D : Nat} {x1 x2 x4 : Int32} {σ : Sg} (hD : D ≤ 30) (h : ∀ i, i < 31 → σ 1 i = σ 118 i) : ∀ (e d k : Nat) (x5 x6 x7 x8 : Int32), d + e = D + 1 → e < k → (x5 = -1 ∨ 0 ≤ x5) → ∃ r, s_X11_share_61 n k x1 x2 (nI D) x4 x5 x6 x7 x8 (nI d) σ = some (r, σ) ∧ s_X12_share_68 n k x1 x2 (nI D) x4 x5 x6 x7 x8 (nI d) σ = some (r, σ) := by
  intro e
  induction e with
  | zero =>
    intro d k x5 x6 x7 x8 hd hk h5
    obtain ⟨k, rfl⟩ : ∃ k', k = k' + 1 := ⟨k - 1, by omega⟩
    show ∃ r, s_X11_share_61b n _ _ _ _ _ _ _ _ _ _ _ = _ ∧ s_X12_share_68b n _ _ _ _ _ _ _ _ _ _ _ = _
    unfold s_X11_share_61b s_X12_share_68b
    have hlt : nI D < nI d := by rw [nlt (by omega) (by omega)]; omega
    rw [if_pos hlt, if_pos hlt]
    split
    · exact ⟨_, rfl, rfl⟩
    · split
      · exact ⟨_, rfl, rfl⟩
      · split
        · exact ⟨_, rfl, rfl⟩
        · exact ⟨_, rfl, rfl⟩
  | succ e ih =>
    intro d k x5 x6 x7 x8 hd hk h5
    obtain ⟨k, rfl⟩ : ∃ k', k = k' + 1 := ⟨k - 1, by omega⟩
    show ∃ r, s_X11_share_61b n (s_X11_share_61 n k) _ _ _ _ _ _ _ _ _ _ = _ ∧ s_X12_share_68b n (s_X12_share_68 n k) _ _ _ _ _ _ _ _ _ _ = _
    unfold s_X11_share_61b s_X12_share_68b s_X11_share_112 s_X12_share_121
    have hlt : ¬ nI D < nI d := by rw [nlt (by omega) (by omega)]; omega
    rw [if_neg hlt, if_neg hlt]
    simp (disch := omega) only [ck_n, ix_n, lt_eq, least_ok, bd_so, h d (show d < 31 by omega)]
    rw [show nI d + 1 = nI (d + 1) from nI_1 d]
    by_cases a : x2 ≤ imin x2 (σ 118 d - imin x1 (σ 118 d))
    · rw [if_pos a, if_pos a]
      exact ih (d + 1) k x5 _ _ _ (by omega) (by omega) h5
    · rw [if_neg a, if_neg a]
      rcases h5 with h5 | h5
      · rw [if_pos h5, if_neg (show ¬ 0 ≤ x5 by rw [h5]; decide)]
        exact ih (d + 1) k (nI d) _ _ _ (by omega) (by omega) (.inr (n_nn (by omega)))
      · have hne : ¬ x5 = -1 := fun e => by rw [e] at h5; exact absurd h5 (by decide)
        rw [if_neg hne, if_pos h5]
        exact ih (d + 1) k x5 _ _ _ (by omega) (by omega) (.inr h5)
theorem share_ok {n : Nat} {x1 x2 x3 x4 : Int32} {σ : Sg} (hn : 60 ≤ n) (h : ∀ i, i < 31 → σ 1 i = σ 118 i) : ∃ r, s_X11_share n x1 x2 x3 x4 σ = some (r, σ) ∧ s_X12_share n x1 x2 x3 x4 σ = some (r, σ) := by
  unfold s_X11_share s_X12_share
  have i1 : ∀ σ, s_X12_in n x1.toInt64 0 9999 σ = some (zo (inb 0 x1 9999), σ) := fun σ => inb_ok n x1 0 9999 σ
  have i2 : ∀ σ, s_X12_in n x2.toInt64 0 9999 σ = some (zo (inb 0 x2 9999), σ) := fun σ => inb_ok n x2 0 9999 σ
  have i3 : ∀ σ, s_X12_in n x3.toInt64 0 30 σ = some (zo (inb 0 x3 30), σ) := fun σ => inb_ok n x3 0 30 σ
  have i4 : ∀ σ, s_X12_in n x4.toInt64 0 3 σ = some (zo (inb 0 x4 3), σ) := fun σ => inb_ok n x4 0 3 σ
  simp only [out_ok, i1, i2, i3, i4, bd_so]
  cases e1 : inb 0 x1 9999
  · exact ⟨_, rfl, rfl⟩
  · cases e2 : inb 0 x2 9999
    · exact ⟨_, rfl, rfl⟩
    · cases e3 : inb 0 x3 30
      · exact ⟨_, rfl, rfl⟩
      · cases e4 : inb 0 x4 3
        · exact ⟨_, rfl, rfl⟩
        · obtain ⟨D, rfl, _, hD⟩ := rng (a := 0) (c := 30) (by omega) (by omega) e3
          exact share_go (n := n) hD h (D + 1) 0 n (-1) 0 0 0 (by omega) (by omega) (.inl rfl)
