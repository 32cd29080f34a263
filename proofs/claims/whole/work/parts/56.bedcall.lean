/-! ===== beds: the two calls ===== -/
theorem bedsC_in {n B c l v D : Nat} {x6 : Int32} {σ : Sg} (hn : 60 ≤ n) (hi : bIn B c l v D) (hc1 : 1 ≤ c) (hk : bKp σ) : ∃ τ, s_X11_beds n (nI B) (nI c) (nI l) (nI v) (nI D) x6 σ = some (if x6 = -1 then (if bF B c l v (D + 1) (fun _ => 0) < 1000000 then nI (bF B c l v (D + 1) (fun _ => 0)) else -1) else (if bF B c l v (D + 1) (fun _ => 0) < 1000000 then (if 0 ≤ x6 ∧ x6 ≤ nI D then jI (pick B c l v (D - ix x6) (bA B c l v D (ix x6))) else -1) else -1), τ) ∧ bKp τ ∧ ∀ o j, (o ≠ 68 ∧ o ≠ 69 ∧ o ≠ 70) → τ o j = σ o j := by
  obtain ⟨τ, t1, t2, t3, t4'⟩ := bplan_ok (n := n) hn hi hk
  obtain ⟨hB1, hB, hc, hl, hv, hD⟩ := hi
  refine ⟨τ, ?_, t2, t4'⟩
  have ib : ∀ {a x c : Nat}, a ≤ x → x ≤ c → c < 100000 → inb (nI a) (nI x) (nI c) = true := fun {a x c} h1 h2 h3 => by
    unfold inb
    rw [decide_eq_true (by rw [nle (by omega) (by omega)]; exact h1), decide_eq_true (by rw [nle (by omega) (by omega)]; exact h2)]; rfl
  unfold s_X11_beds s_X11_beds_109
  simp only [out_ok, bd_so]
  rw [show inb 1 (nI B) 3 = true from ib hB1 hB (show 3 < 100000 by decide), show inb 1 (nI c) 99 = true from ib hc1 hc (show 99 < 100000 by decide), show inb 0 (nI l) 30 = true from ib (Nat.zero_le _) hl (show 30 < 100000 by decide), show inb 0 (nI v) 297 = true from ib (Nat.zero_le _) hv (show 297 < 100000 by decide), show inb 0 (nI D) 20 = true from ib (Nat.zero_le _) hD (show 20 < 100000 by decide)]
  rw [if_pos (show zo (!true) = 0 from rfl), if_pos (show zo (!true) = 0 from rfl), if_pos (show zo (!true) = 0 from rfl), if_pos (show zo (!true) = 0 from rfl), if_pos (show zo (!true) = 0 from rfl), t1, bdv_so]
  by_cases e : x6 = -1
  · rw [if_pos e, if_pos e, t3.1]
  · rw [if_neg e, if_neg e]
    by_cases h1 : x6 < 0
    · rw [if_pos h1, if_neg (show ¬ (0 ≤ x6 ∧ x6 ≤ nI D) from fun h => absurd h.1 (Int32.not_le.mpr h1))]
      split <;> rfl
    · rw [if_neg h1]
      by_cases h2 : nI D < x6
      · rw [if_pos h2, if_neg (show ¬ (0 ≤ x6 ∧ x6 ≤ nI D) from fun h => absurd h.2 (Int32.not_le.mpr h2))]
        split <;> rfl
      · rw [if_neg h2, if_pos (show 0 ≤ x6 ∧ x6 ≤ nI D from ⟨Int32.not_lt.mp h1, Int32.not_lt.mp h2⟩)]
        obtain ⟨X, rfl, _, hX⟩ := rng (x := x6) (a := 0) (c := D) (by omega) (by omega) (by unfold inb; rw [decide_eq_true (show nI 0 ≤ x6 from Int32.not_lt.mp h1), decide_eq_true (Int32.not_lt.mp h2)]; rfl)
        rw [ck_n (by omega) (by omega), ix_n (by omega), t3.2 X hX]
theorem bedsM_in {n B c l v D : Nat} {x6 : Int32} {σ : Sg} (hn : 300000 ≤ n) (hi' : bIn B c l v D) (hc1 : 1 ≤ c) : ∃ τ, s_X12_beds n (nI B) (nI c) (nI l) (nI v) (nI D) x6 σ = some (if x6 = -1 then (if bF B c l v (D + 1) (fun _ => 0) < 1000000 then nI (bF B c l v (D + 1) (fun _ => 0)) else -1) else (if bF B c l v (D + 1) (fun _ => 0) < 1000000 then (if 0 ≤ x6 ∧ x6 ≤ nI D then jI (pick B c l v (D - ix x6) (bA B c l v D (ix x6))) else -1) else -1), τ) ∧ ∀ o j, (o ≠ 117 ∧ ¬ (o = 71 ∧ (j = 70 ∨ j = 71 ∨ j = 72 ∨ j = 73))) → τ o j = σ o j := by
  obtain ⟨hB1, hB, hc, hl, hv, hD⟩ := hi'
  have ib : ∀ {a x c : Nat}, a ≤ x → x ≤ c → c < 100000 → inb (nI a) (nI x) (nI c) = true := fun {a x c} h1 h2 h3 => by
    unfold inb
    rw [decide_eq_true (by rw [nle (by omega) (by omega)]; exact h1), decide_eq_true (by rw [nle (by omega) (by omega)]; exact h2)]; rfl
  have hR : bR B c l v (up2 (up2 (up2 (up2 σ 71 70 (nI B)) 71 71 (nI c)) 71 72 (nI l)) 71 73 (nI v)) := ⟨by simp [up2_app], by simp [up2_app], by simp [up2_app], by simp [up2_app]⟩
  obtain ⟨τ, t1, t2, t3⟩ := findBeds_ok (n := n) hn hB hB1 hc hl hv hD hR
  have hRτ : bR B c l v τ := ⟨by rw [t3 _ _ (by decide)]; exact hR.1, by rw [t3 _ _ (by decide)]; exact hR.2.1, by rw [t3 _ _ (by decide)]; exact hR.2.2.1, by rw [t3 _ _ (by decide)]; exact hR.2.2.2⟩
  have ag0 : ag 0 = fun _ => 0 := by
    funext i
    unfold ag
    split
    · rfl
    · split
      · rfl
      · split <;> rfl
  have h0 : τ 117 0 = nI (bF B c l v (D + 1) (fun _ => 0)) := by
    have := t2 0 (by omega) 0 (by omega) (fun i => by rw [ag0]; exact Nat.le_refl 0)
    rw [ag0] at this
    exact this
  have hle := bF_le B c l v (D + 1) (fun _ => 0)
  have hq := nlt (a := bF B c l v (D + 1) (fun _ => 0)) (b := 1000000) (by omega) (by omega)
  refine ⟨τ, ?_, fun o j ho => ?_⟩
  · unfold s_X12_beds s_X12_beds_115
    rw [show s_X12_in n (nI B).toInt64 1 3 σ = some (zo true, σ) from by rw [← ib hB1 hB (show 3 < 100000 by omega)]; exact inb_ok n (nI B) 1 3 σ, bd_so, if_neg (show ¬ zo true = 0 by decide)]
    rw [show s_X12_in n (nI c).toInt64 1 99 σ = some (zo true, σ) from by rw [← ib hc1 hc (show 99 < 100000 by omega)]; exact inb_ok n (nI c) 1 99 σ, bd_so, if_neg (show ¬ zo true = 0 by decide)]
    rw [show s_X12_in n (nI l).toInt64 0 30 σ = some (zo true, σ) from by rw [← ib (Nat.zero_le l) hl (show 30 < 100000 by omega)]; exact inb_ok n (nI l) 0 30 σ, bd_so, if_neg (show ¬ zo true = 0 by decide)]
    rw [show s_X12_in n (nI v).toInt64 0 297 σ = some (zo true, σ) from by rw [← ib (Nat.zero_le v) hv (show 297 < 100000 by omega)]; exact inb_ok n (nI v) 0 297 σ, bd_so, if_neg (show ¬ zo true = 0 by decide)]
    rw [show s_X12_in n (nI D).toInt64 0 20 σ = some (zo true, σ) from by rw [← ib (Nat.zero_le D) hD (show 20 < 100000 by omega)]; exact inb_ok n (nI D) 0 20 σ, bd_so, if_neg (show ¬ zo true = 0 by decide)]
    simp only [lt_eq]
    rw [t1, bdv_so, show (0 : Int32) = nI 0 from rfl, ck_n (by omega) (by omega), ix_n (by omega), h0, show (1000000 : Int32) = nI 1000000 from rfl]
    by_cases hF : bF B c l v (D + 1) (fun _ => 0) < 1000000
    · rw [if_pos (show nI _ < nI 1000000 by rw [hq]; exact hF), if_pos (show nI _ < nI 1000000 by rw [hq]; exact hF), if_pos hF, if_pos hF]
      have hw := way_go (n := n) (i0 := x6) (by omega) hB hB1 hc hl hv hD hRτ t2 hF (D + 1) 0 n (by omega) (by omega) (fun d' h => absurd h (by omega))
      rw [show hi (bA B c l v D 0) 0 = 0 from rfl] at hw
      by_cases e : x6 = -1
      · rw [if_pos e, if_pos e]
      · rw [if_neg e, if_neg e]
        exact hw
    · rw [if_neg (show ¬ nI _ < nI 1000000 by rw [hq]; exact hF), if_neg (show ¬ nI _ < nI 1000000 by rw [hq]; exact hF), if_neg hF, if_neg hF]
      split <;> rfl
  · rw [t3 o j ho.1]
    by_cases e : o = 71
    · have a0 : j ≠ 70 := fun h => ho.2 ⟨e, .inl h⟩
      have a1 : j ≠ 71 := fun h => ho.2 ⟨e, .inr (.inl h)⟩
      have a2 : j ≠ 72 := fun h => ho.2 ⟨e, .inr (.inr (.inl h))⟩
      have a3 : j ≠ 73 := fun h => ho.2 ⟨e, .inr (.inr (.inr h))⟩
      simp [up2_app, a0, a1, a2, a3]
    · simp [up2_app, e]
