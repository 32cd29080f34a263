/-! ===== beds: the whole call ===== -/
theorem bKp_fr {σ τ : Sg} (h : bKp σ) (h8 : ∀ j, τ 68 j = σ 68 j) (h9 : ∀ j, τ 69 j = σ 69 j) : bKp τ := by
  intro B c l v D hi e1 e2 e3 e4 e5
  rw [h8] at e1 e2 e3 e4 e5
  have := h B c l v D hi e1 e2 e3 e4 e5
  exact ⟨by rw [h8]; exact this.1, fun d hd => by rw [h9]; exact this.2 d hd⟩
theorem beds_ok {n : Nat} {x1 x2 x3 x4 x5 x6 : Int32} {σ : Sg} (hn : 300000 ≤ n) (hk : bKp σ) : ∃ r σ1 σ2, s_X11_beds n x1 x2 x3 x4 x5 x6 σ = some (r, σ1) ∧ s_X12_beds n x1 x2 x3 x4 x5 x6 σ1 = some (r, σ2) ∧ bKp σ2 ∧ ∀ o j, (o ≠ 68 ∧ o ≠ 69 ∧ o ≠ 70 ∧ o ≠ 117 ∧ ¬ (o = 71 ∧ (j = 70 ∨ j = 71 ∨ j = 72 ∨ j = 73))) → σ2 o j = σ o j := by
  have i1 : ∀ σ, s_X12_in n x1.toInt64 1 3 σ = some (zo (inb 1 x1 3), σ) := fun σ => inb_ok n x1 1 3 σ
  have i2 : ∀ σ, s_X12_in n x2.toInt64 1 99 σ = some (zo (inb 1 x2 99), σ) := fun σ => inb_ok n x2 1 99 σ
  have i3 : ∀ σ, s_X12_in n x3.toInt64 0 30 σ = some (zo (inb 0 x3 30), σ) := fun σ => inb_ok n x3 0 30 σ
  have i4 : ∀ σ, s_X12_in n x4.toInt64 0 297 σ = some (zo (inb 0 x4 297), σ) := fun σ => inb_ok n x4 0 297 σ
  have i5 : ∀ σ, s_X12_in n x5.toInt64 0 20 σ = some (zo (inb 0 x5 20), σ) := fun σ => inb_ok n x5 0 20 σ
  have ref : (inb 1 x1 3 && (inb 1 x2 99 && (inb 0 x3 30 && (inb 0 x4 297 && inb 0 x5 20)))) = false → s_X11_beds n x1 x2 x3 x4 x5 x6 σ = some (-1002, σ) ∧ s_X12_beds n x1 x2 x3 x4 x5 x6 σ = some (-1002, σ) := by
    intro he
    unfold s_X11_beds s_X12_beds
    simp only [out_ok, i1, i2, i3, i4, i5, bd_so]
    cases e1 : inb 1 x1 3
    · exact ⟨rfl, rfl⟩
    · cases e2 : inb 1 x2 99
      · exact ⟨rfl, rfl⟩
      · cases e3 : inb 0 x3 30
        · exact ⟨rfl, rfl⟩
        · cases e4 : inb 0 x4 297
          · exact ⟨rfl, rfl⟩
          · cases e5 : inb 0 x5 20
            · exact ⟨rfl, rfl⟩
            · rw [e1, e2, e3, e4, e5] at he
              cases he
  cases he : (inb 1 x1 3 && (inb 1 x2 99 && (inb 0 x3 30 && (inb 0 x4 297 && inb 0 x5 20))))
  · obtain ⟨a, b⟩ := ref he
    exact ⟨_, _, _, a, b, hk, fun _ _ _ => rfl⟩
  · simp only [Bool.and_eq_true] at he
    obtain ⟨B, rfl, b1, b2⟩ := rng (a := 1) (c := 3) (by omega) (by omega) he.1
    obtain ⟨c, rfl, c1, c2⟩ := rng (a := 1) (c := 99) (by omega) (by omega) he.2.1
    obtain ⟨l, rfl, _, l2⟩ := rng (a := 0) (c := 30) (by omega) (by omega) he.2.2.1
    obtain ⟨v, rfl, _, v2⟩ := rng (a := 0) (c := 297) (by omega) (by omega) he.2.2.2.1
    obtain ⟨D, rfl, _, d2⟩ := rng (a := 0) (c := 20) (by omega) (by omega) he.2.2.2.2
    obtain ⟨σ1, s1, s2, s3⟩ := bedsC_in (n := n) (x6 := x6) (by omega) (show bIn B c l v D from ⟨b1, b2, c2, l2, v2, d2⟩) c1 hk
    obtain ⟨σ2, m1, m2⟩ := bedsM_in (n := n) (x6 := x6) (σ := σ1) hn (show bIn B c l v D from ⟨b1, b2, c2, l2, v2, d2⟩) c1
    refine ⟨_, σ1, σ2, s1, m1, bKp_fr s2 (fun j => m2 68 j ⟨by decide, fun h => absurd h.1 (by decide)⟩) (fun j => m2 69 j ⟨by decide, fun h => absurd h.1 (by decide)⟩), fun o j ho => ?_⟩
    rw [m2 o j ⟨ho.2.2.2.1, ho.2.2.2.2⟩, s3 o j ⟨ho.1, ho.2.1, ho.2.2.1⟩]
