/-! ===== bounds, both sides ===== -/
def inb (a x c : Int32) : Bool := decide (a ≤ x) && decide (x ≤ c)
theorem out_ok (n : Nat) (x a c : Int32) (σ : Sg) : s_X11_isOutside n x a c σ = some (zo (!inb a x c), σ) := by
  unfold s_X11_isOutside inb
  by_cases h1 : x < a
  · rw [if_pos h1, decide_eq_false (Int32.not_le.mpr h1)]; rfl
  · rw [if_neg h1, decide_eq_true (Int32.not_lt.mp h1)]
    by_cases h2 : x ≤ c
    · rw [if_pos h2, decide_eq_true h2]; rfl
    · rw [if_neg h2, decide_eq_false h2]; rfl
theorem inb_ok (n : Nat) (x a c : Int32) (σ : Sg) : s_X12_in n x.toInt64 a.toInt64 c.toInt64 σ = some (zo (inb a x c), σ) := in_ok n x a c σ
theorem rng {x : Int32} {a c : Nat} (ha : a < 2147483648) (hc : c < 2147483648) (h : inb (nI a) x (nI c) = true) : ∃ X, x = nI X ∧ a ≤ X ∧ X ≤ c := by
  unfold inb at h
  rw [Bool.and_eq_true] at h
  have h1 := Int32.le_iff_toInt_le.mp (of_decide_eq_true h.1)
  have h2 := Int32.le_iff_toInt_le.mp (of_decide_eq_true h.2)
  rw [ni_int ha] at h1
  rw [ni_int hc] at h2
  refine ⟨x.toInt.toNat, ?_, by omega, by omega⟩
  apply Int32.toInt_inj.mp
  rw [ni_int (by omega)]
  omega
-- river: one cell of each side
theorem river_ok {n : Nat} {x1 x2 : Int32} {σ : Sg} (h : ∀ i, i < 31 → σ 1 i = σ 118 i) : ∃ r σ1 σ2, s_X11_river n x1 x2 σ = some (r, σ1) ∧ s_X12_river n x1 x2 σ1 = some (r, σ2) ∧ (∀ i, i < 31 → σ2 1 i = σ2 118 i) ∧ ∀ o j, (o ≠ 1 ∧ o ≠ 118) → σ2 o j = σ o j := by
  unfold s_X11_river s_X12_river
  have i1 : ∀ σ, s_X12_in n x1.toInt64 0 30 σ = some (zo (inb 0 x1 30), σ) := fun σ => inb_ok n x1 0 30 σ
  have i2 : ∀ σ, s_X12_in n x2.toInt64 0 9999 σ = some (zo (inb 0 x2 9999), σ) := fun σ => inb_ok n x2 0 9999 σ
  simp only [out_ok, i1, i2, bd_so, lt_eq]
  cases e1 : inb 0 x1 30
  · exact ⟨_, _, _, rfl, rfl, h, fun _ _ _ => rfl⟩
  · cases e2 : inb 0 x2 9999
    · exact ⟨_, _, _, rfl, rfl, h, fun _ _ _ => rfl⟩
    · obtain ⟨X, rfl, _, hX⟩ := rng (a := 0) (c := 30) (by omega) (by omega) e1
      refine ⟨σ 1 X, up2 σ 1 X x2, up2 (up2 σ 1 X x2) 118 X x2, ?_, ?_, ?_, ?_⟩
      · rw [if_pos (show zo (!true) = 0 from rfl), if_pos (show zo (!true) = 0 from rfl), ck_n (by omega) (by omega), ck_n (by omega) (by omega), ix_n (by omega)]
      · rw [if_neg (show ¬ zo true = 0 by decide), if_neg (show ¬ zo true = 0 by decide), ck_n (by omega) (by omega), ck_n (by omega) (by omega), ix_n (by omega), up2_o (show 118 ≠ 1 by decide), h X (by omega)]
      · intro i hi
        have := h i hi
        by_cases e : i = X
        · subst e; simp [up2_app]
        · simp [up2_app, e, this]
      · intro o j ho
        simp [up2_app, ho.1, ho.2]
