/-! ===== the state behind the two constructors; the invariant holds there ===== -/
def s00 (o j : Nat) : Int32 := cond (Nat.beq o 40 || Nat.beq o 72) (cond (Nat.blt j 24) 100 0) (cond (Nat.beq o 25 && Nat.beq j 1 || (Nat.beq o 71 && (Nat.beq j 36 || Nat.beq j 50) || (Nat.beq o 51 && (Nat.beq j 9 || Nat.beq j 10) || (Nat.ble 29 o && Nat.ble o 36 || (Nat.beq o 38 || Nat.beq o 62)) && Nat.beq j 0))) (-1) 0)
theorem s00_100 {o h : Nat} (ho : Nat.beq o 40 || Nat.beq o 72) (hh : h < 24) : s00 o h = 100 := by
  unfold s00
  rw [ho]
  show cond (Nat.blt h 24) 100 0 = _
  rw [show Nat.blt h 24 = true from Nat.ble_eq_true_of_le hh]
  rfl
theorem inv0 : Inv 0 s00 := by
  have no : ∀ {p : Prop} {i : Nat}, i < 0 → p := fun h => absurd h (Nat.not_lt_zero _)
  refine ⟨(0, fun _ => 0, fun _ => 0, fun _ => 0, fun _ => 0, fun _ => false), fun _ => 0, fun _ => 0, (0, fun _ => 0, fun _ => 0, fun _ => 0, fun _ => 0), (fun _ => false, fun _ => 0), 0, fun _ => 100, fun _ => (0, 0, 0, 0, 0, 0, 0, fun _ => false), 0, ?_, ?_, ?_, ?_, ?_, ?_, ?_, ?_, ?_, ?_, ?_⟩
  · exact ⟨⟨by decide, fun p hp => no hp⟩, ⟨rfl, fun p hp => no hp⟩, ⟨rfl, fun p hp => no hp⟩, fun p hp => no hp, fun i _ _ => b_0 i, fun i _ _ => rfl⟩
  · exact ⟨⟨by decide, fun p hp => no hp⟩, ⟨fun p hp => no hp, fun _ _ => rfl⟩, ⟨rfl, fun p hp => no hp⟩, ⟨rfl, fun p hp => no hp⟩, fun p hp => no hp, fun p hp => no hp, fun p hp => no hp, fun s _ _ => ⟨rfl, rfl⟩, fun s _ => ⟨rfl, rfl, rfl, rfl, rfl⟩⟩
  · exact ⟨by decide, rfl, rfl, rfl, rfl, rfl⟩
  · exact fun h hh => ⟨⟨s00_100 rfl hh, s00_100 rfl hh⟩, show 0 ≤ (100 : Int32).toInt by decide, show (100 : Int32).toInt ≤ 9999 by decide⟩
  · exact ⟨rfl, 0, by decide, rfl, rfl, fun i hi => no hi⟩
  · exact ⟨⟨by decide, rfl, fun p hp => no hp, fun p hp => no hp⟩, ⟨fun _ => 0, fun _ _ => (0, 0, 0), by decide, rfl, fun p hp => no hp⟩, fun p hp => no hp⟩
  · have h1 : ∀ d, d < 200 → ¬ (-1 : Int32) = nI d := fun d hd h => n_ne1 (by omega) h.symm
    exact ⟨⟨fun d hd h => absurd h (h1 d hd), 0, by decide, rfl⟩, fun d hd h => absurd h (h1 d hd), 0, by decide, rfl⟩
  · refine ⟨0, fun _ => 0, 0, fun _ => 0, fun _ => 0, ⟨fun i _ _ => b_0 i, by decide⟩, fun i _ _ => b_0 i, by decide, ⟨rfl, rfl, fun p hp => no hp, fun i _ _ => rfl⟩, rfl, rfl, fun p hp => no hp, fun p hp => no hp, fun p hp => no hp⟩
  · exact fun i _ => rfl
  · intro B c l v D hb h
    have h0 : (nI 0 : Int32) = nI B := h
    have := hb.1
    have := hb.2.1
    rw [neq (by omega) (by omega)] at h0
    omega
  · refine ⟨0, Nat.le_refl _, rfl, .inl rfl, fun h => absurd h (fun z => n_ne1 (a := 0) (by decide) z.symm)⟩
