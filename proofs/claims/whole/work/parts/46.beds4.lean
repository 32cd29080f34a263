/-! ===== beds: the order of the beds does not count, nor does age past the oldest ===== -/
def tr (x y z : Nat) (i : Nat) : Nat := if i = 0 then x else if i = 1 then y else if i = 2 then z else 0
def st (m : Nat) (p : Prop) [Decidable p] (w : Nat) : Nat := if p then min m w else m
theorem st_comm (m : Nat) (p q : Prop) [Decidable p] [Decidable q] (u w : Nat) : st (st m p u) q w = st (st m q w) p u := by
  unfold st
  by_cases hp : p <;> by_cases hq : q <;> simp only [hp, hq, if_true, if_false]
  rw [Nat.min_assoc, Nat.min_comm u w, ← Nat.min_assoc]
theorem tr_nxt (B x y z jj : Nat) : nxt B (tr x y z) jj = fun i => if i < B then (if i + 1 = jj then 0 else tr x y z i + 1) else 0 := rfl
theorem nx3 (x y z : Nat) : nxt 3 (tr x y z) 0 = tr (x + 1) (y + 1) (z + 1) ∧ nxt 3 (tr x y z) 1 = tr 0 (y + 1) (z + 1) ∧ nxt 3 (tr x y z) 2 = tr (x + 1) 0 (z + 1) ∧ nxt 3 (tr x y z) 3 = tr (x + 1) (y + 1) 0 := by
  refine ⟨?_, ?_, ?_, ?_⟩ <;> funext i <;> unfold nxt tr <;> by_cases h0 : i = 0 <;> by_cases h1 : i = 1 <;> by_cases h2 : i = 2 <;> simp [h0, h1, h2] <;> omega
theorem nx2 (x y z : Nat) : nxt 2 (tr x y z) 0 = tr (x + 1) (y + 1) 0 ∧ nxt 2 (tr x y z) 1 = tr 0 (y + 1) 0 ∧ nxt 2 (tr x y z) 2 = tr (x + 1) 0 0 := by
  refine ⟨?_, ?_, ?_⟩ <;> funext i <;> unfold nxt tr <;> by_cases h0 : i = 0 <;> by_cases h1 : i = 1 <;> by_cases h2 : i = 2 <;> simp [h0, h1, h2] <;> omega
theorem nx1 (x y z : Nat) : nxt 1 (tr x y z) 0 = tr (x + 1) 0 0 ∧ nxt 1 (tr x y z) 1 = tr 0 0 0 := by
  refine ⟨?_, ?_⟩ <;> funext i <;> unfold nxt tr <;> by_cases h0 : i = 0 <;> by_cases h1 : i = 1 <;> by_cases h2 : i = 2 <;> simp [h0, h1, h2] <;> omega
theorem bF3 (c l v r x y z : Nat) : bF 3 c l v (r + 1) (tr x y z) = st (st (st (st 1000000 (v ≤ (c - l * x) + (c - l * y) + (c - l * z)) (bF 3 c l v r (tr (x + 1) (y + 1) (z + 1)))) (v ≤ (c - l * y) + (c - l * z)) (1 + bF 3 c l v r (tr 0 (y + 1) (z + 1)))) (v ≤ (c - l * x) + (c - l * z)) (1 + bF 3 c l v r (tr (x + 1) 0 (z + 1)))) (v ≤ (c - l * x) + (c - l * y)) (1 + bF 3 c l v r (tr (x + 1) (y + 1) 0)) := by
  obtain ⟨h0, h1, h2, h3⟩ := nx3 x y z
  show bmin _ _ 4 = _
  simp only [bmin, h0, h1, h2, h3, sG, tr, st, decide_eq_true_eq]
  simp
theorem bF2 (c l v r x y z : Nat) : bF 2 c l v (r + 1) (tr x y z) = st (st (st 1000000 (v ≤ (c - l * x) + (c - l * y)) (bF 2 c l v r (tr (x + 1) (y + 1) 0))) (v ≤ (c - l * y)) (1 + bF 2 c l v r (tr 0 (y + 1) 0))) (v ≤ (c - l * x)) (1 + bF 2 c l v r (tr (x + 1) 0 0)) := by
  obtain ⟨h0, h1, h2⟩ := nx2 x y z
  show bmin _ _ 3 = _
  simp only [bmin, h0, h1, h2, sG, tr, st, decide_eq_true_eq]
  simp
theorem bF1 (c l v r x y z : Nat) : bF 1 c l v (r + 1) (tr x y z) = st (st 1000000 (v ≤ (c - l * x)) (bF 1 c l v r (tr (x + 1) 0 0))) (v ≤ 0) (1 + bF 1 c l v r (tr 0 0 0)) := by
  obtain ⟨h0, h1⟩ := nx1 x y z
  show bmin _ _ 2 = _
  simp only [bmin, h0, h1, sG, tr, st, decide_eq_true_eq]
  simp
theorem sw3a (c l v : Nat) : ∀ r x y z, bF 3 c l v r (tr x y z) = bF 3 c l v r (tr y x z)
  | 0, _, _, _ => rfl
  | r + 1, x, y, z => by
    have ih := sw3a c l v r
    rw [bF3, bF3, ih (y + 1) (x + 1) (z + 1), ih 0 (x + 1) (z + 1), ih (y + 1) 0 (z + 1), ih (y + 1) (x + 1) 0, Nat.add_comm (c - l * y) (c - l * x), st_comm (st 1000000 _ _) (v ≤ c - l * x + (c - l * z))]
theorem sw3b (c l v : Nat) : ∀ r x y z, bF 3 c l v r (tr x y z) = bF 3 c l v r (tr x z y)
  | 0, _, _, _ => rfl
  | r + 1, x, y, z => by
    have ih := sw3b c l v r
    rw [bF3, bF3, ih (x + 1) (z + 1) (y + 1), ih 0 (z + 1) (y + 1), ih (x + 1) 0 (y + 1), ih (x + 1) (z + 1) 0, Nat.add_comm (c - l * z) (c - l * y), Nat.add_right_comm (c - l * x) (c - l * z) (c - l * y)]
    exact st_comm _ _ _ _ _
theorem sw2 (c l v : Nat) : ∀ r x y, bF 2 c l v r (tr x y 0) = bF 2 c l v r (tr y x 0)
  | 0, _, _ => rfl
  | r + 1, x, y => by
    have ih := sw2 c l v r
    rw [bF2, bF2, ih (y + 1) (x + 1), ih 0 (x + 1), ih (y + 1) 0, Nat.add_comm (c - l * y) (c - l * x)]
    exact st_comm _ _ _ _ _
def oldOk (c l O : Nat) : Prop := ∀ x, O ≤ x → x ≤ 20 → c - l * x = c - l * O
theorem old_g {c l O x y : Nat} (h : oldOk c l O) (hx : x ≤ 20) (hy : y ≤ 20) (hm : min x O = min y O) : c - l * x = c - l * y := by
  by_cases h1 : x < O
  · have : x = y := by omega
    rw [this]
  · rw [h x (by omega) hx, h y (by omega) hy]
theorem cap3 {c l v O : Nat} (h : oldOk c l O) : ∀ r d x y z x' y' z', d + r ≤ 21 → x ≤ d → y ≤ d → z ≤ d → x' ≤ d → y' ≤ d → z' ≤ d → min x O = min x' O → min y O = min y' O → min z O = min z' O → bF 3 c l v r (tr x y z) = bF 3 c l v r (tr x' y' z')
  | 0, _, _, _, _, _, _, _, _, _, _, _, _, _, _, _, _, _ => rfl
  | r + 1, d, x, y, z, x', y', z', hd, h1, h2, h3, h4, h5, h6, e1, e2, e3 => by
    have ih := cap3 (v := v) h r (d + 1)
    rw [bF3, bF3, old_g h (x := x) (y := x') (by omega) (by omega) e1, old_g h (x := y) (y := y') (by omega) (by omega) e2, old_g h (x := z) (y := z') (by omega) (by omega) e3]
    rw [ih (x + 1) (y + 1) (z + 1) (x' + 1) (y' + 1) (z' + 1) (by omega) (by omega) (by omega) (by omega) (by omega) (by omega) (by omega) (by omega) (by omega) (by omega)]
    rw [ih 0 (y + 1) (z + 1) 0 (y' + 1) (z' + 1) (by omega) (by omega) (by omega) (by omega) (by omega) (by omega) (by omega) (by omega) (by omega) (by omega)]
    rw [ih (x + 1) 0 (z + 1) (x' + 1) 0 (z' + 1) (by omega) (by omega) (by omega) (by omega) (by omega) (by omega) (by omega) (by omega) (by omega) (by omega)]
    rw [ih (x + 1) (y + 1) 0 (x' + 1) (y' + 1) 0 (by omega) (by omega) (by omega) (by omega) (by omega) (by omega) (by omega) (by omega) (by omega) (by omega)]
theorem cap2 {c l v O : Nat} (h : oldOk c l O) : ∀ r d x y x' y', d + r ≤ 21 → x ≤ d → y ≤ d → x' ≤ d → y' ≤ d → min x O = min x' O → min y O = min y' O → bF 2 c l v r (tr x y 0) = bF 2 c l v r (tr x' y' 0)
  | 0, _, _, _, _, _, _, _, _, _, _, _, _ => rfl
  | r + 1, d, x, y, x', y', hd, h1, h2, h4, h5, e1, e2 => by
    have ih := cap2 (v := v) h r (d + 1)
    rw [bF2, bF2, old_g h (x := x) (y := x') (by omega) (by omega) e1, old_g h (x := y) (y := y') (by omega) (by omega) e2]
    rw [ih (x + 1) (y + 1) (x' + 1) (y' + 1) (by omega) (by omega) (by omega) (by omega) (by omega) (by omega) (by omega)]
    rw [ih 0 (y + 1) 0 (y' + 1) (by omega) (by omega) (by omega) (by omega) (by omega) (by omega) (by omega)]
    rw [ih (x + 1) 0 (x' + 1) 0 (by omega) (by omega) (by omega) (by omega) (by omega) (by omega) (by omega)]
theorem cap1 {c l v O : Nat} (h : oldOk c l O) : ∀ r d x x', d + r ≤ 21 → x ≤ d → x' ≤ d → min x O = min x' O → bF 1 c l v r (tr x 0 0) = bF 1 c l v r (tr x' 0 0)
  | 0, _, _, _, _, _, _, _ => rfl
  | r + 1, d, x, x', hd, h1, h4, e1 => by
    have ih := cap1 (v := v) h r (d + 1)
    rw [bF1, bF1, old_g h (x := x) (y := x') (by omega) (by omega) e1]
    rw [ih (x + 1) (x' + 1) (by omega) (by omega) (by omega) (by omega)]
theorem old_0 (c : Nat) : oldOk c 0 0 := fun x _ _ => by rw [Nat.zero_mul, Nat.zero_mul]
theorem old_l {c l : Nat} (hl : 0 < l) : oldOk c l (min 20 ((c + l - 1) / l)) := by
  intro x h1 h2
  by_cases h : (c + l - 1) / l < 20
  · rw [Nat.min_eq_right (by omega)] at h1 ⊢
    have key : ∀ y, (c + l - 1) / l ≤ y → c - l * y = 0 := by
      intro y hy
      have h3 : c + l - 1 < l * ((c + l - 1) / l + 1) := by
        have := Nat.lt_mul_div_succ (c + l - 1) hl
        exact this
      have h4 : l * ((c + l - 1) / l + 1) ≤ l * (y + 1) := Nat.mul_le_mul_left l (by omega)
      rw [show l * (y + 1) = l * y + l from Nat.mul_succ l y] at h4
      omega
    rw [key x h1, key _ (Nat.le_refl _)]
  · rw [Nat.min_eq_left (by omega)] at h1 ⊢
    have : x = 20 := by omega
    rw [this]
