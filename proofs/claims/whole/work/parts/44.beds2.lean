/-! ===== beds, the reference's table ===== -/
def hi (f : Nat → Nat) (k : Nat) : Nat := f k + 23 * f (k + 1) + 529 * f (k + 2)
theorem nxt_lt {B x : Nat} {d : Nat} (hd : d ≤ 20) (hx : ∀ i, ag x i ≤ d) (jj i : Nat) : nxt B (ag x) jj i ≤ d + 1 := by
  unfold nxt
  have := hx i
  split
  · split <;> omega
  · omega
theorem nxt_0 {B : Nat} (hB : B ≤ 3) (a : Nat → Nat) (jj i : Nat) (h : 3 ≤ i) : nxt B a jj i = 0 := by
  unfold nxt
  rw [if_neg (by omega)]
theorem ag_hi {f : Nat → Nat} (h0 : ∀ i, f i < 23) (h3 : ∀ i, 3 ≤ i → f i = 0) : ag (hi f 0) = f := by
  funext i
  have a0 := h0 0
  have a1 := h0 1
  have a2 := h0 2
  unfold ag hi
  simp only [Nat.zero_add]
  split
  · subst i; omega
  · split
    · subst i; omega
    · split
      · subst i; omega
      · exact (h3 i (by omega)).symm
theorem hi_lt {f : Nat → Nat} (h0 : ∀ i, f i < 23) (k : Nat) : hi f k < 12167 := by
  have a0 := h0 k
  have a1 := h0 (k + 1)
  have a2 := h0 (k + 2)
  unfold hi
  omega
theorem jI_p (k : Nat) : jI (k + 1) + (-1) = jI k := by
  cases k with
  | zero => decide
  | succ k => exact ndec (a := k + 1) (by omega)
theorem next_go {n B x jj d : Nat} {σ : Sg} (hB : B ≤ 3) (hx : x < 12167) (hd : d ≤ 20) (hag : ∀ i, ag x i ≤ d) (hj : jj ≤ B) : ∀ (k q : Nat), k ≤ B → k < q → s_X12_nextAges_10 n q (nI x) (jI jj) (nI (hi (nxt B (ag x) jj) k)) (jI k) σ = some (nI (hi (nxt B (ag x) jj) 0), σ) := by
  intro k
  induction k with
  | zero =>
    intro q _ hq
    obtain ⟨q, rfl⟩ : ∃ k', q = k' + 1 := ⟨q - 1, by omega⟩
    show s_X12_nextAges_10b n _ _ _ _ _ _ = _
    unfold s_X12_nextAges_10b
    rw [if_pos (show jI 0 < 0 by decide)]
  | succ k ih =>
    intro q hk hq
    obtain ⟨q, rfl⟩ : ∃ k', q = k' + 1 := ⟨q - 1, by omega⟩
    show s_X12_nextAges_10b n (s_X12_nextAges_10 n q) _ _ _ _ _ = _
    unfold s_X12_nextAges_10b
    have hneg := jI_neg (jj := k + 1) (by omega)
    have he := jI_eq (i := k) (jj := jj) (by omega) (by omega)
    have hih := ih q (by omega) (by omega)
    have h3 := nxt_0 hB (ag x) jj (k + 3) (by omega)
    have hhi : hi (nxt B (ag x) jj) k = nxt B (ag x) jj k + 23 * hi (nxt B (ag x) jj) (k + 1) := by
      unfold hi
      rw [show k + 1 + 2 = k + 3 from rfl, show k + 1 + 1 = k + 2 from rfl, h3]
      omega
    have hn : nxt B (ag x) jj k = if k + 1 = jj then 0 else ag x k + 1 := by
      unfold nxt
      rw [if_pos (by omega)]
    rw [if_neg (by rw [hneg]; omega), jI_p]
    simp only [lt_eq]
    show (if nI k = jI jj then _ else _) = _
    by_cases h : k + 1 = jj
    · rw [if_pos (by rw [he]; exact h), show (23 : Int32) = nI 23 from rfl, nmul, show (0 : Int32) = nI 0 from rfl, nadd]
      rw [hhi, hn, if_pos h, Nat.zero_add] at hih
      exact hih
    · rw [if_neg (by rw [he]; exact h)]
      show bd (s_X12_ageOf n (nI x) (nI k) σ) _ = _
      rw [ageOf_ok hx (by omega), bd_so, show (23 : Int32) = nI 23 from rfl, nmul, show nI (ag x k) + 1 = nI (ag x k + 1) from nI_1 _, nadd]
      rw [hhi, hn, if_neg h, Nat.add_comm] at hih
      exact hih
theorem next_ok {n B c l v x jj d : Nat} {σ : Sg} (hn : 30 ≤ n) (hB : B ≤ 3) (hB1 : 1 ≤ B) (hx : x < 12167) (hd : d ≤ 20) (hag : ∀ i, ag x i ≤ d) (hj : jj ≤ B) (hR : bR B c l v σ) : s_X12_nextAges n (nI x) (jI jj) σ = some (nI (hi (nxt B (ag x) jj) 0), σ) := by
  unfold s_X12_nextAges
  rw [lt_eq, hR.1]
  obtain ⟨b, rfl⟩ : ∃ b, B = b + 1 := ⟨B - 1, by omega⟩
  rw [show nI (b + 1) - 1 = jI (b + 1) from nI_pred b]
  have h := next_go (n := n) (σ := σ) hB hx hd hag hj (b + 1) n (by omega) (by omega)
  have h0 : hi (nxt (b + 1) (ag x) jj) (b + 1) = 0 := by
    unfold hi nxt
    rw [if_neg (by omega), if_neg (by omega), if_neg (by omega)]
  rw [h0] at h
  exact h
-- the row of the day after
def bT (B c l v r d : Nat) (σ : Sg) : Prop := ∀ x, x < 12167 → (∀ i, ag x i ≤ d) → σ 117 (12167 * d + x) = nI (bF B c l v r (ag x))
theorem best_go {n B c l v x d r : Nat} {σ : Sg} (hn : 30 ≤ n) (hB : B ≤ 3) (hB1 : 1 ≤ B) (hc : c ≤ 99) (hl : l ≤ 30) (hv : v ≤ 297) (hx : x < 12167) (hd : d ≤ 20) (hag : ∀ i, ag x i ≤ d) (hR : bR B c l v σ) (hT : bT B c l v r (d + 1) σ) : ∀ (e jj k : Nat), jj + e = B + 1 → e < k → s_X12_bestFrom_7 n k (nI d) (nI x) (nI (bmin (fun jj => decide (v ≤ sG c l (ag x) jj B)) (fun jj => (if jj = 0 then 0 else 1) + bF B c l v r (nxt B (ag x) jj)) jj)) (jI jj) σ = some (nI (bF B c l v (r + 1) (ag x)), σ) := by
  intro e
  induction e with
  | zero =>
    intro jj k hj hk
    obtain ⟨k, rfl⟩ : ∃ k', k = k' + 1 := ⟨k - 1, by omega⟩
    have hj : jj = B + 1 := by omega
    subst hj
    show s_X12_bestFrom_7b n _ _ _ _ _ _ = _
    unfold s_X12_bestFrom_7b
    rw [hR.1, if_pos (show nI B ≤ jI (B + 1) from Int32.le_refl _)]
    rfl
  | succ e ih =>
    intro jj k hj hk
    obtain ⟨k, rfl⟩ : ∃ k', k = k' + 1 := ⟨k - 1, by omega⟩
    have hih := ih (jj + 1) k (by omega) (by omega)
    rw [bmin_s] at hih
    show s_X12_bestFrom_7b n (s_X12_bestFrom_7 n k) _ _ _ _ _ = _
    unfold s_X12_bestFrom_7b s_X12_bestFrom_40 s_X12_bestFrom_76
    have hle := jI_le (i := B) (jj := jj) (by omega) (by omega)
    have hneg := jI_neg (jj := jj) (by omega)
    have hs := sG_le c l (ag x) jj B
    have hs2 : B * c ≤ 3 * 99 := Nat.mul_le_mul hB hc
    have hlt := nlt (a := sG c l (ag x) jj B) (b := v) (by omega) (by omega)
    rw [hR.1, if_neg (by rw [hle]; omega), given_ok hn hB hc hl hx (by omega) hR, bd_so, hR.2.2.2, jI_s]
    by_cases h : v ≤ sG c l (ag x) jj B
    · rw [if_pos (decide_eq_true h)] at hih
      rw [if_neg (by rw [hlt]; omega)]
      simp only [lt_eq]
      have hz : (if jI jj < 0 then (0 : Int32) else 1) = zo (decide (jj ≠ 0)) := by
        by_cases h0 : jj = 0
        · rw [if_pos (by rw [hneg]; exact h0)]; simp [h0]; rfl
        · rw [if_neg (by rw [hneg]; exact h0)]; simp [h0]; rfl
      have hf : ∀ i, nxt B (ag x) jj i < 23 := fun i => by have := nxt_lt (B := B) hd hag jj i; omega
      have hcode := hi_lt hf 0
      have hbF := bF_le B c l v r (nxt B (ag x) jj)
      have hbm := bmin_le (fun jj => decide (v ≤ sG c l (ag x) jj B)) (fun jj => (if jj = 0 then 0 else 1) + bF B c l v r (nxt B (ag x) jj)) jj
      rw [hz, one_ok, bd_so, next_ok hn hB hB1 hx hd hag (by omega) hR, bd_so]
      unfold s_X12_bedCell
      rw [bd_so, show nI d + 1 = nI (d + 1) from nI_1 d, show (12167 : Int32) = nI 12167 from rfl, nmul, nadd, ck_n (by omega) (by omega), ix_n (by omega)]
      rw [hT _ hcode (fun i => by rw [ag_hi hf (nxt_0 hB _ _)]; exact nxt_lt hd hag jj i), ag_hi hf (nxt_0 hB _ _)]
      have hz2 : zo (decide (jj ≠ 0)) = nI (if jj = 0 then 0 else 1) := by
        by_cases h0 : jj = 0
        · simp [h0]; rfl
        · simp [h0]; rfl
      rw [hz2, nadd, ← hih]
      congr 1
      have hq := nle (a := bmin (fun jj => decide (v ≤ sG c l (ag x) jj B)) (fun jj => (if jj = 0 then 0 else 1) + bF B c l v r (nxt B (ag x) jj)) jj) (b := (if jj = 0 then 0 else 1) + bF B c l v r (nxt B (ag x) jj)) (by omega) (by split <;> omega)
      by_cases hm : bmin (fun jj => decide (v ≤ sG c l (ag x) jj B)) (fun jj => (if jj = 0 then 0 else 1) + bF B c l v r (nxt B (ag x) jj)) jj ≤ (if jj = 0 then 0 else 1) + bF B c l v r (nxt B (ag x) jj)
      · rw [if_pos (by rw [hq]; exact hm), Nat.min_eq_left hm]
      · rw [if_neg (by rw [hq]; exact hm), Nat.min_eq_right (by omega)]
    · rw [if_neg (by simpa using h)] at hih
      rw [if_pos (by rw [hlt]; omega)]
      exact hih
theorem best_ok {n B c l v x d r : Nat} {σ : Sg} (hn : 30 ≤ n) (hB : B ≤ 3) (hB1 : 1 ≤ B) (hc : c ≤ 99) (hl : l ≤ 30) (hv : v ≤ 297) (hx : x < 12167) (hd : d ≤ 20) (hag : ∀ i, ag x i ≤ d) (hR : bR B c l v σ) (hT : bT B c l v r (d + 1) σ) : s_X12_bestFrom n (nI d) (nI x) σ = some (nI (bF B c l v (r + 1) (ag x)), σ) := best_go hn hB hB1 hc hl hv hx hd hag hR hT (B + 1) 0 n (by omega) (by omega)
theorem row_go {n B c l v d r : Nat} {rc : Int32 → Sg → Option Sg} (hn : 30 ≤ n) (hB : B ≤ 3) (hB1 : 1 ≤ B) (hc : c ≤ 99) (hl : l ≤ 30) (hv : v ≤ 297) (hd : d ≤ 20) : ∀ (e x k : Nat) (σ : Sg), x + e = 12167 → e < k → bR B c l v σ → bT B c l v r (d + 1) σ → (∀ y, y < x → (∀ i, ag y i ≤ d) → σ 117 (12167 * d + y) = nI (bF B c l v (r + 1) (ag y))) → ∃ τ, s_X12_findBeds_36 n rc k (nI d) (nI x) σ = rc (nI d + -1) τ ∧ bT B c l v (r + 1) d τ ∧ ∀ o j, ¬ (o = 117 ∧ 12167 * d ≤ j ∧ j < 12167 * (d + 1)) → τ o j = σ o j := by
  intro e
  induction e with
  | zero =>
    intro x k σ hx hk hR hT hU
    obtain ⟨k, rfl⟩ : ∃ k', k = k' + 1 := ⟨k - 1, by omega⟩
    have hx : x = 12167 := by omega
    subst hx
    refine ⟨σ, ?_, hU, fun _ _ _ => rfl⟩
    show s_X12_findBeds_36b n _ _ _ _ _ = _
    unfold s_X12_findBeds_36b
    rw [if_pos (show (12167 : Int32) ≤ nI 12167 from Int32.le_refl _)]
  | succ e ih =>
    intro x k σ hx hk hR hT hU
    obtain ⟨k, rfl⟩ : ∃ k', k = k' + 1 := ⟨k - 1, by omega⟩
    show ∃ τ, s_X12_findBeds_36b n rc (s_X12_findBeds_36 n rc k) _ _ _ = _ ∧ _
    unfold s_X12_findBeds_36b s_X12_findBeds_74
    have hx2 : x < 12167 := by omega
    have h0 := ag_lt hx2 0
    have h1 := ag_lt hx2 1
    have h2 := ag_lt hx2 2
    have q0 := nlt (a := d) (b := ag x 0) (by omega) (by omega)
    have q1 := nlt (a := d) (b := ag x 1) (by omega) (by omega)
    have q2 := nlt (a := d) (b := ag x 2) (by omega) (by omega)
    rw [if_neg (by rw [show (12167 : Int32) = nI 12167 from rfl, nle (by omega) (by omega)]; omega)]
    rw [show s_X12_ageOf n (nI x) 0 σ = some (nI (ag x 0), σ) from ageOf_ok hx2 (i := 0) (by omega) σ, bd_so, show s_X12_ageOf n (nI x) 1 σ = some (nI (ag x 1), σ) from ageOf_ok hx2 (i := 1) (by omega) σ, bd_so, show s_X12_ageOf n (nI x) 2 σ = some (nI (ag x 2), σ) from ageOf_ok hx2 (i := 2) (by omega) σ, bd_so, lt_eq]
    have hrow : ∀ (val : Int32), (( ∀ i, ag x i ≤ d) → val = nI (bF B c l v (r + 1) (ag x))) → ∃ τ, s_X12_findBeds_36 n rc k (nI d) (nI (x + 1)) (up2 σ 117 (12167 * d + x) val) = rc (nI d + -1) τ ∧ bT B c l v (r + 1) d τ ∧ ∀ o j, ¬ (o = 117 ∧ 12167 * d ≤ j ∧ j < 12167 * (d + 1)) → τ o j = σ o j := by
      intro val hval
      obtain ⟨τ, t1, t2, t3⟩ := ih (x + 1) k (up2 σ 117 (12167 * d + x) val) (by omega) (by omega) ⟨by rw [up2_o (by decide)]; exact hR.1, by rw [up2_o (by decide)]; exact hR.2.1, by rw [up2_o (by decide)]; exact hR.2.2.1, by rw [up2_o (by decide)]; exact hR.2.2.2⟩ (fun y hy hay => by
        rw [up2_app, if_pos rfl, if_neg (by omega)]
        exact hT y hy hay) (fun y hy hay => by
        rw [up2_app, if_pos rfl]
        by_cases e1 : y = x
        · subst e1; rw [if_pos rfl]; exact hval hay
        · rw [if_neg (by omega)]; exact hU y (by omega) hay)
      refine ⟨τ, t1, t2, fun o j ho => ?_⟩
      rw [t3 o j ho, up2_app]
      by_cases e1 : o = 117
      · subst e1
        rw [if_pos rfl, if_neg (fun e2 => ho ⟨rfl, by omega, by omega⟩)]
      · rw [if_neg e1]
    have h75z : s_X12_findBeds_75 n rc (s_X12_findBeds_36 n rc k) (nI d) (nI x) 0 σ = s_X12_findBeds_36 n rc k (nI d) (nI (x + 1)) (up2 σ 117 (12167 * d + x) 1000000) := by
      unfold s_X12_findBeds_75 s_X12_bedCell
      rw [bd_so, if_pos rfl, show (12167 : Int32) = nI 12167 from rfl, nmul, nadd, ck_n (by omega) (by omega), ix_n (by omega), lt_eq, show nI x + 1 = nI (x + 1) from nI_1 x]
    have h75o : (∀ i, ag x i ≤ d) → s_X12_findBeds_75 n rc (s_X12_findBeds_36 n rc k) (nI d) (nI x) 1 σ = s_X12_findBeds_36 n rc k (nI d) (nI (x + 1)) (up2 σ 117 (12167 * d + x) (nI (bF B c l v (r + 1) (ag x)))) := by
      intro hag
      unfold s_X12_findBeds_75 s_X12_bedCell
      rw [bd_so, if_neg (by decide), best_ok hn hB hB1 hc hl hv hx2 hd hag hR hT, bd_so, show (12167 : Int32) = nI 12167 from rfl, nmul, nadd, ck_n (by omega) (by omega), ix_n (by omega), lt_eq, show nI x + 1 = nI (x + 1) from nI_1 x]
    by_cases b0 : d < ag x 0
    · rw [if_pos (by rw [q0]; exact b0), h75z]
      exact hrow _ fun h => absurd (h 0) (by omega)
    · rw [if_neg (by rw [q0]; exact b0)]
      by_cases b1 : d < ag x 1
      · rw [if_pos (by rw [q1]; exact b1), h75z]
        exact hrow _ fun h => absurd (h 1) (by omega)
      · rw [if_neg (by rw [q1]; exact b1)]
        by_cases b2 : d < ag x 2
        · rw [if_pos (by rw [q2]; exact b2), h75z]
          exact hrow _ fun h => absurd (h 2) (by omega)
        · rw [if_neg (by rw [q2]; exact b2), h75o (fun i => by
            by_cases i0 : i = 0
            · subst i0; omega
            · by_cases i1 : i = 1
              · subst i1; omega
              · by_cases i2 : i = 2
                · subst i2; omega
                · unfold ag; rw [if_neg i0, if_neg i1, if_neg i2]; omega)]
          exact hrow _ fun _ => rfl
