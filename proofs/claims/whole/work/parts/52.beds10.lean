/-! ===== beds, the class: the first best choice ===== -/
theorem sG_ext {c l jj : Nat} {a b : Nat → Nat} : ∀ i, (∀ j, j < i → c - l * a j = c - l * b j) → sG c l a jj i = sG c l b jj i
  | 0, _ => rfl
  | i + 1, h => by rw [sG_s, sG_s, sG_ext i (fun j hj => h j (by omega)), h i (by omega)]
theorem cw_cap {B c l v O D d a0 a1 a2 jj : Nat} (hB1 : 1 ≤ B) (hB : B ≤ 3) (hold : oldOk c l O) (hD : D ≤ 20) (hd : d ≤ D) (h0 : a0 ≤ d) (h1 : a1 ≤ d) (h2 : a2 ≤ d) : cw B c l v (D - d) (tr (min a0 (min d O)) (min a1 (min d O)) (min a2 (min d O))) jj = cw B c l v (D - d) (tr a0 a1 a2) jj := by
  have hg : ∀ j, c - l * tr (min a0 (min d O)) (min a1 (min d O)) (min a2 (min d O)) j = c - l * tr a0 a1 a2 j := by
    intro j
    refine old_g hold ?_ ?_ ?_
    · have := tr_le (x := min a0 (min d O)) (y := min a1 (min d O)) (z := min a2 (min d O)) (d := d) (by omega) (by omega) (by omega) j
      omega
    · have := tr_le h0 h1 h2 j
      omega
    · unfold tr
      split
      · omega
      · split
        · omega
        · split <;> omega
  have hF : bF B c l v (D - d) (nxt B (tr (min a0 (min d O)) (min a1 (min d O)) (min a2 (min d O))) jj) = bF B c l v (D - d) (nxt B (tr a0 a1 a2) jj) := by
    refine Eq.trans (congrArg (bF B c l v (D - d)) (nxt_tr hB _ jj)) (Eq.trans ?_ (congrArg (bF B c l v (D - d)) (nxt_tr hB _ jj)).symm)
    have l1 := nxt_le (B := B) (tr_le (x := min a0 (min d O)) (y := min a1 (min d O)) (z := min a2 (min d O)) (d := d) (by omega) (by omega) (by omega)) jj
    have l2 := nxt_le (B := B) (tr_le h0 h1 h2) jj
    have hm : ∀ a i, (∀ t, a ≤ d → (t = min a (min d O)) → min (if i < B then (if i + 1 = jj then 0 else t + 1) else 0) O = min (if i < B then (if i + 1 = jj then 0 else a + 1) else 0) O) := by
      intro a i t ha ht
      split
      · split
        · rfl
        · omega
      · rfl
    refine capB hB1 hB hold (d := d + 1) (by omega) (l1 0) (l1 1) (l1 2) (l2 0) (l2 1) (l2 2) ?_ ?_ ?_ (fun hb => ?_) (fun hb => ?_)
    · exact hm a0 0 _ h0 rfl
    · exact hm a1 1 _ h1 rfl
    · exact hm a2 2 _ h2 rfl
    · unfold nxt; rw [if_neg (by omega), if_neg (by omega)]; exact ⟨rfl, rfl⟩
    · unfold nxt; rw [if_neg (by omega), if_neg (by omega)]; exact ⟨rfl, rfl⟩
  unfold cw
  rw [sG_ext B (fun j _ => hg j), hF]
theorem first_go {n B c l v D O d x y z : Nat} {σ : Sg} {q : Nat → Bool} (hB1 : 1 ≤ B) (hB : B ≤ 3) (hc : c ≤ 99) (hl : l ≤ 30) (hv : v ≤ 297) (hO : O ≤ 20) (hold : oldOk c l O) (hD : D ≤ 20) (hd : d ≤ D) (hx : x ≤ min d O) (hy : y ≤ min d O) (hz : z ≤ min d O) (ht : tz B y z) (hC : bC B c l v D O σ) (hT : ∀ d, d ≤ D → cT B c l v (D - d + 1) d O σ) (hq : ∀ jj, jj ≤ B → q jj = decide (min 100 (cw B c l v (D - d) (tr x y z) jj) = min 100 (bF B c l v (D - d + 1) (tr x y z)))) (hex : ∃ j, j ≤ B ∧ q j = true) : ∀ (e jj k : Nat), jj + e = B + 1 → e < k → (∀ j, j < jj → q j = false) → s_X0_firstBest_3 n k (nI d) (nI x) (nI y) (nI z) (jI jj) σ = some (jI (fs q e jj), σ) := by
  intro e
  induction e with
  | zero =>
    intro jj k hj hk hno
    obtain ⟨j, h1, h2⟩ := hex
    rw [hno j (by omega)] at h2
    cases h2
  | succ e ih =>
    intro jj k hj hk hno
    obtain ⟨k, rfl⟩ : ∃ k', k = k' + 1 := ⟨k - 1, by omega⟩
    show s_X0_firstBest_3b n (s_X0_firstBest_3 n k) _ _ _ _ _ _ = _
    unfold s_X0_firstBest_3b
    have hle := jI_le (i := B) (jj := jj) (by omega) (by omega)
    have hp := pl_lt (d := d) (x := x) (y := y) (z := z) (by omega) (by omega) (by omega) (by omega)
    have ht2 := (t_b d (by omega)).2.2.2.2.2.2
    rw [hC.1, if_neg (by rw [hle]; omega), cost_ok hB1 hB hc hl hv hO hold hD hd (by omega) (by omega) (by omega) (by omega) hC (fun h => by
      have := hT (d + 1) (by omega)
      rw [show D - (d + 1) + 1 = D - d by omega] at this
      exact this), bd_so, place_ok n (by omega) (by omega) (by omega) (by omega), bd_so, ck_n (by omega) (by omega), ix_n (by omega), hT d hd x y z hx hy hz ht, jI_s]
    have hne := neq (a := min 100 (cw B c l v (D - d) (tr x y z) jj)) (b := min 100 (bF B c l v (D - d + 1) (tr x y z))) (by omega) (by omega)
    have hqj := hq jj (by omega)
    rw [fs_s]
    by_cases h : min 100 (cw B c l v (D - d) (tr x y z) jj) = min 100 (bF B c l v (D - d + 1) (tr x y z))
    · rw [if_pos (by rw [hne]; exact h), if_pos (by rw [hqj]; exact decide_eq_true h)]
    · have hqf : q jj = false := by rw [hqj]; exact decide_eq_false h
      rw [if_neg (by rw [hne]; exact h), hqf]
      exact ih (jj + 1) k (by omega) (by omega) fun j hj2 => by
        by_cases e1 : j = jj
        · rw [e1]; exact hqf
        · exact hno j (by omega)
