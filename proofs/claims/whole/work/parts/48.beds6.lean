/-! ===== beds, the class: the cost of a choice ===== -/
theorem capB {B c l v O : Nat} (hB1 : 1 ≤ B) (hB : B ≤ 3) (h : oldOk c l O) {r d x y z x' y' z' : Nat} (hd : d + r ≤ 21) (h1 : x ≤ d) (h2 : y ≤ d) (h3 : z ≤ d) (h4 : x' ≤ d) (h5 : y' ≤ d) (h6 : z' ≤ d) (e1 : min x O = min x' O) (e2 : min y O = min y' O) (e3 : min z O = min z' O) (k2 : B ≤ 2 → z = 0 ∧ z' = 0) (k1 : B ≤ 1 → y = 0 ∧ y' = 0) : bF B c l v r (tr x y z) = bF B c l v r (tr x' y' z') := by
  have hb : B = 1 ∨ B = 2 ∨ B = 3 := by omega
  rcases hb with hb | hb | hb <;> subst hb
  · obtain ⟨a, b⟩ := k2 (by omega)
    obtain ⟨a', b'⟩ := k1 (by omega)
    rw [a, b, a', b']
    exact cap1 h r d x x' hd h1 h4 e1
  · obtain ⟨a, b⟩ := k2 (by omega)
    rw [a, b]
    exact cap2 h r d x y x' y' hd h1 h2 h4 h5 e1 e2
  · exact cap3 h r d x y z x' y' z' hd h1 h2 h3 h4 h5 h6 e1 e2 e3
def cw (B c l v r : Nat) (a : Nat → Nat) (jj : Nat) : Nat := if v ≤ sG c l a jj B then (if jj = 0 then 0 else 1) + bF B c l v r (nxt B a jj) else 1000000
def tz (B y z : Nat) : Prop := (B ≤ 2 → z = 0) ∧ (B ≤ 1 → y = 0)
def cT (B c l v r d O : Nat) (σ : Sg) : Prop := ∀ x y z, x ≤ min d O → y ≤ min d O → z ≤ min d O → tz B y z → σ 70 (pl d x y z) = nI (min 100 (bF B c l v r (tr x y z)))
theorem sum_sG {B c l x y z jj : Nat} (hB1 : 1 ≤ B) (hB : B ≤ 3) : (if 0 < B then (if 0 + 1 = jj then 0 else c - l * x) else 0) + (if 1 < B then (if 1 + 1 = jj then 0 else c - l * y) else 0) + (if 2 < B then (if 2 + 1 = jj then 0 else c - l * z) else 0) = sG c l (tr x y z) jj B := by
  have hb : B = 1 ∨ B = 2 ∨ B = 3 := by omega
  rcases hb with hb | hb | hb <;> subst hb <;> simp [sG, tr]
theorem nxt_tr {B : Nat} (hB : B ≤ 3) (a : Nat → Nat) (jj : Nat) : nxt B a jj = tr (nxt B a jj 0) (nxt B a jj 1) (nxt B a jj 2) := by
  funext i
  unfold tr
  by_cases h0 : i = 0
  · rw [if_pos h0, h0]
  · by_cases h1 : i = 1
    · rw [if_neg h0, if_pos h1, h1]
    · by_cases h2 : i = 2
      · rw [if_neg h0, if_neg h1, if_pos h2, h2]
      · rw [if_neg h0, if_neg h1, if_neg h2]
        exact nxt_0 hB a jj i (by omega)
theorem nxt_le {B : Nat} {a : Nat → Nat} {d : Nat} (ha : ∀ i, a i ≤ d) (jj i : Nat) : nxt B a jj i ≤ d + 1 := by
  unfold nxt
  have := ha i
  split
  · split <;> omega
  · omega
theorem tr_le {x y z d : Nat} (hx : x ≤ d) (hy : y ≤ d) (hz : z ≤ d) (i : Nat) : tr x y z i ≤ d := by
  unfold tr
  split
  · exact hx
  · split
    · exact hy
    · split
      · exact hz
      · omega
theorem cost_ok {n B c l v D O d x y z jj : Nat} {σ : Sg} (hB1 : 1 ≤ B) (hB : B ≤ 3) (hc : c ≤ 99) (hl : l ≤ 30) (hv : v ≤ 297) (hO : O ≤ 20) (hold : oldOk c l O) (hD : D ≤ 20) (hd : d ≤ D) (hx : x ≤ d) (hy : y ≤ d) (hz : z ≤ d) (hj : jj ≤ B) (hC : bC B c l v D O σ) (hT : d < D → cT B c l v (D - d) (d + 1) O σ) : s_X0_costOf n (nI d) (nI x) (nI y) (nI z) (jI jj) σ = some (nI (min 100 (cw B c l v (D - d) (tr x y z) jj)), σ) := by
  unfold s_X0_costOf s_X0_costOf_52
  have hneg : (jI jj = -1) = (jj = 0) := by
    cases jj with
    | zero => apply propext; exact ⟨fun _ => rfl, fun _ => rfl⟩
    | succ k => apply propext; exact ⟨fun h => absurd h (n_ne1 (by omega)), fun h => by omega⟩
  have hs := sG_le c l (tr x y z) jj B
  have hs2 : B * c ≤ 3 * 99 := Nat.mul_le_mul hB hc
  rw [show s_X0_gives n 0 (nI x) (jI jj) σ = _ from gives_ok (i := 0) hB hc hl (by omega) (by omega) hj hC, bd_so, show s_X0_gives n 1 (nI y) (jI jj) σ = _ from gives_ok (i := 1) hB hc hl (by omega) (by omega) hj hC, bd_so, show s_X0_gives n 2 (nI z) (jI jj) σ = _ from gives_ok (i := 2) hB hc hl (by omega) (by omega) hj hC, bd_so]
  simp only [lt_eq]
  rw [nadd, nadd, sum_sG hB1 hB, hC.2.2.2.1, hC.2.2.2.2.1]
  have hq := nle (a := v) (b := sG c l (tr x y z) jj B) (by omega) (by omega)
  unfold cw
  by_cases h : v ≤ sG c l (tr x y z) jj B
  · rw [if_pos (by rw [hq]; exact h), if_pos h]
    have hy0 : (if jI jj = -1 then (0 : Int32) else 1) = nI (if jj = 0 then 0 else 1) := by
      by_cases h0 : jj = 0
      · rw [if_pos (by rw [hneg]; exact h0), if_pos h0]; rfl
      · rw [if_neg (by rw [hneg]; exact h0), if_neg h0]; rfl
    rw [hy0]
    have hdq := neq (a := d) (b := D) (by omega) (by omega)
    by_cases e : d = D
    · rw [if_pos (by rw [hdq]; exact e), e, Nat.sub_self, show bF B c l v 0 (nxt B (tr x y z) jj) = 0 from rfl, Nat.min_eq_right (by split <;> omega)]
      rfl
    · rw [if_neg (by rw [hdq]; exact e)]
      have hle : ∀ i, nxt B (tr x y z) jj i ≤ d + 1 := nxt_le (tr_le hx hy hz) jj
      have l0 := hle 0
      have l1 := hle 1
      have l2 := hle 2
      rw [show s_X0_older n 0 (nI x) (jI jj) (nI d) σ = _ from older_ok (i := 0) (a := tr x y z) hB hO (by omega) (by omega) rfl (by omega) hj hC, bd_so, show s_X0_older n 1 (nI y) (jI jj) (nI d) σ = _ from older_ok (i := 1) (a := tr x y z) hB hO (by omega) (by omega) rfl (by omega) hj hC, bd_so, show s_X0_older n 2 (nI z) (jI jj) (nI d) σ = _ from older_ok (i := 2) (a := tr x y z) hB hO (by omega) (by omega) rfl (by omega) hj hC, bd_so]
      rw [show nI d + 1 = nI (d + 1) from nI_1 d, place_ok n (by omega) (by omega) (by omega) (by omega), bd_so]
      have hp := pl_lt (d := d + 1) (x := min (nxt B (tr x y z) jj 0) (min (d + 1) O)) (y := min (nxt B (tr x y z) jj 1) (min (d + 1) O)) (z := min (nxt B (tr x y z) jj 2) (min (d + 1) O)) (by omega) (by omega) (by omega) (by omega)
      have ht := (t_b (d + 1) (by omega)).2.2.2.2.2.2
      have z2 : B ≤ 2 → nxt B (tr x y z) jj 2 = 0 := fun hb => by unfold nxt; rw [if_neg (by omega)]
      have z1 : B ≤ 1 → nxt B (tr x y z) jj 1 = 0 := fun hb => by unfold nxt; rw [if_neg (by omega)]
      rw [ck_n (by omega) (by omega), ix_n (by omega), hT (by omega) _ _ _ (by omega) (by omega) (by omega) ⟨fun hb => by rw [z2 hb, Nat.zero_min], fun hb => by rw [z1 hb, Nat.zero_min]⟩]
      have hcap : bF B c l v (D - d) (nxt B (tr x y z) jj) = bF B c l v (D - d) (tr (min (nxt B (tr x y z) jj 0) (min (d + 1) O)) (min (nxt B (tr x y z) jj 1) (min (d + 1) O)) (min (nxt B (tr x y z) jj 2) (min (d + 1) O))) := by
        refine Eq.trans (congrArg (bF B c l v (D - d)) (nxt_tr hB (tr x y z) jj)) ?_
        exact capB hB1 hB hold (d := d + 1) (by omega) l0 l1 l2 (by omega) (by omega) (by omega) (by omega) (by omega) (by omega) (fun hb => ⟨z2 hb, by rw [z2 hb, Nat.zero_min]⟩) (fun hb => ⟨z1 hb, by rw [z1 hb, Nat.zero_min]⟩)
      rw [hcap]
      have hbl := bF_le B c l v (D - d) (tr (min (nxt B (tr x y z) jj 0) (min (d + 1) O)) (min (nxt B (tr x y z) jj 1) (min (d + 1) O)) (min (nxt B (tr x y z) jj 2) (min (d + 1) O)))
      rw [nadd, show (100 : Int32) = nI 100 from rfl, nimin (by omega) (by split <;> omega)]
      congr 3
      split <;> omega
  · rw [if_neg (by rw [hq]; exact h), if_neg h]
    rfl
