/-! ===== the reference's cutOff ===== -/
theorem cut_rounds {n np ca cb : Nat} {ea eb : Nat → Nat} {cl : Nat → Bool} {x1 m : Int32} (hn : 100 ≤ n) (hnp : np ≤ 20) (he : ∀ p, p < np → ea p < 10 ∧ eb p < 10) (hca : ca = if m = 0 then 73 else 75) (hcb : cb = if m = 0 then 74 else 76) (hx : ∀ p, p < np → bt x1 p = cl p) : ∀ (e r k : Nat) (σ : Sg), r + e = 10 → e < k → mE np ea eb ca cb σ → mJ (jlv np ea eb cl r) σ → ∃ τ, s_X12_cutOff_31 n k x1 m (nI r) σ = s_X12_cutOff_157 n n 0 0 τ ∧ mJ (jlv np ea eb cl 10) τ ∧ ∀ o j, o ≠ 114 → τ o j = σ o j := by
  have hca4 : ca ≠ 114 := by rw [hca]; split <;> decide
  have hcb4 : cb ≠ 114 := by rw [hcb]; split <;> decide
  intro e
  induction e with
  | zero =>
    intro r k σ hr hk hc hJ
    obtain ⟨k, rfl⟩ : ∃ k', k = k' + 1 := ⟨k - 1, by omega⟩
    have hr : r = 10 := by omega
    subst hr
    refine ⟨σ, ?_, hJ, fun _ _ _ => rfl⟩
    show s_X12_cutOff_31b n _ _ _ _ _ = _
    unfold s_X12_cutOff_31b
    rw [if_pos (show (10 : Int32) ≤ nI 10 from Int32.le_refl _)]
  | succ e ih =>
    intro r k σ hr hk hc hJ
    obtain ⟨k, rfl⟩ : ∃ k', k = k' + 1 := ⟨k - 1, by omega⟩
    show ∃ τ, s_X12_cutOff_31b n (s_X12_cutOff_31 n k) _ _ _ _ = _ ∧ _
    unfold s_X12_cutOff_31b
    rw [if_neg (by rw [show (10 : Int32) = nI 10 from rfl, nle (by omega) (by omega)]; omega)]
    obtain ⟨τ1, t1, t2, t3⟩ := cut_inner (n := n) (J := jlv np ea eb cl r) (x3 := nI r) (rc := s_X12_cutOff_31 n k) hnp he hca hcb hx np 0 n σ (by omega) (by omega) hc hJ
    have t1' : s_X12_cutOff_40 n (s_X12_cutOff_31 n k) n x1 m (nI r) 0 σ = s_X12_cutOff_31 n k x1 m (nI (r + 1)) τ1 := by
      rw [← show nI r + 1 = nI (r + 1) from nI_1 r]
      exact t1
    rw [t1']
    obtain ⟨τ, w1, w2, w3⟩ := ih (r + 1) k τ1 (by omega) (by omega) ⟨by rw [t3 71 2 (by decide)]; exact hc.1, fun q hq => by rw [t3 ca q hca4, t3 cb q hcb4]; exact hc.2 q hq⟩ t2
    exact ⟨τ, w1, w2, fun o j ho => (w3 o j ho).trans (t3 o j ho)⟩
theorem cut_init {n : Nat} {x1 m : Int32} : ∀ (e i k : Nat) (σ : Sg), i + e = 10 → e < k → (∀ v, v < i → σ 114 v = zo (decide (v = 0))) → ∃ τ, s_X12_cutOff_2 n k x1 m (nI i) σ = s_X12_cutOff_31 n n x1 m 0 τ ∧ mJ (fun v => decide (v = 0)) τ ∧ ∀ o j, o ≠ 114 → τ o j = σ o j := by
  intro e
  induction e with
  | zero =>
    intro i k σ hi hk hz
    obtain ⟨k, rfl⟩ : ∃ k', k = k' + 1 := ⟨k - 1, by omega⟩
    have hi : i = 10 := by omega
    subst hi
    refine ⟨σ, ?_, hz, fun _ _ _ => rfl⟩
    show s_X12_cutOff_2b n _ _ _ _ _ = _
    unfold s_X12_cutOff_2b
    rw [if_pos (show (10 : Int32) ≤ nI 10 from Int32.le_refl _)]
  | succ e ih =>
    intro i k σ hi hk hz
    obtain ⟨k, rfl⟩ : ∃ k', k = k' + 1 := ⟨k - 1, by omega⟩
    show ∃ τ, s_X12_cutOff_2b n (s_X12_cutOff_2 n k) _ _ _ _ = _ ∧ _
    unfold s_X12_cutOff_2b
    rw [if_neg (by rw [show (10 : Int32) = nI 10 from rfl, nle (by omega) (by omega)]; omega)]
    simp (disch := omega) only [ck_n, ix_n, lt_eq]
    have e0 : (nI i = (0 : Int32)) = (i = 0) := neq (b := 0) (by omega) (by omega)
    rw [show nI i + 1 = nI (i + 1) from nI_1 i]
    simp only [e0]
    have ez : (if i = 0 then (1 : Int32) else 0) = zo (decide (i = 0)) := by
      by_cases h : i = 0
      · simp [h, zo]
      · simp [h, zo]
    rw [ez, nar_b]
    obtain ⟨τ, t1, t2, t3⟩ := ih (i + 1) k (up2 σ 114 i (zo (decide (i = 0)))) (by omega) (by omega) (fun v hv => by
      by_cases h : v = i
      · subst h; simp [up2_app]
      · simp [up2_app, h, hz v (by omega)])
    exact ⟨τ, t1, t2, fun o j ho => by rw [t3 o j ho, up2_o ho]⟩
theorem slz_bt {b : Bool} {v i : Nat} (hv : v < 32) (hi : i < 32) : bt (sl (zo b) (nI v)) i = (decide (i = v) && b) := by
  cases b
  · have : sl (zo false) (nI v) = 0 := by
      apply b_ext
      intro j hj
      unfold sl
      rw [b_shl v hv _ hj, b_0]
      show (decide (v ≤ j) && bt 0 (j - v)) = false
      rw [b_0, Bool.and_false]
    rw [this, b_0, Bool.and_false]
  · rw [Bool.and_true]
    exact sl1_bt hv hi
theorem cut_mask {n ns : Nat} {nd : Nat → Nat} {J : Nat → Bool} {σ : Sg} (hns : ns ≤ 10) (h0 : σ 71 11 = nI ns) (hc : ∀ s, s < ns → σ 81 s = nI (nd s) ∧ nd s < 10) (hJ : mJ J σ) : ∀ (e s k : Nat) (x : Int32), s + e = ns → e < k → (∀ i, i < 32 → bt x i = (decide (i < s) && !J (nd i))) → ∃ y, s_X12_cutOff_157 n k x (nI s) σ = some (y, σ) ∧ ∀ i, i < 32 → bt y i = (decide (i < ns) && !J (nd i)) := by
  intro e
  induction e with
  | zero =>
    intro s k x hs hk hx
    obtain ⟨k, rfl⟩ : ∃ k', k = k' + 1 := ⟨k - 1, by omega⟩
    have hs : s = ns := by omega
    subst hs
    refine ⟨x, ?_, hx⟩
    show s_X12_cutOff_157b n _ _ _ _ = _
    unfold s_X12_cutOff_157b
    rw [h0, if_pos (by rw [nle (by omega) (by omega)]; exact Nat.le_refl _)]
  | succ e ih =>
    intro s k x hs hk hx
    obtain ⟨k, rfl⟩ : ∃ k', k = k' + 1 := ⟨k - 1, by omega⟩
    obtain ⟨c1, c2⟩ := hc s (by omega)
    show ∃ y, s_X12_cutOff_157b n (s_X12_cutOff_157 n k) _ _ _ = _ ∧ _
    unfold s_X12_cutOff_157b s_X12_cutOff_187
    rw [h0, if_neg (by rw [nle (by omega) (by omega)]; omega)]
    simp (disch := omega) only [ck_n, ix_n, c1, lt_eq, hJ (nd s) c2]
    have ez : (if zo (J (nd s)) = 0 then (1 : Int32) else 0) = zo (!J (nd s)) := by cases J (nd s) <;> rfl
    rw [ez, one_ok, bd_some, show nI s + 1 = nI (s + 1) from nI_1 s]
    refine ih (s + 1) k _ (by omega) (by omega) (fun i hi => ?_)
    rw [b_or, hx i hi, slz_bt (by omega) hi]
    by_cases e2 : i = s
    · subst e2; simp
    · by_cases h3 : i < s
      · have : i < s + 1 := by omega
        simp [h3, this, e2]
      · have : ¬ i < s + 1 := by omega
        simp [h3, this, e2]
/-- the reference: the streets that are cut off -/
theorem mcut_ok {n np ns : Nat} {ea eb nd : Nat → Nat} {cl : Nat → Bool} {x1 m : Int32} {σ : Sg} (hn : 100 ≤ n) (hnp : np ≤ 20) (hns : ns ≤ 10) (he : ∀ p, p < np → ea p < 10 ∧ eb p < 10) (hx : ∀ p, p < np → bt x1 p = cl p) (hc : if m = 0 then mE np ea eb 73 74 σ else mE np ea eb 75 76 σ) (h0 : σ 71 11 = nI ns) (hs : ∀ s, s < ns → σ 81 s = nI (nd s) ∧ nd s < 10) : ∃ z τ, s_X12_cutOff n x1 m σ = some (z, τ) ∧ ∀ i, i < 32 → bt z i = (decide (i < ns) && !jlv np ea eb cl 10 (nd i)) := by
  have core : ∀ (ca cb : Nat), ca = (if m = 0 then 73 else 75) → cb = (if m = 0 then 74 else 76) → mE np ea eb ca cb σ → ∃ z τ, s_X12_cutOff n x1 m σ = some (z, τ) ∧ ∀ i, i < 32 → bt z i = (decide (i < ns) && !jlv np ea eb cl 10 (nd i)) := by
    intro ca cb hca hcb hE
    have hca4 : ca ≠ 114 := by rw [hca]; split <;> decide
    have hcb4 : cb ≠ 114 := by rw [hcb]; split <;> decide
    obtain ⟨τ1, t1, t2, t3⟩ := cut_init (n := n) (x1 := x1) (m := m) 10 0 n σ (by omega) (by omega) (fun v hv => by omega)
    have t1' : s_X12_cutOff n x1 m σ = s_X12_cutOff_31 n n x1 m (nI 0) τ1 := t1
    obtain ⟨τ2, u1, u2, u3⟩ := cut_rounds (n := n) (cl := cl) (x1 := x1) (m := m) hn hnp he hca hcb hx 10 0 n τ1 (by omega) (by omega) ⟨by rw [t3 71 2 (by decide)]; exact hE.1, fun q hq => by rw [t3 ca q hca4, t3 cb q hcb4]; exact hE.2 q hq⟩ t2
    obtain ⟨z, z1, z2⟩ := cut_mask (n := n) (nd := nd) (σ := τ2) hns (by rw [u3 71 11 (by decide), t3 71 11 (by decide)]; exact h0) (fun s h => by rw [u3 81 s (by decide), t3 81 s (by decide)]; exact hs s h) u2 ns 0 n 0 (by omega) (by omega) (fun i hi => by rw [b_0]; simp)
    have z1' : s_X12_cutOff_157 n n 0 0 τ2 = some (z, τ2) := z1
    exact ⟨z, τ2, by rw [t1', u1, z1'], z2⟩
  by_cases hm : m = 0
  · rw [if_pos hm] at hc
    exact core 73 74 (by rw [if_pos hm]) (by rw [if_pos hm]) hc
  · rw [if_neg hm] at hc
    exact core 75 76 (by rw [if_neg hm]) (by rw [if_neg hm]) hc
