/-! ===== sets of nodes and streets as masks ===== -/
theorem joined_loop {n : Nat} {f : Nat → Int32} {σ : Sg} (hF : cF f σ) : ∀ (e v k : Nat) (x : Int32), v + e = 10 → e < k → (∀ i, i < 32 → bt x i = (decide (i < v) && !decide (f i = -1))) → ∃ y, s_X4_joined_11 n k x (nI v) σ = some (y, σ) ∧ ∀ i, i < 32 → bt y i = (decide (i < 10) && !decide (f i = -1)) := by
  intro e
  induction e with
  | zero =>
    intro v k x hv hk hx
    obtain ⟨k, rfl⟩ : ∃ k', k = k' + 1 := ⟨k - 1, by omega⟩
    have hv : v = 10 := by omega
    subst hv
    refine ⟨x, ?_, hx⟩
    show s_X4_joined_11b n _ _ _ _ = _
    unfold s_X4_joined_11b
    rw [if_pos (show (10 : Int32) ≤ nI 10 from Int32.le_refl _)]
  | succ e ih =>
    intro v k x hv hk hx
    obtain ⟨k, rfl⟩ : ∃ k', k = k' + 1 := ⟨k - 1, by omega⟩
    show ∃ y, s_X4_joined_11b n (s_X4_joined_11 n k) _ _ _ = _ ∧ _
    unfold s_X4_joined_11b
    rw [if_neg (by rw [show (10 : Int32) = nI 10 from rfl, nle (by omega) (by omega)]; omega)]
    simp (disch := omega) only [ck_n, ix_n, hF v (by omega), lt_eq]
    rw [show nI v + 1 = nI (v + 1) from nI_1 v]
    by_cases h : f v = -1
    · rw [if_pos h]
      refine ih (v + 1) k x (by omega) (by omega) (fun i hi => ?_)
      rw [hx i hi]
      by_cases e2 : i = v
      · subst e2; simp [h]
      · by_cases h3 : i < v
        · have : i < v + 1 := by omega
          simp [h3, this]
        · have : ¬ i < v + 1 := by omega
          simp [h3, this]
    · rw [if_neg h]
      refine ih (v + 1) k _ (by omega) (by omega) (fun i hi => ?_)
      rw [b_or, hx i hi, sl1_bt (by omega) hi]
      by_cases e2 : i = v
      · subst e2; simp [h]
      · by_cases h3 : i < v
        · have : i < v + 1 := by omega
          simp [h3, this, e2]
        · have : ¬ i < v + 1 := by omega
          simp [h3, this, e2]
theorem apart_loop {n ns : Nat} {nd : Nat → Nat} {x1 : Int32} {σ : Sg} (hns : ns ≤ 10) (h0 : σ 11 0 = nI ns) (hc : ∀ s, s < ns → σ 12 s = nI (nd s) ∧ nd s < 10) : ∀ (e s k : Nat) (x : Int32), s + e = ns → e < k → (∀ i, i < 32 → bt x i = (decide (i < s) && !bt x1 (nd i))) → ∃ y, s_X8_apart_4 n k x1 x (nI s) σ = some (y, σ) ∧ ∀ i, i < 32 → bt y i = (decide (i < ns) && !bt x1 (nd i)) := by
  intro e
  induction e with
  | zero =>
    intro s k x hs hk hx
    obtain ⟨k, rfl⟩ : ∃ k', k = k' + 1 := ⟨k - 1, by omega⟩
    have hs : s = ns := by omega
    subst hs
    refine ⟨x, ?_, hx⟩
    show s_X8_apart_4b n _ _ _ _ _ = _
    unfold s_X8_apart_4b
    rw [h0, if_pos (by rw [nle (by omega) (by omega)]; exact Nat.le_refl _)]
  | succ e ih =>
    intro s k x hs hk hx
    obtain ⟨k, rfl⟩ : ∃ k', k = k' + 1 := ⟨k - 1, by omega⟩
    obtain ⟨c1, c2⟩ := hc s (by omega)
    show ∃ y, s_X8_apart_4b n (s_X8_apart_4 n k) _ _ _ _ = _ ∧ _
    unfold s_X8_apart_4b
    rw [h0, if_neg (by rw [nle (by omega) (by omega)]; omega)]
    simp (disch := omega) only [ck_n, ix_n, c1, lt_eq]
    rw [sr_bit _ (by omega), show nI s + 1 = nI (s + 1) from nI_1 s]
    cases hb : bt x1 (nd s)
    · rw [if_pos (show (if false = true then (1 : Int32) else 0) = 0 from rfl)]
      refine ih (s + 1) k _ (by omega) (by omega) (fun i hi => ?_)
      rw [b_or, hx i hi, sl1_bt (by omega) hi]
      by_cases e2 : i = s
      · subst e2; simp [hb]
      · by_cases h3 : i < s
        · have : i < s + 1 := by omega
          simp [h3, this, e2]
        · have : ¬ i < s + 1 := by omega
          simp [h3, this, e2]
    · rw [if_neg (show ¬ (if true = true then (1 : Int32) else 0) = 0 by decide)]
      refine ih (s + 1) k x (by omega) (by omega) (fun i hi => ?_)
      rw [hx i hi]
      by_cases e2 : i = s
      · subst e2; simp [hb]
      · by_cases h3 : i < s
        · have : i < s + 1 := by omega
          simp [h3, this]
        · have : ¬ i < s + 1 := by omega
          simp [h3, this]
/-- the class: the streets that are cut off -/
theorem capart_ok {n np ns : Nat} {ea eb nd : Nat → Nat} {cl : Nat → Bool} {x1 m : Int32} {σ : Sg} (hn : 100 ≤ n) (hnp : np ≤ 20) (hns : ns ≤ 10) (he : ∀ p, p < np → ea p < 10 ∧ eb p < 10) (hx : ∀ p, p < np → bt x1 p = cl p) (hc : if m = 0 then cE np ea eb 4 5 σ else cE np ea eb 8 9 σ) (h0 : σ 11 0 = nI ns) (hs : ∀ s, s < ns → σ 12 s = nI (nd s) ∧ nd s < 10) : ∃ y z τ, s_X4_joined n x1 m σ = some (y, τ) ∧ s_X8_apart n y τ = some (z, τ) ∧ ∀ i, i < 32 → bt z i = (decide (i < ns) && !jlv np ea eb cl 10 (nd i)) := by
  obtain ⟨τ, t1, t2⟩ := measure_ok (n := n) (cl := cl) hn hnp he hx hc
  have fr : ∀ o j, o ≠ 10 → τ o j = σ o j := fun o j ho => fr_s_X4_measure (by simp [fok, Ne.symm ho]) _ _ _ t1
  obtain ⟨y, y1, y2⟩ := joined_loop (n := n) t2 10 0 n 0 (by omega) (by omega) (fun i hi => by rw [b_0]; simp)
  obtain ⟨z, z1, z2⟩ := apart_loop (n := n) (x1 := y) (σ := τ) hns (by rw [fr 11 0 (by decide)]; exact h0) (fun s h => by rw [fr 12 s (by decide)]; exact hs s h) ns 0 n 0 (by omega) (by omega) (fun i hi => by rw [b_0]; simp)
  refine ⟨y, z, τ, ?_, z1, fun i hi => ?_⟩
  · unfold s_X4_joined
    rw [t1, bdv_some]
    exact y1
  · rw [z2 i hi]
    by_cases h : i < ns
    · have hnd := (hs i h).2
      rw [y2 (nd i) (by omega)]
      have hj := dst_jlv he (cl := cl) (nd i)
      by_cases q : dst np ea eb cl (nd i) = -1
      · rw [hj.mp q]; simp [h, hnd, q]
      · have : jlv np ea eb cl 10 (nd i) = true := by
          cases hh : jlv np ea eb cl 10 (nd i)
          · exact absurd (hj.mpr hh) q
          · rfl
        rw [this]; simp [h, hnd, q]
    · simp [h]
/-! the reference -/
def mE (np : Nat) (ea eb : Nat → Nat) (ca cb : Nat) (σ : Sg) : Prop := σ 71 2 = nI np ∧ ∀ p, p < np → σ ca p = nI (ea p) ∧ σ cb p = nI (eb p)
def mJ (J : Nat → Bool) (σ : Sg) : Prop := ∀ v, v < 10 → σ 114 v = zo (J v)
theorem cut_inner {n np ca cb : Nat} {ea eb : Nat → Nat} {cl : Nat → Bool} {J : Nat → Bool} {x1 m x3 : Int32} {rc : Int32 → Int32 → Int32 → Sg → Option (Int32 × Sg)} (hnp : np ≤ 20) (he : ∀ p, p < np → ea p < 10 ∧ eb p < 10) (hca : ca = if m = 0 then 73 else 75) (hcb : cb = if m = 0 then 74 else 76) (hx : ∀ p, p < np → bt x1 p = cl p) : ∀ (e p k : Nat) (σ : Sg), p + e = np → e < k → mE np ea eb ca cb σ → mJ (jrd ea eb cl J p) σ → ∃ τ, s_X12_cutOff_40 n rc k x1 m x3 (nI p) σ = rc x1 m (x3 + 1) τ ∧ mJ (jrd ea eb cl J np) τ ∧ ∀ o j, o ≠ 114 → τ o j = σ o j := by
  have hca4 : ca ≠ 114 := by rw [hca]; split <;> decide
  have hcb4 : cb ≠ 114 := by rw [hcb]; split <;> decide
  intro e
  induction e with
  | zero =>
    intro p k σ hp hk hc hJ
    obtain ⟨k, rfl⟩ : ∃ k', k = k' + 1 := ⟨k - 1, by omega⟩
    have hp : p = np := by omega
    subst hp
    refine ⟨σ, ?_, hJ, fun _ _ _ => rfl⟩
    show s_X12_cutOff_40b n rc _ _ _ _ _ _ = _
    unfold s_X12_cutOff_40b
    rw [hc.1, if_pos (by rw [nle (by omega) (by omega)]; exact Nat.le_refl _)]
  | succ e ih =>
    intro p k σ hp hk hc hJ
    obtain ⟨k, rfl⟩ : ∃ k', k = k' + 1 := ⟨k - 1, by omega⟩
    have hpl : p < np := by omega
    obtain ⟨c1, c2⟩ := hc.2 p hpl
    obtain ⟨a1, a2⟩ := he p hpl
    have hrs : jrd ea eb cl J (p + 1) = jst ea eb cl p (jrd ea eb cl J p) := rfl
    have j1 := hJ _ a1
    have j2 := hJ _ a2
    have core : s_X12_cutOff_40 n rc (k + 1) x1 m x3 (nI p) σ = s_X12_cutOff_93 n rc (s_X12_cutOff_40 n rc k) x1 m x3 (nI p) (nI (ea p)) (nI (eb p)) σ := by
      show s_X12_cutOff_40b n rc (s_X12_cutOff_40 n rc k) _ _ _ _ _ = _
      unfold s_X12_cutOff_40b s_X12_cutOff_70
      rw [hc.1, if_neg (by rw [nle (by omega) (by omega)]; omega)]
      simp (disch := omega) only [ck_n, ix_n]
      by_cases hm : m = 0
      · rw [if_pos hm] at hca hcb
        rw [if_pos hm, if_pos hm, ← hca, ← hcb, c1, c2]
      · rw [if_neg hm] at hca hcb
        rw [if_neg hm, if_neg hm, ← hca, ← hcb, c1, c2]
    rw [core]
    unfold s_X12_cutOff_93
    rw [sr_bit _ (by omega), hx p hpl, show nI p + 1 = nI (p + 1) from nI_1 p]
    have skip : jrd ea eb cl J (p + 1) = jrd ea eb cl J p → ∃ τ, s_X12_cutOff_40 n rc k x1 m x3 (nI (p + 1)) σ = rc x1 m (x3 + 1) τ ∧ mJ (jrd ea eb cl J np) τ ∧ ∀ o j, o ≠ 114 → τ o j = σ o j := fun q => ih (p + 1) k σ (by omega) (by omega) hc (by rw [q]; exact hJ)
    by_cases hcl : cl p = true
    · rw [if_pos hcl, if_neg (by decide)]
      exact skip (by rw [hrs]; unfold jst; rw [if_pos hcl])
    · rw [if_neg hcl, if_pos rfl]
      simp (disch := omega) only [ck_n, ix_n, j1, j2]
      have set : jrd ea eb cl J p (ea p) = true ∨ jrd ea eb cl J p (eb p) = true → ∃ τ, s_X12_cutOff_124 n rc (s_X12_cutOff_40 n rc k) x1 m x3 (nI p) (nI (ea p)) (nI (eb p)) σ = rc x1 m (x3 + 1) τ ∧ mJ (jrd ea eb cl J np) τ ∧ ∀ o j, o ≠ 114 → τ o j = σ o j := by
        intro hor
        unfold s_X12_cutOff_124
        simp (disch := omega) only [ck_n, ix_n, lt_eq]
        rw [show vp_nar .boolean 1 = 1 from by decide, show nI p + 1 = nI (p + 1) from nI_1 p]
        obtain ⟨τ, w1, w2, w3⟩ := ih (p + 1) k (up2 (up2 σ 114 (ea p) 1) 114 (eb p) 1) (by omega) (by omega) ⟨by rw [up2_o (by decide), up2_o (by decide)]; exact hc.1, fun q hq => by rw [up2_o hca4, up2_o hca4, up2_o hcb4, up2_o hcb4]; exact hc.2 q hq⟩ (fun v hv => by
          rw [hrs]
          unfold jst
          rw [if_neg hcl, if_pos hor]
          by_cases q1 : v = eb p
          · subst q1; simp [up2_app, zo]
          · by_cases q2 : v = ea p
            · subst q2; simp [up2_app, zo]
            · have := hJ v hv
              simp [up2_app, q1, q2, this])
        exact ⟨τ, w1, w2, fun o j ho => by rw [w3 o j ho, up2_o ho, up2_o ho]⟩
      cases h1 : jrd ea eb cl J p (ea p)
      · rw [if_pos (show zo false = 0 from rfl)]
        cases h2 : jrd ea eb cl J p (eb p)
        · rw [if_pos (show zo false = 0 from rfl)]
          exact skip (by
            rw [hrs]
            unfold jst
            rw [if_neg hcl, if_neg (fun z => z.elim (fun q => by rw [h1] at q; exact absurd q (by decide)) (fun q => by rw [h2] at q; exact absurd q (by decide)))])
        · rw [if_neg (show ¬ zo true = 0 by decide)]
          exact set (Or.inr h2)
      · rw [if_neg (show ¬ zo true = 0 by decide)]
        exact set (Or.inl h1)
