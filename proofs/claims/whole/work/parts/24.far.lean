/-! ===== the class measures ===== -/
/-- the pipes' ends by cells ca, cb; what is closed is a mask -/
def cE (np : Nat) (ea eb : Nat → Nat) (ca cb : Nat) (σ : Sg) : Prop := σ 3 0 = nI np ∧ ∀ p, p < np → σ ca p = nI (ea p) ∧ σ cb p = nI (eb p)
def cF (f : Nat → Int32) (σ : Sg) : Prop := ∀ v, v < 10 → σ 10 v = f v
theorem stepOver_ok {n a b r : Nat} {f : Nat → Int32} {σ : Sg} (ha : a < 10) (hb : b < 10) (hF : cF f σ) : ∃ τ, s_X4_stepOver n (nI a) (nI b) (nI r) σ = some (if f a = nI r ∧ f b = -1 then 1 else 0, τ) ∧ cF (if f a = nI r ∧ f b = -1 then fun v => if v = b then nI (r + 1) else f v else f) τ := by
  unfold s_X4_stepOver
  simp (disch := omega) only [ck_n, ix_n, hF a ha, hF b hb, lt_eq]
  by_cases h1 : f a = nI r
  · rw [if_pos h1]
    by_cases h2 : f b = -1
    · rw [if_pos h2, if_pos ⟨h1, h2⟩, if_pos ⟨h1, h2⟩]
      refine ⟨_, rfl, fun v hv => ?_⟩
      rw [show nI r + 1 = nI (r + 1) from nI_1 r]
      by_cases h3 : v = b
      · subst h3; simp [up2_app]
      · simp [up2_app, h3, hF v hv]
    · rw [if_neg h2, if_neg (fun z => h2 z.2), if_neg (fun z => h2 z.2)]
      exact ⟨σ, rfl, hF⟩
  · rw [if_neg h1, if_neg (fun z => h1 z.1), if_neg (fun z => h1 z.1)]
    exact ⟨σ, rfl, hF⟩
theorem msr_inner {n np r ca cb : Nat} {ea eb : Nat → Nat} {cl : Nat → Bool} {f : Nat → Int32} {x1 : Int32} {rc : Int32 → Nat → Nat → Int32 → Int32 → Sg → Option Sg} (hnp : np ≤ 20) (he : ∀ p, p < np → ea p < 10 ∧ eb p < 10) (hca : ca ≠ 10) (hcb : cb ≠ 10) (hr : r < 10) (hx : ∀ p, p < np → bt x1 p = cl p) : ∀ (e p k : Nat) (g : Int32) (σ : Sg), p + e = np → e < k → cE np ea eb ca cb σ → cF (rnd ea eb cl r f p) σ → (g = 0 ∨ g = 1) → (g = 0 → rnd ea eb cl r f p = f) →
    ∃ τ g', s_X4_measure_72 n rc k x1 ca cb g (nI r) (nI p) σ = rc x1 ca cb g' (nI (r + 1)) τ ∧ cF (rnd ea eb cl r f np) τ ∧ (g' = 0 → rnd ea eb cl r f np = f) ∧ (g' = 0 ∨ g' = 1) ∧ ∀ o j, o ≠ 10 → τ o j = σ o j := by
  intro e
  induction e with
  | zero =>
    intro p k g σ hp hk hc hF hg hg0
    obtain ⟨k, rfl⟩ : ∃ k', k = k' + 1 := ⟨k - 1, by omega⟩
    have hp : p = np := by omega
    subst hp
    refine ⟨σ, g, ?_, hF, hg0, hg, fun _ _ _ => rfl⟩
    show s_X4_measure_72b n rc _ _ _ _ _ _ _ _ = _
    unfold s_X4_measure_72b
    rw [hc.1, if_pos (by rw [nle (by omega) (by omega)]; exact Nat.le_refl _), show nI r + 1 = nI (r + 1) from nI_1 r]
  | succ e ih =>
    intro p k g σ hp hk hc hF hg hg0
    obtain ⟨k, rfl⟩ : ∃ k', k = k' + 1 := ⟨k - 1, by omega⟩
    have hpl : p < np := by omega
    obtain ⟨c1, c2⟩ := hc.2 p hpl
    obtain ⟨a1, a2⟩ := he p hpl
    show ∃ τ g', s_X4_measure_72b n rc (s_X4_measure_72 n rc k) _ _ _ _ _ _ _ = _ ∧ _
    unfold s_X4_measure_72b
    rw [hc.1, if_neg (by rw [nle (by omega) (by omega)]; omega), sr_bit _ (by omega), hx p hpl, show nI p + 1 = nI (p + 1) from nI_1 p]
    have hrs : rnd ea eb cl r f (p + 1) = stp ea eb cl r p (rnd ea eb cl r f p) := rfl
    by_cases hcl : cl p = true
    · rw [if_pos hcl, if_neg (by decide)]
      have e1 : rnd ea eb cl r f (p + 1) = rnd ea eb cl r f p := by rw [hrs]; unfold stp; rw [if_pos hcl]
      exact ih (p + 1) k g σ (by omega) (by omega) hc (by rw [e1]; exact hF) hg (by rw [e1]; exact hg0)
    · rw [if_neg hcl, if_pos rfl]
      simp (disch := omega) only [ck_n, ix_n, c1, c2]
      obtain ⟨τ1, t1, t2⟩ := stepOver_ok (n := n) (r := r) a1 a2 hF
      rw [t1, bd_some]
      have fr1 : ∀ o j, o ≠ 10 → τ1 o j = σ o j := fun o j h1 => fr_s_X4_stepOver (by simp [fok, Ne.symm h1]) _ _ _ _ t1
      have hc1 : cE np ea eb ca cb τ1 := ⟨by rw [fr1 3 0 (by decide)]; exact hc.1, fun q hq => by rw [fr1 ca q hca, fr1 cb q hcb]; exact hc.2 q hq⟩
      obtain ⟨d1, d2⟩ := hc1.2 p hpl
      by_cases h1 : rnd ea eb cl r f p (ea p) = nI r ∧ rnd ea eb cl r f p (eb p) = -1
      · rw [if_pos h1] at t2
        rw [if_pos h1, if_neg (by decide)]
        unfold s_X4_measure_128 s_X4_measure_133
        rw [lt_eq, show nI p + 1 = nI (p + 1) from nI_1 p]
        have e1 : rnd ea eb cl r f (p + 1) = fun v => if v = eb p then nI (r + 1) else rnd ea eb cl r f p v := by rw [hrs]; unfold stp; rw [if_neg hcl, if_pos h1]
        have hg1 : g ||| 1 = 1 := by rcases hg with rfl | rfl <;> decide
        rw [hg1]
        obtain ⟨τ, g', w1, w2, w3, w4, w5⟩ := ih (p + 1) k 1 τ1 (by omega) (by omega) hc1 (by rw [e1]; exact t2) (Or.inr rfl) (fun z => absurd z (by decide))
        exact ⟨τ, g', w1, w2, w3, w4, fun o j ho => (w5 o j ho).trans (fr1 o j ho)⟩
      · rw [if_neg h1] at t2
        rw [if_neg h1, if_pos rfl]
        simp (disch := omega) only [ck_n, ix_n, d1, d2]
        obtain ⟨τ2, u1, u2⟩ := stepOver_ok (n := n) (r := r) a2 a1 t2
        rw [u1, bd_some]
        have fr2 : ∀ o j, o ≠ 10 → τ2 o j = σ o j := fun o j h1 => (fr_s_X4_stepOver (by simp [fok, Ne.symm h1]) _ _ _ _ u1).trans (fr1 o j h1)
        have hc2 : cE np ea eb ca cb τ2 := ⟨by rw [fr2 3 0 (by decide)]; exact hc.1, fun q hq => by rw [fr2 ca q hca, fr2 cb q hcb]; exact hc.2 q hq⟩
        unfold s_X4_measure_133
        simp only [lt_eq]
        rw [show nI p + 1 = nI (p + 1) from nI_1 p]
        by_cases h2 : rnd ea eb cl r f p (eb p) = nI r ∧ rnd ea eb cl r f p (ea p) = -1
        · rw [if_pos h2] at u2
          rw [if_pos h2, if_neg (show ¬ (1 : Int32) = 0 by decide)]
          have e1 : rnd ea eb cl r f (p + 1) = fun v => if v = ea p then nI (r + 1) else rnd ea eb cl r f p v := by rw [hrs]; unfold stp; rw [if_neg hcl, if_neg h1, if_pos h2]
          have hg1 : g ||| 1 = 1 := by rcases hg with rfl | rfl <;> decide
          rw [hg1]
          obtain ⟨τ, g', w1, w2, w3, w4, w5⟩ := ih (p + 1) k 1 τ2 (by omega) (by omega) hc2 (by rw [e1]; exact u2) (Or.inr rfl) (fun z => absurd z (by decide))
          exact ⟨τ, g', w1, w2, w3, w4, fun o j ho => (w5 o j ho).trans (fr2 o j ho)⟩
        · rw [if_neg h2] at u2
          rw [if_neg h2, if_pos (show (0 : Int32) = 0 from rfl)]
          have e1 : rnd ea eb cl r f (p + 1) = rnd ea eb cl r f p := by rw [hrs]; unfold stp; rw [if_neg hcl, if_neg h1, if_neg h2]
          have hg1 : g ||| 0 = g := by rcases hg with rfl | rfl <;> decide
          rw [hg1]
          obtain ⟨τ, g', w1, w2, w3, w4, w5⟩ := ih (p + 1) k g τ2 (by omega) (by omega) hc2 (by rw [e1]; exact u2) hg (by rw [e1]; exact hg0)
          exact ⟨τ, g', w1, w2, w3, w4, fun o j ho => (w5 o j ho).trans (fr2 o j ho)⟩
/-- a round in which nothing grew: none grows any more -/
theorem stp_still {ea eb : Nat → Nat} {cl : Nat → Bool} {r p : Nat} {f : Nat → Int32} (h : ∀ v, f v ≠ nI r) : stp ea eb cl r p f = f := by
  unfold stp
  by_cases h1 : cl p = true
  · rw [if_pos h1]
  · rw [if_neg h1, if_neg (fun z => h _ z.1), if_neg (fun z => h _ z.1)]
theorem rnd_still {ea eb : Nat → Nat} {cl : Nat → Bool} {r : Nat} {f : Nat → Int32} (h : ∀ v, f v ≠ nI r) : ∀ p, rnd ea eb cl r f p = f
  | 0 => rfl
  | p + 1 => by
    show stp ea eb cl r p (rnd ea eb cl r f p) = f
    rw [rnd_still h p, stp_still h]
theorem lvl_still {np : Nat} {ea eb : Nat → Nat} {cl : Nat → Bool} {r : Nat} (hr : r < 1000) (h : lvl np ea eb cl (r + 1) = lvl np ea eb cl r) : ∀ d, d < 100 → lvl np ea eb cl (r + 1 + d) = lvl np ea eb cl r := by
  intro d
  induction d with
  | zero => intro _; exact h
  | succ d ih =>
    intro hd
    show rnd ea eb cl (r + 1 + d) (lvl np ea eb cl (r + 1 + d)) np = _
    rw [ih (by omega)]
    refine rnd_still (fun v hv => ?_) np
    rcases lvl_ok np ea eb cl r v with h1 | ⟨e, h1, h2⟩
    · rw [h1] at hv
      exact n_ne1 (show r + 1 + d < 2147483648 by omega) hv.symm
    · rw [h2, neq (by omega) (by omega)] at hv
      omega
theorem msr_outer {n np ca cb : Nat} {ea eb : Nat → Nat} {cl : Nat → Bool} {x1 : Int32} (hn : 100 ≤ n) (hnp : np ≤ 20) (he : ∀ p, p < np → ea p < 10 ∧ eb p < 10) (hca : ca ≠ 10) (hcb : cb ≠ 10) (hx : ∀ p, p < np → bt x1 p = cl p) : ∀ (e r k : Nat) (g : Int32) (σ : Sg), r + e = 10 → e < k → cE np ea eb ca cb σ → cF (lvl np ea eb cl r) σ → (g = 0 ∨ g = 1) → (g = 0 → lvl np ea eb cl 10 = lvl np ea eb cl r) →
    ∃ τ, s_X4_measure_54 n k x1 ca cb g (nI r) σ = some τ ∧ cF (dst np ea eb cl) τ ∧ ∀ o j, o ≠ 10 → τ o j = σ o j := by
  intro e
  induction e with
  | zero =>
    intro r k g σ hr hk hc hF hg hg0
    obtain ⟨k, rfl⟩ : ∃ k', k = k' + 1 := ⟨k - 1, by omega⟩
    have hr : r = 10 := by omega
    subst hr
    refine ⟨σ, ?_, hF, fun _ _ _ => rfl⟩
    show s_X4_measure_54b n _ _ _ _ _ _ _ = _
    unfold s_X4_measure_54b
    rw [if_pos (show (10 : Int32) ≤ nI 10 from Int32.le_refl _)]
  | succ e ih =>
    intro r k g σ hr hk hc hF hg hg0
    obtain ⟨k, rfl⟩ : ∃ k', k = k' + 1 := ⟨k - 1, by omega⟩
    show ∃ τ, s_X4_measure_54b n (s_X4_measure_54 n k) _ _ _ _ _ _ = _ ∧ _
    unfold s_X4_measure_54b
    rw [if_neg (by rw [show (10 : Int32) = nI 10 from rfl, nle (by omega) (by omega)]; omega)]
    by_cases h0 : g = 0
    · rw [if_pos h0]
      exact ⟨σ, rfl, by unfold dst; rw [hg0 h0]; exact hF, fun _ _ _ => rfl⟩
    · rw [if_neg h0]
      obtain ⟨τ, g', w1, w2, w3, w4, w5⟩ := msr_inner (n := n) (f := lvl np ea eb cl r) (rc := s_X4_measure_54 n k) hnp he hca hcb (show r < 10 by omega) hx np 0 n 0 σ (by omega) (by omega) hc hF (Or.inl rfl) (fun _ => rfl)
      have w1' : s_X4_measure_72 n (s_X4_measure_54 n k) n x1 ca cb 0 (nI r) 0 σ = s_X4_measure_54 n k x1 ca cb g' (nI (r + 1)) τ := w1
      rw [w1']
      have hc1 : cE np ea eb ca cb τ := ⟨by rw [w5 3 0 (by decide)]; exact hc.1, fun q hq => by rw [w5 ca q hca, w5 cb q hcb]; exact hc.2 q hq⟩
      have hl : lvl np ea eb cl (r + 1) = rnd ea eb cl r (lvl np ea eb cl r) np := rfl
      obtain ⟨τ2, v1, v2, v3⟩ := ih (r + 1) k g' τ (by omega) (by omega) hc1 (by rw [hl]; exact w2) w4 (fun z => by
        have h1 : lvl np ea eb cl (r + 1) = lvl np ea eb cl r := by rw [hl]; exact w3 z
        have h2 := lvl_still (by omega) h1 (10 - (r + 1)) (by omega)
        rw [show r + 1 + (10 - (r + 1)) = 10 by omega] at h2
        rw [h2, h1])
      exact ⟨τ2, v1, v2, fun o j ho => (v3 o j ho).trans (w5 o j ho)⟩
theorem measure_ok {n np : Nat} {ea eb : Nat → Nat} {cl : Nat → Bool} {x1 m : Int32} {σ : Sg} (hn : 100 ≤ n) (hnp : np ≤ 20) (he : ∀ p, p < np → ea p < 10 ∧ eb p < 10) (hx : ∀ p, p < np → bt x1 p = cl p) (hc : if m = 0 then cE np ea eb 4 5 σ else cE np ea eb 8 9 σ) : ∃ τ, s_X4_measure n x1 m σ = some τ ∧ cF (dst np ea eb cl) τ := by
  have core : ∀ (ca cb : Nat), ca ≠ 10 → cb ≠ 10 → cE np ea eb ca cb σ → ∃ τ, s_X4_measure_31 n x1 ca cb σ = some τ ∧ cF (dst np ea eb cl) τ := by
    intro ca cb hca hcb hc
    unfold s_X4_measure_31
    obtain ⟨τ1, t1, t2, t3⟩ := fill_ok (n := n) (o := 10) (m := 10) (v := -1) (σ := σ) (by omega) (by omega)
    rw [t1, bdv_some, show ck (0 : Int32) 10 = @ck Sg (nI 0) 10 from rfl, ck_n (by omega) (by omega), lt_eq]
    have fr : ∀ o j, o ≠ 10 → up2 τ1 10 (ix 0) 0 o j = σ o j := fun o j ho => by rw [up2_o ho]; exact t3 o j (Or.inl ho)
    obtain ⟨τ, w1, w2, w3⟩ := msr_outer (n := n) (cl := cl) (x1 := x1) hn hnp he hca hcb hx 10 0 n 1 (up2 τ1 10 (ix 0) 0) (by omega) (by omega) ⟨by rw [fr 3 0 (by decide)]; exact hc.1, fun q hq => by rw [fr ca q hca, fr cb q hcb]; exact hc.2 q hq⟩ (fun v hv => by
      show up2 τ1 10 0 0 10 v = if v = 0 then 0 else -1
      by_cases h : v = 0
      · subst h; simp [up2_app]
      · simp [up2_app, h, t2 v hv]) (Or.inr rfl) (fun z => absurd z (by decide))
    exact ⟨τ, w1, w2⟩
  unfold s_X4_measure s_X4_measure_15
  by_cases hm : m = 0
  · rw [if_pos hm] at hc
    rw [if_pos hm, if_pos hm]
    exact core 4 5 (by decide) (by decide) hc
  · rw [if_neg hm] at hc
    rw [if_neg hm, if_neg hm]
    exact core 8 9 (by decide) (by decide) hc
