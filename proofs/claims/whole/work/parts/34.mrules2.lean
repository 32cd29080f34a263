/-! ===== the reference's row, and what holds ===== -/
theorem mr_ins {n nr k0 : Nat} {Rs : Nat → Rl} {cn : Nat → Nat} {cl : Nat → Nat → Cl} {l : List Nat} {rc : Int32 → Int32 → Sg → Option Sg} (hk0 : k0 < nr) (hw : l.length < 8) (hl : ∀ t ∈ l, t < nr) : ∀ (k f : Nat) (σ : Sg), k ≤ l.length → k < f → mR Rs nr cn cl σ → arH l k (σ 100) → (∀ j t, j < l.length - k → l[j]? = some t → ¬ rDay (Rs t) ≤ rDay (Rs k0)) → ∃ τ, s_X12_findRules_135 n rc f (nI l.length) (nI k0) (nI k) σ = rc (nI (l.length + 1)) (nI (k0 + 1)) τ ∧ ar (insR Rs k0 l) (τ 100) ∧ ∀ o j, o ≠ 100 → τ o j = σ o j := by
  have put : ∀ (k : Nat) (σ : Sg), k ≤ l.length → k < 8 → arH l k (σ 100) → (∀ j t, j < l.length - k → l[j]? = some t → ¬ rDay (Rs t) ≤ rDay (Rs k0)) → (∀ t, l[l.length - k]? = some t → rDay (Rs t) ≤ rDay (Rs k0)) → ∃ τ, s_X12_findRules_185 n rc (nI l.length) (nI k0) (nI k) σ = rc (nI (l.length + 1)) (nI (k0 + 1)) τ ∧ ar (insR Rs k0 l) (τ 100) ∧ ∀ o j, o ≠ 100 → τ o j = σ o j := by
    intro k σ hk hk8 hA h1 h2
    unfold s_X12_findRules_185
    simp (disch := omega) only [ck_n, ix_n, lt_eq]
    rw [show nI l.length + 1 = nI (l.length + 1) from nI_1 _, show nI k0 + 1 = nI (k0 + 1) from nI_1 _]
    refine ⟨_, rfl, ?_, fun o j ho => up2_o ho⟩
    rw [insR_split (l.length - k) l (by omega) h1 h2, up2_at]
    exact arH_put hk hA
  intro k
  induction k with
  | zero =>
    intro f σ hk hf hR hA h1
    obtain ⟨f, rfl⟩ : ∃ f', f = f' + 1 := ⟨f - 1, by omega⟩
    show ∃ τ, s_X12_findRules_135b n rc _ _ _ _ _ = _ ∧ _
    unfold s_X12_findRules_135b
    rw [if_pos (show nI 0 ≤ 0 from Int32.le_refl _)]
    exact put 0 σ hk (by omega) hA h1 (fun t ht => by rw [List.getElem?_eq_none (by omega)] at ht; cases ht)
  | succ k ih =>
    intro f σ hk hf hR hA h1
    obtain ⟨f, rfl⟩ : ∃ f', f = f' + 1 := ⟨f - 1, by omega⟩
    have h8 := hR.1
    obtain ⟨t, t1, t2⟩ := hA k (by omega) (by omega)
    rw [if_pos (by omega)] at t1
    have ht : t < nr := hl t (List.mem_of_getElem? t1)
    obtain ⟨a1, a2, _⟩ := hR.2.2 t ht
    obtain ⟨b1, b2, _⟩ := hR.2.2 k0 hk0
    show ∃ τ, s_X12_findRules_135b n rc (s_X12_findRules_135 n rc f) _ _ _ _ = _ ∧ _
    unfold s_X12_findRules_135b
    rw [if_neg (by rw [show (0 : Int32) = nI 0 from rfl, nle (by omega) (by omega)]; omega), show nI (k + 1) - 1 = nI k from nI_pred k]
    simp (disch := omega) only [ck_n, ix_n, t2, a2, b2, nle]
    by_cases hd : rDay (Rs t) ≤ rDay (Rs k0)
    · rw [if_pos hd]
      refine put (k + 1) σ hk (by omega) hA h1 (fun u hu => ?_)
      rw [show l.length - (k + 1) = l.length - 1 - k by omega, t1] at hu
      rw [← Option.some.inj hu]
      exact hd
    · rw [if_neg hd]
      simp (disch := omega) only [ck_n, ix_n, lt_eq]
      rw [show nI (k + 1) + -1 = nI k from pk_m1 k]
      obtain ⟨τ, w1, w2, w3⟩ := ih f (up2 σ 100 (k + 1) (nI t)) (by omega) (by omega) (mR_of hR (by rw [up2_o (by decide)]) (fun o j p1 p2 => up2_o (by omega))) (by
        rw [up2_at, ← t2]
        exact arH_shift hk hA) (fun j u hj hu => by
        by_cases e : j = l.length - 1 - k
        · rw [e, t1] at hu
          rw [← Option.some.inj hu]
          exact hd
        · exact h1 j u (by omega) hu)
      exact ⟨τ, w1, w2, fun o j ho => by rw [w3 o j ho, up2_o ho]⟩
def mHd (h : Hd) (σ : Sg) : Prop := σ 71 43 = h.1 ∧ σ 71 44 = h.2.1 ∧ σ 71 45 = h.2.2.1 ∧ σ 71 46 = h.2.2.2.1 ∧ σ 71 42 = h.2.2.2.2.1 ∧ σ 71 41 = h.2.2.2.2.2
theorem mr_cl {n nr v i0 : Nat} {Rs : Nat → Rl} {cn : Nat → Nat} {cl : Nat → Nat → Cl} {rc : Int32 → Int32 → Sg → Option Sg} {x2 : Int32} {h : Hd} (hv : v < nr) (hi0 : i0 < 8) : ∀ (e i k : Nat) (σ : Sg), i + e = cn v → e < k → mR Rs nr cn cl σ → σ 100 i0 = nI v → mHd (clF (cl v) i h) σ → ∃ τ, s_X12_findRules_252 n rc k x2 (nI i0) (nI (8 * v + i)) σ = rc x2 (nI (i0 + 1)) τ ∧ mHd (foll h (Rs v)) τ ∧ ∀ o j, (o = 71 → j < 41 ∨ 46 < j) → τ o j = σ o j := by
  intro e
  induction e with
  | zero =>
    intro i k σ hi hk hR h100 hh
    obtain ⟨k, rfl⟩ : ∃ k', k = k' + 1 := ⟨k - 1, by omega⟩
    have h8 := hR.1
    obtain ⟨_, _, a3, ⟨c1, _, c3, _, _⟩, _⟩ := hR.2.2 v hv
    have hi : i = cn v := by omega
    subst hi
    refine ⟨σ, ?_, by rw [← c3 h]; exact hh, fun _ _ _ => rfl⟩
    show s_X12_findRules_252b n rc _ _ _ _ _ = _
    unfold s_X12_findRules_252b
    rw [show (8 : Int32) = nI 8 from rfl]
    simp (disch := omega) only [ck_n, ix_n, h100, a3, nmul, nadd, nle]
    rw [if_pos (Nat.le_refl _), show nI i0 + 1 = nI (i0 + 1) from nI_1 _]
  | succ e ih =>
    intro i k σ hi hk hR h100 hh
    obtain ⟨k, rfl⟩ : ∃ k', k = k' + 1 := ⟨k - 1, by omega⟩
    have h8 := hR.1
    obtain ⟨_, _, a3, ⟨c1, c2, _, _, _⟩, a5⟩ := hR.2.2 v hv
    have hil : i < cn v := by omega
    obtain ⟨b1, b2, b3⟩ := a5 i hil
    have hk4 := c2 i hil
    have nx : ∀ (ρ : Sg), (∀ o j, (o = 71 → j < 41 ∨ 46 < j) → ρ o j = σ o j) → mHd (clF (cl v) (i + 1) h) ρ → ∃ τ, s_X12_findRules_252 n rc k x2 (nI i0) (nI (8 * v + i) + 1) ρ = rc x2 (nI (i0 + 1)) τ ∧ mHd (foll h (Rs v)) τ ∧ ∀ o j, (o = 71 → j < 41 ∨ 46 < j) → τ o j = σ o j := by
      intro ρ hf hρ
      rw [show nI (8 * v + i) + 1 = nI (8 * v + (i + 1)) from nI_1 _]
      obtain ⟨τ, w1, w2, w3⟩ := ih (i + 1) k ρ (by omega) (by omega) (mR_of hR (hf 71 26 (fun _ => Or.inl (by decide))) (fun o j p1 p2 => hf o j (fun z => by omega))) (by rw [hf 100 i0 (fun z => absurd z (by decide))]; exact h100) hρ
      exact ⟨τ, w1, w2, fun o j ho => (w3 o j ho).trans (hf o j ho)⟩
    have hs : clF (cl v) (i + 1) h = clA (cl v i) (clF (cl v) i h) := rfl
    obtain ⟨m1, m2, m3, m4, m5, m6⟩ := hh
    show ∃ τ, s_X12_findRules_252b n rc (s_X12_findRules_252 n rc k) _ _ _ _ = _ ∧ _
    unfold s_X12_findRules_252b
    rw [show (8 : Int32) = nI 8 from rfl]
    simp (disch := omega) only [ck_n, ix_n, h100, a3, nmul, nadd, nle, b1, b2, b3, lt_eq]
    rw [if_neg (by omega)]
    have k0 : (nI (cl v i).1 = (0 : Int32)) = ((cl v i).1 = 0) := neq (b := 0) (by omega) (by omega)
    have k1 : (nI (cl v i).1 = (1 : Int32)) = ((cl v i).1 = 1) := neq (b := 1) (by omega) (by omega)
    have k2 : (nI (cl v i).1 = (2 : Int32)) = ((cl v i).1 = 2) := neq (b := 2) (by omega) (by omega)
    have k3 : (nI (cl v i).1 = (3 : Int32)) = ((cl v i).1 = 3) := neq (b := 3) (by omega) (by omega)
    simp only [k0, k1, k2, k3]
    by_cases h0 : (cl v i).1 = 0
    · rw [if_pos h0]
      have e97 : up2 σ 71 41 (cl v i).2.1 97 (8 * v + i) = (cl v i).2.2 := by rw [up2_o (by decide)]; exact b3
      rw [e97]
      refine nx _ (fun o j ho => ?_) ?_
      · by_cases e2 : o = 71
        · subst e2
          have := ho rfl
          have q1 : ¬ j = 41 := by omega
          have q2 : ¬ j = 42 := by omega
          simp [up2_app, q1, q2]
        · rw [up2_o e2, up2_o e2]
      · rw [hs]
        unfold clA mHd
        rw [if_pos h0]
        simp [up2_app, m1, m2, m3, m4]
    · rw [if_neg h0]
      by_cases h1 : (cl v i).1 = 1
      · rw [if_pos h1]
        have e97 : up2 σ 71 43 (cl v i).2.1 97 (8 * v + i) = (cl v i).2.2 := by rw [up2_o (by decide)]; exact b3
        rw [e97]
        refine nx _ (fun o j ho => ?_) ?_
        · by_cases e2 : o = 71
          · subst e2
            have := ho rfl
            have q1 : ¬ j = 43 := by omega
            have q2 : ¬ j = 44 := by omega
            simp [up2_app, q1, q2]
          · rw [up2_o e2, up2_o e2]
        · rw [hs]
          unfold clA mHd
          rw [if_neg h0, if_pos h1]
          simp [up2_app, m3, m4, m5, m6]
      · rw [if_neg h1]
        by_cases h2 : (cl v i).1 = 2
        · rw [if_pos h2]
          refine nx _ (fun o j ho => ?_) ?_
          · by_cases e2 : o = 71
            · subst e2
              have := ho rfl
              have q1 : ¬ j = 45 := by omega
              simp [up2_app, q1]
            · rw [up2_o e2]
          · rw [hs]
            unfold clA mHd
            rw [if_neg h0, if_neg h1, if_pos h2]
            simp [up2_app, m1, m2, m4, m5, m6]
        · rw [if_neg h2]
          by_cases h3 : (cl v i).1 = 3
          · rw [if_pos h3]
            refine nx _ (fun o j ho => ?_) ?_
            · by_cases e2 : o = 71
              · subst e2
                have := ho rfl
                have q1 : ¬ j = 46 := by omega
                simp [up2_app, q1]
              · rw [up2_o e2]
            · rw [hs]
              unfold clA mHd
              rw [if_neg h0, if_neg h1, if_neg h2, if_pos h3]
              simp [up2_app, m1, m2, m3, m5, m6]
          · rw [if_neg h3]
            refine nx σ (fun _ _ _ => rfl) ?_
            rw [hs]
            unfold clA
            rw [if_neg h0, if_neg h1, if_neg h2, if_neg h3]
            exact ⟨m1, m2, m3, m4, m5, m6⟩
def lpart (Rs : Nat → Rl) (l : List Nat) (i : Nat) : Hd := (l.drop (l.length - i)).foldr (fun r h => foll h (Rs r)) hd0
theorem mr_apply {n nr : Nat} {Rs : Nat → Rl} {cn : Nat → Nat} {cl : Nat → Nat → Cl} {l : List Nat} (hn : 20 ≤ n) (hw : l.length ≤ 8) (hl : ∀ t ∈ l, t < nr) : ∀ (e i k : Nat) (σ : Sg), i + e = l.length → e < k → mR Rs nr cn cl σ → ar l (σ 100) → mHd (lpart Rs l i) σ → ∃ τ, s_X12_findRules_236 n k (nI l.length) (nI i) σ = some τ ∧ mHd (l.foldr (fun r h => foll h (Rs r)) hd0) τ ∧ ∀ o j, (o = 71 → j < 41 ∨ 46 < j) → τ o j = σ o j := by
  intro e
  induction e with
  | zero =>
    intro i k σ hi hk hR hA hh
    obtain ⟨k, rfl⟩ : ∃ k', k = k' + 1 := ⟨k - 1, by omega⟩
    have hi : i = l.length := by omega
    subst hi
    refine ⟨σ, ?_, ?_, fun _ _ _ => rfl⟩
    · show s_X12_findRules_236b n _ _ _ _ = _
      unfold s_X12_findRules_236b
      rw [if_pos (by rw [nle (by omega) (by omega)]; exact Nat.le_refl _)]
    · unfold lpart at hh
      rw [Nat.sub_self, List.drop_zero] at hh
      exact hh
  | succ e ih =>
    intro i k σ hi hk hR hA hh
    obtain ⟨k, rfl⟩ : ∃ k', k = k' + 1 := ⟨k - 1, by omega⟩
    obtain ⟨v, v1, v2⟩ := hA i (by omega)
    have hv : v < nr := hl v (List.mem_of_getElem? v1)
    have h8 := hR.1
    obtain ⟨_, _, _, ⟨c1, _, _, _, _⟩, _⟩ := hR.2.2 v hv
    have hp : lpart Rs l (i + 1) = foll (lpart Rs l i) (Rs v) := by
      unfold lpart
      rw [show l.length - (i + 1) = l.length - 1 - i by omega, drop_at v1, show l.length - 1 - i + 1 = l.length - i by omega]
      rfl
    show ∃ τ, s_X12_findRules_236b n (s_X12_findRules_236 n k) _ _ _ = _ ∧ _
    unfold s_X12_findRules_236b
    rw [if_neg (by rw [nle (by omega) (by omega)]; omega)]
    simp (disch := omega) only [ck_n, ix_n, lt_eq, v2]
    rw [show (8 : Int32) = nI 8 from rfl, nmul]
    obtain ⟨τ1, t1, t2, t3⟩ := mr_cl (n := n) (rc := s_X12_findRules_236 n k) (x2 := nI l.length) (h := lpart Rs l i) hv (show i < 8 by omega) (cn v) 0 n σ (by omega) (by omega) hR v2 hh
    have t1' : s_X12_findRules_252 n (s_X12_findRules_236 n k) n (nI l.length) (nI i) (nI (8 * v)) σ = s_X12_findRules_236 n k (nI l.length) (nI (i + 1)) τ1 := t1
    rw [t1']
    obtain ⟨τ, w1, w2, w3⟩ := ih (i + 1) k τ1 (by omega) (by omega) (mR_of hR (t3 71 26 (fun _ => Or.inl (by decide))) (fun o j p1 p2 => t3 o j (fun z => by omega))) (fun q hq => by
      obtain ⟨u, u1, u2⟩ := hA q hq
      exact ⟨u, u1, by rw [t3 100 q (fun z => absurd z (by decide))]; exact u2⟩) (by rw [hp]; exact t2)
    exact ⟨τ, w1, w2, fun o j ho => (w3 o j ho).trans (t3 o j ho)⟩
theorem mr_rows {n nr : Nat} {Rs : Nat → Rl} {cn : Nat → Nat} {cl : Nat → Nat → Cl} {on : Nat → Bool} (hn : 20 ≤ n) : ∀ (e k0 k : Nat) (σ : Sg), k0 + e = nr → e < k → mR Rs nr cn cl σ → mOn nr on σ → ar ((rowR Rs k0).filter on) (σ 100) → ∃ τ, s_X12_findRules_115 n k (nI ((rowR Rs k0).filter on).length) (nI k0) σ = some τ ∧ mHd (((rowR Rs nr).filter on).foldr (fun r h => foll h (Rs r)) hd0) τ := by
  intro e
  induction e with
  | zero =>
    intro k0 k σ hi hk hR ho hA
    obtain ⟨k, rfl⟩ : ∃ k', k = k' + 1 := ⟨k - 1, by omega⟩
    have h8 := hR.1
    have hi : k0 = nr := by omega
    subst hi
    have hlen : ((rowR Rs k0).filter on).length ≤ k0 := by
      have := List.length_filter_le on (rowR Rs k0)
      rw [rowR_len] at this
      exact this
    show ∃ τ, s_X12_findRules_115b n _ _ _ _ = _ ∧ _
    unfold s_X12_findRules_115b
    rw [hR.2.1, if_pos (by rw [nle (by omega) (by omega)]; exact Nat.le_refl _)]
    simp only [lt_eq]
    obtain ⟨τ, w1, w2, _⟩ := mr_apply (n := n) (Rs := Rs) (cn := cn) (cl := cl) (nr := k0) (l := (rowR Rs k0).filter on) hn (by omega) (fun t ht => rowR_lt (List.mem_filter.mp ht).1) ((rowR Rs k0).filter on).length 0 n (up2 (up2 (up2 (up2 (up2 (up2 σ 71 41 4) 71 42 2) 71 43 6) 71 44 8) 71 45 2) 71 46 1) (by omega) (by omega) (mR_of hR (by simp [up2_app]) (fun o j p1 p2 => by rw [up2_o (by omega), up2_o (by omega), up2_o (by omega), up2_o (by omega), up2_o (by omega), up2_o (by omega)])) (fun q hq => by
      obtain ⟨u, u1, u2⟩ := hA q hq
      exact ⟨u, u1, by rw [up2_o (by decide), up2_o (by decide), up2_o (by decide), up2_o (by decide), up2_o (by decide), up2_o (by decide)]; exact u2⟩) (by
      have : lpart Rs ((rowR Rs k0).filter on) 0 = hd0 := by
        unfold lpart
        rw [Nat.sub_zero, List.drop_eq_nil_of_le (Nat.le_refl _)]
        rfl
      rw [this]
      unfold mHd hd0
      simp [up2_app])
    exact ⟨τ, w1, w2⟩
  | succ e ih =>
    intro k0 k σ hi hk hR ho hA
    obtain ⟨k, rfl⟩ : ∃ k', k = k' + 1 := ⟨k - 1, by omega⟩
    have h8 := hR.1
    have hil : k0 < nr := by omega
    have hlen : ((rowR Rs k0).filter on).length ≤ k0 := by
      have := List.length_filter_le on (rowR Rs k0)
      rw [rowR_len] at this
      exact this
    have hnext : (rowR Rs (k0 + 1)).filter on = if on k0 = true then insR Rs k0 ((rowR Rs k0).filter on) else (rowR Rs k0).filter on := filter_insR (rowR_srtd Rs k0)
    show ∃ τ, s_X12_findRules_115b n (s_X12_findRules_115 n k) _ _ _ = _ ∧ _
    unfold s_X12_findRules_115b
    rw [hR.2.1, if_neg (by rw [nle (by omega) (by omega)]; omega)]
    simp (disch := omega) only [ck_n, ix_n, ho k0 hil]
    cases hon : on k0
    · rw [if_pos (show zo false = 0 from rfl), show nI k0 + 1 = nI (k0 + 1) from nI_1 _]
      rw [hon, if_neg (by decide)] at hnext
      rw [← hnext]
      exact ih (k0 + 1) k σ (by omega) (by omega) hR ho (by rw [hnext]; exact hA)
    · rw [if_neg (show ¬ zo true = 0 by decide)]
      rw [hon, if_pos rfl] at hnext
      obtain ⟨τ1, t1, t2, t3⟩ := mr_ins (n := n) (Rs := Rs) (cn := cn) (cl := cl) (rc := s_X12_findRules_115 n k) hil (by omega) (fun t ht => by have := rowR_lt (List.mem_filter.mp ht).1; omega) ((rowR Rs k0).filter on).length n σ (Nat.le_refl _) (by omega) hR (arH_0 hA) (fun j t hj _ => by omega)
      rw [t1]
      have hl2 : ((rowR Rs k0).filter on).length + 1 = ((rowR Rs (k0 + 1)).filter on).length := by rw [hnext, insR_len]
      rw [hl2]
      exact ih (k0 + 1) k τ1 (by omega) (by omega) (mR_of hR (t3 71 26 (by decide)) (fun o j p1 p2 => t3 o j (by omega))) (fun i hi2 => by rw [t3 99 i (by decide)]; exact ho i hi2) (by rw [hnext]; exact t2)
/-- the reference: what holds on a day -/
theorem findRules_ok {n nr d : Nat} {Rs : Nat → Rl} {cn : Nat → Nat} {cl : Nat → Nat → Cl} {σ : Sg} (hn : 20 ≤ n) (hd : d < 200) (hR : mR Rs nr cn cl σ) : ∃ τ, s_X12_findRules n (nI d) σ = some τ ∧ mHd (holds Rs nr d) τ := by
  have h8 := hR.1
  have hs : ∀ r, r < nr → ∀ i, rStr (Rs r) i = true → i < r := by
    intro r hr i hi
    obtain ⟨_, _, _, ⟨c1, _, _, c4, c5⟩, _⟩ := hR.2.2 r hr
    exact (c5 i hi).1
  obtain ⟨τ1, t1, t2, t3⟩ := mr_init (n := n) hd nr 0 n σ (by omega) (by omega) hR (fun i hi => by omega)
  have t1' : s_X12_findRules n (nI d) σ = s_X12_findRules_44 n n (nI nr - 1) τ1 := t1
  have hR1 := mR_of hR (t3 71 26 (by decide)) (fun o j p1 p2 => t3 o j (by omega))
  obtain ⟨τ2, u1, u2, u3⟩ := mr_down (n := n) (d := d) hn nr 0 n τ1 (by omega) (by omega) hR1 (fun i hi => by
    rw [t2 i hi]
    simp [strk])
  have hR2 := mR_of hR1 (u3 71 26 (by decide)) (fun o j p1 p2 => u3 o j (by omega))
  have hon : mOn nr (onR Rs nr d) τ2 := fun i hi => by
    rw [u2 i hi]
    dsimp only
    rw [strk_end hs hi]
    rfl
  obtain ⟨τ3, w1, w2⟩ := mr_rows (n := n) hn nr 0 n τ2 (by omega) (by omega) hR2 hon (fun i hi => by simp [rowR] at hi)
  have w1' : s_X12_findRules_115 n n 0 0 τ2 = some τ3 := w1
  refine ⟨τ3, by rw [t1', u1, w1'], ?_⟩
  rw [List.foldr_filter] at w2
  exact w2
