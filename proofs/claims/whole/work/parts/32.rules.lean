/-! ===== rules, and what holds on a day ===== -/
/-- a rule: day, from, to, rate, meter, how many keys, keys (nothing said: -1, no keys), which it strikes -/
abbrev Rl : Type := Nat × Int32 × Int32 × Int32 × Int32 × Int32 × Int32 × (Nat → Bool)
/-- what holds: from, to, rate, meter, how many keys, keys -/
abbrev Hd : Type := Int32 × Int32 × Int32 × Int32 × Int32 × Int32
abbrev rDay (r : Rl) : Nat := r.1
abbrev rStr (r : Rl) : Nat → Bool := r.2.2.2.2.2.2.2
def foll (h : Hd) (r : Rl) : Hd := (if r.2.1 = -1 then h.1 else r.2.1, if r.2.1 = -1 then h.2.1 else r.2.2.1, if r.2.2.2.1 = -1 then h.2.2.1 else r.2.2.2.1, if r.2.2.2.2.1 = -1 then h.2.2.2.1 else r.2.2.2.2.1, if r.2.2.2.2.2.1 ≤ 0 then h.2.2.2.2.1 else r.2.2.2.2.2.1, if r.2.2.2.2.2.1 ≤ 0 then h.2.2.2.2.2 else r.2.2.2.2.2.2.1)
def hd0 : Hd := (6, 8, 2, 1, 2, 4)
/-- struck by those that count, of the e last ones -/
def strk (Rs : Nat → Rl) (nr d : Nat) : Nat → Nat → Bool
  | 0 => fun _ => false
  | e + 1 => fun i => strk Rs nr d e i || (decide (rDay (Rs (nr - 1 - e)) ≤ d) && (!strk Rs nr d e (nr - 1 - e) && rStr (Rs (nr - 1 - e)) i))
/-- rule r counts on day d -/
def onR (Rs : Nat → Rl) (nr d r : Nat) : Bool := decide (rDay (Rs r) ≤ d) && !strk Rs nr d (nr - 1 - r) r
/-- put k into a row (the last one first) behind all whose day is not after its own -/
def insR (Rs : Nat → Rl) (k : Nat) : List Nat → List Nat
  | [] => [k]
  | t :: rs => if rDay (Rs t) ≤ rDay (Rs k) then k :: t :: rs else t :: insR Rs k rs
def rowR (Rs : Nat → Rl) : Nat → List Nat
  | 0 => []
  | k + 1 => insR Rs k (rowR Rs k)
def holds (Rs : Nat → Rl) (nr d : Nat) : Hd := (rowR Rs nr).foldr (fun r h => if onR Rs nr d r = true then foll h (Rs r) else h) hd0
theorem insR_len (Rs : Nat → Rl) (k : Nat) : ∀ l, (insR Rs k l).length = l.length + 1
  | [] => rfl
  | t :: rs => by
    unfold insR
    by_cases h : rDay (Rs t) ≤ rDay (Rs k)
    · rw [if_pos h]; rfl
    · rw [if_neg h, List.length_cons, insR_len Rs k rs, List.length_cons]
theorem rowR_len (Rs : Nat → Rl) : ∀ k, (rowR Rs k).length = k
  | 0 => rfl
  | k + 1 => by
    show (insR Rs k (rowR Rs k)).length = _
    rw [insR_len, rowR_len Rs k]
theorem insR_mem {Rs : Nat → Rl} {k v : Nat} : ∀ {l : List Nat}, v ∈ insR Rs k l → v = k ∨ v ∈ l
  | [], h => by simp [insR] at h; exact Or.inl h
  | t :: rs, h => by
    unfold insR at h
    by_cases hd : rDay (Rs t) ≤ rDay (Rs k)
    · rw [if_pos hd] at h
      rcases List.mem_cons.mp h with h | h
      · exact Or.inl h
      · exact Or.inr h
    · rw [if_neg hd] at h
      rcases List.mem_cons.mp h with h | h
      · exact Or.inr (by rw [h]; exact List.mem_cons_self)
      · rcases insR_mem h with h | h
        · exact Or.inl h
        · exact Or.inr (List.mem_cons_of_mem _ h)
theorem rowR_lt {Rs : Nat → Rl} : ∀ {k v : Nat}, v ∈ rowR Rs k → v < k
  | 0, _, h => by simp [rowR] at h
  | k + 1, v, h => by
    rcases insR_mem (show v ∈ insR Rs k (rowR Rs k) from h) with h | h
    · omega
    · have := rowR_lt h
      omega
theorem rf28 : ∀ r, r < 8 → rf 28 r = 29 + r := by decide
/-- the class's laws are the rules; its row is theirs -/
def cR (Rs : Nat → Rl) (nr : Nat) (σ : Sg) : Prop := nr ≤ 8 ∧ σ 27 0 = nI nr ∧ (∀ r, r < nr → rDay (Rs r) < 200 ∧ σ (29 + r) 0 = nI (rDay (Rs r)) ∧ σ (29 + r) 2 = (Rs r).2.1 ∧ σ (29 + r) 3 = (Rs r).2.2.1 ∧ σ (29 + r) 4 = (Rs r).2.2.2.1 ∧ σ (29 + r) 5 = (Rs r).2.2.2.2.1 ∧ σ (29 + r) 6 = (Rs r).2.2.2.2.2.1 ∧ σ (29 + r) 7 = (Rs r).2.2.2.2.2.2.1 ∧ ∀ i, i < 8 → bt (σ (29 + r) 8) i = rStr (Rs r) i) ∧ ∀ i, i < nr → ∃ v, (rowR Rs nr)[nr - 1 - i]? = some v ∧ σ 37 i = nI v
/-- a law that holds h -/
def cHd (h : Hd) (lc : Nat) (σ : Sg) : Prop := σ lc 2 = h.1 ∧ σ lc 3 = h.2.1 ∧ σ lc 4 = h.2.2.1 ∧ σ lc 5 = h.2.2.2.1 ∧ σ lc 6 = h.2.2.2.2.1 ∧ σ lc 7 = h.2.2.2.2.2
theorem cR_of {Rs : Nat → Rl} {nr : Nat} {σ τ : Sg} (h : cR Rs nr σ) (hf : ∀ o j, (o = 27 ∨ o = 37 ∨ (29 ≤ o ∧ o ≤ 36)) → τ o j = σ o j) : cR Rs nr τ := by
  obtain ⟨h1, h2, h3, h4⟩ := h
  refine ⟨h1, by rw [hf 27 0 (Or.inl rfl)]; exact h2, fun r hr => ?_, fun i hi => ?_⟩
  · simp only [hf (29 + r) _ (Or.inr (Or.inr ⟨by omega, by omega⟩))]
    exact h3 r hr
  · obtain ⟨v, v1, v2⟩ := h4 i hi
    exact ⟨v, v1, by rw [hf 37 i (Or.inr (Or.inl rfl))]; exact v2⟩
theorem follow_ok {n lc r : Nat} {Rs : Nat → Rl} {nr : Nat} {h : Hd} {σ : Sg} (hlc : lc = 38 ∨ lc = 62) (hR : cR Rs nr σ) (hr : r < nr) (hh : cHd h lc σ) : ∃ τ, s_X2_follow n lc (rf 28 r) σ = some τ ∧ cHd (foll h (Rs r)) lc τ := by
  obtain ⟨q1, _, q3, _⟩ := hR
  obtain ⟨_, _, a2, a3, a4, a5, a6, a7, _⟩ := q3 r hr
  rw [rf28 r (by omega)]
  have hne : 29 + r ≠ lc := by omega
  obtain ⟨e2, e3, e4, e5, e6, e7⟩ := hh
  have g56 : ∀ (ρ : Sg), (∀ o j, o ≠ lc → ρ o j = σ o j) → ∃ τ, s_X2_follow_56 n lc (29 + r) ρ = some τ ∧ τ lc 2 = ρ lc 2 ∧ τ lc 3 = ρ lc 3 ∧ τ lc 4 = ρ lc 4 ∧ τ lc 5 = ρ lc 5 ∧ τ lc 6 = (if (Rs r).2.2.2.2.2.1 ≤ 0 then ρ lc 6 else (Rs r).2.2.2.2.2.1) ∧ τ lc 7 = (if (Rs r).2.2.2.2.2.1 ≤ 0 then ρ lc 7 else (Rs r).2.2.2.2.2.2.1) := by
    intro ρ hf
    unfold s_X2_follow_56
    rw [hf _ 6 hne, a6]
    by_cases hk : (Rs r).2.2.2.2.2.1 ≤ 0
    · rw [if_pos hk, if_pos hk, if_pos hk]
      exact ⟨ρ, rfl, rfl, rfl, rfl, rfl, rfl, rfl⟩
    · rw [if_neg hk, if_neg hk, if_neg hk]
      simp only [lt_eq]
      rw [up2_o hne, hf _ 7 hne, a7]
      exact ⟨_, rfl, by simp [up2_app], by simp [up2_app], by simp [up2_app], by simp [up2_app], by simp [up2_app], by simp [up2_app]⟩
  have g40 : ∀ (ρ : Sg), (∀ o j, o ≠ lc → ρ o j = σ o j) → ∃ τ, s_X2_follow_40 n lc (29 + r) ρ = some τ ∧ τ lc 2 = ρ lc 2 ∧ τ lc 3 = ρ lc 3 ∧ τ lc 4 = ρ lc 4 ∧ τ lc 5 = (if (Rs r).2.2.2.2.1 = -1 then ρ lc 5 else (Rs r).2.2.2.2.1) ∧ τ lc 6 = (if (Rs r).2.2.2.2.2.1 ≤ 0 then ρ lc 6 else (Rs r).2.2.2.2.2.1) ∧ τ lc 7 = (if (Rs r).2.2.2.2.2.1 ≤ 0 then ρ lc 7 else (Rs r).2.2.2.2.2.2.1) := by
    intro ρ hf
    unfold s_X2_follow_40
    rw [hf _ 5 hne, a5]
    by_cases hk : (Rs r).2.2.2.2.1 = -1
    · rw [if_pos hk, if_pos hk]
      exact g56 ρ hf
    · rw [if_neg hk, if_neg hk, lt_eq]
      obtain ⟨τ, t1, t2, t3, t4, t5, t6, t7⟩ := g56 (up2 ρ lc 5 (Rs r).2.2.2.2.1) (fun o j ho => by rw [up2_o ho]; exact hf o j ho)
      refine ⟨τ, t1, ?_, ?_, ?_, ?_, ?_, ?_⟩
      · rw [t2]; simp [up2_app]
      · rw [t3]; simp [up2_app]
      · rw [t4]; simp [up2_app]
      · rw [t5]; simp [up2_app]
      · rw [t6]; simp [up2_app]
      · rw [t7]; simp [up2_app]
  have g24 : ∀ (ρ : Sg), (∀ o j, o ≠ lc → ρ o j = σ o j) → ∃ τ, s_X2_follow_24 n lc (29 + r) ρ = some τ ∧ τ lc 2 = ρ lc 2 ∧ τ lc 3 = ρ lc 3 ∧ τ lc 4 = (if (Rs r).2.2.2.1 = -1 then ρ lc 4 else (Rs r).2.2.2.1) ∧ τ lc 5 = (if (Rs r).2.2.2.2.1 = -1 then ρ lc 5 else (Rs r).2.2.2.2.1) ∧ τ lc 6 = (if (Rs r).2.2.2.2.2.1 ≤ 0 then ρ lc 6 else (Rs r).2.2.2.2.2.1) ∧ τ lc 7 = (if (Rs r).2.2.2.2.2.1 ≤ 0 then ρ lc 7 else (Rs r).2.2.2.2.2.2.1) := by
    intro ρ hf
    unfold s_X2_follow_24
    rw [hf _ 4 hne, a4]
    by_cases hk : (Rs r).2.2.2.1 = -1
    · rw [if_pos hk, if_pos hk]
      exact g40 ρ hf
    · rw [if_neg hk, if_neg hk, lt_eq]
      obtain ⟨τ, t1, t2, t3, t4, t5, t6, t7⟩ := g40 (up2 ρ lc 4 (Rs r).2.2.2.1) (fun o j ho => by rw [up2_o ho]; exact hf o j ho)
      refine ⟨τ, t1, ?_, ?_, ?_, ?_, ?_, ?_⟩
      · rw [t2]; simp [up2_app]
      · rw [t3]; simp [up2_app]
      · rw [t4]; simp [up2_app]
      · rw [t5]; simp [up2_app]
      · rw [t6]; simp [up2_app]
      · rw [t7]; simp [up2_app]
  unfold s_X2_follow
  rw [a2]
  by_cases hk : (Rs r).2.1 = -1
  · rw [if_pos hk]
    obtain ⟨τ, t1, t2, t3, t4, t5, t6, t7⟩ := g24 σ (fun _ _ _ => rfl)
    refine ⟨τ, t1, ?_⟩
    unfold cHd foll
    rw [t2, t3, t4, t5, t6, t7, e2, e3, e4, e5, e6, e7, if_pos hk, if_pos hk]
    exact ⟨rfl, rfl, rfl, rfl, rfl, rfl⟩
  · rw [if_neg hk]
    simp only [lt_eq]
    rw [up2_o hne, a3]
    obtain ⟨τ, t1, t2, t3, t4, t5, t6, t7⟩ := g24 (up2 (up2 σ lc 2 (Rs r).2.1) lc 3 (Rs r).2.2.1) (fun o j ho => by rw [up2_o ho, up2_o ho])
    refine ⟨τ, t1, ?_⟩
    unfold cHd foll
    rw [t2, t3, t4, t5, t6, t7, if_neg hk, if_neg hk]
    simp [up2_app, e4, e5, e6, e7]
theorem first_ok {n lc : Nat} {σ : Sg} : ∃ τ, s_X2_sayWhatHoldsAtFirst n lc σ = some τ ∧ cHd hd0 lc τ ∧ τ lc 0 = σ lc 0 ∧ τ lc 1 = σ lc 1 := by
  unfold s_X2_sayWhatHoldsAtFirst s_X2_forgetKeys s_X2_addKey
  simp only [lt_eq, bdv_some]
  refine ⟨_, rfl, ⟨?_, ?_, ?_, ?_, ?_, ?_⟩, ?_, ?_⟩
  · simp [up2_app, hd0]
  · simp [up2_app, hd0]
  · simp [up2_app, hd0]
  · simp [up2_app, hd0]
  · simp [up2_app, hd0]
  · simp [up2_app, hd0]; decide
  · simp [up2_app]
  · simp [up2_app]
theorem counting_ok {n nr d : Nat} {Rs : Nat → Rl} {σ : Sg} (hd : d < 200) (hR : cR Rs nr σ) : ∀ (e k m : Nat) (x2 x3 : Int32), e + m = nr → m < k → (∀ i, i < 8 → bt x3 i = strk Rs nr d e i) → (∀ i, i < 8 → bt x2 i = (decide (m ≤ i ∧ i < nr) && onR Rs nr d i)) →
    ∃ y, s_X6_countingOn_12 n k (nI d) x2 x3 (nI m - 1) σ = some (y, σ) ∧ ∀ i, i < 8 → bt y i = (decide (i < nr) && onR Rs nr d i) := by
  obtain ⟨q1, q2, q3, _⟩ := hR
  intro e k m
  induction m generalizing e k with
  | zero =>
    intro x2 x3 he hk h3 h2
    obtain ⟨k, rfl⟩ : ∃ k', k = k' + 1 := ⟨k - 1, by omega⟩
    refine ⟨x2, ?_, fun i hi => ?_⟩
    · show s_X6_countingOn_12b n _ _ _ _ _ _ = _
      unfold s_X6_countingOn_12b
      rw [if_pos (by decide)]
    · rw [h2 i hi]
      simp
  | succ m ih =>
    intro x2 x3 he hk h3 h2
    obtain ⟨k, rfl⟩ : ∃ k', k = k' + 1 := ⟨k - 1, by omega⟩
    have hm : m < nr := by omega
    obtain ⟨a1, a0, _, _, _, _, _, _, a8⟩ := q3 m hm
    have hnm : nr - 1 - e = m := by omega
    have hne : nr - 1 - m = e := by omega
    have hon : onR Rs nr d m = (decide (rDay (Rs m) ≤ d) && !strk Rs nr d e m) := by unfold onR; rw [hne]
    have hst : ∀ i, strk Rs nr d (e + 1) i = (strk Rs nr d e i || (decide (rDay (Rs m) ≤ d) && (!strk Rs nr d e m && rStr (Rs m) i))) := by
      intro i
      show (strk Rs nr d e i || _) = _
      rw [hnm]
    show ∃ y, s_X6_countingOn_12b n (s_X6_countingOn_12 n k) _ _ _ _ _ = _ ∧ _
    unfold s_X6_countingOn_12b
    rw [show nI (m + 1) - 1 = nI m from nI_pred m, if_neg (n_nlt0 (by omega))]
    simp (disch := omega) only [ck_n, ix_n, rf28 m (by omega), a0, nlt, lt_eq]
    have hdec : nI m + -1 = nI m - 1 := by rw [Int32.sub_eq_add_neg]
    rw [hdec, sr_bit _ (by omega), h3 m (by omega)]
    by_cases hday : d < rDay (Rs m)
    · rw [if_pos hday]
      have hq : ¬ rDay (Rs m) ≤ d := by omega
      refine ih (e + 1) k x2 x3 (by omega) (by omega) (fun i hi => ?_) (fun i hi => ?_)
      · rw [hst i, h3 i hi]; simp [hq]
      · rw [h2 i hi]
        by_cases e2 : i = m
        · subst e2; rw [hon]; simp [hq]
        · by_cases h5 : i < nr
          · by_cases h6 : m ≤ i
            · have h7 : m + 1 ≤ i := by omega
              simp [h5, h6, h7]
            · have h7 : ¬ m + 1 ≤ i := by omega
              simp [h6, h7]
          · simp [h5]
    · rw [if_neg hday]
      have hq : rDay (Rs m) ≤ d := by omega
      cases hs : strk Rs nr d e m
      · rw [if_pos (show (if false = true then (1 : Int32) else 0) = 0 from rfl)]
        refine ih (e + 1) k _ _ (by omega) (by omega) (fun i hi => ?_) (fun i hi => ?_)
        · rw [b_or, hst i, h3 i hi, a8 i hi, hs]; simp [hq]
        · rw [b_or, sl1_bt (by omega) (by omega), h2 i hi]
          by_cases e2 : i = m
          · subst e2
            rw [hon, hs]
            have : ¬ i + 1 ≤ i := by omega
            simp [hq, hm]
          · by_cases h5 : i < nr
            · by_cases h6 : m ≤ i
              · have h7 : m + 1 ≤ i := by omega
                simp [h5, h6, h7, e2]
              · have h7 : ¬ m + 1 ≤ i := by omega
                simp [h6, h7, e2]
            · simp [h5, e2]
      · rw [if_pos rfl, if_neg (by decide)]
        refine ih (e + 1) k x2 x3 (by omega) (by omega) (fun i hi => ?_) (fun i hi => ?_)
        · rw [hst i, h3 i hi, hs]; simp
        · rw [h2 i hi]
          by_cases e2 : i = m
          · subst e2
            rw [hon, hs]
            have : ¬ i + 1 ≤ i := by omega
            simp
          · by_cases h5 : i < nr
            · by_cases h6 : m ≤ i
              · have h7 : m + 1 ≤ i := by omega
                simp [h5, h6, h7]
              · have h7 : ¬ m + 1 ≤ i := by omega
                simp [h6, h7]
            · simp [h5]
theorem drop_at {l : List Nat} : ∀ {i v : Nat}, l[i]? = some v → l.drop i = v :: l.drop (i + 1) := by
  induction l with
  | nil => intro i v h; simp at h
  | cons a l ih =>
    intro i v h
    cases i with
    | zero => simp at h; simp [h]
    | succ i =>
      simp only [List.getElem?_cons_succ] at h
      simp only [List.drop_succ_cons]
      exact ih h
def hpart (Rs : Nat → Rl) (nr d k : Nat) : Hd := ((rowR Rs nr).drop (nr - k)).foldr (fun r h => if onR Rs nr d r = true then foll h (Rs r) else h) hd0
theorem hold_loop {n nr d lc : Nat} {Rs : Nat → Rl} {y : Int32} (hlc : lc = 38 ∨ lc = 62) (hy : ∀ i, i < 8 → bt y i = (decide (i < nr) && onR Rs nr d i)) : ∀ (e k f : Nat) (σ : Sg), k + e = nr → e < f → cR Rs nr σ → cHd (hpart Rs nr d k) lc σ → ∃ τ, s_X6_hold_46 n f lc y (nI k) σ = some τ ∧ cHd (holds Rs nr d) lc τ ∧ τ lc 0 = σ lc 0 ∧ τ lc 1 = σ lc 1 := by
  intro e
  induction e with
  | zero =>
    intro k f σ hk hf hR hh
    obtain ⟨f, rfl⟩ : ∃ f', f = f' + 1 := ⟨f - 1, by omega⟩
    have h8 := hR.1
    have hk : k = nr := by omega
    subst hk
    refine ⟨σ, ?_, ?_, rfl, rfl⟩
    · show s_X6_hold_46b n _ _ _ _ _ = _
      unfold s_X6_hold_46b
      rw [hR.2.1, if_pos (by rw [nle (by omega) (by omega)]; exact Nat.le_refl _)]
    · unfold hpart at hh
      rw [Nat.sub_self, List.drop_zero] at hh
      exact hh
  | succ e ih =>
    intro k f σ hk hf hR hh
    obtain ⟨f, rfl⟩ : ∃ f', f = f' + 1 := ⟨f - 1, by omega⟩
    have h8 := hR.1
    have hkl : k < nr := by omega
    obtain ⟨v, v1, v2⟩ := hR.2.2.2 k hkl
    have hv : v < nr := rowR_lt (List.mem_of_getElem? v1)
    have hp : hpart Rs nr d (k + 1) = if onR Rs nr d v = true then foll (hpart Rs nr d k) (Rs v) else hpart Rs nr d k := by
      unfold hpart
      rw [show nr - (k + 1) = nr - 1 - k by omega, drop_at v1, show nr - 1 - k + 1 = nr - k by omega]
      rfl
    show ∃ τ, s_X6_hold_46b n (s_X6_hold_46 n f) _ _ _ _ = _ ∧ _
    unfold s_X6_hold_46b
    rw [hR.2.1, if_neg (by rw [nle (by omega) (by omega)]; omega)]
    simp (disch := omega) only [ck_n, ix_n, v2]
    rw [sr_bit _ (by omega), hy v (by omega), show nI k + 1 = nI (k + 1) from nI_1 k]
    cases hon : onR Rs nr d v
    · rw [hon] at hp
      rw [Bool.and_false, if_neg (show ¬ (if false = true then (1 : Int32) else 0) = 1 by decide)]
      exact ih (k + 1) f σ (by omega) (by omega) hR (by rw [hp, if_neg (by decide)]; exact hh)
    · rw [hon] at hp
      rw [decide_eq_true hv, if_pos (show (if (true && true) = true then (1 : Int32) else 0) = 1 from rfl)]
      obtain ⟨τ1, t1, t2⟩ := follow_ok (n := n) hlc hR hv hh
      rw [t1, bdv_some]
      have fr : ∀ o j, o ≠ lc → τ1 o j = σ o j := fun o j ho => fr_s_X2_follow rfl _ _ _ ho t1
      have f0 : τ1 lc 0 = σ lc 0 ∧ τ1 lc 1 = σ lc 1 := by
        have key := t1
        unfold s_X2_follow s_X2_follow_24 s_X2_follow_40 s_X2_follow_56 at key
        simp only [lt_eq] at key
        constructor <;> (repeat' split at key) <;> (cases key; simp [up2_app])
      obtain ⟨τ, w1, w2, w3, w4⟩ := ih (k + 1) f τ1 (by omega) (by omega) (cR_of hR (fun o j ho => fr o j (by omega))) (by rw [hp, if_pos rfl]; exact t2)
      exact ⟨τ, w1, w2, w3.trans f0.1, w4.trans f0.2⟩
/-- what a law remembers of a day is what holds on it -/
def cCa (Rs : Nat → Rl) (nr lc : Nat) (σ : Sg) : Prop := ∀ d, d < 200 → σ lc 0 = nI d → σ lc 1 = nI nr → cHd (holds Rs nr d) lc σ
theorem hold_ok {n nr d lc : Nat} {Rs : Nat → Rl} {σ : Sg} (hn : 20 ≤ n) (hlc : lc = 38 ∨ lc = 62) (hd : d < 200) (hR : cR Rs nr σ) (hca : cCa Rs nr lc σ) : ∃ τ, s_X6_hold n (nI d) lc σ = some τ ∧ cHd (holds Rs nr d) lc τ ∧ cCa Rs nr lc τ := by
  have h8 := hR.1
  have full : ∃ τ, s_X6_hold_20 n (nI d) lc σ = some τ ∧ cHd (holds Rs nr d) lc τ ∧ cCa Rs nr lc τ := by
    unfold s_X6_hold_20
    simp only [lt_eq]
    have h27 : up2 σ lc 0 (nI d) 27 0 = nI nr := by rw [up2_o (by omega)]; exact hR.2.1
    rw [h27]
    obtain ⟨τ1, t1, t2, t3, t4⟩ := first_ok (n := n) (lc := lc) (σ := up2 (up2 σ lc 0 (nI d)) lc 1 (nI nr))
    rw [t1, bdv_some]
    have fr : ∀ o j, o ≠ lc → τ1 o j = σ o j := fun o j ho => by
      rw [fr_s_X2_sayWhatHoldsAtFirst rfl _ _ ho t1, up2_o ho, up2_o ho]
    have hR1 : cR Rs nr τ1 := cR_of hR (fun o j ho => fr o j (by omega))
    unfold s_X6_countingOn
    rw [lt_eq, hR1.2.1]
    obtain ⟨y, y1, y2⟩ := counting_ok (n := n) (d := d) hd hR1 0 n nr 0 0 (by omega) (by omega) (fun i hi => by rw [b_0]; rfl) (fun i hi => by
      rw [b_0]
      have : ¬ (nr ≤ i ∧ i < nr) := by omega
      simp [this])
    rw [y1, bd_some]
    have hp0 : hpart Rs nr d 0 = hd0 := by
      unfold hpart
      rw [Nat.sub_zero, List.drop_eq_nil_of_le (by rw [rowR_len]; exact Nat.le_refl _)]
      rfl
    obtain ⟨τ, w1, w2, w3, w4⟩ := hold_loop (n := n) hlc y2 nr 0 n τ1 (by omega) (by omega) hR1 (by rw [hp0]; exact t2)
    have w1' : s_X6_hold_46 n n lc y 0 τ1 = some τ := w1
    refine ⟨τ, w1', w2, fun d' hd' e0 _ => ?_⟩
    rw [w3, t3] at e0
    have e1 : up2 (up2 σ lc 0 (nI d)) lc 1 (nI nr) lc 0 = nI d := by simp [up2_app]
    rw [e1, neq (by omega) (by omega)] at e0
    rw [← e0]
    exact w2
  unfold s_X6_hold
  by_cases h1 : σ lc 0 = nI d
  · rw [if_pos h1]
    by_cases h2 : σ lc 1 = σ 27 0
    · rw [if_pos h2]
      exact ⟨σ, rfl, hca d hd h1 (by rw [h2]; exact hR.2.1), hca⟩
    · rw [if_neg h2]; exact full
  · rw [if_neg h1]; exact full
