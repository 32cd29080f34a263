/-! ===== an hour, the class ===== -/
abbrev hH (X : Hr) : Nat := X.2.2.2.2.2.2.2
abbrev hPu (X : Hr) : Int32 := X.2.2.2.2.1
abbrev hAt (X : Hr) : Nat := X.2.2.2.2.2.1
abbrev hSp (X : Hr) : Int32 := X.2.2.2.2.2.2.1
def cHr (X : Hr) (st lc : Nat) (σ : Sg) : Prop := cDat X.1 X.2.1 X.2.2.1 X.2.2.2.1 st lc σ ∧ σ 40 (hH X) = hPu X
/-- behind ask, begin, serve -/
def cFl (X : Hr) (σ : Sg) : Prop := σ 39 9 = nI (hLn X).1 ∧ (∀ i, i < (hLn X).1 → σ 45 i = nI ((hLn X).2 i)) ∧ (∀ t, t < sN X.2.1 → σ 41 t = hAsk X t ∧ σ 42 t = hGot X t) ∧ σ 39 10 = (hLk X).1 ∧ cM (hSv X).2 σ
theorem cflow_ok {n st lc : Nat} {X : Hr} {σ : Sg} (hn : 11000 ≤ n) (h : hok X) (hst : zStand st) (hlc : zLaw lc) (hc : cHr X st lc σ) : ∃ τ1 τ2 τ3, s_X9_ask n st lc (nI (hH X)) σ = some τ1 ∧ s_X9_begin n (nI (hH X)) (nI (hAt X)) (hSp X) τ1 = some τ2 ∧ s_X9_serve n τ2 = some τ3 ∧ cFl X τ3 ∧ (∀ o j, o ∉ scrC → τ3 o j = σ o j) ∧ (∀ o j, o ∉ scrC → τ1 o j = σ o j) ∧ cAsk X.1 X.2.1 X.2.2.1 X.2.2.2.1 (nI (hH X)) (sN X.2.1) τ1 := by
  obtain ⟨h1, h2, h3, h4, h5, h6, h7, h8⟩ := id h
  obtain ⟨τ1, t1, t2⟩ := cask_ok (n := n) (hr := hH X) (by omega) h1 h2 hst hlc h4 hc.1
  have fr1 : ∀ o j, o ∉ scrC → τ1 o j = σ o j := fun o j ho => fr_s_X9_ask (by
    simp only [List.mem_cons, List.not_mem_nil, or_false, not_or] at ho
    simp [fok, Ne.symm ho.1, Ne.symm ho.2.1, Ne.symm ho.2.2.1, Ne.symm ho.2.2.2.1, Ne.symm ho.2.2.2.2.2.2.1]) _ _ _ _ t1
  have hd1 := cDat_of hst hlc hc.1 fr1
  obtain ⟨τ2, u1, u2, u3⟩ := cbegin_ok (n := n) (pump := hPu X) (spring := hSp X) h1 h6 h8 hn hd1.1 (by rw [fr1 40 _ (by decide)]; exact hc.2) h5.1 h5.2 h7.1 h7.2
  have frb : ∀ o j, o ≠ 47 → o ≠ 48 → o ≠ 49 → o ≠ 50 → (o = 39 → j ≠ 10) → τ2 o j = τ1 o j := fun o j a1 a2 a3 a4 a5 => fr_s_X9_begin (by
    by_cases e : o = 39
    · subst e; simp [fok, Ne.symm (a5 rfl)]
    · simp [fok, Ne.symm a1, Ne.symm a2, Ne.symm a3, Ne.symm a4, Ne.symm e]) _ _ _ _ u1
  have hl := h_lok h
  have hcL : cL (sN X.2.1) (sD X.2.1) (hAsk X) (hLn X).1 (hLn X).2 τ2 := by
    refine ⟨by rw [frb 39 9 (by decide) (by decide) (by decide) (by decide) (fun _ => by decide)]; exact t2.1, fun i hi => by rw [frb 45 i (by decide) (by decide) (by decide) (by decide) (fun q => absurd q (by decide))]; exact t2.2.1 i hi, fun t ht => ⟨?_, ?_⟩⟩
    · rw [frb 12 t (by decide) (by decide) (by decide) (by decide) (fun q => absurd q (by decide))]
      exact (hd1.2.1.2 t ht).1
    · rw [frb 41 t (by decide) (by decide) (by decide) (by decide) (fun q => absurd q (by decide))]
      exact (t2.2.2 t ht).1
  have h10 := h2.1
  have hwl := hl.2.1
  obtain ⟨τ3, w1, w2, w3⟩ := serve_loop (n := n) hn hl (h_lk h).1 (h_lk h).2 (hLn X).1 0 n τ2 (by omega) (by omega) hcL u2 (fun t ht => by
    rw [frb 42 t (by decide) (by decide) (by decide) (by decide) (fun q => absurd q (by decide))]
    exact (t2.2.2 t ht).2)
  have w1' : s_X9_serve n τ2 = some τ3 := w1
  have frs : ∀ o j, o ≠ 42 → o ≠ 47 → o ≠ 48 → o ≠ 49 → o ≠ 50 → τ3 o j = τ2 o j := fun o j a0 a1 a2 a3 a4 => fr_s_X9_serve (by simp [fok, Ne.symm a0, Ne.symm a1, Ne.symm a2, Ne.symm a3, Ne.symm a4]) _ w1'
  refine ⟨τ1, τ2, τ3, t1, u1, w1', ⟨?_, fun i hi => ?_, fun t ht => ⟨?_, w3 t ht⟩, ?_, w2⟩, fun o j ho => ?_, fr1, t2⟩
  · rw [frs 39 9 (by decide) (by decide) (by decide) (by decide) (by decide)]; exact hcL.1
  · rw [frs 45 i (by decide) (by decide) (by decide) (by decide) (by decide)]; exact hcL.2.1 i hi
  · rw [frs 41 t (by decide) (by decide) (by decide) (by decide) (by decide)]; exact (hcL.2.2 t ht).2
  · rw [frs 39 10 (by decide) (by decide) (by decide) (by decide) (by decide)]; exact u3
  · simp only [List.mem_cons, List.not_mem_nil, or_false, not_or] at ho
    obtain ⟨_, b1, _, b3, _, _, _, b7, b8, b9, b10⟩ := ho
    rw [frs o j b3 b7 b8 b9 b10, frb o j b7 b8 b9 b10 (fun z => absurd z b1)]
    exact fr1 o j (by simp only [List.mem_cons, List.not_mem_nil, or_false, not_or]; exact ⟨by assumption, b1, by assumption, b3, by assumption, by assumption, by assumption, b7, b8, b9, b10⟩)
/-- the class settles -/
theorem settle_loop {n st : Nat} {X : Hr} (h : hok X) (hst : zStand st) : ∀ (e s k : Nat) (σ : Sg), s + e = sN X.2.1 → e < k → cS X.2.1 σ → (∀ t, t < sN X.2.1 → σ (rf st 0) t = zo (X.2.2.1.1 t) ∧ σ 42 t = hGot X t) → (∀ t, s ≤ t → t < sN X.2.1 → σ (rf st 1) t = X.2.2.1.2 t) → (∀ t, t < s → σ (rf st 1) t = hC X t ∧ σ 43 t = hX X t ∧ σ 44 t = hWs X t) →
    ∃ τ, s_X9_settle_2 n k st (nI s) σ = some τ ∧ ∀ t, t < sN X.2.1 → τ (rf st 1) t = hC X t ∧ τ 43 t = hX X t ∧ τ 44 t = hWs X t := by
  have h10 := h.2.1.1
  have z0 := zSt_scr hst
  have a42 : rf st 1 ≠ 42 := fun z => z0.2 (by rw [z]; decide)
  have a43 : rf st 1 ≠ 43 := fun z => z0.2 (by rw [z]; decide)
  have a44 : rf st 1 ≠ 44 := fun z => z0.2 (by rw [z]; decide)
  have b43 : rf st 0 ≠ 43 := fun z => z0.1 (by rw [z]; decide)
  have b44 : rf st 0 ≠ 44 := fun z => z0.1 (by rw [z]; decide)
  have b1 : rf st 0 ≠ rf st 1 := by rcases hst with rfl | rfl | rfl <;> decide
  have c11 : (11 : Nat) ≠ rf st 1 := by rcases hst with rfl | rfl | rfl <;> decide
  have c12 : (12 : Nat) ≠ rf st 1 := by rcases hst with rfl | rfl | rfl <;> decide
  have c14 : (14 : Nat) ≠ rf st 1 := by rcases hst with rfl | rfl | rfl <;> decide
  have c15 : (15 : Nat) ≠ rf st 1 := by rcases hst with rfl | rfl | rfl <;> decide
  have c16 : (16 : Nat) ≠ rf st 1 := by rcases hst with rfl | rfl | rfl <;> decide
  intro e
  induction e with
  | zero =>
    intro s k σ hs hk hc hg hci hdone
    obtain ⟨k, rfl⟩ : ∃ k', k = k' + 1 := ⟨k - 1, by omega⟩
    have hs : s = sN X.2.1 := by omega
    subst hs
    refine ⟨σ, ?_, hdone⟩
    show s_X9_settle_2b n _ _ _ _ = _
    unfold s_X9_settle_2b
    rw [hc.1, if_pos (by rw [nle (by omega) (by omega)]; exact Nat.le_refl _)]
  | succ e ih =>
    intro s k σ hs hk hc hg hci hdone
    obtain ⟨k, rfl⟩ : ∃ k', k = k' + 1 := ⟨k - 1, by omega⟩
    have hsl : s < sN X.2.1 := by omega
    obtain ⟨_, q1, q2, _⟩ := hc.2 s hsl
    obtain ⟨g1, g2⟩ := hg s hsl
    have g3 := hci s (Nat.le_refl _) hsl
    show ∃ τ, s_X9_settle_2b n (s_X9_settle_2 n k) _ _ _ = _ ∧ _
    unfold s_X9_settle_2b
    rw [hc.1, if_neg (by rw [nle (by omega) (by omega)]; omega)]
    simp (disch := omega) only [ck_n, ix_n, lt_eq, q2, g2]
    have hW : imin (sW X.2.1 s) (hGot X s) = hWs X s := rfl
    rw [hW]
    have v42 : up2 σ 44 s (hWs X s) 42 s = hGot X s := by rw [up2_o (by decide)]; exact g2
    have v44 : up2 σ 44 s (hWs X s) 44 s = hWs X s := by simp [up2_app]
    have v14 : up2 σ 44 s (hWs X s) 14 s = sQ X.2.1 s := by rw [up2_o (by decide)]; exact q1
    have v0 : up2 σ 44 s (hWs X s) (rf st 0) s = zo (X.2.2.1.1 s) := by rw [up2_o b44]; exact g1
    have v1 : up2 σ 44 s (hWs X s) (rf st 1) s = X.2.2.1.2 s := by rw [up2_o a44]; exact g3
    rw [v42, v44, v14, v0, v1]
    have hU : imin (sQ X.2.1 s) (hGot X s - hWs X s) = oU (sQ X.2.1 s) (sW X.2.1 s) (hGot X s) := rfl
    rw [hU]
    -- the rest, with cistern y
    have go : ∀ (ρ : Sg) (y : Int32), y = oC (sQ X.2.1 s) (sW X.2.1 s) (X.2.2.1.1 s) (X.2.2.1.2 s) (hGot X s) → ρ (rf st 1) s = y → (∀ o j, o ≠ 44 → o ≠ rf st 1 → ρ o j = σ o j) → ρ 44 s = hWs X s → (∀ t, t ≠ s → ρ (rf st 1) t = σ (rf st 1) t ∧ ρ 44 t = σ 44 t) → ∃ τ, s_X9_settle_88 n (s_X9_settle_2 n k) st (nI s) (oU (sQ X.2.1 s) (sW X.2.1 s) (hGot X s)) ρ = some τ ∧ ∀ t, t < sN X.2.1 → τ (rf st 1) t = hC X t ∧ τ 43 t = hX X t ∧ τ 44 t = hWs X t := by
      intro ρ y hy h1 hfr h44 hot
      have w14 : ρ 14 s = sQ X.2.1 s := by rw [hfr 14 s (by decide) c14]; exact q1
      unfold s_X9_settle_88
      simp (disch := omega) only [ck_n, ix_n, lt_eq, w14, h1]
      rw [hy, show nI s + 1 = nI (s + 1) from nI_1 s]
      have hT : imin (sQ X.2.1 s - oU (sQ X.2.1 s) (sW X.2.1 s) (hGot X s)) (oC (sQ X.2.1 s) (sW X.2.1 s) (X.2.2.1.1 s) (X.2.2.1.2 s) (hGot X s)) = oT (sQ X.2.1 s) (sW X.2.1 s) (X.2.2.1.1 s) (X.2.2.1.2 s) (hGot X s) := rfl
      rw [hT]
      have fr : ∀ o j, o ≠ 43 → o ≠ 44 → o ≠ rf st 1 → ∀ (u v : Int32), up2 (up2 ρ (rf st 1) s u) 43 s v o j = σ o j := fun o j p1 p2 p3 u v => by rw [up2_o p1, up2_o p3]; exact hfr o j p2 p3
      refine ih (s + 1) k _ (by omega) (by omega) ?_ (fun t ht => ?_) (fun t h1 h2 => ?_) (fun t ht => ?_)
      · unfold cS
        simp only [fr 11 _ (by decide) (by decide) c11, fr 12 _ (by decide) (by decide) c12, fr 14 _ (by decide) (by decide) c14, fr 15 _ (by decide) (by decide) c15, fr 16 _ (by decide) (by decide) c16]
        exact hc
      · rw [fr _ t b43 b44 b1, fr 42 t (by decide) (by decide) (Ne.symm a42)]
        exact hg t ht
      · have hne : ¬ t = s := by omega
        rw [up2_o a43]
        simp only [up2_app, if_true, hne, if_false]
        rw [(hot t hne).1]
        exact hci t (by omega) h2
      · by_cases e2 : t = s
        · subst e2
          refine ⟨?_, by simp [up2_app]; rfl, ?_⟩
          · rw [up2_o a43]
            simp [up2_app]
            rfl
          · rw [up2_o (by decide), up2_o (Ne.symm a44)]
            exact h44
        · have hd := hdone t (by omega)
          refine ⟨?_, ?_, ?_⟩
          · rw [up2_o a43]
            simp only [up2_app, if_true, e2, if_false]
            rw [(hot t e2).1]
            exact hd.1
          · simp only [up2_app, if_true, e2, if_false]
            have : (43 : Nat) ≠ rf st 1 := Ne.symm a43
            simp only [this, if_false]
            rw [hfr 43 t (by decide) this]
            exact hd.2.1
          · rw [up2_o (by decide), up2_o (Ne.symm a44), (hot t e2).2]
            exact hd.2.2
    cases hal : X.2.2.1.1 s
    · rw [if_pos (show zo false = 0 from rfl)]
      refine go _ _ ?_ (by simp [up2_app]; rfl) (fun o j p1 p2 => by rw [up2_o p2, up2_o p1]) (by rw [up2_o (Ne.symm a44)]; exact v44) (fun t ht => by
        refine ⟨?_, ?_⟩
        · simp only [up2_app, if_true, ht, if_false]
          simp only [a44, if_false]
        · rw [up2_o (Ne.symm a44)]
          simp [up2_app, ht])
      unfold oC
      rw [hal]
      rfl
    · rw [if_neg (show ¬ zo true = 0 by decide)]
      refine go _ _ ?_ v1 (fun o j p1 p2 => by rw [up2_o p1]) v44 (fun t ht => by
        refine ⟨by rw [up2_o a44], by simp [up2_app, ht]⟩)
      unfold oC
      rw [hal]
      rfl
theorem dry_mono {X : Hr} {b : Bool} : ∀ (d k : Nat), hDry X b k = true → hDry X b (k + d) = true
  | 0, _, h => h
  | d + 1, k, h => by
    show (hDry X b (k + d) || _) = true
    rw [dry_mono d k h]
    rfl
theorem someDry_ok {n st : Nat} {X : Hr} {b : Bool} {σ : Sg} (h : hok X) (hc : σ 11 0 = nI (sN X.2.1)) (hk : ∀ t, t < sN X.2.1 → σ (rf st 0) t = zo (X.2.2.1.1 t) ∧ σ 43 t = hX X t) : ∀ (e s k : Nat), s + e = sN X.2.1 → e < k → hDry X b s = false → s_X9_someDry_2 n k st (zo b) (nI s) σ = some (zo (hDry X b (sN X.2.1)), σ) := by
  have h10 := h.2.1.1
  intro e
  induction e with
  | zero =>
    intro s k hs hk2 hd
    obtain ⟨k, rfl⟩ : ∃ k', k = k' + 1 := ⟨k - 1, by omega⟩
    have hs : s = sN X.2.1 := by omega
    subst hs
    show s_X9_someDry_2b n _ _ _ _ _ = _
    unfold s_X9_someDry_2b
    rw [hc, if_pos (by rw [nle (by omega) (by omega)]; exact Nat.le_refl _), hd]
    rfl
  | succ e ih =>
    intro s k hs hk2 hd
    obtain ⟨k, rfl⟩ : ∃ k', k = k' + 1 := ⟨k - 1, by omega⟩
    have hsl : s < sN X.2.1 := by omega
    obtain ⟨k1, k2⟩ := hk s hsl
    show s_X9_someDry_2b n (s_X9_someDry_2 n k) _ _ _ _ = _
    unfold s_X9_someDry_2b
    rw [hc, if_neg (by rw [nle (by omega) (by omega)]; omega)]
    simp (disch := omega) only [ck_n, ix_n, k1, k2]
    rw [show nI s + 1 = nI (s + 1) from nI_1 s]
    have hs1 : hDry X b (s + 1) = (hDry X b s || (decide (¬ hX X s ≤ 0) && (!b || X.2.2.1.1 s))) := rfl
    have yes : hDry X b (s + 1) = true → some ((1 : Int32), σ) = some (zo (hDry X b (sN X.2.1)), σ) := fun z => by
      have := dry_mono (e) (s + 1) z
      rw [show s + 1 + e = sN X.2.1 by omega] at this
      rw [this]
      rfl
    by_cases hx : hX X s ≤ 0
    · rw [if_pos hx]
      exact ih (s + 1) k (by omega) (by omega) (by rw [hs1, hd]; simp [hx])
    · rw [if_neg hx]
      cases b
      · rw [if_pos (show zo false = 0 from rfl)]
        exact yes (by rw [hs1, hd]; simp [hx])
      · rw [if_neg (show ¬ zo true = 0 by decide)]
        cases hal : X.2.2.1.1 s
        · rw [if_neg (show ¬ zo false = 1 by decide)]
          exact ih (s + 1) k (by omega) (by omega) (by rw [hs1, hd, hal]; simp)
        · rw [if_pos (show zo true = 1 from rfl)]
          exact yes (by rw [hs1, hd, hal]; simp [hx])
