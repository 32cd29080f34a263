/-! ===== leaks, one by one ===== -/
def lks (N : Net) (A : Mx) : Nat → Int32 × Mx
  | 0 => (0, A)
  | p + 1 => if nSh N p = true then lks N A p else ((lks N A p).1 + (sndN (nA N p) (nLo N p) (lks N A p).2).1, (sndN (nA N p) (nLo N p) (lks N A p).2).2)
theorem lks_s (N : Net) (A : Mx) (p : Nat) : lks N A (p + 1) = if nSh N p = true then lks N A p else ((lks N A p).1 + (sndN (nA N p) (nLo N p) (lks N A p).2).1, (sndN (nA N p) (nLo N p) (lks N A p).2).2) := rfl
theorem lks_ok {N : Net} (hN : nok N) {A : Mx} (hA : rnn A) (hS : Sv A ≤ 10998) : ∀ p, p ≤ nP N → rnn (lks N A p).2 ∧ Sv (lks N A p).2 ≤ 10998
  | 0, _ => ⟨hA, hS⟩
  | p + 1, hp => by
    have ih := lks_ok hN hA hS p (by omega)
    rw [lks_s]
    by_cases hs : nSh N p = true
    · rw [if_pos hs]; exact ih
    · rw [if_neg hs]
      obtain ⟨g1, g2, g3, g4, g5⟩ := hN.2 p (by omega)
      obtain ⟨r1, r2, _, _⟩ := sndN_inv (w := nLo N p) g1 ih.1 g4
      exact ⟨r1, by dsimp only; omega⟩
theorem leak_loop {n : Nat} {N : Net} (hN : nok N) (hn : 11000 ≤ n) {A : Mx} (hA : rnn A) (hS : Sv A ≤ 10998) : ∀ (e p k : Nat) (σ : Sg), p + e = nP N → e < k → cN N σ → cM (lks N A p).2 σ → σ 39 10 = (lks N A p).1 → ∃ τ, s_X9_begin_27 n k (nI p) σ = some τ ∧ cM (lks N A (nP N)).2 τ ∧ τ 39 10 = (lks N A (nP N)).1 := by
  intro e
  induction e with
  | zero =>
    intro p k σ hp hk hc hM hl
    obtain ⟨k, rfl⟩ : ∃ k', k = k' + 1 := ⟨k - 1, by omega⟩
    have h20 := hN.1
    have hp : p = nP N := by omega
    subst hp
    refine ⟨σ, ?_, hM, hl⟩
    show s_X9_begin_27b n _ _ _ = _
    unfold s_X9_begin_27b
    rw [hc.1, if_pos (by rw [nle (by omega) (by omega)]; exact Nat.le_refl _)]
  | succ e ih =>
    intro p k σ hp hk hc hM hl
    obtain ⟨k, rfl⟩ : ∃ k', k = k' + 1 := ⟨k - 1, by omega⟩
    have h20 := hN.1
    have hpl : p < nP N := by omega
    obtain ⟨e4, e5, e6, e7, eb⟩ := hc.2 p hpl
    obtain ⟨g1, g2, g3, g4, g5⟩ := hN.2 p hpl
    obtain ⟨i1, i2⟩ := lks_ok hN hA hS p (by omega)
    show ∃ τ, s_X9_begin_27b n (s_X9_begin_27 n k) _ _ = _ ∧ _
    unfold s_X9_begin_27b
    rw [hc.1, if_neg (by rw [nle (by omega) (by omega)]; omega), isOpen_ok (by omega), bd_some, eb, show nI p + 1 = nI (p + 1) from nI_1 p]
    by_cases hs : nSh N p = true
    · rw [if_pos hs, if_pos rfl]
      exact ih (p + 1) k σ (by omega) (by omega) hc (by rw [lks_s, if_pos hs]; exact hM) (by rw [lks_s, if_pos hs]; exact hl)
    · rw [if_neg hs, if_neg (by decide)]
      simp (disch := omega) only [ck_n, ix_n, e4, e7, hl]
      obtain ⟨τ1, t1, t2⟩ := csend_ok (n := n) (w := nLo N p) g1 hn hM i1 i2 (by omega)
      rw [t1, bd_some, lt_eq]
      have fr1 : ∀ o, o ≠ 47 → o ≠ 48 → o ≠ 49 → o ≠ 50 → o ≠ 39 → ∀ j, up2 τ1 39 10 ((lks N A p).1 + (sndN (nA N p) (nLo N p) (lks N A p).2).1) o j = σ o j := fun o h1 h2 h3 h4 h5 j => by
        rw [up2_o h5]
        exact fr_s_X3_send (by simp [fok, Ne.symm h1, Ne.symm h2, Ne.symm h3, Ne.symm h4]) _ _ _ t1
      refine ih (p + 1) k _ (by omega) (by omega) (cN_of hc (fr1 3 (by decide) (by decide) (by decide) (by decide) (by decide)) (fr1 4 (by decide) (by decide) (by decide) (by decide) (by decide)) (fr1 5 (by decide) (by decide) (by decide) (by decide) (by decide)) (fr1 6 (by decide) (by decide) (by decide) (by decide) (by decide)) (fr1 7 (by decide) (by decide) (by decide) (by decide) (by decide))) ?_ ?_
      · rw [lks_s, if_neg hs]
        exact cM_of t2 (funext fun j => by simp [up2_app]) (funext fun j => by simp [up2_app])
      · rw [lks_s, if_neg hs]
        simp [up2_app]
/-- the class: an hour begun, its leaks served -/
theorem cbegin_ok {n a h : Nat} {N : Net} {pump spring : Int32} {σ : Sg} (hN : nok N) (ha : a < 10) (hh : h < 24) (hn : 11000 ≤ n) (hc : cN N σ) (hpu : σ 40 h = pump) (hp0 : 0 ≤ pump.toInt) (hp : pump.toInt ≤ 9999) (hs0 : 0 ≤ spring.toInt) (hs : spring.toInt ≤ 999) : ∃ τ, s_X9_begin n (nI h) (nI a) spring σ = some τ ∧ cM (lks N (layS N pump a spring) (nP N)).2 τ ∧ τ 39 10 = (lks N (layS N pump a spring) (nP N)).1 := by
  have h20 := hN.1
  obtain ⟨hA, hS⟩ := layS_ok hN ha hp0 hp hs0 hs
  unfold s_X9_begin
  simp (disch := omega) only [ck_n, ix_n, hpu]
  obtain ⟨τ1, t1, t2⟩ := begin_ok (n := n) (pump := pump) (spring := spring) hN ha (by omega) hc
  rw [t1, bdv_some, lt_eq]
  have fr1 : ∀ o, o ≠ 47 → o ≠ 48 → o ≠ 39 → ∀ j, up2 τ1 39 10 0 o j = σ o j := fun o h1 h2 h3 j => by
    rw [up2_o h3]
    exact fr_s_X3_begin (by simp [fok, Ne.symm h1, Ne.symm h2]) _ _ _ _ t1
  exact leak_loop hN hn hA hS (nP N) 0 n _ (by omega) (by omega) (cN_of hc (fr1 3 (by decide) (by decide) (by decide)) (fr1 4 (by decide) (by decide) (by decide)) (fr1 5 (by decide) (by decide) (by decide)) (fr1 6 (by decide) (by decide) (by decide)) (fr1 7 (by decide) (by decide) (by decide))) (cM_of t2 (funext fun j => by simp [up2_app]) (funext fun j => by simp [up2_app])) (by simp [up2_app, lks])
theorem mleak_loop {n : Nat} {N : Net} (hN : nok N) (hn : 11000 ≤ n) {A : Mx} (hA : rnn A) (hS : Sv A ≤ 10998) : ∀ (e p k : Nat) (nd : Nat) (σ : Sg), p + e = nP N → e < k → mN N σ → mM (lks N A p).2 nd 0 σ → σ 71 57 = (lks N A p).1 → ∃ τ nd', s_X12_askLeaks_12 n k (nI p) σ = some τ ∧ mM (lks N A (nP N)).2 nd' 0 τ ∧ τ 71 57 = (lks N A (nP N)).1 := by
  intro e
  induction e with
  | zero =>
    intro p k nd σ hp hk hc hM hl
    obtain ⟨k, rfl⟩ : ∃ k', k = k' + 1 := ⟨k - 1, by omega⟩
    have h20 := hN.1
    have hp : p = nP N := by omega
    subst hp
    refine ⟨σ, nd, ?_, hM, hl⟩
    show s_X12_askLeaks_12b n _ _ _ = _
    unfold s_X12_askLeaks_12b
    rw [hc.1, if_pos (by rw [nle (by omega) (by omega)]; exact Nat.le_refl _)]
  | succ e ih =>
    intro p k nd σ hp hk hc hM hl
    obtain ⟨k, rfl⟩ : ∃ k', k = k' + 1 := ⟨k - 1, by omega⟩
    have h20 := hN.1
    have hpl : p < nP N := by omega
    obtain ⟨e4, e5, e6, e7, eb⟩ := hc.2 p hpl
    obtain ⟨g1, g2, g3, g4, g5⟩ := hN.2 p hpl
    obtain ⟨i1, i2⟩ := lks_ok hN hA hS p (by omega)
    show ∃ τ nd', s_X12_askLeaks_12b n (s_X12_askLeaks_12 n k) _ _ = _ ∧ _
    unfold s_X12_askLeaks_12b
    rw [hc.1, if_neg (by rw [nle (by omega) (by omega)]; omega), show nI p + 1 = nI (p + 1) from nI_1 p]
    simp (disch := omega) only [ck_n, ix_n, eb, e4, e7, hl]
    by_cases hs : nSh N p = true
    · rw [if_pos hs, if_neg (by decide), lt_eq]
      have fr1 : ∀ o, o ≠ 71 → ∀ j, up2 σ 71 57 ((lks N A p).1 + 0) o j = σ o j := fun o h1 j => up2_o h1
      refine ih (p + 1) k nd _ (by omega) (by omega) (mN_of hc (by simp [up2_app]) (fr1 73 (by decide)) (fr1 74 (by decide)) (fr1 77 (by decide)) (fr1 78 (by decide)) (fr1 79 (by decide))) (by rw [lks_s, if_pos hs]; exact mM_of hM (funext fun j => fr1 101 (by decide) j)) ?_
      rw [lks_s, if_pos hs]
      simp [up2_app]
    · rw [if_neg hs, if_pos rfl]
      obtain ⟨τ1, t1, t2⟩ := mask_ok (n := n) (w := nLo N p) g1 hn hM i1 i2 g4
      rw [t1, bd_some, lt_eq]
      have fr1 : ∀ o, o ≠ 101 → o ≠ 102 → o ≠ 103 → o ≠ 71 → ∀ j, up2 τ1 71 57 ((lks N A p).1 + (sndN (nA N p) (nLo N p) (lks N A p).2).1) o j = σ o j := fun o h1 h2 h3 h4 j => by
        rw [up2_o h4]
        exact fr_s_X12_ask (by simp [fok, Ne.symm h1, Ne.symm h2, Ne.symm h3]) _ _ _ t1
      have fr71 : τ1 71 2 = σ 71 2 := fr_s_X12_ask rfl _ _ _ t1
      refine ih (p + 1) k (nA N p) _ (by omega) (by omega) (mN_of hc (by simp [up2_app, fr71]) (fr1 73 (by decide) (by decide) (by decide) (by decide)) (fr1 74 (by decide) (by decide) (by decide) (by decide)) (fr1 77 (by decide) (by decide) (by decide) (by decide)) (fr1 78 (by decide) (by decide) (by decide) (by decide)) (fr1 79 (by decide) (by decide) (by decide) (by decide))) ?_ ?_
      · rw [lks_s, if_neg hs]
        exact mM_of t2 (funext fun j => up2_o (by decide))
      · rw [lks_s, if_neg hs]
        simp [up2_app]
theorem mleaks_ok {n a h : Nat} {N : Net} {pump spring : Int32} {σ : Sg} (hN : nok N) (ha : a < 10) (hh : h < 24) (hn : 11000 ≤ n) (hc : mN N σ) (hsp : mSp a spring σ) (hpu : σ 72 h = pump) (hp0 : 0 ≤ pump.toInt) (hp : pump.toInt ≤ 9999) (hs0 : 0 ≤ spring.toInt) (hs : spring.toInt ≤ 999) : ∃ τ nd, s_X12_askLeaks n (nI h) σ = some τ ∧ mM (lks N (layS N pump a spring) (nP N)).2 nd 0 τ ∧ τ 71 57 = (lks N (layS N pump a spring) (nP N)).1 := by
  have h20 := hN.1
  obtain ⟨hA, hS⟩ := layS_ok hN ha hp0 hp hs0 hs
  unfold s_X12_askLeaks
  obtain ⟨τ1, t1, t2⟩ := mlay_ok (n := n) hN ha hh (by omega) hc hsp hpu
  rw [t1, bdv_some, lt_eq]
  have fr1 : ∀ o, o ≠ 101 → o ≠ 71 → ∀ j, up2 τ1 71 57 0 o j = σ o j := fun o h1 h2 j => by
    rw [up2_o h2]
    exact fr_s_X12_layNet (by simp [fok, Ne.symm h1]) _ _ t1
  have fr71 : τ1 71 2 = σ 71 2 := fr_s_X12_layNet rfl _ _ t1
  exact mleak_loop hN hn hA hS (nP N) 0 n 0 _ (by omega) (by omega) (mN_of hc (by simp [up2_app, fr71]) (fr1 73 (by decide) (by decide)) (fr1 74 (by decide) (by decide)) (fr1 77 (by decide) (by decide)) (fr1 78 (by decide) (by decide)) (fr1 79 (by decide) (by decide))) (mM_of t2 (funext fun j => up2_o (by decide))) (by simp [up2_app, lks])
/-! ===== streets served in a line ===== -/
/-- behind i of the line: what each got, what room is left -/
def srv (nd : Nat → Nat) (ask : Nat → Int32) (l : Nat → Nat) (A : Mx) : Nat → (Nat → Int32) × Mx
  | 0 => (fun _ => 0, A)
  | i + 1 => (fun t => if t = l i then (sndN (nd (l i)) (ask (l i)) (srv nd ask l A i).2).1 else (srv nd ask l A i).1 t, (sndN (nd (l i)) (ask (l i)) (srv nd ask l A i).2).2)
theorem srv_ok {nd : Nat → Nat} {ask : Nat → Int32} {l : Nat → Nat} {A : Mx} {w : Nat} (hA : rnn A) (hS : Sv A ≤ 10998) (hl : ∀ i, i < w → nd (l i) < 10 ∧ 0 ≤ (ask (l i)).toInt) : ∀ i, i ≤ w → rnn (srv nd ask l A i).2 ∧ Sv (srv nd ask l A i).2 ≤ 10998
  | 0, _ => ⟨hA, hS⟩
  | i + 1, hi => by
    have ih := srv_ok hA hS hl i (by omega)
    obtain ⟨g1, g2⟩ := hl i (by omega)
    obtain ⟨r1, r2, _, _⟩ := sndN_inv (w := ask (l i)) g1 ih.1 g2
    unfold srv
    exact ⟨r1, by dsimp only; omega⟩
theorem srv_got {nd : Nat → Nat} {ask : Nat → Int32} {l : Nat → Nat} {A : Mx} {w : Nat} (hA : rnn A) (hS : Sv A ≤ 10998) (hl : ∀ i, i < w → nd (l i) < 10 ∧ 0 ≤ (ask (l i)).toInt) (ha : ∀ t, 0 ≤ (ask t).toInt) : ∀ i, i ≤ w → ∀ t, 0 ≤ ((srv nd ask l A i).1 t).toInt ∧ ((srv nd ask l A i).1 t).toInt ≤ (ask t).toInt
  | 0, _, t => ⟨by simp [srv], by simpa [srv] using ha t⟩
  | i + 1, hi, t => by
    obtain ⟨g1, g2⟩ := hl i (by omega)
    have h1 := srv_ok hA hS hl i (by omega)
    obtain ⟨_, _, r3, r4⟩ := sndN_inv (w := ask (l i)) g1 h1.1 g2
    unfold srv
    dsimp only
    by_cases h : t = l i
    · rw [if_pos h, h]; exact ⟨r3, r4⟩
    · rw [if_neg h]; exact srv_got hA hS hl ha i (by omega) t
