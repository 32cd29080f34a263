/-! ===== an array filled ===== -/
theorem fill_loop {n o m : Nat} {v : Int32} (hm : m < 2147483648) : ∀ (e i k : Nat) (σ : Sg), i + e = m → e < k → ∃ τ, s_J7_fill_53178_5 n k o m v (nI i) (nI m) σ = some τ ∧ (∀ j, i ≤ j → j < m → τ o j = v) ∧ ∀ o' j, (o' ≠ o ∨ j < i ∨ m ≤ j) → τ o' j = σ o' j := by
  intro e
  induction e with
  | zero =>
    intro i k σ hi hk
    obtain ⟨k, rfl⟩ : ∃ k', k = k' + 1 := ⟨k - 1, by omega⟩
    refine ⟨σ, ?_, fun j h1 h2 => by omega, fun _ _ _ => rfl⟩
    show s_J7_fill_53178_5b n _ _ _ _ _ _ _ = _
    unfold s_J7_fill_53178_5b
    rw [if_pos (by rw [nle (by omega) (by omega)]; omega)]
  | succ e ih =>
    intro i k σ hi hk
    obtain ⟨k, rfl⟩ : ∃ k', k = k' + 1 := ⟨k - 1, by omega⟩
    show ∃ τ, s_J7_fill_53178_5b n (s_J7_fill_53178_5 n k) _ _ _ _ _ _ = _ ∧ _
    unfold s_J7_fill_53178_5b
    rw [if_neg (by rw [nle (by omega) (by omega)]; omega)]
    simp (disch := omega) only [ck_n, ix_n, lt_eq]
    rw [show nI i + 1 = nI (i + 1) from nI_1 i]
    obtain ⟨τ, t1, t2, t3⟩ := ih (i + 1) k (up2 σ o i v) (by omega) (by omega)
    refine ⟨τ, t1, fun j h1 h2 => ?_, fun o' j h => ?_⟩
    · by_cases hj : j = i
      · subst hj
        rw [t3 o j (Or.inr (Or.inl (by omega)))]
        simp [up2_app]
      · exact t2 j (by omega) h2
    · rw [t3 o' j (by rcases h with h | h | h; exact Or.inl h; exact Or.inr (Or.inl (by omega)); exact Or.inr (Or.inr h))]
      simp only [up2_app]
      by_cases ho : o' = o
      · have : ¬ j = i := by rcases h with h | h | h; exact absurd ho h; omega; omega
        simp [this]
      · simp [ho]
theorem fill_ok {n o m : Nat} {v : Int32} {σ : Sg} (hm : m < 2147483648) (hn : m < n) : ∃ τ, s_J7_fill_53178 n o m v σ = some τ ∧ (∀ j, j < m → τ o j = v) ∧ ∀ o' j, (o' ≠ o ∨ m ≤ j) → τ o' j = σ o' j := by
  obtain ⟨τ, t1, t2, t3⟩ := fill_loop (n := n) (o := o) (v := v) hm m 0 n σ (by omega) hn
  exact ⟨τ, t1, fun j h => t2 j (by omega) h, fun o' j h => t3 o' j (by rcases h with h | h; exact Or.inl h; exact Or.inr (Or.inr h))⟩
/-! ===== the class lays the mains ===== -/
theorem isOpen_ok {n p : Nat} {σ : Sg} (hp : p < 32) : s_X4_isOpen n (nI p) σ = some (if bt (σ 3 1) p = true then 0 else 1, σ) := by
  unfold s_X4_isOpen
  rw [sr_bit _ hp]
  cases bt (σ 3 1) p <;> rfl
theorem begin_loop {n a : Nat} {N : Net} {pump spring : Int32} (hN : nok N) (ha : a < 10) : ∀ (e p k : Nat) (σ : Sg), p + e = nP N → e < k → cN N σ → cM (lay N p) σ → ∃ τ, s_X3_begin_19 n k pump (nI a) spring (nI p) σ = some τ ∧ cM (layS N pump a spring) τ := by
  intro e
  induction e with
  | zero =>
    intro p k σ hp hk hc hM
    obtain ⟨k, rfl⟩ : ∃ k', k = k' + 1 := ⟨k - 1, by omega⟩
    have h20 := hN.1
    have hp : p = nP N := by omega
    subst hp
    show ∃ τ, s_X3_begin_19b n _ _ _ _ _ _ = _ ∧ _
    unfold s_X3_begin_19b
    rw [hc.1, if_pos (by rw [nle (by omega) (by omega)]; exact Nat.le_refl _)]
    obtain ⟨τ1, t1, t2⟩ := widen_ok (n := n) (u := 10) (v := 0) (x := pump) (by omega) (by omega) hM
    have t1' : s_X3_widen n 10 0 pump σ = some τ1 := t1
    rw [t1', bdv_some]
    obtain ⟨τ2, u1, u2⟩ := widen_ok (n := n) (u := 10) (v := a) (x := spring) (by omega) (by omega) t2
    have u1' : s_X3_widen n 10 (nI a) spring τ1 = some τ2 := u1
    rw [u1', bdv_some]
    exact ⟨τ2, rfl, u2⟩
  | succ e ih =>
    intro p k σ hp hk hc hM
    obtain ⟨k, rfl⟩ : ∃ k', k = k' + 1 := ⟨k - 1, by omega⟩
    have h20 := hN.1
    have hpl : p < nP N := by omega
    obtain ⟨e4, e5, e6, e7, eb⟩ := hc.2 p hpl
    obtain ⟨g1, g2, g3, _⟩ := hN.2 p hpl
    show ∃ τ, s_X3_begin_19b n (s_X3_begin_19 n k) _ _ _ _ _ = _ ∧ _
    unfold s_X3_begin_19b
    rw [hc.1, if_neg (by rw [nle (by omega) (by omega)]; omega), isOpen_ok (by omega), bd_some, eb, show nI p + 1 = nI (p + 1) from nI_1 p]
    by_cases hs : nSh N p = true
    · rw [if_pos hs, if_pos rfl]
      exact ih (p + 1) k σ (by omega) (by omega) hc (by rw [lay_s, if_pos hs]; exact hM)
    · rw [if_neg hs, if_neg (by decide)]
      simp (disch := omega) only [ck_n, ix_n, e4, e5, e6]
      obtain ⟨τ1, t1, t2⟩ := widen_ok (n := n) (u := nA N p) (v := nB N p) (x := nBo N p) (by omega) (by omega) hM
      rw [t1, bdv_some]
      have fr1 : ∀ o, o ≠ 47 → o ≠ 48 → ∀ j, τ1 o j = σ o j := fun o h1 h2 j => fr_s_X3_widen (by simp [fok, Ne.symm h1, Ne.symm h2]) _ _ _ _ t1
      simp (disch := omega) only [ck_n, ix_n, fr1 4 (by decide) (by decide), fr1 5 (by decide) (by decide), fr1 6 (by decide) (by decide), e4, e5, e6]
      obtain ⟨τ2, u1, u2⟩ := widen_ok (n := n) (u := nB N p) (v := nA N p) (x := nBo N p) (by omega) (by omega) t2
      rw [u1, bdv_some]
      have fr2 : ∀ o, o ≠ 47 → o ≠ 48 → ∀ j, τ2 o j = σ o j := fun o h1 h2 j => (fr_s_X3_widen (by simp [fok, Ne.symm h1, Ne.symm h2]) _ _ _ _ u1).trans (fr1 o h1 h2 j)
      refine ih (p + 1) k τ2 (by omega) (by omega) (cN_of hc (fr2 3 (by decide) (by decide)) (fr2 4 (by decide) (by decide)) (fr2 5 (by decide) (by decide)) (fr2 6 (by decide) (by decide)) (fr2 7 (by decide) (by decide))) ?_
      rw [lay_s, if_neg hs]
      exact u2
theorem begin_ok {n a : Nat} {N : Net} {pump spring : Int32} {σ : Sg} (hN : nok N) (ha : a < 10) (hn : 200 ≤ n) (hc : cN N σ) : ∃ τ, s_X3_begin n pump (nI a) spring σ = some τ ∧ cM (layS N pump a spring) τ := by
  have h20 := hN.1
  unfold s_X3_begin
  obtain ⟨τ1, t1, t2, t3⟩ := fill_ok (n := n) (o := 47) (m := 121) (v := 0) (σ := σ) (by omega) (by omega)
  obtain ⟨τ2, u1, u2, u3⟩ := fill_ok (n := n) (o := 48) (m := 11) (v := 0) (σ := τ1) (by omega) (by omega)
  rw [t1, bdv_some, u1, bdv_some]
  have fr2 : ∀ o, o ≠ 47 → o ≠ 48 → ∀ j, τ2 o j = σ o j := fun o h1 h2 j => (u3 o j (Or.inl h2)).trans (t3 o j (Or.inl h1))
  refine begin_loop hN ha (nP N) 0 n τ2 (by omega) (by omega) (cN_of hc (fr2 3 (by decide) (by decide)) (fr2 4 (by decide) (by decide)) (fr2 5 (by decide) (by decide)) (fr2 6 (by decide) (by decide)) (fr2 7 (by decide) (by decide))) ⟨fun u v hu hv => ?_, fun u hu i hi => ?_⟩
  · rw [u3 47 _ (Or.inl (by decide)), t2 _ (by omega)]
    rfl
  · rw [u2 u hu, b_0]
    show false = (decide (i < 11) && decide ((0 : Int32) < (0 : Int32)))
    rw [show decide ((0 : Int32) < (0 : Int32)) = false from by decide, Bool.and_false]
/-! ===== the reference lays the net ===== -/
def mSp (a : Nat) (spring : Int32) (σ : Sg) : Prop := (σ 71 50 = -1 ∧ a = 0 ∧ spring = 0) ∨ (σ 71 50 = nI a ∧ σ 71 51 = spring)
theorem mlay_loop {n a h : Nat} {N : Net} {pump spring : Int32} (hN : nok N) (ha : a < 10) (hh : h < 24) : ∀ (e p k : Nat) (σ : Sg), p + e = nP N → e < k → mN N σ → mSp a spring σ → σ 72 h = pump → mM (lay N p) 0 0 σ → ∃ τ, s_X12_layNet_24 n k (nI h) (nI p) σ = some τ ∧ mM (layS N pump a spring) 0 0 τ := by
  intro e
  induction e with
  | zero =>
    intro p k σ hp hk hc hsp hpu hM
    obtain ⟨k, rfl⟩ : ∃ k', k = k' + 1 := ⟨k - 1, by omega⟩
    have h20 := hN.1
    have hp : p = nP N := by omega
    subst hp
    show ∃ τ, s_X12_layNet_24b n _ _ _ _ = _ ∧ _
    unfold s_X12_layNet_24b
    rw [hc.1, if_pos (by rw [nle (by omega) (by omega)]; exact Nat.le_refl _)]
    have c1 : s_X12_cell n 10 0 σ = some (nI (12 * 10 + 0), σ) := cell_ok n 10 0 σ
    rw [c1, bd_some]
    simp (disch := omega) only [ck_n, ix_n, lt_eq, hpu]
    have m1 := mM_put (y := pump) (u := 10) (v := 0) (by omega) (by omega) hM
    have e50 : up2 σ 101 (12 * 10 + 0) pump 71 50 = σ 71 50 := by simp [up2_app]
    have e51 : up2 σ 101 (12 * 10 + 0) pump 71 51 = σ 71 51 := by simp [up2_app]
    rw [e50]
    have hz : (lay N (nP N)) 10 0 + pump = pump := by rw [lay_10 hN _ (Nat.le_refl _)]; simp
    rcases hsp with ⟨s1, s2, s3⟩ | ⟨s1, s2⟩
    · rw [s1, if_pos m1_lt]
      refine ⟨_, rfl, ?_⟩
      subst s2; subst s3
      have : layS N pump 0 0 = mup (lay N (nP N)) 10 0 pump := by
        unfold layS madd
        rw [hz]
        funext x y
        unfold mup
        by_cases q : x = 10 ∧ y = 0 <;> simp [q]
      rw [this]
      exact m1
    · rw [s1, if_neg (n_nlt0 (by omega))]
      have c2 : s_X12_cell n 10 (nI a) (up2 σ 101 (12 * 10 + 0) pump) = some (nI (12 * 10 + a), up2 σ 101 (12 * 10 + 0) pump) := cell_ok n 10 a _
      rw [c2, bd_some]
      simp (disch := omega) only [ck_n, ix_n, lt_eq, e51, s2, m1.1 10 a (by omega) (by omega)]
      refine ⟨_, rfl, ?_⟩
      have m2 := mM_put (y := mup (lay N (nP N)) 10 0 pump 10 a + spring) (u := 10) (v := a) (by omega) (by omega) m1
      unfold layS madd
      rw [hz]
      exact m2
  | succ e ih =>
    intro p k σ hp hk hc hsp hpu hM
    obtain ⟨k, rfl⟩ : ∃ k', k = k' + 1 := ⟨k - 1, by omega⟩
    have h20 := hN.1
    have hpl : p < nP N := by omega
    obtain ⟨e4, e5, e6, e7, eb⟩ := hc.2 p hpl
    obtain ⟨g1, g2, g3, _⟩ := hN.2 p hpl
    show ∃ τ, s_X12_layNet_24b n (s_X12_layNet_24 n k) _ _ _ = _ ∧ _
    unfold s_X12_layNet_24b
    rw [hc.1, if_neg (by rw [nle (by omega) (by omega)]; omega), show nI p + 1 = nI (p + 1) from nI_1 p]
    simp (disch := omega) only [ck_n, ix_n, eb, e4, e5]
    by_cases hs : nSh N p = true
    · rw [if_pos hs, if_neg (by decide)]
      exact ih (p + 1) k σ (by omega) (by omega) hc hsp hpu (by rw [lay_s, if_pos hs]; exact hM)
    · rw [if_neg hs, if_pos rfl]
      simp (disch := omega) only [cell_ok, bd_some, ck_n, ix_n, lt_eq, e6, hM.1 (nA N p) (nB N p) (by omega) (by omega)]
      have m1 := mM_put (y := lay N p (nA N p) (nB N p) + nBo N p) (u := nA N p) (v := nB N p) (by omega) (by omega) hM
      have fr1 : ∀ o, o ≠ 101 → ∀ j, up2 σ 101 (12 * nA N p + nB N p) (lay N p (nA N p) (nB N p) + nBo N p) o j = σ o j := fun o h1 j => by simp [up2_app, h1]
      simp (disch := omega) only [cell_ok, bd_some, ck_n, ix_n, lt_eq, fr1 73 (by decide), fr1 74 (by decide), fr1 77 (by decide), e4, e5, e6, m1.1 (nB N p) (nA N p) (by omega) (by omega)]
      have m2 := mM_put (y := mup (lay N p) (nA N p) (nB N p) (lay N p (nA N p) (nB N p) + nBo N p) (nB N p) (nA N p) + nBo N p) (u := nB N p) (v := nA N p) (by omega) (by omega) m1
      have fr2 : ∀ o, o ≠ 101 → ∀ j, up2 (up2 σ 101 (12 * nA N p + nB N p) (lay N p (nA N p) (nB N p) + nBo N p)) 101 (12 * nB N p + nA N p) (mup (lay N p) (nA N p) (nB N p) (lay N p (nA N p) (nB N p) + nBo N p) (nB N p) (nA N p) + nBo N p) o j = σ o j := fun o h1 j => by simp [up2_app, h1]
      refine ih (p + 1) k _ (by omega) (by omega) (mN_of hc (fr2 71 (by decide) 2) (fr2 73 (by decide)) (fr2 74 (by decide)) (fr2 77 (by decide)) (fr2 78 (by decide)) (fr2 79 (by decide))) ?_ (by rw [fr2 72 (by decide)]; exact hpu) ?_
      · unfold mSp
        rw [fr2 71 (by decide), fr2 71 (by decide)]
        exact hsp
      · rw [lay_s, if_neg hs]
        exact m2
theorem mfill_loop {n h : Nat} : ∀ (e i k : Nat) (σ : Sg), i + e = 144 → e < k → (∀ j, j < i → σ 101 j = 0) → ∃ τ, s_X12_layNet_2 n k (nI h) (nI i) σ = s_X12_layNet_24 n n (nI h) 0 τ ∧ (∀ j, j < 144 → τ 101 j = 0) ∧ ∀ o j, o ≠ 101 → τ o j = σ o j := by
  intro e
  induction e with
  | zero =>
    intro i k σ hi hk hz
    obtain ⟨k, rfl⟩ : ∃ k', k = k' + 1 := ⟨k - 1, by omega⟩
    have hi : i = 144 := by omega
    subst hi
    refine ⟨σ, ?_, hz, fun _ _ _ => rfl⟩
    show s_X12_layNet_2b n _ _ _ _ = _
    unfold s_X12_layNet_2b
    rw [if_pos (show (144 : Int32) ≤ nI 144 from Int32.le_refl _)]
  | succ e ih =>
    intro i k σ hi hk hz
    obtain ⟨k, rfl⟩ : ∃ k', k = k' + 1 := ⟨k - 1, by omega⟩
    show ∃ τ, s_X12_layNet_2b n (s_X12_layNet_2 n k) _ _ _ = _ ∧ _
    unfold s_X12_layNet_2b
    rw [if_neg (by rw [show (144 : Int32) = nI 144 from rfl, nle (by omega) (by omega)]; omega)]
    simp (disch := omega) only [ck_n, ix_n, lt_eq]
    rw [show nI i + 1 = nI (i + 1) from nI_1 i]
    obtain ⟨τ, t1, t2, t3⟩ := ih (i + 1) k (up2 σ 101 i 0) (by omega) (by omega) (fun j hj => by
      by_cases h : j = i
      · subst h; simp [up2_app]
      · simp [up2_app, h, hz j (by omega)])
    exact ⟨τ, t1, t2, fun o j ho => by rw [t3 o j ho]; simp [up2_app, ho]⟩
theorem mlay_ok {n a h : Nat} {N : Net} {pump spring : Int32} {σ : Sg} (hN : nok N) (ha : a < 10) (hh : h < 24) (hn : 200 ≤ n) (hc : mN N σ) (hsp : mSp a spring σ) (hpu : σ 72 h = pump) : ∃ τ, s_X12_layNet n (nI h) σ = some τ ∧ mM (layS N pump a spring) 0 0 τ := by
  have h20 := hN.1
  obtain ⟨τ, t1, t2, t3⟩ := mfill_loop (n := n) (h := h) 144 0 n σ (by omega) (by omega) (fun j hj => by omega)
  have t1' : s_X12_layNet n (nI h) σ = s_X12_layNet_24 n n (nI h) (nI 0) τ := t1
  rw [t1']
  refine mlay_loop hN ha hh (nP N) 0 n τ (by omega) (by omega) (mN_of hc (t3 71 2 (by decide)) (fun j => t3 73 j (by decide)) (fun j => t3 74 j (by decide)) (fun j => t3 77 j (by decide)) (fun j => t3 78 j (by decide)) (fun j => t3 79 j (by decide))) ?_ (by rw [t3 72 h (by decide)]; exact hpu) ⟨fun u v hu hv => by rw [t2 _ (by omega)]; rfl, fun u hu => by rw [t2 _ (by omega)]; split <;> rfl⟩
  unfold mSp
  rw [t3 71 50 (by decide), t3 71 51 (by decide)]
  exact hsp
