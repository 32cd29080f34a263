/-! ===== the order, the reference: what is kept aside ===== -/
theorem keep_0 {n j : Nat} {x : Int32} {σ : Sg} (h : j < 64) : s_X12_keep n (nI j) x 0 σ = some (x, up2 σ 109 j x) := by
  unfold s_X12_keep
  rw [if_pos rfl, ck_n h (by omega), lt_eq, ck_n h (by omega), ix_n (by omega)]
  simp [up2_app]
theorem keep_1 {n j : Nat} {x : Int32} {σ : Sg} (h : j < 64) : s_X12_keep n (nI j) x 1 σ = some (σ 109 j, σ) := by
  unfold s_X12_keep
  rw [if_neg (by decide), ck_n h (by omega), ix_n (by omega)]
def kSv (σ0 : Sg) (s : Nat) (σ : Sg) : Prop := (∀ j, j < 6 * s → j % 6 < 5 → σ 109 j = σ0 (88 + j % 6) (j / 6)) ∧ ∀ t, t < s → σ 110 t = vp_nar .boolean (σ0 86 t)
theorem up2_same {σ : Sg} {o j o' k : Nat} {v : Int32} (h : v = σ o j) : up2 σ o j v o' k = σ o' k := by
  rw [up2_app]
  by_cases h1 : o' = o
  · by_cases h2 : k = j
    · rw [if_pos h1, if_pos h2, h1, h2, h]
    · rw [if_pos h1, if_neg h2]
  · rw [if_neg h1]
theorem save_go {n : Nat} {σ0 : Sg} : ∀ (e s k : Nat) (σ : Sg), s + e = 10 → e < k → kSv σ0 s σ → (∀ o j, o ≠ 109 → o ≠ 110 → σ o j = σ0 o j) → ∃ τ, s_X12_keepAll_2 n k 0 (nI s) σ = some τ ∧ kSv σ0 10 τ ∧ τ 109 60 = σ0 71 25 ∧ ∀ o j, o ≠ 109 → o ≠ 110 → τ o j = σ0 o j := by
  intro e
  induction e with
  | zero =>
    intro s k σ hs hk hS hf
    obtain ⟨k, rfl⟩ : ∃ k', k = k' + 1 := ⟨k - 1, by omega⟩
    have hs : s = 10 := by omega
    subst hs
    show ∃ τ, s_X12_keepAll_2b n _ _ _ _ = _ ∧ _
    unfold s_X12_keepAll_2b
    rw [if_pos (by decide), show (60 : Int32) = nI 60 from rfl, keep_0 (by omega), bd_so, lt_eq]
    have h25 : σ 71 25 = σ0 71 25 := hf 71 25 (by decide) (by decide)
    refine ⟨_, rfl, ⟨fun j h1 h2 => ?_, fun t ht => ?_⟩, ?_, fun o j h1 h2 => ?_⟩
    · rw [up2_o (by decide)]
      simp only [up2_app, show ¬ j = 60 by omega, if_false, ite_self]
      exact hS.1 j h1 h2
    · rw [up2_o (by decide), up2_o (by decide)]
      exact hS.2 t ht
    · rw [up2_o (by decide), up2_app, if_pos rfl, if_pos rfl, h25]
    · rw [up2_same (up2_o (by decide)).symm, up2_o h1]
      exact hf o j h1 h2
  | succ e ih =>
    intro s k σ hs hk hS hf
    obtain ⟨k, rfl⟩ : ∃ k', k = k' + 1 := ⟨k - 1, by omega⟩
    show ∃ τ, s_X12_keepAll_2b n (s_X12_keepAll_2 n k) _ _ _ = _ ∧ _
    unfold s_X12_keepAll_2b
    have a0 : (6 : Int32) * nI s = nI (6 * s) := nmul 6 s
    have a1 : nI (6 * s) + 1 = nI (6 * s + 1) := nI_1 _
    have a2 : nI (6 * s) + 2 = nI (6 * s + 2) := nadd _ 2
    have a3 : nI (6 * s) + 3 = nI (6 * s + 3) := nadd _ 3
    have a4 : nI (6 * s) + 4 = nI (6 * s + 4) := nadd _ 4
    rw [if_neg (by rw [show (10 : Int32) = nI 10 from rfl, nle (by omega) (by omega)]; omega)]
    simp (disch := omega) only [a0, a1, a2, a3, a4, ck_n, ix_n, keep_0, bd_so, lt_eq, if_true]
    rw [show nI s + 1 = nI (s + 1) from nI_1 s]
    have f : ∀ o, o ≠ 109 → o ≠ 110 → ∀ j, σ o j = σ0 o j := fun o h1 h2 j => hf o j h1 h2
    refine ih (s + 1) k _ (by omega) (by omega) ⟨fun j h1 h2 => ?_, fun t ht => ?_⟩ (fun o j h1 h2 => ?_)
    · simp only [up2_app, show ¬ (109 : Nat) = 110 by decide, show ¬ (109 : Nat) = 92 by decide, show ¬ (109 : Nat) = 91 by decide, show ¬ (109 : Nat) = 90 by decide, show ¬ (109 : Nat) = 89 by decide, show ¬ (109 : Nat) = 88 by decide, show ¬ (89 : Nat) = 88 by decide, show ¬ (90 : Nat) = 88 by decide, show ¬ (90 : Nat) = 89 by decide, show ¬ (91 : Nat) = 88 by decide, show ¬ (91 : Nat) = 89 by decide, show ¬ (91 : Nat) = 90 by decide, show ¬ (92 : Nat) = 88 by decide, show ¬ (92 : Nat) = 89 by decide, show ¬ (92 : Nat) = 90 by decide, show ¬ (92 : Nat) = 91 by decide, show ¬ (89 : Nat) = 109 by decide, show ¬ (90 : Nat) = 109 by decide, show ¬ (91 : Nat) = 109 by decide, show ¬ (92 : Nat) = 109 by decide, if_false, if_true]
      by_cases e4 : j = 6 * s + 4
      · rw [if_pos e4, f 92 (by decide) (by decide), e4, show (6 * s + 4) % 6 = 4 by omega, show (6 * s + 4) / 6 = s by omega]
      · rw [if_neg e4]
        by_cases e3 : j = 6 * s + 3
        · rw [if_pos e3, f 91 (by decide) (by decide), e3, show (6 * s + 3) % 6 = 3 by omega, show (6 * s + 3) / 6 = s by omega]
        · rw [if_neg e3]
          by_cases e2 : j = 6 * s + 2
          · rw [if_pos e2, f 90 (by decide) (by decide), e2, show (6 * s + 2) % 6 = 2 by omega, show (6 * s + 2) / 6 = s by omega]
          · rw [if_neg e2]
            by_cases e1 : j = 6 * s + 1
            · rw [if_pos e1, f 89 (by decide) (by decide), e1, show (6 * s + 1) % 6 = 1 by omega, show (6 * s + 1) / 6 = s by omega]
            · rw [if_neg e1]
              by_cases e0 : j = 6 * s
              · rw [if_pos e0, f 88 (by decide) (by decide), e0, show (6 * s) % 6 = 0 by omega, show (6 * s) / 6 = s by omega]
              · rw [if_neg e0]
                exact hS.1 j (by omega) h2
    · by_cases e1 : t = s
      · rw [e1, up2_app, if_pos rfl, if_pos rfl]
        congr 1
        simp only [up2_app, show ¬ (86 : Nat) = 92 by decide, show ¬ (86 : Nat) = 109 by decide, show ¬ (86 : Nat) = 91 by decide, show ¬ (86 : Nat) = 90 by decide, show ¬ (86 : Nat) = 89 by decide, show ¬ (86 : Nat) = 88 by decide, if_false]
        exact f 86 (by decide) (by decide) s
      · simp only [up2_app, e1, if_false, if_true, show ¬ (110 : Nat) = 92 by decide, show ¬ (110 : Nat) = 109 by decide, show ¬ (110 : Nat) = 91 by decide, show ¬ (110 : Nat) = 90 by decide, show ¬ (110 : Nat) = 89 by decide, show ¬ (110 : Nat) = 88 by decide]
        exact hS.2 t (by omega)
    · rw [up2_o h2, up2_same (up2_o (by decide)).symm, up2_o h1, up2_same (up2_o (by decide)).symm, up2_o h1, up2_same (up2_o (by decide)).symm, up2_o h1, up2_same (up2_o (by decide)).symm, up2_o h1, up2_same (up2_o (by decide)).symm, up2_o h1]
      exact hf o j h1 h2
theorem keep_save {n : Nat} {σ : Sg} (hn : 20 ≤ n) : ∃ τ, s_X12_keepAll n 0 σ = some τ ∧ kSv σ 10 τ ∧ τ 109 60 = σ 71 25 ∧ ∀ o j, o ≠ 109 → o ≠ 110 → τ o j = σ o j := save_go (n := n) (σ0 := σ) 10 0 n σ (by omega) (by omega) ⟨fun j hj => by omega, fun t ht => absurd ht (Nat.not_lt_zero _)⟩ (fun _ _ _ _ => rfl)
theorem back_go {n : Nat} {σ0 : Sg} : ∀ (e s k : Nat) (σ : Sg), s + e = 10 → e < k → kSv σ0 10 σ → σ 109 60 = σ0 71 25 → (∀ t, t < s → (∀ o, 88 ≤ o → o ≤ 92 → σ o t = σ0 o t) ∧ σ 86 t = vp_nar .boolean (vp_nar .boolean (σ0 86 t))) → ∃ τ, s_X12_keepAll_2 n k 1 (nI s) σ = some τ ∧ (∀ t, t < 10 → (∀ o, 88 ≤ o → o ≤ 92 → τ o t = σ0 o t) ∧ τ 86 t = vp_nar .boolean (vp_nar .boolean (σ0 86 t))) ∧ τ 71 25 = σ0 71 25 := by
  intro e
  induction e with
  | zero =>
    intro s k σ hs hk hS h60 hd
    obtain ⟨k, rfl⟩ : ∃ k', k = k' + 1 := ⟨k - 1, by omega⟩
    have hs : s = 10 := by omega
    subst hs
    show ∃ τ, s_X12_keepAll_2b n _ _ _ _ = _ ∧ _
    unfold s_X12_keepAll_2b
    rw [if_pos (by decide), show (60 : Int32) = nI 60 from rfl, keep_1 (by omega), bd_so, lt_eq]
    refine ⟨_, rfl, fun t ht => ⟨fun o h1 h2 => ?_, ?_⟩, ?_⟩
    · rw [up2_o (by omega)]; exact (hd t ht).1 o h1 h2
    · rw [up2_o (by decide)]; exact (hd t ht).2
    · rw [up2_app, if_pos rfl, if_pos rfl]; exact h60
  | succ e ih =>
    intro s k σ hs hk hS h60 hd
    obtain ⟨k, rfl⟩ : ∃ k', k = k' + 1 := ⟨k - 1, by omega⟩
    show ∃ τ, s_X12_keepAll_2b n (s_X12_keepAll_2 n k) _ _ _ = _ ∧ _
    unfold s_X12_keepAll_2b
    have a0 : (6 : Int32) * nI s = nI (6 * s) := nmul 6 s
    have a1 : nI (6 * s) + 1 = nI (6 * s + 1) := nI_1 _
    have a2 : nI (6 * s) + 2 = nI (6 * s + 2) := nadd _ 2
    have a3 : nI (6 * s) + 3 = nI (6 * s + 3) := nadd _ 3
    have a4 : nI (6 * s) + 4 = nI (6 * s + 4) := nadd _ 4
    have b0 := hS.1 (6 * s) (by omega) (by omega)
    have b1 := hS.1 (6 * s + 1) (by omega) (by omega)
    have b2 := hS.1 (6 * s + 2) (by omega) (by omega)
    have b3 := hS.1 (6 * s + 3) (by omega) (by omega)
    have b4 := hS.1 (6 * s + 4) (by omega) (by omega)
    rw [show (6 * s) % 6 = 0 by omega, show (6 * s) / 6 = s by omega] at b0
    rw [show (6 * s + 1) % 6 = 1 by omega, show (6 * s + 1) / 6 = s by omega] at b1
    rw [show (6 * s + 2) % 6 = 2 by omega, show (6 * s + 2) / 6 = s by omega] at b2
    rw [show (6 * s + 3) % 6 = 3 by omega, show (6 * s + 3) / 6 = s by omega] at b3
    rw [show (6 * s + 4) % 6 = 4 by omega, show (6 * s + 4) / 6 = s by omega] at b4
    rw [if_neg (by rw [show (10 : Int32) = nI 10 from rfl, nle (by omega) (by omega)]; omega)]
    have n1 : ¬ (1 : Int32) = 0 := by decide
    have u9 : ∀ (ρ : Sg) (o : Nat) (v : Int32) (j : Nat), o ≠ 109 → up2 ρ o s v 109 j = ρ 109 j := fun ρ o v j h => up2_o (Ne.symm h)
    have u10 : ∀ (ρ : Sg) (o : Nat) (v : Int32) (j : Nat), o ≠ 110 → up2 ρ o s v 110 j = ρ 110 j := fun ρ o v j h => up2_o (Ne.symm h)
    simp (disch := omega) only [a0, a1, a2, a3, a4, ck_n, ix_n, keep_1, bd_so, lt_eq, n1, if_false, u9, u10, b0, b1, b2, b3, b4, hS.2 s (by omega)]
    rw [show nI s + 1 = nI (s + 1) from nI_1 s]
    refine ih (s + 1) k _ (by omega) (by omega) ⟨fun j h1 h2 => ?_, fun t ht => ?_⟩ ?_ (fun t ht => ?_)
    · rw [up2_o (by decide), up2_o (by decide), up2_o (by decide), up2_o (by decide), up2_o (by decide), up2_o (by decide)]
      exact hS.1 j h1 h2
    · rw [up2_o (by decide), up2_o (by decide), up2_o (by decide), up2_o (by decide), up2_o (by decide), up2_o (by decide)]
      exact hS.2 t ht
    · rw [up2_o (by decide), up2_o (by decide), up2_o (by decide), up2_o (by decide), up2_o (by decide), up2_o (by decide)]
      exact h60
    · by_cases e1 : t = s
      · subst e1
        refine ⟨fun o h1 h2 => ?_, by simp [up2_app]⟩
        rcases (show o = 88 ∨ o = 89 ∨ o = 90 ∨ o = 91 ∨ o = 92 by omega) with rfl | rfl | rfl | rfl | rfl <;> simp [up2_app]
      · have := hd t (by omega)
        refine ⟨fun o h1 h2 => ?_, ?_⟩
        · simp only [up2_app, e1, if_false, ite_self]
          exact this.1 o h1 h2
        · simp only [up2_app, e1, if_false, ite_self]
          exact this.2
theorem keep_back {n : Nat} {σ0 σ : Sg} (hn : 20 ≤ n) (h1 : kSv σ0 10 σ) (h2 : σ 109 60 = σ0 71 25) : ∃ τ, s_X12_keepAll n 1 σ = some τ ∧ (∀ t, t < 10 → (∀ o, 88 ≤ o → o ≤ 92 → τ o t = σ0 o t) ∧ τ 86 t = vp_nar .boolean (vp_nar .boolean (σ0 86 t))) ∧ τ 71 25 = σ0 71 25 := back_go (n := n) 10 0 n σ (by omega) (by omega) h1 h2 (fun t ht => absurd ht (Nat.not_lt_zero _))
theorem empty_go {n ns : Nat} (hns : ns ≤ 10) : ∀ (e s k : Nat) (σ : Sg), s + e = ns → e < k → σ 71 11 = nI ns → (∀ t, t < s → σ 88 t = 0) → ∃ τ, s_X12_emptyAll_2 n k (nI s) σ = some τ ∧ (∀ t, t < ns → τ 88 t = 0) ∧ ∀ o j, (o ≠ 88 ∨ ns ≤ j) → τ o j = σ o j := by
  intro e
  induction e with
  | zero =>
    intro s k σ hs hk h0 hd
    obtain ⟨k, rfl⟩ : ∃ k', k = k' + 1 := ⟨k - 1, by omega⟩
    have hs : s = ns := by omega
    subst hs
    refine ⟨σ, ?_, hd, fun _ _ _ => rfl⟩
    show s_X12_emptyAll_2b n _ _ _ = _
    unfold s_X12_emptyAll_2b
    rw [h0, if_pos (Int32.le_refl _)]
  | succ e ih =>
    intro s k σ hs hk h0 hd
    obtain ⟨k, rfl⟩ : ∃ k', k = k' + 1 := ⟨k - 1, by omega⟩
    show ∃ τ, s_X12_emptyAll_2b n (s_X12_emptyAll_2 n k) _ _ = _ ∧ _
    unfold s_X12_emptyAll_2b
    rw [h0, if_neg (by rw [nle (by omega) (by omega)]; omega), ck_n (by omega) (by omega), ix_n (by omega), lt_eq, show nI s + 1 = nI (s + 1) from nI_1 s]
    obtain ⟨τ, t1, t2, t3⟩ := ih (s + 1) k (up2 σ 88 s 0) (by omega) (by omega) (by rw [up2_o (by decide)]; exact h0) (fun t ht => by
      by_cases e1 : t = s
      · rw [e1]; simp [up2_app]
      · simp only [up2_app, e1, if_false, ite_self]; exact hd t (by omega))
    refine ⟨τ, t1, t2, fun o j ho => ?_⟩
    rw [t3 o j ho]
    rcases ho with h | h
    · exact up2_o h
    · simp only [up2_app, show ¬ j = s by omega, if_false, ite_self]
/-! ===== a day is tried ===== -/
def dcs (N : Net) (S : Str) (K : Nat → Bool) (pu : Nat → Int32) (L : Lw) (X : Nat) : Nat := (dyS (N, S, fun s => K s || X.testBit s, pu, 0, 0) L true (fun _ => 0) 24).1
theorem dcs_le (N : Net) (S : Str) (K : Nat → Bool) (pu : Nat → Int32) (L : Lw) (X : Nat) : dcs N S K pu L X ≤ 24 := dyS_le _ _ _ _ 24
def oM (N : Net) (S : Str) (K : Nat → Bool) (pu : Nat → Int32) (L : Lw) (σ : Sg) : Prop := mN N σ ∧ mS' S σ ∧ (∀ s, s < sN S → σ 110 s = zo (K s)) ∧ mW L σ ∧ σ 71 50 = -1 ∧ (∀ h, h < 24 → σ 72 h = pu h) ∧ (∀ X, X < 1024 → σ 113 X = -1 ∨ σ 113 X = nI (dcs N S K pu L X)) ∧ ∀ s, sN S ≤ s → s < 10 → σ 88 s = 0
theorem mday_loop {n H : Nat} {T : Tn} {L : Lw} {x1 : Int32} {c : Nat → Int32} (hn : 11000 ≤ n) (ht : tok T) (hk : L.2.1 ≤ 4) (hc : cok (tS T) c) (hH : H = 24) : ∀ (e h k : Nat) (σ : Sg), h + e = H → e < k → mDy T L (dyS T L true c h).2 σ → ∃ τ, s_X12_tryDay_62 n k x1 (nI (dyS T L true c h).1) (nI h) σ = ck x1 1024 (some (up2 τ 113 (ix x1) (nI (dyS T L true c H).1) 113 (ix x1), up2 τ 113 (ix x1) (nI (dyS T L true c H).1))) ∧ mDy T L (dyS T L true c H).2 τ ∧ ∀ o j, fok W_X12_doHour o j = true → τ o j = σ o j := by
  intro e
  induction e with
  | zero =>
    intro h k σ hh hk2 hd
    obtain ⟨k, rfl⟩ : ∃ k', k = k' + 1 := ⟨k - 1, by omega⟩
    have hh : h = H := by omega
    subst hh
    refine ⟨σ, ?_, hd, fun _ _ _ => rfl⟩
    show s_X12_tryDay_62b n _ _ _ _ _ = _
    unfold s_X12_tryDay_62b
    rw [if_pos (by rw [hH]; decide)]
    simp only [lt_eq]
    unfold ck
    by_cases hb : ib x1 1024 = true
    · rw [if_pos hb, if_pos hb]
    · rw [if_neg hb, if_neg hb]
  | succ e ih =>
    intro h k σ hh hk2 hd
    obtain ⟨k, rfl⟩ : ∃ k', k = k' + 1 := ⟨k - 1, by omega⟩
    have hcc := dyS_ok (b := true) ht hk hc h (by omega)
    obtain ⟨τ1, a1, a2, _, _, _⟩ := mhour_ok (n := n) (h := h) (b := true) hn ht hk hcc (by omega) hd
    have a1' : s_X12_doHour n (nI h) 1 σ = some (zo (tD T L true h (dyS T L true c h).2), τ1) := a1
    have f1 : ∀ o j, fok W_X12_doHour o j = true → τ1 o j = σ o j := fun o j p => fr_s_X12_doHour p _ _ _ a1'
    have hle := dyS_le T L true c h
    show ∃ τ, s_X12_tryDay_62b n (s_X12_tryDay_62 n k) _ _ _ _ = _ ∧ _
    unfold s_X12_tryDay_62b
    rw [if_neg (by rw [show (24 : Int32) = nI 24 from rfl, nle (by omega) (by omega)]; omega), a1', bd_so, one_ok, bd_so, lt_eq, show nI h + 1 = nI (h + 1) from nI_1 h, zs, nadd]
    obtain ⟨τ, t1, t2, t3⟩ := ih (h + 1) k τ1 (by omega) (by omega) a2
    exact ⟨τ, t1, t2, fun o j p => (t3 o j p).trans (f1 o j p)⟩
theorem nx10 {X s : Nat} (hX : X < 1024) (hs : s < 10) : X ||| 2 ^ s < 1024 := Nat.or_lt_two_pow (n := 10) hX (by
  show 2 ^ s < 2 ^ 10
  exact Nat.pow_lt_pow_right (by decide) hs)
theorem or_x {X s : Nat} (hX : X < 1024) (hs : s < 10) : nI X ||| sl 1 (nI s) = nI (X ||| 2 ^ s) := by
  have h1 := nx10 hX hs
  apply b_ext
  intro i hi
  rw [b_or, sl1_bt (by omega) hi, bt_n i (by omega), bt_n i (by omega), Nat.testBit_or, Nat.testBit_two_pow]
  congr 1
  by_cases h : i = s
  · rw [decide_eq_true h, decide_eq_true h.symm]
  · rw [decide_eq_false h, decide_eq_false (fun z => h z.symm)]
theorem kinds_go {n X : Nat} {K : Nat → Bool} {ns : Nat} {x2 : Int32} (hX : X < 1024) (hns : ns ≤ 10) : ∀ (e s k : Nat) (σ : Sg), s + e = ns → e < k → σ 71 11 = nI ns → (∀ t, t < ns → σ 110 t = zo (K t)) → (∀ t, t < s → σ 86 t = zo (K t || X.testBit t)) → ∃ τ, s_X12_tryDay_17 n k (nI X) x2 (nI s) σ = s_X12_tryDay_62 n n (nI X) x2 0 τ ∧ (∀ t, t < ns → τ 86 t = zo (K t || X.testBit t)) ∧ ∀ o j, o ≠ 86 → τ o j = σ o j := by
  intro e
  induction e with
  | zero =>
    intro s k σ hs hk h0 hK hd
    obtain ⟨k, rfl⟩ : ∃ k', k = k' + 1 := ⟨k - 1, by omega⟩
    have hs : s = ns := by omega
    subst hs
    refine ⟨σ, ?_, hd, fun _ _ _ => rfl⟩
    show s_X12_tryDay_17b n _ _ _ _ _ = _
    unfold s_X12_tryDay_17b
    rw [h0, if_pos (Int32.le_refl _)]
  | succ e ih =>
    intro s k σ hs hk h0 hK hd
    obtain ⟨k, rfl⟩ : ∃ k', k = k' + 1 := ⟨k - 1, by omega⟩
    show ∃ τ, s_X12_tryDay_17b n (s_X12_tryDay_17 n k) _ _ _ _ = _ ∧ _
    unfold s_X12_tryDay_17b
    rw [h0, if_neg (by rw [nle (by omega) (by omega)]; omega), ck_n (by omega) (by omega), ix_n (by omega), hK s (by omega), sr_bit (nI X) (show s < 32 by omega), bt_n s (by omega), lt_eq, ck_n (by omega) (by omega), lt_eq, show nI s + 1 = nI (s + 1) from nI_1 s]
    have hv : (if zo (K s) = 0 then if (if X.testBit s = true then (1 : Int32) else 0) = 1 then (1 : Int32) else 0 else 1) = zo (K s || X.testBit s) := by
      cases K s <;> cases X.testBit s <;> decide
    rw [hv, nar_b]
    obtain ⟨τ, t1, t2, t3⟩ := ih (s + 1) k (up2 σ 86 s (zo (K s || X.testBit s))) (by omega) (by omega) (by rw [up2_o (by decide)]; exact h0) (fun t ht => by rw [up2_o (by decide)]; exact hK t ht) (fun t ht => by
      by_cases e1 : t = s
      · rw [e1]; simp [up2_app]
      · simp only [up2_app, e1, if_false, ite_self]; exact hd t (by omega))
    exact ⟨τ, t1, t2, fun o j h => by rw [t3 o j h, up2_o h]⟩
theorem try_ok {n X : Nat} {N : Net} {S : Str} {K : Nat → Bool} {pu : Nat → Int32} {L : Lw} {σ : Sg} (hn : 11000 ≤ n) (hX : X < 1024) (hN : nok N) (hS : sok S) (hk : L.2.1 ≤ 4) (hpu : ∀ h, h < 24 → 0 ≤ (pu h).toInt ∧ (pu h).toInt ≤ 9999) (hI : oM N S K pu L σ) : ∃ τ, s_X12_tryDay n (nI X) σ = some (nI (dcs N S K pu L X), τ) ∧ oM N S K pu L τ := by
  obtain ⟨i1, i2, i3, i4, i5, i6, i7, i8⟩ := id hI
  have hle := dcs_le N S K pu L X
  have h10 := hS.1
  unfold s_X12_tryDay
  rw [ck_n hX (by omega), ix_n (by omega)]
  by_cases hv : 0 ≤ σ 113 X
  · rw [if_pos hv, ck_n hX (by omega)]
    rcases i7 X hX with h | h
    · rw [h] at hv; exact absurd hv (by decide)
    · exact ⟨σ, by rw [h], hI⟩
  · rw [if_neg hv]
    obtain ⟨τ1, a1, a2, a3⟩ := empty_go (n := n) h10 (sN S) 0 n σ (by omega) (by omega) i2.1 (fun t ht => absurd ht (Nat.not_lt_zero _))
    have a1' : s_X12_emptyAll n σ = some τ1 := a1
    obtain ⟨τ2, b1, b2, b3⟩ := kinds_go (n := n) (K := K) (x2 := 0) hX h10 (sN S) 0 n τ1 (by omega) (by omega) (by rw [a3 71 11 (.inl (by decide))]; exact i2.1) (fun t ht => by rw [a3 110 t (.inl (by decide))]; exact i3 t ht) (fun t ht => absurd ht (Nat.not_lt_zero _))
    have f2 : ∀ o j, o ≠ 86 → (o ≠ 88 ∨ sN S ≤ j) → τ2 o j = σ o j := fun o j h1 h2 => by rw [b3 o j h1, a3 o j h2]
    have ht : tok (N, S, fun s => K s || X.testBit s, pu, 0, 0) := ⟨hN, hS, hpu, by show 0 < 10; omega, by show 0 ≤ (0 : Int32).toInt; decide, by show (0 : Int32).toInt ≤ 999; decide⟩
    have g : ∀ o, o ≠ 86 → o ≠ 88 → ∀ j, τ2 o j = σ o j := fun o h1 h2 j => f2 o j h1 (.inl h2)
    obtain ⟨τ3, c1, c2, c3⟩ := mday_loop (n := n) (T := (N, S, fun s => K s || X.testBit s, pu, 0, 0)) (L := L) (x1 := nI X) (c := fun _ => 0) hn ht hk (cok_0 hS) rfl 24 0 n τ2 (by omega) (by omega) (by
      refine ⟨⟨mN_of i1 (g 71 (by decide) (by decide) 2) (g 73 (by decide) (by decide)) (g 74 (by decide) (by decide)) (g 77 (by decide) (by decide)) (g 78 (by decide) (by decide)) (g 79 (by decide) (by decide)), ⟨by rw [g 71 (by decide) (by decide)]; exact i2.1, fun s hs => ?_⟩, fun s hs => ⟨b2 s hs, ?_⟩, ?_⟩, .inl ⟨by rw [g 71 (by decide) (by decide)]; exact i5, rfl, rfl⟩, fun h hh => by rw [g 72 (by decide) (by decide)]; exact i6 h hh, fun s hs hs2 => by rw [f2 88 s (by decide) (.inr hs)]; exact i8 s hs hs2⟩
      · rw [g 81 (by decide) (by decide), g 82 (by decide) (by decide), g 83 (by decide) (by decide), g 84 (by decide) (by decide), g 85 (by decide) (by decide)]; exact i2.2 s hs
      · rw [b3 88 s (by decide)]; exact a2 s hs
      · unfold mW
        rw [g 71 (by decide) (by decide), g 71 (by decide) (by decide), g 71 (by decide) (by decide), g 71 (by decide) (by decide)]; exact i4)
    have c1' : s_X12_tryDay_62 n n (nI X) 0 0 τ2 = ck (nI X) 1024 (some (up2 τ3 113 (ix (nI X)) (nI (dcs N S K pu L X)) 113 (ix (nI X)), up2 τ3 113 (ix (nI X)) (nI (dcs N S K pu L X)))) := c1
    have b1' : s_X12_tryDay_17 n n (nI X) 0 0 τ1 = s_X12_tryDay_62 n n (nI X) 0 0 τ2 := b1
    rw [a1', bdv_so, b1', c1', ck_n hX (by omega), ix_n (by omega)]
    have q : up2 τ3 113 X (nI (dcs N S K pu L X)) 113 X = nI (dcs N S K pu L X) := by simp [up2_app]
    rw [q]
    have k : ∀ o j, o ≠ 113 → o ≠ 86 → o ≠ 88 → fok W_X12_doHour o j = true → up2 τ3 113 X (nI (dcs N S K pu L X)) o j = σ o j := fun o j h1 h2 h3 h4 => by rw [up2_o h1, c3 o j h4, g o h2 h3 j]
    refine ⟨_, rfl, mN_of i1 (k 71 2 (by decide) (by decide) (by decide) rfl) (fun j => k 73 j (by decide) (by decide) (by decide) rfl) (fun j => k 74 j (by decide) (by decide) (by decide) rfl) (fun j => k 77 j (by decide) (by decide) (by decide) rfl) (fun j => k 78 j (by decide) (by decide) (by decide) rfl) (fun j => k 79 j (by decide) (by decide) (by decide) rfl), ⟨by rw [k 71 11 (by decide) (by decide) (by decide) rfl]; exact i2.1, fun s hs => ?_⟩, fun s hs => by rw [k 110 s (by decide) (by decide) (by decide) rfl]; exact i3 s hs, ?_, by rw [k 71 50 (by decide) (by decide) (by decide) rfl]; exact i5, fun h hh => by rw [k 72 h (by decide) (by decide) (by decide) rfl]; exact i6 h hh, fun Y hY => ?_, fun s hs hs2 => by rw [up2_o (by decide)]; exact c2.2.2.2 s hs hs2⟩
    · rw [k 81 s (by decide) (by decide) (by decide) rfl, k 82 s (by decide) (by decide) (by decide) rfl, k 83 s (by decide) (by decide) (by decide) rfl, k 84 s (by decide) (by decide) (by decide) rfl, k 85 s (by decide) (by decide) (by decide) rfl]; exact i2.2 s hs
    · unfold mW
      rw [k 71 41 (by decide) (by decide) (by decide) rfl, k 71 42 (by decide) (by decide) (by decide) rfl, k 71 43 (by decide) (by decide) (by decide) rfl, k 71 44 (by decide) (by decide) (by decide) rfl]; exact i4
    · by_cases e1 : Y = X
      · rw [e1]; exact .inr q
      · simp only [up2_app, e1, if_false, ite_self]
        rw [c3 113 Y rfl, g 113 (by decide) (by decide)]
        exact i7 Y hY
