/-! ===== what an hour reads and what it writes, the class ===== -/
abbrev scrC : List Nat := [10, 39, 41, 42, 43, 44, 45, 47, 48, 49, 50]
def cDat (N : Net) (S : Str) (K : Knd) (L : Lw) (st lc : Nat) (σ : Sg) : Prop := cN N σ ∧ cS S σ ∧ cK S K st σ ∧ cW L lc σ
theorem zSt_scr {st : Nat} (h : zStand st) : rf st 0 ∉ scrC ∧ rf st 1 ∉ scrC := by rcases h with rfl | rfl | rfl <;> decide
theorem zLw_scr {lc : Nat} (h : zLaw lc) : lc ∉ scrC := by
  unfold zLaw at h
  simp only [List.mem_cons, List.not_mem_nil, or_false, not_or]
  omega
theorem cDat_of {N : Net} {S : Str} {K : Knd} {L : Lw} {st lc : Nat} {σ τ : Sg} (hst : zStand st) (hlc : zLaw lc) (h : cDat N S K L st lc σ) (hf : ∀ o j, o ∉ scrC → τ o j = σ o j) : cDat N S K L st lc τ := by
  obtain ⟨h1, h2, h3, h4⟩ := h
  refine ⟨cN_of h1 (fun j => hf 3 j (by decide)) (fun j => hf 4 j (by decide)) (fun j => hf 5 j (by decide)) (fun j => hf 6 j (by decide)) (fun j => hf 7 j (by decide)), ?_, ?_, ?_⟩
  · unfold cS
    simp only [hf 11 _ (by decide), hf 12 _ (by decide), hf 14 _ (by decide), hf 15 _ (by decide), hf 16 _ (by decide)]
    exact h2
  · unfold cK
    simp only [hf _ _ (zSt_scr hst).1, hf _ _ (zSt_scr hst).2]
    exact h3
  · unfold cW
    simp only [hf _ _ (zLw_scr hlc)]
    exact h4
/-- behind s streets that were asked -/
def cAsk (N : Net) (S : Str) (K : Knd) (L : Lw) (h : Int32) (s : Nat) (σ : Sg) : Prop := σ 39 9 = nI (lnS N L S K h s).1 ∧ (∀ i, i < (lnS N L S K h s).1 → σ 45 i = nI ((lnS N L S K h s).2 i)) ∧ ∀ t, t < s → σ 41 t = askF L S K h t ∧ σ 42 t = 0
theorem ask_loop {n st lc : Nat} {N : Net} {S : Str} {K : Knd} {L : Lw} {h r5 : Int32} (hn : 20 ≤ n) (hS : sok S) (hst : zStand st) (hlc : zLaw lc) (hkm : L.2.1 ≤ 4) (hr : r5 = zo (decide (L.2.2.1 ≤ h) && decide (h ≤ L.2.2.2))) : ∀ (e s k : Nat) (σ : Sg), s + e = sN S → e < k → cDat N S K L st lc σ → ((∃ k, k < L.2.1 ∧ kyF L k = 3) → cF (dstN N) σ) → cAsk N S K L h s σ → ∃ τ, s_X9_ask_38 n k st lc r5 (nI s) σ = some τ ∧ cAsk N S K L h (sN S) τ := by
  intro e
  induction e with
  | zero =>
    intro s k σ hs hk hd hfar hA
    obtain ⟨k, rfl⟩ : ∃ k', k = k' + 1 := ⟨k - 1, by omega⟩
    have h10 := hS.1
    have hs : s = sN S := by omega
    subst hs
    refine ⟨σ, ?_, hA⟩
    show s_X9_ask_38b n _ _ _ _ _ _ = _
    unfold s_X9_ask_38b
    rw [hd.2.1.1, if_pos (by rw [nle (by omega) (by omega)]; exact Nat.le_refl _)]
  | succ e ih =>
    intro s k σ hs hk hd hfar hA
    obtain ⟨k, rfl⟩ : ∃ k', k = k' + 1 := ⟨k - 1, by omega⟩
    have h10 := hS.1
    have hsl : s < sN S := by omega
    obtain ⟨c1, c2, c3, c4⟩ := hd.2.1.2 s hsl
    obtain ⟨k1, k2⟩ := hd.2.2.1 s hsl
    have hln := lnS_ok N L S K h s
    have z0 := zSt_scr hst
    have n41 : rf st 0 ≠ 41 := fun z => z0.1 (by rw [z]; decide)
    have n42 : rf st 0 ≠ 42 := fun z => z0.1 (by rw [z]; decide)
    have m41 : rf st 1 ≠ 41 := fun z => z0.2 (by rw [z]; decide)
    have m42 : rf st 1 ≠ 42 := fun z => z0.2 (by rw [z]; decide)
    show ∃ τ, s_X9_ask_38b n (s_X9_ask_38 n k) _ _ _ _ _ = _ ∧ _
    unfold s_X9_ask_38b
    rw [hd.2.1.1, if_neg (by rw [nle (by omega) (by omega)]; omega)]
    simp (disch := omega) only [ck_n, ix_n, lt_eq]
    -- asked and got are nothing at first
    have eK : up2 (up2 σ 41 s 0) 42 s 0 (rf st 0) s = zo (K.1 s) := by rw [up2_o n42, up2_o n41]; exact k1
    have fr0 : ∀ o j, o ∉ scrC → up2 (up2 σ 41 s 0) 42 s 0 o j = σ o j := fun o j ho => by
      rw [up2_o (fun z => ho (by rw [z]; decide)), up2_o (fun z => ho (by rw [z]; decide))]
    -- a street with water on
    have on82 : won L K h s = true → ∃ τ, s_X9_ask_82 n (s_X9_ask_38 n k) st lc r5 (nI s) (up2 (up2 σ 41 s 0) 42 s 0) = some τ ∧ cAsk N S K L h (sN S) τ := by
      intro hon
      have e14 : up2 (up2 σ 41 s 0) 42 s 0 14 s = sQ S s := by rw [up2_o (by decide), up2_o (by decide)]; exact c2
      have e15 : up2 (up2 σ 41 s 0) 42 s 0 15 s = sW S s := by rw [up2_o (by decide), up2_o (by decide)]; exact c3
      -- behind 'asked' is known
      have go148 : ∀ (ρ : Sg), (∀ o j, o ∉ scrC → ρ o j = σ o j) → ρ 41 s = askF L S K h s → ρ 42 s = 0 → ρ 39 9 = σ 39 9 → (∀ i, ρ 45 i = σ 45 i) → (∀ v, ρ 10 v = σ 10 v) → (∀ t, t ≠ s → ρ 41 t = σ 41 t ∧ ρ 42 t = σ 42 t) → ∃ τ, s_X9_ask_148 n (s_X9_ask_38 n k) st lc r5 (nI s) ρ = some τ ∧ cAsk N S K L h (sN S) τ := by
        intro ρ hfr h41 h42 h39 h45 hp10 hot
        unfold s_X9_ask_148
        have hdρ : cDat N S K L st lc ρ := cDat_of hst hlc hd hfr
        have hfarρ : (∃ k, k < L.2.1 ∧ kyF L k = 3) → cF (dstN N) ρ := fun z v hv => by rw [hp10]; exact hfar z v hv
        have hq : ∃ τ1, s_X9_queueUp n (nI s) st lc ρ = some τ1 ∧ (∀ i, i ≤ (lnS N L S K h s).1 → τ1 45 i = nI (insf (ahF N L S K h s) s (lnS N L S K h s).1 (lnS N L S K h s).2 i)) ∧ τ1 39 9 = nI ((lnS N L S K h s).1 + 1) := by
          unfold s_X9_queueUp
          rw [lt_eq, h39, hA.1]
          refine queue_loop (σ0 := ρ) (by omega) (by omega) (fun t ω ht hω => ?_) (by rw [h39]; exact hA.1) (lnS N L S K h s).1 n (lnS N L S K h s).2 ρ (Nat.le_refl _) (by omega) (fun _ _ _ => rfl) (fun i hi hne => ?_)
          · have hdω : cDat N S K L st lc ω := cDat_of hst hlc hdρ (fun o j ho => hω o j (fun z => ho (by rw [z]; decide)))
            have h := ahead_loop (n := n) (N := N) (s := s) (t := t) (st := st) (lc := lc) (L := L) (S := S) (K := K) (ask := askF L S K h) (σ := ω) hS hsl (by omega) hkm hdω.2.1 hdω.2.2.1 hdω.2.2.2 (by rw [hω 41 s (by decide)]; exact h41) (by rw [hω 41 t (by decide), (hot t (by omega)).1]; exact (hA.2.2 t ht).1) (fun z v hv => by rw [hω 10 v (by decide)]; exact hfarρ z v hv) L.2.1 0 n (by omega) (by omega)
            exact h
          · have hi2 : i < (lnS N L S K h s).1 := by omega
            exact ⟨by rw [h45]; exact hA.2.1 i hi2, hln.2 i hi2⟩
        obtain ⟨τ1, t1, t2, t3⟩ := hq
        rw [t1, bdv_some, show nI s + 1 = nI (s + 1) from nI_1 s]
        have frq : ∀ o j, o ≠ 45 → (o = 39 → j ≠ 9) → τ1 o j = ρ o j := fun o j h1 h2 => fr_s_X9_queueUp (by
          by_cases e39 : o = 39
          · subst e39; simp [fok, Ne.symm (h2 rfl)]
          · simp [fok, Ne.symm h1, Ne.symm e39]) _ _ _ _ t1
        have frs : ∀ o j, o ∉ scrC → τ1 o j = σ o j := fun o j ho => by
          rw [frq o j (fun z => ho (by rw [z]; decide)) (fun z => absurd (show o ∈ scrC by rw [z]; decide) ho)]
          exact hfr o j ho
        refine ih (s + 1) k τ1 (by omega) (by omega) (cDat_of hst hlc hd frs) (fun z v hv => by rw [frq 10 v (by decide) (fun q => absurd q (by decide))]; exact hfarρ z v hv) ?_
        unfold cAsk
        rw [lnS_s, if_pos hon]
        refine ⟨t3, fun i hi => t2 i (Nat.le_of_lt_succ hi), fun t ht => ?_⟩
        rw [frq 41 t (by decide) (fun q => absurd q (by decide)), frq 42 t (by decide) (fun q => absurd q (by decide))]
        by_cases e : t = s
        · subst e; exact ⟨h41, h42⟩
        · rw [(hot t e).1, (hot t e).2]; exact hA.2.2 t (by omega)
      unfold s_X9_ask_82
      simp (disch := omega) only [ck_n, ix_n, lt_eq, e14, e15]
      have eK2 : up2 (up2 (up2 σ 41 s 0) 42 s 0) 41 s (sQ S s + sW S s) (rf st 0) s = zo (K.1 s) := by rw [up2_o n41]; exact eK
      rw [eK2]
      have e16 : up2 (up2 (up2 σ 41 s 0) 42 s 0) 41 s (sQ S s + sW S s) 16 s = sZ S s := by rw [up2_o (by decide), up2_o (by decide), up2_o (by decide)]; exact c4
      have eC : up2 (up2 (up2 σ 41 s 0) 42 s 0) 41 s (sQ S s + sW S s) (rf st 1) s = K.2 s := by rw [up2_o m41, up2_o m42, up2_o m41]; exact k2
      have e41 : up2 (up2 (up2 σ 41 s 0) 42 s 0) 41 s (sQ S s + sW S s) 41 s = sQ S s + sW S s := by simp [up2_app]
      rw [e16, eC, e41]
      by_cases hal : K.1 s = true
      · rw [if_neg (by rw [hal]; decide)]
        refine go148 _ (fun o j ho => by rw [up2_o (fun z => ho (by rw [z]; decide))]; exact fr0 o j ho) ?_ (by simp [up2_app]) (by rw [up2_o (by decide), up2_o (by decide), up2_o (by decide)]) (fun i => by rw [up2_o (by decide), up2_o (by decide), up2_o (by decide)]) (fun v => by rw [up2_o (by decide), up2_o (by decide), up2_o (by decide)]) (fun t ht => by simp [up2_app, ht])
        rw [e41]
        unfold askF
        rw [if_pos hon, if_pos hal, Int32.add_zero]
      · have hal' : K.1 s = false := by cases hh : K.1 s; rfl; exact absurd hh hal
        rw [if_pos (by rw [hal']; rfl)]
        refine go148 _ (fun o j ho => by rw [up2_o (fun z => ho (by rw [z]; decide)), up2_o (fun z => ho (by rw [z]; decide))]; exact fr0 o j ho) ?_ (by simp [up2_app]) (by rw [up2_o (by decide), up2_o (by decide), up2_o (by decide), up2_o (by decide)]) (fun i => by rw [up2_o (by decide), up2_o (by decide), up2_o (by decide), up2_o (by decide)]) (fun v => by rw [up2_o (by decide), up2_o (by decide), up2_o (by decide), up2_o (by decide)]) (fun t ht => by simp [up2_app, ht])
        unfold askF
        rw [if_pos hon, if_neg hal]
        simp [up2_app]
    -- one that has none
    have off : won L K h s = false → ∃ τ, s_X9_ask_38 n k st lc r5 (nI s + 1) (up2 (up2 σ 41 s 0) 42 s 0) = some τ ∧ cAsk N S K L h (sN S) τ := by
      intro hoff
      rw [show nI s + 1 = nI (s + 1) from nI_1 s]
      refine ih (s + 1) k _ (by omega) (by omega) (cDat_of hst hlc hd fr0) (fun z v hv => by rw [up2_o (by decide), up2_o (by decide)]; exact hfar z v hv) ?_
      unfold cAsk
      rw [lnS_s, if_neg (by rw [hoff]; decide)]
      refine ⟨by rw [up2_o (by decide), up2_o (by decide)]; exact hA.1, fun i hi => by rw [up2_o (by decide), up2_o (by decide)]; exact hA.2.1 i hi, fun t ht => ?_⟩
      by_cases e : t = s
      · subst e
        unfold askF
        rw [hoff]
        simp [up2_app]
      · have := hA.2.2 t (by omega)
        simp [up2_app, e, this]
    rw [eK]
    by_cases hal : K.1 s = true
    · rw [if_pos (by rw [hal]; rfl)]
      exact on82 (by unfold won; rw [hal]; rfl)
    · have hal' : K.1 s = false := by cases hh : K.1 s; rfl; exact absurd hh hal
      rw [if_neg (by rw [hal']; decide)]
      have hwn : won L K h s = (decide (L.2.2.1 ≤ h) && decide (h ≤ L.2.2.2)) := by unfold won; rw [hal']; rfl
      rw [hr]
      cases hb : (decide (L.2.2.1 ≤ h) && decide (h ≤ L.2.2.2))
      · rw [if_pos (show zo false = 0 from rfl)]
        have := off (by rw [hwn, hb])
        rw [hr, hb] at this
        exact this
      · rw [if_neg (by decide)]
        have := on82 (by rw [hwn, hb])
        rw [hr, hb] at this
        exact this
/-- the class: who asks what, and the line, in an hour -/
theorem cask_ok {n st lc hr : Nat} {N : Net} {S : Str} {K : Knd} {L : Lw} {σ : Sg} (hn : 200 ≤ n) (hN : nok N) (hS : sok S) (hst : zStand st) (hlc : zLaw lc) (hkm : L.2.1 ≤ 4) (hd : cDat N S K L st lc σ) : ∃ τ, s_X9_ask n st lc (nI hr) σ = some τ ∧ cAsk N S K L (nI hr) (sN S) τ := by
  have h10 := hS.1
  -- has it the key 'far'
  have hk : ∀ (e k f : Nat) (σ : Sg), cW L lc σ → k + e = L.2.1 → e < f → ((∃ k', k ≤ k' ∧ k' < L.2.1 ∧ kyF L k' = 3) ∧ s_X2_hasKey_2 n f lc 3 (nI k) σ = some (1, σ)) ∨ ((∀ k', k ≤ k' → k' < L.2.1 → kyF L k' ≠ 3) ∧ s_X2_hasKey_2 n f lc 3 (nI k) σ = some (0, σ)) := by
    intro e
    induction e with
    | zero =>
      intro k f σ hw hke hf
      obtain ⟨f, rfl⟩ : ∃ f', f = f' + 1 := ⟨f - 1, by omega⟩
      refine Or.inr ⟨fun k' h1 h2 => by omega, ?_⟩
      show s_X2_hasKey_2b n _ _ _ _ _ = _
      unfold s_X2_hasKey_2b
      rw [hw.2.1, if_pos (by rw [nle (by omega) (by omega)]; omega)]
    | succ e ih =>
      intro k f σ hw hke hf
      obtain ⟨f, rfl⟩ : ∃ f', f = f' + 1 := ⟨f - 1, by omega⟩
      show (_ ∧ s_X2_hasKey_2b n (s_X2_hasKey_2 n f) _ _ _ _ = _) ∨ (_ ∧ s_X2_hasKey_2b n (s_X2_hasKey_2 n f) _ _ _ _ = _)
      unfold s_X2_hasKey_2b
      have hkey : s_X2_key n lc (nI k) σ = some (kyF L k, σ) := by unfold s_X2_key kyF; rw [hw.1]
      rw [hw.2.1, if_neg (by rw [nle (by omega) (by omega)]; omega), hkey, bd_some]
      by_cases h3 : kyF L k = 3
      · rw [if_pos h3]
        exact Or.inl ⟨⟨k, Nat.le_refl _, by omega, h3⟩, rfl⟩
      · rw [if_neg h3, show nI k + 1 = nI (k + 1) from nI_1 k]
        rcases ih (k + 1) f σ hw (by omega) (by omega) with ⟨⟨k', a1, a2, a3⟩, a4⟩ | ⟨a1, a2⟩
        · exact Or.inl ⟨⟨k', by omega, a2, a3⟩, a4⟩
        · refine Or.inr ⟨fun k' b1 b2 => ?_, a2⟩
          by_cases e2 : k' = k
          · rw [e2]; exact h3
          · exact a1 k' (by omega) b2
  have hturn : ∀ (ρ : Sg), cW L lc ρ → s_X2_isTurnHour n lc (nI hr) ρ = some (zo (decide (L.2.2.1 ≤ nI hr) && decide (nI hr ≤ L.2.2.2)), ρ) := by
    intro ρ hw
    unfold s_X2_isTurnHour s_X2_isTurnHour_20
    rw [hw.2.2.1, hw.2.2.2]
    by_cases h1 : nI hr < L.2.2.1
    · rw [if_pos h1]
      have : ¬ L.2.2.1 ≤ nI hr := Int32.not_le.mpr h1
      simp [this, zo]
    · rw [if_neg h1]
      have q1 : L.2.2.1 ≤ nI hr := Int32.not_lt.mp h1
      by_cases h2 : L.2.2.2 < nI hr
      · rw [if_pos h2]
        have : ¬ nI hr ≤ L.2.2.2 := Int32.not_le.mpr h2
        simp [this, zo]
      · rw [if_neg h2]
        have q2 : nI hr ≤ L.2.2.2 := Int32.not_lt.mp h2
        simp [q1, q2, zo]
  have fin : ∀ (ρ : Sg), (∀ o j, o ∉ scrC → ρ o j = σ o j) → ((∃ k, k < L.2.1 ∧ kyF L k = 3) → cF (dstN N) ρ) → ∃ τ, s_X9_ask_23 n st lc (nI hr) ρ = some τ ∧ cAsk N S K L (nI hr) (sN S) τ := by
    intro ρ hfr hfar
    have hdρ := cDat_of hst hlc hd hfr
    unfold s_X9_ask_23
    rw [hturn ρ hdρ.2.2.2, bd_some, lt_eq]
    refine ask_loop (by omega) hS hst hlc hkm rfl (sN S) 0 n _ (by omega) (by omega) (cDat_of hst hlc hdρ (fun o j ho => up2_o (fun z => ho (by rw [z]; decide)))) (fun z v hv => by rw [up2_o (by decide)]; exact hfar z v hv) ⟨by simp [up2_app, lnS]; rfl, fun i hi => absurd hi (Nat.not_lt_zero _), fun t ht => absurd ht (Nat.not_lt_zero _)⟩
  unfold s_X9_ask s_X2_hasKey
  rcases hk L.2.1 0 n σ hd.2.2.2 (by omega) (by omega) with ⟨⟨k', a1, a2, a3⟩, a4⟩ | ⟨a1, a2⟩
  · have a4' : s_X2_hasKey_2 n n lc 3 0 σ = some (1, σ) := a4
    rw [a4', bd_some, if_neg (by decide)]
    obtain ⟨τ1, t1, t2⟩ := measure_ok (n := n) (np := nP N) (ea := nA N) (eb := nB N) (cl := nSh N) (x1 := σ 3 1) (m := 0) (σ := σ) (by omega) hN.1 (fun p hp => ⟨(hN.2 p hp).1, (hN.2 p hp).2.1⟩) (fun p hp => (hd.1.2 p hp).2.2.2.2) (by rw [if_pos rfl]; exact ⟨hd.1.1, fun p hp => ⟨(hd.1.2 p hp).1, (hd.1.2 p hp).2.1⟩⟩)
    rw [t1, bdv_some]
    exact fin τ1 (fun o j ho => fr_s_X4_measure (by simp [fok, Ne.symm (show o ≠ 10 from fun z => ho (by rw [z]; decide))]) _ _ _ t1) (fun _ => t2)
  · have a2' : s_X2_hasKey_2 n n lc 3 0 σ = some (0, σ) := a2
    rw [a2', bd_some, if_pos rfl]
    exact fin σ (fun _ _ _ => rfl) (fun ⟨k, q1, q2⟩ => absurd q2 (a1 k (Nat.zero_le _) q1))
