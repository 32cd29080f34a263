/-! ===== one call, both sides: told, force, gains, cuts, wrong ===== -/
abbrev HdN (Rs : Nat → Rl) (nr now : Nat) : Hd := holds Rs nr (dyN now)
theorem payR {n s : Nat} {N : Net} {ma mb : Nat → Nat} {S : Str} {K : Knd} {now : Nat} {pu : Nat → Int32} {Rs : Nat → Rl} {nr c : Nat} {σ : Sg} (hn : 300000 ≤ n) (h : InvD N ma mb S K now pu Rs nr c σ) (hs : s < 10) : ∃ ρ, s_X11_paysByRooms n (nI s) σ = some ((HdN Rs nr now).2.2.1 * σ 17 s * σ 13 s, ρ) ∧ InvD N ma mb S K now pu Rs nr c ρ ∧ ∀ o j, o ≠ 38 → ρ o j = σ o j := by
  obtain ⟨ρ, a1, a2, a3, a4⟩ := inv_hold (n := n) (d := dyN now) (by omega) dyN_lt h
  refine ⟨ρ, ?_, a3, a4⟩
  unfold s_X11_paysByRooms
  rw [today_ok h.2.2.1.1 h.2.2.1.2.1, bd_so, a1, bdv_so, ck_n (by omega) (by omega), ck_n (by omega) (by omega), ix_n (by omega), a2.2.2.1, a4 17 s (by decide), a4 13 s (by decide)]
theorem payM {n s : Nat} {N : Net} {ma mb : Nat → Nat} {S : Str} {K : Knd} {now : Nat} {pu : Nat → Int32} {Rs : Nat → Rl} {nr c : Nat} {σ : Sg} (hn : 300000 ≤ n) (h : InvD N ma mb S K now pu Rs nr c σ) (hs : s < 10) : ∃ ρ, s_X11_paysByMeter n (nI s) σ = some ((HdN Rs nr now).2.2.2.1 * σ 18 s / 10, ρ) ∧ InvD N ma mb S K now pu Rs nr c ρ ∧ ∀ o j, o ≠ 38 → ρ o j = σ o j := by
  obtain ⟨ρ, a1, a2, a3, a4⟩ := inv_hold (n := n) (d := dyN now) (by omega) dyN_lt h
  refine ⟨ρ, ?_, a3, a4⟩
  unfold s_X11_paysByMeter
  rw [today_ok h.2.2.1.1 h.2.2.1.2.1, bd_so, a1, bdv_so, ck_n (by omega) (by omega), ix_n (by omega), a2.2.2.2.1, a4 18 s (by decide)]
theorem st_told {n c : Nat} {x1 x2 : Int32} {σ : Sg} (hn : 300000 ≤ n) (h : Inv c σ) : wStp c (s_X11_told n x1 x2) (s_X12_told n x1 x2) σ := by
  obtain ⟨N, ma, mb, S, K, now, pu, Rs, nr, h⟩ := h
  have hs := h.2.1.1.1
  have c0 : σ 11 0 = nI (sN S) := h.2.1.2.2.1.1
  have m0 : σ 71 11 = nI (sN S) := h.2.1.2.2.2.1.1
  cases e1 : pin (sN S) x1
  · refine ⟨-1001, σ, σ, ?_, ?_, Inv_s h⟩
    · unfold s_X11_told; rw [has8 c0, bd_so, e1]; rfl
    · unfold s_X12_told; rw [noS (by omega) m0, bd_so, e1]; rfl
  obtain ⟨s, hs2, rfl⟩ := pin_n (by omega) e1
  -- the reference from a state that the class left
  have ref : ∀ ρ : Sg, InvD N ma mb S K now pu Rs nr c ρ → ∃ τ, (∀ X, s_X12_told n (nI s) x2 ρ = X ↔ (if x2 = 0 then some (τ 81 s, τ) else if x2 = 1 then some (τ 86 s, τ) else if x2 = 2 then some (τ 88 s, τ) else if x2 = 3 then some (τ 89 s, τ) else if x2 = 4 then some (τ 90 s, τ) else if x2 = 5 then some (τ 91 s, τ) else if x2 = 6 then some (τ 92 s, τ) else if x2 = 7 then some (τ 71 45 * τ 87 s * τ 82 s, τ) else if x2 = 8 then some (τ 71 46 * τ 89 s / 10, τ) else some (-1002, τ)) = X) ∧ mHd (HdN Rs nr now) τ ∧ InvD N ma mb S K now pu Rs nr c τ ∧ ∀ o j, fok W_X12_findRules o j = true → τ o j = ρ o j := by
    intro ρ hρ
    obtain ⟨τ, a1, a2, a3, a4⟩ := inv_rules (n := n) (d := dyN now) (by omega) dyN_lt hρ
    refine ⟨τ, fun X => ?_, a2, a3, a4⟩
    unfold s_X12_told s_X12_byRooms s_X12_byMeter
    have k2 : τ 86 s = zo (K.1 s) := (a3.2.1.2.2.2.2.2.1 s hs2).1
    rw [noS (by omega) hρ.2.1.2.2.2.1.1, bd_so, e1, if_pos z_nt, dayNow_ok hρ.2.2.1.1 hρ.2.2.1.2.2.1, bd_so, a1, bdv_so]
    simp (disch := omega) only [ck_n, ix_n, k2, one_ok, bd_so]
  have hh := h.2.1
  have n9 := hh.2.2.2.2.2.2.2.2 s (by omega)
  have opn : ∀ X, (if x2 = 0 then some (σ 12 s, σ) else if x2 = 1 then some (σ 23 s, σ) else if x2 = 2 then some (σ 24 s, σ) else if x2 = 3 then some (σ 18 s, σ) else if x2 = 4 then some (σ 19 s, σ) else if x2 = 5 then some (σ 20 s, σ) else if x2 = 6 then some (σ 21 s, σ) else if x2 = 7 then bd (s_X11_paysByRooms n (nI s) σ) fun r σ => some (r, σ) else if x2 = 8 then bd (s_X11_paysByMeter n (nI s) σ) fun r σ => some (r, σ) else some (-1002, σ)) = X → s_X11_told n (nI s) x2 σ = X := by
    intro X hX
    unfold s_X11_told
    rw [has8 c0, bd_so, e1, if_neg z_t]
    simp (disch := omega) only [ck_n, ix_n]
    exact hX
  have fin : ∀ (r : Int32), s_X11_told n (nI s) x2 σ = some (r, σ) → (∀ τ : Sg, InvD N ma mb S K now pu Rs nr c τ → (∀ o j, fok W_X12_findRules o j = true → τ o j = σ o j) → (if x2 = 0 then some (τ 81 s, τ) else if x2 = 1 then some (τ 86 s, τ) else if x2 = 2 then some (τ 88 s, τ) else if x2 = 3 then some (τ 89 s, τ) else if x2 = 4 then some (τ 90 s, τ) else if x2 = 5 then some (τ 91 s, τ) else if x2 = 6 then some (τ 92 s, τ) else if x2 = 7 then some (τ 71 45 * τ 87 s * τ 82 s, τ) else if x2 = 8 then some (τ 71 46 * τ 89 s / 10, τ) else some (-1002, τ)) = some (r, τ)) → wStp c (s_X11_told n (nI s) x2) (s_X12_told n (nI s) x2) σ := by
    intro r a b
    obtain ⟨τ, q1, q2, q3, q4⟩ := ref σ h
    exact ⟨r, σ, τ, a, (q1 _).mpr (b τ q3 q4), Inv_s q3⟩
  by_cases e0 : x2 = 0
  · refine fin (σ 12 s) (opn _ (by rw [if_pos e0])) (fun τ _ f => ?_)
    rw [if_pos e0, f 81 s rfl, (hh.2.2.2.1.2 s hs2).1, (hh.2.2.1.2 s hs2).1]
  by_cases e1 : x2 = 1
  · refine fin (σ 23 s) (opn _ (by rw [if_neg e0, if_pos e1])) (fun τ _ f => ?_)
    rw [if_neg e0, if_pos e1, f 86 s rfl, (hh.2.2.2.2.2.1 s hs2).1, show σ 23 s = zo (K.1 s) from (hh.2.2.2.2.1 s hs2).1]
  by_cases e2 : x2 = 2
  · refine fin (σ 24 s) (opn _ (by rw [if_neg e0, if_neg e1, if_pos e2])) (fun τ _ f => ?_)
    rw [if_neg e0, if_neg e1, if_pos e2, f 88 s rfl, (hh.2.2.2.2.2.1 s hs2).2, show σ 24 s = K.2 s from (hh.2.2.2.2.1 s hs2).2]
  by_cases e3 : x2 = 3
  · refine fin (σ 18 s) (opn _ (by rw [if_neg e0, if_neg e1, if_neg e2, if_pos e3])) (fun τ _ f => ?_)
    rw [if_neg e0, if_neg e1, if_neg e2, if_pos e3, f 89 s rfl, n9.2.1]
  by_cases e4 : x2 = 4
  · refine fin (σ 19 s) (opn _ (by rw [if_neg e0, if_neg e1, if_neg e2, if_neg e3, if_pos e4])) (fun τ _ f => ?_)
    rw [if_neg e0, if_neg e1, if_neg e2, if_neg e3, if_pos e4, f 90 s rfl, n9.2.2.1]
  by_cases e5 : x2 = 5
  · refine fin (σ 20 s) (opn _ (by rw [if_neg e0, if_neg e1, if_neg e2, if_neg e3, if_neg e4, if_pos e5])) (fun τ _ f => ?_)
    rw [if_neg e0, if_neg e1, if_neg e2, if_neg e3, if_neg e4, if_pos e5, f 91 s rfl, n9.2.2.2.1]
  by_cases e6 : x2 = 6
  · refine fin (σ 21 s) (opn _ (by rw [if_neg e0, if_neg e1, if_neg e2, if_neg e3, if_neg e4, if_neg e5, if_pos e6])) (fun τ _ f => ?_)
    rw [if_neg e0, if_neg e1, if_neg e2, if_neg e3, if_neg e4, if_neg e5, if_pos e6, f 92 s rfl, n9.2.2.2.2]
  by_cases e7 : x2 = 7
  · obtain ⟨ρ, a1, a2, a3⟩ := payR (n := n) (s := s) hn h (by omega)
    obtain ⟨τ, q1, q2, q3, q4⟩ := ref ρ a2
    refine ⟨_, ρ, τ, opn _ (by rw [if_neg e0, if_neg e1, if_neg e2, if_neg e3, if_neg e4, if_neg e5, if_neg e6, if_pos e7, a1, bd_so]), (q1 _).mpr ?_, Inv_s q3⟩
    rw [if_neg e0, if_neg e1, if_neg e2, if_neg e3, if_neg e4, if_neg e5, if_neg e6, if_pos e7, q2.2.2.1, q4 87 s rfl, q4 82 s rfl, a3 87 s (by decide), a3 82 s (by decide), n9.1, hh.2.2.2.2.2.2.1 s hs2]
  by_cases e8 : x2 = 8
  · obtain ⟨ρ, a1, a2, a3⟩ := payM (n := n) (s := s) hn h (by omega)
    obtain ⟨τ, q1, q2, q3, q4⟩ := ref ρ a2
    refine ⟨_, ρ, τ, opn _ (by rw [if_neg e0, if_neg e1, if_neg e2, if_neg e3, if_neg e4, if_neg e5, if_neg e6, if_neg e7, if_pos e8, a1, bd_so]), (q1 _).mpr ?_, Inv_s q3⟩
    rw [if_neg e0, if_neg e1, if_neg e2, if_neg e3, if_neg e4, if_neg e5, if_neg e6, if_neg e7, if_pos e8, q2.2.2.2.1, q4 89 s rfl, a3 89 s (by decide), n9.2.1]
  · refine fin (-1002) (opn _ (by rw [if_neg e0, if_neg e1, if_neg e2, if_neg e3, if_neg e4, if_neg e5, if_neg e6, if_neg e7, if_neg e8])) (fun τ _ f => ?_)
    rw [if_neg e0, if_neg e1, if_neg e2, if_neg e3, if_neg e4, if_neg e5, if_neg e6, if_neg e7, if_neg e8]
theorem st_force {n c : Nat} {x1 x2 : Int32} {σ : Sg} (hn : 300000 ≤ n) (h : Inv c σ) : wStp c (s_X11_force n x1 x2) (s_X12_force n x1 x2) σ := by
  obtain ⟨N, ma, mb, S, K, now, pu, Rs, nr, h⟩ := h
  have i1 : ∀ σ, s_X12_in n x1.toInt64 0 8 σ = some (zo (inb 0 x1 8), σ) := fun σ => inb_ok n x1 0 8 σ
  cases e1 : inb 0 x1 8
  · refine ⟨-1002, σ, σ, ?_, ?_, Inv_s h⟩
    · unfold s_X11_force; simp only [out_ok, bd_so, e1]; rfl
    · unfold s_X12_force; simp only [i1, bd_so, e1]; rfl
  cases e2 : inb 0 x2 199
  · refine ⟨-1002, σ, σ, ?_, ?_, Inv_s h⟩
    · unfold s_X11_force; simp only [out_ok, bd_so, e1, e2]; rfl
    · unfold s_X12_force; simp only [i1, day12, bd_so, e1, e2]; rfl
  obtain ⟨d, rfl, _, hd⟩ := rng (a := 0) (c := 199) (by omega) (by omega) e2
  obtain ⟨ρ, a1, a2, a3, a4⟩ := inv_hold (n := n) (d := d) (by omega) (by omega) h
  obtain ⟨τ, b1, b2, b3, b4⟩ := inv_rules (n := n) (d := d) (by omega) (by omega) a3
  have t1 : ∀ X, (if x1 = 0 then some ((holds Rs nr d).1, ρ) else if x1 = 1 then some ((holds Rs nr d).2.1, ρ) else if x1 = 2 then some ((holds Rs nr d).2.2.1, ρ) else if x1 = 3 then some ((holds Rs nr d).2.2.2.1, ρ) else if x1 = 4 then some ((holds Rs nr d).2.2.2.2.1, ρ) else if (holds Rs nr d).2.2.2.2.1 ≤ x1 - 5 then some (-1, ρ) else some (sr (holds Rs nr d).2.2.2.2.2 (2 * (x1 - 5)) &&& 3, ρ)) = X → s_X11_force n x1 (nI d) σ = X := by
    intro X hX
    unfold s_X11_force s_X2_key
    simp only [out_ok, bd_so, e1, e2]
    rw [if_pos z_nt, if_pos z_nt, a1, bdv_so, a2.1, a2.2.1, a2.2.2.1, a2.2.2.2.1, a2.2.2.2.2.1, a2.2.2.2.2.2]
    exact hX
  have r1 : ∀ X, (if x1 = 0 then some ((holds Rs nr d).1, τ) else if x1 = 1 then some ((holds Rs nr d).2.1, τ) else if x1 = 2 then some ((holds Rs nr d).2.2.1, τ) else if x1 = 3 then some ((holds Rs nr d).2.2.2.1, τ) else if x1 = 4 then some ((holds Rs nr d).2.2.2.2.1, τ) else if (holds Rs nr d).2.2.2.2.1 ≤ x1 - 5 then some (-1, τ) else some (sr (holds Rs nr d).2.2.2.2.2 (2 * (x1 - 5)) &&& 3, τ)) = X → s_X12_force n x1 (nI d) ρ = X := by
    intro X hX
    unfold s_X12_force
    simp only [i1, day12, bd_so, e1, e2]
    rw [if_neg z_t, if_neg z_t, b1, bdv_so, b2.1, b2.2.1, b2.2.2.1, b2.2.2.2.1, b2.2.2.2.2.1, b2.2.2.2.2.2]
    exact hX
  have fin : ∀ r, s_X11_force n x1 (nI d) σ = some (r, ρ) → s_X12_force n x1 (nI d) ρ = some (r, τ) → wStp c (s_X11_force n x1 (nI d)) (s_X12_force n x1 (nI d)) σ := fun r a b => ⟨r, ρ, τ, a, b, Inv_s b3⟩
  by_cases c0 : x1 = 0
  · exact fin _ (t1 _ (by rw [if_pos c0])) (r1 _ (by rw [if_pos c0]))
  by_cases c1 : x1 = 1
  · exact fin _ (t1 _ (by rw [if_neg c0, if_pos c1])) (r1 _ (by rw [if_neg c0, if_pos c1]))
  by_cases c2 : x1 = 2
  · exact fin _ (t1 _ (by rw [if_neg c0, if_neg c1, if_pos c2])) (r1 _ (by rw [if_neg c0, if_neg c1, if_pos c2]))
  by_cases c3 : x1 = 3
  · exact fin _ (t1 _ (by rw [if_neg c0, if_neg c1, if_neg c2, if_pos c3])) (r1 _ (by rw [if_neg c0, if_neg c1, if_neg c2, if_pos c3]))
  by_cases c4 : x1 = 4
  · exact fin _ (t1 _ (by rw [if_neg c0, if_neg c1, if_neg c2, if_neg c3, if_pos c4])) (r1 _ (by rw [if_neg c0, if_neg c1, if_neg c2, if_neg c3, if_pos c4]))
  by_cases c5 : (holds Rs nr d).2.2.2.2.1 ≤ x1 - 5
  · exact fin _ (t1 _ (by rw [if_neg c0, if_neg c1, if_neg c2, if_neg c3, if_neg c4, if_pos c5])) (r1 _ (by rw [if_neg c0, if_neg c1, if_neg c2, if_neg c3, if_neg c4, if_pos c5]))
  · exact fin _ (t1 _ (by rw [if_neg c0, if_neg c1, if_neg c2, if_neg c3, if_neg c4, if_neg c5])) (r1 _ (by rw [if_neg c0, if_neg c1, if_neg c2, if_neg c3, if_neg c4, if_neg c5]))
theorem gains_go {n : Nat} {N : Net} {ma mb : Nat → Nat} {S : Str} {K : Knd} {now : Nat} {pu : Nat → Int32} {Rs : Nat → Rl} {nr c : Nat} {f : Nat → Bool} {R M : Nat → Int32} (hn : 300000 ≤ n) (hf : ∀ s, f s = decide (¬ R s ≤ M s)) (hs : sN S ≤ 10) : ∀ (e s k : Nat) (σ : Sg), s + e = sN S → e < k → InvD N ma mb S K now pu Rs nr c σ → (∀ s, s < sN S → R s = (HdN Rs nr now).2.2.1 * σ 17 s * σ 13 s ∧ M s = (HdN Rs nr now).2.2.2.1 * σ 18 s / 10) → ∃ τ, s_X11_gains_4 n k (nI (cnt f s)) (nI s) σ = some (nI (cnt f (sN S)), τ) ∧ InvD N ma mb S K now pu Rs nr c τ ∧ ∀ o j, o ≠ 38 → τ o j = σ o j := by
  intro e
  induction e with
  | zero =>
    intro s k σ he hk h _
    obtain ⟨k, rfl⟩ : ∃ k', k = k' + 1 := ⟨k - 1, by omega⟩
    have he : s = sN S := by omega
    subst he
    refine ⟨σ, ?_, h, fun _ _ _ => rfl⟩
    show s_X11_gains_4b n _ _ _ _ = _
    unfold s_X11_gains_4b
    rw [h.2.1.2.2.1.1, if_pos (Int32.le_refl _)]
  | succ e ih =>
    intro s k σ he hk h hv
    obtain ⟨k, rfl⟩ : ∃ k', k = k' + 1 := ⟨k - 1, by omega⟩
    obtain ⟨ρ1, a1, a2, a3⟩ := payM (n := n) (s := s) hn h (by omega)
    obtain ⟨ρ2, b1, b2, b3⟩ := payR (n := n) (s := s) hn a2 (by omega)
    have hvs := hv s (by omega)
    rw [a3 17 s (by decide), a3 13 s (by decide), ← hvs.1] at b1
    rw [← hvs.2] at a1
    show ∃ τ, s_X11_gains_4b n (s_X11_gains_4 n k) _ _ _ = _ ∧ _
    unfold s_X11_gains_4b
    rw [h.2.1.2.2.1.1, if_neg (by rw [nle (by omega) (by omega)]; omega), a1, bd_so, b1, bd_so, show nI s + 1 = nI (s + 1) from nI_1 s]
    have fr : ∀ o j, o ≠ 38 → ρ2 o j = σ o j := fun o j ho => (b3 o j ho).trans (a3 o j ho)
    obtain ⟨τ, t1, t2, t3⟩ := ih (s + 1) k ρ2 (by omega) (by omega) b2 (fun t ht => by rw [fr 17 t (by decide), fr 13 t (by decide), fr 18 t (by decide)]; exact hv t ht)
    refine ⟨τ, ?_, t2, fun o j ho => (t3 o j ho).trans (fr o j ho)⟩
    rw [cnt_s, hf s] at t1
    by_cases hle : R s ≤ M s
    · rw [if_pos hle]
      rw [decide_eq_false (by simp [hle])] at t1
      exact t1
    · rw [if_neg hle, nI_1]
      rw [decide_eq_true hle] at t1
      exact t1
theorem mgains_go {n ns : Nat} {f : Nat → Bool} {R M : Nat → Int32} {σ : Sg} (hs : ns ≤ 10) (hf : ∀ s, f s = decide (¬ R s ≤ M s)) (h0 : σ 71 11 = nI ns) (hv : ∀ s, s < ns → R s = σ 71 45 * σ 87 s * σ 82 s ∧ M s = σ 71 46 * σ 89 s / 10) : ∀ (e s k : Nat), s + e = ns → e < k → s_X12_gains_12 n k (nI (cnt f s)) (nI s) σ = some (nI (cnt f ns), σ) := by
  intro e
  induction e with
  | zero =>
    intro s k he hk
    obtain ⟨k, rfl⟩ : ∃ k', k = k' + 1 := ⟨k - 1, by omega⟩
    have he : s = ns := by omega
    subst he
    show s_X12_gains_12b n _ _ _ _ = _
    unfold s_X12_gains_12b
    rw [h0, if_pos (Int32.le_refl _)]
  | succ e ih =>
    intro s k he hk
    obtain ⟨k, rfl⟩ : ∃ k', k = k' + 1 := ⟨k - 1, by omega⟩
    have hvs := hv s (by omega)
    show s_X12_gains_12b n (s_X12_gains_12 n k) _ _ _ = _
    unfold s_X12_gains_12b s_X12_byMeter s_X12_byRooms s_X12_gains_39
    rw [h0, if_neg (by rw [nle (by omega) (by omega)]; omega), ck_n (by omega) (by omega), bd_so, ck_n (by omega) (by omega), ck_n (by omega) (by omega), bd_so, ix_n (by omega), ← hvs.1, ← hvs.2, lt_eq, one_any, bd_so, lt_eq, show nI s + 1 = nI (s + 1) from nI_1 s]
    have t1 := ih (s + 1) k (by omega) (by omega)
    rw [cnt_s, hf s] at t1
    by_cases hle : R s ≤ M s
    · rw [if_pos hle, if_pos rfl, Int32.add_zero]
      rw [decide_eq_false (by simp [hle])] at t1
      exact t1
    · rw [if_neg hle, if_neg (by decide), nI_1]
      rw [decide_eq_true hle] at t1
      exact t1
theorem st_gains {n c : Nat} {σ : Sg} (hn : 300000 ≤ n) (h : Inv c σ) : wStp c (s_X11_gains n) (s_X12_gains n) σ := by
  obtain ⟨N, ma, mb, S, K, now, pu, Rs, nr, h⟩ := h
  have hs := h.2.1.1.1
  obtain ⟨ρ, a1, a2, a3⟩ := gains_go (n := n) (f := fun s => decide (¬ (HdN Rs nr now).2.2.1 * σ 17 s * σ 13 s ≤ (HdN Rs nr now).2.2.2.1 * σ 18 s / 10)) (R := fun s => (HdN Rs nr now).2.2.1 * σ 17 s * σ 13 s) (M := fun s => (HdN Rs nr now).2.2.2.1 * σ 18 s / 10) hn (fun _ => rfl) hs (sN S) 0 n σ (by omega) (by omega) h (fun s _ => ⟨rfl, rfl⟩)
  obtain ⟨τ, b1, b2, b3, b4⟩ := inv_rules (n := n) (d := dyN now) (by omega) dyN_lt a2
  have g := mgains_go (n := n) (f := fun s => decide (¬ (HdN Rs nr now).2.2.1 * σ 17 s * σ 13 s ≤ (HdN Rs nr now).2.2.2.1 * σ 18 s / 10)) (R := fun s => (HdN Rs nr now).2.2.1 * σ 17 s * σ 13 s) (M := fun s => (HdN Rs nr now).2.2.2.1 * σ 18 s / 10) (σ := τ) hs (fun _ => rfl) b3.2.1.2.2.2.1.1 (fun s hs2 => by
    have n9 := h.2.1.2.2.2.2.2.2.2.2 s (by omega)
    rw [b2.2.2.1, b2.2.2.2.1, b4 87 s rfl, b4 82 s rfl, b4 89 s rfl, a3 87 s (by decide), a3 82 s (by decide), a3 89 s (by decide), ← n9.1, ← n9.2.1, ← h.2.1.2.2.2.2.2.2.1 s hs2]
    exact ⟨rfl, rfl⟩) (sN S) 0 n (by omega) (by omega)
  refine ⟨_, ρ, τ, a1, ?_, Inv_s b3⟩
  unfold s_X12_gains
  rw [dayNow_ok a2.2.2.1.1 a2.2.2.1.2.2.1, bd_so, b1, bdv_so]
  exact g
