/-! ===== the order, the class: the tables ===== -/
/-- kinds with those of P changed over -/
def oKd (K : Nat → Bool) (v : Int32) (m P : Nat) : Nat → Bool := fun s => K s || (List.range m).any (fun k => P.testBit k && decide (mem v k = s))
def oTn (N : Net) (S : Str) (K : Nat → Bool) (pu : Nat → Int32) (v : Int32) (m P : Nat) : Tn := (N, S, oKd K v m P, pu, 0, 0)
def ocs (N : Net) (S : Str) (K : Nat → Bool) (pu : Nat → Int32) (L : Lw) (v : Int32) (m P : Nat) : Nat := (dyS (oTn N S K pu v m P) L true (fun _ => 0) 24).1
theorem ocs_le (N : Net) (S : Str) (K : Nat → Bool) (pu : Nat → Int32) (L : Lw) (v : Int32) (m P : Nat) : ocs N S K pu L v m P ≤ 24 := dyS_le _ _ _ _ 24
/-- what a trial of an order rests on -/
def oIn (N : Net) (S : Str) (K : Nat → Bool) (pu : Nat → Int32) (L : Lw) (v : Int32) (m : Nat) (σ : Sg) : Prop := cN N σ ∧ cS S σ ∧ (∀ s, s < sN S → σ 23 s = zo (K s)) ∧ cW L 62 σ ∧ (∀ h, h < 24 → σ 40 h = pu h) ∧ σ 51 12 = nI m ∧ ∀ k, k < m → σ 52 k = nI (mem v k)
theorem oIn_of {N : Net} {S : Str} {K : Nat → Bool} {pu : Nat → Int32} {L : Lw} {v : Int32} {m : Nat} {σ τ : Sg} (h : oIn N S K pu L v m σ) (hf : ∀ o j, fok W_X10_weigh o j = true → τ o j = σ o j) : oIn N S K pu L v m τ := by
  obtain ⟨h1, h2, h3, h4, h5, h6, h7⟩ := h
  refine ⟨cN_of h1 (fun j => hf 3 j rfl) (fun j => hf 4 j rfl) (fun j => hf 5 j rfl) (fun j => hf 6 j rfl) (fun j => hf 7 j rfl), ⟨by rw [hf 11 0 rfl]; exact h2.1, fun s hs => ?_⟩, fun s hs => by rw [hf 23 s rfl]; exact h3 s hs, ?_, fun h hh => by rw [hf 40 h rfl]; exact h5 h hh, by rw [hf 51 12 rfl]; exact h6, fun k hk => by rw [hf 52 k rfl]; exact h7 k hk⟩
  · rw [hf 12 s rfl, hf 14 s rfl, hf 15 s rfl, hf 16 s rfl]; exact h2.2 s hs
  · unfold cW
    rw [hf 62 7 rfl, hf 62 6 rfl, hf 62 2 rfl, hf 62 3 rfl]
    exact h4
theorem startAs_ok {n : Nat} {σ : Sg} (hn : 20 ≤ n) : ∃ τ, s_X7_startAs n 56 22 σ = some τ ∧ (∀ s, s < 10 → τ 57 s = σ 23 s ∧ τ 58 s = 0) ∧ ∀ o j, o ≠ 57 → o ≠ 58 → τ o j = σ o j := by
  obtain ⟨τ, a1, a2, a3⟩ := fill_ok (n := n) (o := 58) (m := 10) (v := 0) (σ := cp2 σ 23 57 0 0 10) (by omega) (by omega)
  refine ⟨τ, ?_, fun s hs => ⟨?_, a2 s hs⟩, fun o j h1 h2 => ?_⟩
  · show bdv (s_J7_fill_53178 n 58 10 0 (cp2 σ 23 57 0 0 10)) _ = _
    rw [a1]
    rfl
  · rw [a3 57 s (.inl (by decide))]
    show (if (57 : Nat) = 57 then va_cpy (σ 23) (σ 57) 0 0 10 else σ 57) s = _
    rw [if_pos rfl]
    unfold va_cpy
    rw [if_pos (by omega)]
    congr 1
    omega
  · rw [a3 o j (.inl h2), cp2_o h1]
theorem any_s (f : Nat → Bool) (k : Nat) : (List.range (k + 1)).any f = ((List.range k).any f || f k) := by
  rw [List.range_succ, List.any_append]
  simp
theorem change_go {n m P : Nat} {v : Int32} {K : Nat → Bool} {ns : Nat} (hm : m < 7) (hP : P < 2 ^ m) (hns : ns ≤ 10) (hmem : ∀ k, k < m → mem v k < ns) : ∀ (e k f : Nat) (σ : Sg), k + e = m → e < f → σ 51 12 = nI m → (∀ k, k < m → σ 52 k = nI (mem v k)) → (∀ s, s < ns → σ 57 s = zo (oKd K v k P s)) → ∃ τ, s_X10_changeOver_2 n f (nI P) (nI k) σ = some τ ∧ (∀ s, s < ns → τ 57 s = zo (oKd K v m P s)) := by
  have h64 := pow6 hm
  intro e
  induction e with
  | zero =>
    intro k f σ hk hf h12 h52 h57
    obtain ⟨f, rfl⟩ : ∃ k', f = k' + 1 := ⟨f - 1, by omega⟩
    have hk : k = m := by omega
    subst hk
    refine ⟨σ, ?_, h57⟩
    show s_X10_changeOver_2b n _ _ _ _ = _
    unfold s_X10_changeOver_2b
    rw [h12, if_pos (Int32.le_refl _)]
  | succ e ih =>
    intro k f σ hk hf h12 h52 h57
    obtain ⟨f, rfl⟩ : ∃ k', f = k' + 1 := ⟨f - 1, by omega⟩
    show ∃ τ, s_X10_changeOver_2b n (s_X10_changeOver_2 n f) _ _ _ = _ ∧ _
    unfold s_X10_changeOver_2b
    have hmk := hmem k (by omega)
    rw [h12, if_neg (by rw [nle (by omega) (by omega)]; omega), bit_p k (by omega) P (by omega), show nI k + 1 = nI (k + 1) from nI_1 k]
    cases hb : P.testBit k
    · rw [if_neg (by rw [if_neg (by decide)]; decide)]
      refine ih (k + 1) f σ (by omega) (by omega) h12 h52 (fun s hs => ?_)
      rw [h57 s hs]
      unfold oKd
      rw [any_s, hb, Bool.false_and, Bool.or_false]
    · rw [if_pos (by rw [if_pos rfl]), ck_n (by omega) (by omega), ix_n (by omega), h52 k (by omega), ck_n (by omega) (by omega), ix_n (by omega), lt_eq]
      refine ih (k + 1) f _ (by omega) (by omega) (by rw [up2_o (by decide)]; exact h12) (fun j hj => by rw [up2_o (by decide)]; exact h52 j hj) (fun s hs => ?_)
      unfold oKd
      rw [any_s, hb, Bool.true_and]
      by_cases e1 : s = mem v k
      · rw [e1, decide_eq_true rfl, Bool.or_true, Bool.or_true]
        simp [up2_app, zo]
      · rw [decide_eq_false (Ne.symm e1), Bool.or_false]
        simp only [up2_app, e1, if_false, ite_self]
        exact h57 s hs
/-- the tables, from the last set down -/
theorem weigh_go {n m : Nat} {N : Net} {S : Str} {K : Nat → Bool} {pu : Nat → Int32} {L : Lw} {v : Int32} (hn : 11000 ≤ n) (hm : m < 7) (hN : nok N) (hS : sok S) (hk : L.2.1 ≤ 4) (hpu : ∀ h, h < 24 → 0 ≤ (pu h).toInt ∧ (pu h).toInt ≤ 9999) (hmem : ∀ k, k < m → mem v k < sN S) : ∀ (d f : Nat) (σ : Sg), d ≤ 2 ^ m → d < f → oIn N S K pu L v m σ → oTb m (ocs N S K pu L v m) d σ → ∃ τ, s_X10_weigh_11 n f 22 (nI (2 ^ m - 1)) (nI d + -1) σ = some τ ∧ oTb m (ocs N S K pu L v m) 0 τ ∧ τ 51 13 = nI (rst m (ocs N S K pu L v m) 0) := by
  have h64 := pow6 hm
  have hp0 : 0 < 2 ^ m := Nat.pos_of_ne_zero (by simp)
  intro d
  induction d with
  | zero =>
    intro f σ hd hf hI hT
    obtain ⟨f, rfl⟩ : ∃ k', f = k' + 1 := ⟨f - 1, by omega⟩
    show ∃ τ, s_X10_weigh_11b n (s_X10_weigh_11 n f) _ _ _ _ = _ ∧ _
    unfold s_X10_weigh_11b
    rw [if_pos (show nI 0 + -1 < 0 by decide), show (0 : Int32) = nI 0 from rfl, ck_n (by omega) (by omega), lt_eq, ix_n (by omega)]
    refine ⟨_, rfl, fun P h1 h2 => ?_, ?_⟩
    · rw [up2_o (by decide), up2_o (by decide)]
      exact hT P h1 h2
    · rw [up2_app, if_pos rfl, if_pos rfl]
      exact (hT 0 (by omega) hp0).1
  | succ d ih =>
    intro f σ hd hf hI hT
    obtain ⟨f, rfl⟩ : ∃ k', f = k' + 1 := ⟨f - 1, by omega⟩
    show ∃ τ, s_X10_weigh_11b n (s_X10_weigh_11 n f) _ _ _ _ = _ ∧ _
    unfold s_X10_weigh_11b
    rw [ndec (show 0 < d + 1 by omega), show d + 1 - 1 = d by omega, if_neg (n_nlt0 (by omega))]
    have rest : ∀ (ρ : Sg), oIn N S K pu L v m ρ → oTb m (ocs N S K pu L v m) (d + 1) ρ → ∃ τ, s_X10_weigh_34 n (s_X10_weigh_11 n f) 22 (nI (2 ^ m - 1)) (nI d) (nI (rst m (ocs N S K pu L v m) d)) (nI d) ρ = some τ ∧ oTb m (ocs N S K pu L v m) 0 τ ∧ τ 51 13 = nI (rst m (ocs N S K pu L v m) 0) := by
      intro ρ hI hT
      unfold s_X10_weigh_34
      rw [ck_n (by omega) (by omega), lt_eq, ix_n (by omega)]
      have hI5 : oIn N S K pu L v m (up2 ρ 54 d (nI (rst m (ocs N S K pu L v m) d))) := oIn_of hI (fun o j h => up2_o (fok_a h (by decide)))
      by_cases h0 : d = 0
      · subst h0
        rw [if_pos (show nI 0 = 0 from rfl)]
        refine ih f _ (by omega) (by omega) hI5 (fun P h1 h2 => ?_)
        by_cases e1 : P = 0
        · subst e1
          refine ⟨by simp [up2_app], fun z => absurd rfl z⟩
        · rw [up2_o (show 53 ≠ 54 by decide)]
          simp only [up2_app, e1, if_false, ite_self]
          exact hT P (by omega) h2
      · rw [if_neg (by rw [show (0 : Int32) = nI 0 from rfl, neq (by omega) (by omega)]; exact h0)]
        obtain ⟨τ6, a1, a2, a3⟩ := startAs_ok (n := n) (σ := up2 ρ 54 d (nI (rst m (ocs N S K pu L v m) d))) (by omega)
        have hI6 : oIn N S K pu L v m τ6 := oIn_of hI5 (fun o j h => a3 o j (fok_a h (by decide)) (fok_a h (by decide)))
        have h10 := hS.1
        obtain ⟨τ7, b1, b2⟩ := change_go (n := n) (K := K) (ns := sN S) (P := d) hm (by omega) h10 hmem m 0 n τ6 (by omega) (by omega) hI6.2.2.2.2.2.1 hI6.2.2.2.2.2.2 (fun s hs => by
          rw [(a2 s (by omega)).1, up2_o (by decide), hI.2.2.1 s hs]
          show zo (K s) = zo (K s || (List.range 0).any _)
          rw [List.range_zero, List.any_nil, Bool.or_false])
        have b1' : s_X10_changeOver n (nI d) τ6 = some τ7 := b1
        have f7 : ∀ o j, o ≠ 57 → τ7 o j = τ6 o j := fun o j h => fr_s_X10_changeOver (by simp [fok, Ne.symm h]) _ _ b1'
        have hI7 : oIn N S K pu L v m τ7 := oIn_of hI6 (fun o j h => f7 o j (fok_a h (by decide)))
        have ht : tok (oTn N S K pu v m d) := ⟨hN, hS, hpu, by show 0 < 10; omega, by show 0 ≤ (0 : Int32).toInt; decide, by show (0 : Int32).toInt ≤ 999; decide⟩
        obtain ⟨τ8, c1, c2⟩ := cday_loop (n := n) (H := 24) (T := oTn N S K pu v m d) (L := L) (b := true) (c := fun _ => 0) hn ht hk (cok_0 hS) (by omega) 24 0 n τ7 (by omega) (by omega) (by
          refine ⟨⟨hI7.1, hI7.2.1, fun s hs => ⟨b2 s hs, ?_⟩, hI7.2.2.2.1⟩, hI7.2.2.2.2.1, fun s hs hs2 => ?_⟩
          · show τ7 58 s = 0
            have hs' : s < sN S := hs
            rw [f7 58 s (by decide)]; exact (a2 s (by omega)).2
          · show τ7 58 s = 0
            rw [f7 58 s (by decide)]; exact (a2 s hs2).2)
        have c1' : s_X10_dryOfDay n 24 1 0 0 τ7 = some (nI (ocs N S K pu L v m d), τ8) := c1
        have f8 : ∀ o j, fok W_X10_dryOfDay o j = true → τ8 o j = τ7 o j := fun o j h => fr_s_X10_dryOfDay h _ _ _ _ _ c1'
        have hI8 : oIn N S K pu L v m τ8 := oIn_of hI7 (fun o j h => f8 o j (fok_sub h (by decide)))
        rw [a1, bdv_so, b1', bdv_so, c1', bd_so, ck_n (by omega) (by omega), lt_eq]
        refine ih f _ (by omega) (by omega) (oIn_of hI8 (fun o j h => up2_o (fok_a h (by decide)))) (fun P h1 h2 => ?_)
        have q54 : ∀ j, up2 τ8 53 d (nI (ocs N S K pu L v m d)) 54 j = up2 ρ 54 d (nI (rst m (ocs N S K pu L v m) d)) 54 j := fun j => by
          rw [up2_o (by decide), f8 54 j rfl, f7 54 j (by decide), a3 54 j (by decide) (by decide)]
        have q53 : ∀ j, τ8 53 j = ρ 53 j := fun j => by
          rw [f8 53 j rfl, f7 53 j (by decide), a3 53 j (by decide) (by decide), up2_o (by decide)]
        rw [q54 P]
        by_cases e1 : P = d
        · subst e1
          refine ⟨by simp [up2_app], fun _ => by simp [up2_app]⟩
        · simp only [up2_app, e1, if_false, ite_self]
          rw [q53 P]
          exact hT P (by omega) h2
    by_cases hall : d = 2 ^ m - 1
    · rw [if_pos (by rw [hall])]
      have := rest σ hI hT
      rw [show rst m (ocs N S K pu L v m) d = 0 by unfold rst; rw [hall, rem_all m hm]; rfl] at this
      exact this
    · rw [if_neg (by rw [neq (by omega) (by omega)]; exact hall)]
      have hne := rem_nn m hm d (by omega) hall
      have hl := least_go (n := n) (c := ocs N S K pu L v m) hm (ocs_le N S K pu L v m) (show d < 2 ^ m by omega) hI.2.2.2.2.2.1 hT m 0 n (-1) (by omega) (by omega) rfl
      have hl' : s_X10_leastBehind n (nI d) σ = some (nI (rst m (ocs N S K pu L v m) d), σ) := by
        show s_X10_leastBehind_4 n n (nI d) (-1) (nI 0) σ = _
        rw [hl, if_neg hne]
        unfold rst
        rw [rst_s hm (by omega) hne]
      rw [hl', bd_so]
      exact rest σ hI hT
/-- the way is followed -/
theorem follow_go {n m : Nat} {c : Nat → Nat} {v : Int32} (hn : 20 ≤ n) (hm : m < 7) (hc : ∀ P, c P ≤ 24) : ∀ (e i f P : Nat) (σ : Sg), i + e = m → e < f → P < 2 ^ m → (rem m P).length = e → σ 51 12 = nI m → (∀ k, k < m → σ 52 k = nI (mem v k)) → oTb m c 0 σ → ∃ τ, s_X10_follow_4 n f (nI P) (nI i) σ = some τ ∧ (∀ j, j < e → ∃ k, (obst m c e P).2[j]? = some k ∧ k < m ∧ τ 55 (i + j) = nI (mem v k)) ∧ ∀ o j, (o ≠ 55 ∨ j < i) → τ o j = σ o j := by
  have h64 := pow6 hm
  intro e
  induction e with
  | zero =>
    intro i f P σ hi hf hP hl h12 h52 hT
    obtain ⟨f, rfl⟩ : ∃ k', f = k' + 1 := ⟨f - 1, by omega⟩
    have hi : i = m := by omega
    subst hi
    refine ⟨σ, ?_, fun j hj => absurd hj (Nat.not_lt_zero _), fun _ _ _ => rfl⟩
    show s_X10_follow_4b n _ _ _ _ = _
    unfold s_X10_follow_4b
    rw [h12, if_pos (Int32.le_refl _)]
  | succ e ih =>
    intro i f P σ hi hf hP hl h12 h52 hT
    obtain ⟨f, rfl⟩ : ∃ k', f = k' + 1 := ⟨f - 1, by omega⟩
    have hne : rem m P ≠ [] := fun z => by rw [z] at hl; simp at hl
    obtain ⟨k, k1, k2, k3⟩ := ofirst_go (n := n) hm hc hP hne h12 hT m 0 n (by omega) (by omega) (fun j hj => by simp [rem] at hj)
    have k2' : s_X10_firstBest n (nI P) σ = some (nI k, σ) := k2
    have kr := rem_len m hm P hP k k1
    obtain ⟨o1, _, _⟩ := or_p k (by omega) P (by omega)
    show ∃ τ, s_X10_follow_4b n (s_X10_follow_4 n f) _ _ _ = _ ∧ _
    unfold s_X10_follow_4b
    rw [h12, if_neg (by rw [nle (by omega) (by omega)]; omega), k2', bd_so, ck_n (by omega) (by omega), ck_n (by omega) (by omega), lt_eq, ix_n (by omega), ix_n (by omega), lt_eq, o1, show nI i + 1 = nI (i + 1) from nI_1 i, h52 k kr.1]
    obtain ⟨τ, t1, t2, t3⟩ := ih (i + 1) f (ins1 P k) (up2 σ 55 i (nI (mem v k))) (by omega) (by omega) kr.2.1 (by omega) (by rw [up2_o (by decide)]; exact h12) (fun j hj => by rw [up2_o (by decide)]; exact h52 j hj) (fun Q q1 q2 => by rw [up2_o (by decide), up2_o (by decide)]; exact hT Q q1 q2)
    refine ⟨τ, t1, fun j hj => ?_, fun o j ho => ?_⟩
    · have hb : obst m c (e + 1) P = gv m c P k := by rw [← hl]; exact k3
      rw [hb]
      show ∃ k', (k :: (obst m c (rem m (ins1 P k)).length (ins1 P k)).2)[j]? = some k' ∧ _
      rw [show (rem m (ins1 P k)).length = e by omega]
      cases j with
      | zero =>
        refine ⟨k, rfl, kr.1, ?_⟩
        rw [t3 55 (i + 0) (.inr (by omega))]
        simp [up2_app]
      | succ j =>
        obtain ⟨k', q1, q2, q3⟩ := t2 j (by omega)
        refine ⟨k', by rw [List.getElem?_cons_succ]; exact q1, q2, ?_⟩
        rw [show i + (j + 1) = i + 1 + j by omega]
        exact q3
    · rw [t3 o j (ho.elim .inl (fun h => .inr (by omega)))]
      rcases ho with h | h
      · exact up2_o h
      · simp only [up2_app, show ¬ j = i by omega, if_false, ite_self]
