/-! ===== an hour, the reference ===== -/
def mHr (X : Hr) (σ : Sg) : Prop := mDat X.1 X.2.1 X.2.2.1 X.2.2.2.1 σ ∧ mSp (hAt X) (hSp X) σ ∧ σ 72 (hH X) = hPu X
def mFl (X : Hr) (σ : Sg) : Prop := σ 71 56 = nI (hLn X).1 ∧ (∀ i, i < (hLn X).1 → σ 107 i = nI ((hLn X).2 i)) ∧ (∀ t, t < sN X.2.1 → σ 104 t = hAsk X t ∧ σ 105 t = hGot X t) ∧ σ 71 57 = (hLk X).1 ∧ ∃ z, mM (hSv X).2 z 0 σ
theorem mscr_iff {o j : Nat} (h : mscr o j = false) : ¬ (101 ≤ o ∧ o ≤ 107) ∧ ¬ (o = 71 ∧ (j = 56 ∨ j = 57)) := by
  unfold mscr at h
  simp only [Bool.or_eq_false_iff, Bool.and_eq_false_iff, decide_eq_false_iff_not, beq_eq_false_iff_ne] at h
  omega
theorem mflow_ok {n : Nat} {X : Hr} {σ : Sg} (hn : 11000 ≤ n) (h : hok X) (hm : mHr X σ) : ∃ τ, s_X12_findFlow n (nI (hH X)) σ = some τ ∧ mFl X τ ∧ ∀ o j, mscr o j = false → τ o j = σ o j := by
  obtain ⟨h1, h2, h3, h4, h5, h6, h7, h8⟩ := id h
  have h10 := h2.1
  obtain ⟨τ1, t1, t2⟩ := mline_ok (n := n) (hr := hH X) (by omega) h1 h2 h4 hm.1
  have fr1 : ∀ o j, o ≠ 104 → o ≠ 105 → o ≠ 106 → o ≠ 107 → (o = 71 → j ≠ 56) → τ1 o j = σ o j := fun o j a1 a2 a3 a4 a5 => fr_s_X12_findLine (by
    by_cases e : o = 71
    · subst e; simp [fok, Ne.symm (a5 rfl)]
    · simp [fok, Ne.symm a1, Ne.symm a2, Ne.symm a3, Ne.symm a4, Ne.symm e]) _ _ t1
  have frm : ∀ o j, mscr o j = false → τ1 o j = σ o j := fun o j ho => by
    have := mscr_iff ho
    exact fr1 o j (by omega) (by omega) (by omega) (by omega) (by omega)
  have hd1 := mDat_of hm.1 frm
  obtain ⟨τ2, z2, u1, u2, u3⟩ := mleaks_ok (n := n) (pump := hPu X) (spring := hSp X) h1 h6 h8 hn hd1.1 (by unfold mSp; rw [frm 71 50 rfl, frm 71 51 rfl]; exact hm.2.1) (by rw [frm 72 _ rfl]; exact hm.2.2) h5.1 h5.2 h7.1 h7.2
  have fr2 : ∀ o j, o ≠ 101 → o ≠ 102 → o ≠ 103 → (o = 71 → j ≠ 57) → τ2 o j = τ1 o j := fun o j a1 a2 a3 a5 => fr_s_X12_askLeaks (by
    by_cases e : o = 71
    · subst e; simp [fok, Ne.symm (a5 rfl)]
    · simp [fok, Ne.symm a1, Ne.symm a2, Ne.symm a3, Ne.symm e]) _ _ u1
  have hl := h_lok h
  have hwl := hl.2.1
  have hmL : mL (sN X.2.1) (sD X.2.1) (hAsk X) (hLn X).1 (hLn X).2 τ2 := by
    refine ⟨by rw [fr2 71 56 (by decide) (by decide) (by decide) (fun _ => by decide)]; exact t2.1, fun i hi => by rw [fr2 107 i (by decide) (by decide) (by decide) (fun q => absurd q (by decide))]; exact t2.2.1 i hi, fun t ht => ⟨?_, ?_⟩⟩
    · rw [fr2 81 t (by decide) (by decide) (by decide) (fun q => absurd q (by decide))]
      exact (hd1.2.1.2 t ht).1
    · rw [fr2 104 t (by decide) (by decide) (by decide) (fun q => absurd q (by decide))]
      exact (t2.2.2 t ht).1
  obtain ⟨τ3, z3, w1, w2, w3⟩ := mserve_loop (n := n) hn hl (h_lk h).1 (h_lk h).2 (hLn X).1 0 n z2 τ2 (by omega) (by omega) hmL u2 (fun t ht => by
    rw [fr2 105 t (by decide) (by decide) (by decide) (fun q => absurd q (by decide))]
    exact (t2.2.2 t ht).2)
  have w1' : s_X12_askStreets n τ2 = some τ3 := w1
  have fr3 : ∀ o j, o ≠ 101 → o ≠ 102 → o ≠ 103 → o ≠ 105 → τ3 o j = τ2 o j := fun o j a1 a2 a3 a4 => fr_s_X12_askStreets (by simp [fok, Ne.symm a1, Ne.symm a2, Ne.symm a3, Ne.symm a4]) _ w1'
  refine ⟨τ3, ?_, ⟨?_, fun i hi => ?_, fun t ht => ⟨?_, w3 t ht⟩, ?_, z3, w2⟩, fun o j ho => ?_⟩
  · unfold s_X12_findFlow
    rw [t1, bdv_some, u1, bdv_some, w1', bdv_some]
  · rw [fr3 71 56 (by decide) (by decide) (by decide) (by decide)]; exact hmL.1
  · rw [fr3 107 i (by decide) (by decide) (by decide) (by decide)]; exact hmL.2.1 i hi
  · rw [fr3 104 t (by decide) (by decide) (by decide) (by decide)]; exact (hmL.2.2 t ht).2
  · rw [fr3 71 57 (by decide) (by decide) (by decide) (by decide)]; exact u3
  · have q := mscr_iff ho
    rw [fr3 o j (by omega) (by omega) (by omega) (by omega), fr2 o j (by omega) (by omega) (by omega) (by omega)]
    exact frm o j ho
theorem mon2_ok {n s : Nat} {K : Knd} {L : Lw} {h : Int32} {σ : Sg} (hs : s < 10) (k1 : σ 86 s = zo (K.1 s)) (hw : mW L σ) : s_X12_isWaterOn n (nI s) h σ = some (zo (won L K h s), σ) := by
  unfold s_X12_isWaterOn
  simp (disch := omega) only [ck_n, ix_n, k1]
  rw [hw.2.2.1, hw.2.2.2, in_ok, bd_some]
  unfold won
  cases K.1 s
  · rw [if_pos (show zo false = 0 from rfl)]
    cases (decide (L.2.2.1 ≤ h) && decide (h ≤ L.2.2.2)) <;> rfl
  · rw [if_neg (by decide)]
    rfl
/-- sums behind s streets of an hour -/
def mSum (X : Hr) (g0 d0 l0 w0 : Nat → Int32) (s : Nat) (σ : Sg) : Prop := ∀ t, t < sN X.2.1 → (t < s → σ 88 t = hC X t ∧ σ 89 t = g0 t + hGot X t ∧ σ 90 t = d0 t + zo (decide (¬ hX X t ≤ 0)) ∧ σ 91 t = l0 t + hX X t ∧ σ 92 t = w0 t + hWs X t) ∧ (s ≤ t → σ 88 t = X.2.2.1.2 t ∧ σ 89 t = g0 t ∧ σ 90 t = d0 t ∧ σ 91 t = l0 t ∧ σ 92 t = w0 t)
theorem doHour_loop {n : Nat} {X : Hr} {b : Bool} {g0 d0 l0 w0 : Nat → Int32} (h : hok X) : ∀ (e s k : Nat) (σ : Sg), s + e = sN X.2.1 → e < k → mS' X.2.1 σ → mW X.2.2.2.1 σ → (∀ t, t < sN X.2.1 → σ 86 t = zo (X.2.2.1.1 t) ∧ σ 105 t = hGot X t) → mSum X g0 d0 l0 w0 s σ →
    ∃ τ, s_X12_doHour_23 n k (nI (hH X)) (zo b) (zo (hDry X b s)) (nI s) σ = some (zo (hDry X b (sN X.2.1)), τ) ∧ mSum X g0 d0 l0 w0 (sN X.2.1) τ ∧ ∀ o j, o ≠ 88 → o ≠ 89 → o ≠ 90 → o ≠ 91 → o ≠ 92 → τ o j = σ o j := by
  have h10 := h.2.1.1
  intro e
  induction e with
  | zero =>
    intro s k σ hs hk hc hw hg hsum
    obtain ⟨k, rfl⟩ : ∃ k', k = k' + 1 := ⟨k - 1, by omega⟩
    have hs : s = sN X.2.1 := by omega
    subst hs
    refine ⟨σ, ?_, hsum, fun _ _ _ _ _ _ _ => rfl⟩
    show s_X12_doHour_23b n _ _ _ _ _ _ = _
    unfold s_X12_doHour_23b
    rw [hc.1, if_pos (by rw [nle (by omega) (by omega)]; exact Nat.le_refl _)]
    unfold bck
    rw [if_pos (by cases hDry X b (sN X.2.1); exact Or.inl rfl; exact Or.inr rfl)]
  | succ e ih =>
    intro s k σ hs hk hc hw hg hsum
    obtain ⟨k, rfl⟩ : ∃ k', k = k' + 1 := ⟨k - 1, by omega⟩
    have hsl : s < sN X.2.1 := by omega
    obtain ⟨_, q1, q2, _⟩ := hc.2 s hsl
    obtain ⟨g1, g2⟩ := hg s hsl
    obtain ⟨s88, s89, s90, s91, s92⟩ := (hsum s hsl).2 (Nat.le_refl _)
    obtain ⟨_, a1, a2, a3, a4, a5, a6⟩ := h.2.1.2 s hsl
    obtain ⟨b1, b2⟩ := h.2.2.1 s hsl
    obtain ⟨c1, c2, c3⟩ := ask_b h hsl
    obtain ⟨d1, d2⟩ := got_b h hsl
    obtain ⟨m1, m2, m3, m4⟩ := out_same (al := X.2.2.1.1 s) (on := won X.2.2.2.1 X.2.2.1 (nI (hH X)) s) a1 a2 a3 a4 b1 b2 a6 d1 (by omega) (fun z => by have := c3 z; omega) (fun z => got_off h hsl z)
    -- behind the least of what it got and the waste
    have go : ∃ τ, s_X12_doHour_60 n (s_X12_doHour_23 n k) (nI (hH X)) (zo b) (zo (hDry X b s)) (nI s) (if won X.2.2.2.1 X.2.2.1 (nI (hH X)) s = true then sW X.2.1 s else 0) (hGot X s) σ = some (zo (hDry X b (sN X.2.1)), τ) ∧ mSum X g0 d0 l0 w0 (sN X.2.1) τ ∧ ∀ o j, o ≠ 88 → o ≠ 89 → o ≠ 90 → o ≠ 91 → o ≠ 92 → τ o j = σ o j := by
      unfold s_X12_doHour_60
      rw [least_ok, bd_some, m1]
      simp (disch := omega) only [ck_n, ix_n, lt_eq, q1, g2, s88, least_ok, bd_some, g1]
      rw [m2, m3]
      unfold s_X12_doHour_155
      simp (disch := omega) only [ck_n, ix_n, lt_eq]
      have hr : (if zo (X.2.2.1.1 s) = 0 then hGot X s - oW (sW X.2.1 s) (hGot X s) - oU (sQ X.2.1 s) (sW X.2.1 s) (hGot X s) else 0) = if X.2.2.1.1 s = true then 0 else hGot X s - oW (sW X.2.1 s) (hGot X s) - oU (sQ X.2.1 s) (sW X.2.1 s) (hGot X s) := by
        cases X.2.2.1.1 s <;> rfl
      rw [hr, m4]
      have eC : oE (sQ X.2.1 s) (sW X.2.1 s) (X.2.2.1.1 s) (X.2.2.1.2 s) (hGot X s) = hC X s := rfl
      have eX : sQ X.2.1 s - oU (sQ X.2.1 s) (sW X.2.1 s) (hGot X s) - oT (sQ X.2.1 s) (sW X.2.1 s) (X.2.2.1.1 s) (X.2.2.1.2 s) (hGot X s) = hX X s := rfl
      have eW : oW (sW X.2.1 s) (hGot X s) = hWs X s := rfl
      rw [eC, eX, eW]
      have v89 : up2 σ 88 s (hC X s) 89 s = g0 s := by rw [up2_o (by decide)]; exact s89
      have v105 : up2 σ 88 s (hC X s) 105 s = hGot X s := by rw [up2_o (by decide)]; exact g2
      rw [v89, v105]
      have v92 : up2 (up2 σ 88 s (hC X s)) 89 s (g0 s + hGot X s) 92 s = w0 s := by rw [up2_o (by decide), up2_o (by decide)]; exact s92
      rw [v92]
      have v91 : up2 (up2 (up2 σ 88 s (hC X s)) 89 s (g0 s + hGot X s)) 92 s (w0 s + hWs X s) 91 s = l0 s := by rw [up2_o (by decide), up2_o (by decide), up2_o (by decide)]; exact s91
      rw [v91]
      have v90 : up2 (up2 (up2 (up2 σ 88 s (hC X s)) 89 s (g0 s + hGot X s)) 92 s (w0 s + hWs X s)) 91 s (l0 s + hX X s) 90 s = d0 s := by rw [up2_o (by decide), up2_o (by decide), up2_o (by decide), up2_o (by decide)]; exact s90
      rw [v90]
      have vd : (if hX X s ≤ 0 then (0 : Int32) else 1) = zo (decide (¬ hX X s ≤ 0)) := by
        by_cases z : hX X s ≤ 0
        · simp [z, zo]
        · simp [z, zo]
      rw [vd]
      unfold s_X12_doHour_229
      rw [one_ok, bd_some]
      simp (disch := omega) only [ck_n, ix_n, lt_eq]
      have v86 : up2 (up2 (up2 (up2 (up2 σ 88 s (hC X s)) 89 s (g0 s + hGot X s)) 92 s (w0 s + hWs X s)) 91 s (l0 s + hX X s)) 90 s (d0 s + zo (decide (¬ hX X s ≤ 0))) 86 s = zo (X.2.2.1.1 s) := by rw [up2_o (by decide), up2_o (by decide), up2_o (by decide), up2_o (by decide), up2_o (by decide)]; exact g1
      rw [v86, show nI s + 1 = nI (s + 1) from nI_1 s]
      have hs1 : hDry X b (s + 1) = (hDry X b s || (decide (¬ hX X s ≤ 0) && (!b || X.2.2.1.1 s))) := rfl
      have fr : ∀ o j, o ≠ 88 → o ≠ 89 → o ≠ 90 → o ≠ 91 → o ≠ 92 → up2 (up2 (up2 (up2 (up2 σ 88 s (hC X s)) 89 s (g0 s + hGot X s)) 92 s (w0 s + hWs X s)) 91 s (l0 s + hX X s)) 90 s (d0 s + zo (decide (¬ hX X s ≤ 0))) o j = σ o j := fun o j p1 p2 p3 p4 p5 => by rw [up2_o p3, up2_o p4, up2_o p5, up2_o p2, up2_o p1]
      have nx := ih (s + 1) k (up2 (up2 (up2 (up2 (up2 σ 88 s (hC X s)) 89 s (g0 s + hGot X s)) 92 s (w0 s + hWs X s)) 91 s (l0 s + hX X s)) 90 s (d0 s + zo (decide (¬ hX X s ≤ 0)))) (by omega) (by omega) (by
          unfold mS'
          simp only [fr 71 _ (by decide) (by decide) (by decide) (by decide) (by decide), fr 81 _ (by decide) (by decide) (by decide) (by decide) (by decide), fr 82 _ (by decide) (by decide) (by decide) (by decide) (by decide), fr 83 _ (by decide) (by decide) (by decide) (by decide) (by decide), fr 84 _ (by decide) (by decide) (by decide) (by decide) (by decide), fr 85 _ (by decide) (by decide) (by decide) (by decide) (by decide)]
          exact hc) (by
          unfold mW
          simp only [fr 71 _ (by decide) (by decide) (by decide) (by decide) (by decide)]
          exact hw) (fun t ht => by
          rw [fr 86 t (by decide) (by decide) (by decide) (by decide) (by decide), fr 105 t (by decide) (by decide) (by decide) (by decide) (by decide)]
          exact hg t ht) (fun t ht => ⟨fun z => by
          by_cases e2 : t = s
          · subst e2
            simp [up2_app]
          · have := (hsum t ht).1 (by omega)
            simp [up2_app, e2, this], fun z => by
          have e2 : ¬ t = s := by omega
          have := (hsum t ht).2 (by omega)
          simp [up2_app, e2, this]⟩)
      have nx : ∃ τ, s_X12_doHour_23 n k (nI (hH X)) (zo b) (zo (hDry X b (s + 1))) (nI (s + 1)) (up2 (up2 (up2 (up2 (up2 σ 88 s (hC X s)) 89 s (g0 s + hGot X s)) 92 s (w0 s + hWs X s)) 91 s (l0 s + hX X s)) 90 s (d0 s + zo (decide (¬ hX X s ≤ 0)))) = some (zo (hDry X b (sN X.2.1)), τ) ∧ mSum X g0 d0 l0 w0 (sN X.2.1) τ ∧ ∀ o j, o ≠ 88 → o ≠ 89 → o ≠ 90 → o ≠ 91 → o ≠ 92 → τ o j = σ o j := by
        obtain ⟨τ, x1, x2, x3⟩ := nx
        exact ⟨τ, x1, x2, fun o j p1 p2 p3 p4 p5 => (x3 o j p1 p2 p3 p4 p5).trans (fr o j p1 p2 p3 p4 p5)⟩
      rw [hs1] at nx
      cases hd : hDry X b s
      · rw [hd] at nx
        rw [if_pos (show zo false = 0 from rfl)]
        by_cases z : hX X s ≤ 0
        · rw [if_pos z]
          unfold s_X12_doHour_261
          rw [show nI s + 1 = nI (s + 1) from nI_1 s]
          simp only [z, not_true, decide_false, Bool.false_and, Bool.or_false] at nx
          simp only [z, not_true, decide_false]
          exact nx
        · rw [if_neg z]
          simp only [z, not_false_iff, decide_true, Bool.true_and, Bool.false_or] at nx
          have ev : (if zo (X.2.2.1.1 s) = 0 then if zo b = 0 then (1 : Int32) else 0 else 1) = zo (!b || X.2.2.1.1 s) := by
            cases X.2.2.1.1 s <;> cases b <;> rfl
          simp only [z, not_false_iff, decide_true]
          rw [ev]
          exact nx
      · rw [hd] at nx
        rw [if_neg (show ¬ zo true = 0 by decide)]
        exact nx
    show ∃ τ, s_X12_doHour_23b n (s_X12_doHour_23 n k) _ _ _ _ _ = _ ∧ _
    unfold s_X12_doHour_23b
    rw [hc.1, if_neg (by rw [nle (by omega) (by omega)]; omega)]
    simp (disch := omega) only [ck_n, ix_n]
    rw [mon2_ok (K := X.2.2.1) (by omega) g1 hw, bd_some]
    simp (disch := omega) only [ck_n, ix_n, q2, g2]
    cases hon : won X.2.2.2.1 X.2.2.1 (nI (hH X)) s
    · rw [hon] at go
      rw [if_pos (show zo false = 0 from rfl)]
      exact go
    · rw [hon] at go
      rw [if_neg (show ¬ zo true = 0 by decide)]
      exact go
/-- the reference's hour: dry or not, and what is behind it -/
theorem doHour_ok {n : Nat} {X : Hr} {b : Bool} {σ : Sg} (hn : 11000 ≤ n) (h : hok X) (hm : mHr X σ) : ∃ τ, s_X12_doHour n (nI (hH X)) (zo b) σ = some (zo (hDry X b (sN X.2.1)), τ) ∧ (∀ t, t < sN X.2.1 → τ 88 t = hC X t ∧ τ 89 t = σ 89 t + hGot X t ∧ τ 90 t = σ 90 t + zo (decide (¬ hX X t ≤ 0)) ∧ τ 91 t = σ 91 t + hX X t ∧ τ 92 t = σ 92 t + hWs X t) ∧ τ 71 25 = σ 71 25 + (hLk X).1 := by
  have h10 := h.2.1.1
  obtain ⟨τ1, t1, t2, t3⟩ := mflow_ok (n := n) hn h hm
  have hd := mDat_of hm.1 t3
  unfold s_X12_doHour
  rw [t1, bdv_some, lt_eq, t2.2.2.2.1, t3 71 25 rfl]
  have fr : ∀ o j, (o = 71 → j ≠ 25) → up2 τ1 71 25 (σ 71 25 + (hLk X).1) o j = τ1 o j := fun o j q => by
    by_cases e : o = 71
    · subst e; simp [up2_app, q rfl]
    · exact up2_o e
  obtain ⟨τ, w1, w2, w3⟩ := doHour_loop (n := n) (b := b) (g0 := σ 89) (d0 := σ 90) (l0 := σ 91) (w0 := σ 92) h (sN X.2.1) 0 n (up2 τ1 71 25 (σ 71 25 + (hLk X).1)) (by omega) (by omega) (by
      unfold mS'
      simp only [fr 71 11 (fun _ => by decide), fr 81 _ (fun q => absurd q (by decide)), fr 82 _ (fun q => absurd q (by decide)), fr 83 _ (fun q => absurd q (by decide)), fr 84 _ (fun q => absurd q (by decide)), fr 85 _ (fun q => absurd q (by decide))]
      exact hd.2.1) (by
      unfold mW
      simp only [fr 71 41 (fun _ => by decide), fr 71 42 (fun _ => by decide), fr 71 43 (fun _ => by decide), fr 71 44 (fun _ => by decide)]
      exact hd.2.2.2) (fun t ht => by
      rw [fr 86 t (fun q => absurd q (by decide)), fr 105 t (fun q => absurd q (by decide))]
      exact ⟨(hd.2.2.1 t ht).1, (t2.2.2.1 t ht).2⟩) (fun t ht => ⟨fun z => absurd z (Nat.not_lt_zero _), fun _ => by
      rw [fr 88 t (fun q => absurd q (by decide)), fr 89 t (fun q => absurd q (by decide)), fr 90 t (fun q => absurd q (by decide)), fr 91 t (fun q => absurd q (by decide)), fr 92 t (fun q => absurd q (by decide)), t3 88 t rfl, t3 89 t rfl, t3 90 t rfl, t3 91 t rfl, t3 92 t rfl]
      exact ⟨(hm.1.2.2.1 t ht).2, rfl, rfl, rfl, rfl⟩⟩)
  have w1' : s_X12_doHour_23 n n (nI (hH X)) (zo b) 0 0 (up2 τ1 71 25 (σ 71 25 + (hLk X).1)) = some (zo (hDry X b (sN X.2.1)), τ) := w1
  refine ⟨τ, w1', fun t ht => (w2 t ht).1 ht, ?_⟩
  have f25 : τ 71 25 = up2 τ1 71 25 (σ 71 25 + (hLk X).1) 71 25 := w3 71 25 (by decide) (by decide) (by decide) (by decide) (by decide)
  rw [f25]
  simp [up2_app]
