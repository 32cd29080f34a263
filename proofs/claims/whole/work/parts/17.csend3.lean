/-! ===== the class's sending ===== -/
theorem cP_of {A : Mx} {g : Nat} {σ : Sg} (hg : g ≤ 11) (h : cQ (bq A g) (bp A g) σ) : cP (pF A) (fun w => w ∈ bq A g) σ := by
  intro w hw
  refine ⟨(bok_all A g).2.1 w hw, fun hne => ?_⟩
  have e := (rch_of hg hw).2
  obtain ⟨i, hi⟩ := List.mem_iff_getElem?.mp hw
  obtain ⟨j, _, _, j3, _⟩ := (bok_all A g).2.2.2 i w hi hne
  rw [e]
  exact ⟨h.2 w hw hne, List.mem_of_getElem? j3⟩
theorem csend_loop {n node : Nat} {w : Int32} (hn : node < 10) (hN : 12 ≤ n) : ∀ (k i : Nat) (s : Int32) (A : Mx) (σ : Sg), cM A σ → rnn A → Sv A < (k : Int) → (i : Int) + Sv A < 20000 → 0 ≤ s.toInt → w.toInt ≤ 20000 →
    ∃ τ, s_X3_send_5 n k (nI node) w s (nI i) σ = some ((snd node w k s A).1, τ) ∧ cM (snd node w k s A).2 τ := by
  intro k
  induction k with
  | zero =>
    intro i s A σ hM hA hS _ _ _
    have := isum_nn (f := fun v => (A 10 v).toInt) hA 10 (Nat.le_refl _)
    unfold Sv at hS
    omega
  | succ k ih =>
    intro i s A σ hM hA hS hi hs hw
    have hS0 : 0 ≤ Sv A := isum_nn (f := fun v => (A 10 v).toInt) hA 10 (Nat.le_refl _)
    show ∃ τ, s_X3_send_5b n (s_X3_send_5 n k) _ _ _ _ _ = _ ∧ _
    unfold s_X3_send_5b
    rw [snd_s, if_neg (by rw [show (20000 : Int32) = nI 20000 from rfl, nle (by omega) (by omega)]; omega)]
    by_cases h1 : w ≤ s
    · rw [if_pos h1, if_pos h1]
      exact ⟨σ, rfl, hM⟩
    · rw [if_neg h1, if_neg h1]
      obtain ⟨τ1, m1, hf⟩ := findWay_ok (n := n) hn hN hM
      rcases hf with ⟨hr, e1, g, hg, hgn, hq⟩ | ⟨hr, e1⟩
      · have hr' : node ∈ bq A 11 := hr
        rw [if_pos hr', e1, bd_some, if_neg (by decide)]
        have hws : s.toInt < w.toInt := Int32.lt_iff_toInt_lt.mp (Int32.not_le.mp h1)
        have hsub : (w - s).toInt = w.toInt - s.toInt := sub_toInt hs (by omega)
        have hm : 0 < w - s := Int32.lt_iff_toInt_lt.mpr (by rw [hsub]; simp; omega)
        obtain ⟨p1, p2, p3, p4, p5⟩ := step_ok hn hr hm hA
        have hP := cP_of hg hq
        have e2 : s_X3_narrowest n (nI node) τ1 = some (nar A (pF A) 11 20000 node, τ1) := narrowest_ok (n := n) m1 hP 10 node n 0 11 20000 (chok_10 hr) hgn (by omega) (by omega) (by omega)
        rw [e2, bd_some]
        have e3 : imin (w - s) (nar A (pF A) 11 20000 node) = nar A (pF A) 11 (w - s) node := by
          rw [← nar_imin, imin_of_le]
          apply Int32.le_iff_toInt_le.mpr
          rw [hsub]
          show _ ≤ (20000 : Int)
          omega
        simp only [lt_eq]
        rw [e3]
        obtain ⟨τ2, u1, u2⟩ := push_ok (n := n) (x := nar A (pF A) 11 (w - s) node) 10 node n 0 11 A τ1 m1 hP (chok_10 hr) hgn (by omega) (by omega) (by omega)
        have u1' : s_X3_push n (nI node) (nar A (pF A) 11 (w - s) node) τ1 = some τ2 := u1
        rw [u1', bdv_some, show nI i + 1 = nI (i + 1) from nI_1 i]
        have q1 : 0 < (nar A (pF A) 11 (w - s) node).toInt := by have := Int32.lt_iff_toInt_lt.mp p1; simpa using this
        have q2 := Int32.le_iff_toInt_le.mp p2
        have q3 := Int32.toInt_lt w
        exact ih (i + 1) _ _ τ2 u2 p4 (by rw [p5]; omega) (by rw [p5]; push_cast; omega) (by rw [add_toInt (by omega) (by omega)]; omega) hw
      · have hr' : ¬ node ∈ bq A 11 := hr
        rw [if_neg hr', e1, bd_some, if_pos rfl]
        exact ⟨τ1, rfl, m1⟩
/-- what is sent, and what room is left -/
def sndN (node : Nat) (w : Int32) (A : Mx) : Int32 × Mx := snd node w 10999 0 A
theorem snd_N {node : Nat} {w : Int32} {A : Mx} (hn : node < 10) (hA : rnn A) (hS : Sv A ≤ 10998) {k : Nat} (hk : 10999 ≤ k) : snd node w k 0 A = sndN node w A := by
  have h := snd_more (w := w) hn 10999 (k - 10999) 0 A hA (by omega) (by decide)
  rw [show 10999 + (k - 10999) = k by omega] at h
  exact h
theorem csend_ok {n node : Nat} {w : Int32} {A : Mx} {σ : Sg} (hn : node < 10) (hN : 11000 ≤ n) (hM : cM A σ) (hA : rnn A) (hS : Sv A ≤ 10998) (hw : w.toInt ≤ 20000) : ∃ τ, s_X3_send n (nI node) w σ = some ((sndN node w A).1, τ) ∧ cM (sndN node w A).2 τ := by
  have h := csend_loop (n := n) (w := w) hn (by omega) n 0 0 A σ hM hA (by omega) (by simp; omega) (by decide) hw
  rw [snd_N hn hA hS (by omega)] at h
  exact h
