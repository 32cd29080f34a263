/-! ===== bounds of a sending; 20000 and 1000000 are alike ===== -/
theorem snd_inv {node : Nat} {w : Int32} (hn : node < 10) : ∀ (k : Nat) (s : Int32) (A : Mx), rnn A → 0 ≤ s.toInt → s.toInt ≤ w.toInt → rnn (snd node w k s A).2 ∧ Sv (snd node w k s A).2 ≤ Sv A ∧ s.toInt ≤ (snd node w k s A).1.toInt ∧ (snd node w k s A).1.toInt ≤ w.toInt := by
  intro k
  induction k with
  | zero => intro s A hA h0 h1; exact ⟨hA, by simp [snd], by simp [snd], h1⟩
  | succ k ih =>
    intro s A hA hs hsw
    rw [snd_s]
    by_cases h1 : w ≤ s
    · rw [if_pos h1]; exact ⟨hA, by simp, by simp, hsw⟩
    · rw [if_neg h1]
      by_cases h2 : node ∈ bq A 11
      · rw [if_pos h2]
        have hws : s.toInt < w.toInt := Int32.lt_iff_toInt_lt.mp (Int32.not_le.mp h1)
        have hsub : (w - s).toInt = w.toInt - s.toInt := sub_toInt hs (by omega)
        have hm : 0 < w - s := Int32.lt_iff_toInt_lt.mpr (by rw [hsub]; simp; omega)
        obtain ⟨p1, p2, p3, p4, p5⟩ := step_ok hn h2 hm hA
        have q1 : 0 < (nar A (pF A) 11 (w - s) node).toInt := by have := Int32.lt_iff_toInt_lt.mp p1; simpa using this
        have q2 := Int32.le_iff_toInt_le.mp p2
        have q3 := Int32.toInt_lt w
        have q4 : (s + nar A (pF A) 11 (w - s) node).toInt = s.toInt + (nar A (pF A) 11 (w - s) node).toInt := add_toInt (by omega) (by omega)
        obtain ⟨r1, r2, r3, r4⟩ := ih (s + nar A (pF A) 11 (w - s) node) _ p4 (by rw [q4]; omega) (by rw [q4]; omega)
        exact ⟨r1, by rw [p5] at r2; omega, by rw [q4] at r3; omega, r4⟩
      · rw [if_neg h2]; exact ⟨hA, by simp, by simp, hsw⟩
theorem sndN_inv {node : Nat} {w : Int32} {A : Mx} (hn : node < 10) (hA : rnn A) (hw : 0 ≤ w.toInt) : rnn (sndN node w A).2 ∧ Sv (sndN node w A).2 ≤ Sv A ∧ 0 ≤ (sndN node w A).1.toInt ∧ (sndN node w A).1.toInt ≤ w.toInt := snd_inv hn 10999 0 A hA (by decide) (by simpa using hw)
theorem imin_ge {x y : Int32} (h : y ≤ x) : imin x y = y := by
  unfold imin
  by_cases h2 : y < x
  · rw [if_pos h2]
  · rw [if_neg h2]; exact Int32.le_antisymm (Int32.not_lt.mp h2) h
theorem nar_far {A : Mx} {node : Nat} {a m : Int32} (hn : node < 10) (hr : rch A node) (ha : ∀ c, c < 10 → A 10 c ≤ a) (ham : a ≤ m) : nar A (pF A) 11 a node = nar A (pF A) 11 m node := by
  have hc : chok (pF A) (9 + 1) node := chok_10 hr
  obtain ⟨l1, l2, l3⟩ := nar_row (A := A) 9 11 m node hc (by omega) (by omega)
  have hlr : ∀ (j v : Nat), rch A v → v ≠ 10 → chok (pF A) (j + 1) v → rch A (lst (pF A) j v) := by
    intro j
    induction j with
    | zero => intro v hv _ _; exact hv
    | succ j ih =>
      intro v hv hne hcv
      unfold lst
      by_cases hp : pF A v = 10
      · rw [if_pos hp]; exact hv
      · rw [if_neg hp]
        exact ih _ (rch_p hv hne).1 hp (hcv.elim (fun z => absurd z hne) id)
  have hlt : lst (pF A) 9 node < 10 := by
    have := rch_lt (hlr 9 node hr (by omega) hc)
    omega
  rw [← imin_of_le ham, nar_imin]
  exact imin_ge (Int32.le_trans l3 (ha _ hlt))
theorem row_le {A : Mx} (hA : rnn A) {c : Nat} (hc : c < 10) : (A 10 c).toInt ≤ Sv A := isum_ge (f := fun v => (A 10 v).toInt) hA 10 (Nat.le_refl _) hc
theorem snd_far {node : Nat} (hn : node < 10) : ∀ (k : Nat) (s : Int32) (A : Mx), rnn A → 0 ≤ s.toInt → s.toInt + Sv A ≤ 10998 → snd node 20000 k s A = snd node 1000000 k s A := by
  intro k
  induction k with
  | zero => intro s A _ _ _; rfl
  | succ k ih =>
    intro s A hA hs hS
    have hS0 : 0 ≤ Sv A := isum_nn (f := fun v => (A 10 v).toInt) hA 10 (Nat.le_refl _)
    have e1 : (20000 : Int32).toInt = 20000 := by decide
    have e2 : (1000000 : Int32).toInt = 1000000 := by decide
    have w1 : ¬ (20000 : Int32) ≤ s := fun h => by have := Int32.le_iff_toInt_le.mp h; omega
    have w2 : ¬ (1000000 : Int32) ≤ s := fun h => by have := Int32.le_iff_toInt_le.mp h; omega
    rw [snd_s, snd_s, if_neg w1, if_neg w2]
    by_cases h2 : node ∈ bq A 11
    · rw [if_pos h2, if_pos h2]
      have s1 : ((20000 : Int32) - s).toInt = 20000 - s.toInt := by rw [sub_toInt hs (by omega), e1]
      have s2 : ((1000000 : Int32) - s).toInt = 1000000 - s.toInt := by rw [sub_toInt hs (by omega), e2]
      have e3 : nar A (pF A) 11 (20000 - s) node = nar A (pF A) 11 (1000000 - s) node := by
        refine nar_far hn h2 (fun c hc => Int32.le_iff_toInt_le.mpr ?_) (Int32.le_iff_toInt_le.mpr (by omega))
        have := row_le hA hc
        omega
      have hm : 0 < (1000000 : Int32) - s := Int32.lt_iff_toInt_lt.mpr (by rw [s2]; simp; omega)
      obtain ⟨p1, p2, p3, p4, p5⟩ := step_ok hn h2 hm hA
      rw [e3]
      have q1 : 0 < (nar A (pF A) 11 (1000000 - s) node).toInt := by have := Int32.lt_iff_toInt_lt.mp p1; simpa using this
      have q4 : (s + nar A (pF A) 11 (1000000 - s) node).toInt = s.toInt + (nar A (pF A) 11 (1000000 - s) node).toInt := add_toInt (by omega) (by omega)
      exact ih _ _ p4 (by rw [q4]; omega) (by rw [q4, p5]; omega)
    · rw [if_neg h2, if_neg h2]
theorem sndN_far {node : Nat} {A : Mx} (hn : node < 10) (hA : rnn A) (hS : Sv A ≤ 10998) : sndN node 20000 A = sndN node 1000000 A := snd_far hn 10999 0 A hA (by decide) (by simpa using hS)
/-! ===== the net that is laid for an hour ===== -/
/-- pipes: how many, ends, bores, leaks, which are shut -/
abbrev Net : Type := Nat × (Nat → Nat) × (Nat → Nat) × (Nat → Int32) × (Nat → Int32) × (Nat → Bool)
abbrev nP (N : Net) : Nat := N.1
abbrev nA (N : Net) : Nat → Nat := N.2.1
abbrev nB (N : Net) : Nat → Nat := N.2.2.1
abbrev nBo (N : Net) : Nat → Int32 := N.2.2.2.1
abbrev nLo (N : Net) : Nat → Int32 := N.2.2.2.2.1
abbrev nSh (N : Net) : Nat → Bool := N.2.2.2.2.2
def nok (N : Net) : Prop := nP N ≤ 20 ∧ ∀ p, p < nP N → nA N p < 10 ∧ nB N p < 10 ∧ nA N p ≠ nB N p ∧ 0 ≤ (nLo N p).toInt ∧ (nLo N p).toInt ≤ 99
/-- the class's pipes are N -/
def cN (N : Net) (σ : Sg) : Prop := σ 3 0 = nI (nP N) ∧ ∀ p, p < nP N → σ 4 p = nI (nA N p) ∧ σ 5 p = nI (nB N p) ∧ σ 6 p = nBo N p ∧ σ 7 p = nLo N p ∧ bt (σ 3 1) p = nSh N p
def mN (N : Net) (σ : Sg) : Prop := σ 71 2 = nI (nP N) ∧ ∀ p, p < nP N → σ 73 p = nI (nA N p) ∧ σ 74 p = nI (nB N p) ∧ σ 77 p = nBo N p ∧ σ 78 p = nLo N p ∧ σ 79 p = if nSh N p = true then 1 else 0
theorem cN_of {N : Net} {σ τ : Sg} (h : cN N σ) (h3 : ∀ j, τ 3 j = σ 3 j) (h4 : ∀ j, τ 4 j = σ 4 j) (h5 : ∀ j, τ 5 j = σ 5 j) (h6 : ∀ j, τ 6 j = σ 6 j) (h7 : ∀ j, τ 7 j = σ 7 j) : cN N τ := by
  unfold cN
  simp only [h3, h4, h5, h6, h7]
  exact h
theorem mN_of {N : Net} {σ τ : Sg} (h : mN N σ) (h1 : τ 71 2 = σ 71 2) (h3 : ∀ j, τ 73 j = σ 73 j) (h4 : ∀ j, τ 74 j = σ 74 j) (h5 : ∀ j, τ 77 j = σ 77 j) (h6 : ∀ j, τ 78 j = σ 78 j) (h7 : ∀ j, τ 79 j = σ 79 j) : mN N τ := by
  unfold mN
  simp only [h1, h3, h4, h5, h6, h7]
  exact h
def madd (A : Mx) (u v : Nat) (x : Int32) : Mx := mup A u v (A u v + x)
def lay (N : Net) : Nat → Mx
  | 0 => fun _ _ => 0
  | p + 1 => if nSh N p = true then lay N p else madd (madd (lay N p) (nA N p) (nB N p) (nBo N p)) (nB N p) (nA N p) (nBo N p)
theorem lay_s (N : Net) (p : Nat) : lay N (p + 1) = if nSh N p = true then lay N p else madd (madd (lay N p) (nA N p) (nB N p) (nBo N p)) (nB N p) (nA N p) (nBo N p) := rfl
/-- with pump and spring -/
def layS (N : Net) (pump : Int32) (at' : Nat) (spring : Int32) : Mx := madd (madd (lay N (nP N)) 10 0 pump) 10 at' spring
theorem lay_10 {N : Net} (h : nok N) : ∀ p, p ≤ nP N → ∀ v, lay N p 10 v = 0
  | 0, _, _ => rfl
  | p + 1, hp, v => by
    have h1 := h.2 p (by omega)
    rw [lay_s]
    by_cases hs : nSh N p = true
    · rw [if_pos hs]; exact lay_10 h p (by omega) v
    · rw [if_neg hs]
      unfold madd mup
      have q1 : ¬ (10 = nB N p ∧ v = nA N p) := fun z => by omega
      have q2 : ¬ (10 = nA N p ∧ v = nB N p) := fun z => by omega
      simp only [q1, q2, if_false]
      exact lay_10 h p (by omega) v
theorem layS_row {N : Net} (h : nok N) {pump spring : Int32} {a : Nat} (ha : a < 10) (v : Nat) : layS N pump a spring 10 v = (if v = 0 then pump else 0) + (if v = a then spring else 0) := by
  have h0 := lay_10 h (nP N) (Nat.le_refl _)
  unfold layS madd mup
  by_cases h1 : v = a
  · subst h1
    by_cases h2 : v = 0
    · subst h2; simp [h0]
    · simp [h0, h2]
  · by_cases h2 : v = 0
    · subst h2
      have : ¬ 0 = a := fun z => h1 z
      simp [h0, this]
    · simp [h0, h1, h2]
theorem layS_ok {N : Net} (h : nok N) {pump spring : Int32} {a : Nat} (ha : a < 10) (hp0 : 0 ≤ pump.toInt) (hp : pump.toInt ≤ 9999) (hs0 : 0 ≤ spring.toInt) (hs : spring.toInt ≤ 999) : rnn (layS N pump a spring) ∧ Sv (layS N pump a spring) ≤ 10998 := by
  have hrow : ∀ v, (layS N pump a spring 10 v).toInt = (if v = 0 then pump.toInt else 0) + (if v = a then spring.toInt else 0) := by
    intro v
    rw [layS_row h ha v]
    have a1 : (if v = 0 then pump else (0 : Int32)).toInt = if v = 0 then pump.toInt else 0 := by split <;> rfl
    have a2 : (if v = a then spring else (0 : Int32)).toInt = if v = a then spring.toInt else 0 := by split <;> rfl
    have b1 : 0 ≤ (if v = 0 then pump.toInt else 0) ∧ (if v = 0 then pump.toInt else 0) ≤ 9999 := by split <;> omega
    have b2 : 0 ≤ (if v = a then spring.toInt else 0) ∧ (if v = a then spring.toInt else 0) ≤ 999 := by split <;> omega
    rw [add_toInt (by rw [a1, a2]; omega) (by rw [a1, a2]; omega), a1, a2]
  constructor
  · intro v hv
    rw [hrow v]
    split <;> split <;> omega
  · have e : ∀ k, isum (fun v => (layS N pump a spring 10 v).toInt) k = (if 0 < k then pump.toInt else 0) + (if a < k then spring.toInt else 0) := by
      intro k
      induction k with
      | zero => simp [isum]
      | succ k ih =>
        rw [isum_s, ih, hrow k]
        (repeat' split) <;> omega
    unfold Sv
    rw [e 10]
    simp only [show (0 : Nat) < 10 by omega, ha, if_true]
    omega
