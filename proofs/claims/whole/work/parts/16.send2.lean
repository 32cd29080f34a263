/-! ===== the whole of a sending ===== -/
def snd (node : Nat) (w : Int32) : Nat → Int32 → Mx → Int32 × Mx
  | 0, s, A => (s, A)
  | k + 1, s, A => if w ≤ s then (s, A) else if node ∈ bq A 11 then snd node w k (s + nar A (pF A) 11 (w - s) node) (aug (pF A) (nar A (pF A) 11 (w - s) node) 11 A node) else (s, A)
theorem snd_s (node : Nat) (w : Int32) (k : Nat) (s : Int32) (A : Mx) : snd node w (k + 1) s A = if w ≤ s then (s, A) else if node ∈ bq A 11 then snd node w k (s + nar A (pF A) 11 (w - s) node) (aug (pF A) (nar A (pF A) 11 (w - s) node) 11 A node) else (s, A) := rfl
def isum (f : Nat → Int) : Nat → Int
  | 0 => 0
  | k + 1 => isum f k + f k
theorem isum_s (f : Nat → Int) (k : Nat) : isum f (k + 1) = isum f k + f k := rfl
theorem isum_upd {f g : Nat → Int} {c : Nat} {x : Int} (h : ∀ i, g i = if i = c then f i - x else f i) : ∀ k, isum g k = if c < k then isum f k - x else isum f k
  | 0 => by simp [isum]
  | k + 1 => by
    rw [isum_s, isum_s, isum_upd h k, h k]
    by_cases h1 : c < k
    · have h2 : ¬ k = c := by omega
      have h3 : c < k + 1 := by omega
      simp [h1, h2, h3]; omega
    · by_cases h2 : k = c
      · subst h2; simp; omega
      · have h3 : ¬ c < k + 1 := by omega
        simp [h1, h2, h3]
theorem isum_nn {f : Nat → Int} (h : ∀ i, i < 10 → 0 ≤ f i) : ∀ k, k ≤ 10 → 0 ≤ isum f k
  | 0, _ => by simp [isum]
  | k + 1, hk => by
    rw [isum_s]
    have h1 := isum_nn h k (by omega)
    have h2 := h k (by omega)
    omega
theorem isum_ge {f : Nat → Int} (h : ∀ i, i < 10 → 0 ≤ f i) {c : Nat} : ∀ k, k ≤ 10 → c < k → f c ≤ isum f k
  | 0, _, hc => by omega
  | k + 1, hk, hc => by
    rw [isum_s]
    by_cases h1 : c = k
    · subst h1
      have h2 := isum_nn h c (by omega)
      omega
    · have h2 := isum_ge h k (by omega) (show c < k by omega)
      have h3 := h k (by omega)
      omega
/-- what the source can give in all -/
def Sv (A : Mx) : Int := isum (fun v => (A 10 v).toInt) 10
def rnn (A : Mx) : Prop := ∀ v, v < 10 → 0 ≤ (A 10 v).toInt
theorem sub_toInt {a b : Int32} (h0 : 0 ≤ b.toInt) (h : b.toInt ≤ a.toInt) : (a - b).toInt = a.toInt - b.toInt := by
  have h1 := Int32.toInt_lt a
  have h2 := Int32.le_toInt a
  have h3 := Int32.toInt_lt b
  rw [Int32.toInt_sub]
  exact Int.bmod_eq_of_le (by omega) (by omega)
theorem add_toInt {a b : Int32} (h0 : -2147483648 ≤ a.toInt + b.toInt) (h : a.toInt + b.toInt < 2147483648) : (a + b).toInt = a.toInt + b.toInt := by
  rw [Int32.toInt_add]
  exact Int.bmod_eq_of_le (by omega) (by omega)
/-- one sending along a way: how much, and what is left at the source -/
theorem step_ok {A : Mx} {node : Nat} {m : Int32} (hn : node < 10) (hr : rch A node) (hm : 0 < m) (hA : rnn A) : 0 < nar A (pF A) 11 m node ∧ nar A (pF A) 11 m node ≤ m ∧ (nar A (pF A) 11 m node).toInt ≤ Sv A ∧ rnn (aug (pF A) (nar A (pF A) 11 m node) 11 A node) ∧ Sv (aug (pF A) (nar A (pF A) 11 m node) 11 A node) = Sv A - (nar A (pF A) 11 m node).toInt := by
  have hpos : 0 < nar A (pF A) 11 m node := nar_pos (S := rch A) (fun w hw hne => ⟨(rch_p hw hne).2, (rch_p hw hne).1⟩) 11 m node hr hm
  have hc : chok (pF A) (9 + 1) node := chok_10 hr
  have hne : node ≠ 10 := by omega
  obtain ⟨l1, l2, l3⟩ := nar_row (A := A) 9 11 m node hc hne (by omega)
  have hrow := aug_row (x := nar A (pF A) 11 m node) 9 11 A node hc hne (by omega)
  have hlr : ∀ (j v : Nat), rch A v → v ≠ 10 → chok (pF A) (j + 1) v → rch A (lst (pF A) j v) := by
    intro j
    induction j with
    | zero => intro v hv _ _; exact hv
    | succ j ih =>
      intro v hv hne hcv
      unfold lst
      by_cases hp : pF A v = 10
      · rw [if_pos hp]; exact hv
      · rw [if_neg hp]
        exact ih _ (rch_p hv hne).1 hp (hcv.elim (fun z => absurd z hne) id)
  have hlt : lst (pF A) 9 node < 10 := by
    have := rch_lt (hlr 9 node hr hne hc)
    omega
  generalize hx : nar A (pF A) 11 m node = x at *
  generalize hl : lst (pF A) 9 node = c at *
  have hx0 : 0 < x.toInt := by have := Int32.lt_iff_toInt_lt.mp hpos; simpa using this
  have hxA : x.toInt ≤ (A 10 c).toInt := Int32.le_iff_toInt_le.mp l3
  have hti : ∀ i, (aug (pF A) x 11 A node 10 i).toInt = if i = c then (A 10 i).toInt - x.toInt else (A 10 i).toInt := by
    intro i
    rw [hrow i]
    by_cases h : i = c
    · subst h
      rw [if_pos rfl, if_pos rfl, sub_toInt (by omega) hxA]
    · rw [if_neg h, if_neg h]
  refine ⟨hpos, by rw [← hx]; exact nar_le _ _ _ _ _, ?_, ?_, ?_⟩
  · have := isum_ge (f := fun v => (A 10 v).toInt) hA 10 (Nat.le_refl _) hlt
    unfold Sv
    omega
  · intro v hv
    rw [hti v]
    by_cases h : v = c
    · subst h; rw [if_pos rfl]; omega
    · rw [if_neg h]; exact hA v hv
  · unfold Sv
    rw [isum_upd hti 10, if_pos hlt]
/-- enough rounds: more of them change nothing -/
theorem snd_more {node : Nat} {w : Int32} (hn : node < 10) : ∀ (k d : Nat) (s : Int32) (A : Mx), rnn A → Sv A < (k : Int) → 0 ≤ s.toInt → snd node w (k + d) s A = snd node w k s A := by
  intro k
  induction k with
  | zero =>
    intro d s A hA hS hs
    have := isum_nn (f := fun v => (A 10 v).toInt) hA 10 (Nat.le_refl _)
    unfold Sv at hS
    omega
  | succ k ih =>
    intro d s A hA hS hs
    rw [show k + 1 + d = (k + d) + 1 by omega, snd_s, snd_s]
    by_cases h1 : w ≤ s
    · rw [if_pos h1, if_pos h1]
    · rw [if_neg h1, if_neg h1]
      by_cases h2 : node ∈ bq A 11
      · rw [if_pos h2, if_pos h2]
        have hws : s.toInt < w.toInt := Int32.lt_iff_toInt_lt.mp (Int32.not_le.mp h1)
        have hsub : (w - s).toInt = w.toInt - s.toInt := sub_toInt hs (by omega)
        have hm : 0 < w - s := Int32.lt_iff_toInt_lt.mpr (by rw [hsub]; simp; omega)
        obtain ⟨p1, p2, p3, p4, p5⟩ := step_ok hn h2 hm hA
        have q1 : 0 < (nar A (pF A) 11 (w - s) node).toInt := by have := Int32.lt_iff_toInt_lt.mp p1; simpa using this
        have q2 := Int32.le_iff_toInt_le.mp p2
        have q3 := Int32.toInt_lt w
        exact ih d _ _ p4 (by rw [p5]; omega) (by rw [add_toInt (by omega) (by omega)]; omega)
      · rw [if_neg h2, if_neg h2]
