/-! ===== what a street does with what it got ===== -/
def oW (w g : Int32) : Int32 := imin w g
def oU (q w g : Int32) : Int32 := imin q (g - oW w g)
def oC (q w : Int32) (al : Bool) (ci g : Int32) : Int32 := if al = true then ci else ci + ((g - oW w g) - oU q w g)
def oT (q w : Int32) (al : Bool) (ci g : Int32) : Int32 := imin (q - oU q w g) (oC q w al ci g)
/-- what the cistern has behind it; what is lacking -/
def oE (q w : Int32) (al : Bool) (ci g : Int32) : Int32 := oC q w al ci g - oT q w al ci g
def oX (q w : Int32) (al : Bool) (ci g : Int32) : Int32 := (q - oU q w g) - oT q w al ci g
theorem out_vals {q w ci g z : Int32} {al : Bool} (q0 : 0 ≤ q.toInt) (q1 : q.toInt ≤ 891) (w0 : 0 ≤ w.toInt) (w1 : w.toInt ≤ 99) (c0 : 0 ≤ ci.toInt) (c1 : ci.toInt ≤ z.toInt) (z1 : z.toInt ≤ 999) (g0 : 0 ≤ g.toInt) (g1 : g.toInt ≤ 2000) (gz : al = false → g.toInt ≤ q.toInt + w.toInt + z.toInt - ci.toInt) :
    (oW w g).toInt = (if g.toInt < w.toInt then g.toInt else w.toInt) ∧ (g - oW w g).toInt = g.toInt - (oW w g).toInt ∧ (oU q w g).toInt = (if g.toInt - (oW w g).toInt < q.toInt then g.toInt - (oW w g).toInt else q.toInt) ∧ ((g - oW w g) - oU q w g).toInt = g.toInt - (oW w g).toInt - (oU q w g).toInt ∧ (oC q w al ci g).toInt = (if al = true then ci.toInt else ci.toInt + (g.toInt - (oW w g).toInt - (oU q w g).toInt)) ∧ (q - oU q w g).toInt = q.toInt - (oU q w g).toInt ∧ (oT q w al ci g).toInt = (if (oC q w al ci g).toInt < q.toInt - (oU q w g).toInt then (oC q w al ci g).toInt else q.toInt - (oU q w g).toInt) ∧ (oE q w al ci g).toInt = (oC q w al ci g).toInt - (oT q w al ci g).toInt ∧ (oX q w al ci g).toInt = q.toInt - (oU q w g).toInt - (oT q w al ci g).toInt ∧ 0 ≤ (oE q w al ci g).toInt ∧ (oE q w al ci g).toInt ≤ z.toInt := by
  have e1 : (oW w g).toInt = (if g.toInt < w.toInt then g.toInt else w.toInt) := imin_toInt w g
  have b1 : 0 ≤ (oW w g).toInt ∧ (oW w g).toInt ≤ g.toInt ∧ (oW w g).toInt ≤ w.toInt := by rw [e1]; split <;> omega
  have e2 : (g - oW w g).toInt = g.toInt - (oW w g).toInt := sub_toInt (by omega) (by omega)
  have e3 : (oU q w g).toInt = (if g.toInt - (oW w g).toInt < q.toInt then g.toInt - (oW w g).toInt else q.toInt) := by unfold oU; rw [imin_toInt, e2]
  have b3 : 0 ≤ (oU q w g).toInt ∧ (oU q w g).toInt ≤ q.toInt ∧ (oU q w g).toInt ≤ g.toInt - (oW w g).toInt := by rw [e3]; split <;> omega
  have e4 : ((g - oW w g) - oU q w g).toInt = g.toInt - (oW w g).toInt - (oU q w g).toInt := by rw [sub_toInt (by omega) (by omega), e2]
  have e5 : (oC q w al ci g).toInt = (if al = true then ci.toInt else ci.toInt + (g.toInt - (oW w g).toInt - (oU q w g).toInt)) := by
    unfold oC
    by_cases h : al = true
    · rw [if_pos h, if_pos h]
    · rw [if_neg h, if_neg h, add_toInt (by omega) (by omega), e4]
  have b5 : 0 ≤ (oC q w al ci g).toInt ∧ (oC q w al ci g).toInt ≤ z.toInt := by
    rw [e5]
    by_cases h : al = true
    · rw [if_pos h]; omega
    · rw [if_neg h]
      have gz2 := gz (by cases al; rfl; exact absurd rfl h)
      have c3 := e3
      have c1' := e1
      split at c3 <;> split at c1' <;> omega
  have e6 : (q - oU q w g).toInt = q.toInt - (oU q w g).toInt := sub_toInt (by omega) (by omega)
  have e7 : (oT q w al ci g).toInt = (if (oC q w al ci g).toInt < q.toInt - (oU q w g).toInt then (oC q w al ci g).toInt else q.toInt - (oU q w g).toInt) := by unfold oT; rw [imin_toInt, e6]
  have b7 : 0 ≤ (oT q w al ci g).toInt ∧ (oT q w al ci g).toInt ≤ (oC q w al ci g).toInt ∧ (oT q w al ci g).toInt ≤ q.toInt - (oU q w g).toInt := by rw [e7]; split <;> omega
  have e8 : (oE q w al ci g).toInt = (oC q w al ci g).toInt - (oT q w al ci g).toInt := sub_toInt (by omega) (by omega)
  have e9 : (oX q w al ci g).toInt = q.toInt - (oU q w g).toInt - (oT q w al ci g).toInt := by unfold oX; rw [sub_toInt (by omega) (by omega), e6]
  exact ⟨e1, e2, e3, e4, e5, e6, e7, e8, e9, by omega, by omega⟩
/-- the reference's sums are the same -/
theorem out_same {q w ci g z : Int32} {al on : Bool} (q0 : 0 ≤ q.toInt) (q1 : q.toInt ≤ 891) (w0 : 0 ≤ w.toInt) (w1 : w.toInt ≤ 99) (c0 : 0 ≤ ci.toInt) (c1 : ci.toInt ≤ z.toInt) (z1 : z.toInt ≤ 999) (g0 : 0 ≤ g.toInt) (g1 : g.toInt ≤ 2000) (gz : al = false → g.toInt ≤ q.toInt + w.toInt + z.toInt - ci.toInt) (gon : on = false → g = 0) :
    imin g (if on = true then w else 0) = oW w g ∧ imin (g - oW w g) q = oU q w g ∧ imin ci (q - oU q w g) = oT q w al ci g ∧ ci + ((if al = true then 0 else (g - oW w g) - oU q w g) - oT q w al ci g) = oE q w al ci g := by
  obtain ⟨e1, e2, e3, e4, e5, e6, e7, e8, e9, _, _⟩ := out_vals (al := al) q0 q1 w0 w1 c0 c1 z1 g0 g1 gz
  have z0 : (0 : Int32).toInt = 0 := by decide
  refine ⟨?_, ?_, ?_, ?_⟩
  · apply Int32.toInt_inj.mp
    rw [imin_toInt, e1]
    cases on
    · have : g.toInt = 0 := by rw [gon rfl]; decide
      simp only [Bool.false_eq_true, if_false, z0]
      split <;> split <;> omega
    · simp only [if_true]
      split <;> split <;> omega
  · apply Int32.toInt_inj.mp
    rw [imin_toInt, e2, e3]
    split <;> split <;> omega
  · apply Int32.toInt_inj.mp
    rw [imin_toInt, e6, e7, e5]
    split at e3 <;> cases al <;> simp only [Bool.false_eq_true, if_false, if_true] <;> (split <;> split <;> omega)
  · apply Int32.toInt_inj.mp
    have hT : 0 ≤ (oT q w al ci g).toInt ∧ (oT q w al ci g).toInt ≤ 891 := by rw [e7, e5]; split at e3 <;> (split <;> (try split) <;> omega)
    have hr : 0 ≤ g.toInt - (oW w g).toInt - (oU q w g).toInt ∧ g.toInt - (oW w g).toInt - (oU q w g).toInt ≤ 2000 := by split at e3 <;> split at e1 <;> omega
    have s1 : ((if al = true then 0 else (g - oW w g) - oU q w g) - oT q w al ci g).toInt = (if al = true then 0 else g.toInt - (oW w g).toInt - (oU q w g).toInt) - (oT q w al ci g).toInt := by
      rw [Int32.toInt_sub]
      cases al
      · simp only [Bool.false_eq_true, if_false, e4]
        exact Int.bmod_eq_of_le (by omega) (by omega)
      · simp only [if_true, z0]
        exact Int.bmod_eq_of_le (by omega) (by omega)
    rw [add_toInt (by rw [s1]; split <;> omega) (by rw [s1]; split <;> omega), s1, e8, e5]
    cases al <;> simp only [Bool.false_eq_true, if_false, if_true] <;> omega
/-! ===== an hour, as mathematics ===== -/
/-- what the hour is given: net, streets, kinds and cisterns, rules, what the pump gives, where the spring stands and what it gives, which hour -/
abbrev Hr : Type := Net × Str × Knd × Lw × Int32 × Nat × Int32 × Nat
def hok (X : Hr) : Prop := nok X.1 ∧ sok X.2.1 ∧ kok X.2.1 X.2.2.1 ∧ X.2.2.2.1.2.1 ≤ 4 ∧ (0 ≤ X.2.2.2.2.1.toInt ∧ X.2.2.2.2.1.toInt ≤ 9999) ∧ X.2.2.2.2.2.1 < 10 ∧ (0 ≤ X.2.2.2.2.2.2.1.toInt ∧ X.2.2.2.2.2.2.1.toInt ≤ 999) ∧ X.2.2.2.2.2.2.2 < 24
def hAsk (X : Hr) : Nat → Int32 := askF X.2.2.2.1 X.2.1 X.2.2.1 (nI X.2.2.2.2.2.2.2)
def hLn (X : Hr) : Nat × (Nat → Nat) := lnS X.1 X.2.2.2.1 X.2.1 X.2.2.1 (nI X.2.2.2.2.2.2.2) (sN X.2.1)
/-- what all leaks lose, and the room behind them -/
def hLk (X : Hr) : Int32 × Mx := lks X.1 (layS X.1 X.2.2.2.2.1 X.2.2.2.2.2.1 X.2.2.2.2.2.2.1) (nP X.1)
def hSv (X : Hr) : (Nat → Int32) × Mx := srv (sD X.2.1) (hAsk X) (hLn X).2 (hLk X).2 (hLn X).1
abbrev hGot (X : Hr) : Nat → Int32 := (hSv X).1
theorem ask_b {X : Hr} (h : hok X) {s : Nat} (hs : s < sN X.2.1) : 0 ≤ (hAsk X s).toInt ∧ (hAsk X s).toInt ≤ 1989 ∧ (X.2.2.1.1 s = false → (hAsk X s).toInt ≤ (sQ X.2.1 s).toInt + (sW X.2.1 s).toInt + (sZ X.2.1 s).toInt - (X.2.2.1.2 s).toInt) := by
  obtain ⟨_, h2, h3, _⟩ := h
  obtain ⟨_, a1, a2, a3, a4, a5, a6⟩ := h2.2 s hs
  obtain ⟨b1, b2⟩ := h3 s hs
  have z0 : (0 : Int32).toInt = 0 := by decide
  have e1 : (sQ X.2.1 s + sW X.2.1 s).toInt = (sQ X.2.1 s).toInt + (sW X.2.1 s).toInt := add_toInt (by omega) (by omega)
  have e2 : (sZ X.2.1 s - X.2.2.1.2 s).toInt = (sZ X.2.1 s).toInt - (X.2.2.1.2 s).toInt := sub_toInt b1 b2
  unfold hAsk askF
  by_cases ho : won X.2.2.2.1 X.2.2.1 (nI X.2.2.2.2.2.2.2) s = true
  · rw [if_pos ho]
    by_cases ha : X.2.2.1.1 s = true
    · rw [if_pos ha, Int32.add_zero, e1]
      exact ⟨by omega, by omega, fun z => absurd ha (by rw [z]; decide)⟩
    · rw [if_neg ha, add_toInt (by omega) (by omega), e1, e2]
      exact ⟨by omega, by omega, fun _ => by omega⟩
  · rw [if_neg ho, z0]
    exact ⟨by omega, by omega, fun _ => by omega⟩
theorem h_lok {X : Hr} (h : hok X) : lok (sN X.2.1) (sD X.2.1) (hAsk X) (hLn X).1 (hLn X).2 := by
  have hl := lnS_ok X.1 X.2.2.2.1 X.2.1 X.2.2.1 (nI X.2.2.2.2.2.2.2) (sN X.2.1)
  refine ⟨h.2.1.1, hl.1, hl.2, fun t ht => ⟨(h.2.1.2 t ht).1, (ask_b h ht).1, by have := (ask_b h ht).2.1; omega⟩⟩
theorem h_lk {X : Hr} (h : hok X) : rnn (hLk X).2 ∧ Sv (hLk X).2 ≤ 10998 := by
  obtain ⟨h1, _, _, _, h5, h6, h7, _⟩ := h
  obtain ⟨a, b⟩ := layS_ok h1 h6 h5.1 h5.2 h7.1 h7.2
  exact lks_ok h1 a b (nP X.1) (Nat.le_refl _)
theorem got_b {X : Hr} (h : hok X) {s : Nat} (hs : s < sN X.2.1) : 0 ≤ (hGot X s).toInt ∧ (hGot X s).toInt ≤ (hAsk X s).toInt := by
  have hl := h_lok h
  have key : ∀ i, i ≤ (hLn X).1 → 0 ≤ ((srv (sD X.2.1) (hAsk X) (hLn X).2 (hLk X).2 i).1 s).toInt ∧ ((srv (sD X.2.1) (hAsk X) (hLn X).2 (hLk X).2 i).1 s).toInt ≤ (hAsk X s).toInt := by
    intro i
    induction i with
    | zero => intro _; exact ⟨by simp [srv], by simpa [srv] using (ask_b h hs).1⟩
    | succ i ih =>
      intro hi
      obtain ⟨g1, g2⟩ := lok_h hl i (by omega)
      have h1 := srv_ok (h_lk h).1 (h_lk h).2 (lok_h hl) i (by omega)
      obtain ⟨_, _, r3, r4⟩ := sndN_inv (w := hAsk X ((hLn X).2 i)) g1 h1.1 g2
      rw [srv_s1]
      by_cases e : s = (hLn X).2 i
      · rw [if_pos e, e]; exact ⟨r3, r4⟩
      · rw [if_neg e]; exact ih (by omega)
  exact key _ (Nat.le_refl _)
/-- a street without water on gets nothing -/
theorem got_off {X : Hr} (h : hok X) {s : Nat} (hs : s < sN X.2.1) (ho : won X.2.2.2.1 X.2.2.1 (nI X.2.2.2.2.2.2.2) s = false) : hGot X s = 0 := by
  obtain ⟨a, b⟩ := got_b h hs
  have e : hAsk X s = 0 := by unfold hAsk askF; rw [ho]; rfl
  rw [e] at b
  have z0 : (0 : Int32).toInt = 0 := by decide
  exact Int32.toInt_inj.mp (by omega)
/-- cisterns behind the hour; what is lacking; who is dry -/
def hC (X : Hr) (s : Nat) : Int32 := oE (sQ X.2.1 s) (sW X.2.1 s) (X.2.2.1.1 s) (X.2.2.1.2 s) (hGot X s)
def hX (X : Hr) (s : Nat) : Int32 := oX (sQ X.2.1 s) (sW X.2.1 s) (X.2.2.1.1 s) (X.2.2.1.2 s) (hGot X s)
def hWs (X : Hr) (s : Nat) : Int32 := oW (sW X.2.1 s) (hGot X s)
/-- is some street dry (of those that are ALWAYS, if b) among the first k -/
def hDry (X : Hr) (b : Bool) : Nat → Bool
  | 0 => false
  | k + 1 => hDry X b k || (decide (¬ hX X k ≤ 0) && (!b || X.2.2.1.1 k))
theorem h_out {X : Hr} (h : hok X) {s : Nat} (hs : s < sN X.2.1) : 0 ≤ (hC X s).toInt ∧ (hC X s).toInt ≤ (sZ X.2.1 s).toInt := by
  obtain ⟨_, a1, a2, a3, a4, a5, a6⟩ := h.2.1.2 s hs
  obtain ⟨b1, b2⟩ := h.2.2.1 s hs
  obtain ⟨c1, c2, c3⟩ := ask_b h hs
  obtain ⟨d1, d2⟩ := got_b h hs
  have := out_vals (al := X.2.2.1.1 s) a1 a2 a3 a4 b1 b2 a6 d1 (by omega) (fun z => by have := c3 z; omega)
  exact ⟨this.2.2.2.2.2.2.2.2.2.1, this.2.2.2.2.2.2.2.2.2.2⟩
