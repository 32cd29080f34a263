/-! ===== streets that there are not stay as they are ===== -/
theorem ib_nI {x : Int32} {m : Nat} (hm : m < 2147483648) (h : ib x m = true) : ∃ j, j < m ∧ x = nI j := by
  unfold ib at h
  simp only [Bool.and_eq_true, decide_eq_true_eq] at h
  refine ⟨x.toNatClampNeg, h.2, ?_⟩
  apply Int32.toInt_inj.mp
  rw [ni_int (by omega)]
  have h2 := Int32.le_iff_toInt_le.mp (Int32.not_lt.mp h.1)
  have z0 : (0 : Int32).toInt = 0 := by decide
  show x.toInt = ((x.toInt.toNat : Nat) : Int)
  omega
theorem one_any (n : Nat) (x : Int32) (σ : Sg) : s_X12_one n x σ = some (if x = 0 then 0 else 1, σ) := by
  unfold s_X12_one
  split <;> rfl
theorem rfst {st o : Nat} (hst : zStand st) (h1 : o ≠ 24) (h2 : o ≠ 58) (h3 : o ≠ 61) : o ≠ rf st 1 := by
  rcases hst with rfl | rfl | rfl
  · exact h1
  · exact h2
  · exact h3
theorem settle_keep {n st ns : Nat} (hst : zStand st) (hns : ns ≤ 10) : ∀ (k : Nat) (x : Int32) (σ τ : Sg), σ 11 0 = nI ns → s_X9_settle_2 n k st x σ = some τ → ∀ t, ns ≤ t → τ (rf st 1) t = σ (rf st 1) t := by
  have c11 : (11 : Nat) ≠ rf st 1 := rfst hst (by decide) (by decide) (by decide)
  intro k
  induction k with
  | zero => intro x σ τ _ h; cases h
  | succ k ih =>
    intro x σ τ h0 h t ht
    have h : s_X9_settle_2b n (s_X9_settle_2 n k) st x σ = some τ := h
    unfold s_X9_settle_2b at h
    rw [h0] at h
    by_cases hx : nI ns ≤ x
    · rw [if_pos hx] at h
      cases h
      rfl
    · rw [if_neg hx] at h
      obtain ⟨j, hj, rfl⟩ := ib_nI (by omega) (ck_of h).1
      rw [nle (by omega) (by omega)] at hx
      have hne : ¬ t = j := by omega
      simp (disch := omega) only [ck_n, ix_n, lt_eq] at h
      have go : ∀ (ρ : Sg) (v : Int32), (∀ i, ρ 11 i = σ 11 i) → ρ (rf st 1) t = σ (rf st 1) t → s_X9_settle_88 n (s_X9_settle_2 n k) st (nI j) v ρ = some τ → τ (rf st 1) t = σ (rf st 1) t := by
        intro ρ v r1 r2 h
        unfold s_X9_settle_88 at h
        simp (disch := omega) only [ck_n, ix_n, lt_eq] at h
        rw [ih _ _ _ (by rw [up2_o (by decide), up2_o c11, r1]; exact h0) h t ht]
        simp only [up2_app, hne, if_false, ite_self]
        exact r2
      rcases ite_of h with h | h
      · exact go _ _ (fun i => by rw [up2_o c11, up2_o (by decide)]) (by simp only [up2_app, hne, if_false, ite_self]) h
      · exact go _ _ (fun i => by rw [up2_o (by decide)]) (by simp only [up2_app, hne, if_false, ite_self]) h
theorem remember_loop {n ns : Nat} (hns : ns ≤ 10) : ∀ (e s k : Nat) (σ : Sg), s + e = ns → e < k → σ 11 0 = nI ns → ∃ τ, s_X8_remember_2 n k (nI s) σ = some τ ∧ ∀ t, ((s ≤ t ∧ t < ns) → τ 18 t = σ 18 t + σ 42 t ∧ τ 21 t = σ 21 t + σ 44 t ∧ τ 20 t = σ 20 t + σ 43 t ∧ τ 19 t = σ 19 t + zo (decide (¬ σ 43 t ≤ 0))) ∧ (¬ (s ≤ t ∧ t < ns) → τ 18 t = σ 18 t ∧ τ 21 t = σ 21 t ∧ τ 20 t = σ 20 t ∧ τ 19 t = σ 19 t) := by
  intro e
  induction e with
  | zero =>
    intro s k σ hs hk h0
    obtain ⟨k, rfl⟩ : ∃ k', k = k' + 1 := ⟨k - 1, by omega⟩
    refine ⟨σ, ?_, fun t => ⟨fun z => by omega, fun _ => ⟨rfl, rfl, rfl, rfl⟩⟩⟩
    show s_X8_remember_2b n _ _ _ = _
    unfold s_X8_remember_2b
    rw [h0, if_pos (by rw [nle (by omega) (by omega)]; omega)]
  | succ e ih =>
    intro s k σ hs hk h0
    obtain ⟨k, rfl⟩ : ∃ k', k = k' + 1 := ⟨k - 1, by omega⟩
    show ∃ τ, s_X8_remember_2b n (s_X8_remember_2 n k) _ _ = _ ∧ _
    unfold s_X8_remember_2b
    rw [h0, if_neg (by rw [nle (by omega) (by omega)]; omega)]
    simp (disch := omega) only [ck_n, ix_n, lt_eq]
    rw [show nI s + 1 = nI (s + 1) from nI_1 s]
    have go : ∀ ρ : Sg, ρ 11 0 = nI ns → (∀ t, ρ 42 t = σ 42 t ∧ ρ 43 t = σ 43 t ∧ ρ 44 t = σ 44 t) → (∀ t, t ≠ s → ρ 18 t = σ 18 t ∧ ρ 21 t = σ 21 t ∧ ρ 20 t = σ 20 t ∧ ρ 19 t = σ 19 t) → (ρ 18 s = σ 18 s + σ 42 s ∧ ρ 21 s = σ 21 s + σ 44 s ∧ ρ 20 s = σ 20 s + σ 43 s ∧ ρ 19 s = σ 19 s + zo (decide (¬ σ 43 s ≤ 0))) → ∃ τ, s_X8_remember_2 n k (nI (s + 1)) ρ = some τ ∧ ∀ t, ((s ≤ t ∧ t < ns) → τ 18 t = σ 18 t + σ 42 t ∧ τ 21 t = σ 21 t + σ 44 t ∧ τ 20 t = σ 20 t + σ 43 t ∧ τ 19 t = σ 19 t + zo (decide (¬ σ 43 t ≤ 0))) ∧ (¬ (s ≤ t ∧ t < ns) → τ 18 t = σ 18 t ∧ τ 21 t = σ 21 t ∧ τ 20 t = σ 20 t ∧ τ 19 t = σ 19 t) := by
      intro ρ q0 q1 q2 q3
      obtain ⟨τ, t1, t2⟩ := ih (s + 1) k ρ (by omega) (by omega) q0
      refine ⟨τ, t1, fun t => ?_⟩
      by_cases e1 : t = s
      · subst e1
        have a := (t2 t).2 (by omega)
        refine ⟨fun _ => ?_, fun z => absurd ⟨Nat.le_refl _, by omega⟩ z⟩
        rw [a.1, a.2.1, a.2.2.1, a.2.2.2]
        exact q3
      · by_cases e2 : s ≤ t ∧ t < ns
        · have a := (t2 t).1 (by omega)
          refine ⟨fun _ => ?_, fun z => absurd e2 z⟩
          rw [a.1, a.2.1, a.2.2.1, a.2.2.2, (q1 t).1, (q1 t).2.1, (q1 t).2.2, (q2 t e1).1, (q2 t e1).2.1, (q2 t e1).2.2.1, (q2 t e1).2.2.2]
          exact ⟨rfl, rfl, rfl, rfl⟩
        · have a := (t2 t).2 (by omega)
          refine ⟨fun z => absurd z e2, fun _ => ?_⟩
          rw [a.1, a.2.1, a.2.2.1, a.2.2.2]
          exact q2 t e1
    split
    · rename_i hx
      have hx' : σ 43 s ≤ 0 := by simpa [up2_app] using hx
      exact go _ (by simp [up2_app]; exact h0) (fun t => by simp [up2_app]) (fun t e1 => by simp [up2_app, e1]) (by simp [up2_app, hx', zo])
    · rename_i hx
      have hx' : ¬ σ 43 s ≤ 0 := by simpa [up2_app] using hx
      refine go _ (by simp [up2_app]; exact h0) (fun t => by simp [up2_app]) (fun t e1 => by simp [up2_app, e1]) ?_
      rw [decide_eq_true hx']
      simp [up2_app, zo]
theorem doHour_keep {n ns : Nat} (hns : ns ≤ 10) : ∀ (k : Nat) (x1 x2 x3 x4 : Int32) (σ : Sg) (r : Int32) (τ : Sg), σ 71 11 = nI ns → s_X12_doHour_23 n k x1 x2 x3 x4 σ = some (r, τ) → ∀ o t, 88 ≤ o → o ≤ 92 → ns ≤ t → τ o t = σ o t := by
  intro k
  induction k with
  | zero => intro x1 x2 x3 x4 σ r τ _ h; cases h
  | succ k ih =>
    intro x1 x2 x3 x4 σ r τ h0 h o t ho1 ho2 ht
    have h : s_X12_doHour_23b n (s_X12_doHour_23 n k) x1 x2 x3 x4 σ = some (r, τ) := h
    unfold s_X12_doHour_23b at h
    rw [h0] at h
    by_cases hx : nI ns ≤ x4
    · rw [if_pos hx] at h
      have h := (bck_of h).2
      cases h
      rfl
    · rw [if_neg hx] at h
      obtain ⟨j, hj, rfl⟩ := ib_nI (by omega) (ck_of h).1
      rw [nle (by omega) (by omega)] at hx
      have hne : ¬ t = j := by omega
      rw [ck_n (by omega) (by omega)] at h
      obtain ⟨r4, σ3, e3, h⟩ := bd_of h
      have f3 : σ3 = σ := funext fun o => funext fun j => fr_s_X12_isWaterOn rfl _ _ _ e3
      subst f3
      have go : ∀ (y0 y1 : Int32), s_X12_doHour_60 n (s_X12_doHour_23 n k) x1 x2 x3 (nI j) y0 y1 σ3 = some (r, τ) → τ o t = σ3 o t := by
        intro y0 y1 h
        unfold s_X12_doHour_60 at h
        simp (disch := omega) only [ck_n, ix_n, lt_eq, least_ok, bd_so] at h
        unfold s_X12_doHour_155 at h
        simp (disch := omega) only [ck_n, ix_n, lt_eq] at h
        unfold s_X12_doHour_229 at h
        simp (disch := omega) only [ck_n, ix_n, lt_eq, one_any, bd_so] at h
        have fin : ∀ (ρ : Sg) (y : Int32), ρ 71 11 = nI ns → ρ o t = σ3 o t → s_X12_doHour_23 n k x1 x2 y (nI j + 1) ρ = some (r, τ) → τ o t = σ3 o t := fun ρ y q1 q2 q3 => (ih _ _ _ _ _ _ _ q1 q3 o t ho1 ho2 ht).trans q2
        rcases ite_of h with h | h
        · rcases ite_of h with h | h
          · exact fin _ _ (by simp [up2_app]; exact h0) (by simp only [up2_app, hne, if_false, ite_self]) h
          · exact fin _ _ (by simp [up2_app]; exact h0) (by simp only [up2_app, hne, if_false, ite_self]) h
        · exact fin _ _ (by simp [up2_app]; exact h0) (by simp only [up2_app, hne, if_false, ite_self]) h
      rcases ite_of h with h | h
      · exact go _ _ h
      · rw [ck_n (by omega) (by omega)] at h
        exact go _ _ h
/-! ===== hours one behind the other ===== -/
/-- the same in all hours: net, streets, kinds, what the pump gives by hours, where the spring stands, what it gives -/
abbrev Tn : Type := Net × Str × (Nat → Bool) × (Nat → Int32) × Nat × Int32
abbrev tS (T : Tn) : Str := T.2.1
abbrev tK (T : Tn) : Nat → Bool := T.2.2.1
abbrev tP (T : Tn) : Nat → Int32 := T.2.2.2.1
abbrev tA (T : Tn) : Nat := T.2.2.2.2.1
abbrev tG (T : Tn) : Int32 := T.2.2.2.2.2
def tok (T : Tn) : Prop := nok T.1 ∧ sok (tS T) ∧ (∀ h, h < 24 → 0 ≤ (tP T h).toInt ∧ (tP T h).toInt ≤ 9999) ∧ tA T < 10 ∧ (0 ≤ (tG T).toInt ∧ (tG T).toInt ≤ 999)
def cok (S : Str) (c : Nat → Int32) : Prop := (∀ s, s < sN S → 0 ≤ (c s).toInt ∧ (c s).toInt ≤ (sZ S s).toInt) ∧ ∀ s, sN S ≤ s → c s = 0
def tHr (T : Tn) (L : Lw) (h : Nat) (c : Nat → Int32) : Hr := (T.1, tS T, (tK T, c), L, tP T h, tA T, tG T, h)
/-- cisterns behind an hour; is it dry -/
def tC (T : Tn) (L : Lw) (h : Nat) (c : Nat → Int32) : Nat → Int32 := fun s => if s < sN (tS T) then hC (tHr T L h c) s else 0
def tD (T : Tn) (L : Lw) (b : Bool) (h : Nat) (c : Nat → Int32) : Bool := hDry (tHr T L h c) b (sN (tS T))
theorem t_hok {T : Tn} {L : Lw} {h : Nat} {c : Nat → Int32} (ht : tok T) (hk : L.2.1 ≤ 4) (hc : cok (tS T) c) (hh : h < 24) : hok (tHr T L h c) := ⟨ht.1, ht.2.1, hc.1, hk, ht.2.2.1 h hh, ht.2.2.2.1, ht.2.2.2.2, hh⟩
theorem t_cok {T : Tn} {L : Lw} {h : Nat} {c : Nat → Int32} (ht : tok T) (hk : L.2.1 ≤ 4) (hc : cok (tS T) c) (hh : h < 24) : cok (tS T) (tC T L h c) := by
  refine ⟨fun s hs => ?_, fun s hs => if_neg (by omega)⟩
  have e : tC T L h c s = hC (tHr T L h c) s := if_pos hs
  rw [e]
  exact h_out (t_hok ht hk hc hh) hs
theorem cok_0 {S : Str} (h : sok S) : cok S (fun _ => 0) := ⟨fun s hs => ⟨by show 0 ≤ (0 : Int32).toInt; decide, (h.2 s hs).2.2.2.2.2.1⟩, fun _ _ => rfl⟩
def cDy (T : Tn) (L : Lw) (st lc : Nat) (c : Nat → Int32) (σ : Sg) : Prop := cDat T.1 (tS T) (tK T, c) L st lc σ ∧ (∀ h, h < 24 → σ 40 h = tP T h) ∧ ∀ s, sN (tS T) ≤ s → s < 10 → σ (rf st 1) s = 0
theorem chour_ok {n st lc h : Nat} {T : Tn} {L : Lw} {c : Nat → Int32} {σ : Sg} (hn : 11000 ≤ n) (ht : tok T) (hk : L.2.1 ≤ 4) (hc : cok (tS T) c) (hh : h < 24) (hst : zStand st) (hlc : zLaw lc) (hd : cDy T L st lc c σ) : ∃ τ1 τ2 τ3 τ4, s_X9_ask n st lc (nI h) σ = some τ1 ∧ s_X9_begin n (nI h) (nI (tA T)) (tG T) τ1 = some τ2 ∧ s_X9_serve n τ2 = some τ3 ∧ s_X9_settle n st τ3 = some τ4 ∧ cDy T L st lc (tC T L h c) τ4 ∧ (∀ s, s < sN (tS T) → τ4 42 s = hGot (tHr T L h c) s ∧ τ4 43 s = hX (tHr T L h c) s ∧ τ4 44 s = hWs (tHr T L h c) s) ∧ τ4 39 10 = (hLk (tHr T L h c)).1 ∧ (∀ o j, o ∉ scrC → o ≠ rf st 1 → τ4 o j = σ o j) := by
  have hX := t_hok ht hk hc hh
  have h10 := ht.2.1.1
  obtain ⟨τ1, τ2, τ3, a1, a2, a3, a4, a5, _, _⟩ := cflow_ok (n := n) (st := st) (lc := lc) (X := tHr T L h c) hn hX hst hlc ⟨hd.1, hd.2.1 h hh⟩
  have hd3 := cDat_of hst hlc hd.1 a5
  obtain ⟨τ4, b1, b2⟩ := settle_loop (n := n) (st := st) hX hst (sN (tS T)) 0 n τ3 (by show 0 + sN (tS T) = sN (tS T); omega) (by omega) hd3.2.1 (fun t ht => ⟨(hd3.2.2.1 t ht).1, (a4.2.2.1 t ht).2⟩) (fun t _ h2 => (hd3.2.2.1 t h2).2) (fun t z => absurd z (Nat.not_lt_zero _))
  have b1' : s_X9_settle n st τ3 = some τ4 := b1
  have f4 : ∀ o j, o ≠ 43 → o ≠ 44 → o ≠ rf st 1 → τ4 o j = τ3 o j := fun o j p1 p2 p3 => fr_s_X9_settle (by simp [fok, Ne.symm p1, Ne.symm p2]) _ _ p3 b1'
  have fr : ∀ o j, o ∉ scrC → o ≠ rf st 1 → τ4 o j = σ o j := fun o j p1 p2 => by
    rw [f4 o j (fun z => p1 (by rw [z]; decide)) (fun z => p1 (by rw [z]; decide)) p2]
    exact a5 o j p1
  have z0 := zSt_scr hst
  have r01 : rf st 0 ≠ rf st 1 := by rcases hst with rfl | rfl | rfl <;> decide
  have hl1 : lc ≠ rf st 1 := by
    unfold zLaw at hlc
    exact rfst hst (by omega) (by omega) (by omega)
  have kp := settle_keep hst h10 n 0 τ3 τ4 hd3.2.1.1 b1'
  refine ⟨τ1, τ2, τ3, τ4, a1, a2, a3, b1', ⟨⟨?_, ?_, ?_, ?_⟩, ?_, ?_⟩, ?_, ?_, fr⟩
  · exact cN_of hd.1.1 (fun j => fr 3 j (by decide) (rfst hst (by decide) (by decide) (by decide))) (fun j => fr 4 j (by decide) (rfst hst (by decide) (by decide) (by decide))) (fun j => fr 5 j (by decide) (rfst hst (by decide) (by decide) (by decide))) (fun j => fr 6 j (by decide) (rfst hst (by decide) (by decide) (by decide))) (fun j => fr 7 j (by decide) (rfst hst (by decide) (by decide) (by decide)))
  · have hs := hd.1.2.1
    refine ⟨?_, fun s hs2 => ?_⟩
    · rw [fr 11 0 (by decide) (rfst hst (by decide) (by decide) (by decide))]; exact hs.1
    · rw [fr 12 s (by decide) (rfst hst (by decide) (by decide) (by decide)), fr 14 s (by decide) (rfst hst (by decide) (by decide) (by decide)), fr 15 s (by decide) (rfst hst (by decide) (by decide) (by decide)), fr 16 s (by decide) (rfst hst (by decide) (by decide) (by decide))]
      exact hs.2 s hs2
  · intro s hs2
    refine ⟨?_, ?_⟩
    · rw [fr _ s z0.1 r01]; exact (hd.1.2.2.1 s hs2).1
    · rw [(b2 s hs2).1]
      exact (if_pos hs2).symm
  · have hw := hd.1.2.2.2
    unfold cW
    rw [fr lc 7 (zLw_scr hlc) hl1, fr lc 6 (zLw_scr hlc) hl1, fr lc 2 (zLw_scr hlc) hl1, fr lc 3 (zLw_scr hlc) hl1]
    exact hw
  · intro h' hh'
    rw [fr 40 h' (by decide) (rfst hst (by decide) (by decide) (by decide))]
    exact hd.2.1 h' hh'
  · intro s hs hs2
    rw [kp s hs, a5 _ s z0.2]
    exact hd.2.2 s hs hs2
  · intro s hs
    have q := b2 s hs
    rw [f4 42 s (by decide) (by decide) (rfst hst (by decide) (by decide) (by decide))]
    exact ⟨(a4.2.2.1 s hs).2, q.2.1, q.2.2⟩
  · rw [f4 39 10 (by decide) (by decide) (rfst hst (by decide) (by decide) (by decide))]
    exact a4.2.2.2.1
def mDy (T : Tn) (L : Lw) (c : Nat → Int32) (σ : Sg) : Prop := mDat T.1 (tS T) (tK T, c) L σ ∧ mSp (tA T) (tG T) σ ∧ (∀ h, h < 24 → σ 72 h = tP T h) ∧ ∀ s, sN (tS T) ≤ s → s < 10 → σ 88 s = 0
theorem mhour_ok {n h : Nat} {T : Tn} {L : Lw} {b : Bool} {c : Nat → Int32} {σ : Sg} (hn : 11000 ≤ n) (ht : tok T) (hk : L.2.1 ≤ 4) (hc : cok (tS T) c) (hh : h < 24) (hd : mDy T L c σ) : ∃ τ, s_X12_doHour n (nI h) (zo b) σ = some (zo (tD T L b h c), τ) ∧ mDy T L (tC T L h c) τ ∧ (∀ t, t < sN (tS T) → τ 89 t = σ 89 t + hGot (tHr T L h c) t ∧ τ 90 t = σ 90 t + zo (decide (¬ hX (tHr T L h c) t ≤ 0)) ∧ τ 91 t = σ 91 t + hX (tHr T L h c) t ∧ τ 92 t = σ 92 t + hWs (tHr T L h c) t) ∧ (∀ o t, 88 ≤ o → o ≤ 92 → sN (tS T) ≤ t → τ o t = σ o t) ∧ τ 71 25 = σ 71 25 + (hLk (tHr T L h c)).1 := by
  have hX := t_hok ht hk hc hh
  have h10 := ht.2.1.1
  obtain ⟨τ, a1, a2, a3⟩ := doHour_ok (n := n) (X := tHr T L h c) (b := b) hn hX ⟨hd.1, hd.2.1, hd.2.2.1 h hh⟩
  have a1' : s_X12_doHour n (nI h) (zo b) σ = some (zo (tD T L b h c), τ) := a1
  have fr : ∀ o j, fok W_X12_doHour o j = true → τ o j = σ o j := fun o j p => fr_s_X12_doHour p _ _ _ a1'
  have kp : ∀ o t, 88 ≤ o → o ≤ 92 → sN (tS T) ≤ t → τ o t = σ o t := by
    intro o t o1 o2 ht2
    have q := a1'
    unfold s_X12_doHour at q
    obtain ⟨ρ, r1, r2⟩ := bdv_of q
    rw [lt_eq] at r2
    have f1 : ∀ o j, fok W_X12_findFlow o j = true → ρ o j = σ o j := fun o j p => fr_s_X12_findFlow p _ _ r1
    rw [doHour_keep h10 n _ _ _ _ _ _ _ (by rw [up2_app, if_pos rfl, if_neg (by decide), f1 71 11 rfl]; exact hd.1.2.1.1) r2 o t o1 o2 ht2, up2_o (by omega)]
    exact f1 o t (by
      rcases (show o = 88 ∨ o = 89 ∨ o = 90 ∨ o = 91 ∨ o = 92 by omega) with rfl | rfl | rfl | rfl | rfl <;> rfl)
  refine ⟨τ, a1', ⟨⟨?_, ?_, ?_, ?_⟩, ?_, ?_, ?_⟩, fun t ht => (a2 t ht).2, kp, a3⟩
  · exact mN_of hd.1.1 (fr 71 2 rfl) (fun j => fr 73 j rfl) (fun j => fr 74 j rfl) (fun j => fr 77 j rfl) (fun j => fr 78 j rfl) (fun j => fr 79 j rfl)
  · have hs := hd.1.2.1
    refine ⟨by rw [fr 71 11 rfl]; exact hs.1, fun s hs2 => ?_⟩
    rw [fr 81 s rfl, fr 82 s rfl, fr 83 s rfl, fr 84 s rfl, fr 85 s rfl]
    exact hs.2 s hs2
  · intro s hs
    rw [fr 86 s rfl, (a2 s hs).1]
    exact ⟨(hd.1.2.2.1 s hs).1, (if_pos hs).symm⟩
  · unfold mW
    rw [fr 71 41 rfl, fr 71 42 rfl, fr 71 43 rfl, fr 71 44 rfl]
    exact hd.1.2.2.2
  · unfold mSp
    rw [fr 71 50 rfl, fr 71 51 rfl]
    exact hd.2.1
  · intro h' hh'
    rw [fr 72 h' rfl]
    exact hd.2.2.1 h' hh'
  · intro s hs hs2
    rw [kp 88 s (by omega) (by omega) hs]
    exact hd.2.2.2 s hs hs2
/-! ===== a day ===== -/
def dyS (T : Tn) (L : Lw) (b : Bool) (c : Nat → Int32) : Nat → Nat × (Nat → Int32)
  | 0 => (0, c)
  | h + 1 => ((dyS T L b c h).1 + (if tD T L b h (dyS T L b c h).2 = true then 1 else 0), tC T L h (dyS T L b c h).2)
theorem dyS_s (T : Tn) (L : Lw) (b : Bool) (c : Nat → Int32) (h : Nat) : dyS T L b c (h + 1) = ((dyS T L b c h).1 + (if tD T L b h (dyS T L b c h).2 = true then 1 else 0), tC T L h (dyS T L b c h).2) := rfl
theorem dyS_le (T : Tn) (L : Lw) (b : Bool) (c : Nat → Int32) : ∀ h, (dyS T L b c h).1 ≤ h
  | 0 => Nat.le_refl _
  | h + 1 => by
    have := dyS_le T L b c h
    rw [dyS_s]
    dsimp only
    split <;> omega
theorem dyS_ok {T : Tn} {L : Lw} {b : Bool} {c : Nat → Int32} (ht : tok T) (hk : L.2.1 ≤ 4) (hc : cok (tS T) c) : ∀ h, h ≤ 24 → cok (tS T) (dyS T L b c h).2
  | 0, _ => hc
  | h + 1, hh => t_cok ht hk (dyS_ok ht hk hc h (by omega)) (by omega)
theorem zs (b : Bool) : zo b = nI (if b = true then 1 else 0) := by cases b <;> rfl
/-- the class: a day's hours -/
theorem cday_loop {n H : Nat} {T : Tn} {L : Lw} {b : Bool} {c : Nat → Int32} (hn : 11000 ≤ n) (ht : tok T) (hk : L.2.1 ≤ 4) (hc : cok (tS T) c) (hH : H ≤ 24) : ∀ (e h k : Nat) (σ : Sg), h + e = H → e < k → cDy T L 56 62 (dyS T L b c h).2 σ → ∃ τ, s_X10_dryOfDay_6 n k (nI H) (zo b) (nI (tA T)) (tG T) (nI (dyS T L b c h).1) (nI h) σ = some (nI (dyS T L b c H).1, τ) ∧ cDy T L 56 62 (dyS T L b c H).2 τ := by
  have hst : zStand 56 := .inr (.inl rfl)
  have hlc : zLaw 62 := by unfold zLaw; omega
  intro e
  induction e with
  | zero =>
    intro h k σ hh hk2 hd
    obtain ⟨k, rfl⟩ : ∃ k', k = k' + 1 := ⟨k - 1, by omega⟩
    have hh : h = H := by omega
    subst hh
    refine ⟨σ, ?_, hd⟩
    show s_X10_dryOfDay_6b n _ _ _ _ _ _ _ _ = _
    unfold s_X10_dryOfDay_6b
    rw [if_pos (Int32.le_refl _)]
  | succ e ih =>
    intro h k σ hh hk2 hd
    obtain ⟨k, rfl⟩ : ∃ k', k = k' + 1 := ⟨k - 1, by omega⟩
    have hcc := dyS_ok (b := b) ht hk hc h (by omega)
    obtain ⟨τ1, τ2, τ3, τ4, a1, a2, a3, a4, a5, a6, _, _⟩ := chour_ok (n := n) (st := 56) (lc := 62) (h := h) hn ht hk hcc (by omega) hst hlc hd
    have hX := t_hok (h := h) ht hk hcc (by omega)
    have h10 := ht.2.1.1
    have dr : s_X9_someDry n 56 (zo b) τ4 = some (zo (tD T L b h (dyS T L b c h).2), τ4) := someDry_ok (n := n) (st := 56) (b := b) hX a5.1.2.1.1 (fun t ht => ⟨(a5.1.2.2.1 t ht).1, (a6 t ht).2.1⟩) (sN (tS T)) 0 n (by show 0 + sN (tS T) = sN (tS T); omega) (by omega) rfl
    have hle := dyS_le T L b c h
    show ∃ τ, s_X10_dryOfDay_6b n (s_X10_dryOfDay_6 n k) _ _ _ _ _ _ _ = _ ∧ _
    unfold s_X10_dryOfDay_6b
    rw [if_neg (by rw [nle (by omega) (by omega)]; omega), a1, bdv_so, a2, bdv_so, a3, bdv_so, a4, bdv_so, dr, bd_so]
    have i := ih (h + 1) k τ4 (by omega) (by omega) a5
    rw [dyS_s] at i
    dsimp only at i
    rw [show nI h + 1 = nI (h + 1) from nI_1 h]
    cases hb : tD T L b h (dyS T L b c h).2
    · rw [if_pos (show zo false = 0 from rfl)]
      rw [hb, if_neg (by decide), Nat.add_zero] at i
      exact i
    · rw [if_neg (show ¬ zo true = 0 by decide), show nI (dyS T L b c h).1 + 1 = nI ((dyS T L b c h).1 + 1) from nI_1 _]
      rw [hb, if_pos rfl] at i
      exact i
