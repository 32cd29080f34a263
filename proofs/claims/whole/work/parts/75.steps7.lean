/-! ===== one call, both sides: line, flow, draw ===== -/
abbrev xH (N : Net) (S : Str) (K : Knd) (now : Nat) (pu : Nat → Int32) (Rs : Nat → Rl) (nr h : Nat) : Hr := tHr (N, S, K.1, pu, 0, 0) (lwO (HdN Rs nr now)) h K.2
theorem xH_ok {N : Net} {ma mb : Nat → Nat} {S : Str} {K : Knd} {now : Nat} {pu : Nat → Int32} {Rs : Nat → Rl} {nr c h : Nat} {σ : Sg} (hI : InvD N ma mb S K now pu Rs nr c σ) (hh : h < 24) : tok (N, S, K.1, pu, 0, 0) ∧ hok (xH N S K now pu Rs nr h) := by
  have ht : tok (N, S, K.1, pu, 0, 0) := ⟨hI.1.1, hI.2.1.1, fun h hh => (hI.2.2.2.1 h hh).2, by show 0 < 10; omega, by show 0 ≤ (0 : Int32).toInt; decide, by show (0 : Int32).toInt ≤ 999; decide⟩
  exact ⟨ht, t_hok ht (lwO_k hI.2.2.2.2.2.1.2.2 _).1 hI.2.1.2.1 hh⟩
theorem z22 : zStand 22 := .inl rfl
theorem z38 : zLaw 38 := by unfold zLaw; omega
theorem cDat_i {N : Net} {ma mb : Nat → Nat} {S : Str} {K : Knd} {now : Nat} {pu : Nat → Int32} {Rs : Nat → Rl} {nr c d : Nat} {σ : Sg} (hI : InvD N ma mb S K now pu Rs nr c σ) (hd : cHd (holds Rs nr d) 38 σ) : cDat N S K (lwO (holds Rs nr d)) 22 38 σ := ⟨hI.1.2.1, hI.2.1.2.2.1, hI.2.1.2.2.2.2.1, cW_of hI.2.2.2.2.2.1.2.2 hd⟩
theorem mDat_i {N : Net} {ma mb : Nat → Nat} {S : Str} {K : Knd} {now : Nat} {pu : Nat → Int32} {Rs : Nat → Rl} {nr c d : Nat} {σ : Sg} (hI : InvD N ma mb S K now pu Rs nr c σ) (hd : mHd (holds Rs nr d) σ) : mDat N S K (lwO (holds Rs nr d)) σ := ⟨hI.1.2.2.1, hI.2.1.2.2.2.1, hI.2.1.2.2.2.2.2.1, mW_of hI.2.2.2.2.2.1.2.2 hd⟩
theorem scr_sup {N : Net} {ma mb : Nat → Nat} {S : Str} {K : Knd} {now : Nat} {pu : Nat → Int32} {Rs : Nat → Rl} {nr c : Nat} {σ τ : Sg} (hI : InvD N ma mb S K now pu Rs nr c σ) (f : ∀ o j, o ∉ scrC → τ o j = σ o j) : InvD N ma mb S K now pu Rs nr c τ := InvD_of hI (fr_sup (W := [(10, none), (39, none), (41, none), (42, none), (43, none), (44, none), (45, none), (47, none), (48, none), (49, none), (50, none)]) rfl (fun o j ho => f o j (by
  simp only [List.mem_cons, List.not_mem_nil, or_false, not_or]
  exact ⟨fok_a ho (by decide), fok_a ho (by decide), fok_a ho (by decide), fok_a ho (by decide), fok_a ho (by decide), fok_a ho (by decide), fok_a ho (by decide), fok_a ho (by decide), fok_a ho (by decide), fok_a ho (by decide), fok_a ho (by decide)⟩)))
theorem mscr_sup {N : Net} {ma mb : Nat → Nat} {S : Str} {K : Knd} {now : Nat} {pu : Nat → Int32} {Rs : Nat → Rl} {nr c : Nat} {σ τ : Sg} (hI : InvD N ma mb S K now pu Rs nr c σ) (f : ∀ o j, mscr o j = false → τ o j = σ o j) : InvD N ma mb S K now pu Rs nr c τ := InvD_of hI (fr_sup (W := [(101, none), (102, none), (103, none), (104, none), (105, none), (106, none), (107, none), (71, some 56), (71, some 57)]) rfl (fun o j ho => f o j (by
  have a1 := fok_a ho (show (101, none) ∈ _ by decide)
  have a2 := fok_a ho (show (102, none) ∈ _ by decide)
  have a3 := fok_a ho (show (103, none) ∈ _ by decide)
  have a4 := fok_a ho (show (104, none) ∈ _ by decide)
  have a5 := fok_a ho (show (105, none) ∈ _ by decide)
  have a6 := fok_a ho (show (106, none) ∈ _ by decide)
  have a7 := fok_a ho (show (107, none) ∈ _ by decide)
  have b1 : o = 71 → j ≠ 56 := fun z => by
    rcases fok_mem ho (show (71, some 56) ∈ _ by decide) with q | ⟨k, q1, q2⟩
    · exact absurd z q
    · cases q1; exact q2
  have b2 : o = 71 → j ≠ 57 := fun z => by
    rcases fok_mem ho (show (71, some 57) ∈ _ by decide) with q | ⟨k, q1, q2⟩
    · exact absurd z q
    · cases q1; exact q2
  unfold mscr
  rw [Bool.or_eq_false_iff]
  constructor
  · by_cases h1 : 101 ≤ o
    · rw [decide_eq_false (show ¬ o ≤ 107 by omega), Bool.and_false]
    · rw [decide_eq_false h1, Bool.false_and]
  · by_cases h1 : o = 71
    · have c1 := b1 h1
      have c2 := b2 h1
      simp [c1, c2]
    · simp [h1])))
/-- the class: an hour of today is supplied -/
theorem sup_ok {n h : Nat} {N : Net} {ma mb : Nat → Nat} {S : Str} {K : Knd} {now : Nat} {pu : Nat → Int32} {Rs : Nat → Rl} {nr c : Nat} {σ : Sg} (hn : 300000 ≤ n) (hh : h < 24) (hI : InvD N ma mb S K now pu Rs nr c σ) : ∃ τ, s_X11_supplyHour n (nI h) σ = some τ ∧ cFl (xH N S K now pu Rs nr h) τ ∧ InvD N ma mb S K now pu Rs nr c τ ∧ cHd (HdN Rs nr now) 38 τ ∧ ∀ o j, o ∉ scrC → o ≠ 38 → τ o j = σ o j := by
  obtain ⟨ρ, a1, a2, a3, a4⟩ := inv_hold (n := n) (d := dyN now) (by omega) dyN_lt hI
  obtain ⟨τ1, τ2, τ3, b1, b2, b3, b4, b5, _, _⟩ := cflow_ok (n := n) (st := 22) (lc := 38) (X := xH N S K now pu Rs nr h) (σ := ρ) (by omega) (xH_ok a3 hh).2 z22 z38 ⟨cDat_i a3 a2, (a3.2.2.2.1 h hh).1.1⟩
  have b1' : s_X9_ask n 22 38 (nI h) ρ = some τ1 := b1
  have b2' : s_X9_begin n (nI h) 0 0 τ1 = some τ2 := b2
  refine ⟨τ3, ?_, b4, scr_sup a3 b5, ?_, fun o j h1 h2 => by rw [b5 o j h1, a4 o j h2]⟩
  · unfold s_X11_supplyHour
    rw [today_ok hI.2.2.1.1 hI.2.2.1.2.1, bd_so, a1, bdv_so, b1', bdv_so, b2', bdv_so, b3, bdv_so]
  · unfold cHd
    rw [b5 38 _ (by decide), b5 38 _ (by decide), b5 38 _ (by decide), b5 38 _ (by decide), b5 38 _ (by decide), b5 38 _ (by decide)]
    exact a2
/-- the reference: an hour of today is supplied -/
theorem msup_ok {n h : Nat} {N : Net} {ma mb : Nat → Nat} {S : Str} {K : Knd} {now : Nat} {pu : Nat → Int32} {Rs : Nat → Rl} {nr c : Nat} {σ : Sg} (hn : 300000 ≤ n) (hh : h < 24) (hI : InvD N ma mb S K now pu Rs nr c σ) : ∃ ρ τ, s_X12_findRules n (nI (dyN now)) σ = some ρ ∧ s_X12_findFlow n (nI h) ρ = some τ ∧ mFl (xH N S K now pu Rs nr h) τ ∧ InvD N ma mb S K now pu Rs nr c τ := by
  obtain ⟨ρ, a1, a2, a3, a4⟩ := inv_rules (n := n) (d := dyN now) (by omega) dyN_lt hI
  obtain ⟨τ, b1, b2, b3⟩ := mflow_ok (n := n) (X := xH N S K now pu Rs nr h) (σ := ρ) (by omega) (xH_ok a3 hh).2 ⟨mDat_i a3 a2, .inl ⟨a3.2.2.1.2.2.2.2.2, rfl, rfl⟩, (a3.2.2.2.1 h hh).1.2⟩
  exact ⟨ρ, τ, a1, b1, b2, mscr_sup a3 b3⟩
theorem st_line {n c : Nat} {x1 x2 : Int32} {σ : Sg} (hn : 300000 ≤ n) (h : Inv c σ) : wStp c (s_X11_line n x1 x2) (s_X12_line n x1 x2) σ := by
  obtain ⟨N, ma, mb, S, K, now, pu, Rs, nr, h⟩ := h
  cases e1 : inb 0 x1 23
  · refine ⟨-1002, σ, σ, ?_, ?_, Inv_s h⟩
    · unfold s_X11_line; simp only [out_ok, bd_so, e1]; rfl
    · unfold s_X12_line; simp only [hour12, bd_so, e1]; rfl
  obtain ⟨hr, rfl, _, hhr⟩ := rng (a := 0) (c := 23) (by omega) (by omega) e1
  have hs := h.2.1.1.1
  obtain ⟨ρ, a1, a2, a3, a4⟩ := inv_hold (n := n) (d := dyN now) (by omega) dyN_lt h
  obtain ⟨τ, b1, b2⟩ := cask_ok (n := n) (st := 22) (lc := 38) (hr := hr) (σ := ρ) (by omega) a3.1.1 a3.2.1.1 z22 z38 (lwO_k a3.2.2.2.2.2.1.2.2 _).1 (cDat_i a3 a2)
  have f1 : ∀ o j, o ∉ scrC → τ o j = ρ o j := fun o j ho => fr_s_X9_ask (by
    simp only [List.mem_cons, List.not_mem_nil, or_false, not_or] at ho
    simp [fok, Ne.symm ho.1, Ne.symm ho.2.1, Ne.symm ho.2.2.1, Ne.symm ho.2.2.2.1, Ne.symm ho.2.2.2.2.2.2.1]) _ _ _ _ b1
  have hI2 := scr_sup a3 f1
  obtain ⟨ρ', c1, c2, c3, c4⟩ := inv_rules (n := n) (d := dyN now) (by omega) dyN_lt hI2
  obtain ⟨τ', d1, d2⟩ := mline_ok (n := n) (hr := hr) (σ := ρ') (by omega) c3.1.1 c3.2.1.1 (lwO_k c3.2.2.2.2.2.1.2.2 _).1 (mDat_i c3 c2)
  have f2 : ∀ o j, fok W_X12_findLine o j = true → τ' o j = ρ' o j := fun o j ho => fr_s_X12_findLine ho _ _ d1
  have hI3 : InvD N ma mb S K now pu Rs nr c τ' := InvD_of c3 (fr_sup rfl f2)
  have hw := lnS_ok N (lwO (HdN Rs nr now)) S K (nI hr) (sN S)
  have t1 : ∀ X, (if x2 < 0 then some (-1, τ) else if nI (lnS N (lwO (HdN Rs nr now)) S K (nI hr) (sN S)).1 ≤ x2 then some (-1, τ) else ck x2 10 (some (τ 45 (ix x2), τ))) = X → s_X11_line n (nI hr) x2 σ = X := by
    intro X hX
    unfold s_X11_line s_X11_line_72
    simp only [out_ok, bd_so, e1]
    rw [if_pos z_nt, today_ok h.2.2.1.1 h.2.2.1.2.1, bd_so, a1, bdv_so, b1, bdv_so, b2.1]
    exact hX
  have r1 : ∀ X, (if zo (pin (lnS N (lwO (HdN Rs nr now)) S K (nI hr) (sN S)).1 x2) = 0 then some (-1, τ') else ck x2 10 (some (τ' 107 (ix x2), τ'))) = X → s_X12_line n (nI hr) x2 τ = X := by
    intro X hX
    unfold s_X12_line
    have i2 : s_X12_in n x2.toInt64 0 ((τ' 71 56 - 1).toInt64) τ' = some (zo (inb 0 x2 (τ' 71 56 - 1)), τ') := inb_ok n x2 0 (τ' 71 56 - 1) τ'
    rw [hour12, bd_so, e1, if_neg z_t, dayNow_ok hI2.2.2.1.1 hI2.2.2.1.2.2.1, bd_so, c1, bdv_so, d1, bdv_so, i2, bd_so, d2.1, pin_in (Nat.lt_of_le_of_lt hw.1 (by omega))]
    exact hX
  cases e2 : pin (lnS N (lwO (HdN Rs nr now)) S K (nI hr) (sN S)).1 x2
  · rw [e2] at r1
    refine ⟨-1, τ, τ', t1 _ ?_, r1 _ (if_pos z_f), Inv_s hI3⟩
    unfold pin at e2
    by_cases q1 : x2 < 0
    · rw [if_pos q1]
    · rw [if_neg q1]
      rw [decide_eq_true (Int32.not_lt.mp q1), Bool.true_and] at e2
      rw [if_pos (Int32.not_lt.mp (of_decide_eq_false e2))]
  · rw [e2] at r1
    obtain ⟨i, hi, rfl⟩ := pin_n (by omega) e2
    refine ⟨nI ((lnS N (lwO (HdN Rs nr now)) S K (nI hr) (sN S)).2 i), τ, τ', t1 _ ?_, r1 _ ?_, Inv_s hI3⟩
    · rw [if_neg (n_nlt0 (by omega)), if_neg (by rw [nle (by omega) (by omega)]; omega), ck_n (by omega) (by omega), ix_n (by omega), b2.2.1 i hi]
    · rw [if_neg z_t, ck_n (by omega) (by omega), ix_n (by omega), d2.2.1 i hi]
def isum32 (f : Nat → Int32) : Nat → Int32
  | 0 => 0
  | k + 1 => isum32 f k + f k
theorem isum32_s (f : Nat → Int32) (k : Nat) : isum32 f (k + 1) = isum32 f k + f k := rfl
theorem gba_go {n ns : Nat} {f : Nat → Int32} {σ : Sg} (hs : ns ≤ 10) (h0 : σ 11 0 = nI ns) (hf : ∀ s, s < ns → σ 42 s = f s) : ∀ (e s k : Nat), s + e = ns → e < k → s_X9_gotByAll_4 n k (isum32 f s) (nI s) σ = some (isum32 f ns, σ) := by
  intro e
  induction e with
  | zero =>
    intro s k he hk
    obtain ⟨k, rfl⟩ : ∃ k', k = k' + 1 := ⟨k - 1, by omega⟩
    have he : s = ns := by omega
    subst he
    show s_X9_gotByAll_4b n _ _ _ _ = _
    unfold s_X9_gotByAll_4b
    rw [h0, if_pos (Int32.le_refl _)]
  | succ e ih =>
    intro s k he hk
    obtain ⟨k, rfl⟩ : ∃ k', k = k' + 1 := ⟨k - 1, by omega⟩
    show s_X9_gotByAll_4b n (s_X9_gotByAll_4 n k) _ _ _ = _
    unfold s_X9_gotByAll_4b
    rw [h0, if_neg (by rw [nle (by omega) (by omega)]; omega), ck_n (by omega) (by omega), ix_n (by omega), hf s (by omega), lt_eq, show nI s + 1 = nI (s + 1) from nI_1 s]
    exact ih (s + 1) k (by omega) (by omega)
theorem mflow_go {n ns : Nat} {f : Nat → Int32} {x2 x3 L : Int32} {σ : Sg} (hs : ns ≤ 10) (h0 : σ 71 11 = nI ns) (hf : ∀ s, s < ns → σ 105 s = f s) : ∀ (e s k : Nat), s + e = ns → e < k → s_X12_flow_82 n k x2 x3 (L + isum32 f s) (nI s) σ = if x3 = 0 then ck x2 10 (some (σ 104 (ix x2), σ)) else if x3 = 1 then ck x2 10 (some (σ 105 (ix x2), σ)) else if x3 = 2 then some (σ 71 57, σ) else some (L + isum32 f ns, σ) := by
  intro e
  induction e with
  | zero =>
    intro s k he hk
    obtain ⟨k, rfl⟩ : ∃ k', k = k' + 1 := ⟨k - 1, by omega⟩
    have he : s = ns := by omega
    subst he
    show s_X12_flow_82b n _ _ _ _ _ _ = _
    unfold s_X12_flow_82b
    rw [h0, if_pos (Int32.le_refl _)]
  | succ e ih =>
    intro s k he hk
    obtain ⟨k, rfl⟩ : ∃ k', k = k' + 1 := ⟨k - 1, by omega⟩
    show s_X12_flow_82b n (s_X12_flow_82 n k) _ _ _ _ _ = _
    unfold s_X12_flow_82b
    rw [h0, if_neg (by rw [nle (by omega) (by omega)]; omega), ck_n (by omega) (by omega), ix_n (by omega), hf s (by omega), lt_eq, show nI s + 1 = nI (s + 1) from nI_1 s, Int32.add_assoc]
    exact ih (s + 1) k (by omega) (by omega)
theorem flow_in {n c hr : Nat} {x2 x3 : Int32} {N : Net} {ma mb : Nat → Nat} {S : Str} {K : Knd} {now : Nat} {pu : Nat → Int32} {Rs : Nat → Rl} {nr : Nat} {σ : Sg} (hn : 300000 ≤ n) (hhr : hr < 24) (h : InvD N ma mb S K now pu Rs nr c σ) (hx : (∃ s, s < sN S ∧ x2 = nI s ∧ inb 0 x3 1 = true) ∨ (x2 = -1 ∧ inb 2 x3 3 = true)) : ∃ r τ τ', (bdv (s_X11_supplyHour n (nI hr) σ) fun σ10 => if x3 = 0 then (ck x2 10 (some (σ10 41 (ix x2), σ10))) else (if x3 = 1 then (ck x2 10 (some (σ10 42 (ix x2), σ10))) else (if x3 = 2 then (some (σ10 39 10, σ10)) else (bd (s_X9_gotByAll n σ10) fun r15 σ14 => some ((σ10 39 10) + r15, σ14))))) = some (r, τ) ∧ s_X12_flow_60 n (nI hr) x2 x3 τ = some (r, τ') ∧ τ 71 11 = nI (sN S) ∧ Inv (c + 1) τ' := by
  have hs := h.2.1.1.1
  obtain ⟨τ, a1, a2, a3, _, _⟩ := sup_ok (n := n) hn hhr h
  obtain ⟨ρ, τ', b1, b2, b3, b4⟩ := msup_ok (n := n) (h := hr) hn hhr a3
  have g1 : s_X9_gotByAll n τ = some (isum32 (hGot (xH N S K now pu Rs nr hr)) (sN S), τ) := gba_go (n := n) hs a3.2.1.2.2.1.1 (fun s hs2 => (a2.2.2.1 s hs2).2) (sN S) 0 n (by omega) (by omega)
  have g2 := mflow_go (n := n) (x2 := x2) (x3 := x3) (L := (hLk (xH N S K now pu Rs nr hr)).1) hs b4.2.1.2.2.2.1.1 (fun s hs2 => (b3.2.2.1 s hs2).2) (sN S) 0 n (by omega) (by omega)
  have g2' : s_X12_flow_60 n (nI hr) x2 x3 τ = if x3 = 0 then ck x2 10 (some (τ' 104 (ix x2), τ')) else if x3 = 1 then ck x2 10 (some (τ' 105 (ix x2), τ')) else if x3 = 2 then some ((hLk (xH N S K now pu Rs nr hr)).1, τ') else some ((hLk (xH N S K now pu Rs nr hr)).1 + isum32 (hGot (xH N S K now pu Rs nr hr)) (sN S), τ') := by
    unfold s_X12_flow_60
    rw [dayNow_ok a3.2.2.1.1 a3.2.2.1.2.2.1, bd_so, b1, bdv_so, b2, bdv_so, b3.2.2.2.1, lt_eq]
    rw [show isum32 (hGot (xH N S K now pu Rs nr hr)) 0 = 0 from rfl, Int32.add_zero, b3.2.2.2.1] at g2
    exact g2
  rw [a1, bdv_so, g1, bd_so, a2.2.2.2.1]
  have z01 : ∀ k : Nat, k < 10 → inb 0 x3 1 = true → x3 = 0 ∨ x3 = 1 := fun k _ hq => by
    obtain ⟨v, rfl, _, hv⟩ := rng (a := 0) (c := 1) (by omega) (by omega) hq
    rcases (show v = 0 ∨ v = 1 by omega) with rfl | rfl
    · exact .inl rfl
    · exact .inr rfl
  rcases hx with ⟨s, hs2, rfl, hx3⟩ | ⟨rfl, hx3⟩
  · rcases z01 0 (by omega) hx3 with e | e
    · refine ⟨hAsk (xH N S K now pu Rs nr hr) s, τ, τ', ?_, ?_, a3.2.1.2.2.2.1.1, Inv_s b4⟩
      · rw [if_pos e, ck_n (by omega) (by omega), ix_n (by omega), (a2.2.2.1 s hs2).1]
      · rw [g2', if_pos e, ck_n (by omega) (by omega), ix_n (by omega), (b3.2.2.1 s hs2).1]
    · have e0 : ¬ x3 = 0 := by rw [e]; decide
      refine ⟨hGot (xH N S K now pu Rs nr hr) s, τ, τ', ?_, ?_, a3.2.1.2.2.2.1.1, Inv_s b4⟩
      · rw [if_neg e0, if_pos e, ck_n (by omega) (by omega), ix_n (by omega), (a2.2.2.1 s hs2).2]
      · rw [g2', if_neg e0, if_pos e, ck_n (by omega) (by omega), ix_n (by omega), (b3.2.2.1 s hs2).2]
  · obtain ⟨v, rfl, hv1, hv2⟩ := rng (a := 2) (c := 3) (by omega) (by omega) hx3
    rcases (show v = 2 ∨ v = 3 by omega) with rfl | rfl
    · refine ⟨(hLk (xH N S K now pu Rs nr hr)).1, τ, τ', ?_, ?_, a3.2.1.2.2.2.1.1, Inv_s b4⟩
      · rw [if_neg (by decide), if_neg (by decide), if_pos (by decide)]
      · rw [g2', if_neg (by decide), if_neg (by decide), if_pos (by decide)]
    · refine ⟨(hLk (xH N S K now pu Rs nr hr)).1 + isum32 (hGot (xH N S K now pu Rs nr hr)) (sN S), τ, τ', ?_, ?_, a3.2.1.2.2.2.1.1, Inv_s b4⟩
      · rw [if_neg (by decide), if_neg (by decide), if_neg (by decide)]
      · rw [g2', if_neg (by decide), if_neg (by decide), if_neg (by decide)]
theorem st_flow {n c : Nat} {x1 x2 x3 : Int32} {σ : Sg} (hn : 300000 ≤ n) (h : Inv c σ) : wStp c (s_X11_flow n x1 x2 x3) (s_X12_flow n x1 x2 x3) σ := by
  obtain ⟨N, ma, mb, S, K, now, pu, Rs, nr, h⟩ := h
  have hs := h.2.1.1.1
  have c0 : σ 11 0 = nI (sN S) := h.2.1.2.2.1.1
  have m0 : σ 71 11 = nI (sN S) := h.2.1.2.2.2.1.1
  have i2 : ∀ σ, s_X12_in n x3.toInt64 2 3 σ = some (zo (inb 2 x3 3), σ) := fun σ => inb_ok n x3 2 3 σ
  have i0 : ∀ σ, s_X12_in n x3.toInt64 0 1 σ = some (zo (inb 0 x3 1), σ) := fun σ => inb_ok n x3 0 1 σ
  by_cases e0 : x2 = -1
  · have y2 : (if x2 = -1 then (2 : Int32) else 0) = 2 := if_pos e0
    have y3 : (2 : Int32) + 1 = 3 := by decide
    cases e1 : inb 0 x1 23
    · refine ⟨-1002, σ, σ, ?_, ?_, Inv_s h⟩
      · unfold s_X11_flow s_X11_flow_20 s_X11_flow_30; simp only [lt_eq, out_ok, bd_so, e1]; rw [if_pos e0]; rfl
      · unfold s_X12_flow s_X12_flow_17; simp only [hour12, bd_so, e1]; rw [if_pos e0]; rfl
    cases e3 : inb 2 x3 3
    · refine ⟨-1002, σ, σ, ?_, ?_, Inv_s h⟩
      · unfold s_X11_flow s_X11_flow_20 s_X11_flow_30; simp only [lt_eq, y2, y3, out_ok, bd_so, e1, e3]; rw [if_pos e0]; rfl
      · unfold s_X12_flow s_X12_flow_17; simp only [hour12, i2, bd_so, e1, e3]; rw [if_pos e0, if_neg z_t, if_pos e0]; rfl
    · obtain ⟨hr, rfl, _, hhr⟩ := rng (a := 0) (c := 23) (by omega) (by omega) e1
      obtain ⟨r, τ, τ', a1, a2, a4, a3⟩ := flow_in (n := n) (x2 := x2) (x3 := x3) hn (show hr < 24 by omega) h (.inr ⟨e0, e3⟩)
      refine ⟨r, τ, τ', ?_, ?_, a3⟩
      · unfold s_X11_flow s_X11_flow_20 s_X11_flow_30; simp only [lt_eq, y2, y3, out_ok, bd_so, e1, e3]; rw [if_pos e0, if_pos z_nt, if_pos z_nt]; exact a1
      · unfold s_X12_flow s_X12_flow_17; simp only [hour12, i2, bd_so, e1, e3]; rw [if_pos e0, if_neg z_t, if_pos e0, if_neg z_t]; exact a2
  · have y2 : (if x2 = -1 then (2 : Int32) else 0) = 0 := if_neg e0
    have y3 : (0 : Int32) + 1 = 1 := by decide
    cases e4 : pin (sN S) x2
    · refine ⟨-1001, σ, σ, ?_, ?_, Inv_s h⟩
      · unfold s_X11_flow; rw [if_neg e0, has8 c0, bd_so, e4]; rfl
      · unfold s_X12_flow; rw [if_neg e0, noS (by omega) m0, bd_so, e4]; rfl
    cases e1 : inb 0 x1 23
    · refine ⟨-1002, σ, σ, ?_, ?_, Inv_s h⟩
      · unfold s_X11_flow s_X11_flow_20 s_X11_flow_30; rw [if_neg e0, has8 c0, bd_so, e4, if_neg z_t]; simp only [lt_eq, out_ok, bd_so, e1]; rfl
      · unfold s_X12_flow s_X12_flow_17; rw [if_neg e0, noS (by omega) m0, bd_so, e4, if_pos z_nt]; simp only [hour12, bd_so, e1]; rfl
    cases e3 : inb 0 x3 1
    · refine ⟨-1002, σ, σ, ?_, ?_, Inv_s h⟩
      · unfold s_X11_flow s_X11_flow_20 s_X11_flow_30; rw [if_neg e0, has8 c0, bd_so, e4, if_neg z_t]; simp only [lt_eq, y2, y3, out_ok, bd_so, e1, e3]; rfl
      · unfold s_X12_flow s_X12_flow_17; rw [if_neg e0, noS (by omega) m0, bd_so, e4, if_pos z_nt]; simp only [hour12, i0, bd_so, e1, e3]; rw [if_neg z_t, if_neg e0]; rfl
    · obtain ⟨hr, rfl, _, hhr⟩ := rng (a := 0) (c := 23) (by omega) (by omega) e1
      obtain ⟨s, hs2, hse⟩ := pin_n (by omega) e4
      obtain ⟨r, τ, τ', a1, a2, a4, a3⟩ := flow_in (n := n) (x2 := x2) (x3 := x3) hn (show hr < 24 by omega) h (.inl ⟨s, hs2, hse, e3⟩)
      refine ⟨r, τ, τ', ?_, ?_, a3⟩
      · unfold s_X11_flow s_X11_flow_20 s_X11_flow_30; rw [if_neg e0, has8 c0, bd_so, e4, if_neg z_t]; simp only [lt_eq, y2, y3, out_ok, bd_so, e1, e3]; rw [if_pos z_nt, if_pos z_nt]; exact a1
      · unfold s_X12_flow s_X12_flow_17; rw [if_neg e0, noS (by omega) a4, bd_so, e4, if_pos z_nt]; simp only [hour12, i0, bd_so, e1, e3]; rw [if_neg z_t, if_neg e0, if_neg z_t]; exact a2
