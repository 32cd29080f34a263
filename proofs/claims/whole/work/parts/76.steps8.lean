/-! ===== one call, both sides: draw ===== -/
theorem srv_not {nd : Nat → Nat} {ask : Nat → Int32} {l : Nat → Nat} {A : Mx} {t : Nat} : ∀ i, (∀ j, j < i → l j ≠ t) → (srv nd ask l A i).1 t = 0
  | 0, _ => rfl
  | i + 1, h => by
    rw [srv_s1, if_neg (fun z => h i (by omega) z.symm)]
    exact srv_not i (fun j hj => h j (by omega))
theorem hSv_ok {X : Hr} (h : hok X) : rnn (hSv X).2 ∧ Sv (hSv X).2 ≤ 10998 := srv_ok (h_lk h).1 (h_lk h).2 (lok_h (h_lok h)) (hLn X).1 (Nat.le_refl _)
theorem glt_go {n ns : Nat} {f g : Nat → Int32} {σ : Sg} (hs : ns ≤ 10) (h0 : σ 11 0 = nI ns) (hf : ∀ s, s < ns → σ 2 s = f s ∧ σ 42 s = g s) : ∀ (e s k : Nat) (x : Int32), s + e = ns → e < k → (∀ i, i < 32 → bt x i = (decide (i < s) && decide (¬ f i ≤ g i))) → ∃ y, s_X9_gotLessThan_4 n k x (nI s) σ = some (y, σ) ∧ ∀ i, i < 32 → bt y i = (decide (i < ns) && decide (¬ f i ≤ g i)) := by
  intro e
  induction e with
  | zero =>
    intro s k x he hk hx
    obtain ⟨k, rfl⟩ : ∃ k', k = k' + 1 := ⟨k - 1, by omega⟩
    have he : s = ns := by omega
    subst he
    refine ⟨x, ?_, hx⟩
    show s_X9_gotLessThan_4b n _ _ _ _ = _
    unfold s_X9_gotLessThan_4b
    rw [h0, if_pos (Int32.le_refl _)]
  | succ e ih =>
    intro s k x he hk hx
    obtain ⟨k, rfl⟩ : ∃ k', k = k' + 1 := ⟨k - 1, by omega⟩
    show ∃ y, s_X9_gotLessThan_4b n (s_X9_gotLessThan_4 n k) _ _ _ = _ ∧ _
    unfold s_X9_gotLessThan_4b
    rw [h0, if_neg (by rw [nle (by omega) (by omega)]; omega), ck_n (by omega) (by omega), ck_n (by omega) (by omega), ix_n (by omega), (hf s (by omega)).1, (hf s (by omega)).2, show nI s + 1 = nI (s + 1) from nI_1 s]
    by_cases hle : f s ≤ g s
    · rw [if_pos hle]
      refine ih (s + 1) k x (by omega) (by omega) (fun i hi => ?_)
      rw [hx i hi]
      by_cases e1 : i = s
      · rw [e1, decide_eq_false (show ¬ ¬ f s ≤ g s by simp [hle]), Bool.and_false, Bool.and_false]
      · by_cases e2 : i < s
        · rw [decide_eq_true e2, decide_eq_true (show i < s + 1 by omega)]
        · rw [decide_eq_false e2, decide_eq_false (show ¬ i < s + 1 by omega)]
    · rw [if_neg hle, lt_eq]
      refine ih (s + 1) k _ (by omega) (by omega) (fun i hi => ?_)
      rw [b_or, sl1_bt (by omega) hi, hx i hi]
      by_cases e1 : i = s
      · rw [e1, decide_eq_true hle, decide_eq_true rfl, decide_eq_true (show s < s + 1 by omega)]; simp
      · rw [decide_eq_false e1]
        by_cases e2 : i < s
        · rw [decide_eq_true e2, decide_eq_true (show i < s + 1 by omega), Bool.or_false]
        · rw [decide_eq_false e2, decide_eq_false (show ¬ i < s + 1 by omega), Bool.or_false]
theorem mlt_go {n ns : Nat} {f g : Nat → Int32} {σ : Sg} (hs : ns ≤ 10) (h0 : σ 71 11 = nI ns) (hf : ∀ s, s < ns → σ 108 s = f s ∧ σ 105 s = g s) : ∀ (e s k : Nat) (x : Int32), s + e = ns → e < k → (∀ i, i < 32 → bt x i = (decide (i < s) && decide (¬ f i ≤ g i))) → ∃ y, s_X12_draw_125 n k x (nI s) σ = some (y, σ) ∧ ∀ i, i < 32 → bt y i = (decide (i < ns) && decide (¬ f i ≤ g i)) := by
  intro e
  induction e with
  | zero =>
    intro s k x he hk hx
    obtain ⟨k, rfl⟩ : ∃ k', k = k' + 1 := ⟨k - 1, by omega⟩
    have he : s = ns := by omega
    subst he
    refine ⟨x, ?_, hx⟩
    show s_X12_draw_125b n _ _ _ _ = _
    unfold s_X12_draw_125b
    rw [h0, if_pos (Int32.le_refl _)]
  | succ e ih =>
    intro s k x he hk hx
    obtain ⟨k, rfl⟩ : ∃ k', k = k' + 1 := ⟨k - 1, by omega⟩
    show ∃ y, s_X12_draw_125b n (s_X12_draw_125 n k) _ _ _ = _ ∧ _
    unfold s_X12_draw_125b s_X12_draw_158
    have hv : (if (if f s ≤ g s then (0 : Int32) else 1) = 0 then (0 : Int32) else 1) = zo (decide (¬ f s ≤ g s)) := by
      by_cases hle : f s ≤ g s
      · rw [if_pos hle, if_pos rfl, decide_eq_false (by simp [hle])]; rfl
      · rw [if_neg hle, if_neg (by decide), decide_eq_true hle]; rfl
    rw [h0, if_neg (by rw [nle (by omega) (by omega)]; omega), ck_n (by omega) (by omega), ck_n (by omega) (by omega), ix_n (by omega), (hf s (by omega)).1, (hf s (by omega)).2, lt_eq, one_any, bd_so, lt_eq, hv, show nI s + 1 = nI (s + 1) from nI_1 s]
    refine ih (s + 1) k _ (by omega) (by omega) (fun i hi => ?_)
    rw [b_or, slz_bt (by omega) hi, hx i hi]
    by_cases e1 : i = s
    · rw [e1, decide_eq_true rfl, decide_eq_false (show ¬ s < s by omega), decide_eq_true (show s < s + 1 by omega)]; simp
    · rw [decide_eq_false e1]
      by_cases e2 : i < s
      · rw [decide_eq_true e2, decide_eq_true (show i < s + 1 by omega)]; simp
      · rw [decide_eq_false e2, decide_eq_false (show ¬ i < s + 1 by omega)]; simp
theorem bef_go {n ns : Nat} {x1 x2 x3 : Int32} (hs : ns ≤ 10) : ∀ (e s k : Nat) (σ : Sg), s + e = ns → e < k → σ 71 11 = nI ns → (∀ t, t < s → σ 108 t = σ 105 t) → ∃ τ, s_X12_draw_63 n k x1 x2 x3 (nI s) σ = (bdv (s_X12_askLeaks n x2 τ) fun σ13 => bd (s_X12_ask n x1 (1000000 : Int32) σ13) fun r15 σ14 => if x3 = (1 : Int32) then (some (r15, σ14)) else (bdv (s_X12_askStreets n σ14) fun σ16 => s_X12_draw_125 n n (0 : Int32) (0 : Int32) σ16)) ∧ (∀ t, t < ns → τ 108 t = σ 105 t) ∧ ∀ o j, o ≠ 108 → τ o j = σ o j := by
  intro e
  induction e with
  | zero =>
    intro s k σ he hk h0 hd
    obtain ⟨k, rfl⟩ : ∃ k', k = k' + 1 := ⟨k - 1, by omega⟩
    have he : s = ns := by omega
    subst he
    refine ⟨σ, ?_, hd, fun _ _ _ => rfl⟩
    show s_X12_draw_63b n _ _ _ _ _ _ = _
    unfold s_X12_draw_63b
    rw [h0, if_pos (Int32.le_refl _)]
  | succ e ih =>
    intro s k σ he hk h0 hd
    obtain ⟨k, rfl⟩ : ∃ k', k = k' + 1 := ⟨k - 1, by omega⟩
    show ∃ τ, s_X12_draw_63b n (s_X12_draw_63 n k) _ _ _ _ _ = _ ∧ _
    unfold s_X12_draw_63b
    rw [h0, if_neg (by rw [nle (by omega) (by omega)]; omega), ck_n (by omega) (by omega), ck_n (by omega) (by omega), ix_n (by omega), lt_eq, show nI s + 1 = nI (s + 1) from nI_1 s]
    obtain ⟨τ, t1, t2, t3⟩ := ih (s + 1) k (up2 σ 108 s (σ 105 s)) (by omega) (by omega) (by rw [up2_o (by decide)]; exact h0) (fun t ht => by
      rw [up2_o (show 105 ≠ 108 by decide)]
      by_cases e1 : t = s
      · rw [e1]; simp [up2_app]
      · simp only [up2_app, e1, if_false, ite_self]; exact hd t (by omega))
    exact ⟨τ, t1, fun t ht => by rw [t2 t ht, up2_o (by decide)], fun o j ho => by rw [t3 o j ho, up2_o ho]⟩
theorem serve_dr {n : Nat} {X : Hr} {A : Mx} {σ : Sg} (hn : 11000 ≤ n) (h : hok X) (hA : rnn A) (hS : Sv A ≤ 10998) (hc : cL (sN X.2.1) (sD X.2.1) (hAsk X) (hLn X).1 (hLn X).2 σ) (hM : cM A σ) (hg : ∀ t, t < sN X.2.1 → σ 42 t = hGot X t) : ∃ τ, s_X9_serve n σ = some τ ∧ ∀ t, t < sN X.2.1 → τ 42 t = (srv (sD X.2.1) (hAsk X) (hLn X).2 A (hLn X).1).1 t := by
  have hlk := h_lok h
  have hw10 : (hLn X).1 ≤ 10 := Nat.le_trans hlk.2.1 hlk.1
  obtain ⟨τ, p1, p2, p3⟩ := serve_loop2 (n := n) (A := A) hn hlk hA hS (hLn X).1 0 n σ (by omega) (by omega) hc hM (fun t ht hj => by
    rw [hg t ht]
    exact srv_not _ (fun j hj2 => hj j (by omega) hj2))
  exact ⟨τ, p1, p3⟩
theorem mserve_dr {n z : Nat} {X : Hr} {A : Mx} {σ : Sg} (hn : 11000 ≤ n) (h : hok X) (hA : rnn A) (hS : Sv A ≤ 10998) (hc : mL (sN X.2.1) (sD X.2.1) (hAsk X) (hLn X).1 (hLn X).2 σ) (hM : mM A z 0 σ) (hg : ∀ t, t < sN X.2.1 → σ 105 t = hGot X t) : ∃ τ, s_X12_askStreets n σ = some τ ∧ ∀ t, t < sN X.2.1 → τ 105 t = (srv (sD X.2.1) (hAsk X) (hLn X).2 A (hLn X).1).1 t := by
  have hlk := h_lok h
  have hw10 : (hLn X).1 ≤ 10 := Nat.le_trans hlk.2.1 hlk.1
  obtain ⟨τ, z', p1, p2, p3⟩ := mserve_loop2 (n := n) (A := A) hn hlk hA hS (hLn X).1 0 n z σ (by omega) (by omega) hc hM (fun t ht hj => by
    rw [hg t ht]
    exact srv_not _ (fun j hj2 => hj j (by omega) hj2))
  exact ⟨τ, p1, p3⟩
theorem draw_in {n c hr d w : Nat} {N : Net} {ma mb : Nat → Nat} {S : Str} {K : Knd} {now : Nat} {pu : Nat → Int32} {Rs : Nat → Rl} {nr : Nat} {σ : Sg} (hn : 300000 ≤ n) (hhr : hr < 24) (hd : d < 10) (hw : w ≤ 2) (h : InvD N ma mb S K now pu Rs nr c σ) : ∃ r τ τ', (bdv (s_X11_supplyHour n (nI hr) σ) fun σ7 => if nI w = 0 then (bd (s_X3_send n (nI d) (20000 : Int32) σ7) fun r16 σ15 => some (r16, σ15)) else (lt (cp2 σ7 42 2 0 0 10) fun σ8 => bdv (s_X9_begin n (nI hr) (0 : Int32) (0 : Int32) σ8) fun σ9 => bd (s_X3_send n (nI d) (20000 : Int32) σ9) fun r11 σ10 => if nI w = (1 : Int32) then (some (r11, σ10)) else (bdv (s_X9_serve n σ10) fun σ12 => bd (s_X9_gotLessThan n σ12) fun r14 σ13 => some (r14, σ13)))) = some (r, τ) ∧ (bd (s_X12_dayNow n τ) fun r8 σ7 => bdv (s_X12_findRules n r8 σ7) fun σ9 => bdv (s_X12_findFlow n (nI hr) σ9) fun σ10 => if nI w = 0 then (bd (s_X12_ask n (nI d) (1000000 : Int32) σ10) fun r12 σ11 => some (r12, σ11)) else (s_X12_draw_63 n n (nI d) (nI hr) (nI w) (0 : Int32) σ10)) = some (r, τ') ∧ Inv (c + 1) τ' := by
  have hs := h.2.1.1.1
  obtain ⟨τ, a1, a2, a3, _, _⟩ := sup_ok (n := n) hn hhr h
  have hX := (xH_ok (h := hr) a3 hhr).2
  have h20 : (20000 : Int32).toInt ≤ 20000 := by decide
  have h1m : 0 ≤ (1000000 : Int32).toInt := by decide
  have hA := hSv_ok hX
  have hL := h_lk hX
  rw [a1, bdv_so]
  by_cases w0 : w = 0
  · obtain ⟨τ1, b1, b2⟩ := csend_ok (n := n) (w := 20000) hd (by omega) a2.2.2.2.2 hA.1 hA.2 h20
    have f1 : ∀ o j, o ∉ scrC → τ1 o j = τ o j := fun o j ho => fr_s_X3_send (by
      simp only [List.mem_cons, List.not_mem_nil, or_false, not_or] at ho
      simp [fok, Ne.symm ho.2.2.2.2.2.2.2.1, Ne.symm ho.2.2.2.2.2.2.2.2.1, Ne.symm ho.2.2.2.2.2.2.2.2.2.1, Ne.symm ho.2.2.2.2.2.2.2.2.2.2]) _ _ _ b1
    have hI1 := scr_sup a3 f1
    obtain ⟨ρ, ρ', c1, c2, c3, c4⟩ := msup_ok (n := n) (h := hr) hn hhr hI1
    obtain ⟨z, c5⟩ := c3.2.2.2.2
    obtain ⟨ρ2, d1, d2⟩ := mask_ok (n := n) (w := 1000000) hd (by omega) c5 hA.1 hA.2 h1m
    have f2 : ∀ o j, fok W_X12_ask o j = true → ρ2 o j = ρ' o j := fun o j ho => fr_s_X12_ask ho _ _ _ d1
    refine ⟨(sndN d 20000 (hSv (xH N S K now pu Rs nr hr)).2).1, τ1, ρ2, ?_, ?_, Inv_s (InvD_of c4 (fr_sup rfl f2))⟩
    · rw [if_pos (by rw [w0]; rfl), b1, bd_so]
    · rw [dayNow_ok hI1.2.2.1.1 hI1.2.2.1.2.2.1, bd_so, c1, bdv_so, c2, bdv_so, if_pos (by rw [w0]; rfl), d1, bd_so, sndN_far hd hA.1 hA.2]
  · have w0' : ¬ nI w = 0 := by rw [show (0 : Int32) = nI 0 from rfl, neq (by omega) (by omega)]; exact w0
    rw [if_neg w0', lt_eq]
    have f0 : ∀ o j, o ≠ 2 → cp2 τ 42 2 0 0 10 o j = τ o j := fun o j ho => cp2_o ho
    have hI0 : InvD N ma mb S K now pu Rs nr c (cp2 τ 42 2 0 0 10) := InvD_of a3 (fr_sup (W := [(2, none)]) rfl (fun o j ho => f0 o j (fok_a ho (by decide))))
    have h2 : ∀ s, s < sN S → cp2 τ 42 2 0 0 10 2 s = hGot (xH N S K now pu Rs nr hr) s := fun s hs2 => by
      show (if (2 : Nat) = 2 then va_cpy (τ 42) (τ 2) 0 0 10 else τ 2) s = _
      rw [if_pos rfl]
      unfold va_cpy
      rw [if_pos (by omega), show 0 + (s - 0) = s by omega]
      exact (a2.2.2.1 s hs2).2
    obtain ⟨τ1, b1, b2, b3⟩ := cbegin_ok (n := n) (a := 0) (h := hr) (pump := pu hr) (spring := 0) (σ := cp2 τ 42 2 0 0 10) h.1.1 (by omega) hhr (by omega) hI0.1.2.1 (hI0.2.2.2.1 hr hhr).1.1 (h.2.2.2.1 hr hhr).2.1 (h.2.2.2.1 hr hhr).2.2 (by decide) (by decide)
    have b1' : s_X9_begin n (nI hr) 0 0 (cp2 τ 42 2 0 0 10) = some τ1 := b1
    have f1 : ∀ o j, fok W_X9_begin o j = true → τ1 o j = cp2 τ 42 2 0 0 10 o j := fun o j ho => fr_s_X9_begin ho _ _ _ _ b1'
    obtain ⟨τ2, e1, e2⟩ := csend_ok (n := n) (w := 20000) (A := (hLk (xH N S K now pu Rs nr hr)).2) (σ := τ1) hd (by omega) b2 hL.1 hL.2 h20
    have f2 : ∀ o j, fok W_X3_send o j = true → τ2 o j = τ1 o j := fun o j ho => fr_s_X3_send ho _ _ _ e1
    have fA : ∀ o j, fok (W_X9_begin ++ W_X3_send) o j = true → τ2 o j = cp2 τ 42 2 0 0 10 o j := fun o j ho => (f2 o j (fok_app ho).2).trans (f1 o j (fok_app ho).1)
    have hI2 : InvD N ma mb S K now pu Rs nr c τ2 := InvD_of hI0 (fr_sup rfl fA)
    rw [b1', bdv_so, e1, bd_so]
    have hD := sndN_inv (node := d) (w := 20000) hd hL.1 (by decide)
    have hD2 : Sv (sndN d 20000 (hLk (xH N S K now pu Rs nr hr)).2).2 ≤ 10998 := by have := hD.2.1; have := hL.2; omega
    -- the reference up to the same place
    have mref : ∀ ρ0 : Sg, InvD N ma mb S K now pu Rs nr c ρ0 → ∃ ρ1 ρ2 ρ3 ρ4 ρ5, s_X12_findRules n (nI (dyN now)) ρ0 = some ρ1 ∧ s_X12_findFlow n (nI hr) ρ1 = some ρ2 ∧ s_X12_draw_63 n n (nI d) (nI hr) (nI w) 0 ρ2 = (bdv (s_X12_askLeaks n (nI hr) ρ3) fun σ13 => bd (s_X12_ask n (nI d) (1000000 : Int32) σ13) fun r15 σ14 => if nI w = (1 : Int32) then (some (r15, σ14)) else (bdv (s_X12_askStreets n σ14) fun σ16 => s_X12_draw_125 n n (0 : Int32) (0 : Int32) σ16)) ∧ s_X12_askLeaks n (nI hr) ρ3 = some ρ4 ∧ s_X12_ask n (nI d) 1000000 ρ4 = some ((sndN d 20000 (hLk (xH N S K now pu Rs nr hr)).2).1, ρ5) ∧ (∃ z, mM (sndN d 20000 (hLk (xH N S K now pu Rs nr hr)).2).2 z 0 ρ5) ∧ mL (sN S) (sD S) (hAsk (xH N S K now pu Rs nr hr)) (hLn (xH N S K now pu Rs nr hr)).1 (hLn (xH N S K now pu Rs nr hr)).2 ρ5 ∧ (∀ t, t < sN S → ρ5 108 t = hGot (xH N S K now pu Rs nr hr) t ∧ ρ5 105 t = hGot (xH N S K now pu Rs nr hr) t) ∧ InvD N ma mb S K now pu Rs nr c ρ5 := by
      intro ρ0 hρ0
      obtain ⟨ρ1, ρ2, c1, c2, c3, c4⟩ := msup_ok (n := n) (h := hr) hn hhr hρ0
      obtain ⟨ρ3, g1, g2, g3⟩ := bef_go (n := n) (x1 := nI d) (x2 := nI hr) (x3 := nI w) hs (sN S) 0 n ρ2 (by omega) (by omega) c4.2.1.2.2.2.1.1 (fun t ht => absurd ht (Nat.not_lt_zero _))
      have hI3 : InvD N ma mb S K now pu Rs nr c ρ3 := InvD_of c4 (fr_sup (W := [(108, none)]) rfl (fun o j ho => g3 o j (fok_a ho (by decide))))
      obtain ⟨ρ4, nd, k1, k2, k3⟩ := mleaks_ok (n := n) (a := 0) (h := hr) (pump := pu hr) (spring := 0) (σ := ρ3) h.1.1 (by omega) hhr (by omega) hI3.1.2.2.1 (.inl ⟨hI3.2.2.1.2.2.2.2.2, rfl, rfl⟩) (hI3.2.2.2.1 hr hhr).1.2 (h.2.2.2.1 hr hhr).2.1 (h.2.2.2.1 hr hhr).2.2 (by decide) (by decide)
      have f4 : ∀ o j, fok W_X12_askLeaks o j = true → ρ4 o j = ρ3 o j := fun o j ho => fr_s_X12_askLeaks ho _ _ k1
      obtain ⟨ρ5, l1, l2⟩ := mask_ok (n := n) (w := 1000000) (A := (hLk (xH N S K now pu Rs nr hr)).2) (σ := ρ4) hd (by omega) k2 hL.1 hL.2 h1m
      have f5 : ∀ o j, fok W_X12_ask o j = true → ρ5 o j = ρ4 o j := fun o j ho => fr_s_X12_ask ho _ _ _ l1
      rw [← sndN_far hd hL.1 hL.2] at l1 l2
      have fB : ∀ o j, fok (W_X12_askLeaks ++ W_X12_ask) o j = true → ρ5 o j = ρ3 o j := fun o j ho => (f5 o j (fok_app ho).2).trans (f4 o j (fok_app ho).1)
      refine ⟨ρ1, ρ2, ρ3, ρ4, ρ5, c1, c2, g1, k1, l1, ⟨d, l2⟩, ⟨?_, fun i hi => ?_, fun t ht => ?_⟩, fun t ht => ?_, InvD_of hI3 (fr_sup rfl fB)⟩
      · rw [fB 71 56 rfl, g3 71 56 (by decide)]; exact c3.1
      · rw [fB 107 i rfl, g3 107 i (by decide)]; exact c3.2.1 i hi
      · rw [fB 81 t rfl, g3 81 t (by decide), fB 104 t rfl, g3 104 t (by decide)]
        exact ⟨(c4.2.1.2.2.2.1.2 t ht).1, (c3.2.2.1 t ht).1⟩
      · rw [fB 108 t rfl, g2 t ht, fB 105 t rfl, g3 105 t (by decide)]
        exact ⟨(c3.2.2.1 t ht).2, (c3.2.2.1 t ht).2⟩
    by_cases w1 : w = 1
    · have w1' : nI w = 1 := by rw [w1]; rfl
      obtain ⟨ρ1, ρ2, ρ3, ρ4, ρ5, m1, m2, m3, m4, m5, m6, m7, m8, m9⟩ := mref τ2 hI2
      refine ⟨(sndN d 20000 (hLk (xH N S K now pu Rs nr hr)).2).1, τ2, ρ5, if_pos w1', ?_, Inv_s m9⟩
      rw [dayNow_ok hI2.2.2.1.1 hI2.2.2.1.2.2.1, bd_so, m1, bdv_so, m2, bdv_so, if_neg w0', m3, m4, bdv_so, m5, bd_so, if_pos w1']
    · have w1' : ¬ nI w = 1 := by rw [show (1 : Int32) = nI 1 from rfl, neq (by omega) (by omega)]; exact w1
      rw [if_neg w1']
      have hcL : cL (sN S) (sD S) (hAsk (xH N S K now pu Rs nr hr)) (hLn (xH N S K now pu Rs nr hr)).1 (hLn (xH N S K now pu Rs nr hr)).2 τ2 := by
        refine ⟨by rw [fA 39 9 rfl, f0 39 9 (by decide)]; exact a2.1, fun i hi => by rw [fA 45 i rfl, f0 45 i (by decide)]; exact a2.2.1 i hi, fun t ht => ?_⟩
        rw [fA 12 t rfl, f0 12 t (by decide), fA 41 t rfl, f0 41 t (by decide)]
        exact ⟨(a3.2.1.2.2.1.2 t ht).1, (a2.2.2.1 t ht).1⟩
      obtain ⟨τ3, p1', p3⟩ := serve_dr (n := n) (X := xH N S K now pu Rs nr hr) (A := (sndN d 20000 (hLk (xH N S K now pu Rs nr hr)).2).2) (σ := τ2) (by omega) hX hD.1 hD2 hcL e2 (fun t ht => by
        rw [fA 42 t rfl, f0 42 t (by decide)]
        exact (a2.2.2.1 t ht).2)
      have f3 : ∀ o j, fok W_X9_serve o j = true → τ3 o j = τ2 o j := fun o j ho => fr_s_X9_serve ho _ p1'
      have hI3 : InvD N ma mb S K now pu Rs nr c τ3 := InvD_of hI2 (fr_sup rfl f3)
      obtain ⟨y, q1, q2⟩ := glt_go (n := n) (f := hGot (xH N S K now pu Rs nr hr)) (g := (srv (sD S) (hAsk (xH N S K now pu Rs nr hr)) (hLn (xH N S K now pu Rs nr hr)).2 (sndN d 20000 (hLk (xH N S K now pu Rs nr hr)).2).2 (hLn (xH N S K now pu Rs nr hr)).1).1) (σ := τ3) hs hI3.2.1.2.2.1.1 (fun s hs2 => ⟨by rw [f3 2 s rfl, fA 2 s rfl]; exact h2 s hs2, p3 s hs2⟩) (sN S) 0 n 0 (by omega) (by omega) (fun i hi => by rw [b_0, decide_eq_false (by omega), Bool.false_and])
      have q1' : s_X9_gotLessThan n τ3 = some (y, τ3) := q1
      rw [p1', bdv_so, q1', bd_so]
      obtain ⟨ρ1, ρ2, ρ3, ρ4, ρ5, m1, m2, m3, m4, m5, ⟨z, m6⟩, m7, m8, m9⟩ := mref τ3 hI3
      obtain ⟨ρ6, s1', s3⟩ := mserve_dr (n := n) (X := xH N S K now pu Rs nr hr) (A := (sndN d 20000 (hLk (xH N S K now pu Rs nr hr)).2).2) (σ := ρ5) (by omega) hX hD.1 hD2 m7 m6 (fun t ht => (m8 t ht).2)
      have f6 : ∀ o j, fok W_X12_askStreets o j = true → ρ6 o j = ρ5 o j := fun o j ho => fr_s_X12_askStreets ho _ s1'
      have hI6 : InvD N ma mb S K now pu Rs nr c ρ6 := InvD_of m9 (fr_sup rfl f6)
      obtain ⟨y', u1, u2⟩ := mlt_go (n := n) (f := hGot (xH N S K now pu Rs nr hr)) (g := (srv (sD S) (hAsk (xH N S K now pu Rs nr hr)) (hLn (xH N S K now pu Rs nr hr)).2 (sndN d 20000 (hLk (xH N S K now pu Rs nr hr)).2).2 (hLn (xH N S K now pu Rs nr hr)).1).1) (σ := ρ6) hs hI6.2.1.2.2.2.1.1 (fun s hs2 => ⟨by rw [f6 108 s rfl]; exact (m8 s hs2).1, s3 s hs2⟩) (sN S) 0 n 0 (by omega) (by omega) (fun i hi => by rw [b_0, decide_eq_false (by omega), Bool.false_and])
      have hy : y' = y := b_ext (fun i hi => by rw [u2 i hi, q2 i hi])
      have u1' : s_X12_draw_125 n n 0 0 ρ6 = some (y, ρ6) := by rw [← hy]; exact u1
      refine ⟨y, τ3, ρ6, rfl, ?_, Inv_s hI6⟩
      rw [dayNow_ok hI3.2.2.1.1 hI3.2.2.1.2.2.1, bd_so, m1, bdv_so, m2, bdv_so, if_neg w0', m3, m4, bdv_so, m5, bd_so, if_neg w1', s1', bdv_so]
      exact u1'
theorem st_draw {n c : Nat} {x1 x2 x3 : Int32} {σ : Sg} (hn : 300000 ≤ n) (h : Inv c σ) : wStp c (s_X11_draw n x1 x2 x3) (s_X12_draw n x1 x2 x3) σ := by
  obtain ⟨N, ma, mb, S, K, now, pu, Rs, nr, h⟩ := h
  have i3 : ∀ σ, s_X12_in n x3.toInt64 0 2 σ = some (zo (inb 0 x3 2), σ) := fun σ => inb_ok n x3 0 2 σ
  cases e1 : inb 0 x1 9
  · refine ⟨-1001, σ, σ, ?_, ?_, Inv_s h⟩
    · unfold s_X11_draw; rw [node11, bd_so, e1]; rfl
    · unfold s_X12_draw; rw [node12, bd_so, e1]; rfl
  cases e2 : inb 0 x2 23
  · refine ⟨-1002, σ, σ, ?_, ?_, Inv_s h⟩
    · unfold s_X11_draw; rw [node11, bd_so, e1, if_neg z_t, out_ok, bd_so, e2]; rfl
    · unfold s_X12_draw; rw [node12, bd_so, e1, if_neg z_t, hour12, bd_so, e2]; rfl
  cases e3 : inb 0 x3 2
  · refine ⟨-1002, σ, σ, ?_, ?_, Inv_s h⟩
    · unfold s_X11_draw; rw [node11, bd_so, e1, if_neg z_t, out_ok, bd_so, e2, if_pos z_nt, out_ok, bd_so, e3]; rfl
    · unfold s_X12_draw; rw [node12, bd_so, e1, if_neg z_t, hour12, bd_so, e2, if_neg z_t, i3, bd_so, e3]; rfl
  obtain ⟨d, rfl, _, hd⟩ := rng (a := 0) (c := 9) (by omega) (by omega) e1
  obtain ⟨hr, rfl, _, hhr⟩ := rng (a := 0) (c := 23) (by omega) (by omega) e2
  obtain ⟨w, rfl, _, hw⟩ := rng (a := 0) (c := 2) (by omega) (by omega) e3
  obtain ⟨r, τ, τ', a1, a2, a3⟩ := draw_in (n := n) (d := d) (w := w) hn (show hr < 24 by omega) (by omega) hw h
  refine ⟨r, τ, τ', ?_, ?_, a3⟩
  · unfold s_X11_draw; rw [node11, bd_so, e1, if_neg z_t, out_ok, bd_so, e2, if_pos z_nt, out_ok, bd_so, e3, if_pos z_nt]; exact a1
  · unfold s_X12_draw; rw [node12, bd_so, e1, if_neg z_t, hour12, bd_so, e2, if_neg z_t, i3, bd_so, e3, if_neg z_t]; exact a2
