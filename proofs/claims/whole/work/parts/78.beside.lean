/-! ===== beside ===== -/
theorem gday {T : Tn} {Rs : Nat → Rl} {nr : Nat} {q0 : Gs} (d : Nat) : ∀ h, h ≤ 24 → (gRun T Rs nr 0 q0 (24 * d + h)).1 = (dyS T (LwD Rs nr d) false (gRun T Rs nr 0 q0 (24 * d)).1 h).2 ∧ (gRun T Rs nr 0 q0 (24 * d + h)).2.2.2.2.2.2 = (gRun T Rs nr 0 q0 (24 * d)).2.2.2.2.2.2 + (dyS T (LwD Rs nr d) false (gRun T Rs nr 0 q0 (24 * d)).1 h).1
  | 0, _ => ⟨rfl, rfl⟩
  | h + 1, hh => by
    obtain ⟨i1, i2⟩ := gday (T := T) (Rs := Rs) (nr := nr) (q0 := q0) d h (by omega)
    rw [show 24 * d + (h + 1) = (24 * d + h) + 1 by omega, gRun_s, dyS_s, show (0 + (24 * d + h)) / 24 = d by omega, show (0 + (24 * d + h)) % 24 = h by omega]
    refine ⟨?_, ?_⟩
    · show tC T (LwD Rs nr d) h (gRun T Rs nr 0 q0 (24 * d + h)).1 = _
      rw [i1]
    · show (gRun T Rs nr 0 q0 (24 * d + h)).2.2.2.2.2.2 + (if tD T (LwD Rs nr d) false h (gRun T Rs nr 0 q0 (24 * d + h)).1 = true then 1 else 0) = _
      rw [i1, i2, Nat.add_assoc]
theorem strk_same {Rs : Nat → Rl} {nr d : Nat} (hd : 0 < d) (h : ∀ r, r < nr → rDay (Rs r) ≠ d) : ∀ e, e ≤ nr → strk Rs nr d e = strk Rs nr (d - 1) e
  | 0, _ => rfl
  | e + 1, he => by
    have ih := strk_same hd h e (by omega)
    funext i
    show (strk Rs nr d e i || (decide (rDay (Rs (nr - 1 - e)) ≤ d) && (!strk Rs nr d e (nr - 1 - e) && rStr (Rs (nr - 1 - e)) i))) = (strk Rs nr (d - 1) e i || (decide (rDay (Rs (nr - 1 - e)) ≤ d - 1) && (!strk Rs nr (d - 1) e (nr - 1 - e) && rStr (Rs (nr - 1 - e)) i)))
    have hr := h (nr - 1 - e) (by omega)
    have e1 : decide (rDay (Rs (nr - 1 - e)) ≤ d) = decide (rDay (Rs (nr - 1 - e)) ≤ d - 1) := by
      rw [decide_eq_decide]
      omega
    rw [ih, e1]
theorem holds_same {Rs : Nat → Rl} {nr d : Nat} (hd : 0 < d) (h : ∀ r, r < nr → rDay (Rs r) ≠ d) : holds Rs nr d = holds Rs nr (d - 1) := by
  have on : ∀ r, r < nr → onR Rs nr d r = onR Rs nr (d - 1) r := fun r hr => by
    unfold onR
    have hq := h r hr
    have e1 : decide (rDay (Rs r) ≤ d) = decide (rDay (Rs r) ≤ d - 1) := by
      rw [decide_eq_decide]
      omega
    rw [strk_same hd h (nr - 1 - r) (by omega), e1]
  have key : ∀ l : List Nat, (∀ r ∈ l, r < nr) → l.foldr (fun r h => if onR Rs nr d r = true then foll h (Rs r) else h) hd0 = l.foldr (fun r h => if onR Rs nr (d - 1) r = true then foll h (Rs r) else h) hd0 := by
    intro l
    induction l with
    | nil => intro _; rfl
    | cons r l ih =>
      intro hl
      rw [List.foldr_cons, List.foldr_cons, ih (fun q hq => hl q (List.mem_cons_of_mem _ hq)), on r (hl r (by simp))]
  exact key (rowR Rs nr) (fun r hr => rowR_lt hr)
theorem begin_on {n nr d : Nat} {Rs : Nat → Rl} {σ : Sg} (hd : d < 200) (hR : cR Rs nr σ) : ∀ (e r k : Nat), r + e = nr → e < k → (∀ i, i < r → rDay (Rs i) ≠ d) → ∃ b, s_X6_someBeginOn_2 n k (nI d) (nI r) σ = some (zo b, σ) ∧ (b = false → ∀ i, i < nr → rDay (Rs i) ≠ d) := by
  have h8 := hR.1
  intro e
  induction e with
  | zero =>
    intro r k hr hk hd2
    obtain ⟨k, rfl⟩ : ∃ k', k = k' + 1 := ⟨k - 1, by omega⟩
    have hr : r = nr := by omega
    subst hr
    refine ⟨false, ?_, fun _ => hd2⟩
    show s_X6_someBeginOn_2b n _ _ _ _ = _
    unfold s_X6_someBeginOn_2b
    rw [hR.2.1, if_pos (Int32.le_refl _)]
    rfl
  | succ e ih =>
    intro r k hr hk hd2
    obtain ⟨k, rfl⟩ : ∃ k', k = k' + 1 := ⟨k - 1, by omega⟩
    have hRr := hR.2.2.1 r (by omega)
    show ∃ b, s_X6_someBeginOn_2b n (s_X6_someBeginOn_2 n k) _ _ _ = _ ∧ _
    unfold s_X6_someBeginOn_2b
    rw [hR.2.1, if_neg (by rw [nle (by omega) (by omega)]; omega), ck_n (by omega) (by omega), ix_n (by omega), rf28 r (by omega), hRr.2.1, show nI r + 1 = nI (r + 1) from nI_1 r]
    by_cases e1 : rDay (Rs r) = d
    · rw [if_pos (by rw [e1])]
      exact ⟨true, rfl, fun z => by cases z⟩
    · rw [if_neg (by rw [neq (by omega) (by omega)]; exact e1)]
      refine ih (r + 1) k (by omega) (by omega) (fun i hi => ?_)
      by_cases e2 : i = r
      · rw [e2]; exact e1
      · exact hd2 i (by omega)
theorem hasC_go {n : Nat} {σ : Sg} : ∀ (e s k : Nat), s + e = 10 → e < k → (∀ i, i < s → σ 58 i = σ 61 i) → ∃ b, s_X7_hasCisterns_2 n k 56 59 (nI s) σ = some (zo b, σ) ∧ (b = true → ∀ i, i < 10 → σ 58 i = σ 61 i) := by
  intro e
  induction e with
  | zero =>
    intro s k hs hk hd
    obtain ⟨k, rfl⟩ : ∃ k', k = k' + 1 := ⟨k - 1, by omega⟩
    have hs : s = 10 := by omega
    subst hs
    refine ⟨true, ?_, fun _ => hd⟩
    show s_X7_hasCisterns_2b n _ _ _ _ _ = _
    unfold s_X7_hasCisterns_2b
    rw [if_pos (by decide)]
    rfl
  | succ e ih =>
    intro s k hs hk hd
    obtain ⟨k, rfl⟩ : ∃ k', k = k' + 1 := ⟨k - 1, by omega⟩
    show ∃ b, s_X7_hasCisterns_2b n (s_X7_hasCisterns_2 n k) _ _ _ _ = _ ∧ _
    unfold s_X7_hasCisterns_2b
    rw [if_neg (by rw [show (10 : Int32) = nI 10 from rfl, nle (by omega) (by omega)]; omega), ck_n (by omega) (by omega), ck_n (by omega) (by omega), ix_n (by omega), show nI s + 1 = nI (s + 1) from nI_1 s]
    show ∃ b, (if σ 58 s = σ 61 s then _ else _) = _ ∧ _
    by_cases e1 : σ 58 s = σ 61 s
    · rw [if_pos e1]
      refine ih (s + 1) k (by omega) (by omega) (fun i hi => ?_)
      by_cases e2 : i = s
      · rw [e2]; exact e1
      · exact hd i (by omega)
    · rw [if_neg e1]
      exact ⟨false, rfl, fun z => by cases z⟩
/-- the class's trial at the beginning of a day -/
def cBe (T : Tn) (Rs : Nat → Rl) (nr : Nat) (c : Nat → Int32) (σ : Sg) : Prop := cN T.1 σ ∧ cS (tS T) σ ∧ cK (tS T) (tK T, c) 56 σ ∧ (∀ s, sN (tS T) ≤ s → s < 10 → σ 58 s = 0) ∧ (∀ h, h < 24 → σ 40 h = tP T h) ∧ cR Rs nr σ ∧ cCa Rs nr 62 σ ∧ ∃ e, e ≤ nr ∧ σ 62 1 = nI e
theorem z56 : zStand 56 := .inr (.inl rfl)
theorem z62 : zLaw 62 := by unfold zLaw; omega
/-- a day is tried -/
theorem cbe_day {n d H nr : Nat} {T : Tn} {Rs : Nat → Rl} {c : Nat → Int32} {σ : Sg} (hn : 300000 ≤ n) (ht : tok T) (hk : kOk Rs nr) (hc : cok (tS T) c) (hd : d < 200) (hH : H ≤ 24) (h : cBe T Rs nr c σ) : ∃ τ1 τ2 τ3, s_X7_takeCisterns n 59 56 σ = some τ1 ∧ s_X6_hold n (nI d) 62 τ1 = some τ2 ∧ s_X10_dryOfDay n (nI H) 0 (nI (tA T)) (tG T) τ2 = some (nI (dyS T (LwD Rs nr d) false c H).1, τ3) ∧ cBe T Rs nr (dyS T (LwD Rs nr d) false c H).2 τ3 ∧ ∀ s, s < 10 → τ3 61 s = c s := by
  obtain ⟨h1, h2, h3, h4, h5, h6, h7, h8⟩ := h
  have f1 : ∀ o j, o ≠ 61 → cp2 σ 58 61 0 0 10 o j = σ o j := fun o j ho => cp2_o ho
  have hR1 : cR Rs nr (cp2 σ 58 61 0 0 10) := cR_of h6 (fun o j ho => f1 o j (by omega))
  obtain ⟨τ2, a1, a2, a3, a4⟩ := hold_ok2 (n := n) (lc := 62) (d := d) (by omega) (.inr rfl) hd hR1 (cCa_of h7 (fun j => f1 62 j (by decide)))
  have f2 : ∀ o j, o ≠ 62 → τ2 o j = cp2 σ 58 61 0 0 10 o j := fun o j ho => fr_s_X6_hold rfl _ _ _ ho a1
  have f12 : ∀ o j, o ≠ 61 → o ≠ 62 → τ2 o j = σ o j := fun o j p1 p2 => by rw [f2 o j p2, f1 o j p1]
  have hd2 : cDy T (LwD Rs nr d) 56 62 c τ2 := by
    refine ⟨⟨cN_of h1 (fun j => f12 3 j (by decide) (by decide)) (fun j => f12 4 j (by decide) (by decide)) (fun j => f12 5 j (by decide) (by decide)) (fun j => f12 6 j (by decide) (by decide)) (fun j => f12 7 j (by decide) (by decide)), ⟨by rw [f12 11 0 (by decide) (by decide)]; exact h2.1, fun s hs => by rw [f12 12 s (by decide) (by decide), f12 14 s (by decide) (by decide), f12 15 s (by decide) (by decide), f12 16 s (by decide) (by decide)]; exact h2.2 s hs⟩, fun s hs => ?_, cW_of hk a2⟩, fun x hx => by rw [f12 40 x (by decide) (by decide)]; exact h5 x hx, fun s hs hs2 => ?_⟩
    · show τ2 57 s = _ ∧ τ2 58 s = _
      rw [f12 57 s (by decide) (by decide), f12 58 s (by decide) (by decide)]
      exact h3 s hs
    · show τ2 58 s = 0
      rw [f12 58 s (by decide) (by decide)]
      exact h4 s hs hs2
  obtain ⟨τ3, b1, b2⟩ := cday_loop (n := n) (H := H) (b := false) (by omega) ht (lwO_k hk d).1 hc hH H 0 n τ2 (by omega) (by omega) hd2
  have b1' : s_X10_dryOfDay n (nI H) 0 (nI (tA T)) (tG T) τ2 = some (nI (dyS T (LwD Rs nr d) false c H).1, τ3) := b1
  have f3 : ∀ o j, fok W_X10_dryOfDay o j = true → τ3 o j = τ2 o j := fun o j ho => fr_s_X10_dryOfDay ho _ _ _ _ _ b1'
  refine ⟨cp2 σ 58 61 0 0 10, τ2, τ3, rfl, a1, b1', ⟨b2.1.1, b2.1.2.1, b2.1.2.2.1, b2.2.2, b2.2.1, cR_of hR1 (fun o j ho => ?_), cCa_of a3 (fun j => f3 62 j rfl), ⟨nr, Nat.le_refl _, by rw [f3 62 1 rfl]; exact a4⟩⟩, fun s hs => ?_⟩
  · have ho2 : fok W_X10_dryOfDay o j = true ∧ o ≠ 62 := by
      rcases (show o = 27 ∨ o = 37 ∨ o = 29 ∨ o = 30 ∨ o = 31 ∨ o = 32 ∨ o = 33 ∨ o = 34 ∨ o = 35 ∨ o = 36 by omega) with rfl | rfl | rfl | rfl | rfl | rfl | rfl | rfl | rfl | rfl <;> exact ⟨rfl, by decide⟩
    rw [f3 o j ho2.1, f2 o j ho2.2]
  · rw [f3 61 s rfl, f2 61 s (by decide)]
    show (if (61 : Nat) = 61 then va_cpy (σ 58) (σ 61) 0 0 10 else σ 61) s = _
    rw [if_pos rfl]
    unfold va_cpy
    rw [if_pos (by omega), show 0 + (s - 0) = s by omega]
    by_cases e : s < sN (tS T)
    · exact (h3 s e).2
    · rw [h4 s (by omega) hs, hc.2 s (by omega)]
theorem cbe_loop {n D now nr : Nat} {T : Tn} {Rs : Nat → Rl} {q0 : Gs} (hn : 300000 ≤ n) (ht : tok T) (hk : kOk Rs nr) (hc : cok (tS T) q0.1) (h0 : q0.2.2.2.2.2.2 = 0) (hnow : now ≤ 4800) (hD : now ≤ 24 * D) (hD2 : 24 * D < now + 24) : ∀ (e d k : Nat) (x6 : Int32) (σ : Sg), d + e = D → e < k → cBe T Rs nr (gRun T Rs nr 0 q0 (if 24 * d ≤ now then 24 * d else now)).1 σ → (0 < d → 24 * d ≤ now → x6 = nI (dyS T (LwD Rs nr (d - 1)) false (gRun T Rs nr 0 q0 (24 * (d - 1))).1 24).1 ∧ ∀ s, s < 10 → σ 61 s = (gRun T Rs nr 0 q0 (24 * (d - 1))).1 s) → ∃ τ, s_X10_dryAgain_17 n k (nI now) (nI (tA T)) (tG T) (nI (gRun T Rs nr 0 q0 (if 24 * d ≤ now then 24 * d else now)).2.2.2.2.2.2) x6 (nI d) σ = some (nI (gRun T Rs nr 0 q0 now).2.2.2.2.2.2, τ) ∧ cCa Rs nr 62 τ ∧ ∃ e, e ≤ nr ∧ τ 62 1 = nI e := by
  intro e
  induction e with
  | zero =>
    intro d k x6 σ hd hk2 hB hY
    obtain ⟨k, rfl⟩ : ∃ k', k = k' + 1 := ⟨k - 1, by omega⟩
    have hd : d = D := by omega
    subst hd
    refine ⟨σ, ?_, hB.2.2.2.2.2.2.1, hB.2.2.2.2.2.2.2⟩
    show s_X10_dryAgain_17b n _ _ _ _ _ _ _ _ = _
    unfold s_X10_dryAgain_17b
    have fin : (some (nI (gRun T Rs nr 0 q0 (if 24 * d ≤ now then 24 * d else now)).2.2.2.2.2.2, σ) : Option (Int32 × Sg)) = some (nI (gRun T Rs nr 0 q0 now).2.2.2.2.2.2, σ) := by
      by_cases e1 : 24 * d ≤ now
      · rw [if_pos e1, show 24 * d = now by omega]
      · rw [if_neg e1]
    by_cases e0 : (199 : Int32) < nI d
    · rw [if_pos e0]
      exact fin
    · rw [if_neg e0, show (24 : Int32) = nI 24 from rfl, nmul, if_pos (by rw [nle (by omega) (by omega)]; omega)]
      exact fin
  | succ e ih =>
    intro d k x6 σ hd hk2 hB hY
    obtain ⟨k, rfl⟩ : ∃ k', k = k' + 1 := ⟨k - 1, by omega⟩
    have hdn : 24 * d < now := by omega
    have hd200 : d < 200 := by omega
    rw [if_pos (show 24 * d ≤ now by omega)] at hB ⊢
    have hcd := gRun_ok (Rs := Rs) (nr := nr) (t0 := 0) ht hk hc (24 * d)
    have hcl := gRun_le (T := T) (Rs := Rs) (nr := nr) (t0 := 0) (q0 := q0) (24 * d)
    -- how long the day is
    obtain ⟨H, hH, hH2, hH3⟩ : ∃ H, H ≤ 24 ∧ imin (24 : Int32) (nI now - nI (d * 24)) = nI H ∧ 24 * d + H = (if 24 * (d + 1) ≤ now then 24 * (d + 1) else now) := by
      unfold imin
      rw [nsub (by omega), show (24 : Int32) = nI 24 from rfl]
      by_cases e1 : 24 * (d + 1) ≤ now
      · refine ⟨24, Nat.le_refl _, if_neg (by rw [nlt (by omega) (by omega)]; omega), by rw [if_pos e1]; omega⟩
      · refine ⟨now - 24 * d, by omega, ?_, by rw [if_neg e1]; omega⟩
        rw [if_pos (by rw [nlt (by omega) (by omega)]; omega), Nat.mul_comm]
    have gd := gday (T := T) (Rs := Rs) (nr := nr) (q0 := q0) d H hH
    have hdl := dyS_le T (LwD Rs nr d) false (gRun T Rs nr 0 q0 (24 * d)).1 H
    -- the day is tried
    have full : ∃ τ, s_X10_dryAgain_91 n (s_X10_dryAgain_17 n k) (nI now) (nI (tA T)) (tG T) (nI (gRun T Rs nr 0 q0 (24 * d)).2.2.2.2.2.2) x6 (nI d) (nI H) 0 σ = some (nI (gRun T Rs nr 0 q0 now).2.2.2.2.2.2, τ) ∧ cCa Rs nr 62 τ ∧ ∃ e, e ≤ nr ∧ τ 62 1 = nI e := by
      obtain ⟨τ1, τ2, τ3, a1, a2, a3, a4, a5⟩ := cbe_day (n := n) (d := d) (H := H) hn ht hk hcd hd200 hH hB
      unfold s_X10_dryAgain_91
      rw [if_pos rfl, a1, bdv_so, a2, bdv_so, a3, bd_so, lt_eq, nadd, ← gd.2, hH3, show nI d + 1 = nI (d + 1) from nI_1 d]
      refine ih (d + 1) k _ τ3 (by omega) (by omega) ?_ (fun _ h2 => ?_)
      · rw [← hH3, gd.1]; exact a4
      · rw [if_pos h2] at hH3
        have hH24 : H = 24 := by omega
        rw [hH24, show d + 1 - 1 = d by omega]
        exact ⟨rfl, a5⟩
    show ∃ τ, s_X10_dryAgain_17b n (s_X10_dryAgain_17 n k) _ _ _ _ _ _ _ = _ ∧ _
    unfold s_X10_dryAgain_17b s_X10_dryAgain_90
    rw [if_neg (show ¬ (199 : Int32) < nI d by rw [show (199 : Int32) = nI 199 from rfl, nlt (by omega) (by omega)]; omega), show nI d * 24 = nI (d * 24) from nmul d 24, if_neg (by rw [nle (by omega) (by omega)]; omega), lt_eq, hH2]
    by_cases hd0 : d = 0
    · rw [if_pos (by rw [hd0]; decide)]
      exact full
    · rw [if_neg (by rw [show (0 : Int32) = nI 0 from rfl, nle (by omega) (by omega)]; omega)]
      by_cases hH24 : H = 24
      · rw [if_pos (by rw [hH24]; rfl)]
        obtain ⟨b, c1, c2⟩ := begin_on (n := n) hd200 hB.2.2.2.2.2.1 nr 0 n (by omega) (by have := hB.2.2.2.2.2.1.1; omega) (fun i hi => absurd hi (Nat.not_lt_zero _))
        have c1' : s_X6_someBeginOn n (nI d) σ = some (zo b, σ) := c1
        rw [c1', bd_so]
        cases b
        · rw [if_pos z_f]
          obtain ⟨b2, d1, d2⟩ := hasC_go (n := n) (σ := σ) 10 0 n (by omega) (by omega) (fun i hi => absurd hi (Nat.not_lt_zero _))
          have d1' : s_X7_hasCisterns n 56 59 σ = some (zo b2, σ) := d1
          rw [d1', bd_so, lt_eq]
          cases b2
          · rw [if_pos z_f]
            exact full
          · rw [if_neg z_t]
            obtain ⟨y1, y2⟩ := hY (by omega) (by omega)
            have hsame := holds_same (d := d) (by omega) (c2 rfl)
            -- it begins as the one before
            have hcc : (gRun T Rs nr 0 q0 (24 * d)).1 = (gRun T Rs nr 0 q0 (24 * (d - 1))).1 := by
              funext s
              have hcp := gRun_ok (Rs := Rs) (nr := nr) (t0 := 0) ht hk hc (24 * (d - 1))
              have hs10 := ht.2.1.1
              by_cases e1 : s < sN (tS T)
              · have := d2 rfl s (by omega)
                rw [y2 s (by omega), show σ 58 s = (gRun T Rs nr 0 q0 (24 * d)).1 s from (hB.2.2.1 s e1).2] at this
                exact this
              · rw [hcd.2 s (by omega), hcp.2 s (by omega)]
            have gp := gday (T := T) (Rs := Rs) (nr := nr) (q0 := q0) (d - 1) 24 (Nat.le_refl _)
            rw [show 24 * (d - 1) + 24 = 24 * d by omega] at gp
            have hdy : dyS T (LwD Rs nr d) false (gRun T Rs nr 0 q0 (24 * d)).1 24 = dyS T (LwD Rs nr (d - 1)) false (gRun T Rs nr 0 q0 (24 * (d - 1))).1 24 := by
              rw [hcc]
              show dyS T (lwO (holds Rs nr d)) _ _ _ = _
              rw [hsame]
            rw [hH24] at gd hH3
            unfold s_X10_dryAgain_91
            rw [if_neg (by decide), lt_eq, y1, ← hdy, nadd, ← gd.2, hH3, show nI d + 1 = nI (d + 1) from nI_1 d]
            refine ih (d + 1) k _ σ (by omega) (by omega) ?_ (fun _ h2 => ?_)
            · rw [← hH3, gd.1, hdy, ← gp.1]
              exact hB
            · rw [show d + 1 - 1 = d by omega]
              exact ⟨rfl, fun s hs => by rw [hcc]; exact y2 s hs⟩
        · rw [if_neg z_t]
          exact full
      · rw [if_neg (by rw [show (24 : Int32) = nI 24 from rfl, neq (by omega) (by omega)]; exact hH24)]
        exact full
theorem mbe_loop {n now nr : Nat} {T : Tn} {Rs : Nat → Rl} {q0 : Gs} (hn : 300000 ≤ n) (ht : tok T) (hk : kOk Rs nr) (hc : cok (tS T) q0.1) (h0 : q0.2.2.2.2.2.2 = 0) (hnow : now ≤ 4800) : ∀ (e j f : Nat) (σ : Sg), j + e = now → e < f → σ 71 0 = nI now → mGo T Rs nr (gRun T Rs nr 0 q0 j) σ → ∃ τ, s_X12_beside_51 n f (nI (gRun T Rs nr 0 q0 j).2.2.2.2.2.2) (nI j) σ = (bdv (s_X12_keepAll n (1 : Int32) (up2 τ 71 50 (-1))) fun σ10 => some (nI (gRun T Rs nr 0 q0 now).2.2.2.2.2.2, σ10)) ∧ ∀ o j, fok (W_X12_findRules ++ W_X12_doHour) o j = true → τ o j = σ o j := by
  intro e
  induction e with
  | zero =>
    intro j f σ hj hf h7 h
    obtain ⟨f, rfl⟩ : ∃ k', f = k' + 1 := ⟨f - 1, by omega⟩
    have hj : j = now := by omega
    subst hj
    refine ⟨σ, ?_, fun _ _ _ => rfl⟩
    show s_X12_beside_51b n _ _ _ _ = _
    unfold s_X12_beside_51b
    rw [h7, if_pos (Int32.le_refl _), lt_eq]
  | succ e ih =>
    intro j f σ hj hf h7 h
    obtain ⟨f, rfl⟩ : ∃ k', f = k' + 1 := ⟨f - 1, by omega⟩
    obtain ⟨ρ, τ1, a1, a2, a3, a4, a5⟩ := mgo_step (n := n) (t := j) hn ht hk (gRun_ok ht hk hc j) (by omega) h
    have hle := gRun_le (T := T) (Rs := Rs) (nr := nr) (t0 := 0) (q0 := q0) j
    show ∃ τ, s_X12_beside_51b n (s_X12_beside_51 n f) _ _ _ = _ ∧ _
    unfold s_X12_beside_51b
    rw [h7, if_neg (by rw [nle (by omega) (by omega)]; omega), show (24 : Int32) = nI 24 from rfl, ndiv (by omega) (by omega), a1, bdv_so, show nI 24 = (24 : Int32) from rfl, irm24 (by omega), a2, bd_so, one_ok, bd_so, lt_eq, show nI j + 1 = nI (j + 1) from nI_1 j, zs, nadd]
    have e0 : gRun T Rs nr 0 q0 (j + 1) = gStep T (LwD Rs nr (j / 24)) (j % 24) (gRun T Rs nr 0 q0 j) := by rw [gRun_s, Nat.zero_add]
    have e1 : (gRun T Rs nr 0 q0 (j + 1)).2.2.2.2.2.2 = (gRun T Rs nr 0 q0 j).2.2.2.2.2.2 + if tD T (LwD Rs nr (j / 24)) false (j % 24) (gRun T Rs nr 0 q0 j).1 = true then 1 else 0 := by rw [e0]; rfl
    rw [← e1]
    obtain ⟨τ, t1, t2⟩ := ih (j + 1) f τ1 (by omega) (by omega) (by rw [a4 71 0 rfl]; exact h7) (by rw [e0]; exact a3)
    exact ⟨τ, t1, fun o j ho => (t2 o j ho).trans (a4 o j ho)⟩
/-- streets when what was kept aside is back -/
theorem iS_kb {S : Str} {K : Knd} {σ τ : Sg} (h : iS S K σ) (f : ∀ o j, fok [(86, none), (88, none), (89, none), (90, none), (91, none), (92, none)] o j = true → sup gS o j = true → τ o j = σ o j) (hb : ∀ t, t < 10 → (∀ o, 88 ≤ o → o ≤ 92 → τ o t = σ o t) ∧ τ 86 t = vp_nar .boolean (vp_nar .boolean (σ 86 t))) : iS S K τ := by
  obtain ⟨h1, h2, h3, h4, h5, h6, h7, h8, h9⟩ := h
  have h10 := h1.1
  refine ⟨h1, h2, ⟨by rw [f 11 0 rfl rfl]; exact h3.1, fun s hs => ?_⟩, ⟨by rw [f 71 11 rfl rfl]; exact h4.1, fun s hs => ?_⟩, fun s hs => ?_, fun s hs => ?_, fun s hs => ?_, fun s a b => ?_, fun s hs => ?_⟩
  · rw [f 12 s rfl rfl, f 14 s rfl rfl, f 15 s rfl rfl, f 16 s rfl rfl]; exact h3.2 s hs
  · rw [f 81 s rfl rfl, f 82 s rfl rfl, f 83 s rfl rfl, f 84 s rfl rfl, f 85 s rfl rfl]; exact h4.2 s hs
  · show τ 23 s = _ ∧ τ 24 s = _
    rw [f 23 s rfl rfl, f 24 s rfl rfl]; exact h5 s hs
  · have q := hb s (by omega)
    rw [q.2, q.1 88 (by omega) (by omega), (h6 s hs).1, nar_b, nar_b]
    exact ⟨rfl, (h6 s hs).2⟩
  · rw [f 13 s rfl rfl, f 82 s rfl rfl]; exact h7 s hs
  · rw [f 24 s rfl rfl, (hb s b).1 88 (by omega) (by omega)]; exact h8 s a b
  · have q := (hb s hs).1
    rw [f 17 s rfl rfl, f 18 s rfl rfl, f 19 s rfl rfl, f 20 s rfl rfl, f 21 s rfl rfl, f 87 s rfl rfl, q 89 (by omega) (by omega), q 90 (by omega) (by omega), q 91 (by omega) (by omega), q 92 (by omega) (by omega)]; exact h9 s hs
theorem st_beside {n c : Nat} {x1 x2 : Int32} {σ : Sg} (hn : 300000 ≤ n) (h : Inv c σ) : wStp c (s_X11_beside n x1 x2) (s_X12_beside n x1 x2) σ := by
  obtain ⟨N, ma, mb, S, K, now, pu, Rs, nr, h⟩ := h
  have i2 : ∀ σ, s_X12_in n x2.toInt64 0 999 σ = some (zo (inb 0 x2 999), σ) := fun σ => inb_ok n x2 0 999 σ
  cases e1 : inb 0 x1 9
  · refine ⟨-1001, σ, σ, ?_, ?_, Inv_s h⟩
    · unfold s_X11_beside; rw [node11, bd_so, e1]; rfl
    · unfold s_X12_beside; rw [node12, bd_so, e1]; rfl
  cases e2 : inb 0 x2 999
  · refine ⟨-1002, σ, σ, ?_, ?_, Inv_s h⟩
    · unfold s_X11_beside; rw [node11, bd_so, e1, if_neg z_t, out_ok, bd_so, e2]; rfl
    · unfold s_X12_beside; rw [node12, bd_so, e1, if_neg z_t, i2, bd_so, e2]; rfl
  obtain ⟨a, rfl, _, ha⟩ := rng (a := 0) (c := 9) (by omega) (by omega) e1
  obtain ⟨sp, rfl, _, hsp⟩ := rng (a := 0) (c := 999) (by omega) (by omega) e2
  obtain ⟨h1, h2, h3, h4, h5, h6, h7, h8, h9, h10, h11⟩ := h
  obtain ⟨t1, t2, t3, t4, t5, t6⟩ := id h3
  have hs10 := h2.1.1
  have ht : tok (N, S, K.1, pu, a, nI sp) := ⟨h1.1, h2.1, fun h hh => (h4 h hh).2, by show a < 10; omega, by show 0 ≤ (nI sp).toInt; rw [ni_int (by omega)]; omega, by show (nI sp).toInt ≤ 999; rw [ni_int (by omega)]; omega⟩
  have hq : cok S (fun _ => 0) := cok_0 h2.1
  -- the class
  obtain ⟨τ0, a1, a2, a3⟩ := startAs_ok (n := n) (σ := σ) (by omega)
  have hB : cBe (N, S, K.1, pu, a, nI sp) Rs nr (fun _ => 0) τ0 := by
    refine ⟨cN_of h1.2.1 (fun j => a3 3 j (by decide) (by decide)) (fun j => a3 4 j (by decide) (by decide)) (fun j => a3 5 j (by decide) (by decide)) (fun j => a3 6 j (by decide) (by decide)) (fun j => a3 7 j (by decide) (by decide)), ⟨by rw [a3 11 0 (by decide) (by decide)]; exact h2.2.2.1.1, fun s hs => by rw [a3 12 s (by decide) (by decide), a3 14 s (by decide) (by decide), a3 15 s (by decide) (by decide), a3 16 s (by decide) (by decide)]; exact h2.2.2.1.2 s hs⟩, fun s hs => ?_, fun s _ hs => (a2 s hs).2, fun x hx => by rw [a3 40 x (by decide) (by decide)]; exact (h4 x hx).1.1, cR_of h6.1 (fun o j ho => a3 o j (by omega) (by omega)), cCa_of h7.2.1 (fun j => a3 62 j (by decide) (by decide)), by rw [a3 62 1 (by decide) (by decide)]; exact h7.2.2⟩
    have hs' : s < sN S := hs
    show τ0 57 s = _ ∧ τ0 58 s = _
    rw [(a2 s (by omega)).1, (a2 s (by omega)).2]
    exact ⟨(h2.2.2.2.2.1 s hs).1, rfl⟩
  obtain ⟨τ, b1, b2, b3⟩ := cbe_loop (n := n) (D := (now + 23) / 24) (now := now) (T := (N, S, K.1, pu, a, nI sp)) (Rs := Rs) (nr := nr) (q0 := (fun _ => 0, σ 89, σ 90, σ 91, σ 92, σ 71 25, 0)) hn ht h6.2.2 hq rfl t1 (by omega) (by omega) ((now + 23) / 24) 0 n 0 τ0 (by omega) (by omega) (by rw [if_pos (by omega)]; exact hB) (fun z => absurd z (Nat.lt_irrefl _))
  have c1 : s_X11_beside n (nI a) (nI sp) σ = some (nI (gRun (N, S, K.1, pu, a, nI sp) Rs nr 0 (fun _ => 0, σ 89, σ 90, σ 91, σ 92, σ 71 25, 0) now).2.2.2.2.2.2, τ) := by
    unfold s_X11_beside s_X10_dryAgain
    rw [node11, bd_so, e1, if_neg z_t, out_ok, bd_so, e2, if_pos z_nt, t2, a1, bdv_so]
    rw [if_pos (show 24 * 0 ≤ now by omega)] at b1
    have b1' : s_X10_dryAgain_17 n n (nI now) (nI a) (nI sp) 0 0 0 τ0 = some (nI (gRun (N, S, K.1, pu, a, nI sp) Rs nr 0 (fun _ => 0, σ 89, σ 90, σ 91, σ 92, σ 71 25, 0) now).2.2.2.2.2.2, τ) := b1
    rw [b1', bd_so]
  have fτ : ∀ o j, fok W_X11_beside o j = true → τ o j = σ o j := fun o j ho => fr_s_X11_beside ho _ _ _ c1
  -- the reference
  obtain ⟨ρ1, d1, d2, d3, d4⟩ := keep_save (n := n) (σ := τ) (by omega)
  obtain ⟨ρ2, k1, k2, k3⟩ := empty_go (n := n) hs10 (sN S) 0 n ρ1 (by omega) (by omega) (by rw [d4 71 11 (by decide) (by decide), fτ 71 11 rfl]; exact h2.2.2.2.1.1) (fun t ht => absurd ht (Nat.not_lt_zero _))
  have k1' : s_X12_emptyAll n ρ1 = some ρ2 := k1
  have g : ∀ o j, o ≠ 88 → o ≠ 109 → o ≠ 110 → (o = 71 → j ≠ 50 ∧ j ≠ 51) → up2 (up2 ρ2 71 50 (nI a)) 71 51 (nI sp) o j = τ o j := fun o j p1 p2 p3 p4 => by
    by_cases e : o = 71
    · subst e
      have := p4 rfl
      simp only [up2_app, this.1, this.2, if_false, ite_self]
      rw [k3 71 j (.inl (by decide)), d4 71 j (by decide) (by decide)]
    · rw [up2_o e, up2_o e, k3 o j (.inl p1), d4 o j p2 p3]
  have g88 : ∀ s, sN S ≤ s → up2 (up2 ρ2 71 50 (nI a)) 71 51 (nI sp) 88 s = τ 88 s := fun s hs => by rw [up2_o (by decide), up2_o (by decide), k3 88 s (.inr hs), d4 88 s (by decide) (by decide)]
  have gτ : ∀ o j, o ≠ 88 → o ≠ 109 → o ≠ 110 → (o = 71 → j ≠ 50 ∧ j ≠ 51) → fok W_X11_beside o j = true → up2 (up2 ρ2 71 50 (nI a)) 71 51 (nI sp) o j = σ o j := fun o j p1 p2 p3 p4 p5 => (g o j p1 p2 p3 p4).trans (fτ o j p5)
  have h7n : ∀ {o : Nat}, o ≠ 71 → ∀ {j : Nat}, (o = 71 → j ≠ 50 ∧ j ≠ 51) := fun h _ z => absurd z h
  obtain ⟨ρ3, m1, m2⟩ := mbe_loop (n := n) (now := now) (T := (N, S, K.1, pu, a, nI sp)) (Rs := Rs) (nr := nr) (q0 := (fun _ => 0, σ 89, σ 90, σ 91, σ 92, σ 71 25, 0)) hn ht h6.2.2 hq rfl t1 now 0 n (up2 (up2 ρ2 71 50 (nI a)) 71 51 (nI sp)) (by omega) (by omega) (by rw [gτ 71 0 (by decide) (by decide) (by decide) (fun _ => by decide) rfl]; exact t3) (by
    obtain ⟨cn, cl, hmR⟩ := h6.2.1
    refine ⟨mN_of h1.2.2.1 (gτ 71 2 (by decide) (by decide) (by decide) (fun _ => by decide) rfl) (fun j => gτ 73 j (by decide) (by decide) (by decide) (h7n (by decide)) rfl) (fun j => gτ 74 j (by decide) (by decide) (by decide) (h7n (by decide)) rfl) (fun j => gτ 77 j (by decide) (by decide) (by decide) (h7n (by decide)) rfl) (fun j => gτ 78 j (by decide) (by decide) (by decide) (h7n (by decide)) rfl) (fun j => gτ 79 j (by decide) (by decide) (by decide) (h7n (by decide)) rfl), ⟨by rw [gτ 71 11 (by decide) (by decide) (by decide) (fun _ => by decide) rfl]; exact h2.2.2.2.1.1, fun s hs => ?_⟩, fun s hs => ?_, fun s p q => ?_, .inr ⟨by simp [up2_app], by simp [up2_app]⟩, fun x hx => ?_, ⟨cn, cl, mR_of hmR (gτ 71 26 (by decide) (by decide) (by decide) (fun _ => by decide) rfl) (fun o j p q => ?_)⟩, fun s hs => ?_, ?_⟩
    · rw [gτ 81 s (by decide) (by decide) (by decide) (h7n (by decide)) rfl, gτ 82 s (by decide) (by decide) (by decide) (h7n (by decide)) rfl, gτ 83 s (by decide) (by decide) (by decide) (h7n (by decide)) rfl, gτ 84 s (by decide) (by decide) (by decide) (h7n (by decide)) rfl, gτ 85 s (by decide) (by decide) (by decide) (h7n (by decide)) rfl]
      exact h2.2.2.2.1.2 s hs
    · rw [gτ 86 s (by decide) (by decide) (by decide) (h7n (by decide)) rfl, up2_o (by decide), up2_o (by decide), k2 s hs]
      exact ⟨(h2.2.2.2.2.2.1 s hs).1, rfl⟩
    · rw [g88 s p, fτ 88 s rfl]
      exact (h2.2.2.2.2.2.2.2.1 s p q).2
    · rw [gτ 72 x (by decide) (by decide) (by decide) (h7n (by decide)) rfl]; exact (h4 x hx).1.2
    · rcases (show o = 93 ∨ o = 94 ∨ o = 95 ∨ o = 96 ∨ o = 97 by omega) with rfl | rfl | rfl | rfl | rfl <;> exact gτ _ j (by decide) (by decide) (by decide) (h7n (by decide)) rfl
    · rw [gτ 89 s (by decide) (by decide) (by decide) (h7n (by decide)) rfl, gτ 90 s (by decide) (by decide) (by decide) (h7n (by decide)) rfl, gτ 91 s (by decide) (by decide) (by decide) (h7n (by decide)) rfl, gτ 92 s (by decide) (by decide) (by decide) (h7n (by decide)) rfl]
      exact ⟨rfl, rfl, rfl, rfl⟩
    · rw [gτ 71 25 (by decide) (by decide) (by decide) (fun _ => by decide) rfl]; rfl)
  have q109 : ∀ j, up2 ρ3 71 50 (-1) 109 j = ρ1 109 j := fun j => by rw [up2_o (by decide), m2 109 j rfl, up2_o (by decide), up2_o (by decide), k3 109 j (.inl (by decide))]
  have q110 : ∀ j, up2 ρ3 71 50 (-1) 110 j = ρ1 110 j := fun j => by rw [up2_o (by decide), m2 110 j rfl, up2_o (by decide), up2_o (by decide), k3 110 j (.inl (by decide))]
  obtain ⟨ρ4, n1, n2, n3⟩ := keep_back (n := n) (σ0 := τ) (σ := up2 ρ3 71 50 (-1)) (by omega) ⟨fun j p q => by rw [q109]; exact d2.1 j p q, fun t ht => by rw [q110]; exact d2.2 t ht⟩ (by rw [q109]; exact d3)
  have m1' : s_X12_beside_51 n n 0 0 (up2 (up2 ρ2 71 50 (nI a)) 71 51 (nI sp)) = (bdv (s_X12_keepAll n (1 : Int32) (up2 ρ3 71 50 (-1))) fun σ10 => some (nI (gRun (N, S, K.1, pu, a, nI sp) Rs nr 0 (fun _ => 0, σ 89, σ 90, σ 91, σ 92, σ 71 25, 0) now).2.2.2.2.2.2, σ10)) := m1
  have r1 : s_X12_beside n (nI a) (nI sp) τ = some (nI (gRun (N, S, K.1, pu, a, nI sp) Rs nr 0 (fun _ => 0, σ 89, σ 90, σ 91, σ 92, σ 71 25, 0) now).2.2.2.2.2.2, ρ4) := by
    unfold s_X12_beside
    rw [node12, bd_so, e1, if_neg z_t, i2, bd_so, e2, if_neg z_t, d1, bdv_so, k1', bdv_so, lt_eq, lt_eq, m1', n1, bdv_so]
  have fρ : ∀ o j, fok W_X12_beside o j = true → ρ4 o j = τ o j := fun o j ho => fr_s_X12_beside ho _ _ _ r1
  have f : ∀ o j, fok (W_X11_beside ++ W_X12_beside) o j = true → ρ4 o j = σ o j := fun o j ho => (fρ o j (fok_app ho).2).trans (fτ o j (fok_app ho).1)
  have f50 : ρ4 71 50 = -1 := by
    have : ρ4 71 50 = up2 ρ3 71 50 (-1) 71 50 := fr_s_X12_keepAll rfl _ _ n1
    rw [this]
    simp [up2_app]
  refine ⟨_, τ, ρ4, c1, r1, N, ma, mb, S, K, now, pu, Rs, nr, iN_of h1 (fr_sup rfl f), iS_kb h2 (fun o j p q => ?_) (fun t ht => ?_), ⟨t1, by rw [f 0 12 rfl]; exact t2, by rw [f 71 0 rfl]; exact t3, by rw [f 0 13 rfl, f 71 24 rfl]; exact t4, ?_, f50⟩, iP_of h4 (fr_sup rfl f), iX_of h5 (fr_sup rfl f), iR_of h6 (fr_sup rfl f), ⟨⟨cCa_of h7.1.1 (fun j => f 38 j rfl), by rw [f 38 1 rfl]; exact h7.1.2⟩, cCa_of b2 (fun j => fρ 62 j rfl), by rw [fρ 62 1 rfl]; exact b3⟩, iG_of h8 (fr_sup rfl f), iV_of h9 (fr_sup rfl f), iB_of h10 (fr_sup rfl f), iO_mono (iO_of h11 (fr_sup rfl f)) (Nat.le_succ c)⟩
  · refine f o j ?_
    have hd : disj gS ((W_X11_beside ++ W_X12_beside).filter (fun w => !(w.1 == 86 || (88 ≤ w.1 && w.1 ≤ 92)))) = true := by decide
    have s1 := sup_fok hd q
    refine List.all_eq_true.mpr (fun w hw => ?_)
    by_cases e : (!(w.1 == 86 || (88 ≤ w.1 && w.1 ≤ 92))) = true
    · exact List.all_eq_true.mp s1 w (List.mem_filter.mpr ⟨hw, e⟩)
    · have hne : w.1 ≠ o := by
        have p86 := fok_a p (show (86, none) ∈ _ by decide)
        have p88 := fok_a p (show (88, none) ∈ _ by decide)
        have p89 := fok_a p (show (89, none) ∈ _ by decide)
        have p90 := fok_a p (show (90, none) ∈ _ by decide)
        have p91 := fok_a p (show (91, none) ∈ _ by decide)
        have p92 := fok_a p (show (92, none) ∈ _ by decide)
        have e' : ¬ w.1 = 86 → 88 ≤ w.1 ∧ w.1 ≤ 92 := by simpa using e
        intro z
        by_cases e2 : w.1 = 86
        · omega
        · have := e' e2
          omega
      simp [hne]
  · have q := n2 t ht
    refine ⟨fun o p1 p2 => ?_, ?_⟩
    · rw [q.1 o p1 p2]
      exact fτ o t (by rcases (show o = 88 ∨ o = 89 ∨ o = 90 ∨ o = 91 ∨ o = 92 by omega) with rfl | rfl | rfl | rfl | rfl <;> rfl)
    · rw [q.2, fτ 86 t rfl]
  · rw [f 0 14 rfl, n3, fτ 71 25 rfl]; exact t5
