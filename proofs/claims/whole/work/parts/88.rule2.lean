/-! ===== rule: the call ===== -/
abbrev Wr1 : List (Nat × Option Nat) := [(25, some 0), (25, some 1), (25, some 3), (25, some 4), (25, some 5), (25, some 6), (25, some 7), (29, none), (30, none), (31, none), (32, none), (33, none), (34, none), (35, none), (36, none)]
theorem Wr1_lc {o j nr : Nat} (hnr : nr < 8) (h : fok Wr1 o j = true) : o ≠ 29 + nr ∧ fok W_X5_read o j = true := by
  refine ⟨?_, fok_sub h (by decide)⟩
  have a0 := fok_a h (show (29, none) ∈ _ by decide)
  have a1 := fok_a h (show (30, none) ∈ _ by decide)
  have a2 := fok_a h (show (31, none) ∈ _ by decide)
  have a3 := fok_a h (show (32, none) ∈ _ by decide)
  have a4 := fok_a h (show (33, none) ∈ _ by decide)
  have a5 := fok_a h (show (34, none) ∈ _ by decide)
  have a6 := fok_a h (show (35, none) ∈ _ by decide)
  have a7 := fok_a h (show (36, none) ∈ _ by decide)
  omega
theorem draft_ok {n nr : Nat} {σ : Sg} (hnr : nr < 8) (h : σ 27 0 = nI nr) : s_X6_draft n σ = some (29 + nr, σ) := by
  unfold s_X6_draft
  have e : imin (nI nr) 7 = nI nr := by
    unfold imin
    rw [if_neg (by rw [show (7 : Int32) = nI 7 from rfl, nlt (by omega) (by omega)]; omega)]
  rw [h, e, ck_n hnr (by omega), ix_n (by omega), rf28 nr hnr]
theorem st_rule {n c : Nat} {x1 : Int32} {σ : Sg} (hn : 300000 ≤ n) (hc : c < 600) (h : Inv c σ) : wStp c (s_X11_rule n x1) (s_X12_rule n x1) σ := by
  obtain ⟨N, ma, mb, S, K, now, pu, Rs, nr, h⟩ := h
  obtain ⟨h1, h2, h3, h4, h5, h6, h7, h8, h9, h10, h11⟩ := id h
  obtain ⟨cn, cl, hmR⟩ := h6.2.1
  have hcR := h6.1
  have h27 : σ 27 0 = nI nr := hcR.2.1
  have h26 : σ 71 26 = nI nr := hmR.2.1
  have hnr8 := hcR.1
  cases e1 : inb 0 x1 199
  · refine ⟨-1002, σ, σ, ?_, ?_, Inv_s h⟩
    · unfold s_X11_rule; rw [out_ok, bd_so, e1]; rfl
    · unfold s_X12_rule; rw [day12, bd_so, e1]; rfl
  by_cases hnr : nr < 8
  · obtain ⟨d, rfl, _, hd⟩ := rng (a := 0) (c := 199) (by omega) (by omega) e1
    obtain ⟨hx1, len, hlen, hx0, hx33, hxt⟩ := h5
    -- the text
    have ht : txok (len, fun i => ix (σ 98 i)) := ⟨hlen, fun i hi => by
      obtain ⟨_, c, c1, c2⟩ := hxt i hi
      show ix (σ 98 i) < 256
      rw [c2, ix_n (by omega)]
      exact c1⟩
    have ht98 : ∀ i, i < len → σ 98 i = nI (ix (σ 98 i)) := fun i hi => by
      obtain ⟨_, c, c1, c2⟩ := hxt i hi
      rw [c2, ix_n (by omega)]
    generalize ht0 : ((len, fun i => ix (σ 98 i)) : Tx) = t at *
    have htl : t.1 = len := by rw [← ht0]
    have ht2 : ∀ i, i < len → σ 98 i = nI (t.2 i) := fun i hi => by rw [← ht0]; exact ht98 i hi
    have hl5 : 29 + nr ≠ 25 := by omega
    have hl6 : 29 + nr ≠ 26 := by omega
    -- the class reads
    obtain ⟨σ4, s1, s2, s3⟩ := sayN_ok (n := n) (lc := 29 + nr) (σ := up2 (up2 (up2 σ 25 4 0) 25 3 0) 25 1 (-1))
    have rd0 : rd t 0 σ4 := by
      refine ⟨⟨?_, fun i hi => ?_⟩, ?_, ?_, ?_⟩
      · rw [s3 25 0 (Ne.symm hl5), htl]; simp [up2_app]; exact hx0
      · rw [htl] at hi
        rw [s3 26 i (Ne.symm hl6), up2_o (by decide), up2_o (by decide), up2_o (by decide), (hxt i hi).1]
        exact ht2 i hi
      · rw [s3 25 4 (Ne.symm hl5)]; simp [up2_app]; rfl
      · rw [s3 25 3 (Ne.symm hl5)]; simp [up2_app]
      · rw [s3 25 1 (Ne.symm hl5)]; simp [up2_app]
    obtain ⟨r, τ, b1, b2, b3, b4⟩ := read_go (n := n) (lc := 29 + nr) (nr := nr) hn ht hl5 hl6 hnr8 10 0 [] n σ4 rfl (by simp) (by omega) (Nat.zero_le _) rd0 (fun c hc => by cases hc) s2
    have eread : s_X5_read n (nI nr) (29 + nr) σ = some (r, τ) := by
      unfold s_X5_read
      rw [lt_eq, lt_eq, lt_eq, s1, bdv_so]
      exact b1
    have fτ : ∀ o j, o ≠ 29 + nr → fok W_X5_read o j = true → τ o j = σ o j := fun o j p1 p2 => fr_s_X5_read p2 _ _ _ p1 eread
    -- the reference reads
    have mref : ∀ ρ0 : Sg, ρ0 71 26 = nI nr → ρ0 71 33 = nI len → (∀ i, i < len → ρ0 98 i = σ 98 i) → ∃ m τ2, s_X12_rule n (nI d) ρ0 = s_X12_rule_128 n (nI d) (nI m) τ2 ∧ (∀ q, pRule t nr 10 0 [] = .inl q → mfl q τ2) ∧ (∀ cs', pRule t nr 10 0 [] = .inr cs' → m = cs'.length ∧ τ2 71 35 = 0 ∧ τ2 71 36 = -1 ∧ mcs nr cs' τ2) ∧ τ2 71 26 = nI nr ∧ ∀ o j, o ≠ 71 → ((o ≠ 95 ∧ o ≠ 96 ∧ o ≠ 97) ∨ j < 8 * nr) → τ2 o j = ρ0 o j := by
      intro ρ0 q26 q33 q98
      obtain ⟨m, τ2, i1, i2, i3, i4, i5⟩ := mrule_go (n := n) (nr := nr) (t := t) (x1 := nI d) hn ht hnr 10 0 [] n (up2 (up2 (up2 ρ0 71 34 0) 71 35 0) 71 36 (-1)) rfl (by simp) (by omega) (Nat.zero_le _) (by simp [up2_app]; exact q26) (by
        refine ⟨⟨by rw [htl]; simp [up2_app]; exact q33, fun i hi => ?_⟩, by simp [up2_app]; rfl, by simp [up2_app], by simp [up2_app]⟩
        rw [htl] at hi
        rw [up2_o (by decide), up2_o (by decide), up2_o (by decide), q98 i hi]
        exact ht2 i hi) (fun i c hc => by cases hc)
      refine ⟨m, τ2, ?_, i2, i3, i4, fun o j p1 p2 => by rw [i5 o j p1 p2, up2_o p1, up2_o p1, up2_o p1]⟩
      unfold s_X12_rule
      rw [day12, bd_so, e1, if_neg z_t, q26, if_neg (by rw [show (8 : Int32) = nI 8 from rfl, neq (by omega) (by omega)]; omega), lt_eq, lt_eq, lt_eq]
      exact i1
    have f98 : ∀ j, τ 98 j = σ 98 j := fun j => fτ 98 j (by omega) rfl
    have cls : ∀ X, (if r = 0 then (lt (up2 τ 0 15 ((τ 0 15) + (1 : Int32))) fun σ7 => bd (s_X6_enact n (nI d) σ7) fun r9 σ8 => some (r9, σ8)) else (some ((-10 : Int32) - r, τ))) = X → s_X11_rule n (nI d) σ = X := by
      intro X hX
      unfold s_X11_rule
      rw [out_ok, bd_so, e1, if_pos z_nt, h27, if_pos (by rw [show (8 : Int32) = nI 8 from rfl, nlt (by omega) (by omega)]; exact hnr), draft_ok hnr h27, bdr_some, eread, bd_so]
      exact hX
    cases hP : pRule t nr 10 0 [] with
    | inl q =>
      obtain ⟨g0, g1, g2⟩ := b3 q hP
      have hr0 : ¬ r = 0 := by rw [g1, show (0 : Int32) = nI 0 from rfl, neq (by omega) (by omega)]; omega
      obtain ⟨m, τ2, i1, i2, i3, i4, i5⟩ := mref τ (by rw [fτ 71 26 (by omega) rfl]; exact h26) (by rw [fτ 71 33 (by omega) rfl]; exact hx33) (fun i _ => f98 i)
      have hq := i2 q hP
      have e2 : s_X12_rule n (nI d) τ = some (-10 - r, up2 τ2 71 33 0) := by
        rw [i1]
        unfold s_X12_rule_128
        rw [lt_eq, up2_app, if_pos rfl, if_neg (show ¬ (35 : Nat) = 33 by decide), hq.2.1, if_neg (by rw [show (0 : Int32) = nI 0 from rfl, nle (by omega) (by omega)]; omega), g1]
      have fρ : ∀ o j, fok W_X12_rule o j = true → up2 τ2 71 33 0 o j = τ o j := fun o j ho => fr_s_X12_rule ho _ _ e2
      have f : ∀ o j, fok (Wr1 ++ W_X12_rule) o j = true → up2 τ2 71 33 0 o j = σ o j := fun o j ho => by
        have w := Wr1_lc hnr (fok_app ho).1
        rw [fρ o j (fok_app ho).2, fτ o j w.1 w.2]
      refine ⟨_, τ, _, cls _ (if_neg hr0), e2, Inv_s ⟨iN_of h1 (fr_sup rfl f), iS_of h2 (fr_sup rfl f), iT_of h3 (fr_sup rfl f), iP_of h4 (fr_sup rfl f), ⟨?_, 0, by omega, ?_, ?_, fun i hi => absurd hi (Nat.not_lt_zero _)⟩, ⟨cR_dr hcR (fun o j ho => ?_), ⟨cn, cl, mR_dr hmR ?_ (fun r hr => ?_) (fun j hj => ?_)⟩, h6.2.2⟩, iC_of h7 (fr_sup rfl f), iG_of h8 (fr_sup rfl f), iV_of h9 (fr_sup rfl f), iB_of h10 (fr_sup rfl f), iO_of h11 (fr_sup rfl f)⟩⟩
      · rw [fρ 25 1 rfl, g2, up2_app, if_pos rfl, if_neg (by decide), hq.2.2]
      · rw [fρ 25 0 rfl]; exact b2
      · simp [up2_app]; rfl
      · have ho2 : o ≠ 29 + nr ∧ fok W_X5_read o j = true ∧ fok W_X12_rule o j = true := by
          rcases (show o = 27 ∨ o = 37 ∨ o = 29 ∨ o = 30 ∨ o = 31 ∨ o = 32 ∨ o = 33 ∨ o = 34 ∨ o = 35 by omega) with z | z | z | z | z | z | z | z | z <;> (refine ⟨by omega, ?_, ?_⟩ <;> (rw [z]; rfl))
        rw [fρ o j ho2.2.2, fτ o j ho2.1 ho2.2.1]
      · rw [up2_app, if_pos rfl, if_neg (by decide), i4, h26]
      · rw [up2_o (by decide), up2_o (by decide), i5 93 r (by decide) (.inl ⟨by decide, by decide, by decide⟩), i5 94 r (by decide) (.inl ⟨by decide, by decide, by decide⟩)]
        exact ⟨fτ 93 r (by omega) rfl, fτ 94 r (by omega) rfl⟩
      · rw [up2_o (by decide), up2_o (by decide), up2_o (by decide), i5 95 j (by decide) (.inr hj), i5 96 j (by decide) (.inr hj), i5 97 j (by decide) (.inr hj)]
        exact ⟨fτ 95 j (by omega) rfl, fτ 96 j (by omega) rfl, fτ 97 j (by omega) rfl⟩
    | inr cs =>
      obtain ⟨g0, g1, g2, g3, g4⟩ := b4 cs hP
      obtain ⟨li1, li2⟩ := lz_i g3
      -- the rules with the new one
      have hday : ∀ r, r < nr → (if r = nr then rlO d (lzF cs) else Rs r) = Rs r := fun r hr => if_neg (by omega)
      have hnew : (fun r => if r = nr then rlO d (lzF cs) else Rs r) nr = rlO d (lzF cs) := if_pos rfl
      generalize hRs : (fun r => if r = nr then rlO d (lzF cs) else Rs r) = Rs' at *
      have hold : ∀ r, r < nr → Rs' r = Rs r := fun r hr => by rw [← hRs]; exact if_neg (by omega)
      have hrow : rowR Rs' nr = rowR Rs nr := rowR_congr (fun r hr => by rw [hold r hr])
      have e27 : τ 27 0 = nI nr := by rw [fτ 27 0 (by omega) rfl]; exact h27
      -- it is enacted
      have k27 : up2 (up2 τ 0 15 (τ 0 15 + 1)) (29 + nr) 0 (nI d) 27 0 = nI nr := by rw [up2_o (by omega), up2_o (by decide)]; exact e27
      obtain ⟨τe, n1, n2, n3, n4⟩ := enact_go (n := n) (nr := nr) (d := d) (Rs := Rs') (l := rowR Rs nr) hnr (by omega) (by rw [hnew]; rfl) (rowR_len Rs nr) (fun t ht => rowR_lt ht) nr n (up2 (up2 τ 0 15 (τ 0 15 + 1)) (29 + nr) 0 (nI d)) (by rw [rowR_len]; exact Nat.le_refl _) (by omega) k27 (fun u hu => by
          rw [hold u hu, up2_o (by omega), up2_o (by omega), fτ (29 + u) 0 (by omega) (by
            rcases (show u = 0 ∨ u = 1 ∨ u = 2 ∨ u = 3 ∨ u = 4 ∨ u = 5 ∨ u = 6 ∨ u = 7 by omega) with z | z | z | z | z | z | z | z <;> (rw [z]; rfl))]
          exact ⟨(hcR.2.2.1 u hu).1, (hcR.2.2.1 u hu).2.1⟩) (by
        have hl := rowR_len Rs nr
        have := arH_0 (l := rowR Rs nr) (f := up2 (up2 τ 0 15 (τ 0 15 + 1)) (29 + nr) 0 (nI d) 37) (fun i hi => by
          rw [hl] at hi ⊢
          obtain ⟨v, v1, v2⟩ := hcR.2.2.2 i hi
          exact ⟨v, v1, by rw [up2_o (by omega), up2_o (by decide), fτ 37 i (by omega) rfl]; exact v2⟩)
        rw [hl] at this
        exact this) (fun j t hj => by rw [rowR_len] at hj; omega)
      have fe : ∀ o j, o ≠ 37 → (o = 27 → j ≠ 0) → o ≠ 29 + nr → (o = 0 → j ≠ 15) → τe o j = τ o j := fun o j p1 p2 p3 p4 => by
        rw [n4 o j p1 p2, up2_o p3]
        by_cases z : o = 0
        · subst z; rw [up2_app, if_pos rfl, if_neg (p4 rfl)]
        · exact up2_o z
      have eC : s_X11_rule n (nI d) σ = some (nI nr, τe) := by
        refine cls _ ?_
        rw [if_pos g0, lt_eq]
        unfold s_X6_enact
        rw [draft_ok hnr (show up2 τ 0 15 (τ 0 15 + 1) 27 0 = nI nr by rw [up2_o (by decide)]; exact e27), bdr_some, lt_eq, k27, lt_eq, n1, bd_so]
      -- the reference
      have e26 : τe 71 26 = nI nr := by rw [fe 71 26 (by decide) (fun z => absurd z (by decide)) (by omega) (fun z => absurd z (by decide)), fτ 71 26 (by omega) rfl]; exact h26
      obtain ⟨m, τ2, i1, i2, i3, i4, i5⟩ := mref τe e26 (by rw [fe 71 33 (by decide) (fun z => absurd z (by decide)) (by omega) (fun z => absurd z (by decide)), fτ 71 33 (by omega) rfl]; exact hx33) (fun i _ => by rw [fe 98 i (by decide) (fun z => absurd z (by decide)) (by omega) (fun z => absurd z (by decide)), f98])
      obtain ⟨m1, m2, m3, m4⟩ := i3 cs hP
      have eM : s_X12_rule n (nI d) τe = some (nI nr, up2 (up2 (up2 (up2 τ2 71 33 0) 94 nr (nI m)) 93 nr (nI d)) 71 26 (nI nr + 1)) := by
        rw [i1]
        unfold s_X12_rule_128
        have q26 : ∀ (ρ : Sg) (o j : Nat) (v : Int32), o ≠ 71 → up2 ρ o j v 71 26 = ρ 71 26 := fun ρ o j v ho => up2_o (Ne.symm ho)
        have q26' : up2 τ2 71 33 0 71 26 = nI nr := by rw [up2_app, if_pos rfl, if_neg (by decide)]; exact i4
        rw [lt_eq, up2_app, if_pos rfl, if_neg (show ¬ (35 : Nat) = 33 by decide), m2, if_pos (Int32.le_refl _)]
        simp (disch := omega) only [q26, q26', ck_n, ix_n, lt_eq]
        have kk : ∀ ρ : Sg, up2 ρ 71 26 (nI nr + 1) 71 26 - (1 : Int32) = nI nr := fun ρ => by
          rw [up2_app, if_pos rfl, if_pos rfl, nI_1, show (1 : Int32) = nI 1 from rfl, nsub (by omega)]
          rfl
        rw [kk]
      generalize hρ : up2 (up2 (up2 (up2 τ2 71 33 0) 94 nr (nI m)) 93 nr (nI d)) 71 26 (nI nr + 1) = ρ at *
      have fρ : ∀ o j, fok W_X12_rule o j = true → ρ o j = τe o j := fun o j ho => fr_s_X12_rule ho _ _ eM
      have f : ∀ o j, fok ([(0, some 15), (27, some 0), (37, none)] ++ (Wr1 ++ W_X12_rule)) o j = true → ρ o j = σ o j := fun o j ho => by
        have w0 := (fok_app ho).1
        have w1 := fok_app (fok_app ho).2
        have w := Wr1_lc hnr w1.1
        have p27 : o = 27 → j ≠ 0 := fun z => by
          rcases fok_mem w0 (show (27, some 0) ∈ _ by decide) with q | ⟨k, q1, q2⟩
          · exact absurd z q
          · cases q1; exact q2
        have p0 : o = 0 → j ≠ 15 := fun z => by
          rcases fok_mem w0 (show (0, some 15) ∈ _ by decide) with q | ⟨k, q1, q2⟩
          · exact absurd z q
          · cases q1; exact q2
        rw [fρ o j w1.2, fe o j (fok_a w0 (by decide)) p27 w.1 p0, fτ o j w.1 w.2]
      have rho95 : ∀ o j, o = 95 ∨ o = 96 ∨ o = 97 → ρ o j = τ2 o j := fun o j ho => by rw [← hρ, up2_o (by omega), up2_o (by omega), up2_o (by omega), up2_o (by omega)]
      have tauL : ∀ j, j ≠ 0 → ρ (29 + nr) j = τ (29 + nr) j := fun j hj => by
        have w : fok W_X12_rule (29 + nr) j = true := by
          rcases (show nr = 0 ∨ nr = 1 ∨ nr = 2 ∨ nr = 3 ∨ nr = 4 ∨ nr = 5 ∨ nr = 6 ∨ nr = 7 by omega) with z | z | z | z | z | z | z | z <;> (rw [z]; rfl)
        rw [fρ (29 + nr) j w, n4 (29 + nr) j (by omega) (fun z => by omega), up2_app, if_pos rfl, if_neg hj, up2_o (by omega)]
      have tauL0 : ρ (29 + nr) 0 = nI d := by
        have w : fok W_X12_rule (29 + nr) 0 = true := by
          rcases (show nr = 0 ∨ nr = 1 ∨ nr = 2 ∨ nr = 3 ∨ nr = 4 ∨ nr = 5 ∨ nr = 6 ∨ nr = 7 by omega) with z | z | z | z | z | z | z | z <;> (rw [z]; rfl)
        rw [fρ (29 + nr) 0 w, n4 (29 + nr) 0 (by omega) (fun z => by omega), up2_app, if_pos rfl, if_pos rfl]
      have oldL : ∀ r, r < nr → ∀ j, ρ (29 + r) j = σ (29 + r) j := fun r hr j => by
        have w : fok W_X12_rule (29 + r) j = true ∧ fok W_X5_read (29 + r) j = true := by
          rcases (show r = 0 ∨ r = 1 ∨ r = 2 ∨ r = 3 ∨ r = 4 ∨ r = 5 ∨ r = 6 ∨ r = 7 by omega) with z | z | z | z | z | z | z | z <;> (rw [z]; exact ⟨rfl, rfl⟩)
        rw [fρ (29 + r) j w.1, fe (29 + r) j (by omega) (fun z => by omega) (by omega) (fun z => by omega), fτ (29 + r) j (by omega) w.2]
      obtain ⟨l1, l2, l3, l4, l5, l6, l7⟩ := g4
      refine ⟨nI nr, τe, ρ, eC, eM, N, ma, mb, S, K, now, pu, Rs', nr + 1, iN_of h1 (fr_sup rfl f), iS_of h2 (fr_sup rfl f), iT_of h3 (fr_sup rfl f), iP_of h4 (fr_sup rfl f), ⟨?_, 0, by omega, ?_, ?_, fun i hi => absurd hi (Nat.not_lt_zero _)⟩, ⟨⟨by omega, ?_, fun r hr => ?_, fun i hi => ?_⟩, ⟨fun r => if r = nr then cs.length else cn r, fun r => if r = nr then (fun i => ((cs.getD i (0, 0, 0)).1, (cs.getD i (0, 0, 0)).2.1, ρ 97 (8 * nr + i))) else cl r, by omega, ?_, fun r hr => ?_⟩, fun r hr => ?_⟩, ⟨⟨fun d' _ _ z => ?_, ?_⟩, fun d' _ _ z => ?_, ?_⟩, iG_of h8 (fr_sup rfl f), iV_of h9 (fr_sup rfl f), iB_of h10 (fr_sup rfl f), iO_up (by omega) h11 ?_ (f 51 10 rfl)⟩
      · have q1 : ρ 71 36 = -1 := by rw [← hρ, up2_app, if_pos rfl, if_neg (by decide), up2_o (by decide), up2_o (by decide), up2_app, if_pos rfl, if_neg (by decide)]; exact m3
        rw [q1, fρ 25 1 rfl, fe 25 1 (by decide) (fun z => absurd z (by decide)) (Ne.symm hl5) (fun z => absurd z (by decide))]
        exact g1
      · rw [fρ 25 0 rfl, fe 25 0 (by decide) (fun z => absurd z (by decide)) (Ne.symm hl5) (fun z => absurd z (by decide))]
        exact b2
      · rw [← hρ, up2_app, if_pos rfl, if_neg (by decide), up2_o (by decide), up2_o (by decide), up2_app, if_pos rfl, if_pos rfl]; rfl
      · rw [fρ 27 0 rfl]; exact n3
      · by_cases z : r = nr
        · rw [z, hnew]
          rw [tauL0, tauL 2 (by decide), tauL 3 (by decide), tauL 4 (by decide), tauL 5 (by decide), tauL 6 (by decide), tauL 7 (by decide), tauL 8 (by decide)]
          refine ⟨by show d < 200; omega, rfl, l1, l2, l3, l4, l5, l6, fun i hi => ?_⟩
          rw [l7 i hi]
          show _ = (decide (i < 8) && _)
          rw [decide_eq_true hi, Bool.true_and]
        · have hr2 : r < nr := by omega
          have q := oldL r hr2
          rw [hold r hr2, q, q, q, q, q, q, q, q]
          exact hcR.2.2.1 r hr2
      · have hlen2 : (insR Rs' nr (rowR Rs nr)).length = nr + 1 := by rw [insR_len, rowR_len]
        obtain ⟨v, v1, v2⟩ := n2 i (by rw [hlen2]; exact hi)
        rw [hlen2] at v1
        refine ⟨v, ?_, by rw [fρ 37 i rfl]; exact v2⟩
        show (insR Rs' nr (rowR Rs' nr))[_]? = _
        rw [hrow]
        exact v1
      · rw [← hρ, up2_app, if_pos rfl, if_pos rfl]; exact nI_1 nr
      · by_cases z : r = nr
        · subst z
          dsimp only
          rw [hnew, if_pos rfl, if_pos rfl]
          have hget : ∀ i c, cs[i]? = some c → cs.getD i (0, 0, 0) = c := fun i c hc => by rw [List.getD_eq_getElem?_getD, hc]; rfl
          have hgi : ∀ i, i < cs.length → ∃ c, cs[i]? = some c ∧ c ∈ cs ∧ cs.getD i (0, 0, 0) = c := fun i hi => ⟨cs[i], List.getElem?_eq_getElem hi, List.getElem_mem hi, hget i _ (List.getElem?_eq_getElem hi)⟩
          refine ⟨by show d < 200; omega, ?_, ?_, ⟨g2, fun i hi => ?_, ?_, fun i hi h4' => ?_, fun s hs => ?_⟩, fun i hi => ?_⟩
          · rw [← hρ, up2_o (by decide), up2_app, if_pos rfl, if_pos rfl]; rfl
          · rw [← hρ, up2_o (by decide), up2_o (by decide), up2_app, if_pos rfl, if_pos rfl, m1]
          · obtain ⟨c, c1, c2, c3⟩ := hgi i hi
            show (cs.getD i (0, 0, 0)).1 ≤ 4
            rw [c3]
            exact (g3 c c2).1
          · refine lz_foll (nr := r) g3 (fun i c hc => ?_)
            have hlt := (List.getElem?_eq_some_iff.mp hc).1
            show (cs.getD i (0, 0, 0)).1 = c.1 ∧ (cs.getD i (0, 0, 0)).2.1 = c.2.1 ∧ (c.1 ≤ 1 → ρ 97 (8 * r + i) = c.2.2)
            rw [hget i c hc, rho95 97 _ (.inr (.inr rfl))]
            exact ⟨rfl, rfl, (m4 i c hc).2.2⟩
          · obtain ⟨c, c1, c2, c3⟩ := hgi i hi
            have h4'' : (cs.getD i (0, 0, 0)).1 = 4 := h4'
            rw [c3] at h4''
            obtain ⟨a, a1, a2⟩ := (g3 c c2).2.2.2 h4''
            refine ⟨a, a1, by show (cs.getD i (0, 0, 0)).2.1 = _; rw [c3]; exact a2, ?_⟩
            show (decide (a < 8) && _) = true
            rw [decide_eq_true (by omega), Bool.true_and]
            exact (li2 a).mpr ⟨c, c2, h4'', a2⟩
          · have hs' : (decide (s < 8) && (lzF cs).2.2.2.2.2.2 s) = true := hs
            rw [Bool.and_eq_true, decide_eq_true_eq] at hs'
            obtain ⟨c, c1, c2, c3⟩ := (li2 s).mp hs'.2
            obtain ⟨a, a1, a2⟩ := (g3 c c1).2.2.2 c2
            have has : a = s := by
              rw [c3, neq (by omega) (by omega)] at a2
              exact a2.symm
            obtain ⟨i, hi, hic⟩ := List.mem_iff_getElem.mp c1
            refine ⟨by omega, i, hi, ?_, ?_⟩
            · show (cs.getD i (0, 0, 0)).1 = 4
              rw [hget i c (by rw [List.getElem?_eq_getElem hi, hic])]; exact c2
            · show (cs.getD i (0, 0, 0)).2.1 = nI s
              rw [hget i c (by rw [List.getElem?_eq_getElem hi, hic])]; exact c3
          · obtain ⟨c, c1, c2, c3⟩ := hgi i hi
            show ρ 95 (8 * r + i) = nI (cs.getD i (0, 0, 0)).1 ∧ ρ 96 (8 * r + i) = (cs.getD i (0, 0, 0)).2.1 ∧ ρ 97 (8 * r + i) = ρ 97 (8 * r + i)
            rw [c3, rho95 95 _ (.inl rfl), rho95 96 _ (.inr (.inl rfl))]
            exact ⟨(m4 i c c1).1, (m4 i c c1).2.1, rfl⟩
        · have hr2 : r < nr := by omega
          dsimp only
          rw [hold r hr2, if_neg z, if_neg z]
          obtain ⟨b1', b2', b3', b4', b5'⟩ := hmR.2.2 r hr2
          have g93 : ρ 93 r = σ 93 r := by
            rw [← hρ, up2_o (by decide)]
            simp only [up2_app, z, if_false, ite_self]
            rw [if_neg (by decide), i5 93 r (by decide) (.inl ⟨by decide, by decide, by decide⟩), fe 93 r (by decide) (fun z => absurd z (by decide)) (by omega) (fun z => absurd z (by decide)), fτ 93 r (by omega) rfl]
          have g94 : ρ 94 r = σ 94 r := by
            rw [← hρ, up2_o (by decide)]
            simp only [up2_app, z, if_false, ite_self]
            rw [if_neg (by decide), i5 94 r (by decide) (.inl ⟨by decide, by decide, by decide⟩), fe 94 r (by decide) (fun z => absurd z (by decide)) (by omega) (fun z => absurd z (by decide)), fτ 94 r (by omega) rfl]
          have h8 := b4'.1
          refine ⟨b1', by rw [g93]; exact b2', by rw [g94]; exact b3', b4', fun i hi => ?_⟩
          have hlt : 8 * r + i < 8 * nr := by omega
          rw [rho95 95 _ (.inl rfl), rho95 96 _ (.inr (.inl rfl)), rho95 97 _ (.inr (.inr rfl)), i5 95 _ (by decide) (.inr hlt), i5 96 _ (by decide) (.inr hlt), i5 97 _ (by decide) (.inr hlt), fe 95 _ (by decide) (fun z => absurd z (by decide)) (by omega) (fun z => absurd z (by decide)), fe 96 _ (by decide) (fun z => absurd z (by decide)) (by omega) (fun z => absurd z (by decide)), fe 97 _ (by decide) (fun z => absurd z (by decide)) (by omega) (fun z => absurd z (by decide)), fτ 95 _ (by omega) rfl, fτ 96 _ (by omega) rfl, fτ 97 _ (by omega) rfl]
          exact b5' i hi
      · by_cases z : r = nr
        · rw [z, hnew]
          exact li1
        · rw [hold r (by omega)]
          exact h6.2.2 r (by omega)
      · exfalso
        obtain ⟨e, e2, e3⟩ := h7.1.2
        rw [f 38 1 rfl, e3, neq (by omega) (by omega)] at z
        omega
      · obtain ⟨e, e2, e3⟩ := h7.1.2
        exact ⟨e, by omega, by rw [f 38 1 rfl]; exact e3⟩
      · exfalso
        obtain ⟨e, e2, e3⟩ := h7.2.2
        rw [f 62 1 rfl, e3, neq (by omega) (by omega)] at z
        omega
      · obtain ⟨e, e2, e3⟩ := h7.2.2
        exact ⟨e, by omega, by rw [f 62 1 rfl]; exact e3⟩
      · rw [fρ 0 15 rfl, n4 0 15 (by decide) (fun z => absurd z (by decide)), up2_o (by omega), up2_app, if_pos rfl, if_pos rfl, fτ 0 15 (by omega) rfl]
  · have hn8 : nr = 8 := by omega
    refine ⟨-1004, σ, σ, ?_, ?_, Inv_s h⟩
    · unfold s_X11_rule; rw [out_ok, bd_so, e1, if_pos z_nt, h27, hn8, if_neg (by decide)]
    · unfold s_X12_rule; rw [day12, bd_so, e1, if_neg z_t, h26, hn8, if_pos (by decide)]
