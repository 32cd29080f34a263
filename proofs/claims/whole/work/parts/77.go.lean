/-! ===== hours that count: go ===== -/
/-- cisterns; got, dry hours, lacked, wasted of each street; what leaks lost; how many hours were dry -/
abbrev Gs : Type := (Nat → Int32) × (Nat → Int32) × (Nat → Int32) × (Nat → Int32) × (Nat → Int32) × Int32 × Nat
def gAdd (n : Nat) (f g : Nat → Int32) : Nat → Int32 := fun s => if s < n then f s + g s else f s
def gStep (T : Tn) (L : Lw) (h : Nat) (q : Gs) : Gs := (tC T L h q.1, gAdd (sN (tS T)) q.2.1 (hGot (tHr T L h q.1)), gAdd (sN (tS T)) q.2.2.1 (fun s => zo (decide (¬ hX (tHr T L h q.1) s ≤ 0))), gAdd (sN (tS T)) q.2.2.2.1 (hX (tHr T L h q.1)), gAdd (sN (tS T)) q.2.2.2.2.1 (hWs (tHr T L h q.1)), q.2.2.2.2.2.1 + (hLk (tHr T L h q.1)).1, q.2.2.2.2.2.2 + if tD T L false h q.1 = true then 1 else 0)
abbrev LwD (Rs : Nat → Rl) (nr d : Nat) : Lw := lwO (holds Rs nr d)
def gRun (T : Tn) (Rs : Nat → Rl) (nr t0 : Nat) (q0 : Gs) : Nat → Gs
  | 0 => q0
  | j + 1 => gStep T (LwD Rs nr ((t0 + j) / 24)) ((t0 + j) % 24) (gRun T Rs nr t0 q0 j)
theorem gRun_s (T : Tn) (Rs : Nat → Rl) (nr t0 : Nat) (q0 : Gs) (j : Nat) : gRun T Rs nr t0 q0 (j + 1) = gStep T (LwD Rs nr ((t0 + j) / 24)) ((t0 + j) % 24) (gRun T Rs nr t0 q0 j) := rfl
theorem gRun_ok {T : Tn} {Rs : Nat → Rl} {nr t0 : Nat} {q0 : Gs} (ht : tok T) (hk : kOk Rs nr) (hc : cok (tS T) q0.1) : ∀ j, cok (tS T) (gRun T Rs nr t0 q0 j).1
  | 0 => hc
  | j + 1 => t_cok ht (lwO_k hk _).1 (gRun_ok ht hk hc j) (Nat.mod_lt _ (by decide))
theorem gRun_le {T : Tn} {Rs : Nat → Rl} {nr t0 : Nat} {q0 : Gs} : ∀ j, (gRun T Rs nr t0 q0 j).2.2.2.2.2.2 ≤ q0.2.2.2.2.2.2 + j
  | 0 => Nat.le_refl _
  | j + 1 => by
    have := gRun_le (T := T) (Rs := Rs) (nr := nr) (t0 := t0) (q0 := q0) j
    rw [gRun_s]
    unfold gStep
    dsimp only
    split <;> omega
theorem irm24 {t : Nat} (ht : t < 100000) : irm (nI t) 24 = nI (t % 24) := by
  unfold irm
  rw [show (24 : Int32) = nI 24 from rfl, ndiv (by omega) (by omega), nmul, nsub (by omega)]
  congr 1
  omega
def cGo (T : Tn) (Rs : Nat → Rl) (nr t : Nat) (q : Gs) (σ : Sg) : Prop := cN T.1 σ ∧ cS (tS T) σ ∧ cK (tS T) (tK T, q.1) 22 σ ∧ (∀ s, sN (tS T) ≤ s → s < 10 → σ 24 s = 0) ∧ (∀ h, h < 24 → σ 40 h = tP T h) ∧ cR Rs nr σ ∧ cCa Rs nr 38 σ ∧ (∃ e, e ≤ nr ∧ σ 38 1 = nI e) ∧ σ 0 12 = nI t ∧ (∀ s, s < 10 → σ 18 s = q.2.1 s ∧ σ 19 s = q.2.2.1 s ∧ σ 20 s = q.2.2.2.1 s ∧ σ 21 s = q.2.2.2.2.1 s) ∧ σ 0 14 = q.2.2.2.2.2.1
theorem cgo_step {n t nr : Nat} {T : Tn} {Rs : Nat → Rl} {q : Gs} {σ : Sg} (hn : 300000 ≤ n) (ht : tok T) (hA : tA T = 0) (hG : tG T = 0) (hk : kOk Rs nr) (hc : cok (tS T) q.1) (htt : t < 4800) (h : cGo T Rs nr t q σ) : ∃ τ, s_X11_stepIsDry n σ = some (zo (tD T (LwD Rs nr (t / 24)) false (t % 24) q.1), τ) ∧ cGo T Rs nr (t + 1) (gStep T (LwD Rs nr (t / 24)) (t % 24) q) τ := by
  obtain ⟨h1, h2, h3, h4, h5, h6, h7, h8, h9, h10, h11⟩ := h
  have hdy : dyN t = t / 24 := by unfold dyN; rw [if_pos (by omega)]
  have h24 : t % 24 < 24 := Nat.mod_lt _ (by decide)
  have hs10 := ht.2.1.1
  obtain ⟨ρ, a1, a2, a3, a4⟩ := hold_ok2 (n := n) (lc := 38) (d := t / 24) (by omega) (.inl rfl) (by omega) h6 h7
  have fρ : ∀ o j, o ≠ 38 → ρ o j = σ o j := fun o j ho => fr_s_X6_hold rfl _ _ _ ho a1
  have hd : cDy T (LwD Rs nr (t / 24)) 22 38 q.1 ρ := by
    refine ⟨⟨cN_of h1 (fun j => fρ 3 j (by decide)) (fun j => fρ 4 j (by decide)) (fun j => fρ 5 j (by decide)) (fun j => fρ 6 j (by decide)) (fun j => fρ 7 j (by decide)), ⟨by rw [fρ 11 0 (by decide)]; exact h2.1, fun s hs => by rw [fρ 12 s (by decide), fρ 14 s (by decide), fρ 15 s (by decide), fρ 16 s (by decide)]; exact h2.2 s hs⟩, fun s hs => ?_, cW_of hk a2⟩, fun x hx => by rw [fρ 40 x (by decide)]; exact h5 x hx, fun s hs hs2 => ?_⟩
    · show ρ 23 s = _ ∧ ρ 24 s = _
      rw [fρ 23 s (by decide), fρ 24 s (by decide)]
      exact h3 s hs
    · show ρ 24 s = 0
      rw [fρ 24 s (by decide)]
      exact h4 s hs hs2
  obtain ⟨τ1, τ2, τ3, τ4, b1, b2, b3, b4, b5, b6, b7, b8⟩ := chour_ok (n := n) (st := 22) (lc := 38) (h := t % 24) (by omega) ht (lwO_k hk _).1 hc h24 z22 z38 hd
  rw [hA, hG] at b2
  have b2' : s_X9_begin n (nI (t % 24)) 0 0 τ1 = some τ2 := b2
  have fr4 : ∀ o j, o ∉ scrC → o ≠ 24 → o ≠ 38 → τ4 o j = σ o j := fun o j p1 p2 p3 => by rw [b8 o j p1 p2, fρ o j p3]
  obtain ⟨τ5, c1, c2⟩ := remember_loop (n := n) hs10 (sN (tS T)) 0 n τ4 (by omega) (by omega) b5.1.2.1.1
  have c1' : s_X8_remember n τ4 = some τ5 := c1
  have f5 : ∀ o j, fok W_X8_remember o j = true → τ5 o j = τ4 o j := fun o j ho => fr_s_X8_remember ho _ c1'
  have hXo := t_hok (h := t % 24) (c := q.1) ht (lwO_k hk (t / 24)).1 hc h24
  have dr : s_X9_someDry n 22 0 (up2 (up2 τ5 0 14 (τ5 0 14 + τ5 39 10)) 0 12 (up2 τ5 0 14 (τ5 0 14 + τ5 39 10) 0 12 + 1)) = some (zo (tD T (LwD Rs nr (t / 24)) false (t % 24) q.1), up2 (up2 τ5 0 14 (τ5 0 14 + τ5 39 10)) 0 12 (up2 τ5 0 14 (τ5 0 14 + τ5 39 10) 0 12 + 1)) := someDry_ok (n := n) (st := 22) (b := false) hXo (by rw [up2_o (by decide), up2_o (by decide), f5 11 0 rfl]; exact b5.1.2.1.1) (fun s hs => by
    show up2 _ 0 12 _ 23 s = _ ∧ _
    rw [up2_o (by decide), up2_o (by decide), f5 23 s rfl, up2_o (by decide), up2_o (by decide), f5 43 s rfl]
    exact ⟨(b5.1.2.2.1 s hs).1, (b6 s hs).2.1⟩) (sN (tS T)) 0 n (by show 0 + sN (tS T) = sN (tS T); omega) (by omega) rfl
  refine ⟨up2 (up2 τ5 0 14 (τ5 0 14 + τ5 39 10)) 0 12 (up2 τ5 0 14 (τ5 0 14 + τ5 39 10) 0 12 + 1), ?_, ?_⟩
  · unfold s_X11_stepIsDry s_X11_supplyHour
    rw [today_ok (now := t) (by omega) h9, hdy, bd_so, h9, irm24 (by omega), a1, bdv_so, b1, bdv_so, b2', bdv_so, b3, bdv_so, bdv_so, b4, bdv_so, c1', bdv_so, lt_eq, lt_eq, dr, bd_so, bck_zo]
  · have g : ∀ o j, o ≠ 0 → up2 (up2 τ5 0 14 (τ5 0 14 + τ5 39 10)) 0 12 (up2 τ5 0 14 (τ5 0 14 + τ5 39 10) 0 12 + 1) o j = τ5 o j := fun o j ho => by rw [up2_o ho, up2_o ho]
    have e12 : τ5 0 12 = nI t := by rw [f5 0 12 rfl, fr4 0 12 (by decide) (by decide) (by decide)]; exact h9
    refine ⟨cN_of b5.1.1 (fun j => by rw [g 3 j (by decide), f5 3 j rfl]) (fun j => by rw [g 4 j (by decide), f5 4 j rfl]) (fun j => by rw [g 5 j (by decide), f5 5 j rfl]) (fun j => by rw [g 6 j (by decide), f5 6 j rfl]) (fun j => by rw [g 7 j (by decide), f5 7 j rfl]), ⟨by rw [g 11 0 (by decide), f5 11 0 rfl]; exact b5.1.2.1.1, fun s hs => by rw [g 12 s (by decide), g 14 s (by decide), g 15 s (by decide), g 16 s (by decide), f5 12 s rfl, f5 14 s rfl, f5 15 s rfl, f5 16 s rfl]; exact b5.1.2.1.2 s hs⟩, fun s hs => ?_, fun s hs hs2 => ?_, fun x hx => by rw [g 40 x (by decide), f5 40 x rfl]; exact b5.2.1 x hx, cR_of h6 (fun o j ho => ?_), cCa_of a3 (fun j => ?_), ⟨nr, Nat.le_refl _, ?_⟩, ?_, fun s hs => ?_, ?_⟩
    · show up2 _ 0 12 _ 23 s = _ ∧ up2 _ 0 12 _ 24 s = _
      rw [g 23 s (by decide), g 24 s (by decide), f5 23 s rfl, f5 24 s rfl]
      exact b5.1.2.2.1 s hs
    · rw [g 24 s (by decide), f5 24 s rfl]
      exact b5.2.2 s hs hs2
    · have ho2 : o ∉ scrC ∧ o ≠ 24 ∧ o ≠ 38 ∧ o ≠ 0 ∧ fok W_X8_remember o j = true := by
        rcases (show o = 27 ∨ o = 37 ∨ o = 29 ∨ o = 30 ∨ o = 31 ∨ o = 32 ∨ o = 33 ∨ o = 34 ∨ o = 35 ∨ o = 36 by omega) with rfl | rfl | rfl | rfl | rfl | rfl | rfl | rfl | rfl | rfl <;> exact ⟨by decide, by decide, by decide, by decide, rfl⟩
      rw [g o j ho2.2.2.2.1, f5 o j ho2.2.2.2.2, fr4 o j ho2.1 ho2.2.1 ho2.2.2.1]
    · rw [g 38 j (by decide), f5 38 j rfl, b8 38 j (by decide) (by decide)]
    · rw [g 38 1 (by decide), f5 38 1 rfl, b8 38 1 (by decide) (by decide)]; exact a4
    · rw [up2_app, if_pos rfl, if_pos rfl, up2_app, if_pos rfl, if_neg (by decide), e12]; exact nI_1 t
    · rw [g 18 s (by decide), g 19 s (by decide), g 20 s (by decide), g 21 s (by decide)]
      have q9 := h10 s hs
      have e18 := fr4 18 s (by decide) (by decide) (by decide)
      have e19 := fr4 19 s (by decide) (by decide) (by decide)
      have e20 := fr4 20 s (by decide) (by decide) (by decide)
      have e21 := fr4 21 s (by decide) (by decide) (by decide)
      show _ = gAdd (sN (tS T)) q.2.1 (hGot (tHr T (LwD Rs nr (t / 24)) (t % 24) q.1)) s ∧ _ = gAdd (sN (tS T)) q.2.2.1 (fun s => zo (decide (¬ hX (tHr T (LwD Rs nr (t / 24)) (t % 24) q.1) s ≤ 0))) s ∧ _ = gAdd (sN (tS T)) q.2.2.2.1 (hX (tHr T (LwD Rs nr (t / 24)) (t % 24) q.1)) s ∧ _ = gAdd (sN (tS T)) q.2.2.2.2.1 (hWs (tHr T (LwD Rs nr (t / 24)) (t % 24) q.1)) s
      unfold gAdd
      by_cases e : s < sN (tS T)
      · have w := (c2 s).1 ⟨Nat.zero_le _, e⟩
        have v := b6 s e
        rw [if_pos e, if_pos e, if_pos e, if_pos e, w.1, w.2.1, w.2.2.1, w.2.2.2, v.1, v.2.1, v.2.2, e18, e19, e20, e21, q9.1, q9.2.1, q9.2.2.1, q9.2.2.2]
        exact ⟨rfl, rfl, rfl, rfl⟩
      · have w := (c2 s).2 (fun z => e z.2)
        rw [if_neg e, if_neg e, if_neg e, if_neg e, w.1, w.2.1, w.2.2.1, w.2.2.2, e18, e19, e20, e21]
        exact q9
    · rw [up2_app, if_pos rfl, if_neg (by decide), up2_app, if_pos rfl, if_pos rfl, f5 0 14 rfl, f5 39 10 rfl, b7, fr4 0 14 (by decide) (by decide) (by decide), h11]
      rfl
theorem cgo_loop {n m t0 nr : Nat} {T : Tn} {Rs : Nat → Rl} {q0 : Gs} (hn : 300000 ≤ n) (ht : tok T) (hA : tA T = 0) (hG : tG T = 0) (hk : kOk Rs nr) (hc : cok (tS T) q0.1) (h0 : q0.2.2.2.2.2.2 = 0) (hm : t0 + m ≤ 4800) : ∀ (e j f : Nat) (σ : Sg), j + e = m → e < f → cGo T Rs nr (t0 + j) (gRun T Rs nr t0 q0 j) σ → ∃ τ, s_X11_go_45 n f (nI m) (nI (gRun T Rs nr t0 q0 j).2.2.2.2.2.2) (nI j) σ = some (nI (gRun T Rs nr t0 q0 m).2.2.2.2.2.2, up2 τ 0 13 (τ 0 13 + nI (gRun T Rs nr t0 q0 m).2.2.2.2.2.2)) ∧ cGo T Rs nr (t0 + m) (gRun T Rs nr t0 q0 m) τ ∧ ∀ o j, fok W_X11_stepIsDry o j = true → τ o j = σ o j := by
  intro e
  induction e with
  | zero =>
    intro j f σ hj hf h
    obtain ⟨f, rfl⟩ : ∃ k', f = k' + 1 := ⟨f - 1, by omega⟩
    have hj : j = m := by omega
    subst hj
    refine ⟨σ, ?_, h, fun _ _ _ => rfl⟩
    show s_X11_go_45b n _ _ _ _ _ = _
    unfold s_X11_go_45b
    rw [if_pos (Int32.le_refl _), lt_eq]
  | succ e ih =>
    intro j f σ hj hf h
    obtain ⟨f, rfl⟩ : ∃ k', f = k' + 1 := ⟨f - 1, by omega⟩
    obtain ⟨τ1, a1, a2⟩ := cgo_step (n := n) hn ht hA hG hk (gRun_ok ht hk hc j) (by omega) h
    have f1 : ∀ o j, fok W_X11_stepIsDry o j = true → τ1 o j = σ o j := fun o j ho => fr_s_X11_stepIsDry ho _ a1
    have hle := gRun_le (T := T) (Rs := Rs) (nr := nr) (t0 := t0) (q0 := q0) j
    show ∃ τ, s_X11_go_45b n (s_X11_go_45 n f) _ _ _ _ = _ ∧ _
    unfold s_X11_go_45b
    rw [if_neg (by rw [nle (by omega) (by omega)]; omega), a1, bd_so, show nI j + 1 = nI (j + 1) from nI_1 j]
    obtain ⟨τ, t1, t2, t3⟩ := ih (j + 1) f τ1 (by omega) (by omega) a2
    refine ⟨τ, ?_, t2, fun o j ho => (t3 o j ho).trans (f1 o j ho)⟩
    have e1 : (gRun T Rs nr t0 q0 (j + 1)).2.2.2.2.2.2 = (gRun T Rs nr t0 q0 j).2.2.2.2.2.2 + if tD T (LwD Rs nr ((t0 + j) / 24)) false ((t0 + j) % 24) (gRun T Rs nr t0 q0 j).1 = true then 1 else 0 := rfl
    rw [e1] at t1
    cases hb : tD T (LwD Rs nr ((t0 + j) / 24)) false ((t0 + j) % 24) (gRun T Rs nr t0 q0 j).1
    · rw [hb, if_neg (by decide), Nat.add_zero] at t1
      rw [if_pos z_f]
      exact t1
    · rw [hb, if_pos rfl] at t1
      rw [if_neg z_t, nI_1]
      exact t1
def mGo (T : Tn) (Rs : Nat → Rl) (nr : Nat) (q : Gs) (σ : Sg) : Prop := mN T.1 σ ∧ mS' (tS T) σ ∧ mK (tS T) (tK T, q.1) σ ∧ (∀ s, sN (tS T) ≤ s → s < 10 → σ 88 s = 0) ∧ mSp (tA T) (tG T) σ ∧ (∀ h, h < 24 → σ 72 h = tP T h) ∧ (∃ cn cl, mR Rs nr cn cl σ) ∧ (∀ s, s < 10 → σ 89 s = q.2.1 s ∧ σ 90 s = q.2.2.1 s ∧ σ 91 s = q.2.2.2.1 s ∧ σ 92 s = q.2.2.2.2.1 s) ∧ σ 71 25 = q.2.2.2.2.2.1
theorem mGo_of {T : Tn} {Rs : Nat → Rl} {nr : Nat} {q : Gs} {σ τ : Sg} (h : mGo T Rs nr q σ) (f : ∀ o j, fok [(71, some 0), (71, some 24), (71, some 41), (71, some 42), (71, some 43), (71, some 44), (71, some 45), (71, some 46), (99, none), (100, none)] o j = true → τ o j = σ o j) : mGo T Rs nr q τ := by
  obtain ⟨h1, h2, h3, h4, h5, h6, ⟨cn, cl, h7⟩, h8, h9⟩ := h
  refine ⟨mN_of h1 (f 71 2 rfl) (fun j => f 73 j rfl) (fun j => f 74 j rfl) (fun j => f 77 j rfl) (fun j => f 78 j rfl) (fun j => f 79 j rfl), ⟨by rw [f 71 11 rfl]; exact h2.1, fun s hs => by rw [f 81 s rfl, f 82 s rfl, f 83 s rfl, f 84 s rfl, f 85 s rfl]; exact h2.2 s hs⟩, fun s hs => by rw [f 86 s rfl, f 88 s rfl]; exact h3 s hs, fun s a b => by rw [f 88 s rfl]; exact h4 s a b, ?_, fun x hx => by rw [f 72 x rfl]; exact h6 x hx, ⟨cn, cl, mR_of h7 (f 71 26 rfl) (fun o j a b => f o j ?_)⟩, fun s hs => by rw [f 89 s rfl, f 90 s rfl, f 91 s rfl, f 92 s rfl]; exact h8 s hs, by rw [f 71 25 rfl]; exact h9⟩
  · unfold mSp
    rw [f 71 50 rfl, f 71 51 rfl]
    exact h5
  · rcases (show o = 93 ∨ o = 94 ∨ o = 95 ∨ o = 96 ∨ o = 97 by omega) with rfl | rfl | rfl | rfl | rfl <;> rfl
theorem mgo_step {n t nr : Nat} {T : Tn} {Rs : Nat → Rl} {q : Gs} {σ : Sg} (hn : 300000 ≤ n) (ht : tok T) (hk : kOk Rs nr) (hc : cok (tS T) q.1) (htt : t < 4800) (h : mGo T Rs nr q σ) : ∃ ρ τ, s_X12_findRules n (nI (t / 24)) σ = some ρ ∧ s_X12_doHour n (nI (t % 24)) 0 ρ = some (zo (tD T (LwD Rs nr (t / 24)) false (t % 24) q.1), τ) ∧ mGo T Rs nr (gStep T (LwD Rs nr (t / 24)) (t % 24) q) τ ∧ (∀ o j, fok (W_X12_findRules ++ W_X12_doHour) o j = true → τ o j = σ o j) ∧ ∀ o j, fok W_X12_findRules o j = true → ρ o j = σ o j := by
  obtain ⟨h1, h2, h3, h4, h5, h6, ⟨cn, cl, h7⟩, h8, h9⟩ := id h
  have h24 : t % 24 < 24 := Nat.mod_lt _ (by decide)
  have hs10 := ht.2.1.1
  obtain ⟨ρ, a1, a2⟩ := findRules_ok (n := n) (d := t / 24) (by omega) (by omega) h7
  have f1 : ∀ o j, fok W_X12_findRules o j = true → ρ o j = σ o j := fun o j ho => fr_s_X12_findRules ho _ _ a1
  have hρ : mGo T Rs nr q ρ := mGo_of h (fun o j ho => f1 o j (fok_sub ho (by decide)))
  obtain ⟨τ, b1, b2, b3, b4, b5⟩ := mhour_ok (n := n) (h := t % 24) (b := false) (by omega) ht (lwO_k hk (t / 24)).1 hc h24 ⟨⟨hρ.1, hρ.2.1, hρ.2.2.1, mW_of hk a2⟩, hρ.2.2.2.2.1, hρ.2.2.2.2.2.1, hρ.2.2.2.1⟩
  have b1' : s_X12_doHour n (nI (t % 24)) 0 ρ = some (zo (tD T (LwD Rs nr (t / 24)) false (t % 24) q.1), τ) := b1
  have f2 : ∀ o j, fok W_X12_doHour o j = true → τ o j = ρ o j := fun o j ho => fr_s_X12_doHour ho _ _ _ b1'
  refine ⟨ρ, τ, a1, b1', ⟨b2.1.1, b2.1.2.1, b2.1.2.2.1, b2.2.2.2, b2.2.1, b2.2.2.1, ?_, fun s hs => ?_, ?_⟩, fun o j ho => (f2 o j (fok_app ho).2).trans (f1 o j (fok_app ho).1), f1⟩
  · obtain ⟨cn', cl', h7'⟩ := hρ.2.2.2.2.2.2.1
    refine ⟨cn', cl', mR_of h7' (f2 71 26 rfl) (fun o j a b => f2 o j ?_)⟩
    rcases (show o = 93 ∨ o = 94 ∨ o = 95 ∨ o = 96 ∨ o = 97 by omega) with rfl | rfl | rfl | rfl | rfl <;> rfl
  · have q9 := hρ.2.2.2.2.2.2.2.1 s hs
    show _ = gAdd (sN (tS T)) q.2.1 (hGot (tHr T (LwD Rs nr (t / 24)) (t % 24) q.1)) s ∧ _ = gAdd (sN (tS T)) q.2.2.1 (fun s => zo (decide (¬ hX (tHr T (LwD Rs nr (t / 24)) (t % 24) q.1) s ≤ 0))) s ∧ _ = gAdd (sN (tS T)) q.2.2.2.1 (hX (tHr T (LwD Rs nr (t / 24)) (t % 24) q.1)) s ∧ _ = gAdd (sN (tS T)) q.2.2.2.2.1 (hWs (tHr T (LwD Rs nr (t / 24)) (t % 24) q.1)) s
    unfold gAdd
    by_cases e : s < sN (tS T)
    · have v := b3 s e
      rw [if_pos e, if_pos e, if_pos e, if_pos e, v.1, v.2.1, v.2.2.1, v.2.2.2, q9.1, q9.2.1, q9.2.2.1, q9.2.2.2]
      exact ⟨rfl, rfl, rfl, rfl⟩
    · rw [if_neg e, if_neg e, if_neg e, if_neg e, b4 89 s (by omega) (by omega) (by omega), b4 90 s (by omega) (by omega) (by omega), b4 91 s (by omega) (by omega) (by omega), b4 92 s (by omega) (by omega) (by omega)]
      exact q9
  · rw [b5, hρ.2.2.2.2.2.2.2.2]
    rfl
theorem mgo_loop {n m t0 nr : Nat} {T : Tn} {Rs : Nat → Rl} {q0 : Gs} (hn : 300000 ≤ n) (ht : tok T) (hk : kOk Rs nr) (hc : cok (tS T) q0.1) (h0 : q0.2.2.2.2.2.2 = 0) (hm : t0 + m ≤ 4800) : ∀ (e j f : Nat) (σ : Sg), j + e = m → e < f → σ 71 0 = nI (t0 + j) → mGo T Rs nr (gRun T Rs nr t0 q0 j) σ → ∃ τ, s_X12_go_36 n f (nI m) (nI (gRun T Rs nr t0 q0 j).2.2.2.2.2.2) (nI j) σ = some (nI (gRun T Rs nr t0 q0 m).2.2.2.2.2.2, up2 τ 71 24 (τ 71 24 + nI (gRun T Rs nr t0 q0 m).2.2.2.2.2.2)) ∧ mGo T Rs nr (gRun T Rs nr t0 q0 m) τ ∧ τ 71 0 = nI (t0 + m) ∧ τ 71 24 = σ 71 24 := by
  intro e
  induction e with
  | zero =>
    intro j f σ hj hf h7 h
    obtain ⟨f, rfl⟩ : ∃ k', f = k' + 1 := ⟨f - 1, by omega⟩
    have hj : j = m := by omega
    subst hj
    refine ⟨σ, ?_, h, h7, rfl⟩
    show s_X12_go_36b n _ _ _ _ _ = _
    unfold s_X12_go_36b
    rw [if_pos (Int32.le_refl _), lt_eq]
  | succ e ih =>
    intro j f σ hj hf h7 h
    obtain ⟨f, rfl⟩ : ∃ k', f = k' + 1 := ⟨f - 1, by omega⟩
    obtain ⟨ρ, τ1, a1, a2, a3, a4, a5⟩ := mgo_step (n := n) (t := t0 + j) hn ht hk (gRun_ok ht hk hc j) (by omega) h
    have hle := gRun_le (T := T) (Rs := Rs) (nr := nr) (t0 := t0) (q0 := q0) j
    show ∃ τ, s_X12_go_36b n (s_X12_go_36 n f) _ _ _ _ = _ ∧ _
    unfold s_X12_go_36b
    rw [if_neg (by rw [nle (by omega) (by omega)]; omega), h7, show (24 : Int32) = nI 24 from rfl, ndiv (by omega) (by omega), a1, bdv_so, a5 71 0 rfl, h7, show nI 24 = (24 : Int32) from rfl, irm24 (by omega), a2, bd_so, one_ok, bd_so, lt_eq, lt_eq, a4 71 0 rfl, h7, show nI j + 1 = nI (j + 1) from nI_1 j, nI_1, zs, nadd]
    obtain ⟨τ, t1, t2, t3, t4⟩ := ih (j + 1) f (up2 τ1 71 0 (nI (t0 + j + 1))) (by omega) (by omega) (by rw [up2_app, if_pos rfl, if_pos rfl]; rfl) (mGo_of a3 (fun o j ho => up2_f ho (by decide)))
    refine ⟨τ, t1, t2, t3, ?_⟩
    rw [t4, up2_app, if_pos rfl, if_neg (by decide)]
    exact a4 71 24 rfl
theorem st_go {n c : Nat} {x1 : Int32} {σ : Sg} (hn : 300000 ≤ n) (hc : c < 600) (h : Inv c σ) : wStp c (s_X11_go n x1) (s_X12_go n x1) σ := by
  obtain ⟨N, ma, mb, S, K, now, pu, Rs, nr, h⟩ := h
  have i1 : ∀ σ, s_X12_in n x1.toInt64 0 200 σ = some (zo (inb 0 x1 200), σ) := fun σ => inb_ok n x1 0 200 σ
  cases e1 : inb 0 x1 200
  · refine ⟨-1002, σ, σ, ?_, ?_, Inv_s h⟩
    · unfold s_X11_go; rw [out_ok, bd_so, e1]; rfl
    · unfold s_X12_go; rw [i1, bd_so, e1]; rfl
  obtain ⟨m, rfl, _, hm⟩ := rng (a := 0) (c := 200) (by omega) (by omega) e1
  obtain ⟨t1, t2, t3, t4, t5, t6⟩ := h.2.2.1
  by_cases e2 : now + m ≤ 4800
  · obtain ⟨h1, h2, h3, h4, h5, h6, h7, h8, h9, h10, h11⟩ := h
    have ht : tok (N, S, K.1, pu, 0, 0) := ⟨h1.1, h2.1, fun h hh => (h4 h hh).2, by show 0 < 10; omega, by show 0 ≤ (0 : Int32).toInt; decide, by show (0 : Int32).toInt ≤ 999; decide⟩
    have hq : cok S K.2 := h2.2.1
    obtain ⟨τ, a1, a2, a3⟩ := cgo_loop (n := n) (m := m) (t0 := now) (T := (N, S, K.1, pu, 0, 0)) (Rs := Rs) (nr := nr) (q0 := (K.2, σ 18, σ 19, σ 20, σ 21, σ 0 14, 0)) hn ht rfl rfl h6.2.2 hq rfl e2 m 0 n (up2 σ 0 15 (σ 0 15 + 1)) (by omega) (by omega) (by
      have g : ∀ o j, o ≠ 0 → up2 σ 0 15 (σ 0 15 + 1) o j = σ o j := fun o j ho => up2_o ho
      refine ⟨cN_of h1.2.1 (fun j => g 3 j (by decide)) (fun j => g 4 j (by decide)) (fun j => g 5 j (by decide)) (fun j => g 6 j (by decide)) (fun j => g 7 j (by decide)), ⟨by rw [g 11 0 (by decide)]; exact h2.2.2.1.1, fun s hs => by rw [g 12 s (by decide), g 14 s (by decide), g 15 s (by decide), g 16 s (by decide)]; exact h2.2.2.1.2 s hs⟩, fun s hs => ?_, fun s a b => by rw [g 24 s (by decide)]; exact (h2.2.2.2.2.2.2.2.1 s a b).1, fun x hx => by rw [g 40 x (by decide)]; exact (h4 x hx).1.1, cR_of h6.1 (fun o j ho => g o j (by omega)), cCa_of h7.1.1 (fun j => g 38 j (by decide)), by rw [g 38 1 (by decide)]; exact h7.1.2, by rw [up2_app, if_pos rfl, if_neg (by decide)]; exact t2, fun s hs => ?_, by rw [up2_app, if_pos rfl, if_neg (by decide)]; rfl⟩
      · show up2 σ 0 15 (σ 0 15 + 1) 23 s = _ ∧ up2 σ 0 15 (σ 0 15 + 1) 24 s = _
        rw [g 23 s (by decide), g 24 s (by decide)]
        exact h2.2.2.2.2.1 s hs
      · rw [g 18 s (by decide), g 19 s (by decide), g 20 s (by decide), g 21 s (by decide)]
        exact ⟨rfl, rfl, rfl, rfl⟩)
    have a1' : s_X11_go n (nI m) σ = some (nI (gRun (N, S, K.1, pu, 0, 0) Rs nr now (K.2, σ 18, σ 19, σ 20, σ 21, σ 0 14, 0) m).2.2.2.2.2.2, up2 τ 0 13 (τ 0 13 + nI (gRun (N, S, K.1, pu, 0, 0) Rs nr now (K.2, σ 18, σ 19, σ 20, σ 21, σ 0 14, 0) m).2.2.2.2.2.2)) := by
      unfold s_X11_go
      rw [out_ok, bd_so, e1, if_pos z_nt, t2, nadd, if_pos (by rw [show (4800 : Int32) = nI 4800 from rfl, nle (by omega) (by omega)]; exact e2), lt_eq]
      exact a1
    have fσ1 : ∀ o j, fok W_X11_go o j = true → up2 τ 0 13 (τ 0 13 + nI (gRun (N, S, K.1, pu, 0, 0) Rs nr now (K.2, σ 18, σ 19, σ 20, σ 21, σ 0 14, 0) m).2.2.2.2.2.2) o j = σ o j := fun o j ho => fr_s_X11_go ho _ _ a1'
    obtain ⟨ρ, b1, b2, b3, b4⟩ := mgo_loop (n := n) (m := m) (t0 := now) (T := (N, S, K.1, pu, 0, 0)) (Rs := Rs) (nr := nr) (q0 := (K.2, σ 18, σ 19, σ 20, σ 21, σ 0 14, 0)) hn ht h6.2.2 hq rfl e2 m 0 n (up2 τ 0 13 (τ 0 13 + nI (gRun (N, S, K.1, pu, 0, 0) Rs nr now (K.2, σ 18, σ 19, σ 20, σ 21, σ 0 14, 0) m).2.2.2.2.2.2)) (by omega) (by omega) (by rw [fσ1 71 0 rfl]; exact t3) (by
      obtain ⟨cn, cl, hmR⟩ := h6.2.1
      refine ⟨mN_of h1.2.2.1 (fσ1 71 2 rfl) (fun j => fσ1 73 j rfl) (fun j => fσ1 74 j rfl) (fun j => fσ1 77 j rfl) (fun j => fσ1 78 j rfl) (fun j => fσ1 79 j rfl), ⟨by rw [fσ1 71 11 rfl]; exact h2.2.2.2.1.1, fun s hs => by rw [fσ1 81 s rfl, fσ1 82 s rfl, fσ1 83 s rfl, fσ1 84 s rfl, fσ1 85 s rfl]; exact h2.2.2.2.1.2 s hs⟩, fun s hs => by rw [fσ1 86 s rfl, fσ1 88 s rfl]; exact h2.2.2.2.2.2.1 s hs, fun s a b => by rw [fσ1 88 s rfl]; exact (h2.2.2.2.2.2.2.2.1 s a b).2, .inl ⟨by rw [fσ1 71 50 rfl]; exact t6, rfl, rfl⟩, fun x hx => by rw [fσ1 72 x rfl]; exact (h4 x hx).1.2, ⟨cn, cl, mR_of hmR (fσ1 71 26 rfl) (fun o j a b => fσ1 o j ?_)⟩, fun s hs => ?_, by rw [fσ1 71 25 rfl, ← t5]; rfl⟩
      · rcases (show o = 93 ∨ o = 94 ∨ o = 95 ∨ o = 96 ∨ o = 97 by omega) with rfl | rfl | rfl | rfl | rfl <;> rfl
      · rw [fσ1 89 s rfl, fσ1 90 s rfl, fσ1 91 s rfl, fσ1 92 s rfl]
        have := h2.2.2.2.2.2.2.2.2 s hs
        exact ⟨this.2.1.symm, this.2.2.1.symm, this.2.2.2.1.symm, this.2.2.2.2.symm⟩)
    have b1' : s_X12_go n (nI m) (up2 τ 0 13 (τ 0 13 + nI (gRun (N, S, K.1, pu, 0, 0) Rs nr now (K.2, σ 18, σ 19, σ 20, σ 21, σ 0 14, 0) m).2.2.2.2.2.2)) = some (nI (gRun (N, S, K.1, pu, 0, 0) Rs nr now (K.2, σ 18, σ 19, σ 20, σ 21, σ 0 14, 0) m).2.2.2.2.2.2, up2 ρ 71 24 (ρ 71 24 + nI (gRun (N, S, K.1, pu, 0, 0) Rs nr now (K.2, σ 18, σ 19, σ 20, σ 21, σ 0 14, 0) m).2.2.2.2.2.2)) := by
      unfold s_X12_go
      rw [i1, bd_so, e1, if_neg z_t, fσ1 71 0 rfl, t3, nadd, if_pos (by rw [show (4800 : Int32) = nI 4800 from rfl, nle (by omega) (by omega)]; exact e2)]
      exact b1
    generalize hg : gRun (N, S, K.1, pu, 0, 0) Rs nr now (K.2, σ 18, σ 19, σ 20, σ 21, σ 0 14, 0) m = g at *
    have hcok : cok S g.1 := by rw [← hg]; exact gRun_ok ht h6.2.2 hq m
    generalize hσ1 : up2 τ 0 13 (τ 0 13 + nI g.2.2.2.2.2.2) = σ1 at *
    generalize hσ2 : up2 ρ 71 24 (ρ 71 24 + nI g.2.2.2.2.2.2) = σ2 at *
    have fσ2 : ∀ o j, fok W_X12_go o j = true → σ2 o j = σ1 o j := fun o j ho => fr_s_X12_go ho _ _ b1'
    have f : ∀ o j, fok (W_X11_go ++ W_X12_go) o j = true → σ2 o j = σ o j := fun o j ho => (fσ2 o j (fok_app ho).2).trans (fσ1 o j (fok_app ho).1)
    have g1 : ∀ o j, o ≠ 0 → σ1 o j = τ o j := fun o j ho => by rw [← hσ1]; exact up2_o ho
    have g2 : ∀ o j, o ≠ 71 → σ2 o j = ρ o j := fun o j ho => by rw [← hσ2]; exact up2_o ho
    obtain ⟨p1, p2, p3, p4, p5, p6, p7, p8, p9, p10, p11⟩ := a2
    obtain ⟨r1, r2, r3, r4, r5, r6, r7, r8, r9⟩ := b2
    refine ⟨_, σ1, σ2, a1', b1', N, ma, mb, S, (K.1, g.1), now + m, pu, Rs, nr, iN_of h1 (fr_sup rfl f), ⟨h2.1, hcok, ⟨by rw [f 11 0 rfl]; exact h2.2.2.1.1, fun s hs => by rw [f 12 s rfl, f 14 s rfl, f 15 s rfl, f 16 s rfl]; exact h2.2.2.1.2 s hs⟩, ⟨by rw [f 71 11 rfl]; exact h2.2.2.2.1.1, fun s hs => by rw [f 81 s rfl, f 82 s rfl, f 83 s rfl, f 84 s rfl, f 85 s rfl]; exact h2.2.2.2.1.2 s hs⟩, fun s hs => ?_, fun s hs => ?_, fun s hs => by rw [f 13 s rfl, f 82 s rfl]; exact h2.2.2.2.2.2.2.1 s hs, fun s a b => ?_, fun s hs => ?_⟩, ⟨e2, ?_, ?_, ?_, ?_, by rw [f 71 50 rfl]; exact t6⟩, iP_of h4 (fr_sup rfl f), iX_of h5 (fr_sup rfl f), iR_of h6 (fr_sup rfl f), ⟨⟨cCa_of p7 (fun j => by rw [fσ2 38 j rfl, g1 38 j (by decide)]), by rw [fσ2 38 1 rfl, g1 38 1 (by decide)]; exact p8⟩, cCa_of h7.2.1 (fun j => f 62 j rfl), by rw [f 62 1 rfl]; exact h7.2.2⟩, iG_of h8 (fr_sup rfl f), iV_of h9 (fr_sup rfl f), iB_of h10 (fr_sup rfl f), iO_up (by omega) h11 ?_ (f 51 10 rfl)⟩
    · show σ2 23 s = _ ∧ σ2 24 s = _
      rw [fσ2 23 s rfl, fσ2 24 s rfl, g1 23 s (by decide), g1 24 s (by decide)]
      exact p3 s hs
    · rw [g2 86 s (by decide), g2 88 s (by decide)]
      exact r3 s hs
    · rw [fσ2 24 s rfl, g1 24 s (by decide), g2 88 s (by decide)]
      exact ⟨p4 s a b, r4 s a b⟩
    · have u := h2.2.2.2.2.2.2.2.2 s hs
      have v := p10 s hs
      have w := r8 s hs
      rw [f 17 s rfl, f 87 s rfl, fσ2 18 s rfl, fσ2 19 s rfl, fσ2 20 s rfl, fσ2 21 s rfl, g1 18 s (by decide), g1 19 s (by decide), g1 20 s (by decide), g1 21 s (by decide), g2 89 s (by decide), g2 90 s (by decide), g2 91 s (by decide), g2 92 s (by decide), v.1, v.2.1, v.2.2.1, v.2.2.2, w.1, w.2.1, w.2.2.1, w.2.2.2]
      exact ⟨u.1, rfl, rfl, rfl, rfl⟩
    · rw [fσ2 0 12 rfl, ← hσ1, up2_app, if_pos rfl, if_neg (by decide)]; exact p9
    · rw [← hσ2, up2_app, if_pos rfl, if_neg (by decide)]; exact b3
    · rw [fσ2 0 13 rfl, ← hσ1, up2_app, if_pos rfl, if_pos rfl, ← hσ2, up2_app, if_pos rfl, if_pos rfl, b4, fσ1 71 24 rfl, a3 0 13 rfl, up2_app, if_pos rfl, if_neg (by decide), t4]
    · rw [fσ2 0 14 rfl, ← hσ1, up2_app, if_pos rfl, if_neg (by decide), ← hσ2, up2_app, if_pos rfl, if_neg (by decide), p11, r9]
    · rw [fσ2 0 15 rfl, ← hσ1, up2_app, if_pos rfl, if_neg (by decide), a3 0 15 rfl, up2_app, if_pos rfl, if_pos rfl]
  · refine ⟨-1003, σ, σ, ?_, ?_, Inv_s h⟩
    · unfold s_X11_go
      rw [out_ok, bd_so, e1, if_pos z_nt, t2, nadd, if_neg (by rw [show (4800 : Int32) = nI 4800 from rfl, nle (by omega) (by omega)]; exact e2)]
    · unfold s_X12_go
      rw [i1, bd_so, e1, if_neg z_t, t3, nadd, if_neg (by rw [show (4800 : Int32) = nI 4800 from rfl, nle (by omega) (by omega)]; exact e2)]
