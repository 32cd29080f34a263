/-! ===== one call, both sides: cuts, wrong, line, flow, draw ===== -/
theorem serve_loop2 {n ns w : Nat} {nd l : Nat → Nat} {ask : Nat → Int32} {A : Mx} (hn : 11000 ≤ n) (hl : lok ns nd ask w l) (hA : rnn A) (hS : Sv A ≤ 10998) : ∀ (e i k : Nat) (σ : Sg), i + e = w → e < k → cL ns nd ask w l σ → cM (srv nd ask l A i).2 σ → (∀ t, t < ns → (∀ j, i ≤ j → j < w → l j ≠ t) → σ 42 t = (srv nd ask l A i).1 t) → ∃ τ, s_X9_serve_2 n k (nI i) σ = some τ ∧ cM (srv nd ask l A w).2 τ ∧ ∀ t, t < ns → τ 42 t = (srv nd ask l A w).1 t := by
  have hw := hl.2.1
  have h10 := hl.1
  intro e
  induction e with
  | zero =>
    intro i k σ hi hk hc hM hg
    obtain ⟨k, rfl⟩ : ∃ k', k = k' + 1 := ⟨k - 1, by omega⟩
    have hi : i = w := by omega
    subst hi
    refine ⟨σ, ?_, hM, fun t ht => hg t ht (fun j h1 h2 => by omega)⟩
    show s_X9_serve_2b n _ _ _ = _
    unfold s_X9_serve_2b
    rw [hc.1, if_pos (by rw [nle (by omega) (by omega)]; exact Nat.le_refl _)]
  | succ e ih =>
    intro i k σ hi hk hc hM hg
    obtain ⟨k, rfl⟩ : ∃ k', k = k' + 1 := ⟨k - 1, by omega⟩
    have hil : i < w := by omega
    have hls := hl.2.2.1 i hil
    obtain ⟨g1, g2, g3⟩ := hl.2.2.2 _ hls
    obtain ⟨c1, c2⟩ := hc.2.2 _ hls
    obtain ⟨i1, i2⟩ := srv_ok hA hS (lok_h hl) i (by omega)
    show ∃ τ, s_X9_serve_2b n (s_X9_serve_2 n k) _ _ = _ ∧ _
    unfold s_X9_serve_2b
    rw [hc.1, if_neg (by rw [nle (by omega) (by omega)]; omega), show nI i + 1 = nI (i + 1) from nI_1 i]
    simp (disch := omega) only [ck_n, ix_n, lt_eq, hc.2.1 i hil, c1, c2]
    obtain ⟨τ1, t1, t2⟩ := csend_ok (n := n) (w := ask (l i)) g1 hn hM i1 i2 g3
    rw [t1, bd_some]
    have fr0 : ∀ o, o ≠ 47 → o ≠ 48 → o ≠ 49 → o ≠ 50 → ∀ j, τ1 o j = σ o j := fun o h1 h2 h3 h4 j => fr_s_X3_send (by simp [fok, Ne.symm h1, Ne.symm h2, Ne.symm h3, Ne.symm h4]) _ _ _ t1
    have fr1 : ∀ o, o ≠ 47 → o ≠ 48 → o ≠ 49 → o ≠ 50 → o ≠ 42 → ∀ j, up2 τ1 42 (l i) (sndN (nd (l i)) (ask (l i)) (srv nd ask l A i).2).1 o j = σ o j := fun o h1 h2 h3 h4 h5 j => by
      rw [up2_o h5]
      exact fr0 o h1 h2 h3 h4 j
    refine ih (i + 1) k _ (by omega) (by omega) ?_ (cM_of t2 (funext fun j => up2_o (by decide)) (funext fun j => up2_o (by decide))) (fun t ht hj => ?_)
    · unfold cL
      simp only [fr1 39 (by decide) (by decide) (by decide) (by decide) (by decide), fr1 45 (by decide) (by decide) (by decide) (by decide) (by decide), fr1 12 (by decide) (by decide) (by decide) (by decide) (by decide), fr1 41 (by decide) (by decide) (by decide) (by decide) (by decide)]
      exact hc
    · rw [srv_s1]
      by_cases h : t = l i
      · rw [if_pos h, h]; simp [up2_app]
      · rw [if_neg h, ← hg t ht (fun j h1 h2 => by
        by_cases e : j = i
        · rw [e]; exact fun z => h z.symm
        · exact hj j (by omega) h2), ← fr0 42 (by decide) (by decide) (by decide) (by decide) t]; simp [up2_app, h]
theorem mserve_loop2 {n ns w : Nat} {nd l : Nat → Nat} {ask : Nat → Int32} {A : Mx} (hn : 11000 ≤ n) (hl : lok ns nd ask w l) (hA : rnn A) (hS : Sv A ≤ 10998) : ∀ (e i k z : Nat) (σ : Sg), i + e = w → e < k → mL ns nd ask w l σ → mM (srv nd ask l A i).2 z 0 σ → (∀ t, t < ns → (∀ j, i ≤ j → j < w → l j ≠ t) → σ 105 t = (srv nd ask l A i).1 t) → ∃ τ z', s_X12_askStreets_2 n k (nI i) σ = some τ ∧ mM (srv nd ask l A w).2 z' 0 τ ∧ ∀ t, t < ns → τ 105 t = (srv nd ask l A w).1 t := by
  have hw := hl.2.1
  have h10 := hl.1
  intro e
  induction e with
  | zero =>
    intro i k z σ hi hk hc hM hg
    obtain ⟨k, rfl⟩ : ∃ k', k = k' + 1 := ⟨k - 1, by omega⟩
    have hi : i = w := by omega
    subst hi
    refine ⟨σ, z, ?_, hM, fun t ht => hg t ht (fun j h1 h2 => by omega)⟩
    show s_X12_askStreets_2b n _ _ _ = _
    unfold s_X12_askStreets_2b
    rw [hc.1, if_pos (by rw [nle (by omega) (by omega)]; exact Nat.le_refl _)]
  | succ e ih =>
    intro i k z σ hi hk hc hM hg
    obtain ⟨k, rfl⟩ : ∃ k', k = k' + 1 := ⟨k - 1, by omega⟩
    have hil : i < w := by omega
    have hls := hl.2.2.1 i hil
    obtain ⟨g1, g2, g3⟩ := hl.2.2.2 _ hls
    obtain ⟨c1, c2⟩ := hc.2.2 _ hls
    obtain ⟨i1, i2⟩ := srv_ok hA hS (lok_h hl) i (by omega)
    show ∃ τ z', s_X12_askStreets_2b n (s_X12_askStreets_2 n k) _ _ = _ ∧ _
    unfold s_X12_askStreets_2b
    rw [hc.1, if_neg (by rw [nle (by omega) (by omega)]; omega), show nI i + 1 = nI (i + 1) from nI_1 i]
    simp (disch := omega) only [ck_n, ix_n, lt_eq, hc.2.1 i hil, c1, c2]
    obtain ⟨τ1, t1, t2⟩ := mask_ok (n := n) (w := ask (l i)) g1 hn hM i1 i2 g2
    rw [t1, bd_some]
    have fr0 : ∀ o, o ≠ 101 → o ≠ 102 → o ≠ 103 → ∀ j, τ1 o j = σ o j := fun o h1 h2 h3 j => fr_s_X12_ask (by simp [fok, Ne.symm h1, Ne.symm h2, Ne.symm h3]) _ _ _ t1
    have fr1 : ∀ o, o ≠ 101 → o ≠ 102 → o ≠ 103 → o ≠ 105 → ∀ j, up2 τ1 105 (l i) (sndN (nd (l i)) (ask (l i)) (srv nd ask l A i).2).1 o j = σ o j := fun o h1 h2 h3 h5 j => by
      rw [up2_o h5]
      exact fr0 o h1 h2 h3 j
    refine ih (i + 1) k (nd (l i)) _ (by omega) (by omega) ?_ (mM_of t2 (funext fun j => up2_o (by decide))) (fun t ht hj => ?_)
    · unfold mL
      simp only [fr1 71 (by decide) (by decide) (by decide) (by decide), fr1 107 (by decide) (by decide) (by decide) (by decide), fr1 81 (by decide) (by decide) (by decide) (by decide), fr1 104 (by decide) (by decide) (by decide) (by decide)]
      exact hc
    · rw [srv_s1]
      by_cases h : t = l i
      · rw [if_pos h, h]; simp [up2_app]
      · rw [if_neg h, ← hg t ht (fun j h1 h2 => by
        by_cases e : j = i
        · rw [e]; exact fun z => h z.symm
        · exact hj j (by omega) h2), ← fr0 105 (by decide) (by decide) (by decide) t]; simp [up2_app, h]
theorem cutsM_go {n np : Nat} {x1 x2 : Int32} {sh : Nat → Bool} {σ : Sg} (hp : np ≤ 20) (h0 : σ 71 2 = nI np) (hs : ∀ p, p < np → σ 79 p = if sh p = true then 1 else 0) : ∀ (e p k : Nat) (y : Int32), p + e = np → e < k → (∀ i, i < 32 → bt y i = (bt x1 i || (decide (i < p) && sh i))) → ∃ z, s_X12_cuts_36 n k x2 y (nI p) σ = s_X12_cuts_79 n (if x2 = 1 then 1 else 0) z σ ∧ ∀ i, i < 32 → bt z i = (bt x1 i || (decide (i < np) && sh i)) := by
  intro e
  induction e with
  | zero =>
    intro p k y he hk hy
    obtain ⟨k, rfl⟩ : ∃ k', k = k' + 1 := ⟨k - 1, by omega⟩
    have he : p = np := by omega
    subst he
    refine ⟨y, ?_, hy⟩
    show s_X12_cuts_36b n _ _ _ _ _ = _
    unfold s_X12_cuts_36b
    rw [h0, if_pos (Int32.le_refl _), lt_eq]
  | succ e ih =>
    intro p k y he hk hy
    obtain ⟨k, rfl⟩ : ∃ k', k = k' + 1 := ⟨k - 1, by omega⟩
    show ∃ z, s_X12_cuts_36b n (s_X12_cuts_36 n k) _ _ _ _ = _ ∧ _
    unfold s_X12_cuts_36b
    have h79 : σ 79 p = zo (sh p) := hs p (by omega)
    rw [h0, if_neg (by rw [nle (by omega) (by omega)]; omega), ck_n (by omega) (by omega), ix_n (by omega), h79, one_ok, bd_so, lt_eq, show nI p + 1 = nI (p + 1) from nI_1 p]
    refine ih (p + 1) k _ (by omega) (by omega) (fun i hi => ?_)
    rw [b_or, slz_bt (by omega) hi, hy i hi]
    by_cases e1 : i = p
    · rw [e1, decide_eq_true rfl, decide_eq_false (by omega), decide_eq_true (by omega)]
      simp
    · rw [decide_eq_false e1]
      by_cases e2 : i < p
      · rw [decide_eq_true e2, decide_eq_true (by omega)]; simp
      · rw [decide_eq_false e2, decide_eq_false (by omega)]; simp
theorem st_cuts {n c : Nat} {x1 x2 : Int32} {σ : Sg} (hn : 300000 ≤ n) (h : Inv c σ) : wStp c (s_X11_cuts n x1 x2) (s_X12_cuts n x1 x2) σ := by
  obtain ⟨N, ma, mb, S, K, now, pu, Rs, nr, h⟩ := h
  have hp := h.1.1.1
  have hs := h.2.1.1.1
  have c0 : σ 3 0 = nI (nP N) := h.1.2.1.1
  have m0 : σ 71 2 = nI (nP N) := h.1.2.2.1.1
  have i2 : ∀ σ, s_X12_in n x2.toInt64 0 1 σ = some (zo (inb 0 x2 1), σ) := fun σ => inb_ok n x2 0 1 σ
  rcases ush01 (k := nP N) (x := x1) (by omega) with ⟨u1, u2, u3, u4⟩ | ⟨u2, u3⟩
  · cases e2 : inb 0 x2 1
    · refine ⟨-1002, σ, σ, ?_, ?_, Inv_s h⟩
      · unfold s_X11_cuts; rw [hasAll4 (by omega) c0, if_pos u2, bd_so, if_neg (by decide), out_ok, bd_so, e2]; rfl
      · unfold s_X12_cuts; rw [if_neg u3, m0, if_pos u4, i2, bd_so, e2]; rfl
    · obtain ⟨h1, h2, h3, h4, h5, h6, h7, h8, h9, h10, h11⟩ := id h
      have hm01 : (if x2 = 1 then (1 : Int32) else 0) = 0 ∨ (if x2 = 1 then (1 : Int32) else 0) = 1 := by split <;> simp
      have key : ∀ (m : Int32) (ea eb : Nat → Nat), (∀ p, p < nP N → ea p < 10 ∧ eb p < 10) → (if m = 0 then cE (nP N) ea eb 4 5 σ else cE (nP N) ea eb 8 9 σ) → (∀ τ : Sg, (∀ o j, o ≠ 10 → τ o j = σ o j) → if m = 0 then mE (nP N) ea eb 73 74 τ else mE (nP N) ea eb 75 76 τ) → (if x2 = 1 then (1 : Int32) else 0) = m → wStp c (s_X11_cuts n x1 x2) (s_X12_cuts n x1 x2) σ := by
        intro m ea eb he hcE hmE hm
        obtain ⟨y, z, τ, a1, a2, a3⟩ := capart_ok (n := n) (np := nP N) (ns := sN S) (ea := ea) (eb := eb) (nd := sD S) (cl := fun p => bt x1 p || nSh N p) (x1 := σ 3 1 ||| x1) (m := m) (σ := σ) (by omega) hp hs he (fun p hp2 => by rw [b_or, (h1.2.1.2 p hp2).2.2.2.2, Bool.or_comm]) hcE h2.2.2.1.1 (fun s hs2 => ⟨(h2.2.2.1.2 s hs2).1, (h2.1.2 s hs2).1⟩)
        have fτ : ∀ o j, o ≠ 10 → τ o j = σ o j := fun o j ho => fr_s_X4_joined (by simp [fok, Ne.symm ho]) _ _ _ a1
        have t1 : s_X11_cuts n x1 x2 σ = some (z, τ) := by
          unfold s_X11_cuts s_X11_cuts_55; rw [hasAll4 (by omega) c0, if_pos u2, bd_so, if_neg (by decide), out_ok, bd_so, e2, if_pos z_nt, lt_eq, hm, a1, bd_so, a2, bd_so]
        obtain ⟨zz, b1, b2⟩ := cutsM_go (n := n) (np := nP N) (x1 := x1) (x2 := x2) (sh := nSh N) (σ := τ) hp (by rw [fτ 71 2 (by decide)]; exact m0) (fun p hp2 => by rw [fτ 79 p (by decide)]; exact (h1.2.2.1.2 p hp2).2.2.2.2) (nP N) 0 n x1 (by omega) (by omega) (fun i hi => by rw [decide_eq_false (by omega)]; simp)
        obtain ⟨z', ρ, d1, d2⟩ := mcut_ok (n := n) (np := nP N) (ns := sN S) (ea := ea) (eb := eb) (nd := sD S) (cl := fun p => bt x1 p || nSh N p) (x1 := zz) (m := m) (σ := τ) (by omega) hp hs he (fun p hp2 => by rw [b2 p (by omega), decide_eq_true hp2, Bool.true_and]) (hmE τ fτ) (by rw [fτ 71 11 (by decide)]; exact h2.2.2.2.1.1) (fun s hs2 => by rw [fτ 81 s (by decide)]; exact ⟨(h2.2.2.2.1.2 s hs2).1, (h2.1.2 s hs2).1⟩)
        have hzz : z' = z := b_ext (fun i hi => by rw [d2 i hi, a3 i hi])
        have r1 : s_X12_cuts n x1 x2 τ = some (z, ρ) := by
          unfold s_X12_cuts; rw [if_neg u3, fτ 71 2 (by decide), m0, if_pos u4, i2, bd_so, e2, if_neg z_t]
          have b1' : s_X12_cuts_36 n n x2 x1 0 τ = s_X12_cuts_79 n (if x2 = 1 then 1 else 0) zz τ := b1
          rw [b1', hm]
          unfold s_X12_cuts_79
          rw [d1, bd_so, hzz]
        have fρ : ∀ o j, fok [(10, none), (114, none)] o j = true → ρ o j = σ o j := fun o j ho => by
          rw [fr_s_X12_cutOff (by simp [fok, Ne.symm (fok_a ho (show (114, none) ∈ _ by decide))]) _ _ _ d1]
          exact fτ o j (fok_a ho (by decide))
        exact ⟨z, τ, ρ, t1, r1, Inv_s (InvD_of h (fr_sup rfl fρ))⟩
      by_cases e3 : x2 = 1
      · refine key 1 ma mb (fun p hp2 => ⟨(h1.2.2.2.1 p hp2).1, (h1.2.2.2.1 p hp2).2.1⟩) ?_ (fun τ f => ?_) (if_pos e3)
        · rw [if_neg (by decide)]
          exact ⟨c0, fun p hp2 => ⟨(h1.2.2.2.1 p hp2).2.2.1, (h1.2.2.2.1 p hp2).2.2.2.1⟩⟩
        · rw [if_neg (by decide)]
          exact ⟨by rw [f 71 2 (by decide)]; exact m0, fun p hp2 => by rw [f 75 p (by decide), f 76 p (by decide)]; exact ⟨(h1.2.2.2.1 p hp2).2.2.2.2.1, (h1.2.2.2.1 p hp2).2.2.2.2.2⟩⟩
      · refine key 0 (nA N) (nB N) (fun p hp2 => ⟨(h1.1.2 p hp2).1, (h1.1.2 p hp2).2.1⟩) ?_ (fun τ f => ?_) (if_neg e3)
        · rw [if_pos rfl]
          exact ⟨c0, fun p hp2 => ⟨(h1.2.1.2 p hp2).1, (h1.2.1.2 p hp2).2.1⟩⟩
        · rw [if_pos rfl]
          exact ⟨by rw [f 71 2 (by decide)]; exact m0, fun p hp2 => by rw [f 73 p (by decide), f 74 p (by decide)]; exact ⟨(h1.2.2.1.2 p hp2).1, (h1.2.2.1.2 p hp2).2.1⟩⟩
  · refine ⟨-1001, σ, σ, ?_, ?_, Inv_s h⟩
    · unfold s_X11_cuts; rw [hasAll4 (by omega) c0, if_neg u2, bd_so, if_pos rfl]
    · unfold s_X12_cuts
      rcases u3 with u3 | u3
      · rw [if_pos u3]
      · by_cases u4 : x1 < 0
        · rw [if_pos u4]
        · rw [if_neg u4, m0, if_neg u3]
/-- is the map right for a pipe -/
def wrE (N : Net) (ma mb : Nat → Nat) (S : Str) (p : Nat) : Bool := decide (∀ i, i < sN S → jlv (nP N) (nA N) (nB N) (fun q => decide (q = p)) 10 (sD S i) = jlv (nP N) ma mb (fun q => decide (q = p)) 10 (sD S i))
theorem wrong_go {n : Nat} {N : Net} {ma mb : Nat → Nat} {S : Str} {K : Knd} {now : Nat} {pu : Nat → Int32} {Rs : Nat → Rl} {nr c : Nat} (hn : 300000 ≤ n) : ∀ (e p k : Nat) (x : Int32) (σ : Sg), p + e = nP N → e < k → InvD N ma mb S K now pu Rs nr c σ → (∀ i, i < 32 → bt x i = (decide (i < p) && !wrE N ma mb S i)) → ∃ y τ, s_X11_wrong_4 n k x (nI p) σ = some (y, τ) ∧ InvD N ma mb S K now pu Rs nr c τ ∧ ∀ i, i < 32 → bt y i = (decide (i < nP N) && !wrE N ma mb S i) := by
  intro e
  induction e with
  | zero =>
    intro p k x σ he hk h hx
    obtain ⟨k, rfl⟩ : ∃ k', k = k' + 1 := ⟨k - 1, by omega⟩
    have he : p = nP N := by omega
    subst he
    refine ⟨x, σ, ?_, h, hx⟩
    show s_X11_wrong_4b n _ _ _ _ = _
    unfold s_X11_wrong_4b
    rw [h.1.2.1.1, if_pos (Int32.le_refl _)]
  | succ e ih =>
    intro p k x σ he hk h hx
    obtain ⟨k, rfl⟩ : ∃ k', k = k' + 1 := ⟨k - 1, by omega⟩
    have hp := h.1.1.1
    have hs := h.2.1.1.1
    obtain ⟨y1, z1, τ1, a1, a2, a3⟩ := capart_ok (n := n) (np := nP N) (ns := sN S) (ea := nA N) (eb := nB N) (nd := sD S) (cl := fun q => decide (q = p)) (x1 := sl 1 (nI p)) (m := 0) (σ := σ) (by omega) hp hs (fun q hq => ⟨(h.1.1.2 q hq).1, (h.1.1.2 q hq).2.1⟩) (fun q hq => by rw [sl1_bt (by omega) (by omega)]) (by rw [if_pos rfl]; exact ⟨h.1.2.1.1, fun q hq => ⟨(h.1.2.1.2 q hq).1, (h.1.2.1.2 q hq).2.1⟩⟩) h.2.1.2.2.1.1 (fun s hs2 => ⟨(h.2.1.2.2.1.2 s hs2).1, (h.2.1.1.2 s hs2).1⟩)
    have f1 : ∀ o j, o ≠ 10 → τ1 o j = σ o j := fun o j ho => fr_s_X4_joined (by simp [fok, Ne.symm ho]) _ _ _ a1
    have hI1 : InvD N ma mb S K now pu Rs nr c τ1 := InvD_of h (fr_sup (W := [(10, none)]) rfl (fun o j ho => f1 o j (fok_a ho (by decide))))
    obtain ⟨y2, z2, τ2, b1, b2, b3⟩ := capart_ok (n := n) (np := nP N) (ns := sN S) (ea := ma) (eb := mb) (nd := sD S) (cl := fun q => decide (q = p)) (x1 := sl 1 (nI p)) (m := 1) (σ := τ1) (by omega) hp hs (fun q hq => ⟨(h.1.2.2.2.1 q hq).1, (h.1.2.2.2.1 q hq).2.1⟩) (fun q hq => by rw [sl1_bt (by omega) (by omega)]) (by rw [if_neg (by decide)]; exact ⟨hI1.1.2.1.1, fun q hq => ⟨(hI1.1.2.2.2.1 q hq).2.2.1, (hI1.1.2.2.2.1 q hq).2.2.2.1⟩⟩) hI1.2.1.2.2.1.1 (fun s hs2 => ⟨(hI1.2.1.2.2.1.2 s hs2).1, (h.2.1.1.2 s hs2).1⟩)
    have f2 : ∀ o j, o ≠ 10 → τ2 o j = τ1 o j := fun o j ho => fr_s_X4_joined (by simp [fok, Ne.symm ho]) _ _ _ b1
    have hI2 : InvD N ma mb S K now pu Rs nr c τ2 := InvD_of hI1 (fr_sup (W := [(10, none)]) rfl (fun o j ho => f2 o j (fok_a ho (by decide))))
    have hz : z1 = z2 ↔ wrE N ma mb S p = true := by
      unfold wrE
      rw [decide_eq_true_eq]
      constructor
      · intro hz i hi
        have q1 := a3 i (by omega)
        have q2 := b3 i (by omega)
        rw [hz, q2, decide_eq_true hi, Bool.true_and, Bool.true_and] at q1
        exact (Bool.not_inj q1).symm
      · intro hq
        apply b_ext
        intro i hi
        rw [a3 i hi, b3 i hi]
        by_cases e1 : i < sN S
        · rw [hq i e1]
        · rw [decide_eq_false e1]; rfl
    show ∃ y τ, s_X11_wrong_4b n (s_X11_wrong_4 n k) _ _ _ = _ ∧ _
    unfold s_X11_wrong_4b
    rw [h.1.2.1.1, if_neg (by rw [nle (by omega) (by omega)]; omega), a1, bd_so, a2, bd_so, b1, bd_so, b2, bd_so, show nI p + 1 = nI (p + 1) from nI_1 p]
    by_cases he2 : z1 = z2
    · rw [if_pos he2]
      refine ih (p + 1) k x τ2 (by omega) (by omega) hI2 (fun i hi => ?_)
      rw [hx i hi]
      by_cases e1 : i = p
      · rw [e1, hz.mp he2]; simp
      · by_cases e2 : i < p
        · rw [decide_eq_true e2, decide_eq_true (by omega)]
        · rw [decide_eq_false e2, decide_eq_false (by omega)]
    · rw [if_neg he2, lt_eq]
      have hw : wrE N ma mb S p = false := by
        cases hq : wrE N ma mb S p
        · rfl
        · exact absurd (hz.mpr hq) he2
      refine ih (p + 1) k _ τ2 (by omega) (by omega) hI2 (fun i hi => ?_)
      rw [b_or, sl1_bt (by omega) hi, hx i hi]
      by_cases e1 : i = p
      · rw [e1, hw, decide_eq_true rfl, decide_eq_false (show ¬ p < p by omega), decide_eq_true (show p < p + 1 by omega)]; simp
      · rw [decide_eq_false e1]
        by_cases e2 : i < p
        · rw [decide_eq_true e2, decide_eq_true (by omega)]; simp
        · rw [decide_eq_false e2, decide_eq_false (by omega)]; simp
theorem mwrong_go {n : Nat} {N : Net} {ma mb : Nat → Nat} {S : Str} {K : Knd} {now : Nat} {pu : Nat → Int32} {Rs : Nat → Rl} {nr c : Nat} (hn : 300000 ≤ n) : ∀ (e p k : Nat) (x : Int32) (σ : Sg), p + e = nP N → e < k → InvD N ma mb S K now pu Rs nr c σ → (∀ i, i < 32 → bt x i = (decide (i < p) && !wrE N ma mb S i)) → ∃ y τ, s_X12_wrong_4 n k x (nI p) σ = some (y, τ) ∧ InvD N ma mb S K now pu Rs nr c τ ∧ ∀ i, i < 32 → bt y i = (decide (i < nP N) && !wrE N ma mb S i) := by
  intro e
  induction e with
  | zero =>
    intro p k x σ he hk h hx
    obtain ⟨k, rfl⟩ : ∃ k', k = k' + 1 := ⟨k - 1, by omega⟩
    have he : p = nP N := by omega
    subst he
    refine ⟨x, σ, ?_, h, hx⟩
    show s_X12_wrong_4b n _ _ _ _ = _
    unfold s_X12_wrong_4b
    rw [h.1.2.2.1.1, if_pos (Int32.le_refl _)]
  | succ e ih =>
    intro p k x σ he hk h hx
    obtain ⟨k, rfl⟩ : ∃ k', k = k' + 1 := ⟨k - 1, by omega⟩
    have hp := h.1.1.1
    have hs := h.2.1.1.1
    obtain ⟨z1, τ1, a1, a3⟩ := mcut_ok (n := n) (np := nP N) (ns := sN S) (ea := nA N) (eb := nB N) (nd := sD S) (cl := fun q => decide (q = p)) (x1 := sl 1 (nI p)) (m := 0) (σ := σ) (by omega) hp hs (fun q hq => ⟨(h.1.1.2 q hq).1, (h.1.1.2 q hq).2.1⟩) (fun q hq => by rw [sl1_bt (by omega) (by omega)]) (by rw [if_pos rfl]; exact ⟨h.1.2.2.1.1, fun q hq => ⟨(h.1.2.2.1.2 q hq).1, (h.1.2.2.1.2 q hq).2.1⟩⟩) h.2.1.2.2.2.1.1 (fun s hs2 => ⟨(h.2.1.2.2.2.1.2 s hs2).1, (h.2.1.1.2 s hs2).1⟩)
    have f1 : ∀ o j, o ≠ 114 → τ1 o j = σ o j := fun o j ho => fr_s_X12_cutOff (by simp [fok, Ne.symm ho]) _ _ _ a1
    have hI1 : InvD N ma mb S K now pu Rs nr c τ1 := InvD_of h (fr_sup (W := [(114, none)]) rfl (fun o j ho => f1 o j (fok_a ho (by decide))))
    obtain ⟨z2, τ2, b1, b3⟩ := mcut_ok (n := n) (np := nP N) (ns := sN S) (ea := ma) (eb := mb) (nd := sD S) (cl := fun q => decide (q = p)) (x1 := sl 1 (nI p)) (m := 1) (σ := τ1) (by omega) hp hs (fun q hq => ⟨(h.1.2.2.2.1 q hq).1, (h.1.2.2.2.1 q hq).2.1⟩) (fun q hq => by rw [sl1_bt (by omega) (by omega)]) (by rw [if_neg (by decide)]; exact ⟨hI1.1.2.2.1.1, fun q hq => ⟨(hI1.1.2.2.2.1 q hq).2.2.2.2.1, (hI1.1.2.2.2.1 q hq).2.2.2.2.2⟩⟩) hI1.2.1.2.2.2.1.1 (fun s hs2 => ⟨(hI1.2.1.2.2.2.1.2 s hs2).1, (h.2.1.1.2 s hs2).1⟩)
    have f2 : ∀ o j, o ≠ 114 → τ2 o j = τ1 o j := fun o j ho => fr_s_X12_cutOff (by simp [fok, Ne.symm ho]) _ _ _ b1
    have hI2 : InvD N ma mb S K now pu Rs nr c τ2 := InvD_of hI1 (fr_sup (W := [(114, none)]) rfl (fun o j ho => f2 o j (fok_a ho (by decide))))
    have hz : z1 = z2 ↔ wrE N ma mb S p = true := by
      unfold wrE
      rw [decide_eq_true_eq]
      constructor
      · intro hz i hi
        have q1 := a3 i (by omega)
        have q2 := b3 i (by omega)
        rw [hz, q2, decide_eq_true hi, Bool.true_and, Bool.true_and] at q1
        exact (Bool.not_inj q1).symm
      · intro hq
        apply b_ext
        intro i hi
        rw [a3 i hi, b3 i hi]
        by_cases e1 : i < sN S
        · rw [hq i e1]
        · rw [decide_eq_false e1]; rfl
    have hv : (if (if z1 = z2 then (0 : Int32) else 1) = 0 then (0 : Int32) else 1) = zo (!wrE N ma mb S p) := by
      by_cases he2 : z1 = z2
      · rw [if_pos he2, if_pos rfl, hz.mp he2]; rfl
      · rw [if_neg he2, if_neg (by decide)]
        have hw : wrE N ma mb S p = false := by
          cases hq : wrE N ma mb S p
          · rfl
          · exact absurd (hz.mpr hq) he2
        rw [hw]; rfl
    show ∃ y τ, s_X12_wrong_4b n (s_X12_wrong_4 n k) _ _ _ = _ ∧ _
    unfold s_X12_wrong_4b s_X12_wrong_37
    rw [h.1.2.2.1.1, if_neg (by rw [nle (by omega) (by omega)]; omega), a1, bd_so, b1, bd_so, lt_eq, one_any, bd_so, lt_eq, hv, show nI p + 1 = nI (p + 1) from nI_1 p]
    refine ih (p + 1) k _ τ2 (by omega) (by omega) hI2 (fun i hi => ?_)
    rw [b_or, slz_bt (by omega) hi, hx i hi]
    by_cases e1 : i = p
    · rw [e1, decide_eq_true rfl, decide_eq_false (by omega), decide_eq_true (by omega)]; simp
    · rw [decide_eq_false e1]
      by_cases e2 : i < p
      · rw [decide_eq_true e2, decide_eq_true (by omega)]; simp
      · rw [decide_eq_false e2, decide_eq_false (by omega)]; simp
theorem st_wrong {n c : Nat} {σ : Sg} (hn : 300000 ≤ n) (h : Inv c σ) : wStp c (s_X11_wrong n) (s_X12_wrong n) σ := by
  obtain ⟨N, ma, mb, S, K, now, pu, Rs, nr, h⟩ := h
  have hp := h.1.1.1
  obtain ⟨y, τ, a1, a2, a3⟩ := wrong_go (n := n) hn (nP N) 0 n 0 σ (by omega) (by omega) h (fun i hi => by rw [b_0, decide_eq_false (by omega)]; rfl)
  obtain ⟨z, ρ, b1, b2, b3⟩ := mwrong_go (n := n) hn (nP N) 0 n 0 τ (by omega) (by omega) a2 (fun i hi => by rw [b_0, decide_eq_false (by omega)]; rfl)
  have hz : z = y := b_ext (fun i hi => by rw [b3 i hi, a3 i hi])
  exact ⟨y, τ, ρ, a1, by rw [hz] at b1; exact b1, Inv_s b2⟩
