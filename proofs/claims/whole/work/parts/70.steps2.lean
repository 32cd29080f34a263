/-! ===== one call, both sides: shut, leak, map, over, rooms, pump ===== -/
theorem st_shut {n c : Nat} {x1 : Int32} {b : Bool} {σ : Sg} (hc : c < 600) (h : Inv c σ) : wStp c (s_X11_shut n x1 (zo b)) (s_X12_shut n x1 (zo b)) σ := by
  obtain ⟨N, ma, mb, S, K, now, pu, Rs, nr, h⟩ := h
  have hp := h.1.1.1
  have c0 : σ 3 0 = nI (nP N) := h.1.2.1.1
  have m0 : σ 71 2 = nI (nP N) := h.1.2.2.1.1
  cases e1 : pin (nP N) x1
  · refine ⟨-1001, σ, σ, ?_, ?_, Inv_s h⟩
    · unfold s_X11_shut; rw [has4 c0, bd_so, e1]; rfl
    · unfold s_X12_shut; rw [noP (by omega) m0, bd_so, e1]; rfl
  · obtain ⟨p, hp2, rfl⟩ := pin_n (by omega) e1
    have cb := (h.1.2.1.2 p hp2).2.2.2.2
    have mb' := (h.1.2.2.1.2 p hp2).2.2.2.2
    have t1 : ∃ τ, s_X11_shut n (nI p) (zo b) σ = some (zo (nSh N p), τ) ∧ τ 0 15 = σ 0 15 + 1 ∧ ∀ i, i < 32 → bt (τ 3 1) i = if i = p then b else bt (σ 3 1) i := by
      unfold s_X11_shut
      rw [has4 c0, bd_so, e1, if_neg z_t, sr_bit (σ 3 1) (show p < 32 by omega), cb]
      simp only [lt_eq]
      refine ⟨_, rfl, by simp [up2_app], fun i hi => ?_⟩
      rw [up2_app, if_pos rfl, if_pos rfl, up2_o (by decide)]
      cases b
      · rw [if_pos z_f, b_and, not_bt _ hi, sl1_bt (by omega) hi]
        by_cases e : i = p
        · rw [decide_eq_true e, if_pos e]; simp
        · rw [decide_eq_false e, if_neg e]; simp
      · rw [if_neg z_t, b_or, sl1_bt (by omega) hi]
        by_cases e : i = p
        · rw [decide_eq_true e, if_pos e]; simp
        · rw [decide_eq_false e, if_neg e]; simp
    obtain ⟨τ, t1, t2, t3⟩ := t1
    have ft : ∀ o j, fok W_X11_shut o j = true → τ o j = σ o j := fun o j ho => fr_s_X11_shut ho _ _ _ t1
    have r1 : s_X12_shut n (nI p) (zo b) τ = some (zo (nSh N p), up2 τ 79 p (zo b)) := by
      unfold s_X12_shut
      have : τ 79 p = zo (nSh N p) := by rw [ft 79 p rfl, mb']; rfl
      rw [noP (by omega) (show τ 71 2 = nI (nP N) by rw [ft 71 2 rfl]; exact m0), bd_so, e1, if_pos z_nt, ck_n (by omega) (by omega), ix_n (by omega), this, one_ok, bd_so, ck_n (by omega) (by omega), nar_b, lt_eq]
    have f : ∀ o j, fok (W_X11_shut ++ W_X12_shut) o j = true → up2 τ 79 p (zo b) o j = σ o j := fun o j ho => by
      rw [up2_o (fok_a ho (by decide))]
      exact ft o j (fok_app ho).1
    obtain ⟨h1, h2, h3, h4, h5, h6, h7, h8, h9, h10, h11⟩ := h
    refine ⟨_, τ, _, t1, r1, (nP N, nA N, nB N, nBo N, nLo N, fun q => if q = p then b else nSh N q), ma, mb, S, K, now, pu, Rs, nr, ?_, iS_of h2 (fr_sup rfl f), iT_of h3 (fr_sup rfl f), iP_of h4 (fr_sup rfl f), iX_of h5 (fr_sup rfl f), iR_of h6 (fr_sup rfl f), iC_of h7 (fr_sup rfl f), iG_of h8 (fr_sup rfl f), iV_of h9 (fr_sup rfl f), iB_of h10 (fr_sup rfl f), iO_up (by omega) h11 (by rw [up2_o (by decide)]; exact t2) (f 51 10 rfl)⟩
    obtain ⟨n1, n2, n3, n4, n5, n6⟩ := h1
    have b31 : up2 τ 79 p (zo b) 3 1 = τ 3 1 := up2_o (by decide)
    refine ⟨n1, ⟨by rw [f 3 0 rfl]; exact c0, fun q hq => ?_⟩, ⟨by rw [f 71 2 rfl]; exact m0, fun q hq => ?_⟩, fun q hq => ?_, fun i i1 i2 => ?_, fun i i1 i2 => ?_⟩
    · have hq' : q < nP N := hq
      rw [f 4 q rfl, f 5 q rfl, f 6 q rfl, f 7 q rfl, b31, t3 q (by omega)]
      have := n2.2 q hq'
      refine ⟨this.1, this.2.1, this.2.2.1, this.2.2.2.1, ?_⟩
      show _ = if q = p then b else nSh N q
      rw [this.2.2.2.2]
    · have hq' : q < nP N := hq
      have := n3.2 q hq'
      rw [f 73 q rfl, f 74 q rfl, f 77 q rfl, f 78 q rfl]
      refine ⟨this.1, this.2.1, this.2.2.1, this.2.2.2.1, ?_⟩
      show _ = if (if q = p then b else nSh N q) = true then 1 else 0
      by_cases e : q = p
      · rw [if_pos e, e, up2_app, if_pos rfl, if_pos rfl]; rfl
      · rw [if_neg e]
        simp only [up2_app, e, if_false, ite_self]
        rw [ft 79 q rfl]
        exact this.2.2.2.2
    · rw [f 8 q rfl, f 9 q rfl, f 75 q rfl, f 76 q rfl]; exact n4 q hq
    · have i3 : nP N ≤ i := i1
      rw [b31, t3 i i2, if_neg (by omega)]
      exact n5 i i3 i2
    · have i3 : nP N ≤ i := i1
      simp only [up2_app, show ¬ i = p by omega, if_false, ite_self]
      rw [ft 79 i rfl]
      exact n6 i i3 i2
theorem st_leak {n c : Nat} {x1 x2 : Int32} {σ : Sg} (hc : c < 600) (h : Inv c σ) : wStp c (s_X11_leak n x1 x2) (s_X12_leak n x1 x2) σ := by
  obtain ⟨N, ma, mb, S, K, now, pu, Rs, nr, h⟩ := h
  have hp := h.1.1.1
  have c0 : σ 3 0 = nI (nP N) := h.1.2.1.1
  have m0 : σ 71 2 = nI (nP N) := h.1.2.2.1.1
  have i2 : ∀ σ, s_X12_in n x2.toInt64 0 99 σ = some (zo (inb 0 x2 99), σ) := fun σ => inb_ok n x2 0 99 σ
  cases e1 : pin (nP N) x1
  · refine ⟨-1001, σ, σ, ?_, ?_, Inv_s h⟩
    · unfold s_X11_leak; rw [has4 c0, bd_so, e1]; rfl
    · unfold s_X12_leak; rw [noP (by omega) m0, bd_so, e1]; rfl
  cases e2 : inb 0 x2 99
  · refine ⟨-1002, σ, σ, ?_, ?_, Inv_s h⟩
    · unfold s_X11_leak; rw [has4 c0, bd_so, e1, if_neg z_t, out_ok, bd_so, e2]; rfl
    · unfold s_X12_leak; rw [noP (by omega) m0, bd_so, e1, if_pos z_nt, i2, bd_so, e2]; rfl
  · obtain ⟨p, hp2, rfl⟩ := pin_n (by omega) e1
    obtain ⟨lo, hlo, _, hlo2⟩ := rng (a := 0) (c := 99) (by omega) (by omega) e2
    have cb := (h.1.2.1.2 p hp2).2.2.2.1
    have mb' := (h.1.2.2.1.2 p hp2).2.2.2.1
    have t1 : s_X11_leak n (nI p) x2 σ = some (nLo N p, up2 (up2 σ 0 15 (σ 0 15 + 1)) 7 p x2) := by
      unfold s_X11_leak
      rw [has4 c0, bd_so, e1, if_neg z_t, out_ok, bd_so, e2, if_pos z_nt]
      simp (disch := omega) only [ck_n, ix_n, lt_eq, cb]
    have r1 : s_X12_leak n (nI p) x2 (up2 (up2 σ 0 15 (σ 0 15 + 1)) 7 p x2) = some (nLo N p, up2 (up2 (up2 σ 0 15 (σ 0 15 + 1)) 7 p x2) 78 p x2) := by
      unfold s_X12_leak
      rw [noP (k := nP N) (by omega) (by rw [up2_o (by decide), up2_o (by decide)]; exact m0), bd_so, e1, if_pos z_nt, i2, bd_so, e2, if_neg z_t]
      simp (disch := omega) only [ck_n, ix_n, lt_eq]
      rw [up2_o (show 78 ≠ 7 by decide), up2_o (show 78 ≠ 0 by decide), mb']
    have f : ∀ o j, fok [(0, some 15), (7, none), (78, none)] o j = true → up2 (up2 (up2 σ 0 15 (σ 0 15 + 1)) 7 p x2) 78 p x2 o j = σ o j := fun o j ho => by
      rw [up2_o (fok_a ho (by decide)), up2_o (fok_a ho (by decide)), up2_f ho (by decide)]
    obtain ⟨h1, h2, h3, h4, h5, h6, h7, h8, h9, h10, h11⟩ := h
    refine ⟨_, _, _, t1, r1, (nP N, nA N, nB N, nBo N, updI (nLo N) p x2, nSh N), ma, mb, S, K, now, pu, Rs, nr, ?_, iS_of h2 (fr_sup rfl f), iT_of h3 (fr_sup rfl f), iP_of h4 (fr_sup rfl f), iX_of h5 (fr_sup rfl f), iR_of h6 (fr_sup rfl f), iC_of h7 (fr_sup rfl f), iG_of h8 (fr_sup rfl f), iV_of h9 (fr_sup rfl f), iB_of h10 (fr_sup rfl f), iO_up (by omega) h11 (by simp [up2_app]) (f 51 10 rfl)⟩
    obtain ⟨n1, n2, n3, n4, n5, n6⟩ := h1
    refine ⟨⟨n1.1, fun q hq => ?_⟩, ⟨by rw [f 3 0 rfl]; exact c0, fun q hq => ?_⟩, ⟨by rw [f 71 2 rfl]; exact m0, fun q hq => ?_⟩, fun q hq => ?_, fun i i1 i2 => ?_, fun i i1 i2 => ?_⟩
    · have := n1.2 q hq
      refine ⟨this.1, this.2.1, this.2.2.1, ?_⟩
      show 0 ≤ (updI (nLo N) p x2 q).toInt ∧ (updI (nLo N) p x2 q).toInt ≤ 99
      unfold updI
      by_cases e : q = p
      · rw [if_pos e, hlo, ni_int (by omega)]
        exact ⟨by omega, by omega⟩
      · rw [if_neg e]; exact this.2.2.2
    · have := n2.2 q hq
      rw [f 4 q rfl, f 5 q rfl, f 6 q rfl, f 3 1 rfl]
      refine ⟨this.1, this.2.1, this.2.2.1, ?_, this.2.2.2.2⟩
      show _ = updI (nLo N) p x2 q
      unfold updI
      rw [up2_o (by decide)]
      by_cases e : q = p
      · rw [if_pos e, e, up2_app, if_pos rfl, if_pos rfl]
      · rw [if_neg e]
        simp only [up2_app, e, if_false, ite_self]
        rw [if_neg (by decide)]
        exact this.2.2.2.1
    · have := n3.2 q hq
      rw [f 73 q rfl, f 74 q rfl, f 77 q rfl, f 79 q rfl]
      refine ⟨this.1, this.2.1, this.2.2.1, ?_, this.2.2.2.2⟩
      show _ = updI (nLo N) p x2 q
      unfold updI
      by_cases e : q = p
      · rw [if_pos e, e, up2_app, if_pos rfl, if_pos rfl]
      · rw [if_neg e]
        simp only [up2_app, e, if_false, ite_self]
        rw [if_neg (by decide)]
        exact this.2.2.2.1
    · rw [f 8 q rfl, f 9 q rfl, f 75 q rfl, f 76 q rfl]; exact n4 q hq
    · rw [f 3 1 rfl]; exact n5 i i1 i2
    · rw [f 79 i rfl]; exact n6 i i1 i2
theorem st_map {n c : Nat} {x1 x2 x3 : Int32} {σ : Sg} (h : Inv c σ) : wStp c (s_X11_map n x1 x2 x3) (s_X12_map n x1 x2 x3) σ := by
  obtain ⟨N, ma, mb, S, K, now, pu, Rs, nr, h⟩ := h
  have hp := h.1.1.1
  have c0 : σ 3 0 = nI (nP N) := h.1.2.1.1
  have m0 : σ 71 2 = nI (nP N) := h.1.2.2.1.1
  cases e1 : pin (nP N) x1
  · refine ⟨-1001, σ, σ, ?_, ?_, Inv_s h⟩
    · unfold s_X11_map; rw [has4 c0, bd_so, e1]; rfl
    · unfold s_X12_map; rw [noP (by omega) m0, bd_so, e1]; rfl
  cases e2 : inb 0 x2 9
  · refine ⟨-1001, σ, σ, ?_, ?_, Inv_s h⟩
    · unfold s_X11_map; rw [has4 c0, bd_so, e1, if_neg z_t, node11, bd_so, e2]; rfl
    · unfold s_X12_map; rw [noP (by omega) m0, bd_so, e1, if_pos z_nt, node12, bd_so, e2]; rfl
  cases e3 : inb 0 x3 9
  · refine ⟨-1001, σ, σ, ?_, ?_, Inv_s h⟩
    · unfold s_X11_map; rw [has4 c0, bd_so, e1, if_neg z_t, node11, bd_so, e2, if_neg z_t, node11, bd_so, e3]; rfl
    · unfold s_X12_map; rw [noP (by omega) m0, bd_so, e1, if_pos z_nt, node12, bd_so, e2, if_neg z_t, node12, bd_so, e3]; rfl
  by_cases e4 : x2 = x3
  · refine ⟨-1002, σ, σ, ?_, ?_, Inv_s h⟩
    · unfold s_X11_map; rw [has4 c0, bd_so, e1, if_neg z_t, node11, bd_so, e2, if_neg z_t, node11, bd_so, e3, if_neg z_t, if_pos e4]
    · unfold s_X12_map; rw [noP (by omega) m0, bd_so, e1, if_pos z_nt, node12, bd_so, e2, if_neg z_t, node12, bd_so, e3, if_neg z_t, if_pos e4]
  · obtain ⟨p, hp2, rfl⟩ := pin_n (by omega) e1
    obtain ⟨a, rfl, _, ha⟩ := rng (a := 0) (c := 9) (by omega) (by omega) e2
    obtain ⟨b, rfl, _, hb⟩ := rng (a := 0) (c := 9) (by omega) (by omega) e3
    have t1 : s_X11_map n (nI p) (nI a) (nI b) σ = some (1, up2 (up2 σ 8 p (nI a)) 9 p (nI b)) := by
      unfold s_X11_map; rw [has4 c0, bd_so, e1, if_neg z_t, node11, bd_so, e2, if_neg z_t, node11, bd_so, e3, if_neg z_t, if_neg e4]
      simp (disch := omega) only [ck_n, ix_n, lt_eq]
    have r1 : s_X12_map n (nI p) (nI a) (nI b) (up2 (up2 σ 8 p (nI a)) 9 p (nI b)) = some (1, up2 (up2 (up2 (up2 σ 8 p (nI a)) 9 p (nI b)) 75 p (nI a)) 76 p (nI b)) := by
      unfold s_X12_map; rw [noP (k := nP N) (by omega) (by rw [up2_o (by decide), up2_o (by decide)]; exact m0), bd_so, e1, if_pos z_nt, node12, bd_so, e2, if_neg z_t, node12, bd_so, e3, if_neg z_t, if_neg e4]
      simp (disch := omega) only [ck_n, ix_n, lt_eq]
    have f : ∀ o j, fok [(8, none), (9, none), (75, none), (76, none)] o j = true → up2 (up2 (up2 (up2 σ 8 p (nI a)) 9 p (nI b)) 75 p (nI a)) 76 p (nI b) o j = σ o j := fun o j ho => by
      rw [up2_o (fok_a ho (by decide)), up2_o (fok_a ho (by decide)), up2_o (fok_a ho (by decide)), up2_o (fok_a ho (by decide))]
    obtain ⟨h1, h2, h3, h4, h5, h6, h7, h8, h9, h10, h11⟩ := h
    refine ⟨_, _, _, t1, r1, N, updN ma p a, updN mb p b, S, K, now, pu, Rs, nr, ?_, iS_of h2 (fr_sup rfl f), iT_of h3 (fr_sup rfl f), iP_of h4 (fr_sup rfl f), iX_of h5 (fr_sup rfl f), iR_of h6 (fr_sup rfl f), iC_of h7 (fr_sup rfl f), iG_of h8 (fr_sup rfl f), iV_of h9 (fr_sup rfl f), iB_of h10 (fr_sup rfl f), iO_mono (iO_of h11 (fr_sup rfl f)) (Nat.le_succ c)⟩
    obtain ⟨n1, n2, n3, n4, n5, n6⟩ := h1
    refine ⟨n1, cN_of n2 (fun j => f 3 j rfl) (fun j => f 4 j rfl) (fun j => f 5 j rfl) (fun j => f 6 j rfl) (fun j => f 7 j rfl), mN_of n3 (f 71 2 rfl) (fun j => f 73 j rfl) (fun j => f 74 j rfl) (fun j => f 77 j rfl) (fun j => f 78 j rfl) (fun j => f 79 j rfl), fun q hq => ?_, fun i i1 i2 => by rw [f 3 1 rfl]; exact n5 i i1 i2, fun i i1 i2 => by rw [f 79 i rfl]; exact n6 i i1 i2⟩
    have := n4 q hq
    unfold updN
    by_cases e : q = p
    · rw [if_pos e, if_pos e, e]
      refine ⟨by omega, by omega, by simp [up2_app], by simp [up2_app], by simp [up2_app], by simp [up2_app]⟩
    · rw [if_neg e, if_neg e]
      simp only [up2_app, e, if_false, ite_self]
      exact this
theorem st_over {n c : Nat} {x1 : Int32} {σ : Sg} (hc : c < 600) (h : Inv c σ) : wStp c (s_X11_over n x1) (s_X12_over n x1) σ := by
  obtain ⟨N, ma, mb, S, K, now, pu, Rs, nr, h⟩ := h
  have hs := h.2.1.1.1
  have c0 : σ 11 0 = nI (sN S) := h.2.1.2.2.1.1
  have m0 : σ 71 11 = nI (sN S) := h.2.1.2.2.2.1.1
  cases e1 : pin (sN S) x1
  · refine ⟨-1001, σ, σ, ?_, ?_, Inv_s h⟩
    · unfold s_X11_over; rw [has8 c0, bd_so, e1]; rfl
    · unfold s_X12_over; rw [noS (by omega) m0, bd_so, e1]; rfl
  obtain ⟨s, hs2, rfl⟩ := pin_n (by omega) e1
  have k1 : σ 23 s = zo (K.1 s) := (h.2.1.2.2.2.2.1 s hs2).1
  have k2 : σ 86 s = zo (K.1 s) := (h.2.1.2.2.2.2.2.1 s hs2).1
  cases e2 : K.1 s
  · rw [e2] at k1 k2
    have t1 : s_X11_over n (nI s) σ = some (1, up2 (up2 σ 0 15 (σ 0 15 + 1)) 23 s 1) := by
      unfold s_X11_over; rw [has8 c0, bd_so, e1, if_neg z_t, ck_n (by omega) (by omega), ix_n (by omega), k1, if_neg (by decide)]
      simp (disch := omega) only [ck_n, lt_eq]
    have r1 : s_X12_over n (nI s) (up2 (up2 σ 0 15 (σ 0 15 + 1)) 23 s 1) = some (1, up2 (up2 (up2 σ 0 15 (σ 0 15 + 1)) 23 s 1) 86 s 1) := by
      unfold s_X12_over; rw [noS (k := sN S) (by omega) (by rw [up2_o (by decide), up2_o (by decide)]; exact m0), bd_so, e1, if_pos z_nt, ck_n (by omega) (by omega), ix_n (by omega), up2_o (show 86 ≠ 23 by decide), up2_o (show 86 ≠ 0 by decide), k2, if_pos z_f, ck_n (by omega) (by omega), lt_eq]
      rfl
    have f : ∀ o j, fok [(0, some 15), (23, none), (86, none)] o j = true → up2 (up2 (up2 σ 0 15 (σ 0 15 + 1)) 23 s 1) 86 s 1 o j = σ o j := fun o j ho => by
      rw [up2_o (fok_a ho (by decide)), up2_o (fok_a ho (by decide)), up2_f ho (by decide)]
    obtain ⟨h1, h2, h3, h4, h5, h6, h7, h8, h9, h10, h11⟩ := h
    refine ⟨_, _, _, t1, r1, N, ma, mb, S, (fun t => if t = s then true else K.1 t, K.2), now, pu, Rs, nr, iN_of h1 (fr_sup rfl f), ?_, iT_of h3 (fr_sup rfl f), iP_of h4 (fr_sup rfl f), iX_of h5 (fr_sup rfl f), iR_of h6 (fr_sup rfl f), iC_of h7 (fr_sup rfl f), iG_of h8 (fr_sup rfl f), iV_of h9 (fr_sup rfl f), iB_of h10 (fr_sup rfl f), iO_up (by omega) h11 (by simp [up2_app]) (f 51 10 rfl)⟩
    obtain ⟨s1, s2, s3, s4, s5, s6, s7, s8, s9⟩ := h2
    refine ⟨s1, s2, ⟨by rw [f 11 0 rfl]; exact s3.1, fun t ht => by rw [f 12 t rfl, f 14 t rfl, f 15 t rfl, f 16 t rfl]; exact s3.2 t ht⟩, ⟨by rw [f 71 11 rfl]; exact s4.1, fun t ht => by rw [f 81 t rfl, f 82 t rfl, f 83 t rfl, f 84 t rfl, f 85 t rfl]; exact s4.2 t ht⟩, fun t ht => ?_, fun t ht => ?_, fun t ht => by rw [f 13 t rfl, f 82 t rfl]; exact s7 t ht, fun t a b => by rw [f 24 t rfl, f 88 t rfl]; exact s8 t a b, fun t ht => by rw [f 17 t rfl, f 18 t rfl, f 19 t rfl, f 20 t rfl, f 21 t rfl, f 87 t rfl, f 89 t rfl, f 90 t rfl, f 91 t rfl, f 92 t rfl]; exact s9 t ht⟩
    · show up2 (up2 (up2 σ 0 15 (σ 0 15 + 1)) 23 s 1) 86 s 1 23 t = zo (if t = s then true else K.1 t) ∧ up2 (up2 (up2 σ 0 15 (σ 0 15 + 1)) 23 s 1) 86 s 1 24 t = K.2 t
      refine ⟨?_, by rw [f 24 t rfl]; exact (s5 t ht).2⟩
      rw [up2_o (by decide)]
      by_cases e : t = s
      · rw [if_pos e, e, up2_app, if_pos rfl, if_pos rfl]; rfl
      · rw [if_neg e]
        simp only [up2_app, e, if_false, ite_self]
        rw [if_neg (by decide)]
        exact (s5 t ht).1
    · show up2 (up2 (up2 σ 0 15 (σ 0 15 + 1)) 23 s 1) 86 s 1 86 t = zo (if t = s then true else K.1 t) ∧ up2 (up2 (up2 σ 0 15 (σ 0 15 + 1)) 23 s 1) 86 s 1 88 t = K.2 t
      refine ⟨?_, by rw [f 88 t rfl]; exact (s6 t ht).2⟩
      by_cases e : t = s
      · rw [if_pos e, e, up2_app, if_pos rfl, if_pos rfl]; rfl
      · rw [if_neg e]
        simp only [up2_app, e, if_false, ite_self]
        rw [if_neg (by decide)]
        exact (s6 t ht).1
  · rw [e2] at k1 k2
    refine ⟨-1003, σ, σ, ?_, ?_, Inv_s h⟩
    · unfold s_X11_over; rw [has8 c0, bd_so, e1, if_neg z_t, ck_n (by omega) (by omega), ix_n (by omega), k1, if_pos (show zo true = 1 from rfl)]
    · unfold s_X12_over; rw [noS (by omega) m0, bd_so, e1, if_pos z_nt, ck_n (by omega) (by omega), ix_n (by omega), k2, if_neg z_t]
theorem st_rooms {n c : Nat} {x1 x2 : Int32} {σ : Sg} (h : Inv c σ) : wStp c (s_X11_rooms n x1 x2) (s_X12_rooms n x1 x2) σ := by
  obtain ⟨N, ma, mb, S, K, now, pu, Rs, nr, h⟩ := h
  have hs := h.2.1.1.1
  have c0 : σ 11 0 = nI (sN S) := h.2.1.2.2.1.1
  have m0 : σ 71 11 = nI (sN S) := h.2.1.2.2.2.1.1
  have i2 : ∀ σ, s_X12_in n x2.toInt64 0 99 σ = some (zo (inb 0 x2 99), σ) := fun σ => inb_ok n x2 0 99 σ
  cases e1 : pin (sN S) x1
  · refine ⟨-1001, σ, σ, ?_, ?_, Inv_s h⟩
    · unfold s_X11_rooms; rw [has8 c0, bd_so, e1]; rfl
    · unfold s_X12_rooms; rw [noS (by omega) m0, bd_so, e1]; rfl
  cases e2 : inb 0 x2 99
  · refine ⟨-1002, σ, σ, ?_, ?_, Inv_s h⟩
    · unfold s_X11_rooms; rw [has8 c0, bd_so, e1, if_neg z_t, out_ok, bd_so, e2]; rfl
    · unfold s_X12_rooms; rw [noS (by omega) m0, bd_so, e1, if_pos z_nt, i2, bd_so, e2]; rfl
  · obtain ⟨s, hs2, rfl⟩ := pin_n (by omega) e1
    have t1 : s_X11_rooms n (nI s) x2 σ = some (σ 17 s, up2 σ 17 s x2) := by
      unfold s_X11_rooms; rw [has8 c0, bd_so, e1, if_neg z_t, out_ok, bd_so, e2, if_pos z_nt]
      simp (disch := omega) only [ck_n, ix_n, lt_eq]
    have r1 : s_X12_rooms n (nI s) x2 (up2 σ 17 s x2) = some (σ 17 s, up2 (up2 σ 17 s x2) 87 s x2) := by
      unfold s_X12_rooms; rw [noS (k := sN S) (by omega) (by rw [up2_o (by decide)]; exact m0), bd_so, e1, if_pos z_nt, i2, bd_so, e2, if_neg z_t]
      simp (disch := omega) only [ck_n, ix_n, lt_eq]
      rw [up2_o (show 87 ≠ 17 by decide), (h.2.1.2.2.2.2.2.2.2.2 s (by omega)).1]
    have f : ∀ o j, fok [(17, none), (87, none)] o j = true → up2 (up2 σ 17 s x2) 87 s x2 o j = σ o j := fun o j ho => by
      rw [up2_o (fok_a ho (by decide)), up2_o (fok_a ho (by decide))]
    obtain ⟨h1, h2, h3, h4, h5, h6, h7, h8, h9, h10, h11⟩ := h
    refine ⟨_, _, _, t1, r1, N, ma, mb, S, K, now, pu, Rs, nr, iN_of h1 (fr_sup rfl f), ?_, iT_of h3 (fr_sup rfl f), iP_of h4 (fr_sup rfl f), iX_of h5 (fr_sup rfl f), iR_of h6 (fr_sup rfl f), iC_of h7 (fr_sup rfl f), iG_of h8 (fr_sup rfl f), iV_of h9 (fr_sup rfl f), iB_of h10 (fr_sup rfl f), iO_mono (iO_of h11 (fr_sup rfl f)) (Nat.le_succ c)⟩
    obtain ⟨s1, s2, s3, s4, s5, s6, s7, s8, s9⟩ := h2
    refine ⟨s1, s2, ⟨by rw [f 11 0 rfl]; exact s3.1, fun t ht => by rw [f 12 t rfl, f 14 t rfl, f 15 t rfl, f 16 t rfl]; exact s3.2 t ht⟩, ⟨by rw [f 71 11 rfl]; exact s4.1, fun t ht => by rw [f 81 t rfl, f 82 t rfl, f 83 t rfl, f 84 t rfl, f 85 t rfl]; exact s4.2 t ht⟩, fun t ht => ?_, fun t ht => by rw [f 86 t rfl, f 88 t rfl]; exact s6 t ht, fun t ht => by rw [f 13 t rfl, f 82 t rfl]; exact s7 t ht, fun t a b => by rw [f 24 t rfl, f 88 t rfl]; exact s8 t a b, fun t ht => ?_⟩
    · show up2 (up2 σ 17 s x2) 87 s x2 23 t = _ ∧ up2 (up2 σ 17 s x2) 87 s x2 24 t = _
      rw [f 23 t rfl, f 24 t rfl]; exact s5 t ht
    · rw [f 18 t rfl, f 19 t rfl, f 20 t rfl, f 21 t rfl, f 89 t rfl, f 90 t rfl, f 91 t rfl, f 92 t rfl]
      have := s9 t ht
      refine ⟨?_, this.2⟩
      by_cases e : t = s
      · rw [e]; simp [up2_app]
      · simp only [up2_app, e, if_false, ite_self]
        exact this.1
theorem pump_go {n a b : Nat} {v : Int32} {pu : Nat → Int32} (hb : b < 24) : ∀ (e h k : Nat) (σ : Sg), h + e = b + 1 → a ≤ h → e < k → (∀ x, x < 24 → σ 40 x = if a ≤ x ∧ x < h then v else pu x) → ∃ τ, s_X11_pump_48 n k (nI b) v (nI h) σ = some (1, τ) ∧ ∀ x, x < 24 → τ 40 x = if a ≤ x ∧ x < b + 1 then v else pu x := by
  intro e
  induction e with
  | zero =>
    intro h k σ he ha hk hd
    obtain ⟨k, rfl⟩ : ∃ k', k = k' + 1 := ⟨k - 1, by omega⟩
    have he : h = b + 1 := by omega
    subst he
    refine ⟨σ, ?_, hd⟩
    show s_X11_pump_48b n _ _ _ _ _ = _
    unfold s_X11_pump_48b
    rw [if_pos (by rw [nlt (by omega) (by omega)]; omega)]
  | succ e ih =>
    intro h k σ he ha hk hd
    obtain ⟨k, rfl⟩ : ∃ k', k = k' + 1 := ⟨k - 1, by omega⟩
    show ∃ τ, s_X11_pump_48b n (s_X11_pump_48 n k) _ _ _ _ = _ ∧ _
    unfold s_X11_pump_48b
    rw [if_neg (by rw [nlt (by omega) (by omega)]; omega), ck_n (by omega) (by omega), ix_n (by omega), lt_eq, show nI h + 1 = nI (h + 1) from nI_1 h]
    refine ih (h + 1) k _ (by omega) (by omega) (by omega) (fun x hx => ?_)
    by_cases e1 : x = h
    · rw [e1, up2_app, if_pos rfl, if_pos rfl, if_pos (by omega)]
    · simp only [up2_app, e1, if_false, ite_self]
      rw [hd x hx]
      by_cases e2 : a ≤ x ∧ x < h
      · rw [if_pos e2, if_pos (by omega)]
      · rw [if_neg e2, if_neg (by omega)]
theorem mpump_go {n a b : Nat} {v : Int32} {pu : Nat → Int32} (hb : b < 24) : ∀ (e h k : Nat) (σ : Sg), h + e = b + 1 → a ≤ h → e < k → (∀ x, x < 24 → σ 72 x = if a ≤ x ∧ x < h then v else pu x) → ∃ τ, s_X12_pump_39 n k (nI b) v (nI h) σ = some (1, τ) ∧ ∀ x, x < 24 → τ 72 x = if a ≤ x ∧ x < b + 1 then v else pu x := by
  intro e
  induction e with
  | zero =>
    intro h k σ he ha hk hd
    obtain ⟨k, rfl⟩ : ∃ k', k = k' + 1 := ⟨k - 1, by omega⟩
    have he : h = b + 1 := by omega
    subst he
    refine ⟨σ, ?_, hd⟩
    show s_X12_pump_39b n _ _ _ _ _ = _
    unfold s_X12_pump_39b
    rw [if_pos (by rw [nlt (by omega) (by omega)]; omega)]
  | succ e ih =>
    intro h k σ he ha hk hd
    obtain ⟨k, rfl⟩ : ∃ k', k = k' + 1 := ⟨k - 1, by omega⟩
    show ∃ τ, s_X12_pump_39b n (s_X12_pump_39 n k) _ _ _ _ = _ ∧ _
    unfold s_X12_pump_39b
    rw [if_neg (by rw [nlt (by omega) (by omega)]; omega), ck_n (by omega) (by omega), ix_n (by omega), lt_eq, show nI h + 1 = nI (h + 1) from nI_1 h]
    refine ih (h + 1) k _ (by omega) (by omega) (by omega) (fun x hx => ?_)
    by_cases e1 : x = h
    · rw [e1, up2_app, if_pos rfl, if_pos rfl, if_pos (by omega)]
    · simp only [up2_app, e1, if_false, ite_self]
      rw [hd x hx]
      by_cases e2 : a ≤ x ∧ x < h
      · rw [if_pos e2, if_pos (by omega)]
      · rw [if_neg e2, if_neg (by omega)]
theorem st_pump {n c : Nat} {x1 x2 x3 : Int32} {σ : Sg} (hn : 300000 ≤ n) (hc : c < 600) (h : Inv c σ) : wStp c (s_X11_pump n x1 x2 x3) (s_X12_pump n x1 x2 x3) σ := by
  obtain ⟨N, ma, mb, S, K, now, pu, Rs, nr, h⟩ := h
  have i2 : ∀ σ, s_X12_in n x2.toInt64 x1.toInt64 23 σ = some (zo (inb x1 x2 23), σ) := fun σ => inb_ok n x2 x1 23 σ
  have i3 : ∀ σ, s_X12_in n x3.toInt64 0 9999 σ = some (zo (inb 0 x3 9999), σ) := fun σ => inb_ok n x3 0 9999 σ
  cases e1 : inb 0 x1 23
  · refine ⟨-1002, σ, σ, ?_, ?_, Inv_s h⟩
    · unfold s_X11_pump; simp only [out_ok, bd_so, e1]; rfl
    · unfold s_X12_pump; simp only [hour12, bd_so, e1]; rfl
  cases e2 : inb x1 x2 23
  · refine ⟨-1002, σ, σ, ?_, ?_, Inv_s h⟩
    · unfold s_X11_pump; simp only [out_ok, bd_so, e1, e2]; rfl
    · unfold s_X12_pump; simp only [hour12, i2, bd_so, e1, e2]; rfl
  cases e3 : inb 0 x3 9999
  · refine ⟨-1002, σ, σ, ?_, ?_, Inv_s h⟩
    · unfold s_X11_pump; simp only [out_ok, bd_so, e1, e2, e3]; rfl
    · unfold s_X12_pump; simp only [hour12, i2, i3, bd_so, e1, e2, e3]; rfl
  · obtain ⟨a, rfl, _, ha⟩ := rng (a := 0) (c := 23) (by omega) (by omega) e1
    obtain ⟨b, rfl, hb1, hb2⟩ := rng (a := a) (c := 23) (by omega) (by omega) e2
    obtain ⟨v, rfl, _, hv⟩ := rng (a := 0) (c := 9999) (by omega) (by omega) e3
    have hP := h.2.2.2.1
    obtain ⟨τ, t1, t2⟩ := pump_go (n := n) (a := a) (v := nI v) (pu := pu) (show b < 24 by omega) (b + 1 - a) a n (up2 σ 0 15 (σ 0 15 + 1)) (by omega) (by omega) (by omega) (fun x hx => by rw [up2_o (by decide), (hP x hx).1.1, if_neg (by omega)])
    have t1' : s_X11_pump n (nI a) (nI b) (nI v) σ = some (1, τ) := by
      unfold s_X11_pump; simp only [out_ok, bd_so, e1, e2, e3]; rw [if_pos z_nt, if_pos z_nt, if_pos z_nt, lt_eq]; exact t1
    have ft : ∀ o j, fok W_X11_pump o j = true → τ o j = σ o j := fun o j ho => fr_s_X11_pump ho _ _ _ _ t1'
    have f15 : τ 0 15 = σ 0 15 + 1 := by
      have : ∀ o j, fok [(40, none)] o j = true → τ o j = up2 σ 0 15 (σ 0 15 + 1) o j := fun o j ho => by
        have key : ∀ (k : Nat) (x2 x3 x4 : Int32) (ρ : Sg), s_X11_pump_48 n k x2 x3 x4 ρ = some (1, τ) → o ≠ 40 → τ o j = ρ o j := by
          intro k
          induction k with
          | zero => intro x2 x3 x4 ρ h; cases h
          | succ k ih =>
            intro x2 x3 x4 ρ h ho
            have h : s_X11_pump_48b n (s_X11_pump_48 n k) x2 x3 x4 ρ = some (1, τ) := h
            unfold s_X11_pump_48b at h
            rcases ite_of h with h | h
            · cases h; rfl
            · have h := (ck_of h).2
              rw [lt_eq] at h
              rw [ih _ _ _ _ h ho, up2_o ho]
        exact key n _ _ _ _ t1 (fok_a ho (by decide))
      rw [this 0 15 rfl]
      simp [up2_app]
    obtain ⟨ρ, r1, r2⟩ := mpump_go (n := n) (a := a) (v := nI v) (pu := pu) (show b < 24 by omega) (b + 1 - a) a n τ (by omega) (by omega) (by omega) (fun x hx => by rw [ft 72 x rfl, (hP x hx).1.2, if_neg (by omega)])
    have r1' : s_X12_pump n (nI a) (nI b) (nI v) τ = some (1, ρ) := by
      unfold s_X12_pump; simp only [hour12, i2, i3, bd_so, e1, e2, e3]; rw [if_neg z_t, if_neg z_t, if_neg z_t]; exact r1
    have fr : ∀ o j, fok W_X12_pump o j = true → ρ o j = τ o j := fun o j ho => fr_s_X12_pump ho _ _ _ _ r1'
    have f : ∀ o j, fok (W_X11_pump ++ W_X12_pump) o j = true → ρ o j = σ o j := fun o j ho => (fr o j (fok_app ho).2).trans (ft o j (fok_app ho).1)
    obtain ⟨h1, h2, h3, h4, h5, h6, h7, h8, h9, h10, h11⟩ := h
    refine ⟨_, _, _, t1', r1', N, ma, mb, S, K, now, fun x => if a ≤ x ∧ x < b + 1 then nI v else pu x, Rs, nr, iN_of h1 (fr_sup rfl f), iS_of h2 (fr_sup rfl f), iT_of h3 (fr_sup rfl f), fun x hx => ?_, iX_of h5 (fr_sup rfl f), iR_of h6 (fr_sup rfl f), iC_of h7 (fr_sup rfl f), iG_of h8 (fr_sup rfl f), iV_of h9 (fr_sup rfl f), iB_of h10 (fr_sup rfl f), iO_up (by omega) h11 (by rw [fr 0 15 rfl]; exact f15) (f 51 10 rfl)⟩
    refine ⟨⟨by rw [fr 40 x rfl]; exact t2 x hx, r2 x hx⟩, ?_⟩
    show 0 ≤ (if a ≤ x ∧ x < b + 1 then nI v else pu x).toInt ∧ (if a ≤ x ∧ x < b + 1 then nI v else pu x).toInt ≤ 9999
    by_cases e : a ≤ x ∧ x < b + 1
    · rw [if_pos e, ni_int (by omega)]
      exact ⟨by omega, by omega⟩
    · rw [if_neg e]
      exact (h4 x hx).2
