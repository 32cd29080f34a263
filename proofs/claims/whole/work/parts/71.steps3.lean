/-! ===== one call, both sides: street, gauge, guess, count ===== -/
theorem build11 {n ns a N' Q W Z : Nat} {x6 : Int32} {σ : Sg} (hs : ns < 10) (h : σ 11 0 = nI ns) (h1 : a < 10) (h2 : inb 1 (nI N') 99 = true) (h3 : inb 1 (nI Q) 9 = true) (h4 : inb 0 (nI W) 99 = true) (h5 : inb 0 (nI Z) 999 = true) (h6 : inb 0 x6 1 = true) : ∃ τ, s_X11_street n (nI a) (nI N') (nI Q) (nI W) (nI Z) x6 σ = some (nI ns, τ) ∧ τ 0 15 = σ 0 15 + 1 ∧ τ 11 0 = nI (ns + 1) ∧ (τ 12 ns = nI a ∧ τ 13 ns = nI N' ∧ τ 14 ns = nI (N' * Q) ∧ τ 15 ns = nI W ∧ τ 16 ns = nI Z ∧ τ 23 ns = x6) ∧ ∀ o j, 12 ≤ o → o ≤ 23 → j ≠ ns → τ o j = σ o j := by
  unfold s_X11_street
  have ia : inb 0 (nI a) 9 = true := by unfold inb; rw [decide_eq_true (n_nn (by omega)), decide_eq_true (by rw [show (9 : Int32) = nI 9 from rfl, nle (by omega) (by omega)]; omega)]; rfl
  simp only [node11, out_ok, bd_so, ia, h2, h3, h4, h5, h6]
  rw [if_neg z_t, if_pos z_nt, if_pos z_nt, if_pos z_nt, if_pos z_nt, if_pos z_nt, h, if_pos (by rw [show (10 : Int32) = nI 10 from rfl, nlt (by omega) (by omega)]; omega), lt_eq]
  unfold s_X8_build
  have e : up2 σ 0 15 (σ 0 15 + 1) 11 0 = nI ns := by rw [up2_o (by decide)]; exact h
  rw [e]
  simp (disch := omega) only [ck_n, ix_n, lt_eq, bd_so, nmul]
  refine ⟨_, rfl, ?_, ?_, ?_, ?_⟩
  · simp [up2_app]
  · simp [up2_app, h, nI_1]
  · simp [up2_app]
  · intro o j o1 o2 hj
    have q1 : ¬ o = 11 := by omega
    have q2 : ¬ o = 0 := by omega
    simp only [up2_app, hj, q1, q2, if_false, ite_self]
theorem build12 {n ns a N' Q W Z : Nat} {b : Bool} {σ : Sg} (hs : ns < 10) (h : σ 71 11 = nI ns) (h1 : a < 10) (h2 : inb 1 (nI N') 99 = true) (h3 : inb 1 (nI Q) 9 = true) (h4 : inb 0 (nI W) 99 = true) (h5 : inb 0 (nI Z) 999 = true) : ∃ τ, s_X12_street n (nI a) (nI N') (nI Q) (nI W) (nI Z) (zo b) σ = some (nI ns, τ) ∧ τ 71 11 = nI (ns + 1) ∧ (τ 81 ns = nI a ∧ τ 82 ns = nI N' ∧ τ 83 ns = nI Q ∧ τ 84 ns = nI W ∧ τ 85 ns = nI Z ∧ τ 86 ns = zo b) ∧ ∀ o j, 81 ≤ o → o ≤ 86 → j ≠ ns → τ o j = σ o j := by
  unfold s_X12_street
  have ia : inb 0 (nI a) 9 = true := by unfold inb; rw [decide_eq_true (n_nn (by omega)), decide_eq_true (by rw [show (9 : Int32) = nI 9 from rfl, nle (by omega) (by omega)]; omega)]; rfl
  have h6 : inb 0 (zo b) 1 = true := by cases b <;> decide
  have i2 : ∀ σ, s_X12_in n (nI N').toInt64 1 99 σ = some (zo (inb 1 (nI N') 99), σ) := fun σ => inb_ok n (nI N') 1 99 σ
  have i3 : ∀ σ, s_X12_in n (nI Q).toInt64 1 9 σ = some (zo (inb 1 (nI Q) 9), σ) := fun σ => inb_ok n (nI Q) 1 9 σ
  have i4 : ∀ σ, s_X12_in n (nI W).toInt64 0 99 σ = some (zo (inb 0 (nI W) 99), σ) := fun σ => inb_ok n (nI W) 0 99 σ
  have i5 : ∀ σ, s_X12_in n (nI Z).toInt64 0 999 σ = some (zo (inb 0 (nI Z) 999), σ) := fun σ => inb_ok n (nI Z) 0 999 σ
  have i6 : ∀ σ, s_X12_in n (zo b).toInt64 0 1 σ = some (zo (inb 0 (zo b) 1), σ) := fun σ => inb_ok n (zo b) 0 1 σ
  simp only [node12, i2, i3, i4, i5, i6, bd_so, ia, h2, h3, h4, h5, h6]
  rw [if_neg z_t, if_neg z_t, if_neg z_t, if_neg z_t, if_neg z_t, if_neg z_t, if_neg (by rw [h, show (10 : Int32) = nI 10 from rfl, neq (by omega) (by omega)]; omega)]
  have u : ∀ (ρ : Sg) (o j : Nat) (v : Int32), o ≠ 71 → up2 ρ o j v 71 11 = ρ 71 11 := fun ρ o j v ho => up2_o (Ne.symm ho)
  have hb : (if zo b = 1 then (1 : Int32) else 0) = zo b := by cases b <;> rfl
  unfold s_X12_street_160
  simp (disch := omega) only [lt_eq, u, h, ck_n, ix_n, hb, nar_b]
  have k : ∀ ρ : Sg, up2 ρ 71 11 (nI ns + 1) 71 11 - (1 : Int32) = nI ns := fun ρ => by
    rw [up2_app, if_pos rfl, if_pos rfl, nI_1, show (1 : Int32) = nI 1 from rfl, nsub (by omega)]
    rfl
  rw [k]
  refine ⟨_, rfl, ?_, ?_, ?_⟩
  · simp [up2_app, nI_1]
  · simp [up2_app]
  · intro o j o1 o2 hj
    have q1 : ¬ o = 71 := by omega
    simp only [up2_app, hj, q1, if_false, ite_self]
theorem st_street {n c : Nat} {x1 x2 x3 x4 x5 x6 : Int32} {σ : Sg} (hc : c < 600) (h : Inv c σ) : wStp c (s_X11_street n x1 x2 x3 x4 x5 x6) (s_X12_street n x1 x2 x3 x4 x5 x6) σ := by
  obtain ⟨N, ma, mb, S, K, now, pu, Rs, nr, h⟩ := h
  have hs := h.2.1.1.1
  have c0 : σ 11 0 = nI (sN S) := h.2.1.2.2.1.1
  have m0 : σ 71 11 = nI (sN S) := h.2.1.2.2.2.1.1
  have i2 : ∀ σ, s_X12_in n x2.toInt64 1 99 σ = some (zo (inb 1 x2 99), σ) := fun σ => inb_ok n x2 1 99 σ
  have i3 : ∀ σ, s_X12_in n x3.toInt64 1 9 σ = some (zo (inb 1 x3 9), σ) := fun σ => inb_ok n x3 1 9 σ
  have i4 : ∀ σ, s_X12_in n x4.toInt64 0 99 σ = some (zo (inb 0 x4 99), σ) := fun σ => inb_ok n x4 0 99 σ
  have i5 : ∀ σ, s_X12_in n x5.toInt64 0 999 σ = some (zo (inb 0 x5 999), σ) := fun σ => inb_ok n x5 0 999 σ
  have i6 : ∀ σ, s_X12_in n x6.toInt64 0 1 σ = some (zo (inb 0 x6 1), σ) := fun σ => inb_ok n x6 0 1 σ
  have ref : ∀ r, s_X11_street n x1 x2 x3 x4 x5 x6 σ = some (r, σ) → s_X12_street n x1 x2 x3 x4 x5 x6 σ = some (r, σ) → wStp c (s_X11_street n x1 x2 x3 x4 x5 x6) (s_X12_street n x1 x2 x3 x4 x5 x6) σ := fun r a b => ⟨r, σ, σ, a, b, Inv_s h⟩
  cases e1 : inb 0 x1 9
  · refine ref (-1001) ?_ ?_
    · unfold s_X11_street; simp only [node11, bd_so, e1]; rfl
    · unfold s_X12_street; simp only [node12, bd_so, e1]; rfl
  cases e2 : inb 1 x2 99
  · refine ref (-1002) ?_ ?_
    · unfold s_X11_street; simp only [node11, out_ok, bd_so, e1, e2]; rfl
    · unfold s_X12_street; simp only [node12, i2, bd_so, e1, e2]; rfl
  cases e3 : inb 1 x3 9
  · refine ref (-1002) ?_ ?_
    · unfold s_X11_street; simp only [node11, out_ok, bd_so, e1, e2, e3]; rfl
    · unfold s_X12_street; simp only [node12, i2, i3, bd_so, e1, e2, e3]; rfl
  cases e4 : inb 0 x4 99
  · refine ref (-1002) ?_ ?_
    · unfold s_X11_street; simp only [node11, out_ok, bd_so, e1, e2, e3, e4]; rfl
    · unfold s_X12_street; simp only [node12, i2, i3, i4, bd_so, e1, e2, e3, e4]; rfl
  cases e5 : inb 0 x5 999
  · refine ref (-1002) ?_ ?_
    · unfold s_X11_street; simp only [node11, out_ok, bd_so, e1, e2, e3, e4, e5]; rfl
    · unfold s_X12_street; simp only [node12, i2, i3, i4, i5, bd_so, e1, e2, e3, e4, e5]; rfl
  cases e6 : inb 0 x6 1
  · refine ref (-1002) ?_ ?_
    · unfold s_X11_street; simp only [node11, out_ok, bd_so, e1, e2, e3, e4, e5, e6]; rfl
    · unfold s_X12_street; simp only [node12, i2, i3, i4, i5, i6, bd_so, e1, e2, e3, e4, e5, e6]; rfl
  by_cases hf : sN S < 10
  · obtain ⟨a, rfl, _, ha⟩ := rng (a := 0) (c := 9) (by omega) (by omega) e1
    obtain ⟨N', rfl, n1, n2⟩ := rng (a := 1) (c := 99) (by omega) (by omega) e2
    obtain ⟨Q, rfl, q1, q2⟩ := rng (a := 1) (c := 9) (by omega) (by omega) e3
    obtain ⟨W, rfl, _, w2⟩ := rng (a := 0) (c := 99) (by omega) (by omega) e4
    obtain ⟨Z, rfl, _, z2⟩ := rng (a := 0) (c := 999) (by omega) (by omega) e5
    obtain ⟨kd, hkd, _, k2⟩ := rng (a := 0) (c := 1) (by omega) (by omega) e6
    obtain ⟨b, rfl⟩ : ∃ b, x6 = zo b := by
      rcases (show kd = 0 ∨ kd = 1 by omega) with e | e
      · exact ⟨false, by rw [hkd, e]; rfl⟩
      · exact ⟨true, by rw [hkd, e]; rfl⟩
    have hNQ : N' * Q ≤ 891 := Nat.le_trans (Nat.mul_le_mul n2 q2) (by decide)
    obtain ⟨τ, t1, t2, t3, t4, t5⟩ := build11 (n := n) (σ := σ) hf c0 (show a < 10 by omega) e2 e3 e4 e5 e6
    have ft : ∀ o j, fok W_X11_street o j = true → τ o j = σ o j := fun o j ho => fr_s_X11_street ho _ _ _ _ _ _ _ t1
    obtain ⟨ρ, r1, r2, r3, r4⟩ := build12 (n := n) (σ := τ) (b := b) hf (by rw [ft 71 11 rfl]; exact m0) (show a < 10 by omega) e2 e3 e4 e5
    have fr : ∀ o j, fok W_X12_street o j = true → ρ o j = τ o j := fun o j ho => fr_s_X12_street ho _ _ _ _ _ _ _ r1
    have f : ∀ o j, fok (W_X11_street ++ W_X12_street) o j = true → ρ o j = σ o j := fun o j ho => (fr o j (fok_app ho).2).trans (ft o j (fok_app ho).1)
    obtain ⟨h1, h2, h3, h4, h5, h6, h7, h8, h9, h10, h11⟩ := h
    refine ⟨nI (sN S), τ, ρ, t1, r1, N, ma, mb, (sN S + 1, updN (sD S) (sN S) a, updI (sQ S) (sN S) (nI (N' * Q)), updI (sW S) (sN S) (nI W), updI (sZ S) (sN S) (nI Z)), (fun t => if t = sN S then b else K.1 t, K.2), now, pu, Rs, nr, iN_of h1 (fr_sup rfl f), ?_, iT_of h3 (fr_sup rfl f), iP_of h4 (fr_sup rfl f), iX_of h5 (fr_sup rfl f), iR_of h6 (fr_sup rfl f), iC_of h7 (fr_sup rfl f), iG_of h8 (fr_sup rfl f), iV_of h9 (fr_sup rfl f), iB_of h10 (fr_sup rfl f), iO_up (by omega) h11 (by rw [fr 0 15 rfl]; exact t2) (f 51 10 rfl)⟩
    obtain ⟨s1, s2, s3, s4, s5, s6, s7, s8, s9⟩ := h2
    have z0 := s8 (sN S) (Nat.le_refl _) hf
    refine ⟨⟨by show sN S + 1 ≤ 10; omega, fun t ht => ?_⟩, ⟨fun t ht => ?_, fun t ht => s2.2 t (by have : sN S + 1 ≤ t := ht; omega)⟩, ⟨by rw [fr 11 0 rfl]; exact t3, fun t ht => ?_⟩, ⟨r2, fun t ht => ?_⟩, fun t ht => ?_, fun t ht => ?_, fun t ht => ?_, fun t a b => by rw [f 24 t rfl, f 88 t rfl]; exact s8 t (by have : sN S + 1 ≤ t := a; omega) b, fun t ht => by rw [f 17 t rfl, f 18 t rfl, f 19 t rfl, f 20 t rfl, f 21 t rfl, f 87 t rfl, f 89 t rfl, f 90 t rfl, f 91 t rfl, f 92 t rfl]; exact s9 t ht⟩
    · have ht' : t < sN S + 1 := ht
      show updN (sD S) (sN S) a t < 10 ∧ 0 ≤ (updI (sQ S) (sN S) (nI (N' * Q)) t).toInt ∧ (updI (sQ S) (sN S) (nI (N' * Q)) t).toInt ≤ 891 ∧ 0 ≤ (updI (sW S) (sN S) (nI W) t).toInt ∧ (updI (sW S) (sN S) (nI W) t).toInt ≤ 99 ∧ 0 ≤ (updI (sZ S) (sN S) (nI Z) t).toInt ∧ (updI (sZ S) (sN S) (nI Z) t).toInt ≤ 999
      unfold updN updI
      by_cases e : t = sN S
      · rw [if_pos e, if_pos e, if_pos e, if_pos e, ni_int (by omega), ni_int (by omega), ni_int (by omega)]
        exact ⟨by omega, by omega, by omega, by omega, by omega, by omega, by omega⟩
      · rw [if_neg e, if_neg e, if_neg e, if_neg e]
        exact s1.2 t (by omega)
    · have ht' : t < sN S + 1 := ht
      show 0 ≤ (K.2 t).toInt ∧ (K.2 t).toInt ≤ (updI (sZ S) (sN S) (nI Z) t).toInt
      unfold updI
      by_cases e : t = sN S
      · rw [if_pos e, s2.2 t (by omega), ni_int (by omega)]
        exact ⟨by decide, by rw [show (0 : Int32).toInt = 0 by decide]; omega⟩
      · rw [if_neg e]
        exact s2.1 t (by omega)
    · have ht' : t < sN S + 1 := ht
      show ρ 12 t = nI (updN (sD S) (sN S) a t) ∧ ρ 14 t = updI (sQ S) (sN S) (nI (N' * Q)) t ∧ ρ 15 t = updI (sW S) (sN S) (nI W) t ∧ ρ 16 t = updI (sZ S) (sN S) (nI Z) t
      rw [fr 12 t rfl, fr 14 t rfl, fr 15 t rfl, fr 16 t rfl]
      unfold updN updI
      by_cases e : t = sN S
      · rw [if_pos e, if_pos e, if_pos e, if_pos e, e]
        exact ⟨t4.1, t4.2.2.1, t4.2.2.2.1, t4.2.2.2.2.1⟩
      · rw [if_neg e, if_neg e, if_neg e, if_neg e, t5 12 t (by omega) (by omega) e, t5 14 t (by omega) (by omega) e, t5 15 t (by omega) (by omega) e, t5 16 t (by omega) (by omega) e]
        exact s3.2 t (by omega)
    · have ht' : t < sN S + 1 := ht
      show ρ 81 t = nI (updN (sD S) (sN S) a t) ∧ ρ 82 t * ρ 83 t = updI (sQ S) (sN S) (nI (N' * Q)) t ∧ ρ 84 t = updI (sW S) (sN S) (nI W) t ∧ ρ 85 t = updI (sZ S) (sN S) (nI Z) t
      unfold updN updI
      by_cases e : t = sN S
      · rw [if_pos e, if_pos e, if_pos e, if_pos e, e, r3.2.1, r3.2.2.1, nmul]
        exact ⟨r3.1, rfl, r3.2.2.2.1, r3.2.2.2.2.1⟩
      · rw [if_neg e, if_neg e, if_neg e, if_neg e, r4 81 t (by omega) (by omega) e, r4 82 t (by omega) (by omega) e, r4 83 t (by omega) (by omega) e, r4 84 t (by omega) (by omega) e, r4 85 t (by omega) (by omega) e, ft 81 t rfl, ft 82 t rfl, ft 83 t rfl, ft 84 t rfl, ft 85 t rfl]
        exact s4.2 t (by omega)
    · have ht' : t < sN S + 1 := ht
      show ρ 23 t = zo (if t = sN S then b else K.1 t) ∧ ρ 24 t = K.2 t
      rw [fr 23 t rfl, f 24 t rfl]
      by_cases e : t = sN S
      · rw [if_pos e, s2.2 t (by omega), e]
        exact ⟨t4.2.2.2.2.2, z0.1⟩
      · rw [if_neg e, t5 23 t (by omega) (by omega) e]
        exact s5 t (by omega)
    · have ht' : t < sN S + 1 := ht
      show ρ 86 t = zo (if t = sN S then b else K.1 t) ∧ ρ 88 t = K.2 t
      rw [f 88 t rfl]
      by_cases e : t = sN S
      · rw [if_pos e, s2.2 t (by omega), e]
        exact ⟨r3.2.2.2.2.2, z0.2⟩
      · rw [if_neg e, r4 86 t (by omega) (by omega) e, ft 86 t rfl]
        exact s6 t (by omega)
    · have ht' : t < sN S + 1 := ht
      rw [fr 13 t rfl]
      by_cases e : t = sN S
      · rw [e, t4.2.1, r3.2.1]
      · rw [t5 13 t (by omega) (by omega) e, r4 82 t (by omega) (by omega) e, ft 82 t rfl]
        exact s7 t (by omega)
  · have hf2 : sN S = 10 := by omega
    refine ref (-1004) ?_ ?_
    · unfold s_X11_street; simp only [node11, out_ok, bd_so, e1, e2, e3, e4, e5, e6]; rw [if_neg z_t, if_pos z_nt, if_pos z_nt, if_pos z_nt, if_pos z_nt, if_pos z_nt, c0, hf2, if_neg (by decide)]
    · unfold s_X12_street; simp only [node12, i2, i3, i4, i5, i6, bd_so, e1, e2, e3, e4, e5, e6]; rw [if_neg z_t, if_neg z_t, if_neg z_t, if_neg z_t, if_neg z_t, if_neg z_t, m0, hf2, if_pos (by decide)]
theorem ush01 {k : Nat} {x : Int32} (hk : k < 32) : (ball k x ∧ ush x (nI k) = 0 ∧ ¬ x < 0 ∧ sr x (nI k) = 0) ∨ (¬ ush x (nI k) = 0 ∧ (x < 0 ∨ ¬ sr x (nI k) = 0)) := by
  by_cases h : ush x (nI k) = 0
  · have hb := (ush_ball hk).mp h
    refine .inl ⟨hb, h, fun z => ?_, (sr_ball hk).mpr hb⟩
    have := neg_b31 z
    rw [hb 31 (by omega) (by omega)] at this
    cases this
  · exact .inr ⟨h, .inr (fun z => h ((ush_ball hk).mpr ((sr_ball hk).mp z)))⟩
theorem st_gauge {n c : Nat} {x1 x2 : Int32} {σ : Sg} (h : Inv c σ) : wStp c (s_X11_gauge n x1 x2) (s_X12_gauge n x1 x2) σ := by
  obtain ⟨N, ma, mb, S, K, now, pu, Rs, nr, h⟩ := h
  have hp := h.1.1.1
  have c0 : σ 3 0 = nI (nP N) := h.1.2.1.1
  have m0 : σ 71 2 = nI (nP N) := h.1.2.2.1.1
  have i2 : ∀ σ, s_X12_in n x2.toInt64 0 9999 σ = some (zo (inb 0 x2 9999), σ) := fun σ => inb_ok n x2 0 9999 σ
  rcases ush01 (k := nP N) (x := x1) (by omega) with ⟨u1, u2, u3, u4⟩ | ⟨u2, u3⟩
  · cases e2 : inb 0 x2 9999
    · refine ⟨-1002, σ, σ, ?_, ?_, Inv_s h⟩
      · unfold s_X11_gauge; rw [hasAll4 (by omega) c0, if_pos u2, bd_so, if_neg (by decide), out_ok, bd_so, e2]; rfl
      · unfold s_X12_gauge; rw [if_neg u3, m0, if_pos u4, i2, bd_so, e2]; rfl
    · obtain ⟨M, w, ng, G, V, g1, g2, g3, g4, g5⟩ := h.2.2.2.2.2.2.2.1
      by_cases hf : ng < 6
      · have t1 : s_X11_gauge n x1 x2 σ = some (nI (ng + 1), up2 (up2 (up2 σ 64 ng x1) 65 ng x2) 63 0 (nI (ng + 1))) := by
          unfold s_X11_gauge; rw [hasAll4 (by omega) c0, if_pos u2, bd_so, if_neg (by decide), out_ok, bd_so, e2, if_pos z_nt, g4.2.1, if_pos (by rw [show (6 : Int32) = nI 6 from rfl, nlt (by omega) (by omega)]; exact hf)]
          unfold s_X1_put
          have u : ∀ (ρ : Sg) (o j : Nat) (v : Int32), o ≠ 63 → up2 ρ o j v 63 0 = ρ 63 0 := fun ρ o j v ho => up2_o (Ne.symm ho)
          simp (disch := omega) only [lt_eq, u, g4.2.1, ck_n, ix_n, bd_so, nI_1]
          rw [up2_app, if_pos rfl, if_pos rfl]
        have r1 : s_X12_gauge n x1 x2 (up2 (up2 (up2 σ 64 ng x1) 65 ng x2) 63 0 (nI (ng + 1))) = some (nI (ng + 1), up2 (up2 (up2 (up2 (up2 (up2 σ 64 ng x1) 65 ng x2) 63 0 (nI (ng + 1))) 115 ng x1) 116 ng x2) 71 66 (nI (ng + 1))) := by
          unfold s_X12_gauge
          have q2 : up2 (up2 (up2 σ 64 ng x1) 65 ng x2) 63 0 (nI (ng + 1)) 71 2 = nI (nP N) := by rw [up2_o (by decide), up2_o (by decide), up2_o (by decide)]; exact m0
          have q6 : up2 (up2 (up2 σ 64 ng x1) 65 ng x2) 63 0 (nI (ng + 1)) 71 66 = nI ng := by rw [up2_o (by decide), up2_o (by decide), up2_o (by decide)]; exact g5.2.1
          rw [if_neg u3, q2, if_pos u4, i2, bd_so, e2, if_neg z_t, q6, if_neg (by rw [show (6 : Int32) = nI 6 from rfl, neq (by omega) (by omega)]; omega)]
          have u : ∀ (ρ : Sg) (o j : Nat) (v : Int32), o ≠ 71 → up2 ρ o j v 71 66 = ρ 71 66 := fun ρ o j v ho => up2_o (Ne.symm ho)
          simp (disch := omega) only [lt_eq, u, g5.2.1, ck_n, ix_n, nI_1]
          rw [up2_app, if_pos rfl, if_pos rfl]
        have f : ∀ o j, fok [(63, some 0), (64, none), (65, none), (71, some 66), (115, none), (116, none)] o j = true → up2 (up2 (up2 (up2 (up2 (up2 σ 64 ng x1) 65 ng x2) 63 0 (nI (ng + 1))) 115 ng x1) 116 ng x2) 71 66 (nI (ng + 1)) o j = σ o j := fun o j ho => by
          rw [up2_f ho (by decide), up2_o (fok_a ho (by decide)), up2_o (fok_a ho (by decide)), up2_f ho (by decide), up2_o (fok_a ho (by decide)), up2_o (fok_a ho (by decide))]
        obtain ⟨h1, h2, h3, h4, h5, h6, h7, h8, h9, h10, h11⟩ := h
        refine ⟨_, _, _, t1, r1, N, ma, mb, S, K, now, pu, Rs, nr, iN_of h1 (fr_sup rfl f), iS_of h2 (fr_sup rfl f), iT_of h3 (fr_sup rfl f), iP_of h4 (fr_sup rfl f), iX_of h5 (fr_sup rfl f), iR_of h6 (fr_sup rfl f), iC_of h7 (fr_sup rfl f), ?_, iV_of h9 (fr_sup rfl f), iB_of h10 (fr_sup rfl f), iO_mono (iO_of h11 (fr_sup rfl f)) (Nat.le_succ c)⟩
        refine ⟨M, w, ng + 1, updI G ng x1, updI V ng x2, g1, g2, by omega, ⟨by rw [f 63 1 rfl]; exact g4.1, by simp [up2_app], fun g hg => ?_, fun i hi hb => by rw [f 66 i rfl]; exact g4.2.2.2 i hi hb⟩, ⟨by rw [f 71 2 rfl]; exact m0, by simp [up2_app], fun g hg => ?_, fun i hi hb => by rw [f 80 i rfl]; exact g5.2.2.2.1 i hi hb, fun i hi => by rw [f 80 i rfl]; exact g5.2.2.2.2 i hi⟩⟩
        · unfold updI
          by_cases e : g = ng
          · rw [if_pos e, if_pos e, e]; simp [up2_app]
          · rw [if_neg e, if_neg e]
            have := g4.2.2.1 g (by omega)
            simp [up2_app, e, this]
        · unfold updI
          by_cases e : g = ng
          · rw [if_pos e, if_pos e, e]; simp [up2_app]
          · rw [if_neg e, if_neg e]
            have := g5.2.2.1 g (by omega)
            simp [up2_app, e, this]
      · have hf2 : ng = 6 := by omega
        refine ⟨-1004, σ, σ, ?_, ?_, Inv_s h⟩
        · unfold s_X11_gauge; rw [hasAll4 (by omega) c0, if_pos u2, bd_so, if_neg (by decide), out_ok, bd_so, e2, if_pos z_nt, g4.2.1, hf2, if_neg (by decide)]
        · unfold s_X12_gauge; rw [if_neg u3, m0, if_pos u4, i2, bd_so, e2, if_neg z_t, g5.2.1, hf2, if_pos (by decide)]
  · refine ⟨-1001, σ, σ, ?_, ?_, Inv_s h⟩
    · unfold s_X11_gauge; rw [hasAll4 (by omega) c0, if_neg u2, bd_so, if_pos rfl]
    · unfold s_X12_gauge
      rcases u3 with u3 | u3
      · rw [if_pos u3]
      · by_cases u4 : x1 < 0
        · rw [if_pos u4]
        · rw [if_neg u4, m0, if_neg u3]
