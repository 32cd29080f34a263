/-! ===== one call, both sides: the net ===== -/
def wStp (c : Nat) (f g : Sg → Option (Int32 × Sg)) (σ : Sg) : Prop := ∃ r σ1 σ2, f σ = some (r, σ1) ∧ g σ1 = some (r, σ2) ∧ Inv (c + 1) σ2
theorem z_t : ¬ zo true = 0 := by decide
theorem z_f : zo false = 0 := rfl
theorem z_nt : zo (!true) = 0 := rfl
theorem z_nf : ¬ zo (!false) = 0 := by decide
theorem st_river {n c : Nat} {x1 x2 : Int32} {σ : Sg} (h : Inv c σ) : wStp c (s_X11_river n x1 x2) (s_X12_river n x1 x2) σ := by
  obtain ⟨N, ma, mb, S, K, now, pu, Rs, nr, h⟩ := h
  obtain ⟨h1, h2, h3, h4, h5, h6, h7, h8, h9, h10, h11⟩ := h
  obtain ⟨r, σ1, σ2, a1, a2, a3, a4⟩ := river_ok (n := n) (x1 := x1) (x2 := x2) h9
  have f : ∀ o j, fok [(1, none), (118, none)] o j = true → σ2 o j = σ o j := fun o j ho => a4 o j ⟨fok_a ho (by decide), fok_a ho (by decide)⟩
  exact ⟨r, σ1, σ2, a1, a2, Inv_s ⟨iN_of h1 (fr_sup rfl f), iS_of h2 (fr_sup rfl f), iT_of h3 (fr_sup rfl f), iP_of h4 (fr_sup rfl f), iX_of h5 (fr_sup rfl f), iR_of h6 (fr_sup rfl f), iC_of h7 (fr_sup rfl f), iG_of h8 (fr_sup rfl f), a3, iB_of h10 (fr_sup rfl f), iO_of h11 (fr_sup rfl f)⟩⟩
theorem st_share {n c : Nat} {x1 x2 x3 x4 : Int32} {σ : Sg} (hn : 300000 ≤ n) (h : Inv c σ) : wStp c (s_X11_share n x1 x2 x3 x4) (s_X12_share n x1 x2 x3 x4) σ := by
  obtain ⟨N, ma, mb, S, K, now, pu, Rs, nr, h⟩ := h
  obtain ⟨r, a1, a2⟩ := share_ok (n := n) (x1 := x1) (x2 := x2) (x3 := x3) (x4 := x4) (by omega) h.2.2.2.2.2.2.2.2.1
  exact ⟨r, σ, σ, a1, a2, Inv_s h⟩
theorem st_beds {n c : Nat} {x1 x2 x3 x4 x5 x6 : Int32} {σ : Sg} (hn : 300000 ≤ n) (h : Inv c σ) : wStp c (s_X11_beds n x1 x2 x3 x4 x5 x6) (s_X12_beds n x1 x2 x3 x4 x5 x6) σ := by
  obtain ⟨N, ma, mb, S, K, now, pu, Rs, nr, h⟩ := h
  obtain ⟨h1, h2, h3, h4, h5, h6, h7, h8, h9, h10, h11⟩ := h
  obtain ⟨r, σ1, σ2, a1, a2, a3, a4⟩ := beds_ok (n := n) (x1 := x1) (x2 := x2) (x3 := x3) (x4 := x4) (x5 := x5) (x6 := x6) hn h10
  have f : ∀ o j, fok [(68, none), (69, none), (70, none), (117, none), (71, some 70), (71, some 71), (71, some 72), (71, some 73)] o j = true → σ2 o j = σ o j := fun o j ho => a4 o j ⟨fok_a ho (by decide), fok_a ho (by decide), fok_a ho (by decide), fok_a ho (by decide), fun z => by
    have g : ∀ k, (71, some k) ∈ [(68, none), (69, none), (70, none), (117, none), (71, some 70), (71, some 71), (71, some 72), (71, some 73)] → j ≠ k := fun k hk => by
      rcases fok_mem ho hk with q | ⟨k', q1, q2⟩
      · exact absurd z.1 q
      · cases q1; exact q2
    have b0 := g 70 (by decide)
    have b1 := g 71 (by decide)
    have b2 := g 72 (by decide)
    have b3 := g 73 (by decide)
    omega⟩
  exact ⟨r, σ1, σ2, a1, a2, Inv_s ⟨iN_of h1 (fr_sup rfl f), iS_of h2 (fr_sup rfl f), iT_of h3 (fr_sup rfl f), iP_of h4 (fr_sup rfl f), iX_of h5 (fr_sup rfl f), iR_of h6 (fr_sup rfl f), iC_of h7 (fr_sup rfl f), iG_of h8 (fr_sup rfl f), iV_of h9 (fr_sup rfl f), a3, iO_of h11 (fr_sup rfl f)⟩⟩
theorem st_explain {n c : Nat} {x1 : Int32} {σ : Sg} (hn : 300000 ≤ n) (h : Inv c σ) : wStp c (s_X11_explain n x1) (s_X12_explain n x1) σ := by
  obtain ⟨N, ma, mb, S, K, now, pu, Rs, nr, h⟩ := h
  obtain ⟨M, w, ng, G, V, g1, g2, g3, g4, g5⟩ := h.2.2.2.2.2.2.2.1
  obtain ⟨r, σ1, a1, a2, a3⟩ := explain_ok (n := n) (x1 := x1) hn g1 h.1.1.1 g2 g3 g4 g5
  have f : ∀ o j, fok [(67, none), (63, some 2), (63, some 3), (63, some 8)] o j = true → σ1 o j = σ o j := fun o j ho => a3 o j ⟨fok_a ho (by decide), fun z => by
    have g : ∀ k, (63, some k) ∈ [(67, none), (63, some 2), (63, some 3), (63, some 8)] → j ≠ k := fun k hk => by
      rcases fok_mem ho hk with q | ⟨k', q1, q2⟩
      · exact absurd z.1 q
      · cases q1; exact q2
    have b0 := g 2 (by decide)
    have b1 := g 3 (by decide)
    have b2 := g 8 (by decide)
    omega⟩
  exact ⟨r, σ1, σ1, a1, a2, Inv_s (InvD_of h (fr_sup rfl f))⟩
theorem st_fault {n c : Nat} {σ : Sg} (h : Inv c σ) : wStp c (s_X11_fault n) (s_X12_fault n) σ := by
  obtain ⟨N, ma, mb, S, K, now, pu, Rs, nr, h⟩ := h
  refine ⟨σ 25 1, σ, σ, rfl, ?_, Inv_s h⟩
  unfold s_X12_fault
  rw [h.2.2.2.2.1.1]
def updI (l : Nat → Int32) (i : Nat) (v : Int32) : Nat → Int32 := fun j => if j = i then v else l j
theorem lay11 {n np a b : Nat} {x3 x4 : Int32} {σ : Sg} (hp : np < 20) (h : σ 3 0 = nI np) (h1 : a < 10) (h2 : b < 10) (hab : a ≠ b) (h3 : inb 1 x3 999 = true) (h4 : inb 0 x4 99 = true) : ∃ τ, s_X11_pipe n (nI a) (nI b) x3 x4 σ = some (nI np, τ) ∧ τ 0 15 = σ 0 15 + 1 ∧ τ 3 0 = nI (np + 1) ∧ (τ 4 np = nI a ∧ τ 5 np = nI b ∧ τ 6 np = x3 ∧ τ 7 np = x4 ∧ τ 8 np = nI a ∧ τ 9 np = nI b) ∧ ∀ o j, 4 ≤ o → o ≤ 9 → j ≠ np → τ o j = σ o j := by
  unfold s_X11_pipe
  have ia : inb 0 (nI a) 9 = true := by unfold inb; rw [decide_eq_true (n_nn (by omega)), decide_eq_true (by rw [show (9 : Int32) = nI 9 from rfl, nle (by omega) (by omega)]; omega)]; rfl
  have ib' : inb 0 (nI b) 9 = true := by unfold inb; rw [decide_eq_true (n_nn (by omega)), decide_eq_true (by rw [show (9 : Int32) = nI 9 from rfl, nle (by omega) (by omega)]; omega)]; rfl
  simp only [node11, out_ok, bd_so, ia, ib', h3, h4]
  rw [if_neg z_t, if_neg z_t, if_neg (by rw [neq (by omega) (by omega)]; exact hab), if_pos z_nt, if_pos z_nt, h, if_pos (by rw [show (20 : Int32) = nI 20 from rfl, nlt (by omega) (by omega)]; omega), lt_eq]
  unfold s_X4_lay
  have e : up2 σ 0 15 (σ 0 15 + 1) 3 0 = nI np := by rw [up2_o (by decide)]; exact h
  rw [e]
  simp (disch := omega) only [ck_n, ix_n, lt_eq, bd_so]
  refine ⟨_, rfl, ?_, ?_, ?_, ?_⟩
  · simp [up2_app]
  · simp [up2_app, h, nI_1]
  · simp [up2_app]
  · intro o j o1 o2 hj
    have q1 : ¬ o = 3 := by omega
    have q2 : ¬ o = 0 := by omega
    simp only [up2_app, hj, q1, q2, if_false, ite_self]
theorem lay12 {n np a b : Nat} {x3 x4 : Int32} {σ : Sg} (hp : np < 20) (h : σ 71 2 = nI np) (h1 : a < 10) (h2 : b < 10) (hab : a ≠ b) (h3 : inb 1 x3 999 = true) (h4 : inb 0 x4 99 = true) : ∃ τ, s_X12_pipe n (nI a) (nI b) x3 x4 σ = some (nI np, τ) ∧ τ 71 2 = nI (np + 1) ∧ (τ 73 np = nI a ∧ τ 74 np = nI b ∧ τ 77 np = x3 ∧ τ 78 np = x4 ∧ τ 75 np = nI a ∧ τ 76 np = nI b ∧ τ 80 np = -1) ∧ ∀ o j, 73 ≤ o → o ≤ 80 → j ≠ np → τ o j = σ o j := by
  unfold s_X12_pipe
  have ia : inb 0 (nI a) 9 = true := by unfold inb; rw [decide_eq_true (n_nn (by omega)), decide_eq_true (by rw [show (9 : Int32) = nI 9 from rfl, nle (by omega) (by omega)]; omega)]; rfl
  have ib' : inb 0 (nI b) 9 = true := by unfold inb; rw [decide_eq_true (n_nn (by omega)), decide_eq_true (by rw [show (9 : Int32) = nI 9 from rfl, nle (by omega) (by omega)]; omega)]; rfl
  have i3 : ∀ σ, s_X12_in n x3.toInt64 1 999 σ = some (zo (inb 1 x3 999), σ) := fun σ => inb_ok n x3 1 999 σ
  have i4 : ∀ σ, s_X12_in n x4.toInt64 0 99 σ = some (zo (inb 0 x4 99), σ) := fun σ => inb_ok n x4 0 99 σ
  simp only [node12, i3, i4, bd_so, ia, ib', h3, h4]
  rw [if_neg z_t, if_neg z_t, if_neg (by rw [neq (by omega) (by omega)]; exact hab), if_neg z_t, if_neg z_t, if_neg (by rw [h, show (20 : Int32) = nI 20 from rfl, neq (by omega) (by omega)]; omega)]
  have u : ∀ (ρ : Sg) (o j : Nat) (v : Int32), o ≠ 71 → up2 ρ o j v 71 2 = ρ 71 2 := fun ρ o j v ho => up2_o (Ne.symm ho)
  simp (disch := omega) only [lt_eq, u, h, ck_n, ix_n]
  have k : ∀ ρ : Sg, up2 ρ 71 2 (nI np + 1) 71 2 - (1 : Int32) = nI np := fun ρ => by
    rw [up2_app, if_pos rfl, if_pos rfl, nI_1, show (1 : Int32) = nI 1 from rfl, nsub (by omega)]
    rfl
  rw [k]
  refine ⟨_, rfl, ?_, ?_, ?_⟩
  · simp [up2_app, nI_1]
  · simp [up2_app]
  · intro o j o1 o2 hj
    have q1 : ¬ o = 71 := by omega
    simp only [up2_app, hj, q1, if_false, ite_self]
theorem st_pipe {n c : Nat} {x1 x2 x3 x4 : Int32} {σ : Sg} (hc : c < 600) (h : Inv c σ) : wStp c (s_X11_pipe n x1 x2 x3 x4) (s_X12_pipe n x1 x2 x3 x4) σ := by
  obtain ⟨N, ma, mb, S, K, now, pu, Rs, nr, h⟩ := h
  have hp := h.1.1.1
  have c0 : σ 3 0 = nI (nP N) := h.1.2.1.1
  have m0 : σ 71 2 = nI (nP N) := h.1.2.2.1.1
  have i3 : ∀ σ, s_X12_in n x3.toInt64 1 999 σ = some (zo (inb 1 x3 999), σ) := fun σ => inb_ok n x3 1 999 σ
  have i4 : ∀ σ, s_X12_in n x4.toInt64 0 99 σ = some (zo (inb 0 x4 99), σ) := fun σ => inb_ok n x4 0 99 σ
  have ref : ∀ r, s_X11_pipe n x1 x2 x3 x4 σ = some (r, σ) → s_X12_pipe n x1 x2 x3 x4 σ = some (r, σ) → wStp c (s_X11_pipe n x1 x2 x3 x4) (s_X12_pipe n x1 x2 x3 x4) σ := fun r a b => ⟨r, σ, σ, a, b, Inv_s h⟩
  cases e1 : inb 0 x1 9
  · refine ref (-1001) ?_ ?_
    · unfold s_X11_pipe; simp only [node11, bd_so, e1]; rfl
    · unfold s_X12_pipe; simp only [node12, bd_so, e1]; rfl
  cases e2 : inb 0 x2 9
  · refine ref (-1001) ?_ ?_
    · unfold s_X11_pipe; simp only [node11, bd_so, e1, e2]; rfl
    · unfold s_X12_pipe; simp only [node12, bd_so, e1, e2]; rfl
  by_cases e3 : x1 = x2
  · refine ref (-1002) ?_ ?_
    · unfold s_X11_pipe; simp only [node11, bd_so, e1, e2]; rw [if_neg z_t, if_neg z_t, if_pos e3]
    · unfold s_X12_pipe; simp only [node12, bd_so, e1, e2]; rw [if_neg z_t, if_neg z_t, if_pos e3]
  cases e4 : inb 1 x3 999
  · refine ref (-1002) ?_ ?_
    · unfold s_X11_pipe; simp only [node11, out_ok, bd_so, e1, e2, e4]; rw [if_neg z_t, if_neg z_t, if_neg e3]; rfl
    · unfold s_X12_pipe; simp only [node12, i3, bd_so, e1, e2, e4]; rw [if_neg z_t, if_neg z_t, if_neg e3]; rfl
  cases e5 : inb 0 x4 99
  · refine ref (-1002) ?_ ?_
    · unfold s_X11_pipe; simp only [node11, out_ok, bd_so, e1, e2, e4, e5]; rw [if_neg z_t, if_neg z_t, if_neg e3, if_pos z_nt]; rfl
    · unfold s_X12_pipe; simp only [node12, i3, i4, bd_so, e1, e2, e4, e5]; rw [if_neg z_t, if_neg z_t, if_neg e3, if_neg z_t]; rfl
  by_cases hf : nP N < 20
  · obtain ⟨a, rfl, _, ha⟩ := rng (a := 0) (c := 9) (by omega) (by omega) e1
    obtain ⟨b, rfl, _, hb⟩ := rng (a := 0) (c := 9) (by omega) (by omega) e2
    obtain ⟨lo, hlo, _, hlo2⟩ := rng (a := 0) (c := 99) (by omega) (by omega) e5
    have hab : a ≠ b := fun z => e3 (by rw [z])
    obtain ⟨τ, t1, t2, t3, t4, t5⟩ := lay11 (n := n) (σ := σ) hf c0 (by omega) (by omega) hab e4 e5
    have ft : ∀ o j, fok W_X11_pipe o j = true → τ o j = σ o j := fun o j ho => fr_s_X11_pipe ho _ _ _ _ _ t1
    obtain ⟨ρ, r1, r2, r3, r4⟩ := lay12 (n := n) (σ := τ) hf (by rw [ft 71 2 rfl]; exact m0) (show a < 10 by omega) (show b < 10 by omega) hab e4 e5
    have fr : ∀ o j, fok W_X12_pipe o j = true → ρ o j = τ o j := fun o j ho => fr_s_X12_pipe ho _ _ _ _ _ r1
    have f : ∀ o j, fok (W_X11_pipe ++ W_X12_pipe) o j = true → ρ o j = σ o j := fun o j ho => (fr o j (fok_app ho).2).trans (ft o j (fok_app ho).1)
    have g : ∀ o j, 4 ≤ o → o ≤ 9 → ρ o j = τ o j := fun o j o1 o2 => fr o j (by
      rcases (show o = 4 ∨ o = 5 ∨ o = 6 ∨ o = 7 ∨ o = 8 ∨ o = 9 by omega) with rfl | rfl | rfl | rfl | rfl | rfl <;> rfl)
    obtain ⟨h1, h2, h3, h4, h5, h6, h7, h8, h9, h10, h11⟩ := h
    refine ⟨nI (nP N), τ, ρ, t1, r1, (nP N + 1, updN (nA N) (nP N) a, updN (nB N) (nP N) b, updI (nBo N) (nP N) x3, updI (nLo N) (nP N) x4, fun p => if p = nP N then false else nSh N p), updN ma (nP N) a, updN mb (nP N) b, S, K, now, pu, Rs, nr, ?_, iS_of h2 (fr_sup rfl f), iT_of h3 (fr_sup rfl f), iP_of h4 (fr_sup rfl f), iX_of h5 (fr_sup rfl f), iR_of h6 (fr_sup rfl f), iC_of h7 (fr_sup rfl f), ?_, iV_of h9 (fr_sup rfl f), iB_of h10 (fr_sup rfl f), iO_up (by omega) h11 (by rw [fr 0 15 rfl]; exact t2) (f 51 10 rfl)⟩
    · obtain ⟨n1, n2, n3, n4, n5, n6⟩ := h1
      have b31 : ρ 3 1 = σ 3 1 := f 3 1 rfl
      refine ⟨⟨by show nP N + 1 ≤ 20; omega, fun p hp2 => ?_⟩, ⟨by rw [fr 3 0 rfl]; exact t3, fun p hp2 => ?_⟩, ⟨r2, fun p hp2 => ?_⟩, fun p hp2 => ?_, fun i i1 i2 => by rw [b31]; exact n5 i (by have : nP N + 1 ≤ i := i1; omega) i2, fun i i1 i2 => by rw [f 79 i rfl]; exact n6 i (by have : nP N + 1 ≤ i := i1; omega) i2⟩
      · have hp3 : p < nP N + 1 := hp2
        show updN (nA N) (nP N) a p < 10 ∧ updN (nB N) (nP N) b p < 10 ∧ updN (nA N) (nP N) a p ≠ updN (nB N) (nP N) b p ∧ 0 ≤ (updI (nLo N) (nP N) x4 p).toInt ∧ (updI (nLo N) (nP N) x4 p).toInt ≤ 99
        unfold updN updI
        by_cases e : p = nP N
        · rw [if_pos e, if_pos e, if_pos e, hlo, ni_int (by omega)]
          exact ⟨by omega, by omega, hab, by omega, by omega⟩
        · rw [if_neg e, if_neg e, if_neg e]
          exact n1.2 p (by omega)
      · have hp3 : p < nP N + 1 := hp2
        show ρ 4 p = nI (updN (nA N) (nP N) a p) ∧ ρ 5 p = nI (updN (nB N) (nP N) b p) ∧ ρ 6 p = updI (nBo N) (nP N) x3 p ∧ ρ 7 p = updI (nLo N) (nP N) x4 p ∧ bt (ρ 3 1) p = if p = nP N then false else nSh N p
        rw [g 4 p (by omega) (by omega), g 5 p (by omega) (by omega), g 6 p (by omega) (by omega), g 7 p (by omega) (by omega), b31]
        unfold updN updI
        by_cases e : p = nP N
        · rw [if_pos e, if_pos e, if_pos e, if_pos e, if_pos e, e]
          exact ⟨t4.1, t4.2.1, t4.2.2.1, t4.2.2.2.1, n5 _ (Nat.le_refl _) (by omega)⟩
        · rw [if_neg e, if_neg e, if_neg e, if_neg e, if_neg e, t5 4 p (by omega) (by omega) e, t5 5 p (by omega) (by omega) e, t5 6 p (by omega) (by omega) e, t5 7 p (by omega) (by omega) e]
          exact n2.2 p (by omega)
      · have hp3 : p < nP N + 1 := hp2
        show ρ 73 p = nI (updN (nA N) (nP N) a p) ∧ ρ 74 p = nI (updN (nB N) (nP N) b p) ∧ ρ 77 p = updI (nBo N) (nP N) x3 p ∧ ρ 78 p = updI (nLo N) (nP N) x4 p ∧ ρ 79 p = if (if p = nP N then false else nSh N p) = true then 1 else 0
        rw [f 79 p rfl]
        unfold updN updI
        by_cases e : p = nP N
        · rw [if_pos e, if_pos e, if_pos e, if_pos e, if_pos e, e]
          exact ⟨r3.1, r3.2.1, r3.2.2.1, r3.2.2.2.1, n6 _ (Nat.le_refl _) hf⟩
        · rw [if_neg e, if_neg e, if_neg e, if_neg e, if_neg e, r4 73 p (by omega) (by omega) e, r4 74 p (by omega) (by omega) e, r4 77 p (by omega) (by omega) e, r4 78 p (by omega) (by omega) e, ft 73 p rfl, ft 74 p rfl, ft 77 p rfl, ft 78 p rfl]
          exact n3.2 p (by omega)
      · have hp3 : p < nP N + 1 := hp2
        rw [g 8 p (by omega) (by omega), g 9 p (by omega) (by omega)]
        unfold updN
        by_cases e : p = nP N
        · rw [if_pos e, if_pos e, e]
          exact ⟨by omega, by omega, t4.2.2.2.2.1, t4.2.2.2.2.2, r3.2.2.2.2.1, r3.2.2.2.2.2.1⟩
        · rw [if_neg e, if_neg e, t5 8 p (by omega) (by omega) e, t5 9 p (by omega) (by omega) e, r4 75 p (by omega) (by omega) e, r4 76 p (by omega) (by omega) e, ft 75 p rfl, ft 76 p rfl]
          exact n4 p (by omega)
    · obtain ⟨M, w, ng, G, V, g1, g2, g3, g4, g5⟩ := h8
      refine ⟨M, w, ng, G, V, g1, fun i i1 i2 => g2 i (by have : nP N + 1 ≤ i := i1; omega) i2, g3, ⟨by rw [f 63 1 rfl]; exact g4.1, by rw [f 63 0 rfl]; exact g4.2.1, fun q hq => by rw [f 64 q rfl, f 65 q rfl]; exact g4.2.2.1 q hq, fun i hi hb => by rw [f 66 i rfl]; exact g4.2.2.2 i hi hb⟩, ⟨r2, by rw [f 71 66 rfl]; exact g5.2.1, fun q hq => by rw [f 115 q rfl, f 116 q rfl]; exact g5.2.2.1 q hq, fun i hi hb => ?_, fun i hi => ?_⟩⟩
      · have hi3 : i < nP N + 1 := hi
        by_cases e : i = nP N
        · rw [e, g2 _ (Nat.le_refl _) (by omega)] at hb; cases hb
        · rw [r4 80 i (by omega) (by omega) e, ft 80 i rfl]
          exact g5.2.2.2.1 i (by omega) hb
      · have hi3 : i < nP N + 1 := hi
        by_cases e : i = nP N
        · rw [e, r3.2.2.2.2.2.2, g2 _ (Nat.le_refl _) (by omega)]
          exact propext ⟨fun _ => rfl, fun _ => by decide⟩
        · rw [r4 80 i (by omega) (by omega) e, ft 80 i rfl]
          exact g5.2.2.2.2 i (by omega)
  · have hf2 : nP N = 20 := by omega
    refine ref (-1004) ?_ ?_
    · unfold s_X11_pipe; simp only [node11, out_ok, bd_so, e1, e2, e4, e5]; rw [if_neg z_t, if_neg z_t, if_neg e3, if_pos z_nt, if_pos z_nt, c0, hf2, if_neg (by decide)]
    · unfold s_X12_pipe; simp only [node12, i3, i4, bd_so, e1, e2, e4, e5]; rw [if_neg z_t, if_neg z_t, if_neg e3, if_neg z_t, if_neg z_t, m0, hf2, if_pos (by decide)]
