/-! ===== beds, the class: a day weighed ===== -/
theorem nar_by : ∀ w, w < 101 → vp_nar .byte (nI w).toInt8.toInt32 = nI w := by decide +kernel
theorem bmin_cw {B c l v r : Nat} {a : Nat → Nat} (jj : Nat) : min 100 (bmin (fun jj => decide (v ≤ sG c l a jj B)) (fun jj => (if jj = 0 then 0 else 1) + bF B c l v r (nxt B a jj)) (jj + 1)) = min (min 100 (bmin (fun jj => decide (v ≤ sG c l a jj B)) (fun jj => (if jj = 0 then 0 else 1) + bF B c l v r (nxt B a jj)) jj)) (min 100 (cw B c l v r a jj)) := by
  rw [bmin_s]
  unfold cw
  by_cases h : v ≤ sG c l a jj B
  · rw [if_pos (decide_eq_true h), if_pos h]
    omega
  · rw [if_neg (by simpa using h), if_neg h]
    omega
theorem w63_go {n B c l v D O d M x y z : Nat} {σ : Sg} {rc8 : Int32 → Int32 → Int32 → Sg → Option Sg} {rc16 : Int32 → Int32 → Int32 → Int32 → Sg → Option Sg} {rc37 : Int32 → Int32 → Int32 → Int32 → Int32 → Sg → Option Sg} (hB1 : 1 ≤ B) (hB : B ≤ 3) (hc : c ≤ 99) (hl : l ≤ 30) (hv : v ≤ 297) (hO : O ≤ 20) (hold : oldOk c l O) (hD : D ≤ 20) (hd : d ≤ D) (hx : x ≤ d) (hy : y ≤ d) (hz : z ≤ d) (hC : bC B c l v D O σ) (hT : d < D → cT B c l v (D - d) (d + 1) O σ) : ∀ (e jj k : Nat), jj + e = B + 1 → e < k → s_X0_weighDay_63 n rc8 rc16 rc37 k (nI d) (nI M) (nI x) (nI y) (nI z) (nI (min 100 (bmin (fun jj => decide (v ≤ sG c l (tr x y z) jj B)) (fun jj => (if jj = 0 then 0 else 1) + bF B c l v (D - d) (nxt B (tr x y z) jj)) jj))) (jI jj) σ = rc37 (nI d) (nI M) (nI x) (nI y) (nI (z + 1)) (up2 σ 70 (pl d x y z) (nI (min 100 (bF B c l v (D - d + 1) (tr x y z))))) := by
  intro e
  induction e with
  | zero =>
    intro jj k hj hk
    obtain ⟨k, rfl⟩ : ∃ k', k = k' + 1 := ⟨k - 1, by omega⟩
    have hj : jj = B + 1 := by omega
    subst hj
    show s_X0_weighDay_63b n _ _ _ _ _ _ _ _ _ _ _ _ = _
    unfold s_X0_weighDay_63b
    have hp := pl_lt (d := d) (x := x) (y := y) (z := z) (by omega) hx hy hz
    have ht := (t_b d (by omega)).2.2.2.2.2.2
    rw [hC.1, if_pos (show nI B ≤ jI (B + 1) from Int32.le_refl _), place_ok n (by omega) (by omega) (by omega) (by omega), bd_so, ck_n (by omega) (by omega), ix_n (by omega), lt_eq, nar_by _ (by omega), show nI z + 1 = nI (z + 1) from nI_1 z]
    rfl
  | succ e ih =>
    intro jj k hj hk
    obtain ⟨k, rfl⟩ : ∃ k', k = k' + 1 := ⟨k - 1, by omega⟩
    have hih := ih (jj + 1) k (by omega) (by omega)
    rw [bmin_cw] at hih
    show s_X0_weighDay_63b n rc8 rc16 rc37 (s_X0_weighDay_63 n rc8 rc16 rc37 k) _ _ _ _ _ _ _ _ = _
    unfold s_X0_weighDay_63b
    have hle := jI_le (i := B) (jj := jj) (by omega) (by omega)
    rw [hC.1, if_neg (by rw [hle]; omega), cost_ok hB1 hB hc hl hv hO hold hD hd hx hy hz (by omega) hC hT, bd_so, lt_eq, nimin (by omega) (by omega), jI_s]
    exact hih
def lx (x' y' z' x y z : Nat) : Prop := x' < x ∨ (x' = x ∧ (y' < y ∨ (y' = y ∧ z' < z)))
def wD (B c l v r d M x y z : Nat) (σ : Sg) : Prop := ∀ x' y' z', z' ≤ y' → y' ≤ x' → x' ≤ M → tz B y' z' → lx x' y' z' x y z → σ 70 (pl d x' y' z') = nI (min 100 (bF B c l v r (tr x' y' z')))
theorem pl_so {d x y z : Nat} (h1 : z ≤ y) (h2 : y ≤ x) : pl d x y z = t4 d + t3 x + t2 y + z := by
  have a : mx x y z = x := by unfold mx; omega
  have b : mn x y z = z := by unfold mn; omega
  have e : md x y z = y := by unfold md; rw [a, b]; omega
  unfold pl
  rw [a, b, e]
theorem pl_inj {d x y z x' y' z' : Nat} (h1 : z ≤ y) (h2 : y ≤ x) (h3 : x ≤ 20) (h1' : z' ≤ y') (h2' : y' ≤ x') (h3' : x' ≤ 20) (h : lx x' y' z' x y z) : pl d x' y' z' ≠ pl d x y z := by
  rw [pl_so h1 h2, pl_so h1' h2']
  have a1 := t_b x' (by omega)
  have a2 := t_b y' (by omega)
  have a3 := t_m x' (by omega) y' (by omega)
  rcases h with h | ⟨h, h0 | ⟨h0, h4⟩⟩
  · have b1 := t_m x (by omega) (x' + 1) (by omega)
    omega
  · have b1 := t_m y (by omega) (y' + 1) (by omega)
    rw [h]
    omega
  · rw [h, h0]
    omega
-- what stays while a day is weighed
def wK (B c l v D O d : Nat) (σ : Sg) : Prop := bC B c l v D O σ ∧ (d < D → cT B c l v (D - d) (d + 1) O σ)
theorem wK_up {B c l v D O d x y z : Nat} {w : Int32} {σ : Sg} (hD : D ≤ 20) (hd : d ≤ D) (hx : x ≤ d) (hy : y ≤ d) (hz : z ≤ d) (h : wK B c l v D O d σ) : wK B c l v D O d (up2 σ 70 (pl d x y z) w) := by
  obtain ⟨hC, hT⟩ := h
  refine ⟨⟨by rw [up2_o (by decide)]; exact hC.1, by rw [up2_o (by decide)]; exact hC.2.1, by rw [up2_o (by decide)]; exact hC.2.2.1, by rw [up2_o (by decide)]; exact hC.2.2.2.1, by rw [up2_o (by decide)]; exact hC.2.2.2.2.1, by rw [up2_o (by decide)]; exact hC.2.2.2.2.2⟩, fun hdD x' y' z' hx' hy' hz' ht => ?_⟩
  have p1 := (pl_lt (d := d) (show d ≤ 20 by omega) hx hy hz).2
  have p2 := (pl_lt (d := d + 1) (x := x') (y := y') (z := z') (by omega) (by omega) (by omega) (by omega)).1
  rw [up2_app, if_pos rfl, if_neg (by omega)]
  exact hT hdD x' y' z' hx' hy' hz' ht
theorem wz_go {n B c l v D O d M x y : Nat} {rc8 : Int32 → Int32 → Int32 → Sg → Option Sg} {rc16 : Int32 → Int32 → Int32 → Int32 → Sg → Option Sg} (hn : 30 ≤ n) (hB1 : 1 ≤ B) (hB : B ≤ 3) (hc : c ≤ 99) (hl : l ≤ 30) (hv : v ≤ 297) (hO : O ≤ 20) (hold : oldOk c l O) (hD : D ≤ 20) (hd : d ≤ D) (hM : M ≤ d) (hx : x ≤ M) (hy : y ≤ x) (hty : B ≤ 1 → y = 0) : ∀ (e z k : Nat) (σ : Sg), z + e = (if B ≤ 2 then 0 else y) + 1 → e < k → wK B c l v D O d σ → wD B c l v (D - d + 1) d M x y z σ → ∃ τ, s_X0_weighDay_37 n rc8 rc16 k (nI d) (nI M) (nI x) (nI y) (nI z) σ = rc16 (nI d) (nI M) (nI x) (nI (y + 1)) τ ∧ wK B c l v D O d τ ∧ wD B c l v (D - d + 1) d M x (y + 1) 0 τ ∧ ∀ o j, ¬ (o = 70 ∧ t4 d ≤ j ∧ j < t4 (d + 1)) → τ o j = σ o j := by
  have hv8 : ∀ σ, wK B c l v D O d σ → (if (σ 68 2) ≤ 2 then (0 : Int32) else nI y) = nI (if B ≤ 2 then 0 else y) := by
    intro σ h
    have hq := nle (a := B) (b := 2) (by omega) (by omega)
    rw [h.1.1]
    by_cases h2 : B ≤ 2
    · rw [if_pos (by rw [show (2 : Int32) = nI 2 from rfl, hq]; exact h2), if_pos h2]; rfl
    · rw [if_neg (by rw [show (2 : Int32) = nI 2 from rfl, hq]; exact h2), if_neg h2]
  intro e
  induction e with
  | zero =>
    intro z k σ hz hk hK hW
    obtain ⟨k, rfl⟩ : ∃ k', k = k' + 1 := ⟨k - 1, by omega⟩
    refine ⟨σ, ?_, hK, ?_, fun _ _ _ => rfl⟩
    · show s_X0_weighDay_37b n _ _ _ _ _ _ _ _ _ = _
      unfold s_X0_weighDay_37b s_X0_weighDay_53
      have hb : (if B ≤ 2 then 0 else y) ≤ y := by split <;> omega
      rw [lt_eq, hv8 σ hK, if_pos (by rw [nlt (by omega) (by omega)]; omega), show nI y + 1 = nI (y + 1) from nI_1 y]
    · intro x' y' z' h1 h2 h3 h4 h5
      refine hW x' y' z' h1 h2 h3 h4 ?_
      rcases h5 with h | ⟨h, h0 | ⟨h0, h6⟩⟩
      · exact .inl h
      · by_cases e1 : y' < y
        · exact .inr ⟨h, .inl e1⟩
        · have e2 : y' = y := by omega
          refine .inr ⟨h, .inr ⟨e2, ?_⟩⟩
          by_cases h7 : B ≤ 2
          · rw [if_pos h7] at hz
            have := h4.1 h7
            omega
          · rw [if_neg h7] at hz
            omega
      · omega
  | succ e ih =>
    intro z k σ hz hk hK hW
    obtain ⟨k, rfl⟩ : ∃ k', k = k' + 1 := ⟨k - 1, by omega⟩
    have hb : (if B ≤ 2 then 0 else y) ≤ y := by split <;> omega
    have hzy : z ≤ y := by omega
    have htz : tz B y z := ⟨fun h7 => by rw [if_pos h7] at hz; omega, hty⟩
    have h63 := w63_go (n := n) (M := M) (rc8 := rc8) (rc16 := rc16) (rc37 := s_X0_weighDay_37 n rc8 rc16 k) (σ := σ) hB1 hB hc hl hv hO hold hD hd (x := x) (y := y) (z := z) (by omega) (by omega) (by omega) hK.1 hK.2 (B + 1) 0 n (by omega) (by omega)
    obtain ⟨τ, t1, t2, t3, t4'⟩ := ih (z + 1) k (up2 σ 70 (pl d x y z) (nI (min 100 (bF B c l v (D - d + 1) (tr x y z))))) (by omega) (by omega) (wK_up hD hd (by omega) (by omega) (by omega) hK) (fun x' y' z' h1 h2 h3 h4 h5 => by
      by_cases e1 : x' = x ∧ y' = y ∧ z' = z
      · obtain ⟨ex, ey, ez⟩ := e1
        rw [ex, ey, ez, up2_app, if_pos rfl, if_pos rfl]
      · have hlx : lx x' y' z' x y z := by
          rcases h5 with h | ⟨h, h0 | ⟨h0, h6⟩⟩
          · exact .inl h
          · exact .inr ⟨h, .inl h0⟩
          · refine .inr ⟨h, .inr ⟨h0, ?_⟩⟩
            have : z' ≠ z := fun e2 => e1 ⟨h, h0, e2⟩
            omega
        rw [up2_app, if_pos rfl, if_neg (pl_inj hzy hy (by omega) h1 h2 (by omega) hlx)]
        exact hW x' y' z' h1 h2 h3 h4 hlx)
    refine ⟨τ, ?_, t2, t3, fun o j ho => ?_⟩
    · show s_X0_weighDay_37b n rc8 rc16 (s_X0_weighDay_37 n rc8 rc16 k) _ _ _ _ _ _ = _
      unfold s_X0_weighDay_37b s_X0_weighDay_53
      rw [lt_eq, hv8 σ hK, if_neg (by rw [nlt (by omega) (by omega)]; omega)]
      exact h63.trans t1
    · have p := pl_lt (d := d) (x := x) (y := y) (z := z) (by omega) (by omega) (by omega) (by omega)
      rw [t4' o j ho, up2_app]
      by_cases e1 : o = 70
      · rw [if_pos e1, if_neg (fun e2 => ho ⟨e1, by omega, by omega⟩)]
      · rw [if_neg e1]
