/-! ===== beds, the class: a whole day weighed ===== -/
theorem wy_go {n B c l v D O d M x : Nat} {rc8 : Int32 → Int32 → Int32 → Sg → Option Sg} (hn : 60 ≤ n) (hB1 : 1 ≤ B) (hB : B ≤ 3) (hc : c ≤ 99) (hl : l ≤ 30) (hv : v ≤ 297) (hO : O ≤ 20) (hold : oldOk c l O) (hD : D ≤ 20) (hd : d ≤ D) (hM : M ≤ d) (hx : x ≤ M) : ∀ (e y k : Nat) (σ : Sg), y + e = (if B ≤ 1 then 0 else x) + 1 → e < k → wK B c l v D O d σ → wD B c l v (D - d + 1) d M x y 0 σ → ∃ τ, s_X0_weighDay_16 n rc8 k (nI d) (nI M) (nI x) (nI y) σ = rc8 (nI d) (nI M) (nI (x + 1)) τ ∧ wK B c l v D O d τ ∧ wD B c l v (D - d + 1) d M (x + 1) 0 0 τ ∧ ∀ o j, ¬ (o = 70 ∧ t4 d ≤ j ∧ j < t4 (d + 1)) → τ o j = σ o j := by
  have hv5 : ∀ σ, wK B c l v D O d σ → (if (σ 68 2) ≤ 1 then (0 : Int32) else nI x) = nI (if B ≤ 1 then 0 else x) := by
    intro σ h
    have hq := nle (a := B) (b := 1) (by omega) (by omega)
    rw [h.1.1]
    by_cases h2 : B ≤ 1
    · rw [if_pos (by rw [show (1 : Int32) = nI 1 from rfl, hq]; exact h2), if_pos h2]; rfl
    · rw [if_neg (by rw [show (1 : Int32) = nI 1 from rfl, hq]; exact h2), if_neg h2]
  have hb : (if B ≤ 1 then 0 else x) ≤ x := by split <;> omega
  intro e
  induction e with
  | zero =>
    intro y k σ hy hk hK hW
    obtain ⟨k, rfl⟩ : ∃ k', k = k' + 1 := ⟨k - 1, by omega⟩
    refine ⟨σ, ?_, hK, ?_, fun _ _ _ => rfl⟩
    · show s_X0_weighDay_16b n _ _ _ _ _ _ _ = _
      unfold s_X0_weighDay_16b s_X0_weighDay_31
      rw [lt_eq, hv5 σ hK, if_pos (by rw [nlt (by omega) (by omega)]; omega), show nI x + 1 = nI (x + 1) from nI_1 x]
    · intro x' y' z' h1 h2 h3 h4 h5
      refine hW x' y' z' h1 h2 h3 h4 ?_
      rcases h5 with h | ⟨h, h0 | ⟨h0, h6⟩⟩
      · by_cases e1 : x' < x
        · exact .inl e1
        · have e2 : x' = x := by omega
          refine .inr ⟨e2, .inl ?_⟩
          by_cases h7 : B ≤ 1
          · rw [if_pos h7] at hy
            have := h4.2 h7
            omega
          · rw [if_neg h7] at hy
            omega
      · omega
      · omega
  | succ e ih =>
    intro y k σ hy hk hK hW
    obtain ⟨k, rfl⟩ : ∃ k', k = k' + 1 := ⟨k - 1, by omega⟩
    obtain ⟨τ1, a1, a2, a3, a4⟩ := wz_go (n := n) (rc8 := rc8) (rc16 := s_X0_weighDay_16 n rc8 k) (M := M) (x := x) (y := y) (by omega) hB1 hB hc hl hv hO hold hD hd hM hx (by omega) (fun h7 => by rw [if_pos h7] at hy; omega) ((if B ≤ 2 then 0 else y) + 1) 0 n σ (by omega) (by split <;> omega) hK hW
    obtain ⟨τ, t1, t2, t3, t5⟩ := ih (y + 1) k τ1 (by omega) (by omega) a2 a3
    refine ⟨τ, ?_, t2, t3, fun o j ho => (t5 o j ho).trans (a4 o j ho)⟩
    show s_X0_weighDay_16b n rc8 (s_X0_weighDay_16 n rc8 k) _ _ _ _ _ = _
    unfold s_X0_weighDay_16b s_X0_weighDay_31
    rw [lt_eq, hv5 σ hK, if_neg (by rw [nlt (by omega) (by omega)]; omega)]
    exact a1.trans t1
theorem wx_go {n B c l v D O d M : Nat} (hn : 60 ≤ n) (hB1 : 1 ≤ B) (hB : B ≤ 3) (hc : c ≤ 99) (hl : l ≤ 30) (hv : v ≤ 297) (hO : O ≤ 20) (hold : oldOk c l O) (hD : D ≤ 20) (hd : d ≤ D) (hM : M ≤ d) : ∀ (e x k : Nat) (σ : Sg), x + e = M + 1 → e < k → wK B c l v D O d σ → wD B c l v (D - d + 1) d M x 0 0 σ → ∃ τ, s_X0_weighDay_8 n k (nI d) (nI M) (nI x) σ = some τ ∧ wK B c l v D O d τ ∧ wD B c l v (D - d + 1) d M (M + 1) 0 0 τ ∧ ∀ o j, ¬ (o = 70 ∧ t4 d ≤ j ∧ j < t4 (d + 1)) → τ o j = σ o j := by
  intro e
  induction e with
  | zero =>
    intro x k σ hx hk hK hW
    obtain ⟨k, rfl⟩ : ∃ k', k = k' + 1 := ⟨k - 1, by omega⟩
    have hx : x = M + 1 := by omega
    subst hx
    refine ⟨σ, ?_, hK, hW, fun _ _ _ => rfl⟩
    show s_X0_weighDay_8b n _ _ _ _ _ = _
    unfold s_X0_weighDay_8b
    rw [if_pos (by rw [nlt (by omega) (by omega)]; omega)]
  | succ e ih =>
    intro x k σ hx hk hK hW
    obtain ⟨k, rfl⟩ : ∃ k', k = k' + 1 := ⟨k - 1, by omega⟩
    obtain ⟨τ1, a1, a2, a3, a4⟩ := wy_go (n := n) (rc8 := s_X0_weighDay_8 n k) (M := M) (x := x) hn hB1 hB hc hl hv hO hold hD hd hM (by omega) ((if B ≤ 1 then 0 else x) + 1) 0 n σ (by omega) (by split <;> omega) hK hW
    obtain ⟨τ, t1, t2, t3, t5⟩ := ih (x + 1) k τ1 (by omega) (by omega) a2 a3
    refine ⟨τ, ?_, t2, t3, fun o j ho => (t5 o j ho).trans (a4 o j ho)⟩
    show s_X0_weighDay_8b n (s_X0_weighDay_8 n k) _ _ _ _ = _
    unfold s_X0_weighDay_8b
    rw [if_neg (by rw [nlt (by omega) (by omega)]; omega)]
    exact a1.trans t1
theorem pl_a (d x y z : Nat) : pl d x y z = pl d y x z := by
  have a : mx x y z = mx y x z := by unfold mx; omega
  have b : mn x y z = mn y x z := by unfold mn; omega
  have e : md x y z = md y x z := by unfold md; rw [a, b, Nat.add_comm x y]
  unfold pl
  rw [a, b, e]
theorem pl_b (d x y z : Nat) : pl d x y z = pl d x z y := by
  have a : mx x y z = mx x z y := by unfold mx; omega
  have b : mn x y z = mn x z y := by unfold mn; omega
  have e : md x y z = md x z y := by unfold md; rw [a, b, Nat.add_right_comm x y z]
  unfold pl
  rw [a, b, e]
theorem so3 {c l v r d : Nat} (P : Nat → Nat → Nat → Prop) (hP : ∀ x y z, z ≤ y → y ≤ x → P x y z) (ha : ∀ x y z, P x y z → P y x z) (hb : ∀ x y z, P x y z → P x z y) (x y z : Nat) : P x y z := by
  by_cases h1 : y ≤ x
  · by_cases h2 : z ≤ y
    · exact hP x y z h2 h1
    · by_cases h3 : z ≤ x
      · exact hb _ _ _ (hP x z y (by omega) h3)
      · exact hb _ _ _ (ha _ _ _ (hP z x y (by omega) (by omega)))
  · by_cases h2 : z ≤ x
    · exact ha _ _ _ (hP y x z h2 (by omega))
    · by_cases h3 : z ≤ y
      · exact ha _ _ _ (hb _ _ _ (hP y z x (by omega) h3))
      · exact ha _ _ _ (hb _ _ _ (ha _ _ _ (hP z y x (by omega) (by omega))))
theorem wD_cT {B c l v r d O : Nat} {σ : Sg} (hB1 : 1 ≤ B) (hB : B ≤ 3) (h : wD B c l v r d (min d O) (min d O + 1) 0 0 σ) : cT B c l v r d O σ := by
  intro x y z hx hy hz ht
  have hb : B = 1 ∨ B = 2 ∨ B = 3 := by omega
  rcases hb with hb | hb | hb <;> subst hb
  · have h1 := ht.1 (by omega)
    have h2 := ht.2 (by omega)
    subst h1 h2
    exact h x 0 0 (by omega) (by omega) hx ⟨fun _ => rfl, fun _ => rfl⟩ (.inl (by omega))
  · have h1 := ht.1 (by omega)
    subst h1
    by_cases e : y ≤ x
    · exact h x y 0 (by omega) e hx ⟨fun _ => rfl, fun h => by omega⟩ (.inl (by omega))
    · rw [pl_a, sw2]
      exact h y x 0 (by omega) (by omega) hy ⟨fun _ => rfl, fun h => by omega⟩ (.inl (by omega))
  · have tz3 : ∀ y z, tz 3 y z := fun y z => ⟨fun h => by omega, fun h => by omega⟩
    exact so3 (c := c) (l := l) (v := v) (r := r) (d := d) (fun x y z => x ≤ min d O → y ≤ min d O → z ≤ min d O → σ 70 (pl d x y z) = nI (min 100 (bF 3 c l v r (tr x y z)))) (fun x y z h1 h2 hx hy hz => h x y z h1 h2 hx (tz3 y z) (.inl (by omega))) (fun x y z hp hx hy hz => by rw [pl_a, sw3a]; exact hp hy hx hz) (fun x y z hp hx hy hz => by rw [pl_b, sw3b]; exact hp hx hz hy) x y z hx hy hz
theorem weigh_ok {n B c l v D O d : Nat} {σ : Sg} (hn : 60 ≤ n) (hB1 : 1 ≤ B) (hB : B ≤ 3) (hc : c ≤ 99) (hl : l ≤ 30) (hv : v ≤ 297) (hO : O ≤ 20) (hold : oldOk c l O) (hD : D ≤ 20) (hd : d ≤ D) (hK : wK B c l v D O d σ) : ∃ τ, s_X0_weighDay n (nI d) σ = some τ ∧ wK B c l v D O d τ ∧ cT B c l v (D - d + 1) d O τ ∧ ∀ o j, ¬ (o = 70 ∧ t4 d ≤ j ∧ j < t4 (d + 1)) → τ o j = σ o j := by
  obtain ⟨τ, t1, t2, t3, t5⟩ := wx_go (n := n) hn hB1 hB hc hl hv hO hold hD hd (Nat.min_le_left d O) (min d O + 1) 0 n σ (by omega) (by omega) hK (fun x' y' z' _ _ _ _ h => by rcases h with h | ⟨_, h | ⟨_, h⟩⟩ <;> omega)
  refine ⟨τ, ?_, t2, wD_cT hB1 hB t3, t5⟩
  unfold s_X0_weighDay s_X0_oldestOn
  rw [bd_so, hK.1.2.2.2.2.2, nimin (by omega) (by omega)]
  exact t1
