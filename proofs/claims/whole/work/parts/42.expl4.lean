/-! ===== explain, the reference ===== -/
theorem exU_stop {M x g : Int32} {w : Nat → Int32} {c : Nat} (h : ∀ i, c ≤ i → i < 32 → bt M i = false) : ∀ i, c ≤ i → i ≤ 32 → exU M x g w i = exU M x g w c
  | 0, hi, _ => by rw [Nat.le_zero.mp hi]
  | i + 1, hi, hi2 => by
    by_cases e : c = i + 1
    · rw [e]
    · rw [exU_s, exU_stop h i (by omega) (by omega), h i (by omega) (by omega)]; rfl
theorem bd_so {ρ : Type} (r : Int32) (s : Sg) (F : Int32 → Sg → Option ρ) : bd (some (r, s)) F = F r s := rfl
def eM (M : Int32) (w : Nat → Int32) (np ng : Nat) (G V : Nat → Int32) (σ : Sg) : Prop := σ 71 2 = nI np ∧ σ 71 66 = nI ng ∧ (∀ g, g < ng → σ 115 g = G g ∧ σ 116 g = V g) ∧ (∀ i, i < np → bt M i = true → σ 80 i = w i) ∧ ∀ i, i < np → (σ 80 i ≤ 0) = (bt M i = false)
theorem zo_if {p : Prop} [Decidable p] : (if p then (1 : Int32) else 0) = zo (decide p) := by
  by_cases h : p
  · rw [if_pos h, decide_eq_true h]; rfl
  · rw [if_neg h, decide_eq_false h]; rfl
theorem mexp_sum {n : Nat} {M x y : Int32} {w : Nat → Int32} {np ng g : Nat} {G V : Nat → Int32} {rc : Int32 → Int32 → Int32 → Sg → Option (Int32 × Sg)} {σ : Sg} (hnp : np ≤ 20) (hM : ∀ i, np ≤ i → i < 32 → bt M i = false) (hd : dep M x y) (hc : eM M w np ng G V σ) (hg : g < ng) (hng : ng ≤ 6) : ∀ (e i k : Nat), i + e = np → e < k → s_X12_explains_22 n rc k y (nI g) (exU M x (G g) w i) (nI i) σ = rc y (zo (decide (exU M x (G g) w 20 = V g))) (nI (g + 1)) σ := by
  intro e
  induction e with
  | zero =>
    intro i k hi hk
    obtain ⟨k, rfl⟩ : ∃ k', k = k' + 1 := ⟨k - 1, by omega⟩
    have hi : i = np := by omega
    subst hi
    show s_X12_explains_22b n _ _ _ _ _ _ _ = _
    unfold s_X12_explains_22b
    rw [hc.1, if_pos (Int32.le_refl _), ck_n (by omega) (by omega), ix_n (by omega), (hc.2.2.1 g hg).2, zo_if, lt_eq, exU_stop hM 20 (by omega) (by omega), show nI g + 1 = nI (g + 1) from nI_1 g]
  | succ e ih =>
    intro i k hi hk
    obtain ⟨k, rfl⟩ : ∃ k', k = k' + 1 := ⟨k - 1, by omega⟩
    have h := ih (i + 1) k (by omega) (by omega)
    rw [exU_s] at h
    rw [← h]
    show s_X12_explains_22b n _ (s_X12_explains_22 n rc k) _ _ _ _ _ = _
    unfold s_X12_explains_22b s_X12_explains_68
    have q1 := sr_b1 y (v := i) (by omega)
    have q2 := sr_b1 (G g) (v := i) (by omega)
    rw [hc.1, if_neg (by rw [nle (by omega) (by omega)]; omega), ck_n (by omega) (by omega), ix_n (by omega), (hc.2.2.1 g hg).1, show nI i + 1 = nI (i + 1) from nI_1 i, ck_n (by omega) (by omega), ix_n (by omega)]
    rw [hd i (by omega)] at q1
    simp only [lt_eq, Int32.add_zero]
    by_cases a : (bt M i && bt x (pcn M i)) = true
    · rw [if_pos (by rw [q1]; exact a), a, Bool.true_and]
      by_cases b : bt (G g) i = true
      · rw [if_pos (by rw [q2]; exact b), if_pos b, hc.2.2.2.1 i (by omega) (by
          cases hb : bt M i
          · rw [hb] at a; simp at a
          · rfl)]
      · rw [if_neg (by rw [q2]; exact b), if_neg b]
    · rw [if_neg (by rw [q1]; exact a), if_neg (by rw [Bool.not_eq_true] at a; rw [a]; simp)]
theorem mexp_go {n : Nat} {M x y : Int32} {w : Nat → Int32} {np ng : Nat} {G V : Nat → Int32} {σ : Sg} (hn : 30 ≤ n) (hnp : np ≤ 20) (hM : ∀ i, np ≤ i → i < 32 → bt M i = false) (hd : dep M x y) (hc : eM M w np ng G V σ) (hng : ng ≤ 6) : ∀ (e g k : Nat), g + e = ng → e < k → s_X12_explains_4 n k y (zo (exA M w G V x g)) (nI g) σ = some (zo (exA M w G V x ng), σ) := by
  have hbk : ∀ b : Bool, ∀ A : Option (Int32 × Sg), bck (zo b) A = A := fun b A => by cases b <;> rfl
  intro e
  induction e with
  | zero =>
    intro g k hg hk
    obtain ⟨k, rfl⟩ : ∃ k', k = k' + 1 := ⟨k - 1, by omega⟩
    have hg : g = ng := by omega
    subst hg
    show s_X12_explains_4b n _ _ _ _ _ = _
    unfold s_X12_explains_4b
    rw [hc.2.1, if_pos (Int32.le_refl _), hbk]
  | succ e ih =>
    intro g k hg hk
    obtain ⟨k, rfl⟩ : ∃ k', k = k' + 1 := ⟨k - 1, by omega⟩
    show s_X12_explains_4b n (s_X12_explains_4 n k) _ _ _ _ = _
    unfold s_X12_explains_4b
    rw [hc.2.1, if_neg (by rw [nle (by omega) (by omega)]; omega)]
    cases ha : exA M w G V x g
    · rw [if_pos (show zo false = 0 from rfl), hbk]
      have : exA M w G V x ng = false := by
        cases h2 : exA M w G V x ng
        · rfl
        · have : exA M w G V x g = true := al_i fun j hj => al_t h2 j (by omega)
          rw [ha] at this; cases this
      rw [this]
    · rw [if_neg (show ¬ zo true = 0 by decide)]
      have h := mexp_sum (n := n) (rc := s_X12_explains_4 n k) hnp hM hd hc (show g < ng by omega) hng np 0 n (by omega) (by omega)
      refine Eq.trans h ?_
      have h2 := ih (g + 1) k (by omega) (by omega)
      have e2 : exA M w G V x (g + 1) = decide (exU M x (G g) w 20 = V g) := by
        show (exA M w G V x g && _) = _
        rw [ha, Bool.true_and]
      rw [e2] at h2
      exact h2
theorem mexp_ok {n : Nat} {M x y : Int32} {w : Nat → Int32} {np ng : Nat} {G V : Nat → Int32} {σ : Sg} (hn : 30 ≤ n) (hnp : np ≤ 20) (hM : ∀ i, np ≤ i → i < 32 → bt M i = false) (hd : dep M x y) (hc : eM M w np ng G V σ) (hng : ng ≤ 6) : s_X12_explains n y σ = some (zo (exA M w G V x ng), σ) := mexp_go hn hnp hM hd hc hng ng 0 n (by omega) (by omega)
theorem dpo_nn {M : Int32} (hM : mok M) (x : Int32) : bt (dpo M x 20) 31 = false := by
  rw [dpo_bt M x 20 (by omega) 31 (by omega)]; rfl
theorem nn_bt {y : Int32} (h : bt y 31 = false) : 0 ≤ y := by
  obtain ⟨X, rfl, hX⟩ := b_nat (c := 31) (by omega) (fun i h1 h2 => by rw [show i = 31 by omega]; exact h)
  exact n_nn (by omega)
theorem pcn_x {X m : Nat} (hX : X < 2 ^ m) (hm : m ≤ 12) : pcn (nI X) m = pcn (nI X) 24 := by
  have hp := pow12 hm
  refine (pcn_stop (c := m) (fun i h1 h2 => ?_) 24 (by omega) (by omega)).symm
  rw [bt_n _ (by omega)]
  exact Nat.testBit_lt_two_pow (Nat.lt_of_lt_of_le hX (Nat.pow_le_pow_right (by decide) h1))
theorem dpo_pc {M : Int32} (hM : mok M) {X : Nat} (hX : X < 2 ^ pcn M 20) : pcn (dpo M (nI X) 20) 24 = pcn (nI X) 24 := by
  rw [dep_pc (dpo_dep hM (nI X)) 24 (by omega), pcn_stop hM.1 24 (by omega) (by omega), pcn_x hX hM.2]
theorem bs_good {M : Int32} {w : Nat → Int32} {ng : Nat} {G V : Nat → Int32} (hM : mok M) : ∀ X, X ≤ 2 ^ pcn M 20 → (bs M w ng G V X).1 = -1 ∨ (0 ≤ (bs M w ng G V X).1 ∧ pcn (bs M w ng G V X).1 24 = (bs M w ng G V X).2.1)
  | 0, _ => .inl rfl
  | X + 1, hX => by
    have ih := bs_good (w := w) (ng := ng) (G := G) (V := V) hM X (by omega)
    rw [bs_s]
    split
    · split
      · exact .inr ⟨nn_bt (dpo_nn hM _), dpo_pc hM (by omega)⟩
      · exact ih
    · exact ih
theorem dpo_next {M : Int32} (hM : mok M) (X : Nat) : (dpo M (nI X) 20 - M) &&& M = dpo M (nI (X + 1)) 20 := by
  rw [← show nI X + 1 = nI (X + 1) from nI_1 X]
  refine dep_uniq (dep_next (dpo_dep hM (nI X)) fun i hi hb => ?_) (dpo_dep hM _)
  have := pcn_le M i
  omega
theorem dpo_end {M : Int32} (hM : mok M) : dpo M (nI (2 ^ pcn M 20)) 20 = 0 := by
  have hp := pow12 hM.2
  apply b_ext
  intro i hi
  rw [dpo_bt M _ 20 (by omega) i hi, b_0]
  by_cases h : i < 20
  · cases hb : bt M i
    · simp
    · have := pcn_lt h hb
      rw [bt_n _ (by omega), Nat.testBit_two_pow]
      simp
      omega
  · simp [h]
theorem dpo_ne {M : Int32} (hM : mok M) {X : Nat} (h0 : 0 < X) (hX : X < 2 ^ pcn M 20) : dpo M (nI X) 20 ≠ 0 := by
  have hp := pow12 hM.2
  intro he
  apply Nat.ne_of_gt h0
  apply Nat.eq_of_testBit_eq
  intro k
  rw [Nat.zero_testBit]
  by_cases hk : k < pcn M 20
  · obtain ⟨i, hi, hb, hpi⟩ := pcn_find hk
    have := dpo_bt M (nI X) 20 (by omega) i (by omega)
    rw [he, b_0, hb, hpi, bt_n _ (by omega)] at this
    simp [hi] at this
    exact this
  · exact Nat.testBit_lt_two_pow (Nat.lt_of_lt_of_le hX (Nat.pow_le_pow_right (by decide) (by omega)))
theorem msrch_go {n : Nat} {M : Int32} {w : Nat → Int32} {np ng : Nat} {G V : Nat → Int32} {σ : Sg} {x1 : Int32} (hn : 30 ≤ n) (hM : mok M) (hnp : np ≤ 20) (hM2 : ∀ i, np ≤ i → i < 32 → bt M i = false) (hc : eM M w np ng G V σ) (hng : ng ≤ 6) : ∀ (e X k : Nat), X + e = 2 ^ (pcn M 20) → e < k → s_X12_explain_76 n k x1 M (bs M w ng G V X).1 (nI (bs M w ng G V X).2.2) (dpo M (nI X) 20) (if e = 0 then 0 else 1) σ = some (if x1 = 0 then (bs M w ng G V (2 ^ (pcn M 20))).1 else nI (bs M w ng G V (2 ^ (pcn M 20))).2.2, σ) := by
  have hp := pow12 hM.2
  intro e
  induction e with
  | zero =>
    intro X k hX hk
    obtain ⟨k, rfl⟩ : ∃ k', k = k' + 1 := ⟨k - 1, by omega⟩
    have hX : X = 2 ^ (pcn M 20) := by omega
    show s_X12_explain_76b n _ _ _ _ _ _ _ _ = _
    unfold s_X12_explain_76b
    rw [if_pos (by simp), hX]
    split <;> rfl
  | succ e ih =>
    intro X k hX hk
    obtain ⟨k, rfl⟩ : ∃ k', k = k' + 1 := ⟨k - 1, by omega⟩
    show s_X12_explain_76b n (s_X12_explain_76 n k) _ _ _ _ _ _ _ = _
    unfold s_X12_explain_76b
    have hb := bs_le (M := M) (w := w) (ng := ng) (G := G) (V := V) X
    have hgd := bs_good (w := w) (ng := ng) (G := G) (V := V) hM X (by omega)
    have hpx := pcn_le (nI X) 24
    have h116 : ∀ x3 x4, s_X12_explain_116 n (s_X12_explain_76 n k) x1 M x3 x4 (dpo M (nI X) 20) σ = s_X12_explain_76 n k x1 M x3 x4 (dpo M (nI (X + 1)) 20) (if e = 0 then 0 else 1) σ := by
      intro x3 x4
      unfold s_X12_explain_116
      simp only [lt_eq]
      rw [dpo_next hM X]
      by_cases he : e = 0
      · have : X + 1 = 2 ^ pcn M 20 := by omega
        rw [this, dpo_end hM, if_pos rfl, if_pos he]
      · rw [if_neg (dpo_ne hM (by omega) (by omega)), if_neg he]
    rw [if_neg (by rw [if_neg (by omega)]; decide), mexp_ok hn hnp hM2 (dpo_dep hM (nI X)) hc hng]
    show (if zo (exA M w G V (nI X) ng) = 0 then _ else _) = _
    have hih := ih (X + 1) k (by omega) (by omega)
    unfold s_X12_explain_106 s_X12_explain_112
    cases hE : exA M w G V (nI X) ng
    · rw [if_pos (show zo false = 0 from rfl)]
      dsimp only
      rw [h116, ← hih, bs_s, hE]
      rfl
    · rw [if_neg (show ¬ zo true = 0 by decide)]
      dsimp only
      rw [show nI (bs M w ng G V X).2.2 + 1 = nI ((bs M w ng G V X).2.2 + 1) from nI_1 _]
      rcases hgd with h1 | ⟨h1, h2⟩
      · rw [h1, if_pos (by decide), h116, ← hih, bs_s, if_pos hE, if_pos (show (bs M w ng G V X).1 = -1 ∨ pcn (nI X) 24 < (bs M w ng G V X).2.1 from .inl h1)]
      · have hne : ¬ (bs M w ng G V X).1 = -1 := fun e => by rw [e] at h1; exact absurd h1 (by decide)
        rw [if_neg (Int32.not_lt.mpr h1), ones_ok hn, bd_so, ones_ok hn, bd_so]
        show s_X12_explain_116 n (s_X12_explain_76 n k) x1 M (if nI (pcn (bs M w ng G V X).1 24) ≤ nI (pcn (dpo M (nI X) 20) 24) then (bs M w ng G V X).1 else dpo M (nI X) 20) (nI ((bs M w ng G V X).2.2 + 1)) (dpo M (nI X) 20) σ = _
        rw [h116, ← hih, bs_s, if_pos hE, dpo_pc hM (by omega), h2]
        have hq := nle (a := (bs M w ng G V X).2.1) (b := pcn (nI X) 24) (by omega) (by omega)
        by_cases hlt : pcn (nI X) 24 < (bs M w ng G V X).2.1
        · rw [if_neg (by rw [hq]; omega), if_pos (show (bs M w ng G V X).1 = -1 ∨ pcn (nI X) 24 < (bs M w ng G V X).2.1 from .inr hlt)]
        · rw [if_pos (by rw [hq]; omega), if_neg (show ¬ ((bs M w ng G V X).1 = -1 ∨ pcn (nI X) 24 < (bs M w ng G V X).2.1) from fun h => h.elim hne hlt)]
theorem mmask_go {n : Nat} {M : Int32} {w : Nat → Int32} {np ng : Nat} {G V : Nat → Int32} {σ : Sg} {x1 : Int32} (hnp : np ≤ 20) (hM2 : ∀ i, np ≤ i → i < 32 → bt M i = false) (hc : eM M w np ng G V σ) : ∀ (e i k : Nat) (x : Int32), i + e = np → e < k → (∀ j, j < 32 → bt x j = (decide (j < i) && bt M j)) → s_X12_explain_29 n k x1 x (nI i) σ = s_X12_explain_76 n n x1 M (-1) 0 0 1 σ := by
  intro e
  induction e with
  | zero =>
    intro i k x hi hk hx
    obtain ⟨k, rfl⟩ : ∃ k', k = k' + 1 := ⟨k - 1, by omega⟩
    have hi : i = np := by omega
    subst hi
    show s_X12_explain_29b n _ _ _ _ _ = _
    unfold s_X12_explain_29b
    rw [hc.1, if_pos (Int32.le_refl _)]
    have : x = M := by
      apply b_ext
      intro j hj
      rw [hx j hj]
      by_cases h : j < i
      · simp [h]
      · rw [hM2 j (by omega) hj]; simp
    rw [this]
  | succ e ih =>
    intro i k x hi hk hx
    obtain ⟨k, rfl⟩ : ∃ k', k = k' + 1 := ⟨k - 1, by omega⟩
    show s_X12_explain_29b n (s_X12_explain_29 n k) _ _ _ _ = _
    unfold s_X12_explain_29b s_X12_explain_52
    rw [hc.1, if_neg (by rw [nle (by omega) (by omega)]; omega), ck_n (by omega) (by omega), ix_n (by omega), lt_eq]
    have hq := hc.2.2.2.2 i (by omega)
    have hv : (if σ 80 i ≤ 0 then (0 : Int32) else 1) = zo (bt M i) := by
      cases hb : bt M i
      · rw [hb] at hq; rw [if_pos (by rw [hq])]; rfl
      · rw [hb] at hq; rw [if_neg (by rw [hq]; simp)]; rfl
    rw [hv, one_ok]
    show s_X12_explain_29 n k x1 (x ||| sl (zo (bt M i)) (nI i)) (nI i + 1) σ = _
    rw [show nI i + 1 = nI (i + 1) from nI_1 i]
    refine ih (i + 1) k _ (by omega) (by omega) fun j hj => ?_
    rw [b_or, hx j hj, slz_bt (by omega) hj]
    by_cases e1 : j = i
    · subst e1; simp
    · have e2 : decide (j < i + 1) = decide (j < i) := by
        by_cases h : j < i
        · simp [h]; omega
        · simp [h]; omega
      rw [e2]; simp [e1]
theorem mexplain_ok {n : Nat} {M : Int32} {w : Nat → Int32} {np ng : Nat} {G V : Nat → Int32} {σ : Sg} {x1 : Int32} (hn : 300000 ≤ n) (hM : mok M) (hnp : np ≤ 20) (hM2 : ∀ i, np ≤ i → i < 32 → bt M i = false) (hc : eM M w np ng G V σ) (hng : ng ≤ 6) : s_X12_explain_29 n n x1 0 0 σ = some (if x1 = 0 then (bs M w ng G V (2 ^ (pcn M 20))).1 else nI (bs M w ng G V (2 ^ (pcn M 20))).2.2, σ) := by
  have hp := pow12 hM.2
  have hp0 : 0 < 2 ^ pcn M 20 := Nat.pow_pos (by decide)
  have h1 := mmask_go (n := n) (x1 := x1) hnp hM2 hc np 0 n 0 (by omega) (by omega) (fun j _ => by rw [b_0]; simp)
  have h2 := msrch_go (n := n) (x1 := x1) (w := w) (G := G) (V := V) (by omega) hM hnp hM2 hc hng (2 ^ pcn M 20) 0 n (by omega) (by omega)
  rw [show dpo M (nI 0) 20 = 0 from dep_uniq (dpo_dep hM _) (dep_0 M), if_neg (by omega)] at h2
  exact h1.trans h2
