/-! ===== explain, the class ===== -/
theorem and1 (a b : Int32) : (a &&& b) &&& 1 = (a &&& 1) &&& (b &&& 1) := by
  apply b_ext
  intro i _
  simp only [b_and]
  cases bt a i <;> cases bt b i <;> cases bt 1 i <;> rfl
theorem and1_bt (x y : Int32) {v u : Nat} (hv : v < 32) (hu : u < 32) : (((sr x (nI v)) &&& (sr y (nI u))) &&& (1 : Int32) = 1) = ((bt x v && bt y u) = true) := by
  rw [and1, sr_bit _ hv, sr_bit _ hu]
  cases bt x v <;> cases bt y u <;> decide
theorem sr_b1 (x : Int32) {v : Nat} (hv : v < 32) : ((sr x (nI v)) &&& (1 : Int32) = 1) = (bt x v = true) := by
  rw [sr_bit _ hv]
  cases bt x v <;> decide
def exU (M x g : Int32) (w : Nat → Int32) : Nat → Int32
  | 0 => 0
  | i + 1 => if (bt M i && bt x (pcn M i) && bt g i) = true then exU M x g w i + w i else exU M x g w i
theorem exU_s (M x g : Int32) (w : Nat → Int32) (i : Nat) : exU M x g w (i + 1) = if (bt M i && bt x (pcn M i) && bt g i) = true then exU M x g w i + w i else exU M x g w i := rfl
def exA (M : Int32) (w : Nat → Int32) (G V : Nat → Int32) (x : Int32) (ng : Nat) : Bool := al (fun g => decide (exU M x (G g) w 20 = V g)) ng
def dpo (M x : Int32) : Nat → Int32
  | 0 => 0
  | i + 1 => if (bt M i && bt x (pcn M i)) = true then dpo M x i ||| sl 1 (nI i) else dpo M x i
theorem dpo_s (M x : Int32) (i : Nat) : dpo M x (i + 1) = if (bt M i && bt x (pcn M i)) = true then dpo M x i ||| sl 1 (nI i) else dpo M x i := rfl
theorem dpo_bt (M x : Int32) : ∀ c, c ≤ 20 → ∀ i, i < 32 → bt (dpo M x c) i = (decide (i < c) && (bt M i && bt x (pcn M i)))
  | 0, _, i, _ => by rw [show dpo M x 0 = 0 from rfl, b_0]; simp
  | c + 1, hc, i, hi => by
    rw [dpo_s]
    have ih := dpo_bt M x c (by omega) i hi
    by_cases e : i = c
    · subst e
      split
      · rename_i h
        rw [b_or, sl1_bt (by omega) hi, h]; simp
      · rename_i h
        rw [ih]
        rw [Bool.not_eq_true] at h
        rw [h]; simp
    · have e2 : decide (i < c + 1) = decide (i < c) := by
        by_cases h : i < c
        · simp [h]; omega
        · simp [h]; omega
      rw [e2]
      split
      · rw [b_or, sl1_bt (by omega) hi, ih]; simp [e]
      · exact ih
def mok (M : Int32) : Prop := (∀ i, 20 ≤ i → i < 32 → bt M i = false) ∧ pcn M 20 ≤ 12
theorem dpo_dep {M : Int32} (hM : mok M) (x : Int32) : dep M x (dpo M x 20) := by
  intro i hi
  rw [dpo_bt M x 20 (by omega) i hi]
  by_cases h : i < 20
  · simp [h]
  · rw [hM.1 i (by omega) hi]; simp
theorem dep_uniq {M x y z : Int32} (h : dep M x y) (h' : dep M x z) : y = z := b_ext fun i hi => (h i hi).trans (h' i hi).symm
def eC (M : Int32) (w : Nat → Int32) (ng : Nat) (G V : Nat → Int32) (σ : Sg) : Prop := σ 63 1 = M ∧ σ 63 0 = nI ng ∧ (∀ g, g < ng → σ 64 g = G g ∧ σ 65 g = V g) ∧ ∀ i, i < 20 → bt M i = true → σ 66 i = w i
def eS (M : Int32) (i : Nat) (σ : Sg) : Prop := σ 63 8 = nI (pcn M i) ∧ ∀ j, j < i → bt M j = true → σ 67 (pcn M j) = nI j
theorem list_go {n : Nat} {M : Int32} (hM : mok M) : ∀ (e i k : Nat) (σ : Sg), i + e = 20 → e < k → σ 63 1 = M → eS M i σ → ∃ τ, s_X1_listSuspects_7 n k (nI i) σ = some τ ∧ eS M 20 τ ∧ ∀ o j, (o ≠ 67 ∧ ¬ (o = 63 ∧ j = 8)) → τ o j = σ o j := by
  intro e
  induction e with
  | zero =>
    intro i k σ hi hk h1 hS
    obtain ⟨k, rfl⟩ : ∃ k', k = k' + 1 := ⟨k - 1, by omega⟩
    have hi : i = 20 := by omega
    subst hi
    refine ⟨σ, ?_, hS, fun _ _ _ => rfl⟩
    show s_X1_listSuspects_7b n _ _ _ = _
    unfold s_X1_listSuspects_7b
    rw [if_pos (show (20 : Int32) ≤ nI 20 from Int32.le_refl _)]
  | succ e ih =>
    intro i k σ hi hk h1 hS
    obtain ⟨k, rfl⟩ : ∃ k', k = k' + 1 := ⟨k - 1, by omega⟩
    show ∃ τ, s_X1_listSuspects_7b n (s_X1_listSuspects_7 n k) _ _ = _ ∧ _
    unfold s_X1_listSuspects_7b
    have hmi := pcn_mono M (show i ≤ 20 by omega)
    have hm := hM.2
    rw [if_neg (by rw [show (20 : Int32) = nI 20 from rfl, nle (by omega) (by omega)]; omega)]
    by_cases h12 : pcn M i = 12
    · rw [hS.1, if_pos (by rw [show (12 : Int32) = nI 12 from rfl, nle (by omega) (by omega)]; omega)]
      refine ⟨σ, rfl, ⟨?_, ?_⟩, fun _ _ _ => rfl⟩
      · rw [hS.1]; congr 1; omega
      · intro j hj hb
        by_cases hji : j < i
        · exact hS.2 j hji hb
        · have := pcn_lt hj hb
          have := pcn_mono M (show i ≤ j by omega)
          omega
    · rw [hS.1, if_neg (by rw [show (12 : Int32) = nI 12 from rfl, nle (by omega) (by omega)]; omega), h1]
      have hb := sr_b1 M (v := i) (by omega)
      cases hbi : bt M i
      · rw [hbi] at hb
        rw [if_neg (by rw [hb]; simp), show nI i + 1 = nI (i + 1) from nI_1 i]
        refine ih (i + 1) k σ (by omega) (by omega) h1 ⟨?_, ?_⟩
        · rw [pcn_s, hbi]; exact hS.1
        · intro j hj hjb
          by_cases e : j = i
          · subst e; rw [hbi] at hjb; cases hjb
          · exact hS.2 j (by omega) hjb
      · rw [hbi] at hb
        rw [if_pos (by rw [hb]), show (12 : Nat) = 12 from rfl, ck_n (by omega) (by omega), ix_n (by omega), lt_eq, lt_eq, up2_o (by decide), hS.1, show nI i + 1 = nI (i + 1) from nI_1 i, show nI (pcn M i) + 1 = nI (pcn M i + 1) from nI_1 _]
        obtain ⟨τ, t1, t2, t3⟩ := ih (i + 1) k (up2 (up2 σ 67 (pcn M i) (nI i)) 63 8 (nI (pcn M i + 1))) (by omega) (by omega) (by simp [up2_app, h1]) ⟨by simp [up2_app, pcn_s, hbi], fun j hj hjb => by
          by_cases e : j = i
          · subst e; simp [up2_app]
          · have := pcn_lt (show j < i by omega) hjb
            simp [up2_app, hS.2 j (by omega) hjb]
            omega⟩
        refine ⟨τ, t1, t2, fun o j ho => ?_⟩
        rw [t3 o j ho, up2_app, up2_app]
        by_cases e1 : o = 63
        · subst e1
          have : j ≠ 8 := fun e => ho.2 ⟨rfl, e⟩
          simp [this]
        · simp [e1, ho.1]
theorem cexp_sum {n : Nat} {M x : Int32} {w : Nat → Int32} {ng g : Nat} {G V : Nat → Int32} {rc : Int32 → Int32 → Sg → Option (Int32 × Sg)} {σ : Sg} (hM : mok M) (hc : eC M w ng G V σ) (hS : eS M 20 σ) (hg : g < ng) (hng : ng ≤ 6) : ∀ (e i k : Nat), i + e = 20 → e < k → s_X1_explains_15 n rc k x (nI g) (exU M x (G g) w i) (nI (pcn M i)) σ = if exU M x (G g) w 20 = V g then rc x (nI (g + 1)) σ else some (0, σ) := by
  intro e
  induction e with
  | zero =>
    intro i k hi hk
    obtain ⟨k, rfl⟩ : ∃ k', k = k' + 1 := ⟨k - 1, by omega⟩
    have hi : i = 20 := by omega
    subst hi
    show s_X1_explains_15b n _ _ _ _ _ _ _ = _
    unfold s_X1_explains_15b
    rw [hS.1, if_pos (Int32.le_refl _), ck_n (by omega) (by omega), ix_n (by omega), (hc.2.2.1 g hg).2, show nI g + 1 = nI (g + 1) from nI_1 g]
  | succ e ih =>
    intro i k hi hk
    cases hb : bt M i
    · have := ih (i + 1) k (by omega) (by omega)
      rw [pcn_s, exU_s, hb] at this
      simpa using this
    · obtain ⟨k, rfl⟩ : ∃ k', k = k' + 1 := ⟨k - 1, by omega⟩
      have := ih (i + 1) k (by omega) (by omega)
      rw [pcn_s, exU_s, hb, show (true : Bool).toNat = 1 from rfl, Bool.true_and] at this
      rw [← this]
      show s_X1_explains_15b n _ (s_X1_explains_15 n rc k) _ _ _ _ _ = _
      unfold s_X1_explains_15b
      have hlt := pcn_lt (show i < 20 by omega) hb
      have hm := hM.2
      rw [hS.1, if_neg (by rw [nle (by omega) (by omega)]; omega), ck_n (by omega) (by omega), ck_n (by omega) (by omega), ix_n (by omega), ix_n (by omega), hS.2 i (by omega) hb, (hc.2.2.1 g hg).1, show nI (pcn M i) + 1 = nI (pcn M i + 1) from nI_1 _]
      have hq := and1_bt x (G g) (v := pcn M i) (u := i) (by omega) (by omega)
      by_cases h : (bt x (pcn M i) && bt (G g) i) = true
      · rw [if_pos (by rw [hq]; exact h), if_pos h, ck_n (by omega) (by omega), ck_n (by omega) (by omega), ix_n (by omega), hc.2.2.2 i (by omega) hb, lt_eq]
      · rw [if_neg (by rw [hq]; exact h), if_neg h]
theorem cexp_go {n : Nat} {M x : Int32} {w : Nat → Int32} {ng : Nat} {G V : Nat → Int32} {σ : Sg} (hn : 30 ≤ n) (hM : mok M) (hc : eC M w ng G V σ) (hS : eS M 20 σ) (hng : ng ≤ 6) : ∀ (e g k : Nat), g + e = ng → e < k → exA M w G V x g = true → s_X1_explains_2 n k x (nI g) σ = some (zo (exA M w G V x ng), σ) := by
  intro e
  induction e with
  | zero =>
    intro g k hg hk ha
    obtain ⟨k, rfl⟩ : ∃ k', k = k' + 1 := ⟨k - 1, by omega⟩
    have hg : g = ng := by omega
    subst hg
    show s_X1_explains_2b n _ _ _ _ = _
    unfold s_X1_explains_2b
    rw [hc.2.1, if_pos (Int32.le_refl _), ha]
    rfl
  | succ e ih =>
    intro g k hg hk ha
    obtain ⟨k, rfl⟩ : ∃ k', k = k' + 1 := ⟨k - 1, by omega⟩
    show s_X1_explains_2b n (s_X1_explains_2 n k) _ _ _ = _
    unfold s_X1_explains_2b
    rw [hc.2.1, if_neg (by rw [nle (by omega) (by omega)]; omega)]
    have h := cexp_sum (n := n) (x := x) (rc := s_X1_explains_2 n k) hM hc hS (show g < ng by omega) hng 20 0 n (by omega) (by omega)
    refine Eq.trans h ?_
    by_cases he : exU M x (G g) w 20 = V g
    · rw [if_pos he]
      refine ih (g + 1) k (by omega) (by omega) ?_
      unfold exA at ha ⊢
      rw [al_s, ha]
      simp [he]
    · rw [if_neg he]
      have : exA M w G V x ng = false := by
        cases h2 : exA M w G V x ng
        · rfl
        · exact absurd (of_decide_eq_true (al_t h2 g (by omega))) he
      rw [this]
      rfl
theorem cexp_ok {n : Nat} {M : Int32} (x : Int32) {w : Nat → Int32} {ng : Nat} {G V : Nat → Int32} {σ : Sg} (hn : 30 ≤ n) (hM : mok M) (hc : eC M w ng G V σ) (hS : eS M 20 σ) (hng : ng ≤ 6) : s_X1_explains n x σ = some (zo (exA M w G V x ng), σ) := cexp_go hn hM hc hS hng ng 0 n (by omega) (by omega) rfl
theorem asSet_go {n : Nat} {M x : Int32} {σ : Sg} (hM : mok M) (hS : eS M 20 σ) : ∀ (e i k : Nat), i + e = 20 → e < k → s_X1_asSet_4 n k x (dpo M x i) (nI (pcn M i)) σ = some (dpo M x 20, σ) := by
  intro e
  induction e with
  | zero =>
    intro i k hi hk
    obtain ⟨k, rfl⟩ : ∃ k', k = k' + 1 := ⟨k - 1, by omega⟩
    have hi : i = 20 := by omega
    subst hi
    show s_X1_asSet_4b n _ _ _ _ _ = _
    unfold s_X1_asSet_4b
    rw [hS.1, if_pos (Int32.le_refl _)]
  | succ e ih =>
    intro i k hi hk
    cases hb : bt M i
    · have := ih (i + 1) k (by omega) (by omega)
      rw [pcn_s, dpo_s, hb] at this
      simpa using this
    · obtain ⟨k, rfl⟩ : ∃ k', k = k' + 1 := ⟨k - 1, by omega⟩
      have := ih (i + 1) k (by omega) (by omega)
      rw [pcn_s, dpo_s, hb, show (true : Bool).toNat = 1 from rfl, Bool.true_and] at this
      rw [← this]
      show s_X1_asSet_4b n (s_X1_asSet_4 n k) _ _ _ _ = _
      unfold s_X1_asSet_4b
      have hlt := pcn_lt (show i < 20 by omega) hb
      have hm := hM.2
      rw [hS.1, if_neg (by rw [nle (by omega) (by omega)]; omega), show nI (pcn M i) + 1 = nI (pcn M i + 1) from nI_1 _]
      have hq := sr_b1 x (v := pcn M i) (by omega)
      by_cases h : bt x (pcn M i) = true
      · rw [if_pos (by rw [hq]; exact h), if_pos h, ck_n (by omega) (by omega), ix_n (by omega), hS.2 i (by omega) hb, lt_eq]
      · rw [if_neg (by rw [hq]; exact h), if_neg h]
theorem asSet_ok {n : Nat} {M : Int32} (x : Int32) {σ : Sg} (hn : 30 ≤ n) (hM : mok M) (hS : eS M 20 σ) : s_X1_asSet n x σ = some (dpo M x 20, σ) := asSet_go hM hS 20 0 n (by omega) (by omega)
