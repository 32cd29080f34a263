/-! ===== the reference measures ===== -/
def mF (f : Nat → Int32) (σ : Sg) : Prop := ∀ v, v < 10 → σ 106 v = f v
theorem mF_up {f : Nat → Int32} {σ : Sg} {b : Nat} {y : Int32} (h : mF f σ) : mF (fun v => if v = b then y else f v) (up2 σ 106 b y) := by
  intro v hv
  by_cases h1 : v = b
  · subst h1; simp [up2_app]
  · simp [up2_app, h1, h v hv]
theorem fo_nn {r : Nat} {f : Nat → Int32} (h : fok10 r f) (hr : r < 100) (v : Nat) : (0 ≤ f v) = ¬ (f v = -1) := by
  rcases h v with h1 | ⟨d, h1, h2⟩
  · rw [h1]; exact propext ⟨fun z => absurd z m1_nn, fun z => absurd rfl z⟩
  · rw [h2]; exact propext ⟨fun _ => n_ne1 (by omega), fun _ => n_nn (by omega)⟩
theorem mfar_step {n r p a b : Nat} {f : Nat → Int32} {ea eb : Nat → Nat} {cl : Nat → Bool} {rc31 : Int32 → Sg → Option Sg} {rc39 : Int32 → Int32 → Sg → Option Sg} {σ : Sg} (hr : r < 10) (hp : p < 20) (hea : ea p = a) (heb : eb p = b) (ha : a < 10) (hb : b < 10) (hab : a ≠ b) (hcl : ¬ cl p = true) (hf : fok10 (r + 1) f) (e73 : σ 73 p = nI a) (e74 : σ 74 p = nI b) (hF : mF f σ) :
    ∃ τ, (ck (nI p) 20 (ck (nI p) 20 (ck (σ 73 (ix (nI p))) 10 (if (σ 106 (ix (σ 73 (ix (nI p))))) = nI r then (ck (nI p) 20 (ck (σ 74 (ix (nI p))) 10 (if 0 ≤ (σ 106 (ix (σ 74 (ix (nI p))))) then (s_X12_findFar_101 n rc31 rc39 (nI r) (nI p) (σ 74 (ix (nI p))) σ) else (s_X12_findFar_112 n rc31 rc39 (nI r) (nI p) (nI r + 1) (σ 74 (ix (nI p))) σ)))) else (s_X12_findFar_101 n rc31 rc39 (nI r) (nI p) (σ 74 (ix (nI p))) σ))))) = rc39 (nI r) (nI (p + 1)) τ ∧ mF (stp ea eb cl r p f) τ ∧ ∀ o j, o ≠ 106 → τ o j = σ o j := by
  simp (disch := omega) only [ck_n, ix_n, e73, e74, hF a ha, hF b hb]
  -- the second half, for a new value y at b
  have half : ∀ (y : Int32) (ρ : Sg) (g : Nat → Int32), mF g ρ → fok10 (r + 1) (fun v => if v = b then y else g v) → ρ 73 p = nI a → ρ 74 p = nI b → ∃ τ, s_X12_findFar_112 n rc31 rc39 (nI r) (nI p) y (nI b) ρ = rc39 (nI r) (nI (p + 1)) τ ∧ mF (fun v => if v = a then (if y = nI r ∧ g a = -1 then nI (r + 1) else g a) else if v = b then y else g v) τ ∧ ∀ o j, o ≠ 106 → τ o j = ρ o j := by
    intro y ρ g hg hgo q73 q74
    unfold s_X12_findFar_112
    have m1 := mF_up (b := b) (y := y) hg
    have fr : ∀ o j, o ≠ 106 → up2 ρ 106 b y o j = ρ o j := fun o j ho => up2_o ho
    have vb : up2 ρ 106 b y 106 b = y := by simp [up2_app]
    have va : up2 ρ 106 b y 106 a = g a := by
      have q := m1 a ha
      dsimp only at q
      rw [if_neg hab] at q
      exact q
    simp (disch := omega) only [ck_n, ix_n, lt_eq, fr 73 _ (by decide), fr 74 _ (by decide), q73, q74, vb, va]
    have fin : ∀ (z : Int32), ∃ τ, s_X12_findFar_169 n rc31 rc39 (nI r) (nI p) z (nI a) (up2 ρ 106 b y) = rc39 (nI r) (nI (p + 1)) τ ∧ mF (fun v => if v = a then z else if v = b then y else g v) τ ∧ ∀ o j, o ≠ 106 → τ o j = ρ o j := by
      intro z
      unfold s_X12_findFar_169
      simp (disch := omega) only [ck_n, ix_n, lt_eq]
      rw [show nI p + 1 = nI (p + 1) from nI_1 p]
      exact ⟨_, rfl, mF_up m1, fun o j ho => by rw [up2_o ho, up2_o ho]⟩
    have same : s_X12_findFar_158 n rc31 rc39 (nI r) (nI p) (nI a) (up2 ρ 106 b y) = s_X12_findFar_169 n rc31 rc39 (nI r) (nI p) (g a) (nI a) (up2 ρ 106 b y) := by
      unfold s_X12_findFar_158
      simp (disch := omega) only [ck_n, ix_n, fr 73 _ (by decide), q73, va]
    have hga : (0 ≤ g a) = ¬ (g a = -1) := by
      have := fo_nn hgo (by omega) a
      simp only [hab, if_false] at this
      exact this
    rw [same]
    by_cases h1 : y = nI r
    · rw [if_pos h1, show nI r + 1 = nI (r + 1) from nI_1 r]
      simp only [hga]
      by_cases h2 : g a = -1
      · rw [if_neg (fun z => z h2), if_pos ⟨h1, h2⟩]
        exact fin _
      · rw [if_pos h2, if_neg (fun z => h2 z.2)]
        exact fin _
    · rw [if_neg h1, if_neg (fun z => h1 z.1)]
      exact fin _
  have s101 : s_X12_findFar_101 n rc31 rc39 (nI r) (nI p) (nI b) σ = s_X12_findFar_112 n rc31 rc39 (nI r) (nI p) (f b) (nI b) σ := by
    unfold s_X12_findFar_101
    simp (disch := omega) only [ck_n, ix_n, e74, hF b hb]
  have hfun : ∀ (y : Int32), y = f b → (fun v => if v = b then y else f v) = f := by
    intro y hy
    funext v
    by_cases h : v = b
    · rw [if_pos h, hy, h]
    · rw [if_neg h]
  rw [s101]
  simp only [fo_nn hf (by omega) b]
  unfold stp
  rw [if_neg hcl, hea, heb]
  by_cases h1 : f a = nI r
  · rw [if_pos h1]
    by_cases h2 : f b = -1
    · rw [if_neg (fun z => z h2), if_pos ⟨h1, h2⟩, show nI r + 1 = nI (r + 1) from nI_1 r]
      obtain ⟨τ, t1, t2, t3⟩ := half (nI (r + 1)) σ f hF (by
        intro v
        by_cases h : v = b
        · simp only [h, if_true]; exact Or.inr ⟨r + 1, Nat.le_refl _, rfl⟩
        · simp only [h, if_false]; exact hf v) e73 e74
      refine ⟨τ, t1, fun v hv => ?_, t3⟩
      rw [t2 v hv]
      try dsimp only
      have hne : ¬ (nI (r + 1) = nI r ∧ f a = -1) := fun z => by
        have := z.1
        rw [neq (by omega) (by omega)] at this
        omega
      rw [if_neg hne]
      by_cases h : v = a
      · rw [if_pos h, if_neg (fun z => hab (h.symm.trans z)), h]
      · rw [if_neg h]
    · rw [if_pos h2, if_neg (fun z => h2 z.2)]
      obtain ⟨τ, t1, t2, t3⟩ := half (f b) σ f hF (by rw [hfun _ rfl]; exact hf) e73 e74
      refine ⟨τ, t1, fun v hv => ?_, t3⟩
      rw [t2 v hv]
      try dsimp only
      by_cases h3 : f b = nI r ∧ f a = -1
      · rw [if_pos h3, if_pos h3]
        by_cases h : v = a
        · rw [if_pos h, if_pos h]
        · rw [if_neg h, if_neg h]
          by_cases h5 : v = b
          · rw [if_pos h5, h5]
          · rw [if_neg h5]
      · rw [if_neg h3, if_neg h3]
        by_cases h : v = a
        · rw [if_pos h, h]
        · rw [if_neg h]
          by_cases h5 : v = b
          · rw [if_pos h5, h5]
          · rw [if_neg h5]
  · rw [if_neg h1, if_neg (fun z => h1 z.1)]
    obtain ⟨τ, t1, t2, t3⟩ := half (f b) σ f hF (by rw [hfun _ rfl]; exact hf) e73 e74
    refine ⟨τ, t1, fun v hv => ?_, t3⟩
    rw [t2 v hv]
    try dsimp only
    by_cases h3 : f b = nI r ∧ f a = -1
    · rw [if_pos h3, if_pos h3]
      by_cases h : v = a
      · rw [if_pos h, if_pos h]
      · rw [if_neg h, if_neg h]
        by_cases h5 : v = b
        · rw [if_pos h5, h5]
        · rw [if_neg h5]
    · rw [if_neg h3, if_neg h3]
      by_cases h : v = a
      · rw [if_pos h, h]
      · rw [if_neg h]
        by_cases h5 : v = b
        · rw [if_pos h5, h5]
        · rw [if_neg h5]
theorem mfar_inner {n r : Nat} {N : Net} {f : Nat → Int32} {rc : Int32 → Sg → Option Sg} (hN : nok N) (hr : r < 10) (hf : fok10 r f) : ∀ (e p k : Nat) (σ : Sg), p + e = nP N → e < k → mN N σ → mF (rnd (nA N) (nB N) (nSh N) r f p) σ → ∃ τ, s_X12_findFar_39 n rc k (nI r) (nI p) σ = rc (nI (r + 1)) τ ∧ mF (rnd (nA N) (nB N) (nSh N) r f (nP N)) τ ∧ ∀ o j, o ≠ 106 → τ o j = σ o j := by
  intro e
  induction e with
  | zero =>
    intro p k σ hp hk hc hF
    obtain ⟨k, rfl⟩ : ∃ k', k = k' + 1 := ⟨k - 1, by omega⟩
    have h20 := hN.1
    have hp : p = nP N := by omega
    subst hp
    refine ⟨σ, ?_, hF, fun _ _ _ => rfl⟩
    show s_X12_findFar_39b n rc _ _ _ _ = _
    unfold s_X12_findFar_39b
    rw [hc.1, if_pos (by rw [nle (by omega) (by omega)]; exact Nat.le_refl _), show nI r + 1 = nI (r + 1) from nI_1 r]
  | succ e ih =>
    intro p k σ hp hk hc hF
    obtain ⟨k, rfl⟩ : ∃ k', k = k' + 1 := ⟨k - 1, by omega⟩
    have h20 := hN.1
    have hpl : p < nP N := by omega
    obtain ⟨e4, e5, e6, e7, eb⟩ := hc.2 p hpl
    obtain ⟨g1, g2, g3, _⟩ := hN.2 p hpl
    have hrs : rnd (nA N) (nB N) (nSh N) r f (p + 1) = stp (nA N) (nB N) (nSh N) r p (rnd (nA N) (nB N) (nSh N) r f p) := rfl
    show ∃ τ, s_X12_findFar_39b n rc (s_X12_findFar_39 n rc k) _ _ _ = _ ∧ _
    unfold s_X12_findFar_39b
    rw [hc.1, if_neg (by rw [nle (by omega) (by omega)]; omega), ck_n (by omega) (by omega), ix_n (by omega), eb]
    by_cases hs : nSh N p = true
    · rw [if_pos hs, if_neg (by decide), show nI p + 1 = nI (p + 1) from nI_1 p]
      refine ih (p + 1) k σ (by omega) (by omega) hc ?_
      rw [hrs]
      unfold stp
      rw [if_pos hs]
      exact hF
    · rw [if_neg hs, if_pos rfl]
      obtain ⟨τ1, t1, t2, t3⟩ := mfar_step (n := n) (rc31 := rc) (rc39 := s_X12_findFar_39 n rc k) (cl := nSh N) hr (by omega) rfl rfl g1 g2 g3 hs (rnd_ok hf p) e4 e5 hF
      rw [ix_n (by omega)] at t1
      rw [t1]
      obtain ⟨τ, w1, w2, w3⟩ := ih (p + 1) k τ1 (by omega) (by omega) (mN_of hc (t3 71 2 (by decide)) (fun j => t3 73 j (by decide)) (fun j => t3 74 j (by decide)) (fun j => t3 77 j (by decide)) (fun j => t3 78 j (by decide)) (fun j => t3 79 j (by decide))) (by rw [hrs]; exact t2)
      exact ⟨τ, w1, w2, fun o j ho => (w3 o j ho).trans (t3 o j ho)⟩
abbrev dstN (N : Net) : Nat → Int32 := dst (nP N) (nA N) (nB N) (nSh N)
theorem mfar_outer {n : Nat} {N : Net} (hN : nok N) (hn : 100 ≤ n) : ∀ (e r k : Nat) (σ : Sg), r + e = 10 → e < k → mN N σ → mF (lvl (nP N) (nA N) (nB N) (nSh N) r) σ → ∃ τ, s_X12_findFar_31 n k (nI r) σ = some τ ∧ mF (dstN N) τ := by
  intro e
  induction e with
  | zero =>
    intro r k σ hr hk hc hF
    obtain ⟨k, rfl⟩ : ∃ k', k = k' + 1 := ⟨k - 1, by omega⟩
    have hr : r = 10 := by omega
    subst hr
    refine ⟨σ, ?_, hF⟩
    show s_X12_findFar_31b n _ _ _ = _
    unfold s_X12_findFar_31b
    rw [if_pos (show (10 : Int32) ≤ nI 10 from Int32.le_refl _)]
  | succ e ih =>
    intro r k σ hr hk hc hF
    obtain ⟨k, rfl⟩ : ∃ k', k = k' + 1 := ⟨k - 1, by omega⟩
    have h20 := hN.1
    show ∃ τ, s_X12_findFar_31b n (s_X12_findFar_31 n k) _ _ = _ ∧ _
    unfold s_X12_findFar_31b
    rw [if_neg (by rw [show (10 : Int32) = nI 10 from rfl, nle (by omega) (by omega)]; omega)]
    obtain ⟨τ, w1, w2, w3⟩ := mfar_inner (n := n) (rc := s_X12_findFar_31 n k) hN (show r < 10 by omega) (lvl_ok (nP N) (nA N) (nB N) (nSh N) r) (nP N) 0 n σ (by omega) (by omega) hc hF
    have w1' : s_X12_findFar_39 n (s_X12_findFar_31 n k) n (nI r) 0 σ = s_X12_findFar_31 n k (nI (r + 1)) τ := w1
    rw [w1']
    exact ih (r + 1) k τ (by omega) (by omega) (mN_of hc (w3 71 2 (by decide)) (fun j => w3 73 j (by decide)) (fun j => w3 74 j (by decide)) (fun j => w3 77 j (by decide)) (fun j => w3 78 j (by decide)) (fun j => w3 79 j (by decide))) w2
theorem mfar_init {n : Nat} : ∀ (e i k : Nat) (σ : Sg), i + e = 10 → e < k → (∀ v, v < i → σ 106 v = if v = 0 then 0 else -1) → ∃ τ, s_X12_findFar_2 n k (nI i) σ = s_X12_findFar_31 n n 0 τ ∧ (∀ v, v < 10 → τ 106 v = if v = 0 then 0 else -1) ∧ ∀ o j, o ≠ 106 → τ o j = σ o j := by
  intro e
  induction e with
  | zero =>
    intro i k σ hi hk hz
    obtain ⟨k, rfl⟩ : ∃ k', k = k' + 1 := ⟨k - 1, by omega⟩
    have hi : i = 10 := by omega
    subst hi
    refine ⟨σ, ?_, hz, fun _ _ _ => rfl⟩
    show s_X12_findFar_2b n _ _ _ = _
    unfold s_X12_findFar_2b
    rw [if_pos (show (10 : Int32) ≤ nI 10 from Int32.le_refl _)]
  | succ e ih =>
    intro i k σ hi hk hz
    obtain ⟨k, rfl⟩ : ∃ k', k = k' + 1 := ⟨k - 1, by omega⟩
    show ∃ τ, s_X12_findFar_2b n (s_X12_findFar_2 n k) _ _ = _ ∧ _
    unfold s_X12_findFar_2b
    rw [if_neg (by rw [show (10 : Int32) = nI 10 from rfl, nle (by omega) (by omega)]; omega)]
    simp (disch := omega) only [ck_n, ix_n, lt_eq]
    have e0 : (nI i = (0 : Int32)) = (i = 0) := neq (b := 0) (by omega) (by omega)
    rw [show nI i + 1 = nI (i + 1) from nI_1 i]
    simp only [e0]
    obtain ⟨τ, t1, t2, t3⟩ := ih (i + 1) k (up2 σ 106 i (if i = 0 then 0 else -1)) (by omega) (by omega) (fun v hv => by
      by_cases h : v = i
      · subst h; simp [up2_app]
      · simp [up2_app, h, hz v (by omega)])
    exact ⟨τ, t1, t2, fun o j ho => by rw [t3 o j ho, up2_o ho]⟩
theorem findFar_ok {n : Nat} {N : Net} {σ : Sg} (hN : nok N) (hn : 100 ≤ n) (hc : mN N σ) : ∃ τ, s_X12_findFar n σ = some τ ∧ mF (dstN N) τ := by
  obtain ⟨τ, t1, t2, t3⟩ := mfar_init (n := n) 10 0 n σ (by omega) (by omega) (fun v hv => by omega)
  have t1' : s_X12_findFar n σ = s_X12_findFar_31 n n (nI 0) τ := t1
  rw [t1']
  exact mfar_outer hN hn 10 0 n τ (by omega) (by omega) (mN_of hc (t3 71 2 (by decide)) (fun j => t3 73 j (by decide)) (fun j => t3 74 j (by decide)) (fun j => t3 77 j (by decide)) (fun j => t3 78 j (by decide)) (fun j => t3 79 j (by decide))) t2
