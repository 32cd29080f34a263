/-! ===== the reference's findWay and ask ===== -/
theorem mfw_init {n : Nat} {A : Mx} {node : Nat} {d : Int32} : ∀ (e i k : Nat) (σ : Sg), i + e = 12 → e < k → mM A node d σ → (∀ w, w < i → σ 102 w = -1) →
    ∃ τ, mM A node d τ ∧ (∀ w, w < 12 → τ 102 w = -1) ∧ s_X12_findWay_2 n k (nI i) σ = s_X12_findWay_42 n n 1 0 (up2 (up2 τ 102 10 10) 103 0 10) := by
  intro e
  induction e with
  | zero =>
    intro i k σ hi hk hM hc
    obtain ⟨k, rfl⟩ : ∃ k', k = k' + 1 := ⟨k - 1, by omega⟩
    have hi : i = 12 := by omega
    subst hi
    refine ⟨σ, hM, hc, ?_⟩
    show s_X12_findWay_2b n _ _ _ = _
    unfold s_X12_findWay_2b
    rw [if_pos (show (12 : Int32) ≤ nI 12 from Int32.le_refl _)]
    rw [show ck (10 : Int32) 12 = @ck (Int32 × Sg) (nI 10) 12 from rfl, ck_n (by omega) (by omega), lt_eq]
    rw [show ck (0 : Int32) 12 = @ck (Int32 × Sg) (nI 0) 12 from rfl, ck_n (by omega) (by omega), lt_eq]
    rfl
  | succ e ih =>
    intro i k σ hi hk hM hc
    obtain ⟨k, rfl⟩ : ∃ k', k = k' + 1 := ⟨k - 1, by omega⟩
    show ∃ τ, _ ∧ _ ∧ s_X12_findWay_2b n (s_X12_findWay_2 n k) _ _ = _
    unfold s_X12_findWay_2b
    rw [if_neg (by rw [show (12 : Int32) = nI 12 from rfl, nle (by omega) (by omega)]; omega)]
    simp (disch := omega) only [ck_n, ix_n, lt_eq]
    rw [show nI i + 1 = nI (i + 1) from nI_1 i]
    refine ih (i + 1) k _ (by omega) (by omega) (mM_of hM (funext fun j => by simp [up2_app])) (fun w hw => ?_)
    by_cases h : w = i
    · subst h; simp [up2_app]
    · simp [up2_app, h, hc w (by omega)]
theorem mfindWay_ok {n node : Nat} {A : Mx} {d : Int32} {σ : Sg} (hn : node < 10) (hd : 0 < d) (hN : 14 ≤ n) (hM : mM A node d σ) : ∃ τ, mM A node d τ ∧ ((rch A node ∧ s_X12_findWay n σ = some (1, τ) ∧ ∃ g, g ≤ 11 ∧ node ∈ bq A g ∧ (∀ w ∈ bq A g, w ≠ 10 → τ 102 w = nI (bp A g w)) ∧ τ 102 11 = nI node) ∨ (¬ rch A node ∧ s_X12_findWay n σ = some (0, τ))) := by
  obtain ⟨τ, t1, t2, t3⟩ := mfw_init (n := n) 12 0 n σ (by omega) (by omega) hM (fun w hw => by omega)
  have t3' : s_X12_findWay n σ = s_X12_findWay_42 n n (nI (bq A 0).length) (nI 0) (up2 (up2 τ 102 10 10) 103 0 10) := t3
  rw [t3']
  have hM1 : mM A node d (up2 (up2 τ 102 10 10) 103 0 10) := mM_of t1 (funext fun j => by simp [up2_app])
  obtain ⟨τ2, w1, w2⟩ := mfw_outer hn hd hN 11 0 n _ (by omega) (by omega) hM1 (fun i hi => by omega) ⟨fun i w hw => by
    have hw : ([10] : List Nat)[i]? = some w := hw
    cases i with
    | zero => simp at hw; subst hw; simp [up2_app]; rfl
    | succ i => simp at hw, fun w hw hwn => by
      have hwn : w ∉ [10] := hwn
      simp at hwn
      simp [up2_app, hwn, t2 w hw], fun w hw hne => by
      have hw : w ∈ [10] := hw
      simp at hw; exact absurd hw hne, by simp [up2_app]; rfl⟩
  exact ⟨τ2, mM_of hM1 (funext fun j => w1 101 j (by decide) (by decide)), w2⟩
/-- what came from where, on a closed set; the drain from 'node' -/
def mP (p : Nat → Nat) (S : Nat → Prop) (node : Nat) (σ : Sg) : Prop := (∀ w, S w → w < 11 ∧ (w ≠ 10 → σ 102 w = nI (p w) ∧ S (p w))) ∧ σ 102 11 = nI node
theorem least_ok (n : Nat) (a b : Int32) (σ : Sg) : s_X12_least n a b σ = some (imin a b, σ) := by
  unfold s_X12_least imin
  by_cases h : b < a
  · rw [if_pos h, if_pos (Int32.le_of_lt h)]
  · rw [if_neg h]
    by_cases h2 : b ≤ a
    · have e : b = a := Int32.le_antisymm h2 (Int32.not_lt.mp h)
      rw [if_pos h2, e]
    · rw [if_neg h2]
theorem mnar_ok {n node : Nat} {A : Mx} {d : Int32} {p : Nat → Nat} {S : Nat → Prop} {σ : Sg} (hM : mM A node d σ) (hP : mP p S node σ) {rc : Int32 → Int32 → Int32 → Sg → Option (Int32 × Sg)} {x1 x2 x3 : Int32} : ∀ (j v k f : Nat) (m : Int32), chok p j v → S v → j < k → j ≤ f → s_X12_ask_38 n rc k x1 x2 x3 m (nI v) σ = s_X12_ask_85 n rc n x1 x2 x3 (nar A p f m v) 11 σ := by
  intro j
  induction j with
  | zero =>
    intro v k f m hc hv hk hf
    obtain ⟨k, rfl⟩ : ∃ k', k = k' + 1 := ⟨k - 1, by omega⟩
    have hc : v = 10 := hc
    subst hc
    show s_X12_ask_38b n _ _ _ _ _ _ _ _ = _
    unfold s_X12_ask_38b
    rw [if_pos (show nI 10 = 10 from rfl), nar_10]
  | succ j ih =>
    intro v k f m hc hv hk hf
    obtain ⟨k, rfl⟩ : ∃ k', k = k' + 1 := ⟨k - 1, by omega⟩
    have h11 := (hP.1 v hv).1
    show s_X12_ask_38b n rc (s_X12_ask_38 n rc k) _ _ _ _ _ _ = _
    unfold s_X12_ask_38b
    by_cases h10 : v = 10
    · subst h10
      rw [if_pos (show nI 10 = 10 from rfl), nar_10]
    · obtain ⟨e102, hS⟩ := (hP.1 v hv).2 h10
      have hp11 := (hP.1 _ hS).1
      have hc2 : chok p j (p v) := hc.elim (fun z => absurd z h10) id
      rw [if_neg (by rw [show (10 : Int32) = nI 10 from rfl, neq (by omega) (by omega)]; exact h10)]
      simp (disch := omega) only [ck_n, ix_n, e102, cell_ok, bd_some, lt_eq, hM.1 (p v) v hp11 h11, least_ok]
      obtain ⟨f, rfl⟩ : ∃ f', f = f' + 1 := ⟨f - 1, by omega⟩
      rw [ih (p v) k f _ hc2 hS (by omega) (by omega), nar_s, if_neg h10]
theorem mM_put {A : Mx} {node : Nat} {d : Int32} {σ : Sg} {u v : Nat} {y : Int32} (hu : u < 11) (hv : v < 11) (h : mM A node d σ) : mM (mup A u v y) node d (up2 σ 101 (12 * u + v) y) := by
  refine ⟨fun a b ha hb => ?_, fun a ha => ?_⟩
  · have h2 := h.1 a b ha hb
    simp only [up2_app, mup]
    by_cases e : a = u ∧ b = v
    · obtain ⟨rfl, rfl⟩ := e
      simp
    · rw [if_neg e]
      have : ¬ (12 * a + b = 12 * u + v) := by omega
      simp [this, h2]
  · have h2 := h.2 a ha
    have : ¬ (12 * a + 11 = 12 * u + v) := by omega
    simp [up2_app, this, h2]
theorem mpush_ok {n node : Nat} {d : Int32} {p : Nat → Nat} {S : Nat → Prop} {x : Int32} {rc : Int32 → Int32 → Int32 → Sg → Option (Int32 × Sg)} {x1 x2 x3 : Int32} : ∀ (j v k f : Nat) (A : Mx) (σ : Sg), mM A node d σ → mP p S node σ → chok p j v → S v → j < k → j ≤ f →
    ∃ τ, s_X12_ask_85 n rc k x1 x2 x3 x (nI v) σ = rc x1 x2 (x3 + x) τ ∧ mM (aug p x f A v) node d τ := by
  intro j
  induction j with
  | zero =>
    intro v k f A σ hM hP hc hv hk hf
    obtain ⟨k, rfl⟩ : ∃ k', k = k' + 1 := ⟨k - 1, by omega⟩
    have hc : v = 10 := hc
    subst hc
    refine ⟨σ, ?_, by rw [aug_10]; exact hM⟩
    show s_X12_ask_85b n _ _ _ _ _ _ _ _ = _
    unfold s_X12_ask_85b
    rw [if_pos (show nI 10 = 10 from rfl), lt_eq]
  | succ j ih =>
    intro v k f A σ hM hP hc hv hk hf
    obtain ⟨k, rfl⟩ : ∃ k', k = k' + 1 := ⟨k - 1, by omega⟩
    have h11 := (hP.1 v hv).1
    show ∃ τ, s_X12_ask_85b n rc (s_X12_ask_85 n rc k) _ _ _ _ _ _ = _ ∧ _
    unfold s_X12_ask_85b
    by_cases h10 : v = 10
    · subst h10
      rw [if_pos (show nI 10 = 10 from rfl), aug_10]
      exact ⟨σ, rfl, hM⟩
    · obtain ⟨e102, hS⟩ := (hP.1 v hv).2 h10
      have hp11 := (hP.1 _ hS).1
      have hc2 : chok p j (p v) := hc.elim (fun z => absurd z h10) id
      rw [if_neg (by rw [show (10 : Int32) = nI 10 from rfl, neq (by omega) (by omega)]; exact h10)]
      simp (disch := omega) only [ck_n, ix_n, e102, cell_ok, bd_some, lt_eq, hM.1 (p v) v hp11 h11]
      have m1 := mM_put (y := A (p v) v - x) hp11 h11 hM
      have f1 : ∀ w, up2 σ 101 (12 * p v + v) (A (p v) v - x) 102 w = σ 102 w := fun w => by simp [up2_app]
      simp (disch := omega) only [ck_n, ix_n, f1, e102, cell_ok, bd_some, lt_eq, m1.1 v (p v) h11 hp11]
      have m2 := mM_put (y := mup A (p v) v (A (p v) v - x) v (p v) + x) h11 hp11 m1
      have f2 : ∀ w, up2 (up2 σ 101 (12 * p v + v) (A (p v) v - x)) 101 (12 * v + p v) (mup A (p v) v (A (p v) v - x) v (p v) + x) 102 w = σ 102 w := fun w => by simp [up2_app]
      simp (disch := omega) only [ck_n, ix_n, f2, e102, lt_eq]
      obtain ⟨f, rfl⟩ : ∃ f', f = f' + 1 := ⟨f - 1, by omega⟩
      have hP2 : mP p S node (up2 (up2 σ 101 (12 * p v + v) (A (p v) v - x)) 101 (12 * v + p v) (mup A (p v) v (A (p v) v - x) v (p v) + x)) := ⟨fun w hw => ⟨(hP.1 w hw).1, fun hne => ⟨(f2 w).trans ((hP.1 w hw).2 hne).1, ((hP.1 w hw).2 hne).2⟩⟩, (f2 11).trans hP.2⟩
      obtain ⟨τ3, w1, w2⟩ := ih (p v) k f _ _ m2 hP2 hc2 hS (by omega) (by omega)
      exact ⟨τ3, w1, by rw [aug_s, if_neg h10]; exact w2⟩
theorem i32_sub_sub (a b c : Int32) : a - b - c = a - (b + c) := by
  apply Int32.toBitVec_inj.mp
  rw [Int32.toBitVec_sub, Int32.toBitVec_sub, Int32.toBitVec_sub, Int32.toBitVec_add]
  exact BitVec.sub_sub _ _ _
theorem mask_loop {n node : Nat} {w : Int32} (hn : node < 10) (hN : 14 ≤ n) : ∀ (k : Nat) (s : Int32) (A : Mx) (σ : Sg), mM A node (w - s) σ → rnn A → Sv A < (k : Int) → 0 ≤ s.toInt → s.toInt ≤ w.toInt →
    ∃ τ, s_X12_ask_17 n k (nI node) w s σ = some ((snd node w k s A).1, τ) ∧ mM (snd node w k s A).2 node 0 τ := by
  have fin : ∀ (s : Int32) (A : Mx) (σ : Sg), mM A node (w - s) σ → ∃ τ, s_X12_ask_156 n (nI node) w s σ = some (s, τ) ∧ mM A node 0 τ := by
    intro s A σ hM
    unfold s_X12_ask_156
    have e1 := hM.2 node (by omega)
    rw [if_pos rfl] at e1
    rw [show (11 : Int32) = nI 11 from rfl]
    simp (disch := omega) only [cell_ok, bd_some, ck_n, ix_n, lt_eq, e1]
    refine ⟨_, rfl, fun u v hu hv => ?_, fun u hu => ?_⟩
    · have : ¬ (12 * u + v = 12 * node + 11) := by omega
      simp [up2_app, this, hM.1 u v hu hv]
    · by_cases e : u = node
      · subst e
        simp [up2_app, Int32.sub_self]
      · have : ¬ (12 * u + 11 = 12 * node + 11) := by omega
        have h2 := hM.2 u hu
        rw [if_neg e] at h2
        simp [up2_app, this, h2]
  intro k
  induction k with
  | zero =>
    intro s A σ hM hA hS _ _
    have := isum_nn (f := fun v => (A 10 v).toInt) hA 10 (Nat.le_refl _)
    unfold Sv at hS
    omega
  | succ k ih =>
    intro s A σ hM hA hS hs hsw
    have hS0 : 0 ≤ Sv A := isum_nn (f := fun v => (A 10 v).toInt) hA 10 (Nat.le_refl _)
    show ∃ τ, s_X12_ask_17b n (s_X12_ask_17 n k) _ _ _ _ = _ ∧ _
    unfold s_X12_ask_17b
    rw [snd_s]
    by_cases h1 : w ≤ s
    · rw [if_pos h1, if_pos h1]
      exact fin s A σ hM
    · rw [if_neg h1, if_neg h1]
      have hws : s.toInt < w.toInt := Int32.lt_iff_toInt_lt.mp (Int32.not_le.mp h1)
      have hsub : (w - s).toInt = w.toInt - s.toInt := sub_toInt hs (by omega)
      have hm : 0 < w - s := Int32.lt_iff_toInt_lt.mpr (by rw [hsub]; simp; omega)
      obtain ⟨τ1, m1, hf⟩ := mfindWay_ok (n := n) hn hm hN hM
      rcases hf with ⟨hr, e1, g, hg, hgn, hq, hq11⟩ | ⟨hr, e1⟩
      · have hr' : node ∈ bq A 11 := hr
        rw [if_pos hr', e1, bd_some, if_neg (by decide), lt_eq]
        obtain ⟨p1, p2, p3, p4, p5⟩ := step_ok hn hr hm hA
        have hP : mP (pF A) (fun v => v ∈ bq A g) node τ1 := by
          refine ⟨fun v hv => ⟨(bok_all A g).2.1 v hv, fun hne => ?_⟩, hq11⟩
          obtain ⟨i, hi⟩ := List.mem_iff_getElem?.mp hv
          obtain ⟨j, _, _, j3, _⟩ := (bok_all A g).2.2.2 i v hi hne
          rw [(rch_of hg hv).2]
          exact ⟨hq v hv hne, List.mem_of_getElem? j3⟩
        have ed := m1.2 node (by omega)
        rw [if_pos rfl] at ed
        -- the drain's own edge, then the way
        obtain ⟨n', rfl⟩ : ∃ n', n = n' + 1 := ⟨n - 1, by omega⟩
        have a1 : s_X12_ask_38 (n' + 1) (s_X12_ask_17 (n' + 1) k) (n' + 1) (nI node) w s (w - s) 11 τ1 = s_X12_ask_85 (n' + 1) (s_X12_ask_17 (n' + 1) k) (n' + 1) (nI node) w s (nar A (pF A) 11 (w - s) node) 11 τ1 := by
          show s_X12_ask_38b (n' + 1) (s_X12_ask_17 (n' + 1) k) (s_X12_ask_38 (n' + 1) (s_X12_ask_17 (n' + 1) k) n') _ _ _ _ _ _ = _
          unfold s_X12_ask_38b
          rw [if_neg (by decide), show (11 : Int32) = nI 11 from rfl]
          simp (disch := omega) only [ck_n, ix_n, hq11, cell_ok, bd_some, ed, least_ok, lt_eq]
          rw [imin_of_le (Int32.le_refl _)]
          exact mnar_ok m1 hP 10 node n' 11 (w - s) (chok_10 hr) hgn (by omega) (by omega)
        rw [a1]
        have a2 : ∃ τ2, s_X12_ask_85 (n' + 1) (s_X12_ask_17 (n' + 1) k) (n' + 1) (nI node) w s (nar A (pF A) 11 (w - s) node) 11 τ1 = s_X12_ask_17 (n' + 1) k (nI node) w (s + nar A (pF A) 11 (w - s) node) τ2 ∧ mM (aug (pF A) (nar A (pF A) 11 (w - s) node) 11 A node) node (w - s - nar A (pF A) 11 (w - s) node) τ2 := by
          generalize nar A (pF A) 11 (w - s) node = x
          show ∃ τ2, s_X12_ask_85b (n' + 1) (s_X12_ask_17 (n' + 1) k) (s_X12_ask_85 (n' + 1) (s_X12_ask_17 (n' + 1) k) n') _ _ _ _ _ _ = _ ∧ _
          unfold s_X12_ask_85b
          rw [if_neg (by decide), show (11 : Int32) = nI 11 from rfl]
          simp (disch := omega) only [ck_n, ix_n, hq11, cell_ok, bd_some, ed, lt_eq]
          have f1 : ∀ z, up2 τ1 101 (12 * node + 11) (w - s - x) 102 z = τ1 102 z := fun z => by simp [up2_app]
          simp (disch := omega) only [ck_n, ix_n, f1, hq11, cell_ok, bd_some, lt_eq]
          have f2 : ∀ z, up2 (up2 τ1 101 (12 * node + 11) (w - s - x)) 101 (12 * 11 + node) (up2 τ1 101 (12 * node + 11) (w - s - x) 101 (12 * 11 + node) + x) 102 z = τ1 102 z := fun z => by simp [up2_app]
          simp (disch := omega) only [ck_n, ix_n, f2, hq11, lt_eq]
          refine mpush_ok (d := w - s - x) (S := fun v => v ∈ bq A g) 10 node n' 11 A _ ?_ ⟨fun v hv => ⟨(hP.1 v hv).1, fun hne => ⟨(f2 v).trans ((hP.1 v hv).2 hne).1, ((hP.1 v hv).2 hne).2⟩⟩, (f2 11).trans hP.2⟩ (chok_10 hr) hgn (by omega) (by omega)
          refine ⟨fun u v hu hv => ?_, fun u hu => ?_⟩
          · have q1 : ¬ (12 * u + v = 12 * 11 + node) := by omega
            have q2 : ¬ (12 * u + v = 12 * node + 11) := by omega
            simp only [up2_app, q1, q2, if_true, if_false]
            exact m1.1 u v hu hv
          · have q1 : ¬ (12 * u + 11 = 12 * 11 + node) := by omega
            by_cases e : u = node
            · subst e
              simp only [up2_app, q1, if_true, if_false]
            · have q2 : ¬ (12 * u + 11 = 12 * node + 11) := by omega
              simp only [up2_app, q1, q2, if_true, if_false, e]
              have h2 := m1.2 u hu
              rw [if_neg e] at h2
              exact h2
        obtain ⟨τ2, u1, u2⟩ := a2
        rw [u1]
        have q1 : 0 < (nar A (pF A) 11 (w - s) node).toInt := by have := Int32.lt_iff_toInt_lt.mp p1; simpa using this
        have q2 := Int32.le_iff_toInt_le.mp p2
        have q3 := Int32.toInt_lt w
        have q4 : (s + nar A (pF A) 11 (w - s) node).toInt = s.toInt + (nar A (pF A) 11 (w - s) node).toInt := add_toInt (by omega) (by omega)
        rw [i32_sub_sub] at u2
        exact ih _ _ τ2 u2 p4 (by rw [p5]; omega) (by rw [q4]; omega) (by rw [q4]; omega)
      · have hr' : ¬ node ∈ bq A 11 := hr
        rw [if_neg hr', e1, bd_some, if_pos rfl]
        exact fin s A τ1 m1
/-- ask: what comes, and the rooms that are left -/
theorem mask_ok {n node : Nat} {w : Int32} {A : Mx} {σ : Sg} {node0 : Nat} (hn : node < 10) (hN : 11000 ≤ n) (hM : mM A node0 0 σ) (hA : rnn A) (hS : Sv A ≤ 10998) (hw : 0 ≤ w.toInt) : ∃ τ, s_X12_ask n (nI node) w σ = some ((sndN node w A).1, τ) ∧ mM (sndN node w A).2 node 0 τ := by
  unfold s_X12_ask
  have e1 : σ 101 (12 * node + 11) = 0 := by
    have h := hM.2 node (by omega)
    by_cases e : node = node0
    · rw [if_pos e] at h; exact h
    · rw [if_neg e] at h; exact h
  rw [show (11 : Int32) = nI 11 from rfl]
  simp (disch := omega) only [cell_ok, bd_some, ck_n, ix_n, lt_eq, e1]
  have hM1 : mM A node (w - 0) (up2 σ 101 (12 * node + 11) (0 + w)) := by
    refine ⟨fun u v hu hv => ?_, fun u hu => ?_⟩
    · have : ¬ (12 * u + v = 12 * node + 11) := by omega
      simp [up2_app, this, hM.1 u v hu hv]
    · by_cases e : u = node
      · subst e
        simp [up2_app]
      · have : ¬ (12 * u + 11 = 12 * node + 11) := by omega
        have h2 := hM.2 u hu
        have h3 : (if u = node0 then (0 : Int32) else 0) = 0 := by split <;> rfl
        rw [h3] at h2
        simp only [up2_app, this, if_true, if_false, e]
        exact h2
  have h := mask_loop (n := n) (w := w) hn (by omega) n 0 A _ hM1 hA (by omega) (by decide) hw
  rw [snd_N hn hA hS (by omega)] at h
  exact h
