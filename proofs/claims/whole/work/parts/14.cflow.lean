/-! ===== the class's mains against the mathematics ===== -/
def mup (A : Mx) (u v : Nat) (x : Int32) : Mx := fun a b => if a = u ∧ b = v then x else A a b
def cM (A : Mx) (σ : Sg) : Prop := (∀ u v, u < 11 → v < 11 → σ 47 (u * 11 + v) = A u v) ∧ ∀ u, u < 11 → ∀ i, i < 32 → bt (σ 48 u) i = (decide (i < 11) && decide (0 < A u i))
theorem cM_of {A : Mx} {σ τ : Sg} (h : cM A σ) (h1 : τ 47 = σ 47) (h2 : τ 48 = σ 48) : cM A τ := by
  unfold cM
  rw [h1, h2]
  exact h
theorem i32_nle {a b : Int32} : ¬ a ≤ b ↔ b < a := Int32.not_le
theorem widen_ok {n u v : Nat} {A : Mx} {σ : Sg} {x : Int32} (hu : u < 11) (hv : v < 11) (h : cM A σ) : ∃ τ, s_X3_widen n (nI u) (nI v) x σ = some τ ∧ cM (mup A u v (A u v + x)) τ := by
  have h1 := h.1 u v hu hv
  unfold s_X3_widen
  rw [show (11 : Int32) = nI 11 from rfl]
  simp (disch := omega) only [nmul, nadd, ck_n, lt_eq, ix_n, h1]
  have key : ∀ (y : Int32), (∀ i, i < 32 → bt y i = if i = v then decide (0 < A u v + x) else bt (σ 48 u) i) → cM (mup A u v (A u v + x)) (up2 (up2 σ 47 (u * 11 + v) (A u v + x)) 48 u y) := by
    intro y hy
    refine ⟨fun a b ha hb => ?_, fun a ha i hi => ?_⟩
    · have h2 := h.1 a b ha hb
      simp only [up2_app, mup]
      by_cases e : a = u ∧ b = v
      · obtain ⟨rfl, rfl⟩ := e
        simp
      · rw [if_neg e]
        have : ¬ (a * 11 + b = u * 11 + v) := by omega
        simp [this, h2]
    · have h2 := h.2 a ha i hi
      simp only [up2_app, mup]
      by_cases e : a = u
      · subst e
        simp only [if_true]
        rw [hy i hi]
        by_cases e2 : i = v
        · subst e2
          simp [hv]
        · simp [e2, h2]
      · simp [e, h2]
  have hob : ∀ i, i < 32 → bt (σ 48 u) i = (decide (i < 11) && decide (0 < A u i)) := h.2 u hu
  by_cases hc : A u v + x ≤ 0
  · rw [if_pos hc]
    refine ⟨_, rfl, ?_⟩
    rw [show up2 σ 47 (u * 11 + v) (A u v + x) 48 u = σ 48 u from by simp [up2_app]]
    refine key _ (fun i hi => ?_)
    rw [b_and, not_bt _ hi, sl1_bt (by omega) hi]
    by_cases e : i = v
    · subst e
      have : ¬ (0 < A u i + x) := fun q => (Int32.not_lt.mpr hc) q
      simp [this]
    · simp [e]
  · rw [if_neg hc]
    refine ⟨_, rfl, ?_⟩
    rw [show up2 σ 47 (u * 11 + v) (A u v + x) 48 u = σ 48 u from by simp [up2_app]]
    refine key _ (fun i hi => ?_)
    rw [b_or, sl1_bt (by omega) hi]
    by_cases e : i = v
    · subst e
      have : 0 < A u i + x := Int32.not_le.mp hc
      simp [this]
    · simp [e]
/-! the search -/
def bnv (A : Mx) (q : List Nat) (u v : Nat) : List Nat := (List.range v).filter (fun v => decide (v ∉ q) && decide (0 < A u v))
theorem bnv_succ (A : Mx) (q : List Nat) (u v : Nat) : bnv A q u (v + 1) = bnv A q u v ++ (if v ∉ q ∧ 0 < A u v then [v] else []) := by
  unfold bnv
  rw [List.range_succ, List.filter_append]
  congr 1
  by_cases h : v ∉ q ∧ 0 < A u v
  · rw [if_pos h]
    simp [List.filter, h.1, h.2]
  · rw [if_neg h]
    by_cases h1 : v ∈ q
    · simp [List.filter, h1]
    · have h2 : ¬ 0 < A u v := fun z => h ⟨h1, z⟩
      simp [List.filter, h1, h2]
theorem bnv_mem {A : Mx} {q : List Nat} {u v w : Nat} : w ∈ bnv A q u v ↔ w < v ∧ w ∉ q ∧ 0 < A u w := by
  simp [bnv, List.mem_filter, List.mem_range]
theorem bnv_stop {A : Mx} {q : List Nat} {u v : Nat} (hv : v ≤ 10) (h : ∀ i, v ≤ i → i < 10 → ¬ (i ∉ q ∧ 0 < A u i)) : bnew A q u = bnv A q u v := by
  have key : ∀ d, v + d ≤ 10 → bnv A q u (v + d) = bnv A q u v := by
    intro d
    induction d with
    | zero => intro _; rfl
    | succ d ih =>
      intro hd
      rw [← Nat.add_assoc, bnv_succ, ih (by omega), if_neg (h (v + d) (by omega) (by omega)), List.append_nil]
  have h1 := key (10 - v) (by omega)
  rw [show v + (10 - v) = 10 by omega] at h1
  exact h1
/-- the class's queue and what came from where -/
def cQ (q : List Nat) (p : Nat → Nat) (σ : Sg) : Prop := (∀ (i w : Nat), q[i]? = some w → σ 50 i = nI w) ∧ ∀ w ∈ q, w ≠ 10 → σ 49 w = nI (p w)
theorem fw_inner {n : Nat} {A : Mx} {q : List Nat} {p : Nat → Nat} {u : Nat} (hq : ∀ w ∈ q, w < 11) (hn : q.Nodup) (h10 : 10 ∈ q) {rc : Int32 → Int32 → Int32 → Int32 → Sg → Option (Int32 × Sg)} {x1 x2 x4 x6 : Int32} (hf : ∀ i, i < 32 → bt x6 i = decide (i < 10 ∧ i ∉ q ∧ 0 < A u i)) : ∀ (d v k : Nat) (σ : Sg), v + d = 10 → d < k → cQ (q ++ bnv A q u v) (fun w => if w ∈ bnv A q u v then u else p w) σ →
    ∃ τ, s_X3_findWay_60 n rc k x1 x2 (nI (q.length + (bnv A q u v).length)) x4 (nI u) x6 (nI v) σ = s_X3_findWay_112 n rc x1 x2 (nI (q.length + (bnew A q u).length)) x4 τ ∧ cQ (q ++ bnew A q u) (fun w => if w ∈ bnew A q u then u else p w) τ ∧ ∀ o j, o ≠ 49 → o ≠ 50 → τ o j = σ o j := by
  intro d
  induction d with
  | zero =>
    intro v k σ hv hk hc
    obtain ⟨k, rfl⟩ : ∃ k', k = k' + 1 := ⟨k - 1, by omega⟩
    have hv : v = 10 := by omega
    subst hv
    refine ⟨σ, ?_, hc, fun _ _ _ _ => rfl⟩
    show s_X3_findWay_60b n rc _ _ _ _ _ _ _ _ _ = _
    unfold s_X3_findWay_60b
    rw [if_pos (show (10 : Int32) ≤ nI 10 from Int32.le_refl _)]
    rfl
  | succ d ih =>
    intro v k σ hv hk hc
    obtain ⟨k, rfl⟩ : ∃ k', k = k' + 1 := ⟨k - 1, by omega⟩
    show ∃ τ, s_X3_findWay_60b n rc (s_X3_findWay_60 n rc k) _ _ _ _ _ _ _ _ = _ ∧ _
    unfold s_X3_findWay_60b
    have hv10 : v < 10 := by omega
    rw [if_neg (by rw [show (10 : Int32) = nI 10 from rfl, nle (by omega) (by omega)]; omega)]
    by_cases hz : sr x6 (nI v) = 0
    · rw [if_pos hz]
      have hst : bnew A q u = bnv A q u v := bnv_stop (by omega) (fun i h1 h2 h3 => by
        have h4 := sr_zero x6 (by omega) hz i h1 (by omega)
        rw [hf i (by omega)] at h4
        exact of_decide_eq_false h4 ⟨h2, h3⟩)
      rw [hst]
      exact ⟨σ, rfl, hc, fun _ _ _ _ => rfl⟩
    · rw [if_neg hz, sr_bit x6 (by omega), hf v (by omega)]
      by_cases hb : v ∉ q ∧ 0 < A u v
      · have hd : decide (v < 10 ∧ v ∉ q ∧ 0 < A u v) = true := decide_eq_true ⟨hv10, hb⟩
        have hlen : (q ++ bnv A q u v).length ≤ 10 := by
          have h1 : (q ++ bnv A q u v).Nodup := List.nodup_append.mpr ⟨hn, List.Nodup.sublist List.filter_sublist List.nodup_range, fun a ha b hb hab => (bnv_mem.mp hb).2.1 (hab ▸ ha)⟩
          have h2 : ((q ++ bnv A q u v) ++ [v]).Nodup := List.nodup_append.mpr ⟨h1, by simp, fun a ha b hb2 hab => by
            simp at hb2
            subst hb2; subst hab
            rcases List.mem_append.mp ha with z | z
            · exact hb.1 z
            · exact absurd (bnv_mem.mp z).1 (by omega)⟩
          have h3 := nodup_len 11 _ h2 (fun w hw => by
            rcases List.mem_append.mp hw with z | z
            · rcases List.mem_append.mp z with z | z
              · exact hq w z
              · have := (bnv_mem.mp z).1; omega
            · simp at z; omega)
          rw [List.length_append] at h3
          simp at h3 ⊢
          omega
        rw [List.length_append] at hlen
        rw [hd]
        simp (disch := omega) only [if_true, ck_n, lt_eq, ix_n]
        have hs := bnv_succ A q u v
        rw [if_pos hb] at hs
        have hl : nI (q.length + (bnv A q u v).length) + 1 = nI (q.length + (bnv A q u (v + 1)).length) := by
          rw [hs, List.length_append, nI_1]
          rfl
        rw [hl, show nI v + 1 = nI (v + 1) from nI_1 v]
        obtain ⟨τ, t1, t2, t3⟩ := ih (v + 1) k (up2 (up2 σ 49 v (nI u)) 50 (q.length + (bnv A q u v).length) (nI v)) (by omega) (by omega) (by
          rw [hs, ← List.append_assoc]
          refine ⟨fun i w hw => ?_, fun w hw hne => ?_⟩
          · simp only [up2_app]
            by_cases e : i = q.length + (bnv A q u v).length
            · subst e
              rw [List.getElem?_append_right (by rw [List.length_append]; omega)] at hw
              simp [List.length_append] at hw
              simp [hw]
            · have hi : i < (q ++ bnv A q u v).length := by
                have := (List.getElem?_eq_some_iff.mp hw).1
                simp [List.length_append] at this ⊢
                omega
              rw [List.getElem?_append_left hi] at hw
              simp [e, hc.1 i w hw]
          · simp only [up2_app]
            by_cases e : w = v
            · subst e
              simp
            · have hw2 : w ∈ q ++ bnv A q u v := by
                rcases List.mem_append.mp hw with z | z
                · exact z
                · simp at z; exact absurd z e
              have h5 := hc.2 w hw2 hne
              simp [e, h5])
        exact ⟨τ, t1, t2, fun o j h1 h2 => by rw [t3 o j h1 h2]; simp [up2_app, h1, h2]⟩
      · have hd : decide (v < 10 ∧ v ∉ q ∧ 0 < A u v) = false := decide_eq_false (fun z => hb z.2)
        rw [hd]
        rw [if_neg (by decide)]
        have hs := bnv_succ A q u v
        rw [if_neg hb, List.append_nil] at hs
        rw [show nI v + 1 = nI (v + 1) from nI_1 v]
        have := ih (v + 1) k σ (by omega) (by omega) (by rw [hs]; exact hc)
        rw [hs] at this
        exact this
def mskq (q : List Nat) (x : Int32) : Prop := ∀ i, i < 32 → bt x i = decide (i ∈ q)
theorem fw_outer {n : Nat} {A : Mx} {node : Nat} (hn : node < 10) (hN : 12 ≤ n) : ∀ (d h k : Nat) (x2 : Int32) (σ : Sg), h + d = 11 → d < k → cM A σ → node ∉ bq A h → mskq (bq A h) x2 → cQ (bq A h) (bp A h) σ →
    ∃ τ, (∀ o j, o ≠ 49 → o ≠ 50 → τ o j = σ o j) ∧ ((rch A node ∧ s_X3_findWay_17 n k (nI node) x2 (nI (bq A h).length) (nI h) σ = some (1, τ) ∧ ∃ g, g ≤ 11 ∧ node ∈ bq A g ∧ cQ (bq A g) (bp A g) τ) ∨ (¬ rch A node ∧ s_X3_findWay_17 n k (nI node) x2 (nI (bq A h).length) (nI h) σ = some (0, τ))) := by
  intro d
  induction d with
  | zero =>
    intro h k x2 σ hd hk hM hnn hm hc
    obtain ⟨k, rfl⟩ : ∃ k', k = k' + 1 := ⟨k - 1, by omega⟩
    have hd : h = 11 := by omega
    subst hd
    refine ⟨σ, fun _ _ _ _ => rfl, Or.inr ⟨hnn, ?_⟩⟩
    show s_X3_findWay_17b n _ _ _ _ _ _ = _
    unfold s_X3_findWay_17b
    have hl := bq_len A 11
    rw [if_pos (by rw [nle (by omega) (by omega)]; exact hl)]
  | succ d ih =>
    intro h k x2 σ hd hk hM hnn hm hc
    obtain ⟨k, rfl⟩ : ∃ k', k = k' + 1 := ⟨k - 1, by omega⟩
    have hl := bq_len A h
    show ∃ τ, _ ∧ ((rch A node ∧ s_X3_findWay_17b n (s_X3_findWay_17 n k) _ _ _ _ _ = _ ∧ _) ∨ (_ ∧ s_X3_findWay_17b n (s_X3_findWay_17 n k) _ _ _ _ _ = _))
    unfold s_X3_findWay_17b
    by_cases hq : (bq A h).length ≤ h
    · have hst : ∀ e, bst A (h + e) = bst A h := by
        intro e
        induction e with
        | zero => rfl
        | succ e ih2 =>
          rw [← Nat.add_assoc, bst_none (by unfold bq; rw [ih2]; exact List.getElem?_eq_none (Nat.le_trans hq (Nat.le_add_right _ _))), ih2]
      have h11 : bst A 11 = bst A h := by
        have := hst (11 - h)
        rw [show h + (11 - h) = 11 by omega] at this
        exact this
      refine ⟨σ, fun _ _ _ _ => rfl, Or.inr ⟨?_, ?_⟩⟩
      · unfold rch bq
        rw [h11]
        exact hnn
      · rw [if_pos (by rw [nle (by omega) (by omega)]; exact hq)]
    · have hlt : h < (bq A h).length := by omega
      obtain ⟨u, hu⟩ : ∃ u, (bq A h)[h]? = some u := ⟨_, List.getElem?_eq_getElem hlt⟩
      have hu11 : u < 11 := (bok_all A h).2.1 u (List.mem_of_getElem? hu)
      have e50 := hc.1 h u hu
      have h10 : 10 ∈ bq A h := List.mem_of_getElem? (bok_all A h).1
      rw [if_neg (by rw [nle (by omega) (by omega)]; exact hq), if_neg (by rw [show (11 : Int32) = nI 11 from rfl, nle (by omega) (by omega)]; omega)]
      simp (disch := omega) only [ck_n, lt_eq, ix_n, e50]
      have hf : ∀ i, i < 32 → bt (σ 48 u &&& (x2 ^^^ -1)) i = decide (i < 10 ∧ i ∉ bq A h ∧ 0 < A u i) := by
        intro i hi
        rw [b_and, not_bt _ hi, hM.2 u hu11 i hi, hm i hi]
        by_cases h1 : i < 10
        · have : i < 11 := by omega
          simp only [this, h1, decide_true, Bool.true_and, true_and]
          by_cases h2 : i ∈ bq A h <;> by_cases h3 : 0 < A u i <;> simp [h2, h3]
        · by_cases h2 : i = 10
          · subst h2
            simp [h10]
          · have : ¬ i < 11 := by omega
            simp [this, h1]
      have e0 : bnv A (bq A h) u 0 = [] := rfl
      obtain ⟨τ, t1, t2, t3⟩ := fw_inner (n := n) (p := bp A h) (rc := s_X3_findWay_17 n k) (x1 := nI node) (x2 := x2 ||| (σ 48 u &&& (x2 ^^^ -1))) (x4 := nI h) (bok_all A h).2.1 (bok_all A h).2.2.1 h10 hf 10 0 n σ (by omega) (by omega) (by
        rw [e0, List.append_nil]
        refine ⟨hc.1, fun w hw hne => ?_⟩
        simp [hc.2 w hw hne])
      rw [e0] at t1
      have t1' : s_X3_findWay_60 n (s_X3_findWay_17 n k) n (nI node) (x2 ||| (σ 48 u &&& (x2 ^^^ -1))) (nI (bq A h).length) (nI h) (nI u) (σ 48 u &&& (x2 ^^^ -1)) 0 σ = s_X3_findWay_112 n (s_X3_findWay_17 n k) (nI node) (x2 ||| (σ 48 u &&& (x2 ^^^ -1))) (nI ((bq A h).length + (bnew A (bq A h) u).length)) (nI h) τ := t1
      rw [t1']
      have hbs := bst_some hu
      have hbq : bq A (h + 1) = bq A h ++ bnew A (bq A h) u := by unfold bq; rw [hbs]
      have hbp : bp A (h + 1) = fun w => if w ∈ bnew A (bq A h) u then u else bp A h w := by unfold bp; rw [hbs]
      have hm2 : mskq (bq A (h + 1)) (x2 ||| (σ 48 u &&& (x2 ^^^ -1))) := by
        intro i hi
        rw [b_or, hm i hi, hf i hi, hbq]
        by_cases h1 : i ∈ bq A h
        · simp [h1]
        · by_cases h2 : i < 10 ∧ 0 < A u i
          · have : i ∈ bnew A (bq A h) u := bnew_mem.mpr ⟨h2.1, h1, h2.2⟩
            simp [h1, h2, this]
          · have : i ∉ bnew A (bq A h) u := fun z => h2 ⟨(bnew_mem.mp z).1, (bnew_mem.mp z).2.2⟩
            have h3 : ¬ (i < 10 ∧ i ∉ bq A h ∧ 0 < A u i) := fun z => h2 ⟨z.1, z.2.2⟩
            rw [decide_eq_false h3]
            simp [h1, this]
      have hc2 : cQ (bq A (h + 1)) (bp A (h + 1)) τ := by rw [hbq, hbp]; exact t2
      have hM2 : cM A τ := cM_of hM (funext fun j => t3 47 j (by decide) (by decide)) (funext fun j => t3 48 j (by decide) (by decide))
      unfold s_X3_findWay_112
      rw [sr_bit _ (by omega), hm2 node (by omega)]
      by_cases hr : node ∈ bq A (h + 1)
      · refine ⟨τ, t3, Or.inl ⟨(rch_of (by omega) hr).1, ?_, h + 1, by omega, hr, hc2⟩⟩
        simp [hr]
      · simp only [hr, decide_false, Bool.false_eq_true, if_false]
        rw [if_neg (by decide), show nI h + 1 = nI (h + 1) from nI_1 h]
        have hlen : (bq A h).length + (bnew A (bq A h) u).length = (bq A (h + 1)).length := by rw [hbq, List.length_append]
        rw [hlen]
        obtain ⟨τ2, w1, w2⟩ := ih (h + 1) k _ τ (by omega) (by omega) hM2 hr hm2 hc2
        exact ⟨τ2, fun o j h1 h2 => (w1 o j h1 h2).trans (t3 o j h1 h2), w2⟩
/-- findWay: is there a way, and what came from where along it -/
theorem findWay_ok {n node : Nat} {A : Mx} {σ : Sg} (hn : node < 10) (hN : 12 ≤ n) (hM : cM A σ) : ∃ τ, cM A τ ∧ ((rch A node ∧ s_X3_findWay n (nI node) σ = some (1, τ) ∧ ∃ g, g ≤ 11 ∧ node ∈ bq A g ∧ cQ (bq A g) (bp A g) τ) ∨ (¬ rch A node ∧ s_X3_findWay n (nI node) σ = some (0, τ))) := by
  unfold s_X3_findWay
  rw [show (0 : Int32) = nI 0 from rfl]
  simp (disch := omega) only [ck_n, lt_eq, ix_n]
  have hM1 : cM A (up2 σ 50 0 10) := cM_of hM (funext fun j => by simp [up2_app]) (funext fun j => by simp [up2_app])
  have hm : mskq (bq A 0) 1024 := by
    have key : ∀ i, i < 32 → bt 1024 i = decide (i ∈ [10]) := by decide +kernel
    exact key
  obtain ⟨τ, t1, t2⟩ := fw_outer hn hN 11 0 n 1024 (up2 σ 50 0 10) (by omega) (by omega) hM1 (by show node ∉ [10]; simp; omega) hm ⟨fun i w hw => by
    have hw : ([10] : List Nat)[i]? = some w := hw
    cases i with
    | zero => simp at hw; subst hw; simp [up2_app]; rfl
    | succ i => simp at hw, fun w hw hne => by
    have hw : w ∈ [10] := hw
    simp at hw; exact absurd hw hne⟩
  exact ⟨τ, cM_of hM1 (funext fun j => t1 47 j (by decide) (by decide)) (funext fun j => t1 48 j (by decide) (by decide)), t2⟩
