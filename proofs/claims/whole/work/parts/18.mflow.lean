/-! ===== the reference's net against the mathematics ===== -/
/-- its rooms are A; to the drain there is room d from 'node' alone -/
def mM (A : Mx) (node : Nat) (d : Int32) (σ : Sg) : Prop := (∀ u v, u < 11 → v < 11 → σ 101 (12 * u + v) = A u v) ∧ ∀ u, u < 11 → σ 101 (12 * u + 11) = if u = node then d else 0
theorem mM_of {A : Mx} {node : Nat} {d : Int32} {σ τ : Sg} (h : mM A node d σ) (h1 : τ 101 = σ 101) : mM A node d τ := by
  unfold mM
  rw [h1]
  exact h
theorem cell_ok (n a b : Nat) (σ : Sg) : s_X12_cell n (nI a) (nI b) σ = some (nI (12 * a + b), σ) := by
  unfold s_X12_cell
  rw [show (12 : Int32) = nI 12 from rfl, nmul, nadd]
/-- queue, and what came from where, with -1 for what was not come to -/
def mQ (q : List Nat) (p : Nat → Nat) (σ : Sg) : Prop := (∀ (i w : Nat), q[i]? = some w → σ 103 i = nI w) ∧ (∀ w, w < 12 → w ∉ q → σ 102 w = -1) ∧ (∀ w ∈ q, w ≠ 10 → σ 102 w = nI (p w)) ∧ σ 102 10 = nI 10
theorem mfw_inner {n : Nat} {A : Mx} {q : List Nat} {p : Nat → Nat} {u h node : Nat} {d : Int32} (hq : ∀ w ∈ q, w < 11) (hn : q.Nodup) (h10 : 10 ∈ q) (hu : u < 11) (hpl : ∀ w ∈ q, w ≠ 10 → p w < 11) (hh : h < 12) (hi : q[h]? = some u) {rc : Int32 → Int32 → Sg → Option (Int32 × Sg)} : ∀ (e v k : Nat) (σ : Sg), v + e = 10 → e + 2 < k → mM A node d σ → mQ (q ++ bnv A q u v) (fun w => if w ∈ bnv A q u v then u else p w) σ →
    ∃ τ k2, 2 < k2 ∧ s_X12_findWay_59 n rc k (nI (q.length + (bnv A q u v).length)) (nI h) (nI v) σ = s_X12_findWay_59 n rc k2 (nI (q.length + (bnew A q u).length)) (nI h) (nI 10) τ ∧ mQ (q ++ bnew A q u) (fun w => if w ∈ bnew A q u then u else p w) τ ∧ ∀ o j, o ≠ 102 → o ≠ 103 → τ o j = σ o j := by
  intro e
  induction e with
  | zero =>
    intro v k σ hv hk hM hc
    have hv : v = 10 := by omega
    subst hv
    exact ⟨σ, k, by omega, rfl, hc, fun _ _ _ _ => rfl⟩
  | succ e ih =>
    intro v k σ hv hk hM hc
    obtain ⟨k, rfl⟩ : ∃ k', k = k' + 1 := ⟨k - 1, by omega⟩
    have hv10 : v < 10 := by omega
    have hqh : σ 103 h = nI u := hc.1 h u (by rw [List.getElem?_append_left (List.getElem?_eq_some_iff.mp hi).1]; exact hi)
    show ∃ τ k2, _ ∧ s_X12_findWay_59b n rc (s_X12_findWay_59 n rc k) _ _ _ _ = _ ∧ _
    unfold s_X12_findWay_59b
    rw [if_neg (by rw [show (12 : Int32) = nI 12 from rfl, nle (by omega) (by omega)]; omega)]
    simp (disch := omega) only [ck_n, ix_n]
    have hs := bnv_succ A q u v
    rw [show nI v + 1 = nI (v + 1) from nI_1 v]
    by_cases hvq : v ∈ q
    · have h102 : σ 102 v = nI (p v) := by
        have h1 := hc.2.2.1 v (List.mem_append_left _ hvq) (by omega)
        dsimp only at h1
        rw [if_neg (fun z => (bnv_mem.mp z).2.1 hvq)] at h1
        exact h1
      rw [if_pos (by rw [h102]; exact n_nn (by have := hpl v hvq (by omega); omega))]
      rw [if_neg (fun z => z.1 hvq), List.append_nil] at hs
      have h1 := ih (v + 1) k σ (by omega) (by omega) hM (by rw [hs]; exact hc)
      rw [hs] at h1
      exact h1
    · have hvn : v ∉ q ++ bnv A q u v := fun z => (List.mem_append.mp z).elim hvq (fun z => absurd (bnv_mem.mp z).1 (by omega))
      have h102 : σ 102 v = -1 := hc.2.1 v (by omega) hvn
      rw [if_neg (by rw [h102]; exact m1_nn)]
      rw [hqh]
      simp (disch := omega) only [cell_ok, bd_some, ck_n, ix_n, hM.1 u v hu (by omega)]
      by_cases hb : 0 < A u v
      · rw [if_neg (Int32.not_le.mpr hb)]
        rw [if_pos ⟨hvq, hb⟩] at hs
        have hlen : (q ++ bnv A q u v).length ≤ 10 := by
          have h1 : (q ++ bnv A q u v).Nodup := List.nodup_append.mpr ⟨hn, List.Nodup.sublist List.filter_sublist List.nodup_range, fun a ha b hb hab => (bnv_mem.mp hb).2.1 (hab ▸ ha)⟩
          have h2 : ((q ++ bnv A q u v) ++ [v]).Nodup := List.nodup_append.mpr ⟨h1, by simp, fun a ha b hb2 hab => by
            simp at hb2
            subst hb2; subst hab
            exact hvn ha⟩
          have h3 := nodup_len 11 _ h2 (fun w hw => by
            rcases List.mem_append.mp hw with z | z
            · rcases List.mem_append.mp z with z | z
              · exact hq w z
              · have := (bnv_mem.mp z).1; omega
            · simp at z; omega)
          rw [List.length_append] at h3
          simp at h3 ⊢
          omega
        rw [List.length_append] at hlen
        simp (disch := omega) only [lt_eq, ck_n, ix_n]
        have hl : nI (q.length + (bnv A q u v).length) + 1 = nI (q.length + (bnv A q u (v + 1)).length) := by
          rw [hs, List.length_append, nI_1]
          rfl
        rw [hl, hqh]
        have hM2 : mM A node d (up2 (up2 σ 102 v (nI u)) 103 (q.length + (bnv A q u v).length) (nI v)) := mM_of hM (funext fun j => by simp [up2_app])
        obtain ⟨τ, k2, t0, t1, t2, t3⟩ := ih (v + 1) k _ (by omega) (by omega) hM2 (by
          rw [hs, ← List.append_assoc]
          refine ⟨fun i w hw => ?_, fun w hw hwn => ?_, fun w hw hne => ?_, ?_⟩
          · simp only [up2_app]
            by_cases e2 : i = q.length + (bnv A q u v).length
            · subst e2
              rw [List.getElem?_append_right (by rw [List.length_append]; omega)] at hw
              simp [List.length_append] at hw
              simp [hw]
            · have hi2 : i < (q ++ bnv A q u v).length := by
                have := (List.getElem?_eq_some_iff.mp hw).1
                simp [List.length_append] at this ⊢
                omega
              rw [List.getElem?_append_left hi2] at hw
              simp [e2, hc.1 i w hw]
          · have hne : w ≠ v := fun z => hwn (by rw [z]; simp)
            have h5 := hc.2.1 w hw (fun z => hwn (List.mem_append_left _ z))
            simp [up2_app, hne, h5]
          · simp only [up2_app]
            by_cases e2 : w = v
            · subst e2
              simp
            · have hw2 : w ∈ q ++ bnv A q u v := by
                rcases List.mem_append.mp hw with z | z
                · exact z
                · simp at z; exact absurd z e2
              have h5 := hc.2.2.1 w hw2 hne
              simp [e2, h5]
          · have : ¬ 10 = v := by omega
            simp [up2_app, this, hc.2.2.2])
        exact ⟨τ, k2, t0, t1, t2, fun o j h1 h2 => by rw [t3 o j h1 h2]; simp [up2_app, h1, h2]⟩
      · rw [if_pos (Int32.not_lt.mp hb)]
        rw [if_neg (fun z => hb z.2), List.append_nil] at hs
        have h1 := ih (v + 1) k σ (by omega) (by omega) hM (by rw [hs]; exact hc)
        rw [hs] at h1
        exact h1
theorem mfw_outer {n : Nat} {A : Mx} {node : Nat} {d : Int32} (hn : node < 10) (hd : 0 < d) (hN : 14 ≤ n) : ∀ (e h k : Nat) (σ : Sg), h + e = 11 → e + 1 < k → mM A node d σ → (∀ i, i < h → (bq A h)[i]? ≠ some node) → mQ (bq A h) (bp A h) σ →
    ∃ τ, (∀ o j, o ≠ 102 → o ≠ 103 → τ o j = σ o j) ∧ ((rch A node ∧ s_X12_findWay_42 n k (nI (bq A h).length) (nI h) σ = some (1, τ) ∧ ∃ g, g ≤ 11 ∧ node ∈ bq A g ∧ (∀ w ∈ bq A g, w ≠ 10 → τ 102 w = nI (bp A g w)) ∧ τ 102 11 = nI node) ∨ (¬ rch A node ∧ s_X12_findWay_42 n k (nI (bq A h).length) (nI h) σ = some (0, τ))) := by
  have fin : ∀ (τ : Sg), τ 102 11 = -1 → s_X12_findWay_126 n τ = some (0, τ) := by
    intro τ hτ
    unfold s_X12_findWay_126
    rw [show (11 : Int32) = nI 11 from rfl]
    simp (disch := omega) only [ck_n, ix_n, hτ]
    rw [if_pos m1_lt]
  intro e
  induction e with
  | zero =>
    intro h k σ he hk hM hno hc
    obtain ⟨k, rfl⟩ : ∃ k', k = k' + 1 := ⟨k - 1, by omega⟩
    have he : h = 11 := by omega
    subst he
    have hl := bq_len A 11
    refine ⟨σ, fun _ _ _ _ => rfl, Or.inr ⟨fun hr => ?_, ?_⟩⟩
    · obtain ⟨i, hi⟩ := List.mem_iff_getElem?.mp hr
      have := (List.getElem?_eq_some_iff.mp hi).1
      exact hno i (by omega) hi
    · show s_X12_findWay_42b n _ _ _ _ = _
      unfold s_X12_findWay_42b
      rw [if_pos (by rw [nle (by omega) (by omega)]; exact hl)]
      exact fin σ (hc.2.1 11 (by omega) (fun z => absurd ((bok_all A 11).2.1 11 z) (by omega)))
  | succ e ih =>
    intro h k σ he hk hM hno hc
    obtain ⟨k, rfl⟩ : ∃ k', k = k' + 1 := ⟨k - 1, by omega⟩
    have hl := bq_len A h
    have h11n : (11 : Nat) ∉ bq A h := fun z => absurd ((bok_all A h).2.1 11 z) (by omega)
    have h11 : σ 102 11 = -1 := hc.2.1 11 (by omega) h11n
    show ∃ τ, _ ∧ ((rch A node ∧ s_X12_findWay_42b n (s_X12_findWay_42 n k) _ _ _ = _ ∧ _) ∨ (_ ∧ s_X12_findWay_42b n (s_X12_findWay_42 n k) _ _ _ = _))
    unfold s_X12_findWay_42b
    by_cases hq : (bq A h).length ≤ h
    · have hst : ∀ e, bst A (h + e) = bst A h := by
        intro e
        induction e with
        | zero => rfl
        | succ e ih2 =>
          rw [← Nat.add_assoc, bst_none (by unfold bq; rw [ih2]; exact List.getElem?_eq_none (Nat.le_trans hq (Nat.le_add_right _ _))), ih2]
      have e11 : bst A 11 = bst A h := by
        have := hst (11 - h)
        rw [show h + (11 - h) = 11 by omega] at this
        exact this
      refine ⟨σ, fun _ _ _ _ => rfl, Or.inr ⟨?_, ?_⟩⟩
      · intro hr
        unfold rch bq at hr
        rw [e11] at hr
        obtain ⟨i, hi⟩ := List.mem_iff_getElem?.mp hr
        have := (List.getElem?_eq_some_iff.mp hi).1
        exact hno i (Nat.lt_of_lt_of_le this hq) hi
      · rw [if_pos (by rw [nle (by omega) (by omega)]; exact hq)]
        exact fin σ h11
    · have hlt : h < (bq A h).length := by omega
      obtain ⟨u, hu⟩ : ∃ u, (bq A h)[h]? = some u := ⟨_, List.getElem?_eq_getElem hlt⟩
      have hu11 : u < 11 := (bok_all A h).2.1 u (List.mem_of_getElem? hu)
      have h10 : 10 ∈ bq A h := List.mem_of_getElem? (bok_all A h).1
      rw [if_neg (by rw [nle (by omega) (by omega)]; exact hq), show (11 : Int32) = nI 11 from rfl]
      simp (disch := omega) only [ck_n, ix_n, h11]
      rw [if_neg m1_nn]
      have hpl : ∀ w ∈ bq A h, w ≠ 10 → bp A h w < 11 := by
        intro w hw hne
        obtain ⟨i, hi⟩ := List.mem_iff_getElem?.mp hw
        obtain ⟨j, _, _, j3, _⟩ := (bok_all A h).2.2.2 i w hi hne
        exact (bok_all A h).2.1 _ (List.mem_of_getElem? j3)
      have e0 : bnv A (bq A h) u 0 = [] := rfl
      obtain ⟨τ, k2, t0, t1, t2, t3⟩ := mfw_inner (n := n) (p := bp A h) (node := node) (d := d) (rc := s_X12_findWay_42 n k) (bok_all A h).2.1 (bok_all A h).2.2.1 h10 hu11 hpl (by omega) hu 10 0 n σ (by omega) (by omega) hM (by
        rw [e0, List.append_nil]
        refine ⟨hc.1, hc.2.1, fun w hw hne => ?_, hc.2.2.2⟩
        simp [hc.2.2.1 w hw hne])
      rw [e0] at t1
      have t1' : s_X12_findWay_59 n (s_X12_findWay_42 n k) n (nI (bq A h).length) (nI h) 0 σ = s_X12_findWay_59 n (s_X12_findWay_42 n k) k2 (nI ((bq A h).length + (bnew A (bq A h) u).length)) (nI h) (nI 10) τ := t1
      rw [t1']
      have hbs := bst_some hu
      have hbq : bq A (h + 1) = bq A h ++ bnew A (bq A h) u := by unfold bq; rw [hbs]
      have hbp : bp A (h + 1) = fun w => if w ∈ bnew A (bq A h) u then u else bp A h w := by unfold bp; rw [hbs]
      have hc2 : mQ (bq A (h + 1)) (bp A (h + 1)) τ := by rw [hbq, hbp]; exact t2
      have hM2 : mM A node d τ := mM_of hM (funext fun j => t3 101 j (by decide) (by decide))
      have hlen : (bq A h).length + (bnew A (bq A h) u).length = (bq A (h + 1)).length := by rw [hbq, List.length_append]
      have hl2 := bq_len A (h + 1)
      have hh103 : τ 103 h = nI u := hc2.1 h u (by rw [hbq, List.getElem?_append_left hlt]; exact hu)
      have h11n2 : (11 : Nat) ∉ bq A (h + 1) := fun z => absurd ((bok_all A (h + 1)).2.1 11 z) (by omega)
      have h11b : τ 102 11 = -1 := hc2.2.1 11 (by omega) h11n2
      rw [hlen]
      obtain ⟨k3, rfl⟩ : ∃ k', k2 = k' + 3 := ⟨k2 - 3, by omega⟩
      -- place 10: the pump itself
      have s10 : s_X12_findWay_59 n (s_X12_findWay_42 n k) (k3 + 3) (nI (bq A (h + 1)).length) (nI h) (nI 10) τ = s_X12_findWay_59 n (s_X12_findWay_42 n k) (k3 + 2) (nI (bq A (h + 1)).length) (nI h) (nI 11) τ := by
        show s_X12_findWay_59b n (s_X12_findWay_42 n k) (s_X12_findWay_59 n (s_X12_findWay_42 n k) (k3 + 2)) _ _ _ _ = _
        unfold s_X12_findWay_59b
        rw [if_neg (by rw [show (12 : Int32) = nI 12 from rfl, nle (by omega) (by omega)]; omega)]
        simp (disch := omega) only [ck_n, ix_n, hc2.2.2.2]
        rw [if_pos (n_nn (by omega)), show nI 10 + 1 = nI 11 from nI_1 10]
      rw [s10]
      -- place 11: the drain
      have s12 : ∀ (L : Int32) (ρ : Sg), s_X12_findWay_59 n (s_X12_findWay_42 n k) (k3 + 1) L (nI h) (nI 12) ρ = s_X12_findWay_42 n k L (nI (h + 1)) ρ := by
        intro L ρ
        show s_X12_findWay_59b n (s_X12_findWay_42 n k) _ _ _ _ _ = _
        unfold s_X12_findWay_59b
        rw [if_pos (show (12 : Int32) ≤ nI 12 from Int32.le_refl _), show nI h + 1 = nI (h + 1) from nI_1 h]
      have s11 : s_X12_findWay_59 n (s_X12_findWay_42 n k) (k3 + 2) (nI (bq A (h + 1)).length) (nI h) (nI 11) τ = if u = node then s_X12_findWay_42 n k (nI ((bq A (h + 1)).length + 1)) (nI (h + 1)) (up2 (up2 τ 102 11 (nI u)) 103 (bq A (h + 1)).length (nI 11)) else s_X12_findWay_42 n k (nI (bq A (h + 1)).length) (nI (h + 1)) τ := by
        show s_X12_findWay_59b n (s_X12_findWay_42 n k) (s_X12_findWay_59 n (s_X12_findWay_42 n k) (k3 + 1)) _ _ _ _ = _
        unfold s_X12_findWay_59b
        rw [if_neg (by rw [show (12 : Int32) = nI 12 from rfl, nle (by omega) (by omega)]; omega)]
        simp (disch := omega) only [ck_n, ix_n, h11b]
        rw [if_neg m1_nn, hh103]
        simp (disch := omega) only [cell_ok, bd_some, ck_n, ix_n, hM2.2 u hu11]
        rw [show nI 11 + 1 = nI 12 from nI_1 11]
        by_cases hun : u = node
        · rw [if_pos hun, if_pos hun, if_neg (Int32.not_le.mpr hd)]
          simp (disch := omega) only [ck_n, ix_n, lt_eq, hh103]
          rw [show nI (bq A (h + 1)).length + 1 = nI ((bq A (h + 1)).length + 1) from nI_1 _, s12]
        · rw [if_neg hun, if_neg hun, if_pos (Int32.le_refl 0), s12]
      rw [s11]
      by_cases hun : u = node
      · rw [if_pos hun]
        subst hun
        obtain ⟨k, rfl⟩ : ∃ k', k = k' + 1 := ⟨k - 1, by omega⟩
        have hmem : u ∈ bq A (h + 1) := by rw [hbq]; exact List.mem_append_left _ (List.mem_of_getElem? hu)
        refine ⟨up2 (up2 τ 102 11 (nI u)) 103 (bq A (h + 1)).length (nI 11), fun o j h1 h2 => by rw [← t3 o j h1 h2]; simp [up2_app, h1, h2], Or.inl ⟨(rch_of (by omega) hmem).1, ?_, h + 1, by omega, hmem, fun w hw hne => ?_, ?_⟩⟩
        · show s_X12_findWay_42b n _ _ _ _ = _
          unfold s_X12_findWay_42b
          have hlt2 : h + 1 < (bq A (h + 1)).length + 1 := by rw [← hlen]; omega
          rw [if_neg (by rw [nle (by omega) (by omega)]; omega), show (11 : Int32) = nI 11 from rfl]
          have ev : up2 (up2 τ 102 11 (nI u)) 103 (bq A (h + 1)).length (nI 11) 102 11 = nI u := by simp [up2_app]
          simp (disch := omega) only [ck_n, ix_n, ev]
          rw [if_pos (n_nn (by omega))]
          unfold s_X12_findWay_126
          rw [show (11 : Int32) = nI 11 from rfl]
          simp (disch := omega) only [ck_n, ix_n, ev]
          rw [if_neg (n_nlt0 (by omega))]
        · have hw11 : w ≠ 11 := fun z => h11n2 (z ▸ hw)
          simp [up2_app, hw11, hc2.2.2.1 w hw hne]
        · simp [up2_app]
      · rw [if_neg hun]
        obtain ⟨τ2, w1, w2⟩ := ih (h + 1) k τ (by omega) (by omega) hM2 (by
          intro i hi hc3
          by_cases hih : i = h
          · subst hih
            rw [hbq, List.getElem?_append_left hlt, hu] at hc3
            exact hun (Option.some.inj hc3)
          · rw [hbq, List.getElem?_append_left (by omega)] at hc3
            exact hno i (by omega) hc3) hc2
        exact ⟨τ2, fun o j h1 h2 => (w1 o j h1 h2).trans (t3 o j h1 h2), w2⟩
