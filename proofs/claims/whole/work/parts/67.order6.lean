/-! ===== the order, the reference: all orders ===== -/
theorem prm_in : ∀ m, m < 7 → ∀ a ∈ prm m m 0, a.length = m ∧ ∀ k ∈ a, k < m := by decide +kernel
theorem prm_len : ∀ m, m < 7 → (prm m m 0).length ≤ 720 := by decide +kernel
theorem sm_le {c : Nat → Nat} (hc : ∀ P, c P ≤ 24) : ∀ (r : List Nat) (P : Nat), sm c P r ≤ 24 * r.length
  | [], _ => Nat.le_refl _
  | k :: r, P => by
    have h1 := sm_le hc r (ins1 P k)
    have h2 := hc (ins1 P k)
    show c (ins1 P k) + sm c (ins1 P k) r ≤ 24 * (r.length + 1)
    omega
theorem getD_list {a : List Nat} {m : Nat} (h : a.length = m) : (List.range' 0 m).map (fun i => a.getD i 0) = a := by
  apply List.ext_getElem
  · rw [List.length_map, List.length_range', h]
  · intro i h1 h2
    rw [List.getElem_map, List.getElem_range', Nat.zero_add, Nat.one_mul, List.getD_eq_getElem?_getD, List.getElem?_eq_getElem h2]
    rfl
/-- the best so far -/
def oB (v : Int32) (m : Nat) (A : List (Nat × List Nat)) (x3 : Int32) (σ : Sg) : Prop := (A = [] ∧ x3 = -1) ∨ (A ≠ [] ∧ x3 = nI (fmin A).1 ∧ ∀ i, i < m → σ 112 i = nI (mem v ((fmin A).2.getD i 0)))
theorem copy_go {n m : Nat} {v : Int32} {p : Nat → Nat} {x2 x3 : Int32} {rc : Int32 → Int32 → Int32 → Sg → Option (Int32 × Sg)} (hm : m < 7) : ∀ (e k f : Nat) (σ : Sg), k + e = m → e < f → σ 71 63 = nI m → oA v m p σ → (∀ i, i < k → σ 112 i = nI (mem v (p i))) → ∃ τ, s_X12_order_160 n rc f x2 x3 (nI k) σ = s_X12_order_189 n rc x2 x3 τ ∧ (∀ i, i < m → τ 112 i = nI (mem v (p i))) ∧ ∀ o j, o ≠ 112 → τ o j = σ o j := by
  intro e
  induction e with
  | zero =>
    intro k f σ hk hf h63 hA hd
    obtain ⟨f, rfl⟩ : ∃ k', f = k' + 1 := ⟨f - 1, by omega⟩
    have hk : k = m := by omega
    subst hk
    refine ⟨σ, ?_, hd, fun _ _ _ => rfl⟩
    show s_X12_order_160b n _ _ _ _ _ _ = _
    unfold s_X12_order_160b
    rw [h63, if_pos (Int32.le_refl _)]
  | succ e ih =>
    intro k f σ hk hf h63 hA hd
    obtain ⟨f, rfl⟩ : ∃ k', f = k' + 1 := ⟨f - 1, by omega⟩
    show ∃ τ, s_X12_order_160b n _ (s_X12_order_160 n rc f) _ _ _ _ = _ ∧ _
    unfold s_X12_order_160b
    rw [h63, if_neg (by rw [nle (by omega) (by omega)]; omega), ck_n (by omega) (by omega), ck_n (by omega) (by omega), lt_eq, ix_n (by omega), show nI k + 1 = nI (k + 1) from nI_1 k]
    obtain ⟨τ, t1, t2, t3⟩ := ih (k + 1) f (up2 σ 112 k (σ 111 k)) (by omega) (by omega) (by rw [up2_o (by decide)]; exact h63) (fun i hi => by rw [up2_o (by decide)]; exact hA i hi) (fun i hi => by
      by_cases e1 : i = k
      · rw [e1, up2_app, if_pos rfl, if_pos rfl]; exact hA k (by omega)
      · simp only [up2_app, e1, if_false, ite_self]; exact hd i (by omega))
    exact ⟨τ, t1, t2, fun o j h => by rw [t3 o j h, up2_o h]⟩
theorem chk_c {m : Nat} {a b : List Nat} {r : List (List Nat)} (h : chk m (a :: b :: r) = true) : (∃ q, onxt m (fun i => a.getD i 0) = some q ∧ toL m q = b) ∧ chk m (b :: r) = true := by
  have h : ((match onxt m (fun i => a.getD i 0) with | none => false | some q => toL m q == b) && chk m (b :: r)) = true := h
  rw [Bool.and_eq_true] at h
  refine ⟨?_, h.2⟩
  cases hq : onxt m (fun i => a.getD i 0) with
  | none => rw [hq] at h; exact absurd h.1 (by simp)
  | some q =>
    rw [hq] at h
    exact ⟨q, rfl, by simpa using h.1⟩
theorem enum_go {n m : Nat} {N : Net} {S : Str} {K : Nat → Bool} {pu : Nat → Int32} {L : Lw} {v x2 : Int32} {σ0 : Sg} (hn : 11000 ≤ n) (hm : m < 7) (hmn : m = pcn v (sN S)) (hN : nok N) (hS : sok S) (hk : L.2.1 ≤ 4) (hpu : ∀ h, h < 24 → 0 ≤ (pu h).toInt ∧ (pu h).toInt ≤ 9999) : ∀ (l A : List (List Nat)) (a : List Nat) (f : Nat) (x3 : Int32) (σ : Sg), A ++ a :: l = prm m m 0 → l.length + 1 < f → chk m (a :: l) = true → oM N S K pu L σ → σ 71 63 = nI m → oA v m (fun i => a.getD i 0) σ → oB v m (A.map (fun r => (sm (ocs N S K pu L v m) 0 r, r))) x3 σ → kSv σ0 10 σ → σ 109 60 = σ0 71 25 → ∃ f' τ, s_X12_order_133 n f x2 x3 1 σ = s_X12_order_133 n (f' + 1) x2 (nI (obst m (ocs N S K pu L v m) m 0).1) 0 τ ∧ oM N S K pu L τ ∧ τ 71 63 = nI m ∧ (∀ i, i < m → τ 112 i = nI (mem v ((obst m (ocs N S K pu L v m) m 0).2.getD i 0))) ∧ kSv σ0 10 τ ∧ τ 109 60 = σ0 71 25 := by
  have h10 := hS.1
  have hmem : ∀ k, k < m → mem v k < sN S := fun k h => (mem_ok h10 (hmn ▸ h)).1
  have hc := ocs_le N S K pu L v m
  intro l
  induction l with
  | nil =>
    intro A a f x3 σ hl hf hch hI h63 hA hB hS1 hS2
    obtain ⟨f, rfl⟩ : ∃ k', f = k' + 1 := ⟨f - 1, by omega⟩
    have hin := prm_in m hm a (by rw [← hl]; simp)
    have hp : ∀ i, i < m → a.getD i 0 < m := fun i hi => by
      rw [List.getD_eq_getElem?_getD, List.getElem?_eq_getElem (show i < a.length by omega)]
      exact hin.2 _ (List.getElem_mem _)
    obtain ⟨τ1, a1, a2, a3⟩ := sum_go (n := n) (K := K) (p := fun i => a.getD i 0) hn hm hN hS hk hpu hp hmem m 0 n 0 0 0 σ (by omega) (by omega) (by omega) (fun s => by
      rw [Nat.zero_testBit]
      symm
      rw [List.any_eq_false]
      intro k _
      rw [Nat.zero_testBit, Bool.false_and]
      decide) hI h63 hA
    rw [getD_list hin.1, Nat.zero_add] at a1
    have a1' : s_X12_sumOfOrder n σ = some (nI (sm (ocs N S K pu L v m) 0 a), τ1) := a1
    have hsm := sm_le hc a 0
    have h63' : τ1 71 63 = nI m := by rw [a3 71 63 rfl]; exact h63
    have hA' : oA v m (fun i => a.getD i 0) τ1 := fun i hi => by rw [a3 111 i rfl]; exact hA i hi
    have hS1' : kSv σ0 10 τ1 := ⟨fun j h1 h2 => by rw [a3 109 j rfl]; exact hS1.1 j h1 h2, fun t ht => by rw [a3 110 t rfl]; exact hS1.2 t ht⟩
    have hS2' : τ1 109 60 = σ0 71 25 := by rw [a3 109 60 rfl]; exact hS2
    have hpo := prm_obst (c := ocs N S K pu L v m) hm m 0 (Nat.two_pow_pos _) (rem_0 m hm)
    rw [← hl, List.map_append, List.map_cons, List.map_nil] at hpo
    have hnone : onxt m (fun i => a.getD i 0) = none := by
      have : (onxt m (fun i => a.getD i 0)).isNone = true := hch
      cases hq : onxt m (fun i => a.getD i 0) with
      | none => rfl
      | some q => rw [hq] at this; cases this
    -- the last one is the best, or it isn't
    have fin : ∀ (x : Int32) (ρ : Sg), x = nI (obst m (ocs N S K pu L v m) m 0).1 → oM N S K pu L ρ → ρ 71 63 = nI m → oA v m (fun i => a.getD i 0) ρ → (∀ i, i < m → ρ 112 i = nI (mem v ((obst m (ocs N S K pu L v m) m 0).2.getD i 0))) → kSv σ0 10 ρ → ρ 109 60 = σ0 71 25 → ∃ f' τ, s_X12_order_189 n (s_X12_order_133 n f) x2 x ρ = s_X12_order_133 n (f' + 1) x2 (nI (obst m (ocs N S K pu L v m) m 0).1) 0 τ ∧ oM N S K pu L τ ∧ τ 71 63 = nI m ∧ (∀ i, i < m → τ 112 i = nI (mem v ((obst m (ocs N S K pu L v m) m 0).2.getD i 0))) ∧ kSv σ0 10 τ ∧ τ 109 60 = σ0 71 25 := by
      intro x ρ hx q1 q2 q3 q4 q5 q6
      obtain ⟨f, rfl⟩ : ∃ k', f = k' + 1 := ⟨f - 1, by simp at hf; omega⟩
      refine ⟨f, ρ, ?_, q1, q2, q4, q5, q6⟩
      unfold s_X12_order_189
      rw [(onext_ok (n := n) (by omega) hm h10 hmn hp q2 q3).1 hnone, bd_so, hx]
    have upd' : ∀ (x : Int32), fmin (A.map (fun r => (sm (ocs N S K pu L v m) 0 r, r)) ++ [(sm (ocs N S K pu L v m) 0 a, a)]) = (sm (ocs N S K pu L v m) 0 a, a) → ∃ f' τ, s_X12_order_160 n (s_X12_order_133 n f) n x2 (nI (sm (ocs N S K pu L v m) 0 a)) 0 τ1 = s_X12_order_133 n (f' + 1) x2 (nI (obst m (ocs N S K pu L v m) m 0).1) 0 τ ∧ oM N S K pu L τ ∧ τ 71 63 = nI m ∧ (∀ i, i < m → τ 112 i = nI (mem v ((obst m (ocs N S K pu L v m) m 0).2.getD i 0))) ∧ kSv σ0 10 τ ∧ τ 109 60 = σ0 71 25 := by
      intro _ he
      rw [he] at hpo
      obtain ⟨τ2, b1, b2, b3⟩ := copy_go (n := n) (v := v) (p := fun i => a.getD i 0) (x2 := x2) (x3 := nI (sm (ocs N S K pu L v m) 0 a)) (rc := s_X12_order_133 n f) hm m 0 n τ1 (by omega) (by omega) h63' hA' (fun i hi => absurd hi (Nat.not_lt_zero _))
      rw [show (0 : Int32) = nI 0 from rfl, b1]
      refine fin _ τ2 (by rw [← hpo]) (oM_of a2 (fun o j _ h => b3 o j h)) (by rw [b3 71 63 (by decide)]; exact h63') (fun i hi => by rw [b3 111 i (by decide)]; exact hA' i hi) (fun i hi => by rw [b2 i hi, ← hpo]) ⟨fun j h1 h2 => by rw [b3 109 j (by decide)]; exact hS1'.1 j h1 h2, fun t ht => by rw [b3 110 t (by decide)]; exact hS1'.2 t ht⟩ (by rw [b3 109 60 (by decide)]; exact hS2')
    show ∃ f' τ, s_X12_order_133b n (s_X12_order_133 n f) x2 x3 1 σ = _ ∧ _
    unfold s_X12_order_133b
    rw [if_neg (by decide), a1', bd_so]
    rcases hB with ⟨h1, h2⟩ | ⟨h1, h2, h3⟩
    · rw [if_pos (by rw [h2]; decide)]
      exact upd' 0 (by rw [h1]; rfl)
    · have happ := fmin_app h1 (show [(sm (ocs N S K pu L v m) 0 a, a)] ≠ [] by simp)
      have hF : (fmin (A.map (fun r => (sm (ocs N S K pu L v m) 0 r, r)))).1 ≤ 24 * m := by
        obtain ⟨r, hr, er⟩ := List.mem_map.mp (fmin_mem h1)
        rw [← er]
        have q := sm_le hc r 0
        rw [(prm_in m hm r (by rw [← hl]; simp [hr])).1] at q
        exact q
      rw [hin.1] at hsm
      rw [h2, if_neg (n_nlt0 (by omega))]
      by_cases hle : (fmin (A.map (fun r => (sm (ocs N S K pu L v m) 0 r, r)))).1 ≤ sm (ocs N S K pu L v m) 0 a
      · rw [if_pos (by rw [nle (by omega) (by omega)]; exact hle)]
        rw [if_neg (show ¬ (fmin [(sm (ocs N S K pu L v m) 0 a, a)]).1 < _ from by show ¬ sm (ocs N S K pu L v m) 0 a < _; omega)] at happ
        rw [happ] at hpo
        exact fin _ τ1 (by rw [← hpo]) a2 h63' hA' (fun i hi => by rw [a3 112 i rfl, h3 i hi, ← hpo]) hS1' hS2'
      · rw [if_neg (by rw [nle (by omega) (by omega)]; exact hle)]
        rw [if_pos (show (fmin [(sm (ocs N S K pu L v m) 0 a, a)]).1 < _ from by show sm (ocs N S K pu L v m) 0 a < _; omega)] at happ
        exact upd' 0 happ
  | cons b l ih =>
    intro A a f x3 σ hl hf hch hI h63 hA hB hS1 hS2
    obtain ⟨f, rfl⟩ : ∃ k', f = k' + 1 := ⟨f - 1, by omega⟩
    have hin := prm_in m hm a (by rw [← hl]; simp)
    have hinb := prm_in m hm b (by rw [← hl]; simp)
    have hp : ∀ i, i < m → a.getD i 0 < m := fun i hi => by
      rw [List.getD_eq_getElem?_getD, List.getElem?_eq_getElem (show i < a.length by omega)]
      exact hin.2 _ (List.getElem_mem _)
    obtain ⟨τ1, a1, a2, a3⟩ := sum_go (n := n) (K := K) (p := fun i => a.getD i 0) hn hm hN hS hk hpu hp hmem m 0 n 0 0 0 σ (by omega) (by omega) (by omega) (fun s => by
      rw [Nat.zero_testBit]
      symm
      rw [List.any_eq_false]
      intro k _
      rw [Nat.zero_testBit, Bool.false_and]
      decide) hI h63 hA
    rw [getD_list hin.1, Nat.zero_add] at a1
    have a1' : s_X12_sumOfOrder n σ = some (nI (sm (ocs N S K pu L v m) 0 a), τ1) := a1
    have hsm := sm_le hc a 0
    rw [hin.1] at hsm
    have h63' : τ1 71 63 = nI m := by rw [a3 71 63 rfl]; exact h63
    have hA' : oA v m (fun i => a.getD i 0) τ1 := fun i hi => by rw [a3 111 i rfl]; exact hA i hi
    have hS1' : kSv σ0 10 τ1 := ⟨fun j h1 h2 => by rw [a3 109 j rfl]; exact hS1.1 j h1 h2, fun t ht => by rw [a3 110 t rfl]; exact hS1.2 t ht⟩
    have hS2' : τ1 109 60 = σ0 71 25 := by rw [a3 109 60 rfl]; exact hS2
    obtain ⟨⟨q, hq1, hq2⟩, hch2⟩ := chk_c hch
    have hqb : ∀ i, i < m → q i = b.getD i 0 := fun i hi => by
      rw [← hq2]
      unfold toL
      rw [List.getD_eq_getElem?_getD, List.getElem?_map, List.getElem?_range hi]
      rfl
    have goOn : ∀ (x : Int32) (ρ : Sg), oB v m ((A ++ [a]).map (fun r => (sm (ocs N S K pu L v m) 0 r, r))) x ρ → oM N S K pu L ρ → ρ 71 63 = nI m → oA v m (fun i => a.getD i 0) ρ → kSv σ0 10 ρ → ρ 109 60 = σ0 71 25 → ∃ f' τ, s_X12_order_189 n (s_X12_order_133 n f) x2 x ρ = s_X12_order_133 n (f' + 1) x2 (nI (obst m (ocs N S K pu L v m) m 0).1) 0 τ ∧ oM N S K pu L τ ∧ τ 71 63 = nI m ∧ (∀ i, i < m → τ 112 i = nI (mem v ((obst m (ocs N S K pu L v m) m 0).2.getD i 0))) ∧ kSv σ0 10 τ ∧ τ 109 60 = σ0 71 25 := by
      intro x ρ r1 r2 r3 r4 r5 r6
      obtain ⟨τ2, b1, b2, b3⟩ := (onext_ok (n := n) (by omega) hm h10 hmn hp r3 r4).2 q hq1
      unfold s_X12_order_189
      rw [b1, bd_so]
      refine ih (A ++ [a]) b f x τ2 (by rw [← hl]; simp) (by simp at hf ⊢; omega) hch2 (oM_of r2 (fun o j h _ => b3 o j h)) (by rw [b3 71 63 (by decide)]; exact r3) (fun i hi => by rw [b2 i hi, hqb i hi]) ?_ ⟨fun j h1 h2 => by rw [b3 109 j (by decide)]; exact r5.1 j h1 h2, fun t ht => by rw [b3 110 t (by decide)]; exact r5.2 t ht⟩ (by rw [b3 109 60 (by decide)]; exact r6)
      rcases r1 with ⟨q1, q2⟩ | ⟨q1, q2, q3⟩
      · exact .inl ⟨q1, q2⟩
      · exact .inr ⟨q1, q2, fun i hi => by rw [b3 112 i (by decide)]; exact q3 i hi⟩
    have hne : (A ++ [a]).map (fun r => (sm (ocs N S K pu L v m) 0 r, r)) ≠ [] := by simp
    have hmap : (A ++ [a]).map (fun r => (sm (ocs N S K pu L v m) 0 r, r)) = A.map (fun r => (sm (ocs N S K pu L v m) 0 r, r)) ++ [(sm (ocs N S K pu L v m) 0 a, a)] := by simp
    have upd' : fmin ((A ++ [a]).map (fun r => (sm (ocs N S K pu L v m) 0 r, r))) = (sm (ocs N S K pu L v m) 0 a, a) → ∃ f' τ, s_X12_order_160 n (s_X12_order_133 n f) n x2 (nI (sm (ocs N S K pu L v m) 0 a)) 0 τ1 = s_X12_order_133 n (f' + 1) x2 (nI (obst m (ocs N S K pu L v m) m 0).1) 0 τ ∧ oM N S K pu L τ ∧ τ 71 63 = nI m ∧ (∀ i, i < m → τ 112 i = nI (mem v ((obst m (ocs N S K pu L v m) m 0).2.getD i 0))) ∧ kSv σ0 10 τ ∧ τ 109 60 = σ0 71 25 := by
      intro he
      obtain ⟨τ2, b1, b2, b3⟩ := copy_go (n := n) (v := v) (p := fun i => a.getD i 0) (x2 := x2) (x3 := nI (sm (ocs N S K pu L v m) 0 a)) (rc := s_X12_order_133 n f) hm m 0 n τ1 (by omega) (by omega) h63' hA' (fun i hi => absurd hi (Nat.not_lt_zero _))
      rw [show (0 : Int32) = nI 0 from rfl, b1]
      refine goOn _ τ2 (.inr ⟨hne, by rw [he], fun i hi => by rw [b2 i hi, he]⟩) (oM_of a2 (fun o j _ h => b3 o j h)) (by rw [b3 71 63 (by decide)]; exact h63') (fun i hi => by rw [b3 111 i (by decide)]; exact hA' i hi) ⟨fun j h1 h2 => by rw [b3 109 j (by decide)]; exact hS1'.1 j h1 h2, fun t ht => by rw [b3 110 t (by decide)]; exact hS1'.2 t ht⟩ (by rw [b3 109 60 (by decide)]; exact hS2')
    show ∃ f' τ, s_X12_order_133b n (s_X12_order_133 n f) x2 x3 1 σ = _ ∧ _
    unfold s_X12_order_133b
    rw [if_neg (by decide), a1', bd_so]
    rcases hB with ⟨h1, h2⟩ | ⟨h1, h2, h3⟩
    · rw [if_pos (by rw [h2]; decide)]
      exact upd' (by rw [hmap, h1]; rfl)
    · have happ := fmin_app h1 (show [(sm (ocs N S K pu L v m) 0 a, a)] ≠ [] by simp)
      have hF : (fmin (A.map (fun r => (sm (ocs N S K pu L v m) 0 r, r)))).1 ≤ 24 * m := by
        obtain ⟨r, hr, er⟩ := List.mem_map.mp (fmin_mem h1)
        rw [← er]
        have q := sm_le hc r 0
        rw [(prm_in m hm r (by rw [← hl]; simp [hr])).1] at q
        exact q
      rw [h2, if_neg (n_nlt0 (by omega))]
      by_cases hle : (fmin (A.map (fun r => (sm (ocs N S K pu L v m) 0 r, r)))).1 ≤ sm (ocs N S K pu L v m) 0 a
      · rw [if_pos (by rw [nle (by omega) (by omega)]; exact hle)]
        rw [if_neg (show ¬ (fmin [(sm (ocs N S K pu L v m) 0 a, a)]).1 < _ from by show ¬ sm (ocs N S K pu L v m) 0 a < _; omega)] at happ
        exact goOn _ τ1 (.inr ⟨hne, by rw [hmap, happ], fun i hi => by rw [a3 112 i rfl, h3 i hi, hmap, happ]⟩) a2 h63' hA' hS1' hS2'
      · rw [if_neg (by rw [nle (by omega) (by omega)]; exact hle)]
        rw [if_pos (show (fmin [(sm (ocs N S K pu L v m) 0 a, a)]).1 < _ from by show sm (ocs N S K pu L v m) 0 a < _; omega)] at happ
        exact upd' (by rw [hmap]; exact happ)
