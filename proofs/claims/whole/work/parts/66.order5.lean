/-! ===== the order, the reference: sums and the next order ===== -/
theorem any_ins {m P q : Nat} {g : Nat → Bool} (hq : q < m) : (List.range m).any (fun k => (ins1 P q).testBit k && g k) = ((List.range m).any (fun k => P.testBit k && g k) || g q) := by
  rw [Bool.eq_iff_iff, Bool.or_eq_true, List.any_eq_true, List.any_eq_true]
  unfold ins1
  constructor
  · rintro ⟨k, hk, h⟩
    rw [Bool.and_eq_true, Nat.testBit_or, Bool.or_eq_true, Nat.testBit_two_pow, decide_eq_true_eq] at h
    rcases h.1 with h1 | h1
    · exact .inl ⟨k, hk, by rw [h1, h.2]; rfl⟩
    · right
      rw [h1]
      exact h.2
  · rintro (⟨k, hk, h⟩ | h)
    · rw [Bool.and_eq_true] at h
      exact ⟨k, hk, by rw [Nat.testBit_or, h.1, h.2]; rfl⟩
    · exact ⟨q, List.mem_range.mpr hq, by rw [Nat.testBit_or, Nat.testBit_two_pow, decide_eq_true rfl, h, Bool.or_true]; rfl⟩
def oRel (v : Int32) (m P X : Nat) : Prop := ∀ s, X.testBit s = (List.range m).any (fun k => P.testBit k && decide (mem v k = s))
theorem oRel_s {v : Int32} {m P X q : Nat} (hq : q < m) (h : oRel v m P X) : oRel v m (ins1 P q) (X ||| 2 ^ mem v q) := by
  intro s
  rw [Nat.testBit_or, Nat.testBit_two_pow, h s, any_ins (g := fun k => decide (mem v k = s)) hq]
theorem oRel_c {N : Net} {S : Str} {K : Nat → Bool} {pu : Nat → Int32} {L : Lw} {v : Int32} {m P X : Nat} (h : oRel v m P X) : dcs N S K pu L X = ocs N S K pu L v m P := by
  have e : (fun s => K s || X.testBit s) = oKd K v m P := funext fun s => by
    unfold oKd
    rw [h s]
  unfold dcs ocs oTn
  rw [e]
def oA (v : Int32) (m : Nat) (p : Nat → Nat) (σ : Sg) : Prop := ∀ i, i < m → σ 111 i = nI (mem v (p i))
theorem oM_of {N : Net} {S : Str} {K : Nat → Bool} {pu : Nat → Int32} {L : Lw} {σ τ : Sg} (h : oM N S K pu L σ) (hf : ∀ o j, o ≠ 111 → o ≠ 112 → τ o j = σ o j) : oM N S K pu L τ := by
  obtain ⟨i1, i2, i3, i4, i5, i6, i7, i8⟩ := h
  have g : ∀ o, o ≠ 111 → o ≠ 112 → ∀ j, τ o j = σ o j := fun o h1 h2 j => hf o j h1 h2
  refine ⟨mN_of i1 (g 71 (by decide) (by decide) 2) (g 73 (by decide) (by decide)) (g 74 (by decide) (by decide)) (g 77 (by decide) (by decide)) (g 78 (by decide) (by decide)) (g 79 (by decide) (by decide)), ⟨by rw [g 71 (by decide) (by decide)]; exact i2.1, fun s hs => ?_⟩, fun s hs => by rw [g 110 (by decide) (by decide)]; exact i3 s hs, ?_, by rw [g 71 (by decide) (by decide)]; exact i5, fun h hh => by rw [g 72 (by decide) (by decide)]; exact i6 h hh, fun X hX => by rw [g 113 (by decide) (by decide)]; exact i7 X hX, fun s hs hs2 => by rw [g 88 (by decide) (by decide)]; exact i8 s hs hs2⟩
  · rw [g 81 (by decide) (by decide), g 82 (by decide) (by decide), g 83 (by decide) (by decide), g 84 (by decide) (by decide), g 85 (by decide) (by decide)]; exact i2.2 s hs
  · unfold mW
    rw [g 71 (by decide) (by decide), g 71 (by decide) (by decide), g 71 (by decide) (by decide), g 71 (by decide) (by decide)]; exact i4
theorem sum_go {n m : Nat} {N : Net} {S : Str} {K : Nat → Bool} {pu : Nat → Int32} {L : Lw} {v : Int32} {p : Nat → Nat} (hn : 11000 ≤ n) (hm : m < 7) (hN : nok N) (hS : sok S) (hk : L.2.1 ≤ 4) (hpu : ∀ h, h < 24 → 0 ≤ (pu h).toInt ∧ (pu h).toInt ≤ 9999) (hp : ∀ i, i < m → p i < m) (hmem : ∀ k, k < m → mem v k < sN S) : ∀ (e k f acc P X : Nat) (σ : Sg), k + e = m → e < f → X < 1024 → oRel v m P X → oM N S K pu L σ → σ 71 63 = nI m → oA v m p σ → ∃ τ, s_X12_sumOfOrder_6 n f (nI acc) (nI X) (nI k) σ = some (nI (acc + sm (ocs N S K pu L v m) P ((List.range' k e).map p)), τ) ∧ oM N S K pu L τ ∧ ∀ o j, fok W_X12_tryDay o j = true → τ o j = σ o j := by
  have h10 := hS.1
  intro e
  induction e with
  | zero =>
    intro k f acc P X σ hk2 hf hX hR hI h63 hA
    obtain ⟨f, rfl⟩ : ∃ k', f = k' + 1 := ⟨f - 1, by omega⟩
    refine ⟨σ, ?_, hI, fun _ _ _ => rfl⟩
    show s_X12_sumOfOrder_6b n _ _ _ _ _ = _
    unfold s_X12_sumOfOrder_6b
    rw [h63, if_pos (by rw [nle (by omega) (by omega)]; omega)]
    rfl
  | succ e ih =>
    intro k f acc P X σ hk2 hf hX hR hI h63 hA
    obtain ⟨f, rfl⟩ : ∃ k', f = k' + 1 := ⟨f - 1, by omega⟩
    have hpk := hp k (by omega)
    have hmk := hmem (p k) hpk
    show ∃ τ, s_X12_sumOfOrder_6b n (s_X12_sumOfOrder_6 n f) _ _ _ _ = _ ∧ _
    unfold s_X12_sumOfOrder_6b
    rw [h63, if_neg (by rw [nle (by omega) (by omega)]; omega), ck_n (by omega) (by omega), ix_n (by omega), hA k (by omega), or_x hX (by omega), lt_eq]
    obtain ⟨τ1, a1, a2⟩ := try_ok (n := n) hn (nx10 hX (show mem v (p k) < 10 by omega)) hN hS hk hpu hI
    have f1 : ∀ o j, fok W_X12_tryDay o j = true → τ1 o j = σ o j := fun o j h => fr_s_X12_tryDay h _ _ a1
    rw [a1, bd_so, lt_eq, nadd, show nI k + 1 = nI (k + 1) from nI_1 k]
    obtain ⟨τ, t1, t2, t3⟩ := ih (k + 1) f (acc + dcs N S K pu L (X ||| 2 ^ mem v (p k))) (ins1 P (p k)) (X ||| 2 ^ mem v (p k)) τ1 (by omega) (by omega) (nx10 hX (by omega)) (oRel_s hpk hR) a2 (by rw [f1 71 63 rfl]; exact h63) (fun i hi => by rw [f1 111 i rfl]; exact hA i hi)
    refine ⟨τ, ?_, t2, fun o j h => (t3 o j h).trans (f1 o j h)⟩
    rw [t1, oRel_c (oRel_s hpk hR), Nat.add_assoc]
    rfl
theorem nx_i {n m : Nat} {v : Int32} {p : Nat → Nat} {σ : Sg} {ns : Nat} (hm : m < 7) (hns : ns ≤ 10) (hmn : m = pcn v ns) (hp : ∀ i, i < m → p i < m) (hA : oA v m p σ) : ∀ (i f : Nat), i < f → i + 1 ≤ m → s_X12_nextOrder_7 n f (nI i + -1) σ = match nxI p i with
    | none => some (0, σ)
    | some j => s_X12_nextOrder_34 n (nI j) σ := by
  intro i
  induction i with
  | zero =>
    intro f hf hi
    obtain ⟨f, rfl⟩ : ∃ k', f = k' + 1 := ⟨f - 1, by omega⟩
    show s_X12_nextOrder_7b n _ _ _ = _
    unfold s_X12_nextOrder_7b
    rw [if_pos (show nI 0 + -1 < 0 by decide)]
    unfold s_X12_nextOrder_34
    rw [if_neg (show ¬ 0 ≤ nI 0 + -1 by decide)]
    rfl
  | succ i ih =>
    intro f hf hi
    obtain ⟨f, rfl⟩ : ∃ k', f = k' + 1 := ⟨f - 1, by omega⟩
    have a := hp i (by omega)
    have b := hp (i + 1) (by omega)
    have c := mem_ok hns (hmn ▸ a)
    have d := mem_ok hns (hmn ▸ b)
    show s_X12_nextOrder_7b n (s_X12_nextOrder_7 n f) _ _ = _
    unfold s_X12_nextOrder_7b
    rw [ndec (show 0 < i + 1 by omega), show i + 1 - 1 = i by omega, if_neg (n_nlt0 (by omega)), show nI i + 1 = nI (i + 1) from nI_1 i, ck_n (by omega) (by omega), ck_n (by omega) (by omega), ix_n (by omega), ix_n (by omega), hA i (by omega), hA (i + 1) (by omega)]
    show _ = match (if p i ≤ p (i + 1) then some i else nxI p i) with
      | none => some (0, σ)
      | some j => s_X12_nextOrder_34 n (nI j) σ
    by_cases h : p i ≤ p (i + 1)
    · rw [if_pos (by rw [nle (by omega) (by omega)]; exact (mem_lt hns (hmn ▸ a) (hmn ▸ b)).mpr h), if_pos h]
    · rw [if_neg (by rw [nle (by omega) (by omega)]; exact fun z => h ((mem_lt hns (hmn ▸ a) (hmn ▸ b)).mp z)), if_neg h]
      exact ih f (by omega) (by omega)
theorem nx_j {n m i : Nat} {v : Int32} {p : Nat → Nat} {σ : Sg} {ns : Nat} (hm : m < 7) (hns : ns ≤ 10) (hmn : m = pcn v ns) (hp : ∀ i, i < m → p i < m) (h63 : σ 71 63 = nI m) (hA : oA v m p σ) (hi : i + 1 < m) (hr : p i ≤ p (i + 1)) : ∀ (j f : Nat), i + 1 ≤ j → j < m → j < f → nxJ p (p i) j < m ∧ s_X12_nextOrder_47 n f (nI i) (nI j) σ = s_X12_nextOrder_107 n n (nI (i + 1)) (nI (m - 1)) (up2 (up2 σ 111 i (σ 111 (nxJ p (p i) j))) 111 (nxJ p (p i) j) (σ 111 i)) := by
  intro j
  induction j with
  | zero => intro f h; omega
  | succ j ih =>
    intro f h1 h2 h3
    obtain ⟨f, rfl⟩ : ∃ k', f = k' + 1 := ⟨f - 1, by omega⟩
    have a := hp i (by omega)
    have b := hp (j + 1) (by omega)
    have c := mem_ok hns (hmn ▸ a)
    have d := mem_ok hns (hmn ▸ b)
    show _ ∧ s_X12_nextOrder_47b n (s_X12_nextOrder_47 n f) _ _ _ = _
    unfold s_X12_nextOrder_47b
    rw [ck_n (by omega) (by omega), ck_n (by omega) (by omega), ix_n (by omega), ix_n (by omega)]
    have hJ : nxJ p (p i) (j + 1) = if p i ≤ p (j + 1) then j + 1 else nxJ p (p i) j := rfl
    by_cases h : p i ≤ p (j + 1)
    · rw [if_pos h] at hJ
      rw [hJ, if_pos (by rw [hA i (by omega), hA (j + 1) (by omega), nle (by omega) (by omega)]; exact (mem_lt hns (hmn ▸ a) (hmn ▸ b)).mpr h)]
      refine ⟨h2, ?_⟩
      simp (disch := omega) only [ck_n, lt_eq]
      rw [up2_o (by decide), up2_o (by decide), h63, show nI i + 1 = nI (i + 1) from nI_1 i, show (1 : Int32) = nI 1 from rfl, nsub (by omega)]
    · rw [if_neg h] at hJ
      have hj : i + 1 ≤ j := by
        apply Classical.byContradiction
        intro hn
        have e : j = i := by omega
        rw [e] at h
        exact h hr
      rw [hJ, if_neg (by rw [hA i (by omega), hA (j + 1) (by omega), nle (by omega) (by omega)]; exact fun z => h ((mem_lt hns (hmn ▸ a) (hmn ▸ b)).mp z)), ndec (show 0 < j + 1 by omega), show j + 1 - 1 = j by omega]
      exact ih f hj (by omega) (by omega)
theorem swp_ok {m i j : Nat} {v : Int32} {p : Nat → Nat} {σ : Sg} (hi : i < m) (hj : j < m) (hA : oA v m p σ) : oA v m (swp p i j) (up2 (up2 σ 111 i (σ 111 j)) 111 j (σ 111 i)) := by
  intro t ht
  unfold swp updN
  rw [up2_app, if_pos rfl, up2_app, if_pos rfl]
  by_cases h1 : t = j
  · rw [if_pos h1, if_pos h1, hA i hi]
  · rw [if_neg h1, if_neg h1]
    by_cases h2 : t = i
    · rw [if_pos h2, if_pos h2, hA j hj]
    · rw [if_neg h2, if_neg h2, hA t ht]
theorem nx_r {n m : Nat} {v : Int32} (hm : m < 7) : ∀ (g a b f : Nat) (p : Nat → Nat) (σ : Sg), b < a + g → g < f → a ≤ 20 → b < m → oA v m p σ → ∃ τ, s_X12_nextOrder_107 n f (nI a) (nI b) σ = some (1, τ) ∧ oA v m (rev p a g b) τ ∧ ∀ o j, o ≠ 111 → τ o j = σ o j := by
  intro g
  induction g with
  | zero =>
    intro a b f p σ h1 h2 ha h3 hA
    obtain ⟨f, rfl⟩ : ∃ k', f = k' + 1 := ⟨f - 1, by omega⟩
    refine ⟨σ, ?_, hA, fun _ _ _ => rfl⟩
    show s_X12_nextOrder_107b n _ _ _ _ = _
    unfold s_X12_nextOrder_107b
    rw [if_pos (by rw [nle (by omega) (by omega)]; omega)]
  | succ g ih =>
    intro a b f p σ h1 h2 ha h3 hA
    obtain ⟨f, rfl⟩ : ∃ k', f = k' + 1 := ⟨f - 1, by omega⟩
    show ∃ τ, s_X12_nextOrder_107b n (s_X12_nextOrder_107 n f) _ _ _ = _ ∧ _
    unfold s_X12_nextOrder_107b
    have hr : rev p a (g + 1) b = if b ≤ a then p else rev (swp p a b) (a + 1) g (b - 1) := rfl
    rw [hr]
    by_cases h : b ≤ a
    · rw [if_pos (by rw [nle (by omega) (by omega)]; exact h), if_pos h]
      exact ⟨σ, rfl, hA, fun _ _ _ => rfl⟩
    · rw [if_neg (by rw [nle (by omega) (by omega)]; exact h), if_neg h]
      simp (disch := omega) only [ck_n, ix_n, lt_eq]
      rw [show nI a + 1 = nI (a + 1) from nI_1 a, ndec (show 0 < b by omega)]
      obtain ⟨τ, t1, t2, t3⟩ := ih (a + 1) (b - 1) f (swp p a b) (up2 (up2 σ 111 a (σ 111 b)) 111 b (σ 111 a)) (by omega) (by omega) (by omega) (by omega) (swp_ok (by omega) (by omega) hA)
      exact ⟨τ, t1, t2, fun o j ho => by rw [t3 o j ho, up2_o ho, up2_o ho]⟩
theorem onext_ok {n m : Nat} {v : Int32} {p : Nat → Nat} {σ : Sg} {ns : Nat} (hn : 100 ≤ n) (hm : m < 7) (hns : ns ≤ 10) (hmn : m = pcn v ns) (hp : ∀ i, i < m → p i < m) (h63 : σ 71 63 = nI m) (hA : oA v m p σ) : (onxt m p = none → s_X12_nextOrder n σ = some (0, σ)) ∧ ∀ q, onxt m p = some q → ∃ τ, s_X12_nextOrder n σ = some (1, τ) ∧ oA v m q τ ∧ ∀ o j, o ≠ 111 → τ o j = σ o j := by
  unfold s_X12_nextOrder onxt
  rw [h63, lt_eq]
  by_cases h0 : m = 0
  · subst h0
    refine ⟨fun _ => ?_, fun q hq => by cases hq⟩
    obtain ⟨n', rfl⟩ : ∃ k', n = k' + 1 := ⟨n - 1, by omega⟩
    show s_X12_nextOrder_7b _ _ _ _ = _
    unfold s_X12_nextOrder_7b
    rw [if_pos (by decide)]
    unfold s_X12_nextOrder_34
    rw [if_neg (by decide)]
  · have e1 : nI m - 2 = nI (m - 1) + -1 := by
      have : ∀ m, m < 7 → m ≠ 0 → nI m - 2 = nI (m - 1) + -1 := by decide +kernel
      exact this m hm h0
    rw [e1, nx_i (n := n) hm hns hmn hp hA (m - 1) n (by omega) (by omega)]
    have hlt : ∀ k i, nxI p k = some i → i < k ∧ p i ≤ p (i + 1) := by
      intro k
      induction k with
      | zero => intro i h; cases h
      | succ k ihk =>
        intro i h
        have h : (if p k ≤ p (k + 1) then some k else nxI p k) = some i := h
        by_cases hk : p k ≤ p (k + 1)
        · rw [if_pos hk] at h
          cases h
          exact ⟨by omega, hk⟩
        · rw [if_neg hk] at h
          have := ihk i h
          exact ⟨by omega, this.2⟩
    cases hI : nxI p (m - 1) with
    | none => exact ⟨fun _ => rfl, fun q hq => by cases hq⟩
    | some i =>
      refine ⟨fun hq => (by cases hq), fun q hq => ?_⟩
      cases hq
      obtain ⟨b1, b2⟩ := hlt _ _ hI
      obtain ⟨c1, c2⟩ := nx_j (n := n) (i := i) hm hns hmn hp h63 hA (by omega) b2 (m - 1) n (by omega) (by omega) (by omega)
      show ∃ τ, s_X12_nextOrder_34 n (nI i) σ = _ ∧ _
      unfold s_X12_nextOrder_34
      rw [if_pos (n_nn (by omega)), h63, lt_eq, show (1 : Int32) = nI 1 from rfl, nsub (by omega), c2]
      obtain ⟨τ, t1, t2, t3⟩ := nx_r (n := n) (v := v) hm 10 (i + 1) (m - 1) n _ _ (by omega) (by omega) (by omega) (by omega) (swp_ok (i := i) (by omega) c1 hA)
      exact ⟨τ, t1, t2, fun o j ho => by rw [t3 o j ho, up2_o ho, up2_o ho]⟩
