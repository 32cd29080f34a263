/-! ===== the order, the class ===== -/
/-- the k-th of a set -/
def mem (v : Int32) (k : Nat) : Nat := ((List.range 10).find? (fun i => bt v i && decide (pcn v i = k))).getD 0
theorem mem_ok {v : Int32} {k ns : Nat} (hns : ns ≤ 10) (hk : k < pcn v ns) : mem v k < ns ∧ bt v (mem v k) = true ∧ pcn v (mem v k) = k := by
  obtain ⟨i, hi, hb, hp⟩ := pcn_find hk
  unfold mem
  cases hf : (List.range 10).find? (fun i => bt v i && decide (pcn v i = k)) with
  | none =>
    have := List.find?_eq_none.mp hf i (List.mem_range.mpr (by omega))
    rw [hb, decide_eq_true hp] at this
    exact absurd rfl this
  | some j =>
    have h1 := List.find?_some hf
    rw [Bool.and_eq_true, decide_eq_true_eq] at h1
    refine ⟨?_, h1.1, h1.2⟩
    show j < ns
    apply Classical.byContradiction
    intro hj
    have := pcn_mono v (show ns ≤ j by omega)
    omega
theorem mem_at {v : Int32} {i : Nat} (hi : i < 10) (hb : bt v i = true) : mem v (pcn v i) = i := by
  have h1 := mem_ok (v := v) (k := pcn v i) (Nat.le_refl 10) (pcn_lt hi hb)
  apply Classical.byContradiction
  intro hne
  rcases Nat.lt_or_gt_of_ne hne with h | h
  · have := pcn_lt h h1.2.1
    omega
  · have := pcn_lt h hb
    omega
theorem mem_lt {v : Int32} {j k ns : Nat} (hns : ns ≤ 10) (hj : j < pcn v ns) (hk : k < pcn v ns) : mem v j ≤ mem v k ↔ j ≤ k := by
  have h1 := mem_ok hns hj
  have h2 := mem_ok hns hk
  constructor
  · intro h
    have := pcn_mono v h
    omega
  · intro h
    apply Classical.byContradiction
    intro h3
    have := pcn_lt (show mem v k < mem v j by omega) h2.2.1
    omega
theorem or_p : ∀ k, k < 6 → ∀ P, P < 64 → nI P ||| sl 1 (nI k) = nI (ins1 P k) ∧ ins1 P k < 64 ∧ (decide (ins1 P k = P) = P.testBit k) := by decide +kernel
theorem bit_p : ∀ k, k < 6 → ∀ P, P < 64 → (sr (nI P) (nI k) &&& 1) = if P.testBit k = true then 1 else 0 := by decide +kernel
theorem rem_all : ∀ m, m < 7 → rem m (2 ^ m - 1) = [] := by decide +kernel
theorem rem_nn : ∀ m, m < 7 → ∀ P, P < 2 ^ m → P ≠ 2 ^ m - 1 → rem m P ≠ [] := by decide +kernel
theorem rem_s (m P : Nat) : rem (m + 1) P = rem m P ++ if P.testBit m = true then [] else [m] := by
  unfold rem
  rw [List.range_succ, List.filter_append]
  congr 1
  cases h : P.testBit m <;> simp [h]
theorem fmin_mem : ∀ {A : List (Nat × List Nat)}, A ≠ [] → fmin A ∈ A
  | [], h => absurd rfl h
  | [a], _ => by simp [fmin]
  | a :: b :: r, _ => by
    rw [fmin_c]
    split
    · exact List.mem_cons_of_mem _ (fmin_mem (by simp))
    · simp
theorem fmin_first {A B : List (Nat × List Nat)} {x : Nat × List Nat} (h1 : x.1 = (fmin (A ++ x :: B)).1) (h2 : ∀ a ∈ A, a.1 ≠ x.1) : fmin (A ++ x :: B) = x := by
  have h0 : fmin (x :: B) = x ∨ (fmin (x :: B)).1 < x.1 := by
    by_cases hB : B = []
    · subst hB; exact .inl rfl
    · rw [fmin_cons x hB]
      by_cases h : (fmin B).1 < x.1
      · rw [if_pos h]; exact .inr h
      · rw [if_neg h]; exact .inl rfl
  by_cases hA : A = []
  · subst hA
    rcases h0 with h | h
    · exact h
    · exact absurd h1 (by rw [List.nil_append]; omega)
  · rw [fmin_app hA (by simp)] at h1 ⊢
    by_cases h : (fmin (x :: B)).1 < (fmin A).1
    · rw [if_pos h] at h1 ⊢
      rcases h0 with h3 | h3
      · exact h3
      · omega
    · rw [if_neg h] at h1
      exact absurd h1.symm (h2 _ (fmin_mem hA))
theorem obst_le {m : Nat} {c : Nat → Nat} (hm : m < 7) (hc : ∀ P, c P ≤ 24) : ∀ (e P : Nat), P < 2 ^ m → (rem m P).length = e → (obst m c e P).1 ≤ 24 * e
  | 0, _, _, _ => Nat.le_refl _
  | e + 1, P, hP, he => by
    have hne : (rem m P).map (fun k => (c (ins1 P k) + (obst m c e (ins1 P k)).1, k :: (obst m c e (ins1 P k)).2)) ≠ [] := by
      intro z
      rw [List.map_eq_nil_iff] at z
      rw [z] at he
      simp at he
    obtain ⟨k, hk, e1⟩ := List.mem_map.mp (fmin_mem hne)
    have h1 := rem_len m hm P hP k hk
    have ih := obst_le hm hc e (ins1 P k) h1.2.1 (by omega)
    show (fmin _).1 ≤ _
    rw [← e1]
    have := hc (ins1 P k)
    dsimp only
    omega
/-- what the tables hold -/
def rst (m : Nat) (c : Nat → Nat) (P : Nat) : Nat := (obst m c (rem m P).length P).1
def gv (m : Nat) (c : Nat → Nat) (P k : Nat) : Nat × List Nat := (c (ins1 P k) + rst m c (ins1 P k), k :: (obst m c (rem m (ins1 P k)).length (ins1 P k)).2)
theorem rst_s {m : Nat} {c : Nat → Nat} (hm : m < 7) {P : Nat} (hP : P < 2 ^ m) (hne : rem m P ≠ []) : obst m c (rem m P).length P = fmin ((rem m P).map (gv m c P)) := by
  obtain ⟨e, he⟩ : ∃ e, (rem m P).length = e + 1 := ⟨(rem m P).length - 1, by
    have : 0 < (rem m P).length := List.length_pos_iff.mpr hne
    omega⟩
  rw [he]
  show fmin ((rem m P).map _) = _
  congr 1
  apply List.map_congr_left
  intro k hk
  have h1 := rem_len m hm P hP k hk
  have h2 : (rem m (ins1 P k)).length = e := by omega
  unfold gv rst
  rw [h2]
theorem rst_le {m : Nat} {c : Nat → Nat} (hm : m < 7) (hc : ∀ P, c P ≤ 24) {P : Nat} (hP : P < 2 ^ m) : rst m c P ≤ 144 := by
  have h1 := obst_le hm hc (rem m P).length P hP rfl
  have h2 : (rem m P).length ≤ m := by
    unfold rem
    have := List.length_filter_le (fun k => !P.testBit k) (List.range m)
    rw [List.length_range] at this
    exact this
  unfold rst
  omega
theorem pow6 {m : Nat} (hm : m < 7) : 2 ^ m ≤ 64 := Nat.pow_le_pow_right (by decide) (show m ≤ 6 by omega)
def oTb (m : Nat) (c : Nat → Nat) (d : Nat) (σ : Sg) : Prop := ∀ P, d ≤ P → P < 2 ^ m → σ 54 P = nI (rst m c P) ∧ (P ≠ 0 → σ 53 P = nI (c P))
theorem ins_gt : ∀ m, m < 7 → ∀ P, P < 2 ^ m → ∀ k ∈ rem m P, P < ins1 P k := by decide +kernel
theorem rem_mem {m P k : Nat} : k ∈ rem m P ↔ k < m ∧ P.testBit k = false := by
  unfold rem
  rw [List.mem_filter, List.mem_range]
  cases P.testBit k <;> simp
theorem least_go {n m P : Nat} {c : Nat → Nat} {σ : Sg} (hm : m < 7) (hc : ∀ P, c P ≤ 24) (hP : P < 2 ^ m) (h12 : σ 51 12 = nI m) (hT : oTb m c (P + 1) σ) : ∀ (e k f : Nat) (x : Int32), k + e = m → e < f → (x = if rem k P = [] then -1 else nI (fmin ((rem k P).map (gv m c P))).1) → s_X10_leastBehind_4 n f (nI P) x (nI k) σ = some (if rem m P = [] then -1 else nI (fmin ((rem m P).map (gv m c P))).1, σ) := by
  have h64 := pow6 hm
  intro e
  induction e with
  | zero =>
    intro k f x hk hf hx
    obtain ⟨f, rfl⟩ : ∃ k', f = k' + 1 := ⟨f - 1, by omega⟩
    have hk : k = m := by omega
    subst hk
    show s_X10_leastBehind_4b n _ _ _ _ _ = _
    unfold s_X10_leastBehind_4b
    rw [h12, if_pos (Int32.le_refl _), hx]
  | succ e ih =>
    intro k f x hk hf hx
    obtain ⟨f, rfl⟩ : ∃ k', f = k' + 1 := ⟨f - 1, by omega⟩
    show s_X10_leastBehind_4b n (s_X10_leastBehind_4 n f) _ _ _ _ = _
    unfold s_X10_leastBehind_4b
    obtain ⟨o1, o2, o3⟩ := or_p k (by omega) P (by omega)
    rw [h12, if_neg (by rw [nle (by omega) (by omega)]; omega), lt_eq, o1, show nI k + 1 = nI (k + 1) from nI_1 k]
    have rs := rem_s k P
    cases hb : P.testBit k
    · rw [hb] at o3 rs
      have hne : ¬ nI (ins1 P k) = nI P := by
        rw [neq (by omega) (by omega)]
        exact of_decide_eq_false o3
      have hkr : k ∈ rem m P := rem_mem.mpr ⟨by omega, hb⟩
      have hgt := ins_gt m hm P hP k hkr
      have hlt := (rem_len m hm P hP k hkr).2.1
      have ht := hT (ins1 P k) (by omega) hlt
      have h1 := hc (ins1 P k)
      have h2 := rst_le hm hc hlt
      rw [if_neg hne]
      have hrs : rem (k + 1) P = rem k P ++ [k] := by rw [rs]; rfl
      have hv : σ 53 (ins1 P k) + σ 54 (ins1 P k) = nI (gv m c P k).1 := by
        rw [ht.1, ht.2 (by omega), nadd]
        rfl
      have hg : (gv m c P k).1 ≤ 168 := by show c (ins1 P k) + rst m c (ins1 P k) ≤ 168; omega
      have set49 : s_X10_leastBehind_49 n (s_X10_leastBehind_4 n f) (nI P) (nI k) (nI (ins1 P k)) σ = s_X10_leastBehind_4 n f (nI P) (nI (gv m c P k).1) (nI (k + 1)) σ := by
        unfold s_X10_leastBehind_49
        rw [ck_n (by omega) (by omega), ck_n (by omega) (by omega), lt_eq, ix_n (by omega), hv, show nI k + 1 = nI (k + 1) from nI_1 k]
      rw [set49]
      by_cases hr : rem k P = []
      · rw [if_pos hr] at hx
        rw [if_pos hx]
        refine ih (k + 1) f _ (by omega) (by omega) ?_
        rw [hrs, hr]
        rfl
      · rw [if_neg hr] at hx
        have hA : (rem k P).map (gv m c P) ≠ [] := fun z => hr (List.map_eq_nil_iff.mp z)
        have hF : (fmin ((rem k P).map (gv m c P))).1 ≤ 168 := by
          obtain ⟨j, hj, ej⟩ := List.mem_map.mp (fmin_mem hA)
          rw [← ej]
          have hj2 := rem_mem.mp hj
          have hjr : j ∈ rem m P := rem_mem.mpr ⟨by omega, hj2.2⟩
          have := hc (ins1 P j)
          have := rst_le hm hc (rem_len m hm P hP j hjr).2.1
          show c (ins1 P j) + rst m c (ins1 P j) ≤ 168
          omega
        have happ : fmin ((rem (k + 1) P).map (gv m c P)) = if (gv m c P k).1 < (fmin ((rem k P).map (gv m c P))).1 then gv m c P k else fmin ((rem k P).map (gv m c P)) := by
          rw [hrs, List.map_append]
          exact fmin_app hA (by simp)
        have hn1 : rem (k + 1) P ≠ [] := by rw [hrs]; simp
        rw [if_neg (by rw [hx]; exact n_ne1 (by omega)), ck_n (by omega) (by omega), ck_n (by omega) (by omega), ix_n (by omega), hv, hx]
        by_cases hle : (fmin ((rem k P).map (gv m c P))).1 ≤ (gv m c P k).1
        · rw [if_pos (by rw [nle (by omega) (by omega)]; exact hle)]
          refine ih (k + 1) f _ (by omega) (by omega) ?_
          rw [if_neg hn1, happ, if_neg (by omega)]
        · rw [if_neg (by rw [nle (by omega) (by omega)]; exact hle)]
          refine ih (k + 1) f _ (by omega) (by omega) ?_
          rw [if_neg hn1, happ, if_pos (by omega)]
    · rw [hb] at o3 rs
      rw [of_decide_eq_true o3, if_pos rfl]
      refine ih (k + 1) f x (by omega) (by omega) ?_
      rw [rs, if_pos rfl, List.append_nil]
      exact hx
/-- the first of the best ways on -/
theorem ofirst_go {n m P : Nat} {c : Nat → Nat} {σ : Sg} (hm : m < 7) (hc : ∀ P, c P ≤ 24) (hP : P < 2 ^ m) (hne : rem m P ≠ []) (h12 : σ 51 12 = nI m) (hT : oTb m c 0 σ) : ∀ (e k f : Nat), k + e = m → e < f → (∀ j ∈ rem k P, (gv m c P j).1 ≠ rst m c P) → ∃ j, j ∈ rem m P ∧ s_X10_firstBest_2 n f (nI P) (nI k) σ = some (nI j, σ) ∧ obst m c (rem m P).length P = gv m c P j := by
  have h64 := pow6 hm
  have hbst := rst_s (c := c) hm hP hne
  intro e
  induction e with
  | zero =>
    intro k f hk hf hx
    have hk : k = m := by omega
    subst hk
    exfalso
    have hA : (rem k P).map (gv k c P) ≠ [] := fun z => hne (List.map_eq_nil_iff.mp z)
    obtain ⟨j, hj, ej⟩ := List.mem_map.mp (fmin_mem hA)
    refine hx j hj ?_
    unfold rst
    rw [hbst, ← ej]
  | succ e ih =>
    intro k f hk hf hx
    obtain ⟨f, rfl⟩ : ∃ k', f = k' + 1 := ⟨f - 1, by omega⟩
    show ∃ j, j ∈ rem m P ∧ s_X10_firstBest_2b n (s_X10_firstBest_2 n f) _ _ _ = _ ∧ _
    unfold s_X10_firstBest_2b
    obtain ⟨o1, o2, o3⟩ := or_p k (by omega) P (by omega)
    rw [h12, if_neg (by rw [nle (by omega) (by omega)]; omega), lt_eq, o1, show nI k + 1 = nI (k + 1) from nI_1 k]
    have rs := rem_s k P
    cases hb : P.testBit k
    · rw [hb] at o3 rs
      have hne2 : ¬ nI (ins1 P k) = nI P := by
        rw [neq (by omega) (by omega)]
        exact of_decide_eq_false o3
      have hkr : k ∈ rem m P := rem_mem.mpr ⟨by omega, hb⟩
      have hgt := ins_gt m hm P hP k hkr
      have hlt := (rem_len m hm P hP k hkr).2.1
      have ht := hT (ins1 P k) (by omega) hlt
      have h1 := hc (ins1 P k)
      have h2 := rst_le hm hc hlt
      have h3 := rst_le hm hc hP
      have hrs : rem (k + 1) P = rem k P ++ [k] := by rw [rs]; rfl
      have hv : σ 53 (ins1 P k) + σ 54 (ins1 P k) = nI (gv m c P k).1 := by
        rw [ht.1, ht.2 (by omega), nadd]
        rfl
      have hg : (gv m c P k).1 ≤ 168 := by show c (ins1 P k) + rst m c (ins1 P k) ≤ 168; omega
      rw [if_neg hne2, ck_n (by omega) (by omega), ck_n (by omega) (by omega), ck_n (by omega) (by omega), ix_n (by omega), ix_n (by omega), hv, (hT P (by omega) hP).1]
      by_cases heq : (gv m c P k).1 = rst m c P
      · rw [if_pos (by rw [neq (by omega) (by omega)]; exact heq)]
        refine ⟨k, hkr, rfl, ?_⟩
        have hsplit : ∃ B, rem m P = rem k P ++ k :: B := by
          have key : ∀ d, ∃ B, rem (k + 1 + d) P = rem k P ++ k :: B := by
            intro d
            induction d with
            | zero => exact ⟨[], hrs⟩
            | succ d ihd =>
              obtain ⟨B, hB⟩ := ihd
              refine ⟨B ++ if P.testBit (k + 1 + d) = true then [] else [k + 1 + d], ?_⟩
              rw [show k + 1 + (d + 1) = (k + 1 + d) + 1 by omega, rem_s, hB]
              simp
          have := key (m - (k + 1))
          rw [show k + 1 + (m - (k + 1)) = m by omega] at this
          exact this
        obtain ⟨B, hB⟩ := hsplit
        rw [hbst, hB, List.map_append, List.map_cons]
        apply fmin_first
        · rw [heq]
          unfold rst
          rw [hbst, hB, List.map_append, List.map_cons]
        · intro a ha
          obtain ⟨j, hj, ej⟩ := List.mem_map.mp ha
          rw [← ej, heq]
          exact hx j hj
      · rw [if_neg (by rw [neq (by omega) (by omega)]; exact heq)]
        refine ih (k + 1) f (by omega) (by omega) ?_
        intro j hj
        rw [hrs] at hj
        rcases List.mem_append.mp hj with h | h
        · exact hx j h
        · rw [List.mem_singleton.mp h]; exact heq
    · rw [hb] at o3 rs
      rw [of_decide_eq_true o3, if_pos rfl]
      refine ih (k + 1) f (by omega) (by omega) ?_
      rw [rs, if_pos rfl, List.append_nil]
      exact hx
