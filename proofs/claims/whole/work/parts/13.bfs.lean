/-! ===== the search for a way, as mathematics ===== -/
abbrev Mx : Type := Nat → Nat → Int32
def bnew (A : Mx) (q : List Nat) (u : Nat) : List Nat := (List.range 10).filter (fun v => decide (v ∉ q) && decide (0 < A u v))
def bst (A : Mx) : Nat → List Nat × (Nat → Nat)
  | 0 => ([10], fun _ => 10)
  | h + 1 => match (bst A h).1[h]? with
    | none => bst A h
    | some u => ((bst A h).1 ++ bnew A (bst A h).1 u, fun v => if v ∈ bnew A (bst A h).1 u then u else (bst A h).2 v)
abbrev bq (A : Mx) (h : Nat) : List Nat := (bst A h).1
abbrev bp (A : Mx) (h : Nat) : Nat → Nat := (bst A h).2
theorem nodup_len : ∀ (m : Nat) (q : List Nat), q.Nodup → (∀ v ∈ q, v < m) → q.length ≤ m
  | 0, q, _, h => by
    cases q with
    | nil => simp
    | cons a t => exact absurd (h a (by simp)) (by omega)
  | m + 1, q, hn, h => by
    by_cases hm : m ∈ q
    · have h3 := nodup_len m (q.erase m) (hn.erase m) (fun v hv => by
        have h1 := List.mem_of_mem_erase hv
        have h2 : v ≠ m := (hn.mem_erase_iff.mp hv).1
        have h4 := h v h1
        omega)
      rw [List.length_erase_of_mem hm] at h3
      omega
    · have h3 := nodup_len m q hn (fun v hv => by
        have h4 := h v hv
        have h5 : v ≠ m := fun e => hm (e ▸ hv)
        omega)
      omega
theorem bnew_mem {A : Mx} {q : List Nat} {u v : Nat} : v ∈ bnew A q u ↔ v < 10 ∧ v ∉ q ∧ 0 < A u v := by
  simp [bnew, List.mem_filter, List.mem_range]
/-- what holds of the search behind h steps -/
def bok (A : Mx) (h : Nat) : Prop := (bq A h)[0]? = some 10 ∧ (∀ v ∈ bq A h, v < 11) ∧ (bq A h).Nodup ∧ ∀ (i v : Nat), (bq A h)[i]? = some v → v ≠ 10 → ∃ j : Nat, j < i ∧ j < h ∧ (bq A h)[j]? = some (bp A h v) ∧ 0 < A (bp A h v) v
theorem bst_none {A : Mx} {h : Nat} (e : (bq A h)[h]? = none) : bst A (h + 1) = bst A h := by
  show (match (bst A h).1[h]? with
    | none => bst A h
    | some u => ((bst A h).1 ++ bnew A (bst A h).1 u, fun v => if v ∈ bnew A (bst A h).1 u then u else (bst A h).2 v)) = _
  rw [e]
theorem bst_some {A : Mx} {h u : Nat} (e : (bq A h)[h]? = some u) : bst A (h + 1) = (bq A h ++ bnew A (bq A h) u, fun v => if v ∈ bnew A (bq A h) u then u else bp A h v) := by
  show (match (bst A h).1[h]? with
    | none => bst A h
    | some u => ((bst A h).1 ++ bnew A (bst A h).1 u, fun v => if v ∈ bnew A (bst A h).1 u then u else (bst A h).2 v)) = _
  rw [e]
theorem bok_all (A : Mx) : ∀ h, bok A h
  | 0 => by
    refine ⟨rfl, ?_, ?_, ?_⟩
    · intro v hv
      have hv : v ∈ [10] := hv
      simp at hv
      omega
    · show ([10] : List Nat).Nodup
      simp
    · intro i v hv hne
      have hv : ([10] : List Nat)[i]? = some v := hv
      cases i with
      | zero => simp at hv; exact absurd hv.symm hne
      | succ i => simp at hv
  | h + 1 => by
    have ih := bok_all A h
    obtain ⟨h0, h1, h2, h3⟩ := ih
    cases e : (bq A h)[h]? with
    | none =>
      have e2 := bst_none e
      unfold bok bq bp
      rw [e2]
      refine ⟨h0, h1, h2, fun i v hv hne => ?_⟩
      obtain ⟨j, j1, j2, j3, j4⟩ := h3 i v hv hne
      exact ⟨j, j1, by omega, j3, j4⟩
    | some u =>
      have e2 := bst_some e
      have hl : h < (bq A h).length := (List.getElem?_eq_some_iff.mp e).1
      unfold bok bq bp
      rw [e2]
      dsimp only
      refine ⟨?_, ?_, ?_, ?_⟩
      · rw [List.getElem?_append_left (by omega)]
        exact h0
      · intro v hv
        rcases List.mem_append.mp hv with hv | hv
        · exact h1 v hv
        · have := (bnew_mem.mp hv).1
          omega
      · refine List.nodup_append.mpr ⟨h2, ?_, ?_⟩
        · exact List.Nodup.sublist List.filter_sublist List.nodup_range
        · intro a ha b hb hab
          subst hab
          exact (bnew_mem.mp hb).2.1 ha
      · intro i v hv hne
        by_cases hn : v ∈ bnew A (bq A h) u
        · rw [if_pos hn]
          have hi : (bq A h).length ≤ i := by
            apply Classical.byContradiction
            intro hlt
            rw [List.getElem?_append_left (by omega)] at hv
            exact (bnew_mem.mp hn).2.1 (List.mem_of_getElem? hv)
          exact ⟨h, by omega, by omega, by rw [List.getElem?_append_left hl]; exact e, (bnew_mem.mp hn).2.2⟩
        · rw [if_neg hn]
          have hi : i < (bq A h).length := by
            apply Classical.byContradiction
            intro hlt
            rw [List.getElem?_append_right (by omega)] at hv
            exact hn (List.mem_of_getElem? hv)
          rw [List.getElem?_append_left hi] at hv
          obtain ⟨j, j1, j2, j3, j4⟩ := h3 i v hv hne
          exact ⟨j, j1, by omega, by rw [List.getElem?_append_left (by omega)]; exact j3, j4⟩
theorem bq_len (A : Mx) (h : Nat) : (bq A h).length ≤ 11 := nodup_len 11 _ (bok_all A h).2.2.1 (bok_all A h).2.1
theorem bq_mem_succ {A : Mx} {h v : Nat} (hv : v ∈ bq A h) : v ∈ bq A (h + 1) ∧ bp A (h + 1) v = bp A h v := by
  unfold bq bp
  cases e : (bq A h)[h]? with
  | none => rw [bst_none e]; exact ⟨hv, rfl⟩
  | some u =>
    rw [bst_some e]
    refine ⟨List.mem_append_left _ hv, ?_⟩
    dsimp only
    rw [if_neg (fun hn => (bnew_mem.mp hn).2.1 hv)]
theorem bq_mem_add {A : Mx} {h v : Nat} (hv : v ∈ bq A h) : ∀ k, v ∈ bq A (h + k) ∧ bp A (h + k) v = bp A h v
  | 0 => ⟨hv, rfl⟩
  | k + 1 => by
    have h1 := bq_mem_add hv k
    have h2 := bq_mem_succ h1.1
    exact ⟨h2.1, h2.2.trans h1.2⟩
/-- is there a way; from where a node is come to -/
def rch (A : Mx) (v : Nat) : Prop := v ∈ bq A 11
abbrev pF (A : Mx) : Nat → Nat := bp A 11
theorem rch_of {A : Mx} {h v : Nat} (hh : h ≤ 11) (hv : v ∈ bq A h) : rch A v ∧ pF A v = bp A h v := by
  have h1 := bq_mem_add hv (11 - h)
  rw [show h + (11 - h) = 11 by omega] at h1
  exact h1
/-- the way back from a node to the source has k steps at most -/
def chok (p : Nat → Nat) : Nat → Nat → Prop
  | 0, v => v = 10
  | k + 1, v => v = 10 ∨ chok p k (p v)
theorem chok_mono {p : Nat → Nat} : ∀ {k v : Nat}, chok p k v → chok p (k + 1) v
  | 0, _, h => Or.inl h
  | _ + 1, _, h => h.elim Or.inl (fun h => Or.inr (chok_mono h))
theorem chok_le {p : Nat → Nat} {k v : Nat} (h : chok p k v) : ∀ d, chok p (k + d) v
  | 0 => h
  | d + 1 => chok_mono (chok_le h d)
theorem chok_rch {A : Mx} : ∀ (i v : Nat), (bq A 11)[i]? = some v → chok (pF A) i v := by
  intro i
  induction i using Nat.strongRecOn with
  | ind i ih =>
    intro v hv
    by_cases h10 : v = 10
    · cases i with
      | zero => exact h10
      | succ i => exact Or.inl h10
    · obtain ⟨j, j1, j2, j3, j4⟩ := (bok_all A 11).2.2.2 i v hv h10
      obtain ⟨d, rfl⟩ : ∃ d, i = (j + d) + 1 := ⟨i - j - 1, by omega⟩
      exact Or.inr (chok_le (ih j (by omega) _ j3) d)
theorem chok_10 {A : Mx} {v : Nat} (hv : rch A v) : chok (pF A) 10 v := by
  obtain ⟨i, hi⟩ := List.mem_iff_getElem?.mp hv
  have hl := (List.getElem?_eq_some_iff.mp hi).1
  have := bq_len A 11
  have h1 := chok_le (chok_rch i v hi) (10 - i)
  rw [show i + (10 - i) = 10 by omega] at h1
  exact h1
theorem rch_p {A : Mx} {v : Nat} (hv : rch A v) (hne : v ≠ 10) : rch A (pF A v) ∧ 0 < A (pF A v) v := by
  obtain ⟨i, hi⟩ := List.mem_iff_getElem?.mp hv
  obtain ⟨j, _, _, j3, j4⟩ := (bok_all A 11).2.2.2 i v hi hne
  exact ⟨List.mem_of_getElem? j3, j4⟩
theorem rch_lt {A : Mx} {v : Nat} (hv : rch A v) : v < 11 := (bok_all A 11).2.1 v hv
def chn (p : Nat → Nat) : Nat → Nat → List Nat
  | 0, _ => []
  | k + 1, v => if v = 10 then [] else v :: chn p k (p v)
