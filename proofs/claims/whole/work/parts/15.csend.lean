/-! ===== sending: the least room on the way, the way pushed ===== -/
theorem imin_l (x y : Int32) : imin x y ≤ x := by
  unfold imin
  by_cases h : y < x
  · rw [if_pos h]; exact Int32.le_of_lt h
  · rw [if_neg h]; exact Int32.le_refl x
theorem imin_r (x y : Int32) : imin x y ≤ y := by
  unfold imin
  by_cases h : y < x
  · rw [if_pos h]; exact Int32.le_refl y
  · rw [if_neg h]; exact Int32.not_lt.mp h
theorem imin_pos {x y : Int32} (hx : 0 < x) (hy : 0 < y) : 0 < imin x y := by
  unfold imin
  by_cases h : y < x
  · rw [if_pos h]; exact hy
  · rw [if_neg h]; exact hx
theorem imin_toInt (x y : Int32) : (imin x y).toInt = if y.toInt < x.toInt then y.toInt else x.toInt := by
  unfold imin
  by_cases h : y < x
  · rw [if_pos h, if_pos (Int32.lt_iff_toInt_lt.mp h)]
  · rw [if_neg h, if_neg (fun q => h (Int32.lt_iff_toInt_lt.mpr q))]
theorem imin_assoc (x y z : Int32) : imin (imin x y) z = imin x (imin y z) := by
  apply Int32.toInt_inj.mp
  simp only [imin_toInt]
  split <;> split <;> (try split) <;> (try split) <;> omega
theorem imin_of_le {x y : Int32} (h : x ≤ y) : imin x y = x := by
  unfold imin
  rw [if_neg (Int32.not_lt.mpr h)]
def nar (A : Mx) (p : Nat → Nat) : Nat → Int32 → Nat → Int32
  | 0, m, _ => m
  | k + 1, m, v => if v = 10 then m else nar A p k (imin m (A (p v) v)) (p v)
def augs (A : Mx) (p : Nat → Nat) (x : Int32) (v : Nat) : Mx := mup (mup A (p v) v (A (p v) v - x)) v (p v) ((mup A (p v) v (A (p v) v - x)) v (p v) + x)
def aug (p : Nat → Nat) (x : Int32) : Nat → Mx → Nat → Mx
  | 0, A, _ => A
  | k + 1, A, v => if v = 10 then A else aug p x k (augs A p x v) (p v)
theorem nar_s (A : Mx) (p : Nat → Nat) (k : Nat) (m : Int32) (v : Nat) : nar A p (k + 1) m v = if v = 10 then m else nar A p k (imin m (A (p v) v)) (p v) := rfl
theorem aug_s (A : Mx) (p : Nat → Nat) (x : Int32) (k v : Nat) : aug p x (k + 1) A v = if v = 10 then A else aug p x k (augs A p x v) (p v) := rfl
theorem nar_10 (A : Mx) (p : Nat → Nat) : ∀ (f : Nat) (m : Int32), nar A p f m 10 = m
  | 0, _ => rfl
  | _ + 1, _ => by unfold nar; rw [if_pos rfl]
theorem aug_10 (A : Mx) (p : Nat → Nat) (x : Int32) : ∀ (f : Nat), aug p x f A 10 = A
  | 0 => rfl
  | _ + 1 => by unfold aug; rw [if_pos rfl]
theorem nar_imin (A : Mx) (p : Nat → Nat) : ∀ (f : Nat) (a m : Int32) (v : Nat), nar A p f (imin a m) v = imin a (nar A p f m v)
  | 0, _, _, _ => rfl
  | f + 1, a, m, v => by
    unfold nar
    by_cases h : v = 10
    · rw [if_pos h, if_pos h]
    · rw [if_neg h, if_neg h, imin_assoc, nar_imin A p f]
/-- what came from where, on a set of nodes that is closed -/
def cP (p : Nat → Nat) (S : Nat → Prop) (σ : Sg) : Prop := ∀ w, S w → w < 11 ∧ (w ≠ 10 → σ 49 w = nI (p w) ∧ S (p w))
theorem narrowest_ok {n : Nat} {A : Mx} {p : Nat → Nat} {S : Nat → Prop} {σ : Sg} (hM : cM A σ) (hP : cP p S σ) : ∀ (j v k i f : Nat) (m : Int32), chok p j v → S v → j < k → j ≤ f → i + j ≤ 10 → s_X3_narrowest_9 n k m (nI v) (nI i) σ = some (nar A p f m v, σ) := by
  intro j
  induction j with
  | zero =>
    intro v k i f m hc hv hk hf hi
    obtain ⟨k, rfl⟩ : ∃ k', k = k' + 1 := ⟨k - 1, by omega⟩
    have hc : v = 10 := hc
    subst hc
    show s_X3_narrowest_9b n _ _ _ _ _ = _
    unfold s_X3_narrowest_9b
    rw [if_neg (by rw [show (11 : Int32) = nI 11 from rfl, nle (by omega) (by omega)]; omega), if_pos (show nI 10 = 10 from rfl), nar_10]
  | succ j ih =>
    intro v k i f m hc hv hk hf hi
    obtain ⟨k, rfl⟩ : ∃ k', k = k' + 1 := ⟨k - 1, by omega⟩
    have h11 := (hP v hv).1
    show s_X3_narrowest_9b n (s_X3_narrowest_9 n k) _ _ _ _ = _
    unfold s_X3_narrowest_9b
    rw [if_neg (by rw [show (11 : Int32) = nI 11 from rfl, nle (by omega) (by omega)]; omega)]
    by_cases h10 : v = 10
    · subst h10
      rw [if_pos (show nI 10 = 10 from rfl), nar_10]
    · obtain ⟨e49, hS⟩ := (hP v hv).2 h10
      have hp11 := (hP _ hS).1
      have hc2 : chok p j (p v) := hc.elim (fun z => absurd z h10) id
      rw [if_neg (by rw [show (10 : Int32) = nI 10 from rfl, neq (by omega) (by omega)]; exact h10)]
      rw [show (11 : Int32) = nI 11 from rfl]
      simp (disch := omega) only [ck_n, ix_n, e49, nmul, nadd, lt_eq, hM.1 (p v) v hp11 h11]
      obtain ⟨f, rfl⟩ : ∃ f', f = f' + 1 := ⟨f - 1, by omega⟩
      rw [show nI i + 1 = nI (i + 1) from nI_1 i, ih (p v) k (i + 1) f _ hc2 hS (by omega) (by omega) (by omega), nar_s, if_neg h10]
theorem push_ok {n : Nat} {p : Nat → Nat} {S : Nat → Prop} {x : Int32} : ∀ (j v k i f : Nat) (A : Mx) (σ : Sg), cM A σ → cP p S σ → chok p j v → S v → j < k → j ≤ f → i + j ≤ 10 → ∃ τ, s_X3_push_5 n k x (nI v) (nI i) σ = some τ ∧ cM (aug p x f A v) τ := by
  intro j
  induction j with
  | zero =>
    intro v k i f A σ hM hP hc hv hk hf hi
    obtain ⟨k, rfl⟩ : ∃ k', k = k' + 1 := ⟨k - 1, by omega⟩
    have hc : v = 10 := hc
    subst hc
    refine ⟨σ, ?_, by rw [aug_10]; exact hM⟩
    show s_X3_push_5b n _ _ _ _ _ = _
    unfold s_X3_push_5b
    rw [if_neg (by rw [show (11 : Int32) = nI 11 from rfl, nle (by omega) (by omega)]; omega), if_pos (show nI 10 = 10 from rfl)]
  | succ j ih =>
    intro v k i f A σ hM hP hc hv hk hf hi
    obtain ⟨k, rfl⟩ : ∃ k', k = k' + 1 := ⟨k - 1, by omega⟩
    have h11 := (hP v hv).1
    show ∃ τ, s_X3_push_5b n (s_X3_push_5 n k) _ _ _ _ = _ ∧ _
    unfold s_X3_push_5b
    rw [if_neg (by rw [show (11 : Int32) = nI 11 from rfl, nle (by omega) (by omega)]; omega)]
    by_cases h10 : v = 10
    · subst h10
      rw [if_pos (show nI 10 = 10 from rfl), aug_10]
      exact ⟨σ, rfl, hM⟩
    · obtain ⟨e49, hS⟩ := (hP v hv).2 h10
      have hp11 := (hP _ hS).1
      have hc2 : chok p j (p v) := hc.elim (fun z => absurd z h10) id
      rw [if_neg (by rw [show (10 : Int32) = nI 10 from rfl, neq (by omega) (by omega)]; exact h10)]
      simp (disch := omega) only [ck_n, ix_n, e49]
      obtain ⟨τ1, t1, t2⟩ := widen_ok (n := n) (x := -x) hp11 h11 hM
      have f1 : ∀ w, τ1 49 w = σ 49 w := fun w => fr_s_X3_widen rfl _ _ _ _ t1
      rw [t1, bdv_some]
      simp (disch := omega) only [ck_n, ix_n, f1, e49]
      obtain ⟨τ2, u1, u2⟩ := widen_ok (n := n) (x := x) h11 hp11 t2
      have f2 : ∀ w, τ2 49 w = σ 49 w := fun w => (fr_s_X3_widen rfl _ _ _ _ u1).trans (f1 w)
      rw [u1, bdv_some]
      simp (disch := omega) only [ck_n, ix_n, f2, e49, lt_eq]
      obtain ⟨f, rfl⟩ : ∃ f', f = f' + 1 := ⟨f - 1, by omega⟩
      rw [show nI i + 1 = nI (i + 1) from nI_1 i]
      have hA : mup (mup A (p v) v (A (p v) v + -x)) v (p v) (mup A (p v) v (A (p v) v + -x) v (p v) + x) = augs A p x v := by
        unfold augs
        rw [← Int32.sub_eq_add_neg]
      rw [hA] at u2
      have hP2 : cP p S τ2 := fun w hw => ⟨(hP w hw).1, fun hne => ⟨(f2 w).trans ((hP w hw).2 hne).1, ((hP w hw).2 hne).2⟩⟩
      obtain ⟨τ3, w1, w2⟩ := ih (p v) k (i + 1) f _ τ2 u2 hP2 hc2 hS (by omega) (by omega) (by omega)
      refine ⟨τ3, w1, ?_⟩
      unfold aug
      rw [if_neg h10]
      exact w2
/-! the source's row -/
def lst (p : Nat → Nat) : Nat → Nat → Nat
  | 0, v => v
  | k + 1, v => if p v = 10 then v else lst p k (p v)
theorem nar_le (A : Mx) (p : Nat → Nat) : ∀ (f : Nat) (m : Int32) (v : Nat), nar A p f m v ≤ m
  | 0, m, _ => Int32.le_refl m
  | f + 1, m, v => by
    unfold nar
    by_cases h : v = 10
    · rw [if_pos h]; exact Int32.le_refl m
    · rw [if_neg h]
      exact Int32.le_trans (nar_le A p f _ _) (imin_l _ _)
theorem nar_row {A : Mx} {p : Nat → Nat} : ∀ (j f : Nat) (m : Int32) (v : Nat), chok p (j + 1) v → v ≠ 10 → j < f → lst p j v ≠ 10 ∧ p (lst p j v) = 10 ∧ nar A p f m v ≤ A 10 (lst p j v)
  | 0, f, m, v, hc, hv, hf => by
    obtain ⟨f, rfl⟩ : ∃ f', f = f' + 1 := ⟨f - 1, by omega⟩
    have h1 : p v = 10 := hc.elim (fun z => absurd z hv) id
    refine ⟨hv, h1, ?_⟩
    unfold nar lst
    rw [if_neg hv, h1, nar_10]
    exact imin_r _ _
  | j + 1, f, m, v, hc, hv, hf => by
    obtain ⟨f, rfl⟩ : ∃ f', f = f' + 1 := ⟨f - 1, by omega⟩
    have h1 : chok p (j + 1) (p v) := hc.elim (fun z => absurd z hv) id
    unfold lst
    by_cases hp : p v = 10
    · rw [if_pos hp]
      refine ⟨hv, hp, ?_⟩
      unfold nar
      rw [if_neg hv, hp, nar_10]
      exact imin_r _ _
    · rw [if_neg hp]
      have h2 := nar_row (A := A) j f (imin m (A (p v) v)) (p v) h1 hp (by omega)
      refine ⟨h2.1, h2.2.1, ?_⟩
      unfold nar
      rw [if_neg hv]
      exact h2.2.2
theorem nar_pos {A : Mx} {p : Nat → Nat} {S : Nat → Prop} (hS : ∀ w, S w → w ≠ 10 → 0 < A (p w) w ∧ S (p w)) : ∀ (f : Nat) (m : Int32) (v : Nat), S v → 0 < m → 0 < nar A p f m v
  | 0, m, _, _, hm => hm
  | f + 1, m, v, hv, hm => by
    unfold nar
    by_cases h : v = 10
    · rw [if_pos h]; exact hm
    · rw [if_neg h]
      exact nar_pos hS f _ _ (hS v hv h).2 (imin_pos hm (hS v hv h).1)
theorem augs_row {A : Mx} {p : Nat → Nat} {x : Int32} {v : Nat} (hv : v ≠ 10) (c : Nat) : augs A p x v 10 c = if p v = 10 ∧ c = v then A 10 v - x else A 10 c := by
  unfold augs mup
  have h1 : ¬ (10 = v ∧ c = p v) := fun z => hv z.1.symm
  simp only [h1, if_false]
  by_cases h2 : p v = 10 ∧ c = v
  · simp [h2.1, h2.2]
  · have h3 : ¬ (10 = p v ∧ c = v) := fun z => h2 ⟨z.1.symm, z.2⟩
    simp only [h2, h3, if_false]
theorem aug_row {p : Nat → Nat} {x : Int32} : ∀ (j f : Nat) (A : Mx) (v : Nat), chok p (j + 1) v → v ≠ 10 → j < f → ∀ c, aug p x f A v 10 c = if c = lst p j v then A 10 c - x else A 10 c
  | 0, f, A, v, hc, hv, hf, c => by
    obtain ⟨f, rfl⟩ : ∃ f', f = f' + 1 := ⟨f - 1, by omega⟩
    have h1 : p v = 10 := hc.elim (fun z => absurd z hv) id
    unfold aug lst
    rw [if_neg hv, h1, aug_10, augs_row hv]
    by_cases h : c = v
    · subst h; simp [h1]
    · simp [h]
  | j + 1, f, A, v, hc, hv, hf, c => by
    obtain ⟨f, rfl⟩ : ∃ f', f = f' + 1 := ⟨f - 1, by omega⟩
    have h1 : chok p (j + 1) (p v) := hc.elim (fun z => absurd z hv) id
    unfold aug lst
    rw [if_neg hv]
    by_cases hp : p v = 10
    · rw [hp, aug_10, augs_row hv, if_pos rfl]
      by_cases h : c = v
      · subst h; simp [hp]
      · simp [h]
    · rw [if_neg hp, aug_row j f _ (p v) h1 hp (by omega) c]
      have h2 : augs A p x v 10 c = A 10 c := by
        rw [augs_row hv, if_neg (fun z => hp z.1)]
      rw [h2]
