/-! ===== which nodes are joined to node 0 ===== -/
/-- a set of nodes that holds 0 and, with one end of an open pipe, the other -/
def clsd (np : Nat) (ea eb : Nat → Nat) (cl : Nat → Bool) (C : Nat → Prop) : Prop := C 0 ∧ ∀ p, p < np → ¬ cl p = true → (C (ea p) ↔ C (eb p))
/-- joined: in every such set -/
def jnd (np : Nat) (ea eb : Nat → Nat) (cl : Nat → Bool) (v : Nat) : Prop := ∀ C : Nat → Prop, clsd np ea eb cl C → C v
theorem stp_in {ea eb : Nat → Nat} {cl : Nat → Bool} {r p np : Nat} {f : Nat → Int32} {C : Nat → Prop} (hp : p < np) (hr : r < 100) (hC : clsd np ea eb cl C) (h : ∀ v, f v ≠ -1 → C v) : ∀ v, stp ea eb cl r p f v ≠ -1 → C v := by
  intro v hv
  have nr : nI r ≠ -1 := n_ne1 (by omega)
  unfold stp at hv
  by_cases h1 : cl p = true
  · rw [if_pos h1] at hv; exact h v hv
  · rw [if_neg h1] at hv
    by_cases h2 : f (ea p) = nI r ∧ f (eb p) = -1
    · rw [if_pos h2] at hv
      by_cases h3 : v = eb p
      · rw [h3]; exact (hC.2 p hp h1).mp (h _ (by rw [h2.1]; exact nr))
      · rw [if_neg h3] at hv; exact h v hv
    · rw [if_neg h2] at hv
      by_cases h4 : f (eb p) = nI r ∧ f (ea p) = -1
      · rw [if_pos h4] at hv
        by_cases h3 : v = ea p
        · rw [h3]; exact (hC.2 p hp h1).mpr (h _ (by rw [h4.1]; exact nr))
        · rw [if_neg h3] at hv; exact h v hv
      · rw [if_neg h4] at hv; exact h v hv
theorem rnd_in {ea eb : Nat → Nat} {cl : Nat → Bool} {r np : Nat} {f : Nat → Int32} {C : Nat → Prop} (hr : r < 100) (hC : clsd np ea eb cl C) (h : ∀ v, f v ≠ -1 → C v) : ∀ p, p ≤ np → ∀ v, rnd ea eb cl r f p v ≠ -1 → C v
  | 0, _ => h
  | p + 1, hp => stp_in (by omega) hr hC (rnd_in hr hC h p (by omega))
theorem lvl_in {np : Nat} {ea eb : Nat → Nat} {cl : Nat → Bool} {C : Nat → Prop} (hC : clsd np ea eb cl C) : ∀ r, r ≤ 100 → ∀ v, lvl np ea eb cl r v ≠ -1 → C v
  | 0, _, v, h => by
    unfold lvl at h
    by_cases h0 : v = 0
    · rw [h0]; exact hC.1
    · rw [if_neg h0] at h; exact absurd rfl h
  | r + 1, hr, v, h => rnd_in (by omega) hC (lvl_in hC r (by omega)) np (Nat.le_refl _) v h
/-- what was come to stays so -/
theorem stp_keep {ea eb : Nat → Nat} {cl : Nat → Bool} {r p : Nat} {f : Nat → Int32} {v : Nat} (h : f v ≠ -1) : stp ea eb cl r p f v = f v := by
  unfold stp
  by_cases h1 : cl p = true
  · rw [if_pos h1]
  · rw [if_neg h1]
    by_cases h2 : f (ea p) = nI r ∧ f (eb p) = -1
    · rw [if_pos h2, if_neg (fun z => h (by rw [z]; exact h2.2))]
    · rw [if_neg h2]
      by_cases h4 : f (eb p) = nI r ∧ f (ea p) = -1
      · rw [if_pos h4, if_neg (fun z => h (by rw [z]; exact h4.2))]
      · rw [if_neg h4]
theorem rnd_keep {ea eb : Nat → Nat} {cl : Nat → Bool} {r : Nat} {f : Nat → Int32} {v : Nat} (h : f v ≠ -1) : ∀ p, rnd ea eb cl r f p v = f v
  | 0 => rfl
  | p + 1 => by
    have ih := rnd_keep (ea := ea) (eb := eb) (cl := cl) (r := r) h p
    show stp ea eb cl r p (rnd ea eb cl r f p) v = f v
    rw [stp_keep (by rw [ih]; exact h), ih]
theorem lvl_keep {np : Nat} {ea eb : Nat → Nat} {cl : Nat → Bool} {r v : Nat} (h : lvl np ea eb cl r v ≠ -1) : ∀ d, lvl np ea eb cl (r + d) v = lvl np ea eb cl r v
  | 0 => rfl
  | d + 1 => by
    have ih := lvl_keep h d
    show rnd ea eb cl (r + d) (lvl np ea eb cl (r + d)) np v = _
    rw [rnd_keep (by rw [ih]; exact h), ih]
/-- in its round a node's neighbours are come to -/
theorem rnd_next {ea eb : Nat → Nat} {cl : Nat → Bool} {r : Nat} {f : Nat → Int32} (hr : r < 100) : ∀ (p q : Nat), q < p → ¬ cl q = true → (f (ea q) = nI r → rnd ea eb cl r f p (eb q) ≠ -1) ∧ (f (eb q) = nI r → rnd ea eb cl r f p (ea q) ≠ -1)
  | 0, q, hq, _ => absurd hq (Nat.not_lt_zero _)
  | p + 1, q, hq, hcl => by
    have nr : nI r ≠ -1 := n_ne1 (by omega)
    have nr1 : nI (r + 1) ≠ -1 := n_ne1 (by omega)
    by_cases e : q = p
    · subst e
      have hs : rnd ea eb cl r f (q + 1) = stp ea eb cl r q (rnd ea eb cl r f q) := rfl
      rw [hs]
      refine ⟨fun ha => ?_, fun ha => ?_⟩
      · have ha' : rnd ea eb cl r f q (ea q) = nI r := by rw [rnd_keep (by rw [ha]; exact nr)]; exact ha
        by_cases hb : rnd ea eb cl r f q (eb q) = -1
        · unfold stp
          rw [if_neg hcl, if_pos ⟨ha', hb⟩, if_pos rfl]
          exact nr1
        · rw [stp_keep hb]; exact hb
      · have ha' : rnd ea eb cl r f q (eb q) = nI r := by rw [rnd_keep (by rw [ha]; exact nr)]; exact ha
        by_cases hb : rnd ea eb cl r f q (ea q) = -1
        · unfold stp
          have hne : ¬ (rnd ea eb cl r f q (ea q) = nI r ∧ rnd ea eb cl r f q (eb q) = -1) := fun z => nr (z.1.symm.trans hb)
          rw [if_neg hcl, if_neg hne, if_pos ⟨ha', hb⟩, if_pos rfl]
          exact nr1
        · rw [stp_keep hb]; exact hb
    · have ih := rnd_next (ea := ea) (eb := eb) (cl := cl) (f := f) hr p q (by omega) hcl
      have hs : rnd ea eb cl r f (p + 1) = stp ea eb cl r p (rnd ea eb cl r f p) := rfl
      rw [hs]
      exact ⟨fun ha => by rw [stp_keep (ih.1 ha)]; exact ih.1 ha, fun ha => by rw [stp_keep (ih.2 ha)]; exact ih.2 ha⟩
/-- a node of level r + 1 has one of level r before it -/
theorem rnd_prev {ea eb : Nat → Nat} {cl : Nat → Bool} {r np : Nat} {f : Nat → Int32} (he : ∀ p, p < np → ea p < 10 ∧ eb p < 10) (hf : fok10 r f) (hr : r < 100) : ∀ p, p ≤ np → ∀ v, rnd ea eb cl r f p v = nI (r + 1) → ∃ u, u < 10 ∧ f u = nI r
  | 0, _, v, h => by
    rcases hf v with h1 | ⟨d, h1, h2⟩
    · have h' : f v = nI (r + 1) := h
      rw [h1] at h'
      exact absurd h'.symm (n_ne1 (by omega))
    · have h' : f v = nI (r + 1) := h
      rw [h2, neq (by omega) (by omega)] at h'
      omega
  | p + 1, hp, v, h => by
    have ih := rnd_prev he hf hr p (by omega)
    have back : ∀ w, rnd ea eb cl r f p w = nI r → f w = nI r := by
      intro w hw
      rcases hf w with h1 | ⟨d, h1, h2⟩
      · -- it was not come to before: then it has r + 1 at most
        rcases rnd_ok (ea := ea) (eb := eb) (cl := cl) hf p w with q | ⟨d, q1, q2⟩
        · rw [hw] at q; exact absurd q (n_ne1 (by omega))
        · -- a new one has r + 1
          have key : ∀ q, q ≤ p → rnd ea eb cl r f q w = -1 ∨ rnd ea eb cl r f q w = nI (r + 1) := by
            intro q
            induction q with
            | zero => intro _; exact Or.inl h1
            | succ q ihq =>
              intro hq
              have hs : rnd ea eb cl r f (q + 1) w = stp ea eb cl r q (rnd ea eb cl r f q) w := rfl
              rw [hs]
              rcases ihq (by omega) with z | z
              · unfold stp
                by_cases h1 : cl q = true
                · rw [if_pos h1]; exact Or.inl z
                · rw [if_neg h1]
                  split
                  · by_cases h3 : w = eb q
                    · rw [if_pos h3]; exact Or.inr rfl
                    · rw [if_neg h3]; exact Or.inl z
                  · split
                    · by_cases h3 : w = ea q
                      · rw [if_pos h3]; exact Or.inr rfl
                      · rw [if_neg h3]; exact Or.inl z
                    · exact Or.inl z
              · rw [stp_keep (by rw [z]; exact n_ne1 (by omega))]; exact Or.inr z
          rcases key p (Nat.le_refl _) with z | z
          · rw [z] at hw; exact absurd hw.symm (n_ne1 (by omega))
          · rw [z, neq (by omega) (by omega)] at hw; omega
      · rw [rnd_keep (by rw [h2]; exact n_ne1 (by omega))] at hw
        exact hw
    have hs : rnd ea eb cl r f (p + 1) v = stp ea eb cl r p (rnd ea eb cl r f p) v := rfl
    rw [hs] at h
    unfold stp at h
    obtain ⟨e1, e2⟩ := he p (by omega)
    by_cases h1 : cl p = true
    · rw [if_pos h1] at h; exact ih v h
    · rw [if_neg h1] at h
      by_cases h2 : rnd ea eb cl r f p (ea p) = nI r ∧ rnd ea eb cl r f p (eb p) = -1
      · exact ⟨ea p, e1, back _ h2.1⟩
      · rw [if_neg h2] at h
        by_cases h4 : rnd ea eb cl r f p (eb p) = nI r ∧ rnd ea eb cl r f p (ea p) = -1
        · exact ⟨eb p, e2, back _ h4.1⟩
        · rw [if_neg h4] at h; exact ih v h
