/-! ===== which nodes are joined to node 0 ===== -/
/-- a set of nodes that holds 0 and, with one end of an open pipe, the other -/
def clsd (np : Nat) (ea eb : Nat → Nat) (cl : Nat → Bool) (C : Nat → Prop) : Prop := C 0 ∧ ∀ p, p < np → ¬ cl p = true → (C (ea p) ↔ C (eb p))
/-- joined: in every such set -/
def jnd (np : Nat) (ea eb : Nat → Nat) (cl : Nat → Bool) (v : Nat) : Prop := ∀ C : Nat → Prop, clsd np ea eb cl C → C v
theorem stp_in {ea eb : Nat → Nat} {cl : Nat → Bool} {r p np : Nat} {f : Nat → Int32} {C : Nat → Prop} (hp : p < np) (hr : r < 100) (hC : clsd np ea eb cl C) (h : ∀ v, f v ≠ -1 → C v) : ∀ v, stp ea eb cl r p f v ≠ -1 → C v := by
  intro v hv
  have nr : nI r ≠ -1 := n_ne1 (by omega)
  unfold stp at hv
  by_cases h1 : cl p = true
  · rw [if_pos h1] at hv; exact h v hv
  · rw [if_neg h1] at hv
    by_cases h2 : f (ea p) = nI r ∧ f (eb p) = -1
    · rw [if_pos h2] at hv
      by_cases h3 : v = eb p
      · rw [h3]; exact (hC.2 p hp h1).mp (h _ (by rw [h2.1]; exact nr))
      · rw [if_neg h3] at hv; exact h v hv
    · rw [if_neg h2] at hv
      by_cases h4 : f (eb p) = nI r ∧ f (ea p) = -1
      · rw [if_pos h4] at hv
        by_cases h3 : v = ea p
        · rw [h3]; exact (hC.2 p hp h1).mpr (h _ (by rw [h4.1]; exact nr))
        · rw [if_neg h3] at hv; exact h v hv
      · rw [if_neg h4] at hv; exact h v hv
theorem rnd_in {ea eb : Nat → Nat} {cl : Nat → Bool} {r np : Nat} {f : Nat → Int32} {C : Nat → Prop} (hr : r < 100) (hC : clsd np ea eb cl C) (h : ∀ v, f v ≠ -1 → C v) : ∀ p, p ≤ np → ∀ v, rnd ea eb cl r f p v ≠ -1 → C v
  | 0, _ => h
  | p + 1, hp => stp_in (by omega) hr hC (rnd_in hr hC h p (by omega))
theorem lvl_in {np : Nat} {ea eb : Nat → Nat} {cl : Nat → Bool} {C : Nat → Prop} (hC : clsd np ea eb cl C) : ∀ r, r ≤ 100 → ∀ v, lvl np ea eb cl r v ≠ -1 → C v
  | 0, _, v, h => by
    unfold lvl at h
    by_cases h0 : v = 0
    · rw [h0]; exact hC.1
    · rw [if_neg h0] at h; exact absurd rfl h
  | r + 1, hr, v, h => rnd_in (by omega) hC (lvl_in hC r (by omega)) np (Nat.le_refl _) v h
/-- what was come to stays so -/
theorem stp_keep {ea eb : Nat → Nat} {cl : Nat → Bool} {r p : Nat} {f : Nat → Int32} {v : Nat} (h : f v ≠ -1) : stp ea eb cl r p f v = f v := by
  unfold stp
  by_cases h1 : cl p = true
  · rw [if_pos h1]
  · rw [if_neg h1]
    by_cases h2 : f (ea p) = nI r ∧ f (eb p) = -1
    · rw [if_pos h2, if_neg (fun z => h (by rw [z]; exact h2.2))]
    · rw [if_neg h2]
      by_cases h4 : f (eb p) = nI r ∧ f (ea p) = -1
      · rw [if_pos h4, if_neg (fun z => h (by rw [z]; exact h4.2))]
      · rw [if_neg h4]
theorem rnd_keep {ea eb : Nat → Nat} {cl : Nat → Bool} {r : Nat} {f : Nat → Int32} {v : Nat} (h : f v ≠ -1) : ∀ p, rnd ea eb cl r f p v = f v
  | 0 => rfl
  | p + 1 => by
    have ih := rnd_keep (ea := ea) (eb := eb) (cl := cl) (r := r) h p
    show stp ea eb cl r p (rnd ea eb cl r f p) v = f v
    rw [stp_keep (by rw [ih]; exact h), ih]
theorem lvl_keep {np : Nat} {ea eb : Nat → Nat} {cl : Nat → Bool} {r v : Nat} (h : lvl np ea eb cl r v ≠ -1) : ∀ d, lvl np ea eb cl (r + d) v = lvl np ea eb cl r v
  | 0 => rfl
  | d + 1 => by
    have ih := lvl_keep h d
    show rnd ea eb cl (r + d) (lvl np ea eb cl (r + d)) np v = _
    rw [rnd_keep (by rw [ih]; exact h), ih]
/-- in its round a node's neighbours are come to -/
theorem rnd_next {ea eb : Nat → Nat} {cl : Nat → Bool} {r : Nat} {f : Nat → Int32} (hr : r < 100) : ∀ (p q : Nat), q < p → ¬ cl q = true → (f (ea q) = nI r → rnd ea eb cl r f p (eb q) ≠ -1) ∧ (f (eb q) = nI r → rnd ea eb cl r f p (ea q) ≠ -1)
  | 0, q, hq, _ => absurd hq (Nat.not_lt_zero _)
  | p + 1, q, hq, hcl => by
    have nr : nI r ≠ -1 := n_ne1 (by omega)
    have nr1 : nI (r + 1) ≠ -1 := n_ne1 (by omega)
    by_cases e : q = p
    · subst e
      have hs : rnd ea eb cl r f (q + 1) = stp ea eb cl r q (rnd ea eb cl r f q) := rfl
      rw [hs]
      refine ⟨fun ha => ?_, fun ha => ?_⟩
      · have ha' : rnd ea eb cl r f q (ea q) = nI r := by rw [rnd_keep (by rw [ha]; exact nr)]; exact ha
        by_cases hb : rnd ea eb cl r f q (eb q) = -1
        · unfold stp
          rw [if_neg hcl, if_pos ⟨ha', hb⟩, if_pos rfl]
          exact nr1
        · rw [stp_keep hb]; exact hb
      · have ha' : rnd ea eb cl r f q (eb q) = nI r := by rw [rnd_keep (by rw [ha]; exact nr)]; exact ha
        by_cases hb : rnd ea eb cl r f q (ea q) = -1
        · unfold stp
          have hne : ¬ (rnd ea eb cl r f q (ea q) = nI r ∧ rnd ea eb cl r f q (eb q) = -1) := fun z => nr (z.1.symm.trans hb)
          rw [if_neg hcl, if_neg hne, if_pos ⟨ha', hb⟩, if_pos rfl]
          exact nr1
        · rw [stp_keep hb]; exact hb
    · have ih := rnd_next (ea := ea) (eb := eb) (cl := cl) (f := f) hr p q (by omega) hcl
      have hs : rnd ea eb cl r f (p + 1) = stp ea eb cl r p (rnd ea eb cl r f p) := rfl
      rw [hs]
      exact ⟨fun ha => by rw [stp_keep (ih.1 ha)]; exact ih.1 ha, fun ha => by rw [stp_keep (ih.2 ha)]; exact ih.2 ha⟩
theorem stp_new {ea eb : Nat → Nat} {cl : Nat → Bool} {r p : Nat} {f : Nat → Int32} {v : Nat} (h : f v = -1) : stp ea eb cl r p f v = -1 ∨ stp ea eb cl r p f v = nI (r + 1) := by
  unfold stp
  by_cases h1 : cl p = true
  · rw [if_pos h1]; exact Or.inl h
  · rw [if_neg h1]
    by_cases h2 : f (ea p) = nI r ∧ f (eb p) = -1
    · rw [if_pos h2]
      by_cases h3 : v = eb p
      · simp only [h3, if_true]; exact Or.inr trivial
      · simp only [h3, if_false]; exact Or.inl h
    · rw [if_neg h2]
      by_cases h4 : f (eb p) = nI r ∧ f (ea p) = -1
      · rw [if_pos h4]
        by_cases h3 : v = ea p
        · simp only [h3, if_true]; exact Or.inr trivial
        · simp only [h3, if_false]; exact Or.inl h
      · rw [if_neg h4]; exact Or.inl h
theorem rnd_new {ea eb : Nat → Nat} {cl : Nat → Bool} {r : Nat} {f : Nat → Int32} {v : Nat} (hr : r < 100) (h : f v = -1) : ∀ p, rnd ea eb cl r f p v = -1 ∨ rnd ea eb cl r f p v = nI (r + 1)
  | 0 => Or.inl h
  | p + 1 => by
    show stp ea eb cl r p (rnd ea eb cl r f p) v = -1 ∨ stp ea eb cl r p (rnd ea eb cl r f p) v = nI (r + 1)
    rcases rnd_new hr h p with z | z
    · exact stp_new z
    · rw [stp_keep (by rw [z]; exact n_ne1 (by omega))]; exact Or.inr z
/-- a node of level r + 1 has one of level r before it -/
theorem rnd_prev {ea eb : Nat → Nat} {cl : Nat → Bool} {r np : Nat} {f : Nat → Int32} (he : ∀ p, p < np → ea p < 10 ∧ eb p < 10) (hf : fok10 r f) (hr : r < 100) : ∀ p, p ≤ np → ∀ v, rnd ea eb cl r f p v = nI (r + 1) → ∃ u, u < 10 ∧ f u = nI r
  | 0, _, v, h => by
    rcases hf v with h1 | ⟨d, h1, h2⟩
    · have h' : f v = nI (r + 1) := h
      rw [h1] at h'
      exact absurd h'.symm (n_ne1 (by omega))
    · have h' : f v = nI (r + 1) := h
      rw [h2, neq (by omega) (by omega)] at h'
      omega
  | p + 1, hp, v, h => by
    have ih := rnd_prev (cl := cl) he hf hr p (by omega)
    have back : ∀ w, rnd ea eb cl r f p w = nI r → f w = nI r := by
      intro w hw
      rcases hf w with h1 | ⟨d, h1, h2⟩
      · -- it was not come to before: then it has r + 1 at most
        rcases rnd_ok (ea := ea) (eb := eb) (cl := cl) hf p w with q | ⟨d, q1, q2⟩
        · rw [hw] at q; exact absurd q (n_ne1 (by omega))
        · have key := rnd_new (ea := ea) (eb := eb) (cl := cl) (v := w) hr h1 p
          rcases key with z | z
          · rw [z] at hw; exact absurd hw.symm (n_ne1 (by omega))
          · rw [z, neq (by omega) (by omega)] at hw; omega
      · rw [rnd_keep (by rw [h2]; exact n_ne1 (by omega))] at hw
        exact hw
    have hs : rnd ea eb cl r f (p + 1) v = stp ea eb cl r p (rnd ea eb cl r f p) v := rfl
    rw [hs] at h
    unfold stp at h
    obtain ⟨e1, e2⟩ := he p (by omega)
    by_cases h1 : cl p = true
    · rw [if_pos h1] at h; exact ih v h
    · rw [if_neg h1] at h
      by_cases h2 : rnd ea eb cl r f p (ea p) = nI r ∧ rnd ea eb cl r f p (eb p) = -1
      · exact ⟨ea p, e1, back _ h2.1⟩
      · rw [if_neg h2] at h
        by_cases h4 : rnd ea eb cl r f p (eb p) = nI r ∧ rnd ea eb cl r f p (ea p) = -1
        · exact ⟨eb p, e2, back _ h4.1⟩
        · rw [if_neg h4] at h; exact ih v h
/-- levels come one behind the other: ten nodes bear levels 0 to 9 at most -/
theorem lvl_chain {np : Nat} {ea eb : Nat → Nat} {cl : Nat → Bool} (he : ∀ p, p < np → ea p < 10 ∧ eb p < 10) : ∀ (r : Nat), r ≤ 50 → (∃ v, v < 10 ∧ lvl np ea eb cl r v = nI r) → ∃ l : List Nat, l.length = r + 1 ∧ l.Nodup ∧ (∀ v ∈ l, v < 10) ∧ ∀ v ∈ l, ∃ d, d ≤ r ∧ lvl np ea eb cl r v = nI d
  | 0, _, ⟨v, hv, h⟩ => ⟨[v], rfl, by simp, fun w hw => by simp at hw; rw [hw]; exact hv, fun w hw => by simp at hw; rw [hw]; exact ⟨0, Nat.le_refl _, h⟩⟩
  | r + 1, hr, ⟨v, hv, h⟩ => by
    obtain ⟨u, u1, u2⟩ := rnd_prev (cl := cl) he (lvl_ok np ea eb cl r) (by omega) np (Nat.le_refl _) v h
    obtain ⟨l, l1, l2, l3, l4⟩ := lvl_chain he r (by omega) ⟨u, u1, u2⟩
    have keep : ∀ w ∈ l, lvl np ea eb cl (r + 1) w = lvl np ea eb cl r w := by
      intro w hw
      obtain ⟨d, d1, d2⟩ := l4 w hw
      exact lvl_keep (by rw [d2]; exact n_ne1 (by omega)) 1
    refine ⟨v :: l, by simp [l1], ?_, ?_, ?_⟩
    · refine List.nodup_cons.mpr ⟨fun hm => ?_, l2⟩
      obtain ⟨d, d1, d2⟩ := l4 v hm
      rw [keep v hm, d2, neq (by omega) (by omega)] at h
      omega
    · intro w hw
      rcases List.mem_cons.mp hw with z | z
      · rw [z]; exact hv
      · exact l3 w z
    · intro w hw
      rcases List.mem_cons.mp hw with z | z
      · rw [z]; exact ⟨r + 1, Nat.le_refl _, h⟩
      · obtain ⟨d, d1, d2⟩ := l4 w z
        exact ⟨d, by omega, by rw [keep w z]; exact d2⟩
theorem lvl_10 {np : Nat} {ea eb : Nat → Nat} {cl : Nat → Bool} (he : ∀ p, p < np → ea p < 10 ∧ eb p < 10) {v : Nat} (hv : v < 10) : ¬ dst np ea eb cl v = nI 10 := by
  intro h
  obtain ⟨l, l1, l2, l3, _⟩ := lvl_chain he 10 (by omega) ⟨v, hv, h⟩
  have := nodup_len 10 l l2 l3
  omega
/-- the level of a node that was come to, and in which round -/
theorem lvl_when {np : Nat} {ea eb : Nat → Nat} {cl : Nat → Bool} {v d : Nat} : ∀ r, r ≤ 50 → d ≤ r → lvl np ea eb cl r v = nI d → lvl np ea eb cl d v = nI d
  | 0, _, hd, h => by
    have : d = 0 := by omega
    rw [this] at h ⊢; exact h
  | r + 1, hr, hd, h => by
    by_cases e : d = r + 1
    · rw [e] at h ⊢; exact h
    · by_cases hq : lvl np ea eb cl r v = -1
      · -- then it has r + 1
        exfalso
        have key := rnd_new (ea := ea) (eb := eb) (cl := cl) (r := r) (f := lvl np ea eb cl r) (v := v) (by omega) hq
        have h' : rnd ea eb cl r (lvl np ea eb cl r) np v = nI d := h
        rcases key np with z | z
        · rw [z] at h'; exact n_ne1 (by omega) h'.symm
        · rw [z, neq (by omega) (by omega)] at h'; omega
      · have h2 := lvl_keep hq 1
        rw [h2] at h
        exact lvl_when r (by omega) (by omega) h
theorem dst_clsd {np : Nat} {ea eb : Nat → Nat} {cl : Nat → Bool} (he : ∀ p, p < np → ea p < 10 ∧ eb p < 10) : clsd np ea eb cl (fun v => dst np ea eb cl v ≠ -1) := by
  have half : ∀ p, p < np → ¬ cl p = true → (dst np ea eb cl (ea p) ≠ -1 → dst np ea eb cl (eb p) ≠ -1) ∧ (dst np ea eb cl (eb p) ≠ -1 → dst np ea eb cl (ea p) ≠ -1) := by
    intro p hp hc
    obtain ⟨e1, e2⟩ := he p hp
    have go : ∀ v, v < 10 → dst np ea eb cl v ≠ -1 → ∃ d, d < 10 ∧ lvl np ea eb cl d v = nI d := by
      intro v hv h
      rcases lvl_ok np ea eb cl 10 v with z | ⟨d, d1, d2⟩
      · exact absurd z h
      · have hne : d ≠ 10 := fun z => lvl_10 he hv (by rw [← z]; exact d2)
        exact ⟨d, by omega, lvl_when 10 (by omega) d1 d2⟩
    refine ⟨fun h => ?_, fun h => ?_⟩
    · obtain ⟨d, d1, d2⟩ := go _ e1 h
      have h1 : lvl np ea eb cl (d + 1) (eb p) ≠ -1 := (rnd_next (by omega) np p hp hc).1 d2
      have h2 := lvl_keep h1 (10 - (d + 1))
      rw [show d + 1 + (10 - (d + 1)) = 10 by omega] at h2
      show lvl np ea eb cl 10 (eb p) ≠ -1
      rw [h2]; exact h1
    · obtain ⟨d, d1, d2⟩ := go _ e2 h
      have h1 : lvl np ea eb cl (d + 1) (ea p) ≠ -1 := (rnd_next (by omega) np p hp hc).2 d2
      have h2 := lvl_keep h1 (10 - (d + 1))
      rw [show d + 1 + (10 - (d + 1)) = 10 by omega] at h2
      show lvl np ea eb cl 10 (ea p) ≠ -1
      rw [h2]; exact h1
  refine ⟨?_, fun p hp hc => ⟨(half p hp hc).1, (half p hp hc).2⟩⟩
  have h0 : lvl np ea eb cl 0 0 ≠ -1 := by
    show (if (0 : Nat) = 0 then (0 : Int32) else -1) ≠ -1
    rw [if_pos rfl]; decide
  have h2 := lvl_keep h0 10
  rw [Nat.zero_add] at h2
  show lvl np ea eb cl 10 0 ≠ -1
  rw [h2]; exact h0
theorem dst_jnd {np : Nat} {ea eb : Nat → Nat} {cl : Nat → Bool} (he : ∀ p, p < np → ea p < 10 ∧ eb p < 10) (v : Nat) : dst np ea eb cl v ≠ -1 ↔ jnd np ea eb cl v :=
  ⟨fun h C hC => lvl_in hC 10 (by omega) v h, fun h => h _ (dst_clsd he)⟩
/-! the reference's rounds -/
def jst (ea eb : Nat → Nat) (cl : Nat → Bool) (p : Nat) (J : Nat → Bool) : Nat → Bool := if cl p = true then J else if J (ea p) = true ∨ J (eb p) = true then fun v => if v = eb p ∨ v = ea p then true else J v else J
def jrd (ea eb : Nat → Nat) (cl : Nat → Bool) (J : Nat → Bool) : Nat → Nat → Bool
  | 0 => J
  | p + 1 => jst ea eb cl p (jrd ea eb cl J p)
def jlv (np : Nat) (ea eb : Nat → Nat) (cl : Nat → Bool) : Nat → Nat → Bool
  | 0 => fun v => decide (v = 0)
  | r + 1 => jrd ea eb cl (jlv np ea eb cl r) np
theorem jst_in {np : Nat} {ea eb : Nat → Nat} {cl : Nat → Bool} {p : Nat} {J : Nat → Bool} {C : Nat → Prop} (hp : p < np) (hC : clsd np ea eb cl C) (h : ∀ v, J v = true → C v) : ∀ v, jst ea eb cl p J v = true → C v := by
  intro v hv
  unfold jst at hv
  by_cases h1 : cl p = true
  · rw [if_pos h1] at hv; exact h v hv
  · rw [if_neg h1] at hv
    by_cases h2 : J (ea p) = true ∨ J (eb p) = true
    · rw [if_pos h2] at hv
      have hab : C (ea p) ∧ C (eb p) := by
        rcases h2 with z | z
        · exact ⟨h _ z, (hC.2 p hp h1).mp (h _ z)⟩
        · exact ⟨(hC.2 p hp h1).mpr (h _ z), h _ z⟩
      by_cases h3 : v = eb p ∨ v = ea p
      · rcases h3 with z | z
        · rw [z]; exact hab.2
        · rw [z]; exact hab.1
      · rw [if_neg h3] at hv; exact h v hv
    · rw [if_neg h2] at hv; exact h v hv
theorem jrd_in {np : Nat} {ea eb : Nat → Nat} {cl : Nat → Bool} {J : Nat → Bool} {C : Nat → Prop} (hC : clsd np ea eb cl C) (h : ∀ v, J v = true → C v) : ∀ p, p ≤ np → ∀ v, jrd ea eb cl J p v = true → C v
  | 0, _ => h
  | p + 1, hp => jst_in (by omega) hC (jrd_in hC h p (by omega))
theorem jlv_in {np : Nat} {ea eb : Nat → Nat} {cl : Nat → Bool} {C : Nat → Prop} (hC : clsd np ea eb cl C) : ∀ r v, jlv np ea eb cl r v = true → C v
  | 0, v, h => by
    have : v = 0 := of_decide_eq_true h
    rw [this]; exact hC.1
  | r + 1, v, h => jrd_in hC (jlv_in hC r) np (Nat.le_refl _) v h
theorem jst_mono {ea eb : Nat → Nat} {cl : Nat → Bool} {p : Nat} {J : Nat → Bool} {v : Nat} (h : J v = true) : jst ea eb cl p J v = true := by
  unfold jst
  by_cases h1 : cl p = true
  · rw [if_pos h1]; exact h
  · rw [if_neg h1]
    by_cases h2 : J (ea p) = true ∨ J (eb p) = true
    · rw [if_pos h2]
      by_cases h3 : v = eb p ∨ v = ea p
      · rw [if_pos h3]
      · rw [if_neg h3]; exact h
    · rw [if_neg h2]; exact h
theorem jrd_mono {ea eb : Nat → Nat} {cl : Nat → Bool} {J : Nat → Bool} {v : Nat} (h : J v = true) : ∀ p, jrd ea eb cl J p v = true
  | 0 => h
  | p + 1 => jst_mono (jrd_mono h p)
theorem jrd_next {ea eb : Nat → Nat} {cl : Nat → Bool} {J : Nat → Bool} : ∀ (p q : Nat), q < p → ¬ cl q = true → (J (ea q) = true ∨ J (eb q) = true) → jrd ea eb cl J p (ea q) = true ∧ jrd ea eb cl J p (eb q) = true
  | 0, q, hq, _, _ => absurd hq (Nat.not_lt_zero _)
  | p + 1, q, hq, hc, h => by
    by_cases e : q = p
    · subst e
      have h2 : jrd ea eb cl J q (ea q) = true ∨ jrd ea eb cl J q (eb q) = true := h.elim (fun z => Or.inl (jrd_mono z q)) (fun z => Or.inr (jrd_mono z q))
      have hs : jrd ea eb cl J (q + 1) = jst ea eb cl q (jrd ea eb cl J q) := rfl
      rw [hs]
      unfold jst
      rw [if_neg hc, if_pos h2, if_pos (Or.inr rfl), if_pos (Or.inl rfl)]
      exact ⟨rfl, rfl⟩
    · have ih := jrd_next (J := J) p q (by omega) hc h
      exact ⟨jst_mono ih.1, jst_mono ih.2⟩
/-- a list of joined nodes that grows until the set is closed -/
theorem jlv_grow {np : Nat} {ea eb : Nat → Nat} {cl : Nat → Bool} (he : ∀ p, p < np → ea p < 10 ∧ eb p < 10) : ∀ r, clsd np ea eb cl (fun v => jlv np ea eb cl r v = true) ∨ ∃ l : List Nat, l.length = r + 1 ∧ l.Nodup ∧ ∀ v ∈ l, v < 10 ∧ jlv np ea eb cl r v = true
  | 0 => Or.inr ⟨[0], rfl, by simp, fun v hv => by simp at hv; rw [hv]; exact ⟨by decide, rfl⟩⟩
  | r + 1 => by
    rcases jlv_grow he r with h | ⟨l, l1, l2, l3⟩
    · left
      have same : ∀ v, jlv np ea eb cl (r + 1) v = true ↔ jlv np ea eb cl r v = true := fun v => ⟨fun z => jrd_in h (fun _ q => q) np (Nat.le_refl _) v z, fun z => jrd_mono z np⟩
      refine ⟨(same 0).mpr h.1, fun p hp hc => ?_⟩
      exact ((same _).trans (h.2 p hp hc)).trans (same _).symm
    · by_cases hcl : clsd np ea eb cl (fun v => jlv np ea eb cl r v = true)
      · left
        have same : ∀ v, jlv np ea eb cl (r + 1) v = true ↔ jlv np ea eb cl r v = true := fun v => ⟨fun z => jrd_in hcl (fun _ q => q) np (Nat.le_refl _) v z, fun z => jrd_mono z np⟩
        refine ⟨(same 0).mpr hcl.1, fun p hp hc => ?_⟩
        exact ((same _).trans (hcl.2 p hp hc)).trans (same _).symm
      · right
        have h0 : ∀ r, jlv np ea eb cl r 0 = true := by
          intro r
          induction r with
          | zero => rfl
          | succ r ih => exact jrd_mono ih np
        -- an open pipe with one end in
        have hex : ∃ u, u < 10 ∧ jlv np ea eb cl r u = false ∧ jlv np ea eb cl (r + 1) u = true := by
          apply Classical.byContradiction
          intro hn
          apply hcl
          refine ⟨h0 r, fun p hp hc => ?_⟩
          obtain ⟨e1, e2⟩ := he p hp
          constructor
          · intro ha
            cases hb : jlv np ea eb cl r (eb p)
            · exact absurd ⟨eb p, e2, hb, (jrd_next np p hp hc (Or.inl ha)).2⟩ hn
            · exact hb
          · intro hb
            cases ha : jlv np ea eb cl r (ea p)
            · exact absurd ⟨ea p, e1, ha, (jrd_next np p hp hc (Or.inr hb)).1⟩ hn
            · exact ha
        obtain ⟨u, u1, u2, u3⟩ := hex
        refine ⟨u :: l, by simp [l1], List.nodup_cons.mpr ⟨fun hm => ?_, l2⟩, fun v hv => ?_⟩
        · have := (l3 u hm).2
          rw [u2] at this
          exact absurd this (by decide)
        · rcases List.mem_cons.mp hv with z | z
          · rw [z]; exact ⟨u1, u3⟩
          · exact ⟨(l3 v z).1, jrd_mono (l3 v z).2 np⟩
theorem jlv_jnd {np : Nat} {ea eb : Nat → Nat} {cl : Nat → Bool} (he : ∀ p, p < np → ea p < 10 ∧ eb p < 10) (v : Nat) : jlv np ea eb cl 10 v = true ↔ jnd np ea eb cl v := by
  refine ⟨fun h C hC => jlv_in hC 10 v h, fun h => h (fun v => jlv np ea eb cl 10 v = true) ?_⟩
  rcases jlv_grow he 10 with z | ⟨l, l1, l2, l3⟩
  · exact z
  · have := nodup_len 10 l l2 (fun v hv => (l3 v hv).1)
    omega
/-- both find the same nodes -/
theorem dst_jlv {np : Nat} {ea eb : Nat → Nat} {cl : Nat → Bool} (he : ∀ p, p < np → ea p < 10 ∧ eb p < 10) (v : Nat) : (dst np ea eb cl v = -1) ↔ jlv np ea eb cl 10 v = false := by
  have h1 := dst_jnd he (cl := cl) v
  have h2 := jlv_jnd he (cl := cl) v
  constructor
  · intro h
    cases hj : jlv np ea eb cl 10 v
    · rfl
    · exact absurd h (h1.mpr (h2.mp hj))
  · intro h
    apply Classical.byContradiction
    intro hn
    have := h2.mpr (h1.mp hn)
    rw [h] at this
    exact absurd this (by decide)
