/-! ===== rule: the whole call, both sides ===== -/
def rlO (d : Nat) (L : Lz) : Rl := (d, L.1, L.2.1, L.2.2.1, L.2.2.2.1, L.2.2.2.2.1, L.2.2.2.2.2.1, fun s => decide (s < 8) && L.2.2.2.2.2.2 s)
theorem rev_ind {P : List Cl → Prop} (h0 : P []) (h1 : ∀ cs c, P cs → P (cs ++ [c])) (cs : List Cl) : P cs := by
  have key : ∀ l : List Cl, P l.reverse := by
    intro l
    induction l with
    | nil => exact h0
    | cons c l ih =>
      rw [List.reverse_cons]
      exact h1 _ c ih
  have := key cs.reverse
  rw [List.reverse_reverse] at this
  exact this
theorem lz_i {nr : Nat} : ∀ {cs : List Cl}, (∀ c ∈ cs, cOk nr c) → (∃ k, k ≤ 4 ∧ (lzF cs).2.2.2.2.1 = nI k) ∧ (∀ s, (lzF cs).2.2.2.2.2.2 s = true ↔ ∃ c ∈ cs, c.1 = 4 ∧ c.2.1 = nI s) := by
  intro cs
  induction cs using rev_ind with
  | h0 => intro _; exact ⟨⟨0, by omega, rfl⟩, fun s => ⟨fun z => by (cases z), fun ⟨c, hc, _⟩ => by cases hc⟩⟩
  | h1 cs c ih =>
    intro h
    obtain ⟨i1, i2⟩ := ih (fun q hq => h q (List.mem_append.mpr (.inl hq)))
    obtain ⟨c1, c2, c3, c4⟩ := h c (by simp)
    rw [lzF_s]
    unfold lzA
    have other : c.1 ≠ 4 → ∀ s, ((∃ q ∈ cs, q.1 = 4 ∧ q.2.1 = nI s) ↔ ∃ q ∈ cs ++ [c], q.1 = 4 ∧ q.2.1 = nI s) := fun hne s => by
      constructor
      · rintro ⟨q, q1, q2⟩
        exact ⟨q, List.mem_append.mpr (.inl q1), q2⟩
      · rintro ⟨q, q1, q2⟩
        rcases List.mem_append.mp q1 with q1 | q1
        · exact ⟨q, q1, q2⟩
        · rw [List.mem_singleton.mp q1] at q2
          exact absurd q2.1 hne
    by_cases k0 : c.1 = 0
    · rw [if_pos k0]
      obtain ⟨m, m1, m2, m3⟩ := c2 k0
      exact ⟨⟨m, m2, m3⟩, fun s => (i2 s).trans (other (by omega) s)⟩
    rw [if_neg k0]
    by_cases k1 : c.1 = 1
    · rw [if_pos k1]
      exact ⟨i1, fun s => (i2 s).trans (other (by omega) s)⟩
    rw [if_neg k1]
    by_cases k2 : c.1 = 2
    · rw [if_pos k2]
      exact ⟨i1, fun s => (i2 s).trans (other (by omega) s)⟩
    rw [if_neg k2]
    by_cases k3 : c.1 = 3
    · rw [if_pos k3]
      exact ⟨i1, fun s => (i2 s).trans (other (by omega) s)⟩
    rw [if_neg k3]
    refine ⟨i1, fun s => ?_⟩
    dsimp only
    rw [Bool.or_eq_true, i2 s, decide_eq_true_eq]
    constructor
    · rintro (⟨q, q1, q2⟩ | z)
      · exact ⟨q, List.mem_append.mpr (.inl q1), q2⟩
      · exact ⟨c, by simp, by omega, z⟩
    · rintro ⟨q, q1, q2⟩
      rcases List.mem_append.mp q1 with q1 | q1
      · exact .inl ⟨q, q1, q2⟩
      · rw [List.mem_singleton.mp q1] at q2
        exact .inr q2.2
/-- the clauses one by one say what their sum says -/
theorem lz_foll {nr d : Nat} {cl : Nat → Cl} : ∀ {cs : List Cl}, (∀ c ∈ cs, cOk nr c) → (∀ i c, cs[i]? = some c → (cl i).1 = c.1 ∧ (cl i).2.1 = c.2.1 ∧ (c.1 ≤ 1 → (cl i).2.2 = c.2.2)) → ∀ h, clF cl cs.length h = foll h (rlO d (lzF cs)) := by
  intro cs
  induction cs using rev_ind with
  | h0 =>
    intro _ _ h
    show h = foll h (rlO d lz0)
    unfold foll rlO lz0
    dsimp only
    rw [if_pos rfl, if_pos rfl, if_pos rfl, if_pos rfl, if_pos (Int32.le_refl _), if_pos (Int32.le_refl _)]
  | h1 cs c ih =>
    intro h hcl x
    have hi := ih (fun q hq => h q (List.mem_append.mpr (.inl hq))) (fun i q hq => hcl i q (by
      have hlt := (List.getElem?_eq_some_iff.mp hq).1
      rw [List.getElem?_append_left hlt]; exact hq)) x
    obtain ⟨c1, c2, c3, c4⟩ := h c (by simp)
    obtain ⟨e1, e2, e3⟩ := hcl cs.length c (by rw [List.getElem?_append_right (Nat.le_refl _), Nat.sub_self]; rfl)
    rw [show (cs ++ [c]).length = cs.length + 1 by simp]
    show clA (cl cs.length) (clF cl cs.length x) = _
    rw [hi, lzF_s]
    have nn : ∀ a, a < 1000 → ¬ nI a = (-1 : Int32) := fun a ha => n_ne1 (by omega)
    unfold clA
    rw [e1, e2]
    unfold lzA
    by_cases k0 : c.1 = 0
    · obtain ⟨m, m1, m2, m3⟩ := c2 k0
      have hm : ¬ nI m ≤ 0 := by rw [show (0 : Int32) = nI 0 from rfl, nle (by omega) (by omega)]; omega
      rw [if_pos k0, if_pos k0, e3 (by omega), m3]
      unfold foll rlO
      dsimp only
      rw [if_neg hm, if_neg hm]
    rw [if_neg k0, if_neg k0]
    obtain ⟨a, a1, a2⟩ := c3 (by omega)
    have ha := nn a a1
    rw [a2]
    by_cases k1 : c.1 = 1
    · rw [if_pos k1, if_pos k1, e3 (by omega)]
      unfold foll rlO
      dsimp only
      rw [if_neg ha, if_neg ha]
    rw [if_neg k1, if_neg k1]
    by_cases k2 : c.1 = 2
    · rw [if_pos k2, if_pos k2]
      unfold foll rlO
      dsimp only
      rw [if_neg ha]
    rw [if_neg k2, if_neg k2]
    by_cases k3 : c.1 = 3
    · rw [if_pos k3, if_pos k3]
      unfold foll rlO
      dsimp only
      rw [if_neg ha]
    rw [if_neg k3, if_neg k3]
    rfl
theorem rowR_congr {Rs Rs' : Nat → Rl} : ∀ {k : Nat}, (∀ r, r < k → rDay (Rs' r) = rDay (Rs r)) → rowR Rs' k = rowR Rs k := by
  intro k
  induction k with
  | zero => intro _; rfl
  | succ k ih =>
    intro h
    show insR Rs' k (rowR Rs' k) = insR Rs k (rowR Rs k)
    rw [ih (fun r hr => h r (by omega))]
    have key : ∀ l : List Nat, (∀ v ∈ l, v < k) → insR Rs' k l = insR Rs k l := by
      intro l
      induction l with
      | nil => intro _; rfl
      | cons t rs ihl =>
        intro hl
        show (if rDay (Rs' t) ≤ rDay (Rs' k) then k :: t :: rs else t :: insR Rs' k rs) = (if rDay (Rs t) ≤ rDay (Rs k) then k :: t :: rs else t :: insR Rs k rs)
        rw [h t (by have := hl t (by simp); omega), h k (by omega), ihl (fun v hv => hl v (List.mem_cons_of_mem _ hv))]
    exact key (rowR Rs k) (fun v hv => rowR_lt hv)
theorem enact_go {n nr d : Nat} {Rs : Nat → Rl} {l : List Nat} (hnr : nr < 8) (hd : d < 200) (hdr : rDay (Rs nr) = d) (hll : l.length = nr) (hl : ∀ t ∈ l, t < nr) : ∀ (k f : Nat) (σ : Sg), k ≤ l.length → k < f → σ 27 0 = nI nr → (∀ t, t < nr → rDay (Rs t) < 200 ∧ σ (29 + t) 0 = nI (rDay (Rs t))) → arH l k (σ 37) → (∀ j t, j < l.length - k → l[j]? = some t → ¬ rDay (Rs t) ≤ rDay (Rs nr)) → ∃ τ, s_X6_enact_13 n f (nI d) (nI k) σ = some (nI nr, τ) ∧ ar (insR Rs nr l) (τ 37) ∧ τ 27 0 = nI (nr + 1) ∧ ∀ o j, o ≠ 37 → (o = 27 → j ≠ 0) → τ o j = σ o j := by
  have put : ∀ (k : Nat) (σ : Sg), k ≤ l.length → σ 27 0 = nI nr → arH l k (σ 37) → (∀ j t, j < l.length - k → l[j]? = some t → ¬ rDay (Rs t) ≤ rDay (Rs nr)) → (∀ t, l[l.length - k]? = some t → rDay (Rs t) ≤ rDay (Rs nr)) → ∃ τ, s_X6_enact_57 n (nI k) σ = some (nI nr, τ) ∧ ar (insR Rs nr l) (τ 37) ∧ τ 27 0 = nI (nr + 1) ∧ ∀ o j, o ≠ 37 → (o = 27 → j ≠ 0) → τ o j = σ o j := by
    intro k σ hk h27 hA h1 h2
    unfold s_X6_enact_57
    rw [ck_n (by omega) (by omega), ix_n (by omega), h27, lt_eq, up2_o (show 27 ≠ 37 by decide), h27, lt_eq]
    have kk : ∀ ρ : Sg, up2 ρ 27 0 (nI nr + 1) 27 0 - (1 : Int32) = nI nr := fun ρ => by
      rw [up2_app, if_pos rfl, if_pos rfl, nI_1, show (1 : Int32) = nI 1 from rfl, nsub (by omega)]
      rfl
    rw [kk]
    refine ⟨_, rfl, ?_, by simp [up2_app, nI_1], fun o j p1 p2 => ?_⟩
    · rw [insR_split (l.length - k) l (by omega) h1 h2]
      have e : up2 (up2 σ 37 k (nI nr)) 27 0 (nI nr + 1) 37 = upd (σ 37) k (nI nr) := by
        rw [up2_ne (by decide), up2_at]
      rw [e]
      exact arH_put hk hA
    · by_cases e : o = 27
      · subst e
        rw [up2_app, if_pos rfl, if_neg (p2 rfl), up2_o (by decide)]
      · rw [up2_o e, up2_o p1]
  intro k
  induction k with
  | zero =>
    intro f σ hk hf h27 hR hA h1
    obtain ⟨f, rfl⟩ : ∃ f', f = f' + 1 := ⟨f - 1, by omega⟩
    show ∃ τ, s_X6_enact_13b n _ _ _ _ = _ ∧ _
    unfold s_X6_enact_13b
    rw [if_pos (show nI 0 ≤ 0 from Int32.le_refl _)]
    exact put 0 σ hk h27 hA h1 (fun t ht => by rw [List.getElem?_eq_none (by omega)] at ht; cases ht)
  | succ k ih =>
    intro f σ hk hf h27 hR hA h1
    obtain ⟨f, rfl⟩ : ∃ f', f = f' + 1 := ⟨f - 1, by omega⟩
    obtain ⟨t, t1, t2⟩ := hA k (by omega) (by omega)
    rw [if_pos (by omega)] at t1
    have ht : t < nr := hl t (List.mem_of_getElem? t1)
    obtain ⟨a1, a2⟩ := hR t ht
    show ∃ τ, s_X6_enact_13b n (s_X6_enact_13 n f) _ _ _ = _ ∧ _
    unfold s_X6_enact_13b
    rw [if_neg (by rw [show (0 : Int32) = nI 0 from rfl, nle (by omega) (by omega)]; omega), show nI (k + 1) - 1 = nI k from nI_pred k, ck_n (by omega) (by omega), ix_n (by omega), t2, ck_n (by omega) (by omega), ix_n (by omega), rf28 t (by omega), a2]
    by_cases hdd : rDay (Rs t) ≤ d
    · rw [if_pos (by rw [nle (by omega) (by omega)]; exact hdd)]
      refine put (k + 1) σ hk h27 hA h1 (fun u hu => ?_)
      rw [show l.length - (k + 1) = l.length - 1 - k by omega, t1] at hu
      rw [← Option.some.inj hu, hdr]
      exact hdd
    · rw [if_neg (by rw [nle (by omega) (by omega)]; exact hdd), ck_n (by omega) (by omega), ck_n (by omega) (by omega), ix_n (by omega), lt_eq, show nI (k + 1) + -1 = nI k from pk_m1 k]
      obtain ⟨τ, w1, w2, w3, w4⟩ := ih f (up2 σ 37 (k + 1) (nI t)) (by omega) (by omega) (by rw [up2_o (by decide)]; exact h27) (fun u hu => by rw [up2_o (by omega)]; exact hR u hu) (by
        rw [up2_at, ← t2]
        exact arH_shift hk hA) (fun j u hj hu => by
        by_cases e : j = l.length - 1 - k
        · rw [e, t1] at hu
          rw [← Option.some.inj hu, hdr]
          exact hdd
        · exact h1 j u (by omega) hu)
      exact ⟨τ, w1, w2, w3, fun o j p1 p2 => by rw [w4 o j p1 p2, up2_o p1]⟩
theorem sayN_ok {n lc : Nat} {σ : Sg} : ∃ τ, s_X2_sayNothing n lc σ = some τ ∧ lawS lc lz0 τ ∧ ∀ o j, o ≠ lc → τ o j = σ o j := by
  unfold s_X2_sayNothing s_X2_forgetKeys
  simp only [lt_eq, bdv_so]
  refine ⟨_, rfl, ⟨by simp [up2_app]; rfl, by simp [up2_app]; rfl, by simp [up2_app]; rfl, by simp [up2_app]; rfl, by simp [up2_app]; rfl, by simp [up2_app]; rfl, fun i hi => by rw [up2_app, if_pos rfl, if_pos rfl, b_0]; rfl⟩, fun o j ho => by rw [up2_o ho, up2_o ho, up2_o ho, up2_o ho, up2_o ho, up2_o ho, up2_o ho]⟩
theorem cR_dr {Rs : Nat → Rl} {nr : Nat} {σ τ : Sg} (h : cR Rs nr σ) (f : ∀ o j, (o = 27 ∨ o = 37 ∨ (29 ≤ o ∧ o < 29 + nr)) → τ o j = σ o j) : cR Rs nr τ := by
  obtain ⟨h1, h2, h3, h4⟩ := h
  refine ⟨h1, by rw [f 27 0 (.inl rfl)]; exact h2, fun r hr => ?_, fun i hi => ?_⟩
  · have g : ∀ j, τ (29 + r) j = σ (29 + r) j := fun j => f (29 + r) j (.inr (.inr ⟨by omega, by omega⟩))
    rw [g, g, g, g, g, g, g, g]
    exact h3 r hr
  · obtain ⟨v, v1, v2⟩ := h4 i hi
    exact ⟨v, v1, by rw [f 37 i (.inr (.inl rfl))]; exact v2⟩
theorem mR_dr {Rs : Nat → Rl} {nr : Nat} {cn : Nat → Nat} {cl : Nat → Nat → Cl} {σ τ : Sg} (h : mR Rs nr cn cl σ) (h1 : τ 71 26 = σ 71 26) (h2 : ∀ r, r < nr → τ 93 r = σ 93 r ∧ τ 94 r = σ 94 r) (h3 : ∀ j, j < 8 * nr → τ 95 j = σ 95 j ∧ τ 96 j = σ 96 j ∧ τ 97 j = σ 97 j) : mR Rs nr cn cl τ := by
  obtain ⟨a1, a2, a3⟩ := h
  refine ⟨a1, by rw [h1]; exact a2, fun r hr => ?_⟩
  obtain ⟨b1, b2, b3, b4, b5⟩ := a3 r hr
  refine ⟨b1, by rw [(h2 r hr).1]; exact b2, by rw [(h2 r hr).2]; exact b3, b4, fun i hi => ?_⟩
  have h8 := b4.1
  have q := h3 (8 * r + i) (by omega)
  rw [q.1, q.2.1, q.2.2]
  exact b5 i hi
