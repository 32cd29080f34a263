/-! ===== serving, both sides ===== -/
theorem srv_s1 (nd : Nat → Nat) (ask : Nat → Int32) (l : Nat → Nat) (A : Mx) (i t : Nat) : (srv nd ask l A (i + 1)).1 t = if t = l i then (sndN (nd (l i)) (ask (l i)) (srv nd ask l A i).2).1 else (srv nd ask l A i).1 t := rfl
def lok (ns : Nat) (nd : Nat → Nat) (ask : Nat → Int32) (w : Nat) (l : Nat → Nat) : Prop := ns ≤ 10 ∧ w ≤ ns ∧ (∀ i, i < w → l i < ns) ∧ ∀ t, t < ns → nd t < 10 ∧ 0 ≤ (ask t).toInt ∧ (ask t).toInt ≤ 20000
theorem lok_h {ns : Nat} {nd : Nat → Nat} {ask : Nat → Int32} {w : Nat} {l : Nat → Nat} (h : lok ns nd ask w l) : ∀ i, i < w → nd (l i) < 10 ∧ 0 ≤ (ask (l i)).toInt := fun i hi => ⟨(h.2.2.2 _ (h.2.2.1 i hi)).1, (h.2.2.2 _ (h.2.2.1 i hi)).2.1⟩
/-- the class's line, who asks what, where they are -/
def cL (ns : Nat) (nd : Nat → Nat) (ask : Nat → Int32) (w : Nat) (l : Nat → Nat) (σ : Sg) : Prop := σ 39 9 = nI w ∧ (∀ i, i < w → σ 45 i = nI (l i)) ∧ ∀ t, t < ns → σ 12 t = nI (nd t) ∧ σ 41 t = ask t
def mL (ns : Nat) (nd : Nat → Nat) (ask : Nat → Int32) (w : Nat) (l : Nat → Nat) (σ : Sg) : Prop := σ 71 56 = nI w ∧ (∀ i, i < w → σ 107 i = nI (l i)) ∧ ∀ t, t < ns → σ 81 t = nI (nd t) ∧ σ 104 t = ask t
theorem serve_loop {n ns w : Nat} {nd l : Nat → Nat} {ask : Nat → Int32} {A : Mx} (hn : 11000 ≤ n) (hl : lok ns nd ask w l) (hA : rnn A) (hS : Sv A ≤ 10998) : ∀ (e i k : Nat) (σ : Sg), i + e = w → e < k → cL ns nd ask w l σ → cM (srv nd ask l A i).2 σ → (∀ t, t < ns → σ 42 t = (srv nd ask l A i).1 t) → ∃ τ, s_X9_serve_2 n k (nI i) σ = some τ ∧ cM (srv nd ask l A w).2 τ ∧ ∀ t, t < ns → τ 42 t = (srv nd ask l A w).1 t := by
  have hw := hl.2.1
  have h10 := hl.1
  intro e
  induction e with
  | zero =>
    intro i k σ hi hk hc hM hg
    obtain ⟨k, rfl⟩ : ∃ k', k = k' + 1 := ⟨k - 1, by omega⟩
    have hi : i = w := by omega
    subst hi
    refine ⟨σ, ?_, hM, hg⟩
    show s_X9_serve_2b n _ _ _ = _
    unfold s_X9_serve_2b
    rw [hc.1, if_pos (by rw [nle (by omega) (by omega)]; exact Nat.le_refl _)]
  | succ e ih =>
    intro i k σ hi hk hc hM hg
    obtain ⟨k, rfl⟩ : ∃ k', k = k' + 1 := ⟨k - 1, by omega⟩
    have hil : i < w := by omega
    have hls := hl.2.2.1 i hil
    obtain ⟨g1, g2, g3⟩ := hl.2.2.2 _ hls
    obtain ⟨c1, c2⟩ := hc.2.2 _ hls
    obtain ⟨i1, i2⟩ := srv_ok hA hS (lok_h hl) i (by omega)
    show ∃ τ, s_X9_serve_2b n (s_X9_serve_2 n k) _ _ = _ ∧ _
    unfold s_X9_serve_2b
    rw [hc.1, if_neg (by rw [nle (by omega) (by omega)]; omega), show nI i + 1 = nI (i + 1) from nI_1 i]
    simp (disch := omega) only [ck_n, ix_n, lt_eq, hc.2.1 i hil, c1, c2]
    obtain ⟨τ1, t1, t2⟩ := csend_ok (n := n) (w := ask (l i)) g1 hn hM i1 i2 g3
    rw [t1, bd_some]
    have fr0 : ∀ o, o ≠ 47 → o ≠ 48 → o ≠ 49 → o ≠ 50 → ∀ j, τ1 o j = σ o j := fun o h1 h2 h3 h4 j => fr_s_X3_send (by simp [fok, Ne.symm h1, Ne.symm h2, Ne.symm h3, Ne.symm h4]) _ _ _ t1
    have fr1 : ∀ o, o ≠ 47 → o ≠ 48 → o ≠ 49 → o ≠ 50 → o ≠ 42 → ∀ j, up2 τ1 42 (l i) (sndN (nd (l i)) (ask (l i)) (srv nd ask l A i).2).1 o j = σ o j := fun o h1 h2 h3 h4 h5 j => by
      rw [up2_o h5]
      exact fr0 o h1 h2 h3 h4 j
    refine ih (i + 1) k _ (by omega) (by omega) ?_ (cM_of t2 (funext fun j => up2_o (by decide)) (funext fun j => up2_o (by decide))) (fun t ht => ?_)
    · unfold cL
      simp only [fr1 39 (by decide) (by decide) (by decide) (by decide) (by decide), fr1 45 (by decide) (by decide) (by decide) (by decide) (by decide), fr1 12 (by decide) (by decide) (by decide) (by decide) (by decide), fr1 41 (by decide) (by decide) (by decide) (by decide) (by decide)]
      exact hc
    · rw [srv_s1]
      by_cases h : t = l i
      · rw [if_pos h, h]; simp [up2_app]
      · rw [if_neg h, ← hg t ht, ← fr0 42 (by decide) (by decide) (by decide) (by decide) t]; simp [up2_app, h]
theorem mserve_loop {n ns w : Nat} {nd l : Nat → Nat} {ask : Nat → Int32} {A : Mx} (hn : 11000 ≤ n) (hl : lok ns nd ask w l) (hA : rnn A) (hS : Sv A ≤ 10998) : ∀ (e i k z : Nat) (σ : Sg), i + e = w → e < k → mL ns nd ask w l σ → mM (srv nd ask l A i).2 z 0 σ → (∀ t, t < ns → σ 105 t = (srv nd ask l A i).1 t) → ∃ τ z', s_X12_askStreets_2 n k (nI i) σ = some τ ∧ mM (srv nd ask l A w).2 z' 0 τ ∧ ∀ t, t < ns → τ 105 t = (srv nd ask l A w).1 t := by
  have hw := hl.2.1
  have h10 := hl.1
  intro e
  induction e with
  | zero =>
    intro i k z σ hi hk hc hM hg
    obtain ⟨k, rfl⟩ : ∃ k', k = k' + 1 := ⟨k - 1, by omega⟩
    have hi : i = w := by omega
    subst hi
    refine ⟨σ, z, ?_, hM, hg⟩
    show s_X12_askStreets_2b n _ _ _ = _
    unfold s_X12_askStreets_2b
    rw [hc.1, if_pos (by rw [nle (by omega) (by omega)]; exact Nat.le_refl _)]
  | succ e ih =>
    intro i k z σ hi hk hc hM hg
    obtain ⟨k, rfl⟩ : ∃ k', k = k' + 1 := ⟨k - 1, by omega⟩
    have hil : i < w := by omega
    have hls := hl.2.2.1 i hil
    obtain ⟨g1, g2, g3⟩ := hl.2.2.2 _ hls
    obtain ⟨c1, c2⟩ := hc.2.2 _ hls
    obtain ⟨i1, i2⟩ := srv_ok hA hS (lok_h hl) i (by omega)
    show ∃ τ z', s_X12_askStreets_2b n (s_X12_askStreets_2 n k) _ _ = _ ∧ _
    unfold s_X12_askStreets_2b
    rw [hc.1, if_neg (by rw [nle (by omega) (by omega)]; omega), show nI i + 1 = nI (i + 1) from nI_1 i]
    simp (disch := omega) only [ck_n, ix_n, lt_eq, hc.2.1 i hil, c1, c2]
    obtain ⟨τ1, t1, t2⟩ := mask_ok (n := n) (w := ask (l i)) g1 hn hM i1 i2 g2
    rw [t1, bd_some]
    have fr0 : ∀ o, o ≠ 101 → o ≠ 102 → o ≠ 103 → ∀ j, τ1 o j = σ o j := fun o h1 h2 h3 j => fr_s_X12_ask (by simp [fok, Ne.symm h1, Ne.symm h2, Ne.symm h3]) _ _ _ t1
    have fr1 : ∀ o, o ≠ 101 → o ≠ 102 → o ≠ 103 → o ≠ 105 → ∀ j, up2 τ1 105 (l i) (sndN (nd (l i)) (ask (l i)) (srv nd ask l A i).2).1 o j = σ o j := fun o h1 h2 h3 h5 j => by
      rw [up2_o h5]
      exact fr0 o h1 h2 h3 j
    refine ih (i + 1) k (nd (l i)) _ (by omega) (by omega) ?_ (mM_of t2 (funext fun j => up2_o (by decide))) (fun t ht => ?_)
    · unfold mL
      simp only [fr1 71 (by decide) (by decide) (by decide) (by decide), fr1 107 (by decide) (by decide) (by decide) (by decide), fr1 81 (by decide) (by decide) (by decide) (by decide), fr1 104 (by decide) (by decide) (by decide) (by decide)]
      exact hc
    · rw [srv_s1]
      by_cases h : t = l i
      · rw [if_pos h, h]; simp [up2_app]
      · rw [if_neg h, ← hg t ht, ← fr0 105 (by decide) (by decide) (by decide) t]; simp [up2_app, h]
/-! ===== steps from node 0, round by round ===== -/
/-- the pipe p in round r: the one end is r away and the other is not come to yet -/
def stp (ea eb : Nat → Nat) (cl : Nat → Bool) (r p : Nat) (f : Nat → Int32) : Nat → Int32 :=
  if cl p = true then f else if f (ea p) = nI r ∧ f (eb p) = -1 then fun v => if v = eb p then nI (r + 1) else f v
  else if f (eb p) = nI r ∧ f (ea p) = -1 then fun v => if v = ea p then nI (r + 1) else f v else f
def rnd (ea eb : Nat → Nat) (cl : Nat → Bool) (r : Nat) (f : Nat → Int32) : Nat → Nat → Int32
  | 0 => f
  | p + 1 => stp ea eb cl r p (rnd ea eb cl r f p)
def lvl (np : Nat) (ea eb : Nat → Nat) (cl : Nat → Bool) : Nat → Nat → Int32
  | 0 => fun v => if v = 0 then 0 else -1
  | r + 1 => rnd ea eb cl r (lvl np ea eb cl r) np
/-- how far each node is: 10 rounds -/
abbrev dst (np : Nat) (ea eb : Nat → Nat) (cl : Nat → Bool) : Nat → Int32 := lvl np ea eb cl 10
def fok10 (r : Nat) (f : Nat → Int32) : Prop := ∀ v, f v = -1 ∨ ∃ d, d ≤ r ∧ f v = nI d
theorem stp_ok {ea eb : Nat → Nat} {cl : Nat → Bool} {r p : Nat} {f : Nat → Int32} (h : fok10 (r + 1) f) : fok10 (r + 1) (stp ea eb cl r p f) := by
  unfold stp
  intro v
  by_cases h1 : cl p = true
  · rw [if_pos h1]; exact h v
  · rw [if_neg h1]
    by_cases h2 : f (ea p) = nI r ∧ f (eb p) = -1
    · rw [if_pos h2]
      by_cases h3 : v = eb p
      · rw [if_pos h3]; exact Or.inr ⟨r + 1, Nat.le_refl _, rfl⟩
      · rw [if_neg h3]; exact h v
    · rw [if_neg h2]
      by_cases h4 : f (eb p) = nI r ∧ f (ea p) = -1
      · rw [if_pos h4]
        by_cases h3 : v = ea p
        · rw [if_pos h3]; exact Or.inr ⟨r + 1, Nat.le_refl _, rfl⟩
        · rw [if_neg h3]; exact h v
      · rw [if_neg h4]; exact h v
theorem rnd_ok {ea eb : Nat → Nat} {cl : Nat → Bool} {r : Nat} {f : Nat → Int32} (h : fok10 r f) : ∀ p, fok10 (r + 1) (rnd ea eb cl r f p)
  | 0 => fun v => (h v).elim Or.inl (fun ⟨d, h1, h2⟩ => Or.inr ⟨d, by omega, h2⟩)
  | p + 1 => stp_ok (rnd_ok h p)
theorem lvl_ok (np : Nat) (ea eb : Nat → Nat) (cl : Nat → Bool) : ∀ r, fok10 r (lvl np ea eb cl r)
  | 0 => fun v => by
    unfold lvl
    by_cases h : v = 0
    · rw [if_pos h]; exact Or.inr ⟨0, Nat.le_refl _, rfl⟩
    · rw [if_neg h]; exact Or.inl rfl
  | r + 1 => rnd_ok (lvl_ok np ea eb cl r) np
