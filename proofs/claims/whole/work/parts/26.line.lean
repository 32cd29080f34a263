/-! ===== who asks, and the line ===== -/
/-- rules as an hour needs them: keys, how many, hours from and to -/
abbrev Lw : Type := Int32 × Nat × Int32 × Int32
/-- streets: how many, nodes, need, waste, size of the cistern -/
abbrev Str : Type := Nat × (Nat → Nat) × (Nat → Int32) × (Nat → Int32) × (Nat → Int32)
abbrev sN (S : Str) : Nat := S.1
abbrev sD (S : Str) : Nat → Nat := S.2.1
abbrev sQ (S : Str) : Nat → Int32 := S.2.2.1
abbrev sW (S : Str) : Nat → Int32 := S.2.2.2.1
abbrev sZ (S : Str) : Nat → Int32 := S.2.2.2.2
def sok (S : Str) : Prop := sN S ≤ 10 ∧ ∀ s, s < sN S → sD S s < 10 ∧ 0 ≤ (sQ S s).toInt ∧ (sQ S s).toInt ≤ 891 ∧ 0 ≤ (sW S s).toInt ∧ (sW S s).toInt ≤ 99 ∧ 0 ≤ (sZ S s).toInt ∧ (sZ S s).toInt ≤ 999
/-- kinds and cisterns -/
abbrev Knd : Type := (Nat → Bool) × (Nat → Int32)
def kok (S : Str) (K : Knd) : Prop := ∀ s, s < sN S → 0 ≤ (K.2 s).toInt ∧ (K.2 s).toInt ≤ (sZ S s).toInt
def cS (S : Str) (σ : Sg) : Prop := σ 11 0 = nI (sN S) ∧ ∀ s, s < sN S → σ 12 s = nI (sD S s) ∧ σ 14 s = sQ S s ∧ σ 15 s = sW S s ∧ σ 16 s = sZ S s
def mS' (S : Str) (σ : Sg) : Prop := σ 71 11 = nI (sN S) ∧ ∀ s, s < sN S → σ 81 s = nI (sD S s) ∧ σ 82 s * σ 83 s = sQ S s ∧ σ 84 s = sW S s ∧ σ 85 s = sZ S s
def zo (b : Bool) : Int32 := if b = true then 1 else 0
def cK (S : Str) (K : Knd) (st : Nat) (σ : Sg) : Prop := ∀ s, s < sN S → σ (rf st 0) s = zo (K.1 s) ∧ σ (rf st 1) s = K.2 s
def mK (S : Str) (K : Knd) (σ : Sg) : Prop := ∀ s, s < sN S → σ 86 s = zo (K.1 s) ∧ σ 88 s = K.2 s
def cW (L : Lw) (lc : Nat) (σ : Sg) : Prop := σ lc 7 = L.1 ∧ σ lc 6 = nI L.2.1 ∧ σ lc 2 = L.2.2.1 ∧ σ lc 3 = L.2.2.2
def mW (L : Lw) (σ : Sg) : Prop := σ 71 41 = L.1 ∧ σ 71 42 = nI L.2.1 ∧ σ 71 43 = L.2.2.1 ∧ σ 71 44 = L.2.2.2
def won (L : Lw) (K : Knd) (h : Int32) (s : Nat) : Bool := K.1 s || (decide (L.2.2.1 ≤ h) && decide (h ≤ L.2.2.2))
def askF (L : Lw) (S : Str) (K : Knd) (h : Int32) (s : Nat) : Int32 := if won L K h s = true then (sQ S s + sW S s) + (if K.1 s = true then 0 else sZ S s - K.2 s) else 0
def kyF (L : Lw) (k : Nat) : Int32 := (sr L.1 (2 * nI k)) &&& 3
theorem ky_cases (L : Lw) (k : Nat) : kyF L k = 0 ∨ kyF L k = 1 ∨ kyF L k = 2 ∨ kyF L k = 3 := by
  unfold kyF
  obtain ⟨j, hj, e⟩ := pk_andE (sr L.1 (2 * nI k)) (m := 3) 2 (by decide)
  rw [e]
  have : j = 0 ∨ j = 1 ∨ j = 2 ∨ j = 3 := by omega
  rcases this with rfl | rfl | rfl | rfl
  · exact Or.inl rfl
  · exact Or.inr (Or.inl rfl)
  · exact Or.inr (Or.inr (Or.inl rfl))
  · exact Or.inr (Or.inr (Or.inr rfl))
def rkF (N : Net) (S : Str) (K : Knd) (ask : Nat → Int32) (key : Int32) (s : Nat) : Int32 := if key = 0 then (if K.1 s = true then 0 else 1) else if key = 1 then (if K.1 s = true then 1 else 0) else if key = 2 then ask s else -(dstN N (sD S s))
/-- is s ahead of t by the keys from k on (e of them) -/
def ahd (rk : Int32 → Nat → Int32) (ky : Nat → Int32) (s t : Nat) : Nat → Nat → Bool
  | 0, _ => false
  | e + 1, k => if rk (ky k) s - rk (ky k) t = 0 then ahd rk ky s t e (k + 1) else decide (¬ 0 ≤ rk (ky k) s - rk (ky k) t)
theorem ahd_s (rk : Int32 → Nat → Int32) (ky : Nat → Int32) (s t e k : Nat) : ahd rk ky s t (e + 1) k = if rk (ky k) s - rk (ky k) t = 0 then ahd rk ky s t e (k + 1) else decide (¬ 0 ≤ rk (ky k) s - rk (ky k) t) := rfl
def updN (l : Nat → Nat) (i v : Nat) : Nat → Nat := fun j => if j = i then v else l j
def insf (ah : Nat → Bool) (s : Nat) : Nat → (Nat → Nat) → Nat → Nat
  | 0, l => updN l 0 s
  | k + 1, l => if ah (l k) = true then insf ah s k (updN l (k + 1) (l k)) else updN l (k + 1) s
theorem insf_s (ah : Nat → Bool) (s k : Nat) (l : Nat → Nat) : insf ah s (k + 1) l = if ah (l k) = true then insf ah s k (updN l (k + 1) (l k)) else updN l (k + 1) s := rfl
theorem insf_bd {ah : Nat → Bool} {s B : Nat} (hs : s < B) : ∀ (k w : Nat) (l : Nat → Nat), k ≤ w → (∀ i, i ≤ w → i ≠ k → l i < B) → ∀ i, i ≤ w → insf ah s k l i < B
  | 0, w, l, _, h, i, hi => by
    show updN l 0 s i < B
    unfold updN
    by_cases e : i = 0
    · rw [if_pos e]; exact hs
    · rw [if_neg e]; exact h i hi e
  | k + 1, w, l, hk, h, i, hi => by
    rw [insf_s]
    by_cases ha : ah (l k) = true
    · rw [if_pos ha]
      refine insf_bd hs k w _ (by omega) (fun j hj hne => ?_) i hi
      unfold updN
      by_cases e : j = k + 1
      · rw [if_pos e]; exact h k (by omega) (by omega)
      · rw [if_neg e]; exact h j hj e
    · rw [if_neg ha]
      unfold updN
      by_cases e : i = k + 1
      · rw [if_pos e]; exact hs
      · rw [if_neg e]; exact h i hi e
def ahF (N : Net) (L : Lw) (S : Str) (K : Knd) (h : Int32) (s t : Nat) : Bool := ahd (rkF N S K (askF L S K h)) (kyF L) s t L.2.1 0
/-- the line behind s streets: how many, who -/
def lnS (N : Net) (L : Lw) (S : Str) (K : Knd) (h : Int32) : Nat → Nat × (Nat → Nat)
  | 0 => (0, fun _ => 0)
  | s + 1 => if won L K h s = true then ((lnS N L S K h s).1 + 1, insf (ahF N L S K h s) s (lnS N L S K h s).1 (lnS N L S K h s).2) else lnS N L S K h s
theorem lnS_s (N : Net) (L : Lw) (S : Str) (K : Knd) (h : Int32) (s : Nat) : lnS N L S K h (s + 1) = if won L K h s = true then ((lnS N L S K h s).1 + 1, insf (ahF N L S K h s) s (lnS N L S K h s).1 (lnS N L S K h s).2) else lnS N L S K h s := rfl
theorem lnS_ok (N : Net) (L : Lw) (S : Str) (K : Knd) (h : Int32) : ∀ s, (lnS N L S K h s).1 ≤ s ∧ ∀ i, i < (lnS N L S K h s).1 → (lnS N L S K h s).2 i < s
  | 0 => ⟨Nat.le_refl _, fun i hi => absurd hi (Nat.not_lt_zero _)⟩
  | s + 1 => by
    have ih := lnS_ok N L S K h s
    rw [lnS_s]
    by_cases ho : won L K h s = true
    · rw [if_pos ho]
      refine ⟨Nat.succ_le_succ ih.1, fun i hi => ?_⟩
      exact insf_bd (Nat.lt_succ_self s) _ (lnS N L S K h s).1 _ (Nat.le_refl _) (fun j hj hne => Nat.lt_succ_of_lt (ih.2 j (by omega))) i (Nat.le_of_lt_succ hi)
    · rw [if_neg ho]
      exact ⟨Nat.le_succ_of_le ih.1, fun i hi => Nat.lt_succ_of_lt (ih.2 i hi)⟩
/-! the class -/
theorem zo1 (b : Bool) : (zo b = 1) = (b = true) := by cases b <;> simp [zo]
theorem zo0 (b : Bool) : (zo b = 0) = (b = false) := by cases b <;> simp [zo]
theorem rank_ok {n s st : Nat} {N : Net} {S : Str} {K : Knd} {ask : Nat → Int32} {key : Int32} {σ : Sg} (hS : sok S) (hs : s < sN S) (hc : cS S σ) (hk : cK S K st σ) (hask : σ 41 s = ask s) (hfar : key = 0 ∨ key = 1 ∨ key = 2 ∨ cF (dstN N) σ) : s_X9_rank n (nI s) key st σ = some (rkF N S K ask key s, σ) := by
  have h10 := hS.1
  obtain ⟨d1, _⟩ := hS.2 s hs
  obtain ⟨c1, _⟩ := hc.2 s hs
  obtain ⟨k1, _⟩ := hk s hs
  unfold s_X9_rank rkF
  simp (disch := omega) only [ck_n, ix_n, k1, hask, c1, zo1, zo0]
  by_cases h0 : key = 0
  · rw [if_pos h0, if_pos h0]
    cases K.1 s <;> rfl
  · rw [if_neg h0, if_neg h0]
    by_cases h1 : key = 1
    · rw [if_pos h1, if_pos h1]
      cases K.1 s <;> rfl
    · rw [if_neg h1, if_neg h1]
      by_cases h2 : key = 2
      · rw [if_pos h2, if_pos h2]
      · rw [if_neg h2, if_neg h2]
        have hF : cF (dstN N) σ := by
          rcases hfar with h | h | h | h
          · exact absurd h h0
          · exact absurd h h1
          · exact absurd h h2
          · exact h
        rw [lt_eq, hF _ d1]
        by_cases h3 : dstN N (sD S s) = -1
        · rw [if_pos h3, h3]; rfl
        · rw [if_neg h3]
theorem ahead_loop {n s t st lc : Nat} {N : Net} {L : Lw} {S : Str} {K : Knd} {ask : Nat → Int32} {σ : Sg} (hS : sok S) (hs : s < sN S) (ht : t < sN S) (hkm : L.2.1 ≤ 4) (hc : cS S σ) (hk : cK S K st σ) (hw : cW L lc σ) (has : σ 41 s = ask s) (hat : σ 41 t = ask t) (hfar : (∃ k, k < L.2.1 ∧ kyF L k = 3) → cF (dstN N) σ) : ∀ (e k f : Nat), k + e = L.2.1 → e < f → s_X9_isAhead_3 n f (nI s) (nI t) st lc (nI k) σ = some (zo (ahd (rkF N S K ask) (kyF L) s t e k), σ) := by
  intro e
  induction e with
  | zero =>
    intro k f hke hf
    obtain ⟨f, rfl⟩ : ∃ f', f = f' + 1 := ⟨f - 1, by omega⟩
    show s_X9_isAhead_3b n _ _ _ _ _ _ _ = _
    unfold s_X9_isAhead_3b
    rw [hw.2.1, if_pos (by rw [nle (by omega) (by omega)]; omega)]
    rfl
  | succ e ih =>
    intro k f hke hf
    obtain ⟨f, rfl⟩ : ∃ f', f = f' + 1 := ⟨f - 1, by omega⟩
    show s_X9_isAhead_3b n (s_X9_isAhead_3 n f) _ _ _ _ _ _ = _
    unfold s_X9_isAhead_3b
    rw [hw.2.1, if_neg (by rw [nle (by omega) (by omega)]; omega)]
    have hkey : s_X2_key n lc (nI k) σ = some (kyF L k, σ) := by unfold s_X2_key kyF; rw [hw.1]
    have hf2 : kyF L k = 0 ∨ kyF L k = 1 ∨ kyF L k = 2 ∨ cF (dstN N) σ := by
      rcases ky_cases L k with h | h | h | h
      · exact Or.inl h
      · exact Or.inr (Or.inl h)
      · exact Or.inr (Or.inr (Or.inl h))
      · exact Or.inr (Or.inr (Or.inr (hfar ⟨k, by omega, h⟩)))
    rw [hkey, bd_some, rank_ok hS hs hc hk has hf2, bd_some, rank_ok hS ht hc hk hat hf2, bd_some, lt_eq, ahd_s]
    by_cases h0 : rkF N S K ask (kyF L k) s - rkF N S K ask (kyF L k) t = 0
    · rw [if_pos h0, if_pos h0, show nI k + 1 = nI (k + 1) from nI_1 k]
      exact ih (k + 1) f (by omega) (by omega)
    · rw [if_neg h0, if_neg h0]
      by_cases h1 : 0 ≤ rkF N S K ask (kyF L k) s - rkF N S K ask (kyF L k) t
      · rw [if_pos h1]; simp [h1, zo]
      · rw [if_neg h1]; simp [h1, zo]
theorem queue_loop {n s st lc w : Nat} {ah : Nat → Bool} {σ0 : Sg} (hs : s < 10) (hw : w < 10) (hah : ∀ (t : Nat) (σ : Sg), t < s → (∀ o j, o ≠ 45 → σ o j = σ0 o j) → s_X9_isAhead n (nI s) (nI t) st lc σ = some (zo (ah t), σ)) (hw9 : σ0 39 9 = nI w) : ∀ (k f : Nat) (l : Nat → Nat) (σ : Sg), k ≤ w → k < f → (∀ o j, o ≠ 45 → σ o j = σ0 o j) → (∀ i, i ≤ w → i ≠ k → σ 45 i = nI (l i) ∧ l i < s) →
    ∃ τ, s_X9_queueUp_6 n f (nI s) st lc (nI k) σ = some τ ∧ (∀ i, i ≤ w → τ 45 i = nI (insf ah s k l i)) ∧ τ 39 9 = nI (w + 1) := by
  have put : ∀ (k : Nat) (l : Nat → Nat) (σ : Sg), k ≤ w → (∀ o j, o ≠ 45 → σ o j = σ0 o j) → (∀ i, i ≤ w → i ≠ k → σ 45 i = nI (l i) ∧ l i < s) → ∃ τ, s_X9_queueUp_52 n (nI s) (nI k) σ = some τ ∧ (∀ i, i ≤ w → τ 45 i = nI (updN l k s i)) ∧ τ 39 9 = nI (w + 1) := by
    intro k l σ hk hfr hl
    unfold s_X9_queueUp_52
    simp (disch := omega) only [ck_n, ix_n, lt_eq]
    refine ⟨_, rfl, fun i hi => ?_, ?_⟩
    · unfold updN
      by_cases e : i = k
      · subst e; simp [up2_app]
      · have := (hl i hi e).1
        simp [up2_app, e, this]
    · have h39 : up2 σ 45 k (nI s) 39 9 = nI w := by rw [up2_o (by decide), hfr 39 9 (by decide)]; exact hw9
      rw [h39, show nI w + 1 = nI (w + 1) from nI_1 w]
      simp [up2_app]
  intro k
  induction k with
  | zero =>
    intro f l σ hk hf hfr hl
    obtain ⟨f, rfl⟩ : ∃ f', f = f' + 1 := ⟨f - 1, by omega⟩
    show ∃ τ, s_X9_queueUp_6b n _ _ _ _ _ _ = _ ∧ _
    unfold s_X9_queueUp_6b
    rw [if_pos (show nI 0 ≤ 0 from Int32.le_refl _)]
    exact put 0 l σ hk hfr hl
  | succ k ih =>
    intro f l σ hk hf hfr hl
    obtain ⟨f, rfl⟩ : ∃ f', f = f' + 1 := ⟨f - 1, by omega⟩
    have hlk := hl k (by omega) (by omega)
    show ∃ τ, s_X9_queueUp_6b n (s_X9_queueUp_6 n f) _ _ _ _ _ = _ ∧ _
    unfold s_X9_queueUp_6b
    rw [if_neg (by rw [show (0 : Int32) = nI 0 from rfl, nle (by omega) (by omega)]; omega), show nI (k + 1) - 1 = nI k from nI_pred k]
    simp (disch := omega) only [ck_n, ix_n, hlk.1]
    rw [hah (l k) σ hlk.2 hfr, bd_some, insf_s]
    by_cases ha : ah (l k) = true
    · rw [if_pos ha, if_neg (by rw [ha]; decide)]
      simp (disch := omega) only [ck_n, ix_n, hlk.1, lt_eq]
      rw [show nI (k + 1) + -1 = nI k from pk_m1 k]
      refine ih f (updN l (k + 1) (l k)) _ (by omega) (by omega) (fun o j ho => by rw [up2_o ho]; exact hfr o j ho) (fun i hi hne => ?_)
      unfold updN
      by_cases e : i = k + 1
      · subst e; simp [up2_app, hlk.2]
      · have := hl i hi e
        simp [up2_app, e, this]
    · rw [if_neg ha, if_pos (by cases h : ah (l k); rfl; exact absurd h ha)]
      exact put (k + 1) l σ hk hfr hl
