/-! ===== rows in arrays (the last one first in the list) ===== -/
def ar (l : List Nat) (f : Nat → Int32) : Prop := ∀ i, i < l.length → ∃ v, l[l.length - 1 - i]? = some v ∧ f i = nI v
def arH (l : List Nat) (k : Nat) (f : Nat → Int32) : Prop := ∀ i, i ≤ l.length → i ≠ k → ∃ v, l[if i < k then l.length - 1 - i else l.length - i]? = some v ∧ f i = nI v
theorem arH_0 {l : List Nat} {f : Nat → Int32} (h : ar l f) : arH l l.length f := by
  intro i hi hne
  have h1 : i < l.length := by omega
  rw [if_pos h1]
  exact h i h1
theorem arH_shift {l : List Nat} {k : Nat} {f : Nat → Int32} (hk : k + 1 ≤ l.length) (h : arH l (k + 1) f) : arH l k (upd f (k + 1) (f k)) := by
  intro i hi hne
  unfold upd
  by_cases e : i = k + 1
  · rw [if_pos e]
    obtain ⟨v, v1, v2⟩ := h k (by omega) (by omega)
    rw [if_pos (by omega)] at v1
    refine ⟨v, ?_, v2⟩
    rw [if_neg (by omega), show l.length - i = l.length - 1 - k by omega]
    exact v1
  · rw [if_neg e]
    obtain ⟨v, v1, v2⟩ := h i hi e
    refine ⟨v, ?_, v2⟩
    by_cases h1 : i < k
    · rw [if_pos h1]; rw [if_pos (by omega)] at v1; exact v1
    · rw [if_neg h1]; rw [if_neg (by omega)] at v1; exact v1
theorem arH_put {l : List Nat} {k k0 : Nat} {f : Nat → Int32} (hk : k ≤ l.length) (h : arH l k f) : ar (l.take (l.length - k) ++ k0 :: l.drop (l.length - k)) (upd f k (nI k0)) := by
  have hlen : (l.take (l.length - k) ++ k0 :: l.drop (l.length - k)).length = l.length + 1 := by simp; omega
  intro i hi
  rw [hlen] at hi ⊢
  have ht : (l.take (l.length - k)).length = l.length - k := by simp
  unfold upd
  by_cases e : i = k
  · subst e
    rw [if_pos rfl]
    refine ⟨k0, ?_, rfl⟩
    rw [List.getElem?_append_right (by rw [ht]; omega), ht, show l.length + 1 - 1 - i - (l.length - i) = 0 by omega]
    rfl
  · rw [if_neg e]
    obtain ⟨v, v1, v2⟩ := h i (by omega) e
    refine ⟨v, ?_, v2⟩
    by_cases h1 : i < k
    · rw [if_pos h1] at v1
      rw [List.getElem?_append_right (by rw [ht]; omega), ht, show l.length + 1 - 1 - i - (l.length - k) = (k - i - 1) + 1 by omega, List.getElem?_cons_succ, List.getElem?_drop, show l.length - k + (k - i - 1) = l.length - 1 - i by omega]
      exact v1
    · rw [if_neg h1] at v1
      rw [List.getElem?_append_left (by rw [ht]; omega), List.getElem?_take, if_pos (by omega), show l.length + 1 - 1 - i = l.length - i by omega]
      exact v1
theorem insR_split {Rs : Nat → Rl} {k0 : Nat} : ∀ (m : Nat) (l : List Nat), m ≤ l.length → (∀ j t, j < m → l[j]? = some t → ¬ rDay (Rs t) ≤ rDay (Rs k0)) → (∀ t, l[m]? = some t → rDay (Rs t) ≤ rDay (Rs k0)) → insR Rs k0 l = l.take m ++ k0 :: l.drop m
  | 0, l, _, _, h2 => by
    cases l with
    | nil => rfl
    | cons t rs =>
      unfold insR
      rw [if_pos (h2 t rfl)]
      rfl
  | m + 1, l, hm, h1, h2 => by
    cases l with
    | nil => simp at hm
    | cons t rs =>
      unfold insR
      rw [if_neg (h1 0 t (by omega) rfl), insR_split m rs (by simpa using hm) (fun j u hj hu => h1 (j + 1) u (by omega) (by simpa using hu)) (fun u hu => h2 u (by simpa using hu))]
      rfl
/-! ===== only those that count ===== -/
def srtd (Rs : Nat → Rl) : List Nat → Prop
  | [] => True
  | t :: rs => (∀ u ∈ rs, rDay (Rs u) ≤ rDay (Rs t)) ∧ srtd Rs rs
theorem insR_srtd {Rs : Nat → Rl} {k : Nat} : ∀ {l : List Nat}, srtd Rs l → srtd Rs (insR Rs k l)
  | [], _ => ⟨fun u hu => by simp at hu, trivial⟩
  | t :: rs, h => by
    unfold insR
    by_cases hd : rDay (Rs t) ≤ rDay (Rs k)
    · rw [if_pos hd]
      refine ⟨fun u hu => ?_, h⟩
      rcases List.mem_cons.mp hu with z | z
      · rw [z]; exact hd
      · have := h.1 u z; omega
    · rw [if_neg hd]
      refine ⟨fun u hu => ?_, insR_srtd h.2⟩
      rcases insR_mem hu with z | z
      · rw [z]; omega
      · exact h.1 u z
theorem rowR_srtd (Rs : Nat → Rl) : ∀ k, srtd Rs (rowR Rs k)
  | 0 => trivial
  | k + 1 => insR_srtd (rowR_srtd Rs k)
theorem srtd_filter {Rs : Nat → Rl} {on : Nat → Bool} : ∀ {l : List Nat}, srtd Rs l → srtd Rs (l.filter on)
  | [], _ => trivial
  | t :: rs, h => by
    cases ho : on t
    · rw [List.filter_cons_of_neg (by rw [ho]; decide)]
      exact srtd_filter h.2
    · rw [List.filter_cons_of_pos ho]
      exact ⟨fun u hu => h.1 u ((List.mem_filter.mp hu).1), srtd_filter h.2⟩
theorem insR_front {Rs : Nat → Rl} {k : Nat} {l : List Nat} (h : ∀ u ∈ l, rDay (Rs u) ≤ rDay (Rs k)) : insR Rs k l = k :: l := by
  cases l with
  | nil => rfl
  | cons t rs =>
    unfold insR
    rw [if_pos (h t List.mem_cons_self)]
theorem filter_insR {Rs : Nat → Rl} {on : Nat → Bool} {k : Nat} : ∀ {l : List Nat}, srtd Rs l → (insR Rs k l).filter on = if on k = true then insR Rs k (l.filter on) else l.filter on
  | [], _ => by
    show [k].filter on = _
    cases ho : on k <;> simp [List.filter, ho, insR]
  | t :: rs, h => by
    rw [show insR Rs k (t :: rs) = if rDay (Rs t) ≤ rDay (Rs k) then k :: t :: rs else t :: insR Rs k rs from rfl]
    by_cases hd : rDay (Rs t) ≤ rDay (Rs k)
    · rw [if_pos hd]
      have hall : ∀ u ∈ (t :: rs).filter on, rDay (Rs u) ≤ rDay (Rs k) := by
        intro u hu
        have hu2 := (List.mem_filter.mp hu).1
        rcases List.mem_cons.mp hu2 with z | z
        · rw [z]; exact hd
        · have := h.1 u z; omega
      cases ho : on k
      · rw [List.filter_cons_of_neg (by rw [ho]; decide), if_neg (by decide)]
      · rw [List.filter_cons_of_pos ho, if_pos rfl, insR_front hall]
    · rw [if_neg hd]
      cases hot : on t
      · rw [List.filter_cons_of_neg (by rw [hot]; decide), List.filter_cons_of_neg (by rw [hot]; decide)]
        exact filter_insR h.2
      · rw [List.filter_cons_of_pos hot, List.filter_cons_of_pos hot, filter_insR h.2]
        cases ho : on k
        · rw [if_neg (by decide), if_neg (by decide)]
        · rw [if_pos rfl, if_pos rfl]
          rw [show insR Rs k (t :: rs.filter on) = if rDay (Rs t) ≤ rDay (Rs k) then k :: t :: rs.filter on else t :: insR Rs k (rs.filter on) from rfl, if_neg hd]
/-! ===== clauses ===== -/
abbrev Cl : Type := Nat × Int32 × Int32
def clA (c : Cl) (h : Hd) : Hd := if c.1 = 0 then (h.1, h.2.1, h.2.2.1, h.2.2.2.1, c.2.2, c.2.1) else if c.1 = 1 then (c.2.1, c.2.2, h.2.2.1, h.2.2.2.1, h.2.2.2.2.1, h.2.2.2.2.2) else if c.1 = 2 then (h.1, h.2.1, c.2.1, h.2.2.2.1, h.2.2.2.2.1, h.2.2.2.2.2) else if c.1 = 3 then (h.1, h.2.1, h.2.2.1, c.2.1, h.2.2.2.2.1, h.2.2.2.2.2) else h
def clF (cl : Nat → Cl) : Nat → Hd → Hd
  | 0, h => h
  | i + 1, h => clA (cl i) (clF cl i h)
/-- the clauses of rule r say what it is -/
def crl (R : Rl) (r cn : Nat) (cl : Nat → Cl) : Prop := cn ≤ 8 ∧ (∀ i, i < cn → (cl i).1 ≤ 4) ∧ (∀ h, clF cl cn h = foll h R) ∧ (∀ i, i < cn → (cl i).1 = 4 → ∃ s, s < r ∧ (cl i).2.1 = nI s ∧ rStr R s = true) ∧ ∀ s, rStr R s = true → s < r ∧ ∃ i, i < cn ∧ (cl i).1 = 4 ∧ (cl i).2.1 = nI s
def mR (Rs : Nat → Rl) (nr : Nat) (cn : Nat → Nat) (cl : Nat → Nat → Cl) (σ : Sg) : Prop := nr ≤ 8 ∧ σ 71 26 = nI nr ∧ ∀ r, r < nr → rDay (Rs r) < 200 ∧ σ 93 r = nI (rDay (Rs r)) ∧ σ 94 r = nI (cn r) ∧ crl (Rs r) r (cn r) (cl r) ∧ ∀ i, i < cn r → σ 95 (8 * r + i) = nI (cl r i).1 ∧ σ 96 (8 * r + i) = (cl r i).2.1 ∧ σ 97 (8 * r + i) = (cl r i).2.2
theorem mR_of {Rs : Nat → Rl} {nr : Nat} {cn : Nat → Nat} {cl : Nat → Nat → Cl} {σ τ : Sg} (h : mR Rs nr cn cl σ) (h1 : τ 71 26 = σ 71 26) (h2 : ∀ o j, 93 ≤ o → o ≤ 97 → τ o j = σ o j) : mR Rs nr cn cl τ := by
  obtain ⟨a, b, c⟩ := h
  refine ⟨a, by rw [h1]; exact b, fun r hr => ?_⟩
  simp only [h2 93 _ (by decide) (by decide), h2 94 _ (by decide) (by decide), h2 95 _ (by decide) (by decide), h2 96 _ (by decide) (by decide), h2 97 _ (by decide) (by decide)]
  exact c r hr
theorem nar_b (b : Bool) : vp_nar .boolean (zo b) = zo b := by cases b <;> decide
/-- which are on -/
def mOn (nr : Nat) (g : Nat → Bool) (σ : Sg) : Prop := ∀ i, i < nr → σ 99 i = zo (g i)
theorem mr_init {n nr d : Nat} {Rs : Nat → Rl} {cn : Nat → Nat} {cl : Nat → Nat → Cl} (hd : d < 200) : ∀ (e i k : Nat) (σ : Sg), i + e = nr → e < k → mR Rs nr cn cl σ → mOn i (fun j => decide (rDay (Rs j) ≤ d)) σ → ∃ τ, s_X12_findRules_2 n k (nI d) (nI i) σ = s_X12_findRules_44 n n (nI nr - 1) τ ∧ mOn nr (fun j => decide (rDay (Rs j) ≤ d)) τ ∧ ∀ o j, o ≠ 99 → τ o j = σ o j := by
  intro e
  induction e with
  | zero =>
    intro i k σ hi hk hR ho
    obtain ⟨k, rfl⟩ : ∃ k', k = k' + 1 := ⟨k - 1, by omega⟩
    have h8 := hR.1
    have hi : i = nr := by omega
    subst hi
    refine ⟨σ, ?_, ho, fun _ _ _ => rfl⟩
    show s_X12_findRules_2b n _ _ _ _ = _
    unfold s_X12_findRules_2b
    rw [hR.2.1, if_pos (by rw [nle (by omega) (by omega)]; exact Nat.le_refl _), lt_eq]
  | succ e ih =>
    intro i k σ hi hk hR ho
    obtain ⟨k, rfl⟩ : ∃ k', k = k' + 1 := ⟨k - 1, by omega⟩
    have h8 := hR.1
    have hil : i < nr := by omega
    obtain ⟨a1, a2, _⟩ := hR.2.2 i hil
    show ∃ τ, s_X12_findRules_2b n (s_X12_findRules_2 n k) _ _ _ = _ ∧ _
    unfold s_X12_findRules_2b
    rw [hR.2.1, if_neg (by rw [nle (by omega) (by omega)]; omega)]
    simp (disch := omega) only [ck_n, ix_n, lt_eq, a2, nlt]
    have ev : (if d < rDay (Rs i) then (0 : Int32) else 1) = zo (decide (rDay (Rs i) ≤ d)) := by
      by_cases h : d < rDay (Rs i)
      · have : ¬ rDay (Rs i) ≤ d := by omega
        simp [h, this, zo]
      · have : rDay (Rs i) ≤ d := by omega
        simp [h, this, zo]
    rw [ev, nar_b, show nI i + 1 = nI (i + 1) from nI_1 i]
    obtain ⟨τ, t1, t2, t3⟩ := ih (i + 1) k (up2 σ 99 i (zo (decide (rDay (Rs i) ≤ d)))) (by omega) (by omega) (mR_of hR (by rw [up2_o (by decide)]) (fun o j p1 p2 => up2_o (by omega))) (fun j hj => by
      by_cases e2 : j = i
      · subst e2; simp [up2_app]
      · have := ho j (by omega)
        simp [up2_app, e2, this])
    exact ⟨τ, t1, t2, fun o j h => by rw [t3 o j h, up2_o h]⟩
theorem mr_strike {n nr r : Nat} {Rs : Nat → Rl} {cn : Nat → Nat} {cl : Nat → Nat → Cl} {rc : Int32 → Sg → Option Sg} {g : Nat → Bool} (hr : r < nr) (hgr : g r = true) : ∀ (e i k : Nat) (σ : Sg), i + e = cn r → e < k → mR Rs nr cn cl σ → mOn nr (fun j => g j && !decide (∃ m, m < i ∧ (cl r m).1 = 4 ∧ (cl r m).2.1 = nI j)) σ → ∃ τ, s_X12_findRules_53 n rc k (nI r) (nI (8 * r + i)) σ = rc (nI r + -1) τ ∧ mOn nr (fun j => g j && !rStr (Rs r) j) τ ∧ ∀ o j, o ≠ 99 → τ o j = σ o j := by
  intro e
  induction e with
  | zero =>
    intro i k σ hi hk hR ho
    obtain ⟨k, rfl⟩ : ∃ k', k = k' + 1 := ⟨k - 1, by omega⟩
    have h8 := hR.1
    obtain ⟨_, _, a3, ⟨c1, _, _, c4, c5⟩, _⟩ := hR.2.2 r hr
    have hi : i = cn r := by omega
    subst hi
    refine ⟨σ, ?_, fun j hj => ?_, fun _ _ _ => rfl⟩
    · show s_X12_findRules_53b n rc _ _ _ _ = _
      unfold s_X12_findRules_53b
      rw [show (8 : Int32) = nI 8 from rfl]
      simp (disch := omega) only [ck_n, ix_n, a3, nmul, nadd, nle]
      rw [if_pos (Nat.le_refl _)]
    · rw [ho j hj]
      have : decide (∃ m, m < cn r ∧ (cl r m).1 = 4 ∧ (cl r m).2.1 = nI j) = rStr (Rs r) j := by
        cases hs : rStr (Rs r) j
        · refine decide_eq_false (fun ⟨m, m1, m2, m3⟩ => ?_)
          obtain ⟨s, s1, s2, s3⟩ := c4 m m1 m2
          rw [m3, neq (by omega) (by omega)] at s2
          rw [s2, s3] at hs
          exact absurd hs (by decide)
        · exact decide_eq_true (c5 j hs).2
      dsimp only
      rw [this]
  | succ e ih =>
    intro i k σ hi hk hR ho
    obtain ⟨k, rfl⟩ : ∃ k', k = k' + 1 := ⟨k - 1, by omega⟩
    have h8 := hR.1
    obtain ⟨_, _, a3, ⟨c1, c2, _, c4, c5⟩, a5⟩ := hR.2.2 r hr
    have hil : i < cn r := by omega
    obtain ⟨b1, b2, _⟩ := a5 i hil
    have hk4 := c2 i hil
    have hon : σ 99 r = 1 := by
      rw [ho r hr]
      dsimp only
      rw [hgr]
      have : ¬ ∃ m, m < i ∧ (cl r m).1 = 4 ∧ (cl r m).2.1 = nI r := fun ⟨m, m1, m2, m3⟩ => by
        obtain ⟨s, s1, s2, _⟩ := c4 m (by omega) m2
        rw [m3, neq (by omega) (by omega)] at s2
        omega
      rw [decide_eq_false this]
      rfl
    show ∃ τ, s_X12_findRules_53b n rc (s_X12_findRules_53 n rc k) _ _ _ = _ ∧ _
    unfold s_X12_findRules_53b
    rw [show (8 : Int32) = nI 8 from rfl, show (4 : Int32) = nI 4 from rfl]
    simp (disch := omega) only [ck_n, ix_n, a3, nmul, nadd, nle, hon, b1, b2, neq]
    rw [if_neg (by omega), if_neg (show ¬ (1 : Int32) = 0 by decide), show nI (8 * r + i) + 1 = nI (8 * r + (i + 1)) from nI_1 _]
    by_cases h4 : (cl r i).1 = 4
    · rw [if_pos h4]
      obtain ⟨s, s1, s2, s3⟩ := c4 i hil h4
      rw [s2]
      simp (disch := omega) only [ck_n, ix_n, lt_eq]
      rw [show vp_nar .boolean 0 = 0 from by decide]
      obtain ⟨τ, t1, t2, t3⟩ := ih (i + 1) k (up2 σ 99 s 0) (by omega) (by omega) (mR_of hR (by rw [up2_o (by decide)]) (fun o j p1 p2 => up2_o (by omega))) (fun j hj => by
        by_cases e2 : j = s
        · subst e2
          have : ∃ m, m < i + 1 ∧ (cl r m).1 = 4 ∧ (cl r m).2.1 = nI j := ⟨i, by omega, h4, s2⟩
          dsimp only
          rw [decide_eq_true this]
          simp [up2_app, zo]
        · have hiff : (∃ m, m < i + 1 ∧ (cl r m).1 = 4 ∧ (cl r m).2.1 = nI j) ↔ ∃ m, m < i ∧ (cl r m).1 = 4 ∧ (cl r m).2.1 = nI j := by
            constructor
            · intro ⟨m, m1, m2, m3⟩
              by_cases e3 : m = i
              · subst e3
                rw [s2, neq (by omega) (by omega)] at m3
                exact absurd m3.symm e2
              · exact ⟨m, by omega, m2, m3⟩
            · intro ⟨m, m1, m2, m3⟩
              exact ⟨m, by omega, m2, m3⟩
          have := ho j hj
          simp only [up2_app, if_true, e2, if_false]
          rw [this]
          simp only [hiff])
      exact ⟨τ, t1, t2, fun o j h => by rw [t3 o j h, up2_o h]⟩
    · rw [if_neg h4]
      exact ih (i + 1) k σ (by omega) (by omega) hR (fun j hj => by
        have hiff : (∃ m, m < i + 1 ∧ (cl r m).1 = 4 ∧ (cl r m).2.1 = nI j) ↔ ∃ m, m < i ∧ (cl r m).1 = 4 ∧ (cl r m).2.1 = nI j := by
          constructor
          · intro ⟨m, m1, m2, m3⟩
            by_cases e3 : m = i
            · subst e3; exact absurd m2 h4
            · exact ⟨m, by omega, m2, m3⟩
          · intro ⟨m, m1, m2, m3⟩
            exact ⟨m, by omega, m2, m3⟩
        rw [ho j hj]
        simp only [hiff])
theorem strk_lt {Rs : Nat → Rl} {nr d : Nat} (hs : ∀ r, r < nr → ∀ i, rStr (Rs r) i = true → i < r) : ∀ (e i : Nat), e ≤ nr → strk Rs nr d e i = true → i < nr - 1 ∧ ∀ e', e' ≤ e → nr - 1 - i ≤ e' → strk Rs nr d e' i = true
  | 0, i, _, h => by exact absurd h (by simp [strk])
  | e + 1, i, he, h => by
    have h' : (strk Rs nr d e i || (decide (rDay (Rs (nr - 1 - e)) ≤ d) && (!strk Rs nr d e (nr - 1 - e) && rStr (Rs (nr - 1 - e)) i))) = true := h
    cases hq : strk Rs nr d e i
    · rw [hq] at h'
      simp only [Bool.false_or, Bool.and_eq_true] at h'
      have hi := hs (nr - 1 - e) (by omega) i h'.2.2
      refine ⟨by omega, fun e' h1 h2 => ?_⟩
      have : e' = e + 1 := by omega
      rw [this]; exact h
    · obtain ⟨a, b⟩ := strk_lt hs e i (by omega) hq
      refine ⟨a, fun e' h1 h2 => ?_⟩
      by_cases e2 : e' = e + 1
      · rw [e2]; exact h
      · exact b e' (by omega) h2
/-- a rule is struck by later ones alone -/
theorem strk_end {Rs : Nat → Rl} {nr d r : Nat} (hs : ∀ r, r < nr → ∀ i, rStr (Rs r) i = true → i < r) (hr : r < nr) : strk Rs nr d nr r = strk Rs nr d (nr - 1 - r) r := by
  have mono : ∀ k e, strk Rs nr d e r = true → strk Rs nr d (e + k) r = true := by
    intro k
    induction k with
    | zero => intro e h; exact h
    | succ k ih =>
      intro e h
      show (strk Rs nr d (e + k) r || _) = true
      rw [ih e h]
      rfl
  cases hq : strk Rs nr d (nr - 1 - r) r
  · cases hp : strk Rs nr d nr r
    · rfl
    · have := (strk_lt hs nr r (Nat.le_refl _) hp).2 (nr - 1 - r) (by omega) (Nat.le_refl _)
      rw [this] at hq
      exact absurd hq (by decide)
  · have := mono (nr - (nr - 1 - r)) _ hq
    rw [show nr - 1 - r + (nr - (nr - 1 - r)) = nr by omega] at this
    exact this
theorem mr_down {n nr d : Nat} {Rs : Nat → Rl} {cn : Nat → Nat} {cl : Nat → Nat → Cl} (hn : 20 ≤ n) : ∀ (m e k : Nat) (σ : Sg), e + m = nr → m < k → mR Rs nr cn cl σ → mOn nr (fun j => decide (rDay (Rs j) ≤ d) && !strk Rs nr d e j) σ → ∃ τ, s_X12_findRules_44 n k (nI m - 1) σ = s_X12_findRules_115 n n 0 0 τ ∧ mOn nr (fun j => decide (rDay (Rs j) ≤ d) && !strk Rs nr d nr j) τ ∧ ∀ o j, o ≠ 99 → τ o j = σ o j := by
  intro m
  induction m with
  | zero =>
    intro e k σ he hk hR ho
    obtain ⟨k, rfl⟩ : ∃ k', k = k' + 1 := ⟨k - 1, by omega⟩
    have he : e = nr := by omega
    subst he
    refine ⟨σ, ?_, ho, fun _ _ _ => rfl⟩
    show s_X12_findRules_44b n _ _ _ = _
    unfold s_X12_findRules_44b
    rw [if_pos (by decide)]
  | succ m ih =>
    intro e k σ he hk hR ho
    obtain ⟨k, rfl⟩ : ∃ k', k = k' + 1 := ⟨k - 1, by omega⟩
    have h8 := hR.1
    have hm : m < nr := by omega
    obtain ⟨_, _, a3, ⟨c1, _, _, _, _⟩, _⟩ := hR.2.2 m hm
    have hst : ∀ i, strk Rs nr d (e + 1) i = (strk Rs nr d e i || (decide (rDay (Rs m) ≤ d) && (!strk Rs nr d e m && rStr (Rs m) i))) := by
      intro i
      show (strk Rs nr d e i || _) = _
      rw [show nr - 1 - e = m by omega]
    show ∃ τ, s_X12_findRules_44b n (s_X12_findRules_44 n k) _ _ = _ ∧ _
    unfold s_X12_findRules_44b
    rw [show nI (m + 1) - 1 = nI m from nI_pred m, if_neg (n_nlt0 (by omega)), lt_eq, show (8 : Int32) = nI 8 from rfl, nmul]
    have hdec : nI m + -1 = nI m - 1 := by rw [Int32.sub_eq_add_neg]
    cases hg : (decide (rDay (Rs m) ≤ d) && !strk Rs nr d e m)
    · obtain ⟨n', rfl⟩ : ∃ n', n = n' + 1 := ⟨n - 1, by omega⟩
      have hex : s_X12_findRules_53 (n' + 1) (s_X12_findRules_44 (n' + 1) k) (n' + 1) (nI m) (nI (8 * m)) σ = s_X12_findRules_44 (n' + 1) k (nI m - 1) σ := by
        show s_X12_findRules_53b (n' + 1) (s_X12_findRules_44 (n' + 1) k) (s_X12_findRules_53 (n' + 1) (s_X12_findRules_44 (n' + 1) k) n') _ _ _ = _
        unfold s_X12_findRules_53b
        have hon : σ 99 m = 0 := by
          rw [ho m hm]
          dsimp only
          rw [hg]
          rfl
        rw [show (8 : Int32) = nI 8 from rfl]
        simp (disch := omega) only [ck_n, ix_n, a3, nmul, nadd, nle, hon, hdec]
        rw [if_pos trivial]
        split <;> rfl
      rw [hex]
      refine ih (e + 1) k σ (by omega) (by omega) hR (fun j hj => ?_)
      rw [ho j hj]
      dsimp only
      rw [hst j]
      have : (decide (rDay (Rs m) ≤ d) && (!strk Rs nr d e m && rStr (Rs m) j)) = false := by
        rw [← Bool.and_assoc, hg]
        rfl
      rw [this, Bool.or_false]
    · obtain ⟨τ1, t1, t2, t3⟩ := mr_strike (n := n) (rc := s_X12_findRules_44 n k) (g := fun j => decide (rDay (Rs j) ≤ d) && !strk Rs nr d e j) hm hg (cn m) 0 n σ (by omega) (by omega) hR (fun j hj => by
        have : ¬ ∃ q, q < 0 ∧ (cl m q).1 = 4 ∧ (cl m q).2.1 = nI j := fun ⟨q, q1, _⟩ => by omega
        rw [ho j hj]
        dsimp only
        rw [decide_eq_false this]
        simp)
      have t1' : s_X12_findRules_53 n (s_X12_findRules_44 n k) n (nI m) (nI (8 * m)) σ = s_X12_findRules_44 n k (nI m - 1) τ1 := by rw [← hdec]; exact t1
      rw [t1']
      obtain ⟨τ, w1, w2, w3⟩ := ih (e + 1) k τ1 (by omega) (by omega) (mR_of hR (t3 71 26 (by decide)) (fun o j p1 p2 => t3 o j (by omega))) (fun j hj => by
        rw [t2 j hj]
        dsimp only
        rw [hst j]
        simp only [Bool.and_eq_true] at hg
        rw [hg.1, hg.2]
        cases decide (rDay (Rs j) ≤ d) <;> cases strk Rs nr d e j <;> cases rStr (Rs m) j <;> rfl)
      exact ⟨τ, w1, w2, fun o j h => (w3 o j h).trans (t3 o j h)⟩
