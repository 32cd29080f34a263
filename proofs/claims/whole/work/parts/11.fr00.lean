/-! ===== frames: which places a method may change ===== -/
def fok (W : List (Nat × Option Nat)) (o j : Nat) : Bool := W.all (fun w => !(w.1 == o) || (match w.2 with | none => false | some k => !(k == j)))
theorem fok_mem {W : List (Nat × Option Nat)} {o j : Nat} (h : fok W o j = true) {c : Nat} {w : Option Nat} (hm : (c, w) ∈ W) : o ≠ c ∨ ∃ k, w = some k ∧ j ≠ k := by
  have h1 := List.all_eq_true.mp h _ hm
  by_cases e : o = c
  · right
    cases w with
    | none => simp [e] at h1
    | some k => exact ⟨k, rfl, fun e2 => by simp [e, e2] at h1⟩
  · exact Or.inl e
theorem fok_a {W : List (Nat × Option Nat)} {o j : Nat} (h : fok W o j = true) {c : Nat} (hm : (c, none) ∈ W) : o ≠ c := by
  rcases fok_mem h hm with h1 | ⟨k, h1, _⟩
  · exact h1
  · cases h1
theorem fok_sub {W W' : List (Nat × Option Nat)} {o j : Nat} (h : fok W o j = true) (hs : ∀ w ∈ W', w ∈ W) : fok W' o j = true :=
  List.all_eq_true.mpr (fun w hw => List.all_eq_true.mp h w (hs w hw))
theorem up2_o {σ : Sg} {c k o j : Nat} {v : Int32} (h : o ≠ c) : up2 σ c k v o j = σ o j := by rw [up2_ne h]
theorem up2_f {σ : Sg} {W : List (Nat × Option Nat)} {c k o j : Nat} {v : Int32} (h : fok W o j = true) (hm : (c, some k) ∈ W) : up2 σ c k v o j = σ o j := by
  rcases fok_mem h hm with h1 | ⟨k', h1, h2⟩
  · exact up2_o h1
  · cases h1
    by_cases e : o = c
    · subst e; simp [up2, upd, h2]
    · exact up2_o e
theorem cp2_o {σ : Sg} {a b sp dp n o j : Nat} (h : o ≠ b) : cp2 σ a b sp dp n o j = σ o j := by simp [cp2, h]
theorem lt_of {α ρ : Type} {e : α} {F : α → Option ρ} {X : ρ} (h : lt e F = some X) : ∃ v, v = e ∧ F v = some X := ⟨e, rfl, h⟩
theorem ite_of {ρ : Type} {c : Prop} [Decidable c] {A B : Option ρ} {X : ρ} (h : (if c then A else B) = some X) : (A = some X) ∨ (B = some X) := by
  by_cases hc : c
  · rw [if_pos hc] at h; exact Or.inl h
  · rw [if_neg hc] at h; exact Or.inr h
theorem fr_e2 {α : Type} {a r : α} {σ σ1 τ : Sg} {o j : Nat} (h : some (a, σ1) = some (r, τ)) (q : σ1 o j = σ o j) : τ o j = σ o j := by
  have e : (a, σ1) = (r, τ) := Option.some.inj h
  have e2 : σ1 = τ := congrArg Prod.snd e
  rw [← e2]
  exact q
theorem fr_e1 {σ σ1 τ : Sg} {o j : Nat} (h : some σ1 = some τ) (q : σ1 o j = σ o j) : τ o j = σ o j := by
  rw [← Option.some.inj h]
  exact q
theorem lawne {W : List (Nat × Option Nat)} {o j r : Nat} (h : fok W o j = true) (hr : zLaw r) (hs : ∀ c ∈ [29, 30, 31, 32, 33, 34, 35, 36, 38, 62], (c, none) ∈ W) : o ≠ r := by
  refine fok_a h (hs r ?_)
  unfold zLaw at hr
  simp only [List.mem_cons, List.not_mem_nil, or_false]
  omega
abbrev W_X0_oldestOn : List (Nat × Option Nat) := []
set_option maxRecDepth 20000 in
theorem fr_s_X0_oldestOn {n o j : Nat} {r : Int32} {τ : Sg} (ho : fok W_X0_oldestOn o j = true) (x1 : Int32) (σ : Sg) (h : s_X0_oldestOn n x1 σ = some (r, τ)) : τ o j = σ o j := by
  unfold s_X0_oldestOn at h
  have q : σ o j = σ o j := rfl
  exact fr_e2 h q
abbrev W_X0_gives : List (Nat × Option Nat) := []
set_option maxRecDepth 20000 in
theorem fr_s_X0_gives {n o j : Nat} {r : Int32} {τ : Sg} (ho : fok W_X0_gives o j = true) (x1 : Int32) (x2 : Int32) (x3 : Int32) (σ : Sg) (h : s_X0_gives n x1 x2 x3 σ = some (r, τ)) : τ o j = σ o j := by
  unfold s_X0_gives at h
  have q : σ o j = σ o j := rfl
  rcases ite_of h with h | h
  · exact fr_e2 h q
  · rcases ite_of h with h | h
    · exact fr_e2 h q
    · exact fr_e2 h q
abbrev W_X0_older : List (Nat × Option Nat) := []
set_option maxRecDepth 20000 in
theorem fr_s_X0_older {n o j : Nat} {r : Int32} {τ : Sg} (ho : fok W_X0_older o j = true) (x1 : Int32) (x2 : Int32) (x3 : Int32) (x4 : Int32) (σ : Sg) (h : s_X0_older n x1 x2 x3 x4 σ = some (r, τ)) : τ o j = σ o j := by
  unfold s_X0_older at h
  have q : σ o j = σ o j := rfl
  rcases ite_of h with h | h
  · exact fr_e2 h q
  · rcases ite_of h with h | h
    · exact fr_e2 h q
    · obtain ⟨r2, σ1, g, h⟩ := bd_of h
      have q : σ1 o j = σ o j := (fr_s_X0_oldestOn rfl _ _ g).trans q
      exact fr_e2 h q
abbrev W_X0_place : List (Nat × Option Nat) := []
set_option maxRecDepth 20000 in
theorem fr_s_X0_place {n o j : Nat} {r : Int32} {τ : Sg} (ho : fok W_X0_place o j = true) (x0 : Int32) (x1 : Int32) (x2 : Int32) (x3 : Int32) (σ : Sg) (h : s_X0_place n x0 x1 x2 x3 σ = some (r, τ)) : τ o j = σ o j := by
  unfold s_X0_place at h
  have q : σ o j = σ o j := rfl
  obtain ⟨v1, -, h⟩ := lt_of h
  obtain ⟨v2, -, h⟩ := lt_of h
  obtain ⟨v3, -, h⟩ := lt_of h
  obtain ⟨v4, -, h⟩ := lt_of h
  exact fr_e2 h q
abbrev W_X0_costOf : List (Nat × Option Nat) := []
set_option maxRecDepth 20000 in
theorem fr_s_X0_costOf_52 {n o j : Nat} {r : Int32} {τ : Sg} (ho : fok W_X0_costOf o j = true) (x1 : Int32) (x2 : Int32) (x3 : Int32) (x4 : Int32) (x5 : Int32) (y0 : Int32) (σ : Sg) (h : s_X0_costOf_52 n x1 x2 x3 x4 x5 y0 σ = some (r, τ)) : τ o j = σ o j := by
  unfold s_X0_costOf_52 at h
  have q : σ o j = σ o j := rfl
  rcases ite_of h with h | h
  · exact fr_e2 h q
  · obtain ⟨r12, σ11, g, h⟩ := bd_of h
    have q : σ11 o j = σ o j := (fr_s_X0_older rfl _ _ _ _ _ g).trans q
    obtain ⟨r14, σ13, g, h⟩ := bd_of h
    have q : σ13 o j = σ o j := (fr_s_X0_older rfl _ _ _ _ _ g).trans q
    obtain ⟨r16, σ15, g, h⟩ := bd_of h
    have q : σ15 o j = σ o j := (fr_s_X0_older rfl _ _ _ _ _ g).trans q
    obtain ⟨r18, σ17, g, h⟩ := bd_of h
    have q : σ17 o j = σ o j := (fr_s_X0_place rfl _ _ _ _ _ g).trans q
    have h := (ck_of h).2
    exact fr_e2 h q
set_option maxRecDepth 20000 in
theorem fr_s_X0_costOf {n o j : Nat} {r : Int32} {τ : Sg} (ho : fok W_X0_costOf o j = true) (x1 : Int32) (x2 : Int32) (x3 : Int32) (x4 : Int32) (x5 : Int32) (σ : Sg) (h : s_X0_costOf n x1 x2 x3 x4 x5 σ = some (r, τ)) : τ o j = σ o j := by
  unfold s_X0_costOf at h
  have q : σ o j = σ o j := rfl
  obtain ⟨r2, σ1, g, h⟩ := bd_of h
  have q : σ1 o j = σ o j := (fr_s_X0_gives rfl _ _ _ _ g).trans q
  obtain ⟨r4, σ3, g, h⟩ := bd_of h
  have q : σ3 o j = σ o j := (fr_s_X0_gives rfl _ _ _ _ g).trans q
  obtain ⟨r6, σ5, g, h⟩ := bd_of h
  have q : σ5 o j = σ o j := (fr_s_X0_gives rfl _ _ _ _ g).trans q
  obtain ⟨v7, -, h⟩ := lt_of h
  rcases ite_of h with h | h
  · obtain ⟨v10, -, h⟩ := lt_of h
    exact (fr_s_X0_costOf_52 ho  x1 x2 x3 x4 x5 v10 σ5  h).trans q
  · exact fr_e2 h q
abbrev W_X0_weighDay : List (Nat × Option Nat) := [(70, none)]
set_option maxRecDepth 20000 in
theorem fr_s_X0_weighDay_63b {n o j : Nat} {τ : Sg} (ho : fok W_X0_weighDay o j = true) (rc8 : Int32 → Int32 → Int32 → Sg → Option Sg) (H8 : ∀ (x1 : Int32) (x2 : Int32) (x3 : Int32) (σ : Sg), rc8 x1 x2 x3 σ = some τ → τ o j = σ o j) (rc16 : Int32 → Int32 → Int32 → Int32 → Sg → Option Sg) (H16 : ∀ (x1 : Int32) (x2 : Int32) (x3 : Int32) (x4 : Int32) (σ : Sg), rc16 x1 x2 x3 x4 σ = some τ → τ o j = σ o j) (rc37 : Int32 → Int32 → Int32 → Int32 → Int32 → Sg → Option Sg) (H37 : ∀ (x1 : Int32) (x2 : Int32) (x3 : Int32) (x4 : Int32) (x5 : Int32) (σ : Sg), rc37 x1 x2 x3 x4 x5 σ = some τ → τ o j = σ o j) (rc63 : Int32 → Int32 → Int32 → Int32 → Int32 → Int32 → Int32 → Sg → Option Sg) (H63 : ∀ (x1 : Int32) (x2 : Int32) (x3 : Int32) (x4 : Int32) (x5 : Int32) (x6 : Int32) (x7 : Int32) (σ : Sg), rc63 x1 x2 x3 x4 x5 x6 x7 σ = some τ → τ o j = σ o j) (x1 : Int32) (x2 : Int32) (x3 : Int32) (x4 : Int32) (x5 : Int32) (x6 : Int32) (x7 : Int32) (σ : Sg) (h : s_X0_weighDay_63b n rc8 rc16 rc37 rc63 x1 x2 x3 x4 x5 x6 x7 σ = some τ) : τ o j = σ o j := by
  unfold s_X0_weighDay_63b at h
  have q : σ o j = σ o j := rfl
  rcases ite_of h with h | h
  · obtain ⟨r10, σ9, g, h⟩ := bd_of h
    have q : σ9 o j = σ o j := (fr_s_X0_place rfl _ _ _ _ _ g).trans q
    have h := (ck_of h).2
    obtain ⟨σ11, e, h⟩ := lt_of h
    have q : σ11 o j = σ o j := by rw [e]; exact (up2_o (fok_a ho (by decide))).trans q
    exact (H37 x1 x2 x3 x4 (x5 + (1 : Int32)) σ11  h).trans q
  · obtain ⟨r13, σ12, g, h⟩ := bd_of h
    have q : σ12 o j = σ o j := (fr_s_X0_costOf rfl _ _ _ _ _ _ g).trans q
    obtain ⟨v14, -, h⟩ := lt_of h
    exact (H63 x1 x2 x3 x4 x5 v14 (x7 + (1 : Int32)) σ12  h).trans q
theorem fr_s_X0_weighDay_63 {n o j : Nat} {τ : Sg} (ho : fok W_X0_weighDay o j = true) (rc8 : Int32 → Int32 → Int32 → Sg → Option Sg) (H8 : ∀ (x1 : Int32) (x2 : Int32) (x3 : Int32) (σ : Sg), rc8 x1 x2 x3 σ = some τ → τ o j = σ o j) (rc16 : Int32 → Int32 → Int32 → Int32 → Sg → Option Sg) (H16 : ∀ (x1 : Int32) (x2 : Int32) (x3 : Int32) (x4 : Int32) (σ : Sg), rc16 x1 x2 x3 x4 σ = some τ → τ o j = σ o j) (rc37 : Int32 → Int32 → Int32 → Int32 → Int32 → Sg → Option Sg) (H37 : ∀ (x1 : Int32) (x2 : Int32) (x3 : Int32) (x4 : Int32) (x5 : Int32) (σ : Sg), rc37 x1 x2 x3 x4 x5 σ = some τ → τ o j = σ o j) : ∀ (k : Nat) (x1 : Int32) (x2 : Int32) (x3 : Int32) (x4 : Int32) (x5 : Int32) (x6 : Int32) (x7 : Int32) (σ : Sg), s_X0_weighDay_63 n rc8 rc16 rc37 k x1 x2 x3 x4 x5 x6 x7 σ = some τ → τ o j = σ o j := by
  intro k
  induction k with
  | zero => intro x1 x2 x3 x4 x5 x6 x7 σ  h; cases h
  | succ k ih => intro x1 x2 x3 x4 x5 x6 x7 σ  h; exact fr_s_X0_weighDay_63b ho rc8 H8 rc16 H16 rc37 H37 (s_X0_weighDay_63 n rc8 rc16 rc37 k) ih x1 x2 x3 x4 x5 x6 x7 σ  h
set_option maxRecDepth 20000 in
theorem fr_s_X0_weighDay_53 {n o j : Nat} {τ : Sg} (ho : fok W_X0_weighDay o j = true) (rc8 : Int32 → Int32 → Int32 → Sg → Option Sg) (H8 : ∀ (x1 : Int32) (x2 : Int32) (x3 : Int32) (σ : Sg), rc8 x1 x2 x3 σ = some τ → τ o j = σ o j) (rc16 : Int32 → Int32 → Int32 → Int32 → Sg → Option Sg) (H16 : ∀ (x1 : Int32) (x2 : Int32) (x3 : Int32) (x4 : Int32) (σ : Sg), rc16 x1 x2 x3 x4 σ = some τ → τ o j = σ o j) (rc37 : Int32 → Int32 → Int32 → Int32 → Int32 → Sg → Option Sg) (H37 : ∀ (x1 : Int32) (x2 : Int32) (x3 : Int32) (x4 : Int32) (x5 : Int32) (σ : Sg), rc37 x1 x2 x3 x4 x5 σ = some τ → τ o j = σ o j) (x1 : Int32) (x2 : Int32) (x3 : Int32) (x4 : Int32) (x5 : Int32) (y0 : Int32) (y1 : Int32) (σ : Sg) (h : s_X0_weighDay_53 n rc8 rc16 rc37 x1 x2 x3 x4 x5 y0 y1 σ = some τ) : τ o j = σ o j := by
  unfold s_X0_weighDay_53 at h
  have q : σ o j = σ o j := rfl
  rcases ite_of h with h | h
  · exact (H16 x1 x2 x3 (x4 + (1 : Int32)) σ  h).trans q
  · exact (fr_s_X0_weighDay_63 ho rc8 H8 rc16 H16 rc37 H37 n x1 x2 x3 x4 x5 (100 : Int32) (-1 : Int32) σ  h).trans q
set_option maxRecDepth 20000 in
theorem fr_s_X0_weighDay_37b {n o j : Nat} {τ : Sg} (ho : fok W_X0_weighDay o j = true) (rc8 : Int32 → Int32 → Int32 → Sg → Option Sg) (H8 : ∀ (x1 : Int32) (x2 : Int32) (x3 : Int32) (σ : Sg), rc8 x1 x2 x3 σ = some τ → τ o j = σ o j) (rc16 : Int32 → Int32 → Int32 → Int32 → Sg → Option Sg) (H16 : ∀ (x1 : Int32) (x2 : Int32) (x3 : Int32) (x4 : Int32) (σ : Sg), rc16 x1 x2 x3 x4 σ = some τ → τ o j = σ o j) (rc37 : Int32 → Int32 → Int32 → Int32 → Int32 → Sg → Option Sg) (H37 : ∀ (x1 : Int32) (x2 : Int32) (x3 : Int32) (x4 : Int32) (x5 : Int32) (σ : Sg), rc37 x1 x2 x3 x4 x5 σ = some τ → τ o j = σ o j) (x1 : Int32) (x2 : Int32) (x3 : Int32) (x4 : Int32) (x5 : Int32) (σ : Sg) (h : s_X0_weighDay_37b n rc8 rc16 rc37 x1 x2 x3 x4 x5 σ = some τ) : τ o j = σ o j := by
  unfold s_X0_weighDay_37b at h
  have q : σ o j = σ o j := rfl
  obtain ⟨v8, -, h⟩ := lt_of h
  exact (fr_s_X0_weighDay_53 ho rc8 H8 rc16 H16 rc37 H37 x1 x2 x3 x4 x5 v8 x5 σ  h).trans q
theorem fr_s_X0_weighDay_37 {n o j : Nat} {τ : Sg} (ho : fok W_X0_weighDay o j = true) (rc8 : Int32 → Int32 → Int32 → Sg → Option Sg) (H8 : ∀ (x1 : Int32) (x2 : Int32) (x3 : Int32) (σ : Sg), rc8 x1 x2 x3 σ = some τ → τ o j = σ o j) (rc16 : Int32 → Int32 → Int32 → Int32 → Sg → Option Sg) (H16 : ∀ (x1 : Int32) (x2 : Int32) (x3 : Int32) (x4 : Int32) (σ : Sg), rc16 x1 x2 x3 x4 σ = some τ → τ o j = σ o j) : ∀ (k : Nat) (x1 : Int32) (x2 : Int32) (x3 : Int32) (x4 : Int32) (x5 : Int32) (σ : Sg), s_X0_weighDay_37 n rc8 rc16 k x1 x2 x3 x4 x5 σ = some τ → τ o j = σ o j := by
  intro k
  induction k with
  | zero => intro x1 x2 x3 x4 x5 σ  h; cases h
  | succ k ih => intro x1 x2 x3 x4 x5 σ  h; exact fr_s_X0_weighDay_37b ho rc8 H8 rc16 H16 (s_X0_weighDay_37 n rc8 rc16 k) ih x1 x2 x3 x4 x5 σ  h
set_option maxRecDepth 20000 in
theorem fr_s_X0_weighDay_31 {n o j : Nat} {τ : Sg} (ho : fok W_X0_weighDay o j = true) (rc8 : Int32 → Int32 → Int32 → Sg → Option Sg) (H8 : ∀ (x1 : Int32) (x2 : Int32) (x3 : Int32) (σ : Sg), rc8 x1 x2 x3 σ = some τ → τ o j = σ o j) (rc16 : Int32 → Int32 → Int32 → Int32 → Sg → Option Sg) (H16 : ∀ (x1 : Int32) (x2 : Int32) (x3 : Int32) (x4 : Int32) (σ : Sg), rc16 x1 x2 x3 x4 σ = some τ → τ o j = σ o j) (x1 : Int32) (x2 : Int32) (x3 : Int32) (x4 : Int32) (y0 : Int32) (y1 : Int32) (σ : Sg) (h : s_X0_weighDay_31 n rc8 rc16 x1 x2 x3 x4 y0 y1 σ = some τ) : τ o j = σ o j := by
  unfold s_X0_weighDay_31 at h
  have q : σ o j = σ o j := rfl
  rcases ite_of h with h | h
  · exact (H8 x1 x2 (x3 + (1 : Int32)) σ  h).trans q
  · exact (fr_s_X0_weighDay_37 ho rc8 H8 rc16 H16 n x1 x2 x3 x4 (0 : Int32) σ  h).trans q
set_option maxRecDepth 20000 in
theorem fr_s_X0_weighDay_16b {n o j : Nat} {τ : Sg} (ho : fok W_X0_weighDay o j = true) (rc8 : Int32 → Int32 → Int32 → Sg → Option Sg) (H8 : ∀ (x1 : Int32) (x2 : Int32) (x3 : Int32) (σ : Sg), rc8 x1 x2 x3 σ = some τ → τ o j = σ o j) (rc16 : Int32 → Int32 → Int32 → Int32 → Sg → Option Sg) (H16 : ∀ (x1 : Int32) (x2 : Int32) (x3 : Int32) (x4 : Int32) (σ : Sg), rc16 x1 x2 x3 x4 σ = some τ → τ o j = σ o j) (x1 : Int32) (x2 : Int32) (x3 : Int32) (x4 : Int32) (σ : Sg) (h : s_X0_weighDay_16b n rc8 rc16 x1 x2 x3 x4 σ = some τ) : τ o j = σ o j := by
  unfold s_X0_weighDay_16b at h
  have q : σ o j = σ o j := rfl
  obtain ⟨v5, -, h⟩ := lt_of h
  exact (fr_s_X0_weighDay_31 ho rc8 H8 rc16 H16 x1 x2 x3 x4 v5 x4 σ  h).trans q
theorem fr_s_X0_weighDay_16 {n o j : Nat} {τ : Sg} (ho : fok W_X0_weighDay o j = true) (rc8 : Int32 → Int32 → Int32 → Sg → Option Sg) (H8 : ∀ (x1 : Int32) (x2 : Int32) (x3 : Int32) (σ : Sg), rc8 x1 x2 x3 σ = some τ → τ o j = σ o j) : ∀ (k : Nat) (x1 : Int32) (x2 : Int32) (x3 : Int32) (x4 : Int32) (σ : Sg), s_X0_weighDay_16 n rc8 k x1 x2 x3 x4 σ = some τ → τ o j = σ o j := by
  intro k
  induction k with
  | zero => intro x1 x2 x3 x4 σ  h; cases h
  | succ k ih => intro x1 x2 x3 x4 σ  h; exact fr_s_X0_weighDay_16b ho rc8 H8 (s_X0_weighDay_16 n rc8 k) ih x1 x2 x3 x4 σ  h
set_option maxRecDepth 20000 in
theorem fr_s_X0_weighDay_8b {n o j : Nat} {τ : Sg} (ho : fok W_X0_weighDay o j = true) (rc8 : Int32 → Int32 → Int32 → Sg → Option Sg) (H8 : ∀ (x1 : Int32) (x2 : Int32) (x3 : Int32) (σ : Sg), rc8 x1 x2 x3 σ = some τ → τ o j = σ o j) (x1 : Int32) (x2 : Int32) (x3 : Int32) (σ : Sg) (h : s_X0_weighDay_8b n rc8 x1 x2 x3 σ = some τ) : τ o j = σ o j := by
  unfold s_X0_weighDay_8b at h
  have q : σ o j = σ o j := rfl
  rcases ite_of h with h | h
  · exact fr_e1 h q
  · exact (fr_s_X0_weighDay_16 ho rc8 H8 n x1 x2 x3 (0 : Int32) σ  h).trans q
theorem fr_s_X0_weighDay_8 {n o j : Nat} {τ : Sg} (ho : fok W_X0_weighDay o j = true) : ∀ (k : Nat) (x1 : Int32) (x2 : Int32) (x3 : Int32) (σ : Sg), s_X0_weighDay_8 n k x1 x2 x3 σ = some τ → τ o j = σ o j := by
  intro k
  induction k with
  | zero => intro x1 x2 x3 σ  h; cases h
  | succ k ih => intro x1 x2 x3 σ  h; exact fr_s_X0_weighDay_8b ho  (s_X0_weighDay_8 n  k) ih x1 x2 x3 σ  h
set_option maxRecDepth 20000 in
theorem fr_s_X0_weighDay {n o j : Nat} {τ : Sg} (ho : fok W_X0_weighDay o j = true) (x1 : Int32) (σ : Sg) (h : s_X0_weighDay n x1 σ = some τ) : τ o j = σ o j := by
  unfold s_X0_weighDay at h
  have q : σ o j = σ o j := rfl
  obtain ⟨r2, σ1, g, h⟩ := bd_of h
  have q : σ1 o j = σ o j := (fr_s_X0_oldestOn rfl _ _ g).trans q
  exact (fr_s_X0_weighDay_8 ho  n x1 r2 (0 : Int32) σ1  h).trans q
abbrev W_J7_fill_53178 : List (Nat × Option Nat) := []
set_option maxRecDepth 20000 in
theorem fr_s_J7_fill_53178_5b {n o j : Nat} {τ : Sg} (ho : fok W_J7_fill_53178 o j = true) (rc5 : Nat → Nat → Int32 → Int32 → Int32 → Sg → Option Sg) (H5 : ∀ (x0 : Nat) (m0 : Nat) (x1 : Int32) (x2 : Int32) (x3 : Int32) (σ : Sg), o ≠ x0 → rc5 x0 m0 x1 x2 x3 σ = some τ → τ o j = σ o j) (x0 : Nat) (m0 : Nat) (x1 : Int32) (x2 : Int32) (x3 : Int32) (σ : Sg) (hv_x0 : o ≠ x0) (h : s_J7_fill_53178_5b n rc5 x0 m0 x1 x2 x3 σ = some τ) : τ o j = σ o j := by
  unfold s_J7_fill_53178_5b at h
  have q : σ o j = σ o j := rfl
  rcases ite_of h with h | h
  · exact fr_e1 h q
  · have h := (ck_of h).2
    obtain ⟨σ2, e, h⟩ := lt_of h
    have q : σ2 o j = σ o j := by rw [e]; exact (up2_o hv_x0).trans q
    exact (H5 x0 m0 x1 (x2 + (1 : Int32)) x3 σ2 hv_x0 h).trans q
theorem fr_s_J7_fill_53178_5 {n o j : Nat} {τ : Sg} (ho : fok W_J7_fill_53178 o j = true) : ∀ (k : Nat) (x0 : Nat) (m0 : Nat) (x1 : Int32) (x2 : Int32) (x3 : Int32) (σ : Sg), o ≠ x0 → s_J7_fill_53178_5 n k x0 m0 x1 x2 x3 σ = some τ → τ o j = σ o j := by
  intro k
  induction k with
  | zero => intro x0 m0 x1 x2 x3 σ hv_x0 h; cases h
  | succ k ih => intro x0 m0 x1 x2 x3 σ hv_x0 h; exact fr_s_J7_fill_53178_5b ho  (s_J7_fill_53178_5 n  k) ih x0 m0 x1 x2 x3 σ hv_x0 h
set_option maxRecDepth 20000 in
theorem fr_s_J7_fill_53178 {n o j : Nat} {τ : Sg} (ho : fok W_J7_fill_53178 o j = true) (x0 : Nat) (m0 : Nat) (x1 : Int32) (σ : Sg) (hv_x0 : o ≠ x0) (h : s_J7_fill_53178 n x0 m0 x1 σ = some τ) : τ o j = σ o j := by
  unfold s_J7_fill_53178 at h
  have q : σ o j = σ o j := rfl
  obtain ⟨v1, -, h⟩ := lt_of h
  exact (fr_s_J7_fill_53178_5 ho  n x0 m0 x1 (0 : Int32) v1 σ hv_x0 h).trans q
abbrev W_X0_firstBest : List (Nat × Option Nat) := []
set_option maxRecDepth 20000 in
theorem fr_s_X0_firstBest_3b {n o j : Nat} {r : Int32} {τ : Sg} (ho : fok W_X0_firstBest o j = true) (rc3 : Int32 → Int32 → Int32 → Int32 → Int32 → Sg → Option (Int32 × Sg)) (H3 : ∀ (x1 : Int32) (x2 : Int32) (x3 : Int32) (x4 : Int32) (x5 : Int32) (σ : Sg), rc3 x1 x2 x3 x4 x5 σ = some (r, τ) → τ o j = σ o j) (x1 : Int32) (x2 : Int32) (x3 : Int32) (x4 : Int32) (x5 : Int32) (σ : Sg) (h : s_X0_firstBest_3b n rc3 x1 x2 x3 x4 x5 σ = some (r, τ)) : τ o j = σ o j := by
  unfold s_X0_firstBest_3b at h
  have q : σ o j = σ o j := rfl
  rcases ite_of h with h | h
  · exact fr_e2 h q
  · obtain ⟨r2, σ1, g, h⟩ := bd_of h
    have q : σ1 o j = σ o j := (fr_s_X0_costOf rfl _ _ _ _ _ _ g).trans q
    obtain ⟨r4, σ3, g, h⟩ := bd_of h
    have q : σ3 o j = σ o j := (fr_s_X0_place rfl _ _ _ _ _ g).trans q
    have h := (ck_of h).2
    rcases ite_of h with h | h
    · exact fr_e2 h q
    · exact (H3 x1 x2 x3 x4 (x5 + (1 : Int32)) σ3  h).trans q
theorem fr_s_X0_firstBest_3 {n o j : Nat} {r : Int32} {τ : Sg} (ho : fok W_X0_firstBest o j = true) : ∀ (k : Nat) (x1 : Int32) (x2 : Int32) (x3 : Int32) (x4 : Int32) (x5 : Int32) (σ : Sg), s_X0_firstBest_3 n k x1 x2 x3 x4 x5 σ = some (r, τ) → τ o j = σ o j := by
  intro k
  induction k with
  | zero => intro x1 x2 x3 x4 x5 σ  h; cases h
  | succ k ih => intro x1 x2 x3 x4 x5 σ  h; exact fr_s_X0_firstBest_3b ho  (s_X0_firstBest_3 n  k) ih x1 x2 x3 x4 x5 σ  h
set_option maxRecDepth 20000 in
theorem fr_s_X0_firstBest {n o j : Nat} {r : Int32} {τ : Sg} (ho : fok W_X0_firstBest o j = true) (x1 : Int32) (x2 : Int32) (x3 : Int32) (x4 : Int32) (σ : Sg) (h : s_X0_firstBest n x1 x2 x3 x4 σ = some (r, τ)) : τ o j = σ o j := by
  unfold s_X0_firstBest at h
  have q : σ o j = σ o j := rfl
  exact (fr_s_X0_firstBest_3 ho  n x1 x2 x3 x4 (-1 : Int32) σ  h).trans q
abbrev W_X0_follow : List (Nat × Option Nat) := [(68, some 1), (69, none)]
set_option maxRecDepth 20000 in
theorem fr_s_X0_follow_48b {n o j : Nat} {τ : Sg} (ho : fok W_X0_follow o j = true) (rc48 : Int32 → Int32 → Int32 → Int32 → Sg → Option Sg) (H48 : ∀ (x1 : Int32) (x2 : Int32) (x3 : Int32) (x4 : Int32) (σ : Sg), rc48 x1 x2 x3 x4 σ = some τ → τ o j = σ o j) (x1 : Int32) (x2 : Int32) (x3 : Int32) (x4 : Int32) (σ : Sg) (h : s_X0_follow_48b n rc48 x1 x2 x3 x4 σ = some τ) : τ o j = σ o j := by
  unfold s_X0_follow_48b at h
  have q : σ o j = σ o j := rfl
  rcases ite_of h with h | h
  · exact fr_e1 h q
  · obtain ⟨r7, σ6, g, h⟩ := bd_of h
    have q : σ6 o j = σ o j := (fr_s_X0_firstBest rfl _ _ _ _ _ g).trans q
    have h := (ck_of h).2
    obtain ⟨σ8, e, h⟩ := lt_of h
    have q : σ8 o j = σ o j := by rw [e]; exact (up2_o (fok_a ho (by decide))).trans q
    obtain ⟨r10, σ9, g, h⟩ := bd_of h
    have q : σ9 o j = σ o j := (fr_s_X0_older rfl _ _ _ _ _ g).trans q
    obtain ⟨r12, σ11, g, h⟩ := bd_of h
    have q : σ11 o j = σ o j := (fr_s_X0_older rfl _ _ _ _ _ g).trans q
    obtain ⟨r14, σ13, g, h⟩ := bd_of h
    have q : σ13 o j = σ o j := (fr_s_X0_older rfl _ _ _ _ _ g).trans q
    exact (H48 r10 r12 r14 (x4 + (1 : Int32)) σ13  h).trans q
theorem fr_s_X0_follow_48 {n o j : Nat} {τ : Sg} (ho : fok W_X0_follow o j = true) : ∀ (k : Nat) (x1 : Int32) (x2 : Int32) (x3 : Int32) (x4 : Int32) (σ : Sg), s_X0_follow_48 n k x1 x2 x3 x4 σ = some τ → τ o j = σ o j := by
  intro k
  induction k with
  | zero => intro x1 x2 x3 x4 σ  h; cases h
  | succ k ih => intro x1 x2 x3 x4 σ  h; exact fr_s_X0_follow_48b ho  (s_X0_follow_48 n  k) ih x1 x2 x3 x4 σ  h
set_option maxRecDepth 20000 in
theorem fr_s_X0_follow {n o j : Nat} {τ : Sg} (ho : fok W_X0_follow o j = true) (σ : Sg) (h : s_X0_follow n σ = some τ) : τ o j = σ o j := by
  unfold s_X0_follow at h
  have q : σ o j = σ o j := rfl
  obtain ⟨σ1, g, h⟩ := bdv_of h
  have q : σ1 o j = σ o j := (fr_s_J7_fill_53178 (fok_sub ho (by decide)) _ _ _ _ (fok_a ho (by decide)) g).trans q
  obtain ⟨r3, σ2, g, h⟩ := bd_of h
  have q : σ2 o j = σ o j := (fr_s_X0_place rfl _ _ _ _ _ g).trans q
  have h := (ck_of h).2
  obtain ⟨σ4, e, h⟩ := lt_of h
  have q : σ4 o j = σ o j := by rw [e]; exact (up2_f ho (by decide)).trans q
  rcases ite_of h with h | h
  · exact (fr_s_X0_follow_48 ho  n (0 : Int32) (0 : Int32) (0 : Int32) (0 : Int32) σ4  h).trans q
  · obtain ⟨σ5, e, h⟩ := lt_of h
    have q : σ5 o j = σ o j := by rw [e]; exact (up2_f ho (by decide)).trans q
    exact fr_e1 h q
abbrev W_X0_plan : List (Nat × Option Nat) := [(68, some 1), (68, some 2), (68, some 3), (68, some 4), (68, some 5), (68, some 6), (68, some 7), (69, none), (70, none)]
set_option maxRecDepth 20000 in
theorem fr_s_X0_plan_98b {n o j : Nat} {τ : Sg} (ho : fok W_X0_plan o j = true) (rc98 : Int32 → Sg → Option Sg) (H98 : ∀ (x6 : Int32) (σ : Sg), rc98 x6 σ = some τ → τ o j = σ o j) (x6 : Int32) (σ : Sg) (h : s_X0_plan_98b n rc98 x6 σ = some τ) : τ o j = σ o j := by
  unfold s_X0_plan_98b at h
  have q : σ o j = σ o j := rfl
  rcases ite_of h with h | h
  · obtain ⟨σ8, g, h⟩ := bdv_of h
    have q : σ8 o j = σ o j := (fr_s_X0_follow (fok_sub ho (by decide)) _  g).trans q
    exact fr_e1 h q
  · obtain ⟨σ9, g, h⟩ := bdv_of h
    have q : σ9 o j = σ o j := (fr_s_X0_weighDay (fok_sub ho (by decide)) _ _  g).trans q
    exact (H98 (x6 + (-1 : Int32)) σ9  h).trans q
theorem fr_s_X0_plan_98 {n o j : Nat} {τ : Sg} (ho : fok W_X0_plan o j = true) : ∀ (k : Nat) (x6 : Int32) (σ : Sg), s_X0_plan_98 n k x6 σ = some τ → τ o j = σ o j := by
  intro k
  induction k with
  | zero => intro x6 σ  h; cases h
  | succ k ih => intro x6 σ  h; exact fr_s_X0_plan_98b ho  (s_X0_plan_98 n  k) ih x6 σ  h
set_option maxRecDepth 20000 in
theorem fr_s_X0_plan_43 {n o j : Nat} {τ : Sg} (ho : fok W_X0_plan o j = true) (x1 : Int32) (x2 : Int32) (x3 : Int32) (x4 : Int32) (x5 : Int32) (σ : Sg) (h : s_X0_plan_43 n x1 x2 x3 x4 x5 σ = some τ) : τ o j = σ o j := by
  unfold s_X0_plan_43 at h
  have q : σ o j = σ o j := rfl
  obtain ⟨σ1, e, h⟩ := lt_of h
  have q : σ1 o j = σ o j := by rw [e]; exact (up2_f ho (by decide)).trans q
  obtain ⟨σ2, e, h⟩ := lt_of h
  have q : σ2 o j = σ o j := by rw [e]; exact (up2_f ho (by decide)).trans q
  obtain ⟨σ3, e, h⟩ := lt_of h
  have q : σ3 o j = σ o j := by rw [e]; exact (up2_f ho (by decide)).trans q
  obtain ⟨σ4, e, h⟩ := lt_of h
  have q : σ4 o j = σ o j := by rw [e]; exact (up2_f ho (by decide)).trans q
  obtain ⟨σ5, e, h⟩ := lt_of h
  have q : σ5 o j = σ o j := by rw [e]; exact (up2_f ho (by decide)).trans q
  rcases ite_of h with h | h
  · obtain ⟨σ7, e, h⟩ := lt_of h
    have q : σ7 o j = σ o j := by rw [e]; exact (up2_f ho (by decide)).trans q
    exact (fr_s_X0_plan_98 ho  n x5 σ7  h).trans q
  · have h := (dvc_of h).2
    obtain ⟨σ6, e, h⟩ := lt_of h
    have q : σ6 o j = σ o j := by rw [e]; exact (up2_f ho (by decide)).trans q
    exact (fr_s_X0_plan_98 ho  n x5 σ6  h).trans q
set_option maxRecDepth 20000 in
theorem fr_s_X0_plan {n o j : Nat} {τ : Sg} (ho : fok W_X0_plan o j = true) (x1 : Int32) (x2 : Int32) (x3 : Int32) (x4 : Int32) (x5 : Int32) (σ : Sg) (h : s_X0_plan n x1 x2 x3 x4 x5 σ = some τ) : τ o j = σ o j := by
  unfold s_X0_plan at h
  have q : σ o j = σ o j := rfl
  rcases ite_of h with h | h
  · rcases ite_of h with h | h
    · rcases ite_of h with h | h
      · rcases ite_of h with h | h
        · rcases ite_of h with h | h
          · exact fr_e1 h q
          · exact (fr_s_X0_plan_43 ho  x1 x2 x3 x4 x5 σ  h).trans q
        · exact (fr_s_X0_plan_43 ho  x1 x2 x3 x4 x5 σ  h).trans q
      · exact (fr_s_X0_plan_43 ho  x1 x2 x3 x4 x5 σ  h).trans q
    · exact (fr_s_X0_plan_43 ho  x1 x2 x3 x4 x5 σ  h).trans q
  · exact (fr_s_X0_plan_43 ho  x1 x2 x3 x4 x5 σ  h).trans q
abbrev W_X1_put : List (Nat × Option Nat) := [(63, some 0), (64, none), (65, none)]
set_option maxRecDepth 20000 in
theorem fr_s_X1_put {n o j : Nat} {r : Int32} {τ : Sg} (ho : fok W_X1_put o j = true) (x1 : Int32) (x2 : Int32) (σ : Sg) (h : s_X1_put n x1 x2 σ = some (r, τ)) : τ o j = σ o j := by
  unfold s_X1_put at h
  have q : σ o j = σ o j := rfl
  have h := (ck_of h).2
  obtain ⟨σ1, e, h⟩ := lt_of h
  have q : σ1 o j = σ o j := by rw [e]; exact (up2_o (fok_a ho (by decide))).trans q
  have h := (ck_of h).2
  obtain ⟨σ2, e, h⟩ := lt_of h
  have q : σ2 o j = σ o j := by rw [e]; exact (up2_o (fok_a ho (by decide))).trans q
  obtain ⟨σ3, e, h⟩ := lt_of h
  have q : σ3 o j = σ o j := by rw [e]; exact (up2_f ho (by decide)).trans q
  exact fr_e2 h q
abbrev W_X1_suppose : List (Nat × Option Nat) := [(63, some 1), (66, none)]
set_option maxRecDepth 20000 in
theorem fr_s_X1_suppose {n o j : Nat} {τ : Sg} (ho : fok W_X1_suppose o j = true) (x1 : Int32) (x2 : Int32) (σ : Sg) (h : s_X1_suppose n x1 x2 σ = some τ) : τ o j = σ o j := by
  unfold s_X1_suppose at h
  have q : σ o j = σ o j := rfl
  rcases ite_of h with h | h
  · obtain ⟨σ3, e, h⟩ := lt_of h
    have q : σ3 o j = σ o j := by rw [e]; exact (up2_f ho (by decide)).trans q
    exact fr_e1 h q
  · obtain ⟨σ1, e, h⟩ := lt_of h
    have q : σ1 o j = σ o j := by rw [e]; exact (up2_f ho (by decide)).trans q
    have h := (ck_of h).2
    obtain ⟨σ2, e, h⟩ := lt_of h
    have q : σ2 o j = σ o j := by rw [e]; exact (up2_o (fok_a ho (by decide))).trans q
    exact fr_e1 h q
abbrev W_X1_listSuspects : List (Nat × Option Nat) := [(63, some 8), (67, none)]
set_option maxRecDepth 20000 in
theorem fr_s_X1_listSuspects_7b {n o j : Nat} {τ : Sg} (ho : fok W_X1_listSuspects o j = true) (rc7 : Int32 → Sg → Option Sg) (H7 : ∀ (x1 : Int32) (σ : Sg), rc7 x1 σ = some τ → τ o j = σ o j) (x1 : Int32) (σ : Sg) (h : s_X1_listSuspects_7b n rc7 x1 σ = some τ) : τ o j = σ o j := by
  unfold s_X1_listSuspects_7b at h
  have q : σ o j = σ o j := rfl
  rcases ite_of h with h | h
  · exact fr_e1 h q
  · rcases ite_of h with h | h
    · exact fr_e1 h q
    · rcases ite_of h with h | h
      · have h := (ck_of h).2
        obtain ⟨σ2, e, h⟩ := lt_of h
        have q : σ2 o j = σ o j := by rw [e]; exact (up2_o (fok_a ho (by decide))).trans q
        obtain ⟨σ3, e, h⟩ := lt_of h
        have q : σ3 o j = σ o j := by rw [e]; exact (up2_f ho (by decide)).trans q
        exact (H7 (x1 + (1 : Int32)) σ3  h).trans q
      · exact (H7 (x1 + (1 : Int32)) σ  h).trans q
theorem fr_s_X1_listSuspects_7 {n o j : Nat} {τ : Sg} (ho : fok W_X1_listSuspects o j = true) : ∀ (k : Nat) (x1 : Int32) (σ : Sg), s_X1_listSuspects_7 n k x1 σ = some τ → τ o j = σ o j := by
  intro k
  induction k with
  | zero => intro x1 σ  h; cases h
  | succ k ih => intro x1 σ  h; exact fr_s_X1_listSuspects_7b ho  (s_X1_listSuspects_7 n  k) ih x1 σ  h
set_option maxRecDepth 20000 in
theorem fr_s_X1_listSuspects {n o j : Nat} {τ : Sg} (ho : fok W_X1_listSuspects o j = true) (σ : Sg) (h : s_X1_listSuspects n σ = some τ) : τ o j = σ o j := by
  unfold s_X1_listSuspects at h
  have q : σ o j = σ o j := rfl
  obtain ⟨σ1, e, h⟩ := lt_of h
  have q : σ1 o j = σ o j := by rw [e]; exact (up2_f ho (by decide)).trans q
  exact (fr_s_X1_listSuspects_7 ho  n (0 : Int32) σ1  h).trans q
abbrev W_X1_explains : List (Nat × Option Nat) := []
set_option maxRecDepth 20000 in
theorem fr_s_X1_explains_15b {n o j : Nat} {r : Int32} {τ : Sg} (ho : fok W_X1_explains o j = true) (rc2 : Int32 → Int32 → Sg → Option (Int32 × Sg)) (H2 : ∀ (x1 : Int32) (x2 : Int32) (σ : Sg), rc2 x1 x2 σ = some (r, τ) → τ o j = σ o j) (rc15 : Int32 → Int32 → Int32 → Int32 → Sg → Option (Int32 × Sg)) (H15 : ∀ (x1 : Int32) (x2 : Int32) (x3 : Int32) (x4 : Int32) (σ : Sg), rc15 x1 x2 x3 x4 σ = some (r, τ) → τ o j = σ o j) (x1 : Int32) (x2 : Int32) (x3 : Int32) (x4 : Int32) (σ : Sg) (h : s_X1_explains_15b n rc2 rc15 x1 x2 x3 x4 σ = some (r, τ)) : τ o j = σ o j := by
  unfold s_X1_explains_15b at h
  have q : σ o j = σ o j := rfl
  rcases ite_of h with h | h
  · have h := (ck_of h).2
    rcases ite_of h with h | h
    · exact (H2 x1 (x2 + (1 : Int32)) σ  h).trans q
    · exact fr_e2 h q
  · have h := (ck_of h).2
    have h := (ck_of h).2
    rcases ite_of h with h | h
    · have h := (ck_of h).2
      have h := (ck_of h).2
      obtain ⟨v1, -, h⟩ := lt_of h
      exact (H15 x1 x2 v1 (x4 + (1 : Int32)) σ  h).trans q
    · exact (H15 x1 x2 x3 (x4 + (1 : Int32)) σ  h).trans q
theorem fr_s_X1_explains_15 {n o j : Nat} {r : Int32} {τ : Sg} (ho : fok W_X1_explains o j = true) (rc2 : Int32 → Int32 → Sg → Option (Int32 × Sg)) (H2 : ∀ (x1 : Int32) (x2 : Int32) (σ : Sg), rc2 x1 x2 σ = some (r, τ) → τ o j = σ o j) : ∀ (k : Nat) (x1 : Int32) (x2 : Int32) (x3 : Int32) (x4 : Int32) (σ : Sg), s_X1_explains_15 n rc2 k x1 x2 x3 x4 σ = some (r, τ) → τ o j = σ o j := by
  intro k
  induction k with
  | zero => intro x1 x2 x3 x4 σ  h; cases h
  | succ k ih => intro x1 x2 x3 x4 σ  h; exact fr_s_X1_explains_15b ho rc2 H2 (s_X1_explains_15 n rc2 k) ih x1 x2 x3 x4 σ  h
set_option maxRecDepth 20000 in
theorem fr_s_X1_explains_2b {n o j : Nat} {r : Int32} {τ : Sg} (ho : fok W_X1_explains o j = true) (rc2 : Int32 → Int32 → Sg → Option (Int32 × Sg)) (H2 : ∀ (x1 : Int32) (x2 : Int32) (σ : Sg), rc2 x1 x2 σ = some (r, τ) → τ o j = σ o j) (x1 : Int32) (x2 : Int32) (σ : Sg) (h : s_X1_explains_2b n rc2 x1 x2 σ = some (r, τ)) : τ o j = σ o j := by
  unfold s_X1_explains_2b at h
  have q : σ o j = σ o j := rfl
  rcases ite_of h with h | h
  · exact fr_e2 h q
  · exact (fr_s_X1_explains_15 ho rc2 H2 n x1 x2 (0 : Int32) (0 : Int32) σ  h).trans q
theorem fr_s_X1_explains_2 {n o j : Nat} {r : Int32} {τ : Sg} (ho : fok W_X1_explains o j = true) : ∀ (k : Nat) (x1 : Int32) (x2 : Int32) (σ : Sg), s_X1_explains_2 n k x1 x2 σ = some (r, τ) → τ o j = σ o j := by
  intro k
  induction k with
  | zero => intro x1 x2 σ  h; cases h
  | succ k ih => intro x1 x2 σ  h; exact fr_s_X1_explains_2b ho  (s_X1_explains_2 n  k) ih x1 x2 σ  h
set_option maxRecDepth 20000 in
theorem fr_s_X1_explains {n o j : Nat} {r : Int32} {τ : Sg} (ho : fok W_X1_explains o j = true) (x1 : Int32) (σ : Sg) (h : s_X1_explains n x1 σ = some (r, τ)) : τ o j = σ o j := by
  unfold s_X1_explains at h
  have q : σ o j = σ o j := rfl
  exact (fr_s_X1_explains_2 ho  n x1 (0 : Int32) σ  h).trans q
abbrev W_J6_bitCount_0f7a4 : List (Nat × Option Nat) := []
set_option maxRecDepth 20000 in
theorem fr_s_J6_bitCount_0f7a4 {n o j : Nat} {r : Int32} {τ : Sg} (ho : fok W_J6_bitCount_0f7a4 o j = true) (x0 : Int32) (σ : Sg) (h : s_J6_bitCount_0f7a4 n x0 σ = some (r, τ)) : τ o j = σ o j := by
  unfold s_J6_bitCount_0f7a4 at h
  have q : σ o j = σ o j := rfl
  obtain ⟨v1, -, h⟩ := lt_of h
  obtain ⟨v2, -, h⟩ := lt_of h
  obtain ⟨v3, -, h⟩ := lt_of h
  obtain ⟨v4, -, h⟩ := lt_of h
  obtain ⟨v5, -, h⟩ := lt_of h
  exact fr_e2 h q
abbrev W_X1_asSet : List (Nat × Option Nat) := []
set_option maxRecDepth 20000 in
theorem fr_s_X1_asSet_4b {n o j : Nat} {r : Int32} {τ : Sg} (ho : fok W_X1_asSet o j = true) (rc4 : Int32 → Int32 → Int32 → Sg → Option (Int32 × Sg)) (H4 : ∀ (x1 : Int32) (x2 : Int32) (x3 : Int32) (σ : Sg), rc4 x1 x2 x3 σ = some (r, τ) → τ o j = σ o j) (x1 : Int32) (x2 : Int32) (x3 : Int32) (σ : Sg) (h : s_X1_asSet_4b n rc4 x1 x2 x3 σ = some (r, τ)) : τ o j = σ o j := by
  unfold s_X1_asSet_4b at h
  have q : σ o j = σ o j := rfl
  rcases ite_of h with h | h
  · exact fr_e2 h q
  · rcases ite_of h with h | h
    · have h := (ck_of h).2
      obtain ⟨v1, -, h⟩ := lt_of h
      exact (H4 x1 v1 (x3 + (1 : Int32)) σ  h).trans q
    · exact (H4 x1 x2 (x3 + (1 : Int32)) σ  h).trans q
theorem fr_s_X1_asSet_4 {n o j : Nat} {r : Int32} {τ : Sg} (ho : fok W_X1_asSet o j = true) : ∀ (k : Nat) (x1 : Int32) (x2 : Int32) (x3 : Int32) (σ : Sg), s_X1_asSet_4 n k x1 x2 x3 σ = some (r, τ) → τ o j = σ o j := by
  intro k
  induction k with
  | zero => intro x1 x2 x3 σ  h; cases h
  | succ k ih => intro x1 x2 x3 σ  h; exact fr_s_X1_asSet_4b ho  (s_X1_asSet_4 n  k) ih x1 x2 x3 σ  h
set_option maxRecDepth 20000 in
theorem fr_s_X1_asSet {n o j : Nat} {r : Int32} {τ : Sg} (ho : fok W_X1_asSet o j = true) (x1 : Int32) (σ : Sg) (h : s_X1_asSet n x1 σ = some (r, τ)) : τ o j = σ o j := by
  unfold s_X1_asSet at h
  have q : σ o j = σ o j := rfl
  exact (fr_s_X1_asSet_4 ho  n x1 (0 : Int32) (0 : Int32) σ  h).trans q
abbrev W_X1_search : List (Nat × Option Nat) := [(63, some 2), (63, some 3), (63, some 8), (67, none)]
set_option maxRecDepth 20000 in
theorem fr_s_X1_search_64 {n o j : Nat} {τ : Sg} (ho : fok W_X1_search o j = true) (rc18 : Int32 → Int32 → Sg → Option Sg) (H18 : ∀ (x1 : Int32) (x2 : Int32) (σ : Sg), rc18 x1 x2 σ = some τ → τ o j = σ o j) (x2 : Int32) (x3 : Int32) (σ : Sg) (h : s_X1_search_64 n rc18 x2 x3 σ = some τ) : τ o j = σ o j := by
  unfold s_X1_search_64 at h
  have q : σ o j = σ o j := rfl
  obtain ⟨r10, σ9, g, h⟩ := bd_of h
  have q : σ9 o j = σ o j := (fr_s_X1_asSet rfl _ _ g).trans q
  obtain ⟨σ11, e, h⟩ := lt_of h
  have q : σ11 o j = σ o j := by rw [e]; exact (up2_f ho (by decide)).trans q
  exact (H18 x3 (x2 + (1 : Int32)) σ11  h).trans q
set_option maxRecDepth 20000 in
theorem fr_s_X1_search_18b {n o j : Nat} {τ : Sg} (ho : fok W_X1_search o j = true) (rc18 : Int32 → Int32 → Sg → Option Sg) (H18 : ∀ (x1 : Int32) (x2 : Int32) (σ : Sg), rc18 x1 x2 σ = some τ → τ o j = σ o j) (x1 : Int32) (x2 : Int32) (σ : Sg) (h : s_X1_search_18b n rc18 x1 x2 σ = some τ) : τ o j = σ o j := by
  unfold s_X1_search_18b at h
  have q : σ o j = σ o j := rfl
  rcases ite_of h with h | h
  · exact fr_e1 h q
  · obtain ⟨r5, σ4, g, h⟩ := bd_of h
    have q : σ4 o j = σ o j := (fr_s_X1_explains rfl _ _ g).trans q
    rcases ite_of h with h | h
    · exact (H18 x1 (x2 + (1 : Int32)) σ4  h).trans q
    · obtain ⟨σ6, e, h⟩ := lt_of h
      have q : σ6 o j = σ o j := by rw [e]; exact (up2_f ho (by decide)).trans q
      obtain ⟨r8, σ7, g, h⟩ := bd_of h
      have q : σ7 o j = σ o j := (fr_s_J6_bitCount_0f7a4 rfl _ _ g).trans q
      rcases ite_of h with h | h
      · exact (fr_s_X1_search_64 ho rc18 H18 x2 r8 σ7  h).trans q
      · rcases ite_of h with h | h
        · exact (H18 x1 (x2 + (1 : Int32)) σ7  h).trans q
        · exact (fr_s_X1_search_64 ho rc18 H18 x2 r8 σ7  h).trans q
theorem fr_s_X1_search_18 {n o j : Nat} {τ : Sg} (ho : fok W_X1_search o j = true) : ∀ (k : Nat) (x1 : Int32) (x2 : Int32) (σ : Sg), s_X1_search_18 n k x1 x2 σ = some τ → τ o j = σ o j := by
  intro k
  induction k with
  | zero => intro x1 x2 σ  h; cases h
  | succ k ih => intro x1 x2 σ  h; exact fr_s_X1_search_18b ho  (s_X1_search_18 n  k) ih x1 x2 σ  h
set_option maxRecDepth 20000 in
theorem fr_s_X1_search {n o j : Nat} {τ : Sg} (ho : fok W_X1_search o j = true) (σ : Sg) (h : s_X1_search n σ = some τ) : τ o j = σ o j := by
  unfold s_X1_search at h
  have q : σ o j = σ o j := rfl
  obtain ⟨σ1, g, h⟩ := bdv_of h
  have q : σ1 o j = σ o j := (fr_s_X1_listSuspects (fok_sub ho (by decide)) _  g).trans q
  obtain ⟨σ2, e, h⟩ := lt_of h
  have q : σ2 o j = σ o j := by rw [e]; exact (up2_f ho (by decide)).trans q
  obtain ⟨σ3, e, h⟩ := lt_of h
  have q : σ3 o j = σ o j := by rw [e]; exact (up2_f ho (by decide)).trans q
  exact (fr_s_X1_search_18 ho  n (0 : Int32) (0 : Int32) σ3  h).trans q
abbrev W_X2_forgetKeys : List (Nat × Option Nat) := []
set_option maxRecDepth 20000 in
theorem fr_s_X2_forgetKeys {n o j : Nat} {τ : Sg} (ho : fok W_X2_forgetKeys o j = true) (x0 : Nat) (σ : Sg) (hv_x0 : o ≠ x0) (h : s_X2_forgetKeys n x0 σ = some τ) : τ o j = σ o j := by
  unfold s_X2_forgetKeys at h
  have q : σ o j = σ o j := rfl
  obtain ⟨σ1, e, h⟩ := lt_of h
  have q : σ1 o j = σ o j := by rw [e]; exact (up2_o hv_x0).trans q
  obtain ⟨σ2, e, h⟩ := lt_of h
  have q : σ2 o j = σ o j := by rw [e]; exact (up2_o hv_x0).trans q
  exact fr_e1 h q
abbrev W_X2_sayNothing : List (Nat × Option Nat) := []
set_option maxRecDepth 20000 in
theorem fr_s_X2_sayNothing {n o j : Nat} {τ : Sg} (ho : fok W_X2_sayNothing o j = true) (x0 : Nat) (σ : Sg) (hv_x0 : o ≠ x0) (h : s_X2_sayNothing n x0 σ = some τ) : τ o j = σ o j := by
  unfold s_X2_sayNothing at h
  have q : σ o j = σ o j := rfl
  obtain ⟨σ1, e, h⟩ := lt_of h
  have q : σ1 o j = σ o j := by rw [e]; exact (up2_o hv_x0).trans q
  obtain ⟨σ2, e, h⟩ := lt_of h
  have q : σ2 o j = σ o j := by rw [e]; exact (up2_o hv_x0).trans q
  obtain ⟨σ3, e, h⟩ := lt_of h
  have q : σ3 o j = σ o j := by rw [e]; exact (up2_o hv_x0).trans q
  obtain ⟨σ4, e, h⟩ := lt_of h
  have q : σ4 o j = σ o j := by rw [e]; exact (up2_o hv_x0).trans q
  obtain ⟨σ5, g, h⟩ := bdv_of h
  have q : σ5 o j = σ o j := (fr_s_X2_forgetKeys (fok_sub ho (by decide)) _ _ hv_x0 g).trans q
  obtain ⟨σ6, e, h⟩ := lt_of h
  have q : σ6 o j = σ o j := by rw [e]; exact (up2_o hv_x0).trans q
  exact fr_e1 h q
abbrev W_X2_addKey : List (Nat × Option Nat) := []
set_option maxRecDepth 20000 in
theorem fr_s_X2_addKey {n o j : Nat} {τ : Sg} (ho : fok W_X2_addKey o j = true) (x0 : Nat) (x1 : Int32) (σ : Sg) (hv_x0 : o ≠ x0) (h : s_X2_addKey n x0 x1 σ = some τ) : τ o j = σ o j := by
  unfold s_X2_addKey at h
  have q : σ o j = σ o j := rfl
  obtain ⟨σ1, e, h⟩ := lt_of h
  have q : σ1 o j = σ o j := by rw [e]; exact (up2_o hv_x0).trans q
  obtain ⟨σ2, e, h⟩ := lt_of h
  have q : σ2 o j = σ o j := by rw [e]; exact (up2_o hv_x0).trans q
  exact fr_e1 h q
abbrev W_X2_sayWhatHoldsAtFirst : List (Nat × Option Nat) := []
set_option maxRecDepth 20000 in
theorem fr_s_X2_sayWhatHoldsAtFirst {n o j : Nat} {τ : Sg} (ho : fok W_X2_sayWhatHoldsAtFirst o j = true) (x0 : Nat) (σ : Sg) (hv_x0 : o ≠ x0) (h : s_X2_sayWhatHoldsAtFirst n x0 σ = some τ) : τ o j = σ o j := by
  unfold s_X2_sayWhatHoldsAtFirst at h
  have q : σ o j = σ o j := rfl
  obtain ⟨σ1, e, h⟩ := lt_of h
  have q : σ1 o j = σ o j := by rw [e]; exact (up2_o hv_x0).trans q
  obtain ⟨σ2, e, h⟩ := lt_of h
  have q : σ2 o j = σ o j := by rw [e]; exact (up2_o hv_x0).trans q
  obtain ⟨σ3, e, h⟩ := lt_of h
  have q : σ3 o j = σ o j := by rw [e]; exact (up2_o hv_x0).trans q
  obtain ⟨σ4, e, h⟩ := lt_of h
  have q : σ4 o j = σ o j := by rw [e]; exact (up2_o hv_x0).trans q
  obtain ⟨σ5, g, h⟩ := bdv_of h
  have q : σ5 o j = σ o j := (fr_s_X2_forgetKeys (fok_sub ho (by decide)) _ _ hv_x0 g).trans q
  obtain ⟨σ6, g, h⟩ := bdv_of h
  have q : σ6 o j = σ o j := (fr_s_X2_addKey (fok_sub ho (by decide)) _ _ _ hv_x0 g).trans q
  obtain ⟨σ7, g, h⟩ := bdv_of h
  have q : σ7 o j = σ o j := (fr_s_X2_addKey (fok_sub ho (by decide)) _ _ _ hv_x0 g).trans q
  exact fr_e1 h q
abbrev W_X2_follow : List (Nat × Option Nat) := []
set_option maxRecDepth 20000 in
theorem fr_s_X2_follow_56 {n o j : Nat} {τ : Sg} (ho : fok W_X2_follow o j = true) (x0 : Nat) (x1 : Nat) (σ : Sg) (hv_x0 : o ≠ x0) (h : s_X2_follow_56 n x0 x1 σ = some τ) : τ o j = σ o j := by
  unfold s_X2_follow_56 at h
  have q : σ o j = σ o j := rfl
  rcases ite_of h with h | h
  · exact fr_e1 h q
  · obtain ⟨σ5, e, h⟩ := lt_of h
    have q : σ5 o j = σ o j := by rw [e]; exact (up2_o hv_x0).trans q
    obtain ⟨σ6, e, h⟩ := lt_of h
    have q : σ6 o j = σ o j := by rw [e]; exact (up2_o hv_x0).trans q
    exact fr_e1 h q
set_option maxRecDepth 20000 in
theorem fr_s_X2_follow_40 {n o j : Nat} {τ : Sg} (ho : fok W_X2_follow o j = true) (x0 : Nat) (x1 : Nat) (σ : Sg) (hv_x0 : o ≠ x0) (h : s_X2_follow_40 n x0 x1 σ = some τ) : τ o j = σ o j := by
  unfold s_X2_follow_40 at h
  have q : σ o j = σ o j := rfl
  rcases ite_of h with h | h
  · exact (fr_s_X2_follow_56 ho  x0 x1 σ hv_x0 h).trans q
  · obtain ⟨σ4, e, h⟩ := lt_of h
    have q : σ4 o j = σ o j := by rw [e]; exact (up2_o hv_x0).trans q
    exact (fr_s_X2_follow_56 ho  x0 x1 σ4 hv_x0 h).trans q
set_option maxRecDepth 20000 in
theorem fr_s_X2_follow_24 {n o j : Nat} {τ : Sg} (ho : fok W_X2_follow o j = true) (x0 : Nat) (x1 : Nat) (σ : Sg) (hv_x0 : o ≠ x0) (h : s_X2_follow_24 n x0 x1 σ = some τ) : τ o j = σ o j := by
  unfold s_X2_follow_24 at h
  have q : σ o j = σ o j := rfl
  rcases ite_of h with h | h
  · exact (fr_s_X2_follow_40 ho  x0 x1 σ hv_x0 h).trans q
  · obtain ⟨σ3, e, h⟩ := lt_of h
    have q : σ3 o j = σ o j := by rw [e]; exact (up2_o hv_x0).trans q
    exact (fr_s_X2_follow_40 ho  x0 x1 σ3 hv_x0 h).trans q
set_option maxRecDepth 20000 in
theorem fr_s_X2_follow {n o j : Nat} {τ : Sg} (ho : fok W_X2_follow o j = true) (x0 : Nat) (x1 : Nat) (σ : Sg) (hv_x0 : o ≠ x0) (h : s_X2_follow n x0 x1 σ = some τ) : τ o j = σ o j := by
  unfold s_X2_follow at h
  have q : σ o j = σ o j := rfl
  rcases ite_of h with h | h
  · exact (fr_s_X2_follow_24 ho  x0 x1 σ hv_x0 h).trans q
  · obtain ⟨σ1, e, h⟩ := lt_of h
    have q : σ1 o j = σ o j := by rw [e]; exact (up2_o hv_x0).trans q
    obtain ⟨σ2, e, h⟩ := lt_of h
    have q : σ2 o j = σ o j := by rw [e]; exact (up2_o hv_x0).trans q
    exact (fr_s_X2_follow_24 ho  x0 x1 σ2 hv_x0 h).trans q
abbrev W_X2_key : List (Nat × Option Nat) := []
set_option maxRecDepth 20000 in
theorem fr_s_X2_key {n o j : Nat} {r : Int32} {τ : Sg} (ho : fok W_X2_key o j = true) (x0 : Nat) (x1 : Int32) (σ : Sg) (h : s_X2_key n x0 x1 σ = some (r, τ)) : τ o j = σ o j := by
  unfold s_X2_key at h
  have q : σ o j = σ o j := rfl
  exact fr_e2 h q
abbrev W_X2_hasKey : List (Nat × Option Nat) := []
set_option maxRecDepth 20000 in
theorem fr_s_X2_hasKey_2b {n o j : Nat} {r : Int32} {τ : Sg} (ho : fok W_X2_hasKey o j = true) (rc2 : Nat → Int32 → Int32 → Sg → Option (Int32 × Sg)) (H2 : ∀ (x0 : Nat) (x1 : Int32) (x2 : Int32) (σ : Sg), rc2 x0 x1 x2 σ = some (r, τ) → τ o j = σ o j) (x0 : Nat) (x1 : Int32) (x2 : Int32) (σ : Sg) (h : s_X2_hasKey_2b n rc2 x0 x1 x2 σ = some (r, τ)) : τ o j = σ o j := by
  unfold s_X2_hasKey_2b at h
  have q : σ o j = σ o j := rfl
  rcases ite_of h with h | h
  · exact fr_e2 h q
  · obtain ⟨r2, σ1, g, h⟩ := bd_of h
    have q : σ1 o j = σ o j := (fr_s_X2_key rfl _ _ _ g).trans q
    rcases ite_of h with h | h
    · exact fr_e2 h q
    · exact (H2 x0 x1 (x2 + (1 : Int32)) σ1  h).trans q
theorem fr_s_X2_hasKey_2 {n o j : Nat} {r : Int32} {τ : Sg} (ho : fok W_X2_hasKey o j = true) : ∀ (k : Nat) (x0 : Nat) (x1 : Int32) (x2 : Int32) (σ : Sg), s_X2_hasKey_2 n k x0 x1 x2 σ = some (r, τ) → τ o j = σ o j := by
  intro k
  induction k with
  | zero => intro x0 x1 x2 σ  h; cases h
  | succ k ih => intro x0 x1 x2 σ  h; exact fr_s_X2_hasKey_2b ho  (s_X2_hasKey_2 n  k) ih x0 x1 x2 σ  h
set_option maxRecDepth 20000 in
theorem fr_s_X2_hasKey {n o j : Nat} {r : Int32} {τ : Sg} (ho : fok W_X2_hasKey o j = true) (x0 : Nat) (x1 : Int32) (σ : Sg) (h : s_X2_hasKey n x0 x1 σ = some (r, τ)) : τ o j = σ o j := by
  unfold s_X2_hasKey at h
  have q : σ o j = σ o j := rfl
  exact (fr_s_X2_hasKey_2 ho  n x0 x1 (0 : Int32) σ  h).trans q
abbrev W_X2_isTurnHour : List (Nat × Option Nat) := []
set_option maxRecDepth 20000 in
theorem fr_s_X2_isTurnHour_20 {n o j : Nat} {r : Int32} {τ : Sg} (ho : fok W_X2_isTurnHour o j = true) (σ : Sg) (h : s_X2_isTurnHour_20 n σ = some (r, τ)) : τ o j = σ o j := by
  unfold s_X2_isTurnHour_20 at h
  have q : σ o j = σ o j := rfl
  exact fr_e2 h q
set_option maxRecDepth 20000 in
theorem fr_s_X2_isTurnHour {n o j : Nat} {r : Int32} {τ : Sg} (ho : fok W_X2_isTurnHour o j = true) (x0 : Nat) (x1 : Int32) (σ : Sg) (h : s_X2_isTurnHour n x0 x1 σ = some (r, τ)) : τ o j = σ o j := by
  unfold s_X2_isTurnHour at h
  have q : σ o j = σ o j := rfl
  rcases ite_of h with h | h
  · exact (fr_s_X2_isTurnHour_20 ho  σ  h).trans q
  · rcases ite_of h with h | h
    · exact (fr_s_X2_isTurnHour_20 ho  σ  h).trans q
    · exact fr_e2 h q
abbrev W_X4_isOpen : List (Nat × Option Nat) := []
set_option maxRecDepth 20000 in
theorem fr_s_X4_isOpen {n o j : Nat} {r : Int32} {τ : Sg} (ho : fok W_X4_isOpen o j = true) (x1 : Int32) (σ : Sg) (h : s_X4_isOpen n x1 σ = some (r, τ)) : τ o j = σ o j := by
  unfold s_X4_isOpen at h
  have q : σ o j = σ o j := rfl
  rcases ite_of h with h | h
  · exact fr_e2 h q
  · exact fr_e2 h q
abbrev W_X3_widen : List (Nat × Option Nat) := [(47, none), (48, none)]
set_option maxRecDepth 20000 in
theorem fr_s_X3_widen {n o j : Nat} {τ : Sg} (ho : fok W_X3_widen o j = true) (x1 : Int32) (x2 : Int32) (x3 : Int32) (σ : Sg) (h : s_X3_widen n x1 x2 x3 σ = some τ) : τ o j = σ o j := by
  unfold s_X3_widen at h
  have q : σ o j = σ o j := rfl
  have h := (ck_of h).2
  obtain ⟨v1, -, h⟩ := lt_of h
  have h := (ck_of h).2
  obtain ⟨σ2, e, h⟩ := lt_of h
  have q : σ2 o j = σ o j := by rw [e]; exact (up2_o (fok_a ho (by decide))).trans q
  rcases ite_of h with h | h
  · have h := (ck_of h).2
    have h := (ck_of h).2
    obtain ⟨σ3, e, h⟩ := lt_of h
    have q : σ3 o j = σ o j := by rw [e]; exact (up2_o (fok_a ho (by decide))).trans q
    exact fr_e1 h q
  · have h := (ck_of h).2
    have h := (ck_of h).2
    obtain ⟨σ4, e, h⟩ := lt_of h
    have q : σ4 o j = σ o j := by rw [e]; exact (up2_o (fok_a ho (by decide))).trans q
    exact fr_e1 h q
abbrev W_X3_begin : List (Nat × Option Nat) := [(47, none), (48, none)]
set_option maxRecDepth 20000 in
theorem fr_s_X3_begin_19b {n o j : Nat} {τ : Sg} (ho : fok W_X3_begin o j = true) (rc19 : Int32 → Int32 → Int32 → Int32 → Sg → Option Sg) (H19 : ∀ (x2 : Int32) (x3 : Int32) (x4 : Int32) (x5 : Int32) (σ : Sg), rc19 x2 x3 x4 x5 σ = some τ → τ o j = σ o j) (x2 : Int32) (x3 : Int32) (x4 : Int32) (x5 : Int32) (σ : Sg) (h : s_X3_begin_19b n rc19 x2 x3 x4 x5 σ = some τ) : τ o j = σ o j := by
  unfold s_X3_begin_19b at h
  have q : σ o j = σ o j := rfl
  rcases ite_of h with h | h
  · obtain ⟨σ3, g, h⟩ := bdv_of h
    have q : σ3 o j = σ o j := (fr_s_X3_widen (fok_sub ho (by decide)) _ _ _ _  g).trans q
    obtain ⟨σ4, g, h⟩ := bdv_of h
    have q : σ4 o j = σ o j := (fr_s_X3_widen (fok_sub ho (by decide)) _ _ _ _  g).trans q
    exact fr_e1 h q
  · obtain ⟨r6, σ5, g, h⟩ := bd_of h
    have q : σ5 o j = σ o j := (fr_s_X4_isOpen rfl _ _ g).trans q
    rcases ite_of h with h | h
    · exact (H19 x2 x3 x4 (x5 + (1 : Int32)) σ5  h).trans q
    · have h := (ck_of h).2
      have h := (ck_of h).2
      have h := (ck_of h).2
      obtain ⟨σ7, g, h⟩ := bdv_of h
      have q : σ7 o j = σ o j := (fr_s_X3_widen (fok_sub ho (by decide)) _ _ _ _  g).trans q
      have h := (ck_of h).2
      have h := (ck_of h).2
      have h := (ck_of h).2
      obtain ⟨σ8, g, h⟩ := bdv_of h
      have q : σ8 o j = σ o j := (fr_s_X3_widen (fok_sub ho (by decide)) _ _ _ _  g).trans q
      exact (H19 x2 x3 x4 (x5 + (1 : Int32)) σ8  h).trans q
theorem fr_s_X3_begin_19 {n o j : Nat} {τ : Sg} (ho : fok W_X3_begin o j = true) : ∀ (k : Nat) (x2 : Int32) (x3 : Int32) (x4 : Int32) (x5 : Int32) (σ : Sg), s_X3_begin_19 n k x2 x3 x4 x5 σ = some τ → τ o j = σ o j := by
  intro k
  induction k with
  | zero => intro x2 x3 x4 x5 σ  h; cases h
  | succ k ih => intro x2 x3 x4 x5 σ  h; exact fr_s_X3_begin_19b ho  (s_X3_begin_19 n  k) ih x2 x3 x4 x5 σ  h
set_option maxRecDepth 20000 in
theorem fr_s_X3_begin {n o j : Nat} {τ : Sg} (ho : fok W_X3_begin o j = true) (x2 : Int32) (x3 : Int32) (x4 : Int32) (σ : Sg) (h : s_X3_begin n x2 x3 x4 σ = some τ) : τ o j = σ o j := by
  unfold s_X3_begin at h
  have q : σ o j = σ o j := rfl
  obtain ⟨σ1, g, h⟩ := bdv_of h
  have q : σ1 o j = σ o j := (fr_s_J7_fill_53178 (fok_sub ho (by decide)) _ _ _ _ (fok_a ho (by decide)) g).trans q
  obtain ⟨σ2, g, h⟩ := bdv_of h
  have q : σ2 o j = σ o j := (fr_s_J7_fill_53178 (fok_sub ho (by decide)) _ _ _ _ (fok_a ho (by decide)) g).trans q
  exact (fr_s_X3_begin_19 ho  n x2 x3 x4 (0 : Int32) σ2  h).trans q
abbrev W_X3_findWay : List (Nat × Option Nat) := [(49, none), (50, none)]
set_option maxRecDepth 20000 in
theorem fr_s_X3_findWay_112 {n o j : Nat} {r : Int32} {τ : Sg} (ho : fok W_X3_findWay o j = true) (rc17 : Int32 → Int32 → Int32 → Int32 → Sg → Option (Int32 × Sg)) (H17 : ∀ (x1 : Int32) (x2 : Int32) (x3 : Int32) (x4 : Int32) (σ : Sg), rc17 x1 x2 x3 x4 σ = some (r, τ) → τ o j = σ o j) (x1 : Int32) (x2 : Int32) (x3 : Int32) (x4 : Int32) (σ : Sg) (h : s_X3_findWay_112 n rc17 x1 x2 x3 x4 σ = some (r, τ)) : τ o j = σ o j := by
  unfold s_X3_findWay_112 at h
  have q : σ o j = σ o j := rfl
  rcases ite_of h with h | h
  · exact fr_e2 h q
  · exact (H17 x1 x2 x3 (x4 + (1 : Int32)) σ  h).trans q
set_option maxRecDepth 20000 in
theorem fr_s_X3_findWay_60b {n o j : Nat} {r : Int32} {τ : Sg} (ho : fok W_X3_findWay o j = true) (rc17 : Int32 → Int32 → Int32 → Int32 → Sg → Option (Int32 × Sg)) (H17 : ∀ (x1 : Int32) (x2 : Int32) (x3 : Int32) (x4 : Int32) (σ : Sg), rc17 x1 x2 x3 x4 σ = some (r, τ) → τ o j = σ o j) (rc60 : Int32 → Int32 → Int32 → Int32 → Int32 → Int32 → Int32 → Sg → Option (Int32 × Sg)) (H60 : ∀ (x1 : Int32) (x2 : Int32) (x3 : Int32) (x4 : Int32) (x5 : Int32) (x6 : Int32) (x7 : Int32) (σ : Sg), rc60 x1 x2 x3 x4 x5 x6 x7 σ = some (r, τ) → τ o j = σ o j) (x1 : Int32) (x2 : Int32) (x3 : Int32) (x4 : Int32) (x5 : Int32) (x6 : Int32) (x7 : Int32) (σ : Sg) (h : s_X3_findWay_60b n rc17 rc60 x1 x2 x3 x4 x5 x6 x7 σ = some (r, τ)) : τ o j = σ o j := by
  unfold s_X3_findWay_60b at h
  have q : σ o j = σ o j := rfl
  rcases ite_of h with h | h
  · exact (fr_s_X3_findWay_112 ho rc17 H17 x1 x2 x3 x4 σ  h).trans q
  · rcases ite_of h with h | h
    · exact (fr_s_X3_findWay_112 ho rc17 H17 x1 x2 x3 x4 σ  h).trans q
    · rcases ite_of h with h | h
      · have h := (ck_of h).2
        obtain ⟨σ5, e, h⟩ := lt_of h
        have q : σ5 o j = σ o j := by rw [e]; exact (up2_o (fok_a ho (by decide))).trans q
        have h := (ck_of h).2
        obtain ⟨σ6, e, h⟩ := lt_of h
        have q : σ6 o j = σ o j := by rw [e]; exact (up2_o (fok_a ho (by decide))).trans q
        exact (H60 x1 x2 (x3 + (1 : Int32)) x4 x5 x6 (x7 + (1 : Int32)) σ6  h).trans q
      · exact (H60 x1 x2 x3 x4 x5 x6 (x7 + (1 : Int32)) σ  h).trans q
theorem fr_s_X3_findWay_60 {n o j : Nat} {r : Int32} {τ : Sg} (ho : fok W_X3_findWay o j = true) (rc17 : Int32 → Int32 → Int32 → Int32 → Sg → Option (Int32 × Sg)) (H17 : ∀ (x1 : Int32) (x2 : Int32) (x3 : Int32) (x4 : Int32) (σ : Sg), rc17 x1 x2 x3 x4 σ = some (r, τ) → τ o j = σ o j) : ∀ (k : Nat) (x1 : Int32) (x2 : Int32) (x3 : Int32) (x4 : Int32) (x5 : Int32) (x6 : Int32) (x7 : Int32) (σ : Sg), s_X3_findWay_60 n rc17 k x1 x2 x3 x4 x5 x6 x7 σ = some (r, τ) → τ o j = σ o j := by
  intro k
  induction k with
  | zero => intro x1 x2 x3 x4 x5 x6 x7 σ  h; cases h
  | succ k ih => intro x1 x2 x3 x4 x5 x6 x7 σ  h; exact fr_s_X3_findWay_60b ho rc17 H17 (s_X3_findWay_60 n rc17 k) ih x1 x2 x3 x4 x5 x6 x7 σ  h
set_option maxRecDepth 20000 in
theorem fr_s_X3_findWay_17b {n o j : Nat} {r : Int32} {τ : Sg} (ho : fok W_X3_findWay o j = true) (rc17 : Int32 → Int32 → Int32 → Int32 → Sg → Option (Int32 × Sg)) (H17 : ∀ (x1 : Int32) (x2 : Int32) (x3 : Int32) (x4 : Int32) (σ : Sg), rc17 x1 x2 x3 x4 σ = some (r, τ) → τ o j = σ o j) (x1 : Int32) (x2 : Int32) (x3 : Int32) (x4 : Int32) (σ : Sg) (h : s_X3_findWay_17b n rc17 x1 x2 x3 x4 σ = some (r, τ)) : τ o j = σ o j := by
  unfold s_X3_findWay_17b at h
  have q : σ o j = σ o j := rfl
  rcases ite_of h with h | h
  · exact fr_e2 h q
  · rcases ite_of h with h | h
    · exact fr_e2 h q
    · have h := (ck_of h).2
      obtain ⟨v2, -, h⟩ := lt_of h
      have h := (ck_of h).2
      obtain ⟨v3, -, h⟩ := lt_of h
      obtain ⟨v4, -, h⟩ := lt_of h
      exact (fr_s_X3_findWay_60 ho rc17 H17 n x1 v4 x3 x4 v2 v3 (0 : Int32) σ  h).trans q
theorem fr_s_X3_findWay_17 {n o j : Nat} {r : Int32} {τ : Sg} (ho : fok W_X3_findWay o j = true) : ∀ (k : Nat) (x1 : Int32) (x2 : Int32) (x3 : Int32) (x4 : Int32) (σ : Sg), s_X3_findWay_17 n k x1 x2 x3 x4 σ = some (r, τ) → τ o j = σ o j := by
  intro k
  induction k with
  | zero => intro x1 x2 x3 x4 σ  h; cases h
  | succ k ih => intro x1 x2 x3 x4 σ  h; exact fr_s_X3_findWay_17b ho  (s_X3_findWay_17 n  k) ih x1 x2 x3 x4 σ  h
set_option maxRecDepth 20000 in
theorem fr_s_X3_findWay {n o j : Nat} {r : Int32} {τ : Sg} (ho : fok W_X3_findWay o j = true) (x1 : Int32) (σ : Sg) (h : s_X3_findWay n x1 σ = some (r, τ)) : τ o j = σ o j := by
  unfold s_X3_findWay at h
  have q : σ o j = σ o j := rfl
  have h := (ck_of h).2
  obtain ⟨σ1, e, h⟩ := lt_of h
  have q : σ1 o j = σ o j := by rw [e]; exact (up2_o (fok_a ho (by decide))).trans q
  exact (fr_s_X3_findWay_17 ho  n x1 (1024 : Int32) (1 : Int32) (0 : Int32) σ1  h).trans q
abbrev W_X3_narrowest : List (Nat × Option Nat) := []
set_option maxRecDepth 20000 in
theorem fr_s_X3_narrowest_9b {n o j : Nat} {r : Int32} {τ : Sg} (ho : fok W_X3_narrowest o j = true) (rc9 : Int32 → Int32 → Int32 → Sg → Option (Int32 × Sg)) (H9 : ∀ (x2 : Int32) (x3 : Int32) (x4 : Int32) (σ : Sg), rc9 x2 x3 x4 σ = some (r, τ) → τ o j = σ o j) (x2 : Int32) (x3 : Int32) (x4 : Int32) (σ : Sg) (h : s_X3_narrowest_9b n rc9 x2 x3 x4 σ = some (r, τ)) : τ o j = σ o j := by
  unfold s_X3_narrowest_9b at h
  have q : σ o j = σ o j := rfl
  rcases ite_of h with h | h
  · exact fr_e2 h q
  · rcases ite_of h with h | h
    · exact fr_e2 h q
    · have h := (ck_of h).2
      have h := (ck_of h).2
      obtain ⟨v1, -, h⟩ := lt_of h
      have h := (ck_of h).2
      obtain ⟨v2, -, h⟩ := lt_of h
      exact (H9 v1 v2 (x4 + (1 : Int32)) σ  h).trans q
theorem fr_s_X3_narrowest_9 {n o j : Nat} {r : Int32} {τ : Sg} (ho : fok W_X3_narrowest o j = true) : ∀ (k : Nat) (x2 : Int32) (x3 : Int32) (x4 : Int32) (σ : Sg), s_X3_narrowest_9 n k x2 x3 x4 σ = some (r, τ) → τ o j = σ o j := by
  intro k
  induction k with
  | zero => intro x2 x3 x4 σ  h; cases h
  | succ k ih => intro x2 x3 x4 σ  h; exact fr_s_X3_narrowest_9b ho  (s_X3_narrowest_9 n  k) ih x2 x3 x4 σ  h
set_option maxRecDepth 20000 in
theorem fr_s_X3_narrowest {n o j : Nat} {r : Int32} {τ : Sg} (ho : fok W_X3_narrowest o j = true) (x1 : Int32) (σ : Sg) (h : s_X3_narrowest n x1 σ = some (r, τ)) : τ o j = σ o j := by
  unfold s_X3_narrowest at h
  have q : σ o j = σ o j := rfl
  exact (fr_s_X3_narrowest_9 ho  n (20000 : Int32) x1 (0 : Int32) σ  h).trans q
abbrev W_X3_push : List (Nat × Option Nat) := [(47, none), (48, none)]
set_option maxRecDepth 20000 in
theorem fr_s_X3_push_5b {n o j : Nat} {τ : Sg} (ho : fok W_X3_push o j = true) (rc5 : Int32 → Int32 → Int32 → Sg → Option Sg) (H5 : ∀ (x2 : Int32) (x3 : Int32) (x4 : Int32) (σ : Sg), rc5 x2 x3 x4 σ = some τ → τ o j = σ o j) (x2 : Int32) (x3 : Int32) (x4 : Int32) (σ : Sg) (h : s_X3_push_5b n rc5 x2 x3 x4 σ = some τ) : τ o j = σ o j := by
  unfold s_X3_push_5b at h
  have q : σ o j = σ o j := rfl
  rcases ite_of h with h | h
  · exact fr_e1 h q
  · rcases ite_of h with h | h
    · exact fr_e1 h q
    · have h := (ck_of h).2
      obtain ⟨σ1, g, h⟩ := bdv_of h
      have q : σ1 o j = σ o j := (fr_s_X3_widen (fok_sub ho (by decide)) _ _ _ _  g).trans q
      have h := (ck_of h).2
      obtain ⟨σ2, g, h⟩ := bdv_of h
      have q : σ2 o j = σ o j := (fr_s_X3_widen (fok_sub ho (by decide)) _ _ _ _  g).trans q
      have h := (ck_of h).2
      obtain ⟨v3, -, h⟩ := lt_of h
      exact (H5 x2 v3 (x4 + (1 : Int32)) σ2  h).trans q
theorem fr_s_X3_push_5 {n o j : Nat} {τ : Sg} (ho : fok W_X3_push o j = true) : ∀ (k : Nat) (x2 : Int32) (x3 : Int32) (x4 : Int32) (σ : Sg), s_X3_push_5 n k x2 x3 x4 σ = some τ → τ o j = σ o j := by
  intro k
  induction k with
  | zero => intro x2 x3 x4 σ  h; cases h
  | succ k ih => intro x2 x3 x4 σ  h; exact fr_s_X3_push_5b ho  (s_X3_push_5 n  k) ih x2 x3 x4 σ  h
set_option maxRecDepth 20000 in
theorem fr_s_X3_push {n o j : Nat} {τ : Sg} (ho : fok W_X3_push o j = true) (x1 : Int32) (x2 : Int32) (σ : Sg) (h : s_X3_push n x1 x2 σ = some τ) : τ o j = σ o j := by
  unfold s_X3_push at h
  have q : σ o j = σ o j := rfl
  exact (fr_s_X3_push_5 ho  n x2 x1 (0 : Int32) σ  h).trans q
abbrev W_X3_send : List (Nat × Option Nat) := [(47, none), (48, none), (49, none), (50, none)]
set_option maxRecDepth 20000 in
theorem fr_s_X3_send_5b {n o j : Nat} {r : Int32} {τ : Sg} (ho : fok W_X3_send o j = true) (rc5 : Int32 → Int32 → Int32 → Int32 → Sg → Option (Int32 × Sg)) (H5 : ∀ (x1 : Int32) (x2 : Int32) (x3 : Int32) (x4 : Int32) (σ : Sg), rc5 x1 x2 x3 x4 σ = some (r, τ) → τ o j = σ o j) (x1 : Int32) (x2 : Int32) (x3 : Int32) (x4 : Int32) (σ : Sg) (h : s_X3_send_5b n rc5 x1 x2 x3 x4 σ = some (r, τ)) : τ o j = σ o j := by
  unfold s_X3_send_5b at h
  have q : σ o j = σ o j := rfl
  rcases ite_of h with h | h
  · exact fr_e2 h q
  · rcases ite_of h with h | h
    · exact fr_e2 h q
    · obtain ⟨r2, σ1, g, h⟩ := bd_of h
      have q : σ1 o j = σ o j := (fr_s_X3_findWay (fok_sub ho (by decide)) _ _  g).trans q
      rcases ite_of h with h | h
      · exact fr_e2 h q
      · obtain ⟨r4, σ3, g, h⟩ := bd_of h
        have q : σ3 o j = σ o j := (fr_s_X3_narrowest rfl _ _ g).trans q
        obtain ⟨v5, -, h⟩ := lt_of h
        obtain ⟨σ6, g, h⟩ := bdv_of h
        have q : σ6 o j = σ o j := (fr_s_X3_push (fok_sub ho (by decide)) _ _ _  g).trans q
        obtain ⟨v7, -, h⟩ := lt_of h
        exact (H5 x1 x2 v7 (x4 + (1 : Int32)) σ6  h).trans q
theorem fr_s_X3_send_5 {n o j : Nat} {r : Int32} {τ : Sg} (ho : fok W_X3_send o j = true) : ∀ (k : Nat) (x1 : Int32) (x2 : Int32) (x3 : Int32) (x4 : Int32) (σ : Sg), s_X3_send_5 n k x1 x2 x3 x4 σ = some (r, τ) → τ o j = σ o j := by
  intro k
  induction k with
  | zero => intro x1 x2 x3 x4 σ  h; cases h
  | succ k ih => intro x1 x2 x3 x4 σ  h; exact fr_s_X3_send_5b ho  (s_X3_send_5 n  k) ih x1 x2 x3 x4 σ  h
set_option maxRecDepth 20000 in
theorem fr_s_X3_send {n o j : Nat} {r : Int32} {τ : Sg} (ho : fok W_X3_send o j = true) (x1 : Int32) (x2 : Int32) (σ : Sg) (h : s_X3_send n x1 x2 σ = some (r, τ)) : τ o j = σ o j := by
  unfold s_X3_send at h
  have q : σ o j = σ o j := rfl
  exact (fr_s_X3_send_5 ho  n x1 x2 (0 : Int32) (0 : Int32) σ  h).trans q
abbrev W_X4_has : List (Nat × Option Nat) := []
set_option maxRecDepth 20000 in
theorem fr_s_X4_has_16 {n o j : Nat} {r : Int32} {τ : Sg} (ho : fok W_X4_has o j = true) (σ : Sg) (h : s_X4_has_16 n σ = some (r, τ)) : τ o j = σ o j := by
  unfold s_X4_has_16 at h
  have q : σ o j = σ o j := rfl
  exact fr_e2 h q
set_option maxRecDepth 20000 in
theorem fr_s_X4_has {n o j : Nat} {r : Int32} {τ : Sg} (ho : fok W_X4_has o j = true) (x1 : Int32) (σ : Sg) (h : s_X4_has n x1 σ = some (r, τ)) : τ o j = σ o j := by
  unfold s_X4_has at h
  have q : σ o j = σ o j := rfl
  rcases ite_of h with h | h
  · exact (fr_s_X4_has_16 ho  σ  h).trans q
  · rcases ite_of h with h | h
    · exact (fr_s_X4_has_16 ho  σ  h).trans q
    · exact fr_e2 h q
abbrev W_X4_hasAll : List (Nat × Option Nat) := []
set_option maxRecDepth 20000 in
theorem fr_s_X4_hasAll {n o j : Nat} {r : Int32} {τ : Sg} (ho : fok W_X4_hasAll o j = true) (x1 : Int32) (σ : Sg) (h : s_X4_hasAll n x1 σ = some (r, τ)) : τ o j = σ o j := by
  unfold s_X4_hasAll at h
  have q : σ o j = σ o j := rfl
  rcases ite_of h with h | h
  · exact fr_e2 h q
  · exact fr_e2 h q
abbrev W_X4_lay : List (Nat × Option Nat) := [(3, some 0), (4, none), (5, none), (6, none), (7, none), (8, none), (9, none)]
set_option maxRecDepth 20000 in
theorem fr_s_X4_lay {n o j : Nat} {r : Int32} {τ : Sg} (ho : fok W_X4_lay o j = true) (x1 : Int32) (x2 : Int32) (x3 : Int32) (x4 : Int32) (σ : Sg) (h : s_X4_lay n x1 x2 x3 x4 σ = some (r, τ)) : τ o j = σ o j := by
  unfold s_X4_lay at h
  have q : σ o j = σ o j := rfl
  obtain ⟨v1, -, h⟩ := lt_of h
  have h := (ck_of h).2
  obtain ⟨σ2, e, h⟩ := lt_of h
  have q : σ2 o j = σ o j := by rw [e]; exact (up2_o (fok_a ho (by decide))).trans q
  have h := (ck_of h).2
  obtain ⟨σ3, e, h⟩ := lt_of h
  have q : σ3 o j = σ o j := by rw [e]; exact (up2_o (fok_a ho (by decide))).trans q
  have h := (ck_of h).2
  obtain ⟨σ4, e, h⟩ := lt_of h
  have q : σ4 o j = σ o j := by rw [e]; exact (up2_o (fok_a ho (by decide))).trans q
  have h := (ck_of h).2
  obtain ⟨σ5, e, h⟩ := lt_of h
  have q : σ5 o j = σ o j := by rw [e]; exact (up2_o (fok_a ho (by decide))).trans q
  have h := (ck_of h).2
  obtain ⟨σ6, e, h⟩ := lt_of h
  have q : σ6 o j = σ o j := by rw [e]; exact (up2_o (fok_a ho (by decide))).trans q
  have h := (ck_of h).2
  obtain ⟨σ7, e, h⟩ := lt_of h
  have q : σ7 o j = σ o j := by rw [e]; exact (up2_o (fok_a ho (by decide))).trans q
  obtain ⟨σ8, e, h⟩ := lt_of h
  have q : σ8 o j = σ o j := by rw [e]; exact (up2_f ho (by decide)).trans q
  exact fr_e2 h q
abbrev W_X4_stepOver : List (Nat × Option Nat) := [(10, none)]
set_option maxRecDepth 20000 in
theorem fr_s_X4_stepOver {n o j : Nat} {r : Int32} {τ : Sg} (ho : fok W_X4_stepOver o j = true) (x1 : Int32) (x2 : Int32) (x3 : Int32) (σ : Sg) (h : s_X4_stepOver n x1 x2 x3 σ = some (r, τ)) : τ o j = σ o j := by
  unfold s_X4_stepOver at h
  have q : σ o j = σ o j := rfl
  have h := (ck_of h).2
  rcases ite_of h with h | h
  · have h := (ck_of h).2
    rcases ite_of h with h | h
    · have h := (ck_of h).2
      obtain ⟨σ1, e, h⟩ := lt_of h
      have q : σ1 o j = σ o j := by rw [e]; exact (up2_o (fok_a ho (by decide))).trans q
      exact fr_e2 h q
    · exact fr_e2 h q
  · exact fr_e2 h q
abbrev W_X4_measure : List (Nat × Option Nat) := [(10, none)]
set_option maxRecDepth 20000 in
theorem fr_s_X4_measure_133 {n o j : Nat} {τ : Sg} (ho : fok W_X4_measure o j = true) (rc54 : Int32 → Nat → Nat → Int32 → Int32 → Sg → Option Sg) (H54 : ∀ (x1 : Int32) (x3 : Nat) (x4 : Nat) (x5 : Int32) (x6 : Int32) (σ : Sg), rc54 x1 x3 x4 x5 x6 σ = some τ → τ o j = σ o j) (rc72 : Int32 → Nat → Nat → Int32 → Int32 → Int32 → Sg → Option Sg) (H72 : ∀ (x1 : Int32) (x3 : Nat) (x4 : Nat) (x5 : Int32) (x6 : Int32) (x7 : Int32) (σ : Sg), rc72 x1 x3 x4 x5 x6 x7 σ = some τ → τ o j = σ o j) (x1 : Int32) (x3 : Nat) (x4 : Nat) (x6 : Int32) (x7 : Int32) (y0 : Int32) (y1 : Int32) (σ : Sg) (h : s_X4_measure_133 n rc54 rc72 x1 x3 x4 x6 x7 y0 y1 σ = some τ) : τ o j = σ o j := by
  unfold s_X4_measure_133 at h
  have q : σ o j = σ o j := rfl
  obtain ⟨v14, -, h⟩ := lt_of h
  exact (H72 x1 x3 x4 v14 x6 (x7 + (1 : Int32)) σ  h).trans q
set_option maxRecDepth 20000 in
theorem fr_s_X4_measure_128 {n o j : Nat} {τ : Sg} (ho : fok W_X4_measure o j = true) (rc54 : Int32 → Nat → Nat → Int32 → Int32 → Sg → Option Sg) (H54 : ∀ (x1 : Int32) (x3 : Nat) (x4 : Nat) (x5 : Int32) (x6 : Int32) (σ : Sg), rc54 x1 x3 x4 x5 x6 σ = some τ → τ o j = σ o j) (rc72 : Int32 → Nat → Nat → Int32 → Int32 → Int32 → Sg → Option Sg) (H72 : ∀ (x1 : Int32) (x3 : Nat) (x4 : Nat) (x5 : Int32) (x6 : Int32) (x7 : Int32) (σ : Sg), rc72 x1 x3 x4 x5 x6 x7 σ = some τ → τ o j = σ o j) (x1 : Int32) (x3 : Nat) (x4 : Nat) (x6 : Int32) (x7 : Int32) (y0 : Int32) (σ : Sg) (h : s_X4_measure_128 n rc54 rc72 x1 x3 x4 x6 x7 y0 σ = some τ) : τ o j = σ o j := by
  unfold s_X4_measure_128 at h
  have q : σ o j = σ o j := rfl
  exact (fr_s_X4_measure_133 ho rc54 H54 rc72 H72 x1 x3 x4 x6 x7 (1 : Int32) y0 σ  h).trans q
set_option maxRecDepth 20000 in
theorem fr_s_X4_measure_72b {n o j : Nat} {τ : Sg} (ho : fok W_X4_measure o j = true) (rc54 : Int32 → Nat → Nat → Int32 → Int32 → Sg → Option Sg) (H54 : ∀ (x1 : Int32) (x3 : Nat) (x4 : Nat) (x5 : Int32) (x6 : Int32) (σ : Sg), rc54 x1 x3 x4 x5 x6 σ = some τ → τ o j = σ o j) (rc72 : Int32 → Nat → Nat → Int32 → Int32 → Int32 → Sg → Option Sg) (H72 : ∀ (x1 : Int32) (x3 : Nat) (x4 : Nat) (x5 : Int32) (x6 : Int32) (x7 : Int32) (σ : Sg), rc72 x1 x3 x4 x5 x6 x7 σ = some τ → τ o j = σ o j) (x1 : Int32) (x3 : Nat) (x4 : Nat) (x5 : Int32) (x6 : Int32) (x7 : Int32) (σ : Sg) (h : s_X4_measure_72b n rc54 rc72 x1 x3 x4 x5 x6 x7 σ = some τ) : τ o j = σ o j := by
  unfold s_X4_measure_72b at h
  have q : σ o j = σ o j := rfl
  rcases ite_of h with h | h
  · exact (H54 x1 x3 x4 x5 (x6 + (1 : Int32)) σ  h).trans q
  · rcases ite_of h with h | h
    · have h := (ck_of h).2
      have h := (ck_of h).2
      obtain ⟨r8, σ7, g, h⟩ := bd_of h
      have q : σ7 o j = σ o j := (fr_s_X4_stepOver (fok_sub ho (by decide)) _ _ _ _  g).trans q
      rcases ite_of h with h | h
      · have h := (ck_of h).2
        have h := (ck_of h).2
        obtain ⟨r10, σ9, g, h⟩ := bd_of h
        have q : σ9 o j = σ o j := (fr_s_X4_stepOver (fok_sub ho (by decide)) _ _ _ _  g).trans q
        obtain ⟨v13, -, h⟩ := lt_of h
        exact (fr_s_X4_measure_133 ho rc54 H54 rc72 H72 x1 x3 x4 x6 x7 v13 x5 σ9  h).trans q
      · exact (fr_s_X4_measure_128 ho rc54 H54 rc72 H72 x1 x3 x4 x6 x7 x5 σ7  h).trans q
    · exact (H72 x1 x3 x4 x5 x6 (x7 + (1 : Int32)) σ  h).trans q
theorem fr_s_X4_measure_72 {n o j : Nat} {τ : Sg} (ho : fok W_X4_measure o j = true) (rc54 : Int32 → Nat → Nat → Int32 → Int32 → Sg → Option Sg) (H54 : ∀ (x1 : Int32) (x3 : Nat) (x4 : Nat) (x5 : Int32) (x6 : Int32) (σ : Sg), rc54 x1 x3 x4 x5 x6 σ = some τ → τ o j = σ o j) : ∀ (k : Nat) (x1 : Int32) (x3 : Nat) (x4 : Nat) (x5 : Int32) (x6 : Int32) (x7 : Int32) (σ : Sg), s_X4_measure_72 n rc54 k x1 x3 x4 x5 x6 x7 σ = some τ → τ o j = σ o j := by
  intro k
  induction k with
  | zero => intro x1 x3 x4 x5 x6 x7 σ  h; cases h
  | succ k ih => intro x1 x3 x4 x5 x6 x7 σ  h; exact fr_s_X4_measure_72b ho rc54 H54 (s_X4_measure_72 n rc54 k) ih x1 x3 x4 x5 x6 x7 σ  h
set_option maxRecDepth 20000 in
theorem fr_s_X4_measure_54b {n o j : Nat} {τ : Sg} (ho : fok W_X4_measure o j = true) (rc54 : Int32 → Nat → Nat → Int32 → Int32 → Sg → Option Sg) (H54 : ∀ (x1 : Int32) (x3 : Nat) (x4 : Nat) (x5 : Int32) (x6 : Int32) (σ : Sg), rc54 x1 x3 x4 x5 x6 σ = some τ → τ o j = σ o j) (x1 : Int32) (x3 : Nat) (x4 : Nat) (x5 : Int32) (x6 : Int32) (σ : Sg) (h : s_X4_measure_54b n rc54 x1 x3 x4 x5 x6 σ = some τ) : τ o j = σ o j := by
  unfold s_X4_measure_54b at h
  have q : σ o j = σ o j := rfl
  rcases ite_of h with h | h
  · exact fr_e1 h q
  · rcases ite_of h with h | h
    · exact fr_e1 h q
    · exact (fr_s_X4_measure_72 ho rc54 H54 n x1 x3 x4 (0 : Int32) x6 (0 : Int32) σ  h).trans q
theorem fr_s_X4_measure_54 {n o j : Nat} {τ : Sg} (ho : fok W_X4_measure o j = true) : ∀ (k : Nat) (x1 : Int32) (x3 : Nat) (x4 : Nat) (x5 : Int32) (x6 : Int32) (σ : Sg), s_X4_measure_54 n k x1 x3 x4 x5 x6 σ = some τ → τ o j = σ o j := by
  intro k
  induction k with
  | zero => intro x1 x3 x4 x5 x6 σ  h; cases h
  | succ k ih => intro x1 x3 x4 x5 x6 σ  h; exact fr_s_X4_measure_54b ho  (s_X4_measure_54 n  k) ih x1 x3 x4 x5 x6 σ  h
set_option maxRecDepth 20000 in
theorem fr_s_X4_measure_31 {n o j : Nat} {τ : Sg} (ho : fok W_X4_measure o j = true) (x1 : Int32) (x3 : Nat) (y0 : Nat) (σ : Sg) (h : s_X4_measure_31 n x1 x3 y0 σ = some τ) : τ o j = σ o j := by
  unfold s_X4_measure_31 at h
  have q : σ o j = σ o j := rfl
  obtain ⟨σ5, g, h⟩ := bdv_of h
  have q : σ5 o j = σ o j := (fr_s_J7_fill_53178 (fok_sub ho (by decide)) _ _ _ _ (fok_a ho (by decide)) g).trans q
  have h := (ck_of h).2
  obtain ⟨σ6, e, h⟩ := lt_of h
  have q : σ6 o j = σ o j := by rw [e]; exact (up2_o (fok_a ho (by decide))).trans q
  exact (fr_s_X4_measure_54 ho  n x1 x3 y0 (1 : Int32) (0 : Int32) σ6  h).trans q
set_option maxRecDepth 20000 in
theorem fr_s_X4_measure_15 {n o j : Nat} {τ : Sg} (ho : fok W_X4_measure o j = true) (x1 : Int32) (x2 : Int32) (y0 : Nat) (σ : Sg) (h : s_X4_measure_15 n x1 x2 y0 σ = some τ) : τ o j = σ o j := by
  unfold s_X4_measure_15 at h
  have q : σ o j = σ o j := rfl
  rcases ite_of h with h | h
  · exact (fr_s_X4_measure_31 ho  x1 y0 5 σ  h).trans q
  · exact (fr_s_X4_measure_31 ho  x1 y0 9 σ  h).trans q
set_option maxRecDepth 20000 in
theorem fr_s_X4_measure {n o j : Nat} {τ : Sg} (ho : fok W_X4_measure o j = true) (x1 : Int32) (x2 : Int32) (σ : Sg) (h : s_X4_measure n x1 x2 σ = some τ) : τ o j = σ o j := by
  unfold s_X4_measure at h
  have q : σ o j = σ o j := rfl
  rcases ite_of h with h | h
  · exact (fr_s_X4_measure_15 ho  x1 x2 4 σ  h).trans q
  · exact (fr_s_X4_measure_15 ho  x1 x2 8 σ  h).trans q
abbrev W_X4_joined : List (Nat × Option Nat) := [(10, none)]
set_option maxRecDepth 20000 in
theorem fr_s_X4_joined_11b {n o j : Nat} {r : Int32} {τ : Sg} (ho : fok W_X4_joined o j = true) (rc11 : Int32 → Int32 → Sg → Option (Int32 × Sg)) (H11 : ∀ (x3 : Int32) (x4 : Int32) (σ : Sg), rc11 x3 x4 σ = some (r, τ) → τ o j = σ o j) (x3 : Int32) (x4 : Int32) (σ : Sg) (h : s_X4_joined_11b n rc11 x3 x4 σ = some (r, τ)) : τ o j = σ o j := by
  unfold s_X4_joined_11b at h
  have q : σ o j = σ o j := rfl
  rcases ite_of h with h | h
  · exact fr_e2 h q
  · have h := (ck_of h).2
    rcases ite_of h with h | h
    · exact (H11 x3 (x4 + (1 : Int32)) σ  h).trans q
    · obtain ⟨v2, -, h⟩ := lt_of h
      exact (H11 v2 (x4 + (1 : Int32)) σ  h).trans q
theorem fr_s_X4_joined_11 {n o j : Nat} {r : Int32} {τ : Sg} (ho : fok W_X4_joined o j = true) : ∀ (k : Nat) (x3 : Int32) (x4 : Int32) (σ : Sg), s_X4_joined_11 n k x3 x4 σ = some (r, τ) → τ o j = σ o j := by
  intro k
  induction k with
  | zero => intro x3 x4 σ  h; cases h
  | succ k ih => intro x3 x4 σ  h; exact fr_s_X4_joined_11b ho  (s_X4_joined_11 n  k) ih x3 x4 σ  h
set_option maxRecDepth 20000 in
theorem fr_s_X4_joined {n o j : Nat} {r : Int32} {τ : Sg} (ho : fok W_X4_joined o j = true) (x1 : Int32) (x2 : Int32) (σ : Sg) (h : s_X4_joined n x1 x2 σ = some (r, τ)) : τ o j = σ o j := by
  unfold s_X4_joined at h
  have q : σ o j = σ o j := rfl
  obtain ⟨σ1, g, h⟩ := bdv_of h
  have q : σ1 o j = σ o j := (fr_s_X4_measure (fok_sub ho (by decide)) _ _ _  g).trans q
  exact (fr_s_X4_joined_11 ho  n (0 : Int32) (0 : Int32) σ1  h).trans q
abbrev W_X5_put : List (Nat × Option Nat) := [(25, some 0), (26, none)]
set_option maxRecDepth 20000 in
theorem fr_s_X5_put {n o j : Nat} {τ : Sg} (ho : fok W_X5_put o j = true) (x1 : Int32) (σ : Sg) (h : s_X5_put n x1 σ = some τ) : τ o j = σ o j := by
  unfold s_X5_put at h
  have q : σ o j = σ o j := rfl
  rcases ite_of h with h | h
  · exact fr_e1 h q
  · have h := (ck_of h).2
    obtain ⟨σ1, e, h⟩ := lt_of h
    have q : σ1 o j = σ o j := by rw [e]; exact (up2_o (fok_a ho (by decide))).trans q
    obtain ⟨σ2, e, h⟩ := lt_of h
    have q : σ2 o j = σ o j := by rw [e]; exact (up2_f ho (by decide)).trans q
    exact fr_e1 h q
abbrev W_X5_kindOf : List (Nat × Option Nat) := []
set_option maxRecDepth 20000 in
theorem fr_s_X5_kindOf_28 {n o j : Nat} {r : Int32} {τ : Sg} (ho : fok W_X5_kindOf o j = true) (x0 : Int32) (σ : Sg) (h : s_X5_kindOf_28 n x0 σ = some (r, τ)) : τ o j = σ o j := by
  unfold s_X5_kindOf_28 at h
  have q : σ o j = σ o j := rfl
  rcases ite_of h with h | h
  · exact fr_e2 h q
  · rcases ite_of h with h | h
    · exact fr_e2 h q
    · exact fr_e2 h q
set_option maxRecDepth 20000 in
theorem fr_s_X5_kindOf_14 {n o j : Nat} {r : Int32} {τ : Sg} (ho : fok W_X5_kindOf o j = true) (x0 : Int32) (σ : Sg) (h : s_X5_kindOf_14 n x0 σ = some (r, τ)) : τ o j = σ o j := by
  unfold s_X5_kindOf_14 at h
  have q : σ o j = σ o j := rfl
  rcases ite_of h with h | h
  · exact (fr_s_X5_kindOf_28 ho  x0 σ  h).trans q
  · rcases ite_of h with h | h
    · exact (fr_s_X5_kindOf_28 ho  x0 σ  h).trans q
    · exact fr_e2 h q
set_option maxRecDepth 20000 in
theorem fr_s_X5_kindOf {n o j : Nat} {r : Int32} {τ : Sg} (ho : fok W_X5_kindOf o j = true) (x0 : Int32) (σ : Sg) (h : s_X5_kindOf n x0 σ = some (r, τ)) : τ o j = σ o j := by
  unfold s_X5_kindOf at h
  have q : σ o j = σ o j := rfl
  rcases ite_of h with h | h
  · exact (fr_s_X5_kindOf_14 ho  x0 σ  h).trans q
  · rcases ite_of h with h | h
    · exact (fr_s_X5_kindOf_14 ho  x0 σ  h).trans q
    · exact fr_e2 h q
abbrev W_X5_next : List (Nat × Option Nat) := [(25, some 4), (25, some 5), (25, some 6), (25, some 7)]
set_option maxRecDepth 20000 in
theorem fr_s_X5_next_117b {n o j : Nat} {τ : Sg} (ho : fok W_X5_next o j = true) (rc117 : Sg → Option Sg) (H117 : ∀ (σ : Sg), rc117 σ = some τ → τ o j = σ o j) (σ : Sg) (h : s_X5_next_117b n rc117 σ = some τ) : τ o j = σ o j := by
  unfold s_X5_next_117b at h
  have q : σ o j = σ o j := rfl
  rcases ite_of h with h | h
  · exact fr_e1 h q
  · have h := (ck_of h).2
    obtain ⟨r11, σ10, g, h⟩ := bd_of h
    have q : σ10 o j = σ o j := (fr_s_X5_kindOf rfl _ _ g).trans q
    rcases ite_of h with h | h
    · rcases ite_of h with h | h
      · have h := (ck_of h).2
        obtain ⟨σ13, e, h⟩ := lt_of h
        have q : σ13 o j = σ o j := by rw [e]; exact (up2_f ho (by decide)).trans q
        obtain ⟨σ14, e, h⟩ := lt_of h
        have q : σ14 o j = σ o j := by rw [e]; exact (up2_f ho (by decide)).trans q
        exact (H117  σ14  h).trans q
      · obtain ⟨σ12, e, h⟩ := lt_of h
        have q : σ12 o j = σ o j := by rw [e]; exact (up2_f ho (by decide)).trans q
        exact (H117  σ12  h).trans q
    · exact fr_e1 h q
theorem fr_s_X5_next_117 {n o j : Nat} {τ : Sg} (ho : fok W_X5_next o j = true) : ∀ (k : Nat) (σ : Sg), s_X5_next_117 n k σ = some τ → τ o j = σ o j := by
  intro k
  induction k with
  | zero => intro  σ  h; cases h
  | succ k ih => intro  σ  h; exact fr_s_X5_next_117b ho  (s_X5_next_117 n  k) ih  σ  h
set_option maxRecDepth 20000 in
theorem fr_s_X5_next_74 {n o j : Nat} {τ : Sg} (ho : fok W_X5_next o j = true) (y0 : Int32) (σ : Sg) (h : s_X5_next_74 n y0 σ = some τ) : τ o j = σ o j := by
  unfold s_X5_next_74 at h
  have q : σ o j = σ o j := rfl
  obtain ⟨σ5, e, h⟩ := lt_of h
  have q : σ5 o j = σ o j := by rw [e]; exact (up2_f ho (by decide)).trans q
  rcases ite_of h with h | h
  · obtain ⟨σ6, e, h⟩ := lt_of h
    have q : σ6 o j = σ o j := by rw [e]; exact (up2_f ho (by decide)).trans q
    exact fr_e1 h q
  · rcases ite_of h with h | h
    · obtain ⟨σ7, e, h⟩ := lt_of h
      have q : σ7 o j = σ o j := by rw [e]; exact (up2_f ho (by decide)).trans q
      exact fr_e1 h q
    · rcases ite_of h with h | h
      · obtain ⟨σ9, e, h⟩ := lt_of h
        have q : σ9 o j = σ o j := by rw [e]; exact (up2_f ho (by decide)).trans q
        exact fr_e1 h q
      · obtain ⟨σ8, e, h⟩ := lt_of h
        have q : σ8 o j = σ o j := by rw [e]; exact (up2_f ho (by decide)).trans q
        exact (fr_s_X5_next_117 ho  n σ8  h).trans q
set_option maxRecDepth 20000 in
theorem fr_s_X5_next_38 {n o j : Nat} {τ : Sg} (ho : fok W_X5_next o j = true) (σ : Sg) (h : s_X5_next_38 n σ = some τ) : τ o j = σ o j := by
  unfold s_X5_next_38 at h
  have q : σ o j = σ o j := rfl
  obtain ⟨σ2, e, h⟩ := lt_of h
  have q : σ2 o j = σ o j := by rw [e]; exact (up2_f ho (by decide)).trans q
  rcases ite_of h with h | h
  · exact (fr_s_X5_next_74 ho  (0 : Int32) σ2  h).trans q
  · have h := (ck_of h).2
    obtain ⟨r4, σ3, g, h⟩ := bd_of h
    have q : σ3 o j = σ o j := (fr_s_X5_kindOf rfl _ _ g).trans q
    exact (fr_s_X5_next_74 ho  r4 σ3  h).trans q
set_option maxRecDepth 20000 in
theorem fr_s_X5_next_0b {n o j : Nat} {τ : Sg} (ho : fok W_X5_next o j = true) (rc0 : Sg → Option Sg) (H0 : ∀ (σ : Sg), rc0 σ = some τ → τ o j = σ o j) (σ : Sg) (h : s_X5_next_0b n rc0 σ = some τ) : τ o j = σ o j := by
  unfold s_X5_next_0b at h
  have q : σ o j = σ o j := rfl
  rcases ite_of h with h | h
  · exact (fr_s_X5_next_38 ho  σ  h).trans q
  · have h := (ck_of h).2
    rcases ite_of h with h | h
    · obtain ⟨σ1, e, h⟩ := lt_of h
      have q : σ1 o j = σ o j := by rw [e]; exact (up2_f ho (by decide)).trans q
      exact (H0  σ1  h).trans q
    · exact (fr_s_X5_next_38 ho  σ  h).trans q
theorem fr_s_X5_next_0 {n o j : Nat} {τ : Sg} (ho : fok W_X5_next o j = true) : ∀ (k : Nat) (σ : Sg), s_X5_next_0 n k σ = some τ → τ o j = σ o j := by
  intro k
  induction k with
  | zero => intro  σ  h; cases h
  | succ k ih => intro  σ  h; exact fr_s_X5_next_0b ho  (s_X5_next_0 n  k) ih  σ  h
set_option maxRecDepth 20000 in
theorem fr_s_X5_next {n o j : Nat} {τ : Sg} (ho : fok W_X5_next o j = true) (σ : Sg) (h : s_X5_next n σ = some τ) : τ o j = σ o j := by
  unfold s_X5_next at h
  have q : σ o j = σ o j := rfl
  exact (fr_s_X5_next_0 ho  n σ  h).trans q
abbrev W_X5_says : List (Nat × Option Nat) := []
set_option maxRecDepth 20000 in
theorem fr_s_X5_says_28b {n o j : Nat} {r : Int32} {τ : Sg} (ho : fok W_X5_says o j = true) (rc28 : Nat → Int32 → Sg → Option (Int32 × Sg)) (H28 : ∀ (x1 : Nat) (x2 : Int32) (σ : Sg), rc28 x1 x2 σ = some (r, τ) → τ o j = σ o j) (x1 : Nat) (x2 : Int32) (σ : Sg) (h : s_X5_says_28b n rc28 x1 x2 σ = some (r, τ)) : τ o j = σ o j := by
  unfold s_X5_says_28b at h
  have q : σ o j = σ o j := rfl
  rcases ite_of h with h | h
  · exact fr_e2 h q
  · have h := (ck_of h).2
    have h := (ck_of h).2
    rcases ite_of h with h | h
    · exact (H28 x1 (x2 + (1 : Int32)) σ  h).trans q
    · exact fr_e2 h q
theorem fr_s_X5_says_28 {n o j : Nat} {r : Int32} {τ : Sg} (ho : fok W_X5_says o j = true) : ∀ (k : Nat) (x1 : Nat) (x2 : Int32) (σ : Sg), s_X5_says_28 n k x1 x2 σ = some (r, τ) → τ o j = σ o j := by
  intro k
  induction k with
  | zero => intro x1 x2 σ  h; cases h
  | succ k ih => intro x1 x2 σ  h; exact fr_s_X5_says_28b ho  (s_X5_says_28 n  k) ih x1 x2 σ  h
set_option maxRecDepth 20000 in
theorem fr_s_X5_says {n o j : Nat} {r : Int32} {τ : Sg} (ho : fok W_X5_says o j = true) (x1 : Nat) (σ : Sg) (h : s_X5_says n x1 σ = some (r, τ)) : τ o j = σ o j := by
  unfold s_X5_says at h
  have q : σ o j = σ o j := rfl
  rcases ite_of h with h | h
  · rcases ite_of h with h | h
    · exact (fr_s_X5_says_28 ho  n x1 (0 : Int32) σ  h).trans q
    · exact fr_e2 h q
  · exact fr_e2 h q
abbrev W_X5_fail : List (Nat × Option Nat) := [(25, some 1), (25, some 3)]
set_option maxRecDepth 20000 in
theorem fr_s_X5_fail {n o j : Nat} {r : Int32} {τ : Sg} (ho : fok W_X5_fail o j = true) (x1 : Int32) (σ : Sg) (h : s_X5_fail n x1 σ = some (r, τ)) : τ o j = σ o j := by
  unfold s_X5_fail at h
  have q : σ o j = σ o j := rfl
  obtain ⟨σ1, e, h⟩ := lt_of h
  have q : σ1 o j = σ o j := by rw [e]; exact (up2_f ho (by decide)).trans q
  obtain ⟨σ2, e, h⟩ := lt_of h
  have q : σ2 o j = σ o j := by rw [e]; exact (up2_f ho (by decide)).trans q
  exact fr_e2 h q
abbrev W_X5_keyNumber : List (Nat × Option Nat) := []
set_option maxRecDepth 20000 in
theorem fr_s_X5_keyNumber {n o j : Nat} {r : Int32} {τ : Sg} (ho : fok W_X5_keyNumber o j = true) (σ : Sg) (h : s_X5_keyNumber n σ = some (r, τ)) : τ o j = σ o j := by
  unfold s_X5_keyNumber at h
  have q : σ o j = σ o j := rfl
  obtain ⟨r2, σ1, g, h⟩ := bd_of h
  have q : σ1 o j = σ o j := (fr_s_X5_says rfl _ _ g).trans q
  rcases ite_of h with h | h
  · obtain ⟨r4, σ3, g, h⟩ := bd_of h
    have q : σ3 o j = σ o j := (fr_s_X5_says rfl _ _ g).trans q
    rcases ite_of h with h | h
    · obtain ⟨r6, σ5, g, h⟩ := bd_of h
      have q : σ5 o j = σ o j := (fr_s_X5_says rfl _ _ g).trans q
      rcases ite_of h with h | h
      · obtain ⟨r8, σ7, g, h⟩ := bd_of h
        have q : σ7 o j = σ o j := (fr_s_X5_says rfl _ _ g).trans q
        rcases ite_of h with h | h
        · exact fr_e2 h q
        · exact fr_e2 h q
      · exact fr_e2 h q
    · exact fr_e2 h q
  · exact fr_e2 h q
abbrev W_X5_keys : List (Nat × Option Nat) := [(25, some 1), (25, some 3), (25, some 4), (25, some 5), (25, some 6), (25, some 7)]
set_option maxRecDepth 20000 in
theorem fr_s_X5_keys_6b {n o j : Nat} {r : Int32} {τ : Sg} (ho : fok W_X5_keys o j = true) (rc6 : Nat → Int32 → Sg → Option (Int32 × Sg)) (H6 : ∀ (x1 : Nat) (x2 : Int32) (σ : Sg), o ≠ x1 → rc6 x1 x2 σ = some (r, τ) → τ o j = σ o j) (x1 : Nat) (x2 : Int32) (σ : Sg) (hv_x1 : o ≠ x1) (h : s_X5_keys_6b n rc6 x1 x2 σ = some (r, τ)) : τ o j = σ o j := by
  unfold s_X5_keys_6b at h
  have q : σ o j = σ o j := rfl
  rcases ite_of h with h | h
  · exact fr_e2 h q
  · obtain ⟨σ2, g, h⟩ := bdv_of h
    have q : σ2 o j = σ o j := (fr_s_X5_next (fok_sub ho (by decide)) _  g).trans q
    obtain ⟨r4, σ3, g, h⟩ := bd_of h
    have q : σ3 o j = σ o j := (fr_s_X5_keyNumber rfl _ g).trans q
    rcases ite_of h with h | h
    · obtain ⟨r14, σ13, g, h⟩ := bd_of h
      have q : σ13 o j = σ o j := (fr_s_X5_fail (fok_sub ho (by decide)) _ _  g).trans q
      have h := (bck_of h).2
      exact fr_e2 h q
    · obtain ⟨r6, σ5, g, h⟩ := bd_of h
      have q : σ5 o j = σ o j := (fr_s_X2_hasKey rfl _ _ _ g).trans q
      rcases ite_of h with h | h
      · obtain ⟨σ7, g, h⟩ := bdv_of h
        have q : σ7 o j = σ o j := (fr_s_X2_addKey (fok_sub ho (by decide)) _ _ _ hv_x1 g).trans q
        obtain ⟨σ8, g, h⟩ := bdv_of h
        have q : σ8 o j = σ o j := (fr_s_X5_next (fok_sub ho (by decide)) _  g).trans q
        rcases ite_of h with h | h
        · exact fr_e2 h q
        · rcases ite_of h with h | h
          · exact (H6 x1 (x2 + (1 : Int32)) σ8 hv_x1 h).trans q
          · obtain ⟨r10, σ9, g, h⟩ := bd_of h
            have q : σ9 o j = σ o j := (fr_s_X5_fail (fok_sub ho (by decide)) _ _  g).trans q
            have h := (bck_of h).2
            exact fr_e2 h q
      · obtain ⟨r12, σ11, g, h⟩ := bd_of h
        have q : σ11 o j = σ o j := (fr_s_X5_fail (fok_sub ho (by decide)) _ _  g).trans q
        have h := (bck_of h).2
        exact fr_e2 h q
theorem fr_s_X5_keys_6 {n o j : Nat} {r : Int32} {τ : Sg} (ho : fok W_X5_keys o j = true) : ∀ (k : Nat) (x1 : Nat) (x2 : Int32) (σ : Sg), o ≠ x1 → s_X5_keys_6 n k x1 x2 σ = some (r, τ) → τ o j = σ o j := by
  intro k
  induction k with
  | zero => intro x1 x2 σ hv_x1 h; cases h
  | succ k ih => intro x1 x2 σ hv_x1 h; exact fr_s_X5_keys_6b ho  (s_X5_keys_6 n  k) ih x1 x2 σ hv_x1 h
set_option maxRecDepth 20000 in
theorem fr_s_X5_keys {n o j : Nat} {r : Int32} {τ : Sg} (ho : fok W_X5_keys o j = true) (x1 : Nat) (σ : Sg) (hv_x1 : o ≠ x1) (h : s_X5_keys n x1 σ = some (r, τ)) : τ o j = σ o j := by
  unfold s_X5_keys at h
  have q : σ o j = σ o j := rfl
  obtain ⟨σ1, g, h⟩ := bdv_of h
  have q : σ1 o j = σ o j := (fr_s_X2_forgetKeys (fok_sub ho (by decide)) _ _ hv_x1 g).trans q
  exact (fr_s_X5_keys_6 ho  n x1 (0 : Int32) σ1 hv_x1 h).trans q
abbrev W_X11_isOutside : List (Nat × Option Nat) := []
set_option maxRecDepth 20000 in
theorem fr_s_X11_isOutside {n o j : Nat} {r : Int32} {τ : Sg} (ho : fok W_X11_isOutside o j = true) (x0 : Int32) (x1 : Int32) (x2 : Int32) (σ : Sg) (h : s_X11_isOutside n x0 x1 x2 σ = some (r, τ)) : τ o j = σ o j := by
  unfold s_X11_isOutside at h
  have q : σ o j = σ o j := rfl
  rcases ite_of h with h | h
  · exact fr_e2 h q
  · rcases ite_of h with h | h
    · exact fr_e2 h q
    · exact fr_e2 h q
abbrev W_X5_number : List (Nat × Option Nat) := [(25, some 1), (25, some 3), (25, some 4), (25, some 5), (25, some 6), (25, some 7)]
set_option maxRecDepth 20000 in
theorem fr_s_X5_number_43 {n o j : Nat} {r : Int32} {τ : Sg} (ho : fok W_X5_number o j = true) (σ : Sg) (h : s_X5_number_43 n σ = some (r, τ)) : τ o j = σ o j := by
  unfold s_X5_number_43 at h
  have q : σ o j = σ o j := rfl
  obtain ⟨r7, σ6, g, h⟩ := bd_of h
  have q : σ6 o j = σ o j := (fr_s_X5_fail (fok_sub ho (by decide)) _ _  g).trans q
  have h := (bck_of h).2
  exact fr_e2 h q
set_option maxRecDepth 20000 in
theorem fr_s_X5_number {n o j : Nat} {r : Int32} {τ : Sg} (ho : fok W_X5_number o j = true) (x1 : Int32) (x2 : Int32) (σ : Sg) (h : s_X5_number n x1 x2 σ = some (r, τ)) : τ o j = σ o j := by
  unfold s_X5_number at h
  have q : σ o j = σ o j := rfl
  obtain ⟨σ1, g, h⟩ := bdv_of h
  have q : σ1 o j = σ o j := (fr_s_X5_next (fok_sub ho (by decide)) _  g).trans q
  rcases ite_of h with h | h
  · rcases ite_of h with h | h
    · exact (fr_s_X5_number_43 ho  σ1  h).trans q
    · obtain ⟨r3, σ2, g, h⟩ := bd_of h
      have q : σ2 o j = σ o j := (fr_s_X11_isOutside rfl _ _ _ _ g).trans q
      rcases ite_of h with h | h
      · exact fr_e2 h q
      · exact (fr_s_X5_number_43 ho  σ2  h).trans q
  · obtain ⟨r5, σ4, g, h⟩ := bd_of h
    have q : σ4 o j = σ o j := (fr_s_X5_fail (fok_sub ho (by decide)) _ _  g).trans q
    have h := (bck_of h).2
    exact fr_e2 h q
abbrev W_X5_semicolon : List (Nat × Option Nat) := [(25, some 1), (25, some 3), (25, some 4), (25, some 5), (25, some 6), (25, some 7)]
set_option maxRecDepth 20000 in
theorem fr_s_X5_semicolon {n o j : Nat} {r : Int32} {τ : Sg} (ho : fok W_X5_semicolon o j = true) (σ : Sg) (h : s_X5_semicolon n σ = some (r, τ)) : τ o j = σ o j := by
  unfold s_X5_semicolon at h
  have q : σ o j = σ o j := rfl
  obtain ⟨σ1, g, h⟩ := bdv_of h
  have q : σ1 o j = σ o j := (fr_s_X5_next (fok_sub ho (by decide)) _  g).trans q
  rcases ite_of h with h | h
  · exact fr_e2 h q
  · obtain ⟨r3, σ2, g, h⟩ := bd_of h
    have q : σ2 o j = σ o j := (fr_s_X5_fail (fok_sub ho (by decide)) _ _  g).trans q
    rcases ite_of h with h | h
    · exact fr_e2 h q
    · exact fr_e2 h q
abbrev W_X5_turnHours : List (Nat × Option Nat) := [(25, some 1), (25, some 3), (25, some 4), (25, some 5), (25, some 6), (25, some 7)]
set_option maxRecDepth 20000 in
theorem fr_s_X5_turnHours {n o j : Nat} {r : Int32} {τ : Sg} (ho : fok W_X5_turnHours o j = true) (x1 : Nat) (σ : Sg) (hv_x1 : o ≠ x1) (h : s_X5_turnHours n x1 σ = some (r, τ)) : τ o j = σ o j := by
  unfold s_X5_turnHours at h
  have q : σ o j = σ o j := rfl
  obtain ⟨r2, σ1, g, h⟩ := bd_of h
  have q : σ1 o j = σ o j := (fr_s_X5_number (fok_sub ho (by decide)) _ _ _  g).trans q
  rcases ite_of h with h | h
  · exact fr_e2 h q
  · obtain ⟨σ3, e, h⟩ := lt_of h
    have q : σ3 o j = σ o j := by rw [e]; exact (up2_o hv_x1).trans q
    obtain ⟨σ4, g, h⟩ := bdv_of h
    have q : σ4 o j = σ o j := (fr_s_X5_next (fok_sub ho (by decide)) _  g).trans q
    obtain ⟨r6, σ5, g, h⟩ := bd_of h
    have q : σ5 o j = σ o j := (fr_s_X5_says rfl _ _ g).trans q
    rcases ite_of h with h | h
    · obtain ⟨r13, σ12, g, h⟩ := bd_of h
      have q : σ12 o j = σ o j := (fr_s_X5_fail (fok_sub ho (by decide)) _ _  g).trans q
      have h := (bck_of h).2
      exact fr_e2 h q
    · obtain ⟨r8, σ7, g, h⟩ := bd_of h
      have q : σ7 o j = σ o j := (fr_s_X5_number (fok_sub ho (by decide)) _ _ _  g).trans q
      rcases ite_of h with h | h
      · exact fr_e2 h q
      · obtain ⟨σ9, e, h⟩ := lt_of h
        have q : σ9 o j = σ o j := by rw [e]; exact (up2_o hv_x1).trans q
        obtain ⟨r11, σ10, g, h⟩ := bd_of h
        have q : σ10 o j = σ o j := (fr_s_X5_semicolon (fok_sub ho (by decide)) _  g).trans q
        have h := (bck_of h).2
        exact fr_e2 h q
abbrev W_X5_price : List (Nat × Option Nat) := [(25, some 1), (25, some 3), (25, some 4), (25, some 5), (25, some 6), (25, some 7)]
set_option maxRecDepth 20000 in
theorem fr_s_X5_price_35 {n o j : Nat} {r : Int32} {τ : Sg} (ho : fok W_X5_price o j = true) (σ : Sg) (h : s_X5_price_35 n σ = some (r, τ)) : τ o j = σ o j := by
  unfold s_X5_price_35 at h
  have q : σ o j = σ o j := rfl
  obtain ⟨r6, σ5, g, h⟩ := bd_of h
  have q : σ5 o j = σ o j := (fr_s_X5_semicolon (fok_sub ho (by decide)) _  g).trans q
  have h := (bck_of h).2
  exact fr_e2 h q
set_option maxRecDepth 20000 in
theorem fr_s_X5_price {n o j : Nat} {r : Int32} {τ : Sg} (ho : fok W_X5_price o j = true) (x1 : Nat) (x2 : Int32) (σ : Sg) (hv_x1 : o ≠ x1) (h : s_X5_price n x1 x2 σ = some (r, τ)) : τ o j = σ o j := by
  unfold s_X5_price at h
  have q : σ o j = σ o j := rfl
  obtain ⟨r2, σ1, g, h⟩ := bd_of h
  have q : σ1 o j = σ o j := (fr_s_X5_number (fok_sub ho (by decide)) _ _ _  g).trans q
  rcases ite_of h with h | h
  · exact fr_e2 h q
  · rcases ite_of h with h | h
    · obtain ⟨σ3, e, h⟩ := lt_of h
      have q : σ3 o j = σ o j := by rw [e]; exact (up2_o hv_x1).trans q
      exact (fr_s_X5_price_35 ho  σ3  h).trans q
    · obtain ⟨σ4, e, h⟩ := lt_of h
      have q : σ4 o j = σ o j := by rw [e]; exact (up2_o hv_x1).trans q
      exact (fr_s_X5_price_35 ho  σ4  h).trans q
abbrev W_X5_strike : List (Nat × Option Nat) := [(25, some 1), (25, some 3), (25, some 4), (25, some 5), (25, some 6), (25, some 7)]
set_option maxRecDepth 20000 in
theorem fr_s_X5_strike {n o j : Nat} {r : Int32} {τ : Sg} (ho : fok W_X5_strike o j = true) (x1 : Int32) (x2 : Nat) (σ : Sg) (hv_x2 : o ≠ x2) (h : s_X5_strike n x1 x2 σ = some (r, τ)) : τ o j = σ o j := by
  unfold s_X5_strike at h
  have q : σ o j = σ o j := rfl
  obtain ⟨r2, σ1, g, h⟩ := bd_of h
  have q : σ1 o j = σ o j := (fr_s_X5_number (fok_sub ho (by decide)) _ _ _  g).trans q
  rcases ite_of h with h | h
  · exact fr_e2 h q
  · rcases ite_of h with h | h
    · obtain ⟨σ3, e, h⟩ := lt_of h
      have q : σ3 o j = σ o j := by rw [e]; exact (up2_o hv_x2).trans q
      obtain ⟨r5, σ4, g, h⟩ := bd_of h
      have q : σ4 o j = σ o j := (fr_s_X5_semicolon (fok_sub ho (by decide)) _  g).trans q
      have h := (bck_of h).2
      exact fr_e2 h q
    · obtain ⟨r7, σ6, g, h⟩ := bd_of h
      have q : σ6 o j = σ o j := (fr_s_X5_fail (fok_sub ho (by decide)) _ _  g).trans q
      have h := (bck_of h).2
      exact fr_e2 h q
abbrev W_X5_clause : List (Nat × Option Nat) := [(25, some 1), (25, some 3), (25, some 4), (25, some 5), (25, some 6), (25, some 7)]
set_option maxRecDepth 20000 in
theorem fr_s_X5_clause_111 {n o j : Nat} {r : Int32} {τ : Sg} (ho : fok W_X5_clause o j = true) (x3 : Nat) (x7 : Int32) (σ : Sg) (hv_x3 : o ≠ x3) (h : s_X5_clause_111 n x3 x7 σ = some (r, τ)) : τ o j = σ o j := by
  unfold s_X5_clause_111 at h
  have q : σ o j = σ o j := rfl
  obtain ⟨r22, σ21, g, h⟩ := bd_of h
  have q : σ21 o j = σ o j := (fr_s_X5_price (fok_sub ho (by decide)) _ _ _ hv_x3 g).trans q
  have h := (bck_of h).2
  exact fr_e2 h q
set_option maxRecDepth 20000 in
theorem fr_s_X5_clause_67 {n o j : Nat} {r : Int32} {τ : Sg} (ho : fok W_X5_clause o j = true) (x1 : Int32) (x2 : Int32) (x3 : Nat) (x4 : Int32) (x5 : Int32) (x6 : Int32) (x7 : Int32) (σ : Sg) (hv_x3 : o ≠ x3) (h : s_X5_clause_67 n x1 x2 x3 x4 x5 x6 x7 σ = some (r, τ)) : τ o j = σ o j := by
  unfold s_X5_clause_67 at h
  have q : σ o j = σ o j := rfl
  rcases ite_of h with h | h
  · rcases ite_of h with h | h
    · rcases ite_of h with h | h
      · rcases ite_of h with h | h
        · rcases ite_of h with h | h
          · obtain ⟨r14, σ13, g, h⟩ := bd_of h
            have q : σ13 o j = σ o j := (fr_s_X5_strike (fok_sub ho (by decide)) _ _ _ hv_x3 g).trans q
            have h := (bck_of h).2
            exact fr_e2 h q
          · exact (fr_s_X5_clause_111 ho  x3 x7 σ hv_x3 h).trans q
        · exact (fr_s_X5_clause_111 ho  x3 x7 σ hv_x3 h).trans q
      · obtain ⟨r16, σ15, g, h⟩ := bd_of h
        have q : σ15 o j = σ o j := (fr_s_X5_turnHours (fok_sub ho (by decide)) _ _ hv_x3 g).trans q
        have h := (bck_of h).2
        exact fr_e2 h q
    · obtain ⟨r18, σ17, g, h⟩ := bd_of h
      have q : σ17 o j = σ o j := (fr_s_X5_keys (fok_sub ho (by decide)) _ _ hv_x3 g).trans q
      have h := (bck_of h).2
      exact fr_e2 h q
  · obtain ⟨r20, σ19, g, h⟩ := bd_of h
    have q : σ19 o j = σ o j := (fr_s_X5_fail (fok_sub ho (by decide)) _ _  g).trans q
    have h := (bck_of h).2
    exact fr_e2 h q
set_option maxRecDepth 20000 in
theorem fr_s_X5_clause {n o j : Nat} {r : Int32} {τ : Sg} (ho : fok W_X5_clause o j = true) (x1 : Int32) (x2 : Int32) (x3 : Nat) (σ : Sg) (hv_x3 : o ≠ x3) (h : s_X5_clause n x1 x2 x3 σ = some (r, τ)) : τ o j = σ o j := by
  unfold s_X5_clause at h
  have q : σ o j = σ o j := rfl
  obtain ⟨r2, σ1, g, h⟩ := bd_of h
  have q : σ1 o j = σ o j := (fr_s_X5_says rfl _ _ g).trans q
  obtain ⟨r4, σ3, g, h⟩ := bd_of h
  have q : σ3 o j = σ o j := (fr_s_X5_says rfl _ _ g).trans q
  obtain ⟨r6, σ5, g, h⟩ := bd_of h
  have q : σ5 o j = σ o j := (fr_s_X5_says rfl _ _ g).trans q
  obtain ⟨r8, σ7, g, h⟩ := bd_of h
  have q : σ7 o j = σ o j := (fr_s_X5_says rfl _ _ g).trans q
  rcases ite_of h with h | h
  · rcases ite_of h with h | h
    · rcases ite_of h with h | h
      · rcases ite_of h with h | h
        · obtain ⟨r10, σ9, g, h⟩ := bd_of h
          have q : σ9 o j = σ o j := (fr_s_X5_says rfl _ _ g).trans q
          rcases ite_of h with h | h
          · obtain ⟨r12, σ11, g, h⟩ := bd_of h
            have q : σ11 o j = σ o j := (fr_s_X5_fail (fok_sub ho (by decide)) _ _  g).trans q
            have h := (bck_of h).2
            exact fr_e2 h q
          · exact (fr_s_X5_clause_67 ho  x1 x2 x3 r2 r4 r6 r8 σ9 hv_x3 h).trans q
        · exact (fr_s_X5_clause_67 ho  x1 x2 x3 r2 r4 r6 r8 σ7 hv_x3 h).trans q
      · exact (fr_s_X5_clause_67 ho  x1 x2 x3 r2 r4 r6 r8 σ7 hv_x3 h).trans q
    · exact (fr_s_X5_clause_67 ho  x1 x2 x3 r2 r4 r6 r8 σ7 hv_x3 h).trans q
  · exact (fr_s_X5_clause_67 ho  x1 x2 x3 r2 r4 r6 r8 σ7 hv_x3 h).trans q
abbrev W_X5_read : List (Nat × Option Nat) := [(25, some 0), (25, some 1), (25, some 3), (25, some 4), (25, some 5), (25, some 6), (25, some 7)]
set_option maxRecDepth 20000 in
theorem fr_s_X5_read_61 {n o j : Nat} {r : Int32} {τ : Sg} (ho : fok W_X5_read o j = true) (rc24 : Int32 → Nat → Int32 → Int32 → Sg → Option (Int32 × Sg)) (H24 : ∀ (x1 : Int32) (x2 : Nat) (x3 : Int32) (x4 : Int32) (σ : Sg), o ≠ x2 → rc24 x1 x2 x3 x4 σ = some (r, τ) → τ o j = σ o j) (x1 : Int32) (x2 : Nat) (x4 : Int32) (σ : Sg) (hv_x2 : o ≠ x2) (h : s_X5_read_61 n rc24 x1 x2 x4 σ = some (r, τ)) : τ o j = σ o j := by
  unfold s_X5_read_61 at h
  have q : σ o j = σ o j := rfl
  exact (H24 x1 x2 (0 : Int32) (x4 + (1 : Int32)) σ hv_x2 h).trans q
set_option maxRecDepth 20000 in
theorem fr_s_X5_read_24b {n o j : Nat} {r : Int32} {τ : Sg} (ho : fok W_X5_read o j = true) (rc24 : Int32 → Nat → Int32 → Int32 → Sg → Option (Int32 × Sg)) (H24 : ∀ (x1 : Int32) (x2 : Nat) (x3 : Int32) (x4 : Int32) (σ : Sg), o ≠ x2 → rc24 x1 x2 x3 x4 σ = some (r, τ) → τ o j = σ o j) (x1 : Int32) (x2 : Nat) (x3 : Int32) (x4 : Int32) (σ : Sg) (hv_x2 : o ≠ x2) (h : s_X5_read_24b n rc24 x1 x2 x3 x4 σ = some (r, τ)) : τ o j = σ o j := by
  unfold s_X5_read_24b at h
  have q : σ o j = σ o j := rfl
  rcases ite_of h with h | h
  · obtain ⟨σ5, e, h⟩ := lt_of h
    have q : σ5 o j = σ o j := by rw [e]; exact (up2_f ho (by decide)).trans q
    exact fr_e2 h q
  · rcases ite_of h with h | h
    · obtain ⟨σ6, e, h⟩ := lt_of h
      have q : σ6 o j = σ o j := by rw [e]; exact (up2_f ho (by decide)).trans q
      exact fr_e2 h q
    · obtain ⟨σ7, g, h⟩ := bdv_of h
      have q : σ7 o j = σ o j := (fr_s_X5_next (fok_sub ho (by decide)) _  g).trans q
      rcases ite_of h with h | h
      · exact (fr_s_X5_read_61 ho rc24 H24 x1 x2 x4 σ7 hv_x2 h).trans q
      · obtain ⟨r9, σ8, g, h⟩ := bd_of h
        have q : σ8 o j = σ o j := (fr_s_X5_clause (fok_sub ho (by decide)) _ _ _ _ hv_x2 g).trans q
        obtain ⟨v12, -, h⟩ := lt_of h
        exact (H24 x1 x2 v12 (x4 + (1 : Int32)) σ8 hv_x2 h).trans q
theorem fr_s_X5_read_24 {n o j : Nat} {r : Int32} {τ : Sg} (ho : fok W_X5_read o j = true) : ∀ (k : Nat) (x1 : Int32) (x2 : Nat) (x3 : Int32) (x4 : Int32) (σ : Sg), o ≠ x2 → s_X5_read_24 n k x1 x2 x3 x4 σ = some (r, τ) → τ o j = σ o j := by
  intro k
  induction k with
  | zero => intro x1 x2 x3 x4 σ hv_x2 h; cases h
  | succ k ih => intro x1 x2 x3 x4 σ hv_x2 h; exact fr_s_X5_read_24b ho  (s_X5_read_24 n  k) ih x1 x2 x3 x4 σ hv_x2 h
set_option maxRecDepth 20000 in
theorem fr_s_X5_read {n o j : Nat} {r : Int32} {τ : Sg} (ho : fok W_X5_read o j = true) (x1 : Int32) (x2 : Nat) (σ : Sg) (hv_x2 : o ≠ x2) (h : s_X5_read n x1 x2 σ = some (r, τ)) : τ o j = σ o j := by
  unfold s_X5_read at h
  have q : σ o j = σ o j := rfl
  obtain ⟨σ1, e, h⟩ := lt_of h
  have q : σ1 o j = σ o j := by rw [e]; exact (up2_f ho (by decide)).trans q
  obtain ⟨σ2, e, h⟩ := lt_of h
  have q : σ2 o j = σ o j := by rw [e]; exact (up2_f ho (by decide)).trans q
  obtain ⟨σ3, e, h⟩ := lt_of h
  have q : σ3 o j = σ o j := by rw [e]; exact (up2_f ho (by decide)).trans q
  obtain ⟨σ4, g, h⟩ := bdv_of h
  have q : σ4 o j = σ o j := (fr_s_X2_sayNothing (fok_sub ho (by decide)) _ _ hv_x2 g).trans q
  exact (fr_s_X5_read_24 ho  n x1 x2 (1 : Int32) (0 : Int32) σ4 hv_x2 h).trans q
abbrev W_X6_draft : List (Nat × Option Nat) := []
set_option maxRecDepth 20000 in
theorem fr_s_X6_draft {n o j : Nat} {r : Nat} {τ : Sg} (ho : fok W_X6_draft o j = true) (σ : Sg) (h : s_X6_draft n σ = some (r, τ)) : τ o j = σ o j := by
  unfold s_X6_draft at h
  have q : σ o j = σ o j := rfl
  have h := (ck_of h).2
  exact fr_e2 h q
abbrev W_X6_enact : List (Nat × Option Nat) := [(27, some 0), (29, none), (30, none), (31, none), (32, none), (33, none), (34, none), (35, none), (36, none), (37, none), (38, none), (62, none)]
set_option maxRecDepth 20000 in
theorem fr_s_X6_enact_57 {n o j : Nat} {r : Int32} {τ : Sg} (ho : fok W_X6_enact o j = true) (x2 : Int32) (σ : Sg) (h : s_X6_enact_57 n x2 σ = some (r, τ)) : τ o j = σ o j := by
  unfold s_X6_enact_57 at h
  have q : σ o j = σ o j := rfl
  have h := (ck_of h).2
  obtain ⟨σ7, e, h⟩ := lt_of h
  have q : σ7 o j = σ o j := by rw [e]; exact (up2_o (fok_a ho (by decide))).trans q
  obtain ⟨σ8, e, h⟩ := lt_of h
  have q : σ8 o j = σ o j := by rw [e]; exact (up2_f ho (by decide)).trans q
  exact fr_e2 h q
set_option maxRecDepth 20000 in
theorem fr_s_X6_enact_13b {n o j : Nat} {r : Int32} {τ : Sg} (ho : fok W_X6_enact o j = true) (rc13 : Int32 → Int32 → Sg → Option (Int32 × Sg)) (H13 : ∀ (x1 : Int32) (x2 : Int32) (σ : Sg), rc13 x1 x2 σ = some (r, τ) → τ o j = σ o j) (x1 : Int32) (x2 : Int32) (σ : Sg) (h : s_X6_enact_13b n rc13 x1 x2 σ = some (r, τ)) : τ o j = σ o j := by
  unfold s_X6_enact_13b at h
  have q : σ o j = σ o j := rfl
  rcases ite_of h with h | h
  · exact (fr_s_X6_enact_57 ho  x2 σ  h).trans q
  · have h := (ck_of h).2
    have h := (ck_of h).2
    rcases ite_of h with h | h
    · exact (fr_s_X6_enact_57 ho  x2 σ  h).trans q
    · have h := (ck_of h).2
      have h := (ck_of h).2
      obtain ⟨σ6, e, h⟩ := lt_of h
      have q : σ6 o j = σ o j := by rw [e]; exact (up2_o (fok_a ho (by decide))).trans q
      exact (H13 x1 (x2 + (-1 : Int32)) σ6  h).trans q
theorem fr_s_X6_enact_13 {n o j : Nat} {r : Int32} {τ : Sg} (ho : fok W_X6_enact o j = true) : ∀ (k : Nat) (x1 : Int32) (x2 : Int32) (σ : Sg), s_X6_enact_13 n k x1 x2 σ = some (r, τ) → τ o j = σ o j := by
  intro k
  induction k with
  | zero => intro x1 x2 σ  h; cases h
  | succ k ih => intro x1 x2 σ  h; exact fr_s_X6_enact_13b ho  (s_X6_enact_13 n  k) ih x1 x2 σ  h
set_option maxRecDepth 20000 in
theorem fr_s_X6_enact {n o j : Nat} {r : Int32} {τ : Sg} (ho : fok W_X6_enact o j = true) (x1 : Int32) (σ : Sg) (h : s_X6_enact n x1 σ = some (r, τ)) : τ o j = σ o j := by
  unfold s_X6_enact at h
  have q : σ o j = σ o j := rfl
  obtain ⟨r2, σ1, g, h⟩ := bdr_of h
  have hl := draft_law g
  have q : σ1 o j = σ o j := (fr_s_X6_draft rfl _ g).trans q
  obtain ⟨σ3, e, h⟩ := lt_of h
  have q : σ3 o j = σ o j := by rw [e]; exact (up2_o (lawne ho (by assumption) (by decide))).trans q
  obtain ⟨v4, -, h⟩ := lt_of h
  exact (fr_s_X6_enact_13 ho  n x1 v4 σ3  h).trans q
