abbrev W_X12_ask : List (Nat × Option Nat) := [(101, none), (102, none), (103, none)]
set_option maxRecDepth 20000 in
theorem fr_s_X12_ask_85b {n o j : Nat} {r : Int32} {τ : Sg} (ho : fok W_X12_ask o j = true) (rc17 : Int32 → Int32 → Int32 → Sg → Option (Int32 × Sg)) (H17 : ∀ (x1 : Int32) (x2 : Int32) (x3 : Int32) (σ : Sg), rc17 x1 x2 x3 σ = some (r, τ) → τ o j = σ o j) (rc85 : Int32 → Int32 → Int32 → Int32 → Int32 → Sg → Option (Int32 × Sg)) (H85 : ∀ (x1 : Int32) (x2 : Int32) (x3 : Int32) (x4 : Int32) (x5 : Int32) (σ : Sg), rc85 x1 x2 x3 x4 x5 σ = some (r, τ) → τ o j = σ o j) (x1 : Int32) (x2 : Int32) (x3 : Int32) (x4 : Int32) (x5 : Int32) (σ : Sg) (h : s_X12_ask_85b n rc17 rc85 x1 x2 x3 x4 x5 σ = some (r, τ)) : τ o j = σ o j := by
  unfold s_X12_ask_85b at h
  have q : σ o j = σ o j := rfl
  rcases ite_of h with h | h
  · obtain ⟨v15, -, h⟩ := lt_of h
    exact (H17 x1 x2 v15 σ  h).trans q
  · have h := (ck_of h).2
    obtain ⟨r17, σ16, g, h⟩ := bd_of h
    have q : σ16 o j = σ o j := (fr_s_X12_cell rfl _ _ _ g).trans q
    have h := (ck_of h).2
    have h := (ck_of h).2
    obtain ⟨σ18, e, h⟩ := lt_of h
    have q : σ18 o j = σ o j := by rw [e]; exact (up2_o (fok_a ho (by decide))).trans q
    have h := (ck_of h).2
    obtain ⟨r20, σ19, g, h⟩ := bd_of h
    have q : σ19 o j = σ o j := (fr_s_X12_cell rfl _ _ _ g).trans q
    have h := (ck_of h).2
    have h := (ck_of h).2
    obtain ⟨σ21, e, h⟩ := lt_of h
    have q : σ21 o j = σ o j := by rw [e]; exact (up2_o (fok_a ho (by decide))).trans q
    have h := (ck_of h).2
    obtain ⟨v22, -, h⟩ := lt_of h
    exact (H85 x1 x2 x3 x4 v22 σ21  h).trans q
theorem fr_s_X12_ask_85 {n o j : Nat} {r : Int32} {τ : Sg} (ho : fok W_X12_ask o j = true) (rc17 : Int32 → Int32 → Int32 → Sg → Option (Int32 × Sg)) (H17 : ∀ (x1 : Int32) (x2 : Int32) (x3 : Int32) (σ : Sg), rc17 x1 x2 x3 σ = some (r, τ) → τ o j = σ o j) : ∀ (k : Nat) (x1 : Int32) (x2 : Int32) (x3 : Int32) (x4 : Int32) (x5 : Int32) (σ : Sg), s_X12_ask_85 n rc17 k x1 x2 x3 x4 x5 σ = some (r, τ) → τ o j = σ o j := by
  intro k
  induction k with
  | zero => intro x1 x2 x3 x4 x5 σ  h; cases h
  | succ k ih => intro x1 x2 x3 x4 x5 σ  h; exact fr_s_X12_ask_85b ho rc17 H17 (s_X12_ask_85 n rc17 k) ih x1 x2 x3 x4 x5 σ  h
set_option maxRecDepth 20000 in
theorem fr_s_X12_ask_38b {n o j : Nat} {r : Int32} {τ : Sg} (ho : fok W_X12_ask o j = true) (rc17 : Int32 → Int32 → Int32 → Sg → Option (Int32 × Sg)) (H17 : ∀ (x1 : Int32) (x2 : Int32) (x3 : Int32) (σ : Sg), rc17 x1 x2 x3 σ = some (r, τ) → τ o j = σ o j) (rc38 : Int32 → Int32 → Int32 → Int32 → Int32 → Sg → Option (Int32 × Sg)) (H38 : ∀ (x1 : Int32) (x2 : Int32) (x3 : Int32) (x4 : Int32) (x5 : Int32) (σ : Sg), rc38 x1 x2 x3 x4 x5 σ = some (r, τ) → τ o j = σ o j) (x1 : Int32) (x2 : Int32) (x3 : Int32) (x4 : Int32) (x5 : Int32) (σ : Sg) (h : s_X12_ask_38b n rc17 rc38 x1 x2 x3 x4 x5 σ = some (r, τ)) : τ o j = σ o j := by
  unfold s_X12_ask_38b at h
  have q : σ o j = σ o j := rfl
  rcases ite_of h with h | h
  · exact (fr_s_X12_ask_85 ho rc17 H17 n x1 x2 x3 x4 (11 : Int32) σ  h).trans q
  · have h := (ck_of h).2
    obtain ⟨r11, σ10, g, h⟩ := bd_of h
    have q : σ10 o j = σ o j := (fr_s_X12_cell rfl _ _ _ g).trans q
    have h := (ck_of h).2
    obtain ⟨r13, σ12, g, h⟩ := bd_of h
    have q : σ12 o j = σ o j := (fr_s_X12_least rfl _ _ _ g).trans q
    have h := (ck_of h).2
    obtain ⟨v14, -, h⟩ := lt_of h
    exact (H38 x1 x2 x3 r13 v14 σ12  h).trans q
theorem fr_s_X12_ask_38 {n o j : Nat} {r : Int32} {τ : Sg} (ho : fok W_X12_ask o j = true) (rc17 : Int32 → Int32 → Int32 → Sg → Option (Int32 × Sg)) (H17 : ∀ (x1 : Int32) (x2 : Int32) (x3 : Int32) (σ : Sg), rc17 x1 x2 x3 σ = some (r, τ) → τ o j = σ o j) : ∀ (k : Nat) (x1 : Int32) (x2 : Int32) (x3 : Int32) (x4 : Int32) (x5 : Int32) (σ : Sg), s_X12_ask_38 n rc17 k x1 x2 x3 x4 x5 σ = some (r, τ) → τ o j = σ o j := by
  intro k
  induction k with
  | zero => intro x1 x2 x3 x4 x5 σ  h; cases h
  | succ k ih => intro x1 x2 x3 x4 x5 σ  h; exact fr_s_X12_ask_38b ho rc17 H17 (s_X12_ask_38 n rc17 k) ih x1 x2 x3 x4 x5 σ  h
set_option maxRecDepth 20000 in
theorem fr_s_X12_ask_156 {n o j : Nat} {r : Int32} {τ : Sg} (ho : fok W_X12_ask o j = true) (x1 : Int32) (x2 : Int32) (x3 : Int32) (σ : Sg) (h : s_X12_ask_156 n x1 x2 x3 σ = some (r, τ)) : τ o j = σ o j := by
  unfold s_X12_ask_156 at h
  have q : σ o j = σ o j := rfl
  obtain ⟨r8, σ7, g, h⟩ := bd_of h
  have q : σ7 o j = σ o j := (fr_s_X12_cell rfl _ _ _ g).trans q
  have h := (ck_of h).2
  have h := (ck_of h).2
  obtain ⟨σ9, e, h⟩ := lt_of h
  have q : σ9 o j = σ o j := by rw [e]; exact (up2_o (fok_a ho (by decide))).trans q
  exact fr_e2 h q
set_option maxRecDepth 20000 in
theorem fr_s_X12_ask_17b {n o j : Nat} {r : Int32} {τ : Sg} (ho : fok W_X12_ask o j = true) (rc17 : Int32 → Int32 → Int32 → Sg → Option (Int32 × Sg)) (H17 : ∀ (x1 : Int32) (x2 : Int32) (x3 : Int32) (σ : Sg), rc17 x1 x2 x3 σ = some (r, τ) → τ o j = σ o j) (x1 : Int32) (x2 : Int32) (x3 : Int32) (σ : Sg) (h : s_X12_ask_17b n rc17 x1 x2 x3 σ = some (r, τ)) : τ o j = σ o j := by
  unfold s_X12_ask_17b at h
  have q : σ o j = σ o j := rfl
  rcases ite_of h with h | h
  · exact (fr_s_X12_ask_156 ho  x1 x2 x3 σ  h).trans q
  · obtain ⟨r5, σ4, g, h⟩ := bd_of h
    have q : σ4 o j = σ o j := (fr_s_X12_findWay (fok_sub ho (by decide)) _  g).trans q
    rcases ite_of h with h | h
    · exact (fr_s_X12_ask_156 ho  x1 x2 x3 σ4  h).trans q
    · obtain ⟨v6, -, h⟩ := lt_of h
      exact (fr_s_X12_ask_38 ho rc17 H17 n x1 x2 x3 v6 (11 : Int32) σ4  h).trans q
theorem fr_s_X12_ask_17 {n o j : Nat} {r : Int32} {τ : Sg} (ho : fok W_X12_ask o j = true) : ∀ (k : Nat) (x1 : Int32) (x2 : Int32) (x3 : Int32) (σ : Sg), s_X12_ask_17 n k x1 x2 x3 σ = some (r, τ) → τ o j = σ o j := by
  intro k
  induction k with
  | zero => intro x1 x2 x3 σ  h; cases h
  | succ k ih => intro x1 x2 x3 σ  h; exact fr_s_X12_ask_17b ho  (s_X12_ask_17 n  k) ih x1 x2 x3 σ  h
set_option maxRecDepth 20000 in
theorem fr_s_X12_ask {n o j : Nat} {r : Int32} {τ : Sg} (ho : fok W_X12_ask o j = true) (x1 : Int32) (x2 : Int32) (σ : Sg) (h : s_X12_ask n x1 x2 σ = some (r, τ)) : τ o j = σ o j := by
  unfold s_X12_ask at h
  have q : σ o j = σ o j := rfl
  obtain ⟨r2, σ1, g, h⟩ := bd_of h
  have q : σ1 o j = σ o j := (fr_s_X12_cell rfl _ _ _ g).trans q
  have h := (ck_of h).2
  have h := (ck_of h).2
  obtain ⟨σ3, e, h⟩ := lt_of h
  have q : σ3 o j = σ o j := by rw [e]; exact (up2_o (fok_a ho (by decide))).trans q
  exact (fr_s_X12_ask_17 ho  n x1 x2 (0 : Int32) σ3  h).trans q
abbrev W_X12_isWaterOn : List (Nat × Option Nat) := []
set_option maxRecDepth 20000 in
theorem fr_s_X12_isWaterOn {n o j : Nat} {r : Int32} {τ : Sg} (ho : fok W_X12_isWaterOn o j = true) (x1 : Int32) (x2 : Int32) (σ : Sg) (h : s_X12_isWaterOn n x1 x2 σ = some (r, τ)) : τ o j = σ o j := by
  unfold s_X12_isWaterOn at h
  have q : σ o j = σ o j := rfl
  have h := (ck_of h).2
  rcases ite_of h with h | h
  · obtain ⟨r2, σ1, g, h⟩ := bd_of h
    have q : σ1 o j = σ o j := (fr_s_X12_in rfl _ _ _ _ g).trans q
    rcases ite_of h with h | h
    · exact fr_e2 h q
    · exact fr_e2 h q
  · exact fr_e2 h q
abbrev W_X12_findFar : List (Nat × Option Nat) := [(106, none)]
set_option maxRecDepth 20000 in
theorem fr_s_X12_findFar_169 {n o j : Nat} {τ : Sg} (ho : fok W_X12_findFar o j = true) (rc31 : Int32 → Sg → Option Sg) (H31 : ∀ (x1 : Int32) (σ : Sg), rc31 x1 σ = some τ → τ o j = σ o j) (rc39 : Int32 → Int32 → Sg → Option Sg) (H39 : ∀ (x1 : Int32) (x2 : Int32) (σ : Sg), rc39 x1 x2 σ = some τ → τ o j = σ o j) (x1 : Int32) (x2 : Int32) (y0 : Int32) (y1 : Int32) (σ : Sg) (h : s_X12_findFar_169 n rc31 rc39 x1 x2 y0 y1 σ = some τ) : τ o j = σ o j := by
  unfold s_X12_findFar_169 at h
  have q : σ o j = σ o j := rfl
  have h := (ck_of h).2
  obtain ⟨σ6, e, h⟩ := lt_of h
  have q : σ6 o j = σ o j := by rw [e]; exact (up2_o (fok_a ho (by decide))).trans q
  exact (H39 x1 (x2 + (1 : Int32)) σ6  h).trans q
set_option maxRecDepth 20000 in
theorem fr_s_X12_findFar_158 {n o j : Nat} {τ : Sg} (ho : fok W_X12_findFar o j = true) (rc31 : Int32 → Sg → Option Sg) (H31 : ∀ (x1 : Int32) (σ : Sg), rc31 x1 σ = some τ → τ o j = σ o j) (rc39 : Int32 → Int32 → Sg → Option Sg) (H39 : ∀ (x1 : Int32) (x2 : Int32) (σ : Sg), rc39 x1 x2 σ = some τ → τ o j = σ o j) (x1 : Int32) (x2 : Int32) (y0 : Int32) (σ : Sg) (h : s_X12_findFar_158 n rc31 rc39 x1 x2 y0 σ = some τ) : τ o j = σ o j := by
  unfold s_X12_findFar_158 at h
  have q : σ o j = σ o j := rfl
  have h := (ck_of h).2
  have h := (ck_of h).2
  exact (fr_s_X12_findFar_169 ho rc31 H31 rc39 H39 x1 x2 (σ 106 (ix (σ 73 (ix x2)))) y0 σ  h).trans q
set_option maxRecDepth 20000 in
theorem fr_s_X12_findFar_112 {n o j : Nat} {τ : Sg} (ho : fok W_X12_findFar o j = true) (rc31 : Int32 → Sg → Option Sg) (H31 : ∀ (x1 : Int32) (σ : Sg), rc31 x1 σ = some τ → τ o j = σ o j) (rc39 : Int32 → Int32 → Sg → Option Sg) (H39 : ∀ (x1 : Int32) (x2 : Int32) (σ : Sg), rc39 x1 x2 σ = some τ → τ o j = σ o j) (x1 : Int32) (x2 : Int32) (y0 : Int32) (y1 : Int32) (σ : Sg) (h : s_X12_findFar_112 n rc31 rc39 x1 x2 y0 y1 σ = some τ) : τ o j = σ o j := by
  unfold s_X12_findFar_112 at h
  have q : σ o j = σ o j := rfl
  have h := (ck_of h).2
  obtain ⟨σ5, e, h⟩ := lt_of h
  have q : σ5 o j = σ o j := by rw [e]; exact (up2_o (fok_a ho (by decide))).trans q
  have h := (ck_of h).2
  have h := (ck_of h).2
  have h := (ck_of h).2
  rcases ite_of h with h | h
  · have h := (ck_of h).2
    have h := (ck_of h).2
    rcases ite_of h with h | h
    · exact (fr_s_X12_findFar_158 ho rc31 H31 rc39 H39 x1 x2 (σ5 73 (ix x2)) σ5  h).trans q
    · exact (fr_s_X12_findFar_169 ho rc31 H31 rc39 H39 x1 x2 (x1 + (1 : Int32)) (σ5 73 (ix x2)) σ5  h).trans q
  · exact (fr_s_X12_findFar_158 ho rc31 H31 rc39 H39 x1 x2 (σ5 73 (ix x2)) σ5  h).trans q
set_option maxRecDepth 20000 in
theorem fr_s_X12_findFar_101 {n o j : Nat} {τ : Sg} (ho : fok W_X12_findFar o j = true) (rc31 : Int32 → Sg → Option Sg) (H31 : ∀ (x1 : Int32) (σ : Sg), rc31 x1 σ = some τ → τ o j = σ o j) (rc39 : Int32 → Int32 → Sg → Option Sg) (H39 : ∀ (x1 : Int32) (x2 : Int32) (σ : Sg), rc39 x1 x2 σ = some τ → τ o j = σ o j) (x1 : Int32) (x2 : Int32) (y0 : Int32) (σ : Sg) (h : s_X12_findFar_101 n rc31 rc39 x1 x2 y0 σ = some τ) : τ o j = σ o j := by
  unfold s_X12_findFar_101 at h
  have q : σ o j = σ o j := rfl
  have h := (ck_of h).2
  have h := (ck_of h).2
  exact (fr_s_X12_findFar_112 ho rc31 H31 rc39 H39 x1 x2 (σ 106 (ix (σ 74 (ix x2)))) y0 σ  h).trans q
set_option maxRecDepth 20000 in
theorem fr_s_X12_findFar_39b {n o j : Nat} {τ : Sg} (ho : fok W_X12_findFar o j = true) (rc31 : Int32 → Sg → Option Sg) (H31 : ∀ (x1 : Int32) (σ : Sg), rc31 x1 σ = some τ → τ o j = σ o j) (rc39 : Int32 → Int32 → Sg → Option Sg) (H39 : ∀ (x1 : Int32) (x2 : Int32) (σ : Sg), rc39 x1 x2 σ = some τ → τ o j = σ o j) (x1 : Int32) (x2 : Int32) (σ : Sg) (h : s_X12_findFar_39b n rc31 rc39 x1 x2 σ = some τ) : τ o j = σ o j := by
  unfold s_X12_findFar_39b at h
  have q : σ o j = σ o j := rfl
  rcases ite_of h with h | h
  · exact (H31 (x1 + (1 : Int32)) σ  h).trans q
  · have h := (ck_of h).2
    rcases ite_of h with h | h
    · have h := (ck_of h).2
      have h := (ck_of h).2
      have h := (ck_of h).2
      rcases ite_of h with h | h
      · have h := (ck_of h).2
        have h := (ck_of h).2
        rcases ite_of h with h | h
        · exact (fr_s_X12_findFar_101 ho rc31 H31 rc39 H39 x1 x2 (σ 74 (ix x2)) σ  h).trans q
        · exact (fr_s_X12_findFar_112 ho rc31 H31 rc39 H39 x1 x2 (x1 + (1 : Int32)) (σ 74 (ix x2)) σ  h).trans q
      · exact (fr_s_X12_findFar_101 ho rc31 H31 rc39 H39 x1 x2 (σ 74 (ix x2)) σ  h).trans q
    · exact (H39 x1 (x2 + (1 : Int32)) σ  h).trans q
theorem fr_s_X12_findFar_39 {n o j : Nat} {τ : Sg} (ho : fok W_X12_findFar o j = true) (rc31 : Int32 → Sg → Option Sg) (H31 : ∀ (x1 : Int32) (σ : Sg), rc31 x1 σ = some τ → τ o j = σ o j) : ∀ (k : Nat) (x1 : Int32) (x2 : Int32) (σ : Sg), s_X12_findFar_39 n rc31 k x1 x2 σ = some τ → τ o j = σ o j := by
  intro k
  induction k with
  | zero => intro x1 x2 σ  h; cases h
  | succ k ih => intro x1 x2 σ  h; exact fr_s_X12_findFar_39b ho rc31 H31 (s_X12_findFar_39 n rc31 k) ih x1 x2 σ  h
set_option maxRecDepth 20000 in
theorem fr_s_X12_findFar_31b {n o j : Nat} {τ : Sg} (ho : fok W_X12_findFar o j = true) (rc31 : Int32 → Sg → Option Sg) (H31 : ∀ (x1 : Int32) (σ : Sg), rc31 x1 σ = some τ → τ o j = σ o j) (x1 : Int32) (σ : Sg) (h : s_X12_findFar_31b n rc31 x1 σ = some τ) : τ o j = σ o j := by
  unfold s_X12_findFar_31b at h
  have q : σ o j = σ o j := rfl
  rcases ite_of h with h | h
  · exact fr_e1 h q
  · exact (fr_s_X12_findFar_39 ho rc31 H31 n x1 (0 : Int32) σ  h).trans q
theorem fr_s_X12_findFar_31 {n o j : Nat} {τ : Sg} (ho : fok W_X12_findFar o j = true) : ∀ (k : Nat) (x1 : Int32) (σ : Sg), s_X12_findFar_31 n k x1 σ = some τ → τ o j = σ o j := by
  intro k
  induction k with
  | zero => intro x1 σ  h; cases h
  | succ k ih => intro x1 σ  h; exact fr_s_X12_findFar_31b ho  (s_X12_findFar_31 n  k) ih x1 σ  h
set_option maxRecDepth 20000 in
theorem fr_s_X12_findFar_2b {n o j : Nat} {τ : Sg} (ho : fok W_X12_findFar o j = true) (rc2 : Int32 → Sg → Option Sg) (H2 : ∀ (x1 : Int32) (σ : Sg), rc2 x1 σ = some τ → τ o j = σ o j) (x1 : Int32) (σ : Sg) (h : s_X12_findFar_2b n rc2 x1 σ = some τ) : τ o j = σ o j := by
  unfold s_X12_findFar_2b at h
  have q : σ o j = σ o j := rfl
  rcases ite_of h with h | h
  · exact (fr_s_X12_findFar_31 ho  n (0 : Int32) σ  h).trans q
  · obtain ⟨v3, -, h⟩ := lt_of h
    have h := (ck_of h).2
    obtain ⟨σ4, e, h⟩ := lt_of h
    have q : σ4 o j = σ o j := by rw [e]; exact (up2_o (fok_a ho (by decide))).trans q
    exact (H2 (x1 + (1 : Int32)) σ4  h).trans q
theorem fr_s_X12_findFar_2 {n o j : Nat} {τ : Sg} (ho : fok W_X12_findFar o j = true) : ∀ (k : Nat) (x1 : Int32) (σ : Sg), s_X12_findFar_2 n k x1 σ = some τ → τ o j = σ o j := by
  intro k
  induction k with
  | zero => intro x1 σ  h; cases h
  | succ k ih => intro x1 σ  h; exact fr_s_X12_findFar_2b ho  (s_X12_findFar_2 n  k) ih x1 σ  h
set_option maxRecDepth 20000 in
theorem fr_s_X12_findFar {n o j : Nat} {τ : Sg} (ho : fok W_X12_findFar o j = true) (σ : Sg) (h : s_X12_findFar n σ = some τ) : τ o j = σ o j := by
  unfold s_X12_findFar at h
  have q : σ o j = σ o j := rfl
  exact (fr_s_X12_findFar_2 ho  n (0 : Int32) σ  h).trans q
abbrev W_X12_heldBy : List (Nat × Option Nat) := []
set_option maxRecDepth 20000 in
theorem fr_s_X12_heldBy {n o j : Nat} {r : Int32} {τ : Sg} (ho : fok W_X12_heldBy o j = true) (x1 : Int32) (x2 : Int32) (x3 : Int32) (σ : Sg) (h : s_X12_heldBy n x1 x2 x3 σ = some (r, τ)) : τ o j = σ o j := by
  unfold s_X12_heldBy at h
  have q : σ o j = σ o j := rfl
  rcases ite_of h with h | h
  · have h := (ck_of h).2
    obtain ⟨r3, σ2, g, h⟩ := bd_of h
    have q : σ2 o j = σ o j := (fr_s_X12_one rfl _ _ g).trans q
    have h := (ck_of h).2
    obtain ⟨r5, σ4, g, h⟩ := bd_of h
    have q : σ4 o j = σ o j := (fr_s_X12_one rfl _ _ g).trans q
    exact fr_e2 h q
  · rcases ite_of h with h | h
    · have h := (ck_of h).2
      obtain ⟨r8, σ7, g, h⟩ := bd_of h
      have q : σ7 o j = σ o j := (fr_s_X12_one rfl _ _ g).trans q
      have h := (ck_of h).2
      obtain ⟨r10, σ9, g, h⟩ := bd_of h
      have q : σ9 o j = σ o j := (fr_s_X12_one rfl _ _ g).trans q
      exact fr_e2 h q
    · rcases ite_of h with h | h
      · have h := (ck_of h).2
        have h := (ck_of h).2
        exact fr_e2 h q
      · have h := (ck_of h).2
        have h := (ck_of h).2
        have h := (ck_of h).2
        have h := (ck_of h).2
        exact fr_e2 h q
abbrev W_X12_goesAhead : List (Nat × Option Nat) := []
set_option maxRecDepth 20000 in
theorem fr_s_X12_goesAhead_2b {n o j : Nat} {r : Int32} {τ : Sg} (ho : fok W_X12_goesAhead o j = true) (rc2 : Int32 → Int32 → Int32 → Sg → Option (Int32 × Sg)) (H2 : ∀ (x1 : Int32) (x2 : Int32) (x3 : Int32) (σ : Sg), rc2 x1 x2 x3 σ = some (r, τ) → τ o j = σ o j) (x1 : Int32) (x2 : Int32) (x3 : Int32) (σ : Sg) (h : s_X12_goesAhead_2b n rc2 x1 x2 x3 σ = some (r, τ)) : τ o j = σ o j := by
  unfold s_X12_goesAhead_2b at h
  have q : σ o j = σ o j := rfl
  rcases ite_of h with h | h
  · rcases ite_of h with h | h
    · exact fr_e2 h q
    · exact fr_e2 h q
  · obtain ⟨r2, σ1, g, h⟩ := bd_of h
    have q : σ1 o j = σ o j := (fr_s_X12_heldBy rfl _ _ _ _ g).trans q
    rcases ite_of h with h | h
    · exact (H2 x1 x2 (x3 + (1 : Int32)) σ1  h).trans q
    · rcases ite_of h with h | h
      · exact fr_e2 h q
      · exact fr_e2 h q
theorem fr_s_X12_goesAhead_2 {n o j : Nat} {r : Int32} {τ : Sg} (ho : fok W_X12_goesAhead o j = true) : ∀ (k : Nat) (x1 : Int32) (x2 : Int32) (x3 : Int32) (σ : Sg), s_X12_goesAhead_2 n k x1 x2 x3 σ = some (r, τ) → τ o j = σ o j := by
  intro k
  induction k with
  | zero => intro x1 x2 x3 σ  h; cases h
  | succ k ih => intro x1 x2 x3 σ  h; exact fr_s_X12_goesAhead_2b ho  (s_X12_goesAhead_2 n  k) ih x1 x2 x3 σ  h
set_option maxRecDepth 20000 in
theorem fr_s_X12_goesAhead {n o j : Nat} {r : Int32} {τ : Sg} (ho : fok W_X12_goesAhead o j = true) (x1 : Int32) (x2 : Int32) (σ : Sg) (h : s_X12_goesAhead n x1 x2 σ = some (r, τ)) : τ o j = σ o j := by
  unfold s_X12_goesAhead at h
  have q : σ o j = σ o j := rfl
  exact (fr_s_X12_goesAhead_2 ho  n x1 x2 (0 : Int32) σ  h).trans q
abbrev W_X12_findLine : List (Nat × Option Nat) := [(71, some 56), (104, none), (105, none), (106, none), (107, none)]
set_option maxRecDepth 20000 in
theorem fr_s_X12_findLine_140 {n o j : Nat} {τ : Sg} (ho : fok W_X12_findLine o j = true) (rc11 : Int32 → Int32 → Sg → Option Sg) (H11 : ∀ (x1 : Int32) (x2 : Int32) (σ : Sg), rc11 x1 x2 σ = some τ → τ o j = σ o j) (x1 : Int32) (x2 : Int32) (x3 : Int32) (σ : Sg) (h : s_X12_findLine_140 n rc11 x1 x2 x3 σ = some τ) : τ o j = σ o j := by
  unfold s_X12_findLine_140 at h
  have q : σ o j = σ o j := rfl
  have h := (ck_of h).2
  obtain ⟨σ14, e, h⟩ := lt_of h
  have q : σ14 o j = σ o j := by rw [e]; exact (up2_o (fok_a ho (by decide))).trans q
  obtain ⟨σ15, e, h⟩ := lt_of h
  have q : σ15 o j = σ o j := by rw [e]; exact (up2_f ho (by decide)).trans q
  exact (H11 x1 (x2 + (1 : Int32)) σ15  h).trans q
set_option maxRecDepth 20000 in
theorem fr_s_X12_findLine_100b {n o j : Nat} {τ : Sg} (ho : fok W_X12_findLine o j = true) (rc11 : Int32 → Int32 → Sg → Option Sg) (H11 : ∀ (x1 : Int32) (x2 : Int32) (σ : Sg), rc11 x1 x2 σ = some τ → τ o j = σ o j) (rc100 : Int32 → Int32 → Int32 → Sg → Option Sg) (H100 : ∀ (x1 : Int32) (x2 : Int32) (x3 : Int32) (σ : Sg), rc100 x1 x2 x3 σ = some τ → τ o j = σ o j) (x1 : Int32) (x2 : Int32) (x3 : Int32) (σ : Sg) (h : s_X12_findLine_100b n rc11 rc100 x1 x2 x3 σ = some τ) : τ o j = σ o j := by
  unfold s_X12_findLine_100b at h
  have q : σ o j = σ o j := rfl
  rcases ite_of h with h | h
  · exact (fr_s_X12_findLine_140 ho rc11 H11 x1 x2 x3 σ  h).trans q
  · have h := (ck_of h).2
    obtain ⟨r12, σ11, g, h⟩ := bd_of h
    have q : σ11 o j = σ o j := (fr_s_X12_goesAhead rfl _ _ _ g).trans q
    rcases ite_of h with h | h
    · exact (fr_s_X12_findLine_140 ho rc11 H11 x1 x2 x3 σ11  h).trans q
    · have h := (ck_of h).2
      have h := (ck_of h).2
      obtain ⟨σ13, e, h⟩ := lt_of h
      have q : σ13 o j = σ o j := by rw [e]; exact (up2_o (fok_a ho (by decide))).trans q
      exact (H100 x1 x2 (x3 + (-1 : Int32)) σ13  h).trans q
theorem fr_s_X12_findLine_100 {n o j : Nat} {τ : Sg} (ho : fok W_X12_findLine o j = true) (rc11 : Int32 → Int32 → Sg → Option Sg) (H11 : ∀ (x1 : Int32) (x2 : Int32) (σ : Sg), rc11 x1 x2 σ = some τ → τ o j = σ o j) : ∀ (k : Nat) (x1 : Int32) (x2 : Int32) (x3 : Int32) (σ : Sg), s_X12_findLine_100 n rc11 k x1 x2 x3 σ = some τ → τ o j = σ o j := by
  intro k
  induction k with
  | zero => intro x1 x2 x3 σ  h; cases h
  | succ k ih => intro x1 x2 x3 σ  h; exact fr_s_X12_findLine_100b ho rc11 H11 (s_X12_findLine_100 n rc11 k) ih x1 x2 x3 σ  h
set_option maxRecDepth 20000 in
theorem fr_s_X12_findLine_11b {n o j : Nat} {τ : Sg} (ho : fok W_X12_findLine o j = true) (rc11 : Int32 → Int32 → Sg → Option Sg) (H11 : ∀ (x1 : Int32) (x2 : Int32) (σ : Sg), rc11 x1 x2 σ = some τ → τ o j = σ o j) (x1 : Int32) (x2 : Int32) (σ : Sg) (h : s_X12_findLine_11b n rc11 x1 x2 σ = some τ) : τ o j = σ o j := by
  unfold s_X12_findLine_11b at h
  have q : σ o j = σ o j := rfl
  rcases ite_of h with h | h
  · exact fr_e1 h q
  · have h := (ck_of h).2
    obtain ⟨σ3, e, h⟩ := lt_of h
    have q : σ3 o j = σ o j := by rw [e]; exact (up2_o (fok_a ho (by decide))).trans q
    have h := (ck_of h).2
    obtain ⟨σ4, e, h⟩ := lt_of h
    have q : σ4 o j = σ o j := by rw [e]; exact (up2_o (fok_a ho (by decide))).trans q
    obtain ⟨r6, σ5, g, h⟩ := bd_of h
    have q : σ5 o j = σ o j := (fr_s_X12_isWaterOn rfl _ _ _ g).trans q
    rcases ite_of h with h | h
    · exact (H11 x1 (x2 + (1 : Int32)) σ5  h).trans q
    · have h := (ck_of h).2
      have h := (ck_of h).2
      have h := (ck_of h).2
      have h := (ck_of h).2
      rcases ite_of h with h | h
      · have h := (ck_of h).2
        have h := (ck_of h).2
        have h := (ck_of h).2
        obtain ⟨σ7, e, h⟩ := lt_of h
        have q : σ7 o j = σ o j := by rw [e]; exact (up2_o (fok_a ho (by decide))).trans q
        obtain ⟨v8, -, h⟩ := lt_of h
        exact (fr_s_X12_findLine_100 ho rc11 H11 n x1 x2 v8 σ7  h).trans q
      · have h := (ck_of h).2
        obtain ⟨σ9, e, h⟩ := lt_of h
        have q : σ9 o j = σ o j := by rw [e]; exact (up2_o (fok_a ho (by decide))).trans q
        obtain ⟨v10, -, h⟩ := lt_of h
        exact (fr_s_X12_findLine_100 ho rc11 H11 n x1 x2 v10 σ9  h).trans q
theorem fr_s_X12_findLine_11 {n o j : Nat} {τ : Sg} (ho : fok W_X12_findLine o j = true) : ∀ (k : Nat) (x1 : Int32) (x2 : Int32) (σ : Sg), s_X12_findLine_11 n k x1 x2 σ = some τ → τ o j = σ o j := by
  intro k
  induction k with
  | zero => intro x1 x2 σ  h; cases h
  | succ k ih => intro x1 x2 σ  h; exact fr_s_X12_findLine_11b ho  (s_X12_findLine_11 n  k) ih x1 x2 σ  h
set_option maxRecDepth 20000 in
theorem fr_s_X12_findLine {n o j : Nat} {τ : Sg} (ho : fok W_X12_findLine o j = true) (x1 : Int32) (σ : Sg) (h : s_X12_findLine n x1 σ = some τ) : τ o j = σ o j := by
  unfold s_X12_findLine at h
  have q : σ o j = σ o j := rfl
  obtain ⟨σ1, g, h⟩ := bdv_of h
  have q : σ1 o j = σ o j := (fr_s_X12_findFar (fok_sub ho (by decide)) _  g).trans q
  obtain ⟨σ2, e, h⟩ := lt_of h
  have q : σ2 o j = σ o j := by rw [e]; exact (up2_f ho (by decide)).trans q
  exact (fr_s_X12_findLine_11 ho  n x1 (0 : Int32) σ2  h).trans q
abbrev W_X12_askLeaks : List (Nat × Option Nat) := [(71, some 57), (101, none), (102, none), (103, none)]
set_option maxRecDepth 20000 in
theorem fr_s_X12_askLeaks_12b {n o j : Nat} {τ : Sg} (ho : fok W_X12_askLeaks o j = true) (rc12 : Int32 → Sg → Option Sg) (H12 : ∀ (x2 : Int32) (σ : Sg), rc12 x2 σ = some τ → τ o j = σ o j) (x2 : Int32) (σ : Sg) (h : s_X12_askLeaks_12b n rc12 x2 σ = some τ) : τ o j = σ o j := by
  unfold s_X12_askLeaks_12b at h
  have q : σ o j = σ o j := rfl
  rcases ite_of h with h | h
  · exact fr_e1 h q
  · have h := (ck_of h).2
    rcases ite_of h with h | h
    · have h := (ck_of h).2
      have h := (ck_of h).2
      obtain ⟨r4, σ3, g, h⟩ := bd_of h
      have q : σ3 o j = σ o j := (fr_s_X12_ask (fok_sub ho (by decide)) _ _ _  g).trans q
      obtain ⟨σ5, e, h⟩ := lt_of h
      have q : σ5 o j = σ o j := by rw [e]; exact (up2_f ho (by decide)).trans q
      exact (H12 (x2 + (1 : Int32)) σ5  h).trans q
    · obtain ⟨σ6, e, h⟩ := lt_of h
      have q : σ6 o j = σ o j := by rw [e]; exact (up2_f ho (by decide)).trans q
      exact (H12 (x2 + (1 : Int32)) σ6  h).trans q
theorem fr_s_X12_askLeaks_12 {n o j : Nat} {τ : Sg} (ho : fok W_X12_askLeaks o j = true) : ∀ (k : Nat) (x2 : Int32) (σ : Sg), s_X12_askLeaks_12 n k x2 σ = some τ → τ o j = σ o j := by
  intro k
  induction k with
  | zero => intro x2 σ  h; cases h
  | succ k ih => intro x2 σ  h; exact fr_s_X12_askLeaks_12b ho  (s_X12_askLeaks_12 n  k) ih x2 σ  h
set_option maxRecDepth 20000 in
theorem fr_s_X12_askLeaks {n o j : Nat} {τ : Sg} (ho : fok W_X12_askLeaks o j = true) (x1 : Int32) (σ : Sg) (h : s_X12_askLeaks n x1 σ = some τ) : τ o j = σ o j := by
  unfold s_X12_askLeaks at h
  have q : σ o j = σ o j := rfl
  obtain ⟨σ1, g, h⟩ := bdv_of h
  have q : σ1 o j = σ o j := (fr_s_X12_layNet (fok_sub ho (by decide)) _ _  g).trans q
  obtain ⟨σ2, e, h⟩ := lt_of h
  have q : σ2 o j = σ o j := by rw [e]; exact (up2_f ho (by decide)).trans q
  exact (fr_s_X12_askLeaks_12 ho  n (0 : Int32) σ2  h).trans q
abbrev W_X12_askStreets : List (Nat × Option Nat) := [(101, none), (102, none), (103, none), (105, none)]
set_option maxRecDepth 20000 in
theorem fr_s_X12_askStreets_2b {n o j : Nat} {τ : Sg} (ho : fok W_X12_askStreets o j = true) (rc2 : Int32 → Sg → Option Sg) (H2 : ∀ (x1 : Int32) (σ : Sg), rc2 x1 σ = some τ → τ o j = σ o j) (x1 : Int32) (σ : Sg) (h : s_X12_askStreets_2b n rc2 x1 σ = some τ) : τ o j = σ o j := by
  unfold s_X12_askStreets_2b at h
  have q : σ o j = σ o j := rfl
  rcases ite_of h with h | h
  · exact fr_e1 h q
  · have h := (ck_of h).2
    have h := (ck_of h).2
    have h := (ck_of h).2
    have h := (ck_of h).2
    have h := (ck_of h).2
    obtain ⟨r2, σ1, g, h⟩ := bd_of h
    have q : σ1 o j = σ o j := (fr_s_X12_ask (fok_sub ho (by decide)) _ _ _  g).trans q
    have h := (ck_of h).2
    obtain ⟨σ3, e, h⟩ := lt_of h
    have q : σ3 o j = σ o j := by rw [e]; exact (up2_o (fok_a ho (by decide))).trans q
    exact (H2 (x1 + (1 : Int32)) σ3  h).trans q
theorem fr_s_X12_askStreets_2 {n o j : Nat} {τ : Sg} (ho : fok W_X12_askStreets o j = true) : ∀ (k : Nat) (x1 : Int32) (σ : Sg), s_X12_askStreets_2 n k x1 σ = some τ → τ o j = σ o j := by
  intro k
  induction k with
  | zero => intro x1 σ  h; cases h
  | succ k ih => intro x1 σ  h; exact fr_s_X12_askStreets_2b ho  (s_X12_askStreets_2 n  k) ih x1 σ  h
set_option maxRecDepth 20000 in
theorem fr_s_X12_askStreets {n o j : Nat} {τ : Sg} (ho : fok W_X12_askStreets o j = true) (σ : Sg) (h : s_X12_askStreets n σ = some τ) : τ o j = σ o j := by
  unfold s_X12_askStreets at h
  have q : σ o j = σ o j := rfl
  exact (fr_s_X12_askStreets_2 ho  n (0 : Int32) σ  h).trans q
abbrev W_X12_findFlow : List (Nat × Option Nat) := [(71, some 56), (71, some 57), (101, none), (102, none), (103, none), (104, none), (105, none), (106, none), (107, none)]
set_option maxRecDepth 20000 in
theorem fr_s_X12_findFlow {n o j : Nat} {τ : Sg} (ho : fok W_X12_findFlow o j = true) (x1 : Int32) (σ : Sg) (h : s_X12_findFlow n x1 σ = some τ) : τ o j = σ o j := by
  unfold s_X12_findFlow at h
  have q : σ o j = σ o j := rfl
  obtain ⟨σ1, g, h⟩ := bdv_of h
  have q : σ1 o j = σ o j := (fr_s_X12_findLine (fok_sub ho (by decide)) _ _  g).trans q
  obtain ⟨σ2, g, h⟩ := bdv_of h
  have q : σ2 o j = σ o j := (fr_s_X12_askLeaks (fok_sub ho (by decide)) _ _  g).trans q
  obtain ⟨σ3, g, h⟩ := bdv_of h
  have q : σ3 o j = σ o j := (fr_s_X12_askStreets (fok_sub ho (by decide)) _  g).trans q
  exact fr_e1 h q
abbrev W_X12_doHour : List (Nat × Option Nat) := [(71, some 25), (71, some 56), (71, some 57), (88, none), (89, none), (90, none), (91, none), (92, none), (101, none), (102, none), (103, none), (104, none), (105, none), (106, none), (107, none)]
set_option maxRecDepth 20000 in
theorem fr_s_X12_doHour_261 {n o j : Nat} {r : Int32} {τ : Sg} (ho : fok W_X12_doHour o j = true) (rc23 : Int32 → Int32 → Int32 → Int32 → Sg → Option (Int32 × Sg)) (H23 : ∀ (x1 : Int32) (x2 : Int32) (x3 : Int32) (x4 : Int32) (σ : Sg), rc23 x1 x2 x3 x4 σ = some (r, τ) → τ o j = σ o j) (x1 : Int32) (x2 : Int32) (x4 : Int32) (σ : Sg) (h : s_X12_doHour_261 n rc23 x1 x2 x4 σ = some (r, τ)) : τ o j = σ o j := by
  unfold s_X12_doHour_261 at h
  have q : σ o j = σ o j := rfl
  exact (H23 x1 x2 (0 : Int32) (x4 + (1 : Int32)) σ  h).trans q
set_option maxRecDepth 20000 in
theorem fr_s_X12_doHour_229 {n o j : Nat} {r : Int32} {τ : Sg} (ho : fok W_X12_doHour o j = true) (rc23 : Int32 → Int32 → Int32 → Int32 → Sg → Option (Int32 × Sg)) (H23 : ∀ (x1 : Int32) (x2 : Int32) (x3 : Int32) (x4 : Int32) (σ : Sg), rc23 x1 x2 x3 x4 σ = some (r, τ) → τ o j = σ o j) (x1 : Int32) (x2 : Int32) (x3 : Int32) (x4 : Int32) (x10 : Int32) (y0 : Int32) (y1 : Int32) (y2 : Int32) (σ : Sg) (h : s_X12_doHour_229 n rc23 x1 x2 x3 x4 x10 y0 y1 y2 σ = some (r, τ)) : τ o j = σ o j := by
  unfold s_X12_doHour_229 at h
  have q : σ o j = σ o j := rfl
  obtain ⟨r25, σ24, g, h⟩ := bd_of h
  have q : σ24 o j = σ o j := (fr_s_X12_one rfl _ _ g).trans q
  have h := (ck_of h).2
  obtain ⟨σ26, e, h⟩ := lt_of h
  have q : σ26 o j = σ o j := by rw [e]; exact (up2_o (fok_a ho (by decide))).trans q
  rcases ite_of h with h | h
  · rcases ite_of h with h | h
    · exact (fr_s_X12_doHour_261 ho rc23 H23 x1 x2 x4 σ26  h).trans q
    · have h := (ck_of h).2
      obtain ⟨v30, -, h⟩ := lt_of h
      exact (H23 x1 x2 v30 (x4 + (1 : Int32)) σ26  h).trans q
  · exact (H23 x1 x2 (1 : Int32) (x4 + (1 : Int32)) σ26  h).trans q
set_option maxRecDepth 20000 in
theorem fr_s_X12_doHour_155 {n o j : Nat} {r : Int32} {τ : Sg} (ho : fok W_X12_doHour o j = true) (rc23 : Int32 → Int32 → Int32 → Int32 → Sg → Option (Int32 × Sg)) (H23 : ∀ (x1 : Int32) (x2 : Int32) (x3 : Int32) (x4 : Int32) (σ : Sg), rc23 x1 x2 x3 x4 σ = some (r, τ) → τ o j = σ o j) (x1 : Int32) (x2 : Int32) (x3 : Int32) (x4 : Int32) (x5 : Int32) (x6 : Int32) (x7 : Int32) (x9 : Int32) (y0 : Int32) (y1 : Int32) (y2 : Int32) (σ : Sg) (h : s_X12_doHour_155 n rc23 x1 x2 x3 x4 x5 x6 x7 x9 y0 y1 y2 σ = some (r, τ)) : τ o j = σ o j := by
  unfold s_X12_doHour_155 at h
  have q : σ o j = σ o j := rfl
  have h := (ck_of h).2
  obtain ⟨σ16, e, h⟩ := lt_of h
  have q : σ16 o j = σ o j := by rw [e]; exact (up2_o (fok_a ho (by decide))).trans q
  obtain ⟨v17, -, h⟩ := lt_of h
  have h := (ck_of h).2
  have h := (ck_of h).2
  have h := (ck_of h).2
  obtain ⟨σ18, e, h⟩ := lt_of h
  have q : σ18 o j = σ o j := by rw [e]; exact (up2_o (fok_a ho (by decide))).trans q
  have h := (ck_of h).2
  have h := (ck_of h).2
  obtain ⟨σ19, e, h⟩ := lt_of h
  have q : σ19 o j = σ o j := by rw [e]; exact (up2_o (fok_a ho (by decide))).trans q
  have h := (ck_of h).2
  have h := (ck_of h).2
  obtain ⟨σ20, e, h⟩ := lt_of h
  have q : σ20 o j = σ o j := by rw [e]; exact (up2_o (fok_a ho (by decide))).trans q
  have h := (ck_of h).2
  obtain ⟨v23, -, h⟩ := lt_of h
  exact (fr_s_X12_doHour_229 ho rc23 H23 x1 x2 x3 x4 v17 v23 (σ20 90 (ix x4)) x4 σ20  h).trans q
set_option maxRecDepth 20000 in
theorem fr_s_X12_doHour_60 {n o j : Nat} {r : Int32} {τ : Sg} (ho : fok W_X12_doHour o j = true) (rc23 : Int32 → Int32 → Int32 → Int32 → Sg → Option (Int32 × Sg)) (H23 : ∀ (x1 : Int32) (x2 : Int32) (x3 : Int32) (x4 : Int32) (σ : Sg), rc23 x1 x2 x3 x4 σ = some (r, τ) → τ o j = σ o j) (x1 : Int32) (x2 : Int32) (x3 : Int32) (x4 : Int32) (y0 : Int32) (y1 : Int32) (σ : Sg) (h : s_X12_doHour_60 n rc23 x1 x2 x3 x4 y0 y1 σ = some (r, τ)) : τ o j = σ o j := by
  unfold s_X12_doHour_60 at h
  have q : σ o j = σ o j := rfl
  obtain ⟨r6, σ5, g, h⟩ := bd_of h
  have q : σ5 o j = σ o j := (fr_s_X12_least rfl _ _ _ g).trans q
  have h := (ck_of h).2
  have h := (ck_of h).2
  obtain ⟨v7, -, h⟩ := lt_of h
  have h := (ck_of h).2
  obtain ⟨r9, σ8, g, h⟩ := bd_of h
  have q : σ8 o j = σ o j := (fr_s_X12_least rfl _ _ _ g).trans q
  have h := (ck_of h).2
  obtain ⟨v10, -, h⟩ := lt_of h
  have h := (ck_of h).2
  obtain ⟨r12, σ11, g, h⟩ := bd_of h
  have q : σ11 o j = σ o j := (fr_s_X12_least rfl _ _ _ g).trans q
  have h := (ck_of h).2
  have h := (ck_of h).2
  obtain ⟨v15, -, h⟩ := lt_of h
  exact (fr_s_X12_doHour_155 ho rc23 H23 x1 x2 x3 x4 r6 v7 r9 r12 v15 (σ11 88 (ix x4)) x4 σ11  h).trans q
set_option maxRecDepth 20000 in
theorem fr_s_X12_doHour_23b {n o j : Nat} {r : Int32} {τ : Sg} (ho : fok W_X12_doHour o j = true) (rc23 : Int32 → Int32 → Int32 → Int32 → Sg → Option (Int32 × Sg)) (H23 : ∀ (x1 : Int32) (x2 : Int32) (x3 : Int32) (x4 : Int32) (σ : Sg), rc23 x1 x2 x3 x4 σ = some (r, τ) → τ o j = σ o j) (x1 : Int32) (x2 : Int32) (x3 : Int32) (x4 : Int32) (σ : Sg) (h : s_X12_doHour_23b n rc23 x1 x2 x3 x4 σ = some (r, τ)) : τ o j = σ o j := by
  unfold s_X12_doHour_23b at h
  have q : σ o j = σ o j := rfl
  rcases ite_of h with h | h
  · have h := (bck_of h).2
    exact fr_e2 h q
  · have h := (ck_of h).2
    obtain ⟨r4, σ3, g, h⟩ := bd_of h
    have q : σ3 o j = σ o j := (fr_s_X12_isWaterOn rfl _ _ _ g).trans q
    rcases ite_of h with h | h
    · exact (fr_s_X12_doHour_60 ho rc23 H23 x1 x2 x3 x4 (0 : Int32) (σ 105 (ix x4)) σ3  h).trans q
    · have h := (ck_of h).2
      exact (fr_s_X12_doHour_60 ho rc23 H23 x1 x2 x3 x4 (σ3 84 (ix x4)) (σ 105 (ix x4)) σ3  h).trans q
theorem fr_s_X12_doHour_23 {n o j : Nat} {r : Int32} {τ : Sg} (ho : fok W_X12_doHour o j = true) : ∀ (k : Nat) (x1 : Int32) (x2 : Int32) (x3 : Int32) (x4 : Int32) (σ : Sg), s_X12_doHour_23 n k x1 x2 x3 x4 σ = some (r, τ) → τ o j = σ o j := by
  intro k
  induction k with
  | zero => intro x1 x2 x3 x4 σ  h; cases h
  | succ k ih => intro x1 x2 x3 x4 σ  h; exact fr_s_X12_doHour_23b ho  (s_X12_doHour_23 n  k) ih x1 x2 x3 x4 σ  h
set_option maxRecDepth 20000 in
theorem fr_s_X12_doHour {n o j : Nat} {r : Int32} {τ : Sg} (ho : fok W_X12_doHour o j = true) (x1 : Int32) (x2 : Int32) (σ : Sg) (h : s_X12_doHour n x1 x2 σ = some (r, τ)) : τ o j = σ o j := by
  unfold s_X12_doHour at h
  have q : σ o j = σ o j := rfl
  obtain ⟨σ1, g, h⟩ := bdv_of h
  have q : σ1 o j = σ o j := (fr_s_X12_findFlow (fok_sub ho (by decide)) _ _  g).trans q
  obtain ⟨σ2, e, h⟩ := lt_of h
  have q : σ2 o j = σ o j := by rw [e]; exact (up2_f ho (by decide)).trans q
  exact (fr_s_X12_doHour_23 ho  n x1 x2 (0 : Int32) (0 : Int32) σ2  h).trans q
abbrev W_X12_go : List (Nat × Option Nat) := [(71, some 0), (71, some 24), (71, some 25), (71, some 41), (71, some 42), (71, some 43), (71, some 44), (71, some 45), (71, some 46), (71, some 56), (71, some 57), (88, none), (89, none), (90, none), (91, none), (92, none), (99, none), (100, none), (101, none), (102, none), (103, none), (104, none), (105, none), (106, none), (107, none)]
set_option maxRecDepth 20000 in
theorem fr_s_X12_go_36b {n o j : Nat} {r : Int32} {τ : Sg} (ho : fok W_X12_go o j = true) (rc36 : Int32 → Int32 → Int32 → Sg → Option (Int32 × Sg)) (H36 : ∀ (x1 : Int32) (x2 : Int32) (x3 : Int32) (σ : Sg), rc36 x1 x2 x3 σ = some (r, τ) → τ o j = σ o j) (x1 : Int32) (x2 : Int32) (x3 : Int32) (σ : Sg) (h : s_X12_go_36b n rc36 x1 x2 x3 σ = some (r, τ)) : τ o j = σ o j := by
  unfold s_X12_go_36b at h
  have q : σ o j = σ o j := rfl
  rcases ite_of h with h | h
  · obtain ⟨σ3, e, h⟩ := lt_of h
    have q : σ3 o j = σ o j := by rw [e]; exact (up2_f ho (by decide)).trans q
    exact fr_e2 h q
  · obtain ⟨σ4, g, h⟩ := bdv_of h
    have q : σ4 o j = σ o j := (fr_s_X12_findRules (fok_sub ho (by decide)) _ _  g).trans q
    obtain ⟨r6, σ5, g, h⟩ := bd_of h
    have q : σ5 o j = σ o j := (fr_s_X12_doHour (fok_sub ho (by decide)) _ _ _  g).trans q
    obtain ⟨r8, σ7, g, h⟩ := bd_of h
    have q : σ7 o j = σ o j := (fr_s_X12_one rfl _ _ g).trans q
    obtain ⟨v9, -, h⟩ := lt_of h
    obtain ⟨σ10, e, h⟩ := lt_of h
    have q : σ10 o j = σ o j := by rw [e]; exact (up2_f ho (by decide)).trans q
    exact (H36 x1 v9 (x3 + (1 : Int32)) σ10  h).trans q
theorem fr_s_X12_go_36 {n o j : Nat} {r : Int32} {τ : Sg} (ho : fok W_X12_go o j = true) : ∀ (k : Nat) (x1 : Int32) (x2 : Int32) (x3 : Int32) (σ : Sg), s_X12_go_36 n k x1 x2 x3 σ = some (r, τ) → τ o j = σ o j := by
  intro k
  induction k with
  | zero => intro x1 x2 x3 σ  h; cases h
  | succ k ih => intro x1 x2 x3 σ  h; exact fr_s_X12_go_36b ho  (s_X12_go_36 n  k) ih x1 x2 x3 σ  h
set_option maxRecDepth 20000 in
theorem fr_s_X12_go {n o j : Nat} {r : Int32} {τ : Sg} (ho : fok W_X12_go o j = true) (x1 : Int32) (σ : Sg) (h : s_X12_go n x1 σ = some (r, τ)) : τ o j = σ o j := by
  unfold s_X12_go at h
  have q : σ o j = σ o j := rfl
  obtain ⟨r2, σ1, g, h⟩ := bd_of h
  have q : σ1 o j = σ o j := (fr_s_X12_in rfl _ _ _ _ g).trans q
  rcases ite_of h with h | h
  · exact fr_e2 h q
  · rcases ite_of h with h | h
    · exact (fr_s_X12_go_36 ho  n x1 (0 : Int32) (0 : Int32) σ1  h).trans q
    · exact fr_e2 h q
abbrev W_X12_shutMany : List (Nat × Option Nat) := []
set_option maxRecDepth 20000 in
theorem fr_s_X12_shutMany_4b {n o j : Nat} {r : Int32} {τ : Sg} (ho : fok W_X12_shutMany o j = true) (rc4 : Int32 → Int32 → Sg → Option (Int32 × Sg)) (H4 : ∀ (x1 : Int32) (x2 : Int32) (σ : Sg), rc4 x1 x2 σ = some (r, τ) → τ o j = σ o j) (x1 : Int32) (x2 : Int32) (σ : Sg) (h : s_X12_shutMany_4b n rc4 x1 x2 σ = some (r, τ)) : τ o j = σ o j := by
  unfold s_X12_shutMany_4b at h
  have q : σ o j = σ o j := rfl
  rcases ite_of h with h | h
  · exact fr_e2 h q
  · have h := (ck_of h).2
    obtain ⟨r2, σ1, g, h⟩ := bd_of h
    have q : σ1 o j = σ o j := (fr_s_X12_one rfl _ _ g).trans q
    obtain ⟨v3, -, h⟩ := lt_of h
    exact (H4 v3 (x2 + (1 : Int32)) σ1  h).trans q
theorem fr_s_X12_shutMany_4 {n o j : Nat} {r : Int32} {τ : Sg} (ho : fok W_X12_shutMany o j = true) : ∀ (k : Nat) (x1 : Int32) (x2 : Int32) (σ : Sg), s_X12_shutMany_4 n k x1 x2 σ = some (r, τ) → τ o j = σ o j := by
  intro k
  induction k with
  | zero => intro x1 x2 σ  h; cases h
  | succ k ih => intro x1 x2 σ  h; exact fr_s_X12_shutMany_4b ho  (s_X12_shutMany_4 n  k) ih x1 x2 σ  h
set_option maxRecDepth 20000 in
theorem fr_s_X12_shutMany {n o j : Nat} {r : Int32} {τ : Sg} (ho : fok W_X12_shutMany o j = true) (σ : Sg) (h : s_X12_shutMany n σ = some (r, τ)) : τ o j = σ o j := by
  unfold s_X12_shutMany at h
  have q : σ o j = σ o j := rfl
  exact (fr_s_X12_shutMany_4 ho  n (0 : Int32) (0 : Int32) σ  h).trans q
abbrev W_X12_alwaysMany : List (Nat × Option Nat) := []
set_option maxRecDepth 20000 in
theorem fr_s_X12_alwaysMany_4b {n o j : Nat} {r : Int32} {τ : Sg} (ho : fok W_X12_alwaysMany o j = true) (rc4 : Int32 → Int32 → Sg → Option (Int32 × Sg)) (H4 : ∀ (x1 : Int32) (x2 : Int32) (σ : Sg), rc4 x1 x2 σ = some (r, τ) → τ o j = σ o j) (x1 : Int32) (x2 : Int32) (σ : Sg) (h : s_X12_alwaysMany_4b n rc4 x1 x2 σ = some (r, τ)) : τ o j = σ o j := by
  unfold s_X12_alwaysMany_4b at h
  have q : σ o j = σ o j := rfl
  rcases ite_of h with h | h
  · exact fr_e2 h q
  · have h := (ck_of h).2
    obtain ⟨r2, σ1, g, h⟩ := bd_of h
    have q : σ1 o j = σ o j := (fr_s_X12_one rfl _ _ g).trans q
    obtain ⟨v3, -, h⟩ := lt_of h
    exact (H4 v3 (x2 + (1 : Int32)) σ1  h).trans q
theorem fr_s_X12_alwaysMany_4 {n o j : Nat} {r : Int32} {τ : Sg} (ho : fok W_X12_alwaysMany o j = true) : ∀ (k : Nat) (x1 : Int32) (x2 : Int32) (σ : Sg), s_X12_alwaysMany_4 n k x1 x2 σ = some (r, τ) → τ o j = σ o j := by
  intro k
  induction k with
  | zero => intro x1 x2 σ  h; cases h
  | succ k ih => intro x1 x2 σ  h; exact fr_s_X12_alwaysMany_4b ho  (s_X12_alwaysMany_4 n  k) ih x1 x2 σ  h
set_option maxRecDepth 20000 in
theorem fr_s_X12_alwaysMany {n o j : Nat} {r : Int32} {τ : Sg} (ho : fok W_X12_alwaysMany o j = true) (σ : Sg) (h : s_X12_alwaysMany n σ = some (r, τ)) : τ o j = σ o j := by
  unfold s_X12_alwaysMany at h
  have q : σ o j = σ o j := rfl
  exact (fr_s_X12_alwaysMany_4 ho  n (0 : Int32) (0 : Int32) σ  h).trans q
abbrev W_X12_guessMany : List (Nat × Option Nat) := []
set_option maxRecDepth 20000 in
theorem fr_s_X12_guessMany_32 {n o j : Nat} {r : Int32} {τ : Sg} (ho : fok W_X12_guessMany o j = true) (rc4 : Int32 → Int32 → Int32 → Sg → Option (Int32 × Sg)) (H4 : ∀ (x1 : Int32) (x2 : Int32) (x3 : Int32) (σ : Sg), rc4 x1 x2 x3 σ = some (r, τ) → τ o j = σ o j) (x1 : Int32) (x3 : Int32) (y0 : Int32) (y1 : Int32) (σ : Sg) (h : s_X12_guessMany_32 n rc4 x1 x3 y0 y1 σ = some (r, τ)) : τ o j = σ o j := by
  unfold s_X12_guessMany_32 at h
  have q : σ o j = σ o j := rfl
  obtain ⟨r6, σ5, g, h⟩ := bd_of h
  have q : σ5 o j = σ o j := (fr_s_X12_one rfl _ _ g).trans q
  obtain ⟨v7, -, h⟩ := lt_of h
  exact (H4 x1 v7 (x3 + (1 : Int32)) σ5  h).trans q
set_option maxRecDepth 20000 in
theorem fr_s_X12_guessMany_4b {n o j : Nat} {r : Int32} {τ : Sg} (ho : fok W_X12_guessMany o j = true) (rc4 : Int32 → Int32 → Int32 → Sg → Option (Int32 × Sg)) (H4 : ∀ (x1 : Int32) (x2 : Int32) (x3 : Int32) (σ : Sg), rc4 x1 x2 x3 σ = some (r, τ) → τ o j = σ o j) (x1 : Int32) (x2 : Int32) (x3 : Int32) (σ : Sg) (h : s_X12_guessMany_4b n rc4 x1 x2 x3 σ = some (r, τ)) : τ o j = σ o j := by
  unfold s_X12_guessMany_4b at h
  have q : σ o j = σ o j := rfl
  rcases ite_of h with h | h
  · exact fr_e2 h q
  · have h := (ck_of h).2
    obtain ⟨v4, -, h⟩ := lt_of h
    exact (fr_s_X12_guessMany_32 ho rc4 H4 x1 x3 v4 x2 σ  h).trans q
theorem fr_s_X12_guessMany_4 {n o j : Nat} {r : Int32} {τ : Sg} (ho : fok W_X12_guessMany o j = true) : ∀ (k : Nat) (x1 : Int32) (x2 : Int32) (x3 : Int32) (σ : Sg), s_X12_guessMany_4 n k x1 x2 x3 σ = some (r, τ) → τ o j = σ o j := by
  intro k
  induction k with
  | zero => intro x1 x2 x3 σ  h; cases h
  | succ k ih => intro x1 x2 x3 σ  h; exact fr_s_X12_guessMany_4b ho  (s_X12_guessMany_4 n  k) ih x1 x2 x3 σ  h
set_option maxRecDepth 20000 in
theorem fr_s_X12_guessMany {n o j : Nat} {r : Int32} {τ : Sg} (ho : fok W_X12_guessMany o j = true) (x1 : Int32) (σ : Sg) (h : s_X12_guessMany n x1 σ = some (r, τ)) : τ o j = σ o j := by
  unfold s_X12_guessMany at h
  have q : σ o j = σ o j := rfl
  exact (fr_s_X12_guessMany_4 ho  n x1 (0 : Int32) (0 : Int32) σ  h).trans q
abbrev W_X12_count : List (Nat × Option Nat) := []
set_option maxRecDepth 20000 in
theorem fr_s_X12_count {n o j : Nat} {r : Int32} {τ : Sg} (ho : fok W_X12_count o j = true) (x1 : Int32) (σ : Sg) (h : s_X12_count n x1 σ = some (r, τ)) : τ o j = σ o j := by
  unfold s_X12_count at h
  have q : σ o j = σ o j := rfl
  rcases ite_of h with h | h
  · exact fr_e2 h q
  · rcases ite_of h with h | h
    · exact fr_e2 h q
    · rcases ite_of h with h | h
      · exact fr_e2 h q
      · rcases ite_of h with h | h
        · obtain ⟨r6, σ5, g, h⟩ := bd_of h
          have q : σ5 o j = σ o j := (fr_s_X12_alwaysMany rfl _ g).trans q
          exact fr_e2 h q
        · rcases ite_of h with h | h
          · exact fr_e2 h q
          · rcases ite_of h with h | h
            · obtain ⟨r10, σ9, g, h⟩ := bd_of h
              have q : σ9 o j = σ o j := (fr_s_X12_shutMany rfl _ g).trans q
              exact fr_e2 h q
            · rcases ite_of h with h | h
              · exact fr_e2 h q
              · rcases ite_of h with h | h
                · exact fr_e2 h q
                · rcases ite_of h with h | h
                  · obtain ⟨r15, σ14, g, h⟩ := bd_of h
                    have q : σ14 o j = σ o j := (fr_s_X12_guessMany rfl _ _ g).trans q
                    exact fr_e2 h q
                  · rcases ite_of h with h | h
                    · exact fr_e2 h q
                    · rcases ite_of h with h | h
                      · exact fr_e2 h q
                      · exact fr_e2 h q
abbrev W_X12_byRooms : List (Nat × Option Nat) := []
set_option maxRecDepth 20000 in
theorem fr_s_X12_byRooms {n o j : Nat} {r : Int32} {τ : Sg} (ho : fok W_X12_byRooms o j = true) (x1 : Int32) (σ : Sg) (h : s_X12_byRooms n x1 σ = some (r, τ)) : τ o j = σ o j := by
  unfold s_X12_byRooms at h
  have q : σ o j = σ o j := rfl
  have h := (ck_of h).2
  have h := (ck_of h).2
  exact fr_e2 h q
abbrev W_X12_byMeter : List (Nat × Option Nat) := []
set_option maxRecDepth 20000 in
theorem fr_s_X12_byMeter {n o j : Nat} {r : Int32} {τ : Sg} (ho : fok W_X12_byMeter o j = true) (x1 : Int32) (σ : Sg) (h : s_X12_byMeter n x1 σ = some (r, τ)) : τ o j = σ o j := by
  unfold s_X12_byMeter at h
  have q : σ o j = σ o j := rfl
  have h := (ck_of h).2
  exact fr_e2 h q
abbrev W_X12_told : List (Nat × Option Nat) := [(71, some 41), (71, some 42), (71, some 43), (71, some 44), (71, some 45), (71, some 46), (99, none), (100, none)]
set_option maxRecDepth 20000 in
theorem fr_s_X12_told {n o j : Nat} {r : Int32} {τ : Sg} (ho : fok W_X12_told o j = true) (x1 : Int32) (x2 : Int32) (σ : Sg) (h : s_X12_told n x1 x2 σ = some (r, τ)) : τ o j = σ o j := by
  unfold s_X12_told at h
  have q : σ o j = σ o j := rfl
  obtain ⟨r2, σ1, g, h⟩ := bd_of h
  have q : σ1 o j = σ o j := (fr_s_X12_noStreet rfl _ _ g).trans q
  rcases ite_of h with h | h
  · obtain ⟨r4, σ3, g, h⟩ := bd_of h
    have q : σ3 o j = σ o j := (fr_s_X12_dayNow rfl _ g).trans q
    obtain ⟨σ5, g, h⟩ := bdv_of h
    have q : σ5 o j = σ o j := (fr_s_X12_findRules (fok_sub ho (by decide)) _ _  g).trans q
    rcases ite_of h with h | h
    · have h := (ck_of h).2
      exact fr_e2 h q
    · rcases ite_of h with h | h
      · have h := (ck_of h).2
        obtain ⟨r9, σ8, g, h⟩ := bd_of h
        have q : σ8 o j = σ o j := (fr_s_X12_one rfl _ _ g).trans q
        exact fr_e2 h q
      · rcases ite_of h with h | h
        · have h := (ck_of h).2
          exact fr_e2 h q
        · rcases ite_of h with h | h
          · have h := (ck_of h).2
            exact fr_e2 h q
          · rcases ite_of h with h | h
            · have h := (ck_of h).2
              exact fr_e2 h q
            · rcases ite_of h with h | h
              · have h := (ck_of h).2
                exact fr_e2 h q
              · rcases ite_of h with h | h
                · have h := (ck_of h).2
                  exact fr_e2 h q
                · rcases ite_of h with h | h
                  · obtain ⟨r17, σ16, g, h⟩ := bd_of h
                    have q : σ16 o j = σ o j := (fr_s_X12_byRooms rfl _ _ g).trans q
                    exact fr_e2 h q
                  · rcases ite_of h with h | h
                    · obtain ⟨r20, σ19, g, h⟩ := bd_of h
                      have q : σ19 o j = σ o j := (fr_s_X12_byMeter rfl _ _ g).trans q
                      exact fr_e2 h q
                    · exact fr_e2 h q
  · exact fr_e2 h q
abbrev W_X12_flow : List (Nat × Option Nat) := [(71, some 41), (71, some 42), (71, some 43), (71, some 44), (71, some 45), (71, some 46), (71, some 56), (71, some 57), (99, none), (100, none), (101, none), (102, none), (103, none), (104, none), (105, none), (106, none), (107, none)]
set_option maxRecDepth 20000 in
theorem fr_s_X12_flow_82b {n o j : Nat} {r : Int32} {τ : Sg} (ho : fok W_X12_flow o j = true) (rc82 : Int32 → Int32 → Int32 → Int32 → Sg → Option (Int32 × Sg)) (H82 : ∀ (x2 : Int32) (x3 : Int32) (x4 : Int32) (x5 : Int32) (σ : Sg), rc82 x2 x3 x4 x5 σ = some (r, τ) → τ o j = σ o j) (x2 : Int32) (x3 : Int32) (x4 : Int32) (x5 : Int32) (σ : Sg) (h : s_X12_flow_82b n rc82 x2 x3 x4 x5 σ = some (r, τ)) : τ o j = σ o j := by
  unfold s_X12_flow_82b at h
  have q : σ o j = σ o j := rfl
  rcases ite_of h with h | h
  · rcases ite_of h with h | h
    · have h := (ck_of h).2
      exact fr_e2 h q
    · rcases ite_of h with h | h
      · have h := (ck_of h).2
        exact fr_e2 h q
      · rcases ite_of h with h | h
        · exact fr_e2 h q
        · exact fr_e2 h q
  · have h := (ck_of h).2
    obtain ⟨v14, -, h⟩ := lt_of h
    exact (H82 x2 x3 v14 (x5 + (1 : Int32)) σ  h).trans q
theorem fr_s_X12_flow_82 {n o j : Nat} {r : Int32} {τ : Sg} (ho : fok W_X12_flow o j = true) : ∀ (k : Nat) (x2 : Int32) (x3 : Int32) (x4 : Int32) (x5 : Int32) (σ : Sg), s_X12_flow_82 n k x2 x3 x4 x5 σ = some (r, τ) → τ o j = σ o j := by
  intro k
  induction k with
  | zero => intro x2 x3 x4 x5 σ  h; cases h
  | succ k ih => intro x2 x3 x4 x5 σ  h; exact fr_s_X12_flow_82b ho  (s_X12_flow_82 n  k) ih x2 x3 x4 x5 σ  h
set_option maxRecDepth 20000 in
theorem fr_s_X12_flow_60 {n o j : Nat} {r : Int32} {τ : Sg} (ho : fok W_X12_flow o j = true) (x1 : Int32) (x2 : Int32) (x3 : Int32) (σ : Sg) (h : s_X12_flow_60 n x1 x2 x3 σ = some (r, τ)) : τ o j = σ o j := by
  unfold s_X12_flow_60 at h
  have q : σ o j = σ o j := rfl
  obtain ⟨r10, σ9, g, h⟩ := bd_of h
  have q : σ9 o j = σ o j := (fr_s_X12_dayNow rfl _ g).trans q
  obtain ⟨σ11, g, h⟩ := bdv_of h
  have q : σ11 o j = σ o j := (fr_s_X12_findRules (fok_sub ho (by decide)) _ _  g).trans q
  obtain ⟨σ12, g, h⟩ := bdv_of h
  have q : σ12 o j = σ o j := (fr_s_X12_findFlow (fok_sub ho (by decide)) _ _  g).trans q
  obtain ⟨v13, -, h⟩ := lt_of h
  exact (fr_s_X12_flow_82 ho  n x2 x3 v13 (0 : Int32) σ12  h).trans q
set_option maxRecDepth 20000 in
theorem fr_s_X12_flow_17 {n o j : Nat} {r : Int32} {τ : Sg} (ho : fok W_X12_flow o j = true) (x1 : Int32) (x2 : Int32) (x3 : Int32) (σ : Sg) (h : s_X12_flow_17 n x1 x2 x3 σ = some (r, τ)) : τ o j = σ o j := by
  unfold s_X12_flow_17 at h
  have q : σ o j = σ o j := rfl
  obtain ⟨r4, σ3, g, h⟩ := bd_of h
  have q : σ3 o j = σ o j := (fr_s_X12_isHour rfl _ _ g).trans q
  rcases ite_of h with h | h
  · exact fr_e2 h q
  · rcases ite_of h with h | h
    · obtain ⟨r8, σ7, g, h⟩ := bd_of h
      have q : σ7 o j = σ o j := (fr_s_X12_in rfl _ _ _ _ g).trans q
      rcases ite_of h with h | h
      · exact fr_e2 h q
      · exact (fr_s_X12_flow_60 ho  x1 x2 x3 σ7  h).trans q
    · obtain ⟨r6, σ5, g, h⟩ := bd_of h
      have q : σ5 o j = σ o j := (fr_s_X12_in rfl _ _ _ _ g).trans q
      rcases ite_of h with h | h
      · exact fr_e2 h q
      · exact (fr_s_X12_flow_60 ho  x1 x2 x3 σ5  h).trans q
set_option maxRecDepth 20000 in
theorem fr_s_X12_flow {n o j : Nat} {r : Int32} {τ : Sg} (ho : fok W_X12_flow o j = true) (x1 : Int32) (x2 : Int32) (x3 : Int32) (σ : Sg) (h : s_X12_flow n x1 x2 x3 σ = some (r, τ)) : τ o j = σ o j := by
  unfold s_X12_flow at h
  have q : σ o j = σ o j := rfl
  rcases ite_of h with h | h
  · exact (fr_s_X12_flow_17 ho  x1 x2 x3 σ  h).trans q
  · obtain ⟨r2, σ1, g, h⟩ := bd_of h
    have q : σ1 o j = σ o j := (fr_s_X12_noStreet rfl _ _ g).trans q
    rcases ite_of h with h | h
    · exact (fr_s_X12_flow_17 ho  x1 x2 x3 σ1  h).trans q
    · exact fr_e2 h q
abbrev W_X12_line : List (Nat × Option Nat) := [(71, some 41), (71, some 42), (71, some 43), (71, some 44), (71, some 45), (71, some 46), (71, some 56), (99, none), (100, none), (104, none), (105, none), (106, none), (107, none)]
set_option maxRecDepth 20000 in
theorem fr_s_X12_line {n o j : Nat} {r : Int32} {τ : Sg} (ho : fok W_X12_line o j = true) (x1 : Int32) (x2 : Int32) (σ : Sg) (h : s_X12_line n x1 x2 σ = some (r, τ)) : τ o j = σ o j := by
  unfold s_X12_line at h
  have q : σ o j = σ o j := rfl
  obtain ⟨r2, σ1, g, h⟩ := bd_of h
  have q : σ1 o j = σ o j := (fr_s_X12_isHour rfl _ _ g).trans q
  rcases ite_of h with h | h
  · exact fr_e2 h q
  · obtain ⟨r4, σ3, g, h⟩ := bd_of h
    have q : σ3 o j = σ o j := (fr_s_X12_dayNow rfl _ g).trans q
    obtain ⟨σ5, g, h⟩ := bdv_of h
    have q : σ5 o j = σ o j := (fr_s_X12_findRules (fok_sub ho (by decide)) _ _  g).trans q
    obtain ⟨σ6, g, h⟩ := bdv_of h
    have q : σ6 o j = σ o j := (fr_s_X12_findLine (fok_sub ho (by decide)) _ _  g).trans q
    obtain ⟨r8, σ7, g, h⟩ := bd_of h
    have q : σ7 o j = σ o j := (fr_s_X12_in rfl _ _ _ _ g).trans q
    rcases ite_of h with h | h
    · exact fr_e2 h q
    · have h := (ck_of h).2
      exact fr_e2 h q
abbrev W_X12_draw : List (Nat × Option Nat) := [(71, some 41), (71, some 42), (71, some 43), (71, some 44), (71, some 45), (71, some 46), (71, some 56), (71, some 57), (99, none), (100, none), (101, none), (102, none), (103, none), (104, none), (105, none), (106, none), (107, none), (108, none)]
set_option maxRecDepth 20000 in
theorem fr_s_X12_draw_158 {n o j : Nat} {r : Int32} {τ : Sg} (ho : fok W_X12_draw o j = true) (rc125 : Int32 → Int32 → Sg → Option (Int32 × Sg)) (H125 : ∀ (x5 : Int32) (x6 : Int32) (σ : Sg), rc125 x5 x6 σ = some (r, τ) → τ o j = σ o j) (x6 : Int32) (y0 : Int32) (y1 : Int32) (σ : Sg) (h : s_X12_draw_158 n rc125 x6 y0 y1 σ = some (r, τ)) : τ o j = σ o j := by
  unfold s_X12_draw_158 at h
  have q : σ o j = σ o j := rfl
  obtain ⟨r22, σ21, g, h⟩ := bd_of h
  have q : σ21 o j = σ o j := (fr_s_X12_one rfl _ _ g).trans q
  obtain ⟨v23, -, h⟩ := lt_of h
  exact (H125 v23 (x6 + (1 : Int32)) σ21  h).trans q
set_option maxRecDepth 20000 in
theorem fr_s_X12_draw_125b {n o j : Nat} {r : Int32} {τ : Sg} (ho : fok W_X12_draw o j = true) (rc125 : Int32 → Int32 → Sg → Option (Int32 × Sg)) (H125 : ∀ (x5 : Int32) (x6 : Int32) (σ : Sg), rc125 x5 x6 σ = some (r, τ) → τ o j = σ o j) (x5 : Int32) (x6 : Int32) (σ : Sg) (h : s_X12_draw_125b n rc125 x5 x6 σ = some (r, τ)) : τ o j = σ o j := by
  unfold s_X12_draw_125b at h
  have q : σ o j = σ o j := rfl
  rcases ite_of h with h | h
  · exact fr_e2 h q
  · have h := (ck_of h).2
    have h := (ck_of h).2
    obtain ⟨v20, -, h⟩ := lt_of h
    exact (fr_s_X12_draw_158 ho rc125 H125 x6 v20 x5 σ  h).trans q
theorem fr_s_X12_draw_125 {n o j : Nat} {r : Int32} {τ : Sg} (ho : fok W_X12_draw o j = true) : ∀ (k : Nat) (x5 : Int32) (x6 : Int32) (σ : Sg), s_X12_draw_125 n k x5 x6 σ = some (r, τ) → τ o j = σ o j := by
  intro k
  induction k with
  | zero => intro x5 x6 σ  h; cases h
  | succ k ih => intro x5 x6 σ  h; exact fr_s_X12_draw_125b ho  (s_X12_draw_125 n  k) ih x5 x6 σ  h
set_option maxRecDepth 20000 in
theorem fr_s_X12_draw_63b {n o j : Nat} {r : Int32} {τ : Sg} (ho : fok W_X12_draw o j = true) (rc63 : Int32 → Int32 → Int32 → Int32 → Sg → Option (Int32 × Sg)) (H63 : ∀ (x1 : Int32) (x2 : Int32) (x3 : Int32) (x4 : Int32) (σ : Sg), rc63 x1 x2 x3 x4 σ = some (r, τ) → τ o j = σ o j) (x1 : Int32) (x2 : Int32) (x3 : Int32) (x4 : Int32) (σ : Sg) (h : s_X12_draw_63b n rc63 x1 x2 x3 x4 σ = some (r, τ)) : τ o j = σ o j := by
  unfold s_X12_draw_63b at h
  have q : σ o j = σ o j := rfl
  rcases ite_of h with h | h
  · obtain ⟨σ13, g, h⟩ := bdv_of h
    have q : σ13 o j = σ o j := (fr_s_X12_askLeaks (fok_sub ho (by decide)) _ _  g).trans q
    obtain ⟨r15, σ14, g, h⟩ := bd_of h
    have q : σ14 o j = σ o j := (fr_s_X12_ask (fok_sub ho (by decide)) _ _ _  g).trans q
    rcases ite_of h with h | h
    · exact fr_e2 h q
    · obtain ⟨σ16, g, h⟩ := bdv_of h
      have q : σ16 o j = σ o j := (fr_s_X12_askStreets (fok_sub ho (by decide)) _  g).trans q
      exact (fr_s_X12_draw_125 ho  n (0 : Int32) (0 : Int32) σ16  h).trans q
  · have h := (ck_of h).2
    have h := (ck_of h).2
    obtain ⟨σ17, e, h⟩ := lt_of h
    have q : σ17 o j = σ o j := by rw [e]; exact (up2_o (fok_a ho (by decide))).trans q
    exact (H63 x1 x2 x3 (x4 + (1 : Int32)) σ17  h).trans q
theorem fr_s_X12_draw_63 {n o j : Nat} {r : Int32} {τ : Sg} (ho : fok W_X12_draw o j = true) : ∀ (k : Nat) (x1 : Int32) (x2 : Int32) (x3 : Int32) (x4 : Int32) (σ : Sg), s_X12_draw_63 n k x1 x2 x3 x4 σ = some (r, τ) → τ o j = σ o j := by
  intro k
  induction k with
  | zero => intro x1 x2 x3 x4 σ  h; cases h
  | succ k ih => intro x1 x2 x3 x4 σ  h; exact fr_s_X12_draw_63b ho  (s_X12_draw_63 n  k) ih x1 x2 x3 x4 σ  h
set_option maxRecDepth 20000 in
theorem fr_s_X12_draw {n o j : Nat} {r : Int32} {τ : Sg} (ho : fok W_X12_draw o j = true) (x1 : Int32) (x2 : Int32) (x3 : Int32) (σ : Sg) (h : s_X12_draw n x1 x2 x3 σ = some (r, τ)) : τ o j = σ o j := by
  unfold s_X12_draw at h
  have q : σ o j = σ o j := rfl
  obtain ⟨r2, σ1, g, h⟩ := bd_of h
  have q : σ1 o j = σ o j := (fr_s_X12_isNode rfl _ _ g).trans q
  rcases ite_of h with h | h
  · exact fr_e2 h q
  · obtain ⟨r4, σ3, g, h⟩ := bd_of h
    have q : σ3 o j = σ o j := (fr_s_X12_isHour rfl _ _ g).trans q
    rcases ite_of h with h | h
    · exact fr_e2 h q
    · obtain ⟨r6, σ5, g, h⟩ := bd_of h
      have q : σ5 o j = σ o j := (fr_s_X12_in rfl _ _ _ _ g).trans q
      rcases ite_of h with h | h
      · exact fr_e2 h q
      · obtain ⟨r8, σ7, g, h⟩ := bd_of h
        have q : σ7 o j = σ o j := (fr_s_X12_dayNow rfl _ g).trans q
        obtain ⟨σ9, g, h⟩ := bdv_of h
        have q : σ9 o j = σ o j := (fr_s_X12_findRules (fok_sub ho (by decide)) _ _  g).trans q
        obtain ⟨σ10, g, h⟩ := bdv_of h
        have q : σ10 o j = σ o j := (fr_s_X12_findFlow (fok_sub ho (by decide)) _ _  g).trans q
        rcases ite_of h with h | h
        · obtain ⟨r12, σ11, g, h⟩ := bd_of h
          have q : σ11 o j = σ o j := (fr_s_X12_ask (fok_sub ho (by decide)) _ _ _  g).trans q
          exact fr_e2 h q
        · exact (fr_s_X12_draw_63 ho  n x1 x2 x3 (0 : Int32) σ10  h).trans q
abbrev W_X12_keep : List (Nat × Option Nat) := [(109, none)]
set_option maxRecDepth 20000 in
theorem fr_s_X12_keep {n o j : Nat} {r : Int32} {τ : Sg} (ho : fok W_X12_keep o j = true) (x1 : Int32) (x2 : Int32) (x3 : Int32) (σ : Sg) (h : s_X12_keep n x1 x2 x3 σ = some (r, τ)) : τ o j = σ o j := by
  unfold s_X12_keep at h
  have q : σ o j = σ o j := rfl
  rcases ite_of h with h | h
  · have h := (ck_of h).2
    obtain ⟨σ1, e, h⟩ := lt_of h
    have q : σ1 o j = σ o j := by rw [e]; exact (up2_o (fok_a ho (by decide))).trans q
    have h := (ck_of h).2
    exact fr_e2 h q
  · have h := (ck_of h).2
    exact fr_e2 h q
abbrev W_X12_keepAll : List (Nat × Option Nat) := [(71, some 25), (86, none), (88, none), (89, none), (90, none), (91, none), (92, none), (109, none), (110, none)]
set_option maxRecDepth 20000 in
theorem fr_s_X12_keepAll_2b {n o j : Nat} {τ : Sg} (ho : fok W_X12_keepAll o j = true) (rc2 : Int32 → Int32 → Sg → Option Sg) (H2 : ∀ (x1 : Int32) (x2 : Int32) (σ : Sg), rc2 x1 x2 σ = some τ → τ o j = σ o j) (x1 : Int32) (x2 : Int32) (σ : Sg) (h : s_X12_keepAll_2b n rc2 x1 x2 σ = some τ) : τ o j = σ o j := by
  unfold s_X12_keepAll_2b at h
  have q : σ o j = σ o j := rfl
  rcases ite_of h with h | h
  · obtain ⟨r2, σ1, g, h⟩ := bd_of h
    have q : σ1 o j = σ o j := (fr_s_X12_keep (fok_sub ho (by decide)) _ _ _ _  g).trans q
    obtain ⟨σ3, e, h⟩ := lt_of h
    have q : σ3 o j = σ o j := by rw [e]; exact (up2_f ho (by decide)).trans q
    exact fr_e1 h q
  · have h := (ck_of h).2
    obtain ⟨r5, σ4, g, h⟩ := bd_of h
    have q : σ4 o j = σ o j := (fr_s_X12_keep (fok_sub ho (by decide)) _ _ _ _  g).trans q
    have h := (ck_of h).2
    obtain ⟨σ6, e, h⟩ := lt_of h
    have q : σ6 o j = σ o j := by rw [e]; exact (up2_o (fok_a ho (by decide))).trans q
    have h := (ck_of h).2
    obtain ⟨r8, σ7, g, h⟩ := bd_of h
    have q : σ7 o j = σ o j := (fr_s_X12_keep (fok_sub ho (by decide)) _ _ _ _  g).trans q
    have h := (ck_of h).2
    obtain ⟨σ9, e, h⟩ := lt_of h
    have q : σ9 o j = σ o j := by rw [e]; exact (up2_o (fok_a ho (by decide))).trans q
    have h := (ck_of h).2
    obtain ⟨r11, σ10, g, h⟩ := bd_of h
    have q : σ10 o j = σ o j := (fr_s_X12_keep (fok_sub ho (by decide)) _ _ _ _  g).trans q
    have h := (ck_of h).2
    obtain ⟨σ12, e, h⟩ := lt_of h
    have q : σ12 o j = σ o j := by rw [e]; exact (up2_o (fok_a ho (by decide))).trans q
    have h := (ck_of h).2
    obtain ⟨r14, σ13, g, h⟩ := bd_of h
    have q : σ13 o j = σ o j := (fr_s_X12_keep (fok_sub ho (by decide)) _ _ _ _  g).trans q
    have h := (ck_of h).2
    obtain ⟨σ15, e, h⟩ := lt_of h
    have q : σ15 o j = σ o j := by rw [e]; exact (up2_o (fok_a ho (by decide))).trans q
    have h := (ck_of h).2
    obtain ⟨r17, σ16, g, h⟩ := bd_of h
    have q : σ16 o j = σ o j := (fr_s_X12_keep (fok_sub ho (by decide)) _ _ _ _  g).trans q
    have h := (ck_of h).2
    obtain ⟨σ18, e, h⟩ := lt_of h
    have q : σ18 o j = σ o j := by rw [e]; exact (up2_o (fok_a ho (by decide))).trans q
    rcases ite_of h with h | h
    · have h := (ck_of h).2
      have h := (ck_of h).2
      obtain ⟨σ19, e, h⟩ := lt_of h
      have q : σ19 o j = σ o j := by rw [e]; exact (up2_o (fok_a ho (by decide))).trans q
      exact (H2 x1 (x2 + (1 : Int32)) σ19  h).trans q
    · have h := (ck_of h).2
      have h := (ck_of h).2
      obtain ⟨σ20, e, h⟩ := lt_of h
      have q : σ20 o j = σ o j := by rw [e]; exact (up2_o (fok_a ho (by decide))).trans q
      exact (H2 x1 (x2 + (1 : Int32)) σ20  h).trans q
theorem fr_s_X12_keepAll_2 {n o j : Nat} {τ : Sg} (ho : fok W_X12_keepAll o j = true) : ∀ (k : Nat) (x1 : Int32) (x2 : Int32) (σ : Sg), s_X12_keepAll_2 n k x1 x2 σ = some τ → τ o j = σ o j := by
  intro k
  induction k with
  | zero => intro x1 x2 σ  h; cases h
  | succ k ih => intro x1 x2 σ  h; exact fr_s_X12_keepAll_2b ho  (s_X12_keepAll_2 n  k) ih x1 x2 σ  h
set_option maxRecDepth 20000 in
theorem fr_s_X12_keepAll {n o j : Nat} {τ : Sg} (ho : fok W_X12_keepAll o j = true) (x1 : Int32) (σ : Sg) (h : s_X12_keepAll n x1 σ = some τ) : τ o j = σ o j := by
  unfold s_X12_keepAll at h
  have q : σ o j = σ o j := rfl
  exact (fr_s_X12_keepAll_2 ho  n x1 (0 : Int32) σ  h).trans q
abbrev W_X12_emptyAll : List (Nat × Option Nat) := [(88, none)]
set_option maxRecDepth 20000 in
theorem fr_s_X12_emptyAll_2b {n o j : Nat} {τ : Sg} (ho : fok W_X12_emptyAll o j = true) (rc2 : Int32 → Sg → Option Sg) (H2 : ∀ (x1 : Int32) (σ : Sg), rc2 x1 σ = some τ → τ o j = σ o j) (x1 : Int32) (σ : Sg) (h : s_X12_emptyAll_2b n rc2 x1 σ = some τ) : τ o j = σ o j := by
  unfold s_X12_emptyAll_2b at h
  have q : σ o j = σ o j := rfl
  rcases ite_of h with h | h
  · exact fr_e1 h q
  · have h := (ck_of h).2
    obtain ⟨σ1, e, h⟩ := lt_of h
    have q : σ1 o j = σ o j := by rw [e]; exact (up2_o (fok_a ho (by decide))).trans q
    exact (H2 (x1 + (1 : Int32)) σ1  h).trans q
theorem fr_s_X12_emptyAll_2 {n o j : Nat} {τ : Sg} (ho : fok W_X12_emptyAll o j = true) : ∀ (k : Nat) (x1 : Int32) (σ : Sg), s_X12_emptyAll_2 n k x1 σ = some τ → τ o j = σ o j := by
  intro k
  induction k with
  | zero => intro x1 σ  h; cases h
  | succ k ih => intro x1 σ  h; exact fr_s_X12_emptyAll_2b ho  (s_X12_emptyAll_2 n  k) ih x1 σ  h
set_option maxRecDepth 20000 in
theorem fr_s_X12_emptyAll {n o j : Nat} {τ : Sg} (ho : fok W_X12_emptyAll o j = true) (σ : Sg) (h : s_X12_emptyAll n σ = some τ) : τ o j = σ o j := by
  unfold s_X12_emptyAll at h
  have q : σ o j = σ o j := rfl
  exact (fr_s_X12_emptyAll_2 ho  n (0 : Int32) σ  h).trans q
abbrev W_X12_tryDay : List (Nat × Option Nat) := [(71, some 25), (71, some 56), (71, some 57), (86, none), (88, none), (89, none), (90, none), (91, none), (92, none), (101, none), (102, none), (103, none), (104, none), (105, none), (106, none), (107, none), (113, none)]
set_option maxRecDepth 20000 in
theorem fr_s_X12_tryDay_62b {n o j : Nat} {r : Int32} {τ : Sg} (ho : fok W_X12_tryDay o j = true) (rc62 : Int32 → Int32 → Int32 → Sg → Option (Int32 × Sg)) (H62 : ∀ (x1 : Int32) (x2 : Int32) (x3 : Int32) (σ : Sg), rc62 x1 x2 x3 σ = some (r, τ) → τ o j = σ o j) (x1 : Int32) (x2 : Int32) (x3 : Int32) (σ : Sg) (h : s_X12_tryDay_62b n rc62 x1 x2 x3 σ = some (r, τ)) : τ o j = σ o j := by
  unfold s_X12_tryDay_62b at h
  have q : σ o j = σ o j := rfl
  rcases ite_of h with h | h
  · have h := (ck_of h).2
    obtain ⟨σ7, e, h⟩ := lt_of h
    have q : σ7 o j = σ o j := by rw [e]; exact (up2_o (fok_a ho (by decide))).trans q
    have h := (ck_of h).2
    exact fr_e2 h q
  · obtain ⟨r9, σ8, g, h⟩ := bd_of h
    have q : σ8 o j = σ o j := (fr_s_X12_doHour (fok_sub ho (by decide)) _ _ _  g).trans q
    obtain ⟨r11, σ10, g, h⟩ := bd_of h
    have q : σ10 o j = σ o j := (fr_s_X12_one rfl _ _ g).trans q
    obtain ⟨v12, -, h⟩ := lt_of h
    exact (H62 x1 v12 (x3 + (1 : Int32)) σ10  h).trans q
theorem fr_s_X12_tryDay_62 {n o j : Nat} {r : Int32} {τ : Sg} (ho : fok W_X12_tryDay o j = true) : ∀ (k : Nat) (x1 : Int32) (x2 : Int32) (x3 : Int32) (σ : Sg), s_X12_tryDay_62 n k x1 x2 x3 σ = some (r, τ) → τ o j = σ o j := by
  intro k
  induction k with
  | zero => intro x1 x2 x3 σ  h; cases h
  | succ k ih => intro x1 x2 x3 σ  h; exact fr_s_X12_tryDay_62b ho  (s_X12_tryDay_62 n  k) ih x1 x2 x3 σ  h
set_option maxRecDepth 20000 in
theorem fr_s_X12_tryDay_17b {n o j : Nat} {r : Int32} {τ : Sg} (ho : fok W_X12_tryDay o j = true) (rc17 : Int32 → Int32 → Int32 → Sg → Option (Int32 × Sg)) (H17 : ∀ (x1 : Int32) (x2 : Int32) (x3 : Int32) (σ : Sg), rc17 x1 x2 x3 σ = some (r, τ) → τ o j = σ o j) (x1 : Int32) (x2 : Int32) (x3 : Int32) (σ : Sg) (h : s_X12_tryDay_17b n rc17 x1 x2 x3 σ = some (r, τ)) : τ o j = σ o j := by
  unfold s_X12_tryDay_17b at h
  have q : σ o j = σ o j := rfl
  rcases ite_of h with h | h
  · exact (fr_s_X12_tryDay_62 ho  n x1 x2 (0 : Int32) σ  h).trans q
  · have h := (ck_of h).2
    obtain ⟨v5, -, h⟩ := lt_of h
    have h := (ck_of h).2
    obtain ⟨σ6, e, h⟩ := lt_of h
    have q : σ6 o j = σ o j := by rw [e]; exact (up2_o (fok_a ho (by decide))).trans q
    exact (H17 x1 x2 (x3 + (1 : Int32)) σ6  h).trans q
theorem fr_s_X12_tryDay_17 {n o j : Nat} {r : Int32} {τ : Sg} (ho : fok W_X12_tryDay o j = true) : ∀ (k : Nat) (x1 : Int32) (x2 : Int32) (x3 : Int32) (σ : Sg), s_X12_tryDay_17 n k x1 x2 x3 σ = some (r, τ) → τ o j = σ o j := by
  intro k
  induction k with
  | zero => intro x1 x2 x3 σ  h; cases h
  | succ k ih => intro x1 x2 x3 σ  h; exact fr_s_X12_tryDay_17b ho  (s_X12_tryDay_17 n  k) ih x1 x2 x3 σ  h
set_option maxRecDepth 20000 in
theorem fr_s_X12_tryDay {n o j : Nat} {r : Int32} {τ : Sg} (ho : fok W_X12_tryDay o j = true) (x1 : Int32) (σ : Sg) (h : s_X12_tryDay n x1 σ = some (r, τ)) : τ o j = σ o j := by
  unfold s_X12_tryDay at h
  have q : σ o j = σ o j := rfl
  have h := (ck_of h).2
  rcases ite_of h with h | h
  · have h := (ck_of h).2
    exact fr_e2 h q
  · obtain ⟨σ1, g, h⟩ := bdv_of h
    have q : σ1 o j = σ o j := (fr_s_X12_emptyAll (fok_sub ho (by decide)) _  g).trans q
    exact (fr_s_X12_tryDay_17 ho  n x1 (0 : Int32) (0 : Int32) σ1  h).trans q
abbrev W_X12_sumOfOrder : List (Nat × Option Nat) := [(71, some 25), (71, some 56), (71, some 57), (86, none), (88, none), (89, none), (90, none), (91, none), (92, none), (101, none), (102, none), (103, none), (104, none), (105, none), (106, none), (107, none), (113, none)]
set_option maxRecDepth 20000 in
theorem fr_s_X12_sumOfOrder_6b {n o j : Nat} {r : Int32} {τ : Sg} (ho : fok W_X12_sumOfOrder o j = true) (rc6 : Int32 → Int32 → Int32 → Sg → Option (Int32 × Sg)) (H6 : ∀ (x1 : Int32) (x2 : Int32) (x3 : Int32) (σ : Sg), rc6 x1 x2 x3 σ = some (r, τ) → τ o j = σ o j) (x1 : Int32) (x2 : Int32) (x3 : Int32) (σ : Sg) (h : s_X12_sumOfOrder_6b n rc6 x1 x2 x3 σ = some (r, τ)) : τ o j = σ o j := by
  unfold s_X12_sumOfOrder_6b at h
  have q : σ o j = σ o j := rfl
  rcases ite_of h with h | h
  · exact fr_e2 h q
  · have h := (ck_of h).2
    obtain ⟨v1, -, h⟩ := lt_of h
    obtain ⟨r3, σ2, g, h⟩ := bd_of h
    have q : σ2 o j = σ o j := (fr_s_X12_tryDay (fok_sub ho (by decide)) _ _  g).trans q
    obtain ⟨v4, -, h⟩ := lt_of h
    exact (H6 v4 v1 (x3 + (1 : Int32)) σ2  h).trans q
theorem fr_s_X12_sumOfOrder_6 {n o j : Nat} {r : Int32} {τ : Sg} (ho : fok W_X12_sumOfOrder o j = true) : ∀ (k : Nat) (x1 : Int32) (x2 : Int32) (x3 : Int32) (σ : Sg), s_X12_sumOfOrder_6 n k x1 x2 x3 σ = some (r, τ) → τ o j = σ o j := by
  intro k
  induction k with
  | zero => intro x1 x2 x3 σ  h; cases h
  | succ k ih => intro x1 x2 x3 σ  h; exact fr_s_X12_sumOfOrder_6b ho  (s_X12_sumOfOrder_6 n  k) ih x1 x2 x3 σ  h
set_option maxRecDepth 20000 in
theorem fr_s_X12_sumOfOrder {n o j : Nat} {r : Int32} {τ : Sg} (ho : fok W_X12_sumOfOrder o j = true) (σ : Sg) (h : s_X12_sumOfOrder n σ = some (r, τ)) : τ o j = σ o j := by
  unfold s_X12_sumOfOrder at h
  have q : σ o j = σ o j := rfl
  exact (fr_s_X12_sumOfOrder_6 ho  n (0 : Int32) (0 : Int32) (0 : Int32) σ  h).trans q
abbrev W_X12_nextOrder : List (Nat × Option Nat) := [(111, none)]
set_option maxRecDepth 20000 in
theorem fr_s_X12_nextOrder_107b {n o j : Nat} {r : Int32} {τ : Sg} (ho : fok W_X12_nextOrder o j = true) (rc107 : Int32 → Int32 → Sg → Option (Int32 × Sg)) (H107 : ∀ (x4 : Int32) (x5 : Int32) (σ : Sg), rc107 x4 x5 σ = some (r, τ) → τ o j = σ o j) (x4 : Int32) (x5 : Int32) (σ : Sg) (h : s_X12_nextOrder_107b n rc107 x4 x5 σ = some (r, τ)) : τ o j = σ o j := by
  unfold s_X12_nextOrder_107b at h
  have q : σ o j = σ o j := rfl
  rcases ite_of h with h | h
  · exact fr_e2 h q
  · have h := (ck_of h).2
    obtain ⟨v8, -, h⟩ := lt_of h
    have h := (ck_of h).2
    have h := (ck_of h).2
    obtain ⟨σ9, e, h⟩ := lt_of h
    have q : σ9 o j = σ o j := by rw [e]; exact (up2_o (fok_a ho (by decide))).trans q
    have h := (ck_of h).2
    obtain ⟨σ10, e, h⟩ := lt_of h
    have q : σ10 o j = σ o j := by rw [e]; exact (up2_o (fok_a ho (by decide))).trans q
    exact (H107 (x4 + (1 : Int32)) (x5 + (-1 : Int32)) σ10  h).trans q
theorem fr_s_X12_nextOrder_107 {n o j : Nat} {r : Int32} {τ : Sg} (ho : fok W_X12_nextOrder o j = true) : ∀ (k : Nat) (x4 : Int32) (x5 : Int32) (σ : Sg), s_X12_nextOrder_107 n k x4 x5 σ = some (r, τ) → τ o j = σ o j := by
  intro k
  induction k with
  | zero => intro x4 x5 σ  h; cases h
  | succ k ih => intro x4 x5 σ  h; exact fr_s_X12_nextOrder_107b ho  (s_X12_nextOrder_107 n  k) ih x4 x5 σ  h
set_option maxRecDepth 20000 in
theorem fr_s_X12_nextOrder_47b {n o j : Nat} {r : Int32} {τ : Sg} (ho : fok W_X12_nextOrder o j = true) (rc47 : Int32 → Int32 → Sg → Option (Int32 × Sg)) (H47 : ∀ (x1 : Int32) (x2 : Int32) (σ : Sg), rc47 x1 x2 σ = some (r, τ) → τ o j = σ o j) (x1 : Int32) (x2 : Int32) (σ : Sg) (h : s_X12_nextOrder_47b n rc47 x1 x2 σ = some (r, τ)) : τ o j = σ o j := by
  unfold s_X12_nextOrder_47b at h
  have q : σ o j = σ o j := rfl
  have h := (ck_of h).2
  have h := (ck_of h).2
  rcases ite_of h with h | h
  · have h := (ck_of h).2
    obtain ⟨v3, -, h⟩ := lt_of h
    have h := (ck_of h).2
    have h := (ck_of h).2
    obtain ⟨σ4, e, h⟩ := lt_of h
    have q : σ4 o j = σ o j := by rw [e]; exact (up2_o (fok_a ho (by decide))).trans q
    have h := (ck_of h).2
    obtain ⟨σ5, e, h⟩ := lt_of h
    have q : σ5 o j = σ o j := by rw [e]; exact (up2_o (fok_a ho (by decide))).trans q
    obtain ⟨v6, -, h⟩ := lt_of h
    obtain ⟨v7, -, h⟩ := lt_of h
    exact (fr_s_X12_nextOrder_107 ho  n v6 v7 σ5  h).trans q
  · exact (H47 x1 (x2 + (-1 : Int32)) σ  h).trans q
theorem fr_s_X12_nextOrder_47 {n o j : Nat} {r : Int32} {τ : Sg} (ho : fok W_X12_nextOrder o j = true) : ∀ (k : Nat) (x1 : Int32) (x2 : Int32) (σ : Sg), s_X12_nextOrder_47 n k x1 x2 σ = some (r, τ) → τ o j = σ o j := by
  intro k
  induction k with
  | zero => intro x1 x2 σ  h; cases h
  | succ k ih => intro x1 x2 σ  h; exact fr_s_X12_nextOrder_47b ho  (s_X12_nextOrder_47 n  k) ih x1 x2 σ  h
set_option maxRecDepth 20000 in
theorem fr_s_X12_nextOrder_34 {n o j : Nat} {r : Int32} {τ : Sg} (ho : fok W_X12_nextOrder o j = true) (x1 : Int32) (σ : Sg) (h : s_X12_nextOrder_34 n x1 σ = some (r, τ)) : τ o j = σ o j := by
  unfold s_X12_nextOrder_34 at h
  have q : σ o j = σ o j := rfl
  rcases ite_of h with h | h
  · obtain ⟨v2, -, h⟩ := lt_of h
    exact (fr_s_X12_nextOrder_47 ho  n x1 v2 σ  h).trans q
  · exact fr_e2 h q
set_option maxRecDepth 20000 in
theorem fr_s_X12_nextOrder_7b {n o j : Nat} {r : Int32} {τ : Sg} (ho : fok W_X12_nextOrder o j = true) (rc7 : Int32 → Sg → Option (Int32 × Sg)) (H7 : ∀ (x1 : Int32) (σ : Sg), rc7 x1 σ = some (r, τ) → τ o j = σ o j) (x1 : Int32) (σ : Sg) (h : s_X12_nextOrder_7b n rc7 x1 σ = some (r, τ)) : τ o j = σ o j := by
  unfold s_X12_nextOrder_7b at h
  have q : σ o j = σ o j := rfl
  rcases ite_of h with h | h
  · exact (fr_s_X12_nextOrder_34 ho  x1 σ  h).trans q
  · have h := (ck_of h).2
    have h := (ck_of h).2
    rcases ite_of h with h | h
    · exact (fr_s_X12_nextOrder_34 ho  x1 σ  h).trans q
    · exact (H7 (x1 + (-1 : Int32)) σ  h).trans q
theorem fr_s_X12_nextOrder_7 {n o j : Nat} {r : Int32} {τ : Sg} (ho : fok W_X12_nextOrder o j = true) : ∀ (k : Nat) (x1 : Int32) (σ : Sg), s_X12_nextOrder_7 n k x1 σ = some (r, τ) → τ o j = σ o j := by
  intro k
  induction k with
  | zero => intro x1 σ  h; cases h
  | succ k ih => intro x1 σ  h; exact fr_s_X12_nextOrder_7b ho  (s_X12_nextOrder_7 n  k) ih x1 σ  h
set_option maxRecDepth 20000 in
theorem fr_s_X12_nextOrder {n o j : Nat} {r : Int32} {τ : Sg} (ho : fok W_X12_nextOrder o j = true) (σ : Sg) (h : s_X12_nextOrder n σ = some (r, τ)) : τ o j = σ o j := by
  unfold s_X12_nextOrder at h
  have q : σ o j = σ o j := rfl
  obtain ⟨v1, -, h⟩ := lt_of h
  exact (fr_s_X12_nextOrder_7 ho  n v1 σ  h).trans q
abbrev W_X12_ones : List (Nat × Option Nat) := []
set_option maxRecDepth 20000 in
theorem fr_s_X12_ones_4b {n o j : Nat} {r : Int32} {τ : Sg} (ho : fok W_X12_ones o j = true) (rc4 : Int32 → Int32 → Int32 → Sg → Option (Int32 × Sg)) (H4 : ∀ (x0 : Int32) (x1 : Int32) (x2 : Int32) (σ : Sg), rc4 x0 x1 x2 σ = some (r, τ) → τ o j = σ o j) (x0 : Int32) (x1 : Int32) (x2 : Int32) (σ : Sg) (h : s_X12_ones_4b n rc4 x0 x1 x2 σ = some (r, τ)) : τ o j = σ o j := by
  unfold s_X12_ones_4b at h
  have q : σ o j = σ o j := rfl
  rcases ite_of h with h | h
  · exact fr_e2 h q
  · obtain ⟨v1, -, h⟩ := lt_of h
    exact (H4 x0 v1 (x2 + (1 : Int32)) σ  h).trans q
theorem fr_s_X12_ones_4 {n o j : Nat} {r : Int32} {τ : Sg} (ho : fok W_X12_ones o j = true) : ∀ (k : Nat) (x0 : Int32) (x1 : Int32) (x2 : Int32) (σ : Sg), s_X12_ones_4 n k x0 x1 x2 σ = some (r, τ) → τ o j = σ o j := by
  intro k
  induction k with
  | zero => intro x0 x1 x2 σ  h; cases h
  | succ k ih => intro x0 x1 x2 σ  h; exact fr_s_X12_ones_4b ho  (s_X12_ones_4 n  k) ih x0 x1 x2 σ  h
set_option maxRecDepth 20000 in
theorem fr_s_X12_ones {n o j : Nat} {r : Int32} {τ : Sg} (ho : fok W_X12_ones o j = true) (x0 : Int32) (σ : Sg) (h : s_X12_ones n x0 σ = some (r, τ)) : τ o j = σ o j := by
  unfold s_X12_ones at h
  have q : σ o j = σ o j := rfl
  exact (fr_s_X12_ones_4 ho  n x0 (0 : Int32) (0 : Int32) σ  h).trans q
abbrev W_X12_order : List (Nat × Option Nat) := [(71, some 25), (71, some 41), (71, some 42), (71, some 43), (71, some 44), (71, some 45), (71, some 46), (71, some 56), (71, some 57), (71, some 63), (86, none), (88, none), (89, none), (90, none), (91, none), (92, none), (99, none), (100, none), (101, none), (102, none), (103, none), (104, none), (105, none), (106, none), (107, none), (109, none), (110, none), (111, none), (112, none), (113, none)]
set_option maxRecDepth 20000 in
theorem fr_s_X12_order_189 {n o j : Nat} {r : Int32} {τ : Sg} (ho : fok W_X12_order o j = true) (rc133 : Int32 → Int32 → Int32 → Sg → Option (Int32 × Sg)) (H133 : ∀ (x2 : Int32) (x3 : Int32) (x4 : Int32) (σ : Sg), rc133 x2 x3 x4 σ = some (r, τ) → τ o j = σ o j) (x2 : Int32) (x3 : Int32) (σ : Sg) (h : s_X12_order_189 n rc133 x2 x3 σ = some (r, τ)) : τ o j = σ o j := by
  unfold s_X12_order_189 at h
  have q : σ o j = σ o j := rfl
  obtain ⟨r18, σ17, g, h⟩ := bd_of h
  have q : σ17 o j = σ o j := (fr_s_X12_nextOrder (fok_sub ho (by decide)) _  g).trans q
  exact (H133 x2 x3 r18 σ17  h).trans q
set_option maxRecDepth 20000 in
theorem fr_s_X12_order_160b {n o j : Nat} {r : Int32} {τ : Sg} (ho : fok W_X12_order o j = true) (rc133 : Int32 → Int32 → Int32 → Sg → Option (Int32 × Sg)) (H133 : ∀ (x2 : Int32) (x3 : Int32) (x4 : Int32) (σ : Sg), rc133 x2 x3 x4 σ = some (r, τ) → τ o j = σ o j) (rc160 : Int32 → Int32 → Int32 → Sg → Option (Int32 × Sg)) (H160 : ∀ (x2 : Int32) (x3 : Int32) (x6 : Int32) (σ : Sg), rc160 x2 x3 x6 σ = some (r, τ) → τ o j = σ o j) (x2 : Int32) (x3 : Int32) (x6 : Int32) (σ : Sg) (h : s_X12_order_160b n rc133 rc160 x2 x3 x6 σ = some (r, τ)) : τ o j = σ o j := by
  unfold s_X12_order_160b at h
  have q : σ o j = σ o j := rfl
  rcases ite_of h with h | h
  · exact (fr_s_X12_order_189 ho rc133 H133 x2 x3 σ  h).trans q
  · have h := (ck_of h).2
    have h := (ck_of h).2
    obtain ⟨σ16, e, h⟩ := lt_of h
    have q : σ16 o j = σ o j := by rw [e]; exact (up2_o (fok_a ho (by decide))).trans q
    exact (H160 x2 x3 (x6 + (1 : Int32)) σ16  h).trans q
theorem fr_s_X12_order_160 {n o j : Nat} {r : Int32} {τ : Sg} (ho : fok W_X12_order o j = true) (rc133 : Int32 → Int32 → Int32 → Sg → Option (Int32 × Sg)) (H133 : ∀ (x2 : Int32) (x3 : Int32) (x4 : Int32) (σ : Sg), rc133 x2 x3 x4 σ = some (r, τ) → τ o j = σ o j) : ∀ (k : Nat) (x2 : Int32) (x3 : Int32) (x6 : Int32) (σ : Sg), s_X12_order_160 n rc133 k x2 x3 x6 σ = some (r, τ) → τ o j = σ o j := by
  intro k
  induction k with
  | zero => intro x2 x3 x6 σ  h; cases h
  | succ k ih => intro x2 x3 x6 σ  h; exact fr_s_X12_order_160b ho rc133 H133 (s_X12_order_160 n rc133 k) ih x2 x3 x6 σ  h
set_option maxRecDepth 20000 in
theorem fr_s_X12_order_133b {n o j : Nat} {r : Int32} {τ : Sg} (ho : fok W_X12_order o j = true) (rc133 : Int32 → Int32 → Int32 → Sg → Option (Int32 × Sg)) (H133 : ∀ (x2 : Int32) (x3 : Int32) (x4 : Int32) (σ : Sg), rc133 x2 x3 x4 σ = some (r, τ) → τ o j = σ o j) (x2 : Int32) (x3 : Int32) (x4 : Int32) (σ : Sg) (h : s_X12_order_133b n rc133 x2 x3 x4 σ = some (r, τ)) : τ o j = σ o j := by
  unfold s_X12_order_133b at h
  have q : σ o j = σ o j := rfl
  rcases ite_of h with h | h
  · obtain ⟨σ11, g, h⟩ := bdv_of h
    have q : σ11 o j = σ o j := (fr_s_X12_keepAll (fok_sub ho (by decide)) _ _  g).trans q
    rcases ite_of h with h | h
    · exact fr_e2 h q
    · obtain ⟨r13, σ12, g, h⟩ := bd_of h
      have q : σ12 o j = σ o j := (fr_s_X12_in rfl _ _ _ _ g).trans q
      rcases ite_of h with h | h
      · exact fr_e2 h q
      · have h := (ck_of h).2
        exact fr_e2 h q
  · obtain ⟨r15, σ14, g, h⟩ := bd_of h
    have q : σ14 o j = σ o j := (fr_s_X12_sumOfOrder (fok_sub ho (by decide)) _  g).trans q
    rcases ite_of h with h | h
    · exact (fr_s_X12_order_160 ho rc133 H133 n x2 r15 (0 : Int32) σ14  h).trans q
    · rcases ite_of h with h | h
      · exact (fr_s_X12_order_189 ho rc133 H133 x2 x3 σ14  h).trans q
      · exact (fr_s_X12_order_160 ho rc133 H133 n x2 r15 (0 : Int32) σ14  h).trans q
theorem fr_s_X12_order_133 {n o j : Nat} {r : Int32} {τ : Sg} (ho : fok W_X12_order o j = true) : ∀ (k : Nat) (x2 : Int32) (x3 : Int32) (x4 : Int32) (σ : Sg), s_X12_order_133 n k x2 x3 x4 σ = some (r, τ) → τ o j = σ o j := by
  intro k
  induction k with
  | zero => intro x2 x3 x4 σ  h; cases h
  | succ k ih => intro x2 x3 x4 σ  h; exact fr_s_X12_order_133b ho  (s_X12_order_133 n  k) ih x2 x3 x4 σ  h
set_option maxRecDepth 20000 in
theorem fr_s_X12_order_95b {n o j : Nat} {r : Int32} {τ : Sg} (ho : fok W_X12_order o j = true) (rc95 : Int32 → Int32 → Sg → Option (Int32 × Sg)) (H95 : ∀ (x2 : Int32) (x3 : Int32) (σ : Sg), rc95 x2 x3 σ = some (r, τ) → τ o j = σ o j) (x2 : Int32) (x3 : Int32) (σ : Sg) (h : s_X12_order_95b n rc95 x2 x3 σ = some (r, τ)) : τ o j = σ o j := by
  unfold s_X12_order_95b at h
  have q : σ o j = σ o j := rfl
  rcases ite_of h with h | h
  · obtain ⟨r7, σ6, g, h⟩ := bd_of h
    have q : σ6 o j = σ o j := (fr_s_X12_dayNow rfl _ g).trans q
    obtain ⟨σ8, g, h⟩ := bdv_of h
    have q : σ8 o j = σ o j := (fr_s_X12_findRules (fok_sub ho (by decide)) _ _  g).trans q
    obtain ⟨σ9, g, h⟩ := bdv_of h
    have q : σ9 o j = σ o j := (fr_s_X12_keepAll (fok_sub ho (by decide)) _ _  g).trans q
    exact (fr_s_X12_order_133 ho  n x2 (-1 : Int32) (1 : Int32) σ9  h).trans q
  · have h := (ck_of h).2
    obtain ⟨σ10, e, h⟩ := lt_of h
    have q : σ10 o j = σ o j := by rw [e]; exact (up2_o (fok_a ho (by decide))).trans q
    exact (H95 x2 (x3 + (1 : Int32)) σ10  h).trans q
theorem fr_s_X12_order_95 {n o j : Nat} {r : Int32} {τ : Sg} (ho : fok W_X12_order o j = true) : ∀ (k : Nat) (x2 : Int32) (x3 : Int32) (σ : Sg), s_X12_order_95 n k x2 x3 σ = some (r, τ) → τ o j = σ o j := by
  intro k
  induction k with
  | zero => intro x2 x3 σ  h; cases h
  | succ k ih => intro x2 x3 σ  h; exact fr_s_X12_order_95b ho  (s_X12_order_95 n  k) ih x2 x3 σ  h
set_option maxRecDepth 20000 in
theorem fr_s_X12_order_37b {n o j : Nat} {r : Int32} {τ : Sg} (ho : fok W_X12_order o j = true) (rc37 : Int32 → Int32 → Int32 → Sg → Option (Int32 × Sg)) (H37 : ∀ (x1 : Int32) (x2 : Int32) (x3 : Int32) (σ : Sg), rc37 x1 x2 x3 σ = some (r, τ) → τ o j = σ o j) (x1 : Int32) (x2 : Int32) (x3 : Int32) (σ : Sg) (h : s_X12_order_37b n rc37 x1 x2 x3 σ = some (r, τ)) : τ o j = σ o j := by
  unfold s_X12_order_37b at h
  have q : σ o j = σ o j := rfl
  rcases ite_of h with h | h
  · exact (fr_s_X12_order_95 ho  n x2 (0 : Int32) σ  h).trans q
  · rcases ite_of h with h | h
    · have h := (ck_of h).2
      rcases ite_of h with h | h
      · have h := (ck_of h).2
        obtain ⟨σ4, e, h⟩ := lt_of h
        have q : σ4 o j = σ o j := by rw [e]; exact (up2_o (fok_a ho (by decide))).trans q
        obtain ⟨σ5, e, h⟩ := lt_of h
        have q : σ5 o j = σ o j := by rw [e]; exact (up2_f ho (by decide)).trans q
        exact (H37 x1 x2 (x3 + (1 : Int32)) σ5  h).trans q
      · exact fr_e2 h q
    · exact (H37 x1 x2 (x3 + (1 : Int32)) σ  h).trans q
theorem fr_s_X12_order_37 {n o j : Nat} {r : Int32} {τ : Sg} (ho : fok W_X12_order o j = true) : ∀ (k : Nat) (x1 : Int32) (x2 : Int32) (x3 : Int32) (σ : Sg), s_X12_order_37 n k x1 x2 x3 σ = some (r, τ) → τ o j = σ o j := by
  intro k
  induction k with
  | zero => intro x1 x2 x3 σ  h; cases h
  | succ k ih => intro x1 x2 x3 σ  h; exact fr_s_X12_order_37b ho  (s_X12_order_37 n  k) ih x1 x2 x3 σ  h
set_option maxRecDepth 20000 in
theorem fr_s_X12_order {n o j : Nat} {r : Int32} {τ : Sg} (ho : fok W_X12_order o j = true) (x1 : Int32) (x2 : Int32) (σ : Sg) (h : s_X12_order n x1 x2 σ = some (r, τ)) : τ o j = σ o j := by
  unfold s_X12_order at h
  have q : σ o j = σ o j := rfl
  rcases ite_of h with h | h
  · exact fr_e2 h q
  · rcases ite_of h with h | h
    · obtain ⟨r2, σ1, g, h⟩ := bd_of h
      have q : σ1 o j = σ o j := (fr_s_X12_ones rfl _ _ g).trans q
      rcases ite_of h with h | h
      · obtain ⟨σ3, e, h⟩ := lt_of h
        have q : σ3 o j = σ o j := by rw [e]; exact (up2_f ho (by decide)).trans q
        exact (fr_s_X12_order_37 ho  n x1 x2 (0 : Int32) σ3  h).trans q
      · exact fr_e2 h q
    · exact fr_e2 h q
abbrev W_X12_cutOff : List (Nat × Option Nat) := [(114, none)]
set_option maxRecDepth 20000 in
theorem fr_s_X12_cutOff_124 {n o j : Nat} {r : Int32} {τ : Sg} (ho : fok W_X12_cutOff o j = true) (rc31 : Int32 → Int32 → Int32 → Sg → Option (Int32 × Sg)) (H31 : ∀ (x1 : Int32) (x2 : Int32) (x3 : Int32) (σ : Sg), rc31 x1 x2 x3 σ = some (r, τ) → τ o j = σ o j) (rc40 : Int32 → Int32 → Int32 → Int32 → Sg → Option (Int32 × Sg)) (H40 : ∀ (x1 : Int32) (x2 : Int32) (x3 : Int32) (x4 : Int32) (σ : Sg), rc40 x1 x2 x3 x4 σ = some (r, τ) → τ o j = σ o j) (x1 : Int32) (x2 : Int32) (x3 : Int32) (x4 : Int32) (x5 : Int32) (x6 : Int32) (σ : Sg) (h : s_X12_cutOff_124 n rc31 rc40 x1 x2 x3 x4 x5 x6 σ = some (r, τ)) : τ o j = σ o j := by
  unfold s_X12_cutOff_124 at h
  have q : σ o j = σ o j := rfl
  have h := (ck_of h).2
  obtain ⟨σ11, e, h⟩ := lt_of h
  have q : σ11 o j = σ o j := by rw [e]; exact (up2_o (fok_a ho (by decide))).trans q
  have h := (ck_of h).2
  obtain ⟨σ12, e, h⟩ := lt_of h
  have q : σ12 o j = σ o j := by rw [e]; exact (up2_o (fok_a ho (by decide))).trans q
  exact (H40 x1 x2 x3 (x4 + (1 : Int32)) σ12  h).trans q
set_option maxRecDepth 20000 in
theorem fr_s_X12_cutOff_93 {n o j : Nat} {r : Int32} {τ : Sg} (ho : fok W_X12_cutOff o j = true) (rc31 : Int32 → Int32 → Int32 → Sg → Option (Int32 × Sg)) (H31 : ∀ (x1 : Int32) (x2 : Int32) (x3 : Int32) (σ : Sg), rc31 x1 x2 x3 σ = some (r, τ) → τ o j = σ o j) (rc40 : Int32 → Int32 → Int32 → Int32 → Sg → Option (Int32 × Sg)) (H40 : ∀ (x1 : Int32) (x2 : Int32) (x3 : Int32) (x4 : Int32) (σ : Sg), rc40 x1 x2 x3 x4 σ = some (r, τ) → τ o j = σ o j) (x1 : Int32) (x2 : Int32) (x3 : Int32) (x4 : Int32) (x5 : Int32) (y0 : Int32) (σ : Sg) (h : s_X12_cutOff_93 n rc31 rc40 x1 x2 x3 x4 x5 y0 σ = some (r, τ)) : τ o j = σ o j := by
  unfold s_X12_cutOff_93 at h
  have q : σ o j = σ o j := rfl
  rcases ite_of h with h | h
  · have h := (ck_of h).2
    rcases ite_of h with h | h
    · have h := (ck_of h).2
      rcases ite_of h with h | h
      · exact (H40 x1 x2 x3 (x4 + (1 : Int32)) σ  h).trans q
      · exact (fr_s_X12_cutOff_124 ho rc31 H31 rc40 H40 x1 x2 x3 x4 x5 y0 σ  h).trans q
    · exact (fr_s_X12_cutOff_124 ho rc31 H31 rc40 H40 x1 x2 x3 x4 x5 y0 σ  h).trans q
  · exact (H40 x1 x2 x3 (x4 + (1 : Int32)) σ  h).trans q
set_option maxRecDepth 20000 in
theorem fr_s_X12_cutOff_70 {n o j : Nat} {r : Int32} {τ : Sg} (ho : fok W_X12_cutOff o j = true) (rc31 : Int32 → Int32 → Int32 → Sg → Option (Int32 × Sg)) (H31 : ∀ (x1 : Int32) (x2 : Int32) (x3 : Int32) (σ : Sg), rc31 x1 x2 x3 σ = some (r, τ) → τ o j = σ o j) (rc40 : Int32 → Int32 → Int32 → Int32 → Sg → Option (Int32 × Sg)) (H40 : ∀ (x1 : Int32) (x2 : Int32) (x3 : Int32) (x4 : Int32) (σ : Sg), rc40 x1 x2 x3 x4 σ = some (r, τ) → τ o j = σ o j) (x1 : Int32) (x2 : Int32) (x3 : Int32) (x4 : Int32) (y0 : Int32) (σ : Sg) (h : s_X12_cutOff_70 n rc31 rc40 x1 x2 x3 x4 y0 σ = some (r, τ)) : τ o j = σ o j := by
  unfold s_X12_cutOff_70 at h
  have q : σ o j = σ o j := rfl
  rcases ite_of h with h | h
  · have h := (ck_of h).2
    exact (fr_s_X12_cutOff_93 ho rc31 H31 rc40 H40 x1 x2 x3 x4 y0 (σ 74 (ix x4)) σ  h).trans q
  · have h := (ck_of h).2
    exact (fr_s_X12_cutOff_93 ho rc31 H31 rc40 H40 x1 x2 x3 x4 y0 (σ 76 (ix x4)) σ  h).trans q
set_option maxRecDepth 20000 in
theorem fr_s_X12_cutOff_40b {n o j : Nat} {r : Int32} {τ : Sg} (ho : fok W_X12_cutOff o j = true) (rc31 : Int32 → Int32 → Int32 → Sg → Option (Int32 × Sg)) (H31 : ∀ (x1 : Int32) (x2 : Int32) (x3 : Int32) (σ : Sg), rc31 x1 x2 x3 σ = some (r, τ) → τ o j = σ o j) (rc40 : Int32 → Int32 → Int32 → Int32 → Sg → Option (Int32 × Sg)) (H40 : ∀ (x1 : Int32) (x2 : Int32) (x3 : Int32) (x4 : Int32) (σ : Sg), rc40 x1 x2 x3 x4 σ = some (r, τ) → τ o j = σ o j) (x1 : Int32) (x2 : Int32) (x3 : Int32) (x4 : Int32) (σ : Sg) (h : s_X12_cutOff_40b n rc31 rc40 x1 x2 x3 x4 σ = some (r, τ)) : τ o j = σ o j := by
  unfold s_X12_cutOff_40b at h
  have q : σ o j = σ o j := rfl
  rcases ite_of h with h | h
  · exact (H31 x1 x2 (x3 + (1 : Int32)) σ  h).trans q
  · rcases ite_of h with h | h
    · have h := (ck_of h).2
      exact (fr_s_X12_cutOff_70 ho rc31 H31 rc40 H40 x1 x2 x3 x4 (σ 73 (ix x4)) σ  h).trans q
    · have h := (ck_of h).2
      exact (fr_s_X12_cutOff_70 ho rc31 H31 rc40 H40 x1 x2 x3 x4 (σ 75 (ix x4)) σ  h).trans q
theorem fr_s_X12_cutOff_40 {n o j : Nat} {r : Int32} {τ : Sg} (ho : fok W_X12_cutOff o j = true) (rc31 : Int32 → Int32 → Int32 → Sg → Option (Int32 × Sg)) (H31 : ∀ (x1 : Int32) (x2 : Int32) (x3 : Int32) (σ : Sg), rc31 x1 x2 x3 σ = some (r, τ) → τ o j = σ o j) : ∀ (k : Nat) (x1 : Int32) (x2 : Int32) (x3 : Int32) (x4 : Int32) (σ : Sg), s_X12_cutOff_40 n rc31 k x1 x2 x3 x4 σ = some (r, τ) → τ o j = σ o j := by
  intro k
  induction k with
  | zero => intro x1 x2 x3 x4 σ  h; cases h
  | succ k ih => intro x1 x2 x3 x4 σ  h; exact fr_s_X12_cutOff_40b ho rc31 H31 (s_X12_cutOff_40 n rc31 k) ih x1 x2 x3 x4 σ  h
set_option maxRecDepth 20000 in
theorem fr_s_X12_cutOff_187 {n o j : Nat} {r : Int32} {τ : Sg} (ho : fok W_X12_cutOff o j = true) (rc157 : Int32 → Int32 → Sg → Option (Int32 × Sg)) (H157 : ∀ (x3 : Int32) (x4 : Int32) (σ : Sg), rc157 x3 x4 σ = some (r, τ) → τ o j = σ o j) (x4 : Int32) (y0 : Int32) (y1 : Int32) (σ : Sg) (h : s_X12_cutOff_187 n rc157 x4 y0 y1 σ = some (r, τ)) : τ o j = σ o j := by
  unfold s_X12_cutOff_187 at h
  have q : σ o j = σ o j := rfl
  obtain ⟨r9, σ8, g, h⟩ := bd_of h
  have q : σ8 o j = σ o j := (fr_s_X12_one rfl _ _ g).trans q
  obtain ⟨v10, -, h⟩ := lt_of h
  exact (H157 v10 (x4 + (1 : Int32)) σ8  h).trans q
set_option maxRecDepth 20000 in
theorem fr_s_X12_cutOff_157b {n o j : Nat} {r : Int32} {τ : Sg} (ho : fok W_X12_cutOff o j = true) (rc157 : Int32 → Int32 → Sg → Option (Int32 × Sg)) (H157 : ∀ (x3 : Int32) (x4 : Int32) (σ : Sg), rc157 x3 x4 σ = some (r, τ) → τ o j = σ o j) (x3 : Int32) (x4 : Int32) (σ : Sg) (h : s_X12_cutOff_157b n rc157 x3 x4 σ = some (r, τ)) : τ o j = σ o j := by
  unfold s_X12_cutOff_157b at h
  have q : σ o j = σ o j := rfl
  rcases ite_of h with h | h
  · exact fr_e2 h q
  · have h := (ck_of h).2
    have h := (ck_of h).2
    obtain ⟨v7, -, h⟩ := lt_of h
    exact (fr_s_X12_cutOff_187 ho rc157 H157 x4 v7 x3 σ  h).trans q
theorem fr_s_X12_cutOff_157 {n o j : Nat} {r : Int32} {τ : Sg} (ho : fok W_X12_cutOff o j = true) : ∀ (k : Nat) (x3 : Int32) (x4 : Int32) (σ : Sg), s_X12_cutOff_157 n k x3 x4 σ = some (r, τ) → τ o j = σ o j := by
  intro k
  induction k with
  | zero => intro x3 x4 σ  h; cases h
  | succ k ih => intro x3 x4 σ  h; exact fr_s_X12_cutOff_157b ho  (s_X12_cutOff_157 n  k) ih x3 x4 σ  h
set_option maxRecDepth 20000 in
theorem fr_s_X12_cutOff_31b {n o j : Nat} {r : Int32} {τ : Sg} (ho : fok W_X12_cutOff o j = true) (rc31 : Int32 → Int32 → Int32 → Sg → Option (Int32 × Sg)) (H31 : ∀ (x1 : Int32) (x2 : Int32) (x3 : Int32) (σ : Sg), rc31 x1 x2 x3 σ = some (r, τ) → τ o j = σ o j) (x1 : Int32) (x2 : Int32) (x3 : Int32) (σ : Sg) (h : s_X12_cutOff_31b n rc31 x1 x2 x3 σ = some (r, τ)) : τ o j = σ o j := by
  unfold s_X12_cutOff_31b at h
  have q : σ o j = σ o j := rfl
  rcases ite_of h with h | h
  · exact (fr_s_X12_cutOff_157 ho  n (0 : Int32) (0 : Int32) σ  h).trans q
  · exact (fr_s_X12_cutOff_40 ho rc31 H31 n x1 x2 x3 (0 : Int32) σ  h).trans q
theorem fr_s_X12_cutOff_31 {n o j : Nat} {r : Int32} {τ : Sg} (ho : fok W_X12_cutOff o j = true) : ∀ (k : Nat) (x1 : Int32) (x2 : Int32) (x3 : Int32) (σ : Sg), s_X12_cutOff_31 n k x1 x2 x3 σ = some (r, τ) → τ o j = σ o j := by
  intro k
  induction k with
  | zero => intro x1 x2 x3 σ  h; cases h
  | succ k ih => intro x1 x2 x3 σ  h; exact fr_s_X12_cutOff_31b ho  (s_X12_cutOff_31 n  k) ih x1 x2 x3 σ  h
set_option maxRecDepth 20000 in
theorem fr_s_X12_cutOff_2b {n o j : Nat} {r : Int32} {τ : Sg} (ho : fok W_X12_cutOff o j = true) (rc2 : Int32 → Int32 → Int32 → Sg → Option (Int32 × Sg)) (H2 : ∀ (x1 : Int32) (x2 : Int32) (x3 : Int32) (σ : Sg), rc2 x1 x2 x3 σ = some (r, τ) → τ o j = σ o j) (x1 : Int32) (x2 : Int32) (x3 : Int32) (σ : Sg) (h : s_X12_cutOff_2b n rc2 x1 x2 x3 σ = some (r, τ)) : τ o j = σ o j := by
  unfold s_X12_cutOff_2b at h
  have q : σ o j = σ o j := rfl
  rcases ite_of h with h | h
  · exact (fr_s_X12_cutOff_31 ho  n x1 x2 (0 : Int32) σ  h).trans q
  · obtain ⟨v3, -, h⟩ := lt_of h
    have h := (ck_of h).2
    obtain ⟨σ4, e, h⟩ := lt_of h
    have q : σ4 o j = σ o j := by rw [e]; exact (up2_o (fok_a ho (by decide))).trans q
    exact (H2 x1 x2 (x3 + (1 : Int32)) σ4  h).trans q
theorem fr_s_X12_cutOff_2 {n o j : Nat} {r : Int32} {τ : Sg} (ho : fok W_X12_cutOff o j = true) : ∀ (k : Nat) (x1 : Int32) (x2 : Int32) (x3 : Int32) (σ : Sg), s_X12_cutOff_2 n k x1 x2 x3 σ = some (r, τ) → τ o j = σ o j := by
  intro k
  induction k with
  | zero => intro x1 x2 x3 σ  h; cases h
  | succ k ih => intro x1 x2 x3 σ  h; exact fr_s_X12_cutOff_2b ho  (s_X12_cutOff_2 n  k) ih x1 x2 x3 σ  h
set_option maxRecDepth 20000 in
theorem fr_s_X12_cutOff {n o j : Nat} {r : Int32} {τ : Sg} (ho : fok W_X12_cutOff o j = true) (x1 : Int32) (x2 : Int32) (σ : Sg) (h : s_X12_cutOff n x1 x2 σ = some (r, τ)) : τ o j = σ o j := by
  unfold s_X12_cutOff at h
  have q : σ o j = σ o j := rfl
  exact (fr_s_X12_cutOff_2 ho  n x1 x2 (0 : Int32) σ  h).trans q
abbrev W_X12_cuts : List (Nat × Option Nat) := [(114, none)]
set_option maxRecDepth 20000 in
theorem fr_s_X12_cuts_79 {n o j : Nat} {r : Int32} {τ : Sg} (ho : fok W_X12_cuts o j = true) (y0 : Int32) (y1 : Int32) (σ : Sg) (h : s_X12_cuts_79 n y0 y1 σ = some (r, τ)) : τ o j = σ o j := by
  unfold s_X12_cuts_79 at h
  have q : σ o j = σ o j := rfl
  obtain ⟨r10, σ9, g, h⟩ := bd_of h
  have q : σ9 o j = σ o j := (fr_s_X12_cutOff (fok_sub ho (by decide)) _ _ _  g).trans q
  exact fr_e2 h q
set_option maxRecDepth 20000 in
theorem fr_s_X12_cuts_36b {n o j : Nat} {r : Int32} {τ : Sg} (ho : fok W_X12_cuts o j = true) (rc36 : Int32 → Int32 → Int32 → Sg → Option (Int32 × Sg)) (H36 : ∀ (x2 : Int32) (x3 : Int32) (x4 : Int32) (σ : Sg), rc36 x2 x3 x4 σ = some (r, τ) → τ o j = σ o j) (x2 : Int32) (x3 : Int32) (x4 : Int32) (σ : Sg) (h : s_X12_cuts_36b n rc36 x2 x3 x4 σ = some (r, τ)) : τ o j = σ o j := by
  unfold s_X12_cuts_36b at h
  have q : σ o j = σ o j := rfl
  rcases ite_of h with h | h
  · obtain ⟨v5, -, h⟩ := lt_of h
    exact (fr_s_X12_cuts_79 ho  v5 x3 σ  h).trans q
  · have h := (ck_of h).2
    obtain ⟨r7, σ6, g, h⟩ := bd_of h
    have q : σ6 o j = σ o j := (fr_s_X12_one rfl _ _ g).trans q
    obtain ⟨v8, -, h⟩ := lt_of h
    exact (H36 x2 v8 (x4 + (1 : Int32)) σ6  h).trans q
theorem fr_s_X12_cuts_36 {n o j : Nat} {r : Int32} {τ : Sg} (ho : fok W_X12_cuts o j = true) : ∀ (k : Nat) (x2 : Int32) (x3 : Int32) (x4 : Int32) (σ : Sg), s_X12_cuts_36 n k x2 x3 x4 σ = some (r, τ) → τ o j = σ o j := by
  intro k
  induction k with
  | zero => intro x2 x3 x4 σ  h; cases h
  | succ k ih => intro x2 x3 x4 σ  h; exact fr_s_X12_cuts_36b ho  (s_X12_cuts_36 n  k) ih x2 x3 x4 σ  h
set_option maxRecDepth 20000 in
theorem fr_s_X12_cuts {n o j : Nat} {r : Int32} {τ : Sg} (ho : fok W_X12_cuts o j = true) (x1 : Int32) (x2 : Int32) (σ : Sg) (h : s_X12_cuts n x1 x2 σ = some (r, τ)) : τ o j = σ o j := by
  unfold s_X12_cuts at h
  have q : σ o j = σ o j := rfl
  rcases ite_of h with h | h
  · exact fr_e2 h q
  · rcases ite_of h with h | h
    · obtain ⟨r2, σ1, g, h⟩ := bd_of h
      have q : σ1 o j = σ o j := (fr_s_X12_in rfl _ _ _ _ g).trans q
      rcases ite_of h with h | h
      · exact fr_e2 h q
      · exact (fr_s_X12_cuts_36 ho  n x2 x1 (0 : Int32) σ1  h).trans q
    · exact fr_e2 h q
abbrev W_X12_wrong : List (Nat × Option Nat) := [(114, none)]
set_option maxRecDepth 20000 in
theorem fr_s_X12_wrong_37 {n o j : Nat} {r : Int32} {τ : Sg} (ho : fok W_X12_wrong o j = true) (rc4 : Int32 → Int32 → Sg → Option (Int32 × Sg)) (H4 : ∀ (x1 : Int32) (x2 : Int32) (σ : Sg), rc4 x1 x2 σ = some (r, τ) → τ o j = σ o j) (x2 : Int32) (y0 : Int32) (y1 : Int32) (σ : Sg) (h : s_X12_wrong_37 n rc4 x2 y0 y1 σ = some (r, τ)) : τ o j = σ o j := by
  unfold s_X12_wrong_37 at h
  have q : σ o j = σ o j := rfl
  obtain ⟨r9, σ8, g, h⟩ := bd_of h
  have q : σ8 o j = σ o j := (fr_s_X12_one rfl _ _ g).trans q
  obtain ⟨v10, -, h⟩ := lt_of h
  exact (H4 v10 (x2 + (1 : Int32)) σ8  h).trans q
set_option maxRecDepth 20000 in
theorem fr_s_X12_wrong_4b {n o j : Nat} {r : Int32} {τ : Sg} (ho : fok W_X12_wrong o j = true) (rc4 : Int32 → Int32 → Sg → Option (Int32 × Sg)) (H4 : ∀ (x1 : Int32) (x2 : Int32) (σ : Sg), rc4 x1 x2 σ = some (r, τ) → τ o j = σ o j) (x1 : Int32) (x2 : Int32) (σ : Sg) (h : s_X12_wrong_4b n rc4 x1 x2 σ = some (r, τ)) : τ o j = σ o j := by
  unfold s_X12_wrong_4b at h
  have q : σ o j = σ o j := rfl
  rcases ite_of h with h | h
  · exact fr_e2 h q
  · obtain ⟨r2, σ1, g, h⟩ := bd_of h
    have q : σ1 o j = σ o j := (fr_s_X12_cutOff (fok_sub ho (by decide)) _ _ _  g).trans q
    obtain ⟨r4, σ3, g, h⟩ := bd_of h
    have q : σ3 o j = σ o j := (fr_s_X12_cutOff (fok_sub ho (by decide)) _ _ _  g).trans q
    obtain ⟨v7, -, h⟩ := lt_of h
    exact (fr_s_X12_wrong_37 ho rc4 H4 x2 v7 x1 σ3  h).trans q
theorem fr_s_X12_wrong_4 {n o j : Nat} {r : Int32} {τ : Sg} (ho : fok W_X12_wrong o j = true) : ∀ (k : Nat) (x1 : Int32) (x2 : Int32) (σ : Sg), s_X12_wrong_4 n k x1 x2 σ = some (r, τ) → τ o j = σ o j := by
  intro k
  induction k with
  | zero => intro x1 x2 σ  h; cases h
  | succ k ih => intro x1 x2 σ  h; exact fr_s_X12_wrong_4b ho  (s_X12_wrong_4 n  k) ih x1 x2 σ  h
set_option maxRecDepth 20000 in
theorem fr_s_X12_wrong {n o j : Nat} {r : Int32} {τ : Sg} (ho : fok W_X12_wrong o j = true) (σ : Sg) (h : s_X12_wrong n σ = some (r, τ)) : τ o j = σ o j := by
  unfold s_X12_wrong at h
  have q : σ o j = σ o j := rfl
  exact (fr_s_X12_wrong_4 ho  n (0 : Int32) (0 : Int32) σ  h).trans q
abbrev W_X12_gauge : List (Nat × Option Nat) := [(71, some 66), (115, none), (116, none)]
set_option maxRecDepth 20000 in
theorem fr_s_X12_gauge {n o j : Nat} {r : Int32} {τ : Sg} (ho : fok W_X12_gauge o j = true) (x1 : Int32) (x2 : Int32) (σ : Sg) (h : s_X12_gauge n x1 x2 σ = some (r, τ)) : τ o j = σ o j := by
  unfold s_X12_gauge at h
  have q : σ o j = σ o j := rfl
  rcases ite_of h with h | h
  · exact fr_e2 h q
  · rcases ite_of h with h | h
    · obtain ⟨r2, σ1, g, h⟩ := bd_of h
      have q : σ1 o j = σ o j := (fr_s_X12_in rfl _ _ _ _ g).trans q
      rcases ite_of h with h | h
      · exact fr_e2 h q
      · rcases ite_of h with h | h
        · exact fr_e2 h q
        · have h := (ck_of h).2
          obtain ⟨σ3, e, h⟩ := lt_of h
          have q : σ3 o j = σ o j := by rw [e]; exact (up2_o (fok_a ho (by decide))).trans q
          have h := (ck_of h).2
          obtain ⟨σ4, e, h⟩ := lt_of h
          have q : σ4 o j = σ o j := by rw [e]; exact (up2_o (fok_a ho (by decide))).trans q
          obtain ⟨σ5, e, h⟩ := lt_of h
          have q : σ5 o j = σ o j := by rw [e]; exact (up2_f ho (by decide)).trans q
          exact fr_e2 h q
    · exact fr_e2 h q
abbrev W_X12_guess : List (Nat × Option Nat) := [(80, none)]
set_option maxRecDepth 20000 in
theorem fr_s_X12_guess_33 {n o j : Nat} {r : Int32} {τ : Sg} (ho : fok W_X12_guess o j = true) (x1 : Int32) (x2 : Int32) (σ : Sg) (h : s_X12_guess_33 n x1 x2 σ = some (r, τ)) : τ o j = σ o j := by
  unfold s_X12_guess_33 at h
  have q : σ o j = σ o j := rfl
  rcases ite_of h with h | h
  · have h := (ck_of h).2
    obtain ⟨σ5, e, h⟩ := lt_of h
    have q : σ5 o j = σ o j := by rw [e]; exact (up2_o (fok_a ho (by decide))).trans q
    exact fr_e2 h q
  · obtain ⟨r7, σ6, g, h⟩ := bd_of h
    have q : σ6 o j = σ o j := (fr_s_X12_guessMany rfl _ _ g).trans q
    rcases ite_of h with h | h
    · exact fr_e2 h q
    · have h := (ck_of h).2
      obtain ⟨σ8, e, h⟩ := lt_of h
      have q : σ8 o j = σ o j := by rw [e]; exact (up2_o (fok_a ho (by decide))).trans q
      exact fr_e2 h q
set_option maxRecDepth 20000 in
theorem fr_s_X12_guess {n o j : Nat} {r : Int32} {τ : Sg} (ho : fok W_X12_guess o j = true) (x1 : Int32) (x2 : Int32) (σ : Sg) (h : s_X12_guess n x1 x2 σ = some (r, τ)) : τ o j = σ o j := by
  unfold s_X12_guess at h
  have q : σ o j = σ o j := rfl
  obtain ⟨r2, σ1, g, h⟩ := bd_of h
  have q : σ1 o j = σ o j := (fr_s_X12_noPipe rfl _ _ g).trans q
  rcases ite_of h with h | h
  · rcases ite_of h with h | h
    · exact (fr_s_X12_guess_33 ho  x1 x2 σ1  h).trans q
    · obtain ⟨r4, σ3, g, h⟩ := bd_of h
      have q : σ3 o j = σ o j := (fr_s_X12_in rfl _ _ _ _ g).trans q
      rcases ite_of h with h | h
      · exact fr_e2 h q
      · exact (fr_s_X12_guess_33 ho  x1 x2 σ3  h).trans q
  · exact fr_e2 h q
abbrev W_X12_explains : List (Nat × Option Nat) := []
set_option maxRecDepth 20000 in
theorem fr_s_X12_explains_68 {n o j : Nat} {r : Int32} {τ : Sg} (ho : fok W_X12_explains o j = true) (rc4 : Int32 → Int32 → Int32 → Sg → Option (Int32 × Sg)) (H4 : ∀ (x1 : Int32) (x2 : Int32) (x3 : Int32) (σ : Sg), rc4 x1 x2 x3 σ = some (r, τ) → τ o j = σ o j) (rc22 : Int32 → Int32 → Int32 → Int32 → Sg → Option (Int32 × Sg)) (H22 : ∀ (x1 : Int32) (x3 : Int32) (x4 : Int32) (x5 : Int32) (σ : Sg), rc22 x1 x3 x4 x5 σ = some (r, τ) → τ o j = σ o j) (x1 : Int32) (x3 : Int32) (x5 : Int32) (y0 : Int32) (σ : Sg) (h : s_X12_explains_68 n rc4 rc22 x1 x3 x5 y0 σ = some (r, τ)) : τ o j = σ o j := by
  unfold s_X12_explains_68 at h
  have q : σ o j = σ o j := rfl
  obtain ⟨v5, -, h⟩ := lt_of h
  exact (H22 x1 x3 v5 (x5 + (1 : Int32)) σ  h).trans q
set_option maxRecDepth 20000 in
theorem fr_s_X12_explains_22b {n o j : Nat} {r : Int32} {τ : Sg} (ho : fok W_X12_explains o j = true) (rc4 : Int32 → Int32 → Int32 → Sg → Option (Int32 × Sg)) (H4 : ∀ (x1 : Int32) (x2 : Int32) (x3 : Int32) (σ : Sg), rc4 x1 x2 x3 σ = some (r, τ) → τ o j = σ o j) (rc22 : Int32 → Int32 → Int32 → Int32 → Sg → Option (Int32 × Sg)) (H22 : ∀ (x1 : Int32) (x3 : Int32) (x4 : Int32) (x5 : Int32) (σ : Sg), rc22 x1 x3 x4 x5 σ = some (r, τ) → τ o j = σ o j) (x1 : Int32) (x3 : Int32) (x4 : Int32) (x5 : Int32) (σ : Sg) (h : s_X12_explains_22b n rc4 rc22 x1 x3 x4 x5 σ = some (r, τ)) : τ o j = σ o j := by
  unfold s_X12_explains_22b at h
  have q : σ o j = σ o j := rfl
  rcases ite_of h with h | h
  · have h := (ck_of h).2
    obtain ⟨v3, -, h⟩ := lt_of h
    exact (H4 x1 v3 (x3 + (1 : Int32)) σ  h).trans q
  · rcases ite_of h with h | h
    · have h := (ck_of h).2
      rcases ite_of h with h | h
      · have h := (ck_of h).2
        obtain ⟨v4, -, h⟩ := lt_of h
        exact (H22 x1 x3 v4 (x5 + (1 : Int32)) σ  h).trans q
      · exact (fr_s_X12_explains_68 ho rc4 H4 rc22 H22 x1 x3 x5 x4 σ  h).trans q
    · exact (fr_s_X12_explains_68 ho rc4 H4 rc22 H22 x1 x3 x5 x4 σ  h).trans q
theorem fr_s_X12_explains_22 {n o j : Nat} {r : Int32} {τ : Sg} (ho : fok W_X12_explains o j = true) (rc4 : Int32 → Int32 → Int32 → Sg → Option (Int32 × Sg)) (H4 : ∀ (x1 : Int32) (x2 : Int32) (x3 : Int32) (σ : Sg), rc4 x1 x2 x3 σ = some (r, τ) → τ o j = σ o j) : ∀ (k : Nat) (x1 : Int32) (x3 : Int32) (x4 : Int32) (x5 : Int32) (σ : Sg), s_X12_explains_22 n rc4 k x1 x3 x4 x5 σ = some (r, τ) → τ o j = σ o j := by
  intro k
  induction k with
  | zero => intro x1 x3 x4 x5 σ  h; cases h
  | succ k ih => intro x1 x3 x4 x5 σ  h; exact fr_s_X12_explains_22b ho rc4 H4 (s_X12_explains_22 n rc4 k) ih x1 x3 x4 x5 σ  h
