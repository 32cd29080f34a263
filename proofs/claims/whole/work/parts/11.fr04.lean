set_option maxRecDepth 20000 in
theorem fr_s_X12_explains_4b {n o j : Nat} {r : Int32} {τ : Sg} (ho : fok W_X12_explains o j = true) (rc4 : Int32 → Int32 → Int32 → Sg → Option (Int32 × Sg)) (H4 : ∀ (x1 : Int32) (x2 : Int32) (x3 : Int32) (σ : Sg), rc4 x1 x2 x3 σ = some (r, τ) → τ o j = σ o j) (x1 : Int32) (x2 : Int32) (x3 : Int32) (σ : Sg) (h : s_X12_explains_4b n rc4 x1 x2 x3 σ = some (r, τ)) : τ o j = σ o j := by
  unfold s_X12_explains_4b at h
  have q : σ o j = σ o j := rfl
  rcases ite_of h with h | h
  · have h := (bck_of h).2
    exact fr_e2 h q
  · rcases ite_of h with h | h
    · have h := (bck_of h).2
      exact fr_e2 h q
    · exact (fr_s_X12_explains_22 ho rc4 H4 n x1 x3 (0 : Int32) (0 : Int32) σ  h).trans q
theorem fr_s_X12_explains_4 {n o j : Nat} {r : Int32} {τ : Sg} (ho : fok W_X12_explains o j = true) : ∀ (k : Nat) (x1 : Int32) (x2 : Int32) (x3 : Int32) (σ : Sg), s_X12_explains_4 n k x1 x2 x3 σ = some (r, τ) → τ o j = σ o j := by
  intro k
  induction k with
  | zero => intro x1 x2 x3 σ  h; cases h
  | succ k ih => intro x1 x2 x3 σ  h; exact fr_s_X12_explains_4b ho  (s_X12_explains_4 n  k) ih x1 x2 x3 σ  h
set_option maxRecDepth 20000 in
theorem fr_s_X12_explains {n o j : Nat} {r : Int32} {τ : Sg} (ho : fok W_X12_explains o j = true) (x1 : Int32) (σ : Sg) (h : s_X12_explains n x1 σ = some (r, τ)) : τ o j = σ o j := by
  unfold s_X12_explains at h
  have q : σ o j = σ o j := rfl
  exact (fr_s_X12_explains_4 ho  n x1 (1 : Int32) (0 : Int32) σ  h).trans q
abbrev W_X12_explain : List (Nat × Option Nat) := []
set_option maxRecDepth 20000 in
theorem fr_s_X12_explain_52 {n o j : Nat} {r : Int32} {τ : Sg} (ho : fok W_X12_explain o j = true) (rc29 : Int32 → Int32 → Int32 → Sg → Option (Int32 × Sg)) (H29 : ∀ (x1 : Int32) (x2 : Int32) (x3 : Int32) (σ : Sg), rc29 x1 x2 x3 σ = some (r, τ) → τ o j = σ o j) (x1 : Int32) (x3 : Int32) (y0 : Int32) (y1 : Int32) (σ : Sg) (h : s_X12_explain_52 n rc29 x1 x3 y0 y1 σ = some (r, τ)) : τ o j = σ o j := by
  unfold s_X12_explain_52 at h
  have q : σ o j = σ o j := rfl
  obtain ⟨r16, σ15, g, h⟩ := bd_of h
  have q : σ15 o j = σ o j := (fr_s_X12_one rfl _ _ g).trans q
  obtain ⟨v17, -, h⟩ := lt_of h
  exact (H29 x1 v17 (x3 + (1 : Int32)) σ15  h).trans q
set_option maxRecDepth 20000 in
theorem fr_s_X12_explain_116 {n o j : Nat} {r : Int32} {τ : Sg} (ho : fok W_X12_explain o j = true) (rc76 : Int32 → Int32 → Int32 → Int32 → Int32 → Int32 → Sg → Option (Int32 × Sg)) (H76 : ∀ (x1 : Int32) (x2 : Int32) (x3 : Int32) (x4 : Int32) (x5 : Int32) (x6 : Int32) (σ : Sg), rc76 x1 x2 x3 x4 x5 x6 σ = some (r, τ) → τ o j = σ o j) (x1 : Int32) (x2 : Int32) (x3 : Int32) (x4 : Int32) (x5 : Int32) (σ : Sg) (h : s_X12_explain_116 n rc76 x1 x2 x3 x4 x5 σ = some (r, τ)) : τ o j = σ o j := by
  unfold s_X12_explain_116 at h
  have q : σ o j = σ o j := rfl
  obtain ⟨v18, -, h⟩ := lt_of h
  obtain ⟨v21, -, h⟩ := lt_of h
  exact (H76 x1 x2 x3 x4 v18 v21 σ  h).trans q
set_option maxRecDepth 20000 in
theorem fr_s_X12_explain_112 {n o j : Nat} {r : Int32} {τ : Sg} (ho : fok W_X12_explain o j = true) (rc76 : Int32 → Int32 → Int32 → Int32 → Int32 → Int32 → Sg → Option (Int32 × Sg)) (H76 : ∀ (x1 : Int32) (x2 : Int32) (x3 : Int32) (x4 : Int32) (x5 : Int32) (x6 : Int32) (σ : Sg), rc76 x1 x2 x3 x4 x5 x6 σ = some (r, τ) → τ o j = σ o j) (x1 : Int32) (x2 : Int32) (x4 : Int32) (x5 : Int32) (y0 : Int32) (σ : Sg) (h : s_X12_explain_112 n rc76 x1 x2 x4 x5 y0 σ = some (r, τ)) : τ o j = σ o j := by
  unfold s_X12_explain_112 at h
  have q : σ o j = σ o j := rfl
  exact (fr_s_X12_explain_116 ho rc76 H76 x1 x2 y0 (x4 + (1 : Int32)) x5 σ  h).trans q
set_option maxRecDepth 20000 in
theorem fr_s_X12_explain_106 {n o j : Nat} {r : Int32} {τ : Sg} (ho : fok W_X12_explain o j = true) (rc76 : Int32 → Int32 → Int32 → Int32 → Int32 → Int32 → Sg → Option (Int32 × Sg)) (H76 : ∀ (x1 : Int32) (x2 : Int32) (x3 : Int32) (x4 : Int32) (x5 : Int32) (x6 : Int32) (σ : Sg), rc76 x1 x2 x3 x4 x5 x6 σ = some (r, τ) → τ o j = σ o j) (x1 : Int32) (x2 : Int32) (x4 : Int32) (x5 : Int32) (σ : Sg) (h : s_X12_explain_106 n rc76 x1 x2 x4 x5 σ = some (r, τ)) : τ o j = σ o j := by
  unfold s_X12_explain_106 at h
  have q : σ o j = σ o j := rfl
  exact (fr_s_X12_explain_112 ho rc76 H76 x1 x2 x4 x5 x5 σ  h).trans q
set_option maxRecDepth 20000 in
theorem fr_s_X12_explain_76b {n o j : Nat} {r : Int32} {τ : Sg} (ho : fok W_X12_explain o j = true) (rc76 : Int32 → Int32 → Int32 → Int32 → Int32 → Int32 → Sg → Option (Int32 × Sg)) (H76 : ∀ (x1 : Int32) (x2 : Int32) (x3 : Int32) (x4 : Int32) (x5 : Int32) (x6 : Int32) (σ : Sg), rc76 x1 x2 x3 x4 x5 x6 σ = some (r, τ) → τ o j = σ o j) (x1 : Int32) (x2 : Int32) (x3 : Int32) (x4 : Int32) (x5 : Int32) (x6 : Int32) (σ : Sg) (h : s_X12_explain_76b n rc76 x1 x2 x3 x4 x5 x6 σ = some (r, τ)) : τ o j = σ o j := by
  unfold s_X12_explain_76b at h
  have q : σ o j = σ o j := rfl
  rcases ite_of h with h | h
  · rcases ite_of h with h | h
    · exact fr_e2 h q
    · exact fr_e2 h q
  · obtain ⟨r7, σ6, g, h⟩ := bd_of h
    have q : σ6 o j = σ o j := (fr_s_X12_explains rfl _ _ g).trans q
    rcases ite_of h with h | h
    · exact (fr_s_X12_explain_116 ho rc76 H76 x1 x2 x3 x4 x5 σ6  h).trans q
    · rcases ite_of h with h | h
      · exact (fr_s_X12_explain_106 ho rc76 H76 x1 x2 x4 x5 σ6  h).trans q
      · obtain ⟨r9, σ8, g, h⟩ := bd_of h
        have q : σ8 o j = σ o j := (fr_s_X12_ones rfl _ _ g).trans q
        obtain ⟨r11, σ10, g, h⟩ := bd_of h
        have q : σ10 o j = σ o j := (fr_s_X12_ones rfl _ _ g).trans q
        obtain ⟨v14, -, h⟩ := lt_of h
        exact (fr_s_X12_explain_112 ho rc76 H76 x1 x2 x4 x5 v14 σ10  h).trans q
theorem fr_s_X12_explain_76 {n o j : Nat} {r : Int32} {τ : Sg} (ho : fok W_X12_explain o j = true) : ∀ (k : Nat) (x1 : Int32) (x2 : Int32) (x3 : Int32) (x4 : Int32) (x5 : Int32) (x6 : Int32) (σ : Sg), s_X12_explain_76 n k x1 x2 x3 x4 x5 x6 σ = some (r, τ) → τ o j = σ o j := by
  intro k
  induction k with
  | zero => intro x1 x2 x3 x4 x5 x6 σ  h; cases h
  | succ k ih => intro x1 x2 x3 x4 x5 x6 σ  h; exact fr_s_X12_explain_76b ho  (s_X12_explain_76 n  k) ih x1 x2 x3 x4 x5 x6 σ  h
set_option maxRecDepth 20000 in
theorem fr_s_X12_explain_29b {n o j : Nat} {r : Int32} {τ : Sg} (ho : fok W_X12_explain o j = true) (rc29 : Int32 → Int32 → Int32 → Sg → Option (Int32 × Sg)) (H29 : ∀ (x1 : Int32) (x2 : Int32) (x3 : Int32) (σ : Sg), rc29 x1 x2 x3 σ = some (r, τ) → τ o j = σ o j) (x1 : Int32) (x2 : Int32) (x3 : Int32) (σ : Sg) (h : s_X12_explain_29b n rc29 x1 x2 x3 σ = some (r, τ)) : τ o j = σ o j := by
  unfold s_X12_explain_29b at h
  have q : σ o j = σ o j := rfl
  rcases ite_of h with h | h
  · exact (fr_s_X12_explain_76 ho  n x1 x2 (-1 : Int32) (0 : Int32) (0 : Int32) (1 : Int32) σ  h).trans q
  · have h := (ck_of h).2
    obtain ⟨v5, -, h⟩ := lt_of h
    exact (fr_s_X12_explain_52 ho rc29 H29 x1 x3 v5 x2 σ  h).trans q
theorem fr_s_X12_explain_29 {n o j : Nat} {r : Int32} {τ : Sg} (ho : fok W_X12_explain o j = true) : ∀ (k : Nat) (x1 : Int32) (x2 : Int32) (x3 : Int32) (σ : Sg), s_X12_explain_29 n k x1 x2 x3 σ = some (r, τ) → τ o j = σ o j := by
  intro k
  induction k with
  | zero => intro x1 x2 x3 σ  h; cases h
  | succ k ih => intro x1 x2 x3 σ  h; exact fr_s_X12_explain_29b ho  (s_X12_explain_29 n  k) ih x1 x2 x3 σ  h
set_option maxRecDepth 20000 in
theorem fr_s_X12_explain {n o j : Nat} {r : Int32} {τ : Sg} (ho : fok W_X12_explain o j = true) (x1 : Int32) (σ : Sg) (h : s_X12_explain n x1 σ = some (r, τ)) : τ o j = σ o j := by
  unfold s_X12_explain at h
  have q : σ o j = σ o j := rfl
  obtain ⟨r2, σ1, g, h⟩ := bd_of h
  have q : σ1 o j = σ o j := (fr_s_X12_in rfl _ _ _ _ g).trans q
  rcases ite_of h with h | h
  · exact fr_e2 h q
  · rcases ite_of h with h | h
    · exact fr_e2 h q
    · exact (fr_s_X12_explain_29 ho  n x1 (0 : Int32) (0 : Int32) σ1  h).trans q
abbrev W_X12_ageOf : List (Nat × Option Nat) := []
set_option maxRecDepth 20000 in
theorem fr_s_X12_ageOf {n o j : Nat} {r : Int32} {τ : Sg} (ho : fok W_X12_ageOf o j = true) (x0 : Int32) (x1 : Int32) (σ : Sg) (h : s_X12_ageOf n x0 x1 σ = some (r, τ)) : τ o j = σ o j := by
  unfold s_X12_ageOf at h
  have q : σ o j = σ o j := rfl
  rcases ite_of h with h | h
  · exact fr_e2 h q
  · rcases ite_of h with h | h
    · exact fr_e2 h q
    · exact fr_e2 h q
abbrev W_X12_givenBy : List (Nat × Option Nat) := []
set_option maxRecDepth 20000 in
theorem fr_s_X12_givenBy_5b {n o j : Nat} {r : Int32} {τ : Sg} (ho : fok W_X12_givenBy o j = true) (rc5 : Int32 → Int32 → Int32 → Int32 → Sg → Option (Int32 × Sg)) (H5 : ∀ (x1 : Int32) (x2 : Int32) (x3 : Int32) (x4 : Int32) (σ : Sg), rc5 x1 x2 x3 x4 σ = some (r, τ) → τ o j = σ o j) (x1 : Int32) (x2 : Int32) (x3 : Int32) (x4 : Int32) (σ : Sg) (h : s_X12_givenBy_5b n rc5 x1 x2 x3 x4 σ = some (r, τ)) : τ o j = σ o j := by
  unfold s_X12_givenBy_5b at h
  have q : σ o j = σ o j := rfl
  rcases ite_of h with h | h
  · exact fr_e2 h q
  · obtain ⟨r2, σ1, g, h⟩ := bd_of h
    have q : σ1 o j = σ o j := (fr_s_X12_ageOf rfl _ _ _ g).trans q
    obtain ⟨v3, -, h⟩ := lt_of h
    obtain ⟨v7, -, h⟩ := lt_of h
    obtain ⟨v8, -, h⟩ := lt_of h
    exact (H5 x1 x2 v8 (x4 + (1 : Int32)) σ1  h).trans q
theorem fr_s_X12_givenBy_5 {n o j : Nat} {r : Int32} {τ : Sg} (ho : fok W_X12_givenBy o j = true) : ∀ (k : Nat) (x1 : Int32) (x2 : Int32) (x3 : Int32) (x4 : Int32) (σ : Sg), s_X12_givenBy_5 n k x1 x2 x3 x4 σ = some (r, τ) → τ o j = σ o j := by
  intro k
  induction k with
  | zero => intro x1 x2 x3 x4 σ  h; cases h
  | succ k ih => intro x1 x2 x3 x4 σ  h; exact fr_s_X12_givenBy_5b ho  (s_X12_givenBy_5 n  k) ih x1 x2 x3 x4 σ  h
set_option maxRecDepth 20000 in
theorem fr_s_X12_givenBy {n o j : Nat} {r : Int32} {τ : Sg} (ho : fok W_X12_givenBy o j = true) (x1 : Int32) (x2 : Int32) (σ : Sg) (h : s_X12_givenBy n x1 x2 σ = some (r, τ)) : τ o j = σ o j := by
  unfold s_X12_givenBy at h
  have q : σ o j = σ o j := rfl
  exact (fr_s_X12_givenBy_5 ho  n x1 x2 (0 : Int32) (0 : Int32) σ  h).trans q
abbrev W_X12_nextAges : List (Nat × Option Nat) := []
set_option maxRecDepth 20000 in
theorem fr_s_X12_nextAges_10b {n o j : Nat} {r : Int32} {τ : Sg} (ho : fok W_X12_nextAges o j = true) (rc10 : Int32 → Int32 → Int32 → Int32 → Sg → Option (Int32 × Sg)) (H10 : ∀ (x1 : Int32) (x2 : Int32) (x3 : Int32) (x4 : Int32) (σ : Sg), rc10 x1 x2 x3 x4 σ = some (r, τ) → τ o j = σ o j) (x1 : Int32) (x2 : Int32) (x3 : Int32) (x4 : Int32) (σ : Sg) (h : s_X12_nextAges_10b n rc10 x1 x2 x3 x4 σ = some (r, τ)) : τ o j = σ o j := by
  unfold s_X12_nextAges_10b at h
  have q : σ o j = σ o j := rfl
  rcases ite_of h with h | h
  · exact fr_e2 h q
  · rcases ite_of h with h | h
    · obtain ⟨v5, -, h⟩ := lt_of h
      exact (H10 x1 x2 v5 (x4 + (-1 : Int32)) σ  h).trans q
    · obtain ⟨r3, σ2, g, h⟩ := bd_of h
      have q : σ2 o j = σ o j := (fr_s_X12_ageOf rfl _ _ _ g).trans q
      obtain ⟨v4, -, h⟩ := lt_of h
      exact (H10 x1 x2 v4 (x4 + (-1 : Int32)) σ2  h).trans q
theorem fr_s_X12_nextAges_10 {n o j : Nat} {r : Int32} {τ : Sg} (ho : fok W_X12_nextAges o j = true) : ∀ (k : Nat) (x1 : Int32) (x2 : Int32) (x3 : Int32) (x4 : Int32) (σ : Sg), s_X12_nextAges_10 n k x1 x2 x3 x4 σ = some (r, τ) → τ o j = σ o j := by
  intro k
  induction k with
  | zero => intro x1 x2 x3 x4 σ  h; cases h
  | succ k ih => intro x1 x2 x3 x4 σ  h; exact fr_s_X12_nextAges_10b ho  (s_X12_nextAges_10 n  k) ih x1 x2 x3 x4 σ  h
set_option maxRecDepth 20000 in
theorem fr_s_X12_nextAges {n o j : Nat} {r : Int32} {τ : Sg} (ho : fok W_X12_nextAges o j = true) (x1 : Int32) (x2 : Int32) (σ : Sg) (h : s_X12_nextAges n x1 x2 σ = some (r, τ)) : τ o j = σ o j := by
  unfold s_X12_nextAges at h
  have q : σ o j = σ o j := rfl
  obtain ⟨v1, -, h⟩ := lt_of h
  exact (fr_s_X12_nextAges_10 ho  n x1 x2 (0 : Int32) v1 σ  h).trans q
abbrev W_X12_bedCell : List (Nat × Option Nat) := []
set_option maxRecDepth 20000 in
theorem fr_s_X12_bedCell {n o j : Nat} {r : Int32} {τ : Sg} (ho : fok W_X12_bedCell o j = true) (x0 : Int32) (x1 : Int32) (σ : Sg) (h : s_X12_bedCell n x0 x1 σ = some (r, τ)) : τ o j = σ o j := by
  unfold s_X12_bedCell at h
  have q : σ o j = σ o j := rfl
  exact fr_e2 h q
abbrev W_X12_bestFrom : List (Nat × Option Nat) := []
set_option maxRecDepth 20000 in
theorem fr_s_X12_bestFrom_76 {n o j : Nat} {r : Int32} {τ : Sg} (ho : fok W_X12_bestFrom o j = true) (rc7 : Int32 → Int32 → Int32 → Int32 → Sg → Option (Int32 × Sg)) (H7 : ∀ (x1 : Int32) (x2 : Int32) (x3 : Int32) (x4 : Int32) (σ : Sg), rc7 x1 x2 x3 x4 σ = some (r, τ) → τ o j = σ o j) (x1 : Int32) (x2 : Int32) (x4 : Int32) (y0 : Int32) (σ : Sg) (h : s_X12_bestFrom_76 n rc7 x1 x2 x4 y0 σ = some (r, τ)) : τ o j = σ o j := by
  unfold s_X12_bestFrom_76 at h
  have q : σ o j = σ o j := rfl
  exact (H7 x1 x2 y0 (x4 + (1 : Int32)) σ  h).trans q
set_option maxRecDepth 20000 in
theorem fr_s_X12_bestFrom_40 {n o j : Nat} {r : Int32} {τ : Sg} (ho : fok W_X12_bestFrom o j = true) (rc7 : Int32 → Int32 → Int32 → Int32 → Sg → Option (Int32 × Sg)) (H7 : ∀ (x1 : Int32) (x2 : Int32) (x3 : Int32) (x4 : Int32) (σ : Sg), rc7 x1 x2 x3 x4 σ = some (r, τ) → τ o j = σ o j) (x1 : Int32) (x2 : Int32) (x3 : Int32) (x4 : Int32) (y0 : Int32) (σ : Sg) (h : s_X12_bestFrom_40 n rc7 x1 x2 x3 x4 y0 σ = some (r, τ)) : τ o j = σ o j := by
  unfold s_X12_bestFrom_40 at h
  have q : σ o j = σ o j := rfl
  obtain ⟨r7, σ6, g, h⟩ := bd_of h
  have q : σ6 o j = σ o j := (fr_s_X12_one rfl _ _ g).trans q
  obtain ⟨r9, σ8, g, h⟩ := bd_of h
  have q : σ8 o j = σ o j := (fr_s_X12_nextAges rfl _ _ _ g).trans q
  obtain ⟨r11, σ10, g, h⟩ := bd_of h
  have q : σ10 o j = σ o j := (fr_s_X12_bedCell rfl _ _ _ g).trans q
  have h := (ck_of h).2
  obtain ⟨v12, -, h⟩ := lt_of h
  obtain ⟨v15, -, h⟩ := lt_of h
  exact (fr_s_X12_bestFrom_76 ho rc7 H7 x1 x2 x4 v15 σ10  h).trans q
set_option maxRecDepth 20000 in
theorem fr_s_X12_bestFrom_7b {n o j : Nat} {r : Int32} {τ : Sg} (ho : fok W_X12_bestFrom o j = true) (rc7 : Int32 → Int32 → Int32 → Int32 → Sg → Option (Int32 × Sg)) (H7 : ∀ (x1 : Int32) (x2 : Int32) (x3 : Int32) (x4 : Int32) (σ : Sg), rc7 x1 x2 x3 x4 σ = some (r, τ) → τ o j = σ o j) (x1 : Int32) (x2 : Int32) (x3 : Int32) (x4 : Int32) (σ : Sg) (h : s_X12_bestFrom_7b n rc7 x1 x2 x3 x4 σ = some (r, τ)) : τ o j = σ o j := by
  unfold s_X12_bestFrom_7b at h
  have q : σ o j = σ o j := rfl
  rcases ite_of h with h | h
  · exact fr_e2 h q
  · obtain ⟨r2, σ1, g, h⟩ := bd_of h
    have q : σ1 o j = σ o j := (fr_s_X12_givenBy rfl _ _ _ g).trans q
    rcases ite_of h with h | h
    · exact (H7 x1 x2 x3 (x4 + (1 : Int32)) σ1  h).trans q
    · obtain ⟨v5, -, h⟩ := lt_of h
      exact (fr_s_X12_bestFrom_40 ho rc7 H7 x1 x2 x3 x4 v5 σ1  h).trans q
theorem fr_s_X12_bestFrom_7 {n o j : Nat} {r : Int32} {τ : Sg} (ho : fok W_X12_bestFrom o j = true) : ∀ (k : Nat) (x1 : Int32) (x2 : Int32) (x3 : Int32) (x4 : Int32) (σ : Sg), s_X12_bestFrom_7 n k x1 x2 x3 x4 σ = some (r, τ) → τ o j = σ o j := by
  intro k
  induction k with
  | zero => intro x1 x2 x3 x4 σ  h; cases h
  | succ k ih => intro x1 x2 x3 x4 σ  h; exact fr_s_X12_bestFrom_7b ho  (s_X12_bestFrom_7 n  k) ih x1 x2 x3 x4 σ  h
set_option maxRecDepth 20000 in
theorem fr_s_X12_bestFrom {n o j : Nat} {r : Int32} {τ : Sg} (ho : fok W_X12_bestFrom o j = true) (x1 : Int32) (x2 : Int32) (σ : Sg) (h : s_X12_bestFrom n x1 x2 σ = some (r, τ)) : τ o j = σ o j := by
  unfold s_X12_bestFrom at h
  have q : σ o j = σ o j := rfl
  exact (fr_s_X12_bestFrom_7 ho  n x1 x2 (1000000 : Int32) (-1 : Int32) σ  h).trans q
abbrev W_X12_findBeds : List (Nat × Option Nat) := [(117, none)]
set_option maxRecDepth 20000 in
theorem fr_s_X12_findBeds_75 {n o j : Nat} {τ : Sg} (ho : fok W_X12_findBeds o j = true) (rc30 : Int32 → Sg → Option Sg) (H30 : ∀ (x2 : Int32) (σ : Sg), rc30 x2 σ = some τ → τ o j = σ o j) (rc36 : Int32 → Int32 → Sg → Option Sg) (H36 : ∀ (x2 : Int32) (x3 : Int32) (σ : Sg), rc36 x2 x3 σ = some τ → τ o j = σ o j) (x2 : Int32) (x3 : Int32) (y0 : Int32) (σ : Sg) (h : s_X12_findBeds_75 n rc30 rc36 x2 x3 y0 σ = some τ) : τ o j = σ o j := by
  unfold s_X12_findBeds_75 at h
  have q : σ o j = σ o j := rfl
  obtain ⟨r14, σ13, g, h⟩ := bd_of h
  have q : σ13 o j = σ o j := (fr_s_X12_bedCell rfl _ _ _ g).trans q
  rcases ite_of h with h | h
  · have h := (ck_of h).2
    obtain ⟨σ15, e, h⟩ := lt_of h
    have q : σ15 o j = σ o j := by rw [e]; exact (up2_o (fok_a ho (by decide))).trans q
    exact (H36 x2 (x3 + (1 : Int32)) σ15  h).trans q
  · obtain ⟨r17, σ16, g, h⟩ := bd_of h
    have q : σ16 o j = σ o j := (fr_s_X12_bestFrom rfl _ _ _ g).trans q
    have h := (ck_of h).2
    obtain ⟨σ18, e, h⟩ := lt_of h
    have q : σ18 o j = σ o j := by rw [e]; exact (up2_o (fok_a ho (by decide))).trans q
    exact (H36 x2 (x3 + (1 : Int32)) σ18  h).trans q
set_option maxRecDepth 20000 in
theorem fr_s_X12_findBeds_74 {n o j : Nat} {τ : Sg} (ho : fok W_X12_findBeds o j = true) (rc30 : Int32 → Sg → Option Sg) (H30 : ∀ (x2 : Int32) (σ : Sg), rc30 x2 σ = some τ → τ o j = σ o j) (rc36 : Int32 → Int32 → Sg → Option Sg) (H36 : ∀ (x2 : Int32) (x3 : Int32) (σ : Sg), rc36 x2 x3 σ = some τ → τ o j = σ o j) (x2 : Int32) (x3 : Int32) (σ : Sg) (h : s_X12_findBeds_74 n rc30 rc36 x2 x3 σ = some τ) : τ o j = σ o j := by
  unfold s_X12_findBeds_74 at h
  have q : σ o j = σ o j := rfl
  exact (fr_s_X12_findBeds_75 ho rc30 H30 rc36 H36 x2 x3 (0 : Int32) σ  h).trans q
set_option maxRecDepth 20000 in
theorem fr_s_X12_findBeds_36b {n o j : Nat} {τ : Sg} (ho : fok W_X12_findBeds o j = true) (rc30 : Int32 → Sg → Option Sg) (H30 : ∀ (x2 : Int32) (σ : Sg), rc30 x2 σ = some τ → τ o j = σ o j) (rc36 : Int32 → Int32 → Sg → Option Sg) (H36 : ∀ (x2 : Int32) (x3 : Int32) (σ : Sg), rc36 x2 x3 σ = some τ → τ o j = σ o j) (x2 : Int32) (x3 : Int32) (σ : Sg) (h : s_X12_findBeds_36b n rc30 rc36 x2 x3 σ = some τ) : τ o j = σ o j := by
  unfold s_X12_findBeds_36b at h
  have q : σ o j = σ o j := rfl
  rcases ite_of h with h | h
  · exact (H30 (x2 + (-1 : Int32)) σ  h).trans q
  · obtain ⟨r5, σ4, g, h⟩ := bd_of h
    have q : σ4 o j = σ o j := (fr_s_X12_ageOf rfl _ _ _ g).trans q
    rcases ite_of h with h | h
    · exact (fr_s_X12_findBeds_74 ho rc30 H30 rc36 H36 x2 x3 σ4  h).trans q
    · obtain ⟨r7, σ6, g, h⟩ := bd_of h
      have q : σ6 o j = σ o j := (fr_s_X12_ageOf rfl _ _ _ g).trans q
      rcases ite_of h with h | h
      · exact (fr_s_X12_findBeds_74 ho rc30 H30 rc36 H36 x2 x3 σ6  h).trans q
      · obtain ⟨r9, σ8, g, h⟩ := bd_of h
        have q : σ8 o j = σ o j := (fr_s_X12_ageOf rfl _ _ _ g).trans q
        obtain ⟨v12, -, h⟩ := lt_of h
        exact (fr_s_X12_findBeds_75 ho rc30 H30 rc36 H36 x2 x3 v12 σ8  h).trans q
theorem fr_s_X12_findBeds_36 {n o j : Nat} {τ : Sg} (ho : fok W_X12_findBeds o j = true) (rc30 : Int32 → Sg → Option Sg) (H30 : ∀ (x2 : Int32) (σ : Sg), rc30 x2 σ = some τ → τ o j = σ o j) : ∀ (k : Nat) (x2 : Int32) (x3 : Int32) (σ : Sg), s_X12_findBeds_36 n rc30 k x2 x3 σ = some τ → τ o j = σ o j := by
  intro k
  induction k with
  | zero => intro x2 x3 σ  h; cases h
  | succ k ih => intro x2 x3 σ  h; exact fr_s_X12_findBeds_36b ho rc30 H30 (s_X12_findBeds_36 n rc30 k) ih x2 x3 σ  h
set_option maxRecDepth 20000 in
theorem fr_s_X12_findBeds_30b {n o j : Nat} {τ : Sg} (ho : fok W_X12_findBeds o j = true) (rc30 : Int32 → Sg → Option Sg) (H30 : ∀ (x2 : Int32) (σ : Sg), rc30 x2 σ = some τ → τ o j = σ o j) (x2 : Int32) (σ : Sg) (h : s_X12_findBeds_30b n rc30 x2 σ = some τ) : τ o j = σ o j := by
  unfold s_X12_findBeds_30b at h
  have q : σ o j = σ o j := rfl
  rcases ite_of h with h | h
  · exact fr_e1 h q
  · exact (fr_s_X12_findBeds_36 ho rc30 H30 n x2 (0 : Int32) σ  h).trans q
theorem fr_s_X12_findBeds_30 {n o j : Nat} {τ : Sg} (ho : fok W_X12_findBeds o j = true) : ∀ (k : Nat) (x2 : Int32) (σ : Sg), s_X12_findBeds_30 n k x2 σ = some τ → τ o j = σ o j := by
  intro k
  induction k with
  | zero => intro x2 σ  h; cases h
  | succ k ih => intro x2 σ  h; exact fr_s_X12_findBeds_30b ho  (s_X12_findBeds_30 n  k) ih x2 σ  h
set_option maxRecDepth 20000 in
theorem fr_s_X12_findBeds_2b {n o j : Nat} {τ : Sg} (ho : fok W_X12_findBeds o j = true) (rc2 : Int32 → Int32 → Sg → Option Sg) (H2 : ∀ (x1 : Int32) (x2 : Int32) (σ : Sg), rc2 x1 x2 σ = some τ → τ o j = σ o j) (x1 : Int32) (x2 : Int32) (σ : Sg) (h : s_X12_findBeds_2b n rc2 x1 x2 σ = some τ) : τ o j = σ o j := by
  unfold s_X12_findBeds_2b at h
  have q : σ o j = σ o j := rfl
  rcases ite_of h with h | h
  · exact (fr_s_X12_findBeds_30 ho  n x1 σ  h).trans q
  · obtain ⟨r2, σ1, g, h⟩ := bd_of h
    have q : σ1 o j = σ o j := (fr_s_X12_bedCell rfl _ _ _ g).trans q
    have h := (ck_of h).2
    obtain ⟨σ3, e, h⟩ := lt_of h
    have q : σ3 o j = σ o j := by rw [e]; exact (up2_o (fok_a ho (by decide))).trans q
    exact (H2 x1 (x2 + (1 : Int32)) σ3  h).trans q
theorem fr_s_X12_findBeds_2 {n o j : Nat} {τ : Sg} (ho : fok W_X12_findBeds o j = true) : ∀ (k : Nat) (x1 : Int32) (x2 : Int32) (σ : Sg), s_X12_findBeds_2 n k x1 x2 σ = some τ → τ o j = σ o j := by
  intro k
  induction k with
  | zero => intro x1 x2 σ  h; cases h
  | succ k ih => intro x1 x2 σ  h; exact fr_s_X12_findBeds_2b ho  (s_X12_findBeds_2 n  k) ih x1 x2 σ  h
set_option maxRecDepth 20000 in
theorem fr_s_X12_findBeds {n o j : Nat} {τ : Sg} (ho : fok W_X12_findBeds o j = true) (x1 : Int32) (σ : Sg) (h : s_X12_findBeds n x1 σ = some τ) : τ o j = σ o j := by
  unfold s_X12_findBeds at h
  have q : σ o j = σ o j := rfl
  exact (fr_s_X12_findBeds_2 ho  n x1 (0 : Int32) σ  h).trans q
abbrev W_X12_beds : List (Nat × Option Nat) := [(71, some 70), (71, some 71), (71, some 72), (71, some 73), (117, none)]
set_option maxRecDepth 20000 in
theorem fr_s_X12_beds_115 {n o j : Nat} {r : Int32} {τ : Sg} (ho : fok W_X12_beds o j = true) (x7 : Int32) (σ : Sg) (h : s_X12_beds_115 n x7 σ = some (r, τ)) : τ o j = σ o j := by
  unfold s_X12_beds_115 at h
  have q : σ o j = σ o j := rfl
  rcases ite_of h with h | h
  · exact fr_e2 h q
  · exact fr_e2 h q
set_option maxRecDepth 20000 in
theorem fr_s_X12_beds_169 {n o j : Nat} {r : Int32} {τ : Sg} (ho : fok W_X12_beds o j = true) (rc136 : Int32 → Int32 → Int32 → Int32 → Int32 → Sg → Option (Int32 × Sg)) (H136 : ∀ (x4 : Int32) (x5 : Int32) (x6 : Int32) (x8 : Int32) (x9 : Int32) (σ : Sg), rc136 x4 x5 x6 x8 x9 σ = some (r, τ) → τ o j = σ o j) (rc146 : Int32 → Int32 → Int32 → Int32 → Int32 → Int32 → Sg → Option (Int32 × Sg)) (H146 : ∀ (x4 : Int32) (x5 : Int32) (x6 : Int32) (x8 : Int32) (x9 : Int32) (x10 : Int32) (σ : Sg), rc146 x4 x5 x6 x8 x9 x10 σ = some (r, τ) → τ o j = σ o j) (x4 : Int32) (x5 : Int32) (x6 : Int32) (x8 : Int32) (x9 : Int32) (x10 : Int32) (y0 : Int32) (σ : Sg) (h : s_X12_beds_169 n rc136 rc146 x4 x5 x6 x8 x9 x10 y0 σ = some (r, τ)) : τ o j = σ o j := by
  unfold s_X12_beds_169 at h
  have q : σ o j = σ o j := rfl
  obtain ⟨r23, σ22, g, h⟩ := bd_of h
  have q : σ22 o j = σ o j := (fr_s_X12_one rfl _ _ g).trans q
  obtain ⟨r25, σ24, g, h⟩ := bd_of h
  have q : σ24 o j = σ o j := (fr_s_X12_nextAges rfl _ _ _ g).trans q
  obtain ⟨r27, σ26, g, h⟩ := bd_of h
  have q : σ26 o j = σ o j := (fr_s_X12_bedCell rfl _ _ _ g).trans q
  have h := (ck_of h).2
  obtain ⟨r29, σ28, g, h⟩ := bd_of h
  have q : σ28 o j = σ o j := (fr_s_X12_bedCell rfl _ _ _ g).trans q
  have h := (ck_of h).2
  rcases ite_of h with h | h
  · rcases ite_of h with h | h
    · exact fr_e2 h q
    · obtain ⟨r31, σ30, g, h⟩ := bd_of h
      have q : σ30 o j = σ o j := (fr_s_X12_nextAges rfl _ _ _ g).trans q
      exact (H136 x4 x5 x6 r31 (x9 + (1 : Int32)) σ30  h).trans q
  · exact (H146 x4 x5 x6 x8 x9 (x10 + (1 : Int32)) σ28  h).trans q
set_option maxRecDepth 20000 in
theorem fr_s_X12_beds_146b {n o j : Nat} {r : Int32} {τ : Sg} (ho : fok W_X12_beds o j = true) (rc136 : Int32 → Int32 → Int32 → Int32 → Int32 → Sg → Option (Int32 × Sg)) (H136 : ∀ (x4 : Int32) (x5 : Int32) (x6 : Int32) (x8 : Int32) (x9 : Int32) (σ : Sg), rc136 x4 x5 x6 x8 x9 σ = some (r, τ) → τ o j = σ o j) (rc146 : Int32 → Int32 → Int32 → Int32 → Int32 → Int32 → Sg → Option (Int32 × Sg)) (H146 : ∀ (x4 : Int32) (x5 : Int32) (x6 : Int32) (x8 : Int32) (x9 : Int32) (x10 : Int32) (σ : Sg), rc146 x4 x5 x6 x8 x9 x10 σ = some (r, τ) → τ o j = σ o j) (x4 : Int32) (x5 : Int32) (x6 : Int32) (x8 : Int32) (x9 : Int32) (x10 : Int32) (σ : Sg) (h : s_X12_beds_146b n rc136 rc146 x4 x5 x6 x8 x9 x10 σ = some (r, τ)) : τ o j = σ o j := by
  unfold s_X12_beds_146b at h
  have q : σ o j = σ o j := rfl
  obtain ⟨r18, σ17, g, h⟩ := bd_of h
  have q : σ17 o j = σ o j := (fr_s_X12_givenBy rfl _ _ _ g).trans q
  rcases ite_of h with h | h
  · exact (H146 x4 x5 x6 x8 x9 (x10 + (1 : Int32)) σ17  h).trans q
  · obtain ⟨v21, -, h⟩ := lt_of h
    exact (fr_s_X12_beds_169 ho rc136 H136 rc146 H146 x4 x5 x6 x8 x9 x10 v21 σ17  h).trans q
theorem fr_s_X12_beds_146 {n o j : Nat} {r : Int32} {τ : Sg} (ho : fok W_X12_beds o j = true) (rc136 : Int32 → Int32 → Int32 → Int32 → Int32 → Sg → Option (Int32 × Sg)) (H136 : ∀ (x4 : Int32) (x5 : Int32) (x6 : Int32) (x8 : Int32) (x9 : Int32) (σ : Sg), rc136 x4 x5 x6 x8 x9 σ = some (r, τ) → τ o j = σ o j) : ∀ (k : Nat) (x4 : Int32) (x5 : Int32) (x6 : Int32) (x8 : Int32) (x9 : Int32) (x10 : Int32) (σ : Sg), s_X12_beds_146 n rc136 k x4 x5 x6 x8 x9 x10 σ = some (r, τ) → τ o j = σ o j := by
  intro k
  induction k with
  | zero => intro x4 x5 x6 x8 x9 x10 σ  h; cases h
  | succ k ih => intro x4 x5 x6 x8 x9 x10 σ  h; exact fr_s_X12_beds_146b ho rc136 H136 (s_X12_beds_146 n rc136 k) ih x4 x5 x6 x8 x9 x10 σ  h
set_option maxRecDepth 20000 in
theorem fr_s_X12_beds_136b {n o j : Nat} {r : Int32} {τ : Sg} (ho : fok W_X12_beds o j = true) (rc136 : Int32 → Int32 → Int32 → Int32 → Int32 → Sg → Option (Int32 × Sg)) (H136 : ∀ (x4 : Int32) (x5 : Int32) (x6 : Int32) (x8 : Int32) (x9 : Int32) (σ : Sg), rc136 x4 x5 x6 x8 x9 σ = some (r, τ) → τ o j = σ o j) (x4 : Int32) (x5 : Int32) (x6 : Int32) (x8 : Int32) (x9 : Int32) (σ : Sg) (h : s_X12_beds_136b n rc136 x4 x5 x6 x8 x9 σ = some (r, τ)) : τ o j = σ o j := by
  unfold s_X12_beds_136b at h
  have q : σ o j = σ o j := rfl
  rcases ite_of h with h | h
  · exact fr_e2 h q
  · exact (fr_s_X12_beds_146 ho rc136 H136 n x4 x5 x6 x8 x9 (-1 : Int32) σ  h).trans q
theorem fr_s_X12_beds_136 {n o j : Nat} {r : Int32} {τ : Sg} (ho : fok W_X12_beds o j = true) : ∀ (k : Nat) (x4 : Int32) (x5 : Int32) (x6 : Int32) (x8 : Int32) (x9 : Int32) (σ : Sg), s_X12_beds_136 n k x4 x5 x6 x8 x9 σ = some (r, τ) → τ o j = σ o j := by
  intro k
  induction k with
  | zero => intro x4 x5 x6 x8 x9 σ  h; cases h
  | succ k ih => intro x4 x5 x6 x8 x9 σ  h; exact fr_s_X12_beds_136b ho  (s_X12_beds_136 n  k) ih x4 x5 x6 x8 x9 σ  h
set_option maxRecDepth 20000 in
theorem fr_s_X12_beds {n o j : Nat} {r : Int32} {τ : Sg} (ho : fok W_X12_beds o j = true) (x1 : Int32) (x2 : Int32) (x3 : Int32) (x4 : Int32) (x5 : Int32) (x6 : Int32) (σ : Sg) (h : s_X12_beds n x1 x2 x3 x4 x5 x6 σ = some (r, τ)) : τ o j = σ o j := by
  unfold s_X12_beds at h
  have q : σ o j = σ o j := rfl
  obtain ⟨r2, σ1, g, h⟩ := bd_of h
  have q : σ1 o j = σ o j := (fr_s_X12_in rfl _ _ _ _ g).trans q
  rcases ite_of h with h | h
  · exact fr_e2 h q
  · obtain ⟨r4, σ3, g, h⟩ := bd_of h
    have q : σ3 o j = σ o j := (fr_s_X12_in rfl _ _ _ _ g).trans q
    rcases ite_of h with h | h
    · exact fr_e2 h q
    · obtain ⟨r6, σ5, g, h⟩ := bd_of h
      have q : σ5 o j = σ o j := (fr_s_X12_in rfl _ _ _ _ g).trans q
      rcases ite_of h with h | h
      · exact fr_e2 h q
      · obtain ⟨r8, σ7, g, h⟩ := bd_of h
        have q : σ7 o j = σ o j := (fr_s_X12_in rfl _ _ _ _ g).trans q
        rcases ite_of h with h | h
        · exact fr_e2 h q
        · obtain ⟨r10, σ9, g, h⟩ := bd_of h
          have q : σ9 o j = σ o j := (fr_s_X12_in rfl _ _ _ _ g).trans q
          rcases ite_of h with h | h
          · exact fr_e2 h q
          · obtain ⟨σ11, e, h⟩ := lt_of h
            have q : σ11 o j = σ o j := by rw [e]; exact (up2_f ho (by decide)).trans q
            obtain ⟨σ12, e, h⟩ := lt_of h
            have q : σ12 o j = σ o j := by rw [e]; exact (up2_f ho (by decide)).trans q
            obtain ⟨σ13, e, h⟩ := lt_of h
            have q : σ13 o j = σ o j := by rw [e]; exact (up2_f ho (by decide)).trans q
            obtain ⟨σ14, e, h⟩ := lt_of h
            have q : σ14 o j = σ o j := by rw [e]; exact (up2_f ho (by decide)).trans q
            obtain ⟨σ15, g, h⟩ := bdv_of h
            have q : σ15 o j = σ o j := (fr_s_X12_findBeds (fok_sub ho (by decide)) _ _  g).trans q
            have h := (ck_of h).2
            obtain ⟨v16, -, h⟩ := lt_of h
            rcases ite_of h with h | h
            · exact (fr_s_X12_beds_115 ho  v16 σ15  h).trans q
            · rcases ite_of h with h | h
              · exact (fr_s_X12_beds_136 ho  n x4 x5 x6 (0 : Int32) (0 : Int32) σ15  h).trans q
              · exact (fr_s_X12_beds_115 ho  v16 σ15  h).trans q
abbrev W_X12_river : List (Nat × Option Nat) := [(118, none)]
set_option maxRecDepth 20000 in
theorem fr_s_X12_river {n o j : Nat} {r : Int32} {τ : Sg} (ho : fok W_X12_river o j = true) (x1 : Int32) (x2 : Int32) (σ : Sg) (h : s_X12_river n x1 x2 σ = some (r, τ)) : τ o j = σ o j := by
  unfold s_X12_river at h
  have q : σ o j = σ o j := rfl
  obtain ⟨r2, σ1, g, h⟩ := bd_of h
  have q : σ1 o j = σ o j := (fr_s_X12_in rfl _ _ _ _ g).trans q
  rcases ite_of h with h | h
  · exact fr_e2 h q
  · obtain ⟨r4, σ3, g, h⟩ := bd_of h
    have q : σ3 o j = σ o j := (fr_s_X12_in rfl _ _ _ _ g).trans q
    rcases ite_of h with h | h
    · exact fr_e2 h q
    · have h := (ck_of h).2
      obtain ⟨v5, -, h⟩ := lt_of h
      have h := (ck_of h).2
      obtain ⟨σ6, e, h⟩ := lt_of h
      have q : σ6 o j = σ o j := by rw [e]; exact (up2_o (fok_a ho (by decide))).trans q
      exact fr_e2 h q
abbrev W_X12_share : List (Nat × Option Nat) := []
set_option maxRecDepth 20000 in
theorem fr_s_X12_share_121 {n o j : Nat} {r : Int32} {τ : Sg} (ho : fok W_X12_share o j = true) (rc68 : Int32 → Int32 → Int32 → Int32 → Int32 → Int32 → Int32 → Int32 → Int32 → Sg → Option (Int32 × Sg)) (H68 : ∀ (x1 : Int32) (x2 : Int32) (x3 : Int32) (x4 : Int32) (x5 : Int32) (x6 : Int32) (x7 : Int32) (x8 : Int32) (x9 : Int32) (σ : Sg), rc68 x1 x2 x3 x4 x5 x6 x7 x8 x9 σ = some (r, τ) → τ o j = σ o j) (x1 : Int32) (x2 : Int32) (x3 : Int32) (x4 : Int32) (x6 : Int32) (x7 : Int32) (x8 : Int32) (x9 : Int32) (x10 : Int32) (x11 : Int32) (y0 : Int32) (σ : Sg) (h : s_X12_share_121 n rc68 x1 x2 x3 x4 x6 x7 x8 x9 x10 x11 y0 σ = some (r, τ)) : τ o j = σ o j := by
  unfold s_X12_share_121 at h
  have q : σ o j = σ o j := rfl
  obtain ⟨v17, -, h⟩ := lt_of h
  obtain ⟨v18, -, h⟩ := lt_of h
  have h := (ck_of h).2
  obtain ⟨v19, -, h⟩ := lt_of h
  exact (H68 x1 x2 x3 x4 y0 v17 v18 v19 (x9 + (1 : Int32)) σ  h).trans q
set_option maxRecDepth 20000 in
theorem fr_s_X12_share_68b {n o j : Nat} {r : Int32} {τ : Sg} (ho : fok W_X12_share o j = true) (rc68 : Int32 → Int32 → Int32 → Int32 → Int32 → Int32 → Int32 → Int32 → Int32 → Sg → Option (Int32 × Sg)) (H68 : ∀ (x1 : Int32) (x2 : Int32) (x3 : Int32) (x4 : Int32) (x5 : Int32) (x6 : Int32) (x7 : Int32) (x8 : Int32) (x9 : Int32) (σ : Sg), rc68 x1 x2 x3 x4 x5 x6 x7 x8 x9 σ = some (r, τ) → τ o j = σ o j) (x1 : Int32) (x2 : Int32) (x3 : Int32) (x4 : Int32) (x5 : Int32) (x6 : Int32) (x7 : Int32) (x8 : Int32) (x9 : Int32) (σ : Sg) (h : s_X12_share_68b n rc68 x1 x2 x3 x4 x5 x6 x7 x8 x9 σ = some (r, τ)) : τ o j = σ o j := by
  unfold s_X12_share_68b at h
  have q : σ o j = σ o j := rfl
  rcases ite_of h with h | h
  · rcases ite_of h with h | h
    · exact fr_e2 h q
    · rcases ite_of h with h | h
      · exact fr_e2 h q
      · rcases ite_of h with h | h
        · exact fr_e2 h q
        · exact fr_e2 h q
  · have h := (ck_of h).2
    obtain ⟨r10, σ9, g, h⟩ := bd_of h
    have q : σ9 o j = σ o j := (fr_s_X12_least rfl _ _ _ g).trans q
    have h := (ck_of h).2
    obtain ⟨r12, σ11, g, h⟩ := bd_of h
    have q : σ11 o j = σ o j := (fr_s_X12_least rfl _ _ _ g).trans q
    obtain ⟨v16, -, h⟩ := lt_of h
    exact (fr_s_X12_share_121 ho rc68 H68 x1 x2 x3 x4 x6 x7 x8 x9 r10 r12 v16 σ11  h).trans q
theorem fr_s_X12_share_68 {n o j : Nat} {r : Int32} {τ : Sg} (ho : fok W_X12_share o j = true) : ∀ (k : Nat) (x1 : Int32) (x2 : Int32) (x3 : Int32) (x4 : Int32) (x5 : Int32) (x6 : Int32) (x7 : Int32) (x8 : Int32) (x9 : Int32) (σ : Sg), s_X12_share_68 n k x1 x2 x3 x4 x5 x6 x7 x8 x9 σ = some (r, τ) → τ o j = σ o j := by
  intro k
  induction k with
  | zero => intro x1 x2 x3 x4 x5 x6 x7 x8 x9 σ  h; cases h
  | succ k ih => intro x1 x2 x3 x4 x5 x6 x7 x8 x9 σ  h; exact fr_s_X12_share_68b ho  (s_X12_share_68 n  k) ih x1 x2 x3 x4 x5 x6 x7 x8 x9 σ  h
set_option maxRecDepth 20000 in
theorem fr_s_X12_share {n o j : Nat} {r : Int32} {τ : Sg} (ho : fok W_X12_share o j = true) (x1 : Int32) (x2 : Int32) (x3 : Int32) (x4 : Int32) (σ : Sg) (h : s_X12_share n x1 x2 x3 x4 σ = some (r, τ)) : τ o j = σ o j := by
  unfold s_X12_share at h
  have q : σ o j = σ o j := rfl
  obtain ⟨r2, σ1, g, h⟩ := bd_of h
  have q : σ1 o j = σ o j := (fr_s_X12_in rfl _ _ _ _ g).trans q
  rcases ite_of h with h | h
  · exact fr_e2 h q
  · obtain ⟨r4, σ3, g, h⟩ := bd_of h
    have q : σ3 o j = σ o j := (fr_s_X12_in rfl _ _ _ _ g).trans q
    rcases ite_of h with h | h
    · exact fr_e2 h q
    · obtain ⟨r6, σ5, g, h⟩ := bd_of h
      have q : σ5 o j = σ o j := (fr_s_X12_in rfl _ _ _ _ g).trans q
      rcases ite_of h with h | h
      · exact fr_e2 h q
      · obtain ⟨r8, σ7, g, h⟩ := bd_of h
        have q : σ7 o j = σ o j := (fr_s_X12_in rfl _ _ _ _ g).trans q
        rcases ite_of h with h | h
        · exact fr_e2 h q
        · exact (fr_s_X12_share_68 ho  n x1 x2 x3 x4 (-1 : Int32) (0 : Int32) (0 : Int32) (0 : Int32) (0 : Int32) σ7  h).trans q
abbrev W_X12_gains : List (Nat × Option Nat) := [(71, some 41), (71, some 42), (71, some 43), (71, some 44), (71, some 45), (71, some 46), (99, none), (100, none)]
set_option maxRecDepth 20000 in
theorem fr_s_X12_gains_39 {n o j : Nat} {r : Int32} {τ : Sg} (ho : fok W_X12_gains o j = true) (rc12 : Int32 → Int32 → Sg → Option (Int32 × Sg)) (H12 : ∀ (x1 : Int32) (x2 : Int32) (σ : Sg), rc12 x1 x2 σ = some (r, τ) → τ o j = σ o j) (x2 : Int32) (y0 : Int32) (y1 : Int32) (σ : Sg) (h : s_X12_gains_39 n rc12 x2 y0 y1 σ = some (r, τ)) : τ o j = σ o j := by
  unfold s_X12_gains_39 at h
  have q : σ o j = σ o j := rfl
  obtain ⟨r12, σ11, g, h⟩ := bd_of h
  have q : σ11 o j = σ o j := (fr_s_X12_one rfl _ _ g).trans q
  obtain ⟨v13, -, h⟩ := lt_of h
  exact (H12 v13 (x2 + (1 : Int32)) σ11  h).trans q
set_option maxRecDepth 20000 in
theorem fr_s_X12_gains_12b {n o j : Nat} {r : Int32} {τ : Sg} (ho : fok W_X12_gains o j = true) (rc12 : Int32 → Int32 → Sg → Option (Int32 × Sg)) (H12 : ∀ (x1 : Int32) (x2 : Int32) (σ : Sg), rc12 x1 x2 σ = some (r, τ) → τ o j = σ o j) (x1 : Int32) (x2 : Int32) (σ : Sg) (h : s_X12_gains_12b n rc12 x1 x2 σ = some (r, τ)) : τ o j = σ o j := by
  unfold s_X12_gains_12b at h
  have q : σ o j = σ o j := rfl
  rcases ite_of h with h | h
  · exact fr_e2 h q
  · obtain ⟨r5, σ4, g, h⟩ := bd_of h
    have q : σ4 o j = σ o j := (fr_s_X12_byMeter rfl _ _ g).trans q
    obtain ⟨r7, σ6, g, h⟩ := bd_of h
    have q : σ6 o j = σ o j := (fr_s_X12_byRooms rfl _ _ g).trans q
    obtain ⟨v10, -, h⟩ := lt_of h
    exact (fr_s_X12_gains_39 ho rc12 H12 x2 v10 x1 σ6  h).trans q
theorem fr_s_X12_gains_12 {n o j : Nat} {r : Int32} {τ : Sg} (ho : fok W_X12_gains o j = true) : ∀ (k : Nat) (x1 : Int32) (x2 : Int32) (σ : Sg), s_X12_gains_12 n k x1 x2 σ = some (r, τ) → τ o j = σ o j := by
  intro k
  induction k with
  | zero => intro x1 x2 σ  h; cases h
  | succ k ih => intro x1 x2 σ  h; exact fr_s_X12_gains_12b ho  (s_X12_gains_12 n  k) ih x1 x2 σ  h
set_option maxRecDepth 20000 in
theorem fr_s_X12_gains {n o j : Nat} {r : Int32} {τ : Sg} (ho : fok W_X12_gains o j = true) (σ : Sg) (h : s_X12_gains n σ = some (r, τ)) : τ o j = σ o j := by
  unfold s_X12_gains at h
  have q : σ o j = σ o j := rfl
  obtain ⟨r2, σ1, g, h⟩ := bd_of h
  have q : σ1 o j = σ o j := (fr_s_X12_dayNow rfl _ g).trans q
  obtain ⟨σ3, g, h⟩ := bdv_of h
  have q : σ3 o j = σ o j := (fr_s_X12_findRules (fok_sub ho (by decide)) _ _  g).trans q
  exact (fr_s_X12_gains_12 ho  n (0 : Int32) (0 : Int32) σ3  h).trans q
abbrev W_X12_beside : List (Nat × Option Nat) := [(71, some 25), (71, some 41), (71, some 42), (71, some 43), (71, some 44), (71, some 45), (71, some 46), (71, some 50), (71, some 51), (71, some 56), (71, some 57), (86, none), (88, none), (89, none), (90, none), (91, none), (92, none), (99, none), (100, none), (101, none), (102, none), (103, none), (104, none), (105, none), (106, none), (107, none), (109, none), (110, none)]
set_option maxRecDepth 20000 in
theorem fr_s_X12_beside_51b {n o j : Nat} {r : Int32} {τ : Sg} (ho : fok W_X12_beside o j = true) (rc51 : Int32 → Int32 → Sg → Option (Int32 × Sg)) (H51 : ∀ (x3 : Int32) (x4 : Int32) (σ : Sg), rc51 x3 x4 σ = some (r, τ) → τ o j = σ o j) (x3 : Int32) (x4 : Int32) (σ : Sg) (h : s_X12_beside_51b n rc51 x3 x4 σ = some (r, τ)) : τ o j = σ o j := by
  unfold s_X12_beside_51b at h
  have q : σ o j = σ o j := rfl
  rcases ite_of h with h | h
  · obtain ⟨σ9, e, h⟩ := lt_of h
    have q : σ9 o j = σ o j := by rw [e]; exact (up2_f ho (by decide)).trans q
    obtain ⟨σ10, g, h⟩ := bdv_of h
    have q : σ10 o j = σ o j := (fr_s_X12_keepAll (fok_sub ho (by decide)) _ _  g).trans q
    exact fr_e2 h q
  · obtain ⟨σ11, g, h⟩ := bdv_of h
    have q : σ11 o j = σ o j := (fr_s_X12_findRules (fok_sub ho (by decide)) _ _  g).trans q
    obtain ⟨r13, σ12, g, h⟩ := bd_of h
    have q : σ12 o j = σ o j := (fr_s_X12_doHour (fok_sub ho (by decide)) _ _ _  g).trans q
    obtain ⟨r15, σ14, g, h⟩ := bd_of h
    have q : σ14 o j = σ o j := (fr_s_X12_one rfl _ _ g).trans q
    obtain ⟨v16, -, h⟩ := lt_of h
    exact (H51 v16 (x4 + (1 : Int32)) σ14  h).trans q
theorem fr_s_X12_beside_51 {n o j : Nat} {r : Int32} {τ : Sg} (ho : fok W_X12_beside o j = true) : ∀ (k : Nat) (x3 : Int32) (x4 : Int32) (σ : Sg), s_X12_beside_51 n k x3 x4 σ = some (r, τ) → τ o j = σ o j := by
  intro k
  induction k with
  | zero => intro x3 x4 σ  h; cases h
  | succ k ih => intro x3 x4 σ  h; exact fr_s_X12_beside_51b ho  (s_X12_beside_51 n  k) ih x3 x4 σ  h
set_option maxRecDepth 20000 in
theorem fr_s_X12_beside {n o j : Nat} {r : Int32} {τ : Sg} (ho : fok W_X12_beside o j = true) (x1 : Int32) (x2 : Int32) (σ : Sg) (h : s_X12_beside n x1 x2 σ = some (r, τ)) : τ o j = σ o j := by
  unfold s_X12_beside at h
  have q : σ o j = σ o j := rfl
  obtain ⟨r2, σ1, g, h⟩ := bd_of h
  have q : σ1 o j = σ o j := (fr_s_X12_isNode rfl _ _ g).trans q
  rcases ite_of h with h | h
  · exact fr_e2 h q
  · obtain ⟨r4, σ3, g, h⟩ := bd_of h
    have q : σ3 o j = σ o j := (fr_s_X12_in rfl _ _ _ _ g).trans q
    rcases ite_of h with h | h
    · exact fr_e2 h q
    · obtain ⟨σ5, g, h⟩ := bdv_of h
      have q : σ5 o j = σ o j := (fr_s_X12_keepAll (fok_sub ho (by decide)) _ _  g).trans q
      obtain ⟨σ6, g, h⟩ := bdv_of h
      have q : σ6 o j = σ o j := (fr_s_X12_emptyAll (fok_sub ho (by decide)) _  g).trans q
      obtain ⟨σ7, e, h⟩ := lt_of h
      have q : σ7 o j = σ o j := by rw [e]; exact (up2_f ho (by decide)).trans q
      obtain ⟨σ8, e, h⟩ := lt_of h
      have q : σ8 o j = σ o j := by rw [e]; exact (up2_f ho (by decide)).trans q
      exact (fr_s_X12_beside_51 ho  n (0 : Int32) (0 : Int32) σ8  h).trans q
