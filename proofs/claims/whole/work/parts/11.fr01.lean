abbrev W_X6_countingOn : List (Nat × Option Nat) := []
set_option maxRecDepth 20000 in
theorem fr_s_X6_countingOn_12b {n o j : Nat} {r : Int32} {τ : Sg} (ho : fok W_X6_countingOn o j = true) (rc12 : Int32 → Int32 → Int32 → Int32 → Sg → Option (Int32 × Sg)) (H12 : ∀ (x1 : Int32) (x2 : Int32) (x3 : Int32) (x4 : Int32) (σ : Sg), rc12 x1 x2 x3 x4 σ = some (r, τ) → τ o j = σ o j) (x1 : Int32) (x2 : Int32) (x3 : Int32) (x4 : Int32) (σ : Sg) (h : s_X6_countingOn_12b n rc12 x1 x2 x3 x4 σ = some (r, τ)) : τ o j = σ o j := by
  unfold s_X6_countingOn_12b at h
  have q : σ o j = σ o j := rfl
  rcases ite_of h with h | h
  · exact fr_e2 h q
  · have h := (ck_of h).2
    rcases ite_of h with h | h
    · exact (H12 x1 x2 x3 (x4 + (-1 : Int32)) σ  h).trans q
    · rcases ite_of h with h | h
      · obtain ⟨v3, -, h⟩ := lt_of h
        have h := (ck_of h).2
        obtain ⟨v5, -, h⟩ := lt_of h
        exact (H12 x1 v3 v5 (x4 + (-1 : Int32)) σ  h).trans q
      · exact (H12 x1 x2 x3 (x4 + (-1 : Int32)) σ  h).trans q
theorem fr_s_X6_countingOn_12 {n o j : Nat} {r : Int32} {τ : Sg} (ho : fok W_X6_countingOn o j = true) : ∀ (k : Nat) (x1 : Int32) (x2 : Int32) (x3 : Int32) (x4 : Int32) (σ : Sg), s_X6_countingOn_12 n k x1 x2 x3 x4 σ = some (r, τ) → τ o j = σ o j := by
  intro k
  induction k with
  | zero => intro x1 x2 x3 x4 σ  h; cases h
  | succ k ih => intro x1 x2 x3 x4 σ  h; exact fr_s_X6_countingOn_12b ho  (s_X6_countingOn_12 n  k) ih x1 x2 x3 x4 σ  h
set_option maxRecDepth 20000 in
theorem fr_s_X6_countingOn {n o j : Nat} {r : Int32} {τ : Sg} (ho : fok W_X6_countingOn o j = true) (x1 : Int32) (σ : Sg) (h : s_X6_countingOn n x1 σ = some (r, τ)) : τ o j = σ o j := by
  unfold s_X6_countingOn at h
  have q : σ o j = σ o j := rfl
  obtain ⟨v1, -, h⟩ := lt_of h
  exact (fr_s_X6_countingOn_12 ho  n x1 (0 : Int32) (0 : Int32) v1 σ  h).trans q
abbrev W_X6_hold : List (Nat × Option Nat) := []
set_option maxRecDepth 20000 in
theorem fr_s_X6_hold_46b {n o j : Nat} {τ : Sg} (ho : fok W_X6_hold o j = true) (rc46 : Nat → Int32 → Int32 → Sg → Option Sg) (H46 : ∀ (x2 : Nat) (x3 : Int32) (x4 : Int32) (σ : Sg), o ≠ x2 → rc46 x2 x3 x4 σ = some τ → τ o j = σ o j) (x2 : Nat) (x3 : Int32) (x4 : Int32) (σ : Sg) (hv_x2 : o ≠ x2) (h : s_X6_hold_46b n rc46 x2 x3 x4 σ = some τ) : τ o j = σ o j := by
  unfold s_X6_hold_46b at h
  have q : σ o j = σ o j := rfl
  rcases ite_of h with h | h
  · exact fr_e1 h q
  · have h := (ck_of h).2
    rcases ite_of h with h | h
    · have h := (ck_of h).2
      have h := (ck_of h).2
      obtain ⟨σ7, g, h⟩ := bdv_of h
      have q : σ7 o j = σ o j := (fr_s_X2_follow (fok_sub ho (by decide)) _ _ _ hv_x2 g).trans q
      exact (H46 x2 x3 (x4 + (1 : Int32)) σ7 hv_x2 h).trans q
    · exact (H46 x2 x3 (x4 + (1 : Int32)) σ hv_x2 h).trans q
theorem fr_s_X6_hold_46 {n o j : Nat} {τ : Sg} (ho : fok W_X6_hold o j = true) : ∀ (k : Nat) (x2 : Nat) (x3 : Int32) (x4 : Int32) (σ : Sg), o ≠ x2 → s_X6_hold_46 n k x2 x3 x4 σ = some τ → τ o j = σ o j := by
  intro k
  induction k with
  | zero => intro x2 x3 x4 σ hv_x2 h; cases h
  | succ k ih => intro x2 x3 x4 σ hv_x2 h; exact fr_s_X6_hold_46b ho  (s_X6_hold_46 n  k) ih x2 x3 x4 σ hv_x2 h
set_option maxRecDepth 20000 in
theorem fr_s_X6_hold_20 {n o j : Nat} {τ : Sg} (ho : fok W_X6_hold o j = true) (x1 : Int32) (x2 : Nat) (σ : Sg) (hv_x2 : o ≠ x2) (h : s_X6_hold_20 n x1 x2 σ = some τ) : τ o j = σ o j := by
  unfold s_X6_hold_20 at h
  have q : σ o j = σ o j := rfl
  obtain ⟨σ1, e, h⟩ := lt_of h
  have q : σ1 o j = σ o j := by rw [e]; exact (up2_o hv_x2).trans q
  obtain ⟨σ2, e, h⟩ := lt_of h
  have q : σ2 o j = σ o j := by rw [e]; exact (up2_o hv_x2).trans q
  obtain ⟨σ3, g, h⟩ := bdv_of h
  have q : σ3 o j = σ o j := (fr_s_X2_sayWhatHoldsAtFirst (fok_sub ho (by decide)) _ _ hv_x2 g).trans q
  obtain ⟨r5, σ4, g, h⟩ := bd_of h
  have q : σ4 o j = σ o j := (fr_s_X6_countingOn rfl _ _ g).trans q
  exact (fr_s_X6_hold_46 ho  n x2 r5 (0 : Int32) σ4 hv_x2 h).trans q
set_option maxRecDepth 20000 in
theorem fr_s_X6_hold {n o j : Nat} {τ : Sg} (ho : fok W_X6_hold o j = true) (x1 : Int32) (x2 : Nat) (σ : Sg) (hv_x2 : o ≠ x2) (h : s_X6_hold n x1 x2 σ = some τ) : τ o j = σ o j := by
  unfold s_X6_hold at h
  have q : σ o j = σ o j := rfl
  rcases ite_of h with h | h
  · rcases ite_of h with h | h
    · exact fr_e1 h q
    · exact (fr_s_X6_hold_20 ho  x1 x2 σ hv_x2 h).trans q
  · exact (fr_s_X6_hold_20 ho  x1 x2 σ hv_x2 h).trans q
abbrev W_X6_someBeginOn : List (Nat × Option Nat) := []
set_option maxRecDepth 20000 in
theorem fr_s_X6_someBeginOn_2b {n o j : Nat} {r : Int32} {τ : Sg} (ho : fok W_X6_someBeginOn o j = true) (rc2 : Int32 → Int32 → Sg → Option (Int32 × Sg)) (H2 : ∀ (x1 : Int32) (x2 : Int32) (σ : Sg), rc2 x1 x2 σ = some (r, τ) → τ o j = σ o j) (x1 : Int32) (x2 : Int32) (σ : Sg) (h : s_X6_someBeginOn_2b n rc2 x1 x2 σ = some (r, τ)) : τ o j = σ o j := by
  unfold s_X6_someBeginOn_2b at h
  have q : σ o j = σ o j := rfl
  rcases ite_of h with h | h
  · exact fr_e2 h q
  · have h := (ck_of h).2
    rcases ite_of h with h | h
    · exact fr_e2 h q
    · exact (H2 x1 (x2 + (1 : Int32)) σ  h).trans q
theorem fr_s_X6_someBeginOn_2 {n o j : Nat} {r : Int32} {τ : Sg} (ho : fok W_X6_someBeginOn o j = true) : ∀ (k : Nat) (x1 : Int32) (x2 : Int32) (σ : Sg), s_X6_someBeginOn_2 n k x1 x2 σ = some (r, τ) → τ o j = σ o j := by
  intro k
  induction k with
  | zero => intro x1 x2 σ  h; cases h
  | succ k ih => intro x1 x2 σ  h; exact fr_s_X6_someBeginOn_2b ho  (s_X6_someBeginOn_2 n  k) ih x1 x2 σ  h
set_option maxRecDepth 20000 in
theorem fr_s_X6_someBeginOn {n o j : Nat} {r : Int32} {τ : Sg} (ho : fok W_X6_someBeginOn o j = true) (x1 : Int32) (σ : Sg) (h : s_X6_someBeginOn n x1 σ = some (r, τ)) : τ o j = σ o j := by
  unfold s_X6_someBeginOn at h
  have q : σ o j = σ o j := rfl
  exact (fr_s_X6_someBeginOn_2 ho  n x1 (0 : Int32) σ  h).trans q
abbrev W_X7_startAs : List (Nat × Option Nat) := []
set_option maxRecDepth 20000 in
theorem fr_s_X7_startAs {n o j : Nat} {τ : Sg} (ho : fok W_X7_startAs o j = true) (x0 : Nat) (x1 : Nat) (σ : Sg) (hv_rf_x0_0 : o ≠ rf x0 0) (hv_rf_x0_1 : o ≠ rf x0 1) (h : s_X7_startAs n x0 x1 σ = some τ) : τ o j = σ o j := by
  unfold s_X7_startAs at h
  have q : σ o j = σ o j := rfl
  obtain ⟨σ1, e, h⟩ := lt_of h
  have q : σ1 o j = σ o j := by rw [e]; exact (cp2_o hv_rf_x0_0).trans q
  obtain ⟨σ2, g, h⟩ := bdv_of h
  have q : σ2 o j = σ o j := (fr_s_J7_fill_53178 (fok_sub ho (by decide)) _ _ _ _ hv_rf_x0_1 g).trans q
  exact fr_e1 h q
abbrev W_X7_takeCisterns : List (Nat × Option Nat) := []
set_option maxRecDepth 20000 in
theorem fr_s_X7_takeCisterns {n o j : Nat} {τ : Sg} (ho : fok W_X7_takeCisterns o j = true) (x0 : Nat) (x1 : Nat) (σ : Sg) (hv_rf_x0_1 : o ≠ rf x0 1) (h : s_X7_takeCisterns n x0 x1 σ = some τ) : τ o j = σ o j := by
  unfold s_X7_takeCisterns at h
  have q : σ o j = σ o j := rfl
  obtain ⟨σ1, e, h⟩ := lt_of h
  have q : σ1 o j = σ o j := by rw [e]; exact (cp2_o hv_rf_x0_1).trans q
  exact fr_e1 h q
abbrev W_X7_hasCisterns : List (Nat × Option Nat) := []
set_option maxRecDepth 20000 in
theorem fr_s_X7_hasCisterns_2b {n o j : Nat} {r : Int32} {τ : Sg} (ho : fok W_X7_hasCisterns o j = true) (rc2 : Nat → Nat → Int32 → Sg → Option (Int32 × Sg)) (H2 : ∀ (x0 : Nat) (x1 : Nat) (x2 : Int32) (σ : Sg), rc2 x0 x1 x2 σ = some (r, τ) → τ o j = σ o j) (x0 : Nat) (x1 : Nat) (x2 : Int32) (σ : Sg) (h : s_X7_hasCisterns_2b n rc2 x0 x1 x2 σ = some (r, τ)) : τ o j = σ o j := by
  unfold s_X7_hasCisterns_2b at h
  have q : σ o j = σ o j := rfl
  rcases ite_of h with h | h
  · exact fr_e2 h q
  · have h := (ck_of h).2
    have h := (ck_of h).2
    rcases ite_of h with h | h
    · exact (H2 x0 x1 (x2 + (1 : Int32)) σ  h).trans q
    · exact fr_e2 h q
theorem fr_s_X7_hasCisterns_2 {n o j : Nat} {r : Int32} {τ : Sg} (ho : fok W_X7_hasCisterns o j = true) : ∀ (k : Nat) (x0 : Nat) (x1 : Nat) (x2 : Int32) (σ : Sg), s_X7_hasCisterns_2 n k x0 x1 x2 σ = some (r, τ) → τ o j = σ o j := by
  intro k
  induction k with
  | zero => intro x0 x1 x2 σ  h; cases h
  | succ k ih => intro x0 x1 x2 σ  h; exact fr_s_X7_hasCisterns_2b ho  (s_X7_hasCisterns_2 n  k) ih x0 x1 x2 σ  h
set_option maxRecDepth 20000 in
theorem fr_s_X7_hasCisterns {n o j : Nat} {r : Int32} {τ : Sg} (ho : fok W_X7_hasCisterns o j = true) (x0 : Nat) (x1 : Nat) (σ : Sg) (h : s_X7_hasCisterns n x0 x1 σ = some (r, τ)) : τ o j = σ o j := by
  unfold s_X7_hasCisterns at h
  have q : σ o j = σ o j := rfl
  exact (fr_s_X7_hasCisterns_2 ho  n x0 x1 (0 : Int32) σ  h).trans q
abbrev W_X7_always : List (Nat × Option Nat) := []
set_option maxRecDepth 20000 in
theorem fr_s_X7_always_4b {n o j : Nat} {r : Int32} {τ : Sg} (ho : fok W_X7_always o j = true) (rc4 : Nat → Int32 → Int32 → Int32 → Sg → Option (Int32 × Sg)) (H4 : ∀ (x0 : Nat) (x1 : Int32) (x2 : Int32) (x3 : Int32) (σ : Sg), rc4 x0 x1 x2 x3 σ = some (r, τ) → τ o j = σ o j) (x0 : Nat) (x1 : Int32) (x2 : Int32) (x3 : Int32) (σ : Sg) (h : s_X7_always_4b n rc4 x0 x1 x2 x3 σ = some (r, τ)) : τ o j = σ o j := by
  unfold s_X7_always_4b at h
  have q : σ o j = σ o j := rfl
  rcases ite_of h with h | h
  · exact fr_e2 h q
  · have h := (ck_of h).2
    rcases ite_of h with h | h
    · exact (H4 x0 x1 (x2 + (1 : Int32)) (x3 + (1 : Int32)) σ  h).trans q
    · exact (H4 x0 x1 x2 (x3 + (1 : Int32)) σ  h).trans q
theorem fr_s_X7_always_4 {n o j : Nat} {r : Int32} {τ : Sg} (ho : fok W_X7_always o j = true) : ∀ (k : Nat) (x0 : Nat) (x1 : Int32) (x2 : Int32) (x3 : Int32) (σ : Sg), s_X7_always_4 n k x0 x1 x2 x3 σ = some (r, τ) → τ o j = σ o j := by
  intro k
  induction k with
  | zero => intro x0 x1 x2 x3 σ  h; cases h
  | succ k ih => intro x0 x1 x2 x3 σ  h; exact fr_s_X7_always_4b ho  (s_X7_always_4 n  k) ih x0 x1 x2 x3 σ  h
set_option maxRecDepth 20000 in
theorem fr_s_X7_always {n o j : Nat} {r : Int32} {τ : Sg} (ho : fok W_X7_always o j = true) (x0 : Nat) (x1 : Int32) (σ : Sg) (h : s_X7_always n x0 x1 σ = some (r, τ)) : τ o j = σ o j := by
  unfold s_X7_always at h
  have q : σ o j = σ o j := rfl
  exact (fr_s_X7_always_4 ho  n x0 x1 (0 : Int32) (0 : Int32) σ  h).trans q
abbrev W_X7_hasAlways : List (Nat × Option Nat) := []
set_option maxRecDepth 20000 in
theorem fr_s_X7_hasAlways_2b {n o j : Nat} {r : Int32} {τ : Sg} (ho : fok W_X7_hasAlways o j = true) (rc2 : Nat → Int32 → Int32 → Int32 → Sg → Option (Int32 × Sg)) (H2 : ∀ (x0 : Nat) (x1 : Int32) (x2 : Int32) (x3 : Int32) (σ : Sg), rc2 x0 x1 x2 x3 σ = some (r, τ) → τ o j = σ o j) (x0 : Nat) (x1 : Int32) (x2 : Int32) (x3 : Int32) (σ : Sg) (h : s_X7_hasAlways_2b n rc2 x0 x1 x2 x3 σ = some (r, τ)) : τ o j = σ o j := by
  unfold s_X7_hasAlways_2b at h
  have q : σ o j = σ o j := rfl
  rcases ite_of h with h | h
  · exact fr_e2 h q
  · rcases ite_of h with h | h
    · have h := (ck_of h).2
      rcases ite_of h with h | h
      · exact fr_e2 h q
      · exact (H2 x0 x1 x2 (x3 + (1 : Int32)) σ  h).trans q
    · exact (H2 x0 x1 x2 (x3 + (1 : Int32)) σ  h).trans q
theorem fr_s_X7_hasAlways_2 {n o j : Nat} {r : Int32} {τ : Sg} (ho : fok W_X7_hasAlways o j = true) : ∀ (k : Nat) (x0 : Nat) (x1 : Int32) (x2 : Int32) (x3 : Int32) (σ : Sg), s_X7_hasAlways_2 n k x0 x1 x2 x3 σ = some (r, τ) → τ o j = σ o j := by
  intro k
  induction k with
  | zero => intro x0 x1 x2 x3 σ  h; cases h
  | succ k ih => intro x0 x1 x2 x3 σ  h; exact fr_s_X7_hasAlways_2b ho  (s_X7_hasAlways_2 n  k) ih x0 x1 x2 x3 σ  h
set_option maxRecDepth 20000 in
theorem fr_s_X7_hasAlways {n o j : Nat} {r : Int32} {τ : Sg} (ho : fok W_X7_hasAlways o j = true) (x0 : Nat) (x1 : Int32) (x2 : Int32) (σ : Sg) (h : s_X7_hasAlways n x0 x1 x2 σ = some (r, τ)) : τ o j = σ o j := by
  unfold s_X7_hasAlways at h
  have q : σ o j = σ o j := rfl
  exact (fr_s_X7_hasAlways_2 ho  n x0 x1 x2 (0 : Int32) σ  h).trans q
abbrev W_X8_has : List (Nat × Option Nat) := []
set_option maxRecDepth 20000 in
theorem fr_s_X8_has_16 {n o j : Nat} {r : Int32} {τ : Sg} (ho : fok W_X8_has o j = true) (σ : Sg) (h : s_X8_has_16 n σ = some (r, τ)) : τ o j = σ o j := by
  unfold s_X8_has_16 at h
  have q : σ o j = σ o j := rfl
  exact fr_e2 h q
set_option maxRecDepth 20000 in
theorem fr_s_X8_has {n o j : Nat} {r : Int32} {τ : Sg} (ho : fok W_X8_has o j = true) (x1 : Int32) (σ : Sg) (h : s_X8_has n x1 σ = some (r, τ)) : τ o j = σ o j := by
  unfold s_X8_has at h
  have q : σ o j = σ o j := rfl
  rcases ite_of h with h | h
  · exact (fr_s_X8_has_16 ho  σ  h).trans q
  · rcases ite_of h with h | h
    · exact (fr_s_X8_has_16 ho  σ  h).trans q
    · exact fr_e2 h q
abbrev W_X8_hasAll : List (Nat × Option Nat) := []
set_option maxRecDepth 20000 in
theorem fr_s_X8_hasAll {n o j : Nat} {r : Int32} {τ : Sg} (ho : fok W_X8_hasAll o j = true) (x1 : Int32) (σ : Sg) (h : s_X8_hasAll n x1 σ = some (r, τ)) : τ o j = σ o j := by
  unfold s_X8_hasAll at h
  have q : σ o j = σ o j := rfl
  rcases ite_of h with h | h
  · exact fr_e2 h q
  · exact fr_e2 h q
abbrev W_X8_build : List (Nat × Option Nat) := [(11, some 0), (12, none), (13, none), (14, none), (15, none), (16, none)]
set_option maxRecDepth 20000 in
theorem fr_s_X8_build {n o j : Nat} {r : Int32} {τ : Sg} (ho : fok W_X8_build o j = true) (x1 : Int32) (x2 : Int32) (x3 : Int32) (x4 : Int32) (x5 : Int32) (σ : Sg) (h : s_X8_build n x1 x2 x3 x4 x5 σ = some (r, τ)) : τ o j = σ o j := by
  unfold s_X8_build at h
  have q : σ o j = σ o j := rfl
  obtain ⟨v1, -, h⟩ := lt_of h
  have h := (ck_of h).2
  obtain ⟨σ2, e, h⟩ := lt_of h
  have q : σ2 o j = σ o j := by rw [e]; exact (up2_o (fok_a ho (by decide))).trans q
  have h := (ck_of h).2
  obtain ⟨σ3, e, h⟩ := lt_of h
  have q : σ3 o j = σ o j := by rw [e]; exact (up2_o (fok_a ho (by decide))).trans q
  have h := (ck_of h).2
  obtain ⟨σ4, e, h⟩ := lt_of h
  have q : σ4 o j = σ o j := by rw [e]; exact (up2_o (fok_a ho (by decide))).trans q
  have h := (ck_of h).2
  obtain ⟨σ5, e, h⟩ := lt_of h
  have q : σ5 o j = σ o j := by rw [e]; exact (up2_o (fok_a ho (by decide))).trans q
  have h := (ck_of h).2
  obtain ⟨σ6, e, h⟩ := lt_of h
  have q : σ6 o j = σ o j := by rw [e]; exact (up2_o (fok_a ho (by decide))).trans q
  obtain ⟨σ7, e, h⟩ := lt_of h
  have q : σ7 o j = σ o j := by rw [e]; exact (up2_f ho (by decide)).trans q
  exact fr_e2 h q
abbrev W_X8_remember : List (Nat × Option Nat) := [(18, none), (19, none), (20, none), (21, none)]
set_option maxRecDepth 20000 in
theorem fr_s_X8_remember_2b {n o j : Nat} {τ : Sg} (ho : fok W_X8_remember o j = true) (rc2 : Int32 → Sg → Option Sg) (H2 : ∀ (x2 : Int32) (σ : Sg), rc2 x2 σ = some τ → τ o j = σ o j) (x2 : Int32) (σ : Sg) (h : s_X8_remember_2b n rc2 x2 σ = some τ) : τ o j = σ o j := by
  unfold s_X8_remember_2b at h
  have q : σ o j = σ o j := rfl
  rcases ite_of h with h | h
  · exact fr_e1 h q
  · have h := (ck_of h).2
    have h := (ck_of h).2
    have h := (ck_of h).2
    obtain ⟨σ1, e, h⟩ := lt_of h
    have q : σ1 o j = σ o j := by rw [e]; exact (up2_o (fok_a ho (by decide))).trans q
    have h := (ck_of h).2
    have h := (ck_of h).2
    have h := (ck_of h).2
    obtain ⟨σ2, e, h⟩ := lt_of h
    have q : σ2 o j = σ o j := by rw [e]; exact (up2_o (fok_a ho (by decide))).trans q
    have h := (ck_of h).2
    have h := (ck_of h).2
    have h := (ck_of h).2
    obtain ⟨σ3, e, h⟩ := lt_of h
    have q : σ3 o j = σ o j := by rw [e]; exact (up2_o (fok_a ho (by decide))).trans q
    have h := (ck_of h).2
    rcases ite_of h with h | h
    · exact (H2 (x2 + (1 : Int32)) σ3  h).trans q
    · have h := (ck_of h).2
      have h := (ck_of h).2
      obtain ⟨σ4, e, h⟩ := lt_of h
      have q : σ4 o j = σ o j := by rw [e]; exact (up2_o (fok_a ho (by decide))).trans q
      exact (H2 (x2 + (1 : Int32)) σ4  h).trans q
theorem fr_s_X8_remember_2 {n o j : Nat} {τ : Sg} (ho : fok W_X8_remember o j = true) : ∀ (k : Nat) (x2 : Int32) (σ : Sg), s_X8_remember_2 n k x2 σ = some τ → τ o j = σ o j := by
  intro k
  induction k with
  | zero => intro x2 σ  h; cases h
  | succ k ih => intro x2 σ  h; exact fr_s_X8_remember_2b ho  (s_X8_remember_2 n  k) ih x2 σ  h
set_option maxRecDepth 20000 in
theorem fr_s_X8_remember {n o j : Nat} {τ : Sg} (ho : fok W_X8_remember o j = true) (σ : Sg) (h : s_X8_remember n σ = some τ) : τ o j = σ o j := by
  unfold s_X8_remember at h
  have q : σ o j = σ o j := rfl
  exact (fr_s_X8_remember_2 ho  n (0 : Int32) σ  h).trans q
abbrev W_X8_apart : List (Nat × Option Nat) := []
set_option maxRecDepth 20000 in
theorem fr_s_X8_apart_4b {n o j : Nat} {r : Int32} {τ : Sg} (ho : fok W_X8_apart o j = true) (rc4 : Int32 → Int32 → Int32 → Sg → Option (Int32 × Sg)) (H4 : ∀ (x1 : Int32) (x2 : Int32) (x3 : Int32) (σ : Sg), rc4 x1 x2 x3 σ = some (r, τ) → τ o j = σ o j) (x1 : Int32) (x2 : Int32) (x3 : Int32) (σ : Sg) (h : s_X8_apart_4b n rc4 x1 x2 x3 σ = some (r, τ)) : τ o j = σ o j := by
  unfold s_X8_apart_4b at h
  have q : σ o j = σ o j := rfl
  rcases ite_of h with h | h
  · exact fr_e2 h q
  · have h := (ck_of h).2
    rcases ite_of h with h | h
    · obtain ⟨v1, -, h⟩ := lt_of h
      exact (H4 x1 v1 (x3 + (1 : Int32)) σ  h).trans q
    · exact (H4 x1 x2 (x3 + (1 : Int32)) σ  h).trans q
theorem fr_s_X8_apart_4 {n o j : Nat} {r : Int32} {τ : Sg} (ho : fok W_X8_apart o j = true) : ∀ (k : Nat) (x1 : Int32) (x2 : Int32) (x3 : Int32) (σ : Sg), s_X8_apart_4 n k x1 x2 x3 σ = some (r, τ) → τ o j = σ o j := by
  intro k
  induction k with
  | zero => intro x1 x2 x3 σ  h; cases h
  | succ k ih => intro x1 x2 x3 σ  h; exact fr_s_X8_apart_4b ho  (s_X8_apart_4 n  k) ih x1 x2 x3 σ  h
set_option maxRecDepth 20000 in
theorem fr_s_X8_apart {n o j : Nat} {r : Int32} {τ : Sg} (ho : fok W_X8_apart o j = true) (x1 : Int32) (σ : Sg) (h : s_X8_apart n x1 σ = some (r, τ)) : τ o j = σ o j := by
  unfold s_X8_apart at h
  have q : σ o j = σ o j := rfl
  exact (fr_s_X8_apart_4 ho  n x1 (0 : Int32) (0 : Int32) σ  h).trans q
abbrev W_X9_rank : List (Nat × Option Nat) := []
set_option maxRecDepth 20000 in
theorem fr_s_X9_rank {n o j : Nat} {r : Int32} {τ : Sg} (ho : fok W_X9_rank o j = true) (x1 : Int32) (x2 : Int32) (x3 : Nat) (σ : Sg) (h : s_X9_rank n x1 x2 x3 σ = some (r, τ)) : τ o j = σ o j := by
  unfold s_X9_rank at h
  have q : σ o j = σ o j := rfl
  rcases ite_of h with h | h
  · have h := (ck_of h).2
    rcases ite_of h with h | h
    · exact fr_e2 h q
    · exact fr_e2 h q
  · rcases ite_of h with h | h
    · have h := (ck_of h).2
      rcases ite_of h with h | h
      · exact fr_e2 h q
      · exact fr_e2 h q
    · rcases ite_of h with h | h
      · have h := (ck_of h).2
        exact fr_e2 h q
      · have h := (ck_of h).2
        have h := (ck_of h).2
        obtain ⟨v4, -, h⟩ := lt_of h
        rcases ite_of h with h | h
        · exact fr_e2 h q
        · exact fr_e2 h q
abbrev W_X9_isAhead : List (Nat × Option Nat) := []
set_option maxRecDepth 20000 in
theorem fr_s_X9_isAhead_3b {n o j : Nat} {r : Int32} {τ : Sg} (ho : fok W_X9_isAhead o j = true) (rc3 : Int32 → Int32 → Nat → Nat → Int32 → Sg → Option (Int32 × Sg)) (H3 : ∀ (x1 : Int32) (x2 : Int32) (x3 : Nat) (x4 : Nat) (x5 : Int32) (σ : Sg), rc3 x1 x2 x3 x4 x5 σ = some (r, τ) → τ o j = σ o j) (x1 : Int32) (x2 : Int32) (x3 : Nat) (x4 : Nat) (x5 : Int32) (σ : Sg) (h : s_X9_isAhead_3b n rc3 x1 x2 x3 x4 x5 σ = some (r, τ)) : τ o j = σ o j := by
  unfold s_X9_isAhead_3b at h
  have q : σ o j = σ o j := rfl
  rcases ite_of h with h | h
  · exact fr_e2 h q
  · obtain ⟨r2, σ1, g, h⟩ := bd_of h
    have q : σ1 o j = σ o j := (fr_s_X2_key rfl _ _ _ g).trans q
    obtain ⟨r4, σ3, g, h⟩ := bd_of h
    have q : σ3 o j = σ o j := (fr_s_X9_rank rfl _ _ _ _ g).trans q
    obtain ⟨r6, σ5, g, h⟩ := bd_of h
    have q : σ5 o j = σ o j := (fr_s_X9_rank rfl _ _ _ _ g).trans q
    obtain ⟨v7, -, h⟩ := lt_of h
    rcases ite_of h with h | h
    · exact (H3 x1 x2 x3 x4 (x5 + (1 : Int32)) σ5  h).trans q
    · rcases ite_of h with h | h
      · exact fr_e2 h q
      · exact fr_e2 h q
theorem fr_s_X9_isAhead_3 {n o j : Nat} {r : Int32} {τ : Sg} (ho : fok W_X9_isAhead o j = true) : ∀ (k : Nat) (x1 : Int32) (x2 : Int32) (x3 : Nat) (x4 : Nat) (x5 : Int32) (σ : Sg), s_X9_isAhead_3 n k x1 x2 x3 x4 x5 σ = some (r, τ) → τ o j = σ o j := by
  intro k
  induction k with
  | zero => intro x1 x2 x3 x4 x5 σ  h; cases h
  | succ k ih => intro x1 x2 x3 x4 x5 σ  h; exact fr_s_X9_isAhead_3b ho  (s_X9_isAhead_3 n  k) ih x1 x2 x3 x4 x5 σ  h
set_option maxRecDepth 20000 in
theorem fr_s_X9_isAhead {n o j : Nat} {r : Int32} {τ : Sg} (ho : fok W_X9_isAhead o j = true) (x1 : Int32) (x2 : Int32) (x3 : Nat) (x4 : Nat) (σ : Sg) (h : s_X9_isAhead n x1 x2 x3 x4 σ = some (r, τ)) : τ o j = σ o j := by
  unfold s_X9_isAhead at h
  have q : σ o j = σ o j := rfl
  exact (fr_s_X9_isAhead_3 ho  n x1 x2 x3 x4 (0 : Int32) σ  h).trans q
abbrev W_X9_queueUp : List (Nat × Option Nat) := [(39, some 9), (45, none)]
set_option maxRecDepth 20000 in
theorem fr_s_X9_queueUp_52 {n o j : Nat} {τ : Sg} (ho : fok W_X9_queueUp o j = true) (x1 : Int32) (x4 : Int32) (σ : Sg) (h : s_X9_queueUp_52 n x1 x4 σ = some τ) : τ o j = σ o j := by
  unfold s_X9_queueUp_52 at h
  have q : σ o j = σ o j := rfl
  have h := (ck_of h).2
  obtain ⟨σ5, e, h⟩ := lt_of h
  have q : σ5 o j = σ o j := by rw [e]; exact (up2_o (fok_a ho (by decide))).trans q
  obtain ⟨σ6, e, h⟩ := lt_of h
  have q : σ6 o j = σ o j := by rw [e]; exact (up2_f ho (by decide)).trans q
  exact fr_e1 h q
set_option maxRecDepth 20000 in
theorem fr_s_X9_queueUp_6b {n o j : Nat} {τ : Sg} (ho : fok W_X9_queueUp o j = true) (rc6 : Int32 → Nat → Nat → Int32 → Sg → Option Sg) (H6 : ∀ (x1 : Int32) (x2 : Nat) (x3 : Nat) (x4 : Int32) (σ : Sg), rc6 x1 x2 x3 x4 σ = some τ → τ o j = σ o j) (x1 : Int32) (x2 : Nat) (x3 : Nat) (x4 : Int32) (σ : Sg) (h : s_X9_queueUp_6b n rc6 x1 x2 x3 x4 σ = some τ) : τ o j = σ o j := by
  unfold s_X9_queueUp_6b at h
  have q : σ o j = σ o j := rfl
  rcases ite_of h with h | h
  · exact (fr_s_X9_queueUp_52 ho  x1 x4 σ  h).trans q
  · have h := (ck_of h).2
    obtain ⟨r3, σ2, g, h⟩ := bd_of h
    have q : σ2 o j = σ o j := (fr_s_X9_isAhead rfl _ _ _ _ _ g).trans q
    rcases ite_of h with h | h
    · exact (fr_s_X9_queueUp_52 ho  x1 x4 σ2  h).trans q
    · have h := (ck_of h).2
      have h := (ck_of h).2
      obtain ⟨σ4, e, h⟩ := lt_of h
      have q : σ4 o j = σ o j := by rw [e]; exact (up2_o (fok_a ho (by decide))).trans q
      exact (H6 x1 x2 x3 (x4 + (-1 : Int32)) σ4  h).trans q
theorem fr_s_X9_queueUp_6 {n o j : Nat} {τ : Sg} (ho : fok W_X9_queueUp o j = true) : ∀ (k : Nat) (x1 : Int32) (x2 : Nat) (x3 : Nat) (x4 : Int32) (σ : Sg), s_X9_queueUp_6 n k x1 x2 x3 x4 σ = some τ → τ o j = σ o j := by
  intro k
  induction k with
  | zero => intro x1 x2 x3 x4 σ  h; cases h
  | succ k ih => intro x1 x2 x3 x4 σ  h; exact fr_s_X9_queueUp_6b ho  (s_X9_queueUp_6 n  k) ih x1 x2 x3 x4 σ  h
set_option maxRecDepth 20000 in
theorem fr_s_X9_queueUp {n o j : Nat} {τ : Sg} (ho : fok W_X9_queueUp o j = true) (x1 : Int32) (x2 : Nat) (x3 : Nat) (σ : Sg) (h : s_X9_queueUp n x1 x2 x3 σ = some τ) : τ o j = σ o j := by
  unfold s_X9_queueUp at h
  have q : σ o j = σ o j := rfl
  obtain ⟨v1, -, h⟩ := lt_of h
  exact (fr_s_X9_queueUp_6 ho  n x1 x2 x3 v1 σ  h).trans q
abbrev W_X9_ask : List (Nat × Option Nat) := [(10, none), (39, some 9), (41, none), (42, none), (45, none)]
set_option maxRecDepth 20000 in
theorem fr_s_X9_ask_148 {n o j : Nat} {τ : Sg} (ho : fok W_X9_ask o j = true) (rc38 : Nat → Nat → Int32 → Int32 → Sg → Option Sg) (H38 : ∀ (x1 : Nat) (x2 : Nat) (x4 : Int32) (x5 : Int32) (σ : Sg), rc38 x1 x2 x4 x5 σ = some τ → τ o j = σ o j) (x1 : Nat) (x2 : Nat) (x4 : Int32) (x5 : Int32) (σ : Sg) (h : s_X9_ask_148 n rc38 x1 x2 x4 x5 σ = some τ) : τ o j = σ o j := by
  unfold s_X9_ask_148 at h
  have q : σ o j = σ o j := rfl
  obtain ⟨σ11, g, h⟩ := bdv_of h
  have q : σ11 o j = σ o j := (fr_s_X9_queueUp (fok_sub ho (by decide)) _ _ _ _  g).trans q
  exact (H38 x1 x2 x4 (x5 + (1 : Int32)) σ11  h).trans q
set_option maxRecDepth 20000 in
theorem fr_s_X9_ask_82 {n o j : Nat} {τ : Sg} (ho : fok W_X9_ask o j = true) (rc38 : Nat → Nat → Int32 → Int32 → Sg → Option Sg) (H38 : ∀ (x1 : Nat) (x2 : Nat) (x4 : Int32) (x5 : Int32) (σ : Sg), rc38 x1 x2 x4 x5 σ = some τ → τ o j = σ o j) (x1 : Nat) (x2 : Nat) (x4 : Int32) (x5 : Int32) (σ : Sg) (h : s_X9_ask_82 n rc38 x1 x2 x4 x5 σ = some τ) : τ o j = σ o j := by
  unfold s_X9_ask_82 at h
  have q : σ o j = σ o j := rfl
  have h := (ck_of h).2
  have h := (ck_of h).2
  have h := (ck_of h).2
  obtain ⟨σ9, e, h⟩ := lt_of h
  have q : σ9 o j = σ o j := by rw [e]; exact (up2_o (fok_a ho (by decide))).trans q
  have h := (ck_of h).2
  rcases ite_of h with h | h
  · have h := (ck_of h).2
    have h := (ck_of h).2
    have h := (ck_of h).2
    have h := (ck_of h).2
    obtain ⟨σ10, e, h⟩ := lt_of h
    have q : σ10 o j = σ o j := by rw [e]; exact (up2_o (fok_a ho (by decide))).trans q
    exact (fr_s_X9_ask_148 ho rc38 H38 x1 x2 x4 x5 σ10  h).trans q
  · exact (fr_s_X9_ask_148 ho rc38 H38 x1 x2 x4 x5 σ9  h).trans q
set_option maxRecDepth 20000 in
theorem fr_s_X9_ask_38b {n o j : Nat} {τ : Sg} (ho : fok W_X9_ask o j = true) (rc38 : Nat → Nat → Int32 → Int32 → Sg → Option Sg) (H38 : ∀ (x1 : Nat) (x2 : Nat) (x4 : Int32) (x5 : Int32) (σ : Sg), rc38 x1 x2 x4 x5 σ = some τ → τ o j = σ o j) (x1 : Nat) (x2 : Nat) (x4 : Int32) (x5 : Int32) (σ : Sg) (h : s_X9_ask_38b n rc38 x1 x2 x4 x5 σ = some τ) : τ o j = σ o j := by
  unfold s_X9_ask_38b at h
  have q : σ o j = σ o j := rfl
  rcases ite_of h with h | h
  · exact fr_e1 h q
  · have h := (ck_of h).2
    obtain ⟨σ7, e, h⟩ := lt_of h
    have q : σ7 o j = σ o j := by rw [e]; exact (up2_o (fok_a ho (by decide))).trans q
    have h := (ck_of h).2
    obtain ⟨σ8, e, h⟩ := lt_of h
    have q : σ8 o j = σ o j := by rw [e]; exact (up2_o (fok_a ho (by decide))).trans q
    have h := (ck_of h).2
    rcases ite_of h with h | h
    · exact (fr_s_X9_ask_82 ho rc38 H38 x1 x2 x4 x5 σ8  h).trans q
    · rcases ite_of h with h | h
      · exact (H38 x1 x2 x4 (x5 + (1 : Int32)) σ8  h).trans q
      · exact (fr_s_X9_ask_82 ho rc38 H38 x1 x2 x4 x5 σ8  h).trans q
theorem fr_s_X9_ask_38 {n o j : Nat} {τ : Sg} (ho : fok W_X9_ask o j = true) : ∀ (k : Nat) (x1 : Nat) (x2 : Nat) (x4 : Int32) (x5 : Int32) (σ : Sg), s_X9_ask_38 n k x1 x2 x4 x5 σ = some τ → τ o j = σ o j := by
  intro k
  induction k with
  | zero => intro x1 x2 x4 x5 σ  h; cases h
  | succ k ih => intro x1 x2 x4 x5 σ  h; exact fr_s_X9_ask_38b ho  (s_X9_ask_38 n  k) ih x1 x2 x4 x5 σ  h
set_option maxRecDepth 20000 in
theorem fr_s_X9_ask_23 {n o j : Nat} {τ : Sg} (ho : fok W_X9_ask o j = true) (x1 : Nat) (x2 : Nat) (x3 : Int32) (σ : Sg) (h : s_X9_ask_23 n x1 x2 x3 σ = some τ) : τ o j = σ o j := by
  unfold s_X9_ask_23 at h
  have q : σ o j = σ o j := rfl
  obtain ⟨r5, σ4, g, h⟩ := bd_of h
  have q : σ4 o j = σ o j := (fr_s_X2_isTurnHour rfl _ _ _ g).trans q
  obtain ⟨σ6, e, h⟩ := lt_of h
  have q : σ6 o j = σ o j := by rw [e]; exact (up2_f ho (by decide)).trans q
  exact (fr_s_X9_ask_38 ho  n x1 x2 r5 (0 : Int32) σ6  h).trans q
set_option maxRecDepth 20000 in
theorem fr_s_X9_ask {n o j : Nat} {τ : Sg} (ho : fok W_X9_ask o j = true) (x1 : Nat) (x2 : Nat) (x3 : Int32) (σ : Sg) (h : s_X9_ask n x1 x2 x3 σ = some τ) : τ o j = σ o j := by
  unfold s_X9_ask at h
  have q : σ o j = σ o j := rfl
  obtain ⟨r2, σ1, g, h⟩ := bd_of h
  have q : σ1 o j = σ o j := (fr_s_X2_hasKey rfl _ _ _ g).trans q
  rcases ite_of h with h | h
  · exact (fr_s_X9_ask_23 ho  x1 x2 x3 σ1  h).trans q
  · obtain ⟨σ3, g, h⟩ := bdv_of h
    have q : σ3 o j = σ o j := (fr_s_X4_measure (fok_sub ho (by decide)) _ _ _  g).trans q
    exact (fr_s_X9_ask_23 ho  x1 x2 x3 σ3  h).trans q
abbrev W_X9_begin : List (Nat × Option Nat) := [(39, some 10), (47, none), (48, none), (49, none), (50, none)]
set_option maxRecDepth 20000 in
theorem fr_s_X9_begin_27b {n o j : Nat} {τ : Sg} (ho : fok W_X9_begin o j = true) (rc27 : Int32 → Sg → Option Sg) (H27 : ∀ (x4 : Int32) (σ : Sg), rc27 x4 σ = some τ → τ o j = σ o j) (x4 : Int32) (σ : Sg) (h : s_X9_begin_27b n rc27 x4 σ = some τ) : τ o j = σ o j := by
  unfold s_X9_begin_27b at h
  have q : σ o j = σ o j := rfl
  rcases ite_of h with h | h
  · exact fr_e1 h q
  · obtain ⟨r4, σ3, g, h⟩ := bd_of h
    have q : σ3 o j = σ o j := (fr_s_X4_isOpen rfl _ _ g).trans q
    rcases ite_of h with h | h
    · exact (H27 (x4 + (1 : Int32)) σ3  h).trans q
    · have h := (ck_of h).2
      have h := (ck_of h).2
      obtain ⟨r6, σ5, g, h⟩ := bd_of h
      have q : σ5 o j = σ o j := (fr_s_X3_send (fok_sub ho (by decide)) _ _ _  g).trans q
      obtain ⟨σ7, e, h⟩ := lt_of h
      have q : σ7 o j = σ o j := by rw [e]; exact (up2_f ho (by decide)).trans q
      exact (H27 (x4 + (1 : Int32)) σ7  h).trans q
theorem fr_s_X9_begin_27 {n o j : Nat} {τ : Sg} (ho : fok W_X9_begin o j = true) : ∀ (k : Nat) (x4 : Int32) (σ : Sg), s_X9_begin_27 n k x4 σ = some τ → τ o j = σ o j := by
  intro k
  induction k with
  | zero => intro x4 σ  h; cases h
  | succ k ih => intro x4 σ  h; exact fr_s_X9_begin_27b ho  (s_X9_begin_27 n  k) ih x4 σ  h
set_option maxRecDepth 20000 in
theorem fr_s_X9_begin {n o j : Nat} {τ : Sg} (ho : fok W_X9_begin o j = true) (x1 : Int32) (x2 : Int32) (x3 : Int32) (σ : Sg) (h : s_X9_begin n x1 x2 x3 σ = some τ) : τ o j = σ o j := by
  unfold s_X9_begin at h
  have q : σ o j = σ o j := rfl
  have h := (ck_of h).2
  obtain ⟨σ1, g, h⟩ := bdv_of h
  have q : σ1 o j = σ o j := (fr_s_X3_begin (fok_sub ho (by decide)) _ _ _ _  g).trans q
  obtain ⟨σ2, e, h⟩ := lt_of h
  have q : σ2 o j = σ o j := by rw [e]; exact (up2_f ho (by decide)).trans q
  exact (fr_s_X9_begin_27 ho  n (0 : Int32) σ2  h).trans q
abbrev W_X9_serve : List (Nat × Option Nat) := [(42, none), (47, none), (48, none), (49, none), (50, none)]
set_option maxRecDepth 20000 in
theorem fr_s_X9_serve_2b {n o j : Nat} {τ : Sg} (ho : fok W_X9_serve o j = true) (rc2 : Int32 → Sg → Option Sg) (H2 : ∀ (x1 : Int32) (σ : Sg), rc2 x1 σ = some τ → τ o j = σ o j) (x1 : Int32) (σ : Sg) (h : s_X9_serve_2b n rc2 x1 σ = some τ) : τ o j = σ o j := by
  unfold s_X9_serve_2b at h
  have q : σ o j = σ o j := rfl
  rcases ite_of h with h | h
  · exact fr_e1 h q
  · have h := (ck_of h).2
    obtain ⟨v1, -, h⟩ := lt_of h
    have h := (ck_of h).2
    have h := (ck_of h).2
    obtain ⟨r3, σ2, g, h⟩ := bd_of h
    have q : σ2 o j = σ o j := (fr_s_X3_send (fok_sub ho (by decide)) _ _ _  g).trans q
    have h := (ck_of h).2
    obtain ⟨σ4, e, h⟩ := lt_of h
    have q : σ4 o j = σ o j := by rw [e]; exact (up2_o (fok_a ho (by decide))).trans q
    exact (H2 (x1 + (1 : Int32)) σ4  h).trans q
theorem fr_s_X9_serve_2 {n o j : Nat} {τ : Sg} (ho : fok W_X9_serve o j = true) : ∀ (k : Nat) (x1 : Int32) (σ : Sg), s_X9_serve_2 n k x1 σ = some τ → τ o j = σ o j := by
  intro k
  induction k with
  | zero => intro x1 σ  h; cases h
  | succ k ih => intro x1 σ  h; exact fr_s_X9_serve_2b ho  (s_X9_serve_2 n  k) ih x1 σ  h
set_option maxRecDepth 20000 in
theorem fr_s_X9_serve {n o j : Nat} {τ : Sg} (ho : fok W_X9_serve o j = true) (σ : Sg) (h : s_X9_serve n σ = some τ) : τ o j = σ o j := by
  unfold s_X9_serve at h
  have q : σ o j = σ o j := rfl
  exact (fr_s_X9_serve_2 ho  n (0 : Int32) σ  h).trans q
abbrev W_X9_settle : List (Nat × Option Nat) := [(43, none), (44, none)]
set_option maxRecDepth 20000 in
theorem fr_s_X9_settle_88 {n o j : Nat} {τ : Sg} (ho : fok W_X9_settle o j = true) (rc2 : Nat → Int32 → Sg → Option Sg) (H2 : ∀ (x1 : Nat) (x2 : Int32) (σ : Sg), o ≠ rf x1 1 → rc2 x1 x2 σ = some τ → τ o j = σ o j) (x1 : Nat) (x2 : Int32) (x4 : Int32) (σ : Sg) (hv_rf_x1_1 : o ≠ rf x1 1) (h : s_X9_settle_88 n rc2 x1 x2 x4 σ = some τ) : τ o j = σ o j := by
  unfold s_X9_settle_88 at h
  have q : σ o j = σ o j := rfl
  have h := (ck_of h).2
  obtain ⟨v5, -, h⟩ := lt_of h
  have h := (ck_of h).2
  obtain ⟨v6, -, h⟩ := lt_of h
  have h := (ck_of h).2
  have h := (ck_of h).2
  obtain ⟨σ7, e, h⟩ := lt_of h
  have q : σ7 o j = σ o j := by rw [e]; exact (up2_o hv_rf_x1_1).trans q
  have h := (ck_of h).2
  obtain ⟨σ8, e, h⟩ := lt_of h
  have q : σ8 o j = σ o j := by rw [e]; exact (up2_o (fok_a ho (by decide))).trans q
  exact (H2 x1 (x2 + (1 : Int32)) σ8 hv_rf_x1_1 h).trans q
set_option maxRecDepth 20000 in
theorem fr_s_X9_settle_2b {n o j : Nat} {τ : Sg} (ho : fok W_X9_settle o j = true) (rc2 : Nat → Int32 → Sg → Option Sg) (H2 : ∀ (x1 : Nat) (x2 : Int32) (σ : Sg), o ≠ rf x1 1 → rc2 x1 x2 σ = some τ → τ o j = σ o j) (x1 : Nat) (x2 : Int32) (σ : Sg) (hv_rf_x1_1 : o ≠ rf x1 1) (h : s_X9_settle_2b n rc2 x1 x2 σ = some τ) : τ o j = σ o j := by
  unfold s_X9_settle_2b at h
  have q : σ o j = σ o j := rfl
  rcases ite_of h with h | h
  · exact fr_e1 h q
  · have h := (ck_of h).2
    have h := (ck_of h).2
    have h := (ck_of h).2
    obtain ⟨σ1, e, h⟩ := lt_of h
    have q : σ1 o j = σ o j := by rw [e]; exact (up2_o (fok_a ho (by decide))).trans q
    have h := (ck_of h).2
    have h := (ck_of h).2
    obtain ⟨v2, -, h⟩ := lt_of h
    have h := (ck_of h).2
    obtain ⟨v3, -, h⟩ := lt_of h
    have h := (ck_of h).2
    rcases ite_of h with h | h
    · have h := (ck_of h).2
      have h := (ck_of h).2
      obtain ⟨σ4, e, h⟩ := lt_of h
      have q : σ4 o j = σ o j := by rw [e]; exact (up2_o hv_rf_x1_1).trans q
      exact (fr_s_X9_settle_88 ho rc2 H2 x1 x2 v3 σ4 hv_rf_x1_1 h).trans q
    · exact (fr_s_X9_settle_88 ho rc2 H2 x1 x2 v3 σ1 hv_rf_x1_1 h).trans q
theorem fr_s_X9_settle_2 {n o j : Nat} {τ : Sg} (ho : fok W_X9_settle o j = true) : ∀ (k : Nat) (x1 : Nat) (x2 : Int32) (σ : Sg), o ≠ rf x1 1 → s_X9_settle_2 n k x1 x2 σ = some τ → τ o j = σ o j := by
  intro k
  induction k with
  | zero => intro x1 x2 σ hv_rf_x1_1 h; cases h
  | succ k ih => intro x1 x2 σ hv_rf_x1_1 h; exact fr_s_X9_settle_2b ho  (s_X9_settle_2 n  k) ih x1 x2 σ hv_rf_x1_1 h
set_option maxRecDepth 20000 in
theorem fr_s_X9_settle {n o j : Nat} {τ : Sg} (ho : fok W_X9_settle o j = true) (x1 : Nat) (σ : Sg) (hv_rf_x1_1 : o ≠ rf x1 1) (h : s_X9_settle n x1 σ = some τ) : τ o j = σ o j := by
  unfold s_X9_settle at h
  have q : σ o j = σ o j := rfl
  exact (fr_s_X9_settle_2 ho  n x1 (0 : Int32) σ hv_rf_x1_1 h).trans q
abbrev W_X9_someDry : List (Nat × Option Nat) := []
set_option maxRecDepth 20000 in
theorem fr_s_X9_someDry_2b {n o j : Nat} {r : Int32} {τ : Sg} (ho : fok W_X9_someDry o j = true) (rc2 : Nat → Int32 → Int32 → Sg → Option (Int32 × Sg)) (H2 : ∀ (x1 : Nat) (x2 : Int32) (x3 : Int32) (σ : Sg), rc2 x1 x2 x3 σ = some (r, τ) → τ o j = σ o j) (x1 : Nat) (x2 : Int32) (x3 : Int32) (σ : Sg) (h : s_X9_someDry_2b n rc2 x1 x2 x3 σ = some (r, τ)) : τ o j = σ o j := by
  unfold s_X9_someDry_2b at h
  have q : σ o j = σ o j := rfl
  rcases ite_of h with h | h
  · exact fr_e2 h q
  · have h := (ck_of h).2
    rcases ite_of h with h | h
    · exact (H2 x1 x2 (x3 + (1 : Int32)) σ  h).trans q
    · rcases ite_of h with h | h
      · exact fr_e2 h q
      · have h := (ck_of h).2
        rcases ite_of h with h | h
        · exact fr_e2 h q
        · exact (H2 x1 x2 (x3 + (1 : Int32)) σ  h).trans q
theorem fr_s_X9_someDry_2 {n o j : Nat} {r : Int32} {τ : Sg} (ho : fok W_X9_someDry o j = true) : ∀ (k : Nat) (x1 : Nat) (x2 : Int32) (x3 : Int32) (σ : Sg), s_X9_someDry_2 n k x1 x2 x3 σ = some (r, τ) → τ o j = σ o j := by
  intro k
  induction k with
  | zero => intro x1 x2 x3 σ  h; cases h
  | succ k ih => intro x1 x2 x3 σ  h; exact fr_s_X9_someDry_2b ho  (s_X9_someDry_2 n  k) ih x1 x2 x3 σ  h
set_option maxRecDepth 20000 in
theorem fr_s_X9_someDry {n o j : Nat} {r : Int32} {τ : Sg} (ho : fok W_X9_someDry o j = true) (x1 : Nat) (x2 : Int32) (σ : Sg) (h : s_X9_someDry n x1 x2 σ = some (r, τ)) : τ o j = σ o j := by
  unfold s_X9_someDry at h
  have q : σ o j = σ o j := rfl
  exact (fr_s_X9_someDry_2 ho  n x1 x2 (0 : Int32) σ  h).trans q
abbrev W_X9_gotByAll : List (Nat × Option Nat) := []
set_option maxRecDepth 20000 in
theorem fr_s_X9_gotByAll_4b {n o j : Nat} {r : Int32} {τ : Sg} (ho : fok W_X9_gotByAll o j = true) (rc4 : Int32 → Int32 → Sg → Option (Int32 × Sg)) (H4 : ∀ (x1 : Int32) (x2 : Int32) (σ : Sg), rc4 x1 x2 σ = some (r, τ) → τ o j = σ o j) (x1 : Int32) (x2 : Int32) (σ : Sg) (h : s_X9_gotByAll_4b n rc4 x1 x2 σ = some (r, τ)) : τ o j = σ o j := by
  unfold s_X9_gotByAll_4b at h
  have q : σ o j = σ o j := rfl
  rcases ite_of h with h | h
  · exact fr_e2 h q
  · have h := (ck_of h).2
    obtain ⟨v1, -, h⟩ := lt_of h
    exact (H4 v1 (x2 + (1 : Int32)) σ  h).trans q
theorem fr_s_X9_gotByAll_4 {n o j : Nat} {r : Int32} {τ : Sg} (ho : fok W_X9_gotByAll o j = true) : ∀ (k : Nat) (x1 : Int32) (x2 : Int32) (σ : Sg), s_X9_gotByAll_4 n k x1 x2 σ = some (r, τ) → τ o j = σ o j := by
  intro k
  induction k with
  | zero => intro x1 x2 σ  h; cases h
  | succ k ih => intro x1 x2 σ  h; exact fr_s_X9_gotByAll_4b ho  (s_X9_gotByAll_4 n  k) ih x1 x2 σ  h
set_option maxRecDepth 20000 in
theorem fr_s_X9_gotByAll {n o j : Nat} {r : Int32} {τ : Sg} (ho : fok W_X9_gotByAll o j = true) (σ : Sg) (h : s_X9_gotByAll n σ = some (r, τ)) : τ o j = σ o j := by
  unfold s_X9_gotByAll at h
  have q : σ o j = σ o j := rfl
  exact (fr_s_X9_gotByAll_4 ho  n (0 : Int32) (0 : Int32) σ  h).trans q
abbrev W_X9_gotLessThan : List (Nat × Option Nat) := []
set_option maxRecDepth 20000 in
theorem fr_s_X9_gotLessThan_4b {n o j : Nat} {r : Int32} {τ : Sg} (ho : fok W_X9_gotLessThan o j = true) (rc4 : Int32 → Int32 → Sg → Option (Int32 × Sg)) (H4 : ∀ (x2 : Int32) (x3 : Int32) (σ : Sg), rc4 x2 x3 σ = some (r, τ) → τ o j = σ o j) (x2 : Int32) (x3 : Int32) (σ : Sg) (h : s_X9_gotLessThan_4b n rc4 x2 x3 σ = some (r, τ)) : τ o j = σ o j := by
  unfold s_X9_gotLessThan_4b at h
  have q : σ o j = σ o j := rfl
  rcases ite_of h with h | h
  · exact fr_e2 h q
  · have h := (ck_of h).2
    have h := (ck_of h).2
    rcases ite_of h with h | h
    · exact (H4 x2 (x3 + (1 : Int32)) σ  h).trans q
    · obtain ⟨v1, -, h⟩ := lt_of h
      exact (H4 v1 (x3 + (1 : Int32)) σ  h).trans q
theorem fr_s_X9_gotLessThan_4 {n o j : Nat} {r : Int32} {τ : Sg} (ho : fok W_X9_gotLessThan o j = true) : ∀ (k : Nat) (x2 : Int32) (x3 : Int32) (σ : Sg), s_X9_gotLessThan_4 n k x2 x3 σ = some (r, τ) → τ o j = σ o j := by
  intro k
  induction k with
  | zero => intro x2 x3 σ  h; cases h
  | succ k ih => intro x2 x3 σ  h; exact fr_s_X9_gotLessThan_4b ho  (s_X9_gotLessThan_4 n  k) ih x2 x3 σ  h
set_option maxRecDepth 20000 in
theorem fr_s_X9_gotLessThan {n o j : Nat} {r : Int32} {τ : Sg} (ho : fok W_X9_gotLessThan o j = true) (σ : Sg) (h : s_X9_gotLessThan n σ = some (r, τ)) : τ o j = σ o j := by
  unfold s_X9_gotLessThan at h
  have q : σ o j = σ o j := rfl
  exact (fr_s_X9_gotLessThan_4 ho  n (0 : Int32) (0 : Int32) σ  h).trans q
abbrev W_X10_dryOfDay : List (Nat × Option Nat) := [(10, none), (39, some 9), (39, some 10), (41, none), (42, none), (43, none), (44, none), (45, none), (47, none), (48, none), (49, none), (50, none), (58, none)]
set_option maxRecDepth 20000 in
theorem fr_s_X10_dryOfDay_6b {n o j : Nat} {r : Int32} {τ : Sg} (ho : fok W_X10_dryOfDay o j = true) (rc6 : Int32 → Int32 → Int32 → Int32 → Int32 → Int32 → Sg → Option (Int32 × Sg)) (H6 : ∀ (x1 : Int32) (x2 : Int32) (x3 : Int32) (x4 : Int32) (x5 : Int32) (x6 : Int32) (σ : Sg), rc6 x1 x2 x3 x4 x5 x6 σ = some (r, τ) → τ o j = σ o j) (x1 : Int32) (x2 : Int32) (x3 : Int32) (x4 : Int32) (x5 : Int32) (x6 : Int32) (σ : Sg) (h : s_X10_dryOfDay_6b n rc6 x1 x2 x3 x4 x5 x6 σ = some (r, τ)) : τ o j = σ o j := by
  unfold s_X10_dryOfDay_6b at h
  have q : σ o j = σ o j := rfl
  rcases ite_of h with h | h
  · exact fr_e2 h q
  · obtain ⟨σ1, g, h⟩ := bdv_of h
    have q : σ1 o j = σ o j := (fr_s_X9_ask (fok_sub ho (by decide)) _ _ _ _  g).trans q
    obtain ⟨σ2, g, h⟩ := bdv_of h
    have q : σ2 o j = σ o j := (fr_s_X9_begin (fok_sub ho (by decide)) _ _ _ _  g).trans q
    obtain ⟨σ3, g, h⟩ := bdv_of h
    have q : σ3 o j = σ o j := (fr_s_X9_serve (fok_sub ho (by decide)) _  g).trans q
    obtain ⟨σ4, g, h⟩ := bdv_of h
    have q : σ4 o j = σ o j := (fr_s_X9_settle (fok_sub ho (by decide)) _ _ (by rw [show rf 56 1 = 58 from by decide]; exact fok_a ho (by decide)) g).trans q
    obtain ⟨r6, σ5, g, h⟩ := bd_of h
    have q : σ5 o j = σ o j := (fr_s_X9_someDry rfl _ _ _ g).trans q
    rcases ite_of h with h | h
    · exact (H6 x1 x2 x3 x4 x5 (x6 + (1 : Int32)) σ5  h).trans q
    · exact (H6 x1 x2 x3 x4 (x5 + (1 : Int32)) (x6 + (1 : Int32)) σ5  h).trans q
theorem fr_s_X10_dryOfDay_6 {n o j : Nat} {r : Int32} {τ : Sg} (ho : fok W_X10_dryOfDay o j = true) : ∀ (k : Nat) (x1 : Int32) (x2 : Int32) (x3 : Int32) (x4 : Int32) (x5 : Int32) (x6 : Int32) (σ : Sg), s_X10_dryOfDay_6 n k x1 x2 x3 x4 x5 x6 σ = some (r, τ) → τ o j = σ o j := by
  intro k
  induction k with
  | zero => intro x1 x2 x3 x4 x5 x6 σ  h; cases h
  | succ k ih => intro x1 x2 x3 x4 x5 x6 σ  h; exact fr_s_X10_dryOfDay_6b ho  (s_X10_dryOfDay_6 n  k) ih x1 x2 x3 x4 x5 x6 σ  h
set_option maxRecDepth 20000 in
theorem fr_s_X10_dryOfDay {n o j : Nat} {r : Int32} {τ : Sg} (ho : fok W_X10_dryOfDay o j = true) (x1 : Int32) (x2 : Int32) (x3 : Int32) (x4 : Int32) (σ : Sg) (h : s_X10_dryOfDay n x1 x2 x3 x4 σ = some (r, τ)) : τ o j = σ o j := by
  unfold s_X10_dryOfDay at h
  have q : σ o j = σ o j := rfl
  exact (fr_s_X10_dryOfDay_6 ho  n x1 x2 x3 x4 (0 : Int32) (0 : Int32) σ  h).trans q
abbrev W_X10_dryAgain : List (Nat × Option Nat) := [(10, none), (39, some 9), (39, some 10), (41, none), (42, none), (43, none), (44, none), (45, none), (47, none), (48, none), (49, none), (50, none), (57, none), (58, none), (61, none), (62, none)]
set_option maxRecDepth 20000 in
theorem fr_s_X10_dryAgain_91 {n o j : Nat} {r : Int32} {τ : Sg} (ho : fok W_X10_dryAgain o j = true) (rc17 : Int32 → Int32 → Int32 → Int32 → Int32 → Int32 → Sg → Option (Int32 × Sg)) (H17 : ∀ (x2 : Int32) (x3 : Int32) (x4 : Int32) (x5 : Int32) (x6 : Int32) (x7 : Int32) (σ : Sg), rc17 x2 x3 x4 x5 x6 x7 σ = some (r, τ) → τ o j = σ o j) (x2 : Int32) (x3 : Int32) (x4 : Int32) (x5 : Int32) (x6 : Int32) (x7 : Int32) (x8 : Int32) (y0 : Int32) (σ : Sg) (h : s_X10_dryAgain_91 n rc17 x2 x3 x4 x5 x6 x7 x8 y0 σ = some (r, τ)) : τ o j = σ o j := by
  unfold s_X10_dryAgain_91 at h
  have q : σ o j = σ o j := rfl
  rcases ite_of h with h | h
  · obtain ⟨σ11, g, h⟩ := bdv_of h
    have q : σ11 o j = σ o j := (fr_s_X7_takeCisterns (fok_sub ho (by decide)) _ _ _ (by rw [show rf 59 1 = 61 from by decide]; exact fok_a ho (by decide)) g).trans q
    obtain ⟨σ12, g, h⟩ := bdv_of h
    have q : σ12 o j = σ o j := (fr_s_X6_hold (fok_sub ho (by decide)) _ _ _ (fok_a ho (by decide)) g).trans q
    obtain ⟨r14, σ13, g, h⟩ := bd_of h
    have q : σ13 o j = σ o j := (fr_s_X10_dryOfDay (fok_sub ho (by decide)) _ _ _ _ _  g).trans q
    obtain ⟨v15, -, h⟩ := lt_of h
    exact (H17 x2 x3 x4 v15 r14 (x7 + (1 : Int32)) σ13  h).trans q
  · obtain ⟨v10, -, h⟩ := lt_of h
    exact (H17 x2 x3 x4 v10 x6 (x7 + (1 : Int32)) σ  h).trans q
set_option maxRecDepth 20000 in
theorem fr_s_X10_dryAgain_90 {n o j : Nat} {r : Int32} {τ : Sg} (ho : fok W_X10_dryAgain o j = true) (rc17 : Int32 → Int32 → Int32 → Int32 → Int32 → Int32 → Sg → Option (Int32 × Sg)) (H17 : ∀ (x2 : Int32) (x3 : Int32) (x4 : Int32) (x5 : Int32) (x6 : Int32) (x7 : Int32) (σ : Sg), rc17 x2 x3 x4 x5 x6 x7 σ = some (r, τ) → τ o j = σ o j) (x2 : Int32) (x3 : Int32) (x4 : Int32) (x5 : Int32) (x6 : Int32) (x7 : Int32) (x8 : Int32) (σ : Sg) (h : s_X10_dryAgain_90 n rc17 x2 x3 x4 x5 x6 x7 x8 σ = some (r, τ)) : τ o j = σ o j := by
  unfold s_X10_dryAgain_90 at h
  have q : σ o j = σ o j := rfl
  exact (fr_s_X10_dryAgain_91 ho rc17 H17 x2 x3 x4 x5 x6 x7 x8 (0 : Int32) σ  h).trans q
set_option maxRecDepth 20000 in
theorem fr_s_X10_dryAgain_17b {n o j : Nat} {r : Int32} {τ : Sg} (ho : fok W_X10_dryAgain o j = true) (rc17 : Int32 → Int32 → Int32 → Int32 → Int32 → Int32 → Sg → Option (Int32 × Sg)) (H17 : ∀ (x2 : Int32) (x3 : Int32) (x4 : Int32) (x5 : Int32) (x6 : Int32) (x7 : Int32) (σ : Sg), rc17 x2 x3 x4 x5 x6 x7 σ = some (r, τ) → τ o j = σ o j) (x2 : Int32) (x3 : Int32) (x4 : Int32) (x5 : Int32) (x6 : Int32) (x7 : Int32) (σ : Sg) (h : s_X10_dryAgain_17b n rc17 x2 x3 x4 x5 x6 x7 σ = some (r, τ)) : τ o j = σ o j := by
  unfold s_X10_dryAgain_17b at h
  have q : σ o j = σ o j := rfl
  rcases ite_of h with h | h
  · exact fr_e2 h q
  · rcases ite_of h with h | h
    · exact fr_e2 h q
    · obtain ⟨v2, -, h⟩ := lt_of h
      rcases ite_of h with h | h
      · exact (fr_s_X10_dryAgain_90 ho rc17 H17 x2 x3 x4 x5 x6 x7 v2 σ  h).trans q
      · rcases ite_of h with h | h
        · obtain ⟨r4, σ3, g, h⟩ := bd_of h
          have q : σ3 o j = σ o j := (fr_s_X6_someBeginOn rfl _ _ g).trans q
          rcases ite_of h with h | h
          · obtain ⟨r6, σ5, g, h⟩ := bd_of h
            have q : σ5 o j = σ o j := (fr_s_X7_hasCisterns rfl _ _ _ g).trans q
            obtain ⟨v9, -, h⟩ := lt_of h
            exact (fr_s_X10_dryAgain_91 ho rc17 H17 x2 x3 x4 x5 x6 x7 v2 v9 σ5  h).trans q
          · exact (fr_s_X10_dryAgain_90 ho rc17 H17 x2 x3 x4 x5 x6 x7 v2 σ3  h).trans q
        · exact (fr_s_X10_dryAgain_90 ho rc17 H17 x2 x3 x4 x5 x6 x7 v2 σ  h).trans q
theorem fr_s_X10_dryAgain_17 {n o j : Nat} {r : Int32} {τ : Sg} (ho : fok W_X10_dryAgain o j = true) : ∀ (k : Nat) (x2 : Int32) (x3 : Int32) (x4 : Int32) (x5 : Int32) (x6 : Int32) (x7 : Int32) (σ : Sg), s_X10_dryAgain_17 n k x2 x3 x4 x5 x6 x7 σ = some (r, τ) → τ o j = σ o j := by
  intro k
  induction k with
  | zero => intro x2 x3 x4 x5 x6 x7 σ  h; cases h
  | succ k ih => intro x2 x3 x4 x5 x6 x7 σ  h; exact fr_s_X10_dryAgain_17b ho  (s_X10_dryAgain_17 n  k) ih x2 x3 x4 x5 x6 x7 σ  h
set_option maxRecDepth 20000 in
theorem fr_s_X10_dryAgain {n o j : Nat} {r : Int32} {τ : Sg} (ho : fok W_X10_dryAgain o j = true) (x1 : Nat) (x2 : Int32) (x3 : Int32) (x4 : Int32) (σ : Sg) (h : s_X10_dryAgain n x1 x2 x3 x4 σ = some (r, τ)) : τ o j = σ o j := by
  unfold s_X10_dryAgain at h
  have q : σ o j = σ o j := rfl
  obtain ⟨σ1, g, h⟩ := bdv_of h
  have q : σ1 o j = σ o j := (fr_s_X7_startAs (fok_sub ho (by decide)) _ _ _ (by rw [show rf 56 0 = 57 from by decide]; exact fok_a ho (by decide)) (by rw [show rf 56 1 = 58 from by decide]; exact fok_a ho (by decide)) g).trans q
  exact (fr_s_X10_dryAgain_17 ho  n x2 x3 x4 (0 : Int32) (0 : Int32) (0 : Int32) σ1  h).trans q
abbrev W_X10_isPlanned : List (Nat × Option Nat) := []
set_option maxRecDepth 20000 in
theorem fr_s_X10_isPlanned_20 {n o j : Nat} {r : Int32} {τ : Sg} (ho : fok W_X10_isPlanned o j = true) (σ : Sg) (h : s_X10_isPlanned_20 n σ = some (r, τ)) : τ o j = σ o j := by
  unfold s_X10_isPlanned_20 at h
  have q : σ o j = σ o j := rfl
  exact fr_e2 h q
set_option maxRecDepth 20000 in
theorem fr_s_X10_isPlanned {n o j : Nat} {r : Int32} {τ : Sg} (ho : fok W_X10_isPlanned o j = true) (x1 : Int32) (x2 : Int32) (σ : Sg) (h : s_X10_isPlanned n x1 x2 σ = some (r, τ)) : τ o j = σ o j := by
  unfold s_X10_isPlanned at h
  have q : σ o j = σ o j := rfl
  rcases ite_of h with h | h
  · rcases ite_of h with h | h
    · exact fr_e2 h q
    · exact (fr_s_X10_isPlanned_20 ho  σ  h).trans q
  · exact (fr_s_X10_isPlanned_20 ho  σ  h).trans q
abbrev W_X10_choose : List (Nat × Option Nat) := [(51, some 9), (51, some 10), (51, some 12), (52, none), (62, none)]
set_option maxRecDepth 20000 in
theorem fr_s_X10_choose_76 {n o j : Nat} {τ : Sg} (ho : fok W_X10_choose o j = true) (x3 : Int32) (σ : Sg) (h : s_X10_choose_76 n x3 σ = some τ) : τ o j = σ o j := by
  unfold s_X10_choose_76 at h
  have q : σ o j = σ o j := rfl
  obtain ⟨σ6, g, h⟩ := bdv_of h
  have q : σ6 o j = σ o j := (fr_s_X6_hold (fok_sub ho (by decide)) _ _ _ (fok_a ho (by decide)) g).trans q
  exact fr_e1 h q
set_option maxRecDepth 20000 in
theorem fr_s_X10_choose_18b {n o j : Nat} {τ : Sg} (ho : fok W_X10_choose o j = true) (rc18 : Int32 → Int32 → Int32 → Sg → Option Sg) (H18 : ∀ (x1 : Int32) (x3 : Int32) (x4 : Int32) (σ : Sg), rc18 x1 x3 x4 σ = some τ → τ o j = σ o j) (x1 : Int32) (x3 : Int32) (x4 : Int32) (σ : Sg) (h : s_X10_choose_18b n rc18 x1 x3 x4 σ = some τ) : τ o j = σ o j := by
  unfold s_X10_choose_18b at h
  have q : σ o j = σ o j := rfl
  rcases ite_of h with h | h
  · exact (fr_s_X10_choose_76 ho  x3 σ  h).trans q
  · rcases ite_of h with h | h
    · exact (fr_s_X10_choose_76 ho  x3 σ  h).trans q
    · rcases ite_of h with h | h
      · have h := (ck_of h).2
        obtain ⟨σ4, e, h⟩ := lt_of h
        have q : σ4 o j = σ o j := by rw [e]; exact (up2_o (fok_a ho (by decide))).trans q
        obtain ⟨σ5, e, h⟩ := lt_of h
        have q : σ5 o j = σ o j := by rw [e]; exact (up2_f ho (by decide)).trans q
        exact (H18 x1 x3 (x4 + (1 : Int32)) σ5  h).trans q
      · exact (H18 x1 x3 (x4 + (1 : Int32)) σ  h).trans q
theorem fr_s_X10_choose_18 {n o j : Nat} {τ : Sg} (ho : fok W_X10_choose o j = true) : ∀ (k : Nat) (x1 : Int32) (x3 : Int32) (x4 : Int32) (σ : Sg), s_X10_choose_18 n k x1 x3 x4 σ = some τ → τ o j = σ o j := by
  intro k
  induction k with
  | zero => intro x1 x3 x4 σ  h; cases h
  | succ k ih => intro x1 x3 x4 σ  h; exact fr_s_X10_choose_18b ho  (s_X10_choose_18 n  k) ih x1 x3 x4 σ  h
set_option maxRecDepth 20000 in
theorem fr_s_X10_choose {n o j : Nat} {τ : Sg} (ho : fok W_X10_choose o j = true) (x1 : Int32) (x2 : Int32) (x3 : Int32) (σ : Sg) (h : s_X10_choose n x1 x2 x3 σ = some τ) : τ o j = σ o j := by
  unfold s_X10_choose at h
  have q : σ o j = σ o j := rfl
  obtain ⟨σ1, e, h⟩ := lt_of h
  have q : σ1 o j = σ o j := by rw [e]; exact (up2_f ho (by decide)).trans q
  obtain ⟨σ2, e, h⟩ := lt_of h
  have q : σ2 o j = σ o j := by rw [e]; exact (up2_f ho (by decide)).trans q
  obtain ⟨σ3, e, h⟩ := lt_of h
  have q : σ3 o j = σ o j := by rw [e]; exact (up2_f ho (by decide)).trans q
  exact (fr_s_X10_choose_18 ho  n x1 x3 (0 : Int32) σ3  h).trans q
abbrev W_X10_leastBehind : List (Nat × Option Nat) := []
set_option maxRecDepth 20000 in
theorem fr_s_X10_leastBehind_49 {n o j : Nat} {r : Int32} {τ : Sg} (ho : fok W_X10_leastBehind o j = true) (rc4 : Int32 → Int32 → Int32 → Sg → Option (Int32 × Sg)) (H4 : ∀ (x1 : Int32) (x2 : Int32) (x3 : Int32) (σ : Sg), rc4 x1 x2 x3 σ = some (r, τ) → τ o j = σ o j) (x1 : Int32) (x3 : Int32) (x4 : Int32) (σ : Sg) (h : s_X10_leastBehind_49 n rc4 x1 x3 x4 σ = some (r, τ)) : τ o j = σ o j := by
  unfold s_X10_leastBehind_49 at h
  have q : σ o j = σ o j := rfl
  have h := (ck_of h).2
  have h := (ck_of h).2
  obtain ⟨v2, -, h⟩ := lt_of h
  exact (H4 x1 v2 (x3 + (1 : Int32)) σ  h).trans q
set_option maxRecDepth 20000 in
theorem fr_s_X10_leastBehind_4b {n o j : Nat} {r : Int32} {τ : Sg} (ho : fok W_X10_leastBehind o j = true) (rc4 : Int32 → Int32 → Int32 → Sg → Option (Int32 × Sg)) (H4 : ∀ (x1 : Int32) (x2 : Int32) (x3 : Int32) (σ : Sg), rc4 x1 x2 x3 σ = some (r, τ) → τ o j = σ o j) (x1 : Int32) (x2 : Int32) (x3 : Int32) (σ : Sg) (h : s_X10_leastBehind_4b n rc4 x1 x2 x3 σ = some (r, τ)) : τ o j = σ o j := by
  unfold s_X10_leastBehind_4b at h
  have q : σ o j = σ o j := rfl
  rcases ite_of h with h | h
  · exact fr_e2 h q
  · obtain ⟨v1, -, h⟩ := lt_of h
    rcases ite_of h with h | h
    · exact (H4 x1 x2 (x3 + (1 : Int32)) σ  h).trans q
    · rcases ite_of h with h | h
      · exact (fr_s_X10_leastBehind_49 ho rc4 H4 x1 x3 v1 σ  h).trans q
      · have h := (ck_of h).2
        have h := (ck_of h).2
        rcases ite_of h with h | h
        · exact (H4 x1 x2 (x3 + (1 : Int32)) σ  h).trans q
        · exact (fr_s_X10_leastBehind_49 ho rc4 H4 x1 x3 v1 σ  h).trans q
theorem fr_s_X10_leastBehind_4 {n o j : Nat} {r : Int32} {τ : Sg} (ho : fok W_X10_leastBehind o j = true) : ∀ (k : Nat) (x1 : Int32) (x2 : Int32) (x3 : Int32) (σ : Sg), s_X10_leastBehind_4 n k x1 x2 x3 σ = some (r, τ) → τ o j = σ o j := by
  intro k
  induction k with
  | zero => intro x1 x2 x3 σ  h; cases h
  | succ k ih => intro x1 x2 x3 σ  h; exact fr_s_X10_leastBehind_4b ho  (s_X10_leastBehind_4 n  k) ih x1 x2 x3 σ  h
set_option maxRecDepth 20000 in
theorem fr_s_X10_leastBehind {n o j : Nat} {r : Int32} {τ : Sg} (ho : fok W_X10_leastBehind o j = true) (x1 : Int32) (σ : Sg) (h : s_X10_leastBehind n x1 σ = some (r, τ)) : τ o j = σ o j := by
  unfold s_X10_leastBehind at h
  have q : σ o j = σ o j := rfl
  exact (fr_s_X10_leastBehind_4 ho  n x1 (-1 : Int32) (0 : Int32) σ  h).trans q
abbrev W_X10_changeOver : List (Nat × Option Nat) := [(57, none)]
set_option maxRecDepth 20000 in
theorem fr_s_X10_changeOver_2b {n o j : Nat} {τ : Sg} (ho : fok W_X10_changeOver o j = true) (rc2 : Int32 → Int32 → Sg → Option Sg) (H2 : ∀ (x1 : Int32) (x2 : Int32) (σ : Sg), rc2 x1 x2 σ = some τ → τ o j = σ o j) (x1 : Int32) (x2 : Int32) (σ : Sg) (h : s_X10_changeOver_2b n rc2 x1 x2 σ = some τ) : τ o j = σ o j := by
  unfold s_X10_changeOver_2b at h
  have q : σ o j = σ o j := rfl
  rcases ite_of h with h | h
  · exact fr_e1 h q
  · rcases ite_of h with h | h
    · have h := (ck_of h).2
      have h := (ck_of h).2
      obtain ⟨σ1, e, h⟩ := lt_of h
      have q : σ1 o j = σ o j := by rw [e]; exact (up2_o (fok_a ho (by decide))).trans q
      exact (H2 x1 (x2 + (1 : Int32)) σ1  h).trans q
    · exact (H2 x1 (x2 + (1 : Int32)) σ  h).trans q
theorem fr_s_X10_changeOver_2 {n o j : Nat} {τ : Sg} (ho : fok W_X10_changeOver o j = true) : ∀ (k : Nat) (x1 : Int32) (x2 : Int32) (σ : Sg), s_X10_changeOver_2 n k x1 x2 σ = some τ → τ o j = σ o j := by
  intro k
  induction k with
  | zero => intro x1 x2 σ  h; cases h
  | succ k ih => intro x1 x2 σ  h; exact fr_s_X10_changeOver_2b ho  (s_X10_changeOver_2 n  k) ih x1 x2 σ  h
set_option maxRecDepth 20000 in
theorem fr_s_X10_changeOver {n o j : Nat} {τ : Sg} (ho : fok W_X10_changeOver o j = true) (x1 : Int32) (σ : Sg) (h : s_X10_changeOver n x1 σ = some τ) : τ o j = σ o j := by
  unfold s_X10_changeOver at h
  have q : σ o j = σ o j := rfl
  exact (fr_s_X10_changeOver_2 ho  n x1 (0 : Int32) σ  h).trans q
abbrev W_X10_weigh : List (Nat × Option Nat) := [(10, none), (39, some 9), (39, some 10), (41, none), (42, none), (43, none), (44, none), (45, none), (47, none), (48, none), (49, none), (50, none), (51, some 13), (53, none), (54, none), (57, none), (58, none)]
set_option maxRecDepth 20000 in
theorem fr_s_X10_weigh_34 {n o j : Nat} {τ : Sg} (ho : fok W_X10_weigh o j = true) (rc11 : Nat → Int32 → Int32 → Sg → Option Sg) (H11 : ∀ (x1 : Nat) (x2 : Int32) (x3 : Int32) (σ : Sg), rc11 x1 x2 x3 σ = some τ → τ o j = σ o j) (x1 : Nat) (x2 : Int32) (x3 : Int32) (y0 : Int32) (y1 : Int32) (σ : Sg) (h : s_X10_weigh_34 n rc11 x1 x2 x3 y0 y1 σ = some τ) : τ o j = σ o j := by
  unfold s_X10_weigh_34 at h
  have q : σ o j = σ o j := rfl
  have h := (ck_of h).2
  obtain ⟨σ5, e, h⟩ := lt_of h
  have q : σ5 o j = σ o j := by rw [e]; exact (up2_o (fok_a ho (by decide))).trans q
  rcases ite_of h with h | h
  · exact (H11 x1 x2 (x3 + (-1 : Int32)) σ5  h).trans q
  · obtain ⟨σ6, g, h⟩ := bdv_of h
    have q : σ6 o j = σ o j := (fr_s_X7_startAs (fok_sub ho (by decide)) _ _ _ (by rw [show rf 56 0 = 57 from by decide]; exact fok_a ho (by decide)) (by rw [show rf 56 1 = 58 from by decide]; exact fok_a ho (by decide)) g).trans q
    obtain ⟨σ7, g, h⟩ := bdv_of h
    have q : σ7 o j = σ o j := (fr_s_X10_changeOver (fok_sub ho (by decide)) _ _  g).trans q
    obtain ⟨r9, σ8, g, h⟩ := bd_of h
    have q : σ8 o j = σ o j := (fr_s_X10_dryOfDay (fok_sub ho (by decide)) _ _ _ _ _  g).trans q
    have h := (ck_of h).2
    obtain ⟨σ10, e, h⟩ := lt_of h
    have q : σ10 o j = σ o j := by rw [e]; exact (up2_o (fok_a ho (by decide))).trans q
    exact (H11 x1 x2 (x3 + (-1 : Int32)) σ10  h).trans q
set_option maxRecDepth 20000 in
theorem fr_s_X10_weigh_11b {n o j : Nat} {τ : Sg} (ho : fok W_X10_weigh o j = true) (rc11 : Nat → Int32 → Int32 → Sg → Option Sg) (H11 : ∀ (x1 : Nat) (x2 : Int32) (x3 : Int32) (σ : Sg), rc11 x1 x2 x3 σ = some τ → τ o j = σ o j) (x1 : Nat) (x2 : Int32) (x3 : Int32) (σ : Sg) (h : s_X10_weigh_11b n rc11 x1 x2 x3 σ = some τ) : τ o j = σ o j := by
  unfold s_X10_weigh_11b at h
  have q : σ o j = σ o j := rfl
  rcases ite_of h with h | h
  · have h := (ck_of h).2
    obtain ⟨σ2, e, h⟩ := lt_of h
    have q : σ2 o j = σ o j := by rw [e]; exact (up2_f ho (by decide)).trans q
    exact fr_e1 h q
  · rcases ite_of h with h | h
    · exact (fr_s_X10_weigh_34 ho rc11 H11 x1 x2 x3 (0 : Int32) x3 σ  h).trans q
    · obtain ⟨r4, σ3, g, h⟩ := bd_of h
      have q : σ3 o j = σ o j := (fr_s_X10_leastBehind rfl _ _ g).trans q
      exact (fr_s_X10_weigh_34 ho rc11 H11 x1 x2 x3 r4 x3 σ3  h).trans q
theorem fr_s_X10_weigh_11 {n o j : Nat} {τ : Sg} (ho : fok W_X10_weigh o j = true) : ∀ (k : Nat) (x1 : Nat) (x2 : Int32) (x3 : Int32) (σ : Sg), s_X10_weigh_11 n k x1 x2 x3 σ = some τ → τ o j = σ o j := by
  intro k
  induction k with
  | zero => intro x1 x2 x3 σ  h; cases h
  | succ k ih => intro x1 x2 x3 σ  h; exact fr_s_X10_weigh_11b ho  (s_X10_weigh_11 n  k) ih x1 x2 x3 σ  h
set_option maxRecDepth 20000 in
theorem fr_s_X10_weigh {n o j : Nat} {τ : Sg} (ho : fok W_X10_weigh o j = true) (x1 : Nat) (σ : Sg) (h : s_X10_weigh n x1 σ = some τ) : τ o j = σ o j := by
  unfold s_X10_weigh at h
  have q : σ o j = σ o j := rfl
  obtain ⟨v1, -, h⟩ := lt_of h
  exact (fr_s_X10_weigh_11 ho  n x1 v1 v1 σ  h).trans q
abbrev W_X10_firstBest : List (Nat × Option Nat) := []
set_option maxRecDepth 20000 in
theorem fr_s_X10_firstBest_2b {n o j : Nat} {r : Int32} {τ : Sg} (ho : fok W_X10_firstBest o j = true) (rc2 : Int32 → Int32 → Sg → Option (Int32 × Sg)) (H2 : ∀ (x1 : Int32) (x2 : Int32) (σ : Sg), rc2 x1 x2 σ = some (r, τ) → τ o j = σ o j) (x1 : Int32) (x2 : Int32) (σ : Sg) (h : s_X10_firstBest_2b n rc2 x1 x2 σ = some (r, τ)) : τ o j = σ o j := by
  unfold s_X10_firstBest_2b at h
  have q : σ o j = σ o j := rfl
  rcases ite_of h with h | h
  · exact fr_e2 h q
  · obtain ⟨v1, -, h⟩ := lt_of h
    rcases ite_of h with h | h
    · exact (H2 x1 (x2 + (1 : Int32)) σ  h).trans q
    · have h := (ck_of h).2
      have h := (ck_of h).2
      have h := (ck_of h).2
      rcases ite_of h with h | h
      · exact fr_e2 h q
      · exact (H2 x1 (x2 + (1 : Int32)) σ  h).trans q
theorem fr_s_X10_firstBest_2 {n o j : Nat} {r : Int32} {τ : Sg} (ho : fok W_X10_firstBest o j = true) : ∀ (k : Nat) (x1 : Int32) (x2 : Int32) (σ : Sg), s_X10_firstBest_2 n k x1 x2 σ = some (r, τ) → τ o j = σ o j := by
  intro k
  induction k with
  | zero => intro x1 x2 σ  h; cases h
  | succ k ih => intro x1 x2 σ  h; exact fr_s_X10_firstBest_2b ho  (s_X10_firstBest_2 n  k) ih x1 x2 σ  h
set_option maxRecDepth 20000 in
theorem fr_s_X10_firstBest {n o j : Nat} {r : Int32} {τ : Sg} (ho : fok W_X10_firstBest o j = true) (x1 : Int32) (σ : Sg) (h : s_X10_firstBest n x1 σ = some (r, τ)) : τ o j = σ o j := by
  unfold s_X10_firstBest at h
  have q : σ o j = σ o j := rfl
  exact (fr_s_X10_firstBest_2 ho  n x1 (0 : Int32) σ  h).trans q
abbrev W_X10_follow : List (Nat × Option Nat) := [(55, none)]
set_option maxRecDepth 20000 in
theorem fr_s_X10_follow_4b {n o j : Nat} {τ : Sg} (ho : fok W_X10_follow o j = true) (rc4 : Int32 → Int32 → Sg → Option Sg) (H4 : ∀ (x1 : Int32) (x2 : Int32) (σ : Sg), rc4 x1 x2 σ = some τ → τ o j = σ o j) (x1 : Int32) (x2 : Int32) (σ : Sg) (h : s_X10_follow_4b n rc4 x1 x2 σ = some τ) : τ o j = σ o j := by
  unfold s_X10_follow_4b at h
  have q : σ o j = σ o j := rfl
  rcases ite_of h with h | h
  · exact fr_e1 h q
  · obtain ⟨r2, σ1, g, h⟩ := bd_of h
    have q : σ1 o j = σ o j := (fr_s_X10_firstBest rfl _ _ g).trans q
    have h := (ck_of h).2
    have h := (ck_of h).2
    obtain ⟨σ3, e, h⟩ := lt_of h
    have q : σ3 o j = σ o j := by rw [e]; exact (up2_o (fok_a ho (by decide))).trans q
    obtain ⟨v4, -, h⟩ := lt_of h
    exact (H4 v4 (x2 + (1 : Int32)) σ3  h).trans q
theorem fr_s_X10_follow_4 {n o j : Nat} {τ : Sg} (ho : fok W_X10_follow o j = true) : ∀ (k : Nat) (x1 : Int32) (x2 : Int32) (σ : Sg), s_X10_follow_4 n k x1 x2 σ = some τ → τ o j = σ o j := by
  intro k
  induction k with
  | zero => intro x1 x2 σ  h; cases h
  | succ k ih => intro x1 x2 σ  h; exact fr_s_X10_follow_4b ho  (s_X10_follow_4 n  k) ih x1 x2 σ  h
set_option maxRecDepth 20000 in
theorem fr_s_X10_follow {n o j : Nat} {τ : Sg} (ho : fok W_X10_follow o j = true) (σ : Sg) (h : s_X10_follow n σ = some τ) : τ o j = σ o j := by
  unfold s_X10_follow at h
  have q : σ o j = σ o j := rfl
  exact (fr_s_X10_follow_4 ho  n (0 : Int32) (0 : Int32) σ  h).trans q
abbrev W_X11_isNode : List (Nat × Option Nat) := []
set_option maxRecDepth 20000 in
theorem fr_s_X11_isNode_14 {n o j : Nat} {r : Int32} {τ : Sg} (ho : fok W_X11_isNode o j = true) (σ : Sg) (h : s_X11_isNode_14 n σ = some (r, τ)) : τ o j = σ o j := by
  unfold s_X11_isNode_14 at h
  have q : σ o j = σ o j := rfl
  exact fr_e2 h q
set_option maxRecDepth 20000 in
theorem fr_s_X11_isNode {n o j : Nat} {r : Int32} {τ : Sg} (ho : fok W_X11_isNode o j = true) (x0 : Int32) (σ : Sg) (h : s_X11_isNode n x0 σ = some (r, τ)) : τ o j = σ o j := by
  unfold s_X11_isNode at h
  have q : σ o j = σ o j := rfl
  rcases ite_of h with h | h
  · exact (fr_s_X11_isNode_14 ho  σ  h).trans q
  · rcases ite_of h with h | h
    · exact (fr_s_X11_isNode_14 ho  σ  h).trans q
    · exact fr_e2 h q
abbrev W_X11_pipe : List (Nat × Option Nat) := [(0, some 15), (3, some 0), (4, none), (5, none), (6, none), (7, none), (8, none), (9, none)]
set_option maxRecDepth 20000 in
theorem fr_s_X11_pipe {n o j : Nat} {r : Int32} {τ : Sg} (ho : fok W_X11_pipe o j = true) (x1 : Int32) (x2 : Int32) (x3 : Int32) (x4 : Int32) (σ : Sg) (h : s_X11_pipe n x1 x2 x3 x4 σ = some (r, τ)) : τ o j = σ o j := by
  unfold s_X11_pipe at h
  have q : σ o j = σ o j := rfl
  obtain ⟨r2, σ1, g, h⟩ := bd_of h
  have q : σ1 o j = σ o j := (fr_s_X11_isNode rfl _ _ g).trans q
  rcases ite_of h with h | h
  · exact fr_e2 h q
  · obtain ⟨r4, σ3, g, h⟩ := bd_of h
    have q : σ3 o j = σ o j := (fr_s_X11_isNode rfl _ _ g).trans q
    rcases ite_of h with h | h
    · exact fr_e2 h q
    · rcases ite_of h with h | h
      · exact fr_e2 h q
      · obtain ⟨r6, σ5, g, h⟩ := bd_of h
        have q : σ5 o j = σ o j := (fr_s_X11_isOutside rfl _ _ _ _ g).trans q
        rcases ite_of h with h | h
        · obtain ⟨r8, σ7, g, h⟩ := bd_of h
          have q : σ7 o j = σ o j := (fr_s_X11_isOutside rfl _ _ _ _ g).trans q
          rcases ite_of h with h | h
          · rcases ite_of h with h | h
            · obtain ⟨σ9, e, h⟩ := lt_of h
              have q : σ9 o j = σ o j := by rw [e]; exact (up2_f ho (by decide)).trans q
              obtain ⟨r11, σ10, g, h⟩ := bd_of h
              have q : σ10 o j = σ o j := (fr_s_X4_lay (fok_sub ho (by decide)) _ _ _ _ _  g).trans q
              exact fr_e2 h q
            · exact fr_e2 h q
          · exact fr_e2 h q
        · exact fr_e2 h q
abbrev W_X11_shut : List (Nat × Option Nat) := [(0, some 15), (3, some 1)]
set_option maxRecDepth 20000 in
theorem fr_s_X11_shut {n o j : Nat} {r : Int32} {τ : Sg} (ho : fok W_X11_shut o j = true) (x1 : Int32) (x2 : Int32) (σ : Sg) (h : s_X11_shut n x1 x2 σ = some (r, τ)) : τ o j = σ o j := by
  unfold s_X11_shut at h
  have q : σ o j = σ o j := rfl
  obtain ⟨r2, σ1, g, h⟩ := bd_of h
  have q : σ1 o j = σ o j := (fr_s_X4_has rfl _ _ g).trans q
  rcases ite_of h with h | h
  · exact fr_e2 h q
  · obtain ⟨v3, -, h⟩ := lt_of h
    obtain ⟨σ4, e, h⟩ := lt_of h
    have q : σ4 o j = σ o j := by rw [e]; exact (up2_f ho (by decide)).trans q
    obtain ⟨v7, -, h⟩ := lt_of h
    obtain ⟨σ8, e, h⟩ := lt_of h
    have q : σ8 o j = σ o j := by rw [e]; exact (up2_f ho (by decide)).trans q
    exact fr_e2 h q
abbrev W_X11_leak : List (Nat × Option Nat) := [(0, some 15), (7, none)]
set_option maxRecDepth 20000 in
theorem fr_s_X11_leak {n o j : Nat} {r : Int32} {τ : Sg} (ho : fok W_X11_leak o j = true) (x1 : Int32) (x2 : Int32) (σ : Sg) (h : s_X11_leak n x1 x2 σ = some (r, τ)) : τ o j = σ o j := by
  unfold s_X11_leak at h
  have q : σ o j = σ o j := rfl
  obtain ⟨r2, σ1, g, h⟩ := bd_of h
  have q : σ1 o j = σ o j := (fr_s_X4_has rfl _ _ g).trans q
  rcases ite_of h with h | h
  · exact fr_e2 h q
  · obtain ⟨r4, σ3, g, h⟩ := bd_of h
    have q : σ3 o j = σ o j := (fr_s_X11_isOutside rfl _ _ _ _ g).trans q
    rcases ite_of h with h | h
    · have h := (ck_of h).2
      obtain ⟨v5, -, h⟩ := lt_of h
      obtain ⟨σ6, e, h⟩ := lt_of h
      have q : σ6 o j = σ o j := by rw [e]; exact (up2_f ho (by decide)).trans q
      have h := (ck_of h).2
      obtain ⟨σ7, e, h⟩ := lt_of h
      have q : σ7 o j = σ o j := by rw [e]; exact (up2_o (fok_a ho (by decide))).trans q
      exact fr_e2 h q
    · exact fr_e2 h q
abbrev W_X11_map : List (Nat × Option Nat) := [(8, none), (9, none)]
set_option maxRecDepth 20000 in
theorem fr_s_X11_map {n o j : Nat} {r : Int32} {τ : Sg} (ho : fok W_X11_map o j = true) (x1 : Int32) (x2 : Int32) (x3 : Int32) (σ : Sg) (h : s_X11_map n x1 x2 x3 σ = some (r, τ)) : τ o j = σ o j := by
  unfold s_X11_map at h
  have q : σ o j = σ o j := rfl
  obtain ⟨r2, σ1, g, h⟩ := bd_of h
  have q : σ1 o j = σ o j := (fr_s_X4_has rfl _ _ g).trans q
  rcases ite_of h with h | h
  · exact fr_e2 h q
  · obtain ⟨r4, σ3, g, h⟩ := bd_of h
    have q : σ3 o j = σ o j := (fr_s_X11_isNode rfl _ _ g).trans q
    rcases ite_of h with h | h
    · exact fr_e2 h q
    · obtain ⟨r6, σ5, g, h⟩ := bd_of h
      have q : σ5 o j = σ o j := (fr_s_X11_isNode rfl _ _ g).trans q
      rcases ite_of h with h | h
      · exact fr_e2 h q
      · rcases ite_of h with h | h
        · exact fr_e2 h q
        · have h := (ck_of h).2
          obtain ⟨σ7, e, h⟩ := lt_of h
          have q : σ7 o j = σ o j := by rw [e]; exact (up2_o (fok_a ho (by decide))).trans q
          have h := (ck_of h).2
          obtain ⟨σ8, e, h⟩ := lt_of h
          have q : σ8 o j = σ o j := by rw [e]; exact (up2_o (fok_a ho (by decide))).trans q
          exact fr_e2 h q
abbrev W_X11_pump : List (Nat × Option Nat) := [(0, some 15), (40, none)]
set_option maxRecDepth 20000 in
theorem fr_s_X11_pump_48b {n o j : Nat} {r : Int32} {τ : Sg} (ho : fok W_X11_pump o j = true) (rc48 : Int32 → Int32 → Int32 → Sg → Option (Int32 × Sg)) (H48 : ∀ (x2 : Int32) (x3 : Int32) (x4 : Int32) (σ : Sg), rc48 x2 x3 x4 σ = some (r, τ) → τ o j = σ o j) (x2 : Int32) (x3 : Int32) (x4 : Int32) (σ : Sg) (h : s_X11_pump_48b n rc48 x2 x3 x4 σ = some (r, τ)) : τ o j = σ o j := by
  unfold s_X11_pump_48b at h
  have q : σ o j = σ o j := rfl
  rcases ite_of h with h | h
  · exact fr_e2 h q
  · have h := (ck_of h).2
    obtain ⟨σ8, e, h⟩ := lt_of h
    have q : σ8 o j = σ o j := by rw [e]; exact (up2_o (fok_a ho (by decide))).trans q
    exact (H48 x2 x3 (x4 + (1 : Int32)) σ8  h).trans q
theorem fr_s_X11_pump_48 {n o j : Nat} {r : Int32} {τ : Sg} (ho : fok W_X11_pump o j = true) : ∀ (k : Nat) (x2 : Int32) (x3 : Int32) (x4 : Int32) (σ : Sg), s_X11_pump_48 n k x2 x3 x4 σ = some (r, τ) → τ o j = σ o j := by
  intro k
  induction k with
  | zero => intro x2 x3 x4 σ  h; cases h
  | succ k ih => intro x2 x3 x4 σ  h; exact fr_s_X11_pump_48b ho  (s_X11_pump_48 n  k) ih x2 x3 x4 σ  h
set_option maxRecDepth 20000 in
theorem fr_s_X11_pump {n o j : Nat} {r : Int32} {τ : Sg} (ho : fok W_X11_pump o j = true) (x1 : Int32) (x2 : Int32) (x3 : Int32) (σ : Sg) (h : s_X11_pump n x1 x2 x3 σ = some (r, τ)) : τ o j = σ o j := by
  unfold s_X11_pump at h
  have q : σ o j = σ o j := rfl
  obtain ⟨r2, σ1, g, h⟩ := bd_of h
  have q : σ1 o j = σ o j := (fr_s_X11_isOutside rfl _ _ _ _ g).trans q
  rcases ite_of h with h | h
  · obtain ⟨r4, σ3, g, h⟩ := bd_of h
    have q : σ3 o j = σ o j := (fr_s_X11_isOutside rfl _ _ _ _ g).trans q
    rcases ite_of h with h | h
    · obtain ⟨r6, σ5, g, h⟩ := bd_of h
      have q : σ5 o j = σ o j := (fr_s_X11_isOutside rfl _ _ _ _ g).trans q
      rcases ite_of h with h | h
      · obtain ⟨σ7, e, h⟩ := lt_of h
        have q : σ7 o j = σ o j := by rw [e]; exact (up2_f ho (by decide)).trans q
        exact (fr_s_X11_pump_48 ho  n x2 x3 x1 σ7  h).trans q
      · exact fr_e2 h q
    · exact fr_e2 h q
  · exact fr_e2 h q
abbrev W_X11_street : List (Nat × Option Nat) := [(0, some 15), (11, some 0), (12, none), (13, none), (14, none), (15, none), (16, none), (23, none)]
set_option maxRecDepth 20000 in
theorem fr_s_X11_street {n o j : Nat} {r : Int32} {τ : Sg} (ho : fok W_X11_street o j = true) (x1 : Int32) (x2 : Int32) (x3 : Int32) (x4 : Int32) (x5 : Int32) (x6 : Int32) (σ : Sg) (h : s_X11_street n x1 x2 x3 x4 x5 x6 σ = some (r, τ)) : τ o j = σ o j := by
  unfold s_X11_street at h
  have q : σ o j = σ o j := rfl
  obtain ⟨r2, σ1, g, h⟩ := bd_of h
  have q : σ1 o j = σ o j := (fr_s_X11_isNode rfl _ _ g).trans q
  rcases ite_of h with h | h
  · exact fr_e2 h q
  · obtain ⟨r4, σ3, g, h⟩ := bd_of h
    have q : σ3 o j = σ o j := (fr_s_X11_isOutside rfl _ _ _ _ g).trans q
    rcases ite_of h with h | h
    · obtain ⟨r6, σ5, g, h⟩ := bd_of h
      have q : σ5 o j = σ o j := (fr_s_X11_isOutside rfl _ _ _ _ g).trans q
      rcases ite_of h with h | h
      · obtain ⟨r8, σ7, g, h⟩ := bd_of h
        have q : σ7 o j = σ o j := (fr_s_X11_isOutside rfl _ _ _ _ g).trans q
        rcases ite_of h with h | h
        · obtain ⟨r10, σ9, g, h⟩ := bd_of h
          have q : σ9 o j = σ o j := (fr_s_X11_isOutside rfl _ _ _ _ g).trans q
          rcases ite_of h with h | h
          · obtain ⟨r12, σ11, g, h⟩ := bd_of h
            have q : σ11 o j = σ o j := (fr_s_X11_isOutside rfl _ _ _ _ g).trans q
            rcases ite_of h with h | h
            · rcases ite_of h with h | h
              · obtain ⟨σ13, e, h⟩ := lt_of h
                have q : σ13 o j = σ o j := by rw [e]; exact (up2_f ho (by decide)).trans q
                obtain ⟨r15, σ14, g, h⟩ := bd_of h
                have q : σ14 o j = σ o j := (fr_s_X8_build (fok_sub ho (by decide)) _ _ _ _ _ _  g).trans q
                have h := (ck_of h).2
                obtain ⟨σ16, e, h⟩ := lt_of h
                have q : σ16 o j = σ o j := by rw [e]; exact (up2_o (fok_a ho (by decide))).trans q
                exact fr_e2 h q
              · exact fr_e2 h q
            · exact fr_e2 h q
          · exact fr_e2 h q
        · exact fr_e2 h q
      · exact fr_e2 h q
    · exact fr_e2 h q
abbrev W_X11_over : List (Nat × Option Nat) := [(0, some 15), (23, none)]
set_option maxRecDepth 20000 in
theorem fr_s_X11_over {n o j : Nat} {r : Int32} {τ : Sg} (ho : fok W_X11_over o j = true) (x1 : Int32) (σ : Sg) (h : s_X11_over n x1 σ = some (r, τ)) : τ o j = σ o j := by
  unfold s_X11_over at h
  have q : σ o j = σ o j := rfl
  obtain ⟨r2, σ1, g, h⟩ := bd_of h
  have q : σ1 o j = σ o j := (fr_s_X8_has rfl _ _ g).trans q
  rcases ite_of h with h | h
  · exact fr_e2 h q
  · have h := (ck_of h).2
    rcases ite_of h with h | h
    · exact fr_e2 h q
    · obtain ⟨σ3, e, h⟩ := lt_of h
      have q : σ3 o j = σ o j := by rw [e]; exact (up2_f ho (by decide)).trans q
      have h := (ck_of h).2
      obtain ⟨σ4, e, h⟩ := lt_of h
      have q : σ4 o j = σ o j := by rw [e]; exact (up2_o (fok_a ho (by decide))).trans q
      exact fr_e2 h q
abbrev W_X11_rooms : List (Nat × Option Nat) := [(17, none)]
set_option maxRecDepth 20000 in
theorem fr_s_X11_rooms {n o j : Nat} {r : Int32} {τ : Sg} (ho : fok W_X11_rooms o j = true) (x1 : Int32) (x2 : Int32) (σ : Sg) (h : s_X11_rooms n x1 x2 σ = some (r, τ)) : τ o j = σ o j := by
  unfold s_X11_rooms at h
  have q : σ o j = σ o j := rfl
  obtain ⟨r2, σ1, g, h⟩ := bd_of h
  have q : σ1 o j = σ o j := (fr_s_X8_has rfl _ _ g).trans q
  rcases ite_of h with h | h
  · exact fr_e2 h q
  · obtain ⟨r4, σ3, g, h⟩ := bd_of h
    have q : σ3 o j = σ o j := (fr_s_X11_isOutside rfl _ _ _ _ g).trans q
    rcases ite_of h with h | h
    · have h := (ck_of h).2
      obtain ⟨v5, -, h⟩ := lt_of h
      have h := (ck_of h).2
      obtain ⟨σ6, e, h⟩ := lt_of h
      have q : σ6 o j = σ o j := by rw [e]; exact (up2_o (fok_a ho (by decide))).trans q
      exact fr_e2 h q
    · exact fr_e2 h q
abbrev W_X11_count : List (Nat × Option Nat) := []
set_option maxRecDepth 20000 in
theorem fr_s_X11_count {n o j : Nat} {r : Int32} {τ : Sg} (ho : fok W_X11_count o j = true) (x1 : Int32) (σ : Sg) (h : s_X11_count n x1 σ = some (r, τ)) : τ o j = σ o j := by
  unfold s_X11_count at h
  have q : σ o j = σ o j := rfl
  rcases ite_of h with h | h
  · exact fr_e2 h q
  · rcases ite_of h with h | h
    · exact fr_e2 h q
    · rcases ite_of h with h | h
      · exact fr_e2 h q
      · rcases ite_of h with h | h
        · obtain ⟨r6, σ5, g, h⟩ := bd_of h
          have q : σ5 o j = σ o j := (fr_s_X7_always rfl _ _ _ g).trans q
          exact fr_e2 h q
        · rcases ite_of h with h | h
          · exact fr_e2 h q
          · rcases ite_of h with h | h
            · obtain ⟨r10, σ9, g, h⟩ := bd_of h
              have q : σ9 o j = σ o j := (fr_s_J6_bitCount_0f7a4 rfl _ _ g).trans q
              exact fr_e2 h q
            · rcases ite_of h with h | h
              · exact fr_e2 h q
              · rcases ite_of h with h | h
                · exact fr_e2 h q
                · rcases ite_of h with h | h
                  · obtain ⟨r15, σ14, g, h⟩ := bd_of h
                    have q : σ14 o j = σ o j := (fr_s_J6_bitCount_0f7a4 rfl _ _ g).trans q
                    exact fr_e2 h q
                  · rcases ite_of h with h | h
                    · exact fr_e2 h q
                    · rcases ite_of h with h | h
                      · exact fr_e2 h q
                      · exact fr_e2 h q
abbrev W_X11_today : List (Nat × Option Nat) := []
set_option maxRecDepth 20000 in
theorem fr_s_X11_today {n o j : Nat} {r : Int32} {τ : Sg} (ho : fok W_X11_today o j = true) (σ : Sg) (h : s_X11_today n σ = some (r, τ)) : τ o j = σ o j := by
  unfold s_X11_today at h
  have q : σ o j = σ o j := rfl
  exact fr_e2 h q
abbrev W_X11_paysByRooms : List (Nat × Option Nat) := [(38, none)]
set_option maxRecDepth 20000 in
theorem fr_s_X11_paysByRooms {n o j : Nat} {r : Int32} {τ : Sg} (ho : fok W_X11_paysByRooms o j = true) (x1 : Int32) (σ : Sg) (h : s_X11_paysByRooms n x1 σ = some (r, τ)) : τ o j = σ o j := by
  unfold s_X11_paysByRooms at h
  have q : σ o j = σ o j := rfl
  obtain ⟨r2, σ1, g, h⟩ := bd_of h
  have q : σ1 o j = σ o j := (fr_s_X11_today rfl _ g).trans q
  obtain ⟨σ3, g, h⟩ := bdv_of h
  have q : σ3 o j = σ o j := (fr_s_X6_hold (fok_sub ho (by decide)) _ _ _ (fok_a ho (by decide)) g).trans q
  have h := (ck_of h).2
  have h := (ck_of h).2
  exact fr_e2 h q
abbrev W_X11_paysByMeter : List (Nat × Option Nat) := [(38, none)]
set_option maxRecDepth 20000 in
theorem fr_s_X11_paysByMeter {n o j : Nat} {r : Int32} {τ : Sg} (ho : fok W_X11_paysByMeter o j = true) (x1 : Int32) (σ : Sg) (h : s_X11_paysByMeter n x1 σ = some (r, τ)) : τ o j = σ o j := by
  unfold s_X11_paysByMeter at h
  have q : σ o j = σ o j := rfl
  obtain ⟨r2, σ1, g, h⟩ := bd_of h
  have q : σ1 o j = σ o j := (fr_s_X11_today rfl _ g).trans q
  obtain ⟨σ3, g, h⟩ := bdv_of h
  have q : σ3 o j = σ o j := (fr_s_X6_hold (fok_sub ho (by decide)) _ _ _ (fok_a ho (by decide)) g).trans q
  have h := (ck_of h).2
  exact fr_e2 h q
abbrev W_X11_told : List (Nat × Option Nat) := [(38, none)]
set_option maxRecDepth 20000 in
theorem fr_s_X11_told {n o j : Nat} {r : Int32} {τ : Sg} (ho : fok W_X11_told o j = true) (x1 : Int32) (x2 : Int32) (σ : Sg) (h : s_X11_told n x1 x2 σ = some (r, τ)) : τ o j = σ o j := by
  unfold s_X11_told at h
  have q : σ o j = σ o j := rfl
  obtain ⟨r2, σ1, g, h⟩ := bd_of h
  have q : σ1 o j = σ o j := (fr_s_X8_has rfl _ _ g).trans q
  rcases ite_of h with h | h
  · exact fr_e2 h q
  · rcases ite_of h with h | h
    · have h := (ck_of h).2
      exact fr_e2 h q
    · rcases ite_of h with h | h
      · have h := (ck_of h).2
        exact fr_e2 h q
      · rcases ite_of h with h | h
        · have h := (ck_of h).2
          exact fr_e2 h q
        · rcases ite_of h with h | h
          · have h := (ck_of h).2
            exact fr_e2 h q
          · rcases ite_of h with h | h
            · have h := (ck_of h).2
              exact fr_e2 h q
            · rcases ite_of h with h | h
              · have h := (ck_of h).2
                exact fr_e2 h q
              · rcases ite_of h with h | h
                · have h := (ck_of h).2
                  exact fr_e2 h q
                · rcases ite_of h with h | h
                  · obtain ⟨r12, σ11, g, h⟩ := bd_of h
                    have q : σ11 o j = σ o j := (fr_s_X11_paysByRooms (fok_sub ho (by decide)) _ _  g).trans q
                    exact fr_e2 h q
                  · rcases ite_of h with h | h
                    · obtain ⟨r15, σ14, g, h⟩ := bd_of h
                      have q : σ14 o j = σ o j := (fr_s_X11_paysByMeter (fok_sub ho (by decide)) _ _  g).trans q
                      exact fr_e2 h q
                    · exact fr_e2 h q
abbrev W_X11_feed : List (Nat × Option Nat) := [(25, some 0), (26, none)]
set_option maxRecDepth 20000 in
theorem fr_s_X11_feed_38b {n o j : Nat} {r : Int32} {τ : Sg} (ho : fok W_X11_feed o j = true) (rc38 : Int64 → Int32 → Sg → Option (Int32 × Sg)) (H38 : ∀ (x2 : Int64) (x4 : Int32) (σ : Sg), rc38 x2 x4 σ = some (r, τ) → τ o j = σ o j) (x2 : Int64) (x4 : Int32) (σ : Sg) (h : s_X11_feed_38b n rc38 x2 x4 σ = some (r, τ)) : τ o j = σ o j := by
  unfold s_X11_feed_38b at h
  have q : σ o j = σ o j := rfl
  rcases ite_of h with h | h
  · exact fr_e2 h q
  · obtain ⟨σ4, g, h⟩ := bdv_of h
    have q : σ4 o j = σ o j := (fr_s_X5_put (fok_sub ho (by decide)) _ _  g).trans q
    exact (H38 x2 (x4 + (-1 : Int32)) σ4  h).trans q
theorem fr_s_X11_feed_38 {n o j : Nat} {r : Int32} {τ : Sg} (ho : fok W_X11_feed o j = true) : ∀ (k : Nat) (x2 : Int64) (x4 : Int32) (σ : Sg), s_X11_feed_38 n k x2 x4 σ = some (r, τ) → τ o j = σ o j := by
  intro k
  induction k with
  | zero => intro x2 x4 σ  h; cases h
  | succ k ih => intro x2 x4 σ  h; exact fr_s_X11_feed_38b ho  (s_X11_feed_38 n  k) ih x2 x4 σ  h
set_option maxRecDepth 20000 in
theorem fr_s_X11_feed {n o j : Nat} {r : Int32} {τ : Sg} (ho : fok W_X11_feed o j = true) (x1 : Int32) (x2 : Int64) (σ : Sg) (h : s_X11_feed n x1 x2 σ = some (r, τ)) : τ o j = σ o j := by
  unfold s_X11_feed at h
  have q : σ o j = σ o j := rfl
  obtain ⟨r2, σ1, g, h⟩ := bd_of h
  have q : σ1 o j = σ o j := (fr_s_X11_isOutside rfl _ _ _ _ g).trans q
  rcases ite_of h with h | h
  · rcases ite_of h with h | h
    · obtain ⟨v3, -, h⟩ := lt_of h
      exact (fr_s_X11_feed_38 ho  n x2 v3 σ1  h).trans q
    · exact fr_e2 h q
  · exact fr_e2 h q
abbrev W_X11_rule : List (Nat × Option Nat) := [(0, some 15), (25, some 0), (25, some 1), (25, some 3), (25, some 4), (25, some 5), (25, some 6), (25, some 7), (27, some 0), (29, none), (30, none), (31, none), (32, none), (33, none), (34, none), (35, none), (36, none), (37, none), (38, none), (62, none)]
set_option maxRecDepth 20000 in
theorem fr_s_X11_rule {n o j : Nat} {r : Int32} {τ : Sg} (ho : fok W_X11_rule o j = true) (x1 : Int32) (σ : Sg) (h : s_X11_rule n x1 σ = some (r, τ)) : τ o j = σ o j := by
  unfold s_X11_rule at h
  have q : σ o j = σ o j := rfl
  obtain ⟨r2, σ1, g, h⟩ := bd_of h
  have q : σ1 o j = σ o j := (fr_s_X11_isOutside rfl _ _ _ _ g).trans q
  rcases ite_of h with h | h
  · rcases ite_of h with h | h
    · obtain ⟨r4, σ3, g, h⟩ := bdr_of h
      have hl := draft_law g
      have q : σ3 o j = σ o j := (fr_s_X6_draft rfl _ g).trans q
      obtain ⟨r6, σ5, g, h⟩ := bd_of h
      have q : σ5 o j = σ o j := (fr_s_X5_read (fok_sub ho (by decide)) _ _ _ (lawne ho (by assumption) (by decide)) g).trans q
      rcases ite_of h with h | h
      · obtain ⟨σ7, e, h⟩ := lt_of h
        have q : σ7 o j = σ o j := by rw [e]; exact (up2_f ho (by decide)).trans q
        obtain ⟨r9, σ8, g, h⟩ := bd_of h
        have q : σ8 o j = σ o j := (fr_s_X6_enact (fok_sub ho (by decide)) _ _  g).trans q
        exact fr_e2 h q
      · exact fr_e2 h q
    · exact fr_e2 h q
  · exact fr_e2 h q
abbrev W_X11_fault : List (Nat × Option Nat) := []
set_option maxRecDepth 20000 in
theorem fr_s_X11_fault {n o j : Nat} {r : Int32} {τ : Sg} (ho : fok W_X11_fault o j = true) (σ : Sg) (h : s_X11_fault n σ = some (r, τ)) : τ o j = σ o j := by
  unfold s_X11_fault at h
  have q : σ o j = σ o j := rfl
  exact fr_e2 h q
abbrev W_X11_force : List (Nat × Option Nat) := [(38, none)]
set_option maxRecDepth 20000 in
theorem fr_s_X11_force {n o j : Nat} {r : Int32} {τ : Sg} (ho : fok W_X11_force o j = true) (x1 : Int32) (x2 : Int32) (σ : Sg) (h : s_X11_force n x1 x2 σ = some (r, τ)) : τ o j = σ o j := by
  unfold s_X11_force at h
  have q : σ o j = σ o j := rfl
  obtain ⟨r2, σ1, g, h⟩ := bd_of h
  have q : σ1 o j = σ o j := (fr_s_X11_isOutside rfl _ _ _ _ g).trans q
  rcases ite_of h with h | h
  · obtain ⟨r4, σ3, g, h⟩ := bd_of h
    have q : σ3 o j = σ o j := (fr_s_X11_isOutside rfl _ _ _ _ g).trans q
    rcases ite_of h with h | h
    · obtain ⟨σ5, g, h⟩ := bdv_of h
      have q : σ5 o j = σ o j := (fr_s_X6_hold (fok_sub ho (by decide)) _ _ _ (fok_a ho (by decide)) g).trans q
      rcases ite_of h with h | h
      · exact fr_e2 h q
      · rcases ite_of h with h | h
        · exact fr_e2 h q
        · rcases ite_of h with h | h
          · exact fr_e2 h q
          · rcases ite_of h with h | h
            · exact fr_e2 h q
            · rcases ite_of h with h | h
              · exact fr_e2 h q
              · rcases ite_of h with h | h
                · exact fr_e2 h q
                · obtain ⟨r12, σ11, g, h⟩ := bd_of h
                  have q : σ11 o j = σ o j := (fr_s_X2_key rfl _ _ _ g).trans q
                  exact fr_e2 h q
    · exact fr_e2 h q
  · exact fr_e2 h q
abbrev W_X11_supplyHour : List (Nat × Option Nat) := [(10, none), (38, none), (39, some 9), (39, some 10), (41, none), (42, none), (45, none), (47, none), (48, none), (49, none), (50, none)]
set_option maxRecDepth 20000 in
theorem fr_s_X11_supplyHour {n o j : Nat} {τ : Sg} (ho : fok W_X11_supplyHour o j = true) (x1 : Int32) (σ : Sg) (h : s_X11_supplyHour n x1 σ = some τ) : τ o j = σ o j := by
  unfold s_X11_supplyHour at h
  have q : σ o j = σ o j := rfl
  obtain ⟨r2, σ1, g, h⟩ := bd_of h
  have q : σ1 o j = σ o j := (fr_s_X11_today rfl _ g).trans q
  obtain ⟨σ3, g, h⟩ := bdv_of h
  have q : σ3 o j = σ o j := (fr_s_X6_hold (fok_sub ho (by decide)) _ _ _ (fok_a ho (by decide)) g).trans q
  obtain ⟨σ4, g, h⟩ := bdv_of h
  have q : σ4 o j = σ o j := (fr_s_X9_ask (fok_sub ho (by decide)) _ _ _ _  g).trans q
  obtain ⟨σ5, g, h⟩ := bdv_of h
  have q : σ5 o j = σ o j := (fr_s_X9_begin (fok_sub ho (by decide)) _ _ _ _  g).trans q
  obtain ⟨σ6, g, h⟩ := bdv_of h
  have q : σ6 o j = σ o j := (fr_s_X9_serve (fok_sub ho (by decide)) _  g).trans q
  exact fr_e1 h q
abbrev W_X11_stepIsDry : List (Nat × Option Nat) := [(0, some 12), (0, some 14), (10, none), (18, none), (19, none), (20, none), (21, none), (24, none), (38, none), (39, some 9), (39, some 10), (41, none), (42, none), (43, none), (44, none), (45, none), (47, none), (48, none), (49, none), (50, none)]
set_option maxRecDepth 20000 in
theorem fr_s_X11_stepIsDry {n o j : Nat} {r : Int32} {τ : Sg} (ho : fok W_X11_stepIsDry o j = true) (σ : Sg) (h : s_X11_stepIsDry n σ = some (r, τ)) : τ o j = σ o j := by
  unfold s_X11_stepIsDry at h
  have q : σ o j = σ o j := rfl
  obtain ⟨σ1, g, h⟩ := bdv_of h
  have q : σ1 o j = σ o j := (fr_s_X11_supplyHour (fok_sub ho (by decide)) _ _  g).trans q
  obtain ⟨σ2, g, h⟩ := bdv_of h
  have q : σ2 o j = σ o j := (fr_s_X9_settle (fok_sub ho (by decide)) _ _ (by rw [show rf 22 1 = 24 from by decide]; exact fok_a ho (by decide)) g).trans q
  obtain ⟨σ3, g, h⟩ := bdv_of h
  have q : σ3 o j = σ o j := (fr_s_X8_remember (fok_sub ho (by decide)) _  g).trans q
  obtain ⟨σ4, e, h⟩ := lt_of h
  have q : σ4 o j = σ o j := by rw [e]; exact (up2_f ho (by decide)).trans q
  obtain ⟨σ5, e, h⟩ := lt_of h
  have q : σ5 o j = σ o j := by rw [e]; exact (up2_f ho (by decide)).trans q
  obtain ⟨r7, σ6, g, h⟩ := bd_of h
  have q : σ6 o j = σ o j := (fr_s_X9_someDry rfl _ _ _ g).trans q
  have h := (bck_of h).2
  exact fr_e2 h q
abbrev W_X11_go : List (Nat × Option Nat) := [(0, some 12), (0, some 13), (0, some 14), (0, some 15), (10, none), (18, none), (19, none), (20, none), (21, none), (24, none), (38, none), (39, some 9), (39, some 10), (41, none), (42, none), (43, none), (44, none), (45, none), (47, none), (48, none), (49, none), (50, none)]
set_option maxRecDepth 20000 in
theorem fr_s_X11_go_45b {n o j : Nat} {r : Int32} {τ : Sg} (ho : fok W_X11_go o j = true) (rc45 : Int32 → Int32 → Int32 → Sg → Option (Int32 × Sg)) (H45 : ∀ (x1 : Int32) (x2 : Int32) (x3 : Int32) (σ : Sg), rc45 x1 x2 x3 σ = some (r, τ) → τ o j = σ o j) (x1 : Int32) (x2 : Int32) (x3 : Int32) (σ : Sg) (h : s_X11_go_45b n rc45 x1 x2 x3 σ = some (r, τ)) : τ o j = σ o j := by
  unfold s_X11_go_45b at h
  have q : σ o j = σ o j := rfl
  rcases ite_of h with h | h
  · obtain ⟨σ4, e, h⟩ := lt_of h
    have q : σ4 o j = σ o j := by rw [e]; exact (up2_f ho (by decide)).trans q
    exact fr_e2 h q
  · obtain ⟨r6, σ5, g, h⟩ := bd_of h
    have q : σ5 o j = σ o j := (fr_s_X11_stepIsDry (fok_sub ho (by decide)) _  g).trans q
    rcases ite_of h with h | h
    · exact (H45 x1 x2 (x3 + (1 : Int32)) σ5  h).trans q
    · exact (H45 x1 (x2 + (1 : Int32)) (x3 + (1 : Int32)) σ5  h).trans q
theorem fr_s_X11_go_45 {n o j : Nat} {r : Int32} {τ : Sg} (ho : fok W_X11_go o j = true) : ∀ (k : Nat) (x1 : Int32) (x2 : Int32) (x3 : Int32) (σ : Sg), s_X11_go_45 n k x1 x2 x3 σ = some (r, τ) → τ o j = σ o j := by
  intro k
  induction k with
  | zero => intro x1 x2 x3 σ  h; cases h
  | succ k ih => intro x1 x2 x3 σ  h; exact fr_s_X11_go_45b ho  (s_X11_go_45 n  k) ih x1 x2 x3 σ  h
set_option maxRecDepth 20000 in
theorem fr_s_X11_go {n o j : Nat} {r : Int32} {τ : Sg} (ho : fok W_X11_go o j = true) (x1 : Int32) (σ : Sg) (h : s_X11_go n x1 σ = some (r, τ)) : τ o j = σ o j := by
  unfold s_X11_go at h
  have q : σ o j = σ o j := rfl
  obtain ⟨r2, σ1, g, h⟩ := bd_of h
  have q : σ1 o j = σ o j := (fr_s_X11_isOutside rfl _ _ _ _ g).trans q
  rcases ite_of h with h | h
  · rcases ite_of h with h | h
    · obtain ⟨σ3, e, h⟩ := lt_of h
      have q : σ3 o j = σ o j := by rw [e]; exact (up2_f ho (by decide)).trans q
      exact (fr_s_X11_go_45 ho  n x1 (0 : Int32) (0 : Int32) σ3  h).trans q
    · exact fr_e2 h q
  · exact fr_e2 h q
abbrev W_X11_flow : List (Nat × Option Nat) := [(10, none), (38, none), (39, some 9), (39, some 10), (41, none), (42, none), (45, none), (47, none), (48, none), (49, none), (50, none)]
set_option maxRecDepth 20000 in
theorem fr_s_X11_flow_30 {n o j : Nat} {r : Int32} {τ : Sg} (ho : fok W_X11_flow o j = true) (x1 : Int32) (x2 : Int32) (x3 : Int32) (y0 : Int32) (σ : Sg) (h : s_X11_flow_30 n x1 x2 x3 y0 σ = some (r, τ)) : τ o j = σ o j := by
  unfold s_X11_flow_30 at h
  have q : σ o j = σ o j := rfl
  obtain ⟨r7, σ6, g, h⟩ := bd_of h
  have q : σ6 o j = σ o j := (fr_s_X11_isOutside rfl _ _ _ _ g).trans q
  rcases ite_of h with h | h
  · obtain ⟨r9, σ8, g, h⟩ := bd_of h
    have q : σ8 o j = σ o j := (fr_s_X11_isOutside rfl _ _ _ _ g).trans q
    rcases ite_of h with h | h
    · obtain ⟨σ10, g, h⟩ := bdv_of h
      have q : σ10 o j = σ o j := (fr_s_X11_supplyHour (fok_sub ho (by decide)) _ _  g).trans q
      rcases ite_of h with h | h
      · have h := (ck_of h).2
        exact fr_e2 h q
      · rcases ite_of h with h | h
        · have h := (ck_of h).2
          exact fr_e2 h q
        · rcases ite_of h with h | h
          · exact fr_e2 h q
          · obtain ⟨r15, σ14, g, h⟩ := bd_of h
            have q : σ14 o j = σ o j := (fr_s_X9_gotByAll rfl _ g).trans q
            exact fr_e2 h q
    · exact fr_e2 h q
  · exact fr_e2 h q
set_option maxRecDepth 20000 in
theorem fr_s_X11_flow_20 {n o j : Nat} {r : Int32} {τ : Sg} (ho : fok W_X11_flow o j = true) (x1 : Int32) (x2 : Int32) (x3 : Int32) (σ : Sg) (h : s_X11_flow_20 n x1 x2 x3 σ = some (r, τ)) : τ o j = σ o j := by
  unfold s_X11_flow_20 at h
  have q : σ o j = σ o j := rfl
  obtain ⟨v5, -, h⟩ := lt_of h
  exact (fr_s_X11_flow_30 ho  x1 x2 x3 v5 σ  h).trans q
set_option maxRecDepth 20000 in
theorem fr_s_X11_flow {n o j : Nat} {r : Int32} {τ : Sg} (ho : fok W_X11_flow o j = true) (x1 : Int32) (x2 : Int32) (x3 : Int32) (σ : Sg) (h : s_X11_flow n x1 x2 x3 σ = some (r, τ)) : τ o j = σ o j := by
  unfold s_X11_flow at h
  have q : σ o j = σ o j := rfl
  rcases ite_of h with h | h
  · exact (fr_s_X11_flow_20 ho  x1 x2 x3 σ  h).trans q
  · obtain ⟨r2, σ1, g, h⟩ := bd_of h
    have q : σ1 o j = σ o j := (fr_s_X8_has rfl _ _ g).trans q
    rcases ite_of h with h | h
    · exact fr_e2 h q
    · exact (fr_s_X11_flow_20 ho  x1 x2 x3 σ1  h).trans q
abbrev W_X11_line : List (Nat × Option Nat) := [(10, none), (38, none), (39, some 9), (41, none), (42, none), (45, none)]
set_option maxRecDepth 20000 in
theorem fr_s_X11_line_72 {n o j : Nat} {r : Int32} {τ : Sg} (ho : fok W_X11_line o j = true) (σ : Sg) (h : s_X11_line_72 n σ = some (r, τ)) : τ o j = σ o j := by
  unfold s_X11_line_72 at h
  have q : σ o j = σ o j := rfl
  exact fr_e2 h q
set_option maxRecDepth 20000 in
theorem fr_s_X11_line {n o j : Nat} {r : Int32} {τ : Sg} (ho : fok W_X11_line o j = true) (x1 : Int32) (x2 : Int32) (σ : Sg) (h : s_X11_line n x1 x2 σ = some (r, τ)) : τ o j = σ o j := by
  unfold s_X11_line at h
  have q : σ o j = σ o j := rfl
  obtain ⟨r2, σ1, g, h⟩ := bd_of h
  have q : σ1 o j = σ o j := (fr_s_X11_isOutside rfl _ _ _ _ g).trans q
  rcases ite_of h with h | h
  · obtain ⟨r4, σ3, g, h⟩ := bd_of h
    have q : σ3 o j = σ o j := (fr_s_X11_today rfl _ g).trans q
    obtain ⟨σ5, g, h⟩ := bdv_of h
    have q : σ5 o j = σ o j := (fr_s_X6_hold (fok_sub ho (by decide)) _ _ _ (fok_a ho (by decide)) g).trans q
    obtain ⟨σ6, g, h⟩ := bdv_of h
    have q : σ6 o j = σ o j := (fr_s_X9_ask (fok_sub ho (by decide)) _ _ _ _  g).trans q
    rcases ite_of h with h | h
    · exact (fr_s_X11_line_72 ho  σ6  h).trans q
    · rcases ite_of h with h | h
      · exact (fr_s_X11_line_72 ho  σ6  h).trans q
      · have h := (ck_of h).2
        exact fr_e2 h q
  · exact fr_e2 h q
abbrev W_X11_draw : List (Nat × Option Nat) := [(2, none), (10, none), (38, none), (39, some 9), (39, some 10), (41, none), (42, none), (45, none), (47, none), (48, none), (49, none), (50, none)]
set_option maxRecDepth 20000 in
theorem fr_s_X11_draw {n o j : Nat} {r : Int32} {τ : Sg} (ho : fok W_X11_draw o j = true) (x1 : Int32) (x2 : Int32) (x3 : Int32) (σ : Sg) (h : s_X11_draw n x1 x2 x3 σ = some (r, τ)) : τ o j = σ o j := by
  unfold s_X11_draw at h
  have q : σ o j = σ o j := rfl
  obtain ⟨r2, σ1, g, h⟩ := bd_of h
  have q : σ1 o j = σ o j := (fr_s_X11_isNode rfl _ _ g).trans q
  rcases ite_of h with h | h
  · exact fr_e2 h q
  · obtain ⟨r4, σ3, g, h⟩ := bd_of h
    have q : σ3 o j = σ o j := (fr_s_X11_isOutside rfl _ _ _ _ g).trans q
    rcases ite_of h with h | h
    · obtain ⟨r6, σ5, g, h⟩ := bd_of h
      have q : σ5 o j = σ o j := (fr_s_X11_isOutside rfl _ _ _ _ g).trans q
      rcases ite_of h with h | h
      · obtain ⟨σ7, g, h⟩ := bdv_of h
        have q : σ7 o j = σ o j := (fr_s_X11_supplyHour (fok_sub ho (by decide)) _ _  g).trans q
        rcases ite_of h with h | h
        · obtain ⟨r16, σ15, g, h⟩ := bd_of h
          have q : σ15 o j = σ o j := (fr_s_X3_send (fok_sub ho (by decide)) _ _ _  g).trans q
          exact fr_e2 h q
        · obtain ⟨σ8, e, h⟩ := lt_of h
          have q : σ8 o j = σ o j := by rw [e]; exact (cp2_o (fok_a ho (by decide))).trans q
          obtain ⟨σ9, g, h⟩ := bdv_of h
          have q : σ9 o j = σ o j := (fr_s_X9_begin (fok_sub ho (by decide)) _ _ _ _  g).trans q
          obtain ⟨r11, σ10, g, h⟩ := bd_of h
          have q : σ10 o j = σ o j := (fr_s_X3_send (fok_sub ho (by decide)) _ _ _  g).trans q
          rcases ite_of h with h | h
          · exact fr_e2 h q
          · obtain ⟨σ12, g, h⟩ := bdv_of h
            have q : σ12 o j = σ o j := (fr_s_X9_serve (fok_sub ho (by decide)) _  g).trans q
            obtain ⟨r14, σ13, g, h⟩ := bd_of h
            have q : σ13 o j = σ o j := (fr_s_X9_gotLessThan rfl _ g).trans q
            exact fr_e2 h q
      · exact fr_e2 h q
    · exact fr_e2 h q
