abbrev W_X11_order : List (Nat × Option Nat) := [(10, none), (39, some 9), (39, some 10), (41, none), (42, none), (43, none), (44, none), (45, none), (47, none), (48, none), (49, none), (50, none), (51, some 9), (51, some 10), (51, some 12), (51, some 13), (52, none), (53, none), (54, none), (55, none), (57, none), (58, none), (62, none)]
set_option maxRecDepth 20000 in
theorem fr_s_X11_order_139 {n o j : Nat} {r : Int32} {τ : Sg} (ho : fok W_X11_order o j = true) (σ : Sg) (h : s_X11_order_139 n σ = some (r, τ)) : τ o j = σ o j := by
  unfold s_X11_order_139 at h
  have q : σ o j = σ o j := rfl
  exact fr_e2 h q
set_option maxRecDepth 20000 in
theorem fr_s_X11_order_99 {n o j : Nat} {r : Int32} {τ : Sg} (ho : fok W_X11_order o j = true) (x2 : Int32) (σ : Sg) (h : s_X11_order_99 n x2 σ = some (r, τ)) : τ o j = σ o j := by
  unfold s_X11_order_99 at h
  have q : σ o j = σ o j := rfl
  rcases ite_of h with h | h
  · exact fr_e2 h q
  · rcases ite_of h with h | h
    · exact (fr_s_X11_order_139 ho  σ  h).trans q
    · rcases ite_of h with h | h
      · exact (fr_s_X11_order_139 ho  σ  h).trans q
      · have h := (ck_of h).2
        exact fr_e2 h q
set_option maxRecDepth 20000 in
theorem fr_s_X11_order {n o j : Nat} {r : Int32} {τ : Sg} (ho : fok W_X11_order o j = true) (x1 : Int32) (x2 : Int32) (σ : Sg) (h : s_X11_order n x1 x2 σ = some (r, τ)) : τ o j = σ o j := by
  unfold s_X11_order at h
  have q : σ o j = σ o j := rfl
  obtain ⟨r2, σ1, g, h⟩ := bd_of h
  have q : σ1 o j = σ o j := (fr_s_X8_hasAll rfl _ _ g).trans q
  rcases ite_of h with h | h
  · exact fr_e2 h q
  · obtain ⟨r4, σ3, g, h⟩ := bd_of h
    have q : σ3 o j = σ o j := (fr_s_J6_bitCount_0f7a4 rfl _ _ g).trans q
    rcases ite_of h with h | h
    · obtain ⟨r6, σ5, g, h⟩ := bd_of h
      have q : σ5 o j = σ o j := (fr_s_X7_hasAlways rfl _ _ _ _ g).trans q
      rcases ite_of h with h | h
      · obtain ⟨r8, σ7, g, h⟩ := bd_of h
        have q : σ7 o j = σ o j := (fr_s_X10_isPlanned rfl _ _ _ g).trans q
        rcases ite_of h with h | h
        · obtain ⟨r10, σ9, g, h⟩ := bd_of h
          have q : σ9 o j = σ o j := (fr_s_X11_today rfl _ g).trans q
          obtain ⟨σ11, g, h⟩ := bdv_of h
          have q : σ11 o j = σ o j := (fr_s_X10_choose (fok_sub ho (by decide)) _ _ _ _  g).trans q
          obtain ⟨σ12, g, h⟩ := bdv_of h
          have q : σ12 o j = σ o j := (fr_s_X10_weigh (fok_sub ho (by decide)) _ _  g).trans q
          obtain ⟨σ13, g, h⟩ := bdv_of h
          have q : σ13 o j = σ o j := (fr_s_X10_follow (fok_sub ho (by decide)) _  g).trans q
          exact (fr_s_X11_order_99 ho  x2 σ13  h).trans q
        · exact (fr_s_X11_order_99 ho  x2 σ7  h).trans q
      · exact fr_e2 h q
    · exact fr_e2 h q
abbrev W_X11_cuts : List (Nat × Option Nat) := [(10, none)]
set_option maxRecDepth 20000 in
theorem fr_s_X11_cuts_55 {n o j : Nat} {r : Int32} {τ : Sg} (ho : fok W_X11_cuts o j = true) (y0 : Int32) (y1 : Int32) (σ : Sg) (h : s_X11_cuts_55 n y0 y1 σ = some (r, τ)) : τ o j = σ o j := by
  unfold s_X11_cuts_55 at h
  have q : σ o j = σ o j := rfl
  obtain ⟨r9, σ8, g, h⟩ := bd_of h
  have q : σ8 o j = σ o j := (fr_s_X4_joined (fok_sub ho (by decide)) _ _ _  g).trans q
  obtain ⟨r11, σ10, g, h⟩ := bd_of h
  have q : σ10 o j = σ o j := (fr_s_X8_apart rfl _ _ g).trans q
  exact fr_e2 h q
set_option maxRecDepth 20000 in
theorem fr_s_X11_cuts {n o j : Nat} {r : Int32} {τ : Sg} (ho : fok W_X11_cuts o j = true) (x1 : Int32) (x2 : Int32) (σ : Sg) (h : s_X11_cuts n x1 x2 σ = some (r, τ)) : τ o j = σ o j := by
  unfold s_X11_cuts at h
  have q : σ o j = σ o j := rfl
  obtain ⟨r2, σ1, g, h⟩ := bd_of h
  have q : σ1 o j = σ o j := (fr_s_X4_hasAll rfl _ _ g).trans q
  rcases ite_of h with h | h
  · exact fr_e2 h q
  · obtain ⟨r4, σ3, g, h⟩ := bd_of h
    have q : σ3 o j = σ o j := (fr_s_X11_isOutside rfl _ _ _ _ g).trans q
    rcases ite_of h with h | h
    · obtain ⟨v7, -, h⟩ := lt_of h
      exact (fr_s_X11_cuts_55 ho  v7 ((σ3 3 1) ||| x1) σ3  h).trans q
    · exact fr_e2 h q
abbrev W_X11_wrong : List (Nat × Option Nat) := [(10, none)]
set_option maxRecDepth 20000 in
theorem fr_s_X11_wrong_4b {n o j : Nat} {r : Int32} {τ : Sg} (ho : fok W_X11_wrong o j = true) (rc4 : Int32 → Int32 → Sg → Option (Int32 × Sg)) (H4 : ∀ (x1 : Int32) (x2 : Int32) (σ : Sg), rc4 x1 x2 σ = some (r, τ) → τ o j = σ o j) (x1 : Int32) (x2 : Int32) (σ : Sg) (h : s_X11_wrong_4b n rc4 x1 x2 σ = some (r, τ)) : τ o j = σ o j := by
  unfold s_X11_wrong_4b at h
  have q : σ o j = σ o j := rfl
  rcases ite_of h with h | h
  · exact fr_e2 h q
  · obtain ⟨r2, σ1, g, h⟩ := bd_of h
    have q : σ1 o j = σ o j := (fr_s_X4_joined (fok_sub ho (by decide)) _ _ _  g).trans q
    obtain ⟨r4, σ3, g, h⟩ := bd_of h
    have q : σ3 o j = σ o j := (fr_s_X8_apart rfl _ _ g).trans q
    obtain ⟨r6, σ5, g, h⟩ := bd_of h
    have q : σ5 o j = σ o j := (fr_s_X4_joined (fok_sub ho (by decide)) _ _ _  g).trans q
    obtain ⟨r8, σ7, g, h⟩ := bd_of h
    have q : σ7 o j = σ o j := (fr_s_X8_apart rfl _ _ g).trans q
    rcases ite_of h with h | h
    · exact (H4 x1 (x2 + (1 : Int32)) σ7  h).trans q
    · obtain ⟨v9, -, h⟩ := lt_of h
      exact (H4 v9 (x2 + (1 : Int32)) σ7  h).trans q
theorem fr_s_X11_wrong_4 {n o j : Nat} {r : Int32} {τ : Sg} (ho : fok W_X11_wrong o j = true) : ∀ (k : Nat) (x1 : Int32) (x2 : Int32) (σ : Sg), s_X11_wrong_4 n k x1 x2 σ = some (r, τ) → τ o j = σ o j := by
  intro k
  induction k with
  | zero => intro x1 x2 σ  h; cases h
  | succ k ih => intro x1 x2 σ  h; exact fr_s_X11_wrong_4b ho  (s_X11_wrong_4 n  k) ih x1 x2 σ  h
set_option maxRecDepth 20000 in
theorem fr_s_X11_wrong {n o j : Nat} {r : Int32} {τ : Sg} (ho : fok W_X11_wrong o j = true) (σ : Sg) (h : s_X11_wrong n σ = some (r, τ)) : τ o j = σ o j := by
  unfold s_X11_wrong at h
  have q : σ o j = σ o j := rfl
  exact (fr_s_X11_wrong_4 ho  n (0 : Int32) (0 : Int32) σ  h).trans q
abbrev W_X11_gauge : List (Nat × Option Nat) := [(63, some 0), (64, none), (65, none)]
set_option maxRecDepth 20000 in
theorem fr_s_X11_gauge {n o j : Nat} {r : Int32} {τ : Sg} (ho : fok W_X11_gauge o j = true) (x1 : Int32) (x2 : Int32) (σ : Sg) (h : s_X11_gauge n x1 x2 σ = some (r, τ)) : τ o j = σ o j := by
  unfold s_X11_gauge at h
  have q : σ o j = σ o j := rfl
  obtain ⟨r2, σ1, g, h⟩ := bd_of h
  have q : σ1 o j = σ o j := (fr_s_X4_hasAll rfl _ _ g).trans q
  rcases ite_of h with h | h
  · exact fr_e2 h q
  · obtain ⟨r4, σ3, g, h⟩ := bd_of h
    have q : σ3 o j = σ o j := (fr_s_X11_isOutside rfl _ _ _ _ g).trans q
    rcases ite_of h with h | h
    · rcases ite_of h with h | h
      · obtain ⟨r6, σ5, g, h⟩ := bd_of h
        have q : σ5 o j = σ o j := (fr_s_X1_put (fok_sub ho (by decide)) _ _ _  g).trans q
        exact fr_e2 h q
      · exact fr_e2 h q
    · exact fr_e2 h q
abbrev W_X11_guess : List (Nat × Option Nat) := [(63, some 1), (66, none)]
set_option maxRecDepth 20000 in
theorem fr_s_X11_guess_65 {n o j : Nat} {r : Int32} {τ : Sg} (ho : fok W_X11_guess o j = true) (x1 : Int32) (x2 : Int32) (σ : Sg) (h : s_X11_guess_65 n x1 x2 σ = some (r, τ)) : τ o j = σ o j := by
  unfold s_X11_guess_65 at h
  have q : σ o j = σ o j := rfl
  obtain ⟨σ7, g, h⟩ := bdv_of h
  have q : σ7 o j = σ o j := (fr_s_X1_suppose (fok_sub ho (by decide)) _ _ _  g).trans q
  exact fr_e2 h q
set_option maxRecDepth 20000 in
theorem fr_s_X11_guess_35 {n o j : Nat} {r : Int32} {τ : Sg} (ho : fok W_X11_guess o j = true) (x1 : Int32) (x2 : Int32) (σ : Sg) (h : s_X11_guess_35 n x1 x2 σ = some (r, τ)) : τ o j = σ o j := by
  unfold s_X11_guess_35 at h
  have q : σ o j = σ o j := rfl
  rcases ite_of h with h | h
  · exact (fr_s_X11_guess_65 ho  x1 x2 σ  h).trans q
  · obtain ⟨r6, σ5, g, h⟩ := bd_of h
    have q : σ5 o j = σ o j := (fr_s_J6_bitCount_0f7a4 rfl _ _ g).trans q
    rcases ite_of h with h | h
    · exact (fr_s_X11_guess_65 ho  x1 x2 σ5  h).trans q
    · exact fr_e2 h q
set_option maxRecDepth 20000 in
theorem fr_s_X11_guess {n o j : Nat} {r : Int32} {τ : Sg} (ho : fok W_X11_guess o j = true) (x1 : Int32) (x2 : Int32) (σ : Sg) (h : s_X11_guess n x1 x2 σ = some (r, τ)) : τ o j = σ o j := by
  unfold s_X11_guess at h
  have q : σ o j = σ o j := rfl
  obtain ⟨r2, σ1, g, h⟩ := bd_of h
  have q : σ1 o j = σ o j := (fr_s_X4_has rfl _ _ g).trans q
  rcases ite_of h with h | h
  · exact fr_e2 h q
  · rcases ite_of h with h | h
    · exact (fr_s_X11_guess_35 ho  x1 x2 σ1  h).trans q
    · obtain ⟨r4, σ3, g, h⟩ := bd_of h
      have q : σ3 o j = σ o j := (fr_s_X11_isOutside rfl _ _ _ _ g).trans q
      rcases ite_of h with h | h
      · exact (fr_s_X11_guess_35 ho  x1 x2 σ3  h).trans q
      · exact fr_e2 h q
abbrev W_X11_explain : List (Nat × Option Nat) := [(63, some 2), (63, some 3), (63, some 8), (67, none)]
set_option maxRecDepth 20000 in
theorem fr_s_X11_explain {n o j : Nat} {r : Int32} {τ : Sg} (ho : fok W_X11_explain o j = true) (x1 : Int32) (σ : Sg) (h : s_X11_explain n x1 σ = some (r, τ)) : τ o j = σ o j := by
  unfold s_X11_explain at h
  have q : σ o j = σ o j := rfl
  obtain ⟨r2, σ1, g, h⟩ := bd_of h
  have q : σ1 o j = σ o j := (fr_s_X11_isOutside rfl _ _ _ _ g).trans q
  rcases ite_of h with h | h
  · rcases ite_of h with h | h
    · exact fr_e2 h q
    · obtain ⟨σ3, g, h⟩ := bdv_of h
      have q : σ3 o j = σ o j := (fr_s_X1_search (fok_sub ho (by decide)) _  g).trans q
      rcases ite_of h with h | h
      · exact fr_e2 h q
      · exact fr_e2 h q
  · exact fr_e2 h q
abbrev W_X11_beds : List (Nat × Option Nat) := [(68, some 1), (68, some 2), (68, some 3), (68, some 4), (68, some 5), (68, some 6), (68, some 7), (69, none), (70, none)]
set_option maxRecDepth 20000 in
theorem fr_s_X11_beds_109 {n o j : Nat} {r : Int32} {τ : Sg} (ho : fok W_X11_beds o j = true) (σ : Sg) (h : s_X11_beds_109 n σ = some (r, τ)) : τ o j = σ o j := by
  unfold s_X11_beds_109 at h
  have q : σ o j = σ o j := rfl
  exact fr_e2 h q
set_option maxRecDepth 20000 in
theorem fr_s_X11_beds {n o j : Nat} {r : Int32} {τ : Sg} (ho : fok W_X11_beds o j = true) (x1 : Int32) (x2 : Int32) (x3 : Int32) (x4 : Int32) (x5 : Int32) (x6 : Int32) (σ : Sg) (h : s_X11_beds n x1 x2 x3 x4 x5 x6 σ = some (r, τ)) : τ o j = σ o j := by
  unfold s_X11_beds at h
  have q : σ o j = σ o j := rfl
  obtain ⟨r2, σ1, g, h⟩ := bd_of h
  have q : σ1 o j = σ o j := (fr_s_X11_isOutside rfl _ _ _ _ g).trans q
  rcases ite_of h with h | h
  · obtain ⟨r4, σ3, g, h⟩ := bd_of h
    have q : σ3 o j = σ o j := (fr_s_X11_isOutside rfl _ _ _ _ g).trans q
    rcases ite_of h with h | h
    · obtain ⟨r6, σ5, g, h⟩ := bd_of h
      have q : σ5 o j = σ o j := (fr_s_X11_isOutside rfl _ _ _ _ g).trans q
      rcases ite_of h with h | h
      · obtain ⟨r8, σ7, g, h⟩ := bd_of h
        have q : σ7 o j = σ o j := (fr_s_X11_isOutside rfl _ _ _ _ g).trans q
        rcases ite_of h with h | h
        · obtain ⟨r10, σ9, g, h⟩ := bd_of h
          have q : σ9 o j = σ o j := (fr_s_X11_isOutside rfl _ _ _ _ g).trans q
          rcases ite_of h with h | h
          · obtain ⟨σ11, g, h⟩ := bdv_of h
            have q : σ11 o j = σ o j := (fr_s_X0_plan (fok_sub ho (by decide)) _ _ _ _ _ _  g).trans q
            rcases ite_of h with h | h
            · exact fr_e2 h q
            · rcases ite_of h with h | h
              · exact (fr_s_X11_beds_109 ho  σ11  h).trans q
              · rcases ite_of h with h | h
                · exact (fr_s_X11_beds_109 ho  σ11  h).trans q
                · have h := (ck_of h).2
                  exact fr_e2 h q
          · exact fr_e2 h q
        · exact fr_e2 h q
      · exact fr_e2 h q
    · exact fr_e2 h q
  · exact fr_e2 h q
abbrev W_X11_river : List (Nat × Option Nat) := [(1, none)]
set_option maxRecDepth 20000 in
theorem fr_s_X11_river {n o j : Nat} {r : Int32} {τ : Sg} (ho : fok W_X11_river o j = true) (x1 : Int32) (x2 : Int32) (σ : Sg) (h : s_X11_river n x1 x2 σ = some (r, τ)) : τ o j = σ o j := by
  unfold s_X11_river at h
  have q : σ o j = σ o j := rfl
  obtain ⟨r2, σ1, g, h⟩ := bd_of h
  have q : σ1 o j = σ o j := (fr_s_X11_isOutside rfl _ _ _ _ g).trans q
  rcases ite_of h with h | h
  · obtain ⟨r4, σ3, g, h⟩ := bd_of h
    have q : σ3 o j = σ o j := (fr_s_X11_isOutside rfl _ _ _ _ g).trans q
    rcases ite_of h with h | h
    · have h := (ck_of h).2
      obtain ⟨v5, -, h⟩ := lt_of h
      have h := (ck_of h).2
      obtain ⟨σ6, e, h⟩ := lt_of h
      have q : σ6 o j = σ o j := by rw [e]; exact (up2_o (fok_a ho (by decide))).trans q
      exact fr_e2 h q
    · exact fr_e2 h q
  · exact fr_e2 h q
abbrev W_X11_share : List (Nat × Option Nat) := []
set_option maxRecDepth 20000 in
theorem fr_s_X11_share_112 {n o j : Nat} {r : Int32} {τ : Sg} (ho : fok W_X11_share o j = true) (rc61 : Int32 → Int32 → Int32 → Int32 → Int32 → Int32 → Int32 → Int32 → Int32 → Sg → Option (Int32 × Sg)) (H61 : ∀ (x1 : Int32) (x2 : Int32) (x3 : Int32) (x4 : Int32) (x5 : Int32) (x6 : Int32) (x7 : Int32) (x8 : Int32) (x9 : Int32) (σ : Sg), rc61 x1 x2 x3 x4 x5 x6 x7 x8 x9 σ = some (r, τ) → τ o j = σ o j) (x1 : Int32) (x2 : Int32) (x3 : Int32) (x4 : Int32) (x5 : Int32) (x6 : Int32) (x7 : Int32) (x8 : Int32) (x9 : Int32) (x10 : Int32) (x11 : Int32) (σ : Sg) (h : s_X11_share_112 n rc61 x1 x2 x3 x4 x5 x6 x7 x8 x9 x10 x11 σ = some (r, τ)) : τ o j = σ o j := by
  unfold s_X11_share_112 at h
  have q : σ o j = σ o j := rfl
  obtain ⟨v11, -, h⟩ := lt_of h
  obtain ⟨v12, -, h⟩ := lt_of h
  have h := (ck_of h).2
  obtain ⟨v13, -, h⟩ := lt_of h
  exact (H61 x1 x2 x3 x4 x5 v11 v12 v13 (x9 + (1 : Int32)) σ  h).trans q
set_option maxRecDepth 20000 in
theorem fr_s_X11_share_61b {n o j : Nat} {r : Int32} {τ : Sg} (ho : fok W_X11_share o j = true) (rc61 : Int32 → Int32 → Int32 → Int32 → Int32 → Int32 → Int32 → Int32 → Int32 → Sg → Option (Int32 × Sg)) (H61 : ∀ (x1 : Int32) (x2 : Int32) (x3 : Int32) (x4 : Int32) (x5 : Int32) (x6 : Int32) (x7 : Int32) (x8 : Int32) (x9 : Int32) (σ : Sg), rc61 x1 x2 x3 x4 x5 x6 x7 x8 x9 σ = some (r, τ) → τ o j = σ o j) (x1 : Int32) (x2 : Int32) (x3 : Int32) (x4 : Int32) (x5 : Int32) (x6 : Int32) (x7 : Int32) (x8 : Int32) (x9 : Int32) (σ : Sg) (h : s_X11_share_61b n rc61 x1 x2 x3 x4 x5 x6 x7 x8 x9 σ = some (r, τ)) : τ o j = σ o j := by
  unfold s_X11_share_61b at h
  have q : σ o j = σ o j := rfl
  rcases ite_of h with h | h
  · rcases ite_of h with h | h
    · exact fr_e2 h q
    · rcases ite_of h with h | h
      · exact fr_e2 h q
      · rcases ite_of h with h | h
        · exact fr_e2 h q
        · exact fr_e2 h q
  · have h := (ck_of h).2
    obtain ⟨v9, -, h⟩ := lt_of h
    have h := (ck_of h).2
    obtain ⟨v10, -, h⟩ := lt_of h
    rcases ite_of h with h | h
    · exact (fr_s_X11_share_112 ho rc61 H61 x1 x2 x3 x4 x5 x6 x7 x8 x9 v9 v10 σ  h).trans q
    · rcases ite_of h with h | h
      · exact (fr_s_X11_share_112 ho rc61 H61 x1 x2 x3 x4 x9 x6 x7 x8 x9 v9 v10 σ  h).trans q
      · exact (fr_s_X11_share_112 ho rc61 H61 x1 x2 x3 x4 x5 x6 x7 x8 x9 v9 v10 σ  h).trans q
theorem fr_s_X11_share_61 {n o j : Nat} {r : Int32} {τ : Sg} (ho : fok W_X11_share o j = true) : ∀ (k : Nat) (x1 : Int32) (x2 : Int32) (x3 : Int32) (x4 : Int32) (x5 : Int32) (x6 : Int32) (x7 : Int32) (x8 : Int32) (x9 : Int32) (σ : Sg), s_X11_share_61 n k x1 x2 x3 x4 x5 x6 x7 x8 x9 σ = some (r, τ) → τ o j = σ o j := by
  intro k
  induction k with
  | zero => intro x1 x2 x3 x4 x5 x6 x7 x8 x9 σ  h; cases h
  | succ k ih => intro x1 x2 x3 x4 x5 x6 x7 x8 x9 σ  h; exact fr_s_X11_share_61b ho  (s_X11_share_61 n  k) ih x1 x2 x3 x4 x5 x6 x7 x8 x9 σ  h
set_option maxRecDepth 20000 in
theorem fr_s_X11_share {n o j : Nat} {r : Int32} {τ : Sg} (ho : fok W_X11_share o j = true) (x1 : Int32) (x2 : Int32) (x3 : Int32) (x4 : Int32) (σ : Sg) (h : s_X11_share n x1 x2 x3 x4 σ = some (r, τ)) : τ o j = σ o j := by
  unfold s_X11_share at h
  have q : σ o j = σ o j := rfl
  obtain ⟨r2, σ1, g, h⟩ := bd_of h
  have q : σ1 o j = σ o j := (fr_s_X11_isOutside rfl _ _ _ _ g).trans q
  rcases ite_of h with h | h
  · obtain ⟨r4, σ3, g, h⟩ := bd_of h
    have q : σ3 o j = σ o j := (fr_s_X11_isOutside rfl _ _ _ _ g).trans q
    rcases ite_of h with h | h
    · obtain ⟨r6, σ5, g, h⟩ := bd_of h
      have q : σ5 o j = σ o j := (fr_s_X11_isOutside rfl _ _ _ _ g).trans q
      rcases ite_of h with h | h
      · obtain ⟨r8, σ7, g, h⟩ := bd_of h
        have q : σ7 o j = σ o j := (fr_s_X11_isOutside rfl _ _ _ _ g).trans q
        rcases ite_of h with h | h
        · exact (fr_s_X11_share_61 ho  n x1 x2 x3 x4 (-1 : Int32) (0 : Int32) (0 : Int32) (0 : Int32) (0 : Int32) σ7  h).trans q
        · exact fr_e2 h q
      · exact fr_e2 h q
    · exact fr_e2 h q
  · exact fr_e2 h q
abbrev W_X11_gains : List (Nat × Option Nat) := [(38, none)]
set_option maxRecDepth 20000 in
theorem fr_s_X11_gains_4b {n o j : Nat} {r : Int32} {τ : Sg} (ho : fok W_X11_gains o j = true) (rc4 : Int32 → Int32 → Sg → Option (Int32 × Sg)) (H4 : ∀ (x1 : Int32) (x2 : Int32) (σ : Sg), rc4 x1 x2 σ = some (r, τ) → τ o j = σ o j) (x1 : Int32) (x2 : Int32) (σ : Sg) (h : s_X11_gains_4b n rc4 x1 x2 σ = some (r, τ)) : τ o j = σ o j := by
  unfold s_X11_gains_4b at h
  have q : σ o j = σ o j := rfl
  rcases ite_of h with h | h
  · exact fr_e2 h q
  · obtain ⟨r2, σ1, g, h⟩ := bd_of h
    have q : σ1 o j = σ o j := (fr_s_X11_paysByMeter (fok_sub ho (by decide)) _ _  g).trans q
    obtain ⟨r4, σ3, g, h⟩ := bd_of h
    have q : σ3 o j = σ o j := (fr_s_X11_paysByRooms (fok_sub ho (by decide)) _ _  g).trans q
    rcases ite_of h with h | h
    · exact (H4 x1 (x2 + (1 : Int32)) σ3  h).trans q
    · exact (H4 (x1 + (1 : Int32)) (x2 + (1 : Int32)) σ3  h).trans q
theorem fr_s_X11_gains_4 {n o j : Nat} {r : Int32} {τ : Sg} (ho : fok W_X11_gains o j = true) : ∀ (k : Nat) (x1 : Int32) (x2 : Int32) (σ : Sg), s_X11_gains_4 n k x1 x2 σ = some (r, τ) → τ o j = σ o j := by
  intro k
  induction k with
  | zero => intro x1 x2 σ  h; cases h
  | succ k ih => intro x1 x2 σ  h; exact fr_s_X11_gains_4b ho  (s_X11_gains_4 n  k) ih x1 x2 σ  h
set_option maxRecDepth 20000 in
theorem fr_s_X11_gains {n o j : Nat} {r : Int32} {τ : Sg} (ho : fok W_X11_gains o j = true) (σ : Sg) (h : s_X11_gains n σ = some (r, τ)) : τ o j = σ o j := by
  unfold s_X11_gains at h
  have q : σ o j = σ o j := rfl
  exact (fr_s_X11_gains_4 ho  n (0 : Int32) (0 : Int32) σ  h).trans q
abbrev W_X11_beside : List (Nat × Option Nat) := [(10, none), (39, some 9), (39, some 10), (41, none), (42, none), (43, none), (44, none), (45, none), (47, none), (48, none), (49, none), (50, none), (57, none), (58, none), (61, none), (62, none)]
set_option maxRecDepth 20000 in
theorem fr_s_X11_beside {n o j : Nat} {r : Int32} {τ : Sg} (ho : fok W_X11_beside o j = true) (x1 : Int32) (x2 : Int32) (σ : Sg) (h : s_X11_beside n x1 x2 σ = some (r, τ)) : τ o j = σ o j := by
  unfold s_X11_beside at h
  have q : σ o j = σ o j := rfl
  obtain ⟨r2, σ1, g, h⟩ := bd_of h
  have q : σ1 o j = σ o j := (fr_s_X11_isNode rfl _ _ g).trans q
  rcases ite_of h with h | h
  · exact fr_e2 h q
  · obtain ⟨r4, σ3, g, h⟩ := bd_of h
    have q : σ3 o j = σ o j := (fr_s_X11_isOutside rfl _ _ _ _ g).trans q
    rcases ite_of h with h | h
    · obtain ⟨r6, σ5, g, h⟩ := bd_of h
      have q : σ5 o j = σ o j := (fr_s_X10_dryAgain (fok_sub ho (by decide)) _ _ _ _ _  g).trans q
      exact fr_e2 h q
    · exact fr_e2 h q
abbrev W_X12_in : List (Nat × Option Nat) := []
set_option maxRecDepth 20000 in
theorem fr_s_X12_in_17 {n o j : Nat} {r : Int32} {τ : Sg} (ho : fok W_X12_in o j = true) (σ : Sg) (h : s_X12_in_17 n σ = some (r, τ)) : τ o j = σ o j := by
  unfold s_X12_in_17 at h
  have q : σ o j = σ o j := rfl
  exact fr_e2 h q
set_option maxRecDepth 20000 in
theorem fr_s_X12_in {n o j : Nat} {r : Int32} {τ : Sg} (ho : fok W_X12_in o j = true) (x0 : Int64) (x2 : Int64) (x4 : Int64) (σ : Sg) (h : s_X12_in n x0 x2 x4 σ = some (r, τ)) : τ o j = σ o j := by
  unfold s_X12_in at h
  have q : σ o j = σ o j := rfl
  rcases ite_of h with h | h
  · exact (fr_s_X12_in_17 ho  σ  h).trans q
  · rcases ite_of h with h | h
    · exact (fr_s_X12_in_17 ho  σ  h).trans q
    · exact fr_e2 h q
abbrev W_X12_one : List (Nat × Option Nat) := []
set_option maxRecDepth 20000 in
theorem fr_s_X12_one {n o j : Nat} {r : Int32} {τ : Sg} (ho : fok W_X12_one o j = true) (x0 : Int32) (σ : Sg) (h : s_X12_one n x0 σ = some (r, τ)) : τ o j = σ o j := by
  unfold s_X12_one at h
  have q : σ o j = σ o j := rfl
  rcases ite_of h with h | h
  · exact fr_e2 h q
  · exact fr_e2 h q
abbrev W_X12_isNode : List (Nat × Option Nat) := []
set_option maxRecDepth 20000 in
theorem fr_s_X12_isNode {n o j : Nat} {r : Int32} {τ : Sg} (ho : fok W_X12_isNode o j = true) (x0 : Int32) (σ : Sg) (h : s_X12_isNode n x0 σ = some (r, τ)) : τ o j = σ o j := by
  unfold s_X12_isNode at h
  have q : σ o j = σ o j := rfl
  obtain ⟨r2, σ1, g, h⟩ := bd_of h
  have q : σ1 o j = σ o j := (fr_s_X12_in rfl _ _ _ _ g).trans q
  have h := (bck_of h).2
  exact fr_e2 h q
abbrev W_X12_isHour : List (Nat × Option Nat) := []
set_option maxRecDepth 20000 in
theorem fr_s_X12_isHour {n o j : Nat} {r : Int32} {τ : Sg} (ho : fok W_X12_isHour o j = true) (x0 : Int32) (σ : Sg) (h : s_X12_isHour n x0 σ = some (r, τ)) : τ o j = σ o j := by
  unfold s_X12_isHour at h
  have q : σ o j = σ o j := rfl
  obtain ⟨r2, σ1, g, h⟩ := bd_of h
  have q : σ1 o j = σ o j := (fr_s_X12_in rfl _ _ _ _ g).trans q
  have h := (bck_of h).2
  exact fr_e2 h q
abbrev W_X12_least : List (Nat × Option Nat) := []
set_option maxRecDepth 20000 in
theorem fr_s_X12_least {n o j : Nat} {r : Int32} {τ : Sg} (ho : fok W_X12_least o j = true) (x0 : Int32) (x1 : Int32) (σ : Sg) (h : s_X12_least n x0 x1 σ = some (r, τ)) : τ o j = σ o j := by
  unfold s_X12_least at h
  have q : σ o j = σ o j := rfl
  rcases ite_of h with h | h
  · exact fr_e2 h q
  · exact fr_e2 h q
abbrev W_X12_noPipe : List (Nat × Option Nat) := []
set_option maxRecDepth 20000 in
theorem fr_s_X12_noPipe {n o j : Nat} {r : Int32} {τ : Sg} (ho : fok W_X12_noPipe o j = true) (x1 : Int32) (σ : Sg) (h : s_X12_noPipe n x1 σ = some (r, τ)) : τ o j = σ o j := by
  unfold s_X12_noPipe at h
  have q : σ o j = σ o j := rfl
  obtain ⟨r2, σ1, g, h⟩ := bd_of h
  have q : σ1 o j = σ o j := (fr_s_X12_in rfl _ _ _ _ g).trans q
  rcases ite_of h with h | h
  · exact fr_e2 h q
  · exact fr_e2 h q
abbrev W_X12_noStreet : List (Nat × Option Nat) := []
set_option maxRecDepth 20000 in
theorem fr_s_X12_noStreet {n o j : Nat} {r : Int32} {τ : Sg} (ho : fok W_X12_noStreet o j = true) (x1 : Int32) (σ : Sg) (h : s_X12_noStreet n x1 σ = some (r, τ)) : τ o j = σ o j := by
  unfold s_X12_noStreet at h
  have q : σ o j = σ o j := rfl
  obtain ⟨r2, σ1, g, h⟩ := bd_of h
  have q : σ1 o j = σ o j := (fr_s_X12_in rfl _ _ _ _ g).trans q
  rcases ite_of h with h | h
  · exact fr_e2 h q
  · exact fr_e2 h q
abbrev W_X12_pipe : List (Nat × Option Nat) := [(71, some 2), (73, none), (74, none), (75, none), (76, none), (77, none), (78, none), (80, none)]
set_option maxRecDepth 20000 in
theorem fr_s_X12_pipe {n o j : Nat} {r : Int32} {τ : Sg} (ho : fok W_X12_pipe o j = true) (x1 : Int32) (x2 : Int32) (x3 : Int32) (x4 : Int32) (σ : Sg) (h : s_X12_pipe n x1 x2 x3 x4 σ = some (r, τ)) : τ o j = σ o j := by
  unfold s_X12_pipe at h
  have q : σ o j = σ o j := rfl
  obtain ⟨r2, σ1, g, h⟩ := bd_of h
  have q : σ1 o j = σ o j := (fr_s_X12_isNode rfl _ _ g).trans q
  rcases ite_of h with h | h
  · exact fr_e2 h q
  · obtain ⟨r4, σ3, g, h⟩ := bd_of h
    have q : σ3 o j = σ o j := (fr_s_X12_isNode rfl _ _ g).trans q
    rcases ite_of h with h | h
    · exact fr_e2 h q
    · rcases ite_of h with h | h
      · exact fr_e2 h q
      · obtain ⟨r6, σ5, g, h⟩ := bd_of h
        have q : σ5 o j = σ o j := (fr_s_X12_in rfl _ _ _ _ g).trans q
        rcases ite_of h with h | h
        · exact fr_e2 h q
        · obtain ⟨r8, σ7, g, h⟩ := bd_of h
          have q : σ7 o j = σ o j := (fr_s_X12_in rfl _ _ _ _ g).trans q
          rcases ite_of h with h | h
          · exact fr_e2 h q
          · rcases ite_of h with h | h
            · exact fr_e2 h q
            · have h := (ck_of h).2
              obtain ⟨σ9, e, h⟩ := lt_of h
              have q : σ9 o j = σ o j := by rw [e]; exact (up2_o (fok_a ho (by decide))).trans q
              have h := (ck_of h).2
              obtain ⟨σ10, e, h⟩ := lt_of h
              have q : σ10 o j = σ o j := by rw [e]; exact (up2_o (fok_a ho (by decide))).trans q
              have h := (ck_of h).2
              obtain ⟨σ11, e, h⟩ := lt_of h
              have q : σ11 o j = σ o j := by rw [e]; exact (up2_o (fok_a ho (by decide))).trans q
              have h := (ck_of h).2
              obtain ⟨σ12, e, h⟩ := lt_of h
              have q : σ12 o j = σ o j := by rw [e]; exact (up2_o (fok_a ho (by decide))).trans q
              have h := (ck_of h).2
              obtain ⟨σ13, e, h⟩ := lt_of h
              have q : σ13 o j = σ o j := by rw [e]; exact (up2_o (fok_a ho (by decide))).trans q
              have h := (ck_of h).2
              obtain ⟨σ14, e, h⟩ := lt_of h
              have q : σ14 o j = σ o j := by rw [e]; exact (up2_o (fok_a ho (by decide))).trans q
              have h := (ck_of h).2
              obtain ⟨σ15, e, h⟩ := lt_of h
              have q : σ15 o j = σ o j := by rw [e]; exact (up2_o (fok_a ho (by decide))).trans q
              obtain ⟨σ16, e, h⟩ := lt_of h
              have q : σ16 o j = σ o j := by rw [e]; exact (up2_f ho (by decide)).trans q
              exact fr_e2 h q
abbrev W_X12_shut : List (Nat × Option Nat) := [(79, none)]
set_option maxRecDepth 20000 in
theorem fr_s_X12_shut {n o j : Nat} {r : Int32} {τ : Sg} (ho : fok W_X12_shut o j = true) (x1 : Int32) (x2 : Int32) (σ : Sg) (h : s_X12_shut n x1 x2 σ = some (r, τ)) : τ o j = σ o j := by
  unfold s_X12_shut at h
  have q : σ o j = σ o j := rfl
  obtain ⟨r2, σ1, g, h⟩ := bd_of h
  have q : σ1 o j = σ o j := (fr_s_X12_noPipe rfl _ _ g).trans q
  rcases ite_of h with h | h
  · have h := (ck_of h).2
    obtain ⟨r4, σ3, g, h⟩ := bd_of h
    have q : σ3 o j = σ o j := (fr_s_X12_one rfl _ _ g).trans q
    have h := (ck_of h).2
    obtain ⟨σ5, e, h⟩ := lt_of h
    have q : σ5 o j = σ o j := by rw [e]; exact (up2_o (fok_a ho (by decide))).trans q
    exact fr_e2 h q
  · exact fr_e2 h q
abbrev W_X12_leak : List (Nat × Option Nat) := [(78, none)]
set_option maxRecDepth 20000 in
theorem fr_s_X12_leak {n o j : Nat} {r : Int32} {τ : Sg} (ho : fok W_X12_leak o j = true) (x1 : Int32) (x2 : Int32) (σ : Sg) (h : s_X12_leak n x1 x2 σ = some (r, τ)) : τ o j = σ o j := by
  unfold s_X12_leak at h
  have q : σ o j = σ o j := rfl
  obtain ⟨r2, σ1, g, h⟩ := bd_of h
  have q : σ1 o j = σ o j := (fr_s_X12_noPipe rfl _ _ g).trans q
  rcases ite_of h with h | h
  · obtain ⟨r4, σ3, g, h⟩ := bd_of h
    have q : σ3 o j = σ o j := (fr_s_X12_in rfl _ _ _ _ g).trans q
    rcases ite_of h with h | h
    · exact fr_e2 h q
    · have h := (ck_of h).2
      obtain ⟨v5, -, h⟩ := lt_of h
      have h := (ck_of h).2
      obtain ⟨σ6, e, h⟩ := lt_of h
      have q : σ6 o j = σ o j := by rw [e]; exact (up2_o (fok_a ho (by decide))).trans q
      exact fr_e2 h q
  · exact fr_e2 h q
abbrev W_X12_map : List (Nat × Option Nat) := [(75, none), (76, none)]
set_option maxRecDepth 20000 in
theorem fr_s_X12_map {n o j : Nat} {r : Int32} {τ : Sg} (ho : fok W_X12_map o j = true) (x1 : Int32) (x2 : Int32) (x3 : Int32) (σ : Sg) (h : s_X12_map n x1 x2 x3 σ = some (r, τ)) : τ o j = σ o j := by
  unfold s_X12_map at h
  have q : σ o j = σ o j := rfl
  obtain ⟨r2, σ1, g, h⟩ := bd_of h
  have q : σ1 o j = σ o j := (fr_s_X12_noPipe rfl _ _ g).trans q
  rcases ite_of h with h | h
  · obtain ⟨r4, σ3, g, h⟩ := bd_of h
    have q : σ3 o j = σ o j := (fr_s_X12_isNode rfl _ _ g).trans q
    rcases ite_of h with h | h
    · exact fr_e2 h q
    · obtain ⟨r6, σ5, g, h⟩ := bd_of h
      have q : σ5 o j = σ o j := (fr_s_X12_isNode rfl _ _ g).trans q
      rcases ite_of h with h | h
      · exact fr_e2 h q
      · rcases ite_of h with h | h
        · exact fr_e2 h q
        · have h := (ck_of h).2
          obtain ⟨σ7, e, h⟩ := lt_of h
          have q : σ7 o j = σ o j := by rw [e]; exact (up2_o (fok_a ho (by decide))).trans q
          have h := (ck_of h).2
          obtain ⟨σ8, e, h⟩ := lt_of h
          have q : σ8 o j = σ o j := by rw [e]; exact (up2_o (fok_a ho (by decide))).trans q
          exact fr_e2 h q
  · exact fr_e2 h q
abbrev W_X12_pump : List (Nat × Option Nat) := [(72, none)]
set_option maxRecDepth 20000 in
theorem fr_s_X12_pump_39b {n o j : Nat} {r : Int32} {τ : Sg} (ho : fok W_X12_pump o j = true) (rc39 : Int32 → Int32 → Int32 → Sg → Option (Int32 × Sg)) (H39 : ∀ (x2 : Int32) (x3 : Int32) (x4 : Int32) (σ : Sg), rc39 x2 x3 x4 σ = some (r, τ) → τ o j = σ o j) (x2 : Int32) (x3 : Int32) (x4 : Int32) (σ : Sg) (h : s_X12_pump_39b n rc39 x2 x3 x4 σ = some (r, τ)) : τ o j = σ o j := by
  unfold s_X12_pump_39b at h
  have q : σ o j = σ o j := rfl
  rcases ite_of h with h | h
  · exact fr_e2 h q
  · have h := (ck_of h).2
    obtain ⟨σ7, e, h⟩ := lt_of h
    have q : σ7 o j = σ o j := by rw [e]; exact (up2_o (fok_a ho (by decide))).trans q
    exact (H39 x2 x3 (x4 + (1 : Int32)) σ7  h).trans q
theorem fr_s_X12_pump_39 {n o j : Nat} {r : Int32} {τ : Sg} (ho : fok W_X12_pump o j = true) : ∀ (k : Nat) (x2 : Int32) (x3 : Int32) (x4 : Int32) (σ : Sg), s_X12_pump_39 n k x2 x3 x4 σ = some (r, τ) → τ o j = σ o j := by
  intro k
  induction k with
  | zero => intro x2 x3 x4 σ  h; cases h
  | succ k ih => intro x2 x3 x4 σ  h; exact fr_s_X12_pump_39b ho  (s_X12_pump_39 n  k) ih x2 x3 x4 σ  h
set_option maxRecDepth 20000 in
theorem fr_s_X12_pump {n o j : Nat} {r : Int32} {τ : Sg} (ho : fok W_X12_pump o j = true) (x1 : Int32) (x2 : Int32) (x3 : Int32) (σ : Sg) (h : s_X12_pump n x1 x2 x3 σ = some (r, τ)) : τ o j = σ o j := by
  unfold s_X12_pump at h
  have q : σ o j = σ o j := rfl
  obtain ⟨r2, σ1, g, h⟩ := bd_of h
  have q : σ1 o j = σ o j := (fr_s_X12_isHour rfl _ _ g).trans q
  rcases ite_of h with h | h
  · exact fr_e2 h q
  · obtain ⟨r4, σ3, g, h⟩ := bd_of h
    have q : σ3 o j = σ o j := (fr_s_X12_in rfl _ _ _ _ g).trans q
    rcases ite_of h with h | h
    · exact fr_e2 h q
    · obtain ⟨r6, σ5, g, h⟩ := bd_of h
      have q : σ5 o j = σ o j := (fr_s_X12_in rfl _ _ _ _ g).trans q
      rcases ite_of h with h | h
      · exact fr_e2 h q
      · exact (fr_s_X12_pump_39 ho  n x2 x3 x1 σ5  h).trans q
abbrev W_X12_street : List (Nat × Option Nat) := [(71, some 11), (81, none), (82, none), (83, none), (84, none), (85, none), (86, none)]
set_option maxRecDepth 20000 in
theorem fr_s_X12_street_160 {n o j : Nat} {r : Int32} {τ : Sg} (ho : fok W_X12_street o j = true) (y0 : Int32) (y1 : Int32) (σ : Sg) (h : s_X12_street_160 n y0 y1 σ = some (r, τ)) : τ o j = σ o j := by
  unfold s_X12_street_160 at h
  have q : σ o j = σ o j := rfl
  have h := (ck_of h).2
  obtain ⟨σ21, e, h⟩ := lt_of h
  have q : σ21 o j = σ o j := by rw [e]; exact (up2_o (fok_a ho (by decide))).trans q
  obtain ⟨σ22, e, h⟩ := lt_of h
  have q : σ22 o j = σ o j := by rw [e]; exact (up2_f ho (by decide)).trans q
  exact fr_e2 h q
set_option maxRecDepth 20000 in
theorem fr_s_X12_street {n o j : Nat} {r : Int32} {τ : Sg} (ho : fok W_X12_street o j = true) (x1 : Int32) (x2 : Int32) (x3 : Int32) (x4 : Int32) (x5 : Int32) (x6 : Int32) (σ : Sg) (h : s_X12_street n x1 x2 x3 x4 x5 x6 σ = some (r, τ)) : τ o j = σ o j := by
  unfold s_X12_street at h
  have q : σ o j = σ o j := rfl
  obtain ⟨r2, σ1, g, h⟩ := bd_of h
  have q : σ1 o j = σ o j := (fr_s_X12_isNode rfl _ _ g).trans q
  rcases ite_of h with h | h
  · exact fr_e2 h q
  · obtain ⟨r4, σ3, g, h⟩ := bd_of h
    have q : σ3 o j = σ o j := (fr_s_X12_in rfl _ _ _ _ g).trans q
    rcases ite_of h with h | h
    · exact fr_e2 h q
    · obtain ⟨r6, σ5, g, h⟩ := bd_of h
      have q : σ5 o j = σ o j := (fr_s_X12_in rfl _ _ _ _ g).trans q
      rcases ite_of h with h | h
      · exact fr_e2 h q
      · obtain ⟨r8, σ7, g, h⟩ := bd_of h
        have q : σ7 o j = σ o j := (fr_s_X12_in rfl _ _ _ _ g).trans q
        rcases ite_of h with h | h
        · exact fr_e2 h q
        · obtain ⟨r10, σ9, g, h⟩ := bd_of h
          have q : σ9 o j = σ o j := (fr_s_X12_in rfl _ _ _ _ g).trans q
          rcases ite_of h with h | h
          · exact fr_e2 h q
          · obtain ⟨r12, σ11, g, h⟩ := bd_of h
            have q : σ11 o j = σ o j := (fr_s_X12_in rfl _ _ _ _ g).trans q
            rcases ite_of h with h | h
            · exact fr_e2 h q
            · rcases ite_of h with h | h
              · exact fr_e2 h q
              · have h := (ck_of h).2
                obtain ⟨σ13, e, h⟩ := lt_of h
                have q : σ13 o j = σ o j := by rw [e]; exact (up2_o (fok_a ho (by decide))).trans q
                have h := (ck_of h).2
                obtain ⟨σ14, e, h⟩ := lt_of h
                have q : σ14 o j = σ o j := by rw [e]; exact (up2_o (fok_a ho (by decide))).trans q
                have h := (ck_of h).2
                obtain ⟨σ15, e, h⟩ := lt_of h
                have q : σ15 o j = σ o j := by rw [e]; exact (up2_o (fok_a ho (by decide))).trans q
                have h := (ck_of h).2
                obtain ⟨σ16, e, h⟩ := lt_of h
                have q : σ16 o j = σ o j := by rw [e]; exact (up2_o (fok_a ho (by decide))).trans q
                have h := (ck_of h).2
                obtain ⟨σ17, e, h⟩ := lt_of h
                have q : σ17 o j = σ o j := by rw [e]; exact (up2_o (fok_a ho (by decide))).trans q
                obtain ⟨v20, -, h⟩ := lt_of h
                exact (fr_s_X12_street_160 ho  v20 (σ17 71 11) σ17  h).trans q
abbrev W_X12_over : List (Nat × Option Nat) := [(86, none)]
set_option maxRecDepth 20000 in
theorem fr_s_X12_over {n o j : Nat} {r : Int32} {τ : Sg} (ho : fok W_X12_over o j = true) (x1 : Int32) (σ : Sg) (h : s_X12_over n x1 σ = some (r, τ)) : τ o j = σ o j := by
  unfold s_X12_over at h
  have q : σ o j = σ o j := rfl
  obtain ⟨r2, σ1, g, h⟩ := bd_of h
  have q : σ1 o j = σ o j := (fr_s_X12_noStreet rfl _ _ g).trans q
  rcases ite_of h with h | h
  · have h := (ck_of h).2
    rcases ite_of h with h | h
    · have h := (ck_of h).2
      obtain ⟨σ3, e, h⟩ := lt_of h
      have q : σ3 o j = σ o j := by rw [e]; exact (up2_o (fok_a ho (by decide))).trans q
      exact fr_e2 h q
    · exact fr_e2 h q
  · exact fr_e2 h q
abbrev W_X12_rooms : List (Nat × Option Nat) := [(87, none)]
set_option maxRecDepth 20000 in
theorem fr_s_X12_rooms {n o j : Nat} {r : Int32} {τ : Sg} (ho : fok W_X12_rooms o j = true) (x1 : Int32) (x2 : Int32) (σ : Sg) (h : s_X12_rooms n x1 x2 σ = some (r, τ)) : τ o j = σ o j := by
  unfold s_X12_rooms at h
  have q : σ o j = σ o j := rfl
  obtain ⟨r2, σ1, g, h⟩ := bd_of h
  have q : σ1 o j = σ o j := (fr_s_X12_noStreet rfl _ _ g).trans q
  rcases ite_of h with h | h
  · obtain ⟨r4, σ3, g, h⟩ := bd_of h
    have q : σ3 o j = σ o j := (fr_s_X12_in rfl _ _ _ _ g).trans q
    rcases ite_of h with h | h
    · exact fr_e2 h q
    · have h := (ck_of h).2
      obtain ⟨v5, -, h⟩ := lt_of h
      have h := (ck_of h).2
      obtain ⟨σ6, e, h⟩ := lt_of h
      have q : σ6 o j = σ o j := by rw [e]; exact (up2_o (fok_a ho (by decide))).trans q
      exact fr_e2 h q
  · exact fr_e2 h q
abbrev W_X12_feed : List (Nat × Option Nat) := [(71, some 33), (98, none)]
set_option maxRecDepth 20000 in
theorem fr_s_X12_feed_37b {n o j : Nat} {r : Int32} {τ : Sg} (ho : fok W_X12_feed o j = true) (rc37 : Int64 → Int32 → Sg → Option (Int32 × Sg)) (H37 : ∀ (x2 : Int64) (x4 : Int32) (σ : Sg), rc37 x2 x4 σ = some (r, τ) → τ o j = σ o j) (x2 : Int64) (x4 : Int32) (σ : Sg) (h : s_X12_feed_37b n rc37 x2 x4 σ = some (r, τ)) : τ o j = σ o j := by
  unfold s_X12_feed_37b at h
  have q : σ o j = σ o j := rfl
  rcases ite_of h with h | h
  · exact fr_e2 h q
  · have h := (ck_of h).2
    obtain ⟨σ4, e, h⟩ := lt_of h
    have q : σ4 o j = σ o j := by rw [e]; exact (up2_o (fok_a ho (by decide))).trans q
    obtain ⟨σ5, e, h⟩ := lt_of h
    have q : σ5 o j = σ o j := by rw [e]; exact (up2_f ho (by decide)).trans q
    exact (H37 x2 (x4 + (-1 : Int32)) σ5  h).trans q
theorem fr_s_X12_feed_37 {n o j : Nat} {r : Int32} {τ : Sg} (ho : fok W_X12_feed o j = true) : ∀ (k : Nat) (x2 : Int64) (x4 : Int32) (σ : Sg), s_X12_feed_37 n k x2 x4 σ = some (r, τ) → τ o j = σ o j := by
  intro k
  induction k with
  | zero => intro x2 x4 σ  h; cases h
  | succ k ih => intro x2 x4 σ  h; exact fr_s_X12_feed_37b ho  (s_X12_feed_37 n  k) ih x2 x4 σ  h
set_option maxRecDepth 20000 in
theorem fr_s_X12_feed {n o j : Nat} {r : Int32} {τ : Sg} (ho : fok W_X12_feed o j = true) (x1 : Int32) (x2 : Int64) (σ : Sg) (h : s_X12_feed n x1 x2 σ = some (r, τ)) : τ o j = σ o j := by
  unfold s_X12_feed at h
  have q : σ o j = σ o j := rfl
  obtain ⟨r2, σ1, g, h⟩ := bd_of h
  have q : σ1 o j = σ o j := (fr_s_X12_in rfl _ _ _ _ g).trans q
  rcases ite_of h with h | h
  · exact fr_e2 h q
  · rcases ite_of h with h | h
    · obtain ⟨v3, -, h⟩ := lt_of h
      exact (fr_s_X12_feed_37 ho  n x2 v3 σ1  h).trans q
    · exact fr_e2 h q
abbrev W_X12_here : List (Nat × Option Nat) := [(71, some 34)]
set_option maxRecDepth 20000 in
theorem fr_s_X12_here_38 {n o j : Nat} {r : Int32} {τ : Sg} (ho : fok W_X12_here o j = true) (σ : Sg) (h : s_X12_here_38 n σ = some (r, τ)) : τ o j = σ o j := by
  unfold s_X12_here_38 at h
  have q : σ o j = σ o j := rfl
  rcases ite_of h with h | h
  · exact fr_e2 h q
  · have h := (ck_of h).2
    exact fr_e2 h q
set_option maxRecDepth 20000 in
theorem fr_s_X12_here_0b {n o j : Nat} {r : Int32} {τ : Sg} (ho : fok W_X12_here o j = true) (rc0 : Sg → Option (Int32 × Sg)) (H0 : ∀ (σ : Sg), rc0 σ = some (r, τ) → τ o j = σ o j) (σ : Sg) (h : s_X12_here_0b n rc0 σ = some (r, τ)) : τ o j = σ o j := by
  unfold s_X12_here_0b at h
  have q : σ o j = σ o j := rfl
  rcases ite_of h with h | h
  · exact (fr_s_X12_here_38 ho  σ  h).trans q
  · have h := (ck_of h).2
    rcases ite_of h with h | h
    · obtain ⟨σ1, e, h⟩ := lt_of h
      have q : σ1 o j = σ o j := by rw [e]; exact (up2_f ho (by decide)).trans q
      exact (H0  σ1  h).trans q
    · exact (fr_s_X12_here_38 ho  σ  h).trans q
theorem fr_s_X12_here_0 {n o j : Nat} {r : Int32} {τ : Sg} (ho : fok W_X12_here o j = true) : ∀ (k : Nat) (σ : Sg), s_X12_here_0 n k σ = some (r, τ) → τ o j = σ o j := by
  intro k
  induction k with
  | zero => intro  σ  h; cases h
  | succ k ih => intro  σ  h; exact fr_s_X12_here_0b ho  (s_X12_here_0 n  k) ih  σ  h
set_option maxRecDepth 20000 in
theorem fr_s_X12_here {n o j : Nat} {r : Int32} {τ : Sg} (ho : fok W_X12_here o j = true) (σ : Sg) (h : s_X12_here n σ = some (r, τ)) : τ o j = σ o j := by
  unfold s_X12_here at h
  have q : σ o j = σ o j := rfl
  exact (fr_s_X12_here_0 ho  n σ  h).trans q
abbrev W_X12_want : List (Nat × Option Nat) := [(71, some 35), (71, some 36)]
set_option maxRecDepth 20000 in
theorem fr_s_X12_want_21 {n o j : Nat} {r : Int32} {τ : Sg} (ho : fok W_X12_want o j = true) (σ : Sg) (h : s_X12_want_21 n σ = some (r, τ)) : τ o j = σ o j := by
  unfold s_X12_want_21 at h
  have q : σ o j = σ o j := rfl
  rcases ite_of h with h | h
  · exact fr_e2 h q
  · exact fr_e2 h q
set_option maxRecDepth 20000 in
theorem fr_s_X12_want {n o j : Nat} {r : Int32} {τ : Sg} (ho : fok W_X12_want o j = true) (x1 : Int32) (x2 : Int32) (x3 : Int32) (σ : Sg) (h : s_X12_want n x1 x2 x3 σ = some (r, τ)) : τ o j = σ o j := by
  unfold s_X12_want at h
  have q : σ o j = σ o j := rfl
  rcases ite_of h with h | h
  · rcases ite_of h with h | h
    · obtain ⟨σ1, e, h⟩ := lt_of h
      have q : σ1 o j = σ o j := by rw [e]; exact (up2_f ho (by decide)).trans q
      obtain ⟨σ2, e, h⟩ := lt_of h
      have q : σ2 o j = σ o j := by rw [e]; exact (up2_f ho (by decide)).trans q
      exact (fr_s_X12_want_21 ho  σ2  h).trans q
    · exact (fr_s_X12_want_21 ho  σ  h).trans q
  · exact (fr_s_X12_want_21 ho  σ  h).trans q
abbrev W_X12_takeWord : List (Nat × Option Nat) := [(71, some 34), (71, some 37), (71, some 38)]
set_option maxRecDepth 20000 in
theorem fr_s_X12_takeWord_13b {n o j : Nat} {τ : Sg} (ho : fok W_X12_takeWord o j = true) (rc13 : Sg → Option Sg) (H13 : ∀ (σ : Sg), rc13 σ = some τ → τ o j = σ o j) (σ : Sg) (h : s_X12_takeWord_13b n rc13 σ = some τ) : τ o j = σ o j := by
  unfold s_X12_takeWord_13b at h
  have q : σ o j = σ o j := rfl
  rcases ite_of h with h | h
  · obtain ⟨σ4, e, h⟩ := lt_of h
    have q : σ4 o j = σ o j := by rw [e]; exact (up2_f ho (by decide)).trans q
    exact fr_e1 h q
  · have h := (ck_of h).2
    obtain ⟨r6, σ5, g, h⟩ := bd_of h
    have q : σ5 o j = σ o j := (fr_s_X12_in rfl _ _ _ _ g).trans q
    rcases ite_of h with h | h
    · obtain ⟨σ7, e, h⟩ := lt_of h
      have q : σ7 o j = σ o j := by rw [e]; exact (up2_f ho (by decide)).trans q
      exact fr_e1 h q
    · obtain ⟨σ8, e, h⟩ := lt_of h
      have q : σ8 o j = σ o j := by rw [e]; exact (up2_f ho (by decide)).trans q
      exact (H13  σ8  h).trans q
theorem fr_s_X12_takeWord_13 {n o j : Nat} {τ : Sg} (ho : fok W_X12_takeWord o j = true) : ∀ (k : Nat) (σ : Sg), s_X12_takeWord_13 n k σ = some τ → τ o j = σ o j := by
  intro k
  induction k with
  | zero => intro  σ  h; cases h
  | succ k ih => intro  σ  h; exact fr_s_X12_takeWord_13b ho  (s_X12_takeWord_13 n  k) ih  σ  h
set_option maxRecDepth 20000 in
theorem fr_s_X12_takeWord {n o j : Nat} {τ : Sg} (ho : fok W_X12_takeWord o j = true) (σ : Sg) (h : s_X12_takeWord n σ = some τ) : τ o j = σ o j := by
  unfold s_X12_takeWord at h
  have q : σ o j = σ o j := rfl
  obtain ⟨r2, σ1, g, h⟩ := bd_of h
  have q : σ1 o j = σ o j := (fr_s_X12_here (fok_sub ho (by decide)) _  g).trans q
  obtain ⟨σ3, e, h⟩ := lt_of h
  have q : σ3 o j = σ o j := by rw [e]; exact (up2_f ho (by decide)).trans q
  exact (fr_s_X12_takeWord_13 ho  n σ3  h).trans q
abbrev W_X12_isWord : List (Nat × Option Nat) := []
set_option maxRecDepth 20000 in
theorem fr_s_X12_isWord_95 {n o j : Nat} {r : Int32} {τ : Sg} (ho : fok W_X12_isWord o j = true) (rc18 : Int32 → Int32 → Int32 → Int32 → Int32 → Int32 → Int32 → Int32 → Int32 → Sg → Option (Int32 × Sg)) (H18 : ∀ (x1 : Int32) (x2 : Int32) (x3 : Int32) (x4 : Int32) (x5 : Int32) (x6 : Int32) (x7 : Int32) (x8 : Int32) (x9 : Int32) (σ : Sg), rc18 x1 x2 x3 x4 x5 x6 x7 x8 x9 σ = some (r, τ) → τ o j = σ o j) (x1 : Int32) (x2 : Int32) (x3 : Int32) (x4 : Int32) (x5 : Int32) (x6 : Int32) (x7 : Int32) (x9 : Int32) (y0 : Int32) (y1 : Int32) (σ : Sg) (h : s_X12_isWord_95 n rc18 x1 x2 x3 x4 x5 x6 x7 x9 y0 y1 σ = some (r, τ)) : τ o j = σ o j := by
  unfold s_X12_isWord_95 at h
  have q : σ o j = σ o j := rfl
  obtain ⟨v13, -, h⟩ := lt_of h
  exact (H18 x1 x2 x3 x4 x5 x6 x7 v13 (x9 + (1 : Int32)) σ  h).trans q
set_option maxRecDepth 20000 in
theorem fr_s_X12_isWord_18b {n o j : Nat} {r : Int32} {τ : Sg} (ho : fok W_X12_isWord o j = true) (rc18 : Int32 → Int32 → Int32 → Int32 → Int32 → Int32 → Int32 → Int32 → Int32 → Sg → Option (Int32 × Sg)) (H18 : ∀ (x1 : Int32) (x2 : Int32) (x3 : Int32) (x4 : Int32) (x5 : Int32) (x6 : Int32) (x7 : Int32) (x8 : Int32) (x9 : Int32) (σ : Sg), rc18 x1 x2 x3 x4 x5 x6 x7 x8 x9 σ = some (r, τ) → τ o j = σ o j) (x1 : Int32) (x2 : Int32) (x3 : Int32) (x4 : Int32) (x5 : Int32) (x6 : Int32) (x7 : Int32) (x8 : Int32) (x9 : Int32) (σ : Sg) (h : s_X12_isWord_18b n rc18 x1 x2 x3 x4 x5 x6 x7 x8 x9 σ = some (r, τ)) : τ o j = σ o j := by
  unfold s_X12_isWord_18b at h
  have q : σ o j = σ o j := rfl
  rcases ite_of h with h | h
  · have h := (bck_of h).2
    exact fr_e2 h q
  · rcases ite_of h with h | h
    · have h := (bck_of h).2
      exact fr_e2 h q
    · have h := (ck_of h).2
      obtain ⟨v10, -, h⟩ := lt_of h
      exact (fr_s_X12_isWord_95 ho rc18 H18 x1 x2 x3 x4 x5 x6 x7 x9 v10 (σ 98 (ix ((σ 71 37) + x9))) σ  h).trans q
theorem fr_s_X12_isWord_18 {n o j : Nat} {r : Int32} {τ : Sg} (ho : fok W_X12_isWord o j = true) : ∀ (k : Nat) (x1 : Int32) (x2 : Int32) (x3 : Int32) (x4 : Int32) (x5 : Int32) (x6 : Int32) (x7 : Int32) (x8 : Int32) (x9 : Int32) (σ : Sg), s_X12_isWord_18 n k x1 x2 x3 x4 x5 x6 x7 x8 x9 σ = some (r, τ) → τ o j = σ o j := by
  intro k
  induction k with
  | zero => intro x1 x2 x3 x4 x5 x6 x7 x8 x9 σ  h; cases h
  | succ k ih => intro x1 x2 x3 x4 x5 x6 x7 x8 x9 σ  h; exact fr_s_X12_isWord_18b ho  (s_X12_isWord_18 n  k) ih x1 x2 x3 x4 x5 x6 x7 x8 x9 σ  h
set_option maxRecDepth 20000 in
theorem fr_s_X12_isWord {n o j : Nat} {r : Int32} {τ : Sg} (ho : fok W_X12_isWord o j = true) (x1 : Int32) (x2 : Int32) (x3 : Int32) (x4 : Int32) (x5 : Int32) (x6 : Int32) (x7 : Int32) (σ : Sg) (h : s_X12_isWord n x1 x2 x3 x4 x5 x6 x7 σ = some (r, τ)) : τ o j = σ o j := by
  unfold s_X12_isWord at h
  have q : σ o j = σ o j := rfl
  obtain ⟨v3, -, h⟩ := lt_of h
  exact (fr_s_X12_isWord_18 ho  n x1 x2 x3 x4 x5 x6 x7 v3 (0 : Int32) σ  h).trans q
abbrev W_X12_takeNumber : List (Nat × Option Nat) := [(71, some 34), (71, some 35), (71, some 36), (71, some 37)]
set_option maxRecDepth 20000 in
theorem fr_s_X12_takeNumber_161 {n o j : Nat} {r : Int32} {τ : Sg} (ho : fok W_X12_takeNumber o j = true) (x4 : Int32) (y0 : Int32) (σ : Sg) (h : s_X12_takeNumber_161 n x4 y0 σ = some (r, τ)) : τ o j = σ o j := by
  unfold s_X12_takeNumber_161 at h
  have q : σ o j = σ o j := rfl
  obtain ⟨r19, σ18, g, h⟩ := bd_of h
  have q : σ18 o j = σ o j := (fr_s_X12_want (fok_sub ho (by decide)) _ _ _ _  g).trans q
  exact fr_e2 h q
set_option maxRecDepth 20000 in
theorem fr_s_X12_takeNumber_160 {n o j : Nat} {r : Int32} {τ : Sg} (ho : fok W_X12_takeNumber o j = true) (x4 : Int32) (σ : Sg) (h : s_X12_takeNumber_160 n x4 σ = some (r, τ)) : τ o j = σ o j := by
  unfold s_X12_takeNumber_160 at h
  have q : σ o j = σ o j := rfl
  exact (fr_s_X12_takeNumber_161 ho  x4 (0 : Int32) σ  h).trans q
set_option maxRecDepth 20000 in
theorem fr_s_X12_takeNumber_129 {n o j : Nat} {r : Int32} {τ : Sg} (ho : fok W_X12_takeNumber o j = true) (x1 : Int32) (x2 : Int32) (x4 : Int32) (σ : Sg) (h : s_X12_takeNumber_129 n x1 x2 x4 σ = some (r, τ)) : τ o j = σ o j := by
  unfold s_X12_takeNumber_129 at h
  have q : σ o j = σ o j := rfl
  rcases ite_of h with h | h
  · exact (fr_s_X12_takeNumber_160 ho  x4 σ  h).trans q
  · obtain ⟨r14, σ13, g, h⟩ := bd_of h
    have q : σ13 o j = σ o j := (fr_s_X12_in rfl _ _ _ _ g).trans q
    obtain ⟨v17, -, h⟩ := lt_of h
    exact (fr_s_X12_takeNumber_161 ho  x4 v17 σ13  h).trans q
set_option maxRecDepth 20000 in
theorem fr_s_X12_takeNumber_50b {n o j : Nat} {r : Int32} {τ : Sg} (ho : fok W_X12_takeNumber o j = true) (rc50 : Int32 → Int32 → Int32 → Sg → Option (Int32 × Sg)) (H50 : ∀ (x1 : Int32) (x2 : Int32) (x4 : Int32) (σ : Sg), rc50 x1 x2 x4 σ = some (r, τ) → τ o j = σ o j) (x1 : Int32) (x2 : Int32) (x4 : Int32) (σ : Sg) (h : s_X12_takeNumber_50b n rc50 x1 x2 x4 σ = some (r, τ)) : τ o j = σ o j := by
  unfold s_X12_takeNumber_50b at h
  have q : σ o j = σ o j := rfl
  rcases ite_of h with h | h
  · exact (fr_s_X12_takeNumber_129 ho  x1 x2 x4 σ  h).trans q
  · have h := (ck_of h).2
    obtain ⟨r9, σ8, g, h⟩ := bd_of h
    have q : σ8 o j = σ o j := (fr_s_X12_in rfl _ _ _ _ g).trans q
    rcases ite_of h with h | h
    · exact (fr_s_X12_takeNumber_129 ho  x1 x2 x4 σ8  h).trans q
    · rcases ite_of h with h | h
      · have h := (ck_of h).2
        obtain ⟨v10, -, h⟩ := lt_of h
        obtain ⟨σ11, e, h⟩ := lt_of h
        have q : σ11 o j = σ o j := by rw [e]; exact (up2_f ho (by decide)).trans q
        exact (H50 x1 x2 v10 σ11  h).trans q
      · obtain ⟨σ12, e, h⟩ := lt_of h
        have q : σ12 o j = σ o j := by rw [e]; exact (up2_f ho (by decide)).trans q
        exact (H50 x1 x2 x4 σ12  h).trans q
theorem fr_s_X12_takeNumber_50 {n o j : Nat} {r : Int32} {τ : Sg} (ho : fok W_X12_takeNumber o j = true) : ∀ (k : Nat) (x1 : Int32) (x2 : Int32) (x4 : Int32) (σ : Sg), s_X12_takeNumber_50 n k x1 x2 x4 σ = some (r, τ) → τ o j = σ o j := by
  intro k
  induction k with
  | zero => intro x1 x2 x4 σ  h; cases h
  | succ k ih => intro x1 x2 x4 σ  h; exact fr_s_X12_takeNumber_50b ho  (s_X12_takeNumber_50 n  k) ih x1 x2 x4 σ  h
set_option maxRecDepth 20000 in
theorem fr_s_X12_takeNumber {n o j : Nat} {r : Int32} {τ : Sg} (ho : fok W_X12_takeNumber o j = true) (x1 : Int32) (x2 : Int32) (σ : Sg) (h : s_X12_takeNumber n x1 x2 σ = some (r, τ)) : τ o j = σ o j := by
  unfold s_X12_takeNumber at h
  have q : σ o j = σ o j := rfl
  rcases ite_of h with h | h
  · obtain ⟨r2, σ1, g, h⟩ := bd_of h
    have q : σ1 o j = σ o j := (fr_s_X12_here (fok_sub ho (by decide)) _  g).trans q
    obtain ⟨σ3, e, h⟩ := lt_of h
    have q : σ3 o j = σ o j := by rw [e]; exact (up2_f ho (by decide)).trans q
    obtain ⟨r5, σ4, g, h⟩ := bd_of h
    have q : σ4 o j = σ o j := (fr_s_X12_in rfl _ _ _ _ g).trans q
    obtain ⟨r7, σ6, g, h⟩ := bd_of h
    have q : σ6 o j = σ o j := (fr_s_X12_want (fok_sub ho (by decide)) _ _ _ _  g).trans q
    rcases ite_of h with h | h
    · exact fr_e2 h q
    · exact (fr_s_X12_takeNumber_50 ho  n x1 x2 (0 : Int32) σ6  h).trans q
  · exact fr_e2 h q
abbrev W_X12_clauseOf : List (Nat × Option Nat) := []
set_option maxRecDepth 20000 in
theorem fr_s_X12_clauseOf {n o j : Nat} {r : Int32} {τ : Sg} (ho : fok W_X12_clauseOf o j = true) (σ : Sg) (h : s_X12_clauseOf n σ = some (r, τ)) : τ o j = σ o j := by
  unfold s_X12_clauseOf at h
  have q : σ o j = σ o j := rfl
  obtain ⟨r2, σ1, g, h⟩ := bd_of h
  have q : σ1 o j = σ o j := (fr_s_X12_isWord rfl _ _ _ _ _ _ _ _ g).trans q
  rcases ite_of h with h | h
  · obtain ⟨r4, σ3, g, h⟩ := bd_of h
    have q : σ3 o j = σ o j := (fr_s_X12_isWord rfl _ _ _ _ _ _ _ _ g).trans q
    rcases ite_of h with h | h
    · obtain ⟨r6, σ5, g, h⟩ := bd_of h
      have q : σ5 o j = σ o j := (fr_s_X12_isWord rfl _ _ _ _ _ _ _ _ g).trans q
      rcases ite_of h with h | h
      · obtain ⟨r8, σ7, g, h⟩ := bd_of h
        have q : σ7 o j = σ o j := (fr_s_X12_isWord rfl _ _ _ _ _ _ _ _ g).trans q
        rcases ite_of h with h | h
        · obtain ⟨r10, σ9, g, h⟩ := bd_of h
          have q : σ9 o j = σ o j := (fr_s_X12_isWord rfl _ _ _ _ _ _ _ _ g).trans q
          rcases ite_of h with h | h
          · exact fr_e2 h q
          · exact fr_e2 h q
        · exact fr_e2 h q
      · exact fr_e2 h q
    · exact fr_e2 h q
  · exact fr_e2 h q
abbrev W_X12_keyOf : List (Nat × Option Nat) := []
set_option maxRecDepth 20000 in
theorem fr_s_X12_keyOf {n o j : Nat} {r : Int32} {τ : Sg} (ho : fok W_X12_keyOf o j = true) (σ : Sg) (h : s_X12_keyOf n σ = some (r, τ)) : τ o j = σ o j := by
  unfold s_X12_keyOf at h
  have q : σ o j = σ o j := rfl
  obtain ⟨r2, σ1, g, h⟩ := bd_of h
  have q : σ1 o j = σ o j := (fr_s_X12_isWord rfl _ _ _ _ _ _ _ _ g).trans q
  rcases ite_of h with h | h
  · obtain ⟨r4, σ3, g, h⟩ := bd_of h
    have q : σ3 o j = σ o j := (fr_s_X12_isWord rfl _ _ _ _ _ _ _ _ g).trans q
    rcases ite_of h with h | h
    · obtain ⟨r6, σ5, g, h⟩ := bd_of h
      have q : σ5 o j = σ o j := (fr_s_X12_isWord rfl _ _ _ _ _ _ _ _ g).trans q
      rcases ite_of h with h | h
      · obtain ⟨r8, σ7, g, h⟩ := bd_of h
        have q : σ7 o j = σ o j := (fr_s_X12_isWord rfl _ _ _ _ _ _ _ _ g).trans q
        rcases ite_of h with h | h
        · exact fr_e2 h q
        · exact fr_e2 h q
      · exact fr_e2 h q
    · exact fr_e2 h q
  · exact fr_e2 h q
abbrev W_X12_readKeys : List (Nat × Option Nat) := [(71, some 34), (71, some 35), (71, some 36), (71, some 37), (71, some 38), (96, none), (97, none)]
set_option maxRecDepth 20000 in
theorem fr_s_X12_readKeys_115 {n o j : Nat} {τ : Sg} (ho : fok W_X12_readKeys o j = true) (rc10 : Int32 → Int32 → Int32 → Int32 → Int32 → Sg → Option Sg) (H10 : ∀ (x1 : Int32) (x2 : Int32) (x3 : Int32) (x4 : Int32) (x5 : Int32) (σ : Sg), rc10 x1 x2 x3 x4 x5 σ = some τ → τ o j = σ o j) (x1 : Int32) (x2 : Int32) (x3 : Int32) (x4 : Int32) (y0 : Int32) (σ : Sg) (h : s_X12_readKeys_115 n rc10 x1 x2 x3 x4 y0 σ = some τ) : τ o j = σ o j := by
  unfold s_X12_readKeys_115 at h
  have q : σ o j = σ o j := rfl
  obtain ⟨r24, σ23, g, h⟩ := bd_of h
  have q : σ23 o j = σ o j := (fr_s_X12_one rfl _ _ g).trans q
  obtain ⟨σ25, e, h⟩ := lt_of h
  have q : σ25 o j = σ o j := by rw [e]; exact (up2_f ho (by decide)).trans q
  exact (H10 x1 x2 x3 x4 y0 σ25  h).trans q
set_option maxRecDepth 20000 in
theorem fr_s_X12_readKeys_69 {n o j : Nat} {τ : Sg} (ho : fok W_X12_readKeys o j = true) (rc10 : Int32 → Int32 → Int32 → Int32 → Int32 → Sg → Option Sg) (H10 : ∀ (x1 : Int32) (x2 : Int32) (x3 : Int32) (x4 : Int32) (x5 : Int32) (σ : Sg), rc10 x1 x2 x3 x4 x5 σ = some τ → τ o j = σ o j) (x1 : Int32) (x2 : Int32) (x3 : Int32) (x4 : Int32) (x5 : Int32) (x6 : Int32) (y0 : Int32) (σ : Sg) (h : s_X12_readKeys_69 n rc10 x1 x2 x3 x4 x5 x6 y0 σ = some τ) : τ o j = σ o j := by
  unfold s_X12_readKeys_69 at h
  have q : σ o j = σ o j := rfl
  obtain ⟨r15, σ14, g, h⟩ := bd_of h
  have q : σ14 o j = σ o j := (fr_s_X12_want (fok_sub ho (by decide)) _ _ _ _  g).trans q
  rcases ite_of h with h | h
  · exact (H10 x1 x2 x3 x4 x5 σ14  h).trans q
  · obtain ⟨v16, -, h⟩ := lt_of h
    obtain ⟨v17, -, h⟩ := lt_of h
    obtain ⟨r19, σ18, g, h⟩ := bd_of h
    have q : σ18 o j = σ o j := (fr_s_X12_here (fok_sub ho (by decide)) _  g).trans q
    obtain ⟨v22, -, h⟩ := lt_of h
    exact (fr_s_X12_readKeys_115 ho rc10 H10 x1 v16 (x3 + (1 : Int32)) v17 v22 σ18  h).trans q
set_option maxRecDepth 20000 in
theorem fr_s_X12_readKeys_43 {n o j : Nat} {τ : Sg} (ho : fok W_X12_readKeys o j = true) (rc10 : Int32 → Int32 → Int32 → Int32 → Int32 → Sg → Option Sg) (H10 : ∀ (x1 : Int32) (x2 : Int32) (x3 : Int32) (x4 : Int32) (x5 : Int32) (σ : Sg), rc10 x1 x2 x3 x4 x5 σ = some τ → τ o j = σ o j) (x1 : Int32) (x2 : Int32) (x3 : Int32) (x4 : Int32) (x5 : Int32) (x6 : Int32) (y0 : Int32) (σ : Sg) (h : s_X12_readKeys_43 n rc10 x1 x2 x3 x4 x5 x6 y0 σ = some τ) : τ o j = σ o j := by
  unfold s_X12_readKeys_43 at h
  have q : σ o j = σ o j := rfl
  obtain ⟨r10, σ9, g, h⟩ := bd_of h
  have q : σ9 o j = σ o j := (fr_s_X12_want (fok_sub ho (by decide)) _ _ _ _  g).trans q
  rcases ite_of h with h | h
  · exact (H10 x1 x2 x3 x4 x5 σ9  h).trans q
  · obtain ⟨v13, -, h⟩ := lt_of h
    exact (fr_s_X12_readKeys_69 ho rc10 H10 x1 x2 x3 x4 x5 x6 v13 σ9  h).trans q
set_option maxRecDepth 20000 in
theorem fr_s_X12_readKeys_134 {n o j : Nat} {τ : Sg} (ho : fok W_X12_readKeys o j = true) (x1 : Int32) (x3 : Int32) (x4 : Int32) (σ : Sg) (h : s_X12_readKeys_134 n x1 x3 x4 σ = some τ) : τ o j = σ o j := by
  unfold s_X12_readKeys_134 at h
  have q : σ o j = σ o j := rfl
  have h := (ck_of h).2
  obtain ⟨σ7, e, h⟩ := lt_of h
  have q : σ7 o j = σ o j := by rw [e]; exact (up2_o (fok_a ho (by decide))).trans q
  have h := (ck_of h).2
  obtain ⟨σ8, e, h⟩ := lt_of h
  have q : σ8 o j = σ o j := by rw [e]; exact (up2_o (fok_a ho (by decide))).trans q
  exact fr_e1 h q
set_option maxRecDepth 20000 in
theorem fr_s_X12_readKeys_10b {n o j : Nat} {τ : Sg} (ho : fok W_X12_readKeys o j = true) (rc10 : Int32 → Int32 → Int32 → Int32 → Int32 → Sg → Option Sg) (H10 : ∀ (x1 : Int32) (x2 : Int32) (x3 : Int32) (x4 : Int32) (x5 : Int32) (σ : Sg), rc10 x1 x2 x3 x4 x5 σ = some τ → τ o j = σ o j) (x1 : Int32) (x2 : Int32) (x3 : Int32) (x4 : Int32) (x5 : Int32) (σ : Sg) (h : s_X12_readKeys_10b n rc10 x1 x2 x3 x4 x5 σ = some τ) : τ o j = σ o j := by
  unfold s_X12_readKeys_10b at h
  have q : σ o j = σ o j := rfl
  rcases ite_of h with h | h
  · exact (fr_s_X12_readKeys_134 ho  x1 x3 x4 σ  h).trans q
  · rcases ite_of h with h | h
    · obtain ⟨σ1, g, h⟩ := bdv_of h
      have q : σ1 o j = σ o j := (fr_s_X12_takeWord (fok_sub ho (by decide)) _  g).trans q
      obtain ⟨r3, σ2, g, h⟩ := bd_of h
      have q : σ2 o j = σ o j := (fr_s_X12_keyOf rfl _ g).trans q
      obtain ⟨v6, -, h⟩ := lt_of h
      exact (fr_s_X12_readKeys_43 ho rc10 H10 x1 x2 x3 x4 x5 r3 v6 σ2  h).trans q
    · exact (fr_s_X12_readKeys_134 ho  x1 x3 x4 σ  h).trans q
theorem fr_s_X12_readKeys_10 {n o j : Nat} {τ : Sg} (ho : fok W_X12_readKeys o j = true) : ∀ (k : Nat) (x1 : Int32) (x2 : Int32) (x3 : Int32) (x4 : Int32) (x5 : Int32) (σ : Sg), s_X12_readKeys_10 n k x1 x2 x3 x4 x5 σ = some τ → τ o j = σ o j := by
  intro k
  induction k with
  | zero => intro x1 x2 x3 x4 x5 σ  h; cases h
  | succ k ih => intro x1 x2 x3 x4 x5 σ  h; exact fr_s_X12_readKeys_10b ho  (s_X12_readKeys_10 n  k) ih x1 x2 x3 x4 x5 σ  h
set_option maxRecDepth 20000 in
theorem fr_s_X12_readKeys {n o j : Nat} {τ : Sg} (ho : fok W_X12_readKeys o j = true) (x1 : Int32) (σ : Sg) (h : s_X12_readKeys n x1 σ = some τ) : τ o j = σ o j := by
  unfold s_X12_readKeys at h
  have q : σ o j = σ o j := rfl
  exact (fr_s_X12_readKeys_10 ho  n x1 (0 : Int32) (0 : Int32) (0 : Int32) (1 : Int32) σ  h).trans q
abbrev W_X12_readClause : List (Nat × Option Nat) := [(71, some 34), (71, some 35), (71, some 36), (71, some 37), (71, some 38), (95, none), (96, none), (97, none)]
set_option maxRecDepth 20000 in
theorem fr_s_X12_readClause_184 {n o j : Nat} {τ : Sg} (ho : fok W_X12_readClause o j = true) (y0 : Int32) (y2 : Int32) (σ : Sg) (h : s_X12_readClause_184 n y0 y2 σ = some τ) : τ o j = σ o j := by
  unfold s_X12_readClause_184 at h
  have q : σ o j = σ o j := rfl
  obtain ⟨r31, σ30, g, h⟩ := bd_of h
  have q : σ30 o j = σ o j := (fr_s_X12_want (fok_sub ho (by decide)) _ _ _ _  g).trans q
  obtain ⟨r33, σ32, g, h⟩ := bd_of h
  have q : σ32 o j = σ o j := (fr_s_X12_one rfl _ _ g).trans q
  obtain ⟨σ34, e, h⟩ := lt_of h
  have q : σ34 o j = σ o j := by rw [e]; exact (up2_f ho (by decide)).trans q
  exact fr_e1 h q
set_option maxRecDepth 20000 in
theorem fr_s_X12_readClause_155 {n o j : Nat} {τ : Sg} (ho : fok W_X12_readClause o j = true) (σ : Sg) (h : s_X12_readClause_155 n σ = some τ) : τ o j = σ o j := by
  unfold s_X12_readClause_155 at h
  have q : σ o j = σ o j := rfl
  rcases ite_of h with h | h
  · obtain ⟨r24, σ23, g, h⟩ := bd_of h
    have q : σ23 o j = σ o j := (fr_s_X12_here (fok_sub ho (by decide)) _  g).trans q
    obtain ⟨v27, -, h⟩ := lt_of h
    exact (fr_s_X12_readClause_184 ho  v27 (σ23 71 34) σ23  h).trans q
  · exact fr_e1 h q
set_option maxRecDepth 20000 in
theorem fr_s_X12_readClause_130 {n o j : Nat} {τ : Sg} (ho : fok W_X12_readClause o j = true) (y0 : Int32) (σ : Sg) (h : s_X12_readClause_130 n y0 σ = some τ) : τ o j = σ o j := by
  unfold s_X12_readClause_130 at h
  have q : σ o j = σ o j := rfl
  obtain ⟨r29, σ28, g, h⟩ := bd_of h
  have q : σ28 o j = σ o j := (fr_s_X12_want (fok_sub ho (by decide)) _ _ _ _  g).trans q
  exact (fr_s_X12_readClause_155 ho  σ28  h).trans q
set_option maxRecDepth 20000 in
theorem fr_s_X12_readClause {n o j : Nat} {τ : Sg} (ho : fok W_X12_readClause o j = true) (x1 : Int32) (x2 : Int32) (σ : Sg) (h : s_X12_readClause n x1 x2 σ = some τ) : τ o j = σ o j := by
  unfold s_X12_readClause at h
  have q : σ o j = σ o j := rfl
  have h := (ck_of h).2
  obtain ⟨σ1, e, h⟩ := lt_of h
  have q : σ1 o j = σ o j := by rw [e]; exact (up2_o (fok_a ho (by decide))).trans q
  rcases ite_of h with h | h
  · obtain ⟨σ22, g, h⟩ := bdv_of h
    have q : σ22 o j = σ o j := (fr_s_X12_readKeys (fok_sub ho (by decide)) _ _  g).trans q
    exact (fr_s_X12_readClause_155 ho  σ22  h).trans q
  · rcases ite_of h with h | h
    · obtain ⟨r12, σ11, g, h⟩ := bd_of h
      have q : σ11 o j = σ o j := (fr_s_X12_takeNumber (fok_sub ho (by decide)) _ _ _  g).trans q
      have h := (ck_of h).2
      obtain ⟨σ13, e, h⟩ := lt_of h
      have q : σ13 o j = σ o j := by rw [e]; exact (up2_o (fok_a ho (by decide))).trans q
      rcases ite_of h with h | h
      · obtain ⟨σ14, g, h⟩ := bdv_of h
        have q : σ14 o j = σ o j := (fr_s_X12_takeWord (fok_sub ho (by decide)) _  g).trans q
        obtain ⟨r16, σ15, g, h⟩ := bd_of h
        have q : σ15 o j = σ o j := (fr_s_X12_isWord rfl _ _ _ _ _ _ _ _ g).trans q
        obtain ⟨r18, σ17, g, h⟩ := bd_of h
        have q : σ17 o j = σ o j := (fr_s_X12_want (fok_sub ho (by decide)) _ _ _ _  g).trans q
        have h := (ck_of h).2
        obtain ⟨r20, σ19, g, h⟩ := bd_of h
        have q : σ19 o j = σ o j := (fr_s_X12_takeNumber (fok_sub ho (by decide)) _ _ _  g).trans q
        have h := (ck_of h).2
        obtain ⟨σ21, e, h⟩ := lt_of h
        have q : σ21 o j = σ o j := by rw [e]; exact (up2_o (fok_a ho (by decide))).trans q
        exact (fr_s_X12_readClause_155 ho  σ21  h).trans q
      · exact (fr_s_X12_readClause_155 ho  σ13  h).trans q
    · rcases ite_of h with h | h
      · obtain ⟨r6, σ5, g, h⟩ := bd_of h
        have q : σ5 o j = σ o j := (fr_s_X12_takeNumber (fok_sub ho (by decide)) _ _ _  g).trans q
        have h := (ck_of h).2
        obtain ⟨σ7, e, h⟩ := lt_of h
        have q : σ7 o j = σ o j := by rw [e]; exact (up2_o (fok_a ho (by decide))).trans q
        have h := (ck_of h).2
        obtain ⟨v10, -, h⟩ := lt_of h
        exact (fr_s_X12_readClause_130 ho  v10 σ7  h).trans q
      · obtain ⟨r3, σ2, g, h⟩ := bd_of h
        have q : σ2 o j = σ o j := (fr_s_X12_takeNumber (fok_sub ho (by decide)) _ _ _  g).trans q
        have h := (ck_of h).2
        obtain ⟨σ4, e, h⟩ := lt_of h
        have q : σ4 o j = σ o j := by rw [e]; exact (up2_o (fok_a ho (by decide))).trans q
        exact (fr_s_X12_readClause_155 ho  σ4  h).trans q
abbrev W_X12_isDay : List (Nat × Option Nat) := []
set_option maxRecDepth 20000 in
theorem fr_s_X12_isDay {n o j : Nat} {r : Int32} {τ : Sg} (ho : fok W_X12_isDay o j = true) (x0 : Int32) (σ : Sg) (h : s_X12_isDay n x0 σ = some (r, τ)) : τ o j = σ o j := by
  unfold s_X12_isDay at h
  have q : σ o j = σ o j := rfl
  obtain ⟨r2, σ1, g, h⟩ := bd_of h
  have q : σ1 o j = σ o j := (fr_s_X12_in rfl _ _ _ _ g).trans q
  have h := (bck_of h).2
  exact fr_e2 h q
abbrev W_X12_rule : List (Nat × Option Nat) := [(71, some 26), (71, some 33), (71, some 34), (71, some 35), (71, some 36), (71, some 37), (71, some 38), (93, none), (94, none), (95, none), (96, none), (97, none)]
set_option maxRecDepth 20000 in
theorem fr_s_X12_rule_97 {n o j : Nat} {r : Int32} {τ : Sg} (ho : fok W_X12_rule o j = true) (rc41 : Int32 → Int32 → Sg → Option (Int32 × Sg)) (H41 : ∀ (x1 : Int32) (x2 : Int32) (σ : Sg), rc41 x1 x2 σ = some (r, τ) → τ o j = σ o j) (x1 : Int32) (x2 : Int32) (x3 : Int32) (y0 : Int32) (σ : Sg) (h : s_X12_rule_97 n rc41 x1 x2 x3 y0 σ = some (r, τ)) : τ o j = σ o j := by
  unfold s_X12_rule_97 at h
  have q : σ o j = σ o j := rfl
  obtain ⟨r24, σ23, g, h⟩ := bd_of h
  have q : σ23 o j = σ o j := (fr_s_X12_want (fok_sub ho (by decide)) _ _ _ _  g).trans q
  rcases ite_of h with h | h
  · exact (H41 x1 x2 σ23  h).trans q
  · obtain ⟨σ25, g, h⟩ := bdv_of h
    have q : σ25 o j = σ o j := (fr_s_X12_readClause (fok_sub ho (by decide)) _ _ _  g).trans q
    exact (H41 x1 (x2 + (1 : Int32)) σ25  h).trans q
set_option maxRecDepth 20000 in
theorem fr_s_X12_rule_74 {n o j : Nat} {r : Int32} {τ : Sg} (ho : fok W_X12_rule o j = true) (rc41 : Int32 → Int32 → Sg → Option (Int32 × Sg)) (H41 : ∀ (x1 : Int32) (x2 : Int32) (σ : Sg), rc41 x1 x2 σ = some (r, τ) → τ o j = σ o j) (x1 : Int32) (x2 : Int32) (x3 : Int32) (y0 : Int32) (σ : Sg) (h : s_X12_rule_74 n rc41 x1 x2 x3 y0 σ = some (r, τ)) : τ o j = σ o j := by
  unfold s_X12_rule_74 at h
  have q : σ o j = σ o j := rfl
  obtain ⟨r19, σ18, g, h⟩ := bd_of h
  have q : σ18 o j = σ o j := (fr_s_X12_want (fok_sub ho (by decide)) _ _ _ _  g).trans q
  rcases ite_of h with h | h
  · exact (H41 x1 x2 σ18  h).trans q
  · obtain ⟨v22, -, h⟩ := lt_of h
    exact (fr_s_X12_rule_97 ho rc41 H41 x1 x2 x3 v22 σ18  h).trans q
set_option maxRecDepth 20000 in
theorem fr_s_X12_rule_128 {n o j : Nat} {r : Int32} {τ : Sg} (ho : fok W_X12_rule o j = true) (x1 : Int32) (x2 : Int32) (σ : Sg) (h : s_X12_rule_128 n x1 x2 σ = some (r, τ)) : τ o j = σ o j := by
  unfold s_X12_rule_128 at h
  have q : σ o j = σ o j := rfl
  obtain ⟨σ14, e, h⟩ := lt_of h
  have q : σ14 o j = σ o j := by rw [e]; exact (up2_f ho (by decide)).trans q
  rcases ite_of h with h | h
  · have h := (ck_of h).2
    obtain ⟨σ15, e, h⟩ := lt_of h
    have q : σ15 o j = σ o j := by rw [e]; exact (up2_o (fok_a ho (by decide))).trans q
    have h := (ck_of h).2
    obtain ⟨σ16, e, h⟩ := lt_of h
    have q : σ16 o j = σ o j := by rw [e]; exact (up2_o (fok_a ho (by decide))).trans q
    obtain ⟨σ17, e, h⟩ := lt_of h
    have q : σ17 o j = σ o j := by rw [e]; exact (up2_f ho (by decide)).trans q
    exact fr_e2 h q
  · exact fr_e2 h q
set_option maxRecDepth 20000 in
theorem fr_s_X12_rule_41b {n o j : Nat} {r : Int32} {τ : Sg} (ho : fok W_X12_rule o j = true) (rc41 : Int32 → Int32 → Sg → Option (Int32 × Sg)) (H41 : ∀ (x1 : Int32) (x2 : Int32) (σ : Sg), rc41 x1 x2 σ = some (r, τ) → τ o j = σ o j) (x1 : Int32) (x2 : Int32) (σ : Sg) (h : s_X12_rule_41b n rc41 x1 x2 σ = some (r, τ)) : τ o j = σ o j := by
  unfold s_X12_rule_41b at h
  have q : σ o j = σ o j := rfl
  rcases ite_of h with h | h
  · obtain ⟨r7, σ6, g, h⟩ := bd_of h
    have q : σ6 o j = σ o j := (fr_s_X12_here (fok_sub ho (by decide)) _  g).trans q
    rcases ite_of h with h | h
    · exact (fr_s_X12_rule_128 ho  x1 x2 σ6  h).trans q
    · obtain ⟨σ8, g, h⟩ := bdv_of h
      have q : σ8 o j = σ o j := (fr_s_X12_takeWord (fok_sub ho (by decide)) _  g).trans q
      obtain ⟨r10, σ9, g, h⟩ := bd_of h
      have q : σ9 o j = σ o j := (fr_s_X12_clauseOf rfl _ g).trans q
      obtain ⟨v13, -, h⟩ := lt_of h
      exact (fr_s_X12_rule_74 ho rc41 H41 x1 x2 r10 v13 σ9  h).trans q
  · exact (fr_s_X12_rule_128 ho  x1 x2 σ  h).trans q
theorem fr_s_X12_rule_41 {n o j : Nat} {r : Int32} {τ : Sg} (ho : fok W_X12_rule o j = true) : ∀ (k : Nat) (x1 : Int32) (x2 : Int32) (σ : Sg), s_X12_rule_41 n k x1 x2 σ = some (r, τ) → τ o j = σ o j := by
  intro k
  induction k with
  | zero => intro x1 x2 σ  h; cases h
  | succ k ih => intro x1 x2 σ  h; exact fr_s_X12_rule_41b ho  (s_X12_rule_41 n  k) ih x1 x2 σ  h
set_option maxRecDepth 20000 in
theorem fr_s_X12_rule {n o j : Nat} {r : Int32} {τ : Sg} (ho : fok W_X12_rule o j = true) (x1 : Int32) (σ : Sg) (h : s_X12_rule n x1 σ = some (r, τ)) : τ o j = σ o j := by
  unfold s_X12_rule at h
  have q : σ o j = σ o j := rfl
  obtain ⟨r2, σ1, g, h⟩ := bd_of h
  have q : σ1 o j = σ o j := (fr_s_X12_isDay rfl _ _ g).trans q
  rcases ite_of h with h | h
  · exact fr_e2 h q
  · rcases ite_of h with h | h
    · exact fr_e2 h q
    · obtain ⟨σ3, e, h⟩ := lt_of h
      have q : σ3 o j = σ o j := by rw [e]; exact (up2_f ho (by decide)).trans q
      obtain ⟨σ4, e, h⟩ := lt_of h
      have q : σ4 o j = σ o j := by rw [e]; exact (up2_f ho (by decide)).trans q
      obtain ⟨σ5, e, h⟩ := lt_of h
      have q : σ5 o j = σ o j := by rw [e]; exact (up2_f ho (by decide)).trans q
      exact (fr_s_X12_rule_41 ho  n x1 (0 : Int32) σ5  h).trans q
abbrev W_X12_fault : List (Nat × Option Nat) := []
set_option maxRecDepth 20000 in
theorem fr_s_X12_fault {n o j : Nat} {r : Int32} {τ : Sg} (ho : fok W_X12_fault o j = true) (σ : Sg) (h : s_X12_fault n σ = some (r, τ)) : τ o j = σ o j := by
  unfold s_X12_fault at h
  have q : σ o j = σ o j := rfl
  exact fr_e2 h q
abbrev W_X12_findRules : List (Nat × Option Nat) := [(71, some 41), (71, some 42), (71, some 43), (71, some 44), (71, some 45), (71, some 46), (99, none), (100, none)]
set_option maxRecDepth 20000 in
theorem fr_s_X12_findRules_53b {n o j : Nat} {τ : Sg} (ho : fok W_X12_findRules o j = true) (rc44 : Int32 → Sg → Option Sg) (H44 : ∀ (x2 : Int32) (σ : Sg), rc44 x2 σ = some τ → τ o j = σ o j) (rc53 : Int32 → Int32 → Sg → Option Sg) (H53 : ∀ (x2 : Int32) (x3 : Int32) (σ : Sg), rc53 x2 x3 σ = some τ → τ o j = σ o j) (x2 : Int32) (x3 : Int32) (σ : Sg) (h : s_X12_findRules_53b n rc44 rc53 x2 x3 σ = some τ) : τ o j = σ o j := by
  unfold s_X12_findRules_53b at h
  have q : σ o j = σ o j := rfl
  have h := (ck_of h).2
  rcases ite_of h with h | h
  · exact (H44 (x2 + (-1 : Int32)) σ  h).trans q
  · have h := (ck_of h).2
    rcases ite_of h with h | h
    · exact (H44 (x2 + (-1 : Int32)) σ  h).trans q
    · have h := (ck_of h).2
      rcases ite_of h with h | h
      · have h := (ck_of h).2
        have h := (ck_of h).2
        obtain ⟨σ13, e, h⟩ := lt_of h
        have q : σ13 o j = σ o j := by rw [e]; exact (up2_o (fok_a ho (by decide))).trans q
        exact (H53 x2 (x3 + (1 : Int32)) σ13  h).trans q
      · exact (H53 x2 (x3 + (1 : Int32)) σ  h).trans q
theorem fr_s_X12_findRules_53 {n o j : Nat} {τ : Sg} (ho : fok W_X12_findRules o j = true) (rc44 : Int32 → Sg → Option Sg) (H44 : ∀ (x2 : Int32) (σ : Sg), rc44 x2 σ = some τ → τ o j = σ o j) : ∀ (k : Nat) (x2 : Int32) (x3 : Int32) (σ : Sg), s_X12_findRules_53 n rc44 k x2 x3 σ = some τ → τ o j = σ o j := by
  intro k
  induction k with
  | zero => intro x2 x3 σ  h; cases h
  | succ k ih => intro x2 x3 σ  h; exact fr_s_X12_findRules_53b ho rc44 H44 (s_X12_findRules_53 n rc44 k) ih x2 x3 σ  h
set_option maxRecDepth 20000 in
theorem fr_s_X12_findRules_185 {n o j : Nat} {τ : Sg} (ho : fok W_X12_findRules o j = true) (rc115 : Int32 → Int32 → Sg → Option Sg) (H115 : ∀ (x2 : Int32) (x3 : Int32) (σ : Sg), rc115 x2 x3 σ = some τ → τ o j = σ o j) (x2 : Int32) (x3 : Int32) (x4 : Int32) (σ : Sg) (h : s_X12_findRules_185 n rc115 x2 x3 x4 σ = some τ) : τ o j = σ o j := by
  unfold s_X12_findRules_185 at h
  have q : σ o j = σ o j := rfl
  have h := (ck_of h).2
  obtain ⟨σ22, e, h⟩ := lt_of h
  have q : σ22 o j = σ o j := by rw [e]; exact (up2_o (fok_a ho (by decide))).trans q
  exact (H115 (x2 + (1 : Int32)) (x3 + (1 : Int32)) σ22  h).trans q
set_option maxRecDepth 20000 in
theorem fr_s_X12_findRules_135b {n o j : Nat} {τ : Sg} (ho : fok W_X12_findRules o j = true) (rc115 : Int32 → Int32 → Sg → Option Sg) (H115 : ∀ (x2 : Int32) (x3 : Int32) (σ : Sg), rc115 x2 x3 σ = some τ → τ o j = σ o j) (rc135 : Int32 → Int32 → Int32 → Sg → Option Sg) (H135 : ∀ (x2 : Int32) (x3 : Int32) (x4 : Int32) (σ : Sg), rc135 x2 x3 x4 σ = some τ → τ o j = σ o j) (x2 : Int32) (x3 : Int32) (x4 : Int32) (σ : Sg) (h : s_X12_findRules_135b n rc115 rc135 x2 x3 x4 σ = some τ) : τ o j = σ o j := by
  unfold s_X12_findRules_135b at h
  have q : σ o j = σ o j := rfl
  rcases ite_of h with h | h
  · exact (fr_s_X12_findRules_185 ho rc115 H115 x2 x3 x4 σ  h).trans q
  · have h := (ck_of h).2
    have h := (ck_of h).2
    have h := (ck_of h).2
    rcases ite_of h with h | h
    · exact (fr_s_X12_findRules_185 ho rc115 H115 x2 x3 x4 σ  h).trans q
    · have h := (ck_of h).2
      have h := (ck_of h).2
      obtain ⟨σ15, e, h⟩ := lt_of h
      have q : σ15 o j = σ o j := by rw [e]; exact (up2_o (fok_a ho (by decide))).trans q
      exact (H135 x2 x3 (x4 + (-1 : Int32)) σ15  h).trans q
theorem fr_s_X12_findRules_135 {n o j : Nat} {τ : Sg} (ho : fok W_X12_findRules o j = true) (rc115 : Int32 → Int32 → Sg → Option Sg) (H115 : ∀ (x2 : Int32) (x3 : Int32) (σ : Sg), rc115 x2 x3 σ = some τ → τ o j = σ o j) : ∀ (k : Nat) (x2 : Int32) (x3 : Int32) (x4 : Int32) (σ : Sg), s_X12_findRules_135 n rc115 k x2 x3 x4 σ = some τ → τ o j = σ o j := by
  intro k
  induction k with
  | zero => intro x2 x3 x4 σ  h; cases h
  | succ k ih => intro x2 x3 x4 σ  h; exact fr_s_X12_findRules_135b ho rc115 H115 (s_X12_findRules_135 n rc115 k) ih x2 x3 x4 σ  h
set_option maxRecDepth 20000 in
theorem fr_s_X12_findRules_252b {n o j : Nat} {τ : Sg} (ho : fok W_X12_findRules o j = true) (rc236 : Int32 → Int32 → Sg → Option Sg) (H236 : ∀ (x2 : Int32) (x3 : Int32) (σ : Sg), rc236 x2 x3 σ = some τ → τ o j = σ o j) (rc252 : Int32 → Int32 → Int32 → Sg → Option Sg) (H252 : ∀ (x2 : Int32) (x3 : Int32) (x4 : Int32) (σ : Sg), rc252 x2 x3 x4 σ = some τ → τ o j = σ o j) (x2 : Int32) (x3 : Int32) (x4 : Int32) (σ : Sg) (h : s_X12_findRules_252b n rc236 rc252 x2 x3 x4 σ = some τ) : τ o j = σ o j := by
  unfold s_X12_findRules_252b at h
  have q : σ o j = σ o j := rfl
  have h := (ck_of h).2
  have h := (ck_of h).2
  have h := (ck_of h).2
  rcases ite_of h with h | h
  · exact (H236 x2 (x3 + (1 : Int32)) σ  h).trans q
  · have h := (ck_of h).2
    rcases ite_of h with h | h
    · have h := (ck_of h).2
      obtain ⟨σ20, e, h⟩ := lt_of h
      have q : σ20 o j = σ o j := by rw [e]; exact (up2_f ho (by decide)).trans q
      have h := (ck_of h).2
      obtain ⟨σ21, e, h⟩ := lt_of h
      have q : σ21 o j = σ o j := by rw [e]; exact (up2_f ho (by decide)).trans q
      exact (H252 x2 x3 (x4 + (1 : Int32)) σ21  h).trans q
    · have h := (ck_of h).2
      rcases ite_of h with h | h
      · have h := (ck_of h).2
        obtain ⟨σ18, e, h⟩ := lt_of h
        have q : σ18 o j = σ o j := by rw [e]; exact (up2_f ho (by decide)).trans q
        have h := (ck_of h).2
        obtain ⟨σ19, e, h⟩ := lt_of h
        have q : σ19 o j = σ o j := by rw [e]; exact (up2_f ho (by decide)).trans q
        exact (H252 x2 x3 (x4 + (1 : Int32)) σ19  h).trans q
      · have h := (ck_of h).2
        rcases ite_of h with h | h
        · have h := (ck_of h).2
          obtain ⟨σ17, e, h⟩ := lt_of h
          have q : σ17 o j = σ o j := by rw [e]; exact (up2_f ho (by decide)).trans q
          exact (H252 x2 x3 (x4 + (1 : Int32)) σ17  h).trans q
        · have h := (ck_of h).2
          rcases ite_of h with h | h
          · have h := (ck_of h).2
            obtain ⟨σ16, e, h⟩ := lt_of h
            have q : σ16 o j = σ o j := by rw [e]; exact (up2_f ho (by decide)).trans q
            exact (H252 x2 x3 (x4 + (1 : Int32)) σ16  h).trans q
          · exact (H252 x2 x3 (x4 + (1 : Int32)) σ  h).trans q
theorem fr_s_X12_findRules_252 {n o j : Nat} {τ : Sg} (ho : fok W_X12_findRules o j = true) (rc236 : Int32 → Int32 → Sg → Option Sg) (H236 : ∀ (x2 : Int32) (x3 : Int32) (σ : Sg), rc236 x2 x3 σ = some τ → τ o j = σ o j) : ∀ (k : Nat) (x2 : Int32) (x3 : Int32) (x4 : Int32) (σ : Sg), s_X12_findRules_252 n rc236 k x2 x3 x4 σ = some τ → τ o j = σ o j := by
  intro k
  induction k with
  | zero => intro x2 x3 x4 σ  h; cases h
  | succ k ih => intro x2 x3 x4 σ  h; exact fr_s_X12_findRules_252b ho rc236 H236 (s_X12_findRules_252 n rc236 k) ih x2 x3 x4 σ  h
set_option maxRecDepth 20000 in
theorem fr_s_X12_findRules_236b {n o j : Nat} {τ : Sg} (ho : fok W_X12_findRules o j = true) (rc236 : Int32 → Int32 → Sg → Option Sg) (H236 : ∀ (x2 : Int32) (x3 : Int32) (σ : Sg), rc236 x2 x3 σ = some τ → τ o j = σ o j) (x2 : Int32) (x3 : Int32) (σ : Sg) (h : s_X12_findRules_236b n rc236 x2 x3 σ = some τ) : τ o j = σ o j := by
  unfold s_X12_findRules_236b at h
  have q : σ o j = σ o j := rfl
  rcases ite_of h with h | h
  · exact fr_e1 h q
  · have h := (ck_of h).2
    obtain ⟨v14, -, h⟩ := lt_of h
    exact (fr_s_X12_findRules_252 ho rc236 H236 n x2 x3 v14 σ  h).trans q
theorem fr_s_X12_findRules_236 {n o j : Nat} {τ : Sg} (ho : fok W_X12_findRules o j = true) : ∀ (k : Nat) (x2 : Int32) (x3 : Int32) (σ : Sg), s_X12_findRules_236 n k x2 x3 σ = some τ → τ o j = σ o j := by
  intro k
  induction k with
  | zero => intro x2 x3 σ  h; cases h
  | succ k ih => intro x2 x3 σ  h; exact fr_s_X12_findRules_236b ho  (s_X12_findRules_236 n  k) ih x2 x3 σ  h
set_option maxRecDepth 20000 in
theorem fr_s_X12_findRules_115b {n o j : Nat} {τ : Sg} (ho : fok W_X12_findRules o j = true) (rc115 : Int32 → Int32 → Sg → Option Sg) (H115 : ∀ (x2 : Int32) (x3 : Int32) (σ : Sg), rc115 x2 x3 σ = some τ → τ o j = σ o j) (x2 : Int32) (x3 : Int32) (σ : Sg) (h : s_X12_findRules_115b n rc115 x2 x3 σ = some τ) : τ o j = σ o j := by
  unfold s_X12_findRules_115b at h
  have q : σ o j = σ o j := rfl
  rcases ite_of h with h | h
  · obtain ⟨σ7, e, h⟩ := lt_of h
    have q : σ7 o j = σ o j := by rw [e]; exact (up2_f ho (by decide)).trans q
    obtain ⟨σ8, e, h⟩ := lt_of h
    have q : σ8 o j = σ o j := by rw [e]; exact (up2_f ho (by decide)).trans q
    obtain ⟨σ9, e, h⟩ := lt_of h
    have q : σ9 o j = σ o j := by rw [e]; exact (up2_f ho (by decide)).trans q
    obtain ⟨σ10, e, h⟩ := lt_of h
    have q : σ10 o j = σ o j := by rw [e]; exact (up2_f ho (by decide)).trans q
    obtain ⟨σ11, e, h⟩ := lt_of h
    have q : σ11 o j = σ o j := by rw [e]; exact (up2_f ho (by decide)).trans q
    obtain ⟨σ12, e, h⟩ := lt_of h
    have q : σ12 o j = σ o j := by rw [e]; exact (up2_f ho (by decide)).trans q
    exact (fr_s_X12_findRules_236 ho  n x2 (0 : Int32) σ12  h).trans q
  · have h := (ck_of h).2
    rcases ite_of h with h | h
    · exact (H115 x2 (x3 + (1 : Int32)) σ  h).trans q
    · exact (fr_s_X12_findRules_135 ho rc115 H115 n x2 x3 x2 σ  h).trans q
theorem fr_s_X12_findRules_115 {n o j : Nat} {τ : Sg} (ho : fok W_X12_findRules o j = true) : ∀ (k : Nat) (x2 : Int32) (x3 : Int32) (σ : Sg), s_X12_findRules_115 n k x2 x3 σ = some τ → τ o j = σ o j := by
  intro k
  induction k with
  | zero => intro x2 x3 σ  h; cases h
  | succ k ih => intro x2 x3 σ  h; exact fr_s_X12_findRules_115b ho  (s_X12_findRules_115 n  k) ih x2 x3 σ  h
set_option maxRecDepth 20000 in
theorem fr_s_X12_findRules_44b {n o j : Nat} {τ : Sg} (ho : fok W_X12_findRules o j = true) (rc44 : Int32 → Sg → Option Sg) (H44 : ∀ (x2 : Int32) (σ : Sg), rc44 x2 σ = some τ → τ o j = σ o j) (x2 : Int32) (σ : Sg) (h : s_X12_findRules_44b n rc44 x2 σ = some τ) : τ o j = σ o j := by
  unfold s_X12_findRules_44b at h
  have q : σ o j = σ o j := rfl
  rcases ite_of h with h | h
  · exact (fr_s_X12_findRules_115 ho  n (0 : Int32) (0 : Int32) σ  h).trans q
  · obtain ⟨v6, -, h⟩ := lt_of h
    exact (fr_s_X12_findRules_53 ho rc44 H44 n x2 v6 σ  h).trans q
theorem fr_s_X12_findRules_44 {n o j : Nat} {τ : Sg} (ho : fok W_X12_findRules o j = true) : ∀ (k : Nat) (x2 : Int32) (σ : Sg), s_X12_findRules_44 n k x2 σ = some τ → τ o j = σ o j := by
  intro k
  induction k with
  | zero => intro x2 σ  h; cases h
  | succ k ih => intro x2 σ  h; exact fr_s_X12_findRules_44b ho  (s_X12_findRules_44 n  k) ih x2 σ  h
set_option maxRecDepth 20000 in
theorem fr_s_X12_findRules_2b {n o j : Nat} {τ : Sg} (ho : fok W_X12_findRules o j = true) (rc2 : Int32 → Int32 → Sg → Option Sg) (H2 : ∀ (x1 : Int32) (x2 : Int32) (σ : Sg), rc2 x1 x2 σ = some τ → τ o j = σ o j) (x1 : Int32) (x2 : Int32) (σ : Sg) (h : s_X12_findRules_2b n rc2 x1 x2 σ = some τ) : τ o j = σ o j := by
  unfold s_X12_findRules_2b at h
  have q : σ o j = σ o j := rfl
  rcases ite_of h with h | h
  · obtain ⟨v1, -, h⟩ := lt_of h
    exact (fr_s_X12_findRules_44 ho  n v1 σ  h).trans q
  · have h := (ck_of h).2
    obtain ⟨v4, -, h⟩ := lt_of h
    have h := (ck_of h).2
    obtain ⟨σ5, e, h⟩ := lt_of h
    have q : σ5 o j = σ o j := by rw [e]; exact (up2_o (fok_a ho (by decide))).trans q
    exact (H2 x1 (x2 + (1 : Int32)) σ5  h).trans q
theorem fr_s_X12_findRules_2 {n o j : Nat} {τ : Sg} (ho : fok W_X12_findRules o j = true) : ∀ (k : Nat) (x1 : Int32) (x2 : Int32) (σ : Sg), s_X12_findRules_2 n k x1 x2 σ = some τ → τ o j = σ o j := by
  intro k
  induction k with
  | zero => intro x1 x2 σ  h; cases h
  | succ k ih => intro x1 x2 σ  h; exact fr_s_X12_findRules_2b ho  (s_X12_findRules_2 n  k) ih x1 x2 σ  h
set_option maxRecDepth 20000 in
theorem fr_s_X12_findRules {n o j : Nat} {τ : Sg} (ho : fok W_X12_findRules o j = true) (x1 : Int32) (σ : Sg) (h : s_X12_findRules n x1 σ = some τ) : τ o j = σ o j := by
  unfold s_X12_findRules at h
  have q : σ o j = σ o j := rfl
  exact (fr_s_X12_findRules_2 ho  n x1 (0 : Int32) σ  h).trans q
abbrev W_X12_force : List (Nat × Option Nat) := [(71, some 41), (71, some 42), (71, some 43), (71, some 44), (71, some 45), (71, some 46), (99, none), (100, none)]
set_option maxRecDepth 20000 in
theorem fr_s_X12_force {n o j : Nat} {r : Int32} {τ : Sg} (ho : fok W_X12_force o j = true) (x1 : Int32) (x2 : Int32) (σ : Sg) (h : s_X12_force n x1 x2 σ = some (r, τ)) : τ o j = σ o j := by
  unfold s_X12_force at h
  have q : σ o j = σ o j := rfl
  obtain ⟨r2, σ1, g, h⟩ := bd_of h
  have q : σ1 o j = σ o j := (fr_s_X12_in rfl _ _ _ _ g).trans q
  rcases ite_of h with h | h
  · exact fr_e2 h q
  · obtain ⟨r4, σ3, g, h⟩ := bd_of h
    have q : σ3 o j = σ o j := (fr_s_X12_isDay rfl _ _ g).trans q
    rcases ite_of h with h | h
    · exact fr_e2 h q
    · obtain ⟨σ5, g, h⟩ := bdv_of h
      have q : σ5 o j = σ o j := (fr_s_X12_findRules (fok_sub ho (by decide)) _ _  g).trans q
      rcases ite_of h with h | h
      · exact fr_e2 h q
      · rcases ite_of h with h | h
        · exact fr_e2 h q
        · rcases ite_of h with h | h
          · exact fr_e2 h q
          · rcases ite_of h with h | h
            · exact fr_e2 h q
            · rcases ite_of h with h | h
              · exact fr_e2 h q
              · rcases ite_of h with h | h
                · exact fr_e2 h q
                · exact fr_e2 h q
abbrev W_X12_dayNow : List (Nat × Option Nat) := []
set_option maxRecDepth 20000 in
theorem fr_s_X12_dayNow {n o j : Nat} {r : Int32} {τ : Sg} (ho : fok W_X12_dayNow o j = true) (σ : Sg) (h : s_X12_dayNow n σ = some (r, τ)) : τ o j = σ o j := by
  unfold s_X12_dayNow at h
  have q : σ o j = σ o j := rfl
  rcases ite_of h with h | h
  · exact fr_e2 h q
  · exact fr_e2 h q
abbrev W_X12_cell : List (Nat × Option Nat) := []
set_option maxRecDepth 20000 in
theorem fr_s_X12_cell {n o j : Nat} {r : Int32} {τ : Sg} (ho : fok W_X12_cell o j = true) (x0 : Int32) (x1 : Int32) (σ : Sg) (h : s_X12_cell n x0 x1 σ = some (r, τ)) : τ o j = σ o j := by
  unfold s_X12_cell at h
  have q : σ o j = σ o j := rfl
  exact fr_e2 h q
abbrev W_X12_layNet : List (Nat × Option Nat) := [(101, none)]
set_option maxRecDepth 20000 in
theorem fr_s_X12_layNet_24b {n o j : Nat} {τ : Sg} (ho : fok W_X12_layNet o j = true) (rc24 : Int32 → Int32 → Sg → Option Sg) (H24 : ∀ (x1 : Int32) (x2 : Int32) (σ : Sg), rc24 x1 x2 σ = some τ → τ o j = σ o j) (x1 : Int32) (x2 : Int32) (σ : Sg) (h : s_X12_layNet_24b n rc24 x1 x2 σ = some τ) : τ o j = σ o j := by
  unfold s_X12_layNet_24b at h
  have q : σ o j = σ o j := rfl
  rcases ite_of h with h | h
  · obtain ⟨r3, σ2, g, h⟩ := bd_of h
    have q : σ2 o j = σ o j := (fr_s_X12_cell rfl _ _ _ g).trans q
    have h := (ck_of h).2
    have h := (ck_of h).2
    obtain ⟨σ4, e, h⟩ := lt_of h
    have q : σ4 o j = σ o j := by rw [e]; exact (up2_o (fok_a ho (by decide))).trans q
    rcases ite_of h with h | h
    · exact fr_e1 h q
    · obtain ⟨r6, σ5, g, h⟩ := bd_of h
      have q : σ5 o j = σ o j := (fr_s_X12_cell rfl _ _ _ g).trans q
      have h := (ck_of h).2
      have h := (ck_of h).2
      obtain ⟨σ7, e, h⟩ := lt_of h
      have q : σ7 o j = σ o j := by rw [e]; exact (up2_o (fok_a ho (by decide))).trans q
      exact fr_e1 h q
  · have h := (ck_of h).2
    rcases ite_of h with h | h
    · have h := (ck_of h).2
      have h := (ck_of h).2
      obtain ⟨r9, σ8, g, h⟩ := bd_of h
      have q : σ8 o j = σ o j := (fr_s_X12_cell rfl _ _ _ g).trans q
      have h := (ck_of h).2
      have h := (ck_of h).2
      have h := (ck_of h).2
      obtain ⟨σ10, e, h⟩ := lt_of h
      have q : σ10 o j = σ o j := by rw [e]; exact (up2_o (fok_a ho (by decide))).trans q
      have h := (ck_of h).2
      have h := (ck_of h).2
      obtain ⟨r12, σ11, g, h⟩ := bd_of h
      have q : σ11 o j = σ o j := (fr_s_X12_cell rfl _ _ _ g).trans q
      have h := (ck_of h).2
      have h := (ck_of h).2
      have h := (ck_of h).2
      obtain ⟨σ13, e, h⟩ := lt_of h
      have q : σ13 o j = σ o j := by rw [e]; exact (up2_o (fok_a ho (by decide))).trans q
      exact (H24 x1 (x2 + (1 : Int32)) σ13  h).trans q
    · exact (H24 x1 (x2 + (1 : Int32)) σ  h).trans q
theorem fr_s_X12_layNet_24 {n o j : Nat} {τ : Sg} (ho : fok W_X12_layNet o j = true) : ∀ (k : Nat) (x1 : Int32) (x2 : Int32) (σ : Sg), s_X12_layNet_24 n k x1 x2 σ = some τ → τ o j = σ o j := by
  intro k
  induction k with
  | zero => intro x1 x2 σ  h; cases h
  | succ k ih => intro x1 x2 σ  h; exact fr_s_X12_layNet_24b ho  (s_X12_layNet_24 n  k) ih x1 x2 σ  h
set_option maxRecDepth 20000 in
theorem fr_s_X12_layNet_2b {n o j : Nat} {τ : Sg} (ho : fok W_X12_layNet o j = true) (rc2 : Int32 → Int32 → Sg → Option Sg) (H2 : ∀ (x1 : Int32) (x2 : Int32) (σ : Sg), rc2 x1 x2 σ = some τ → τ o j = σ o j) (x1 : Int32) (x2 : Int32) (σ : Sg) (h : s_X12_layNet_2b n rc2 x1 x2 σ = some τ) : τ o j = σ o j := by
  unfold s_X12_layNet_2b at h
  have q : σ o j = σ o j := rfl
  rcases ite_of h with h | h
  · exact (fr_s_X12_layNet_24 ho  n x1 (0 : Int32) σ  h).trans q
  · have h := (ck_of h).2
    obtain ⟨σ1, e, h⟩ := lt_of h
    have q : σ1 o j = σ o j := by rw [e]; exact (up2_o (fok_a ho (by decide))).trans q
    exact (H2 x1 (x2 + (1 : Int32)) σ1  h).trans q
theorem fr_s_X12_layNet_2 {n o j : Nat} {τ : Sg} (ho : fok W_X12_layNet o j = true) : ∀ (k : Nat) (x1 : Int32) (x2 : Int32) (σ : Sg), s_X12_layNet_2 n k x1 x2 σ = some τ → τ o j = σ o j := by
  intro k
  induction k with
  | zero => intro x1 x2 σ  h; cases h
  | succ k ih => intro x1 x2 σ  h; exact fr_s_X12_layNet_2b ho  (s_X12_layNet_2 n  k) ih x1 x2 σ  h
set_option maxRecDepth 20000 in
theorem fr_s_X12_layNet {n o j : Nat} {τ : Sg} (ho : fok W_X12_layNet o j = true) (x1 : Int32) (σ : Sg) (h : s_X12_layNet n x1 σ = some τ) : τ o j = σ o j := by
  unfold s_X12_layNet at h
  have q : σ o j = σ o j := rfl
  exact (fr_s_X12_layNet_2 ho  n x1 (0 : Int32) σ  h).trans q
abbrev W_X12_findWay : List (Nat × Option Nat) := [(102, none), (103, none)]
set_option maxRecDepth 20000 in
theorem fr_s_X12_findWay_59b {n o j : Nat} {r : Int32} {τ : Sg} (ho : fok W_X12_findWay o j = true) (rc42 : Int32 → Int32 → Sg → Option (Int32 × Sg)) (H42 : ∀ (x1 : Int32) (x2 : Int32) (σ : Sg), rc42 x1 x2 σ = some (r, τ) → τ o j = σ o j) (rc59 : Int32 → Int32 → Int32 → Sg → Option (Int32 × Sg)) (H59 : ∀ (x1 : Int32) (x2 : Int32) (x3 : Int32) (σ : Sg), rc59 x1 x2 x3 σ = some (r, τ) → τ o j = σ o j) (x1 : Int32) (x2 : Int32) (x3 : Int32) (σ : Sg) (h : s_X12_findWay_59b n rc42 rc59 x1 x2 x3 σ = some (r, τ)) : τ o j = σ o j := by
  unfold s_X12_findWay_59b at h
  have q : σ o j = σ o j := rfl
  rcases ite_of h with h | h
  · exact (H42 x1 (x2 + (1 : Int32)) σ  h).trans q
  · have h := (ck_of h).2
    rcases ite_of h with h | h
    · exact (H59 x1 x2 (x3 + (1 : Int32)) σ  h).trans q
    · have h := (ck_of h).2
      obtain ⟨r5, σ4, g, h⟩ := bd_of h
      have q : σ4 o j = σ o j := (fr_s_X12_cell rfl _ _ _ g).trans q
      have h := (ck_of h).2
      rcases ite_of h with h | h
      · exact (H59 x1 x2 (x3 + (1 : Int32)) σ4  h).trans q
      · have h := (ck_of h).2
        have h := (ck_of h).2
        obtain ⟨σ6, e, h⟩ := lt_of h
        have q : σ6 o j = σ o j := by rw [e]; exact (up2_o (fok_a ho (by decide))).trans q
        have h := (ck_of h).2
        obtain ⟨σ7, e, h⟩ := lt_of h
        have q : σ7 o j = σ o j := by rw [e]; exact (up2_o (fok_a ho (by decide))).trans q
        exact (H59 (x1 + (1 : Int32)) x2 (x3 + (1 : Int32)) σ7  h).trans q
theorem fr_s_X12_findWay_59 {n o j : Nat} {r : Int32} {τ : Sg} (ho : fok W_X12_findWay o j = true) (rc42 : Int32 → Int32 → Sg → Option (Int32 × Sg)) (H42 : ∀ (x1 : Int32) (x2 : Int32) (σ : Sg), rc42 x1 x2 σ = some (r, τ) → τ o j = σ o j) : ∀ (k : Nat) (x1 : Int32) (x2 : Int32) (x3 : Int32) (σ : Sg), s_X12_findWay_59 n rc42 k x1 x2 x3 σ = some (r, τ) → τ o j = σ o j := by
  intro k
  induction k with
  | zero => intro x1 x2 x3 σ  h; cases h
  | succ k ih => intro x1 x2 x3 σ  h; exact fr_s_X12_findWay_59b ho rc42 H42 (s_X12_findWay_59 n rc42 k) ih x1 x2 x3 σ  h
set_option maxRecDepth 20000 in
theorem fr_s_X12_findWay_126 {n o j : Nat} {r : Int32} {τ : Sg} (ho : fok W_X12_findWay o j = true) (σ : Sg) (h : s_X12_findWay_126 n σ = some (r, τ)) : τ o j = σ o j := by
  unfold s_X12_findWay_126 at h
  have q : σ o j = σ o j := rfl
  have h := (ck_of h).2
  rcases ite_of h with h | h
  · exact fr_e2 h q
  · exact fr_e2 h q
set_option maxRecDepth 20000 in
theorem fr_s_X12_findWay_42b {n o j : Nat} {r : Int32} {τ : Sg} (ho : fok W_X12_findWay o j = true) (rc42 : Int32 → Int32 → Sg → Option (Int32 × Sg)) (H42 : ∀ (x1 : Int32) (x2 : Int32) (σ : Sg), rc42 x1 x2 σ = some (r, τ) → τ o j = σ o j) (x1 : Int32) (x2 : Int32) (σ : Sg) (h : s_X12_findWay_42b n rc42 x1 x2 σ = some (r, τ)) : τ o j = σ o j := by
  unfold s_X12_findWay_42b at h
  have q : σ o j = σ o j := rfl
  rcases ite_of h with h | h
  · exact (fr_s_X12_findWay_126 ho  σ  h).trans q
  · have h := (ck_of h).2
    rcases ite_of h with h | h
    · exact (fr_s_X12_findWay_126 ho  σ  h).trans q
    · exact (fr_s_X12_findWay_59 ho rc42 H42 n x1 x2 (0 : Int32) σ  h).trans q
theorem fr_s_X12_findWay_42 {n o j : Nat} {r : Int32} {τ : Sg} (ho : fok W_X12_findWay o j = true) : ∀ (k : Nat) (x1 : Int32) (x2 : Int32) (σ : Sg), s_X12_findWay_42 n k x1 x2 σ = some (r, τ) → τ o j = σ o j := by
  intro k
  induction k with
  | zero => intro x1 x2 σ  h; cases h
  | succ k ih => intro x1 x2 σ  h; exact fr_s_X12_findWay_42b ho  (s_X12_findWay_42 n  k) ih x1 x2 σ  h
set_option maxRecDepth 20000 in
theorem fr_s_X12_findWay_2b {n o j : Nat} {r : Int32} {τ : Sg} (ho : fok W_X12_findWay o j = true) (rc2 : Int32 → Sg → Option (Int32 × Sg)) (H2 : ∀ (x1 : Int32) (σ : Sg), rc2 x1 σ = some (r, τ) → τ o j = σ o j) (x1 : Int32) (σ : Sg) (h : s_X12_findWay_2b n rc2 x1 σ = some (r, τ)) : τ o j = σ o j := by
  unfold s_X12_findWay_2b at h
  have q : σ o j = σ o j := rfl
  rcases ite_of h with h | h
  · have h := (ck_of h).2
    obtain ⟨σ1, e, h⟩ := lt_of h
    have q : σ1 o j = σ o j := by rw [e]; exact (up2_o (fok_a ho (by decide))).trans q
    have h := (ck_of h).2
    obtain ⟨σ2, e, h⟩ := lt_of h
    have q : σ2 o j = σ o j := by rw [e]; exact (up2_o (fok_a ho (by decide))).trans q
    exact (fr_s_X12_findWay_42 ho  n (1 : Int32) (0 : Int32) σ2  h).trans q
  · have h := (ck_of h).2
    obtain ⟨σ3, e, h⟩ := lt_of h
    have q : σ3 o j = σ o j := by rw [e]; exact (up2_o (fok_a ho (by decide))).trans q
    exact (H2 (x1 + (1 : Int32)) σ3  h).trans q
theorem fr_s_X12_findWay_2 {n o j : Nat} {r : Int32} {τ : Sg} (ho : fok W_X12_findWay o j = true) : ∀ (k : Nat) (x1 : Int32) (σ : Sg), s_X12_findWay_2 n k x1 σ = some (r, τ) → τ o j = σ o j := by
  intro k
  induction k with
  | zero => intro x1 σ  h; cases h
  | succ k ih => intro x1 σ  h; exact fr_s_X12_findWay_2b ho  (s_X12_findWay_2 n  k) ih x1 σ  h
set_option maxRecDepth 20000 in
theorem fr_s_X12_findWay {n o j : Nat} {r : Int32} {τ : Sg} (ho : fok W_X12_findWay o j = true) (σ : Sg) (h : s_X12_findWay n σ = some (r, τ)) : τ o j = σ o j := by
  unfold s_X12_findWay at h
  have q : σ o j = σ o j := rfl
  exact (fr_s_X12_findWay_2 ho  n (0 : Int32) σ  h).trans q
