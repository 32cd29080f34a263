/-! ===== the class reads a rule ===== -/
/-- from, to, rate, meter, how many keys, keys, what is struck -/
abbrev Lz : Type := Int32 × Int32 × Int32 × Int32 × Int32 × Int32 × (Nat → Bool)
def lawS (lc : Nat) (L : Lz) (σ : Sg) : Prop := σ lc 2 = L.1 ∧ σ lc 3 = L.2.1 ∧ σ lc 4 = L.2.2.1 ∧ σ lc 5 = L.2.2.2.1 ∧ σ lc 6 = L.2.2.2.2.1 ∧ σ lc 7 = L.2.2.2.2.2.1 ∧ ∀ i, i < 8 → bt (σ lc 8) i = L.2.2.2.2.2.2 i
theorem lawS_of {lc : Nat} {L : Lz} {σ τ : Sg} (h : lawS lc L σ) (f : ∀ j, τ lc j = σ lc j) : lawS lc L τ := by
  unfold lawS
  rw [f, f, f, f, f, f, f]
  exact h
def lzA (c : Cl) (L : Lz) : Lz := if c.1 = 0 then (L.1, L.2.1, L.2.2.1, L.2.2.2.1, c.2.2, c.2.1, L.2.2.2.2.2.2) else if c.1 = 1 then (c.2.1, c.2.2, L.2.2.1, L.2.2.2.1, L.2.2.2.2.1, L.2.2.2.2.2.1, L.2.2.2.2.2.2) else if c.1 = 2 then (L.1, L.2.1, c.2.1, L.2.2.2.1, L.2.2.2.2.1, L.2.2.2.2.2.1, L.2.2.2.2.2.2) else if c.1 = 3 then (L.1, L.2.1, L.2.2.1, c.2.1, L.2.2.2.2.1, L.2.2.2.2.2.1, L.2.2.2.2.2.2) else (L.1, L.2.1, L.2.2.1, L.2.2.2.1, L.2.2.2.2.1, L.2.2.2.2.2.1, fun i => L.2.2.2.2.2.2 i || decide (c.2.1 = nI i))
/-- a clause as it can be -/
def cOk (nr : Nat) (c : Cl) : Prop := c.1 ≤ 4 ∧ (c.1 = 0 → ∃ m, 1 ≤ m ∧ m ≤ 4 ∧ c.2.2 = nI m) ∧ (1 ≤ c.1 → ∃ a, a < 1000 ∧ c.2.1 = nI a) ∧ (c.1 = 4 → ∃ a, a < nr ∧ c.2.1 = nI a)
def cRes (t : Tx) (lc nr : Nat) (X : Rz Cl) (L : Lz) (b : Bool) (τ : Sg) : Prop := (∀ q, X = .inl q → b = false ∧ fl q τ) ∧ ∀ r, X = .inr r → b = true ∧ rd t r.1 τ ∧ r.1 ≤ t.1 ∧ cOk nr r.2 ∧ lawS lc (lzA r.2 L) τ
theorem rd_up {t : Tx} {p lc j : Nat} {x : Int32} {σ : Sg} (hl5 : lc ≠ 25) (hl6 : lc ≠ 26) (h : rd t p σ) : rd t p (up2 σ lc j x) := rd_of h (fun _ => up2_o (Ne.symm hl5)) (fun _ => up2_o (Ne.symm hl6))
/-- the semicolon that ends a clause -/
theorem end_ok {n p lc nr : Nat} {t : Tx} {c : Cl} {L : Lz} {σ : Sg} (hn : 300000 ≤ n) (ht : txok t) (hp : p ≤ t.1) (hl5 : lc ≠ 25) (h : rd t p σ) (hc : cOk nr c) (hL : lawS lc (lzA c L) σ) : ∃ b τ, (bd (s_X5_semicolon n σ) fun r6 σ5 => bck r6 (some (r6, σ5))) = some (zo b, τ) ∧ cRes t lc nr (andS (pSemi t p) c) L b τ := by
  obtain ⟨b, τ, a1, a2, a3, a4⟩ := andS_ok (n := n) (c := c) hn ht hp h
  refine ⟨b, τ, by rw [a1, bd_so, bck_zo], a2, fun r hr => ?_⟩
  obtain ⟨r1, r2, r3, r4⟩ := a3 r hr
  rw [r4]
  exact ⟨r1, r2, r3, hc, lawS_of hL (fun j => a4 lc j hl5)⟩
theorem price5 {n p lc nr : Nat} {t : Tx} {m : Bool} {L : Lz} {σ : Sg} (hn : 300000 ≤ n) (ht : txok t) (hp : p ≤ t.1) (hl5 : lc ≠ 25) (hl6 : lc ≠ 26) (h : rd t p σ) (hL : lawS lc L σ) : ∃ b τ, s_X5_price n lc (zo m) σ = some (zo b, τ) ∧ cRes t lc nr (pCl2 t p (if m = true then 3 else 2)) L b τ := by
  obtain ⟨b, τ, a1, a2, a3, a4⟩ := num5_ok (n := n) (lo := 0) (hi := 99) hn ht hp (by omega) (by omega) h
  have a1' : s_X5_number n 0 99 σ = some (zo b, τ) := a1
  unfold s_X5_price s_X5_price_35 pCl2
  rw [a1', bd_so]
  cases hN : pNum t p 0 99 with
  | inl q =>
    obtain ⟨b1, b2⟩ := a2 q hN
    subst b1
    rw [if_pos z_f]
    refine ⟨false, τ, rfl, fun q' hq => ?_, fun r hr => by (cases hr)⟩
    cases hq
    exact ⟨rfl, b2⟩
  | inr r =>
    obtain ⟨b1, b2, b3, b4, b5⟩ := a3 r hN
    subst b1
    rw [if_neg z_t, b3]
    have hL2 := lawS_of hL (fun j => a4 lc j hl5)
    cases m
    · rw [if_pos z_f, lt_eq]
      exact end_ok (nr := nr) hn ht b4 hl5 (rd_up hl5 hl6 b2) ⟨by show 2 ≤ 4; omega, fun z => by (have : 2 = 0 := z; omega), fun _ => ⟨r.2, b5, rfl⟩, fun z => by (have : 2 = 4 := z; omega)⟩ (by
        show lawS lc (L.1, L.2.1, nI r.2, L.2.2.2.1, L.2.2.2.2.1, L.2.2.2.2.2.1, L.2.2.2.2.2.2) _
        obtain ⟨l1, l2, l3, l4, l5, l6, l7⟩ := hL2
        exact ⟨by rw [up2_app, if_pos rfl, if_neg (by decide)]; exact l1, by rw [up2_app, if_pos rfl, if_neg (by decide)]; exact l2, by simp [up2_app], by rw [up2_app, if_pos rfl, if_neg (by decide)]; exact l4, by rw [up2_app, if_pos rfl, if_neg (by decide)]; exact l5, by rw [up2_app, if_pos rfl, if_neg (by decide)]; exact l6, fun i hi => by rw [up2_app, if_pos rfl, if_neg (by decide)]; exact l7 i hi⟩)
    · rw [if_neg z_t, lt_eq]
      exact end_ok (nr := nr) hn ht b4 hl5 (rd_up hl5 hl6 b2) ⟨by show 3 ≤ 4; omega, fun z => by (have : 3 = 0 := z; omega), fun _ => ⟨r.2, b5, rfl⟩, fun z => by (have : 3 = 4 := z; omega)⟩ (by
        show lawS lc (L.1, L.2.1, L.2.2.1, nI r.2, L.2.2.2.2.1, L.2.2.2.2.2.1, L.2.2.2.2.2.2) _
        obtain ⟨l1, l2, l3, l4, l5, l6, l7⟩ := hL2
        exact ⟨by rw [up2_app, if_pos rfl, if_neg (by decide)]; exact l1, by rw [up2_app, if_pos rfl, if_neg (by decide)]; exact l2, by rw [up2_app, if_pos rfl, if_neg (by decide)]; exact l3, by simp [up2_app], by rw [up2_app, if_pos rfl, if_neg (by decide)]; exact l5, by rw [up2_app, if_pos rfl, if_neg (by decide)]; exact l6, fun i hi => by rw [up2_app, if_pos rfl, if_neg (by decide)]; exact l7 i hi⟩)
theorem strike5 {n p lc nr : Nat} {t : Tx} {L : Lz} {σ : Sg} (hn : 300000 ≤ n) (ht : txok t) (hp : p ≤ t.1) (hl5 : lc ≠ 25) (hl6 : lc ≠ 26) (hnr : nr ≤ 8) (h : rd t p σ) (hL : lawS lc L σ) : ∃ b τ, s_X5_strike n (nI nr) lc σ = some (zo b, τ) ∧ cRes t lc nr (pCl4 t p nr) L b τ := by
  have h160 := ht.1
  have hsk := sk_le hp
  obtain ⟨b, τ, a1, a2, a3, a4⟩ := num5_ok (n := n) (lo := 0) (hi := 999) hn ht hp (by omega) (by omega) h
  have a1' : s_X5_number n 0 999 σ = some (zo b, τ) := a1
  unfold s_X5_strike pCl4
  rw [a1', bd_so]
  cases hN : pNum t p 0 999 with
  | inl q =>
    obtain ⟨b1, b2⟩ := a2 q hN
    subst b1
    rw [if_pos z_f]
    refine ⟨false, τ, rfl, fun q' hq => ?_, fun r hr => by (cases hr)⟩
    cases hq
    exact ⟨rfl, b2⟩
  | inr r =>
    obtain ⟨b1, b2, b3, b4, b5⟩ := a3 r hN
    subst b1
    rw [if_neg z_t, b3]
    have hL2 := lawS_of hL (fun j => a4 lc j hl5)
    by_cases e1 : r.2 < nr
    · rw [if_pos (by rw [nlt (by omega) (by omega)]; exact e1), lt_eq]
      dsimp only
      rw [if_pos e1]
      exact end_ok (nr := nr) hn ht b4 hl5 (rd_up hl5 hl6 b2) ⟨by show 4 ≤ 4; omega, fun z => by (have : 4 = 0 := z; omega), fun _ => ⟨r.2, b5, rfl⟩, fun _ => ⟨r.2, e1, rfl⟩⟩ (by
        show lawS lc (L.1, L.2.1, L.2.2.1, L.2.2.2.1, L.2.2.2.2.1, L.2.2.2.2.2.1, fun i => L.2.2.2.2.2.2 i || decide (nI r.2 = nI i)) _
        obtain ⟨l1, l2, l3, l4, l5, l6, l7⟩ := hL2
        refine ⟨by rw [up2_app, if_pos rfl, if_neg (by decide)]; exact l1, by rw [up2_app, if_pos rfl, if_neg (by decide)]; exact l2, by rw [up2_app, if_pos rfl, if_neg (by decide)]; exact l3, by rw [up2_app, if_pos rfl, if_neg (by decide)]; exact l4, by rw [up2_app, if_pos rfl, if_neg (by decide)]; exact l5, by rw [up2_app, if_pos rfl, if_neg (by decide)]; exact l6, fun i hi => ?_⟩
        rw [up2_app, if_pos rfl, if_pos rfl, b_or, sl1_bt (by omega) (by omega), l7 i hi]
        congr 1
        rw [decide_eq_decide, neq (by omega) (by omega)]
        exact eq_comm)
    · rw [if_neg (by rw [nlt (by omega) (by omega)]; exact e1)]
      dsimp only
      rw [if_neg e1]
      -- the token stands as it was read
      have e6 : τ 25 6 = nI (sk t p) := by
        obtain ⟨ρ, c1, c2, c3, c4, c5, c6⟩ := nx_rd (n := n) hn ht hp h
        have q := a1'
        unfold s_X5_number at q
        rw [c1, bdv_so] at q
        have hk2 : tk t p = 2 := by
          unfold pNum at hN
          by_cases z : tk t p = 2
          · exact z
          · rw [if_neg z] at hN; cases hN
        have hle : te t p - sk t p ≤ 3 := by
          unfold pNum at hN
          rw [if_pos hk2] at hN
          by_cases z : te t p - sk t p ≤ 3 ∧ 0 ≤ nv t p ∧ nv t p ≤ 999
          · exact z.1
          · rw [if_neg z] at hN; cases hN
        have hte := te_le hp
        rw [c2.2.1, if_pos (by rw [hk2]; rfl), c2.2.2.1, c2.2.2.2, nsub (by omega), if_neg (by rw [show (3 : Int32) = nI 3 from rfl, nlt (by omega) (by omega)]; omega), out_ok, bd_so] at q
        rcases ite_of q with q | q
        · cases q
          exact c2.2.2.2
        · unfold s_X5_number_43 at q
          obtain ⟨r', σ', q1, q2⟩ := bd_of q
          have q3 := (bck_of q2).2
          cases q3
          rw [fr_s_X5_fail rfl _ _ q1]
          exact c2.2.2.2
      have b1' : ∃ ρ, s_X5_fail n 3 τ = some (zo false, ρ) ∧ fl (3, sk t p) ρ := by
        unfold s_X5_fail
        rw [lt_eq, lt_eq, up2_app, if_pos rfl, if_neg (by decide), e6]
        exact ⟨_, rfl, ⟨by omega, by omega, by show sk t p ≤ 160; omega⟩, by simp [up2_app]; rfl, by simp [up2_app]⟩
      obtain ⟨ρ, c1, c2⟩ := b1'
      rw [c1, bd_so, bck_zo]
      refine ⟨false, ρ, rfl, fun q' hq => ?_, fun r' hr => by (cases hr)⟩
      cases hq
      exact ⟨rfl, c2⟩
theorem turn5 {n p lc nr : Nat} {t : Tx} {L : Lz} {σ : Sg} (hn : 300000 ≤ n) (ht : txok t) (hp : p ≤ t.1) (hl5 : lc ≠ 25) (hl6 : lc ≠ 26) (h : rd t p σ) (hL : lawS lc L σ) : ∃ b τ, s_X5_turnHours n lc σ = some (zo b, τ) ∧ cRes t lc nr (pCl1 t p) L b τ := by
  obtain ⟨b, τ, a1, a2, a3, a4⟩ := num5_ok (n := n) (lo := 0) (hi := 23) hn ht hp (by omega) (by omega) h
  have a1' : s_X5_number n 0 23 σ = some (zo b, τ) := a1
  unfold s_X5_turnHours pCl1
  rw [a1', bd_so]
  cases hN : pNum t p 0 23 with
  | inl q =>
    obtain ⟨b1, b2⟩ := a2 q hN
    subst b1
    rw [if_pos z_f]
    refine ⟨false, τ, rfl, fun q' hq => ?_, fun r hr => by (cases hr)⟩
    cases hq
    exact ⟨rfl, b2⟩
  | inr r =>
    obtain ⟨b1, b2, b3, b4, b5⟩ := a3 r hN
    subst b1
    rw [if_neg z_t, b3, lt_eq]
    have hL2 := lawS_of hL (fun j => a4 lc j hl5)
    have rd2 := rd_up (lc := lc) (j := 2) (x := nI r.2) hl5 hl6 b2
    obtain ⟨τ2, c1, c2, c3, c4, c5, c6⟩ := nx_rd (n := n) hn ht b4 rd2
    have hte := te_le b4
    rw [c1, bdv_so, says_ok (w := 9) hn ht b4 (by omega) c2, bd_so]
    dsimp only
    unfold pCl1b
    cases hW : isW t r.1 (wJ 9)
    · rw [if_pos z_f, if_neg (show ¬ false = true by decide)]
      obtain ⟨ρ, d1, d2⟩ := fail_ok (n := n) (f := 1) ht b4 c2 ⟨by omega, by omega⟩
      have d1' : s_X5_fail n 1 τ2 = some (zo false, ρ) := d1
      rw [d1', bd_so, bck_zo]
      refine ⟨false, ρ, rfl, fun q' hq => ?_, fun r' hr => by (cases hr)⟩
      cases hq
      exact ⟨rfl, d2⟩
    · rw [if_neg z_t, if_pos rfl]
      have f2 : τ2 lc 2 = nI r.2 := by rw [c6 lc 2 hl5]; simp [up2_app]
      obtain ⟨b', τ3, d1, d2, d3, d4⟩ := num5_ok (n := n) (p := te t r.1) (lo := r.2) (hi := 23) hn ht hte.2 (by omega) (by omega) (σ := τ2) ⟨c2.1, c2.2.2.1, c4, c5⟩
      have d1' : s_X5_number n (τ2 lc 2) 23 τ2 = some (zo b', τ3) := by rw [f2]; exact d1
      rw [d1', bd_so]
      cases hN2 : pNum t (te t r.1) r.2 23 with
      | inl q =>
        obtain ⟨g1, g2⟩ := d2 q hN2
        subst g1
        rw [if_pos z_f]
        refine ⟨false, τ3, rfl, fun q' hq => ?_, fun r' hr => by (cases hr)⟩
        cases hq
        exact ⟨rfl, g2⟩
      | inr r2 =>
        obtain ⟨g1, g2, g3, g4, g5⟩ := d3 r2 hN2
        subst g1
        rw [if_neg z_t, g3, lt_eq]
        exact end_ok (nr := nr) hn ht g4 hl5 (rd_up hl5 hl6 g2) ⟨by show 1 ≤ 4; omega, fun z => by (have : 1 = 0 := z; omega), fun _ => ⟨r.2, b5, rfl⟩, fun z => by (have : 1 = 4 := z; omega)⟩ (by
          show lawS lc (nI r.2, nI r2.2, L.2.2.1, L.2.2.2.1, L.2.2.2.2.1, L.2.2.2.2.2.1, L.2.2.2.2.2.2) _
          have g : ∀ j, j ≠ 2 → j ≠ 3 → up2 τ3 lc 3 (nI r2.2) lc j = σ lc j := fun j j1 j2 => by rw [up2_app, if_pos rfl, if_neg j2, d4 lc j hl5, c6 lc j hl5, up2_app, if_pos rfl, if_neg j1, a4 lc j hl5]
          obtain ⟨l1, l2, l3, l4, l5, l6, l7⟩ := hL
          exact ⟨by rw [up2_app, if_pos rfl, if_neg (by decide), d4 lc 2 hl5]; exact f2, by simp [up2_app], by rw [g 4 (by decide) (by decide)]; exact l3, by rw [g 5 (by decide) (by decide)]; exact l4, by rw [g 6 (by decide) (by decide)]; exact l5, by rw [g 7 (by decide) (by decide)]; exact l6, fun i hi => by rw [g 8 (by decide) (by decide)]; exact l7 i hi⟩)
theorem keys5 {n p lc nr : Nat} {t : Tx} {L : Lz} {σ : Sg} (hn : 300000 ≤ n) (ht : txok t) (hp : p ≤ t.1) (hl5 : lc ≠ 25) (hl6 : lc ≠ 26) (h : rd t p σ) (hL : lawS lc L σ) : ∃ b τ, s_X5_keys n lc σ = some (zo b, τ) ∧ cRes t lc nr (pCl0 t p) L b τ := by
  have hf : s_X2_forgetKeys n lc σ = some (up2 (up2 σ lc 6 0) lc 7 0) := by
    unfold s_X2_forgetKeys
    rw [lt_eq, lt_eq]
  have rd2 : rd t p (up2 (up2 σ lc 6 0) lc 7 0) := rd_up hl5 hl6 (rd_up hl5 hl6 h)
  obtain ⟨b, τ, a1, a2, a3, a4⟩ := keys_go (n := n) (lc := lc) hn ht hl5 hl6 5 p [] n (up2 (up2 σ lc 6 0) lc 7 0) rfl (by omega) ⟨List.nodup_nil, fun k hk => by cases hk⟩ hp rd2 (by rw [up2_app, if_pos rfl, if_neg (by decide), up2_app, if_pos rfl, if_pos rfl]; rfl) (by simp [up2_app]; rfl)
  have a1' : s_X5_keys_6 n n lc 0 (up2 (up2 σ lc 6 0) lc 7 0) = some (zo b, τ) := a1
  refine ⟨b, τ, ?_, a2, fun r hr => ?_⟩
  · unfold s_X5_keys
    rw [hf, bdv_so]
    exact a1'
  · obtain ⟨r1, r2, r3, r4, r5, r6, r7⟩ := a3 r hr
    refine ⟨r1, r2, r3, ⟨by omega, fun _ => r4, fun z => by omega, fun z => by omega⟩, ?_⟩
    unfold lzA
    rw [if_pos r5]
    have g : ∀ j, j ≠ 6 → j ≠ 7 → τ lc j = σ lc j := fun j j1 j2 => by rw [a4 j j1 j2, up2_app, if_pos rfl, if_neg j2, up2_app, if_pos rfl, if_neg j1]
    obtain ⟨l1, l2, l3, l4, l5, l6, l7⟩ := hL
    exact ⟨by rw [g 2 (by decide) (by decide)]; exact l1, by rw [g 3 (by decide) (by decide)]; exact l2, by rw [g 4 (by decide) (by decide)]; exact l3, by rw [g 5 (by decide) (by decide)]; exact l4, r6, r7, fun i hi => by rw [g 8 (by decide) (by decide)]; exact l7 i hi⟩
/-- what a clause comes to, once its first word is read -/
def pCw (t : Tx) (p nr m : Nat) : Rz Cl := if ckd t p = 5 then .inl (1, sk t p) else if 8 ≤ m then .inl (5, sk t p) else pCl t (te t p) nr (ckd t p)
theorem clause5 {n p lc nr m : Nat} {t : Tx} {L : Lz} {σ : Sg} (hn : 300000 ≤ n) (ht : txok t) (hp : p ≤ t.1) (hl5 : lc ≠ 25) (hl6 : lc ≠ 26) (hnr : nr ≤ 8) (hm : m < 100) (h : tokd t p σ) (h3 : σ 25 3 = 0) (h1 : σ 25 1 = -1) (hL : lawS lc L σ) : ∃ b τ, s_X5_clause n (nI m) (nI nr) lc σ = some (zo b, τ) ∧ cRes t lc nr (pCw t p nr m) L b τ := by
  have hte := te_le hp
  have hrd : rd t (te t p) σ := ⟨h.1, h.2.2.1, h3, h1⟩
  have bck' : ∀ (g : Option (Int32 × Sg)) (X : Rz Cl), (∃ b τ, g = some (zo b, τ) ∧ cRes t lc nr X L b τ) → ∃ b τ, (bd g fun r σ => bck r (some (r, σ))) = some (zo b, τ) ∧ cRes t lc nr X L b τ := by
    intro g X ⟨b, τ, q1, q2⟩
    exact ⟨b, τ, by rw [q1, bd_so, bck_zo], q2⟩
  have failC : ∀ x, 1 ≤ x ∧ x ≤ 5 → ∃ b τ, (bd (s_X5_fail n (nI x) σ) fun r σ => bck r (some (r, σ))) = some (zo b, τ) ∧ cRes t lc nr (.inl (x, sk t p)) L b τ := by
    intro x hx
    obtain ⟨ρ, d1, d2⟩ := fail_ok (n := n) (f := x) ht hp h hx
    refine bck' _ _ ⟨false, ρ, d1, fun q hq => ?_, fun r hr => by (cases hr)⟩
    cases hq
    exact ⟨rfl, d2⟩
  -- behind the choice of the word
  have w67 : ∀ (f0 f1 f2 f3 : Bool) (k : Nat), ckd t p = k → k < 5 → (f0 = true → k = 0) → (f0 = false → f1 = true → k = 1) → (f0 = false → f1 = false → f2 = true → k = 2 ∧ f3 = false) → (f0 = false → f1 = false → f2 = false → f3 = true → k = 3) → (f0 = false → f1 = false → f2 = false → f3 = false → k = 4) → ∃ b τ, s_X5_clause_67 n (nI m) (nI nr) lc (zo f0) (zo f1) (zo f2) (zo f3) σ = some (zo b, τ) ∧ cRes t lc nr (pCw t p nr m) L b τ := by
    intro f0 f1 f2 f3 k hk hk5 g0 g1 g2 g3 g4
    unfold s_X5_clause_67 pCw
    rw [hk, if_neg (show ¬ k = 5 by omega)]
    by_cases e8 : 8 ≤ m
    · rw [if_neg (by rw [show (8 : Int32) = nI 8 from rfl, nlt (by omega) (by omega)]; omega), if_pos e8]
      exact failC 5 ⟨by omega, by omega⟩
    · rw [if_pos (by rw [show (8 : Int32) = nI 8 from rfl, nlt (by omega) (by omega)]; omega), if_neg e8]
      unfold pCl
      cases f0
      · rw [if_pos z_f]
        cases f1
        · rw [if_pos z_f]
          cases f2
          · rw [if_pos z_f]
            cases f3
            · rw [if_pos z_f]
              have hk4 := g4 rfl rfl rfl rfl
              rw [hk4, if_neg (by omega), if_neg (by omega), if_pos rfl]
              exact bck' _ _ (strike5 hn ht hte.2 hl5 hl6 hnr hrd hL)
            · rw [if_neg z_t]
              have hk3 := g3 rfl rfl rfl rfl
              rw [hk3, if_neg (by omega), if_neg (by omega), if_neg (by omega)]
              unfold s_X5_clause_111
              have := price5 (nr := nr) (m := true) hn ht hte.2 hl5 hl6 hrd hL
              rw [if_pos rfl] at this
              exact bck' _ _ this
          · rw [if_neg z_t]
            obtain ⟨hk2, hf3⟩ := g2 rfl rfl rfl
            rw [hk2, if_neg (by omega), if_neg (by omega), if_neg (by omega), hf3]
            unfold s_X5_clause_111
            have := price5 (nr := nr) (m := false) hn ht hte.2 hl5 hl6 hrd hL
            rw [if_neg (by decide)] at this
            exact bck' _ _ this
        · rw [if_neg z_t]
          have hk1 := g1 rfl rfl
          rw [hk1, if_neg (by omega), if_pos rfl]
          exact bck' _ _ (turn5 hn ht hte.2 hl5 hl6 hrd hL)
      · rw [if_neg z_t]
        have hk0 := g0 rfl
        rw [hk0, if_pos rfl]
        exact bck' _ _ (keys5 hn ht hte.2 hl5 hl6 hrd hL)
  -- two words are not one
  have excl : isW t p (wJ 2) = true → isW t p (wJ 3) = false := fun q => by
    unfold isW at q ⊢
    rw [Bool.and_eq_true, Bool.and_eq_true, decide_eq_true_eq] at q
    rw [q.1, q.2.1 |> fun z => of_decide_eq_true z]
    rfl
  unfold s_X5_clause
  rw [says_ok (w := 0) hn ht hp (by omega) h, bd_so, says_ok (w := 1) hn ht hp (by omega) h, bd_so, says_ok (w := 2) hn ht hp (by omega) h, bd_so, says_ok (w := 3) hn ht hp (by omega) h, bd_so]
  have hck : ckd t p = if isW t p (wJ 0) = true then 0 else if isW t p (wJ 1) = true then 1 else if isW t p (wJ 2) = true then 2 else if isW t p (wJ 3) = true then 3 else if isW t p (wJ 4) = true then 4 else 5 := rfl
  cases i0 : isW t p (wJ 0)
  · rw [if_pos z_f]
    rw [i0, if_neg (by decide)] at hck
    cases i1 : isW t p (wJ 1)
    · rw [if_pos z_f]
      rw [i1, if_neg (by decide)] at hck
      cases i2 : isW t p (wJ 2)
      · rw [if_pos z_f]
        rw [i2, if_neg (by decide)] at hck
        cases i3 : isW t p (wJ 3)
        · rw [if_pos z_f, says_ok (w := 4) hn ht hp (by omega) h, bd_so]
          rw [i3, if_neg (by decide)] at hck
          cases i4 : isW t p (wJ 4)
          · rw [if_pos z_f]
            rw [i4, if_neg (by decide)] at hck
            unfold pCw
            rw [hck, if_pos rfl]
            exact failC 1 ⟨by omega, by omega⟩
          · rw [if_neg z_t]
            rw [i4, if_pos rfl] at hck
            exact w67 false false false false 4 hck (by omega) (by simp) (by simp) (by simp) (by simp) (by simp)
        · rw [if_neg z_t]
          rw [i3, if_pos rfl] at hck
          exact w67 false false false true 3 hck (by omega) (by simp) (by simp) (by simp) (by simp) (by simp)
      · rw [if_neg z_t]
        rw [i2, if_pos rfl] at hck
        exact w67 false false true (isW t p (wJ 3)) 2 hck (by omega) (by simp) (by simp) (fun _ _ _ => ⟨rfl, excl i2⟩) (by simp) (by simp)
    · rw [if_neg z_t]
      rw [i1, if_pos rfl] at hck
      exact w67 false true (isW t p (wJ 2)) (isW t p (wJ 3)) 1 hck (by omega) (by simp) (by simp) (by simp) (by simp) (by simp)
  · rw [if_neg z_t]
    rw [i0, if_pos rfl] at hck
    exact w67 true (isW t p (wJ 1)) (isW t p (wJ 2)) (isW t p (wJ 3)) 0 hck (by omega) (by simp) (by simp) (by simp) (by simp) (by simp)
def lz0 : Lz := (-1, -1, -1, -1, 0, 0, fun _ => false)
def lzF (cs : List Cl) : Lz := cs.foldl (fun L c => lzA c L) lz0
theorem lzF_s (cs : List Cl) (c : Cl) : lzF (cs ++ [c]) = lzA c (lzF cs) := by
  unfold lzF
  rw [List.foldl_append]
  rfl
theorem pRule_s (t : Tx) (nr f p : Nat) (cs : List Cl) : pRule t nr (f + 1) p cs = if tk t p = 0 then .inr cs else (match pCw t p nr cs.length with
    | .inl q => .inl q
    | .inr r => pRule t nr f r.1 (cs ++ [r.2])) := by
  show (if tk t p = 0 then .inr cs else if ckd t p = 5 then .inl (1, sk t p) else if 8 ≤ cs.length then .inl (5, sk t p) else (match pCl t (te t p) nr (ckd t p) with
    | .inl q => .inl q
    | .inr r => pRule t nr f r.1 (cs ++ [r.2])) : (Nat × Nat) ⊕ List Cl) = _
  unfold pCw
  by_cases c0 : tk t p = 0
  · rw [if_pos c0, if_pos c0]
  · rw [if_neg c0, if_neg c0]
    by_cases c1 : ckd t p = 5
    · rw [if_pos c1, if_pos c1]
    · rw [if_neg c1, if_neg c1]
      by_cases c2 : 8 ≤ cs.length
      · rw [if_pos c2, if_pos c2]
      · rw [if_neg c2, if_neg c2]
/-- the class reads the rule: its fault and where, or its clauses' sum -/
theorem read_go {n lc nr : Nat} {t : Tx} (hn : 300000 ≤ n) (ht : txok t) (hl5 : lc ≠ 25) (hl6 : lc ≠ 26) (hnr : nr ≤ 8) : ∀ (f p : Nat) (cs : List Cl) (kf : Nat) (σ : Sg), cs.length + f = 10 → cs.length ≤ 8 → f < kf → p ≤ t.1 → rd t p σ → (∀ c ∈ cs, cOk nr c) → lawS lc (lzF cs) σ → ∃ r τ, s_X5_read_24 n kf (nI nr) lc 1 (nI cs.length) σ = some (r, τ) ∧ τ 25 0 = 0 ∧ (∀ q, pRule t nr f p cs = .inl q → (1 ≤ q.1 ∧ q.1 ≤ 5 ∧ q.2 ≤ 160) ∧ r = nI q.1 ∧ τ 25 1 = nI q.2) ∧ ∀ cs', pRule t nr f p cs = .inr cs' → r = 0 ∧ τ 25 1 = -1 ∧ cs'.length ≤ 8 ∧ (∀ c ∈ cs', cOk nr c) ∧ lawS lc (lzF cs') τ := by
  have h160 := ht.1
  intro f
  induction f with
  | zero => intro p cs kf σ h1 h2; omega
  | succ f ih =>
    intro p cs kf σ h1 h2 hkf hp hr hcs hL
    obtain ⟨kf, rfl⟩ : ∃ k', kf = k' + 1 := ⟨kf - 1, by omega⟩
    obtain ⟨τ1, a1, a2, a3, a4, a5, a6⟩ := nx_rd (n := n) hn ht hp hr
    have hL1 := lawS_of hL (fun j => a6 lc j hl5)
    have hk5 : tk t p ≤ 5 := by unfold tk; split; exact kd_le _; omega
    rw [pRule_s]
    show ∃ r τ, s_X5_read_24b n (s_X5_read_24 n kf) _ _ _ _ _ = _ ∧ _
    unfold s_X5_read_24b
    rw [if_neg (by rw [show (8 : Int32) = nI 8 from rfl, nlt (by omega) (by omega)]; omega), if_neg (by decide), a1, bdv_so, a2.2.1]
    -- the end: no more is read
    have stop : ∀ (ρ : Sg), ∃ τ, s_X5_read_24 n kf (nI nr) lc 0 (nI cs.length + 1) ρ = some (ρ 25 3, τ) ∧ τ 25 0 = 0 ∧ (∀ o j, (o = 25 → j ≠ 0) → τ o j = ρ o j) := by
      intro ρ
      obtain ⟨kf, rfl⟩ : ∃ k', kf = k' + 1 := ⟨kf - 1, by omega⟩
      show ∃ τ, s_X5_read_24b n _ _ _ _ _ _ = _ ∧ _
      unfold s_X5_read_24b
      have e3 : ∀ x : Int32, up2 ρ 25 0 x 25 3 = ρ 25 3 := fun x => by rw [up2_app, if_pos rfl, if_neg (by decide)]
      have fr : ∀ o j, (o = 25 → j ≠ 0) → up2 ρ 25 0 0 o j = ρ o j := fun o j ho => by
        by_cases e : o = 25
        · subst e; rw [up2_app, if_pos rfl, if_neg (ho rfl)]
        · exact up2_o e
      by_cases e8 : (8 : Int32) < nI cs.length + 1
      · rw [if_pos e8, lt_eq, e3]
        exact ⟨_, rfl, by simp [up2_app], fr⟩
      · rw [if_neg e8, if_pos rfl, lt_eq, e3]
        exact ⟨_, rfl, by simp [up2_app], fr⟩
    by_cases c0 : tk t p = 0
    · rw [if_pos (by rw [c0]; rfl), if_pos c0]
      unfold s_X5_read_61
      obtain ⟨τ, b1, b2, b3⟩ := stop τ1
      refine ⟨_, τ, b1, b2, fun q hq => by (cases hq), fun cs' hcs' => ?_⟩
      cases hcs'
      exact ⟨a4, by rw [b3 25 1 (fun _ => by decide)]; exact a5, h2, hcs, lawS_of hL1 (fun j => b3 lc j (fun z => absurd z hl5))⟩
    · rw [if_neg (by rw [show (0 : Int32) = nI 0 from rfl, neq (by omega) (by omega)]; exact c0), if_neg c0]
      obtain ⟨b, τ2, d1, d2, d3⟩ := clause5 (n := n) (lc := lc) (nr := nr) (m := cs.length) hn ht hp hl5 hl6 hnr (by omega) a2 a4 a5 hL1
      rw [d1, bd_so, lt_eq]
      cases hX : pCw t p nr cs.length with
      | inl q =>
        obtain ⟨g1, g2⟩ := d2 q hX
        subst g1
        rw [if_pos z_f]
        obtain ⟨τ, b1, b2, b3⟩ := stop τ2
        refine ⟨_, τ, b1, b2, fun q' hq => ?_, fun cs' hcs' => by (cases hcs')⟩
        cases hq
        exact ⟨g2.1, g2.2.1, by rw [b3 25 1 (fun _ => by decide)]; exact g2.2.2⟩
      | inr r =>
        obtain ⟨g1, g2, g3, g4, g5⟩ := d3 r hX
        subst g1
        rw [if_neg z_t, nI_1]
        have hlen : cs.length < 8 := by
          apply Classical.byContradiction
          intro hn8
          unfold pCw at hX
          by_cases c1 : ckd t p = 5
          · rw [if_pos c1] at hX; cases hX
          · rw [if_neg c1, if_pos (by omega)] at hX; cases hX
        have := ih r.1 (cs ++ [r.2]) kf τ2 (by simp; omega) (by simp; omega) (by omega) g3 g2 (fun c hc => by
          rcases List.mem_append.mp hc with hc | hc
          · exact hcs c hc
          · rw [List.mem_singleton.mp hc]; exact g4) (by rw [lzF_s]; exact g5)
        rw [show (cs ++ [r.2]).length = cs.length + 1 by simp] at this
        exact this
