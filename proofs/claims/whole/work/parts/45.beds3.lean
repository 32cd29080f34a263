/-! ===== beds, the reference: the table whole, and the way through it ===== -/
theorem days_go {n B c l v D : Nat} (hn : 300000 ≤ n) (hB : B ≤ 3) (hB1 : 1 ≤ B) (hc : c ≤ 99) (hl : l ≤ 30) (hv : v ≤ 297) (hD : D ≤ 20) : ∀ (d k : Nat) (σ : Sg), d ≤ D + 1 → d < k → bR B c l v σ → (∀ d', d ≤ d' → d' ≤ D + 1 → bT B c l v (D + 1 - d') d' σ) → ∃ τ, s_X12_findBeds_30 n k (jI d) σ = some τ ∧ (∀ d', d' ≤ D + 1 → bT B c l v (D + 1 - d') d' τ) ∧ ∀ o j, o ≠ 117 → τ o j = σ o j := by
  intro d
  induction d with
  | zero =>
    intro k σ hd hk hR hT
    obtain ⟨k, rfl⟩ : ∃ k', k = k' + 1 := ⟨k - 1, by omega⟩
    refine ⟨σ, ?_, fun d' h => hT d' (by omega) h, fun _ _ _ => rfl⟩
    show s_X12_findBeds_30b n _ _ _ = _
    unfold s_X12_findBeds_30b
    rw [if_pos (show jI 0 < 0 by decide)]
  | succ d ih =>
    intro k σ hd hk hR hT
    obtain ⟨k, rfl⟩ : ∃ k', k = k' + 1 := ⟨k - 1, by omega⟩
    show ∃ τ, s_X12_findBeds_30b n (s_X12_findBeds_30 n k) _ _ = _ ∧ _
    unfold s_X12_findBeds_30b
    have hneg := jI_neg (jj := d + 1) (by omega)
    rw [if_neg (by rw [hneg]; omega)]
    have hT1 := hT (d + 1) (by omega) (by omega)
    obtain ⟨τ1, a1, a2, a3⟩ := row_go (n := n) (rc := s_X12_findBeds_30 n k) (r := D + 1 - (d + 1)) (by omega) hB hB1 hc hl hv (show d ≤ 20 by omega) 12167 0 n σ (by omega) (by omega) hR hT1 (fun y hy => absurd hy (by omega))
    have a1' : s_X12_findBeds_36 n (s_X12_findBeds_30 n k) n (jI (d + 1)) 0 σ = s_X12_findBeds_30 n k (jI d) τ1 := by
      rw [show (0 : Int32) = nI 0 from rfl]
      refine Eq.trans a1 ?_
      show s_X12_findBeds_30 n k (jI (d + 1) + -1) τ1 = _
      rw [jI_p]
    rw [a1']
    have hf : ∀ o j, o ≠ 117 → τ1 o j = σ o j := fun o j ho => a3 o j fun h => ho h.1
    obtain ⟨τ, t1, t2, t3⟩ := ih k τ1 (by omega) (by omega) ⟨by rw [hf _ _ (by decide)]; exact hR.1, by rw [hf _ _ (by decide)]; exact hR.2.1, by rw [hf _ _ (by decide)]; exact hR.2.2.1, by rw [hf _ _ (by decide)]; exact hR.2.2.2⟩ (fun d' h1 h2 => by
      by_cases e1 : d' = d
      · subst e1
        rw [show D + 1 - d' = D + 1 - (d' + 1) + 1 by omega]
        exact a2
      · intro y hy hay
        rw [a3 _ _ (fun h => by omega)]
        exact hT d' (by omega) h2 y hy hay)
    exact ⟨τ, t1, t2, fun o j ho => (t3 o j ho).trans (hf o j ho)⟩
theorem last_go {n B c l v D : Nat} (hn : 300000 ≤ n) (hB : B ≤ 3) (hB1 : 1 ≤ B) (hc : c ≤ 99) (hl : l ≤ 30) (hv : v ≤ 297) (hD : D ≤ 20) : ∀ (e x k : Nat) (σ : Sg), x + e = 12167 → e < k → bR B c l v σ → (∀ y, y < x → σ 117 (12167 * (D + 1) + y) = 0) → ∃ τ, s_X12_findBeds_2 n k (nI D) (nI x) σ = some τ ∧ (∀ d', d' ≤ D + 1 → bT B c l v (D + 1 - d') d' τ) ∧ ∀ o j, o ≠ 117 → τ o j = σ o j := by
  intro e
  induction e with
  | zero =>
    intro x k σ hx hk hR hU
    obtain ⟨k, rfl⟩ : ∃ k', k = k' + 1 := ⟨k - 1, by omega⟩
    have hx : x = 12167 := by omega
    subst hx
    show ∃ τ, s_X12_findBeds_2b n _ _ _ _ = _ ∧ _
    unfold s_X12_findBeds_2b
    rw [if_pos (show (12167 : Int32) ≤ nI 12167 from Int32.le_refl _)]
    exact days_go hn hB hB1 hc hl hv hD (D + 1) n σ (by omega) (by omega) hR (fun d' h1 h2 => by
      have : d' = D + 1 := by omega
      subst this
      intro y hy _
      rw [hU y hy, Nat.sub_self]
      rfl)
  | succ e ih =>
    intro x k σ hx hk hR hU
    obtain ⟨k, rfl⟩ : ∃ k', k = k' + 1 := ⟨k - 1, by omega⟩
    show ∃ τ, s_X12_findBeds_2b n (s_X12_findBeds_2 n k) _ _ _ = _ ∧ _
    unfold s_X12_findBeds_2b s_X12_bedCell
    rw [if_neg (by rw [show (12167 : Int32) = nI 12167 from rfl, nle (by omega) (by omega)]; omega), bd_so, show nI D + 1 = nI (D + 1) from nI_1 D, show (12167 : Int32) = nI 12167 from rfl, nmul, nadd, ck_n (by omega) (by omega), ix_n (by omega), lt_eq, show nI x + 1 = nI (x + 1) from nI_1 x]
    obtain ⟨τ, t1, t2, t3⟩ := ih (x + 1) k (up2 σ 117 (12167 * (D + 1) + x) 0) (by omega) (by omega) ⟨by rw [up2_o (by decide)]; exact hR.1, by rw [up2_o (by decide)]; exact hR.2.1, by rw [up2_o (by decide)]; exact hR.2.2.1, by rw [up2_o (by decide)]; exact hR.2.2.2⟩ (fun y hy => by
      rw [up2_app, if_pos rfl]
      by_cases e1 : y = x
      · subst e1; rw [if_pos rfl]
      · rw [if_neg (by omega)]; exact hU y (by omega))
    exact ⟨τ, t1, t2, fun o j ho => by rw [t3 o j ho, up2_o ho]⟩
theorem findBeds_ok {n B c l v D : Nat} {σ : Sg} (hn : 300000 ≤ n) (hB : B ≤ 3) (hB1 : 1 ≤ B) (hc : c ≤ 99) (hl : l ≤ 30) (hv : v ≤ 297) (hD : D ≤ 20) (hR : bR B c l v σ) : ∃ τ, s_X12_findBeds n (nI D) σ = some τ ∧ (∀ d', d' ≤ D + 1 → bT B c l v (D + 1 - d') d' τ) ∧ ∀ o j, o ≠ 117 → τ o j = σ o j := last_go hn hB hB1 hc hl hv hD 12167 0 n σ (by omega) (by omega) hR (fun y hy => absurd hy (by omega))
-- the first of the best
def fs (p : Nat → Bool) : Nat → Nat → Nat
  | 0, j => j
  | k + 1, j => if p j = true then j else fs p k (j + 1)
theorem fs_s (p : Nat → Bool) (k j : Nat) : fs p (k + 1) j = if p j = true then j else fs p k (j + 1) := rfl
theorem fs_ok {p : Nat → Bool} : ∀ {k j : Nat}, (∃ i, j ≤ i ∧ i < j + k ∧ p i = true) → p (fs p k j) = true ∧ j ≤ fs p k j ∧ fs p k j < j + k
  | 0, j, h => by obtain ⟨i, h1, h2, _⟩ := h; omega
  | k + 1, j, h => by
    rw [fs_s]
    split
    · exact ⟨by assumption, by omega, by omega⟩
    · rename_i hp
      obtain ⟨i, h1, h2, h3⟩ := h
      have : i ≠ j := fun e => hp (e ▸ h3)
      have ih := fs_ok (p := p) (k := k) (j := j + 1) ⟨i, by omega, by omega, h3⟩
      exact ⟨ih.1, by omega, by omega⟩
theorem bmin_ex (ok : Nat → Bool) (val : Nat → Nat) : ∀ k, bmin ok val k = 1000000 ∨ ∃ j, j < k ∧ ok j = true ∧ val j = bmin ok val k
  | 0 => .inl rfl
  | k + 1 => by
    have ih := bmin_ex ok val k
    have hl := bmin_le ok val k
    rw [bmin_s]
    split
    · rename_i h
      by_cases hm : bmin ok val k ≤ val k
      · rw [Nat.min_eq_left hm]
        rcases ih with h1 | ⟨j, h1, h2⟩
        · exact .inl h1
        · exact .inr ⟨j, by omega, h2⟩
      · rw [Nat.min_eq_right (by omega)]
        exact .inr ⟨k, by omega, h, rfl⟩
    · rcases ih with h1 | ⟨j, h1, h2⟩
      · exact .inl h1
      · exact .inr ⟨j, by omega, h2⟩
def bdp (B c l v r : Nat) (a : Nat → Nat) (jj : Nat) : Bool := decide (v ≤ sG c l a jj B) && decide ((if jj = 0 then 0 else 1) + bF B c l v r (nxt B a jj) = bF B c l v (r + 1) a)
def pick (B c l v r : Nat) (a : Nat → Nat) : Nat := fs (bdp B c l v r a) (B + 1) 0
theorem pick_ok {B c l v r : Nat} {a : Nat → Nat} (h : bF B c l v (r + 1) a < 1000000) : bdp B c l v r a (pick B c l v r a) = true ∧ pick B c l v r a < B + 1 := by
  have h1 := bmin_ex (fun jj => decide (v ≤ sG c l a jj B)) (fun jj => (if jj = 0 then 0 else 1) + bF B c l v r (nxt B a jj)) (B + 1)
  have h2 := fs_ok (p := bdp B c l v r a) (k := B + 1) (j := 0) (by
    rcases h1 with h1 | ⟨j, hj, h2, h3⟩
    · have : bF B c l v (r + 1) a = 1000000 := h1
      omega
    · refine ⟨j, by omega, by omega, ?_⟩
      unfold bdp
      rw [h2, Bool.true_and]
      exact decide_eq_true h3)
  exact ⟨h2.1, by have := h2.2.2; unfold pick; omega⟩
theorem pick_lt {B c l v r : Nat} {a : Nat → Nat} (h : bF B c l v (r + 1) a < 1000000) : bF B c l v r (nxt B a (pick B c l v r a)) < 1000000 := by
  have h1 := (pick_ok h).1
  unfold bdp at h1
  rw [Bool.and_eq_true] at h1
  have := of_decide_eq_true h1.2
  split at this <;> omega
-- the ages on a day, and who is cleaned on it
def bA (B c l v D : Nat) : Nat → Nat → Nat
  | 0 => fun _ => 0
  | d + 1 => nxt B (bA B c l v D d) (pick B c l v (D - d) (bA B c l v D d))
theorem bA_le {B c l v D : Nat} : ∀ d i, bA B c l v D d i ≤ d
  | 0, _ => Nat.le_refl _
  | d + 1, i => by
    have := bA_le (B := B) (c := c) (l := l) (v := v) (D := D) d i
    show nxt _ _ _ _ ≤ _
    unfold nxt
    split
    · split <;> omega
    · omega
theorem bA_3 {B c l v D : Nat} (hB : B ≤ 3) : ∀ d i, 3 ≤ i → bA B c l v D d i = 0
  | 0, _, _ => rfl
  | _ + 1, i, h => nxt_0 hB _ _ i h
theorem bA_lt {B c l v D : Nat} (h : bF B c l v (D + 1) (fun _ => 0) < 1000000) : ∀ d, d ≤ D + 1 → bF B c l v (D + 1 - d) (bA B c l v D d) < 1000000
  | 0, _ => h
  | d + 1, hd => by
    have := bA_lt h d (by omega)
    rw [show D + 1 - d = D - d + 1 by omega] at this
    rw [show D + 1 - (d + 1) = D - d by omega]
    exact pick_lt this
theorem way_jj {n B c l v D d x : Nat} {i0 : Int32} {rc : Int32 → Int32 → Int32 → Int32 → Int32 → Sg → Option (Int32 × Sg)} {σ : Sg} (hn : 30 ≤ n) (hB : B ≤ 3) (hB1 : 1 ≤ B) (hc : c ≤ 99) (hl : l ≤ 30) (hv : v ≤ 297) (hD : D ≤ 20) (hd : d ≤ D) (hx : x < 12167) (hag : ∀ i, ag x i ≤ d) (hR : bR B c l v σ) (hT : ∀ d', d' ≤ D + 1 → bT B c l v (D + 1 - d') d' σ) (hp : ∃ j, j ≤ B ∧ bdp B c l v (D - d) (ag x) j = true) : ∀ (e jj k : Nat), jj + e = B + 1 → e < k → (∀ j, j < jj → bdp B c l v (D - d) (ag x) j = false) → s_X12_beds_146 n rc k (nI v) (nI D) i0 (nI x) (nI d) (jI jj) σ = if nI d = i0 then some (jI (fs (bdp B c l v (D - d) (ag x)) e jj), σ) else rc (nI v) (nI D) i0 (nI (hi (nxt B (ag x) (fs (bdp B c l v (D - d) (ag x)) e jj)) 0)) (nI (d + 1)) σ := by
  intro e
  induction e with
  | zero =>
    intro jj k hj hk hno
    obtain ⟨j, h1, h2⟩ := hp
    rw [hno j (by omega)] at h2
    cases h2
  | succ e ih =>
    intro jj k hj hk hno
    obtain ⟨k, rfl⟩ : ∃ k', k = k' + 1 := ⟨k - 1, by omega⟩
    show s_X12_beds_146b n rc (s_X12_beds_146 n rc k) _ _ _ _ _ _ _ = _
    unfold s_X12_beds_146b s_X12_beds_169 s_X12_bedCell
    have hneg := jI_neg (jj := jj) (by omega)
    have hs := sG_le c l (ag x) jj B
    have hs2 : B * c ≤ 3 * 99 := Nat.mul_le_mul hB hc
    have hlt := nlt (a := sG c l (ag x) jj B) (b := v) (by omega) (by omega)
    have hskip : bdp B c l v (D - d) (ag x) jj = false → s_X12_beds_146 n rc k (nI v) (nI D) i0 (nI x) (nI d) (jI (jj + 1)) σ = if nI d = i0 then some (jI (fs (bdp B c l v (D - d) (ag x)) (e + 1) jj), σ) else rc (nI v) (nI D) i0 (nI (hi (nxt B (ag x) (fs (bdp B c l v (D - d) (ag x)) (e + 1) jj)) 0)) (nI (d + 1)) σ := by
      intro hb
      rw [fs_s, hb]
      exact ih (jj + 1) k (by omega) (by omega) fun j hj2 => by
        by_cases e1 : j = jj
        · rw [e1]; exact hb
        · exact hno j (by omega)
    rw [given_ok hn hB hc hl hx (by omega) hR, bd_so, jI_s]
    by_cases h : v ≤ sG c l (ag x) jj B
    · rw [if_neg (by rw [hlt]; omega)]
      simp only [lt_eq]
      have hz : (if jI jj < 0 then (0 : Int32) else 1) = zo (decide (jj ≠ 0)) := by
        by_cases h0 : jj = 0
        · rw [if_pos (by rw [hneg]; exact h0)]; simp [h0]; rfl
        · rw [if_neg (by rw [hneg]; exact h0)]; simp [h0]; rfl
      have hz2 : zo (decide (jj ≠ 0)) = nI (if jj = 0 then 0 else 1) := by
        by_cases h0 : jj = 0
        · simp [h0]; rfl
        · simp [h0]; rfl
      have hf : ∀ i, nxt B (ag x) jj i < 23 := fun i => by have := nxt_lt (B := B) (show d ≤ 20 by omega) hag jj i; omega
      have hcode := hi_lt hf 0
      have hbF := bF_le B c l v (D - d) (nxt B (ag x) jj)
      have hbF2 := bF_le B c l v (D - d + 1) (ag x)
      have hT1 := hT (d + 1) (by omega)
      have hT0 := hT d (by omega)
      rw [show D + 1 - (d + 1) = D - d by omega] at hT1
      rw [show D + 1 - d = D - d + 1 by omega] at hT0
      rw [hz, one_ok, bd_so, next_ok hn hB hB1 hx (show d ≤ 20 by omega) hag (by omega) hR, bd_so, bd_so, bd_so, show nI d + 1 = nI (d + 1) from nI_1 d, show (12167 : Int32) = nI 12167 from rfl, nmul, nmul, nadd, nadd, ck_n (by omega) (by omega), ck_n (by omega) (by omega), ix_n (by omega), ix_n (by omega)]
      rw [hT1 _ hcode (fun i => by rw [ag_hi hf (nxt_0 hB _ _)]; exact nxt_lt (by omega) hag jj i), ag_hi hf (nxt_0 hB _ _), hT0 x hx hag, hz2, nadd]
      have hq := neq (a := (if jj = 0 then 0 else 1) + bF B c l v (D - d) (nxt B (ag x) jj)) (b := bF B c l v (D - d + 1) (ag x)) (by split <;> omega) (by omega)
      by_cases hm : (if jj = 0 then 0 else 1) + bF B c l v (D - d) (nxt B (ag x) jj) = bF B c l v (D - d + 1) (ag x)
      · rw [if_pos (by rw [hq]; exact hm)]
        have hb : bdp B c l v (D - d) (ag x) jj = true := by
          unfold bdp
          rw [decide_eq_true h, decide_eq_true hm]; rfl
        rw [fs_s, if_pos hb, next_ok hn hB hB1 hx (show d ≤ 20 by omega) hag (by omega) hR, bd_so]
      · rw [if_neg (by rw [hq]; exact hm)]
        exact hskip (by unfold bdp; rw [decide_eq_false hm, Bool.and_false])
    · rw [if_pos (by rw [hlt]; omega)]
      exact hskip (by unfold bdp; rw [decide_eq_false h, Bool.false_and])
theorem way_go {n B c l v D : Nat} {i0 : Int32} {σ : Sg} (hn : 30 ≤ n) (hB : B ≤ 3) (hB1 : 1 ≤ B) (hc : c ≤ 99) (hl : l ≤ 30) (hv : v ≤ 297) (hD : D ≤ 20) (hR : bR B c l v σ) (hT : ∀ d', d' ≤ D + 1 → bT B c l v (D + 1 - d') d' σ) (hF : bF B c l v (D + 1) (fun _ => 0) < 1000000) : ∀ (e d k : Nat), d + e = D + 1 → e < k → (∀ d', d' < d → nI d' ≠ i0) → s_X12_beds_136 n k (nI v) (nI D) i0 (nI (hi (bA B c l v D d) 0)) (nI d) σ = some (if 0 ≤ i0 ∧ i0 ≤ nI D then jI (pick B c l v (D - ix i0) (bA B c l v D (ix i0))) else -1, σ) := by
  intro e
  induction e with
  | zero =>
    intro d k hd hk hno
    obtain ⟨k, rfl⟩ : ∃ k', k = k' + 1 := ⟨k - 1, by omega⟩
    have hd : d = D + 1 := by omega
    subst hd
    show s_X12_beds_136b n _ _ _ _ _ _ _ = _
    unfold s_X12_beds_136b
    rw [if_pos (by rw [nlt (by omega) (by omega)]; omega), if_neg]
    intro h
    have hi : i0 = nI i0.toInt.toNat := by
      apply Int32.toInt_inj.mp
      have h0 := Int32.le_iff_toInt_le.mp h.1
      have h1 := Int32.toInt_lt i0
      rw [show (0 : Int32).toInt = 0 from rfl] at h0
      rw [ni_int (by omega)]
      omega
    have h2 := Int32.le_iff_toInt_le.mp h.2
    rw [ni_int (by omega)] at h2
    exact hno i0.toInt.toNat (by omega) hi.symm
  | succ e ih =>
    intro d k hd hk hno
    obtain ⟨k, rfl⟩ : ∃ k', k = k' + 1 := ⟨k - 1, by omega⟩
    show s_X12_beds_136b n (s_X12_beds_136 n k) _ _ _ _ _ _ = _
    unfold s_X12_beds_136b
    have hl23 : ∀ i, bA B c l v D d i < 23 := fun i => by have := bA_le (B := B) (c := c) (l := l) (v := v) (D := D) d i; omega
    have hag := ag_hi hl23 (bA_3 hB d)
    have hlt := bA_lt hF d (by omega)
    rw [show D + 1 - d = D - d + 1 by omega] at hlt
    have hpk := pick_ok hlt
    rw [if_neg (by rw [nlt (by omega) (by omega)]; omega)]
    have h := way_jj (n := n) (i0 := i0) (rc := s_X12_beds_136 n k) (x := hi (bA B c l v D d) 0) hn hB hB1 hc hl hv hD (show d ≤ D by omega) (hi_lt hl23 0) (fun i => by rw [hag]; exact bA_le d i) hR hT ⟨pick B c l v (D - d) (bA B c l v D d), by have := hpk.2; omega, by rw [hag]; exact hpk.1⟩ (B + 1) 0 n (by omega) (by omega) (fun j hj => absurd hj (by omega))
    refine Eq.trans h ?_
    rw [hag]
    by_cases e0 : nI d = i0
    · rw [if_pos e0, ← e0, ix_n (by omega), if_pos ⟨n_nn (by omega), by rw [nle (by omega) (by omega)]; omega⟩]
      rfl
    · rw [if_neg e0]
      exact ih (d + 1) k (by omega) (by omega) fun d' h' => by
        by_cases e1 : d' = d
        · rw [e1]; exact e0
        · exact hno d' (by omega)
