/-! ===== beds, the reference ===== -/
theorem ni_int {a : Nat} (h : a < 2147483648) : (nI a).toInt = a := Int32.toInt_ofNat_of_lt h
theorem ndiv {a b : Nat} (ha : a < 2147483648) (hb : b < 2147483648) : nI a / nI b = nI (a / b) := by
  have hd : a / b ≤ a := Nat.div_le_self _ _
  apply Int32.toInt_inj.mp
  rw [Int32.toInt_div, ni_int ha, ni_int hb, ni_int (by omega)]
  have : (a : Int).tdiv (b : Int) = ((a / b : Nat) : Int) := rfl
  rw [this]
  generalize a / b = q at hd ⊢
  rw [Int.bmod_def]
  split <;> omega
theorem nirm {a b : Nat} (ha : a < 2147483648) (hb : b < 2147483648) : irm (nI a) (nI b) = nI (a % b) := by
  unfold irm
  have h := Nat.div_add_mod a b
  rw [ndiv ha hb, nmul, nsub (Nat.div_mul_le_self a b)]
  congr 1
  rw [Nat.mul_comm] at h
  omega
def jI : Nat → Int32
  | 0 => -1
  | k + 1 => nI k
theorem jI_s (k : Nat) : jI k + 1 = jI (k + 1) := by
  cases k with
  | zero => decide
  | succ k => exact nI_1 k
theorem jI_eq {i jj : Nat} (hi : i < 100) (hj : jj < 100) : (nI i = jI jj) = (i + 1 = jj) := by
  cases jj with
  | zero =>
    apply propext
    constructor
    · intro h; exact absurd h (n_ne1 (by omega))
    · intro h; omega
  | succ k => show (nI i = nI k) = _; rw [neq (by omega) (by omega)]; apply propext; omega
theorem jI_le {i jj : Nat} (hi : i < 100) (hj : jj < 100) : (nI i ≤ jI jj) = (i + 1 ≤ jj) := by
  cases jj with
  | zero =>
    apply propext
    constructor
    · intro h
      have := Int32.le_trans (n_nn (a := i) (by omega)) h
      exact absurd this (by decide)
    · intro h; omega
  | succ k => show (nI i ≤ nI k) = _; rw [nle (by omega) (by omega)]; apply propext; omega
theorem jI_neg {jj : Nat} (hj : jj < 100) : (jI jj < 0) = (jj = 0) := by
  cases jj with
  | zero => apply propext; constructor <;> intro _ <;> decide
  | succ k => apply propext; constructor <;> intro h
              · exact absurd h (n_nlt0 (by omega))
              · omega
-- ages packed by 23
def ag (x i : Nat) : Nat := if i = 0 then x % 23 else if i = 1 then x / 23 % 23 else if i = 2 then x / 529 else 0
theorem ageOf_ok {n x i : Nat} (hx : x < 12167) (hi : i < 3) (σ : Sg) : s_X12_ageOf n (nI x) (nI i) σ = some (nI (ag x i), σ) := by
  unfold s_X12_ageOf ag
  have h : i = 0 ∨ i = 1 ∨ i = 2 := by omega
  rcases h with h | h | h <;> subst h
  · rw [if_pos (show nI 0 = (0 : Int32) from rfl), show (23 : Int32) = nI 23 from rfl, nirm (by omega) (by omega)]; rfl
  · rw [if_neg (show ¬ nI 1 = (0 : Int32) by decide), if_pos (show nI 1 = (1 : Int32) from rfl), show (23 : Int32) = nI 23 from rfl, ndiv (by omega) (by omega), nirm (by omega) (by omega)]; rfl
  · rw [if_neg (show ¬ nI 2 = (0 : Int32) by decide), if_neg (show ¬ nI 2 = (1 : Int32) by decide), show (529 : Int32) = nI 529 from rfl, ndiv (by omega) (by omega)]; rfl
theorem ag_lt {x : Nat} (hx : x < 12167) (i : Nat) : ag x i < 23 := by
  unfold ag
  split
  · omega
  · split
    · omega
    · split <;> omega
-- what is given
def sG (c l : Nat) (a : Nat → Nat) (jj : Nat) : Nat → Nat
  | 0 => 0
  | i + 1 => sG c l a jj i + (if i + 1 = jj then 0 else c - l * a i)
theorem sG_s (c l : Nat) (a : Nat → Nat) (jj i : Nat) : sG c l a jj (i + 1) = sG c l a jj i + (if i + 1 = jj then 0 else c - l * a i) := rfl
theorem sG_le (c l : Nat) (a : Nat → Nat) (jj : Nat) : ∀ i, sG c l a jj i ≤ i * c
  | 0 => Nat.zero_le _
  | i + 1 => by
    have := sG_le c l a jj i
    rw [sG_s, Nat.succ_mul]
    split <;> omega
def nxt (B : Nat) (a : Nat → Nat) (jj i : Nat) : Nat := if i < B then (if i + 1 = jj then 0 else a i + 1) else 0
def bmin (ok : Nat → Bool) (val : Nat → Nat) : Nat → Nat
  | 0 => 1000000
  | k + 1 => if ok k = true then min (bmin ok val k) (val k) else bmin ok val k
theorem bmin_s (ok : Nat → Bool) (val : Nat → Nat) (k : Nat) : bmin ok val (k + 1) = if ok k = true then min (bmin ok val k) (val k) else bmin ok val k := rfl
theorem bmin_le (ok : Nat → Bool) (val : Nat → Nat) : ∀ k, bmin ok val k ≤ 1000000
  | 0 => Nat.le_refl _
  | k + 1 => by
    have := bmin_le ok val k
    rw [bmin_s]
    split
    · exact Nat.le_trans (Nat.min_le_left _ _) this
    · exact this
def bF (B c l v : Nat) : Nat → (Nat → Nat) → Nat
  | 0, _ => 0
  | r + 1, a => bmin (fun jj => decide (v ≤ sG c l a jj B)) (fun jj => (if jj = 0 then 0 else 1) + bF B c l v r (nxt B a jj)) (B + 1)
theorem bF_le (B c l v : Nat) : ∀ r a, bF B c l v r a ≤ 1000000
  | 0, _ => Nat.zero_le _
  | _ + 1, _ => bmin_le _ _ _
def bR (B c l v : Nat) (σ : Sg) : Prop := σ 71 70 = nI B ∧ σ 71 71 = nI c ∧ σ 71 72 = nI l ∧ σ 71 73 = nI v
theorem given_go {n B c l v x jj : Nat} {σ : Sg} (hB : B ≤ 3) (hc : c ≤ 99) (hl : l ≤ 30) (hx : x < 12167) (hj : jj ≤ B) (hR : bR B c l v σ) : ∀ (e i k : Nat), i + e = B → e < k → s_X12_givenBy_5 n k (nI x) (jI jj) (nI (sG c l (ag x) jj i)) (nI i) σ = some (nI (sG c l (ag x) jj B), σ) := by
  intro e
  induction e with
  | zero =>
    intro i k hi hk
    obtain ⟨k, rfl⟩ : ∃ k', k = k' + 1 := ⟨k - 1, by omega⟩
    have hi : i = B := by omega
    subst hi
    show s_X12_givenBy_5b n _ _ _ _ _ _ = _
    unfold s_X12_givenBy_5b
    rw [hR.1, if_pos (Int32.le_refl _)]
  | succ e ih =>
    intro i k hi hk
    obtain ⟨k, rfl⟩ : ∃ k', k = k' + 1 := ⟨k - 1, by omega⟩
    show s_X12_givenBy_5b n (s_X12_givenBy_5 n k) _ _ _ _ _ = _
    unfold s_X12_givenBy_5b
    rw [hR.1, if_neg (by rw [nle (by omega) (by omega)]; omega), ageOf_ok hx (by omega), bd_so, hR.2.1, hR.2.2.1, nmul]
    simp only [lt_eq]
    have ha := ag_lt hx i
    have hla : l * ag x i ≤ 30 * 23 := Nat.mul_le_mul hl (by omega)
    have he := jI_eq (i := i) (jj := jj) (by omega) (by omega)
    have hs := sG_le c l (ag x) jj i
    have hih := ih (i + 1) k (by omega) (by omega)
    rw [sG_s] at hih
    rw [show nI i + 1 = nI (i + 1) from nI_1 i, ← hih]
    congr 1
    by_cases h : i + 1 = jj
    · rw [if_pos (by rw [he]; exact h), if_pos h]
      exact (nadd _ 0)
    · rw [if_neg (by rw [he]; exact h), if_neg h]
      by_cases h2 : l * ag x i ≤ c
      · rw [nsub h2, if_pos (n_nn (by omega)), nadd]
      · have hneg : ¬ (0 : Int32) ≤ nI c - nI (l * ag x i) := by
          rw [Int32.le_iff_toInt_le, Int32.toInt_sub, ni_int (by omega), ni_int (by omega), show (0 : Int32).toInt = 0 from rfl, Int.bmod_def]
          split <;> omega
        rw [if_neg hneg, show c - l * ag x i = 0 by omega]
        exact (nadd _ 0)
theorem given_ok {n B c l v x jj : Nat} {σ : Sg} (hn : 30 ≤ n) (hB : B ≤ 3) (hc : c ≤ 99) (hl : l ≤ 30) (hx : x < 12167) (hj : jj ≤ B) (hR : bR B c l v σ) : s_X12_givenBy n (nI x) (jI jj) σ = some (nI (sG c l (ag x) jj B), σ) := given_go hB hc hl hx hj hR B 0 n (by omega) (by omega)
