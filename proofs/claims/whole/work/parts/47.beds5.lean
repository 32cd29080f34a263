/-! ===== beds, the class: places and costs ===== -/
theorem nimin {a b : Nat} (ha : a < 2147483648) (hb : b < 2147483648) : imin (nI a) (nI b) = nI (min a b) := by
  unfold imin
  have hq := nlt hb ha
  by_cases h : b < a
  · rw [if_pos (by rw [hq]; exact h), Nat.min_eq_right (by omega)]
  · rw [if_neg (by rw [hq]; exact h), Nat.min_eq_left (by omega)]
theorem nimax {a b : Nat} (ha : a < 2147483648) (hb : b < 2147483648) : imax (nI a) (nI b) = nI (max a b) := by
  unfold imax
  have hq := nlt ha hb
  by_cases h : a < b
  · rw [if_pos (by rw [hq]; exact h), Nat.max_eq_right (by omega)]
  · rw [if_neg (by rw [hq]; exact h), Nat.max_eq_left (by omega)]
def t4 (d : Nat) : Nat := d * (d + 1) * (d + 2) * (d + 3) / 24
def t3 (d : Nat) : Nat := d * (d + 1) * (d + 2) / 6
def t2 (d : Nat) : Nat := d * (d + 1) / 2
def mx (x y z : Nat) : Nat := max x (max y z)
def mn (x y z : Nat) : Nat := min x (min y z)
def md (x y z : Nat) : Nat := x + y + z - mx x y z - mn x y z
def pl (d x y z : Nat) : Nat := t4 d + t3 (mx x y z) + t2 (md x y z) + mn x y z
theorem t_b : ∀ d, d < 21 → d * (d + 1) * (d + 2) * (d + 3) < 300000 ∧ d * (d + 1) * (d + 2) < 20000 ∧ d * (d + 1) < 1000 ∧ t4 d + t3 d + t2 d + d < t4 (d + 1) ∧ t3 d + t2 d + d < t3 (d + 1) ∧ t2 d + d < t2 (d + 1) ∧ t4 (d + 1) ≤ 10626 := by decide +kernel
theorem t_m : ∀ b, b < 22 → ∀ a, a < b + 1 → t4 a ≤ t4 b ∧ t3 a ≤ t3 b ∧ t2 a ≤ t2 b := by decide +kernel
theorem place_ok {d x y z : Nat} (n : Nat) (hd : d ≤ 20) (hx : x ≤ 20) (hy : y ≤ 20) (hz : z ≤ 20) (σ : Sg) : s_X0_place n (nI d) (nI x) (nI y) (nI z) σ = some (nI (pl d x y z), σ) := by
  unfold s_X0_place
  have hm1 : mx x y z ≤ 20 := by unfold mx; omega
  have hm2 : mn x y z ≤ 20 := by unfold mn; omega
  have hm3 : md x y z ≤ 20 := by unfold md mx mn; omega
  have hm4 : mx x y z ≤ x + y + z := by unfold mx; omega
  have hm5 : mn x y z ≤ x + y + z - mx x y z := by unfold mx mn; omega
  have b1 := t_b d (by omega)
  have b2 := t_b (mx x y z) (by omega)
  have b3 := t_b (md x y z) (by omega)
  simp only [lt_eq]
  rw [nimax (a := y) (b := z) (by omega) (by omega), nimax (by omega) (by omega), nimin (a := y) (b := z) (by omega) (by omega), nimin (by omega) (by omega)]
  rw [show max x (max y z) = mx x y z from rfl, show min x (min y z) = mn x y z from rfl]
  rw [nadd x y, nadd (x + y) z, nsub hm4, nsub hm5]
  rw [show x + y + z - mx x y z - mn x y z = md x y z from rfl]
  rw [show (1 : Int32) = nI 1 from rfl, show (2 : Int32) = nI 2 from rfl, show (3 : Int32) = nI 3 from rfl, show (6 : Int32) = nI 6 from rfl, show (24 : Int32) = nI 24 from rfl]
  rw [nadd d 1, nadd d 2, nadd d 3, nmul d, nmul (d * (d + 1)), nmul (d * (d + 1) * (d + 2)), ndiv (by omega) (by omega)]
  rw [nadd (mx x y z) 1, nadd (mx x y z) 2, nmul (mx x y z), nmul (mx x y z * (mx x y z + 1)), ndiv (by omega) (by omega)]
  rw [nadd (md x y z) 1, nmul (md x y z), ndiv (by omega) (by omega), nadd, nadd, nadd]
  rfl
theorem pl_lt {d x y z : Nat} (hd : d ≤ 20) (hx : x ≤ d) (hy : y ≤ d) (hz : z ≤ d) : t4 d ≤ pl d x y z ∧ pl d x y z < t4 (d + 1) := by
  have hm1 : mx x y z ≤ d := by unfold mx; omega
  have hm2 : mn x y z ≤ d := by unfold mn; omega
  have hm3 : md x y z ≤ d := by unfold md mx mn; omega
  have b1 := t_b d (by omega)
  have c1 := t_m d (by omega) _ (show mx x y z < d + 1 by omega)
  have c2 := t_m d (by omega) _ (show md x y z < d + 1 by omega)
  unfold pl
  omega
def bC (B c l v D O : Nat) (σ : Sg) : Prop := σ 68 2 = nI B ∧ σ 68 3 = nI c ∧ σ 68 4 = nI l ∧ σ 68 5 = nI v ∧ σ 68 6 = nI D ∧ σ 68 7 = nI O
theorem gives_ok {n B c l v D O i x jj : Nat} {σ : Sg} (hB : B ≤ 3) (hc : c ≤ 99) (hl : l ≤ 30) (hx : x ≤ 20) (hi : i < 3) (hj : jj ≤ B) (hC : bC B c l v D O σ) : s_X0_gives n (nI i) (nI x) (jI jj) σ = some (nI (if i < B then (if i + 1 = jj then 0 else c - l * x) else 0), σ) := by
  unfold s_X0_gives
  have h1 := nle (a := B) (b := i) (by omega) (by omega)
  have h2 := jI_eq (i := i) (jj := jj) (by omega) (by omega)
  have hla : l * x ≤ 30 * 20 := Nat.mul_le_mul hl hx
  rw [hC.1, hC.2.1, hC.2.2.1, nmul]
  by_cases a : B ≤ i
  · rw [if_pos (by rw [h1]; exact a), if_neg (by omega)]; rfl
  · rw [if_neg (by rw [h1]; exact a), if_pos (show i < B by omega)]
    by_cases b : i + 1 = jj
    · rw [if_pos (by rw [h2]; exact b), if_pos b]; rfl
    · rw [if_neg (by rw [h2]; exact b), if_neg b]
      by_cases h3 : l * x ≤ c
      · rw [nsub h3, show (0 : Int32) = nI 0 from rfl, nimax (by omega) (by omega), Nat.max_eq_right (by omega)]
      · have hneg : ¬ (0 : Int32) < nI c - nI (l * x) := by
          rw [Int32.lt_iff_toInt_lt, Int32.toInt_sub, ni_int (by omega), ni_int (by omega), show (0 : Int32).toInt = 0 from rfl, Int.bmod_def]
          split <;> omega
        unfold imax
        rw [if_neg hneg, show c - l * x = 0 by omega]; rfl
theorem older_ok {n B c l v D O i d x jj : Nat} {σ : Sg} {a : Nat → Nat} (hB : B ≤ 3) (hO : O ≤ 20) (hd : d ≤ 20) (hx : x ≤ 20) (hax : a i = x) (hi : i < 3) (hj : jj ≤ B) (hC : bC B c l v D O σ) : s_X0_older n (nI i) (nI x) (jI jj) (nI d) σ = some (nI (min (nxt B a jj i) (min (d + 1) O)), σ) := by
  unfold s_X0_older s_X0_oldestOn nxt
  have h1 := nle (a := B) (b := i) (by omega) (by omega)
  have h2 := jI_eq (i := i) (jj := jj) (by omega) (by omega)
  rw [hC.1]
  by_cases q : B ≤ i
  · rw [if_pos (by rw [h1]; exact q), if_neg (by omega), Nat.zero_min]; rfl
  · rw [if_neg (by rw [h1]; exact q), if_pos (show i < B by omega)]
    by_cases b : i + 1 = jj
    · rw [if_pos (by rw [h2]; exact b), if_pos b, Nat.zero_min]; rfl
    · rw [if_neg (by rw [h2]; exact b), if_neg b, bd_so, hC.2.2.2.2.2, show nI d + 1 = nI (d + 1) from nI_1 d, show nI x + 1 = nI (x + 1) from nI_1 x, nimin (a := d + 1) (by omega) (by omega), nimin (by omega) (by omega), hax]
