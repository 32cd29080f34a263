/-! ===== counting bits; sets laid out over a mask ===== -/
def pcn (x : Int32) : Nat → Nat
  | 0 => 0
  | k + 1 => pcn x k + (bt x k).toNat
theorem pcn_s (x : Int32) (k : Nat) : pcn x (k + 1) = pcn x k + (bt x k).toNat := rfl
def al (f : Nat → Bool) : Nat → Bool
  | 0 => true
  | k + 1 => al f k && f k
theorem al_s (f : Nat → Bool) (k : Nat) : al f (k + 1) = (al f k && f k) := rfl
theorem al_t {f : Nat → Bool} : ∀ {k : Nat}, al f k = true → ∀ j, j < k → f j = true
  | 0, _, j, hj => absurd hj (by omega)
  | k + 1, h, j, hj => by
    rw [al_s, Bool.and_eq_true] at h
    by_cases e : j = k
    · subst e; exact h.2
    · exact al_t h.1 j (by omega)
theorem al_i {f : Nat → Bool} : ∀ {k : Nat}, (∀ j, j < k → f j = true) → al f k = true
  | 0, _ => rfl
  | k + 1, h => by
    rw [al_s, al_i (fun j hj => h j (by omega)), h k (by omega)]; rfl
theorem car1 (x : BitVec 32) : ∀ i, BitVec.carry i x 1#32 false = (decide (0 < i) && al (fun j => x.getLsbD j) i)
  | 0 => by simp [BitVec.carry, Nat.mod_one]
  | i + 1 => by
    rw [BitVec.carry_succ, car1 x i, al_s]
    cases i with
    | zero => simp [Bool.atLeastTwo, al]
    | succ i =>
      have h1 : (1#32).getLsbD (i + 1) = false := by simp
      rw [h1]
      simp [Bool.atLeastTwo]
      cases al (fun j => x.getLsbD j) (i + 1) <;> cases x.getLsbD (i + 1) <;> rfl
theorem inc_bt (x : Int32) {i : Nat} (hi : i < 32) : bt (x + 1) i = (bt x i ^^ al (bt x) i) := by
  unfold bt
  rw [Int32.toBitVec_add, BitVec.getLsbD_add hi, show (1 : Int32).toBitVec = 1#32 from rfl, car1]
  cases i with
  | zero => simp [al]
  | succ i =>
    have h1 : (1#32).getLsbD (i + 1) = false := by simp
    rw [h1]
    simp
-- y is x laid out over the bits of m
def dep (m x y : Int32) : Prop := ∀ i, i < 32 → bt y i = (bt m i && bt x (pcn m i))
theorem dep_0 (m : Int32) : dep m 0 0 := fun i _ => by rw [b_0, b_0, Bool.and_false]
theorem dep_pc {m x y : Int32} (h : dep m x y) : ∀ i, i ≤ 32 → pcn y i = pcn x (pcn m i)
  | 0, _ => rfl
  | i + 1, hi => by
    rw [pcn_s, pcn_s, dep_pc h i (by omega), h i (by omega)]
    cases bt m i
    · rfl
    · rw [show (true : Bool).toNat = 1 from rfl, pcn_s, Bool.true_and]
theorem dep_all {m x y : Int32} (h : dep m x y) : ∀ i, i ≤ 32 → al (bt (y ||| (m ^^^ -1))) i = al (bt x) (pcn m i)
  | 0, _ => rfl
  | i + 1, hi => by
    rw [pcn_s, al_s, dep_all h i (by omega), b_or, not_bt _ (by omega), h i (by omega)]
    cases bt m i
    · simp
    · rw [show (true : Bool).toNat = 1 from rfl, al_s]; simp
theorem sub_mask {m y : Int32} (h : y &&& (m ^^^ -1) = 0) : y - m = (y ||| (m ^^^ -1)) + 1 := by
  apply Int32.toBitVec_inj.mp
  have h' := congrArg Int32.toBitVec h
  rw [Int32.toBitVec_and, Int32.toBitVec_xor] at h'
  rw [Int32.toBitVec_sub, Int32.toBitVec_add, Int32.toBitVec_or, Int32.toBitVec_xor]
  have e : m.toBitVec ^^^ (-1 : Int32).toBitVec = ~~~ m.toBitVec := by
    rw [show (-1 : Int32).toBitVec = BitVec.allOnes 32 from rfl, BitVec.xor_allOnes]
  rw [e] at h' ⊢
  rw [← BitVec.add_eq_or_of_and_eq_zero _ _ h', BitVec.sub_eq_add_neg, BitVec.neg_eq_not_add, BitVec.add_assoc]
  rfl
theorem dep_next {m x y : Int32} (h : dep m x y) (hm : ∀ i, i < 32 → bt m i = true → pcn m i < 32) : dep m (x + 1) ((y - m) &&& m) := by
  intro i hi
  have hz : y &&& (m ^^^ -1) = 0 := by
    apply b_ext
    intro j hj
    rw [b_and, not_bt _ hj, h j hj, b_0]
    cases bt m j <;> simp
  rw [sub_mask hz, b_and, inc_bt _ hi, dep_all h i (by omega), b_or, not_bt _ hi, h i hi]
  cases hb : bt m i
  · simp
  · rw [inc_bt _ (hm i hi hb)]; simp
theorem pcn_le (x : Int32) : ∀ i, pcn x i ≤ i
  | 0 => Nat.le_refl _
  | i + 1 => by
    rw [pcn_s]
    have := pcn_le x i
    cases bt x i <;> simp <;> omega
theorem pcn_mono (x : Int32) {i j : Nat} (h : i ≤ j) : pcn x i ≤ pcn x j := by
  induction j with
  | zero => rw [Nat.le_zero.mp h]; exact Nat.le_refl _
  | succ j ih =>
    by_cases e : i = j + 1
    · rw [e]; exact Nat.le_refl _
    · rw [pcn_s]; have := ih (by omega); omega
theorem pcn_lt {x : Int32} {i j : Nat} (h : i < j) (hb : bt x i = true) : pcn x i < pcn x j := by
  have := pcn_mono x (show i + 1 ≤ j from h)
  rw [pcn_s, hb] at this
  simp at this
  omega
theorem pcn_stop {x : Int32} {c : Nat} (h : ∀ i, c ≤ i → i < 32 → bt x i = false) : ∀ i, c ≤ i → i ≤ 32 → pcn x i = pcn x c
  | 0, hi, _ => by rw [Nat.le_zero.mp hi]
  | i + 1, hi, hi2 => by
    by_cases e : c = i + 1
    · rw [e]
    · rw [pcn_s, pcn_stop h i (by omega) (by omega), h i (by omega) (by omega)]; rfl
theorem pcn_find {x : Int32} : ∀ {c k : Nat}, k < pcn x c → ∃ i, i < c ∧ bt x i = true ∧ pcn x i = k
  | 0, k, h => absurd h (by simp [pcn])
  | c + 1, k, h => by
    rw [pcn_s] at h
    cases hb : bt x c
    · rw [hb] at h
      obtain ⟨i, hi, h2⟩ := pcn_find (x := x) (c := c) (k := k) (by simpa using h)
      exact ⟨i, by omega, h2⟩
    · rw [hb] at h
      simp at h
      by_cases e : k = pcn x c
      · exact ⟨c, by omega, hb, e.symm⟩
      · obtain ⟨i, hi, h2⟩ := pcn_find (x := x) (c := c) (k := k) (by omega)
        exact ⟨i, by omega, h2⟩
