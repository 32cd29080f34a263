/-! ===== a text, its tokens, its clauses: pure ===== -/
abbrev Tx : Type := Nat × (Nat → Nat)
def txok (t : Tx) : Prop := t.1 ≤ 160 ∧ ∀ i, i < t.1 → t.2 i < 256
def rnF (f : Nat → Bool) (ch : Nat → Nat) : Nat → Nat → Nat
  | 0, p => p
  | e + 1, p => if f (ch p) = true then rnF f ch e (p + 1) else p
/-- the end of the run from p on -/
def rn (f : Nat → Bool) (t : Tx) (p : Nat) : Nat := rnF f t.2 (t.1 - p) p
theorem rn_end {f : Nat → Bool} {t : Tx} {p : Nat} (h : t.1 ≤ p) : rn f t p = p := by
  unfold rn
  rw [show t.1 - p = 0 by omega]
  rfl
theorem rn_yes {f : Nat → Bool} {t : Tx} {p : Nat} (h : p < t.1) (hf : f (t.2 p) = true) : rn f t p = rn f t (p + 1) := by
  unfold rn
  rw [show t.1 - p = (t.1 - (p + 1)) + 1 by omega]
  show (if f (t.2 p) = true then _ else _) = _
  rw [if_pos hf]
theorem rn_no {f : Nat → Bool} {t : Tx} {p : Nat} (h : p < t.1) (hf : f (t.2 p) = false) : rn f t p = p := by
  unfold rn
  rw [show t.1 - p = (t.1 - (p + 1)) + 1 by omega]
  show (if f (t.2 p) = true then _ else _) = _
  rw [if_neg (by rw [hf]; decide)]
theorem rnF_le (f : Nat → Bool) (ch : Nat → Nat) : ∀ e p, p ≤ rnF f ch e p ∧ rnF f ch e p ≤ p + e
  | 0, p => ⟨Nat.le_refl _, Nat.le_refl _⟩
  | e + 1, p => by
    have ih := rnF_le f ch e (p + 1)
    show p ≤ (if f (ch p) = true then rnF f ch e (p + 1) else p) ∧ (if f (ch p) = true then rnF f ch e (p + 1) else p) ≤ _
    split <;> omega
theorem rn_le {f : Nat → Bool} {t : Tx} {p : Nat} (h : p ≤ t.1) : p ≤ rn f t p ∧ rn f t p ≤ t.1 := by
  have := rnF_le f t.2 (t.1 - p) p
  unfold rn
  omega
def bl (c : Nat) : Bool := decide (c = 32)
def isL (c : Nat) : Bool := decide (97 ≤ c) && decide (c ≤ 122)
def isD (c : Nat) : Bool := decide (48 ≤ c) && decide (c ≤ 57)
def kd (c : Nat) : Nat := if isL c = true then 1 else if isD c = true then 2 else if c = 44 then 3 else if c = 59 then 4 else 5
/-- where the next token begins, what it is, where it ends -/
def sk (t : Tx) (p : Nat) : Nat := rn bl t p
def tk (t : Tx) (p : Nat) : Nat := if sk t p < t.1 then kd (t.2 (sk t p)) else 0
def te (t : Tx) (p : Nat) : Nat := if tk t p = 1 then rn isL t (sk t p) else if tk t p = 2 then rn isD t (sk t p) else if tk t p = 0 then sk t p else sk t p + 1
theorem sk_le {t : Tx} {p : Nat} (h : p ≤ t.1) : p ≤ sk t p ∧ sk t p ≤ t.1 := rn_le h
theorem tk_0 {t : Tx} {p : Nat} (h : p ≤ t.1) : tk t p = 0 ↔ sk t p = t.1 := by
  unfold tk
  have := sk_le h
  by_cases h1 : sk t p < t.1
  · rw [if_pos h1]
    unfold kd
    constructor
    · intro z
      split at z
      · cases z
      · split at z
        · cases z
        · split at z
          · cases z
          · split at z <;> cases z
    · intro z; omega
  · rw [if_neg h1]
    exact ⟨fun _ => by omega, fun _ => rfl⟩
theorem te_le {t : Tx} {p : Nat} (h : p ≤ t.1) : sk t p ≤ te t p ∧ te t p ≤ t.1 := by
  have h1 := sk_le h
  have h2 := rn_le (f := isL) h1.2
  have h3 := rn_le (f := isD) h1.2
  have h4 := tk_0 h
  unfold te
  split
  · omega
  · split
    · omega
    · split
      · omega
      · rename_i q1 q2 q3
        have : ¬ sk t p = t.1 := fun z => q3 (h4.mpr z)
        omega
def vF (ch : Nat → Nat) : Nat → Nat → Nat → Nat
  | 0, _, v => v
  | e + 1, p, v => vF ch e (p + 1) (v * 10 + (ch p - 48))
/-- the number that the token is -/
def nv (t : Tx) (p : Nat) : Nat := vF t.2 (te t p - sk t p) (sk t p) 0
def wEq (ch : Nat → Nat) : Nat → List Nat → Bool
  | _, [] => true
  | q, c :: r => decide (ch q = c) && wEq ch (q + 1) r
def isW (t : Tx) (p : Nat) (w : List Nat) : Bool := decide (tk t p = 1) && (decide (te t p - sk t p = w.length) && wEq t.2 (sk t p) w)
def wJ (i : Nat) : List Nat := [[102, 105, 114, 115, 116], [104, 111, 117, 114, 115], [114, 97, 116, 101], [109, 101, 116, 101, 114], [115, 116, 114, 105, 107, 101], [97, 108, 119, 97, 121, 115], [116, 117, 114, 110], [115, 109, 97, 108, 108], [102, 97, 114], [116, 111]].getD i []
def ckd (t : Tx) (p : Nat) : Nat := if isW t p (wJ 0) = true then 0 else if isW t p (wJ 1) = true then 1 else if isW t p (wJ 2) = true then 2 else if isW t p (wJ 3) = true then 3 else if isW t p (wJ 4) = true then 4 else 5
def kkd (t : Tx) (p : Nat) : Nat := if isW t p (wJ 5) = true then 0 else if isW t p (wJ 6) = true then 1 else if isW t p (wJ 7) = true then 2 else if isW t p (wJ 8) = true then 3 else 4
abbrev Rz (α : Type) : Type := (Nat × Nat) ⊕ (Nat × α)
def pNum (t : Tx) (p lo hi : Nat) : Rz Nat := if tk t p = 2 then (if te t p - sk t p ≤ 3 ∧ lo ≤ nv t p ∧ nv t p ≤ hi then .inr (te t p, nv t p) else .inl (2, sk t p)) else .inl (1, sk t p)
def pSemi (t : Tx) (p : Nat) : (Nat × Nat) ⊕ Nat := if tk t p = 4 then .inr (te t p) else .inl (1, sk t p)
/-- keys, the last one first -/
def pKeys (t : Tx) : Nat → Nat → List Nat → Rz (List Nat)
  | 0, _, _ => .inl (0, 0)
  | f + 1, p, ks => if kkd t p = 4 then .inl (1, sk t p) else if ks.contains (kkd t p) = true then .inl (4, sk t p) else if tk t (te t p) = 3 then pKeys t f (te t (te t p)) (kkd t p :: ks) else .inr (te t p, kkd t p :: ks)
def krR : List Nat → Int32
  | [] => 0
  | k :: r => krR r ||| sl (nI k) (2 * nI r.length)
def usR : List Nat → Int32
  | [] => 0
  | k :: r => usR r ||| sl 1 (nI k)
def andS (r : (Nat × Nat) ⊕ Nat) (c : Cl) : Rz Cl := match r with
  | .inl q => .inl q
  | .inr p => .inr (p, c)
def pCl0 (t : Tx) (p : Nat) : Rz Cl := match pKeys t 5 p [] with
  | .inl q => .inl q
  | .inr r => andS (pSemi t r.1) (0, krR r.2, nI r.2.length)
def pCl1b (t : Tx) (a p : Nat) : Rz Cl := if isW t p (wJ 9) = true then (match pNum t (te t p) a 23 with
  | .inl q => .inl q
  | .inr r => andS (pSemi t r.1) (1, nI a, nI r.2)) else .inl (1, sk t p)
def pCl1 (t : Tx) (p : Nat) : Rz Cl := match pNum t p 0 23 with
  | .inl q => .inl q
  | .inr r => pCl1b t r.2 r.1
def pCl2 (t : Tx) (p k : Nat) : Rz Cl := match pNum t p 0 99 with
  | .inl q => .inl q
  | .inr r => andS (pSemi t r.1) (k, nI r.2, 0)
def pCl4 (t : Tx) (p nr : Nat) : Rz Cl := match pNum t p 0 999 with
  | .inl q => .inl q
  | .inr r => if r.2 < nr then andS (pSemi t r.1) (4, nI r.2, 0) else .inl (3, sk t p)
def pCl (t : Tx) (p nr k : Nat) : Rz Cl := if k = 0 then pCl0 t p else if k = 1 then pCl1 t p else if k = 4 then pCl4 t p nr else pCl2 t p k
def pRule (t : Tx) (nr : Nat) : Nat → Nat → List Cl → (Nat × Nat) ⊕ List Cl
  | 0, _, _ => .inl (0, 0)
  | f + 1, p, cs => if tk t p = 0 then .inr cs else if ckd t p = 5 then .inl (1, sk t p) else if 8 ≤ cs.length then .inl (5, sk t p) else (match pCl t (te t p) nr (ckd t p) with
    | .inl q => .inl q
    | .inr r => pRule t nr f r.1 (cs ++ [r.2]))
theorem ckd_cases (t : Tx) (p : Nat) : ckd t p ≤ 5 := by
  unfold ckd
  repeat' split
  all_goals omega
theorem kkd_cases (t : Tx) (p : Nat) : kkd t p ≤ 4 := by
  unfold kkd
  repeat' split
  all_goals omega
theorem isW_1 {t : Tx} {p : Nat} {w : List Nat} (h : isW t p w = true) : tk t p = 1 := by
  unfold isW at h
  rw [Bool.and_eq_true, decide_eq_true_eq] at h
  exact h.1
theorem ckd_1 {t : Tx} {p : Nat} (h : ckd t p ≠ 5) : tk t p = 1 := by
  unfold ckd at h
  by_cases h0 : isW t p (wJ 0) = true
  · exact isW_1 h0
  by_cases h1 : isW t p (wJ 1) = true
  · exact isW_1 h1
  by_cases h2 : isW t p (wJ 2) = true
  · exact isW_1 h2
  by_cases h3 : isW t p (wJ 3) = true
  · exact isW_1 h3
  by_cases h4 : isW t p (wJ 4) = true
  · exact isW_1 h4
  rw [if_neg h0, if_neg h1, if_neg h2, if_neg h3, if_neg h4] at h
  exact absurd rfl h
theorem kkd_1 {t : Tx} {p : Nat} (h : kkd t p ≠ 4) : tk t p = 1 := by
  unfold kkd at h
  by_cases h0 : isW t p (wJ 5) = true
  · exact isW_1 h0
  by_cases h1 : isW t p (wJ 6) = true
  · exact isW_1 h1
  by_cases h2 : isW t p (wJ 7) = true
  · exact isW_1 h2
  by_cases h3 : isW t p (wJ 8) = true
  · exact isW_1 h3
  rw [if_neg h0, if_neg h1, if_neg h2, if_neg h3] at h
  exact absurd rfl h
/-- keys have come at most once each: there are at most four -/
def ksok (ks : List Nat) : Prop := ks.Nodup ∧ ∀ k ∈ ks, k < 4
theorem ks_len {ks : List Nat} (h : ksok ks) : ks.length ≤ 4 := by
  have := List.Nodup.length_le_of_subset (l₂ := List.range 4) h.1 (fun k hk => List.mem_range.mpr (h.2 k hk))
  simpa using this
theorem ksok_c {ks : List Nat} {k : Nat} (h : ksok ks) (hk : k < 4) (hn : ks.contains k = false) : ksok (k :: ks) := by
  refine ⟨List.nodup_cons.mpr ⟨fun hm => ?_, h.1⟩, fun j hj => ?_⟩
  · rw [List.contains_iff_mem.mpr hm] at hn
    cases hn
  · rcases List.mem_cons.mp hj with e | e
    · rw [e]; exact hk
    · exact h.2 j e
theorem vF_lt {ch : Nat → Nat} : ∀ (e p v : Nat), (∀ i, p ≤ i → i < p + e → isD (ch i) = true) → vF ch e p v < (v + 1) * 10 ^ e
  | 0, p, v, _ => by show v < _; rw [Nat.pow_zero, Nat.mul_one]; omega
  | e + 1, p, v, h => by
    have h0 := h p (Nat.le_refl _) (by omega)
    unfold isD at h0
    rw [Bool.and_eq_true, decide_eq_true_eq, decide_eq_true_eq] at h0
    have ih := vF_lt (ch := ch) e (p + 1) (v * 10 + (ch p - 48)) (fun i h1 h2 => h i (by omega) (by omega))
    show vF ch e (p + 1) (v * 10 + (ch p - 48)) < _
    refine Nat.lt_of_lt_of_le ih ?_
    rw [Nat.pow_succ, Nat.mul_comm (10 ^ e) 10, ← Nat.mul_assoc]
    exact Nat.mul_le_mul_right _ (by omega)
theorem vF_s (ch : Nat → Nat) : ∀ (e p v : Nat), vF ch (e + 1) p v = vF ch e p v * 10 + (ch (p + e) - 48)
  | 0, p, v => rfl
  | e + 1, p, v => by
    show vF ch (e + 1) (p + 1) (v * 10 + (ch p - 48)) = vF ch e (p + 1) (v * 10 + (ch p - 48)) * 10 + _
    rw [vF_s ch e (p + 1)]
    rw [show p + 1 + e = p + (e + 1) by omega]
theorem rnF_all {f : Nat → Bool} {ch : Nat → Nat} : ∀ (e p i : Nat), p ≤ i → i < rnF f ch e p → f (ch i) = true
  | 0, p, i, h1, h2 => by
    have : rnF f ch 0 p = p := rfl
    omega
  | e + 1, p, i, h1, h2 => by
    have h3 : rnF f ch (e + 1) p = if f (ch p) = true then rnF f ch e (p + 1) else p := rfl
    rw [h3] at h2
    by_cases hf : f (ch p) = true
    · rw [if_pos hf] at h2
      by_cases e1 : i = p
      · rw [e1]; exact hf
      · exact rnF_all e (p + 1) i (by omega) h2
    · rw [if_neg hf] at h2
      omega
theorem nv_lt {t : Tx} {p : Nat} (h2 : tk t p = 2) (h3 : te t p - sk t p ≤ 3) : nv t p < 1000 := by
  have he : te t p = rn isD t (sk t p) := by unfold te; rw [if_neg (by omega), if_pos h2]
  have := vF_lt (ch := t.2) (te t p - sk t p) (sk t p) 0 (fun i i1 i2 => by
    refine rnF_all (t.1 - sk t p) (sk t p) i i1 ?_
    have : i < te t p := by omega
    rw [he] at this
    exact this)
  have h4 : 10 ^ (te t p - sk t p) ≤ 1000 := Nat.pow_le_pow_right (n := 10) (by decide) h3
  unfold nv
  omega
