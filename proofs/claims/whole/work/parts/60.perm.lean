/-! ===== orders: pure ===== -/
/-- of several (sum, order) the first with the least sum -/
def fmin : List (Nat × List Nat) → Nat × List Nat
  | [] => (0, [])
  | [a] => a
  | a :: b :: r => if (fmin (b :: r)).1 < a.1 then fmin (b :: r) else a
theorem fmin_c (a b : Nat × List Nat) (r : List (Nat × List Nat)) : fmin (a :: b :: r) = if (fmin (b :: r)).1 < a.1 then fmin (b :: r) else a := rfl
theorem fmin_cons (a : Nat × List Nat) {r : List (Nat × List Nat)} (h : r ≠ []) : fmin (a :: r) = if (fmin r).1 < a.1 then fmin r else a := by
  cases r with
  | nil => exact absurd rfl h
  | cons b r => rfl
theorem fmin_app {A B : List (Nat × List Nat)} (hA : A ≠ []) (hB : B ≠ []) : fmin (A ++ B) = if (fmin B).1 < (fmin A).1 then fmin B else fmin A := by
  induction A with
  | nil => exact absurd rfl hA
  | cons a A ih =>
    by_cases hA2 : A = []
    · subst hA2
      exact fmin_cons a hB
    · have h2 : A ++ B ≠ [] := fun z => hA2 (List.append_eq_nil_iff.mp z).1
      rw [List.cons_append, fmin_cons a h2, ih hA2, fmin_cons a hA2]
      by_cases h3 : (fmin B).1 < (fmin A).1
      · rw [if_pos h3]
        by_cases h4 : (fmin A).1 < a.1
        · rw [if_pos h4, if_pos (by omega), if_pos h3]
        · rw [if_neg h4]
      · rw [if_neg h3]
        by_cases h4 : (fmin A).1 < a.1
        · rw [if_pos h4, if_neg h3]
        · rw [if_neg h4, if_neg (by omega)]
theorem fmin_map {c k : Nat} : ∀ {A : List (Nat × List Nat)}, A ≠ [] → fmin (A.map (fun q => (c + q.1, k :: q.2))) = (c + (fmin A).1, k :: (fmin A).2)
  | [], h => absurd rfl h
  | [a], _ => rfl
  | a :: b :: r, _ => by
    have ih := fmin_map (c := c) (k := k) (A := b :: r) (by simp)
    rw [List.map_cons, fmin_cons _ (by simp), ih, fmin_c]
    dsimp only
    by_cases h : (fmin (b :: r)).1 < a.1
    · rw [if_pos h, if_pos (by omega)]
    · rw [if_neg h, if_neg (by omega)]
theorem fmin_flat {f : Nat → List (Nat × List Nat)} : ∀ {l : List Nat}, (∀ k ∈ l, f k ≠ []) → fmin (l.flatMap f) = fmin (l.map (fun k => fmin (f k)))
  | [], _ => rfl
  | [k], _ => by simp [fmin]
  | k :: j :: l, h => by
    have ih := fmin_flat (f := f) (l := j :: l) (fun i hi => h i (List.mem_cons_of_mem _ hi))
    have h1 : (j :: l).flatMap f ≠ [] := by
      rw [List.flatMap_cons]
      exact fun z => h j (by simp) (List.append_eq_nil_iff.mp z).1
    have h2 : (j :: l).map (fun k => fmin (f k)) ≠ [] := by simp
    rw [List.flatMap_cons, fmin_app (h k (by simp)) h1, ih]
    exact (fmin_cons (fmin (f k)) h2).symm
/-- which are left -/
def rem (m P : Nat) : List Nat := (List.range m).filter (fun k => !P.testBit k)
def ins1 (P k : Nat) : Nat := P ||| 2 ^ k
/-- all orders of the e that are left, the first first -/
def prm (m : Nat) : Nat → Nat → List (List Nat)
  | 0, _ => [[]]
  | e + 1, P => (rem m P).flatMap (fun k => (prm m e (ins1 P k)).map (fun r => k :: r))
def sm (c : Nat → Nat) (P : Nat) : List Nat → Nat
  | [] => 0
  | k :: r => c (ins1 P k) + sm c (ins1 P k) r
def obst (m : Nat) (c : Nat → Nat) : Nat → Nat → Nat × List Nat
  | 0, _ => (0, [])
  | e + 1, P => fmin ((rem m P).map (fun k => (c (ins1 P k) + (obst m c e (ins1 P k)).1, k :: (obst m c e (ins1 P k)).2)))
theorem rem_len : ∀ m, m < 7 → ∀ P, P < 2 ^ m → ∀ k ∈ rem m P, k < m ∧ ins1 P k < 2 ^ m ∧ (rem m (ins1 P k)).length + 1 = (rem m P).length := by decide +kernel
theorem prm_ne {m : Nat} (hm : m < 7) : ∀ (e P : Nat), P < 2 ^ m → (rem m P).length = e → prm m e P ≠ []
  | 0, _, _, _ => by simp [prm]
  | e + 1, P, hP, he => by
    show (rem m P).flatMap _ ≠ []
    cases hr : rem m P with
    | nil => rw [hr] at he; simp at he
    | cons k l =>
      have h1 := rem_len m hm P hP k (by rw [hr]; simp)
      have ih := prm_ne hm e (ins1 P k) h1.2.1 (by omega)
      rw [List.flatMap_cons]
      intro z
      have z1 := (List.append_eq_nil_iff.mp z).1
      exact ih (List.map_eq_nil_iff.mp z1)
/-- the first of the best among all orders is what the tables find -/
theorem prm_obst {m : Nat} {c : Nat → Nat} (hm : m < 7) : ∀ (e P : Nat), P < 2 ^ m → (rem m P).length = e → fmin ((prm m e P).map (fun r => (sm c P r, r))) = obst m c e P
  | 0, _, _, _ => rfl
  | e + 1, P, hP, he => by
    show fmin (((rem m P).flatMap _).map _) = fmin ((rem m P).map _)
    rw [List.map_flatMap, fmin_flat]
    · congr 1
      apply List.map_congr_left
      intro k hk
      have h1 := rem_len m hm P hP k hk
      have ih := prm_obst (c := c) hm e (ins1 P k) h1.2.1 (by omega)
      rw [← ih, List.map_map]
      have h2 : (prm m e (ins1 P k)).map (fun r => (sm c (ins1 P k) r, r)) ≠ [] := fun z => prm_ne hm e (ins1 P k) h1.2.1 (by omega) (List.map_eq_nil_iff.mp z)
      rw [← fmin_map h2, List.map_map]
      rfl
    · intro k hk z
      have h1 := rem_len m hm P hP k hk
      exact prm_ne hm e (ins1 P k) h1.2.1 (by omega) (List.map_eq_nil_iff.mp (List.map_eq_nil_iff.mp z))
/-! ===== the next order ===== -/
/-- the last place that rises: places i, i - 1 .. (n: how many are left to look at, place n - 1 first) -/
def nxI (p : Nat → Nat) : Nat → Option Nat
  | 0 => none
  | i + 1 => if p i ≤ p (i + 1) then some i else nxI p i
def nxJ (p : Nat → Nat) (v : Nat) : Nat → Nat
  | 0 => 0
  | j + 1 => if v ≤ p (j + 1) then j + 1 else nxJ p v j
def swp (p : Nat → Nat) (i j : Nat) : Nat → Nat := updN (updN p i (p j)) j (p i)
def rev (p : Nat → Nat) (a : Nat) : Nat → Nat → Nat → Nat
  | 0, _ => p
  | f + 1, b => if b ≤ a then p else rev (swp p a b) (a + 1) f (b - 1)
def onxt (m : Nat) (p : Nat → Nat) : Option (Nat → Nat) := match nxI p (m - 1) with
  | none => none
  | some i => some (rev (swp p i (nxJ p (p i) (m - 1))) (i + 1) 10 (m - 1))
def toL (m : Nat) (p : Nat → Nat) : List Nat := (List.range m).map p
def chk (m : Nat) : List (List Nat) → Bool
  | [] => true
  | [a] => (onxt m (fun i => a.getD i 0)).isNone
  | a :: b :: r => (match onxt m (fun i => a.getD i 0) with | none => false | some q => toL m q == b) && chk m (b :: r)
theorem chk_all : ∀ m, m < 7 → chk m (prm m m 0) = true := by decide +kernel
