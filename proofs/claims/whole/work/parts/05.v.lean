/-! ===== THE PURE STATE: numbers by cell and place; the world of cells that it stands for ===== -/
abbrev Sg : Type := Nat → Nat → Int32
def up2 (σ : Sg) (o j : Nat) (v : Int32) : Sg := fun o' => if o' = o then upd (σ o') j v else σ o'
theorem up2_at (σ : Sg) (o j : Nat) (v : Int32) : up2 σ o j v o = upd (σ o) j v := by simp [up2]
theorem up2_ne {σ : Sg} {o j : Nat} {v : Int32} {o' : Nat} (h : o' ≠ o) : up2 σ o j v o' = σ o' := by simp [up2, h]
def cp2 (σ : Sg) (a b sp dp n : Nat) : Sg := fun o' => if o' = b then va_cpy (σ a) (σ b) sp dp n else σ o'
/-- the surroundings that never change: tables' numbers, addresses, array classes, the cells that may change, string constants -/
abbrev zG : Type := va_G × (Nat → Nat) × (Nat → ClassId) × (Nat → Prop) × (Nat → Nat) × (Nat → Nat)
abbrev zad (G : zG) : Nat → Nat := G.2.1
abbrev zA (G : zG) : Nat → Prop := G.2.2.2.1
def zfs (G : zG) (σ : Sg) (o ci : Nat) : List Value := (zRf.getD ci []).mapIdx (fun j b => if b = true then .ref (zad G (rf o j)) else .int (σ o j))
def zc (G : zG) (σ : Sg) (o : Nat) (t : Nat × Nat) : va_E := match t.1 with
  | 0 => .inl (G.2.2.1 0, t.2, .inl (σ o))
  | 1 => .inl (G.2.2.1 1, t.2, .inl (σ o))
  | 2 => .inl (G.2.2.1 2, t.2, .inl (σ o))
  | 3 => .inl (G.2.2.1 3, t.2, .inr (.inr (.inr (.inr (fun j => some (zad G (rf o j)))))))
  | c => .inr (c - 10, zfs G σ o (c - 10))
def wd (G : zG) (σ : Sg) : va_W := zT.mapIdx (fun o t => (zad G o, zc G σ o t))
def zty (G : zG) : List (ClassId × FieldType) := [(G.2.2.1 0, .int), (G.2.2.1 1, .byte), (G.2.2.1 2, .boolean), (G.2.2.1 3, .object "WaterTown$Law")]
theorem wd_at {G : zG} {σ : Sg} {o : Nat} {t : Nat × Nat} (h : zT[o]? = some t) : (wd G σ)[o]? = some (zad G o, zc G σ o t) := by
  simp only [wd, List.getElem?_mapIdx, h, Option.map_some]
theorem zc_congr {G : zG} {σ σ' : Sg} {o : Nat} {t : Nat × Nat} (h : σ o = σ' o) : zc G σ o t = zc G σ' o t := by
  unfold zc zfs
  rw [h]
theorem wd_set {G : zG} {σ σ' : Sg} {o : Nat} {t : Nat × Nat} (h : zT[o]? = some t) (hne : ∀ o', o' ≠ o → σ' o' = σ o') : (wd G σ).set o (zad G o, zc G σ' o t) = wd G σ' := by
  apply List.ext_getElem?
  intro i
  by_cases hi : i = o
  · subst hi
    rw [wd_at h]
    have hl : i < (wd G σ).length := by
      have h2 := wd_at (G := G) (σ := σ) h
      exact (List.getElem?_eq_some_iff.mp h2).1
    rw [List.getElem?_set]
    simp [hl]
  · rw [List.getElem?_set_ne (fun e => hi e.symm)]
    simp only [wd, List.getElem?_mapIdx]
    cases zT[i]? with
    | none => rfl
    | some t' => simp only [Option.map_some]; rw [zc_congr (hne i hi)]
theorem zfs_at {G : zG} {σ : Sg} {o ci j : Nat} {b : Bool} (h : (zRf.getD ci [])[j]? = some b) : (zfs G σ o ci)[j]? = some (if b = true then .ref (zad G (rf o j)) else .int (σ o j)) := by
  simp only [zfs, List.getElem?_mapIdx, h, Option.map_some]
theorem zfs_len {G : zG} {σ : Sg} {o ci : Nat} : (zfs G σ o ci).length = (zRf.getD ci []).length := by simp [zfs]
theorem zfs_set {G : zG} {σ : Sg} {o ci j : Nat} {v : Int32} (h : (zRf.getD ci [])[j]? = some false) : (zfs G σ o ci).set j (.int v) = zfs G (up2 σ o j v) o ci := by
  apply List.ext_getElem?
  intro i
  have hl : j < (zRf.getD ci []).length := (List.getElem?_eq_some_iff.mp h).1
  by_cases hi : i = j
  · subst hi
    rw [zfs_at h, List.getElem?_set, if_pos rfl, if_pos (by rw [zfs_len]; exact hl)]
    simp [up2_at, upd]
  · rw [List.getElem?_set_ne (fun e => hi e.symm)]
    simp only [zfs, List.getElem?_mapIdx, up2_at]
    cases (zRf.getD ci [])[i]? with
    | none => rfl
    | some b => simp [upd, hi]
theorem wd_D {G : zG} {σ σ' : Sg} {A : Nat → Prop} (h : va_D A (wd G σ)) : va_D A (wd G σ') := by
  have key : ∀ (k : Nat) (q : Nat × va_E), (wd G σ')[k]? = some q → ∃ q' : Nat × va_E, (wd G σ)[k]? = some q' ∧ q'.1 = q.1 := by
    intro k q hq
    simp only [wd, List.getElem?_mapIdx] at hq ⊢
    cases ht : zT[k]? with
    | none => rw [ht] at hq; cases hq
    | some t => rw [ht] at hq; cases hq; exact ⟨_, rfl, rfl⟩
  refine ⟨fun i j p q hp hq e => ?_, fun k q hq => ?_⟩
  · obtain ⟨p', hp', ep⟩ := key i p hp
    obtain ⟨q', hq', eq⟩ := key j q hq
    exact h.1 i j p' q' hp' hq' (by rw [ep, eq, e])
  · obtain ⟨q', hq', eq⟩ := key k q hq
    rw [← eq]
    exact h.2 k q' hq'
/-! ===== words ===== -/
def zW : List Cond := lw_tbl.filter goodWord
theorem zin {w : Cond} (i : Nat) (h : lw_tbl[i]? = some w) (g : goodWord w = true) : w ∈ zW := List.mem_filter.mpr ⟨List.mem_of_getElem? h, g⟩
theorem zW_good : GoodIn zW zW := fun w h => ⟨h, good_of_word (List.mem_filter.mp h).2⟩
theorem zW_cons {w : Cond} (h : w ∈ zW) : GoodIn zW (w :: zW) := fun v hv => (List.mem_cons.mp hv).elim (fun e => e ▸ zW_good w h) (zW_good v)
/-! ===== string constants and other things that lie outside the world ===== -/
def nJS : Nat := 10
def zSt : List (Nat × String) := [(43, "first"), (49, "hours"), (51, "rate"), (53, "meter"), (55, "strike"), (89, "always"), (91, "turn"), (93, "small"), (95, "far"), (107, "to")]
def lenJS : List Nat := [5, 5, 4, 5, 6, 6, 4, 5, 3, 2]
def bytJS : List (List Int32) := [[102, 105, 114, 115, 116], [104, 111, 117, 114, 115], [114, 97, 116, 101], [109, 101, 116, 101, 114], [115, 116, 114, 105, 107, 101], [97, 108, 119, 97, 121, 115], [116, 117, 114, 110], [115, 109, 97, 108, 108], [102, 97, 114], [116, 111]]
def zNest : Cond := .methodLinkNest "WaterTown$Reader" 125 ⟨"WaterTown", "isOutside", "(III)Z"⟩ "WaterTown"
def zS (G : zG) (U : State) : Prop := vk_S nJS lenJS bytJS G.2.2.2.2.1 G.2.2.2.2.2 (zA G) U U.heap ∧ (∀ (i : Nat) (q : Nat × String), zSt[i]? = some q → vk_R "WaterTown$Reader" q.1 q.2 (G.2.2.2.2.1 i) U) ∧ va_Z "java/lang/String" "COMPACT_STRINGS" "Z" (.int 1) (zA G) U U.heap ∧ va_Zq "jdk/internal/util/Preconditions" "SIOOBE_FORMATTER" "Ljava/util/function/BiFunction;" (zA G) U U.heap ∧ va_Nw zNest U
def zI (G : zG) (σ : Sg) (U : State) : Prop := va_P G.1 vwCl (wd G σ) U.heap ∧ va_K G.1 vwCl (zty G) U ∧ va_D (zA G) (wd G σ) ∧ zS G U
/-! ===== the judgement V: the machine, at pc with locals lv and stack st over the state σ, comes to its goal ===== -/
abbrev zX : Type := Program × Launch × Env × Room × State × MethodId × Array Value × List Frame × Method × Code × Nat × Nat × (State → Prop) × Nat
def V (G : zG) (x : zX) (σ : Sg) (lv : List (Nat × Value)) (pc : Nat) (st : List Value) : Prop := match x with
  | (p, l, e, R, s, m, args, below, meth, c, cells, slots, Q, nL) => ∀ (H : Heap) (locs : List Loc) (ls : Array Slot), va_P G.1 vwCl (wd G σ) H → va_S (zA G) s.heap H locs → lv_has ls nL lv → W p l e R s m args below meth c H locs cells slots Q (F0 m pc ls st)
def zO (G : zG) (x : zX) (cc : ByteArray) (own : String) (fr lo mL : Nat) : Prop := match x with
  | (p, l, e, R, s, m, args, below, meth, c, cells, slots, Q, nL) => p.tables.exec = Jvm.exec ∧ c.code = cc ∧ (c.maxLocals = nL ∧ nL = mL) ∧ s.vm.findClass own = some m.cls ∧ (∀ w ∈ zW, w.before args s = true) ∧ va_K G.1 vwCl (zty G) s ∧ (∀ σ, va_D (zA G) (wd G σ)) ∧ zS G s ∧ fr ≤ R.frames ∧ lo ≤ R.locals ∧ cells ≤ R.cells ∧ slots ≤ R.slots
def zQ (G : zG) (r : Option Value) (σ' : Sg) : Array Value → State → Outcome → State → Prop := fun _ st oc t => oc = .returned r ∧ va_P G.1 vwCl (wd G σ') t.heap ∧ va_F (zA G) st t
def zE (G : zG) (x : zX) (ret : Option FieldType) (r : Option Value) (σ' : Sg) : Prop := match x with
  | (p, l, e, R, s, m, args, below, meth, c, cells, slots, Q, nL) => Q = MQ below (zQ G r σ') args s cells slots (zA G) ∧ meth.sig.returnType = ret ∧ meth.locks = false
def zRm (d : Nat) : Room := { frames := d, cells := 0, slots := 0, locals := 40 * d }
/-- a method's contract: at depth d, from σ it answers r and leaves σ' -/
def zM (l : Launch) (G : zG) (d : Nat) (y : MethodName) (w : Cond) (args : List Value) (σ : Sg) (r : Option Value) (σ' : Sg) : Prop := Met l y (w :: zW) (zRm d) (va_Pc args (zI G σ)) (zQ G r σ') 0 0 (zA G)
/-! naming -/
def lt {α : Sort _} {β : Sort _} (a : α) (f : α → β) : β := f a
theorem lt_eq {α : Sort _} {β : Sort _} (a : α) (f : α → β) : lt a f = f a := rfl
def ib (i : Int32) (n : Nat) : Bool := decide (¬ i < 0) && decide (i.toNatClampNeg < n)
def ix (i : Int32) : Nat := i.toNatClampNeg
theorem ib_in {i : Int32} {n : Nat} (h : ib i n = true) : vp_in i n := by
  unfold ib at h
  simp only [Bool.and_eq_true, decide_eq_true_eq] at h
  intro q
  rcases q with q | q
  · exact h.1 q
  · omega
theorem zite {ρ : Type} {c : Prop} [Decidable c] {A : Option ρ} {X : ρ} (h : (if c then A else none) = some X) : c ∧ A = some X := by
  by_cases hc : c
  · rw [if_pos hc] at h; exact ⟨hc, h⟩
  · rw [if_neg hc] at h; cases h
theorem zbind {ρ τ : Type} {g : Option τ} {F : τ → Option ρ} {X : ρ} (h : Option.bind g F = some X) : ∃ r, g = some r ∧ F r = some X := Option.bind_eq_some_iff.mp h
/-- a place of an array: none outside -/
def ck {ρ : Type} (i : Int32) (n : Nat) (A : Option ρ) : Option ρ := if ib i n = true then A else none
theorem ck_of {ρ : Type} {i : Int32} {n : Nat} {A : Option ρ} {X : ρ} (h : ck i n A = some X) : ib i n = true ∧ A = some X := zite h
/-- behind a call -/
def bd {ρ : Type} (g : Option (Int32 × Sg)) (F : Int32 → Sg → Option ρ) : Option ρ := match g with
  | none => none
  | some p => F p.1 p.2
def bdv {ρ : Type} (g : Option Sg) (F : Sg → Option ρ) : Option ρ := match g with
  | none => none
  | some τ => F τ
def bdr {ρ : Type} (g : Option (Nat × Sg)) (F : Nat → Sg → Option ρ) : Option ρ := match g with
  | none => none
  | some p => F p.1 p.2
theorem bd_of {ρ : Type} {g : Option (Int32 × Sg)} {F : Int32 → Sg → Option ρ} {X : ρ} (h : bd g F = some X) : ∃ r τ, g = some (r, τ) ∧ F r τ = some X := by
  cases g with
  | none => cases h
  | some p => exact ⟨p.1, p.2, rfl, h⟩
theorem bdv_of {ρ : Type} {g : Option Sg} {F : Sg → Option ρ} {X : ρ} (h : bdv g F = some X) : ∃ τ, g = some τ ∧ F τ = some X := by
  cases g with
  | none => cases h
  | some p => exact ⟨p, rfl, h⟩
theorem bdr_of {ρ : Type} {g : Option (Nat × Sg)} {F : Nat → Sg → Option ρ} {X : ρ} (h : bdr g F = some X) : ∃ r τ, g = some (r, τ) ∧ F r τ = some X := by
  cases g with
  | none => cases h
  | some p => exact ⟨p.1, p.2, rfl, h⟩
theorem bd_some {ρ : Type} (r : Int32) (τ : Sg) (F : Int32 → Sg → Option ρ) : bd (some (r, τ)) F = F r τ := rfl
theorem bdv_some {ρ : Type} (τ : Sg) (F : Sg → Option ρ) : bdv (some τ) F = F τ := rfl
theorem bdr_some {ρ : Type} (r : Nat) (τ : Sg) (F : Nat → Sg → Option ρ) : bdr (some (r, τ)) F = F r τ := rfl
def irm (x y : Int32) : Int32 := x - x / y * y
def ush (x y : Int32) : Int32 := (x.toUInt32 >>> (y.toUInt32 &&& Int32.toUInt32 31)).toInt32
def sl (x y : Int32) : Int32 := x <<< (y &&& 31)
def sr (x y : Int32) : Int32 := x >>> (y &&& 31)
def lsl (x : Int64) (y : Int32) : Int64 := x <<< (y.toInt64 &&& 63)
def lsr (x : Int64) (y : Int32) : Int64 := x >>> (y.toInt64 &&& 63)
def lus (x : Int64) (y : Int32) : Int64 := (x.toUInt64 >>> (y.toInt64.toUInt64 &&& Int64.toUInt64 63)).toInt64
def imin (x y : Int32) : Int32 := if y < x then y else x
def imax (x y : Int32) : Int32 := if x < y then y else x
/-- a truth value, 0 or 1: what a method that answers a truth value may give back -/
def bck {ρ : Type} (v : Int32) (A : Option ρ) : Option ρ := if v = 0 ∨ v = 1 then A else none
theorem bck_of {ρ : Type} {v : Int32} {A : Option ρ} {X : ρ} (h : bck v A = some X) : (v = 0 ∨ v = 1) ∧ A = some X := zite h
def dvc {ρ : Type} (v : Int32) (A : Option ρ) : Option ρ := if v = 0 then none else A
theorem dvc_of {ρ : Type} {v : Int32} {A : Option ρ} {X : ρ} (h : dvc v A = some X) : ¬ v = 0 ∧ A = some X := by
  unfold dvc at h
  by_cases hv : v = 0
  · rw [if_pos hv] at h; cases h
  · rw [if_neg hv] at h; exact ⟨hv, h⟩
