/-! ===== constructors: worlds that grow ===== -/
def ut (cA : Nat → ClassId) : List (ClassId × FieldType) := [(cA 0, .int), (cA 1, .byte), (cA 2, .boolean), (cA 3, .object "WaterTown$Law")]
/-- links to the constructors of nest mates -/
def zNl : List (String × Nat × MethodName) := [("WaterTown", 9, ⟨"WaterTown$Pipes", "<init>", "()V"⟩), ("WaterTown", 18, ⟨"WaterTown$Streets", "<init>", "()V"⟩), ("WaterTown", 25, ⟨"WaterTown$Stand", "<init>", "()V"⟩), ("WaterTown", 32, ⟨"WaterTown$Reader", "<init>", "()V"⟩), ("WaterTown$Rules", 21, ⟨"WaterTown$Law", "<init>", "()V"⟩), ("WaterTown", 46, ⟨"WaterTown$Law", "<init>", "()V"⟩), ("WaterTown$Supply", 11, ⟨"WaterTown$Mains", "<init>", "()V"⟩), ("WaterTown$Trial", 11, ⟨"WaterTown$Stand", "<init>", "()V"⟩), ("WaterTown$Trial", 23, ⟨"WaterTown$Law", "<init>", "()V"⟩), ("WaterTown", 71, ⟨"WaterTown$Gauges", "<init>", "()V"⟩), ("WaterTown", 78, ⟨"WaterTown$Beds", "<init>", "()V"⟩)]
def uZ (U : State) : Prop := va_AO "WaterTown$Law" U ∧ ∀ q ∈ zNl, va_Nw (.methodLinkNest q.1 q.2.1 q.2.2 "WaterTown") U
theorem uZ_same {u U : State} (h : u.vm = U.vm) (z : uZ u) : uZ U := ⟨va_AO.moved (by rw [h]; exact Vm.Alike.refl _) z.1, fun q hq => va_Nw.same rfl h (z.2 q hq)⟩
theorem uZ_warm {s U : State} (h : s.WarmedH U.vm) (z : uZ s) : uZ U := ⟨va_AO.moved h.alike z.1, fun q hq => va_Nw.warmM h (z.2 q hq)⟩
/-- the machine, at pc, k cells and n slots made so far, over the world ws, comes to its goal -/
def UW (D : va_G) (A : Nat → Prop) (x : zX) (k n : Nat) (ws : va_W) (lv : List (Nat × Value)) (pc : Nat) (st : List Value) : Prop := match x with
  | (p, l, e, R, s, m, args, below, meth, c, _, _, Q, nL) => ∀ (H : Heap) (locs : List Loc) (ls : Array Slot), va_P D vwCl ws H → va_D A ws → va_S A s.heap H locs → lv_has ls nL lv → W p l e R s m args below meth c H locs k n Q (F0 m pc ls st)
def uO (D : va_G) (cA : Nat → ClassId) (A : Nat → Prop) (x : zX) (cc : ByteArray) (own : String) (fr lo kc ks mL : Nat) : Prop := match x with
  | (p, _, _, R, s, m, args, _, _, c, _, _, _, nL) => p.tables.exec = Jvm.exec ∧ c.code = cc ∧ (c.maxLocals = nL ∧ nL = mL) ∧ s.vm.findClass own = some m.cls ∧ (∀ w ∈ zW, w.before args s = true) ∧ va_K D vwCl (ut cA) s ∧ uZ s ∧ (∀ q, s.heap.size ≤ q → A q) ∧ fr ≤ R.frames ∧ lo ≤ R.locals ∧ kc ≤ R.cells ∧ ks ≤ R.slots
def uI (x : zX) : Prop := match x with
  | (_, _, _, _, _, _, _, _, meth, _, _, _, _, _) => meth.name = "<init>"
def uQ (D : va_G) (w1 : (Nat → Nat) → va_W) (A : Nat → Prop) : Array Value → State → Outcome → State → Prop := va_Qv (fun _ : Nat → Nat => True) (fun q t => va_P D vwCl (w1 q) t.heap ∧ va_D A (w1 q)) A
def uE (D : va_G) (A : Nat → Prop) (x : zX) (w1 : (Nat → Nat) → va_W) (mc ms : Nat) : Prop := match x with
  | (_, _, _, _, s, _, args, below, meth, _, _, _, Q, _) => Q = MQ below (uQ D w1 A) args s mc ms A ∧ meth.sig.returnType = none ∧ meth.locks = false
def uPc (D : va_G) (cA : Nat → ClassId) (w0 : va_W) (sz : Nat) (U : State) : Prop := U.heap.size = sz ∧ va_P D vwCl w0 U.heap ∧ va_K D vwCl (ut cA) U ∧ uZ U ∧ va_D (fun _ => True) w0
/-- a constructor's contract: from the world w0 it comes to w1 of new addresses -/
def uN (l : Launch) (D : va_G) (cA : Nat → ClassId) (fr lo mc ms : Nat) (y : MethodName) (w : Cond) (av : List Value) (w0 : va_W) (w1 : (Nat → Nat) → va_W) : Prop := ∀ sz : Nat, Met l y (w :: zW) { frames := fr, cells := mc, slots := ms, locals := lo } (va_Pc av (uPc D cA w0 sz)) (uQ D w1 (va_A w0 sz)) mc ms (va_A w0 sz)
def uF (own : String) (index ci j : Nat) (fin : Bool) (ty : FieldType) : Prop := ∃ (C : String) (T : u_T) (N : Nat) (ty0 : Nat → FieldType), vwCl[ci]? = some (C, T, N) ∧ (∀ w ∈ u_ws C T N, w ∈ zW) ∧ j < N ∧ Cond.fieldLink own index (T j).1 (T j).2.1 (T j).2.2.1 ∈ zW ∧ (T j).2.2.2 = fin ∧ parseFieldDescriptor (T j).2.2.1 = some ty ∧ (∀ k, k < N → parseFieldDescriptor (T k).2.2.1 = some (ty0 k)) ∧ (∀ a, a < N → ∀ b, b < N → a ≠ b → (T a).2.1 ≠ (T b).2.1) ∧ (T j).1 = own
def uC (own : String) (index ci N : Nat) (fs : List Value) : Prop := ∃ (C : String) (T : u_T) (ty : Nat → FieldType), vwCl[ci]? = some (C, T, N) ∧ (∀ w ∈ u_ws C T N, w ∈ zW) ∧ (∀ k, k < N → parseFieldDescriptor (T k).2.2.1 = some (ty k)) ∧ Cond.classLink own index C ∈ zW ∧ Cond.instantiable C N ∈ zW ∧ Cond.initialized C ∈ zW ∧ ∀ j, j < N → defaultValue (ty j) = vp_V fs j
theorem dfl {N : Nat} {ty : Nat → FieldType} {fs : List Value} (h : fs = (List.range N).map (fun j => defaultValue (ty j))) : ∀ j, j < N → defaultValue (ty j) = vp_V fs j := by
  intro j hj
  subst h
  show _ = List.getD _ _ _
  rw [List.getD_eq_getElem?_getD, List.getElem?_map, List.getElem?_range hj]
  rfl
theorem uP_blind (D : va_G) (cA : Nat → ClassId) (w0 : va_W) (sz : Nat) (av : List Value) : FrameBlind (va_Pc av (uPc D cA w0 sz)) := by
  intro a U g mk h
  obtain ⟨h0, h1, h2, h3, h4, h5⟩ := h
  exact ⟨h0, h1, h2, va_K.moved (u := U) (U := U.calling g mk a) (Vm.Alike.refl U.vm) h3, uZ_same (u := U) (U := U.calling g mk a) rfl h4, h5⟩
theorem nd_of : ∀ l : List Nat, l.Nodup → va_nd l = true
  | [], _ => rfl
  | a :: l, h => by
    rw [List.nodup_cons] at h
    show (decide (a ∉ l) && va_nd l) = true
    rw [decide_eq_true h.1, nd_of l h.2]
    rfl
theorem nd_range (n : Nat) : va_nd (List.range n) = true := nd_of _ List.nodup_range
section UR
variable {D : va_G} {cA : Nat → ClassId} {A : Nat → Prop} {x : zX} {cc : ByteArray} {own : String} {fr lo kc ks mL : Nat} {k n : Nat} {ws : va_W} {lv : List (Nat × Value)} {st : List Value}
theorem U_aload (pc j : Nat) {f : Fin 4} {i v : Nat} (O : uO D cA A x cc own fr lo kc ks mL) (hd : decode cc pc = .ok (.aload_n f, 1)) (hi : (f : Nat) = i) (hk : lv[j]? = some (i, .ref v)) (K : UW D A x k n ws lv (pc + 1) (.ref v :: st)) : UW D A x k n ws lv pc st := by
  obtain ⟨p, l, e, R, s, m, args, below, meth, c, cells, slots, Q, nL⟩ := x
  obtain ⟨hx, hb, ⟨hml, rfl⟩, hown, hts, hK, hao, hA, hfr, hlo, hcl, hsl⟩ := O
  intro H locs ls hP hD hS hl
  exact lv_aload_n hx hb hd hi (lv_at hl j hk) (K H locs ls hP hD hS hl)
theorem U_iload (pc j : Nat) {f : Fin 4} {i : Nat} {v : Int32} (O : uO D cA A x cc own fr lo kc ks mL) (hd : decode cc pc = .ok (.iload_n f, 1)) (hi : (f : Nat) = i) (hk : lv[j]? = some (i, .int v)) (K : UW D A x k n ws lv (pc + 1) (.int v :: st)) : UW D A x k n ws lv pc st := by
  obtain ⟨p, l, e, R, s, m, args, below, meth, c, cells, slots, Q, nL⟩ := x
  obtain ⟨hx, hb, ⟨hml, rfl⟩, hown, hts, hK, hao, hA, hfr, hlo, hcl, hsl⟩ := O
  intro H locs ls hP hD hS hl
  exact lv_iload_n hx hb hd hi (lv_at hl j hk) (K H locs ls hP hD hS hl)
theorem U_iconst (pc : Nat) {z : Int} {v : Int32} (O : uO D cA A x cc own fr lo kc ks mL) (hd : decode cc pc = .ok (.iconst z, 1)) (hv : Int32.ofInt z = v) (K : UW D A x k n ws lv (pc + 1) (.int v :: st)) : UW D A x k n ws lv pc st := by
  obtain ⟨p, l, e, R, s, m, args, below, meth, c, cells, slots, Q, nL⟩ := x
  obtain ⟨hx, hb, ⟨hml, rfl⟩, hown, hts, hK, hao, hA, hfr, hlo, hcl, hsl⟩ := O
  intro H locs ls hP hD hS hl
  exact lv_iconst hx hb hd hv (K H locs ls hP hD hS hl)
theorem U_bipush (pc : Nat) {z : Int} {v : Int32} (O : uO D cA A x cc own fr lo kc ks mL) (hd : decode cc pc = .ok (.bipush z, 2)) (hv : (Int8.ofInt z).toInt32 = v) (K : UW D A x k n ws lv (pc + 2) (.int v :: st)) : UW D A x k n ws lv pc st := by
  obtain ⟨p, l, e, R, s, m, args, below, meth, c, cells, slots, Q, nL⟩ := x
  obtain ⟨hx, hb, ⟨hml, rfl⟩, hown, hts, hK, hao, hA, hfr, hlo, hcl, hsl⟩ := O
  intro H locs ls hP hD hS hl
  exact lv_bipush hx hb hd hv (K H locs ls hP hD hS hl)
theorem U_sipush (pc : Nat) {z : Int} {v : Int32} (O : uO D cA A x cc own fr lo kc ks mL) (hd : decode cc pc = .ok (.sipush z, 3)) (hv : (Int16.ofInt z).toInt32 = v) (K : UW D A x k n ws lv (pc + 3) (.int v :: st)) : UW D A x k n ws lv pc st := by
  obtain ⟨p, l, e, R, s, m, args, below, meth, c, cells, slots, Q, nL⟩ := x
  obtain ⟨hx, hb, ⟨hml, rfl⟩, hown, hts, hK, hao, hA, hfr, hlo, hcl, hsl⟩ := O
  intro H locs ls hP hD hS hl
  exact lv_sipush hx hb hd hv (K H locs ls hP hD hS hl)
theorem U_ldc (pc : Nat) {i : Nat} {v : Int32} (O : uO D cA A x cc own fr lo kc ks mL) (hd : decode cc pc = .ok (.ldc i, 2)) (hw : Cond.constant own i v ∈ zW) (K : UW D A x k n ws lv (pc + 2) (.int v :: st)) : UW D A x k n ws lv pc st := by
  obtain ⟨p, l, e, R, s, m, args, below, meth, c, cells, slots, Q, nL⟩ := x
  obtain ⟨hx, hb, ⟨hml, rfl⟩, hown, hts, hK, hao, hA, hfr, hlo, hcl, hsl⟩ := O
  intro H locs ls hP hD hS hl
  exact lv_ldc hx hb hown (hts _ hw) hd (K H locs ls hP hD hS hl)
theorem U_dup (pc : Nat) {a : Value} (O : uO D cA A x cc own fr lo kc ks mL) (hd : decode cc pc = .ok (.dup, 1)) (hc : a.category = 1) (K : UW D A x k n ws lv (pc + 1) (a :: a :: st)) : UW D A x k n ws lv pc (a :: st) := by
  obtain ⟨p, l, e, R, s, m, args, below, meth, c, cells, slots, Q, nL⟩ := x
  obtain ⟨hx, hb, ⟨hml, rfl⟩, hown, hts, hK, hao, hA, hfr, hlo, hcl, hsl⟩ := O
  intro H locs ls hP hD hS hl
  exact lv_dup hx hb hd hc (K H locs ls hP hD hS hl)
theorem U_goto (pc tgt : Nat) {off : Int} (O : uO D cA A x cc own fr lo kc ks mL) (hd : decode cc pc = .ok (.goto off, 3)) (ht : (pc : Int) + off = (tgt : Int)) (K : UW D A x k n ws lv tgt st) : UW D A x k n ws lv pc st := by
  obtain ⟨p, l, e, R, s, m, args, below, meth, c, cells, slots, Q, nL⟩ := x
  obtain ⟨hx, hb, ⟨hml, rfl⟩, hown, hts, hK, hao, hA, hfr, hlo, hcl, hsl⟩ := O
  intro H locs ls hP hD hS hl
  exact lv_goto hx hb hd ht (K H locs ls hP hD hS hl)
theorem U_icmp_ge (pc tgt : Nat) {a b : Int32} {off : Int} (O : uO D cA A x cc own fr lo kc ks mL) (hd : decode cc pc = .ok (.if_icmp .ge off, 3)) (ht : (pc : Int) + off = (tgt : Int)) (k1 : b ≤ a → UW D A x k n ws lv tgt st) (k2 : ¬ (b ≤ a) → UW D A x k n ws lv (pc + 3) st) : UW D A x k n ws lv pc (.int b :: .int a :: st) := by
  obtain ⟨p, l, e, R, s, m, args, below, meth, c, cells, slots, Q, nL⟩ := x
  obtain ⟨hx, hb, ⟨hml, rfl⟩, hown, hts, hK, hao, hA, hfr, hlo, hcl, hsl⟩ := O
  intro H locs ls hP hD hS hl
  exact lv_icmp_ge hx hb hd ht (fun hc => k1 hc H locs ls hP hD hS hl) (fun hc => k2 hc H locs ls hP hD hS hl)
theorem U_istore (pc : Nat) (ps : List Nat) (lv' : List (Nat × Value)) {f : Fin 4} {i : Nat} {v : Int32} (O : uO D cA A x cc own fr lo kc ks mL) (hd : decode cc pc = .ok (.istore_n f, 1)) (hi : (f : Nat) = i) (hn : i < mL) (hp : lv_pick ((i, Value.int v) :: lv.filter (fun q => !(q.1 == i) && !(q.1 + 1 == i && q.2.category == 2))) ps = lv') (K : UW D A x k n ws lv' (pc + 1) st) : UW D A x k n ws lv pc (.int v :: st) := by
  obtain ⟨p, l, e, R, s, m, args, below, meth, c, cells, slots, Q, nL⟩ := x
  obtain ⟨hx, hb, ⟨hml, rfl⟩, hown, hts, hK, hao, hA, hfr, hlo, hcl, hsl⟩ := O
  intro H locs ls hP hD hS hl
  exact lv_istore_n hx hb hd hi hl hn rfl (fun ls hl => K H locs ls hP hD hS (lv_sub hl ps hp))
theorem U_astore (pc : Nat) (ps : List Nat) (lv' : List (Nat × Value)) {f : Fin 4} {i v : Nat} (O : uO D cA A x cc own fr lo kc ks mL) (hd : decode cc pc = .ok (.astore_n f, 1)) (hi : (f : Nat) = i) (hn : i < mL) (hp : lv_pick ((i, Value.ref v) :: lv.filter (fun q => !(q.1 == i) && !(q.1 + 1 == i && q.2.category == 2))) ps = lv') (K : UW D A x k n ws lv' (pc + 1) st) : UW D A x k n ws lv pc (.ref v :: st) := by
  obtain ⟨p, l, e, R, s, m, args, below, meth, c, cells, slots, Q, nL⟩ := x
  obtain ⟨hx, hb, ⟨hml, rfl⟩, hown, hts, hK, hao, hA, hfr, hlo, hcl, hsl⟩ := O
  intro H locs ls hP hD hS hl
  exact lv_astore_n hx hb hd hi hl hn rfl (fun ls hl => K H locs ls hP hD hS (lv_sub hl ps hp))
theorem U_iinc (pc j : Nat) (ps : List Nat) (lv' : List (Nat × Value)) {i : Nat} {z : Int} {u v : Int32} (O : uO D cA A x cc own fr lo kc ks mL) (hd : decode cc pc = .ok (.iinc i z, 3)) (hk : lv[j]? = some (i, .int u)) (hv : Int32.ofInt z = v) (hn : i < mL) (hp : lv_pick ((i, Value.int (u + v)) :: lv.filter (fun q => !(q.1 == i) && !(q.1 + 1 == i && q.2.category == 2))) ps = lv') (K : UW D A x k n ws lv' (pc + 3) st) : UW D A x k n ws lv pc st := by
  obtain ⟨p, l, e, R, s, m, args, below, meth, c, cells, slots, Q, nL⟩ := x
  obtain ⟨hx, hb, ⟨hml, rfl⟩, hown, hts, hK, hao, hA, hfr, hlo, hcl, hsl⟩ := O
  intro H locs ls hP hD hS hl
  exact lv_iinc hx hb hd hl hk (by rw [hv]) hn rfl (fun ls hl => K H locs ls hP hD hS (lv_sub hl ps hp))
theorem U_obj (pc : Nat) {idx a : Nat} (O : uO D cA A x cc own fr lo kc ks mL) (hlk : Cond.methodLink own idx Lib.objectInit ∈ zW) (hin : Cond.instanceMethod Lib.objectInit ∈ zW) (hcd : Cond.code Lib.objectInit ⟨#[0xb1]⟩ 1 none ∈ zW) (hf : 1 ≤ fr) (hlo' : 12 ≤ lo) (hd : decode cc pc = .ok (.invokespecial idx, 3)) (K : UW D A x k n ws lv (pc + 3) []) : UW D A x k n ws lv pc [.ref a] := by
  obtain ⟨p, l, e, R, s, m, args, below, meth, c, cells, slots, Q, nL⟩ := x
  obtain ⟨hx, hb, ⟨hml, rfl⟩, hown, hts, hK, hao, hA, hfr, hlo, hcl, hsl⟩ := O
  intro H locs ls hP hD hS hl
  exact W.objInit hx hb hown (hts _ hlk) (hts _ hin) (hts _ hcd) rfl (by rw [hml]; exact hl.1) rfl hd (Nat.le_trans hf hfr) (Nat.le_trans hlo' hlo) (K H locs ls hP hD hS hl)
theorem U_newa (pc : Nat) {t N : Nat} {v : Int32} {ty : FieldType} {atype : ArrayType} (O : uO D cA A x cc own fr lo kc ks mL) (hat : newarray.typeOf atype = ty) (harr : Cond.arrayClass ty ∈ zW) (ht : (ut cA)[t]? = some (cA t, ty)) (hra : ∀ (s : State) (c : ClassId), va_RA s c ty → s.vm.findClass ("[" ++ ty.toString) = some c) (ha : ∀ c : ClassId, vp_cell c (N, .inl (fun _ => 0)) = arrV c N (fun _ => defaultValue ty)) (hn : ¬ v < 0) (hN : v.toNatClampNeg = N) (hbytes : N * componentBytes ty ≤ 536870912) (hk : k + 1 ≤ kc) (hs : n + N ≤ ks) (hd : decode cc pc = .ok (.newarray atype, 2)) (K : ∀ q : Nat, UW D A x (k + 1) (n + N) (ws ++ [(q, .inl (cA t, N, .inl (fun _ => 0)))]) lv (pc + 2) (.ref q :: st)) : UW D A x k n ws lv pc (.int v :: st) := by
  obtain ⟨p, l, e, R, s, m, args, below, meth, c, cells, slots, Q, nL⟩ := x
  obtain ⟨hx, hb, ⟨hml, rfl⟩, hown, hts, hK, hao, hA, hfr, hlo, hcl, hsl⟩ := O
  intro H locs ls hP hD hS hl
  refine va_newa hx hb (by rw [hat]; exact hts _ harr) hat hK hP hD hS hA ha hn hN hbytes (Nat.le_trans hk hcl) (Nat.le_trans hs hsl) hd (fun q c1 H1 hK1 hP1 hD1 hS1 => ?_)
  have e1 := hra s _ (hK.2 t _ ht).2
  have e2 := hra s _ (hK1.2 (ut cA).length _ List.getElem?_concat_length).2
  rw [e1] at e2
  cases e2
  exact K q H1 locs ls hP1 hD1 hS1 hl
theorem U_newq (pc : Nat) {index N : Nat} {v : Int32} (O : uO D cA A x cc own fr lo kc ks mL) (hcl : Cond.classLink own index "WaterTown$Law" ∈ zW) (hn : ¬ v < 0) (hN : v.toNatClampNeg = N) (hbytes : N * 4 ≤ 536870912) (hk : k + 1 ≤ kc) (hs : n + N ≤ ks) (hd : decode cc pc = .ok (.anewarray index, 3)) (K : ∀ q : Nat, UW D A x (k + 1) (n + N) (ws ++ [(q, .inl (cA 3, N, .inr (.inr (.inr (.inr (fun _ => none))))))]) lv (pc + 3) (.ref q :: st)) : UW D A x k n ws lv pc (.int v :: st) := by
  obtain ⟨p, l, e, R, s, m, args, below, meth, c, cells, slots, Q, nL⟩ := x
  obtain ⟨hx, hb, ⟨hml, rfl⟩, hown, hts, hK, hao, hA, hfr, hlo, hcl', hsl⟩ := O
  intro H locs ls hP hD hS hl
  refine va_newq hx hb hown (hts _ hcl) hao.1 hK hP hD hS hA hn hN hbytes (Nat.le_trans hk hcl') (Nat.le_trans hs hsl) hd (fun q c1 H1 hK1 hP1 hD1 hS1 => ?_)
  obtain ⟨_, _, _, _, _, e1⟩ : va_RA s (cA 3) (.object "WaterTown$Law") := (hK.2 3 _ rfl).2
  obtain ⟨_, _, _, _, _, e2⟩ : va_RA s c1 (.object "WaterTown$Law") := (hK1.2 (ut cA).length _ List.getElem?_concat_length).2
  rw [e1] at e2
  cases e2
  exact K q H1 locs ls hP1 hD1 hS1 hl
theorem U_new (pc : Nat) {index ci N : Nat} {fs : List Value} (O : uO D cA A x cc own fr lo kc ks mL) (hc : uC own index ci N fs) (hk : k + 1 ≤ kc) (hs : n + N ≤ ks) (hd : decode cc pc = .ok (.new index, 3)) (K : ∀ q : Nat, UW D A x (k + 1) (n + N) (ws ++ [(q, .inr (ci, fs))]) lv (pc + 3) (.ref q :: st)) : UW D A x k n ws lv pc st := by
  obtain ⟨p, l, e, R, s, m, args, below, meth, c, cells, slots, Q, nL⟩ := x
  obtain ⟨hx, hb, ⟨hml, rfl⟩, hown, hts, hK, hao, hA, hfr, hlo, hcl, hsl⟩ := O
  intro H locs ls hP hD hS hl
  obtain ⟨C, T, ty, hv, hu, hty, h1, h2, h3, h4⟩ := hc
  exact va_new hx hb hts hu ty hty hown (hts _ h1) (hts _ h2) (hts _ h3) hK hP hD hS hA hv h4 (Nat.le_trans hk hcl) (Nat.le_trans hs hsl) hd (fun q H1 hP1 hD1 hS1 => K q H1 locs ls hP1 hD1 hS1 hl)
theorem U_putF (pc q0 : Nat) {a index ci j : Nat} {ty : FieldType} {v : Value} {fs : List Value} (O : uO D cA A x cc own fr lo kc ks mL) (I : uI x) (he : ws[q0]? = some (a, .inr (ci, fs))) (hf : uF own index ci j true ty) (hn : narrow ty v = v) (hfit : fits ty v = true) (hl' : j < fs.length) (hd : decode cc pc = .ok (.putfield index, 3)) (K : UW D A x k n (ws.set q0 (a, .inr (ci, fs.set j v))) lv (pc + 3) st) : UW D A x k n ws lv pc (v :: .ref a :: st) := by
  obtain ⟨p, l, e, R, s, m, args, below, meth, c, cells, slots, Q, nL⟩ := x
  obtain ⟨hx, hb, ⟨hml, rfl⟩, hown, hts, hK, hao, hA, hfr, hlo, hcl, hsl⟩ := O
  intro H locs ls hP hD hS hl
  obtain ⟨C, T, N, ty0, hv, hu, hj, hlk, hfin, hpa, hty, hnm, hdc⟩ := hf
  exact va_putF hx hb hts hu ty0 hty hnm hown hK hP hD hS q0 he hv j hj (hts _ hlk) (fun _ h => h) hfin I hdc hpa hn hfit hl' hd (fun H1 locs1 hP1 hD1 hS1 => K H1 locs1 ls hP1 hD1 hS1 hl)
theorem U_put (pc q0 : Nat) {a index ci j : Nat} {ty : FieldType} {v : Value} {fs : List Value} (O : uO D cA A x cc own fr lo kc ks mL) (he : ws[q0]? = some (a, .inr (ci, fs))) (hf : uF own index ci j false ty) (hn : narrow ty v = v) (hfit : fits ty v = true) (hl' : j < fs.length) (hd : decode cc pc = .ok (.putfield index, 3)) (K : UW D A x k n (ws.set q0 (a, .inr (ci, fs.set j v))) lv (pc + 3) st) : UW D A x k n ws lv pc (v :: .ref a :: st) := by
  obtain ⟨p, l, e, R, s, m, args, below, meth, c, cells, slots, Q, nL⟩ := x
  obtain ⟨hx, hb, ⟨hml, rfl⟩, hown, hts, hK, hao, hA, hfr, hlo, hcl, hsl⟩ := O
  intro H locs ls hP hD hS hl
  obtain ⟨C, T, N, ty0, hv, hu, hj, hlk, hfin, hpa, hty, hnm, hdc⟩ := hf
  exact va_put hx hb hts hu ty0 hty hnm hown hK hP hD hS q0 he hv j hj (hts _ hlk) (fun _ h => h) hfin hpa hn hfit hl' hd (fun H1 locs1 hP1 hD1 hS1 => K H1 locs1 ls hP1 hD1 hS1 hl)
theorem U_get (pc q0 : Nat) {a index ci j : Nat} {ty : FieldType} {fin : Bool} {v : Value} {fs : List Value} (O : uO D cA A x cc own fr lo kc ks mL) (he : ws[q0]? = some (a, .inr (ci, fs))) (hf : uF own index ci j fin ty) (hv : fs[j]? = some v) (hd : decode cc pc = .ok (.getfield index, 3)) (K : UW D A x k n ws lv (pc + 3) (v :: st)) : UW D A x k n ws lv pc (.ref a :: st) := by
  obtain ⟨p, l, e, R, s, m, args, below, meth, c, cells, slots, Q, nL⟩ := x
  obtain ⟨hx, hb, ⟨hml, rfl⟩, hown, hts, hK, hao, hA, hfr, hlo, hcl, hsl⟩ := O
  intro H locs ls hP hD hS hl
  obtain ⟨C, T, N, ty0, hv', hu, hj, hlk, hfin, hpa, hty, hnm, hdc⟩ := hf
  exact va_get hx hb hts hu hown hK hP q0 he hv' j hj (hts _ hlk) (fun _ h => h) hv hd (K H locs ls hP hD hS hl)
theorem U_iast (pc q0 : Nat) {a N : Nat} {f : Nat → Int32} {i v : Int32} (O : uO D cA A x cc own fr lo kc ks mL) (he : ws[q0]? = some (a, .inl (cA 0, N, .inl f))) (hin : vp_in i N) (hd : decode cc pc = .ok (.iastore, 1)) (K : UW D A x k n (ws.set q0 (a, .inl (cA 0, N, .inl (upd f i.toNatClampNeg v)))) lv (pc + 1) st) : UW D A x k n ws lv pc (.int v :: .int i :: .ref a :: st) := by
  obtain ⟨p, l, e, R, s, m, args, below, meth, c, cells, slots, Q, nL⟩ := x
  obtain ⟨hx, hb, ⟨hml, rfl⟩, hown, hts, hK, hao, hA, hfr, hlo, hcl, hsl⟩ := O
  intro H locs ls hP hD hS hl
  exact va_iast hx hb hK hP hD hS q0 0 he rfl hin hd (fun H1 locs1 hP1 hD1 hS1 => K H1 locs1 ls hP1 hD1 hS1 hl)
theorem U_astq (pc q0 qk ci : Nat) {a N v : Nat} {f : Nat → Option Nat} {vs : List Value} {T : u_T} {M : Nat} {i : Int32} (O : uO D cA A x cc own fr lo kc ks mL) (he : ws[q0]? = some (a, .inl (cA 3, N, .inr (.inr (.inr (.inr f)))))) (hv : ws[qk]? = some (v, .inr (ci, vs))) (hc : vwCl[ci]? = some ("WaterTown$Law", T, M)) (hin : vp_in i N) (hd : decode cc pc = .ok (.aastore, 1)) (K : UW D A x k n (ws.set q0 (a, .inl (cA 3, N, .inr (.inr (.inr (.inr (va_up f i.toNatClampNeg (some v)))))))) lv (pc + 1) st) : UW D A x k n ws lv pc (.ref v :: .int i :: .ref a :: st) := by
  obtain ⟨p, l, e, R, s, m, args, below, meth, c, cells, slots, Q, nL⟩ := x
  obtain ⟨hx, hb, ⟨hml, rfl⟩, hown, hts, hK, hao, hA, hfr, hlo, hcl, hsl⟩ := O
  intro H locs ls hP hD hS hl
  exact va_astq hx hb hK hP hD hS q0 3 qk ci he rfl hv hc hin hd (fun H1 locs1 hP1 hD1 hS1 => K H1 locs1 ls hP1 hD1 hS1 hl)
theorem U_vret (pc : Nat) {w1 : (Nat → Nat) → va_W} {mc ms : Nat} (q : Nat → Nat) (O : uO D cA A x cc own fr lo kc ks mL) (E : uE D A x w1 mc ms) (hw : ws = w1 q) (hk : k ≤ mc) (hs : n ≤ ms) (hd : decode cc pc = .ok (.return_, 1)) : UW D A x k n ws lv pc [] := by
  obtain ⟨p, l, e, R, s, m, args, below, meth, c, cells, slots, Q, nL⟩ := x
  obtain ⟨hx, hb, ⟨hml, rfl⟩, hown, hts, hK, hao, hA, hfr, hlo, hcl, hsl⟩ := O
  intro H locs ls hP hD hS hl
  obtain ⟨rfl, hr, hlk⟩ := E
  subst hw
  exact W.widen (k := mc) (n := ms) hk hs (W.vret hx hb hr (fun t ht hW => ⟨⟨q, rfl, trivial, by rw [ht]; exact hP, hD⟩, hS.F ht⟩) hS.2.2 hd hlk)
/-- a constructor is called on the newest cell -/
theorem U_callI (pc : Nat) {b : Nat} {e0 : va_E} (wr : va_W) (As rest : List Value) {st0 : List Value} {y : MethodName} {bytes : ByteArray} {maxL np index frc loc mc ms : Nat} {w1 : (Nat → Nat) → va_W} (O : uO D cA A x cc own fr lo kc ks mL) (hm : mB y bytes maxL none np) (hy : y.name = "<init>") (hin : Cond.instanceMethod y ∈ zW) (hlk : Cond.methodLink own index y ∈ zW) (hd : decode cc pc = .ok (.invokespecial index, 3)) (hs0 : st0 = As.reverse ++ .ref b :: rest) (hn : As.length = np) (hW : (rest.map fun v => v.category).sum ≤ 8) (hR : frc + 1 ≤ fr ∧ 8 + (maxL + 11) + loc ≤ lo) (hk : k + mc ≤ kc) (hs : n + ms ≤ ks) (hws : ws = wr ++ [(b, e0)])
    (hM : ∀ l, uN l D cA frc loc mc ms y (.code y bytes maxL none) (.ref b :: As) [(b, e0)] w1) (K : ∀ q : Nat → Nat, UW D A x (k + mc) (n + ms) (wr ++ w1 q) lv (pc + 3) rest) : UW D A x k n ws lv pc st0 := by
  obtain ⟨p, l, e, R, s, m, args, below, meth, c, cells, slots, Q, nL⟩ := x
  obtain ⟨hx, hb, ⟨hml, rfl⟩, hown, hts, hK, hao, hA, hfr, hlo, hcl, hsl⟩ := O
  intro H locs ls hP hD hS hl
  subst hws
  obtain ⟨hcw, hini, hne1, hne2, hpa⟩ := hm
  have hC : [wr.length].map (fun i => (wr ++ [(b, e0)])[i]?) = [(b, e0)].map some := by
    rw [List.map_cons, List.map_nil, List.getElem?_concat_length]
    rfl
  have hRr : (List.range wr.length).map (fun i => (wr ++ [(b, e0)])[i]?) = wr.map some := by
    apply List.ext_getElem?
    intro i
    rw [List.getElem?_map, List.getElem?_map]
    by_cases hi : i < wr.length
    · rw [List.getElem?_range hi, List.getElem?_eq_getElem hi, Option.map_some, Option.map_some, List.getElem?_append_left hi, List.getElem?_eq_getElem hi]
    · rw [List.getElem?_eq_none (by rw [List.length_range]; omega), List.getElem?_eq_none (by omega)]
      rfl
  have hPc : va_P D vwCl [(b, e0)] H := hP.sub [wr.length] (by rw [List.filterMap_cons, List.getElem?_concat_length]; rfl)
  have hDc := hD.sub [wr.length] rfl hC
  have hFc := va_free (wc := [(b, e0)]) hD hS hA [wr.length] hC
  refine va_callv (va_runI (As := As) (rest := rest) (b := b) (bytes := bytes) (maxL := maxL) (n := np) (index := index) ⟨hx, hb, hml, hown, hts⟩ (hM l H.size) ⟨callB_of (Ts := zW) np hts (zW_cons hcw) rfl rfl rfl (hts _ hini) (hts _ hlk) ⟨hne1, hne2, hpa⟩ ⟨Nat.le_trans hR.1 hfr, Nat.le_trans hR.2 hlo⟩, hy, hts _ hin⟩ ⟨uP_blind D cA _ _ _, fun U hU hWm => ⟨rfl, by rw [hU], by rw [hU]; exact hPc, va_K.moved hWm.alike hK, uZ_warm hWm hao, hDc.weaken (fun _ _ _ _ => trivial)⟩⟩ rfl hn hl.1 hs0 (lv_room hW) hd ⟨Nat.le_trans hk hcl, Nat.le_trans hs hsl⟩) hS (fun q _ h => hFc q h) hFc (fun q t H1 locs1 ht hvm _ hB _ hk1 hS1 => ?_)
  obtain ⟨hP1, hD1⟩ := hB
  rw [ht] at hP1
  obtain ⟨hP2, hD2⟩ := va_join (wr := wr) (w1 := w1 q) hP hD [wr.length] (List.range wr.length) hC hRr (nd_range _) (fun i hi hi2 => by
    rw [List.mem_range] at hi
    rw [List.mem_singleton] at hi2
    omega) hk1 hFc hP1 hD1
  exact K q H1 locs1 ls hP2 hD2 hS1 hl
/-- the same, a nest mate's -/
theorem U_callN (pc : Nat) {b : Nat} {e0 : va_E} (wr : va_W) (As rest : List Value) {st0 : List Value} {y : MethodName} {bytes : ByteArray} {maxL np index frc loc mc ms : Nat} {w1 : (Nat → Nat) → va_W} (O : uO D cA A x cc own fr lo kc ks mL) (hm : mB y bytes maxL none np) (hy : y.name = "<init>") (hin : Cond.instanceMethod y ∈ zW) (hlk : (own, index, y) ∈ zNl) (hd : decode cc pc = .ok (.invokespecial index, 3)) (hs0 : st0 = As.reverse ++ .ref b :: rest) (hn : As.length = np) (hW : (rest.map fun v => v.category).sum ≤ 8) (hR : frc + 1 ≤ fr ∧ 8 + (maxL + 11) + loc ≤ lo) (hk : k + mc ≤ kc) (hs : n + ms ≤ ks) (hws : ws = wr ++ [(b, e0)])
    (hM : ∀ l, uN l D cA frc loc mc ms y (.code y bytes maxL none) (.ref b :: As) [(b, e0)] w1) (K : ∀ q : Nat → Nat, UW D A x (k + mc) (n + ms) (wr ++ w1 q) lv (pc + 3) rest) : UW D A x k n ws lv pc st0 := by
  obtain ⟨p, l, e, R, s, m, args, below, meth, c, cells, slots, Q, nL⟩ := x
  obtain ⟨hx, hb, ⟨hml, rfl⟩, hown, hts, hK, hao, hA, hfr, hlo, hcl, hsl⟩ := O
  intro H locs ls hP hD hS hl
  subst hws
  obtain ⟨hcw, hini, hne1, hne2, hpa⟩ := hm
  have hC : [wr.length].map (fun i => (wr ++ [(b, e0)])[i]?) = [(b, e0)].map some := by
    rw [List.map_cons, List.map_nil, List.getElem?_concat_length]
    rfl
  have hRr : (List.range wr.length).map (fun i => (wr ++ [(b, e0)])[i]?) = wr.map some := by
    apply List.ext_getElem?
    intro i
    rw [List.getElem?_map, List.getElem?_map]
    by_cases hi : i < wr.length
    · rw [List.getElem?_range hi, List.getElem?_eq_getElem hi, Option.map_some, Option.map_some, List.getElem?_append_left hi, List.getElem?_eq_getElem hi]
    · rw [List.getElem?_eq_none (by rw [List.length_range]; omega), List.getElem?_eq_none (by omega)]
      rfl
  have hPc : va_P D vwCl [(b, e0)] H := hP.sub [wr.length] (by rw [List.filterMap_cons, List.getElem?_concat_length]; rfl)
  have hDc := hD.sub [wr.length] rfl hC
  have hFc := va_free (wc := [(b, e0)]) hD hS hA [wr.length] hC
  refine va_callv (va_runIN (host := "WaterTown") (As := As) (rest := rest) (b := b) (bytes := bytes) (maxL := maxL) (n := np) (index := index) ⟨hx, hb, hml, hown, hts⟩ (hM l H.size) ⟨va_cnB (host := "WaterTown") (Ts := zW) np hts (zW_cons hcw) rfl rfl rfl (hao.2 _ hlk) (hts _ hini) ⟨hne1, hne2, hpa⟩ ⟨Nat.le_trans hR.1 hfr, Nat.le_trans hR.2 hlo⟩, hy, hts _ hin⟩ ⟨uP_blind D cA _ _ _, fun U hU hWm => ⟨rfl, by rw [hU], by rw [hU]; exact hPc, va_K.moved hWm.alike hK, uZ_warm hWm hao, hDc.weaken (fun _ _ _ _ => trivial)⟩⟩ rfl hn hl.1 hs0 (lv_room hW) hd ⟨Nat.le_trans hk hcl, Nat.le_trans hs hsl⟩) hS (fun q _ h => hFc q h) hFc (fun q t H1 locs1 ht hvm _ hB _ hk1 hS1 => ?_)
  obtain ⟨hP1, hD1⟩ := hB
  rw [ht] at hP1
  obtain ⟨hP2, hD2⟩ := va_join (wr := wr) (w1 := w1 q) hP hD [wr.length] (List.range wr.length) hC hRr (nd_range _) (fun i hi hi2 => by
    rw [List.mem_range] at hi
    rw [List.mem_singleton] at hi2
    omega) hk1 hFc hP1 hD1
  exact K q H1 locs1 ls hP2 hD2 hS1 hl
end UR
/-- a constructor's contract out of the walk of its body -/
theorem uN_of {l : Launch} {D : va_G} {cA : Nat → ClassId} {fr lo mc ms : Nat} {y : MethodName} {cc : ByteArray} {maxL : Nat} {av : List Value} {w0 : va_W} {w1 : (Nat → Nat) → va_W} (hy : plainName y.cls = true) (hlen : (lg_sl av).length ≤ maxL) (body : ∀ (A : Nat → Prop) (x : zX), uO D cA A x cc y.cls fr lo mc ms maxL → (y.name = "<init>" → uI x) → uE D A x w1 mc ms → UW D A x 0 0 w0 (lv_args 0 av) 0 []) : uN l D cA fr lo mc ms y (.code y cc maxL none) av w0 w1 := by
  intro sz
  refine Met.ofW (cc := cc) (maxL := maxL) (ret := none) hy rfl ?_
  intro p e s m args below meth c s₁ B hml hv
  obtain ⟨rfl, hsz, hP, hK, hao, hD⟩ := hv
  subst hsz
  have hts := atoms_spec (ws := .code y cc maxL none :: zW) B.pre
  have hown : s.vm.findClass y.cls = some m.cls := findClass_of_methodNamed B.named
  have hin : meth.name = y.name := (name_of_methodNamed B.named B.method).1
  have hl := lv_entry av (n := maxL) hlen
  rw [lg_entry_eq]
  generalize (lg_sl av ++ List.replicate (maxL - (lg_sl av).length) Slot.unset).toArray = ls at hl ⊢
  exact body (va_A w0 s.heap.size) (p, l, e, { frames := fr, cells := mc, slots := ms, locals := lo }, s, m, av.toArray, below, meth, c, 0, 0, MQ below (uQ D w1 (va_A w0 s.heap.size)) av.toArray s mc ms (va_A w0 s.heap.size), maxL) ⟨B.exec, B.bytes, ⟨hml, rfl⟩, hown, fun w hw => hts w (List.mem_cons_of_mem _ hw), hK, hao, fun q h => Or.inr h, Nat.le_refl _, Nat.le_refl _, Nat.le_refl _, Nat.le_refl _⟩ (fun h => hin.trans h) ⟨rfl, B.returns, B.notSynchronized⟩ s.heap [] ls hP hD.self va_S.rf hl
