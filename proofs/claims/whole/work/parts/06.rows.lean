/-! ===== a row an instruction, over V ===== -/
section ZR
variable {G : zG} {x : zX} {cc : ByteArray} {own : String} {fr lo mL : Nat} {σ : Sg} {lv : List (Nat × Value)} {st : List Value}
theorem V_sub {pc : Nat} {lv' : List (Nat × Value)} (ks : List Nat) (h : lv_pick lv ks = lv') (k : V G x σ lv' pc st) : V G x σ lv pc st := by
  obtain ⟨p, l, e, R, s, m, args, below, meth, c, cells, slots, Q, nL⟩ := x
  intro H locs ls hP hS hl
  exact k H locs ls hP hS (lv_sub hl ks h)
theorem V_top {pc : Nat} {a b : Int32} (e : a = b) (k : V G x σ lv pc (.int a :: st)) : V G x σ lv pc (.int b :: st) := e ▸ k
theorem V_topi {pc : Nat} {ρ : Type} {e : Int32} {F : Int32 → Option ρ} {X : ρ} (h : lt e F = some X) (k : ∀ v : Int32, F v = some X → V G x σ lv pc (.int v :: st)) : V G x σ lv pc (.int e :: st) := k e h
theorem V_iconst (pc : Nat) {n : Int} {v : Int32} (O : zO G x cc own fr lo mL) (hd : decode cc pc = .ok (.iconst n, 1)) (hv : Int32.ofInt n = v) (k : V G x σ lv (pc + 1) (.int v :: st)) : V G x σ lv pc st := by
  obtain ⟨p, l, e, R, s, m, args, below, meth, c, cells, slots, Q, nL⟩ := x
  obtain ⟨hx, hb, ⟨hml, rfl⟩, hown, hts, hK, hD, hZ, hfr, hlo, hcl, hsl⟩ := O
  intro H locs ls hP hS hl
  exact lv_iconst hx hb hd hv (k H locs ls hP hS hl)
theorem V_bipush (pc : Nat) {n : Int} {v : Int32} (O : zO G x cc own fr lo mL) (hd : decode cc pc = .ok (.bipush n, 2)) (hv : (Int8.ofInt n).toInt32 = v) (k : V G x σ lv (pc + 2) (.int v :: st)) : V G x σ lv pc st := by
  obtain ⟨p, l, e, R, s, m, args, below, meth, c, cells, slots, Q, nL⟩ := x
  obtain ⟨hx, hb, ⟨hml, rfl⟩, hown, hts, hK, hD, hZ, hfr, hlo, hcl, hsl⟩ := O
  intro H locs ls hP hS hl
  exact lv_bipush hx hb hd hv (k H locs ls hP hS hl)
theorem V_sipush (pc : Nat) {n : Int} {v : Int32} (O : zO G x cc own fr lo mL) (hd : decode cc pc = .ok (.sipush n, 3)) (hv : (Int16.ofInt n).toInt32 = v) (k : V G x σ lv (pc + 3) (.int v :: st)) : V G x σ lv pc st := by
  obtain ⟨p, l, e, R, s, m, args, below, meth, c, cells, slots, Q, nL⟩ := x
  obtain ⟨hx, hb, ⟨hml, rfl⟩, hown, hts, hK, hD, hZ, hfr, hlo, hcl, hsl⟩ := O
  intro H locs ls hP hS hl
  exact lv_sipush hx hb hd hv (k H locs ls hP hS hl)
theorem V_lconst (pc : Nat) {n : Fin 2} {v : Int64} (O : zO G x cc own fr lo mL) (hd : decode cc pc = .ok (.lconst n, 1)) (hv : Int64.ofNat n = v) (k : V G x σ lv (pc + 1) (.long v :: st)) : V G x σ lv pc st := by
  obtain ⟨p, l, e, R, s, m, args, below, meth, c, cells, slots, Q, nL⟩ := x
  obtain ⟨hx, hb, ⟨hml, rfl⟩, hown, hts, hK, hD, hZ, hfr, hlo, hcl, hsl⟩ := O
  intro H locs ls hP hS hl
  exact lv_lconst hx hb hd hv (k H locs ls hP hS hl)
theorem V_ldc (pc : Nat) {i : Nat} {v : Int32} (O : zO G x cc own fr lo mL) (hd : decode cc pc = .ok (.ldc i, 2)) (hw : Cond.constant own i v ∈ zW) (k : V G x σ lv (pc + 2) (.int v :: st)) : V G x σ lv pc st := by
  obtain ⟨p, l, e, R, s, m, args, below, meth, c, cells, slots, Q, nL⟩ := x
  obtain ⟨hx, hb, ⟨hml, rfl⟩, hown, hts, hK, hD, hZ, hfr, hlo, hcl, hsl⟩ := O
  intro H locs ls hP hS hl
  exact lv_ldc hx hb hown (hts _ hw) hd (k H locs ls hP hS hl)
theorem V_ldcw (pc : Nat) {i : Nat} {v : Int32} (O : zO G x cc own fr lo mL) (hd : decode cc pc = .ok (.ldc_w i, 3)) (hw : Cond.constant own i v ∈ zW) (k : V G x σ lv (pc + 3) (.int v :: st)) : V G x σ lv pc st := by
  obtain ⟨p, l, e, R, s, m, args, below, meth, c, cells, slots, Q, nL⟩ := x
  obtain ⟨hx, hb, ⟨hml, rfl⟩, hown, hts, hK, hD, hZ, hfr, hlo, hcl, hsl⟩ := O
  intro H locs ls hP hS hl
  exact lv_ldcw hx hb hown (hts _ hw) hd (k H locs ls hP hS hl)
theorem V_ldc2 (pc : Nat) {i : Nat} {v : Int64} (O : zO G x cc own fr lo mL) (hd : decode cc pc = .ok (.ldc2_w i, 3)) (hw : Cond.constantLong own i v ∈ zW) (k : V G x σ lv (pc + 3) (.long v :: st)) : V G x σ lv pc st := by
  obtain ⟨p, l, e, R, s, m, args, below, meth, c, cells, slots, Q, nL⟩ := x
  obtain ⟨hx, hb, ⟨hml, rfl⟩, hown, hts, hK, hD, hZ, hfr, hlo, hcl, hsl⟩ := O
  intro H locs ls hP hS hl
  exact lv_ldc2 hx hb hown (hts _ hw) hd (k H locs ls hP hS hl)
theorem V_ldcS (pc : Nat) {i q : Nat} {tx : String} (O : zO G x cc "WaterTown$Reader" fr lo mL) (hd : decode cc pc = .ok (.ldc i, 2)) (hq : zSt[q]? = some (i, tx)) (k : V G x σ lv (pc + 2) (.ref (G.2.2.2.2.1 q) :: st)) : V G x σ lv pc st := by
  obtain ⟨p, l, e, R, s, m, args, below, meth, c, cells, slots, Q, nL⟩ := x
  obtain ⟨hx, hb, ⟨hml, rfl⟩, hown, hts, hK, hD, hZ, hfr, hlo, hcl, hsl⟩ := O
  intro H locs ls hP hS hl
  exact va_ldcS hx hb hown (hZ.2.1 q _ hq) hd (k H locs ls hP hS hl)
theorem V_iloadn (pc : Nat) (j : Nat) {f : Fin 4} {i : Nat} {v : Int32} (O : zO G x cc own fr lo mL) (hd : decode cc pc = .ok (.iload_n f, 1)) (hi : (f : Nat) = i) (hk : lv[j]? = some (i, .int v)) (k : V G x σ lv (pc + 1) (.int v :: st)) : V G x σ lv pc st := by
  obtain ⟨p, l, e, R, s, m, args, below, meth, c, cells, slots, Q, nL⟩ := x
  obtain ⟨hx, hb, ⟨hml, rfl⟩, hown, hts, hK, hD, hZ, hfr, hlo, hcl, hsl⟩ := O
  intro H locs ls hP hS hl
  exact lv_iload_n hx hb hd hi (lv_at hl j hk) (k H locs ls hP hS hl)
theorem V_iload (pc : Nat) (j : Nat) {i : Nat} {v : Int32} (O : zO G x cc own fr lo mL) (hd : decode cc pc = .ok (.iload i, 2)) (hk : lv[j]? = some (i, .int v)) (k : V G x σ lv (pc + 2) (.int v :: st)) : V G x σ lv pc st := by
  obtain ⟨p, l, e, R, s, m, args, below, meth, c, cells, slots, Q, nL⟩ := x
  obtain ⟨hx, hb, ⟨hml, rfl⟩, hown, hts, hK, hD, hZ, hfr, hlo, hcl, hsl⟩ := O
  intro H locs ls hP hS hl
  exact lv_iload hx hb hd (lv_at hl j hk) (k H locs ls hP hS hl)
theorem V_lloadn (pc : Nat) (j : Nat) {f : Fin 4} {i : Nat} {v : Int64} (O : zO G x cc own fr lo mL) (hd : decode cc pc = .ok (.lload_n f, 1)) (hi : (f : Nat) = i) (hk : lv[j]? = some (i, .long v)) (k : V G x σ lv (pc + 1) (.long v :: st)) : V G x σ lv pc st := by
  obtain ⟨p, l, e, R, s, m, args, below, meth, c, cells, slots, Q, nL⟩ := x
  obtain ⟨hx, hb, ⟨hml, rfl⟩, hown, hts, hK, hD, hZ, hfr, hlo, hcl, hsl⟩ := O
  intro H locs ls hP hS hl
  exact lv_lload_n hx hb hd hi (lv_at hl j hk) (k H locs ls hP hS hl)
theorem V_lload (pc : Nat) (j : Nat) {i : Nat} {v : Int64} (O : zO G x cc own fr lo mL) (hd : decode cc pc = .ok (.lload i, 2)) (hk : lv[j]? = some (i, .long v)) (k : V G x σ lv (pc + 2) (.long v :: st)) : V G x σ lv pc st := by
  obtain ⟨p, l, e, R, s, m, args, below, meth, c, cells, slots, Q, nL⟩ := x
  obtain ⟨hx, hb, ⟨hml, rfl⟩, hown, hts, hK, hD, hZ, hfr, hlo, hcl, hsl⟩ := O
  intro H locs ls hP hS hl
  exact lv_lload hx hb hd (lv_at hl j hk) (k H locs ls hP hS hl)
theorem V_aloadn (pc : Nat) (j : Nat) {f : Fin 4} {i : Nat} {v : Nat} (O : zO G x cc own fr lo mL) (hd : decode cc pc = .ok (.aload_n f, 1)) (hi : (f : Nat) = i) (hk : lv[j]? = some (i, .ref v)) (k : V G x σ lv (pc + 1) (.ref v :: st)) : V G x σ lv pc st := by
  obtain ⟨p, l, e, R, s, m, args, below, meth, c, cells, slots, Q, nL⟩ := x
  obtain ⟨hx, hb, ⟨hml, rfl⟩, hown, hts, hK, hD, hZ, hfr, hlo, hcl, hsl⟩ := O
  intro H locs ls hP hS hl
  exact lv_aload_n hx hb hd hi (lv_at hl j hk) (k H locs ls hP hS hl)
theorem V_aload (pc : Nat) (j : Nat) {i : Nat} {v : Nat} (O : zO G x cc own fr lo mL) (hd : decode cc pc = .ok (.aload i, 2)) (hk : lv[j]? = some (i, .ref v)) (k : V G x σ lv (pc + 2) (.ref v :: st)) : V G x σ lv pc st := by
  obtain ⟨p, l, e, R, s, m, args, below, meth, c, cells, slots, Q, nL⟩ := x
  obtain ⟨hx, hb, ⟨hml, rfl⟩, hown, hts, hK, hD, hZ, hfr, hlo, hcl, hsl⟩ := O
  intro H locs ls hP hS hl
  exact lv_aload hx hb hd (lv_at hl j hk) (k H locs ls hP hS hl)
theorem V_istoren (pc : Nat) (ks : List Nat) (lv' : List (Nat × Value)) {f : Fin 4} {i : Nat} {v : Int32} (O : zO G x cc own fr lo mL) (hd : decode cc pc = .ok (.istore_n f, 1)) (hi : (f : Nat) = i) (hn : i < mL) (hp : lv_pick ((i, Value.int v) :: lv.filter (fun q => !(q.1 == i) && !(q.1 + 1 == i && q.2.category == 2))) ks = lv') (k : V G x σ lv' (pc + 1) st) : V G x σ lv pc (.int v :: st) := by
  obtain ⟨p, l, e, R, s, m, args, below, meth, c, cells, slots, Q, nL⟩ := x
  obtain ⟨hx, hb, ⟨hml, rfl⟩, hown, hts, hK, hD, hZ, hfr, hlo, hcl, hsl⟩ := O
  intro H locs ls hP hS hl
  exact lv_istore_n hx hb hd hi hl hn rfl (fun ls hl => k H locs ls hP hS (lv_sub hl ks hp))
theorem V_istore (pc : Nat) (ks : List Nat) (lv' : List (Nat × Value)) {i : Nat} {v : Int32} (O : zO G x cc own fr lo mL) (hd : decode cc pc = .ok (.istore i, 2)) (hn : i < mL) (hp : lv_pick ((i, Value.int v) :: lv.filter (fun q => !(q.1 == i) && !(q.1 + 1 == i && q.2.category == 2))) ks = lv') (k : V G x σ lv' (pc + 2) st) : V G x σ lv pc (.int v :: st) := by
  obtain ⟨p, l, e, R, s, m, args, below, meth, c, cells, slots, Q, nL⟩ := x
  obtain ⟨hx, hb, ⟨hml, rfl⟩, hown, hts, hK, hD, hZ, hfr, hlo, hcl, hsl⟩ := O
  intro H locs ls hP hS hl
  exact lv_istore hx hb hd hl hn rfl (fun ls hl => k H locs ls hP hS (lv_sub hl ks hp))
theorem V_astoren (pc : Nat) (ks : List Nat) (lv' : List (Nat × Value)) {f : Fin 4} {i : Nat} {v : Nat} (O : zO G x cc own fr lo mL) (hd : decode cc pc = .ok (.astore_n f, 1)) (hi : (f : Nat) = i) (hn : i < mL) (hp : lv_pick ((i, Value.ref v) :: lv.filter (fun q => !(q.1 == i) && !(q.1 + 1 == i && q.2.category == 2))) ks = lv') (k : V G x σ lv' (pc + 1) st) : V G x σ lv pc (.ref v :: st) := by
  obtain ⟨p, l, e, R, s, m, args, below, meth, c, cells, slots, Q, nL⟩ := x
  obtain ⟨hx, hb, ⟨hml, rfl⟩, hown, hts, hK, hD, hZ, hfr, hlo, hcl, hsl⟩ := O
  intro H locs ls hP hS hl
  exact lv_astore_n hx hb hd hi hl hn rfl (fun ls hl => k H locs ls hP hS (lv_sub hl ks hp))
theorem V_astore (pc : Nat) (ks : List Nat) (lv' : List (Nat × Value)) {i : Nat} {v : Nat} (O : zO G x cc own fr lo mL) (hd : decode cc pc = .ok (.astore i, 2)) (hn : i < mL) (hp : lv_pick ((i, Value.ref v) :: lv.filter (fun q => !(q.1 == i) && !(q.1 + 1 == i && q.2.category == 2))) ks = lv') (k : V G x σ lv' (pc + 2) st) : V G x σ lv pc (.ref v :: st) := by
  obtain ⟨p, l, e, R, s, m, args, below, meth, c, cells, slots, Q, nL⟩ := x
  obtain ⟨hx, hb, ⟨hml, rfl⟩, hown, hts, hK, hD, hZ, hfr, hlo, hcl, hsl⟩ := O
  intro H locs ls hP hS hl
  exact lv_astore hx hb hd hl hn rfl (fun ls hl => k H locs ls hP hS (lv_sub hl ks hp))
theorem V_iinc (pc : Nat) (j : Nat) (ks : List Nat) (lv' : List (Nat × Value)) {i : Nat} {n : Int} {u v : Int32} (O : zO G x cc own fr lo mL) (hd : decode cc pc = .ok (.iinc i n, 3)) (hk : lv[j]? = some (i, .int u)) (hv : Int32.ofInt n = v) (hn : i < mL) (hp : lv_pick ((i, Value.int (u + v)) :: lv.filter (fun q => !(q.1 == i) && !(q.1 + 1 == i && q.2.category == 2))) ks = lv') (k : V G x σ lv' (pc + 3) st) : V G x σ lv pc st := by
  obtain ⟨p, l, e, R, s, m, args, below, meth, c, cells, slots, Q, nL⟩ := x
  obtain ⟨hx, hb, ⟨hml, rfl⟩, hown, hts, hK, hD, hZ, hfr, hlo, hcl, hsl⟩ := O
  intro H locs ls hP hS hl
  exact lv_iinc hx hb hd hl hk (by rw [hv]) hn rfl (fun ls hl => k H locs ls hP hS (lv_sub hl ks hp))
theorem V_iadd (pc : Nat) {a b : Int32} (O : zO G x cc own fr lo mL) (hd : decode cc pc = .ok (.iadd, 1)) (k : V G x σ lv (pc + 1) (.int (a + b) :: st)) : V G x σ lv pc (.int b :: .int a :: st) := by
  obtain ⟨p, l, e, R, s, m, args, below, meth, c, cells, slots, Q, nL⟩ := x
  obtain ⟨hx, hb, ⟨hml, rfl⟩, hown, hts, hK, hD, hZ, hfr, hlo, hcl, hsl⟩ := O
  intro H locs ls hP hS hl
  exact lv_iadd hx hb hd (k H locs ls hP hS hl)
theorem V_isub (pc : Nat) {a b : Int32} (O : zO G x cc own fr lo mL) (hd : decode cc pc = .ok (.isub, 1)) (k : V G x σ lv (pc + 1) (.int (a - b) :: st)) : V G x σ lv pc (.int b :: .int a :: st) := by
  obtain ⟨p, l, e, R, s, m, args, below, meth, c, cells, slots, Q, nL⟩ := x
  obtain ⟨hx, hb, ⟨hml, rfl⟩, hown, hts, hK, hD, hZ, hfr, hlo, hcl, hsl⟩ := O
  intro H locs ls hP hS hl
  exact lv_isub hx hb hd (k H locs ls hP hS hl)
theorem V_imul (pc : Nat) {a b : Int32} (O : zO G x cc own fr lo mL) (hd : decode cc pc = .ok (.imul, 1)) (k : V G x σ lv (pc + 1) (.int (a * b) :: st)) : V G x σ lv pc (.int b :: .int a :: st) := by
  obtain ⟨p, l, e, R, s, m, args, below, meth, c, cells, slots, Q, nL⟩ := x
  obtain ⟨hx, hb, ⟨hml, rfl⟩, hown, hts, hK, hD, hZ, hfr, hlo, hcl, hsl⟩ := O
  intro H locs ls hP hS hl
  exact lv_imul hx hb hd (k H locs ls hP hS hl)
theorem V_iand (pc : Nat) {a b : Int32} (O : zO G x cc own fr lo mL) (hd : decode cc pc = .ok (.iand, 1)) (k : V G x σ lv (pc + 1) (.int (a &&& b) :: st)) : V G x σ lv pc (.int b :: .int a :: st) := by
  obtain ⟨p, l, e, R, s, m, args, below, meth, c, cells, slots, Q, nL⟩ := x
  obtain ⟨hx, hb, ⟨hml, rfl⟩, hown, hts, hK, hD, hZ, hfr, hlo, hcl, hsl⟩ := O
  intro H locs ls hP hS hl
  exact lv_iand hx hb hd (k H locs ls hP hS hl)
theorem V_ior (pc : Nat) {a b : Int32} (O : zO G x cc own fr lo mL) (hd : decode cc pc = .ok (.ior, 1)) (k : V G x σ lv (pc + 1) (.int (a ||| b) :: st)) : V G x σ lv pc (.int b :: .int a :: st) := by
  obtain ⟨p, l, e, R, s, m, args, below, meth, c, cells, slots, Q, nL⟩ := x
  obtain ⟨hx, hb, ⟨hml, rfl⟩, hown, hts, hK, hD, hZ, hfr, hlo, hcl, hsl⟩ := O
  intro H locs ls hP hS hl
  exact lv_ior hx hb hd (k H locs ls hP hS hl)
theorem V_ixor (pc : Nat) {a b : Int32} (O : zO G x cc own fr lo mL) (hd : decode cc pc = .ok (.ixor, 1)) (k : V G x σ lv (pc + 1) (.int (a ^^^ b) :: st)) : V G x σ lv pc (.int b :: .int a :: st) := by
  obtain ⟨p, l, e, R, s, m, args, below, meth, c, cells, slots, Q, nL⟩ := x
  obtain ⟨hx, hb, ⟨hml, rfl⟩, hown, hts, hK, hD, hZ, hfr, hlo, hcl, hsl⟩ := O
  intro H locs ls hP hS hl
  exact lv_ixor hx hb hd (k H locs ls hP hS hl)
theorem V_ishl (pc : Nat) {a b : Int32} (O : zO G x cc own fr lo mL) (hd : decode cc pc = .ok (.ishl, 1)) (k : V G x σ lv (pc + 1) (.int (sl a b) :: st)) : V G x σ lv pc (.int b :: .int a :: st) := by
  obtain ⟨p, l, e, R, s, m, args, below, meth, c, cells, slots, Q, nL⟩ := x
  obtain ⟨hx, hb, ⟨hml, rfl⟩, hown, hts, hK, hD, hZ, hfr, hlo, hcl, hsl⟩ := O
  intro H locs ls hP hS hl
  exact lv_ishl hx hb hd (k H locs ls hP hS hl)
theorem V_ishr (pc : Nat) {a b : Int32} (O : zO G x cc own fr lo mL) (hd : decode cc pc = .ok (.ishr, 1)) (k : V G x σ lv (pc + 1) (.int (sr a b) :: st)) : V G x σ lv pc (.int b :: .int a :: st) := by
  obtain ⟨p, l, e, R, s, m, args, below, meth, c, cells, slots, Q, nL⟩ := x
  obtain ⟨hx, hb, ⟨hml, rfl⟩, hown, hts, hK, hD, hZ, hfr, hlo, hcl, hsl⟩ := O
  intro H locs ls hP hS hl
  exact lv_ishr hx hb hd (k H locs ls hP hS hl)
theorem V_iushr (pc : Nat) {a b : Int32} (O : zO G x cc own fr lo mL) (hd : decode cc pc = .ok (.iushr, 1)) (k : V G x σ lv (pc + 1) (.int (ush a b) :: st)) : V G x σ lv pc (.int b :: .int a :: st) := by
  obtain ⟨p, l, e, R, s, m, args, below, meth, c, cells, slots, Q, nL⟩ := x
  obtain ⟨hx, hb, ⟨hml, rfl⟩, hown, hts, hK, hD, hZ, hfr, hlo, hcl, hsl⟩ := O
  intro H locs ls hP hS hl
  exact lv_iushr hx hb hd rfl (k H locs ls hP hS hl)
theorem V_ineg (pc : Nat) {a : Int32} (O : zO G x cc own fr lo mL) (hd : decode cc pc = .ok (.ineg, 1)) (k : V G x σ lv (pc + 1) (.int (-a) :: st)) : V G x σ lv pc (.int a :: st) := by
  obtain ⟨p, l, e, R, s, m, args, below, meth, c, cells, slots, Q, nL⟩ := x
  obtain ⟨hx, hb, ⟨hml, rfl⟩, hown, hts, hK, hD, hZ, hfr, hlo, hcl, hsl⟩ := O
  intro H locs ls hP hS hl
  exact lv_ineg hx hb hd (k H locs ls hP hS hl)
theorem V_idivC (pc : Nat) {a b : Int32} (O : zO G x cc own fr lo mL) (hd : decode cc pc = .ok (.idiv, 1)) (hne : ¬ b = 0) (k : V G x σ lv (pc + 1) (.int (a / b) :: st)) : V G x σ lv pc (.int b :: .int a :: st) := by
  obtain ⟨p, l, e, R, s, m, args, below, meth, c, cells, slots, Q, nL⟩ := x
  obtain ⟨hx, hb, ⟨hml, rfl⟩, hown, hts, hK, hD, hZ, hfr, hlo, hcl, hsl⟩ := O
  intro H locs ls hP hS hl
  exact lv_idiv hx hb hd hne (k H locs ls hP hS hl)
theorem V_iremC (pc : Nat) {a b : Int32} (O : zO G x cc own fr lo mL) (hd : decode cc pc = .ok (.irem, 1)) (hne : ¬ b = 0) (k : V G x σ lv (pc + 1) (.int (irm a b) :: st)) : V G x σ lv pc (.int b :: .int a :: st) := by
  obtain ⟨p, l, e, R, s, m, args, below, meth, c, cells, slots, Q, nL⟩ := x
  obtain ⟨hx, hb, ⟨hml, rfl⟩, hown, hts, hK, hD, hZ, hfr, hlo, hcl, hsl⟩ := O
  intro H locs ls hP hS hl
  exact lv_irem hx hb hd hne (k H locs ls hP hS hl)
theorem V_idiv (pc : Nat) {ρ : Type} {A : Option ρ} {X : ρ} {a b : Int32} (O : zO G x cc own fr lo mL) (hd : decode cc pc = .ok (.idiv, 1)) (h : dvc b A = some X) (k : A = some X → V G x σ lv (pc + 1) (.int (a / b) :: st)) : V G x σ lv pc (.int b :: .int a :: st) := by
  obtain ⟨p, l, e, R, s, m, args, below, meth, c, cells, slots, Q, nL⟩ := x
  obtain ⟨hx, hb, ⟨hml, rfl⟩, hown, hts, hK, hD, hZ, hfr, hlo, hcl, hsl⟩ := O
  intro H locs ls hP hS hl
  exact lv_idiv hx hb hd (dvc_of h).1 (k (dvc_of h).2 H locs ls hP hS hl)
theorem V_i2l (pc : Nat) {a : Int32} (O : zO G x cc own fr lo mL) (hd : decode cc pc = .ok (.i2l, 1)) (k : V G x σ lv (pc + 1) (.long a.toInt64 :: st)) : V G x σ lv pc (.int a :: st) := by
  obtain ⟨p, l, e, R, s, m, args, below, meth, c, cells, slots, Q, nL⟩ := x
  obtain ⟨hx, hb, ⟨hml, rfl⟩, hown, hts, hK, hD, hZ, hfr, hlo, hcl, hsl⟩ := O
  intro H locs ls hP hS hl
  exact lv_i2l hx hb hd rfl (k H locs ls hP hS hl)
theorem V_l2i (pc : Nat) {a : Int64} (O : zO G x cc own fr lo mL) (hd : decode cc pc = .ok (.l2i, 1)) (k : V G x σ lv (pc + 1) (.int a.toInt32 :: st)) : V G x σ lv pc (.long a :: st) := by
  obtain ⟨p, l, e, R, s, m, args, below, meth, c, cells, slots, Q, nL⟩ := x
  obtain ⟨hx, hb, ⟨hml, rfl⟩, hown, hts, hK, hD, hZ, hfr, hlo, hcl, hsl⟩ := O
  intro H locs ls hP hS hl
  exact lv_l2i hx hb hd rfl (k H locs ls hP hS hl)
theorem V_i2b (pc : Nat) {a : Int32} (O : zO G x cc own fr lo mL) (hd : decode cc pc = .ok (.i2b, 1)) (k : V G x σ lv (pc + 1) (.int a.toInt8.toInt32 :: st)) : V G x σ lv pc (.int a :: st) := by
  obtain ⟨p, l, e, R, s, m, args, below, meth, c, cells, slots, Q, nL⟩ := x
  obtain ⟨hx, hb, ⟨hml, rfl⟩, hown, hts, hK, hD, hZ, hfr, hlo, hcl, hsl⟩ := O
  intro H locs ls hP hS hl
  exact lv_i2b hx hb hd rfl (k H locs ls hP hS hl)
theorem V_land (pc : Nat) {a b : Int64} (O : zO G x cc own fr lo mL) (hd : decode cc pc = .ok (.land, 1)) (k : V G x σ lv (pc + 1) (.long (a &&& b) :: st)) : V G x σ lv pc (.long b :: .long a :: st) := by
  obtain ⟨p, l, e, R, s, m, args, below, meth, c, cells, slots, Q, nL⟩ := x
  obtain ⟨hx, hb, ⟨hml, rfl⟩, hown, hts, hK, hD, hZ, hfr, hlo, hcl, hsl⟩ := O
  intro H locs ls hP hS hl
  exact lv_land hx hb hd (k H locs ls hP hS hl)
theorem V_lor (pc : Nat) {a b : Int64} (O : zO G x cc own fr lo mL) (hd : decode cc pc = .ok (.lor, 1)) (k : V G x σ lv (pc + 1) (.long (a ||| b) :: st)) : V G x σ lv pc (.long b :: .long a :: st) := by
  obtain ⟨p, l, e, R, s, m, args, below, meth, c, cells, slots, Q, nL⟩ := x
  obtain ⟨hx, hb, ⟨hml, rfl⟩, hown, hts, hK, hD, hZ, hfr, hlo, hcl, hsl⟩ := O
  intro H locs ls hP hS hl
  exact lv_lor hx hb hd (k H locs ls hP hS hl)
theorem V_lshl (pc : Nat) {a : Int64} {b : Int32} (O : zO G x cc own fr lo mL) (hd : decode cc pc = .ok (.lshl, 1)) (k : V G x σ lv (pc + 1) (.long (lsl a b) :: st)) : V G x σ lv pc (.int b :: .long a :: st) := by
  obtain ⟨p, l, e, R, s, m, args, below, meth, c, cells, slots, Q, nL⟩ := x
  obtain ⟨hx, hb, ⟨hml, rfl⟩, hown, hts, hK, hD, hZ, hfr, hlo, hcl, hsl⟩ := O
  intro H locs ls hP hS hl
  exact lv_lshl hx hb hd rfl (k H locs ls hP hS hl)
theorem V_lshr (pc : Nat) {a : Int64} {b : Int32} (O : zO G x cc own fr lo mL) (hd : decode cc pc = .ok (.lshr, 1)) (k : V G x σ lv (pc + 1) (.long (lsr a b) :: st)) : V G x σ lv pc (.int b :: .long a :: st) := by
  obtain ⟨p, l, e, R, s, m, args, below, meth, c, cells, slots, Q, nL⟩ := x
  obtain ⟨hx, hb, ⟨hml, rfl⟩, hown, hts, hK, hD, hZ, hfr, hlo, hcl, hsl⟩ := O
  intro H locs ls hP hS hl
  exact lv_lshr hx hb hd rfl (k H locs ls hP hS hl)
theorem V_lushr (pc : Nat) {a : Int64} {b : Int32} (O : zO G x cc own fr lo mL) (hd : decode cc pc = .ok (.lushr, 1)) (k : V G x σ lv (pc + 1) (.long (lus a b) :: st)) : V G x σ lv pc (.int b :: .long a :: st) := by
  obtain ⟨p, l, e, R, s, m, args, below, meth, c, cells, slots, Q, nL⟩ := x
  obtain ⟨hx, hb, ⟨hml, rfl⟩, hown, hts, hK, hD, hZ, hfr, hlo, hcl, hsl⟩ := O
  intro H locs ls hP hS hl
  exact lv_lushr hx hb hd rfl (k H locs ls hP hS hl)
theorem V_lcmp (pc : Nat) {a b : Int64} (O : zO G x cc own fr lo mL) (hd : decode cc pc = .ok (.lcmp, 1)) (k : V G x σ lv (pc + 1) (.int (lg_cmp a b) :: st)) : V G x σ lv pc (.long b :: .long a :: st) := by
  obtain ⟨p, l, e, R, s, m, args, below, meth, c, cells, slots, Q, nL⟩ := x
  obtain ⟨hx, hb, ⟨hml, rfl⟩, hown, hts, hK, hD, hZ, hfr, hlo, hcl, hsl⟩ := O
  intro H locs ls hP hS hl
  exact W.lcmp hx hb hd (k H locs ls hP hS hl)
theorem V_dup (pc : Nat) {a : Value} (O : zO G x cc own fr lo mL) (hd : decode cc pc = .ok (.dup, 1)) (hc : a.category = 1) (k : V G x σ lv (pc + 1) (a :: a :: st)) : V G x σ lv pc (a :: st) := by
  obtain ⟨p, l, e, R, s, m, args, below, meth, c, cells, slots, Q, nL⟩ := x
  obtain ⟨hx, hb, ⟨hml, rfl⟩, hown, hts, hK, hD, hZ, hfr, hlo, hcl, hsl⟩ := O
  intro H locs ls hP hS hl
  exact lv_dup hx hb hd hc (k H locs ls hP hS hl)
theorem V_pop (pc : Nat) {a : Value} (O : zO G x cc own fr lo mL) (hd : decode cc pc = .ok (.pop, 1)) (hc : a.category = 1) (k : V G x σ lv (pc + 1) (st)) : V G x σ lv pc (a :: st) := by
  obtain ⟨p, l, e, R, s, m, args, below, meth, c, cells, slots, Q, nL⟩ := x
  obtain ⟨hx, hb, ⟨hml, rfl⟩, hown, hts, hK, hD, hZ, hfr, hlo, hcl, hsl⟩ := O
  intro H locs ls hP hS hl
  exact lv_pop hx hb hd hc (k H locs ls hP hS hl)
theorem V_dup2 (pc : Nat) {a b : Value} (O : zO G x cc own fr lo mL) (hd : decode cc pc = .ok (.dup2, 1)) (hc : a.category = 1) (hc2 : b.category = 1) (k : V G x σ lv (pc + 1) (a :: b :: a :: b :: st)) : V G x σ lv pc (a :: b :: st) := by
  obtain ⟨p, l, e, R, s, m, args, below, meth, c, cells, slots, Q, nL⟩ := x
  obtain ⟨hx, hb, ⟨hml, rfl⟩, hown, hts, hK, hD, hZ, hfr, hlo, hcl, hsl⟩ := O
  intro H locs ls hP hS hl
  exact lv_dup2_11 hx hb hd hc hc2 (k H locs ls hP hS hl)
theorem V_goto (pc : Nat) (tgt : Nat) {off : Int} (O : zO G x cc own fr lo mL) (hd : decode cc pc = .ok (.goto off, 3)) (ht : (pc : Int) + off = (tgt : Int)) (k : V G x σ lv tgt st) : V G x σ lv pc st := by
  obtain ⟨p, l, e, R, s, m, args, below, meth, c, cells, slots, Q, nL⟩ := x
  obtain ⟨hx, hb, ⟨hml, rfl⟩, hown, hts, hK, hD, hZ, hfr, hlo, hcl, hsl⟩ := O
  intro H locs ls hP hS hl
  exact lv_goto hx hb hd ht (k H locs ls hP hS hl)
theorem V_if_eq (pc tgt : Nat) {a : Int32} {off : Int} {ρ : Type} {A B : Option ρ} {X : ρ} (O : zO G x cc own fr lo mL) (hd : decode cc pc = .ok (.ifCond .eq off, 3)) (ht : (pc : Int) + off = (tgt : Int)) (h : (if a = 0 then A else B) = some X) (k1 : A = some X → V G x σ lv tgt st) (k2 : B = some X → V G x σ lv (pc + 3) st) : V G x σ lv pc (.int a :: st) := by
  obtain ⟨p, l, e, R, s, m, args, below, meth, c, cells, slots, Q, nL⟩ := x
  obtain ⟨hx, hb, ⟨hml, rfl⟩, hown, hts, hK, hD, hZ, hfr, hlo, hcl, hsl⟩ := O
  intro H locs ls hP hS hl
  exact lv_if_eq hx hb hd ht (fun hc => k1 (by rw [if_pos hc] at h; exact h) H locs ls hP hS hl) (fun hc => k2 (by rw [if_neg hc] at h; exact h) H locs ls hP hS hl)
theorem V_if_eqc (pc tgt : Nat) {a : Int32} {off : Int} (O : zO G x cc own fr lo mL) (hd : decode cc pc = .ok (.ifCond .eq off, 3)) (ht : (pc : Int) + off = (tgt : Int)) (k1 : a = 0 → V G x σ lv tgt st) (k2 : ¬ (a = 0) → V G x σ lv (pc + 3) st) : V G x σ lv pc (.int a :: st) := by
  obtain ⟨p, l, e, R, s, m, args, below, meth, c, cells, slots, Q, nL⟩ := x
  obtain ⟨hx, hb, ⟨hml, rfl⟩, hown, hts, hK, hD, hZ, hfr, hlo, hcl, hsl⟩ := O
  intro H locs ls hP hS hl
  exact lv_if_eq hx hb hd ht (fun hc => k1 hc H locs ls hP hS hl) (fun hc => k2 hc H locs ls hP hS hl)
theorem V_icmp_eq (pc tgt : Nat) {a b : Int32} {off : Int} {ρ : Type} {A B : Option ρ} {X : ρ} (O : zO G x cc own fr lo mL) (hd : decode cc pc = .ok (.if_icmp .eq off, 3)) (ht : (pc : Int) + off = (tgt : Int)) (h : (if a = b then A else B) = some X) (k1 : A = some X → V G x σ lv tgt st) (k2 : B = some X → V G x σ lv (pc + 3) st) : V G x σ lv pc (.int b :: .int a :: st) := by
  obtain ⟨p, l, e, R, s, m, args, below, meth, c, cells, slots, Q, nL⟩ := x
  obtain ⟨hx, hb, ⟨hml, rfl⟩, hown, hts, hK, hD, hZ, hfr, hlo, hcl, hsl⟩ := O
  intro H locs ls hP hS hl
  exact lv_icmp_eq hx hb hd ht (fun hc => k1 (by rw [if_pos hc] at h; exact h) H locs ls hP hS hl) (fun hc => k2 (by rw [if_neg hc] at h; exact h) H locs ls hP hS hl)
theorem V_icmp_eqc (pc tgt : Nat) {a b : Int32} {off : Int} (O : zO G x cc own fr lo mL) (hd : decode cc pc = .ok (.if_icmp .eq off, 3)) (ht : (pc : Int) + off = (tgt : Int)) (k1 : a = b → V G x σ lv tgt st) (k2 : ¬ (a = b) → V G x σ lv (pc + 3) st) : V G x σ lv pc (.int b :: .int a :: st) := by
  obtain ⟨p, l, e, R, s, m, args, below, meth, c, cells, slots, Q, nL⟩ := x
  obtain ⟨hx, hb, ⟨hml, rfl⟩, hown, hts, hK, hD, hZ, hfr, hlo, hcl, hsl⟩ := O
  intro H locs ls hP hS hl
  exact lv_icmp_eq hx hb hd ht (fun hc => k1 hc H locs ls hP hS hl) (fun hc => k2 hc H locs ls hP hS hl)
theorem V_if_ne (pc tgt : Nat) {a : Int32} {off : Int} {ρ : Type} {A B : Option ρ} {X : ρ} (O : zO G x cc own fr lo mL) (hd : decode cc pc = .ok (.ifCond .ne off, 3)) (ht : (pc : Int) + off = (tgt : Int)) (h : (if a = 0 then B else A) = some X) (k1 : A = some X → V G x σ lv tgt st) (k2 : B = some X → V G x σ lv (pc + 3) st) : V G x σ lv pc (.int a :: st) := by
  obtain ⟨p, l, e, R, s, m, args, below, meth, c, cells, slots, Q, nL⟩ := x
  obtain ⟨hx, hb, ⟨hml, rfl⟩, hown, hts, hK, hD, hZ, hfr, hlo, hcl, hsl⟩ := O
  intro H locs ls hP hS hl
  exact lv_if_ne hx hb hd ht (fun hc => k1 (by rw [if_neg hc] at h; exact h) H locs ls hP hS hl) (fun hc => k2 (by rw [if_pos hc] at h; exact h) H locs ls hP hS hl)
theorem V_if_nec (pc tgt : Nat) {a : Int32} {off : Int} (O : zO G x cc own fr lo mL) (hd : decode cc pc = .ok (.ifCond .ne off, 3)) (ht : (pc : Int) + off = (tgt : Int)) (k1 : ¬ a = 0 → V G x σ lv tgt st) (k2 : a = 0 → V G x σ lv (pc + 3) st) : V G x σ lv pc (.int a :: st) := by
  obtain ⟨p, l, e, R, s, m, args, below, meth, c, cells, slots, Q, nL⟩ := x
  obtain ⟨hx, hb, ⟨hml, rfl⟩, hown, hts, hK, hD, hZ, hfr, hlo, hcl, hsl⟩ := O
  intro H locs ls hP hS hl
  exact lv_if_ne hx hb hd ht (fun hc => k1 hc H locs ls hP hS hl) (fun hc => k2 hc H locs ls hP hS hl)
theorem V_icmp_ne (pc tgt : Nat) {a b : Int32} {off : Int} {ρ : Type} {A B : Option ρ} {X : ρ} (O : zO G x cc own fr lo mL) (hd : decode cc pc = .ok (.if_icmp .ne off, 3)) (ht : (pc : Int) + off = (tgt : Int)) (h : (if a = b then B else A) = some X) (k1 : A = some X → V G x σ lv tgt st) (k2 : B = some X → V G x σ lv (pc + 3) st) : V G x σ lv pc (.int b :: .int a :: st) := by
  obtain ⟨p, l, e, R, s, m, args, below, meth, c, cells, slots, Q, nL⟩ := x
  obtain ⟨hx, hb, ⟨hml, rfl⟩, hown, hts, hK, hD, hZ, hfr, hlo, hcl, hsl⟩ := O
  intro H locs ls hP hS hl
  exact lv_icmp_ne hx hb hd ht (fun hc => k1 (by rw [if_neg hc] at h; exact h) H locs ls hP hS hl) (fun hc => k2 (by rw [if_pos hc] at h; exact h) H locs ls hP hS hl)
theorem V_icmp_nec (pc tgt : Nat) {a b : Int32} {off : Int} (O : zO G x cc own fr lo mL) (hd : decode cc pc = .ok (.if_icmp .ne off, 3)) (ht : (pc : Int) + off = (tgt : Int)) (k1 : ¬ a = b → V G x σ lv tgt st) (k2 : a = b → V G x σ lv (pc + 3) st) : V G x σ lv pc (.int b :: .int a :: st) := by
  obtain ⟨p, l, e, R, s, m, args, below, meth, c, cells, slots, Q, nL⟩ := x
  obtain ⟨hx, hb, ⟨hml, rfl⟩, hown, hts, hK, hD, hZ, hfr, hlo, hcl, hsl⟩ := O
  intro H locs ls hP hS hl
  exact lv_icmp_ne hx hb hd ht (fun hc => k1 hc H locs ls hP hS hl) (fun hc => k2 hc H locs ls hP hS hl)
theorem V_if_lt (pc tgt : Nat) {a : Int32} {off : Int} {ρ : Type} {A B : Option ρ} {X : ρ} (O : zO G x cc own fr lo mL) (hd : decode cc pc = .ok (.ifCond .lt off, 3)) (ht : (pc : Int) + off = (tgt : Int)) (h : (if a < 0 then A else B) = some X) (k1 : A = some X → V G x σ lv tgt st) (k2 : B = some X → V G x σ lv (pc + 3) st) : V G x σ lv pc (.int a :: st) := by
  obtain ⟨p, l, e, R, s, m, args, below, meth, c, cells, slots, Q, nL⟩ := x
  obtain ⟨hx, hb, ⟨hml, rfl⟩, hown, hts, hK, hD, hZ, hfr, hlo, hcl, hsl⟩ := O
  intro H locs ls hP hS hl
  exact lv_if_lt hx hb hd ht (fun hc => k1 (by rw [if_pos hc] at h; exact h) H locs ls hP hS hl) (fun hc => k2 (by rw [if_neg hc] at h; exact h) H locs ls hP hS hl)
theorem V_if_ltc (pc tgt : Nat) {a : Int32} {off : Int} (O : zO G x cc own fr lo mL) (hd : decode cc pc = .ok (.ifCond .lt off, 3)) (ht : (pc : Int) + off = (tgt : Int)) (k1 : a < 0 → V G x σ lv tgt st) (k2 : ¬ (a < 0) → V G x σ lv (pc + 3) st) : V G x σ lv pc (.int a :: st) := by
  obtain ⟨p, l, e, R, s, m, args, below, meth, c, cells, slots, Q, nL⟩ := x
  obtain ⟨hx, hb, ⟨hml, rfl⟩, hown, hts, hK, hD, hZ, hfr, hlo, hcl, hsl⟩ := O
  intro H locs ls hP hS hl
  exact lv_if_lt hx hb hd ht (fun hc => k1 hc H locs ls hP hS hl) (fun hc => k2 hc H locs ls hP hS hl)
theorem V_icmp_lt (pc tgt : Nat) {a b : Int32} {off : Int} {ρ : Type} {A B : Option ρ} {X : ρ} (O : zO G x cc own fr lo mL) (hd : decode cc pc = .ok (.if_icmp .lt off, 3)) (ht : (pc : Int) + off = (tgt : Int)) (h : (if a < b then A else B) = some X) (k1 : A = some X → V G x σ lv tgt st) (k2 : B = some X → V G x σ lv (pc + 3) st) : V G x σ lv pc (.int b :: .int a :: st) := by
  obtain ⟨p, l, e, R, s, m, args, below, meth, c, cells, slots, Q, nL⟩ := x
  obtain ⟨hx, hb, ⟨hml, rfl⟩, hown, hts, hK, hD, hZ, hfr, hlo, hcl, hsl⟩ := O
  intro H locs ls hP hS hl
  exact lv_icmp_lt hx hb hd ht (fun hc => k1 (by rw [if_pos hc] at h; exact h) H locs ls hP hS hl) (fun hc => k2 (by rw [if_neg hc] at h; exact h) H locs ls hP hS hl)
theorem V_icmp_ltc (pc tgt : Nat) {a b : Int32} {off : Int} (O : zO G x cc own fr lo mL) (hd : decode cc pc = .ok (.if_icmp .lt off, 3)) (ht : (pc : Int) + off = (tgt : Int)) (k1 : a < b → V G x σ lv tgt st) (k2 : ¬ (a < b) → V G x σ lv (pc + 3) st) : V G x σ lv pc (.int b :: .int a :: st) := by
  obtain ⟨p, l, e, R, s, m, args, below, meth, c, cells, slots, Q, nL⟩ := x
  obtain ⟨hx, hb, ⟨hml, rfl⟩, hown, hts, hK, hD, hZ, hfr, hlo, hcl, hsl⟩ := O
  intro H locs ls hP hS hl
  exact lv_icmp_lt hx hb hd ht (fun hc => k1 hc H locs ls hP hS hl) (fun hc => k2 hc H locs ls hP hS hl)
theorem V_if_ge (pc tgt : Nat) {a : Int32} {off : Int} {ρ : Type} {A B : Option ρ} {X : ρ} (O : zO G x cc own fr lo mL) (hd : decode cc pc = .ok (.ifCond .ge off, 3)) (ht : (pc : Int) + off = (tgt : Int)) (h : (if 0 ≤ a then A else B) = some X) (k1 : A = some X → V G x σ lv tgt st) (k2 : B = some X → V G x σ lv (pc + 3) st) : V G x σ lv pc (.int a :: st) := by
  obtain ⟨p, l, e, R, s, m, args, below, meth, c, cells, slots, Q, nL⟩ := x
  obtain ⟨hx, hb, ⟨hml, rfl⟩, hown, hts, hK, hD, hZ, hfr, hlo, hcl, hsl⟩ := O
  intro H locs ls hP hS hl
  exact lv_if_ge hx hb hd ht (fun hc => k1 (by rw [if_pos hc] at h; exact h) H locs ls hP hS hl) (fun hc => k2 (by rw [if_neg hc] at h; exact h) H locs ls hP hS hl)
theorem V_if_gec (pc tgt : Nat) {a : Int32} {off : Int} (O : zO G x cc own fr lo mL) (hd : decode cc pc = .ok (.ifCond .ge off, 3)) (ht : (pc : Int) + off = (tgt : Int)) (k1 : 0 ≤ a → V G x σ lv tgt st) (k2 : ¬ (0 ≤ a) → V G x σ lv (pc + 3) st) : V G x σ lv pc (.int a :: st) := by
  obtain ⟨p, l, e, R, s, m, args, below, meth, c, cells, slots, Q, nL⟩ := x
  obtain ⟨hx, hb, ⟨hml, rfl⟩, hown, hts, hK, hD, hZ, hfr, hlo, hcl, hsl⟩ := O
  intro H locs ls hP hS hl
  exact lv_if_ge hx hb hd ht (fun hc => k1 hc H locs ls hP hS hl) (fun hc => k2 hc H locs ls hP hS hl)
theorem V_icmp_ge (pc tgt : Nat) {a b : Int32} {off : Int} {ρ : Type} {A B : Option ρ} {X : ρ} (O : zO G x cc own fr lo mL) (hd : decode cc pc = .ok (.if_icmp .ge off, 3)) (ht : (pc : Int) + off = (tgt : Int)) (h : (if b ≤ a then A else B) = some X) (k1 : A = some X → V G x σ lv tgt st) (k2 : B = some X → V G x σ lv (pc + 3) st) : V G x σ lv pc (.int b :: .int a :: st) := by
  obtain ⟨p, l, e, R, s, m, args, below, meth, c, cells, slots, Q, nL⟩ := x
  obtain ⟨hx, hb, ⟨hml, rfl⟩, hown, hts, hK, hD, hZ, hfr, hlo, hcl, hsl⟩ := O
  intro H locs ls hP hS hl
  exact lv_icmp_ge hx hb hd ht (fun hc => k1 (by rw [if_pos hc] at h; exact h) H locs ls hP hS hl) (fun hc => k2 (by rw [if_neg hc] at h; exact h) H locs ls hP hS hl)
theorem V_icmp_gec (pc tgt : Nat) {a b : Int32} {off : Int} (O : zO G x cc own fr lo mL) (hd : decode cc pc = .ok (.if_icmp .ge off, 3)) (ht : (pc : Int) + off = (tgt : Int)) (k1 : b ≤ a → V G x σ lv tgt st) (k2 : ¬ (b ≤ a) → V G x σ lv (pc + 3) st) : V G x σ lv pc (.int b :: .int a :: st) := by
  obtain ⟨p, l, e, R, s, m, args, below, meth, c, cells, slots, Q, nL⟩ := x
  obtain ⟨hx, hb, ⟨hml, rfl⟩, hown, hts, hK, hD, hZ, hfr, hlo, hcl, hsl⟩ := O
  intro H locs ls hP hS hl
  exact lv_icmp_ge hx hb hd ht (fun hc => k1 hc H locs ls hP hS hl) (fun hc => k2 hc H locs ls hP hS hl)
theorem V_if_gt (pc tgt : Nat) {a : Int32} {off : Int} {ρ : Type} {A B : Option ρ} {X : ρ} (O : zO G x cc own fr lo mL) (hd : decode cc pc = .ok (.ifCond .gt off, 3)) (ht : (pc : Int) + off = (tgt : Int)) (h : (if 0 < a then A else B) = some X) (k1 : A = some X → V G x σ lv tgt st) (k2 : B = some X → V G x σ lv (pc + 3) st) : V G x σ lv pc (.int a :: st) := by
  obtain ⟨p, l, e, R, s, m, args, below, meth, c, cells, slots, Q, nL⟩ := x
  obtain ⟨hx, hb, ⟨hml, rfl⟩, hown, hts, hK, hD, hZ, hfr, hlo, hcl, hsl⟩ := O
  intro H locs ls hP hS hl
  exact lv_if_gt hx hb hd ht (fun hc => k1 (by rw [if_pos hc] at h; exact h) H locs ls hP hS hl) (fun hc => k2 (by rw [if_neg hc] at h; exact h) H locs ls hP hS hl)
theorem V_if_gtc (pc tgt : Nat) {a : Int32} {off : Int} (O : zO G x cc own fr lo mL) (hd : decode cc pc = .ok (.ifCond .gt off, 3)) (ht : (pc : Int) + off = (tgt : Int)) (k1 : 0 < a → V G x σ lv tgt st) (k2 : ¬ (0 < a) → V G x σ lv (pc + 3) st) : V G x σ lv pc (.int a :: st) := by
  obtain ⟨p, l, e, R, s, m, args, below, meth, c, cells, slots, Q, nL⟩ := x
  obtain ⟨hx, hb, ⟨hml, rfl⟩, hown, hts, hK, hD, hZ, hfr, hlo, hcl, hsl⟩ := O
  intro H locs ls hP hS hl
  exact lv_if_gt hx hb hd ht (fun hc => k1 hc H locs ls hP hS hl) (fun hc => k2 hc H locs ls hP hS hl)
theorem V_icmp_gt (pc tgt : Nat) {a b : Int32} {off : Int} {ρ : Type} {A B : Option ρ} {X : ρ} (O : zO G x cc own fr lo mL) (hd : decode cc pc = .ok (.if_icmp .gt off, 3)) (ht : (pc : Int) + off = (tgt : Int)) (h : (if b < a then A else B) = some X) (k1 : A = some X → V G x σ lv tgt st) (k2 : B = some X → V G x σ lv (pc + 3) st) : V G x σ lv pc (.int b :: .int a :: st) := by
  obtain ⟨p, l, e, R, s, m, args, below, meth, c, cells, slots, Q, nL⟩ := x
  obtain ⟨hx, hb, ⟨hml, rfl⟩, hown, hts, hK, hD, hZ, hfr, hlo, hcl, hsl⟩ := O
  intro H locs ls hP hS hl
  exact lv_icmp_gt hx hb hd ht (fun hc => k1 (by rw [if_pos hc] at h; exact h) H locs ls hP hS hl) (fun hc => k2 (by rw [if_neg hc] at h; exact h) H locs ls hP hS hl)
theorem V_icmp_gtc (pc tgt : Nat) {a b : Int32} {off : Int} (O : zO G x cc own fr lo mL) (hd : decode cc pc = .ok (.if_icmp .gt off, 3)) (ht : (pc : Int) + off = (tgt : Int)) (k1 : b < a → V G x σ lv tgt st) (k2 : ¬ (b < a) → V G x σ lv (pc + 3) st) : V G x σ lv pc (.int b :: .int a :: st) := by
  obtain ⟨p, l, e, R, s, m, args, below, meth, c, cells, slots, Q, nL⟩ := x
  obtain ⟨hx, hb, ⟨hml, rfl⟩, hown, hts, hK, hD, hZ, hfr, hlo, hcl, hsl⟩ := O
  intro H locs ls hP hS hl
  exact lv_icmp_gt hx hb hd ht (fun hc => k1 hc H locs ls hP hS hl) (fun hc => k2 hc H locs ls hP hS hl)
theorem V_if_le (pc tgt : Nat) {a : Int32} {off : Int} {ρ : Type} {A B : Option ρ} {X : ρ} (O : zO G x cc own fr lo mL) (hd : decode cc pc = .ok (.ifCond .le off, 3)) (ht : (pc : Int) + off = (tgt : Int)) (h : (if a ≤ 0 then A else B) = some X) (k1 : A = some X → V G x σ lv tgt st) (k2 : B = some X → V G x σ lv (pc + 3) st) : V G x σ lv pc (.int a :: st) := by
  obtain ⟨p, l, e, R, s, m, args, below, meth, c, cells, slots, Q, nL⟩ := x
  obtain ⟨hx, hb, ⟨hml, rfl⟩, hown, hts, hK, hD, hZ, hfr, hlo, hcl, hsl⟩ := O
  intro H locs ls hP hS hl
  exact lv_if_le hx hb hd ht (fun hc => k1 (by rw [if_pos hc] at h; exact h) H locs ls hP hS hl) (fun hc => k2 (by rw [if_neg hc] at h; exact h) H locs ls hP hS hl)
theorem V_if_lec (pc tgt : Nat) {a : Int32} {off : Int} (O : zO G x cc own fr lo mL) (hd : decode cc pc = .ok (.ifCond .le off, 3)) (ht : (pc : Int) + off = (tgt : Int)) (k1 : a ≤ 0 → V G x σ lv tgt st) (k2 : ¬ (a ≤ 0) → V G x σ lv (pc + 3) st) : V G x σ lv pc (.int a :: st) := by
  obtain ⟨p, l, e, R, s, m, args, below, meth, c, cells, slots, Q, nL⟩ := x
  obtain ⟨hx, hb, ⟨hml, rfl⟩, hown, hts, hK, hD, hZ, hfr, hlo, hcl, hsl⟩ := O
  intro H locs ls hP hS hl
  exact lv_if_le hx hb hd ht (fun hc => k1 hc H locs ls hP hS hl) (fun hc => k2 hc H locs ls hP hS hl)
theorem V_icmp_le (pc tgt : Nat) {a b : Int32} {off : Int} {ρ : Type} {A B : Option ρ} {X : ρ} (O : zO G x cc own fr lo mL) (hd : decode cc pc = .ok (.if_icmp .le off, 3)) (ht : (pc : Int) + off = (tgt : Int)) (h : (if a ≤ b then A else B) = some X) (k1 : A = some X → V G x σ lv tgt st) (k2 : B = some X → V G x σ lv (pc + 3) st) : V G x σ lv pc (.int b :: .int a :: st) := by
  obtain ⟨p, l, e, R, s, m, args, below, meth, c, cells, slots, Q, nL⟩ := x
  obtain ⟨hx, hb, ⟨hml, rfl⟩, hown, hts, hK, hD, hZ, hfr, hlo, hcl, hsl⟩ := O
  intro H locs ls hP hS hl
  exact lv_icmp_le hx hb hd ht (fun hc => k1 (by rw [if_pos hc] at h; exact h) H locs ls hP hS hl) (fun hc => k2 (by rw [if_neg hc] at h; exact h) H locs ls hP hS hl)
theorem V_icmp_lec (pc tgt : Nat) {a b : Int32} {off : Int} (O : zO G x cc own fr lo mL) (hd : decode cc pc = .ok (.if_icmp .le off, 3)) (ht : (pc : Int) + off = (tgt : Int)) (k1 : a ≤ b → V G x σ lv tgt st) (k2 : ¬ (a ≤ b) → V G x σ lv (pc + 3) st) : V G x σ lv pc (.int b :: .int a :: st) := by
  obtain ⟨p, l, e, R, s, m, args, below, meth, c, cells, slots, Q, nL⟩ := x
  obtain ⟨hx, hb, ⟨hml, rfl⟩, hown, hts, hK, hD, hZ, hfr, hlo, hcl, hsl⟩ := O
  intro H locs ls hP hS hl
  exact lv_icmp_le hx hb hd ht (fun hc => k1 hc H locs ls hP hS hl) (fun hc => k2 hc H locs ls hP hS hl)
theorem V_tabO (pc tgt : Nat) {dflt lo' hi : Int} {offs : Array Int} {len : Nat} {a : Int32} (O : zO G x cc own fr lo mL) (hd : decode cc pc = .ok (.tableswitch dflt lo' hi offs, len)) (h : a.toInt < lo' ∨ hi < a.toInt) (ht : (pc : Int) + dflt = (tgt : Int)) (k : V G x σ lv tgt st) : V G x σ lv pc (.int a :: st) := by
  obtain ⟨p, l, e, R, s, m, args, below, meth, c, cells, slots, Q, nL⟩ := x
  obtain ⟨hx, hb, ⟨hml, rfl⟩, hown, hts, hK, hD, hZ, hfr, hlo, hcl, hsl⟩ := O
  intro H locs ls hP hS hl
  exact lv_tableOut hx hb hd h ht (k H locs ls hP hS hl)
theorem V_tabI (pc tgt : Nat) {dflt lo' hi off : Int} {offs : Array Int} {len : Nat} {a : Int32} (O : zO G x cc own fr lo mL) (hd : decode cc pc = .ok (.tableswitch dflt lo' hi offs, len)) (h1 : ¬ a.toInt < lo') (h2 : ¬ hi < a.toInt) (ho : offs[(a.toInt - lo').toNat]? = some off) (ht : (pc : Int) + off = (tgt : Int)) (k : V G x σ lv tgt st) : V G x σ lv pc (.int a :: st) := by
  obtain ⟨p, l, e, R, s, m, args, below, meth, c, cells, slots, Q, nL⟩ := x
  obtain ⟨hx, hb, ⟨hml, rfl⟩, hown, hts, hK, hD, hZ, hfr, hlo, hcl, hsl⟩ := O
  intro H locs ls hP hS hl
  exact lv_tableIn hx hb hd h1 h2 ho ht (k H locs ls hP hS hl)
/-! fields -/
theorem zc_obj (G : zG) (σ : Sg) (o ci N : Nat) : zc G σ o (ci + 10, N) = .inr (ci, zfs G σ o ci) := rfl
theorem wd_obj {G : zG} {σ : Sg} {o ci N : Nat} (h : zT[o]? = some (ci + 10, N)) : (wd G σ)[o]? = some (zad G o, .inr (ci, zfs G σ o ci)) := wd_at h
/-- what a getfield or putfield of class 'own' at 'index' names: field j of class ci; b: is it a reference -/
def zF (own : String) (index ci j : Nat) (b : Bool) : Prop := ∃ (C : String) (T : u_T) (N : Nat), vwCl[ci]? = some (C, T, N) ∧ (∀ w ∈ u_ws C T N, w ∈ zW) ∧ j < N ∧ (zRf.getD ci [])[j]? = some b ∧ Cond.fieldLink own index (T j).1 (T j).2.1 (T j).2.2.1 ∈ zW
def zFp (own : String) (index ci j : Nat) : Prop := ∃ (C : String) (T : u_T) (N : Nat) (ty0 : Nat → FieldType), vwCl[ci]? = some (C, T, N) ∧ (∀ w ∈ u_ws C T N, w ∈ zW) ∧ j < N ∧ (zRf.getD ci [])[j]? = some false ∧ Cond.fieldLink own index (T j).1 (T j).2.1 (T j).2.2.1 ∈ zW ∧ (T j).2.2.2 = false ∧ parseFieldDescriptor (T j).2.2.1 = some .int ∧ (∀ k, k < N → parseFieldDescriptor (T k).2.2.1 = some (ty0 k)) ∧ (∀ a, a < N → ∀ b, b < N → a ≠ b → (T a).2.1 ≠ (T b).2.1)
theorem V_getI (pc : Nat) {o index ci N j : Nat} (O : zO G x cc own fr lo mL) (hk : zT[o]? = some (ci + 10, N)) (hf : zF own index ci j false) (hd : decode cc pc = .ok (.getfield index, 3)) (k : V G x σ lv (pc + 3) (.int (σ o j) :: st)) : V G x σ lv pc (.ref (zad G o) :: st) := by
  obtain ⟨p, l, e, R, s, m, args, below, meth, c, cells, slots, Q, nL⟩ := x
  obtain ⟨hx, hb, ⟨hml, rfl⟩, hown, hts, hK, hD, hZ, hfr, hlo, hcl, hsl⟩ := O
  intro H locs ls hP hS hl
  obtain ⟨C, T, N, hc, hu, hj, hr, hlk⟩ := hf
  exact va_get hx hb hts hu hown hK hP o (wd_obj hk) hc j hj (hts _ hlk) (fun _ h => h) (by have h := zfs_at (G := G) (σ := σ) (o := o) hr; simpa using h) hd (k H locs ls hP hS hl)
theorem V_getR (pc : Nat) {o index ci N j o' : Nat} (O : zO G x cc own fr lo mL) (hk : zT[o]? = some (ci + 10, N)) (hf : zF own index ci j true) (hq : rf o j = o') (hd : decode cc pc = .ok (.getfield index, 3)) (k : V G x σ lv (pc + 3) (.ref (zad G o') :: st)) : V G x σ lv pc (.ref (zad G o) :: st) := by
  obtain ⟨p, l, e, R, s, m, args, below, meth, c, cells, slots, Q, nL⟩ := x
  obtain ⟨hx, hb, ⟨hml, rfl⟩, hown, hts, hK, hD, hZ, hfr, hlo, hcl, hsl⟩ := O
  intro H locs ls hP hS hl
  subst hq
  obtain ⟨C, T, N, hc, hu, hj, hr, hlk⟩ := hf
  exact va_get hx hb hts hu hown hK hP o (wd_obj hk) hc j hj (hts _ hlk) (fun _ h => h) (by have h := zfs_at (G := G) (σ := σ) (o := o) hr; simpa using h) hd (k H locs ls hP hS hl)
theorem V_put (pc : Nat) {o index ci N j : Nat} {v : Int32} {ρ : Type} {F : Sg → Option ρ} {X : ρ} (O : zO G x cc own fr lo mL) (hk : zT[o]? = some (ci + 10, N)) (hf : zFp own index ci j) (hd : decode cc pc = .ok (.putfield index, 3)) (h : lt (up2 σ o j v) F = some X) (k : ∀ τ : Sg, F τ = some X → V G x τ lv (pc + 3) st) : V G x σ lv pc (.int v :: .ref (zad G o) :: st) := by
  obtain ⟨p, l, e, R, s, m, args, below, meth, c, cells, slots, Q, nL⟩ := x
  obtain ⟨hx, hb, ⟨hml, rfl⟩, hown, hts, hK, hD, hZ, hfr, hlo, hcl, hsl⟩ := O
  intro H locs ls hP hS hl
  obtain ⟨C, T, N, ty0, hc, hu, hj, hr, hlk, hfin, hpa, hty, hnm⟩ := hf
  have hlen : j < (zfs G σ o ci).length := by rw [zfs_len]; exact (List.getElem?_eq_some_iff.mp hr).1
  have ew : (wd G σ).set o (zad G o, .inr (ci, (zfs G σ o ci).set j (.int v))) = wd G (up2 σ o j v) := by
    rw [zfs_set hr]
    exact wd_set (t := (ci + 10, _)) hk (fun o' h' => up2_ne h')
  refine va_put hx hb hts hu ty0 hty hnm hown hK hP (hD σ) hS o (wd_obj hk) hc j hj (hts _ hlk) (fun _ h => h) hfin hpa rfl rfl hlen hd (fun H1 locs1 hP1 hD1 hS1 => ?_)
  exact k _ h H1 locs1 ls (ew ▸ hP1) hS1 hl
/-! arrays -/
theorem V_iald (pc : Nat) {o n : Nat} {i : Int32} {ρ : Type} {A : Option ρ} {X : ρ} (O : zO G x cc own fr lo mL) (hk : zT[o]? = some (0, n)) (hd : decode cc pc = .ok (.iaload, 1)) (h : ck i n A = some X) (k : A = some X → V G x σ lv (pc + 1) (.int (σ o (ix i)) :: st)) : V G x σ lv pc (.int i :: .ref (zad G o) :: st) := by
  obtain ⟨p, l, e, R, s, m, args, below, meth, c, cells, slots, Q, nL⟩ := x
  obtain ⟨hx, hb, ⟨hml, rfl⟩, hown, hts, hK, hD, hZ, hfr, hlo, hcl, hsl⟩ := O
  intro H locs ls hP hS hl
  exact va_iald hx hb hK hP o 0 (wd_at hk) rfl (ib_in (ck_of h).1) hd (k (ck_of h).2 H locs ls hP hS hl)
theorem V_bald (pc : Nat) {o n : Nat} {i : Int32} {ρ : Type} {A : Option ρ} {X : ρ} (O : zO G x cc own fr lo mL) (hk : zT[o]? = some (1, n)) (hd : decode cc pc = .ok (.baload, 1)) (h : ck i n A = some X) (k : A = some X → V G x σ lv (pc + 1) (.int (σ o (ix i)) :: st)) : V G x σ lv pc (.int i :: .ref (zad G o) :: st) := by
  obtain ⟨p, l, e, R, s, m, args, below, meth, c, cells, slots, Q, nL⟩ := x
  obtain ⟨hx, hb, ⟨hml, rfl⟩, hown, hts, hK, hD, hZ, hfr, hlo, hcl, hsl⟩ := O
  intro H locs ls hP hS hl
  exact va_bald hx hb hK hP o 1 (wd_at hk) rfl (ib_in (ck_of h).1) hd (k (ck_of h).2 H locs ls hP hS hl)
theorem V_zald (pc : Nat) {o n : Nat} {i : Int32} {ρ : Type} {A : Option ρ} {X : ρ} (O : zO G x cc own fr lo mL) (hk : zT[o]? = some (2, n)) (hd : decode cc pc = .ok (.baload, 1)) (h : ck i n A = some X) (k : A = some X → V G x σ lv (pc + 1) (.int (σ o (ix i)) :: st)) : V G x σ lv pc (.int i :: .ref (zad G o) :: st) := by
  obtain ⟨p, l, e, R, s, m, args, below, meth, c, cells, slots, Q, nL⟩ := x
  obtain ⟨hx, hb, ⟨hml, rfl⟩, hown, hts, hK, hD, hZ, hfr, hlo, hcl, hsl⟩ := O
  intro H locs ls hP hS hl
  exact va_zald hx hb hK hP o 2 (wd_at hk) rfl (ib_in (ck_of h).1) hd (k (ck_of h).2 H locs ls hP hS hl)
theorem V_iast (pc : Nat) {o n : Nat} {i v : Int32} {ρ : Type} {F : Sg → Option ρ} {X : ρ} (O : zO G x cc own fr lo mL) (hk : zT[o]? = some (0, n)) (hd : decode cc pc = .ok (.iastore, 1)) (h : ck i n (lt (up2 σ o (ix i) v) F) = some X) (k : ∀ τ : Sg, F τ = some X → V G x τ lv (pc + 1) st) : V G x σ lv pc (.int v :: .int i :: .ref (zad G o) :: st) := by
  obtain ⟨p, l, e, R, s, m, args, below, meth, c, cells, slots, Q, nL⟩ := x
  obtain ⟨hx, hb, ⟨hml, rfl⟩, hown, hts, hK, hD, hZ, hfr, hlo, hcl, hsl⟩ := O
  intro H locs ls hP hS hl
  have ew : (wd G σ).set o (zad G o, .inl (G.2.2.1 0, n, .inl (upd (σ o) i.toNatClampNeg v))) = wd G (up2 σ o (ix i) v) := by
    rw [← wd_set (t := (0, n)) hk (fun o' h' => up2_ne (σ := σ) (v := v) (j := ix i) h')]
    show _ = (wd G σ).set o (zad G o, .inl (G.2.2.1 0, n, .inl (up2 σ o (ix i) v o)))
    rw [up2_at]
    rfl
  refine va_iast hx hb hK hP (hD σ) hS o 0 (wd_at hk) rfl (ib_in (ck_of h).1) hd (fun H1 locs1 hP1 hD1 hS1 => ?_)
  exact k _ (ck_of h).2 H1 locs1 ls (ew ▸ hP1) hS1 hl
theorem V_bast (pc : Nat) {o n : Nat} {i v : Int32} {ρ : Type} {F : Sg → Option ρ} {X : ρ} (O : zO G x cc own fr lo mL) (hk : zT[o]? = some (1, n)) (hd : decode cc pc = .ok (.bastore, 1)) (h : ck i n (lt (up2 σ o (ix i) (vp_nar .byte v)) F) = some X) (k : ∀ τ : Sg, F τ = some X → V G x τ lv (pc + 1) st) : V G x σ lv pc (.int v :: .int i :: .ref (zad G o) :: st) := by
  obtain ⟨p, l, e, R, s, m, args, below, meth, c, cells, slots, Q, nL⟩ := x
  obtain ⟨hx, hb, ⟨hml, rfl⟩, hown, hts, hK, hD, hZ, hfr, hlo, hcl, hsl⟩ := O
  intro H locs ls hP hS hl
  have ew : (wd G σ).set o (zad G o, .inl (G.2.2.1 1, n, .inl (upd (σ o) i.toNatClampNeg (vp_nar .byte v)))) = wd G (up2 σ o (ix i) (vp_nar .byte v)) := by
    rw [← wd_set (t := (1, n)) hk (fun o' h' => up2_ne (σ := σ) (v := (vp_nar .byte v)) (j := ix i) h')]
    show _ = (wd G σ).set o (zad G o, .inl (G.2.2.1 1, n, .inl (up2 σ o (ix i) (vp_nar .byte v) o)))
    rw [up2_at]
    rfl
  refine va_bast hx hb hK hP (hD σ) hS o 1 (wd_at hk) rfl (ib_in (ck_of h).1) hd (fun H1 locs1 hP1 hD1 hS1 => ?_)
  exact k _ (ck_of h).2 H1 locs1 ls (ew ▸ hP1) hS1 hl
theorem V_zast (pc : Nat) {o n : Nat} {i v : Int32} {ρ : Type} {F : Sg → Option ρ} {X : ρ} (O : zO G x cc own fr lo mL) (hk : zT[o]? = some (2, n)) (hd : decode cc pc = .ok (.bastore, 1)) (h : ck i n (lt (up2 σ o (ix i) (vp_nar .boolean v)) F) = some X) (k : ∀ τ : Sg, F τ = some X → V G x τ lv (pc + 1) st) : V G x σ lv pc (.int v :: .int i :: .ref (zad G o) :: st) := by
  obtain ⟨p, l, e, R, s, m, args, below, meth, c, cells, slots, Q, nL⟩ := x
  obtain ⟨hx, hb, ⟨hml, rfl⟩, hown, hts, hK, hD, hZ, hfr, hlo, hcl, hsl⟩ := O
  intro H locs ls hP hS hl
  have ew : (wd G σ).set o (zad G o, .inl (G.2.2.1 2, n, .inl (upd (σ o) i.toNatClampNeg (vp_nar .boolean v)))) = wd G (up2 σ o (ix i) (vp_nar .boolean v)) := by
    rw [← wd_set (t := (2, n)) hk (fun o' h' => up2_ne (σ := σ) (v := (vp_nar .boolean v)) (j := ix i) h')]
    show _ = (wd G σ).set o (zad G o, .inl (G.2.2.1 2, n, .inl (up2 σ o (ix i) (vp_nar .boolean v) o)))
    rw [up2_at]
    rfl
  refine va_zast hx hb hK hP (hD σ) hS o 2 (wd_at hk) rfl (ib_in (ck_of h).1) hd (fun H1 locs1 hP1 hD1 hS1 => ?_)
  exact k _ (ck_of h).2 H1 locs1 ls (ew ▸ hP1) hS1 hl
theorem V_aald (pc : Nat) {o n : Nat} {i : Int32} {ρ : Type} {A : Option ρ} {X : ρ} (O : zO G x cc own fr lo mL) (hk : zT[o]? = some (3, n)) (hd : decode cc pc = .ok (.aaload, 1)) (h : ck i n A = some X) (k : ib i n = true → A = some X → V G x σ lv (pc + 1) (.ref (zad G (rf o (ix i))) :: st)) : V G x σ lv pc (.int i :: .ref (zad G o) :: st) := by
  obtain ⟨p, l, e, R, s, m, args, below, meth, c, cells, slots, Q, nL⟩ := x
  obtain ⟨hx, hb, ⟨hml, rfl⟩, hown, hts, hK, hD, hZ, hfr, hlo, hcl, hsl⟩ := O
  intro H locs ls hP hS hl
  exact va_aldq hx hb hK hP o 3 (wd_at hk) rfl (ib_in (ck_of h).1) hd (k (ck_of h).1 (ck_of h).2 H locs ls hP hS hl)
theorem V_alen (pc : Nat) {o n : Nat} (O : zO G x cc own fr lo mL) (hk : zT[o]? = some (0, n)) (hd : decode cc pc = .ok (.arraylength, 1)) (k : V G x σ lv (pc + 1) (.int (nI n) :: st)) : V G x σ lv pc (.ref (zad G o) :: st) := by
  obtain ⟨p, l, e, R, s, m, args, below, meth, c, cells, slots, Q, nL⟩ := x
  obtain ⟨hx, hb, ⟨hml, rfl⟩, hown, hts, hK, hD, hZ, hfr, hlo, hcl, hsl⟩ := O
  intro H locs ls hP hS hl
  exact va_alen hx hb hK hP o 0 (wd_at hk) (ty := .int) rfl rfl hd (k H locs ls hP hS hl)
/-! Math, arraycopy -/
theorem V_min (pc : Nat) {index : Nat} {a b : Int32} (O : zO G x cc own fr lo mL) (hlk : Cond.methodLink own index Lib.Math.min.name ∈ zW) (h1 : Cond.static Lib.Math.min.name ∈ zW) (h2 : Cond.initialized "java/lang/Math" ∈ zW) (h3 : Cond.code Lib.Math.min.name Lib.Math.min.code 2 (some .int) ∈ zW) (hf : 1 ≤ fr) (hr : (st.map fun v => v.category).sum + 13 ≤ lo) (hd : decode cc pc = .ok (.invokestatic index, 3)) (k : V G x σ lv (pc + 3) (.int (imin a b) :: st)) : V G x σ lv pc (.int b :: .int a :: st) := by
  obtain ⟨p, l, e, R, s, m, args, below, meth, c, cells, slots, Q, nL⟩ := x
  obtain ⟨hx, hb, ⟨hml, rfl⟩, hown, hts, hK, hD, hZ, hfr, hlo, hcl, hsl⟩ := O
  intro H locs ls hP hS hl
  exact va_mmin hx hb (hml.trans hl.1.symm) hown (hts _ hlk) (hts _ h1) (hts _ h2) (hts _ h3) (Nat.le_trans hf hfr) (Nat.le_trans hr hlo) hcl hsl hd (k H locs ls hP hS hl)
theorem V_max (pc : Nat) {index : Nat} {a b : Int32} (O : zO G x cc own fr lo mL) (hlk : Cond.methodLink own index Lib.Math.max.name ∈ zW) (h1 : Cond.static Lib.Math.max.name ∈ zW) (h2 : Cond.initialized "java/lang/Math" ∈ zW) (h3 : Cond.code Lib.Math.max.name Lib.Math.max.code 2 (some .int) ∈ zW) (hf : 1 ≤ fr) (hr : (st.map fun v => v.category).sum + 13 ≤ lo) (hd : decode cc pc = .ok (.invokestatic index, 3)) (k : V G x σ lv (pc + 3) (.int (imax a b) :: st)) : V G x σ lv pc (.int b :: .int a :: st) := by
  obtain ⟨p, l, e, R, s, m, args, below, meth, c, cells, slots, Q, nL⟩ := x
  obtain ⟨hx, hb, ⟨hml, rfl⟩, hown, hts, hK, hD, hZ, hfr, hlo, hcl, hsl⟩ := O
  intro H locs ls hP hS hl
  exact va_mmax hx hb (hml.trans hl.1.symm) hown (hts _ hlk) (hts _ h1) (hts _ h2) (hts _ h3) (Nat.le_trans hf hfr) (Nat.le_trans hr hlo) hcl hsl hd (k H locs ls hP hS hl)
theorem V_copy (pc : Nat) {index oa ob : Nat} {ρ : Type} {F : Sg → Option ρ} {X : ρ} (O : zO G x cc own fr lo mL) (hlk : Cond.methodLink own index arraycopyName ∈ zW) (h0 : Cond.native arraycopyName ∈ zW) (h1 : Cond.static arraycopyName ∈ zW) (h2 : Cond.initialized "java/lang/System" ∈ zW) (hka : zT[oa]? = some (0, 10)) (hkb : zT[ob]? = some (0, 10)) (hf : 1 ≤ fr) (hr : (st.map fun v => v.category).sum + (nativeFrameWords "java/lang/System" "arraycopy" 5 + 11) ≤ lo) (hd : decode cc pc = .ok (.invokestatic index, 3)) (h : lt (cp2 σ oa ob 0 0 10) F = some X) (k : ∀ τ : Sg, F τ = some X → V G x τ lv (pc + 3) st) : V G x σ lv pc (.int 10 :: .int 0 :: .ref (zad G ob) :: .int 0 :: .ref (zad G oa) :: st) := by
  obtain ⟨p, l, e, R, s, m, args, below, meth, c, cells, slots, Q, nL⟩ := x
  obtain ⟨hx, hb, ⟨hml, rfl⟩, hown, hts, hK, hD, hZ, hfr, hlo, hcl, hsl⟩ := O
  intro H locs ls hP hS hl
  have e10 : (10 : Int32).toNatClampNeg = 10 := by decide
  have e0 : (0 : Int32).toNatClampNeg = 0 := by decide
  have ew : (wd G σ).set ob (zad G ob, .inl (G.2.2.1 0, 10, .inl (va_cpy (σ oa) (σ ob) (0 : Int32).toNatClampNeg (0 : Int32).toNatClampNeg (10 : Int32).toNatClampNeg))) = wd G (cp2 σ oa ob 0 0 10) := by
    rw [← wd_set (σ := σ) (σ' := cp2 σ oa ob 0 0 10) (t := (0, 10)) hkb (fun o' h' => by simp [cp2, h'])]
    show _ = (wd G σ).set ob (zad G ob, .inl (G.2.2.1 0, 10, .inl (cp2 σ oa ob 0 0 10 ob)))
    rw [e10, e0]
    simp [cp2]
  refine va_copyi (ty := .int) hx hb (hml.trans hl.1.symm) hown (hts _ hlk) (hts _ h0) (hts _ h1) (hts _ h2) hK hP (hD σ) hS oa ob 0 0 (wd_at hka) (wd_at hkb) rfl rfl rfl (by decide) (by decide) (by decide) (by decide) (by decide) (fun i _ => rfl) (Nat.le_trans hf hfr) (Nat.le_trans hr hlo) hd (fun H1 locs1 hP1 hD1 hS1 => ?_)
  exact k _ h H1 locs1 ls (ew ▸ hP1) hS1 hl
/-! returns -/
theorem V_iret (pc : Nat) {v r : Int32} {τ : Sg} (O : zO G x cc own fr lo mL) (E : zE G x (some .int) (some (.int r)) τ) (hd : decode cc pc = .ok (.ireturn, 1)) (h : some (v, σ) = some (r, τ)) : V G x σ lv pc [.int v] := by
  obtain ⟨p, l, e, R, s, m, args, below, meth, c, cells, slots, Q, nL⟩ := x
  obtain ⟨hx, hb, ⟨hml, rfl⟩, hown, hts, hK, hD, hZ, hfr, hlo, hcl, hsl⟩ := O
  intro H locs ls hP hS hl
  obtain ⟨rfl, hr, hlk⟩ := E
  cases h
  exact W.iret hx hb hr (fun t ht hW => ⟨rfl, by rw [ht]; exact hP, hS.F ht⟩) hS.2.2 hd hlk
theorem V_zret (pc : Nat) {v r : Int32} {τ : Sg} (O : zO G x cc own fr lo mL) (E : zE G x (some .boolean) (some (.int r)) τ) (hd : decode cc pc = .ok (.ireturn, 1)) (h : bck v (some (v, σ)) = some (r, τ)) : V G x σ lv pc [.int v] := by
  obtain ⟨p, l, e, R, s, m, args, below, meth, c, cells, slots, Q, nL⟩ := x
  obtain ⟨hx, hb, ⟨hml, rfl⟩, hown, hts, hK, hD, hZ, hfr, hlo, hcl, hsl⟩ := O
  intro H locs ls hP hS hl
  obtain ⟨rfl, hr, hlk⟩ := E
  have hv := (bck_of h).1
  have h2 := (bck_of h).2
  cases h2
  exact W.zret hx hb hr (by rcases hv with rfl | rfl <;> decide) (fun t ht hW => ⟨rfl, by rw [ht]; exact hP, hS.F ht⟩) hS.2.2 hd hlk
theorem V_zret0 (pc : Nat) {r : Int32} {τ : Sg} (O : zO G x cc own fr lo mL) (E : zE G x (some .boolean) (some (.int r)) τ) (hd : decode cc pc = .ok (.ireturn, 1)) (h : some ((0 : Int32), σ) = some (r, τ)) : V G x σ lv pc [.int 0] := V_zret pc O E hd (by unfold bck; rw [if_pos (Or.inl rfl)]; exact h)
theorem V_zret1 (pc : Nat) {r : Int32} {τ : Sg} (O : zO G x cc own fr lo mL) (E : zE G x (some .boolean) (some (.int r)) τ) (hd : decode cc pc = .ok (.ireturn, 1)) (h : some ((1 : Int32), σ) = some (r, τ)) : V G x σ lv pc [.int 1] := V_zret pc O E hd (by unfold bck; rw [if_pos (Or.inr rfl)]; exact h)
theorem V_vret (pc : Nat) {τ : Sg} (O : zO G x cc own fr lo mL) (E : zE G x none none τ) (hd : decode cc pc = .ok (.return_, 1)) (h : some σ = some τ) : V G x σ lv pc [] := by
  obtain ⟨p, l, e, R, s, m, args, below, meth, c, cells, slots, Q, nL⟩ := x
  obtain ⟨hx, hb, ⟨hml, rfl⟩, hown, hts, hK, hD, hZ, hfr, hlo, hcl, hsl⟩ := O
  intro H locs ls hP hS hl
  obtain ⟨rfl, hr, hlk⟩ := E
  cases h
  exact W.vret hx hb hr (fun t ht hW => ⟨rfl, by rw [ht]; exact hP, hS.F ht⟩) hS.2.2 hd hlk
theorem V_aret (pc : Nat) {v r : Nat} {C : String} {τ : Sg} (O : zO G x cc own fr lo mL) (E : zE G x (some (.object C)) (some (.ref (zad G r))) τ) (hd : decode cc pc = .ok (.areturn, 1)) (h : some (v, σ) = some (r, τ)) : V G x σ lv pc [.ref (zad G v)] := by
  obtain ⟨p, l, e, R, s, m, args, below, meth, c, cells, slots, Q, nL⟩ := x
  obtain ⟨hx, hb, ⟨hml, rfl⟩, hown, hts, hK, hD, hZ, hfr, hlo, hcl, hsl⟩ := O
  intro H locs ls hP hS hl
  obtain ⟨rfl, hr, hlk⟩ := E
  cases h
  exact W.aret hx hb hr (Or.inl ⟨_, rfl⟩) (Or.inr ⟨_, rfl⟩) (fun t ht hW => ⟨rfl, by rw [ht]; exact hP, hS.F ht⟩) hS.2.2 hd hlk
end ZR
