/-! ===== calls over V; a contract out of a walk ===== -/
theorem zS_same {G : zG} {u U : State} (hh : U.heap = u.heap) (hv : U.vm = u.vm) (h : zS G u) : zS G U := by
  obtain ⟨h1, h2, h3, h4, h5⟩ := h
  have ha : u.vm.Alike U.vm := by rw [hv]; exact Vm.Alike.refl u.vm
  refine ⟨?_, fun i q hq => vk_R.same hv (h2 i q hq), ?_, ?_, va_Nw.same rfl hv.symm h5⟩
  · rw [hh]; exact vk_S.moved ha h1
  · rw [hh]; exact va_Z.moved ha h3
  · rw [hh]; exact va_Zq.moved ha h4
theorem zS_move {G : zG} {s U : State} {H : Heap} {locs : List Loc} (hS : va_S (zA G) s.heap H locs) (hU : U.heap = H) (hW : s.WarmedH U.vm) (h : zS G s) : zS G U := by
  obtain ⟨h1, h2, h3, h4, h5⟩ := h
  refine ⟨?_, fun i q hq => vk_R.warm hW (h2 i q hq), ?_, ?_, va_Nw.warmM hW h5⟩
  · rw [hU]; exact (vk_S.moved hW.alike h1).kept hS.2.1
  · rw [hU]; exact (va_Z.moved hW.alike h3).kept hS.2.1
  · rw [hU]; exact (va_Zq.moved hW.alike h4).kept hS.2.1
theorem zI_blind (G : zG) (σ : Sg) (av : List Value) : FrameBlind (va_Pc av (zI G σ)) := by
  intro a U g mk h
  obtain ⟨h0, h1, h2, h3, h4⟩ := h
  exact ⟨h0, h1, va_K.moved (u := U) (U := U.calling g mk a) (Vm.Alike.refl U.vm) h2, h3, zS_same (u := U) rfl rfl h4⟩
theorem zI_at {G : zG} {σ : Sg} {av : List Value} {s : State} {H : Heap} {locs : List Loc} (hP : va_P G.1 vwCl (wd G σ) H) (hK : va_K G.1 vwCl (zty G) s) (hD : va_D (zA G) (wd G σ)) (hZ : zS G s) (hS : va_S (zA G) s.heap H locs) : ∀ U : State, U.heap = H → s.WarmedH U.vm → va_Pc av (zI G σ) av.toArray U := by
  intro U hU hW
  exact ⟨rfl, by rw [hU]; exact hP, va_K.moved hW.alike hK, hD, zS_move hS hU hW hZ⟩
/-- behind a call, whatever it was -/
theorem va_back {p : Program} {l : Launch} {e : Env} {R : Room} {s : State} {m : MethodId} {args : Array Value} {below : List Frame} {meth : Method} {c : Code} {H : Heap} {locs : List Loc} {cells slots : Nat} {Q : State → Prop} {G : zG} {σ' : Sg} {r : Option Value} {a : Array Value} {rest st0 : List Value} {pc nL : Nat} {ls : Array Slot} {lv : List (Nat × Value)} (hr : va_Run p l e R s m args below meth c H locs cells slots 0 0 (F0 m pc ls st0) rest (zQ G r σ' a) (zA G)) (hS : va_S (zA G) s.heap H locs) (hl : lv_has ls nL lv)
    (k : V G (p, l, e, R, s, m, args, below, meth, c, cells, slots, Q, nL) σ' lv (pc + 3) (r.toList ++ rest)) : W p l e R s m args below meth c H locs cells slots Q (F0 m pc ls st0) := by
  intro T hT X
  obtain ⟨v, st₀, t, T', L, h0, X', hL, e1, e2, ⟨hv, hP1, hz, hk⟩, st⟩ := hr T hT X
  cases hv
  rw [h0] at hz hk
  obtain ⟨t2, a1, b1⟩ := k T'.heap (locs ++ L) ls (by rw [e1]; exact hP1)
    ⟨Nat.le_trans hS.1 (by rw [e1]; exact hz), fun q h1 h2 => by rw [e1, hk q (Nat.lt_of_lt_of_le h1 hS.1) h2]; exact hS.2.1 q h1 h2, fun q hq => by
      rcases List.mem_append.mp hq with h | h
      · exact hS.2.2 q h
      · exact hL q h⟩ hl T' rfl X'
  exact ⟨t2, st t2 a1, b1⟩
/-- what is known of a method that is called: virtual (or private), static, static of a nest mate -/
def mB (y : MethodName) (bytes : ByteArray) (maxL : Nat) (ret : Option FieldType) (n : Nat) : Prop := Cond.code y bytes maxL ret ∈ zW ∧ Cond.initialized y.cls ∈ zW ∧ (y.cls ≠ "java/lang/invoke/MethodHandle" ∧ y.cls ≠ "java/lang/invoke/VarHandle" ∧ (parseMethodDescriptor y.desc).map (fun d => d.parameters.length) = some n)
def mV (y : MethodName) (bytes : ByteArray) (maxL : Nat) (ret : Option FieldType) (n ci : Nat) : Prop := mB y bytes maxL ret n ∧ Cond.instanceMethod y ∈ zW ∧ Cond.selects y.cls y y ∈ zW ∧ ∃ (T : u_T) (N : Nat), vwCl[ci]? = some (y.cls, T, N)
def mS (y : MethodName) (bytes : ByteArray) (maxL : Nat) (ret : Option FieldType) (n : Nat) : Prop := mB y bytes maxL ret n ∧ Cond.static y ∈ zW
section ZC
variable {G : zG} {x : zX} {cc : ByteArray} {own : String} {fr lo mL : Nat} {σ : Sg} {lv : List (Nat × Value)}
theorem V_callV (pc : Nat) {st0 : List Value} (As rest : List Value) {y : MethodName} {bytes : ByteArray} {maxL n d index : Nat} {ret : Option FieldType} {ci o N : Nat} {r : Option Value} {σ' : Sg} (O : zO G x cc own fr lo mL) (hm : mV y bytes maxL ret n ci) (hlk : Cond.methodLink own index y ∈ zW) (hk : zT[o]? = some (ci + 10, N)) (hd : decode cc pc = .ok (.invokevirtual index, 3)) (hs0 : st0 = As.reverse ++ .ref (zad G o) :: rest) (hn : As.length = n) (hW : (rest.map fun v => v.category).sum ≤ 8) (hR : d + 1 ≤ fr ∧ 8 + (maxL + 11) + 40 * d ≤ lo)
    (hM : ∀ l, zM l G d y (.code y bytes maxL ret) (.ref (zad G o) :: As) σ r σ') (k : V G x σ' lv (pc + 3) (r.toList ++ rest)) : V G x σ lv pc st0 := by
  obtain ⟨p, l, e, R, s, m, args, below, meth, c, cells, slots, Q, nL⟩ := x
  obtain ⟨hx, hb, ⟨hml, rfl⟩, hown, hts, hK, hD, hZ, hfr, hlo, hcl, hsl⟩ := O
  intro H locs ls hP hS hl
  obtain ⟨⟨hcw, hini, hne1, hne2, hpa⟩, hinst, hsel, T, N', hvc⟩ := hm
  refine va_back (va_runV (As := As) (rest := rest) (C := y.cls) (b := zad G o) (bytes := bytes) (maxL := maxL) (ret := ret) (n := n) (index := index) ⟨hx, hb, hml, hown, hts⟩ (hM l) ⟨callB_of (Ts := zW) n hts (zW_cons hcw) rfl rfl rfl (hts _ hini) (hts _ hlk) ⟨hne1, hne2, hpa⟩ ⟨Nat.le_trans hR.1 hfr, Nat.le_trans hR.2 hlo⟩, hts _ hinst, hts _ hsel⟩ ⟨zI_blind G σ _, va_recv hK hP hvc (wd_obj hk), zI_at hP hK (hD σ) hZ hS⟩ rfl hn hl.1 hs0 (lv_room hW) hd ⟨hcl, hsl⟩) hS hl k
theorem V_callS (pc : Nat) {st0 : List Value} (As rest : List Value) {y : MethodName} {bytes : ByteArray} {maxL n d index : Nat} {ret : Option FieldType} {r : Option Value} {σ' : Sg} (O : zO G x cc own fr lo mL) (hm : mS y bytes maxL ret n) (hlk : Cond.methodLink own index y ∈ zW) (hd : decode cc pc = .ok (.invokestatic index, 3)) (hs0 : st0 = As.reverse ++ rest) (hn : As.length = n) (hW : (rest.map fun v => v.category).sum ≤ 8) (hR : d + 1 ≤ fr ∧ 8 + (maxL + 11) + 40 * d ≤ lo)
    (hM : ∀ l, zM l G d y (.code y bytes maxL ret) As σ r σ') (k : V G x σ' lv (pc + 3) (r.toList ++ rest)) : V G x σ lv pc st0 := by
  obtain ⟨p, l, e, R, s, m, args, below, meth, c, cells, slots, Q, nL⟩ := x
  obtain ⟨hx, hb, ⟨hml, rfl⟩, hown, hts, hK, hD, hZ, hfr, hlo, hcl, hsl⟩ := O
  intro H locs ls hP hS hl
  obtain ⟨⟨hcw, hini, hne1, hne2, hpa⟩, hst⟩ := hm
  refine va_back (va_runS (As := As) (rest := rest) (bytes := bytes) (maxL := maxL) (ret := ret) (n := n) (index := index) ⟨hx, hb, hml, hown, hts⟩ (hM l) ⟨callB_of (Ts := zW) n hts (zW_cons hcw) rfl rfl rfl (hts _ hini) (hts _ hlk) ⟨hne1, hne2, hpa⟩ ⟨Nat.le_trans hR.1 hfr, Nat.le_trans hR.2 hlo⟩, hts _ hst⟩ ⟨zI_blind G σ _, zI_at hP hK (hD σ) hZ hS⟩ rfl hn hl.1 hs0 (lv_room hW) hd ⟨hcl, hsl⟩) hS hl k
theorem V_callSN (pc : Nat) {st0 : List Value} (As rest : List Value) {bytes : ByteArray} {maxL n d : Nat} {ret : Option FieldType} {r : Option Value} {σ' : Sg} (O : zO G x cc "WaterTown$Reader" fr lo mL) (hm : mS ⟨"WaterTown", "isOutside", "(III)Z"⟩ bytes maxL ret n) (hd : decode cc pc = .ok (.invokestatic 125, 3)) (hs0 : st0 = As.reverse ++ rest) (hn : As.length = n) (hW : (rest.map fun v => v.category).sum ≤ 8) (hR : d + 1 ≤ fr ∧ 8 + (maxL + 11) + 40 * d ≤ lo)
    (hM : ∀ l, zM l G d ⟨"WaterTown", "isOutside", "(III)Z"⟩ (.code ⟨"WaterTown", "isOutside", "(III)Z"⟩ bytes maxL ret) As σ r σ') (k : V G x σ' lv (pc + 3) (r.toList ++ rest)) : V G x σ lv pc st0 := by
  obtain ⟨p, l, e, R, s, m, args, below, meth, c, cells, slots, Q, nL⟩ := x
  obtain ⟨hx, hb, ⟨hml, rfl⟩, hown, hts, hK, hD, hZ, hfr, hlo, hcl, hsl⟩ := O
  intro H locs ls hP hS hl
  obtain ⟨⟨hcw, hini, hne1, hne2, hpa⟩, hst⟩ := hm
  refine va_back (va_runSN (As := As) (rest := rest) (bytes := bytes) (maxL := maxL) (ret := ret) (n := n) (index := 125) ⟨hx, hb, hml, hown, hts⟩ (hM l) ⟨va_cnB (host := "WaterTown") (Ts := zW) n hts (zW_cons hcw) rfl rfl rfl hZ.2.2.2.2 (hts _ hini) ⟨hne1, hne2, hpa⟩ ⟨Nat.le_trans hR.1 hfr, Nat.le_trans hR.2 hlo⟩, hts _ hst, trivial⟩ ⟨zI_blind G σ _, zI_at hP hK (hD σ) hZ hS⟩ rfl hn hl.1 hs0 (lv_room hW) hd ⟨hcl, hsl⟩) hS hl k
theorem V_callVi (pc : Nat) {st0 : List Value} (As rest : List Value) {y : MethodName} {bytes : ByteArray} {maxL n d index : Nat} {ret : Option FieldType} {ci o N : Nat} {r : Int32} {σ' : Sg} (O : zO G x cc own fr lo mL) (hm : mV y bytes maxL ret n ci) (hlk : Cond.methodLink own index y ∈ zW) (hk : zT[o]? = some (ci + 10, N)) (hd : decode cc pc = .ok (.invokevirtual index, 3)) (hs0 : st0 = As.reverse ++ .ref (zad G o) :: rest) (hn : As.length = n) (hW : (rest.map fun v => v.category).sum ≤ 8) (hR : d + 1 ≤ fr ∧ 8 + (maxL + 11) + 40 * d ≤ lo) (hM : ∀ l, zM l G d y (.code y bytes maxL ret) (.ref (zad G o) :: As) σ (some (.int r)) σ') (k : V G x σ' lv (pc + 3) (.int r :: rest)) : V G x σ lv pc st0 := V_callV pc As rest O hm hlk hk hd hs0 hn hW hR hM k
theorem V_callVv (pc : Nat) {st0 : List Value} (As rest : List Value) {y : MethodName} {bytes : ByteArray} {maxL n d index : Nat} {ret : Option FieldType} {ci o N : Nat}  {σ' : Sg} (O : zO G x cc own fr lo mL) (hm : mV y bytes maxL ret n ci) (hlk : Cond.methodLink own index y ∈ zW) (hk : zT[o]? = some (ci + 10, N)) (hd : decode cc pc = .ok (.invokevirtual index, 3)) (hs0 : st0 = As.reverse ++ .ref (zad G o) :: rest) (hn : As.length = n) (hW : (rest.map fun v => v.category).sum ≤ 8) (hR : d + 1 ≤ fr ∧ 8 + (maxL + 11) + 40 * d ≤ lo) (hM : ∀ l, zM l G d y (.code y bytes maxL ret) (.ref (zad G o) :: As) σ none σ') (k : V G x σ' lv (pc + 3) rest) : V G x σ lv pc st0 := V_callV pc As rest O hm hlk hk hd hs0 hn hW hR hM k
theorem V_callVr (pc : Nat) {st0 : List Value} (As rest : List Value) {y : MethodName} {bytes : ByteArray} {maxL n d index : Nat} {ret : Option FieldType} {ci o N : Nat} {r : Nat} {σ' : Sg} (O : zO G x cc own fr lo mL) (hm : mV y bytes maxL ret n ci) (hlk : Cond.methodLink own index y ∈ zW) (hk : zT[o]? = some (ci + 10, N)) (hd : decode cc pc = .ok (.invokevirtual index, 3)) (hs0 : st0 = As.reverse ++ .ref (zad G o) :: rest) (hn : As.length = n) (hW : (rest.map fun v => v.category).sum ≤ 8) (hR : d + 1 ≤ fr ∧ 8 + (maxL + 11) + 40 * d ≤ lo) (hM : ∀ l, zM l G d y (.code y bytes maxL ret) (.ref (zad G o) :: As) σ (some (.ref (zad G r))) σ') (k : V G x σ' lv (pc + 3) (.ref (zad G r) :: rest)) : V G x σ lv pc st0 := V_callV pc As rest O hm hlk hk hd hs0 hn hW hR hM k
theorem V_callSi (pc : Nat) {st0 : List Value} (As rest : List Value) {y : MethodName} {bytes : ByteArray} {maxL n d index : Nat} {ret : Option FieldType} {r : Int32} {σ' : Sg} (O : zO G x cc own fr lo mL) (hm : mS y bytes maxL ret n) (hlk : Cond.methodLink own index y ∈ zW) (hd : decode cc pc = .ok (.invokestatic index, 3)) (hs0 : st0 = As.reverse ++ rest) (hn : As.length = n) (hW : (rest.map fun v => v.category).sum ≤ 8) (hR : d + 1 ≤ fr ∧ 8 + (maxL + 11) + 40 * d ≤ lo) (hM : ∀ l, zM l G d y (.code y bytes maxL ret) As σ (some (.int r)) σ') (k : V G x σ' lv (pc + 3) (.int r :: rest)) : V G x σ lv pc st0 := V_callS pc As rest O hm hlk hd hs0 hn hW hR hM k
theorem V_callSv (pc : Nat) {st0 : List Value} (As rest : List Value) {y : MethodName} {bytes : ByteArray} {maxL n d index : Nat} {ret : Option FieldType}  {σ' : Sg} (O : zO G x cc own fr lo mL) (hm : mS y bytes maxL ret n) (hlk : Cond.methodLink own index y ∈ zW) (hd : decode cc pc = .ok (.invokestatic index, 3)) (hs0 : st0 = As.reverse ++ rest) (hn : As.length = n) (hW : (rest.map fun v => v.category).sum ≤ 8) (hR : d + 1 ≤ fr ∧ 8 + (maxL + 11) + 40 * d ≤ lo) (hM : ∀ l, zM l G d y (.code y bytes maxL ret) As σ none σ') (k : V G x σ' lv (pc + 3) rest) : V G x σ lv pc st0 := V_callS pc As rest O hm hlk hd hs0 hn hW hR hM k
theorem V_callSr (pc : Nat) {st0 : List Value} (As rest : List Value) {y : MethodName} {bytes : ByteArray} {maxL n d index : Nat} {ret : Option FieldType} {r : Nat} {σ' : Sg} (O : zO G x cc own fr lo mL) (hm : mS y bytes maxL ret n) (hlk : Cond.methodLink own index y ∈ zW) (hd : decode cc pc = .ok (.invokestatic index, 3)) (hs0 : st0 = As.reverse ++ rest) (hn : As.length = n) (hW : (rest.map fun v => v.category).sum ≤ 8) (hR : d + 1 ≤ fr ∧ 8 + (maxL + 11) + 40 * d ≤ lo) (hM : ∀ l, zM l G d y (.code y bytes maxL ret) As σ (some (.ref (zad G r))) σ') (k : V G x σ' lv (pc + 3) (.ref (zad G r) :: rest)) : V G x σ lv pc st0 := V_callS pc As rest O hm hlk hd hs0 hn hW hR hM k
theorem V_callSNi (pc : Nat) {st0 : List Value} (As rest : List Value) {bytes : ByteArray} {maxL n d : Nat} {ret : Option FieldType} {r : Int32} {σ' : Sg} (O : zO G x cc "WaterTown$Reader" fr lo mL) (hm : mS ⟨"WaterTown", "isOutside", "(III)Z"⟩ bytes maxL ret n) (hd : decode cc pc = .ok (.invokestatic 125, 3)) (hs0 : st0 = As.reverse ++ rest) (hn : As.length = n) (hW : (rest.map fun v => v.category).sum ≤ 8) (hR : d + 1 ≤ fr ∧ 8 + (maxL + 11) + 40 * d ≤ lo) (hM : ∀ l, zM l G d ⟨"WaterTown", "isOutside", "(III)Z"⟩ (.code ⟨"WaterTown", "isOutside", "(III)Z"⟩ bytes maxL ret) As σ (some (.int r)) σ') (k : V G x σ' lv (pc + 3) (.int r :: rest)) : V G x σ lv pc st0 := V_callSN pc As rest O hm hd hs0 hn hW hR hM k
theorem V_callSNv (pc : Nat) {st0 : List Value} (As rest : List Value) {bytes : ByteArray} {maxL n d : Nat} {ret : Option FieldType}  {σ' : Sg} (O : zO G x cc "WaterTown$Reader" fr lo mL) (hm : mS ⟨"WaterTown", "isOutside", "(III)Z"⟩ bytes maxL ret n) (hd : decode cc pc = .ok (.invokestatic 125, 3)) (hs0 : st0 = As.reverse ++ rest) (hn : As.length = n) (hW : (rest.map fun v => v.category).sum ≤ 8) (hR : d + 1 ≤ fr ∧ 8 + (maxL + 11) + 40 * d ≤ lo) (hM : ∀ l, zM l G d ⟨"WaterTown", "isOutside", "(III)Z"⟩ (.code ⟨"WaterTown", "isOutside", "(III)Z"⟩ bytes maxL ret) As σ none σ') (k : V G x σ' lv (pc + 3) rest) : V G x σ lv pc st0 := V_callSN pc As rest O hm hd hs0 hn hW hR hM k
theorem V_callSNr (pc : Nat) {st0 : List Value} (As rest : List Value) {bytes : ByteArray} {maxL n d : Nat} {ret : Option FieldType} {r : Nat} {σ' : Sg} (O : zO G x cc "WaterTown$Reader" fr lo mL) (hm : mS ⟨"WaterTown", "isOutside", "(III)Z"⟩ bytes maxL ret n) (hd : decode cc pc = .ok (.invokestatic 125, 3)) (hs0 : st0 = As.reverse ++ rest) (hn : As.length = n) (hW : (rest.map fun v => v.category).sum ≤ 8) (hR : d + 1 ≤ fr ∧ 8 + (maxL + 11) + 40 * d ≤ lo) (hM : ∀ l, zM l G d ⟨"WaterTown", "isOutside", "(III)Z"⟩ (.code ⟨"WaterTown", "isOutside", "(III)Z"⟩ bytes maxL ret) As σ (some (.ref (zad G r))) σ') (k : V G x σ' lv (pc + 3) (.ref (zad G r) :: rest)) : V G x σ lv pc st0 := V_callSN pc As rest O hm hd hs0 hn hW hR hM k
end ZC
/-- a contract out of the walk of a body -/
theorem zM_of {l : Launch} {G : zG} {d : Nat} {y : MethodName} {cc : ByteArray} {maxL : Nat} {ret : Option FieldType} {av : List Value} {σ : Sg} {r : Option Value} {σ' : Sg} (hy : plainName y.cls = true) (hlen : (lg_sl av).length ≤ maxL) (body : ∀ x : zX, zO G x cc y.cls d (40 * d) maxL → zE G x ret r σ' → V G x σ (lv_args 0 av) 0 []) : zM l G d y (.code y cc maxL ret) av σ r σ' := by
  refine Met.ofW (cc := cc) (maxL := maxL) (ret := ret) hy rfl ?_
  intro p e s m args below meth c s₁ B hml hv
  obtain ⟨rfl, hP, hK, hD, hZ⟩ := hv
  have hts := atoms_spec (ws := .code y cc maxL ret :: zW) B.pre
  have hown : s.vm.findClass y.cls = some m.cls := findClass_of_methodNamed B.named
  have hl := lv_entry av (n := maxL) hlen
  rw [lg_entry_eq]
  generalize (lg_sl av ++ List.replicate (maxL - (lg_sl av).length) Slot.unset).toArray = ls at hl ⊢
  have O : zO G (p, l, e, zRm d, s, m, av.toArray, below, meth, c, 0, 0, MQ below (zQ G r σ') av.toArray s 0 0 (zA G), maxL) cc y.cls d (40 * d) maxL := ⟨B.exec, B.bytes, ⟨hml, rfl⟩, hown, fun w hw => hts w (List.mem_cons_of_mem _ hw), hK, fun τ => wd_D hD, hZ, Nat.le_refl _, Nat.le_refl _, Nat.le_refl _, Nat.le_refl _⟩
  exact body _ O ⟨rfl, B.returns, B.notSynchronized⟩ s.heap [] ls hP va_S.rf hl
