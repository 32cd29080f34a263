/-! ===== constructors: rows in a bunch ===== -/
def uT (t : Nat) (ty : FieldType) (atype : ArrayType) : Prop := newarray.typeOf atype = ty ∧ Cond.arrayClass ty ∈ zW ∧ (∀ cA : Nat → ClassId, (ut cA)[t]? = some (cA t, ty)) ∧ (∀ (s : State) (c : ClassId), va_RA s c ty → s.vm.findClass ("[" ++ ty.toString) = some c) ∧ (∀ (N : Nat) (c : ClassId), vp_cell c (N, .inl (fun _ => 0)) = arrV c N (fun _ => defaultValue ty)) ∧ componentBytes ty ≤ 4
theorem uT0 : uT 0 .int .int := ⟨rfl, zin 159 (by decide +kernel) (by decide +kernel), fun _ => rfl, fun _ _ h => h, fun _ _ => rfl, by decide⟩
theorem uT1 : uT 1 .byte .byte := ⟨rfl, zin 534 (by decide +kernel) (by decide +kernel), fun _ => rfl, fun _ _ h => h, fun _ _ => rfl, by decide⟩
theorem uT2 : uT 2 .boolean .boolean := ⟨rfl, zin 1395 (by decide +kernel) (by decide +kernel), fun _ => rfl, fun _ _ h => h, fun _ _ => rfl, by decide⟩
section UR2
variable {D : va_G} {cA : Nat → ClassId} {A : Nat → Prop} {x : zX} {cc : ByteArray} {own : String} {fr lo kc ks mL : Nat} {k n : Nat} {ws cs : va_W} {lv : List (Nat × Value)} {st : List Value} {b ci j index : Nat} {fs : List Value}
theorem U_eq {ws' : va_W} {pc : Nat} (h : ws = ws') (K : UW D A x k n ws' lv pc st) : UW D A x k n ws lv pc st := h ▸ K
theorem U_putFC (pc : Nat) {ty : FieldType} {v : Value} (O : uO D cA A x cc own fr lo kc ks mL) (I : uI x) (hf : uF own index ci j true ty) (hn : narrow ty v = v ∧ fits ty v = true) (hl' : j < fs.length) (hd : decode cc pc = .ok (.putfield index, 3)) (K : UW D A x k n ((b, .inr (ci, fs.set j v)) :: cs) lv (pc + 3) st) : UW D A x k n ((b, .inr (ci, fs)) :: cs) lv pc (v :: .ref b :: st) := U_putF pc 0 O I rfl hf hn.1 hn.2 hl' hd K
theorem U_putC (pc : Nat) {ty : FieldType} {v : Value} (O : uO D cA A x cc own fr lo kc ks mL) (hf : uF own index ci j false ty) (hn : narrow ty v = v ∧ fits ty v = true) (hl' : j < fs.length) (hd : decode cc pc = .ok (.putfield index, 3)) (K : UW D A x k n ((b, .inr (ci, fs.set j v)) :: cs) lv (pc + 3) st) : UW D A x k n ((b, .inr (ci, fs)) :: cs) lv pc (v :: .ref b :: st) := U_put pc 0 O rfl hf hn.1 hn.2 hl' hd K
theorem U_getC (pc : Nat) {ty : FieldType} {fin : Bool} {v : Value} (O : uO D cA A x cc own fr lo kc ks mL) (hf : uF own index ci j fin ty) (hv : fs[j]? = some v) (hd : decode cc pc = .ok (.getfield index, 3)) (K : UW D A x k n ((b, .inr (ci, fs)) :: cs) lv (pc + 3) (v :: st)) : UW D A x k n ((b, .inr (ci, fs)) :: cs) lv pc (.ref b :: st) := U_get pc 0 O rfl hf hv hd K
theorem U_newC (pc : Nat) {h : Nat × va_E} {ci2 N : Nat} {fs2 : List Value} (O : uO D cA A x cc own fr lo kc ks mL) (hc : uC own index ci2 N fs2) (hk : k + 1 ≤ kc) (hs : n + N ≤ ks) (hd : decode cc pc = .ok (.new index, 3)) (K : ∀ q : Nat, UW D A x (k + 1) (n + N) (h :: (cs ++ [(q, .inr (ci2, fs2))])) lv (pc + 3) (.ref q :: st)) : UW D A x k n (h :: cs) lv pc st := U_new pc O hc hk hs hd K
theorem U_callIC (pc : Nat) {h : Nat × va_E} {b : Nat} {e0 : va_E} (As rest : List Value) {st0 : List Value} {y : MethodName} {bytes : ByteArray} {maxL np index frc loc mc ms : Nat} {w1 : (Nat → Nat) → va_W} (O : uO D cA A x cc own fr lo kc ks mL) (hm : mB y bytes maxL none np) (hy : y.name = "<init>") (hin : Cond.instanceMethod y ∈ zW) (hlk : Cond.methodLink own index y ∈ zW) (hd : decode cc pc = .ok (.invokespecial index, 3)) (hs0 : st0 = As.reverse ++ .ref b :: rest) (hn : As.length = np) (hW : (rest.map fun v => v.category).sum ≤ 8) (hR : frc + 1 ≤ fr ∧ 8 + (maxL + 11) + loc ≤ lo) (hk : k + mc ≤ kc) (hs : n + ms ≤ ks)     (hM : ∀ l, uN l D cA frc loc mc ms y (.code y bytes maxL none) (.ref b :: As) [(b, e0)] w1) (K : ∀ q : Nat → Nat, UW D A x (k + mc) (n + ms) (h :: (cs ++ w1 q)) lv (pc + 3) rest) : UW D A x k n (h :: (cs ++ [(b, e0)])) lv pc st0 := U_callI pc (h :: cs) As rest O hm hy hin hlk hd hs0 hn hW hR hk hs rfl hM K
theorem U_callNC (pc : Nat) {h : Nat × va_E} {b : Nat} {e0 : va_E} (As rest : List Value) {st0 : List Value} {y : MethodName} {bytes : ByteArray} {maxL np index frc loc mc ms : Nat} {w1 : (Nat → Nat) → va_W} (O : uO D cA A x cc own fr lo kc ks mL) (hm : mB y bytes maxL none np) (hy : y.name = "<init>") (hin : Cond.instanceMethod y ∈ zW) (hlk : (own, index, y) ∈ zNl) (hd : decode cc pc = .ok (.invokespecial index, 3)) (hs0 : st0 = As.reverse ++ .ref b :: rest) (hn : As.length = np) (hW : (rest.map fun v => v.category).sum ≤ 8) (hR : frc + 1 ≤ fr ∧ 8 + (maxL + 11) + loc ≤ lo) (hk : k + mc ≤ kc) (hs : n + ms ≤ ks)     (hM : ∀ l, uN l D cA frc loc mc ms y (.code y bytes maxL none) (.ref b :: As) [(b, e0)] w1) (K : ∀ q : Nat → Nat, UW D A x (k + mc) (n + ms) (h :: (cs ++ w1 q)) lv (pc + 3) rest) : UW D A x k n (h :: (cs ++ [(b, e0)])) lv pc st0 := U_callN pc (h :: cs) As rest O hm hy hin hlk hd hs0 hn hW hR hk hs rfl hM K
/-- aload_0, a number, newarray, putfield -/
theorem U_arr (pc pl : Nat) {t N : Nat} {v : Int32} {ty fty : FieldType} {atype : ArrayType} (O : uO D cA A x cc own fr lo kc ks mL) (I : uI x) (h0 : decode cc pc = .ok (.aload_n 0, 1)) (hl0 : lv[0]? = some (0, .ref b)) (hp : ∀ st, UW D A x k n ((b, .inr (ci, fs)) :: cs) lv (pc + 1 + pl) (.int v :: st) → UW D A x k n ((b, .inr (ci, fs)) :: cs) lv (pc + 1) st) (hT : uT t ty atype) (hn : ¬ v < 0) (hN : v.toNatClampNeg = N) (hbytes : N * 4 ≤ 536870912) (hk : k + 1 ≤ kc) (hs : n + N ≤ ks) (hf : uF own index ci j true fty) (hfit : ∀ q, narrow fty (.ref q) = .ref q ∧ fits fty (.ref q) = true) (hl' : j < fs.length) (d2 : decode cc (pc + 1 + pl) = .ok (.newarray atype, 2)) (d3 : decode cc (pc + 1 + pl + 2) = .ok (.putfield index, 3)) (K : ∀ q : Nat, UW D A x (k + 1) (n + N) ((b, .inr (ci, fs.set j (.ref q))) :: (cs ++ [(q, .inl (cA t, N, .inl (fun _ => 0)))])) lv (pc + 1 + pl + 2 + 3) st) : UW D A x k n ((b, .inr (ci, fs)) :: cs) lv pc st := by
  obtain ⟨t1, t2, t3, t4, t5, t6⟩ := hT
  refine U_aload pc 0 O h0 rfl hl0 (hp _ ?_)
  refine U_newa (pc + 1 + pl) O t1 t2 (t3 cA) t4 (t5 N) hn hN (Nat.le_trans (Nat.mul_le_mul_left N t6) hbytes) hk hs d2 (fun q => ?_)
  exact U_putFC (pc + 1 + pl + 2) O I hf (hfit q) hl' d3 (K q)
/-- aload_0, new, dup, invokespecial, putfield -/
theorem U_sub (pc : Nat) {i1 i2 ci2 N2 frc loc mc ms maxL : Nat} {fs2 : List Value} {y : MethodName} {bytes : ByteArray} {fty : FieldType} {w1 : Nat → (Nat → Nat) → va_W} (O : uO D cA A x cc own fr lo kc ks mL) (I : uI x) (h0 : decode cc pc = .ok (.aload_n 0, 1)) (hl0 : lv[0]? = some (0, .ref b)) (hc : uC own i1 ci2 N2 fs2) (d1 : decode cc (pc + 1) = .ok (.new i1, 3)) (d2 : decode cc (pc + 1 + 3) = .ok (.dup, 1)) (hm : mB y bytes maxL none 0) (hy : y.name = "<init>") (hin : Cond.instanceMethod y ∈ zW) (hlk : (own, i2, y) ∈ zNl) (d3 : decode cc (pc + 1 + 3 + 1) = .ok (.invokespecial i2, 3)) (hR : frc + 1 ≤ fr ∧ 8 + (maxL + 11) + loc ≤ lo) (hk : k + 1 + mc ≤ kc) (hs : n + N2 + ms ≤ ks) (hM : ∀ l b2, uN l D cA frc loc mc ms y (.code y bytes maxL none) [.ref b2] [(b2, .inr (ci2, fs2))] (w1 b2)) (hf : uF own index ci j true fty) (hfit : ∀ q, narrow fty (.ref q) = .ref q ∧ fits fty (.ref q) = true) (hl' : j < fs.length) (d4 : decode cc (pc + 1 + 3 + 1 + 3) = .ok (.putfield index, 3)) (K : ∀ (b2 : Nat) (q : Nat → Nat), UW D A x (k + 1 + mc) (n + N2 + ms) ((b, .inr (ci, fs.set j (.ref b2))) :: (cs ++ w1 b2 q)) lv (pc + 1 + 3 + 1 + 3 + 3) []) : UW D A x k n ((b, .inr (ci, fs)) :: cs) lv pc [] := by
  refine U_aload pc 0 O h0 rfl hl0 ?_
  refine U_newC (pc + 1) O hc (by omega) (by omega) d1 (fun b2 => ?_)
  refine U_dup (pc + 1 + 3) O d2 rfl ?_
  refine U_callN (pc + 1 + 3 + 1) ((b, .inr (ci, fs)) :: cs) [] [.ref b2, .ref b] O hm hy hin hlk d3 rfl rfl (Nat.le_of_ble_eq_true rfl) hR hk hs rfl (fun l => hM l b2) (fun q => ?_)
  exact U_putFC (pc + 1 + 3 + 1 + 3) O I hf (hfit b2) hl' d4 (K b2 q)
theorem U_alen (pc q0 : Nat) {a N : Nat} {f : Nat → Int32} (O : uO D cA A x cc own fr lo kc ks mL) (he : ws[q0]? = some (a, .inl (cA 0, N, .inl f))) (hd : decode cc pc = .ok (.arraylength, 1)) (K : UW D A x k n ws lv (pc + 1) (.int (nI N) :: st)) : UW D A x k n ws lv pc (.ref a :: st) := by
  obtain ⟨p, l, e, R, s, m, args, below, meth, c, cells, slots, Q, nL⟩ := x
  obtain ⟨hx, hb, ⟨hml, rfl⟩, hown, hts, hK, hao, hA, hfr, hlo, hcl, hsl⟩ := O
  intro H locs ls hP hD hS hl
  exact va_alen hx hb hK hP q0 0 he (ty := .int) rfl rfl hd (K H locs ls hP hD hS hl)
/-- cells in another order -/
theorem U_perm {ws' : va_W} {pc : Nat} (is : List Nat) (hn : va_nd is = true) (hs : is.map (fun i => ws[i]?) = ws'.map some) (K : UW D A x k n ws' lv pc st) : UW D A x k n ws lv pc st := by
  obtain ⟨p, l, e, R, s, m, args, below, meth, c, cells, slots, Q, nL⟩ := x
  intro H locs ls hP hD hS hl
  refine K H locs ls (fun i q hq => ?_) (hD.sub is hn hs) hS hl
  have h1 : (is.map (fun i => ws[i]?))[i]? = some (some q) := by rw [hs, List.getElem?_map, hq]; rfl
  rw [List.getElem?_map] at h1
  cases h2 : is[i]? with
  | none => rw [h2] at h1; cases h1
  | some i' =>
    rw [h2] at h1
    exact hP i' q (Option.some.inj h1)
/-- a static method is called on one cell -/
theorem U_callS (pc q0 : Nat) {b : Nat} {e0 : va_E} (isR : List Nat) (wr : va_W) (As rest : List Value) {st0 : List Value} {y : MethodName} {bytes : ByteArray} {maxL np index frc loc mc ms : Nat} {w1 : (Nat → Nat) → va_W} (O : uO D cA A x cc own fr lo kc ks mL) (hm : mS y bytes maxL none np) (hlk : Cond.methodLink own index y ∈ zW) (hd : decode cc pc = .ok (.invokestatic index, 3)) (hs0 : st0 = As.reverse ++ rest) (hn : As.length = np) (hW : (rest.map fun v => v.category).sum ≤ 8) (hR : frc + 1 ≤ fr ∧ 8 + (maxL + 11) + loc ≤ lo) (hk : k + mc ≤ kc) (hs : n + ms ≤ ks) (he : ws[q0]? = some (b, e0)) (hRr : isR.map (fun i => ws[i]?) = wr.map some) (hnd : va_nd isR = true) (hdis : ∀ i ∈ isR, i ∉ [q0])
    (hM : ∀ l, uN l D cA frc loc mc ms y (.code y bytes maxL none) As [(b, e0)] w1) (K : ∀ q : Nat → Nat, UW D A x (k + mc) (n + ms) (wr ++ w1 q) lv (pc + 3) rest) : UW D A x k n ws lv pc st0 := by
  obtain ⟨p, l, e, R, s, m, args, below, meth, c, cells, slots, Q, nL⟩ := x
  obtain ⟨hx, hb, ⟨hml, rfl⟩, hown, hts, hK, hao, hA, hfr, hlo, hcl, hsl⟩ := O
  intro H locs ls hP hD hS hl
  obtain ⟨⟨hcw, hini, hne1, hne2, hpa⟩, hst⟩ := hm
  have hC : [q0].map (fun i => ws[i]?) = [(b, e0)].map some := by
    rw [List.map_cons, List.map_nil, he]
    rfl
  have hPc : va_P D vwCl [(b, e0)] H := hP.sub [q0] (by rw [List.filterMap_cons, he]; rfl)
  have hDc := hD.sub [q0] rfl hC
  have hFc := va_free (wc := [(b, e0)]) hD hS hA [q0] hC
  refine va_callv (va_runS (As := As) (rest := rest) (bytes := bytes) (maxL := maxL) (ret := none) (n := np) (index := index) ⟨hx, hb, hml, hown, hts⟩ (hM l H.size) ⟨callB_of (Ts := zW) np hts (zW_cons hcw) rfl rfl rfl (hts _ hini) (hts _ hlk) ⟨hne1, hne2, hpa⟩ ⟨Nat.le_trans hR.1 hfr, Nat.le_trans hR.2 hlo⟩, hts _ hst⟩ ⟨uP_blind D cA _ _ _, fun U hU hWm => ⟨rfl, by rw [hU], by rw [hU]; exact hPc, va_K.moved hWm.alike hK, uZ_warm hWm hao, hDc.weaken (fun _ _ _ _ => trivial)⟩⟩ rfl hn hl.1 hs0 (lv_room hW) hd ⟨Nat.le_trans hk hcl, Nat.le_trans hs hsl⟩) hS (fun q _ h => hFc q h) hFc (fun q t H1 locs1 ht hvm _ hB _ hk1 hS1 => ?_)
  obtain ⟨hP1, hD1⟩ := hB
  rw [ht] at hP1
  obtain ⟨hP2, hD2⟩ := va_join (wr := wr) (w1 := w1 q) hP hD [q0] isR hC hRr hnd hdis hk1 hFc hP1 hD1
  exact K q H1 locs1 ls hP2 hD2 hS1 hl
end UR2
/-- filled with 100 below i -/
def f100 (i j : Nat) : Int32 := cond (Nat.blt j i) 100 0
theorem f100_0 : f100 0 = fun _ => 0 := by
  funext j
  unfold f100
  cases j <;> rfl
theorem f100_s (i : Nat) : upd (f100 i) i 100 = f100 (i + 1) := by
  funext j
  unfold upd f100
  by_cases h : j = i
  · rw [if_pos h, h, show Nat.blt i (i + 1) = true from Nat.ble_eq_true_of_le (Nat.lt_succ_self i)]
    rfl
  · rw [if_neg h]
    by_cases h2 : j < i
    · rw [show Nat.blt j i = true from Nat.ble_eq_true_of_le h2, show Nat.blt j (i + 1) = true from Nat.ble_eq_true_of_le (Nat.lt_succ_of_lt h2)]
    · have e1 : Nat.blt j i = false := by cases hq : Nat.blt j i; rfl; exact absurd (Nat.le_of_ble_eq_true hq) h2
      have e2 : Nat.blt j (i + 1) = false := by cases hq : Nat.blt j (i + 1); rfl; exact absurd (Nat.le_of_ble_eq_true hq) (by omega)
      rw [e1, e2]
/-- Arrays.fill of 24 numbers with 100 -/
theorem N_fill {l : Launch} {D : va_G} {cA : Nat → ClassId} (b : Nat) : uN l D cA 0 0 0 0 yJ7_fill_53178 (.code yJ7_fill_53178 cJ7_fill_53178 4 none) [.ref b, .int 100] [(b, .inl (cA 0, 24, .inl (fun _ => 0)))] (fun _ => [(b, .inl (cA 0, 24, .inl (f100 24)))]) := by
  refine uN_of (by decide) (Nat.le_of_ble_eq_true rfl) (fun A x O _ E => ?_)
  have main : ∀ (r i : Nat), i + r = 24 → UW D A x 0 0 [(b, .inl (cA 0, 24, .inl (f100 i)))] [(2, .int (nI i)), (3, .int 24), (0, .ref b), (1, .int 100)] 5 [] := by
    intro r
    induction r with
    | zero =>
      intro i hi
      refine U_iload 5 0 O dJ7_fill_53178_5 rfl rfl ?_
      refine U_iload 6 1 O dJ7_fill_53178_6 rfl rfl ?_
      refine U_icmp_ge 7 20 O dJ7_fill_53178_7 rfl (fun _ => ?_) (fun h => ?_)
      · obtain rfl : i = 24 := by omega
        exact U_vret 20 (fun _ => 0) O E rfl (Nat.le_refl _) (Nat.le_refl _) dJ7_fill_53178_20
      · refine absurd ?_ h
        rw [show (24 : Int32) = nI 24 from rfl, nle (by omega) (by omega)]
        omega
    | succ r ih =>
      intro i hi
      refine U_iload 5 0 O dJ7_fill_53178_5 rfl rfl ?_
      refine U_iload 6 1 O dJ7_fill_53178_6 rfl rfl ?_
      refine U_icmp_ge 7 20 O dJ7_fill_53178_7 rfl (fun h => ?_) (fun _ => ?_)
      · rw [show (24 : Int32) = nI 24 from rfl, nle (by omega) (by omega)] at h
        omega
      refine U_aload 10 2 O dJ7_fill_53178_10 rfl rfl ?_
      refine U_iload 11 0 O dJ7_fill_53178_11 rfl rfl ?_
      refine U_iload 12 3 O dJ7_fill_53178_12 rfl rfl ?_
      refine U_iast 13 0 O rfl (ib_in (ib_n (by omega) (by decide))) dJ7_fill_53178_13 ?_
      refine U_iinc 14 0 [0, 1, 2, 3] _ O dJ7_fill_53178_14 rfl ci_1 (by decide) rfl ?_
      refine U_goto 17 5 O dJ7_fill_53178_17 rfl ?_
      refine U_eq (ws' := [(b, .inl (cA 0, 24, .inl (f100 (i + 1))))]) ?_ ?_
      · rw [show (nI i).toNatClampNeg = i from ix_n (by omega), f100_s]
        rfl
      · have e : nI i + 1 = nI (i + 1) := nI_1 i
        show UW D A x 0 0 _ [(2, .int (nI i + 1)), (3, .int 24), (0, .ref b), (1, .int 100)] 5 []
        rw [e]
        exact ih (i + 1) (by omega)
  refine U_iconst 0 O dJ7_fill_53178_0 ci_0 ?_
  refine U_istore 1 [0, 1, 2] [(2, .int 0), (0, .ref b), (1, .int 100)] O dJ7_fill_53178_1 rfl (by decide) rfl ?_
  refine U_aload 2 1 O dJ7_fill_53178_2 rfl rfl ?_
  refine U_alen 3 0 O rfl dJ7_fill_53178_3 ?_
  refine U_istore 4 [1, 0, 2, 3] [(2, .int 0), (3, .int 24), (0, .ref b), (1, .int 100)] O dJ7_fill_53178_4 rfl (by decide) rfl ?_
  refine U_eq (ws' := [(b, .inl (cA 0, 24, .inl (f100 0)))]) (by rw [f100_0]) ?_
  exact main 24 0 rfl
