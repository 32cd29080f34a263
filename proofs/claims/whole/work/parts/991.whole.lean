theorem rf28b : ∀ j, Nat.ble 71 (rf 28 j) = false
  | 0 => rfl
  | 1 => rfl
  | 2 => rfl
  | 3 => rfl
  | 4 => rfl
  | 5 => rfl
  | 6 => rfl
  | 7 => rfl
  | _ + 8 => rfl
set_option maxRecDepth 100000 in
theorem two_eq (D : va_G) (cA : Nat → ClassId) (A : Nat → Prop) (adK adV : Nat → Nat) (b1 b2 : Nat) (q1 q2 : Nat → Nat) : ([] ++ w1_X11 D cA b1 q1) ++ w1_X12 D cA b2 q2 = wd' (D, (fun o => cond (Nat.ble 71 o) (cond (Nat.beq o 71) b2 (q2 o)) (cond (Nat.beq o 0) b1 (q1 o))), cA, A, adK, adV) s00 := by
  have e28 : (fun j => some (zad (uG D cA (fun o => cond (Nat.beq o 0) b1 (q1 o))) (rf 28 j))) = (fun j => some (cond (Nat.ble 71 (rf 28 j)) (cond (Nat.beq (rf 28 j) 71) b2 (q2 (rf 28 j))) (cond (Nat.beq (rf 28 j) 0) b1 (q1 (rf 28 j))))) := by
    funext j
    rw [rf28b j]
    rfl
  rw [wX_eq, wM_eq, e28]
  rfl
/-- from the entry, for every script of at most 3584 ints, the law comes to its end with true -/
theorem whole_start {p : Program} {e : Env} {s : State} {m : MethodId} {below : List Frame} {meth : Method} {c : Code} (l : Launch) {b L : Nat} {xs : Nat → Int32} (hL : L ≤ 3584) (C0 : lw_At p s m meth c b L xs) : W p l e room_1 s m #[Value.ref b] below meth c s.heap [] 0 0 (lw_Z below #[Value.ref b] s) (entryFrame m ([Value.ref b] : List Value).toArray 4) := by
  obtain ⟨hx, hb, hr, hml, hown, hts, hX, hbl, hlk, hgv⟩ := C0
  have hz : ∀ w ∈ zW, w.before #[Value.ref b] s = true := fun w hw => hts w (List.mem_filter.mp hw).1
  obtain ⟨D, hD⟩ := st_K hz
  have hao : va_AO "WaterTown$Law" s := va_AO.of (hts _ (List.mem_of_getElem? (i := 272) (by decide +kernel)))
  obtain ⟨cA, hcA⟩ := st_A hz hao
  have hK : va_K D vwCl (ut cA) s := ⟨hD, hcA⟩
  have hnA : ∀ a : Nat, a < s.heap.size → ¬ s.heap.size ≤ a := fun a h => by omega
  obtain ⟨adK, adV, hS1, hS2⟩ := st_S (A := fun q => s.heap.size ≤ q) hgv hnA
  obtain ⟨hZ3, hZ4, hZ5⟩ := st_Z (A := fun q => s.heap.size ≤ q) hts hgv hnA
  have O : uO D cA (fun q => s.heap.size ≤ q) (p, l, e, room_1, s, m, #[Value.ref b], below, meth, c, 119, 281574, lw_Z below #[Value.ref b] s, 4) cL_law RL 13 492 600000 7302250 4 := ⟨hx, hb, ⟨hml, rfl⟩, hown, hz, hK, ⟨hao, st_N hts⟩, fun q h => h, Nat.le_refl _, Nat.le_refl _, Nat.le_refl _, Nat.le_refl _⟩
  have main : UW D (fun q => s.heap.size ≤ q) (p, l, e, room_1, s, m, #[Value.ref b], below, meth, c, 119, 281574, lw_Z below #[Value.ref b] s, 4) 0 0 [] [(0, .ref b)] 0 [] := by
    refine U_new 0 O uc_L_7 (by decide) (by decide) dL_law_0 (fun b1 => ?_)
    refine U_dup 3 O dL_law_3 rfl ?_
    refine U_callI 4 [] [] [.ref b1] O mb_X11_init rfl mi_X11_init ul_L_9 dL_law_4 rfl rfl (Nat.le_of_ble_eq_true rfl) (by decide) (by decide) (by decide) rfl (fun l => N_X11 b1) (fun q1 => ?_)
    refine U_astore 7 [1, 0] [(0, .ref b), (1, .ref b1)] O dL_law_7 rfl (by decide) rfl ?_
    refine U_new 8 O uc_L_10 (by decide) (by decide) dL_law_8 (fun b2 => ?_)
    refine U_dup 11 O dL_law_11 rfl ?_
    refine U_callI 12 ([] ++ w1_X11 D cA b1 q1) [] [.ref b2] O mb_X12_init rfl mi_X12_init ul_L_12 dL_law_12 rfl rfl (Nat.le_of_ble_eq_true rfl) (by decide) (by decide) (by decide) rfl (fun l => N_X12 b2) (fun q2 => ?_)
    refine U_astore 15 [1, 2, 0] [(0, .ref b), (1, .ref b1), (2, .ref b2)] O dL_law_15 rfl (by decide) rfl ?_
    refine U_iconst 16 O dL_law_16 ci_0 ?_
    refine U_istore 17 [1, 2, 3, 0] [(0, .ref b), (1, .ref b1), (2, .ref b2), (3, .int (nI 0))] O dL_law_17 rfl (by decide) rfl ?_
    intro H locs ls hP hDD hS hl
    rw [two_eq D cA (fun q => s.heap.size ≤ q) adK adV, ← wd_eq] at hP hDD
    generalize hG : ((D, (fun o => cond (Nat.ble 71 o) (cond (Nat.beq o 71) b2 (q2 o)) (cond (Nat.beq o 0) b1 (q1 o))), cA, (fun q => s.heap.size ≤ q), adK, adV) : zG) = G at hP hDD
    have O2 : zO G (p, l, e, room_1, s, m, #[Value.ref b], below, meth, c, 119, 281574, lw_Z below #[Value.ref b] s, 4) cL_law RL 13 492 4 := by
      subst hG
      exact ⟨hx, hb, ⟨hml, rfl⟩, hown, hz, hK, fun σ => wd_D hDD, ⟨hS1, st_R hts hS2, hZ3, hZ4, hZ5⟩, Nat.le_refl _, Nat.le_refl _, by decide, by decide⟩
    have X2 : lX G (p, l, e, room_1, s, m, #[Value.ref b], below, meth, c, 119, 281574, lw_Z below #[Value.ref b] s, 4) b L xs := by
      subst hG
      exact ⟨hX, hbl, hnA b hbl⟩
    have hS' : va_S (zA G) s.heap H locs := by subst hG; exact hS
    have hP' : va_P G.1 vwCl (wd G s00) H := by subst hG; exact hP
    have hl' : lv_has ls 4 (lL G b (7 * 0)) := by subst hG; exact hl
    have hAG : ∀ q, zA G q → s.heap.size ≤ q := by subst hG; exact fun q h => h
    refine law_loop O2 X2 hL (Nat.le_refl 300000) (fun σ i => V_iconst 1227 O2 dL_law_1227 ci_1 ?_) 512 0 s00 (by omega) (by omega) inv0 H locs ls hP' hS' hl'
    intro H locs ls hP hS hl
    exact va_forget (fun q hq => hAG _ (hS.2.2 q hq)) (W.widen (k := 600000) (n := 7302250) (by decide) (by decide) (lw_ret hx hb hr hlk dL_law_1228))
  have hl := lv_entry ([Value.ref b]) (n := 4) (Nat.le_of_ble_eq_true rfl)
  rw [lg_entry_eq]
  generalize (lg_sl ([Value.ref b]) ++ List.replicate (4 - (lg_sl ([Value.ref b])).length) Slot.unset).toArray = ls at hl ⊢
  exact main s.heap [] ls (fun k q h => (by rw [List.getElem?_nil] at h; cases h)) ⟨fun i j p q h => (by rw [List.getElem?_nil] at h; cases h), fun k q h => (by rw [List.getElem?_nil] at h; cases h)⟩ va_S.rf hl
