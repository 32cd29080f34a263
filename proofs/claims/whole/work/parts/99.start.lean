/-! ===== the start of the law, by program (wip/tools/start.py) ===== -/
theorem uc_L_7 : uC RL 7 11 16 dfX11 := ⟨RX11, TX11, tyX11, rfl, uw11, tyX11_ok, zin 103 (by decide +kernel) (by decide +kernel), zin 104 (by decide +kernel) (by decide +kernel), zin 82 (by decide +kernel) (by decide +kernel), dfl rfl⟩
theorem uc_L_10 : uC RL 10 12 75 dfX12 := ⟨RX12, TX12, tyX12, rfl, uw12, tyX12_ok, zin 1162 (by decide +kernel) (by decide +kernel), zin 1163 (by decide +kernel) (by decide +kernel), zin 95 (by decide +kernel) (by decide +kernel), dfl rfl⟩
theorem mb_X11_init : mB yX11_init cX11_init 1 none 0 := ⟨zin 107 (by decide +kernel) (by decide +kernel), zin 82 (by decide +kernel) (by decide +kernel), by decide, by decide, by decide +kernel⟩
theorem mi_X11_init : Cond.instanceMethod yX11_init ∈ zW := zin 106 (by decide +kernel) (by decide +kernel)
theorem ul_L_9 : Cond.methodLink RL 9 yX11_init ∈ zW := zin 105 (by decide +kernel) (by decide +kernel)
theorem mb_X12_init : mB yX12_init cX12_init 2 none 0 := ⟨zin 1166 (by decide +kernel) (by decide +kernel), zin 95 (by decide +kernel) (by decide +kernel), by decide, by decide, by decide +kernel⟩
theorem mi_X12_init : Cond.instanceMethod yX12_init ∈ zW := zin 1165 (by decide +kernel) (by decide +kernel)
theorem ul_L_12 : Cond.methodLink RL 12 yX12_init ∈ zW := zin 1164 (by decide +kernel) (by decide +kernel)
theorem st_K {s : State} {A : Array Value} (hz : ∀ w ∈ zW, w.before A s = true) : ∃ D : va_G, ∀ (c : Nat) (q : vw_C), vwCl[c]? = some q → u_Kn s q.1 q.2.1 q.2.2 (D.1 c) (D.2 c) := by
  have h : ∀ c : Nat, ∃ y : ClassId × (Nat → Nat), ∀ q : vw_C, vwCl[c]? = some q → u_Kn s q.1 q.2.1 q.2.2 y.1 y.2 := by
    intro c
    match c with
    | 0 =>
      obtain ⟨cC, iS, h⟩ := u_known hz uw0 (hz _ (zin 499 (by decide +kernel) (by decide +kernel) : Cond.instantiable RX0 9 ∈ zW))
      exact ⟨(cC, iS), fun q hq => by cases hq; exact h⟩
    | 1 =>
      obtain ⟨cC, iS, h⟩ := u_known hz uw1 (hz _ (zin 461 (by decide +kernel) (by decide +kernel) : Cond.instantiable RX1 9 ∈ zW))
      exact ⟨(cC, iS), fun q hq => by cases hq; exact h⟩
    | 2 =>
      obtain ⟨cC, iS, h⟩ := u_known hz uw2 (hz _ (zin 273 (by decide +kernel) (by decide +kernel) : Cond.instantiable RX2 9 ∈ zW))
      exact ⟨(cC, iS), fun q hq => by cases hq; exact h⟩
    | 3 =>
      obtain ⟨cC, iS, h⟩ := u_known hz uw3 (hz _ (zin 339 (by decide +kernel) (by decide +kernel) : Cond.instantiable RX3 4 ∈ zW))
      exact ⟨(cC, iS), fun q hq => by cases hq; exact h⟩
    | 4 =>
      obtain ⟨cC, iS, h⟩ := u_known hz uw4 (hz _ (zin 112 (by decide +kernel) (by decide +kernel) : Cond.instantiable RX4 9 ∈ zW))
      exact ⟨(cC, iS), fun q hq => by cases hq; exact h⟩
    | 5 =>
      obtain ⟨cC, iS, h⟩ := u_known hz uw5 (hz _ (zin 233 (by decide +kernel) (by decide +kernel) : Cond.instantiable RX5 8 ∈ zW))
      exact ⟨(cC, iS), fun q hq => by cases hq; exact h⟩
    | 6 =>
      obtain ⟨cC, iS, h⟩ := u_known hz uw6 (hz _ (zin 266 (by decide +kernel) (by decide +kernel) : Cond.instantiable RX6 3 ∈ zW))
      exact ⟨(cC, iS), fun q hq => by cases hq; exact h⟩
    | 7 =>
      obtain ⟨cC, iS, h⟩ := u_known hz uw7 (hz _ (zin 215 (by decide +kernel) (by decide +kernel) : Cond.instantiable RX7 2 ∈ zW))
      exact ⟨(cC, iS), fun q hq => by cases hq; exact h⟩
    | 8 =>
      obtain ⟨cC, iS, h⟩ := u_known hz uw8 (hz _ (zin 161 (by decide +kernel) (by decide +kernel) : Cond.instantiable RX8 11 ∈ zW))
      exact ⟨(cC, iS), fun q hq => by cases hq; exact h⟩
    | 9 =>
      obtain ⟨cC, iS, h⟩ := u_known hz uw9 (hz _ (zin 333 (by decide +kernel) (by decide +kernel) : Cond.instantiable RX9 11 ∈ zW))
      exact ⟨(cC, iS), fun q hq => by cases hq; exact h⟩
    | 10 =>
      obtain ⟨cC, iS, h⟩ := u_known hz uw10 (hz _ (zin 405 (by decide +kernel) (by decide +kernel) : Cond.instantiable RX10 14 ∈ zW))
      exact ⟨(cC, iS), fun q hq => by cases hq; exact h⟩
    | 11 =>
      obtain ⟨cC, iS, h⟩ := u_known hz uw11 (hz _ (zin 104 (by decide +kernel) (by decide +kernel) : Cond.instantiable RX11 16 ∈ zW))
      exact ⟨(cC, iS), fun q hq => by cases hq; exact h⟩
    | 12 =>
      obtain ⟨cC, iS, h⟩ := u_known hz uw12 (hz _ (zin 1163 (by decide +kernel) (by decide +kernel) : Cond.instantiable RX12 75 ∈ zW))
      exact ⟨(cC, iS), fun q hq => by cases hq; exact h⟩
    | c + 13 => exact ⟨(0, fun _ => 0), fun q hq => by rw [List.getElem?_eq_none (show 13 ≤ c + 13 by omega)] at hq; cases hq⟩
  obtain ⟨f, hf⟩ := Classical.axiomOfChoice h
  exact ⟨(fun c => (f c).1, fun c => (f c).2), fun c q hq => hf c q hq⟩
theorem st_A {s : State} {A : Array Value} (hz : ∀ w ∈ zW, w.before A s = true) (hao : va_AO "WaterTown$Law" s) : ∃ cA : Nat → ClassId, ∀ (k : Nat) (q : ClassId × FieldType), (ut cA)[k]? = some q → ArrOfT s q.1 q.2 ∧ va_RA s q.1 q.2 := by
  obtain ⟨c0, k0, p0, a1, a2, a3⟩ := Cond.arrayClass_spec (hz _ uT0.2.1)
  obtain ⟨c1, k1, p1, b1, b2, b3⟩ := Cond.arrayClass_spec (hz _ uT1.2.1)
  obtain ⟨c2, k2, p2, d1, d2, d3⟩ := Cond.arrayClass_spec (hz _ uT2.2.1)
  obtain ⟨comp, c3, k3, f1, f2, f3, f4, f5⟩ := Cond.arrayOver_spec hao
  refine ⟨fun i => [c0, c1, c2, c3].getD i 0, fun k q hq => ?_⟩
  match k with
  | 0 => cases hq; exact ⟨fun N z => ⟨(fun k h => by cases h), k0, a2, p0, a3⟩, a1⟩
  | 1 => cases hq; exact ⟨fun N z => ⟨(fun k h => by cases h), k1, b2, p1, b3⟩, b1⟩
  | 2 => cases hq; exact ⟨fun N z => ⟨(fun k h => by cases h), k2, d2, p2, d3⟩, d1⟩
  | 3 => cases hq; exact ⟨fun N z => ⟨(fun k h => by cases h), k3, f3, comp, f4⟩, k3, comp, f3, f4, f1, f5⟩
  | k + 4 => cases hq
theorem st_N {s : State} {A : Array Value} (hts : ∀ w ∈ lw_tbl, w.before A s = true) : ∀ q ∈ zNl, va_Nw (.methodLinkNest q.1 q.2.1 q.2.2 "WaterTown") s := by
  exact List.forall_mem_cons.mpr ⟨va_Nw.of rfl (hts _ (List.mem_of_getElem? (i := 113) (by decide +kernel))), List.forall_mem_cons.mpr ⟨va_Nw.of rfl (hts _ (List.mem_of_getElem? (i := 162) (by decide +kernel))), List.forall_mem_cons.mpr ⟨va_Nw.of rfl (hts _ (List.mem_of_getElem? (i := 216) (by decide +kernel))), List.forall_mem_cons.mpr ⟨va_Nw.of rfl (hts _ (List.mem_of_getElem? (i := 234) (by decide +kernel))), List.forall_mem_cons.mpr ⟨va_Nw.of rfl (hts _ (List.mem_of_getElem? (i := 274) (by decide +kernel))), List.forall_mem_cons.mpr ⟨va_Nw.of rfl (hts _ (List.mem_of_getElem? (i := 331) (by decide +kernel))), List.forall_mem_cons.mpr ⟨va_Nw.of rfl (hts _ (List.mem_of_getElem? (i := 340) (by decide +kernel))), List.forall_mem_cons.mpr ⟨va_Nw.of rfl (hts _ (List.mem_of_getElem? (i := 411) (by decide +kernel))), List.forall_mem_cons.mpr ⟨va_Nw.of rfl (hts _ (List.mem_of_getElem? (i := 413) (by decide +kernel))), List.forall_mem_cons.mpr ⟨va_Nw.of rfl (hts _ (List.mem_of_getElem? (i := 462) (by decide +kernel))), List.forall_mem_cons.mpr ⟨va_Nw.of rfl (hts _ (List.mem_of_getElem? (i := 500) (by decide +kernel))), fun _ h => absurd h List.not_mem_nil⟩⟩⟩⟩⟩⟩⟩⟩⟩⟩⟩
abbrev gN1 : List Cond := flatC (Jvm.Cond.and given_1 narrow_1)
def tmS (i : Nat) : Term := .string "WaterTown$Reader" (zSt.getD i (0, "")).1
theorem q_ex : ∀ i, i < 10 → Cond.exactly (tmS i) "java/lang/String" ∈ gN1 := by decide +kernel
theorem q_co : ∀ i, i < 10 → Cond.eq (.field (tmS i) "java/lang/String" "coder" "B") (.int 0) ∈ gN1 := by decide +kernel
theorem q_ar : ∀ i, i < 10 → Cond.arrayOf (.field (tmS i) "java/lang/String" "value" "[B") .byte ∈ gN1 := by decide +kernel
theorem q_le : ∀ i, i < 10 → Cond.eq (.length (.field (tmS i) "java/lang/String" "value" "[B")) (.int (Int32.ofNat (lenJS.getD i 0))) ∈ gN1 := by decide +kernel
theorem q_el : ∀ i, i < 10 → ∀ j, j < lenJS.getD i 0 → Cond.eq (.elem (.field (tmS i) "java/lang/String" "value" "[B") (.int (Int32.ofNat j))) (.int ((bytJS.getD i []).getD j 0)) ∈ gN1 := by decide +kernel
theorem q_ne : ∀ i, i < 10 → ∀ j, j < 10 → i ≠ j → Cond.not (Cond.eq (tmS i) (tmS j)) ∈ gN1 ∨ Cond.not (Cond.eq (tmS j) (tmS i)) ∈ gN1 := by decide +kernel
theorem st_S {s : State} {B : Array Value} {A : Nat → Prop} (hg : (Jvm.Cond.and given_1 narrow_1).before B s = true) (hA : ∀ a : Nat, a < s.heap.size → ¬ A a) : ∃ adK adV : Nat → Nat, vk_S nJS lenJS bytJS adK adV A s s.heap ∧ ∀ i : Nat, i < nJS → (tmS i).eval B s none [] s = some (.ref (adK i)) := by
  have hs := flat_of_before _ hg
  exact vk_Sof (by decide) (fun i hi => hs _ (q_ex i hi)) (fun i hi => hs _ (q_co i hi)) (fun i hi => hs _ (q_ar i hi)) (fun i hi => hs _ (q_le i hi)) (fun i hi j hj => hs _ (q_el i hi j hj)) (fun i j hi hj hn => (q_ne i hi j hj hn).imp (hs _) (hs _)) hA
theorem st_R {s : State} {B : Array Value} {adK : Nat → Nat} (hts : ∀ w ∈ lw_tbl, w.before B s = true) (h : ∀ i : Nat, i < nJS → (tmS i).eval B s none [] s = some (.ref (adK i))) : ∀ (i : Nat) (q : Nat × String), zSt[i]? = some q → vk_R "WaterTown$Reader" q.1 q.2 (adK i) s := by
  intro i q hq
  match i with
  | 0 => cases hq; exact vk_R.of (hts _ (List.mem_of_getElem? (i := 733) (by decide +kernel))) (h 0 (by decide))
  | 1 => cases hq; exact vk_R.of (hts _ (List.mem_of_getElem? (i := 786) (by decide +kernel))) (h 1 (by decide))
  | 2 => cases hq; exact vk_R.of (hts _ (List.mem_of_getElem? (i := 787) (by decide +kernel))) (h 2 (by decide))
  | 3 => cases hq; exact vk_R.of (hts _ (List.mem_of_getElem? (i := 788) (by decide +kernel))) (h 3 (by decide))
  | 4 => cases hq; exact vk_R.of (hts _ (List.mem_of_getElem? (i := 789) (by decide +kernel))) (h 4 (by decide))
  | 5 => cases hq; exact vk_R.of (hts _ (List.mem_of_getElem? (i := 803) (by decide +kernel))) (h 5 (by decide))
  | 6 => cases hq; exact vk_R.of (hts _ (List.mem_of_getElem? (i := 804) (by decide +kernel))) (h 6 (by decide))
  | 7 => cases hq; exact vk_R.of (hts _ (List.mem_of_getElem? (i := 805) (by decide +kernel))) (h 7 (by decide))
  | 8 => cases hq; exact vk_R.of (hts _ (List.mem_of_getElem? (i := 806) (by decide +kernel))) (h 8 (by decide))
  | 9 => cases hq; exact vk_R.of (hts _ (List.mem_of_getElem? (i := 825) (by decide +kernel))) (h 9 (by decide))
  | i + 10 => cases hq
theorem st_Z {s : State} {B : Array Value} {A : Nat → Prop} (hts : ∀ w ∈ lw_tbl, w.before B s = true) (hg : (Jvm.Cond.and given_1 narrow_1).before B s = true) (hA : ∀ a : Nat, a < s.heap.size → ¬ A a) : va_Z "java/lang/String" "COMPACT_STRINGS" "Z" (.int 1) A s s.heap ∧ va_Zq "jdk/internal/util/Preconditions" "SIOOBE_FORMATTER" "Ljava/util/function/BiFunction;" A s s.heap ∧ va_Nw zNest s := by
  have hs := flat_of_before _ hg
  refine ⟨va_Zof (hts _ (List.mem_of_getElem? (i := 747) (by decide +kernel))) (hts _ (List.mem_of_getElem? (i := 98) (by decide +kernel))) (va_eqt (hs _ (by decide +kernel : Cond.eq (.static "java/lang/String" "COMPACT_STRINGS" "Z") (.int 1) ∈ gN1))) hA, va_Zqof (hts _ (List.mem_of_getElem? (i := 763) (by decide +kernel))) (hts _ (List.mem_of_getElem? (i := 100) (by decide +kernel))) (hs _ (by decide +kernel : Cond.isRef (.static "jdk/internal/util/Preconditions" "SIOOBE_FORMATTER" "Ljava/util/function/BiFunction;") ∈ gN1)) hA, va_Nw.of rfl (hts _ (List.mem_of_getElem? (i := 824) (by decide +kernel)))⟩
