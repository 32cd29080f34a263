section ZT
variable {G : zG} {x : zX} {cc : ByteArray} {own : String} {fr lo mL : Nat} {σ : Sg} {lv : List (Nat × Value)} {st : List Value}
theorem V_tab1 (pc tgt : Nat) {dflt lo' hi off : Int} {offs : Array Int} {len : Nat} {a v : Int32} {ρ : Type} {A B : Option ρ} {X : ρ} (O : zO G x cc own fr lo mL) (hd : decode cc pc = .ok (.tableswitch dflt lo' hi offs, len)) (h : (if a = v then A else B) = some X) (h1 : ¬ v.toInt < lo') (h2 : ¬ hi < v.toInt) (ho : offs[(v.toInt - lo').toNat]? = some off) (ht : (pc : Int) + off = (tgt : Int)) (k1 : A = some X → V G x σ lv tgt st) (k2 : ¬ a = v → B = some X → V G x σ lv pc (.int a :: st)) : V G x σ lv pc (.int a :: st) := by
  by_cases e : a = v
  · rw [if_pos e] at h
    subst e
    exact V_tabI pc tgt O hd h1 h2 ho ht (k1 h)
  · rw [if_neg e] at h
    exact k2 e h
def slen (q : Nat) : Int32 := nI (lenJS.getD q 0)
def sch (q : Nat) (i : Int32) : Int32 := (bytJS.getD q []).getD (ix i) 0
abbrev adK (G : zG) : Nat → Nat := G.2.2.2.2.1
abbrev adV (G : zG) : Nat → Nat := G.2.2.2.2.2
theorem V_sval (pc : Nat) {q : Nat} (O : zO G x cc RJ0 fr lo mL) (hq : q < 10) (hlk : Cond.fieldLink RJ0 9 "java/lang/String" "value" "[B" ∈ zW) (hd : decode cc pc = .ok (.getfield 9, 3)) (k : V G x σ lv (pc + 3) (.ref (adV G q) :: st)) : V G x σ lv pc (.ref (adK G q) :: st) := by
  obtain ⟨p, l, e, R, s, m, args, below, meth, c, cells, slots, Q, nL⟩ := x
  obtain ⟨hx, hb, ⟨hml, rfl⟩, hown, hts, hK, hD, hZ, hfr, hlo, hcl, hsl⟩ := O
  intro H locs ls hP hS hl
  exact vk_getf hx hb (hZ.1.1 q hq).2.2.1 hS hown (hts _ hlk) (fun _ h => h) hd (k H locs ls hP hS hl)
theorem V_scod (pc : Nat) {q : Nat} (O : zO G x cc RJ0 fr lo mL) (hq : q < 10) (hlk : Cond.fieldLink RJ0 15 "java/lang/String" "coder" "B" ∈ zW) (hd : decode cc pc = .ok (.getfield 15, 3)) (k : V G x σ lv (pc + 3) (.int 0 :: st)) : V G x σ lv pc (.ref (adK G q) :: st) := by
  obtain ⟨p, l, e, R, s, m, args, below, meth, c, cells, slots, Q, nL⟩ := x
  obtain ⟨hx, hb, ⟨hml, rfl⟩, hown, hts, hK, hD, hZ, hfr, hlo, hcl, hsl⟩ := O
  intro H locs ls hP hS hl
  exact vk_getf hx hb (hZ.1.1 q hq).2.1 hS hown (hts _ hlk) (fun _ h => h) hd (k H locs ls hP hS hl)
theorem V_scomp (pc : Nat) (O : zO G x cc RJ0 fr lo mL) (hlk : Cond.fieldLink RJ0 38 "java/lang/String" "COMPACT_STRINGS" "Z" ∈ zW) (hd : decode cc pc = .ok (.getstatic 38, 3)) (k : V G x σ lv (pc + 3) (.int 1 :: st)) : V G x σ lv pc st := by
  obtain ⟨p, l, e, R, s, m, args, below, meth, c, cells, slots, Q, nL⟩ := x
  obtain ⟨hx, hb, ⟨hml, rfl⟩, hown, hts, hK, hD, hZ, hfr, hlo, hcl, hsl⟩ := O
  intro H locs ls hP hS hl
  exact va_gets hx hb hZ.2.2.1 hS hown (hts _ hlk) (fun _ h => h) hd (k H locs ls hP hS hl)
theorem V_slenA (pc : Nat) {q : Nat} (O : zO G x cc own fr lo mL) (hq : q < 10) (hd : decode cc pc = .ok (.arraylength, 1)) (k : V G x σ lv (pc + 1) (.int (slen q) :: st)) : V G x σ lv pc (.ref (adV G q) :: st) := by
  obtain ⟨p, l, e, R, s, m, args, below, meth, c, cells, slots, Q, nL⟩ := x
  obtain ⟨hx, hb, ⟨hml, rfl⟩, hown, hts, hK, hD, hZ, hfr, hlo, hcl, hsl⟩ := O
  intro H locs ls hP hS hl
  exact va_tlen hx hb (hZ.1.1 q hq).2.2.2 hS rfl hd (k H locs ls hP hS hl)
theorem V_sbald (pc : Nat) {q : Nat} {i : Int32} (O : zO G x cc own fr lo mL) (hq : q < 10) (hi : ib i (lenJS.getD q 0) = true) (hd : decode cc pc = .ok (.baload, 1)) (k : V G x σ lv (pc + 1) (.int (sch q i) :: st)) : V G x σ lv pc (.int i :: .ref (adV G q) :: st) := by
  obtain ⟨p, l, e, R, s, m, args, below, meth, c, cells, slots, Q, nL⟩ := x
  obtain ⟨hx, hb, ⟨hml, rfl⟩, hown, hts, hK, hD, hZ, hfr, hlo, hcl, hsl⟩ := O
  intro H locs ls hP hS hl
  exact va_tb hx hb (hZ.1.1 q hq).2.2.2 hS (ib_in hi) rfl hd (k H locs ls hP hS hl)
theorem V_i2c (pc : Nat) {a v : Int32} (O : zO G x cc own fr lo mL) (hd : decode cc pc = .ok (.i2c, 1)) (hv : (a.toUInt32 % 65536).toInt32 = v) (k : V G x σ lv (pc + 1) (.int v :: st)) : V G x σ lv pc (.int a :: st) := by
  obtain ⟨p, l, e, R, s, m, args, below, meth, c, cells, slots, Q, nL⟩ := x
  obtain ⟨hx, hb, ⟨hml, rfl⟩, hown, hts, hK, hD, hZ, hfr, hlo, hcl, hsl⟩ := O
  intro H locs ls hP hS hl
  exact lv_i2c hx hb hd hv (k H locs ls hP hS hl)
/-- a truth value, a char or a byte that is what it is -/
theorem V_nret (pc : Nat) {v : Int32} {ty : FieldType} (O : zO G x cc own fr lo mL) (E : zE G x (some ty) (some (.int v)) σ) (hn : narrow ty (.int v) = .int v) (hd : decode cc pc = .ok (.ireturn, 1)) : V G x σ lv pc [.int v] := by
  obtain ⟨p, l, e, R, s, m, args, below, meth, c, cells, slots, Q, nL⟩ := x
  obtain ⟨hx, hb, ⟨hml, rfl⟩, hown, hts, hK, hD, hZ, hfr, hlo, hcl, hsl⟩ := O
  intro H locs ls hP hS hl
  obtain ⟨rfl, hr, hlk⟩ := E
  exact W.zret hx hb hr hn (fun t ht hW => ⟨rfl, by rw [ht]; exact hP, hS.F ht⟩) hS.2.2 hd hlk
theorem V_aloadnV (pc : Nat) (j : Nat) {f : Fin 4} {i : Nat} {v : Nat} (O : zO G x cc own fr lo mL) (hd : decode cc pc = .ok (.aload_n f, 1)) (hi : (f : Nat) = i) (hk : lv[j]? = some (i, .ref v)) (k : V G x σ lv (pc + 1) (.ref v :: st)) : V G x σ lv pc st := V_aloadn pc j O hd hi hk k
/-- a method of String, on a constant -/
theorem V_callStr (pc : Nat) {st0 : List Value} (As rest : List Value) {y : MethodName} {bytes : ByteArray} {maxL n d index q : Nat} {ret : Option FieldType} {r : Int32} (O : zO G x cc own fr lo mL) (hm : mB y bytes maxL ret n) (hC : y.cls = "java/lang/String") (hinst : Cond.instanceMethod y ∈ zW) (hsel : Cond.selects "java/lang/String" y y ∈ zW) (hlk : Cond.methodLink own index y ∈ zW) (hq : q < 10) (hd : decode cc pc = .ok (.invokevirtual index, 3)) (hs0 : st0 = As.reverse ++ .ref (adK G q) :: rest) (hn : As.length = n) (hW : (rest.map fun v => v.category).sum ≤ 8) (hR : d + 1 ≤ fr ∧ 8 + (maxL + 11) + 40 * d ≤ lo)
    (hM : ∀ l, zM l G d y (.code y bytes maxL ret) (.ref (adK G q) :: As) σ (some (.int r)) σ) (k : V G x σ lv (pc + 3) (.int r :: rest)) : V G x σ lv pc st0 := by
  obtain ⟨p, l, e, R, s, m, args, below, meth, c, cells, slots, Q, nL⟩ := x
  obtain ⟨hx, hb, ⟨hml, rfl⟩, hown, hts, hK, hD, hZ, hfr, hlo, hcl, hsl⟩ := O
  intro H locs ls hP hS hl
  obtain ⟨hcw, hini, hne1, hne2, hpa⟩ := hm
  refine va_back (va_runV (As := As) (rest := rest) (C := "java/lang/String") (b := adK G q) (bytes := bytes) (maxL := maxL) (ret := ret) (n := n) (index := index) ⟨hx, hb, hml, hown, hts⟩ (hM l) ⟨callB_of (Ts := zW) n hts (zW_cons hcw) rfl rfl rfl (hts _ hini) (hts _ hlk) ⟨hne1, hne2, hpa⟩ ⟨Nat.le_trans hR.1 hfr, Nat.le_trans hR.2 hlo⟩, hts _ hinst, hts _ hsel⟩ ⟨zI_blind G σ _, vk_recv hZ.1 hq hS, zI_at hP hK (hD σ) hZ hS⟩ rfl hn hl.1 hs0 (lv_room hW) hd ⟨hcl, hsl⟩) hS hl k
theorem V_sioobe (pc : Nat) (O : zO G x cc RJ0 fr lo mL) (hlk : Cond.fieldLink RJ0 1053 "jdk/internal/util/Preconditions" "SIOOBE_FORMATTER" "Ljava/util/function/BiFunction;" ∈ zW) (hd : decode cc pc = .ok (.getstatic 1053, 3)) (k : ∀ v : Value, (v = .null ∨ ∃ t, v = .ref t) → V G x σ lv (pc + 3) (v :: st)) : V G x σ lv pc st := by
  obtain ⟨p, l, e, R, s, m, args, below, meth, c, cells, slots, Q, nL⟩ := x
  obtain ⟨hx, hb, ⟨hml, rfl⟩, hown, hts, hK, hD, hZ, hfr, hlo, hcl, hsl⟩ := O
  intro H locs ls hP hS hl
  rcases hZ.2.2.2.1 with hz | ⟨t, hz⟩
  · exact va_gets hx hb hz hS hown (hts _ hlk) (fun _ h => h) hd (k _ (Or.inl rfl) H locs ls hP hS hl)
  · exact va_gets hx hb hz hS hown (hts _ hlk) (fun _ h => h) hd (k _ (Or.inr ⟨t, rfl⟩) H locs ls hP hS hl)
end ZT
theorem mb_J0_length_8abf5 : mB yJ0_length_8abf5 cJ0_length_8abf5 1 (some (.int)) 0 := ⟨zin 741 (by decide +kernel) (by decide +kernel), zin 98 (by decide +kernel) (by decide +kernel), by decide, by decide, by decide +kernel⟩
theorem mb_J0_charAt_5068e : mB yJ0_charAt_5068e cJ0_charAt_5068e 2 (some (.char)) 1 := ⟨zin 751 (by decide +kernel) (by decide +kernel), zin 98 (by decide +kernel) (by decide +kernel), by decide, by decide, by decide +kernel⟩
theorem mb_J0_coder_7d493 : mB yJ0_coder_7d493 cJ0_coder_7d493 1 (some (.byte)) 0 := ⟨zin 745 (by decide +kernel) (by decide +kernel), zin 98 (by decide +kernel) (by decide +kernel), by decide, by decide, by decide +kernel⟩
theorem mb_J0_isLatin1_aae02 : mB yJ0_isLatin1_aae02 cJ0_isLatin1_aae02 1 (some (.boolean)) 0 := ⟨zin 755 (by decide +kernel) (by decide +kernel), zin 98 (by decide +kernel) (by decide +kernel), by decide, by decide, by decide +kernel⟩
theorem mb_J0_checkIndex_df160 : mB yJ0_checkIndex_df160 cJ0_checkIndex_df160 2 none 2 := ⟨zin 761 (by decide +kernel) (by decide +kernel), zin 98 (by decide +kernel) (by decide +kernel), by decide, by decide, by decide +kernel⟩
theorem mb_J1_charAt_3b067 : mB yJ1_charAt_3b067 cJ1_charAt_3b067 2 (some (.char)) 2 := ⟨zin 758 (by decide +kernel) (by decide +kernel), zin 99 (by decide +kernel) (by decide +kernel), by decide, by decide, by decide +kernel⟩
theorem mb_J3_checkIndex_8e157 : mB yJ3_checkIndex_8e157 cJ3_checkIndex_8e157 3 (some (.int)) 3 := ⟨zin 766 (by decide +kernel) (by decide +kernel), zin 100 (by decide +kernel) (by decide +kernel), by decide, by decide, by decide +kernel⟩
theorem mi_J0_length_8abf5 : Cond.instanceMethod yJ0_length_8abf5 ∈ zW ∧ Cond.selects "java/lang/String" yJ0_length_8abf5 yJ0_length_8abf5 ∈ zW := ⟨zin 739 (by decide +kernel) (by decide +kernel), zin 740 (by decide +kernel) (by decide +kernel)⟩
theorem mi_J0_charAt_5068e : Cond.instanceMethod yJ0_charAt_5068e ∈ zW ∧ Cond.selects "java/lang/String" yJ0_charAt_5068e yJ0_charAt_5068e ∈ zW := ⟨zin 749 (by decide +kernel) (by decide +kernel), zin 750 (by decide +kernel) (by decide +kernel)⟩
theorem mi_J0_coder_7d493 : Cond.instanceMethod yJ0_coder_7d493 ∈ zW ∧ Cond.selects "java/lang/String" yJ0_coder_7d493 yJ0_coder_7d493 ∈ zW := ⟨zin 743 (by decide +kernel) (by decide +kernel), zin 744 (by decide +kernel) (by decide +kernel)⟩
theorem mi_J0_isLatin1_aae02 : Cond.instanceMethod yJ0_isLatin1_aae02 ∈ zW ∧ Cond.selects "java/lang/String" yJ0_isLatin1_aae02 yJ0_isLatin1_aae02 ∈ zW := ⟨zin 753 (by decide +kernel) (by decide +kernel), zin 754 (by decide +kernel) (by decide +kernel)⟩
theorem mf_J0_checkIndex_df160 : mS yJ0_checkIndex_df160 cJ0_checkIndex_df160 2 none 2 := ⟨mb_J0_checkIndex_df160, zin 760 (by decide +kernel) (by decide +kernel)⟩
theorem mf_J1_charAt_3b067 : mS yJ1_charAt_3b067 cJ1_charAt_3b067 2 (some (.char)) 2 := ⟨mb_J1_charAt_3b067, zin 757 (by decide +kernel) (by decide +kernel)⟩
theorem mf_J3_checkIndex_8e157 : mS yJ3_checkIndex_8e157 cJ3_checkIndex_8e157 3 (some (.int)) 3 := ⟨mb_J3_checkIndex_8e157, zin 765 (by decide +kernel) (by decide +kernel)⟩
theorem js_9 : Cond.fieldLink RJ0 9 "java/lang/String" "value" "[B" ∈ zW := zin 1730 (by decide +kernel) (by decide +kernel)
theorem js_15 : Cond.fieldLink RJ0 15 "java/lang/String" "coder" "B" ∈ zW := zin 1731 (by decide +kernel) (by decide +kernel)
theorem js_38 : Cond.fieldLink RJ0 38 "java/lang/String" "COMPACT_STRINGS" "Z" ∈ zW := zin 746 (by decide +kernel) (by decide +kernel)
theorem js_1053 : Cond.fieldLink RJ0 1053 "jdk/internal/util/Preconditions" "SIOOBE_FORMATTER" "Ljava/util/function/BiFunction;" ∈ zW := zin 762 (by decide +kernel) (by decide +kernel)
theorem lj_335 : Cond.methodLink RJ0 335 yJ0_coder_7d493 ∈ zW := zin 742 (by decide +kernel) (by decide +kernel)
theorem lj_492 : Cond.methodLink RJ0 492 yJ0_isLatin1_aae02 ∈ zW := zin 752 (by decide +kernel) (by decide +kernel)
theorem lj_495 : Cond.methodLink RJ0 495 yJ1_charAt_3b067 ∈ zW := zin 756 (by decide +kernel) (by decide +kernel)
theorem lj_1059 : Cond.methodLink RJ0 1059 yJ3_checkIndex_8e157 ∈ zW := zin 764 (by decide +kernel) (by decide +kernel)
theorem lj_9 : Cond.methodLink RJ1 9 yJ0_checkIndex_df160 ∈ zW := zin 759 (by decide +kernel) (by decide +kernel)
theorem lr_129 : Cond.methodLink RX5 129 yJ0_length_8abf5 ∈ zW := zin 738 (by decide +kernel) (by decide +kernel)
theorem lr_133 : Cond.methodLink RX5 133 yJ0_charAt_5068e ∈ zW := zin 748 (by decide +kernel) (by decide +kernel)
theorem slen_sr {q : Nat} (hq : q < 10) : slen q = sr (slen q) 0 := by
  have key : ∀ q, q < 10 → slen q = sr (slen q) 0 := by decide
  exact key q hq
theorem jc_255 : (Int16.ofInt (255)).toInt32 = (255 : Int32) := by decide
theorem C_J0_coder_7d493 {l : Launch} {G : zG} {σ : Sg} {q : Nat} (hq : q < 10) : zM l G 0 yJ0_coder_7d493 (.code yJ0_coder_7d493 cJ0_coder_7d493 1 (some (.byte))) [.ref (adK G q)] σ (some (.int 0)) σ := by
  refine zM_of (by decide) (Nat.le_of_ble_eq_true rfl) (fun x O E => ?_)
  have O : zO G x cJ0_coder_7d493 RJ0 0 0 1 := O
  show V G x σ [(0, .ref (adK G q))] 0 []
  refine V_scomp 0 O js_38 dJ0_coder_7d493_0 ?_
  refine V_if_eqc 3 13 O dJ0_coder_7d493_3 rfl (fun c1 => absurd c1 (by decide)) (fun _ => ?_)
  refine V_aloadnV 6 0 O dJ0_coder_7d493_6 rfl rfl ?_
  refine V_scod 7 O hq js_15 dJ0_coder_7d493_7 ?_
  refine V_goto 10 14 O dJ0_coder_7d493_10 rfl ?_
  exact V_nret 14 O E (by decide) dJ0_coder_7d493_14
theorem C_J0_isLatin1_aae02 {l : Launch} {G : zG} {σ : Sg} {q : Nat} (hq : q < 10) : zM l G 0 yJ0_isLatin1_aae02 (.code yJ0_isLatin1_aae02 cJ0_isLatin1_aae02 1 (some (.boolean))) [.ref (adK G q)] σ (some (.int 1)) σ := by
  refine zM_of (by decide) (Nat.le_of_ble_eq_true rfl) (fun x O E => ?_)
  have O : zO G x cJ0_isLatin1_aae02 RJ0 0 0 1 := O
  show V G x σ [(0, .ref (adK G q))] 0 []
  refine V_scomp 0 O js_38 dJ0_isLatin1_aae02_0 ?_
  refine V_if_eqc 3 17 O dJ0_isLatin1_aae02_3 rfl (fun c1 => absurd c1 (by decide)) (fun _ => ?_)
  refine V_aloadnV 6 0 O dJ0_isLatin1_aae02_6 rfl rfl ?_
  refine V_scod 7 O hq js_15 dJ0_isLatin1_aae02_7 ?_
  refine V_if_nec 10 17 O dJ0_isLatin1_aae02_10 rfl (fun c1 => absurd rfl c1) (fun _ => ?_)
  refine V_iconst 13 O dJ0_isLatin1_aae02_13 ci_1 ?_
  refine V_goto 14 18 O dJ0_isLatin1_aae02_14 rfl ?_
  exact V_nret 18 O E (by decide) dJ0_isLatin1_aae02_18
theorem C_J0_length_8abf5 {l : Launch} {G : zG} {σ : Sg} {q : Nat} (hq : q < 10) : zM l G 1 yJ0_length_8abf5 (.code yJ0_length_8abf5 cJ0_length_8abf5 1 (some (.int))) [.ref (adK G q)] σ (some (.int (slen q))) σ := by
  refine zM_of (by decide) (Nat.le_of_ble_eq_true rfl) (fun x O E => ?_)
  have O : zO G x cJ0_length_8abf5 RJ0 1 40 1 := O
  show V G x σ [(0, .ref (adK G q))] 0 []
  refine V_aloadnV 0 0 O dJ0_length_8abf5_0 rfl rfl ?_
  refine V_sval 1 O hq js_9 dJ0_length_8abf5_1 ?_
  refine V_slenA 4 O hq dJ0_length_8abf5_4 ?_
  refine V_aloadnV 5 0 O dJ0_length_8abf5_5 rfl rfl ?_
  refine V_callStr 6 [] [.int (slen q)] O mb_J0_coder_7d493 rfl mi_J0_coder_7d493.1 mi_J0_coder_7d493.2 lj_335 hq dJ0_length_8abf5_6 rfl rfl (Nat.le_of_ble_eq_true rfl) ⟨(Nat.le_of_ble_eq_true rfl), (Nat.le_of_ble_eq_true rfl)⟩ (fun l => C_J0_coder_7d493 hq) ?_
  refine V_ishr 9 O dJ0_length_8abf5_9 ?_
  refine V_top (slen_sr hq) ?_
  exact V_nret 10 O E rfl dJ0_length_8abf5_10
theorem C_J3_checkIndex_8e157_0 {l : Launch} {G : zG} {σ : Sg} {i k : Int32} {t : Nat} (h1 : ¬ i < 0) (h2 : i < k) : zM l G 0 yJ3_checkIndex_8e157 (.code yJ3_checkIndex_8e157 cJ3_checkIndex_8e157 3 (some .int)) [.int i, .int k, Value.null] σ (some (.int i)) σ := by
  refine zM_of (by decide) (Nat.le_of_ble_eq_true rfl) (fun x O E => ?_)
  have O : zO G x cJ3_checkIndex_8e157 RJ3 0 0 3 := O
  show V G x σ [(0, .int i), (1, .int k), (2, Value.null)] 0 []
  refine V_iloadn 0 0 O dJ3_checkIndex_8e157_0 rfl rfl ?_
  refine V_if_ltc 1 9 O dJ3_checkIndex_8e157_1 rfl (fun c1 => absurd c1 h1) (fun _ => ?_)
  refine V_iloadn 4 0 O dJ3_checkIndex_8e157_4 rfl rfl ?_
  refine V_iloadn 5 1 O dJ3_checkIndex_8e157_5 rfl rfl ?_
  refine V_icmp_ltc 6 16 O dJ3_checkIndex_8e157_6 rfl (fun _ => ?_) (fun c1 => absurd h2 c1)
  refine V_iloadn 16 0 O dJ3_checkIndex_8e157_16 rfl rfl ?_
  exact V_nret 17 O E rfl dJ3_checkIndex_8e157_17
theorem C_J3_checkIndex_8e157_1 {l : Launch} {G : zG} {σ : Sg} {i k : Int32} {t : Nat} (h1 : ¬ i < 0) (h2 : i < k) : zM l G 0 yJ3_checkIndex_8e157 (.code yJ3_checkIndex_8e157 cJ3_checkIndex_8e157 3 (some .int)) [.int i, .int k, Value.ref t] σ (some (.int i)) σ := by
  refine zM_of (by decide) (Nat.le_of_ble_eq_true rfl) (fun x O E => ?_)
  have O : zO G x cJ3_checkIndex_8e157 RJ3 0 0 3 := O
  show V G x σ [(0, .int i), (1, .int k), (2, Value.ref t)] 0 []
  refine V_iloadn 0 0 O dJ3_checkIndex_8e157_0 rfl rfl ?_
  refine V_if_ltc 1 9 O dJ3_checkIndex_8e157_1 rfl (fun c1 => absurd c1 h1) (fun _ => ?_)
  refine V_iloadn 4 0 O dJ3_checkIndex_8e157_4 rfl rfl ?_
  refine V_iloadn 5 1 O dJ3_checkIndex_8e157_5 rfl rfl ?_
  refine V_icmp_ltc 6 16 O dJ3_checkIndex_8e157_6 rfl (fun _ => ?_) (fun c1 => absurd h2 c1)
  refine V_iloadn 16 0 O dJ3_checkIndex_8e157_16 rfl rfl ?_
  exact V_nret 17 O E rfl dJ3_checkIndex_8e157_17
theorem C_J3_checkIndex_8e157 {l : Launch} {G : zG} {σ : Sg} {i k : Int32} {v : Value} (hv : v = .null ∨ ∃ t, v = .ref t) (h1 : ¬ i < 0) (h2 : i < k) : zM l G 0 yJ3_checkIndex_8e157 (.code yJ3_checkIndex_8e157 cJ3_checkIndex_8e157 3 (some .int)) [.int i, .int k, v] σ (some (.int i)) σ := by
  rcases hv with rfl | ⟨t, rfl⟩
  · exact C_J3_checkIndex_8e157_0 (t := 0) h1 h2
  · exact C_J3_checkIndex_8e157_1 h1 h2
theorem C_J0_checkIndex_df160 {l : Launch} {G : zG} {σ : Sg} {i k : Int32} (h1 : ¬ i < 0) (h2 : i < k) : zM l G 1 yJ0_checkIndex_df160 (.code yJ0_checkIndex_df160 cJ0_checkIndex_df160 2 none) [.int i, .int k] σ none σ := by
  refine zM_of (by decide) (Nat.le_of_ble_eq_true rfl) (fun x O E => ?_)
  have O : zO G x cJ0_checkIndex_df160 RJ0 1 40 2 := O
  show V G x σ [(0, .int i), (1, .int k)] 0 []
  refine V_iloadn 0 0 O dJ0_checkIndex_df160_0 rfl rfl ?_
  refine V_iloadn 1 1 O dJ0_checkIndex_df160_1 rfl rfl ?_
  refine V_sioobe 2 O js_1053 dJ0_checkIndex_df160_2 (fun v hv => ?_)
  have hc : v.category = 1 := by rcases hv with rfl | ⟨t, rfl⟩ <;> rfl
  refine V_callSi 5 [.int i, .int k, v] [] O mf_J3_checkIndex_8e157 lj_1059 dJ0_checkIndex_df160_5 rfl rfl (Nat.le_of_ble_eq_true rfl) ⟨(Nat.le_of_ble_eq_true rfl), (Nat.le_of_ble_eq_true rfl)⟩ (fun l => C_J3_checkIndex_8e157 hv h1 h2) ?_
  refine V_pop 8 O dJ0_checkIndex_df160_8 rfl ?_
  exact V_vret 9 O E dJ0_checkIndex_df160_9 rfl
theorem sch_ok {q : Nat} {i : Int32} (hq : q < 10) (hi : ib i (lenJS.getD q 0) = true) : ((sch q i &&& (255 : Int32)).toUInt32 % 65536).toInt32 = sch q i ∧ narrow .char (.int (sch q i)) = .int (sch q i) := by
  have key : ∀ q, q < 10 → ∀ j, j < lenJS.getD q 0 → (((bytJS.getD q []).getD j 0 &&& (255 : Int32)).toUInt32 % 65536).toInt32 = (bytJS.getD q []).getD j 0 ∧ narrow .char (.int ((bytJS.getD q []).getD j 0)) = .int ((bytJS.getD q []).getD j 0) := by decide
  exact key q hq (ix i) (Nat.not_le.mp fun z => ib_in hi (Or.inr z))
theorem ib_lt {i : Int32} {m : Nat} (hm : m < 2 ^ 31) (h : ib i m = true) : ¬ i < 0 ∧ i < nI m := by
  obtain ⟨j, hj, rfl⟩ := vp_in_of (ib_in h) hm
  exact ⟨nI_pos (by omega), nI_lt hj hm⟩
theorem len_lt {q : Nat} (hq : q < 10) : lenJS.getD q 0 < 2 ^ 31 := by
  have key : ∀ q, q < 10 → lenJS.getD q 0 < 2 ^ 31 := by decide
  exact key q hq
theorem C_J1_charAt_3b067 {l : Launch} {G : zG} {σ : Sg} {q : Nat} {i : Int32} (hq : q < 10) (hi : ib i (lenJS.getD q 0) = true) : zM l G 2 yJ1_charAt_3b067 (.code yJ1_charAt_3b067 cJ1_charAt_3b067 2 (some .char)) [.ref (adV G q), .int i] σ (some (.int (sch q i))) σ := by
  refine zM_of (by decide) (Nat.le_of_ble_eq_true rfl) (fun x O E => ?_)
  have O : zO G x cJ1_charAt_3b067 RJ1 2 80 2 := O
  have hh := ib_lt (len_lt hq) hi
  show V G x σ [(0, .ref (adV G q)), (1, .int i)] 0 []
  refine V_iloadn 0 1 O dJ1_charAt_3b067_0 rfl rfl ?_
  refine V_aloadnV 1 0 O dJ1_charAt_3b067_1 rfl rfl ?_
  refine V_slenA 2 O hq dJ1_charAt_3b067_2 ?_
  refine V_callSv 3 [.int i, .int (slen q)] [] O mf_J0_checkIndex_df160 lj_9 dJ1_charAt_3b067_3 rfl rfl (Nat.le_of_ble_eq_true rfl) ⟨(Nat.le_of_ble_eq_true rfl), (Nat.le_of_ble_eq_true rfl)⟩ (fun l => C_J0_checkIndex_df160 hh.1 hh.2) ?_
  refine V_aloadnV 6 0 O dJ1_charAt_3b067_6 rfl rfl ?_
  refine V_iloadn 7 1 O dJ1_charAt_3b067_7 rfl rfl ?_
  refine V_sbald 8 O hq hi dJ1_charAt_3b067_8 ?_
  refine V_sipush 9 O dJ1_charAt_3b067_9 jc_255 ?_
  refine V_iand 12 O dJ1_charAt_3b067_12 ?_
  refine V_i2c 13 O dJ1_charAt_3b067_13 (sch_ok hq hi).1 ?_
  exact V_nret 14 O E (sch_ok hq hi).2 dJ1_charAt_3b067_14
theorem C_J0_charAt_5068e {l : Launch} {G : zG} {σ : Sg} {q : Nat} {i : Int32} (hq : q < 10) (hi : ib i (lenJS.getD q 0) = true) : zM l G 3 yJ0_charAt_5068e (.code yJ0_charAt_5068e cJ0_charAt_5068e 2 (some .char)) [.ref (adK G q), .int i] σ (some (.int (sch q i))) σ := by
  refine zM_of (by decide) (Nat.le_of_ble_eq_true rfl) (fun x O E => ?_)
  have O : zO G x cJ0_charAt_5068e RJ0 3 120 2 := O
  show V G x σ [(0, .ref (adK G q)), (1, .int i)] 0 []
  refine V_aloadnV 0 0 O dJ0_charAt_5068e_0 rfl rfl ?_
  refine V_callStr 1 [] [] O mb_J0_isLatin1_aae02 rfl mi_J0_isLatin1_aae02.1 mi_J0_isLatin1_aae02.2 lj_492 hq dJ0_charAt_5068e_1 rfl rfl (Nat.le_of_ble_eq_true rfl) ⟨(Nat.le_of_ble_eq_true rfl), (Nat.le_of_ble_eq_true rfl)⟩ (fun l => C_J0_isLatin1_aae02 hq) ?_
  refine V_if_eqc 4 16 O dJ0_charAt_5068e_4 rfl (fun c1 => absurd c1 (by decide)) (fun _ => ?_)
  refine V_aloadnV 7 0 O dJ0_charAt_5068e_7 rfl rfl ?_
  refine V_sval 8 O hq js_9 dJ0_charAt_5068e_8 ?_
  refine V_iloadn 11 1 O dJ0_charAt_5068e_11 rfl rfl ?_
  refine V_callSi 12 [.ref (adV G q), .int i] [] O mf_J1_charAt_3b067 lj_495 dJ0_charAt_5068e_12 rfl rfl (Nat.le_of_ble_eq_true rfl) ⟨(Nat.le_of_ble_eq_true rfl), (Nat.le_of_ble_eq_true rfl)⟩ (fun l => C_J1_charAt_3b067 hq hi) ?_
  exact V_nret 15 O E (sch_ok hq hi).2 dJ0_charAt_5068e_15
section ZU
variable {G : zG} {x : zX} {cc : ByteArray} {fr lo mL : Nat} {σ : Sg} {lv : List (Nat × Value)}
theorem V_strlen (pc : Nat) (st : List Value) {q : Nat} (O : zO G x cc RX5 fr lo mL) (hq : q < 10) (hW : (st.map fun v => v.category).sum ≤ 8) (hR : 2 ≤ fr) (hd : decode cc pc = .ok (.invokevirtual 129, 3)) (hR2 : 60 ≤ lo) (k : V G x σ lv (pc + 3) (.int (slen q) :: st)) : V G x σ lv pc (.ref (G.2.2.2.2.1 q) :: st) :=
  V_callStr pc [] st O mb_J0_length_8abf5 rfl mi_J0_length_8abf5.1 mi_J0_length_8abf5.2 lr_129 hq hd rfl rfl hW ⟨hR, hR2⟩ (fun l => C_J0_length_8abf5 hq) k
theorem V_strch (pc : Nat) (st : List Value) {q : Nat} {i : Int32} {ρ : Type} {A : Option ρ} {X : ρ} (O : zO G x cc RX5 fr lo mL) (hq : q < 10) (hW : (st.map fun v => v.category).sum ≤ 8) (hR : 4 ≤ fr) (hd : decode cc pc = .ok (.invokevirtual 133, 3)) (hR2 : 141 ≤ lo) (h : ck i (lenJS.getD q 0) A = some X) (k : A = some X → V G x σ lv (pc + 3) (.int (sch q i) :: st)) : V G x σ lv pc (.int i :: .ref (G.2.2.2.2.1 q) :: st) :=
  V_callStr pc [.int i] st O mb_J0_charAt_5068e rfl mi_J0_charAt_5068e.1 mi_J0_charAt_5068e.2 lr_133 hq hd rfl rfl hW ⟨hR, hR2⟩ (fun l => C_J0_charAt_5068e hq (ck_of h).1) (k (ck_of h).2)
end ZU
