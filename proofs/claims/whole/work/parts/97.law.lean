/-! ===== the law: its cases, by program (wip/tools/law.py) ===== -/
/-- the script: L numbers xs at b, outside the world -/
def lX (G : zG) (x : zX) (b L : Nat) (xs : Nat → Int32) : Prop := match x with
  | (_, _, _, _, s, _, _, _, _, _, _, _, _, _) => va_X b L xs s s.heap ∧ b < s.heap.size ∧ ¬ zA G b
abbrev lL (G : zG) (b i : Nat) : List (Nat × Value) := [(0, .ref b), (1, .ref (zad G 0)), (2, .ref (zad G 71)), (3, .int (nI i))]
theorem ll_13 : Cond.methodLink RL 13 yX11_pipe ∈ zW := zin 584 (by decide +kernel) (by decide +kernel)
theorem ll_17 : Cond.methodLink RL 17 yX12_pipe ∈ zW := zin 1396 (by decide +kernel) (by decide +kernel)
theorem ll_18 : Cond.methodLink RL 18 yX11_shut ∈ zW := zin 598 (by decide +kernel) (by decide +kernel)
theorem ll_22 : Cond.methodLink RL 22 yX12_shut ∈ zW := zin 1409 (by decide +kernel) (by decide +kernel)
theorem ll_23 : Cond.methodLink RL 23 yX11_leak ∈ zW := zin 606 (by decide +kernel) (by decide +kernel)
theorem ll_27 : Cond.methodLink RL 27 yX12_leak ∈ zW := zin 1420 (by decide +kernel) (by decide +kernel)
theorem ll_28 : Cond.methodLink RL 28 yX11_map ∈ zW := zin 610 (by decide +kernel) (by decide +kernel)
theorem ll_32 : Cond.methodLink RL 32 yX12_map ∈ zW := zin 1424 (by decide +kernel) (by decide +kernel)
theorem ll_33 : Cond.methodLink RL 33 yX11_pump ∈ zW := zin 614 (by decide +kernel) (by decide +kernel)
theorem ll_36 : Cond.methodLink RL 36 yX12_pump ∈ zW := zin 1428 (by decide +kernel) (by decide +kernel)
theorem ll_37 : Cond.methodLink RL 37 yX11_street ∈ zW := zin 618 (by decide +kernel) (by decide +kernel)
theorem ll_41 : Cond.methodLink RL 41 yX12_street ∈ zW := zin 1437 (by decide +kernel) (by decide +kernel)
theorem ll_42 : Cond.methodLink RL 42 yX11_over ∈ zW := zin 626 (by decide +kernel) (by decide +kernel)
theorem ll_46 : Cond.methodLink RL 46 yX12_over ∈ zW := zin 1441 (by decide +kernel) (by decide +kernel)
theorem ll_47 : Cond.methodLink RL 47 yX11_rooms ∈ zW := zin 634 (by decide +kernel) (by decide +kernel)
theorem ll_50 : Cond.methodLink RL 50 yX12_rooms ∈ zW := zin 1449 (by decide +kernel) (by decide +kernel)
theorem ll_51 : Cond.methodLink RL 51 yX11_count ∈ zW := zin 638 (by decide +kernel) (by decide +kernel)
theorem ll_54 : Cond.methodLink RL 54 yX12_count ∈ zW := zin 1578 (by decide +kernel) (by decide +kernel)
theorem ll_55 : Cond.methodLink RL 55 yX11_told ∈ zW := zin 652 (by decide +kernel) (by decide +kernel)
theorem ll_58 : Cond.methodLink RL 58 yX12_told ∈ zW := zin 1594 (by decide +kernel) (by decide +kernel)
theorem ll_61 : Cond.methodLink RL 61 yX11_feed ∈ zW := zin 695 (by decide +kernel) (by decide +kernel)
theorem ll_65 : Cond.methodLink RL 65 yX12_feed ∈ zW := zin 1453 (by decide +kernel) (by decide +kernel)
theorem ll_66 : Cond.methodLink RL 66 yX11_rule ∈ zW := zin 704 (by decide +kernel) (by decide +kernel)
theorem ll_69 : Cond.methodLink RL 69 yX12_rule ∈ zW := zin 1459 (by decide +kernel) (by decide +kernel)
theorem ll_70 : Cond.methodLink RL 70 yX11_fault ∈ zW := zin 843 (by decide +kernel) (by decide +kernel)
theorem ll_74 : Cond.methodLink RL 74 yX12_fault ∈ zW := zin 1507 (by decide +kernel) (by decide +kernel)
theorem ll_75 : Cond.methodLink RL 75 yX11_force ∈ zW := zin 847 (by decide +kernel) (by decide +kernel)
theorem ll_78 : Cond.methodLink RL 78 yX12_force ∈ zW := zin 1511 (by decide +kernel) (by decide +kernel)
theorem ll_79 : Cond.methodLink RL 79 yX11_go ∈ zW := zin 852 (by decide +kernel) (by decide +kernel)
theorem ll_82 : Cond.methodLink RL 82 yX12_go ∈ zW := zin 1519 (by decide +kernel) (by decide +kernel)
theorem ll_83 : Cond.methodLink RL 83 yX11_flow ∈ zW := zin 947 (by decide +kernel) (by decide +kernel)
theorem ll_86 : Cond.methodLink RL 86 yX12_flow ∈ zW := zin 1610 (by decide +kernel) (by decide +kernel)
theorem ll_87 : Cond.methodLink RL 87 yX11_line ∈ zW := zin 955 (by decide +kernel) (by decide +kernel)
theorem ll_90 : Cond.methodLink RL 90 yX12_line ∈ zW := zin 1616 (by decide +kernel) (by decide +kernel)
theorem ll_91 : Cond.methodLink RL 91 yX11_draw ∈ zW := zin 959 (by decide +kernel) (by decide +kernel)
theorem ll_94 : Cond.methodLink RL 94 yX12_draw ∈ zW := zin 1620 (by decide +kernel) (by decide +kernel)
theorem ll_95 : Cond.methodLink RL 95 yX11_order ∈ zW := zin 971 (by decide +kernel) (by decide +kernel)
theorem ll_98 : Cond.methodLink RL 98 yX12_order ∈ zW := zin 1625 (by decide +kernel) (by decide +kernel)
theorem ll_99 : Cond.methodLink RL 99 yX11_cuts ∈ zW := zin 1027 (by decide +kernel) (by decide +kernel)
theorem ll_102 : Cond.methodLink RL 102 yX12_cuts ∈ zW := zin 1656 (by decide +kernel) (by decide +kernel)
theorem ll_103 : Cond.methodLink RL 103 yX11_wrong ∈ zW := zin 1044 (by decide +kernel) (by decide +kernel)
theorem ll_106 : Cond.methodLink RL 106 yX12_wrong ∈ zW := zin 1664 (by decide +kernel) (by decide +kernel)
theorem ll_107 : Cond.methodLink RL 107 yX11_gauge ∈ zW := zin 1048 (by decide +kernel) (by decide +kernel)
theorem ll_110 : Cond.methodLink RL 110 yX12_gauge ∈ zW := zin 1668 (by decide +kernel) (by decide +kernel)
theorem ll_111 : Cond.methodLink RL 111 yX11_guess ∈ zW := zin 1056 (by decide +kernel) (by decide +kernel)
theorem ll_114 : Cond.methodLink RL 114 yX12_guess ∈ zW := zin 1672 (by decide +kernel) (by decide +kernel)
theorem ll_115 : Cond.methodLink RL 115 yX11_explain ∈ zW := zin 1064 (by decide +kernel) (by decide +kernel)
theorem ll_118 : Cond.methodLink RL 118 yX12_explain ∈ zW := zin 1676 (by decide +kernel) (by decide +kernel)
theorem ll_119 : Cond.methodLink RL 119 yX11_beds ∈ zW := zin 1085 (by decide +kernel) (by decide +kernel)
theorem ll_122 : Cond.methodLink RL 122 yX12_beds ∈ zW := zin 1684 (by decide +kernel) (by decide +kernel)
theorem ll_123 : Cond.methodLink RL 123 yX11_river ∈ zW := zin 1129 (by decide +kernel) (by decide +kernel)
theorem ll_126 : Cond.methodLink RL 126 yX12_river ∈ zW := zin 1713 (by decide +kernel) (by decide +kernel)
theorem ll_127 : Cond.methodLink RL 127 yX11_share ∈ zW := zin 1133 (by decide +kernel) (by decide +kernel)
theorem ll_130 : Cond.methodLink RL 130 yX12_share ∈ zW := zin 1717 (by decide +kernel) (by decide +kernel)
theorem ll_131 : Cond.methodLink RL 131 yX11_gains ∈ zW := zin 1137 (by decide +kernel) (by decide +kernel)
theorem ll_134 : Cond.methodLink RL 134 yX12_gains ∈ zW := zin 1721 (by decide +kernel) (by decide +kernel)
theorem ll_135 : Cond.methodLink RL 135 yX11_beside ∈ zW := zin 1141 (by decide +kernel) (by decide +kernel)
theorem ll_138 : Cond.methodLink RL 138 yX12_beside ∈ zW := zin 1725 (by decide +kernel) (by decide +kernel)
section LR
variable {G : zG} {x : zX} {fr lo : Nat} {σ : Sg} {b L i : Nat} {xs : Nat → Int32} {st : List Value}
theorem V_sld (pc : Nat) {lv : List (Nat × Value)} {z : Int32} (O : zO G x cL_law RL fr lo 4) (X : lX G x b L xs) (hin : vp_in z L) (hd : decode cL_law pc = .ok (.iaload, 1)) (k : V G x σ lv (pc + 1) (.int (xs z.toNatClampNeg) :: st)) : V G x σ lv pc (.int z :: .ref b :: st) := by
  obtain ⟨p, l, e, R, s, m, args, below, meth, c, cells, slots, Q, nL⟩ := x
  obtain ⟨hx, hb, ⟨hml, rfl⟩, hown, hts, hK, hD, hZ, hfr, hlo, hcl, hsl⟩ := O
  intro H locs ls hP hS hl
  exact va_sld hx hb X.1 X.2.1 X.2.2 hS hin hd (k H locs ls hP hS hl)
theorem V_slen (pc : Nat) {lv : List (Nat × Value)} (O : zO G x cL_law RL fr lo 4) (X : lX G x b L xs) (hd : decode cL_law pc = .ok (.arraylength, 1)) (k : V G x σ lv (pc + 1) (.int (nI L) :: st)) : V G x σ lv pc (.ref b :: st) := by
  obtain ⟨p, l, e, R, s, m, args, below, meth, c, cells, slots, Q, nL⟩ := x
  obtain ⟨hx, hb, ⟨hml, rfl⟩, hown, hts, hK, hD, hZ, hfr, hlo, hcl, hsl⟩ := O
  intro H locs ls hP hS hl
  exact va_slen hx hb X.1 X.2.1 X.2.2 hS hd (k H locs ls hP hS hl)
theorem V_tin (pc tgt : Nat) {lv : List (Nat × Value)} {dflt l0 hi : Int} {offs : Array Int} {len : Nat} {z : Int32} {off : Int} (O : zO G x cL_law RL fr lo 4) (hd : decode cL_law pc = .ok (.tableswitch dflt l0 hi offs, len)) (h1 : ¬ z.toInt < l0) (h2 : ¬ hi < z.toInt) (ho : offs[(z.toInt - l0).toNat]? = some off) (ht : (pc : Int) + off = (tgt : Int)) (k : V G x σ lv tgt st) : V G x σ lv pc (.int z :: st) := by
  obtain ⟨p, l, e, R, s, m, args, below, meth, c, cells, slots, Q, nL⟩ := x
  obtain ⟨hx, hb, ⟨hml, rfl⟩, hown, hts, hK, hD, hZ, hfr, hlo, hcl, hsl⟩ := O
  intro H locs ls hP hS hl
  exact lv_tableIn hx hb hd h1 h2 ho ht (k H locs ls hP hS hl)
theorem V_tout (pc tgt : Nat) {lv : List (Nat × Value)} {dflt l0 hi : Int} {offs : Array Int} {len : Nat} {z : Int32} (O : zO G x cL_law RL fr lo 4) (hd : decode cL_law pc = .ok (.tableswitch dflt l0 hi offs, len)) (h : z.toInt < l0 ∨ hi < z.toInt) (ht : (pc : Int) + dflt = (tgt : Int)) (k : V G x σ lv tgt st) : V G x σ lv pc (.int z :: st) := by
  obtain ⟨p, l, e, R, s, m, args, below, meth, c, cells, slots, Q, nL⟩ := x
  obtain ⟨hx, hb, ⟨hml, rfl⟩, hown, hts, hK, hD, hZ, hfr, hlo, hcl, hsl⟩ := O
  intro H locs ls hP hS hl
  exact lv_tableOut hx hb hd h ht (k H locs ls hP hS hl)
/-- script[i + j] -/
theorem V_arg (pc : Nat) {j : Nat} {z : Int} (O : zO G x cL_law RL fr lo 4) (X : lX G x b L xs) (hL : L ≤ 3584) (hj : j ≤ 6) (hi : i + 6 < L) (hz : Int32.ofInt z = nI j) (d0 : decode cL_law pc = .ok (.aload_n 0, 1)) (d1 : decode cL_law (pc + 1) = .ok (.iload_n 3, 1)) (d2 : decode cL_law (pc + 1 + 1) = .ok (.iconst z, 1)) (d3 : decode cL_law (pc + 1 + 1 + 1) = .ok (.iadd, 1)) (d4 : decode cL_law (pc + 1 + 1 + 1 + 1) = .ok (.iaload, 1)) (k : V G x σ (lL G b i) (pc + 1 + 1 + 1 + 1 + 1) (.int (xs (i + j)) :: st)) : V G x σ (lL G b i) pc st := by
  refine V_aloadn pc 0 O d0 rfl rfl (V_iloadn (pc + 1) 3 O d1 rfl rfl (V_iconst (pc + 1 + 1) O d2 hz (V_iadd (pc + 1 + 1 + 1) O d3 ?_)))
  rw [nadd]
  refine V_sld (pc + 1 + 1 + 1 + 1) O X (ib_in (ib_n (by omega) (by omega))) d4 ?_
  rw [show (nI (i + j)).toNatClampNeg = i + j from ix_n (by omega)]
  exact k
theorem V_argb (pc : Nat) {j : Nat} {z : Int} (O : zO G x cL_law RL fr lo 4) (X : lX G x b L xs) (hL : L ≤ 3584) (hj : j ≤ 6) (hi : i + 6 < L) (hz : (Int8.ofInt z).toInt32 = nI j) (d0 : decode cL_law pc = .ok (.aload_n 0, 1)) (d1 : decode cL_law (pc + 1) = .ok (.iload_n 3, 1)) (d2 : decode cL_law (pc + 1 + 1) = .ok (.bipush z, 2)) (d3 : decode cL_law (pc + 1 + 1 + 2) = .ok (.iadd, 1)) (d4 : decode cL_law (pc + 1 + 1 + 2 + 1) = .ok (.iaload, 1)) (k : V G x σ (lL G b i) (pc + 1 + 1 + 2 + 1 + 1) (.int (xs (i + j)) :: st)) : V G x σ (lL G b i) pc st := by
  refine V_aloadn pc 0 O d0 rfl rfl (V_iloadn (pc + 1) 3 O d1 rfl rfl (V_bipush (pc + 1 + 1) O d2 hz (V_iadd (pc + 1 + 1 + 2) O d3 ?_)))
  rw [nadd]
  refine V_sld (pc + 1 + 1 + 2 + 1) O X (ib_in (ib_n (by omega) (by omega))) d4 ?_
  rw [show (nI (i + j)).toNatClampNeg = i + j from ix_n (by omega)]
  exact k
theorem law_pipe {n c : Nat} (O : zO G x cL_law RL 13 492 4) (X : lX G x b L xs) (hL : L ≤ 3584) (hi : i + 6 < L) (hn : 300000 ≤ n) (hc : c < 600) (h : Inv c σ) (k : ∀ τ : Sg, Inv (c + 1) τ → V G x τ (lL G b i) 1221 []) : V G x σ (lL G b i) 164 [] := by
  refine V_aloadn 164 1 O dL_law_164 rfl rfl ?_
  refine V_arg 165 (j := 1) O X hL (by decide) hi (by decide) dL_law_165 dL_law_166 dL_law_167 dL_law_168 dL_law_169 ?_
  refine V_arg 170 (j := 2) O X hL (by decide) hi (by decide) dL_law_170 dL_law_171 dL_law_172 dL_law_173 dL_law_174 ?_
  refine V_arg 175 (j := 3) O X hL (by decide) hi (by decide) dL_law_175 dL_law_176 dL_law_177 dL_law_178 dL_law_179 ?_
  refine V_arg 180 (j := 4) O X hL (by decide) hi (by decide) dL_law_180 dL_law_181 dL_law_182 dL_law_183 dL_law_184 ?_
  obtain ⟨r, τ, ρ, e1, e2, hI⟩ := st_pipe (n := n) (x1 := xs (i + 1)) (x2 := xs (i + 2)) (x3 := xs (i + 3)) (x4 := xs (i + 4)) hc h
  refine V_callVi 185 [.int (xs (i + 1)), .int (xs (i + 2)), .int (xs (i + 3)), .int (xs (i + 4))] [] O mf_X11_pipe ll_13 k0 dL_law_185 rfl rfl (Nat.le_of_ble_eq_true rfl) ⟨Nat.le_of_ble_eq_true rfl, Nat.le_of_ble_eq_true rfl⟩ (fun l => C_X11_pipe e1) ?_
  refine V_aloadn 188 2 O dL_law_188 rfl rfl ?_
  refine V_arg 189 (j := 1) O X hL (by decide) hi (by decide) dL_law_189 dL_law_190 dL_law_191 dL_law_192 dL_law_193 ?_
  refine V_arg 194 (j := 2) O X hL (by decide) hi (by decide) dL_law_194 dL_law_195 dL_law_196 dL_law_197 dL_law_198 ?_
  refine V_arg 199 (j := 3) O X hL (by decide) hi (by decide) dL_law_199 dL_law_200 dL_law_201 dL_law_202 dL_law_203 ?_
  refine V_arg 204 (j := 4) O X hL (by decide) hi (by decide) dL_law_204 dL_law_205 dL_law_206 dL_law_207 dL_law_208 ?_
  refine V_callVi 209 [.int (xs (i + 1)), .int (xs (i + 2)), .int (xs (i + 3)), .int (xs (i + 4))] [.int r] O mf_X12_pipe ll_17 k71 dL_law_209 rfl rfl (Nat.le_of_ble_eq_true rfl) ⟨Nat.le_of_ble_eq_true rfl, Nat.le_of_ble_eq_true rfl⟩ (fun l => C_X12_pipe e2) ?_
  exact V_icmp_eqc 212 1221 O dL_law_212 rfl (fun _ => k ρ hI) (fun h0 => absurd rfl h0)
theorem law_shut {n c : Nat} (O : zO G x cL_law RL 13 492 4) (X : lX G x b L xs) (hL : L ≤ 3584) (hi : i + 6 < L) (hn : 300000 ≤ n) (hc : c < 600) (h : Inv c σ) (k : ∀ τ : Sg, Inv (c + 1) τ → V G x τ (lL G b i) 1221 []) : V G x σ (lL G b i) 217 [] := by
  by_cases hz : xs (i + 2) = 0
  · refine V_aloadn 217 1 O dL_law_217 rfl rfl ?_
    refine V_arg 218 (j := 1) O X hL (by decide) hi (by decide) dL_law_218 dL_law_219 dL_law_220 dL_law_221 dL_law_222 ?_
    refine V_arg 223 (j := 2) O X hL (by decide) hi (by decide) dL_law_223 dL_law_224 dL_law_225 dL_law_226 dL_law_227 ?_
    refine V_if_eqc 228 235 O dL_law_228 rfl (fun _ => ?_) (fun h0 => absurd hz h0)
    refine V_iconst 235 O dL_law_235 ci_0 ?_
    obtain ⟨r, τ, ρ, e1, e2, hI⟩ := st_shut (n := n) (x1 := xs (i + 1)) (b := false) hc h
    refine V_callVi 236 [.int (xs (i + 1)), .int (zo false)] [] O mf_X11_shut ll_18 k0 dL_law_236 rfl rfl (Nat.le_of_ble_eq_true rfl) ⟨Nat.le_of_ble_eq_true rfl, Nat.le_of_ble_eq_true rfl⟩ (fun l => C_X11_shut e1) ?_
    refine V_aloadn 239 2 O dL_law_239 rfl rfl ?_
    refine V_arg 240 (j := 1) O X hL (by decide) hi (by decide) dL_law_240 dL_law_241 dL_law_242 dL_law_243 dL_law_244 ?_
    refine V_arg 245 (j := 2) O X hL (by decide) hi (by decide) dL_law_245 dL_law_246 dL_law_247 dL_law_248 dL_law_249 ?_
    refine V_if_eqc 250 257 O dL_law_250 rfl (fun _ => ?_) (fun h0 => absurd hz h0)
    refine V_iconst 257 O dL_law_257 ci_0 ?_
    refine V_callVi 258 [.int (xs (i + 1)), .int (zo false)] [.int r] O mf_X12_shut ll_22 k71 dL_law_258 rfl rfl (Nat.le_of_ble_eq_true rfl) ⟨Nat.le_of_ble_eq_true rfl, Nat.le_of_ble_eq_true rfl⟩ (fun l => C_X12_shut e2) ?_
    exact V_icmp_eqc 261 1221 O dL_law_261 rfl (fun _ => k ρ hI) (fun h0 => absurd rfl h0)
  · refine V_aloadn 217 1 O dL_law_217 rfl rfl ?_
    refine V_arg 218 (j := 1) O X hL (by decide) hi (by decide) dL_law_218 dL_law_219 dL_law_220 dL_law_221 dL_law_222 ?_
    refine V_arg 223 (j := 2) O X hL (by decide) hi (by decide) dL_law_223 dL_law_224 dL_law_225 dL_law_226 dL_law_227 ?_
    refine V_if_eqc 228 235 O dL_law_228 rfl (fun h0 => absurd h0 hz) (fun _ => ?_)
    refine V_iconst 231 O dL_law_231 ci_1 ?_
    refine V_goto 232 236 O dL_law_232 rfl ?_
    obtain ⟨r, τ, ρ, e1, e2, hI⟩ := st_shut (n := n) (x1 := xs (i + 1)) (b := true) hc h
    refine V_callVi 236 [.int (xs (i + 1)), .int (zo true)] [] O mf_X11_shut ll_18 k0 dL_law_236 rfl rfl (Nat.le_of_ble_eq_true rfl) ⟨Nat.le_of_ble_eq_true rfl, Nat.le_of_ble_eq_true rfl⟩ (fun l => C_X11_shut e1) ?_
    refine V_aloadn 239 2 O dL_law_239 rfl rfl ?_
    refine V_arg 240 (j := 1) O X hL (by decide) hi (by decide) dL_law_240 dL_law_241 dL_law_242 dL_law_243 dL_law_244 ?_
    refine V_arg 245 (j := 2) O X hL (by decide) hi (by decide) dL_law_245 dL_law_246 dL_law_247 dL_law_248 dL_law_249 ?_
    refine V_if_eqc 250 257 O dL_law_250 rfl (fun h0 => absurd h0 hz) (fun _ => ?_)
    refine V_iconst 253 O dL_law_253 ci_1 ?_
    refine V_goto 254 258 O dL_law_254 rfl ?_
    refine V_callVi 258 [.int (xs (i + 1)), .int (zo true)] [.int r] O mf_X12_shut ll_22 k71 dL_law_258 rfl rfl (Nat.le_of_ble_eq_true rfl) ⟨Nat.le_of_ble_eq_true rfl, Nat.le_of_ble_eq_true rfl⟩ (fun l => C_X12_shut e2) ?_
    exact V_icmp_eqc 261 1221 O dL_law_261 rfl (fun _ => k ρ hI) (fun h0 => absurd rfl h0)
theorem law_leak {n c : Nat} (O : zO G x cL_law RL 13 492 4) (X : lX G x b L xs) (hL : L ≤ 3584) (hi : i + 6 < L) (hn : 300000 ≤ n) (hc : c < 600) (h : Inv c σ) (k : ∀ τ : Sg, Inv (c + 1) τ → V G x τ (lL G b i) 1221 []) : V G x σ (lL G b i) 266 [] := by
  refine V_aloadn 266 1 O dL_law_266 rfl rfl ?_
  refine V_arg 267 (j := 1) O X hL (by decide) hi (by decide) dL_law_267 dL_law_268 dL_law_269 dL_law_270 dL_law_271 ?_
  refine V_arg 272 (j := 2) O X hL (by decide) hi (by decide) dL_law_272 dL_law_273 dL_law_274 dL_law_275 dL_law_276 ?_
  obtain ⟨r, τ, ρ, e1, e2, hI⟩ := st_leak (n := n) (x1 := xs (i + 1)) (x2 := xs (i + 2)) hc h
  refine V_callVi 277 [.int (xs (i + 1)), .int (xs (i + 2))] [] O mf_X11_leak ll_23 k0 dL_law_277 rfl rfl (Nat.le_of_ble_eq_true rfl) ⟨Nat.le_of_ble_eq_true rfl, Nat.le_of_ble_eq_true rfl⟩ (fun l => C_X11_leak e1) ?_
  refine V_aloadn 280 2 O dL_law_280 rfl rfl ?_
  refine V_arg 281 (j := 1) O X hL (by decide) hi (by decide) dL_law_281 dL_law_282 dL_law_283 dL_law_284 dL_law_285 ?_
  refine V_arg 286 (j := 2) O X hL (by decide) hi (by decide) dL_law_286 dL_law_287 dL_law_288 dL_law_289 dL_law_290 ?_
  refine V_callVi 291 [.int (xs (i + 1)), .int (xs (i + 2))] [.int r] O mf_X12_leak ll_27 k71 dL_law_291 rfl rfl (Nat.le_of_ble_eq_true rfl) ⟨Nat.le_of_ble_eq_true rfl, Nat.le_of_ble_eq_true rfl⟩ (fun l => C_X12_leak e2) ?_
  exact V_icmp_eqc 294 1221 O dL_law_294 rfl (fun _ => k ρ hI) (fun h0 => absurd rfl h0)
theorem law_map {n c : Nat} (O : zO G x cL_law RL 13 492 4) (X : lX G x b L xs) (hL : L ≤ 3584) (hi : i + 6 < L) (hn : 300000 ≤ n) (hc : c < 600) (h : Inv c σ) (k : ∀ τ : Sg, Inv (c + 1) τ → V G x τ (lL G b i) 1221 []) : V G x σ (lL G b i) 299 [] := by
  refine V_aloadn 299 1 O dL_law_299 rfl rfl ?_
  refine V_arg 300 (j := 1) O X hL (by decide) hi (by decide) dL_law_300 dL_law_301 dL_law_302 dL_law_303 dL_law_304 ?_
  refine V_arg 305 (j := 2) O X hL (by decide) hi (by decide) dL_law_305 dL_law_306 dL_law_307 dL_law_308 dL_law_309 ?_
  refine V_arg 310 (j := 3) O X hL (by decide) hi (by decide) dL_law_310 dL_law_311 dL_law_312 dL_law_313 dL_law_314 ?_
  obtain ⟨r, τ, ρ, e1, e2, hI⟩ := st_map (n := n) (x1 := xs (i + 1)) (x2 := xs (i + 2)) (x3 := xs (i + 3)) h
  refine V_callVi 315 [.int (xs (i + 1)), .int (xs (i + 2)), .int (xs (i + 3))] [] O mf_X11_map ll_28 k0 dL_law_315 rfl rfl (Nat.le_of_ble_eq_true rfl) ⟨Nat.le_of_ble_eq_true rfl, Nat.le_of_ble_eq_true rfl⟩ (fun l => C_X11_map e1) ?_
  refine V_aloadn 318 2 O dL_law_318 rfl rfl ?_
  refine V_arg 319 (j := 1) O X hL (by decide) hi (by decide) dL_law_319 dL_law_320 dL_law_321 dL_law_322 dL_law_323 ?_
  refine V_arg 324 (j := 2) O X hL (by decide) hi (by decide) dL_law_324 dL_law_325 dL_law_326 dL_law_327 dL_law_328 ?_
  refine V_arg 329 (j := 3) O X hL (by decide) hi (by decide) dL_law_329 dL_law_330 dL_law_331 dL_law_332 dL_law_333 ?_
  refine V_callVi 334 [.int (xs (i + 1)), .int (xs (i + 2)), .int (xs (i + 3))] [.int r] O mf_X12_map ll_32 k71 dL_law_334 rfl rfl (Nat.le_of_ble_eq_true rfl) ⟨Nat.le_of_ble_eq_true rfl, Nat.le_of_ble_eq_true rfl⟩ (fun l => C_X12_map e2) ?_
  exact V_icmp_eqc 337 1221 O dL_law_337 rfl (fun _ => k ρ hI) (fun h0 => absurd rfl h0)
theorem law_pump {n c : Nat} (O : zO G x cL_law RL 13 492 4) (X : lX G x b L xs) (hL : L ≤ 3584) (hi : i + 6 < L) (hn : 300000 ≤ n) (hc : c < 600) (h : Inv c σ) (k : ∀ τ : Sg, Inv (c + 1) τ → V G x τ (lL G b i) 1221 []) : V G x σ (lL G b i) 342 [] := by
  refine V_aloadn 342 1 O dL_law_342 rfl rfl ?_
  refine V_arg 343 (j := 1) O X hL (by decide) hi (by decide) dL_law_343 dL_law_344 dL_law_345 dL_law_346 dL_law_347 ?_
  refine V_arg 348 (j := 2) O X hL (by decide) hi (by decide) dL_law_348 dL_law_349 dL_law_350 dL_law_351 dL_law_352 ?_
  refine V_arg 353 (j := 3) O X hL (by decide) hi (by decide) dL_law_353 dL_law_354 dL_law_355 dL_law_356 dL_law_357 ?_
  obtain ⟨r, τ, ρ, e1, e2, hI⟩ := st_pump (n := n) (x1 := xs (i + 1)) (x2 := xs (i + 2)) (x3 := xs (i + 3)) hn hc h
  refine V_callVi 358 [.int (xs (i + 1)), .int (xs (i + 2)), .int (xs (i + 3))] [] O mf_X11_pump ll_33 k0 dL_law_358 rfl rfl (Nat.le_of_ble_eq_true rfl) ⟨Nat.le_of_ble_eq_true rfl, Nat.le_of_ble_eq_true rfl⟩ (fun l => C_X11_pump e1) ?_
  refine V_aloadn 361 2 O dL_law_361 rfl rfl ?_
  refine V_arg 362 (j := 1) O X hL (by decide) hi (by decide) dL_law_362 dL_law_363 dL_law_364 dL_law_365 dL_law_366 ?_
  refine V_arg 367 (j := 2) O X hL (by decide) hi (by decide) dL_law_367 dL_law_368 dL_law_369 dL_law_370 dL_law_371 ?_
  refine V_arg 372 (j := 3) O X hL (by decide) hi (by decide) dL_law_372 dL_law_373 dL_law_374 dL_law_375 dL_law_376 ?_
  refine V_callVi 377 [.int (xs (i + 1)), .int (xs (i + 2)), .int (xs (i + 3))] [.int r] O mf_X12_pump ll_36 k71 dL_law_377 rfl rfl (Nat.le_of_ble_eq_true rfl) ⟨Nat.le_of_ble_eq_true rfl, Nat.le_of_ble_eq_true rfl⟩ (fun l => C_X12_pump e2) ?_
  exact V_icmp_eqc 380 1221 O dL_law_380 rfl (fun _ => k ρ hI) (fun h0 => absurd rfl h0)
theorem law_street {n c : Nat} (O : zO G x cL_law RL 13 492 4) (X : lX G x b L xs) (hL : L ≤ 3584) (hi : i + 6 < L) (hn : 300000 ≤ n) (hc : c < 600) (h : Inv c σ) (k : ∀ τ : Sg, Inv (c + 1) τ → V G x τ (lL G b i) 1221 []) : V G x σ (lL G b i) 385 [] := by
  refine V_aloadn 385 1 O dL_law_385 rfl rfl ?_
  refine V_arg 386 (j := 1) O X hL (by decide) hi (by decide) dL_law_386 dL_law_387 dL_law_388 dL_law_389 dL_law_390 ?_
  refine V_arg 391 (j := 2) O X hL (by decide) hi (by decide) dL_law_391 dL_law_392 dL_law_393 dL_law_394 dL_law_395 ?_
  refine V_arg 396 (j := 3) O X hL (by decide) hi (by decide) dL_law_396 dL_law_397 dL_law_398 dL_law_399 dL_law_400 ?_
  refine V_arg 401 (j := 4) O X hL (by decide) hi (by decide) dL_law_401 dL_law_402 dL_law_403 dL_law_404 dL_law_405 ?_
  refine V_arg 406 (j := 5) O X hL (by decide) hi (by decide) dL_law_406 dL_law_407 dL_law_408 dL_law_409 dL_law_410 ?_
  refine V_argb 411 (j := 6) O X hL (by decide) hi (by decide) dL_law_411 dL_law_412 dL_law_413 dL_law_415 dL_law_416 ?_
  obtain ⟨r, τ, ρ, e1, e2, hI⟩ := st_street (n := n) (x1 := xs (i + 1)) (x2 := xs (i + 2)) (x3 := xs (i + 3)) (x4 := xs (i + 4)) (x5 := xs (i + 5)) (x6 := xs (i + 6)) hc h
  refine V_callVi 417 [.int (xs (i + 1)), .int (xs (i + 2)), .int (xs (i + 3)), .int (xs (i + 4)), .int (xs (i + 5)), .int (xs (i + 6))] [] O mf_X11_street ll_37 k0 dL_law_417 rfl rfl (Nat.le_of_ble_eq_true rfl) ⟨Nat.le_of_ble_eq_true rfl, Nat.le_of_ble_eq_true rfl⟩ (fun l => C_X11_street e1) ?_
  refine V_aloadn 420 2 O dL_law_420 rfl rfl ?_
  refine V_arg 421 (j := 1) O X hL (by decide) hi (by decide) dL_law_421 dL_law_422 dL_law_423 dL_law_424 dL_law_425 ?_
  refine V_arg 426 (j := 2) O X hL (by decide) hi (by decide) dL_law_426 dL_law_427 dL_law_428 dL_law_429 dL_law_430 ?_
  refine V_arg 431 (j := 3) O X hL (by decide) hi (by decide) dL_law_431 dL_law_432 dL_law_433 dL_law_434 dL_law_435 ?_
  refine V_arg 436 (j := 4) O X hL (by decide) hi (by decide) dL_law_436 dL_law_437 dL_law_438 dL_law_439 dL_law_440 ?_
  refine V_arg 441 (j := 5) O X hL (by decide) hi (by decide) dL_law_441 dL_law_442 dL_law_443 dL_law_444 dL_law_445 ?_
  refine V_argb 446 (j := 6) O X hL (by decide) hi (by decide) dL_law_446 dL_law_447 dL_law_448 dL_law_450 dL_law_451 ?_
  refine V_callVi 452 [.int (xs (i + 1)), .int (xs (i + 2)), .int (xs (i + 3)), .int (xs (i + 4)), .int (xs (i + 5)), .int (xs (i + 6))] [.int r] O mf_X12_street ll_41 k71 dL_law_452 rfl rfl (Nat.le_of_ble_eq_true rfl) ⟨Nat.le_of_ble_eq_true rfl, Nat.le_of_ble_eq_true rfl⟩ (fun l => C_X12_street e2) ?_
  exact V_icmp_eqc 455 1221 O dL_law_455 rfl (fun _ => k ρ hI) (fun h0 => absurd rfl h0)
theorem law_over {n c : Nat} (O : zO G x cL_law RL 13 492 4) (X : lX G x b L xs) (hL : L ≤ 3584) (hi : i + 6 < L) (hn : 300000 ≤ n) (hc : c < 600) (h : Inv c σ) (k : ∀ τ : Sg, Inv (c + 1) τ → V G x τ (lL G b i) 1221 []) : V G x σ (lL G b i) 460 [] := by
  refine V_aloadn 460 1 O dL_law_460 rfl rfl ?_
  refine V_arg 461 (j := 1) O X hL (by decide) hi (by decide) dL_law_461 dL_law_462 dL_law_463 dL_law_464 dL_law_465 ?_
  obtain ⟨r, τ, ρ, e1, e2, hI⟩ := st_over (n := n) (x1 := xs (i + 1)) hc h
  refine V_callVi 466 [.int (xs (i + 1))] [] O mf_X11_over ll_42 k0 dL_law_466 rfl rfl (Nat.le_of_ble_eq_true rfl) ⟨Nat.le_of_ble_eq_true rfl, Nat.le_of_ble_eq_true rfl⟩ (fun l => C_X11_over e1) ?_
  refine V_aloadn 469 2 O dL_law_469 rfl rfl ?_
  refine V_arg 470 (j := 1) O X hL (by decide) hi (by decide) dL_law_470 dL_law_471 dL_law_472 dL_law_473 dL_law_474 ?_
  refine V_callVi 475 [.int (xs (i + 1))] [.int r] O mf_X12_over ll_46 k71 dL_law_475 rfl rfl (Nat.le_of_ble_eq_true rfl) ⟨Nat.le_of_ble_eq_true rfl, Nat.le_of_ble_eq_true rfl⟩ (fun l => C_X12_over e2) ?_
  exact V_icmp_eqc 478 1221 O dL_law_478 rfl (fun _ => k ρ hI) (fun h0 => absurd rfl h0)
theorem law_rooms {n c : Nat} (O : zO G x cL_law RL 13 492 4) (X : lX G x b L xs) (hL : L ≤ 3584) (hi : i + 6 < L) (hn : 300000 ≤ n) (hc : c < 600) (h : Inv c σ) (k : ∀ τ : Sg, Inv (c + 1) τ → V G x τ (lL G b i) 1221 []) : V G x σ (lL G b i) 483 [] := by
  refine V_aloadn 483 1 O dL_law_483 rfl rfl ?_
  refine V_arg 484 (j := 1) O X hL (by decide) hi (by decide) dL_law_484 dL_law_485 dL_law_486 dL_law_487 dL_law_488 ?_
  refine V_arg 489 (j := 2) O X hL (by decide) hi (by decide) dL_law_489 dL_law_490 dL_law_491 dL_law_492 dL_law_493 ?_
  obtain ⟨r, τ, ρ, e1, e2, hI⟩ := st_rooms (n := n) (x1 := xs (i + 1)) (x2 := xs (i + 2)) h
  refine V_callVi 494 [.int (xs (i + 1)), .int (xs (i + 2))] [] O mf_X11_rooms ll_47 k0 dL_law_494 rfl rfl (Nat.le_of_ble_eq_true rfl) ⟨Nat.le_of_ble_eq_true rfl, Nat.le_of_ble_eq_true rfl⟩ (fun l => C_X11_rooms e1) ?_
  refine V_aloadn 497 2 O dL_law_497 rfl rfl ?_
  refine V_arg 498 (j := 1) O X hL (by decide) hi (by decide) dL_law_498 dL_law_499 dL_law_500 dL_law_501 dL_law_502 ?_
  refine V_arg 503 (j := 2) O X hL (by decide) hi (by decide) dL_law_503 dL_law_504 dL_law_505 dL_law_506 dL_law_507 ?_
  refine V_callVi 508 [.int (xs (i + 1)), .int (xs (i + 2))] [.int r] O mf_X12_rooms ll_50 k71 dL_law_508 rfl rfl (Nat.le_of_ble_eq_true rfl) ⟨Nat.le_of_ble_eq_true rfl, Nat.le_of_ble_eq_true rfl⟩ (fun l => C_X12_rooms e2) ?_
  exact V_icmp_eqc 511 1221 O dL_law_511 rfl (fun _ => k ρ hI) (fun h0 => absurd rfl h0)
theorem law_count {n c : Nat} (O : zO G x cL_law RL 13 492 4) (X : lX G x b L xs) (hL : L ≤ 3584) (hi : i + 6 < L) (hn : 300000 ≤ n) (hc : c < 600) (h : Inv c σ) (k : ∀ τ : Sg, Inv (c + 1) τ → V G x τ (lL G b i) 1221 []) : V G x σ (lL G b i) 516 [] := by
  refine V_aloadn 516 1 O dL_law_516 rfl rfl ?_
  refine V_arg 517 (j := 1) O X hL (by decide) hi (by decide) dL_law_517 dL_law_518 dL_law_519 dL_law_520 dL_law_521 ?_
  obtain ⟨r, τ, ρ, e1, e2, hI⟩ := st_count (n := n) (x1 := xs (i + 1)) hn h
  refine V_callVi 522 [.int (xs (i + 1))] [] O mf_X11_count ll_51 k0 dL_law_522 rfl rfl (Nat.le_of_ble_eq_true rfl) ⟨Nat.le_of_ble_eq_true rfl, Nat.le_of_ble_eq_true rfl⟩ (fun l => C_X11_count e1) ?_
  refine V_aloadn 525 2 O dL_law_525 rfl rfl ?_
  refine V_arg 526 (j := 1) O X hL (by decide) hi (by decide) dL_law_526 dL_law_527 dL_law_528 dL_law_529 dL_law_530 ?_
  refine V_callVi 531 [.int (xs (i + 1))] [.int r] O mf_X12_count ll_54 k71 dL_law_531 rfl rfl (Nat.le_of_ble_eq_true rfl) ⟨Nat.le_of_ble_eq_true rfl, Nat.le_of_ble_eq_true rfl⟩ (fun l => C_X12_count e2) ?_
  exact V_icmp_eqc 534 1221 O dL_law_534 rfl (fun _ => k ρ hI) (fun h0 => absurd rfl h0)
theorem law_told {n c : Nat} (O : zO G x cL_law RL 13 492 4) (X : lX G x b L xs) (hL : L ≤ 3584) (hi : i + 6 < L) (hn : 300000 ≤ n) (hc : c < 600) (h : Inv c σ) (k : ∀ τ : Sg, Inv (c + 1) τ → V G x τ (lL G b i) 1221 []) : V G x σ (lL G b i) 539 [] := by
  refine V_aloadn 539 1 O dL_law_539 rfl rfl ?_
  refine V_arg 540 (j := 1) O X hL (by decide) hi (by decide) dL_law_540 dL_law_541 dL_law_542 dL_law_543 dL_law_544 ?_
  refine V_arg 545 (j := 2) O X hL (by decide) hi (by decide) dL_law_545 dL_law_546 dL_law_547 dL_law_548 dL_law_549 ?_
  obtain ⟨r, τ, ρ, e1, e2, hI⟩ := st_told (n := n) (x1 := xs (i + 1)) (x2 := xs (i + 2)) hn h
  refine V_callVi 550 [.int (xs (i + 1)), .int (xs (i + 2))] [] O mf_X11_told ll_55 k0 dL_law_550 rfl rfl (Nat.le_of_ble_eq_true rfl) ⟨Nat.le_of_ble_eq_true rfl, Nat.le_of_ble_eq_true rfl⟩ (fun l => C_X11_told e1) ?_
  refine V_aloadn 553 2 O dL_law_553 rfl rfl ?_
  refine V_arg 554 (j := 1) O X hL (by decide) hi (by decide) dL_law_554 dL_law_555 dL_law_556 dL_law_557 dL_law_558 ?_
  refine V_arg 559 (j := 2) O X hL (by decide) hi (by decide) dL_law_559 dL_law_560 dL_law_561 dL_law_562 dL_law_563 ?_
  refine V_callVi 564 [.int (xs (i + 1)), .int (xs (i + 2))] [.int r] O mf_X12_told ll_58 k71 dL_law_564 rfl rfl (Nat.le_of_ble_eq_true rfl) ⟨Nat.le_of_ble_eq_true rfl, Nat.le_of_ble_eq_true rfl⟩ (fun l => C_X12_told e2) ?_
  exact V_icmp_eqc 567 1221 O dL_law_567 rfl (fun _ => k ρ hI) (fun h0 => absurd rfl h0)
theorem law_feed {n c : Nat} (O : zO G x cL_law RL 13 492 4) (X : lX G x b L xs) (hL : L ≤ 3584) (hi : i + 6 < L) (hn : 300000 ≤ n) (hc : c < 600) (h : Inv c σ) (k : ∀ τ : Sg, Inv (c + 1) τ → V G x τ (lL G b i) 1221 []) : V G x σ (lL G b i) 572 [] := by
  refine V_aloadn 572 1 O dL_law_572 rfl rfl ?_
  refine V_arg 573 (j := 1) O X hL (by decide) hi (by decide) dL_law_573 dL_law_574 dL_law_575 dL_law_576 dL_law_577 ?_
  refine V_arg 578 (j := 2) O X hL (by decide) hi (by decide) dL_law_578 dL_law_579 dL_law_580 dL_law_581 dL_law_582 ?_
  refine V_i2l 583 O dL_law_583 ?_
  refine V_bipush 584 O dL_law_584 cb_32 ?_
  refine V_lshl 586 O dL_law_586 ?_
  refine V_arg 587 (j := 3) O X hL (by decide) hi (by decide) dL_law_587 dL_law_588 dL_law_589 dL_law_590 dL_law_591 ?_
  refine V_i2l 592 O dL_law_592 ?_
  refine V_ldc2 593 (v := 4294967295) O dL_law_593 (zin 1729 (by decide +kernel) (by decide +kernel)) ?_
  refine V_land 596 O dL_law_596 ?_
  refine V_lor 597 O dL_law_597 ?_
  obtain ⟨r, τ, ρ, e1, e2, hI⟩ := st_feed (n := n) (x1 := xs (i + 1)) (x2 := ((lsl (xs (i + 2)).toInt64 (32 : Int32)) ||| ((xs (i + 3)).toInt64 &&& (4294967295 : Int64)))) hn h
  refine V_callVi 598 [.int (xs (i + 1)), .long ((lsl (xs (i + 2)).toInt64 (32 : Int32)) ||| ((xs (i + 3)).toInt64 &&& (4294967295 : Int64)))] [] O mf_X11_feed ll_61 k0 dL_law_598 rfl rfl (Nat.le_of_ble_eq_true rfl) ⟨Nat.le_of_ble_eq_true rfl, Nat.le_of_ble_eq_true rfl⟩ (fun l => C_X11_feed e1) ?_
  refine V_aloadn 601 2 O dL_law_601 rfl rfl ?_
  refine V_arg 602 (j := 1) O X hL (by decide) hi (by decide) dL_law_602 dL_law_603 dL_law_604 dL_law_605 dL_law_606 ?_
  refine V_arg 607 (j := 2) O X hL (by decide) hi (by decide) dL_law_607 dL_law_608 dL_law_609 dL_law_610 dL_law_611 ?_
  refine V_i2l 612 O dL_law_612 ?_
  refine V_bipush 613 O dL_law_613 cb_32 ?_
  refine V_lshl 615 O dL_law_615 ?_
  refine V_arg 616 (j := 3) O X hL (by decide) hi (by decide) dL_law_616 dL_law_617 dL_law_618 dL_law_619 dL_law_620 ?_
  refine V_i2l 621 O dL_law_621 ?_
  refine V_ldc2 622 (v := 4294967295) O dL_law_622 (zin 1729 (by decide +kernel) (by decide +kernel)) ?_
  refine V_land 625 O dL_law_625 ?_
  refine V_lor 626 O dL_law_626 ?_
  refine V_callVi 627 [.int (xs (i + 1)), .long ((lsl (xs (i + 2)).toInt64 (32 : Int32)) ||| ((xs (i + 3)).toInt64 &&& (4294967295 : Int64)))] [.int r] O mf_X12_feed ll_65 k71 dL_law_627 rfl rfl (Nat.le_of_ble_eq_true rfl) ⟨Nat.le_of_ble_eq_true rfl, Nat.le_of_ble_eq_true rfl⟩ (fun l => C_X12_feed e2) ?_
  exact V_icmp_eqc 630 1221 O dL_law_630 rfl (fun _ => k ρ hI) (fun h0 => absurd rfl h0)
theorem law_rule {n c : Nat} (O : zO G x cL_law RL 13 492 4) (X : lX G x b L xs) (hL : L ≤ 3584) (hi : i + 6 < L) (hn : 300000 ≤ n) (hc : c < 600) (h : Inv c σ) (k : ∀ τ : Sg, Inv (c + 1) τ → V G x τ (lL G b i) 1221 []) : V G x σ (lL G b i) 635 [] := by
  refine V_aloadn 635 1 O dL_law_635 rfl rfl ?_
  refine V_arg 636 (j := 1) O X hL (by decide) hi (by decide) dL_law_636 dL_law_637 dL_law_638 dL_law_639 dL_law_640 ?_
  obtain ⟨r, τ, ρ, e1, e2, hI⟩ := st_rule (n := n) (x1 := xs (i + 1)) hn hc h
  refine V_callVi 641 [.int (xs (i + 1))] [] O mf_X11_rule ll_66 k0 dL_law_641 rfl rfl (Nat.le_of_ble_eq_true rfl) ⟨Nat.le_of_ble_eq_true rfl, Nat.le_of_ble_eq_true rfl⟩ (fun l => C_X11_rule e1) ?_
  refine V_aloadn 644 2 O dL_law_644 rfl rfl ?_
  refine V_arg 645 (j := 1) O X hL (by decide) hi (by decide) dL_law_645 dL_law_646 dL_law_647 dL_law_648 dL_law_649 ?_
  refine V_callVi 650 [.int (xs (i + 1))] [.int r] O mf_X12_rule ll_69 k71 dL_law_650 rfl rfl (Nat.le_of_ble_eq_true rfl) ⟨Nat.le_of_ble_eq_true rfl, Nat.le_of_ble_eq_true rfl⟩ (fun l => C_X12_rule e2) ?_
  exact V_icmp_eqc 653 1221 O dL_law_653 rfl (fun _ => k ρ hI) (fun h0 => absurd rfl h0)
theorem law_fault {n c : Nat} (O : zO G x cL_law RL 13 492 4) (X : lX G x b L xs) (hL : L ≤ 3584) (hi : i + 6 < L) (hn : 300000 ≤ n) (hc : c < 600) (h : Inv c σ) (k : ∀ τ : Sg, Inv (c + 1) τ → V G x τ (lL G b i) 1221 []) : V G x σ (lL G b i) 658 [] := by
  refine V_aloadn 658 1 O dL_law_658 rfl rfl ?_
  obtain ⟨r, τ, ρ, e1, e2, hI⟩ := st_fault (n := n) h
  refine V_callVi 659 [] [] O mf_X11_fault ll_70 k0 dL_law_659 rfl rfl (Nat.le_of_ble_eq_true rfl) ⟨Nat.le_of_ble_eq_true rfl, Nat.le_of_ble_eq_true rfl⟩ (fun l => C_X11_fault e1) ?_
  refine V_aloadn 662 2 O dL_law_662 rfl rfl ?_
  refine V_callVi 663 [] [.int r] O mf_X12_fault ll_74 k71 dL_law_663 rfl rfl (Nat.le_of_ble_eq_true rfl) ⟨Nat.le_of_ble_eq_true rfl, Nat.le_of_ble_eq_true rfl⟩ (fun l => C_X12_fault e2) ?_
  exact V_icmp_eqc 666 1221 O dL_law_666 rfl (fun _ => k ρ hI) (fun h0 => absurd rfl h0)
theorem law_force {n c : Nat} (O : zO G x cL_law RL 13 492 4) (X : lX G x b L xs) (hL : L ≤ 3584) (hi : i + 6 < L) (hn : 300000 ≤ n) (hc : c < 600) (h : Inv c σ) (k : ∀ τ : Sg, Inv (c + 1) τ → V G x τ (lL G b i) 1221 []) : V G x σ (lL G b i) 671 [] := by
  refine V_aloadn 671 1 O dL_law_671 rfl rfl ?_
  refine V_arg 672 (j := 1) O X hL (by decide) hi (by decide) dL_law_672 dL_law_673 dL_law_674 dL_law_675 dL_law_676 ?_
  refine V_arg 677 (j := 2) O X hL (by decide) hi (by decide) dL_law_677 dL_law_678 dL_law_679 dL_law_680 dL_law_681 ?_
  obtain ⟨r, τ, ρ, e1, e2, hI⟩ := st_force (n := n) (x1 := xs (i + 1)) (x2 := xs (i + 2)) hn h
  refine V_callVi 682 [.int (xs (i + 1)), .int (xs (i + 2))] [] O mf_X11_force ll_75 k0 dL_law_682 rfl rfl (Nat.le_of_ble_eq_true rfl) ⟨Nat.le_of_ble_eq_true rfl, Nat.le_of_ble_eq_true rfl⟩ (fun l => C_X11_force e1) ?_
  refine V_aloadn 685 2 O dL_law_685 rfl rfl ?_
  refine V_arg 686 (j := 1) O X hL (by decide) hi (by decide) dL_law_686 dL_law_687 dL_law_688 dL_law_689 dL_law_690 ?_
  refine V_arg 691 (j := 2) O X hL (by decide) hi (by decide) dL_law_691 dL_law_692 dL_law_693 dL_law_694 dL_law_695 ?_
  refine V_callVi 696 [.int (xs (i + 1)), .int (xs (i + 2))] [.int r] O mf_X12_force ll_78 k71 dL_law_696 rfl rfl (Nat.le_of_ble_eq_true rfl) ⟨Nat.le_of_ble_eq_true rfl, Nat.le_of_ble_eq_true rfl⟩ (fun l => C_X12_force e2) ?_
  exact V_icmp_eqc 699 1221 O dL_law_699 rfl (fun _ => k ρ hI) (fun h0 => absurd rfl h0)
theorem law_go {n c : Nat} (O : zO G x cL_law RL 13 492 4) (X : lX G x b L xs) (hL : L ≤ 3584) (hi : i + 6 < L) (hn : 300000 ≤ n) (hc : c < 600) (h : Inv c σ) (k : ∀ τ : Sg, Inv (c + 1) τ → V G x τ (lL G b i) 1221 []) : V G x σ (lL G b i) 704 [] := by
  refine V_aloadn 704 1 O dL_law_704 rfl rfl ?_
  refine V_arg 705 (j := 1) O X hL (by decide) hi (by decide) dL_law_705 dL_law_706 dL_law_707 dL_law_708 dL_law_709 ?_
  obtain ⟨r, τ, ρ, e1, e2, hI⟩ := st_go (n := n) (x1 := xs (i + 1)) hn hc h
  refine V_callVi 710 [.int (xs (i + 1))] [] O mf_X11_go ll_79 k0 dL_law_710 rfl rfl (Nat.le_of_ble_eq_true rfl) ⟨Nat.le_of_ble_eq_true rfl, Nat.le_of_ble_eq_true rfl⟩ (fun l => C_X11_go e1) ?_
  refine V_aloadn 713 2 O dL_law_713 rfl rfl ?_
  refine V_arg 714 (j := 1) O X hL (by decide) hi (by decide) dL_law_714 dL_law_715 dL_law_716 dL_law_717 dL_law_718 ?_
  refine V_callVi 719 [.int (xs (i + 1))] [.int r] O mf_X12_go ll_82 k71 dL_law_719 rfl rfl (Nat.le_of_ble_eq_true rfl) ⟨Nat.le_of_ble_eq_true rfl, Nat.le_of_ble_eq_true rfl⟩ (fun l => C_X12_go e2) ?_
  exact V_icmp_eqc 722 1221 O dL_law_722 rfl (fun _ => k ρ hI) (fun h0 => absurd rfl h0)
theorem law_flow {n c : Nat} (O : zO G x cL_law RL 13 492 4) (X : lX G x b L xs) (hL : L ≤ 3584) (hi : i + 6 < L) (hn : 300000 ≤ n) (hc : c < 600) (h : Inv c σ) (k : ∀ τ : Sg, Inv (c + 1) τ → V G x τ (lL G b i) 1221 []) : V G x σ (lL G b i) 727 [] := by
  refine V_aloadn 727 1 O dL_law_727 rfl rfl ?_
  refine V_arg 728 (j := 1) O X hL (by decide) hi (by decide) dL_law_728 dL_law_729 dL_law_730 dL_law_731 dL_law_732 ?_
  refine V_arg 733 (j := 2) O X hL (by decide) hi (by decide) dL_law_733 dL_law_734 dL_law_735 dL_law_736 dL_law_737 ?_
  refine V_arg 738 (j := 3) O X hL (by decide) hi (by decide) dL_law_738 dL_law_739 dL_law_740 dL_law_741 dL_law_742 ?_
  obtain ⟨r, τ, ρ, e1, e2, hI⟩ := st_flow (n := n) (x1 := xs (i + 1)) (x2 := xs (i + 2)) (x3 := xs (i + 3)) hn h
  refine V_callVi 743 [.int (xs (i + 1)), .int (xs (i + 2)), .int (xs (i + 3))] [] O mf_X11_flow ll_83 k0 dL_law_743 rfl rfl (Nat.le_of_ble_eq_true rfl) ⟨Nat.le_of_ble_eq_true rfl, Nat.le_of_ble_eq_true rfl⟩ (fun l => C_X11_flow e1) ?_
  refine V_aloadn 746 2 O dL_law_746 rfl rfl ?_
  refine V_arg 747 (j := 1) O X hL (by decide) hi (by decide) dL_law_747 dL_law_748 dL_law_749 dL_law_750 dL_law_751 ?_
  refine V_arg 752 (j := 2) O X hL (by decide) hi (by decide) dL_law_752 dL_law_753 dL_law_754 dL_law_755 dL_law_756 ?_
  refine V_arg 757 (j := 3) O X hL (by decide) hi (by decide) dL_law_757 dL_law_758 dL_law_759 dL_law_760 dL_law_761 ?_
  refine V_callVi 762 [.int (xs (i + 1)), .int (xs (i + 2)), .int (xs (i + 3))] [.int r] O mf_X12_flow ll_86 k71 dL_law_762 rfl rfl (Nat.le_of_ble_eq_true rfl) ⟨Nat.le_of_ble_eq_true rfl, Nat.le_of_ble_eq_true rfl⟩ (fun l => C_X12_flow e2) ?_
  exact V_icmp_eqc 765 1221 O dL_law_765 rfl (fun _ => k ρ hI) (fun h0 => absurd rfl h0)
theorem law_line {n c : Nat} (O : zO G x cL_law RL 13 492 4) (X : lX G x b L xs) (hL : L ≤ 3584) (hi : i + 6 < L) (hn : 300000 ≤ n) (hc : c < 600) (h : Inv c σ) (k : ∀ τ : Sg, Inv (c + 1) τ → V G x τ (lL G b i) 1221 []) : V G x σ (lL G b i) 770 [] := by
  refine V_aloadn 770 1 O dL_law_770 rfl rfl ?_
  refine V_arg 771 (j := 1) O X hL (by decide) hi (by decide) dL_law_771 dL_law_772 dL_law_773 dL_law_774 dL_law_775 ?_
  refine V_arg 776 (j := 2) O X hL (by decide) hi (by decide) dL_law_776 dL_law_777 dL_law_778 dL_law_779 dL_law_780 ?_
  obtain ⟨r, τ, ρ, e1, e2, hI⟩ := st_line (n := n) (x1 := xs (i + 1)) (x2 := xs (i + 2)) hn h
  refine V_callVi 781 [.int (xs (i + 1)), .int (xs (i + 2))] [] O mf_X11_line ll_87 k0 dL_law_781 rfl rfl (Nat.le_of_ble_eq_true rfl) ⟨Nat.le_of_ble_eq_true rfl, Nat.le_of_ble_eq_true rfl⟩ (fun l => C_X11_line e1) ?_
  refine V_aloadn 784 2 O dL_law_784 rfl rfl ?_
  refine V_arg 785 (j := 1) O X hL (by decide) hi (by decide) dL_law_785 dL_law_786 dL_law_787 dL_law_788 dL_law_789 ?_
  refine V_arg 790 (j := 2) O X hL (by decide) hi (by decide) dL_law_790 dL_law_791 dL_law_792 dL_law_793 dL_law_794 ?_
  refine V_callVi 795 [.int (xs (i + 1)), .int (xs (i + 2))] [.int r] O mf_X12_line ll_90 k71 dL_law_795 rfl rfl (Nat.le_of_ble_eq_true rfl) ⟨Nat.le_of_ble_eq_true rfl, Nat.le_of_ble_eq_true rfl⟩ (fun l => C_X12_line e2) ?_
  exact V_icmp_eqc 798 1221 O dL_law_798 rfl (fun _ => k ρ hI) (fun h0 => absurd rfl h0)
theorem law_draw {n c : Nat} (O : zO G x cL_law RL 13 492 4) (X : lX G x b L xs) (hL : L ≤ 3584) (hi : i + 6 < L) (hn : 300000 ≤ n) (hc : c < 600) (h : Inv c σ) (k : ∀ τ : Sg, Inv (c + 1) τ → V G x τ (lL G b i) 1221 []) : V G x σ (lL G b i) 803 [] := by
  refine V_aloadn 803 1 O dL_law_803 rfl rfl ?_
  refine V_arg 804 (j := 1) O X hL (by decide) hi (by decide) dL_law_804 dL_law_805 dL_law_806 dL_law_807 dL_law_808 ?_
  refine V_arg 809 (j := 2) O X hL (by decide) hi (by decide) dL_law_809 dL_law_810 dL_law_811 dL_law_812 dL_law_813 ?_
  refine V_arg 814 (j := 3) O X hL (by decide) hi (by decide) dL_law_814 dL_law_815 dL_law_816 dL_law_817 dL_law_818 ?_
  obtain ⟨r, τ, ρ, e1, e2, hI⟩ := st_draw (n := n) (x1 := xs (i + 1)) (x2 := xs (i + 2)) (x3 := xs (i + 3)) hn h
  refine V_callVi 819 [.int (xs (i + 1)), .int (xs (i + 2)), .int (xs (i + 3))] [] O mf_X11_draw ll_91 k0 dL_law_819 rfl rfl (Nat.le_of_ble_eq_true rfl) ⟨Nat.le_of_ble_eq_true rfl, Nat.le_of_ble_eq_true rfl⟩ (fun l => C_X11_draw e1) ?_
  refine V_aloadn 822 2 O dL_law_822 rfl rfl ?_
  refine V_arg 823 (j := 1) O X hL (by decide) hi (by decide) dL_law_823 dL_law_824 dL_law_825 dL_law_826 dL_law_827 ?_
  refine V_arg 828 (j := 2) O X hL (by decide) hi (by decide) dL_law_828 dL_law_829 dL_law_830 dL_law_831 dL_law_832 ?_
  refine V_arg 833 (j := 3) O X hL (by decide) hi (by decide) dL_law_833 dL_law_834 dL_law_835 dL_law_836 dL_law_837 ?_
  refine V_callVi 838 [.int (xs (i + 1)), .int (xs (i + 2)), .int (xs (i + 3))] [.int r] O mf_X12_draw ll_94 k71 dL_law_838 rfl rfl (Nat.le_of_ble_eq_true rfl) ⟨Nat.le_of_ble_eq_true rfl, Nat.le_of_ble_eq_true rfl⟩ (fun l => C_X12_draw e2) ?_
  exact V_icmp_eqc 841 1221 O dL_law_841 rfl (fun _ => k ρ hI) (fun h0 => absurd rfl h0)
theorem law_order {n c : Nat} (O : zO G x cL_law RL 13 492 4) (X : lX G x b L xs) (hL : L ≤ 3584) (hi : i + 6 < L) (hn : 300000 ≤ n) (hc : c < 600) (h : Inv c σ) (k : ∀ τ : Sg, Inv (c + 1) τ → V G x τ (lL G b i) 1221 []) : V G x σ (lL G b i) 846 [] := by
  refine V_aloadn 846 1 O dL_law_846 rfl rfl ?_
  refine V_arg 847 (j := 1) O X hL (by decide) hi (by decide) dL_law_847 dL_law_848 dL_law_849 dL_law_850 dL_law_851 ?_
  refine V_arg 852 (j := 2) O X hL (by decide) hi (by decide) dL_law_852 dL_law_853 dL_law_854 dL_law_855 dL_law_856 ?_
  obtain ⟨r, τ, ρ, e1, e2, hI⟩ := st_order (n := n) (x1 := xs (i + 1)) (x2 := xs (i + 2)) hn hc h
  refine V_callVi 857 [.int (xs (i + 1)), .int (xs (i + 2))] [] O mf_X11_order ll_95 k0 dL_law_857 rfl rfl (Nat.le_of_ble_eq_true rfl) ⟨Nat.le_of_ble_eq_true rfl, Nat.le_of_ble_eq_true rfl⟩ (fun l => C_X11_order e1) ?_
  refine V_aloadn 860 2 O dL_law_860 rfl rfl ?_
  refine V_arg 861 (j := 1) O X hL (by decide) hi (by decide) dL_law_861 dL_law_862 dL_law_863 dL_law_864 dL_law_865 ?_
  refine V_arg 866 (j := 2) O X hL (by decide) hi (by decide) dL_law_866 dL_law_867 dL_law_868 dL_law_869 dL_law_870 ?_
  refine V_callVi 871 [.int (xs (i + 1)), .int (xs (i + 2))] [.int r] O mf_X12_order ll_98 k71 dL_law_871 rfl rfl (Nat.le_of_ble_eq_true rfl) ⟨Nat.le_of_ble_eq_true rfl, Nat.le_of_ble_eq_true rfl⟩ (fun l => C_X12_order e2) ?_
  exact V_icmp_eqc 874 1221 O dL_law_874 rfl (fun _ => k ρ hI) (fun h0 => absurd rfl h0)
theorem law_cuts {n c : Nat} (O : zO G x cL_law RL 13 492 4) (X : lX G x b L xs) (hL : L ≤ 3584) (hi : i + 6 < L) (hn : 300000 ≤ n) (hc : c < 600) (h : Inv c σ) (k : ∀ τ : Sg, Inv (c + 1) τ → V G x τ (lL G b i) 1221 []) : V G x σ (lL G b i) 879 [] := by
  refine V_aloadn 879 1 O dL_law_879 rfl rfl ?_
  refine V_arg 880 (j := 1) O X hL (by decide) hi (by decide) dL_law_880 dL_law_881 dL_law_882 dL_law_883 dL_law_884 ?_
  refine V_arg 885 (j := 2) O X hL (by decide) hi (by decide) dL_law_885 dL_law_886 dL_law_887 dL_law_888 dL_law_889 ?_
  obtain ⟨r, τ, ρ, e1, e2, hI⟩ := st_cuts (n := n) (x1 := xs (i + 1)) (x2 := xs (i + 2)) hn h
  refine V_callVi 890 [.int (xs (i + 1)), .int (xs (i + 2))] [] O mf_X11_cuts ll_99 k0 dL_law_890 rfl rfl (Nat.le_of_ble_eq_true rfl) ⟨Nat.le_of_ble_eq_true rfl, Nat.le_of_ble_eq_true rfl⟩ (fun l => C_X11_cuts e1) ?_
  refine V_aloadn 893 2 O dL_law_893 rfl rfl ?_
  refine V_arg 894 (j := 1) O X hL (by decide) hi (by decide) dL_law_894 dL_law_895 dL_law_896 dL_law_897 dL_law_898 ?_
  refine V_arg 899 (j := 2) O X hL (by decide) hi (by decide) dL_law_899 dL_law_900 dL_law_901 dL_law_902 dL_law_903 ?_
  refine V_callVi 904 [.int (xs (i + 1)), .int (xs (i + 2))] [.int r] O mf_X12_cuts ll_102 k71 dL_law_904 rfl rfl (Nat.le_of_ble_eq_true rfl) ⟨Nat.le_of_ble_eq_true rfl, Nat.le_of_ble_eq_true rfl⟩ (fun l => C_X12_cuts e2) ?_
  exact V_icmp_eqc 907 1221 O dL_law_907 rfl (fun _ => k ρ hI) (fun h0 => absurd rfl h0)
theorem law_wrong {n c : Nat} (O : zO G x cL_law RL 13 492 4) (X : lX G x b L xs) (hL : L ≤ 3584) (hi : i + 6 < L) (hn : 300000 ≤ n) (hc : c < 600) (h : Inv c σ) (k : ∀ τ : Sg, Inv (c + 1) τ → V G x τ (lL G b i) 1221 []) : V G x σ (lL G b i) 912 [] := by
  refine V_aloadn 912 1 O dL_law_912 rfl rfl ?_
  obtain ⟨r, τ, ρ, e1, e2, hI⟩ := st_wrong (n := n) hn h
  refine V_callVi 913 [] [] O mf_X11_wrong ll_103 k0 dL_law_913 rfl rfl (Nat.le_of_ble_eq_true rfl) ⟨Nat.le_of_ble_eq_true rfl, Nat.le_of_ble_eq_true rfl⟩ (fun l => C_X11_wrong e1) ?_
  refine V_aloadn 916 2 O dL_law_916 rfl rfl ?_
  refine V_callVi 917 [] [.int r] O mf_X12_wrong ll_106 k71 dL_law_917 rfl rfl (Nat.le_of_ble_eq_true rfl) ⟨Nat.le_of_ble_eq_true rfl, Nat.le_of_ble_eq_true rfl⟩ (fun l => C_X12_wrong e2) ?_
  exact V_icmp_eqc 920 1221 O dL_law_920 rfl (fun _ => k ρ hI) (fun h0 => absurd rfl h0)
theorem law_gauge {n c : Nat} (O : zO G x cL_law RL 13 492 4) (X : lX G x b L xs) (hL : L ≤ 3584) (hi : i + 6 < L) (hn : 300000 ≤ n) (hc : c < 600) (h : Inv c σ) (k : ∀ τ : Sg, Inv (c + 1) τ → V G x τ (lL G b i) 1221 []) : V G x σ (lL G b i) 925 [] := by
  refine V_aloadn 925 1 O dL_law_925 rfl rfl ?_
  refine V_arg 926 (j := 1) O X hL (by decide) hi (by decide) dL_law_926 dL_law_927 dL_law_928 dL_law_929 dL_law_930 ?_
  refine V_arg 931 (j := 2) O X hL (by decide) hi (by decide) dL_law_931 dL_law_932 dL_law_933 dL_law_934 dL_law_935 ?_
  obtain ⟨r, τ, ρ, e1, e2, hI⟩ := st_gauge (n := n) (x1 := xs (i + 1)) (x2 := xs (i + 2)) h
  refine V_callVi 936 [.int (xs (i + 1)), .int (xs (i + 2))] [] O mf_X11_gauge ll_107 k0 dL_law_936 rfl rfl (Nat.le_of_ble_eq_true rfl) ⟨Nat.le_of_ble_eq_true rfl, Nat.le_of_ble_eq_true rfl⟩ (fun l => C_X11_gauge e1) ?_
  refine V_aloadn 939 2 O dL_law_939 rfl rfl ?_
  refine V_arg 940 (j := 1) O X hL (by decide) hi (by decide) dL_law_940 dL_law_941 dL_law_942 dL_law_943 dL_law_944 ?_
  refine V_arg 945 (j := 2) O X hL (by decide) hi (by decide) dL_law_945 dL_law_946 dL_law_947 dL_law_948 dL_law_949 ?_
  refine V_callVi 950 [.int (xs (i + 1)), .int (xs (i + 2))] [.int r] O mf_X12_gauge ll_110 k71 dL_law_950 rfl rfl (Nat.le_of_ble_eq_true rfl) ⟨Nat.le_of_ble_eq_true rfl, Nat.le_of_ble_eq_true rfl⟩ (fun l => C_X12_gauge e2) ?_
  exact V_icmp_eqc 953 1221 O dL_law_953 rfl (fun _ => k ρ hI) (fun h0 => absurd rfl h0)
theorem law_guess {n c : Nat} (O : zO G x cL_law RL 13 492 4) (X : lX G x b L xs) (hL : L ≤ 3584) (hi : i + 6 < L) (hn : 300000 ≤ n) (hc : c < 600) (h : Inv c σ) (k : ∀ τ : Sg, Inv (c + 1) τ → V G x τ (lL G b i) 1221 []) : V G x σ (lL G b i) 958 [] := by
  refine V_aloadn 958 1 O dL_law_958 rfl rfl ?_
  refine V_arg 959 (j := 1) O X hL (by decide) hi (by decide) dL_law_959 dL_law_960 dL_law_961 dL_law_962 dL_law_963 ?_
  refine V_arg 964 (j := 2) O X hL (by decide) hi (by decide) dL_law_964 dL_law_965 dL_law_966 dL_law_967 dL_law_968 ?_
  obtain ⟨r, τ, ρ, e1, e2, hI⟩ := st_guess (n := n) (x1 := xs (i + 1)) (x2 := xs (i + 2)) hn h
  refine V_callVi 969 [.int (xs (i + 1)), .int (xs (i + 2))] [] O mf_X11_guess ll_111 k0 dL_law_969 rfl rfl (Nat.le_of_ble_eq_true rfl) ⟨Nat.le_of_ble_eq_true rfl, Nat.le_of_ble_eq_true rfl⟩ (fun l => C_X11_guess e1) ?_
  refine V_aloadn 972 2 O dL_law_972 rfl rfl ?_
  refine V_arg 973 (j := 1) O X hL (by decide) hi (by decide) dL_law_973 dL_law_974 dL_law_975 dL_law_976 dL_law_977 ?_
  refine V_arg 978 (j := 2) O X hL (by decide) hi (by decide) dL_law_978 dL_law_979 dL_law_980 dL_law_981 dL_law_982 ?_
  refine V_callVi 983 [.int (xs (i + 1)), .int (xs (i + 2))] [.int r] O mf_X12_guess ll_114 k71 dL_law_983 rfl rfl (Nat.le_of_ble_eq_true rfl) ⟨Nat.le_of_ble_eq_true rfl, Nat.le_of_ble_eq_true rfl⟩ (fun l => C_X12_guess e2) ?_
  exact V_icmp_eqc 986 1221 O dL_law_986 rfl (fun _ => k ρ hI) (fun h0 => absurd rfl h0)
theorem law_explain {n c : Nat} (O : zO G x cL_law RL 13 492 4) (X : lX G x b L xs) (hL : L ≤ 3584) (hi : i + 6 < L) (hn : 300000 ≤ n) (hc : c < 600) (h : Inv c σ) (k : ∀ τ : Sg, Inv (c + 1) τ → V G x τ (lL G b i) 1221 []) : V G x σ (lL G b i) 991 [] := by
  refine V_aloadn 991 1 O dL_law_991 rfl rfl ?_
  refine V_arg 992 (j := 1) O X hL (by decide) hi (by decide) dL_law_992 dL_law_993 dL_law_994 dL_law_995 dL_law_996 ?_
  obtain ⟨r, τ, ρ, e1, e2, hI⟩ := st_explain (n := n) (x1 := xs (i + 1)) hn h
  refine V_callVi 997 [.int (xs (i + 1))] [] O mf_X11_explain ll_115 k0 dL_law_997 rfl rfl (Nat.le_of_ble_eq_true rfl) ⟨Nat.le_of_ble_eq_true rfl, Nat.le_of_ble_eq_true rfl⟩ (fun l => C_X11_explain e1) ?_
  refine V_aloadn 1000 2 O dL_law_1000 rfl rfl ?_
  refine V_arg 1001 (j := 1) O X hL (by decide) hi (by decide) dL_law_1001 dL_law_1002 dL_law_1003 dL_law_1004 dL_law_1005 ?_
  refine V_callVi 1006 [.int (xs (i + 1))] [.int r] O mf_X12_explain ll_118 k71 dL_law_1006 rfl rfl (Nat.le_of_ble_eq_true rfl) ⟨Nat.le_of_ble_eq_true rfl, Nat.le_of_ble_eq_true rfl⟩ (fun l => C_X12_explain e2) ?_
  exact V_icmp_eqc 1009 1221 O dL_law_1009 rfl (fun _ => k ρ hI) (fun h0 => absurd rfl h0)
theorem law_beds {n c : Nat} (O : zO G x cL_law RL 13 492 4) (X : lX G x b L xs) (hL : L ≤ 3584) (hi : i + 6 < L) (hn : 300000 ≤ n) (hc : c < 600) (h : Inv c σ) (k : ∀ τ : Sg, Inv (c + 1) τ → V G x τ (lL G b i) 1221 []) : V G x σ (lL G b i) 1014 [] := by
  refine V_aloadn 1014 1 O dL_law_1014 rfl rfl ?_
  refine V_arg 1015 (j := 1) O X hL (by decide) hi (by decide) dL_law_1015 dL_law_1016 dL_law_1017 dL_law_1018 dL_law_1019 ?_
  refine V_arg 1020 (j := 2) O X hL (by decide) hi (by decide) dL_law_1020 dL_law_1021 dL_law_1022 dL_law_1023 dL_law_1024 ?_
  refine V_arg 1025 (j := 3) O X hL (by decide) hi (by decide) dL_law_1025 dL_law_1026 dL_law_1027 dL_law_1028 dL_law_1029 ?_
  refine V_arg 1030 (j := 4) O X hL (by decide) hi (by decide) dL_law_1030 dL_law_1031 dL_law_1032 dL_law_1033 dL_law_1034 ?_
  refine V_arg 1035 (j := 5) O X hL (by decide) hi (by decide) dL_law_1035 dL_law_1036 dL_law_1037 dL_law_1038 dL_law_1039 ?_
  refine V_argb 1040 (j := 6) O X hL (by decide) hi (by decide) dL_law_1040 dL_law_1041 dL_law_1042 dL_law_1044 dL_law_1045 ?_
  obtain ⟨r, τ, ρ, e1, e2, hI⟩ := st_beds (n := n) (x1 := xs (i + 1)) (x2 := xs (i + 2)) (x3 := xs (i + 3)) (x4 := xs (i + 4)) (x5 := xs (i + 5)) (x6 := xs (i + 6)) hn h
  refine V_callVi 1046 [.int (xs (i + 1)), .int (xs (i + 2)), .int (xs (i + 3)), .int (xs (i + 4)), .int (xs (i + 5)), .int (xs (i + 6))] [] O mf_X11_beds ll_119 k0 dL_law_1046 rfl rfl (Nat.le_of_ble_eq_true rfl) ⟨Nat.le_of_ble_eq_true rfl, Nat.le_of_ble_eq_true rfl⟩ (fun l => C_X11_beds e1) ?_
  refine V_aloadn 1049 2 O dL_law_1049 rfl rfl ?_
  refine V_arg 1050 (j := 1) O X hL (by decide) hi (by decide) dL_law_1050 dL_law_1051 dL_law_1052 dL_law_1053 dL_law_1054 ?_
  refine V_arg 1055 (j := 2) O X hL (by decide) hi (by decide) dL_law_1055 dL_law_1056 dL_law_1057 dL_law_1058 dL_law_1059 ?_
  refine V_arg 1060 (j := 3) O X hL (by decide) hi (by decide) dL_law_1060 dL_law_1061 dL_law_1062 dL_law_1063 dL_law_1064 ?_
  refine V_arg 1065 (j := 4) O X hL (by decide) hi (by decide) dL_law_1065 dL_law_1066 dL_law_1067 dL_law_1068 dL_law_1069 ?_
  refine V_arg 1070 (j := 5) O X hL (by decide) hi (by decide) dL_law_1070 dL_law_1071 dL_law_1072 dL_law_1073 dL_law_1074 ?_
  refine V_argb 1075 (j := 6) O X hL (by decide) hi (by decide) dL_law_1075 dL_law_1076 dL_law_1077 dL_law_1079 dL_law_1080 ?_
  refine V_callVi 1081 [.int (xs (i + 1)), .int (xs (i + 2)), .int (xs (i + 3)), .int (xs (i + 4)), .int (xs (i + 5)), .int (xs (i + 6))] [.int r] O mf_X12_beds ll_122 k71 dL_law_1081 rfl rfl (Nat.le_of_ble_eq_true rfl) ⟨Nat.le_of_ble_eq_true rfl, Nat.le_of_ble_eq_true rfl⟩ (fun l => C_X12_beds e2) ?_
  exact V_icmp_eqc 1084 1221 O dL_law_1084 rfl (fun _ => k ρ hI) (fun h0 => absurd rfl h0)
theorem law_river {n c : Nat} (O : zO G x cL_law RL 13 492 4) (X : lX G x b L xs) (hL : L ≤ 3584) (hi : i + 6 < L) (hn : 300000 ≤ n) (hc : c < 600) (h : Inv c σ) (k : ∀ τ : Sg, Inv (c + 1) τ → V G x τ (lL G b i) 1221 []) : V G x σ (lL G b i) 1089 [] := by
  refine V_aloadn 1089 1 O dL_law_1089 rfl rfl ?_
  refine V_arg 1090 (j := 1) O X hL (by decide) hi (by decide) dL_law_1090 dL_law_1091 dL_law_1092 dL_law_1093 dL_law_1094 ?_
  refine V_arg 1095 (j := 2) O X hL (by decide) hi (by decide) dL_law_1095 dL_law_1096 dL_law_1097 dL_law_1098 dL_law_1099 ?_
  obtain ⟨r, τ, ρ, e1, e2, hI⟩ := st_river (n := n) (x1 := xs (i + 1)) (x2 := xs (i + 2)) h
  refine V_callVi 1100 [.int (xs (i + 1)), .int (xs (i + 2))] [] O mf_X11_river ll_123 k0 dL_law_1100 rfl rfl (Nat.le_of_ble_eq_true rfl) ⟨Nat.le_of_ble_eq_true rfl, Nat.le_of_ble_eq_true rfl⟩ (fun l => C_X11_river e1) ?_
  refine V_aloadn 1103 2 O dL_law_1103 rfl rfl ?_
  refine V_arg 1104 (j := 1) O X hL (by decide) hi (by decide) dL_law_1104 dL_law_1105 dL_law_1106 dL_law_1107 dL_law_1108 ?_
  refine V_arg 1109 (j := 2) O X hL (by decide) hi (by decide) dL_law_1109 dL_law_1110 dL_law_1111 dL_law_1112 dL_law_1113 ?_
  refine V_callVi 1114 [.int (xs (i + 1)), .int (xs (i + 2))] [.int r] O mf_X12_river ll_126 k71 dL_law_1114 rfl rfl (Nat.le_of_ble_eq_true rfl) ⟨Nat.le_of_ble_eq_true rfl, Nat.le_of_ble_eq_true rfl⟩ (fun l => C_X12_river e2) ?_
  exact V_icmp_eqc 1117 1221 O dL_law_1117 rfl (fun _ => k ρ hI) (fun h0 => absurd rfl h0)
theorem law_share {n c : Nat} (O : zO G x cL_law RL 13 492 4) (X : lX G x b L xs) (hL : L ≤ 3584) (hi : i + 6 < L) (hn : 300000 ≤ n) (hc : c < 600) (h : Inv c σ) (k : ∀ τ : Sg, Inv (c + 1) τ → V G x τ (lL G b i) 1221 []) : V G x σ (lL G b i) 1122 [] := by
  refine V_aloadn 1122 1 O dL_law_1122 rfl rfl ?_
  refine V_arg 1123 (j := 1) O X hL (by decide) hi (by decide) dL_law_1123 dL_law_1124 dL_law_1125 dL_law_1126 dL_law_1127 ?_
  refine V_arg 1128 (j := 2) O X hL (by decide) hi (by decide) dL_law_1128 dL_law_1129 dL_law_1130 dL_law_1131 dL_law_1132 ?_
  refine V_arg 1133 (j := 3) O X hL (by decide) hi (by decide) dL_law_1133 dL_law_1134 dL_law_1135 dL_law_1136 dL_law_1137 ?_
  refine V_arg 1138 (j := 4) O X hL (by decide) hi (by decide) dL_law_1138 dL_law_1139 dL_law_1140 dL_law_1141 dL_law_1142 ?_
  obtain ⟨r, τ, ρ, e1, e2, hI⟩ := st_share (n := n) (x1 := xs (i + 1)) (x2 := xs (i + 2)) (x3 := xs (i + 3)) (x4 := xs (i + 4)) hn h
  refine V_callVi 1143 [.int (xs (i + 1)), .int (xs (i + 2)), .int (xs (i + 3)), .int (xs (i + 4))] [] O mf_X11_share ll_127 k0 dL_law_1143 rfl rfl (Nat.le_of_ble_eq_true rfl) ⟨Nat.le_of_ble_eq_true rfl, Nat.le_of_ble_eq_true rfl⟩ (fun l => C_X11_share e1) ?_
  refine V_aloadn 1146 2 O dL_law_1146 rfl rfl ?_
  refine V_arg 1147 (j := 1) O X hL (by decide) hi (by decide) dL_law_1147 dL_law_1148 dL_law_1149 dL_law_1150 dL_law_1151 ?_
  refine V_arg 1152 (j := 2) O X hL (by decide) hi (by decide) dL_law_1152 dL_law_1153 dL_law_1154 dL_law_1155 dL_law_1156 ?_
  refine V_arg 1157 (j := 3) O X hL (by decide) hi (by decide) dL_law_1157 dL_law_1158 dL_law_1159 dL_law_1160 dL_law_1161 ?_
  refine V_arg 1162 (j := 4) O X hL (by decide) hi (by decide) dL_law_1162 dL_law_1163 dL_law_1164 dL_law_1165 dL_law_1166 ?_
  refine V_callVi 1167 [.int (xs (i + 1)), .int (xs (i + 2)), .int (xs (i + 3)), .int (xs (i + 4))] [.int r] O mf_X12_share ll_130 k71 dL_law_1167 rfl rfl (Nat.le_of_ble_eq_true rfl) ⟨Nat.le_of_ble_eq_true rfl, Nat.le_of_ble_eq_true rfl⟩ (fun l => C_X12_share e2) ?_
  exact V_icmp_eqc 1170 1221 O dL_law_1170 rfl (fun _ => k ρ hI) (fun h0 => absurd rfl h0)
theorem law_gains {n c : Nat} (O : zO G x cL_law RL 13 492 4) (X : lX G x b L xs) (hL : L ≤ 3584) (hi : i + 6 < L) (hn : 300000 ≤ n) (hc : c < 600) (h : Inv c σ) (k : ∀ τ : Sg, Inv (c + 1) τ → V G x τ (lL G b i) 1221 []) : V G x σ (lL G b i) 1175 [] := by
  refine V_aloadn 1175 1 O dL_law_1175 rfl rfl ?_
  obtain ⟨r, τ, ρ, e1, e2, hI⟩ := st_gains (n := n) hn h
  refine V_callVi 1176 [] [] O mf_X11_gains ll_131 k0 dL_law_1176 rfl rfl (Nat.le_of_ble_eq_true rfl) ⟨Nat.le_of_ble_eq_true rfl, Nat.le_of_ble_eq_true rfl⟩ (fun l => C_X11_gains e1) ?_
  refine V_aloadn 1179 2 O dL_law_1179 rfl rfl ?_
  refine V_callVi 1180 [] [.int r] O mf_X12_gains ll_134 k71 dL_law_1180 rfl rfl (Nat.le_of_ble_eq_true rfl) ⟨Nat.le_of_ble_eq_true rfl, Nat.le_of_ble_eq_true rfl⟩ (fun l => C_X12_gains e2) ?_
  exact V_icmp_eqc 1183 1221 O dL_law_1183 rfl (fun _ => k ρ hI) (fun h0 => absurd rfl h0)
theorem law_beside {n c : Nat} (O : zO G x cL_law RL 13 492 4) (X : lX G x b L xs) (hL : L ≤ 3584) (hi : i + 6 < L) (hn : 300000 ≤ n) (hc : c < 600) (h : Inv c σ) (k : ∀ τ : Sg, Inv (c + 1) τ → V G x τ (lL G b i) 1221 []) : V G x σ (lL G b i) 1188 [] := by
  refine V_aloadn 1188 1 O dL_law_1188 rfl rfl ?_
  refine V_arg 1189 (j := 1) O X hL (by decide) hi (by decide) dL_law_1189 dL_law_1190 dL_law_1191 dL_law_1192 dL_law_1193 ?_
  refine V_arg 1194 (j := 2) O X hL (by decide) hi (by decide) dL_law_1194 dL_law_1195 dL_law_1196 dL_law_1197 dL_law_1198 ?_
  obtain ⟨r, τ, ρ, e1, e2, hI⟩ := st_beside (n := n) (x1 := xs (i + 1)) (x2 := xs (i + 2)) hn h
  refine V_callVi 1199 [.int (xs (i + 1)), .int (xs (i + 2))] [] O mf_X11_beside ll_135 k0 dL_law_1199 rfl rfl (Nat.le_of_ble_eq_true rfl) ⟨Nat.le_of_ble_eq_true rfl, Nat.le_of_ble_eq_true rfl⟩ (fun l => C_X11_beside e1) ?_
  refine V_aloadn 1202 2 O dL_law_1202 rfl rfl ?_
  refine V_arg 1203 (j := 1) O X hL (by decide) hi (by decide) dL_law_1203 dL_law_1204 dL_law_1205 dL_law_1206 dL_law_1207 ?_
  refine V_arg 1208 (j := 2) O X hL (by decide) hi (by decide) dL_law_1208 dL_law_1209 dL_law_1210 dL_law_1211 dL_law_1212 ?_
  refine V_callVi 1213 [.int (xs (i + 1)), .int (xs (i + 2))] [.int r] O mf_X12_beside ll_138 k71 dL_law_1213 rfl rfl (Nat.le_of_ble_eq_true rfl) ⟨Nat.le_of_ble_eq_true rfl, Nat.le_of_ble_eq_true rfl⟩ (fun l => C_X12_beside e2) ?_
  exact V_icmp_eqc 1216 1221 O dL_law_1216 rfl (fun _ => k ρ hI) (fun h0 => absurd rfl h0)
end LR
