-- ==== Reader.next()V
def s_X5_next_117b (n : Nat) (rc117 : Sg → Option Sg) (σ : Sg) : Option Sg := if (σ 25 0) ≤ (σ 25 4) then (some σ) else (ck (σ 25 4) 160 (bd (s_X5_kindOf n (σ 26 (ix (σ 25 4))) σ) fun r11 σ10 => if r11 = (σ10 25 5) then (if (σ10 25 5) = (2 : Int32) then (ck (σ10 25 4) 160 (lt (up2 σ10 25 7 (imin (9999 : Int32) ((((σ10 25 7) * (10 : Int32)) + (σ10 26 (ix (σ10 25 4)))) - (48 : Int32)))) fun σ13 => lt (up2 σ13 25 4 ((σ13 25 4) + (1 : Int32))) fun σ14 => rc117 σ14)) else (lt (up2 σ10 25 4 ((σ10 25 4) + (1 : Int32))) fun σ12 => rc117 σ12)) else (some σ10)))
def s_X5_next_117 (n : Nat) : Nat → Sg → Option Sg
  | 0 => fun  _ => none
  | k + 1 => s_X5_next_117b n (s_X5_next_117 n k)
def s_X5_next_74 (n : Nat) (y0 : Int32) (σ : Sg) : Option Sg := lt (up2 σ 25 5 y0) fun σ5 => if (σ5 25 5) = (3 : Int32) then (lt (up2 σ5 25 4 ((σ5 25 4) + (1 : Int32))) fun σ6 => some σ6) else (if (σ5 25 5) = (4 : Int32) then (lt (up2 σ5 25 4 ((σ5 25 4) + (1 : Int32))) fun σ7 => some σ7) else (if (σ5 25 5) = (5 : Int32) then (lt (up2 σ5 25 4 ((σ5 25 4) + (1 : Int32))) fun σ9 => some σ9) else (lt (up2 σ5 25 7 (0 : Int32)) fun σ8 => s_X5_next_117 n n σ8)))
def s_X5_next_38 (n : Nat) (σ : Sg) : Option Sg := lt (up2 σ 25 6 (σ 25 4)) fun σ2 => if (σ2 25 0) ≤ (σ2 25 4) then (s_X5_next_74 n (0 : Int32) σ2) else (ck (σ2 25 4) 160 (bd (s_X5_kindOf n (σ2 26 (ix (σ2 25 4))) σ2) fun r4 σ3 => s_X5_next_74 n r4 σ3))
def s_X5_next_0b (n : Nat) (rc0 : Sg → Option Sg) (σ : Sg) : Option Sg := if (σ 25 0) ≤ (σ 25 4) then (s_X5_next_38 n σ) else (ck (σ 25 4) 160 (if (σ 26 (ix (σ 25 4))) = (32 : Int32) then (lt (up2 σ 25 4 ((σ 25 4) + (1 : Int32))) fun σ1 => rc0 σ1) else (s_X5_next_38 n σ)))
def s_X5_next_0 (n : Nat) : Nat → Sg → Option Sg
  | 0 => fun  _ => none
  | k + 1 => s_X5_next_0b n (s_X5_next_0 n k)
def s_X5_next (n : Nat) (σ : Sg) : Option Sg := s_X5_next_0 n n σ
set_option maxRecDepth 20000 in
theorem b_X5_next_117 {G : zG} {x : zX} {τ : Sg} (O : zO G x cX5_next RX5 1 40 1) (E : zE G x none none τ) (n : Nat) (rc117 : Sg → Option Sg) (H117 : ∀ (σ : Sg), rc117 σ = some τ → V G x σ [(0, .ref (zad G 25))] 117 []) (σ : Sg) (h : s_X5_next_117b n rc117 σ = some τ) : V G x σ [(0, .ref (zad G 25))] 117 [] := by
  unfold s_X5_next_117b at h
  refine V_aloadn 117 0 O dX5_next_117 rfl rfl ?_
  refine V_getI 118 O k25 fl_X5_22 dX5_next_118 ?_
  refine V_aloadn 121 0 O dX5_next_121 rfl rfl ?_
  refine V_getI 122 O k25 fl_X5_19 dX5_next_122 ?_
  refine V_icmp_ge 125 198 O dX5_next_125 rfl h (fun h => ?_) (fun h => ?_)
  · exact V_vret 198 O E dX5_next_198 h
  · refine V_aloadn 128 0 O dX5_next_128 rfl rfl ?_
    refine V_getR 129 O k25 fl_X5_15 rf25_2 dX5_next_129 ?_
    refine V_aloadn 132 0 O dX5_next_132 rfl rfl ?_
    refine V_getI 133 O k25 fl_X5_22 dX5_next_133 ?_
    refine V_iald 136 O k26 dX5_next_136 h (fun h => ?_)
    obtain ⟨r11, σ10, g, h⟩ := bd_of h
    refine V_callSi 137 [.int (σ 26 (ix (σ 25 4)))] [] O mf_X5_kindOf lk_X5_137 dX5_next_137 rfl rfl (Nat.le_of_ble_eq_true rfl) ⟨(Nat.le_of_ble_eq_true rfl), (Nat.le_of_ble_eq_true rfl)⟩ (fun l => C_X5_kindOf  g) ?_
    refine V_aloadn 140 0 O dX5_next_140 rfl rfl ?_
    refine V_getI 141 O k25 fl_X5_36 dX5_next_141 ?_
    refine V_icmp_ne 144 198 O dX5_next_144 rfl h (fun h => ?_) (fun h => ?_)
    · exact V_vret 198 O E dX5_next_198 h
    · refine V_aloadn 147 0 O dX5_next_147 rfl rfl ?_
      refine V_getI 148 O k25 fl_X5_36 dX5_next_148 ?_
      refine V_iconst 151 O dX5_next_151 ci_2 ?_
      refine V_icmp_ne 152 185 O dX5_next_152 rfl h (fun h => ?_) (fun h => ?_)
      · refine V_aloadn 185 0 O dX5_next_185 rfl rfl ?_
        refine V_dup 186 O dX5_next_186 rfl ?_
        refine V_getI 187 O k25 fl_X5_22 dX5_next_187 ?_
        refine V_iconst 190 O dX5_next_190 ci_1 ?_
        refine V_iadd 191 O dX5_next_191 ?_
        refine V_put 192 O k25 fp_X5_22 dX5_next_192 h (fun σ12 h => ?_)
        refine V_goto 195 117 O dX5_next_195 rfl ?_
        exact V_sub [0] rfl (H117  σ12  h)
      · refine V_aloadn 155 0 O dX5_next_155 rfl rfl ?_
        refine V_sipush 156 O dX5_next_156 cs_9999 ?_
        refine V_aloadn 159 0 O dX5_next_159 rfl rfl ?_
        refine V_getI 160 O k25 fl_X5_101 dX5_next_160 ?_
        refine V_bipush 163 O dX5_next_163 cb_10 ?_
        refine V_imul 165 O dX5_next_165 ?_
        refine V_aloadn 166 0 O dX5_next_166 rfl rfl ?_
        refine V_getR 167 O k25 fl_X5_15 rf25_2 dX5_next_167 ?_
        refine V_aloadn 170 0 O dX5_next_170 rfl rfl ?_
        refine V_getI 171 O k25 fl_X5_22 dX5_next_171 ?_
        refine V_iald 174 O k26 dX5_next_174 h (fun h => ?_)
        refine V_iadd 175 O dX5_next_175 ?_
        refine V_bipush 176 O dX5_next_176 cb_48 ?_
        refine V_isub 178 O dX5_next_178 ?_
        refine V_min 179 O lk_X5_141 mm_imin.1 mm_imin.2.1 mm_imin.2.2 (Nat.le_of_ble_eq_true rfl) (Nat.le_of_ble_eq_true rfl) dX5_next_179 ?_
        refine V_put 182 O k25 fp_X5_101 dX5_next_182 h (fun σ13 h => ?_)
        refine V_aloadn 185 0 O dX5_next_185 rfl rfl ?_
        refine V_dup 186 O dX5_next_186 rfl ?_
        refine V_getI 187 O k25 fl_X5_22 dX5_next_187 ?_
        refine V_iconst 190 O dX5_next_190 ci_1 ?_
        refine V_iadd 191 O dX5_next_191 ?_
        refine V_put 192 O k25 fp_X5_22 dX5_next_192 h (fun σ14 h => ?_)
        refine V_goto 195 117 O dX5_next_195 rfl ?_
        exact V_sub [0] rfl (H117  σ14  h)
theorem bl_X5_next_117 {G : zG} {x : zX} {τ : Sg} (O : zO G x cX5_next RX5 1 40 1) (E : zE G x none none τ) (n : Nat) : ∀ (k : Nat) (σ : Sg), s_X5_next_117 n k σ = some τ → V G x σ [(0, .ref (zad G 25))] 117 [] := by
  intro k
  induction k with
  | zero => intro  σ  h; cases h
  | succ k ih => intro  σ  h; exact b_X5_next_117 O E n  (s_X5_next_117 n  k) ih  σ  h
set_option maxRecDepth 20000 in
theorem b_X5_next_74 {G : zG} {x : zX} {τ : Sg} (O : zO G x cX5_next RX5 1 40 1) (E : zE G x none none τ) (n : Nat) (y0 : Int32) (σ : Sg) (h : s_X5_next_74 n y0 σ = some τ) : V G x σ [(0, .ref (zad G 25))] 74 [.int y0, .ref (zad G 25)] := by
  unfold s_X5_next_74 at h
  refine V_put 74 O k25 fp_X5_36 dX5_next_74 h (fun σ5 h => ?_)
  refine V_aloadn 77 0 O dX5_next_77 rfl rfl ?_
  refine V_getI 78 O k25 fl_X5_36 dX5_next_78 ?_
  refine V_iconst 81 O dX5_next_81 ci_3 ?_
  refine V_icmp_eq 82 101 O dX5_next_82 rfl h (fun h => ?_) (fun h => ?_)
  · refine V_aloadn 101 0 O dX5_next_101 rfl rfl ?_
    refine V_dup 102 O dX5_next_102 rfl ?_
    refine V_getI 103 O k25 fl_X5_22 dX5_next_103 ?_
    refine V_iconst 106 O dX5_next_106 ci_1 ?_
    refine V_iadd 107 O dX5_next_107 ?_
    refine V_put 108 O k25 fp_X5_22 dX5_next_108 h (fun σ6 h => ?_)
    exact V_vret 111 O E dX5_next_111 h
  · refine V_aloadn 85 0 O dX5_next_85 rfl rfl ?_
    refine V_getI 86 O k25 fl_X5_36 dX5_next_86 ?_
    refine V_iconst 89 O dX5_next_89 ci_4 ?_
    refine V_icmp_eq 90 101 O dX5_next_90 rfl h (fun h => ?_) (fun h => ?_)
    · refine V_aloadn 101 0 O dX5_next_101 rfl rfl ?_
      refine V_dup 102 O dX5_next_102 rfl ?_
      refine V_getI 103 O k25 fl_X5_22 dX5_next_103 ?_
      refine V_iconst 106 O dX5_next_106 ci_1 ?_
      refine V_iadd 107 O dX5_next_107 ?_
      refine V_put 108 O k25 fp_X5_22 dX5_next_108 h (fun σ7 h => ?_)
      exact V_vret 111 O E dX5_next_111 h
    · refine V_aloadn 93 0 O dX5_next_93 rfl rfl ?_
      refine V_getI 94 O k25 fl_X5_36 dX5_next_94 ?_
      refine V_iconst 97 O dX5_next_97 ci_5 ?_
      refine V_icmp_ne 98 112 O dX5_next_98 rfl h (fun h => ?_) (fun h => ?_)
      · refine V_aloadn 112 0 O dX5_next_112 rfl rfl ?_
        refine V_iconst 113 O dX5_next_113 ci_0 ?_
        refine V_put 114 O k25 fp_X5_101 dX5_next_114 h (fun σ8 h => ?_)
        exact V_sub [0] rfl (bl_X5_next_117 O E n  n  σ8  h)
      · refine V_aloadn 101 0 O dX5_next_101 rfl rfl ?_
        refine V_dup 102 O dX5_next_102 rfl ?_
        refine V_getI 103 O k25 fl_X5_22 dX5_next_103 ?_
        refine V_iconst 106 O dX5_next_106 ci_1 ?_
        refine V_iadd 107 O dX5_next_107 ?_
        refine V_put 108 O k25 fp_X5_22 dX5_next_108 h (fun σ9 h => ?_)
        exact V_vret 111 O E dX5_next_111 h
set_option maxRecDepth 20000 in
theorem b_X5_next_38 {G : zG} {x : zX} {τ : Sg} (O : zO G x cX5_next RX5 1 40 1) (E : zE G x none none τ) (n : Nat) (σ : Sg) (h : s_X5_next_38 n σ = some τ) : V G x σ [(0, .ref (zad G 25))] 38 [] := by
  unfold s_X5_next_38 at h
  refine V_aloadn 38 0 O dX5_next_38 rfl rfl ?_
  refine V_aloadn 39 0 O dX5_next_39 rfl rfl ?_
  refine V_getI 40 O k25 fl_X5_22 dX5_next_40 ?_
  refine V_put 43 O k25 fp_X5_122 dX5_next_43 h (fun σ2 h => ?_)
  refine V_aloadn 46 0 O dX5_next_46 rfl rfl ?_
  refine V_aloadn 47 0 O dX5_next_47 rfl rfl ?_
  refine V_getI 48 O k25 fl_X5_22 dX5_next_48 ?_
  refine V_aloadn 51 0 O dX5_next_51 rfl rfl ?_
  refine V_getI 52 O k25 fl_X5_19 dX5_next_52 ?_
  refine V_icmp_ge 55 73 O dX5_next_55 rfl h (fun h => ?_) (fun h => ?_)
  · refine V_iconst 73 O dX5_next_73 ci_0 ?_
    exact V_sub [0] rfl (b_X5_next_74 O E n  (0 : Int32) σ2  h)
  · refine V_aloadn 58 0 O dX5_next_58 rfl rfl ?_
    refine V_getR 59 O k25 fl_X5_15 rf25_2 dX5_next_59 ?_
    refine V_aloadn 62 0 O dX5_next_62 rfl rfl ?_
    refine V_getI 63 O k25 fl_X5_22 dX5_next_63 ?_
    refine V_iald 66 O k26 dX5_next_66 h (fun h => ?_)
    obtain ⟨r4, σ3, g, h⟩ := bd_of h
    refine V_callSi 67 [.int (σ2 26 (ix (σ2 25 4)))] [.ref (zad G 25)] O mf_X5_kindOf lk_X5_137 dX5_next_67 rfl rfl (Nat.le_of_ble_eq_true rfl) ⟨(Nat.le_of_ble_eq_true rfl), (Nat.le_of_ble_eq_true rfl)⟩ (fun l => C_X5_kindOf  g) ?_
    refine V_goto 70 74 O dX5_next_70 rfl ?_
    exact V_sub [0] rfl (b_X5_next_74 O E n  r4 σ3  h)
set_option maxRecDepth 20000 in
theorem b_X5_next_0 {G : zG} {x : zX} {τ : Sg} (O : zO G x cX5_next RX5 1 40 1) (E : zE G x none none τ) (n : Nat) (rc0 : Sg → Option Sg) (H0 : ∀ (σ : Sg), rc0 σ = some τ → V G x σ [(0, .ref (zad G 25))] 0 []) (σ : Sg) (h : s_X5_next_0b n rc0 σ = some τ) : V G x σ [(0, .ref (zad G 25))] 0 [] := by
  unfold s_X5_next_0b at h
  refine V_aloadn 0 0 O dX5_next_0 rfl rfl ?_
  refine V_getI 1 O k25 fl_X5_22 dX5_next_1 ?_
  refine V_aloadn 4 0 O dX5_next_4 rfl rfl ?_
  refine V_getI 5 O k25 fl_X5_19 dX5_next_5 ?_
  refine V_icmp_ge 8 38 O dX5_next_8 rfl h (fun h => ?_) (fun h => ?_)
  · exact V_sub [0] rfl (b_X5_next_38 O E n   σ  h)
  · refine V_aloadn 11 0 O dX5_next_11 rfl rfl ?_
    refine V_getR 12 O k25 fl_X5_15 rf25_2 dX5_next_12 ?_
    refine V_aloadn 15 0 O dX5_next_15 rfl rfl ?_
    refine V_getI 16 O k25 fl_X5_22 dX5_next_16 ?_
    refine V_iald 19 O k26 dX5_next_19 h (fun h => ?_)
    refine V_bipush 20 O dX5_next_20 cb_32 ?_
    refine V_icmp_ne 22 38 O dX5_next_22 rfl h (fun h => ?_) (fun h => ?_)
    · exact V_sub [0] rfl (b_X5_next_38 O E n   σ  h)
    · refine V_aloadn 25 0 O dX5_next_25 rfl rfl ?_
      refine V_dup 26 O dX5_next_26 rfl ?_
      refine V_getI 27 O k25 fl_X5_22 dX5_next_27 ?_
      refine V_iconst 30 O dX5_next_30 ci_1 ?_
      refine V_iadd 31 O dX5_next_31 ?_
      refine V_put 32 O k25 fp_X5_22 dX5_next_32 h (fun σ1 h => ?_)
      refine V_goto 35 0 O dX5_next_35 rfl ?_
      exact V_sub [0] rfl (H0  σ1  h)
theorem bl_X5_next_0 {G : zG} {x : zX} {τ : Sg} (O : zO G x cX5_next RX5 1 40 1) (E : zE G x none none τ) (n : Nat) : ∀ (k : Nat) (σ : Sg), s_X5_next_0 n k σ = some τ → V G x σ [(0, .ref (zad G 25))] 0 [] := by
  intro k
  induction k with
  | zero => intro  σ  h; cases h
  | succ k ih => intro  σ  h; exact b_X5_next_0 O E n  (s_X5_next_0 n  k) ih  σ  h
set_option maxRecDepth 20000 in
theorem C_X5_next {l : Launch} {G : zG} {n : Nat} {σ : Sg} {τ : Sg} (h : s_X5_next n σ = some τ) : zM l G 1 yX5_next (.code yX5_next cX5_next 1 none) [.ref (zad G 25)] σ none τ := by
  refine zM_of (by decide) (Nat.le_of_ble_eq_true rfl) (fun x O E => ?_)
  have O : zO G x cX5_next RX5 1 40 1 := O
  unfold s_X5_next at h
  show V G x σ [(0, .ref (zad G 25))] 0 []
  exact V_sub [0] rfl (bl_X5_next_0 O E n  n  σ  h)
-- ==== Reader.says(Ljava/lang/String;)Z
def s_X5_says_28b (n : Nat) (rc28 : Nat → Int32 → Sg → Option (Int32 × Sg)) (x1 : Nat) (x2 : Int32) (σ : Sg) : Option (Int32 × Sg) := if (slen x1) ≤ x2 then (some ((1 : Int32), σ)) else (ck ((σ 25 6) + x2) 160 (ck x2 (lenJS.getD x1 0) (if (σ 26 (ix ((σ 25 6) + x2))) = (sch x1 x2) then (rc28 x1 (x2 + (1 : Int32)) σ) else (some ((0 : Int32), σ)))))
def s_X5_says_28 (n : Nat) : Nat → Nat → Int32 → Sg → Option (Int32 × Sg)
  | 0 => fun _ _ _ => none
  | k + 1 => s_X5_says_28b n (s_X5_says_28 n k)
def s_X5_says (n : Nat) (x1 : Nat) (σ : Sg) : Option (Int32 × Sg) := if (σ 25 5) = (1 : Int32) then (if ((σ 25 4) - (σ 25 6)) = (slen x1) then (s_X5_says_28 n n x1 (0 : Int32) σ) else (some ((0 : Int32), σ))) else (some ((0 : Int32), σ))
set_option maxRecDepth 20000 in
theorem b_X5_says_28 {G : zG} {x : zX} {r : Int32} {τ : Sg} (O : zO G x cX5_says RX5 5 200 3) (E : zE G x (some (.boolean)) (some (.int r)) τ) (n : Nat) (rc28 : Nat → Int32 → Sg → Option (Int32 × Sg)) (H28 : ∀ (x1 : Nat) (x2 : Int32) (σ : Sg), x1 < 10 → rc28 x1 x2 σ = some (r, τ) → V G x σ [(0, .ref (zad G 25)), (1, .ref (G.2.2.2.2.1 x1)), (2, .int x2)] 28 []) (x1 : Nat) (x2 : Int32) (σ : Sg) (hx1 : x1 < 10) (h : s_X5_says_28b n rc28 x1 x2 σ = some (r, τ)) : V G x σ [(0, .ref (zad G 25)), (1, .ref (G.2.2.2.2.1 x1)), (2, .int x2)] 28 [] := by
  unfold s_X5_says_28b at h
  refine V_iloadn 28 2 O dX5_says_28 rfl rfl ?_
  refine V_aloadn 29 1 O dX5_says_29 rfl rfl ?_
  refine V_strlen 30 [.int x2] O hx1 (Nat.le_of_ble_eq_true rfl) (Nat.le_of_ble_eq_true rfl) dX5_says_30 (Nat.le_of_ble_eq_true rfl) ?_
  refine V_icmp_ge 33 63 O dX5_says_33 rfl h (fun h => ?_) (fun h => ?_)
  · refine V_iconst 63 O dX5_says_63 ci_1 ?_
    exact V_zret1 64 O E dX5_says_64 h
  · refine V_aloadn 36 0 O dX5_says_36 rfl rfl ?_
    refine V_getR 37 O k25 fl_X5_15 rf25_2 dX5_says_37 ?_
    refine V_aloadn 40 0 O dX5_says_40 rfl rfl ?_
    refine V_getI 41 O k25 fl_X5_122 dX5_says_41 ?_
    refine V_iloadn 44 2 O dX5_says_44 rfl rfl ?_
    refine V_iadd 45 O dX5_says_45 ?_
    refine V_iald 46 O k26 dX5_says_46 h (fun h => ?_)
    refine V_aloadn 47 1 O dX5_says_47 rfl rfl ?_
    refine V_iloadn 48 2 O dX5_says_48 rfl rfl ?_
    refine V_strch 49 [.int (σ 26 (ix ((σ 25 6) + x2)))] O hx1 (Nat.le_of_ble_eq_true rfl) (Nat.le_of_ble_eq_true rfl) dX5_says_49 (Nat.le_of_ble_eq_true rfl) h (fun h => ?_)
    refine V_icmp_eq 52 57 O dX5_says_52 rfl h (fun h => ?_) (fun h => ?_)
    · refine V_iinc 57 2 [1, 2, 0] [(0, .ref (zad G 25)), (1, .ref (G.2.2.2.2.1 x1)), (2, .int (x2 + (1 : Int32)))] O dX5_says_57 rfl ci_1 (Nat.le_of_ble_eq_true rfl) rfl ?_
      refine V_goto 60 28 O dX5_says_60 rfl ?_
      exact V_sub [0, 1, 2] rfl (H28 x1 (x2 + (1 : Int32)) σ hx1 h)
    · refine V_iconst 55 O dX5_says_55 ci_0 ?_
      exact V_zret0 56 O E dX5_says_56 h
theorem bl_X5_says_28 {G : zG} {x : zX} {r : Int32} {τ : Sg} (O : zO G x cX5_says RX5 5 200 3) (E : zE G x (some (.boolean)) (some (.int r)) τ) (n : Nat) : ∀ (k : Nat) (x1 : Nat) (x2 : Int32) (σ : Sg), x1 < 10 → s_X5_says_28 n k x1 x2 σ = some (r, τ) → V G x σ [(0, .ref (zad G 25)), (1, .ref (G.2.2.2.2.1 x1)), (2, .int x2)] 28 [] := by
  intro k
  induction k with
  | zero => intro x1 x2 σ hx1 h; cases h
  | succ k ih => intro x1 x2 σ hx1 h; exact b_X5_says_28 O E n  (s_X5_says_28 n  k) ih x1 x2 σ hx1 h
set_option maxRecDepth 20000 in
theorem C_X5_says {l : Launch} {G : zG} {n : Nat} {x1 : Nat} {σ : Sg} {r : Int32} {τ : Sg} (hx1 : x1 < 10) (h : s_X5_says n x1 σ = some (r, τ)) : zM l G 5 yX5_says (.code yX5_says cX5_says 3 (some (.boolean))) [.ref (zad G 25), .ref (G.2.2.2.2.1 x1)] σ (some (.int r)) τ := by
  refine zM_of (by decide) (Nat.le_of_ble_eq_true rfl) (fun x O E => ?_)
  have O : zO G x cX5_says RX5 5 200 3 := O
  unfold s_X5_says at h
  show V G x σ [(0, .ref (zad G 25)), (1, .ref (G.2.2.2.2.1 x1))] 0 []
  refine V_aloadn 0 0 O dX5_says_0 rfl rfl ?_
  refine V_getI 1 O k25 fl_X5_36 dX5_says_1 ?_
  refine V_iconst 4 O dX5_says_4 ci_1 ?_
  refine V_icmp_ne 5 24 O dX5_says_5 rfl h (fun h => ?_) (fun h => ?_)
  · refine V_iconst 24 O dX5_says_24 ci_0 ?_
    exact V_zret0 25 O E dX5_says_25 h
  · refine V_aloadn 8 0 O dX5_says_8 rfl rfl ?_
    refine V_getI 9 O k25 fl_X5_22 dX5_says_9 ?_
    refine V_aloadn 12 0 O dX5_says_12 rfl rfl ?_
    refine V_getI 13 O k25 fl_X5_122 dX5_says_13 ?_
    refine V_isub 16 O dX5_says_16 ?_
    refine V_aloadn 17 1 O dX5_says_17 rfl rfl ?_
    refine V_strlen 18 [.int ((σ 25 4) - (σ 25 6))] O hx1 (Nat.le_of_ble_eq_true rfl) (Nat.le_of_ble_eq_true rfl) dX5_says_18 (Nat.le_of_ble_eq_true rfl) ?_
    refine V_icmp_eq 21 26 O dX5_says_21 rfl h (fun h => ?_) (fun h => ?_)
    · refine V_iconst 26 O dX5_says_26 ci_0 ?_
      refine V_istoren 27 [1, 2, 0] [(0, .ref (zad G 25)), (1, .ref (G.2.2.2.2.1 x1)), (2, .int (0 : Int32))] O dX5_says_27 rfl (Nat.le_of_ble_eq_true rfl) rfl ?_
      exact V_sub [0, 1, 2] rfl (bl_X5_says_28 O E n  n x1 (0 : Int32) σ hx1 h)
    · refine V_iconst 24 O dX5_says_24 ci_0 ?_
      exact V_zret0 25 O E dX5_says_25 h
-- ==== Reader.fail(I)Z
def s_X5_fail (n : Nat) (x1 : Int32) (σ : Sg) : Option (Int32 × Sg) := lt (up2 σ 25 3 x1) fun σ1 => lt (up2 σ1 25 1 (σ1 25 6)) fun σ2 => some ((0 : Int32), σ2)
set_option maxRecDepth 20000 in
theorem C_X5_fail {l : Launch} {G : zG} {n : Nat} {x1 : Int32} {σ : Sg} {r : Int32} {τ : Sg} (h : s_X5_fail n x1 σ = some (r, τ)) : zM l G 0 yX5_fail (.code yX5_fail cX5_fail 2 (some (.boolean))) [.ref (zad G 25), .int x1] σ (some (.int r)) τ := by
  refine zM_of (by decide) (Nat.le_of_ble_eq_true rfl) (fun x O E => ?_)
  have O : zO G x cX5_fail RX5 0 0 2 := O
  unfold s_X5_fail at h
  show V G x σ [(0, .ref (zad G 25)), (1, .int x1)] 0 []
  refine V_aloadn 0 0 O dX5_fail_0 rfl rfl ?_
  refine V_iloadn 1 1 O dX5_fail_1 rfl rfl ?_
  refine V_put 2 O k25 fp_X5_25 dX5_fail_2 h (fun σ1 h => ?_)
  refine V_aloadn 5 0 O dX5_fail_5 rfl rfl ?_
  refine V_aloadn 6 0 O dX5_fail_6 rfl rfl ?_
  refine V_getI 7 O k25 fl_X5_122 dX5_fail_7 ?_
  refine V_put 10 O k25 fp_X5_9 dX5_fail_10 h (fun σ2 h => ?_)
  refine V_iconst 13 O dX5_fail_13 ci_0 ?_
  exact V_zret0 14 O E dX5_fail_14 h
-- ==== Reader.keyNumber()I
def s_X5_keyNumber (n : Nat) (σ : Sg) : Option (Int32 × Sg) := bd (s_X5_says n 5 σ) fun r2 σ1 => if r2 = 0 then (bd (s_X5_says n 6 σ1) fun r4 σ3 => if r4 = 0 then (bd (s_X5_says n 7 σ3) fun r6 σ5 => if r6 = 0 then (bd (s_X5_says n 8 σ5) fun r8 σ7 => if r8 = 0 then (some ((-1 : Int32), σ7)) else (some ((3 : Int32), σ7))) else (some ((2 : Int32), σ5))) else (some ((1 : Int32), σ3))) else (some ((0 : Int32), σ1))
set_option maxRecDepth 20000 in
theorem C_X5_keyNumber {l : Launch} {G : zG} {n : Nat} {σ : Sg} {r : Int32} {τ : Sg} (h : s_X5_keyNumber n σ = some (r, τ)) : zM l G 6 yX5_keyNumber (.code yX5_keyNumber cX5_keyNumber 1 (some (.int))) [.ref (zad G 25)] σ (some (.int r)) τ := by
  refine zM_of (by decide) (Nat.le_of_ble_eq_true rfl) (fun x O E => ?_)
  have O : zO G x cX5_keyNumber RX5 6 240 1 := O
  unfold s_X5_keyNumber at h
  show V G x σ [(0, .ref (zad G 25))] 0 []
  refine V_aloadn 0 0 O dX5_keyNumber_0 rfl rfl ?_
  refine V_ldcS 1 (q := 5) O dX5_keyNumber_1 rfl ?_
  obtain ⟨r2, σ1, g, h⟩ := bd_of h
  refine V_callVi 3 [.ref (G.2.2.2.2.1 5)] [] O mf_X5_says lk_X5_45 k25 dX5_keyNumber_3 rfl rfl (Nat.le_of_ble_eq_true rfl) ⟨(Nat.le_of_ble_eq_true rfl), (Nat.le_of_ble_eq_true rfl)⟩ (fun l => C_X5_says (Nat.le_of_ble_eq_true rfl) g) ?_
  refine V_if_eq 6 11 O dX5_keyNumber_6 rfl h (fun h => ?_) (fun h => ?_)
  · refine V_aloadn 11 0 O dX5_keyNumber_11 rfl rfl ?_
    refine V_ldcS 12 (q := 6) O dX5_keyNumber_12 rfl ?_
    obtain ⟨r4, σ3, g, h⟩ := bd_of h
    refine V_callVi 14 [.ref (G.2.2.2.2.1 6)] [] O mf_X5_says lk_X5_45 k25 dX5_keyNumber_14 rfl rfl (Nat.le_of_ble_eq_true rfl) ⟨(Nat.le_of_ble_eq_true rfl), (Nat.le_of_ble_eq_true rfl)⟩ (fun l => C_X5_says (Nat.le_of_ble_eq_true rfl) g) ?_
    refine V_if_eq 17 22 O dX5_keyNumber_17 rfl h (fun h => ?_) (fun h => ?_)
    · refine V_aloadn 22 0 O dX5_keyNumber_22 rfl rfl ?_
      refine V_ldcS 23 (q := 7) O dX5_keyNumber_23 rfl ?_
      obtain ⟨r6, σ5, g, h⟩ := bd_of h
      refine V_callVi 25 [.ref (G.2.2.2.2.1 7)] [] O mf_X5_says lk_X5_45 k25 dX5_keyNumber_25 rfl rfl (Nat.le_of_ble_eq_true rfl) ⟨(Nat.le_of_ble_eq_true rfl), (Nat.le_of_ble_eq_true rfl)⟩ (fun l => C_X5_says (Nat.le_of_ble_eq_true rfl) g) ?_
      refine V_if_eq 28 33 O dX5_keyNumber_28 rfl h (fun h => ?_) (fun h => ?_)
      · refine V_aloadn 33 0 O dX5_keyNumber_33 rfl rfl ?_
        refine V_ldcS 34 (q := 8) O dX5_keyNumber_34 rfl ?_
        obtain ⟨r8, σ7, g, h⟩ := bd_of h
        refine V_callVi 36 [.ref (G.2.2.2.2.1 8)] [] O mf_X5_says lk_X5_45 k25 dX5_keyNumber_36 rfl rfl (Nat.le_of_ble_eq_true rfl) ⟨(Nat.le_of_ble_eq_true rfl), (Nat.le_of_ble_eq_true rfl)⟩ (fun l => C_X5_says (Nat.le_of_ble_eq_true rfl) g) ?_
        refine V_if_eq 39 46 O dX5_keyNumber_39 rfl h (fun h => ?_) (fun h => ?_)
        · refine V_iconst 46 O dX5_keyNumber_46 ci_m1 ?_
          exact V_iret 47 O E dX5_keyNumber_47 h
        · refine V_iconst 42 O dX5_keyNumber_42 ci_3 ?_
          refine V_goto 43 47 O dX5_keyNumber_43 rfl ?_
          exact V_iret 47 O E dX5_keyNumber_47 h
      · refine V_iconst 31 O dX5_keyNumber_31 ci_2 ?_
        exact V_iret 32 O E dX5_keyNumber_32 h
    · refine V_iconst 20 O dX5_keyNumber_20 ci_1 ?_
      exact V_iret 21 O E dX5_keyNumber_21 h
  · refine V_iconst 9 O dX5_keyNumber_9 ci_0 ?_
    exact V_iret 10 O E dX5_keyNumber_10 h
-- ==== Reader.keys(LWaterTown$Law;)Z
def s_X5_keys_6b (n : Nat) (rc6 : Nat → Int32 → Sg → Option (Int32 × Sg)) (x1 : Nat) (x2 : Int32) (σ : Sg) : Option (Int32 × Sg) := if (4 : Int32) < x2 then (some ((0 : Int32), σ)) else (bdv (s_X5_next n σ) fun σ2 => bd (s_X5_keyNumber n σ2) fun r4 σ3 => if r4 = (-1 : Int32) then (bd (s_X5_fail n (1 : Int32) σ3) fun r14 σ13 => bck r14 (some (r14, σ13))) else (bd (s_X2_hasKey n x1 r4 σ3) fun r6 σ5 => if r6 = 0 then (bdv (s_X2_addKey n x1 r4 σ5) fun σ7 => bdv (s_X5_next n σ7) fun σ8 => if (σ8 25 5) = (4 : Int32) then (some ((1 : Int32), σ8)) else (if (σ8 25 5) = (3 : Int32) then (rc6 x1 (x2 + (1 : Int32)) σ8) else (bd (s_X5_fail n (1 : Int32) σ8) fun r10 σ9 => bck r10 (some (r10, σ9))))) else (bd (s_X5_fail n (4 : Int32) σ5) fun r12 σ11 => bck r12 (some (r12, σ11)))))
def s_X5_keys_6 (n : Nat) : Nat → Nat → Int32 → Sg → Option (Int32 × Sg)
  | 0 => fun _ _ _ => none
  | k + 1 => s_X5_keys_6b n (s_X5_keys_6 n k)
def s_X5_keys (n : Nat) (x1 : Nat) (σ : Sg) : Option (Int32 × Sg) := bdv (s_X2_forgetKeys n x1 σ) fun σ1 => s_X5_keys_6 n n x1 (0 : Int32) σ1
set_option maxRecDepth 20000 in
theorem b_X5_keys_6 {G : zG} {x : zX} {r : Int32} {τ : Sg} (O : zO G x cX5_keys RX5 7 280 4) (E : zE G x (some (.boolean)) (some (.int r)) τ) (n : Nat) (rc6 : Nat → Int32 → Sg → Option (Int32 × Sg)) (H6 : ∀ (x1 : Nat) (x2 : Int32) (σ : Sg), zLaw x1 → rc6 x1 x2 σ = some (r, τ) → V G x σ [(0, .ref (zad G 25)), (1, .ref (zad G x1)), (2, .int x2)] 6 []) (x1 : Nat) (x2 : Int32) (σ : Sg) (hx1 : zLaw x1) (h : s_X5_keys_6b n rc6 x1 x2 σ = some (r, τ)) : V G x σ [(0, .ref (zad G 25)), (1, .ref (zad G x1)), (2, .int x2)] 6 [] := by
  unfold s_X5_keys_6b at h
  refine V_iloadn 6 2 O dX5_keys_6 rfl rfl ?_
  refine V_iconst 7 O dX5_keys_7 ci_4 ?_
  refine V_icmp_gt 8 84 O dX5_keys_8 rfl h (fun h => ?_) (fun h => ?_)
  · refine V_iconst 84 O dX5_keys_84 ci_0 ?_
    exact V_zret0 85 O E dX5_keys_85 h
  · refine V_aloadn 11 0 O dX5_keys_11 rfl rfl ?_
    obtain ⟨σ2, g, h⟩ := bdv_of h
    refine V_callVv 12 [] [] O mf_X5_next lk_X5_33 k25 dX5_keys_12 rfl rfl (Nat.le_of_ble_eq_true rfl) ⟨(Nat.le_of_ble_eq_true rfl), (Nat.le_of_ble_eq_true rfl)⟩ (fun l => C_X5_next  g) ?_
    refine V_aloadn 15 0 O dX5_keys_15 rfl rfl ?_
    obtain ⟨r4, σ3, g, h⟩ := bd_of h
    refine V_callVi 16 [] [] O mf_X5_keyNumber lk_X5_78 k25 dX5_keys_16 rfl rfl (Nat.le_of_ble_eq_true rfl) ⟨(Nat.le_of_ble_eq_true rfl), (Nat.le_of_ble_eq_true rfl)⟩ (fun l => C_X5_keyNumber  g) ?_
    refine V_istoren 19 [1, 2, 3, 0] [(0, .ref (zad G 25)), (1, .ref (zad G x1)), (2, .int x2), (3, .int r4)] O dX5_keys_19 rfl (Nat.le_of_ble_eq_true rfl) rfl ?_
    refine V_iloadn 20 3 O dX5_keys_20 rfl rfl ?_
    refine V_iconst 21 O dX5_keys_21 ci_m1 ?_
    refine V_icmp_ne 22 31 O dX5_keys_22 rfl h (fun h => ?_) (fun h => ?_)
    · refine V_aloadn 31 1 O dX5_keys_31 rfl rfl ?_
      refine V_iloadn 32 3 O dX5_keys_32 rfl rfl ?_
      obtain ⟨r6, σ5, g, h⟩ := bd_of h
      refine V_callVi 33 [.int r4] [] O mf_X2_hasKey lk_X5_82 (zLaw_k hx1) dX5_keys_33 rfl rfl (Nat.le_of_ble_eq_true rfl) ⟨(Nat.le_of_ble_eq_true rfl), (Nat.le_of_ble_eq_true rfl)⟩ (fun l => C_X2_hasKey hx1 g) ?_
      refine V_if_eq 36 45 O dX5_keys_36 rfl h (fun h => ?_) (fun h => ?_)
      · refine V_aloadn 45 1 O dX5_keys_45 rfl rfl ?_
        refine V_iloadn 46 3 O dX5_keys_46 rfl rfl ?_
        obtain ⟨σ7, g, h⟩ := bdv_of h
        refine V_callVv 47 [.int r4] [] O mf_X2_addKey lk_X5_85 (zLaw_k hx1) dX5_keys_47 rfl rfl (Nat.le_of_ble_eq_true rfl) ⟨(Nat.le_of_ble_eq_true rfl), (Nat.le_of_ble_eq_true rfl)⟩ (fun l => C_X2_addKey hx1 g) ?_
        refine V_aloadn 50 0 O dX5_keys_50 rfl rfl ?_
        obtain ⟨σ8, g, h⟩ := bdv_of h
        refine V_callVv 51 [] [] O mf_X5_next lk_X5_33 k25 dX5_keys_51 rfl rfl (Nat.le_of_ble_eq_true rfl) ⟨(Nat.le_of_ble_eq_true rfl), (Nat.le_of_ble_eq_true rfl)⟩ (fun l => C_X5_next  g) ?_
        refine V_aloadn 54 0 O dX5_keys_54 rfl rfl ?_
        refine V_getI 55 O k25 fl_X5_36 dX5_keys_55 ?_
        refine V_iconst 58 O dX5_keys_58 ci_4 ?_
        refine V_icmp_ne 59 64 O dX5_keys_59 rfl h (fun h => ?_) (fun h => ?_)
        · refine V_aloadn 64 0 O dX5_keys_64 rfl rfl ?_
          refine V_getI 65 O k25 fl_X5_36 dX5_keys_65 ?_
          refine V_iconst 68 O dX5_keys_68 ci_3 ?_
          refine V_icmp_eq 69 78 O dX5_keys_69 rfl h (fun h => ?_) (fun h => ?_)
          · refine V_iinc 78 2 [1, 2, 0, 3] [(0, .ref (zad G 25)), (1, .ref (zad G x1)), (2, .int (x2 + (1 : Int32))), (3, .int r4)] O dX5_keys_78 rfl ci_1 (Nat.le_of_ble_eq_true rfl) rfl ?_
            refine V_goto 81 6 O dX5_keys_81 rfl ?_
            exact V_sub [0, 1, 2] rfl (H6 x1 (x2 + (1 : Int32)) σ8 hx1 h)
          · refine V_aloadn 72 0 O dX5_keys_72 rfl rfl ?_
            refine V_iconst 73 O dX5_keys_73 ci_1 ?_
            obtain ⟨r10, σ9, g, h⟩ := bd_of h
            refine V_callVi 74 [.int (1 : Int32)] [] O mf_X5_fail lk_X5_57 k25 dX5_keys_74 rfl rfl (Nat.le_of_ble_eq_true rfl) ⟨(Nat.le_of_ble_eq_true rfl), (Nat.le_of_ble_eq_true rfl)⟩ (fun l => C_X5_fail  g) ?_
            exact V_zret 77 O E dX5_keys_77 h
        · refine V_iconst 62 O dX5_keys_62 ci_1 ?_
          exact V_zret1 63 O E dX5_keys_63 h
      · refine V_aloadn 39 0 O dX5_keys_39 rfl rfl ?_
        refine V_iconst 40 O dX5_keys_40 ci_4 ?_
        obtain ⟨r12, σ11, g, h⟩ := bd_of h
        refine V_callVi 41 [.int (4 : Int32)] [] O mf_X5_fail lk_X5_57 k25 dX5_keys_41 rfl rfl (Nat.le_of_ble_eq_true rfl) ⟨(Nat.le_of_ble_eq_true rfl), (Nat.le_of_ble_eq_true rfl)⟩ (fun l => C_X5_fail  g) ?_
        exact V_zret 44 O E dX5_keys_44 h
    · refine V_aloadn 25 0 O dX5_keys_25 rfl rfl ?_
      refine V_iconst 26 O dX5_keys_26 ci_1 ?_
      obtain ⟨r14, σ13, g, h⟩ := bd_of h
      refine V_callVi 27 [.int (1 : Int32)] [] O mf_X5_fail lk_X5_57 k25 dX5_keys_27 rfl rfl (Nat.le_of_ble_eq_true rfl) ⟨(Nat.le_of_ble_eq_true rfl), (Nat.le_of_ble_eq_true rfl)⟩ (fun l => C_X5_fail  g) ?_
      exact V_zret 30 O E dX5_keys_30 h
theorem bl_X5_keys_6 {G : zG} {x : zX} {r : Int32} {τ : Sg} (O : zO G x cX5_keys RX5 7 280 4) (E : zE G x (some (.boolean)) (some (.int r)) τ) (n : Nat) : ∀ (k : Nat) (x1 : Nat) (x2 : Int32) (σ : Sg), zLaw x1 → s_X5_keys_6 n k x1 x2 σ = some (r, τ) → V G x σ [(0, .ref (zad G 25)), (1, .ref (zad G x1)), (2, .int x2)] 6 [] := by
  intro k
  induction k with
  | zero => intro x1 x2 σ hx1 h; cases h
  | succ k ih => intro x1 x2 σ hx1 h; exact b_X5_keys_6 O E n  (s_X5_keys_6 n  k) ih x1 x2 σ hx1 h
set_option maxRecDepth 20000 in
theorem C_X5_keys {l : Launch} {G : zG} {n : Nat} {x1 : Nat} {σ : Sg} {r : Int32} {τ : Sg} (hx1 : zLaw x1) (h : s_X5_keys n x1 σ = some (r, τ)) : zM l G 7 yX5_keys (.code yX5_keys cX5_keys 4 (some (.boolean))) [.ref (zad G 25), .ref (zad G x1)] σ (some (.int r)) τ := by
  refine zM_of (by decide) (Nat.le_of_ble_eq_true rfl) (fun x O E => ?_)
  have O : zO G x cX5_keys RX5 7 280 4 := O
  unfold s_X5_keys at h
  show V G x σ [(0, .ref (zad G 25)), (1, .ref (zad G x1))] 0 []
  refine V_aloadn 0 1 O dX5_keys_0 rfl rfl ?_
  obtain ⟨σ1, g, h⟩ := bdv_of h
  refine V_callVv 1 [] [] O mf_X2_forgetKeys lk_X5_75 (zLaw_k hx1) dX5_keys_1 rfl rfl (Nat.le_of_ble_eq_true rfl) ⟨(Nat.le_of_ble_eq_true rfl), (Nat.le_of_ble_eq_true rfl)⟩ (fun l => C_X2_forgetKeys hx1 g) ?_
  refine V_iconst 4 O dX5_keys_4 ci_0 ?_
  refine V_istoren 5 [1, 2, 0] [(0, .ref (zad G 25)), (1, .ref (zad G x1)), (2, .int (0 : Int32))] O dX5_keys_5 rfl (Nat.le_of_ble_eq_true rfl) rfl ?_
  exact V_sub [0, 1, 2] rfl (bl_X5_keys_6 O E n  n x1 (0 : Int32) σ1 hx1 h)
-- ==== WaterTown.isOutside(III)Z
def s_X11_isOutside (n : Nat) (x0 : Int32) (x1 : Int32) (x2 : Int32) (σ : Sg) : Option (Int32 × Sg) := if x0 < x1 then (some ((1 : Int32), σ)) else (if x0 ≤ x2 then (some ((0 : Int32), σ)) else (some ((1 : Int32), σ)))
set_option maxRecDepth 20000 in
theorem C_X11_isOutside {l : Launch} {G : zG} {n : Nat} {x0 : Int32} {x1 : Int32} {x2 : Int32} {σ : Sg} {r : Int32} {τ : Sg} (h : s_X11_isOutside n x0 x1 x2 σ = some (r, τ)) : zM l G 0 yX11_isOutside (.code yX11_isOutside cX11_isOutside 3 (some (.boolean))) [.int x0, .int x1, .int x2] σ (some (.int r)) τ := by
  refine zM_of (by decide) (Nat.le_of_ble_eq_true rfl) (fun x O E => ?_)
  have O : zO G x cX11_isOutside RX11 0 0 3 := O
  unfold s_X11_isOutside at h
  show V G x σ [(0, .int x0), (1, .int x1), (2, .int x2)] 0 []
  refine V_iloadn 0 0 O dX11_isOutside_0 rfl rfl ?_
  refine V_iloadn 1 1 O dX11_isOutside_1 rfl rfl ?_
  refine V_icmp_lt 2 10 O dX11_isOutside_2 rfl h (fun h => ?_) (fun h => ?_)
  · refine V_iconst 10 O dX11_isOutside_10 ci_1 ?_
    refine V_goto 11 15 O dX11_isOutside_11 rfl ?_
    exact V_zret1 15 O E dX11_isOutside_15 h
  · refine V_iloadn 5 0 O dX11_isOutside_5 rfl rfl ?_
    refine V_iloadn 6 2 O dX11_isOutside_6 rfl rfl ?_
    refine V_icmp_le 7 14 O dX11_isOutside_7 rfl h (fun h => ?_) (fun h => ?_)
    · refine V_iconst 14 O dX11_isOutside_14 ci_0 ?_
      exact V_zret0 15 O E dX11_isOutside_15 h
    · refine V_iconst 10 O dX11_isOutside_10 ci_1 ?_
      refine V_goto 11 15 O dX11_isOutside_11 rfl ?_
      exact V_zret1 15 O E dX11_isOutside_15 h
-- ==== Reader.number(II)Z
def s_X5_number_43 (n : Nat) (σ : Sg) : Option (Int32 × Sg) := bd (s_X5_fail n (2 : Int32) σ) fun r7 σ6 => bck r7 (some (r7, σ6))
def s_X5_number (n : Nat) (x1 : Int32) (x2 : Int32) (σ : Sg) : Option (Int32 × Sg) := bdv (s_X5_next n σ) fun σ1 => if (σ1 25 5) = (2 : Int32) then (if (3 : Int32) < ((σ1 25 4) - (σ1 25 6)) then (s_X5_number_43 n σ1) else (bd (s_X11_isOutside n (σ1 25 7) x1 x2 σ1) fun r3 σ2 => if r3 = 0 then (some ((1 : Int32), σ2)) else (s_X5_number_43 n σ2))) else (bd (s_X5_fail n (1 : Int32) σ1) fun r5 σ4 => bck r5 (some (r5, σ4)))
set_option maxRecDepth 20000 in
theorem b_X5_number_43 {G : zG} {x : zX} {r : Int32} {τ : Sg} (O : zO G x cX5_number RX5 2 80 3) (E : zE G x (some (.boolean)) (some (.int r)) τ) (n : Nat) (σ : Sg) (h : s_X5_number_43 n σ = some (r, τ)) : V G x σ [(0, .ref (zad G 25))] 43 [] := by
  unfold s_X5_number_43 at h
  refine V_aloadn 43 0 O dX5_number_43 rfl rfl ?_
  refine V_iconst 44 O dX5_number_44 ci_2 ?_
  obtain ⟨r7, σ6, g, h⟩ := bd_of h
  refine V_callVi 45 [.int (2 : Int32)] [] O mf_X5_fail lk_X5_57 k25 dX5_number_45 rfl rfl (Nat.le_of_ble_eq_true rfl) ⟨(Nat.le_of_ble_eq_true rfl), (Nat.le_of_ble_eq_true rfl)⟩ (fun l => C_X5_fail  g) ?_
  exact V_zret 48 O E dX5_number_48 h
set_option maxRecDepth 20000 in
theorem C_X5_number {l : Launch} {G : zG} {n : Nat} {x1 : Int32} {x2 : Int32} {σ : Sg} {r : Int32} {τ : Sg} (h : s_X5_number n x1 x2 σ = some (r, τ)) : zM l G 2 yX5_number (.code yX5_number cX5_number 3 (some (.boolean))) [.ref (zad G 25), .int x1, .int x2] σ (some (.int r)) τ := by
  refine zM_of (by decide) (Nat.le_of_ble_eq_true rfl) (fun x O E => ?_)
  have O : zO G x cX5_number RX5 2 80 3 := O
  unfold s_X5_number at h
  show V G x σ [(0, .ref (zad G 25)), (1, .int x1), (2, .int x2)] 0 []
  refine V_aloadn 0 0 O dX5_number_0 rfl rfl ?_
  obtain ⟨σ1, g, h⟩ := bdv_of h
  refine V_callVv 1 [] [] O mf_X5_next lk_X5_33 k25 dX5_number_1 rfl rfl (Nat.le_of_ble_eq_true rfl) ⟨(Nat.le_of_ble_eq_true rfl), (Nat.le_of_ble_eq_true rfl)⟩ (fun l => C_X5_next  g) ?_
  refine V_aloadn 4 0 O dX5_number_4 rfl rfl ?_
  refine V_getI 5 O k25 fl_X5_36 dX5_number_5 ?_
  refine V_iconst 8 O dX5_number_8 ci_2 ?_
  refine V_icmp_eq 9 18 O dX5_number_9 rfl h (fun h => ?_) (fun h => ?_)
  · refine V_aloadn 18 0 O dX5_number_18 rfl rfl ?_
    refine V_getI 19 O k25 fl_X5_22 dX5_number_19 ?_
    refine V_aloadn 22 0 O dX5_number_22 rfl rfl ?_
    refine V_getI 23 O k25 fl_X5_122 dX5_number_23 ?_
    refine V_isub 26 O dX5_number_26 ?_
    refine V_iconst 27 O dX5_number_27 ci_3 ?_
    refine V_icmp_gt 28 43 O dX5_number_28 rfl h (fun h => ?_) (fun h => ?_)
    · exact V_sub [0] rfl (b_X5_number_43 O E n   σ1  h)
    · refine V_aloadn 31 0 O dX5_number_31 rfl rfl ?_
      refine V_getI 32 O k25 fl_X5_101 dX5_number_32 ?_
      refine V_iloadn 35 1 O dX5_number_35 rfl rfl ?_
      refine V_iloadn 36 2 O dX5_number_36 rfl rfl ?_
      obtain ⟨r3, σ2, g, h⟩ := bd_of h
      refine V_callSNi 37 [.int (σ1 25 7), .int x1, .int x2] [] O mf_X11_isOutside dX5_number_37 rfl rfl (Nat.le_of_ble_eq_true rfl) ⟨(Nat.le_of_ble_eq_true rfl), (Nat.le_of_ble_eq_true rfl)⟩ (fun l => C_X11_isOutside  g) ?_
      refine V_if_eq 40 49 O dX5_number_40 rfl h (fun h => ?_) (fun h => ?_)
      · refine V_iconst 49 O dX5_number_49 ci_1 ?_
        exact V_zret1 50 O E dX5_number_50 h
      · exact V_sub [0] rfl (b_X5_number_43 O E n   σ2  h)
  · refine V_aloadn 12 0 O dX5_number_12 rfl rfl ?_
    refine V_iconst 13 O dX5_number_13 ci_1 ?_
    obtain ⟨r5, σ4, g, h⟩ := bd_of h
    refine V_callVi 14 [.int (1 : Int32)] [] O mf_X5_fail lk_X5_57 k25 dX5_number_14 rfl rfl (Nat.le_of_ble_eq_true rfl) ⟨(Nat.le_of_ble_eq_true rfl), (Nat.le_of_ble_eq_true rfl)⟩ (fun l => C_X5_fail  g) ?_
    exact V_zret 17 O E dX5_number_17 h
-- ==== Reader.semicolon()Z
def s_X5_semicolon (n : Nat) (σ : Sg) : Option (Int32 × Sg) := bdv (s_X5_next n σ) fun σ1 => if (σ1 25 5) = (4 : Int32) then (some ((1 : Int32), σ1)) else (bd (s_X5_fail n (1 : Int32) σ1) fun r3 σ2 => if r3 = 0 then (some ((0 : Int32), σ2)) else (some ((1 : Int32), σ2)))
set_option maxRecDepth 20000 in
theorem C_X5_semicolon {l : Launch} {G : zG} {n : Nat} {σ : Sg} {r : Int32} {τ : Sg} (h : s_X5_semicolon n σ = some (r, τ)) : zM l G 2 yX5_semicolon (.code yX5_semicolon cX5_semicolon 1 (some (.boolean))) [.ref (zad G 25)] σ (some (.int r)) τ := by
  refine zM_of (by decide) (Nat.le_of_ble_eq_true rfl) (fun x O E => ?_)
  have O : zO G x cX5_semicolon RX5 2 80 1 := O
  unfold s_X5_semicolon at h
  show V G x σ [(0, .ref (zad G 25))] 0 []
  refine V_aloadn 0 0 O dX5_semicolon_0 rfl rfl ?_
  obtain ⟨σ1, g, h⟩ := bdv_of h
  refine V_callVv 1 [] [] O mf_X5_next lk_X5_33 k25 dX5_semicolon_1 rfl rfl (Nat.le_of_ble_eq_true rfl) ⟨(Nat.le_of_ble_eq_true rfl), (Nat.le_of_ble_eq_true rfl)⟩ (fun l => C_X5_next  g) ?_
  refine V_aloadn 4 0 O dX5_semicolon_4 rfl rfl ?_
  refine V_getI 5 O k25 fl_X5_36 dX5_semicolon_5 ?_
  refine V_iconst 8 O dX5_semicolon_8 ci_4 ?_
  refine V_icmp_eq 9 20 O dX5_semicolon_9 rfl h (fun h => ?_) (fun h => ?_)
  · refine V_iconst 20 O dX5_semicolon_20 ci_1 ?_
    refine V_goto 21 25 O dX5_semicolon_21 rfl ?_
    exact V_zret1 25 O E dX5_semicolon_25 h
  · refine V_aloadn 12 0 O dX5_semicolon_12 rfl rfl ?_
    refine V_iconst 13 O dX5_semicolon_13 ci_1 ?_
    obtain ⟨r3, σ2, g, h⟩ := bd_of h
    refine V_callVi 14 [.int (1 : Int32)] [] O mf_X5_fail lk_X5_57 k25 dX5_semicolon_14 rfl rfl (Nat.le_of_ble_eq_true rfl) ⟨(Nat.le_of_ble_eq_true rfl), (Nat.le_of_ble_eq_true rfl)⟩ (fun l => C_X5_fail  g) ?_
    refine V_if_eq 17 24 O dX5_semicolon_17 rfl h (fun h => ?_) (fun h => ?_)
    · refine V_iconst 24 O dX5_semicolon_24 ci_0 ?_
      exact V_zret0 25 O E dX5_semicolon_25 h
    · refine V_iconst 20 O dX5_semicolon_20 ci_1 ?_
      refine V_goto 21 25 O dX5_semicolon_21 rfl ?_
      exact V_zret1 25 O E dX5_semicolon_25 h
-- ==== Reader.turnHours(LWaterTown$Law;)Z
def s_X5_turnHours (n : Nat) (x1 : Nat) (σ : Sg) : Option (Int32 × Sg) := bd (s_X5_number n (0 : Int32) (23 : Int32) σ) fun r2 σ1 => if r2 = 0 then (some ((0 : Int32), σ1)) else (lt (up2 σ1 x1 2 (σ1 25 7)) fun σ3 => bdv (s_X5_next n σ3) fun σ4 => bd (s_X5_says n 9 σ4) fun r6 σ5 => if r6 = 0 then (bd (s_X5_fail n (1 : Int32) σ5) fun r13 σ12 => bck r13 (some (r13, σ12))) else (bd (s_X5_number n (σ5 x1 2) (23 : Int32) σ5) fun r8 σ7 => if r8 = 0 then (some ((0 : Int32), σ7)) else (lt (up2 σ7 x1 3 (σ7 25 7)) fun σ9 => bd (s_X5_semicolon n σ9) fun r11 σ10 => bck r11 (some (r11, σ10)))))
set_option maxRecDepth 20000 in
theorem C_X5_turnHours {l : Launch} {G : zG} {n : Nat} {x1 : Nat} {σ : Sg} {r : Int32} {τ : Sg} (hx1 : zLaw x1) (h : s_X5_turnHours n x1 σ = some (r, τ)) : zM l G 6 yX5_turnHours (.code yX5_turnHours cX5_turnHours 2 (some (.boolean))) [.ref (zad G 25), .ref (zad G x1)] σ (some (.int r)) τ := by
  refine zM_of (by decide) (Nat.le_of_ble_eq_true rfl) (fun x O E => ?_)
  have O : zO G x cX5_turnHours RX5 6 240 2 := O
  unfold s_X5_turnHours at h
  show V G x σ [(0, .ref (zad G 25)), (1, .ref (zad G x1))] 0 []
  refine V_aloadn 0 0 O dX5_turnHours_0 rfl rfl ?_
  refine V_iconst 1 O dX5_turnHours_1 ci_0 ?_
  refine V_bipush 2 O dX5_turnHours_2 cb_23 ?_
  obtain ⟨r2, σ1, g, h⟩ := bd_of h
  refine V_callVi 4 [.int (0 : Int32), .int (23 : Int32)] [] O mf_X5_number lk_X5_97 k25 dX5_turnHours_4 rfl rfl (Nat.le_of_ble_eq_true rfl) ⟨(Nat.le_of_ble_eq_true rfl), (Nat.le_of_ble_eq_true rfl)⟩ (fun l => C_X5_number  g) ?_
  refine V_if_ne 7 12 O dX5_turnHours_7 rfl h (fun h => ?_) (fun h => ?_)
  · refine V_aloadn 12 1 O dX5_turnHours_12 rfl rfl ?_
    refine V_aloadn 13 0 O dX5_turnHours_13 rfl rfl ?_
    refine V_getI 14 O k25 fl_X5_101 dX5_turnHours_14 ?_
    refine V_put 17 O (zLaw_k hx1) fp_X5_104 dX5_turnHours_17 h (fun σ3 h => ?_)
    refine V_aloadn 20 0 O dX5_turnHours_20 rfl rfl ?_
    obtain ⟨σ4, g, h⟩ := bdv_of h
    refine V_callVv 21 [] [] O mf_X5_next lk_X5_33 k25 dX5_turnHours_21 rfl rfl (Nat.le_of_ble_eq_true rfl) ⟨(Nat.le_of_ble_eq_true rfl), (Nat.le_of_ble_eq_true rfl)⟩ (fun l => C_X5_next  g) ?_
    refine V_aloadn 24 0 O dX5_turnHours_24 rfl rfl ?_
    refine V_ldcS 25 (q := 9) O dX5_turnHours_25 rfl ?_
    obtain ⟨r6, σ5, g, h⟩ := bd_of h
    refine V_callVi 27 [.ref (G.2.2.2.2.1 9)] [] O mf_X5_says lk_X5_45 k25 dX5_turnHours_27 rfl rfl (Nat.le_of_ble_eq_true rfl) ⟨(Nat.le_of_ble_eq_true rfl), (Nat.le_of_ble_eq_true rfl)⟩ (fun l => C_X5_says (Nat.le_of_ble_eq_true rfl) g) ?_
    refine V_if_ne 30 39 O dX5_turnHours_30 rfl h (fun h => ?_) (fun h => ?_)
    · refine V_aloadn 39 0 O dX5_turnHours_39 rfl rfl ?_
      refine V_aloadn 40 1 O dX5_turnHours_40 rfl rfl ?_
      refine V_getI 41 O (zLaw_k hx1) fl_X5_104 dX5_turnHours_41 ?_
      refine V_bipush 44 O dX5_turnHours_44 cb_23 ?_
      obtain ⟨r8, σ7, g, h⟩ := bd_of h
      refine V_callVi 46 [.int (σ5 x1 2), .int (23 : Int32)] [] O mf_X5_number lk_X5_97 k25 dX5_turnHours_46 rfl rfl (Nat.le_of_ble_eq_true rfl) ⟨(Nat.le_of_ble_eq_true rfl), (Nat.le_of_ble_eq_true rfl)⟩ (fun l => C_X5_number  g) ?_
      refine V_if_ne 49 54 O dX5_turnHours_49 rfl h (fun h => ?_) (fun h => ?_)
      · refine V_aloadn 54 1 O dX5_turnHours_54 rfl rfl ?_
        refine V_aloadn 55 0 O dX5_turnHours_55 rfl rfl ?_
        refine V_getI 56 O k25 fl_X5_101 dX5_turnHours_56 ?_
        refine V_put 59 O (zLaw_k hx1) fp_X5_109 dX5_turnHours_59 h (fun σ9 h => ?_)
        refine V_aloadn 62 0 O dX5_turnHours_62 rfl rfl ?_
        obtain ⟨r11, σ10, g, h⟩ := bd_of h
        refine V_callVi 63 [] [] O mf_X5_semicolon lk_X5_111 k25 dX5_turnHours_63 rfl rfl (Nat.le_of_ble_eq_true rfl) ⟨(Nat.le_of_ble_eq_true rfl), (Nat.le_of_ble_eq_true rfl)⟩ (fun l => C_X5_semicolon  g) ?_
        exact V_zret 66 O E dX5_turnHours_66 h
      · refine V_iconst 52 O dX5_turnHours_52 ci_0 ?_
        exact V_zret0 53 O E dX5_turnHours_53 h
    · refine V_aloadn 33 0 O dX5_turnHours_33 rfl rfl ?_
      refine V_iconst 34 O dX5_turnHours_34 ci_1 ?_
      obtain ⟨r13, σ12, g, h⟩ := bd_of h
      refine V_callVi 35 [.int (1 : Int32)] [] O mf_X5_fail lk_X5_57 k25 dX5_turnHours_35 rfl rfl (Nat.le_of_ble_eq_true rfl) ⟨(Nat.le_of_ble_eq_true rfl), (Nat.le_of_ble_eq_true rfl)⟩ (fun l => C_X5_fail  g) ?_
      exact V_zret 38 O E dX5_turnHours_38 h
  · refine V_iconst 10 O dX5_turnHours_10 ci_0 ?_
    exact V_zret0 11 O E dX5_turnHours_11 h
-- ==== Reader.price(LWaterTown$Law;Z)Z
def s_X5_price_35 (n : Nat) (σ : Sg) : Option (Int32 × Sg) := bd (s_X5_semicolon n σ) fun r6 σ5 => bck r6 (some (r6, σ5))
def s_X5_price (n : Nat) (x1 : Nat) (x2 : Int32) (σ : Sg) : Option (Int32 × Sg) := bd (s_X5_number n (0 : Int32) (99 : Int32) σ) fun r2 σ1 => if r2 = 0 then (some ((0 : Int32), σ1)) else (if x2 = 0 then (lt (up2 σ1 x1 4 (σ1 25 7)) fun σ3 => s_X5_price_35 n σ3) else (lt (up2 σ1 x1 5 (σ1 25 7)) fun σ4 => s_X5_price_35 n σ4))
set_option maxRecDepth 20000 in
theorem b_X5_price_35 {G : zG} {x : zX} {r : Int32} {τ : Sg} (O : zO G x cX5_price RX5 3 120 3) (E : zE G x (some (.boolean)) (some (.int r)) τ) (n : Nat) (σ : Sg) (h : s_X5_price_35 n σ = some (r, τ)) : V G x σ [(0, .ref (zad G 25))] 35 [] := by
  unfold s_X5_price_35 at h
  refine V_aloadn 35 0 O dX5_price_35 rfl rfl ?_
  obtain ⟨r6, σ5, g, h⟩ := bd_of h
  refine V_callVi 36 [] [] O mf_X5_semicolon lk_X5_111 k25 dX5_price_36 rfl rfl (Nat.le_of_ble_eq_true rfl) ⟨(Nat.le_of_ble_eq_true rfl), (Nat.le_of_ble_eq_true rfl)⟩ (fun l => C_X5_semicolon  g) ?_
  exact V_zret 39 O E dX5_price_39 h
set_option maxRecDepth 20000 in
theorem C_X5_price {l : Launch} {G : zG} {n : Nat} {x1 : Nat} {x2 : Int32} {σ : Sg} {r : Int32} {τ : Sg} (hx1 : zLaw x1) (h : s_X5_price n x1 x2 σ = some (r, τ)) : zM l G 3 yX5_price (.code yX5_price cX5_price 3 (some (.boolean))) [.ref (zad G 25), .ref (zad G x1), .int x2] σ (some (.int r)) τ := by
  refine zM_of (by decide) (Nat.le_of_ble_eq_true rfl) (fun x O E => ?_)
  have O : zO G x cX5_price RX5 3 120 3 := O
  unfold s_X5_price at h
  show V G x σ [(0, .ref (zad G 25)), (1, .ref (zad G x1)), (2, .int x2)] 0 []
  refine V_aloadn 0 0 O dX5_price_0 rfl rfl ?_
  refine V_iconst 1 O dX5_price_1 ci_0 ?_
  refine V_bipush 2 O dX5_price_2 cb_99 ?_
  obtain ⟨r2, σ1, g, h⟩ := bd_of h
  refine V_callVi 4 [.int (0 : Int32), .int (99 : Int32)] [] O mf_X5_number lk_X5_97 k25 dX5_price_4 rfl rfl (Nat.le_of_ble_eq_true rfl) ⟨(Nat.le_of_ble_eq_true rfl), (Nat.le_of_ble_eq_true rfl)⟩ (fun l => C_X5_number  g) ?_
  refine V_if_ne 7 12 O dX5_price_7 rfl h (fun h => ?_) (fun h => ?_)
  · refine V_iloadn 12 2 O dX5_price_12 rfl rfl ?_
    refine V_if_eq 13 27 O dX5_price_13 rfl h (fun h => ?_) (fun h => ?_)
    · refine V_aloadn 27 1 O dX5_price_27 rfl rfl ?_
      refine V_aloadn 28 0 O dX5_price_28 rfl rfl ?_
      refine V_getI 29 O k25 fl_X5_101 dX5_price_29 ?_
      refine V_put 32 O (zLaw_k hx1) fp_X5_117 dX5_price_32 h (fun σ3 h => ?_)
      exact V_sub [0] rfl (b_X5_price_35 O E n   σ3  h)
    · refine V_aloadn 16 1 O dX5_price_16 rfl rfl ?_
      refine V_aloadn 17 0 O dX5_price_17 rfl rfl ?_
      refine V_getI 18 O k25 fl_X5_101 dX5_price_18 ?_
      refine V_put 21 O (zLaw_k hx1) fp_X5_115 dX5_price_21 h (fun σ4 h => ?_)
      refine V_goto 24 35 O dX5_price_24 rfl ?_
      exact V_sub [0] rfl (b_X5_price_35 O E n   σ4  h)
  · refine V_iconst 10 O dX5_price_10 ci_0 ?_
    exact V_zret0 11 O E dX5_price_11 h
-- ==== Reader.strike(ILWaterTown$Law;)Z
def s_X5_strike (n : Nat) (x1 : Int32) (x2 : Nat) (σ : Sg) : Option (Int32 × Sg) := bd (s_X5_number n (0 : Int32) (999 : Int32) σ) fun r2 σ1 => if r2 = 0 then (some ((0 : Int32), σ1)) else (if (σ1 25 7) < x1 then (lt (up2 σ1 x2 8 ((σ1 x2 8) ||| (sl (1 : Int32) (σ1 25 7)))) fun σ3 => bd (s_X5_semicolon n σ3) fun r5 σ4 => bck r5 (some (r5, σ4))) else (bd (s_X5_fail n (3 : Int32) σ1) fun r7 σ6 => bck r7 (some (r7, σ6))))
set_option maxRecDepth 20000 in
theorem C_X5_strike {l : Launch} {G : zG} {n : Nat} {x1 : Int32} {x2 : Nat} {σ : Sg} {r : Int32} {τ : Sg} (hx2 : zLaw x2) (h : s_X5_strike n x1 x2 σ = some (r, τ)) : zM l G 3 yX5_strike (.code yX5_strike cX5_strike 3 (some (.boolean))) [.ref (zad G 25), .int x1, .ref (zad G x2)] σ (some (.int r)) τ := by
  refine zM_of (by decide) (Nat.le_of_ble_eq_true rfl) (fun x O E => ?_)
  have O : zO G x cX5_strike RX5 3 120 3 := O
  unfold s_X5_strike at h
  show V G x σ [(0, .ref (zad G 25)), (1, .int x1), (2, .ref (zad G x2))] 0 []
  refine V_aloadn 0 0 O dX5_strike_0 rfl rfl ?_
  refine V_iconst 1 O dX5_strike_1 ci_0 ?_
  refine V_sipush 2 O dX5_strike_2 cs_999 ?_
  obtain ⟨r2, σ1, g, h⟩ := bd_of h
  refine V_callVi 5 [.int (0 : Int32), .int (999 : Int32)] [] O mf_X5_number lk_X5_97 k25 dX5_strike_5 rfl rfl (Nat.le_of_ble_eq_true rfl) ⟨(Nat.le_of_ble_eq_true rfl), (Nat.le_of_ble_eq_true rfl)⟩ (fun l => C_X5_number  g) ?_
  refine V_if_ne 8 13 O dX5_strike_8 rfl h (fun h => ?_) (fun h => ?_)
  · refine V_aloadn 13 0 O dX5_strike_13 rfl rfl ?_
    refine V_getI 14 O k25 fl_X5_101 dX5_strike_14 ?_
    refine V_iloadn 17 1 O dX5_strike_17 rfl rfl ?_
    refine V_icmp_lt 18 27 O dX5_strike_18 rfl h (fun h => ?_) (fun h => ?_)
    · refine V_aloadn 27 2 O dX5_strike_27 rfl rfl ?_
      refine V_dup 28 O dX5_strike_28 rfl ?_
      refine V_getI 29 O (zLaw_k hx2) fl_X5_119 dX5_strike_29 ?_
      refine V_iconst 32 O dX5_strike_32 ci_1 ?_
      refine V_aloadn 33 0 O dX5_strike_33 rfl rfl ?_
      refine V_getI 34 O k25 fl_X5_101 dX5_strike_34 ?_
      refine V_ishl 37 O dX5_strike_37 ?_
      refine V_ior 38 O dX5_strike_38 ?_
      refine V_put 39 O (zLaw_k hx2) fp_X5_119 dX5_strike_39 h (fun σ3 h => ?_)
      refine V_aloadn 42 0 O dX5_strike_42 rfl rfl ?_
      obtain ⟨r5, σ4, g, h⟩ := bd_of h
      refine V_callVi 43 [] [] O mf_X5_semicolon lk_X5_111 k25 dX5_strike_43 rfl rfl (Nat.le_of_ble_eq_true rfl) ⟨(Nat.le_of_ble_eq_true rfl), (Nat.le_of_ble_eq_true rfl)⟩ (fun l => C_X5_semicolon  g) ?_
      exact V_zret 46 O E dX5_strike_46 h
    · refine V_aloadn 21 0 O dX5_strike_21 rfl rfl ?_
      refine V_iconst 22 O dX5_strike_22 ci_3 ?_
      obtain ⟨r7, σ6, g, h⟩ := bd_of h
      refine V_callVi 23 [.int (3 : Int32)] [] O mf_X5_fail lk_X5_57 k25 dX5_strike_23 rfl rfl (Nat.le_of_ble_eq_true rfl) ⟨(Nat.le_of_ble_eq_true rfl), (Nat.le_of_ble_eq_true rfl)⟩ (fun l => C_X5_fail  g) ?_
      exact V_zret 26 O E dX5_strike_26 h
  · refine V_iconst 11 O dX5_strike_11 ci_0 ?_
    exact V_zret0 12 O E dX5_strike_12 h
-- ==== Reader.clause(IILWaterTown$Law;)Z
def s_X5_clause_111 (n : Nat) (x3 : Nat) (x7 : Int32) (σ : Sg) : Option (Int32 × Sg) := bd (s_X5_price n x3 x7 σ) fun r22 σ21 => bck r22 (some (r22, σ21))
def s_X5_clause_67 (n : Nat) (x1 : Int32) (x2 : Int32) (x3 : Nat) (x4 : Int32) (x5 : Int32) (x6 : Int32) (x7 : Int32) (σ : Sg) : Option (Int32 × Sg) := if x1 < (8 : Int32) then (if x4 = 0 then (if x5 = 0 then (if x6 = 0 then (if x7 = 0 then (bd (s_X5_strike n x2 x3 σ) fun r14 σ13 => bck r14 (some (r14, σ13))) else (s_X5_clause_111 n x3 x7 σ)) else (s_X5_clause_111 n x3 x7 σ)) else (bd (s_X5_turnHours n x3 σ) fun r16 σ15 => bck r16 (some (r16, σ15)))) else (bd (s_X5_keys n x3 σ) fun r18 σ17 => bck r18 (some (r18, σ17)))) else (bd (s_X5_fail n (5 : Int32) σ) fun r20 σ19 => bck r20 (some (r20, σ19)))
def s_X5_clause (n : Nat) (x1 : Int32) (x2 : Int32) (x3 : Nat) (σ : Sg) : Option (Int32 × Sg) := bd (s_X5_says n 0 σ) fun r2 σ1 => bd (s_X5_says n 1 σ1) fun r4 σ3 => bd (s_X5_says n 2 σ3) fun r6 σ5 => bd (s_X5_says n 3 σ5) fun r8 σ7 => if r2 = 0 then (if r4 = 0 then (if r6 = 0 then (if r8 = 0 then (bd (s_X5_says n 4 σ7) fun r10 σ9 => if r10 = 0 then (bd (s_X5_fail n (1 : Int32) σ9) fun r12 σ11 => bck r12 (some (r12, σ11))) else (s_X5_clause_67 n x1 x2 x3 r2 r4 r6 r8 σ9)) else (s_X5_clause_67 n x1 x2 x3 r2 r4 r6 r8 σ7)) else (s_X5_clause_67 n x1 x2 x3 r2 r4 r6 r8 σ7)) else (s_X5_clause_67 n x1 x2 x3 r2 r4 r6 r8 σ7)) else (s_X5_clause_67 n x1 x2 x3 r2 r4 r6 r8 σ7)
set_option maxRecDepth 20000 in
theorem b_X5_clause_111 {G : zG} {x : zX} {r : Int32} {τ : Sg} (O : zO G x cX5_clause RX5 8 320 8) (E : zE G x (some (.boolean)) (some (.int r)) τ) (n : Nat) (x3 : Nat) (x7 : Int32) (σ : Sg) (hx3 : zLaw x3) (h : s_X5_clause_111 n x3 x7 σ = some (r, τ)) : V G x σ [(0, .ref (zad G 25)), (3, .ref (zad G x3)), (7, .int x7)] 111 [] := by
  unfold s_X5_clause_111 at h
  refine V_aloadn 111 0 O dX5_clause_111 rfl rfl ?_
  refine V_aloadn 112 1 O dX5_clause_112 rfl rfl ?_
  refine V_iload 113 2 O dX5_clause_113 rfl ?_
  obtain ⟨r22, σ21, g, h⟩ := bd_of h
  refine V_callVi 115 [.ref (zad G x3), .int x7] [] O mf_X5_price lk_X5_68 k25 dX5_clause_115 rfl rfl (Nat.le_of_ble_eq_true rfl) ⟨(Nat.le_of_ble_eq_true rfl), (Nat.le_of_ble_eq_true rfl)⟩ (fun l => C_X5_price hx3 g) ?_
  exact V_zret 118 O E dX5_clause_118 h
set_option maxRecDepth 20000 in
theorem b_X5_clause_67 {G : zG} {x : zX} {r : Int32} {τ : Sg} (O : zO G x cX5_clause RX5 8 320 8) (E : zE G x (some (.boolean)) (some (.int r)) τ) (n : Nat) (x1 : Int32) (x2 : Int32) (x3 : Nat) (x4 : Int32) (x5 : Int32) (x6 : Int32) (x7 : Int32) (σ : Sg) (hx3 : zLaw x3) (h : s_X5_clause_67 n x1 x2 x3 x4 x5 x6 x7 σ = some (r, τ)) : V G x σ [(0, .ref (zad G 25)), (1, .int x1), (2, .int x2), (3, .ref (zad G x3)), (4, .int x4), (5, .int x5), (6, .int x6), (7, .int x7)] 67 [] := by
  unfold s_X5_clause_67 at h
  refine V_iloadn 67 1 O dX5_clause_67 rfl rfl ?_
  refine V_bipush 68 O dX5_clause_68 cb_8 ?_
  refine V_icmp_lt 70 79 O dX5_clause_70 rfl h (fun h => ?_) (fun h => ?_)
  · refine V_iload 79 4 O dX5_clause_79 rfl ?_
    refine V_if_eq 81 90 O dX5_clause_81 rfl h (fun h => ?_) (fun h => ?_)
    · refine V_iload 90 5 O dX5_clause_90 rfl ?_
      refine V_if_eq 92 101 O dX5_clause_92 rfl h (fun h => ?_) (fun h => ?_)
      · refine V_iload 101 6 O dX5_clause_101 rfl ?_
        refine V_if_ne 103 111 O dX5_clause_103 rfl h (fun h => ?_) (fun h => ?_)
        · exact V_sub [0, 3, 7] rfl (b_X5_clause_111 O E n  x3 x7 σ hx3 h)
        · refine V_iload 106 7 O dX5_clause_106 rfl ?_
          refine V_if_eq 108 119 O dX5_clause_108 rfl h (fun h => ?_) (fun h => ?_)
          · refine V_aloadn 119 0 O dX5_clause_119 rfl rfl ?_
            refine V_iloadn 120 2 O dX5_clause_120 rfl rfl ?_
            refine V_aloadn 121 3 O dX5_clause_121 rfl rfl ?_
            obtain ⟨r14, σ13, g, h⟩ := bd_of h
            refine V_callVi 122 [.int x2, .ref (zad G x3)] [] O mf_X5_strike lk_X5_72 k25 dX5_clause_122 rfl rfl (Nat.le_of_ble_eq_true rfl) ⟨(Nat.le_of_ble_eq_true rfl), (Nat.le_of_ble_eq_true rfl)⟩ (fun l => C_X5_strike hx3 g) ?_
            exact V_zret 125 O E dX5_clause_125 h
          · exact V_sub [0, 3, 7] rfl (b_X5_clause_111 O E n  x3 x7 σ hx3 h)
      · refine V_aloadn 95 0 O dX5_clause_95 rfl rfl ?_
        refine V_aloadn 96 3 O dX5_clause_96 rfl rfl ?_
        obtain ⟨r16, σ15, g, h⟩ := bd_of h
        refine V_callVi 97 [.ref (zad G x3)] [] O mf_X5_turnHours lk_X5_65 k25 dX5_clause_97 rfl rfl (Nat.le_of_ble_eq_true rfl) ⟨(Nat.le_of_ble_eq_true rfl), (Nat.le_of_ble_eq_true rfl)⟩ (fun l => C_X5_turnHours hx3 g) ?_
        exact V_zret 100 O E dX5_clause_100 h
    · refine V_aloadn 84 0 O dX5_clause_84 rfl rfl ?_
      refine V_aloadn 85 3 O dX5_clause_85 rfl rfl ?_
      obtain ⟨r18, σ17, g, h⟩ := bd_of h
      refine V_callVi 86 [.ref (zad G x3)] [] O mf_X5_keys lk_X5_61 k25 dX5_clause_86 rfl rfl (Nat.le_of_ble_eq_true rfl) ⟨(Nat.le_of_ble_eq_true rfl), (Nat.le_of_ble_eq_true rfl)⟩ (fun l => C_X5_keys hx3 g) ?_
      exact V_zret 89 O E dX5_clause_89 h
  · refine V_aloadn 73 0 O dX5_clause_73 rfl rfl ?_
    refine V_iconst 74 O dX5_clause_74 ci_5 ?_
    obtain ⟨r20, σ19, g, h⟩ := bd_of h
    refine V_callVi 75 [.int (5 : Int32)] [] O mf_X5_fail lk_X5_57 k25 dX5_clause_75 rfl rfl (Nat.le_of_ble_eq_true rfl) ⟨(Nat.le_of_ble_eq_true rfl), (Nat.le_of_ble_eq_true rfl)⟩ (fun l => C_X5_fail  g) ?_
    exact V_zret 78 O E dX5_clause_78 h
set_option maxRecDepth 20000 in
theorem C_X5_clause {l : Launch} {G : zG} {n : Nat} {x1 : Int32} {x2 : Int32} {x3 : Nat} {σ : Sg} {r : Int32} {τ : Sg} (hx3 : zLaw x3) (h : s_X5_clause n x1 x2 x3 σ = some (r, τ)) : zM l G 8 yX5_clause (.code yX5_clause cX5_clause 8 (some (.boolean))) [.ref (zad G 25), .int x1, .int x2, .ref (zad G x3)] σ (some (.int r)) τ := by
  refine zM_of (by decide) (Nat.le_of_ble_eq_true rfl) (fun x O E => ?_)
  have O : zO G x cX5_clause RX5 8 320 8 := O
  unfold s_X5_clause at h
  show V G x σ [(0, .ref (zad G 25)), (1, .int x1), (2, .int x2), (3, .ref (zad G x3))] 0 []
  refine V_aloadn 0 0 O dX5_clause_0 rfl rfl ?_
  refine V_ldcS 1 (q := 0) O dX5_clause_1 rfl ?_
  obtain ⟨r2, σ1, g, h⟩ := bd_of h
  refine V_callVi 3 [.ref (G.2.2.2.2.1 0)] [] O mf_X5_says lk_X5_45 k25 dX5_clause_3 rfl rfl (Nat.le_of_ble_eq_true rfl) ⟨(Nat.le_of_ble_eq_true rfl), (Nat.le_of_ble_eq_true rfl)⟩ (fun l => C_X5_says (Nat.le_of_ble_eq_true rfl) g) ?_
  refine V_istore 6 [1, 2, 3, 4, 0] [(0, .ref (zad G 25)), (1, .int x1), (2, .int x2), (3, .ref (zad G x3)), (4, .int r2)] O dX5_clause_6 (Nat.le_of_ble_eq_true rfl) rfl ?_
  refine V_aloadn 8 0 O dX5_clause_8 rfl rfl ?_
  refine V_ldcS 9 (q := 1) O dX5_clause_9 rfl ?_
  obtain ⟨r4, σ3, g, h⟩ := bd_of h
  refine V_callVi 11 [.ref (G.2.2.2.2.1 1)] [] O mf_X5_says lk_X5_45 k25 dX5_clause_11 rfl rfl (Nat.le_of_ble_eq_true rfl) ⟨(Nat.le_of_ble_eq_true rfl), (Nat.le_of_ble_eq_true rfl)⟩ (fun l => C_X5_says (Nat.le_of_ble_eq_true rfl) g) ?_
  refine V_istore 14 [1, 2, 3, 4, 5, 0] [(0, .ref (zad G 25)), (1, .int x1), (2, .int x2), (3, .ref (zad G x3)), (4, .int r2), (5, .int r4)] O dX5_clause_14 (Nat.le_of_ble_eq_true rfl) rfl ?_
  refine V_aloadn 16 0 O dX5_clause_16 rfl rfl ?_
  refine V_ldcS 17 (q := 2) O dX5_clause_17 rfl ?_
  obtain ⟨r6, σ5, g, h⟩ := bd_of h
  refine V_callVi 19 [.ref (G.2.2.2.2.1 2)] [] O mf_X5_says lk_X5_45 k25 dX5_clause_19 rfl rfl (Nat.le_of_ble_eq_true rfl) ⟨(Nat.le_of_ble_eq_true rfl), (Nat.le_of_ble_eq_true rfl)⟩ (fun l => C_X5_says (Nat.le_of_ble_eq_true rfl) g) ?_
  refine V_istore 22 [1, 2, 3, 4, 5, 6, 0] [(0, .ref (zad G 25)), (1, .int x1), (2, .int x2), (3, .ref (zad G x3)), (4, .int r2), (5, .int r4), (6, .int r6)] O dX5_clause_22 (Nat.le_of_ble_eq_true rfl) rfl ?_
  refine V_aloadn 24 0 O dX5_clause_24 rfl rfl ?_
  refine V_ldcS 25 (q := 3) O dX5_clause_25 rfl ?_
  obtain ⟨r8, σ7, g, h⟩ := bd_of h
  refine V_callVi 27 [.ref (G.2.2.2.2.1 3)] [] O mf_X5_says lk_X5_45 k25 dX5_clause_27 rfl rfl (Nat.le_of_ble_eq_true rfl) ⟨(Nat.le_of_ble_eq_true rfl), (Nat.le_of_ble_eq_true rfl)⟩ (fun l => C_X5_says (Nat.le_of_ble_eq_true rfl) g) ?_
  refine V_istore 30 [1, 2, 3, 4, 5, 6, 7, 0] [(0, .ref (zad G 25)), (1, .int x1), (2, .int x2), (3, .ref (zad G x3)), (4, .int r2), (5, .int r4), (6, .int r6), (7, .int r8)] O dX5_clause_30 (Nat.le_of_ble_eq_true rfl) rfl ?_
  refine V_iload 32 4 O dX5_clause_32 rfl ?_
  refine V_if_ne 34 67 O dX5_clause_34 rfl h (fun h => ?_) (fun h => ?_)
  · exact V_sub [0, 1, 2, 3, 4, 5, 6, 7] rfl (b_X5_clause_67 O E n  x1 x2 x3 r2 r4 r6 r8 σ7 hx3 h)
  · refine V_iload 37 5 O dX5_clause_37 rfl ?_
    refine V_if_ne 39 67 O dX5_clause_39 rfl h (fun h => ?_) (fun h => ?_)
    · exact V_sub [0, 1, 2, 3, 4, 5, 6, 7] rfl (b_X5_clause_67 O E n  x1 x2 x3 r2 r4 r6 r8 σ7 hx3 h)
    · refine V_iload 42 6 O dX5_clause_42 rfl ?_
      refine V_if_ne 44 67 O dX5_clause_44 rfl h (fun h => ?_) (fun h => ?_)
      · exact V_sub [0, 1, 2, 3, 4, 5, 6, 7] rfl (b_X5_clause_67 O E n  x1 x2 x3 r2 r4 r6 r8 σ7 hx3 h)
      · refine V_iload 47 7 O dX5_clause_47 rfl ?_
        refine V_if_ne 49 67 O dX5_clause_49 rfl h (fun h => ?_) (fun h => ?_)
        · exact V_sub [0, 1, 2, 3, 4, 5, 6, 7] rfl (b_X5_clause_67 O E n  x1 x2 x3 r2 r4 r6 r8 σ7 hx3 h)
        · refine V_aloadn 52 0 O dX5_clause_52 rfl rfl ?_
          refine V_ldcS 53 (q := 4) O dX5_clause_53 rfl ?_
          obtain ⟨r10, σ9, g, h⟩ := bd_of h
          refine V_callVi 55 [.ref (G.2.2.2.2.1 4)] [] O mf_X5_says lk_X5_45 k25 dX5_clause_55 rfl rfl (Nat.le_of_ble_eq_true rfl) ⟨(Nat.le_of_ble_eq_true rfl), (Nat.le_of_ble_eq_true rfl)⟩ (fun l => C_X5_says (Nat.le_of_ble_eq_true rfl) g) ?_
          refine V_if_ne 58 67 O dX5_clause_58 rfl h (fun h => ?_) (fun h => ?_)
          · exact V_sub [0, 1, 2, 3, 4, 5, 6, 7] rfl (b_X5_clause_67 O E n  x1 x2 x3 r2 r4 r6 r8 σ9 hx3 h)
          · refine V_aloadn 61 0 O dX5_clause_61 rfl rfl ?_
            refine V_iconst 62 O dX5_clause_62 ci_1 ?_
            obtain ⟨r12, σ11, g, h⟩ := bd_of h
            refine V_callVi 63 [.int (1 : Int32)] [] O mf_X5_fail lk_X5_57 k25 dX5_clause_63 rfl rfl (Nat.le_of_ble_eq_true rfl) ⟨(Nat.le_of_ble_eq_true rfl), (Nat.le_of_ble_eq_true rfl)⟩ (fun l => C_X5_fail  g) ?_
            exact V_zret 66 O E dX5_clause_66 h
-- ==== Reader.read(ILWaterTown$Law;)I
def s_X5_read_61 (n : Nat) (rc24 : Int32 → Nat → Int32 → Int32 → Sg → Option (Int32 × Sg)) (x1 : Int32) (x2 : Nat) (x4 : Int32) (σ : Sg) : Option (Int32 × Sg) := rc24 x1 x2 (0 : Int32) (x4 + (1 : Int32)) σ
def s_X5_read_24b (n : Nat) (rc24 : Int32 → Nat → Int32 → Int32 → Sg → Option (Int32 × Sg)) (x1 : Int32) (x2 : Nat) (x3 : Int32) (x4 : Int32) (σ : Sg) : Option (Int32 × Sg) := if (8 : Int32) < x4 then (lt (up2 σ 25 0 (0 : Int32)) fun σ5 => some (σ5 25 3, σ5)) else (if x3 = 0 then (lt (up2 σ 25 0 (0 : Int32)) fun σ6 => some (σ6 25 3, σ6)) else (bdv (s_X5_next n σ) fun σ7 => if (σ7 25 5) = 0 then (s_X5_read_61 n rc24 x1 x2 x4 σ7) else (bd (s_X5_clause n x4 x1 x2 σ7) fun r9 σ8 => lt (if r9 = 0 then (0 : Int32) else (1 : Int32)) fun v12 => rc24 x1 x2 v12 (x4 + (1 : Int32)) σ8)))
def s_X5_read_24 (n : Nat) : Nat → Int32 → Nat → Int32 → Int32 → Sg → Option (Int32 × Sg)
  | 0 => fun _ _ _ _ _ => none
  | k + 1 => s_X5_read_24b n (s_X5_read_24 n k)
def s_X5_read (n : Nat) (x1 : Int32) (x2 : Nat) (σ : Sg) : Option (Int32 × Sg) := lt (up2 σ 25 4 (0 : Int32)) fun σ1 => lt (up2 σ1 25 3 (0 : Int32)) fun σ2 => lt (up2 σ2 25 1 (-1 : Int32)) fun σ3 => bdv (s_X2_sayNothing n x2 σ3) fun σ4 => s_X5_read_24 n n x1 x2 (1 : Int32) (0 : Int32) σ4
set_option maxRecDepth 20000 in
theorem b_X5_read_61 {G : zG} {x : zX} {r : Int32} {τ : Sg} (O : zO G x cX5_read RX5 9 360 5) (E : zE G x (some (.int)) (some (.int r)) τ) (n : Nat) (rc24 : Int32 → Nat → Int32 → Int32 → Sg → Option (Int32 × Sg)) (H24 : ∀ (x1 : Int32) (x2 : Nat) (x3 : Int32) (x4 : Int32) (σ : Sg), zLaw x2 → rc24 x1 x2 x3 x4 σ = some (r, τ) → V G x σ [(0, .ref (zad G 25)), (1, .int x1), (2, .ref (zad G x2)), (3, .int x3), (4, .int x4)] 24 []) (x1 : Int32) (x2 : Nat) (x4 : Int32) (σ : Sg) (hx2 : zLaw x2) (h : s_X5_read_61 n rc24 x1 x2 x4 σ = some (r, τ)) : V G x σ [(0, .ref (zad G 25)), (1, .int x1), (2, .ref (zad G x2)), (4, .int x4)] 61 [] := by
  unfold s_X5_read_61 at h
  refine V_iconst 61 O dX5_read_61 ci_0 ?_
  refine V_istoren 62 [1, 2, 3, 0, 4] [(0, .ref (zad G 25)), (1, .int x1), (2, .ref (zad G x2)), (3, .int (0 : Int32)), (4, .int x4)] O dX5_read_62 rfl (Nat.le_of_ble_eq_true rfl) rfl ?_
  refine V_iinc 63 4 [1, 2, 3, 4, 0] [(0, .ref (zad G 25)), (1, .int x1), (2, .ref (zad G x2)), (3, .int (0 : Int32)), (4, .int (x4 + (1 : Int32)))] O dX5_read_63 rfl ci_1 (Nat.le_of_ble_eq_true rfl) rfl ?_
  refine V_goto 66 24 O dX5_read_66 rfl ?_
  exact V_sub [0, 1, 2, 3, 4] rfl (H24 x1 x2 (0 : Int32) (x4 + (1 : Int32)) σ hx2 h)
set_option maxRecDepth 20000 in
theorem b_X5_read_24 {G : zG} {x : zX} {r : Int32} {τ : Sg} (O : zO G x cX5_read RX5 9 360 5) (E : zE G x (some (.int)) (some (.int r)) τ) (n : Nat) (rc24 : Int32 → Nat → Int32 → Int32 → Sg → Option (Int32 × Sg)) (H24 : ∀ (x1 : Int32) (x2 : Nat) (x3 : Int32) (x4 : Int32) (σ : Sg), zLaw x2 → rc24 x1 x2 x3 x4 σ = some (r, τ) → V G x σ [(0, .ref (zad G 25)), (1, .int x1), (2, .ref (zad G x2)), (3, .int x3), (4, .int x4)] 24 []) (x1 : Int32) (x2 : Nat) (x3 : Int32) (x4 : Int32) (σ : Sg) (hx2 : zLaw x2) (h : s_X5_read_24b n rc24 x1 x2 x3 x4 σ = some (r, τ)) : V G x σ [(0, .ref (zad G 25)), (1, .int x1), (2, .ref (zad G x2)), (3, .int x3), (4, .int x4)] 24 [] := by
  unfold s_X5_read_24b at h
  refine V_iload 24 4 O dX5_read_24 rfl ?_
  refine V_bipush 26 O dX5_read_26 cb_8 ?_
  refine V_icmp_gt 28 69 O dX5_read_28 rfl h (fun h => ?_) (fun h => ?_)
  · refine V_aloadn 69 0 O dX5_read_69 rfl rfl ?_
    refine V_iconst 70 O dX5_read_70 ci_0 ?_
    refine V_put 71 O k25 fp_X5_19 dX5_read_71 h (fun σ5 h => ?_)
    refine V_aloadn 74 0 O dX5_read_74 rfl rfl ?_
    refine V_getI 75 O k25 fl_X5_25 dX5_read_75 ?_
    exact V_iret 78 O E dX5_read_78 h
  · refine V_iloadn 31 3 O dX5_read_31 rfl rfl ?_
    refine V_if_eq 32 69 O dX5_read_32 rfl h (fun h => ?_) (fun h => ?_)
    · refine V_aloadn 69 0 O dX5_read_69 rfl rfl ?_
      refine V_iconst 70 O dX5_read_70 ci_0 ?_
      refine V_put 71 O k25 fp_X5_19 dX5_read_71 h (fun σ6 h => ?_)
      refine V_aloadn 74 0 O dX5_read_74 rfl rfl ?_
      refine V_getI 75 O k25 fl_X5_25 dX5_read_75 ?_
      exact V_iret 78 O E dX5_read_78 h
    · refine V_aloadn 35 0 O dX5_read_35 rfl rfl ?_
      obtain ⟨σ7, g, h⟩ := bdv_of h
      refine V_callVv 36 [] [] O mf_X5_next lk_X5_33 k25 dX5_read_36 rfl rfl (Nat.le_of_ble_eq_true rfl) ⟨(Nat.le_of_ble_eq_true rfl), (Nat.le_of_ble_eq_true rfl)⟩ (fun l => C_X5_next  g) ?_
      refine V_aloadn 39 0 O dX5_read_39 rfl rfl ?_
      refine V_getI 40 O k25 fl_X5_36 dX5_read_40 ?_
      refine V_if_eq 43 61 O dX5_read_43 rfl h (fun h => ?_) (fun h => ?_)
      · exact V_sub [0, 1, 2, 4] rfl (b_X5_read_61 O E n rc24 H24 x1 x2 x4 σ7 hx2 h)
      · refine V_aloadn 46 0 O dX5_read_46 rfl rfl ?_
        refine V_iload 47 4 O dX5_read_47 rfl ?_
        refine V_iloadn 49 1 O dX5_read_49 rfl rfl ?_
        refine V_aloadn 50 2 O dX5_read_50 rfl rfl ?_
        obtain ⟨r9, σ8, g, h⟩ := bd_of h
        refine V_callVi 51 [.int x4, .int x1, .ref (zad G x2)] [] O mf_X5_clause lk_X5_39 k25 dX5_read_51 rfl rfl (Nat.le_of_ble_eq_true rfl) ⟨(Nat.le_of_ble_eq_true rfl), (Nat.le_of_ble_eq_true rfl)⟩ (fun l => C_X5_clause hx2 g) ?_
        have J10 : V G x σ8 [(0, .ref (zad G 25)), (1, .int x1), (2, .ref (zad G x2)), (3, .int x3), (4, .int x4)] 62 [.int (if r9 = 0 then (0 : Int32) else (1 : Int32))] := by
          refine V_topi h (fun v12 h => ?_)
          refine V_istoren 62 [1, 2, 3, 0, 4] [(0, .ref (zad G 25)), (1, .int x1), (2, .ref (zad G x2)), (3, .int v12), (4, .int x4)] O dX5_read_62 rfl (Nat.le_of_ble_eq_true rfl) rfl ?_
          refine V_iinc 63 4 [1, 2, 3, 4, 0] [(0, .ref (zad G 25)), (1, .int x1), (2, .ref (zad G x2)), (3, .int v12), (4, .int (x4 + (1 : Int32)))] O dX5_read_63 rfl ci_1 (Nat.le_of_ble_eq_true rfl) rfl ?_
          refine V_goto 66 24 O dX5_read_66 rfl ?_
          exact V_sub [0, 1, 2, 3, 4] rfl (H24 x1 x2 v12 (x4 + (1 : Int32)) σ8 hx2 h)
        refine V_if_eqc 54 61 O dX5_read_54 rfl (fun c11 => ?_) (fun c11 => ?_)
        · refine V_iconst 61 O dX5_read_61 ci_0 ?_
          exact V_top (by rw [if_pos c11]) J10
        · refine V_iconst 57 O dX5_read_57 ci_1 ?_
          refine V_goto 58 62 O dX5_read_58 rfl ?_
          exact V_top (by rw [if_neg c11]) J10
theorem bl_X5_read_24 {G : zG} {x : zX} {r : Int32} {τ : Sg} (O : zO G x cX5_read RX5 9 360 5) (E : zE G x (some (.int)) (some (.int r)) τ) (n : Nat) : ∀ (k : Nat) (x1 : Int32) (x2 : Nat) (x3 : Int32) (x4 : Int32) (σ : Sg), zLaw x2 → s_X5_read_24 n k x1 x2 x3 x4 σ = some (r, τ) → V G x σ [(0, .ref (zad G 25)), (1, .int x1), (2, .ref (zad G x2)), (3, .int x3), (4, .int x4)] 24 [] := by
  intro k
  induction k with
  | zero => intro x1 x2 x3 x4 σ hx2 h; cases h
  | succ k ih => intro x1 x2 x3 x4 σ hx2 h; exact b_X5_read_24 O E n  (s_X5_read_24 n  k) ih x1 x2 x3 x4 σ hx2 h
set_option maxRecDepth 20000 in
theorem C_X5_read {l : Launch} {G : zG} {n : Nat} {x1 : Int32} {x2 : Nat} {σ : Sg} {r : Int32} {τ : Sg} (hx2 : zLaw x2) (h : s_X5_read n x1 x2 σ = some (r, τ)) : zM l G 9 yX5_read (.code yX5_read cX5_read 5 (some (.int))) [.ref (zad G 25), .int x1, .ref (zad G x2)] σ (some (.int r)) τ := by
  refine zM_of (by decide) (Nat.le_of_ble_eq_true rfl) (fun x O E => ?_)
  have O : zO G x cX5_read RX5 9 360 5 := O
  unfold s_X5_read at h
  show V G x σ [(0, .ref (zad G 25)), (1, .int x1), (2, .ref (zad G x2))] 0 []
  refine V_aloadn 0 0 O dX5_read_0 rfl rfl ?_
  refine V_iconst 1 O dX5_read_1 ci_0 ?_
  refine V_put 2 O k25 fp_X5_22 dX5_read_2 h (fun σ1 h => ?_)
  refine V_aloadn 5 0 O dX5_read_5 rfl rfl ?_
  refine V_iconst 6 O dX5_read_6 ci_0 ?_
  refine V_put 7 O k25 fp_X5_25 dX5_read_7 h (fun σ2 h => ?_)
  refine V_aloadn 10 0 O dX5_read_10 rfl rfl ?_
  refine V_iconst 11 O dX5_read_11 ci_m1 ?_
  refine V_put 12 O k25 fp_X5_9 dX5_read_12 h (fun σ3 h => ?_)
  refine V_aloadn 15 2 O dX5_read_15 rfl rfl ?_
  obtain ⟨σ4, g, h⟩ := bdv_of h
  refine V_callVv 16 [] [] O mf_X2_sayNothing lk_X5_28 (zLaw_k hx2) dX5_read_16 rfl rfl (Nat.le_of_ble_eq_true rfl) ⟨(Nat.le_of_ble_eq_true rfl), (Nat.le_of_ble_eq_true rfl)⟩ (fun l => C_X2_sayNothing hx2 g) ?_
  refine V_iconst 19 O dX5_read_19 ci_1 ?_
  refine V_istoren 20 [1, 2, 3, 0] [(0, .ref (zad G 25)), (1, .int x1), (2, .ref (zad G x2)), (3, .int (1 : Int32))] O dX5_read_20 rfl (Nat.le_of_ble_eq_true rfl) rfl ?_
  refine V_iconst 21 O dX5_read_21 ci_0 ?_
  refine V_istore 22 [1, 2, 3, 4, 0] [(0, .ref (zad G 25)), (1, .int x1), (2, .ref (zad G x2)), (3, .int (1 : Int32)), (4, .int (0 : Int32))] O dX5_read_22 (Nat.le_of_ble_eq_true rfl) rfl ?_
  exact V_sub [0, 1, 2, 3, 4] rfl (bl_X5_read_24 O E n  n x1 x2 (1 : Int32) (0 : Int32) σ4 hx2 h)
-- ==== Rules.draft()LWaterTown$Law;
def s_X6_draft (n : Nat) (σ : Sg) : Option (Nat × Sg) := ck (imin (σ 27 0) (7 : Int32)) 8 (some (rf 28 (ix (imin (σ 27 0) (7 : Int32))), σ))
set_option maxRecDepth 20000 in
theorem C_X6_draft {l : Launch} {G : zG} {n : Nat} {σ : Sg} {r : Nat} {τ : Sg} (h : s_X6_draft n σ = some (r, τ)) : zM l G 1 yX6_draft (.code yX6_draft cX6_draft 1 (some (.object "WaterTown$Law"))) [.ref (zad G 27)] σ (some (.ref (zad G r))) τ := by
  refine zM_of (by decide) (Nat.le_of_ble_eq_true rfl) (fun x O E => ?_)
  have O : zO G x cX6_draft RX6 1 40 1 := O
  unfold s_X6_draft at h
  show V G x σ [(0, .ref (zad G 27))] 0 []
  refine V_aloadn 0 0 O dX6_draft_0 rfl rfl ?_
  refine V_getR 1 O k27 fl_X6_11 rf27_1 dX6_draft_1 ?_
  refine V_aloadn 4 0 O dX6_draft_4 rfl rfl ?_
  refine V_getI 5 O k27 fl_X6_22 dX6_draft_5 ?_
  refine V_bipush 8 O dX6_draft_8 cb_7 ?_
  refine V_min 10 O lk_X6_26 mm_imin.1 mm_imin.2.1 mm_imin.2.2 (Nat.le_of_ble_eq_true rfl) (Nat.le_of_ble_eq_true rfl) dX6_draft_10 ?_
  refine V_aald 13 O k28 dX6_draft_13 h (fun q1 h => ?_)
  exact V_aret 14 O E dX6_draft_14 h
theorem draft_law {n : Nat} {σ : Sg} {r : Nat} {τ : Sg} (g : s_X6_draft n σ = some (r, τ)) : zLaw r := by
  unfold s_X6_draft at g
  obtain ⟨h1, h2⟩ := ck_of g
  cases h2
  exact zLaw_at h1
-- ==== Rules.enact(I)I
def s_X6_enact_57 (n : Nat) (x2 : Int32) (σ : Sg) : Option (Int32 × Sg) := ck x2 8 (lt (up2 σ 37 (ix x2) (σ 27 0)) fun σ7 => lt (up2 σ7 27 0 ((σ7 27 0) + (1 : Int32))) fun σ8 => some ((σ8 27 0) - (1 : Int32), σ8))
def s_X6_enact_13b (n : Nat) (rc13 : Int32 → Int32 → Sg → Option (Int32 × Sg)) (x1 : Int32) (x2 : Int32) (σ : Sg) : Option (Int32 × Sg) := if x2 ≤ 0 then (s_X6_enact_57 n x2 σ) else (ck (x2 - (1 : Int32)) 8 (ck (σ 37 (ix (x2 - (1 : Int32)))) 8 (if (σ (rf 28 (ix (σ 37 (ix (x2 - (1 : Int32)))))) 0) ≤ x1 then (s_X6_enact_57 n x2 σ) else (ck (x2 - (1 : Int32)) 8 (ck x2 8 (lt (up2 σ 37 (ix x2) (σ 37 (ix (x2 - (1 : Int32))))) fun σ6 => rc13 x1 (x2 + (-1 : Int32)) σ6))))))
def s_X6_enact_13 (n : Nat) : Nat → Int32 → Int32 → Sg → Option (Int32 × Sg)
  | 0 => fun _ _ _ => none
  | k + 1 => s_X6_enact_13b n (s_X6_enact_13 n k)
def s_X6_enact (n : Nat) (x1 : Int32) (σ : Sg) : Option (Int32 × Sg) := bdr (s_X6_draft n σ) fun r2 σ1 => lt (up2 σ1 r2 0 x1) fun σ3 => lt (σ3 27 0) fun v4 => s_X6_enact_13 n n x1 v4 σ3
set_option maxRecDepth 20000 in
theorem b_X6_enact_57 {G : zG} {x : zX} {r : Int32} {τ : Sg} (O : zO G x cX6_enact RX6 2 80 3) (E : zE G x (some (.int)) (some (.int r)) τ) (n : Nat) (x2 : Int32) (σ : Sg) (h : s_X6_enact_57 n x2 σ = some (r, τ)) : V G x σ [(0, .ref (zad G 27)), (2, .int x2)] 57 [] := by
  unfold s_X6_enact_57 at h
  refine V_aloadn 57 0 O dX6_enact_57 rfl rfl ?_
  refine V_getR 58 O k27 fl_X6_17 rf27_2 dX6_enact_58 ?_
  refine V_iloadn 61 1 O dX6_enact_61 rfl rfl ?_
  refine V_aloadn 62 0 O dX6_enact_62 rfl rfl ?_
  refine V_getI 63 O k27 fl_X6_22 dX6_enact_63 ?_
  refine V_iast 66 O k37 dX6_enact_66 h (fun σ7 h => ?_)
  refine V_aloadn 67 0 O dX6_enact_67 rfl rfl ?_
  refine V_dup 68 O dX6_enact_68 rfl ?_
  refine V_getI 69 O k27 fl_X6_22 dX6_enact_69 ?_
  refine V_iconst 72 O dX6_enact_72 ci_1 ?_
  refine V_iadd 73 O dX6_enact_73 ?_
  refine V_put 74 O k27 fp_X6_22 dX6_enact_74 h (fun σ8 h => ?_)
  refine V_aloadn 77 0 O dX6_enact_77 rfl rfl ?_
  refine V_getI 78 O k27 fl_X6_22 dX6_enact_78 ?_
  refine V_iconst 81 O dX6_enact_81 ci_1 ?_
  refine V_isub 82 O dX6_enact_82 ?_
  exact V_iret 83 O E dX6_enact_83 h
set_option maxRecDepth 20000 in
theorem b_X6_enact_13 {G : zG} {x : zX} {r : Int32} {τ : Sg} (O : zO G x cX6_enact RX6 2 80 3) (E : zE G x (some (.int)) (some (.int r)) τ) (n : Nat) (rc13 : Int32 → Int32 → Sg → Option (Int32 × Sg)) (H13 : ∀ (x1 : Int32) (x2 : Int32) (σ : Sg), rc13 x1 x2 σ = some (r, τ) → V G x σ [(0, .ref (zad G 27)), (1, .int x1), (2, .int x2)] 13 []) (x1 : Int32) (x2 : Int32) (σ : Sg) (h : s_X6_enact_13b n rc13 x1 x2 σ = some (r, τ)) : V G x σ [(0, .ref (zad G 27)), (1, .int x1), (2, .int x2)] 13 [] := by
  unfold s_X6_enact_13b at h
  refine V_iloadn 13 2 O dX6_enact_13 rfl rfl ?_
  refine V_if_le 14 57 O dX6_enact_14 rfl h (fun h => ?_) (fun h => ?_)
  · exact V_sub [0, 2] rfl (b_X6_enact_57 O E n  x2 σ  h)
  · refine V_aloadn 17 0 O dX6_enact_17 rfl rfl ?_
    refine V_getR 18 O k27 fl_X6_11 rf27_1 dX6_enact_18 ?_
    refine V_aloadn 21 0 O dX6_enact_21 rfl rfl ?_
    refine V_getR 22 O k27 fl_X6_17 rf27_2 dX6_enact_22 ?_
    refine V_iloadn 25 2 O dX6_enact_25 rfl rfl ?_
    refine V_iconst 26 O dX6_enact_26 ci_1 ?_
    refine V_isub 27 O dX6_enact_27 ?_
    refine V_iald 28 O k37 dX6_enact_28 h (fun h => ?_)
    refine V_aald 29 O k28 dX6_enact_29 h (fun q5 h => ?_)
    refine V_getI 30 O (zLaw_k (zLaw_at q5)) fl_X6_36 dX6_enact_30 ?_
    refine V_iloadn 33 1 O dX6_enact_33 rfl rfl ?_
    refine V_icmp_le 34 57 O dX6_enact_34 rfl h (fun h => ?_) (fun h => ?_)
    · exact V_sub [0, 2] rfl (b_X6_enact_57 O E n  x2 σ  h)
    · refine V_aloadn 37 0 O dX6_enact_37 rfl rfl ?_
      refine V_getR 38 O k27 fl_X6_17 rf27_2 dX6_enact_38 ?_
      refine V_iloadn 41 2 O dX6_enact_41 rfl rfl ?_
      refine V_aloadn 42 0 O dX6_enact_42 rfl rfl ?_
      refine V_getR 43 O k27 fl_X6_17 rf27_2 dX6_enact_43 ?_
      refine V_iloadn 46 2 O dX6_enact_46 rfl rfl ?_
      refine V_iconst 47 O dX6_enact_47 ci_1 ?_
      refine V_isub 48 O dX6_enact_48 ?_
      refine V_iald 49 O k37 dX6_enact_49 h (fun h => ?_)
      refine V_iast 50 O k37 dX6_enact_50 h (fun σ6 h => ?_)
      refine V_iinc 51 2 [1, 2, 0] [(0, .ref (zad G 27)), (1, .int x1), (2, .int (x2 + (-1 : Int32)))] O dX6_enact_51 rfl ci_m1 (Nat.le_of_ble_eq_true rfl) rfl ?_
      refine V_goto 54 13 O dX6_enact_54 rfl ?_
      exact V_sub [0, 1, 2] rfl (H13 x1 (x2 + (-1 : Int32)) σ6  h)
theorem bl_X6_enact_13 {G : zG} {x : zX} {r : Int32} {τ : Sg} (O : zO G x cX6_enact RX6 2 80 3) (E : zE G x (some (.int)) (some (.int r)) τ) (n : Nat) : ∀ (k : Nat) (x1 : Int32) (x2 : Int32) (σ : Sg), s_X6_enact_13 n k x1 x2 σ = some (r, τ) → V G x σ [(0, .ref (zad G 27)), (1, .int x1), (2, .int x2)] 13 [] := by
  intro k
  induction k with
  | zero => intro x1 x2 σ  h; cases h
  | succ k ih => intro x1 x2 σ  h; exact b_X6_enact_13 O E n  (s_X6_enact_13 n  k) ih x1 x2 σ  h
set_option maxRecDepth 20000 in
theorem C_X6_enact {l : Launch} {G : zG} {n : Nat} {x1 : Int32} {σ : Sg} {r : Int32} {τ : Sg} (h : s_X6_enact n x1 σ = some (r, τ)) : zM l G 2 yX6_enact (.code yX6_enact cX6_enact 3 (some (.int))) [.ref (zad G 27), .int x1] σ (some (.int r)) τ := by
  refine zM_of (by decide) (Nat.le_of_ble_eq_true rfl) (fun x O E => ?_)
  have O : zO G x cX6_enact RX6 2 80 3 := O
  unfold s_X6_enact at h
  show V G x σ [(0, .ref (zad G 27)), (1, .int x1)] 0 []
  refine V_aloadn 0 0 O dX6_enact_0 rfl rfl ?_
  obtain ⟨r2, σ1, g, h⟩ := bdr_of h
  have hl_r2 := draft_law g
  refine V_callVr 1 [] [] O mf_X6_draft lk_X6_32 k27 dX6_enact_1 rfl rfl (Nat.le_of_ble_eq_true rfl) ⟨(Nat.le_of_ble_eq_true rfl), (Nat.le_of_ble_eq_true rfl)⟩ (fun l => C_X6_draft  g) ?_
  refine V_iloadn 4 1 O dX6_enact_4 rfl rfl ?_
  refine V_put 5 O (zLaw_k hl_r2) fp_X6_36 dX6_enact_5 h (fun σ3 h => ?_)
  refine V_aloadn 8 0 O dX6_enact_8 rfl rfl ?_
  refine V_getI 9 O k27 fl_X6_22 dX6_enact_9 ?_
  refine V_topi h (fun v4 h => ?_)
  refine V_istoren 12 [1, 2, 0] [(0, .ref (zad G 27)), (1, .int x1), (2, .int v4)] O dX6_enact_12 rfl (Nat.le_of_ble_eq_true rfl) rfl ?_
  exact V_sub [0, 1, 2] rfl (bl_X6_enact_13 O E n  n x1 v4 σ3  h)
-- ==== Rules.countingOn(I)I
def s_X6_countingOn_12b (n : Nat) (rc12 : Int32 → Int32 → Int32 → Int32 → Sg → Option (Int32 × Sg)) (x1 : Int32) (x2 : Int32) (x3 : Int32) (x4 : Int32) (σ : Sg) : Option (Int32 × Sg) := if x4 < 0 then (some (x2, σ)) else (ck x4 8 (if x1 < (σ (rf 28 (ix x4)) 0) then (rc12 x1 x2 x3 (x4 + (-1 : Int32)) σ) else (if ((sr x3 x4) &&& (1 : Int32)) = 0 then (lt (x2 ||| (sl (1 : Int32) x4)) fun v3 => ck x4 8 (lt (x3 ||| (σ (rf 28 (ix x4)) 8)) fun v5 => rc12 x1 v3 v5 (x4 + (-1 : Int32)) σ)) else (rc12 x1 x2 x3 (x4 + (-1 : Int32)) σ))))
def s_X6_countingOn_12 (n : Nat) : Nat → Int32 → Int32 → Int32 → Int32 → Sg → Option (Int32 × Sg)
  | 0 => fun _ _ _ _ _ => none
  | k + 1 => s_X6_countingOn_12b n (s_X6_countingOn_12 n k)
def s_X6_countingOn (n : Nat) (x1 : Int32) (σ : Sg) : Option (Int32 × Sg) := lt ((σ 27 0) - (1 : Int32)) fun v1 => s_X6_countingOn_12 n n x1 (0 : Int32) (0 : Int32) v1 σ
set_option maxRecDepth 20000 in
theorem b_X6_countingOn_12 {G : zG} {x : zX} {r : Int32} {τ : Sg} (O : zO G x cX6_countingOn RX6 0 0 5) (E : zE G x (some (.int)) (some (.int r)) τ) (n : Nat) (rc12 : Int32 → Int32 → Int32 → Int32 → Sg → Option (Int32 × Sg)) (H12 : ∀ (x1 : Int32) (x2 : Int32) (x3 : Int32) (x4 : Int32) (σ : Sg), rc12 x1 x2 x3 x4 σ = some (r, τ) → V G x σ [(0, .ref (zad G 27)), (1, .int x1), (2, .int x2), (3, .int x3), (4, .int x4)] 12 []) (x1 : Int32) (x2 : Int32) (x3 : Int32) (x4 : Int32) (σ : Sg) (h : s_X6_countingOn_12b n rc12 x1 x2 x3 x4 σ = some (r, τ)) : V G x σ [(0, .ref (zad G 27)), (1, .int x1), (2, .int x2), (3, .int x3), (4, .int x4)] 12 [] := by
  unfold s_X6_countingOn_12b at h
  refine V_iload 12 4 O dX6_countingOn_12 rfl ?_
  refine V_if_lt 14 66 O dX6_countingOn_14 rfl h (fun h => ?_) (fun h => ?_)
  · refine V_iloadn 66 2 O dX6_countingOn_66 rfl rfl ?_
    exact V_iret 67 O E dX6_countingOn_67 h
  · refine V_aloadn 17 0 O dX6_countingOn_17 rfl rfl ?_
    refine V_getR 18 O k27 fl_X6_11 rf27_1 dX6_countingOn_18 ?_
    refine V_iload 21 4 O dX6_countingOn_21 rfl ?_
    refine V_aald 23 O k28 dX6_countingOn_23 h (fun q2 h => ?_)
    refine V_getI 24 O (zLaw_k (zLaw_at q2)) fl_X6_36 dX6_countingOn_24 ?_
    refine V_iloadn 27 1 O dX6_countingOn_27 rfl rfl ?_
    refine V_icmp_gt 28 60 O dX6_countingOn_28 rfl h (fun h => ?_) (fun h => ?_)
    · refine V_iinc 60 4 [1, 2, 3, 4, 0] [(0, .ref (zad G 27)), (1, .int x1), (2, .int x2), (3, .int x3), (4, .int (x4 + (-1 : Int32)))] O dX6_countingOn_60 rfl ci_m1 (Nat.le_of_ble_eq_true rfl) rfl ?_
      refine V_goto 63 12 O dX6_countingOn_63 rfl ?_
      exact V_sub [0, 1, 2, 3, 4] rfl (H12 x1 x2 x3 (x4 + (-1 : Int32)) σ  h)
    · refine V_iloadn 31 3 O dX6_countingOn_31 rfl rfl ?_
      refine V_iload 32 4 O dX6_countingOn_32 rfl ?_
      refine V_ishr 34 O dX6_countingOn_34 ?_
      refine V_iconst 35 O dX6_countingOn_35 ci_1 ?_
      refine V_iand 36 O dX6_countingOn_36 ?_
      refine V_if_ne 37 60 O dX6_countingOn_37 rfl h (fun h => ?_) (fun h => ?_)
      · refine V_iinc 60 4 [1, 2, 3, 4, 0] [(0, .ref (zad G 27)), (1, .int x1), (2, .int x2), (3, .int x3), (4, .int (x4 + (-1 : Int32)))] O dX6_countingOn_60 rfl ci_m1 (Nat.le_of_ble_eq_true rfl) rfl ?_
        refine V_goto 63 12 O dX6_countingOn_63 rfl ?_
        exact V_sub [0, 1, 2, 3, 4] rfl (H12 x1 x2 x3 (x4 + (-1 : Int32)) σ  h)
      · refine V_iloadn 40 2 O dX6_countingOn_40 rfl rfl ?_
        refine V_iconst 41 O dX6_countingOn_41 ci_1 ?_
        refine V_iload 42 4 O dX6_countingOn_42 rfl ?_
        refine V_ishl 44 O dX6_countingOn_44 ?_
        refine V_ior 45 O dX6_countingOn_45 ?_
        refine V_topi h (fun v3 h => ?_)
        refine V_istoren 46 [1, 2, 0, 3, 4] [(0, .ref (zad G 27)), (1, .int x1), (2, .int v3), (3, .int x3), (4, .int x4)] O dX6_countingOn_46 rfl (Nat.le_of_ble_eq_true rfl) rfl ?_
        refine V_iloadn 47 3 O dX6_countingOn_47 rfl rfl ?_
        refine V_aloadn 48 0 O dX6_countingOn_48 rfl rfl ?_
        refine V_getR 49 O k27 fl_X6_11 rf27_1 dX6_countingOn_49 ?_
        refine V_iload 52 4 O dX6_countingOn_52 rfl ?_
        refine V_aald 54 O k28 dX6_countingOn_54 h (fun q4 h => ?_)
        refine V_getI 55 O (zLaw_k (zLaw_at q4)) fl_X6_53 dX6_countingOn_55 ?_
        refine V_ior 58 O dX6_countingOn_58 ?_
        refine V_topi h (fun v5 h => ?_)
        refine V_istoren 59 [1, 2, 3, 0, 4] [(0, .ref (zad G 27)), (1, .int x1), (2, .int v3), (3, .int v5), (4, .int x4)] O dX6_countingOn_59 rfl (Nat.le_of_ble_eq_true rfl) rfl ?_
        refine V_iinc 60 4 [1, 2, 3, 4, 0] [(0, .ref (zad G 27)), (1, .int x1), (2, .int v3), (3, .int v5), (4, .int (x4 + (-1 : Int32)))] O dX6_countingOn_60 rfl ci_m1 (Nat.le_of_ble_eq_true rfl) rfl ?_
        refine V_goto 63 12 O dX6_countingOn_63 rfl ?_
        exact V_sub [0, 1, 2, 3, 4] rfl (H12 x1 v3 v5 (x4 + (-1 : Int32)) σ  h)
theorem bl_X6_countingOn_12 {G : zG} {x : zX} {r : Int32} {τ : Sg} (O : zO G x cX6_countingOn RX6 0 0 5) (E : zE G x (some (.int)) (some (.int r)) τ) (n : Nat) : ∀ (k : Nat) (x1 : Int32) (x2 : Int32) (x3 : Int32) (x4 : Int32) (σ : Sg), s_X6_countingOn_12 n k x1 x2 x3 x4 σ = some (r, τ) → V G x σ [(0, .ref (zad G 27)), (1, .int x1), (2, .int x2), (3, .int x3), (4, .int x4)] 12 [] := by
  intro k
  induction k with
  | zero => intro x1 x2 x3 x4 σ  h; cases h
  | succ k ih => intro x1 x2 x3 x4 σ  h; exact b_X6_countingOn_12 O E n  (s_X6_countingOn_12 n  k) ih x1 x2 x3 x4 σ  h
set_option maxRecDepth 20000 in
theorem C_X6_countingOn {l : Launch} {G : zG} {n : Nat} {x1 : Int32} {σ : Sg} {r : Int32} {τ : Sg} (h : s_X6_countingOn n x1 σ = some (r, τ)) : zM l G 0 yX6_countingOn (.code yX6_countingOn cX6_countingOn 5 (some (.int))) [.ref (zad G 27), .int x1] σ (some (.int r)) τ := by
  refine zM_of (by decide) (Nat.le_of_ble_eq_true rfl) (fun x O E => ?_)
  have O : zO G x cX6_countingOn RX6 0 0 5 := O
  unfold s_X6_countingOn at h
  show V G x σ [(0, .ref (zad G 27)), (1, .int x1)] 0 []
  refine V_iconst 0 O dX6_countingOn_0 ci_0 ?_
  refine V_istoren 1 [1, 2, 0] [(0, .ref (zad G 27)), (1, .int x1), (2, .int (0 : Int32))] O dX6_countingOn_1 rfl (Nat.le_of_ble_eq_true rfl) rfl ?_
  refine V_iconst 2 O dX6_countingOn_2 ci_0 ?_
  refine V_istoren 3 [1, 2, 3, 0] [(0, .ref (zad G 27)), (1, .int x1), (2, .int (0 : Int32)), (3, .int (0 : Int32))] O dX6_countingOn_3 rfl (Nat.le_of_ble_eq_true rfl) rfl ?_
  refine V_aloadn 4 0 O dX6_countingOn_4 rfl rfl ?_
  refine V_getI 5 O k27 fl_X6_22 dX6_countingOn_5 ?_
  refine V_iconst 8 O dX6_countingOn_8 ci_1 ?_
  refine V_isub 9 O dX6_countingOn_9 ?_
  refine V_topi h (fun v1 h => ?_)
  refine V_istore 10 [1, 2, 3, 4, 0] [(0, .ref (zad G 27)), (1, .int x1), (2, .int (0 : Int32)), (3, .int (0 : Int32)), (4, .int v1)] O dX6_countingOn_10 (Nat.le_of_ble_eq_true rfl) rfl ?_
  exact V_sub [0, 1, 2, 3, 4] rfl (bl_X6_countingOn_12 O E n  n x1 (0 : Int32) (0 : Int32) v1 σ  h)
-- ==== Rules.hold(ILWaterTown$Law;)V
def s_X6_hold_46b (n : Nat) (rc46 : Nat → Int32 → Int32 → Sg → Option Sg) (x2 : Nat) (x3 : Int32) (x4 : Int32) (σ : Sg) : Option Sg := if (σ 27 0) ≤ x4 then (some σ) else (ck x4 8 (if ((sr x3 (σ 37 (ix x4))) &&& (1 : Int32)) = (1 : Int32) then (ck x4 8 (ck (σ 37 (ix x4)) 8 (bdv (s_X2_follow n x2 (rf 28 (ix (σ 37 (ix x4)))) σ) fun σ7 => rc46 x2 x3 (x4 + (1 : Int32)) σ7))) else (rc46 x2 x3 (x4 + (1 : Int32)) σ)))
def s_X6_hold_46 (n : Nat) : Nat → Nat → Int32 → Int32 → Sg → Option Sg
  | 0 => fun _ _ _ _ => none
  | k + 1 => s_X6_hold_46b n (s_X6_hold_46 n k)
def s_X6_hold_20 (n : Nat) (x1 : Int32) (x2 : Nat) (σ : Sg) : Option Sg := lt (up2 σ x2 0 x1) fun σ1 => lt (up2 σ1 x2 1 (σ1 27 0)) fun σ2 => bdv (s_X2_sayWhatHoldsAtFirst n x2 σ2) fun σ3 => bd (s_X6_countingOn n x1 σ3) fun r5 σ4 => s_X6_hold_46 n n x2 r5 (0 : Int32) σ4
def s_X6_hold (n : Nat) (x1 : Int32) (x2 : Nat) (σ : Sg) : Option Sg := if (σ x2 0) = x1 then (if (σ x2 1) = (σ 27 0) then (some σ) else (s_X6_hold_20 n x1 x2 σ)) else (s_X6_hold_20 n x1 x2 σ)
set_option maxRecDepth 20000 in
theorem b_X6_hold_46 {G : zG} {x : zX} {τ : Sg} (O : zO G x cX6_hold RX6 2 80 5) (E : zE G x none none τ) (n : Nat) (rc46 : Nat → Int32 → Int32 → Sg → Option Sg) (H46 : ∀ (x2 : Nat) (x3 : Int32) (x4 : Int32) (σ : Sg), zLaw x2 → rc46 x2 x3 x4 σ = some τ → V G x σ [(0, .ref (zad G 27)), (2, .ref (zad G x2)), (3, .int x3), (4, .int x4)] 46 []) (x2 : Nat) (x3 : Int32) (x4 : Int32) (σ : Sg) (hx2 : zLaw x2) (h : s_X6_hold_46b n rc46 x2 x3 x4 σ = some τ) : V G x σ [(0, .ref (zad G 27)), (2, .ref (zad G x2)), (3, .int x3), (4, .int x4)] 46 [] := by
  unfold s_X6_hold_46b at h
  refine V_iload 46 3 O dX6_hold_46 rfl ?_
  refine V_aloadn 48 0 O dX6_hold_48 rfl rfl ?_
  refine V_getI 49 O k27 fl_X6_22 dX6_hold_49 ?_
  refine V_icmp_ge 52 92 O dX6_hold_52 rfl h (fun h => ?_) (fun h => ?_)
  · exact V_vret 92 O E dX6_hold_92 h
  · refine V_iloadn 55 2 O dX6_hold_55 rfl rfl ?_
    refine V_aloadn 56 0 O dX6_hold_56 rfl rfl ?_
    refine V_getR 57 O k27 fl_X6_17 rf27_2 dX6_hold_57 ?_
    refine V_iload 60 3 O dX6_hold_60 rfl ?_
    refine V_iald 62 O k37 dX6_hold_62 h (fun h => ?_)
    refine V_ishr 63 O dX6_hold_63 ?_
    refine V_iconst 64 O dX6_hold_64 ci_1 ?_
    refine V_iand 65 O dX6_hold_65 ?_
    refine V_iconst 66 O dX6_hold_66 ci_1 ?_
    refine V_icmp_ne 67 86 O dX6_hold_67 rfl h (fun h => ?_) (fun h => ?_)
    · refine V_iinc 86 3 [1, 2, 3, 0] [(0, .ref (zad G 27)), (2, .ref (zad G x2)), (3, .int x3), (4, .int (x4 + (1 : Int32)))] O dX6_hold_86 rfl ci_1 (Nat.le_of_ble_eq_true rfl) rfl ?_
      refine V_goto 89 46 O dX6_hold_89 rfl ?_
      exact V_sub [0, 1, 2, 3] rfl (H46 x2 x3 (x4 + (1 : Int32)) σ hx2 h)
    · refine V_aloadn 70 1 O dX6_hold_70 rfl rfl ?_
      refine V_aloadn 71 0 O dX6_hold_71 rfl rfl ?_
      refine V_getR 72 O k27 fl_X6_11 rf27_1 dX6_hold_72 ?_
      refine V_aloadn 75 0 O dX6_hold_75 rfl rfl ?_
      refine V_getR 76 O k27 fl_X6_17 rf27_2 dX6_hold_76 ?_
      refine V_iload 79 3 O dX6_hold_79 rfl ?_
      refine V_iald 81 O k37 dX6_hold_81 h (fun h => ?_)
      refine V_aald 82 O k28 dX6_hold_82 h (fun q6 h => ?_)
      obtain ⟨σ7, g, h⟩ := bdv_of h
      refine V_callVv 83 [.ref (zad G (rf 28 (ix (σ 37 (ix x4)))))] [] O mf_X2_follow lk_X6_49 (zLaw_k hx2) dX6_hold_83 rfl rfl (Nat.le_of_ble_eq_true rfl) ⟨(Nat.le_of_ble_eq_true rfl), (Nat.le_of_ble_eq_true rfl)⟩ (fun l => C_X2_follow hx2 (zLaw_at q6) g) ?_
      refine V_iinc 86 3 [1, 2, 3, 0] [(0, .ref (zad G 27)), (2, .ref (zad G x2)), (3, .int x3), (4, .int (x4 + (1 : Int32)))] O dX6_hold_86 rfl ci_1 (Nat.le_of_ble_eq_true rfl) rfl ?_
      refine V_goto 89 46 O dX6_hold_89 rfl ?_
      exact V_sub [0, 1, 2, 3] rfl (H46 x2 x3 (x4 + (1 : Int32)) σ7 hx2 h)
theorem bl_X6_hold_46 {G : zG} {x : zX} {τ : Sg} (O : zO G x cX6_hold RX6 2 80 5) (E : zE G x none none τ) (n : Nat) : ∀ (k : Nat) (x2 : Nat) (x3 : Int32) (x4 : Int32) (σ : Sg), zLaw x2 → s_X6_hold_46 n k x2 x3 x4 σ = some τ → V G x σ [(0, .ref (zad G 27)), (2, .ref (zad G x2)), (3, .int x3), (4, .int x4)] 46 [] := by
  intro k
  induction k with
  | zero => intro x2 x3 x4 σ hx2 h; cases h
  | succ k ih => intro x2 x3 x4 σ hx2 h; exact b_X6_hold_46 O E n  (s_X6_hold_46 n  k) ih x2 x3 x4 σ hx2 h
set_option maxRecDepth 20000 in
theorem b_X6_hold_20 {G : zG} {x : zX} {τ : Sg} (O : zO G x cX6_hold RX6 2 80 5) (E : zE G x none none τ) (n : Nat) (x1 : Int32) (x2 : Nat) (σ : Sg) (hx2 : zLaw x2) (h : s_X6_hold_20 n x1 x2 σ = some τ) : V G x σ [(0, .ref (zad G 27)), (1, .int x1), (2, .ref (zad G x2))] 20 [] := by
  unfold s_X6_hold_20 at h
  refine V_aloadn 20 2 O dX6_hold_20 rfl rfl ?_
  refine V_iloadn 21 1 O dX6_hold_21 rfl rfl ?_
  refine V_put 22 O (zLaw_k hx2) fp_X6_36 dX6_hold_22 h (fun σ1 h => ?_)
  refine V_aloadn 25 2 O dX6_hold_25 rfl rfl ?_
  refine V_aloadn 26 0 O dX6_hold_26 rfl rfl ?_
  refine V_getI 27 O k27 fl_X6_22 dX6_hold_27 ?_
  refine V_put 30 O (zLaw_k hx2) fp_X6_39 dX6_hold_30 h (fun σ2 h => ?_)
  refine V_aloadn 33 2 O dX6_hold_33 rfl rfl ?_
  obtain ⟨σ3, g, h⟩ := bdv_of h
  refine V_callVv 34 [] [] O mf_X2_sayWhatHoldsAtFirst lk_X6_42 (zLaw_k hx2) dX6_hold_34 rfl rfl (Nat.le_of_ble_eq_true rfl) ⟨(Nat.le_of_ble_eq_true rfl), (Nat.le_of_ble_eq_true rfl)⟩ (fun l => C_X2_sayWhatHoldsAtFirst hx2 g) ?_
  refine V_aloadn 37 0 O dX6_hold_37 rfl rfl ?_
  refine V_iloadn 38 1 O dX6_hold_38 rfl rfl ?_
  obtain ⟨r5, σ4, g, h⟩ := bd_of h
  refine V_callVi 39 [.int x1] [] O mf_X6_countingOn lk_X6_45 k27 dX6_hold_39 rfl rfl (Nat.le_of_ble_eq_true rfl) ⟨(Nat.le_of_ble_eq_true rfl), (Nat.le_of_ble_eq_true rfl)⟩ (fun l => C_X6_countingOn  g) ?_
  refine V_istoren 42 [1, 2, 3, 0] [(0, .ref (zad G 27)), (1, .int x1), (2, .ref (zad G x2)), (3, .int r5)] O dX6_hold_42 rfl (Nat.le_of_ble_eq_true rfl) rfl ?_
  refine V_iconst 43 O dX6_hold_43 ci_0 ?_
  refine V_istore 44 [1, 2, 3, 4, 0] [(0, .ref (zad G 27)), (1, .int x1), (2, .ref (zad G x2)), (3, .int r5), (4, .int (0 : Int32))] O dX6_hold_44 (Nat.le_of_ble_eq_true rfl) rfl ?_
  exact V_sub [0, 2, 3, 4] rfl (bl_X6_hold_46 O E n  n x2 r5 (0 : Int32) σ4 hx2 h)
set_option maxRecDepth 20000 in
theorem C_X6_hold {l : Launch} {G : zG} {n : Nat} {x1 : Int32} {x2 : Nat} {σ : Sg} {τ : Sg} (hx2 : zLaw x2) (h : s_X6_hold n x1 x2 σ = some τ) : zM l G 2 yX6_hold (.code yX6_hold cX6_hold 5 none) [.ref (zad G 27), .int x1, .ref (zad G x2)] σ none τ := by
  refine zM_of (by decide) (Nat.le_of_ble_eq_true rfl) (fun x O E => ?_)
  have O : zO G x cX6_hold RX6 2 80 5 := O
  unfold s_X6_hold at h
  show V G x σ [(0, .ref (zad G 27)), (1, .int x1), (2, .ref (zad G x2))] 0 []
  refine V_aloadn 0 2 O dX6_hold_0 rfl rfl ?_
  refine V_getI 1 O (zLaw_k hx2) fl_X6_36 dX6_hold_1 ?_
  refine V_iloadn 4 1 O dX6_hold_4 rfl rfl ?_
  refine V_icmp_ne 5 20 O dX6_hold_5 rfl h (fun h => ?_) (fun h => ?_)
  · exact V_sub [0, 1, 2] rfl (b_X6_hold_20 O E n  x1 x2 σ hx2 h)
  · refine V_aloadn 8 2 O dX6_hold_8 rfl rfl ?_
    refine V_getI 9 O (zLaw_k hx2) fl_X6_39 dX6_hold_9 ?_
    refine V_aloadn 12 0 O dX6_hold_12 rfl rfl ?_
    refine V_getI 13 O k27 fl_X6_22 dX6_hold_13 ?_
    refine V_icmp_ne 16 20 O dX6_hold_16 rfl h (fun h => ?_) (fun h => ?_)
    · exact V_sub [0, 1, 2] rfl (b_X6_hold_20 O E n  x1 x2 σ hx2 h)
    · exact V_vret 19 O E dX6_hold_19 h
-- ==== Rules.someBeginOn(I)Z
def s_X6_someBeginOn_2b (n : Nat) (rc2 : Int32 → Int32 → Sg → Option (Int32 × Sg)) (x1 : Int32) (x2 : Int32) (σ : Sg) : Option (Int32 × Sg) := if (σ 27 0) ≤ x2 then (some ((0 : Int32), σ)) else (ck x2 8 (if (σ (rf 28 (ix x2)) 0) = x1 then (some ((1 : Int32), σ)) else (rc2 x1 (x2 + (1 : Int32)) σ)))
def s_X6_someBeginOn_2 (n : Nat) : Nat → Int32 → Int32 → Sg → Option (Int32 × Sg)
  | 0 => fun _ _ _ => none
  | k + 1 => s_X6_someBeginOn_2b n (s_X6_someBeginOn_2 n k)
def s_X6_someBeginOn (n : Nat) (x1 : Int32) (σ : Sg) : Option (Int32 × Sg) := s_X6_someBeginOn_2 n n x1 (0 : Int32) σ
set_option maxRecDepth 20000 in
theorem b_X6_someBeginOn_2 {G : zG} {x : zX} {r : Int32} {τ : Sg} (O : zO G x cX6_someBeginOn RX6 0 0 3) (E : zE G x (some (.boolean)) (some (.int r)) τ) (n : Nat) (rc2 : Int32 → Int32 → Sg → Option (Int32 × Sg)) (H2 : ∀ (x1 : Int32) (x2 : Int32) (σ : Sg), rc2 x1 x2 σ = some (r, τ) → V G x σ [(0, .ref (zad G 27)), (1, .int x1), (2, .int x2)] 2 []) (x1 : Int32) (x2 : Int32) (σ : Sg) (h : s_X6_someBeginOn_2b n rc2 x1 x2 σ = some (r, τ)) : V G x σ [(0, .ref (zad G 27)), (1, .int x1), (2, .int x2)] 2 [] := by
  unfold s_X6_someBeginOn_2b at h
  refine V_iloadn 2 2 O dX6_someBeginOn_2 rfl rfl ?_
  refine V_aloadn 3 0 O dX6_someBeginOn_3 rfl rfl ?_
  refine V_getI 4 O k27 fl_X6_22 dX6_someBeginOn_4 ?_
  refine V_icmp_ge 7 31 O dX6_someBeginOn_7 rfl h (fun h => ?_) (fun h => ?_)
  · refine V_iconst 31 O dX6_someBeginOn_31 ci_0 ?_
    exact V_zret0 32 O E dX6_someBeginOn_32 h
  · refine V_aloadn 10 0 O dX6_someBeginOn_10 rfl rfl ?_
    refine V_getR 11 O k27 fl_X6_11 rf27_1 dX6_someBeginOn_11 ?_
    refine V_iloadn 14 2 O dX6_someBeginOn_14 rfl rfl ?_
    refine V_aald 15 O k28 dX6_someBeginOn_15 h (fun q1 h => ?_)
    refine V_getI 16 O (zLaw_k (zLaw_at q1)) fl_X6_36 dX6_someBeginOn_16 ?_
    refine V_iloadn 19 1 O dX6_someBeginOn_19 rfl rfl ?_
    refine V_icmp_ne 20 25 O dX6_someBeginOn_20 rfl h (fun h => ?_) (fun h => ?_)
    · refine V_iinc 25 2 [1, 2, 0] [(0, .ref (zad G 27)), (1, .int x1), (2, .int (x2 + (1 : Int32)))] O dX6_someBeginOn_25 rfl ci_1 (Nat.le_of_ble_eq_true rfl) rfl ?_
      refine V_goto 28 2 O dX6_someBeginOn_28 rfl ?_
      exact V_sub [0, 1, 2] rfl (H2 x1 (x2 + (1 : Int32)) σ  h)
    · refine V_iconst 23 O dX6_someBeginOn_23 ci_1 ?_
      exact V_zret1 24 O E dX6_someBeginOn_24 h
theorem bl_X6_someBeginOn_2 {G : zG} {x : zX} {r : Int32} {τ : Sg} (O : zO G x cX6_someBeginOn RX6 0 0 3) (E : zE G x (some (.boolean)) (some (.int r)) τ) (n : Nat) : ∀ (k : Nat) (x1 : Int32) (x2 : Int32) (σ : Sg), s_X6_someBeginOn_2 n k x1 x2 σ = some (r, τ) → V G x σ [(0, .ref (zad G 27)), (1, .int x1), (2, .int x2)] 2 [] := by
  intro k
  induction k with
  | zero => intro x1 x2 σ  h; cases h
  | succ k ih => intro x1 x2 σ  h; exact b_X6_someBeginOn_2 O E n  (s_X6_someBeginOn_2 n  k) ih x1 x2 σ  h
set_option maxRecDepth 20000 in
theorem C_X6_someBeginOn {l : Launch} {G : zG} {n : Nat} {x1 : Int32} {σ : Sg} {r : Int32} {τ : Sg} (h : s_X6_someBeginOn n x1 σ = some (r, τ)) : zM l G 0 yX6_someBeginOn (.code yX6_someBeginOn cX6_someBeginOn 3 (some (.boolean))) [.ref (zad G 27), .int x1] σ (some (.int r)) τ := by
  refine zM_of (by decide) (Nat.le_of_ble_eq_true rfl) (fun x O E => ?_)
  have O : zO G x cX6_someBeginOn RX6 0 0 3 := O
  unfold s_X6_someBeginOn at h
  show V G x σ [(0, .ref (zad G 27)), (1, .int x1)] 0 []
  refine V_iconst 0 O dX6_someBeginOn_0 ci_0 ?_
  refine V_istoren 1 [1, 2, 0] [(0, .ref (zad G 27)), (1, .int x1), (2, .int (0 : Int32))] O dX6_someBeginOn_1 rfl (Nat.le_of_ble_eq_true rfl) rfl ?_
  exact V_sub [0, 1, 2] rfl (bl_X6_someBeginOn_2 O E n  n x1 (0 : Int32) σ  h)
-- ==== Stand.startAs(LWaterTown$Stand;)V
def s_X7_startAs (n : Nat) (x0 : Nat) (x1 : Nat) (σ : Sg) : Option Sg := lt (cp2 σ (rf x1 0) (rf x0 0) 0 0 10) fun σ1 => bdv (s_J7_fill_53178 n (rf x0 1) 10 (0 : Int32) σ1) fun σ2 => some σ2
set_option maxRecDepth 20000 in
theorem C_X7_startAs {l : Launch} {G : zG} {n : Nat} {x0 : Nat} {x1 : Nat} {σ : Sg} {τ : Sg} (hx0 : zStand x0) (hx1 : zStand x1) (h : s_X7_startAs n x0 x1 σ = some τ) : zM l G 1 yX7_startAs (.code yX7_startAs cX7_startAs 2 none) [.ref (zad G x0), .ref (zad G x1)] σ none τ := by
  refine zM_of (by decide) (Nat.le_of_ble_eq_true rfl) (fun x O E => ?_)
  have O : zO G x cX7_startAs RX7 1 40 2 := O
  unfold s_X7_startAs at h
  show V G x σ [(0, .ref (zad G x0)), (1, .ref (zad G x1))] 0 []
  refine V_aloadn 0 1 O dX7_startAs_0 rfl rfl ?_
  refine V_getR 1 O (zStand_k hx1) fl_X7_9 rfl dX7_startAs_1 ?_
  refine V_iconst 4 O dX7_startAs_4 ci_0 ?_
  refine V_aloadn 5 0 O dX7_startAs_5 rfl rfl ?_
  refine V_getR 6 O (zStand_k hx0) fl_X7_9 rfl dX7_startAs_6 ?_
  refine V_iconst 9 O dX7_startAs_9 ci_0 ?_
  refine V_bipush 10 O dX7_startAs_10 cb_10 ?_
  refine V_copy 12 O lk_X7_18 mm_cpy.1 mm_cpy.2.1 mm_cpy.2.2 (zStand_0 hx1) (zStand_0 hx0) (Nat.le_of_ble_eq_true rfl) (Nat.le_of_ble_eq_true rfl) dX7_startAs_12 h (fun σ1 h => ?_)
  refine V_aloadn 15 0 O dX7_startAs_15 rfl rfl ?_
  refine V_getR 16 O (zStand_k hx0) fl_X7_15 rfl dX7_startAs_16 ?_
  refine V_iconst 19 O dX7_startAs_19 ci_0 ?_
  obtain ⟨σ2, g, h⟩ := bdv_of h
  refine V_callSv 20 [.ref (zad G (rf x0 1)), .int (0 : Int32)] [] O mf_J7_fill_53178 lk_X7_24 dX7_startAs_20 rfl rfl (Nat.le_of_ble_eq_true rfl) ⟨(Nat.le_of_ble_eq_true rfl), (Nat.le_of_ble_eq_true rfl)⟩ (fun l => C_J7_fill_53178 (zStand_1 hx0) g) ?_
  exact V_vret 23 O E dX7_startAs_23 h
-- ==== Stand.takeCisterns(LWaterTown$Stand;)V
def s_X7_takeCisterns (n : Nat) (x0 : Nat) (x1 : Nat) (σ : Sg) : Option Sg := lt (cp2 σ (rf x1 1) (rf x0 1) 0 0 10) fun σ1 => some σ1
set_option maxRecDepth 20000 in
theorem C_X7_takeCisterns {l : Launch} {G : zG} {n : Nat} {x0 : Nat} {x1 : Nat} {σ : Sg} {τ : Sg} (hx0 : zStand x0) (hx1 : zStand x1) (h : s_X7_takeCisterns n x0 x1 σ = some τ) : zM l G 1 yX7_takeCisterns (.code yX7_takeCisterns cX7_takeCisterns 2 none) [.ref (zad G x0), .ref (zad G x1)] σ none τ := by
  refine zM_of (by decide) (Nat.le_of_ble_eq_true rfl) (fun x O E => ?_)
  have O : zO G x cX7_takeCisterns RX7 1 40 2 := O
  unfold s_X7_takeCisterns at h
  show V G x σ [(0, .ref (zad G x0)), (1, .ref (zad G x1))] 0 []
  refine V_aloadn 0 1 O dX7_takeCisterns_0 rfl rfl ?_
  refine V_getR 1 O (zStand_k hx1) fl_X7_15 rfl dX7_takeCisterns_1 ?_
  refine V_iconst 4 O dX7_takeCisterns_4 ci_0 ?_
  refine V_aloadn 5 0 O dX7_takeCisterns_5 rfl rfl ?_
  refine V_getR 6 O (zStand_k hx0) fl_X7_15 rfl dX7_takeCisterns_6 ?_
  refine V_iconst 9 O dX7_takeCisterns_9 ci_0 ?_
  refine V_bipush 10 O dX7_takeCisterns_10 cb_10 ?_
  refine V_copy 12 O lk_X7_18 mm_cpy.1 mm_cpy.2.1 mm_cpy.2.2 (zStand_1 hx1) (zStand_1 hx0) (Nat.le_of_ble_eq_true rfl) (Nat.le_of_ble_eq_true rfl) dX7_takeCisterns_12 h (fun σ1 h => ?_)
  exact V_vret 15 O E dX7_takeCisterns_15 h
