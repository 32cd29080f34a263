/-! ===== order: the whole call, both sides ===== -/
theorem alw_go {n ns : Nat} {v : Int32} {K : Nat → Bool} {σ : Sg} (hns : ns ≤ 10) (hK : ∀ s, s < ns → σ 23 s = zo (K s)) : ∀ (e s k : Nat), s + e = ns → e < k → (∀ i, i < s → bt v i = true → K i = false) → ∃ b, s_X7_hasAlways_2 n k 22 v (nI ns) (nI s) σ = some (zo b, σ) ∧ (b = true → ∃ i, i < ns ∧ bt v i = true ∧ K i = true) ∧ (b = false → ∀ i, i < ns → bt v i = true → K i = false) := by
  intro e
  induction e with
  | zero =>
    intro s k hs hk hd
    obtain ⟨k, rfl⟩ : ∃ k', k = k' + 1 := ⟨k - 1, by omega⟩
    have hs : s = ns := by omega
    subst hs
    refine ⟨false, ?_, fun z => by (cases z), fun _ => hd⟩
    show s_X7_hasAlways_2b n _ _ _ _ _ _ = _
    unfold s_X7_hasAlways_2b
    rw [if_pos (Int32.le_refl _)]
    rfl
  | succ e ih =>
    intro s k hs hk hd
    obtain ⟨k, rfl⟩ : ∃ k', k = k' + 1 := ⟨k - 1, by omega⟩
    have h23 : σ (rf 22 0) s = zo (K s) := hK s (by omega)
    show ∃ b, s_X7_hasAlways_2b n (s_X7_hasAlways_2 n k) _ _ _ _ _ = _ ∧ _
    unfold s_X7_hasAlways_2b
    rw [if_neg (by rw [nle (by omega) (by omega)]; omega), sr_bit v (show s < 32 by omega), show nI s + 1 = nI (s + 1) from nI_1 s]
    cases hb : bt v s
    · rw [if_neg (by rw [if_neg (by decide)]; decide)]
      refine ih (s + 1) k (by omega) (by omega) (fun i hi hbi => ?_)
      by_cases e1 : i = s
      · rw [e1, hb] at hbi; cases hbi
      · exact hd i (by omega) hbi
    · rw [if_pos (by rw [if_pos rfl]), ck_n (by omega) (by omega), ix_n (by omega), h23]
      cases hk2 : K s
      · rw [if_neg (show ¬ zo false = 1 by decide)]
        refine ih (s + 1) k (by omega) (by omega) (fun i hi hbi => ?_)
        by_cases e1 : i = s
        · rw [e1]; exact hk2
        · exact hd i (by omega) hbi
      · rw [if_pos (show zo true = 1 from rfl)]
        exact ⟨true, rfl, fun _ => ⟨s, by omega, hb, hk2⟩, fun z => by (cases z)⟩
theorem not_go {n ns s0 : Nat} {v x2 : Int32} {K : Nat → Bool} (hns : ns ≤ 10) (h6 : pcn v ns ≤ 6) (hs0 : s0 < ns) (hb0 : bt v s0 = true) (hk0 : K s0 = true) : ∀ (e s k : Nat) (σ : Sg), s + e = s0 → e < k → σ 71 11 = nI ns → σ 71 63 = nI (pcn v s) → (∀ t, t < ns → σ 86 t = zo (K t)) → ∃ τ, s_X12_order_37 n k v x2 (nI s) σ = some (-1003, τ) ∧ ∀ o j, o ≠ 111 → (o = 71 → j ≠ 63) → τ o j = σ o j := by
  intro e
  induction e with
  | zero =>
    intro s k σ hs hk h0 h63 hK
    obtain ⟨k, rfl⟩ : ∃ k', k = k' + 1 := ⟨k - 1, by omega⟩
    have hs : s = s0 := by omega
    subst hs
    show ∃ τ, s_X12_order_37b n _ _ _ _ _ = _ ∧ _
    unfold s_X12_order_37b
    rw [h0, if_neg (by rw [nle (by omega) (by omega)]; omega), sr_bit v (show s < 32 by omega), hb0, if_pos (by rw [if_pos rfl]), ck_n (by omega) (by omega), ix_n (by omega), hK s hs0, hk0, if_neg z_t]
    exact ⟨σ, rfl, fun _ _ _ _ => rfl⟩
  | succ e ih =>
    intro s k σ hs hk h0 h63 hK
    obtain ⟨k, rfl⟩ : ∃ k', k = k' + 1 := ⟨k - 1, by omega⟩
    have hp := pcn_le v s
    show ∃ τ, s_X12_order_37b n (s_X12_order_37 n k) _ _ _ _ = _ ∧ _
    unfold s_X12_order_37b
    rw [h0, if_neg (by rw [nle (by omega) (by omega)]; omega), sr_bit v (show s < 32 by omega), show nI s + 1 = nI (s + 1) from nI_1 s]
    cases hb : bt v s
    · rw [if_neg (by rw [if_neg (by decide)]; decide)]
      exact ih (s + 1) k σ (by omega) (by omega) h0 (by rw [h63, pcn_s, hb]; rfl) hK
    · rw [if_pos (by rw [if_pos rfl]), ck_n (by omega) (by omega), ix_n (by omega), hK s (by omega)]
      have hlt := pcn_lt (show s < ns by omega) hb
      cases hk2 : K s
      · rw [if_pos z_f, h63, ck_n (by omega) (by omega), ix_n (by omega), lt_eq, lt_eq]
        have e63 : up2 σ 111 (pcn v s) (nI s) 71 63 = nI (pcn v s) := by rw [up2_o (by decide)]; exact h63
        rw [e63, nI_1]
        obtain ⟨τ, t1, t2⟩ := ih (s + 1) k (up2 (up2 σ 111 (pcn v s) (nI s)) 71 63 (nI (pcn v s + 1))) (by omega) (by omega) (by rw [up2_app, if_pos rfl, if_neg (by decide), up2_o (by decide)]; exact h0) (by rw [pcn_s, hb]; simp [up2_app]) (fun t ht => by rw [up2_o (by decide), up2_o (by decide)]; exact hK t ht)
        refine ⟨τ, t1, fun o j p1 p2 => ?_⟩
        rw [t2 o j p1 p2]
        by_cases e1 : o = 71
        · subst e1
          simp only [up2_app, p2 rfl, if_false, ite_self]
          rw [if_neg (by decide)]
        · rw [up2_o e1, up2_o p1]
      · rw [if_neg z_t]
        exact ⟨σ, rfl, fun _ _ _ _ => rfl⟩
theorem ordm_go {n ns : Nat} {v x2 : Int32} {K : Nat → Bool} (hns : ns ≤ 10) (h6 : pcn v ns ≤ 6) (hkk : ∀ s, s < ns → bt v s = true → K s = false) : ∀ (e s k : Nat) (σ : Sg), s + e = ns → e < k → σ 71 11 = nI ns → σ 71 63 = nI (pcn v s) → (∀ t, t < ns → σ 86 t = zo (K t)) → (∀ i, i < s → bt v i = true → σ 111 (pcn v i) = nI i) → ∃ τ, s_X12_order_37 n k v x2 (nI s) σ = s_X12_order_95 n n x2 0 τ ∧ τ 71 63 = nI (pcn v ns) ∧ (∀ i, i < ns → bt v i = true → τ 111 (pcn v i) = nI i) ∧ ∀ o j, o ≠ 111 → (o = 71 → j ≠ 63) → τ o j = σ o j := by
  intro e
  induction e with
  | zero =>
    intro s k σ hs hk h0 h63 hK hd
    obtain ⟨k, rfl⟩ : ∃ k', k = k' + 1 := ⟨k - 1, by omega⟩
    have hs : s = ns := by omega
    subst hs
    refine ⟨σ, ?_, h63, hd, fun _ _ _ _ => rfl⟩
    show s_X12_order_37b n _ _ _ _ _ = _
    unfold s_X12_order_37b
    rw [h0, if_pos (Int32.le_refl _)]
  | succ e ih =>
    intro s k σ hs hk h0 h63 hK hd
    obtain ⟨k, rfl⟩ : ∃ k', k = k' + 1 := ⟨k - 1, by omega⟩
    have hp := pcn_le v s
    show ∃ τ, s_X12_order_37b n (s_X12_order_37 n k) _ _ _ _ = _ ∧ _
    unfold s_X12_order_37b
    rw [h0, if_neg (by rw [nle (by omega) (by omega)]; omega), sr_bit v (show s < 32 by omega), show nI s + 1 = nI (s + 1) from nI_1 s]
    cases hb : bt v s
    · rw [if_neg (by rw [if_neg (by decide)]; decide)]
      refine ih (s + 1) k σ (by omega) (by omega) h0 (by rw [h63, pcn_s, hb]; rfl) hK (fun i hi hbi => ?_)
      by_cases e1 : i = s
      · rw [e1, hb] at hbi; cases hbi
      · exact hd i (by omega) hbi
    · have hlt := pcn_lt (show s < ns by omega) hb
      rw [if_pos (by rw [if_pos rfl]), ck_n (by omega) (by omega), ix_n (by omega), hK s (by omega), hkk s (by omega) hb, if_pos z_f, h63, ck_n (by omega) (by omega), ix_n (by omega), lt_eq, lt_eq]
      have e63 : up2 σ 111 (pcn v s) (nI s) 71 63 = nI (pcn v s) := by rw [up2_o (by decide)]; exact h63
      rw [e63, nI_1]
      obtain ⟨τ, t1, t2, t3, t4⟩ := ih (s + 1) k (up2 (up2 σ 111 (pcn v s) (nI s)) 71 63 (nI (pcn v s + 1))) (by omega) (by omega) (by rw [up2_app, if_pos rfl, if_neg (by decide), up2_o (by decide)]; exact h0) (by rw [pcn_s, hb]; simp [up2_app]) (fun t ht => by rw [up2_o (by decide), up2_o (by decide)]; exact hK t ht) (fun i hi hbi => by
        rw [up2_o (by decide)]
        by_cases e1 : i = s
        · rw [e1]; simp [up2_app]
        · have : ¬ pcn v i = pcn v s := by
            have := pcn_lt (show i < s by omega) hbi
            omega
          simp only [up2_app, this, if_false, ite_self]
          exact hd i (by omega) hbi)
      refine ⟨τ, t1, t2, t3, fun o j p1 p2 => ?_⟩
      rw [t4 o j p1 p2]
      by_cases e1 : o = 71
      · subst e1
        simp only [up2_app, p2 rfl, if_false, ite_self]
        rw [if_neg (by decide)]
      · rw [up2_o e1, up2_o p1]
theorem memo_go {n : Nat} {x2 : Int32} (hn : 2000 ≤ n) : ∀ (e i k : Nat) (σ : Sg), i + e = 1024 → e < k → (∀ X, X < i → σ 113 X = -1) → ∃ τ, s_X12_order_95 n k x2 (nI i) σ = (bd (s_X12_dayNow n τ) fun r7 σ6 => bdv (s_X12_findRules n r7 σ6) fun σ8 => bdv (s_X12_keepAll n (0 : Int32) σ8) fun σ9 => s_X12_order_133 n n x2 (-1 : Int32) (1 : Int32) σ9) ∧ (∀ X, X < 1024 → τ 113 X = -1) ∧ ∀ o j, o ≠ 113 → τ o j = σ o j := by
  intro e
  induction e with
  | zero =>
    intro i k σ hi hk hd
    obtain ⟨k, rfl⟩ : ∃ k', k = k' + 1 := ⟨k - 1, by omega⟩
    have hi : i = 1024 := by omega
    subst hi
    refine ⟨σ, ?_, hd, fun _ _ _ => rfl⟩
    show s_X12_order_95b n _ _ _ _ = _
    unfold s_X12_order_95b
    rw [if_pos (by decide)]
  | succ e ih =>
    intro i k σ hi hk hd
    obtain ⟨k, rfl⟩ : ∃ k', k = k' + 1 := ⟨k - 1, by omega⟩
    show ∃ τ, s_X12_order_95b n (s_X12_order_95 n k) _ _ _ = _ ∧ _
    unfold s_X12_order_95b
    rw [if_neg (by rw [show (1024 : Int32) = nI 1024 from rfl, nle (by omega) (by omega)]; omega), ck_n (by omega) (by omega), ix_n (by omega), lt_eq, show nI i + 1 = nI (i + 1) from nI_1 i]
    obtain ⟨τ, t1, t2, t3⟩ := ih (i + 1) k (up2 σ 113 i (-1)) (by omega) (by omega) (fun X hX => by
      by_cases e1 : X = i
      · rw [e1]; simp [up2_app]
      · simp only [up2_app, e1, if_false, ite_self]; exact hd X (by omega))
    exact ⟨τ, t1, t2, fun o j ho => by rw [t3 o j ho, up2_o ho]⟩
theorem prm_hd : ∀ m, m < 7 → (prm m m 0).head? = some (List.range m) := by decide +kernel
/-- what the call answers -/
def oAn (m : Nat) (B : Nat × List Nat) (v x2 : Int32) : Int32 := if x2 = -1 then nI B.1 else if pin m x2 = true then nI (mem v (B.2.getD (ix x2) 0)) else -1
theorem order99 {n : Nat} {N : Net} {S : Str} {K : Nat → Bool} {pu : Nat → Int32} {L : Lw} {v x2 : Int32} {σ : Sg} (h6 : pcn v (sN S) ≤ 6) (h : pAn N S K pu L v σ) : s_X11_order_99 n x2 σ = some (oAn (pcn v (sN S)) (obst (pcn v (sN S)) (ocs N S K pu L v (pcn v (sN S))) (pcn v (sN S)) 0) v x2, σ) := by
  unfold s_X11_order_99 s_X11_order_139 oAn
  by_cases e1 : x2 = -1
  · rw [if_pos e1, if_pos e1, h.2.1]
  · rw [if_neg e1, if_neg e1, h.1]
    cases e2 : pin (pcn v (sN S)) x2
    · rw [if_neg (show ¬ false = true by decide)]
      unfold pin at e2
      by_cases q1 : x2 < 0
      · rw [if_pos q1]
      · rw [if_neg q1]
        rw [decide_eq_true (Int32.not_lt.mp q1), Bool.true_and] at e2
        rw [if_pos (Int32.not_lt.mp (of_decide_eq_false e2))]
    · obtain ⟨i, hi, rfl⟩ := pin_n (by omega) e2
      obtain ⟨k, k1, k2, k3⟩ := h.2.2 i hi
      rw [if_pos rfl, if_neg (n_nlt0 (by omega)), if_neg (by rw [nle (by omega) (by omega)]; omega), ck_n (by omega) (by omega), ix_n (by omega), k3, List.getD_eq_getElem?_getD, k1]
      rfl
theorem morder_in {n : Nat} {x2 v : Int32} {N : Net} {ma mb : Nat → Nat} {S : Str} {K : Knd} {now : Nat} {pu : Nat → Int32} {Rs : Nat → Rl} {nr c : Nat} {σ : Sg} (hn : 300000 ≤ n) (h : InvD N ma mb S K now pu Rs nr c σ) (h6 : pcn v (sN S) ≤ 6) (hkk : ∀ s, s < sN S → bt v s = true → K.1 s = false) : ∃ τ, s_X12_order_37 n n v x2 0 (up2 σ 71 63 0) = some (oAn (pcn v (sN S)) (obst (pcn v (sN S)) (ocs N S K.1 pu (lwO (HdN Rs nr now)) v (pcn v (sN S))) (pcn v (sN S)) 0) v x2, τ) ∧ (∀ t, t < 10 → (∀ o, 88 ≤ o → o ≤ 92 → τ o t = σ o t) ∧ τ 86 t = vp_nar .boolean (vp_nar .boolean (σ 86 t))) ∧ τ 71 25 = σ 71 25 := by
  obtain ⟨h1, h2, h3, h4, h5, h6', h7, h8, h9, h10, h11⟩ := h
  have hs10 := h2.1.1
  have hm7 : pcn v (sN S) < 7 := by omega
  obtain ⟨σ1, a1, a2, a3, a4⟩ := ordm_go (n := n) (x2 := x2) (K := K.1) hs10 h6 hkk (sN S) 0 n (up2 σ 71 63 0) (by omega) (by omega) (by rw [up2_app, if_pos rfl, if_neg (by decide)]; exact h2.2.2.2.1.1) (by simp [up2_app]; rfl) (fun t ht => by rw [up2_o (by decide)]; exact (h2.2.2.2.2.2.1 t ht).1) (fun i hi => absurd hi (Nat.not_lt_zero _))
  obtain ⟨σ2, b1, b2, b3⟩ := memo_go (n := n) (x2 := x2) (by omega) 1024 0 n σ1 (by omega) (by omega) (fun X hX => absurd hX (Nat.not_lt_zero _))
  have f2 : ∀ o j, o ≠ 111 → o ≠ 113 → (o = 71 → j ≠ 63) → σ2 o j = σ o j := fun o j p1 p2 p3 => by
    rw [b3 o j p2, a4 o j p1 p3]
    by_cases e : o = 71
    · subst e
      simp only [up2_app, p3 rfl, if_false, ite_self]
    · exact up2_o e
  have n71 : ∀ {o : Nat}, o ≠ 71 → ∀ {j : Nat}, (o = 71 → j ≠ 63) := fun h _ z => absurd z h
  obtain ⟨cn, cl, hmR⟩ := h6'.2.1
  have hmR2 : mR Rs nr cn cl σ2 := mR_of hmR (f2 71 26 (by decide) (by decide) (fun _ => by decide)) (fun o j p q => f2 o j (by omega) (by omega) (fun z => by omega))
  obtain ⟨σ3, c1, c2⟩ := findRules_ok (n := n) (d := dyN now) (by omega) dyN_lt hmR2
  have f3 : ∀ o j, fok W_X12_findRules o j = true → σ3 o j = σ2 o j := fun o j ho => fr_s_X12_findRules ho _ _ c1
  obtain ⟨σ4, d1, d2, d3, d4⟩ := keep_save (n := n) (σ := σ3) (by omega)
  have fA : ∀ o j, o ≠ 111 → o ≠ 113 → (o = 71 → j ≠ 63) → o ≠ 109 → o ≠ 110 → fok W_X12_findRules o j = true → σ4 o j = σ o j := fun o j p1 p2 p3 p4 p5 p6 => by rw [d4 o j p4 p5, f3 o j p6, f2 o j p1 p2 p3]
  have g : ∀ o, o ≠ 111 → o ≠ 113 → o ≠ 71 → o ≠ 109 → o ≠ 110 → (∀ j, fok W_X12_findRules o j = true) → ∀ j, σ4 o j = σ o j := fun o p1 p2 p3 p4 p5 p6 j => fA o j p1 p2 (n71 p3) p4 p5 (p6 j)
  have hoM : oM N S K.1 pu (lwO (HdN Rs nr now)) σ4 := by
    refine ⟨mN_of h1.2.2.1 (fA 71 2 (by decide) (by decide) (fun _ => by decide) (by decide) (by decide) rfl) (g 73 (by decide) (by decide) (by decide) (by decide) (by decide) (fun _ => rfl)) (g 74 (by decide) (by decide) (by decide) (by decide) (by decide) (fun _ => rfl)) (g 77 (by decide) (by decide) (by decide) (by decide) (by decide) (fun _ => rfl)) (g 78 (by decide) (by decide) (by decide) (by decide) (by decide) (fun _ => rfl)) (g 79 (by decide) (by decide) (by decide) (by decide) (by decide) (fun _ => rfl)), ⟨by rw [fA 71 11 (by decide) (by decide) (fun _ => by decide) (by decide) (by decide) rfl]; exact h2.2.2.2.1.1, fun s hs => ?_⟩, fun s hs => ?_, ?_, by rw [fA 71 50 (by decide) (by decide) (fun _ => by decide) (by decide) (by decide) rfl]; exact h3.2.2.2.2.2, fun x hx => by rw [g 72 (by decide) (by decide) (by decide) (by decide) (by decide) (fun _ => rfl)]; exact (h4 x hx).1.2, fun X hX => .inl ?_, fun s p q => by rw [g 88 (by decide) (by decide) (by decide) (by decide) (by decide) (fun _ => rfl)]; exact (h2.2.2.2.2.2.2.2.1 s p q).2⟩
    · rw [g 81 (by decide) (by decide) (by decide) (by decide) (by decide) (fun _ => rfl), g 82 (by decide) (by decide) (by decide) (by decide) (by decide) (fun _ => rfl), g 83 (by decide) (by decide) (by decide) (by decide) (by decide) (fun _ => rfl), g 84 (by decide) (by decide) (by decide) (by decide) (by decide) (fun _ => rfl), g 85 (by decide) (by decide) (by decide) (by decide) (by decide) (fun _ => rfl)]
      exact h2.2.2.2.1.2 s hs
    · rw [d2.2 s (by omega), f3 86 s rfl, f2 86 s (by decide) (by decide) (n71 (by decide)), (h2.2.2.2.2.2.1 s hs).1, nar_b]
    · have hw := mW_of h6'.2.2 c2
      unfold mW
      rw [d4 71 41 (by decide) (by decide), d4 71 42 (by decide) (by decide), d4 71 43 (by decide) (by decide), d4 71 44 (by decide) (by decide)]
      exact hw
    · rw [d4 113 X (by decide) (by decide), f3 113 X rfl]; exact b2 X hX
  have h63 : σ4 71 63 = nI (pcn v (sN S)) := by rw [d4 71 63 (by decide) (by decide), f3 71 63 rfl, b3 71 63 (by decide)]; exact a2
  have hA : oA v (pcn v (sN S)) (fun i => (List.range (pcn v (sN S))).getD i 0) σ4 := by
    intro i hi
    have hmi := mem_ok hs10 hi
    rw [d4 111 i (by decide) (by decide), f3 111 i rfl, b3 111 i (by decide)]
    have hi2 : (List.range (pcn v (sN S))).getD i 0 = i := by
      rw [List.getD_eq_getElem?_getD, List.getElem?_range hi]
      rfl
    show σ1 111 i = nI (mem v ((List.range (pcn v (sN S))).getD i 0))
    rw [hi2, ← a3 (mem v i) hmi.1 hmi.2.1, hmi.2.2]
  obtain ⟨l, hl⟩ : ∃ l, prm (pcn v (sN S)) (pcn v (sN S)) 0 = List.range (pcn v (sN S)) :: l := by
    have hh := prm_hd _ hm7
    cases hp : prm (pcn v (sN S)) (pcn v (sN S)) 0 with
    | nil => rw [hp] at hh; cases hh
    | cons a l =>
      rw [hp] at hh
      cases hh
      exact ⟨l, rfl⟩
  have hlen := prm_len _ hm7
  rw [hl, List.length_cons] at hlen
  have hch := chk_all _ hm7
  rw [hl] at hch
  obtain ⟨f', σ5, e1, e2, e3, e4, e5, e6⟩ := enum_go (n := n) (x2 := x2) (σ0 := σ3) (by omega) hm7 rfl h1.1 h2.1 (lwO_k h6'.2.2 _).1 (fun x hx => (h4 x hx).2) l [] (List.range (pcn v (sN S))) n (-1) σ4 (by rw [hl]; rfl) (by omega) hch hoM h63 hA (.inl ⟨rfl, rfl⟩) d2 d3
  obtain ⟨σ6, k1, k2, k3⟩ := keep_back (n := n) (σ0 := σ3) (σ := σ5) (by omega) e5 e6
  have f6 : ∀ o j, fok W_X12_keepAll o j = true → σ6 o j = σ5 o j := fun o j ho => fr_s_X12_keepAll ho _ _ k1
  have a1' : s_X12_order_37 n n v x2 0 (up2 σ 71 63 0) = s_X12_order_95 n n x2 0 σ1 := a1
  have b1' : s_X12_order_95 n n x2 0 σ1 = (bd (s_X12_dayNow n σ2) fun r7 σ6 => bdv (s_X12_findRules n r7 σ6) fun σ8 => bdv (s_X12_keepAll n (0 : Int32) σ8) fun σ9 => s_X12_order_133 n n x2 (-1 : Int32) (1 : Int32) σ9) := b1
  refine ⟨σ6, ?_, fun t ht => ?_, ?_⟩
  · rw [a1', b1', dayNow_ok (now := now) h3.1 (by rw [f2 71 0 (by decide) (by decide) (fun _ => by decide)]; exact h3.2.2.1), bd_so, c1, bdv_so, d1, bdv_so, e1]
    show s_X12_order_133b n (s_X12_order_133 n f') _ _ _ _ = _
    unfold s_X12_order_133b oAn
    have i2 : s_X12_in n x2.toInt64 0 ((σ6 71 63 - 1).toInt64) σ6 = some (zo (inb 0 x2 (σ6 71 63 - 1)), σ6) := inb_ok n x2 0 (σ6 71 63 - 1) σ6
    rw [if_pos rfl, k1, bdv_so]
    by_cases q1 : x2 = -1
    · rw [if_pos q1, if_pos q1]
    · rw [if_neg q1, if_neg q1, i2, bd_so, f6 71 63 rfl, e3, pin_in (by omega)]
      cases q2 : pin (pcn v (sN S)) x2
      · rw [if_pos z_f, if_neg (show ¬ false = true by decide)]
      · obtain ⟨i, hi, rfl⟩ := pin_n (by omega) q2
        rw [if_neg z_t, if_pos rfl, ck_n (by omega) (by omega), ix_n (by omega), f6 112 i rfl, e4 i hi]
  · have q := k2 t ht
    refine ⟨fun o p1 p2 => ?_, ?_⟩
    · rw [q.1 o p1 p2]
      rcases (show o = 88 ∨ o = 89 ∨ o = 90 ∨ o = 91 ∨ o = 92 by omega) with rfl | rfl | rfl | rfl | rfl <;> (rw [f3 _ t rfl]; exact f2 _ t (by decide) (by decide) (n71 (by decide)))
    · rw [q.2, f3 86 t rfl, f2 86 t (by decide) (by decide) (n71 (by decide))]
  · rw [k3, f3 71 25 rfl, f2 71 25 (by decide) (by decide) (fun _ => by decide)]
theorem st_order {n c : Nat} {x1 x2 : Int32} {σ : Sg} (hn : 300000 ≤ n) (hc : c < 600) (h : Inv c σ) : wStp c (s_X11_order n x1 x2) (s_X12_order n x1 x2) σ := by
  obtain ⟨N, ma, mb, S, K, now, pu, Rs, nr, h⟩ := h
  have hs10 := h.2.1.1.1
  have c0 : σ 11 0 = nI (sN S) := h.2.1.2.2.1.1
  have m0 : σ 71 11 = nI (sN S) := h.2.1.2.2.2.1.1
  rcases ush01 (k := sN S) (x := x1) (by omega) with ⟨u1, u2, u3, u4⟩ | ⟨u2, u3⟩
  · have hpc : pcn x1 24 = pcn x1 (sN S) := pcn_stop (c := sN S) u1 24 (by omega) (by omega)
    have bc : ∀ ρ : Sg, s_J6_bitCount_0f7a4 n x1 ρ = some (nI (pcn x1 (sN S)), ρ) := fun ρ => by rw [bc_ok n (fun i p q => u1 i (by omega) q) ρ, hpc]
    have on : ∀ ρ : Sg, s_X12_ones n x1 ρ = some (nI (pcn x1 (sN S)), ρ) := fun ρ => by rw [ones_ok (by omega) x1 ρ, hpc]
    have hple := pcn_le x1 (sN S)
    by_cases h6 : pcn x1 (sN S) ≤ 6
    · have h6' : nI (pcn x1 (sN S)) ≤ 6 := by rw [show (6 : Int32) = nI 6 from rfl, nle (by omega) (by omega)]; exact h6
      obtain ⟨b, a1, a2, a3⟩ := alw_go (n := n) (v := x1) (K := K.1) (σ := σ) hs10 (fun s hs => (h.2.1.2.2.2.2.1 s hs).1) (sN S) 0 n (by omega) (by omega) (fun i hi => absurd hi (Nat.not_lt_zero _))
      have a1' : s_X7_hasAlways n 22 x1 (nI (sN S)) σ = some (zo b, σ) := a1
      cases b
      · have hkk := a3 rfl
        -- what the class keeps behind the call
        have cls : ∃ τ, s_X11_order n x1 x2 σ = some (oAn (pcn x1 (sN S)) (obst (pcn x1 (sN S)) (ocs N S K.1 pu (lwO (HdN Rs nr now)) x1 (pcn x1 (sN S))) (pcn x1 (sN S)) 0) x1 x2, τ) ∧ InvD N ma mb S K now pu Rs nr c τ := by
          obtain ⟨h1, h2, h3, h4, h5, h6'', h7, h8, h9, h10, h11⟩ := id h
          obtain ⟨ed, d1, d2, d3, d4⟩ := h11
          by_cases hp : x1 = σ 51 9 ∧ σ 0 15 = σ 51 10
          · refine ⟨σ, ?_, h⟩
            have hpa := d4 (by rw [← hp.2]; exact d2)
            rw [← hp.1] at hpa
            have hpl : s_X10_isPlanned n x1 (σ 0 15) σ = some (1, σ) := by
              unfold s_X10_isPlanned
              rw [if_pos hp.1, if_pos hp.2]
            unfold s_X11_order
            rw [hasAll8 (by omega) c0, if_pos u2, bd_so, if_neg (by decide), bc, bd_so, if_pos h6', c0, a1', bd_so, if_pos z_f, hpl, bd_so, if_neg (by decide)]
            exact order99 h6 hpa
          · have hpl : s_X10_isPlanned n x1 (σ 0 15) σ = some (0, σ) := by
              unfold s_X10_isPlanned s_X10_isPlanned_20
              by_cases q1 : x1 = σ 51 9
              · rw [if_pos q1, if_neg (fun z => hp ⟨q1, z⟩)]
              · rw [if_neg q1]
            obtain ⟨τ1, τ2, τ3, p1, p2, p3, p4, p5, p6, p7, p8⟩ := plan_ok (n := n) (d := dyN now) (ed := σ 0 15) (v := x1) (by omega) dyN_lt h1.1 h2.1 h6''.2.2 (fun x hx => (h4 x hx).2) h6 h1.2.1 h2.2.2.1 (fun s hs => (h2.2.2.2.2.1 s hs).1) (fun x hx => (h4 x hx).1.1) h6''.1 h7.2.1
            have e1 : s_X11_order n x1 x2 σ = some (oAn (pcn x1 (sN S)) (obst (pcn x1 (sN S)) (ocs N S K.1 pu (lwO (HdN Rs nr now)) x1 (pcn x1 (sN S))) (pcn x1 (sN S)) 0) x1 x2, τ3) := by
              unfold s_X11_order
              rw [hasAll8 (by omega) c0, if_pos u2, bd_so, if_neg (by decide), bc, bd_so, if_pos h6', c0, a1', bd_so, if_pos z_f, hpl, bd_so, if_pos rfl, today_ok h3.1 h3.2.1, bd_so, p1, bdv_so, p2, bdv_so, p3, bdv_so]
              exact order99 h6 p4
            have f : ∀ o j, fok W_X11_order o j = true → τ3 o j = σ o j := fun o j ho => fr_s_X11_order ho _ _ _ e1
            refine ⟨τ3, e1, iN_of h1 (fr_sup rfl f), iS_of h2 (fr_sup rfl f), iT_of h3 (fr_sup rfl f), iP_of h4 (fr_sup rfl f), iX_of h5 (fr_sup rfl f), iR_of h6'' (fr_sup rfl f), ⟨⟨cCa_of h7.1.1 (fun j => f 38 j rfl), by rw [f 38 1 rfl]; exact h7.1.2⟩, p5, nr, Nat.le_refl _, p8⟩, iG_of h8 (fr_sup rfl f), iV_of h9 (fr_sup rfl f), iB_of h10 (fr_sup rfl f), ed, d1, by rw [f 0 15 rfl]; exact d2, .inr ⟨ed, Nat.le_refl _, by rw [p7]; exact d2⟩, fun _ => ?_⟩
            rw [p6]
            exact p4
        obtain ⟨τ, e1, hI⟩ := cls
        obtain ⟨ρ, r1, r2, r3⟩ := morder_in (n := n) (x2 := x2) (v := x1) hn hI h6 hkk
        have e2 : s_X12_order n x1 x2 τ = some (oAn (pcn x1 (sN S)) (obst (pcn x1 (sN S)) (ocs N S K.1 pu (lwO (HdN Rs nr now)) x1 (pcn x1 (sN S))) (pcn x1 (sN S)) 0) x1 x2, ρ) := by
          unfold s_X12_order
          rw [if_neg u3, hI.2.1.2.2.2.1.1, if_pos u4, on, bd_so, if_pos h6', lt_eq]
          exact r1
        have f : ∀ o j, fok W_X12_order o j = true → ρ o j = τ o j := fun o j ho => fr_s_X12_order ho _ _ _ e2
        obtain ⟨h1, h2, h3, h4, h5, h6'', h7, h8, h9, h10, h11⟩ := hI
        refine ⟨_, τ, ρ, e1, e2, Inv_s ⟨iN_of h1 (fr_sup rfl f), iS_kb h2 (fun o j p q => ?_) r2, ⟨h3.1, by rw [f 0 12 rfl]; exact h3.2.1, by rw [f 71 0 rfl]; exact h3.2.2.1, by rw [f 0 13 rfl, f 71 24 rfl]; exact h3.2.2.2.1, by rw [f 0 14 rfl, r3]; exact h3.2.2.2.2.1, by rw [f 71 50 rfl]; exact h3.2.2.2.2.2⟩, iP_of h4 (fr_sup rfl f), iX_of h5 (fr_sup rfl f), iR_of h6'' (fr_sup rfl f), iC_of h7 (fr_sup rfl f), iG_of h8 (fr_sup rfl f), iV_of h9 (fr_sup rfl f), iB_of h10 (fr_sup rfl f), iO_of h11 (fr_sup rfl f)⟩⟩
        refine f o j ?_
        have hd : disj gS (W_X12_order.filter (fun w => !(w.1 == 86 || (88 ≤ w.1 && w.1 ≤ 92)))) = true := by decide
        have s1 := sup_fok hd q
        refine List.all_eq_true.mpr (fun w hw => ?_)
        by_cases e : (!(w.1 == 86 || (88 ≤ w.1 && w.1 ≤ 92))) = true
        · exact List.all_eq_true.mp s1 w (List.mem_filter.mpr ⟨hw, e⟩)
        · have hne : w.1 ≠ o := by
            have p86 := fok_a p (show (86, none) ∈ _ by decide)
            have p88 := fok_a p (show (88, none) ∈ _ by decide)
            have p89 := fok_a p (show (89, none) ∈ _ by decide)
            have p90 := fok_a p (show (90, none) ∈ _ by decide)
            have p91 := fok_a p (show (91, none) ∈ _ by decide)
            have p92 := fok_a p (show (92, none) ∈ _ by decide)
            have e' : ¬ w.1 = 86 → 88 ≤ w.1 ∧ w.1 ≤ 92 := by simpa using e
            intro z
            by_cases e2 : w.1 = 86
            · omega
            · have := e' e2
              omega
          simp [hne]
      · obtain ⟨s0, s1, s2, s3⟩ := a2 rfl
        obtain ⟨ρ, r1, r2⟩ := not_go (n := n) (x2 := x2) (K := K.1) hs10 h6 s1 s2 s3 s0 0 n (up2 σ 71 63 0) (by omega) (by omega) (by rw [up2_app, if_pos rfl, if_neg (by decide)]; exact m0) (by simp [up2_app]; rfl) (fun t ht => by rw [up2_o (by decide)]; exact (h.2.1.2.2.2.2.2.1 t ht).1)
        have e2 : s_X12_order n x1 x2 σ = some (-1003, ρ) := by
          unfold s_X12_order
          rw [if_neg u3, m0, if_pos u4, on, bd_so, if_pos h6', lt_eq]
          exact r1
        refine ⟨-1003, σ, ρ, ?_, e2, ?_⟩
        · unfold s_X11_order
          rw [hasAll8 (by omega) c0, if_pos u2, bd_so, if_neg (by decide), bc, bd_so, if_pos h6', c0, a1', bd_so, if_neg z_t]
        · refine Inv_s (InvD_of h (fr_sup (W := [(111, none), (71, some 63)]) rfl (fun o j ho => ?_)))
          have p2 : o = 71 → j ≠ 63 := fun z => by
            rcases fok_mem ho (show (71, some 63) ∈ _ by decide) with q | ⟨k, q1, q2⟩
            · exact absurd z q
            · cases q1; exact q2
          rw [r2 o j (fok_a ho (by decide)) p2]
          exact up2_f ho (by decide)
    · have h6' : ¬ nI (pcn x1 (sN S)) ≤ 6 := by rw [show (6 : Int32) = nI 6 from rfl, nle (by omega) (by omega)]; exact h6
      refine ⟨-1002, σ, σ, ?_, ?_, Inv_s h⟩
      · unfold s_X11_order; rw [hasAll8 (by omega) c0, if_pos u2, bd_so, if_neg (by decide), bc, bd_so, if_neg h6']
      · unfold s_X12_order; rw [if_neg u3, m0, if_pos u4, on, bd_so, if_neg h6']
  · refine ⟨-1001, σ, σ, ?_, ?_, Inv_s h⟩
    · unfold s_X11_order; rw [hasAll8 (by omega) c0, if_neg u2, bd_so, if_pos rfl]
    · unfold s_X12_order
      rcases u3 with u3 | u3
      · rw [if_pos u3]
      · by_cases u4 : x1 < 0
        · rw [if_pos u4]
        · rw [if_neg u4, m0, if_neg u3]
