theorem hold_ok2 {n nr d lc : Nat} {Rs : Nat → Rl} {σ : Sg} (hn : 20 ≤ n) (hlc : lc = 38 ∨ lc = 62) (hd : d < 200) (hR : cR Rs nr σ) (hca : cCa Rs nr lc σ) : ∃ τ, s_X6_hold n (nI d) lc σ = some τ ∧ cHd (holds Rs nr d) lc τ ∧ cCa Rs nr lc τ ∧ τ lc 1 = nI nr := by
  have h8 := hR.1
  have full : ∃ τ, s_X6_hold_20 n (nI d) lc σ = some τ ∧ cHd (holds Rs nr d) lc τ ∧ cCa Rs nr lc τ ∧ τ lc 1 = nI nr := by
    unfold s_X6_hold_20
    simp only [lt_eq]
    have h27 : up2 σ lc 0 (nI d) 27 0 = nI nr := by rw [up2_o (by omega)]; exact hR.2.1
    rw [h27]
    obtain ⟨τ1, t1, t2, t3, t4⟩ := first_ok (n := n) (lc := lc) (σ := up2 (up2 σ lc 0 (nI d)) lc 1 (nI nr))
    rw [t1, bdv_some]
    have fr : ∀ o j, o ≠ lc → τ1 o j = σ o j := fun o j ho => by
      rw [fr_s_X2_sayWhatHoldsAtFirst rfl _ _ ho t1, up2_o ho, up2_o ho]
    have hR1 : cR Rs nr τ1 := cR_of hR (fun o j ho => fr o j (by omega))
    unfold s_X6_countingOn
    rw [lt_eq, hR1.2.1]
    obtain ⟨y, y1, y2⟩ := counting_ok (n := n) (d := d) hd hR1 0 n nr 0 0 (by omega) (by omega) (fun i hi => by rw [b_0]; rfl) (fun i hi => by
      rw [b_0]
      have : ¬ (nr ≤ i ∧ i < nr) := by omega
      simp [this])
    rw [y1, bd_some]
    have hp0 : hpart Rs nr d 0 = hd0 := by
      unfold hpart
      rw [Nat.sub_zero, List.drop_eq_nil_of_le (by rw [rowR_len]; exact Nat.le_refl _)]
      rfl
    obtain ⟨τ, w1, w2, w3, w4⟩ := hold_loop (n := n) hlc y2 nr 0 n τ1 (by omega) (by omega) hR1 (by rw [hp0]; exact t2)
    have w1' : s_X6_hold_46 n n lc y 0 τ1 = some τ := w1
    refine ⟨τ, w1', w2, fun d' hd' e0 _ => ?_, by rw [w4, t4]; simp [up2_app]⟩
    rw [w3, t3] at e0
    have e1 : up2 (up2 σ lc 0 (nI d)) lc 1 (nI nr) lc 0 = nI d := by simp [up2_app]
    rw [e1, neq (by omega) (by omega)] at e0
    rw [← e0]
    exact w2
  unfold s_X6_hold
  by_cases h1 : σ lc 0 = nI d
  · rw [if_pos h1]
    by_cases h2 : σ lc 1 = σ 27 0
    · rw [if_pos h2]
      exact ⟨σ, rfl, hca d hd h1 (by rw [h2]; exact hR.2.1), hca, by rw [h2]; exact hR.2.1⟩
    · rw [if_neg h2]; exact full
  · rw [if_neg h1]; exact full
/-! ===== the order, the class: the whole plan ===== -/
theorem choose_go {n ns : Nat} {v x3 : Int32} (hns : ns ≤ 10) (h6 : pcn v ns ≤ 6) : ∀ (e s f : Nat) (σ : Sg), s + e = ns → e < f → σ 11 0 = nI ns → σ 51 12 = nI (pcn v s) → (∀ i, i < s → bt v i = true → σ 52 (pcn v i) = nI i) → ∃ ρ, s_X10_choose_18 n f v x3 (nI s) σ = s_X10_choose_76 n x3 ρ ∧ ρ 51 12 = nI (pcn v ns) ∧ (∀ i, i < ns → bt v i = true → ρ 52 (pcn v i) = nI i) ∧ ∀ o j, o ≠ 52 → (o = 51 → j ≠ 12) → ρ o j = σ o j := by
  intro e
  induction e with
  | zero =>
    intro s f σ hs hf h0 h12 h52
    obtain ⟨f, rfl⟩ : ∃ k', f = k' + 1 := ⟨f - 1, by omega⟩
    have hs : s = ns := by omega
    subst hs
    refine ⟨σ, ?_, h12, h52, fun _ _ _ _ => rfl⟩
    show s_X10_choose_18b n _ _ _ _ _ = _
    unfold s_X10_choose_18b
    rw [h0, if_pos (Int32.le_refl _)]
  | succ e ih =>
    intro s f σ hs hf h0 h12 h52
    obtain ⟨f, rfl⟩ : ∃ k', f = k' + 1 := ⟨f - 1, by omega⟩
    have hp := pcn_le v s
    show ∃ ρ, s_X10_choose_18b n (s_X10_choose_18 n f) _ _ _ _ = _ ∧ _
    unfold s_X10_choose_18b
    rw [h0, if_neg (by rw [nle (by omega) (by omega)]; omega), h12, show (6 : Int32) = nI 6 from rfl]
    by_cases h66 : 6 ≤ pcn v s
    · rw [if_pos (by rw [nle (by omega) (by omega)]; exact h66)]
      have hmo := pcn_mono v (show s ≤ ns by omega)
      refine ⟨σ, rfl, by rw [h12]; congr 1; omega, fun i hi hb => ?_, fun _ _ _ _ => rfl⟩
      by_cases his : i < s
      · exact h52 i his hb
      · exfalso
        have h1 := pcn_mono v (show s ≤ i by omega)
        have h2 := pcn_lt hi hb
        omega
    · rw [if_neg (by rw [nle (by omega) (by omega)]; exact h66), sr_bit v (show s < 32 by omega), show nI s + 1 = nI (s + 1) from nI_1 s]
      cases hb : bt v s
      · rw [if_neg (by rw [if_neg (by decide)]; decide)]
        refine ih (s + 1) f σ (by omega) (by omega) h0 (by rw [h12, pcn_s, hb]; rfl) (fun i hi hbi => ?_)
        by_cases e1 : i = s
        · rw [e1, hb] at hbi; cases hbi
        · exact h52 i (by omega) hbi
      · rw [if_pos (by rw [if_pos rfl]), ck_n (by omega) (by omega), lt_eq, ix_n (by omega), lt_eq]
        have e12 : up2 σ 52 (pcn v s) (nI s) 51 12 = nI (pcn v s) := by rw [up2_o (by decide)]; exact h12
        rw [e12, nI_1]
        obtain ⟨ρ, r1, r2, r3, r4⟩ := ih (s + 1) f (up2 (up2 σ 52 (pcn v s) (nI s)) 51 12 (nI (pcn v s + 1))) (by omega) (by omega) (by rw [up2_o (by decide), up2_o (by decide)]; exact h0) (by rw [pcn_s, hb]; simp [up2_app]) (fun i hi hbi => by
          rw [up2_o (by decide)]
          by_cases e1 : i = s
          · rw [e1]; simp [up2_app]
          · have : ¬ pcn v i = pcn v s := by
              have := pcn_lt (show i < s by omega) hbi
              omega
            simp only [up2_app, this, if_false, ite_self]
            exact h52 i (by omega) hbi)
        refine ⟨ρ, r1, r2, r3, fun o j h1 h2 => ?_⟩
        rw [r4 o j h1 h2]
        by_cases e1 : o = 51
        · subst e1
          simp only [up2_app, h2 rfl, if_false, ite_self]
          rw [if_neg (by decide)]
        · rw [up2_o e1, up2_o h1]
def lwO (h : Hd) : Lw := (h.2.2.2.2.2, ix h.2.2.2.2.1, h.1, h.2.1)
def kOk (Rs : Nat → Rl) (nr : Nat) : Prop := ∀ r, r < nr → ∃ k, k ≤ 4 ∧ (Rs r).2.2.2.2.2.1 = nI k
theorem holds_k {Rs : Nat → Rl} {nr : Nat} (h : kOk Rs nr) (d : Nat) : ∃ k, k ≤ 4 ∧ (holds Rs nr d).2.2.2.2.1 = nI k := by
  have key : ∀ l : List Nat, (∀ r ∈ l, r < nr) → ∃ k, k ≤ 4 ∧ (l.foldr (fun r h => if onR Rs nr d r = true then foll h (Rs r) else h) hd0).2.2.2.2.1 = nI k := by
    intro l
    induction l with
    | nil => intro _; exact ⟨2, by omega, rfl⟩
    | cons r l ih =>
      intro hl
      obtain ⟨k, k1, k2⟩ := ih (fun q hq => hl q (List.mem_cons_of_mem _ hq))
      obtain ⟨k', k3, k4⟩ := h r (hl r (by simp))
      rw [List.foldr_cons]
      by_cases ho : onR Rs nr d r = true
      · rw [if_pos ho]
        unfold foll
        dsimp only
        split
        · exact ⟨k, k1, k2⟩
        · exact ⟨k', k3, k4⟩
      · rw [if_neg ho]
        exact ⟨k, k1, k2⟩
  exact key (rowR Rs nr) (fun r hr => rowR_lt hr)
theorem lwO_k {Rs : Nat → Rl} {nr : Nat} (h : kOk Rs nr) (d : Nat) : (lwO (holds Rs nr d)).2.1 ≤ 4 ∧ nI (lwO (holds Rs nr d)).2.1 = (holds Rs nr d).2.2.2.2.1 := by
  obtain ⟨k, k1, k2⟩ := holds_k h d
  unfold lwO
  dsimp only
  rw [k2, ix_n (by omega)]
  exact ⟨k1, rfl⟩
theorem cW_of {Rs : Nat → Rl} {nr d lc : Nat} {σ : Sg} (hk : kOk Rs nr) (h : cHd (holds Rs nr d) lc σ) : cW (lwO (holds Rs nr d)) lc σ := ⟨h.2.2.2.2.2, by rw [(lwO_k hk d).2]; exact h.2.2.2.2.1, h.1, h.2.1⟩
theorem mW_of {Rs : Nat → Rl} {nr d : Nat} {σ : Sg} (hk : kOk Rs nr) (h : mHd (holds Rs nr d) σ) : mW (lwO (holds Rs nr d)) σ := ⟨h.2.2.2.2.2, by rw [(lwO_k hk d).2]; exact h.2.2.2.2.1, h.1, h.2.1⟩
/-- the answer of a plan, as it is kept -/
def pAn (N : Net) (S : Str) (K : Nat → Bool) (pu : Nat → Int32) (L : Lw) (v : Int32) (σ : Sg) : Prop := σ 51 12 = nI (pcn v (sN S)) ∧ σ 51 13 = nI (obst (pcn v (sN S)) (ocs N S K pu L v (pcn v (sN S))) (pcn v (sN S)) 0).1 ∧ ∀ i, i < pcn v (sN S) → ∃ k, (obst (pcn v (sN S)) (ocs N S K pu L v (pcn v (sN S))) (pcn v (sN S)) 0).2[i]? = some k ∧ k < pcn v (sN S) ∧ σ 55 i = nI (mem v k)
theorem rem_0 : ∀ m, m < 7 → (rem m 0).length = m := by decide +kernel
theorem sl1_6 : ∀ m, m < 7 → sl 1 (nI m) - 1 = nI (2 ^ m - 1) ∧ nI (2 ^ m - 1) = nI (2 ^ m) + -1 := by decide +kernel
theorem plan_ok {n d nr : Nat} {N : Net} {S : Str} {K : Nat → Bool} {pu : Nat → Int32} {Rs : Nat → Rl} {v ed : Int32} {σ : Sg} (hn : 11000 ≤ n) (hd : d < 200) (hN : nok N) (hS : sok S) (hk : kOk Rs nr) (hpu : ∀ h, h < 24 → 0 ≤ (pu h).toInt ∧ (pu h).toInt ≤ 9999) (h6 : pcn v (sN S) ≤ 6) (c1 : cN N σ) (c2 : cS S σ) (c3 : ∀ s, s < sN S → σ 23 s = zo (K s)) (c4 : ∀ h, h < 24 → σ 40 h = pu h) (c5 : cR Rs nr σ) (c6 : cCa Rs nr 62 σ) : ∃ τ1 τ2 τ3, s_X10_choose n v ed (nI d) σ = some τ1 ∧ s_X10_weigh n 22 τ1 = some τ2 ∧ s_X10_follow n τ2 = some τ3 ∧ pAn N S K pu (lwO (holds Rs nr d)) v τ3 ∧ cCa Rs nr 62 τ3 ∧ τ3 51 9 = v ∧ τ3 51 10 = ed ∧ τ3 62 1 = nI nr := by
  have h10 := hS.1
  have fA : ∀ o j, o ≠ 51 → up2 (up2 (up2 σ 51 9 v) 51 10 ed) 51 12 0 o j = σ o j := fun o j h => by rw [up2_o h, up2_o h, up2_o h]
  obtain ⟨ρ, r1, r2, r3, r4⟩ := choose_go (n := n) (v := v) (x3 := nI d) h10 h6 (sN S) 0 n (up2 (up2 (up2 σ 51 9 v) 51 10 ed) 51 12 0) (by omega) (by omega) (by rw [fA 11 0 (by decide)]; exact c2.1) (by simp [up2_app]; rfl) (fun i hi => absurd hi (Nat.not_lt_zero _))
  have fB : ∀ o j, o ≠ 51 → o ≠ 52 → ρ o j = σ o j := fun o j h1 h2 => by rw [r4 o j h2 (fun z => absurd z h1), fA o j h1]
  have hRρ : cR Rs nr ρ := cR_of c5 (fun o j h => fB o j (by omega) (by omega))
  have hCρ : cCa Rs nr 62 ρ := by
    intro d' hd' e1 e2
    rw [fB 62 _ (by decide) (by decide)] at e1 e2
    have := c6 d' hd' e1 e2
    unfold cHd
    rw [fB 62 _ (by decide) (by decide), fB 62 _ (by decide) (by decide), fB 62 _ (by decide) (by decide), fB 62 _ (by decide) (by decide), fB 62 _ (by decide) (by decide), fB 62 _ (by decide) (by decide)]
    exact this
  obtain ⟨τ1, t1, t2, t3, t4⟩ := hold_ok2 (n := n) (lc := 62) (by omega) (.inr rfl) hd hRρ hCρ
  have fH : ∀ o j, o ≠ 62 → τ1 o j = ρ o j := fun o j h => fr_s_X6_hold rfl _ _ _ h t1
  have t1' : s_X10_choose n v ed (nI d) σ = some τ1 := by
    show s_X10_choose_18 n n v (nI d) (nI 0) (up2 (up2 (up2 σ 51 9 v) 51 10 ed) 51 12 0) = _
    rw [r1]
    unfold s_X10_choose_76
    rw [t1]
    rfl
  have hmem : ∀ k, k < pcn v (sN S) → mem v k < sN S := fun k hk => (mem_ok h10 hk).1
  have h52 : ∀ k, k < pcn v (sN S) → τ1 52 k = nI (mem v k) := fun k hk => by
    have := mem_ok h10 hk
    rw [fH 52 k (by decide), ← r3 (mem v k) this.1 this.2.1, this.2.2]
  have fC : ∀ o j, o ≠ 51 → o ≠ 52 → o ≠ 62 → τ1 o j = σ o j := fun o j h1 h2 h3 => by rw [fH o j h3, fB o j h1 h2]
  have hI : oIn N S K pu (lwO (holds Rs nr d)) v (pcn v (sN S)) τ1 := by
    refine ⟨cN_of c1 (fun j => fC 3 j (by decide) (by decide) (by decide)) (fun j => fC 4 j (by decide) (by decide) (by decide)) (fun j => fC 5 j (by decide) (by decide) (by decide)) (fun j => fC 6 j (by decide) (by decide) (by decide)) (fun j => fC 7 j (by decide) (by decide) (by decide)), ⟨by rw [fC 11 0 (by decide) (by decide) (by decide)]; exact c2.1, fun s hs => ?_⟩, fun s hs => ?_, cW_of hk t2, fun h hh => ?_, ?_, h52⟩
    · rw [fC 12 s (by decide) (by decide) (by decide), fC 14 s (by decide) (by decide) (by decide), fC 15 s (by decide) (by decide) (by decide), fC 16 s (by decide) (by decide) (by decide)]
      exact c2.2 s hs
    · rw [fC 23 s (by decide) (by decide) (by decide)]; exact c3 s hs
    · rw [fC 40 h (by decide) (by decide) (by decide)]; exact c4 h hh
    · rw [fH 51 12 (by decide)]; exact r2
  have hm7 : pcn v (sN S) < 7 := by omega
  have h64 := pow6 hm7
  obtain ⟨s1, s2⟩ := sl1_6 _ hm7
  obtain ⟨τ2, u1, u2, u3⟩ := weigh_go (n := n) hn hm7 hN hS (lwO_k hk d).1 hpu hmem (2 ^ pcn v (sN S)) n τ1 (Nat.le_refl _) (by omega) hI (fun P h1 h2 => by omega)
  have u1' : s_X10_weigh n 22 τ1 = some τ2 := by
    unfold s_X10_weigh
    rw [hI.2.2.2.2.2.1, s1, lt_eq]
    rw [← s2] at u1
    exact u1
  have f2 : ∀ o j, fok W_X10_weigh o j = true → τ2 o j = τ1 o j := fun o j h => fr_s_X10_weigh h _ _ u1'
  have hI2 := oIn_of hI f2
  obtain ⟨τ3, w1, w2, w3⟩ := follow_go (n := n) (v := v) (by omega) hm7 (ocs_le N S K pu (lwO (holds Rs nr d)) v (pcn v (sN S))) (pcn v (sN S)) 0 n 0 τ2 (by omega) (by omega) (Nat.two_pow_pos _) (rem_0 _ hm7) hI2.2.2.2.2.2.1 hI2.2.2.2.2.2.2 u2
  have w1' : s_X10_follow n τ2 = some τ3 := w1
  refine ⟨τ1, τ2, τ3, t1', u1', w1', ⟨?_, ?_, fun i hi => ?_⟩, ?_, ?_, ?_, ?_⟩
  · rw [w3 51 12 (.inl (by decide))]; exact hI2.2.2.2.2.2.1
  · rw [w3 51 13 (.inl (by decide)), u3]
    unfold rst
    rw [rem_0 _ hm7]
  · have := w2 i hi
    rw [Nat.zero_add] at this
    exact this
  · intro d' hd' e1 e2
    rw [w3 62 _ (.inl (by decide)), f2 62 _ rfl] at e1 e2
    have := t3 d' hd' e1 e2
    unfold cHd
    rw [w3 62 _ (.inl (by decide)), f2 62 _ rfl, w3 62 _ (.inl (by decide)), f2 62 _ rfl, w3 62 _ (.inl (by decide)), f2 62 _ rfl, w3 62 _ (.inl (by decide)), f2 62 _ rfl, w3 62 _ (.inl (by decide)), f2 62 _ rfl, w3 62 _ (.inl (by decide)), f2 62 _ rfl]
    exact this
  · rw [w3 51 9 (.inl (by decide)), f2 51 9 rfl, fH 51 9 (by decide), r4 51 9 (by decide) (fun _ => by decide)]
    simp [up2_app]
  · rw [w3 51 10 (.inl (by decide)), f2 51 10 rfl, fH 51 10 (by decide), r4 51 10 (by decide) (fun _ => by decide)]
    simp [up2_app]
  · rw [w3 62 1 (.inl (by decide)), f2 62 1 rfl]
    exact t4
