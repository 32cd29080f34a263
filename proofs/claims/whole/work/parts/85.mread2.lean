/-! ===== the reference reads clauses ===== -/
theorem mrd_of {t : Tx} {p : Nat} {σ τ : Sg} (h : mrd t p σ) (h1 : ∀ j, τ 71 j = σ 71 j) (h2 : ∀ j, τ 98 j = σ 98 j) : mrd t p τ := ⟨mTx_of h.1 (h1 33) h2, by rw [h1]; exact h.2.1, by rw [h1]; exact h.2.2.1, by rw [h1]; exact h.2.2.2⟩
theorem mfl_of {q : Nat × Nat} {σ τ : Sg} (h : mfl q σ) (h1 : ∀ j, τ 71 j = σ 71 j) : mfl q τ := ⟨h.1, by rw [h1]; exact h.2.1, by rw [h1]; exact h.2.2⟩
theorem tk2 {t : Tx} {p : Nat} : tk t p = 2 ↔ sk t p < t.1 ∧ isD (t.2 (sk t p)) = true := by
  unfold tk
  by_cases h : sk t p < t.1
  · rw [if_pos h, kd_2]
    exact ⟨fun z => ⟨h, z⟩, fun z => z.2⟩
  · rw [if_neg h]
    exact ⟨fun z => by (cases z), fun z => absurd z.1 h⟩
theorem kd_34 (c : Nat) : (kd c = 3 ↔ c = 44) ∧ (kd c = 4 ↔ c = 59) := by
  unfold kd isL isD
  by_cases h1 : 97 ≤ c ∧ c ≤ 122
  · rw [if_pos (by rw [decide_eq_true h1.1, decide_eq_true h1.2]; rfl)]
    exact ⟨⟨fun z => by (cases z), fun z => by omega⟩, ⟨fun z => by (cases z), fun z => by omega⟩⟩
  · rw [if_neg (by rw [Bool.and_eq_true, decide_eq_true_eq, decide_eq_true_eq]; exact h1)]
    by_cases h2 : 48 ≤ c ∧ c ≤ 57
    · rw [if_pos (by rw [decide_eq_true h2.1, decide_eq_true h2.2]; rfl)]
      exact ⟨⟨fun z => by (cases z), fun z => by omega⟩, ⟨fun z => by (cases z), fun z => by omega⟩⟩
    · rw [if_neg (by rw [Bool.and_eq_true, decide_eq_true_eq, decide_eq_true_eq]; exact h2)]
      by_cases h3 : c = 44
      · rw [if_pos h3]
        exact ⟨⟨fun _ => h3, fun _ => rfl⟩, ⟨fun z => by (cases z), fun z => by omega⟩⟩
      · rw [if_neg h3]
        by_cases h4 : c = 59
        · rw [if_pos h4]
          exact ⟨⟨fun z => by (cases z), fun z => absurd z h3⟩, ⟨fun _ => h4, fun _ => rfl⟩⟩
        · rw [if_neg h4]
          exact ⟨⟨fun z => by (cases z), fun z => absurd z h3⟩, ⟨fun z => by (cases z), fun z => absurd z h4⟩⟩
theorem tk34 {t : Tx} {p : Nat} : (tk t p = 3 ↔ sk t p < t.1 ∧ t.2 (sk t p) = 44) ∧ (tk t p = 4 ↔ sk t p < t.1 ∧ t.2 (sk t p) = 59) := by
  unfold tk
  by_cases h : sk t p < t.1
  · rw [if_pos h, (kd_34 _).1, (kd_34 _).2]
    exact ⟨⟨fun z => ⟨h, z⟩, fun z => z.2⟩, ⟨fun z => ⟨h, z⟩, fun z => z.2⟩⟩
  · rw [if_neg h]
    exact ⟨⟨fun z => by (cases z), fun z => absurd z.1 h⟩, ⟨fun z => by (cases z), fun z => absurd z.1 h⟩⟩
theorem tn_ok {n p lo hi : Nat} {t : Tx} {σ : Sg} (hn : 300000 ≤ n) (ht : txok t) (hp : p ≤ t.1) (hlo : lo < 100000) (hhi : hi < 100000) (h : mrd t p σ) : ∃ v τ, s_X12_takeNumber n (nI lo) (nI hi) σ = some (v, τ) ∧ (∀ q, pNum t p lo hi = .inl q → mfl q τ) ∧ (∀ r, pNum t p lo hi = .inr r → v = nI r.2 ∧ mrd t r.1 τ ∧ τ 71 37 = nI (sk t p) ∧ r.1 ≤ t.1 ∧ r.2 < 1000) ∧ ∀ o j, o ≠ 71 → τ o j = σ o j := by
  have h160 := ht.1
  have hsk := sk_le hp
  have hte := te_le hp
  obtain ⟨σ1, a1, a2, a3⟩ := here_ok (n := n) hn ht hp h.1 h.2.1
  have g : ∀ o j, (o = 71 → j ≠ 37) → up2 σ1 71 37 (nI (sk t p)) o j = σ1 o j := fun o j ho => by
    by_cases e2 : o = 71
    · subst e2; rw [up2_app, if_pos rfl, if_neg (ho rfl)]
    · exact up2_o e2
  have e35 : up2 σ1 71 37 (nI (sk t p)) 71 35 = 0 := by rw [g 71 35 (fun _ => by decide), a3 71 35 (fun _ => by decide)]; exact h.2.2.1
  have e36 : up2 σ1 71 37 (nI (sk t p)) 71 36 = -1 := by rw [g 71 36 (fun _ => by decide), a3 71 36 (fun _ => by decide)]; exact h.2.2.2
  have e34 : up2 σ1 71 37 (nI (sk t p)) 71 34 = nI (sk t p) := by rw [g 71 34 (fun _ => by decide)]; exact a2
  have e37 : up2 σ1 71 37 (nI (sk t p)) 71 37 = nI (sk t p) := by simp [up2_app]
  have hc1 : mTx t (up2 σ1 71 37 (nI (sk t p))) := mTx_of h.1 (by rw [g 71 33 (fun _ => by decide), a3 71 33 (fun _ => by decide)]) (fun j => by rw [g 98 j (fun z => absurd z (by decide)), a3 98 j (fun z => absurd z (by decide))])
  have fo : ∀ o j, o ≠ 71 → up2 σ1 71 37 (nI (sk t p)) o j = σ o j := fun o j ho => by rw [g o j (fun z => absurd z ho), a3 o j (fun z => absurd z ho)]
  unfold s_X12_takeNumber pNum
  rw [h.2.2.1, if_pos (Int32.le_refl _), a1, bd_so, a2, lt_eq]
  generalize up2 σ1 71 37 (nI (sk t p)) = σ2 at *
  by_cases e1 : tk t p = 2
  · obtain ⟨z1, z2⟩ := tk2.mp e1
    have i1 : s_X12_in n (nI (t.2 (sk t p))).toInt64 48 57 σ2 = some (zo (inb 48 (nI (t.2 (sk t p))) 57), σ2) := inb_ok n (nI (t.2 (sk t p))) 48 57 σ2
    rw [if_pos z1, i1, bd_so, inD (ht.2 _ z1), z2, if_pos e1, show zo true = 1 from rfl, want_y e35, bd_so, if_neg (by decide)]
    obtain ⟨v', τ, t1, t2, t3, t4⟩ := tn_go (n := n) (q := sk t p) (lo := lo) (hi := hi) ht (t.1 - sk t p) 0 n 0 σ2 (by omega) (by omega) (fun i i1 i2 => by omega) hc1 e34 (fun _ => rfl)
    have he : te t p = rn isD t (sk t p + 0) := by unfold te; rw [if_neg (by omega), if_pos e1, Nat.add_zero]
    rw [← he] at t2 t3
    rw [t1]
    unfold s_X12_takeNumber_129 s_X12_takeNumber_160 s_X12_takeNumber_161
    have q35 : τ 71 35 = 0 := by rw [t4 71 35 (fun _ => by decide)]; exact e35
    have q37 : τ 71 37 = nI (sk t p) := by rw [t4 71 37 (fun _ => by decide)]; exact e37
    have two : ∃ τ', s_X12_want n 0 2 (nI (sk t p)) τ = some (0, τ') ∧ mfl (2, sk t p) τ' ∧ ∀ o j, o ≠ 71 → τ' o j = σ o j := by
      obtain ⟨τ', w1, w2, w3⟩ := want_n (n := n) (f := 2) (x := sk t p) q35 ⟨by omega, by omega⟩ (by omega)
      exact ⟨τ', w1, w2, fun o j ho => by rw [w3 o j (fun z => absurd z ho), t4 o j (fun z => absurd z ho), fo o j ho]⟩
    rw [t2, q37, nsub (by omega)]
    by_cases e2 : te t p - sk t p ≤ 3
    · rw [if_neg (by rw [show (4 : Int32) = nI 4 from rfl, nle (by omega) (by omega)]; omega)]
      have hv := t3 e2
      have hnv := nv_lt e1 e2
      have hv2 : v' = nI (nv t p) := hv
      have i2 : s_X12_in n v'.toInt64 (nI lo).toInt64 (nI hi).toInt64 τ = some (zo (inb (nI lo) v' (nI hi)), τ) := inb_ok n v' (nI lo) (nI hi) τ
      rw [i2, bd_so, hv2, lt_eq, q37]
      have hin : inb (nI lo) (nI (nv t p)) (nI hi) = decide (lo ≤ nv t p ∧ nv t p ≤ hi) := by
        unfold inb
        by_cases z3 : lo ≤ nv t p
        · by_cases z4 : nv t p ≤ hi
          · rw [decide_eq_true (by rw [nle (by omega) (by omega)]; exact z3), decide_eq_true (by rw [nle (by omega) (by omega)]; exact z4), decide_eq_true ⟨z3, z4⟩]; rfl
          · rw [decide_eq_false (show ¬ nI (nv t p) ≤ nI hi by rw [nle (by omega) (by omega)]; exact z4), Bool.and_false, decide_eq_false (show ¬ (lo ≤ nv t p ∧ nv t p ≤ hi) from fun z => z4 z.2)]
        · rw [decide_eq_false (show ¬ nI lo ≤ nI (nv t p) by rw [nle (by omega) (by omega)]; exact z3), Bool.false_and, decide_eq_false (show ¬ (lo ≤ nv t p ∧ nv t p ≤ hi) from fun z => z3 z.1)]
      rw [hin]
      by_cases e3 : lo ≤ nv t p ∧ nv t p ≤ hi
      · rw [decide_eq_true e3, if_neg z_t, want_y q35, bd_so, if_pos ⟨e2, e3.1, e3.2⟩]
        refine ⟨_, τ, rfl, fun q hq => by (cases hq), fun r hr => ?_, fun o j ho => by rw [t4 o j (fun z => absurd z ho), fo o j ho]⟩
        cases hr
        exact ⟨rfl, ⟨mTx_of hc1 (t4 71 33 (fun _ => by decide)) (fun j => t4 98 j (fun z => absurd z (by decide))), t2, q35, by rw [t4 71 36 (fun _ => by decide)]; exact e36⟩, q37, hte.2, hnv⟩
      · rw [decide_eq_false e3, if_pos z_f, if_neg (fun z => e3 ⟨z.2.1, z.2.2⟩)]
        obtain ⟨τ', w1, w2, w3⟩ := two
        rw [w1, bd_so]
        refine ⟨_, τ', rfl, fun q hq => ?_, fun r hr => by (cases hr), w3⟩
        cases hq
        exact w2
    · rw [if_pos (by rw [show (4 : Int32) = nI 4 from rfl, nle (by omega) (by omega)]; omega), if_neg (fun z => e2 z.1)]
      obtain ⟨τ', w1, w2, w3⟩ := two
      rw [w1, bd_so]
      refine ⟨_, τ', rfl, fun q hq => ?_, fun r hr => by (cases hr), w3⟩
      cases hq
      exact w2
  · have hin : s_X12_in n (if sk t p < t.1 then nI (t.2 (sk t p)) else (-1 : Int32)).toInt64 48 57 σ2 = some (0, σ2) := by
      by_cases z : sk t p < t.1
      · rw [if_pos z]
        have i1 : s_X12_in n (nI (t.2 (sk t p))).toInt64 48 57 σ2 = some (zo (inb 48 (nI (t.2 (sk t p))) 57), σ2) := inb_ok n (nI (t.2 (sk t p))) 48 57 σ2
        rw [i1, inD (ht.2 _ z)]
        cases hD : isD (t.2 (sk t p))
        · rfl
        · exact absurd (tk2.mpr ⟨z, hD⟩) e1
      · rw [if_neg z]
        have i1 : s_X12_in n (-1 : Int32).toInt64 48 57 σ2 = some (zo (inb 48 (-1) 57), σ2) := inb_ok n (-1) 48 57 σ2
        rw [i1]
        rfl
    rw [hin, bd_so, e34, if_neg e1]
    obtain ⟨τ', w1, w2, w3⟩ := want_n (n := n) (f := 1) (x := sk t p) e35 ⟨by omega, by omega⟩ (by omega)
    have w1' : s_X12_want n 0 1 (nI (sk t p)) σ2 = some (0, τ') := w1
    rw [w1', bd_so, if_pos rfl]
    refine ⟨_, τ', rfl, fun q hq => ?_, fun r hr => by (cases hr), fun o j ho => by rw [w3 o j (fun z => absurd z ho), fo o j ho]⟩
    cases hq
    exact w2
theorem tn_f {n : Nat} {x1 x2 : Int32} {σ : Sg} {q : Nat × Nat} (h : mfl q σ) : s_X12_takeNumber n x1 x2 σ = some (0, σ) := by
  have hb := h.1
  unfold s_X12_takeNumber
  rw [h.2.1, if_neg (by rw [show (0 : Int32) = nI 0 from rfl, nle (by omega) (by omega)]; omega)]
theorem sc_ok {n p : Nat} {t : Tx} {σ : Sg} (hn : 300000 ≤ n) (ht : txok t) (hp : p ≤ t.1) (h : mrd t p σ) : ∃ τ, s_X12_readClause_155 n σ = some τ ∧ (∀ q, pSemi t p = .inl q → mfl q τ) ∧ (∀ r, pSemi t p = .inr r → mrd t r τ ∧ r ≤ t.1) ∧ ∀ o j, o ≠ 71 → τ o j = σ o j := by
  have h160 := ht.1
  have hsk := sk_le hp
  have hte := te_le hp
  obtain ⟨σ1, a1, a2, a3⟩ := here_ok (n := n) hn ht hp h.1 h.2.1
  have e35 : σ1 71 35 = 0 := by rw [a3 71 35 (fun _ => by decide)]; exact h.2.2.1
  unfold s_X12_readClause_155 s_X12_readClause_184 pSemi
  rw [h.2.2.1, if_pos rfl, a1, bd_so, lt_eq, a2]
  by_cases e1 : tk t p = 4
  · obtain ⟨z1, z2⟩ := tk34.2.mp e1
    have he : te t p = sk t p + 1 := by unfold te; rw [if_neg (by omega), if_neg (by omega), if_neg (by omega)]
    rw [if_pos z1, z2, if_pos (show nI 59 = 59 from rfl), want_y e35, bd_so, show (1 : Int32) = zo true from rfl, one_ok, bd_so, lt_eq, if_pos e1, show zo true = 1 from rfl, nI_1]
    refine ⟨_, rfl, fun q hq => by (cases hq), fun r hr => ?_, fun o j ho => by rw [up2_o ho, a3 o j (fun z => absurd z ho)]⟩
    cases hr
    refine ⟨⟨mTx_of h.1 (by rw [up2_app, if_pos rfl, if_neg (by decide), a3 71 33 (fun _ => by decide)]) (fun j => by rw [up2_o (by decide), a3 98 j (fun z => absurd z (by decide))]), by rw [he]; simp [up2_app], by rw [up2_app, if_pos rfl, if_neg (by decide)]; exact e35, by rw [up2_app, if_pos rfl, if_neg (by decide), a3 71 36 (fun _ => by decide)]; exact h.2.2.2⟩, hte.2⟩
  · have hne : ¬ (if sk t p < t.1 then nI (t.2 (sk t p)) else (-1 : Int32)) = 59 := by
      by_cases z : sk t p < t.1
      · have hch := ht.2 _ z
        rw [if_pos z, show (59 : Int32) = nI 59 from rfl, neq (by omega) (by omega)]
        exact fun q => e1 (tk34.2.mpr ⟨z, q⟩)
      · rw [if_neg z]; decide
    rw [if_neg hne, if_neg e1]
    obtain ⟨τ', w1, w2, w3⟩ := want_n (n := n) (f := 1) (x := sk t p) e35 ⟨by omega, by omega⟩ (by omega)
    have w1' : s_X12_want n 0 1 (nI (sk t p)) σ1 = some (0, τ') := w1
    rw [w1', bd_so, show (0 : Int32) = zo false from rfl, one_ok, bd_so, lt_eq]
    refine ⟨_, rfl, fun q hq => ?_, fun r hr => by (cases hr), fun o j ho => by rw [up2_o ho, w3 o j (fun z => absurd z ho), a3 o j (fun z => absurd z ho)]⟩
    cases hq
    exact ⟨w2.1, by rw [up2_app, if_pos rfl, if_neg (by decide)]; exact w2.2.1, by rw [up2_app, if_pos rfl, if_neg (by decide)]; exact w2.2.2⟩
theorem sc_f {n : Nat} {σ : Sg} {q : Nat × Nat} (h : mfl q σ) : s_X12_readClause_155 n σ = some σ := by
  have hb := h.1
  unfold s_X12_readClause_155
  rw [h.2.1, if_neg (by rw [show (0 : Int32) = nI 0 from rfl, neq (by omega) (by omega)]; omega)]
theorem usR_bt {ks : List Nat} : ∀ {k : Nat}, (∀ j ∈ ks, j < 4) → k < 4 → bt (usR ks) k = ks.contains k := by
  induction ks with
  | nil => intro k _ _; exact b_0 k
  | cons a r ih =>
    intro k h hk
    show bt (usR r ||| sl 1 (nI a)) k = _
    have ha := h a (by simp)
    rw [b_or, ih (fun j hj => h j (List.mem_cons_of_mem _ hj)) hk, sl1_bt (by omega) (by omega), List.contains_cons, Bool.or_comm]
    congr 1
/-- the reference's keys: x is where they are put -/
theorem mkeys_go {n x : Nat} {t : Tx} (hn : 300000 ≤ n) (ht : txok t) (hx : x < 64) : ∀ (f p : Nat) (ks : List Nat) (kf : Nat) (σ : Sg), f + ks.length = 5 → f + 1 < kf → ksok ks → p ≤ t.1 → mrd t p σ → ∃ τ, s_X12_readKeys_10 n kf (nI x) (usR ks) (nI ks.length) (krR ks) 1 σ = some τ ∧ (∀ q, pKeys t f p ks = .inl q → mfl q τ) ∧ (∀ r, pKeys t f p ks = .inr r → mrd t (sk t r.1) τ ∧ r.1 ≤ t.1 ∧ τ 96 x = krR r.2 ∧ τ 97 x = nI r.2.length) ∧ ∀ o j, o ≠ 71 → ((o ≠ 96 ∧ o ≠ 97) ∨ j ≠ x) → τ o j = σ o j := by
  have h160 := ht.1
  have fin : ∀ (kf : Nat) (x2 : Int32) (m : Nat) (row : Int32) (ρ : Sg), ∃ τ, s_X12_readKeys_134 n (nI x) (nI m) row ρ = some τ ∧ τ 96 x = row ∧ τ 97 x = nI m ∧ (∀ j, τ 71 j = ρ 71 j) ∧ (∀ j, τ 98 j = ρ 98 j) ∧ ∀ o j, ((o ≠ 96 ∧ o ≠ 97) ∨ j ≠ x) → τ o j = ρ o j := by
    intro kf x2 m row ρ
    unfold s_X12_readKeys_134
    rw [ck_n hx (by omega), ix_n (by omega), lt_eq, ck_n hx (by omega), lt_eq]
    refine ⟨_, rfl, by simp [up2_app], by simp [up2_app], fun j => by rw [up2_o (by decide), up2_o (by decide)], fun j => by rw [up2_o (by decide), up2_o (by decide)], fun o j ho => ?_⟩
    rcases ho with ho | ho
    · rw [up2_o ho.2, up2_o ho.1]
    · simp only [up2_app, ho, if_false, ite_self]
  intro f
  induction f with
  | zero =>
    intro p ks kf σ hf _ hks
    have := ks_len hks
    omega
  | succ f ih =>
    intro p ks kf σ hf hkf hks hp hr
    obtain ⟨kf, rfl⟩ : ∃ k', kf = k' + 1 := ⟨kf - 1, by omega⟩
    have hkl := ks_len hks
    have hte := te_le hp
    have hsk := sk_le hp
    obtain ⟨σ1, a1, a2, a3⟩ := tw_ok (n := n) hn ht hp hr.1 hr.2.1
    have hk4 := kkd_cases t p
    have e35 : σ1 71 35 = 0 := by rw [a3 71 35 (fun _ => by decide)]; exact hr.2.2.1
    have hpk : pKeys t (f + 1) p ks = if kkd t p = 4 then .inl (1, sk t p) else if ks.contains (kkd t p) = true then .inl (4, sk t p) else if tk t (te t p) = 3 then pKeys t f (te t (te t p)) (kkd t p :: ks) else .inr (te t p, kkd t p :: ks) := rfl
    -- a fault: the loop ends
    have bad : ∀ (q : Nat × Nat) (ρ : Sg), mfl q ρ → (∀ o j, o ≠ 71 → ρ o j = σ o j) → ∃ τ, s_X12_readKeys_10 n kf (nI x) (usR ks) (nI ks.length) (krR ks) 1 ρ = some τ ∧ mfl q τ ∧ ∀ o j, o ≠ 71 → ((o ≠ 96 ∧ o ≠ 97) ∨ j ≠ x) → τ o j = σ o j := by
      intro q ρ hq hfr
      obtain ⟨kf, rfl⟩ : ∃ k', kf = k' + 1 := ⟨kf - 1, by omega⟩
      obtain ⟨τ, b1, b2, b3, b4, b5, b6⟩ := fin kf 0 ks.length (krR ks) ρ
      have hb := hq.1
      refine ⟨τ, ?_, mfl_of hq b4, fun o j h1 h2 => by rw [b6 o j h2, hfr o j h1]⟩
      show s_X12_readKeys_10b n _ _ _ _ _ _ _ = _
      unfold s_X12_readKeys_10b
      rw [if_neg (by decide), hq.2.1, if_neg (by rw [show (0 : Int32) = nI 0 from rfl, neq (by omega) (by omega)]; omega)]
      exact b1
    rw [hpk]
    show ∃ τ, s_X12_readKeys_10b n (s_X12_readKeys_10 n kf) _ _ _ _ _ _ = _ ∧ _
    unfold s_X12_readKeys_10b s_X12_readKeys_43
    rw [if_neg (by decide), hr.2.2.1, if_pos rfl, a1, bdv_so, keO_ok hn ht hp a2, bd_so, lt_eq, a2.2.1]
    have fo1 : ∀ o j, o ≠ 71 → σ1 o j = σ o j := fun o j ho => a3 o j (fun z => absurd z ho)
    by_cases c1 : kkd t p = 4
    · rw [if_pos c1, if_pos (show (-1 : Int32) < 0 by decide), if_pos c1]
      obtain ⟨ρ, w1, w2, w3⟩ := want_n (n := n) (f := 1) (x := sk t p) e35 ⟨by omega, by omega⟩ (by omega)
      have w1' : s_X12_want n 0 1 (nI (sk t p)) σ1 = some (0, ρ) := w1
      rw [w1', bd_so, if_pos rfl]
      obtain ⟨τ, b1, b2, b3⟩ := bad (1, sk t p) ρ w2 (fun o j ho => by rw [w3 o j (fun z => absurd z ho), fo1 o j ho])
      refine ⟨τ, b1, fun q hq => ?_, fun r hr => by (cases hr), b3⟩
      cases hq
      exact b2
    · have hk : kkd t p < 4 := by omega
      rw [if_neg c1, if_neg (n_nlt0 (by omega)), if_neg c1, want_y e35, bd_so, if_neg (by decide), lt_eq, sr_bit (usR ks) (show kkd t p < 32 by omega), usR_bt hks.2 hk]
      unfold s_X12_readKeys_69
      rw [a2.2.1]
      cases c2 : ks.contains (kkd t p)
      · rw [if_neg (show ¬ false = true by decide), if_pos rfl, want_y e35, bd_so, if_neg (by decide), lt_eq, lt_eq]
        have hks2 := ksok_c hks hk c2
        have hkl2 := ks_len hks2
        rw [List.length_cons] at hkl2
        have hk1 := kkd_1 c1
        have he : te t p = rn isL t (sk t p) := by unfold te; rw [if_pos hk1]
        have h34 : σ1 71 34 = nI (te t p) := by rw [he]; exact a2.2.2.1
        obtain ⟨σ2, d1, d2, d3⟩ := here_ok (n := n) hn ht hte.2 a2.1 h34
        have hsk2 := sk_le hte.2
        have hte2 := te_le hte.2
        rw [d1, bd_so, lt_eq, nI_1]
        unfold s_X12_readKeys_115
        have hrow : krR ks ||| sl (nI (kkd t p)) (2 * nI ks.length) = krR (kkd t p :: ks) := rfl
        have hus : usR ks ||| sl 1 (nI (kkd t p)) = usR (kkd t p :: ks) := rfl
        rw [hrow, hus]
        have hT2 : mTx t σ2 := mTx_of a2.1 (d3 71 33 (fun _ => by decide)) (fun j => d3 98 j (fun z => absurd z (by decide)))
        have q35 : σ2 71 35 = 0 := by rw [d3 71 35 (fun _ => by decide)]; exact e35
        have q36 : σ2 71 36 = -1 := by rw [d3 71 36 (fun _ => by decide), a3 71 36 (fun _ => by decide)]; exact hr.2.2.2
        have fo2 : ∀ o j, o ≠ 71 → σ2 o j = σ o j := fun o j ho => by rw [d3 o j (fun z => absurd z ho), fo1 o j ho]
        by_cases c3 : tk t (te t p) = 3
        · obtain ⟨z1, z2⟩ := tk34.1.mp c3
          have he2 : te t (te t p) = sk t (te t p) + 1 := by
            have : te t (te t p) = if tk t (te t p) = 1 then rn isL t (sk t (te t p)) else if tk t (te t p) = 2 then rn isD t (sk t (te t p)) else if tk t (te t p) = 0 then sk t (te t p) else sk t (te t p) + 1 := rfl
            rw [this, if_neg (by omega), if_neg (by omega), if_neg (by omega)]
          rw [if_pos z1, z2, if_pos (show nI 44 = 44 from rfl), show (1 : Int32) = zo true from rfl, one_ok, bd_so, lt_eq, d2, show zo true = 1 from rfl, nI_1, ← he2, if_pos c3]
          obtain ⟨τ, g1, g2, g3, g4⟩ := ih (te t (te t p)) (kkd t p :: ks) kf (up2 σ2 71 34 (nI (te t (te t p)))) (by rw [List.length_cons]; omega) (by omega) hks2 hte2.2 ⟨mTx_of hT2 (by rw [up2_app, if_pos rfl, if_neg (by decide)]) (fun j => up2_o (by decide)), by simp [up2_app], by rw [up2_app, if_pos rfl, if_neg (by decide)]; exact q35, by rw [up2_app, if_pos rfl, if_neg (by decide)]; exact q36⟩
          rw [List.length_cons] at g1
          exact ⟨τ, g1, g2, g3, fun o j h1 h2 => by rw [g4 o j h1 h2, up2_o h1, fo2 o j h1]⟩
        · have hne : ¬ (if sk t (te t p) < t.1 then nI (t.2 (sk t (te t p))) else (-1 : Int32)) = 44 := by
            by_cases z : sk t (te t p) < t.1
            · have hch := ht.2 _ z
              rw [if_pos z, show (44 : Int32) = nI 44 from rfl, neq (by omega) (by omega)]
              exact fun q => c3 (tk34.1.mpr ⟨z, q⟩)
            · rw [if_neg z]; decide
          rw [if_neg hne, if_neg c3, show (0 : Int32) = zo false from rfl, one_ok, bd_so, lt_eq, d2, show zo false = 0 from rfl, Int32.add_zero]
          obtain ⟨kf, rfl⟩ : ∃ k', kf = k' + 1 := ⟨kf - 1, by omega⟩
          obtain ⟨τ, b1, b2, b3, b4, b5, b6⟩ := fin kf 0 (ks.length + 1) (krR (kkd t p :: ks)) (up2 σ2 71 34 (nI (sk t (te t p))))
          have g : ∀ j, up2 σ2 71 34 (nI (sk t (te t p))) 71 j = σ2 71 j := fun j => up2_same d2.symm
          refine ⟨τ, ?_, fun q hq => by (cases hq), fun r hr => ?_, fun o j h1 h2 => by rw [b6 o j h2, up2_o h1, fo2 o j h1]⟩
          · show s_X12_readKeys_10b n _ _ _ _ _ _ _ = _
            unfold s_X12_readKeys_10b
            rw [if_pos rfl]
            exact b1
          · cases hr
            exact ⟨⟨mTx_of hT2 (by rw [b4, g]) (fun j => by rw [b5, up2_o (by decide)]), by rw [b4, g]; exact d2, by rw [b4, g]; exact q35, by rw [b4, g]; exact q36⟩, hte.2, b2, b3⟩
      · rw [if_pos rfl, if_neg (by decide)]
        obtain ⟨ρ, w1, w2, w3⟩ := want_n (n := n) (f := 4) (x := sk t p) e35 ⟨by omega, by omega⟩ (by omega)
        have w1' : s_X12_want n 0 4 (nI (sk t p)) σ1 = some (0, ρ) := w1
        rw [w1', bd_so, if_pos rfl]
        obtain ⟨τ, b1, b2, b3⟩ := bad (4, sk t p) ρ w2 (fun o j ho => by rw [w3 o j (fun z => absurd z ho), fo1 o j ho])
        refine ⟨τ, b1, fun q hq => ?_, fun r hr => by (cases hr), b3⟩
        cases hq
        exact b2
