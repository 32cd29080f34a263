/-! ===== the reference reads a rule ===== -/
theorem pSemi_sk {t : Tx} {p : Nat} (h : p ≤ t.1) : pSemi t (sk t p) = pSemi t p := by
  unfold pSemi
  rw [(tk_sk h).1, (tk_sk h).2, sk_sk h]
theorem mrd_up {t : Tx} {p o j : Nat} {x : Int32} {σ : Sg} (h7 : o ≠ 71) (h9 : o ≠ 98) (h : mrd t p σ) : mrd t p (up2 σ o j x) := mrd_of h (fun _ => up2_o (Ne.symm h7)) (fun _ => up2_o (Ne.symm h9))
theorem mfl_up {q : Nat × Nat} {o j : Nat} {x : Int32} {σ : Sg} (h7 : o ≠ 71) (h : mfl q σ) : mfl q (up2 σ o j x) := mfl_of h (fun _ => up2_o (Ne.symm h7))
theorem mend_ok {n p x : Nat} {t : Tx} {c : Cl} {σ : Sg} (hn : 300000 ≤ n) (ht : txok t) (hp : p ≤ t.1) (h : mrd t p σ) : ∃ τ, s_X12_readClause_155 n σ = some τ ∧ (∀ q, andS (pSemi t p) c = .inl q → mfl q τ) ∧ (∀ r, andS (pSemi t p) c = .inr r → mrd t r.1 τ ∧ r.1 ≤ t.1 ∧ r.2 = c) ∧ ∀ o j, o ≠ 71 → τ o j = σ o j := by
  obtain ⟨τ, a1, a2, a3, a4⟩ := sc_ok (n := n) hn ht hp h
  refine ⟨τ, a1, fun q hq => ?_, fun r hr => ?_, a4⟩
  · cases hs : pSemi t p with
    | inl q' =>
      rw [hs] at hq
      have hq : (Sum.inl q' : Rz Cl) = .inl q := hq
      rw [← Sum.inl.inj hq]
      exact a2 q' hs
    | inr r' =>
      rw [hs] at hq
      have hq : (Sum.inr (r', c) : Rz Cl) = .inl q := hq
      cases hq
  · cases hs : pSemi t p with
    | inl q' =>
      rw [hs] at hr
      have hr : (Sum.inl q' : Rz Cl) = .inr r := hr
      cases hr
    | inr r' =>
      rw [hs] at hr
      have hr : (Sum.inr (r', c) : Rz Cl) = .inr r := hr
      cases hr
      exact ⟨(a3 r' hs).1, (a3 r' hs).2, rfl⟩
def mRes (t : Tx) (x k : Nat) (X : Rz Cl) (σ τ : Sg) : Prop := (∀ q, X = .inl q → mfl q τ) ∧ (∀ r, X = .inr r → mrd t r.1 τ ∧ r.1 ≤ t.1 ∧ r.2.1 = k ∧ τ 95 x = nI k ∧ τ 96 x = r.2.2.1 ∧ (k ≤ 1 → τ 97 x = r.2.2.2)) ∧ ∀ o j, o ≠ 71 → ((o ≠ 95 ∧ o ≠ 96 ∧ o ≠ 97) ∨ j ≠ x) → τ o j = σ o j
theorem u3 {o j o' x : Nat} {v : Int32} {ρ : Sg} (h : (o ≠ 95 ∧ o ≠ 96 ∧ o ≠ 97) ∨ j ≠ x) (ho : o' = 95 ∨ o' = 96 ∨ o' = 97) : up2 ρ o' x v o j = ρ o j := by
  rcases h with h | h
  · exact up2_o (by omega)
  · simp only [up2_app, h, if_false, ite_self]
theorem mcl_ok {n p x k nr : Nat} {t : Tx} {σ : Sg} (hn : 300000 ≤ n) (ht : txok t) (hp : p ≤ t.1) (hx : x < 64) (hk : k ≤ 4) (hnr : nr ≤ 8) (h26 : σ 71 26 = nI nr) (h : mrd t p σ) : ∃ τ, s_X12_readClause n (nI k) (nI x) σ = some τ ∧ mRes t x k (pCl t p nr k) σ τ := by
  have h160 := ht.1
  have hsk := sk_le hp
  unfold s_X12_readClause pCl
  rw [ck_n hx (by omega), ix_n (by omega), lt_eq]
  have h1 : mrd t p (up2 σ 95 x (nI k)) := mrd_up (by decide) (by decide) h
  have b95 : up2 σ 95 x (nI k) 95 x = nI k := by simp [up2_app]
  by_cases k0 : k = 0
  · subst k0
    rw [if_pos (show nI 0 = 0 from rfl), if_pos rfl]
    obtain ⟨σ2, a1, a2, a3, a4⟩ := mkeys_go (n := n) (x := x) hn ht hx 5 p [] n (up2 σ 95 x (nI 0)) rfl (by omega) ⟨List.nodup_nil, fun j hj => by cases hj⟩ hp h1
    have a1' : s_X12_readKeys n (nI x) (up2 σ 95 x (nI 0)) = some σ2 := a1
    rw [a1', bdv_so]
    unfold pCl0
    have fo2 : ∀ o j, o ≠ 71 → ((o ≠ 95 ∧ o ≠ 96 ∧ o ≠ 97) ∨ j ≠ x) → σ2 o j = σ o j := fun o j p1 p2 => by rw [a4 o j p1 (p2.elim (fun z => .inl z.2) .inr), u3 p2 (.inl rfl)]
    cases hK : pKeys t 5 p [] with
    | inl q =>
      have hq := a2 q hK
      rw [sc_f hq]
      refine ⟨σ2, rfl, fun q' hq' => ?_, fun r hr => by (cases hr), fo2⟩
      cases hq'
      exact hq
    | inr r =>
      obtain ⟨r1, r2, r3, r4⟩ := a3 r hK
      obtain ⟨τ, d1, d2, d3, d4⟩ := mend_ok (n := n) (x := x) (c := (0, krR r.2, nI r.2.length)) hn ht (sk_le r2).2 r1
      rw [pSemi_sk r2] at d2 d3
      refine ⟨τ, d1, d2, fun r' hr' => ?_, fun o j p1 p2 => by rw [d4 o j p1, fo2 o j p1 p2]⟩
      obtain ⟨g1, g2, g3⟩ := d3 r' hr'
      rw [g3]
      refine ⟨g1, g2, rfl, by rw [d4 95 x (by decide), a4 95 x (by decide) (.inl ⟨by decide, by decide⟩)]; exact b95, by rw [d4 96 x (by decide)]; exact r3, fun _ => by rw [d4 97 x (by decide)]; exact r4⟩
  rw [if_neg (by rw [show (0 : Int32) = nI 0 from rfl, neq (by omega) (by omega)]; exact k0), if_neg k0]
  by_cases k1 : k = 1
  · subst k1
    rw [if_pos (show nI 1 = 1 from rfl), if_pos rfl]
    obtain ⟨v, σ2, a1, a2, a3, a4⟩ := tn_ok (n := n) (lo := 0) (hi := 23) hn ht hp (by omega) (by omega) h1
    have a1' : s_X12_takeNumber n 0 23 (up2 σ 95 x (nI 1)) = some (v, σ2) := a1
    rw [a1', bd_so, ck_n hx (by omega), lt_eq]
    unfold pCl1
    have fo2 : ∀ o j, o ≠ 71 → ((o ≠ 95 ∧ o ≠ 96 ∧ o ≠ 97) ∨ j ≠ x) → up2 σ2 96 x v o j = σ o j := fun o j p1 p2 => by rw [u3 p2 (.inr (.inl rfl)), a4 o j p1, u3 p2 (.inl rfl)]
    cases hN : pNum t p 0 23 with
    | inl q =>
      have hq : mfl q (up2 σ2 96 x v) := mfl_up (by decide) (a2 q hN)
      have hb := hq.1
      rw [hq.2.1, if_neg (by rw [show (0 : Int32) = nI 0 from rfl, neq (by omega) (by omega)]; omega), sc_f hq]
      refine ⟨_, rfl, fun q' hq' => ?_, fun r hr => by (cases hr), fo2⟩
      cases hq'
      exact hq
    | inr r =>
      obtain ⟨r1, r2, r3, r4, r5⟩ := a3 r hN
      have hr2 : mrd t r.1 (up2 σ2 96 x v) := mrd_up (by decide) (by decide) r2
      rw [hr2.2.2.1, if_pos rfl]
      obtain ⟨σ3, c1, c2, c3⟩ := tw_ok (n := n) hn ht r4 hr2.1 hr2.2.1
      have jw : s_X12_isWord n 2 116 111 0 0 0 0 σ3 = some (zo (isW t r.1 (wJ 9)), σ3) := iswJ (i := 9) hn ht r4 (by omega) c2
      have q35 : σ3 71 35 = 0 := by rw [c3 71 35 (fun _ => by decide)]; exact hr2.2.2.1
      have q36 : σ3 71 36 = -1 := by rw [c3 71 36 (fun _ => by decide)]; exact hr2.2.2.2
      have fo3 : ∀ o j, o ≠ 71 → σ3 o j = up2 σ2 96 x v o j := fun o j ho => c3 o j (fun z => absurd z ho)
      rw [c1, bdv_so, jw, bd_so, c2.2.1]
      dsimp only
      unfold pCl1b
      have hskr := sk_le r4
      have hter := te_le r4
      cases hW : isW t r.1 (wJ 9)
      · rw [if_neg (show ¬ false = true by decide)]
        obtain ⟨ρ, w1, w2, w3⟩ := want_n (n := n) (f := 1) (x := sk t r.1) q35 ⟨by omega, by omega⟩ (by omega)
        have w1' : s_X12_want n (zo false) 1 (nI (sk t r.1)) σ3 = some (0, ρ) := w1
        rw [w1', bd_so, ck_n hx (by omega), tn_f w2, bd_so, ck_n hx (by omega), lt_eq, sc_f (mfl_up (by decide) w2)]
        refine ⟨_, rfl, fun q' hq' => ?_, fun r' hr' => by (cases hr'), fun o j p1 p2 => by rw [u3 p2 (.inr (.inr rfl)), w3 o j (fun z => absurd z p1), fo3 o j p1, fo2 o j p1 p2]⟩
        cases hq'
        exact mfl_up (by decide) w2
      · rw [if_pos rfl, show zo true = 1 from rfl, want_y q35, bd_so, ck_n hx (by omega)]
        have hk1 := isW_1 hW
        have he : te t r.1 = rn isL t (sk t r.1) := by unfold te; rw [if_pos hk1]
        have h34 : σ3 71 34 = nI (te t r.1) := by rw [he]; exact c2.2.2.1
        have e96 : σ3 96 x = nI r.2 := by rw [fo3 96 x (by decide), r1]; simp [up2_app]
        obtain ⟨v2, σ4, d1, d2, d3, d4⟩ := tn_ok (n := n) (p := te t r.1) (lo := r.2) (hi := 23) hn ht hter.2 (by omega) (by omega) (σ := σ3) ⟨c2.1, h34, q35, q36⟩
        have d1' : s_X12_takeNumber n (σ3 96 x) 23 σ3 = some (v2, σ4) := by rw [e96]; exact d1
        rw [d1', bd_so, ck_n hx (by omega), lt_eq]
        have fo4 : ∀ o j, o ≠ 71 → ((o ≠ 95 ∧ o ≠ 96 ∧ o ≠ 97) ∨ j ≠ x) → up2 σ4 97 x v2 o j = σ o j := fun o j p1 p2 => by rw [u3 p2 (.inr (.inr rfl)), d4 o j p1, fo3 o j p1, fo2 o j p1 p2]
        cases hN2 : pNum t (te t r.1) r.2 23 with
        | inl q =>
          have hq : mfl q (up2 σ4 97 x v2) := mfl_up (by decide) (d2 q hN2)
          rw [sc_f hq]
          refine ⟨_, rfl, fun q' hq' => ?_, fun r' hr' => by (cases hr'), fo4⟩
          cases hq'
          exact hq
        | inr r' =>
          obtain ⟨g1, g2, g3, g4, g5⟩ := d3 r' hN2
          obtain ⟨τ, m1, m2, m3, m4⟩ := mend_ok (n := n) (x := x) (c := (1, nI r.2, nI r'.2)) hn ht g4 (mrd_up (o := 97) (j := x) (x := v2) (by decide) (by decide) g2)
          refine ⟨τ, m1, m2, fun r'' hr'' => ?_, fun o j p1 p2 => by rw [m4 o j p1, fo4 o j p1 p2]⟩
          obtain ⟨n1, n2, n3⟩ := m3 r'' hr''
          rw [n3]
          refine ⟨n1, n2, rfl, ?_, ?_, fun _ => ?_⟩
          · rw [m4 95 x (by decide), up2_o (by decide), d4 95 x (by decide), fo3 95 x (by decide), up2_o (by decide), a4 95 x (by decide)]; exact b95
          · rw [m4 96 x (by decide), up2_o (by decide), d4 96 x (by decide)]; exact e96
          · rw [m4 97 x (by decide), up2_app, if_pos rfl, if_pos rfl, g1]
  rw [if_neg (by rw [show (1 : Int32) = nI 1 from rfl, neq (by omega) (by omega)]; exact k1), if_neg k1]
  by_cases k4 : k = 4
  · subst k4
    rw [if_pos (show nI 4 = 4 from rfl), if_pos rfl]
    obtain ⟨v, σ2, a1, a2, a3, a4⟩ := tn_ok (n := n) (lo := 0) (hi := 999) hn ht hp (by omega) (by omega) h1
    have a1' : s_X12_takeNumber n 0 999 (up2 σ 95 x (nI 4)) = some (v, σ2) := a1
    have f26 : σ2 71 26 = nI nr := by
      rw [fr_s_X12_takeNumber rfl _ _ _ a1', up2_o (by decide)]; exact h26
    rw [a1', bd_so, ck_n hx (by omega), lt_eq, ck_n hx (by omega), lt_eq]
    unfold s_X12_readClause_130 pCl4
    have fo2 : ∀ o j, o ≠ 71 → ((o ≠ 95 ∧ o ≠ 96 ∧ o ≠ 97) ∨ j ≠ x) → up2 σ2 96 x v o j = σ o j := fun o j p1 p2 => by rw [u3 p2 (.inr (.inl rfl)), a4 o j p1, u3 p2 (.inl rfl)]
    cases hN : pNum t p 0 999 with
    | inl q =>
      have hq : mfl q (up2 σ2 96 x v) := mfl_up (by decide) (a2 q hN)
      rw [want_f hq, bd_so, sc_f hq]
      refine ⟨_, rfl, fun q' hq' => ?_, fun r hr => by (cases hr), fo2⟩
      cases hq'
      exact hq
    | inr r =>
      obtain ⟨r1, r2, r3, r4, r5⟩ := a3 r hN
      have hr2 : mrd t r.1 (up2 σ2 96 x v) := mrd_up (by decide) (by decide) r2
      have e96 : up2 σ2 96 x v 96 x = nI r.2 := by rw [up2_app, if_pos rfl, if_pos rfl]; exact r1
      have e26 : up2 σ2 96 x v 71 26 = nI nr := by rw [up2_o (by decide)]; exact f26
      have e37 : up2 σ2 96 x v 71 37 = nI (sk t p) := by rw [up2_o (by decide)]; exact r3
      rw [e96, e26, e37]
      dsimp only
      by_cases e1 : r.2 < nr
      · rw [if_neg (by rw [nle (by omega) (by omega)]; omega), want_y hr2.2.2.1, bd_so, if_pos e1]
        obtain ⟨τ, m1, m2, m3, m4⟩ := mend_ok (n := n) (x := x) (c := (4, nI r.2, 0)) hn ht r4 hr2
        refine ⟨τ, m1, m2, fun r'' hr'' => ?_, fun o j p1 p2 => by rw [m4 o j p1, fo2 o j p1 p2]⟩
        obtain ⟨n1, n2, n3⟩ := m3 r'' hr''
        rw [n3]
        refine ⟨n1, n2, rfl, ?_, ?_, fun z => by omega⟩
        · rw [m4 95 x (by decide), up2_o (by decide), a4 95 x (by decide)]; exact b95
        · rw [m4 96 x (by decide)]; exact e96
      · rw [if_pos (by rw [nle (by omega) (by omega)]; omega), if_neg e1]
        obtain ⟨ρ, w1, w2, w3⟩ := want_n (n := n) (f := 3) (x := sk t p) hr2.2.2.1 ⟨by omega, by omega⟩ (by omega)
        have w1' : s_X12_want n 0 3 (nI (sk t p)) (up2 σ2 96 x v) = some (0, ρ) := w1
        rw [w1', bd_so, sc_f w2]
        refine ⟨_, rfl, fun q' hq' => ?_, fun r' hr' => by (cases hr'), fun o j p1 p2 => by rw [w3 o j (fun z => absurd z p1), fo2 o j p1 p2]⟩
        cases hq'
        exact w2
  rw [if_neg (by rw [show (4 : Int32) = nI 4 from rfl, neq (by omega) (by omega)]; exact k4), if_neg k4]
  obtain ⟨v, σ2, a1, a2, a3, a4⟩ := tn_ok (n := n) (lo := 0) (hi := 99) hn ht hp (by omega) (by omega) h1
  have a1' : s_X12_takeNumber n 0 99 (up2 σ 95 x (nI k)) = some (v, σ2) := a1
  rw [a1', bd_so, ck_n hx (by omega), lt_eq]
  unfold pCl2
  have fo2 : ∀ o j, o ≠ 71 → ((o ≠ 95 ∧ o ≠ 96 ∧ o ≠ 97) ∨ j ≠ x) → up2 σ2 96 x v o j = σ o j := fun o j p1 p2 => by rw [u3 p2 (.inr (.inl rfl)), a4 o j p1, u3 p2 (.inl rfl)]
  cases hN : pNum t p 0 99 with
  | inl q =>
    have hq : mfl q (up2 σ2 96 x v) := mfl_up (by decide) (a2 q hN)
    rw [sc_f hq]
    refine ⟨_, rfl, fun q' hq' => ?_, fun r hr => by (cases hr), fo2⟩
    cases hq'
    exact hq
  | inr r =>
    obtain ⟨r1, r2, r3, r4, r5⟩ := a3 r hN
    have hr2 : mrd t r.1 (up2 σ2 96 x v) := mrd_up (by decide) (by decide) r2
    obtain ⟨τ, m1, m2, m3, m4⟩ := mend_ok (n := n) (x := x) (c := (k, nI r.2, 0)) hn ht r4 hr2
    refine ⟨τ, m1, m2, fun r'' hr'' => ?_, fun o j p1 p2 => by rw [m4 o j p1, fo2 o j p1 p2]⟩
    obtain ⟨n1, n2, n3⟩ := m3 r'' hr''
    rw [n3]
    refine ⟨n1, n2, rfl, ?_, ?_, fun z => by omega⟩
    · rw [m4 95 x (by decide), up2_o (by decide), a4 95 x (by decide)]; exact b95
    · rw [m4 96 x (by decide), up2_app, if_pos rfl, if_pos rfl, r1]
/-- the clauses that are put down -/
def mcs (nr : Nat) (cs : List Cl) (σ : Sg) : Prop := ∀ i c, cs[i]? = some c → σ 95 (8 * nr + i) = nI c.1 ∧ σ 96 (8 * nr + i) = c.2.1 ∧ (c.1 ≤ 1 → σ 97 (8 * nr + i) = c.2.2)
theorem mrule_go {n nr : Nat} {t : Tx} {x1 : Int32} (hn : 300000 ≤ n) (ht : txok t) (hnr : nr < 8) : ∀ (f p : Nat) (cs : List Cl) (kf : Nat) (σ : Sg), cs.length + f = 10 → cs.length ≤ 8 → f + 1 < kf → p ≤ t.1 → σ 71 26 = nI nr → mrd t p σ → mcs nr cs σ → ∃ m τ, s_X12_rule_41 n kf x1 (nI cs.length) σ = s_X12_rule_128 n x1 (nI m) τ ∧ (∀ q, pRule t nr f p cs = .inl q → mfl q τ) ∧ (∀ cs', pRule t nr f p cs = .inr cs' → m = cs'.length ∧ τ 71 35 = 0 ∧ τ 71 36 = -1 ∧ mcs nr cs' τ) ∧ τ 71 26 = nI nr ∧ ∀ o j, o ≠ 71 → ((o ≠ 95 ∧ o ≠ 96 ∧ o ≠ 97) ∨ j < 8 * nr) → τ o j = σ o j := by
  have h160 := ht.1
  intro f
  induction f with
  | zero => intro p cs kf σ h1 h2; omega
  | succ f ih =>
    intro p cs kf σ h1 h2 hkf hp h26 hr hcs
    obtain ⟨kf, rfl⟩ : ∃ k', kf = k' + 1 := ⟨kf - 1, by omega⟩
    have hsk := sk_le hp
    have hte := te_le hp
    obtain ⟨σ1, a1, a2, a3⟩ := here_ok (n := n) hn ht hp hr.1 hr.2.1
    have q35 : σ1 71 35 = 0 := by rw [a3 71 35 (fun _ => by decide)]; exact hr.2.2.1
    have q36 : σ1 71 36 = -1 := by rw [a3 71 36 (fun _ => by decide)]; exact hr.2.2.2
    have q26 : σ1 71 26 = nI nr := by rw [a3 71 26 (fun _ => by decide)]; exact h26
    have fo1 : ∀ o j, o ≠ 71 → σ1 o j = σ o j := fun o j ho => a3 o j (fun z => absurd z ho)
    have hT1 : mTx t σ1 := mTx_of hr.1 (a3 71 33 (fun _ => by decide)) (fun j => fo1 98 j (by decide))
    rw [pRule_s]
    show ∃ m τ, s_X12_rule_41b n (s_X12_rule_41 n kf) _ _ _ = _ ∧ _
    unfold s_X12_rule_41b
    rw [hr.2.2.1, if_pos rfl, a1, bd_so]
    by_cases c0 : tk t p = 0
    · have hend := (tk_0 hp).mp c0
      rw [if_pos c0, if_neg (show ¬ sk t p < t.1 by omega), if_pos (show (-1 : Int32) < 0 by decide)]
      refine ⟨cs.length, σ1, rfl, fun q hq => by (cases hq), fun cs' hcs' => ?_, q26, fun o j p1 p2 => fo1 o j p1⟩
      cases hcs'
      refine ⟨rfl, q35, q36, fun i c hc => ?_⟩
      rw [fo1 95 _ (by decide), fo1 96 _ (by decide), fo1 97 _ (by decide)]
      exact hcs i c hc
    · have hlt : sk t p < t.1 := by
        have : ¬ sk t p = t.1 := fun z => c0 ((tk_0 hp).mpr z)
        omega
      have hch := ht.2 _ hlt
      rw [if_neg c0, if_pos hlt, if_neg (n_nlt0 (by omega))]
      obtain ⟨σ2, b1, b2, b3⟩ := tw_ok (n := n) hn ht hsk.2 hT1 a2
      have hsp := sk_sk hp
      have b2' : mwd t p σ2 := by
        unfold mwd at b2 ⊢
        rw [hsp] at b2
        exact b2
      have r35 : σ2 71 35 = 0 := by rw [b3 71 35 (fun _ => by decide)]; exact q35
      have r36 : σ2 71 36 = -1 := by rw [b3 71 36 (fun _ => by decide)]; exact q36
      have r26 : σ2 71 26 = nI nr := by rw [b3 71 26 (fun _ => by decide)]; exact q26
      have fo2 : ∀ o j, o ≠ 71 → σ2 o j = σ o j := fun o j ho => by rw [b3 o j (fun z => absurd z ho), fo1 o j ho]
      have hck := ckd_cases t p
      -- a fault ends it
      have bad : ∀ (q : Nat × Nat) (ρ : Sg) (m : Nat), mfl q ρ → s_X12_rule_41 n kf x1 (nI m) ρ = s_X12_rule_128 n x1 (nI m) ρ := by
        intro q ρ m hq
        obtain ⟨kf, rfl⟩ : ∃ k', kf = k' + 1 := ⟨kf - 1, by omega⟩
        have hb := hq.1
        show s_X12_rule_41b n _ _ _ _ = _
        unfold s_X12_rule_41b
        rw [hq.2.1, if_neg (by rw [show (0 : Int32) = nI 0 from rfl, neq (by omega) (by omega)]; omega)]
      rw [b1, bdv_so, clO_ok hn ht hp b2', bd_so, lt_eq]
      unfold s_X12_rule_74 pCw
      rw [b2'.2.1]
      by_cases c1 : ckd t p = 5
      · rw [if_pos c1, if_pos (show (-1 : Int32) < 0 by decide), if_pos c1]
        obtain ⟨ρ, w1, w2, w3⟩ := want_n (n := n) (f := 1) (x := sk t p) r35 ⟨by omega, by omega⟩ (by omega)
        have w1' : s_X12_want n 0 1 (nI (sk t p)) σ2 = some (0, ρ) := w1
        rw [w1', bd_so, if_pos rfl, bad _ ρ cs.length w2]
        refine ⟨cs.length, ρ, rfl, fun q hq => ?_, fun cs' hcs' => by (cases hcs'), by rw [w3 71 26 (fun _ => by decide)]; exact r26, fun o j p1 p2 => by rw [w3 o j (fun z => absurd z p1), fo2 o j p1]⟩
        cases hq
        exact w2
      · rw [if_neg c1, if_neg (n_nlt0 (by omega)), if_neg c1, want_y r35, bd_so, if_neg (by decide), lt_eq]
        unfold s_X12_rule_97
        rw [b2'.2.1]
        by_cases c2 : 8 ≤ cs.length
        · rw [if_pos (by rw [show (8 : Int32) = nI 8 from rfl, nle (by omega) (by omega)]; exact c2), if_pos c2]
          obtain ⟨ρ, w1, w2, w3⟩ := want_n (n := n) (f := 5) (x := sk t p) r35 ⟨by omega, by omega⟩ (by omega)
          have w1' : s_X12_want n 0 5 (nI (sk t p)) σ2 = some (0, ρ) := w1
          rw [w1', bd_so, if_pos rfl, bad _ ρ cs.length w2]
          refine ⟨cs.length, ρ, rfl, fun q hq => ?_, fun cs' hcs' => by (cases hcs'), by rw [w3 71 26 (fun _ => by decide)]; exact r26, fun o j p1 p2 => by rw [w3 o j (fun z => absurd z p1), fo2 o j p1]⟩
          cases hq
          exact w2
        · rw [if_neg (by rw [show (8 : Int32) = nI 8 from rfl, nle (by omega) (by omega)]; exact c2), if_neg c2, want_y r35, bd_so, if_neg (by decide), r26, show (8 : Int32) = nI 8 from rfl, nmul, nadd]
          have hk1 := ckd_1 c1
          have he : te t p = rn isL t (sk t p) := by unfold te; rw [if_pos hk1]
          have hrd2 : mrd t (te t p) σ2 := ⟨b2'.1, by rw [he]; exact b2'.2.2.1, r35, r36⟩
          obtain ⟨σ3, d1, d2, d3, d4⟩ := mcl_ok (n := n) (x := 8 * nr + cs.length) (k := ckd t p) (nr := nr) hn ht hte.2 (by omega) (by omega) (by omega) r26 hrd2
          have s26 : σ3 71 26 = nI nr := by rw [fr_s_X12_readClause rfl _ _ _ d1]; exact r26
          have fo3 : ∀ o j, o ≠ 71 → ((o ≠ 95 ∧ o ≠ 96 ∧ o ≠ 97) ∨ j < 8 * nr + cs.length) → σ3 o j = σ o j := fun o j p1 p2 => by rw [d4 o j p1 (p2.elim .inl (fun z => .inr (by omega))), fo2 o j p1]
          rw [d1, bdv_so, show (nI cs.length + 1 : Int32) = nI (cs.length + 1) from nI_1 _]
          cases hX : pCl t (te t p) nr (ckd t p) with
          | inl q =>
            have hq := d2 q hX
            rw [bad q σ3 (cs.length + 1) hq]
            refine ⟨cs.length + 1, σ3, rfl, fun q' hq' => ?_, fun cs' hcs' => by (cases hcs'), s26, fun o j p1 p2 => fo3 o j p1 (p2.elim .inl (fun z => .inr (by omega)))⟩
            cases hq'
            exact hq
          | inr r =>
            obtain ⟨g1, g2, g3, g4, g5, g6⟩ := d3 r hX
            obtain ⟨m, τ, i1, i2, i3, i4, i5⟩ := ih r.1 (cs ++ [r.2]) kf σ3 (by simp; omega) (by simp; omega) (by omega) g2 s26 g1 (fun i c hc => by
              by_cases e1 : i < cs.length
              · rw [List.getElem?_append_left e1] at hc
                rw [fo3 95 _ (by decide) (.inr (by omega)), fo3 96 _ (by decide) (.inr (by omega)), fo3 97 _ (by decide) (.inr (by omega))]
                exact hcs i c hc
              · have hi : i = cs.length := by
                  have := (List.getElem?_eq_some_iff.mp hc).1
                  simp at this
                  omega
                subst hi
                rw [List.getElem?_append_right (Nat.le_refl _), Nat.sub_self] at hc
                have hc : some r.2 = some c := hc
                cases hc
                rw [g3]
                exact ⟨g4, g5, g6⟩)
            rw [show (cs ++ [r.2]).length = cs.length + 1 by simp] at i1
            exact ⟨m, τ, i1, i2, i3, i4, fun o j p1 p2 => by rw [i5 o j p1 p2]; exact fo3 o j p1 (p2.elim .inl (fun z => .inr (by omega)))⟩
