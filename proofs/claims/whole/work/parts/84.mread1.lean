/-! ===== the reference reads ===== -/
def mTx (t : Tx) (σ : Sg) : Prop := σ 71 33 = nI t.1 ∧ ∀ i, i < t.1 → σ 98 i = nI (t.2 i)
theorem mTx_of {t : Tx} {σ τ : Sg} (h : mTx t σ) (h1 : τ 71 33 = σ 71 33) (h2 : ∀ j, τ 98 j = σ 98 j) : mTx t τ := ⟨by rw [h1]; exact h.1, fun i hi => by rw [h2]; exact h.2 i hi⟩
def mrd (t : Tx) (p : Nat) (σ : Sg) : Prop := mTx t σ ∧ σ 71 34 = nI p ∧ σ 71 35 = 0 ∧ σ 71 36 = -1
def mfl (q : Nat × Nat) (σ : Sg) : Prop := (1 ≤ q.1 ∧ q.1 ≤ 5 ∧ q.2 ≤ 160) ∧ σ 71 35 = nI q.1 ∧ σ 71 36 = nI q.2
theorem sk_sk {t : Tx} {p : Nat} (h : p ≤ t.1) : sk t (sk t p) = sk t p := by
  have hle := sk_le h
  by_cases h1 : sk t p < t.1
  · unfold sk at h1 hle ⊢
    have : bl (t.2 (rn bl t p)) = false := by
      have key : ∀ (e p : Nat), p + e = t.1 → rnF bl t.2 e p < t.1 → bl (t.2 (rnF bl t.2 e p)) = false := by
        intro e
        induction e with
        | zero =>
          intro p hp hlt
          have : rnF bl t.2 0 p = p := rfl
          omega
        | succ e ih =>
          intro p hp hlt
          have e1 : rnF bl t.2 (e + 1) p = if bl (t.2 p) = true then rnF bl t.2 e (p + 1) else p := rfl
          rw [e1] at hlt ⊢
          by_cases hb : bl (t.2 p) = true
          · rw [if_pos hb] at hlt ⊢
            exact ih (p + 1) (by omega) hlt
          · rw [if_neg hb]
            cases hq : bl (t.2 p)
            · rfl
            · exact absurd hq hb
      exact key (t.1 - p) p (by omega) h1
    exact rn_no h1 this
  · unfold sk
    exact rn_end (by unfold sk at h1; omega)
theorem tk_sk {t : Tx} {p : Nat} (h : p ≤ t.1) : tk t (sk t p) = tk t p ∧ te t (sk t p) = te t p := by
  have e := sk_sk h
  have h1 : tk t (sk t p) = tk t p := by unfold tk; rw [e]
  refine ⟨h1, ?_⟩
  unfold te
  rw [h1, e]
theorem here_go {n : Nat} {t : Tx} (ht : txok t) : ∀ (e p k : Nat) (σ : Sg), p + e = t.1 → e < k → mTx t σ → σ 71 34 = nI p → ∃ τ, s_X12_here_0 n k σ = some (if sk t p < t.1 then nI (t.2 (sk t p)) else -1, τ) ∧ τ 71 34 = nI (sk t p) ∧ ∀ o j, (o = 71 → j ≠ 34) → τ o j = σ o j := by
  have h160 := ht.1
  intro e
  induction e with
  | zero =>
    intro p k σ he hk hc h4
    obtain ⟨k, rfl⟩ : ∃ k', k = k' + 1 := ⟨k - 1, by omega⟩
    have hs : sk t p = p := by unfold sk; exact rn_end (by omega)
    refine ⟨σ, ?_, by rw [h4, hs], fun _ _ _ => rfl⟩
    show s_X12_here_0b n _ _ = _
    unfold s_X12_here_0b s_X12_here_38
    rw [hc.1, h4, if_pos (by rw [nle (by omega) (by omega)]; omega), if_pos (by rw [nle (by omega) (by omega)]; omega), hs, if_neg (by omega)]
  | succ e ih =>
    intro p k σ he hk hc h4
    obtain ⟨k, rfl⟩ : ∃ k', k = k' + 1 := ⟨k - 1, by omega⟩
    have hch := ht.2 p (by omega)
    show ∃ τ, s_X12_here_0b n (s_X12_here_0 n k) _ = _ ∧ _
    unfold s_X12_here_0b s_X12_here_38
    rw [hc.1, h4, if_neg (by rw [nle (by omega) (by omega)]; omega), ck_n (by omega) (by omega), ix_n (by omega), hc.2 p (by omega)]
    by_cases e1 : t.2 p = 32
    · rw [if_pos (by rw [e1]; rfl), lt_eq, nI_1]
      have hs : sk t p = sk t (p + 1) := by unfold sk; exact rn_yes (by omega) (by unfold bl; rw [e1]; rfl)
      obtain ⟨τ, t1, t2, t3⟩ := ih (p + 1) k (up2 σ 71 34 (nI (p + 1))) (by omega) (by omega) (mTx_of hc (by rw [up2_app, if_pos rfl, if_neg (by decide)]) (fun j => up2_o (by decide))) (by simp [up2_app])
      rw [hs]
      refine ⟨τ, t1, t2, fun o j ho => ?_⟩
      rw [t3 o j ho]
      by_cases e2 : o = 71
      · subst e2
        rw [up2_app, if_pos rfl, if_neg (ho rfl)]
      · exact up2_o e2
    · have hs : sk t p = p := by unfold sk; exact rn_no (by omega) (by unfold bl; rw [decide_eq_false e1])
      rw [if_neg (by rw [show (32 : Int32) = nI 32 from rfl, neq (by omega) (by omega)]; exact e1), if_neg (by rw [nle (by omega) (by omega)]; omega), ck_n (by omega) (by omega), hs, if_pos (by omega)]
      exact ⟨σ, rfl, h4, fun _ _ _ => rfl⟩
theorem here_ok {n p : Nat} {t : Tx} {σ : Sg} (hn : 300000 ≤ n) (ht : txok t) (hp : p ≤ t.1) (hc : mTx t σ) (h4 : σ 71 34 = nI p) : ∃ τ, s_X12_here n σ = some (if sk t p < t.1 then nI (t.2 (sk t p)) else -1, τ) ∧ τ 71 34 = nI (sk t p) ∧ ∀ o j, (o = 71 → j ≠ 34) → τ o j = σ o j := by
  have h160 := ht.1
  exact here_go (n := n) ht (t.1 - p) p n σ (by omega) (by omega) hc h4
/-- a word has been taken -/
def mwd (t : Tx) (p : Nat) (σ : Sg) : Prop := mTx t σ ∧ σ 71 37 = nI (sk t p) ∧ σ 71 34 = nI (rn isL t (sk t p)) ∧ σ 71 38 = nI (rn isL t (sk t p) - sk t p)
theorem inL {c : Nat} (hc : c < 256) : inb 97 (nI c) 122 = isL c := by
  unfold inb isL
  rw [show (97 : Int32) = nI 97 from rfl, show (122 : Int32) = nI 122 from rfl]
  congr 1
  · rw [decide_eq_decide, nle (by omega) (by omega)]
  · rw [decide_eq_decide, nle (by omega) (by omega)]
theorem inD {c : Nat} (hc : c < 256) : inb 48 (nI c) 57 = isD c := by
  unfold inb isD
  rw [show (48 : Int32) = nI 48 from rfl, show (57 : Int32) = nI 57 from rfl]
  congr 1
  · rw [decide_eq_decide, nle (by omega) (by omega)]
  · rw [decide_eq_decide, nle (by omega) (by omega)]
theorem tw_go {n q : Nat} {t : Tx} (ht : txok t) : ∀ (e p k : Nat) (σ : Sg), p + e = t.1 → e < k → q ≤ p → mTx t σ → σ 71 34 = nI p → σ 71 37 = nI q → ∃ τ, s_X12_takeWord_13 n k σ = some τ ∧ τ 71 34 = nI (rn isL t p) ∧ τ 71 38 = nI (rn isL t p - q) ∧ ∀ o j, (o = 71 → j ≠ 34 ∧ j ≠ 38) → τ o j = σ o j := by
  have h160 := ht.1
  intro e
  induction e with
  | zero =>
    intro p k σ he hk hq hc h4 h7
    obtain ⟨k, rfl⟩ : ∃ k', k = k' + 1 := ⟨k - 1, by omega⟩
    show ∃ τ, s_X12_takeWord_13b n _ _ = _ ∧ _
    unfold s_X12_takeWord_13b
    rw [hc.1, h4, if_pos (by rw [nle (by omega) (by omega)]; omega), lt_eq, h7, nsub hq, rn_end (by omega)]
    refine ⟨_, rfl, by rw [up2_app, if_pos rfl, if_neg (by decide)]; exact h4, by simp [up2_app], fun o j ho => ?_⟩
    by_cases e2 : o = 71
    · subst e2; rw [up2_app, if_pos rfl, if_neg (ho rfl).2]
    · exact up2_o e2
  | succ e ih =>
    intro p k σ he hk hq hc h4 h7
    obtain ⟨k, rfl⟩ : ∃ k', k = k' + 1 := ⟨k - 1, by omega⟩
    have hch := ht.2 p (by omega)
    have i1 : s_X12_in n (nI (t.2 p)).toInt64 97 122 σ = some (zo (inb 97 (nI (t.2 p)) 122), σ) := inb_ok n (nI (t.2 p)) 97 122 σ
    show ∃ τ, s_X12_takeWord_13b n (s_X12_takeWord_13 n k) _ = _ ∧ _
    unfold s_X12_takeWord_13b
    rw [hc.1, h4, if_neg (by rw [nle (by omega) (by omega)]; omega), ck_n (by omega) (by omega), ix_n (by omega), hc.2 p (by omega), i1, bd_so, inL hch]
    cases hL : isL (t.2 p)
    · rw [if_pos z_f, lt_eq, h4, h7, nsub hq, rn_no (by omega) hL]
      refine ⟨_, rfl, by rw [up2_app, if_pos rfl, if_neg (by decide)]; exact h4, by simp [up2_app], fun o j ho => ?_⟩
      by_cases e2 : o = 71
      · subst e2; rw [up2_app, if_pos rfl, if_neg (ho rfl).2]
      · exact up2_o e2
    · rw [if_neg z_t, lt_eq, h4, nI_1, rn_yes (p := p) (by omega) hL]
      obtain ⟨τ, t1, t2, t3, t4⟩ := ih (p + 1) k (up2 σ 71 34 (nI (p + 1))) (by omega) (by omega) (by omega) (mTx_of hc (by rw [up2_app, if_pos rfl, if_neg (by decide)]) (fun j => up2_o (by decide))) (by simp [up2_app]) (by rw [up2_app, if_pos rfl, if_neg (by decide)]; exact h7)
      refine ⟨τ, t1, t2, t3, fun o j ho => ?_⟩
      rw [t4 o j ho]
      by_cases e2 : o = 71
      · subst e2; rw [up2_app, if_pos rfl, if_neg (ho rfl).1]
      · exact up2_o e2
theorem tw_ok {n p : Nat} {t : Tx} {σ : Sg} (hn : 300000 ≤ n) (ht : txok t) (hp : p ≤ t.1) (hc : mTx t σ) (h4 : σ 71 34 = nI p) : ∃ τ, s_X12_takeWord n σ = some τ ∧ mwd t p τ ∧ ∀ o j, (o = 71 → j ≠ 34 ∧ j ≠ 37 ∧ j ≠ 38) → τ o j = σ o j := by
  have h160 := ht.1
  have hsk := sk_le hp
  obtain ⟨σ1, a1, a2, a3⟩ := here_ok (n := n) hn ht hp hc h4
  have g : ∀ o j, (o = 71 → j ≠ 37) → up2 σ1 71 37 (nI (sk t p)) o j = σ1 o j := fun o j ho => by
    by_cases e2 : o = 71
    · subst e2; rw [up2_app, if_pos rfl, if_neg (ho rfl)]
    · exact up2_o e2
  have hc1 : mTx t (up2 σ1 71 37 (nI (sk t p))) := mTx_of hc (by rw [g 71 33 (fun _ => by decide), a3 71 33 (fun _ => by decide)]) (fun j => by rw [g 98 j (fun z => absurd z (by decide)), a3 98 j (fun z => absurd z (by decide))])
  obtain ⟨τ, b1, b2, b3, b4⟩ := tw_go (n := n) (q := sk t p) ht (t.1 - sk t p) (sk t p) n (up2 σ1 71 37 (nI (sk t p))) (by omega) (by omega) (Nat.le_refl _) hc1 (by rw [g 71 34 (fun _ => by decide)]; exact a2) (by simp [up2_app])
  refine ⟨τ, ?_, ⟨mTx_of hc1 (b4 71 33 (fun _ => by decide)) (fun j => b4 98 j (fun z => absurd z (by decide))), by rw [b4 71 37 (fun _ => by decide)]; simp [up2_app], b2, b3⟩, fun o j ho => ?_⟩
  · unfold s_X12_takeWord
    rw [a1, bd_so, a2, lt_eq]
    exact b1
  · rw [b4 o j (fun z => ⟨(ho z).1, (ho z).2.2⟩), g o j (fun z => (ho z).2.1), a3 o j (fun z => (ho z).1)]
theorem isw_go {n q : Nat} {t : Tx} {w : List Nat} {σ : Sg} (ht : txok t) (hw6 : w.length ≤ 6) (hw : ∀ k, k < w.length → w.getD k 0 < 256) (hc : mTx t σ) (h7 : σ 71 37 = nI q) (hq : q + w.length ≤ t.1) : ∀ (e k f : Nat), k + e = w.length → e < f → s_X12_isWord_18 n f (nI w.length) (nI (w.getD 0 0)) (nI (w.getD 1 0)) (nI (w.getD 2 0)) (nI (w.getD 3 0)) (nI (w.getD 4 0)) (nI (w.getD 5 0)) 1 (nI k) σ = some (zo (wEq t.2 (q + k) (w.drop k)), σ) := by
  have h160 := ht.1
  intro e
  induction e with
  | zero =>
    intro k f he hf
    obtain ⟨f, rfl⟩ : ∃ k', f = k' + 1 := ⟨f - 1, by omega⟩
    show s_X12_isWord_18b n _ _ _ _ _ _ _ _ _ _ _ = _
    unfold s_X12_isWord_18b
    rw [if_pos (by rw [nle (by omega) (by omega)]; omega), List.drop_eq_nil_of_le (by omega)]
    rfl
  | succ e ih =>
    intro k f he hf
    obtain ⟨f, rfl⟩ : ∃ k', f = k' + 1 := ⟨f - 1, by omega⟩
    have hk : k < w.length := by omega
    have c2 := hw k hk
    have hch := ht.2 (q + k) (by omega)
    have hv : (if nI k = 0 then nI (w.getD 0 0) else if nI k = 1 then nI (w.getD 1 0) else if nI k = 2 then nI (w.getD 2 0) else if nI k = 3 then nI (w.getD 3 0) else if nI k = 4 then nI (w.getD 4 0) else nI (w.getD 5 0)) = nI (w.getD k 0) := by
      rcases (show k = 0 ∨ k = 1 ∨ k = 2 ∨ k = 3 ∨ k = 4 ∨ k = 5 by omega) with rfl | rfl | rfl | rfl | rfl | rfl <;> rfl
    show s_X12_isWord_18b n (s_X12_isWord_18 n f) _ _ _ _ _ _ _ _ _ _ = _
    unfold s_X12_isWord_18b s_X12_isWord_95
    rw [if_neg (by rw [nle (by omega) (by omega)]; omega), if_neg (by decide), h7, nadd, ck_n (by omega) (by omega), ix_n (by omega), lt_eq, hv, hc.2 _ (by omega), lt_eq, show nI k + 1 = nI (k + 1) from nI_1 k]
    have hdrop : w.drop k = w.getD k 0 :: w.drop (k + 1) := by
      rw [List.drop_eq_getElem_cons hk, List.getD_eq_getElem?_getD, List.getElem?_eq_getElem hk]
      rfl
    rw [hdrop]
    show _ = some (zo (decide (t.2 (q + k) = w.getD k 0) && wEq t.2 (q + k + 1) (w.drop (k + 1))), σ)
    by_cases e1 : t.2 (q + k) = w.getD k 0
    · rw [if_pos (by rw [e1]), decide_eq_true e1, Bool.true_and]
      exact ih (k + 1) f (by omega) (by omega)
    · rw [if_neg (by rw [neq (by omega) (by omega)]; exact e1), decide_eq_false e1, Bool.false_and]
      obtain ⟨f, rfl⟩ : ∃ k', f = k' + 1 := ⟨f - 1, by omega⟩
      show s_X12_isWord_18b n _ _ _ _ _ _ _ _ _ _ _ = _
      unfold s_X12_isWord_18b
      by_cases e2 : nI w.length ≤ nI (k + 1)
      · rw [if_pos e2]; rfl
      · rw [if_neg e2, if_pos rfl]; rfl
theorem isw_ok {n p : Nat} {t : Tx} {w : List Nat} {σ : Sg} (hn : 300000 ≤ n) (ht : txok t) (hp : p ≤ t.1) (hw0 : 0 < w.length) (hw6 : w.length ≤ 6) (hw : ∀ k, k < w.length → w.getD k 0 < 256) (h : mwd t p σ) : s_X12_isWord n (nI w.length) (nI (w.getD 0 0)) (nI (w.getD 1 0)) (nI (w.getD 2 0)) (nI (w.getD 3 0)) (nI (w.getD 4 0)) (nI (w.getD 5 0)) σ = some (zo (isW t p w), σ) := by
  have h160 := ht.1
  have hsk := sk_le hp
  have hr := rn_le (f := isL) hsk.2
  obtain ⟨hc, h7, h4, h8⟩ := h
  unfold s_X12_isWord isW
  rw [h8, lt_eq]
  by_cases e1 : rn isL t (sk t p) - sk t p = w.length
  · have hk1 : tk t p = 1 := by
      unfold tk
      by_cases z : sk t p < t.1
      · rw [if_pos z, kd_1]
        cases hq : isL (t.2 (sk t p))
        · rw [rn_no z hq] at e1; omega
        · rfl
      · rw [rn_end (by omega)] at e1; omega
    have he : te t p = rn isL t (sk t p) := by unfold te; rw [if_pos hk1]
    rw [if_pos (by rw [e1]), decide_eq_true hk1, Bool.true_and, he, decide_eq_true e1, Bool.true_and]
    exact isw_go (n := n) (q := sk t p) ht hw6 hw hc h7 (by omega) w.length 0 n (by omega) (by omega)
  · rw [if_neg (by rw [neq (by omega) (by omega)]; exact e1)]
    have hf : (decide (tk t p = 1) && (decide (te t p - sk t p = w.length) && wEq t.2 (sk t p) w)) = false := by
      by_cases z : tk t p = 1
      · have he : te t p = rn isL t (sk t p) := by unfold te; rw [if_pos z]
        rw [he, decide_eq_false e1, Bool.false_and, Bool.and_false]
      · rw [decide_eq_false z, Bool.false_and]
    rw [hf]
    obtain ⟨n', rfl⟩ : ∃ k', n = k' + 1 := ⟨n - 1, by omega⟩
    show s_X12_isWord_18b _ _ _ _ _ _ _ _ _ _ _ _ = _
    unfold s_X12_isWord_18b
    rw [if_neg (by rw [show (0 : Int32) = nI 0 from rfl, nle (by omega) (by omega)]; omega), if_pos rfl]
    rfl
theorem wJ_b : ∀ i, i < 10 → 0 < (wJ i).length ∧ (wJ i).length ≤ 6 ∧ ∀ k, k < (wJ i).length → (wJ i).getD k 0 < 256 := by decide +kernel
theorem iswJ {n p i : Nat} {t : Tx} {σ : Sg} (hn : 300000 ≤ n) (ht : txok t) (hp : p ≤ t.1) (hi : i < 10) (h : mwd t p σ) : s_X12_isWord n (nI (wJ i).length) (nI ((wJ i).getD 0 0)) (nI ((wJ i).getD 1 0)) (nI ((wJ i).getD 2 0)) (nI ((wJ i).getD 3 0)) (nI ((wJ i).getD 4 0)) (nI ((wJ i).getD 5 0)) σ = some (zo (isW t p (wJ i)), σ) := isw_ok hn ht hp (wJ_b i hi).1 (wJ_b i hi).2.1 (wJ_b i hi).2.2 h
theorem clO_ok {n p : Nat} {t : Tx} {σ : Sg} (hn : 300000 ≤ n) (ht : txok t) (hp : p ≤ t.1) (h : mwd t p σ) : s_X12_clauseOf n σ = some (if ckd t p = 5 then -1 else nI (ckd t p), σ) := by
  unfold s_X12_clauseOf ckd
  have j0 : s_X12_isWord n 5 102 105 114 115 116 0 σ = some (zo (isW t p (wJ 0)), σ) := iswJ (i := 0) hn ht hp (by omega) h
  have j1 : s_X12_isWord n 5 104 111 117 114 115 0 σ = some (zo (isW t p (wJ 1)), σ) := iswJ (i := 1) hn ht hp (by omega) h
  have j2 : s_X12_isWord n 4 114 97 116 101 0 0 σ = some (zo (isW t p (wJ 2)), σ) := iswJ (i := 2) hn ht hp (by omega) h
  have j3 : s_X12_isWord n 5 109 101 116 101 114 0 σ = some (zo (isW t p (wJ 3)), σ) := iswJ (i := 3) hn ht hp (by omega) h
  have j4 : s_X12_isWord n 6 115 116 114 105 107 101 σ = some (zo (isW t p (wJ 4)), σ) := iswJ (i := 4) hn ht hp (by omega) h
  rw [j0, bd_so]
  cases isW t p (wJ 0)
  · rw [if_pos z_f, j1, bd_so]
    cases isW t p (wJ 1)
    · rw [if_pos z_f, j2, bd_so]
      cases isW t p (wJ 2)
      · rw [if_pos z_f, j3, bd_so]
        cases isW t p (wJ 3)
        · rw [if_pos z_f, j4, bd_so]
          cases isW t p (wJ 4)
          · rfl
          · rfl
        · rfl
      · rfl
    · rfl
  · rfl
theorem keO_ok {n p : Nat} {t : Tx} {σ : Sg} (hn : 300000 ≤ n) (ht : txok t) (hp : p ≤ t.1) (h : mwd t p σ) : s_X12_keyOf n σ = some (if kkd t p = 4 then -1 else nI (kkd t p), σ) := by
  unfold s_X12_keyOf kkd
  have j0 : s_X12_isWord n 6 97 108 119 97 121 115 σ = some (zo (isW t p (wJ 5)), σ) := iswJ (i := 5) hn ht hp (by omega) h
  have j1 : s_X12_isWord n 4 116 117 114 110 0 0 σ = some (zo (isW t p (wJ 6)), σ) := iswJ (i := 6) hn ht hp (by omega) h
  have j2 : s_X12_isWord n 5 115 109 97 108 108 0 σ = some (zo (isW t p (wJ 7)), σ) := iswJ (i := 7) hn ht hp (by omega) h
  have j3 : s_X12_isWord n 3 102 97 114 0 0 0 σ = some (zo (isW t p (wJ 8)), σ) := iswJ (i := 8) hn ht hp (by omega) h
  rw [j0, bd_so]
  cases isW t p (wJ 5)
  · rw [if_pos z_f, j1, bd_so]
    cases isW t p (wJ 6)
    · rw [if_pos z_f, j2, bd_so]
      cases isW t p (wJ 7)
      · rw [if_pos z_f, j3, bd_so]
        cases isW t p (wJ 8)
        · rfl
        · rfl
      · rfl
    · rfl
  · rfl
theorem want_y {n : Nat} {x2 x3 : Int32} {σ : Sg} (h : σ 71 35 = 0) : s_X12_want n 1 x2 x3 σ = some (1, σ) := by
  unfold s_X12_want s_X12_want_21
  rw [if_neg (by decide), if_pos h]
theorem want_n {n f x : Nat} {σ : Sg} (h : σ 71 35 = 0) (hf : 1 ≤ f ∧ f ≤ 5) (hx : x ≤ 160) : ∃ τ, s_X12_want n 0 (nI f) (nI x) σ = some (0, τ) ∧ mfl (f, x) τ ∧ ∀ o j, (o = 71 → j ≠ 35 ∧ j ≠ 36) → τ o j = σ o j := by
  unfold s_X12_want s_X12_want_21
  rw [if_pos rfl, if_pos h, lt_eq, lt_eq]
  have e : up2 (up2 σ 71 35 (nI f)) 71 36 (nI x) 71 35 = nI f := by rw [up2_app, if_pos rfl, if_neg (by decide), up2_app, if_pos rfl, if_pos rfl]
  rw [e, if_neg (by rw [show (0 : Int32) = nI 0 from rfl, neq (by omega) (by omega)]; omega)]
  refine ⟨_, rfl, ⟨⟨hf.1, hf.2, hx⟩, e, by simp [up2_app]⟩, fun o j ho => ?_⟩
  by_cases e2 : o = 71
  · subst e2; rw [up2_app, if_pos rfl, if_neg (ho rfl).2, up2_app, if_pos rfl, if_neg (ho rfl).1]
  · rw [up2_o e2, up2_o e2]
theorem want_f {n : Nat} {x1 x2 x3 : Int32} {σ : Sg} {q : Nat × Nat} (h : mfl q σ) : s_X12_want n x1 x2 x3 σ = some (0, σ) := by
  have hne : ¬ σ 71 35 = 0 := by rw [h.2.1, show (0 : Int32) = nI 0 from rfl, neq (by have := h.1; omega) (by omega)]; have := h.1; omega
  unfold s_X12_want s_X12_want_21
  by_cases e : x1 = 0
  · rw [if_pos e, if_neg hne, if_neg hne]
  · rw [if_neg e, if_neg hne]
theorem tn_go {n q lo hi : Nat} {t : Tx} (ht : txok t) : ∀ (e c k : Nat) (v : Int32) (σ : Sg), q + c + e = t.1 → e < k → (∀ i, q ≤ i → i < q + c → isD (t.2 i) = true) → mTx t σ → σ 71 34 = nI (q + c) → (c ≤ 3 → v = nI (vF t.2 c q 0)) → ∃ v' τ, s_X12_takeNumber_50 n k (nI lo) (nI hi) v σ = s_X12_takeNumber_129 n (nI lo) (nI hi) v' τ ∧ τ 71 34 = nI (rn isD t (q + c)) ∧ (rn isD t (q + c) - q ≤ 3 → v' = nI (vF t.2 (rn isD t (q + c) - q) q 0)) ∧ ∀ o j, (o = 71 → j ≠ 34) → τ o j = σ o j := by
  have h160 := ht.1
  intro e
  induction e with
  | zero =>
    intro c k v σ he hk hall hc h4 hv
    obtain ⟨k, rfl⟩ : ∃ k', k = k' + 1 := ⟨k - 1, by omega⟩
    refine ⟨v, σ, ?_, by rw [h4, rn_end (by omega)], fun hle => ?_, fun _ _ _ => rfl⟩
    · show s_X12_takeNumber_50b n _ _ _ _ _ = _
      unfold s_X12_takeNumber_50b
      rw [hc.1, h4, if_pos (by rw [nle (by omega) (by omega)]; omega)]
    · rw [rn_end (by omega), show q + c - q = c by omega] at hle ⊢
      exact hv hle
  | succ e ih =>
    intro c k v σ he hk hall hc h4 hv
    obtain ⟨k, rfl⟩ : ∃ k', k = k' + 1 := ⟨k - 1, by omega⟩
    have hch := ht.2 (q + c) (by omega)
    have i1 : s_X12_in n (nI (t.2 (q + c))).toInt64 48 57 σ = some (zo (inb 48 (nI (t.2 (q + c))) 57), σ) := inb_ok n (nI (t.2 (q + c))) 48 57 σ
    show ∃ v' τ, s_X12_takeNumber_50b n (s_X12_takeNumber_50 n k) _ _ _ _ = _ ∧ _
    unfold s_X12_takeNumber_50b
    rw [hc.1, h4, if_neg (by rw [nle (by omega) (by omega)]; omega), ck_n (by omega) (by omega), ix_n (by omega), hc.2 (q + c) (by omega), i1, bd_so, inD hch]
    cases hD : isD (t.2 (q + c))
    · rw [if_pos z_f]
      refine ⟨v, σ, rfl, by rw [h4, rn_no (by omega) hD], fun hle => ?_, fun _ _ _ => rfl⟩
      rw [rn_no (by omega) hD, show q + c - q = c by omega] at hle ⊢
      exact hv hle
    · rw [if_neg z_t, h4]
      have hrn : rn isD t (q + c) = rn isD t (q + (c + 1)) := by rw [rn_yes (p := q + c) (by omega) hD]; rfl
      have hall2 : ∀ i, q ≤ i → i < q + (c + 1) → isD (t.2 i) = true := fun i i1 i2 => by
        by_cases e1 : i = q + c
        · rw [e1]; exact hD
        · exact hall i i1 (by omega)
      have hd2 := hD
      unfold isD at hd2
      rw [Bool.and_eq_true, decide_eq_true_eq, decide_eq_true_eq] at hd2
      have st : ∀ v2 : Int32, (c + 1 ≤ 3 → v2 = nI (vF t.2 (c + 1) q 0)) → ∃ v' τ, s_X12_takeNumber_50 n k (nI lo) (nI hi) v2 (up2 σ 71 34 (nI (q + (c + 1)))) = s_X12_takeNumber_129 n (nI lo) (nI hi) v' τ ∧ τ 71 34 = nI (rn isD t (q + c)) ∧ (rn isD t (q + c) - q ≤ 3 → v' = nI (vF t.2 (rn isD t (q + c) - q) q 0)) ∧ ∀ o j, (o = 71 → j ≠ 34) → τ o j = σ o j := by
        intro v2 hv2
        obtain ⟨v', τ, t1, t2, t3, t4⟩ := ih (c + 1) k v2 (up2 σ 71 34 (nI (q + (c + 1)))) (by omega) (by omega) hall2 (mTx_of hc (by rw [up2_app, if_pos rfl, if_neg (by decide)]) (fun j => up2_o (by decide))) (by simp [up2_app]) hv2
        rw [hrn]
        refine ⟨v', τ, t1, t2, t3, fun o j ho => ?_⟩
        rw [t4 o j ho]
        by_cases e2 : o = 71
        · subst e2; rw [up2_app, if_pos rfl, if_neg (ho rfl)]
        · exact up2_o e2
      have hcalc : c + 1 ≤ 3 → 10 * v + nI (t.2 (q + c)) - 48 = nI (vF t.2 (c + 1) q 0) ∧ v ≤ 999 := fun hle => by
        have hb := vF_lt (ch := t.2) c q 0 hall
        have hp : 10 ^ c ≤ 100 := Nat.pow_le_pow_right (n := 10) (j := 2) (by decide) (by omega)
        rw [hv (by omega), show (10 : Int32) = nI 10 from rfl, nmul, nadd, show (48 : Int32) = nI 48 from rfl, nsub (by omega), vF_s, show (999 : Int32) = nI 999 from rfl, nle (by omega) (by omega)]
        refine ⟨?_, by omega⟩
        congr 1
        omega
      by_cases e9 : v ≤ 999
      · rw [if_pos e9, ck_n (by omega) (by omega), ix_n (by omega), hc.2 (q + c) (by omega), lt_eq, lt_eq, nI_1]
        exact st _ (fun hle => (hcalc hle).1)
      · rw [if_neg e9, lt_eq, nI_1]
        exact st _ (fun hle => absurd (hcalc hle).2 e9)
