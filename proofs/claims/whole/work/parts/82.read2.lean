/-! ===== the class reads clauses ===== -/
def rd (t : Tx) (p : Nat) (σ : Sg) : Prop := cTx t σ ∧ σ 25 4 = nI p ∧ σ 25 3 = 0 ∧ σ 25 1 = -1
def fl (q : Nat × Nat) (σ : Sg) : Prop := (1 ≤ q.1 ∧ q.1 ≤ 5 ∧ q.2 ≤ 160) ∧ σ 25 3 = nI q.1 ∧ σ 25 1 = nI q.2
theorem rd_of {t : Tx} {p : Nat} {σ τ : Sg} (h : rd t p σ) (h0 : ∀ j, τ 25 j = σ 25 j) (h2 : ∀ j, τ 26 j = σ 26 j) : rd t p τ := ⟨cTx_of h.1 (h0 0) h2, by rw [h0]; exact h.2.1, by rw [h0]; exact h.2.2.1, by rw [h0]; exact h.2.2.2⟩
theorem fail_ok {n f p : Nat} {t : Tx} {σ : Sg} (ht : txok t) (hp : p ≤ t.1) (h : tokd t p σ) (hf : 1 ≤ f ∧ f ≤ 5) : ∃ τ, s_X5_fail n (nI f) σ = some (zo false, τ) ∧ fl (f, sk t p) τ := by
  have h160 := ht.1
  have hsk := sk_le hp
  unfold s_X5_fail
  rw [lt_eq, lt_eq, up2_app, if_pos rfl, if_neg (by decide), h.2.2.2]
  exact ⟨_, rfl, ⟨hf.1, hf.2, by show sk t p ≤ 160; omega⟩, by simp [up2_app], by simp [up2_app]⟩
theorem nx_rd {n p : Nat} {t : Tx} {σ : Sg} (hn : 300000 ≤ n) (ht : txok t) (hp : p ≤ t.1) (h : rd t p σ) : ∃ τ, s_X5_next n σ = some τ ∧ tokd t p τ ∧ (tk t p = 2 → te t p - sk t p ≤ 3 → τ 25 7 = nI (nv t p)) ∧ τ 25 3 = 0 ∧ τ 25 1 = -1 ∧ ∀ o j, o ≠ 25 → τ o j = σ o j := by
  obtain ⟨τ, a1, a2, a3⟩ := next5_ok (n := n) hn ht hp h.1 h.2.1
  have f : ∀ o j, fok W_X5_next o j = true → τ o j = σ o j := fun o j ho => fr_s_X5_next ho _ a1
  exact ⟨τ, a1, a2, a3, by rw [f 25 3 rfl]; exact h.2.2.1, by rw [f 25 1 rfl]; exact h.2.2.2, fun o j ho => f o j (by simp [fok, Ne.symm ho])⟩
theorem num5_ok {n p lo hi : Nat} {t : Tx} {σ : Sg} (hn : 300000 ≤ n) (ht : txok t) (hp : p ≤ t.1) (hlo : lo < 100000) (hhi : hi < 100000) (h : rd t p σ) : ∃ b τ, s_X5_number n (nI lo) (nI hi) σ = some (zo b, τ) ∧ (∀ q, pNum t p lo hi = .inl q → b = false ∧ fl q τ) ∧ (∀ r, pNum t p lo hi = .inr r → b = true ∧ rd t r.1 τ ∧ τ 25 7 = nI r.2 ∧ r.1 ≤ t.1 ∧ r.2 < 1000) ∧ ∀ o j, o ≠ 25 → τ o j = σ o j := by
  have h160 := ht.1
  have hsk := sk_le hp
  have hte := te_le hp
  obtain ⟨τ, a1, a2, a3, a4, a5, a6⟩ := nx_rd (n := n) hn ht hp h
  have hk5 : tk t p ≤ 5 := by unfold tk; split; exact kd_le _; omega
  unfold s_X5_number pNum
  rw [a1, bdv_so, a2.2.1]
  have two : ∃ b ρ, s_X5_number_43 n τ = some (zo b, ρ) ∧ b = false ∧ fl (2, sk t p) ρ ∧ ∀ o j, o ≠ 25 → ρ o j = σ o j := by
    obtain ⟨ρ, b1, b2⟩ := fail_ok (n := n) (f := 2) ht hp a2 ⟨by omega, by omega⟩
    have b1' : s_X5_fail n 2 τ = some (zo false, ρ) := b1
    refine ⟨false, ρ, ?_, rfl, b2, fun o j ho => ?_⟩
    · unfold s_X5_number_43
      rw [b1', bd_so, bck_zo]
    · rw [fr_s_X5_fail (by simp [fok, Ne.symm ho]) _ _ b1', a6 o j ho]
  by_cases e1 : tk t p = 2
  · rw [if_pos (by rw [e1]; rfl), if_pos e1, a2.2.2.1, a2.2.2.2, nsub (by omega)]
    by_cases e2 : te t p - sk t p ≤ 3
    · rw [if_neg (by rw [show (3 : Int32) = nI 3 from rfl, nlt (by omega) (by omega)]; omega), a3 e1 e2, out_ok, bd_so]
      have hnv := nv_lt e1 e2
      cases e3 : inb (nI lo) (nI (nv t p)) (nI hi)
      · rw [if_neg z_nf]
        obtain ⟨b, ρ, c1, c2, c3, c4⟩ := two
        refine ⟨b, ρ, c1, fun q hq => ?_, fun r hr => ?_, c4⟩
        · by_cases e4 : te t p - sk t p ≤ 3 ∧ lo ≤ nv t p ∧ nv t p ≤ hi
          · rw [if_pos e4] at hq; cases hq
          · rw [if_neg e4] at hq
            cases hq
            exact ⟨c2, c3⟩
        · by_cases e4 : te t p - sk t p ≤ 3 ∧ lo ≤ nv t p ∧ nv t p ≤ hi
          · exfalso
            unfold inb at e3
            rw [decide_eq_true (by rw [nle (by omega) (by omega)]; exact e4.2.1), decide_eq_true (by rw [nle (by omega) (by omega)]; exact e4.2.2)] at e3
            cases e3
          · rw [if_neg e4] at hr; cases hr
      · rw [if_pos z_nt]
        unfold inb at e3
        rw [Bool.and_eq_true, decide_eq_true_eq, decide_eq_true_eq, nle (by omega) (by omega), nle (by omega) (by omega)] at e3
        refine ⟨true, τ, rfl, fun q hq => ?_, fun r hr => ?_, a6⟩
        · rw [if_pos ⟨e2, e3.1, e3.2⟩] at hq; cases hq
        · rw [if_pos ⟨e2, e3.1, e3.2⟩] at hr
          cases hr
          exact ⟨rfl, ⟨a2.1, a2.2.2.1, a4, a5⟩, a3 e1 e2, hte.2, hnv⟩
    · rw [if_pos (by rw [show (3 : Int32) = nI 3 from rfl, nlt (by omega) (by omega)]; omega)]
      obtain ⟨b, ρ, c1, c2, c3, c4⟩ := two
      refine ⟨b, ρ, c1, fun q hq => ?_, fun r hr => ?_, c4⟩
      · rw [if_neg (fun z => e2 z.1)] at hq
        cases hq
        exact ⟨c2, c3⟩
      · rw [if_neg (fun z => e2 z.1)] at hr; cases hr
  · rw [if_neg (by rw [show (2 : Int32) = nI 2 from rfl, neq (by omega) (by omega)]; exact e1), if_neg e1]
    obtain ⟨ρ, b1, b2⟩ := fail_ok (n := n) (f := 1) ht hp a2 ⟨by omega, by omega⟩
    have b1' : s_X5_fail n 1 τ = some (zo false, ρ) := b1
    rw [b1', bd_so, bck_zo]
    refine ⟨false, ρ, rfl, fun q hq => ?_, fun r hr => by (cases hr), fun o j ho => by rw [fr_s_X5_fail (by simp [fok, Ne.symm ho]) _ _ b1', a6 o j ho]⟩
    cases hq
    exact ⟨rfl, b2⟩
theorem semi5_ok {n p : Nat} {t : Tx} {σ : Sg} (hn : 300000 ≤ n) (ht : txok t) (hp : p ≤ t.1) (h : rd t p σ) : ∃ b τ, s_X5_semicolon n σ = some (zo b, τ) ∧ (∀ q, pSemi t p = .inl q → b = false ∧ fl q τ) ∧ (∀ r, pSemi t p = .inr r → b = true ∧ rd t r τ ∧ r ≤ t.1) ∧ ∀ o j, o ≠ 25 → τ o j = σ o j := by
  have h160 := ht.1
  have hte := te_le hp
  obtain ⟨τ, a1, a2, a3, a4, a5, a6⟩ := nx_rd (n := n) hn ht hp h
  have hk5 : tk t p ≤ 5 := by unfold tk; split; exact kd_le _; omega
  unfold s_X5_semicolon pSemi
  rw [a1, bdv_so, a2.2.1]
  by_cases e1 : tk t p = 4
  · rw [if_pos (by rw [e1]; rfl), if_pos e1]
    refine ⟨true, τ, rfl, fun q hq => by (cases hq), fun r hr => ?_, a6⟩
    cases hr
    exact ⟨rfl, ⟨a2.1, a2.2.2.1, a4, a5⟩, hte.2⟩
  · rw [if_neg (by rw [show (4 : Int32) = nI 4 from rfl, neq (by omega) (by omega)]; exact e1), if_neg e1]
    obtain ⟨ρ, b1, b2⟩ := fail_ok (n := n) (f := 1) ht hp a2 ⟨by omega, by omega⟩
    have b1' : s_X5_fail n 1 τ = some (zo false, ρ) := b1
    rw [b1', bd_so, if_pos z_f]
    refine ⟨false, ρ, rfl, fun q hq => ?_, fun r hr => by (cases hr), fun o j ho => by rw [fr_s_X5_fail (by simp [fok, Ne.symm ho]) _ _ b1', a6 o j ho]⟩
    cases hq
    exact ⟨rfl, b2⟩
/-- a semicolon behind what was good so far -/
theorem andS_ok {n p : Nat} {t : Tx} {c : Cl} {σ : Sg} (hn : 300000 ≤ n) (ht : txok t) (hp : p ≤ t.1) (h : rd t p σ) : ∃ b τ, s_X5_semicolon n σ = some (zo b, τ) ∧ (∀ q, andS (pSemi t p) c = .inl q → b = false ∧ fl q τ) ∧ (∀ r, andS (pSemi t p) c = .inr r → b = true ∧ rd t r.1 τ ∧ r.1 ≤ t.1 ∧ r.2 = c) ∧ ∀ o j, o ≠ 25 → τ o j = σ o j := by
  obtain ⟨b, τ, a1, a2, a3, a4⟩ := semi5_ok (n := n) hn ht hp h
  refine ⟨b, τ, a1, fun q hq => ?_, fun r hr => ?_, a4⟩
  · cases hs : pSemi t p with
    | inl q' =>
      rw [hs] at hq
      have hq : (Sum.inl q' : Rz Cl) = .inl q := hq
      rw [← Sum.inl.inj hq]
      exact a2 q' hs
    | inr r' =>
      rw [hs] at hq
      have hq : (Sum.inr (r', c) : Rz Cl) = .inl q := hq
      cases hq
  · cases hs : pSemi t p with
    | inl q' =>
      rw [hs] at hr
      have hr : (Sum.inl q' : Rz Cl) = .inr r := hr
      cases hr
    | inr r' =>
      rw [hs] at hr
      have hr : (Sum.inr (r', c) : Rz Cl) = .inr r := hr
      cases hr
      have := a3 r' hs
      exact ⟨this.1, this.2.1, this.2.2, rfl⟩
def hkB (row : Int32) (key : Nat) : Nat → Nat → Bool
  | 0, _ => false
  | e + 1, j => decide ((sr row (2 * nI j)) &&& 3 = nI key) || hkB row key e (j + 1)
theorem hkB_4 : ∀ a, a < 4 → ∀ b, b < 4 → ∀ c, c < 4 → ∀ d, d < 4 → ∀ k, k < 4 → hkB (krR [a, b, c, d]) k 4 0 = [a, b, c, d].contains k := by decide +kernel
theorem hkB_3 : ∀ a, a < 4 → ∀ b, b < 4 → ∀ c, c < 4 → ∀ k, k < 4 → hkB (krR [a, b, c]) k 3 0 = [a, b, c].contains k := by decide +kernel
theorem hkB_2 : ∀ a, a < 4 → ∀ b, b < 4 → ∀ k, k < 4 → hkB (krR [a, b]) k 2 0 = [a, b].contains k := by decide +kernel
theorem hkB_1 : ∀ a, a < 4 → ∀ k, k < 4 → hkB (krR [a]) k 1 0 = [a].contains k := by decide +kernel
theorem hkB_ok {ks : List Nat} {k : Nat} (h : ksok ks) (hk : k < 4) : hkB (krR ks) k ks.length 0 = ks.contains k := by
  have hl := ks_len h
  match ks, h, hl with
  | [], _, _ => rfl
  | [a], h, _ => exact hkB_1 a (h.2 a (by simp)) k hk
  | [a, b], h, _ => exact hkB_2 a (h.2 a (by simp)) b (h.2 b (by simp)) k hk
  | [a, b, c], h, _ => exact hkB_3 a (h.2 a (by simp)) b (h.2 b (by simp)) c (h.2 c (by simp)) k hk
  | [a, b, c, d], h, _ => exact hkB_4 a (h.2 a (by simp)) b (h.2 b (by simp)) c (h.2 c (by simp)) d (h.2 d (by simp)) k hk
  | a :: b :: c :: d :: e :: r, _, hl => simp at hl
theorem hasKey_go {n lc m k : Nat} {σ : Sg} (hm : m ≤ 4) (hk : k < 4) (h6 : σ lc 6 = nI m) : ∀ (e j f : Nat), j + e = m → e < f → s_X2_hasKey_2 n f lc (nI k) (nI j) σ = some (zo (hkB (σ lc 7) k e j), σ) := by
  intro e
  induction e with
  | zero =>
    intro j f hj hf
    obtain ⟨f, rfl⟩ : ∃ k', f = k' + 1 := ⟨f - 1, by omega⟩
    show s_X2_hasKey_2b n _ _ _ _ _ = _
    unfold s_X2_hasKey_2b
    rw [h6, if_pos (by rw [nle (by omega) (by omega)]; omega)]
    rfl
  | succ e ih =>
    intro j f hj hf
    obtain ⟨f, rfl⟩ : ∃ k', f = k' + 1 := ⟨f - 1, by omega⟩
    show s_X2_hasKey_2b n (s_X2_hasKey_2 n f) _ _ _ _ = _
    unfold s_X2_hasKey_2b s_X2_key
    rw [h6, if_neg (by rw [nle (by omega) (by omega)]; omega), bd_so, show nI j + 1 = nI (j + 1) from nI_1 j]
    show _ = some (zo (decide ((sr (σ lc 7) (2 * nI j)) &&& 3 = nI k) || hkB (σ lc 7) k e (j + 1)), σ)
    by_cases e1 : (sr (σ lc 7) (2 * nI j)) &&& 3 = nI k
    · rw [if_pos e1, decide_eq_true e1, Bool.true_or]
      rfl
    · rw [if_neg e1, decide_eq_false e1, Bool.false_or]
      exact ih (j + 1) f (by omega) (by omega)
theorem keyN_ok {n p : Nat} {t : Tx} {σ : Sg} (hn : 300000 ≤ n) (ht : txok t) (hp : p ≤ t.1) (h : tokd t p σ) : s_X5_keyNumber n σ = some (if kkd t p = 4 then -1 else nI (kkd t p), σ) := by
  unfold s_X5_keyNumber kkd
  rw [says_ok (w := 5) hn ht hp (by omega) h, bd_so]
  cases isW t p (wJ 5)
  · rw [if_pos z_f, says_ok (w := 6) hn ht hp (by omega) h, bd_so]
    cases isW t p (wJ 6)
    · rw [if_pos z_f, says_ok (w := 7) hn ht hp (by omega) h, bd_so]
      cases isW t p (wJ 7)
      · rw [if_pos z_f, says_ok (w := 8) hn ht hp (by omega) h, bd_so]
        cases isW t p (wJ 8)
        · rfl
        · rfl
      · rfl
    · rfl
  · rfl
/-- keys and the semicolon behind them -/
def kz (t : Tx) (f p : Nat) (ks : List Nat) : Rz Cl := match pKeys t f p ks with
  | .inl q => .inl q
  | .inr r => andS (pSemi t r.1) (0, krR r.2, nI r.2.length)
theorem keys_go {n lc : Nat} {t : Tx} (hn : 300000 ≤ n) (ht : txok t) (hl5 : lc ≠ 25) (hl6 : lc ≠ 26) : ∀ (f p : Nat) (ks : List Nat) (kf : Nat) (σ : Sg), f + ks.length = 5 → f < kf → ksok ks → p ≤ t.1 → rd t p σ → σ lc 6 = nI ks.length → σ lc 7 = krR ks → ∃ b τ, s_X5_keys_6 n kf lc (nI ks.length) σ = some (zo b, τ) ∧ (∀ q, kz t f p ks = .inl q → b = false ∧ fl q τ) ∧ (∀ r, kz t f p ks = .inr r → b = true ∧ rd t r.1 τ ∧ r.1 ≤ t.1 ∧ (∃ m, 1 ≤ m ∧ m ≤ 4 ∧ r.2.2.2 = nI m) ∧ r.2.1 = 0 ∧ τ lc 6 = r.2.2.2 ∧ τ lc 7 = r.2.2.1) ∧ ∀ j, j ≠ 6 → j ≠ 7 → τ lc j = σ lc j := by
  have h160 := ht.1
  intro f
  induction f with
  | zero =>
    intro p ks kf σ hf _ hks
    have := ks_len hks
    omega
  | succ f ih =>
    intro p ks kf σ hf hkf hks hp hr h6 h7
    obtain ⟨kf, rfl⟩ : ∃ k', kf = k' + 1 := ⟨kf - 1, by omega⟩
    have hkl := ks_len hks
    have hte := te_le hp
    obtain ⟨τ1, a1, a2, a3, a4, a5, a6⟩ := nx_rd (n := n) hn ht hp hr
    have hk4 := kkd_cases t p
    have e6 : τ1 lc 6 = nI ks.length := by rw [a6 lc 6 hl5]; exact h6
    have e7 : τ1 lc 7 = krR ks := by rw [a6 lc 7 hl5]; exact h7
    have hkz : kz t (f + 1) p ks = if kkd t p = 4 then .inl (1, sk t p) else if ks.contains (kkd t p) = true then .inl (4, sk t p) else if tk t (te t p) = 3 then kz t f (te t (te t p)) (kkd t p :: ks) else andS (pSemi t (te t p)) (0, krR (kkd t p :: ks), nI (kkd t p :: ks).length) := by
      unfold kz
      show (match (if kkd t p = 4 then .inl (1, sk t p) else if ks.contains (kkd t p) = true then .inl (4, sk t p) else if tk t (te t p) = 3 then pKeys t f (te t (te t p)) (kkd t p :: ks) else .inr (te t p, kkd t p :: ks) : Rz (List Nat)) with
        | .inl q => (.inl q : Rz Cl)
        | .inr r => andS (pSemi t r.1) (0, krR r.2, nI r.2.length)) = _
      by_cases c1 : kkd t p = 4
      · rw [if_pos c1, if_pos c1]
      · rw [if_neg c1, if_neg c1]
        by_cases c2 : ks.contains (kkd t p) = true
        · rw [if_pos c2, if_pos c2]
        · rw [if_neg c2, if_neg c2]
          by_cases c3 : tk t (te t p) = 3
          · rw [if_pos c3, if_pos c3]
          · rw [if_neg c3, if_neg c3]
    show ∃ b τ, s_X5_keys_6b n (s_X5_keys_6 n kf) _ _ _ = _ ∧ _
    unfold s_X5_keys_6b
    rw [if_neg (by rw [show (4 : Int32) = nI 4 from rfl, nlt (by omega) (by omega)]; omega), a1, bdv_so, keyN_ok hn ht hp a2, bd_so, hkz]
    have failW : ∀ (x : Nat) (q0 p0 : Nat) (ρ : Sg), p0 ≤ t.1 → tokd t p0 ρ → (1 ≤ x ∧ x ≤ 5) → (∀ j, j ≠ 6 → j ≠ 7 → ρ lc j = σ lc j) → ∃ b τ, (bd (s_X5_fail n (nI x) ρ) fun r14 σ13 => bck r14 (some (r14, σ13))) = some (zo b, τ) ∧ b = false ∧ fl (x, sk t p0) τ ∧ ∀ j, j ≠ 6 → j ≠ 7 → τ lc j = σ lc j := by
      intro x q0 p0 ρ hp0 hρ hx hfr
      obtain ⟨τ, b1, b2⟩ := fail_ok (n := n) (f := x) ht hp0 hρ hx
      refine ⟨false, τ, by rw [b1, bd_so, bck_zo], rfl, b2, fun j j1 j2 => ?_⟩
      rw [fr_s_X5_fail (by simp [fok, Ne.symm hl5]) _ _ b1]
      exact hfr j j1 j2
    by_cases c1 : kkd t p = 4
    · rw [if_pos c1, if_pos c1, if_pos rfl]
      obtain ⟨b, τ, b1, b2, b3, b4⟩ := failW 1 0 p τ1 hp a2 ⟨by omega, by omega⟩ (fun j _ _ => a6 lc j hl5)
      refine ⟨b, τ, b1, fun q hq => ?_, fun r hr => by (cases hr), b4⟩
      cases hq
      exact ⟨b2, b3⟩
    · rw [if_neg c1, if_neg c1, if_neg (n_ne1 (by omega))]
      have hk : kkd t p < 4 := by omega
      have hhas : s_X2_hasKey n lc (nI (kkd t p)) τ1 = some (zo (ks.contains (kkd t p)), τ1) := by
        have := hasKey_go (n := n) (lc := lc) (m := ks.length) (σ := τ1) hkl hk e6 ks.length 0 n (by omega) (by omega)
        rw [e7, hkB_ok hks hk] at this
        exact this
      rw [hhas, bd_so]
      cases c2 : ks.contains (kkd t p)
      · rw [if_pos z_f, if_neg (show ¬ false = true by decide)]
        have hks2 := ksok_c hks hk c2
        have hkl2 := ks_len hks2
        rw [List.length_cons] at hkl2
        -- the key is put behind
        obtain ⟨τ2, b1, b6, b7, bo, bl⟩ : ∃ τ2, s_X2_addKey n lc (nI (kkd t p)) τ1 = some τ2 ∧ τ2 lc 6 = nI (kkd t p :: ks).length ∧ τ2 lc 7 = krR (kkd t p :: ks) ∧ (∀ o j, o ≠ lc → τ2 o j = τ1 o j) ∧ ∀ j, j ≠ 6 → j ≠ 7 → τ2 lc j = τ1 lc j := by
          unfold s_X2_addKey
          rw [lt_eq, lt_eq]
          have q6 : ∀ x : Int32, up2 τ1 lc 7 x lc 6 = nI ks.length := fun x => by rw [up2_app, if_pos rfl, if_neg (by decide)]; exact e6
          rw [q6, e6, e7]
          refine ⟨_, rfl, ?_, ?_, fun o j ho => by rw [up2_o ho, up2_o ho], fun j j1 j2 => ?_⟩
          · rw [up2_app, if_pos rfl, if_pos rfl, nI_1, List.length_cons]
          · rw [up2_app, if_pos rfl, if_neg (by decide), up2_app, if_pos rfl, if_pos rfl]
            rfl
          · rw [up2_app, if_pos rfl, if_neg j1, up2_app, if_pos rfl, if_neg j2]
        have rd2 : rd t (te t p) τ2 := ⟨cTx_of a2.1 (bo 25 0 (Ne.symm hl5)) (fun j => bo 26 j (Ne.symm hl6)), by rw [bo 25 4 (Ne.symm hl5)]; exact a2.2.2.1, by rw [bo 25 3 (Ne.symm hl5)]; exact a4, by rw [bo 25 1 (Ne.symm hl5)]; exact a5⟩
        obtain ⟨τ3, d1, d2, d3, d4, d5, d6⟩ := nx_rd (n := n) hn ht hte.2 rd2
        have hte2 := te_le hte.2
        have hk5 : tk t (te t p) ≤ 5 := by unfold tk; split; exact kd_le _; omega
        have frL : ∀ j, j ≠ 6 → j ≠ 7 → τ3 lc j = σ lc j := fun j j1 j2 => by rw [d6 lc j hl5, bl j j1 j2, a6 lc j hl5]
        rw [b1, bdv_so, d1, bdv_so, d2.2.1]
        by_cases c4 : tk t (te t p) = 4
        · rw [if_pos (by rw [c4]; rfl), if_neg (by omega)]
          refine ⟨true, τ3, rfl, fun q hq => ?_, fun r hr => ?_, frL⟩
          · unfold pSemi at hq
            rw [if_pos c4] at hq
            have hq : (Sum.inr (te t (te t p), _) : Rz Cl) = .inl q := hq
            cases hq
          · unfold pSemi at hr
            rw [if_pos c4] at hr
            have hr : (Sum.inr (te t (te t p), (0, krR (kkd t p :: ks), nI (kkd t p :: ks).length)) : Rz Cl) = .inr r := hr
            cases hr
            exact ⟨rfl, ⟨d2.1, d2.2.2.1, d4, d5⟩, hte2.2, ⟨(kkd t p :: ks).length, by simp, by rw [List.length_cons]; omega, rfl⟩, rfl, by rw [d6 lc 6 hl5]; exact b6, by rw [d6 lc 7 hl5]; exact b7⟩
        · rw [if_neg (by rw [show (4 : Int32) = nI 4 from rfl, neq (by omega) (by omega)]; exact c4)]
          by_cases c3 : tk t (te t p) = 3
          · rw [if_pos (by rw [c3]; rfl), if_pos c3, nI_1]
            obtain ⟨b, τ, g1, g2, g3, g4⟩ := ih (te t (te t p)) (kkd t p :: ks) kf τ3 (by rw [List.length_cons]; omega) (by omega) hks2 hte2.2 ⟨d2.1, d2.2.2.1, d4, d5⟩ (by rw [d6 lc 6 hl5]; exact b6) (by rw [d6 lc 7 hl5]; exact b7)
            rw [List.length_cons] at g1
            exact ⟨b, τ, g1, g2, g3, fun j j1 j2 => by rw [g4 j j1 j2, frL j j1 j2]⟩
          · rw [if_neg (by rw [show (3 : Int32) = nI 3 from rfl, neq (by omega) (by omega)]; exact c3), if_neg c3]
            obtain ⟨b, τ, g1, g2, g3, g4⟩ := failW 1 0 (te t p) τ3 hte.2 d2 ⟨by omega, by omega⟩ frL
            refine ⟨b, τ, g1, fun q hq => ?_, fun r hr => ?_, g4⟩
            · unfold pSemi at hq
              rw [if_neg c4] at hq
              have hq : (Sum.inl (1, sk t (te t p)) : Rz Cl) = .inl q := hq
              cases hq
              exact ⟨g2, g3⟩
            · unfold pSemi at hr
              rw [if_neg c4] at hr
              have hr : (Sum.inl (1, sk t (te t p)) : Rz Cl) = .inr r := hr
              cases hr
      · rw [if_neg z_t, if_pos rfl]
        obtain ⟨b, τ, b1, b2, b3, b4⟩ := failW 4 0 p τ1 hp a2 ⟨by omega, by omega⟩ (fun j _ _ => a6 lc j hl5)
        refine ⟨b, τ, b1, fun q hq => ?_, fun r hr => by (cases hr), b4⟩
        cases hq
        exact ⟨b2, b3⟩
