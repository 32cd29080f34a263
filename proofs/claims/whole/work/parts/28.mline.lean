/-! ===== the line, the reference ===== -/
theorem w_le (a b : Int32) : (a.toInt64 ≤ b.toInt64) = (a ≤ b) := by
  apply propext
  rw [Int64.le_iff_toInt_le, Int32.le_iff_toInt_le, Int32.toInt_toInt64, Int32.toInt_toInt64]
theorem lc_neg (x y : Int64) : (lg_cmp x y < 0) = ¬ (y ≤ x) := by
  apply propext
  rw [← lg_cmp_ge]
  exact ⟨fun h z => Int32.not_lt.mpr z h, fun h => Int32.not_le.mp h⟩
theorem lc_pos (x y : Int64) : (0 < lg_cmp x y) = ¬ (x ≤ y) := by
  apply propext
  unfold lg_cmp
  by_cases h : x > y
  · rw [if_pos h]
    exact ⟨fun _ z => absurd h (Int64.not_lt.mpr z), fun _ => by decide⟩
  · rw [if_neg h]
    have h2 : x ≤ y := Int64.not_lt.mp h
    by_cases h3 : x = y
    · rw [if_pos h3]
      exact ⟨fun z => absurd z (by decide), fun z => absurd h2 z⟩
    · rw [if_neg h3]
      exact ⟨fun z => absurd z (by decide), fun z => absurd h2 z⟩
theorem in_ok (n : Nat) (a b c : Int32) (σ : Sg) : s_X12_in n a.toInt64 b.toInt64 c.toInt64 σ = some (zo (decide (b ≤ a) && decide (a ≤ c)), σ) := by
  unfold s_X12_in s_X12_in_17
  simp only [lc_neg, lc_pos, w_le]
  by_cases h1 : b ≤ a
  · rw [if_neg (fun z => z h1)]
    by_cases h2 : a ≤ c
    · rw [if_neg (fun z => z h2)]; simp [h1, h2, zo]
    · rw [if_pos h2]; simp [h1, h2, zo]
  · rw [if_pos h1]; simp [h1, zo]
theorem one_ok (n : Nat) (b : Bool) (σ : Sg) : s_X12_one n (zo b) σ = some (zo b, σ) := by
  unfold s_X12_one
  cases b <;> rfl
def mscr (o j : Nat) : Bool := (decide (101 ≤ o) && decide (o ≤ 107)) || (o == 71 && (j == 56 || j == 57))
def mDat (N : Net) (S : Str) (K : Knd) (L : Lw) (σ : Sg) : Prop := mN N σ ∧ mS' S σ ∧ mK S K σ ∧ mW L σ
theorem mDat_of {N : Net} {S : Str} {K : Knd} {L : Lw} {σ τ : Sg} (h : mDat N S K L σ) (hf : ∀ o j, mscr o j = false → τ o j = σ o j) : mDat N S K L τ := by
  obtain ⟨h1, h2, h3, h4⟩ := h
  refine ⟨mN_of h1 (hf 71 2 rfl) (fun j => hf 73 j rfl) (fun j => hf 74 j rfl) (fun j => hf 77 j rfl) (fun j => hf 78 j rfl) (fun j => hf 79 j rfl), ?_, ?_, ?_⟩
  · unfold mS'
    simp only [hf 71 11 rfl, hf 81 _ rfl, hf 82 _ rfl, hf 83 _ rfl, hf 84 _ rfl, hf 85 _ rfl]
    exact h2
  · unfold mK
    simp only [hf 86 _ rfl, hf 88 _ rfl]
    exact h3
  · unfold mW
    simp only [hf 71 41 rfl, hf 71 42 rfl, hf 71 43 rfl, hf 71 44 rfl]
    exact h4
theorem mon_ok {n s : Nat} {N : Net} {S : Str} {K : Knd} {L : Lw} {h : Int32} {σ : Sg} (hS : sok S) (hs : s < sN S) (hd : mDat N S K L σ) : s_X12_isWaterOn n (nI s) h σ = some (zo (won L K h s), σ) := by
  have h10 := hS.1
  obtain ⟨k1, _⟩ := hd.2.2.1 s hs
  unfold s_X12_isWaterOn
  simp (disch := omega) only [ck_n, ix_n, k1]
  rw [hd.2.2.2.2.2.1, hd.2.2.2.2.2.2, in_ok, bd_some]
  unfold won
  cases K.1 s
  · rw [if_pos (show zo false = 0 from rfl)]
    cases (decide (L.2.2.1 ≤ h) && decide (h ≤ L.2.2.2)) <;> rfl
  · rw [if_neg (by decide)]
    rfl
theorem i32_nsn (a b : Int32) : -a - -b = b - a := by
  rw [Int32.sub_eq_add_neg, Int32.neg_neg, Int32.add_comm, ← Int32.sub_eq_add_neg]
theorem held_ok {n s t : Nat} {N : Net} {S : Str} {K : Knd} {L : Lw} {ask : Nat → Int32} {key : Int32} {σ : Sg} (hS : sok S) (hs : s < sN S) (ht : t < sN S) (hd : mDat N S K L σ) (has : σ 104 s = ask s) (hat : σ 104 t = ask t) (hF : mF (dstN N) σ) : s_X12_heldBy n key (nI s) (nI t) σ = some (rkF N S K ask key s - rkF N S K ask key t, σ) := by
  have h10 := hS.1
  obtain ⟨d1, _⟩ := hS.2 s hs
  obtain ⟨d2, _⟩ := hS.2 t ht
  obtain ⟨c1, _⟩ := hd.2.1.2 s hs
  obtain ⟨c2, _⟩ := hd.2.1.2 t ht
  obtain ⟨k1, _⟩ := hd.2.2.1 s hs
  obtain ⟨k2, _⟩ := hd.2.2.1 t ht
  unfold s_X12_heldBy rkF
  simp (disch := omega) only [ck_n, ix_n, k1, k2, c1, c2, one_ok, bd_some, has, hat, hF _ d1, hF _ d2]
  by_cases h0 : key = 0
  · rw [if_pos h0, if_pos h0, if_pos h0]
    cases K.1 s <;> cases K.1 t <;> rfl
  · rw [if_neg h0, if_neg h0, if_neg h0]
    by_cases h1 : key = 1
    · rw [if_pos h1, if_pos h1, if_pos h1]
      cases K.1 s <;> cases K.1 t <;> rfl
    · rw [if_neg h1, if_neg h1, if_neg h1]
      by_cases h2 : key = 2
      · rw [if_pos h2, if_pos h2, if_pos h2]
      · rw [if_neg h2, if_neg h2, if_neg h2, i32_nsn]
theorem mahead_loop {n s t : Nat} {N : Net} {L : Lw} {S : Str} {K : Knd} {ask : Nat → Int32} {σ : Sg} (hS : sok S) (hs : s < sN S) (ht : t < s) (hkm : L.2.1 ≤ 4) (hd : mDat N S K L σ) (has : σ 104 s = ask s) (hat : σ 104 t = ask t) (hF : mF (dstN N) σ) : ∀ (e k f : Nat), k + e = L.2.1 → e < f → s_X12_goesAhead_2 n f (nI s) (nI t) (nI k) σ = some (zo (ahd (rkF N S K ask) (kyF L) s t e k), σ) := by
  have h10 := hS.1
  intro e
  induction e with
  | zero =>
    intro k f hke hf
    obtain ⟨f, rfl⟩ : ∃ f', f = f' + 1 := ⟨f - 1, by omega⟩
    show s_X12_goesAhead_2b n _ _ _ _ _ = _
    unfold s_X12_goesAhead_2b
    rw [hd.2.2.2.2.1, if_pos (by rw [nle (by omega) (by omega)]; omega), if_pos (by rw [nle (by omega) (by omega)]; omega)]
    rfl
  | succ e ih =>
    intro k f hke hf
    obtain ⟨f, rfl⟩ : ∃ f', f = f' + 1 := ⟨f - 1, by omega⟩
    show s_X12_goesAhead_2b n (s_X12_goesAhead_2 n f) _ _ _ _ = _
    unfold s_X12_goesAhead_2b
    rw [hd.2.2.2.2.1, if_neg (by rw [nle (by omega) (by omega)]; omega), hd.2.2.2.1]
    have hh : s_X12_heldBy n ((sr L.1 (2 * nI k)) &&& 3) (nI s) (nI t) σ = some (rkF N S K ask (kyF L k) s - rkF N S K ask (kyF L k) t, σ) := held_ok hS hs (by omega) hd has hat hF
    rw [hh, bd_some, ahd_s]
    by_cases h0 : rkF N S K ask (kyF L k) s - rkF N S K ask (kyF L k) t = 0
    · rw [if_pos h0, if_pos h0, show nI k + 1 = nI (k + 1) from nI_1 k]
      exact ih (k + 1) f (by omega) (by omega)
    · rw [if_neg h0, if_neg h0]
      by_cases h1 : 0 ≤ rkF N S K ask (kyF L k) s - rkF N S K ask (kyF L k) t
      · rw [if_pos h1]; simp [h1, zo]
      · rw [if_neg h1]; simp [h1, zo]
theorem mqueue_loop {n s w : Nat} {ah : Nat → Bool} {σ0 : Sg} {x1 : Int32} {rc : Int32 → Int32 → Sg → Option Sg} (hs : s < 10) (hw : w < 10) (hah : ∀ (t : Nat) (σ : Sg), t < s → (∀ o j, o ≠ 107 → σ o j = σ0 o j) → s_X12_goesAhead n (nI s) (nI t) σ = some (zo (ah t), σ)) (hw9 : σ0 71 56 = nI w) : ∀ (k f : Nat) (l : Nat → Nat) (σ : Sg), k ≤ w → k < f → (∀ o j, o ≠ 107 → σ o j = σ0 o j) → (∀ i, i ≤ w → i ≠ k → σ 107 i = nI (l i) ∧ l i < s) →
    ∃ τ, s_X12_findLine_100 n rc f x1 (nI s) (nI k) σ = rc x1 (nI (s + 1)) τ ∧ (∀ i, i ≤ w → τ 107 i = nI (insf ah s k l i)) ∧ τ 71 56 = nI (w + 1) ∧ ∀ o j, o ≠ 107 → (o = 71 → j ≠ 56) → τ o j = σ0 o j := by
  have put : ∀ (k : Nat) (l : Nat → Nat) (σ : Sg), k ≤ w → (∀ o j, o ≠ 107 → σ o j = σ0 o j) → (∀ i, i ≤ w → i ≠ k → σ 107 i = nI (l i) ∧ l i < s) → ∃ τ, s_X12_findLine_140 n rc x1 (nI s) (nI k) σ = rc x1 (nI (s + 1)) τ ∧ (∀ i, i ≤ w → τ 107 i = nI (updN l k s i)) ∧ τ 71 56 = nI (w + 1) ∧ ∀ o j, o ≠ 107 → (o = 71 → j ≠ 56) → τ o j = σ0 o j := by
    intro k l σ hk hfr hl
    unfold s_X12_findLine_140
    simp (disch := omega) only [ck_n, ix_n, lt_eq]
    rw [show nI s + 1 = nI (s + 1) from nI_1 s]
    have h56 : up2 σ 107 k (nI s) 71 56 = nI w := by rw [up2_o (by decide), hfr 71 56 (by decide)]; exact hw9
    rw [h56, show nI w + 1 = nI (w + 1) from nI_1 w]
    refine ⟨_, rfl, fun i hi => ?_, by simp [up2_app], fun o j h1 h2 => ?_⟩
    · unfold updN
      by_cases e : i = k
      · subst e; simp [up2_app]
      · have := (hl i hi e).1
        simp [up2_app, e, this]
    · rw [← hfr o j h1]
      by_cases e : o = 71
      · subst e; simp [up2_app, h2 rfl]
      · rw [up2_o e, up2_o h1]
  intro k
  induction k with
  | zero =>
    intro f l σ hk hf hfr hl
    obtain ⟨f, rfl⟩ : ∃ f', f = f' + 1 := ⟨f - 1, by omega⟩
    show ∃ τ, s_X12_findLine_100b n _ _ _ _ _ _ = _ ∧ _
    unfold s_X12_findLine_100b
    rw [if_pos (show nI 0 ≤ 0 from Int32.le_refl _)]
    exact put 0 l σ hk hfr hl
  | succ k ih =>
    intro f l σ hk hf hfr hl
    obtain ⟨f, rfl⟩ : ∃ f', f = f' + 1 := ⟨f - 1, by omega⟩
    have hlk := hl k (by omega) (by omega)
    show ∃ τ, s_X12_findLine_100b n rc (s_X12_findLine_100 n rc f) _ _ _ _ = _ ∧ _
    unfold s_X12_findLine_100b
    rw [if_neg (by rw [show (0 : Int32) = nI 0 from rfl, nle (by omega) (by omega)]; omega), show nI (k + 1) - 1 = nI k from nI_pred k]
    simp (disch := omega) only [ck_n, ix_n, hlk.1]
    rw [hah (l k) σ hlk.2 hfr, bd_some, insf_s]
    by_cases ha : ah (l k) = true
    · rw [if_pos ha, if_neg (by rw [ha]; decide)]
      simp (disch := omega) only [ck_n, ix_n, hlk.1, lt_eq]
      rw [show nI (k + 1) + -1 = nI k from pk_m1 k]
      refine ih f (updN l (k + 1) (l k)) _ (by omega) (by omega) (fun o j ho => by rw [up2_o ho]; exact hfr o j ho) (fun i hi hne => ?_)
      unfold updN
      by_cases e : i = k + 1
      · subst e; simp [up2_app, hlk.2]
      · have := hl i hi e
        simp [up2_app, e, this]
    · rw [if_neg ha, if_pos (by cases h : ah (l k); rfl; exact absurd h ha)]
      exact put (k + 1) l σ hk hfr hl
def mAsk (N : Net) (S : Str) (K : Knd) (L : Lw) (h : Int32) (s : Nat) (σ : Sg) : Prop := σ 71 56 = nI (lnS N L S K h s).1 ∧ (∀ i, i < (lnS N L S K h s).1 → σ 107 i = nI ((lnS N L S K h s).2 i)) ∧ ∀ t, t < s → σ 104 t = askF L S K h t ∧ σ 105 t = 0
theorem mask_loop2 {n : Nat} {N : Net} {S : Str} {K : Knd} {L : Lw} {h : Int32} (hn : 20 ≤ n) (hS : sok S) (hkm : L.2.1 ≤ 4) : ∀ (e s k : Nat) (σ : Sg), s + e = sN S → e < k → mDat N S K L σ → mF (dstN N) σ → mAsk N S K L h s σ → ∃ τ, s_X12_findLine_11 n k h (nI s) σ = some τ ∧ mAsk N S K L h (sN S) τ := by
  intro e
  induction e with
  | zero =>
    intro s k σ hs hk hd hfar hA
    obtain ⟨k, rfl⟩ : ∃ k', k = k' + 1 := ⟨k - 1, by omega⟩
    have h10 := hS.1
    have hs : s = sN S := by omega
    subst hs
    refine ⟨σ, ?_, hA⟩
    show s_X12_findLine_11b n _ _ _ _ = _
    unfold s_X12_findLine_11b
    rw [hd.2.1.1, if_pos (by rw [nle (by omega) (by omega)]; exact Nat.le_refl _)]
  | succ e ih =>
    intro s k σ hs hk hd hfar hA
    obtain ⟨k, rfl⟩ : ∃ k', k = k' + 1 := ⟨k - 1, by omega⟩
    have h10 := hS.1
    have hsl : s < sN S := by omega
    have hln := lnS_ok N L S K h s
    show ∃ τ, s_X12_findLine_11b n (s_X12_findLine_11 n k) _ _ _ = _ ∧ _
    unfold s_X12_findLine_11b
    rw [hd.2.1.1, if_neg (by rw [nle (by omega) (by omega)]; omega)]
    simp (disch := omega) only [ck_n, ix_n, lt_eq]
    have fr0 : ∀ o j, mscr o j = false → up2 (up2 σ 105 s 0) 104 s 0 o j = σ o j := fun o j ho => by
      rw [up2_o (fun z => by rw [z] at ho; exact absurd ho (by simp [mscr])), up2_o (fun z => by rw [z] at ho; exact absurd ho (by simp [mscr]))]
    have hd0 := mDat_of hd fr0
    rw [mon_ok hS hsl hd0, bd_some]
    obtain ⟨c1, c2, c3, c4⟩ := hd0.2.1.2 s hsl
    obtain ⟨k1, k2⟩ := hd0.2.2.1 s hsl
    cases hon : won L K h s
    · rw [if_pos (show zo false = 0 from rfl), show nI s + 1 = nI (s + 1) from nI_1 s]
      refine ih (s + 1) k _ (by omega) (by omega) hd0 (fun v hv => by rw [up2_o (by decide), up2_o (by decide)]; exact hfar v hv) ?_
      unfold mAsk
      rw [lnS_s, if_neg (by rw [hon]; decide)]
      refine ⟨by rw [up2_o (by decide), up2_o (by decide)]; exact hA.1, fun i hi => by rw [up2_o (by decide), up2_o (by decide)]; exact hA.2.1 i hi, fun t ht => ?_⟩
      by_cases e : t = s
      · subst e
        unfold askF
        rw [hon]
        simp [up2_app]
      · have := hA.2.2 t (by omega)
        simp [up2_app, e, this]
    · rw [if_neg (show ¬ zo true = 0 by decide)]
      have go : ∀ (ρ : Sg), (∀ o j, mscr o j = false → ρ o j = σ o j) → ρ 104 s = askF L S K h s → ρ 105 s = 0 → ρ 71 56 = σ 71 56 → (∀ i, ρ 107 i = σ 107 i) → (∀ v, ρ 106 v = σ 106 v) → (∀ t, t ≠ s → ρ 104 t = σ 104 t ∧ ρ 105 t = σ 105 t) → ∃ τ, s_X12_findLine_100 n (s_X12_findLine_11 n k) n h (nI s) (ρ 71 56) ρ = some τ ∧ mAsk N S K L h (sN S) τ := by
        intro ρ hfr h104 h105 h56 h107 h106 hot
        have hdρ : mDat N S K L ρ := mDat_of hd hfr
        rw [h56, hA.1]
        obtain ⟨τ1, t1, t2, t3, t4⟩ := mqueue_loop (n := n) (s := s) (σ0 := ρ) (x1 := h) (rc := s_X12_findLine_11 n k) (ah := ahF N L S K h s) (by omega) (show (lnS N L S K h s).1 < 10 by omega) (fun t ω ht hω => by
          have hdω : mDat N S K L ω := mDat_of hdρ (fun o j ho => hω o j (fun z => by rw [z] at ho; exact absurd ho (by simp [mscr])))
          exact mahead_loop (n := n) (N := N) (s := s) (t := t) (L := L) (S := S) (K := K) (ask := askF L S K h) (σ := ω) hS hsl ht hkm hdω (by rw [hω 104 s (by decide)]; exact h104) (by rw [hω 104 t (by decide), (hot t (by omega)).1]; exact (hA.2.2 t ht).1) (fun v hv => by rw [hω 106 v (by decide), h106]; exact hfar v hv) L.2.1 0 n (by omega) (by omega)) (by rw [h56]; exact hA.1) (lnS N L S K h s).1 n (lnS N L S K h s).2 ρ (Nat.le_refl _) (by omega) (fun _ _ _ => rfl) (fun i hi hne => by
          have hi2 : i < (lnS N L S K h s).1 := by omega
          exact ⟨by rw [h107]; exact hA.2.1 i hi2, hln.2 i hi2⟩)
        rw [t1]
        refine ih (s + 1) k τ1 (by omega) (by omega) (mDat_of hd (fun o j ho => by
          rw [t4 o j (fun z => by rw [z] at ho; exact absurd ho (by simp [mscr])) (fun z w => by rw [z, w] at ho; exact absurd ho (by decide))]
          exact hfr o j ho)) (fun v hv => by rw [t4 106 v (by decide) (fun q => absurd q (by decide)), h106]; exact hfar v hv) ?_
        unfold mAsk
        rw [lnS_s, if_pos hon]
        refine ⟨t3, fun i hi => t2 i (Nat.le_of_lt_succ hi), fun t ht => ?_⟩
        rw [t4 104 t (by decide) (fun q => absurd q (by decide)), t4 105 t (by decide) (fun q => absurd q (by decide))]
        by_cases e : t = s
        · subst e; exact ⟨h104, h105⟩
        · rw [(hot t e).1, (hot t e).2]; exact hA.2.2 t (by omega)
      rw [k1, c2, c3, c4, k2]
      by_cases hal : K.1 s = true
      · rw [if_neg (by rw [hal]; decide)]
        refine go _ (fun o j ho => by rw [up2_o (fun z => by rw [z] at ho; exact absurd ho (by simp [mscr]))]; exact fr0 o j ho) ?_ (by simp [up2_app]) (by rw [up2_o (by decide), up2_o (by decide), up2_o (by decide)]) (fun i => by rw [up2_o (by decide), up2_o (by decide), up2_o (by decide)]) (fun v => by rw [up2_o (by decide), up2_o (by decide), up2_o (by decide)]) (fun t ht => by simp [up2_app, ht])
        unfold askF
        rw [if_pos hon, if_pos hal]
        simp [up2_app]
      · have hal' : K.1 s = false := by cases hh : K.1 s; rfl; exact absurd hh hal
        rw [if_pos (by rw [hal']; rfl)]
        refine go _ (fun o j ho => by rw [up2_o (fun z => by rw [z] at ho; exact absurd ho (by simp [mscr]))]; exact fr0 o j ho) ?_ (by simp [up2_app]) (by rw [up2_o (by decide), up2_o (by decide), up2_o (by decide)]) (fun i => by rw [up2_o (by decide), up2_o (by decide), up2_o (by decide)]) (fun v => by rw [up2_o (by decide), up2_o (by decide), up2_o (by decide)]) (fun t ht => by simp [up2_app, ht])
        unfold askF
        rw [if_pos hon, if_neg hal]
        simp [up2_app]
theorem mline_ok {n hr : Nat} {N : Net} {S : Str} {K : Knd} {L : Lw} {σ : Sg} (hn : 200 ≤ n) (hN : nok N) (hS : sok S) (hkm : L.2.1 ≤ 4) (hd : mDat N S K L σ) : ∃ τ, s_X12_findLine n (nI hr) σ = some τ ∧ mAsk N S K L (nI hr) (sN S) τ := by
  have h10 := hS.1
  unfold s_X12_findLine
  obtain ⟨τ1, t1, t2⟩ := findFar_ok (n := n) hN (by omega) hd.1
  rw [t1, bdv_some, lt_eq]
  have fr : ∀ o j, mscr o j = false → up2 τ1 71 56 0 o j = σ o j := fun o j ho => by
    by_cases e : o = 71
    · subst e
      have hj : j ≠ 56 := fun z => by rw [z] at ho; exact absurd ho (by decide)
      have := fr_s_X12_findFar (o := 71) (j := j) rfl _ t1
      simp [up2_app, hj, this]
    · rw [up2_o e]
      exact fr_s_X12_findFar (by
        have : o ≠ 106 := fun z => by rw [z] at ho; exact absurd ho (by simp [mscr])
        simp [fok, Ne.symm this]) _ t1
  exact mask_loop2 (by omega) hS hkm (sN S) 0 n _ (by omega) (by omega) (mDat_of hd fr) (fun v hv => by rw [up2_o (by decide)]; exact t2 v hv) ⟨by simp [up2_app, lnS]; rfl, fun i hi => absurd hi (Nat.not_lt_zero _), fun t ht => absurd ht (Nat.not_lt_zero _)⟩
