/-! ===== one call, both sides: guess, count ===== -/
theorem pcn_sub {x y : Int32} : ∀ k, (∀ i, i < k → bt x i = true → bt y i = true) → pcn x k ≤ pcn y k
  | 0, _ => Nat.le_refl _
  | k + 1, h => by
    have ih := pcn_sub k (fun i hi => h i (by omega))
    have := h k (by omega)
    rw [pcn_s, pcn_s]
    cases hx : bt x k
    · cases bt y k <;> simp <;> omega
    · rw [this hx]; simp; omega
theorem pcn_add {x y : Int32} {p : Nat} : ∀ k, (∀ i, i < k → i ≠ p → bt x i = bt y i) → (p < k → bt x p = true ∧ bt y p = false) → pcn x k = pcn y k + if p < k then 1 else 0
  | 0, _, _ => by rw [if_neg (by omega)]; rfl
  | k + 1, h, h2 => by
    have ih := pcn_add k (fun i hi => h i (by omega)) (fun z => h2 (by omega))
    rw [pcn_s, pcn_s, ih]
    by_cases e : k = p
    · have := h2 (by omega)
      rw [if_neg (by omega), if_pos (by omega), e, this.1, this.2]
      simp
    · rw [h k (by omega) e]
      by_cases e2 : p < k
      · rw [if_pos e2, if_pos (by omega)]; omega
      · rw [if_neg e2, if_neg (by omega)]; omega
theorem gm_go {n np : Nat} {M Y but : Int32} {w : Nat → Int32} {ng : Nat} {G V : Nat → Int32} {σ : Sg} (hnp : np ≤ 20) (hm : eM M w np ng G V σ) (hY : ∀ i, i < np → bt Y i = (bt M i && decide (¬ nI i = but))) : ∀ (e i f : Nat), i + e = np → e < f → s_X12_guessMany_4 n f but (nI (pcn Y i)) (nI i) σ = some (nI (pcn Y np), σ) := by
  intro e
  induction e with
  | zero =>
    intro i f hi hf
    obtain ⟨f, rfl⟩ : ∃ k', f = k' + 1 := ⟨f - 1, by omega⟩
    have hi : i = np := by omega
    subst hi
    show s_X12_guessMany_4b n _ _ _ _ _ = _
    unfold s_X12_guessMany_4b
    rw [hm.1, if_pos (Int32.le_refl _)]
  | succ e ih =>
    intro i f hi hf
    obtain ⟨f, rfl⟩ : ∃ k', f = k' + 1 := ⟨f - 1, by omega⟩
    show s_X12_guessMany_4b n (s_X12_guessMany_4 n f) _ _ _ _ = _
    unfold s_X12_guessMany_4b s_X12_guessMany_32
    rw [hm.1, if_neg (by rw [nle (by omega) (by omega)]; omega), ck_n (by omega) (by omega), ix_n (by omega)]
    have hv : (if σ 80 i ≤ 0 then (0 : Int32) else if nI i = but then 0 else 1) = zo (bt Y i) := by
      rw [hY i (by omega)]
      have h80 := hm.2.2.2.2 i (by omega)
      by_cases h1 : σ 80 i ≤ 0
      · rw [if_pos h1]
        rw [h80] at h1
        rw [h1]; rfl
      · rw [if_neg h1]
        rw [h80] at h1
        have h2 : bt M i = true := by cases hb : bt M i; exact absurd hb h1; rfl
        rw [h2]
        by_cases h3 : nI i = but
        · rw [if_pos h3, decide_eq_false (by simp [h3])]; rfl
        · rw [if_neg h3, decide_eq_true h3]; rfl
    rw [hv, lt_eq, one_ok, bd_so, lt_eq, show nI i + 1 = nI (i + 1) from nI_1 i, zs, nadd]
    have e1 : pcn Y i + (if bt Y i = true then 1 else 0) = pcn Y (i + 1) := by
      rw [pcn_s]
      cases bt Y i <;> rfl
    rw [e1]
    exact ih (i + 1) f (by omega) (by omega)
theorem st_guess {n c : Nat} {x1 x2 : Int32} {σ : Sg} (hn : 300000 ≤ n) (h : Inv c σ) : wStp c (s_X11_guess n x1 x2) (s_X12_guess n x1 x2) σ := by
  obtain ⟨N, ma, mb, S, K, now, pu, Rs, nr, h⟩ := h
  have hp := h.1.1.1
  have c0 : σ 3 0 = nI (nP N) := h.1.2.1.1
  have m0 : σ 71 2 = nI (nP N) := h.1.2.2.1.1
  have i2 : ∀ σ, s_X12_in n x2.toInt64 1 999 σ = some (zo (inb 1 x2 999), σ) := fun σ => inb_ok n x2 1 999 σ
  cases e1 : pin (nP N) x1
  · refine ⟨-1001, σ, σ, ?_, ?_, Inv_s h⟩
    · unfold s_X11_guess; rw [has4 c0, bd_so, e1]; rfl
    · unfold s_X12_guess; rw [noP (by omega) m0, bd_so, e1]; rfl
  obtain ⟨p, hp2, rfl⟩ := pin_n (by omega) e1
  obtain ⟨M, w, ng, G, V, g1, g2, g3, g4, g5⟩ := h.2.2.2.2.2.2.2.1
  have hMp : ∀ i, i < 32 → bt (M &&& (sl 1 (nI p) ^^^ -1)) i = (bt M i && !decide (i = p)) := fun i hi => by
    rw [b_and, not_bt _ hi, sl1_bt (by omega) hi]
  have hMo : ∀ i, i < 32 → bt (M ||| sl 1 (nI p)) i = (bt M i || decide (i = p)) := fun i hi => by
    rw [b_or, sl1_bt (by omega) hi]
  -- a new state of class and reference
  have fin : ∀ (M' : Int32) (w' : Nat → Int32) (σ1 σ2 : Sg), (∀ o j, fok [(63, some 1), (66, none), (80, none)] o j = true → σ2 o j = σ o j) → mok M' → (∀ i, nP N ≤ i → i < 32 → bt M' i = false) → σ2 63 1 = M' → (∀ i, i < 20 → bt M' i = true → σ2 66 i = w' i) → (∀ i, i < nP N → bt M' i = true → σ2 80 i = w' i) → (∀ i, i < nP N → (σ2 80 i ≤ 0) = (bt M' i = false)) → Inv (c + 1) σ2 := by
    intro M' w' σ1 σ2 f q1 q2 q3 q4 q5 q6
    obtain ⟨h1, h2, h3, h4, h5, h6, h7, h8, h9, h10, h11⟩ := h
    exact ⟨N, ma, mb, S, K, now, pu, Rs, nr, iN_of h1 (fr_sup rfl f), iS_of h2 (fr_sup rfl f), iT_of h3 (fr_sup rfl f), iP_of h4 (fr_sup rfl f), iX_of h5 (fr_sup rfl f), iR_of h6 (fr_sup rfl f), iC_of h7 (fr_sup rfl f), ⟨M', w', ng, G, V, q1, q2, g3, ⟨q3, by rw [f 63 0 rfl]; exact g4.2.1, fun g hg => by rw [f 64 g rfl, f 65 g rfl]; exact g4.2.2.1 g hg, q4⟩, ⟨by rw [f 71 2 rfl]; exact m0, by rw [f 71 66 rfl]; exact g5.2.1, fun g hg => by rw [f 115 g rfl, f 116 g rfl]; exact g5.2.2.1 g hg, q5, q6⟩⟩, iV_of h9 (fr_sup rfl f), iB_of h10 (fr_sup rfl f), iO_mono (iO_of h11 (fr_sup rfl f)) (Nat.le_succ c)⟩
  by_cases e2 : x2 = -1
  · subst e2
    have t1 : s_X11_guess n (nI p) (-1) σ = some (1, up2 σ 63 1 (M &&& (sl 1 (nI p) ^^^ -1))) := by
      unfold s_X11_guess s_X11_guess_35 s_X11_guess_65 s_X1_suppose
      rw [has4 c0, bd_so, e1, if_neg z_t, if_pos rfl, if_pos rfl, if_pos rfl, g4.1, lt_eq, bdv_so]
    have r1 : s_X12_guess n (nI p) (-1) (up2 σ 63 1 (M &&& (sl 1 (nI p) ^^^ -1))) = some (1, up2 (up2 σ 63 1 (M &&& (sl 1 (nI p) ^^^ -1))) 80 p (-1)) := by
      unfold s_X12_guess s_X12_guess_33
      rw [noP (k := nP N) (by omega) (by rw [up2_o (by decide)]; exact m0), bd_so, e1, if_pos z_nt, if_pos rfl, if_pos rfl, ck_n (by omega) (by omega), ix_n (by omega), lt_eq]
    refine ⟨1, _, _, t1, r1, fin (M &&& (sl 1 (nI p) ^^^ -1)) w (up2 σ 63 1 (M &&& (sl 1 (nI p) ^^^ -1))) _ (fun o j ho => by rw [up2_o (fok_a ho (by decide)), up2_f ho (by decide)]) ⟨fun i i1 i2 => by rw [hMp i i2, g1.1 i i1 i2]; rfl, Nat.le_trans (pcn_sub 20 (fun i hi hb => by rw [hMp i (by omega)] at hb; cases hq : bt M i; rw [hq] at hb; cases hb; rfl)) g1.2⟩ (fun i i1 i2 => by rw [hMp i i2, g2 i i1 i2]; rfl) (by simp [up2_app]) (fun i hi hb => ?_) (fun i hi hb => ?_) (fun i hi => ?_)⟩
    · rw [hMp i (by omega), Bool.and_eq_true] at hb
      rw [up2_o (by decide), up2_o (by decide)]
      exact g4.2.2.2 i hi hb.1
    · rw [hMp i (by omega), Bool.and_eq_true] at hb
      have hne : ¬ i = p := by simpa using hb.2
      simp only [up2_app, hne, if_false, ite_self]
      rw [if_neg (by decide)]
      exact g5.2.2.2.1 i hi hb.1
    · rw [hMp i (by omega)]
      by_cases e : i = p
      · rw [e, up2_app, if_pos rfl, if_pos rfl, decide_eq_true rfl]
        simp
      · rw [decide_eq_false e]
        simp only [up2_app, e, if_false, ite_self]
        rw [if_neg (by decide), g5.2.2.2.2 i hi]
        simp
  cases e3 : inb 1 x2 999
  · refine ⟨-1002, σ, σ, ?_, ?_, Inv_s h⟩
    · unfold s_X11_guess; rw [has4 c0, bd_so, e1, if_neg z_t, if_neg e2, out_ok, bd_so, e3]; rfl
    · unfold s_X12_guess; rw [noP (by omega) m0, bd_so, e1, if_pos z_nt, if_neg e2, i2, bd_so, e3]; rfl
  obtain ⟨v, hv, hv1, hv2⟩ := rng (a := 1) (c := 999) (by omega) (by omega) e3
  have hpc : pcn (M &&& (sl 1 (nI p) ^^^ -1)) 24 = pcn (M &&& (sl 1 (nI p) ^^^ -1)) (nP N) := pcn_stop (c := nP N) (fun i i1 i2 => by rw [hMp i i2, g2 i i1 i2]; rfl) 24 (by omega) (by omega)
  have hpc20 : pcn (M &&& (sl 1 (nI p) ^^^ -1)) 20 = pcn (M &&& (sl 1 (nI p) ^^^ -1)) (nP N) := pcn_stop (c := nP N) (fun i i1 i2 => by rw [hMp i i2, g2 i i1 i2]; rfl) 20 (by omega) (by omega)
  have hle : pcn (M &&& (sl 1 (nI p) ^^^ -1)) 20 ≤ 12 := Nat.le_trans (pcn_sub 20 (fun i hi hb => by rw [hMp i (by omega)] at hb; cases hq : bt M i; rw [hq] at hb; cases hb; rfl)) g1.2
  have bc := bc_ok (x := M &&& (sl 1 (nI p) ^^^ -1)) n (fun i i1 i2 => by rw [hMp i i2, g2 i (by omega) i2]; rfl) σ
  have gm : ∀ ρ : Sg, eM M w (nP N) ng G V ρ → s_X12_guessMany n (nI p) ρ = some (nI (pcn (M &&& (sl 1 (nI p) ^^^ -1)) (nP N)), ρ) := fun ρ hρ => gm_go (n := n) (Y := M &&& (sl 1 (nI p) ^^^ -1)) (but := nI p) hp hρ (fun i hi => by
    rw [hMp i (by omega)]
    congr 1
    by_cases e : i = p
    · rw [e, decide_eq_true rfl, decide_eq_false (by simp)]; rfl
    · rw [decide_eq_false e, decide_eq_true (by rw [neq (by omega) (by omega)]; exact e)]; rfl) (nP N) 0 n (by omega) (by omega)
  by_cases hf : pcn (M &&& (sl 1 (nI p) ^^^ -1)) (nP N) < 12
  · have t1 : s_X11_guess n (nI p) x2 σ = some (1, up2 (up2 σ 63 1 (M ||| sl 1 (nI p))) 66 p x2) := by
      unfold s_X11_guess s_X11_guess_35 s_X11_guess_65 s_X1_suppose
      rw [has4 c0, bd_so, e1, if_neg z_t, if_neg e2, out_ok, bd_so, e3, if_pos z_nt, if_neg e2, g4.1, bc, bd_so, hpc, if_pos (by rw [show (12 : Int32) = nI 12 from rfl, nlt (by omega) (by omega)]; exact hf), if_neg e2, g4.1, lt_eq, ck_n (by omega) (by omega), ix_n (by omega), lt_eq, bdv_so]
    have hρ : eM M w (nP N) ng G V (up2 (up2 σ 63 1 (M ||| sl 1 (nI p))) 66 p x2) := by
      refine ⟨by rw [up2_o (by decide), up2_o (by decide)]; exact m0, by rw [up2_o (by decide), up2_o (by decide)]; exact g5.2.1, fun g hg => by rw [up2_o (by decide), up2_o (by decide), up2_o (by decide), up2_o (by decide)]; exact g5.2.2.1 g hg, fun i hi hb => by rw [up2_o (by decide), up2_o (by decide)]; exact g5.2.2.2.1 i hi hb, fun i hi => by rw [up2_o (by decide), up2_o (by decide)]; exact g5.2.2.2.2 i hi⟩
    have r1 : s_X12_guess n (nI p) x2 (up2 (up2 σ 63 1 (M ||| sl 1 (nI p))) 66 p x2) = some (1, up2 (up2 (up2 σ 63 1 (M ||| sl 1 (nI p))) 66 p x2) 80 p x2) := by
      unfold s_X12_guess s_X12_guess_33
      rw [noP (k := nP N) (by omega) (by rw [up2_o (by decide), up2_o (by decide)]; exact m0), bd_so, e1, if_pos z_nt, if_neg e2, i2, bd_so, e3, if_neg z_t, if_neg e2, gm _ hρ, bd_so, if_neg (by rw [show (12 : Int32) = nI 12 from rfl, neq (by omega) (by omega)]; omega), ck_n (by omega) (by omega), ix_n (by omega), lt_eq]
    have hadd : pcn (M ||| sl 1 (nI p)) 20 = pcn (M &&& (sl 1 (nI p) ^^^ -1)) 20 + 1 := by
      have := pcn_add (x := M ||| sl 1 (nI p)) (y := M &&& (sl 1 (nI p) ^^^ -1)) (p := p) 20 (fun i hi hne => by rw [hMo i (by omega), hMp i (by omega), decide_eq_false hne]; simp) (fun _ => ⟨by rw [hMo p (by omega), decide_eq_true rfl, Bool.or_true], by rw [hMp p (by omega), decide_eq_true rfl]; simp⟩)
      rw [this, if_pos (by omega)]
    refine ⟨1, _, _, t1, r1, fin (M ||| sl 1 (nI p)) (updI w p x2) (up2 (up2 σ 63 1 (M ||| sl 1 (nI p))) 66 p x2) _ (fun o j ho => by rw [up2_o (fok_a ho (by decide)), up2_o (fok_a ho (by decide)), up2_f ho (by decide)]) ⟨fun i i1 i2 => by rw [hMo i i2, g1.1 i i1 i2, decide_eq_false (by omega)]; rfl, by omega⟩ (fun i i1 i2 => by rw [hMo i i2, g2 i i1 i2, decide_eq_false (by omega)]; rfl) (by simp [up2_app]) (fun i hi hb => ?_) (fun i hi hb => ?_) (fun i hi => ?_)⟩
    · unfold updI
      rw [up2_o (by decide)]
      by_cases e : i = p
      · rw [if_pos e, e]; simp [up2_app]
      · rw [if_neg e]
        rw [hMo i (by omega), decide_eq_false e, Bool.or_false] at hb
        simp only [up2_app, e, if_false, ite_self]
        rw [if_neg (by decide)]
        exact g4.2.2.2 i hi hb
    · unfold updI
      by_cases e : i = p
      · rw [if_pos e, e]; simp [up2_app]
      · rw [if_neg e]
        rw [hMo i (by omega), decide_eq_false e, Bool.or_false] at hb
        simp only [up2_app, e, if_false, ite_self]
        rw [if_neg (by decide)]
        exact g5.2.2.2.1 i hi hb
    · rw [hMo i (by omega)]
      by_cases e : i = p
      · rw [e, up2_app, if_pos rfl, if_pos rfl, decide_eq_true rfl, Bool.or_true, hv]
        refine propext ⟨fun z => ?_, fun z => by cases z⟩
        rw [show (0 : Int32) = nI 0 from rfl, nle (by omega) (by omega)] at z
        omega
      · rw [decide_eq_false e, Bool.or_false]
        simp only [up2_app, e, if_false, ite_self]
        rw [if_neg (by decide)]
        exact g5.2.2.2.2 i hi
  · have hf2 : pcn (M &&& (sl 1 (nI p) ^^^ -1)) (nP N) = 12 := by omega
    refine ⟨-1004, σ, σ, ?_, ?_, Inv_s h⟩
    · unfold s_X11_guess s_X11_guess_35
      rw [has4 c0, bd_so, e1, if_neg z_t, if_neg e2, out_ok, bd_so, e3, if_pos z_nt, if_neg e2, g4.1, bc, bd_so, hpc, hf2, if_neg (by decide)]
    · unfold s_X12_guess s_X12_guess_33
      rw [noP (by omega) m0, bd_so, e1, if_pos z_nt, if_neg e2, i2, bd_so, e3, if_neg z_t, if_neg e2, gm _ g5, bd_so, hf2, if_pos (by decide)]
def cnt (f : Nat → Bool) : Nat → Nat
  | 0 => 0
  | k + 1 => cnt f k + (f k).toNat
theorem cnt_s (f : Nat → Bool) (k : Nat) : cnt f (k + 1) = cnt f k + (f k).toNat := rfl
theorem pcn_cnt {x : Int32} {f : Nat → Bool} : ∀ k, (∀ i, i < k → bt x i = f i) → pcn x k = cnt f k
  | 0, _ => rfl
  | k + 1, h => by rw [pcn_s, cnt_s, pcn_cnt k (fun i hi => h i (by omega)), h k (by omega)]
theorem al_go {n ns : Nat} {f : Nat → Bool} {σ : Sg} (hns : ns ≤ 10) (h : ∀ t, t < ns → σ 23 t = zo (f t)) : ∀ (e s k : Nat), s + e = ns → e < k → s_X7_always_4 n k 22 (nI ns) (nI (cnt f s)) (nI s) σ = some (nI (cnt f ns), σ) := by
  intro e
  induction e with
  | zero =>
    intro s k hs hk
    obtain ⟨k, rfl⟩ : ∃ k', k = k' + 1 := ⟨k - 1, by omega⟩
    have hs : s = ns := by omega
    subst hs
    show s_X7_always_4b n _ _ _ _ _ _ = _
    unfold s_X7_always_4b
    rw [if_pos (Int32.le_refl _)]
  | succ e ih =>
    intro s k hs hk
    obtain ⟨k, rfl⟩ : ∃ k', k = k' + 1 := ⟨k - 1, by omega⟩
    show s_X7_always_4b n (s_X7_always_4 n k) _ _ _ _ _ = _
    unfold s_X7_always_4b
    have h23 : σ (rf 22 0) s = zo (f s) := h s (by omega)
    rw [if_neg (by rw [nle (by omega) (by omega)]; omega), ck_n (by omega) (by omega), ix_n (by omega), h23, show nI s + 1 = nI (s + 1) from nI_1 s]
    have i := ih (s + 1) k (by omega) (by omega)
    rw [cnt_s] at i
    cases hb : f s
    · rw [hb] at i
      rw [if_neg (show ¬ zo false = 1 by decide)]
      exact i
    · rw [hb] at i
      rw [if_pos (show zo true = 1 from rfl), nI_1]
      exact i
theorem mal_go {n ns : Nat} {f : Nat → Bool} {σ : Sg} (hns : ns ≤ 10) (h0 : σ 71 11 = nI ns) (h : ∀ t, t < ns → σ 86 t = zo (f t)) : ∀ (e s k : Nat), s + e = ns → e < k → s_X12_alwaysMany_4 n k (nI (cnt f s)) (nI s) σ = some (nI (cnt f ns), σ) := by
  intro e
  induction e with
  | zero =>
    intro s k hs hk
    obtain ⟨k, rfl⟩ : ∃ k', k = k' + 1 := ⟨k - 1, by omega⟩
    have hs : s = ns := by omega
    subst hs
    show s_X12_alwaysMany_4b n _ _ _ _ = _
    unfold s_X12_alwaysMany_4b
    rw [h0, if_pos (Int32.le_refl _)]
  | succ e ih =>
    intro s k hs hk
    obtain ⟨k, rfl⟩ : ∃ k', k = k' + 1 := ⟨k - 1, by omega⟩
    show s_X12_alwaysMany_4b n (s_X12_alwaysMany_4 n k) _ _ _ = _
    unfold s_X12_alwaysMany_4b
    rw [h0, if_neg (by rw [nle (by omega) (by omega)]; omega), ck_n (by omega) (by omega), ix_n (by omega), h s (by omega), one_ok, bd_so, lt_eq, show nI s + 1 = nI (s + 1) from nI_1 s, zs, nadd]
    have i := ih (s + 1) k (by omega) (by omega)
    rw [cnt_s] at i
    rw [show (if f s = true then 1 else 0) = (f s).toNat by cases f s <;> rfl]
    exact i
theorem msh_go {n np : Nat} {f : Nat → Bool} {σ : Sg} (hnp : np ≤ 20) (h0 : σ 71 2 = nI np) (h : ∀ t, t < np → σ 79 t = if f t = true then 1 else 0) : ∀ (e s k : Nat), s + e = np → e < k → s_X12_shutMany_4 n k (nI (cnt f s)) (nI s) σ = some (nI (cnt f np), σ) := by
  intro e
  induction e with
  | zero =>
    intro s k hs hk
    obtain ⟨k, rfl⟩ : ∃ k', k = k' + 1 := ⟨k - 1, by omega⟩
    have hs : s = np := by omega
    subst hs
    show s_X12_shutMany_4b n _ _ _ _ = _
    unfold s_X12_shutMany_4b
    rw [h0, if_pos (Int32.le_refl _)]
  | succ e ih =>
    intro s k hs hk
    obtain ⟨k, rfl⟩ : ∃ k', k = k' + 1 := ⟨k - 1, by omega⟩
    show s_X12_shutMany_4b n (s_X12_shutMany_4 n k) _ _ _ = _
    unfold s_X12_shutMany_4b
    have h79 : σ 79 s = zo (f s) := h s (by omega)
    rw [h0, if_neg (by rw [nle (by omega) (by omega)]; omega), ck_n (by omega) (by omega), ix_n (by omega), h79, one_ok, bd_so, lt_eq, show nI s + 1 = nI (s + 1) from nI_1 s, zs, nadd]
    have i := ih (s + 1) k (by omega) (by omega)
    rw [cnt_s] at i
    rw [show (if f s = true then 1 else 0) = (f s).toNat by cases f s <;> rfl]
    exact i
theorem st_count {n c : Nat} {x1 : Int32} {σ : Sg} (hn : 300000 ≤ n) (h : Inv c σ) : wStp c (s_X11_count n x1) (s_X12_count n x1) σ := by
  obtain ⟨N, ma, mb, S, K, now, pu, Rs, nr, h⟩ := h
  have fin : ∀ r, s_X11_count n x1 σ = some (r, σ) → s_X12_count n x1 σ = some (r, σ) → wStp c (s_X11_count n x1) (s_X12_count n x1) σ := fun r a b => ⟨r, σ, σ, a, b, Inv_s h⟩
  have hI := Inv_s h
  obtain ⟨h1, h2, h3, h4, h5, h6, h7, h8, h9, h10, h11⟩ := h
  have hp := h1.1.1
  have hs := h2.1.1
  unfold s_X11_count s_X12_count at fin ⊢
  by_cases e0 : x1 = 0
  · refine fin (nI now) ?_ ?_
    · rw [if_pos e0, h3.2.1]
    · rw [if_pos e0, h3.2.2.1]
  by_cases e1 : x1 = 1
  · refine fin (nI (nP N)) ?_ ?_
    · rw [if_neg e0, if_pos e1, h1.2.1.1]
    · rw [if_neg e0, if_pos e1, h1.2.2.1.1]
  by_cases e2 : x1 = 2
  · refine fin (nI (sN S)) ?_ ?_
    · rw [if_neg e0, if_neg e1, if_pos e2, h2.2.2.1.1]
    · rw [if_neg e0, if_neg e1, if_pos e2, h2.2.2.2.1.1]
  by_cases e3 : x1 = 3
  · refine fin (nI (cnt K.1 (sN S))) ?_ ?_
    · have a : s_X7_always n 22 (nI (sN S)) σ = some (nI (cnt K.1 (sN S)), σ) := al_go (n := n) hs (fun t ht => (h2.2.2.2.2.1 t ht).1) (sN S) 0 n (by omega) (by omega)
      rw [if_neg e0, if_neg e1, if_neg e2, if_pos e3, h2.2.2.1.1, a, bd_so]
    · have a : s_X12_alwaysMany n σ = some (nI (cnt K.1 (sN S)), σ) := mal_go (n := n) hs h2.2.2.2.1.1 (fun t ht => (h2.2.2.2.2.2.1 t ht).1) (sN S) 0 n (by omega) (by omega)
      rw [if_neg e0, if_neg e1, if_neg e2, if_pos e3, a, bd_so]
  by_cases e4 : x1 = 4
  · obtain ⟨cn, cl, h62⟩ := h6.2.1
    refine fin (nI nr) ?_ ?_
    · rw [if_neg e0, if_neg e1, if_neg e2, if_neg e3, if_pos e4, h6.1.2.1]
    · rw [if_neg e0, if_neg e1, if_neg e2, if_neg e3, if_pos e4, h62.2.1]
  by_cases e5 : x1 = 5
  · refine fin (nI (cnt (nSh N) (nP N))) ?_ ?_
    · have a := bc_ok (x := σ 3 1) n (fun i i1 i2 => h1.2.2.2.2.1 i (by omega) i2) σ
      rw [pcn_stop (c := nP N) (fun i i1 i2 => h1.2.2.2.2.1 i i1 i2) 24 (by omega) (by omega), pcn_cnt (f := nSh N) (nP N) (fun i hi => (h1.2.1.2 i hi).2.2.2.2)] at a
      rw [if_neg e0, if_neg e1, if_neg e2, if_neg e3, if_neg e4, if_pos e5, a, bd_so]
    · have a : s_X12_shutMany n σ = some (nI (cnt (nSh N) (nP N)), σ) := msh_go (n := n) hp h1.2.2.1.1 (fun t ht => (h1.2.2.1.2 t ht).2.2.2.2) (nP N) 0 n (by omega) (by omega)
      rw [if_neg e0, if_neg e1, if_neg e2, if_neg e3, if_neg e4, if_pos e5, a, bd_so]
  by_cases e6 : x1 = 6
  · obtain ⟨_, len, l1, l2, l3, _⟩ := h5
    refine fin (nI len) ?_ ?_
    · rw [if_neg e0, if_neg e1, if_neg e2, if_neg e3, if_neg e4, if_neg e5, if_pos e6, l2]
    · rw [if_neg e0, if_neg e1, if_neg e2, if_neg e3, if_neg e4, if_neg e5, if_pos e6, l3]
  obtain ⟨M, w, ng, G, V, g1, g2, g3, g4, g5⟩ := h8
  by_cases e7 : x1 = 7
  · refine fin (nI ng) ?_ ?_
    · rw [if_neg e0, if_neg e1, if_neg e2, if_neg e3, if_neg e4, if_neg e5, if_neg e6, if_pos e7, g4.2.1]
    · rw [if_neg e0, if_neg e1, if_neg e2, if_neg e3, if_neg e4, if_neg e5, if_neg e6, if_pos e7, g5.2.1]
  by_cases e8 : x1 = 8
  · refine fin (nI (pcn M (nP N))) ?_ ?_
    · have a := bc_ok (x := M) n (fun i i1 i2 => g2 i (by omega) i2) σ
      rw [pcn_stop (c := nP N) g2 24 (by omega) (by omega)] at a
      rw [if_neg e0, if_neg e1, if_neg e2, if_neg e3, if_neg e4, if_neg e5, if_neg e6, if_neg e7, if_pos e8, g4.1, a, bd_so]
    · have a : s_X12_guessMany n (-1) σ = some (nI (pcn M (nP N)), σ) := gm_go (n := n) (Y := M) (but := -1) hp g5 (fun i hi => by rw [decide_eq_true (n_ne1 (by omega)), Bool.and_true]) (nP N) 0 n (by omega) (by omega)
      rw [if_neg e0, if_neg e1, if_neg e2, if_neg e3, if_neg e4, if_neg e5, if_neg e6, if_neg e7, if_pos e8, a, bd_so]
  by_cases e9 : x1 = 9
  · refine fin (σ 0 13) ?_ ?_
    · rw [if_neg e0, if_neg e1, if_neg e2, if_neg e3, if_neg e4, if_neg e5, if_neg e6, if_neg e7, if_neg e8, if_pos e9]
    · rw [if_neg e0, if_neg e1, if_neg e2, if_neg e3, if_neg e4, if_neg e5, if_neg e6, if_neg e7, if_neg e8, if_pos e9, h3.2.2.2.1]
  by_cases e10 : x1 = 10
  · refine fin (σ 0 14) ?_ ?_
    · rw [if_neg e0, if_neg e1, if_neg e2, if_neg e3, if_neg e4, if_neg e5, if_neg e6, if_neg e7, if_neg e8, if_neg e9, if_pos e10]
    · rw [if_neg e0, if_neg e1, if_neg e2, if_neg e3, if_neg e4, if_neg e5, if_neg e6, if_neg e7, if_neg e8, if_neg e9, if_pos e10, h3.2.2.2.2.1]
  · refine fin (-1002) ?_ ?_
    · rw [if_neg e0, if_neg e1, if_neg e2, if_neg e3, if_neg e4, if_neg e5, if_neg e6, if_neg e7, if_neg e8, if_neg e9, if_neg e10]
    · rw [if_neg e0, if_neg e1, if_neg e2, if_neg e3, if_neg e4, if_neg e5, if_neg e6, if_neg e7, if_neg e8, if_neg e9, if_neg e10]
