/-! ===== what stands between the calls ===== -/
def sup (g : List (Nat × Option Nat)) (o j : Nat) : Bool := g.any (fun w => w.1 == o && (match w.2 with | none => true | some k => k == j))
def disj (g W : List (Nat × Option Nat)) : Bool := g.all (fun a => W.all (fun b => !(a.1 == b.1) || (match a.2 with | none => false | some x => (match b.2 with | none => false | some y => !(x == y)))))
theorem sup_fok {g W : List (Nat × Option Nat)} {o j : Nat} (h : disj g W = true) (hs : sup g o j = true) : fok W o j = true := by
  obtain ⟨a, ha, h1⟩ := List.any_eq_true.mp hs
  rw [Bool.and_eq_true, beq_iff_eq] at h1
  refine List.all_eq_true.mpr (fun b hb => ?_)
  have h2 := List.all_eq_true.mp (List.all_eq_true.mp h a ha) b hb
  rw [Bool.or_eq_true] at h2 ⊢
  by_cases e : b.1 = o
  · right
    rcases h2 with h2 | h2
    · rw [h1.1, e] at h2
      simp at h2
    · cases ha2 : a.2 with
      | none => rw [ha2] at h2; cases h2
      | some x =>
        rw [ha2] at h2 h1
        cases hb2 : b.2 with
        | none => rw [hb2] at h2; cases h2
        | some y =>
          rw [hb2] at h2
          have h3 : x = j := by simpa using h1.2
          have h4 : ¬ x = y := by simpa using h2
          have h5 : ¬ y = j := fun z => h4 (h3.trans z.symm)
          simpa using h5
  · left
    simpa using e
theorem fok_app {W V : List (Nat × Option Nat)} {o j : Nat} (h : fok (W ++ V) o j = true) : fok W o j = true ∧ fok V o j = true := by
  unfold fok at h ⊢
  rw [List.all_append, Bool.and_eq_true] at h
  exact h
def iN (N : Net) (ma mb : Nat → Nat) (σ : Sg) : Prop := nok N ∧ cN N σ ∧ mN N σ ∧ (∀ p, p < nP N → ma p < 10 ∧ mb p < 10 ∧ σ 8 p = nI (ma p) ∧ σ 9 p = nI (mb p) ∧ σ 75 p = nI (ma p) ∧ σ 76 p = nI (mb p)) ∧ (∀ i, nP N ≤ i → i < 32 → bt (σ 3 1) i = false) ∧ ∀ i, nP N ≤ i → i < 20 → σ 79 i = 0
abbrev gN : List (Nat × Option Nat) := [(3, none), (4, none), (5, none), (6, none), (7, none), (8, none), (9, none), (71, some 2), (73, none), (74, none), (75, none), (76, none), (77, none), (78, none), (79, none)]
theorem iN_of {N : Net} {ma mb : Nat → Nat} {σ τ : Sg} (h : iN N ma mb σ) (f : ∀ o j, sup gN o j = true → τ o j = σ o j) : iN N ma mb τ := by
  obtain ⟨h1, h2, h3, h4, h5, h6⟩ := h
  refine ⟨h1, cN_of h2 (fun j => f 3 j rfl) (fun j => f 4 j rfl) (fun j => f 5 j rfl) (fun j => f 6 j rfl) (fun j => f 7 j rfl), mN_of h3 (f 71 2 rfl) (fun j => f 73 j rfl) (fun j => f 74 j rfl) (fun j => f 77 j rfl) (fun j => f 78 j rfl) (fun j => f 79 j rfl), fun p hp => ?_, fun i a b => by rw [f 3 1 rfl]; exact h5 i a b, fun i a b => by rw [f 79 i rfl]; exact h6 i a b⟩
  rw [f 8 p rfl, f 9 p rfl, f 75 p rfl, f 76 p rfl]
  exact h4 p hp
def iS (S : Str) (K : Knd) (σ : Sg) : Prop := sok S ∧ cok S K.2 ∧ cS S σ ∧ mS' S σ ∧ cK S K 22 σ ∧ mK S K σ ∧ (∀ s, s < sN S → σ 13 s = σ 82 s) ∧ (∀ s, sN S ≤ s → s < 10 → σ 24 s = 0 ∧ σ 88 s = 0) ∧ ∀ s, s < 10 → σ 17 s = σ 87 s ∧ σ 18 s = σ 89 s ∧ σ 19 s = σ 90 s ∧ σ 20 s = σ 91 s ∧ σ 21 s = σ 92 s
abbrev gS : List (Nat × Option Nat) := [(11, some 0), (12, none), (13, none), (14, none), (15, none), (16, none), (17, none), (18, none), (19, none), (20, none), (21, none), (23, none), (24, none), (71, some 11), (81, none), (82, none), (83, none), (84, none), (85, none), (86, none), (87, none), (88, none), (89, none), (90, none), (91, none), (92, none)]
theorem iS_of {S : Str} {K : Knd} {σ τ : Sg} (h : iS S K σ) (f : ∀ o j, sup gS o j = true → τ o j = σ o j) : iS S K τ := by
  obtain ⟨h1, h2, h3, h4, h5, h6, h7, h8, h9⟩ := h
  refine ⟨h1, h2, ⟨by rw [f 11 0 rfl]; exact h3.1, fun s hs => ?_⟩, ⟨by rw [f 71 11 rfl]; exact h4.1, fun s hs => ?_⟩, fun s hs => ?_, fun s hs => ?_, fun s hs => ?_, fun s a b => ?_, fun s hs => ?_⟩
  · rw [f 12 s rfl, f 14 s rfl, f 15 s rfl, f 16 s rfl]; exact h3.2 s hs
  · rw [f 81 s rfl, f 82 s rfl, f 83 s rfl, f 84 s rfl, f 85 s rfl]; exact h4.2 s hs
  · show τ 23 s = _ ∧ τ 24 s = _
    rw [f 23 s rfl, f 24 s rfl]; exact h5 s hs
  · rw [f 86 s rfl, f 88 s rfl]; exact h6 s hs
  · rw [f 13 s rfl, f 82 s rfl]; exact h7 s hs
  · rw [f 24 s rfl, f 88 s rfl]; exact h8 s a b
  · rw [f 17 s rfl, f 18 s rfl, f 19 s rfl, f 20 s rfl, f 21 s rfl, f 87 s rfl, f 89 s rfl, f 90 s rfl, f 91 s rfl, f 92 s rfl]; exact h9 s hs
def iT (now : Nat) (σ : Sg) : Prop := now ≤ 4800 ∧ σ 0 12 = nI now ∧ σ 71 0 = nI now ∧ σ 0 13 = σ 71 24 ∧ σ 0 14 = σ 71 25 ∧ σ 71 50 = -1
abbrev gT : List (Nat × Option Nat) := [(0, some 12), (0, some 13), (0, some 14), (71, some 0), (71, some 24), (71, some 25), (71, some 50)]
theorem iT_of {now : Nat} {σ τ : Sg} (h : iT now σ) (f : ∀ o j, sup gT o j = true → τ o j = σ o j) : iT now τ := by
  unfold iT
  rw [f 0 12 rfl, f 0 13 rfl, f 0 14 rfl, f 71 0 rfl, f 71 24 rfl, f 71 25 rfl, f 71 50 rfl]
  exact h
def iP (pu : Nat → Int32) (σ : Sg) : Prop := ∀ h, h < 24 → (σ 40 h = pu h ∧ σ 72 h = pu h) ∧ 0 ≤ (pu h).toInt ∧ (pu h).toInt ≤ 9999
abbrev gP : List (Nat × Option Nat) := [(40, none), (72, none)]
theorem iP_of {pu : Nat → Int32} {σ τ : Sg} (h : iP pu σ) (f : ∀ o j, sup gP o j = true → τ o j = σ o j) : iP pu τ := by
  intro x hx
  rw [f 40 x rfl, f 72 x rfl]
  exact h x hx
def iX (σ : Sg) : Prop := σ 25 1 = σ 71 36 ∧ ∃ len, len ≤ 160 ∧ σ 25 0 = nI len ∧ σ 71 33 = nI len ∧ ∀ i, i < len → σ 26 i = σ 98 i ∧ ∃ c, c < 256 ∧ σ 98 i = nI c
abbrev gX : List (Nat × Option Nat) := [(25, some 0), (25, some 1), (26, none), (71, some 33), (71, some 36), (98, none)]
theorem iX_of {σ τ : Sg} (h : iX σ) (f : ∀ o j, sup gX o j = true → τ o j = σ o j) : iX τ := by
  obtain ⟨h0, len, h1, h2, h3, h4⟩ := h
  refine ⟨by rw [f 25 1 rfl, f 71 36 rfl]; exact h0, len, h1, by rw [f 25 0 rfl]; exact h2, by rw [f 71 33 rfl]; exact h3, fun i hi => ?_⟩
  rw [f 26 i rfl, f 98 i rfl]
  exact h4 i hi
def iR (Rs : Nat → Rl) (nr : Nat) (σ : Sg) : Prop := cR Rs nr σ ∧ (∃ cn cl, mR Rs nr cn cl σ) ∧ kOk Rs nr
abbrev gR : List (Nat × Option Nat) := [(27, none), (29, none), (30, none), (31, none), (32, none), (33, none), (34, none), (35, none), (36, none), (37, none), (71, some 26), (93, none), (94, none), (95, none), (96, none), (97, none)]
theorem iR_of {Rs : Nat → Rl} {nr : Nat} {σ τ : Sg} (h : iR Rs nr σ) (f : ∀ o j, sup gR o j = true → τ o j = σ o j) : iR Rs nr τ := by
  obtain ⟨h1, ⟨cn, cl, h2⟩, h3⟩ := h
  refine ⟨cR_of h1 (fun o j ho => f o j ?_), ⟨cn, cl, mR_of h2 (f 71 26 rfl) (fun o j a b => f o j ?_)⟩, h3⟩
  · rcases (show o = 27 ∨ o = 37 ∨ o = 29 ∨ o = 30 ∨ o = 31 ∨ o = 32 ∨ o = 33 ∨ o = 34 ∨ o = 35 ∨ o = 36 by omega) with rfl | rfl | rfl | rfl | rfl | rfl | rfl | rfl | rfl | rfl <;> rfl
  · rcases (show o = 93 ∨ o = 94 ∨ o = 95 ∨ o = 96 ∨ o = 97 by omega) with rfl | rfl | rfl | rfl | rfl <;> rfl
/-- what the two laws of days remember -/
def iC (Rs : Nat → Rl) (nr : Nat) (σ : Sg) : Prop := (cCa Rs nr 38 σ ∧ ∃ e, e ≤ nr ∧ σ 38 1 = nI e) ∧ cCa Rs nr 62 σ ∧ ∃ e, e ≤ nr ∧ σ 62 1 = nI e
abbrev gC : List (Nat × Option Nat) := [(38, none), (62, none)]
theorem cCa_of {Rs : Nat → Rl} {nr lc : Nat} {σ τ : Sg} (h : cCa Rs nr lc σ) (f : ∀ j, τ lc j = σ lc j) : cCa Rs nr lc τ := by
  intro d hd e1 e2
  rw [f] at e1 e2
  unfold cHd
  rw [f, f, f, f, f, f]
  exact h d hd e1 e2
theorem iC_of {Rs : Nat → Rl} {nr : Nat} {σ τ : Sg} (h : iC Rs nr σ) (f : ∀ o j, sup gC o j = true → τ o j = σ o j) : iC Rs nr τ := by
  unfold iC
  rw [f 38 1 rfl, f 62 1 rfl]
  exact ⟨⟨cCa_of h.1.1 (fun j => f 38 j rfl), h.1.2⟩, cCa_of h.2.1 (fun j => f 62 j rfl), h.2.2⟩
def iG (np : Nat) (σ : Sg) : Prop := ∃ M w ng G V, mok M ∧ (∀ i, np ≤ i → i < 32 → bt M i = false) ∧ ng ≤ 6 ∧ eC M w ng G V σ ∧ eM M w np ng G V σ
abbrev gG : List (Nat × Option Nat) := [(63, some 0), (63, some 1), (64, none), (65, none), (66, none), (71, some 2), (71, some 66), (80, none), (115, none), (116, none)]
theorem iG_of {np : Nat} {σ τ : Sg} (h : iG np σ) (f : ∀ o j, sup gG o j = true → τ o j = σ o j) : iG np τ := by
  obtain ⟨M, w, ng, G, V, h1, h2, h3, h4, h5⟩ := h
  refine ⟨M, w, ng, G, V, h1, h2, h3, ⟨by rw [f 63 1 rfl]; exact h4.1, by rw [f 63 0 rfl]; exact h4.2.1, fun g hg => ?_, fun i hi hb => ?_⟩, ⟨by rw [f 71 2 rfl]; exact h5.1, by rw [f 71 66 rfl]; exact h5.2.1, fun g hg => ?_, fun i hi hb => ?_, fun i hi => ?_⟩⟩
  · rw [f 64 g rfl, f 65 g rfl]; exact h4.2.2.1 g hg
  · rw [f 66 i rfl]; exact h4.2.2.2 i hi hb
  · rw [f 115 g rfl, f 116 g rfl]; exact h5.2.2.1 g hg
  · rw [f 80 i rfl]; exact h5.2.2.2.1 i hi hb
  · rw [f 80 i rfl]; exact h5.2.2.2.2 i hi
def iV (σ : Sg) : Prop := ∀ i, i < 31 → σ 1 i = σ 118 i
abbrev gV : List (Nat × Option Nat) := [(1, none), (118, none)]
theorem iV_of {σ τ : Sg} (h : iV σ) (f : ∀ o j, sup gV o j = true → τ o j = σ o j) : iV τ := by
  intro i hi
  rw [f 1 i rfl, f 118 i rfl]
  exact h i hi
abbrev gB : List (Nat × Option Nat) := [(68, none), (69, none)]
theorem iB_of {σ τ : Sg} (h : bKp σ) (f : ∀ o j, sup gB o j = true → τ o j = σ o j) : bKp τ := bKp_fr h (fun j => f 68 j rfl) (fun j => f 69 j rfl)
def dyN (now : Nat) : Nat := if now / 24 ≤ 199 then now / 24 else 199
/-- the kept plan: its edition is not after the present one; if it is that, it is the plan of its set now -/
def iO (c : Nat) (N : Net) (S : Str) (K : Nat → Bool) (pu : Nat → Int32) (Rs : Nat → Rl) (nr now : Nat) (σ : Sg) : Prop := ∃ ed, ed ≤ c ∧ σ 0 15 = nI ed ∧ (σ 51 10 = -1 ∨ ∃ pe, pe ≤ ed ∧ σ 51 10 = nI pe) ∧ (σ 51 10 = nI ed → pAn N S K pu (lwO (holds Rs nr (dyN now))) (σ 51 9) σ)
abbrev gO : List (Nat × Option Nat) := [(0, some 15), (51, some 9), (51, some 10), (51, some 12), (51, some 13), (55, none)]
theorem pAn_of {N : Net} {S : Str} {K : Nat → Bool} {pu : Nat → Int32} {L : Lw} {v : Int32} {σ τ : Sg} (h : pAn N S K pu L v σ) (h1 : τ 51 12 = σ 51 12) (h2 : τ 51 13 = σ 51 13) (h3 : ∀ j, τ 55 j = σ 55 j) : pAn N S K pu L v τ := by
  unfold pAn
  rw [h1, h2]
  refine ⟨h.1, h.2.1, fun i hi => ?_⟩
  rw [h3 i]
  exact h.2.2 i hi
theorem iO_of {c : Nat} {N : Net} {S : Str} {K : Nat → Bool} {pu : Nat → Int32} {Rs : Nat → Rl} {nr now : Nat} {σ τ : Sg} (h : iO c N S K pu Rs nr now σ) (f : ∀ o j, sup gO o j = true → τ o j = σ o j) : iO c N S K pu Rs nr now τ := by
  obtain ⟨ed, h1, h2, h3, h4⟩ := h
  refine ⟨ed, h1, by rw [f 0 15 rfl]; exact h2, by rw [f 51 10 rfl]; exact h3, fun e => ?_⟩
  rw [f 51 10 rfl] at e
  rw [f 51 9 rfl]
  exact pAn_of (h4 e) (f 51 12 rfl) (f 51 13 rfl) (fun j => f 55 j rfl)
theorem iO_mono {c c' : Nat} {N : Net} {S : Str} {K : Nat → Bool} {pu : Nat → Int32} {Rs : Nat → Rl} {nr now : Nat} {σ : Sg} (h : iO c N S K pu Rs nr now σ) (hc : c ≤ c') : iO c' N S K pu Rs nr now σ := by
  obtain ⟨ed, h1, h2⟩ := h
  exact ⟨ed, by omega, h2⟩
/-- a new edition: no kept plan counts any more -/
theorem iO_up {c : Nat} {N N' : Net} {S S' : Str} {K K' : Nat → Bool} {pu pu' : Nat → Int32} {Rs Rs' : Nat → Rl} {nr nr' now now' : Nat} {σ τ : Sg} (hc : c < 1000) (h : iO c N S K pu Rs nr now σ) (f1 : τ 0 15 = σ 0 15 + 1) (f2 : τ 51 10 = σ 51 10) : iO (c + 1) N' S' K' pu' Rs' nr' now' τ := by
  obtain ⟨ed, h1, h2, h3, _⟩ := h
  refine ⟨ed + 1, by omega, by rw [f1, h2]; exact nI_1 ed, ?_, fun e => ?_⟩
  · rw [f2]
    rcases h3 with h3 | ⟨pe, h3, h4⟩
    · exact .inl h3
    · exact .inr ⟨pe, by omega, h4⟩
  · exfalso
    rw [f2] at e
    rcases h3 with h3 | ⟨pe, h3, h4⟩
    · rw [h3] at e
      exact n_ne1 (by omega) e.symm
    · rw [h4, neq (by omega) (by omega)] at e
      omega
def InvD (N : Net) (ma mb : Nat → Nat) (S : Str) (K : Knd) (now : Nat) (pu : Nat → Int32) (Rs : Nat → Rl) (nr c : Nat) (σ : Sg) : Prop := iN N ma mb σ ∧ iS S K σ ∧ iT now σ ∧ iP pu σ ∧ iX σ ∧ iR Rs nr σ ∧ iC Rs nr σ ∧ iG (nP N) σ ∧ iV σ ∧ bKp σ ∧ iO c N S K.1 pu Rs nr now σ
def Inv (c : Nat) (σ : Sg) : Prop := ∃ N ma mb S K now pu Rs nr, InvD N ma mb S K now pu Rs nr c σ
abbrev gA : List (Nat × Option Nat) := gN ++ (gS ++ (gT ++ (gP ++ (gX ++ (gR ++ (gC ++ (gG ++ (gV ++ (gB ++ gO)))))))))
theorem sup_l {a b : List (Nat × Option Nat)} {o j : Nat} (h : sup a o j = true) : sup (a ++ b) o j = true := by
  unfold sup at h ⊢
  rw [List.any_append, h]
  rfl
theorem sup_r {a b : List (Nat × Option Nat)} {o j : Nat} (h : sup b o j = true) : sup (a ++ b) o j = true := by
  unfold sup at h ⊢
  rw [List.any_append, h, Bool.or_true]
theorem InvD_of {N : Net} {ma mb : Nat → Nat} {S : Str} {K : Knd} {now : Nat} {pu : Nat → Int32} {Rs : Nat → Rl} {nr c : Nat} {σ τ : Sg} (h : InvD N ma mb S K now pu Rs nr c σ) (f : ∀ o j, sup gA o j = true → τ o j = σ o j) : InvD N ma mb S K now pu Rs nr c τ := by
  obtain ⟨h1, h2, h3, h4, h5, h6, h7, h8, h9, h10, h11⟩ := h
  exact ⟨iN_of h1 (fun o j s => f o j (sup_l s)), iS_of h2 (fun o j s => f o j (sup_r (sup_l s))), iT_of h3 (fun o j s => f o j (sup_r (sup_r (sup_l s)))), iP_of h4 (fun o j s => f o j (sup_r (sup_r (sup_r (sup_l s))))), iX_of h5 (fun o j s => f o j (sup_r (sup_r (sup_r (sup_r (sup_l s)))))), iR_of h6 (fun o j s => f o j (sup_r (sup_r (sup_r (sup_r (sup_r (sup_l s))))))), iC_of h7 (fun o j s => f o j (sup_r (sup_r (sup_r (sup_r (sup_r (sup_r (sup_l s)))))))), iG_of h8 (fun o j s => f o j (sup_r (sup_r (sup_r (sup_r (sup_r (sup_r (sup_r (sup_l s))))))))), iV_of h9 (fun o j s => f o j (sup_r (sup_r (sup_r (sup_r (sup_r (sup_r (sup_r (sup_r (sup_l s)))))))))), iB_of h10 (fun o j s => f o j (sup_r (sup_r (sup_r (sup_r (sup_r (sup_r (sup_r (sup_r (sup_r (sup_l s))))))))))), iO_of h11 (fun o j s => f o j (sup_r (sup_r (sup_r (sup_r (sup_r (sup_r (sup_r (sup_r (sup_r (sup_r s))))))))))) ⟩
theorem InvD_mono {N : Net} {ma mb : Nat → Nat} {S : Str} {K : Knd} {now : Nat} {pu : Nat → Int32} {Rs : Nat → Rl} {nr c c' : Nat} {σ : Sg} (h : InvD N ma mb S K now pu Rs nr c σ) (hc : c ≤ c') : InvD N ma mb S K now pu Rs nr c' σ := by
  obtain ⟨h1, h2, h3, h4, h5, h6, h7, h8, h9, h10, h11⟩ := h
  exact ⟨h1, h2, h3, h4, h5, h6, h7, h8, h9, h10, iO_mono h11 hc⟩
theorem Inv_s {N : Net} {ma mb : Nat → Nat} {S : Str} {K : Knd} {now : Nat} {pu : Nat → Int32} {Rs : Nat → Rl} {nr c : Nat} {σ : Sg} (h : InvD N ma mb S K now pu Rs nr c σ) : Inv (c + 1) σ := ⟨N, ma, mb, S, K, now, pu, Rs, nr, InvD_mono h (Nat.le_succ c)⟩
/-- a change of W alone leaves all that W does not touch -/
theorem fr_sup {g W : List (Nat × Option Nat)} {σ τ : Sg} (hd : disj g W = true) (f : ∀ o j, fok W o j = true → τ o j = σ o j) : ∀ o j, sup g o j = true → τ o j = σ o j := fun o j s => f o j (sup_fok hd s)
/-! ===== small questions, both sides ===== -/
theorem bck_zo {ρ : Type} (b : Bool) (A : Option ρ) : bck (zo b) A = A := by
  unfold bck
  cases b
  · rw [if_pos (.inl rfl)]
  · rw [if_pos (.inr rfl)]
theorem node11 (n : Nat) (x : Int32) (σ : Sg) : s_X11_isNode n x σ = some (zo (inb 0 x 9), σ) := by
  unfold s_X11_isNode s_X11_isNode_14 inb
  have z0 : (0 : Int32).toInt = 0 := by decide
  have z9 : (9 : Int32).toInt = 9 := by decide
  have z10 : (10 : Int32).toInt = 10 := by decide
  by_cases h1 : x < 0
  · rw [if_pos h1, decide_eq_false (Int32.not_le.mpr h1)]; rfl
  · rw [if_neg h1, decide_eq_true (Int32.not_lt.mp h1)]
    by_cases h2 : (10 : Int32) ≤ x
    · rw [if_pos h2, decide_eq_false (by rw [Int32.le_iff_toInt_le] at h2 ⊢; omega)]; rfl
    · rw [if_neg h2, decide_eq_true (by rw [Int32.le_iff_toInt_le] at h2 ⊢; omega)]; rfl
theorem node12 (n : Nat) (x : Int32) (σ : Sg) : s_X12_isNode n x σ = some (zo (inb 0 x 9), σ) := by
  unfold s_X12_isNode
  have i1 : s_X12_in n x.toInt64 0 9 σ = some (zo (inb 0 x 9), σ) := inb_ok n x 0 9 σ
  rw [i1, bd_so, bck_zo]
theorem hour12 (n : Nat) (x : Int32) (σ : Sg) : s_X12_isHour n x σ = some (zo (inb 0 x 23), σ) := by
  unfold s_X12_isHour
  have i1 : s_X12_in n x.toInt64 0 23 σ = some (zo (inb 0 x 23), σ) := inb_ok n x 0 23 σ
  rw [i1, bd_so, bck_zo]
theorem day12 (n : Nat) (x : Int32) (σ : Sg) : s_X12_isDay n x σ = some (zo (inb 0 x 199), σ) := by
  unfold s_X12_isDay
  have i1 : s_X12_in n x.toInt64 0 199 σ = some (zo (inb 0 x 199), σ) := inb_ok n x 0 199 σ
  rw [i1, bd_so, bck_zo]
/-- is x a number below k -/
def pin (k : Nat) (x : Int32) : Bool := decide (0 ≤ x) && decide (x < nI k)
theorem pin_n {k : Nat} {x : Int32} (hk : k < 2147483648) (h : pin k x = true) : ∃ p, p < k ∧ x = nI p := by
  unfold pin at h
  rw [Bool.and_eq_true, decide_eq_true_eq, decide_eq_true_eq, Int32.le_iff_toInt_le, Int32.lt_iff_toInt_lt, ni_int hk] at h
  have z0 : (0 : Int32).toInt = 0 := by decide
  refine ⟨x.toInt.toNat, by omega, ?_⟩
  apply Int32.toInt_inj.mp
  rw [ni_int (by omega)]
  omega
theorem pin_in {k : Nat} {x : Int32} (hk : k < 2147483648) : inb 0 x (nI k - 1) = pin k x := by
  unfold inb pin
  congr 1
  have e : (nI k - 1).toInt = (k : Int) - 1 := by
    rw [Int32.toInt_sub, ni_int hk, show (1 : Int32).toInt = 1 by decide]
    exact Int.bmod_eq_of_le (by omega) (by omega)
  rw [decide_eq_decide, Int32.le_iff_toInt_le, Int32.lt_iff_toInt_lt, e, ni_int hk]
  omega
theorem has4 {n k : Nat} {x : Int32} {σ : Sg} (h : σ 3 0 = nI k) : s_X4_has n x σ = some (zo (pin k x), σ) := by
  unfold s_X4_has s_X4_has_16 pin
  rw [h]
  by_cases h1 : x < 0
  · rw [if_pos h1, decide_eq_false (Int32.not_le.mpr h1)]; rfl
  · rw [if_neg h1, decide_eq_true (Int32.not_lt.mp h1)]
    by_cases h2 : nI k ≤ x
    · rw [if_pos h2, decide_eq_false (Int32.not_lt.mpr h2)]; rfl
    · rw [if_neg h2, decide_eq_true (Int32.not_le.mp h2)]; rfl
theorem has8 {n k : Nat} {x : Int32} {σ : Sg} (h : σ 11 0 = nI k) : s_X8_has n x σ = some (zo (pin k x), σ) := by
  unfold s_X8_has s_X8_has_16 pin
  rw [h]
  by_cases h1 : x < 0
  · rw [if_pos h1, decide_eq_false (Int32.not_le.mpr h1)]; rfl
  · rw [if_neg h1, decide_eq_true (Int32.not_lt.mp h1)]
    by_cases h2 : nI k ≤ x
    · rw [if_pos h2, decide_eq_false (Int32.not_lt.mpr h2)]; rfl
    · rw [if_neg h2, decide_eq_true (Int32.not_le.mp h2)]; rfl
theorem noP {n k : Nat} {x : Int32} {σ : Sg} (hk : k < 2147483648) (h : σ 71 2 = nI k) : s_X12_noPipe n x σ = some (zo (!pin k x), σ) := by
  unfold s_X12_noPipe
  have i1 : s_X12_in n x.toInt64 0 ((σ 71 2 - 1).toInt64) σ = some (zo (inb 0 x (σ 71 2 - 1)), σ) := inb_ok n x 0 (σ 71 2 - 1) σ
  rw [i1, bd_so, h, pin_in hk]
  cases pin k x <;> rfl
theorem noS {n k : Nat} {x : Int32} {σ : Sg} (hk : k < 2147483648) (h : σ 71 11 = nI k) : s_X12_noStreet n x σ = some (zo (!pin k x), σ) := by
  unfold s_X12_noStreet
  have i1 : s_X12_in n x.toInt64 0 ((σ 71 11 - 1).toInt64) σ = some (zo (inb 0 x (σ 71 11 - 1)), σ) := inb_ok n x 0 (σ 71 11 - 1) σ
  rw [i1, bd_so, h, pin_in hk]
  cases pin k x <;> rfl
/-- no bit from k on -/
def ball (k : Nat) (x : Int32) : Prop := ∀ i, k ≤ i → i < 32 → bt x i = false
theorem ush_ball {k : Nat} {x : Int32} (hk : k < 32) : ush x (nI k) = 0 ↔ ball k x := by
  constructor
  · intro h i h1 h2
    have h3 : bt (ush x (nI k)) (i - k) = false := by rw [h]; exact b_0 _
    unfold ush at h3
    rw [b_ushr k hk, show k + (i - k) = i by omega] at h3
    exact h3
  · intro h
    apply b_ext
    intro i hi
    unfold ush
    rw [b_ushr k hk, b_0]
    by_cases h1 : k + i < 32
    · exact h _ (by omega) h1
    · exact b_big (by omega)
theorem sr_ball {k : Nat} {x : Int32} (hk : k < 32) : sr x (nI k) = 0 ↔ ball k x := by
  constructor
  · intro h
    exact sr_zero x hk h
  · intro h
    apply b_ext
    intro i hi
    unfold sr
    rw [b_sshr k hk x hi, b_0]
    split
    · exact h _ (by omega) (by assumption)
    · exact h 31 (by omega) (by omega)
theorem neg_b31 {x : Int32} (h : x < 0) : bt x 31 = true := by
  unfold bt
  have h1 := Int32.lt_iff_toInt_lt.mp h
  have z0 : (0 : Int32).toInt = 0 := by decide
  rw [z0] at h1
  have h2 : x.toBitVec.toInt < 0 := h1
  have h3 := (BitVec.toInt_neg_iff (x := x.toBitVec)).mp h2
  rw [show x.toBitVec.getLsbD 31 = x.toBitVec.msb from (BitVec.msb_eq_getLsbD_last x.toBitVec).symm]
  exact BitVec.msb_eq_true_iff_two_mul_ge.mpr (by omega)
theorem hasAll4 {n k : Nat} {x : Int32} {σ : Sg} (hk : k < 32) (h : σ 3 0 = nI k) : s_X4_hasAll n x σ = some (if ush x (nI k) = 0 then 1 else 0, σ) := by
  unfold s_X4_hasAll
  rw [h]
  split <;> rfl
theorem hasAll8 {n k : Nat} {x : Int32} {σ : Sg} (hk : k < 32) (h : σ 11 0 = nI k) : s_X8_hasAll n x σ = some (if ush x (nI k) = 0 then 1 else 0, σ) := by
  unfold s_X8_hasAll
  rw [h]
  split <;> rfl
theorem today_ok {n now : Nat} {σ : Sg} (h : now ≤ 4800) (h1 : σ 0 12 = nI now) : s_X11_today n σ = some (nI (dyN now), σ) := by
  unfold s_X11_today dyN
  rw [h1, show (24 : Int32) = nI 24 from rfl, ndiv (by omega) (by omega), show (199 : Int32) = nI 199 from rfl]
  unfold imin
  by_cases h2 : now / 24 ≤ 199
  · rw [if_neg (by rw [nlt (by omega) (by omega)]; omega), if_pos h2]
  · rw [if_pos (by rw [nlt (by omega) (by omega)]; omega), if_neg h2]
theorem dayNow_ok {n now : Nat} {σ : Sg} (h : now ≤ 4800) (h1 : σ 71 0 = nI now) : s_X12_dayNow n σ = some (nI (dyN now), σ) := by
  unfold s_X12_dayNow dyN
  rw [h1, show (24 : Int32) = nI 24 from rfl, ndiv (by omega) (by omega)]
  by_cases h2 : now = 4800
  · rw [if_pos (by rw [h2]; rfl), if_neg (by omega)]
    rfl
  · rw [if_neg (by rw [show (4800 : Int32) = nI 4800 from rfl, neq (by omega) (by omega)]; exact h2), if_pos (by omega)]
theorem dyN_lt {now : Nat} : dyN now < 200 := by
  unfold dyN
  split <;> omega
/-- the class looks its rules up -/
theorem inv_hold {n d : Nat} {N : Net} {ma mb : Nat → Nat} {S : Str} {K : Knd} {now : Nat} {pu : Nat → Int32} {Rs : Nat → Rl} {nr c : Nat} {σ : Sg} (hn : 20 ≤ n) (hd : d < 200) (h : InvD N ma mb S K now pu Rs nr c σ) : ∃ τ, s_X6_hold n (nI d) 38 σ = some τ ∧ cHd (holds Rs nr d) 38 τ ∧ InvD N ma mb S K now pu Rs nr c τ ∧ ∀ o j, o ≠ 38 → τ o j = σ o j := by
  obtain ⟨h1, h2, h3, h4, h5, h6, h7, h8, h9, h10, h11⟩ := h
  obtain ⟨τ, t1, t2, t3, t4⟩ := hold_ok2 (n := n) (lc := 38) hn (.inl rfl) hd h6.1 h7.1.1
  have f : ∀ o j, o ≠ 38 → τ o j = σ o j := fun o j ho => fr_s_X6_hold rfl _ _ _ ho t1
  have f' : ∀ o j, fok [(38, none)] o j = true → τ o j = σ o j := fun o j ho => f o j (fok_a ho (by decide))
  refine ⟨τ, t1, t2, ⟨iN_of h1 (fr_sup rfl f'), iS_of h2 (fr_sup rfl f'), iT_of h3 (fr_sup rfl f'), iP_of h4 (fr_sup rfl f'), iX_of h5 (fr_sup rfl f'), iR_of h6 (fr_sup rfl f'), ⟨⟨t3, nr, Nat.le_refl _, t4⟩, cCa_of h7.2.1 (fun j => f 62 j (by decide)), by rw [f 62 1 (by decide)]; exact h7.2.2⟩, iG_of h8 (fr_sup rfl f'), iV_of h9 (fr_sup rfl f'), iB_of h10 (fr_sup rfl f'), iO_of h11 (fr_sup rfl f')⟩, f⟩
/-- the reference looks its rules up -/
theorem inv_rules {n d : Nat} {N : Net} {ma mb : Nat → Nat} {S : Str} {K : Knd} {now : Nat} {pu : Nat → Int32} {Rs : Nat → Rl} {nr c : Nat} {σ : Sg} (hn : 20 ≤ n) (hd : d < 200) (h : InvD N ma mb S K now pu Rs nr c σ) : ∃ τ, s_X12_findRules n (nI d) σ = some τ ∧ mHd (holds Rs nr d) τ ∧ InvD N ma mb S K now pu Rs nr c τ ∧ ∀ o j, fok W_X12_findRules o j = true → τ o j = σ o j := by
  obtain ⟨cn, cl, h6⟩ := h.2.2.2.2.2.1.2.1
  obtain ⟨τ, t1, t2⟩ := findRules_ok (n := n) (d := d) hn hd h6
  have f : ∀ o j, fok W_X12_findRules o j = true → τ o j = σ o j := fun o j ho => fr_s_X12_findRules ho _ _ t1
  exact ⟨τ, t1, t2, InvD_of h (fr_sup rfl f), f⟩
