/-! ===== explain: the whole call ===== -/
theorem explain_ok {n np ng : Nat} {M x1 : Int32} {w G V : Nat → Int32} {σ : Sg} (hn : 300000 ≤ n) (hM : mok M) (hnp : np ≤ 20) (hM2 : ∀ i, np ≤ i → i < 32 → bt M i = false) (hng : ng ≤ 6) (hc : eC M w ng G V σ) (hm : eM M w np ng G V σ) : ∃ r σ1, s_X11_explain n x1 σ = some (r, σ1) ∧ s_X12_explain n x1 σ1 = some (r, σ1) ∧ ∀ o j, (o ≠ 67 ∧ ¬ (o = 63 ∧ (j = 2 ∨ j = 3 ∨ j = 8))) → σ1 o j = σ o j := by
  have i1 : ∀ σ, s_X12_in n x1.toInt64 0 1 σ = some (zo (inb 0 x1 1), σ) := fun σ => inb_ok n x1 0 1 σ
  unfold s_X11_explain s_X12_explain
  simp only [out_ok, i1, bd_so]
  cases e1 : inb 0 x1 1
  · exact ⟨_, _, rfl, rfl, fun _ _ _ => rfl⟩
  · rw [if_pos (show zo (!true) = 0 from rfl), hc.2.1]
    by_cases h0 : nI ng = 0
    · rw [if_pos h0]
      refine ⟨_, σ, rfl, ?_, fun _ _ _ => rfl⟩
      rw [if_neg (show ¬ zo true = 0 by decide), hm.2.1, if_pos h0]
    · rw [if_neg h0]
      obtain ⟨τ, t1, t2, t3, t4'⟩ := search_ok (n := n) hn hM hng hc
      have hmτ : eM M w np ng G V τ := by
        refine ⟨?_, ?_, ?_, ?_, ?_⟩
        · rw [t4' 71 2 (by decide)]; exact hm.1
        · rw [t4' 71 66 (by decide)]; exact hm.2.1
        · intro g hg; rw [t4' 115 g (by simp), t4' 116 g (by simp)]; exact hm.2.2.1 g hg
        · intro i hi hb; rw [t4' 80 i (by simp)]; exact hm.2.2.2.1 i hi hb
        · intro i hi; rw [t4' 80 i (by simp)]; exact hm.2.2.2.2 i hi
      have hx := mexplain_ok (n := n) (x1 := x1) hn hM hnp hM2 hmτ hng
      rw [t1, bdv_so]
      refine ⟨if x1 = 0 then (bs M w ng G V (2 ^ (pcn M 20))).1 else nI (bs M w ng G V (2 ^ (pcn M 20))).2.2, τ, ?_, ?_, t4'⟩
      · rw [t2, t3]
        split <;> rfl
      · rw [if_neg (show ¬ zo true = 0 by decide), hmτ.2.1, if_neg h0]
        exact hx
