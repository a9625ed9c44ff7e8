theorem has_w {o : Nat} {S : Sg} {w : Wd} (hw : CW o S w) (hv : num w 0 ≤ 10) (p : Int32) : f_X5_has o p S = f_X6_isWithin p (nI (num w 0)) := by
  rcases has_cases hw hv p with ⟨j, hj, rfl, e⟩ | ⟨ne, e⟩
  · rw [e, isW_lit hj (by omega)]
  · rcases isW_cases p (n := num w 0) (by omega) with ⟨j, hj, rfl, _⟩ | ⟨_, e2⟩
    · exact absurd rfl (ne j hj)
    · rw [e, e2]
theorem mis_cases (p : Int32) (b : Nat) (hb : b < 1000) : (f_X6_misfit p 0 (nI b) = -4 ∧ p < 0) ∨ (f_X6_misfit p 0 (nI b) = -6 ∧ ¬ p < 0 ∧ nI b < p) ∨ (f_X6_misfit p 0 (nI b) = 0 ∧ ∃ x : Nat, x ≤ b ∧ p = nI x) := by
  show ((if p < 0 then (-4 : Int32) else if nI b < p then -6 else 0) = -4 ∧ _) ∨ ((if p < 0 then (-4 : Int32) else if nI b < p then -6 else 0) = -6 ∧ _) ∨ ((if p < 0 then (-4 : Int32) else if nI b < p then -6 else 0) = 0 ∧ _)
  by_cases h : p < 0
  · exact Or.inl ⟨if_pos h, h⟩
  · refine Or.inr ?_
    obtain ⟨j, hj, rfl⟩ := nI_of h
    by_cases h2 : nI b < nI j
    · exact Or.inl ⟨by rw [if_neg h, if_pos h2], h, h2⟩
    · refine Or.inr ⟨by rw [if_neg h, if_neg h2], j, ?_, rfl⟩
      by_cases e : j ≤ b
      · exact e
      · exact absurd (nI_lt (by omega) hj) h2
