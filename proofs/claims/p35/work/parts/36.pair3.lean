theorem val_cases (p : Int32) : p < 0 ∨ (¬ p < 0 ∧ (99 : Int32) < p) ∨ ∃ x : Nat, x ≤ 99 ∧ p = nI x := by
  rcases mis_cases p 99 (by decide) with ⟨_, e⟩ | ⟨_, e, e2⟩ | ⟨_, x, hx, e⟩
  · exact Or.inl e
  · exact Or.inr (Or.inl ⟨e, e2⟩)
  · exact Or.inr (Or.inr ⟨x, hx, e⟩)
theorem nn (x : Nat) (hx : x ≤ 99) : ¬ nI x < (0 : Int32) := nI_nlt (b := 0) (by omega) (by omega)
theorem n99 (x : Nat) (hx : x ≤ 99) : ¬ (99 : Int32) < nI x := nI_nlt (a := 99) (b := x) hx (by omega)
