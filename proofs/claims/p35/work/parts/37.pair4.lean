theorem byte_cases (p : Int32) (n : Int32) : (∃ j, isRef (f_X6_misfit p 0 (255 : Int32)) j) ∨ ∃ x : Nat, x ≤ 255 ∧ p = nI x ∧ f_X6_misfit p 0 (255 : Int32) = 0 := by
  rcases mis_cases p 255 (by decide) with ⟨e, _⟩ | ⟨e, _⟩ | ⟨e, x, hx, rfl⟩
  · left; rw [show f_X6_misfit p 0 (255 : Int32) = -4 from e]; exact ⟨_, r4⟩
  · left; rw [show f_X6_misfit p 0 (255 : Int32) = -6 from e]; exact ⟨_, r6⟩
  · right; exact ⟨x, hx, rfl, e⟩
