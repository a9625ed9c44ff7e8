/-- the letters that begin a statement -/
theorem stp_begin {x : Nat} : stp x (0, false) = if dgb x = 0 then none else some (dgb x, true) := by
  unfold stp
  rw [if_pos rfl]
theorem stp_end {x : Nat} : stp x (0, true) = if x = 59 then some (0, false) else none := by
  unfold stp
  rw [if_neg (show ¬ true = false by decide), if_neg (by omega)]
/-- where the j-th statement begins -/
def pos (l : Nat → Nat) : Nat → Nat
  | 0 => 0
  | j + 1 => pos l j + dgb (l (pos l j)) + 2
/-- the numbers of a statement that begins at a -/
def nums (l : Nat → Nat) (a k : Nat) : Nat :=
  if l a = 98 then vl l (a + 1 + 2 * k) 2 else if l a = 99 ∨ l a = 118 then (if k = 0 then vl l (a + 1) 1 else vl l (a + 2) 2) else if l a = 108 then vl l (a + 1) 2 else vl l (a + 1 + k) 1
theorem dgb_known {x : Nat} (h : dgb x ≠ 0) : x = 98 ∨ x = 99 ∨ x = 100 ∨ x = 108 ∨ x = 114 ∨ x = 115 ∨ x = 118 ∨ x = 119 := by
  unfold dgb at h
  by_cases h1 : x = 98
  · exact Or.inl h1
  · by_cases h2 : x = 99
    · exact Or.inr (Or.inl h2)
    · by_cases h3 : x = 100
      · exact Or.inr (Or.inr (Or.inl h3))
      · by_cases h4 : x = 108
        · exact Or.inr (Or.inr (Or.inr (Or.inl h4)))
        · by_cases h5 : x = 114
          · exact Or.inr (Or.inr (Or.inr (Or.inr (Or.inl h5))))
          · by_cases h6 : x = 115
            · exact Or.inr (Or.inr (Or.inr (Or.inr (Or.inr (Or.inl h6)))))
            · by_cases h7 : x = 118
              · exact Or.inr (Or.inr (Or.inr (Or.inr (Or.inr (Or.inr (Or.inl h7))))))
              · by_cases h8 : x = 119
                · exact Or.inr (Or.inr (Or.inr (Or.inr (Or.inr (Or.inr (Or.inr h8))))))
                · rw [if_neg h1, if_neg h2, if_neg h3, if_neg h4, if_neg h5, if_neg h6, if_neg h7, if_neg h8] at h
                  exact absurd rfl h
