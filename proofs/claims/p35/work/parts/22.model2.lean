/-- all but one row of a long array stays -/
def Fo (a f : Nat) (S S' : Sg) : Prop := S'.1 = S.1 ∧ (∀ o, o ≠ a → S'.2 o = S.2 o) ∧ ∀ j, j < f ∨ f + 10 ≤ j → S'.2 a j = S.2 a j
theorem Fo.rf {a f : Nat} {S : Sg} : Fo a f S S := ⟨rfl, fun _ _ => rfl, fun _ _ => rfl⟩
theorem Fo.tr {a f : Nat} {S S' S'' : Sg} (h : Fo a f S S') (h' : Fo a f S' S'') : Fo a f S S'' := ⟨h'.1.trans h.1, fun o ho => (h'.2.1 o ho).trans (h.2.1 o ho), fun j hj => (h'.2.2 j hj).trans (h.2.2 j hj)⟩
