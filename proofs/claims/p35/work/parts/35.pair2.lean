def isRef (v : Int32) (j : Nat) : Prop := j < 6 ∧ v = I (-(j + 1 : Nat))
theorem isRef.ne {v : Int32} {j : Nat} (h : isRef v j) : v ≠ 0 := by
  obtain ⟨h, rfl⟩ := h
  intro e
  have := (I_eq (a := -(j + 1 : Nat)) (b := 0) (by omega) (by omega)).mp e
  omega
theorem r1 : isRef (-1) 0 := ⟨by decide, by decide⟩
theorem r2 : isRef (-2) 1 := ⟨by decide, by decide⟩
theorem r3 : isRef (-3) 2 := ⟨by decide, by decide⟩
theorem r4 : isRef (-4) 3 := ⟨by decide, by decide⟩
theorem r5 : isRef (-5) 4 := ⟨by decide, by decide⟩
theorem r6 : isRef (-6) 5 := ⟨by decide, by decide⟩
theorem vm_cases (p q : Int32) : (∃ j, isRef (f_X6_misfitOfValue p q) j) ∨ (∃ j x : Nat, j < 8 ∧ x ≤ 99 ∧ p = nI j ∧ q = nI x ∧ f_X6_misfitOfValue p q = 0) := by
  unfold f_X6_misfitOfValue
  rcases isW_cases p (n := 8) (by decide) with ⟨j, hj, rfl, e⟩ | ⟨_, e⟩
  · rw [show f_X6_isWithin (nI j) (8 : Int32) = 1 from e, if_neg (by decide)]
    rcases mis_cases q 99 (by decide) with ⟨e, _⟩ | ⟨e, _⟩ | ⟨e, x, hx, rfl⟩
    · left; rw [show f_X6_misfit q 0 (99 : Int32) = -4 from e]; exact ⟨_, r4⟩
    · left; rw [show f_X6_misfit q 0 (99 : Int32) = -6 from e]; exact ⟨_, r6⟩
    · right; exact ⟨j, x, hj, hx, rfl, rfl, e⟩
  · left; rw [show f_X6_isWithin p (8 : Int32) = 0 from e, if_pos rfl]; exact ⟨_, r1⟩
theorem fw {S S' : Sg} {A : Nat → Prop} (f : Fr A S S') (h : ∀ o, A o → 1 ≤ o ∧ o < 87 ∨ (116 ≤ o ∧ o < 135)) : Fr (fun o => 1 ≤ o ∧ o < 87 ∨ (116 ≤ o ∧ o < 135)) S S' := f.mono h
theorem iw1 : ∀ o, inWd 1 o → 1 ≤ o ∧ o < 87 ∨ (116 ≤ o ∧ o < 135) := fun o h => by have : 1 ≤ o ∧ o < 1 + 29 := h; omega
theorem ia1 : ∀ o, inAll 1 o → 1 ≤ o ∧ o < 87 ∨ (116 ≤ o ∧ o < 135) := fun o h => by have : 1 ≤ o ∧ o < 1 + 43 := h; omega
theorem cl : ∀ o, (1 ≤ o ∧ o < 87 ∨ (116 ≤ o ∧ o < 135)) → cls o := fun o h => by show o < 140; omega
