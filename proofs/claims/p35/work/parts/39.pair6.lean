theorem i00 : ((0 : Int32) = 0) = True := eq_true rfl
theorem i01 : ((0 : Int32) = 1) = False := eq_false (by decide)
theorem i02 : ((0 : Int32) = 2) = False := eq_false (by decide)
theorem mo0 (a b : Int32) : f_X2_misfitOf 0 a b = if a < 1 then -4 else if 255 < a then -6 else 0 := by
  unfold f_X2_misfitOf
  simp only [lt, i00, i01, i02, if_true, if_false]
theorem mo1 (a b : Int32) : f_X2_misfitOf 1 a b = if a < 1 then -4 else if b < 1 then -4 else if 255 < a then -6 else if 255 < b then -6 else if (a &&& b) = 0 then 0 else -3 := by
  unfold f_X2_misfitOf lt
  rw [show (if (1 : Int32) = 0 then (0 : Int32) else 1) = 1 from if_neg (by decide), show (if (1 : Int32) = 2 then (3 : Int32) else 255) = 255 from if_neg (by decide)]
  dsimp only
  repeat rw [if_neg (show ¬ (1 : Int32) = 0 by decide)]
  repeat rw [if_pos (show (1 : Int32) = 1 from rfl)]
theorem mo2 (a b : Int32) : f_X2_misfitOf 2 a b = if a < 1 then -4 else if b < 1 then -4 else if 255 < a then -6 else if 3 < b then -6 else 0 := by
  unfold f_X2_misfitOf lt
  rw [show (if (2 : Int32) = 0 then (0 : Int32) else 1) = 1 from if_neg (by decide), show (if (2 : Int32) = 2 then (3 : Int32) else 255) = 3 from if_pos rfl]
  dsimp only
  repeat rw [if_neg (show ¬ (2 : Int32) = 0 by decide)]
  repeat rw [if_neg (show ¬ (2 : Int32) = 1 by decide)]
  repeat rw [if_pos (show (2 : Int32) = 2 from rfl)]
  repeat rw [if_neg (show ¬ (1 : Int32) = 0 by decide)]
theorem mon {k : Int32} (a b : Int32) (h0 : k ≠ 0) (h1 : k ≠ 1) (h2 : k ≠ 2) : f_X2_misfitOf k a b = -2 := by
  unfold f_X2_misfitOf
  simp only [lt, eq_false h0, eq_false h1, eq_false h2, if_false]
theorem nz0 : nI 0 = (0 : Int32) := rfl
theorem nz1 : nI 1 = (1 : Int32) := rfl
theorem nz2 : nI 2 = (2 : Int32) := rfl
theorem mq_cases (k a b : Int32) : (∃ j, isRef (f_X2_misfitOf k a b) j) ∨ (qv k b ∧ f_X2_misfitOf k a b = 0) := by
  rcases isW_cases k (n := 3) (by decide) with ⟨j, hj, rfl, e⟩ | ⟨ne, e⟩
  · have : j = 0 ∨ j = 1 ∨ j = 2 := by omega
    rcases this with rfl | rfl | rfl
    · rw [nz0, mo0]
      by_cases h1 : a < 1
      · rw [if_pos h1]; exact Or.inl ⟨_, r4⟩
      · rw [if_neg h1]
        by_cases h2 : 255 < a
        · rw [if_pos h2]; exact Or.inl ⟨_, r6⟩
        · rw [if_neg h2]; exact Or.inr ⟨Or.inl rfl, rfl⟩
    · rw [nz1, mo1]
      by_cases h1 : a < 1
      · rw [if_pos h1]; exact Or.inl ⟨_, r4⟩
      · rw [if_neg h1]
        by_cases h3 : b < 1
        · rw [if_pos h3]; exact Or.inl ⟨_, r4⟩
        · rw [if_neg h3]
          by_cases h2 : 255 < a
          · rw [if_pos h2]; exact Or.inl ⟨_, r6⟩
          · rw [if_neg h2]
            by_cases h4 : 255 < b
            · rw [if_pos h4]; exact Or.inl ⟨_, r6⟩
            · rw [if_neg h4]
              by_cases h5 : (a &&& b) = 0
              · rw [if_pos h5]; exact Or.inr ⟨Or.inr (Or.inl rfl), rfl⟩
              · rw [if_neg h5]; exact Or.inl ⟨_, r3⟩
    · rw [nz2, mo2]
      by_cases h1 : a < 1
      · rw [if_pos h1]; exact Or.inl ⟨_, r4⟩
      · rw [if_neg h1]
        by_cases h3 : b < 1
        · rw [if_pos h3]; exact Or.inl ⟨_, r4⟩
        · rw [if_neg h3]
          by_cases h2 : 255 < a
          · rw [if_pos h2]; exact Or.inl ⟨_, r6⟩
          · rw [if_neg h2]
            by_cases h4 : 3 < b
            · rw [if_pos h4]; exact Or.inl ⟨_, r6⟩
            · rw [if_neg h4]
              refine Or.inr ⟨Or.inr (Or.inr ⟨rfl, ?_⟩), rfl⟩
              have h0 : ¬ b < 0 := fun q => h3 (by
                rw [Int32.lt_iff_toInt_lt] at q ⊢
                have e0 : (0 : Int32).toInt = 0 := rfl
                have e1 : (1 : Int32).toInt = 1 := rfl
                omega)
              obtain ⟨n, hn, rfl⟩ := nI_of h0
              refine ⟨n, ?_, ?_, rfl⟩
              · by_cases q : 0 < n
                · exact q
                · exact absurd (nI_lt (b := 1) (show n < 1 by omega) (by decide)) h3
              · by_cases q : n < 4
                · exact q
                · exact absurd (nI_lt (a := 3) (show 3 < n by omega) hn) h4
  · left
    rw [mon a b (ne 0 (by decide)) (ne 1 (by decide)) (ne 2 (by decide))]
    exact ⟨_, r2⟩
theorem tans_join {w : Wd} {q : Nat} {a wt : Nat → Int} {t : Int} : tans (wjoin w q a t) wt = tans w wt :=
  sm_cong 8 fun p _ => by
    show wt p * (if 0 = 3 ∧ own w p = (gh w).length then t else dat w 0 (own w p)) = _
    rw [if_neg (by omega)]
