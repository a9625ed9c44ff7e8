abbrev cls : Nat → Prop := fun o => o < 140
theorem refuse_eq {S : Sg} {j : Nat} (hj : j < 6) : f_X6_refuse (I (-(j + 1 : Nat))) S = some (I (-(j + 1 : Nat)), setI S 139 j (S.1 139 j + 1)) := by
  have : ∀ j, j < 6 → ((-1 : Int32) - I (-(j + 1 : Nat))) = nI j := by decide +kernel
  have h6 := isW_lit (q := j) (n := 6) hj (by decide)
  unfold f_X6_refuse
  refine wp_to (wp_ltq (nI j) (this j hj) (wp_ifn (by rw [show f_X6_isWithin (nI j) (6 : Int32) = 1 from h6]; decide) (wp_gd (inb_n hj (by decide)) (wp_lt (wp_some ?_)))))
  rw [ix_n (by omega)]
