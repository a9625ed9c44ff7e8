abbrev rmI (i p : Nat) : Nat → Nat → Prop := fun o k => (o = 158 ∧ i ≤ k ∧ k < i + p) ∨ (o = 140 ∧ (k = 29 ∨ k = 31))
theorem s_readsMany {S : Sg} {L : Nat × (Nat → Nat)} {c d p i : Nat} (h : LM S L c) (hL : L.1 ≤ 96 ∧ ∀ k, k < L.1 → L.2 k ≤ 255) (hc : c ≤ L.1) (hp : p ≤ 9) (hs : sst L.2 c = some (d + p, true)) (hi : S.1 140 31 = nI i) (hi2 : i + p ≤ 297) : wp (f_X7_readsMany (nI p) S) (fun z => (z.1 = 1 ∧ sst L.2 (c + p) = some (d, true) ∧ c + p ≤ L.1 ∧ LM z.2 L (c + p) ∧ (∀ k, k < p → z.2.1 158 (i + k) = nI (vl L.2 (c + k) 1)) ∧ Fm (rmI i p) noJ S z.2) ∨ (z.1 = 0 ∧ ∃ k, z.2.1 140 29 = nI k ∧ (k ≤ 96 ∧ isMis L (nI k)) ∧ Fm (rmI i p) noJ S z.2)) := by
  have hn := hL.1
  unfold f_X7_readsMany
  refine wp_bsm (up (F := fun n k (T : Sg) => L_X7_readsMany_2 (nI p) n (nI k) T) p (fun k T => c + k ≤ L.1 ∧ LM T L (c + k) ∧ sst L.2 (c + k) = some (d + (p - k), true) ∧ T.1 140 31 = nI (i + k) ∧ (∀ j, j < k → T.1 158 (i + j) = nI (vl L.2 (c + j) 1)) ∧ Fm (rmI i p) noJ S T) (fun y => (∃ T, y = .inl (0, T) ∧ ∃ k, T.1 140 29 = nI k ∧ (k ≤ 96 ∧ isMis L (nI k)) ∧ Fm (rmI i p) noJ S T) ∨ ∃ T, y = .inr T ∧ sst L.2 (c + p) = some (d, true) ∧ c + p ≤ L.1 ∧ LM T L (c + p) ∧ (∀ k, k < p → T.1 158 (i + k) = nI (vl L.2 (c + k) 1)) ∧ Fm (rmI i p) noJ S T) ?_ ?_ 400 0 S (by omega) (by omega) ⟨hc, h, hs, hi, fun j hj => by omega, Fm.rf⟩) ?_ ?_
  · rintro n k T hk ⟨h1, h2, h3, h4, h5, f⟩ ih
    rw [L_X7_readsMany_2]
    have h3' : sst L.2 (c + k) = some ((d + (p - (k + 1))) + 1, true) := by rw [h3, show d + (p - k) = d + (p - (k + 1)) + 1 by omega]
    refine wp_ifp (nI_lt hk (by omega)) (wp_bdm (s_readsDigits (p := 1) h2 hL h1 (by omega) h3' h4 (by omega)) ?_)
    rintro ⟨r, T2⟩ (⟨e, g1, g2, g3, g4, g5, g6⟩ | ⟨e, j, g1, g2, g3⟩)
    · have e' : r = 1 := e
      subst e'
      have F : Fm (rmI i p) noJ T T2 := g6.mono (fun o j z => by
        rcases z with ⟨a, b⟩ | ⟨a, b⟩
        · exact Or.inl ⟨a, by omega, by omega⟩
        · exact Or.inr ⟨a, b⟩) fun _ _ q => q
      refine wp_u2 (wp_ifn (by decide) (wp_lt ?_))
      rw [nIs]
      refine ih T2 ⟨g2, g3, g1, g5, fun j hj => ?_, f.tr F⟩
      by_cases q : j = k
      · rw [q]; exact g4
      · rw [g6.1 158 (i + j) (by rintro (⟨_, z⟩ | ⟨z, _⟩) <;> omega)]
        exact h5 j (by omega)
    · have e' : r = 0 := e
      subst e'
      have F : Fm (rmI i p) noJ T T2 := g3.mono (fun o j z => by
        rcases z with ⟨a, b⟩ | ⟨a, b⟩
        · exact Or.inl ⟨a, by omega, by omega⟩
        · exact Or.inr ⟨a, b⟩) fun _ _ q => q
      exact wp_u2 (wp_ifp rfl (wp_some (Or.inl ⟨T2, rfl, j, g1, g2, f.tr F⟩)))
  · rintro n T ⟨h1, h2, h3, h4, h5, f⟩
    rw [L_X7_readsMany_2]
    rw [Nat.sub_self] at h3
    exact wp_ifn (nI_nlt (Nat.le_refl _) (by omega)) (wp_some (Or.inr ⟨T, rfl, h3, h1, h2, h5, f⟩))
  · rintro ⟨r, T⟩ hz
    rcases hz with ⟨T2, e, a⟩ | ⟨T2, e, _⟩
    · cases e; exact wp_some (Or.inr ⟨rfl, a⟩)
    · cases e
  · rintro T hz
    rcases hz with ⟨T2, e, _⟩ | ⟨T2, e, a⟩
    · cases e
    · cases e; exact wp_some (Or.inl ⟨rfl, a⟩)
