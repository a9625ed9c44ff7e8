/-- how many numbers a statement has -/
def cnt (x : Nat) : Nat := if x = 98 then 3 else if x = 99 ∨ x = 118 then 2 else if x = 108 then 1 else dgb x
def Rd (L : Nat × (Nat → Nat)) (S : Sg) (a i m : Nat) (z : Int32 × Sg) : Prop := (z.1 = 1 ∧ sst L.2 (a + 1 + dgb (L.2 a)) = some (0, true) ∧ a + 1 + dgb (L.2 a) ≤ L.1 ∧ LM z.2 L (a + 1 + dgb (L.2 a)) ∧ (∀ k, k < m → z.2.1 158 (i + k) = nI (nums L.2 a k)) ∧ Fm (rmI i 9) noJ S z.2) ∨ (z.1 = 0 ∧ ∃ k, z.2.1 140 29 = nI k ∧ (k ≤ 96 ∧ isMis L (nI k)) ∧ Fm (rmI i 9) noJ S z.2)
theorem rd_rm {i j q : Nat} (h : i ≤ j) (h2 : j < i + 9) : ∀ o k, rdI j o k → rmI i 9 o k := fun o k z => by
  rcases z with ⟨a, b⟩ | ⟨a, b⟩
  · exact Or.inl ⟨a, by omega, by omega⟩
  · exact Or.inr ⟨a, b⟩
theorem rm_rm {i p : Nat} (h : p ≤ 9) : ∀ o k, rmI i p o k → rmI i 9 o k := fun o k z => by
  rcases z with ⟨a, b, c⟩ | ⟨a, b⟩
  · exact Or.inl ⟨a, b, by omega⟩
  · exact Or.inr ⟨a, b⟩
/-- one number more -/
theorem rd_one {S T : Sg} {L : Nat × (Nat → Nat)} {c d p j i : Nat} {Q : Int32 × Sg → Prop} (h : LM T L c) (hL : L.1 ≤ 96 ∧ ∀ k, k < L.1 → L.2 k ≤ 255) (hc : c ≤ L.1) (hp : p ≤ 2) (hs : sst L.2 c = some (d + p, true)) (hi : T.1 140 31 = nI j) (hj : i ≤ j ∧ j < i + 9) (hi2 : i + 9 ≤ 297) (f : Fm (rmI i 9) noJ S T)
    (h1 : ∀ U, sst L.2 (c + p) = some (d, true) → c + p ≤ L.1 → LM U L (c + p) → U.1 158 j = nI (vl L.2 c p) → U.1 140 31 = nI (j + 1) → (∀ k, k ≠ j → U.1 158 k = T.1 158 k) → Fm (rmI i 9) noJ S U → Q (1, U)) (h0 : ∀ U k, U.1 140 29 = nI k → (k ≤ 96 ∧ isMis L (nI k)) → Fm (rmI i 9) noJ S U → Q (0, U)) : wp (f_X7_readsDigits (nI p) T) Q := by
  refine wp_mono (s_readsDigits h hL hc hp hs hi (by omega)) ?_
  rintro ⟨r, U⟩ (⟨e, g1, g2, g3, g4, g5, g6⟩ | ⟨e, k, g1, g2, g3⟩)
  · have e' : r = 1 := e
    subst e'
    exact h1 U g1 g2 g3 g4 g5 (fun k hk => g6.1 158 k (by rintro (⟨_, z⟩ | ⟨z, _⟩) <;> omega)) (f.tr (g6.mono (rd_rm (q := 0) hj.1 hj.2) fun _ _ q => q))
  · have e' : r = 0 := e
    subst e'
    exact h0 U k g1 g2 (f.tr (g3.mono (rd_rm (q := 0) hj.1 hj.2) fun _ _ q => q))
