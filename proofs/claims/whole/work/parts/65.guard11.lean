theorem sst_up {l : Nat → Nat} {a b : Nat} (hab : a ≤ b) (ha : sst l a = none) : sst l b = none := by
  induction b with
  | zero => rw [show (0 : Nat) = a by omega]; exact ha
  | succ b ih =>
    by_cases e : a = b + 1
    · rw [← e]; exact ha
    · show (sst l b).bind _ = none
      rw [ih (by omega)]; rfl
/-- the digits of a statement are digits -/
theorem dg_ok {l : Nat → Nat} {a : Nat} (h : sst l a = some (0, false)) (hd : dgb (l a) ≠ 0) (hs : sst l (a + dgb (l a) + 2) = some (0, false)) : ∀ k, k < dgb (l a) → 48 ≤ l (a + 1 + k) ∧ l (a + 1 + k) ≤ 57 := by
  have go : ∀ k, k ≤ dgb (l a) → sst l (a + 1 + k) = some (dgb (l a) - k, true) ∧ ∀ j, j < k → 48 ≤ l (a + 1 + j) ∧ l (a + 1 + j) ≤ 57 := by
    intro k
    induction k with
    | zero =>
      intro _
      refine ⟨?_, fun j hj => by omega⟩
      show (sst l a).bind _ = _
      rw [h]
      show stp (l a) (0, false) = _
      rw [stp_begin, if_neg hd]; rfl
    | succ k ih =>
      intro hk
      obtain ⟨e1, e2⟩ := ih (by omega)
      obtain ⟨e, he⟩ : ∃ e, dgb (l a) - k = e + 1 := ⟨dgb (l a) - k - 1, by omega⟩
      have hs1 : sst l (a + 1 + (k + 1)) = stp (l (a + 1 + k)) (e + 1, true) := by
        show (sst l (a + 1 + k)).bind _ = _
        rw [e1, he]; rfl
      rw [stp_digit] at hs1
      have nn : sst l (a + 1 + (k + 1)) ≠ none := fun z => by
        rw [sst_up (b := a + dgb (l a) + 2) (by omega) z] at hs; cases hs
      have h1 : 48 ≤ l (a + 1 + k) := by
        by_cases z : l (a + 1 + k) < 48
        · rw [if_pos z] at hs1; exact absurd hs1 nn
        · omega
      have h2 : l (a + 1 + k) ≤ 57 := by
        by_cases z : 57 < l (a + 1 + k)
        · rw [if_neg (by omega), if_pos z] at hs1; exact absurd hs1 nn
        · omega
      rw [if_neg (by omega), if_neg (by omega)] at hs1
      refine ⟨by rw [hs1, show dgb (l a) - (k + 1) = e by omega], fun j hj => ?_⟩
      by_cases q : j = k
      · rw [q]; exact ⟨h1, h2⟩
      · exact e2 j (by omega)
  exact fun k hk => (go (k + 1) (by omega)).2 k (by omega)
theorem vl_1 {l : Nat → Nat} {c : Nat} : vl l c 1 = l c - 48 := by
  show 10 * 0 + (l (c + 0) - 48) = _
  rw [Nat.add_zero]; omega
theorem vl_2 {l : Nat → Nat} {c : Nat} : vl l c 2 = 10 * (l c - 48) + (l (c + 1) - 48) := by
  show 10 * vl l c 1 + (l (c + 1) - 48) = _
  rw [vl_1]
/-- the letters the class holds -/
def LC (S : Sg) (L : Nat × (Nat → Nat)) : Prop := S.1 135 0 = nI L.1 ∧ ∀ k, k < L.1 → S.1 136 k = nI (L.2 k)
theorem s_digit {S : Sg} {L : Nat × (Nat → Nat)} {v : Nat} (h : LC S L) (hT : L.1 ≤ 96) (hv : v < L.1) (hd : 48 ≤ L.2 v) : f_X3_digit 135 96 (nI v) S = some (nI (L.2 v - 48)) := by
  unfold f_X3_digit
  rw [s_atL h hT hv]
  show some (nI (L.2 v) - (48 : Int32)) = _
  rw [show L.2 v = (L.2 v - 48) + 48 by omega, ← nI_add _ 48]
  rw [show (L.2 v - 48 + 48 - 48) = L.2 v - 48 by omega]
  exact congrArg some (Int32.add_sub_cancel _ _)
theorem s_pair {S : Sg} {L : Nat × (Nat → Nat)} {v : Nat} (h : LC S L) (hT : L.1 ≤ 96) (hv : v + 1 < L.1) (hd : 48 ≤ L.2 v) (hd2 : 48 ≤ L.2 (v + 1)) : f_X3_pair 135 96 (nI v) S = some (nI (vl L.2 v 2)) := by
  unfold f_X3_pair
  rw [s_digit h hT (by omega) hd, nIs, s_digit h hT hv hd2]
  show some (((10 : Int32) * nI (L.2 v - 48)) + nI (L.2 (v + 1) - 48)) = _
  rw [ten, nI_mul, nI_add, vl_2]
theorem LC.fr {S S' : Sg} {L : Nat × (Nat → Nat)} {A : Nat → Prop} (h : LC S L) (f : Fr A S S') (h1 : ¬ A 135) (h2 : ¬ A 136) : LC S' L := ⟨(f.I h1 0).trans h.1, fun k hk => (f.I h2 k).trans (h.2 k hk)⟩
/-- bits laid together -/
def ob (f : Nat → Bool) : Nat → Int32
  | 0 => 0
  | n + 1 => ob f n ||| (if f n = true then isl (1 : Int32) (nI n) else 0)
theorem ob_c {f g : Nat → Bool} {n : Nat} (h : ∀ k, k < n → f k = g k) : ob f n = ob g n := by
  induction n with
  | zero => rfl
  | succ n ih =>
    show ob f n ||| (if f n = true then _ else 0) = ob g n ||| (if g n = true then _ else 0)
    rw [ih fun k hk => h k (by omega), h n (by omega)]
theorem or_z (x : Int32) : x ||| 0 = x := Int32.or_zero
theorem ob_0 {f : Nat → Bool} {n : Nat} (h : ∀ k, k < n → f k = false) : ob f n = 0 := by
  induction n with
  | zero => rfl
  | succ n ih =>
    show ob f n ||| (if f n = true then _ else 0) = 0
    rw [ih fun k hk => h k (by omega), h n (by omega), if_neg (by decide), or_z]
theorem ob_z {f : Nat → Bool} (h : ob f 8 = 0) : ∀ k, k < 8 → f k = false := by
  have go : ∀ n, n ≤ 8 → ob f n = 0 → ∀ k, k < n → f k = false := by
    intro n
    induction n with
    | zero => intro _ _ k hk; omega
    | succ n ih =>
      intro h1 h2 k hk
      have h3 : ob f n ||| (if f n = true then isl (1 : Int32) (nI n) else 0) = 0 := h2
      obtain ⟨a, b⟩ := Int32.or_eq_zero_iff.mp h3
      by_cases e : k = n
      · rw [e]
        cases z : f n with
        | false => rfl
        | true =>
          rw [z, if_pos rfl] at b
          have nz : ∀ n, n < 8 → isl (1 : Int32) (nI n) ≠ 0 := by decide +kernel
          exact absurd b (nz n (by omega))
      · exact ih (by omega) a k (by omega)
  exact go 8 (Nat.le_refl _) h
