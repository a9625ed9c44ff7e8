theorem isMis_u {L : Nat × (Nat → Nat)} {r r' : Int32} (hn : L.1 ≤ 96) (h : isMis L r) (h' : isMis L r') : r = r' := by
  have up : ∀ a b, a ≤ b → sst L.2 a = none → sst L.2 b = none := fun a b hab ha => by
    induction b with
    | zero => rw [show (0 : Nat) = a by omega]; exact ha
    | succ b ih =>
      by_cases e : a = b + 1
      · rw [← e]; exact ha
      · show (sst L.2 b).bind _ = none
        rw [ih (by omega)]; rfl
  have no : ∀ a b s, sst L.2 a = none → sst L.2 b = some s → b < a := fun a b s ha hb => by
    by_cases z : b < a
    · exact z
    · rw [up a b (by omega) ha] at hb; cases hb
  rcases h with ⟨k, s, a1, a2, a3, rfl⟩ | ⟨s, a1, a2⟩ <;> rcases h' with ⟨j, u, b1, b2, b3, rfl⟩ | ⟨u, b1, b2⟩
  · have x1 := no _ _ _ a3 b2
    have x2 := no _ _ _ b3 a2
    rw [show k = j by omega]
  · have := no _ _ _ a3 b1; omega
  · have := no _ _ _ b3 a1; omega
  · have e : s = u := Option.some.inj (a1.symm.trans b1)
    subst e
    rcases a2 with ⟨x, rfl⟩ | ⟨x, y, rfl⟩ | ⟨x, y, rfl⟩ <;> rcases b2 with ⟨z, rfl⟩ | ⟨z, w, rfl⟩ | ⟨z, w, rfl⟩ <;> first | rfl | (exact absurd (x.symm.trans z) (by decide)) | omega
