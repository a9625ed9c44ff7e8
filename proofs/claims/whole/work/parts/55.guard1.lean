/-! the guard's text -/
def dgb (c : Nat) : Nat := if c = 98 then 6 else if c = 99 then 3 else if c = 100 then 8 else if c = 108 then 2 else if c = 114 then 1 else if c = 115 then 8 else if c = 118 then 3 else if c = 119 then 9 else 0
theorem dgb_eq : ∀ c, c < 256 → f_X3_digitsBehind (nI c) = nI (dgb c) ∧ dgb c ≤ 9 := by decide +kernel
/-- one letter read: how many digits are still wanted, and whether a statement is open -/
def stp (c : Nat) (s : Nat × Bool) : Option (Nat × Bool) := if s.2 = false then (if dgb c = 0 then none else some (dgb c, true)) else if 0 < s.1 then (if c < 48 then none else if 57 < c then none else some (s.1 - 1, true)) else if c = 59 then some (0, false) else none
def sst (l : Nat → Nat) : Nat → Option (Nat × Bool)
  | 0 => some (0, false)
  | k + 1 => (sst l k).bind (stp (l k))
def isMis (L : Nat × (Nat → Nat)) (r : Int32) : Prop := (∃ k s, k < L.1 ∧ sst L.2 k = some s ∧ sst L.2 (k + 1) = none ∧ r = nI k) ∨ (∃ s, sst L.2 L.1 = some s ∧ ((s.2 = true ∧ r = nI L.1) ∨ (s.2 = false ∧ L.1 = 0 ∧ r = nI 0) ∨ (s.2 = false ∧ L.1 ≠ 0 ∧ r = -9)))
theorem s_atL {S : Sg} {T : Nat × (Nat → Nat)} (h : S.1 135 0 = nI T.1 ∧ ∀ k, k < T.1 → S.1 136 k = nI (T.2 k)) (hT : T.1 ≤ 96) {v : Nat} (hv : v < T.1) : f_X1_at 135 96 (nI v) S = some (nI (T.2 v)) := by
  unfold f_X1_at
  rw [h.1, isW_lit hv (by omega), show f_X6_isWithin (nI v) (Int32.ofNat 96) = 1 from isW_lit (n := 96) (by omega) (by decide), if_neg (by decide), if_neg (by decide), show inb (nI v) 96 = true from inb_n (by omega) (by decide), ix_n (by omega), h.2 v hv]
  rfl
abbrev b2 (b : Bool) : Int32 := if b = true then 1 else 0
theorem s_misfit {S : Sg} {L : Nat × (Nat → Nat)} (h : S.1 135 0 = nI L.1 ∧ ∀ k, k < L.1 → S.1 136 k = nI (L.2 k)) (hL : L.1 ≤ 96 ∧ ∀ k, k < L.1 → L.2 k ≤ 255) : wp (f_X3_firstMisfit 135 96 S) (fun r => isMis L r) := by
  have hn := hL.1
  unfold f_X3_firstMisfit
  refine wp_bsm (up (F := fun n k (z : Nat × Bool) => L_X3_firstMisfit_6 135 96 S n (nI z.1) (b2 z.2) (nI k)) L.1 (fun k z => sst L.2 k = some z ∧ z.1 ≤ 9) (fun y => (∃ r, y = .inl r ∧ isMis L r) ∨ ∃ z : Nat × Bool, y = .inr (b2 z.2) ∧ sst L.2 L.1 = some z) ?_ ?_ 400 0 (0, false) (by omega) (by omega) ⟨rfl, Nat.zero_le _⟩) ?_ ?_
  · rintro n k ⟨d, b⟩ hk ⟨h1, h9⟩ ih
    have h9' : d ≤ 9 := h9
    have hs : sst L.2 (k + 1) = stp (L.2 k) (d, b) := by show (sst L.2 k).bind _ = _; rw [h1]; rfl
    have hc := hL.2 k hk
    obtain ⟨g1, g2⟩ := dgb_eq (L.2 k) (by omega)
    show wp (L_X3_firstMisfit_6 135 96 S (n + 1) (nI d) (b2 b) (nI k)) _
    rw [L_X3_firstMisfit_6, h.1]
    refine wp_ifp (nI_lt hk (by omega)) ?_
    rw [s_atL h hn hk]
    refine wp_bds rfl ?_
    cases b with
    | false =>
      refine wp_ifp rfl ?_
      rw [g1]
      refine wp_lt (wp_if (fun e => ?_) (fun e => ?_))
      · have e' : dgb (L.2 k) = 0 := (nI_eq (b := 0) (by omega) (by omega)).mp e
        exact wp_some (Or.inl ⟨_, rfl, Or.inl ⟨k, _, hk, h1, by rw [hs]; unfold stp; rw [if_pos rfl, if_pos e'], rfl⟩⟩)
      · have e' : dgb (L.2 k) ≠ 0 := fun z => e (by rw [z]; rfl)
        refine wp_lt ?_
        rw [nIs]
        exact ih (dgb (L.2 k), true) ⟨by rw [hs]; unfold stp; rw [if_pos rfl, if_neg e'], g2⟩
    | true =>
      refine wp_ifn (by decide) (wp_if (fun e => ?_) (fun e => ?_))
      · have e' : 0 < d := by
          by_cases z : 0 < d
          · exact z
          · exact absurd e (nI_nlt (a := 0) (by omega) (by omega))
        have t0 : stp (L.2 k) (d, true) = if L.2 k < 48 then none else if 57 < L.2 k then none else some (d - 1, true) := by
          unfold stp
          rw [if_neg (show ¬ true = false by decide), if_pos e']
        refine wp_if (fun e1 => ?_) (fun e1 => ?_)
        · have e1' : L.2 k < 48 := by
            by_cases z : L.2 k < 48
            · exact z
            · exact absurd e1 (nI_nlt (b := 48) (by omega) (by omega))
          exact wp_some (Or.inl ⟨_, rfl, Or.inl ⟨k, _, hk, h1, by rw [hs, t0, if_pos e1'], rfl⟩⟩)
        · have e1' : ¬ L.2 k < 48 := fun z => e1 (nI_lt (b := 48) z (by decide))
          refine wp_if (fun e2 => ?_) (fun e2 => ?_)
          · have e2' : 57 < L.2 k := by
              by_cases z : 57 < L.2 k
              · exact z
              · exact absurd e2 (nI_nlt (a := 57) (by omega) (by omega))
            exact wp_some (Or.inl ⟨_, rfl, Or.inl ⟨k, _, hk, h1, by rw [hs, t0, if_neg e1', if_pos e2'], rfl⟩⟩)
          · have e2' : ¬ 57 < L.2 k := fun z => e2 (nI_lt (a := 57) z (by omega))
            obtain ⟨d', rfl⟩ : ∃ d', d = d' + 1 := ⟨d - 1, by omega⟩
            refine wp_lt (wp_lt ?_)
            rw [nIs, nm1]
            exact ih (d', true) ⟨by rw [hs, t0, if_neg e1', if_neg e2']; rfl, by show d' ≤ 9; omega⟩
      · have e' : ¬ 0 < d := fun z => e (nI_lt (a := 0) z (by omega))
        have t0 : stp (L.2 k) (d, true) = if L.2 k = 59 then some (0, false) else none := by
          unfold stp
          rw [if_neg (show ¬ true = false by decide), if_neg e']
        have d0 : d = 0 := by omega
        subst d0
        refine wp_if (fun e1 => ?_) (fun e1 => ?_)
        · have e1' : L.2 k = 59 := (nI_eq (b := 59) (by omega) (by omega)).mp e1
          refine wp_lt ?_
          rw [nIs]
          exact ih (0, false) ⟨by rw [hs, t0, if_pos e1'], Nat.zero_le _⟩
        · have e1' : ¬ L.2 k = 59 := fun z => e1 (by rw [z]; rfl)
          exact wp_some (Or.inl ⟨_, rfl, Or.inl ⟨k, _, hk, h1, by rw [hs, t0, if_neg e1'], rfl⟩⟩)
  · rintro n ⟨d, b⟩ ⟨h1, _⟩
    show wp (L_X3_firstMisfit_6 135 96 S (n + 1) (nI d) (b2 b) (nI L.1)) _
    rw [L_X3_firstMisfit_6, h.1]
    exact wp_ifn (nI_nlt (Nat.le_refl _) (by omega)) (wp_some (Or.inr ⟨(d, b), rfl, h1⟩))
  · rintro r hz
    rcases hz with ⟨r', e, a⟩ | ⟨z, e, _⟩
    · cases e; exact wp_some a
    · cases e
  · rintro r hz
    rcases hz with ⟨r', e, _⟩ | ⟨⟨d, b⟩, e, a⟩
    · cases e
    · cases e
      rw [h.1]
      refine wp_lt (wp_some (Or.inr ⟨(d, b), a, ?_⟩))
      cases b with
      | true => exact Or.inl ⟨rfl, if_neg (show ¬ (1 : Int32) = 0 by decide)⟩
      | false =>
        right
        by_cases z : L.1 = 0
        · exact Or.inl ⟨rfl, z, by rw [z]; rfl⟩
        · exact Or.inr ⟨rfl, z, (if_pos rfl).trans (if_neg fun q => z ((nI_eq (b := 0) (by omega) (by omega)).mp q))⟩
