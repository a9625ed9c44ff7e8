/-! the reference reads -/
def LM (S : Sg) (L : Nat × (Nat → Nat)) (c : Nat) : Prop := S.1 140 28 = nI L.1 ∧ (∀ k, k < L.1 → S.1 155 k = nI (L.2 k)) ∧ S.1 140 29 = nI c
theorem s_letterNow {S : Sg} {L : Nat × (Nat → Nat)} {c : Nat} (h : LM S L c) (hL : L.1 ≤ 96) (hc : c ≤ L.1) : f_X7_letterNow S = some (if c < L.1 then nI (L.2 c) else -1) := by
  unfold f_X7_letterNow
  rw [h.2.2, h.1]
  by_cases q : c < L.1
  · rw [if_pos q, if_pos (nI_lt q (by omega)), show inb (nI c) 96 = true from inb_n (by omega) (by decide), ix_n (by omega), h.2.1 c q]; rfl
  · rw [if_neg q, if_neg (nI_nlt (by omega) (by omega))]
def vl (l : Nat → Nat) (c : Nat) : Nat → Nat
  | 0 => 0
  | p + 1 => 10 * vl l c p + (l (c + p) - 48)
abbrev rdI (i : Nat) : Nat → Nat → Prop := fun o k => (o = 158 ∧ k = i) ∨ (o = 140 ∧ (k = 29 ∨ k = 31))
theorem stp_digit {x d : Nat} : stp x (d + 1, true) = if x < 48 then none else if 57 < x then none else some (d, true) := by
  unfold stp
  rw [if_neg (show ¬ true = false by decide), if_pos (Nat.succ_pos d)]
  rfl
theorem s_readsDigits {S : Sg} {L : Nat × (Nat → Nat)} {c d p i : Nat} (h : LM S L c) (hL : L.1 ≤ 96 ∧ ∀ k, k < L.1 → L.2 k ≤ 255) (hc : c ≤ L.1) (hp : p ≤ 2) (hs : sst L.2 c = some (d + p, true)) (hi : S.1 140 31 = nI i) (hi2 : i < 297) : wp (f_X7_readsDigits (nI p) S) (fun z => (z.1 = 1 ∧ sst L.2 (c + p) = some (d, true) ∧ c + p ≤ L.1 ∧ LM z.2 L (c + p) ∧ z.2.1 158 i = nI (vl L.2 c p) ∧ z.2.1 140 31 = nI (i + 1) ∧ Fm (rdI i) noJ S z.2) ∨ (z.1 = 0 ∧ ∃ k, z.2.1 140 29 = nI k ∧ (k ≤ 96 ∧ isMis L (nI k)) ∧ Fm (rdI i) noJ S z.2)) := by
  have hn := hL.1
  unfold f_X7_readsDigits
  refine wp_bsm (up (F := fun n k (z : Int32 × Sg) => L_X7_readsDigits_4 (nI p) n z.1 (nI k) z.2) p (fun k z => z.1 = nI (vl L.2 c k) ∧ c + k ≤ L.1 ∧ LM z.2 L (c + k) ∧ sst L.2 (c + k) = some (d + (p - k), true) ∧ Fm (fun o j => o = 140 ∧ j = 29) noJ S z.2) (fun y => (∃ U, y = .inl (0, U) ∧ ∃ k, U.1 140 29 = nI k ∧ (k ≤ 96 ∧ isMis L (nI k)) ∧ Fm (fun o j => o = 140 ∧ j = 29) noJ S U) ∨ ∃ U, y = .inr (nI (vl L.2 c p), U) ∧ c + p ≤ L.1 ∧ LM U L (c + p) ∧ sst L.2 (c + p) = some (d, true) ∧ Fm (fun o j => o = 140 ∧ j = 29) noJ S U) ?_ ?_ 400 0 (0, S) (by omega) (by omega) ⟨rfl, hc, h, hs, Fm.rf⟩) ?_ ?_
  · rintro n k ⟨v, U⟩ hk ⟨h1, h2, h3, h4, f⟩ ih
    have h1' : v = nI (vl L.2 c k) := h1
    show wp (L_X7_readsDigits_4 (nI p) (n + 1) v (nI k) U) _
    rw [L_X7_readsDigits_4]
    refine wp_ifp (nI_lt hk (by omega)) ?_
    rw [s_letterNow h3 hn h2]
    obtain ⟨e, he⟩ : ∃ e, p - k = e + 1 := ⟨p - k - 1, by omega⟩
    rw [he] at h4
    refine wp_bds rfl ?_
    by_cases q : c + k < L.1
    · rw [if_pos q]
      have hb := hL.2 _ q
      have hs1 : sst L.2 (c + k + 1) = stp (L.2 (c + k)) (d + e + 1, true) := by show (sst L.2 (c + k)).bind _ = _; rw [h4]; rfl
      rw [stp_digit] at hs1
      rw [show f_X7_isIn (nI (L.2 (c + k))) 48 57 = if 48 ≤ L.2 (c + k) ∧ L.2 (c + k) ≤ 57 then 1 else 0 from isIn_lit (lo := 48) (hi := 57) (by omega) (by omega) (by omega)]
      by_cases q2 : 48 ≤ L.2 (c + k) ∧ L.2 (c + k) ≤ 57
      · rw [if_pos q2]
        rw [if_neg (by omega), if_neg (by omega)] at hs1
        refine wp_ifn (by decide) (wp_bds rfl ?_)
        refine wp_lt (wp_lt ?_)
        rw [show U.1 140 29 + 1 = nI (c + (k + 1)) by rw [h3.2.2, nIs]; rfl]
        show wp (L_X7_readsDigits_4 (nI p) n (((10 : Int32) * v + nI (L.2 (c + k))) - (48 : Int32)) (nI k + 1) (setI U 140 29 (nI (c + (k + 1))))) _
        rw [nIs]
        have lm : LM (setI U 140 29 (nI (c + (k + 1)))) L (c + (k + 1)) := ⟨by rw [setI_n (by omega)]; exact h3.1, fun j hj => by rw [setI_n (by omega)]; exact h3.2.1 j hj, setI_s⟩
        refine ih (_, _) ⟨?_, by omega, lm, ?_, f.tr (Fm.setI ⟨rfl, rfl⟩)⟩
        · show ((10 : Int32) * v + nI (L.2 (c + k))) - (48 : Int32) = nI (10 * vl L.2 c k + (L.2 (c + k) - 48))
          rw [h1', ten, nI_mul, show L.2 (c + k) = (L.2 (c + k) - 48) + 48 by omega, ← nI_add _ 48, ← Int32.add_assoc, nI_add]
          rw [show (L.2 (c + k) - 48 + 48 - 48) = L.2 (c + k) - 48 by omega]
          exact Int32.add_sub_cancel _ _
        · rw [show c + (k + 1) = c + k + 1 by omega, hs1, show p - (k + 1) = e by omega]
      · rw [if_neg q2]
        refine wp_ifp rfl (wp_some (Or.inl ⟨U, rfl, c + k, h3.2.2, ⟨by omega, Or.inl ⟨c + k, _, q, h4, ?_, rfl⟩⟩, f⟩))
        rw [hs1]
        by_cases z : L.2 (c + k) < 48
        · rw [if_pos z]
        · rw [if_neg z, if_pos (by omega)]
    · rw [if_neg q]
      have e1 : c + k = L.1 := by omega
      rw [e1] at h4
      exact wp_ifp (by decide) (wp_some (Or.inl ⟨U, rfl, c + k, h3.2.2, ⟨by omega, Or.inr ⟨_, h4, Or.inl ⟨rfl, by rw [e1]⟩⟩⟩, f⟩))
  · rintro n ⟨v, U⟩ ⟨h1, h2, h3, h4, f⟩
    have h1' : v = nI (vl L.2 c p) := h1
    subst h1'
    show wp (L_X7_readsDigits_4 (nI p) (n + 1) (nI (vl L.2 c p)) (nI p) U) _
    rw [L_X7_readsDigits_4]
    rw [Nat.sub_self] at h4
    exact wp_ifn (nI_nlt (Nat.le_refl _) (by omega)) (wp_some (Or.inr ⟨U, rfl, h2, h3, h4, f⟩))
  · rintro ⟨r, U⟩ hz
    rcases hz with ⟨V, e, k, a, b, g⟩ | ⟨V, e, _⟩
    · cases e; exact wp_some (Or.inr ⟨rfl, k, a, b, g.mono (fun o j z => Or.inr ⟨z.1, Or.inl z.2⟩) fun _ _ q => q⟩)
    · cases e
  · rintro ⟨v, U⟩ hz
    rcases hz with ⟨V, e, _⟩ | ⟨V, e, a, b, s, g⟩
    · cases e
    · cases e
      have e31 : U.1 140 31 = nI i := (g.1 _ _ (by rintro ⟨_, z⟩; omega)).trans hi
      refine wp_u2 ?_
      rw [e31]
      refine wp_gd (inb_n hi2 (by decide)) (wp_lt (wp_lt ?_))
      rw [ix_n (by omega), setI_n (by omega), e31, nIs]
      refine wp_some (Or.inl ⟨rfl, s, a, ⟨?_, fun k hk => ?_, ?_⟩, ?_, setI_s, ?_⟩)
      · rw [setI_n (by omega), setI_n (by omega)]; exact b.1
      · rw [setI_n (by omega), setI_n (by omega)]; exact b.2.1 k hk
      · rw [setI_n (by omega), setI_n (by omega)]; exact b.2.2
      · show (setI (setI U 158 i _) 140 31 _).1 158 i = _
        rw [setI_n (by omega), setI_s]
      · exact ((g.mono (BI := rdI i) (fun o j z => Or.inr ⟨z.1, Or.inl z.2⟩) fun _ _ q => q).tr (Fm.setI (Or.inl ⟨rfl, rfl⟩))).tr (Fm.setI (Or.inr ⟨rfl, Or.inr rfl⟩))
