theorem s_statement {S : Sg} {L : Nat × (Nat → Nat)} {a j : Nat} (h : LM S L a) (hL : L.1 ≤ 96 ∧ ∀ k, k < L.1 → L.2 k ≤ 255) (ha : a ≤ L.1) (hz : a = L.1 → L.1 = 0) (hs : sst L.2 a = some (0, false)) (hj : S.1 140 30 = nI j) (hj2 : j ≤ 32) :
    wp (f_X7_statement S) (fun z => Fm (stI j) noJ S z.2 ∧ ((z.1 = 1 ∧ a < L.1 ∧ dgb (L.2 a) ≠ 0 ∧ sst L.2 (a + dgb (L.2 a) + 2) = some (0, false) ∧ a + dgb (L.2 a) + 2 ≤ L.1 ∧ LM z.2 L (a + dgb (L.2 a) + 2) ∧ Kp z.2 L j a) ∨ (z.1 = 0 ∧ ∃ k, z.2.1 140 29 = nI k ∧ (k ≤ 96 ∧ isMis L (nI k))))) := by
  have hn := hL.1
  unfold f_X7_statement
  rw [s_letterNow h hn ha]
  refine wp_bds rfl (wp_lt ?_)
  by_cases q : a < L.1
  · rw [if_pos q]
    have hb := hL.2 a q
    by_cases hd : dgb (L.2 a) = 0
    · have ne : ∀ m, m < 256 → dgb m ≠ 0 → ¬ nI (L.2 a) = nI m := fun m hm hm2 z => by
        have := (nI_eq (by omega) (by omega)).mp z
        rw [this] at hd; exact hm2 hd
      refine wp_ifn (ne 118 (by decide) (by decide)) (wp_ifn (ne 99 (by decide) (by decide)) (wp_ifn (ne 98 (by decide) (by decide)) (wp_ifn (ne 114 (by decide) (by decide)) (wp_ifn (ne 108 (by decide) (by decide)) (wp_ifn (ne 115 (by decide) (by decide)) (wp_ifn (ne 100 (by decide) (by decide)) (wp_ifn (ne 119 (by decide) (by decide)) (wp_some ⟨Fm.rf, Or.inr ⟨rfl, a, h.2.2, ⟨by omega, Or.inl ⟨a, _, q, hs, ?_, rfl⟩⟩⟩⟩))))))))
      show (sst L.2 a).bind _ = none
      rw [hs]
      show stp (L.2 a) (0, false) = none
      rw [stp_begin, if_pos hd]
    · have t := wp_mono (st_tail h hL q hs hd hj hj2) (Q := fun z => Fm (stI j) noJ S z.2 ∧ ((z.1 = 1 ∧ a < L.1 ∧ dgb (L.2 a) ≠ 0 ∧ sst L.2 (a + dgb (L.2 a) + 2) = some (0, false) ∧ a + dgb (L.2 a) + 2 ≤ L.1 ∧ LM z.2 L (a + dgb (L.2 a) + 2) ∧ Kp z.2 L j a) ∨ (z.1 = 0 ∧ ∃ k, z.2.1 140 29 = nI k ∧ (k ≤ 96 ∧ isMis L (nI k))))) fun z hz => ⟨hz.1, hz.2.elim (fun y => Or.inl ⟨y.1, q, hd, y.2⟩) Or.inr⟩
      rcases dgb_known hd with e | e | e | e | e | e | e | e
      · exact wp_ifn (by rw [e]; decide) (wp_ifn (by rw [e]; decide) (wp_ifp (by rw [e]; rfl) t))
      · exact wp_ifn (by rw [e]; decide) (wp_ifp (by rw [e]; rfl) t)
      · exact wp_ifn (by rw [e]; decide) (wp_ifn (by rw [e]; decide) (wp_ifn (by rw [e]; decide) (wp_ifn (by rw [e]; decide) (wp_ifn (by rw [e]; decide) (wp_ifn (by rw [e]; decide) (wp_ifp (by rw [e]; rfl) t))))))
      · exact wp_ifn (by rw [e]; decide) (wp_ifn (by rw [e]; decide) (wp_ifn (by rw [e]; decide) (wp_ifn (by rw [e]; decide) (wp_ifp (by rw [e]; rfl) t))))
      · exact wp_ifn (by rw [e]; decide) (wp_ifn (by rw [e]; decide) (wp_ifn (by rw [e]; decide) (wp_ifp (by rw [e]; rfl) t)))
      · exact wp_ifn (by rw [e]; decide) (wp_ifn (by rw [e]; decide) (wp_ifn (by rw [e]; decide) (wp_ifn (by rw [e]; decide) (wp_ifn (by rw [e]; decide) (wp_ifp (by rw [e]; rfl) t)))))
      · exact wp_ifp (by rw [e]; rfl) t
      · exact wp_ifn (by rw [e]; decide) (wp_ifn (by rw [e]; decide) (wp_ifn (by rw [e]; decide) (wp_ifn (by rw [e]; decide) (wp_ifn (by rw [e]; decide) (wp_ifn (by rw [e]; decide) (wp_ifn (by rw [e]; decide) (wp_ifp (by rw [e]; rfl) t)))))))
  · rw [if_neg q]
    have e : a = L.1 := by omega
    have e0 := hz e
    exact wp_ifn (by decide) (wp_ifn (by decide) (wp_ifn (by decide) (wp_ifn (by decide) (wp_ifn (by decide) (wp_ifn (by decide) (wp_ifn (by decide) (wp_ifn (by decide) (wp_some ⟨Fm.rf, Or.inr ⟨rfl, a, h.2.2, ⟨by omega, Or.inr ⟨(0, false), by rw [← e]; exact hs, Or.inr (Or.inl ⟨rfl, e0, by rw [e, e0]⟩)⟩⟩⟩⟩))))))))
