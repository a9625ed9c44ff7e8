abbrev stI (j : Nat) : Nat → Nat → Prop := fun o k => (o = 156 ∧ k = j) ∨ (o = 157 ∧ k = j) ∨ (o = 158 ∧ 9 * j ≤ k ∧ k < 9 * j + 9) ∨ (o = 140 ∧ (k = 29 ∨ k = 31))
/-- the j-th statement, begun at a, as the reference keeps it -/
def Kp (S : Sg) (L : Nat × (Nat → Nat)) (j a : Nat) : Prop := S.1 156 j = nI (L.2 a) ∧ S.1 157 j = nI a ∧ ∀ k, k < cnt (L.2 a) → S.1 158 (9 * j + k) = nI (nums L.2 a k)
theorem cnt_9 {x : Nat} (h : x < 256) : cnt x ≤ 9 := by
  have : ∀ x, x < 256 → cnt x ≤ 9 := by decide +kernel
  exact this x h
theorem st_tail {S : Sg} {L : Nat × (Nat → Nat)} {a j : Nat} (h : LM S L a) (hL : L.1 ≤ 96 ∧ ∀ k, k < L.1 → L.2 k ≤ 255) (ha : a < L.1) (hs : sst L.2 a = some (0, false)) (hd : dgb (L.2 a) ≠ 0) (hj : S.1 140 30 = nI j) (hj2 : j ≤ 32) :
    wp (gd (inb (S.1 140 30) 33) <| lt (setI S 156 (ix (S.1 140 30)) (nI (L.2 a))) fun S_1 => gd (inb (S_1.1 140 30) 33) <| lt (setI S_1 157 (ix (S_1.1 140 30)) (S_1.1 140 29)) fun S_2 => lt (setI S_2 140 31 ((9 : Int32) * (S_2.1 140 30))) fun S_3 => lt (setI S_3 140 29 ((S_3.1 140 29) + (1 : Int32))) fun S_4 => bd (f_X7_readsAll (nI (L.2 a)) S_4) (u2 fun r_2 S_5 => if r_2 = 0 then (some ((0 : Int32), S_5)) else (bd (f_X7_letterNow S_5) fun r_3 => if r_3 = (59 : Int32) then (lt (setI S_5 140 29 ((S_5.1 140 29) + (1 : Int32))) fun S_6 => some ((1 : Int32), S_6)) else (some ((0 : Int32), S_5)))))
    (fun z => Fm (stI j) noJ S z.2 ∧ ((z.1 = 1 ∧ sst L.2 (a + dgb (L.2 a) + 2) = some (0, false) ∧ a + dgb (L.2 a) + 2 ≤ L.1 ∧ LM z.2 L (a + dgb (L.2 a) + 2) ∧ Kp z.2 L j a) ∨ (z.1 = 0 ∧ ∃ k, z.2.1 140 29 = nI k ∧ (k ≤ 96 ∧ isMis L (nI k))))) := by
  have hn := hL.1
  have hc := hL.2 a ha
  rw [hj]
  refine wp_gd (inb_n (by omega) (by decide)) (wp_lt ?_)
  rw [ix_n (by omega), setI_n (by omega), setI_n (by omega), hj, h.2.2]
  refine wp_gd (inb_n (by omega) (by decide)) (wp_lt ?_)
  rw [ix_n (by omega), setI_n (by omega), setI_n (by omega), hj]
  refine wp_lt ?_
  rw [setI_n (by omega), setI_n (by omega), setI_n (by omega), h.2.2, nIs, show (9 : Int32) = nI 9 from rfl, nI_mul]
  refine wp_lt ?_
  generalize hT : setI (setI (setI (setI S 156 j (nI (L.2 a))) 157 j (nI a)) 140 31 (nI (9 * j))) 140 29 (nI (a + 1)) = T
  have f : Fm (stI j) noJ S T := by
    rw [← hT]
    exact (((Fm.setI (AI := stI j) (Or.inl ⟨rfl, rfl⟩)).tr (Fm.setI (Or.inr (Or.inl ⟨rfl, rfl⟩)))).tr (Fm.setI (Or.inr (Or.inr (Or.inr ⟨rfl, Or.inr rfl⟩))))).tr (Fm.setI (Or.inr (Or.inr (Or.inr ⟨rfl, Or.inl rfl⟩))))
  have lT : LM T L (a + 1) := by
    rw [← hT]
    refine ⟨?_, fun k hk => ?_, setI_s⟩
    · rw [setI_n (by omega), setI_n (by omega), setI_n (by omega), setI_n (by omega)]; exact h.1
    · rw [setI_n (by omega), setI_n (by omega), setI_n (by omega), setI_n (by omega)]; exact h.2.1 k hk
  have t31 : T.1 140 31 = nI (9 * j) := by rw [← hT, setI_n (by omega), setI_s]
  have t156 : T.1 156 j = nI (L.2 a) := by rw [← hT, setI_n (by omega), setI_n (by omega), setI_n (by omega), setI_s]
  have t157 : T.1 157 j = nI a := by rw [← hT, setI_n (by omega), setI_n (by omega), setI_s]
  have hs1 : sst L.2 (a + 1) = some (dgb (L.2 a), true) := by
    show (sst L.2 a).bind _ = _
    rw [hs]
    show stp (L.2 a) (0, false) = _
    rw [stp_begin, if_neg hd]
  refine wp_bdm (s_readsAll lT hL ha hd hs1 t31 (by omega)) ?_
  have rs : ∀ o k, rmI (9 * j) 9 o k → stI j o k := fun o k z => by
    rcases z with ⟨x, y⟩ | ⟨x, y⟩
    · exact Or.inr (Or.inr (Or.inl ⟨x, y⟩))
    · exact Or.inr (Or.inr (Or.inr ⟨x, y⟩))
  rintro ⟨r, U⟩ (⟨e, g1, g2, g3, g4, g5⟩ | ⟨e, k, g1, g2, g3⟩)
  · have e' : r = 1 := e
    subst e'
    have fU := f.tr (g5.mono rs fun _ _ q => q)
    refine wp_u2 (wp_ifn (by decide) ?_)
    rw [s_letterNow g3 hn g2]
    refine wp_bds rfl ?_
    by_cases q : a + 1 + dgb (L.2 a) < L.1
    · rw [if_pos q]
      have hb := hL.2 _ q
      have hs2 : sst L.2 (a + dgb (L.2 a) + 2) = if L.2 (a + 1 + dgb (L.2 a)) = 59 then some (0, false) else none := by
        rw [show a + dgb (L.2 a) + 2 = (a + 1 + dgb (L.2 a)) + 1 by omega]
        show (sst L.2 (a + 1 + dgb (L.2 a))).bind _ = _
        rw [g1]
        exact stp_end
      refine wp_if (fun z => ?_) (fun z => ?_)
      · have z' : L.2 (a + 1 + dgb (L.2 a)) = 59 := (nI_eq (b := 59) (by omega) (by omega)).mp z
        refine wp_lt ?_
        rw [show U.1 140 29 + 1 = nI (a + dgb (L.2 a) + 2) by rw [g3.2.2, nIs]; exact congrArg nI (by omega)]
        refine wp_some ⟨fU.tr (Fm.setI (Or.inr (Or.inr (Or.inr ⟨rfl, Or.inl rfl⟩)))), Or.inl ⟨rfl, by rw [hs2, if_pos z'], by omega, ⟨?_, fun k hk => ?_, setI_s⟩, ?_, ?_, fun k hk => ?_⟩⟩
        · rw [setI_n (by omega)]; exact g3.1
        · rw [setI_n (by omega)]; exact g3.2.1 k hk
        · rw [setI_n (by omega), g5.1 _ _ (by rintro (⟨y, _⟩ | ⟨y, _⟩) <;> omega)]; exact t156
        · rw [setI_n (by omega), g5.1 _ _ (by rintro (⟨y, _⟩ | ⟨y, _⟩) <;> omega)]; exact t157
        · rw [setI_n (by omega)]; exact g4 k hk
      · have z' : ¬ L.2 (a + 1 + dgb (L.2 a)) = 59 := fun y => z (by rw [y]; rfl)
        refine wp_some ⟨fU, Or.inr ⟨rfl, _, g3.2.2, ⟨by omega, Or.inl ⟨_, _, q, g1, ?_, rfl⟩⟩⟩⟩
        rw [show (a + 1 + dgb (L.2 a)) + 1 = a + dgb (L.2 a) + 2 by omega, hs2, if_neg z']
    · rw [if_neg q]
      have q' : a + 1 + dgb (L.2 a) = L.1 := by omega
      refine wp_ifn (by decide) (wp_some ⟨fU, Or.inr ⟨rfl, _, g3.2.2, ⟨by omega, Or.inr ⟨(0, true), by rw [← q']; exact g1, Or.inl ⟨rfl, by rw [q']⟩⟩⟩⟩⟩)
  · have e' : r = 0 := e
    subst e'
    exact wp_u2 (wp_ifp rfl (wp_some ⟨f.tr (g3.mono rs fun _ _ q => q), Or.inr ⟨rfl, k, g1, g2⟩⟩))
