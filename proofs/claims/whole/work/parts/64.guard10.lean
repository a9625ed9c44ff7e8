/-- what the reading may spoil -/
abbrev gdI : Nat → Nat → Prop := fun o k => o = 156 ∨ o = 157 ∨ o = 158 ∨ (o = 140 ∧ (k = 29 ∨ k = 30 ∨ k = 31))
theorem st_gd {j : Nat} : ∀ o k, stI j o k → gdI o k := fun o k h => by
  rcases h with h | h | h | h
  · exact Or.inl h.1
  · exact Or.inr (Or.inl h.1)
  · exact Or.inr (Or.inr (Or.inl h.1))
  · exact Or.inr (Or.inr (Or.inr ⟨h.1, by omega⟩))
/-- j statements are read -/
def Rs (S : Sg) (L : Nat × (Nat → Nat)) (j : Nat) : Prop := LM S L (pos L.2 j) ∧ pos L.2 j ≤ L.1 ∧ 3 * j ≤ pos L.2 j ∧ sst L.2 (pos L.2 j) = some (0, false) ∧ S.1 140 30 = nI j ∧ ∀ i, i < j → Kp S L i (pos L.2 i) ∧ pos L.2 i < L.1 ∧ dgb (L.2 (pos L.2 i)) ≠ 0 ∧ pos L.2 (i + 1) ≤ L.1 ∧ sst L.2 (pos L.2 i) = some (0, false)
theorem Kp.fm {S T : Sg} {L : Nat × (Nat → Nat)} {i a : Nat} {AI AJ : Nat → Nat → Prop} (h : Kp S L i a) (hb : L.2 a < 256) (f : Fm AI AJ S T) (h1 : ¬ AI 156 i) (h2 : ¬ AI 157 i) (h3 : ∀ k, k < 9 → ¬ AI 158 (9 * i + k)) : Kp T L i a := by
  have := cnt_9 hb
  exact ⟨(f.1 _ _ h1).trans h.1, (f.1 _ _ h2).trans h.2.1, fun k hk => (f.1 _ _ (h3 k (by omega))).trans (h.2.2 k hk)⟩
theorem Rs.step {S T : Sg} {L : Nat × (Nat → Nat)} {j : Nat} (h : Rs S L j) (hL : L.1 ≤ 96 ∧ ∀ k, k < L.1 → L.2 k ≤ 255) (f : Fm (stI j) noJ S T) (ha : pos L.2 j < L.1) (hd : dgb (L.2 (pos L.2 j)) ≠ 0) (hs : sst L.2 (pos L.2 j + dgb (L.2 (pos L.2 j)) + 2) = some (0, false)) (hl : pos L.2 j + dgb (L.2 (pos L.2 j)) + 2 ≤ L.1) (lm : LM T L (pos L.2 j + dgb (L.2 (pos L.2 j)) + 2)) (kp : Kp T L j (pos L.2 j)) : Rs (setI T 140 30 (T.1 140 30 + 1)) L (j + 1) := by
  obtain ⟨a1, a2, a3, a4, a5, a6⟩ := h
  have t30 : T.1 140 30 = nI j := (f.1 _ _ (by rintro (z | z | z | z) <;> omega)).trans a5
  have fs : Fm (fun o k => o = 140 ∧ k = 30) noJ T (setI T 140 30 (T.1 140 30 + 1)) := Fm.setI ⟨rfl, rfl⟩
  refine ⟨⟨?_, fun k hk => ?_, ?_⟩, hl, ?_, hs, ?_, fun i hi => ?_⟩
  · rw [setI_n (by omega)]; exact lm.1
  · rw [setI_n (by omega)]; exact lm.2.1 k hk
  · rw [setI_n (by omega)]; exact lm.2.2
  · show 3 * (j + 1) ≤ pos L.2 j + dgb (L.2 (pos L.2 j)) + 2
    omega
  · rw [setI_s, t30, nIs]
  · by_cases e : i = j
    · subst e
      exact ⟨kp.fm (by have := hL.2 _ ha; omega) fs (by omega) (by omega) (fun k hk => by omega), ha, hd, hl, a4⟩
    · obtain ⟨b1, b2, b3, b4, b5⟩ := a6 i (by omega)
      have hb : L.2 (pos L.2 i) < 256 := by have := hL.2 _ b2; omega
      exact ⟨(b1.fm hb f (by rintro (z | z | z | z) <;> omega) (by rintro (z | z | z | z) <;> omega) (fun k hk => by rintro (z | z | z | z) <;> omega)).fm hb fs (by omega) (by omega) (fun k hk => by omega), b2, b3, b4, b5⟩
theorem s_guardReads {S : Sg} {L : Nat × (Nat → Nat)} (h : LM S L 0) (hL : L.1 ≤ 96 ∧ ∀ k, k < L.1 → L.2 k ≤ 255) (h0 : S.1 140 30 = 0) : wp (L_X7_guard_12 400 1 S) (fun z => Fm gdI noJ S z.2 ∧ ((z.1 = 1 ∧ ∃ m, m ≠ 0 ∧ pos L.2 m = L.1 ∧ Rs z.2 L m) ∨ (z.1 = 0 ∧ ∃ k, z.2.1 140 29 = nI k ∧ (k ≤ 96 ∧ isMis L (nI k))))) := by
  have hn := hL.1
  have go : ∀ n j T, j ≤ 33 → 33 < j + n → Fm gdI noJ S T → Rs T L j → wp (L_X7_guard_12 (n + 1) 1 T) (fun z => Fm gdI noJ S z.2 ∧ ((z.1 = 1 ∧ ∃ m, m ≠ 0 ∧ pos L.2 m = L.1 ∧ Rs z.2 L m) ∨ (z.1 = 0 ∧ ∃ k, z.2.1 140 29 = nI k ∧ (k ≤ 96 ∧ isMis L (nI k))))) := by
    intro n
    induction n with
    | zero => intro j T a1 a2; omega
    | succ n ih =>
      intro j T a1 a2 f r
      have r' := r
      obtain ⟨b1, b2, b3, b4, b5, b6⟩ := r'
      rw [L_X7_guard_12]
      refine wp_ifn (by decide) ?_
      have body : (pos L.2 j = L.1 → L.1 = 0) → wp (bd (f_X7_statement T) (u2 fun r_1 S_1 => lt (if r_1 = 0 then (0 : Int32) else (1 : Int32)) fun x_1 => lt (setI S_1 140 30 ((S_1.1 140 30) + x_1)) fun S_2 => L_X7_guard_12 (n + 1) r_1 S_2)) (fun z => Fm gdI noJ S z.2 ∧ ((z.1 = 1 ∧ ∃ m, m ≠ 0 ∧ pos L.2 m = L.1 ∧ Rs z.2 L m) ∨ (z.1 = 0 ∧ ∃ k, z.2.1 140 29 = nI k ∧ (k ≤ 96 ∧ isMis L (nI k))))) := fun hz => by
        refine wp_bdm (s_statement b1 hL b2 hz b4 b5 (by omega)) ?_
        rintro ⟨q, U⟩ ⟨g, ⟨e, c1, c2, c3, c4, c5, c6⟩ | ⟨e, k, c1, c2⟩⟩
        · have e' : q = 1 := e
          subst e'
          refine wp_u2 (wp_ltq 1 (if_neg (by decide)) (wp_lt ?_))
          exact ih (j + 1) _ (by omega) (by omega) ((f.tr (g.mono st_gd fun _ _ q => q)).tr (Fm.setI (Or.inr (Or.inr (Or.inr ⟨rfl, by omega⟩))))) (r.step hL g c1 c2 c3 c4 c5 c6)
        · have e' : q = 0 := e
          subst e'
          refine wp_u2 (wp_ltq 0 (if_pos rfl) (wp_lt ?_))
          rw [L_X7_guard_12]
          refine wp_ifp rfl (wp_some ⟨(f.tr (g.mono st_gd fun _ _ q => q)).tr (Fm.setI (Or.inr (Or.inr (Or.inr ⟨rfl, by omega⟩)))), Or.inr ⟨rfl, k, ?_, c2⟩⟩)
          rw [setI_n (by omega)]; exact c1
      rw [b1.2.2, b1.1]
      refine wp_lt (wp_if (fun c => ?_) (fun c => ?_))
      · refine body fun e => ?_
        rw [e] at c
        exact absurd c (nI_nlt (Nat.le_refl _) (by omega))
      · have e : pos L.2 j = L.1 := by
          by_cases z : pos L.2 j < L.1
          · exact absurd (nI_lt z (by omega)) c
          · omega
        rw [b5]
        refine wp_if (fun d => ?_) (fun d => ?_)
        · refine body fun _ => ?_
          have : j = 0 := (nI_eq (b := 0) (by omega) (by omega)).mp d
          subst this
          exact e.symm
        · exact wp_some ⟨f, Or.inl ⟨rfl, j, fun z => d (by rw [z]; rfl), e, r⟩⟩
  exact go 399 0 S (by omega) (by omega) Fm.rf ⟨h, Nat.zero_le _, Nat.le_refl _, rfl, h0, fun i hi => by omega⟩
