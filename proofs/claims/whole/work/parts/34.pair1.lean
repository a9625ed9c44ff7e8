/-! the pairs of methods -/
theorem in_w {S : Sg} {w : Wd} (hw : MW S w) (hk : wok w) (p : Int32) : f_X7_isVariable p S = f_X6_isWithin p (nI (num w 0)) := by
  show f_X7_isIn p 0 (S.1 140 7 - 1) = _
  rw [hw.2.2.1.1]; exact isIn_w p (by have := hk.2.2.1; omega)
theorem has_w {o : Nat} {S : Sg} {w : Wd} (hw : CW o S w) (hv : num w 0 ≤ 10) (p : Int32) : f_X5_has o p S = f_X6_isWithin p (nI (num w 0)) := by
  rcases has_cases hw hv p with ⟨j, hj, rfl, e⟩ | ⟨ne, e⟩
  · rw [e, isW_lit hj (by omega)]
  · rcases isW_cases p (n := num w 0) (by omega) with ⟨j, hj, rfl, _⟩ | ⟨_, e2⟩
    · exact absurd rfl (ne j hj)
    · rw [e, e2]
theorem per_w (p : Int32) : f_X7_isPerson p = f_X6_isWithin p (8 : Int32) := isIn_w p (n := 8) (by decide)
theorem row_w {S : Sg} {w : Wd} (hw : MW S w) (hl : (gh w).length ≤ 10) (p : Int32) : f_X7_isRow p S = f_X6_isWithin p (nI (gh w).length) := by
  show f_X7_isIn p 0 (S.1 140 8 - 1) = _
  rw [hw.2.2.1.2.2.2]; exact isIn_w p (by omega)
theorem mis_cases (p : Int32) (b : Nat) (hb : b < 1000) : (f_X6_misfit p 0 (nI b) = -4 ∧ p < 0) ∨ (f_X6_misfit p 0 (nI b) = -6 ∧ ¬ p < 0 ∧ nI b < p) ∨ (f_X6_misfit p 0 (nI b) = 0 ∧ ∃ x : Nat, x ≤ b ∧ p = nI x) := by
  show ((if p < 0 then (-4 : Int32) else if nI b < p then -6 else 0) = -4 ∧ _) ∨ ((if p < 0 then (-4 : Int32) else if nI b < p then -6 else 0) = -6 ∧ _) ∨ ((if p < 0 then (-4 : Int32) else if nI b < p then -6 else 0) = 0 ∧ _)
  by_cases h : p < 0
  · exact Or.inl ⟨if_pos h, h⟩
  · refine Or.inr ?_
    obtain ⟨j, hj, rfl⟩ := nI_of h
    by_cases h2 : nI b < nI j
    · exact Or.inl ⟨by rw [if_neg h, if_pos h2], h, h2⟩
    · refine Or.inr ⟨by rw [if_neg h, if_neg h2], j, ?_, rfl⟩
      by_cases e : j ≤ b
      · exact e
      · exact absurd (nI_lt (by omega) hj) h2
theorem fin6 {α : Type} {r : α} {S : Sg} {G : Gst} {R : α → Gst → Prop} (h : R r G) (hC : CI S G) : wp (some (r, S)) (fun z => Fr cls S z.2 ∧ ∃ G', R z.1 G' ∧ CI z.2 G') := wp_some ⟨Fr.rf, G, h, hC⟩
/-- nothing moves -/
theorem still {α : Type} {f6 : Option (α × Sg)} {f7 : Sg → Option (α × Sg)} {S : Sg} {G : Gst} {r : α} (ok : GO G) (hC : CI S G) (hM : MI S G)
    (h6 : f6 = some (r, S)) (h7 : ∀ S', MI S' G → f7 S' = some (r, S')) : Same f6 f7 :=
  mk (fun r' G' => r' = r ∧ G' = G) ok hM (by rw [h6]; exact fin6 (R := fun r' G' => r' = r ∧ G' = G) ⟨rfl, rfl⟩ hC) fun r' S' G' hR hM' => by
    obtain ⟨rfl, rfl⟩ := hR
    rw [h7 S' hM']
    exact ⟨ok, wp_some ⟨rfl, Fr.rf, hM'⟩⟩
theorem p_person {S : Sg} {G : Gst} (ok : GO G) (hC : CI S G) (hM : MI S G) (p q : Int32) : Same (f_X6_person p q S) (f_X7_person p q) := by
  have hk := ok.1.1
  have hl := wg_l10 ok.1
  unfold f_X6_person
  rcases isW_cases p (n := 8) (by decide) with ⟨j, hj, rfl, e⟩ | ⟨_, e⟩
  · rw [show f_X6_isWithin (nI j) (8 : Int32) = 1 from e, if_neg (by decide)]
    have m7 : ∀ S' : Sg, MI S' G → f_X7_person (nI j) q S' = if q = 0 then some (I (dat G.1 0 (own G.1 j)), S') else if q = 1 then some (nI (own G.1 j), S') else if q = 2 then bd (f_X7_isFree (nI (own G.1 j)) S') (fun r => some (if r = 0 then 0 else 1, S')) else bd (f_X7_no (-2) S') (u2 fun r T => some (r, T)) := fun S' h => by
      unfold f_X7_person
      rw [per_w, show f_X6_isWithin (nI j) (8 : Int32) = 1 from e, if_neg (by decide), show inb (nI j) 8 = true from inb_n hj (by decide), ix_n (by omega), h.1.1 j hj]
      show (if q = 0 then gd (inb (nI (own G.1 j)) 10) (some (S'.1 142 (ix (nI (own G.1 j))), S')) else _) = _
      rw [show inb (nI (own G.1 j)) 10 = true from inb_n (own10 hk hj) (by decide), ix_n (by have := own10 hk hj; omega), (h.1.2.1 _ (own10 hk hj)).1]
      rfl
    rcases isW_cases q (n := 3) (by decide) with ⟨l, hl3, rfl, e3⟩ | ⟨ne, e3⟩
    · rw [show f_X6_isWithin (nI l) (3 : Int32) = 1 from e3, if_neg (by decide), s_variableOf hC.1 hj]
      have : l = 0 ∨ l = 1 ∨ l = 2 := by omega
      rcases this with rfl | rfl | rfl
      · refine still ok hC hM (r := I (dat G.1 0 (own G.1 j))) ?_ fun S' h => by rw [m7 S' h, if_pos (by decide)]
        show bd (f_X5_valueOf 1 (nI (own G.1 j)) S) _ = _
        rw [s_valueOf hC.1 hk.2.2.1.2 (hk.1 j hj)]
        rfl
      · exact still ok hC hM (r := nI (own G.1 j)) rfl fun S' h => by rw [m7 S' h, if_neg (by decide), if_pos (by decide)]
      · obtain ⟨r, er, hr⟩ := s_isFree hC.1 hl (rows_bdd hk) (own10 hk hj)
        have e6 : (bd (some (nI (own G.1 j))) fun r_1 => if nI 2 = 0 then bd (f_X5_valueOf 1 r_1 S) (fun r_3 => some (r_3, S)) else if nI 2 = (1 : Int32) then some (r_1, S) else bd (f_X5_isFree 1 r_1 S) (fun r_2 => some (f_X6_asNumber r_2, S))) = some (f_X6_asNumber r, S) := by
          show bd (f_X5_isFree 1 (nI (own G.1 j)) S) _ = _
          rw [er]; rfl
        refine still ok hC hM (r := f_X6_asNumber r) e6 fun S' h => ?_
        rw [m7 S' h, if_neg (by decide), if_neg (by decide), if_pos (by decide)]
        obtain ⟨r', er', hr'⟩ := s_isFreeM h.1 hl (rows_bdd hk) (own10 hk hj)
        rw [er']
        show some ((if r' = 0 then (0 : Int32) else 1), S') = _
        rcases hr with ⟨rfl, a⟩ | ⟨rfl, a⟩ <;> rcases hr' with ⟨rfl, b⟩ | ⟨rfl, b⟩
        · rfl
        · exact absurd a b
        · exact absurd b a
        · rfl
    · rw [show f_X6_isWithin q (3 : Int32) = 0 from e3, if_pos rfl]
      exact ref 1 (by decide) ok hC hM (by decide) fun S' h => by rw [m7 S' h, if_neg (show q ≠ 0 from ne 0 (by decide)), if_neg (show q ≠ 1 from ne 1 (by decide)), if_neg (show q ≠ 2 from ne 2 (by decide))]
  · rw [show f_X6_isWithin p (8 : Int32) = 0 from e, if_pos rfl]
    exact ref 0 (by decide) ok hC hM (by decide) fun S' h => by
      unfold f_X7_person
      rw [per_w, show f_X6_isWithin p (8 : Int32) = 0 from e, if_pos rfl]
