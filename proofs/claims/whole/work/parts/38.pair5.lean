theorem p_clear {S : Sg} {G : Gst} (ok : GO G) (hC : CI S G) (hM : MI S G) : Same (f_X6_clear S) f_X7_clear := by
  refine mk (fun r G' => r = nI G.2.2.2.1.1 ∧ G' = (G.1, G.2.1, G.2.2.1, (0, fun _ => 0), G.2.2.2.2)) ok hM ?_ ?_
  · have f : Fr (fun o => o = 137 ∨ o = 138) S (setI S 137 0 0) := Fr.setI (Or.inl rfl)
    exact wp_some ⟨f.mono fun o q => by show o < 140; have : o = 137 ∨ o = 138 := q; omega, _, ⟨hC.2.2.2.1.1, rfl⟩, hC.T ok f ⟨setI_s, fun k hk => absurd hk (Nat.not_lt_zero k)⟩⟩
  · rintro r S' G' ⟨rfl, rfl⟩ h
    have f : Fm (fun o k => o = 165 ∨ (o = 140 ∧ k = 39)) noJ S' (setI S' 140 39 0) := Fm.setI (Or.inr ⟨rfl, rfl⟩)
    exact ⟨⟨ok.1, ok.2.1, ok.2.2.1, by show 0 ≤ 32; omega, fun k hk => absurd hk (Nat.not_lt_zero k)⟩, wp_some ⟨h.2.2.2.1.1, mfr f (fun o k q => by have : o = 165 ∨ (o = 140 ∧ k = 39) := q; omega) (fun _ _ q => q.elim), h.T ok f ⟨setI_s, fun k hk => absurd hk (Nat.not_lt_zero k)⟩⟩⟩
theorem p_image {S : Sg} {G : Gst} (ok : GO G) (hC : CI S G) (hM : MI S G) : Same (f_X6_image S) f_X7_image := by
  have hl := wg_l10 ok.1
  refine mk (fun r G' => r = nI (gh G.1).length ∧ G' = (G.1, some G.1, G.2.2)) ok hM ?_ ?_
  · refine wp_bdm (s_wcopy (o := 87) hC.1 hl (by omega)) fun S1 ⟨f1, c1⟩ => wp_lt (wp_some ?_)
    generalize hT : setI S1 0 3 1 = T
    have f2 : Fr (fun o => o = 0) S1 T := by rw [← hT]; exact Fr.setI rfl
    have f : Fr (fun o => o = 0 ∨ (87 ≤ o ∧ o < 116)) S T := (f1.mono fun o q => by have : 87 ≤ o ∧ o < 87 + 29 := q; show _ ∨ _; omega).tr (f2.mono fun o q => Or.inl q)
    have cT : CW 1 T G.1 := hC.1.fr f (fun p q => by have : 1 ≤ p ∧ p < 1 + 29 := q; show ¬ (_ ∨ _); omega) hl
    refine ⟨f.mono fun o q => by show o < 140; have : o = 0 ∨ (87 ≤ o ∧ o < 116) := q; omega, _, ⟨cT.2.2.1.2.2.2, rfl⟩, cT, ⟨fun q => (nomatch q), fun k q => ?_⟩, ⟨by rw [f.I (by show ¬ (_ ∨ _); omega)]; exact hC.2.2.1.1, fun k hk => by rw [f.I (by show ¬ (_ ∨ _); omega)]; exact hC.2.2.1.2 k hk⟩, ⟨by rw [f.I (by show ¬ (_ ∨ _); omega)]; exact hC.2.2.2.1.1, fun k hk => by rw [f.I (by show ¬ (_ ∨ _); omega)]; exact hC.2.2.2.1.2 k hk⟩, fun k hk => by rw [f.I (by show ¬ (_ ∨ _); omega)]; exact hC.2.2.2.2 k hk⟩
    have q' : G.1 = k := Option.some.inj q
    subst q'
    exact ⟨by rw [← hT, setI_s], c1.fr f2 (fun p q => by have : 87 ≤ p ∧ p < 87 + 29 := q; show ¬ (p = 0); omega) hl⟩
  · rintro r S' G' ⟨rfl, rfl⟩ h
    have f1 : Fm (fun o k => o = 140 ∧ k = 21) noJ S' (setI S' 140 21 1) := Fm.setI ⟨rfl, rfl⟩
    have m1 : MW (setI S' 140 21 1) G.1 := h.1.fm f1 (fun o k q => by have : (142 ≤ o ∧ o ≤ 147) ∨ (o = 140 ∧ 7 ≤ k ∧ k ≤ 10) := q; show ¬ (_ ∧ _); omega)
    refine ⟨⟨ok.1, fun k q => by have q' : G.1 = k := Option.some.inj q; exact q' ▸ ok.1, ok.2.2⟩, wp_lt (wp_bdm (s_keepW (q := 0) (by decide) m1 hl) fun T ⟨f2, m2, k2⟩ => wp_some ?_)⟩
    have f : Fm (fun o k => (o = 140 ∧ (k = 21 ∨ k = 22 ∨ k = 23)) ∨ (o = 154 ∧ k < 152)) noJ S' T := (f1.mono (fun o k q => by have : o = 140 ∧ k = 21 := q; show _ ∨ _; omega) fun _ _ q => q).tr (f2.mono (fun o k q => by have : (o = 154 ∧ 152 * 0 ≤ k ∧ k < 152 * 0 + 152) ∨ (o = 140 ∧ (k = 22 ∨ k = 23)) := q; show _ ∨ _; omega) fun _ _ q => q)
    refine ⟨m2.2.2.1.2.2.2, mfr f (fun o k q => by have : (o = 140 ∧ (k = 21 ∨ k = 22 ∨ k = 23)) ∨ (o = 154 ∧ k < 152) := q; omega) (fun _ _ q => q.elim), m2, ⟨fun q => (nomatch q), fun k q => ?_⟩, ⟨by rw [f.1 _ _ (by show ¬ (_ ∨ _); omega)]; exact h.2.2.1.1, fun k hk => by rw [f.1 _ _ (by show ¬ (_ ∨ _); omega)]; exact h.2.2.1.2 k hk⟩, ⟨by rw [f.1 _ _ (by show ¬ (_ ∨ _); omega)]; exact h.2.2.2.1.1, fun k hk => by rw [f.1 _ _ (by show ¬ (_ ∨ _); omega)]; exact h.2.2.2.1.2 k hk⟩, fun k hk => by rw [f.1 _ _ (by show ¬ (_ ∨ _); omega)]; exact h.2.2.2.2 k hk⟩
    have q' : G.1 = k := Option.some.inj q
    subst q'
    exact ⟨by rw [f2.1 _ _ (by show ¬ (_ ∨ _); omega), setI_s], k2⟩
theorem p_on {S : Sg} {G : Gst} (ok : GO G) (hC : CI S G) (hM : MI S G) : Same (f_X6_on S) f_X7_on := by
  cases hg : G.2.1 with
  | none =>
    unfold f_X6_on
    rw [hC.2.1.1 hg, if_pos rfl]
    exact refS r3 ok hC hM fun S' h => by unfold f_X7_on; rw [h.2.1.1 hg, if_pos rfl]
  | some k =>
    have gk := ok.2.1 k hg
    refine mk (fun r G' => r = nI (gh k).length ∧ G' = (k, G.2)) ok hM ?_ ?_
    · unfold f_X6_on
      rw [(hC.2.1.2 k hg).1]
      exact wp_ifn (by decide) (wp_bdm (s_wcopy (o := 1) (hC.2.1.2 k hg).2 (wg_l10 gk) (by omega)) fun S1 ⟨f1, c1⟩ => wp_some ⟨(fw f1 iw1).mono cl, _, ⟨c1.2.2.1.2.2.2, rfl⟩, hC.w ok (fw f1 iw1) c1⟩)
    · rintro r S' G' ⟨rfl, rfl⟩ h
      refine ⟨⟨gk, ok.2⟩, ?_⟩
      unfold f_X7_on
      rw [(h.2.1.2 k hg).1]
      refine wp_ifn (by decide) (wp_bdm (s_backW (q := 0) (by decide) (h.2.1.2 k hg).2 (wg_l10 gk)) fun T ⟨f2, m2, _⟩ => wp_some ⟨m2.2.2.1.2.2.2, mfr f2 (fun o k q => ?_) (fun _ _ q => q.elim), h.w ok f2 (fun o k _ n1 n2 q => ?_) m2⟩)
      · have : ((142 ≤ o ∧ o ≤ 147) ∨ (o = 140 ∧ 7 ≤ k ∧ k ≤ 10)) ∨ (o = 140 ∧ (k = 22 ∨ k = 23)) := q; omega
      · rcases q with q | q
        · exact n2 q
        · exact n1 ⟨by omega, n2, by omega, by omega, by omega, by omega, by omega⟩
theorem lowst_eq {S : Sg} {j : Nat} (hj : j < 6) : f_X7_lowestOf (I (-(j + 1 : Nat))) S = some ((4000000000000000000 : Int64) - (I (-(j + 1 : Nat))).toInt64, setI S 141 (j + 1) (S.1 141 (j + 1) + 1)) := by
  have : ∀ j, j < 6 → (-(I (-(j + 1 : Nat))) : Int32) = nI (j + 1) := by decide +kernel
  unfold f_X7_lowestOf
  rw [this j hj]
  refine wp_to (wp_gd (inb_n (by omega) (by decide)) (wp_lt (wp_some ?_)))
  rw [ix_n (by omega)]
theorem lower_eq {S : Sg} {j : Nat} (hj : j < 6) : f_X7_lower (I (-(j + 1 : Nat))) S = some ((1000000000 : Int32) - (I (-(j + 1 : Nat))), setI S 141 (j + 1) (S.1 141 (j + 1) + 1)) := by
  have : ∀ j, j < 6 → (-(I (-(j + 1 : Nat))) : Int32) = nI (j + 1) := by decide +kernel
  unfold f_X7_lower
  rw [this j hj]
  refine wp_to (wp_gd (inb_n (by omega) (by decide)) (wp_lt (wp_some ?_)))
  rw [ix_n (by omega)]
theorem refJ {f7 : Sg → Option (Int64 × Sg)} {S : Sg} {G : Gst} {v : Int32} {j : Nat} (hv : isRef v j) (ok : GO G) (hC : CI S G) (hM : MI S G) (h7 : ∀ S', MI S' G → f7 S' = bd (f_X7_lowestOf v S') (u2 fun r T => some (r, T))) : Same (bd (f_X6_refuse v S) (u2 fun r T => some ((4000000000000000000 : Int64) - r.toInt64, T))) f7 := by
  obtain ⟨hj, rfl⟩ := hv
  refine mk (fun r G' => r = (4000000000000000000 : Int64) - (I (-(j + 1 : Nat))).toInt64 ∧ G' = bump G j) ok hM ?_ ?_
  · exact wp_bds (refuse_eq hj) (wp_u2 (wp_some ⟨Fr.setI (by show (139 : Nat) < 140; decide), _, ⟨rfl, rfl⟩, hC.ref ok hj⟩))
  · rintro r S' G' ⟨rfl, rfl⟩ hM'
    refine ⟨ok, ?_⟩
    rw [h7 S' hM']
    exact wp_bds (lowst_eq hj) (wp_u2 (wp_some ⟨rfl, Fr.setI (by show 140 ≤ (141 : Nat); decide), hM'.ref ok⟩))
theorem refL6 {S : Sg} {G : Gst} {v : Int32} {j : Nat} (hv : isRef v j) (ok : GO G) (hC : CI S G) : wp (bd (f_X6_refuse v S) (u2 fun r T => some ((1000000000 : Int32) - r, T))) (fun z => z.1 = (1000000000 : Int32) - v ∧ Fr cls S z.2 ∧ CI z.2 (bump G j)) := by
  obtain ⟨h, rfl⟩ := hv
  exact wp_bds (refuse_eq h) (wp_u2 (wp_some ⟨rfl, Fr.setI (by show (139 : Nat) < 140; decide), hC.ref ok h⟩))
theorem refL7 {S : Sg} {G : Gst} {v : Int32} {j : Nat} (hv : isRef v j) (ok : GO G) (hM : MI S G) : wp (bd (f_X7_lower v S) (u2 fun r T => some (r, T))) (fun z => z.1 = (1000000000 : Int32) - v ∧ Fr mdl S z.2 ∧ MI z.2 (bump G j)) := by
  obtain ⟨h, rfl⟩ := hv
  exact wp_bds (lower_eq h) (wp_u2 (wp_some ⟨rfl, Fr.setI (by show 140 ≤ (141 : Nat); decide), hM.ref ok⟩))
theorem p_answer {S : Sg} {G : Gst} (ok : GO G) (hC : CI S G) (hM : MI S G) (p : Int32) : Same (f_X6_answer p S) (f_X7_answer p) := by
  have hl := wg_l10 ok.1
  unfold f_X6_answer
  rw [hC.1.2.2.1.2.2.2]
  rcases isW_cases p (n := (gh G.1).length) (by omega) with ⟨j, hj, rfl, e⟩ | ⟨_, e⟩
  · rw [e, if_neg (by decide), s_answerOf hC.1 hj hl]
    exact still ok hC hM (r := (I (dat G.1 3 j)).toInt64) rfl fun S' h => by
      unfold f_X7_answer
      rw [row_w h.1 hl, e, if_neg (by decide), show inb (nI j) 10 = true from inb_n (by omega) (by decide), ix_n (by omega), (h.1.2.2.2 j hj).1]
      rfl
  · rw [e, if_pos rfl]
    exact refJ r1 ok hC hM fun S' h => by
      unfold f_X7_answer
      rw [row_w h.1 hl, e, if_pos rfl]
theorem p_ledger {S : Sg} {G : Gst} (ok : GO G) (hC : CI S G) (hM : MI S G) (p q : Int32) : Same (f_X6_ledger p q S) (f_X7_ledger p q) := by
  have hl := wg_l10 ok.1
  have hk := ok.1.1
  have hv := hk.2.2.1
  unfold f_X6_ledger
  rw [hC.1.2.2.1.2.2.2, has_w hC.1 hv.2]
  rcases isW_cases p (n := (gh G.1).length) (by omega) with ⟨j, hj, rfl, e⟩ | ⟨_, e⟩
  · rw [e, if_neg (by decide)]
    rcases isW_cases q (n := num G.1 0) (by omega) with ⟨v, hv', rfl, e'⟩ | ⟨_, e'⟩
    · rw [e', if_neg (by decide), s_coef hC.1 hj hl (by omega)]
      exact still ok hC hM (r := (100 : Int32) + I (gro (gh G.1) j v)) rfl fun S' h => by
        unfold f_X7_ledger
        rw [row_w h.1 hl, e, if_neg (by decide), in_w h.1 hk, e', if_neg (by decide), ten, nI_mul, nI_add, show inb (nI (10 * j + v)) 100 = true from inb_n (by omega) (by decide), ix_n (by omega), (h.1.2.2.2 j hj).2 v (by omega), Int32.add_comm]
        rfl
    · rw [e', if_pos rfl]
      exact refS r1 ok hC hM fun S' h => by
        unfold f_X7_ledger
        rw [row_w h.1 hl, e, if_neg (by decide), in_w h.1 hk, e', if_pos rfl]
  · rw [e, if_pos rfl]
    exact refS r1 ok hC hM fun S' h => by
      unfold f_X7_ledger
      rw [row_w h.1 hl, e, if_pos rfl]
theorem p_count {S : Sg} {G : Gst} (ok : GO G) (hC : CI S G) (hM : MI S G) (p : Int32) : wp (f_X6_count p S) (fun r => f_X7_count p S = some r) := by
  have hl := wg_l10 ok.1
  have hk := ok.1.1
  by_cases h : ∃ j, j < 6 ∧ p = nI (11 + j)
  · obtain ⟨j, hj, rfl⟩ := h
    have e1 : ∀ m, m < 11 → ¬ nI (11 + j) = nI m := fun m hm q => by have := (nI_eq (by omega) (by omega)).mp q; omega
    have e2 : nI (11 + j) - (11 : Int32) = nI j := by
      show nI (11 + j) - nI 11 = _
      rw [Nat.add_comm, ← nI_add]; exact Int32.add_sub_cancel _ _
    have e3 : nI (11 + j) - (10 : Int32) = nI (j + 1) := by
      show nI (11 + j) - nI 10 = _
      rw [show 11 + j = (j + 1) + 10 by omega, ← nI_add (j + 1)]; exact Int32.add_sub_cancel _ _
    unfold f_X6_count
    refine wp_ifn (e1 0 (by omega)) (wp_ifn (e1 1 (by omega)) (wp_ifn (e1 2 (by omega)) (wp_ifn (e1 3 (by omega)) (wp_ifn (e1 4 (by omega)) (wp_ifn (e1 5 (by omega)) (wp_ifn (e1 6 (by omega)) (wp_ifn (e1 7 (by omega)) ?_)))))))
    rw [e2, show f_X6_isWithin (nI j) (6 : Int32) = 1 from isW_lit (n := 6) hj (by decide)]
    refine wp_ifn (by decide) (wp_gd (inb_n hj (by decide)) (wp_some ?_))
    unfold f_X7_count
    rw [show f_X7_isIn (nI (11 + j)) (11 : Int32) (16 : Int32) = 1 from (isIn_lit (lo := 11) (hi := 16) (by omega) (by omega) (by omega)).trans (if_pos (by omega)), if_neg (by decide), e3, show inb (nI (j + 1)) 7 = true from inb_n (by omega) (by decide), ix_n (by omega), ix_n (by omega), hC.2.2.2.2 j hj, hM.2.2.2.2 j hj]
    rfl
  · have a6 : f_X6_isWithin (p - (11 : Int32)) (6 : Int32) = 0 := by
      rcases isW_cases (p - (11 : Int32)) (n := 6) (by decide) with ⟨j, hj, e, _⟩ | ⟨_, e⟩
      · refine absurd ⟨j, hj, ?_⟩ h
        have : p = (p - 11) + 11 := (Int32.sub_add_cancel p 11).symm
        rw [this, e, Nat.add_comm, ← nI_add]
        rfl
      · exact e
    have a7 : f_X7_isIn p (11 : Int32) (16 : Int32) = 0 := by
      show (if p < 11 then (0 : Int32) else if 16 < p then 0 else 1) = 0
      by_cases h1 : p < 11
      · exact if_pos h1
      · rw [if_neg h1]
        by_cases h2 : 16 < p
        · exact if_pos h2
        · have h0 : ¬ p < 0 := fun q => h1 (by
            rw [Int32.lt_iff_toInt_lt] at q ⊢
            have e0 : (0 : Int32).toInt = 0 := rfl
            have e1 : (11 : Int32).toInt = 11 := rfl
            omega)
          obtain ⟨j, hj, rfl⟩ := nI_of h0
          have h3 : 11 ≤ j := by
            by_cases q : j < 11
            · exact absurd (nI_lt (b := 11) q (by decide)) h1
            · omega
          have h4 : j ≤ 16 := by
            by_cases q : 16 < j
            · exact absurd (nI_lt (a := 16) q hj) h2
            · omega
          exact absurd ⟨j - 11, by omega, by rw [show 11 + (j - 11) = j by omega]⟩ h
    unfold f_X6_count f_X7_count
    rw [a7]
    refine wp_if (fun h => ?_) fun n0 => wp_if (fun h => ?_) fun n1 => wp_if (fun h => ?_) fun n2 => wp_if (fun h => ?_) fun n3 => wp_if (fun h => ?_) fun n4 => wp_if (fun h => ?_) fun n5 => wp_if (fun h => ?_) fun n6 => wp_if (fun h => ?_) fun n7 => ?_
    · rw [if_pos rfl, if_pos h, hM.1.2.2.1.2.2.2]; exact wp_some (by rw [hC.1.2.2.1.2.2.2])
    · rw [if_pos rfl, if_neg n0, if_pos h, hM.1.2.2.1.1]; exact wp_some (by rw [hC.1.2.2.1.1])
    · rw [if_pos rfl, if_neg n0, if_neg n1, if_pos h, hM.1.2.2.1.2.1]; exact wp_some (by rw [hC.1.2.2.1.2.1])
    · rw [if_pos rfl, if_neg n0, if_neg n1, if_neg n2, if_pos h, hM.1.2.2.1.2.2.1]; exact wp_some (by rw [hC.1.2.2.1.2.2.1])
    · rw [if_pos rfl, if_neg n0, if_neg n1, if_neg n2, if_neg n3, if_pos h]
      obtain ⟨y, ey, by_⟩ := s_notFree hM.1 hk hl
      refine wp_bdm (s_usedBits hC.1 hl (rows_bdd hk)) fun x hx => wp_some ?_
      rw [ey, bits_eq hx by_]
      rfl
    · rw [if_pos rfl, if_neg n0, if_neg n1, if_neg n2, if_neg n3, if_neg n4, if_pos h, s_valuesOfPeople hC.1 hk, s_allValues hM.1 hk]
      exact wp_some rfl
    · rw [if_pos rfl, if_neg n0, if_neg n1, if_neg n2, if_neg n3, if_neg n4, if_neg n5, if_pos h, hM.2.2.2.1.1]; exact wp_some (by rw [hC.2.2.2.1.1])
    · rw [if_pos rfl, if_neg n0, if_neg n1, if_neg n2, if_neg n3, if_neg n4, if_neg n5, if_neg n6, if_pos h, hM.2.2.1.1]; exact wp_some (by rw [hC.2.2.1.1])
    · rw [a6, if_pos rfl, if_pos rfl, if_neg n0, if_neg n1, if_neg n2, if_neg n3, if_neg n4, if_neg n5, if_neg n6, if_neg n7]; exact wp_some rfl
