/-! the class alone: what it holds, call by call -/
abbrev spo : Nat → Prop := fun o => (30 ≤ o ∧ o < 87) ∨ 116 ≤ o
abbrev spw : Nat → Prop := fun o => (1 ≤ o ∧ o < 87) ∨ 116 ≤ o
def KI (S : Sg) (w : Wd) (kp : Option Wd) : Prop := wgood w ∧ CW 1 S w ∧ ∀ k, kp = some k → wgood k ∧ S.1 0 3 = 1 ∧ CW 87 S k
theorem KI.sc {S S' : Sg} {w : Wd} {kp : Option Wd} (h : KI S w kp) (f : Fr spo S S') : KI S' w kp := by
  obtain ⟨h1, h2, h3⟩ := h
  exact ⟨h1, h2.fr f (fun p q => by show ¬ (_ ∨ _); have : 1 ≤ p ∧ p < 1 + 29 := q; omega) (wg_l10 h1), fun k e => ⟨(h3 k e).1, by rw [f.I (by show ¬ (_ ∨ _); omega)]; exact (h3 k e).2.1, (h3 k e).2.2.fr f (fun p q => by show ¬ (_ ∨ _); have : 87 ≤ p ∧ p < 87 + 29 := q; omega) (wg_l10 (h3 k e).1)⟩⟩
theorem KI.w {S S' : Sg} {w w' : Wd} {kp : Option Wd} (h : KI S w kp) (g : wgood w') (f : Fr spw S S') (hw : CW 1 S' w') : KI S' w' kp := by
  obtain ⟨h1, h2, h3⟩ := h
  exact ⟨g, hw, fun k e => ⟨(h3 k e).1, by rw [f.I (by show ¬ (_ ∨ _); omega)]; exact (h3 k e).2.1, (h3 k e).2.2.fr f (fun p q => by show ¬ (_ ∨ _); have : 87 ≤ p ∧ p < 87 + 29 := q; omega) (wg_l10 (h3 k e).1)⟩⟩
theorem fwd {S S' : Sg} (f : Fr (inWd 1) S S') : Fr spw S S' := f.mono fun o h => by have : 1 ≤ o ∧ o < 1 + 29 := h; show _ ∨ _; omega
theorem fwa {S S' : Sg} (f : Fr (inAll 1) S S') : Fr spw S S' := f.mono fun o h => by have : 1 ≤ o ∧ o < 1 + 43 := h; show _ ∨ _; omega
theorem k_ref {S : Sg} {w : Wd} {kp : Option Wd} {v : Int32} {j : Nat} (hv : isRef v j) (h : KI S w kp) : wp (f_X6_refuse v S) (fun z => z.1 = v ∧ KI z.2 w kp) := by
  obtain ⟨hj, rfl⟩ := hv
  rw [refuse_eq hj]
  exact wp_some ⟨rfl, h.sc (Fr.setI (show (30 ≤ 139 ∧ 139 < 87) ∨ 116 ≤ 139 by omega))⟩
theorem k_refe {S : Sg} {w : Wd} {kp : Option Wd} {v : Int32} {j : Nat} (hv : isRef v j) (h : KI S w kp) : wp (bd (f_X6_refuse v S) (u2 fun r T => some (r, T))) (fun z => z.1 = v ∧ KI z.2 w kp) := by
  refine wp_bdm (k_ref hv h) ?_
  rintro ⟨r, T⟩ hT
  exact wp_u2 (wp_some hT)
theorem k_tells {S : Sg} {w : Wd} {kp : Option Wd} (h : KI S w kp) (p q : Int32) : wp (f_X6_tells p q S) (fun z => ∃ w', KI z.2 w' kp) := by
  have hk := h.1.1
  have hl := wg_l10 h.1
  unfold f_X6_tells
  rcases vm_cases p q with ⟨j, hj⟩ | ⟨j, x, hj, hx, rfl, rfl, e⟩
  · generalize f_X6_misfitOfValue p q = v at hj
    exact wp_lt (wp_ifn hj.ne (wp_mono (k_refe hj h) fun z hz => ⟨w, hz.2⟩))
  · rw [e]
    refine wp_lt (wp_ifp rfl ?_)
    rw [s_variableOf h.2.1 hj]
    refine wp_bds rfl ?_
    rw [s_valueOf h.2.1 hk.2.2.1.2 (hk.1 j hj)]
    refine wp_bds rfl (wp_bdm (s_takeTold (x := x) h.2.1 hk hl hj) ?_)
    rintro ⟨r, S1⟩ (⟨e1, hf, f1, c1⟩ | ⟨e1, hf, e2⟩)
    · have e1' : r = 1 := e1
      subst e1'
      exact wp_u2 (wp_ifn (by decide) (wp_some ⟨_, h.w (wg_set h.1 (by omega) hf) (fwd f1) c1⟩))
    · have e1' : r = 0 := e1
      have e2' : S1 = S := e2
      subst e1' e2'
      exact wp_u2 (wp_ifp rfl (wp_mono (k_refe r3 h) fun z hz => ⟨w, hz.2⟩))
theorem k_changes {S : Sg} {w : Wd} {kp : Option Wd} (h : KI S w kp) (p q : Int32) : wp (f_X6_changes p q S) (fun z => ∃ w', KI z.2 w' kp) := by
  have hk := h.1.1
  have hl := wg_l10 h.1
  unfold f_X6_changes
  rcases vm_cases p q with ⟨j, hj⟩ | ⟨j, x, hj, hx, rfl, rfl, e⟩
  · generalize f_X6_misfitOfValue p q = v at hj
    exact wp_lt (wp_ifn hj.ne (wp_mono (k_refe hj h) fun z hz => ⟨w, hz.2⟩))
  · rw [e]
    refine wp_lt (wp_ifp rfl (wp_bdm (s_takeChange (x := x) h.2.1 hk hl hj) ?_))
    rintro ⟨r, S1⟩ (⟨e1, hf, f1, c1⟩ | ⟨e1, hf, e2⟩)
    · have e1' : r = 1 := e1
      subst e1'
      refine wp_u2 (wp_ifn (by decide) ?_)
      show wp (bd (f_X5_variableOf 1 (nI j) S1) _) _
      rw [s_variableOf c1 hj]
      exact wp_bds rfl (wp_some ⟨_, h.w (wg_chg h.1 hf hj (by omega)) (fwd f1) c1⟩)
    · have e1' : r = 0 := e1
      have e2' : S1 = S := e2
      subst e1' e2'
      exact wp_u2 (wp_ifp rfl (wp_mono (k_refe r6 h) fun z hz => ⟨w, hz.2⟩))
theorem k_rule {S : Sg} {w : Wd} {kp : Option Wd} (h : KI S w kp) {r : Nat} (hr : r < 4) : wp (f_X6_rule (nI r) S) (fun z => z.1 = nI (num w 1) ∧ KI z.2 (wnum w 1 r) kp) := by
  have hl := wg_l10 h.1
  unfold f_X6_rule
  rw [h.2.1.2.2.1.2.1]
  refine wp_lt (wp_bdm (s_takeRule h.2.1 hl (nI r)) ?_)
  rintro ⟨r', S1⟩ (⟨e1, x, hx, e, f1, c1⟩ | ⟨e1, hf, e2⟩)
  · have e1' : r' = 1 := e1
    have e' : r = x := (nI_eq (by omega) (by omega)).mp e
    subst e1' e'
    exact wp_u2 (wp_ifn (by decide) (wp_some ⟨rfl, h.w (wg_rule h.1 hr) (fwd f1) c1⟩))
  · exact absurd rfl (hf r hr)
theorem k_limit {S : Sg} {w : Wd} {kp : Option Wd} (h : KI S w kp) (p : Int32) : wp (f_X6_limit p S) (fun z => ∃ w', KI z.2 w' kp) := by
  have hl := wg_l10 h.1
  unfold f_X6_limit
  have go : ∀ v j, isRef v j → f_X6_misfit p 0 (10 : Int32) = v → wp (lt (f_X6_misfit p 0 (10 : Int32)) fun v2_1 => if v2_1 = 0 then lt (S.1 1 6) fun v3_1 => bd (f_X5_takeLimit 1 p S) (u2 fun _ S_1 => some (v3_1, S_1)) else bd (f_X6_refuse v2_1 S) (u2 fun r T => some (r, T))) (fun z => ∃ w', KI z.2 w' kp) := fun v j hj e => by
    rw [e]
    exact wp_lt (wp_ifn hj.ne (wp_mono (k_refe hj h) fun z hz => ⟨w, hz.2⟩))
  rcases mis_cases p 10 (by decide) with ⟨e, _⟩ | ⟨e, _⟩ | ⟨e, x, hx, rfl⟩
  · exact go _ _ r4 e
  · exact go _ _ r6 e
  · rw [show f_X6_misfit (nI x) 0 (10 : Int32) = 0 from e]
    refine wp_lt (wp_ifp rfl (wp_lt (wp_bdm (s_takeLimit h.2.1 hl (nI x)) ?_)))
    rintro ⟨r, S1⟩ (⟨e1, y, hy, e2, f1, c1⟩ | ⟨e1, hf, e2⟩)
    · exact wp_u2 (wp_some ⟨_, h.w (wg_lim h.1 hy) (fwd f1) c1⟩)
    · exact absurd rfl (hf x hx)
theorem k_bounds {S : Sg} {w : Wd} {kp : Option Wd} (h : KI S w kp) (p q r : Int32) : wp (f_X6_bounds p q r S) (fun z => ∃ w', KI z.2 w' kp) := by
  have hk := h.1.1
  have hv := hk.2.2.1
  have e6 : f_X5_has 1 p S = f_X6_isWithin p (nI (num w 0)) := has_w h.2.1 hv.2 p
  have rr : ∀ v j, isRef v j → wp (bd (f_X6_refuse v S) (u2 fun r T => some (r, T))) (fun z => ∃ w', KI z.2 w' kp) := fun v j hj => wp_mono (k_refe hj h) fun z hz => ⟨w, hz.2⟩
  unfold f_X6_bounds
  rcases isW_cases p (n := num w 0) (by omega) with ⟨j, hj, rfl, e⟩ | ⟨_, e⟩
  · have a6 : ¬ f_X5_has 1 (nI j) S = 0 := by rw [e6, e]; decide
    refine wp_ifn a6 (wp_if (fun _ => rr _ _ r4) fun q1 => wp_if (fun _ => rr _ _ r4) fun q2 => wp_if (fun _ => rr _ _ r6) fun q3 => wp_if (fun _ => rr _ _ r6) fun q4 => ?_)
    rcases val_cases q with u | ⟨_, u⟩ | ⟨x, hx, rfl⟩
    · exact absurd u q1
    · exact absurd u q3
    rcases val_cases r with u | ⟨_, u⟩ | ⟨y, hy, rfl⟩
    · exact absurd u q2
    · exact absurd u q4
    have hd := hk.2.2.2.2.2.1 j (by omega)
    refine wp_bdm (s_takeBounds (x := x) (y := y) h.2.1 hk hj (by omega) (by omega)) ?_
    rintro ⟨r, S1⟩ (⟨e1, hf, f1, c1⟩ | ⟨e1, hf, e2⟩)
    · have e1' : r = 1 := e1
      subst e1'
      exact wp_u2 (wp_ifn (by decide) (wp_some ⟨_, h.w (wg_bnd h.1 (by omega)) (fwd f1) c1⟩))
    · have e1' : r = 0 := e1
      have e2' : S1 = S := e2
      subst e1' e2'
      exact wp_u2 (wp_ifp rfl (rr _ _ r3))
  · exact wp_ifp (by rw [e6, e]) (rr _ _ r1)
theorem k_image {S : Sg} {w : Wd} {kp : Option Wd} (h : KI S w kp) : wp (f_X6_image S) (fun z => z.1 = nI (gh w).length ∧ KI z.2 w (some w)) := by
  have hl := wg_l10 h.1
  unfold f_X6_image
  refine wp_bdm (s_wcopy (o := 87) h.2.1 hl (by omega)) fun S1 ⟨f1, c1⟩ => wp_lt (wp_some ?_)
  generalize hT : setI S1 0 3 1 = T
  have f2 : Fr (fun o => o = 0) S1 T := by rw [← hT]; exact Fr.setI rfl
  have f : Fr (fun o => o = 0 ∨ (87 ≤ o ∧ o < 116)) S T := (f1.mono fun o q => by have : 87 ≤ o ∧ o < 87 + 29 := q; show _ ∨ _; omega).tr (f2.mono fun o q => Or.inl q)
  have cT : CW 1 T w := h.2.1.fr f (fun p q => by have : 1 ≤ p ∧ p < 1 + 29 := q; show ¬ (_ ∨ _); omega) hl
  refine ⟨cT.2.2.1.2.2.2, h.1, cT, fun k q => ?_⟩
  have q' : w = k := Option.some.inj q
  subst q'
  exact ⟨h.1, by rw [← hT, setI_s], c1.fr f2 (fun p q => by have : 87 ≤ p ∧ p < 87 + 29 := q; show ¬ (p = 0); omega) hl⟩
theorem k_on {S : Sg} {w k : Wd} (h : KI S w (some k)) : wp (f_X6_on S) (fun z => z.1 = nI (gh k).length ∧ KI z.2 k (some k)) := by
  obtain ⟨gk, b1, ck⟩ := h.2.2 k rfl
  unfold f_X6_on
  rw [b1]
  exact wp_ifn (by decide) (wp_bdm (s_wcopy (o := 1) ck (wg_l10 gk) (by omega)) fun S1 ⟨f1, c1⟩ => wp_some ⟨c1.2.2.1.2.2.2, h.w gk (fwd f1) c1⟩)
theorem k_count0 {S : Sg} {w : Wd} {kp : Option Wd} (h : KI S w kp) : f_X6_count (0 : Int32) S = some (nI (gh w).length) := by
  unfold f_X6_count
  rw [if_pos rfl, h.2.1.2.2.1.2.2.2]
theorem k_count1 {S : Sg} {w : Wd} {kp : Option Wd} (h : KI S w kp) : f_X6_count (1 : Int32) S = some (nI (num w 0)) := by
  unfold f_X6_count
  rw [if_neg (by decide), if_pos rfl, h.2.1.2.2.1.1]
theorem k_count2 {S : Sg} {w : Wd} {kp : Option Wd} (h : KI S w kp) : f_X6_count (2 : Int32) S = some (nI (num w 1)) := by
  unfold f_X6_count
  rw [if_neg (by decide), if_neg (by decide), if_pos rfl, h.2.1.2.2.1.2.1]
theorem k_count3 {S : Sg} {w : Wd} {kp : Option Wd} (h : KI S w kp) : f_X6_count (3 : Int32) S = some (nI (num w 2)) := by
  unfold f_X6_count
  rw [if_neg (by decide), if_neg (by decide), if_neg (by decide), if_pos rfl, h.2.1.2.2.1.2.2.1]
theorem k_pivots {S : Sg} {w : Wd} {kp : Option Wd} (h : KI S w kp) : f_X6_pivots S = pbits (gh w) := h.2.1.2.2.2.2.2.2
theorem k_person0 {S : Sg} {w : Wd} {kp : Option Wd} (h : KI S w kp) {j : Nat} (hj : j < 8) : f_X6_person (nI j) (0 : Int32) S = some (I (dat w 0 (own w j)), S) := by
  have hk := h.1.1
  unfold f_X6_person
  rw [show f_X6_isWithin (nI j) (8 : Int32) = 1 from isW8 hj, if_neg (by decide), show f_X6_isWithin (0 : Int32) (3 : Int32) = 1 by decide, if_neg (by decide), s_variableOf h.2.1 hj]
  show bd (f_X5_valueOf 1 (nI (own w j)) S) _ = _
  rw [s_valueOf h.2.1 hk.2.2.1.2 (hk.1 j hj)]
  rfl
theorem k_person1 {S : Sg} {w : Wd} {kp : Option Wd} (h : KI S w kp) {j : Nat} (hj : j < 8) : f_X6_person (nI j) (1 : Int32) S = some (nI (own w j), S) := by
  unfold f_X6_person
  rw [show f_X6_isWithin (nI j) (8 : Int32) = 1 from isW8 hj, if_neg (by decide), show f_X6_isWithin (1 : Int32) (3 : Int32) = 1 by decide, if_neg (by decide), s_variableOf h.2.1 hj]
  rfl
theorem k_answer {S : Sg} {w : Wd} {kp : Option Wd} (h : KI S w kp) {i : Nat} (hi : i < (gh w).length) : f_X6_answer (nI i) S = some ((I (dat w 3 i)).toInt64, S) := by
  have hl := wg_l10 h.1
  unfold f_X6_answer
  rw [h.2.1.2.2.1.2.2.2, isW_lit hi (by omega), if_neg (by decide), s_answerOf h.2.1 hi hl]
  rfl
