theorem p_changes {S : Sg} {G : Gst} (ok : GO G) (hC : CI S G) (hM : MI S G) (p q : Int32) : Same (f_X6_changes p q S) (f_X7_changes p q) := by
  have hk := ok.1.1
  have hl := wg_l10 ok.1
  rcases vm_cases p q with ⟨j, hj⟩ | ⟨j, x, hj, hx, rfl, rfl, e⟩
  · unfold f_X6_changes
    generalize e : f_X6_misfitOfValue p q = v at hj
    show Same (if v = 0 then _ else bd (f_X6_refuse v S) (u2 fun r T => some (r, T))) _
    rw [if_neg hj.ne]
    exact refS hj ok hC hM fun S' h => by
      unfold f_X7_changes
      rw [vm7, e]
      show (if (if v = 0 then _ else v) = 0 then _ else bd (f_X7_no (if v = 0 then _ else v) S') (u2 fun r T => some (r, T))) = _
      rw [if_neg hj.ne, if_neg hj.ne]
  · refine mk (fun r G' => (num G.1 0 < 10 ∧ r = nI (num G.1 0) ∧ G' = (wchg G.1 j x, G.2)) ∨ (num G.1 0 = 10 ∧ r = -6 ∧ G' = bump G 5)) ok hM ?_ ?_
    · unfold f_X6_changes
      rw [e]
      refine wp_lt (wp_ifp rfl (wp_bdm (s_takeChange (x := x) hC.1 hk hl hj) ?_))
      rintro ⟨r, S1⟩ (⟨e1, hf, f1, c1⟩ | ⟨e1, hf, e2⟩)
      · have e1' : r = 1 := e1
        subst e1'
        refine wp_u2 (wp_ifn (by decide) ?_)
        show wp (bd (f_X5_variableOf 1 (nI j) S1) _) _
        rw [s_variableOf c1 hj]
        exact wp_bds rfl (wp_some ⟨(fw f1 iw1).mono cl, _, Or.inl ⟨hf, by show nI (if j = j then num G.1 0 else own G.1 j) = _; rw [if_pos rfl], rfl⟩, hC.w ok (fw f1 iw1) c1⟩)
      · have e1' : r = 0 := e1
        have e2' : S1 = S := e2
        subst e1' e2'
        exact wp_u2 (wp_ifp rfl (wp_mono (ref6 r6 ok hC) fun z hz => ⟨hz.2.1, _, Or.inr ⟨hf, hz.1, rfl⟩, hz.2.2⟩))
    · intro r S' G' hR h
      have hx' : (0 : Int) ≤ (x : Int) ∧ (x : Int) ≤ 99 := by omega
      unfold f_X7_changes
      rw [vm7, e]
      rcases hR with ⟨hf, rfl, rfl⟩ | ⟨hf, rfl, rfl⟩
      · refine ⟨⟨wg_chg ok.1 hf hj hx', ok.2⟩, wp_lt (wp_ltq 0 ?_ (wp_ifp rfl (wp_bdm (s_changesTo (x := x) h.1 hj hf) fun T ⟨a, b⟩ => wp_some ⟨?_, mfr a mw_m (fun _ _ q => q.elim), h.w ok a (fun _ _ _ _ n => n) b⟩)))⟩
        · rw [if_pos rfl, h.1.2.2.1.1, if_neg]
          rw [ten]; exact fun q => by have := (nI_eq (by omega) (by omega)).mp q; omega
        · rw [b.2.2.1.1]
          show nI (if 0 = 0 then num G.1 0 + 1 else num G.1 0) - 1 = _
          rw [if_pos rfl, ← nIs]
          exact Int32.add_sub_cancel _ _
      · refine ⟨ok, wp_lt (wp_ltq (-6) ?_ (wp_ifn (by decide) (ref7 r6 ok h)))⟩
        rw [if_pos rfl, h.1.2.2.1.1, hf, if_pos (show nI 10 = (10 : Int32) from rfl)]
theorem p_rule {S : Sg} {G : Gst} (ok : GO G) (hC : CI S G) (hM : MI S G) (p : Int32) : Same (f_X6_rule p S) (f_X7_rule p) := by
  have hl := wg_l10 ok.1
  refine mk (fun r G' => (∃ x, x < 4 ∧ p = nI x ∧ r = nI (num G.1 1) ∧ G' = (wnum G.1 1 x, G.2)) ∨ ((∀ x, x < 4 → p ≠ nI x) ∧ r = -2 ∧ G' = bump G 1)) ok hM ?_ ?_
  · unfold f_X6_rule
    rw [hC.1.2.2.1.2.1]
    refine wp_lt (wp_bdm (s_takeRule hC.1 hl p) ?_)
    rintro ⟨r, S1⟩ (⟨e1, x, hx, rfl, f1, c1⟩ | ⟨e1, hf, e2⟩)
    · have e1' : r = 1 := e1
      subst e1'
      exact wp_u2 (wp_ifn (by decide) (wp_some ⟨(fw f1 iw1).mono cl, _, Or.inl ⟨x, hx, rfl, rfl, rfl⟩, hC.w ok (fw f1 iw1) c1⟩))
    · have e1' : r = 0 := e1
      have e2' : S1 = S := e2
      subst e1' e2'
      exact wp_u2 (wp_ifp rfl (wp_mono (ref6 r2 ok hC) fun z hz => ⟨hz.2.1, _, Or.inr ⟨hf, hz.1, rfl⟩, hz.2.2⟩))
  · intro r S' G' hR h
    unfold f_X7_rule
    have ei : f_X7_isIn p 0 (3 : Int32) = f_X6_isWithin p (4 : Int32) := isIn_w p (n := 4) (by decide)
    rw [ei]
    rcases hR with ⟨x, hx, rfl, rfl, rfl⟩ | ⟨hf, rfl, rfl⟩
    · refine ⟨⟨wg_rule ok.1 hx, ok.2⟩, wp_ifn (by rw [show f_X6_isWithin (nI x) (4 : Int32) = 1 from isW_lit (n := 4) hx (by decide)]; decide) ?_⟩
      have f : Fm mwI noJ S' (setI S' 140 9 (nI x)) := Fm.setI (Or.inr (by omega))
      exact wp_lt (wp_lt (wp_some ⟨h.1.2.2.1.2.1, mfr f mw_m (fun _ _ q => q.elim), h.w ok f (fun _ _ _ _ n => n) (MW_wnum h.1 (Or.inl rfl))⟩))
    · rcases isW_cases p (n := 4) (by decide) with ⟨j, hj, e1, _⟩ | ⟨_, e1⟩
      · exact absurd e1 (hf j hj)
      · exact ⟨ok, wp_ifp e1 (ref7 r2 ok h)⟩
theorem p_limit {S : Sg} {G : Gst} (ok : GO G) (hC : CI S G) (hM : MI S G) (p : Int32) : Same (f_X6_limit p S) (f_X7_limit p) := by
  have hl := wg_l10 ok.1
  have h7e : f_X7_bound p 0 (10 : Int32) = f_X6_misfit p 0 (10 : Int32) := rfl
  have hr : ∀ v j, isRef v j → f_X6_misfit p 0 (10 : Int32) = v → Same (f_X6_limit p S) (f_X7_limit p) := fun v j hj e => by
    unfold f_X6_limit
    rw [e]
    show Same (if v = 0 then _ else bd (f_X6_refuse v S) (u2 fun r T => some (r, T))) _
    rw [if_neg hj.ne]
    exact refS hj ok hC hM fun S' h => by
      unfold f_X7_limit
      rw [h7e, e]
      show (if v = 0 then _ else bd (f_X7_no v S') (u2 fun r T => some (r, T))) = _
      rw [if_neg hj.ne]
  rcases mis_cases p 10 (by decide) with ⟨e, _⟩ | ⟨e, _⟩ | ⟨e, x, hx, rfl⟩
  · exact hr _ _ r4 e
  · exact hr _ _ r6 e
  · refine mk (fun r G' => r = nI (num G.1 2) ∧ G' = (wnum G.1 2 x, G.2)) ok hM ?_ ?_
    · unfold f_X6_limit
      rw [show f_X6_misfit (nI x) 0 (10 : Int32) = 0 from e, hC.1.2.2.1.2.2.1]
      refine wp_lt (wp_ifp rfl (wp_lt (wp_bdm (s_takeLimit hC.1 hl (nI x)) ?_)))
      rintro ⟨r, S1⟩ (⟨e1, y, hy, e2, f1, c1⟩ | ⟨e1, hf, e2⟩)
      · have : y = x := ((nI_eq (by omega) (by omega)).mp e2).symm
        subst this
        exact wp_u2 (wp_some ⟨(fw f1 iw1).mono cl, _, ⟨rfl, rfl⟩, hC.w ok (fw f1 iw1) c1⟩)
      · exact absurd rfl (hf x hx)
    · rintro r S' G' ⟨rfl, rfl⟩ h
      unfold f_X7_limit
      rw [h7e, show f_X6_misfit (nI x) 0 (10 : Int32) = 0 from e]
      have f : Fm mwI noJ S' (setI S' 140 10 (nI x)) := Fm.setI (Or.inr (by omega))
      exact ⟨⟨wg_lim ok.1 hx, ok.2⟩, wp_lt (wp_ifp rfl (wp_lt (wp_lt (wp_some ⟨h.1.2.2.1.2.2.1, mfr f mw_m (fun _ _ q => q.elim), h.w ok f (fun _ _ _ _ n => n) (MW_wnum h.1 (Or.inr rfl))⟩))))⟩
theorem val_cases (p : Int32) : p < 0 ∨ (¬ p < 0 ∧ (99 : Int32) < p) ∨ ∃ x : Nat, x ≤ 99 ∧ p = nI x := by
  rcases mis_cases p 99 (by decide) with ⟨_, e⟩ | ⟨_, e, e2⟩ | ⟨_, x, hx, e⟩
  · exact Or.inl e
  · exact Or.inr (Or.inl ⟨e, e2⟩)
  · exact Or.inr (Or.inr ⟨x, hx, e⟩)
theorem nn (x : Nat) (hx : x ≤ 99) : ¬ nI x < (0 : Int32) := nI_nlt (b := 0) (by omega) (by omega)
theorem n99 (x : Nat) (hx : x ≤ 99) : ¬ (99 : Int32) < nI x := nI_nlt (a := 99) (b := x) hx (by omega)
theorem p_bounds {S : Sg} {G : Gst} (ok : GO G) (hC : CI S G) (hM : MI S G) (p q r : Int32) : Same (f_X6_bounds p q r S) (f_X7_bounds p q r) := by
  have hk := ok.1.1
  have hl := wg_l10 ok.1
  have hv := hk.2.2.1
  -- what the reference finds amiss
  have hm : ∀ (v : Int32) (j : Nat), isRef v j → f_X6_bounds p q r S = bd (f_X6_refuse v S) (u2 fun r T => some (r, T)) → (∀ S', MI S' G → (if f_X7_isVariable p S' = 0 then (-1 : Int32) else if q < 0 then -4 else if r < 0 then -4 else if 99 < q then -6 else if 99 < r then -6 else 0) = v) → Same (f_X6_bounds p q r S) (f_X7_bounds p q r) := fun v j hj e1 e2 => by
    rw [e1]
    exact refS hj ok hC hM fun S' h => by
      unfold f_X7_bounds
      rw [e2 S' h]
      show (if v = 0 then _ else (if v = 0 then _ else bd (f_X7_no v S') (u2 fun r T => some (r, T)))) = _
      rw [if_neg hj.ne, if_neg hj.ne]
  have e6 : f_X5_has 1 p S = f_X6_isWithin p (nI (num G.1 0)) := has_w hC.1 hv.2 p
  rcases isW_cases p (n := num G.1 0) (by omega) with ⟨j, hj, rfl, e⟩ | ⟨_, e⟩
  · have a6 : ¬ f_X5_has 1 (nI j) S = 0 := by rw [e6, e]; decide
    have a7 : ∀ S', MI S' G → ¬ f_X7_isVariable (nI j) S' = 0 := fun S' h => by rw [in_w h.1 hk, e]; decide
    rcases val_cases q with hq | ⟨hq, hq2⟩ | ⟨x, hx, rfl⟩
    · exact hm _ _ r4 (by unfold f_X6_bounds; rw [if_neg a6, if_pos hq]) fun S' h => by rw [if_neg (a7 S' h), if_pos hq]
    · rcases val_cases r with hr | ⟨hr, hr2⟩ | ⟨y, hy, rfl⟩
      · exact hm _ _ r4 (by unfold f_X6_bounds; rw [if_neg a6, if_neg hq, if_pos hr]) fun S' h => by rw [if_neg (a7 S' h), if_neg hq, if_pos hr]
      · exact hm _ _ r6 (by unfold f_X6_bounds; rw [if_neg a6, if_neg hq, if_neg hr, if_pos hq2]) fun S' h => by rw [if_neg (a7 S' h), if_neg hq, if_neg hr, if_pos hq2]
      · exact hm _ _ r6 (by unfold f_X6_bounds; rw [if_neg a6, if_neg hq, if_neg (nn y hy), if_pos hq2]) fun S' h => by rw [if_neg (a7 S' h), if_neg hq, if_neg (nn y hy), if_pos hq2]
    · rcases val_cases r with hr | ⟨hr, hr2⟩ | ⟨y, hy, rfl⟩
      · exact hm _ _ r4 (by unfold f_X6_bounds; rw [if_neg a6, if_neg (nn x hx), if_pos hr]) fun S' h => by rw [if_neg (a7 S' h), if_neg (nn x hx), if_pos hr]
      · exact hm _ _ r6 (by unfold f_X6_bounds; rw [if_neg a6, if_neg (nn x hx), if_neg hr, if_neg (n99 x hx), if_pos hr2]) fun S' h => by rw [if_neg (a7 S' h), if_neg (nn x hx), if_neg hr, if_neg (n99 x hx), if_pos hr2]
      · have hd := hk.2.2.2.2.2.1 j (by omega)
        refine mk (fun r' G' => (((x : Int) ≤ dat G.1 0 j ∧ dat G.1 0 j ≤ (y : Int)) ∧ r' = 1 ∧ G' = (wbnd G.1 j x y, G.2)) ∨ (¬ ((x : Int) ≤ dat G.1 0 j ∧ dat G.1 0 j ≤ (y : Int)) ∧ r' = -3 ∧ G' = bump G 2)) ok hM ?_ ?_
        · unfold f_X6_bounds
          rw [if_neg a6, if_neg (nn x hx), if_neg (nn y hy), if_neg (n99 x hx), if_neg (n99 y hy)]
          refine wp_bdm (s_takeBounds (x := x) (y := y) hC.1 hk hj (by omega) (by omega)) ?_
          rintro ⟨r, S1⟩ (⟨e1, hf, f1, c1⟩ | ⟨e1, hf, e2⟩)
          · have e1' : r = 1 := e1
            subst e1'
            exact wp_u2 (wp_ifn (by decide) (wp_some ⟨(fw f1 iw1).mono cl, _, Or.inl ⟨hf, rfl, rfl⟩, hC.w ok (fw f1 iw1) c1⟩))
          · have e1' : r = 0 := e1
            have e2' : S1 = S := e2
            subst e1' e2'
            exact wp_u2 (wp_ifp rfl (wp_mono (ref6 r3 ok hC) fun z hz => ⟨hz.2.1, _, Or.inr ⟨hf, hz.1, rfl⟩, hz.2.2⟩))
        · intro r S' G' hR h
          unfold f_X7_bounds
          rw [if_neg (a7 S' h), if_neg (nn x hx), if_neg (nn y hy), if_neg (n99 x hx), if_neg (n99 y hy)]
          refine (fun (q : _ ∧ wp (bd (f_X7_comesBounds (nI j) (nI x) (nI y) S') _) _) => q) ?_
          unfold f_X7_comesBounds
          rw [if_neg (a7 S' h), show inb (nI j) 10 = true from inb_n (by omega) (by decide), ix_n (by omega), (h.1.2.1 j (by omega)).1]
          obtain ⟨d, hd'⟩ := Int.eq_ofNat_of_zero_le (show 0 ≤ dat G.1 0 j by omega)
          rw [hd'] at hR ⊢
          rw [show f_X7_isIn (I (d : Int)) (nI x) (nI y) = if x ≤ d ∧ d ≤ y then 1 else 0 from isIn_lit (by omega) (by omega) (by omega)]
          rcases hR with ⟨hf, rfl, rfl⟩ | ⟨hf, rfl, rfl⟩
          · rw [if_pos (show x ≤ d ∧ d ≤ y by omega)]
            have f : Fm mwI noJ S' (setI (setI S' 143 j (nI x)) 144 j (nI y)) := (Fm.setI (AI := mwI) (Or.inl (by omega))).tr (Fm.setI (Or.inl (by omega)))
            exact ⟨⟨wg_bnd ok.1 (by omega), ok.2⟩, wp_bds rfl (wp_u2 (wp_ltq 0 (if_neg (by decide)) (wp_ifp rfl (wp_some ⟨rfl, mfr f mw_m (fun _ _ q => q.elim), h.w ok f (fun _ _ _ _ n => n) (MW_wbnd h.1)⟩))))⟩
          · rw [if_neg (show ¬ (x ≤ d ∧ d ≤ y) by omega)]
            exact ⟨ok, wp_bds rfl (wp_u2 (wp_ltq (-3) (if_pos rfl) (wp_ifn (by decide) (ref7 r3 ok h))))⟩
  · exact hm _ _ r1 (by unfold f_X6_bounds; rw [if_pos (by rw [e6, e])]) fun S' h => by rw [if_pos (by rw [in_w h.1 hk, e])]
