def isRef (v : Int32) (j : Nat) : Prop := j < 6 ∧ v = I (-(j + 1 : Nat))
theorem isRef.ne {v : Int32} {j : Nat} (h : isRef v j) : v ≠ 0 := by
  obtain ⟨h, rfl⟩ := h
  intro e
  have := (I_eq (a := -(j + 1 : Nat)) (b := 0) (by omega) (by omega)).mp e
  omega
theorem ref6 {S : Sg} {G : Gst} {v : Int32} {j : Nat} (hv : isRef v j) (ok : GO G) (hC : CI S G) : wp (bd (f_X6_refuse v S) (u2 fun r T => some (r, T))) (fun z => z.1 = v ∧ Fr cls S z.2 ∧ CI z.2 (bump G j)) := by
  obtain ⟨h, rfl⟩ := hv
  exact wp_bds (refuse_eq h) (wp_u2 (wp_some ⟨rfl, Fr.setI (by show (139 : Nat) < 140; decide), hC.ref ok h⟩))
theorem ref7 {S : Sg} {G : Gst} {v : Int32} {j : Nat} (hv : isRef v j) (ok : GO G) (hM : MI S G) : wp (bd (f_X7_no v S) (u2 fun r T => some (r, T))) (fun z => z.1 = v ∧ Fr mdl S z.2 ∧ MI z.2 (bump G j)) := by
  obtain ⟨h, rfl⟩ := hv
  exact wp_bds (no_eq h) (wp_u2 (wp_some ⟨rfl, Fr.setI (by show 140 ≤ (141 : Nat); decide), hM.ref ok⟩))
theorem refS {f7 : Sg → Option (Int32 × Sg)} {S : Sg} {G : Gst} {v : Int32} {j : Nat} (hv : isRef v j) (ok : GO G) (hC : CI S G) (hM : MI S G) (h7 : ∀ S', MI S' G → f7 S' = bd (f_X7_no v S') (u2 fun r T => some (r, T))) : Same (bd (f_X6_refuse v S) (u2 fun r T => some (r, T))) f7 :=
  ref j hv.1 ok hC hM hv.2 h7
theorem r1 : isRef (-1) 0 := ⟨by decide, by decide⟩
theorem r2 : isRef (-2) 1 := ⟨by decide, by decide⟩
theorem r3 : isRef (-3) 2 := ⟨by decide, by decide⟩
theorem r4 : isRef (-4) 3 := ⟨by decide, by decide⟩
theorem r5 : isRef (-5) 4 := ⟨by decide, by decide⟩
theorem r6 : isRef (-6) 5 := ⟨by decide, by decide⟩
theorem vm_cases (p q : Int32) : (∃ j, isRef (f_X6_misfitOfValue p q) j) ∨ (∃ j x : Nat, j < 8 ∧ x ≤ 99 ∧ p = nI j ∧ q = nI x ∧ f_X6_misfitOfValue p q = 0) := by
  unfold f_X6_misfitOfValue
  rcases isW_cases p (n := 8) (by decide) with ⟨j, hj, rfl, e⟩ | ⟨_, e⟩
  · rw [show f_X6_isWithin (nI j) (8 : Int32) = 1 from e, if_neg (by decide)]
    rcases mis_cases q 99 (by decide) with ⟨e, _⟩ | ⟨e, _⟩ | ⟨e, x, hx, rfl⟩
    · left; rw [show f_X6_misfit q 0 (99 : Int32) = -4 from e]; exact ⟨_, r4⟩
    · left; rw [show f_X6_misfit q 0 (99 : Int32) = -6 from e]; exact ⟨_, r6⟩
    · right; exact ⟨j, x, hj, hx, rfl, rfl, e⟩
  · left; rw [show f_X6_isWithin p (8 : Int32) = 0 from e, if_pos rfl]; exact ⟨_, r1⟩
theorem vm7 (p q : Int32) : (if f_X7_isPerson p = 0 then (-1 : Int32) else f_X7_bound q 0 99) = f_X6_misfitOfValue p q := by
  rw [per_w]; rfl
theorem fw {S S' : Sg} {A : Nat → Prop} (f : Fr A S S') (h : ∀ o, A o → 1 ≤ o ∧ o < 87 ∨ (116 ≤ o ∧ o < 135)) : Fr (fun o => 1 ≤ o ∧ o < 87 ∨ (116 ≤ o ∧ o < 135)) S S' := f.mono h
theorem iw1 : ∀ o, inWd 1 o → 1 ≤ o ∧ o < 87 ∨ (116 ≤ o ∧ o < 135) := fun o h => by have : 1 ≤ o ∧ o < 1 + 29 := h; omega
theorem ia1 : ∀ o, inAll 1 o → 1 ≤ o ∧ o < 87 ∨ (116 ≤ o ∧ o < 135) := fun o h => by have : 1 ≤ o ∧ o < 1 + 43 := h; omega
theorem cl : ∀ o, (1 ≤ o ∧ o < 87 ∨ (116 ≤ o ∧ o < 135)) → cls o := fun o h => by show o < 140; omega
theorem mw_m : ∀ o k, mwI o k → mdl o := fun o k h => by have : (142 ≤ o ∧ o ≤ 147) ∨ (o = 140 ∧ 7 ≤ k ∧ k ≤ 10) := h; show 140 ≤ o; omega
theorem mfr {S S' : Sg} {AI AJ : Nat → Nat → Prop} (f : Fm AI AJ S S') (h1 : ∀ o k, AI o k → 140 ≤ o) (h2 : ∀ o k, AJ o k → 140 ≤ o) : Fr mdl S S' := f.fr h1 h2
theorem p_tells {S : Sg} {G : Gst} (ok : GO G) (hC : CI S G) (hM : MI S G) (p q : Int32) : Same (f_X6_tells p q S) (f_X7_tells p q) := by
  have hk := ok.1.1
  have hl := wg_l10 ok.1
  rcases vm_cases p q with ⟨j, hj⟩ | ⟨j, x, hj, hx, rfl, rfl, e⟩
  · unfold f_X6_tells
    generalize e : f_X6_misfitOfValue p q = v at hj
    show Same (if v = 0 then _ else bd (f_X6_refuse v S) (u2 fun r T => some (r, T))) _
    rw [if_neg hj.ne]
    exact refS hj ok hC hM fun S' h => by
      unfold f_X7_tells
      rw [vm7, e]
      show (if v = 0 then _ else (if v = 0 then _ else bd (f_X7_no v S') (u2 fun r T => some (r, T)))) = _
      rw [if_neg hj.ne, if_neg hj.ne]
  · have o10 := own10 hk hj
    refine mk (fun r G' => (free (gh G.1) (own G.1 j) ∧ r = I (dat G.1 0 (own G.1 j)) ∧ G' = (wset G.1 (own G.1 j) x, G.2)) ∨ (¬ free (gh G.1) (own G.1 j) ∧ r = -3 ∧ G' = bump G 2)) ok hM ?_ ?_
    · unfold f_X6_tells
      rw [e]
      refine wp_lt (wp_ifp rfl ?_)
      rw [s_variableOf hC.1 hj]
      refine wp_bds rfl ?_
      rw [s_valueOf hC.1 hk.2.2.1.2 (hk.1 j hj)]
      refine wp_bds rfl (wp_bdm (s_takeTold (x := x) hC.1 hk hl hj) ?_)
      rintro ⟨r, S1⟩ (⟨e1, hf, f1, c1⟩ | ⟨e1, hf, e2⟩)
      · have e1' : r = 1 := e1
        subst e1'
        exact wp_u2 (wp_ifn (by decide) (wp_some ⟨(fw f1 iw1).mono cl, _, Or.inl ⟨hf, rfl, rfl⟩, hC.w ok (fw f1 iw1) c1⟩))
      · have e1' : r = 0 := e1
        have e2' : S1 = S := e2
        subst e1' e2'
        exact wp_u2 (wp_ifp rfl (wp_mono (ref6 r3 ok hC) fun z hz => ⟨hz.2.1, _, Or.inr ⟨hf, hz.1, rfl⟩, hz.2.2⟩))
    · intro r S' G' hR h
      have hx' : (0 : Int) ≤ (x : Int) ∧ (x : Int) ≤ 99 := by omega
      unfold f_X7_tells
      rw [vm7, e]
      have go : ∀ v, wp (if v = 0 then gd (inb (nI j) 8) (gd (inb (S'.1 145 (ix (nI j))) 10) (bd (f_X7_isTold (nI j) (nI x) S') fun T => some (S'.1 142 (ix (S'.1 145 (ix (nI j)))), T))) else bd (f_X7_no v S') (u2 fun r T => some (r, T))) (fun y => y.1 = r ∧ Fr mdl S' y.2 ∧ MI y.2 G') → wp (if v = 0 then gd (inb (nI j) 8) (gd (inb (S'.1 145 (ix (nI j))) 10) (lt (S'.1 142 (ix (S'.1 145 (ix (nI j))))) fun v4 => bd (f_X7_isTold (nI j) (nI x) S') fun T => some (v4, T))) else bd (f_X7_no v S') (u2 fun r T => some (r, T))) (fun y => y.1 = r ∧ Fr mdl S' y.2 ∧ MI y.2 G') := fun v h => h
      have e8 : ix (nI j) = j := ix_n (by omega)
      rcases hR with ⟨hf, rfl, rfl⟩ | ⟨hf, rfl, rfl⟩
      · refine ⟨⟨wg_set ok.1 hx' hf, ok.2⟩, wp_lt (wp_lt (wp_ifp rfl (wp_gd (inb_n hj (by decide)) ?_)))⟩
        rw [e8, h.1.1 j hj]
        refine wp_bdm (s_isFreeM h.1 hl (rows_bdd hk) o10) ?_
        rintro r' (⟨rfl, _⟩ | ⟨rfl, nf⟩)
        · refine wp_ltq 0 (if_neg (by decide)) (wp_ifp rfl ?_)
          refine wp_gd (inb_n hj (by decide)) (wp_gd (inb_n o10 (by decide)) (wp_lt (wp_bdm (s_isTold (x := x) h.1 hj o10) fun T ⟨a, b⟩ => wp_some ⟨?_, mfr a mw_m (fun _ _ q => q.elim), h.w ok a (fun _ _ _ _ n => n) b⟩)))
          show S'.1 142 (ix (nI (own G.1 j))) = _
          rw [ix_n (by omega)]
          exact (h.1.2.1 _ o10).1
        · exact absurd hf nf
      · refine ⟨ok, wp_lt (wp_lt (wp_ifp rfl (wp_gd (inb_n hj (by decide)) ?_)))⟩
        rw [e8, h.1.1 j hj]
        refine wp_bdm (s_isFreeM h.1 hl (rows_bdd hk) o10) ?_
        rintro r' (⟨rfl, hf'⟩ | ⟨rfl, _⟩)
        · exact absurd hf' hf
        · exact wp_ltq (-3) (if_pos rfl) (wp_ifn (by decide) (ref7 r3 ok h))
