/-- the reference's arrays hold s -/
def NM (S : Sg) (s : nst) : Prop := ∀ k, k < 10 → S.1 161 k = I (s.1 k) ∧ S.1 162 k = I (s.2 k)
abbrev nmI : Nat → Nat → Prop := fun o _ => o = 161 ∨ o = 162
abbrev noJ : Nat → Nat → Prop := fun _ _ => False
theorem sm_but {f : Nat → Int} {v : Nat} (hv : v < 10) : sm 10 (fun j => if j = v then 0 else f j) = sm 10 f - f v := by
  have := sm_one (f := fun j => if j = v then 0 else f j) (h := f) (v := v) (fun k hk => if_neg hk) 10 hv
  rw [if_pos rfl] at this
  omega
theorem or01 {a b : Bool} : ((if a = true then (1 : Int32) else 0) ||| (if b = true then (1 : Int32) else 0)) = if (a || b) = true then 1 else 0 := by
  cases a <;> cases b <;> decide
theorem s_narrowsOne {S : Sg} {w : Wd} {s : nst} {i v : Nat} (hw : MW S w) (hk : wok w) (hN : NM S s) (hx : nok (dat w 0) s) (hi : i < (gh w).length) (hv : v < 10) : wp (f_X7_narrowsOne (nI i) (nI v) S) (fun z => z.1 = (if nmv (gro (gh w) i) (dat w 3 i) v s = true then 1 else 0) ∧ Fm nmI noJ S z.2 ∧ NM z.2 (n1 (gro (gh w) i) (dat w 3 i) v s)) := by
  have hc := rows_bdd hk i hi
  have hl := gok_len hk.2.2.2.2.2.2.1
  have ht : -3000 ≤ dat w 3 i ∧ dat w 3 i ≤ 3000 := by have := (hk.2.2.2.2.2.2.2.2 i hi).2.2; omega
  have hled := (hw.2.2.2 i hi).2
  have hans := (hw.2.2.2 i hi).1
  generalize hcc : gro (gh w) i = c at hc hled ⊢
  generalize htt : dat w 3 i = t at ht hans ⊢
  have hcv := hc v hv
  have hz0 : I (c v) = (0 : Int32) ↔ c v = 0 := I_eq (b := 0) (by omega) (by omega)
  unfold f_X7_narrowsOne
  rw [ten, nI_mul, nI_add, ixn (by omega), hled v hv]
  refine wp_gd (inn' (by omega) (by omega)) (wp_lt (wp_if (fun h => ?_) (fun h => ?_)))
  · have hn := n1_z (t := t) (s := s) (hz0.mp h)
    rw [hn.1, hn.2]
    exact wp_some ⟨rfl, Fm.rf, hN⟩
  · have h0 : c v ≠ 0 := fun e => h (hz0.mpr e)
    refine wp_bdm (up (F := fun n k (x : Int32 × Int32) => L_X7_narrowsOne_27 (nI i) (nI v) (I (c v)) S n x.1 x.2 (nI k)) 10 (fun k x => x.1 = I (sm k (fun j => if j = v then 0 else hiE c s j)) ∧ x.2 = I (sm k (fun j => if j = v then 0 else loE c s j))) (fun x => x.1 = I (sm 10 (hiE c s) - hiE c s v) ∧ x.2 = I (sm 10 (loE c s) - loE c s v)) ?_ ?_ 400 0 (0, 0) (by omega) (by omega) ⟨rfl, rfl⟩) ?_
    · intro n k ⟨x, y⟩ hk10 ⟨p1, p2⟩ ih
      have p1 : x = I (sm k (fun j => if j = v then 0 else hiE c s j)) := p1
      have p2 : y = I (sm k (fun j => if j = v then 0 else loE c s j)) := p2
      show wp (L_X7_narrowsOne_27 (nI i) (nI v) (I (c v)) S (n + 1) x y (nI k)) _
      rw [L_X7_narrowsOne_27]
      refine wp_ifp (lt10 hk10) (wp_lt ?_)
      have hck := hc k hk10
      -- behind the coefficient
      have go : ∀ u : Int, u = (if k = v then 0 else c k) → wp (lt (fun (x_2 : Int32) => (lt ((x + ((I u) * x_2))) fun v4_1 => if 0 < I u then (gd (inb (nI k) 10) <| lt ((y + ((I u) * (S.1 161 (ix (nI k)))))) fun v5_2 => lt (nI k + (1 : Int32)) fun v6_2 => L_X7_narrowsOne_27 (nI i) (nI v) (I (c v)) S n v4_1 v5_2 v6_2) else (gd (inb (nI k) 10) <| lt ((y + ((I u) * (S.1 162 (ix (nI k)))))) fun v5_1 => lt (nI k + (1 : Int32)) fun v6_1 => L_X7_narrowsOne_27 (nI i) (nI v) (I (c v)) S n v4_1 v5_1 v6_1))) fun J_2 => if 0 < I u then (gd (inb (nI k) 10) <| J_2 (S.1 162 (ix (nI k)))) else (gd (inb (nI k) 10) <| J_2 (S.1 161 (ix (nI k))))) (fun x => x.1 = I (sm 10 (hiE c s) - hiE c s v) ∧ x.2 = I (sm 10 (loE c s) - loE c s v)) := by
        intro u hu
        have hub : -3 ≤ u ∧ u ≤ 3 := by
          rw [hu]
          by_cases e : k = v
          · rw [if_pos e]; omega
          · rw [if_neg e]; exact hck
        have hp := cpos hub
        obtain ⟨l1, l2⟩ := hN k hk10
        have eh : u * (if 0 < u then s.2 k else s.1 k) = if k = v then 0 else hiE c s k := by
          rw [hu]
          by_cases e : k = v
          · rw [if_pos e, if_pos e]; omega
          · rw [if_neg e, if_neg e]; rfl
        have el : u * (if 0 < u then s.1 k else s.2 k) = if k = v then 0 else loE c s k := by
          rw [hu]
          by_cases e : k = v
          · rw [if_pos e, if_pos e]; omega
          · rw [if_neg e, if_neg e]; rfl
        refine wp_lt ?_
        rw [ixn (by omega), l1, l2]
        by_cases e : 0 < u
        · rw [if_pos e] at eh el
          refine wp_ifp (hp.mpr e) (wp_gd (inn' hk10 (by omega)) (wp_lt (wp_ifp (hp.mpr e) (wp_gd (inn' hk10 (by omega)) ?_))))
          show wp (L_X7_narrowsOne_27 (nI i) (nI v) (I (c v)) S n (x + I u * I (s.2 k)) (y + I u * I (s.1 k)) (nI k + 1)) _
          rw [nIs, I_mul, I_mul, eh, el, p1, p2, I_add, I_add]
          exact ih (_, _) ⟨rfl, rfl⟩
        · rw [if_neg e] at eh el
          refine wp_ifn (fun q => e (hp.mp q)) (wp_gd (inn' hk10 (by omega)) (wp_lt (wp_ifn (fun q => e (hp.mp q)) (wp_gd (inn' hk10 (by omega)) ?_))))
          show wp (L_X7_narrowsOne_27 (nI i) (nI v) (I (c v)) S n (x + I u * I (s.1 k)) (y + I u * I (s.2 k)) (nI k + 1)) _
          rw [nIs, I_mul, I_mul, eh, el, p1, p2, I_add, I_add]
          exact ih (_, _) ⟨rfl, rfl⟩
      refine wp_if (fun e => ?_) (fun e => ?_)
      · exact go 0 (by rw [if_pos ((nI_eq (by omega) (by omega)).mp e)])
      · rw [ten, nI_mul, nI_add, ixn (k := 10 * i + k) (by omega), hled k hk10]
        exact wp_gd (inn' (by omega) (by omega)) (go (c k) (by rw [if_neg (fun q => e (by rw [q]))]))
    · intro n ⟨x, y⟩ ⟨p1, p2⟩
      show wp (L_X7_narrowsOne_27 (nI i) (nI v) (I (c v)) S (n + 1) x y (nI 10)) _
      rw [L_X7_narrowsOne_27]
      refine wp_ifn (nlt10 (Nat.le_refl _) (by omega)) (wp_some ⟨?_, ?_⟩)
      · rw [← sm_but hv]; exact p1
      · rw [← sm_but hv]; exact p2
    intro ⟨x, y⟩ ⟨p1, p2⟩
    have p1 : x = I (sm 10 (hiE c s) - hiE c s v) := p1
    have p2 : y = I (sm 10 (loE c s) - loE c s v) := p2
    have hp := cpos hcv
    have hft := nFT_bd hc hx ht hv
    have hab := nAB_bd hc hx ht hv h0
    have hxv := hx v hv
    obtain ⟨l1, l2⟩ := hN v hv
    refine wp_u2 (wp_gd (inn' (by omega) (by omega)) ?_)
    rw [ixn (by omega), ixn (by omega), hans, p1, p2]
    refine wp_ltq (I (nF c t v s)) (by rw [I_sub]; rfl) (wp_ltq (I (nT c t v s)) (by rw [I_sub]; rfl) ?_)
    have cA : I (s.1 v) < I (nA1 c t v s) ↔ s.1 v < nA1 c t v s := I_lt (by omega) (by omega)
    have cB : I (nB1 c t v s) < I (s.2 v) ↔ nB1 c t v s < s.2 v := I_lt (by omega) (by omega)
    have hmv : nmv c t v s = true ↔ (s.1 v < nA1 c t v s ∨ nB1 c t v s < s.2 v) := by
      unfold nmv
      rw [decide_eq_true_iff]
      exact ⟨fun q => q.2, fun q => ⟨h0, q⟩⟩
    have fin : wp (gd (inb (nI v) 10) <| lt (if I (s.1 v) < I (nA1 c t v s) then (1 : Int32) else (if I (nB1 c t v s) < S.1 162 v then (1 : Int32) else (0 : Int32))) fun x_3 => lt (if I (s.1 v) < I (nA1 c t v s) then I (nA1 c t v s) else I (s.1 v)) fun x_4 => lt (setI S 161 v x_4) fun S_1 => lt (if I (nB1 c t v s) < (S_1.1 162 v) then I (nB1 c t v s) else (S_1.1 162 v)) fun x_5 => lt (setI S_1 162 v x_5) fun S_2 => some (x_3, S_2)) (fun z => z.1 = (if nmv c t v s = true then 1 else 0) ∧ Fm nmI noJ S z.2 ∧ NM z.2 (n1 c t v s)) := by
      refine wp_gd (inn' hv (by omega)) (wp_lt (wp_lt (wp_lt ?_)))
      rw [setI_n (by omega), l2]
      refine wp_lt (wp_lt (wp_some ⟨?_, (Fm.setI (Or.inl rfl)).tr (Fm.setI (Or.inr rfl)), fun k hk10 => ?_⟩))
      · show (if I (s.1 v) < I (nA1 c t v s) then (1 : Int32) else if I (nB1 c t v s) < I (s.2 v) then 1 else 0) = _
        by_cases a1 : s.1 v < nA1 c t v s
        · rw [if_pos (cA.mpr a1), if_pos (hmv.mpr (Or.inl a1))]
        · rw [if_neg (fun q => a1 (cA.mp q))]
          by_cases a2 : nB1 c t v s < s.2 v
          · rw [if_pos (cB.mpr a2), if_pos (hmv.mpr (Or.inr a2))]
          · rw [if_neg (fun q => a2 (cB.mp q)), if_neg (fun q => (hmv.mp q).elim a1 a2)]
      · unfold n1
        rw [if_neg h0]
        by_cases e : k = v
        · subst e
          refine ⟨?_, ?_⟩
          · show (setI (setI S 161 k _) 162 k _).1 161 k = I (if k = k then _ else _)
            rw [if_pos rfl, setI_n (by omega), setI_s]
            by_cases a1 : s.1 k < nA1 c t k s
            · rw [if_pos (cA.mpr a1), if_pos a1]
            · rw [if_neg (fun q => a1 (cA.mp q)), if_neg a1]
          · show (setI (setI S 161 k _) 162 k _).1 162 k = I (if k = k then _ else _)
            rw [if_pos rfl, setI_s]
            by_cases a2 : nB1 c t k s < s.2 k
            · rw [if_pos (cB.mpr a2), if_pos a2]
            · rw [if_neg (fun q => a2 (cB.mp q)), if_neg a2]
        · refine ⟨?_, ?_⟩
          · show (setI (setI S 161 v _) 162 v _).1 161 k = I (if k = v then _ else _)
            rw [if_neg e, setI_n (by omega), setI_n (by omega)]; exact (hN k hk10).1
          · show (setI (setI S 161 v _) 162 v _).1 162 k = I (if k = v then _ else _)
            rw [if_neg e, setI_n (by omega), setI_n (by omega)]; exact (hN k hk10).2
    have eF : -I (nF c t v s) = I (-nF c t v s) := I_neg _
    have eT : -I (nT c t v s) = I (-nT c t v s) := I_neg _
    have eC : -I (c v) = I (-c v) := I_neg _
    refine wp_lt ?_
    rw [l1]
    by_cases e : 0 < c v
    · have a1 : f_X7_above (I (nF c t v s)) (I (c v)) = some (I (nA1 c t v s)) := by
        rw [s_above (by omega) ⟨e, hcv.2⟩]; unfold nA1; rw [if_pos e]
      have a2 : f_X7_below (I (nT c t v s)) (I (c v)) = some (I (nB1 c t v s)) := by
        rw [s_below (by omega) ⟨e, hcv.2⟩]; unfold nB1; rw [if_pos e]
      refine wp_ifp (hp.mpr e) (wp_bds a1 (wp_lt (wp_ifp (hp.mpr e) (wp_bds a2 ?_))))
      exact fin
    · have a1 : f_X7_above (-I (nT c t v s)) (-I (c v)) = some (I (nA1 c t v s)) := by
        rw [eT, eC, s_above (by omega) (by omega)]; unfold nA1; rw [if_neg e, Int.neg_neg]
      have a2 : f_X7_below (-I (nF c t v s)) (-I (c v)) = some (I (nB1 c t v s)) := by
        rw [eF, eC, s_below (by omega) (by omega)]; unfold nB1; rw [if_neg e]
      refine wp_ifn (fun q => e (hp.mp q)) (wp_bds a1 (wp_lt (wp_ifn (fun q => e (hp.mp q)) (wp_bds a2 ?_))))
      exact fin
theorem s_narrows {S : Sg} {w : Wd} (hw : MW S w) (hk : wok w) (ha : wans w) : wp (f_X7_narrows S) (fun S' => Fm nmI noJ S S' ∧ NM S' (narrowed w)) := by
  have hl := gok_len hk.2.2.2.2.2.2.1
  unfold f_X7_narrows
  refine wp_bdm (up (F := fun n k S' => L_X7_narrows_2 n (nI k) S') 10 (fun k S' => Fm nmI noJ S S' ∧ ∀ j, j < k → S'.1 161 j = I (dat w 1 j) ∧ S'.1 162 j = I (dat w 2 j)) (fun S' => Fm nmI noJ S S' ∧ NM S' (dat w 1, dat w 2)) ?_ ?_ 400 0 S (by omega) (by omega) ⟨Fm.rf, fun j h => by omega⟩) ?_
  · intro n k S2 hk' ⟨q1, q2⟩ ih
    rw [L_X7_narrows_2]
    have e1 : S2.1 143 k = I (dat w 1 k) := by rw [q1.1 _ _ (by omega)]; exact (hw.2.1 k hk').2.1
    have e2 : S2.1 144 k = I (dat w 2 k) := by rw [q1.1 _ _ (by omega)]; exact (hw.2.1 k hk').2.2
    refine wp_ifp (lt10 hk') (wp_gd (inn' hk' (by omega)) (wp_lt ?_))
    rw [ixn (by omega), e1, setI_n (by omega), e2]
    show wp (L_X7_narrows_2 n (nI k + 1) (setI (setI S2 161 k _) 162 k _)) _
    rw [nIs]
    refine ih _ ⟨(q1.tr (Fm.setI (Or.inl rfl))).tr (Fm.setI (Or.inr rfl)), fun j hj => ?_⟩
    by_cases e : j = k
    · subst e
      exact ⟨by rw [setI_n (by omega), setI_s], setI_s⟩
    · rw [setI_n (by omega), setI_n (by omega), setI_n (by omega), setI_n (by omega)]
      exact q2 j (by omega)
  · intro n S2 ⟨q1, q2⟩
    rw [L_X7_narrows_2]
    exact wp_ifn (nlt10 (Nat.le_refl _) (by omega)) (wp_some ⟨q1, q2⟩)
  intro S2 ⟨q1, q2⟩
  have hx2 : nok (dat w 0) (dat w 1, dat w 2) := fun k hk10 => hk.2.2.2.2.2.1 k hk10
  refine wp_bdm (up (F := fun n r (z : Int32 × Sg) => L_X7_narrows_42 n z.1 (nI r) z.2) 60
    (fun r z => ∃ s, Fm nmI noJ S z.2 ∧ NM z.2 s ∧ nok (dat w 0) s ∧ ((z.1 = 1 ∧ nAll w (60 - r) s = narrowed w) ∨ (z.1 = 0 ∧ s = narrowed w)))
    (fun S' => Fm nmI noJ S S' ∧ NM S' (narrowed w)) ?_ ?_ 400 0 (1, S2) (by omega) (by omega) ⟨_, q1, q2, hx2, Or.inl ⟨rfl, rfl⟩⟩) (fun S' h => wp_some h)
  · intro n r ⟨f, S3⟩ hr ⟨s, u1, u2, u3, u4⟩ ih
    have u1 : Fm nmI noJ S S3 := u1
    have u2 : NM S3 s := u2
    show wp (L_X7_narrows_42 (n + 1) f (nI r) S3) _
    rw [L_X7_narrows_42]
    refine wp_ifp (lt60 hr) ?_
    rcases u4 with ⟨e, hs⟩ | ⟨e, hs⟩
    · have e : f = 1 := e
      subst e
      refine wp_ifn (by decide) ?_
      refine wp_bdm (up (F := fun n i (z : Int32 × Sg) => L_X7_narrows_56 (nI r) n z.1 (nI i) z.2) (gh w).length
        (fun i z => Fm nmI noJ S z.2 ∧ NM z.2 (nG w i (s, false)).1 ∧ z.1 = if (nG w i (s, false)).2 = true then 1 else 0)
        (fun z => Fm nmI noJ S z.2 ∧ NM z.2 (nG w (gh w).length (s, false)).1 ∧ z.1 = if (nG w (gh w).length (s, false)).2 = true then 1 else 0) ?_ ?_ 400 0 (0, S3) (by omega) (by omega) ⟨u1, u2, rfl⟩) ?_
      · intro m i ⟨g, S4⟩ hi ⟨v1, v2, v3⟩ ih2
        have v1 : Fm nmI noJ S S4 := v1
        have v2 : NM S4 (nG w i (s, false)).1 := v2
        have v3 : g = if (nG w i (s, false)).2 = true then 1 else 0 := v3
        have hw4 : MW S4 w := hw.fm v1 (fun o k q r => by omega)
        show wp (L_X7_narrows_56 (nI r) (m + 1) g (nI i) S4) _
        rw [L_X7_narrows_56, hw4.2.2.1.2.2.2]
        refine wp_ifp (nI_lt hi (by omega)) ?_
        have hnx := nG_ok hk ha i (by omega) (s, false) u3
        refine wp_bdm (up (F := fun n v (z : Int32 × Sg) => L_X7_narrows_67 (nI r) (nI i) n z.1 (nI v) z.2) 10
          (fun v z => Fm nmI noJ S z.2 ∧ NM z.2 (nR (gro (gh w) i) (dat w 3 i) v (nG w i (s, false))).1 ∧ z.1 = if (nR (gro (gh w) i) (dat w 3 i) v (nG w i (s, false))).2 = true then 1 else 0)
          (fun z => Fm nmI noJ S z.2 ∧ NM z.2 (nG w (i + 1) (s, false)).1 ∧ z.1 = if (nG w (i + 1) (s, false)).2 = true then 1 else 0) ?_ ?_ 400 0 (g, S4) (by omega) (by omega) ⟨v1, v2, v3⟩) ?_
        · intro l v ⟨a, S5⟩ hv ⟨x1, x2, x3⟩ ih3
          have x1 : Fm nmI noJ S S5 := x1
          have x2 : NM S5 (nR (gro (gh w) i) (dat w 3 i) v (nG w i (s, false))).1 := x2
          have x3 : a = if (nR (gro (gh w) i) (dat w 3 i) v (nG w i (s, false))).2 = true then 1 else 0 := x3
          have hw5 : MW S5 w := hw.fm x1 (fun o k q r => by omega)
          show wp (L_X7_narrows_67 (nI r) (nI i) (l + 1) a (nI v) S5) _
          rw [L_X7_narrows_67]
          refine wp_ifp (lt10 hv) (wp_bdm (s_narrowsOne hw5 hk x2 (nR_ok (rows_bdd hk i hi) (ha i hi) v (by omega) _ hnx) hi hv) ?_)
          intro ⟨y, S6⟩ ⟨y1, y2, y3⟩
          have y1 : y = (if nmv (gro (gh w) i) (dat w 3 i) v (nR (gro (gh w) i) (dat w 3 i) v (nG w i (s, false))).1 = true then 1 else 0) := y1
          show wp (L_X7_narrows_67 (nI r) (nI i) l (a ||| y) (nI v + 1) S6) _
          rw [nIs]
          refine ih3 (_, S6) ⟨x1.tr y2, y3, ?_⟩
          show a ||| y = _
          rw [x3, y1, or01]
          rfl
        · intro l ⟨a, S5⟩ h5
          show wp (L_X7_narrows_67 (nI r) (nI i) (l + 1) a (nI 10) S5) _
          rw [L_X7_narrows_67]
          exact wp_ifn (nlt10 (Nat.le_refl _) (by omega)) (wp_some h5)
        · intro ⟨a, S5⟩ h5
          show wp (L_X7_narrows_56 (nI r) m a (nI i + 1) S5) _
          rw [nIs]
          exact ih2 (a, S5) h5
      · intro m ⟨g, S4⟩ ⟨v1, v2, v3⟩
        have v1 : Fm nmI noJ S S4 := v1
        have hw4 : MW S4 w := hw.fm v1 (fun o k q r => by omega)
        show wp (L_X7_narrows_56 (nI r) (m + 1) g (nI (gh w).length) S4) _
        rw [L_X7_narrows_56, hw4.2.2.1.2.2.2]
        exact wp_ifn (nI_nlt (Nat.le_refl _) (by omega)) (wp_some ⟨v1, v2, v3⟩)
      · intro ⟨g, S4⟩ ⟨v1, v2, v3⟩
        have v3 : g = if (nG w (gh w).length (s, false)).2 = true then 1 else 0 := v3
        show wp (L_X7_narrows_42 n g (nI r + 1) S4) _
        rw [nIs]
        have hs' : nAll w (60 - (r + 1) + 1) s = narrowed w := by rw [show 60 - (r + 1) + 1 = 60 - r by omega]; exact hs
        refine ih (g, S4) ⟨_, v1, v2, nG_ok hk ha _ (Nat.le_refl _) (s, false) u3, ?_⟩
        have hs2 : (if (nG w (gh w).length (s, false)).2 = true then nAll w (60 - (r + 1)) (nG w (gh w).length (s, false)).1 else (nG w (gh w).length (s, false)).1) = narrowed w := hs'
        by_cases e : (nG w (gh w).length (s, false)).2 = true
        · rw [if_pos e] at v3 hs2
          exact Or.inl ⟨v3, hs2⟩
        · rw [if_neg e] at v3 hs2
          exact Or.inr ⟨v3, hs2⟩
    · have e : f = 0 := e
      subst e
      subst hs
      exact wp_ifp rfl (wp_some ⟨u1, u2⟩)
  · intro n ⟨f, S3⟩ ⟨s, u1, u2, u3, u4⟩
    have u2 : NM S3 s := u2
    show wp (L_X7_narrows_42 (n + 1) f (nI 60) S3) _
    rw [L_X7_narrows_42]
    have hs : s = narrowed w := by
      rcases u4 with ⟨_, hs⟩ | ⟨_, hs⟩
      · exact hs
      · exact hs
    rw [hs] at u2
    exact wp_ifn nlt60 (wp_some ⟨u1, u2⟩)
-- what is read off the ends
def wd (s : nst) (k : Nat) : Int := s.2 k - s.1 k + 1
theorem wd_bd {x : Nat → Int} {s : nst} (h : nok x s) {k : Nat} (hk : k < 10) : 1 ≤ wd s k ∧ wd s k ≤ 100 := by
  have := h k hk
  unfold wd
  omega
def nbest (s : nst) : Nat → Nat
  | 0 => 0
  | n + 1 => if n = 0 then 0 else if wd s n < wd s (nbest s n) then n else nbest s n
theorem nbest_lt (s : nst) : ∀ n, 0 < n → nbest s n < n := by
  intro n
  induction n with
  | zero => intro h; omega
  | succ n ih =>
    intro _
    show (if n = 0 then 0 else if wd s n < wd s (nbest s n) then n else nbest s n) < n + 1
    by_cases e : n = 0
    · rw [if_pos e]; omega
    · rw [if_neg e]
      have := ih (by omega)
      by_cases h : wd s n < wd s (nbest s n)
      · rw [if_pos h]; omega
      · rw [if_neg h]; omega
theorem nbest_s {s : nst} {n : Nat} (h : 0 < n) : nbest s (n + 1) = if wd s n < wd s (nbest s n) then n else nbest s n := by
  show (if n = 0 then 0 else _) = _
  rw [if_neg (by omega)]
theorem s_widthOf {o m k : Nat} {S : Sg} {s : nst} (h : NW o S m s) (hm : m ≤ 10) (hk : k < m) : f_X0_widthOf o (nI k) S = some (I (wd s k)) := by
  unfold f_X0_widthOf
  rw [s_leastOf (by omega), s_mostOf (by omega), (h.2 k hk).1, (h.2 k hk).2]
  show some (I (s.2 k) - I (s.1 k) + (1 : Int32)) = _
  rw [I_sub, show (1 : Int32) = I 1 from rfl, I_add]
  rfl
theorem s_widthM {k : Nat} {S : Sg} {s : nst} (h : NM S s) (hk : k < 10) : f_X7_width (nI k) S = some (I (wd s k)) := by
  apply wp_to
  unfold f_X7_width
  refine wp_gd (inn' hk (by omega)) (wp_some ?_)
  rw [ixn (by omega), (h k hk).1, (h k hk).2, I_sub, show (1 : Int32) = I 1 from rfl, I_add]
  rfl
theorem wd1 {x : Nat → Int} {s : nst} (h : nok x s) {k : Nat} (hk : k < 10) : I (wd s k) = (1 : Int32) ↔ wd s k = 1 := by
  have := wd_bd h hk
  exact I_eq (b := 1) (by omega) (by omega)
theorem s_knownBits {o m : Nat} {S : Sg} {s : nst} {x : Nat → Int} (h : NW o S m s) (hm : m ≤ 10) (hx : nok x s) : wp (f_X0_knownBits o S) (fun r => bitsAre r (fun v => v < m ∧ wd s v = 1)) := by
  unfold f_X0_knownBits
  refine wp_bdm (up (F := fun n k (x : Int32) => L_X0_knownBits_4 o S n x (nI k)) m (fun k x => bitsAre x (fun v => v < k ∧ wd s v = 1)) (fun x => bitsAre x (fun v => v < m ∧ wd s v = 1)) ?_ ?_ 400 0 0 (by omega) (by omega) (bits_to bits_0 fun i _ => ⟨fun h => h.elim, fun h => by omega⟩)) (fun x h => wp_some h)
  · intro n k y hk hp ih
    rw [L_X0_knownBits_4, h.1]
    refine wp_ifp (nI_lt hk (by omega)) ?_
    rw [s_widthOf h hm hk]
    have h1 := wd1 hx (k := k) (by omega)
    refine wp_bds rfl ?_
    by_cases e : wd s k = 1
    · refine wp_ltq (y ||| isl 1 (nI k)) (if_pos (h1.mpr e)) ?_
      show wp (L_X0_knownBits_4 o S n _ (nI k + 1)) _
      rw [nIs]
      refine ih _ (bits_to (bits_or hp (by omega)) fun i _ => ?_)
      constructor
      · rintro (q | q)
        · exact ⟨by omega, q.2⟩
        · exact ⟨by omega, q ▸ e⟩
      · intro q
        by_cases e2 : i = k
        · exact Or.inr e2
        · exact Or.inl ⟨by omega, q.2⟩
    · refine wp_ltq y (if_neg (fun q => e (h1.mp q))) ?_
      show wp (L_X0_knownBits_4 o S n _ (nI k + 1)) _
      rw [nIs]
      refine ih _ (bits_to hp fun i _ => ?_)
      constructor
      · intro q; exact ⟨by omega, q.2⟩
      · intro q
        by_cases e2 : i = k
        · exact absurd (e2 ▸ q.2) e
        · exact ⟨by omega, q.2⟩
  · intro n y hp
    rw [L_X0_knownBits_4, h.1]
    exact wp_ifn (nI_nlt (Nat.le_refl _) (by omega)) (wp_some hp)
theorem or_0 (x : Int32) : x ||| 0 = x := by
  apply Int32.toBitVec_inj.mp
  rw [Int32.toBitVec_or]
  simp
theorem s_knownNow {w : Wd} {S : Sg} {s : nst} {x : Nat → Int} (hw : MW S w) (h : NM S s) (hm : num w 0 ≤ 10) (hx : nok x s) : wp (f_X7_knownNow S) (fun r => bitsAre r (fun v => v < num w 0 ∧ wd s v = 1)) := by
  unfold f_X7_knownNow
  refine wp_bdm (up (F := fun n k (x : Int32) => L_X7_knownNow_4 S n x (nI k)) (num w 0) (fun k x => bitsAre x (fun v => v < k ∧ wd s v = 1)) (fun x => bitsAre x (fun v => v < num w 0 ∧ wd s v = 1)) ?_ ?_ 400 0 0 (by omega) (by omega) (bits_to bits_0 fun i _ => ⟨fun h => h.elim, fun h => by omega⟩)) (fun x h => wp_some h)
  · intro n k y hk hp ih
    rw [L_X7_knownNow_4, hw.2.2.1.1]
    refine wp_ifp (nI_lt hk (by omega)) ?_
    rw [s_widthM h (by omega)]
    have h1 := wd1 hx (k := k) (by omega)
    refine wp_bds rfl ?_
    by_cases e : wd s k = 1
    · refine wp_ltq (isl 1 (nI k)) (if_pos (h1.mpr e)) ?_
      show wp (L_X7_knownNow_4 S n (y ||| isl 1 (nI k)) (nI k + 1)) _
      rw [nIs]
      refine ih _ (bits_to (bits_or hp (by omega)) fun i _ => ?_)
      constructor
      · rintro (q | q)
        · exact ⟨by omega, q.2⟩
        · exact ⟨by omega, q ▸ e⟩
      · intro q
        by_cases e2 : i = k
        · exact Or.inr e2
        · exact Or.inl ⟨by omega, q.2⟩
    · refine wp_ltq 0 (if_neg (fun q => e (h1.mp q))) ?_
      show wp (L_X7_knownNow_4 S n (y ||| 0) (nI k + 1)) _
      rw [nIs, or_0]
      refine ih _ (bits_to hp fun i _ => ?_)
      constructor
      · intro q; exact ⟨by omega, q.2⟩
      · intro q
        by_cases e2 : i = k
        · exact absurd (e2 ▸ q.2) e
        · exact ⟨by omega, q.2⟩
  · intro n y hp
    rw [L_X7_knownNow_4, hw.2.2.1.1]
    exact wp_ifn (nI_nlt (Nat.le_refl _) (by omega)) (wp_some hp)
theorem s_narrowest {o m : Nat} {S : Sg} {s : nst} {x : Nat → Int} (h : NW o S m s) (hm : m ≤ 10) (hm1 : 1 ≤ m) (hx : nok x s) : f_X0_narrowest o S = some (nI (nbest s m)) := by
  apply wp_to
  unfold f_X0_narrowest
  refine wp_bdm (up (F := fun n k (x : Int32) => L_X0_narrowest_4 o S n x (nI k)) m (fun k x => 1 ≤ k ∧ x = nI (nbest s k)) (fun x => x = nI (nbest s m)) ?_ ?_ 400 1 0 hm1 (by omega) ⟨Nat.le_refl _, rfl⟩) (fun x h => wp_some h)
  · intro n k y hk ⟨hp1, hp⟩ ih
    have hb := nbest_lt s k (by omega)
    rw [L_X0_narrowest_4, h.1, hp]
    refine wp_ifp (nI_lt hk (by omega)) ?_
    rw [s_widthOf h hm hk, s_widthOf h hm (show nbest s k < m by omega)]
    have b1 := wd_bd hx (k := k) (by omega)
    have b2 := wd_bd hx (k := nbest s k) (by omega)
    have hc : I (wd s k) < I (wd s (nbest s k)) ↔ wd s k < wd s (nbest s k) := I_lt (by omega) (by omega)
    show wp (L_X0_narrowest_4 o S n (if I (wd s k) < I (wd s (nbest s k)) then nI k else nI (nbest s k)) (nI k + 1)) _
    rw [nIs]
    refine ih _ ⟨by omega, ?_⟩
    rw [nbest_s (by omega)]
    by_cases e : wd s k < wd s (nbest s k)
    · rw [if_pos (hc.mpr e), if_pos e]
    · rw [if_neg (fun q => e (hc.mp q)), if_neg e]
  · intro n y ⟨_, hp⟩
    rw [L_X0_narrowest_4, h.1]
    exact wp_ifn (nI_nlt (Nat.le_refl _) (by omega)) (wp_some hp)
theorem s_narrowestM {w : Wd} {S : Sg} {s : nst} {x : Nat → Int} (hw : MW S w) (h : NM S s) (hm : num w 0 ≤ 10) (hm1 : 1 ≤ num w 0) (hx : nok x s) : f_X7_narrowest S = some (nI (nbest s (num w 0))) := by
  apply wp_to
  unfold f_X7_narrowest
  refine wp_bdm (up (F := fun n k (x : Int32) => L_X7_narrowest_4 S n x (nI k)) (num w 0) (fun k x => 1 ≤ k ∧ x = nI (nbest s k)) (fun x => x = nI (nbest s (num w 0))) ?_ ?_ 400 1 0 hm1 (by omega) ⟨Nat.le_refl _, rfl⟩) (fun x h => wp_some h)
  · intro n k y hk ⟨hp1, hp⟩ ih
    have hb := nbest_lt s k (by omega)
    rw [L_X7_narrowest_4, hw.2.2.1.1, hp]
    refine wp_ifp (nI_lt hk (by omega)) ?_
    rw [s_widthM h (show k < 10 by omega), s_widthM h (show nbest s k < 10 by omega)]
    have b1 := wd_bd hx (k := k) (by omega)
    have b2 := wd_bd hx (k := nbest s k) (by omega)
    have hc : I (wd s k) < I (wd s (nbest s k)) ↔ wd s k < wd s (nbest s k) := I_lt (by omega) (by omega)
    show wp (L_X7_narrowest_4 S n (if I (wd s k) < I (wd s (nbest s k)) then nI k else nI (nbest s k)) (nI k + 1)) _
    rw [nIs]
    refine ih _ ⟨by omega, ?_⟩
    rw [nbest_s (by omega)]
    by_cases e : wd s k < wd s (nbest s k)
    · rw [if_pos (hc.mpr e), if_pos e]
    · rw [if_neg (fun q => e (hc.mp q)), if_neg e]
  · intro n y ⟨_, hp⟩
    rw [L_X7_narrowest_4, hw.2.2.1.1]
    exact wp_ifn (nI_nlt (Nat.le_refl _) (by omega)) (wp_some hp)
theorem s_widths {o m : Nat} {S : Sg} {s : nst} (h : NW o S m s) (hm : m ≤ 10) : f_X0_widths o S = some (I (sm m (wd s))) := by
  apply wp_to
  unfold f_X0_widths
  refine wp_bdm (up (F := fun n k (x : Int32) => L_X0_widths_4 o S n x (nI k)) m (fun k x => x = I (sm k (wd s))) (fun x => x = I (sm m (wd s))) ?_ ?_ 400 0 0 (by omega) (by omega) rfl) (fun x h => wp_some h)
  · intro n k y hk hp ih
    rw [L_X0_widths_4, h.1]
    refine wp_ifp (nI_lt hk (by omega)) ?_
    rw [s_widthOf h hm hk]
    show wp (L_X0_widths_4 o S n (y + I (wd s k)) (nI k + 1)) _
    rw [nIs, hp, I_add]
    exact ih _ rfl
  · intro n y hp
    rw [L_X0_widths_4, h.1]
    exact wp_ifn (nI_nlt (Nat.le_refl _) (by omega)) (wp_some hp)
