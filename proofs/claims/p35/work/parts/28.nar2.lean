theorem wp_u2 {α β τ : Type _} {f : α → β → Option τ} {a : α} {b : β} {Q : τ → Prop} (h : wp (f a b) Q) : wp (u2 f (a, b)) Q := h
/-- the class's Narrowing holds s for the first m letters -/
def NW (o : Nat) (S : Sg) (m : Nat) (s : nst) : Prop := S.1 o 2 = nI m ∧ ∀ k, k < m → S.1 (o + 1) k = I (s.1 k) ∧ S.1 (o + 2) k = I (s.2 k)
theorem s_leastOf {o : Nat} {S : Sg} {k : Nat} (hk : k < 10) : f_X0_leastOf o (nI k) S = some (S.1 (o + 1) k) := by
  apply wp_to
  unfold f_X0_leastOf
  rw [isW10 hk]
  refine wp_ifn (by decide) (wp_gd (inn' hk (by omega)) (wp_some ?_))
  rw [ixn (by omega)]
theorem s_mostOf {o : Nat} {S : Sg} {k : Nat} (hk : k < 10) : f_X0_mostOf o (nI k) S = some (S.1 (o + 2) k) := by
  apply wp_to
  unfold f_X0_mostOf
  rw [isW10 hk]
  refine wp_ifn (by decide) (wp_gd (inn' hk (by omega)) (wp_some ?_))
  rw [ixn (by omega)]
theorem cpos {x : Int} (h : -3 ≤ x ∧ x ≤ 3) : (0 : Int32) < I x ↔ 0 < x := I_lt (a := 0) (by omega) (by omega)
theorem s_lowEnd {o m : Nat} {S : Sg} {s : nst} {c : Nat → Int} {k : Nat} (h : NW o S m s) (hm : m ≤ 10) (hk : k < m) (hc : bdd c 3) : f_X0_lowEnd o (I (c k)) (nI k) S = some (I (loE c s k)) := by
  have hp := cpos (hc k (by omega))
  unfold f_X0_lowEnd
  rw [s_leastOf (by omega), s_mostOf (by omega), (h.2 k hk).1, (h.2 k hk).2]
  unfold loE
  by_cases e : 0 < c k
  · rw [if_pos (hp.mpr e), if_pos e]; show some (I _ * I _) = _; rw [I_mul]
  · rw [if_neg (fun q => e (hp.mp q)), if_neg e]; show some (I _ * I _) = _; rw [I_mul]
theorem s_highEnd {o m : Nat} {S : Sg} {s : nst} {c : Nat → Int} {k : Nat} (h : NW o S m s) (hm : m ≤ 10) (hk : k < m) (hc : bdd c 3) : f_X0_highEnd o (I (c k)) (nI k) S = some (I (hiE c s k)) := by
  have hp := cpos (hc k (by omega))
  unfold f_X0_highEnd
  rw [s_leastOf (by omega), s_mostOf (by omega), (h.2 k hk).1, (h.2 k hk).2]
  unfold hiE
  by_cases e : 0 < c k
  · rw [if_pos (hp.mpr e), if_pos e]; show some (I _ * I _) = _; rw [I_mul]
  · rw [if_neg (fun q => e (hp.mp q)), if_neg e]; show some (I _ * I _) = _; rw [I_mul]
abbrev inNa (o : Nat) : Nat → Prop := fun p => p = o + 1 ∨ p = o + 2
theorem NW_n1 {o m : Nat} {S S' : Sg} {s : nst} {c : Nat → Int} {t : Int} {v : Nat} (h : NW o S m s) (h0 : c v ≠ 0) (f : Fr (inNa o) S S') (e1 : ∀ k, S'.1 (o + 1) k = if k = v then I (if s.1 v < nA1 c t v s then nA1 c t v s else s.1 v) else S.1 (o + 1) k) (e2 : ∀ k, S'.1 (o + 2) k = if k = v then I (if nB1 c t v s < s.2 v then nB1 c t v s else s.2 v) else S.1 (o + 2) k) : NW o S' m (n1 c t v s) := by
  refine ⟨by rw [f.I (by omega)]; exact h.1, fun k hk => ?_⟩
  unfold n1
  rw [if_neg h0, e1, e2]
  by_cases e : k = v
  · rw [if_pos e, if_pos e]
    show _ = I (if k = v then _ else _) ∧ _ = I (if k = v then _ else _)
    rw [if_pos e, if_pos e]
    exact ⟨rfl, rfl⟩
  · rw [if_neg e, if_neg e]
    show _ = I (if k = v then _ else _) ∧ _ = I (if k = v then _ else _)
    rw [if_neg e, if_neg e]
    exact h.2 k hk
theorem nAB_bd {c x : Nat → Int} {s : nst} {t : Int} (hc : bdd c 3) (hx : nok x s) (ht : -3000 ≤ t ∧ t ≤ 3000) {v : Nat} (hv : v < 10) (h0 : c v ≠ 0) : (-8000 ≤ nA1 c t v s ∧ nA1 c t v s ≤ 8000) ∧ (-8000 ≤ nB1 c t v s ∧ nB1 c t v s ≤ 8000) := by
  have h1 := nFT_bd hc hx ht hv
  unfold nA1 nB1
  rcases c_cases (hc v hv) h0 with e | e | e | e | e | e <;> rw [e]
  · rw [if_pos (by decide), if_pos (by decide)]; omega
  · rw [if_pos (by decide), if_pos (by decide)]; omega
  · rw [if_pos (by decide), if_pos (by decide)]; omega
  · rw [if_neg (by decide), if_neg (by decide), Int.neg_neg]; omega
  · rw [if_neg (by decide), if_neg (by decide), Int.neg_neg]; omega
  · rw [if_neg (by decide), if_neg (by decide), Int.neg_neg]; omega
theorem s_narrowOne {o m : Nat} {S : Sg} {s : nst} {c x : Nat → Int} {t : Int} {v : Nat} (h : NW o S m s) (hm : m ≤ 10) (hv : v < m) (hc : bdd c 3) (h0 : c v ≠ 0) (hx : nok x s) (ht : -3000 ≤ t ∧ t ≤ 3000) : wp (f_X0_narrowOne o (nI v) (I (c v)) (I (nF c t v s)) (I (nT c t v s)) S) (fun z => z.1 = (if nmv c t v s = true then 1 else 0) ∧ Fr (inNa o) S z.2 ∧ NW o z.2 m (n1 c t v s)) := by
  have hv10 : v < 10 := by omega
  have hcv := hc v hv10
  have hp := cpos hcv
  have hft := nFT_bd hc hx ht hv10
  have hab := nAB_bd hc hx ht hv10 h0
  have hxv := hx v hv10
  obtain ⟨l1, l2⟩ := h.2 v hv
  unfold f_X0_narrowOne
  rw [isW10 hv10]
  refine wp_ifn (by decide) (wp_ifn (fun e => h0 ((I_eq (b := 0) (by omega) (by omega)).mp e)) ?_)
  have eA : f_J9_floorDiv_7cf53 (if (0 : Int32) < I (c v) then - I (nF c t v s) else - I (nT c t v s)) (I (c v)) = some (I (- nA1 c t v s)) := by
    by_cases e : 0 < c v
    · rw [if_pos (hp.mpr e), I_neg, s_floorDiv (by omega) hcv h0]
      unfold nA1 flo
      rw [if_pos e, if_pos e, Int.neg_neg]
    · rw [if_neg (fun q => e (hp.mp q)), I_neg, s_floorDiv (by omega) hcv h0]
      unfold nA1 flo
      rw [if_neg e, if_neg e, Int.neg_neg, Int.neg_neg]
  have eB : f_J9_floorDiv_7cf53 (if (0 : Int32) < I (c v) then I (nT c t v s) else I (nF c t v s)) (I (c v)) = some (I (nB1 c t v s)) := by
    by_cases e : 0 < c v
    · rw [if_pos (hp.mpr e), s_floorDiv (by omega) hcv h0]
      unfold nB1 flo
      rw [if_pos e, if_pos e]
    · rw [if_neg (fun q => e (hp.mp q)), s_floorDiv (by omega) hcv h0]
      unfold nB1 flo
      rw [if_neg e, if_neg e]
  refine wp_lt (wp_bds eA ?_)
  refine wp_ltq (I (nA1 c t v s)) (by rw [I_neg, Int.neg_neg]) ?_
  refine wp_lt (wp_bds eB (wp_gd (inn' hv10 (by omega)) (wp_lt ?_)))
  rw [ixn (by omega), l1]
  have cA : I (s.1 v) < I (nA1 c t v s) ↔ s.1 v < nA1 c t v s := I_lt (by omega) (by omega)
  have cB : I (nB1 c t v s) < I (s.2 v) ↔ nB1 c t v s < s.2 v := I_lt (by omega) (by omega)
  have hmv : nmv c t v s = true ↔ (s.1 v < nA1 c t v s ∨ nB1 c t v s < s.2 v) := by
    unfold nmv
    rw [decide_eq_true_iff]
    exact ⟨fun q => q.2, fun q => ⟨h0, q⟩⟩
  -- the upper end
  have up2 : ∀ (f : Int32) (S2 : Sg), (f = if s.1 v < nA1 c t v s then 1 else 0) → Fr (fun p => p = o + 1) S S2 → (∀ k, S2.1 (o + 1) k = if k = v then I (if s.1 v < nA1 c t v s then nA1 c t v s else s.1 v) else S.1 (o + 1) k) →
      wp (if I (nB1 c t v s) < S2.1 (o + 2) v then lt (setI S2 (o + 2) v (I (nB1 c t v s))) fun S_2 => some ((1 : Int32), S_2) else gd (isb f) <| some (f, S2)) (fun z => z.1 = (if nmv c t v s = true then 1 else 0) ∧ Fr (inNa o) S z.2 ∧ NW o z.2 m (n1 c t v s)) := by
    intro f S2 hf f2 e1
    have e22 : ∀ k, S2.1 (o + 2) k = S.1 (o + 2) k := fun k => f2.I (by omega) k
    rw [e22 v, l2]
    refine wp_if (fun q => ?_) (fun q => ?_)
    · have q' := cB.mp q
      refine wp_lt (wp_some ⟨by rw [if_pos (hmv.mpr (Or.inr q'))], (f2.mono fun p hp => Or.inl hp).tr (Fr.setI (Or.inr rfl)), NW_n1 h h0 ((f2.mono fun p hp => Or.inl hp).tr (Fr.setI (Or.inr rfl))) (fun k => ?_) (fun k => ?_)⟩)
      · rw [setI_n (by omega)]; exact e1 k
      · by_cases e : k = v
        · rw [if_pos e, if_pos q', e, setI_s]
        · rw [if_neg e, setI_n (by omega)]; exact e22 k
    · have q' : ¬ nB1 c t v s < s.2 v := fun z => q (cB.mpr z)
      have fb : f = 0 ∨ f = 1 := by
        rw [hf]
        by_cases z : s.1 v < nA1 c t v s
        · rw [if_pos z]; exact Or.inr rfl
        · rw [if_neg z]; exact Or.inl rfl
      refine wp_gd (isb_of fb) (wp_some ⟨?_, f2.mono fun p hp => Or.inl hp, NW_n1 h h0 (f2.mono fun p hp => Or.inl hp) e1 (fun k => ?_)⟩)
      · show f = _
        rw [hf]
        by_cases z : s.1 v < nA1 c t v s
        · rw [if_pos z, if_pos (hmv.mpr (Or.inl z))]
        · rw [if_neg z, if_neg (fun y => by rcases hmv.mp y with y | y; exact z y; exact q' y)]
      · by_cases e : k = v
        · rw [if_pos e, if_neg q', e, e22]; exact l2
        · rw [if_neg e]; exact e22 k
  refine wp_if (fun q => ?_) (fun q => ?_)
  · have q' := cA.mp q
    refine wp_lt (up2 1 _ (by rw [if_pos q']) (Fr.setI rfl) fun k => ?_)
    by_cases e : k = v
    · rw [if_pos e, if_pos q', e, setI_s]
    · rw [if_neg e, setI_n (by omega)]
  · have q' : ¬ s.1 v < nA1 c t v s := fun z => q (cA.mpr z)
    refine up2 0 S (by rw [if_neg q']) Fr.rf fun k => ?_
    by_cases e : k = v
    · rw [if_pos e, if_neg q', e]; exact l1
    · rw [if_neg e]
theorem NW.fr {o m : Nat} {S S' : Sg} {s : nst} {A : Nat → Prop} (h : NW o S m s) (f : Fr A S S') (hA : ¬ A o ∧ ¬ A (o + 1) ∧ ¬ A (o + 2)) : NW o S' m s := ⟨by rw [f.I hA.1]; exact h.1, fun k hk => by rw [f.I hA.2.1, f.I hA.2.2]; exact h.2 k hk⟩
theorem s_narrowByRow {o o1 : Nat} {S : Sg} {w : Wd} {s : nst} {i : Nat} (hw : CW o1 S w) (hk : wok w) (ha : wans w) (ho : o1 + 43 ≤ o) (hN : NW o S (num w 0) s) (hx : nok (dat w 0) s) (hi : i < (gh w).length) : wp (f_X0_narrowByRow o o1 (nI i) S) (fun z => z.1 = (if (nR (gro (gh w) i) (dat w 3 i) 10 (s, false)).2 = true then 1 else 0) ∧ Fr (inNa o) S z.2 ∧ NW o z.2 (num w 0) (nR (gro (gh w) i) (dat w 3 i) 10 (s, false)).1) := by
  have hv := hk.2.2.1
  have hc := rows_bdd hk i hi
  have hl := gok_len hk.2.2.2.2.2.2.1
  have hz : ∀ v, num w 0 ≤ v → v < 10 → gro (gh w) i v = 0 := (hk.2.2.2.2.2.2.2.2 i hi).2.1
  have ht : -3000 ≤ dat w 3 i ∧ dat w 3 i ≤ 3000 := by have := (hk.2.2.2.2.2.2.2.2 i hi).2.2; omega
  have hans := ha i hi
  generalize hcc : gro (gh w) i = c at hc hz hans
  generalize htt : dat w 3 i = t at ht hans
  have coef : ∀ S', CW o1 S' w → ∀ v, v < 10 → f_X5_coefficient o1 (nI i) (nI v) S' = some (I (c v)) := fun S' h v hv => by rw [← hcc]; exact s_coef h hi hl hv
  unfold f_X0_narrowByRow
  refine wp_bdm (up (F := fun n k (x : Int32 × Int32) => L_X0_narrowByRow_8 o o1 (nI i) S n x.1 x.2 (nI k)) (num w 0) (fun k x => x.1 = I (sm k (loE c s)) ∧ x.2 = I (sm k (hiE c s))) (fun x => x.1 = I (sm 10 (loE c s)) ∧ x.2 = I (sm 10 (hiE c s))) ?_ ?_ 400 0 (0, 0) (by omega) (by omega) ⟨rfl, rfl⟩) ?_
  · intro n k ⟨x, y⟩ hk' ⟨p1, p2⟩ ih
    show wp (L_X0_narrowByRow_8 o o1 (nI i) S (n + 1) x y (nI k)) _
    rw [L_X0_narrowByRow_8, hN.1]
    refine wp_ifp (nI_lt hk' (by omega)) ?_
    rw [coef S hw k (by omega)]
    refine wp_bds rfl ?_
    rw [s_lowEnd hN hv.2 hk' hc, s_highEnd hN hv.2 hk' hc]
    show wp (L_X0_narrowByRow_8 o o1 (nI i) S n (x + I (loE c s k)) (y + I (hiE c s k)) (nI k + 1)) _
    rw [nIs]
    have p1 : x = I (sm k (loE c s)) := p1
    have p2 : y = I (sm k (hiE c s)) := p2
    exact ih (_, _) ⟨by show x + _ = _; rw [p1, I_add]; rfl, by show y + _ = _; rw [p2, I_add]; rfl⟩
  · intro n ⟨x, y⟩ ⟨p1, p2⟩
    show wp (L_X0_narrowByRow_8 o o1 (nI i) S (n + 1) x y (nI (num w 0))) _
    rw [L_X0_narrowByRow_8, hN.1]
    refine wp_ifn (nI_nlt (Nat.le_refl _) (by omega)) (wp_some ⟨?_, ?_⟩)
    · rw [sm_z (m := num w 0) (fun k h1 h2 => (loE_z (hz k h1 h2)).1) 10 hv.2 (by omega)]; exact p1
    · rw [sm_z (m := num w 0) (fun k h1 h2 => (loE_z (hz k h1 h2)).2) 10 hv.2 (by omega)]; exact p2
  intro ⟨x, y⟩ ⟨p1, p2⟩
  show wp (bd (f_X5_answerOf o1 (nI i) S) _) _
  rw [s_answerOf hw hi hl]
  refine wp_bds rfl ?_
  rw [htt]
  -- st v: what is held behind the first v letters
  refine wp_bdm (up (F := fun n k (z : Int32 × Int32 × Int32 × Sg) => L_X0_narrowByRow_69 o o1 (nI i) (I t) n z.1 z.2.1 z.2.2.1 (nI k) z.2.2.2) (num w 0)
    (fun k z => z.1 = I (sm 10 (loE c (nR c t k (s, false)).1)) ∧ z.2.1 = I (sm 10 (hiE c (nR c t k (s, false)).1)) ∧ z.2.2.1 = (if (nR c t k (s, false)).2 = true then 1 else 0) ∧ Fr (inNa o) S z.2.2.2 ∧ NW o z.2.2.2 (num w 0) (nR c t k (s, false)).1)
    (fun z => z.1 = (if (nR c t 10 (s, false)).2 = true then 1 else 0) ∧ Fr (inNa o) S z.2 ∧ NW o z.2 (num w 0) (nR c t 10 (s, false)).1) ?_ ?_ 400 0 (x, y, 0, S) (by omega) (by omega) ⟨p1, p2, rfl, Fr.rf, hN⟩) ?_
  · intro n k ⟨x, y, f, S2⟩ hk' ⟨q1, q2, q3, q4, q5⟩ ih
    have q1 : x = I (sm 10 (loE c (nR c t k (s, false)).1)) := q1
    have q2 : y = I (sm 10 (hiE c (nR c t k (s, false)).1)) := q2
    have q3 : f = (if (nR c t k (s, false)).2 = true then 1 else 0) := q3
    have q4 : Fr (inNa o) S S2 := q4
    have q5 : NW o S2 (num w 0) (nR c t k (s, false)).1 := q5
    show wp (L_X0_narrowByRow_69 o o1 (nI i) (I t) (n + 1) x y f (nI k) S2) _
    rw [L_X0_narrowByRow_69, q5.1]
    have hw2 : CW o1 S2 w := hw.fr q4 (fun p hp => by have := hp.2; omega) hl
    refine wp_ifp (nI_lt hk' (by omega)) ?_
    rw [coef S2 hw2 k (by omega)]
    refine wp_bds rfl ?_
    have hck := hc k (by omega)
    have hz0 : I (c k) = (0 : Int32) ↔ c k = 0 := I_eq (b := 0) (by omega) (by omega)
    generalize hst : (nR c t k (s, false)) = st at q1 q2 q3 q5
    have hnx : nok (dat w 0) st.1 := by rw [← hst]; exact nR_ok hc hans k (by omega) _ hx
    have hsucc : nR c t (k + 1) (s, false) = (n1 c t k st.1, st.2 || nmv c t k st.1) := by rw [← hst]; rfl
    refine wp_if (fun h => ?_) (fun h => ?_)
    · have h0 := hz0.mp h
      have hn := n1_z (t := t) (s := st.1) h0
      show wp (L_X0_narrowByRow_69 o o1 (nI i) (I t) n x y f (nI k + 1) S2) _
      rw [nIs]
      refine ih (x, y, f, S2) ?_
      rw [hsucc, hn.1, hn.2, Bool.or_false]
      exact ⟨q1, q2, q3, q4, q5⟩
    · have h0 : c k ≠ 0 := fun e => h (hz0.mpr e)
      rw [s_lowEnd q5 hv.2 hk' hc, s_highEnd q5 hv.2 hk' hc]
      refine wp_bds rfl (wp_lt (wp_bds rfl (wp_lt ?_)))
      have eF : I t - (y - I (hiE c st.1 k)) = I (nF c t k st.1) := by rw [q2, I_sub, I_sub]; rfl
      have eT : I t - (x - I (loE c st.1 k)) = I (nT c t k st.1) := by rw [q1, I_sub, I_sub]; rfl
      rw [eF, eT]
      refine wp_bdm (s_narrowOne q5 hv.2 hk' hc h0 hnx ht) ?_
      intro ⟨r, S3⟩ ⟨u1, u2, u3⟩
      have u1 : r = (if nmv c t k st.1 = true then 1 else 0) := u1
      have u2 : Fr (inNa o) S2 S3 := u2
      have u3 : NW o S3 (num w 0) (n1 c t k st.1) := u3
      refine wp_u2 (wp_lt ?_)
      rw [s_lowEnd u3 hv.2 hk' hc, s_highEnd u3 hv.2 hk' hc]
      show wp (L_X0_narrowByRow_69 o o1 (nI i) (I t) n (x - I (loE c st.1 k) + I (loE c (n1 c t k st.1) k)) (y - I (hiE c st.1 k) + I (hiE c (n1 c t k st.1) k)) (if r = 0 then f else 1) (nI k + 1) S3) _
      rw [nIs]
      refine ih (_, _, _, S3) ?_
      rw [hsucc]
      have s1 := sm_one (f := loE c (n1 c t k st.1)) (h := loE c st.1) (v := k) (fun j hj => (loE_n1 hj).1) 10 (by omega)
      have s2 := sm_one (f := hiE c (n1 c t k st.1)) (h := hiE c st.1) (v := k) (fun j hj => (loE_n1 hj).2) 10 (by omega)
      refine ⟨?_, ?_, ?_, q4.tr u2, u3⟩
      · show x - I (loE c st.1 k) + I (loE c (n1 c t k st.1) k) = I (sm 10 (loE c (n1 c t k st.1)))
        rw [q1, I_sub, I_add]
        refine congrArg I ?_
        omega
      · show y - I (hiE c st.1 k) + I (hiE c (n1 c t k st.1) k) = I (sm 10 (hiE c (n1 c t k st.1)))
        rw [q2, I_sub, I_add]
        refine congrArg I ?_
        omega
      · show (if r = 0 then f else 1) = (if (st.2 || nmv c t k st.1) = true then 1 else 0)
        rw [u1, q3]
        cases st.2 <;> cases nmv c t k st.1 <;> rfl
  · intro n ⟨x, y, f, S2⟩ ⟨q1, q2, q3, q4, q5⟩
    have q3 : f = (if (nR c t (num w 0) (s, false)).2 = true then 1 else 0) := q3
    have q4 : Fr (inNa o) S S2 := q4
    have q5 : NW o S2 (num w 0) (nR c t (num w 0) (s, false)).1 := q5
    show wp (L_X0_narrowByRow_69 o o1 (nI i) (I t) (n + 1) x y f (nI (num w 0)) S2) _
    rw [L_X0_narrowByRow_69, q5.1]
    refine wp_ifn (nI_nlt (Nat.le_refl _) (by omega)) (wp_some ?_)
    rw [nR_z (m := num w 0) (s, false) hz 10 hv.2 (by omega)]
    exact ⟨q3, q4, q5⟩
  · intro ⟨f, S2⟩ ⟨r1, r2, r3⟩
    have r1 : f = (if (nR c t 10 (s, false)).2 = true then 1 else 0) := r1
    show wp (gd (isb f) <| some (f, S2)) _
    refine wp_gd (isb_of ?_) (wp_some ⟨r1, r2, r3⟩)
    rw [r1]
    by_cases e : (nR c t 10 (s, false)).2 = true
    · rw [if_pos e]; exact Or.inr rfl
    · rw [if_neg e]; exact Or.inl rfl
theorem lt60 {k : Nat} (h : k < 60) : nI k < (60 : Int32) := nI_lt (b := 60) h (by decide)
theorem nlt60 : ¬ nI 60 < (60 : Int32) := nI_nlt (b := 60) (Nat.le_refl _) (by decide)
theorem s_narrow {o o1 : Nat} {S : Sg} {w : Wd} (hw : CW o1 S w) (hk : wok w) (ha : wans w) (ho : o1 + 43 ≤ o) : wp (f_X0_narrow o o1 S) (fun S' => Fr (fun p => p = o ∨ p = o + 1 ∨ p = o + 2) S S' ∧ NW o S' (num w 0) (narrowed w) ∧ nok (dat w 0) (narrowed w)) := by
  have hv := hk.2.2.1
  have hl := gok_len hk.2.2.2.2.2.2.1
  unfold f_X0_narrow
  have emin : f_J9_min_7cf53 (S.1 o1 4) (10 : Int32) = nI (num w 0) := by
    show (if (10 : Int32) < S.1 o1 4 then (10 : Int32) else S.1 o1 4) = _
    rw [hw.2.2.1.1, if_neg (show ¬ (10 : Int32) < nI (num w 0) from nI_nlt (a := 10) hv.2 (by decide))]
  rw [emin]
  refine wp_lt ?_
  generalize hS1 : setI S o 2 (nI (num w 0)) = S1
  have f1 : Fr (fun p => p = o) S S1 := by rw [← hS1]; exact Fr.setI rfl
  have e1 : S1.1 o 2 = nI (num w 0) := by rw [← hS1, setI_s]
  have hw1 : CW o1 S1 w := hw.fr f1 (fun p hp => by have := hp.2; omega) hl
  refine wp_bdm (up (F := fun n k S' => L_X0_narrow_15 o o1 n (nI k) S') (num w 0) (fun k S' => Fr (inNa o) S1 S' ∧ ∀ j, j < k → S'.1 (o + 1) j = I (dat w 1 j) ∧ S'.1 (o + 2) j = I (dat w 2 j)) (fun S' => Fr (inNa o) S1 S' ∧ ∀ j, j < num w 0 → S'.1 (o + 1) j = I (dat w 1 j) ∧ S'.1 (o + 2) j = I (dat w 2 j)) ?_ ?_ 400 0 S1 (by omega) (by omega) ⟨Fr.rf, fun j h => by omega⟩) ?_
  · intro n k S2 hk' ⟨q1, q2⟩ ih
    have hw2 : CW o1 S2 w := hw1.fr q1 (fun p hp => by have := hp.2; omega) hl
    rw [L_X0_narrow_15, q1.I (by omega), e1]
    refine wp_ifp (nI_lt hk' (by omega)) ?_
    rw [s_lowOf hw2 hv.2 hk']
    refine wp_bds rfl (wp_gd (inn' (by omega) (by omega)) (wp_lt ?_))
    rw [ixn (by omega)]
    have f3 : Fr (inNa o) S2 (setI S2 (o + 1) k (I (dat w 1 k))) := Fr.setI (Or.inl rfl)
    have hw3 : CW o1 (setI S2 (o + 1) k (I (dat w 1 k))) w := hw2.fr f3 (fun p hp => by have := hp.2; omega) hl
    rw [s_highOf hw3 hv.2 hk']
    show wp (L_X0_narrow_15 o o1 n (nI k + 1) (setI (setI S2 (o + 1) k (I (dat w 1 k))) (o + 2) k (I (dat w 2 k)))) _
    rw [nIs]
    refine ih _ ⟨(q1.tr f3).tr (Fr.setI (Or.inr rfl)), fun j hj => ?_⟩
    by_cases e : j = k
    · subst e
      exact ⟨by rw [setI_n (by omega), setI_s], setI_s⟩
    · rw [setI_n (by omega), setI_n (by omega), setI_n (by omega), setI_n (by omega)]
      exact q2 j (by omega)
  · intro n S2 ⟨q1, q2⟩
    rw [L_X0_narrow_15, q1.I (by omega), e1]
    exact wp_ifn (nI_nlt (Nat.le_refl _) (by omega)) (wp_some ⟨q1, q2⟩)
  intro S2 ⟨q1, q2⟩
  have hN2 : NW o S2 (num w 0) (dat w 1, dat w 2) := ⟨by rw [q1.I (by omega)]; exact e1, q2⟩
  have hx2 : nok (dat w 0) (dat w 1, dat w 2) := fun k hk10 => hk.2.2.2.2.2.1 k hk10
  -- rounds: r are done, the rest is still to come
  refine wp_bdm (up (F := fun n r (z : Int32 × Sg) => L_X0_narrow_55 o o1 n z.1 (nI r) z.2) 60
    (fun r z => ∃ s, Fr (inNa o) S1 z.2 ∧ NW o z.2 (num w 0) s ∧ nok (dat w 0) s ∧ ((z.1 = 1 ∧ nAll w (60 - r) s = narrowed w) ∨ (z.1 = 0 ∧ s = narrowed w)))
    (fun S' => Fr (inNa o) S1 S' ∧ NW o S' (num w 0) (narrowed w) ∧ nok (dat w 0) (narrowed w)) ?_ ?_ 400 0 (1, S2) (by omega) (by omega) ⟨_, q1, hN2, hx2, Or.inl ⟨rfl, rfl⟩⟩) ?_
  · intro n r ⟨f, S3⟩ hr ⟨s, u1, u2, u3, u4⟩ ih
    have u1 : Fr (inNa o) S1 S3 := u1
    have u2 : NW o S3 (num w 0) s := u2
    show wp (L_X0_narrow_55 o o1 (n + 1) f (nI r) S3) _
    rw [L_X0_narrow_55]
    refine wp_ifp (lt60 hr) ?_
    rcases u4 with ⟨e, hs⟩ | ⟨e, hs⟩
    · have e : f = 1 := e
      subst e
      refine wp_ifn (by decide) ?_
      have hw3 : CW o1 S3 w := hw1.fr u1 (fun p hp => by have := hp.2; omega) hl
      refine wp_bdm (up (F := fun n i (z : Int32 × Sg) => L_X0_narrow_70 o o1 (nI r) n z.1 (nI i) z.2) (gh w).length
        (fun i z => Fr (inNa o) S1 z.2 ∧ NW o z.2 (num w 0) (nG w i (s, false)).1 ∧ z.1 = if (nG w i (s, false)).2 = true then 1 else 0)
        (fun z => Fr (inNa o) S1 z.2 ∧ NW o z.2 (num w 0) (nG w (gh w).length (s, false)).1 ∧ z.1 = if (nG w (gh w).length (s, false)).2 = true then 1 else 0) ?_ ?_ 400 0 (0, S3) (by omega) (by omega) ⟨u1, u2, rfl⟩) ?_
      · intro m i ⟨g, S4⟩ hi ⟨v1, v2, v3⟩ ih2
        have v1 : Fr (inNa o) S1 S4 := v1
        have v2 : NW o S4 (num w 0) (nG w i (s, false)).1 := v2
        have v3 : g = if (nG w i (s, false)).2 = true then 1 else 0 := v3
        have hw4 : CW o1 S4 w := hw1.fr v1 (fun p hp => by have := hp.2; omega) hl
        show wp (L_X0_narrow_70 o o1 (nI r) (m + 1) g (nI i) S4) _
        rw [L_X0_narrow_70, hw4.2.2.1.2.2.2]
        refine wp_ifp (nI_lt hi (by omega)) ?_
        refine wp_bdm (s_narrowByRow hw4 hk ha ho v2 (nG_ok hk ha i (by omega) (s, false) u3) hi) ?_
        intro ⟨a, S5⟩ ⟨x1, x2, x3⟩
        have x1 : a = (if (nR (gro (gh w) i) (dat w 3 i) 10 ((nG w i (s, false)).1, false)).2 = true then 1 else 0) := x1
        show wp (L_X0_narrow_70 o o1 (nI r) m (if a = 0 then g else 1) (nI i + 1) S5) _
        rw [nIs]
        have hfl := nR_flag (gro (gh w) i) (dat w 3 i) (nG w i (s, false)).1 (nG w i (s, false)).2 10
        have hG : nG w (i + 1) (s, false) = nR (gro (gh w) i) (dat w 3 i) 10 ((nG w i (s, false)).1, (nG w i (s, false)).2) := rfl
        refine ih2 (_, S5) ⟨v1.tr x2, ?_, ?_⟩
        · show NW o S5 (num w 0) (nG w (i + 1) (s, false)).1
          rw [hG, hfl.1]
          exact x3
        · show (if a = 0 then g else 1) = if (nG w (i + 1) (s, false)).2 = true then 1 else 0
          rw [hG, hfl.2, x1, v3]
          cases (nG w i (s, false)).2 <;> cases (nR (gro (gh w) i) (dat w 3 i) 10 ((nG w i (s, false)).1, false)).2 <;> rfl
      · intro m ⟨g, S4⟩ ⟨v1, v2, v3⟩
        have v1 : Fr (inNa o) S1 S4 := v1
        have hw4 : CW o1 S4 w := hw1.fr v1 (fun p hp => by have := hp.2; omega) hl
        show wp (L_X0_narrow_70 o o1 (nI r) (m + 1) g (nI (gh w).length) S4) _
        rw [L_X0_narrow_70, hw4.2.2.1.2.2.2]
        exact wp_ifn (nI_nlt (Nat.le_refl _) (by omega)) (wp_some ⟨v1, v2, v3⟩)
      · intro ⟨g, S4⟩ ⟨v1, v2, v3⟩
        have v3 : g = if (nG w (gh w).length (s, false)).2 = true then 1 else 0 := v3
        show wp (L_X0_narrow_55 o o1 n g (nI r + 1) S4) _
        rw [nIs]
        have hs' : nAll w (60 - (r + 1) + 1) s = narrowed w := by rw [show 60 - (r + 1) + 1 = 60 - r by omega]; exact hs
        refine ih (g, S4) ⟨_, v1, v2, nG_ok hk ha _ (Nat.le_refl _) (s, false) u3, ?_⟩
        have hs2 : (if (nG w (gh w).length (s, false)).2 = true then nAll w (60 - (r + 1)) (nG w (gh w).length (s, false)).1 else (nG w (gh w).length (s, false)).1) = narrowed w := hs'
        by_cases e : (nG w (gh w).length (s, false)).2 = true
        · rw [if_pos e] at v3 hs2
          exact Or.inl ⟨v3, hs2⟩
        · rw [if_neg e] at v3 hs2
          exact Or.inr ⟨v3, hs2⟩
    · have e : f = 0 := e
      subst e
      subst hs
      exact wp_ifp rfl (wp_some ⟨u1, u2, u3⟩)
  · intro n ⟨f, S3⟩ ⟨s, u1, u2, u3, u4⟩
    have u1 : Fr (inNa o) S1 S3 := u1
    have u2 : NW o S3 (num w 0) s := u2
    show wp (L_X0_narrow_55 o o1 (n + 1) f (nI 60) S3) _
    rw [L_X0_narrow_55]
    have hs : s = narrowed w := by
      rcases u4 with ⟨_, hs⟩ | ⟨_, hs⟩
      · exact hs
      · exact hs
    rw [hs] at u2 u3
    exact wp_ifn nlt60 (wp_some ⟨u1, u2, u3⟩)
  · intro S3 ⟨u1, u2, u3⟩
    exact wp_some ⟨(f1.mono fun p hp => Or.inl hp).tr (u1.mono fun p hp => Or.inr hp), u2, u3⟩
