theorem y9 (w : Wd) (t : Nat → Nat) : ∀ k, ¬ (mo w t k).2 < -9
  | 0 => by show ¬ ((-9 : Int32) < -9); decide
  | k + 1 => by
    have ih := y9 w t k
    have hs : mo w t (k + 1) = if iso k = true then up1 (mo w t k) (nI k) (jo w t (k / 100) (k / 10 % 10)) else mo w t k := rfl
    rw [hs]
    generalize mo w t k = s at ih
    by_cases z : iso k = true
    · rw [if_pos z]
      unfold up1 jo
      have hj := jt_nn w (t (k / 100)) (t (k / 10 % 10)) (t (3 - k / 100 - k / 10 % 10))
      generalize jt w (t (k / 100)) (t (k / 10 % 10)) (t (3 - k / 100 - k / 10 % 10)) = n at hj
      by_cases z2 : s.2 < nI n
      · rw [if_pos z2, if_pos z2]
        show ¬ nI n < -9
        rw [show (-9 : Int32) = I (-9) by decide, ← I_nI]
        exact fun q => by have := (I_lt (by omega) (by omega)).mp q; omega
      · rw [if_neg z2, if_neg z2]; exact ih
    · rw [if_neg z]; exact ih
theorem s_orderM {S : Sg} {w : Wd} {t : Nat → Nat} (u : Int32) (hw : MW S w) (hg : wgood w) (hcw : Cw w) (h3 : ∀ i, i < 3 → S.1 163 i = nI (t i)) : wp (L_X7_order_108 u 400 (-9 : Int32) (-9 : Int32) (0 : Int32) S) (fun z => (z.1, z.2.1) = mo w t 300 ∧ MW z.2.2 w ∧ Fm mmI mscJ S z.2.2) := by
  refine up (F := fun n k (z : Int32 × Int32 × Sg) => L_X7_order_108 u n z.1 z.2.1 (nI k) z.2.2) 300 (fun k z => (z.1, z.2.1) = mo w t k ∧ MW z.2.2 w ∧ Fm mmI mscJ S z.2.2 ∧ ∀ i, i < 3 → z.2.2.1 163 i = nI (t i)) _ ?_ ?_ 400 0 (-9, -9, S) (by omega) (by omega) ⟨rfl, hw, Fm.rf, h3⟩
  · rintro n k ⟨x, y, T⟩ hk ⟨h1, mT, f, t3⟩ ih
    have h1' : (x, y) = mo w t k := h1
    have hs : mo w t (k + 1) = if iso k = true then up1 (mo w t k) (nI k) (jo w t (k / 100) (k / 10 % 10)) else mo w t k := rfl
    show wp (L_X7_order_108 u (n + 1) x y (nI k) T) _
    rw [L_X7_order_108, (iso_d k hk).1]
    refine wp_ifp (nI_lt (b := 300) hk (by decide)) (wp_bds rfl (wp_lt ?_))
    by_cases z : iso k = true
    · rw [if_pos z]
      refine wp_ifn (by decide) (wp_bdm (s_joinsIn mT hg hcw t3 hk z) ?_)
      rintro ⟨r, V⟩ ⟨er, f2, m2, x2⟩
      have er' : r = jo w t (k / 100) (k / 10 % 10) := er
      refine wp_u2 (wp_lt (wp_lt (wp_lt ?_)))
      rw [nIs]
      refine ih (_, _, V) ⟨?_, m2, Fm.tr f f2, fun i hi => (x2 i).trans (t3 i hi)⟩
      rw [hs, if_pos z, ← h1', ← er']
      rfl
    · rw [if_neg z]
      refine wp_ifp rfl (wp_lt (wp_lt (wp_lt ?_)))
      have yy : ¬ y < -9 := by have := y9 w t k; rw [← h1'] at this; exact this
      rw [if_neg yy, if_neg yy, nIs]
      refine ih (x, y, T) ⟨?_, mT, f, t3⟩
      rw [hs, if_neg z, ← h1']
  · rintro n ⟨x, y, T⟩ ⟨h1, mT, f, _⟩
    show wp (L_X7_order_108 u (n + 1) x y (nI 300) T) _
    rw [L_X7_order_108]
    exact wp_ifn (nI_nlt (b := 300) (Nat.le_refl _) (by decide)) (wp_some ⟨h1, mT, f⟩)
theorem p_order {S : Sg} {G : Gst} (ok : GO G) (hC : CI S G) (hM : MI S G) (p q s u : Int32) : Same (f_X6_order p q s u S) (f_X7_order p q s u) := by
  have hg := ok.1
  have hl := wg_l10 hg
  have hcw := Cw_of hC.1 hg
  have ei : f_X7_isIn u 0 (1 : Int32) = f_X6_isWithin u (2 : Int32) := isIn_w u (n := 2) (by decide)
  have em : f_X6_misfitOfAll (f_J9_min_7cf53 p (f_J9_min_7cf53 q s)) (f_J9_max_7cf53 p (f_J9_max_7cf53 q s)) = if f_J9_min_7cf53 p (f_J9_min_7cf53 q s) < 1 then -4 else if 255 < f_J9_max_7cf53 p (f_J9_max_7cf53 q s) then -6 else 0 := rfl
  have hmin : f_J9_min_7cf53 p (f_J9_min_7cf53 q s) < 1 ↔ (p < 1 ∨ q < 1 ∨ s < 1) := (min1 _ _).trans ⟨fun h => h.elim Or.inl fun h => Or.inr ((min1 _ _).mp h), fun h => h.elim Or.inl fun h => Or.inr ((min1 _ _).mpr h)⟩
  have hmax : 255 < f_J9_max_7cf53 p (f_J9_max_7cf53 q s) ↔ (255 < p ∨ 255 < q ∨ 255 < s) := (max255 _ _).trans ⟨fun h => h.elim Or.inl fun h => Or.inr ((max255 _ _).mp h), fun h => h.elim Or.inl fun h => Or.inr ((max255 _ _).mpr h)⟩
  have bad : ∀ (v : Int32) (j : Nat), isRef v j → wp (f_X6_order p q s u S) (fun z => z.1 = v ∧ Fr cls S z.2 ∧ CI z.2 (bump G j)) → (if p < (1 : Int32) then (-4 : Int32) else (if q < (1 : Int32) then (-4 : Int32) else (if s < (1 : Int32) then (-4 : Int32) else (if (255 : Int32) < p then (-6 : Int32) else (if (255 : Int32) < q then (-6 : Int32) else (if (255 : Int32) < s then (-6 : Int32) else (if (f_X7_isIn u (0 : Int32) (1 : Int32)) = 0 then (-2 : Int32) else (0 : Int32)))))))) = v → Same (f_X6_order p q s u S) (f_X7_order p q s u) := by
    intro v j hj h6 e
    refine mk (fun r G' => r = v ∧ G' = bump G j) ok hM (wp_mono h6 fun z hz => ⟨hz.2.1, _, ⟨hz.1, rfl⟩, hz.2.2⟩) ?_
    rintro r S' G' ⟨rfl, rfl⟩ h
    refine ⟨ok, ?_⟩
    unfold f_X7_order
    exact wp_ltq r e (wp_ifn hj.ne (ref7 hj ok h))
  by_cases h1 : p < 1 ∨ q < 1 ∨ s < 1
  · refine bad (-4) 3 r4 ?_ ?_
    · unfold f_X6_order
      refine wp_ltq (-4) (em.trans (if_pos (hmin.mpr h1))) (wp_ifn (by decide) (ref6 r4 ok hC))
    · by_cases a1 : p < 1
      · rw [if_pos a1]
      · rw [if_neg a1]
        by_cases a2 : q < 1
        · rw [if_pos a2]
        · rw [if_neg a2, if_pos ((h1.resolve_left a1).resolve_left a2)]
  · have a1 : ¬ p < 1 := fun z => h1 (Or.inl z)
    have a2 : ¬ q < 1 := fun z => h1 (Or.inr (Or.inl z))
    have a3 : ¬ s < 1 := fun z => h1 (Or.inr (Or.inr z))
    by_cases h2 : 255 < p ∨ 255 < q ∨ 255 < s
    · refine bad (-6) 5 r6 ?_ ?_
      · unfold f_X6_order
        refine wp_ltq (-6) (em.trans ((if_neg (fun z => h1 (hmin.mp z))).trans (if_pos (hmax.mpr h2)))) (wp_ifn (by decide) (ref6 r6 ok hC))
      · rw [if_neg a1, if_neg a2, if_neg a3]
        by_cases b1 : 255 < p
        · rw [if_pos b1]
        · rw [if_neg b1]
          by_cases b2 : 255 < q
          · rw [if_pos b2]
          · rw [if_neg b2, if_pos ((h2.resolve_left b1).resolve_left b2)]
    · have b1 : ¬ 255 < p := fun z => h2 (Or.inl z)
      have b2 : ¬ 255 < q := fun z => h2 (Or.inr (Or.inl z))
      have b3 : ¬ 255 < s := fun z => h2 (Or.inr (Or.inr z))
      have e0 := em.trans ((if_neg (fun z => h1 (hmin.mp z))).trans (if_neg (fun z => h2 (hmax.mp z))))
      obtain ⟨a, _, _, rfl⟩ := nn255 a1 b1
      obtain ⟨b, _, _, rfl⟩ := nn255 a2 b2
      obtain ⟨c, _, _, rfl⟩ := nn255 a3 b3
      rcases isW_cases u (n := 2) (by decide) with ⟨l, hl2, rfl, e3⟩ | ⟨ne, e3⟩
      · have e3' : ¬ f_X6_isWithin (nI l) (2 : Int32) = 0 := by rw [show f_X6_isWithin (nI l) (2 : Int32) = 1 from e3]; decide
        refine mk (fun r G' => r = (if nI l = 0 then (co G.1 (pk a b c) 3).1 else (co G.1 (pk a b c) 3).2) ∧ G' = G) ok hM ?_ ?_
        · unfold f_X6_order
          refine wp_ltq 0 e0 (wp_ifp rfl (wp_ifn e3' (wp_bdm (s_orderC hC.1 hg a b c (nI l) fun T f => (hC.sc ok f).1) ?_)))
          rintro ⟨x, y, T⟩ ⟨h1, f⟩
          have h1' : (x, y) = co G.1 (pk a b c) 3 := h1
          show wp (some ((if nI l = 0 then x else y), T)) _
          exact wp_some ⟨f.mono csc_c, G, ⟨by rw [← h1'], rfl⟩, hC.sc ok f⟩
        · rintro r S' G' ⟨rfl, eG⟩ h
          subst eG
          refine ⟨ok, ?_⟩
          unfold f_X7_order
          refine wp_ltq 0 (by rw [if_neg a1, if_neg a2, if_neg a3, if_neg b1, if_neg b2, if_neg b3, if_neg (by rw [ei]; exact e3')]) (wp_ifp rfl (wp_lt (wp_lt (wp_lt ?_))))
          generalize hT : setI (setI (setI S' 163 (ix (0 : Int32)) (nI a)) 163 (ix (1 : Int32)) (nI b)) 163 (ix (2 : Int32)) (nI c) = T0
          have i0 : ix (0 : Int32) = 0 := rfl
          have i1 : ix (1 : Int32) = 1 := rfl
          have i2 : ix (2 : Int32) = 2 := rfl
          rw [i0, i1, i2] at hT
          have f0 : Fm (fun o _ => o = 163) noJ S' T0 := by
            rw [← hT]
            exact ((Fm.setI (AI := fun o _ => o = 163) rfl).tr (Fm.setI rfl)).tr (Fm.setI rfl)
          have h3 : ∀ i, i < 3 → T0.1 163 i = nI (pk a b c i) := fun i hi => by
            have : i = 0 ∨ i = 1 ∨ i = 2 := by omega
            rw [← hT]
            rcases this with rfl | rfl | rfl
            · rw [setI_n (by omega), setI_n (by omega), setI_s]; rfl
            · rw [setI_n (by omega), setI_s]; rfl
            · rw [setI_s]; rfl
          have m0 : MW T0 G'.1 := h.1.fm f0 fun o k q z => by have : (142 ≤ o ∧ o ≤ 147) ∨ (o = 140 ∧ 7 ≤ k ∧ k ≤ 10) := q; have : o = 163 := z; omega
          have F0 : Fm mmI mscJ S' T0 := f0.mono (fun o k z => Or.inl (msc_of (by have : o = 163 := z; omega))) no_j
          refine wp_bdm (s_orderM (nI l) m0 hg hcw h3) ?_
          · rintro ⟨x, y, T⟩ ⟨h1, mT, f⟩
            have h1' : (x, y) = mo G'.1 (pk a b c) 300 := h1
            show wp (some ((if nI l = 0 then x else y), T)) _
            refine wp_some ⟨?_, mm_fr (F0.tr f), h.back ok (F0.tr f) mT⟩
            show (if nI l = 0 then x else y) = _
            rw [co_mo, ← h1']
      · refine bad (-2) 1 r2 ?_ ?_
        · unfold f_X6_order
          exact wp_ltq 0 e0 (wp_ifp rfl (wp_ifp e3 (ref6 r2 ok hC)))
        · rw [if_neg a1, if_neg a2, if_neg a3, if_neg b1, if_neg b2, if_neg b3, if_pos (ei.trans e3)]
