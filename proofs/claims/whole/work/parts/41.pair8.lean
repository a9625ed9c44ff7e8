theorem s_ftj {S : Sg} {w : Wd} (h : ∀ v, 1 ≤ v → v ≤ 255 → S.1 159 v = ms w v) : wp (f_X7_firstToJoin S) (fun r => isLj w r) := by
  unfold f_X7_firstToJoin
  refine wp_bsm (up (F := fun n k (_ : Unit) => L_X7_firstToJoin_2 S n (nI k)) 256 (fun k _ => 1 ≤ k ∧ ∀ i, 1 ≤ i → i < k → ms w i ≠ 1) (fun z => (∃ r, z = .inl r ∧ isLj w r) ∨ (z = .inr () ∧ ∀ i, 1 ≤ i → i ≤ 255 → ms w i ≠ 1)) ?_ ?_ 400 1 () (by omega) (by omega) ⟨by omega, fun i a b => by omega⟩) ?_ ?_
  · rintro n k _ hk ⟨h1, hp⟩ ih
    rw [L_X7_firstToJoin_2]
    refine wp_ifn (lt256 (by omega)) (wp_gd (inb_n hk (by decide)) ?_)
    rw [ix_n (by omega), h k h1 (by omega)]
    refine wp_if (fun e => wp_some (Or.inl ⟨_, rfl, Or.inl ⟨k, h1, by omega, e, hp, rfl⟩⟩)) (fun e => ?_)
    show wp (L_X7_firstToJoin_2 S n (nI k + 1)) _
    rw [nIs]
    refine ih () ⟨by omega, fun i a b => ?_⟩
    by_cases q : i = k
    · rw [q]; exact e
    · exact hp i a (by omega)
  · rintro n _ ⟨_, hp⟩
    rw [L_X7_firstToJoin_2]
    exact wp_ifp gt255 (wp_some (Or.inr ⟨rfl, fun i a b => hp i a (by omega)⟩))
  · rintro r hz
    rcases hz with ⟨r', e, hr⟩ | ⟨e, _⟩
    · cases e; exact wp_some hr
    · cases e
  · rintro r hz
    rcases hz with ⟨r', e, _⟩ | ⟨_, hr⟩
    · cases e
    · exact wp_some (Or.inr ⟨hr, rfl⟩)
theorem mos_c : ∀ o, mosA 1 o → csc o := fun o h => by
  have : o = 131 ∨ (1 + 29 ≤ o ∧ o < 1 + 43) := h
  show (30 ≤ o ∧ o < 87) ∨ (116 ≤ o ∧ o < 135); omega
theorem csc_c : ∀ o, csc o → cls o := fun o h => by
  have : (30 ≤ o ∧ o < 87) ∨ (116 ≤ o ∧ o < 135) := h
  show o < 140; omega
/-- both sides spoil only what they may -/
theorem scr {α : Type} {f6 : Option (α × Sg)} {f7 : Sg → Option (α × Sg)} {S : Sg} {G : Gst} (R : α → Prop) (ok : GO G) (hC : CI S G) (hM : MI S G)
    (h6 : wp f6 (fun z => R z.1 ∧ Fr csc S z.2)) (h7 : ∀ S', MI S' G → wp (f7 S') (fun y => R y.1 ∧ Fm msc mscJ S' y.2)) (hu : ∀ a b, R a → R b → b = a) : Same f6 f7 :=
  mk (fun r G' => R r ∧ G' = G) ok hM (wp_mono h6 fun z hz => ⟨hz.2.mono csc_c, G, ⟨hz.1, rfl⟩, hC.sc ok hz.2⟩) (by
    rintro r S' G' ⟨hr, e⟩ h
    have e' := e.symm
    subst e'
    exact ⟨ok, wp_mono (h7 S' h) fun y hy => ⟨hu _ _ hr hy.1, mfr hy.2 (fun _ _ q => msc_140 q) (fun _ _ q => q), h.sc ok hy.2 fun _ _ q => q⟩⟩)
theorem p_sums {S : Sg} {G : Gst} (ok : GO G) (hC : CI S G) (hM : MI S G) (p : Int32) : Same (f_X6_sums p S) (f_X7_sums p) := by
  have hg := ok.1
  have ei : f_X7_isIn p 0 (3 : Int32) = f_X6_isWithin p (4 : Int32) := isIn_w p (n := 4) (by decide)
  rcases isW_cases p (n := 4) (by decide) with ⟨j, hj, rfl, e⟩ | ⟨ne, e⟩
  · have e4 : ¬ f_X7_isIn (nI j) 0 (3 : Int32) = 0 := by rw [ei, show f_X6_isWithin (nI j) (4 : Int32) = 1 from e]; decide
    have hm : ∀ c, c < 3 → wp (bd (f_X6_howMany (nI c) S) (u2 fun r T => some (r, T))) (fun z => z.1 = nI (cm G.1 (nI c) 255) ∧ Fr csc S z.2) := fun c _ => by
      refine wp_bdm (s_howMany hC.1 hg (nI c)) ?_
      rintro ⟨r, T⟩ ⟨a, b⟩
      exact wp_u2 (wp_some ⟨a, b.mono mos_c⟩)
    have : j = 0 ∨ j = 1 ∨ j = 2 ∨ j = 3 := by omega
    rcases this with rfl | rfl | rfl | rfl
    · refine scr (isLj G.1) ok hC hM ?_ (fun S' h => ?_) fun a b ha hb => isLj_u hb ha
      · unfold f_X6_sums
        refine wp_ifp rfl (wp_bdm (s_lj hC.1 hg) ?_)
        rintro ⟨r, T⟩ ⟨a, b⟩
        exact wp_u2 (wp_some ⟨a, b.mono mos_c⟩)
      · unfold f_X7_sums
        refine wp_ifn e4 (wp_bdm (s_findSums h.1 hg) fun T ⟨f, _, a, _⟩ => wp_ifp rfl (wp_bdm (s_ftj a) fun r hr => wp_some ⟨hr, f⟩))
    · refine scr (fun r => r = nI (cm G.1 (nI 1) 255)) ok hC hM ?_ (fun S' h => ?_) fun a b ha hb => hb.trans ha.symm
      · unfold f_X6_sums
        exact wp_ifn (by decide) (wp_ifp rfl (hm 1 (by omega)))
      · unfold f_X7_sums
        exact wp_ifn e4 (wp_bdm (s_findSums h.1 hg) fun T ⟨f, _, _, a⟩ => wp_ifn (by decide) (wp_ltq _ (if_pos (by decide)) (wp_some ⟨a 1 (by omega), f⟩)))
    · refine scr (fun r => r = nI (cm G.1 (nI 2) 255)) ok hC hM ?_ (fun S' h => ?_) fun a b ha hb => hb.trans ha.symm
      · unfold f_X6_sums
        exact wp_ifn (by decide) (wp_ifn (by decide) (wp_ifp rfl (hm 2 (by omega))))
      · unfold f_X7_sums
        exact wp_ifn e4 (wp_bdm (s_findSums h.1 hg) fun T ⟨f, _, _, a⟩ => wp_ifn (by decide) (wp_ltq _ ((if_neg (by decide)).trans (if_pos (by decide))) (wp_some ⟨a 2 (by omega), f⟩)))
    · refine scr (fun r => r = nI (cm G.1 (nI 0) 255)) ok hC hM ?_ (fun S' h => ?_) fun a b ha hb => hb.trans ha.symm
      · unfold f_X6_sums
        exact wp_ifn (by decide) (wp_ifn (by decide) (wp_ifn (by decide) (wp_ifp rfl (hm 0 (by omega)))))
      · unfold f_X7_sums
        exact wp_ifn e4 (wp_bdm (s_findSums h.1 hg) fun T ⟨f, _, _, a⟩ => wp_ifn (by decide) (wp_ltq _ ((if_neg (by decide)).trans (if_neg (by decide))) (wp_some ⟨a 0 (by omega), f⟩)))
  · unfold f_X6_sums
    rw [if_neg (show p ≠ 0 from ne 0 (by decide)), if_neg (show p ≠ 1 from ne 1 (by decide)), if_neg (show p ≠ 2 from ne 2 (by decide)), if_neg (show p ≠ 3 from ne 3 (by decide))]
    exact refS r2 ok hC hM fun S' h => by
      unfold f_X7_sums
      rw [if_pos (ei.trans e)]
theorem to_J {x : Nat} (h : x < 2 ^ 31) : (nI x).toInt64 = J x := by
  rw [toJ]
  exact congrArg J (I_toInt (z := x) (by omega) (by omega))
theorem p_share {S : Sg} {G : Gst} (ok : GO G) (hC : CI S G) (hM : MI S G) (p : Int32) : Same (f_X6_share p S) (f_X7_share p) := by
  have hg := ok.1
  have ei : f_X7_isIn p 0 (1 : Int32) = f_X6_isWithin p (2 : Int32) := isIn_w p (n := 2) (by decide)
  have hle := cm_le G.1 (nI 2) 255
  have e5 : ((255 : Int32) - nI (cm G.1 (nI 2) 255)).toInt64 = J ((255 - cm G.1 (nI 2) 255 : Nat) : Int) := by
    rw [← to_J (by omega)]
    refine congrArg Int32.toInt64 ?_
    show nI 255 - nI (cm G.1 (nI 2) 255) = _
    rw [show nI 255 = nI ((255 - cm G.1 (nI 2) 255) + cm G.1 (nI 2) 255) from congrArg nI (by omega), ← nI_add]
    exact Int32.add_sub_cancel _ _
  rcases isW_cases p (n := 2) (by decide) with ⟨j, hj, rfl, e⟩ | ⟨ne, e⟩
  · have e4 : ¬ f_X6_isWithin (nI j) (2 : Int32) = 0 := by rw [show f_X6_isWithin (nI j) (2 : Int32) = 1 from e]; decide
    refine scr (fun r => r = lowP ((255 - cm G.1 (nI 2) 255 : Nat) : Int) 255 (nI j)) ok hC hM ?_ (fun S' h => ?_) fun a b ha hb => hb.trans ha.symm
    · unfold f_X6_share
      refine wp_ifn e4 (wp_bdm (s_howMany hC.1 hg (nI 2)) ?_)
      rintro ⟨r, T⟩ ⟨a, b⟩
      have a' : r = nI (cm G.1 (nI 2) 255) := a
      refine wp_u2 ?_
      rw [a', e5]
      exact wp_bds (s_partX (b := 255) ⟨by omega, by omega⟩ ⟨by omega, by omega⟩ (by omega)) (wp_some ⟨rfl, b.mono mos_c⟩)
    · unfold f_X7_share
      refine wp_ifn (by rw [ei]; exact e4) (wp_bdm (s_findSums h.1 hg) fun T ⟨f, _, _, a⟩ => ?_)
      rw [show T.1 160 (ix (2 : Int32)) = nI (cm G.1 (nI 2) 255) from a 2 (by omega), e5]
      exact wp_bds (s_partM (b := 255) ⟨by omega, by omega⟩ ⟨by omega, by omega⟩ (by omega)) (wp_some ⟨rfl, f⟩)
  · unfold f_X6_share
    rw [if_pos (show f_X6_isWithin p (2 : Int32) = 0 from e)]
    exact refJ r2 ok hC hM fun S' h => by
      unfold f_X7_share
      rw [if_pos (ei.trans e)]
/-- the cheapest sum that joins -/
abbrev bc (x : Int32) : Int32 := f_J6_bitCount_0f7a4 x
noncomputable def cb (w : Wd) : Nat → Int32
  | 0 => -9
  | n + 1 => if ms w (n + 1) = 1 then (if cb w n = -9 then nI (n + 1) else if bc (nI (n + 1)) < bc (cb w n) then nI (n + 1) else cb w n) else cb w n
theorem cb_is (w : Wd) : ∀ n, cb w n = -9 ∨ ∃ u, 1 ≤ u ∧ u ≤ n ∧ cb w n = nI u
  | 0 => Or.inl rfl
  | n + 1 => by
    have ih := cb_is w n
    have ih' : cb w n = -9 ∨ ∃ u, 1 ≤ u ∧ u ≤ n + 1 ∧ cb w n = nI u := ih.elim Or.inl fun ⟨u, a, b, c⟩ => Or.inr ⟨u, a, by omega, c⟩
    have hs : cb w (n + 1) = if ms w (n + 1) = 1 then (if cb w n = -9 then nI (n + 1) else if bc (nI (n + 1)) < bc (cb w n) then nI (n + 1) else cb w n) else cb w n := rfl
    rw [hs]
    by_cases h : ms w (n + 1) = 1
    · rw [if_pos h]
      by_cases h2 : cb w n = -9
      · rw [if_pos h2]; exact Or.inr ⟨n + 1, by omega, by omega, rfl⟩
      · rw [if_neg h2]
        by_cases h3 : bc (nI (n + 1)) < bc (cb w n)
        · rw [if_pos h3]; exact Or.inr ⟨n + 1, by omega, by omega, rfl⟩
        · rw [if_neg h3]; exact ih'
    · rw [if_neg h]; exact ih'
theorem n_m9 {u : Nat} (h : u < 1000) : nI u ≠ -9 := fun q => by
  have q' : I (u : Int) = I (-9) := q.trans (by decide)
  have := (I_eq (a := u) (b := -9) (by omega) (by omega)).mp q'
  omega
theorem bits_bc : ∀ v, v < 1024 → f_X7_bits (nI v) = some (bc (nI v)) ∧ (v < 256 → bc (nI v) < 9) := by decide +kernel
theorem cb_neg {w : Wd} {n : Nat} (hn : n ≤ 255) : cb w n < 0 ↔ cb w n = -9 := by
  rcases cb_is w n with h | ⟨u, a, b, h⟩
  · rw [h]; exact ⟨fun _ => rfl, fun _ => by decide⟩
  · rw [h]
    exact ⟨fun q => absurd q (nI_nlt (b := 0) (by omega) (by omega)), fun q => absurd q (n_m9 (by omega))⟩
theorem p_cheapest {S : Sg} {G : Gst} (ok : GO G) (hC : CI S G) (hM : MI S G) (p : Int32) : Same (f_X6_cheapest p S) (f_X7_cheapest p) := by
  have hg := ok.1
  have ei : f_X7_isIn p 0 (1 : Int32) = f_X6_isWithin p (2 : Int32) := isIn_w p (n := 2) (by decide)
  rcases isW_cases p (n := 2) (by decide) with ⟨j, hj, rfl, e⟩ | ⟨ne, e⟩
  · have e4 : ¬ f_X6_isWithin (nI j) (2 : Int32) = 0 := by rw [show f_X6_isWithin (nI j) (2 : Int32) = 1 from e]; decide
    refine scr (fun r => r = if nI j = 0 then cb G.1 255 else if cb G.1 255 = -9 then cb G.1 255 else bc (cb G.1 255)) ok hC hM ?_ (fun S' h => ?_) fun a b ha hb => hb.trans ha.symm
    · unfold f_X6_cheapest
      refine wp_ifn e4 (wp_bdm (up (F := fun n k (z : Int32 × Int32 × Sg) => L_X6_cheapest_24 (nI j) n z.1 z.2.1 (nI k) z.2.2) 256 (fun k z => 1 ≤ k ∧ z.1 = cb G.1 (k - 1) ∧ z.2.1 = (if cb G.1 (k - 1) = -9 then 9 else bc (cb G.1 (k - 1))) ∧ Fr (mosA 1) S z.2.2) (fun z => z.1 = cb G.1 255 ∧ z.2.1 = (if cb G.1 255 = -9 then 9 else bc (cb G.1 255)) ∧ Fr (mosA 1) S z.2.2) ?_ ?_ 400 1 (-9, 9, S) (by omega) (by omega) ⟨by omega, rfl, rfl, Fr.rf⟩) ?_)
      · rintro n k ⟨x, y, T⟩ hk ⟨h1, h2, h3, f⟩ ih
        obtain ⟨l, rfl⟩ : ∃ l, k = l + 1 := ⟨k - 1, by omega⟩
        have h2' : x = cb G.1 l := h2
        have h3' : y = (if cb G.1 l = -9 then 9 else bc (cb G.1 l)) := h3
        show wp (L_X6_cheapest_24 (nI j) (n + 1) x y (nI (l + 1)) T) _
        rw [L_X6_cheapest_24]
        have b9 := (bits_bc (l + 1) (by omega)).2 (by omega)
        have hs : cb G.1 (l + 1) = if ms G.1 (l + 1) = 1 then (if cb G.1 l = -9 then nI (l + 1) else if bc (nI (l + 1)) < bc (cb G.1 l) then nI (l + 1) else cb G.1 l) else cb G.1 l := rfl
        have n9 : nI (l + 1) ≠ -9 := n_m9 (by omega)
        refine wp_ifn (lt256 (by omega)) (wp_lt (wp_if (fun hb => ?_) (fun hb => ?_)))
        · refine wp_bdm (s_mos (mos_w hC.1 hg (by omega) f) hg (by omega) (l + 1)) ?_
          rintro ⟨m, U⟩ ⟨hm, f2⟩
          have hm' : m = ms G.1 (l + 1) := hm
          refine wp_u2 ?_
          show wp (L_X6_cheapest_24 (nI j) n (if m = 1 then nI (l + 1) else x) (if m = 1 then bc (nI (l + 1)) else y) (nI (l + 1) + 1) U) _
          rw [nIs]
          have hnew : ms G.1 (l + 1) = 1 → cb G.1 (l + 1) = nI (l + 1) := fun q => by
            rw [hs, if_pos q]
            by_cases q2 : cb G.1 l = -9
            · rw [if_pos q2]
            · rw [if_neg q2] at h3'
              rw [if_neg q2, if_pos (by rw [← h3']; exact hb)]
          refine ih (_, _, U) ⟨by omega, ?_, ?_, f.tr f2⟩
          · show (if m = 1 then nI (l + 1) else x) = cb G.1 (l + 1)
            rw [hm']
            by_cases q : ms G.1 (l + 1) = 1
            · rw [if_pos q, hnew q]
            · rw [if_neg q, hs, if_neg q, h2']
          · show (if m = 1 then bc (nI (l + 1)) else y) = if cb G.1 (l + 1) = -9 then 9 else bc (cb G.1 (l + 1))
            rw [hm']
            by_cases q : ms G.1 (l + 1) = 1
            · rw [if_pos q, hnew q, if_neg n9]
            · rw [if_neg q, hs, if_neg q, h3']
        · show wp (L_X6_cheapest_24 (nI j) n x y (nI (l + 1) + 1) T) _
          rw [nIs]
          have hold : cb G.1 (l + 1) = cb G.1 l := by
            rw [hs]
            by_cases q : ms G.1 (l + 1) = 1
            · rw [if_pos q]
              by_cases q2 : cb G.1 l = -9
              · rw [if_pos q2] at h3'
                exact absurd (by rw [h3']; exact b9) hb
              · rw [if_neg q2] at h3'
                rw [if_neg q2, if_neg (by rw [← h3']; exact hb)]
            · rw [if_neg q]
          exact ih (x, y, T) ⟨by omega, by show x = cb G.1 (l + 1); rw [hold, h2'], by show y = if cb G.1 (l + 1) = -9 then 9 else bc (cb G.1 (l + 1)); rw [hold, h3'], f⟩
      · rintro n ⟨x, y, T⟩ ⟨_, h2, h3, f⟩
        show wp (L_X6_cheapest_24 (nI j) (n + 1) x y (nI 256) T) _
        rw [L_X6_cheapest_24]
        exact wp_ifp gt255 (wp_some ⟨h2, h3, f⟩)
      · rintro ⟨x, y, T⟩ ⟨h2, h3, f⟩
        have h2' : x = cb G.1 255 := h2
        have h3' : y = (if cb G.1 255 = -9 then 9 else bc (cb G.1 255)) := h3
        show wp (some ((if nI j = 0 then x else if x = -9 then x else y), T)) _
        refine wp_some ⟨?_, f.mono mos_c⟩
        show (if nI j = 0 then x else if x = -9 then x else y) = _
        rw [h2', h3']
        by_cases q : cb G.1 255 = -9
        · rw [if_pos q, if_pos q]
        · rw [if_neg q, if_neg q, if_neg q]
    · unfold f_X7_cheapest
      refine wp_ifn (by rw [ei]; exact e4) (wp_bdm (s_findSums h.1 hg) fun T ⟨f, _, a, _⟩ => ?_)
      refine wp_bdm (up (F := fun n k (x : Int32) => L_X7_cheapest_25 (nI j) T n x (nI k)) 256 (fun k x => 1 ≤ k ∧ x = cb G.1 (k - 1)) (fun x => x = cb G.1 255) ?_ ?_ 400 1 (-9) (by omega) (by omega) ⟨by omega, rfl⟩) ?_
      · rintro n k x hk ⟨h1, h2⟩ ih
        obtain ⟨l, rfl⟩ : ∃ l, k = l + 1 := ⟨k - 1, by omega⟩
        have h2' : x = cb G.1 l := h2
        rw [L_X7_cheapest_25]
        refine wp_ifn (lt256 (by omega)) (wp_gd (inb_n hk (by decide)) ?_)
        rw [ix_n (by omega), a (l + 1) (by omega) (by omega)]
        have hs : cb G.1 (l + 1) = if ms G.1 (l + 1) = 1 then (if cb G.1 l = -9 then nI (l + 1) else if bc (nI (l + 1)) < bc (cb G.1 l) then nI (l + 1) else cb G.1 l) else cb G.1 l := rfl
        refine wp_if (fun q => ?_) (fun q => ?_)
        · rw [h2']
          refine wp_if (fun q2 => ?_) (fun q2 => ?_)
          · show wp (L_X7_cheapest_25 (nI j) T n (nI (l + 1)) (nI (l + 1) + 1)) _
            rw [nIs]
            exact ih _ ⟨by omega, by show nI (l + 1) = cb G.1 (l + 1); rw [hs, if_pos q, if_pos ((cb_neg (by omega)).mp q2)]⟩
          · rw [(bits_bc (l + 1) (by omega)).1]
            have q3 : cb G.1 l ≠ -9 := fun z => q2 ((cb_neg (by omega)).mpr z)
            have hb2 : f_X7_bits (cb G.1 l) = some (bc (cb G.1 l)) := by
              rcases cb_is G.1 l with z | ⟨u, z1, z2, z⟩
              · exact absurd z q3
              · rw [z]; exact (bits_bc u (by omega)).1
            rw [hb2]
            refine wp_bds rfl (wp_bds rfl ?_)
            show wp (L_X7_cheapest_25 (nI j) T n (if bc (nI (l + 1)) < bc (cb G.1 l) then nI (l + 1) else cb G.1 l) (nI (l + 1) + 1)) _
            rw [nIs]
            exact ih _ ⟨by omega, by show _ = cb G.1 (l + 1); rw [hs, if_pos q, if_neg q3]⟩
        · show wp (L_X7_cheapest_25 (nI j) T n x (nI (l + 1) + 1)) _
          rw [nIs]
          exact ih _ ⟨by omega, by show x = cb G.1 (l + 1); rw [hs, if_neg q, h2']⟩
      · rintro n x ⟨_, h2⟩
        rw [L_X7_cheapest_25]
        exact wp_ifp gt255 (wp_some h2)
      · rintro x rfl
        refine wp_if (fun q => ?_) (fun q => ?_)
        · have q' := (cb_neg (by omega)).mp q
          refine wp_some ⟨?_, f⟩
          show (-9 : Int32) = if nI j = 0 then cb G.1 255 else if cb G.1 255 = -9 then cb G.1 255 else bc (cb G.1 255)
          rw [if_pos q', q']
          by_cases z : nI j = 0
          · rw [if_pos z]
          · rw [if_neg z]
        · have q' : cb G.1 255 ≠ -9 := fun z => q ((cb_neg (by omega)).mpr z)
          refine wp_if (fun z => wp_some ⟨(if_pos z).symm, f⟩) (fun z => ?_)
          have hb2 : f_X7_bits (cb G.1 255) = some (bc (cb G.1 255)) := by
            rcases cb_is G.1 255 with z | ⟨u, z1, z2, z⟩
            · exact absurd z q'
            · rw [z]; exact (bits_bc u (by omega)).1
          rw [hb2]
          exact wp_bds rfl (wp_some ⟨by show bc _ = _; rw [if_neg z, if_neg q'], f⟩)
  · unfold f_X6_cheapest
    rw [if_pos (show f_X6_isWithin p (2 : Int32) = 0 from e)]
    exact refS r2 ok hC hM fun S' h => by
      unfold f_X7_cheapest
      rw [if_pos (ei.trans e)]
