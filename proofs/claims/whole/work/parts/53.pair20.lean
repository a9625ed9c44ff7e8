theorem s_metM {S : Sg} {w : Wd} {T : Nat × (Nat → Nat)} {rl lm : Nat} (hw : MW S w) (hg : wgood w) (hB : RX 149 152 18 S (gh w)) (h : S.1 140 39 = nI T.1 ∧ ∀ k, k < T.1 → S.1 165 k = nI (T.2 k)) (hT : T.1 ≤ 32 ∧ ∀ k, k < T.1 → T.2 k ≤ 255) (hr : rowq T) (hrl : rl < 4) (hlm : lm ≤ 10) : wp (f_X7_isMetSo (nI rl) (nI lm) S) (fun z => ((z.1 = 1 ∧ met w T rl lm) ∨ (z.1 = 0 ∧ ¬ met w T rl lm)) ∧ Fm b1I mbJ S z.2) := by
  have ht := hT.1
  have hev := hr.1
  have hs := wok_sm hg.1 hg.2.1
  have b1 : ∀ o k, b1I o k → (o = 140 ∧ (k = 12 ∨ k = 19)) ∨ o = 148 ∨ o = 153 := fun o k q => by
    rcases q with q | q
    · have : o = 148 ∨ (o = 140 ∧ k = 12) := q; omega
    · have : o = 153 ∨ (o = 140 ∧ k = 19) := q; omega
  have keep : ∀ U, Fm b1I mbJ S U → U.1 140 39 = nI T.1 ∧ ∀ k, k < T.1 → U.1 165 k = nI (T.2 k) := fun U f => ⟨by rw [f.1 _ _ fun q => by have := b1 _ _ q; omega]; exact h.1, fun k hk => by rw [f.1 _ _ fun q => by have := b1 _ _ q; omega]; exact h.2 k hk⟩
  unfold f_X7_isMetSo
  refine wp_bsm (up (F := fun n k (U : Sg) => L_X7_isMetSo_2 (nI rl) (nI lm) n (nI (2 * k)) U) (T.1 / 2) (fun k U => Fm b1I mbJ S U ∧ ∀ i, i < k → mtb w (T.2 (2 * i)) rl lm = nI (T.2 (2 * i + 1))) (fun z => (∃ U, z = .inl (0, U) ∧ ¬ met w T rl lm ∧ Fm b1I mbJ S U) ∨ ∃ U, z = .inr U ∧ met w T rl lm ∧ Fm b1I mbJ S U) ?_ ?_ 400 0 S (by omega) (by omega) ⟨Fm.rf, fun i h => by omega⟩) ?_ ?_
  · rintro n k U hk ⟨f, hp⟩ ih
    have kU := keep U f
    rw [L_X7_isMetSo_2, kU.1]
    refine wp_ifp (nI_lt (by omega) (by omega)) (wp_gd (inb_n (by omega) (by decide)) ?_)
    rw [ix_n (by omega), kU.2 _ (by omega)]
    have mU : MW U w := hw.fm f fun o k q z => by have : (142 ≤ o ∧ o ≤ 147) ∨ (o = 140 ∧ 7 ≤ k ∧ k ≤ 10) := q; have := b1 _ _ z; omega
    refine wp_bdm (s_asks (a := nI (T.2 (2 * k))) (b := 0) mU (fun k hk' => own10 hg.1 hk') qv0) fun V ⟨f1, a1⟩ => ?_
    have f1' : Fm b1I mbJ U V := f1.mono (fun o k q => Or.inl q) (fun _ _ q => q.elim)
    have hV : RX 149 152 18 V (gh w) := hB.fm (f.tr f1') (fun q => by have := b1 _ _ q; omega) (fun k q => by have := b1 _ _ q; omega) (fun k q => by have : 149 = 150 ∨ 149 = 151 := q; omega)
    refine wp_bdm (s_meetsBy hs hV a1 (szOf_le _ 8) (qbd (wq_ok qv0)) (qdt (fun k hk' => own10 hg.1 hk') (wq_ok qv0)) hrl hlm) ?_
    rintro ⟨m, X⟩ ⟨hm, f2⟩
    have em : m = mtb w (T.2 (2 * k)) rl lm := mtb_of hm
    have fX : Fm b1I mbJ S X := (f.tr f1').tr (f2.mono (fun o k q => Or.inr q) (fun _ _ q => q))
    refine wp_u2 ?_
    rw [nIs]
    refine wp_gd (inb_n (by omega) (by decide)) ?_
    rw [ix_n (by omega), (keep X fX).2 _ (by omega)]
    refine wp_if (fun e => ?_) (fun e => ?_)
    · show wp (L_X7_isMetSo_2 (nI rl) (nI lm) n (nI (2 * k) + 2) X) _
      rw [st2]
      refine ih X ⟨fX, fun i hi => ?_⟩
      by_cases q : i = k
      · rw [q, ← em]; exact e
      · exact hp i (by omega)
    · exact wp_some (Or.inl ⟨X, rfl, fun z => e (em.trans (z k (by omega))), fX⟩)
  · rintro n U ⟨f, hp⟩
    rw [L_X7_isMetSo_2, (keep U f).1]
    exact wp_ifn (nI_nlt (by omega) (by omega)) (wp_some (Or.inr ⟨U, rfl, fun i hi => hp i (by omega), f⟩))
  · rintro ⟨r, U⟩ hz
    rcases hz with ⟨V, e, a, b⟩ | ⟨V, e, _⟩
    · cases e; exact wp_some ⟨Or.inr ⟨rfl, a⟩, b⟩
    · cases e
  · rintro U hz
    rcases hz with ⟨V, e, _⟩ | ⟨V, e, a, b⟩
    · cases e
    · cases e; exact wp_some ⟨Or.inl ⟨rfl, a⟩, b⟩
/-- the rules, or the limits, that the row fits -/
def fit (w : Wd) (T : Nat × (Nat → Nat)) (l v : Nat) : Prop := if l = 0 then met w T v (num w 2) else met w T (num w 1) v
theorem bits_st {x : Int32} {P : Nat → Prop} {k : Nat} {r : Int32} (hk : k < 31) (hp : bitsAre x (fun v => v < k ∧ P v)) (hr : (r = 1 ∧ P k) ∨ (r = 0 ∧ ¬ P k)) : bitsAre (if r = 0 then x else x ||| isl 1 (nI k)) (fun v => v < k + 1 ∧ P v) := by
  rcases hr with ⟨rfl, h⟩ | ⟨rfl, h⟩
  · rw [if_neg (by decide)]
    refine bits_to (bits_or hp (by omega)) fun i _ => ⟨?_, fun q => ?_⟩
    · rintro (q | q)
      · exact ⟨by omega, q.2⟩
      · exact ⟨by omega, q ▸ h⟩
    · by_cases e : i = k
      · exact Or.inr e
      · exact Or.inl ⟨by omega, q.2⟩
  · rw [if_pos rfl]
    refine bits_to hp fun i _ => ⟨fun q => ⟨by omega, q.2⟩, fun q => ?_⟩
    by_cases e : i = k
    · exact absurd (e ▸ q.2) h
    · exact ⟨by omega, q.2⟩
theorem p_which {S : Sg} {G : Gst} (ok : GO G) (hC : CI S G) (hM : MI S G) (p : Int32) : Same (f_X6_which p S) (f_X7_which p) := by
  have hg := ok.1
  have hk := hg.1
  have hT := ok.2.2.2
  have ei : f_X7_isIn p 0 (1 : Int32) = f_X6_isWithin p (2 : Int32) := isIn_w p (n := 2) (by decide)
  rcases isW_cases p (n := 2) (by decide) with ⟨l, hl2, rfl, e3⟩ | ⟨ne, e3⟩
  · have e3' : ¬ f_X6_isWithin (nI l) (2 : Int32) = 0 := by rw [show f_X6_isWithin (nI l) (2 : Int32) = 1 from e3]; decide
    by_cases hr : rowq G.2.2.2.1
    · have hX : ∃ X : Nat, (X = 4 ∧ l = 0 ∨ X = 11 ∧ l ≠ 0) ∧ (if nI l = 0 then (4 : Int32) else 11) = nI X := by
        have : l = 0 ∨ l = 1 := by omega
        rcases this with rfl | rfl
        · exact ⟨4, by omega, rfl⟩
        · exact ⟨11, by omega, rfl⟩
      obtain ⟨X, hX, eX⟩ := hX
      have el : nI l = 0 ↔ l = 0 := nI_eq (b := 0) (by omega) (by omega)
      refine scr (fun r => bitsAre r (fun v => v < X ∧ fit G.1 G.2.2.2.1 l v)) ok hC hM ?_ (fun S' h => ?_) fun a b ha hb => bits_eq hb ha
      · unfold f_X6_which
        refine wp_ifn e3' (wp_bdm (s_rowC hC.2.2.2.1 hT) ?_)
        rintro r (⟨rfl, _⟩ | ⟨_, q⟩)
        · refine wp_ifn (by decide) (wp_ltq (nI X) eX ?_)
          refine wp_bdm (up (F := fun n k (z : Int32 × Sg) => L_X6_which_45 (nI l) (nI X) n z.1 (nI k) z.2) X (fun k z => bitsAre z.1 (fun v => v < k ∧ fit G.1 G.2.2.2.1 l v) ∧ Fr csc S z.2) (fun z => bitsAre z.1 (fun v => v < X ∧ fit G.1 G.2.2.2.1 l v) ∧ Fr csc S z.2) ?_ ?_ 400 0 (0, S) (by omega) (by omega) ⟨bits_to bits_0 fun i _ => ⟨fun h => h.elim, fun h => by omega⟩, Fr.rf⟩) ?_
          · rintro n k ⟨x, U⟩ hk' ⟨h1, f⟩ ih
            show wp (L_X6_which_45 (nI l) (nI X) (n + 1) x (nI k) U) _
            rw [L_X6_which_45]
            have cU := hC.sc ok f
            have fin : ∀ z : Int32 × Sg, (((z.1 = 1 ∧ fit G.1 G.2.2.2.1 l k) ∨ (z.1 = 0 ∧ ¬ fit G.1 G.2.2.2.1 l k)) ∧ Fr (mosA 1) U z.2) → wp (L_X6_which_45 (nI l) (nI X) n (if z.1 = 0 then x else x ||| isl 1 (nI k)) (nI k + 1) z.2) (fun z => bitsAre z.1 (fun v => v < X ∧ fit G.1 G.2.2.2.1 l v) ∧ Fr csc S z.2) := fun z hz => by
              rw [nIs]
              exact ih (_, _) ⟨bits_st (by omega) h1 hz.1, Fr.tr f (hz.2.mono mos_c)⟩
            refine wp_ifp (nI_lt hk' (by omega)) (wp_lt ?_)
            by_cases q : l = 0
            · refine wp_ifp (el.mpr q) ?_
              rw [cU.1.2.2.1.2.2.1]
              refine wp_bdm (s_metC (rl := k) cU.1 hg cU.2.2.2.1 hT hr (by omega) hk.2.2.2.2.1) ?_
              rintro ⟨r, V⟩ hz
              exact wp_u2 (fin (r, V) (by unfold fit; rw [if_pos q]; exact hz))
            · refine wp_ifn (fun z => q (el.mp z)) ?_
              rw [cU.1.2.2.1.2.1]
              refine wp_bdm (s_metC (lm := k) cU.1 hg cU.2.2.2.1 hT hr hk.2.2.2.1 (by omega)) ?_
              rintro ⟨r, V⟩ hz
              exact wp_u2 (fin (r, V) (by unfold fit; rw [if_neg q]; exact hz))
          · rintro n ⟨x, U⟩ h
            show wp (L_X6_which_45 (nI l) (nI X) (n + 1) x (nI X) U) _
            rw [L_X6_which_45]
            exact wp_ifn (nI_nlt (Nat.le_refl _) (by omega)) (wp_some h)
          · rintro ⟨x, U⟩ h
            exact wp_u2 (wp_some h)
        · exact absurd hr q
      · unfold f_X7_which
        refine wp_lt (wp_ifn (by rw [ei]; exact e3') (wp_bdm (s_rowM h.2.2.2.1 hT) ?_))
        rintro r (⟨rfl, _⟩ | ⟨_, q⟩)
        · refine wp_ltq 0 (if_neg (by decide)) (wp_ifp rfl (wp_bdm (s_builds h.1 (wok_sm hk hg.2.1) (wok_rbd hk)) fun S1 ⟨f1, _, hB⟩ => ?_))
          have h1 : MI S1 G := h.sc ok f1 ls_m
          refine wp_bdm (up (F := fun n k (z : Int32 × Sg) => L_X7_which_47 (nI l) n z.1 (nI k) z.2) X (fun k z => bitsAre z.1 (fun v => v < k ∧ fit G.1 G.2.2.2.1 l v) ∧ Fm b1I mbJ S1 z.2) (fun z => bitsAre z.1 (fun v => v < X ∧ fit G.1 G.2.2.2.1 l v) ∧ Fm b1I mbJ S1 z.2) ?_ ?_ 400 0 (0, S1) (by omega) (by omega) ⟨bits_to bits_0 fun i _ => ⟨fun h => h.elim, fun h => by omega⟩, Fm.rf⟩) ?_
          · rintro n k ⟨x, U⟩ hk' ⟨g1, f⟩ ih
            show wp (L_X7_which_47 (nI l) (n + 1) x (nI k) U) _
            rw [L_X7_which_47]
            have b1m : ∀ o k, b1I o k → msc o k := fun o k q => q.elim (as_m o k) (mb_m o k)
            have hU : MI U G := h1.sc ok f b1m
            have b1 : ∀ o k, b1I o k → (o = 140 ∧ (k = 12 ∨ k = 19)) ∨ o = 148 ∨ o = 153 := fun o k q => by
              rcases q with q | q
              · have : o = 148 ∨ (o = 140 ∧ k = 12) := q; omega
              · have : o = 153 ∨ (o = 140 ∧ k = 19) := q; omega
            have hBU : RX 149 152 18 U (gh G.1) := hB.fm f (fun q => by have := b1 _ _ q; omega) (fun k q => by have := b1 _ _ q; omega) (fun k q => by have : 149 = 150 ∨ 149 = 151 := q; omega)
            have fin : ∀ z : Int32 × Sg, (((z.1 = 1 ∧ fit G.1 G.2.2.2.1 l k) ∨ (z.1 = 0 ∧ ¬ fit G.1 G.2.2.2.1 l k)) ∧ Fm b1I mbJ U z.2) → wp (L_X7_which_47 (nI l) n (x ||| (if z.1 = 0 then 0 else isl 1 (nI k))) (nI k + 1) z.2) (fun z => bitsAre z.1 (fun v => v < X ∧ fit G.1 G.2.2.2.1 l v) ∧ Fm b1I mbJ S1 z.2) := fun z hz => by
              have e : (x ||| (if z.1 = 0 then 0 else isl 1 (nI k))) = if z.1 = 0 then x else x ||| isl 1 (nI k) := by
                by_cases q : z.1 = 0
                · rw [if_pos q, if_pos q, or_0]
                · rw [if_neg q, if_neg q]
              rw [nIs, e]
              exact ih (_, _) ⟨bits_st (by omega) g1 hz.1, Fm.tr f hz.2⟩
            refine wp_ltq (nI X) eX (wp_ifp (nI_lt hk' (by omega)) (wp_lt ?_))
            by_cases q : l = 0
            · refine wp_ifp (el.mpr q) ?_
              rw [hU.1.2.2.1.2.2.1]
              refine wp_bdm (s_metM (rl := k) hU.1 hg hBU hU.2.2.2.1 hT hr (by omega) hk.2.2.2.2.1) ?_
              rintro ⟨r, V⟩ hz
              exact wp_u2 (fin (r, V) (by unfold fit; rw [if_pos q]; exact hz))
            · refine wp_ifn (fun z => q (el.mp z)) ?_
              rw [hU.1.2.2.1.2.1]
              refine wp_bdm (s_metM (lm := k) hU.1 hg hBU hU.2.2.2.1 hT hr hk.2.2.2.1 (by omega)) ?_
              rintro ⟨r, V⟩ hz
              exact wp_u2 (fin (r, V) (by unfold fit; rw [if_neg q]; exact hz))
          · rintro n ⟨x, U⟩ h
            show wp (L_X7_which_47 (nI l) (n + 1) x (nI X) U) _
            rw [L_X7_which_47]
            exact wp_ltq (nI X) eX (wp_ifn (nI_nlt (Nat.le_refl _) (by omega)) (wp_some h))
          · rintro ⟨x, U⟩ ⟨a, f⟩
            exact wp_u2 (wp_some ⟨a, (f1.mono ls_m lj_m).tr (f.mono (fun o k q => q.elim (as_m o k) (mb_m o k)) mbj_m)⟩)
        · exact absurd hr q
    · refine mk (fun r G' => r = -3 ∧ G' = bump G 2) ok hM ?_ ?_
      · unfold f_X6_which
        refine wp_ifn e3' (wp_bdm (s_rowC hC.2.2.2.1 hT) ?_)
        rintro r (⟨_, q⟩ | ⟨rfl, _⟩)
        · exact absurd q hr
        · exact wp_ifp rfl (wp_mono (ref6 r3 ok hC) fun z hz => ⟨hz.2.1, _, ⟨hz.1, rfl⟩, hz.2.2⟩)
      · rintro r S' G' ⟨rfl, rfl⟩ h
        refine ⟨ok, ?_⟩
        unfold f_X7_which
        refine wp_lt (wp_ifn (by rw [ei]; exact e3') (wp_bdm (s_rowM h.2.2.2.1 hT) ?_))
        rintro r (⟨_, q⟩ | ⟨rfl, _⟩)
        · exact absurd q hr
        · exact wp_ltq (-3) (if_pos rfl) (wp_ifn (by decide) (ref7 r3 ok h))
  · refine mk (fun r G' => r = -2 ∧ G' = bump G 1) ok hM ?_ ?_
    · unfold f_X6_which
      exact wp_ifp e3 (wp_mono (ref6 r2 ok hC) fun z hz => ⟨hz.2.1, _, ⟨hz.1, rfl⟩, hz.2.2⟩)
    · rintro r S' G' ⟨rfl, rfl⟩ h
      refine ⟨ok, ?_⟩
      unfold f_X7_which
      exact wp_lt (wp_ifp (ei.trans e3) (wp_ifn (by decide) (ref7 r2 ok h)))
