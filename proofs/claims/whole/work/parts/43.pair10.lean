theorem nm1 (k : Nat) : nI (k + 1) + (-1 : Int32) = nI k := by
  rw [← nIs, Int32.add_assoc, show (1 : Int32) + (-1) = 0 by decide, Int32.add_zero]
theorem p_pivots {S : Sg} {G : Gst} (ok : GO G) (hC : CI S G) (hM : MI S G) : Same (some (f_X6_pivots S, S)) f_X7_pivots := by
  have hg := ok.1
  have hs := wok_sm hg.1 hg.2.1
  refine scr (fun r => bitsAre r (fun i => ∃ x ∈ gh G.1, i = x.1)) ok hC hM ?_ (fun S' h => ?_) fun a b ha hb => bits_eq hb ha
  · refine wp_some ⟨?_, Fr.rf⟩
    show bitsAre (S.1 (1 + 17) 2) _
    rw [hC.1.2.2.2.2.2.2]
    exact pbits_are _ hs.1
  · unfold f_X7_pivots
    refine wp_bdm (s_builds h.1 hs (wok_rbd hg.1)) fun T ⟨f, hR, _⟩ => ?_
    have hl := hs.2.2
    refine wp_bdm (up (F := fun n k (x : Int32) => L_X7_pivots_8 T n x (nI k)) (gh G.1).length (fun k x => bitsAre x (fun i => ∃ j, j < k ∧ i = gpv (gh G.1) j)) (fun x => bitsAre x (fun i => ∃ x ∈ gh G.1, i = x.1)) ?_ ?_ 400 0 0 (by omega) (by omega) (bits_to bits_0 fun i _ => ⟨fun h => h.elim, fun ⟨j, h, _⟩ => by omega⟩)) fun x hx => wp_some ⟨hx, f.mono ls_m lj_m⟩
    · intro n k x hk hp ih
      rw [L_X7_pivots_8, hR.1]
      refine wp_ifp (nI_lt hk (by omega)) (wp_gd (inb_n (by omega) (by decide)) ?_)
      rw [ix_n (by omega), (hR.2 k hk).1]
      obtain ⟨y, hy, ey⟩ := gpv_mem (gh G.1) k hk
      have h10 : gpv (gh G.1) k < 10 := by rw [ey]; exact gok_lt _ hs.1 y hy
      show wp (L_X7_pivots_8 T n (x ||| isl 1 (nI (gpv (gh G.1) k))) (nI k + 1)) _
      rw [nIs]
      refine ih _ (bits_to (bits_or hp (by omega)) fun i _ => ?_)
      constructor
      · rintro (⟨j, hj, e⟩ | e)
        · exact ⟨j, by omega, e⟩
        · exact ⟨k, by omega, e⟩
      · rintro ⟨j, hj, e⟩
        by_cases q : j = k
        · exact Or.inr (q ▸ e)
        · exact Or.inl ⟨j, by omega, e⟩
    · intro n x hp
      rw [L_X7_pivots_8, hR.1]
      refine wp_ifn (nI_nlt (Nat.le_refl _) (by omega)) (wp_some (bits_to hp fun i _ => ⟨?_, ?_⟩))
      · rintro ⟨j, hj, e⟩
        obtain ⟨y, hy, ey⟩ := gpv_mem (gh G.1) j hj
        exact ⟨y, hy, e.trans ey⟩
      · rintro ⟨y, hy, e⟩
        obtain ⟨j, hj, ej⟩ := mem_gpv (gh G.1) y hy
        exact ⟨j, hj, e.trans ej.symm⟩
/-- a sum fixes p -/
def fx (w : Wd) (v p : Nat) : Prop := fxd (gh w) (gr (gh w) (qrow w (wq 0 (nI v) 0))) p
noncomputable def af (w : Wd) (p : Nat) : Nat → Int32 × Int32
  | 0 => (-9, 0)
  | m + 1 => @ite _ (fx w (255 - m) p) (Classical.propDecidable _) (nI (255 - m), (af w p m).2 + 1) (af w p m)
theorem p_attack {S : Sg} {G : Gst} (ok : GO G) (hC : CI S G) (hM : MI S G) (p q : Int32) : Same (f_X6_attack p q S) (f_X7_attack p q) := by
  have hg := ok.1
  have hk := hg.1
  have hv := hk.2.2.1
  have hs := wok_sm hk hg.2.1
  have e6 : f_X5_has 1 p S = f_X6_isWithin p (nI (num G.1 0)) := has_w hC.1 hv.2 p
  have ei : f_X7_isIn q 0 (1 : Int32) = f_X6_isWithin q (2 : Int32) := isIn_w q (n := 2) (by decide)
  rcases isW_cases p (n := num G.1 0) (by omega) with ⟨j, hj, rfl, e⟩ | ⟨_, e⟩
  · have j10 : j < 10 := by omega
    have a6 : ¬ f_X5_has 1 (nI j) S = 0 := by rw [e6, e]; decide
    have a7 : ∀ S', MI S' G → ¬ f_X7_isVariable (nI j) S' = 0 := fun S' h => by rw [in_w h.1 hk, e]; decide
    rcases isW_cases q (n := 2) (by decide) with ⟨l, hl2, rfl, e3⟩ | ⟨ne, e3⟩
    · have e3' : ¬ f_X6_isWithin (nI l) (2 : Int32) = 0 := by rw [show f_X6_isWithin (nI l) (2 : Int32) = 1 from e3]; decide
      refine scr (fun r => r = if nI l = 0 then (af G.1 j 255).1 else (af G.1 j 255).2) ok hC hM ?_ (fun S' h => ?_) fun a b ha hb => hb.trans ha.symm
      · unfold f_X6_attack
        refine wp_ifn a6 (wp_ifn e3' (wp_bdm (dn (F := fun n k (z : Int32 × Int32 × Sg) => L_X6_attack_43 (nI j) (nI l) n z.1 z.2.1 (nI k) z.2.2) (fun k z => k ≤ 255 ∧ (z.1, z.2.1) = af G.1 j (255 - k) ∧ Fr (mosA 1) S z.2.2) (fun z => (z.1, z.2.1) = af G.1 j 255 ∧ Fr (mosA 1) S z.2.2) ?_ ?_ 400 255 (-9, 0, S) (by omega) ⟨by omega, rfl, Fr.rf⟩) ?_))
        · rintro n k ⟨x, y, T⟩ ⟨h1, h2, f⟩ ih
          have h2' : (x, y) = af G.1 j (255 - (k + 1)) := h2
          show wp (L_X6_attack_43 (nI j) (nI l) (n + 1) x y (nI (k + 1)) T) _
          rw [L_X6_attack_43]
          refine wp_ifn (nI_nlt (b := 1) (by omega) (by omega)) (wp_bdm (s_make (oq := 130) (a := nI (k + 1)) (b := 0) qv0) fun U ⟨f1, q1⟩ => ?_)
          have cT := mos_w hC.1 hg (by omega) f
          have cU : CW 1 U G.1 := cT.fr f1 (fun p hp => by have : 1 ≤ p ∧ p < 1 + 29 := hp; show ¬ (p = 130 + 1); omega) (wg_l10 hg)
          refine wp_bdm (s_fixedQ cU hk hg.2.1 q1 (wq_ok qv0) (by omega)) ?_
          rintro ⟨r, V⟩ ⟨hr, f2⟩
          have hb : (isr r (nI j) &&& 1) = 1 ↔ (j < 10 ∧ fx G.1 (k + 1) j) := bits_test hr (by omega)
          have f3 : Fr (mosA 1) S V := (f.tr (f1.mono fun p hp => Or.inl hp)).tr (f2.mono fun p hp => Or.inr hp)
          have hs1 : af G.1 j (255 - k) = @ite _ (fx G.1 (k + 1) j) (Classical.propDecidable _) (nI (k + 1), (af G.1 j (255 - (k + 1))).2 + 1) (af G.1 j (255 - (k + 1))) := by
            rw [show 255 - k = (255 - (k + 1)) + 1 by omega, af, show 255 - (255 - (k + 1)) = k + 1 by omega]
          refine wp_u2 ?_
          show wp (L_X6_attack_43 (nI j) (nI l) n (if (isr r (nI j) &&& 1) = 1 then nI (k + 1) else x) (if (isr r (nI j) &&& 1) = 1 then y + 1 else y) (nI (k + 1) + (-1)) V) _
          rw [nm1]
          refine ih (_, _, V) ⟨by omega, ?_, f3⟩
          show ((if (isr r (nI j) &&& 1) = 1 then nI (k + 1) else x), (if (isr r (nI j) &&& 1) = 1 then y + 1 else y)) = af G.1 j (255 - k)
          rw [hs1]
          by_cases z : fx G.1 (k + 1) j
          · rw [if_pos (hb.mpr ⟨j10, z⟩), if_pos (hb.mpr ⟨j10, z⟩), if_pos z, ← h2']
          · rw [if_neg (fun u => z (hb.mp u).2), if_neg (fun u => z (hb.mp u).2), if_neg z, ← h2']
        · rintro n ⟨x, y, T⟩ ⟨_, h2, f⟩
          show wp (L_X6_attack_43 (nI j) (nI l) (n + 1) x y (nI 0) T) _
          rw [L_X6_attack_43]
          exact wp_ifp (by decide) (wp_some ⟨h2, f⟩)
        · rintro ⟨x, y, T⟩ ⟨h2, f⟩
          have h2' : (x, y) = af G.1 j 255 := h2
          show wp (some ((if nI l = 0 then x else y), T)) _
          refine wp_some ⟨?_, f.mono mos_c⟩
          show (if nI l = 0 then x else y) = _
          rw [← h2']
      · unfold f_X7_attack
        refine wp_ltq 0 ((if_neg (a7 S' h)).trans (if_neg (by rw [ei]; exact e3'))) (wp_ifp rfl (wp_bdm (s_builds h.1 hs (wok_rbd hk)) fun S1 ⟨f1, _, hB⟩ => ?_))
        have w1 : MW S1 G.1 := h.1.fm f1 (fun o k q n => (ls_m o k n).2.1 q)
        refine wp_bdm (dn (F := fun n k (z : Int32 × Int32 × Sg) => L_X7_attack_54 (nI j) (nI l) n z.1 z.2.1 (nI k) z.2.2) (fun k z => k ≤ 255 ∧ (z.1, z.2.1) = af G.1 j (255 - k) ∧ Fm b1I mbJ S1 z.2.2) (fun z => (z.1, z.2.1) = af G.1 j 255 ∧ Fm b1I mbJ S1 z.2.2) ?_ ?_ 400 255 (-9, 0, S1) (by omega) ⟨by omega, rfl, Fm.rf⟩) ?_
        · rintro n k ⟨x, y, T⟩ ⟨h1, h2, f⟩ ih
          have h2' : (x, y) = af G.1 j (255 - (k + 1)) := h2
          show wp (L_X7_attack_54 (nI j) (nI l) (n + 1) x y (nI (k + 1)) T) _
          rw [L_X7_attack_54]
          have b1m : ∀ o k, b1I o k → msc o k := fun o k q => q.elim (as_m o k) (mb_m o k)
          have wT : MW T G.1 := w1.fm f (fun o k q n => (b1m o k n).2.1 q)
          refine wp_ifn (nI_nlt (b := 1) (by omega) (by omega)) (wp_bdm (s_asks (a := nI (k + 1)) (b := 0) wT (fun k hk' => own10 hk hk') qv0) fun U ⟨f2, a2⟩ => ?_)
          have f2' : Fm b1I mbJ T U := f2.mono (fun o k q => Or.inl q) (fun _ _ q => q.elim)
          have hU : RX 149 152 18 U (gh G.1) := hB.fm (f.tr f2') (by
            rintro (q | q)
            · have : 140 = 148 ∨ (140 = 140 ∧ 18 = 12) := q; omega
            · have : 140 = 153 ∨ (140 = 140 ∧ 18 = 19) := q; omega) (fun k => by
            rintro (q | q)
            · have : 152 = 148 ∨ (152 = 140 ∧ k = 12) := q; omega
            · have : 152 = 153 ∨ (152 = 140 ∧ k = 19) := q; omega) (fun k q => by have : 149 = 150 ∨ 149 = 151 := q; omega)
          refine wp_bdm (s_loads (by have := hs.2.2; omega) hU) fun V ⟨f3, hV⟩ => ?_
          have f3' : Fm b1I mbJ U V := f3.mono (fun o k q => Or.inr (by have : o = 153 ∨ (o = 140 ∧ k = 19) := q; show _ ∨ _; omega)) (fun o k q => by have : o = 150 := q; show _ ∨ _; omega)
          have aV : ∀ k', k' < 10 → V.1 148 (0 + k') = I (qrow G.1 (wq 0 (nI (k + 1)) 0) k') := fun k' hk' => by
            rw [Nat.zero_add, f3.1 148 k' (by show ¬ (_ ∨ _); omega)]; exact a2.1 k' hk'
          rw [show (0 : Int32) = nI 0 from rfl]
          refine wp_bdm (s_adds (f1 := 0) hs hV aV (qbd (wq_ok qv0)) (qdt (fun k hk' => own10 hk hk') (wq_ok qv0)) ⟨by omega, by omega⟩) fun X ⟨f4, h4⟩ => ?_
          have f4' : Fm b1I mbJ V X := f4.mono (fun o k q => Or.inr q) (fun _ _ q => q)
          have fX := ((f.tr f2').tr f3').tr f4'
          have hs1 : af G.1 j (255 - k) = @ite _ (fx G.1 (k + 1) j) (Classical.propDecidable _) (nI (k + 1), (af G.1 j (255 - (k + 1))).2 + 1) (af G.1 j (255 - (k + 1))) := by
            rw [show 255 - k = (255 - (k + 1)) + 1 by omega, af, show 255 - (255 - (k + 1)) = k + 1 by omega]
          have hfx : wp (f_X7_isFixed (nI j) X) (fun r => (r = 1 ∧ fx G.1 (k + 1) j) ∨ (r = 0 ∧ ¬ fx G.1 (k + 1) j)) := by
            rcases h4 with ⟨hz, hX⟩ | ⟨pp, gk, hX⟩
            · refine wp_mono (s_isFixed j10 ⟨hs.1, hs.2.1, by have := hs.2.2; omega⟩ (fun i hi z hz => bdd_mono (rowOK_bdd10 ⟨hs.1, hs.2.1, by have := hs.2.2; omega⟩ hi hz) (by decide)) hX) ?_
              rintro r (⟨rfl, z⟩ | ⟨rfl, z⟩)
              · exact absurd z (hg.2.1 j j10)
              · refine Or.inr ⟨rfl, ?_⟩
                rintro (u | ⟨qq, u1, u2⟩)
                · exact z u
                · exact u2.1 (hz qq u1.1)
            · have g10 : gsmall ((pp, qrow G.1 (wq 0 (nI (k + 1)) 0)) :: gh G.1) 10 := ⟨gk, ⟨hs.2.1, qdt (fun k hk' => own10 hk hk') (wq_ok qv0)⟩, by have := hs.2.2; show (gh G.1).length + 1 ≤ 10; omega⟩
              refine wp_mono (s_isFixed j10 g10 (fun i hi z hz => bdd_mono (rowOK_bdd10 g10 hi hz) (by decide)) hX) ?_
              rintro r (⟨rfl, z⟩ | ⟨rfl, z⟩)
              · exact Or.inl ⟨rfl, (fxd_iff gk j10).mpr z⟩
              · exact Or.inr ⟨rfl, fun u => z ((fxd_iff gk j10).mp u)⟩
          refine wp_bdm hfx fun r hr => ?_
          show wp (L_X7_attack_54 (nI j) (nI l) n (if r = 0 then x else nI (k + 1)) (if r = 0 then y else y + 1) (nI (k + 1) + (-1)) X) _
          rw [nm1]
          refine ih (_, _, X) ⟨by omega, ?_, fX⟩
          show ((if r = 0 then x else nI (k + 1)), (if r = 0 then y else y + 1)) = af G.1 j (255 - k)
          rw [hs1]
          rcases hr with ⟨rfl, z⟩ | ⟨rfl, z⟩
          · rw [if_neg (by decide), if_neg (by decide), if_pos z, ← h2']
          · rw [if_pos rfl, if_pos rfl, if_neg z, ← h2']
        · rintro n ⟨x, y, T⟩ ⟨_, h2, f⟩
          show wp (L_X7_attack_54 (nI j) (nI l) (n + 1) x y (nI 0) T) _
          rw [L_X7_attack_54]
          exact wp_ifp (by decide) (wp_some ⟨h2, f⟩)
        · rintro ⟨x, y, T⟩ ⟨h2, f⟩
          have h2' : (x, y) = af G.1 j 255 := h2
          show wp (some ((if nI l = 0 then x else y), T)) _
          refine wp_some ⟨?_, (f1.mono ls_m lj_m).tr (f.mono (fun o k q => q.elim (as_m o k) (mb_m o k)) mbj_m)⟩
          show (if nI l = 0 then x else y) = _
          rw [← h2']
    · unfold f_X6_attack
      rw [if_neg a6, if_pos (show f_X6_isWithin q (2 : Int32) = 0 from e3)]
      exact refS r2 ok hC hM fun S' h => by
        unfold f_X7_attack
        rw [if_neg (a7 S' h), if_pos (ei.trans e3)]
        rfl
  · unfold f_X6_attack
    rw [if_pos (by rw [e6, e])]
    exact refS r1 ok hC hM fun S' h => by
      unfold f_X7_attack
      rw [if_pos (by rw [in_w h.1 hk, e])]
      rfl
