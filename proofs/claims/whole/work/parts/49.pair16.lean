/-! lots -/
def sd (s : Int32) : Int32 := s * 1664525 + 1013904223
def dr (s : Int32) : Int32 := irem ((s &&& 2147483647) / 256) 255
theorem and_nn (s : Int32) : ¬ (s &&& 2147483647) < 0 := by
  intro h
  rw [Int32.lt_iff_toBitVec_slt] at h
  have e : (s &&& 2147483647).toBitVec = s.toBitVec &&& 2147483647#32 := rfl
  have z : (0 : Int32).toBitVec = 0#32 := rfl
  rw [e, z] at h
  have : ∀ x : BitVec 32, (x &&& 2147483647#32).slt 0#32 = false := by
    intro x
    rw [BitVec.slt_eq_decide, decide_eq_false_iff_not]
    have hm : (x &&& 2147483647#32).msb = false := by
      rw [BitVec.msb_and]
      have : (2147483647#32).msb = false := by decide
      rw [this, Bool.and_false]
    have := BitVec.toInt_nonneg_of_msb_false hm
    have z : (0#32).toInt = 0 := rfl
    omega
  rw [this] at h
  cases h
theorem dr_n (s : Int32) : ∃ u, 1 ≤ u ∧ u ≤ 255 ∧ (1 : Int32) + dr s = nI u := by
  obtain ⟨n, hn, e⟩ := nI_of (and_nn s)
  have h256 : nI n / (256 : Int32) = nI (n / 256) := by
    rw [show (256 : Int32) = I ((256 : Nat) : Int) from rfl, ← I_nI, I_div (by omega) (by omega), ← I_nI]
    exact congrArg I (Int.ofNat_tdiv n 256).symm
  have h255 : irem (nI (n / 256)) 255 = nI (n / 256 % 255) := by
    generalize hm : n / 256 = m
    have hm' : m < 2 ^ 31 := by omega
    have d : nI m / (255 : Int32) = nI (m / 255) := by
      rw [show (255 : Int32) = I ((255 : Nat) : Int) from rfl, ← I_nI, I_div (by omega) (by omega), ← I_nI]
      exact congrArg I (Int.ofNat_tdiv m 255).symm
    show nI m - nI m / (255 : Int32) * nI 255 = _
    rw [d, nI_mul]
    have e : m = m % 255 + m / 255 * 255 := by omega
    have e2 : nI m = nI (m % 255) + nI (m / 255 * 255) := by rw [nI_add]; exact congrArg nI e
    rw [e2]
    exact Int32.add_sub_cancel _ _
  refine ⟨n / 256 % 255 + 1, by omega, by omega, ?_⟩
  unfold dr
  rw [e, h256, h255, Int32.add_comm, nIs]
/-- the number drawn -/
noncomputable def du (s : Int32) : Nat := Classical.choose (dr_n s)
theorem du_s (s : Int32) : (1 : Int32) + dr s = nI (du s) := (Classical.choose_spec (dr_n s)).2.2
/-- eight draws -/
noncomputable def li (x : Int32) (s : Int32 × Int32 × Wd) : Nat → Int32 × Int32 × Wd
  | 0 => s
  | i + 1 => (sd (li x s i).1, (if ms (li x s i).2.2 (du (sd (li x s i).1)) = x then (li x s i).2.1 + 1 else (li x s i).2.1), nw (li x s i).2.2 (du (sd (li x s i).1)))
noncomputable def lu (x : Int32) (w : Wd) (s : Int32) : Nat → Int32 × Int32
  | 0 => (s, 0)
  | i + 1 => ((li x ((lu x w s i).1, (lu x w s i).2, w) 8).1, (li x ((lu x w s i).1, (lu x w s i).2, w) 8).2.1)
theorem li_good {x s y : Int32} {w : Wd} (h : Cw w) (hg : wgood w) : ∀ i, Cw (li x (s, y, w) i).2.2 ∧ wgood (li x (s, y, w) i).2.2
  | 0 => ⟨h, hg⟩
  | i + 1 => nw_good (li_good h hg i).1 (li_good h hg i).2 _
theorem p_lots {S : Sg} {G : Gst} (ok : GO G) (hC : CI S G) (hM : MI S G) (p s q : Int32) : Same (f_X6_lots p s q S) (f_X7_lots p s q) := by
  have hg := ok.1
  have hl := wg_l10 hg
  have hcw := Cw_of hC.1 hg
  have eb : f_X7_bound p 1 20 = f_X6_misfit p 1 20 := rfl
  have ei : f_X7_isIn q 0 (1 : Int32) = f_X6_isWithin q (2 : Int32) := isIn_w q (n := 2) (by decide)
  have mc : (∃ j, isRef (f_X6_misfit p 1 20) j) ∨ ∃ m : Nat, m ≤ 20 ∧ p = nI m ∧ f_X6_misfit p 1 20 = 0 := by
    show (∃ j, isRef (if p < 1 then (-4 : Int32) else if 20 < p then -6 else 0) j) ∨ ∃ m : Nat, m ≤ 20 ∧ p = nI m ∧ (if p < 1 then (-4 : Int32) else if 20 < p then -6 else 0) = 0
    by_cases h1 : p < 1
    · rw [if_pos h1]; exact Or.inl ⟨_, r4⟩
    · rw [if_neg h1]
      by_cases h2 : 20 < p
      · rw [if_pos h2]; exact Or.inl ⟨_, r6⟩
      · rw [if_neg h2]
        right
        by_cases h3 : 255 < p
        · exact absurd (show (20 : Int32) < p by
            rw [Int32.lt_iff_toInt_lt] at h3 ⊢
            have e1 : (255 : Int32).toInt = 255 := rfl
            have e2 : (20 : Int32).toInt = 20 := rfl
            omega) h2
        · obtain ⟨a, a1, a2, rfl⟩ := nn255 h1 h3
          refine ⟨a, ?_, rfl, rfl⟩
          by_cases z : a ≤ 20
          · exact z
          · exact absurd (nI_lt (a := 20) (show 20 < a by omega) (by omega)) h2
  rcases mc with ⟨j, hj⟩ | ⟨m, hm, rfl, e⟩
  · refine mk (fun r G' => r = f_X6_misfit p 1 20 ∧ G' = bump G j) ok hM ?_ ?_
    · unfold f_X6_lots
      exact wp_lt (wp_ifn hj.ne (wp_mono (ref6 hj ok hC) fun z hz => ⟨hz.2.1, _, ⟨hz.1, rfl⟩, hz.2.2⟩))
    · rintro r S' G' ⟨rfl, rfl⟩ h
      refine ⟨ok, ?_⟩
      unfold f_X7_lots
      rw [eb]
      exact wp_lt (wp_ltq (f_X6_misfit p 1 20) (if_neg hj.ne) (wp_ifn hj.ne (ref7 hj ok h)))
  · rcases isW_cases q (n := 2) (by decide) with ⟨l, hl2, rfl, e3⟩ | ⟨ne, e3⟩
    · have e3' : ¬ f_X6_isWithin (nI l) (2 : Int32) = 0 := by rw [show f_X6_isWithin (nI l) (2 : Int32) = 1 from e3]; decide
      generalize hx : (if nI l = 0 then (1 : Int32) else 2) = x
      refine mk (fun r G' => r = (lu x G.1 s m).2 ∧ G' = G) ok hM ?_ ?_
      · unfold f_X6_lots
        rw [e]
        refine wp_lt (wp_ifp rfl (wp_ifn e3' (wp_ltq x hx ?_)))
        refine wp_bdm (up (F := fun n k (z : Int32 × Int32 × Sg) => L_X6_lots_56 (nI m) x n z.1 z.2.1 (nI k) z.2.2) m (fun k z => (z.1, z.2.1) = lu x G.1 s k ∧ Fr csc S z.2.2) (fun z => z.1 = (lu x G.1 s m).2 ∧ Fr csc S z.2) ?_ ?_ 400 0 (s, 0, S) (by omega) (by omega) ⟨rfl, Fr.rf⟩) ?_
        · rintro n k ⟨a, b, T⟩ hk ⟨h1, f⟩ ih
          have h1' : (a, b) = lu x G.1 s k := h1
          show wp (L_X6_lots_56 (nI m) x (n + 1) a b (nI k) T) _
          rw [L_X6_lots_56]
          have cT := (hC.sc ok f).1
          refine wp_ifp (nI_lt hk (by omega)) (wp_bdm (s_wcopy (o := 44) cT hl (by omega)) fun U ⟨f1, c1⟩ => ?_)
          refine wp_bdm (up (F := fun n i (z : Int32 × Int32 × Sg) => L_X6_lots_76 (nI m) x (nI k) n z.1 z.2.1 (nI i) z.2.2) 8 (fun i z => z.1 = (li x (a, b, G.1) i).1 ∧ z.2.1 = (li x (a, b, G.1) i).2.1 ∧ CW 44 z.2.2 (li x (a, b, G.1) i).2.2 ∧ Fr csc S z.2.2) (fun z => z.1 = (li x (a, b, G.1) 8).1 ∧ z.2.1 = (li x (a, b, G.1) 8).2.1 ∧ Fr csc S z.2.2) ?_ ?_ 400 0 (a, b, U) (by omega) (by omega) ⟨rfl, rfl, c1, f.tr (f1.mono cp_c)⟩) ?_
          · rintro n i ⟨c, d, V⟩ hi ⟨g1, g2, g3, g4⟩ ih2
            have g1' : c = (li x (a, b, G.1) i).1 := g1
            have g2' : d = (li x (a, b, G.1) i).2.1 := g2
            show wp (L_X6_lots_76 (nI m) x (nI k) (n + 1) c d (nI i) V) _
            rw [L_X6_lots_76]
            refine wp_ifp (lt8 hi) (wp_lt (wp_lt ?_))
            show wp (bd (f_X6_takeSum 44 ((1 : Int32) + dr (sd c)) V) _) _
            rw [du_s]
            refine wp_bdm (s_takeSum g3 (li_good hcw hg i).2 (du (sd c))) ?_
            rintro ⟨r, W⟩ ⟨t1, t2, t3, t4⟩
            have t1' : r = ms (li x (a, b, G.1) i).2.2 (du (sd c)) := t1
            refine wp_u2 ?_
            show wp (L_X6_lots_76 (nI m) x (nI k) n (sd c) (if r = x then d + 1 else d) (nI i + 1) W) _
            rw [nIs]
            refine ih2 (_, _, W) ⟨?_, ?_, ?_, g4.tr (t2.mono ts_c)⟩
            · show sd c = sd (li x (a, b, G.1) i).1; rw [g1']
            · show (if r = x then d + 1 else d) = (if ms (li x (a, b, G.1) i).2.2 (du (sd (li x (a, b, G.1) i).1)) = x then (li x (a, b, G.1) i).2.1 + 1 else (li x (a, b, G.1) i).2.1)
              rw [t1', g2', g1']
            · show CW 44 W (nw (li x (a, b, G.1) i).2.2 (du (sd (li x (a, b, G.1) i).1)))
              rw [← g1']; exact t3
          · rintro n ⟨c, d, V⟩ ⟨g1, g2, _, g4⟩
            show wp (L_X6_lots_76 (nI m) x (nI k) (n + 1) c d (nI 8) V) _
            rw [L_X6_lots_76]
            exact wp_ifn (nlt8 (Nat.le_refl _) (by omega)) (wp_some ⟨g1, g2, g4⟩)
          · rintro ⟨c, d, V⟩ ⟨g1, g2, g4⟩
            show wp (L_X6_lots_56 (nI m) x n c d (nI k + 1) V) _
            rw [nIs]
            refine ih (c, d, V) ⟨?_, g4⟩
            show (c, d) = ((li x ((lu x G.1 s k).1, (lu x G.1 s k).2, G.1) 8).1, (li x ((lu x G.1 s k).1, (lu x G.1 s k).2, G.1) 8).2.1)
            rw [← h1']
            exact Prod.ext g1 g2
        · rintro n ⟨a, b, T⟩ ⟨h1, f⟩
          have h1' : (a, b) = lu x G.1 s m := h1
          show wp (L_X6_lots_56 (nI m) x (n + 1) a b (nI m) T) _
          rw [L_X6_lots_56]
          exact wp_ifn (nI_nlt (Nat.le_refl _) (by omega)) (wp_some ⟨by rw [← h1'], f⟩)
        · rintro ⟨r, T⟩ ⟨h1, f⟩
          exact wp_u2 (wp_some ⟨f.mono csc_c, G, ⟨h1, rfl⟩, hC.sc ok f⟩)
      · rintro r S' G' ⟨rfl, eG⟩ h
        subst eG
        refine ⟨ok, ?_⟩
        unfold f_X7_lots
        rw [eb, e]
        refine wp_lt (wp_ltq 0 ((if_pos rfl).trans (if_neg (by rw [ei]; exact e3'))) (wp_ifp rfl (wp_lt ?_)))
        have hw0 : MW (setI S' 140 40 s) G'.1 := h.1.fm (Fm.setI (AI := fun o k => o = 140 ∧ k = 40) (AJ := noJ) ⟨rfl, rfl⟩) fun o k q z => by have : (142 ≤ o ∧ o ≤ 147) ∨ (o = 140 ∧ 7 ≤ k ∧ k ≤ 10) := q; have : o = 140 ∧ k = 40 := z; omega
        have f0 : Fm mmI mscJ S' (setI S' 140 40 s) := Fm.setI (Or.inl (msc_of (by omega)))
        refine wp_bdm (up (F := fun n k (z : Int32 × Sg) => L_X7_lots_50 (nI m) (nI l) n z.1 (nI k) z.2) m (fun k z => (z.2.1 140 40, z.1) = lu x G'.1 s k ∧ MW z.2 G'.1 ∧ Fm mmI mscJ S' z.2) (fun z => z.1 = (lu x G'.1 s m).2 ∧ MW z.2 G'.1 ∧ Fm mmI mscJ S' z.2) ?_ ?_ 400 0 (0, setI S' 140 40 s) (by omega) (by omega) ⟨Prod.ext (show (setI S' 140 40 s).1 140 40 = s from setI_s) rfl, hw0, f0⟩) ?_
        · rintro n k ⟨b, T⟩ hk ⟨h1, mT, f⟩ ih
          have h1' : (T.1 140 40, b) = lu x G'.1 s k := h1
          show wp (L_X7_lots_50 (nI m) (nI l) (n + 1) b (nI k) T) _
          rw [L_X7_lots_50]
          refine wp_ifp (nI_lt hk (by omega)) (wp_bdm (s_minds mT hl) fun U ⟨f1, m1, k1⟩ => ?_)
          have u40 : U.1 140 40 = T.1 140 40 := f1.1 _ _ (by rintro (z | z) <;> omega)
          refine wp_bdm (up (F := fun n i (z : Int32 × Sg) => L_X7_lots_63 (nI m) (nI l) (nI k) n z.1 (nI i) z.2) 8 (fun i z => z.2.1 140 40 = (li x (T.1 140 40, b, G'.1) i).1 ∧ z.1 = (li x (T.1 140 40, b, G'.1) i).2.1 ∧ MW z.2 (li x (T.1 140 40, b, G'.1) i).2.2 ∧ KW z.2 2 G'.1 ∧ Fm mmI mscJ S' z.2) (fun z => z.2.1 140 40 = (li x (T.1 140 40, b, G'.1) 8).1 ∧ z.1 = (li x (T.1 140 40, b, G'.1) 8).2.1 ∧ KW z.2 2 G'.1 ∧ Fm mmI mscJ S' z.2) ?_ ?_ 400 0 (b, U) (by omega) (by omega) ⟨u40, rfl, m1, k1, f.tr (f1.mono kp_mm no_j)⟩) ?_
          · rintro n i ⟨d, V⟩ hi ⟨g1, g2, g3, g4, g5⟩ ih2
            have g1' : V.1 140 40 = (li x (T.1 140 40, b, G'.1) i).1 := g1
            have g2' : d = (li x (T.1 140 40, b, G'.1) i).2.1 := g2
            show wp (L_X7_lots_63 (nI m) (nI l) (nI k) (n + 1) d (nI i) V) _
            rw [L_X7_lots_63]
            refine wp_ifp (lt8 hi) ?_
            have e40 : (setI V 140 40 (sd (V.1 140 40))).1 140 40 = sd (V.1 140 40) := setI_s
            have ed : f_X7_draw (255 : Int32) V = some (dr (sd (V.1 140 40)), setI V 140 40 (sd (V.1 140 40))) := by
              show gd (nz (255 : Int32)) (some (irem (((setI V 140 40 (sd (V.1 140 40))).1 140 40 &&& (2147483647 : Int32)) / (256 : Int32)) (255 : Int32), setI V 140 40 (sd (V.1 140 40)))) = _
              rw [e40]
              rfl
            rw [ed]
            refine wp_bds rfl (wp_u2 ?_)
            rw [du_s]
            have fs : Fm (fun o k => o = 140 ∧ k = 40) noJ V (setI V 140 40 (sd (V.1 140 40))) := Fm.setI ⟨rfl, rfl⟩
            have mV : MW (setI V 140 40 (sd (V.1 140 40))) (li x (T.1 140 40, b, G'.1) i).2.2 := MW.fm g3 fs fun o k q z => by have : (142 ≤ o ∧ o ≤ 147) ∨ (o = 140 ∧ 7 ≤ k ∧ k ≤ 10) := q; have : o = 140 ∧ k = 40 := z; omega
            have kV : KW (setI V 140 40 (sd (V.1 140 40))) 2 G'.1 := KW.fm hl g4 fs fun k _ _ z => by have : 154 = 140 ∧ k = 40 := z; omega
            refine wp_bdm (s_asksSum mV (li_good hcw hg i).2 (du (sd (V.1 140 40)))) ?_
            rintro ⟨r, W⟩ ⟨t1, t2, t3⟩
            have t1' : r = ms (li x (T.1 140 40, b, G'.1) i).2.2 (du (sd (V.1 140 40))) := t1
            refine wp_u2 (wp_ltq x hx ?_)
            show wp (L_X7_lots_63 (nI m) (nI l) (nI k) n (d + (if r = x then 1 else 0)) (nI i + 1) W) _
            rw [nIs]
            have w40 : W.1 140 40 = sd (V.1 140 40) := (t2.1 _ _ fun z => by have := ts_o 140 40 z; omega).trans e40
            refine ih2 (_, W) ⟨?_, ?_, ?_, KW.fm hl kV t2 fun k _ _ z => by have := ts_o 154 k z; omega, (Fm.tr g5 (fs.mono (fun o k z => Or.inl (msc_of (by have : o = 140 ∧ k = 40 := z; omega))) no_j)).tr (t2.mono ts_mm lj_m)⟩
            · show W.1 140 40 = sd (li x (T.1 140 40, b, G'.1) i).1; rw [w40, g1']
            · show d + (if r = x then 1 else 0) = (if ms (li x (T.1 140 40, b, G'.1) i).2.2 (du (sd (li x (T.1 140 40, b, G'.1) i).1)) = x then (li x (T.1 140 40, b, G'.1) i).2.1 + 1 else (li x (T.1 140 40, b, G'.1) i).2.1)
              rw [t1', g2', g1']
              by_cases z : ms (li x (T.1 140 40, b, G'.1) i).2.2 (du (sd (li x (T.1 140 40, b, G'.1) i).1)) = x
              · rw [if_pos z, if_pos z]
              · rw [if_neg z, if_neg z]; exact Int32.add_zero _
            · show MW W (nw (li x (T.1 140 40, b, G'.1) i).2.2 (du (sd (li x (T.1 140 40, b, G'.1) i).1)))
              rw [← g1']; exact t3
          · rintro n ⟨d, V⟩ ⟨g1, g2, _, g4, g5⟩
            show wp (L_X7_lots_63 (nI m) (nI l) (nI k) (n + 1) d (nI 8) V) _
            rw [L_X7_lots_63]
            exact wp_ifn (nlt8 (Nat.le_refl _) (by omega)) (wp_some ⟨g1, g2, g4, g5⟩)
          · rintro ⟨d, V⟩ ⟨g1, g2, g4, g5⟩
            refine wp_u2 (wp_bdm (s_forgets g4 hl) fun W ⟨f5, m5, _⟩ => ?_)
            show wp (L_X7_lots_50 (nI m) (nI l) n d (nI k + 1) W) _
            rw [nIs]
            refine ih (d, W) ⟨?_, m5, Fm.tr g5 (f5.mono rs_mm no_j)⟩
            show (W.1 140 40, d) = ((li x ((lu x G'.1 s k).1, (lu x G'.1 s k).2, G'.1) 8).1, (li x ((lu x G'.1 s k).1, (lu x G'.1 s k).2, G'.1) 8).2.1)
            rw [← h1']
            have w40 : W.1 140 40 = V.1 140 40 := f5.1 _ _ (by
              rintro (z | z)
              · have : (142 ≤ 140 ∧ 140 ≤ 147) ∨ (140 = 140 ∧ 7 ≤ 40 ∧ 40 ≤ 10) := z; omega
              · omega)
            exact Prod.ext (w40.trans g1) g2
        · rintro n ⟨b, T⟩ ⟨h1, mT, f⟩
          have h1' : (T.1 140 40, b) = lu x G'.1 s m := h1
          show wp (L_X7_lots_50 (nI m) (nI l) (n + 1) b (nI m) T) _
          rw [L_X7_lots_50]
          exact wp_ifn (nI_nlt (Nat.le_refl _) (by omega)) (wp_some ⟨by rw [← h1'], mT, f⟩)
        · rintro ⟨r, T⟩ ⟨h1, mT, f⟩
          exact wp_u2 (wp_some ⟨h1, mm_fr f, h.back ok f mT⟩)
    · refine mk (fun r G' => r = -2 ∧ G' = bump G 1) ok hM ?_ ?_
      · unfold f_X6_lots
        rw [e]
        exact wp_lt (wp_ifp rfl (wp_ifp e3 (wp_mono (ref6 r2 ok hC) fun z hz => ⟨hz.2.1, _, ⟨hz.1, rfl⟩, hz.2.2⟩)))
      · rintro r S' G' ⟨rfl, rfl⟩ h
        refine ⟨ok, ?_⟩
        unfold f_X7_lots
        rw [eb, e]
        exact wp_lt (wp_ltq (-2) ((if_pos rfl).trans (if_pos (ei.trans e3))) (wp_ifn (by decide) (ref7 r2 ok h)))
