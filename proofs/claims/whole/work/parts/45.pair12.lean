theorem bits_small {x : Int32} {P : Nat → Prop} (h : bitsAre x P) (hP : ∀ i, P i → i < 10) : ∃ v, v < 1024 ∧ x = nI v := by
  refine ⟨x.toBitVec.toNat, ?_, ?_⟩
  · refine Nat.lt_pow_two_of_testBit (n := 10) _ fun i hi => ?_
    by_cases e : i < 32
    · have := h i e
      have h2 : ¬ x.toBitVec.getLsbD i = true := fun q => by have := hP i (this.mp q); omega
      exact Bool.eq_false_iff.mpr h2
    · exact Nat.testBit_lt_two_pow (Nat.lt_of_lt_of_le x.toBitVec.isLt (Nat.pow_le_pow_right (by omega) (by omega)))
  · apply Int32.toBitVec_inj.mp
    show x.toBitVec = BitVec.ofNat 32 x.toBitVec.toNat
    simp
abbrev mmI : Nat → Nat → Prop := fun o k => msc o k ∨ mwI o k
theorem MI.back {S S' : Sg} {G : Gst} (h : MI S G) (ok : GO G) (f : Fm mmI mscJ S S') (hw : MW S' G.1) : MI S' G := h.w ok f (fun _ _ _ n1 n2 q => q.elim n1 n2) hw
theorem mm_fr {S S' : Sg} (f : Fm mmI mscJ S S') : Fr mdl S S' := mfr f (fun o k q => q.elim (fun q => q.1) (mw_m o k)) (fun _ _ q => q)
theorem rs_mm : ∀ o k, rsI o k → mmI o k := fun o k h => by
  rcases h with h | h
  · exact Or.inr h
  · exact Or.inl (msc_of (by omega))
theorem kp_mm : ∀ o k, kpI 304 o k → mmI o k := fun o k h => Or.inl (msc_of (by have : (o = 154 ∧ 304 ≤ k ∧ k < 304 + 152) ∨ (o = 140 ∧ (k = 22 ∨ k = 23)) := h; omega))
theorem jo_mm : ∀ o k, joI o k → mmI o k := fun o k h => Or.inr (by have q' : o = 146 ∨ o = 147 ∨ (o = 140 ∧ k = 8) := h; show (142 ≤ o ∧ o ≤ 147) ∨ (o = 140 ∧ 7 ≤ k ∧ k ≤ 10); omega)
theorem no_j : ∀ o k, noJ o k → mscJ o k := fun _ _ h => h.elim
/-- what one learns from a world -/
def les (w : Wd) (l : Nat) (r : Int32) : Prop := (l = 0 ∧ r = I (wd (narrowed w) (nbest (narrowed w) (num w 0)))) ∨ (l = 1 ∧ r = nI (nbest (narrowed w) (num w 0))) ∨ (l = 2 ∧ ∃ x, bitsAre x (fun v => v < num w 0 ∧ wd (narrowed w) v = 1) ∧ r = bc x)
theorem les_u {w : Wd} {l : Nat} {a b : Int32} (h : les w l a) (h' : les w l b) : a = b := by
  rcases h with ⟨e, rfl⟩ | ⟨e, rfl⟩ | ⟨e, x, hx, rfl⟩ <;> rcases h' with ⟨e', rfl⟩ | ⟨e', rfl⟩ | ⟨e', y, hy, rfl⟩ <;> first | omega | rfl | rw [bits_eq hx hy]
theorem learnC {S : Sg} {w : Wd} {l : Nat} (hl : l < 3) (hw : CW 44 S w) (hk : wok w) (ha : wans w) : wp (bd (f_X0_narrow 132 44 S) fun T => bd (f_X0_narrowest 132 T) fun r => if nI l = 0 then bd (f_X0_widthOf 132 r T) fun x => some (x, T) else if nI l = (1 : Int32) then some (r, T) else bd (f_X0_knownBits 132 T) fun x => some (f_J6_bitCount_0f7a4 x, T)) (fun z => les w l z.1 ∧ nok (dat w 0) (narrowed w) ∧ Fr csc S z.2) := by
  have hv := hk.2.2.1
  refine wp_bdm (s_narrow (o := 132) hw hk ha (by omega)) fun T ⟨f, n, hx⟩ => ?_
  rw [s_narrowest n hv.2 (by omega) hx]
  have hb := nbest_lt (narrowed w) (num w 0) (by omega)
  refine wp_bds rfl ?_
  have : l = 0 ∨ l = 1 ∨ l = 2 := by omega
  rcases this with rfl | rfl | rfl
  · rw [s_widthOf n hv.2 hb]
    exact wp_ifp rfl (wp_bds rfl (wp_some ⟨Or.inl ⟨rfl, rfl⟩, hx, f.mono na_c⟩))
  · exact wp_ifn (by decide) (wp_ifp rfl (wp_some ⟨Or.inr (Or.inl ⟨rfl, rfl⟩), hx, f.mono na_c⟩))
  · exact wp_ifn (by decide) (wp_ifn (by decide) (wp_bdm (s_knownBits n hv.2 hx) fun x hx' => wp_some ⟨Or.inr (Or.inr ⟨rfl, x, hx', rfl⟩), hx, f.mono na_c⟩))
theorem learnM {S : Sg} {w w0 : Wd} {l : Nat} (hl : l < 3) (hw : MW S w) (hk : wok w) (ha : wans w) (hx : nok (dat w 0) (narrowed w)) (hl0 : (gh w0).length ≤ 10) (hK : KW S 2 w0) : wp (bd (f_X7_narrows S) fun S_5 => bd (f_X7_narrowest S_5) fun r_2 => if nI l = 0 then bd (f_X7_width r_2 S_5) fun r_5 => bd (f_X7_forgets S_5) fun S_8 => some (r_5, S_8) else if nI l = (1 : Int32) then bd (f_X7_forgets S_5) fun S_7 => some (r_2, S_7) else bd (f_X7_knownNow S_5) fun r_3 => bd (f_X7_bits r_3) fun r_4 => bd (f_X7_forgets S_5) fun S_6 => some (r_4, S_6)) (fun z => les w l z.1 ∧ Fm mmI mscJ S z.2 ∧ MW z.2 w0) := by
  have hv := hk.2.2.1
  refine wp_bdm (s_narrows hw hk ha) fun T ⟨f, n⟩ => ?_
  have mT : MW T w := hw.fm f (fun o k q z => (nm_m o k z).2.1 q)
  have kT : KW T 2 w0 := hK.fm hl0 f fun k _ _ q => by have : 154 = 161 ∨ 154 = 162 := q; omega
  have fT : Fm mmI mscJ S T := f.mono (fun o k q => Or.inl (nm_m o k q)) no_j
  rw [s_narrowestM mT n hv.2 (by omega) hx]
  have hb := nbest_lt (narrowed w) (num w 0) (by omega)
  have fg : ∀ r : Int32, les w l r → wp (bd (f_X7_forgets T) fun S_8 => some (r, S_8)) (fun z => les w l z.1 ∧ Fm mmI mscJ S z.2 ∧ MW z.2 w0) := fun r hr => wp_bdm (s_forgets kT hl0) fun U ⟨g, m, _⟩ => wp_some ⟨hr, fT.tr (g.mono rs_mm no_j), m⟩
  refine wp_bds rfl ?_
  have : l = 0 ∨ l = 1 ∨ l = 2 := by omega
  rcases this with rfl | rfl | rfl
  · rw [s_widthM n (by omega)]
    exact wp_ifp rfl (wp_bds rfl (fg _ (Or.inl ⟨rfl, rfl⟩)))
  · exact wp_ifn (by decide) (wp_ifp rfl (fg _ (Or.inr (Or.inl ⟨rfl, rfl⟩))))
  · refine wp_ifn (by decide) (wp_ifn (by decide) (wp_bdm (s_knownNow mT n hv.2 hx) fun x hx' => ?_))
    obtain ⟨v, hv', ev⟩ := bits_small hx' (fun i q => by omega)
    rw [show f_X7_bits x = some (bc x) by rw [ev]; exact (bits_bc v hv').1]
    exact wp_bds rfl (fg _ (Or.inr (Or.inr ⟨rfl, x, hx', rfl⟩)))
theorem p_learns {S : Sg} {G : Gst} (ok : GO G) (hC : CI S G) (hM : MI S G) (k a b p : Int32) : Same (f_X6_learns k a b p S) (f_X7_learns k a b p) := by
  have hg := ok.1
  have hk := hg.1
  have hl := wg_l10 hg
  have hs := wok_sm hk hg.2.1
  have ho : ∀ k, k < 8 → own G.1 k < 10 := fun k hk' => own10 hk hk'
  have ei : f_X7_isIn p 0 (2 : Int32) = f_X6_isWithin p (3 : Int32) := isIn_w p (n := 3) (by decide)
  rcases mq_cases k a b with ⟨j, hj⟩ | ⟨hq, e⟩
  · unfold f_X6_learns
    generalize e : f_X2_misfitOf k a b = v at hj
    show Same (if v = 0 then _ else bd (f_X6_refuse v S) (u2 fun r T => some (r, T))) _
    rw [if_neg hj.ne]
    exact refS hj ok hC hM fun S' h => by
      unfold f_X7_learns
      rw [mq, e]
      show (if (if v = 0 then _ else v) = 0 then _ else bd (f_X7_no (if v = 0 then _ else v) S') (u2 fun r T => some (r, T))) = _
      rw [if_neg hj.ne, if_neg hj.ne]
  · rcases isW_cases p (n := 3) (by decide) with ⟨l, hl3, rfl, e3⟩ | ⟨ne, e3⟩
    · have e3' : ¬ f_X6_isWithin (nI l) (3 : Int32) = 0 := by rw [show f_X6_isWithin (nI l) (3 : Int32) = 1 from e3]; decide
      refine mk (fun r G' => G' = G ∧ ∃ w', ((zer (gh G.1) (qrow G.1 (wq k a b)) ∧ w' = G.1) ∨ (¬ zer (gh G.1) (qrow G.1 (wq k a b)) ∧ ∃ q, w' = wjoin G.1 q (qrow G.1 (wq k a b)) (tans G.1 (wq k a b)))) ∧ wok w' ∧ wans w' ∧ nok (dat w' 0) (narrowed w') ∧ les w' l r) ok hM ?_ ?_
      · unfold f_X6_learns
        rw [e]
        refine wp_lt (wp_ifp rfl (wp_ifn e3' (wp_bdm (s_wcopy (o := 44) hC.1 hl (by omega)) fun S1 ⟨f1, c1⟩ => ?_)))
        refine wp_bdm (s_make (oq := 130) (a := a) hq) fun S2 ⟨f2, q2⟩ => ?_
        have c2 : CW 44 S2 G.1 := c1.fr f2 (fun p hp => by have : 44 ≤ p ∧ p < 44 + 29 := hp; show ¬ (p = 130 + 1); omega) hl
        refine wp_bdm (s_wjoin c2 ho hs q2 (wq_ok hq) (by omega)) fun S3 ⟨f3, h3⟩ => ?_
        have f : Fr csc S S3 := ((f1.mono fun p hp => by have : 44 ≤ p ∧ p < 44 + 29 := hp; show _ ∨ _; omega).tr (f2.mono fun p hp => by have : p = 130 + 1 := hp; show _ ∨ _; omega)).tr (f3.mono fun p hp => by have : 44 ≤ p ∧ p < 44 + 43 := hp; show _ ∨ _; omega)
        rcases h3 with ⟨hz, c3⟩ | ⟨q, gk, c3⟩
        · refine wp_mono (learnC hl3 c3 hk hg.2.2) fun z hz' => ⟨(f.tr hz'.2.2).mono csc_c, G, ⟨rfl, G.1, Or.inl ⟨hz, rfl⟩, hk, hg.2.2, hz'.2.1, hz'.1⟩, hC.sc ok (f.tr hz'.2.2)⟩
        · have wj := wj_ok hk hg.2.2 (wq_ok hq) gk
          refine wp_mono (learnC hl3 c3 wj.1 wj.2) fun z hz' => ⟨(f.tr hz'.2.2).mono csc_c, G, ⟨rfl, _, Or.inr ⟨fun u => gk.2.2.1 (u q gk.2.1), q, rfl⟩, wj.1, wj.2, hz'.2.1, hz'.1⟩, hC.sc ok (f.tr hz'.2.2)⟩
      · rintro r S' G' ⟨eG, w', hw', hk', ha', hx', hr⟩ h
        subst eG
        unfold f_X7_learns
        rw [mq, e]
        refine ⟨ok, wp_lt (wp_ltq 0 ((if_pos rfl).trans (if_neg (by rw [ei]; exact e3'))) (wp_ifp rfl (wp_bdm (s_minds h.1 hl) fun S1 ⟨f1, m1, k1⟩ => ?_)))⟩
        refine wp_bdm (s_asks (a := a) m1 ho hq) fun S2 ⟨f2, a2⟩ => ?_
        have m2 := m1.fm f2 (fun o k q n => (as_m o k n).2.1 q)
        have k2 : KW S2 2 G'.1 := k1.fm hl f2 fun k _ _ q => by have : 154 = 148 ∨ (154 = 140 ∧ k = 12) := q; omega
        refine wp_bdm (s_meetsNow m2 hk hg.2.1 a2 (wq_ok hq)) ?_
        rintro ⟨m, S3⟩ ⟨hm, f3⟩
        have m3 := m2.fm f3 (fun o k q n => (ls_m o k n).2.1 q)
        have k3 : KW S3 2 G'.1 := k2.fm hl f3 fun k _ _ q => by have : 154 = 152 ∨ 154 = 153 ∨ (154 = 140 ∧ (k = 18 ∨ k = 19)) := q; omega
        have f : Fm mmI mscJ S' S3 := ((f1.mono kp_mm no_j).tr (f2.mono (fun o k q => Or.inl (as_m o k q)) fun _ _ q => q.elim)).tr (f3.mono (fun o k q => Or.inl (ls_m o k q)) lj_m)
        refine wp_u2 (wp_lt (wp_if (fun h0 => ?_) (fun h0 => ?_)))
        · have h0' : m = 0 := h0
          subst h0'
          have hz : zer (gh G'.1) (qrow G'.1 (wq k a b)) := by
            rcases hm with u | u | u
            · exact u.2
            · exact absurd (show (0 : Int32) = 2 from u.1) (by decide)
            · exact absurd (show (0 : Int32) = 1 from u.1) (by decide)
          have ew : w' = G'.1 := by
            rcases hw' with u | u
            · exact u.2
            · exact absurd hz u.1
          subst ew
          exact wp_mono (learnM hl3 m3 hk' ha' hx' hl k3) fun y hy => ⟨les_u hy.1 hr, mm_fr (f.tr hy.2.1), h.back ok (f.tr hy.2.1) hy.2.2⟩
        · have hz : ¬ zer (gh G'.1) (qrow G'.1 (wq k a b)) := by
            rcases hm with u | u | u
            · exact absurd u.1 h0
            · exact u.2.1
            · exact u.2.1
          have a3 : ∀ k', k' < 10 → S3.1 148 k' = I (qrow G'.1 (wq k a b) k') := fun k' hk' => by
            rw [f3.1 148 k' (fun q => by have : 148 = 152 ∨ 148 = 153 ∨ (148 = 140 ∧ (k' = 18 ∨ k' = 19)) := q; omega)]
            exact a2.1 k' hk'
          obtain ⟨q, ew⟩ : ∃ q, w' = wjoin G'.1 q (qrow G'.1 (wq k a b)) (tans G'.1 (wq k a b)) := by
            rcases hw' with u | u
            · exact absurd u.1 hz
            · exact u.2
          subst ew
          refine wp_bdm (s_joins m3 hk (wg_len hg) a3 q) fun S4 ⟨f4, m4⟩ => ?_
          have k4 : KW S4 2 G'.1 := k3.fm hl f4 fun k _ _ q => by have : 154 = 146 ∨ 154 = 147 ∨ (154 = 140 ∧ k = 8) := q; omega
          have f5 := f.tr (f4.mono jo_mm fun _ _ q => q.elim)
          exact wp_mono (learnM hl3 m4 hk' ha' hx' hl k4) fun y hy => ⟨les_u hy.1 hr, mm_fr (f5.tr hy.2.1), h.back ok (f5.tr hy.2.1) hy.2.2⟩
    · refine mk (fun r G' => r = -2 ∧ G' = bump G 1) ok hM ?_ ?_
      · unfold f_X6_learns
        rw [e]
        exact wp_lt (wp_ifp rfl (wp_ifp e3 (wp_mono (ref6 r2 ok hC) fun z hz => ⟨hz.2.1, _, ⟨hz.1, rfl⟩, hz.2.2⟩)))
      · rintro r S' G' ⟨rfl, rfl⟩ h
        refine ⟨ok, ?_⟩
        unfold f_X7_learns
        rw [mq, e]
        exact wp_lt (wp_ltq (-2) ((if_pos rfl).trans (if_pos (ei.trans e3))) (wp_ifn (by decide) (ref7 r2 ok h)))
