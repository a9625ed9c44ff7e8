/-- what stays while the statements are looked at -/
def KS (T : Sg) (L : Nat × (Nat → Nat)) (m : Nat) (w0 : Wd) : Prop := (∀ i, i < m → Kp T L i (pos L.2 i)) ∧ T.1 140 30 = nI m ∧ KW T 1 w0
theorem KS.fm {S T : Sg} {L : Nat × (Nat → Nat)} {m : Nat} {w0 : Wd} (h : KS S L m w0) (hl : (gh w0).length ≤ 10) (hL : L.1 ≤ 96 ∧ ∀ k, k < L.1 → L.2 k ≤ 255) (ht : Tx L m) (f : Fm cmI lsJ S T) : KS T L m w0 := by
  refine ⟨fun i hi => (h.1 i hi).fm ?_ f (by show ¬ (_ ∨ _); omega) (by show ¬ (_ ∨ _); omega) (fun k hk => by show ¬ (_ ∨ _); omega), (f.1 140 30 (by show ¬ (_ ∨ _); omega)).trans h.2.1, h.2.2.fm hl f fun k _ _ => by show ¬ (_ ∨ _); omega⟩
  have := ht.2.2 i hi
  have := hL.2 (pos L.2 i) (by have := this.1; omega)
  omega
/-- what the reference makes of the text -/
theorem m_perf {S : Sg} {L : Nat × (Nat → Nat)} {w0 : Wd} {m j : Nat} {ws : Nat → Wd} (hg : wgood w0) (hw : MW S w0) (hL : L.1 ≤ 96 ∧ ∀ k, k < L.1 → L.2 k ≤ 255) (ht : Tx L m) (hK : KS S L m w0) (hj : j ≤ m) (hc : Ch L.2 w0 j ws) (hz : j < m → Out L.2 (pos L.2 j) (ws j) none) : wp (L_X7_guard_86 400 0 S) (fun y => (j = m ∧ ∃ T, y = .inr T ∧ MW T (ws m) ∧ T.1 140 30 = nI m ∧ Fm (fun o k => cmI o k ∨ rsI o k) lsJ S T) ∨ (j < m ∧ ∃ T, y = .inl ((-2000 : Int32) - nI (pos L.2 j), T) ∧ MW T w0 ∧ Fm (fun o k => cmI o k ∨ rsI o k) lsJ S T)) := by
  have hm := ht.2.1
  have hl := wg_l10 hg
  have big : ∀ T, Fm cmI lsJ S T → Fm (fun o k => cmI o k ∨ rsI o k) lsJ S T := fun T f => f.mono (fun _ _ q => Or.inl q) fun _ _ q => q
  refine up (F := fun n k (T : Sg) => L_X7_guard_86 n (nI k) T) j (fun k T => MW T (ws k) ∧ KS T L m w0 ∧ Fm cmI lsJ S T) _ ?_ ?_ 400 0 S (by omega) (by omega) ⟨by rw [hc.1]; exact hw, hK, Fm.rf⟩
  · rintro n k T hk ⟨h1, h2, f⟩ ih
    show wp (L_X7_guard_86 (n + 1) (nI k) T) _
    rw [L_X7_guard_86, h2.2.1]
    refine wp_ifp (nI_lt (by omega) (by omega)) (wp_bdm (m_one (hc.good hg ht hj k (by omega)) h1 hL (ht.2.2 k (by omega)) (h2.1 k (by omega)) (by omega) (hc.2 k hk)) ?_)
    rintro ⟨r, U⟩ ⟨g1, g2, g3⟩
    have e : r = 1 := g1
    subst e
    refine wp_u2 (wp_ifn (by decide) (wp_lt ?_))
    rw [nIs]
    exact ih U ⟨g2 _ rfl, h2.fm hl hL ht g3, f.tr g3⟩
  · rintro n T ⟨h1, h2, f⟩
    show wp (L_X7_guard_86 (n + 1) (nI j) T) _
    rw [L_X7_guard_86, h2.2.1]
    by_cases q : j = m
    · subst q
      exact wp_ifn (nI_nlt (Nat.le_refl _) (by omega)) (wp_some (Or.inl ⟨rfl, T, rfl, h1, h2.2.1, big T f⟩))
    · have q' : j < m := by omega
      refine wp_ifp (nI_lt q' (by omega)) (wp_bdm (m_one (hc.good hg ht hj j (Nat.le_refl _)) h1 hL (ht.2.2 j q') (h2.1 j q') (by omega) (hz q')) ?_)
      rintro ⟨r, U⟩ ⟨g1, g2, g3⟩
      have e : r = 0 := g1
      subst e
      have hU := h2.fm hl hL ht g3
      refine wp_u2 (wp_ifp rfl (wp_bdm (s_backW (q := 1) (by omega) hU.2.2 hl) fun V ⟨f2, w2, _⟩ => wp_gd (inb_n (by omega) (by decide)) ?_))
      have e157 : V.1 157 (ix (nI j)) = nI (pos L.2 j) := by
        rw [ix_n (by omega), f2.1 157 j (by
          rintro (z | z)
          · have : (142 ≤ 157 ∧ 157 ≤ 147) ∨ (157 = 140 ∧ 7 ≤ j ∧ j ≤ 10) := z; omega
          · omega)]
        exact (hU.1 j q').2.1
      rw [e157]
      exact wp_some (Or.inr ⟨q', V, rfl, w2, ((f.tr g3).mono (fun _ _ q => Or.inl q) fun _ _ q => q).tr (f2.mono (fun _ _ q => Or.inr q) fun _ _ q => q.elim)⟩)
/-- the letters are forgotten -/
def fg (G : Gst) (w : Wd) : Gst := (w, G.2.1, (0, G.2.2.1.2), G.2.2.2)
theorem fg_ok {G : Gst} {w : Wd} (h : GO G) (hw : wgood w) : GO (fg G w) := ⟨hw, h.2.1, ⟨Nat.zero_le _, fun k hk => absurd hk (Nat.not_lt_zero k)⟩, h.2.2.2⟩
/-- how the two answer -/
def GR (G : Gst) (r : Int32) (G' : Gst) : Prop := ((∃ k, k ≤ 96 ∧ isMis G.2.2.1 (nI k) ∧ r = (-1000 : Int32) - nI k) ∧ G' = fg G G.1) ∨ ∃ m j ws, m ≠ 0 ∧ Tx G.2.2.1 m ∧ isMis G.2.2.1 (-9) ∧ j ≤ m ∧ Ch G.2.2.1.2 G.1 j ws ∧ ((j = m ∧ r = nI m ∧ G' = fg G (ws m)) ∨ (j < m ∧ Out G.2.2.1.2 (pos G.2.2.1.2 j) (ws j) none ∧ r = (-2000 : Int32) - nI (pos G.2.2.1.2 j) ∧ G' = fg G G.1))
theorem neg1000 : ∀ k, k ≤ 96 → ((-1000 : Int32) - nI k) < 0 := by decide +kernel
theorem neg2000 : ∀ k, k ≤ 96 → ((-2000 : Int32) - nI k) < 0 := by decide +kernel
theorem nn96 : ∀ k, k ≤ 96 → ¬ nI k < (0 : Int32) := by decide +kernel
theorem guard6 {S : Sg} {G : Gst} (ok : GO G) (hC : CI S G) : wp (f_X6_guard S) (fun z => Fr cls S z.2 ∧ ∃ G', GR G z.1 G' ∧ CI z.2 G') := by
  have hg := ok.1
  have hl := wg_l10 hg
  have hL := ok.2.2.1
  have hn := hL.1
  have hc0 : LC S G.2.2.1 := hC.2.2.1
  unfold f_X6_guard
  refine wp_bdm (s_wcopy (o := 44) (o1 := 1) hC.1 hl (by omega)) fun S1 ⟨f1, c1⟩ => ?_
  have fd : Fr dfr S S1 := f1.mono fun p hp => by have : 44 ≤ p ∧ p < 44 + 29 := hp; show _ ∨ _; omega
  have hc1 : LC S1 G.2.2.1 := hc0.fr fd (by show ¬ (_ ∨ _); omega) (by show ¬ (_ ∨ _); omega)
  have fin0 : ∀ T, Fr dfr S T → Fr cls S (setI T 135 0 0) ∧ CI (setI T 135 0 0) (fg G G.1) := fun T f => by
    refine ⟨(f.mono fun p hp => by have : (44 ≤ p ∧ p < 87) ∨ p = 131 := hp; show p < 140; omega).tr (Fr.setI (by show 135 < 140; decide)), ?_⟩
    have hT : CI T G := hC.sc ok (f.mono fun p hp => by have : (44 ≤ p ∧ p < 87) ∨ p = 131 := hp; show _ ∨ _; omega)
    exact hT.L ok (L := (0, G.2.2.1.2)) (Fr.setI (Or.inl rfl)) ⟨setI_s, fun k hk => absurd hk (Nat.not_lt_zero k)⟩
  unfold f_X3_perform
  rcases text_cases G.2.2.1 hL with ⟨m, m0, ht, h9⟩ | ⟨k, hk, hmis⟩
  · refine wp_bdm (P := fun z => ∃ j ws, j ≤ m ∧ Ch G.2.2.1.2 G.1 j ws ∧ Fr dfr S z.2 ∧ ((j = m ∧ z.1 = nI m ∧ CW 44 z.2 (ws m)) ∨ (j < m ∧ Out G.2.2.1.2 (pos G.2.2.1.2 j) (ws j) none ∧ z.1 = (-2000 : Int32) - nI (pos G.2.2.1.2 j)))) ?_ ?_
    · refine wp_bdm (s_misfit hc1 hL) fun r hr => ?_
      have e : r = -9 := isMis_u hn hr h9
      subst e
      refine wp_ifp (by decide) (wp_bsm (c_perf hg c1 hc1 hL ht) ?_ ?_)
      · rintro z (⟨ws, T, e, _⟩ | ⟨j, ws, T, hj, e, h1, h2, f⟩)
        · cases e
        · have e' := Sum.inl.inj e; subst e'; exact wp_some ⟨j, ws, by omega, h1, fd.tr f, Or.inr ⟨hj, h2, rfl⟩⟩
      · rintro ⟨v, T⟩ (⟨ws, T, e, h1, h2, f⟩ | ⟨j, ws, T, hj, e, _⟩)
        · cases e; exact wp_u2 (wp_some ⟨m, ws, Nat.le_refl _, h1, fd.tr f, Or.inl ⟨rfl, rfl, h2⟩⟩)
        · cases e
    · rintro ⟨r, T⟩ ⟨j, ws, hj, h1, f, hd⟩
      have hT := fin0 T f
      refine wp_u2 (wp_bds rfl ?_)
      rcases hd with ⟨e, e2, cT⟩ | ⟨e, ho, e2⟩
      · have e2' : r = nI m := e2
        subst e2'
        have cw : CW 44 (setI T 135 0 0) (ws m) := CW.fr cT (Fr.setI (A := fun p => p = 135) rfl) (fun p hp => by have : 44 ≤ p ∧ p < 44 + 29 := hp; show ¬ (p = 135); omega) (wg_l10 (h1.good hg ht hj m (by omega)))
        refine wp_ifn (nn96 m (by have := ht.2.1; omega)) (wp_bdm (s_wcopy (o := 1) (o1 := 44) cw (wg_l10 (h1.good hg ht hj m (by omega))) (by omega)) fun U ⟨f2, c2⟩ => wp_some ⟨hT.1.tr (f2.mono fun p hp => by have : 1 ≤ p ∧ p < 1 + 29 := hp; show p < 140; omega), _, Or.inr ⟨m, j, ws, m0, ht, h9, hj, h1, Or.inl ⟨e, rfl, rfl⟩⟩, ?_⟩)
        exact hT.2.w (fg_ok ok hg) (fw f2 iw1) c2
      · have e2' : r = (-2000 : Int32) - nI (pos G.2.2.1.2 j) := e2
        subst e2'
        have hp : pos G.2.2.1.2 j ≤ 96 := by have := (ht.2.2 j e).1; omega
        exact wp_ifp (neg2000 _ hp) (wp_some ⟨hT.1, _, Or.inr ⟨m, j, ws, m0, ht, h9, hj, h1, Or.inr ⟨e, ho, rfl, rfl⟩⟩, hT.2⟩)
  · refine wp_bdm (P := fun z => z = ((-1000 : Int32) - nI k, S1)) ?_ ?_
    · refine wp_bdm (s_misfit hc1 hL) fun r hr => ?_
      have e : r = nI k := isMis_u hn hr hmis
      subst e
      exact wp_ifn (nn96 k hk) (wp_some rfl)
    · rintro z rfl
      have hT := fin0 S1 fd
      exact wp_u2 (wp_bds rfl (wp_ifp (neg1000 k hk) (wp_some ⟨hT.1, _, Or.inl ⟨⟨k, hk, hmis, rfl⟩, rfl⟩, hT.2⟩)))
theorem gd_m : ∀ o k, gdI o k → msc o k := fun o k h => msc_of (by
  have : o = 156 ∨ o = 157 ∨ o = 158 ∨ (o = 140 ∧ (k = 29 ∨ k = 30 ∨ k = 31)) := h
  omega)
theorem cr_w : ∀ o k, 140 ≤ o → ¬ msc o k → ¬ mwI o k → ¬ ((cmI o k ∨ rsI o k) ∨ kpI 152 o k) := fun o k _ n1 n2 q => by
  have n2' : ¬ ((142 ≤ o ∧ o ≤ 147) ∨ (o = 140 ∧ 7 ≤ k ∧ k ≤ 10)) := n2
  have n1' := fun h => n1 (msc_of h)
  rcases q with (q | q) | q
  · have : (142 ≤ o ∧ o ≤ 153) ∨ (o = 140 ∧ (k = 7 ∨ k = 8 ∨ k = 9 ∨ k = 10 ∨ k = 12 ∨ k = 18 ∨ k = 19)) := q
    omega
  · have : ((142 ≤ o ∧ o ≤ 147) ∨ (o = 140 ∧ 7 ≤ k ∧ k ≤ 10)) ∨ (o = 140 ∧ (k = 22 ∨ k = 23)) := q
    omega
  · have : (o = 154 ∧ 152 ≤ k ∧ k < 152 + 152) ∨ (o = 140 ∧ (k = 22 ∨ k = 23)) := q
    omega
theorem cr_m : ∀ o k, ((cmI o k ∨ rsI o k) ∨ kpI 152 o k) → 140 ≤ o := fun o k q => by
  rcases q with (q | q) | q
  · have : (142 ≤ o ∧ o ≤ 153) ∨ (o = 140 ∧ (k = 7 ∨ k = 8 ∨ k = 9 ∨ k = 10 ∨ k = 12 ∨ k = 18 ∨ k = 19)) := q
    omega
  · have : ((142 ≤ o ∧ o ≤ 147) ∨ (o = 140 ∧ 7 ≤ k ∧ k ≤ 10)) ∨ (o = 140 ∧ (k = 22 ∨ k = 23)) := q
    omega
  · have : (o = 154 ∧ 152 ≤ k ∧ k < 152 + 152) ∨ (o = 140 ∧ (k = 22 ∨ k = 23)) := q
    omega
theorem pos_lt {l : Nat → Nat} {a b : Nat} (h : a < b) : pos l a < pos l b := by
  induction b with
  | zero => omega
  | succ b ih =>
    have e : pos l (b + 1) = pos l b + dgb (l (pos l b)) + 2 := rfl
    by_cases q : a = b
    · rw [e, q]; omega
    · have := ih (by omega); omega
theorem pos_inj {l : Nat → Nat} {a b : Nat} (h : pos l a = pos l b) : a = b := by
  rcases Nat.lt_trichotomy a b with q | q | q
  · have := pos_lt (l := l) q; omega
  · exact q
  · have := pos_lt (l := l) q; omega
theorem Rs.mis {S : Sg} {L : Nat × (Nat → Nat)} {m : Nat} (h : Rs S L m) (hm : m ≠ 0) (he : pos L.2 m = L.1) : isMis L (-9) := Or.inr ⟨(0, false), by rw [← he]; exact h.2.2.2.1, Or.inr (Or.inr ⟨rfl, by have := h.2.2.1; omega, rfl⟩)⟩
theorem mis_no {L : Nat × (Nat → Nat)} {k : Nat} (hn : L.1 ≤ 96) (hk : k ≤ 96) (h : isMis L (nI k)) (h9 : isMis L (-9)) : False := by
  have := isMis_u hn h h9
  exact nn96 k hk (by rw [this]; decide)
theorem guard7 {S : Sg} {G G' : Gst} {r : Int32} (ok : GO G) (hM : MI S G) (hR : GR G r G') : GO G' ∧ wp (f_X7_guard S) (fun y => y.1 = r ∧ Fr mdl S y.2 ∧ MI y.2 G') := by
  have hg := ok.1
  have hl := wg_l10 hg
  have hL := ok.2.2.1
  have hn := hL.1
  have hml := hM.2.2.1
  have lm : LM (setI (setI S 140 29 0) 140 30 0) G.2.2.1 0 := ⟨by rw [setI_n (by omega), setI_n (by omega)]; exact hml.1, fun k hk => by rw [setI_n (by omega), setI_n (by omega)]; exact hml.2 k hk, by rw [setI_n (by omega), setI_s]; rfl⟩
  have f0 : Fm gdI noJ S (setI (setI S 140 29 0) 140 30 0) := (Fm.setI (AI := gdI) (Or.inr (Or.inr (Or.inr ⟨rfl, by omega⟩)))).tr (Fm.setI (Or.inr (Or.inr (Or.inr ⟨rfl, by omega⟩))))
  have forget : ∀ T, Fm gdI noJ S T → Fr mdl S (setI T 140 28 0) ∧ MI (setI T 140 28 0) (fg G G.1) := fun T f => by
    refine ⟨(mfr f (fun o k q => (gd_m o k q).1) (fun _ _ q => q.elim)).tr (Fr.setI (by show 140 ≤ 140; decide)), ?_⟩
    have hT : MI T G := hM.fm ok f fun o k _ n q => n (gd_m o k q)
    exact hT.L ok (L := (0, G.2.2.1.2)) (Fm.setI (Or.inr ⟨rfl, rfl⟩)) ⟨setI_s, fun k hk => absurd hk (Nat.not_lt_zero k)⟩
  have rd := s_guardReads lm hL setI_s
  unfold f_X7_guard
  rcases hR with ⟨⟨k, hk, hmis, rfl⟩, rfl⟩ | ⟨m, j, ws, m0, ht, h9, hj, hch, hd⟩
  · refine ⟨fg_ok ok hg, wp_lt (wp_lt (wp_bdm rd ?_))⟩
    rintro ⟨v, T⟩ ⟨f, ⟨e, m, hm, he, hr⟩ | ⟨e, k', e1, hk', hmis'⟩⟩
    · exact (mis_no hn hk hmis (hr.mis hm he)).elim
    · have e' : v = 0 := e
      subst e'
      obtain ⟨a1, a2⟩ := forget T (f0.tr f)
      have e29 : (setI T 140 28 0).1 140 29 = nI k := by rw [setI_n (by omega)]; exact e1.trans (isMis_u hn hmis' hmis)
      refine wp_u2 (wp_lt (wp_ifp rfl ?_))
      rw [e29]
      exact wp_some ⟨rfl, a1, a2⟩
  · have gw : ∀ i, i ≤ j → wgood (ws i) := hch.good hg ht hj
    have hGo : GO G' := by
      rcases hd with ⟨e, _, rfl⟩ | ⟨_, _, _, rfl⟩
      · exact fg_ok ok (gw m (by omega))
      · exact fg_ok ok hg
    refine ⟨hGo, wp_lt (wp_lt (wp_bdm rd ?_))⟩
    rintro ⟨v, T⟩ ⟨f, ⟨e, m', hm, he, hr⟩ | ⟨e, k', e1, hk', hmis'⟩⟩
    · have e' : v = 1 := e
      have em : m' = m := pos_inj (he.trans ht.1.symm)
      subst e' em
      obtain ⟨a1, a2⟩ := forget T (f0.tr f)
      refine wp_u2 (wp_lt (wp_ifn (by decide) (wp_bdm (s_keepW (q := 1) (by omega) a2.1 hl) fun S5 ⟨f5, w5, k5⟩ => ?_)))
      have k1 : KS S5 G.2.2.1 m' G.1 := by
        refine ⟨fun i hi => ?_, ?_, k5⟩
        · have hb : G.2.2.1.2 (pos G.2.2.1.2 i) < 256 := by
            have := (ht.2.2 i hi).1
            have := hL.2 (pos G.2.2.1.2 i) (by omega)
            omega
          have fs : Fm (fun o k => o = 140 ∧ k = 28) noJ T (setI T 140 28 0) := Fm.setI ⟨rfl, rfl⟩
          exact (((hr.2.2.2.2.2 i hi).1).fm hb fs (by omega) (by omega) (fun k hk => by omega)).fm hb f5 (by omega) (by omega) (fun k hk => by omega)
        · rw [f5.1 140 30 (by omega), setI_n (by omega)]
          exact hr.2.2.2.2.1
      refine wp_bsm (m_perf hg w5 hL ht k1 hj hch (fun q => ?_)) ?_ ?_
      · rcases hd with ⟨e, _⟩ | ⟨_, h, _⟩
        · omega
        · exact h
      · rintro z (⟨e, U, e2, _⟩ | ⟨e, U, e2, wU, fU⟩)
        · cases e2
        · have e5 := Sum.inl.inj e2
          subst e5
          have ff : Fm (fun o k => (cmI o k ∨ rsI o k) ∨ kpI 152 o k) lsJ (setI T 140 28 0) U := (f5.mono (fun o k q => Or.inr q) fun _ _ q => q.elim).tr (fU.mono (fun _ _ q => Or.inl q) fun _ _ q => q)
          rcases hd with ⟨e3, _⟩ | ⟨_, _, rfl, rfl⟩
          · omega
          · exact wp_some ⟨rfl, a1.tr (mfr ff cr_m lj_m), a2.w (fg_ok ok hg) ff cr_w wU⟩
      · rintro z (⟨e, U, e2, wU, e30, fU⟩ | ⟨e, U, e2, _⟩)
        · have e5 := (Sum.inr.inj e2).symm
          subst e5
          have ff : Fm (fun o k => (cmI o k ∨ rsI o k) ∨ kpI 152 o k) lsJ (setI T 140 28 0) U := (f5.mono (fun o k q => Or.inr q) fun _ _ q => q.elim).tr (fU.mono (fun _ _ q => Or.inl q) fun _ _ q => q)
          rcases hd with ⟨_, rfl, rfl⟩ | ⟨e3, _⟩
          · exact wp_some ⟨e30, a1.tr (mfr ff cr_m lj_m), a2.w (fg_ok ok hg) ff cr_w wU⟩
          · omega
        · cases e2
    · exact (mis_no hn hk' hmis' h9).elim
theorem p_guard {S : Sg} {G : Gst} (ok : GO G) (hC : CI S G) (hM : MI S G) : Same (f_X6_guard S) f_X7_guard :=
  mk (GR G) ok hM (guard6 ok hC) fun _ _ _ hR h => guard7 ok h hR
