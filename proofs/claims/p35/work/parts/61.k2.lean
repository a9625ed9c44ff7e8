theorem k_var0 {S : Sg} {w : Wd} {kp : Option Wd} (h : KI S w kp) (p : Int32) : wp (f_X6_variable p (0 : Int32) S) (fun z => KI z.2 w kp ∧ ∀ j, j < num w 0 → p = nI j → z.1 = I (dat w 0 j)) := by
  have hk := h.1.1
  have hv := hk.2.2.1
  have e6 : f_X5_has 1 p S = f_X6_isWithin p (nI (num w 0)) := has_w h.2.1 hv.2 p
  unfold f_X6_variable
  rcases isW_cases p (n := num w 0) (by omega) with ⟨j, hj, rfl, e⟩ | ⟨ne, e⟩
  · have a6 : ¬ f_X5_has 1 (nI j) S = 0 := by rw [e6, e]; decide
    refine wp_ifn a6 (wp_ifn (by decide) (wp_ifp rfl ?_))
    rw [s_valueOf h.2.1 hv.2 hj]
    refine wp_bds rfl (wp_some ⟨h, fun i hi q => ?_⟩)
    rw [(nI_eq (by omega) (by omega)).mp q]
  · refine wp_ifp (by rw [e6, e]) (wp_mono (k_refe r1 h) fun z hz => ⟨hz.2, fun j hj q => absurd q (ne j hj)⟩)
theorem na_s {S T : Sg} (f : Fr (fun p => p = 132 ∨ p = 132 + 1 ∨ p = 132 + 2) S T) : Fr spo S T := f.mono fun o q => by
  have : o = 132 ∨ o = 132 + 1 ∨ o = 132 + 2 := q
  show _ ∨ _; omega
theorem k_var3 {S : Sg} {w : Wd} {kp : Option Wd} (h : KI S w kp) {j : Nat} (hj : j < num w 0) : wp (f_X6_variable (nI j) (3 : Int32) S) (fun z => z.1 = I ((narrowed w).1 j) ∧ nok (dat w 0) (narrowed w) ∧ KI z.2 w kp) := by
  have hk := h.1.1
  have hv := hk.2.2.1
  have e6 : f_X5_has 1 (nI j) S = f_X6_isWithin (nI j) (nI (num w 0)) := has_w h.2.1 hv.2 (nI j)
  have a6 : ¬ f_X5_has 1 (nI j) S = 0 := by rw [e6, isW_lit hj (by omega)]; decide
  unfold f_X6_variable f_X6_narrowed
  refine wp_ifn a6 (wp_ifn (by decide) (wp_ifn (by decide) (wp_ifn (by decide) (wp_ifn (by decide) (wp_ifn (by decide) (wp_bdm (wp_bdm (s_narrow (o := 132) h.2.1 hk h.1.2.2 (by omega)) fun T ⟨f, n, ok⟩ => ?_) (P := fun z => z.1 = I ((narrowed w).1 j) ∧ nok (dat w 0) (narrowed w) ∧ KI z.2 w kp) ?_))))))
  · rw [if_pos rfl, s_leastOf (by omega), (n.2 j hj).1]
    exact wp_bds rfl (wp_some ⟨rfl, ok, h.sc (na_s f)⟩)
  · rintro ⟨r, T⟩ z
    exact wp_u2 (wp_some z)
theorem k_var4 {S : Sg} {w : Wd} {kp : Option Wd} (h : KI S w kp) {j : Nat} (hj : j < num w 0) : wp (f_X6_variable (nI j) (4 : Int32) S) (fun z => z.1 = I ((narrowed w).2 j) ∧ nok (dat w 0) (narrowed w) ∧ KI z.2 w kp) := by
  have hk := h.1.1
  have hv := hk.2.2.1
  have e6 : f_X5_has 1 (nI j) S = f_X6_isWithin (nI j) (nI (num w 0)) := has_w h.2.1 hv.2 (nI j)
  have a6 : ¬ f_X5_has 1 (nI j) S = 0 := by rw [e6, isW_lit hj (by omega)]; decide
  unfold f_X6_variable f_X6_narrowed
  refine wp_ifn a6 (wp_ifn (by decide) (wp_ifn (by decide) (wp_ifn (by decide) (wp_ifn (by decide) (wp_ifn (by decide) (wp_bdm (wp_bdm (s_narrow (o := 132) h.2.1 hk h.1.2.2 (by omega)) fun T ⟨f, n, ok⟩ => ?_) (P := fun z => z.1 = I ((narrowed w).2 j) ∧ nok (dat w 0) (narrowed w) ∧ KI z.2 w kp) ?_))))))
  · rw [if_neg (by decide), if_pos rfl, s_mostOf (by omega), (n.2 j hj).2]
    exact wp_bds rfl (wp_some ⟨rfl, ok, h.sc (na_s f)⟩)
  · rintro ⟨r, T⟩ z
    exact wp_u2 (wp_some z)
theorem mos_s {S T : Sg} (f : Fr (mosA 1) S T) : Fr spo S T := f.mono fun o h => by
  have : o = 131 ∨ (1 + 29 ≤ o ∧ o < 1 + 43) := h
  show _ ∨ _; omega
abbrev MM (w : Wd) (k a b m : Int32) : Prop := Meet (gh w) (qrow w (wq k a b)) (szOf (wq k a b) 8) (num w 1) (num w 2) m
theorem k_would {S : Sg} {w : Wd} {kp : Option Wd} (h : KI S w kp) {k a b : Int32} (hq : qv k b) (e : f_X2_misfitOf k a b = 0) : wp (f_X6_would k a b S) (fun z => MM w k a b z.1 ∧ KI z.2 w kp) := by
  have hk := h.1.1
  unfold f_X6_would
  rw [e]
  refine wp_lt (wp_ifp rfl ?_)
  obtain ⟨S1, e1, f1, q1⟩ := s_make (oq := 130) (S := S) (a := a) hq
  have c1 : CW 1 S1 w := h.2.1.fr f1 (fun p hp => by have : 1 ≤ p ∧ p < 1 + 29 := hp; show ¬ (p = 130 + 1); omega) (wg_l10 h.1)
  refine wp_bds e1 ?_
  rw [c1.2.2.1.2.1, c1.2.2.1.2.2.1]
  refine wp_bdm (s_meetingBy c1 hk h.1.2.1 q1 (wq_ok hq) (by omega) hk.2.2.2.1 hk.2.2.2.2.1) ?_
  rintro ⟨m, T⟩ ⟨hm, f2⟩
  have f : Fr spo S T := (f1.mono fun p hp => by have : p = 130 + 1 := hp; show _ ∨ _; omega).tr (f2.mono fun p hp => by have : 1 + 29 ≤ p ∧ p < 1 + 43 := hp; show _ ∨ _; omega)
  exact wp_u2 (wp_some ⟨hm, h.sc f⟩)
theorem k_ask {S : Sg} {w : Wd} {kp : Option Wd} (h : KI S w kp) {k a b : Int32} (hq : qv k b) (e : f_X2_misfitOf k a b = 0) : wp (f_X6_ask k a b S) (fun z => ∃ m, MM w k a b m ∧ ((m = 0 ∧ z.1 = I (tans w (wq k a b)) ∧ KI z.2 w kp) ∨ (m = 2 ∧ z.1 = 1000000005 ∧ KI z.2 w kp) ∨ (m = 1 ∧ z.1 = I (tans w (wq k a b)) ∧ ∃ q, gok ((q, qrow w (wq k a b)) :: gh w) ∧ KI z.2 (wjoin w q (qrow w (wq k a b)) (tans w (wq k a b))) kp))) := by
  have hk := h.1.1
  have ho : ∀ k, k < 8 → own w k < 10 := fun k hk' => own10 hk hk'
  unfold f_X6_ask
  rw [e]
  refine wp_lt (wp_ifp rfl (wp_bdm (s_make hq) fun S1 ⟨f1, q1⟩ => ?_))
  have c1 : CW 1 S1 w := h.2.1.fr f1 (fun p hp => by have : 1 ≤ p ∧ p < 1 + 29 := hp; show ¬ (p = 130 + 1); omega) (wg_l10 h.1)
  refine wp_bdm (s_takeQuestion c1 hk h.1.2.1 q1 (wq_ok hq) (by omega)) ?_
  rintro ⟨m, T⟩ ⟨hm, f2, hd⟩
  have q2 : QW 130 T (wq k a b) := q1.fr f2 (by show ¬ (1 ≤ 130 + 1 ∧ 130 + 1 < 1 + 43); omega)
  have f : Fr spw S T := (f1.mono fun p hp => by have : p = 130 + 1 := hp; show _ ∨ _; omega).tr (fwa f2)
  refine wp_u2 (wp_if (fun h2 => ?_) (fun h2 => ?_))
  · have h2' : m = 2 := h2
    subst h2'
    have cT : CW 1 T w := by
      rcases hd with ⟨_, h⟩ | ⟨h, _⟩
      · exact h
      · exact absurd (show (2 : Int32) = 1 from h) (by decide)
    refine wp_bdm (k_ref r5 (h.w h.1 f cT)) ?_
    rintro ⟨r, U⟩ ⟨e5, hU⟩
    have e5' : r = -5 := e5
    subst e5'
    exact wp_u2 (wp_some ⟨2, hm, Or.inr (Or.inl ⟨rfl, show (1000000000 : Int32) - -5 = 1000000005 by decide, hU⟩)⟩)
  · rcases hd with ⟨h', cT⟩ | ⟨h', q, gk, cT⟩
    · have m0 : m = 0 := by
        rcases hm with x | x | x
        · exact x.1
        · exact absurd x.1 h2
        · exact absurd x.1 h'
      subst m0
      rw [show f_X5_trueAnswer 1 130 T = some (I (tans w (wq k a b))) from s_tans cT ho q2]
      exact wp_bds rfl (wp_some ⟨0, hm, Or.inl ⟨rfl, rfl, h.w h.1 f cT⟩⟩)
    · have m1 : m = 1 := h'
      subst m1
      have := s_tans (w := wjoin w q (qrow w (wq k a b)) (tans w (wq k a b))) cT ho q2
      rw [tans_join] at this
      rw [this]
      exact wp_bds rfl (wp_some ⟨1, hm, Or.inr (Or.inr ⟨rfl, rfl, q, gk, h.w (wg_join h.1 (wq_ok hq) gk (Meet_1 hm).2) f cT⟩)⟩)
theorem k_asks {S : Sg} {w : Wd} {kp : Option Wd} (h : KI S w kp) (k a b : Int32) : wp (f_X6_ask k a b S) (fun z => ∃ w', KI z.2 w' kp) := by
  rcases mq_cases k a b with ⟨j, hj⟩ | ⟨hq, e⟩
  · unfold f_X6_ask
    generalize f_X2_misfitOf k a b = v at hj
    refine wp_lt (wp_ifn hj.ne (wp_bdm (k_ref hj h) ?_))
    rintro ⟨r, T⟩ hT
    exact wp_u2 (wp_some ⟨w, hT.2⟩)
  · refine wp_mono (k_ask h hq e) ?_
    rintro z ⟨m, _, hz | hz | ⟨_, _, q, _, hz⟩⟩
    · exact ⟨_, hz.2.2⟩
    · exact ⟨_, hz.2.2⟩
    · exact ⟨_, hz⟩
theorem k_sums {S : Sg} {w : Wd} {kp : Option Wd} (h : KI S w kp) : wp (f_X6_sums (1 : Int32) S) (fun z => z.1 = nI (cm w (nI 1) 255) ∧ KI z.2 w kp) ∧ wp (f_X6_sums (2 : Int32) S) (fun z => z.1 = nI (cm w (nI 2) 255) ∧ KI z.2 w kp) ∧ wp (f_X6_sums (3 : Int32) S) (fun z => z.1 = nI (cm w (nI 0) 255) ∧ KI z.2 w kp) := by
  have hm : ∀ c, c < 3 → wp (bd (f_X6_howMany (nI c) S) (u2 fun r T => some (r, T))) (fun z => z.1 = nI (cm w (nI c) 255) ∧ KI z.2 w kp) := fun c _ => by
    refine wp_bdm (s_howMany h.2.1 h.1 (nI c)) ?_
    rintro ⟨r, T⟩ ⟨a, b⟩
    exact wp_u2 (wp_some ⟨a, h.sc (mos_s b)⟩)
  refine ⟨?_, ?_, ?_⟩
  · unfold f_X6_sums
    exact wp_ifn (by decide) (wp_ifp rfl (hm 1 (by omega)))
  · unfold f_X6_sums
    exact wp_ifn (by decide) (wp_ifn (by decide) (wp_ifp rfl (hm 2 (by omega))))
  · unfold f_X6_sums
    exact wp_ifn (by decide) (wp_ifn (by decide) (wp_ifn (by decide) (wp_ifp rfl (hm 0 (by omega)))))
theorem k_reduced {S : Sg} {w : Wd} {kp : Option Wd} (h : KI S w kp) {i v l p : Nat} (hi : i < (gh w).length) (hv : v < num w 0) (hl : l < 2) (hp : p < 10) (hpv : pvB (gh w) p = true) (hcn : cn (gh w) p = i) : f_X6_reduced (nI i) (nI v) (nI l) S = some (lowP (tt (gh w) p v) (gs (gh w)) (nI l), S) := by
  have hk := h.1.1
  have hl10 := wg_l10 h.1
  have hn := hk.2.2.1
  have hs := wok_sm hk h.1.2.1
  unfold f_X6_reduced
  rw [h.2.1.2.2.1.2.2.2, isW_lit hi (by omega), if_neg (by decide), has_w h.2.1 hn.2, isW_lit hv (by omega), if_neg (by decide), show f_X6_isWithin (nI l) (2 : Int32) = 1 from isW_lit (n := 2) hl (by decide), if_neg (by decide)]
  rw [s_reducedPart (os := 1 + 17) hs h.2.1.2.2.2.2 (by omega) (by omega) hp hpv hcn]
  rfl
theorem k_attack {S : Sg} {w : Wd} {kp : Option Wd} (h : KI S w kp) {j l : Nat} (hj : j < num w 0) (hl : l < 2) : wp (f_X6_attack (nI j) (nI l) S) (fun z => z.1 = (if nI l = 0 then (af w j 255).1 else (af w j 255).2) ∧ KI z.2 w kp) := by
  have hg := h.1
  have hk := hg.1
  have hv := hk.2.2.1
  have e6 : f_X5_has 1 (nI j) S = f_X6_isWithin (nI j) (nI (num w 0)) := has_w h.2.1 hv.2 (nI j)
  have a6 : ¬ f_X5_has 1 (nI j) S = 0 := by rw [e6, isW_lit hj (by omega)]; decide
  have j10 : j < 10 := by omega
  have e3' : ¬ f_X6_isWithin (nI l) (2 : Int32) = 0 := by rw [show f_X6_isWithin (nI l) (2 : Int32) = 1 from isW_lit (n := 2) hl (by decide)]; decide
  unfold f_X6_attack
  refine wp_ifn a6 (wp_ifn e3' (wp_bdm (dn (F := fun n k (z : Int32 × Int32 × Sg) => L_X6_attack_43 (nI j) (nI l) n z.1 z.2.1 (nI k) z.2.2) (fun k z => k ≤ 255 ∧ (z.1, z.2.1) = af w j (255 - k) ∧ Fr (mosA 1) S z.2.2) (fun z => (z.1, z.2.1) = af w j 255 ∧ Fr (mosA 1) S z.2.2) ?_ ?_ 400 255 (-9, 0, S) (by omega) ⟨by omega, rfl, Fr.rf⟩) ?_))
  · rintro n k ⟨x, y, T⟩ ⟨h1, h2, f⟩ ih
    have h2' : (x, y) = af w j (255 - (k + 1)) := h2
    show wp (L_X6_attack_43 (nI j) (nI l) (n + 1) x y (nI (k + 1)) T) _
    rw [L_X6_attack_43]
    refine wp_ifn (nI_nlt (b := 1) (by omega) (by omega)) (wp_bdm (s_make (oq := 130) (a := nI (k + 1)) (b := 0) qv0) fun U ⟨f1, q1⟩ => ?_)
    have cT := mos_w h.2.1 hg (by omega) f
    have cU : CW 1 U w := cT.fr f1 (fun p hp => by have : 1 ≤ p ∧ p < 1 + 29 := hp; show ¬ (p = 130 + 1); omega) (wg_l10 hg)
    refine wp_bdm (s_fixedQ cU hk hg.2.1 q1 (wq_ok qv0) (by omega)) ?_
    rintro ⟨r, V⟩ ⟨hr, f2⟩
    have hb : (isr r (nI j) &&& 1) = 1 ↔ (j < 10 ∧ fx w (k + 1) j) := bits_test hr (by omega)
    have f3 : Fr (mosA 1) S V := (f.tr (f1.mono fun p hp => Or.inl hp)).tr (f2.mono fun p hp => Or.inr hp)
    have hs1 : af w j (255 - k) = @ite _ (fx w (k + 1) j) (Classical.propDecidable _) (nI (k + 1), (af w j (255 - (k + 1))).2 + 1) (af w j (255 - (k + 1))) := by
      rw [show 255 - k = (255 - (k + 1)) + 1 by omega, af, show 255 - (255 - (k + 1)) = k + 1 by omega]
    refine wp_u2 ?_
    show wp (L_X6_attack_43 (nI j) (nI l) n (if (isr r (nI j) &&& 1) = 1 then nI (k + 1) else x) (if (isr r (nI j) &&& 1) = 1 then y + 1 else y) (nI (k + 1) + (-1)) V) _
    rw [nm1]
    refine ih (_, _, V) ⟨by omega, ?_, f3⟩
    show ((if (isr r (nI j) &&& 1) = 1 then nI (k + 1) else x), (if (isr r (nI j) &&& 1) = 1 then y + 1 else y)) = af w j (255 - k)
    rw [hs1]
    by_cases z : fx w (k + 1) j
    · rw [if_pos (hb.mpr ⟨j10, z⟩), if_pos (hb.mpr ⟨j10, z⟩), if_pos z, ← h2']
    · rw [if_neg (fun u => z (hb.mp u).2), if_neg (fun u => z (hb.mp u).2), if_neg z, ← h2']
  · rintro n ⟨x, y, T⟩ ⟨_, h2, f⟩
    show wp (L_X6_attack_43 (nI j) (nI l) (n + 1) x y (nI 0) T) _
    rw [L_X6_attack_43]
    exact wp_ifp (by decide) (wp_some ⟨h2, f⟩)
  · rintro ⟨x, y, T⟩ ⟨h2, f⟩
    have h2' : (x, y) = af w j 255 := h2
    show wp (some ((if nI l = 0 then x else y), T)) _
    refine wp_some ⟨?_, h.sc (mos_s f)⟩
    show (if nI l = 0 then x else y) = _
    rw [← h2']
