theorem i00 : ((0 : Int32) = 0) = True := eq_true rfl
theorem i10 : ((1 : Int32) = 0) = False := eq_false (by decide)
theorem i01 : ((0 : Int32) = 1) = False := eq_false (by decide)
theorem i11 : ((1 : Int32) = 1) = True := eq_true rfl
theorem i02 : ((0 : Int32) = 2) = False := eq_false (by decide)
theorem i12 : ((1 : Int32) = 2) = False := eq_false (by decide)
theorem i20 : ((2 : Int32) = 0) = False := eq_false (by decide)
theorem i21 : ((2 : Int32) = 1) = False := eq_false (by decide)
theorem i22 : ((2 : Int32) = 2) = True := eq_true rfl
theorem mo0 (a b : Int32) : f_X2_misfitOf 0 a b = if a < 1 then -4 else if 255 < a then -6 else 0 := by
  unfold f_X2_misfitOf
  simp only [lt, i00, i01, i02, if_true, if_false]
theorem mo1 (a b : Int32) : f_X2_misfitOf 1 a b = if a < 1 then -4 else if b < 1 then -4 else if 255 < a then -6 else if 255 < b then -6 else if (a &&& b) = 0 then 0 else -3 := by
  unfold f_X2_misfitOf lt
  rw [show (if (1 : Int32) = 0 then (0 : Int32) else 1) = 1 from if_neg (by decide), show (if (1 : Int32) = 2 then (3 : Int32) else 255) = 255 from if_neg (by decide)]
  dsimp only
  repeat rw [if_neg (show ¬ (1 : Int32) = 0 by decide)]
  repeat rw [if_pos (show (1 : Int32) = 1 from rfl)]
theorem mo2 (a b : Int32) : f_X2_misfitOf 2 a b = if a < 1 then -4 else if b < 1 then -4 else if 255 < a then -6 else if 3 < b then -6 else 0 := by
  unfold f_X2_misfitOf lt
  rw [show (if (2 : Int32) = 0 then (0 : Int32) else 1) = 1 from if_neg (by decide), show (if (2 : Int32) = 2 then (3 : Int32) else 255) = 3 from if_pos rfl]
  dsimp only
  repeat rw [if_neg (show ¬ (2 : Int32) = 0 by decide)]
  repeat rw [if_neg (show ¬ (2 : Int32) = 1 by decide)]
  repeat rw [if_pos (show (2 : Int32) = 2 from rfl)]
  repeat rw [if_neg (show ¬ (1 : Int32) = 0 by decide)]
theorem mn0 (a b : Int32) : f_X7_notQuestion 0 a b = if a < 1 then -4 else if 255 < a then -6 else 0 := by
  unfold f_X7_notQuestion
  rw [show f_X7_isIn 0 0 2 = 1 by decide +kernel]
  simp only [lt, i00, i01, i10, if_true, if_false]
theorem mn1 (a b : Int32) : f_X7_notQuestion 1 a b = if a < 1 then -4 else if b < 1 then -4 else if 255 < a then -6 else if 255 < b then -6 else if (a &&& b) = 0 then 0 else -3 := by
  unfold f_X7_notQuestion
  rw [show f_X7_isIn 1 0 2 = 1 by decide +kernel]
  simp only [lt, i10, i11, if_true, if_false]
theorem mn2 (a b : Int32) : f_X7_notQuestion 2 a b = if a < 1 then -4 else if b < 1 then -4 else if 255 < a then -6 else if 3 < b then -6 else 0 := by
  unfold f_X7_notQuestion
  rw [show f_X7_isIn 2 0 2 = 1 by decide +kernel]
  simp only [lt, i10, i20, i21, if_true, if_false]
theorem mon {k : Int32} (a b : Int32) (h0 : k ≠ 0) (h1 : k ≠ 1) (h2 : k ≠ 2) : f_X2_misfitOf k a b = -2 := by
  unfold f_X2_misfitOf
  simp only [lt, eq_false h0, eq_false h1, eq_false h2, if_false]
theorem nz0 : nI 0 = (0 : Int32) := rfl
theorem nz1 : nI 1 = (1 : Int32) := rfl
theorem nz2 : nI 2 = (2 : Int32) := rfl
theorem mq (k a b : Int32) : f_X7_notQuestion k a b = f_X2_misfitOf k a b := by
  rcases isW_cases k (n := 3) (by decide) with ⟨j, hj, rfl, e⟩ | ⟨ne, e⟩
  · have : j = 0 ∨ j = 1 ∨ j = 2 := by omega
    rcases this with rfl | rfl | rfl
    · rw [nz0, mn0, mo0]
    · rw [nz1, mn1, mo1]
    · rw [nz2, mn2, mo2]
  · have e7 : f_X7_isIn k 0 (2 : Int32) = 0 := (isIn_w k (n := 3) (by decide)).trans e
    rw [mon a b (ne 0 (by decide)) (ne 1 (by decide)) (ne 2 (by decide))]
    unfold f_X7_notQuestion
    rw [if_pos e7]
theorem mq_cases (k a b : Int32) : (∃ j, isRef (f_X2_misfitOf k a b) j) ∨ (qv k b ∧ f_X2_misfitOf k a b = 0) := by
  rcases isW_cases k (n := 3) (by decide) with ⟨j, hj, rfl, e⟩ | ⟨ne, e⟩
  · have : j = 0 ∨ j = 1 ∨ j = 2 := by omega
    rcases this with rfl | rfl | rfl
    · rw [nz0, mo0]
      by_cases h1 : a < 1
      · rw [if_pos h1]; exact Or.inl ⟨_, r4⟩
      · rw [if_neg h1]
        by_cases h2 : 255 < a
        · rw [if_pos h2]; exact Or.inl ⟨_, r6⟩
        · rw [if_neg h2]; exact Or.inr ⟨Or.inl rfl, rfl⟩
    · rw [nz1, mo1]
      by_cases h1 : a < 1
      · rw [if_pos h1]; exact Or.inl ⟨_, r4⟩
      · rw [if_neg h1]
        by_cases h3 : b < 1
        · rw [if_pos h3]; exact Or.inl ⟨_, r4⟩
        · rw [if_neg h3]
          by_cases h2 : 255 < a
          · rw [if_pos h2]; exact Or.inl ⟨_, r6⟩
          · rw [if_neg h2]
            by_cases h4 : 255 < b
            · rw [if_pos h4]; exact Or.inl ⟨_, r6⟩
            · rw [if_neg h4]
              by_cases h5 : (a &&& b) = 0
              · rw [if_pos h5]; exact Or.inr ⟨Or.inr (Or.inl rfl), rfl⟩
              · rw [if_neg h5]; exact Or.inl ⟨_, r3⟩
    · rw [nz2, mo2]
      by_cases h1 : a < 1
      · rw [if_pos h1]; exact Or.inl ⟨_, r4⟩
      · rw [if_neg h1]
        by_cases h3 : b < 1
        · rw [if_pos h3]; exact Or.inl ⟨_, r4⟩
        · rw [if_neg h3]
          by_cases h2 : 255 < a
          · rw [if_pos h2]; exact Or.inl ⟨_, r6⟩
          · rw [if_neg h2]
            by_cases h4 : 3 < b
            · rw [if_pos h4]; exact Or.inl ⟨_, r6⟩
            · rw [if_neg h4]
              refine Or.inr ⟨Or.inr (Or.inr ⟨rfl, ?_⟩), rfl⟩
              have h0 : ¬ b < 0 := fun q => h3 (by
                rw [Int32.lt_iff_toInt_lt] at q ⊢
                have e0 : (0 : Int32).toInt = 0 := rfl
                have e1 : (1 : Int32).toInt = 1 := rfl
                omega)
              obtain ⟨n, hn, rfl⟩ := nI_of h0
              refine ⟨n, ?_, ?_, rfl⟩
              · by_cases q : 0 < n
                · exact q
                · exact absurd (nI_lt (b := 1) (show n < 1 by omega) (by decide)) h3
              · by_cases q : n < 4
                · exact q
                · exact absurd (nI_lt (a := 3) (show 3 < n by omega) hn) h4
  · left
    rw [mon a b (ne 0 (by decide)) (ne 1 (by decide)) (ne 2 (by decide))]
    exact ⟨_, r2⟩
theorem MI.sc {S S' : Sg} {G : Gst} {AI AJ : Nat → Nat → Prop} (h : MI S G) (ok : GO G) (f : Fm AI AJ S S') (hA : ∀ o k, AI o k → msc o k) : MI S' G := h.fm ok f fun o k _ n q => n (hA o k q)
theorem msc_of {o k : Nat} (h : (148 ≤ o ∧ o ≤ 153) ∨ (156 ≤ o ∧ o ≤ 164) ∨ (o = 154 ∧ 152 ≤ k) ∨ (o = 140 ∧ (k = 12 ∨ k = 18 ∨ k = 19 ∨ k = 22 ∨ k = 23 ∨ k = 29 ∨ k = 30 ∨ k = 31 ∨ k = 40))) : msc o k := by
  show 140 ≤ o ∧ ¬ ((142 ≤ o ∧ o ≤ 147) ∨ (o = 140 ∧ 7 ≤ k ∧ k ≤ 10)) ∧ ¬ (o = 154 ∧ k < 152) ∧ ¬ (o = 140 ∧ (k = 21 ∨ k = 28 ∨ k = 39)) ∧ o ≠ 141 ∧ o ≠ 155 ∧ o ≠ 165
  omega
theorem as_m : ∀ o k, asI o k → msc o k := fun o k h => msc_of (by have : o = 148 ∨ (o = 140 ∧ k = 12) := h; omega)
theorem ls_m : ∀ o k, lsI o k → msc o k := fun o k h => msc_of (by have : o = 152 ∨ o = 153 ∨ (o = 140 ∧ (k = 18 ∨ k = 19)) := h; omega)
theorem lj_m : ∀ o k, lsJ o k → 140 ≤ o := fun o k h => by have : o = 149 ∨ o = 150 ∨ o = 151 := h; omega
theorem mb_m : ∀ o k, mbI o k → msc o k := fun o k h => msc_of (by have : o = 153 ∨ (o = 140 ∧ k = 19) := h; omega)
theorem mbj_m : ∀ o k, mbJ o k → 140 ≤ o := fun o k h => by have : o = 150 ∨ o = 151 := h; omega
theorem nm_m : ∀ o k, nmI o k → msc o k := fun o k h => msc_of (by have : o = 161 ∨ o = 162 := h; omega)
theorem fj_m : ∀ o k, (fun (_ _ : Nat) => False) o k → 140 ≤ o := fun _ _ h => h.elim
theorem msc_140 {o k : Nat} (h : msc o k) : 140 ≤ o := h.1
theorem tans_join {w : Wd} {q : Nat} {a wt : Nat → Int} {t : Int} : tans (wjoin w q a t) wt = tans w wt :=
  sm_cong 8 fun p _ => by
    show wt p * (if 0 = 3 ∧ own w p = (gh w).length then t else dat w 0 (own w p)) = _
    rw [if_neg (by omega)]
/-- what the class finds of a question -/
theorem c_meet {o : Nat} {S : Sg} {w : Wd} {k a b : Int32} {rl lm : Nat} (hw : CW o S w) (hg : wgood w) (hq : qv k b) (ho : o + 43 ≤ 130) (hrl : rl < 4) (hlm : lm ≤ 10) : wp (bd (f_X2_make 130 k a b S) fun S1 => f_X5_meetingBy o 130 (nI rl) (nI lm) S1) (fun z => Meet (gh w) (qrow w (wq k a b)) (szOf (wq k a b) 8) rl lm z.1 ∧ Fr (fun p => p = 131 ∨ inScr o p) S z.2) := by
  refine wp_bdm (s_make hq) fun S1 ⟨f1, q1⟩ => ?_
  refine wp_mono (s_meetingBy (hw.fr f1 (fun p hp => by have : o ≤ p ∧ p < o + 29 := hp; show ¬ (p = 130 + 1); omega) (wg_l10 hg)) hg.1 hg.2.1 q1 (wq_ok hq) (by omega) hrl hlm) fun z ⟨m, f2⟩ => ⟨m, (f1.mono fun p hp => Or.inl hp).tr (f2.mono fun p hp => Or.inr hp)⟩
theorem p_would {S : Sg} {G : Gst} (ok : GO G) (hC : CI S G) (hM : MI S G) (k a b : Int32) : Same (f_X6_would k a b S) (f_X7_would k a b) := by
  have hk := ok.1.1
  rcases mq_cases k a b with ⟨j, hj⟩ | ⟨hq, e⟩
  · unfold f_X6_would
    generalize e : f_X2_misfitOf k a b = v at hj
    show Same (if v = 0 then _ else bd (f_X6_refuse v S) (u2 fun r T => some (r, T))) _
    rw [if_neg hj.ne]
    exact refS hj ok hC hM fun S' h => by
      unfold f_X7_would
      rw [mq, e]
      show (if v = 0 then _ else bd (f_X7_no v S') (u2 fun r T => some (r, T))) = _
      rw [if_neg hj.ne]
  · refine mk (fun r G' => Meet (gh G.1) (qrow G.1 (wq k a b)) (szOf (wq k a b) 8) (num G.1 1) (num G.1 2) r ∧ G' = G) ok hM ?_ ?_
    · unfold f_X6_would
      rw [e]
      refine wp_lt (wp_ifp rfl ?_)
      obtain ⟨S1, e1, f1, q1⟩ := s_make (oq := 130) (S := S) (a := a) hq
      have c1 : CW 1 S1 G.1 := hC.1.fr f1 (fun p hp => by have : 1 ≤ p ∧ p < 1 + 29 := hp; show ¬ (p = 130 + 1); omega) (wg_l10 ok.1)
      refine wp_bds e1 ?_
      rw [c1.2.2.1.2.1, c1.2.2.1.2.2.1]
      refine wp_bdm (s_meetingBy c1 hk ok.1.2.1 q1 (wq_ok hq) (by omega) hk.2.2.2.1 hk.2.2.2.2.1) ?_
      rintro ⟨m, T⟩ ⟨hm, f2⟩
      have f : Fr csc S T := (f1.mono fun p hp => by have : p = 130 + 1 := hp; show _ ∨ _; omega).tr (f2.mono fun p hp => by have : 1 + 29 ≤ p ∧ p < 1 + 43 := hp; show _ ∨ _; omega)
      exact wp_u2 (wp_some ⟨f.mono fun o q => by have : (30 ≤ o ∧ o < 87) ∨ (116 ≤ o ∧ o < 135) := q; show o < 140; omega, G, ⟨hm, rfl⟩, hC.sc ok f⟩)
    · rintro r S' G' ⟨hm, rfl⟩ h
      unfold f_X7_would
      rw [mq, e]
      refine ⟨ok, wp_lt (wp_ifp rfl (wp_bdm (s_asks h.1 (fun k hk' => own10 hk hk') hq) fun S1 ⟨f1, a1⟩ => ?_))⟩
      refine wp_bdm (s_meetsNow (h.1.fm f1 (fun o k q n => (as_m o k n).2.1 q)) hk ok.1.2.1 a1 (wq_ok hq)) ?_
      rintro ⟨m, T⟩ ⟨hm', f2⟩
      have f : Fm msc mscJ S' T := (f1.mono as_m (fun _ _ q => q.elim)).tr (f2.mono ls_m lj_m)
      exact wp_u2 (wp_some ⟨Meet_u hm' hm, mfr f (fun _ _ q => msc_140 q) (fun _ _ q => q), h.sc ok f fun _ _ q => q⟩)
theorem ia_w : ∀ o k, 140 ≤ o → ¬ msc o k → ¬ mwI o k → ¬ iaI o k := fun o k _ n1 n2 q => by
  rcases q with q | q
  · exact n1 (ls_m o k q)
  · have q' : o = 146 ∨ o = 147 ∨ (o = 140 ∧ k = 8) := q
    exact n2 (by show (142 ≤ o ∧ o ≤ 147) ∨ (o = 140 ∧ 7 ≤ k ∧ k ≤ 10); omega)
theorem ia_m : ∀ o k, iaI o k → 140 ≤ o := fun o k q => by
  rcases q with q | q
  · exact (ls_m o k q).1
  · have q' : o = 146 ∨ o = 147 ∨ (o = 140 ∧ k = 8) := q
    omega
theorem p_ask {S : Sg} {G : Gst} (ok : GO G) (hC : CI S G) (hM : MI S G) (k a b : Int32) : Same (f_X6_ask k a b S) (f_X7_ask k a b) := by
  have hk := ok.1.1
  have ho : ∀ k, k < 8 → own G.1 k < 10 := fun k hk' => own10 hk hk'
  rcases mq_cases k a b with ⟨j, hj⟩ | ⟨hq, e⟩
  · unfold f_X6_ask
    generalize e : f_X2_misfitOf k a b = v at hj
    show Same (if v = 0 then _ else bd (f_X6_refuse v S) (u2 fun r T => some ((1000000000 : Int32) - r, T))) _
    rw [if_neg hj.ne]
    refine mk (fun r G' => r = (1000000000 : Int32) - v ∧ G' = bump G j) ok hM (wp_mono (refL6 hj ok hC) fun z hz => ⟨hz.2.1, _, ⟨hz.1, rfl⟩, hz.2.2⟩) ?_
    rintro r S' G' ⟨rfl, rfl⟩ h
    refine ⟨ok, ?_⟩
    unfold f_X7_ask
    rw [mq, e]
    exact wp_lt (wp_ifn hj.ne (refL7 hj ok h))
  · refine mk (fun r G' => ∃ m, Meet (gh G.1) (qrow G.1 (wq k a b)) (szOf (wq k a b) 8) (num G.1 1) (num G.1 2) m ∧ ((m = 0 ∧ r = I (tans G.1 (wq k a b)) ∧ G' = G) ∨ (m = 2 ∧ r = (1000000000 : Int32) - (-5) ∧ G' = bump G 4) ∨ (m = 1 ∧ r = I (tans G.1 (wq k a b)) ∧ ∃ q, gok ((q, qrow G.1 (wq k a b)) :: gh G.1) ∧ G' = (wjoin G.1 q (qrow G.1 (wq k a b)) (tans G.1 (wq k a b)), G.2)))) ok hM ?_ ?_
    · unfold f_X6_ask
      rw [e]
      refine wp_lt (wp_ifp rfl (wp_bdm (s_make hq) fun S1 ⟨f1, q1⟩ => ?_))
      have c1 : CW 1 S1 G.1 := hC.1.fr f1 (fun p hp => by have : 1 ≤ p ∧ p < 1 + 29 := hp; show ¬ (p = 130 + 1); omega) (wg_l10 ok.1)
      refine wp_bdm (s_takeQuestion c1 hk ok.1.2.1 q1 (wq_ok hq) (by omega)) ?_
      rintro ⟨m, T⟩ ⟨hm, f2, hd⟩
      have q2 : QW 130 T (wq k a b) := q1.fr f2 (by show ¬ (1 ≤ 130 + 1 ∧ 130 + 1 < 1 + 43); omega)
      have f : Fr (fun o => 1 ≤ o ∧ o < 87 ∨ (116 ≤ o ∧ o < 135)) S T := (fw f1 fun p hp => by have : p = 130 + 1 := hp; omega).tr (fw f2 ia1)
      refine wp_u2 (wp_if (fun h2 => ?_) (fun h2 => ?_))
      · have h2' : m = 2 := h2
        subst h2'
        have cT : CW 1 T G.1 := by
          rcases hd with ⟨_, h⟩ | ⟨h, _⟩
          · exact h
          · exact absurd (show (2 : Int32) = 1 from h) (by decide)
        have hC2 : CI T G := hC.w ok f cT
        exact wp_mono (refL6 r5 ok hC2) fun z hz => ⟨(f.mono cl).tr hz.2.1, _, ⟨2, hm, Or.inr (Or.inl ⟨rfl, hz.1, rfl⟩)⟩, hz.2.2⟩
      · rcases hd with ⟨h, cT⟩ | ⟨h, q, gk, cT⟩
        · have m0 : m = 0 := by
            rcases hm with x | x | x
            · exact x.1
            · exact absurd x.1 h2
            · exact absurd x.1 h
          subst m0
          rw [show f_X5_trueAnswer 1 130 T = some (I (tans G.1 (wq k a b))) from s_tans cT ho q2]
          exact wp_bds rfl (wp_some ⟨f.mono cl, _, ⟨0, hm, Or.inl ⟨rfl, rfl, rfl⟩⟩, hC.w ok f cT⟩)
        · have m1 : m = 1 := h
          subst m1
          have := s_tans (w := wjoin G.1 q (qrow G.1 (wq k a b)) (tans G.1 (wq k a b))) cT ho q2
          rw [tans_join] at this
          rw [this]
          exact wp_bds rfl (wp_some ⟨f.mono cl, _, ⟨1, hm, Or.inr (Or.inr ⟨rfl, rfl, q, gk, rfl⟩)⟩, hC.w ok f cT⟩)
    · rintro r S' G' ⟨m, hm, hR⟩ h
      unfold f_X7_ask
      rw [mq, e]
      obtain ⟨S1, e1, f1, a1⟩ := s_asks (a := a) h.1 ho hq
      have w1 : MW S1 G.1 := h.1.fm f1 (fun o k q n => (as_m o k n).2.1 q)
      obtain ⟨⟨m', T⟩, e2, hm', f2, hd⟩ := s_isAsked w1 hk ok.1.2.1 a1 (wq_ok hq)
      have em : m' = m := Meet_u hm' hm
      subst em
      have f : Fm (fun o k => msc o k ∨ iaI o k) mscJ S' T := (f1.mono (fun o k q => Or.inl (as_m o k q)) (fun _ _ q => q.elim)).tr (f2.mono (fun o k q => Or.inr q) lj_m)
      have fr : Fr mdl S' T := mfr f (fun o k q => q.elim (fun q => q.1) (ia_m o k)) (fun _ _ q => q)
      have a2 : ∀ k', k' < 10 → T.1 148 k' = I (qrow G.1 (wq k a b) k') := fun k' hk' => by
        rw [f2.1 148 k' (by
          rintro (q | q)
          · have : 148 = 152 ∨ 148 = 153 ∨ (148 = 140 ∧ (k' = 18 ∨ k' = 19)) := q; omega
          · have : 148 = 146 ∨ 148 = 147 ∨ (148 = 140 ∧ k' = 8) := q; omega)]
        exact a1.1 k' hk'
      have hw : ∀ o k, 140 ≤ o → ¬ msc o k → ¬ mwI o k → ¬ (msc o k ∨ iaI o k) := fun o k h1 n1 n2 q => q.elim n1 (ia_w o k h1 n1 n2)
      rcases hR with ⟨rfl, rfl, eG⟩ | ⟨rfl, rfl, eG⟩ | ⟨rfl, rfl, q, gk, eG⟩ <;> (have eG' := eG.symm; subst eG')
      · have wT : MW T G.1 := by
          rcases hd with ⟨_, h⟩ | ⟨h, _⟩
          · exact h
          · exact absurd (show (0 : Int32) = 1 from h) (by decide)
        refine ⟨ok, wp_lt (wp_ifp rfl (wp_bds e1 (wp_bds e2 (wp_u2 (wp_ifn (by decide) ?_)))))⟩
        rw [s_tansM wT hk a2]
        exact wp_bds rfl (wp_some ⟨rfl, fr, h.w ok f hw wT⟩)
      · have wT : MW T G.1 := by
          rcases hd with ⟨_, h⟩ | ⟨h, _⟩
          · exact h
          · exact absurd (show (2 : Int32) = 1 from h) (by decide)
        have hT : MI T G := h.w ok f hw wT
        exact ⟨ok, wp_lt (wp_ifp rfl (wp_bds e1 (wp_bds e2 (wp_u2 (wp_ifp rfl (wp_mono (refL7 r5 ok hT) fun y hy => ⟨hy.1, fr.tr hy.2.1, hy.2.2⟩))))))⟩
      · have wT : MW T (wjoin G.1 q (qrow G.1 (wq k a b)) (tans G.1 (wq k a b))) := by
          rcases hd with ⟨h, _⟩ | ⟨_, h⟩
          · exact absurd rfl h
          · exact h q
        have gj := wg_join ok.1 (wq_ok hq) gk (Meet_1 hm).2
        refine ⟨⟨gj, ok.2⟩, wp_lt (wp_ifp rfl (wp_bds e1 (wp_bds e2 (wp_u2 (wp_ifn (by decide) ?_)))))⟩
        have := s_tansM (wt := wq k a b) wT gj.1 a2
        rw [tans_join] at this
        rw [this]
        exact wp_bds rfl (wp_some ⟨rfl, fr, h.w ok f hw wT⟩)
