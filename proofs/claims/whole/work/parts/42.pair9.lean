theorem na_c : ∀ o, (fun p => p = 132 ∨ p = 132 + 1 ∨ p = 132 + 2) o → csc o := fun o h => by
  have : o = 132 ∨ o = 132 + 1 ∨ o = 132 + 2 := h
  show (30 ≤ o ∧ o < 87) ∨ (116 ≤ o ∧ o < 135); omega
theorem nar_ok {S : Sg} {w : Wd} (hw : CW 1 S w) (hg : wgood w) : nok (dat w 0) (narrowed w) := by
  obtain ⟨S', _, _, _, h⟩ := s_narrow (o := 132) hw hg.1 hg.2.2 (by omega)
  exact h
theorem nm_f {S S' : Sg} (f : Fm nmI noJ S S') : Fm msc mscJ S S' := f.mono nm_m (fun _ _ q => q.elim)
theorem p_known {S : Sg} {G : Gst} (ok : GO G) (hC : CI S G) (hM : MI S G) : Same (f_X6_known S) f_X7_known := by
  have hg := ok.1
  have hv := hg.1.2.2.1
  have hx := nar_ok hC.1 hg
  refine scr (fun r => bitsAre r (fun v => v < num G.1 0 ∧ wd (narrowed G.1) v = 1)) ok hC hM ?_ (fun S' h => ?_) fun a b ha hb => bits_eq hb ha
  · unfold f_X6_known
    refine wp_bdm (s_narrow (o := 132) hC.1 hg.1 hg.2.2 (by omega)) fun T ⟨f, n, hx⟩ => wp_bdm (s_knownBits n hv.2 hx) fun r hr => wp_some ⟨hr, f.mono na_c⟩
  · unfold f_X7_known
    refine wp_bdm (s_narrows h.1 hg.1 hg.2.2) fun T ⟨f, n⟩ => ?_
    have mT : MW T G.1 := h.1.fm f (fun o k q z => (nm_m o k z).2.1 q)
    exact wp_bdm (s_knownNow mT n hv.2 hx) fun r hr => wp_some ⟨hr, nm_f f⟩
theorem sw_bd {x : Nat → Int} {s : nst} {m : Nat} (hx : nok x s) (hm : m ≤ 10) : 0 ≤ sm m (wd s) ∧ sm m (wd s) ≤ 1000 := by
  have h : ∀ n, n ≤ 10 → 0 ≤ sm n (wd s) ∧ sm n (wd s) ≤ 100 * n := fun n => by
    induction n with
    | zero => intro _; exact ⟨Int.le_refl _, Int.le_refl _⟩
    | succ n ih =>
      intro hn
      have h1 := ih (by omega)
      have h2 := wd_bd hx (k := n) (by omega)
      have e : sm (n + 1) (wd s) = sm n (wd s) + wd s n := rfl
      rw [e]
      omega
  have := h m hm
  omega
theorem I_toJ {z : Int} (h : -2147483648 ≤ z ∧ z < 2147483648) : (I z).toInt64 = J z := by
  rw [toJ]
  exact congrArg J (I_toInt h.1 h.2)
theorem p_mean {S : Sg} {G : Gst} (ok : GO G) (hC : CI S G) (hM : MI S G) (p : Int32) : Same (f_X6_mean p S) (f_X7_mean p) := by
  have hg := ok.1
  have hv := hg.1.2.2.1
  have hx := nar_ok hC.1 hg
  have hb := sw_bd hx hv.2
  have ei : f_X7_isIn p 0 (1 : Int32) = f_X6_isWithin p (2 : Int32) := isIn_w p (n := 2) (by decide)
  rcases isW_cases p (n := 2) (by decide) with ⟨j, hj, rfl, e⟩ | ⟨ne, e⟩
  · have e4 : ¬ f_X6_isWithin (nI j) (2 : Int32) = 0 := by rw [show f_X6_isWithin (nI j) (2 : Int32) = 1 from e]; decide
    refine scr (fun r => r = lowP (sm (num G.1 0) (wd (narrowed G.1))) (num G.1 0 : Nat) (nI j)) ok hC hM ?_ (fun S' h => ?_) fun a b ha hb => hb.trans ha.symm
    · unfold f_X6_mean
      refine wp_ifn e4 (wp_bdm (s_narrow (o := 132) hC.1 hg.1 hg.2.2 (by omega)) fun T ⟨f, n, hx⟩ => ?_)
      rw [s_widths n hv.2]
      refine wp_bds rfl ?_
      have cT : CW 1 T G.1 := hC.1.fr f (fun p hp => by have : 1 ≤ p ∧ p < 1 + 29 := hp; show ¬ (p = 132 ∨ p = 132 + 1 ∨ p = 132 + 2); omega) (wg_l10 hg)
      rw [cT.2.2.1.1, I_toJ (by omega), to_J (by omega)]
      exact wp_bds (s_partX (b := (num G.1 0 : Nat)) ⟨by omega, by omega⟩ ⟨by omega, by omega⟩ (by omega)) (wp_some ⟨rfl, f.mono na_c⟩)
    · unfold f_X7_mean
      refine wp_ifn (by rw [ei]; exact e4) (wp_bdm (s_narrows h.1 hg.1 hg.2.2) fun T ⟨f, n⟩ => ?_)
      have mT : MW T G.1 := h.1.fm f (fun o k q z => (nm_m o k z).2.1 q)
      refine wp_bdm (up (F := fun n k (x : Int32) => L_X7_mean_24 (nI j) T n x (nI k)) (num G.1 0) (fun k x => x = I (sm k (wd (narrowed G.1)))) (fun x => x = I (sm (num G.1 0) (wd (narrowed G.1)))) ?_ ?_ 400 0 0 (by omega) (by omega) rfl) ?_
      · intro m k x hk hp ih
        rw [L_X7_mean_24, mT.2.2.1.1]
        refine wp_ifp (nI_lt hk (by omega)) ?_
        rw [s_widthM n (by omega)]
        refine wp_bds rfl ?_
        show wp (L_X7_mean_24 (nI j) T m (x + I _) (nI k + 1)) _
        rw [nIs]
        exact ih _ (by rw [hp, I_add]; rfl)
      · intro m x hp
        rw [L_X7_mean_24, mT.2.2.1.1]
        exact wp_ifn (nI_nlt (Nat.le_refl _) (by omega)) (wp_some hp)
      · rintro x rfl
        rw [mT.2.2.1.1, I_toJ (by omega), to_J (by omega)]
        exact wp_bds (s_partM (b := (num G.1 0 : Nat)) ⟨by omega, by omega⟩ ⟨by omega, by omega⟩ (by omega)) (wp_some ⟨rfl, nm_f f⟩)
  · unfold f_X6_mean
    rw [if_pos (show f_X6_isWithin p (2 : Int32) = 0 from e)]
    exact refJ r2 ok hC hM fun S' h => by
      unfold f_X7_mean
      rw [if_pos (ei.trans e)]
theorem p_variable {S : Sg} {G : Gst} (ok : GO G) (hC : CI S G) (hM : MI S G) (p q : Int32) : Same (f_X6_variable p q S) (f_X7_variable p q) := by
  have hg := ok.1
  have hk := hg.1
  have hl := wg_l10 hg
  have hv := hk.2.2.1
  have e6 : f_X5_has 1 p S = f_X6_isWithin p (nI (num G.1 0)) := has_w hC.1 hv.2 p
  rcases isW_cases p (n := num G.1 0) (by omega) with ⟨j, hj, rfl, e⟩ | ⟨_, e⟩
  · have j10 : j < 10 := by omega
    have a6 : ¬ f_X5_has 1 (nI j) S = 0 := by rw [e6, e]; decide
    have a7 : ∀ S', MI S' G → ¬ f_X7_isVariable (nI j) S' = 0 := fun S' h => by rw [in_w h.1 hk, e]; decide
    have i10 : inb (nI j) 10 = true := inb_n j10 (by decide)
    have x10 : ix (nI j) = j := ix_n (by omega)
    rcases isW_cases q (n := 7) (by decide) with ⟨l, hl7, rfl, e3⟩ | ⟨ne, e3⟩
    · have e3' : ¬ f_X6_isWithin (nI l) (7 : Int32) = 0 := by rw [show f_X6_isWithin (nI l) (7 : Int32) = 1 from e3]; decide
      have : l = 0 ∨ l = 1 ∨ l = 2 ∨ l = 3 ∨ l = 4 ∨ l = 5 ∨ l = 6 := by omega
      have h7 : ∀ S', MI S' G → wp (f_X7_narrows S') (fun T => MW T G.1 ∧ NM T (narrowed G.1) ∧ Fm msc mscJ S' T) := fun S' h => wp_mono (s_narrows h.1 hk hg.2.2) fun T ⟨f, n⟩ => ⟨h.1.fm f (fun o k q z => (nm_m o k z).2.1 q), n, nm_f f⟩
      have h6 : ∀ (K : Sg → Option (Int32 × Sg)) (x : Int32), (∀ T, NW 132 T (num G.1 0) (narrowed G.1) → K T = some (x, T)) → wp (bd (f_X0_narrow 132 1 S) K) (fun z => z.1 = x ∧ Fr csc S z.2) := fun K x hK => wp_bdm (s_narrow (o := 132) hC.1 hk hg.2.2 (by omega)) fun T ⟨f, n, _⟩ => by rw [hK T n]; exact wp_some ⟨rfl, f.mono na_c⟩
      rcases this with rfl | rfl | rfl | rfl | rfl | rfl | rfl
      · refine scr (fun r => r = I (dat G.1 0 j)) ok hC hM ?_ (fun S' h => ?_) fun a b ha hb => hb.trans ha.symm
        · unfold f_X6_variable
          rw [s_valueOf hC.1 hv.2 hj]
          exact wp_ifn a6 (wp_ifn e3' (wp_ifp rfl (wp_bds rfl (wp_some ⟨rfl, Fr.rf⟩))))
        · unfold f_X7_variable
          refine wp_ifn (a7 S' h) (wp_bdm (h7 S' h) fun T ⟨mT, n, f⟩ => wp_ifp rfl (wp_gd i10 (wp_some ⟨?_, f⟩)))
          rw [x10]; exact (mT.2.1 j j10).1
      · refine scr (fun r => r = I (dat G.1 1 j)) ok hC hM ?_ (fun S' h => ?_) fun a b ha hb => hb.trans ha.symm
        · unfold f_X6_variable
          rw [s_lowOf hC.1 hv.2 hj]
          exact wp_ifn a6 (wp_ifn e3' (wp_ifn (by decide) (wp_ifp rfl (wp_bds rfl (wp_some ⟨rfl, Fr.rf⟩)))))
        · unfold f_X7_variable
          refine wp_ifn (a7 S' h) (wp_bdm (h7 S' h) fun T ⟨mT, n, f⟩ => wp_ifn (by decide) (wp_ifp rfl (wp_gd i10 (wp_some ⟨?_, f⟩))))
          rw [x10]; exact (mT.2.1 j j10).2.1
      · refine scr (fun r => r = I (dat G.1 2 j)) ok hC hM ?_ (fun S' h => ?_) fun a b ha hb => hb.trans ha.symm
        · unfold f_X6_variable
          rw [s_highOf hC.1 hv.2 hj]
          exact wp_ifn a6 (wp_ifn e3' (wp_ifn (by decide) (wp_ifn (by decide) (wp_ifp rfl (wp_bds rfl (wp_some ⟨rfl, Fr.rf⟩))))))
        · unfold f_X7_variable
          refine wp_ifn (a7 S' h) (wp_bdm (h7 S' h) fun T ⟨mT, n, f⟩ => wp_ifn (by decide) (wp_ifn (by decide) (wp_ifp rfl (wp_gd i10 (wp_some ⟨?_, f⟩)))))
          rw [x10]; exact (mT.2.1 j j10).2.2
      · refine scr (fun r => r = I ((narrowed G.1).1 j)) ok hC hM ?_ (fun S' h => ?_) fun a b ha hb => hb.trans ha.symm
        · unfold f_X6_variable f_X6_narrowed
          refine wp_ifn a6 (wp_ifn e3' (wp_ifn (by decide) (wp_ifn (by decide) (wp_ifn (by decide) (wp_ifn (by decide) (wp_bdm (h6 _ (I ((narrowed G.1).1 j)) fun T n => ?_) ?_))))))
          · rw [if_pos (by decide), s_leastOf j10, (n.2 j hj).1]; rfl
          · rintro ⟨r, T⟩ z; exact wp_u2 (wp_some z)
        · unfold f_X7_variable
          refine wp_ifn (a7 S' h) (wp_bdm (h7 S' h) fun T ⟨mT, n, f⟩ => wp_ifn (by decide) (wp_ifn (by decide) (wp_ifn (by decide) (wp_ifp rfl (wp_gd i10 (wp_some ⟨?_, f⟩))))))
          rw [x10]; exact (n j j10).1
      · refine scr (fun r => r = I ((narrowed G.1).2 j)) ok hC hM ?_ (fun S' h => ?_) fun a b ha hb => hb.trans ha.symm
        · unfold f_X6_variable f_X6_narrowed
          refine wp_ifn a6 (wp_ifn e3' (wp_ifn (by decide) (wp_ifn (by decide) (wp_ifn (by decide) (wp_ifn (by decide) (wp_bdm (h6 _ (I ((narrowed G.1).2 j)) fun T n => ?_) ?_))))))
          · rw [if_neg (by decide), if_pos (by decide), s_mostOf j10, (n.2 j hj).2]; rfl
          · rintro ⟨r, T⟩ z; exact wp_u2 (wp_some z)
        · unfold f_X7_variable
          refine wp_ifn (a7 S' h) (wp_bdm (h7 S' h) fun T ⟨mT, n, f⟩ => wp_ifn (by decide) (wp_ifn (by decide) (wp_ifn (by decide) (wp_ifn (by decide) (wp_ifp rfl (wp_gd i10 (wp_some ⟨?_, f⟩)))))))
          rw [x10]; exact (n j j10).2
      · refine scr (fun r => r = I (wd (narrowed G.1) j)) ok hC hM ?_ (fun S' h => ?_) fun a b ha hb => hb.trans ha.symm
        · unfold f_X6_variable f_X6_narrowed
          refine wp_ifn a6 (wp_ifn e3' (wp_ifn (by decide) (wp_ifn (by decide) (wp_ifn (by decide) (wp_ifn (by decide) (wp_bdm (h6 _ (I (wd (narrowed G.1) j)) fun T n => ?_) ?_))))))
          · rw [if_neg (by decide), if_neg (by decide), s_widthOf n hv.2 hj]; rfl
          · rintro ⟨r, T⟩ z; exact wp_u2 (wp_some z)
        · unfold f_X7_variable
          refine wp_ifn (a7 S' h) (wp_bdm (h7 S' h) fun T ⟨mT, n, f⟩ => wp_ifn (by decide) (wp_ifn (by decide) (wp_ifn (by decide) (wp_ifn (by decide) (wp_ifn (by decide) (wp_ifp rfl ?_))))))
          rw [s_widthM n j10]
          exact wp_bds rfl (wp_some ⟨rfl, f⟩)
      · refine scr (fun r => (r = 1 ∧ free (gh G.1) j) ∨ (r = 0 ∧ ¬ free (gh G.1) j)) ok hC hM ?_ (fun S' h => ?_) ?_
        · unfold f_X6_variable
          refine wp_ifn a6 (wp_ifn e3' (wp_ifn (by decide) (wp_ifn (by decide) (wp_ifn (by decide) (wp_ifp rfl (wp_bdm (s_isFree hC.1 hl (rows_bdd hk) j10) ?_))))))
          rintro r (⟨rfl, z⟩ | ⟨rfl, z⟩)
          · exact wp_some ⟨Or.inl ⟨rfl, z⟩, Fr.rf⟩
          · exact wp_some ⟨Or.inr ⟨rfl, z⟩, Fr.rf⟩
        · unfold f_X7_variable
          refine wp_ifn (a7 S' h) (wp_bdm (h7 S' h) fun T ⟨mT, n, f⟩ => wp_ifn (by decide) (wp_ifn (by decide) (wp_ifn (by decide) (wp_ifn (by decide) (wp_ifn (by decide) (wp_ifn (by decide) (wp_ifp rfl (wp_bdm (s_isFreeM mT hl (rows_bdd hk) j10) ?_))))))))
          rintro r (⟨rfl, z⟩ | ⟨rfl, z⟩)
          · exact wp_some ⟨Or.inl ⟨rfl, z⟩, f⟩
          · exact wp_some ⟨Or.inr ⟨rfl, z⟩, f⟩
        · rintro a b (⟨rfl, z⟩ | ⟨rfl, z⟩) (⟨rfl, y⟩ | ⟨rfl, y⟩)
          · rfl
          · exact absurd z y
          · exact absurd y z
          · rfl
    · refine mk (fun r G' => r = -2 ∧ G' = bump G 1) ok hM ?_ ?_
      · unfold f_X6_variable
        exact wp_ifn a6 (wp_ifp e3 (wp_mono (ref6 r2 ok hC) fun z hz => ⟨hz.2.1, _, ⟨hz.1, rfl⟩, hz.2.2⟩))
      · rintro r S' G' ⟨rfl, rfl⟩ h
        refine ⟨ok, ?_⟩
        unfold f_X7_variable
        refine wp_ifn (a7 S' h) (wp_bdm (s_narrows h.1 hk hg.2.2) fun T ⟨f, n⟩ => ?_)
        refine wp_ifn (ne 0 (by decide)) (wp_ifn (ne 1 (by decide)) (wp_ifn (ne 2 (by decide)) (wp_ifn (ne 3 (by decide)) (wp_ifn (ne 4 (by decide)) (wp_ifn (ne 5 (by decide)) (wp_ifn (ne 6 (by decide)) ?_))))))
        have hT : MI T G := h.sc ok (nm_f f) fun _ _ q => q
        exact wp_mono (ref7 r2 ok hT) fun y hy => ⟨hy.1, (mfr (nm_f f) (fun _ _ q => msc_140 q) (fun _ _ q => q)).tr hy.2.1, hy.2.2⟩
  · unfold f_X6_variable
    rw [if_pos (by rw [e6, e])]
    exact refS r1 ok hC hM fun S' h => by
      unfold f_X7_variable
      rw [if_pos (by rw [in_w h.1 hk, e])]
