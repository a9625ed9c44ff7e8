/-- a world that the class can hold -/
def Cw (w : Wd) : Prop := ∃ S, CW 44 S w
theorem Cw_of {S : Sg} {w : Wd} (hw : CW 1 S w) (hg : wgood w) : Cw w := by
  obtain ⟨T, _, _, c⟩ := s_wcopy (o := 44) hw (wg_l10 hg) (by omega)
  exact ⟨T, c⟩
theorem nw_good {w : Wd} (h : Cw w) (hg : wgood w) (v : Nat) : Cw (nw w v) ∧ wgood (nw w v) := by
  obtain ⟨S, hS⟩ := h
  obtain ⟨z, _, _, _, c, g⟩ := s_takeSum hS hg v
  exact ⟨⟨_, c⟩, g⟩
theorem two7 {T : Sg} {x y z : Int32} (t0 : T.1 164 0 = 0) (t1 : T.1 164 1 = 0) (t2 : T.1 164 2 = 0) (t3 : T.1 164 3 = x) (t4 : T.1 164 4 = y) (t5 : T.1 164 5 = 0) (t6 : T.1 164 6 = y) (t7 : T.1 164 7 = z) : bs (L_X7_two_55 T 400 (0 : Int32)) (fun q => some q) (fun _ => some ((-9 : Int32), T)) = some (tw x y z, T) := by
  have st : ∀ k, k < 4 → ∀ n, L_X7_two_55 T (n + 1) (nI k) = (if T.1 164 (2 * k) < T.1 164 (2 * (k ^^^ 2)) then L_X7_two_55 T n (nI (k + 1)) else if T.1 164 (2 * k + 1) < T.1 164 (2 * (k ^^^ 1) + 1) then L_X7_two_55 T n (nI (k + 1)) else some (.inl (nI (10 * (k / 2) + k % 2), T))) := by
    intro k hk n
    have d : ∀ k, k < 4 → (2 : Int32) * (nI k ^^^ (2 : Int32)) = nI (2 * (k ^^^ 2)) ∧ (2 : Int32) * nI k = nI (2 * k) ∧ (2 : Int32) * (nI k ^^^ (1 : Int32)) + 1 = nI (2 * (k ^^^ 1) + 1) ∧ (10 : Int32) * (nI k / 2) + irem (nI k) 2 = nI (10 * (k / 2) + k % 2) ∧ 2 * (k ^^^ 2) < 8 ∧ 2 * (k ^^^ 1) + 1 < 8 := by decide +kernel
    obtain ⟨d1, d2, d3, d4, d5, d6⟩ := d k hk
    rw [L_X7_two_55, if_pos (show nI k < (4 : Int32) from nI_lt (b := 4) hk (by decide)), d1, d2, d3, d4, nIs, nIs, show inb (nI (2 * (k ^^^ 2))) 8 = true from inb_n d5 (by decide), show inb (nI (2 * k)) 8 = true from inb_n (by omega) (by decide), show inb (nI (2 * (k ^^^ 1) + 1)) 8 = true from inb_n d6 (by decide), show inb (nI (2 * k + 1)) 8 = true from inb_n (by omega) (by decide), ix_n (by omega), ix_n (by omega), ix_n (by omega), ix_n (by omega)]
    rfl
  have s0 : L_X7_two_55 T 400 (nI 0) = (if T.1 164 0 < T.1 164 4 then L_X7_two_55 T 399 (nI 1) else if T.1 164 1 < T.1 164 3 then L_X7_two_55 T 399 (nI 1) else some (.inl (nI 0, T))) := st 0 (by omega) 399
  have s1 : L_X7_two_55 T 399 (nI 1) = (if T.1 164 2 < T.1 164 6 then L_X7_two_55 T 398 (nI 2) else if T.1 164 3 < T.1 164 1 then L_X7_two_55 T 398 (nI 2) else some (.inl (nI 1, T))) := st 1 (by omega) 398
  have s2 : L_X7_two_55 T 398 (nI 2) = (if T.1 164 4 < T.1 164 0 then L_X7_two_55 T 397 (nI 3) else if T.1 164 5 < T.1 164 7 then L_X7_two_55 T 397 (nI 3) else some (.inl (nI 10, T))) := st 2 (by omega) 397
  have s3 : L_X7_two_55 T 397 (nI 3) = (if T.1 164 6 < T.1 164 2 then L_X7_two_55 T 396 (nI 4) else if T.1 164 7 < T.1 164 5 then L_X7_two_55 T 396 (nI 4) else some (.inl (nI 11, T))) := st 3 (by omega) 396
  have s4 : L_X7_two_55 T 396 (nI 4) = some (.inr ()) := by
    rw [show (396 : Nat) = 395 + 1 from rfl, L_X7_two_55, if_neg (show ¬ nI 4 < (4 : Int32) from nI_nlt (b := 4) (Nat.le_refl _) (by decide))]
  rw [t0, t1, t3, t4] at s0
  rw [t1, t2, t3, t6] at s1
  rw [t0, t4, t5, t7] at s2
  rw [t2, t5, t6, t7] at s3
  rw [show (0 : Int32) = nI 0 from rfl] at *
  unfold tw
  rw [show (0 : Int32) = nI 0 from rfl]
  by_cases A : nI 0 < y <;> by_cases B : nI 0 < x <;> by_cases C : x < nI 0 <;> by_cases D : y < nI 0 <;> by_cases E : nI 0 < z <;> by_cases F : z < nI 0 <;> simp only [s0, s1, s2, s3, s4, A, B, C, D, E, F, if_true, if_false, not_true, not_false_iff, and_true, true_and, and_false, false_and, and_self] <;> rfl
theorem p_two {S : Sg} {G : Gst} (ok : GO G) (hC : CI S G) (hM : MI S G) (p q : Int32) : Same (f_X6_two p q S) (f_X7_two p q) := by
  have hg := ok.1
  have hl := wg_l10 hg
  rcases all2 p q with ⟨j, v, hj, e1, e2⟩ | ⟨a, b, ha, hb, rfl, rfl, e1, e2⟩
  · unfold f_X6_two
    rw [e1]
    refine mk (fun r G' => r = v ∧ G' = bump G j) ok hM (wp_lt (wp_ifn hj.ne (wp_mono (ref6 hj ok hC) fun z hz => ⟨hz.2.1, _, ⟨hz.1, rfl⟩, hz.2.2⟩))) ?_
    rintro r S' G' ⟨rfl, rfl⟩ h
    refine ⟨ok, ?_⟩
    unfold f_X7_two
    exact wp_ltq r e2 (wp_ifn hj.ne (ref7 hj ok h))
  · have hga := nw_good (Cw_of hC.1 hg) hg a
    refine mk (fun r G' => r = tw (gn G.1 b) (gn G.1 a) (gn (nw G.1 a) b) ∧ G' = G) ok hM ?_ ?_
    · unfold f_X6_two
      rw [e1]
      refine wp_lt (wp_ifp rfl (wp_bdm (s_mos hC.1 hg (by omega) b) ?_))
      rintro ⟨m1, S1⟩ ⟨h1, f1⟩
      have h1' : m1 = ms G.1 b := h1
      subst h1'
      have c1 := mos_w hC.1 hg (by omega) f1
      refine wp_u2 (wp_lt (wp_bdm (s_wcopy (o := 44) c1 hl (by omega)) fun S2 ⟨f2, c2⟩ => wp_bdm (s_takeSum c2 hg a) ?_))
      rintro ⟨m3, S3⟩ ⟨h3, f3, c3, g3⟩
      have h3' : m3 = ms G.1 a := h3
      subst h3'
      refine wp_u2 (wp_lt (wp_bdm (s_mos c3 g3 (by omega) b) ?_))
      rintro ⟨m4, S4⟩ ⟨h4, f4⟩
      have h4' : m4 = ms (nw G.1 a) b := h4
      subst h4'
      refine wp_u2 (wp_lt ?_)
      have f : Fr csc S S4 := (((f1.mono mos_c).tr (f2.mono cp_c)).tr (f3.mono ts_c)).tr (f4.mono fun o h => by
        have : o = 131 ∨ (44 + 29 ≤ o ∧ o < 44 + 43) := h
        show (30 ≤ o ∧ o < 87) ∨ (116 ≤ o ∧ o < 135); omega)
      show wp (bs (L_X6_two_80 (gn G.1 b) (gn G.1 a) (gn (nw G.1 a) b) S4 400 (0 : Int32)) (fun q => some q) (fun _ => some ((-9 : Int32), S4))) _
      rw [two6 (gn_3 _ _) (gn_3 _ _) (gn_3 _ _)]
      exact wp_some ⟨f.mono csc_c, G, ⟨rfl, rfl⟩, hC.sc ok f⟩
    · rintro r S' G' ⟨rfl, eG⟩ h
      subst eG
      refine ⟨ok, ?_⟩
      unfold f_X7_two
      refine wp_ltq 0 e2 (wp_ifp rfl (wp_bdm (s_findEnds h.1 hg a b hga.2) fun T ⟨f, m, t0, t1, t2, t3, t4, t5, t6, t7⟩ => ?_))
      have hT := h.back ok f m
      rw [two7 t0 t1 t2 t3 t4 t5 t6 t7]
      exact wp_some ⟨rfl, mm_fr f, hT⟩
