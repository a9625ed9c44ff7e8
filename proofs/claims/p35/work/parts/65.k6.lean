/-! the six questions of the law -/
theorem l385 {ba Ls : Nat} {xs : Nat → Int32} {v2 v3 v4 : Int32} (hL : Ls ≤ 260) {S : Sg} {w : Wd} {kp : Option Wd} (h : KI S w kp) : wp (L_L_law_385 ba Ls xs v2 v3 v4 400 (0 : Int32) S) (fun z => ∃ T w', z = .inr T ∧ KI T w' kp) := by
  refine up (F := fun n k (S : Sg) => L_L_law_385 ba Ls xs v2 v3 v4 n (nI k) S) 6 (fun _ S => ∃ w', KI S w' kp) (fun z => ∃ T w', z = .inr T ∧ KI T w' kp) ?_ ?_ 400 0 S (by omega) (by omega) ⟨w, h⟩
  · rintro n k S hk ⟨w, h⟩ ih
    have fin : ∀ T, (∃ w', KI T w' kp) → wp (L_L_law_385 ba Ls xs v2 v3 v4 n (nI k + 1) T) (fun z => ∃ T w', z = .inr T ∧ KI T w' kp) := fun T hT => by
      rw [nIs]; exact ih T hT
    obtain ⟨x, hx⟩ := cell_ok (ba := ba) (xs := xs) (S := S) hL (show 26 + k < 1000 by omega)
    obtain ⟨r, hr, er⟩ := pick_ok x (n := 255) (by omega) (by omega)
    obtain ⟨kd, hkd, ekd⟩ := pick_ok (isr x (8 : Int32)) (n := 3) (by omega) (by omega)
    obtain ⟨r15, hr15, er15⟩ := pick_ok (isr x (10 : Int32)) (n := 3) (by omega) (by omega)
    rw [L_L_law_385, show (26 : Int32) + nI k = nI (26 + k) from nI_add 26 k]
    refine wp_ifp (nI_lt (b := 6) hk (by decide)) (wp_bds hx (wp_bds er (wp_ltq (nI (1 + r)) (nI_add 1 r) (wp_bds ekd ?_))))
    obtain ⟨c, hc, ec, ea⟩ := band (isr x (10 : Int32)) (nI (1 + r))
    refine wp_J (fun b => (qv (nI kd) b ∧ f_X2_misfitOf (nI kd) (nI (1 + r)) b = 0) ∨ (nI kd = (1 : Int32) ∧ b = 0)) (fun b hb => ?_) (fun J hJ => ?_)
    · refine wp_J (fun _ => qv (nI kd) b ∧ f_X2_misfitOf (nI kd) (nI (1 + r)) b = 0) ?_ (fun J hJ => ?_)
      · rintro _ ⟨hq, he⟩
        refine wp_bdm (k_would h hq he) ?_
        rintro ⟨m, S1⟩ ⟨hm, h1⟩
        have hm : MM w (nI kd) (nI (1 + r)) b m := hm
        have h1 : KI S1 w kp := h1
        refine wp_u2 (wp_bds (k_count0 h1) (wp_bdm (l501 h1 hq) ?_))
        rintro ⟨t, S2⟩ ⟨et, eS⟩
        have et : t = I (tans w (wq (nI kd) (nI (1 + r)) b)) := et
        have eS : S2 = S1 := eS
        subst et eS
        refine wp_u2 (wp_bdm (k_ask h1 hq he) ?_)
        rintro ⟨r6, S3⟩ ⟨m', hm', hd⟩
        have em : m' = m := Meet_u hm' hm
        subst em
        have hl := wg_len h.1
        have F : ∃ w', KI S3 w' kp ∧ r6 = (if m' = (2 : Int32) then (1000000005 : Int32) else I (tans w (wq (nI kd) (nI (1 + r)) b))) ∧ nI (gh w').length = nI (gh w).length + (if m' = (1 : Int32) then (1 : Int32) else (0 : Int32)) ∧ (m' ≠ 2 → MM w' (nI kd) (nI (1 + r)) b 0 ∧ tans w' (wq (nI kd) (nI (1 + r)) b) = tans w (wq (nI kd) (nI (1 + r)) b)) ∧ (m' = 1 → dat w' 3 (gh w).length = tans w (wq (nI kd) (nI (1 + r)) b) ∧ num w' 1 = num w 1 ∧ num w' 2 = num w 2 ∧ (gh w').length = (gh w).length + 1) := by
          rcases hd with ⟨rfl, e6, h3⟩ | ⟨rfl, e6, h3⟩ | ⟨rfl, e6, q, gk, h3⟩
          · exact ⟨w, h3, e6, (Int32.add_zero _).symm, fun _ => ⟨hm, rfl⟩, fun q => absurd q (by decide)⟩
          · exact ⟨w, h3, e6, (Int32.add_zero _).symm, fun q => absurd rfl q, fun q => absurd q (by decide)⟩
          · exact ⟨_, h3, e6, (nIs _).symm, fun _ => ⟨Or.inl ⟨rfl, zer_join gk⟩, tans_join⟩, fun _ => ⟨if_pos ⟨rfl, rfl⟩, rfl, rfl, rfl⟩⟩
        obtain ⟨w', h3, e6, el, f2, f1⟩ := F
        refine wp_u2 (wp_ltq _ rfl (wp_ifp e6 (wp_bds (k_count0 h3) (wp_ltq _ rfl (wp_ifp el ?_)))))
        refine wp_J (fun S4 => KI S4 w' kp) (fun S4 h4 => ?_) (fun J3 hJ3 => ?_)
        · refine wp_J (fun S5 => KI S5 w' kp) (fun S5 h5 => ?_) (fun J4 hJ4 => ?_)
          · refine wp_lt (wp_bsm (l693 h5) (fun q ⟨T, e, _⟩ => nomatch e) ?_)
            rintro S6' ⟨S6, e, h6⟩
            cases e
            have hrule : m' = 1 → ¬ forb (gh w) (qrow w (wq (nI kd) (nI (1 + r)) b)) (szOf (wq (nI kd) (nI (1 + r)) b) 8) (num w 1) (num w 2) := fun e => by
              rcases hm with ⟨q, _⟩ | ⟨q, _⟩ | ⟨_, _, _, q⟩
              · exact absurd (q.symm.trans e) (by decide)
              · exact absurd (q.symm.trans e) (by decide)
              · exact q
            refine wp_J (fun _ => True) (fun _ _ => ?_) (fun J5 hJ5 => ?_)
            · refine wp_if (fun e1 => wp_bds (k_count2 h6) (wp_if (fun e3 => wp_bds (k_count0 h6) (wp_bds (k_count3 h6) (wp_ifn ?_ (wp_lt (fin _ ⟨_, h6⟩))))) (fun _ => wp_lt (fin _ ⟨_, h6⟩)))) (fun _ => wp_lt (fin _ ⟨_, h6⟩))
              obtain ⟨_, n1, n2, ll⟩ := f1 e1
              have hn1 := h.1.1.2.2.2.1
              have hn2 := h.1.1.2.2.2.2.1
              have e3' : num w 1 = 3 := by
                have e3 : nI (num w' 1) = nI 3 := e3
                rw [n1] at e3
                exact (nI_eq (by omega) (by omega)).mp e3
              have hf : ¬ num w 2 < (gh w).length + 1 := fun q => hrule e1 (Or.inr (Or.inr ⟨e3', q⟩))
              rw [n2, ll]
              exact nI_nlt (by omega) (by omega)
            · refine wp_if (fun e1 => wp_if (fun e0 => wp_bds (k_count2 h6) (wp_if (fun e3 => ?_) (fun _ => hJ5 () trivial))) (fun _ => hJ5 () trivial)) (fun _ => hJ5 () trivial)
              obtain ⟨_, n1, n2, ll⟩ := f1 e1
              have hn1 := h.1.1.2.2.2.1
              have e3' : num w 1 = 1 := by
                have e3 : nI (num w' 1) = nI 1 := e3
                rw [n1] at e3
                exact (nI_eq (by omega) (by omega)).mp e3
              have hf : ¬ (szOf (wq (nI kd) (nI (1 + r)) b) 8 < 2 ∨ 6 < szOf (wq (nI kd) (nI (1 + r)) b) 8) := fun q => hrule e1 (Or.inl ⟨e3', q⟩)
              have e0' : nI kd = (0 : Int32) := e0
              have ew : wq (nI kd) (nI (1 + r)) b = wq 0 (nI (1 + r)) 0 := by
                rw [e0']
                funext p
                rw [wq_0, wq_0]
              rw [ew] at hf
              have hs8 := szOf_le (wq 0 (nI (1 + r)) 0) 8
              rw [bc_sz (1 + r) (by omega)]
              exact wp_ifn (nI_nlt (b := 2) (by omega) (by omega)) (wp_ifn (nI_nlt (a := 6) (by omega) (by omega)) (hJ5 () trivial))
          · refine wp_if (fun e1 => ?_) (fun _ => hJ4 S4 h4)
            obtain ⟨dd, _, _, ll⟩ := f1 e1
            refine wp_bds (k_answer h4 (i := (gh w).length) (by omega)) (wp_u2 (wp_ifp ?_ (hJ4 S4 h4)))
            rw [dd]
        · refine wp_if (fun _ => hJ3 S3 h3) (fun e2 => ?_)
          obtain ⟨mz, tz⟩ := f2 e2
          refine wp_bdm (k_would h3 hq he) ?_
          rintro ⟨m2, S8⟩ ⟨hm2, h8⟩
          have z2 : m2 = 0 := Meet_u hm2 mz
          refine wp_u2 (wp_ifp z2 (wp_bdm (k_ask h8 hq he) ?_))
          rintro ⟨r14, S9⟩ ⟨m3, hm3, hd3⟩
          have z3 : m3 = 0 := Meet_u hm3 mz
          rcases hd3 with ⟨_, e14, h9⟩ | ⟨q, _⟩ | ⟨q, _⟩
          · have e14 : r14 = I (tans w' (wq (nI kd) (nI (1 + r)) b)) := e14
            exact wp_u2 (wp_ifp (by rw [e14, tz]) (hJ3 S9 h9))
          · exact absurd (q.symm.trans z3) (by decide)
          · exact absurd (q.symm.trans z3) (by decide)
      · refine wp_if (fun e1 => wp_if (fun _ => wp_lt (fin S ⟨_, h⟩)) (fun e0 => hJ () ?_)) (fun e1 => hJ () ?_)
        · rcases hb with q | ⟨_, q⟩
          · exact q
          · exact absurd q e0
        · rcases hb with q | ⟨q, _⟩
          · exact q
          · exact absurd q e1
    · have hk3 : kd = 0 ∨ kd = 1 ∨ kd = 2 := by omega
      rcases hk3 with rfl | rfl | rfl
      · refine wp_ifn (by decide) (wp_bds er15 (hJ _ (Or.inl ⟨Or.inl rfl, mis_f0 (by omega) (by omega) _⟩)))
      · refine wp_ifp rfl (hJ _ ?_)
        rw [ec] at ea ⊢
        by_cases u : c = 0
        · subst u
          exact Or.inr ⟨rfl, rfl⟩
        · exact Or.inl ⟨Or.inr (Or.inl rfl), mis_f1 (by omega) (by omega) (by omega) hc ea⟩
      · refine wp_ifn (by decide) (wp_bds er15 (hJ _ ?_))
        rw [show (1 : Int32) + nI r15 = nI (1 + r15) from nI_add 1 r15]
        exact Or.inl ⟨Or.inr (Or.inr ⟨rfl, 1 + r15, by omega, by omega, rfl⟩), mis_f2 (by omega) (by omega) (by omega) (by omega)⟩
  · rintro n S ⟨w', h⟩
    rw [L_L_law_385]
    exact wp_ifn (nI_nlt (b := 6) (Nat.le_refl _) (by omega)) (wp_some ⟨S, w', rfl, h⟩)
/-- the law answers 1 -/
theorem law_ok {ba Ls : Nat} {xs : Nat → Int32} (hL : Ls ≤ 260) {S : Sg} {w : Wd} {kp : Option Wd} (h : KI S w kp) : wp (f_L_law ba Ls xs S) (fun z => z.1 = 1) := by
  unfold f_L_law
  refine wp_bdm (k_guard hL h) fun S1 ⟨w, h1⟩ => wp_bdm (k_image h1) ?_
  rintro ⟨r1, S2⟩ ⟨e1, h2⟩
  have e1 : r1 = nI (gh w).length := e1
  subst e1
  have hg := h2.1
  have ok : gok (gh w) := hg.1.2.2.2.2.2.2.1
  have hn := hg.1.2.2.1
  refine wp_u2 (wp_bds (k_count1 h2) (wp_bsm (l29 h2) (fun q ⟨T, e, _⟩ => nomatch e) ?_))
  rintro S3' ⟨S3, e, h3⟩
  cases e
  rw [k_pivots h3]
  refine wp_lt (wp_ifp (bc_piv ok) (wp_ifp (nI_lt (rank_lt hg) (by omega)) (wp_bdm (k_sums h3).1 ?_)))
  rintro ⟨r3, S4⟩ ⟨e3, h4⟩
  refine wp_u2 (wp_bdm (k_sums h4).2.1 ?_)
  rintro ⟨r4, S5⟩ ⟨e4, h5⟩
  refine wp_u2 (wp_bdm (k_sums h5).2.2 ?_)
  rintro ⟨r5, S6⟩ ⟨e5, h6⟩
  have e3 : r3 = nI (cm w (nI 1) 255) := e3
  have e4 : r4 = nI (cm w (nI 2) 255) := e4
  have e5 : r5 = nI (cm w (nI 0) 255) := e5
  refine wp_u2 (wp_ifp (by rw [e3, e4, e5, nI_add, nI_add, cm_sum]; rfl) (wp_bsm (l234 h6) (fun q ⟨T, e, _⟩ => nomatch e) ?_))
  rintro S7' ⟨S7, e, h7⟩
  cases e
  refine wp_bsm (l385 hL h7) (fun q ⟨T, w', e, _⟩ => nomatch e) ?_
  rintro S8' ⟨S8, w', e, h8⟩
  cases e
  refine wp_bdm (k_on h8) ?_
  rintro ⟨r6, S9⟩ ⟨e6, h9⟩
  refine wp_u2 (wp_ifp e6 (wp_bds (k_count0 h9) (wp_ifp rfl (wp_bds (k_count1 h9) (wp_lt (wp_some ?_))))))
  show (if nI (num w 0) = nI (num w 0) then (if f_X6_pivots S9 = pbits (gh w) then (1 : Int32) else 0) else 0) = 1
  rw [if_pos rfl, if_pos (k_pivots h9)]
