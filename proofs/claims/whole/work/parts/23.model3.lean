/-- the row that joins, in reduced form -/
theorem tt_new {g : Gh} {p : Nat} {a : Nat → Int} (ok : gok ((p, a) :: g)) {k : Nat} (hk : k < 10) : tt ((p, a) :: g) p k = gr g a k := by
  have hs := gs_ne g ok.1
  have hp : p < 10 := ok.2.1
  have nz : ∀ x ∈ g, eb p x.1 = 0 := fun x hx => if_neg fun e => by
    have h1 := gr_piv g x hx a
    rw [e] at h1
    exact ok.2.2.1 h1
  have f1 : ∀ k, k < 10 → gr g (eb p) k = eb p k * gs g := fun k hk => gr_free ok.1 nz hk
  have h1 : gs g * gr ((p, a) :: g) (eb p) k = gr g (eb p) k * gr g a p - gr g (eb p) p * gr g a k := g_join ok.1 (p, a) hp (eb p) k hk
  rw [f1 k hk, f1 p hp, show eb p p = 1 from if_pos rfl] at h1
  have h2 : gr ((p, a) :: g) (eb p) k = eb p k * gr g a p - gr g a k := by
    refine Int.eq_of_mul_eq_mul_left hs ?_
    rw [h1]
    grind
  unfold tt
  rw [h2, show gs ((p, a) :: g) = gr g a p from rfl]
  by_cases e : k = p
  · rw [if_pos e, show eb p k = 1 from if_pos e]; omega
  · rw [if_neg e, show eb p k = 0 from if_neg e]; omega
theorem tt_old {g : Gh} {p : Nat} {a : Nat → Int} (ok : gok ((p, a) :: g)) {i : Nat} (hi : i < g.length) {k : Nat} (hk : k < 10) : gs g * tt ((p, a) :: g) (gpv g i) k = gr g a p * tt g (gpv g i) k - tt g (gpv g i) p * gr g a k := by
  have hp : p < 10 := ok.2.1
  have hne : p ≠ gpv g i := fun e => by
    have h1 := gr_gpv hi a
    rw [← e] at h1
    exact ok.2.2.1 h1
  have h1 : gs g * gr ((p, a) :: g) (eb (gpv g i)) k = gr g (eb (gpv g i)) k * gr g a p - gr g (eb (gpv g i)) p * gr g a k := g_join ok.1 (p, a) hp (eb (gpv g i)) k hk
  unfold tt
  rw [if_neg hne, show gs ((p, a) :: g) = gr g a p from rfl]
  by_cases e : k = gpv g i
  · rw [if_pos e, if_pos e]; grind
  · rw [if_neg e, if_neg e]; grind
theorem row_new {g : Gh} {p : Nat} {a x : Nat → Int} (ok : gok ((p, a) :: g)) (hx : PP x (gr g a)) (h0 : 0 < x p) (h1 : gz x 10 = 1) : RowOK ((p, a) :: g) p x := by
  refine ⟨h0, h1, fun k hk => ?_⟩
  rw [tt_new ok hk]
  exact hx.cross ok.2.1 hk
theorem row_keep {g : Gh} {p i : Nat} {a z : Nat → Int} (ok : gok ((p, a) :: g)) (hi : i < g.length) (hz : RowOK g (gpv g i) z) (h0 : z p = 0) : RowOK ((p, a) :: g) (gpv g i) z := by
  have hs := gs_ne g ok.1
  refine ⟨hz.1, hz.2.1, fun k hk => ?_⟩
  have t1 := tt_old ok hi hk
  have t2 := hz.2.2 p ok.2.1
  have t3 := hz.2.2 k hk
  rw [h0, Int.mul_zero] at t2
  have t4 : tt g (gpv g i) p = 0 := by
    rcases Int.mul_eq_zero.mp t2.symm with h | h
    · have := hz.1; omega
    · exact h
  rw [t4] at t1
  refine Int.eq_of_mul_eq_mul_left hs ?_
  have : gs g * (gs ((p, a) :: g) * z k) = gr g a p * (gs g * z k) := by rw [show gs ((p, a) :: g) = gr g a p from rfl]; grind
  rw [this, t3]
  have : gs g * (z (gpv g i) * tt ((p, a) :: g) (gpv g i) k) = z (gpv g i) * (gs g * tt ((p, a) :: g) (gpv g i) k) := by grind
  rw [this, t1]
  grind
theorem row_clear {g : Gh} {p i : Nat} {a x z y : Nat → Int} {c : Int} (ok : gok ((p, a) :: g)) (hi : i < g.length) (hz : RowOK g (gpv g i) z) (hx : PP x (gr g a)) (hxp : 0 < x p) (hc : 0 < c) (hy : ∀ k, k < 10 → c * y k = z k * x p - x k * z p) : RowOK ((p, a) :: g) (gpv g i) (lst y) := by
  have hs := gs_ne g ok.1
  have hq := gpv_lt ok.1 hi
  have hxq : x (gpv g i) = 0 := (hx.z hq).mpr (gr_gpv hi a)
  have hyq : c * y (gpv g i) = z (gpv g i) * x p := by rw [hy _ hq, hxq]; omega
  have hyq0 : 0 < y (gpv g i) := by
    have h1 : 0 < z (gpv g i) * x p := Int.mul_pos hz.1 hxp
    rw [← hyq] at h1
    exact Int.pos_of_mul_pos_right h1 (by omega) |> fun h => h
  have hg0 : gz y 10 ≠ 0 := fun e => by have := gz_z e _ hq; omega
  have hpos : 0 < lst y (gpv g i) := by
    have h1 := lst_mul (y := y) hq
    rcases Int.lt_or_le 0 (lst y (gpv g i)) with h | h
    · exact h
    · have : ((gz y 10 : Nat) : Int) * lst y (gpv g i) ≤ 0 := Int.mul_nonpos_of_nonneg_of_nonpos (by omega) h
      omega
  refine ⟨hpos, lst_prim hg0, fun k hk => ?_⟩
  -- the rows in proportion
  have t1 := tt_old ok hi hk
  have t2 := hz.2.2 p ok.2.1
  have t3 := hz.2.2 k hk
  have t5 := hx.cross ok.2.1 hk
  have main : gr g a p * y k = y (gpv g i) * tt ((p, a) :: g) (gpv g i) k := by
    refine Int.eq_of_mul_eq_mul_left (Int.mul_ne_zero (show c ≠ 0 by omega) hs) ?_
    have e1 : c * gs g * (gr g a p * y k) = gs g * gr g a p * (c * y k) := by grind
    have e2 : gs g * gr g a p * (z k * x p - x k * z p) = gr g a p * x p * (gs g * z k) - (gr g a p * x k) * (gs g * z p) := by grind
    have e3 : c * gs g * (y (gpv g i) * tt ((p, a) :: g) (gpv g i) k) = (c * y (gpv g i)) * (gs g * tt ((p, a) :: g) (gpv g i) k) := by grind
    rw [e1, hy k hk, e2, t3, t2, t5, e3, hyq, t1]
    grind
  have hgz : ((gz y 10 : Nat) : Int) ≠ 0 := by omega
  refine Int.eq_of_mul_eq_mul_left hgz ?_
  have e4 : ((gz y 10 : Nat) : Int) * (gs ((p, a) :: g) * lst y k) = gr g a p * (((gz y 10 : Nat) : Int) * lst y k) := by rw [show gs ((p, a) :: g) = gr g a p from rfl]; grind
  have e5 : ((gz y 10 : Nat) : Int) * (lst y (gpv g i) * tt ((p, a) :: g) (gpv g i) k) = (((gz y 10 : Nat) : Int) * lst y (gpv g i)) * tt ((p, a) :: g) (gpv g i) k := by grind
  rw [e4, e5, lst_mul hk, lst_mul hq, main]
/-- as RA, each row by itself -/
def RX (oj oi fl : Nat) (S : Sg) (g : Gh) : Prop := S.1 140 fl = nI g.length ∧ ∀ i, i < g.length → S.1 oi i = nI (gpv g i) ∧ ∃ z, RowOK g (gpv g i) z ∧ rowA S oj (10 * i) z
theorem RX.ra {oj oi fl : Nat} {S : Sg} {g : Gh} (h : RX oj oi fl S g) : ∃ z, RA oj oi fl S g z := by
  obtain ⟨h1, h2⟩ := h
  refine ⟨fun i => if hi : i < g.length then Classical.choose (h2 i hi).2 else fun _ => 0, h1, fun i hi => ⟨(h2 i hi).1, ?_⟩⟩
  have hs := Classical.choose_spec (h2 i hi).2
  simp only [dif_pos hi]
  exact hs
theorem RA.rx {oj oi fl : Nat} {S : Sg} {g : Gh} {z : Nat → Nat → Int} (h : RA oj oi fl S g z) : RX oj oi fl S g := ⟨h.1, fun i hi => ⟨(h.2 i hi).1, z i, (h.2 i hi).2⟩⟩
-- what the reference's arithmetic writes
def Fm (AI AJ : Nat → Nat → Prop) (S S' : Sg) : Prop := (∀ o k, ¬ AI o k → S'.1 o k = S.1 o k) ∧ ∀ o k, ¬ AJ o k → S'.2 o k = S.2 o k
theorem Fm.rf {AI AJ : Nat → Nat → Prop} {S : Sg} : Fm AI AJ S S := ⟨fun _ _ _ => rfl, fun _ _ _ => rfl⟩
theorem Fm.tr {AI AJ : Nat → Nat → Prop} {S S' S'' : Sg} (h : Fm AI AJ S S') (h' : Fm AI AJ S' S'') : Fm AI AJ S S'' := ⟨fun o k q => (h'.1 o k q).trans (h.1 o k q), fun o k q => (h'.2 o k q).trans (h.2 o k q)⟩
theorem Fm.mono {AI AJ BI BJ : Nat → Nat → Prop} {S S' : Sg} (h : Fm AI AJ S S') (k1 : ∀ o k, AI o k → BI o k) (k2 : ∀ o k, AJ o k → BJ o k) : Fm BI BJ S S' := ⟨fun o k q => h.1 o k fun r => q (k1 o k r), fun o k q => h.2 o k fun r => q (k2 o k r)⟩
theorem Fm.setI {AI AJ : Nat → Nat → Prop} {S : Sg} {o k : Nat} {v : Int32} (h : AI o k) : Fm AI AJ S (setI S o k v) := ⟨fun o' k' q => setI_n fun e => q (by rw [e.1, e.2]; exact h), fun _ _ _ => rfl⟩
theorem Fm.setJ {AI AJ : Nat → Nat → Prop} {S : Sg} {o k : Nat} {v : Int64} (h : AJ o k) : Fm AI AJ S (setJ S o k v) := ⟨fun _ _ _ => rfl, fun o' k' q => setJ_n fun e => q (by rw [e.1, e.2]; exact h)⟩
theorem Fo.fm {AI AJ : Nat → Nat → Prop} {a f : Nat} {S S' : Sg} (h : Fo a f S S') (k : ∀ j, AJ a j) : Fm AI AJ S S' := ⟨fun o j _ => by rw [h.1], fun o j q => by
  have e : o ≠ a := fun e => q (by rw [e]; exact k j)
  rw [h.2.1 o e]⟩
abbrev adI : Nat → Nat → Prop := fun o k => o = 153 ∨ (o = 140 ∧ k = 19)
abbrev adJ : Nat → Nat → Prop := fun o _ => o = 150 ∨ o = 151
theorem s_adds {a1 n1 f1 : Nat} {S : Sg} {g : Gh} {a : Nat → Int} (hg : gsmall g 9) (hR : RX 150 153 19 S g) (ha : ∀ k, k < 10 → S.1 a1 (f1 + k) = I (a k)) (hab : bdd a 3) (hdt : dt 10 a a ≤ 72) (hn : f1 + 10 ≤ n1 ∧ n1 ≤ 500) :
    wp (f_X7_adds a1 n1 (nI f1) S) (fun S' => Fm adI adJ S S' ∧ ((zer g a ∧ RX 150 153 19 S' g) ∨ ∃ p, gok ((p, a) :: g) ∧ RX 150 153 19 S' ((p, a) :: g))) := by
  obtain ⟨z, hRz⟩ := hR.ra
  have hl := hg.2.2
  unfold f_X7_adds
  refine wp_bdm (s_reduces hg hRz ha hab hn) ?_
  intro S1 ⟨p1, x, p2, p3, p4⟩
  have bx : bdd x 1935000000 := p3.bdd (by decide) p4 (gr_bd hg hdt)
  have m1 : Fm adI adJ S S1 := p1.fm fun _ => Or.inr rfl
  have hRz1 : RA 150 153 19 S1 g z := hRz.fo p1.1 (p1.2.1 150 (by decide))
  refine wp_bdm (s_firstOfOne p2 (bdd_mono bx (by decide))) ?_
  intro r hr
  rcases firstOf_fp hr with ⟨p, hp, rfl⟩ | ⟨rfl, hz⟩
  · have hp10 := hp.1
    have ok : gok ((p, a) :: g) := ⟨hg.1, hp10, fun e => hp.2.1 ((p3.z hp10).mpr e), fun c hc => (p3.z (by omega)).mp (hp.2.2 c hc)⟩
    have bxp := bx p hp10
    have exp := p2 p hp10
    rw [Nat.zero_add] at exp
    refine wp_ifn (nI_pos (by omega)) (wp_gd (inn' hp10 (by omega)) ?_)
    rw [ixn (by omega), exp]
    -- the sign
    obtain ⟨sg, hsg, esg, hpos⟩ : ∃ sg : Int, (sg = 1 ∨ sg = -1) ∧ (if J (x p) < (0 : Int64) then (-1 : Int64) else 1) = J sg ∧ 0 < x p * sg := by
      have c : J (x p) < (0 : Int64) ↔ x p < 0 := J_lt (b := 0) (by omega) (by omega)
      by_cases e : x p < 0
      · exact ⟨-1, Or.inr rfl, by rw [if_pos (c.mpr e)]; rfl, by omega⟩
      · refine ⟨1, Or.inl rfl, by rw [if_neg (fun q => e (c.mp q))]; rfl, ?_⟩
        have := hp.2.1
        omega
    refine wp_ltq (J sg) esg ?_
    refine wp_bdm (up (F := fun n k S' => L_X7_adds_39 a1 n1 (nI p) (J sg) n (nI k) S') 10 (fun k S' => Fo 151 0 S1 S' ∧ ∀ j, j < 10 → S'.2 151 (0 + j) = J (if j < k then x j * sg else x j)) (fun S' => Fo 151 0 S1 S' ∧ rowA S' 151 0 (fun j => x j * sg)) ?_ ?_ 400 0 S1 (by omega) (by omega) ⟨Fo.rf, fun j hj => by rw [if_neg (by omega)]; exact p2 j hj⟩) ?_
    · intro n k S2 hk ⟨q1, q2⟩ ih
      rw [L_X7_adds_39]
      refine wp_ifp (lt10 hk) (wp_gd (inn' hk (by omega)) ?_)
      have e0 := q2 k hk
      rw [Nat.zero_add, if_neg (by omega)] at e0
      show wp (L_X7_adds_39 a1 n1 (nI p) (J sg) n (nI k + 1) (setJ S2 151 (ix (nI k)) (S2.2 151 (ix (nI k)) * J sg))) _
      rw [nIs, ixn (by omega), e0, J_mul]
      have hs : Fo 151 0 S2 (setJ S2 151 k (J (x k * sg))) := by
        have := Fo.set (a := 151) (f := 0) (S := S2) (v := J (x k * sg)) hk
        rwa [Nat.zero_add] at this
      refine ih _ ⟨q1.tr hs, fun j hj => ?_⟩
      by_cases e : j = k
      · rw [e, Nat.zero_add, setJ_s, if_pos (by omega)]
      · rw [setJ_n (by omega), q2 j hj]
        by_cases e2 : j < k
        · rw [if_pos e2, if_pos (by omega)]
        · rw [if_neg e2, if_neg (by omega)]
    · intro n S2 ⟨q1, q2⟩
      rw [L_X7_adds_39]
      exact wp_ifn (nlt10 (Nat.le_refl _) (by omega)) (wp_some ⟨q1, fun j hj => by rw [q2 j hj, if_pos hj]⟩)
    intro S2 ⟨q1, q2⟩
    have b2 : bdd (fun j => x j * sg) 9000000000000000000 := fun j hj => by
      have := bx j hj
      show _ ≤ x j * sg ∧ x j * sg ≤ _
      rcases hsg with e | e <;> rw [e] <;> omega
    refine wp_bdm (s_makesLeast (f0 := 0) q2 b2 (by omega) (by omega)) ?_
    intro S3 ⟨r1, r2⟩
    have hg0 : gz (fun j => x j * sg) 10 ≠ 0 := fun e => by have := gz_z e p hp10; omega
    generalize hx3 : lst (fun j => x j * sg) = x3 at r2
    have m3 : ∀ k, k < 10 → ((gz (fun j => x j * sg) 10 : Nat) : Int) * x3 k = x k * sg := fun k hk => by rw [← hx3]; exact lst_mul (y := fun j => x j * sg) hk
    have prim3 : gz x3 10 = 1 := by rw [← hx3]; exact lst_prim hg0
    have pos3 : 0 < x3 p := by
      have h1 := m3 p hp10
      rcases Int.lt_or_le 0 (x3 p) with h | h
      · exact h
      · have : ((gz (fun j => x j * sg) 10 : Nat) : Int) * x3 p ≤ 0 := Int.mul_nonpos_of_nonneg_of_nonpos (by omega) h
        omega
    have pp3 : PP x3 (gr g a) := by
      obtain ⟨A, B, hA, hB, h⟩ := p3
      refine ⟨A * ((gz (fun j => x j * sg) 10 : Nat) : Int), B * sg, Int.mul_ne_zero hA (by omega), Int.mul_ne_zero hB (by omega), fun k hk => ?_⟩
      rw [Int.mul_assoc, m3 k hk]
      have := h k hk
      grind
    have b3 : bdd x3 1935000000 := pp3.bdd (by decide) (Or.inr prim3) (gr_bd hg hdt)
    have f13 : Fo 151 0 S1 S3 := q1.tr r1
    -- the rows that were there
    refine wp_bdm (up (F := fun n k S' => L_X7_adds_75 a1 n1 (nI p) n (nI k) S') g.length
      (fun i S' => S'.1 = S1.1 ∧ (∀ o, o ≠ 150 → S'.2 o = S3.2 o) ∧ ∀ j, j < g.length → (j < i → ∃ z', RowOK ((p, a) :: g) (gpv g j) z' ∧ rowA S' 150 (10 * j) z') ∧ (i ≤ j → rowA S' 150 (10 * j) (z j)))
      (fun S' => S'.1 = S1.1 ∧ (∀ o, o ≠ 150 → S'.2 o = S3.2 o) ∧ ∀ j, j < g.length → ∃ z', RowOK ((p, a) :: g) (gpv g j) z' ∧ rowA S' 150 (10 * j) z') ?_ ?_ 400 0 S3 (by omega) (by omega) ⟨f13.1, fun _ _ => rfl, fun j hj => ⟨fun h => by omega, fun _ => ((hRz1.2 j hj).2.2).fo f13 (Or.inl (by decide))⟩⟩) ?_
    · intro n i S4 hi ⟨u1, u2, u3⟩ ih
      rw [L_X7_adds_75]
      have hRi := hRz1.2 i hi
      refine wp_ifp (by rw [u1, hRz1.1]; exact nI_lt hi (by omega)) ?_
      rw [ten, nI_mul, show (0 : Int32) = nI 0 from rfl]
      have hx4 : rowA S4 151 0 x3 := fun k hk => by rw [u2 151 (by decide)]; exact r2 k hk
      refine wp_bdm (s_clears ((u3 i hi).2 (Nat.le_refl _)) hx4 (by decide) (RowOK.bdd hg hi hRi.2.1) b3 (by decide) (by decide) (by decide) hp10 (by omega) ⟨by omega, by omega⟩ ⟨by omega, by omega⟩) ?_
      intro S5 ⟨v1, v2⟩
      show wp (L_X7_adds_75 a1 n1 (nI p) n (nI i + 1) S5) _
      rw [nIs]
      refine ih _ ⟨v1.1.trans u1, fun o ho => (v1.2.1 o ho).trans (u2 o ho), fun j hj => ⟨fun hji => ?_, fun hij => ((u3 j hj).2 (by omega)).fo v1 (by omega)⟩⟩
      by_cases e : j = i
      · subst e
        rcases v2 with ⟨w1, w2⟩ | ⟨w1, y, c, hc, hy, w2⟩
        · exact ⟨z j, row_keep ok hj hRi.2.1 w1, w2⟩
        · exact ⟨lst y, row_clear ok hj hRi.2.1 pp3 pos3 hc hy, w2⟩
      · obtain ⟨z', h1, h2⟩ := (u3 j hj).1 (by omega)
        exact ⟨z', h1, h2.fo v1 (by omega)⟩
    · intro n S4 ⟨u1, u2, u3⟩
      rw [L_X7_adds_75]
      exact wp_ifn (by rw [u1, hRz1.1]; exact nI_nlt (Nat.le_refl _) (by omega)) (wp_some ⟨u1, u2, fun j hj => (u3 j hj).1 hj⟩)
    intro S4 ⟨u1, u2, u3⟩
    have x4 : ∀ k, k < 10 → S4.2 151 k = J (x3 k) := fun k hk => by
      have := r2 k hk
      rw [Nat.zero_add] at this
      rw [u2 151 (by decide), this]
    have e19 : S4.1 140 19 = nI g.length := by rw [u1]; exact hRz1.1
    refine wp_bdm (up (F := fun n k S' => L_X7_adds_111 a1 n1 (nI p) n (nI k) S') 10 (fun k S' => Fo 150 (10 * g.length) S4 S' ∧ ∀ j, j < k → S'.2 150 (10 * g.length + j) = J (x3 j)) (fun S' => Fo 150 (10 * g.length) S4 S' ∧ rowA S' 150 (10 * g.length) x3) ?_ ?_ 400 0 S4 (by omega) (by omega) ⟨Fo.rf, fun j hj => by omega⟩) ?_
    · intro n k S5 hk ⟨v1, v2⟩ ih
      rw [L_X7_adds_111]
      refine wp_ifp (lt10 hk) (wp_gd (inn' hk (by omega)) ?_)
      have e5 : S5.1 140 19 = nI g.length := by rw [v1.1]; exact e19
      rw [e5, ten, nI_mul, nI_add, ixn (by omega), ixn (by omega)]
      refine wp_gd (inn' (by omega) (by omega)) ?_
      show wp (L_X7_adds_111 a1 n1 (nI p) n (nI k + 1) (setJ S5 150 (10 * g.length + k) (S5.2 151 k))) _
      rw [nIs, v1.2.1 151 (by decide), x4 k hk]
      refine ih _ ⟨v1.tr (Fo.set hk), fun j hj => ?_⟩
      by_cases e : j = k
      · rw [e, setJ_s]
      · rw [setJ_n (by omega)]; exact v2 j (by omega)
    · intro n S5 ⟨v1, v2⟩
      rw [L_X7_adds_111]
      exact wp_ifn (nlt10 (Nat.le_refl _) (by omega)) (wp_some ⟨v1, v2⟩)
    intro S5 ⟨v1, v2⟩
    have e5 : S5.1 140 19 = nI g.length := by rw [v1.1]; exact e19
    rw [e5]
    refine wp_gd (inn' (by omega) (by omega)) (wp_lt (wp_lt (wp_some ?_)))
    rw [ixn (by omega)]
    generalize hS6 : setI S5 153 g.length (nI p) = S6
    have e6 : S6.1 140 19 = nI g.length := by rw [← hS6, setI_n (by omega)]; exact e5
    rw [e6, nIs]
    generalize hS7 : setI S6 140 19 (nI (g.length + 1)) = S7
    have j7 : S7.2 = S5.2 := by rw [← hS7, ← hS6]; rfl
    have i7 : ∀ i, S7.1 153 i = if i = g.length then nI p else S.1 153 i := fun i => by
      rw [← hS7, setI_n (by omega), ← hS6]
      by_cases e : i = g.length
      · rw [if_pos e, e, setI_s]
      · rw [if_neg e, setI_n (by omega), v1.1, u1, p1.1]
    refine ⟨?_, Or.inr ⟨p, ok, ?_, fun i hi => ?_⟩⟩
    · have m5 : Fm adI adJ S S5 := ⟨fun o k _ => by rw [v1.1, u1, p1.1], fun o k q => by
        have h0 : o ≠ 150 ∧ o ≠ 151 := ⟨fun e => q (Or.inl e), fun e => q (Or.inr e)⟩
        rw [v1.2.1 o h0.1, u2 o h0.1, f13.2.1 o h0.2, p1.2.1 o h0.2]⟩
      have m6 : Fm adI adJ S5 S6 := by rw [← hS6]; exact Fm.setI (Or.inl rfl)
      have m7 : Fm adI adJ S6 S7 := by rw [← hS7]; exact Fm.setI (Or.inr ⟨rfl, rfl⟩)
      exact (m5.tr m6).tr m7
    · rw [← hS7, setI_s]; rfl
    · have hi' : i < g.length + 1 := hi
      by_cases e : i = g.length
      · subst e
        rw [gpv_new]
        exact ⟨by rw [i7, if_pos rfl], x3, row_new ok pp3 pos3 prim3, fun k hk => by rw [j7]; exact v2 k hk⟩
      · rw [gpv_old (by omega)]
        obtain ⟨z', h1, h2⟩ := u3 i (by omega)
        refine ⟨by rw [i7, if_neg e]; exact (hRz.2 i (by omega)).1, z', h1, fun k hk => ?_⟩
        rw [j7, v1.2.2 _ (by omega)]
        exact h2 k hk
  · refine wp_ifp (by decide) (wp_some ⟨m1, Or.inl ⟨fun c hc => (p3.z hc).mp (hz c hc), hRz1.rx⟩⟩)
