def rowA (S : Sg) (a f : Nat) (y : Nat → Int) : Prop := ∀ k, k < 10 → S.2 a (f + k) = J (y k)
/-- all but one row of a long array stays -/
def Fo (a f : Nat) (S S' : Sg) : Prop := S'.1 = S.1 ∧ (∀ o, o ≠ a → S'.2 o = S.2 o) ∧ ∀ j, j < f ∨ f + 10 ≤ j → S'.2 a j = S.2 a j
theorem Fo.rf {a f : Nat} {S : Sg} : Fo a f S S := ⟨rfl, fun _ _ => rfl, fun _ _ => rfl⟩
theorem Fo.tr {a f : Nat} {S S' S'' : Sg} (h : Fo a f S S') (h' : Fo a f S' S'') : Fo a f S S'' := ⟨h'.1.trans h.1, fun o ho => (h'.2.1 o ho).trans (h.2.1 o ho), fun j hj => (h'.2.2 j hj).trans (h.2.2 j hj)⟩
theorem Fo.set {a f k : Nat} {S : Sg} {v : Int64} (hk : k < 10) : Fo a f S (setJ S a (f + k) v) := ⟨rfl, fun o ho => (setJ_o ho).2, fun j hj => setJ_n (by omega)⟩
theorem rowA.fo {S S' : Sg} {a f a' f' : Nat} {y : Nat → Int} (h : rowA S a' f' y) (hf : Fo a f S S') (hd : a' ≠ a ∨ f' + 10 ≤ f ∨ f + 10 ≤ f') : rowA S' a' f' y := fun k hk => by
  by_cases e : a' = a
  · subst e
    rw [hf.2.2 _ (by omega)]
    exact h k hk
  · rw [hf.2.1 a' e]
    exact h k hk
theorem gz_le {z : Nat → Int} {B : Int} (hB : 0 ≤ B) (h : bdd z B) : ∀ n, n ≤ 10 → ((gz z n : Nat) : Int) ≤ B := by
  intro n
  induction n with
  | zero => intro _; exact hB
  | succ n ih =>
    intro hn
    show ((Int.gcd (gz z n) (z n) : Nat) : Int) ≤ B
    by_cases e : z n = 0
    · rw [e, Int.gcd_zero_right]
      have := ih (by omega)
      omega
    · have h1 := @gcd_le_b (gz z n) (z n) e
      have h2 := h n (by omega)
      omega
theorem gz_all0 {y : Nat → Int} (h : ∀ k, k < 10 → y k = 0) : ∀ n, n ≤ 10 → gz y n = 0 := by
  intro n
  induction n with
  | zero => intro _; rfl
  | succ n ih =>
    intro hn
    show Int.gcd (gz y n) (y n) = 0
    rw [ih (by omega), h n (by omega)]
    rfl
theorem J1_lt {z : Int} (h : -9223372036854775808 ≤ z ∧ z < 9223372036854775808) : (1 : Int64) < J z ↔ 1 < z := J_lt (a := 1) (by omega) h
theorem s_makesLeast {a0 n0 f0 : Nat} {S : Sg} {y : Nat → Int} (hr : rowA S a0 f0 y) (hy : bdd y 9000000000000000000) (hn : f0 + 10 ≤ n0) (hn2 : n0 ≤ 500) : wp (f_X7_makesLeast a0 n0 (nI f0) S) (fun S' => Fo a0 f0 S S' ∧ rowA S' a0 f0 (lst y)) := by
  unfold f_X7_makesLeast
  refine wp_bdm (up (F := fun n k (x : Int64) => L_X7_makesLeast_5 a0 n0 (nI f0) S n x (nI k)) 10 (fun k x => x = J (gz y k : Nat)) (fun x => x = J (gz y 10 : Nat)) ?_ ?_ 400 0 0 (by omega) (by omega) rfl) ?_
  · intro n k x hk hp ih
    rw [L_X7_makesLeast_5]
    refine wp_ifp (lt10 hk) ?_
    rw [nI_add, ixn (by omega), hr k hk, hp]
    have b1 := gz_le (by decide) hy k (by omega)
    have b2 := hy k hk
    rw [s_divisorM (by unfold okJ; omega) (by unfold okJ; omega)]
    refine wp_gd (inn' (by omega) (by omega)) (wp_bds rfl ?_)
    show wp (L_X7_makesLeast_5 a0 n0 (nI f0) S n _ (nI k + 1)) _
    rw [nIs]
    exact ih _ rfl
  · intro n x hp
    rw [L_X7_makesLeast_5]
    exact wp_ifn (nlt10 (Nat.le_refl _) (by omega)) (wp_some hp)
  intro x hx
  subst hx
  have b10 := gz_le (by decide) hy 10 (by omega)
  by_cases hg : 1 < gz y 10
  · refine wp_bdm (up (F := fun n k S' => L_X7_makesLeast_32 a0 n0 (nI f0) (J (gz y 10 : Nat)) n (nI k) S') 10 (fun k S' => Fo a0 f0 S S' ∧ ∀ j, j < 10 → S'.2 a0 (f0 + j) = J (if j < k then lst y j else y j)) (fun S' => Fo a0 f0 S S' ∧ rowA S' a0 f0 (lst y)) ?_ ?_ 400 0 S (by omega) (by omega) ⟨Fo.rf, fun j hj => by rw [if_neg (by omega)]; exact hr j hj⟩) (fun S' h => wp_some h)
    · intro n k S2 hk ⟨q1, q2⟩ ih
      rw [L_X7_makesLeast_32]
      refine wp_ifp (lt10 hk) (wp_ifp ((J1_lt (by omega)).mpr (by omega)) ?_)
      rw [nI_add, ixn (by omega)]
      refine wp_gd (inn' (by omega) (by omega)) (wp_gd (decide_eq_true (by rw [J_zz (by omega)]; omega)) ?_)
      show wp (L_X7_makesLeast_32 a0 n0 (nI f0) _ n (nI k + 1) (setJ S2 a0 (f0 + k) (S2.2 a0 (f0 + k) / J (gz y 10 : Nat)))) _
      rw [nIs]
      refine ih _ ⟨q1.tr (Fo.set hk), fun j hj => ?_⟩
      by_cases e : j = k
      · subst e
        have b := hy j hj
        rw [setJ_s, if_pos (by omega), q2 j hj, if_neg (by omega), J_div (by omega) (by omega)]
        rfl
      · rw [setJ_n (by omega), q2 j hj]
        by_cases e2 : j < k
        · rw [if_pos e2, if_pos (by omega)]
        · rw [if_neg e2, if_neg (by omega)]
    · intro n S2 ⟨q1, q2⟩
      rw [L_X7_makesLeast_32]
      exact wp_ifn (nlt10 (Nat.le_refl _) (by omega)) (wp_some ⟨q1, fun j hj => by rw [q2 j hj, if_pos hj]⟩)
  · have same : ∀ k, k < 10 → lst y k = y k := fun k hk => by
      have h1 := lst_mul (y := y) hk
      by_cases e : gz y 10 = 0
      · rw [gz_z e k hk] at h1 ⊢
        unfold lst
        rw [e, gz_z e k hk]
        rfl
      · have e2 : gz y 10 = 1 := by omega
        rw [e2] at h1
        omega
    rw [show (400 : Nat) = 399 + 1 from rfl, L_X7_makesLeast_32]
    refine wp_bd (wp_ifp (by decide) (wp_ifn (fun q => hg (by have := (J1_lt (by omega)).mp q; omega)) (wp_some (wp_some ⟨Fo.rf, fun k hk => ?_⟩))))
    rw [same k hk]
    exact hr k hk
theorem s_clears {a0 n0 f0 a2 n2 f2 p : Nat} {S : Sg} {x b : Nat → Int} {A B : Int} (hx : rowA S a0 f0 x) (hb : rowA S a2 f2 b) (had : a2 ≠ a0) (bx : bdd x A) (bb : bdd b B) (hA : A ≤ 9000000000000000000) (hB : B ≤ 9000000000000000000) (hAB : A * B ≤ 4500000000000000000) (hp : p < 10) (hbp : b p ≠ 0) (hn0 : f0 + 10 ≤ n0 ∧ n0 ≤ 500) (hn2 : f2 + 10 ≤ n2 ∧ n2 ≤ 500) :
    wp (f_X7_clears a0 n0 (nI f0) a2 n2 (nI f2) (nI p) S) (fun S' => Fo a0 f0 S S' ∧ ((x p = 0 ∧ rowA S' a0 f0 x) ∨ (x p ≠ 0 ∧ ∃ (y : Nat → Int) (c : Int), 0 < c ∧ (∀ k, k < 10 → c * y k = x k * b p - b k * x p) ∧ rowA S' a0 f0 (lst y)))) := by
  have bxp := bx p hp
  have bbp := bb p hp
  unfold f_X7_clears
  rw [nI_add, nI_add, ixn (by omega), ixn (by omega), hx p hp, hb p hp]
  refine wp_gd (inn' (by omega) (by omega)) (wp_if (fun hc => ?_) (fun hc => ?_))
  · rw [J_zz (by omega)] at hc
    exact wp_some ⟨Fo.rf, Or.inl ⟨hc, hx⟩⟩
  · rw [J_zz (by omega)] at hc
    rw [s_divisorM (by unfold okJ; omega) (by unfold okJ; omega)]
    have hg := @gcd_le_b (x p) (b p) hbp
    refine wp_gd (inn' (by omega) (by omega)) (wp_bds rfl (wp_gd (decide_eq_true (by rw [J_zz (by omega)]; omega)) ?_))
    rw [J_div (by omega) (by omega), J_div (by omega) (by omega)]
    obtain ⟨u, hu⟩ : ((Int.gcd (x p) (b p) : Nat) : Int) ∣ b p := Int.gcd_dvd_right _ _
    obtain ⟨v, hv⟩ : ((Int.gcd (x p) (b p) : Nat) : Int) ∣ x p := Int.gcd_dvd_left _ _
    generalize hc0 : ((Int.gcd (x p) (b p) : Nat) : Int) = c at hu hv hg ⊢
    have hcz : 0 < c := by omega
    have eu : (b p).tdiv c = u := by rw [hu]; exact Int.mul_tdiv_cancel_left _ (by omega)
    have ev : (x p).tdiv c = v := by rw [hv]; exact Int.mul_tdiv_cancel_left _ (by omega)
    rw [eu, ev]
    have bu : -B ≤ u ∧ u ≤ B := mul_le (m := c) hu.symm (by omega) bbp
    have bv : -A ≤ v ∧ v ≤ A := mul_le (m := c) hv.symm (by omega) bxp
    have by_ : bdd (fun k => x k * u - b k * v) 9000000000000000000 := fun k hk => by
      have q1 := mulb (bx k hk) bu
      have q2 := mulb (bb k hk) bv
      rw [Int.mul_comm B A] at q2
      show _ ≤ x k * u - b k * v ∧ x k * u - b k * v ≤ _
      omega
    refine wp_lt (wp_lt ?_)
    refine wp_bdm (up (F := fun n k S' => L_X7_clears_54 a0 n0 a2 n2 (nI f0) (nI f2) (J u) (J v) n (nI k) S') 10 (fun k S' => Fo a0 f0 S S' ∧ ∀ j, j < 10 → S'.2 a0 (f0 + j) = J (if j < k then x j * u - b j * v else x j)) (fun S' => Fo a0 f0 S S' ∧ rowA S' a0 f0 (fun k => x k * u - b k * v)) ?_ ?_ 400 0 S (by omega) (by omega) ⟨Fo.rf, fun j hj => by rw [if_neg (by omega)]; exact hx j hj⟩) ?_
    · intro n k S2 hk ⟨q1, q2⟩ ih
      rw [L_X7_clears_54]
      refine wp_ifp (lt10 hk) ?_
      rw [nI_add, nI_add, ixn (by omega), ixn (by omega)]
      refine wp_gd (inn' (by omega) (by omega)) (wp_gd (inn' (by omega) (by omega)) ?_)
      show wp (L_X7_clears_54 a0 n0 a2 n2 (nI f0) (nI f2) (J u) (J v) n (nI k + 1) (setJ S2 a0 (f0 + k) (S2.2 a0 (f0 + k) * J u - S2.2 a2 (f2 + k) * J v))) _
      rw [nIs]
      refine ih _ ⟨q1.tr (Fo.set hk), fun j hj => ?_⟩
      by_cases e : j = k
      · subst e
        rw [setJ_s, if_pos (by omega), q2 j hj, if_neg (by omega), q1.2.1 a2 had, hb j hj, J_mul, J_mul, J_sub]
      · rw [setJ_n (by omega), q2 j hj]
        by_cases e2 : j < k
        · rw [if_pos e2, if_pos (by omega)]
        · rw [if_neg e2, if_neg (by omega)]
    · intro n S2 ⟨q1, q2⟩
      rw [L_X7_clears_54]
      exact wp_ifn (nlt10 (Nat.le_refl _) (by omega)) (wp_some ⟨q1, fun j hj => by rw [q2 j hj, if_pos hj]⟩)
    · intro S2 ⟨q1, q2⟩
      refine wp_bdm (s_makesLeast q2 by_ hn0.1 hn0.2) ?_
      intro S3 ⟨r1, r2⟩
      refine wp_some ⟨q1.tr r1, Or.inr ⟨hc, _, c, hcz, fun k hk => ?_, r2⟩⟩
      show c * (x k * u - b k * v) = _
      rw [hu, hv]
      grind
theorem s_firstOfOne {S : Sg} {f : Nat → Int} (h : rowA S 151 0 f) (hb : bdd f 9000000000000000000) : wp (f_X7_firstOfOne S) (fun r => firstOf f r) := by
  unfold f_X7_firstOfOne
  refine wp_bsm (up (F := fun n k (_ : Unit) => L_X7_firstOfOne_2 S n (nI k)) 10 (fun k _ => ∀ c, c < k → f c = 0) (fun z => (∃ q, q < 10 ∧ z = .inl (nI q) ∧ f q ≠ 0 ∧ ∀ c, c < q → f c = 0) ∨ (z = .inr () ∧ ∀ c, c < 10 → f c = 0)) ?_ ?_ 400 0 () (by omega) (by omega) (fun c hc => by omega)) ?_ ?_
  · intro n k _ hk hp ih
    rw [L_X7_firstOfOne_2]
    have e := h k hk
    rw [Nat.zero_add] at e
    refine wp_ifp (lt10 hk) (wp_gd (inn' hk (by omega)) ?_)
    rw [ixn (by omega), e]
    refine wp_if (fun hc => ?_) (fun hc => ?_)
    · rw [J_z (hb k hk)] at hc
      show wp (L_X7_firstOfOne_2 S n (nI k + 1)) _
      rw [nIs]
      exact ih () fun c h1 => by
        by_cases e : c = k
        · rw [e]; exact hc
        · exact hp c (by omega)
    · rw [J_z (hb k hk)] at hc
      exact wp_some (Or.inl ⟨k, hk, rfl, hc, hp⟩)
  · intro n _ hp
    rw [L_X7_firstOfOne_2]
    exact wp_ifn (nlt10 (Nat.le_refl _) (by omega)) (wp_some (Or.inr ⟨rfl, hp⟩))
  · intro r hr
    rcases hr with ⟨q, h1, h2, h3⟩ | ⟨h1, _⟩
    · cases h2
      exact wp_some (Or.inl ⟨q, h1, rfl, h3⟩)
    · cases h1
  · intro _ hr
    rcases hr with ⟨q, h1, h2, h3⟩ | ⟨_, h2⟩
    · cases h2
    · exact wp_some (Or.inr ⟨rfl, h2⟩)
/-- the reference's rows in reduced form -/
def RA (oj oi fl : Nat) (S : Sg) (g : Gh) (z : Nat → Nat → Int) : Prop := S.1 140 fl = nI g.length ∧ ∀ i, i < g.length → S.1 oi i = nI (gpv g i) ∧ RowOK g (gpv g i) (z i) ∧ rowA S oj (10 * i) (z i)
theorem RA.fo {oj oi fl : Nat} {S S' : Sg} {g : Gh} {z : Nat → Nat → Int} (h : RA oj oi fl S g z) (h1 : S'.1 = S.1) (h2 : S'.2 oj = S.2 oj) : RA oj oi fl S' g z := ⟨by rw [h1]; exact h.1, fun i hi => ⟨by rw [h1]; exact (h.2 i hi).1, (h.2 i hi).2.1, fun k hk => by rw [h2]; exact (h.2 i hi).2.2 k hk⟩⟩
theorem s_reduces {a1 n1 f1 : Nat} {S : Sg} {g : Gh} {z : Nat → Nat → Int} {a : Nat → Int} (hg : gsmall g 9) (hR : RA 150 153 19 S g z) (ha : ∀ k, k < 10 → S.1 a1 (f1 + k) = I (a k)) (hab : bdd a 3) (hn : f1 + 10 ≤ n1 ∧ n1 ≤ 500) :
    wp (f_X7_reduces a1 n1 (nI f1) S) (fun S' => Fo 151 0 S S' ∧ ∃ x, rowA S' 151 0 x ∧ PP x (gr g a) ∧ (bdd x 3 ∨ gz x 10 = 1)) := by
  have hl := hg.2.2
  unfold f_X7_reduces
  refine wp_bdm (up (F := fun n k S' => L_X7_reduces_2 a1 n1 (nI f1) n (nI k) S') 10 (fun k S' => Fo 151 0 S S' ∧ ∀ j, j < k → S'.2 151 j = J (a j)) (fun S' => Fo 151 0 S S' ∧ rowA S' 151 0 a) ?_ ?_ 400 0 S (by omega) (by omega) ⟨Fo.rf, fun j hj => by omega⟩) ?_
  · intro n k S2 hk ⟨q1, q2⟩ ih
    rw [L_X7_reduces_2]
    refine wp_ifp (lt10 hk) ?_
    rw [nI_add, ixn (by omega), ixn (by omega)]
    refine wp_gd (inn' (by omega) (by omega)) (wp_gd (inn' hk (by omega)) ?_)
    show wp (L_X7_reduces_2 a1 n1 (nI f1) n (nI k + 1) (setJ S2 151 k (S2.1 a1 (f1 + k)).toInt64)) _
    have hb := hab k hk
    rw [nIs, q1.1, ha k hk, toJ, I_toInt (by omega) (by omega)]
    have hs : Fo 151 0 S2 (setJ S2 151 k (J (a k))) := by
      have := Fo.set (a := 151) (f := 0) (S := S2) (v := J (a k)) hk
      rwa [Nat.zero_add] at this
    refine ih _ ⟨q1.tr hs, fun j hj => ?_⟩
    by_cases e : j = k
    · rw [e, setJ_s]
    · rw [setJ_n (by omega)]; exact q2 j (by omega)
  · intro n S2 ⟨q1, q2⟩
    rw [L_X7_reduces_2]
    exact wp_ifn (nlt10 (Nat.le_refl _) (by omega)) (wp_some ⟨q1, fun j hj => by rw [Nat.zero_add]; exact q2 j hj⟩)
  intro S1 ⟨p1, p2⟩
  refine wp_bdm (up (F := fun n k S' => L_X7_reduces_28 a1 n1 n (nI k) S') g.length (fun i S' => Fo 151 0 S S' ∧ ∃ x, rowA S' 151 0 x ∧ PP x (yi g a i) ∧ (bdd x 3 ∨ gz x 10 = 1)) (fun S' => Fo 151 0 S S' ∧ ∃ x, rowA S' 151 0 x ∧ PP x (gr g a) ∧ (bdd x 3 ∨ gz x 10 = 1)) ?_ ?_ 400 0 S1 (by omega) (by omega) ⟨p1, a, p2, ⟨gs g, 1, gs_ne g hg.1, by decide, fun k hk => by show _ = 1 * (gs g * a k - 0); omega⟩, Or.inl hab⟩) (fun S' h => wp_some h)
  · intro n i S2 hi ⟨q1, x, q2, q3, q4⟩ ih
    rw [L_X7_reduces_28]
    have hRi := (hR.2 i hi)
    have hpi := gpv_lt hg.1 hi
    refine wp_ifp (by rw [q1.1, hR.1]; exact nI_lt hi (by omega)) (wp_gd (inn' (by omega) (by omega)) ?_)
    rw [ixn (by omega), q1.1, hRi.1, ten, nI_mul, show (0 : Int32) = nI 0 from rfl]
    have bx : bdd x 6843000000 := q3.bdd (by decide) q4 (yi_bdd hg hab (by omega))
    have bz : bdd (z i) 228100000 := RowOK.bdd hg hi hRi.2.1
    have hzp := hRi.2.1.1
    refine wp_bdm (s_clears q2 (hRi.2.2.fo q1 (Or.inl (by decide))) (by decide) bx bz (by decide) (by decide) (by decide) hpi (by omega) ⟨by omega, by omega⟩ ⟨by omega, by omega⟩) ?_
    intro S3 ⟨r1, r2⟩
    show wp (L_X7_reduces_28 a1 n1 n (nI i + 1) S3) _
    rw [nIs]
    have ey : ∀ k, yi g a (i + 1) k = yi g a i k - a (gpv g i) * tt g (gpv g i) k := fun k => by
      show gs g * a k - (sm i _ + a (gpv g i) * tt g (gpv g i) k) = gs g * a k - sm i _ - _
      omega
    rcases r2 with ⟨hx0, r2⟩ | ⟨hx0, y, c, hc, hy, r2⟩
    · -- nothing of the pivot in it
      refine ih _ ⟨q1.tr r1, x, r2, q3.mono fun k hk => ?_, q4⟩
      have h1 := (q3.z hpi).mp hx0
      rw [yi_at hg.1 a hi] at h1
      have h2 : a (gpv g i) = 0 := by
        rcases Int.mul_eq_zero.mp h1 with h | h
        · exact absurd h (gs_ne g hg.1)
        · exact h
      rw [ey k, h2]
      omega
    · obtain ⟨A, B, hA, hB, hAB⟩ := q3
      have hprop : ∀ k, k < 10 → (A * c) * y k = (B * z i (gpv g i)) * yi g a (i + 1) k := by
        intro k hk
        have e1 := hy k hk
        have e2 := hAB k hk
        have e3 := hAB (gpv g i) hpi
        rw [yi_at hg.1 a hi] at e3
        have e4 := hRi.2.1.2.2 k hk
        rw [ey k]
        have s1 : (A * c) * y k = (A * x k) * z i (gpv g i) - z i k * (A * x (gpv g i)) := by
          have : (A * c) * y k = A * (c * y k) := by grind
          rw [this, e1]
          grind
        rw [s1, e2, e3]
        have s2 : z i k * (B * (gs g * a (gpv g i))) = B * a (gpv g i) * (gs g * z i k) := by grind
        rw [s2, e4]
        grind
      by_cases h0 : gz y 10 = 0
      · -- all gone
        have hy0 := gz_z h0
        have hl0 : ∀ k, k < 10 → lst y k = 0 := fun k hk => by unfold lst; rw [hy0 k hk]; exact Int.zero_tdiv _
        refine ih _ ⟨q1.tr r1, lst y, r2, ⟨1, 1, by decide, by decide, fun k hk => ?_⟩, Or.inl fun k hk => by rw [hl0 k hk]; omega⟩
        have h1 := hprop k hk
        rw [hy0 k hk, Int.mul_zero] at h1
        rw [hl0 k hk]
        rcases Int.mul_eq_zero.mp h1.symm with h | h
        · rcases Int.mul_eq_zero.mp h with h | h
          · exact absurd h hB
          · omega
        · rw [h]
      · refine ih _ ⟨q1.tr r1, lst y, r2, ⟨(A * c) * ((gz y 10 : Nat) : Int), B * z i (gpv g i), ?_, ?_, fun k hk => ?_⟩, Or.inr (lst_prim h0)⟩
        · exact Int.mul_ne_zero (Int.mul_ne_zero hA (by omega)) (by omega)
        · exact Int.mul_ne_zero hB (by omega)
        · rw [← hprop k hk, Int.mul_assoc, lst_mul hk]
  · intro n S2 ⟨q1, x, q2, q3, q4⟩
    rw [L_X7_reduces_28]
    refine wp_ifn (by rw [q1.1, hR.1]; exact nI_nlt (Nat.le_refl _) (by omega)) (wp_some ⟨q1, x, q2, q3.mono fun k hk => yi_end hg.1 a hk, q4⟩)
