theorem J_zz {z : Int} (h : -9223372036854775808 ≤ z ∧ z < 9223372036854775808) : J z = (0 : Int64) ↔ z = 0 := J_eq (b := 0) h (by omega)
theorem lt200 {k : Nat} (h : k < 200) : nI k < (200 : Int32) := nI_lt (b := 200) h (by decide)
-- Euclid's steps
theorem jrem_n {x y : Nat} (hx : x < 9223372036854775808) (hy : y < 9223372036854775808) (hy0 : 0 < y) : jrem (J x) (J y) = J ((x % y : Nat) : Int) := by
  unfold jrem
  rw [J_div (by omega) (by omega), J_mul, J_sub]
  congr 1
  have h1 : (x : Int).tdiv y = ((x / y : Nat) : Int) := rfl
  rw [h1]
  have h2 := Nat.div_add_mod x y
  have h3 : ((x / y : Nat) : Int) * (y : Int) = ((y * (x / y) : Nat) : Int) := by rw [Nat.mul_comm]; rfl
  rw [h3]
  omega
theorem mod_half {x y : Nat} (h0 : 0 < x % y) : (y % (x % y)) * 2 < y ∨ y % (x % y) = 0 := by
  have h1 : x % y < y ∨ y = 0 := by
    rcases Nat.eq_zero_or_pos y with e | e
    · exact Or.inr e
    · exact Or.inl (Nat.mod_lt _ e)
  rcases h1 with h1 | h1
  · have h2 := Nat.mod_lt y h0
    have h3 := Nat.div_add_mod y (x % y)
    have h4 : 1 ≤ y / (x % y) := (Nat.le_div_iff_mul_le h0).mpr (by omega)
    have h5 : (x % y) * 1 ≤ (x % y) * (y / (x % y)) := Nat.mul_le_mul_left _ h4
    omega
  · subst h1
    simp
theorem gcd_step (x y : Nat) : Nat.gcd y (x % y) = Nat.gcd x y := by rw [Nat.gcd_comm x y, Nat.gcd_rec y x, Nat.gcd_comm]
theorem s_gcdX : ∀ (m n k x y : Nat), x < 9223372036854775808 → y < 2 ^ m → m ≤ 63 → 2 * m + k < 200 → 2 * m < n → L_X6_greatestDivisor_9 n (J x) (J y) (nI k) = some (J (Nat.gcd x y : Nat)) := by
  intro m
  induction m with
  | zero =>
    intro n k x y hx hy hm hk hn
    match n, hn with
    | n + 1, _ =>
      rw [L_X6_greatestDivisor_9, if_pos (lt200 (by omega)), if_pos (by rw [show y = 0 by omega]; rfl), show y = 0 by omega, Nat.gcd_zero_right]
  | succ m ih =>
    intro n k x y hx hy hm hk hn
    have hp : (2 : Nat) ^ (m + 1) ≤ 2 ^ 63 := Nat.pow_le_pow_right (by decide) hm
    have hy1 : y < 9223372036854775808 := by omega
    match n, hn with
    | n + 2, hn =>
      rw [L_X6_greatestDivisor_9, if_pos (lt200 (by omega))]
      by_cases e : y = 0
      · rw [if_pos (by rw [e]; rfl), e, Nat.gcd_zero_right]
      · have hz : ¬ (J (y : Int)) = (0 : Int64) := by rw [J_zz (by omega)]; omega
        rw [if_neg hz]
        show gd (nzJ (J (y : Int))) _ = _
        rw [show nzJ (J (y : Int)) = true from decide_eq_true hz]
        show L_X6_greatestDivisor_9 (n + 1) (J y) (jrem (J x) (J y)) (nI k + 1) = _
        rw [nIs, jrem_n hx hy1 (by omega), ← gcd_step x y]
        have hr : x % y < y := Nat.mod_lt _ (by omega)
        rw [L_X6_greatestDivisor_9, if_pos (lt200 (by omega))]
        by_cases e2 : x % y = 0
        · rw [if_pos (by rw [e2]; rfl), e2, Nat.gcd_zero_right]
        · have hz2 : ¬ (J ((x % y : Nat) : Int)) = (0 : Int64) := by rw [J_zz (by omega)]; omega
          rw [if_neg hz2]
          show gd (nzJ (J ((x % y : Nat) : Int))) _ = _
          rw [show nzJ (J ((x % y : Nat) : Int)) = true from decide_eq_true hz2]
          show L_X6_greatestDivisor_9 n (J ((x % y : Nat) : Int)) (jrem (J y) (J ((x % y : Nat) : Int))) (nI (k + 1) + 1) = _
          rw [nIs, jrem_n hy1 (by omega) (by omega), ← gcd_step y (x % y)]
          refine ih n (k + 1 + 1) (x % y) (y % (x % y)) (by omega) ?_ (by omega) (by omega) (by omega)
          have h1 := @mod_half x y (by omega)
          have h2 : (2 : Nat) ^ (m + 1) = 2 ^ m * 2 := Nat.pow_succ 2 m
          have h3 : 0 < (2 : Nat) ^ m := Nat.pow_pos (by decide)
          omega
/-- what a long holds, without the least one -/
def okJ (z : Int) : Prop := -9223372036854775808 < z ∧ z < 9223372036854775808
theorem abs_J {z : Int} (h : okJ z) : (if J z < (0 : Int64) then - J z else J z) = J (z.natAbs : Nat) := by
  unfold okJ at h
  have e : (J z < (0 : Int64)) ↔ z < 0 := J_lt (b := 0) (by omega) (by omega)
  by_cases hz : z < 0
  · rw [if_pos (e.mpr hz), J_neg]
    congr 1
    omega
  · rw [if_neg (fun q => hz (e.mp q))]
    congr 1
    omega
theorem s_divisorX {a b : Int} (ha : okJ a) (hb : okJ b) : f_X6_greatestDivisor (f_J9_abs_067f4 (J a)) (f_J9_abs_067f4 (J b)) = some (J (Int.gcd a b : Nat)) := by
  unfold f_X6_greatestDivisor f_J9_abs_067f4 lt
  rw [abs_J ha, abs_J hb]
  unfold okJ at ha hb
  rw [show (0 : Int32) = nI 0 from rfl, s_gcdX 63 400 0 a.natAbs b.natAbs (by omega) (by omega) (by omega) (by omega) (by omega)]
  rfl
-- fractions in least terms
def lowN (a b : Int) : Int := if b < 0 then -(a.tdiv (Int.gcd a b)) else a.tdiv (Int.gcd a b)
def lowD (a b : Int) : Int := if b < 0 then -(b.tdiv (Int.gcd a b)) else b.tdiv (Int.gcd a b)
def lowP (a b : Int) (part : Int32) : Int64 := if part = 0 then J (lowN a b) else J (lowD a b)
theorem gcd_le_b {a b : Int} (hb : b ≠ 0) : 0 < Int.gcd a b ∧ (Int.gcd a b : Int) ≤ b.natAbs := by
  have h1 : 0 < Int.gcd a b := Int.gcd_pos_of_ne_zero_right a hb
  have h2 : Int.gcd a b ∣ b.natAbs := Int.natAbs_dvd_natAbs.mpr (Int.gcd_dvd_right a b)
  have h3 := Nat.le_of_dvd (by omega) h2
  omega
theorem s_partX {a b : Int} {part : Int32} (ha : okJ a) (hb : okJ b) (h0 : b ≠ 0) : f_X6_partInLeastTerms (J a) (J b) part = some (lowP a b part) := by
  unfold f_X6_partInLeastTerms lt
  rw [s_divisorX ha hb]
  have hg := @gcd_le_b a b h0
  show (if J a = (0 : Int64) then _ else _) = _
  have hJ : ∀ {z : Int}, okJ z → (J z = (0 : Int64) ↔ z = 0) := fun {z} h => by unfold okJ at h; exact J_eq (b := 0) (by omega) (by omega)
  have hgo : okJ (Int.gcd a b : Nat) := by unfold okJ at hb ⊢; omega
  have hd : ∀ x : Int, okJ x → okJ (x.tdiv (Int.gcd a b : Nat)) := fun x hx => by
    have := Int.natAbs_tdiv_le_natAbs x (Int.gcd a b : Nat)
    unfold okJ at hx ⊢
    omega
  by_cases e : a = 0
  · subst e
    rw [if_pos ((hJ ha).mpr rfl)]
    unfold lowP lowN lowD
    have hgb : (Int.gcd 0 b : Int) = b.natAbs := by rw [Int.gcd_zero_left]
    rw [hgb]
    by_cases hp : part = 0
    · rw [if_pos hp, if_pos hp]
      simp
      rfl
    · rw [if_neg hp, if_neg hp]
      by_cases hn : b < 0
      · rw [if_pos hn]
        have : b.tdiv (b.natAbs : Nat) = -1 := by
          rw [show ((b.natAbs : Nat) : Int) = -b by omega, Int.tdiv_neg, Int.tdiv_self h0]
        rw [this]; rfl
      · rw [if_neg hn]
        have : b.tdiv (b.natAbs : Nat) = 1 := by
          rw [show ((b.natAbs : Nat) : Int) = b by omega, Int.tdiv_self h0]
        rw [this]; rfl
  · rw [if_neg (fun q => e ((hJ ha).mp q)), if_neg (fun q => h0 ((hJ hb).mp q)), if_neg (fun q => by have := (hJ hgo).mp q; omega)]
    have hlt : (J b < (0 : Int64)) ↔ b < 0 := by unfold okJ at hb; exact J_lt (b := 0) (by omega) (by omega)
    unfold lowP lowN lowD
    by_cases hn : b < 0
    · rw [if_pos (hlt.mpr hn), if_pos hn, if_pos hn, J_neg]
      have hnz : nzJ (J (-((Int.gcd a b : Nat) : Int))) = true := decide_eq_true (by rw [J_zz (by unfold okJ at hgo; omega)]; omega)
      show gd (nzJ (J (-((Int.gcd a b : Nat) : Int)))) (some ((if part = 0 then J a else J b) / J (-((Int.gcd a b : Nat) : Int)))) = _
      rw [hnz]
      show some _ = some _
      by_cases hp : part = 0
      · rw [if_pos hp, if_pos hp, J_div (by unfold okJ at ha; omega) (by unfold okJ at hgo; omega), Int.tdiv_neg]
      · rw [if_neg hp, if_neg hp, J_div (by unfold okJ at hb; omega) (by unfold okJ at hgo; omega), Int.tdiv_neg]
    · rw [if_neg (fun q => hn (hlt.mp q)), if_neg hn, if_neg hn]
      have hnz : nzJ (J ((Int.gcd a b : Nat) : Int)) = true := decide_eq_true (by rw [J_zz (by unfold okJ at hgo; omega)]; omega)
      show gd (nzJ (J ((Int.gcd a b : Nat) : Int))) (some ((if part = 0 then J a else J b) / J ((Int.gcd a b : Nat) : Int))) = _
      rw [hnz]
      show some _ = some _
      by_cases hp : part = 0
      · rw [if_pos hp, if_pos hp, J_div (by unfold okJ at ha; omega) (by unfold okJ at hgo; omega)]
      · rw [if_neg hp, if_neg hp, J_div (by unfold okJ at hb; omega) (by unfold okJ at hgo; omega)]
/-- numbers without a common factor, in one proportion -/
theorem cop_div {a b c d : Int} (h : a * d = c * b) (hc : Int.gcd a b = 1) : b ∣ d := by
  have h1 : b ∣ a * d := ⟨c, by rw [h, Int.mul_comm]⟩
  have h2 := (Int.dvd_gcd_mul_iff_dvd_mul (k := b) (n := a) (m := d)).mpr h1
  rw [Int.gcd_comm, hc] at h2
  rwa [show ((1 : Nat) : Int) * d = d from Int.one_mul d] at h2
theorem low_eq {a b c d : Int} (hb : b ≠ 0) (hd : d ≠ 0) (h : a * d = c * b) : lowN a b = lowN c d ∧ lowD a b = lowD c d := by
  -- both pairs in least terms with a positive second part
  have key : ∀ a b : Int, b ≠ 0 → 0 < lowD a b ∧ Int.gcd (lowN a b) (lowD a b) = 1 ∧ lowN a b * b = a * lowD a b := by
    intro a b hb
    have hg := @gcd_le_b a b hb
    obtain ⟨x, hx⟩ := Int.gcd_dvd_left a b
    obtain ⟨y, hy⟩ := Int.gcd_dvd_right a b
    have hgz : ((Int.gcd a b : Nat) : Int) ≠ 0 := by omega
    have ex : a.tdiv (Int.gcd a b : Nat) = x := by
      have := Int.mul_tdiv_cancel_left x hgz
      rw [← hx] at this
      exact this
    have ey : b.tdiv (Int.gcd a b : Nat) = y := by
      have := Int.mul_tdiv_cancel_left y hgz
      rw [← hy] at this
      exact this
    have hxy : Int.gcd x y = 1 := by
      have h1 : Int.gcd (((Int.gcd a b : Nat) : Int) * x) (((Int.gcd a b : Nat) : Int) * y) = (Int.gcd a b) * Int.gcd x y := by
        rw [Int.gcd_mul_left]
        rfl
      rw [← hx, ← hy] at h1
      exact Nat.eq_of_mul_eq_mul_left hg.1 (by omega)
    have hprod : x * b = a * y := by
      have e1 : x * b = x * (((Int.gcd a b : Nat) : Int) * y) := by rw [← hy]
      have e2 : a * y = (((Int.gcd a b : Nat) : Int) * x) * y := by rw [← hx]
      rw [e1, e2]
      grind
    unfold lowN lowD
    rw [ex, ey]
    by_cases hn : b < 0
    · rw [if_pos hn, if_pos hn]
      refine ⟨?_, by rw [Int.neg_gcd, Int.gcd_neg]; exact hxy, by grind⟩
      rcases Int.lt_or_le y 0 with q | q
      · omega
      · have : 0 ≤ ((Int.gcd a b : Nat) : Int) * y := Int.mul_nonneg (by omega) q
        omega
    · rw [if_neg hn, if_neg hn]
      refine ⟨?_, hxy, hprod⟩
      rcases Int.lt_or_le 0 y with q | q
      · exact q
      · have : ((Int.gcd a b : Nat) : Int) * y ≤ 0 := Int.mul_nonpos_of_nonneg_of_nonpos (by omega) q
        omega
  obtain ⟨p1, p2, p3⟩ := key a b hb
  obtain ⟨q1, q2, q3⟩ := key c d hd
  generalize lowN a b = n at *
  generalize lowD a b = m at *
  generalize lowN c d = n' at *
  generalize lowD c d = m' at *
  -- n * m' = n' * m
  have e : n * m' = n' * m := by
    have e1 : (n * m') * (b * d) = (n' * m) * (b * d) := by
      have h1 : n * m' * (b * d) = (n * b) * (m' * d) := by grind
      have h2 : n' * m * (b * d) = (n' * d) * (m * b) := by grind
      rw [h1, h2, p3, q3]
      have h3 : a * m * (m' * d) = (a * d) * (m * m') := by grind
      have h4 : c * m' * (m * b) = (c * b) * (m * m') := by grind
      rw [h3, h4, h]
    exact Int.eq_of_mul_eq_mul_right (Int.mul_ne_zero hb hd) e1
  have d1 : m ∣ m' := cop_div e p2
  have d2 : m' ∣ m := cop_div e.symm q2
  have em : m = m' := Int.le_antisymm (Int.le_of_dvd q1 d1) (Int.le_of_dvd p1 d2)
  subst em
  exact ⟨Int.eq_of_mul_eq_mul_right (by omega) e, rfl⟩
theorem lowP_eq {a b c d : Int} (hb : b ≠ 0) (hd : d ≠ 0) (h : a * d = c * b) (part : Int32) : lowP a b part = lowP c d part := by
  obtain ⟨h1, h2⟩ := low_eq hb hd h
  unfold lowP
  rw [h1, h2]
