/-! the reduced rows, as the law looks at them -/
theorem l249 {ba Ls : Nat} {xs : Nat → Int32} {v2 : Int32} {S : Sg} {w : Wd} {kp : Option Wd} (h : KI S w kp) {i p : Nat} (hi : i < (gh w).length) (hp : p < 10) (hpv : pvB (gh w) p = true) (hcn : cn (gh w) p = i) :
    wp (L_L_law_249 ba Ls xs v2 (nI (num w 0)) (pbits (gh w)) (nI i) 400 (0 : Int32) (1 : Int32) (0 : Int32) S) (fun z => ∃ c T, z = .inr (nI c, T) ∧ 1 ≤ c ∧ c ≤ 10 ∧ KI T w kp) := by
  have hg := h.1
  have ok : gok (gh w) := hg.1.2.2.2.2.2.2.1
  have hn := hg.1.2.2.1
  obtain ⟨hpn, v0, hv0, hpv0, ht0⟩ := tt_beside hg hpv
  refine up (F := fun n k (z : Int32 × Int32 × Sg) => L_L_law_249 ba Ls xs v2 (nI (num w 0)) (pbits (gh w)) (nI i) n z.1 z.2.1 (nI k) z.2.2) (num w 0)
    (fun k z => KI z.2.2 w kp ∧ ((z.2.1 = 1 ∧ z.1 = 0 ∧ k ≤ p) ∨ (z.2.1 = 0 ∧ p < k ∧ ∃ c, c ≤ k ∧ z.1 = nI c ∧ (c = 0 → ∀ v, p < v → v < k → tt (gh w) p v = 0))))
    (fun z => ∃ c T, z = .inr (nI c, T) ∧ 1 ≤ c ∧ c ≤ 10 ∧ KI T w kp) ?_ ?_ 400 0 (0, 1, S) (by omega) (by omega) ⟨h, Or.inl ⟨rfl, rfl, by omega⟩⟩
  · rintro n k ⟨v6, v7, S⟩ hk ⟨h, hd⟩ ih
    have h : KI S w kp := h
    show wp (L_L_law_249 ba Ls xs v2 (nI (num w 0)) (pbits (gh w)) (nI i) (n + 1) v6 v7 (nI k) S) _
    obtain ⟨a1, a2, a3⟩ := lp hg hpv (show k < 10 by omega)
    have e0 := k_reduced (l := 0) h hi hk (by omega) hp hpv hcn
    have e1 := k_reduced (l := 1) h hi hk (by omega) hp hpv hcn
    have hb := bit_piv ok (show k < 32 by omega)
    have ih' : ∀ x y : Int32, ((y = 1 ∧ x = 0 ∧ k + 1 ≤ p) ∨ (y = 0 ∧ p < k + 1 ∧ ∃ c, c ≤ k + 1 ∧ x = nI c ∧ (c = 0 → ∀ v, p < v → v < k + 1 → tt (gh w) p v = 0))) → wp (L_L_law_249 ba Ls xs v2 (nI (num w 0)) (pbits (gh w)) (nI i) n x y (nI k + 1) S) (fun z => ∃ c T, z = .inr (nI c, T) ∧ 1 ≤ c ∧ c ≤ 10 ∧ KI T w kp) := fun x y q => by
      rw [nIs]
      exact ih (x, y, S) ⟨h, q⟩
    rw [L_L_law_249]
    refine wp_ifp (nI_lt hk (by omega)) (wp_bds e0 (wp_u2 (wp_if (fun z => wp_lt (ih' v6 v7 ?_)) (fun z => ?_))))
    · have t0 := a1.mp z
      rcases hd with ⟨d1, d2, d3⟩ | ⟨d1, d2, c, c1, c2, c3⟩
      · refine Or.inl ⟨d1, d2, ?_⟩
        by_cases u : k = p
        · rw [u, tt_own' hpv] at t0
          exact absurd t0 (gs_ne _ ok)
        · have d3' : k ≤ p := d3
          omega
      · refine Or.inr ⟨d1, by have d2' : p < k := d2; omega, c, by omega, c2, fun q v u1 u2 => ?_⟩
        by_cases u : v = k
        · rw [u]; exact t0
        · exact c3 q v u1 (by omega)
    · have t0 : ¬ tt (gh w) p k = 0 := fun u => z (a1.mpr u)
      rcases hd with ⟨d1, d2, d3⟩ | ⟨d1, d2, c, c1, c2, c3⟩
      · have d1' : v7 = 1 := d1
        have d2' : v6 = 0 := d2
        have d3' : k ≤ p := d3
        have kp : k = p := by
          by_cases u : k = p
          · exact u
          · exact absurd (tt_ahead ok hpv (by omega)) t0
        subst d1' d2'
        refine wp_lt (wp_ifn (by decide) (wp_ifp (hb.mpr (by rw [kp]; exact hpv)) (wp_ifp (a3 kp).1 (wp_bds e1 (wp_u2 (wp_ifp (a3 kp).2 (wp_lt (wp_ifn (by decide) (wp_bds e1 (wp_u2 (wp_ifn a2 (wp_lt (wp_lt (wp_lt (ih' _ _ (Or.inr ⟨rfl, by omega, 0, by omega, ?_, fun _ v u1 u2 => by omega⟩))))))))))))))))
        decide
      · have d1' : v7 = 0 := d1
        have d2' : p < k := d2
        have c2' : v6 = nI c := c2
        subst d1' c2'
        refine wp_lt (wp_ifp rfl (wp_lt (wp_ifp rfl (wp_ifn (fun q => t0 (tt_piv (hb.mp q) (by omega))) (wp_bds e1 (wp_u2 (wp_ifn a2 (wp_lt (wp_lt (wp_lt (ih' _ _ (Or.inr ⟨rfl, by omega, c + 1, by omega, ?_, fun q => by omega⟩))))))))))))
        show nI c + (if (0 : Int32) = 0 then (1 : Int32) else 0) = nI (c + 1)
        rw [if_pos rfl, nIs]
  · rintro n ⟨v6, v7, S⟩ ⟨h, hd⟩
    show wp (L_L_law_249 ba Ls xs v2 (nI (num w 0)) (pbits (gh w)) (nI i) (n + 1) v6 v7 (nI (num w 0)) S) _
    rw [L_L_law_249]
    refine wp_ifn (nI_nlt (Nat.le_refl _) (by omega)) ?_
    rcases hd with ⟨_, _, d3⟩ | ⟨_, _, c, c1, c2, c3⟩
    · have d3' : num w 0 ≤ p := d3
      omega
    · have c2' : v6 = nI c := c2
      subst c2'
      refine wp_some ⟨c, S, rfl, ?_, by omega, h⟩
      by_cases u : c = 0
      · exact absurd (c3 u v0 hpv0 hv0) ht0
      · omega
theorem l234 {ba Ls : Nat} {xs : Nat → Int32} {S : Sg} {w : Wd} {kp : Option Wd} (h : KI S w kp) : wp (L_L_law_234 ba Ls xs (nI (gh w).length) (nI (num w 0)) (pbits (gh w)) 400 (0 : Int32) S) (fun z => ∃ T, z = .inr T ∧ KI T w kp) := by
  have hg := h.1
  have ok : gok (gh w) := hg.1.2.2.2.2.2.2.1
  have hl := wg_len hg
  refine up (F := fun n k (S : Sg) => L_L_law_234 ba Ls xs (nI (gh w).length) (nI (num w 0)) (pbits (gh w)) n (nI k) S) (gh w).length (fun _ S => KI S w kp) (fun z => ∃ T, z = .inr T ∧ KI T w kp) ?_ ?_ 400 0 S (by omega) (by omega) h
  · rintro n i S hi h ih
    obtain ⟨p, hp, hpv, hcn⟩ := cn_ex (gh w) i 10 (by rw [cn_10 ok]; exact hi)
    rw [L_L_law_234]
    refine wp_ifp (nI_lt hi (by omega)) (wp_bsm (l249 h hi hp hpv hcn) (fun q ⟨c, T, e, _⟩ => nomatch e) ?_)
    rintro ⟨x, T'⟩ ⟨c, T, e, c1, c2, hT⟩
    cases e
    refine wp_u2 (wp_ifn (nI_ne0 c1 (by omega)) (wp_lt ?_))
    rw [nIs]
    exact ih _ hT
  · rintro n S h
    rw [L_L_law_234]
    exact wp_ifn (nI_nlt (Nat.le_refl _) (by omega)) (wp_some ⟨S, rfl, h⟩)
/-- what the law holds for the true answer -/
theorem l501 {ba Ls : Nat} {xs : Nat → Int32} {v2 v3 v4 v5 v10 v11 : Int32} {S : Sg} {w : Wd} {kp : Option Wd} (h : KI S w kp) {kd a b : Int32} (hq : qv kd b) : wp (L_L_law_501 ba Ls xs v2 v3 v4 v5 a kd b v10 v11 400 (0 : Int32) (0 : Int32) S) (fun z => z.1 = I (tans w (wq kd a b)) ∧ z.2 = S) := by
  refine up (F := fun n k (z : Int32 × Sg) => L_L_law_501 ba Ls xs v2 v3 v4 v5 a kd b v10 v11 n z.1 (nI k) z.2) 8 (fun k z => z.1 = I (sm k (fun p => wq kd a b p * dat w 0 (own w p))) ∧ z.2 = S) (fun z => z.1 = I (tans w (wq kd a b)) ∧ z.2 = S) ?_ ?_ 400 0 (0, S) (by omega) (by omega) ⟨rfl, rfl⟩
  · rintro n k ⟨x, T⟩ hk ⟨hx, hT⟩ ih
    have hx : x = I (sm k (fun p => wq kd a b p * dat w 0 (own w p))) := hx
    have hT : T = S := hT
    subst hT
    show wp (L_L_law_501 ba Ls xs v2 v3 v4 v5 a kd b v10 v11 (n + 1) x (nI k) T) _
    have fin : ∀ y : Int32, y = I (wq kd a b k) → wp (L_L_law_501 ba Ls xs v2 v3 v4 v5 a kd b v10 v11 n (x + I (dat w 0 (own w k)) * y) (nI k + 1) T) (fun z => z.1 = I (tans w (wq kd a b)) ∧ z.2 = T) := fun y hy => by
      rw [nIs]
      refine ih (_, T) ⟨?_, rfl⟩
      show x + I (dat w 0 (own w k)) * y = I (sm k (fun p => wq kd a b p * dat w 0 (own w p)) + wq kd a b k * dat w 0 (own w k))
      rw [hx, hy, I_mul, I_add, Int.mul_comm (dat w 0 (own w k))]
    rw [L_L_law_501]
    refine wp_ifp (lt8 hk) (wp_bds (k_person0 h hk) (wp_u2 ?_))
    rcases hq with rfl | rfl | ⟨rfl, m, hm0, hm, rfl⟩
    · refine wp_ifn (by decide) (wp_ifp rfl (wp_lt (wp_lt (fin _ ?_))))
      rw [bit_I a (by omega), wq_0, show (1 : Int32) = I 1 from rfl, I_mul, Int.mul_one]
    · refine wp_ifp rfl (wp_lt (wp_lt (fin _ ?_)))
      rw [bit_I a (by omega), bit_I b (by omega), I_sub]
      unfold wq
      rw [if_pos rfl]
    · refine wp_ifn (by decide) (wp_ifn (by decide) (wp_gd (decide_eq_true (nI_ne0 hm0 (by omega))) (wp_lt (wp_lt (fin _ ?_)))))
      rw [bit_I a (by omega), irem_small k hk m hm hm0]
      unfold wq
      rw [if_neg (by decide), if_neg (by decide), show (nI m).toNatClampNeg = m from nI_clamp (by omega), nIs, ← I_nI, I_mul]
      congr 2
  · rintro n ⟨x, T⟩ ⟨hx, hT⟩
    show wp (L_L_law_501 ba Ls xs v2 v3 v4 v5 a kd b v10 v11 (n + 1) x (nI 8) T) _
    rw [L_L_law_501]
    exact wp_ifn (nlt8 (Nat.le_refl _) (by omega)) (wp_some ⟨hx, hT⟩)
theorem l693 {ba Ls : Nat} {xs : Nat → Int32} {v2 v3 v4 v5 v8 v10 v14 : Int32} {S : Sg} {w : Wd} {kp : Option Wd} (h : KI S w kp) : wp (L_L_law_693 ba Ls xs v2 v3 v4 v5 v8 v10 v14 400 (0 : Int32) S) (fun z => ∃ T, z = .inr T ∧ KI T w kp) := by
  refine up (F := fun n k (S : Sg) => L_L_law_693 ba Ls xs v2 v3 v4 v5 v8 v10 v14 n (nI k) S) 8 (fun _ S => KI S w kp) (fun z => ∃ T, z = .inr T ∧ KI T w kp) ?_ ?_ 400 0 S (by omega) (by omega) h
  · rintro n p S hp h ih
    rw [L_L_law_693]
    refine wp_ifp (lt8 hp) (wp_bdm (k_w1 h hp) ?_)
    rintro ⟨r, T⟩ ⟨e, hT⟩
    refine wp_u2 (wp_ifp e (wp_lt ?_))
    rw [nIs]
    exact ih T hT
  · rintro n S h
    rw [L_L_law_693]
    exact wp_ifn (nlt8 (Nat.le_refl _) (by omega)) (wp_some ⟨S, rfl, h⟩)
/-- whom the law leaves out -/
theorem band (y a : Int32) : ∃ c : Nat, c ≤ 255 ∧ (y &&& (255 : Int32)) &&& (a ^^^ (-1 : Int32)) = nI c ∧ a &&& ((y &&& (255 : Int32)) &&& (a ^^^ (-1 : Int32))) = 0 := by
  refine ⟨((y &&& (255 : Int32)) &&& (a ^^^ (-1 : Int32))).toBitVec.toNat, ?_, (nI_back _).symm, ?_⟩
  · rw [Int32.toBitVec_and, BitVec.toNat_and, Int32.toBitVec_and, BitVec.toNat_and]
    exact Nat.le_trans Nat.and_le_left (Nat.le_trans Nat.and_le_right (by decide))
  · apply Int32.toBitVec_inj.mp
    rw [Int32.toBitVec_and, Int32.toBitVec_and, Int32.toBitVec_xor, show (-1 : Int32).toBitVec = BitVec.allOnes 32 from by decide, show (0 : Int32).toBitVec = 0#32 from rfl]
    refine BitVec.eq_of_getLsbD_eq fun i hi => ?_
    rw [BitVec.getLsbD_and, BitVec.getLsbD_and, BitVec.getLsbD_xor, BitVec.getLsbD_allOnes, BitVec.getLsbD_zero, decide_eq_true hi]
    cases a.toBitVec.getLsbD i <;> cases (y &&& (255 : Int32)).toBitVec.getLsbD i <;> rfl
theorem nl1 {x : Nat} (h1 : 1 ≤ x) (h2 : x ≤ 255) : ¬ nI x < (1 : Int32) := nI_nlt (b := 1) h1 (by omega)
theorem nl255 {x : Nat} (h2 : x ≤ 255) : ¬ (255 : Int32) < nI x := nI_nlt (a := 255) h2 (by omega)
theorem nl3 {x : Nat} (h2 : x ≤ 3) : ¬ (3 : Int32) < nI x := nI_nlt (a := 3) h2 (by omega)
theorem mis_f0 {x : Nat} (h1 : 1 ≤ x) (h2 : x ≤ 255) (b : Int32) : f_X2_misfitOf 0 (nI x) b = 0 := by
  rw [mo0, if_neg (nl1 h1 h2), if_neg (nl255 h2)]
theorem mis_f1 {x y : Nat} (h1 : 1 ≤ x) (h2 : x ≤ 255) (h3 : 1 ≤ y) (h4 : y ≤ 255) (h5 : nI x &&& nI y = 0) : f_X2_misfitOf 1 (nI x) (nI y) = 0 := by
  rw [mo1, if_neg (nl1 h1 h2), if_neg (nl1 h3 h4), if_neg (nl255 h2), if_neg (nl255 h4), if_pos h5]
theorem mis_f2 {x y : Nat} (h1 : 1 ≤ x) (h2 : x ≤ 255) (h3 : 1 ≤ y) (h4 : y ≤ 3) : f_X2_misfitOf 2 (nI x) (nI y) = 0 := by
  rw [mo2, if_neg (nl1 h1 h2), if_neg (nl1 h3 (by omega)), if_neg (nl255 h2), if_neg (nl3 h4)]
