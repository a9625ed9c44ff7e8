theorem qbd {w : Wd} {wt : Nat → Int} (hwt : qok wt) : bdd (qrow w wt) 3 := fun v _ => ar_bdd hwt 8 (Nat.le_refl _) v
-- the weights of a question
def bt (a : Int32) (p : Nat) : Int := if a.toBitVec.getLsbD p = true then 1 else 0
def wq (kind a b : Int32) (p : Nat) : Int := if kind = 1 then bt a p - bt b p else if kind = 0 then bt a p else bt a p * (((p % b.toNatClampNeg : Nat) : Int) + 1)
/-- a question that can be -/
def qv (kind b : Int32) : Prop := kind = 0 ∨ kind = 1 ∨ (kind = 2 ∧ ∃ n, 0 < n ∧ n < 4 ∧ b = nI n)
theorem bt_01 (a : Int32) (p : Nat) : 0 ≤ bt a p ∧ bt a p ≤ 1 := by
  unfold bt
  by_cases h : a.toBitVec.getLsbD p = true
  · rw [if_pos h]; omega
  · rw [if_neg h]; omega
theorem wq_ok {kind a b : Int32} (h : qv kind b) : qok (wq kind a b) := by
  intro p hp
  have h1 := bt_01 a p
  have h2 := bt_01 b p
  unfold wq
  rcases h with rfl | rfl | ⟨rfl, n, hn0, hn, rfl⟩
  · rw [if_neg (by decide), if_pos rfl]; omega
  · rw [if_pos rfl]; omega
  · rw [if_neg (by decide), if_neg (by decide), show (nI n).toNatClampNeg = n from nI_clamp (by omega)]
    have h3 := Nat.mod_lt p hn0
    have := mulb (x := bt a p) (y := ((p % n : Nat) : Int) + 1) (A := 1) (B := 3) (by omega) (by omega)
    omega
theorem bit_I (x : Int32) {j : Nat} (hj : j < 32) : (isr x (nI j) &&& 1) = I (bt x j) := by
  rw [bit_test x hj]
  unfold bt
  by_cases h : x.toBitVec.getLsbD j = true
  · rw [if_pos h, if_pos h]; rfl
  · rw [if_neg h, if_neg h]; rfl
theorem irem_small : ∀ p, p < 8 → ∀ n, n < 4 → 0 < n → irem (nI p) (nI n) = nI (p % n) := by decide +kernel
theorem s_make {oq : Nat} {S : Sg} {kind a b : Int32} (h : qv kind b) : wp (f_X2_make oq kind a b S) (fun S' => Fr (fun p => p = oq + 1) S S' ∧ QW oq S' (wq kind a b)) := by
  unfold f_X2_make
  refine wp_bdm (up (F := fun n k S' => L_X2_make_3 oq kind a b n (nI k) S') 8 (fun k S' => Fr (fun p => p = oq + 1) S S' ∧ ∀ j, j < k → S'.1 (oq + 1) j = I (wq kind a b j)) (fun S' => Fr (fun p => p = oq + 1) S S' ∧ QW oq S' (wq kind a b)) ?_ ?_ 400 0 S (by omega) (by omega) ⟨Fr.rf, fun j h => by omega⟩) (fun S' h => wp_some h)
  · intro n k S2 hk ⟨q1, q2⟩ ih
    rw [L_X2_make_3]
    refine wp_ifp (lt8 hk) (wp_lt (wp_lt ?_))
    rw [bit_I a (by omega), bit_I b (by omega)]
    have fin : ∀ x : Int32, x = I (wq kind a b k) → wp (L_X2_make_3 oq kind a b n (nI k + 1) (setI S2 (oq + 1) (ix (nI k)) x)) (fun S' => Fr (fun p => p = oq + 1) S S' ∧ QW oq S' (wq kind a b)) := fun x hx => by
      rw [nIs, ixn (by omega), hx]
      refine ih _ ⟨q1.tr (Fr.setI rfl), fun j hj => ?_⟩
      by_cases e : j = k
      · subst e; exact setI_s
      · rw [setI_n (by omega)]; exact q2 j (by omega)
    rcases h with rfl | rfl | ⟨rfl, m, hm0, hm, rfl⟩
    · refine wp_ifn (by decide) (wp_ifn (by decide) (wp_gd (inn' hk (by omega)) (fin _ ?_)))
      unfold wq
      rw [if_neg (by decide), if_pos rfl]
    · refine wp_ifp rfl (wp_lt (wp_gd (inn' hk (by omega)) (fin _ ?_)))
      unfold wq
      rw [if_pos rfl, I_sub]
    · refine wp_ifn (by decide) (wp_ifp rfl (wp_ifn (nI_ne0 hm0 (by omega)) (wp_gd (decide_eq_true (nI_ne0 hm0 (by omega))) (wp_lt (wp_gd (inn' hk (by omega)) (fin _ ?_))))))
      unfold wq
      rw [if_neg (by decide), if_neg (by decide), irem_small k hk m hm hm0, show (nI m).toNatClampNeg = m from nI_clamp (by omega), show (1 : Int32) = nI 1 from rfl, nI_add, ← I_nI, I_mul]
      congr 2
      omega
  · intro n S2 hp
    rw [L_X2_make_3]
    exact wp_ifn (nlt8 (Nat.le_refl _) (by omega)) (wp_some hp)
