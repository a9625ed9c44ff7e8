/-! narrowing -/
abbrev nst : Type := (Nat → Int) × (Nat → Int)
def loE (c : Nat → Int) (s : nst) (k : Nat) : Int := c k * (if 0 < c k then s.1 k else s.2 k)
def hiE (c : Nat → Int) (s : nst) (k : Nat) : Int := c k * (if 0 < c k then s.2 k else s.1 k)
def nF (c : Nat → Int) (t : Int) (v : Nat) (s : nst) : Int := t - (sm 10 (hiE c s) - hiE c s v)
def nT (c : Nat → Int) (t : Int) (v : Nat) (s : nst) : Int := t - (sm 10 (loE c s) - loE c s v)
def nA1 (c : Nat → Int) (t : Int) (v : Nat) (s : nst) : Int := if 0 < c v then -((-(nF c t v s)) / c v) else -((nT c t v s) / (-(c v)))
def nB1 (c : Nat → Int) (t : Int) (v : Nat) (s : nst) : Int := if 0 < c v then (nT c t v s) / c v else (-(nF c t v s)) / (-(c v))
def nmv (c : Nat → Int) (t : Int) (v : Nat) (s : nst) : Bool := decide (c v ≠ 0 ∧ (s.1 v < nA1 c t v s ∨ nB1 c t v s < s.2 v))
def n1 (c : Nat → Int) (t : Int) (v : Nat) (s : nst) : nst := if c v = 0 then s else (fun k => if k = v then (if s.1 v < nA1 c t v s then nA1 c t v s else s.1 v) else s.1 k, fun k => if k = v then (if nB1 c t v s < s.2 v then nB1 c t v s else s.2 v) else s.2 k)
def nok (x : Nat → Int) (s : nst) : Prop := ∀ k, k < 10 → 0 ≤ s.1 k ∧ s.1 k ≤ x k ∧ x k ≤ s.2 k ∧ s.2 k ≤ 99
theorem sm_le {f h : Nat → Int} : ∀ n, (∀ k, k < n → f k ≤ h k) → sm n f ≤ sm n h := by
  intro n
  induction n with
  | zero => intro _; exact Int.le_refl _
  | succ n ih => intro q; show sm n f + f n ≤ sm n h + h n; have := ih fun k hk => q k (by omega); have := q n (by omega); omega
theorem sm_rest {f h : Nat → Int} (v : Nat) : ∀ n, (∀ k, k < n → f k ≤ h k) → v < n → sm n f - f v ≤ sm n h - h v := by
  intro n
  induction n with
  | zero => intro _ q; omega
  | succ n ih =>
    intro q hv
    show sm n f + f n - f v ≤ sm n h + h n - h v
    by_cases e : v = n
    · subst e
      have := sm_le v fun k hk => q k (by omega)
      omega
    · have := ih (fun k hk => q k (by omega)) (by omega)
      have := q n (by omega)
      omega
theorem ends {c x : Nat → Int} {s : nst} (hx : nok x s) {k : Nat} (hk : k < 10) : loE c s k ≤ c k * x k ∧ c k * x k ≤ hiE c s k := by
  obtain ⟨h1, h2, h3, h4⟩ := hx k hk
  unfold loE hiE
  by_cases hc : 0 < c k
  · rw [if_pos hc, if_pos hc]
    exact ⟨Int.mul_le_mul_of_nonneg_left h2 (by omega), Int.mul_le_mul_of_nonneg_left h3 (by omega)⟩
  · rw [if_neg hc, if_neg hc]
    exact ⟨Int.mul_le_mul_of_nonpos_left (by omega) h3, Int.mul_le_mul_of_nonpos_left (by omega) h2⟩
theorem eb_lo {c x : Nat → Int} {s : nst} (hc : bdd c 3) (hx : nok x s) {k : Nat} (hk : k < 10) : (-297 ≤ loE c s k ∧ loE c s k ≤ 297) ∧ (-297 ≤ hiE c s k ∧ hiE c s k ≤ 297) := by
  obtain ⟨h1, h2, h3, h4⟩ := hx k hk
  have q1 := mulb (y := s.1 k) (B := 99) (hc k hk) (by omega)
  have q2 := mulb (y := s.2 k) (B := 99) (hc k hk) (by omega)
  unfold loE hiE
  by_cases hc : 0 < c k
  · rw [if_pos hc, if_pos hc]; exact ⟨by omega, by omega⟩
  · rw [if_neg hc, if_neg hc]; exact ⟨by omega, by omega⟩
theorem sm_bd {f : Nat → Int} {B : Int} : ∀ n, (∀ k, k < n → -B ≤ f k ∧ f k ≤ B) → -(B * n) ≤ sm n f ∧ sm n f ≤ B * n := by
  intro n
  induction n with
  | zero => intro _; exact ⟨by show -(B * (0 : Nat)) ≤ 0; simp, by show (0 : Int) ≤ B * (0 : Nat); simp⟩
  | succ n ih =>
    intro h
    have h1 := ih fun k hk => h k (by omega)
    have h2 := h n (by omega)
    have e : B * ((n + 1 : Nat) : Int) = B * n + B := by rw [Int.natCast_add, Int.mul_add]; simp
    rw [e]
    show _ ≤ sm n f + f n ∧ sm n f + f n ≤ _
    omega
theorem nFT_bd {c x : Nat → Int} {s : nst} {t : Int} (hc : bdd c 3) (hx : nok x s) (ht : -3000 ≤ t ∧ t ≤ 3000) {v : Nat} (hv : v < 10) : (-7000 ≤ nF c t v s ∧ nF c t v s ≤ 7000) ∧ (-7000 ≤ nT c t v s ∧ nT c t v s ≤ 7000) := by
  have h1 := sm_bd 10 fun k hk => (eb_lo hc hx hk).1
  have h2 := sm_bd 10 fun k hk => (eb_lo hc hx hk).2
  have h3 := eb_lo hc hx hv
  unfold nF nT
  omega
theorem nFT {c x : Nat → Int} {s : nst} {t : Int} (hx : nok x s) (ht : t = sm 10 (fun k => c k * x k)) {v : Nat} (hv : v < 10) : nF c t v s ≤ c v * x v ∧ c v * x v ≤ nT c t v s := by
  have h1 := sm_rest (f := fun k => c k * x k) (h := hiE c s) v 10 (fun k hk => (ends hx hk).2) hv
  have h2 := sm_rest (f := loE c s) (h := fun k => c k * x k) v 10 (fun k hk => (ends hx hk).1) hv
  unfold nF nT
  show _ ∧ _
  omega
theorem c_cases {x : Int} (h : -3 ≤ x ∧ x ≤ 3) (h0 : x ≠ 0) : x = 1 ∨ x = 2 ∨ x = 3 ∨ x = -1 ∨ x = -2 ∨ x = -3 := by omega
theorem nAB {c x : Nat → Int} {s : nst} {t : Int} (hc : bdd c 3) (hx : nok x s) (ht : t = sm 10 (fun k => c k * x k)) {v : Nat} (hv : v < 10) (h0 : c v ≠ 0) : nA1 c t v s ≤ x v ∧ x v ≤ nB1 c t v s := by
  have h1 := nFT hx ht hv
  unfold nA1 nB1
  rcases c_cases (hc v hv) h0 with e | e | e | e | e | e <;> rw [e] at h1 ⊢
  · rw [if_pos (by decide), if_pos (by decide)]; omega
  · rw [if_pos (by decide), if_pos (by decide)]; omega
  · rw [if_pos (by decide), if_pos (by decide)]; omega
  · rw [if_neg (by decide), if_neg (by decide), Int.neg_neg]; omega
  · rw [if_neg (by decide), if_neg (by decide), Int.neg_neg]; omega
  · rw [if_neg (by decide), if_neg (by decide), Int.neg_neg]; omega
theorem n1_ok {c x : Nat → Int} {s : nst} {t : Int} (hc : bdd c 3) (hx : nok x s) (ht : t = sm 10 (fun k => c k * x k)) {v : Nat} (hv : v < 10) : nok x (n1 c t v s) := by
  unfold n1
  by_cases h0 : c v = 0
  · rw [if_pos h0]; exact hx
  · rw [if_neg h0]
    have h1 := nAB hc hx ht hv h0
    intro k hk
    have h2 := hx k hk
    by_cases e : k = v
    · subst e
      show 0 ≤ (if k = k then (if s.1 k < nA1 c t k s then nA1 c t k s else s.1 k) else s.1 k) ∧ (if k = k then (if s.1 k < nA1 c t k s then nA1 c t k s else s.1 k) else s.1 k) ≤ x k ∧ x k ≤ (if k = k then (if nB1 c t k s < s.2 k then nB1 c t k s else s.2 k) else s.2 k) ∧ (if k = k then (if nB1 c t k s < s.2 k then nB1 c t k s else s.2 k) else s.2 k) ≤ 99
      rw [if_pos rfl, if_pos rfl]
      by_cases q1 : s.1 k < nA1 c t k s <;> by_cases q2 : nB1 c t k s < s.2 k
      · rw [if_pos q1, if_pos q2]; omega
      · rw [if_pos q1, if_neg q2]; omega
      · rw [if_neg q1, if_pos q2]; omega
      · rw [if_neg q1, if_neg q2]; omega
    · show 0 ≤ (if k = v then _ else s.1 k) ∧ (if k = v then _ else s.1 k) ≤ x k ∧ x k ≤ (if k = v then _ else s.2 k) ∧ (if k = v then _ else s.2 k) ≤ 99
      rw [if_neg e, if_neg e]
      exact h2
-- a row, all rows, all rounds
def nR (c : Nat → Int) (t : Int) : Nat → nst × Bool → nst × Bool
  | 0, s => s
  | n + 1, s => (n1 c t n (nR c t n s).1, (nR c t n s).2 || nmv c t n (nR c t n s).1)
def nG (w : Wd) : Nat → nst × Bool → nst × Bool
  | 0, s => s
  | i + 1, s => nR (gro (gh w) i) (dat w 3 i) 10 (nG w i s)
def nAll (w : Wd) : Nat → nst → nst
  | 0, s => s
  | n + 1, s => if (nG w (gh w).length (s, false)).2 = true then nAll w n (nG w (gh w).length (s, false)).1 else (nG w (gh w).length (s, false)).1
def narrowed (w : Wd) : nst := nAll w 60 (dat w 1, dat w 2)
/-- what was answered is so -/
def wans (w : Wd) : Prop := ∀ i, i < (gh w).length → dat w 3 i = sm 10 (fun v => gro (gh w) i v * dat w 0 v)
theorem nR_ok {c x : Nat → Int} {t : Int} (hc : bdd c 3) (ht : t = sm 10 (fun k => c k * x k)) : ∀ n, n ≤ 10 → ∀ s : nst × Bool, nok x s.1 → nok x (nR c t n s).1 := by
  intro n
  induction n with
  | zero => intro _ s h; exact h
  | succ n ih => intro hn s h; exact n1_ok hc (ih (by omega) s h) ht (by omega)
theorem nG_ok {w : Wd} (hk : wok w) (ha : wans w) : ∀ i, i ≤ (gh w).length → ∀ s : nst × Bool, nok (dat w 0) s.1 → nok (dat w 0) (nG w i s).1 := by
  intro i
  induction i with
  | zero => intro _ s h; exact h
  | succ i ih => intro hi s h; exact nR_ok (rows_bdd hk i (by omega)) (ha i (by omega)) 10 (Nat.le_refl _) _ (ih (by omega) s h)
theorem nR_flag (c : Nat → Int) (t : Int) (s : nst) (m : Bool) : ∀ n, (nR c t n (s, m)).1 = (nR c t n (s, false)).1 ∧ (nR c t n (s, m)).2 = (m || (nR c t n (s, false)).2) := by
  intro n
  induction n with
  | zero => exact ⟨rfl, by show m = (m || false); simp⟩
  | succ n ih =>
    refine ⟨?_, ?_⟩
    · show n1 c t n _ = n1 c t n _
      rw [ih.1]
    · show (_ || nmv c t n _) = (m || (_ || nmv c t n _))
      rw [ih.1, ih.2, Bool.or_assoc]
theorem n1_z {c : Nat → Int} {t : Int} {v : Nat} {s : nst} (h : c v = 0) : n1 c t v s = s ∧ nmv c t v s = false := ⟨if_pos h, decide_eq_false fun q => q.1 h⟩
theorem nR_z {c : Nat → Int} {t : Int} {m : Nat} (s : nst × Bool) (h : ∀ v, m ≤ v → v < 10 → c v = 0) : ∀ n, m ≤ n → n ≤ 10 → nR c t n s = nR c t m s := by
  intro n
  induction n with
  | zero => intro h1 _; rw [show m = 0 by omega]
  | succ n ih =>
    intro h1 h2
    by_cases e : m = n + 1
    · rw [e]
    · have hz := n1_z (t := t) (s := (nR c t n s).1) (h n (by omega) (by omega))
      show (n1 c t n _, _ || nmv c t n _) = _
      rw [hz.1, hz.2, Bool.or_false]
      exact ih (by omega) (by omega)
-- sums of the ends
theorem sm_z {f : Nat → Int} {m : Nat} (h : ∀ k, m ≤ k → k < 10 → f k = 0) : ∀ n, m ≤ n → n ≤ 10 → sm n f = sm m f := by
  intro n
  induction n with
  | zero => intro h1 _; rw [show m = 0 by omega]
  | succ n ih =>
    intro h1 h2
    by_cases e : m = n + 1
    · rw [e]
    · show sm n f + f n = _
      rw [h n (by omega) (by omega), ih (by omega) (by omega)]
      omega
theorem sm_cong {f h : Nat → Int} : ∀ n, (∀ k, k < n → f k = h k) → sm n f = sm n h := by
  intro n
  induction n with
  | zero => intro _; rfl
  | succ n ih => intro q; show sm n f + f n = sm n h + h n; rw [ih fun k hk => q k (by omega), q n (by omega)]
theorem sm_one {f h : Nat → Int} {v : Nat} (e : ∀ k, k ≠ v → f k = h k) : ∀ n, v < n → sm n f - f v = sm n h - h v := by
  intro n
  induction n with
  | zero => intro q; omega
  | succ n ih =>
    intro hv
    show sm n f + f n - f v = sm n h + h n - h v
    by_cases q : v = n
    · subst q
      rw [sm_cong (f := f) (h := h) v fun k hk => e k (by omega)]
      omega
    · rw [e n (fun z => q z.symm)]
      have := ih (by omega)
      omega
theorem loE_n1 {c : Nat → Int} {t : Int} {v k : Nat} {s : nst} (h : k ≠ v) : loE c (n1 c t v s) k = loE c s k ∧ hiE c (n1 c t v s) k = hiE c s k := by
  unfold n1
  by_cases h0 : c v = 0
  · rw [if_pos h0]; exact ⟨rfl, rfl⟩
  · rw [if_neg h0]
    unfold loE hiE
    simp only [if_neg h]
    exact ⟨trivial, trivial⟩
theorem loE_z {c : Nat → Int} {s : nst} {k : Nat} (h : c k = 0) : loE c s k = 0 ∧ hiE c s k = 0 := by
  unfold loE hiE
  rw [h]
  omega
-- division rounded down
def flo (x y : Int) : Int := if 0 < y then x / y else (-x) / (-y)
theorem I_div {a b : Int} (ha : -2147483648 < a ∧ a < 2147483648) (hb : -2147483648 < b ∧ b < 2147483648) : I a / I b = I (a.tdiv b) := by
  apply Int32.toInt_inj.mp
  have hq : -2147483648 < a.tdiv b ∧ a.tdiv b < 2147483648 := by
    have h := Int.natAbs_tdiv_le_natAbs a b
    omega
  rw [Int32.toInt_div, I_toInt (by omega) (by omega), I_toInt (by omega) (by omega), I_toInt (by omega) (by omega)]
  exact Int.bmod_eq_of_le (by omega) (by omega)
theorem xor_neg {a b : Int} (ha : -2147483648 ≤ a ∧ a < 2147483648) (hb : -2147483648 ≤ b ∧ b < 2147483648) : (I a ^^^ I b) < 0 ↔ ((a < 0) ↔ ¬ (b < 0)) := by
  have m : ∀ x : Int32, x < 0 ↔ x.toBitVec.msb = true := fun x => by
    rw [Int32.lt_iff_toInt_lt, BitVec.msb_eq_toInt, decide_eq_true_iff]
    rfl
  have ea : I a < 0 ↔ a < 0 := I_lt (b := 0) ha (by omega)
  have eb : I b < 0 ↔ b < 0 := I_lt (b := 0) hb (by omega)
  rw [m, Int32.toBitVec_xor, BitVec.msb_xor, ← ea, ← eb, m, m]
  cases (I a).toBitVec.msb <;> cases (I b).toBitVec.msb <;> decide
theorem tdiv_neg' (x : Int) (y : Int) : (-x).tdiv y = -(x.tdiv y) := Int.neg_tdiv x y
theorem s_floorDiv {x y : Int} (hx : -20000 ≤ x ∧ x ≤ 20000) (hy : -3 ≤ y ∧ y ≤ 3) (h0 : y ≠ 0) : f_J9_floorDiv_7cf53 (I x) (I y) = some (I (flo x y)) := by
  have hq : x.tdiv y = (if 0 ≤ x then x / y else -((-x) / y)) := by
    by_cases h : 0 ≤ x
    · rw [if_pos h, Int.tdiv_eq_ediv_of_nonneg h]
    · rw [if_neg h, ← Int.tdiv_eq_ediv_of_nonneg (show 0 ≤ -x by omega), tdiv_neg', Int.neg_neg]
  have hnz : ¬ I y = (0 : Int32) := fun e => h0 ((I_eq (b := 0) (by omega) (by omega)).mp e)
  apply wp_to
  unfold f_J9_floorDiv_7cf53
  refine wp_gd (decide_eq_true hnz) (wp_ltq (I (x.tdiv y)) (I_div (by omega) (by omega)) ?_)
  have hb : -20000 ≤ x.tdiv y ∧ x.tdiv y ≤ 20000 := by have := Int.natAbs_tdiv_le_natAbs x y; omega
  have hxor := @xor_neg x y (by omega) (by omega)
  have hm := mulb hb hy
  have hmul : I (x.tdiv y) * I y = I x ↔ x.tdiv y * y = x := by rw [I_mul]; exact I_eq (by omega) (by omega)
  have e1 : I (x.tdiv y) - (1 : Int32) = I (x.tdiv y - 1) := I_sub _ 1
  rw [e1]
  refine wp_if (fun h1 => ?_) (fun h1 => ?_)
  · have hs := hxor.mp h1
    refine wp_if (fun h2 => ?_) (fun h2 => ?_)
    · have h3 := hmul.mp h2
      refine wp_some (congrArg I ?_)
      unfold flo
      rw [hq] at h3 ⊢
      rcases c_cases hy h0 with e | e | e | e | e | e <;> subst e
      · rw [if_pos (show (0 : Int) < 1 by decide)]; split <;> omega
      · rw [if_pos (show (0 : Int) < 2 by decide)]; split <;> rename_i hh <;> (first | rw [if_pos hh] at h3 | rw [if_neg hh] at h3) <;> omega
      · rw [if_pos (show (0 : Int) < 3 by decide)]; split <;> rename_i hh <;> (first | rw [if_pos hh] at h3 | rw [if_neg hh] at h3) <;> omega
      · rw [if_neg (show ¬ (0 : Int) < -1 by decide), Int.neg_neg]; split <;> omega
      · rw [if_neg (show ¬ (0 : Int) < -2 by decide), Int.neg_neg]; split <;> rename_i hh <;> (first | rw [if_pos hh] at h3 | rw [if_neg hh] at h3) <;> omega
      · rw [if_neg (show ¬ (0 : Int) < -3 by decide), Int.neg_neg]; split <;> rename_i hh <;> (first | rw [if_pos hh] at h3 | rw [if_neg hh] at h3) <;> omega
    · have h3 : ¬ x.tdiv y * y = x := fun q => h2 (hmul.mpr q)
      refine wp_some (congrArg I ?_)
      unfold flo
      rw [hq] at h3 ⊢
      rcases c_cases hy h0 with e | e | e | e | e | e <;> subst e
      · rw [if_pos (show (0 : Int) < 1 by decide)]; split <;> rename_i hh <;> (first | rw [if_pos hh] at h3 | rw [if_neg hh] at h3) <;> omega
      · rw [if_pos (show (0 : Int) < 2 by decide)]; split <;> rename_i hh <;> (first | rw [if_pos hh] at h3 | rw [if_neg hh] at h3) <;> omega
      · rw [if_pos (show (0 : Int) < 3 by decide)]; split <;> rename_i hh <;> (first | rw [if_pos hh] at h3 | rw [if_neg hh] at h3) <;> omega
      · rw [if_neg (show ¬ (0 : Int) < -1 by decide), Int.neg_neg]; split <;> rename_i hh <;> (first | rw [if_pos hh] at h3 | rw [if_neg hh] at h3) <;> omega
      · rw [if_neg (show ¬ (0 : Int) < -2 by decide), Int.neg_neg]; split <;> rename_i hh <;> (first | rw [if_pos hh] at h3 | rw [if_neg hh] at h3) <;> omega
      · rw [if_neg (show ¬ (0 : Int) < -3 by decide), Int.neg_neg]; split <;> rename_i hh <;> (first | rw [if_pos hh] at h3 | rw [if_neg hh] at h3) <;> omega
  · have hs : ¬ ((x < 0) ↔ ¬ (y < 0)) := fun q => h1 (hxor.mpr q)
    refine wp_some (congrArg I ?_)
    unfold flo
    rw [hq]
    rcases c_cases hy h0 with e | e | e | e | e | e <;> subst e
    · rw [if_pos (show (0 : Int) < 1 by decide)]; split <;> omega
    · rw [if_pos (show (0 : Int) < 2 by decide)]; split <;> omega
    · rw [if_pos (show (0 : Int) < 3 by decide)]; split <;> omega
    · rw [if_neg (show ¬ (0 : Int) < -1 by decide), Int.neg_neg]; split <;> omega
    · rw [if_neg (show ¬ (0 : Int) < -2 by decide), Int.neg_neg]; split <;> omega
    · rw [if_neg (show ¬ (0 : Int) < -3 by decide), Int.neg_neg]; split <;> omega
