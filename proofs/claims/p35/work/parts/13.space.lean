theorem ten : (10 : Int32) = nI 10 := rfl
theorem lt10 {k : Nat} (h : k < 10) : nI k < (10 : Int32) := nI_lt h (by decide)
theorem nlt10 {k : Nat} (h : 10 ≤ k) (hk : k < 2 ^ 31) : ¬ nI k < (10 : Int32) := nI_nlt h hk
theorem ixn {k : Nat} (h : k < 1000) : ix (nI k) = k := ix_n (by omega)
theorem inn' {k n : Nat} (h : k < n) (hn : n ≤ 1000) : inb (nI k) n = true := inb_n h (by omega)
theorem nIs (k : Nat) : nI k + (1 : Int32) = nI (k + 1) := nI_1 k
def firstOf (f : Nat → Int) (r : Int32) : Prop := (∃ q, q < 10 ∧ r = nI q ∧ f q ≠ 0 ∧ ∀ c, c < q → f c = 0) ∨ (r = -9 ∧ ∀ c, c < 10 → f c = 0)
def bdd (f : Nat → Int) (B : Int) : Prop := ∀ c, c < 10 → -B ≤ f c ∧ f c ≤ B
def rowJ (S : Sg) (a : Nat) (f : Nat → Int) : Prop := ∀ c, c < 10 → S.2 a c = J (f c)
theorem J_z {z : Int} (h : -9000000000000000000 ≤ z ∧ z ≤ 9000000000000000000) : J z = (0 : Int64) ↔ z = 0 := J_eq (b := 0) (by omega) (by omega)
theorem s_firstIn {a0 : Nat} {S : Sg} {f : Nat → Int} (h : rowJ S a0 f) (hb : bdd f 9000000000000000000) : wp (f_X4_firstIn a0 10 S) (fun r => firstOf f r) := by
  unfold f_X4_firstIn
  refine wp_bsm (up (F := fun n k (_ : Unit) => L_X4_firstIn_2 a0 10 S n (nI k)) 10 (fun k _ => ∀ c, c < k → f c = 0) (fun z => (∃ q, q < 10 ∧ z = .inl (nI q) ∧ f q ≠ 0 ∧ ∀ c, c < q → f c = 0) ∨ (z = .inr () ∧ ∀ c, c < 10 → f c = 0)) ?_ ?_ 400 0 () (by omega) (by omega) (fun c hc => by omega)) ?_ ?_
  · intro n k _ hk hp ih
    rw [L_X4_firstIn_2]
    refine wp_ifp (lt10 hk) (wp_gd (inn' hk (by omega)) ?_)
    rw [ixn (by omega), h k hk]
    refine wp_if (fun hc => ?_) (fun hc => ?_)
    · rw [J_z (hb k hk)] at hc
      show wp (L_X4_firstIn_2 a0 10 S n (nI k + 1)) _
      rw [nIs]
      exact ih () fun c h1 => by
        by_cases e : c = k
        · rw [e]; exact hc
        · exact hp c (by omega)
    · rw [J_z (hb k hk)] at hc
      exact wp_some (Or.inl ⟨k, hk, rfl, hc, hp⟩)
  · intro n _ hp
    rw [L_X4_firstIn_2]
    exact wp_ifn (nlt10 (Nat.le_refl _) (by omega)) (wp_some (Or.inr ⟨rfl, hp⟩))
  · intro r hr
    rcases hr with ⟨q, h1, h2, h3⟩ | ⟨h1, _⟩
    · cases h2
      exact wp_some (Or.inl ⟨q, h1, rfl, h3⟩)
    · cases h1
  · intro _ hr
    rcases hr with ⟨q, h1, h2, h3⟩ | ⟨_, h2⟩
    · cases h2
    · exact wp_some (Or.inr ⟨rfl, h2⟩)
/-- one row is another times some factor, seen from place q -/
def line (f h : Nat → Int) (q : Nat) : Prop := h q ≠ 0 ∧ ∀ c, c < 10 → f c * h q = h c * f q
theorem mulb {x y A B : Int} (hx : -A ≤ x ∧ x ≤ A) (hy : -B ≤ y ∧ y ≤ B) : -(A * B) ≤ x * y ∧ x * y ≤ A * B := by
  have hA : 0 ≤ A := by omega
  have hB : 0 ≤ B := by omega
  have h1 : 0 ≤ (A - x) * (B + y) := Int.mul_nonneg (by omega) (by omega)
  have h2 : 0 ≤ (A + x) * (B - y) := Int.mul_nonneg (by omega) (by omega)
  have h3 : 0 ≤ (A - x) * (B - y) := Int.mul_nonneg (by omega) (by omega)
  have h4 : 0 ≤ (A + x) * (B + y) := Int.mul_nonneg (by omega) (by omega)
  constructor
  · grind
  · grind
theorem s_isOneLine {a0 a1 : Nat} {S : Sg} {f h : Nat → Int} {A B : Int} (h0 : rowJ S a0 f) (h1 : rowJ S a1 h) (hf : bdd f A) (hh : bdd h B) (hB : B ≤ 9000000000000000000) (hAB : A * B ≤ 9000000000000000000) {q : Nat} (hq : q < 10) : wp (f_X4_isOneLine a0 10 a1 10 (nI q) S) (fun r => (r = 1 ∧ line f h q) ∨ (r = 0 ∧ ¬ line f h q)) := by
  have bd : ∀ c d, c < 10 → d < 10 → -9000000000000000000 ≤ f c * h d ∧ f c * h d ≤ 9000000000000000000 := fun c d hc hd => by
    have := mulb (hf c hc) (hh d hd)
    omega
  unfold f_X4_isOneLine
  refine wp_ifn (nI_pos (by omega)) (wp_ifp (lt10 hq) (wp_gd (inn' hq (by omega)) ?_))
  rw [ixn (by omega), h1 q hq]
  refine wp_if (fun hc => ?_) (fun hc => ?_)
  · rw [J_z (by have := hh q hq; omega)] at hc
    exact wp_some (Or.inr ⟨rfl, fun z => z.1 hc⟩)
  · rw [J_z (by have := hh q hq; omega)] at hc
    refine wp_bsm (up (F := fun n k (_ : Unit) => L_X4_isOneLine_22 a0 10 a1 10 (nI q) S n (nI k)) 10 (fun k _ => ∀ c, c < k → f c * h q = h c * f q) (fun z => (z = .inl 0 ∧ ¬ line f h q) ∨ (z = .inr () ∧ line f h q)) ?_ ?_ 400 0 () (by omega) (by omega) (fun c hc => by omega)) ?_ ?_
    · intro n k _ hk hp ih
      rw [L_X4_isOneLine_22]
      refine wp_ifp (lt10 hk) (wp_gd (inn' hk (by omega)) (wp_gd (inn' hq (by omega)) (wp_gd (inn' hk (by omega)) (wp_gd (inn' hq (by omega)) ?_))))
      rw [ixn (by omega), ixn (by omega), h0 k hk, h0 q hq, h1 k hk, h1 q hq, J_mul, J_mul]
      have b1 := bd k q hk hq
      have b2 := bd q k hq hk
      rw [Int.mul_comm] at b2
      refine wp_if (fun hc => ?_) (fun hc => ?_)
      · rw [J_eq (by omega) (by omega)] at hc
        show wp (L_X4_isOneLine_22 a0 10 a1 10 (nI q) S n (nI k + 1)) _
        rw [nIs]
        exact ih () fun c h1 => by
          by_cases e : c = k
          · rw [e]; exact hc
          · exact hp c (by omega)
      · rw [J_eq (by omega) (by omega)] at hc
        exact wp_some (Or.inl ⟨rfl, fun z => hc (z.2 k hk)⟩)
    · intro n _ hp
      rw [L_X4_isOneLine_22]
      exact wp_ifn (nlt10 (Nat.le_refl _) (by omega)) (wp_some (Or.inr ⟨rfl, hc, hp⟩))
    · intro r hr
      rcases hr with ⟨e, h⟩ | ⟨e, h⟩
      · cases e; exact wp_some (Or.inr ⟨rfl, h⟩)
      · cases e
    · intro r hr
      rcases hr with ⟨e, h⟩ | ⟨e, h⟩
      · cases e
      · exact wp_some (Or.inl ⟨rfl, h⟩)
theorem s_isOneLine' {a0 a1 : Nat} {S : Sg} : wp (f_X4_isOneLine a0 10 a1 10 (-9) S) (fun r => r = 0) := by
  unfold f_X4_isOneLine
  exact wp_ifp (by decide) (wp_some rfl)
theorem s_leave {os a1 a2 : Nat} {S : Sg} {g : Gh} {a : Nat → Int} (hL : ∀ v, v < 10 → rowJ S (os + 2 + v) (gr g (eb v))) (ha : ∀ v, v < 10 → S.1 a1 v = I (a v)) (hb : bdd a 3) (hd : ∀ v, v < 10 → os + 2 + v ≠ a2) : wp (f_X4_leave os a1 10 a2 10 S) (fun S' => Fr (fun q => q = a2) S S' ∧ S'.1 = S.1 ∧ rowJ S' a2 (gr g a)) := by
  unfold f_X4_leave
  refine wp_bdm (up (F := fun n k S' => L_X4_leave_2 os a1 10 a2 10 n (nI k) S') 10 (fun k S' => Fr (fun q => q = a2) S S' ∧ S'.1 = S.1 ∧ ∀ c, c < k → S'.2 a2 c = J 0) (fun S' => Fr (fun q => q = a2) S S' ∧ S'.1 = S.1 ∧ ∀ c, c < 10 → S'.2 a2 c = J 0) ?_ ?_ 400 0 S (by omega) (by omega) ⟨Fr.rf, rfl, fun c hc => by omega⟩) ?_
  · intro n k S' hk ⟨p1, p3, p2⟩ ih
    rw [L_X4_leave_2]
    refine wp_ifp (lt10 hk) (wp_gd (inn' hk (by omega)) ?_)
    show wp (L_X4_leave_2 os a1 10 a2 10 n (nI k + 1) (setJ S' a2 (ix (nI k)) 0)) _
    rw [nIs, ixn (by omega)]
    refine ih _ ⟨p1.tr (Fr.setJ rfl), p3, fun c hc => ?_⟩
    by_cases e : c = k
    · subst e; exact setJ_s
    · rw [setJ_n (fun z => e z.2)]; exact p2 c (by omega)
  · intro n S' hp
    rw [L_X4_leave_2]
    exact wp_ifn (nlt10 (Nat.le_refl _) (by omega)) (wp_some hp)
  intro S1 ⟨p1, p3, p2⟩
  refine wp_bdm (up (F := fun n k S' => L_X4_leave_20 os a1 10 a2 10 n (nI k) S') 10 (fun k S' => Fr (fun q => q = a2) S S' ∧ S'.1 = S.1 ∧ ∀ c, c < 10 → S'.2 a2 c = J (sm k (fun u => a u * gr g (eb u) c))) (fun S' => Fr (fun q => q = a2) S S' ∧ S'.1 = S.1 ∧ rowJ S' a2 (gr g a)) ?_ ?_ 400 0 S1 (by omega) (by omega) ⟨p1, p3, p2⟩) (fun S' h => wp_some h)
  · intro n k S2 hk ⟨q1, q3, q2⟩ ih
    rw [L_X4_leave_20]
    refine wp_ifp (lt10 hk) (wp_gd (inn' hk (by omega)) ?_)
    refine wp_ltq (I (a k)) (by rw [ixn (by omega), q3]; exact ha k hk) ?_
    have hbk := hb k hk
    refine wp_if (fun hc => ?_) (fun hc => ?_)
    · have h0 : a k = 0 := (I_eq (b := 0) (by omega) (by omega)).mp hc
      show wp (L_X4_leave_20 os a1 10 a2 10 n (nI k + 1) S2) _
      rw [nIs]
      refine ih _ ⟨q1, q3, fun c hc => ?_⟩
      rw [q2 c hc]
      show _ = J (sm k _ + a k * _)
      rw [h0, Int.zero_mul, Int.add_zero]
    · refine wp_bdm (up (F := fun n j S' => L_X4_leave_42 os a1 10 a2 10 (nI k) (I (a k)) n (nI j) S') 10 (fun j S' => Fr (fun q => q = a2) S S' ∧ S'.1 = S.1 ∧ ∀ c, c < 10 → S'.2 a2 c = J (sm (if c < j then k + 1 else k) (fun u => a u * gr g (eb u) c))) (fun S' => Fr (fun q => q = a2) S S' ∧ S'.1 = S.1 ∧ ∀ c, c < 10 → S'.2 a2 c = J (sm (k + 1) (fun u => a u * gr g (eb u) c))) ?_ ?_ 400 0 S2 (by omega) (by omega) ⟨q1, q3, fun c hc => by rw [if_neg (by omega)]; exact q2 c hc⟩) ?_
      · intro m j S3 hj ⟨r1, r3, r2⟩ ih2
        rw [L_X4_leave_42]
        refine wp_ifp (lt10 hj) (wp_gd (inn' hj (by omega)) (wp_gd (inn' hk (by omega)) (wp_gd (inn' hj (by omega)) ?_)))
        show wp (L_X4_leave_42 os a1 10 a2 10 (nI k) (I (a k)) m (nI j + 1) (setJ S3 a2 (ix (nI j)) _)) _
        rw [nIs, ixn (by omega), ixn (by omega)]
        refine ih2 _ ⟨r1.tr (Fr.setJ rfl), r3, fun c hc => ?_⟩
        by_cases e : c = j
        · subst e
          rw [setJ_s, if_pos (by omega), r2 c hc, if_neg (by omega), r1.J (hd k hk), hL k hk c hc, toJ, I_toInt (by omega) (by omega), J_mul, J_add]
          rfl
        · rw [setJ_n (fun z => e z.2), r2 c hc]
          by_cases e2 : c < j
          · rw [if_pos e2, if_pos (by omega)]
          · rw [if_neg e2, if_neg (by omega)]
      · intro m S3 ⟨r1, r3, r2⟩
        rw [L_X4_leave_42]
        exact wp_ifn (nlt10 (Nat.le_refl _) (by omega)) (wp_some ⟨r1, r3, fun c hc => by rw [r2 c hc, if_pos hc]⟩)
      · intro S3 h3
        show wp (L_X4_leave_20 os a1 10 a2 10 n (nI k + 1) S3) _
        rw [nIs]
        exact ih _ h3
  · intro n S2 ⟨q1, q3, q2⟩
    rw [L_X4_leave_20]
    exact wp_ifn (nlt10 (Nat.le_refl _) (by omega)) (wp_some ⟨q1, q3, fun c hc => by rw [q2 c hc, gr_sum]⟩)
