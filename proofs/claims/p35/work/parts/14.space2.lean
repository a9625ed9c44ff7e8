-- bits
def bitsAre (x : Int32) (P : Nat → Prop) : Prop := ∀ i, i < 32 → (x.toBitVec.getLsbD i = true ↔ P i)
theorem isl_b : ∀ k, k < 32 → (isl 1 (nI k)).toBitVec = 1#32 <<< k := by decide +kernel
theorem bit1 {k i : Nat} (hk : k < 32) (hi : i < 32) : (isl 1 (nI k)).toBitVec.getLsbD i = true ↔ i = k := by
  rw [isl_b k hk]
  simp only [BitVec.getLsbD_shiftLeft, BitVec.getLsbD_one, Bool.and_eq_true, decide_eq_true_eq, Bool.not_eq_true', decide_eq_false_iff_not]
  omega
theorem bits_0 : bitsAre 0 (fun _ => False) := fun i _ => by simp
theorem bits_or {x : Int32} {P : Nat → Prop} {k : Nat} (h : bitsAre x P) (hk : k < 32) : bitsAre (x ||| isl 1 (nI k)) (fun i => P i ∨ i = k) := fun i hi => by
  rw [Int32.toBitVec_or, BitVec.getLsbD_or, Bool.or_eq_true, h i hi, bit1 hk hi]
theorem bits_to {x : Int32} {P Q : Nat → Prop} (h : bitsAre x P) (k : ∀ i, i < 32 → (P i ↔ Q i)) : bitsAre x Q := fun i hi => (h i hi).trans (k i hi)
theorem bits_eq {x y : Int32} {P : Nat → Prop} (hx : bitsAre x P) (hy : bitsAre y P) : x = y := by
  apply Int32.toBitVec_inj.mp
  apply BitVec.eq_of_getLsbD_eq
  intro i hi
  rw [Bool.eq_iff_iff, hx i hi, hy i hi]
theorem bits_z {x : Int32} {P : Nat → Prop} (h : bitsAre x P) : x = 0 ↔ ∀ i, i < 32 → ¬ P i := by
  constructor
  · intro e i hi hp
    rw [e] at h
    exact (bits_0 i hi).mp ((h i hi).mpr hp)
  · intro k
    exact bits_eq (bits_to h fun i hi => ⟨fun p => k i hi p, fun p => p.elim⟩) bits_0
theorem isr_n : ∀ j, j < 32 → ((nI j &&& 31).toBitVec.smod 32#32).toNat = j := by decide +kernel
theorem bit_test (x : Int32) {j : Nat} (hj : j < 32) : (isr x (nI j) &&& 1) = if x.toBitVec.getLsbD j = true then 1 else 0 := by
  apply Int32.toBitVec_inj.mp
  apply BitVec.eq_of_getLsbD_eq
  intro i hi
  have e1 : (isr x (nI j) &&& 1).toBitVec = x.toBitVec.sshiftRight j &&& 1#32 := by
    unfold isr
    rw [Int32.toBitVec_and, Int32.toBitVec_shiftRight]
    show (x.toBitVec.sshiftRight ((nI j &&& 31).toBitVec.smod 32#32).toNat) &&& _ = _
    rw [isr_n j hj]
    rfl
  rw [e1, BitVec.getLsbD_and, BitVec.getLsbD_sshiftRight]
  by_cases h0 : i = 0
  · subst h0
    by_cases hb : x.toBitVec.getLsbD j = true
    · rw [if_pos hb]
      simp [hb, hj]
    · rw [if_neg hb]
      have hb2 : x.toBitVec.getLsbD j = false := by simpa using hb
      rw [BitVec.getLsbD_eq_getElem hj] at hb2
      simp [hb2, hj]
  · have h1 : (1#32).getLsbD i = false := by simp [BitVec.getLsbD_one, h0]
    rw [h1, Bool.and_false]
    by_cases hb : x.toBitVec.getLsbD j = true
    · rw [if_pos hb]
      exact h1.symm
    · rw [if_neg hb]
      simp
theorem bits_test {x : Int32} {P : Nat → Prop} (h : bitsAre x P) {j : Nat} (hj : j < 32) : (isr x (nI j) &&& 1) = 1 ↔ P j := by
  rw [bit_test x hj]
  by_cases hb : x.toBitVec.getLsbD j = true
  · rw [if_pos hb]; exact ⟨fun _ => (h j hj).mp hb, fun _ => rfl⟩
  · rw [if_neg hb]; exact ⟨fun e => absurd e (by decide), fun p => absurd ((h j hj).mpr p) hb⟩
-- how great the numbers are
theorem pow72 : ∀ k n : Nat, n ≤ k → (72 : Int) ^ n ≤ 72 ^ k := by
  intro k
  induction k with
  | zero => intro n h; rw [show n = 0 by omega]; exact Int.le_refl _
  | succ k ih =>
    intro n h
    by_cases e : n = k + 1
    · rw [e]; exact Int.le_refl _
    · have h1 := ih n (by omega)
      have h2 : (0 : Int) ≤ 72 ^ n := Int.pow_nonneg (by decide)
      rw [Int.pow_succ]
      omega
theorem p9 : (72 : Int) ^ 9 = 51998697814228992 := by decide +kernel
theorem p10 : (72 : Int) ^ 10 = 3743906242624487424 := by decide +kernel
theorem sq_b {x y B : Int} (h : x * x ≤ y) (hy : y ≤ B * B) (hB : 0 ≤ B) : -B ≤ x ∧ x ≤ B := sq_le hB (Int.le_trans h hy)
def gsmall (g : Gh) (n : Nat) : Prop := gok g ∧ gsm g ∧ g.length ≤ n
theorem gs_bd {g : Gh} (h : gsmall g 9) : -228100000 ≤ gs g ∧ gs g ≤ 228100000 :=
  sq_b (gs_le g h.1 h.2.1) (Int.le_trans (pow72 9 _ h.2.2) (by rw [p9]; decide)) (by decide)
theorem gl_bd {g : Gh} (h : gsmall g 9) {v : Nat} (hv : v < 10) : bdd (gr g (eb v)) 228100000 := fun c hc =>
  sq_b (gl_le g h.1 h.2.1 v c hv hc) (Int.le_trans (pow72 9 _ h.2.2) (by rw [p9]; decide)) (by decide)
theorem gl_bd10 {g : Gh} (h : gsmall g 10) {v : Nat} (hv : v < 10) : bdd (gr g (eb v)) 1935000000 := fun c hc =>
  sq_b (gl_le g h.1 h.2.1 v c hv hc) (Int.le_trans (pow72 10 _ h.2.2) (by rw [p10]; decide)) (by decide)
theorem gr_bd {g : Gh} (h : gsmall g 9) {a : Nat → Int} (ha : dt 10 a a ≤ 72) : bdd (gr g a) 1935000000 := fun c hc => by
  have h1 := gr_le g h.1 h.2.1 a 72 ha c hc
  have h2 := pow72 9 _ h.2.2
  rw [p9] at h2
  exact sq_b h1 (by omega) (by decide)
theorem bdd_mono {f : Nat → Int} {A B : Int} (h : bdd f A) (k : A ≤ B) : bdd f B := fun c hc => by have := h c hc; omega
def pbits : Gh → Int32
  | [] => 0
  | x :: r => pbits r ||| isl 1 (nI x.1)
theorem pbits_are : ∀ (g : Gh), gok g → bitsAre (pbits g) (fun i => ∃ x ∈ g, i = x.1)
  | [], _ => bits_to bits_0 fun i _ => ⟨fun h => h.elim, fun ⟨x, hx, _⟩ => by cases hx⟩
  | x :: r, h => bits_to (bits_or (pbits_are r h.1) (by have := h.2.1; omega)) fun i _ => by
    constructor
    · rintro (⟨y, hy, e⟩ | e)
      · exact ⟨y, List.mem_cons_of_mem _ hy, e⟩
      · exact ⟨x, List.mem_cons_self, e⟩
    · rintro ⟨y, hy, e⟩
      rcases List.mem_cons.mp hy with rfl | hy
      · exact Or.inr e
      · exact Or.inl ⟨y, hy, e⟩
/-- a Space holds what is left of each letter -/
def SP (os : Nat) (S : Sg) (g : Gh) : Prop := (∀ v, v < 10 → rowJ S (os + 2 + v) (gr g (eb v))) ∧ S.2 os 1 = J (gs g) ∧ S.1 os 2 = pbits g
abbrev inSp (os : Nat) : Nat → Prop := fun p => os ≤ p ∧ p < os + 12
theorem SP.fr {os : Nat} {S S' : Sg} {g : Gh} {A : Nat → Prop} (h : SP os S g) (hf : Fr A S S') (hA : ∀ p, inSp os p → ¬ A p) : SP os S' g :=
  ⟨fun v hv c hc => by rw [hf.J (hA _ ⟨by omega, by omega⟩)]; exact h.1 v hv c hc, by rw [hf.J (hA _ ⟨by omega, by omega⟩)]; exact h.2.1, by rw [hf.I (hA _ ⟨by omega, by omega⟩)]; exact h.2.2⟩
theorem isW_lit {q n : Nat} (hq : q < n) (hn : n < 2 ^ 31) : f_X6_isWithin (nI q) (nI n) = 1 := by
  unfold f_X6_isWithin lt
  rw [if_neg (nI_pos (by omega)), if_pos (nI_lt hq hn)]
theorem isW_9 : f_X6_isWithin (-9) (10 : Int32) = 0 := by decide
theorem s_join {os a1 : Nat} {S : Sg} {g : Gh} {a : Nat → Int} (hg : gsmall g 9) (hL : SP os S g) (ha : dt 10 a a ≤ 72) (hr : rowJ S a1 (gr g a)) (hd : ∀ p, inSp os p → p ≠ a1) : wp (f_X4_join os a1 10 S) (fun S' => ((∀ c, c < 10 → gr g a c = 0) ∧ S' = S) ∨ ∃ q, gok ((q, a) :: g) ∧ SP os S' ((q, a) :: g) ∧ Fr (inSp os) S S') := by
  have hrb := gr_bd hg ha
  unfold f_X4_join
  refine wp_bdm (s_firstIn hr (bdd_mono hrb (by decide))) ?_
  intro r hfst
  rcases hfst with ⟨q, hq, rfl, hne, hlt⟩ | ⟨rfl, hz⟩
  · have hok : gok ((q, a) :: g) := ⟨hg.1, hq, hne, hlt⟩
    have hg2 : gsmall ((q, a) :: g) 10 := ⟨hok, ⟨hg.2.1, ha⟩, by have := hg.2.2; simp; omega⟩
    have hs := gs_bd hg
    have hs0 := gs_ne g hg.1
    rw [show (10 : Int32) = nI 10 from rfl, isW_lit hq (by decide)]
    refine wp_ifn (by decide) ?_
    rw [hL.2.1]
    refine wp_ifn (by rw [J_z (by omega)]; exact hs0) (wp_gd (inn' hq (by omega)) (wp_ltq (J (gr g a q)) (by rw [ixn (by omega)]; exact hr q hq) ?_))
    have hnq := hrb q hq
    refine wp_bdm (up (F := fun n k S' => L_X4_join_31 os a1 10 (nI q) (J (gr g a q)) n (nI k) S') 10
      (fun k S' => Fr (fun p => os + 2 ≤ p ∧ p < os + 12) S S' ∧ S'.1 = S.1 ∧ ∀ v, v < 10 → ∀ c, c < 10 → S'.2 (os + 2 + v) c = J (if v < k then gr ((q, a) :: g) (eb v) c else gr g (eb v) c))
      (fun S' => Fr (fun p => os + 2 ≤ p ∧ p < os + 12) S S' ∧ S'.1 = S.1 ∧ ∀ v, v < 10 → rowJ S' (os + 2 + v) (gr ((q, a) :: g) (eb v))) ?_ ?_ 400 0 S (by omega) (by omega) ⟨Fr.rf, rfl, fun v hv c hc => by rw [if_neg (Nat.not_lt_zero v)]; exact hL.1 v hv c hc⟩) ?_
    · intro n k S2 hk ⟨q1, q3, q2⟩ ih
      rw [L_X4_join_31]
      refine wp_ifp (lt10 hk) (wp_gd (inn' hk (by omega)) (wp_gd (inn' hq (by omega)) (wp_ltq (J (gr g (eb k) q)) (by rw [ixn (by omega), ixn (by omega), q2 k hk q hq, if_neg (by omega)]) ?_)))
      refine wp_bdm (up (F := fun n j S' => L_X4_join_52 os a1 10 (nI q) (J (gr g a q)) (nI k) (J (gr g (eb k) q)) n (nI j) S') 10
        (fun j S' => Fr (fun p => os + 2 ≤ p ∧ p < os + 12) S S' ∧ S'.1 = S.1 ∧ ∀ v, v < 10 → ∀ c, c < 10 → S'.2 (os + 2 + v) c = J (if v < k ∨ (v = k ∧ c < j) then gr ((q, a) :: g) (eb v) c else gr g (eb v) c))
        (fun S' => Fr (fun p => os + 2 ≤ p ∧ p < os + 12) S S' ∧ S'.1 = S.1 ∧ ∀ v, v < 10 → ∀ c, c < 10 → S'.2 (os + 2 + v) c = J (if v < k + 1 then gr ((q, a) :: g) (eb v) c else gr g (eb v) c)) ?_ ?_ 400 0 S2 (by omega) (by omega) ⟨q1, q3, fun v hv c hc => ?_⟩) ?_
      · intro m j S3 hj ⟨r1, r3, r2⟩ ih2
        rw [L_X4_join_52]
        have e1 : S3.2 os 1 = J (gs g) := by rw [r1.J (by omega)]; exact hL.2.1
        refine wp_ifp (lt10 hj) (wp_gd (inn' hk (by omega)) (wp_gd (inn' hj (by omega)) (wp_gd (inn' hj (by omega)) (wp_gd (by rw [e1]; exact decide_eq_true (by rw [J_z (by omega)]; exact hs0)) ?_))))
        show wp (L_X4_join_52 os a1 10 (nI q) (J (gr g a q)) (nI k) (J (gr g (eb k) q)) m (nI j + 1) (setJ S3 _ (ix (nI j)) _)) _
        rw [nIs, ixn (by omega), ixn (by omega)]
        refine ih2 _ ⟨r1.tr (Fr.setJ (by omega)), r3, fun v hv c hc => ?_⟩
        by_cases e : v = k ∧ c = j
        · obtain ⟨rfl, rfl⟩ := e
          have h1 := g_join hg.1 (q, a) hq (eb v) c hc
          have b1 := gl_bd10 hg2 hv c hc
          have b2 := mulb hs b1
          show (setJ S3 (os + 2 + v) c _).2 (os + 2 + v) c = _
          rw [setJ_s, if_pos (by omega), r2 v hv c hc, if_neg (by omega), e1, show S3.2 a1 c = J (gr g a c) by rw [r1.J (by have := hd a1; omega)]; exact hr c hc]
          show (J (gr g (eb v) c) * J (gr g a q) - J (gr g (eb v) q) * J (gr g a c)) / J (gs g) = _
          rw [J_mul, J_mul, J_sub, show gr g (eb v) c * gr g a q - gr g (eb v) q * gr g a c = gs g * gr ((q, a) :: g) (eb v) c from h1.symm, J_div (by omega) (by omega), Int.mul_tdiv_cancel_left _ hs0]
        · rw [setJ_n (by omega), r2 v hv c hc]
          by_cases e2 : v < k ∨ (v = k ∧ c < j)
          · rw [if_pos e2, if_pos (by omega)]
          · rw [if_neg e2, if_neg (by omega)]
      · intro m S3 ⟨r1, r3, r2⟩
        rw [L_X4_join_52]
        refine wp_ifn (nlt10 (Nat.le_refl _) (by omega)) (wp_some ⟨r1, r3, fun v hv c hc => ?_⟩)
        rw [r2 v hv c hc]
        by_cases e2 : v < k + 1
        · rw [if_pos e2, if_pos (by omega)]
        · rw [if_neg e2, if_neg (by omega)]
      · rw [q2 v hv c hc]
        by_cases e2 : v < k
        · rw [if_pos e2, if_pos (by omega)]
        · rw [if_neg e2, if_neg (by omega)]
      · intro S3 h3
        show wp (L_X4_join_31 os a1 10 (nI q) (J (gr g a q)) n (nI k + 1) S3) _
        rw [nIs]
        exact ih _ h3
    · intro n S2 ⟨q1, q3, q2⟩
      rw [L_X4_join_31]
      exact wp_ifn (nlt10 (Nat.le_refl _) (by omega)) (wp_some ⟨q1, q3, fun v hv c hc => by rw [q2 v hv c hc, if_pos hv]⟩)
    · intro S2 ⟨q1, q3, q2⟩
      refine wp_some (Or.inr ⟨q, hok, ⟨fun v hv c hc => ?_, ?_, ?_⟩, ?_⟩)
      · show (setJ S2 os 1 _).2 (os + 2 + v) c = _
        rw [setJ_n (by omega)]
        exact q2 v hv c hc
      · show (setJ S2 os 1 _).2 os 1 = _
        rw [setJ_s]
        rfl
      · show (setI (setJ S2 os 1 _) os 2 _).1 os 2 = _
        rw [setI_s]
        show S2.1 os 2 ||| _ = _
        rw [q3, hL.2.2]
        rfl
      · exact ((q1.mono (by omega)).tr (Fr.setJ (by omega))).tr (Fr.setI (by omega))
  · refine wp_ifp isW_9 (wp_some (Or.inl ⟨hz, rfl⟩))
