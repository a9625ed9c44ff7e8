def fp (f : Nat → Int) (q : Nat) : Prop := q < 10 ∧ f q ≠ 0 ∧ ∀ c, c < q → f c = 0
theorem fp_u {f : Nat → Int} {q q' : Nat} (h : fp f q) (h' : fp f q') : q = q' := by
  rcases Nat.lt_trichotomy q q' with e | e | e
  · exact absurd (h'.2.2 q e) h.2.1
  · exact e
  · exact absurd (h.2.2 q' e) h'.2.1
theorem firstOf_fp {f : Nat → Int} {r : Int32} (h : firstOf f r) : (∃ q, fp f q ∧ r = nI q) ∨ (r = -9 ∧ ∀ c, c < 10 → f c = 0) := by
  rcases h with ⟨q, h1, h2, h3, h4⟩ | h
  · exact Or.inl ⟨q, ⟨h1, h3, h4⟩, h2⟩
  · exact Or.inr h
theorem fp_nz {f : Nat → Int} {q : Nat} (h : fp f q) : ¬ ∀ c, c < 10 → f c = 0 := fun z => h.2.1 (z q h.1)
def fxd (g : Gh) (r : Nat → Int) (v : Nat) : Prop := (∀ c, c < 10 → gr g (eb v) c = 0) ∨ ∃ q, fp (gr g (eb v)) q ∧ line (gr g (eb v)) r q
theorem s_fixed {os a1 : Nat} {S : Sg} {g : Gh} {r : Nat → Int} (hL : ∀ v, v < 10 → rowJ S (os + 2 + v) (gr g (eb v))) (hb : ∀ v, v < 10 → bdd (gr g (eb v)) 228100000) (hr : rowJ S a1 r) (hrb : bdd r 1935000000) : wp (f_X4_fixedBitsWith os a1 10 S) (fun x => bitsAre x (fun v => v < 10 ∧ fxd g r v)) := by
  unfold f_X4_fixedBitsWith
  refine wp_bdm (up (F := fun n k (x : Int32) => L_X4_fixedBitsWith_4 os a1 10 S n x (nI k)) 10 (fun k x => bitsAre x (fun v => v < k ∧ fxd g r v)) (fun x => bitsAre x (fun v => v < 10 ∧ fxd g r v)) ?_ ?_ 400 0 0 (by omega) (by omega) (bits_to bits_0 fun i _ => ⟨fun h => h.elim, fun h => by omega⟩)) (fun x h => wp_some h)
  · intro n k x hk hp ih
    rw [L_X4_fixedBitsWith_4]
    refine wp_ifp (lt10 hk) (wp_gd (inn' hk (by omega)) ?_)
    rw [ixn (by omega)]
    refine wp_bdm (s_firstIn (hL k hk) (bdd_mono (hb k hk) (by decide))) ?_
    intro f hf
    have put : ∀ y : Int32, bitsAre y (fun v => v < k + 1 ∧ fxd g r v) → wp (L_X4_fixedBitsWith_4 os a1 10 S n y (nI k + 1)) (fun x => bitsAre x (fun v => v < 10 ∧ fxd g r v)) := fun y hy => by rw [nIs]; exact ih y hy
    have yes : fxd g r k → bitsAre (x ||| isl 1 (nI k)) (fun v => v < k + 1 ∧ fxd g r v) := fun h => bits_to (bits_or hp (by omega)) fun i _ => by
      constructor
      · rintro (q | q)
        · exact ⟨by omega, q.2⟩
        · exact ⟨by omega, q ▸ h⟩
      · intro ⟨q1, q2⟩
        by_cases e : i = k
        · exact Or.inr e
        · exact Or.inl ⟨by omega, q2⟩
    have no : ¬ fxd g r k → bitsAre x (fun v => v < k + 1 ∧ fxd g r v) := fun h => bits_to hp fun i _ => by
      constructor
      · intro q; exact ⟨by omega, q.2⟩
      · intro ⟨q1, q2⟩
        by_cases e : i = k
        · exact absurd (e ▸ q2) h
        · exact ⟨by omega, q2⟩
    rcases firstOf_fp hf with ⟨q, hq, rfl⟩ | ⟨rfl, hz⟩
    · refine wp_ifn (nI_pos (by have := hq.1; omega)) (wp_bdm (s_isOneLine (hL k hk) hr (hb k hk) hrb (by decide) (by decide) hq.1) ?_)
      intro y hy
      rcases hy with ⟨rfl, hl⟩ | ⟨rfl, hl⟩
      · exact put _ (yes (Or.inr ⟨q, hq, hl⟩))
      · refine put _ (no fun h => ?_)
        rcases h with h | ⟨q', hq', hl'⟩
        · exact fp_nz hq h
        · exact hl (fp_u hq hq' ▸ hl')
    · exact wp_ifp (by decide) (put _ (yes (Or.inl hz)))
  · intro n x hp
    rw [L_X4_fixedBitsWith_4]
    exact wp_ifn (nlt10 (Nat.le_refl _) (by omega)) (wp_some hp)
def prd (g : Gh) (u v : Nat) : Prop := ∃ q, fp (gr g (eb u)) q ∧ line (gr g (eb u)) (gr g (eb v)) q
def pr (g : Gh) : Prop := ∃ u v, u < v ∧ v < 10 ∧ prd g u v
theorem s_hasPair {os : Nat} {S : Sg} {g : Gh} (hL : ∀ v, v < 10 → rowJ S (os + 2 + v) (gr g (eb v))) (hb : ∀ v, v < 10 → bdd (gr g (eb v)) 228100000) : wp (f_X4_hasPair os S) (fun x => (x = 1 ∧ pr g) ∨ (x = 0 ∧ ¬ pr g)) := by
  unfold f_X4_hasPair
  refine wp_bsm (up (F := fun n k (_ : Unit) => L_X4_hasPair_2 os S n (nI k)) 10 (fun k _ => ∀ u v, u < k → u < v → v < 10 → ¬ prd g u v) (fun z => (z = .inl 1 ∧ pr g) ∨ (z = .inr () ∧ ¬ pr g)) ?_ ?_ 400 0 () (by omega) (by omega) (fun u v h => by omega)) ?_ ?_
  · intro n k _ hk hp ih
    rw [L_X4_hasPair_2]
    refine wp_ifp (lt10 hk) (wp_gd (inn' hk (by omega)) ?_)
    rw [ixn (by omega)]
    refine wp_bdm (s_firstIn (hL k hk) (bdd_mono (hb k hk) (by decide))) ?_
    intro f hf
    show wp (bs (L_X4_hasPair_22 os (nI k) f S 400 (nI k + 1)) _ _) _
    rw [nIs]
    refine wp_bsm (up (F := fun n j (_ : Unit) => L_X4_hasPair_22 os (nI k) f S n (nI j)) 10 (fun j _ => k < j ∧ ∀ v, k < v → v < j → ¬ prd g k v) (fun z => (z = .inl 1 ∧ pr g) ∨ (z = .inr () ∧ ∀ v, k < v → v < 10 → ¬ prd g k v)) ?_ ?_ 400 (k + 1) () (by omega) (by omega) ⟨by omega, fun v h => by omega⟩) ?_ ?_
    · intro m j _ hj ⟨hkj, hp2⟩ ih2
      rw [L_X4_hasPair_22]
      refine wp_ifp (lt10 hj) (wp_gd (inn' hk (by omega)) (wp_gd (inn' hj (by omega)) ?_))
      rw [ixn (by omega), ixn (by omega)]
      have no : ¬ prd g k j → wp (L_X4_hasPair_22 os (nI k) f S m (nI j + 1)) (fun z => (z = .inl 1 ∧ pr g) ∨ (z = .inr () ∧ ∀ v, k < v → v < 10 → ¬ prd g k v)) := fun h => by
        rw [nIs]
        refine ih2 () ⟨by omega, fun v h1 h2 => ?_⟩
        by_cases e : v = j
        · rw [e]; exact h
        · exact hp2 v h1 (by omega)
      rcases firstOf_fp hf with ⟨q, hq, rfl⟩ | ⟨rfl, hz⟩
      · refine wp_bdm (s_isOneLine (hL k hk) (hL j hj) (hb k hk) (hb j hj) (by decide) (by decide) hq.1) ?_
        intro y hy
        rcases hy with ⟨rfl, hl⟩ | ⟨rfl, hl⟩
        · refine wp_ifn (by decide) (wp_some (Or.inl ⟨rfl, ?_⟩))
          exact ⟨k, j, hkj, hj, q, hq, hl⟩
        · exact wp_ifp rfl (no fun ⟨q', hq', hl'⟩ => hl (fp_u hq hq' ▸ hl'))
      · refine wp_bdm s_isOneLine' ?_
        intro y hy
        subst hy
        exact wp_ifp rfl (no fun ⟨q', hq', _⟩ => fp_nz hq' hz)
    · intro m _ ⟨_, hp2⟩
      rw [L_X4_hasPair_22]
      exact wp_ifn (nlt10 (Nat.le_refl _) (by omega)) (wp_some (Or.inr ⟨rfl, hp2⟩))
    · intro r hr
      rcases hr with ⟨e, h⟩ | ⟨e, _⟩
      · cases e; exact wp_some (Or.inl ⟨rfl, h⟩)
      · cases e
    · intro _ hr
      rcases hr with ⟨e, _⟩ | ⟨_, h⟩
      · cases e
      · show wp (L_X4_hasPair_2 os S n (nI (k + 1))) _
        refine ih () fun u v h1 h2 h3 => ?_
        by_cases e : u = k
        · subst e; exact h v h2 h3
        · exact hp u v (by omega) h2 h3
  · intro n _ hp
    rw [L_X4_hasPair_2]
    exact wp_ifn (nlt10 (Nat.le_refl _) (by omega)) (wp_some (Or.inr ⟨rfl, fun ⟨u, v, h1, h2, h3⟩ => hp u v (by omega) h1 h2 h3⟩))
  · intro r hr
    rcases hr with ⟨e, h⟩ | ⟨e, _⟩
    · cases e; exact wp_some (Or.inl ⟨rfl, h⟩)
    · cases e
  · intro _ hr
    rcases hr with ⟨e, _⟩ | ⟨_, h⟩
    · cases e
    · exact wp_some (Or.inr ⟨rfl, h⟩)
theorem cpJ_at {S : Sg} {a d c : Nat} (h : c < 10) : (cpJ S a 0 d 0 10).2 d c = S.2 a c := by
  unfold cpJ fillJ va_cpy
  show (if d = d then fun k => if 0 ≤ k ∧ k < 0 + 10 then S.2 a (0 + (k - 0)) else S.2 d k else S.2 d) c = _
  rw [if_pos rfl]
  show (if 0 ≤ c ∧ c < 0 + 10 then S.2 a (0 + (c - 0)) else S.2 d c) = _
  rw [if_pos ⟨by omega, by omega⟩, Nat.zero_add, Nat.sub_zero]
theorem cpI_at {S : Sg} {a d c n : Nat} (hn : n < 1000) (h : c < n) : (cpI S a 0 d 0 (nI n)).1 d c = S.1 a c := by
  unfold cpI fillI va_cpy
  rw [ixn hn]
  show (if d = d then fun k => if 0 ≤ k ∧ k < 0 + n then S.1 a (0 + (k - 0)) else S.1 d k else S.1 d) c = _
  rw [if_pos rfl]
  show (if 0 ≤ c ∧ c < 0 + n then S.1 a (0 + (c - 0)) else S.1 d c) = _
  rw [if_pos ⟨by omega, by omega⟩, Nat.zero_add, Nat.sub_zero]
theorem s_spCopy {os o1 : Nat} {S : Sg} {g : Gh} (hL : SP o1 S g) (hd : ∀ p, inSp os p → ¬ inSp o1 p) : wp (f_X4_copyFrom os o1 S) (fun S' => Fr (inSp os) S S' ∧ SP os S' g) := by
  unfold f_X4_copyFrom
  have hd1 : ∀ p, os ≤ p → p < os + 12 → ¬ (o1 ≤ p ∧ p < o1 + 12) := fun p h1 h2 => hd p ⟨h1, h2⟩
  refine wp_bdm (up (F := fun n k S' => L_X4_copyFrom_2 os o1 n (nI k) S') 10 (fun k S' => Fr (inSp os) S S' ∧ ∀ v, v < k → rowJ S' (os + 2 + v) (gr g (eb v))) (fun S' => Fr (inSp os) S S' ∧ ∀ v, v < 10 → rowJ S' (os + 2 + v) (gr g (eb v))) ?_ ?_ 400 0 S (by omega) (by omega) ⟨Fr.rf, fun v h => by omega⟩) ?_
  · intro n k S2 hk ⟨q1, q2⟩ ih
    rw [L_X4_copyFrom_2]
    refine wp_ifp (lt10 hk) (wp_gd (inn' hk (by omega)) ?_)
    show wp (L_X4_copyFrom_2 os o1 n (nI k + 1) (cpJ S2 (o1 + 2 + ix (nI k)) 0 (os + 2 + ix (nI k)) 0 10)) _
    rw [nIs, ixn (by omega)]
    refine ih _ ⟨q1.tr (Fr.fillJ ⟨by omega, by omega⟩), fun v hv c hc => ?_⟩
    by_cases e : v = k
    · subst e
      rw [cpJ_at hc, q1.J (fun h => hd1 _ h.1 h.2 ⟨by omega, by omega⟩)]
      exact hL.1 v hk c hc
    · have h1 : (cpJ S2 (o1 + 2 + k) 0 (os + 2 + k) 0 10).2 (os + 2 + v) = S2.2 (os + 2 + v) := (fillJ_o (by omega)).2
      rw [h1]
      exact q2 v (by omega) c hc
  · intro n S2 hp
    rw [L_X4_copyFrom_2]
    exact wp_ifn (nlt10 (Nat.le_refl _) (by omega)) (wp_some hp)
  · intro S2 ⟨q1, q2⟩
    refine wp_some ⟨(q1.tr (Fr.setJ ⟨by omega, by omega⟩)).tr (Fr.setI ⟨by omega, by omega⟩), fun v hv c hc => ?_, ?_, ?_⟩
    · show (setJ S2 os 1 _).2 (os + 2 + v) c = _
      rw [setJ_n (by omega)]
      exact q2 v hv c hc
    · show (setJ S2 os 1 _).2 os 1 = _
      rw [setJ_s, q1.J (fun h => hd1 _ h.1 h.2 ⟨by omega, by omega⟩)]
      exact hL.2.1
    · show (setI (setJ S2 os 1 _) os 2 _).1 os 2 = _
      rw [setI_s]
      show S2.1 o1 2 = _
      rw [q1.I (fun h => hd1 _ h.1 h.2 ⟨by omega, by omega⟩)]
      exact hL.2.2
-- the places of the pivots, in order
def pvB (g : Gh) (k : Nat) : Bool := g.any (fun x => x.1 == k)
theorem pvB_iff {g : Gh} {k : Nat} : pvB g k = true ↔ ∃ x ∈ g, k = x.1 := by
  unfold pvB
  rw [List.any_eq_true]
  constructor
  · rintro ⟨x, h1, h2⟩; exact ⟨x, h1, by simpa using (beq_iff_eq.mp h2).symm⟩
  · rintro ⟨x, h1, h2⟩; exact ⟨x, h1, by rw [h2]; exact beq_self_eq_true _⟩
def cn (g : Gh) : Nat → Nat
  | 0 => 0
  | n + 1 => if pvB g n = true then cn g n + 1 else cn g n
theorem cn_le (g : Gh) : ∀ n, cn g n ≤ n
  | 0 => Nat.le_refl _
  | n + 1 => by
    have := cn_le g n
    show (if _ then _ else _) ≤ _
    by_cases h : pvB g n = true
    · rw [if_pos h]; omega
    · rw [if_neg h]; omega
theorem cn_mono (g : Gh) (m : Nat) : ∀ n, m ≤ n → cn g m ≤ cn g n := by
  intro n
  induction n with
  | zero => intro h; rw [show m = 0 by omega]; exact Nat.le_refl _
  | succ n ih =>
    intro h
    by_cases e : m = n + 1
    · rw [e]; exact Nat.le_refl _
    · have := ih (by omega)
      show _ ≤ (if _ then _ else _)
      by_cases h : pvB g n = true
      · rw [if_pos h]; omega
      · rw [if_neg h]; omega
theorem cn_u {g : Gh} {p q : Nat} (hp : pvB g p = true) (hq : pvB g q = true) (h : cn g p = cn g q) : p = q := by
  have step : ∀ p q, pvB g p = true → p < q → cn g p < cn g q := fun p q hp h => by
    have h1 : cn g (p + 1) = cn g p + 1 := if_pos hp
    have h2 := cn_mono g (p + 1) q h
    omega
  rcases Nat.lt_trichotomy p q with e | e | e
  · have := step p q hp e; omega
  · exact e
  · have := step q p hq e; omega
theorem s_pivotOf {os i : Nat} {S : Sg} {g : Gh} (hg : gok g) (hb : S.1 os 2 = pbits g) (hi : i < 1000) : wp (f_X4_pivotOf os (nI i) S) (fun r => (∃ p, p < 10 ∧ r = nI p ∧ pvB g p = true ∧ cn g p = i) ∨ (r = -9 ∧ ∀ p, p < 10 → pvB g p = true → cn g p ≠ i)) := by
  unfold f_X4_pivotOf
  have hbits := pbits_are g hg
  refine wp_bsm (up (F := fun n k (x : Int32) => L_X4_pivotOf_4 os (nI i) S n x (nI k)) 10 (fun k x => x = nI (cn g k) ∧ ∀ p, p < k → pvB g p = true → cn g p ≠ i)
    (fun z => (∃ p, p < 10 ∧ z = .inl (nI p) ∧ pvB g p = true ∧ cn g p = i) ∨ (z = .inr () ∧ ∀ p, p < 10 → pvB g p = true → cn g p ≠ i)) ?_ ?_ 400 0 0 (by omega) (by omega) ⟨rfl, fun p h => by omega⟩) ?_ ?_
  · intro n k x hk ⟨hx, hp⟩ ih
    subst hx
    rw [L_X4_pivotOf_4]
    refine wp_ifp (lt10 hk) ?_
    have ht : (isr (S.1 os 2) (nI k) &&& 1) = 1 ↔ pvB g k = true := by rw [hb, bits_test hbits (by omega), pvB_iff]
    have hcl := cn_le g k
    refine wp_if (fun hc => ?_) (fun hc => ?_)
    · have hv := ht.mp hc
      refine wp_if (fun h2 => ?_) (fun h2 => ?_)
      · exact wp_some (Or.inl ⟨k, hk, rfl, hv, (nI_eq (by omega) (by omega)).mp h2⟩)
      · show wp (L_X4_pivotOf_4 os (nI i) S n (nI (cn g k) + 1) (nI k + 1)) _
        rw [nIs, nIs]
        have h3 : cn g k ≠ i := fun e => h2 (by rw [e])
        refine ih _ ⟨by rw [show cn g (k + 1) = cn g k + 1 from if_pos hv], fun p h4 h5 => ?_⟩
        by_cases e : p = k
        · rw [e]; exact h3
        · exact hp p (by omega) h5
    · have hv := fun q => hc (ht.mpr q)
      show wp (L_X4_pivotOf_4 os (nI i) S n (nI (cn g k)) (nI k + 1)) _
      rw [nIs]
      refine ih _ ⟨by rw [show cn g (k + 1) = cn g k from if_neg hv], fun p h4 h5 => ?_⟩
      by_cases e : p = k
      · exact absurd (e ▸ h5) hv
      · exact hp p (by omega) h5
  · intro n x ⟨_, hp⟩
    rw [L_X4_pivotOf_4]
    exact wp_ifn (nlt10 (Nat.le_refl _) (by omega)) (wp_some (Or.inr ⟨rfl, hp⟩))
  · intro r hr
    rcases hr with ⟨p, h1, h2, h3⟩ | ⟨e, _⟩
    · cases h2; exact wp_some (Or.inl ⟨p, h1, rfl, h3⟩)
    · cases e
  · intro _ hr
    rcases hr with ⟨p, h1, h2, h3⟩ | ⟨_, h⟩
    · cases h2
    · exact wp_some (Or.inr ⟨rfl, h⟩)
/-- the reduced row of a pivot, times the scale -/
def tt (g : Gh) (p k : Nat) : Int := (if k = p then gs g else 0) - gr g (eb p) k
theorem s_reducedPart {os i v : Nat} {S : Sg} {g : Gh} {part : Int32} (hg : gsmall g 9) (hL : SP os S g) (hi : i < 1000) (hv : v < 10) {p : Nat} (hp : p < 10) (hpv : pvB g p = true) (hcn : cn g p = i) : f_X4_reducedPart os (nI i) (nI v) part S = some (lowP (tt g p v) (gs g) part) := by
  apply wp_to
  unfold f_X4_reducedPart
  refine wp_bdm (s_pivotOf hg.1 hL.2.2 hi) ?_
  intro r hr
  have hs := gs_bd hg
  have hs0 := gs_ne g hg.1
  rcases hr with ⟨q, h1, rfl, h3, h4⟩ | ⟨_, h⟩
  · have e : q = p := cn_u h3 hpv (h4.trans hcn.symm)
    subst e
    rw [show (10 : Int32) = nI 10 from rfl, isW_lit h1 (by decide), isW_lit hv (by decide)]
    refine wp_ifn (by decide) (wp_ifn (by decide) ?_)
    have hbits := pbits_are g hg.1
    have ht : (isr (S.1 os 2) (nI v) &&& 1) = 1 ↔ pvB g v = true := by rw [hL.2.2, bits_test hbits (by omega), pvB_iff]
    refine wp_if (fun hc => ?_) (fun hc => ?_)
    · obtain ⟨x, hx, hxv⟩ := pvB_iff.mp (ht.mp hc)
      have hz : gr g (eb q) v = 0 := by rw [hxv]; exact gr_piv g x hx _
      have hone : okJ 1 := by unfold okJ; omega
      by_cases e : v = q
      · subst e
        refine wp_ltq 1 (if_pos rfl) ?_
        show wp (bd (f_X6_partInLeastTerms (J 1) (J 1) part) _) _
        rw [s_partX hone hone (by decide)]
        refine wp_some ?_
        refine lowP_eq (by decide) hs0 ?_ part
        unfold tt
        rw [if_pos rfl, hz]
        omega
      · refine wp_ltq 0 (if_neg (fun z => e ((nI_eq (by omega) (by omega)).mp z))) ?_
        show wp (bd (f_X6_partInLeastTerms (J 0) (J 1) part) _) _
        rw [s_partX (by unfold okJ; omega) hone (by decide)]
        refine wp_some ?_
        refine lowP_eq (by decide) hs0 ?_ part
        unfold tt
        rw [if_neg e, hz]
        omega
    · refine wp_gd (inn' h1 (by omega)) (wp_gd (inn' hv (by omega)) ?_)
      have hb := gl_bd hg h1 v hv
      rw [ixn (by omega), ixn (by omega), hL.1 q h1 v hv, hL.2.1, J_neg, s_partX (by unfold okJ; omega) (by unfold okJ; omega) hs0]
      refine wp_some ?_
      have e : v ≠ q := fun e => hc (ht.mpr (e ▸ h3))
      unfold tt
      rw [if_neg e]
      congr 1
      omega
  · exact absurd hcn (h p hp hpv)
