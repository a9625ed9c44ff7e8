theorem isW_cases (p : Int32) {n : Nat} (hn : n < 2 ^ 31) : (∃ j, j < n ∧ p = nI j ∧ f_X6_isWithin p (nI n) = 1) ∨ ((∀ j, j < n → p ≠ nI j) ∧ f_X6_isWithin p (nI n) = 0) := by
  by_cases h0 : p < 0
  · refine Or.inr ⟨fun j hj e => nI_pos (n := j) (by omega) (e ▸ h0), ?_⟩
    show (if p < 0 then (0 : Int32) else _) = 0
    rw [if_pos h0]
  · obtain ⟨j, hj, rfl⟩ := of_nn (Int32.not_lt.mp h0)
    by_cases h1 : j < n
    · exact Or.inl ⟨j, h1, rfl, isW_lit h1 hn⟩
    · refine Or.inr ⟨fun k hk e => by have := (nI_eq hj (by omega)).mp e; omega, ?_⟩
      show (if nI j < 0 then (0 : Int32) else if nI j < nI n then 1 else 0) = 0
      rw [if_neg (nI_pos hj), if_neg (nI_nlt (by omega) hj)]
theorem has_cases {o : Nat} {S : Sg} {w : Wd} (hw : CW o S w) (hv : num w 0 ≤ 10) (p : Int32) : (∃ j, j < num w 0 ∧ p = nI j ∧ f_X5_has o p S = 1) ∨ ((∀ j, j < num w 0 → p ≠ nI j) ∧ f_X5_has o p S = 0) := by
  have e : f_X5_has o p S = if f_X6_isWithin p (nI (num w 0)) = 0 then (0 : Int32) else if f_X6_isWithin p (10 : Int32) = 0 then 0 else 1 := by
    show (if f_X6_isWithin p (S.1 o 4) = 0 then (0 : Int32) else if f_X6_isWithin p (10 : Int32) = 0 then 0 else 1) = _
    rw [hw.2.2.1.1]
  rcases isW_cases p (n := num w 0) (by omega) with ⟨j, h1, h2, h3⟩ | ⟨h1, h2⟩
  · refine Or.inl ⟨j, h1, h2, ?_⟩
    rw [e, h3, if_neg (by decide), h2, isW10 (by omega), if_neg (by decide)]
  · exact Or.inr ⟨h1, by rw [e, h2, if_pos rfl]⟩
theorem has_1 {o : Nat} {S : Sg} {w : Wd} (hw : CW o S w) (hv : num w 0 ≤ 10) {j : Nat} (hj : j < num w 0) : f_X5_has o (nI j) S = 1 := by
  rcases has_cases hw hv (nI j) with ⟨k, h1, h2, h3⟩ | ⟨h1, _⟩
  · exact h3
  · exact absurd rfl (h1 j hj)
theorem s_valueOf {o : Nat} {S : Sg} {w : Wd} (hw : CW o S w) (hv : num w 0 ≤ 10) {j : Nat} (hj : j < num w 0) : f_X5_valueOf o (nI j) S = some (I (dat w 0 j)) := by
  apply wp_to
  unfold f_X5_valueOf
  rw [has_1 hw hv hj]
  refine wp_ifn (by decide) (wp_gd (inn' (by omega) (by omega)) (wp_some ?_))
  rw [ixn (by omega)]
  exact (hw.2.1 j (by omega)).1
theorem s_lowOf {o : Nat} {S : Sg} {w : Wd} (hw : CW o S w) (hv : num w 0 ≤ 10) {j : Nat} (hj : j < num w 0) : f_X5_lowOf o (nI j) S = some (I (dat w 1 j)) := by
  apply wp_to
  unfold f_X5_lowOf
  rw [has_1 hw hv hj]
  refine wp_ifn (by decide) (wp_gd (inn' (by omega) (by omega)) (wp_some ?_))
  rw [ixn (by omega)]
  exact (hw.2.1 j (by omega)).2.1
theorem s_highOf {o : Nat} {S : Sg} {w : Wd} (hw : CW o S w) (hv : num w 0 ≤ 10) {j : Nat} (hj : j < num w 0) : f_X5_highOf o (nI j) S = some (I (dat w 2 j)) := by
  apply wp_to
  unfold f_X5_highOf
  rw [has_1 hw hv hj]
  refine wp_ifn (by decide) (wp_gd (inn' (by omega) (by omega)) (wp_some ?_))
  rw [ixn (by omega)]
  exact (hw.2.1 j (by omega)).2.2
theorem s_coef {o : Nat} {S : Sg} {w : Wd} (hw : CW o S w) {i v : Nat} (hi : i < (gh w).length) (hl : (gh w).length ≤ 10) (hv : v < 10) : f_X5_coefficient o (nI i) (nI v) S = some (I (gro (gh w) i v)) := by
  apply wp_to
  unfold f_X5_coefficient
  rw [isW10 (by omega), isW10 hv]
  refine wp_ifn (by decide) (wp_ifn (by decide) (wp_gd (inn' (by omega) (by omega)) (wp_gd (inn' hv (by omega)) (wp_some ?_))))
  rw [ixn (by omega), ixn (by omega)]
  exact (hw.2.2.2.1 i hi).2 v hv
theorem s_answerOf {o : Nat} {S : Sg} {w : Wd} (hw : CW o S w) {i : Nat} (hi : i < (gh w).length) (hl : (gh w).length ≤ 10) : f_X5_answerOf o (nI i) S = some (I (dat w 3 i)) := by
  apply wp_to
  unfold f_X5_answerOf
  rw [isW10 (by omega)]
  refine wp_ifn (by decide) (wp_gd (inn' (by omega) (by omega)) (wp_some ?_))
  rw [ixn (by omega)]
  exact (hw.2.2.2.1 i hi).1
theorem s_variableOf {o : Nat} {S : Sg} {w : Wd} (hw : CW o S w) {p : Nat} (hp : p < 8) : f_X5_variableOf o (nI p) S = some (nI (own w p)) := by
  apply wp_to
  unfold f_X5_variableOf
  rw [isW8 hp]
  refine wp_ifn (by decide) (wp_gd (inn' hp (by omega)) (wp_some ?_))
  rw [ixn (by omega)]
  exact hw.1 p hp
-- in no row
def free (g : Gh) (v : Nat) : Prop := ∀ i, i < g.length → gro g i v = 0
def rbd (g : Gh) : Prop := ∀ i, i < g.length → bdd (gro g i) 3
theorem s_isFree {o : Nat} {S : Sg} {w : Wd} (hw : CW o S w) (hl : (gh w).length ≤ 10) (hb : rbd (gh w)) {v : Nat} (hv : v < 10) : wp (f_X5_isFree o (nI v) S) (fun r => (r = 1 ∧ free (gh w) v) ∨ (r = 0 ∧ ¬ free (gh w) v)) := by
  unfold f_X5_isFree
  refine wp_bsm (up (F := fun n k (_ : Unit) => L_X5_isFree_2 o (nI v) S n (nI k)) (gh w).length (fun k _ => ∀ i, i < k → gro (gh w) i v = 0) (fun z => (z = .inl 0 ∧ ¬ free (gh w) v) ∨ (z = .inr () ∧ free (gh w) v)) ?_ ?_ 400 0 () (by omega) (by omega) (fun i h => by omega)) ?_ ?_
  · intro n k _ hk hp ih
    rw [L_X5_isFree_2, hw.2.2.1.2.2.2]
    refine wp_ifp (nI_lt hk (by omega)) ?_
    rw [s_coef hw hk hl hv]
    have hbk := hb k hk v hv
    refine wp_bds rfl (wp_if (fun hc => ?_) (fun hc => ?_))
    · show wp (L_X5_isFree_2 o (nI v) S n (nI k + 1)) _
      rw [nIs]
      refine ih () fun i hi => ?_
      by_cases e : i = k
      · rw [e]; exact (I_eq (b := 0) (by omega) (by omega)).mp hc
      · exact hp i (by omega)
    · exact wp_some (Or.inl ⟨rfl, fun h => hc (by rw [h k hk]; rfl)⟩)
  · intro n _ hp
    rw [L_X5_isFree_2, hw.2.2.1.2.2.2]
    exact wp_ifn (nI_nlt (Nat.le_refl _) (by omega)) (wp_some (Or.inr ⟨rfl, hp⟩))
  · intro r hr
    rcases hr with ⟨e, h⟩ | ⟨e, _⟩
    · cases e; exact wp_some (Or.inr ⟨rfl, h⟩)
    · cases e
  · intro r hr
    rcases hr with ⟨e, _⟩ | ⟨_, h⟩
    · cases e
    · exact wp_some (Or.inl ⟨rfl, h⟩)
theorem s_tans {o oq : Nat} {S : Sg} {w : Wd} {wt : Nat → Int} (hw : CW o S w) (ho : ∀ k, k < 8 → own w k < 10) (hq : QW oq S wt) : f_X5_trueAnswer o oq S = some (I (tans w wt)) := by
  apply wp_to
  unfold f_X5_trueAnswer
  refine wp_bdm (up (F := fun n k (x : Int32) => L_X5_trueAnswer_4 o oq S n x (nI k)) 8 (fun k x => x = I (sm k (fun p => wt p * dat w 0 (own w p)))) (fun x => x = I (tans w wt)) ?_ ?_ 400 0 0 (by omega) (by omega) rfl) (fun x h => wp_some h)
  · intro n k x hk8 hp ih
    rw [L_X5_trueAnswer_4]
    refine wp_ifp (lt8 hk8) (wp_gd (inn' hk8 (by omega)) (wp_ltq (nI (own w k)) (by rw [ixn (by omega)]; exact hw.1 k hk8) ?_))
    rw [isW10 (ho k hk8)]
    refine wp_ifn (by decide) (wp_gd (inn' (ho k hk8) (by omega)) ?_)
    show wp (L_X5_trueAnswer_4 o oq S n (x + S.1 (oq + 1) (ix (nI k)) * S.1 (o + 2) (ix (nI (own w k)))) (nI k + 1)) _
    have := ho k hk8
    rw [nIs, ixn (by omega), ixn (by omega), hq k hk8, (hw.2.1 _ (ho k hk8)).1]
    exact ih _ (by rw [hp, I_mul, I_add]; rfl)
  · intro n x hp
    rw [L_X5_trueAnswer_4]
    exact wp_ifn (nlt8 (Nat.le_refl _) (by omega)) (wp_some hp)
-- what changes in a world
def wjoin (w : Wd) (q : Nat) (a : Nat → Int) (t : Int) : Wd := (own w, fun j k => if j = 3 ∧ k = (gh w).length then t else dat w j k, num w, (q, a) :: gh w)
def wset (w : Wd) (v : Nat) (x : Int) : Wd := (own w, fun j k => if j < 3 ∧ k = v then (if j = 0 then x else if j = 1 then 0 else 99) else dat w j k, num w, gh w)
def wbnd (w : Wd) (v : Nat) (x y : Int) : Wd := (own w, fun j k => if j = 1 ∧ k = v then x else if j = 2 ∧ k = v then y else dat w j k, num w, gh w)
def wown (w : Wd) (p : Nat) : Wd := (fun k => if k = p then num w 0 else own w k, dat w, fun j => if j = 0 then num w 0 + 1 else num w j, gh w)
def wnum (w : Wd) (j x : Nat) : Wd := (own w, dat w, fun i => if i = j then x else num w i, gh w)
theorem gro_old {x : Nat × (Nat → Int)} {g : Gh} {i : Nat} (h : i < g.length) : gro (x :: g) i = gro g i := funext fun v => if_neg (by omega)
theorem gro_new {x : Nat × (Nat → Int)} {g : Gh} : gro (x :: g) g.length = x.2 := funext fun v => if_pos rfl
theorem s_wjoin {o oq : Nat} {S : Sg} {w : Wd} {wt : Nat → Int} (hw : CW o S w) (ho : ∀ k, k < 8 → own w k < 10) (hg : gsmall (gh w) 9) (hq : QW oq S wt) (hwt : qok wt) (hoq : o + 43 ≤ oq) : wp (f_X5_join o oq S) (fun S' => Fr (inAll o) S S' ∧ ((zer (gh w) (qrow w wt) ∧ CW o S' w) ∨ ∃ q, gok ((q, qrow w wt) :: gh w) ∧ CW o S' (wjoin w q (qrow w wt) (tans w wt)))) := by
  have hdt := qdt (w := w) ho hwt
  have hl9 := hg.2.2
  unfold f_X5_join
  refine wp_bdm (s_findRest hw ho hq hwt (by omega)) ?_
  intro S1 ⟨p1, p2, p3⟩
  have f1 : Fr (inAll o) S S1 := p1.mono fun p hp => by rcases hp with rfl | rfl <;> exact ⟨by omega, by omega⟩
  have hw1 : CW o S1 w := hw.fr p1 (fun p hp => by have := hp.1; have := hp.2; omega) (by omega)
  have hq1 : QW oq S1 wt := hq.fr p1 (by omega)
  have hrb := gr_bd hg hdt
  refine wp_bdm (s_firstIn p3 (bdd_mono hrb (by decide))) ?_
  intro r hr
  rcases firstOf_fp hr with ⟨q, hqp, rfl⟩ | ⟨rfl, hz⟩
  · refine wp_ifn (nI_pos (by have := hqp.1; omega)) ?_
    have er : S1.1 o 9 = nI (gh w).length := hw1.2.2.1.2.2.2
    rw [er, isW10 (by omega)]
    refine wp_ifn (by decide) (wp_gd (inn' (by omega) (by omega)) (wp_lt ?_))
    rw [ixn (by omega)]
    -- the row is laid
    generalize hS2 : cpI S1 (o + 41) 0 (o + 6 + (gh w).length) 0 10 = S2
    have f2 : Fr (fun p => p = o + 6 + (gh w).length) S1 S2 := by rw [← hS2]; exact Fr.fillI rfl
    have e2 : ∀ v, v < 10 → S2.1 (o + 6 + (gh w).length) v = I (qrow w wt v) := fun v hv => by
      rw [← hS2, show (10 : Int32) = nI 10 from rfl, cpI_at (by omega) hv]
      exact p2 v hv
    have hw2 : (∀ k, k < 8 → S2.1 (o + 1) k = nI (own w k)) ∧ (∀ k, k < 10 → S2.1 (o + 2) k = I (dat w 0 k)) := ⟨fun k hk => by rw [f2.I (by omega)]; exact hw1.1 k hk, fun k hk => by rw [f2.I (by omega)]; exact (hw1.2.1 k hk).1⟩
    have hq2 : QW oq S2 wt := hq1.fr f2 (by omega)
    have et : f_X5_trueAnswer o oq S2 = some (I (tans w wt)) := by
      -- the same sum: what it reads stands as it was
      apply wp_to
      unfold f_X5_trueAnswer
      refine wp_bdm (up (F := fun n k (x : Int32) => L_X5_trueAnswer_4 o oq S2 n x (nI k)) 8 (fun k x => x = I (sm k (fun p => wt p * dat w 0 (own w p)))) (fun x => x = I (tans w wt)) ?_ ?_ 400 0 0 (by omega) (by omega) rfl) (fun x h => wp_some h)
      · intro n k x hk8 hp ih
        rw [L_X5_trueAnswer_4]
        refine wp_ifp (lt8 hk8) (wp_gd (inn' hk8 (by omega)) (wp_ltq (nI (own w k)) (by rw [ixn (by omega)]; exact hw2.1 k hk8) ?_))
        rw [isW10 (ho k hk8)]
        refine wp_ifn (by decide) (wp_gd (inn' (ho k hk8) (by omega)) ?_)
        show wp (L_X5_trueAnswer_4 o oq S2 n (x + S2.1 (oq + 1) (ix (nI k)) * S2.1 (o + 2) (ix (nI (own w k)))) (nI k + 1)) _
        have := ho k hk8
        rw [nIs, ixn (by omega), ixn (by omega), hq2 k hk8, hw2.2 _ (ho k hk8)]
        exact ih _ (by rw [hp, I_mul, I_add]; rfl)
      · intro n x hp
        rw [L_X5_trueAnswer_4]
        exact wp_ifn (nlt8 (Nat.le_refl _) (by omega)) (wp_some hp)
    rw [et]
    have er2 : S2.1 o 9 = nI (gh w).length := by rw [f2.I (by omega)]; exact er
    refine wp_bds rfl ?_
    rw [er2]
    refine wp_gd (inn' (by omega) (by omega)) (wp_lt (wp_lt ?_))
    rw [ixn (by omega)]
    have er3 : (setI S2 (o + 16) (gh w).length (I (tans w wt))).1 o 9 = nI (gh w).length := by rw [setI_n (by omega)]; exact er2
    rw [er3, nIs]
    generalize hS4 : setI (setI S2 (o + 16) (gh w).length (I (tans w wt))) o 9 (nI ((gh w).length + 1)) = S4
    have f4 : Fr (fun p => p = o + 16 ∨ p = o) S2 S4 := by rw [← hS4]; exact (Fr.setI (Or.inl rfl)).tr (Fr.setI (Or.inr rfl))
    have hsp4 : SP (o + 17) S4 (gh w) := (hw1.2.2.2.2.fr f2 fun p hp => by have := hp.1; have := hp.2; omega).fr f4 fun p hp => by have := hp.1; have := hp.2; omega
    have p34 : rowJ S4 (o + 42) (gr (gh w) (qrow w wt)) := fun c hc => by rw [f4.J (by omega), f2.J (by omega)]; exact p3 c hc
    refine wp_bdm (s_join hg hsp4 hdt p34 fun p hp => by have := hp.1; have := hp.2; omega) ?_
    intro S5 h5
    rcases h5 with ⟨hz, _⟩ | ⟨q', hok', hsp', f5⟩
    · exact absurd hz (fp_nz hqp)
    · refine wp_some ⟨?_, Or.inr ⟨q', hok', ?_⟩⟩
      · exact ((f1.tr (f2.mono fun p hp => ⟨by omega, by omega⟩)).tr (f4.mono fun p hp => ⟨by omega, by omega⟩)).tr (f5.mono fun p hp => ⟨by have := hp.1; omega, by have := hp.2; omega⟩)
      · have k5 : ∀ p, p < o + 17 → S5.1 p = S4.1 p := fun p hp => (f5 p (by omega)).1
        have k42 : ∀ p, p ≠ o + 16 → p ≠ o → S4.1 p = S2.1 p := fun p h1 h2 => (f4 p (by omega)).1
        have k21 : ∀ p, p ≠ o + 6 + (gh w).length → S2.1 p = S1.1 p := fun p h1 => (f2 p h1).1
        refine ⟨fun k hk => ?_, fun k hk => ?_, ⟨?_, ?_, ?_, ?_⟩, fun i hi => ?_, hsp'⟩
        · rw [k5 _ (by omega), k42 _ (by omega) (by omega), k21 _ (by omega)]; exact hw1.1 k hk
        · rw [k5 _ (by omega), k5 _ (by omega), k5 _ (by omega), k42 _ (by omega) (by omega), k42 _ (by omega) (by omega), k42 _ (by omega) (by omega), k21 _ (by omega), k21 _ (by omega), k21 _ (by omega)]
          exact hw1.2.1 k hk
        · rw [k5 _ (by omega), ← hS4, setI_n (by omega), setI_n (by omega), k21 _ (by omega)]; exact hw1.2.2.1.1
        · rw [k5 _ (by omega), ← hS4, setI_n (by omega), setI_n (by omega), k21 _ (by omega)]; exact hw1.2.2.1.2.1
        · rw [k5 _ (by omega), ← hS4, setI_n (by omega), setI_n (by omega), k21 _ (by omega)]; exact hw1.2.2.1.2.2.1
        · rw [k5 _ (by omega), ← hS4, setI_s]; rfl
        · have hi' : i < (gh w).length + 1 := hi
          by_cases e : i = (gh w).length
          · subst e
            refine ⟨?_, fun v hv => ?_⟩
            · rw [k5 _ (by omega), ← hS4, setI_n (by omega), setI_s]
              show I (tans w wt) = I (if 3 = 3 ∧ (gh w).length = (gh w).length then _ else _)
              rw [if_pos ⟨rfl, rfl⟩]
            · rw [k5 _ (by omega), k42 _ (by omega) (by omega), e2 v hv]
              show _ = I (gro ((q', qrow w wt) :: gh w) (gh w).length v)
              rw [gro_new]
          · refine ⟨?_, fun v hv => ?_⟩
            · rw [k5 _ (by omega), ← hS4, setI_n (by omega), setI_n (by omega), k21 _ (by omega)]
              show _ = I (if 3 = 3 ∧ i = (gh w).length then _ else _)
              rw [if_neg (fun z => e z.2)]
              exact (hw1.2.2.2.1 i (by omega)).1
            · rw [k5 _ (by omega), k42 _ (by omega) (by omega), k21 _ (by omega)]
              show _ = I (gro ((q', qrow w wt) :: gh w) i v)
              rw [gro_old (by omega)]
              exact (hw1.2.2.2.1 i (by omega)).2 v hv
  · exact wp_ifp (by decide) (wp_some ⟨f1, Or.inl ⟨hz, hw1⟩⟩)
