/-- a digit of a statement begun at a -/
abbrev dg (l : Nat → Nat) (a k : Nat) : Nat := l (a + 1 + k) - 48
abbrev kd (c : Nat) : Int32 := if c = 115 then 0 else if c = 100 then 1 else 2
/-- the two numbers behind the kind of a question -/
def qa (l : Nat → Nat) (a : Nat) : Int32 := if l a = 100 then ob (fun k => decide (dg l a k = 1)) 8 else ob (fun k => decide (dg l a k ≠ 0)) 8
def qb (l : Nat → Nat) (a : Nat) : Int32 := if l a = 100 then ob (fun k => decide (dg l a k = 2)) 8 else if l a = 115 then 0 else nI (dg l a 8)
/-- what a question comes to -/
def OutQ (k a b : Int32) (w : Wd) (o : Option Wd) : Prop := (f_X2_misfitOf k a b ≠ 0 ∧ o = none) ∨ (f_X2_misfitOf k a b = 0 ∧ qv k b ∧ ∃ m, Meet (gh w) (qrow w (wq k a b)) (szOf (wq k a b) 8) (num w 1) (num w 2) m ∧ ((m = 0 ∧ o = some w) ∨ (m = 2 ∧ o = none) ∨ (m = 1 ∧ ∃ q, gok ((q, qrow w (wq k a b)) :: gh w) ∧ o = some (wjoin w q (qrow w (wq k a b)) (tans w (wq k a b))))))
/-- what the statement begun at a comes to -/
def Out (l : Nat → Nat) (a : Nat) (w : Wd) (o : Option Wd) : Prop :=
  (l a = 98 ∧ (((nums l a 0 < num w 0 ∧ (nums l a 1 : Int) ≤ dat w 0 (nums l a 0) ∧ dat w 0 (nums l a 0) ≤ (nums l a 2 : Int)) ∧ o = some (wbnd w (nums l a 0) (nums l a 1) (nums l a 2))) ∨ (¬ (nums l a 0 < num w 0 ∧ (nums l a 1 : Int) ≤ dat w 0 (nums l a 0) ∧ dat w 0 (nums l a 0) ≤ (nums l a 2 : Int)) ∧ o = none)))
  ∨ (l a = 99 ∧ (((nums l a 0 < 8 ∧ num w 0 < 10) ∧ o = some (wchg w (nums l a 0) (nums l a 1))) ∨ (¬ (nums l a 0 < 8 ∧ num w 0 < 10) ∧ o = none)))
  ∨ (l a = 108 ∧ ((nums l a 0 ≤ 10 ∧ o = some (wnum w 2 (nums l a 0))) ∨ (¬ nums l a 0 ≤ 10 ∧ o = none)))
  ∨ (l a = 114 ∧ ((nums l a 0 < 4 ∧ o = some (wnum w 1 (nums l a 0))) ∨ (¬ nums l a 0 < 4 ∧ o = none)))
  ∨ (l a = 118 ∧ (((nums l a 0 < 8 ∧ free (gh w) (own w (nums l a 0))) ∧ o = some (wset w (own w (nums l a 0)) (nums l a 1))) ∨ (¬ (nums l a 0 < 8 ∧ free (gh w) (own w (nums l a 0))) ∧ o = none)))
  ∨ ((l a = 115 ∨ l a = 119) ∧ OutQ (kd (l a)) (qa l a) (qb l a) w o)
  ∨ (l a = 100 ∧ (((∃ k, k < 8 ∧ 2 < dg l a k) ∧ o = none) ∨ ((∀ k, k < 8 → dg l a k ≤ 2) ∧ OutQ 1 (qa l a) (qb l a) w o)))
/-- did it come -/
abbrev on (o : Option Wd) : Int32 := if o.isSome = true then 1 else 0
/-- what one statement leaves on the class's side -/
def One (S : Sg) (l : Nat → Nat) (a : Nat) (w : Wd) (z : Int32 × Sg) : Prop := ∃ o, Out l a w o ∧ z.1 = on o ∧ (∀ w', o = some w' → CW 44 z.2 w') ∧ Fr (fun p => (44 ≤ p ∧ p < 87) ∨ p = 131) S z.2
/-- a statement that stands there: what is known of its letters -/
def Sd (L : Nat × (Nat → Nat)) (a : Nat) : Prop := a + dgb (L.2 a) + 2 ≤ L.1 ∧ dgb (L.2 a) ≠ 0 ∧ (∀ k, k < dgb (L.2 a) → 48 ≤ L.2 (a + 1 + k) ∧ L.2 (a + 1 + k) ≤ 57)
theorem Sd_dg {L : Nat × (Nat → Nat)} {a : Nat} (h : Sd L a) {S : Sg} (hc : LC S L) (hn : L.1 ≤ 96) {k : Nat} (hk : k < dgb (L.2 a)) : f_X3_digit 135 96 (nI (a + 1 + k)) S = some (nI (dg L.2 a k)) := s_digit hc hn (by have := h.1; omega) (h.2.2 k hk).1
theorem Sd_pr {L : Nat × (Nat → Nat)} {a : Nat} (h : Sd L a) {S : Sg} (hc : LC S L) (hn : L.1 ≤ 96) {k : Nat} (hk : k + 1 < dgb (L.2 a)) : f_X3_pair 135 96 (nI (a + 1 + k)) S = some (nI (vl L.2 (a + 1 + k) 2)) := s_pair hc hn (by have := h.1; omega) (h.2.2 k (by omega)).1 (h.2.2 (k + 1) hk).1
theorem Sd_99 {L : Nat × (Nat → Nat)} {a : Nat} (h : Sd L a) {k : Nat} (hk : k + 1 < dgb (L.2 a)) : vl L.2 (a + 1 + k) 2 ≤ 99 := by
  rw [vl_2]
  have a1 := h.2.2 k (by omega)
  have a2 := h.2.2 (k + 1) hk
  rw [show a + 1 + (k + 1) = a + 1 + k + 1 by omega] at a2
  omega
theorem i44 : ∀ p, inWd 44 p → (44 ≤ p ∧ p < 87) ∨ p = 131 := fun p h => by have : 44 ≤ p ∧ p < 44 + 29 := h; omega
theorem c_98 {S : Sg} {L : Nat × (Nat → Nat)} {a : Nat} {w : Wd} (hg : wgood w) (hw : CW 44 S w) (hc : LC S L) (hL : L.1 ≤ 96 ∧ ∀ k, k < L.1 → L.2 k ≤ 255) (hd : Sd L a) (e : L.2 a = 98) : wp (f_X3_performOne 135 96 (nI a) 44 130 S) (One S L.2 a w) := by
  have d6 : dgb (L.2 a) = 6 := by rw [e]; rfl
  have hn := hL.1
  have ha : a < L.1 := by have := hd.1; omega
  have n : ∀ k, nums L.2 a k = vl L.2 (a + 1 + 2 * k) 2 := fun k => if_pos e
  have p1 : f_X3_pair 135 96 (nI a + (1 : Int32)) S = some (nI (nums L.2 a 0)) := by
    rw [nIs, n]; exact Sd_pr hd hc hn (k := 0) (by omega)
  have p2 : f_X3_pair 135 96 (nI a + (3 : Int32)) S = some (nI (nums L.2 a 1)) := by
    rw [show (3 : Int32) = nI 3 from rfl, nI_add, n]; exact Sd_pr hd hc hn (k := 2) (by omega)
  have p3 : f_X3_pair 135 96 (nI a + (5 : Int32)) S = some (nI (nums L.2 a 2)) := by
    rw [show (5 : Int32) = nI 5 from rfl, nI_add, n]; exact Sd_pr hd hc hn (k := 4) (by omega)
  have b0 : nums L.2 a 0 ≤ 99 := by rw [n]; exact Sd_99 hd (k := 0) (by omega)
  have b1 : nums L.2 a 1 ≤ 99 := by rw [n]; exact Sd_99 hd (k := 2) (by omega)
  have b2 : nums L.2 a 2 ≤ 99 := by rw [n]; exact Sd_99 hd (k := 4) (by omega)
  unfold f_X3_performOne
  refine wp_bds (s_atL hc hn ha) (wp_ifp (by rw [e]; rfl) (wp_bds p1 (wp_bds p2 (wp_bds p3 ?_))))
  by_cases q : nums L.2 a 0 < num w 0
  · refine wp_bdm (s_takeBounds (x := (nums L.2 a 1 : Int)) (y := (nums L.2 a 2 : Int)) hw hg.1 q (by omega) (by omega)) ?_
    rintro ⟨r, T⟩ (⟨e1, g1, g2, g3⟩ | ⟨e1, g1, g2⟩)
    · have e1' : r = 1 := e1
      subst e1'
      exact wp_u2 (wp_some ⟨some _, Or.inl ⟨e, Or.inl ⟨⟨q, g1.1, g1.2⟩, rfl⟩⟩, rfl, fun w' z => by cases z; exact g3, g2.mono i44⟩)
    · have e1' : r = 0 := e1
      have e2' : T = S := g2
      subst e1' e2'
      exact wp_u2 (wp_some ⟨none, Or.inl ⟨e, Or.inr ⟨fun z => g1 z.2, rfl⟩⟩, rfl, fun w' z => (by cases z), Fr.rf⟩)
  · refine wp_bds (s_takeBounds' hw hg.1 fun j hj z => ?_) (wp_u2 (wp_some ⟨none, Or.inl ⟨e, Or.inr ⟨fun z => q z.1, rfl⟩⟩, rfl, fun w' z => (by cases z), Fr.rf⟩))
    have := hg.1.2.2.1
    have := (nI_eq (by omega) (by omega)).mp z
    omega
theorem c_99 {S : Sg} {L : Nat × (Nat → Nat)} {a : Nat} {w : Wd} (hg : wgood w) (hw : CW 44 S w) (hc : LC S L) (hL : L.1 ≤ 96 ∧ ∀ k, k < L.1 → L.2 k ≤ 255) (hd : Sd L a) (e : L.2 a = 99) : wp (f_X3_performOne 135 96 (nI a) 44 130 S) (One S L.2 a w) := by
  have d3 : dgb (L.2 a) = 3 := by rw [e]; rfl
  have hn := hL.1
  have ha : a < L.1 := by have := hd.1; omega
  have n0 : nums L.2 a 0 = L.2 (a + 1) - 48 := by unfold nums; rw [if_neg (by omega), if_pos (Or.inl e), if_pos rfl, vl_1]
  have n1 : nums L.2 a 1 = vl L.2 (a + 2) 2 := by unfold nums; rw [if_neg (by omega), if_pos (Or.inl e), if_neg (by omega)]
  have p1 : f_X3_digit 135 96 (nI a + (1 : Int32)) S = some (nI (nums L.2 a 0)) := by
    rw [nIs, n0]; exact Sd_dg hd hc hn (k := 0) (by omega)
  have p2 : f_X3_pair 135 96 (nI a + (2 : Int32)) S = some (nI (nums L.2 a 1)) := by
    rw [show (2 : Int32) = nI 2 from rfl, nI_add, n1]; exact Sd_pr hd hc hn (k := 1) (by omega)
  have b0 : nums L.2 a 0 ≤ 9 := by have := hd.2.2 0 (by omega); rw [n0]; have e1 : a + 1 + 0 = a + 1 := rfl; rw [e1] at this; omega
  unfold f_X3_performOne
  refine wp_bds (s_atL hc hn ha) (wp_ifn (by rw [e]; decide) (wp_ifp (by rw [e]; rfl) (wp_bds p1 (wp_bds p2 ?_))))
  by_cases q : nums L.2 a 0 < 8
  · refine wp_bdm (s_takeChange (x := (nums L.2 a 1 : Int)) hw hg.1 (wg_l10 hg) q) ?_
    rintro ⟨r, T⟩ (⟨e1, g1, g2, g3⟩ | ⟨e1, g1, g2⟩)
    · have e1' : r = 1 := e1
      subst e1'
      exact wp_u2 (wp_some ⟨some _, Or.inr (Or.inl ⟨e, Or.inl ⟨⟨q, g1⟩, rfl⟩⟩), rfl, fun w' z => by cases z; exact g3, g2.mono i44⟩)
    · have e1' : r = 0 := e1
      have e2' : T = S := g2
      subst e1' e2'
      exact wp_u2 (wp_some ⟨none, Or.inr (Or.inl ⟨e, Or.inr ⟨fun z => by omega, rfl⟩⟩), rfl, fun w' z => (by cases z), Fr.rf⟩)
  · refine wp_bds (s_takeChange' fun j hj z => ?_) (wp_u2 (wp_some ⟨none, Or.inr (Or.inl ⟨e, Or.inr ⟨fun z => q z.1, rfl⟩⟩), rfl, fun w' z => (by cases z), Fr.rf⟩))
    have := (nI_eq (by omega) (by omega)).mp z
    omega
theorem c_108 {S : Sg} {L : Nat × (Nat → Nat)} {a : Nat} {w : Wd} (hg : wgood w) (hw : CW 44 S w) (hc : LC S L) (hL : L.1 ≤ 96 ∧ ∀ k, k < L.1 → L.2 k ≤ 255) (hd : Sd L a) (e : L.2 a = 108) : wp (f_X3_performOne 135 96 (nI a) 44 130 S) (One S L.2 a w) := by
  have d2 : dgb (L.2 a) = 2 := by rw [e]; rfl
  have hn := hL.1
  have ha : a < L.1 := by have := hd.1; omega
  have n0 : nums L.2 a 0 = vl L.2 (a + 1) 2 := by unfold nums; rw [if_neg (by omega), if_neg (by omega), if_pos e]
  have p1 : f_X3_pair 135 96 (nI a + (1 : Int32)) S = some (nI (nums L.2 a 0)) := by
    rw [nIs, n0]; exact Sd_pr hd hc hn (k := 0) (by omega)
  have b0 : nums L.2 a 0 ≤ 99 := by rw [n0]; exact Sd_99 hd (k := 0) (by omega)
  unfold f_X3_performOne
  refine wp_bds (s_atL hc hn ha) (wp_ifn (by rw [e]; decide) (wp_ifn (by rw [e]; decide) (wp_ifp (by rw [e]; rfl) (wp_bds p1 ?_))))
  refine wp_bdm (s_takeLimit hw (wg_l10 hg) _) ?_
  rintro ⟨r, T⟩ (⟨e1, x, hx, ex, g2, g3⟩ | ⟨e1, g1, g2⟩)
  · have e1' : r = 1 := e1
    subst e1'
    have := (nI_eq (by omega) (by omega)).mp ex
    subst this
    exact wp_u2 (wp_some ⟨some _, Or.inr (Or.inr (Or.inl ⟨e, Or.inl ⟨hx, rfl⟩⟩)), rfl, fun w' z => by cases z; exact g3, g2.mono i44⟩)
  · have e1' : r = 0 := e1
    have e2' : T = S := g2
    subst e1' e2'
    exact wp_u2 (wp_some ⟨none, Or.inr (Or.inr (Or.inl ⟨e, Or.inr ⟨fun z => g1 _ z rfl, rfl⟩⟩)), rfl, fun w' z => (by cases z), Fr.rf⟩)
theorem c_114 {S : Sg} {L : Nat × (Nat → Nat)} {a : Nat} {w : Wd} (hg : wgood w) (hw : CW 44 S w) (hc : LC S L) (hL : L.1 ≤ 96 ∧ ∀ k, k < L.1 → L.2 k ≤ 255) (hd : Sd L a) (e : L.2 a = 114) : wp (f_X3_performOne 135 96 (nI a) 44 130 S) (One S L.2 a w) := by
  have d1 : dgb (L.2 a) = 1 := by rw [e]; rfl
  have hn := hL.1
  have ha : a < L.1 := by have := hd.1; omega
  have n0 : nums L.2 a 0 = L.2 (a + 1) - 48 := by unfold nums; rw [if_neg (by omega), if_neg (by omega), if_neg (by omega)]; exact vl_1
  have p1 : f_X3_digit 135 96 (nI a + (1 : Int32)) S = some (nI (nums L.2 a 0)) := by
    rw [nIs, n0]; exact Sd_dg hd hc hn (k := 0) (by omega)
  have b0 : nums L.2 a 0 ≤ 9 := by have := hd.2.2 0 (by omega); rw [n0]; have e1 : a + 1 + 0 = a + 1 := rfl; rw [e1] at this; omega
  unfold f_X3_performOne
  refine wp_bds (s_atL hc hn ha) (wp_ifn (by rw [e]; decide) (wp_ifn (by rw [e]; decide) (wp_ifn (by rw [e]; decide) (wp_ifp (by rw [e]; rfl) (wp_bds p1 ?_)))))
  refine wp_bdm (s_takeRule hw (wg_l10 hg) _) ?_
  rintro ⟨r, T⟩ (⟨e1, x, hx, ex, g2, g3⟩ | ⟨e1, g1, g2⟩)
  · have e1' : r = 1 := e1
    subst e1'
    have := (nI_eq (by omega) (by omega)).mp ex
    subst this
    exact wp_u2 (wp_some ⟨some _, Or.inr (Or.inr (Or.inr (Or.inl ⟨e, Or.inl ⟨hx, rfl⟩⟩))), rfl, fun w' z => by cases z; exact g3, g2.mono i44⟩)
  · have e1' : r = 0 := e1
    have e2' : T = S := g2
    subst e1' e2'
    exact wp_u2 (wp_some ⟨none, Or.inr (Or.inr (Or.inr (Or.inl ⟨e, Or.inr ⟨fun z => g1 _ z rfl, rfl⟩⟩))), rfl, fun w' z => (by cases z), Fr.rf⟩)
theorem c_118 {S : Sg} {L : Nat × (Nat → Nat)} {a : Nat} {w : Wd} (hg : wgood w) (hw : CW 44 S w) (hc : LC S L) (hL : L.1 ≤ 96 ∧ ∀ k, k < L.1 → L.2 k ≤ 255) (hd : Sd L a) (e : L.2 a = 118) : wp (f_X3_performOne 135 96 (nI a) 44 130 S) (One S L.2 a w) := by
  have d3 : dgb (L.2 a) = 3 := by rw [e]; rfl
  have hn := hL.1
  have ha : a < L.1 := by have := hd.1; omega
  have n0 : nums L.2 a 0 = L.2 (a + 1) - 48 := by unfold nums; rw [if_neg (by omega), if_pos (Or.inr e), if_pos rfl, vl_1]
  have n1 : nums L.2 a 1 = vl L.2 (a + 2) 2 := by unfold nums; rw [if_neg (by omega), if_pos (Or.inr e), if_neg (by omega)]
  have p1 : f_X3_digit 135 96 (nI a + (1 : Int32)) S = some (nI (nums L.2 a 0)) := by
    rw [nIs, n0]; exact Sd_dg hd hc hn (k := 0) (by omega)
  have p2 : f_X3_pair 135 96 (nI a + (2 : Int32)) S = some (nI (nums L.2 a 1)) := by
    rw [show (2 : Int32) = nI 2 from rfl, nI_add, n1]; exact Sd_pr hd hc hn (k := 1) (by omega)
  have b0 : nums L.2 a 0 ≤ 9 := by have := hd.2.2 0 (by omega); rw [n0]; have e1 : a + 1 + 0 = a + 1 := rfl; rw [e1] at this; omega
  unfold f_X3_performOne
  refine wp_bds (s_atL hc hn ha) (wp_ifn (by rw [e]; decide) (wp_ifn (by rw [e]; decide) (wp_ifn (by rw [e]; decide) (wp_ifn (by rw [e]; decide) (wp_ifp (by rw [e]; rfl) (wp_bds p1 (wp_bds p2 ?_)))))))
  by_cases q : nums L.2 a 0 < 8
  · refine wp_bdm (s_takeTold (x := (nums L.2 a 1 : Int)) hw hg.1 (wg_l10 hg) q) ?_
    rintro ⟨r, T⟩ (⟨e1, g1, g2, g3⟩ | ⟨e1, g1, g2⟩)
    · have e1' : r = 1 := e1
      subst e1'
      exact wp_u2 (wp_some ⟨some _, Or.inr (Or.inr (Or.inr (Or.inr (Or.inl ⟨e, Or.inl ⟨⟨q, g1⟩, rfl⟩⟩)))), rfl, fun w' z => by cases z; exact g3, g2.mono i44⟩)
    · have e1' : r = 0 := e1
      have e2' : T = S := g2
      subst e1' e2'
      exact wp_u2 (wp_some ⟨none, Or.inr (Or.inr (Or.inr (Or.inr (Or.inl ⟨e, Or.inr ⟨fun z => g1 z.2, rfl⟩⟩)))), rfl, fun w' z => (by cases z), Fr.rf⟩)
  · refine wp_bds (s_takeTold' hw hg.1 fun j hj z => ?_) (wp_u2 (wp_some ⟨none, Or.inr (Or.inr (Or.inr (Or.inr (Or.inl ⟨e, Or.inr ⟨fun z => q z.1, rfl⟩⟩)))), rfl, fun w' z => (by cases z), Fr.rf⟩))
    have := (nI_eq (by omega) (by omega)).mp z
    omega
