theorem rows_bdd {w : Wd} (h : wok w) : rbd (gh w) := fun i hi => (h.2.2.2.2.2.2.2.2 i hi).1
/-- a set value stays in its range -/
theorem CW_wset {o : Nat} {S : Sg} {w : Wd} {v : Nat} {x : Int} (hw : CW o S w) (hl : (gh w).length ≤ 10) (hv : v < 10) : CW o (setI (setI (setI S (o + 2) v (I x)) (o + 3) v 0) (o + 4) v 99) (wset w v x) := by
  generalize hS : setI (setI (setI S (o + 2) v (I x)) (o + 3) v 0) (o + 4) v 99 = S'
  have f : Fr (fun p => p = o + 2 ∨ p = o + 3 ∨ p = o + 4) S S' := by rw [← hS]; exact ((Fr.setI (Or.inl rfl)).tr (Fr.setI (Or.inr (Or.inl rfl)))).tr (Fr.setI (Or.inr (Or.inr rfl)))
  have k : ∀ p, p ≠ o + 2 → p ≠ o + 3 → p ≠ o + 4 → S'.1 p = S.1 p := fun p h1 h2 h3 => (f p (by omega)).1
  obtain ⟨h1, h2, h3, h4, h5⟩ := hw
  refine ⟨fun j hj => ?_, fun j hj => ?_, ?_, fun i hi => ⟨?_, fun c hc => ?_⟩, h5.fr f fun p hp => by have := hp.1; omega⟩
  · rw [k _ (by omega) (by omega) (by omega)]; exact h1 j hj
  · obtain ⟨e1, e2, e3⟩ := h2 j hj
    by_cases e : j = v
    · subst e
      refine ⟨?_, ?_, ?_⟩
      · rw [← hS, setI_n (by omega), setI_n (by omega), setI_s]
        show I x = I (if 0 < 3 ∧ j = j then (if 0 = 0 then x else if 0 = 1 then 0 else 99) else dat w 0 j)
        rw [if_pos ⟨by omega, rfl⟩, if_pos rfl]
      · rw [← hS, setI_n (by omega), setI_s]
        show I 0 = I (if 1 < 3 ∧ j = j then (if 1 = 0 then x else if 1 = 1 then 0 else 99) else dat w 1 j)
        rw [if_pos ⟨by omega, rfl⟩]
        rfl
      · rw [← hS, setI_s]
        show I 99 = I (if 2 < 3 ∧ j = j then (if 2 = 0 then x else if 2 = 1 then 0 else 99) else dat w 2 j)
        rw [if_pos ⟨by omega, rfl⟩]
        rfl
    · refine ⟨?_, ?_, ?_⟩
      · rw [← hS, setI_n (by omega), setI_n (by omega), setI_n (by omega), e1]; exact congrArg I (if_neg (by omega)).symm
      · rw [← hS, setI_n (by omega), setI_n (by omega), setI_n (by omega), e2]; exact congrArg I (if_neg (by omega)).symm
      · rw [← hS, setI_n (by omega), setI_n (by omega), setI_n (by omega), e3]; exact congrArg I (if_neg (by omega)).symm
  · rw [k o (by omega) (by omega) (by omega)]; exact h3
  · rw [k _ (by omega) (by omega) (by omega), (h4 i hi).1]
    show I (dat w 3 i) = I (if 3 < 3 ∧ i = v then (if 3 = 0 then x else if 3 = 1 then 0 else 99) else dat w 3 i)
    rw [if_neg (by omega)]
  · rw [k _ (by omega) (by omega) (by omega)]; exact (h4 i hi).2 c hc
theorem s_set {o : Nat} {S : Sg} {w : Wd} {v : Nat} {x : Int} (hw : CW o S w) (hl : (gh w).length ≤ 10) (hv : v < 10) : wp (f_X5_set o (nI v) (I x) S) (fun S' => Fr (inWd o) S S' ∧ CW o S' (wset w v x)) := by
  unfold f_X5_set
  rw [isW10 hv]
  refine wp_ifn (by decide) (wp_gd (inn' hv (by omega)) (wp_lt (wp_lt (wp_lt (wp_some ?_)))))
  rw [ixn (by omega)]
  exact ⟨((Fr.setI ⟨by omega, by omega⟩).tr (Fr.setI ⟨by omega, by omega⟩)).tr (Fr.setI ⟨by omega, by omega⟩), CW_wset hw hl hv⟩
theorem s_takeTold {o : Nat} {S : Sg} {w : Wd} {p : Nat} {x : Int} (hw : CW o S w) (hk : wok w) (hl : (gh w).length ≤ 10) (hp : p < 8) : wp (f_X5_takeTold o (nI p) (I x) S) (fun z => (z.1 = 1 ∧ free (gh w) (own w p) ∧ Fr (inWd o) S z.2 ∧ CW o z.2 (wset w (own w p) x)) ∨ (z.1 = 0 ∧ ¬ free (gh w) (own w p) ∧ z.2 = S)) := by
  have ho := own10 hk hp
  unfold f_X5_takeTold
  rw [s_variableOf hw hp]
  refine wp_bds rfl ?_
  rw [has_1 hw hk.2.2.1.2 (hk.1 p hp)]
  refine wp_ifn (by decide) (wp_bdm (s_isFree hw hl (rows_bdd hk) ho) ?_)
  intro r hr
  rcases hr with ⟨rfl, h⟩ | ⟨rfl, h⟩
  · refine wp_ifn (by decide) (wp_bdm (s_set hw hl ho) ?_)
    intro S1 ⟨f, c⟩
    exact wp_some (Or.inl ⟨rfl, h, f, c⟩)
  · exact wp_ifp rfl (wp_some (Or.inr ⟨rfl, h, rfl⟩))
def wchg (w : Wd) (p : Nat) (x : Int) : Wd := wown (wset w (num w 0) x) p
theorem s_takeChange {o : Nat} {S : Sg} {w : Wd} {p : Nat} {x : Int} (hw : CW o S w) (hk : wok w) (hl : (gh w).length ≤ 10) (hp : p < 8) : wp (f_X5_takeChange o (nI p) (I x) S) (fun z => (z.1 = 1 ∧ num w 0 < 10 ∧ Fr (inWd o) S z.2 ∧ CW o z.2 (wchg w p x)) ∨ (z.1 = 0 ∧ num w 0 = 10 ∧ z.2 = S)) := by
  have hv := hk.2.2.1
  unfold f_X5_takeChange
  rw [isW8 hp, hw.2.2.1.1]
  refine wp_ifn (by decide) ?_
  by_cases h10 : num w 0 < 10
  · rw [isW10 h10]
    refine wp_ifn (by decide) (wp_gd (inn' hp (by omega)) (wp_lt ?_))
    rw [ixn (by omega)]
    generalize hS1 : setI S (o + 1) p (nI (num w 0)) = S1
    have f1 : Fr (fun q => q = o + 1) S S1 := by rw [← hS1]; exact Fr.setI rfl
    have e4 : S1.1 o 4 = nI (num w 0) := by rw [f1.I (by omega)]; exact hw.2.2.1.1
    rw [e4]
    -- the world with its new owner, before the letter counts
    have hw1 : CW o S1 (fun k => if k = p then num w 0 else own w k, dat w, num w, gh w) := by
      obtain ⟨h1, h2, h3, h4, h5⟩ := hw
      refine ⟨fun j hj => ?_, fun j hj => ?_, ?_, fun i hi => ⟨?_, fun c hc => ?_⟩, h5.fr f1 fun q hq => by have := hq.1; omega⟩
      · show _ = nI (if j = p then num w 0 else own w j)
        by_cases e : j = p
        · rw [if_pos e, e, ← hS1, setI_s]
        · rw [if_neg e, ← hS1, setI_n (by omega)]; exact h1 j hj
      · rw [f1.I (by omega), f1.I (by omega), f1.I (by omega)]; exact h2 j hj
      · rw [f1.I (by omega), f1.I (by omega), f1.I (by omega), f1.I (by omega)]; exact h3
      · rw [f1.I (by omega)]; exact (h4 i hi).1
      · rw [f1.I (by omega)]; exact (h4 i hi).2 c hc
    refine wp_bdm (s_set (x := x) hw1 hl h10) ?_
    intro S2 ⟨f2, c2⟩
    have e42 : S2.1 o 4 = nI (num w 0) := c2.2.2.1.1
    refine wp_lt (wp_some (Or.inl ⟨rfl, h10, ?_, ?_⟩))
    · exact ((f1.mono fun q hq => ⟨by omega, by omega⟩).tr f2).tr (Fr.setI ⟨by omega, by omega⟩)
    · have f3 : Fr (fun q => q = o) S2 (setI S2 o 4 (S2.1 o 4 + 1)) := Fr.setI rfl
      obtain ⟨h1, h2, h3, h4, h5⟩ := c2
      refine ⟨fun j hj => ?_, fun j hj => ?_, ⟨?_, ?_, ?_, ?_⟩, fun i hi => ⟨?_, fun c hc => ?_⟩, h5.fr f3 fun q hq => by have := hq.1; omega⟩
      · rw [f3.I (by omega)]; exact h1 j hj
      · rw [f3.I (by omega), f3.I (by omega), f3.I (by omega)]; exact h2 j hj
      · show (setI S2 o 4 (S2.1 o 4 + 1)).1 o 4 = _
        rw [setI_s, e42, nIs]; rfl
      · show (setI S2 o 4 (S2.1 o 4 + 1)).1 o 5 = _
        rw [setI_n (by omega)]; exact h3.2.1
      · show (setI S2 o 4 (S2.1 o 4 + 1)).1 o 6 = _
        rw [setI_n (by omega)]; exact h3.2.2.1
      · show (setI S2 o 4 (S2.1 o 4 + 1)).1 o 9 = _
        rw [setI_n (by omega)]; exact h3.2.2.2
      · rw [f3.I (by omega)]; exact (h4 i hi).1
      · rw [f3.I (by omega)]; exact (h4 i hi).2 c hc
  · have e : num w 0 = 10 := by omega
    rw [e]
    refine wp_ifp (by decide) (wp_some (Or.inr ⟨rfl, rfl, rfl⟩))
theorem s_takeBounds {o : Nat} {S : Sg} {w : Wd} {v : Nat} {x y : Int} (hw : CW o S w) (hk : wok w) (hv : v < num w 0) (hx : 0 ≤ x ∧ x ≤ 99) (hy : 0 ≤ y ∧ y ≤ 99) : wp (f_X5_takeBounds o (nI v) (I x) (I y) S) (fun z => (z.1 = 1 ∧ (x ≤ dat w 0 v ∧ dat w 0 v ≤ y) ∧ Fr (inWd o) S z.2 ∧ CW o z.2 (wbnd w v x y)) ∨ (z.1 = 0 ∧ ¬ (x ≤ dat w 0 v ∧ dat w 0 v ≤ y) ∧ z.2 = S)) := by
  have hv10 : v < 10 := by have := hk.2.2.1; omega
  have hd := hk.2.2.2.2.2.1 v hv10
  unfold f_X5_takeBounds
  rw [has_1 hw hk.2.2.1.2 hv]
  refine wp_ifn (by decide) (wp_gd (inn' hv10 (by omega)) ?_)
  rw [ixn (by omega), (hw.2.1 v hv10).1]
  have c1 : I (dat w 0 v) < I x ↔ dat w 0 v < x := I_lt (by omega) (by omega)
  have c2 : I y < I (dat w 0 v) ↔ y < dat w 0 v := I_lt (by omega) (by omega)
  refine wp_if (fun h => ?_) (fun h => ?_)
  · exact wp_some (Or.inr ⟨rfl, by have := c1.mp h; omega, rfl⟩)
  · refine wp_if (fun h' => ?_) (fun h' => ?_)
    · exact wp_some (Or.inr ⟨rfl, by have := c2.mp h'; omega, rfl⟩)
    · have g1 : ¬ dat w 0 v < x := fun q => h (c1.mpr q)
      have g2 : ¬ y < dat w 0 v := fun q => h' (c2.mpr q)
      refine wp_lt (wp_lt (wp_some (Or.inl ⟨rfl, by omega, (Fr.setI ⟨by omega, by omega⟩).tr (Fr.setI ⟨by omega, by omega⟩), ?_⟩)))
      generalize hS : setI (setI S (o + 3) v (I x)) (o + 4) v (I y) = S'
      have f : Fr (fun p => p = o + 3 ∨ p = o + 4) S S' := by rw [← hS]; exact (Fr.setI (Or.inl rfl)).tr (Fr.setI (Or.inr rfl))
      have hl := gok_len hk.2.2.2.2.2.2.1
      obtain ⟨h1, h2, h3, h4, h5⟩ := hw
      refine ⟨fun j hj => ?_, fun j hj => ?_, ?_, fun i hi => ⟨?_, fun c hc => ?_⟩, h5.fr f fun p hp => by have := hp.1; omega⟩
      · rw [f.I (by omega)]; exact h1 j hj
      · obtain ⟨e1, e2, e3⟩ := h2 j hj
        refine ⟨?_, ?_, ?_⟩
        · rw [f.I (by omega)]; exact e1
        · show _ = I (if 1 = 1 ∧ j = v then x else if 1 = 2 ∧ j = v then y else dat w 1 j)
          by_cases e : j = v
          · rw [if_pos ⟨rfl, e⟩, e, ← hS, setI_n (by omega), setI_s]
          · rw [if_neg (by omega), if_neg (by omega), ← hS, setI_n (by omega), setI_n (by omega)]; exact e2
        · show _ = I (if 2 = 1 ∧ j = v then x else if 2 = 2 ∧ j = v then y else dat w 2 j)
          by_cases e : j = v
          · rw [if_neg (by omega), if_pos ⟨rfl, e⟩, e, ← hS, setI_s]
          · rw [if_neg (by omega), if_neg (by omega), ← hS, setI_n (by omega), setI_n (by omega)]; exact e3
      · rw [f.I (by omega), f.I (by omega), f.I (by omega), f.I (by omega)]; exact h3
      · rw [f.I (by omega), (h4 i hi).1]
        show I (dat w 3 i) = I (if 3 = 1 ∧ i = v then x else if 3 = 2 ∧ i = v then y else dat w 3 i)
        rw [if_neg (by omega), if_neg (by omega)]
      · rw [f.I (by omega)]; exact (h4 i hi).2 c hc
theorem CW_wnum {o : Nat} {S : Sg} {w : Wd} {j x : Nat} (hw : CW o S w) (hj : j = 1 ∨ j = 2) (hl : (gh w).length ≤ 10) : CW o (setI S o (4 + j) (nI x)) (wnum w j x) := by
  have f : Fr (fun p => p = o) S (setI S o (4 + j) (nI x)) := Fr.setI rfl
  obtain ⟨h1, h2, h3, h4, h5⟩ := hw
  refine ⟨fun i hi => ?_, fun i hi => ?_, ⟨?_, ?_, ?_, ?_⟩, fun i hi => ⟨?_, fun c hc => ?_⟩, h5.fr f fun p hp => by have := hp.1; omega⟩
  · rw [f.I (by omega)]; exact h1 i hi
  · rw [f.I (by omega), f.I (by omega), f.I (by omega)]; exact h2 i hi
  · rw [setI_n (by omega)]
    show _ = nI (if 0 = j then x else num w 0)
    rw [if_neg (by omega)]; exact h3.1
  · show _ = nI (if 1 = j then x else num w 1)
    by_cases e : 1 = j
    · rw [if_pos e, ← e]; exact setI_s
    · rw [if_neg e, setI_n (by omega)]; exact h3.2.1
  · show _ = nI (if 2 = j then x else num w 2)
    by_cases e : 2 = j
    · rw [if_pos e, ← e]; exact setI_s
    · rw [if_neg e, setI_n (by omega)]; exact h3.2.2.1
  · rw [setI_n (by omega)]; exact h3.2.2.2
  · rw [f.I (by omega)]; exact (h4 i hi).1
  · rw [f.I (by omega)]; exact (h4 i hi).2 c hc
theorem s_takeRule {o : Nat} {S : Sg} {w : Wd} (hw : CW o S w) (hl : (gh w).length ≤ 10) (p : Int32) : wp (f_X5_takeRule o p S) (fun z => (z.1 = 1 ∧ ∃ x, x < 4 ∧ p = nI x ∧ Fr (inWd o) S z.2 ∧ CW o z.2 (wnum w 1 x)) ∨ (z.1 = 0 ∧ (∀ x, x < 4 → p ≠ nI x) ∧ z.2 = S)) := by
  unfold f_X5_takeRule
  rw [show (4 : Int32) = nI 4 from rfl]
  rcases isW_cases p (n := 4) (by decide) with ⟨j, h1, h2, h3⟩ | ⟨h1, h2⟩
  · rw [h3]
    subst h2
    exact wp_ifn (by decide) (wp_lt (wp_some (Or.inl ⟨rfl, j, h1, rfl, Fr.setI ⟨by omega, by omega⟩, CW_wnum (j := 1) hw (Or.inl rfl) hl⟩)))
  · rw [h2]
    exact wp_ifp rfl (wp_some (Or.inr ⟨rfl, h1, rfl⟩))
theorem s_takeLimit {o : Nat} {S : Sg} {w : Wd} (hw : CW o S w) (hl : (gh w).length ≤ 10) (p : Int32) : wp (f_X5_takeLimit o p S) (fun z => (z.1 = 1 ∧ ∃ x, x ≤ 10 ∧ p = nI x ∧ Fr (inWd o) S z.2 ∧ CW o z.2 (wnum w 2 x)) ∨ (z.1 = 0 ∧ (∀ x, x ≤ 10 → p ≠ nI x) ∧ z.2 = S)) := by
  unfold f_X5_takeLimit
  rw [show (11 : Int32) = nI 11 from rfl]
  rcases isW_cases p (n := 11) (by decide) with ⟨j, h1, h2, h3⟩ | ⟨h1, h2⟩
  · rw [h3]
    subst h2
    exact wp_ifn (by decide) (wp_lt (wp_some (Or.inl ⟨rfl, j, by omega, rfl, Fr.setI ⟨by omega, by omega⟩, CW_wnum (j := 2) hw (Or.inr rfl) hl⟩)))
  · rw [h2]
    exact wp_ifp rfl (wp_some (Or.inr ⟨rfl, fun x hx => h1 x (by omega), rfl⟩))
theorem s_takeQuestion {o oq : Nat} {S : Sg} {w : Wd} {wt : Nat → Int} (hw : CW o S w) (hk : wok w) (hf : nofix (gh w)) (hq : QW oq S wt) (hwt : qok wt) (hoq : o + 43 ≤ oq) : wp (f_X5_takeQuestion o oq S) (fun z => Meet (gh w) (qrow w wt) (szOf wt 8) (num w 1) (num w 2) z.1 ∧ Fr (inAll o) S z.2 ∧ ((z.1 ≠ 1 ∧ CW o z.2 w) ∨ (z.1 = 1 ∧ ∃ q, gok ((q, qrow w wt) :: gh w) ∧ CW o z.2 (wjoin w q (qrow w wt) (tans w wt))))) := by
  have ho : ∀ k, k < 8 → own w k < 10 := fun k h => own10 hk h
  have hg := wok_sm hk hf
  unfold f_X5_takeQuestion
  rw [hw.2.2.1.2.1, hw.2.2.1.2.2.1]
  refine wp_bdm (s_meetingBy hw hk hf hq hwt (by omega) hk.2.2.2.1 hk.2.2.2.2.1) ?_
  intro ⟨m, S1⟩ ⟨hm, f1⟩
  have hw1 : CW o S1 w := hw.fr f1 (fun p hp => by have := hp.2; omega) (by have := hg.2.2; omega)
  have f1' : Fr (inAll o) S S1 := f1.mono fun p hp => ⟨by have := hp.1; omega, hp.2⟩
  show wp (if m = 1 then _ else _) _
  refine wp_if (fun h1 => ?_) (fun h1 => ?_)
  · refine wp_bdm (s_wjoin hw1 ho hg (hq.fr f1 (by omega)) hwt hoq) ?_
    intro S2 ⟨f2, h2⟩
    refine wp_some ⟨hm, f1'.tr f2, Or.inr ⟨h1, ?_⟩⟩
    rcases h2 with ⟨hz, _⟩ | h2
    · have hm1 : Meet (gh w) (qrow w wt) (szOf wt 8) (num w 1) (num w 2) 0 := Or.inl ⟨rfl, hz⟩
      have := Meet_u hm hm1
      have h0 : (1 : Int32) = 0 := h1.symm.trans this
      exact absurd h0 (by decide)
    · exact h2
  · exact wp_some ⟨hm, f1', Or.inl ⟨h1, hw1⟩⟩
theorem s_fixedQ {o oq : Nat} {S : Sg} {w : Wd} {wt : Nat → Int} (hw : CW o S w) (hk : wok w) (hf : nofix (gh w)) (hq : QW oq S wt) (hwt : qok wt) (hoq : o + 43 ≤ oq) : wp (f_X5_fixedBitsWith o oq S) (fun z => bitsAre z.1 (fun v => v < 10 ∧ fxd (gh w) (gr (gh w) (qrow w wt)) v) ∧ Fr (inScr o) S z.2) := by
  have ho : ∀ k, k < 8 → own w k < 10 := fun k h => own10 hk h
  have hg := wok_sm hk hf
  unfold f_X5_fixedBitsWith
  refine wp_bdm (s_findRest hw ho hq hwt (by omega)) ?_
  intro S1 ⟨p1, p2, p3⟩
  have hsp : SP (o + 17) S1 (gh w) := hw.2.2.2.2.fr p1 fun p hp => by have := hp.1; have := hp.2; omega
  refine wp_bdm (s_fixed hsp.1 (fun v hv => gl_bd hg hv) p3 (gr_bd hg (qdt (w := w) ho hwt))) ?_
  intro x hx
  exact wp_some ⟨hx, p1.mono fun p hp => by rcases hp with rfl | rfl <;> exact ⟨by omega, by omega⟩⟩
theorem s_wcopy {o o1 : Nat} {S : Sg} {w : Wd} (hw : CW o1 S w) (hl : (gh w).length ≤ 10) (hd : o + 43 ≤ o1 ∨ o1 + 43 ≤ o) : wp (f_X5_copyFrom o o1 S) (fun S' => Fr (inWd o) S S' ∧ CW o S' w) := by
  unfold f_X5_copyFrom
  refine wp_lt (wp_lt (wp_lt (wp_lt (wp_lt ?_))))
  -- five arrays
  generalize hS1 : cpI S (o1 + 1) 0 (o + 1) 0 8 = S1
  have f1 : Fr (fun p => p = o + 1) S S1 := by rw [← hS1]; exact Fr.fillI rfl
  have e1 : ∀ k, k < 8 → S1.1 (o + 1) k = S.1 (o1 + 1) k := fun k hk => by rw [← hS1, show (8 : Int32) = nI 8 from rfl, cpI_at (by omega) hk]
  generalize hS2 : cpI S1 (o1 + 2) 0 (o + 2) 0 10 = S2
  have f2 : Fr (fun p => p = o + 2) S1 S2 := by rw [← hS2]; exact Fr.fillI rfl
  have e2 : ∀ k, k < 10 → S2.1 (o + 2) k = S1.1 (o1 + 2) k := fun k hk => by rw [← hS2, ten, cpI_at (by omega) hk]
  generalize hS3 : cpI S2 (o1 + 3) 0 (o + 3) 0 10 = S3
  have f3 : Fr (fun p => p = o + 3) S2 S3 := by rw [← hS3]; exact Fr.fillI rfl
  have e3 : ∀ k, k < 10 → S3.1 (o + 3) k = S2.1 (o1 + 3) k := fun k hk => by rw [← hS3, ten, cpI_at (by omega) hk]
  generalize hS4 : cpI S3 (o1 + 4) 0 (o + 4) 0 10 = S4
  have f4 : Fr (fun p => p = o + 4) S3 S4 := by rw [← hS4]; exact Fr.fillI rfl
  have e4 : ∀ k, k < 10 → S4.1 (o + 4) k = S3.1 (o1 + 4) k := fun k hk => by rw [← hS4, ten, cpI_at (by omega) hk]
  generalize hS5 : cpI S4 (o1 + 16) 0 (o + 16) 0 10 = S5
  have f5 : Fr (fun p => p = o + 16) S4 S5 := by rw [← hS5]; exact Fr.fillI rfl
  have e5 : ∀ k, k < 10 → S5.1 (o + 16) k = S4.1 (o1 + 16) k := fun k hk => by rw [← hS5, ten, cpI_at (by omega) hk]
  have g5 : Fr (inWd o) S S5 := ((((f1.mono fun p hp => ⟨by omega, by omega⟩).tr (f2.mono fun p hp => ⟨by omega, by omega⟩)).tr (f3.mono fun p hp => ⟨by omega, by omega⟩)).tr (f4.mono fun p hp => ⟨by omega, by omega⟩)).tr (f5.mono fun p hp => ⟨by omega, by omega⟩)
  have a1 : ∀ k, k < 8 → S5.1 (o + 1) k = S.1 (o1 + 1) k := fun k hk => by rw [f5.I (by omega), f4.I (by omega), f3.I (by omega), f2.I (by omega)]; exact e1 k hk
  have a2 : ∀ k, k < 10 → S5.1 (o + 2) k = S.1 (o1 + 2) k := fun k hk => by rw [f5.I (by omega), f4.I (by omega), f3.I (by omega), e2 k hk, f1.I (by omega)]
  have a3 : ∀ k, k < 10 → S5.1 (o + 3) k = S.1 (o1 + 3) k := fun k hk => by rw [f5.I (by omega), f4.I (by omega), e3 k hk, f2.I (by omega), f1.I (by omega)]
  have a4 : ∀ k, k < 10 → S5.1 (o + 4) k = S.1 (o1 + 4) k := fun k hk => by rw [f5.I (by omega), e4 k hk, f3.I (by omega), f2.I (by omega), f1.I (by omega)]
  have a5 : ∀ k, k < 10 → S5.1 (o + 16) k = S.1 (o1 + 16) k := fun k hk => by rw [e5 k hk, f4.I (by omega), f3.I (by omega), f2.I (by omega), f1.I (by omega)]
  refine wp_bdm (up (F := fun n k S' => L_X5_copyFrom_77 o o1 n (nI k) S') 10 (fun k S' => Fr (fun p => o + 6 ≤ p ∧ p < o + 16) S5 S' ∧ ∀ i, i < k → ∀ v, v < 10 → S'.1 (o + 6 + i) v = S.1 (o1 + 6 + i) v) (fun S' => Fr (fun p => o + 6 ≤ p ∧ p < o + 16) S5 S' ∧ ∀ i, i < 10 → ∀ v, v < 10 → S'.1 (o + 6 + i) v = S.1 (o1 + 6 + i) v) ?_ ?_ 400 0 S5 (by omega) (by omega) ⟨Fr.rf, fun i h => by omega⟩) ?_
  · intro n k S6 hk ⟨q1, q2⟩ ih
    rw [L_X5_copyFrom_77]
    refine wp_ifp (lt10 hk) (wp_gd (inn' hk (by omega)) ?_)
    show wp (L_X5_copyFrom_77 o o1 n (nI k + 1) (cpI S6 (o1 + 6 + ix (nI k)) 0 (o + 6 + ix (nI k)) 0 10)) _
    rw [nIs, ixn (by omega)]
    refine ih _ ⟨q1.tr (Fr.fillI ⟨by omega, by omega⟩), fun i hi v hv => ?_⟩
    by_cases e : i = k
    · subst e
      rw [ten, cpI_at (by omega) hv, q1.I (by omega), g5.I (by omega)]
    · have h1 : (cpI S6 (o1 + 6 + k) 0 (o + 6 + k) 0 10).1 (o + 6 + i) = S6.1 (o + 6 + i) := (fillI_o (by omega)).1
      rw [h1]
      exact q2 i (by omega) v hv
  · intro n S6 hp
    rw [L_X5_copyFrom_77]
    exact wp_ifn (nlt10 (Nat.le_refl _) (by omega)) (wp_some hp)
  intro S6 ⟨q1, q2⟩
  refine wp_lt (wp_lt (wp_lt (wp_lt ?_)))
  have b : ∀ k, S6.1 o1 k = S.1 o1 k := fun k => by rw [q1.I (by omega), g5.I (by omega)]
  have r4 : ∀ (S : Sg) (j k : Nat) (v : Int32), (setI S o j v).1 o1 k = S.1 o1 k := fun S j k v => setI_n (by omega)
  rw [r4, r4, r4, r4, r4, r4, b, b, b, b]
  generalize hS7 : setI (setI (setI (setI S6 o 4 (S.1 o1 4)) o 5 (S.1 o1 5)) o 6 (S.1 o1 6)) o 9 (S.1 o1 9) = S7
  have f7 : Fr (fun p => p = o) S6 S7 := by rw [← hS7]; exact Fr.tr (A := fun p => p = o) (Fr.tr (A := fun p => p = o) (Fr.tr (A := fun p => p = o) (Fr.setI rfl) (Fr.setI rfl)) (Fr.setI rfl)) (Fr.setI rfl)
  have g7 : Fr (inWd o) S S7 := (g5.tr (q1.mono fun p hp => ⟨by have := hp.1; omega, by have := hp.2; omega⟩)).tr (f7.mono fun p hp => ⟨by omega, by omega⟩)
  have hsp : SP (o1 + 17) S7 (gh w) := hw.2.2.2.2.fr g7 fun p hp => by have := hp.1; have := hp.2; omega
  refine wp_bdm (s_spCopy (os := o + 17) hsp fun p hp => by have := hp.1; have := hp.2; omega) ?_
  intro S8 ⟨f8, hsp8⟩
  have k8 : ∀ p, p < o + 17 → S8.1 p = S7.1 p := fun p hp => (f8 p (by omega)).1
  have k7 : ∀ p, p ≠ o → S7.1 p = S6.1 p := fun p hp => (f7 p hp).1
  have k6 : ∀ p, ¬ (o + 6 ≤ p ∧ p < o + 16) → S6.1 p = S5.1 p := fun p hp => (q1 p hp).1
  obtain ⟨h1, h2, h3, h4, h5⟩ := hw
  refine wp_some ⟨g7.tr (f8.mono fun p hp => ⟨by have := hp.1; omega, by have := hp.2; omega⟩), fun k hk => ?_, fun k hk => ⟨?_, ?_, ?_⟩, ⟨?_, ?_, ?_, ?_⟩, fun i hi => ⟨?_, fun v hv => ?_⟩, hsp8⟩
  · rw [k8 _ (by omega), k7 _ (by omega), k6 _ (by omega), a1 k hk]; exact h1 k hk
  · rw [k8 _ (by omega), k7 _ (by omega), k6 _ (by omega), a2 k hk]; exact (h2 k hk).1
  · rw [k8 _ (by omega), k7 _ (by omega), k6 _ (by omega), a3 k hk]; exact (h2 k hk).2.1
  · rw [k8 _ (by omega), k7 _ (by omega), k6 _ (by omega), a4 k hk]; exact (h2 k hk).2.2
  · rw [k8 _ (by omega), ← hS7, setI_n (by omega), setI_n (by omega), setI_n (by omega), setI_s]; exact h3.1
  · rw [k8 _ (by omega), ← hS7, setI_n (by omega), setI_n (by omega), setI_s]; exact h3.2.1
  · rw [k8 _ (by omega), ← hS7, setI_n (by omega), setI_s]; exact h3.2.2.1
  · rw [k8 _ (by omega), ← hS7, setI_s]; exact h3.2.2.2
  · rw [k8 _ (by omega), k7 _ (by omega), k6 _ (by omega), a5 i (by omega)]; exact (h4 i hi).1
  · rw [k8 _ (by omega), k7 _ (by omega), q2 i (by omega) v hv]; exact (h4 i hi).2 v hv
