def wgood (w : Wd) : Prop := wok w ∧ nofix (gh w) ∧ wans w
theorem wg_len {w : Wd} (h : wgood w) : (gh w).length ≤ 9 := len9 h.1.2.2.2.2.2.2.1 h.2.1
theorem wg_l10 {w : Wd} (h : wgood w) : (gh w).length ≤ 10 := by have := wg_len h; omega
theorem wg_set {w : Wd} {v : Nat} {x : Int} (h : wgood w) (hx : 0 ≤ x ∧ x ≤ 99) (hf : free (gh w) v) : wgood (wset w v x) := by
  obtain ⟨⟨h1, h2, h3, h4, h5, h6, h7, h8, h9⟩, hn, ha⟩ := h
  refine ⟨⟨h1, h2, h3, h4, h5, fun k hk => ?_, h7, h8, fun i hi => ?_⟩, hn, fun i hi => ?_⟩
  · have := h6 k hk
    simp only [wset] at this ⊢
    grind
  · have := h9 i hi
    simp only [wset] at this ⊢
    grind
  · have q := ha i hi
    have e : dat (wset w v x) 3 i = dat w 3 i := by simp only [wset]; grind
    rw [e, q]
    refine sm_cong 10 fun k hk => ?_
    show _ = gro (gh w) i k * (if 0 < 3 ∧ k = v then (if 0 = 0 then x else if 0 = 1 then 0 else 99) else dat w 0 k)
    by_cases e2 : k = v
    · subst e2; rw [hf i hi]; omega
    · rw [if_neg (fun q => e2 q.2)]
theorem wg_own {w : Wd} {p : Nat} (h : wgood w) (hn : num w 0 < 10) (hp : p < 8) : wgood (wown w p) := by
  obtain ⟨⟨h1, h2, h3, h4, h5, h6, h7, h8, h9⟩, hn', ha⟩ := h
  refine ⟨⟨fun k hk => ?_, fun j k hj hk e => ?_, ?_, h4, h5, h6, h7, h8, fun i hi => ?_⟩, hn', ha⟩
  · have := h1 k hk
    show (if k = p then num w 0 else own w k) < (if 0 = 0 then num w 0 + 1 else num w 0)
    rw [if_pos rfl]
    by_cases e : k = p
    · rw [if_pos e]; omega
    · rw [if_neg e]; omega
  · have e' : (if j = p then num w 0 else own w j) = (if k = p then num w 0 else own w k) := e
    have a1 := h1 j hj
    have a2 := h1 k hk
    by_cases e1 : j = p <;> by_cases e2 : k = p
    · omega
    · rw [if_pos e1, if_neg e2] at e'; omega
    · rw [if_neg e1, if_pos e2] at e'; omega
    · rw [if_neg e1, if_neg e2] at e'; exact h2 j k hj hk e'
  · show 8 ≤ (if 0 = 0 then num w 0 + 1 else num w 0) ∧ (if 0 = 0 then num w 0 + 1 else num w 0) ≤ 10
    rw [if_pos rfl]; omega
  · have := h9 i hi
    refine ⟨this.1, fun v hv hv2 => this.2.1 v ?_ hv2, this.2.2⟩
    have hv' : (if 0 = 0 then num w 0 + 1 else num w 0) ≤ v := hv
    rw [if_pos rfl] at hv'; omega
theorem wg_chg {w : Wd} {p : Nat} {x : Int} (h : wgood w) (hn : num w 0 < 10) (hp : p < 8) (hx : 0 ≤ x ∧ x ≤ 99) : wgood (wchg w p x) :=
  wg_own (wg_set h hx fun i hi => (h.1.2.2.2.2.2.2.2.2 i hi).2.1 _ (Nat.le_refl _) hn) hn hp
theorem wg_bnd {w : Wd} {v : Nat} {x y : Int} (h : wgood w) (hx : 0 ≤ x ∧ x ≤ dat w 0 v ∧ dat w 0 v ≤ y ∧ y ≤ 99) : wgood (wbnd w v x y) := by
  obtain ⟨⟨h1, h2, h3, h4, h5, h6, h7, h8, h9⟩, hn, ha⟩ := h
  refine ⟨⟨h1, h2, h3, h4, h5, fun k hk => ?_, h7, h8, fun i hi => ?_⟩, hn, fun i hi => ?_⟩
  · have := h6 k hk
    simp only [wbnd] at this ⊢
    grind
  · have := h9 i hi
    simp only [wbnd] at this ⊢
    grind
  · have q := ha i hi
    have e : dat (wbnd w v x y) 3 i = dat w 3 i := by simp only [wbnd]; grind
    rw [e, q]
    exact sm_cong 10 fun k hk => by simp only [wbnd]; grind
theorem wg_rule {w : Wd} {x : Nat} (h : wgood w) (hx : x < 4) : wgood (wnum w 1 x) := by
  obtain ⟨⟨h1, h2, h3, h4, h5, h6, h7, h8, h9⟩, hn, ha⟩ := h
  exact ⟨⟨h1, h2, h3, hx, h5, h6, h7, h8, h9⟩, hn, ha⟩
theorem wg_lim {w : Wd} {x : Nat} (h : wgood w) (hx : x ≤ 10) : wgood (wnum w 2 x) := by
  obtain ⟨⟨h1, h2, h3, h4, h5, h6, h7, h8, h9⟩, hn, ha⟩ := h
  exact ⟨⟨h1, h2, h3, h4, hx, h6, h7, h8, h9⟩, hn, ha⟩
theorem tans_bd {w : Wd} {wt : Nat → Int} (h : wok w) (hq : qok wt) : -2400 ≤ tans w wt ∧ tans w wt ≤ 2400 := by
  have := sm_bd (f := fun p => wt p * dat w 0 (own w p)) (B := 297) 8 fun p hp => by
    have a := hq p hp
    have b := h.2.2.2.2.2.1 (own w p) (own10 h hp)
    constructor
    · have := Int.mul_le_mul_of_nonneg_right (a := -3) (b := wt p) (c := dat w 0 (own w p)) (by omega) (by omega)
      show -297 ≤ wt p * dat w 0 (own w p); omega
    · have := Int.mul_le_mul_of_nonneg_right (a := wt p) (b := 3) (c := dat w 0 (own w p)) (by omega) (by omega)
      show wt p * dat w 0 (own w p) ≤ 297; omega
  show -2400 ≤ sm 8 _ ∧ sm 8 _ ≤ 2400
  constructor <;> omega
theorem wj_ok {w : Wd} {q : Nat} {wt : Nat → Int} (hk : wok w) (ha : wans w) (hq : qok wt) (ok : gok ((q, qrow w wt) :: gh w)) : wok (wjoin w q (qrow w wt) (tans w wt)) ∧ wans (wjoin w q (qrow w wt) (tans w wt)) := by
  have ho : ∀ k, k < 8 → own w k < 10 := fun k hk' => own10 hk hk'
  have hk' := hk
  obtain ⟨h1, h2, h3, h4, h5, h6, h7, h8, h9⟩ := hk
  have d0 : ∀ j k, j < 3 → dat (wjoin w q (qrow w wt) (tans w wt)) j k = dat w j k := fun j k hj => if_neg fun e => by omega
  refine ⟨⟨h1, h2, h3, h4, h5, fun k hk => ?_, ok, ⟨h8, qdt ho hq⟩, fun i hi => ?_⟩, fun i hi => ?_⟩
  · rw [d0 1 k (by omega), d0 0 k (by omega), d0 2 k (by omega)]; exact h6 k hk
  · have hi' : i < (gh w).length + 1 := hi
    by_cases e : i = (gh w).length
    · subst e
      rw [show gro (gh (wjoin w q (qrow w wt) (tans w wt))) (gh w).length = qrow w wt from gro_new, show dat (wjoin w q (qrow w wt) (tans w wt)) 3 (gh w).length = tans w wt from if_pos ⟨rfl, rfl⟩]
      exact ⟨qbd hq, fun v hv _ => ar_z 8 fun p hp e => by have := h1 p hp; have hv' : num w 0 ≤ v := hv; omega, tans_bd hk' hq⟩
    · rw [show gro (gh (wjoin w q (qrow w wt) (tans w wt))) i = gro (gh w) i from gro_old (by omega), show dat (wjoin w q (qrow w wt) (tans w wt)) 3 i = dat w 3 i from if_neg fun q => e q.2]
      exact h9 i (by omega)
  · have hi' : i < (gh w).length + 1 := hi
    rw [sm_cong 10 fun k hk => by rw [d0 0 k (by omega)]]
    by_cases e : i = (gh w).length
    · subst e
      rw [show gro (gh (wjoin w q (qrow w wt) (tans w wt))) (gh w).length = qrow w wt from gro_new, show dat (wjoin w q (qrow w wt) (tans w wt)) 3 (gh w).length = tans w wt from if_pos ⟨rfl, rfl⟩]
      exact (ar_sum (dat w 0) ho h2 8 (Nat.le_refl _)).symm
    · rw [show gro (gh (wjoin w q (qrow w wt) (tans w wt))) i = gro (gh w) i from gro_old (by omega), show dat (wjoin w q (qrow w wt) (tans w wt)) 3 i = dat w 3 i from if_neg fun q => e q.2]
      exact ha i (by omega)
theorem wg_join {w : Wd} {q : Nat} {wt : Nat → Int} (h : wgood w) (hq : qok wt) (ok : gok ((q, qrow w wt) :: gh w)) (nf : ¬ fixes (gh w) (qrow w wt)) : wgood (wjoin w q (qrow w wt) (tans w wt)) :=
  ⟨(wj_ok h.1 h.2.2 hq ok).1, fun v hv hc => nf ⟨v, hv, (fxd_iff ok hv).mpr hc⟩, (wj_ok h.1 h.2.2 hq ok).2⟩
theorem Meet_1 {g : Gh} {a : Nat → Int} {sz rl lm : Nat} (h : Meet g a sz rl lm 1) : ¬ zer g a ∧ ¬ fixes g a := by
  rcases h with h | h | h
  · exact absurd h.1 (by decide)
  · exact absurd h.1 (by decide)
  · exact ⟨h.2.1, h.2.2.1⟩
