/-! the reference's small steps -/
theorem s_isFreeM {S : Sg} {w : Wd} (hw : MW S w) (hl : (gh w).length ≤ 10) (hb : rbd (gh w)) {v : Nat} (hv : v < 10) : wp (f_X7_isFree (nI v) S) (fun r => (r = 1 ∧ free (gh w) v) ∨ (r = 0 ∧ ¬ free (gh w) v)) := by
  unfold f_X7_isFree
  refine wp_bsm (up (F := fun n k (_ : Unit) => L_X7_isFree_2 (nI v) S n (nI k)) (gh w).length (fun k _ => ∀ i, i < k → gro (gh w) i v = 0) (fun z => (z = .inl 0 ∧ ¬ free (gh w) v) ∨ (z = .inr () ∧ free (gh w) v)) ?_ ?_ 400 0 () (by omega) (by omega) (fun i h => by omega)) ?_ ?_
  · intro n k _ hk hp ih
    rw [L_X7_isFree_2, hw.2.2.1.2.2.2]
    refine wp_ifp (nI_lt hk (by omega)) ?_
    rw [ten, nI_mul, nI_add]
    have hbk := hb k hk v hv
    refine wp_gd (inb_n (by omega) (by decide)) ?_
    rw [ix_n (by omega), (hw.2.2.2 k hk).2 v hv]
    refine wp_if (fun hc => ?_) (fun hc => ?_)
    · show wp (L_X7_isFree_2 (nI v) S n (nI k + 1)) _
      rw [nIs]
      refine ih () fun i hi => ?_
      by_cases e : i = k
      · rw [e]; exact (I_eq (b := 0) (by omega) (by omega)).mp hc
      · exact hp i (by omega)
    · exact wp_some (Or.inl ⟨rfl, fun h => hc (by rw [h k hk]; rfl)⟩)
  · intro n _ hp
    rw [L_X7_isFree_2, hw.2.2.1.2.2.2]
    exact wp_ifn (nI_nlt (Nat.le_refl _) (by omega)) (wp_some (Or.inr ⟨rfl, hp⟩))
  · intro r hr
    rcases hr with ⟨e, h⟩ | ⟨e, _⟩
    · cases e; exact wp_some (Or.inr ⟨rfl, h⟩)
    · cases e
  · intro r hr
    rcases hr with ⟨e, _⟩ | ⟨_, h⟩
    · cases e
    · exact wp_some (Or.inl ⟨rfl, h⟩)
theorem s_notFree {S : Sg} {w : Wd} (hw : MW S w) (hk : wok w) (hl : (gh w).length ≤ 10) : wp (f_X7_notFree S) (fun x => bitsAre x (fun v => v < 10 ∧ ¬ free (gh w) v)) := by
  have hb := rows_bdd hk
  have hn := hk.2.2.1
  unfold f_X7_notFree
  refine wp_bdm (up (F := fun n k (x : Int32) => L_X7_notFree_4 S n x (nI k)) (num w 0) (fun k x => bitsAre x (fun v => v < k ∧ ¬ free (gh w) v)) (fun x => bitsAre x (fun v => v < num w 0 ∧ ¬ free (gh w) v)) ?_ ?_ 400 0 0 (by omega) (by omega) (bits_to bits_0 fun i _ => ⟨fun h => h.elim, fun h => by omega⟩)) (fun x h => wp_some (bits_to h fun i _ => ⟨fun q => ⟨by omega, q.2⟩, fun q => ⟨?_, q.2⟩⟩))
  · intro n k x hk' hp ih
    rw [L_X7_notFree_4, hw.2.2.1.1]
    refine wp_ifp (nI_lt hk' (by omega)) (wp_bdm (s_isFreeM hw hl hb (by omega)) ?_)
    intro r hr
    rcases hr with ⟨rfl, h⟩ | ⟨rfl, h⟩
    · show wp (L_X7_notFree_4 S n (x ||| 0) (nI k + 1)) _
      rw [nIs, or_0]
      refine ih x (bits_to hp fun i _ => ?_)
      constructor
      · intro q; exact ⟨by omega, q.2⟩
      · intro q
        by_cases e : i = k
        · exact absurd (e ▸ h) q.2
        · exact ⟨by omega, q.2⟩
    · show wp (L_X7_notFree_4 S n (x ||| isl 1 (nI k)) (nI k + 1)) _
      rw [nIs]
      refine ih _ (bits_to (bits_or hp (by omega)) fun i _ => ?_)
      constructor
      · rintro (q | q)
        · exact ⟨by omega, q.2⟩
        · exact ⟨by omega, q ▸ h⟩
      · intro q
        by_cases e : i = k
        · exact Or.inr e
        · exact Or.inl ⟨by omega, q.2⟩
  · intro n x hp
    rw [L_X7_notFree_4, hw.2.2.1.1]
    exact wp_ifn (nI_nlt (Nat.le_refl _) (by omega)) (wp_some hp)
  · by_cases e : i < num w 0
    · exact e
    · exact absurd (fun j hj => (hk.2.2.2.2.2.2.2.2 j hj).2.1 i (by omega) q.1) q.2
theorem s_allValues {S : Sg} {w : Wd} (hw : MW S w) (hk : wok w) : f_X7_allValues S = some (I (sm 8 (fun p => dat w 0 (own w p)))) := by
  apply wp_to
  unfold f_X7_allValues
  refine wp_bdm (up (F := fun n k (x : Int32) => L_X7_allValues_4 S n x (nI k)) 8 (fun k x => x = I (sm k (fun p => dat w 0 (own w p)))) (fun x => x = I (sm 8 (fun p => dat w 0 (own w p)))) ?_ ?_ 400 0 0 (by omega) (by omega) rfl) (fun x h => wp_some h)
  · intro n k x hk8 hp ih
    rw [L_X7_allValues_4]
    refine wp_ifp (lt8 hk8) (wp_gd (inb_n hk8 (by omega)) ?_)
    rw [ix_n (by omega), hw.1 k hk8]
    refine wp_gd (inb_n (own10 hk hk8) (by omega)) ?_
    rw [ix_n (by have := own10 hk hk8; omega), (hw.2.1 _ (own10 hk hk8)).1]
    show wp (L_X7_allValues_4 S n (x + I _) (nI k + 1)) _
    rw [nIs]
    exact ih _ (by rw [hp, I_add]; rfl)
  · intro n x hp
    rw [L_X7_allValues_4]
    exact wp_ifn (nlt8 (Nat.le_refl _) (by omega)) (wp_some hp)
theorem wset_0 {w : Wd} {v : Nat} {x : Int} : dat (wset w v x) 0 v = x := (if_pos ⟨by omega, rfl⟩).trans (if_pos rfl)
theorem wset_1 {w : Wd} {v : Nat} {x : Int} : dat (wset w v x) 1 v = 0 := (if_pos ⟨by omega, rfl⟩).trans ((if_neg (by omega)).trans (if_pos rfl))
theorem wset_2 {w : Wd} {v : Nat} {x : Int} : dat (wset w v x) 2 v = 99 := (if_pos ⟨by omega, rfl⟩).trans ((if_neg (by omega)).trans (if_neg (by omega)))
theorem wset_n {w : Wd} {v j k : Nat} {x : Int} (h : k ≠ v) : dat (wset w v x) j k = dat w j k := if_neg fun q => h q.2
theorem wset_3 {w : Wd} {v k : Nat} {x : Int} : dat (wset w v x) 3 k = dat w 3 k := by
  show (if 3 < 3 ∧ k = v then (if 3 = 0 then x else if 3 = 1 then 0 else 99) else dat w 3 k) = _
  rw [if_neg (by omega)]
theorem MW_wset {S : Sg} {w : Wd} {v : Nat} {x : Int} (hw : MW S w) : MW (setI (setI (setI S 142 v (I x)) 143 v 0) 144 v 99) (wset w v x) := by
  obtain ⟨h1, h2, h3, h4⟩ := hw
  refine ⟨fun k hk => ?_, fun k hk => ?_, ?_, fun i hi => ?_⟩
  · rw [setI_n (by omega), setI_n (by omega), setI_n (by omega)]; exact h1 k hk
  · obtain ⟨e1, e2, e3⟩ := h2 k hk
    by_cases e : k = v
    · subst e
      rw [wset_0, wset_1, wset_2]
      exact ⟨by rw [setI_n (by omega), setI_n (by omega), setI_s], by rw [setI_n (by omega), setI_s]; rfl, setI_s⟩
    · rw [wset_n e, wset_n e, wset_n e]
      exact ⟨by rw [setI_n (by omega), setI_n (by omega), setI_n (by omega), e1], by rw [setI_n (by omega), setI_n (by omega), setI_n (by omega), e2], by rw [setI_n (by omega), setI_n (by omega), setI_n (by omega), e3]⟩
  · rw [setI_n (by omega), setI_n (by omega), setI_n (by omega), setI_n (by omega), setI_n (by omega), setI_n (by omega), setI_n (by omega), setI_n (by omega), setI_n (by omega), setI_n (by omega), setI_n (by omega), setI_n (by omega)]; exact h3
  · have := h4 i hi
    refine ⟨?_, fun v hv => ?_⟩
    · rw [setI_n (by omega), setI_n (by omega), setI_n (by omega), this.1]
      rw [wset_3]
    · rw [setI_n (by omega), setI_n (by omega), setI_n (by omega)]; exact this.2 v hv
theorem MW_wbnd {S : Sg} {w : Wd} {v : Nat} {x y : Int} (hw : MW S w) : MW (setI (setI S 143 v (I x)) 144 v (I y)) (wbnd w v x y) := by
  obtain ⟨h1, h2, h3, h4⟩ := hw
  refine ⟨fun k hk => ?_, fun k hk => ?_, ?_, fun i hi => ?_⟩
  · rw [setI_n (by omega), setI_n (by omega)]; exact h1 k hk
  · have := h2 k hk
    simp only [setI_1, wbnd] at this ⊢
    grind
  · rw [setI_n (by omega), setI_n (by omega), setI_n (by omega), setI_n (by omega), setI_n (by omega), setI_n (by omega), setI_n (by omega), setI_n (by omega)]; exact h3
  · have := h4 i hi
    refine ⟨?_, fun v hv => ?_⟩
    · rw [setI_n (by omega), setI_n (by omega), this.1]
      exact congrArg I (by simp only [wbnd]; grind)
    · rw [setI_n (by omega), setI_n (by omega)]; exact this.2 v hv
theorem MW_wown {S : Sg} {w : Wd} {p : Nat} (hw : MW S w) : MW (setI (setI S 145 p (nI (num w 0))) 140 7 (nI (num w 0 + 1))) (wown w p) := by
  obtain ⟨h1, h2, h3, h4⟩ := hw
  refine ⟨fun k hk => ?_, fun k hk => ?_, ?_, fun i hi => ?_⟩
  · rw [setI_n (by omega)]
    show _ = nI (if k = p then num w 0 else own w k)
    by_cases e : k = p
    · rw [e, if_pos rfl, setI_s]
    · rw [if_neg e, setI_n (by omega)]; exact h1 k hk
  · rw [setI_n (by omega), setI_n (by omega), setI_n (by omega), setI_n (by omega), setI_n (by omega), setI_n (by omega)]; exact h2 k hk
  · refine ⟨setI_s, ?_⟩
    rw [setI_n (by omega), setI_n (by omega), setI_n (by omega), setI_n (by omega), setI_n (by omega), setI_n (by omega)]; exact h3.2
  · have := h4 i hi
    refine ⟨?_, fun v hv => ?_⟩
    · rw [setI_n (by omega), setI_n (by omega)]; exact this.1
    · rw [setI_n (by omega), setI_n (by omega)]; exact this.2 v hv
theorem MW_wnum {S : Sg} {w : Wd} {j x : Nat} (hw : MW S w) (hj : j = 1 ∨ j = 2) : MW (setI S 140 (8 + j) (nI x)) (wnum w j x) := by
  obtain ⟨h1, h2, h3, h4⟩ := hw
  refine ⟨fun k hk => ?_, fun k hk => ?_, ?_, fun i hi => ?_⟩
  · rw [setI_n (by omega)]; exact h1 k hk
  · rw [setI_n (by omega), setI_n (by omega), setI_n (by omega)]; exact h2 k hk
  · rcases hj with rfl | rfl
    · exact ⟨by rw [setI_n (by omega)]; exact h3.1, setI_s, by rw [setI_n (by omega)]; exact h3.2.2.1, by rw [setI_n (by omega)]; exact h3.2.2.2⟩
    · exact ⟨by rw [setI_n (by omega)]; exact h3.1, by rw [setI_n (by omega)]; exact h3.2.1, setI_s, by rw [setI_n (by omega)]; exact h3.2.2.2⟩
  · have := h4 i hi
    refine ⟨?_, fun v hv => ?_⟩
    · rw [setI_n (by omega)]; exact this.1
    · rw [setI_n (by omega)]; exact this.2 v hv
theorem s_isTold {S : Sg} {w : Wd} {p : Nat} {x : Int} (hw : MW S w) (hp : p < 8) (ho : own w p < 10) : wp (f_X7_isTold (nI p) (I x) S) (fun S' => Fm mwI noJ S S' ∧ MW S' (wset w (own w p) x)) := by
  unfold f_X7_isTold
  have e : ∀ S : Sg, MW S w → S.1 145 p = nI (own w p) := fun S h => h.1 p hp
  rw [ix_n (by omega), e S hw]
  refine wp_gd (inb_n hp (by omega)) (wp_gd (inb_n ho (by omega)) (wp_lt ?_))
  rw [ix_n (by omega)]
  rw [show (setI S 142 (own w p) (I x)).1 145 p = nI (own w p) by rw [setI_n (by omega)]; exact e S hw]
  refine wp_gd (inb_n ho (by omega)) (wp_lt ?_)
  rw [ix_n (by omega)]
  rw [show (setI (setI S 142 (own w p) (I x)) 143 (own w p) 0).1 145 p = nI (own w p) by rw [setI_n (by omega), setI_n (by omega)]; exact e S hw]
  refine wp_gd (inb_n ho (by omega)) (wp_lt (wp_some ⟨?_, ?_⟩))
  · exact ((Fm.setI (Or.inl (by omega))).tr (Fm.setI (Or.inl (by omega)))).tr (Fm.setI (Or.inl (by omega)))
  · rw [ix_n (by omega)]
    exact MW_wset hw
theorem s_changesTo {S : Sg} {w : Wd} {p : Nat} {x : Int} (hw : MW S w) (hp : p < 8) (hn : num w 0 < 10) : wp (f_X7_changesTo (nI p) (I x) S) (fun S' => Fm mwI noJ S S' ∧ MW S' (wchg w p x)) := by
  unfold f_X7_changesTo
  rw [hw.2.2.1.1, ix_n (by omega)]
  refine wp_gd (inb_n hp (by omega)) (wp_lt ?_)
  rw [show (setI S 145 p (nI (num w 0))).1 140 7 = nI (num w 0) by rw [setI_n (by omega)]; exact hw.2.2.1.1, nIs]
  have h2 := MW_wown (p := p) hw
  refine wp_lt (wp_bdm (s_isTold (x := x) h2 hp (by show (if p = p then num w 0 else own w p) < 10; rw [if_pos rfl]; exact hn)) fun S' ⟨a, b⟩ => wp_some ⟨?_, ?_⟩)
  · exact ((Fm.setI (AI := mwI) (Or.inl (by omega))).tr (Fm.setI (Or.inr (by omega)))).tr a
  · rw [show own (wown w p) p = num w 0 from if_pos rfl] at b
    exact b
