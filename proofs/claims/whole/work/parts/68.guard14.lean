/-! what the reference makes of one statement -/
abbrev cmI : Nat → Nat → Prop := fun o k => (142 ≤ o ∧ o ≤ 153) ∨ (o = 140 ∧ (k = 7 ∨ k = 8 ∨ k = 9 ∨ k = 10 ∨ k = 12 ∨ k = 18 ∨ k = 19))
theorem mw_cm : ∀ o k, mwI o k → cmI o k := fun o k h => by
  have : (142 ≤ o ∧ o ≤ 147) ∨ (o = 140 ∧ 7 ≤ k ∧ k ≤ 10) := h
  show _ ∨ _; omega
theorem as_cm : ∀ o k, asI o k → cmI o k := fun o k h => by have : o = 148 ∨ (o = 140 ∧ k = 12) := h; show _ ∨ _; omega
theorem ia_cm : ∀ o k, iaI o k → cmI o k := fun o k h => by
  rcases h with h | h
  · have : o = 152 ∨ o = 153 ∨ (o = 140 ∧ (k = 18 ∨ k = 19)) := h
    show _ ∨ _; omega
  · have : o = 146 ∨ o = 147 ∨ (o = 140 ∧ k = 8) := h
    show _ ∨ _; omega
def OneM (S : Sg) (o : Option Wd) (z : Int32 × Sg) : Prop := z.1 = on o ∧ (∀ w', o = some w' → MW z.2 w') ∧ Fm cmI lsJ S z.2
theorem OneM_0 {S : Sg} : OneM S none (0, S) := ⟨rfl, fun w' z => (by cases z), Fm.rf⟩
theorem OneM_1 {S T : Sg} {w' : Wd} (h : MW T w') (f : Fm mwI noJ S T) : OneM S (some w') (1, T) := ⟨rfl, fun w2 z => (by cases z; exact h), f.mono mw_cm fun _ _ q => q.elim⟩
theorem isW_n {v n : Nat} (hv : v < 2 ^ 31) (hn : n < 2 ^ 31) : f_X6_isWithin (nI v) (nI n) = if v < n then 1 else 0 := by
  by_cases h : v < n
  · rw [if_pos h]; exact isW_lit h hn
  · rw [if_neg h]
    rcases isW_cases (nI v) hn with ⟨j, hj, e, _⟩ | ⟨_, e⟩
    · have := (nI_eq hv (by omega)).mp e; omega
    · exact e
theorem nu_98 {l : Nat → Nat} {a : Nat} {w : Wd} {o : Option Wd} (e : l a = 98) (h : Out l a w o) : ((nums l a 0 < num w 0 ∧ (nums l a 1 : Int) ≤ dat w 0 (nums l a 0) ∧ dat w 0 (nums l a 0) ≤ (nums l a 2 : Int)) ∧ o = some (wbnd w (nums l a 0) (nums l a 1) (nums l a 2))) ∨ (¬ (nums l a 0 < num w 0 ∧ (nums l a 1 : Int) ≤ dat w 0 (nums l a 0) ∧ dat w 0 (nums l a 0) ≤ (nums l a 2 : Int)) ∧ o = none) := by
  rcases h with h | h | h | h | h | h | h
  · exact h.2
  all_goals (exfalso; omega)
theorem nu_99 {l : Nat → Nat} {a : Nat} {w : Wd} {o : Option Wd} (e : l a = 99) (h : Out l a w o) : ((nums l a 0 < 8 ∧ num w 0 < 10) ∧ o = some (wchg w (nums l a 0) (nums l a 1))) ∨ (¬ (nums l a 0 < 8 ∧ num w 0 < 10) ∧ o = none) := by
  rcases h with h | h | h | h | h | h | h
  · exfalso; omega
  · exact h.2
  all_goals (exfalso; omega)
theorem nu_108 {l : Nat → Nat} {a : Nat} {w : Wd} {o : Option Wd} (e : l a = 108) (h : Out l a w o) : (nums l a 0 ≤ 10 ∧ o = some (wnum w 2 (nums l a 0))) ∨ (¬ nums l a 0 ≤ 10 ∧ o = none) := by
  rcases h with h | h | h | h | h | h | h
  · exfalso; omega
  · exfalso; omega
  · exact h.2
  all_goals (exfalso; omega)
theorem nu_114 {l : Nat → Nat} {a : Nat} {w : Wd} {o : Option Wd} (e : l a = 114) (h : Out l a w o) : (nums l a 0 < 4 ∧ o = some (wnum w 1 (nums l a 0))) ∨ (¬ nums l a 0 < 4 ∧ o = none) := by
  rcases h with h | h | h | h | h | h | h
  · exfalso; omega
  · exfalso; omega
  · exfalso; omega
  · exact h.2
  all_goals (exfalso; omega)
theorem nu_118 {l : Nat → Nat} {a : Nat} {w : Wd} {o : Option Wd} (e : l a = 118) (h : Out l a w o) : ((nums l a 0 < 8 ∧ free (gh w) (own w (nums l a 0))) ∧ o = some (wset w (own w (nums l a 0)) (nums l a 1))) ∨ (¬ (nums l a 0 < 8 ∧ free (gh w) (own w (nums l a 0))) ∧ o = none) := by
  rcases h with h | h | h | h | h | h | h
  · exfalso; omega
  · exfalso; omega
  · exfalso; omega
  · exfalso; omega
  · exact h.2
  all_goals (exfalso; omega)
theorem nu_sw {l : Nat → Nat} {a : Nat} {w : Wd} {o : Option Wd} (e : l a = 115 ∨ l a = 119) (h : Out l a w o) : OutQ (kd (l a)) (qa l a) (qb l a) w o := by
  rcases h with h | h | h | h | h | h | h
  · exfalso; omega
  · exfalso; omega
  · exfalso; omega
  · exfalso; omega
  · exfalso; omega
  · exact h.2
  · exfalso; omega
theorem nu_d {l : Nat → Nat} {a : Nat} {w : Wd} {o : Option Wd} (e : l a = 100) (h : Out l a w o) : ((∃ k, k < 8 ∧ 2 < dg l a k) ∧ o = none) ∨ ((∀ k, k < 8 → dg l a k ≤ 2) ∧ OutQ 1 (qa l a) (qb l a) w o) := by
  rcases h with h | h | h | h | h | h | h
  · exfalso; omega
  · exfalso; omega
  · exfalso; omega
  · exfalso; omega
  · exfalso; omega
  · exfalso; omega
  · exact h.2
/-- the numbers of a statement are small -/
theorem nums_99 {L : Nat × (Nat → Nat)} {a k : Nat} (hd : Sd L a) (hk : k < cnt (L.2 a)) : nums L.2 a k ≤ 99 := by
  have one : ∀ k, k < dgb (L.2 a) → vl L.2 (a + 1 + k) 1 ≤ 99 := fun k hk => by have := hd.2.2 k hk; rw [vl_1]; omega
  rcases dgb_known hd.2.1 with e | e | e | e | e | e | e | e <;> rw [e] at hk
  · have hk' : k < 3 := hk
    rw [show nums L.2 a k = vl L.2 (a + 1 + 2 * k) 2 from if_pos e]
    exact Sd_99 hd (by rw [e]; show 2 * k + 1 < 6; omega)
  · have hk' : k < 2 := hk
    rw [show nums L.2 a k = _ from (if_neg (by omega)).trans (if_pos (Or.inl e))]
    by_cases z : k = 0
    · rw [if_pos z]; exact one 0 (by rw [e]; decide)
    · rw [if_neg z]; exact Sd_99 hd (k := 1) (by rw [e]; decide)
  · rw [show nums L.2 a k = _ from (if_neg (by omega)).trans ((if_neg (by omega)).trans (if_neg (by omega)))]
    exact one k (by rw [e]; exact hk)
  · have hk' : k < 1 := hk
    rw [show nums L.2 a k = _ from (if_neg (by omega)).trans ((if_neg (by omega)).trans (if_pos e))]
    exact Sd_99 hd (k := 0) (by rw [e]; decide)
  · rw [show nums L.2 a k = _ from (if_neg (by omega)).trans ((if_neg (by omega)).trans (if_neg (by omega)))]
    exact one k (by rw [e]; exact hk)
  · rw [show nums L.2 a k = _ from (if_neg (by omega)).trans ((if_neg (by omega)).trans (if_neg (by omega)))]
    exact one k (by rw [e]; exact hk)
  · have hk' : k < 2 := hk
    rw [show nums L.2 a k = _ from (if_neg (by omega)).trans (if_pos (Or.inr e))]
    by_cases z : k = 0
    · rw [if_pos z]; exact one 0 (by rw [e]; decide)
    · rw [if_neg z]; exact Sd_99 hd (k := 1) (by rw [e]; decide)
  · rw [show nums L.2 a k = _ from (if_neg (by omega)).trans ((if_neg (by omega)).trans (if_neg (by omega)))]
    exact one k (by rw [e]; exact hk)
theorem m_bnd {S : Sg} {w : Wd} {v x y : Nat} {o : Option Wd} (hg : wgood w) (hw : MW S w) (hv : v ≤ 99) (hx : x ≤ 99) (hy : y ≤ 99) (h : ((v < num w 0 ∧ (x : Int) ≤ dat w 0 v ∧ dat w 0 v ≤ (y : Int)) ∧ o = some (wbnd w v x y)) ∨ (¬ (v < num w 0 ∧ (x : Int) ≤ dat w 0 v ∧ dat w 0 v ≤ (y : Int)) ∧ o = none)) : wp (f_X7_comesBounds (nI v) (nI x) (nI y) S) (OneM S o) := by
  have hk := hg.1
  have hn := hk.2.2.1
  unfold f_X7_comesBounds
  rw [in_w hw hk, isW_n (by omega) (by omega)]
  by_cases q : v < num w 0
  · rw [if_pos q]
    have hd := hk.2.2.2.2.2.1 v (by omega)
    refine wp_ifn (by decide) (wp_gd (inb_n (by omega) (by decide)) ?_)
    rw [ix_n (by omega), (hw.2.1 v (by omega)).1]
    obtain ⟨d, hd'⟩ := Int.eq_ofNat_of_zero_le (show 0 ≤ dat w 0 v by omega)
    rw [hd'] at h ⊢
    rw [show f_X7_isIn (I (d : Int)) (nI x) (nI y) = if x ≤ d ∧ d ≤ y then 1 else 0 from isIn_lit (by omega) (by omega) (by omega)]
    rcases h with ⟨h, rfl⟩ | ⟨h, rfl⟩
    · rw [if_pos (show x ≤ d ∧ d ≤ y by omega)]
      have f : Fm mwI noJ S (setI (setI S 143 v (nI x)) 144 v (nI y)) := (Fm.setI (AI := mwI) (Or.inl (by omega))).tr (Fm.setI (Or.inl (by omega)))
      exact wp_ifn (by decide) (wp_lt (wp_lt (wp_some (OneM_1 (MW_wbnd hw) f))))
    · rw [if_neg (show ¬ (x ≤ d ∧ d ≤ y) by omega)]
      exact wp_ifp rfl (wp_some OneM_0)
  · rw [if_neg q]
    rcases h with ⟨h, rfl⟩ | ⟨h, rfl⟩
    · exact absurd h.1 q
    · exact wp_ifp rfl (wp_some OneM_0)
theorem m_chg {S : Sg} {w : Wd} {p x : Nat} {o : Option Wd} (hg : wgood w) (hw : MW S w) (hp : p ≤ 99) (h : ((p < 8 ∧ num w 0 < 10) ∧ o = some (wchg w p x)) ∨ (¬ (p < 8 ∧ num w 0 < 10) ∧ o = none)) : wp (f_X7_comesChange (nI p) (nI x) S) (OneM S o) := by
  have hn := hg.1.2.2.1
  unfold f_X7_comesChange
  rw [per_w, show f_X6_isWithin (nI p) (8 : Int32) = if p < 8 then 1 else 0 from isW_n (n := 8) (by omega) (by decide)]
  by_cases q : p < 8
  · rw [if_pos q]
    refine wp_ifn (by decide) ?_
    rw [hw.2.2.1.1]
    by_cases q2 : num w 0 = 10
    · rcases h with ⟨h, rfl⟩ | ⟨h, rfl⟩
      · omega
      · exact wp_ifp (by rw [q2]; rfl) (wp_some OneM_0)
    · rcases h with ⟨h, rfl⟩ | ⟨h, rfl⟩
      · refine wp_ifn (fun z => q2 ((nI_eq (b := 10) (by omega) (by omega)).mp z)) (wp_bdm (s_changesTo (x := (x : Int)) hw h.1 h.2) fun T ⟨a, b⟩ => wp_some (OneM_1 b a))
      · omega
  · rw [if_neg q]
    rcases h with ⟨h, rfl⟩ | ⟨h, rfl⟩
    · exact absurd h.1 q
    · exact wp_ifp rfl (wp_some OneM_0)
theorem m_told {S : Sg} {w : Wd} {p x : Nat} {o : Option Wd} (hg : wgood w) (hw : MW S w) (hp : p ≤ 99) (h : ((p < 8 ∧ free (gh w) (own w p)) ∧ o = some (wset w (own w p) x)) ∨ (¬ (p < 8 ∧ free (gh w) (own w p)) ∧ o = none)) : wp (f_X7_comesTold (nI p) (nI x) S) (OneM S o) := by
  have hk := hg.1
  unfold f_X7_comesTold
  rw [per_w, show f_X6_isWithin (nI p) (8 : Int32) = if p < 8 then 1 else 0 from isW_n (n := 8) (by omega) (by decide)]
  by_cases q : p < 8
  · rw [if_pos q]
    have o10 := own10 hk q
    refine wp_ifn (by decide) (wp_gd (inb_n q (by decide)) ?_)
    rw [ix_n (by omega), hw.1 p q]
    refine wp_bdm (s_isFreeM hw (wg_l10 hg) (rows_bdd hk) o10) ?_
    rintro r (⟨rfl, hf⟩ | ⟨rfl, hf⟩)
    · rcases h with ⟨h, rfl⟩ | ⟨h, rfl⟩
      · exact wp_ifn (by decide) (wp_bdm (s_isTold (x := (x : Int)) hw q o10) fun T ⟨a, b⟩ => wp_some (OneM_1 b a))
      · exact absurd ⟨q, hf⟩ h
    · rcases h with ⟨h, rfl⟩ | ⟨h, rfl⟩
      · exact absurd h.2 hf
      · exact wp_ifp rfl (wp_some OneM_0)
  · rw [if_neg q]
    rcases h with ⟨h, rfl⟩ | ⟨h, rfl⟩
    · exact absurd h.1 q
    · exact wp_ifp rfl (wp_some OneM_0)
theorem m_lim {S : Sg} {w : Wd} {x : Nat} {o : Option Wd} (hw : MW S w) (hx : x ≤ 99) (h : (x ≤ 10 ∧ o = some (wnum w 2 x)) ∨ (¬ x ≤ 10 ∧ o = none)) : wp (f_X7_comesRule (nI 108) (nI x) S) (OneM S o) := by
  unfold f_X7_comesRule
  refine wp_ltq 10 (if_neg (by decide)) ?_
  rcases h with ⟨h, rfl⟩ | ⟨h, rfl⟩
  · have f : Fm mwI noJ S (setI S 140 10 (nI x)) := Fm.setI (Or.inr (by omega))
    exact wp_ifn (nI_nlt (a := 10) h (by omega)) (wp_ifn (by decide) (wp_lt (wp_some (OneM_1 (MW_wnum hw (Or.inr rfl)) f))))
  · exact wp_ifp (nI_lt (a := 10) (by omega) (by omega)) (wp_some OneM_0)
theorem m_rul {S : Sg} {w : Wd} {x : Nat} {o : Option Wd} (hw : MW S w) (hx : x ≤ 99) (h : (x < 4 ∧ o = some (wnum w 1 x)) ∨ (¬ x < 4 ∧ o = none)) : wp (f_X7_comesRule (nI 114) (nI x) S) (OneM S o) := by
  unfold f_X7_comesRule
  refine wp_ltq 3 (if_pos (by decide)) ?_
  rcases h with ⟨h, rfl⟩ | ⟨h, rfl⟩
  · have f : Fm mwI noJ S (setI S 140 9 (nI x)) := Fm.setI (Or.inr (by omega))
    exact wp_ifn (nI_nlt (a := 3) (by omega) (by omega)) (wp_ifp (by decide) (wp_lt (wp_some (OneM_1 (MW_wnum hw (Or.inl rfl)) f))))
  · exact wp_ifp (nI_lt (a := 3) (by omega) (by omega)) (wp_some OneM_0)
