/-! one sum after another -/
noncomputable def qq (w : Wd) (v : Nat) : Nat := Classical.epsilon (fun q => gok ((q, qrow w (wq 0 (nI v) 0)) :: gh w))
theorem gok_u {g : Gh} {a : Nat → Int} {q q' : Nat} (h : gok ((q, a) :: g)) (h' : gok ((q', a) :: g)) : q = q' := by
  rcases Nat.lt_trichotomy q q' with e | e | e
  · exact absurd (h'.2.2.2 q e) h.2.2.1
  · exact e
  · exact absurd (h.2.2.2 q' e) h'.2.2.1
theorem qq_of {w : Wd} {v q : Nat} (h : gok ((q, qrow w (wq 0 (nI v) 0)) :: gh w)) : q = qq w v :=
  gok_u h (Classical.epsilon_spec (p := fun q => gok ((q, qrow w (wq 0 (nI v) 0)) :: gh w)) ⟨q, h⟩)
/-- the world after a sum was asked -/
noncomputable def nw (w : Wd) (v : Nat) : Wd := if ms w v = 1 then wjoin w (qq w v) (qrow w (wq 0 (nI v) 0)) (tans w (wq 0 (nI v) 0)) else w
abbrev tsA : Nat → Prop := fun p => p = 131 ∨ inAll 44 p
theorem s_takeSum {S : Sg} {w : Wd} (hw : CW 44 S w) (hg : wgood w) (v : Nat) : wp (f_X6_takeSum 44 (nI v) S) (fun z => z.1 = ms w v ∧ Fr tsA S z.2 ∧ CW 44 z.2 (nw w v) ∧ wgood (nw w v)) := by
  unfold f_X6_takeSum
  refine wp_bdm (s_make (oq := 130) (a := nI v) (b := 0) qv0) fun S1 ⟨f1, q1⟩ => ?_
  have c1 : CW 44 S1 w := hw.fr f1 (fun p hp => by have : 44 ≤ p ∧ p < 44 + 29 := hp; show ¬ (p = 130 + 1); omega) (wg_l10 hg)
  refine wp_bdm (s_takeQuestion c1 hg.1 hg.2.1 q1 (wq_ok qv0) (by omega)) ?_
  rintro ⟨m, T⟩ ⟨hm, f2, hd⟩
  have em : m = ms w v := mt_of hm
  have f : Fr tsA S T := (f1.mono fun p hp => Or.inl hp).tr (f2.mono fun p hp => Or.inr hp)
  refine wp_u2 (wp_some ⟨em, f, ?_⟩)
  show CW 44 T (nw w v) ∧ wgood (nw w v)
  unfold nw
  rcases hd with ⟨h, c⟩ | ⟨h, q, gk, c⟩
  · have h' : ¬ ms w v = 1 := fun e => h (em.trans e)
    rw [if_neg h']; exact ⟨c, hg⟩
  · have h' : m = 1 := h
    rw [if_pos (em.symm.trans h')]
    have e := qq_of gk
    subst h'
    rw [← e]
    exact ⟨c, wg_join hg (wq_ok qv0) gk (Meet_1 hm).2⟩
abbrev tsI : Nat → Nat → Prop := fun o k => asI o k ∨ iaI o k
theorem ts_mm : ∀ o k, tsI o k → mmI o k := fun o k h => by
  rcases h with h | h | h
  · exact Or.inl (as_m o k h)
  · exact Or.inl (ls_m o k h)
  · exact jo_mm o k h
theorem ts_o : ∀ o k, tsI o k → (o = 140 ∧ (k = 12 ∨ k = 18 ∨ k = 19 ∨ k = 8)) ∨ o = 148 ∨ o = 152 ∨ o = 153 ∨ o = 146 ∨ o = 147 := fun o k h => by
  rcases h with h | h | h
  · have : o = 148 ∨ (o = 140 ∧ k = 12) := h; omega
  · have : o = 152 ∨ o = 153 ∨ (o = 140 ∧ (k = 18 ∨ k = 19)) := h; omega
  · have : o = 146 ∨ o = 147 ∨ (o = 140 ∧ k = 8) := h; omega
theorem s_asksSum {S : Sg} {w : Wd} (hw : MW S w) (hg : wgood w) (v : Nat) : wp (f_X7_asksSum (nI v) S) (fun z => z.1 = ms w v ∧ Fm tsI lsJ S z.2 ∧ MW z.2 (nw w v)) := by
  unfold f_X7_asksSum
  refine wp_bdm (s_asks (a := nI v) (b := 0) hw (fun k hk' => own10 hg.1 hk') qv0) fun S1 ⟨f1, a1⟩ => ?_
  have m1 : MW S1 w := hw.fm f1 (fun o k q n => (as_m o k n).2.1 q)
  refine wp_bdm (s_isAsked m1 hg.1 hg.2.1 a1 (wq_ok qv0)) ?_
  rintro ⟨m, T⟩ ⟨hm, f2, hd⟩
  have em : m = ms w v := mt_of hm
  refine wp_u2 (wp_some ⟨em, (f1.mono (fun o k q => Or.inl q) fun _ _ q => q.elim).tr (f2.mono (fun o k q => Or.inr q) fun _ _ q => q), ?_⟩)
  show MW T (nw w v)
  unfold nw
  rcases hd with ⟨h, c⟩ | ⟨h, c⟩
  · have h' : ¬ ms w v = 1 := fun e => h (em.trans e)
    rw [if_neg h']; exact c
  · have h' : m = 1 := h
    rw [if_pos (em.symm.trans h')]; exact c _
theorem ts_c : ∀ o, tsA o → csc o := fun o h => by
  have : o = 131 ∨ (44 ≤ o ∧ o < 44 + 43) := h
  show (30 ≤ o ∧ o < 87) ∨ (116 ≤ o ∧ o < 135); omega
theorem cp_c : ∀ o, inWd 44 o → csc o := fun o h => by
  have : 44 ≤ o ∧ o < 44 + 29 := h
  show (30 ≤ o ∧ o < 87) ∨ (116 ≤ o ∧ o < 135); omega
/-- how many of three join -/
noncomputable def one (w : Wd) (v : Nat) : Nat := if ms w v = 1 then 1 else 0
noncomputable def jt (w : Wd) (a b c : Nat) : Nat := one w a + one (nw w a) b + one (nw (nw w a) b) c
theorem one_I (w : Wd) (v : Nat) : (if ms w v = 1 then (1 : Int32) else 0) = nI (one w v) := by
  unfold one
  by_cases h : ms w v = 1
  · rw [if_pos h, if_pos h]; rfl
  · rw [if_neg h, if_neg h]; rfl
theorem asNum (x : Nat) (h : x = 0 ∨ x = 1) : f_X6_asNumber (nI x) = nI x := by
  rcases h with rfl | rfl <;> decide
theorem one_01 (w : Wd) (v : Nat) : one w v = 0 ∨ one w v = 1 := by
  unfold one
  by_cases h : ms w v = 1
  · rw [if_pos h]; exact Or.inr rfl
  · rw [if_neg h]; exact Or.inl rfl
theorem s_jit {S : Sg} {w : Wd} (hw : CW 1 S w) (hg : wgood w) (a b c : Nat) : wp (f_X6_joinedInTurn (nI a) (nI b) (nI c) S) (fun z => z.1 = nI (jt w a b c) ∧ Fr csc S z.2) := by
  unfold f_X6_joinedInTurn
  refine wp_bdm (s_wcopy (o := 44) hw (wg_l10 hg) (by omega)) fun S1 ⟨f1, c1⟩ => ?_
  refine wp_bdm (s_takeSum c1 hg a) ?_
  rintro ⟨m2, S2⟩ ⟨e2, f2, c2, g2⟩
  have e2' : m2 = ms w a := e2
  subst e2'
  refine wp_u2 (wp_ltq _ (one_I w a) (wp_bdm (s_takeSum c2 g2 b) ?_))
  rintro ⟨m3, S3⟩ ⟨e3, f3, c3, g3⟩
  have e3' : m3 = ms (nw w a) b := e3
  subst e3'
  refine wp_u2 (wp_ltq _ (one_I (nw w a) b) (wp_bdm (s_takeSum c3 g3 c) ?_))
  rintro ⟨m4, S4⟩ ⟨e4, f4, c4, g4⟩
  have e4' : m4 = ms (nw (nw w a) b) c := e4
  subst e4'
  refine wp_u2 (wp_ltq _ (one_I (nw (nw w a) b) c) (wp_some ⟨?_, (((f1.mono cp_c).tr (f2.mono ts_c)).tr (f3.mono ts_c)).tr (f4.mono ts_c)⟩))
  show f_X6_asNumber (nI (one w a)) + f_X6_asNumber (nI (one (nw w a) b)) + f_X6_asNumber (nI (one (nw (nw w a) b) c)) = _
  rw [asNum _ (one_01 _ _), asNum _ (one_01 _ _), asNum _ (one_01 _ _), nI_add, nI_add]
  rfl
/-- gains -/
noncomputable def gn (w : Wd) (v : Nat) : Int32 := if ms w v = 1 then 3 else if ms w v = 0 then 1 else -1
theorem gn_3 (w : Wd) (v : Nat) : gn w v = 3 ∨ gn w v = 1 ∨ gn w v = -1 := by
  unfold gn
  by_cases h : ms w v = 1
  · rw [if_pos h]; exact Or.inl rfl
  · rw [if_neg h]
    by_cases h2 : ms w v = 0
    · rw [if_pos h2]; exact Or.inr (Or.inl rfl)
    · rw [if_neg h2]; exact Or.inr (Or.inr rfl)
theorem s_getsFor {S : Sg} {w : Wd} (hw : MW S w) (hg : wgood w) (v : Nat) : wp (f_X7_getsFor (nI v) S) (fun z => z.1 = gn w v ∧ Fm tsI lsJ S z.2 ∧ MW z.2 (nw w v)) := by
  unfold f_X7_getsFor
  refine wp_bdm (s_asksSum hw hg v) ?_
  rintro ⟨m, T⟩ ⟨e, f, h⟩
  have e' : m = ms w v := e
  subst e'
  exact wp_u2 (wp_lt (wp_some ⟨rfl, f, h⟩))
