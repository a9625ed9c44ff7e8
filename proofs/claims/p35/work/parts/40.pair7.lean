/-! sums: what each sum finds -/
noncomputable def mt (w : Wd) (wt : Nat → Int) : Int32 := @ite _ (zer (gh w) (qrow w wt)) (Classical.propDecidable _) 0 (@ite _ (fixes (gh w) (qrow w wt) ∨ forb (gh w) (qrow w wt) (szOf wt 8) (num w 1) (num w 2)) (Classical.propDecidable _) 2 1)
theorem mt_of {w : Wd} {wt : Nat → Int} {m : Int32} (h : Meet (gh w) (qrow w wt) (szOf wt 8) (num w 1) (num w 2) m) : m = mt w wt := by
  unfold mt
  rcases h with ⟨rfl, h⟩ | ⟨rfl, h, h2⟩ | ⟨rfl, h, h2, h3⟩
  · rw [if_pos h]
  · rw [if_neg h, if_pos h2]
  · rw [if_neg h, if_neg (fun q => q.elim h2 h3)]
noncomputable abbrev ms (w : Wd) (v : Nat) : Int32 := mt w (wq 0 (nI v) 0)
theorem qv0 {b : Int32} : qv 0 b := Or.inl rfl
abbrev mosA (o : Nat) : Nat → Prop := fun p => p = 131 ∨ inScr o p
theorem s_mos {o : Nat} {S : Sg} {w : Wd} (hw : CW o S w) (hg : wgood w) (ho : o + 43 ≤ 130) (v : Nat) : wp (f_X6_meetingOfSum o (nI v) S) (fun z => z.1 = ms w v ∧ Fr (mosA o) S z.2) := by
  obtain ⟨S1, e1, f1, q1⟩ := s_make (oq := 130) (S := S) (a := nI v) (b := 0) qv0
  have c1 : CW o S1 w := hw.fr f1 (fun p hp => by have : o ≤ p ∧ p < o + 29 := hp; show ¬ (p = 130 + 1); omega) (wg_l10 hg)
  unfold f_X6_meetingOfSum
  refine wp_bds e1 ?_
  rw [c1.2.2.1.2.1, c1.2.2.1.2.2.1]
  refine wp_bdm (s_meetingBy c1 hg.1 hg.2.1 q1 (wq_ok qv0) (by omega) hg.1.2.2.2.1 hg.1.2.2.2.2.1) ?_
  rintro ⟨m, T⟩ ⟨hm, f2⟩
  exact wp_u2 (wp_some ⟨mt_of hm, (f1.mono fun p hp => Or.inl hp).tr (f2.mono fun p hp => Or.inr hp)⟩)
theorem mos_w {o : Nat} {S S' : Sg} {w : Wd} (hw : CW o S w) (hg : wgood w) (ho : o + 43 ≤ 130) (f : Fr (mosA o) S S') : CW o S' w :=
  hw.fr f (fun p hp => by have : o ≤ p ∧ p < o + 29 := hp; show ¬ (p = 131 ∨ (o + 29 ≤ p ∧ p < o + 43)); omega) (wg_l10 hg)
theorem lt256 {v : Nat} (h : v ≤ 255) : ¬ (255 : Int32) < nI v := nI_nlt (a := 255) h (by omega)
theorem gt255 : (255 : Int32) < nI 256 := nI_lt (a := 255) (by decide) (by decide)
/-- how many sums find m -/
noncomputable def cm (w : Wd) (m : Int32) : Nat → Nat
  | 0 => 0
  | n + 1 => if ms w (n + 1) = m then cm w m n + 1 else cm w m n
theorem s_howMany {S : Sg} {w : Wd} (hw : CW 1 S w) (hg : wgood w) (c : Int32) : wp (f_X6_howMany c S) (fun z => z.1 = nI (cm w c 255) ∧ Fr (mosA 1) S z.2) := by
  unfold f_X6_howMany
  refine wp_bdm (up (F := fun n k (z : Int32 × Sg) => L_X6_howMany_4 c n z.1 (nI k) z.2) 256 (fun k z => 1 ≤ k ∧ z.1 = nI (cm w c (k - 1)) ∧ Fr (mosA 1) S z.2) (fun z => z.1 = nI (cm w c 255) ∧ Fr (mosA 1) S z.2) ?_ ?_ 400 1 (0, S) (by omega) (by omega) ⟨by omega, rfl, Fr.rf⟩) (fun z h => wp_some h)
  · rintro n k ⟨x, T⟩ hk ⟨h1, h2, f⟩ ih
    show wp (L_X6_howMany_4 c (n + 1) x (nI k) T) _
    have h2' : x = nI (cm w c (k - 1)) := h2
    rw [L_X6_howMany_4]
    refine wp_ifn (lt256 (by omega)) (wp_bdm (s_mos (mos_w hw hg (by omega) f) hg (by omega) k) ?_)
    rintro ⟨m, U⟩ ⟨hm, f2⟩
    have hm' : m = ms w k := hm
    obtain ⟨l, rfl⟩ : ∃ l, k = l + 1 := ⟨k - 1, by omega⟩
    refine wp_u2 ?_
    show wp (L_X6_howMany_4 c n (if m = c then x + 1 else x) (nI (l + 1) + 1) U) _
    rw [nIs]
    refine ih (_, U) ⟨by omega, ?_, f.tr f2⟩
    show (if m = c then x + 1 else x) = nI (if ms w (l + 1) = c then cm w c l + 1 else cm w c l)
    rw [hm', h2']
    by_cases q : ms w (l + 1) = c
    · rw [if_pos q, if_pos q]; exact nIs _
    · rw [if_neg q, if_neg q]; rfl
  · rintro n ⟨x, T⟩ ⟨_, h2, f⟩
    show wp (L_X6_howMany_4 c (n + 1) x (nI 256) T) _
    rw [L_X6_howMany_4]
    exact wp_ifp gt255 (wp_some ⟨h2, f⟩)
