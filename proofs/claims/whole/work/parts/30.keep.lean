/-! the reference's live world as a row of 152, kept and put back -/
def lo (j : Nat) : Nat × Nat := if j < 10 then (142, j) else if j < 20 then (143, j - 10) else if j < 30 then (144, j - 20) else if j < 38 then (145, j - 30) else if j < 138 then (146, j - 38) else if j < 148 then (147, j - 138) else (140, j - 141)
abbrev lvv (S : Sg) (j : Nat) : Int32 := S.1 (lo j).1 (lo j).2
theorem lo_mw {j : Nat} (h : j < 152) : mwI (lo j).1 (lo j).2 := by
  unfold lo
  by_cases h1 : j < 10
  · rw [if_pos h1]; exact Or.inl ⟨by show 142 ≤ 142; omega, by show 142 ≤ 147; omega⟩
  rw [if_neg h1]
  by_cases h2 : j < 20
  · rw [if_pos h2]; exact Or.inl ⟨by show 142 ≤ 143; omega, by show 143 ≤ 147; omega⟩
  rw [if_neg h2]
  by_cases h3 : j < 30
  · rw [if_pos h3]; exact Or.inl ⟨by show 142 ≤ 144; omega, by show 144 ≤ 147; omega⟩
  rw [if_neg h3]
  by_cases h4 : j < 38
  · rw [if_pos h4]; exact Or.inl ⟨by show 142 ≤ 145; omega, by show 145 ≤ 147; omega⟩
  rw [if_neg h4]
  by_cases h5 : j < 138
  · rw [if_pos h5]; exact Or.inl ⟨by show 142 ≤ 146; omega, by show 146 ≤ 147; omega⟩
  rw [if_neg h5]
  by_cases h6 : j < 148
  · rw [if_pos h6]; exact Or.inl ⟨by show 142 ≤ 147; omega, by show 147 ≤ 147; omega⟩
  rw [if_neg h6]
  exact Or.inr ⟨rfl, by show 7 ≤ j - 141; omega, by show j - 141 ≤ 10; omega⟩
theorem lo_0 {k : Nat} (h : k < 10) : lo (0 + k) = (142, k) := by unfold lo; rw [if_pos (by omega), Nat.zero_add]
theorem lo_1 {k : Nat} (h : k < 10) : lo (10 + k) = (143, k) := by unfold lo; rw [if_neg (by omega), if_pos (by omega), Nat.add_sub_cancel_left]
theorem lo_2 {k : Nat} (h : k < 10) : lo (20 + k) = (144, k) := by unfold lo; rw [if_neg (by omega), if_neg (by omega), if_pos (by omega), Nat.add_sub_cancel_left]
theorem lo_3 {k : Nat} (h : k < 8) : lo (30 + k) = (145, k) := by unfold lo; rw [if_neg (by omega), if_neg (by omega), if_neg (by omega), if_pos (by omega), Nat.add_sub_cancel_left]
theorem lo_4 {k : Nat} (h : k < 100) : lo (38 + k) = (146, k) := by unfold lo; rw [if_neg (by omega), if_neg (by omega), if_neg (by omega), if_neg (by omega), if_pos (by omega), Nat.add_sub_cancel_left]
theorem lo_5 {k : Nat} (h : k < 10) : lo (138 + k) = (147, k) := by unfold lo; rw [if_neg (by omega), if_neg (by omega), if_neg (by omega), if_neg (by omega), if_neg (by omega), if_pos (by omega), Nat.add_sub_cancel_left]
theorem lo_inj : ∀ i, i < 152 → ∀ j, j < 152 → lo i = lo j → i = j := by
  intro i hi j hj h
  unfold lo at h
  by_cases a1 : i < 10 <;> by_cases b1 : j < 10 <;> by_cases a2 : i < 20 <;> by_cases b2 : j < 20 <;> by_cases a3 : i < 30 <;> by_cases b3 : j < 30 <;> by_cases a4 : i < 38 <;> by_cases b4 : j < 38 <;> by_cases a5 : i < 138 <;> by_cases b5 : j < 138 <;> by_cases a6 : i < 148 <;> by_cases b6 : j < 148 <;> (first | omega | (simp only [a1, b1, a2, b2, a3, b3, a4, b4, a5, b5, a6, b6, if_true, if_false, Prod.mk.injEq] at h; omega))
/-- a world in a row of 152 -/
def LW (f : Nat → Int32) (w : Wd) : Prop := (∀ k, k < 10 → f (0 + k) = I (dat w 0 k) ∧ f (10 + k) = I (dat w 1 k) ∧ f (20 + k) = I (dat w 2 k)) ∧ (∀ k, k < 8 → f (30 + k) = nI (own w k)) ∧ (∀ i, i < (gh w).length → f (138 + i) = I (dat w 3 i) ∧ ∀ v, v < 10 → f (38 + (10 * i + v)) = I (gro (gh w) i v)) ∧ f 148 = nI (num w 0) ∧ f 149 = nI (gh w).length ∧ f 150 = nI (num w 1) ∧ f 151 = nI (num w 2)
theorem LW_iff {S : Sg} {w : Wd} (hl : (gh w).length ≤ 10) : MW S w ↔ LW (lvv S) w := by
  constructor
  · rintro ⟨h1, h2, h3, h4⟩
    refine ⟨fun k hk => ?_, fun k hk => ?_, fun i hi => ⟨?_, fun v hv => ?_⟩, h3.1, h3.2.2.2, h3.2.1, h3.2.2.1⟩
    · unfold lvv; rw [lo_0 hk, lo_1 hk, lo_2 hk]; exact h2 k hk
    · unfold lvv; rw [lo_3 hk]; exact h1 k hk
    · unfold lvv; rw [lo_5 (by omega)]; exact (h4 i hi).1
    · unfold lvv; rw [lo_4 (by omega)]; exact (h4 i hi).2 v hv
  · rintro ⟨h1, h2, h3, h4, h5, h6, h7⟩
    refine ⟨fun k hk => ?_, fun k hk => ?_, ⟨h4, h6, h7, h5⟩, fun i hi => ⟨?_, fun v hv => ?_⟩⟩
    · have := h2 k hk; unfold lvv at this; rwa [lo_3 hk] at this
    · have := h1 k hk; unfold lvv at this; rwa [lo_0 hk, lo_1 hk, lo_2 hk] at this
    · have := (h3 i hi).1; unfold lvv at this; rwa [lo_5 (by omega)] at this
    · have := (h3 i hi).2 v hv; unfold lvv at this; rwa [lo_4 (by omega)] at this
theorem LW.cong {f h : Nat → Int32} {w : Wd} (hl : (gh w).length ≤ 10) (hf : LW f w) (e : ∀ j, j < 152 → h j = f j) : LW h w := by
  obtain ⟨h1, h2, h3, h4, h5, h6, h7⟩ := hf
  exact ⟨fun k hk => by rw [e _ (by omega), e _ (by omega), e _ (by omega)]; exact h1 k hk, fun k hk => by rw [e _ (by omega)]; exact h2 k hk, fun i hi => ⟨by rw [e _ (by omega)]; exact (h3 i hi).1, fun v hv => by rw [e _ (by omega)]; exact (h3 i hi).2 v hv⟩, by rw [e _ (by omega)]; exact h4, by rw [e _ (by omega)]; exact h5, by rw [e _ (by omega)]; exact h6, by rw [e _ (by omega)]; exact h7⟩
abbrev kpI (b : Nat) : Nat → Nat → Prop := fun o k => (o = 154 ∧ b ≤ k ∧ k < b + 152) ∨ (o = 140 ∧ (k = 22 ∨ k = 23))
abbrev rsI : Nat → Nat → Prop := fun o k => mwI o k ∨ (o = 140 ∧ (k = 22 ∨ k = 23))
def PK (b m : Nat) (S S' : Sg) : Prop := S'.1 140 22 = 1 ∧ S'.1 140 23 = nI (b + m) ∧ (∀ j, j < m → S'.1 154 (b + j) = lvv S j) ∧ Fm (kpI b) noJ S S'
def PR (b m : Nat) (S S' : Sg) : Prop := S'.1 140 22 = 0 ∧ S'.1 140 23 = nI (b + m) ∧ (∀ j, j < m → lvv S' j = S.1 154 (b + j)) ∧ Fm rsI noJ S S'
theorem PK.step {b m : Nat} {S S' : Sg} (h : PK b m S S') (hm : m < 152) : PK b (m + 1) S (setI (setI S' 154 (b + m) (lvv S' m)) 140 23 (nI (b + m) + 1)) := by
  obtain ⟨h1, h2, h3, h4⟩ := h
  have e : lvv S' m = lvv S m := h4.1 _ _ fun q => by have := lo_mw hm; omega
  refine ⟨by rw [setI_n (by omega), setI_n (by omega)]; exact h1, by rw [setI_s, nIs]; rfl, fun j hj => ?_, (h4.tr (Fm.setI (Or.inl ⟨rfl, by omega, by omega⟩))).tr (Fm.setI (Or.inr ⟨rfl, Or.inr rfl⟩))⟩
  rw [setI_n (by omega)]
  by_cases e2 : j = m
  · subst e2; rw [setI_s]; exact e
  · rw [setI_n (by omega)]; exact h3 j (by omega)
theorem PR.step {b m : Nat} {S S' : Sg} (h : PR b m S S') (hm : m < 152) (hb : b + 152 ≤ 456) : PR b (m + 1) S (setI (setI S' (lo m).1 (lo m).2 (S'.1 154 (b + m))) 140 23 (nI (b + m) + 1)) := by
  obtain ⟨h1, h2, h3, h4⟩ := h
  have hmw := lo_mw hm
  have e : S'.1 154 (b + m) = S.1 154 (b + m) := h4.1 _ _ (by omega)
  refine ⟨by rw [setI_n (by omega), setI_n (by omega)]; exact h1, by rw [setI_s, nIs]; rfl, fun j hj => ?_, (h4.tr (Fm.setI (Or.inl hmw))).tr (Fm.setI (Or.inr ⟨rfl, Or.inr rfl⟩))⟩
  have hj2 := lo_mw (j := j) (by omega)
  unfold lvv
  rw [setI_n (by omega)]
  by_cases e2 : j = m
  · subst e2; rw [setI_s]; exact e
  · rw [setI_n (fun q => e2 (lo_inj j (by omega) m hm (Prod.ext q.1 q.2)))]; exact h3 j (by omega)
theorem s_passes_keep {b m a1 n1 : Nat} {S S' : Sg} (h : PK b m S S') (hl : ∀ k, k < n1 → lo (m + k) = (a1, k)) (hm : m + n1 ≤ 152) (hb : b + 152 ≤ 456) : wp (f_X7_passes a1 n1 S') (PK b (m + n1) S) := by
  unfold f_X7_passes
  refine wp_bdm (up (F := fun n k S' => L_X7_passes_2 a1 n1 n (nI k) S') n1 (fun k S' => PK b (m + k) S S') (PK b (m + n1) S) ?_ ?_ 400 0 S' (by omega) (by omega) h) (fun S' h => wp_some h)
  · intro n k S2 hk h2 ih
    rw [L_X7_passes_2]
    refine wp_ifp (nI_lt hk (by omega)) ?_
    rw [h2.1, h2.2.1]
    refine wp_ifn (by decide) (wp_gd (inn' hk (by omega)) (wp_gd (inn' (by omega) (by omega)) (wp_lt (wp_lt (wp_lt ?_)))))
    rw [ixn (by omega), ixn (by omega), setI_n (by omega), h2.2.1]
    have hs := h2.step (show m + k < 152 by omega)
    unfold lvv at hs
    rw [hl k hk] at hs
    show wp (L_X7_passes_2 a1 n1 n (nI k + 1) _) _
    rw [nIs]
    exact ih _ hs
  · intro n S2 h2
    rw [L_X7_passes_2]
    exact wp_ifn (nI_nlt (Nat.le_refl _) (by omega)) (wp_some h2)
theorem s_passes_back {b m a1 n1 : Nat} {S S' : Sg} (h : PR b m S S') (hl : ∀ k, k < n1 → lo (m + k) = (a1, k)) (ha : a1 ≠ 140 ∧ a1 ≠ 154) (hm : m + n1 ≤ 152) (hb : b + 152 ≤ 456) : wp (f_X7_passes a1 n1 S') (PR b (m + n1) S) := by
  unfold f_X7_passes
  refine wp_bdm (up (F := fun n k S' => L_X7_passes_2 a1 n1 n (nI k) S') n1 (fun k S' => PR b (m + k) S S') (PR b (m + n1) S) ?_ ?_ 400 0 S' (by omega) (by omega) h) (fun S' h => wp_some h)
  · intro n k S2 hk h2 ih
    rw [L_X7_passes_2]
    refine wp_ifp (nI_lt hk (by omega)) ?_
    rw [h2.1, h2.2.1]
    refine wp_ifp rfl (wp_gd (inn' (by omega) (by omega)) (wp_gd (inn' hk (by omega)) (wp_lt (wp_lt (wp_lt ?_)))))
    rw [ixn (k := k) (by omega), ixn (by omega), setI_n (by omega), h2.2.1]
    have hs := h2.step (show m + k < 152 by omega) hb
    rw [hl k hk] at hs
    show wp (L_X7_passes_2 a1 n1 n (nI k + 1) _) _
    rw [nIs]
    exact ih _ hs
  · intro n S2 h2
    rw [L_X7_passes_2]
    exact wp_ifn (nI_nlt (Nat.le_refl _) (by omega)) (wp_some h2)
theorem s_one_keep {b m f : Nat} {S S' : Sg} (h : PK b m S S') (hl : lo m = (140, f)) (hf : 7 ≤ f ∧ f ≤ 10) (hm : m < 152) (hb : b + 152 ≤ 456) : wp (f_X7_passOne (S'.1 140 f) S') (fun z => PK b (m + 1) S (setI z.2 140 f z.1)) := by
  unfold f_X7_passOne
  refine wp_lt (wp_ifn (by rw [h.1]; decide) (wp_ifn (by rw [h.1]; decide) ?_))
  rw [h.2.1]
  refine wp_gd (inn' (by omega) (by omega)) (wp_lt (wp_lt (wp_some ?_)))
  rw [ixn (by omega), setI_n (by omega), h.2.1]
  have hs := h.step hm
  unfold lvv at hs
  rw [hl] at hs
  -- the field gets the number that it has
  have same : setI (setI (setI S' 154 (b + m) (S'.1 140 f)) 140 23 (nI (b + m) + 1)) 140 f (S'.1 140 f) = setI (setI S' 154 (b + m) (S'.1 140 f)) 140 23 (nI (b + m) + 1) := by
    refine Prod.ext (funext fun o => funext fun k => ?_) rfl
    by_cases e : o = 140 ∧ k = f
    · rw [e.1, e.2, setI_s, setI_n (by omega), setI_n (by omega)]
    · rw [setI_n e]
  rw [same]
  exact hs
theorem s_one_back {b m f : Nat} {S S' : Sg} (h : PR b m S S') (hl : lo m = (140, f)) (hf : 7 ≤ f ∧ f ≤ 10) (hm : m < 152) (hb : b + 152 ≤ 456) (x : Int32) : wp (f_X7_passOne x S') (fun z => PR b (m + 1) S (setI z.2 140 f z.1)) := by
  unfold f_X7_passOne
  refine wp_lt (wp_ifp h.1 ?_)
  rw [h.2.1]
  refine wp_gd (inn' (by omega) (by omega)) (wp_ifp h.1 (wp_lt (wp_some ?_)))
  rw [ixn (by omega)]
  have hs := h.step hm hb
  rw [hl] at hs
  have same : setI (setI S' 140 23 (nI (b + m) + 1)) 140 f (S'.1 154 (b + m)) = setI (setI S' 140 f (S'.1 154 (b + m))) 140 23 (nI (b + m) + 1) := by
    refine Prod.ext (funext fun o => funext fun k => ?_) rfl
    by_cases e : o = 140 ∧ k = f
    · rw [e.1, e.2, setI_s, setI_n (by omega), setI_s]
    · rw [setI_n e]
      by_cases e2 : o = 140 ∧ k = 23
      · rw [e2.1, e2.2, setI_s, setI_s]
      · rw [setI_n e2, setI_n e2, setI_n e]
  show PR b (m + 1) S (setI (setI S' 140 23 (nI (b + m) + 1)) 140 f (S'.1 154 (b + m)))
  rw [same]
  exact hs
theorem s_passesKeep {S : Sg} {q : Nat} (hq : q < 3) : wp (f_X7_passesAll (nI q) 1 S) (PK (152 * q) 152 S) := by
  have hb : 152 * q + 152 ≤ 456 := by omega
  unfold f_X7_passesAll
  refine wp_lt (wp_gd (by decide) (wp_lt ?_))
  rw [show (152 : Int32) = nI 152 from rfl, nI_mul]
  have h0 : PK (152 * q) 0 S (setI (setI S 140 23 (nI (152 * q))) 140 22 1) := ⟨setI_s, by rw [setI_n (by omega), setI_s]; rfl, fun j h => by omega, (Fm.setI (Or.inr ⟨rfl, Or.inr rfl⟩)).tr (Fm.setI (Or.inr ⟨rfl, Or.inl rfl⟩))⟩
  refine wp_bdm (s_passes_keep h0 (fun k hk => lo_0 hk) (by omega) hb) fun S1 h1 => ?_
  refine wp_bdm (s_passes_keep h1 (fun k hk => lo_1 hk) (by omega) hb) fun S2 h2 => ?_
  refine wp_bdm (s_passes_keep h2 (fun k hk => lo_2 hk) (by omega) hb) fun S3 h3 => ?_
  refine wp_bdm (s_passes_keep h3 (fun k hk => lo_3 hk) (by omega) hb) fun S4 h4 => ?_
  refine wp_bdm (s_passes_keep h4 (fun k hk => lo_4 hk) (by omega) hb) fun S5 h5 => ?_
  refine wp_bdm (s_passes_keep h5 (fun k hk => lo_5 hk) (by omega) hb) fun S6 h6 => ?_
  refine wp_bdm (s_one_keep h6 rfl (by omega) (by omega) hb) fun z1 k1 => wp_lt ?_
  refine wp_bdm (s_one_keep k1 rfl (by omega) (by omega) hb) fun z2 k2 => wp_lt ?_
  refine wp_bdm (s_one_keep k2 rfl (by omega) (by omega) hb) fun z3 k3 => wp_lt ?_
  refine wp_bdm (s_one_keep k3 rfl (by omega) (by omega) hb) fun z4 k4 => wp_lt ?_
  exact wp_some k4
theorem s_passesBack {S : Sg} {q : Nat} (hq : q < 3) : wp (f_X7_passesAll (nI q) 0 S) (PR (152 * q) 152 S) := by
  have hb : 152 * q + 152 ≤ 456 := by omega
  unfold f_X7_passesAll
  refine wp_lt (wp_gd (by decide) (wp_lt ?_))
  rw [show (152 : Int32) = nI 152 from rfl, nI_mul]
  have h0 : PR (152 * q) 0 S (setI (setI S 140 23 (nI (152 * q))) 140 22 0) := ⟨setI_s, by rw [setI_n (by omega), setI_s]; rfl, fun j h => by omega, (Fm.setI (Or.inr ⟨rfl, Or.inr rfl⟩)).tr (Fm.setI (Or.inr ⟨rfl, Or.inl rfl⟩))⟩
  refine wp_bdm (s_passes_back h0 (fun k hk => lo_0 hk) (by decide) (by omega) hb) fun S1 h1 => ?_
  refine wp_bdm (s_passes_back h1 (fun k hk => lo_1 hk) (by decide) (by omega) hb) fun S2 h2 => ?_
  refine wp_bdm (s_passes_back h2 (fun k hk => lo_2 hk) (by decide) (by omega) hb) fun S3 h3 => ?_
  refine wp_bdm (s_passes_back h3 (fun k hk => lo_3 hk) (by decide) (by omega) hb) fun S4 h4 => ?_
  refine wp_bdm (s_passes_back h4 (fun k hk => lo_4 hk) (by decide) (by omega) hb) fun S5 h5 => ?_
  refine wp_bdm (s_passes_back h5 (fun k hk => lo_5 hk) (by decide) (by omega) hb) fun S6 h6 => ?_
  refine wp_bdm (s_one_back h6 rfl (by omega) (by omega) hb _) fun z1 k1 => wp_lt ?_
  refine wp_bdm (s_one_back k1 rfl (by omega) (by omega) hb _) fun z2 k2 => wp_lt ?_
  refine wp_bdm (s_one_back k2 rfl (by omega) (by omega) hb _) fun z3 k3 => wp_lt ?_
  refine wp_bdm (s_one_back k3 rfl (by omega) (by omega) hb _) fun z4 k4 => wp_lt ?_
  exact wp_some k4
/-- the q-th row of 152 holds a world -/
def KW (S : Sg) (q : Nat) (w : Wd) : Prop := LW (fun j => S.1 154 (152 * q + j)) w
theorem KW.fm {S S' : Sg} {q : Nat} {w : Wd} {AI AJ : Nat → Nat → Prop} (hl : (gh w).length ≤ 10) (h : KW S q w) (hf : Fm AI AJ S S') (hA : ∀ k, 152 * q ≤ k → k < 152 * q + 152 → ¬ AI 154 k) : KW S' q w := LW.cong hl h fun j hj => hf.1 _ _ (hA _ (by omega) (by omega))
theorem s_keepW {S : Sg} {q : Nat} {w : Wd} (hq : q < 3) (hw : MW S w) (hl : (gh w).length ≤ 10) : wp (f_X7_passesAll (nI q) 1 S) (fun S' => Fm (kpI (152 * q)) noJ S S' ∧ MW S' w ∧ KW S' q w) := by
  refine wp_mono (s_passesKeep hq) fun S' h => ⟨h.2.2.2, hw.fm h.2.2.2 (fun o k r => by omega), ?_⟩
  exact LW.cong hl ((LW_iff hl).mp hw) fun j hj => h.2.2.1 j hj
theorem s_backW {S : Sg} {q : Nat} {w : Wd} (hq : q < 3) (hw : KW S q w) (hl : (gh w).length ≤ 10) : wp (f_X7_passesAll (nI q) 0 S) (fun S' => Fm rsI noJ S S' ∧ MW S' w ∧ KW S' q w) := by
  refine wp_mono (s_passesBack hq) fun S' h => ⟨h.2.2.2, (LW_iff hl).mpr (LW.cong hl hw fun j hj => h.2.2.1 j hj), hw.fm hl h.2.2.2 (fun k h1 h2 => by omega)⟩
theorem s_minds {S : Sg} {w : Wd} (hw : MW S w) (hl : (gh w).length ≤ 10) : wp (f_X7_minds S) (fun S' => Fm (kpI 304) noJ S S' ∧ MW S' w ∧ KW S' 2 w) := by
  unfold f_X7_minds
  exact wp_bdm (s_keepW (q := 2) (by omega) hw hl) fun S1 h => wp_some h
theorem s_forgets {S : Sg} {w : Wd} (hw : KW S 2 w) (hl : (gh w).length ≤ 10) : wp (f_X7_forgets S) (fun S' => Fm rsI noJ S S' ∧ MW S' w ∧ KW S' 2 w) := by
  unfold f_X7_forgets
  exact wp_bdm (s_backW (q := 2) (by omega) hw hl) fun S1 h => wp_some h
