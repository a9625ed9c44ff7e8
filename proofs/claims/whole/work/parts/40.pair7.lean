/-! sums: what each sum finds -/
noncomputable def mt (w : Wd) (wt : Nat → Int) : Int32 := @ite _ (zer (gh w) (qrow w wt)) (Classical.propDecidable _) 0 (@ite _ (fixes (gh w) (qrow w wt) ∨ forb (gh w) (qrow w wt) (szOf wt 8) (num w 1) (num w 2)) (Classical.propDecidable _) 2 1)
theorem mt_of {w : Wd} {wt : Nat → Int} {m : Int32} (h : Meet (gh w) (qrow w wt) (szOf wt 8) (num w 1) (num w 2) m) : m = mt w wt := by
  unfold mt
  rcases h with ⟨rfl, h⟩ | ⟨rfl, h, h2⟩ | ⟨rfl, h, h2, h3⟩
  · rw [if_pos h]
  · rw [if_neg h, if_pos h2]
  · rw [if_neg h, if_neg (fun q => q.elim h2 h3)]
theorem mt_012 (w : Wd) (wt : Nat → Int) : mt w wt = 0 ∨ mt w wt = 1 ∨ mt w wt = 2 := by
  unfold mt
  by_cases h : zer (gh w) (qrow w wt)
  · rw [if_pos h]; exact Or.inl rfl
  · rw [if_neg h]
    by_cases h2 : fixes (gh w) (qrow w wt) ∨ forb (gh w) (qrow w wt) (szOf wt 8) (num w 1) (num w 2)
    · rw [if_pos h2]; exact Or.inr (Or.inr rfl)
    · rw [if_neg h2]; exact Or.inr (Or.inl rfl)
noncomputable abbrev ms (w : Wd) (v : Nat) : Int32 := mt w (wq 0 (nI v) 0)
theorem qv0 {b : Int32} : qv 0 b := Or.inl rfl
abbrev mosA (o : Nat) : Nat → Prop := fun p => p = 131 ∨ inScr o p
theorem s_mos {o : Nat} {S : Sg} {w : Wd} (hw : CW o S w) (hg : wgood w) (ho : o + 43 ≤ 130) (v : Nat) : wp (f_X6_meetingOfSum o (nI v) S) (fun z => z.1 = ms w v ∧ Fr (mosA o) S z.2) := by
  obtain ⟨S1, e1, f1, q1⟩ := s_make (oq := 130) (S := S) (a := nI v) (b := 0) qv0
  have c1 : CW o S1 w := hw.fr f1 (fun p hp => by have : o ≤ p ∧ p < o + 29 := hp; show ¬ (p = 130 + 1); omega) (wg_l10 hg)
  unfold f_X6_meetingOfSum
  refine wp_bds e1 ?_
  rw [c1.2.2.1.2.1, c1.2.2.1.2.2.1]
  refine wp_bdm (s_meetingBy c1 hg.1 hg.2.1 q1 (wq_ok qv0) (by omega) hg.1.2.2.2.1 hg.1.2.2.2.2.1) ?_
  rintro ⟨m, T⟩ ⟨hm, f2⟩
  exact wp_u2 (wp_some ⟨mt_of hm, (f1.mono fun p hp => Or.inl hp).tr (f2.mono fun p hp => Or.inr hp)⟩)
theorem mos_w {o : Nat} {S S' : Sg} {w : Wd} (hw : CW o S w) (hg : wgood w) (ho : o + 43 ≤ 130) (f : Fr (mosA o) S S') : CW o S' w :=
  hw.fr f (fun p hp => by have : o ≤ p ∧ p < o + 29 := hp; show ¬ (p = 131 ∨ (o + 29 ≤ p ∧ p < o + 43)); omega) (wg_l10 hg)
theorem lt256 {v : Nat} (h : v ≤ 255) : ¬ (255 : Int32) < nI v := nI_nlt (a := 255) h (by omega)
theorem gt255 : (255 : Int32) < nI 256 := nI_lt (a := 255) (by decide) (by decide)
/-- the least sum that joins -/
def isLj (w : Wd) (r : Int32) : Prop := (∃ v, 1 ≤ v ∧ v ≤ 255 ∧ ms w v = 1 ∧ (∀ i, 1 ≤ i → i < v → ms w i ≠ 1) ∧ r = nI v) ∨ ((∀ i, 1 ≤ i → i ≤ 255 → ms w i ≠ 1) ∧ r = -9)
theorem isLj_u {w : Wd} {r r' : Int32} (h : isLj w r) (h' : isLj w r') : r = r' := by
  rcases h with ⟨v, a1, a2, a3, a4, rfl⟩ | ⟨a1, rfl⟩ <;> rcases h' with ⟨u, b1, b2, b3, b4, rfl⟩ | ⟨b1, rfl⟩
  · have : v = u := by
      by_cases q : v < u
      · exact absurd a3 (b4 v a1 q)
      · by_cases q2 : u < v
        · exact absurd b3 (a4 u b1 q2)
        · omega
    rw [this]
  · exact absurd a3 (b1 v a1 a2)
  · exact absurd b3 (a1 u b1 b2)
  · rfl
theorem s_lj {S : Sg} {w : Wd} (hw : CW 1 S w) (hg : wgood w) : wp (f_X6_leastJoining S) (fun z => isLj w z.1 ∧ Fr (mosA 1) S z.2) := by
  unfold f_X6_leastJoining
  refine wp_bsm (up (F := fun n k (T : Sg) => L_X6_leastJoining_2 n (nI k) T) 256 (fun k T => 1 ≤ k ∧ Fr (mosA 1) S T ∧ ∀ i, 1 ≤ i → i < k → ms w i ≠ 1) (fun z => (∃ r T, z = .inl (r, T) ∧ isLj w r ∧ Fr (mosA 1) S T) ∨ ∃ T, z = .inr T ∧ Fr (mosA 1) S T ∧ ∀ i, 1 ≤ i → i ≤ 255 → ms w i ≠ 1) ?_ ?_ 400 1 S (by omega) (by omega) ⟨by omega, Fr.rf, fun i a b => by omega⟩) ?_ ?_
  · rintro n k T hk ⟨h1, f, hp⟩ ih
    rw [L_X6_leastJoining_2]
    refine wp_ifn (lt256 (by omega)) (wp_bdm (s_mos (mos_w hw hg (by omega) f) hg (by omega) k) ?_)
    rintro ⟨m, U⟩ ⟨hm, f2⟩
    have hm' : m = ms w k := hm
    refine wp_u2 (wp_if (fun e => ?_) (fun e => ?_))
    · exact wp_some (Or.inl ⟨_, _, rfl, Or.inl ⟨k, h1, by omega, hm' ▸ e, hp, rfl⟩, f.tr f2⟩)
    · show wp (L_X6_leastJoining_2 n (nI k + 1) U) _
      rw [nIs]
      refine ih U ⟨by omega, f.tr f2, fun i a b => ?_⟩
      by_cases q : i = k
      · rw [q]; exact fun x => e (hm'.trans x)
      · exact hp i a (by omega)
  · rintro n T ⟨_, f, hp⟩
    rw [L_X6_leastJoining_2]
    exact wp_ifp gt255 (wp_some (Or.inr ⟨T, rfl, f, fun i a b => hp i a (by omega)⟩))
  · rintro ⟨r, T⟩ hz
    rcases hz with ⟨r', T', e, h, f⟩ | ⟨T', e, _⟩
    · cases e; exact wp_some ⟨h, f⟩
    · cases e
  · rintro T hz
    rcases hz with ⟨r', T', e, h, f⟩ | ⟨T', e, f, h⟩
    · cases e
    · cases e; exact wp_some ⟨Or.inr ⟨h, rfl⟩, f⟩
/-- how many sums find m -/
noncomputable def cm (w : Wd) (m : Int32) : Nat → Nat
  | 0 => 0
  | n + 1 => if ms w (n + 1) = m then cm w m n + 1 else cm w m n
theorem cm_le (w : Wd) (m : Int32) : ∀ n, cm w m n ≤ n
  | 0 => Nat.le_refl _
  | n + 1 => by
    have := cm_le w m n
    show (if _ then _ else _) ≤ _
    by_cases h : ms w (n + 1) = m
    · rw [if_pos h]; omega
    · rw [if_neg h]; omega
theorem s_howMany {S : Sg} {w : Wd} (hw : CW 1 S w) (hg : wgood w) (c : Int32) : wp (f_X6_howMany c S) (fun z => z.1 = nI (cm w c 255) ∧ Fr (mosA 1) S z.2) := by
  unfold f_X6_howMany
  refine wp_bdm (up (F := fun n k (z : Int32 × Sg) => L_X6_howMany_4 c n z.1 (nI k) z.2) 256 (fun k z => 1 ≤ k ∧ z.1 = nI (cm w c (k - 1)) ∧ Fr (mosA 1) S z.2) (fun z => z.1 = nI (cm w c 255) ∧ Fr (mosA 1) S z.2) ?_ ?_ 400 1 (0, S) (by omega) (by omega) ⟨by omega, rfl, Fr.rf⟩) (fun z h => wp_some h)
  · rintro n k ⟨x, T⟩ hk ⟨h1, h2, f⟩ ih
    show wp (L_X6_howMany_4 c (n + 1) x (nI k) T) _
    have h2' : x = nI (cm w c (k - 1)) := h2
    rw [L_X6_howMany_4]
    refine wp_ifn (lt256 (by omega)) (wp_bdm (s_mos (mos_w hw hg (by omega) f) hg (by omega) k) ?_)
    rintro ⟨m, U⟩ ⟨hm, f2⟩
    have hm' : m = ms w k := hm
    obtain ⟨l, rfl⟩ : ∃ l, k = l + 1 := ⟨k - 1, by omega⟩
    refine wp_u2 ?_
    show wp (L_X6_howMany_4 c n (if m = c then x + 1 else x) (nI (l + 1) + 1) U) _
    rw [nIs]
    refine ih (_, U) ⟨by omega, ?_, f.tr f2⟩
    show (if m = c then x + 1 else x) = nI (if ms w (l + 1) = c then cm w c l + 1 else cm w c l)
    rw [hm', h2']
    by_cases q : ms w (l + 1) = c
    · rw [if_pos q, if_pos q]; exact nIs _
    · rw [if_neg q, if_neg q]; rfl
  · rintro n ⟨x, T⟩ ⟨_, h2, f⟩
    show wp (L_X6_howMany_4 c (n + 1) x (nI 256) T) _
    rw [L_X6_howMany_4]
    exact wp_ifp gt255 (wp_some ⟨h2, f⟩)
/-- the reference's sums -/
abbrev fsI : Nat → Nat → Prop := fun o k => asI o k ∨ lsI o k ∨ o = 159 ∨ o = 160
theorem fs_m : ∀ o k, fsI o k → msc o k := fun o k h => by
  rcases h with h | h | h
  · exact as_m o k h
  · exact ls_m o k h
  · exact msc_of (by omega)
abbrev b0I : Nat → Nat → Prop := fun o k => asI o k ∨ mbI o k ∨ o = 159 ∨ o = 160
abbrev b1I : Nat → Nat → Prop := fun o k => asI o k ∨ mbI o k
theorem RX.fm {oj oi fl : Nat} {S S' : Sg} {g : Gh} {AI AJ : Nat → Nat → Prop} (h : RX oj oi fl S g) (f : Fm AI AJ S S') (h1 : ¬ AI 140 fl) (h2 : ∀ k, ¬ AI oi k) (h3 : ∀ k, ¬ AJ oj k) : RX oj oi fl S' g :=
  ⟨by rw [f.1 _ _ h1]; exact h.1, fun i hi => ⟨by rw [f.1 _ _ (h2 i)]; exact (h.2 i hi).1, by
    obtain ⟨z, a, b⟩ := (h.2 i hi).2
    exact ⟨z, a, fun c hc => by rw [f.2 _ _ (h3 _)]; exact b c hc⟩⟩⟩
theorem s_mosM {τ : Type} {K : Int32 × Sg → Option τ} {Q : τ → Prop} {S : Sg} {w : Wd} (hw : MW S w) (hg : wgood w) (hB : RX 149 152 18 S (gh w)) (v : Nat) (hK : ∀ T, Fm b1I mbJ S T → wp (K (ms w v, T)) Q) : wp (bd (f_X7_asks 0 (nI v) 0 S) fun S1 => bd (f_X7_meetsBy (S1.1 140 9) (S1.1 140 10) S1) K) Q := by
  refine wp_bdm (s_asks (a := nI v) (b := 0) hw (fun k hk' => own10 hg.1 hk') qv0) fun S1 ⟨f1, a1⟩ => ?_
  have w1 : MW S1 w := hw.fm f1 (fun o k q n => (as_m o k n).2.1 q)
  rw [w1.2.2.1.2.1, w1.2.2.1.2.2.1]
  have hB1 : RX 149 152 18 S1 (gh w) := hB.fm f1 (by show ¬ (_ ∨ _); omega) (fun k => by show ¬ (_ ∨ _); omega) (fun k q => q.elim)
  refine wp_bdm (s_meetsBy (wok_sm hg.1 hg.2.1) hB1 a1 (szOf_le _ 8) (qbd (wq_ok qv0)) (qdt (fun k hk' => own10 hg.1 hk') (wq_ok qv0)) hg.1.2.2.2.1 hg.1.2.2.2.2.1) ?_
  rintro ⟨m, T⟩ ⟨hm, f2⟩
  have e : m = ms w v := mt_of hm
  subst e
  exact hK T ((f1.mono (fun o k q => Or.inl q) (fun _ _ q => q.elim)).tr (f2.mono (fun o k q => Or.inr q) (fun _ _ q => q)))
theorem ms_n (w : Wd) (v : Nat) : ∃ c, c < 3 ∧ ms w v = nI c := by
  rcases mt_012 w (wq 0 (nI v) 0) with h | h | h
  · exact ⟨0, by omega, h⟩
  · exact ⟨1, by omega, h⟩
  · exact ⟨2, by omega, h⟩
theorem b0_m : ∀ o k, b0I o k → msc o k := fun o k h => by
  rcases h with h | h | h
  · exact as_m o k h
  · exact mb_m o k h
  · exact msc_of (by omega)
theorem s_findSums {S : Sg} {w : Wd} (hw : MW S w) (hg : wgood w) : wp (f_X7_findSums S) (fun S' => Fm msc mscJ S S' ∧ MW S' w ∧ (∀ v, 1 ≤ v → v ≤ 255 → S'.1 159 v = ms w v) ∧ ∀ c, c < 3 → S'.1 160 c = nI (cm w (nI c) 255)) := by
  unfold f_X7_findSums
  refine wp_bdm (s_builds hw (wok_sm hg.1 hg.2.1) (wok_rbd hg.1)) fun S1 ⟨f1, _, hB⟩ => ?_
  have w1 : MW S1 w := hw.fm f1 (fun o k q n => (ls_m o k n).2.1 q)
  refine wp_bdm (up (F := fun n k (T : Sg) => L_X7_findSums_6 n (nI k) T) 3 (fun k T => Fm (fun o _ => o = 160) noJ S1 T ∧ ∀ c, c < k → T.1 160 c = 0) (fun T => Fm (fun o _ => o = 160) noJ S1 T ∧ ∀ c, c < 3 → T.1 160 c = 0) ?_ ?_ 400 0 S1 (by omega) (by omega) ⟨Fm.rf, fun c hc => by omega⟩) fun S2 ⟨f2, z2⟩ => ?_
  · rintro n k T hk ⟨f, h⟩ ih
    rw [L_X7_findSums_6]
    refine wp_ifp (nI_lt (b := 3) hk (by decide)) (wp_gd (inb_n hk (by decide)) (wp_lt ?_))
    show wp (L_X7_findSums_6 n (nI k + 1) _) _
    rw [nIs, ix_n (by omega)]
    refine ih _ ⟨f.tr (Fm.setI rfl), fun c hc => ?_⟩
    by_cases e : c = k
    · rw [e, setI_s]
    · rw [setI_n (by omega)]; exact h c (by omega)
  · rintro n T h
    rw [L_X7_findSums_6]
    exact wp_ifn (nI_nlt (b := 3) (Nat.le_refl _) (by decide)) (wp_some h)
  · have w2 : MW S2 w := w1.fm f2 (fun o k q => by show ¬ (o = 160); have : (142 ≤ o ∧ o ≤ 147) ∨ (o = 140 ∧ 7 ≤ k ∧ k ≤ 10) := q; omega)
    have hB2 : RX 149 152 18 S2 (gh w) := hB.fm f2 (by decide) (fun k => show ¬ ((152 : Nat) = 160) by decide) (fun k q => q.elim)
    refine wp_bdm (up (F := fun n k (T : Sg) => L_X7_findSums_26 n (nI k) T) 256 (fun k T => 1 ≤ k ∧ Fm b0I mbJ S2 T ∧ (∀ v, 1 ≤ v → v < k → T.1 159 v = ms w v) ∧ ∀ c, c < 3 → T.1 160 c = nI (cm w (nI c) (k - 1))) (fun T => Fm b0I mbJ S2 T ∧ (∀ v, 1 ≤ v → v < 256 → T.1 159 v = ms w v) ∧ ∀ c, c < 3 → T.1 160 c = nI (cm w (nI c) 255)) ?_ ?_ 400 1 S2 (by omega) (by omega) ⟨by omega, Fm.rf, fun v a b => by omega, z2⟩) fun S3 ⟨f3, a3, c3⟩ => wp_some ⟨?_, ?_, fun v a b => a3 v a (by omega), c3⟩
    · rintro n k T hk ⟨h1, f, h2, h3⟩ ih
      rw [L_X7_findSums_26]
      have wT : MW T w := w2.fm f (fun o k q n => (b0_m o k n).2.1 q)
      have hT : RX 149 152 18 T (gh w) := hB2.fm f (by
        rintro (q | q | q)
        · have : 140 = 148 ∨ (140 = 140 ∧ 18 = 12) := q; omega
        · have : 140 = 153 ∨ (140 = 140 ∧ 18 = 19) := q; omega
        · omega) (fun k => by
        rintro (q | q | q)
        · have : 152 = 148 ∨ (152 = 140 ∧ k = 12) := q; omega
        · have : 152 = 153 ∨ (152 = 140 ∧ k = 19) := q; omega
        · omega) (fun k q => by have : 149 = 150 ∨ 149 = 151 := q; omega)
      refine wp_ifn (lt256 (by omega)) (s_mosM wT hg hT k fun U f4 => wp_u2 ?_)
      obtain ⟨c, hc, ec⟩ := ms_n w k
      refine wp_gd (inb_n (by omega) (by decide)) (wp_lt ?_)
      rw [ix_n (by omega), setI_s, ec]
      refine wp_gd (inb_n (by omega) (by decide)) (wp_lt ?_)
      rw [ix_n (by omega), setI_n (by omega)]
      show wp (L_X7_findSums_26 n (nI k + 1) _) _
      rw [nIs]
      have nb : ∀ o d, 154 ≤ o → ¬ b1I o d := fun o d ho q => by
        rcases q with q | q
        · have : o = 148 ∨ (o = 140 ∧ d = 12) := q; omega
        · have : o = 153 ∨ (o = 140 ∧ d = 19) := q; omega
      obtain ⟨l, rfl⟩ : ∃ l, k = l + 1 := ⟨k - 1, by omega⟩
      refine ih _ ⟨by omega, ?_, fun v a b => ?_, fun d hd => ?_⟩
      · refine (f.tr (f4.mono (fun o k q => q.elim Or.inl (fun q => Or.inr (Or.inl q))) (fun _ _ q => q))).tr ((Fm.setI (AI := b0I) (Or.inr (Or.inr (Or.inl rfl)))).tr (Fm.setI (Or.inr (Or.inr (Or.inr rfl)))))
      · rw [setI_n (by omega)]
        by_cases e : v = l + 1
        · rw [e, setI_s, ec]
        · rw [setI_n (by omega), f4.1 _ _ (nb _ _ (by omega))]; exact h2 v a (by omega)
      · show _ = nI (if ms w (l + 1) = nI d then cm w (nI d) l + 1 else cm w (nI d) l)
        have h3' : T.1 160 d = nI (cm w (nI d) l) := h3 d hd
        have e4 : U.1 160 d = T.1 160 d := f4.1 _ _ (nb _ _ (by omega))
        by_cases e : d = c
        · subst e
          rw [setI_s, e4, h3', if_pos ec]; exact nIs _
        · rw [setI_n (by omega), setI_n (by omega), e4, h3', if_neg]
          rw [ec]; exact fun q => e ((nI_eq (by omega) (by omega)).mp q).symm
    · rintro n T ⟨_, f, h2, h3⟩
      rw [L_X7_findSums_26]
      exact wp_ifp gt255 (wp_some ⟨f, h2, h3⟩)
    · exact ((f1.mono ls_m lj_m).tr (f2.mono (fun o k q => msc_of (by have : o = 160 := q; omega)) (fun _ _ q => q.elim))).tr (f3.mono b0_m mbj_m)
    · exact w2.fm f3 (fun o k q n => (b0_m o k n).2.1 q)
