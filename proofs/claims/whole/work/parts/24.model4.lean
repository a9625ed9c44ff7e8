-- the first rows
def pre : Gh → Nat → Gh
  | [], _ => []
  | x :: r, n => if n ≤ r.length then pre r n else x :: r
theorem pre_all : ∀ g : Gh, pre g g.length = g
  | [] => rfl
  | x :: r => by
    show (if r.length + 1 ≤ r.length then pre r (r.length + 1) else x :: r) = _
    rw [if_neg (by omega)]
theorem pre_0 : ∀ g : Gh, pre g 0 = []
  | [] => rfl
  | x :: r => by
    show (if 0 ≤ r.length then pre r 0 else x :: r) = _
    rw [if_pos (by omega)]
    exact pre_0 r
theorem pre_len : ∀ (g : Gh) (n : Nat), n ≤ g.length → (pre g n).length = n
  | [], n, h => by have : n = 0 := by have : n ≤ 0 := h; omega
                   rw [this]; rfl
  | x :: r, n, h => by
    have h' : n ≤ r.length + 1 := h
    show (if n ≤ r.length then pre r n else x :: r).length = n
    by_cases e : n ≤ r.length
    · rw [if_pos e]; exact pre_len r n e
    · rw [if_neg e]; show r.length + 1 = n; omega
theorem pre_succ : ∀ (g : Gh) (n : Nat), n < g.length → pre g (n + 1) = (gpv g n, gro g n) :: pre g n
  | [], n, h => absurd h (Nat.not_lt_zero n)
  | x :: r, n, h => by
    have h' : n < r.length + 1 := h
    show (if n + 1 ≤ r.length then pre r (n + 1) else x :: r) = _ :: (if n ≤ r.length then pre r n else x :: r)
    by_cases e : n < r.length
    · rw [if_pos (show n + 1 ≤ r.length by omega), if_pos (show n ≤ r.length by omega), pre_succ r n e, gpv_old e, gro_old e]
    · have e2 : n = r.length := by omega
      subst e2
      rw [if_neg (show ¬ r.length + 1 ≤ r.length by omega), if_pos (Nat.le_refl _), gpv_new, gro_new, pre_all]
theorem pre_ok : ∀ (g : Gh) (n : Nat), gok g → gok (pre g n)
  | [], _, _ => trivial
  | x :: r, n, h => by
    show gok (if n ≤ r.length then pre r n else x :: r)
    by_cases e : n ≤ r.length
    · rw [if_pos e]; exact pre_ok r n h.1
    · rw [if_neg e]; exact h
theorem pre_sm : ∀ (g : Gh) (n : Nat), gsm g → gsm (pre g n)
  | [], _, _ => trivial
  | x :: r, n, h => by
    show gsm (if n ≤ r.length then pre r n else x :: r)
    by_cases e : n ≤ r.length
    · rw [if_pos e]; exact pre_sm r n h.1
    · rw [if_neg e]; exact h
theorem gro_dt : ∀ (g : Gh), gsm g → ∀ i, i < g.length → dt 10 (gro g i) (gro g i) ≤ 72
  | [], _, i, h => absurd h (Nat.not_lt_zero i)
  | x :: r, h, i, hi => by
    have hi' : i < r.length + 1 := hi
    by_cases e : i = r.length
    · subst e; rw [gro_new]; exact h.2
    · rw [gro_old (by omega)]; exact gro_dt r h.1 i (by omega)
/-- the reference's live world -/
def MW (S : Sg) (w : Wd) : Prop := (∀ k, k < 8 → S.1 145 k = nI (own w k)) ∧ (∀ k, k < 10 → S.1 142 k = I (dat w 0 k) ∧ S.1 143 k = I (dat w 1 k) ∧ S.1 144 k = I (dat w 2 k)) ∧
  (S.1 140 7 = nI (num w 0) ∧ S.1 140 9 = nI (num w 1) ∧ S.1 140 10 = nI (num w 2) ∧ S.1 140 8 = nI (gh w).length) ∧
  ∀ i, i < (gh w).length → S.1 147 i = I (dat w 3 i) ∧ ∀ v, v < 10 → S.1 146 (10 * i + v) = I (gro (gh w) i v)
abbrev mwI : Nat → Nat → Prop := fun o k => (142 ≤ o ∧ o ≤ 147) ∨ (o = 140 ∧ 7 ≤ k ∧ k ≤ 10)
theorem MW.fm {S S' : Sg} {w : Wd} {AI AJ : Nat → Nat → Prop} (h : MW S w) (hf : Fm AI AJ S S') (hA : ∀ o k, mwI o k → ¬ AI o k) : MW S' w := by
  obtain ⟨h1, h2, h3, h4⟩ := h
  have k : ∀ o j, mwI o j → S'.1 o j = S.1 o j := fun o j q => hf.1 o j (hA o j q)
  refine ⟨fun j hj => by rw [k _ _ (by omega)]; exact h1 j hj, fun j hj => by rw [k _ _ (by omega), k _ _ (by omega), k _ _ (by omega)]; exact h2 j hj, ?_, fun i hi => ⟨by rw [k _ _ (by omega)]; exact (h4 i hi).1, fun v hv => by rw [k _ _ (by omega)]; exact (h4 i hi).2 v hv⟩⟩
  rw [k _ _ (by omega), k _ _ (by omega), k _ _ (by omega), k _ _ (by omega)]
  exact h3
abbrev lsI : Nat → Nat → Prop := fun o k => o = 152 ∨ o = 153 ∨ (o = 140 ∧ (k = 18 ∨ k = 19))
abbrev lsJ : Nat → Nat → Prop := fun o _ => o = 149 ∨ o = 150 ∨ o = 151
theorem lt110 {k : Nat} (h : k < 110) : nI k < (110 : Int32) := nI_lt (b := 110) h (by decide)
theorem nlt110 : ¬ nI 110 < (110 : Int32) := nI_nlt (b := 110) (Nat.le_refl _) (by decide)
theorem lt11 {k : Nat} (h : k < 11) : nI k < (11 : Int32) := nI_lt (b := 11) h (by decide)
theorem nlt11 : ¬ nI 11 < (11 : Int32) := nI_nlt (b := 11) (Nat.le_refl _) (by decide)
theorem s_builds {S : Sg} {w : Wd} (hw : MW S w) (hg : gsmall (gh w) 9) (hb : rbd (gh w)) : wp (f_X7_builds S) (fun S' => Fm lsI lsJ S S' ∧ RX 150 153 19 S' (gh w) ∧ RX 149 152 18 S' (gh w)) := by
  have hl := hg.2.2
  unfold f_X7_builds
  refine wp_lt ?_
  generalize hS1 : setI S 140 19 0 = S1
  have m1 : Fm lsI lsJ S S1 := by rw [← hS1]; exact Fm.setI (Or.inr (Or.inr ⟨rfl, Or.inr rfl⟩))
  have r1 : RX 150 153 19 S1 (pre (gh w) 0) := by
    rw [pre_0]
    exact ⟨by rw [← hS1, setI_s]; rfl, fun i hi => absurd hi (Nat.not_lt_zero i)⟩
  refine wp_bdm (up (F := fun n k S' => L_X7_builds_7 n (nI k) S') (gh w).length (fun i S' => Fm lsI lsJ S S' ∧ RX 150 153 19 S' (pre (gh w) i)) (fun S' => Fm lsI lsJ S S' ∧ RX 150 153 19 S' (gh w)) ?_ ?_ 400 0 S1 (by omega) (by omega) ⟨m1, r1⟩) ?_
  · intro n i S2 hi ⟨q1, q2⟩ ih
    have hw2 : MW S2 w := hw.fm q1 (fun o k q r => by omega)
    rw [L_X7_builds_7, hw2.2.2.1.2.2.2]
    refine wp_ifp (nI_lt hi (by omega)) ?_
    rw [ten, nI_mul]
    have hpl := pre_len (gh w) i (by omega)
    have hps := pre_succ (gh w) i hi
    have hok2 : gok (pre (gh w) (i + 1)) := pre_ok (gh w) (i + 1) hg.1
    rw [hps] at hok2
    refine wp_bdm (s_adds (g := pre (gh w) i) (a := gro (gh w) i) ⟨pre_ok (gh w) i hg.1, pre_sm (gh w) i hg.2.1, by omega⟩ q2 (hw2.2.2.2 i hi).2 (hb i hi) (gro_dt (gh w) hg.2.1 i hi) ⟨by omega, by omega⟩) ?_
    intro S3 ⟨u1, u2⟩
    show wp (L_X7_builds_7 n (nI i + 1) S3) _
    rw [nIs]
    refine ih _ ⟨q1.tr (u1.mono (fun o k q => by omega) (fun o k q => by omega)), ?_⟩
    rcases u2 with ⟨hz, _⟩ | ⟨p, hp, hr⟩
    · exact absurd (hz _ hok2.2.1) hok2.2.2.1
    · have e : p = gpv (gh w) i := fp_u ⟨hp.2.1, hp.2.2.1, hp.2.2.2⟩ ⟨hok2.2.1, hok2.2.2.1, hok2.2.2.2⟩
      rw [hps, ← e]
      exact hr
  · intro n S2 ⟨q1, q2⟩
    have hw2 : MW S2 w := hw.fm q1 (fun o k q r => by omega)
    rw [L_X7_builds_7, hw2.2.2.1.2.2.2]
    rw [pre_all] at q2
    exact wp_ifn (nI_nlt (Nat.le_refl _) (by omega)) (wp_some ⟨q1, q2⟩)
  intro S2 ⟨q1, q2⟩
  refine wp_bdm (up (F := fun n k S' => L_X7_builds_35 n (nI k) S') 110 (fun k S' => S'.1 = S2.1 ∧ (∀ o, o ≠ 149 → S'.2 o = S2.2 o) ∧ ∀ j, j < k → S'.2 149 j = S2.2 150 j) (fun S' => S'.1 = S2.1 ∧ (∀ o, o ≠ 149 → S'.2 o = S2.2 o) ∧ ∀ j, j < 110 → S'.2 149 j = S2.2 150 j) ?_ ?_ 400 0 S2 (by omega) (by omega) ⟨rfl, fun _ _ => rfl, fun j h => by omega⟩) ?_
  · intro n k S3 hk ⟨u1, u2, u3⟩ ih
    rw [L_X7_builds_35]
    refine wp_ifp (lt110 hk) (wp_gd (inn' hk (by omega)) ?_)
    show wp (L_X7_builds_35 n (nI k + 1) (setJ S3 149 (ix (nI k)) (S3.2 150 (ix (nI k))))) _
    rw [nIs, ixn (by omega)]
    refine ih _ ⟨u1, fun o ho => (setJ_o ho).2.trans (u2 o ho), fun j hj => ?_⟩
    by_cases e : j = k
    · subst e; rw [setJ_s, u2 150 (by decide)]
    · rw [setJ_n (by omega)]; exact u3 j (by omega)
  · intro n S3 h3
    rw [L_X7_builds_35]
    exact wp_ifn nlt110 (wp_some h3)
  intro S3 ⟨u1, u2, u3⟩
  refine wp_bdm (up (F := fun n k S' => L_X7_builds_61 n (nI k) S') 11 (fun k S' => S'.2 = S3.2 ∧ (∀ o, o ≠ 152 → S'.1 o = S3.1 o) ∧ ∀ j, j < k → S'.1 152 j = S3.1 153 j) (fun S' => S'.2 = S3.2 ∧ (∀ o, o ≠ 152 → S'.1 o = S3.1 o) ∧ ∀ j, j < 11 → S'.1 152 j = S3.1 153 j) ?_ ?_ 400 0 S3 (by omega) (by omega) ⟨rfl, fun _ _ => rfl, fun j h => by omega⟩) ?_
  · intro n k S4 hk ⟨v0, v1, v2⟩ ih
    rw [L_X7_builds_61]
    refine wp_ifp (lt11 hk) (wp_gd (inn' hk (by omega)) ?_)
    show wp (L_X7_builds_61 n (nI k + 1) (setI S4 152 (ix (nI k)) (S4.1 153 (ix (nI k))))) _
    rw [nIs, ixn (by omega)]
    refine ih _ ⟨v0, fun o ho => (setI_o ho).1.trans (v1 o ho), fun j hj => ?_⟩
    by_cases e : j = k
    · subst e; rw [setI_s, v1 153 (by decide)]
    · rw [setI_n (by omega)]; exact v2 j (by omega)
  · intro n S4 h4
    rw [L_X7_builds_61]
    exact wp_ifn nlt11 (wp_some h4)
  intro S4 ⟨v0, v1, v2⟩
  refine wp_lt (wp_some ?_)
  generalize hS5 : setI S4 140 18 (S4.1 140 19) = S5
  have i5 : ∀ o k, o ≠ 152 → ¬ (o = 140 ∧ k = 18) → S5.1 o k = S2.1 o k := fun o k h1 h2 => by rw [← hS5, setI_n h2, v1 o h1, u1]
  have j5 : ∀ o, o ≠ 149 → S5.2 o = S2.2 o := fun o ho => by
    rw [← hS5]
    show S4.2 o = _
    rw [v0]
    exact u2 o ho
  have hl10 := hl
  refine ⟨⟨fun o k q => ?_, fun o k q => ?_⟩, ⟨?_, fun i hi => ⟨?_, ?_⟩⟩, ⟨?_, fun i hi => ⟨?_, ?_⟩⟩⟩
  · rw [i5 o k (by omega) (by omega)]; exact q1.1 o k q
  · rw [j5 o (by omega)]; exact q1.2 o k q
  · rw [i5 _ _ (by omega) (by omega)]; exact q2.1
  · rw [i5 _ _ (by omega) (by omega)]; exact (q2.2 i hi).1
  · obtain ⟨z, h1, h2⟩ := (q2.2 i hi).2
    exact ⟨z, h1, fun k hk => by rw [j5 150 (by omega)]; exact h2 k hk⟩
  · rw [← hS5, setI_s, v1 140 (by decide), u1]; exact q2.1
  · rw [← hS5, setI_n (by omega), v2 i (by omega), u1]; exact (q2.2 i hi).1
  · obtain ⟨z, h1, h2⟩ := (q2.2 i hi).2
    refine ⟨z, h1, fun k hk => ?_⟩
    rw [← hS5]
    show S4.2 149 _ = _
    rw [v0, u3 _ (by omega)]
    exact h2 k hk
theorem s_loads {S : Sg} {g : Gh} (hl : g.length ≤ 10) (hR : RX 149 152 18 S g) : wp (f_X7_loads S) (fun S' => Fm (fun o k => o = 153 ∨ (o = 140 ∧ k = 19)) (fun o _ => o = 150) S S' ∧ RX 150 153 19 S' g) := by
  unfold f_X7_loads
  refine wp_bdm (up (F := fun n k S' => L_X7_loads_2 n (nI k) S') 110 (fun k S' => S'.1 = S.1 ∧ (∀ o, o ≠ 150 → S'.2 o = S.2 o) ∧ ∀ j, j < k → S'.2 150 j = S.2 149 j) (fun S' => S'.1 = S.1 ∧ (∀ o, o ≠ 150 → S'.2 o = S.2 o) ∧ ∀ j, j < 110 → S'.2 150 j = S.2 149 j) ?_ ?_ 400 0 S (by omega) (by omega) ⟨rfl, fun _ _ => rfl, fun j h => by omega⟩) ?_
  · intro n k S3 hk ⟨u1, u2, u3⟩ ih
    rw [L_X7_loads_2]
    refine wp_ifp (lt110 hk) (wp_gd (inn' hk (by omega)) ?_)
    show wp (L_X7_loads_2 n (nI k + 1) (setJ S3 150 (ix (nI k)) (S3.2 149 (ix (nI k))))) _
    rw [nIs, ixn (by omega)]
    refine ih _ ⟨u1, fun o ho => (setJ_o ho).2.trans (u2 o ho), fun j hj => ?_⟩
    by_cases e : j = k
    · subst e; rw [setJ_s, u2 149 (by decide)]
    · rw [setJ_n (by omega)]; exact u3 j (by omega)
  · intro n S3 h3
    rw [L_X7_loads_2]
    exact wp_ifn nlt110 (wp_some h3)
  intro S3 ⟨u1, u2, u3⟩
  refine wp_bdm (up (F := fun n k S' => L_X7_loads_28 n (nI k) S') 11 (fun k S' => S'.2 = S3.2 ∧ (∀ o, o ≠ 153 → S'.1 o = S3.1 o) ∧ ∀ j, j < k → S'.1 153 j = S3.1 152 j) (fun S' => S'.2 = S3.2 ∧ (∀ o, o ≠ 153 → S'.1 o = S3.1 o) ∧ ∀ j, j < 11 → S'.1 153 j = S3.1 152 j) ?_ ?_ 400 0 S3 (by omega) (by omega) ⟨rfl, fun _ _ => rfl, fun j h => by omega⟩) ?_
  · intro n k S4 hk ⟨v0, v1, v2⟩ ih
    rw [L_X7_loads_28]
    refine wp_ifp (lt11 hk) (wp_gd (inn' hk (by omega)) ?_)
    show wp (L_X7_loads_28 n (nI k + 1) (setI S4 153 (ix (nI k)) (S4.1 152 (ix (nI k))))) _
    rw [nIs, ixn (by omega)]
    refine ih _ ⟨v0, fun o ho => (setI_o ho).1.trans (v1 o ho), fun j hj => ?_⟩
    by_cases e : j = k
    · subst e; rw [setI_s, v1 152 (by decide)]
    · rw [setI_n (by omega)]; exact v2 j (by omega)
  · intro n S4 h4
    rw [L_X7_loads_28]
    exact wp_ifn nlt11 (wp_some h4)
  intro S4 ⟨v0, v1, v2⟩
  refine wp_lt (wp_some ?_)
  generalize hS5 : setI S4 140 19 (S4.1 140 18) = S5
  have j5 : S5.2 = S3.2 := by rw [← hS5]; exact v0
  refine ⟨⟨fun o k q => ?_, fun o k q => ?_⟩, ⟨?_, fun i hi => ⟨?_, ?_⟩⟩⟩
  · rw [← hS5, setI_n (by omega), v1 o (by omega), u1]
  · rw [j5, u2 o (by omega)]
  · rw [← hS5, setI_s, v1 140 (by decide), u1]; exact hR.1
  · rw [← hS5, setI_n (by omega), v2 i (by omega), u1]; exact (hR.2 i hi).1
  · obtain ⟨z, h1, h2⟩ := (hR.2 i hi).2
    exact ⟨z, h1, fun k hk => by rw [j5, u3 _ (by omega)]; exact h2 k hk⟩
-- how many are not 0
def cnz (z : Nat → Int) : Nat → Nat
  | 0 => 0
  | n + 1 => if z n = 0 then cnz z n else cnz z n + 1
theorem cnz_le (z : Nat → Int) : ∀ n, cnz z n ≤ n
  | 0 => Nat.le_refl _
  | n + 1 => by
    have := cnz_le z n
    show (if _ then _ else _) ≤ _
    by_cases h : z n = 0
    · rw [if_pos h]; omega
    · rw [if_neg h]; omega
theorem cnz_cut {z : Nat → Int} {p : Nat} (hz : z p ≠ 0) : ∀ n, cnz z n = cnz (fun k => if k = p then 0 else z k) n + (if p < n then 1 else 0) := by
  intro n
  induction n with
  | zero => rfl
  | succ n ih =>
    show (if z n = 0 then cnz z n else cnz z n + 1) = (if (if n = p then (0 : Int) else z n) = 0 then cnz _ n else cnz _ n + 1) + _
    by_cases e : n = p
    · subst e
      rw [if_neg hz, if_pos rfl, if_pos rfl, ih, if_neg (by omega), if_pos (by omega)]
    · rw [if_neg (c := n = p) e, ih]
      by_cases h : z n = 0
      · rw [if_pos h, if_pos h]
        by_cases h2 : p < n
        · rw [if_pos h2, if_pos (by omega)]
        · rw [if_neg h2, if_neg (by omega)]
      · rw [if_neg h, if_neg h]
        by_cases h2 : p < n
        · rw [if_pos h2, if_pos (by omega)]
        · rw [if_neg h2, if_neg (by omega)]
theorem cnz_0 {z : Nat → Int} : ∀ n, cnz z n = 0 ↔ ∀ k, k < n → z k = 0 := by
  intro n
  induction n with
  | zero => exact ⟨fun _ k h => by omega, fun _ => rfl⟩
  | succ n ih =>
    show (if z n = 0 then cnz z n else cnz z n + 1) = 0 ↔ _
    by_cases h : z n = 0
    · rw [if_pos h, ih]
      exact ⟨fun q k hk => by
        by_cases e : k = n
        · rw [e]; exact h
        · exact q k (by omega), fun q k hk => q k (by omega)⟩
    · rw [if_neg h]
      exact ⟨fun q => by omega, fun q => absurd (q n (by omega)) h⟩
theorem cnz_1 {z : Nat → Int} {p : Nat} (hp : p < 10) (hz : z p ≠ 0) : cnz z 10 = 1 ↔ ∀ k, k < 10 → k ≠ p → z k = 0 := by
  rw [cnz_cut hz, if_pos hp]
  have h0 := cnz_0 (z := fun k => if k = p then 0 else z k) 10
  constructor
  · intro h k hk hkp
    have := h0.mp (by omega) k hk
    rwa [if_neg hkp] at this
  · intro h
    rw [h0.mpr fun k hk => by
      show (if k = p then (0 : Int) else z k) = 0
      by_cases e : k = p
      · rw [if_pos e]
      · rw [if_neg e]; exact h k hk e]
theorem cnz_2 {z : Nat → Int} {p : Nat} (hp : p < 10) (hz : z p ≠ 0) : cnz z 10 = 2 ↔ ∃ k, k < 10 ∧ k ≠ p ∧ z k ≠ 0 ∧ ∀ j, j < 10 → j ≠ p → j ≠ k → z j = 0 := by
  have hc := cnz_cut hz 10
  rw [if_pos hp] at hc
  constructor
  · intro h
    -- some other one
    have ⟨k, hk⟩ : ∃ k, ¬ (k < 10 → k ≠ p → z k = 0) := Classical.not_forall.mp fun q => by
      have := (cnz_1 hp hz).mpr q
      omega
    have h1 : k < 10 := Classical.byContradiction fun q => hk fun r => absurd r q
    have h2 : k ≠ p := fun e => hk fun _ r => absurd e r
    have h3 : z k ≠ 0 := fun e => hk fun _ _ => e
    refine ⟨k, h1, h2, h3, fun j hj hjp hjk => ?_⟩
    have h4 : (fun k => if k = p then (0 : Int) else z k) k ≠ 0 := by show (if k = p then (0 : Int) else z k) ≠ 0; rw [if_neg h2]; exact h3
    have h5 := (cnz_1 (z := fun k => if k = p then (0 : Int) else z k) h1 h4).mp (by omega) j hj hjk
    rwa [if_neg hjp] at h5
  · rintro ⟨k, h1, h2, h3, h4⟩
    have h5 : (fun k => if k = p then (0 : Int) else z k) k ≠ 0 := by show (if k = p then (0 : Int) else z k) ≠ 0; rw [if_neg h2]; exact h3
    have h6 := (cnz_1 (z := fun k => if k = p then (0 : Int) else z k) h1 h5).mpr fun j hj hjk => by
      show (if j = p then (0 : Int) else z j) = 0
      by_cases e : j = p
      · rw [if_pos e]
      · rw [if_neg e]; exact h4 j hj e hjk
    omega
theorem s_manyNot0 {S : Sg} {i : Nat} {z : Nat → Int} (h : rowA S 150 (10 * i) z) (hb : bdd z 9000000000000000000) (hi : i < 11) : f_X7_manyNot0 (nI i) S = some (nI (cnz z 10)) := by
  apply wp_to
  unfold f_X7_manyNot0
  refine wp_bdm (up (F := fun n k (x : Int32) => L_X7_manyNot0_4 (nI i) S n x (nI k)) 10 (fun k x => x = nI (cnz z k)) (fun x => x = nI (cnz z 10)) ?_ ?_ 400 0 0 (by omega) (by omega) rfl) (fun x h => wp_some h)
  · intro n k x hk hp ih
    rw [L_X7_manyNot0_4]
    refine wp_ifp (lt10 hk) ?_
    rw [ten, nI_mul, nI_add, ixn (by omega), h k hk, hp]
    refine wp_gd (inn' (by omega) (by omega)) ?_
    have hz : J (z k) = (0 : Int64) ↔ z k = 0 := J_z (hb k hk)
    by_cases e : z k = 0
    · refine wp_ltq 0 (if_pos (hz.mpr e)) ?_
      show wp (L_X7_manyNot0_4 (nI i) S n (nI (cnz z k) + 0) (nI k + 1)) _
      rw [nIs]
      refine ih _ ?_
      show nI (cnz z k) + nI 0 = nI (if z k = 0 then cnz z k else cnz z k + 1)
      rw [nI_add, if_pos e]
      rfl
    · refine wp_ltq 1 (if_neg (fun q => e (hz.mp q))) ?_
      show wp (L_X7_manyNot0_4 (nI i) S n (nI (cnz z k) + 1) (nI k + 1)) _
      rw [nIs, nIs]
      refine ih _ ?_
      show nI (cnz z k + 1) = nI (if z k = 0 then cnz z k else cnz z k + 1)
      rw [if_neg e]
  · intro n x hp
    rw [L_X7_manyNot0_4]
    exact wp_ifn (nlt10 (Nat.le_refl _) (by omega)) (wp_some hp)
