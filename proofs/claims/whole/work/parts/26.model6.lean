theorem gs_bd10 {g : Gh} (h : gsmall g 10) : -1935000000 ≤ gs g ∧ gs g ≤ 1935000000 :=
  sq_b (gs_le g h.1 h.2.1) (Int.le_trans (pow72 10 _ h.2.2) (by rw [p10]; decide)) (by decide)
theorem tt_bdd10 {g : Gh} (h : gsmall g 10) {i : Nat} (hi : i < g.length) : bdd (tt g (gpv g i)) 1935000000 := fun c hc => by
  by_cases e : c = gpv g i
  · rw [e, tt_own hi]; exact gs_bd10 h
  · unfold tt
    rw [if_neg e]
    have := gl_bd10 h (gpv_lt h.1 hi) c hc
    omega
theorem rowOK_bdd10 {g : Gh} (h : gsmall g 10) {i : Nat} (hi : i < g.length) {z : Nat → Int} (hz : RowOK g (gpv g i) z) : bdd z 1935000000 := by
  have hp : PP z (tt g (gpv g i)) := ⟨gs g, z (gpv g i), gs_ne g h.1, by have := hz.1; omega, hz.2.2⟩
  exact hp.bdd (by decide) (Or.inr hz.2.1) (tt_bdd10 h hi)
theorem isIn_lit {p lo hi : Nat} (h1 : p < 2 ^ 31) (h2 : lo < 2 ^ 31) (h3 : hi < 2 ^ 31) : f_X7_isIn (nI p) (nI lo) (nI hi) = if lo ≤ p ∧ p ≤ hi then 1 else 0 := by
  show (if nI p < nI lo then (0 : Int32) else if nI hi < nI p then 0 else 1) = _
  by_cases a : p < lo
  · rw [if_pos ((nI_ltI h1 h2).mpr a), if_neg (by omega)]
  · rw [if_neg (fun q => a ((nI_ltI h1 h2).mp q))]
    by_cases b : hi < p
    · rw [if_pos ((nI_ltI h3 h1).mpr b), if_neg (by omega)]
    · rw [if_neg (fun q => b ((nI_ltI h3 h1).mp q)), if_pos (by omega)]
theorem lt1 (p : Int32) {n : Nat} (hn : n < 2 ^ 31) (hp : ¬ p < 0) : nI n - 1 < p ↔ ¬ p < nI n := by
  obtain ⟨j, hj, rfl⟩ := of_nn (Int32.not_lt.mp hp)
  rw [nI_ltI hj hn]
  cases n with
  | zero =>
    have e : nI 0 - 1 = I (-1) := rfl
    rw [e, ← I_nI, I_lt (by omega) (by omega)]
    omega
  | succ n =>
    rw [nI_pred, nI_ltI (by omega) hj]
    omega
theorem isIn_w (p : Int32) {n : Nat} (hn : n < 2 ^ 31) : f_X7_isIn p 0 (nI n - 1) = f_X6_isWithin p (nI n) := by
  show (if p < 0 then (0 : Int32) else if nI n - 1 < p then 0 else 1) = (if p < 0 then (0 : Int32) else if p < nI n then 1 else 0)
  by_cases h : p < 0
  · rw [if_pos h, if_pos h]
  · rw [if_neg h, if_neg h]
    by_cases h2 : p < nI n
    · rw [if_pos h2, if_neg (fun q => (lt1 p hn h).mp q h2)]
    · rw [if_neg h2, if_pos ((lt1 p hn h).mpr h2)]
theorem s_isForbidden {S : Sg} {g : Gh} {a : Nat → Int} {p : Nat} {sz rl lm : Nat} (hg : gsmall g 9) (hdt : dt 10 a a ≤ 72) (ok : gok ((p, a) :: g)) (hR : RX 150 153 19 S ((p, a) :: g)) (hsz : S.1 140 12 = nI sz) (hs8 : sz ≤ 8) (hrl : rl < 4) (hlm : lm ≤ 10) : wp (f_X7_isForbidden (nI rl) (nI lm) S) (fun r => (r = 1 ∧ (fixes g a ∨ forb g a sz rl lm)) ∨ (r = 0 ∧ ¬ fixes g a ∧ ¬ forb g a sz rl lm)) := by
  have hg10 : gsmall ((p, a) :: g) 10 := ⟨ok, ⟨hg.2.1, hdt⟩, by have := hg.2.2; show g.length + 1 ≤ 10; omega⟩
  have hfix : fixes g a ↔ ¬ nofix ((p, a) :: g) := by
    constructor
    · rintro ⟨v, hv, h⟩ hn
      exact hn v hv ((fxd_iff ok hv).mp h)
    · intro h
      have ⟨v, hv⟩ : ∃ v, ¬ (v < 10 → ¬ ∀ c, c < 10 → gr ((p, a) :: g) (eb v) c = 0) := Classical.not_forall.mp h
      have h1 : v < 10 := Classical.byContradiction fun q => hv fun r => absurd r q
      have h2 : ∀ c, c < 10 → gr ((p, a) :: g) (eb v) c = 0 := Classical.byContradiction fun q => hv fun _ => q
      exact ⟨v, h1, (fxd_iff ok h1).mpr h2⟩
  have rne : ∀ k, k < 4 → (nI rl = nI k ↔ rl = k) := fun k hk => nI_eq (by omega) (by omega)
  unfold f_X7_isForbidden
  refine wp_bdm (s_isAnyFixed hg10 (fun i hi z hz => bdd_mono (rowOK_bdd10 hg10 hi hz) (by decide)) hR) ?_
  intro r hr
  rcases hr with ⟨rfl, h⟩ | ⟨rfl, hn⟩
  · exact wp_ifn (by decide) (wp_some (Or.inl ⟨rfl, Or.inl (hfix.mpr h)⟩))
  · have hnf : ¬ fixes g a := fun q => (hfix.mp q) hn
    refine wp_ifp rfl ?_
    refine wp_if (fun h1 => ?_) (fun h1 => ?_)
    · have e1 : rl = 1 := (rne 1 (by omega)).mp h1
      have fb : forb g a sz rl lm ↔ (sz < 2 ∨ 6 < sz) := by
        constructor
        · rintro (h | h | h)
          · exact h.2
          · have := h.1; omega
          · have := h.1; omega
        · intro h; exact Or.inl ⟨e1, h⟩
      rw [hsz, show (2 : Int32) = nI 2 from rfl, show (6 : Int32) = nI 6 from rfl, isIn_lit (by omega) (by omega) (by omega)]
      by_cases h2 : 2 ≤ sz ∧ sz ≤ 6
      · rw [if_pos h2]
        exact wp_ltq 0 rfl (wp_some (Or.inr ⟨rfl, hnf, fun q => by have := fb.mp q; omega⟩))
      · rw [if_neg h2]
        exact wp_ltq 1 rfl (wp_some (Or.inl ⟨rfl, Or.inr (fb.mpr (by omega))⟩))
    · have n1 : rl ≠ 1 := fun e => h1 ((rne 1 (by omega)).mpr e)
      refine wp_if (fun h2 => ?_) (fun h2 => ?_)
      · have e2 : rl = 2 := (rne 2 (by omega)).mp h2
        have fb : forb g a sz rl lm ↔ pr ((p, a) :: g) := by
          constructor
          · rintro (h | h | h)
            · exact absurd h.1 n1
            · obtain ⟨q2, h3, h4⟩ := h.2
              have e3 : q2 = p := fp_u ⟨h3.2.1, h3.2.2.1, h3.2.2.2⟩ ⟨ok.2.1, ok.2.2.1, ok.2.2.2⟩
              rw [← e3]; exact h4
            · have := h.1; omega
          · intro h; exact Or.inr (Or.inl ⟨e2, p, ok, h⟩)
        refine wp_bdm (s_isAnyPaired ⟨ok, hg10.2.1, len9 ok hn⟩ hn hR) ?_
        intro r hr
        rcases hr with ⟨e, h⟩ | ⟨e, h⟩
        · exact wp_some (Or.inl ⟨e, Or.inr (fb.mpr h)⟩)
        · exact wp_some (Or.inr ⟨e, hnf, fun q => h (fb.mp q)⟩)
      · have n2 : rl ≠ 2 := fun e => h2 ((rne 2 (by omega)).mpr e)
        rw [hR.1]
        have hl := hg.2.2
        have c1 : nI lm < nI ((p, a) :: g).length ↔ lm < g.length + 1 := nI_ltI (by omega) (by show g.length + 1 < _; omega)
        by_cases h3 : rl = 3
        · have fb : forb g a sz rl lm ↔ lm < g.length + 1 := by
            constructor
            · rintro (h | h | h)
              · exact absurd h.1 n1
              · exact absurd h.1 n2
              · exact h.2
            · intro h; exact Or.inr (Or.inr ⟨h3, h⟩)
          rw [if_pos (show nI rl = (3 : Int32) from (rne 3 (by omega)).mpr h3)]
          by_cases h4 : lm < g.length + 1
          · rw [if_pos (c1.mpr h4)]; exact wp_lt (wp_some (Or.inl ⟨rfl, Or.inr (fb.mpr h4)⟩))
          · rw [if_neg (fun z => h4 (c1.mp z))]; exact wp_lt (wp_some (Or.inr ⟨rfl, hnf, fun z => h4 (fb.mp z)⟩))
        · rw [if_neg (show ¬ nI rl = (3 : Int32) from fun z => h3 ((rne 3 (by omega)).mp z))]
          refine wp_lt (wp_some (Or.inr ⟨rfl, hnf, ?_⟩))
          rintro (h | h | h)
          · exact n1 h.1
          · exact n2 h.1
          · exact h3 h.1
/-- the question lies asked -/
def AW (S : Sg) (a : Nat → Int) (sz : Nat) : Prop := (∀ k, k < 10 → S.1 148 k = I (a k)) ∧ S.1 140 12 = nI sz
abbrev mbI : Nat → Nat → Prop := fun o k => o = 153 ∨ (o = 140 ∧ k = 19)
abbrev mbJ : Nat → Nat → Prop := fun o _ => o = 150 ∨ o = 151
theorem s_meetsBy {S : Sg} {g : Gh} {a : Nat → Int} {sz rl lm : Nat} (hg : gsmall g 9) (hB : RX 149 152 18 S g) (hA : AW S a sz) (hs8 : sz ≤ 8) (hab : bdd a 3) (hdt : dt 10 a a ≤ 72) (hrl : rl < 4) (hlm : lm ≤ 10) : wp (f_X7_meetsBy (nI rl) (nI lm) S) (fun z => Meet g a sz rl lm z.1 ∧ Fm mbI mbJ S z.2) := by
  have hl := hg.2.2
  unfold f_X7_meetsBy
  refine wp_bdm (s_loads (by omega) hB) ?_
  intro S1 ⟨f1, r1⟩
  have f1' : Fm mbI mbJ S S1 := f1.mono (fun o k q => by omega) (fun o k q => by omega)
  obtain ⟨z, hz⟩ := r1.ra
  have a1 : ∀ k, k < 10 → S1.1 148 (0 + k) = I (a k) := fun k hk => by rw [Nat.zero_add, f1.1 _ _ (by omega)]; exact hA.1 k hk
  rw [show (0 : Int32) = nI 0 from rfl]
  refine wp_bdm (s_reduces hg hz a1 hab ⟨by omega, by omega⟩) ?_
  intro S2 ⟨f2, x, x1, x2, x3⟩
  have f2' : Fm mbI mbJ S1 S2 := f2.fm fun _ => Or.inr rfl
  refine wp_bdm (s_firstOfOne x1 (bdd_mono (x2.bdd (by decide) x3 (gr_bd hg hdt)) (by decide))) ?_
  intro r hr
  rcases firstOf_fp hr with ⟨q, hq, rfl⟩ | ⟨rfl, hzz⟩
  · have hq10 := hq.1
    have hnz : ¬ zer g a := fun h => hq.2.1 ((x2.z hq10).mpr (h q hq10))
    refine wp_ifn (nI_pos (by omega)) ?_
    have a2 : ∀ k, k < 10 → S2.1 148 (0 + k) = I (a k) := fun k hk => by rw [f2.1]; exact a1 k hk
    refine wp_bdm (s_adds (f1 := 0) hg ((hz.fo f2.1 (f2.2.1 150 (by decide))).rx) a2 hab hdt ⟨by omega, by omega⟩) ?_
    intro S3 ⟨f3, h3⟩
    rcases h3 with ⟨h, _⟩ | ⟨p, ok, r3⟩
    · exact absurd h hnz
    · have e12 : S3.1 140 12 = nI sz := by rw [f3.1 _ _ (by omega), f2.1, f1.1 _ _ (by omega)]; exact hA.2
      refine wp_bdm (s_isForbidden hg hdt ok r3 e12 hs8 hrl hlm) ?_
      intro r hr
      have fr : Fm mbI mbJ S S3 := (f1'.tr f2').tr (f3.mono (fun o k q => by omega) (fun o k q => by omega))
      rcases hr with ⟨rfl, h⟩ | ⟨rfl, h, h'⟩
      · exact wp_ltq 2 rfl (wp_some ⟨Or.inr (Or.inl ⟨rfl, hnz, h⟩), fr⟩)
      · exact wp_ltq 1 rfl (wp_some ⟨Or.inr (Or.inr ⟨rfl, hnz, h, h'⟩), fr⟩)
  · exact wp_ifp (by decide) (wp_some ⟨Or.inl ⟨rfl, fun c hc => (x2.z hc).mp (hzz c hc)⟩, f1'.tr f2'⟩)
theorem wok_rbd {w : Wd} (h : wok w) : rbd (gh w) := rows_bdd h
abbrev mnI : Nat → Nat → Prop := lsI
abbrev mnJ : Nat → Nat → Prop := lsJ
theorem AW.fm {S S' : Sg} {a : Nat → Int} {sz : Nat} {AI AJ : Nat → Nat → Prop} (h : AW S a sz) (hf : Fm AI AJ S S') (hA : (∀ k, ¬ AI 148 k) ∧ ¬ AI 140 12) : AW S' a sz := ⟨fun k hk => by rw [hf.1 _ _ (hA.1 k)]; exact h.1 k hk, by rw [hf.1 _ _ hA.2]; exact h.2⟩
theorem qbd {w : Wd} {wt : Nat → Int} (hwt : qok wt) : bdd (qrow w wt) 3 := fun v _ => ar_bdd hwt 8 (Nat.le_refl _) v
theorem s_meetsNow {S : Sg} {w : Wd} {wt : Nat → Int} (hw : MW S w) (hk : wok w) (hf : nofix (gh w)) (hA : AW S (qrow w wt) (szOf wt 8)) (hwt : qok wt) : wp (f_X7_meetsNow S) (fun z => Meet (gh w) (qrow w wt) (szOf wt 8) (num w 1) (num w 2) z.1 ∧ Fm lsI lsJ S z.2) := by
  have hg := wok_sm hk hf
  have ho : ∀ k, k < 8 → own w k < 10 := fun k h => own10 hk h
  unfold f_X7_meetsNow
  refine wp_bdm (s_builds hw hg (rows_bdd hk)) ?_
  intro S1 ⟨f1, _, r2⟩
  have hw1 : MW S1 w := hw.fm f1 (fun o k q r => by omega)
  rw [hw1.2.2.1.2.1, hw1.2.2.1.2.2.1]
  refine wp_bdm (s_meetsBy hg r2 (hA.fm f1 ⟨fun k => by omega, by omega⟩) (szOf_le wt 8) (qbd hwt) (qdt ho hwt) hk.2.2.2.1 hk.2.2.2.2.1) ?_
  intro ⟨m, S2⟩ ⟨h1, h2⟩
  exact wp_some ⟨h1, f1.tr (h2.mono (fun o k q => by omega) (fun o k q => by omega))⟩
theorem s_tansM {S : Sg} {w : Wd} {wt : Nat → Int} (hw : MW S w) (hk : wok w) (hA : ∀ k, k < 10 → S.1 148 k = I (qrow w wt k)) : f_X7_trueAnswer S = some (I (tans w wt)) := by
  have e : tans w wt = sm 10 (fun v => qrow w wt v * dat w 0 v) := (ar_sum (dat w 0) (fun p hp => own10 hk hp) hk.2.1 8 (Nat.le_refl _)).symm
  rw [e]
  apply wp_to
  unfold f_X7_trueAnswer
  refine wp_bdm (up (F := fun n k (x : Int32) => L_X7_trueAnswer_4 S n x (nI k)) 10 (fun k x => x = I (sm k (fun v => qrow w wt v * dat w 0 v))) (fun x => x = I (sm 10 (fun v => qrow w wt v * dat w 0 v))) ?_ ?_ 400 0 0 (by omega) (by omega) rfl) (fun x h => wp_some h)
  · intro n k x hk10 hp ih
    rw [L_X7_trueAnswer_4]
    refine wp_ifp (lt10 hk10) (wp_gd (inn' hk10 (by omega)) ?_)
    show wp (L_X7_trueAnswer_4 S n (x + S.1 148 (ix (nI k)) * S.1 142 (ix (nI k))) (nI k + 1)) _
    rw [nIs, ixn (by omega), hA k hk10, (hw.2.1 k hk10).1]
    exact ih _ (by rw [hp, I_mul, I_add]; rfl)
  · intro n x hp
    rw [L_X7_trueAnswer_4]
    exact wp_ifn (nlt10 (Nat.le_refl _) (by omega)) (wp_some hp)
abbrev joI : Nat → Nat → Prop := fun o k => o = 146 ∨ o = 147 ∨ (o = 140 ∧ k = 8)
theorem s_joins {S : Sg} {w : Wd} {wt : Nat → Int} (hw : MW S w) (hk : wok w) (hl : (gh w).length ≤ 9) (hA : ∀ k, k < 10 → S.1 148 k = I (qrow w wt k)) (q : Nat) : wp (f_X7_joins S) (fun S' => Fm joI (fun _ _ => False) S S' ∧ MW S' (wjoin w q (qrow w wt) (tans w wt))) := by
  unfold f_X7_joins
  have er := hw.2.2.1.2.2.2
  refine wp_bdm (up (F := fun n k S' => L_X7_joins_2 n (nI k) S') 10 (fun k S' => S'.2 = S.2 ∧ (∀ o, o ≠ 146 → S'.1 o = S.1 o) ∧ (∀ j, j < 10 * (gh w).length ∨ 10 * (gh w).length + 10 ≤ j → S'.1 146 j = S.1 146 j) ∧ ∀ j, j < k → S'.1 146 (10 * (gh w).length + j) = I (qrow w wt j)) (fun S' => S'.2 = S.2 ∧ (∀ o, o ≠ 146 → S'.1 o = S.1 o) ∧ (∀ j, j < 10 * (gh w).length ∨ 10 * (gh w).length + 10 ≤ j → S'.1 146 j = S.1 146 j) ∧ ∀ j, j < 10 → S'.1 146 (10 * (gh w).length + j) = I (qrow w wt j)) ?_ ?_ 400 0 S (by omega) (by omega) ⟨rfl, fun _ _ => rfl, fun _ _ => rfl, fun j h => by omega⟩) ?_
  · intro n k S2 hk10 ⟨u0, u1, u2, u3⟩ ih
    rw [L_X7_joins_2]
    refine wp_ifp (lt10 hk10) (wp_gd (inn' hk10 (by omega)) ?_)
    rw [u1 140 (by decide), er, ten, nI_mul, nI_add, ixn (by omega), ixn (by omega)]
    refine wp_gd (inn' (by omega) (by omega)) ?_
    show wp (L_X7_joins_2 n (nI k + 1) (setI S2 146 (10 * (gh w).length + k) (S2.1 148 k))) _
    rw [nIs, u1 148 (by decide), hA k hk10]
    refine ih _ ⟨u0, fun o ho => (setI_o ho).1.trans (u1 o ho), fun j hj => by rw [setI_n (by omega)]; exact u2 j hj, fun j hj => ?_⟩
    by_cases e : j = k
    · subst e; exact setI_s
    · rw [setI_n (by omega)]; exact u3 j (by omega)
  · intro n S2 h2
    rw [L_X7_joins_2]
    exact wp_ifn (nlt10 (Nat.le_refl _) (by omega)) (wp_some h2)
  intro S1 ⟨u0, u1, u2, u3⟩
  have hw1 : f_X7_trueAnswer S1 = some (I (tans w wt)) := by
    -- it reads the question and the values alone
    have e : tans w wt = sm 10 (fun v => qrow w wt v * dat w 0 v) := (ar_sum (dat w 0) (fun p hp => own10 hk hp) hk.2.1 8 (Nat.le_refl _)).symm
    rw [e]
    apply wp_to
    unfold f_X7_trueAnswer
    refine wp_bdm (up (F := fun n k (x : Int32) => L_X7_trueAnswer_4 S1 n x (nI k)) 10 (fun k x => x = I (sm k (fun v => qrow w wt v * dat w 0 v))) (fun x => x = I (sm 10 (fun v => qrow w wt v * dat w 0 v))) ?_ ?_ 400 0 0 (by omega) (by omega) rfl) (fun x h => wp_some h)
    · intro n k x hk10 hp ih
      rw [L_X7_trueAnswer_4]
      refine wp_ifp (lt10 hk10) (wp_gd (inn' hk10 (by omega)) ?_)
      show wp (L_X7_trueAnswer_4 S1 n (x + S1.1 148 (ix (nI k)) * S1.1 142 (ix (nI k))) (nI k + 1)) _
      rw [nIs, ixn (by omega), u1 148 (by decide), u1 142 (by decide), hA k hk10, (hw.2.1 k hk10).1]
      exact ih _ (by rw [hp, I_mul, I_add]; rfl)
    · intro n x hp
      rw [L_X7_trueAnswer_4]
      exact wp_ifn (nlt10 (Nat.le_refl _) (by omega)) (wp_some hp)
  rw [hw1]
  refine wp_bds rfl ?_
  rw [u1 140 (by decide), er]
  refine wp_gd (inn' (by omega) (by omega)) (wp_lt (wp_lt (wp_some ?_)))
  rw [ixn (by omega)]
  generalize hS2 : setI S1 147 (gh w).length (I (tans w wt)) = S2
  have e2 : S2.1 140 8 = nI (gh w).length := by rw [← hS2, setI_n (by omega), u1 140 (by decide)]; exact er
  rw [e2, nIs]
  generalize hS3 : setI S2 140 8 (nI ((gh w).length + 1)) = S3
  have k3 : ∀ o j, o ≠ 146 → o ≠ 147 → ¬ (o = 140 ∧ j = 8) → S3.1 o j = S.1 o j := fun o j h1 h2 h3 => by rw [← hS3, setI_n h3, ← hS2, setI_n (by omega), u1 o h1]
  have k146 : ∀ j, S3.1 146 j = S1.1 146 j := fun j => by rw [← hS3, setI_n (by omega), ← hS2, setI_n (by omega)]
  obtain ⟨h1, h2, h3, h4⟩ := hw
  refine ⟨⟨fun o j q => k3 o j (by omega) (by omega) (by omega), fun o j _ => by rw [← hS3, ← hS2]; show S1.2 o j = _; rw [u0]⟩, fun j hj => ?_, fun j hj => ?_, ⟨?_, ?_, ?_, ?_⟩, fun i hi => ?_⟩
  · rw [k3 _ _ (by omega) (by omega) (by omega)]; exact h1 j hj
  · rw [k3 _ _ (by omega) (by omega) (by omega), k3 _ _ (by omega) (by omega) (by omega), k3 _ _ (by omega) (by omega) (by omega)]; exact h2 j hj
  · rw [k3 _ _ (by omega) (by omega) (by omega)]; exact h3.1
  · rw [k3 _ _ (by omega) (by omega) (by omega)]; exact h3.2.1
  · rw [k3 _ _ (by omega) (by omega) (by omega)]; exact h3.2.2.1
  · rw [← hS3, setI_s]; rfl
  · have hi' : i < (gh w).length + 1 := hi
    by_cases e : i = (gh w).length
    · subst e
      refine ⟨?_, fun v hv => ?_⟩
      · rw [← hS3, setI_n (by omega), ← hS2, setI_s]
        show I (tans w wt) = I (if 3 = 3 ∧ (gh w).length = (gh w).length then _ else _)
        rw [if_pos ⟨rfl, rfl⟩]
      · rw [k146, u3 v hv]
        show _ = I (gro ((q, qrow w wt) :: gh w) (gh w).length v)
        rw [gro_new]
    · refine ⟨?_, fun v hv => ?_⟩
      · rw [← hS3, setI_n (by omega), ← hS2, setI_n (by omega), u1 147 (by decide)]
        show _ = I (if 3 = 3 ∧ i = (gh w).length then _ else _)
        rw [if_neg (fun z => e z.2)]
        exact (h4 i (by omega)).1
      · rw [k146, u2 _ (by omega)]
        show _ = I (gro ((q, qrow w wt) :: gh w) i v)
        rw [gro_old (by omega)]
        exact (h4 i (by omega)).2 v hv
abbrev iaI : Nat → Nat → Prop := fun o k => lsI o k ∨ joI o k
theorem s_isAsked {S : Sg} {w : Wd} {wt : Nat → Int} (hw : MW S w) (hk : wok w) (hf : nofix (gh w)) (hA : AW S (qrow w wt) (szOf wt 8)) (hwt : qok wt) : wp (f_X7_isAsked S) (fun z => Meet (gh w) (qrow w wt) (szOf wt 8) (num w 1) (num w 2) z.1 ∧ Fm iaI lsJ S z.2 ∧ ((z.1 ≠ 1 ∧ MW z.2 w) ∨ (z.1 = 1 ∧ ∀ q, MW z.2 (wjoin w q (qrow w wt) (tans w wt))))) := by
  unfold f_X7_isAsked
  refine wp_bdm (s_meetsNow hw hk hf hA hwt) ?_
  intro ⟨m, S1⟩ ⟨h1, f1⟩
  have hw1 : MW S1 w := hw.fm f1 (fun o k q r => by omega)
  have f1' : Fm iaI lsJ S S1 := f1.mono (fun o k q => Or.inl q) (fun o k q => q)
  show wp (if m = 1 then _ else _) _
  refine wp_if (fun hm => ?_) (fun hm => ?_)
  · have hA1 : ∀ k, k < 10 → S1.1 148 k = I (qrow w wt k) := fun k hk10 => by rw [f1.1 _ _ (by omega)]; exact hA.1 k hk10
    have hl9 := (wok_sm hk hf).2.2
    -- the state behind does not hang on the pivot
    refine wp_bdm (P := fun S' => Fm joI (fun _ _ => False) S1 S' ∧ ∀ q, MW S' (wjoin w q (qrow w wt) (tans w wt))) ?_ ?_
    · obtain ⟨S2, e2, g1, g2⟩ := s_joins hw1 hk hl9 hA1 0
      refine ⟨S2, e2, g1, fun q => ?_⟩
      obtain ⟨S2', e2', _, g2'⟩ := s_joins hw1 hk hl9 hA1 q
      rw [e2] at e2'
      cases e2'
      exact g2'
    · intro S2 ⟨g1, g2⟩
      exact wp_some ⟨h1, f1'.tr (g1.mono (fun o k q => Or.inr q) (fun o k q => q.elim)), Or.inr ⟨hm, g2⟩⟩
  · exact wp_some ⟨h1, f1', Or.inl ⟨hm, hw1⟩⟩
-- the weights of a question
def bt (a : Int32) (p : Nat) : Int := if a.toBitVec.getLsbD p = true then 1 else 0
def wq (kind a b : Int32) (p : Nat) : Int := if kind = 1 then bt a p - bt b p else if kind = 0 then bt a p else bt a p * (((p % b.toNatClampNeg : Nat) : Int) + 1)
/-- a question that can be -/
def qv (kind b : Int32) : Prop := kind = 0 ∨ kind = 1 ∨ (kind = 2 ∧ ∃ n, 0 < n ∧ n < 4 ∧ b = nI n)
theorem bt_01 (a : Int32) (p : Nat) : 0 ≤ bt a p ∧ bt a p ≤ 1 := by
  unfold bt
  by_cases h : a.toBitVec.getLsbD p = true
  · rw [if_pos h]; omega
  · rw [if_neg h]; omega
theorem wq_ok {kind a b : Int32} (h : qv kind b) : qok (wq kind a b) := by
  intro p hp
  have h1 := bt_01 a p
  have h2 := bt_01 b p
  unfold wq
  rcases h with rfl | rfl | ⟨rfl, n, hn0, hn, rfl⟩
  · rw [if_neg (by decide), if_pos rfl]; omega
  · rw [if_pos rfl]; omega
  · rw [if_neg (by decide), if_neg (by decide), show (nI n).toNatClampNeg = n from nI_clamp (by omega)]
    have h3 := Nat.mod_lt p hn0
    have := mulb (x := bt a p) (y := ((p % n : Nat) : Int) + 1) (A := 1) (B := 3) (by omega) (by omega)
    omega
theorem bit_I (x : Int32) {j : Nat} (hj : j < 32) : (isr x (nI j) &&& 1) = I (bt x j) := by
  rw [bit_test x hj]
  unfold bt
  by_cases h : x.toBitVec.getLsbD j = true
  · rw [if_pos h, if_pos h]; rfl
  · rw [if_neg h, if_neg h]; rfl
theorem irem_small : ∀ p, p < 8 → ∀ n, n < 4 → 0 < n → irem (nI p) (nI n) = nI (p % n) := by decide +kernel
theorem s_weight {kind a b : Int32} (h : qv kind b) {p : Nat} (hp : p < 8) : f_X7_weight kind a b (nI p) = some (I (wq kind a b p)) := by
  have n01 : ¬ (0 : Int32) = 1 := by decide
  have n21 : ¬ (2 : Int32) = 1 := by decide
  have n20 : ¬ (2 : Int32) = 0 := by decide
  have hb := bt_01 a p
  have hh : f_X7_has a (nI p) = if bt a p = 1 then 1 else 0 := by
    show (if (isr a (nI p) &&& 1) = 1 then (1 : Int32) else 0) = _
    rw [bit_I a (by omega)]
    by_cases e : bt a p = 1
    · rw [e]; rfl
    · have e2 : bt a p = 0 := by omega
      rw [e2]; rfl
  unfold f_X7_weight wq
  rw [hh, bit_I a (by omega), bit_I b (by omega)]
  rcases h with rfl | rfl | ⟨rfl, n, hn0, hn, rfl⟩
  · rw [if_neg n01, if_neg n01]
    by_cases e : bt a p = 1
    · rw [e]; rfl
    · have e2 : bt a p = 0 := by omega
      rw [e2]; rfl
  · rw [if_pos rfl, if_pos rfl, I_sub]
  · rw [if_neg n21, if_neg n21, if_neg n20, if_neg n20, show (nI n).toNatClampNeg = n from nI_clamp (by omega)]
    by_cases e : bt a p = 1
    · rw [e, if_pos rfl]
      refine (if_neg (by decide)).trans ?_
      rw [show nz (nI n) = true from decide_eq_true (nI_ne0 hn0 (by omega)), irem_small p hp n hn hn0, nIs]
      show some (nI (p % n + 1)) = some (I (1 * (((p % n : Nat) : Int) + 1)))
      rw [← I_nI]
      congr 2
      omega
    · have e2 : bt a p = 0 := by omega
      rw [e2, Int.zero_mul]; rfl
theorem s_make {oq : Nat} {S : Sg} {kind a b : Int32} (h : qv kind b) : wp (f_X2_make oq kind a b S) (fun S' => Fr (fun p => p = oq + 1) S S' ∧ QW oq S' (wq kind a b)) := by
  unfold f_X2_make
  refine wp_bdm (up (F := fun n k S' => L_X2_make_3 oq kind a b n (nI k) S') 8 (fun k S' => Fr (fun p => p = oq + 1) S S' ∧ ∀ j, j < k → S'.1 (oq + 1) j = I (wq kind a b j)) (fun S' => Fr (fun p => p = oq + 1) S S' ∧ QW oq S' (wq kind a b)) ?_ ?_ 400 0 S (by omega) (by omega) ⟨Fr.rf, fun j h => by omega⟩) (fun S' h => wp_some h)
  · intro n k S2 hk ⟨q1, q2⟩ ih
    rw [L_X2_make_3]
    refine wp_ifp (lt8 hk) (wp_lt (wp_lt ?_))
    rw [bit_I a (by omega), bit_I b (by omega)]
    have fin : ∀ x : Int32, x = I (wq kind a b k) → wp (L_X2_make_3 oq kind a b n (nI k + 1) (setI S2 (oq + 1) (ix (nI k)) x)) (fun S' => Fr (fun p => p = oq + 1) S S' ∧ QW oq S' (wq kind a b)) := fun x hx => by
      rw [nIs, ixn (by omega), hx]
      refine ih _ ⟨q1.tr (Fr.setI rfl), fun j hj => ?_⟩
      by_cases e : j = k
      · subst e; exact setI_s
      · rw [setI_n (by omega)]; exact q2 j (by omega)
    rcases h with rfl | rfl | ⟨rfl, m, hm0, hm, rfl⟩
    · refine wp_ifn (by decide) (wp_ifn (by decide) (wp_gd (inn' hk (by omega)) (fin _ ?_)))
      unfold wq
      rw [if_neg (by decide), if_pos rfl]
    · refine wp_ifp rfl (wp_lt (wp_gd (inn' hk (by omega)) (fin _ ?_)))
      unfold wq
      rw [if_pos rfl, I_sub]
    · refine wp_ifn (by decide) (wp_ifp rfl (wp_ifn (nI_ne0 hm0 (by omega)) (wp_gd (decide_eq_true (nI_ne0 hm0 (by omega))) (wp_lt (wp_gd (inn' hk (by omega)) (fin _ ?_))))))
      unfold wq
      rw [if_neg (by decide), if_neg (by decide), irem_small k hk m hm hm0, show (nI m).toNatClampNeg = m from nI_clamp (by omega), show (1 : Int32) = nI 1 from rfl, nI_add, ← I_nI, I_mul]
      congr 2
      omega
  · intro n S2 hp
    rw [L_X2_make_3]
    exact wp_ifn (nlt8 (Nat.le_refl _) (by omega)) (wp_some hp)
abbrev asI : Nat → Nat → Prop := fun o k => o = 148 ∨ (o = 140 ∧ k = 12)
theorem s_asks {S : Sg} {w : Wd} {kind a b : Int32} (hw : MW S w) (ho : ∀ k, k < 8 → own w k < 10) (h : qv kind b) : wp (f_X7_asks kind a b S) (fun S' => Fm asI (fun _ _ => False) S S' ∧ AW S' (qrow w (wq kind a b)) (szOf (wq kind a b) 8)) := by
  unfold f_X7_asks
  refine wp_lt ?_
  generalize hS1 : setI S 140 12 0 = S1
  have m1 : Fm asI (fun _ _ => False) S S1 := by rw [← hS1]; exact Fm.setI (Or.inr ⟨rfl, rfl⟩)
  have e1 : S1.1 140 12 = nI 0 := by rw [← hS1, setI_s]; rfl
  refine wp_bdm (up (F := fun n k S' => L_X7_asks_8 kind a b n (nI k) S') 10 (fun k S' => Fm asI (fun _ _ => False) S S' ∧ S'.1 140 12 = nI 0 ∧ ∀ j, j < k → S'.1 148 j = I 0) (fun S' => Fm asI (fun _ _ => False) S S' ∧ S'.1 140 12 = nI 0 ∧ ∀ j, j < 10 → S'.1 148 j = I 0) ?_ ?_ 400 0 S1 (by omega) (by omega) ⟨m1, e1, fun j h => by omega⟩) ?_
  · intro n k S2 hk ⟨q1, q2, q3⟩ ih
    rw [L_X7_asks_8]
    refine wp_ifp (lt10 hk) (wp_gd (inn' hk (by omega)) ?_)
    show wp (L_X7_asks_8 kind a b n (nI k + 1) (setI S2 148 (ix (nI k)) 0)) _
    rw [nIs, ixn (by omega)]
    refine ih _ ⟨q1.tr (Fm.setI (Or.inl rfl)), by rw [setI_n (by omega)]; exact q2, fun j hj => ?_⟩
    by_cases e : j = k
    · subst e; exact setI_s
    · rw [setI_n (by omega)]; exact q3 j (by omega)
  · intro n S2 hp
    rw [L_X7_asks_8]
    exact wp_ifn (nlt10 (Nat.le_refl _) (by omega)) (wp_some hp)
  intro S2 ⟨q1, q2, q3⟩
  refine wp_bdm (up (F := fun n k S' => L_X7_asks_32 kind a b n (nI k) S') 8 (fun k S' => Fm asI (fun _ _ => False) S S' ∧ S'.1 140 12 = nI (szOf (wq kind a b) k) ∧ ∀ j, j < 10 → S'.1 148 j = I (ar (own w) (wq kind a b) k j)) (fun S' => Fm asI (fun _ _ => False) S S' ∧ AW S' (qrow w (wq kind a b)) (szOf (wq kind a b) 8)) ?_ ?_ 400 0 S2 (by omega) (by omega) ⟨q1, q2, q3⟩) (fun S' h => wp_some h)
  · intro n k S3 hk ⟨u1, u2, u3⟩ ih
    rw [L_X7_asks_32]
    have hok := ho k hk
    have e5 : S3.1 145 k = nI (own w k) := by rw [u1.1 _ _ (by omega)]; exact hw.1 k hk
    refine wp_ifp (lt8 hk) ?_
    rw [s_weight h hk]
    refine wp_bds rfl (wp_gd (inn' hk (by omega)) ?_)
    rw [ixn (by omega), e5, ixn (by omega)]
    refine wp_gd (inn' hok (by omega)) (wp_lt ?_)
    have hb := wq_ok (a := a) h k hk
    have hz : I (wq kind a b k) = (0 : Int32) ↔ wq kind a b k = 0 := I_eq (b := 0) (by omega) (by omega)
    have hsz := szOf_le (wq kind a b) k
    have ein : (if I (wq kind a b k) = 0 then (0 : Int32) else 1) = nI (szOf (wq kind a b) (k + 1) - szOf (wq kind a b) k) := by
      show _ = nI ((if wq kind a b k = 0 then szOf (wq kind a b) k else szOf (wq kind a b) k + 1) - szOf (wq kind a b) k)
      by_cases e : wq kind a b k = 0
      · rw [if_pos (hz.mpr e), if_pos e, Nat.sub_self]; rfl
      · rw [if_neg (fun q => e (hz.mp q)), if_neg e, Nat.add_sub_cancel_left]; rfl
    have hmono : szOf (wq kind a b) k ≤ szOf (wq kind a b) (k + 1) := by
      show _ ≤ (if wq kind a b k = 0 then szOf (wq kind a b) k else szOf (wq kind a b) k + 1)
      by_cases e : wq kind a b k = 0
      · rw [if_pos e]; exact Nat.le_refl _
      · rw [if_neg e]; omega
    refine wp_ltq _ ein ?_
    refine wp_lt ?_
    rw [setI_n (by omega), u2, nI_add, show szOf (wq kind a b) k + (szOf (wq kind a b) (k + 1) - szOf (wq kind a b) k) = szOf (wq kind a b) (k + 1) by omega]
    show wp (L_X7_asks_32 kind a b n (nI k + 1) (setI (setI S3 148 (own w k) (I (wq kind a b k))) 140 12 _)) _
    rw [nIs]
    refine ih _ ⟨(u1.tr (Fm.setI (Or.inl rfl))).tr (Fm.setI (Or.inr ⟨rfl, rfl⟩)), setI_s, fun j hj => ?_⟩
    rw [setI_n (by omega)]
    show _ = I (if j = own w k then wq kind a b k else ar (own w) (wq kind a b) k j)
    by_cases e : j = own w k
    · rw [if_pos e, e]; exact setI_s
    · rw [if_neg e, setI_n (by omega)]; exact u3 j hj
  · intro n S3 ⟨u1, u2, u3⟩
    rw [L_X7_asks_32]
    exact wp_ifn (nlt8 (Nat.le_refl _) (by omega)) (wp_some ⟨u1, u3, u2⟩)
