abbrev inWd (o : Nat) : Nat → Prop := fun p => o ≤ p ∧ p < o + 29
abbrev inScr (o : Nat) : Nat → Prop := fun p => o + 29 ≤ p ∧ p < o + 43
abbrev inAll (o : Nat) : Nat → Prop := fun p => o ≤ p ∧ p < o + 43
theorem CW.fr {o : Nat} {S S' : Sg} {w : Wd} {A : Nat → Prop} (h : CW o S w) (hf : Fr A S S') (hA : ∀ p, inWd o p → ¬ A p) (hl : (gh w).length ≤ 10) : CW o S' w := by
  have k : ∀ p, o ≤ p → p < o + 29 → ¬ A p := fun p h1 h2 => hA p ⟨h1, h2⟩
  obtain ⟨h1, h2, h3, h4, h5⟩ := h
  refine ⟨fun j hj => ?_, fun j hj => ?_, ?_, fun i hi => ?_, h5.fr hf fun p hp => k p (by have := hp.1; omega) (by have := hp.2; omega)⟩
  · rw [hf.I (k _ (by omega) (by omega))]; exact h1 j hj
  · rw [hf.I (k _ (by omega) (by omega)), hf.I (k _ (by omega) (by omega)), hf.I (k _ (by omega) (by omega))]; exact h2 j hj
  · rw [hf.I (k o (by omega) (by omega)), hf.I (k o (by omega) (by omega)), hf.I (k o (by omega) (by omega)), hf.I (k o (by omega) (by omega))]; exact h3
  · refine ⟨by rw [hf.I (k _ (by omega) (by omega))]; exact (h4 i hi).1, fun v hv => ?_⟩
    rw [hf.I (k _ (by omega) (by omega))]
    exact (h4 i hi).2 v hv
/-- a question lies at oq -/
def QW (oq : Nat) (S : Sg) (wt : Nat → Int) : Prop := ∀ p, p < 8 → S.1 (oq + 1) p = I (wt p)
theorem QW.fr {oq : Nat} {S S' : Sg} {wt : Nat → Int} {A : Nat → Prop} (h : QW oq S wt) (hf : Fr A S S') (hA : ¬ A (oq + 1)) : QW oq S' wt := fun p hp => by rw [hf.I hA]; exact h p hp
theorem own10 {w : Wd} (h : wok w) {k : Nat} (hk : k < 8) : own w k < 10 := by have := h.1 k hk; have := h.2.2.1; omega
theorem s_findRest {o oq : Nat} {S : Sg} {w : Wd} {wt : Nat → Int} (hw : CW o S w) (ho : ∀ k, k < 8 → own w k < 10) (hq : QW oq S wt) (hwt : qok wt) (hoq : o + 43 ≤ oq + 1) : wp (f_X5_findRest o oq S) (fun S' => Fr (fun p => p = o + 41 ∨ p = o + 42) S S' ∧ (∀ v, v < 10 → S'.1 (o + 41) v = I (qrow w wt v)) ∧ rowJ S' (o + 42) (gr (gh w) (qrow w wt))) := by
  unfold f_X5_findRest
  refine wp_bdm (up (F := fun n k S' => L_X5_findRest_2 o oq n (nI k) S') 10 (fun k S' => Fr (fun p => p = o + 41 ∨ p = o + 42) S S' ∧ ∀ v, v < k → S'.1 (o + 41) v = I 0) (fun S' => Fr (fun p => p = o + 41 ∨ p = o + 42) S S' ∧ ∀ v, v < 10 → S'.1 (o + 41) v = I 0) ?_ ?_ 400 0 S (by omega) (by omega) ⟨Fr.rf, fun v h => by omega⟩) ?_
  · intro n k S2 hk ⟨q1, q2⟩ ih
    rw [L_X5_findRest_2]
    refine wp_ifp (lt10 hk) (wp_gd (inn' hk (by omega)) ?_)
    show wp (L_X5_findRest_2 o oq n (nI k + 1) (setI S2 (o + 41) (ix (nI k)) 0)) _
    rw [nIs, ixn (by omega)]
    refine ih _ ⟨q1.tr (Fr.setI (Or.inl rfl)), fun v hv => ?_⟩
    by_cases e : v = k
    · subst e; exact setI_s
    · rw [setI_n (fun z => e z.2)]; exact q2 v (by omega)
  · intro n S2 hp
    rw [L_X5_findRest_2]
    exact wp_ifn (nlt10 (Nat.le_refl _) (by omega)) (wp_some hp)
  intro S1 ⟨p1, p2⟩
  refine wp_bdm (up (F := fun n k S' => L_X5_findRest_23 o oq n (nI k) S') 8 (fun k S' => Fr (fun p => p = o + 41 ∨ p = o + 42) S S' ∧ ∀ v, v < 10 → S'.1 (o + 41) v = I (ar (own w) wt k v)) (fun S' => Fr (fun p => p = o + 41 ∨ p = o + 42) S S' ∧ ∀ v, v < 10 → S'.1 (o + 41) v = I (qrow w wt v)) ?_ ?_ 400 0 S1 (by omega) (by omega) ⟨p1, p2⟩) ?_
  · intro n k S2 hk ⟨q1, q2⟩ ih
    rw [L_X5_findRest_23]
    have hok := ho k hk
    refine wp_ifp (lt8 hk) (wp_gd (inn' hk (by omega)) (wp_ltq (nI (own w k)) (by rw [ixn (by omega), q1.I (by omega)]; exact hw.1 k hk) ?_))
    rw [isW10 hok]
    refine wp_ifn (by decide) (wp_gd (inn' hok (by omega)) ?_)
    show wp (L_X5_findRest_23 o oq n (nI k + 1) (setI S2 (o + 41) (ix (nI (own w k))) (S2.1 (oq + 1) (ix (nI k))))) _
    rw [nIs, ixn (by omega), ixn (by omega), q1.I (o := oq + 1) (by omega), hq k hk]
    refine ih _ ⟨q1.tr (Fr.setI (Or.inl rfl)), fun v hv => ?_⟩
    show _ = I (if v = own w k then wt k else ar (own w) wt k v)
    by_cases e : v = own w k
    · rw [if_pos e, e]; exact setI_s
    · rw [if_neg e, setI_n (fun z => e z.2)]; exact q2 v hv
  · intro n S2 hp
    rw [L_X5_findRest_23]
    exact wp_ifn (nlt8 (Nat.le_refl _) (by omega)) (wp_some hp)
  intro S2 ⟨q1, q2⟩
  have hsp : SP (o + 17) S2 (gh w) := hw.2.2.2.2.fr q1 fun p hp => by have := hp.1; have := hp.2; omega
  refine wp_bdm (s_leave (a := qrow w wt) hsp.1 q2 (fun v _ => ar_bdd hwt 8 (Nat.le_refl _) v) (fun v hv => by omega)) ?_
  intro S3 ⟨r1, r2, r3⟩
  refine wp_some ⟨q1.tr (r1.mono fun p hp => Or.inr hp), fun v hv => ?_, r3⟩
  rw [r2]
  exact q2 v hv
theorem s_qsize {oq : Nat} {S : Sg} {wt : Nat → Int} (hq : QW oq S wt) (hwt : qok wt) : f_X2_size oq S = some (nI (szOf wt 8)) := by
  apply wp_to
  unfold f_X2_size
  refine wp_bdm (up (F := fun n k (x : Int32) => L_X2_size_4 oq S n x (nI k)) 8 (fun k x => x = nI (szOf wt k)) (fun x => x = nI (szOf wt 8)) ?_ ?_ 400 0 0 (by omega) (by omega) rfl) (fun x h => wp_some h)
  · intro n k x hk hp ih
    rw [L_X2_size_4]
    refine wp_ifp (lt8 hk) (wp_gd (inn' hk (by omega)) ?_)
    have hb := hwt k hk
    rw [ixn (by omega), hq k hk]
    have hz : I (wt k) = (0 : Int32) ↔ wt k = 0 := I_eq (b := 0) (by omega) (by omega)
    by_cases e : wt k = 0
    · refine wp_ltq x (if_pos (hz.mpr e)) ?_
      show wp (L_X2_size_4 oq S n x (nI k + 1)) _
      rw [nIs]
      exact ih _ (by rw [hp]; show _ = nI (if wt k = 0 then _ else _); rw [if_pos e])
    · refine wp_ltq (x + 1) (if_neg (fun q => e (hz.mp q))) ?_
      show wp (L_X2_size_4 oq S n (x + 1) (nI k + 1)) _
      rw [nIs]
      refine ih _ ?_
      rw [hp, nIs]
      show _ = nI (if wt k = 0 then _ else _)
      rw [if_neg e]
  · intro n x hp
    rw [L_X2_size_4]
    exact wp_ifn (nlt8 (Nat.le_refl _) (by omega)) (wp_some hp)
theorem szOf_le (wt : Nat → Int) : ∀ n, szOf wt n ≤ n
  | 0 => Nat.le_refl _
  | n + 1 => by
    have := szOf_le wt n
    show (if _ then _ else _) ≤ _
    by_cases h : wt n = 0
    · rw [if_pos h]; omega
    · rw [if_neg h]; omega
theorem wok_sm {w : Wd} (h : wok w) (hf : nofix (gh w)) : gsmall (gh w) 9 := ⟨h.2.2.2.2.2.2.1, h.2.2.2.2.2.2.2.1, len9 h.2.2.2.2.2.2.1 hf⟩
theorem qdt {w : Wd} {wt : Nat → Int} (ho : ∀ k, k < 8 → own w k < 10) (hwt : qok wt) : dt 10 (qrow w wt) (qrow w wt) ≤ 72 := ar_dt hwt ho 8 (Nat.le_refl _)
theorem s_meetingBy {o oq : Nat} {S : Sg} {w : Wd} {wt : Nat → Int} {rl lm : Nat} (hw : CW o S w) (hk : wok w) (hf : nofix (gh w)) (hq : QW oq S wt) (hwt : qok wt) (hoq : o + 43 ≤ oq + 1) (hrl : rl < 4) (hlm : lm ≤ 10) : wp (f_X5_meetingBy o oq (nI rl) (nI lm) S) (fun z => Meet (gh w) (qrow w wt) (szOf wt 8) rl lm z.1 ∧ Fr (inScr o) S z.2) := by
  have ho : ∀ k, k < 8 → own w k < 10 := fun k h => own10 hk h
  have hg := wok_sm hk hf
  have hdt := qdt (w := w) ho hwt
  unfold f_X5_meetingBy
  refine wp_bdm (s_findRest hw ho hq hwt hoq) ?_
  intro S1 ⟨p1, p2, p3⟩
  have f1 : Fr (inScr o) S S1 := p1.mono fun p hp => by rcases hp with rfl | rfl <;> exact ⟨by omega, by omega⟩
  have hsp : SP (o + 17) S1 (gh w) := hw.2.2.2.2.fr p1 fun p hp => by have := hp.1; have := hp.2; omega
  have hrb := gr_bd hg hdt
  have hgl : ∀ v, v < 10 → bdd (gr (gh w) (eb v)) 228100000 := fun v hv => gl_bd hg hv
  refine wp_bdm (s_firstIn p3 (bdd_mono hrb (by decide))) ?_
  intro r hr
  rcases firstOf_fp hr with ⟨q, hqp, rfl⟩ | ⟨rfl, hz⟩
  · have hok : gok ((q, qrow w wt) :: gh w) := ⟨hg.1, hqp.1, hqp.2.1, hqp.2.2⟩
    have hnz : ¬ zer (gh w) (qrow w wt) := fp_nz hqp
    refine wp_ifn (nI_pos (by have := hqp.1; omega)) (wp_bdm (s_fixed hsp.1 hgl p3 hrb) ?_)
    intro x hx
    refine wp_if (fun hx0 => ?_) (fun hx0 => ?_)
    · have hnf : ∀ v, v < 10 → ¬ fxd (gh w) (gr (gh w) (qrow w wt)) v := fun v hv h => (bits_z hx).mp hx0 v (by omega) ⟨hv, h⟩
      have hnf2 : ¬ fixes (gh w) (qrow w wt) := fun ⟨v, hv, h⟩ => hnf v hv h
      have hn9 : nofix ((q, qrow w wt) :: gh w) := fun v hv h => hnf v hv ((fxd_iff hok hv).mpr h)
      -- the end: what forbids
      have fin : ∀ (y : Int32) (S2 : Sg), ((y = 1 ∧ forb (gh w) (qrow w wt) (szOf wt 8) rl lm) ∨ (y = 0 ∧ ¬ forb (gh w) (qrow w wt) (szOf wt 8) rl lm)) → Fr (inScr o) S S2 → wp (some ((if y = 0 then (1 : Int32) else 2), S2)) (fun z => Meet (gh w) (qrow w wt) (szOf wt 8) rl lm z.1 ∧ Fr (inScr o) S z.2) := by
        intro y S2 hy hfr
        refine wp_some ⟨?_, hfr⟩
        rcases hy with ⟨rfl, h⟩ | ⟨rfl, h⟩
        · exact Or.inr (Or.inl ⟨rfl, hnz, Or.inr h⟩)
        · exact Or.inr (Or.inr ⟨rfl, hnz, hnf2, h⟩)
      have rne : ∀ k, k < 4 → (nI rl = nI k ↔ rl = k) := fun k hk => nI_eq (by omega) (by omega)
      refine wp_lt ?_
      refine wp_if (fun h1 => ?_) (fun h1 => ?_)
      · have e1 : rl = 1 := (rne 1 (by omega)).mp h1
        rw [s_qsize (QW.fr hq p1 (by omega)) hwt]
        have hsz := szOf_le wt 8
        have c2 : nI (szOf wt 8) < (2 : Int32) ↔ szOf wt 8 < 2 := nI_ltI (b := 2) (by omega) (by omega)
        have c6 : (6 : Int32) < nI (szOf wt 8) ↔ 6 < szOf wt 8 := nI_ltI (a := 6) (by omega) (by omega)
        have fb : forb (gh w) (qrow w wt) (szOf wt 8) rl lm ↔ (szOf wt 8 < 2 ∨ 6 < szOf wt 8) := by
          constructor
          · rintro (h | h | h)
            · exact h.2
            · have := h.1; omega
            · have := h.1; omega
          · intro h; exact Or.inl ⟨e1, h⟩
        refine fin _ S1 ?_ f1
        by_cases h2 : szOf wt 8 < 2
        · rw [if_pos (c2.mpr h2)]; exact Or.inl ⟨rfl, fb.mpr (Or.inl h2)⟩
        · rw [if_neg (fun z => h2 (c2.mp z))]
          by_cases h6 : 6 < szOf wt 8
          · rw [if_pos (c6.mpr h6)]; exact Or.inl ⟨rfl, fb.mpr (Or.inr h6)⟩
          · rw [if_neg (fun z => h6 (c6.mp z))]; exact Or.inr ⟨rfl, fun h => by rcases fb.mp h with h | h <;> omega⟩
      · have n1 : rl ≠ 1 := fun e => h1 ((rne 1 (by omega)).mpr e)
        refine wp_if (fun h2 => ?_) (fun h2 => ?_)
        · have e2 : rl = 2 := (rne 2 (by omega)).mp h2
          refine wp_bdm (s_spCopy hsp fun p hp => by have := hp.1; have := hp.2; omega) ?_
          intro S3 ⟨r1, r2⟩
          have p3' : rowJ S3 (o + 42) (gr (gh w) (qrow w wt)) := fun c hc => by rw [r1.J (by omega)]; exact p3 c hc
          refine wp_bdm (s_join hg r2 hdt p3' fun p hp => by have := hp.1; have := hp.2; omega) ?_
          intro S4 h4
          have f3 : Fr (inScr o) S S3 := f1.tr (r1.mono fun p hp => ⟨by have := hp.1; omega, by have := hp.2; omega⟩)
          rcases h4 with ⟨hz, _⟩ | ⟨q', hok', hsp', f4⟩
          · exact absurd hz hnz
          · have eq : q' = q := fp_u ⟨hok'.2.1, hok'.2.2.1, hok'.2.2.2⟩ hqp
            subst eq
            have hg' : gsmall ((q', qrow w wt) :: gh w) 9 := ⟨hok', ⟨hg.2.1, hdt⟩, len9 hok' hn9⟩
            refine wp_bdm (s_hasPair hsp'.1 fun v hv => gl_bd hg' hv) ?_
            intro y hy
            have fb : forb (gh w) (qrow w wt) (szOf wt 8) rl lm ↔ pr ((q', qrow w wt) :: gh w) := by
              constructor
              · rintro (h | h | h)
                · exact absurd h.1 n1
                · obtain ⟨q2, h3, h4⟩ := h.2
                  have e3 : q2 = q' := fp_u ⟨h3.2.1, h3.2.2.1, h3.2.2.2⟩ hqp
                  rw [← e3]; exact h4
                · have := h.1; omega
              · intro h; exact Or.inr (Or.inl ⟨e2, q', hok', h⟩)
            refine fin _ S4 ?_ (f3.tr (f4.mono fun p hp => ⟨by have := hp.1; omega, by have := hp.2; omega⟩))
            rcases hy with ⟨e, h⟩ | ⟨e, h⟩
            · exact Or.inl ⟨e, fb.mpr h⟩
            · exact Or.inr ⟨e, fun z => h (fb.mp z)⟩
        · have n2 : rl ≠ 2 := fun e => h2 ((rne 2 (by omega)).mpr e)
          refine wp_if (fun h3 => ?_) (fun h3 => ?_)
          · have e3 : rl = 3 := (rne 3 (by omega)).mp h3
            have er : S1.1 o 9 = nI (gh w).length := by rw [p1.I (by omega)]; exact hw.2.2.1.2.2.2
            rw [er, nIs]
            have hl9 := hg.2.2
            have c1 : nI lm < nI ((gh w).length + 1) ↔ lm < (gh w).length + 1 := nI_ltI (by omega) (by omega)
            have fb : forb (gh w) (qrow w wt) (szOf wt 8) rl lm ↔ lm < (gh w).length + 1 := by
              constructor
              · rintro (h | h | h)
                · exact absurd h.1 n1
                · exact absurd h.1 n2
                · exact h.2
              · intro h; exact Or.inr (Or.inr ⟨e3, h⟩)
            refine fin _ S1 ?_ f1
            by_cases h4 : lm < (gh w).length + 1
            · rw [if_pos (c1.mpr h4)]; exact Or.inl ⟨rfl, fb.mpr h4⟩
            · rw [if_neg (fun z => h4 (c1.mp z))]; exact Or.inr ⟨rfl, fun z => h4 (fb.mp z)⟩
          · have n3 : rl ≠ 3 := fun e => h3 ((rne 3 (by omega)).mpr e)
            refine fin 0 S1 (Or.inr ⟨rfl, ?_⟩) f1
            rintro (h | h | h)
            · exact n1 h.1
            · exact n2 h.1
            · exact n3 h.1
    · refine wp_some ⟨Or.inr (Or.inl ⟨rfl, hnz, Or.inl ?_⟩), f1⟩
      have ⟨v, hv⟩ : ∃ v, ¬ (v < 32 → ¬ (v < 10 ∧ fxd (gh w) (gr (gh w) (qrow w wt)) v)) := Classical.not_forall.mp fun h => hx0 ((bits_z hx).mpr h)
      have h2 : v < 10 ∧ fxd (gh w) (gr (gh w) (qrow w wt)) v := Classical.byContradiction fun z => hv fun _ => z
      exact ⟨v, h2.1, h2.2⟩
  · exact wp_ifp (by decide) (wp_some ⟨Or.inl ⟨rfl, hz⟩, f1⟩)
