/-- what is read of a question -/
def Rq (S : Sg) (l : Nat → Nat) (a : Nat) (w : Wd) (x A B : Int32) (z : Int32 × Sg) : Prop := (z.1 = 0 ∧ z.2 = S ∧ Out l a w none) ∨ (z.1 = 1 ∧ f_X2_misfitOf x A B = 0 ∧ qv x B ∧ Fr (fun p => p = 131) S z.2 ∧ QW 130 z.2 (wq x A B))
theorem c_rest {S : Sg} {L : Nat × (Nat → Nat)} {a : Nat} {w : Wd} {x A B : Int32} (hg : wgood w) (hw : CW 44 S w) (hr : wp (f_X3_readQuestion 135 96 (nI a) 130 S) (Rq S L.2 a w x A B)) (hO : ∀ o, OutQ x A B w o → Out L.2 a w o) : wp (bd (f_X3_readQuestion 135 96 (nI a) 130 S) (u2 fun r_16 S_6 => if r_16 = 0 then (some ((0 : Int32), S_6)) else (bd (f_X5_takeQuestion 44 130 S_6) (u2 fun r_17 S_7 => lt (if r_17 = (2 : Int32) then (0 : Int32) else (1 : Int32)) fun x_1 => some (x_1, S_7))))) (One S L.2 a w) := by
  refine wp_bdm hr ?_
  rintro ⟨r, T⟩ (⟨e, e2, e3⟩ | ⟨e, h1, h2, h3, h4⟩)
  · have e' : r = 0 := e
    have e2' : T = S := e2
    subst e' e2'
    exact wp_u2 (wp_ifp rfl (wp_some ⟨none, e3, rfl, fun w' z => (by cases z), Fr.rf⟩))
  · have e' : r = 1 := e
    subst e'
    have cT : CW 44 T w := hw.fr h3 (fun p hp => by have : 44 ≤ p ∧ p < 44 + 29 := hp; show ¬ (p = 131); omega) (wg_l10 hg)
    refine wp_u2 (wp_ifn (by decide) (wp_bdm (s_takeQuestion cT hg.1 hg.2.1 h4 (wq_ok h2) (by omega)) ?_))
    rintro ⟨m, U⟩ ⟨hm, f2, hd⟩
    have f : Fr (fun p => (44 ≤ p ∧ p < 87) ∨ p = 131) S U := (h3.mono fun p hp => Or.inr hp).tr (f2.mono fun p hp => by have : 44 ≤ p ∧ p < 44 + 43 := hp; omega)
    refine wp_u2 (wp_lt (wp_some ?_))
    rcases hd with ⟨h, cU⟩ | ⟨h, q, gk, cU⟩
    · have h' : m ≠ 1 := h
      by_cases z : m = 2
      · subst z
        exact ⟨none, hO _ (Or.inr ⟨h1, h2, 2, hm, Or.inr (Or.inl ⟨rfl, rfl⟩)⟩), (show (if (2 : Int32) = 2 then (0 : Int32) else 1) = 0 from if_pos rfl), fun w' z => (by cases z), f⟩
      · have m0 : m = 0 := by
          rcases hm with x | x | x
          · exact x.1
          · exact absurd x.1 z
          · exact absurd x.1 h'
        subst m0
        exact ⟨some w, hO _ (Or.inr ⟨h1, h2, 0, hm, Or.inl ⟨rfl, rfl⟩⟩), (show (if (0 : Int32) = 2 then (0 : Int32) else 1) = 1 from if_neg (by decide)), fun w' z => (by cases z; exact cU), f⟩
    · have m1 : m = 1 := h
      subst m1
      exact ⟨some _, hO _ (Or.inr ⟨h1, h2, 1, hm, Or.inr (Or.inr ⟨rfl, q, gk, rfl⟩)⟩), (show (if (1 : Int32) = 2 then (0 : Int32) else 1) = 1 from if_neg (by decide)), fun w' z => (by cases z; exact cU), f⟩
/-- what is made of the kind and the two numbers -/
theorem s_made {S : Sg} {l : Nat → Nat} {a : Nat} {w : Wd} {x A B : Int32} (hO : ∀ o, OutQ x A B w o → Out l a w o) : wp (if (f_X2_misfitOf x A B) = 0 then (bd (f_X2_make 130 x A B S) fun S_1 => some ((1 : Int32), S_1)) else (some ((0 : Int32), S))) (Rq S l a w x A B) := by
  rcases mq_cases x A B with ⟨j, hj⟩ | ⟨hq, e⟩
  · exact wp_ifn hj.ne (wp_some (Or.inl ⟨rfl, rfl, hO _ (Or.inl ⟨hj.ne, rfl⟩)⟩))
  · refine wp_ifp e (wp_bdm (s_make hq) fun S1 ⟨f1, q1⟩ => wp_some (Or.inr ⟨rfl, e, hq, f1, q1⟩))
theorem s_rdS {S : Sg} {L : Nat × (Nat → Nat)} {a : Nat} {x : Int32} (hx : x ≠ 1) (hc : LC S L) (hL : L.1 ≤ 96 ∧ ∀ k, k < L.1 → L.2 k ≤ 255) (hd : Sd L a) (h8 : 8 ≤ dgb (L.2 a)) : wp (L_X3_readQuestion_38 135 96 130 (nI a) x S 400 0 0 0) (fun y => y = .inr (ob (fun k => decide (dg L.2 a k ≠ 0)) 8, 0)) := by
  have hn := hL.1
  refine up (F := fun n k (z : Int32 × Int32) => L_X3_readQuestion_38 135 96 130 (nI a) x S n z.1 z.2 (nI k)) 8 (fun k z => z = (ob (fun k => decide (dg L.2 a k ≠ 0)) k, 0)) _ ?_ ?_ 400 0 (0, 0) (by omega) (by omega) rfl
  · rintro n k z hk rfl ih
    show wp (L_X3_readQuestion_38 135 96 130 (nI a) x S (n + 1) (ob (fun k => decide (dg L.2 a k ≠ 0)) k) 0 (nI k)) _
    rw [L_X3_readQuestion_38]
    have hg := hd.2.2 k (by omega)
    have b9 : dg L.2 a k ≤ 9 := by show L.2 (a + 1 + k) - 48 ≤ 9; omega
    refine wp_ifp (nI_lt (b := 8) hk (by decide)) ?_
    rw [nIs, nI_add, Sd_dg hd hc hn (by omega)]
    refine wp_bds rfl (wp_lt (wp_ifn hx (wp_lt ?_)))
    rw [if_neg hx]
    refine wp_lt ?_
    rw [if_neg hx, ite_self]
    refine wp_lt ?_
    rw [nIs]
    refine ih (_, 0) (Prod.ext ?_ rfl)
    show (if nI (dg L.2 a k) = (0 : Int32) then ob (fun k => decide (dg L.2 a k ≠ 0)) k else ob (fun k => decide (dg L.2 a k ≠ 0)) k ||| isl (1 : Int32) (nI k)) = ob (fun k => decide (dg L.2 a k ≠ 0)) k ||| (if decide (dg L.2 a k ≠ 0) = true then isl (1 : Int32) (nI k) else 0)
    by_cases z : dg L.2 a k = 0
    · rw [if_pos (show nI (dg L.2 a k) = (0 : Int32) by rw [z]; rfl), if_neg (show ¬ decide (dg L.2 a k ≠ 0) = true by rw [z]; decide), or_z]
    · rw [if_neg (show ¬ nI (dg L.2 a k) = (0 : Int32) from fun q => z ((nI_eq (b := 0) (by omega) (by omega)).mp q)), if_pos (decide_eq_true z)]
  · rintro n z rfl
    show wp (L_X3_readQuestion_38 135 96 130 (nI a) x S (n + 1) _ 0 (nI 8)) _
    rw [L_X3_readQuestion_38]
    exact wp_ifn (by decide) (wp_some rfl)
theorem s_rdD {S : Sg} {L : Nat × (Nat → Nat)} {a : Nat} (hc : LC S L) (hL : L.1 ≤ 96 ∧ ∀ k, k < L.1 → L.2 k ≤ 255) (hd : Sd L a) (h8 : 8 ≤ dgb (L.2 a)) : wp (L_X3_readQuestion_38 135 96 130 (nI a) 1 S 400 0 0 0) (fun y => (y = .inl (0, S) ∧ ∃ k, k < 8 ∧ 2 < dg L.2 a k) ∨ (y = .inr (ob (fun k => decide (dg L.2 a k = 1)) 8, ob (fun k => decide (dg L.2 a k = 2)) 8) ∧ ∀ k, k < 8 → dg L.2 a k ≤ 2)) := by
  have hn := hL.1
  refine up (F := fun n k (z : Int32 × Int32) => L_X3_readQuestion_38 135 96 130 (nI a) 1 S n z.1 z.2 (nI k)) 8 (fun k z => z = (ob (fun k => decide (dg L.2 a k = 1)) k, ob (fun k => decide (dg L.2 a k = 2)) k) ∧ ∀ j, j < k → dg L.2 a j ≤ 2) _ ?_ ?_ 400 0 (0, 0) (by omega) (by omega) ⟨rfl, fun j hj => by omega⟩
  · rintro n k z hk ⟨rfl, hz⟩ ih
    show wp (L_X3_readQuestion_38 135 96 130 (nI a) 1 S (n + 1) (ob (fun k => decide (dg L.2 a k = 1)) k) (ob (fun k => decide (dg L.2 a k = 2)) k) (nI k)) _
    rw [L_X3_readQuestion_38]
    have hg := hd.2.2 k (by omega)
    have b9 : dg L.2 a k ≤ 9 := by show L.2 (a + 1 + k) - 48 ≤ 9; omega
    refine wp_ifp (nI_lt (b := 8) hk (by decide)) ?_
    rw [nIs, nI_add, Sd_dg hd hc hn (by omega)]
    refine wp_bds rfl (wp_lt (wp_ifp rfl (wp_if (fun c => ?_) (fun c => ?_))))
    · have c' : 2 < dg L.2 a k := by
        by_cases z : 2 < dg L.2 a k
        · exact z
        · exact absurd c (nI_nlt (a := 2) (by omega) (by omega))
      exact wp_some (Or.inl ⟨rfl, k, hk, c'⟩)
    · have c' : dg L.2 a k ≤ 2 := by
        by_cases z : 2 < dg L.2 a k
        · exact absurd (nI_lt (a := 2) z (by omega)) c
        · omega
      refine wp_lt (wp_lt (wp_lt ?_))
      rw [if_pos rfl, if_pos rfl, nIs]
      refine ih (_, _) ⟨Prod.ext ?_ ?_, fun j hj => ?_⟩
      · show (if nI (dg L.2 a k) = (2 : Int32) then ob (fun k => decide (dg L.2 a k = 1)) k else (if nI (dg L.2 a k) = (0 : Int32) then ob (fun k => decide (dg L.2 a k = 1)) k else ob (fun k => decide (dg L.2 a k = 1)) k ||| isl (1 : Int32) (nI k))) = ob (fun k => decide (dg L.2 a k = 1)) k ||| (if decide (dg L.2 a k = 1) = true then isl (1 : Int32) (nI k) else 0)
        generalize ob (fun k => decide (dg L.2 a k = 1)) k = v
        have : dg L.2 a k = 0 ∨ dg L.2 a k = 1 ∨ dg L.2 a k = 2 := by omega
        rcases this with e | e | e <;> rw [e]
        · rw [if_neg (show ¬ nI 0 = (2 : Int32) by decide), if_pos (show nI 0 = (0 : Int32) from rfl), if_neg (by decide), or_z]
        · rw [if_neg (show ¬ nI 1 = (2 : Int32) by decide), if_neg (show ¬ nI 1 = (0 : Int32) by decide), if_pos (by decide)]
        · rw [if_pos (show nI 2 = (2 : Int32) from rfl), if_neg (by decide), or_z]
      · show (if nI (dg L.2 a k) = (2 : Int32) then ob (fun k => decide (dg L.2 a k = 2)) k ||| isl (1 : Int32) (nI k) else (if nI (dg L.2 a k) = (0 : Int32) then ob (fun k => decide (dg L.2 a k = 2)) k else ob (fun k => decide (dg L.2 a k = 2)) k)) = ob (fun k => decide (dg L.2 a k = 2)) k ||| (if decide (dg L.2 a k = 2) = true then isl (1 : Int32) (nI k) else 0)
        rw [ite_self]
        generalize ob (fun k => decide (dg L.2 a k = 2)) k = v
        have : dg L.2 a k = 0 ∨ dg L.2 a k = 1 ∨ dg L.2 a k = 2 := by omega
        rcases this with e | e | e <;> rw [e]
        · rw [if_neg (show ¬ nI 0 = (2 : Int32) by decide), if_neg (by decide), or_z]
        · rw [if_neg (show ¬ nI 1 = (2 : Int32) by decide), if_neg (by decide), or_z]
        · rw [if_pos (show nI 2 = (2 : Int32) from rfl), if_pos (by decide)]
      · by_cases e : j = k
        · rw [e]; exact c'
        · exact hz j (by omega)
  · rintro n z ⟨rfl, hz⟩
    show wp (L_X3_readQuestion_38 135 96 130 (nI a) 1 S (n + 1) _ _ (nI 8)) _
    rw [L_X3_readQuestion_38]
    exact wp_ifn (by decide) (wp_some (Or.inr ⟨rfl, hz⟩))
theorem c_115 {S : Sg} {L : Nat × (Nat → Nat)} {a : Nat} {w : Wd} (hg : wgood w) (hw : CW 44 S w) (hc : LC S L) (hL : L.1 ≤ 96 ∧ ∀ k, k < L.1 → L.2 k ≤ 255) (hd : Sd L a) (e : L.2 a = 115) : wp (f_X3_performOne 135 96 (nI a) 44 130 S) (One S L.2 a w) := by
  have d8 : dgb (L.2 a) = 8 := by rw [e]; rfl
  have hn := hL.1
  have ha : a < L.1 := by have := hd.1; omega
  have hA : qa L.2 a = ob (fun k => decide (dg L.2 a k ≠ 0)) 8 := if_neg (by omega)
  have hB : qb L.2 a = 0 := (if_neg (by omega)).trans (if_pos e)
  have hO : ∀ o, OutQ 0 (qa L.2 a) (qb L.2 a) w o → Out L.2 a w o := fun o h => Or.inr (Or.inr (Or.inr (Or.inr (Or.inr (Or.inl ⟨Or.inl e, by rw [show kd (L.2 a) = 0 from if_pos e]; exact h⟩)))))
  unfold f_X3_performOne
  refine wp_bds (s_atL hc hn ha) (wp_ifn (by rw [e]; decide) (wp_ifn (by rw [e]; decide) (wp_ifn (by rw [e]; decide) (wp_ifn (by rw [e]; decide) (wp_ifn (by rw [e]; decide) (c_rest hg hw ?_ hO))))))
  unfold f_X3_readQuestion
  refine wp_bds (s_atL hc hn ha) (wp_ltq 0 (if_pos (by rw [e]; rfl)) (wp_bsm (s_rdS (by decide) hc hL hd (by omega)) (fun a z => (by cases z)) ?_))
  rintro ⟨v5, v6⟩ z
  cases z
  refine wp_u2 (wp_lt (wp_ifn (by decide) ?_))
  have t := s_made (S := S) hO
  rw [hA, hB] at t ⊢
  exact t
theorem c_119 {S : Sg} {L : Nat × (Nat → Nat)} {a : Nat} {w : Wd} (hg : wgood w) (hw : CW 44 S w) (hc : LC S L) (hL : L.1 ≤ 96 ∧ ∀ k, k < L.1 → L.2 k ≤ 255) (hd : Sd L a) (e : L.2 a = 119) : wp (f_X3_performOne 135 96 (nI a) 44 130 S) (One S L.2 a w) := by
  have d9 : dgb (L.2 a) = 9 := by rw [e]; rfl
  have hn := hL.1
  have ha : a < L.1 := by have := hd.1; omega
  have hA : qa L.2 a = ob (fun k => decide (dg L.2 a k ≠ 0)) 8 := if_neg (by omega)
  have hB : qb L.2 a = nI (dg L.2 a 8) := (if_neg (by omega)).trans (if_neg (by omega))
  have hO : ∀ o, OutQ 2 (qa L.2 a) (qb L.2 a) w o → Out L.2 a w o := fun o h => Or.inr (Or.inr (Or.inr (Or.inr (Or.inr (Or.inl ⟨Or.inr e, by rw [show kd (L.2 a) = 2 from (if_neg (by omega)).trans (if_neg (by omega))]; exact h⟩)))))
  unfold f_X3_performOne
  refine wp_bds (s_atL hc hn ha) (wp_ifn (by rw [e]; decide) (wp_ifn (by rw [e]; decide) (wp_ifn (by rw [e]; decide) (wp_ifn (by rw [e]; decide) (wp_ifn (by rw [e]; decide) (c_rest hg hw ?_ hO))))))
  unfold f_X3_readQuestion
  refine wp_bds (s_atL hc hn ha) (wp_ltq 2 ((if_neg (by rw [e]; decide)).trans (if_neg (by rw [e]; decide))) (wp_bsm (s_rdS (by decide) hc hL hd (by omega)) (fun a z => (by cases z)) ?_))
  rintro ⟨v5, v6⟩ z
  cases z
  refine wp_u2 (wp_lt (wp_ifp rfl ?_))
  rw [nIs, show (8 : Int32) = nI 8 from rfl, nI_add, Sd_dg hd hc hn (k := 8) (by omega)]
  refine wp_bds rfl ?_
  rw [← hA, ← hB]
  exact s_made hO
theorem c_100 {S : Sg} {L : Nat × (Nat → Nat)} {a : Nat} {w : Wd} (hg : wgood w) (hw : CW 44 S w) (hc : LC S L) (hL : L.1 ≤ 96 ∧ ∀ k, k < L.1 → L.2 k ≤ 255) (hd : Sd L a) (e : L.2 a = 100) : wp (f_X3_performOne 135 96 (nI a) 44 130 S) (One S L.2 a w) := by
  have d8 : dgb (L.2 a) = 8 := by rw [e]; rfl
  have hn := hL.1
  have ha : a < L.1 := by have := hd.1; omega
  have hA : qa L.2 a = ob (fun k => decide (dg L.2 a k = 1)) 8 := if_pos e
  have hB : qb L.2 a = ob (fun k => decide (dg L.2 a k = 2)) 8 := if_pos e
  by_cases hb : ∃ k, k < 8 ∧ 2 < dg L.2 a k
  · have hO : Out L.2 a w none := Or.inr (Or.inr (Or.inr (Or.inr (Or.inr (Or.inr ⟨e, Or.inl ⟨hb, rfl⟩⟩)))))
    unfold f_X3_performOne
    refine wp_bds (s_atL hc hn ha) (wp_ifn (by rw [e]; decide) (wp_ifn (by rw [e]; decide) (wp_ifn (by rw [e]; decide) (wp_ifn (by rw [e]; decide) (wp_ifn (by rw [e]; decide) ?_)))))
    have hr : wp (f_X3_readQuestion 135 96 (nI a) 130 S) (fun z => z = (0, S)) := by
      unfold f_X3_readQuestion
      refine wp_bds (s_atL hc hn ha) (wp_ltq 1 ((if_neg (by rw [e]; decide)).trans (if_pos (by rw [e]; rfl))) (wp_bsm (s_rdD hc hL hd (by omega)) (fun y z => ?_) (fun y z => ?_)))
      · rcases z with ⟨z, _⟩ | ⟨z, _⟩
        · cases z; exact wp_some rfl
        · cases z
      · obtain ⟨k, h1, h2⟩ := hb
        rcases z with ⟨z, _⟩ | ⟨z, h⟩
        · cases z
        · have := h k h1; omega
    refine wp_bdm hr ?_
    rintro z rfl
    exact wp_u2 (wp_ifp rfl (wp_some ⟨none, hO, rfl, fun w' z => (by cases z), Fr.rf⟩))
  · have hb' : ∀ k, k < 8 → dg L.2 a k ≤ 2 := fun k hk => by
      by_cases z : 2 < dg L.2 a k
      · exact absurd ⟨k, hk, z⟩ hb
      · omega
    have hO : ∀ o, OutQ 1 (qa L.2 a) (qb L.2 a) w o → Out L.2 a w o := fun o h => Or.inr (Or.inr (Or.inr (Or.inr (Or.inr (Or.inr ⟨e, Or.inr ⟨hb', h⟩⟩)))))
    unfold f_X3_performOne
    refine wp_bds (s_atL hc hn ha) (wp_ifn (by rw [e]; decide) (wp_ifn (by rw [e]; decide) (wp_ifn (by rw [e]; decide) (wp_ifn (by rw [e]; decide) (wp_ifn (by rw [e]; decide) (c_rest hg hw ?_ hO))))))
    unfold f_X3_readQuestion
    refine wp_bds (s_atL hc hn ha) (wp_ltq 1 ((if_neg (by rw [e]; decide)).trans (if_pos (by rw [e]; rfl))) (wp_bsm (s_rdD hc hL hd (by omega)) (fun y z => ?_) (fun y z => ?_)))
    · rcases z with ⟨z, h⟩ | ⟨z, _⟩
      · exact absurd h hb
      · cases z
    · rcases z with ⟨z, _⟩ | ⟨z, _⟩
      · cases z
      · cases z
        refine wp_u2 (wp_lt (wp_ifn (by decide) ?_))
        rw [← hA, ← hB]
        exact s_made hO
theorem c_one {S : Sg} {L : Nat × (Nat → Nat)} {a : Nat} {w : Wd} (hg : wgood w) (hw : CW 44 S w) (hc : LC S L) (hL : L.1 ≤ 96 ∧ ∀ k, k < L.1 → L.2 k ≤ 255) (hd : Sd L a) : wp (f_X3_performOne 135 96 (nI a) 44 130 S) (One S L.2 a w) := by
  rcases dgb_known hd.2.1 with e | e | e | e | e | e | e | e
  · exact c_98 hg hw hc hL hd e
  · exact c_99 hg hw hc hL hd e
  · exact c_100 hg hw hc hL hd e
  · exact c_108 hg hw hc hL hd e
  · exact c_114 hg hw hc hL hd e
  · exact c_115 hg hw hc hL hd e
  · exact c_118 hg hw hc hL hd e
  · exact c_119 hg hw hc hL hd e
