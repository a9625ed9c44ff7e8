/-- a question, as the reference asks it -/
theorem m_q {S : Sg} {w : Wd} {x A B : Int32} {o : Option Wd} (hg : wgood w) (hw : MW S w) (h : OutQ x A B w o) : wp (if (f_X7_notQuestion x A B) = 0 then (bd (f_X7_asks x A B S) fun S_1 => bd (f_X7_isAsked S_1) (u2 fun r_2 S_2 => lt (if r_2 = (2 : Int32) then (0 : Int32) else (1 : Int32)) fun x_4 => some (x_4, S_2))) else (some ((0 : Int32), S))) (OneM S o) := by
  have hk := hg.1
  rw [mq]
  rcases h with ⟨h, rfl⟩ | ⟨e, hq, m, hm, hd⟩
  · exact wp_ifn h (wp_some OneM_0)
  · refine wp_ifp e (wp_bdm (s_asks hw (fun k hk' => own10 hk hk') hq) fun S1 ⟨f1, a1⟩ => ?_)
    have w1 : MW S1 w := hw.fm f1 (fun o k q n => (as_m o k n).2.1 q)
    refine wp_bdm (s_isAsked w1 hk hg.2.1 a1 (wq_ok hq)) ?_
    rintro ⟨m', T⟩ ⟨hm', f2, hT⟩
    have em : m' = m := Meet_u hm' hm
    subst em
    have f : Fm cmI lsJ S T := (f1.mono as_cm fun _ _ q => q.elim).tr (f2.mono ia_cm fun _ _ q => q)
    refine wp_u2 (wp_lt (wp_some ?_))
    rcases hd with ⟨rfl, rfl⟩ | ⟨rfl, rfl⟩ | ⟨rfl, q, gk, rfl⟩
    · refine ⟨(show (if (0 : Int32) = 2 then (0 : Int32) else 1) = 1 from if_neg (by decide)), fun w' z => ?_, f⟩
      cases z
      rcases hT with ⟨_, h⟩ | ⟨h, _⟩
      · exact h
      · exact absurd (show (0 : Int32) = 1 from h) (by decide)
    · exact ⟨(show (if (2 : Int32) = 2 then (0 : Int32) else 1) = 0 from if_pos rfl), fun w' z => (by cases z), f⟩
    · refine ⟨(show (if (1 : Int32) = 2 then (0 : Int32) else 1) = 1 from if_neg (by decide)), fun w' z => ?_, f⟩
      cases z
      rcases hT with ⟨h, _⟩ | ⟨_, h⟩
      · exact absurd rfl h
      · exact h q
theorem OutQ_0 {A b b' : Int32} {w : Wd} {o : Option Wd} (h : OutQ 0 A b w o) : OutQ 0 A b' w o := by
  have e : f_X2_misfitOf 0 A b' = f_X2_misfitOf 0 A b := by rw [mo0, mo0]
  have e2 : wq 0 A b' = wq 0 A b := funext fun p => by
    show (if (0 : Int32) = 1 then _ else if (0 : Int32) = 0 then _ else _) = (if (0 : Int32) = 1 then _ else if (0 : Int32) = 0 then _ else _)
    rw [if_neg (by decide), if_pos rfl, if_neg (by decide), if_pos rfl]
  unfold OutQ
  rw [e, e2]
  rcases h with h | ⟨h1, _, h3⟩
  · exact Or.inl h
  · exact Or.inr ⟨h1, Or.inl rfl, h3⟩
theorem m_set {S : Sg} {j lo hi : Nat} {d : Nat → Nat} (h : ∀ k, k < 8 → S.1 158 (9 * j + k) = nI (d k)) (hd : ∀ k, k < 8 → d k ≤ 9) (hj : j ≤ 32) (h1 : lo ≤ 9) (h2 : hi ≤ 9) : f_X7_setTold (nI (9 * j)) (nI lo) (nI hi) S = some (ob (fun k => decide (lo ≤ d k ∧ d k ≤ hi)) 8) := by
  unfold f_X7_setTold
  refine wp_to (wp_bdm (up (F := fun n k (z : Int32) => L_X7_setTold_6 (nI (9 * j)) (nI lo) (nI hi) S n z (nI k)) 8 (fun k z => z = ob (fun k => decide (lo ≤ d k ∧ d k ≤ hi)) k) (fun z => z = ob (fun k => decide (lo ≤ d k ∧ d k ≤ hi)) 8) ?_ ?_ 400 0 0 (by omega) (by omega) rfl) fun z hz => wp_some hz)
  · rintro n k z hk rfl ih
    show wp (L_X7_setTold_6 (nI (9 * j)) (nI lo) (nI hi) S (n + 1) (ob (fun k => decide (lo ≤ d k ∧ d k ≤ hi)) k) (nI k)) _
    rw [L_X7_setTold_6]
    refine wp_ifp (nI_lt (b := 8) hk (by decide)) ?_
    rw [nI_add]
    refine wp_gd (inb_n (by omega) (by decide)) ?_
    have b := hd k hk
    rw [ix_n (by omega), h k hk, isIn_lit (by omega) (by omega) (by omega)]
    refine wp_lt (wp_lt (wp_lt ?_))
    rw [nIs]
    refine ih _ ?_
    show _ = ob (fun k => decide (lo ≤ d k ∧ d k ≤ hi)) k ||| (if decide (lo ≤ d k ∧ d k ≤ hi) = true then isl (1 : Int32) (nI k) else 0)
    by_cases q : lo ≤ d k ∧ d k ≤ hi
    · rw [if_pos q, if_neg (by decide), if_pos (decide_eq_true q)]
    · rw [if_neg q, if_pos rfl, if_neg (by rw [decide_eq_true_eq]; exact q)]
  · rintro n z rfl
    show wp (L_X7_setTold_6 (nI (9 * j)) (nI lo) (nI hi) S (n + 1) _ (nI 8)) _
    rw [L_X7_setTold_6]
    exact wp_ifn (by decide) (wp_some rfl)
theorem nums_dg {l : Nat → Nat} {a k : Nat} (h : l a = 100 ∨ l a = 115 ∨ l a = 119) : nums l a k = dg l a k := by
  unfold nums
  rw [if_neg (by omega), if_neg (by omega), if_neg (by omega), vl_1]
theorem dg_9 {L : Nat × (Nat → Nat)} {a k : Nat} (hd : Sd L a) (hk : k < dgb (L.2 a)) : dg L.2 a k ≤ 9 := by have := hd.2.2 k hk; show L.2 (a + 1 + k) - 48 ≤ 9; omega
/-- a sum or a weighted one -/
theorem m_sw {S : Sg} {L : Nat × (Nat → Nat)} {a j : Nat} {w : Wd} {o : Option Wd} (hg : wgood w) (hw : MW S w) (hd : Sd L a) (kp : Kp S L j a) (hj : j ≤ 32) (e : L.2 a = 115 ∨ L.2 a = 119) (h : Out L.2 a w o) : wp (f_X7_comesQuestion (nI (L.2 a)) (nI (9 * j)) S) (OneM S o) := by
  have hq := nu_sw e h
  have h8 : 8 ≤ dgb (L.2 a) := by rcases e with e | e <;> (rw [e]; decide)
  have hc : 8 ≤ cnt (L.2 a) := by rcases e with e | e <;> (rw [e]; decide)
  have k1 : kd (L.2 a) ≠ 1 := by
    rcases e with e | e <;> rw [e] <;> decide
  have st := m_set (S := S) (j := j) (lo := 1) (hi := 9) (d := fun k => dg L.2 a k) (fun k hk => by rw [kp.2.2 k (by omega), nums_dg (by omega)]) (fun k hk => dg_9 hd (by omega)) hj (by omega) (by omega)
  have ea : qa L.2 a = ob (fun k => decide (1 ≤ dg L.2 a k ∧ dg L.2 a k ≤ 9)) 8 := by
    rw [show qa L.2 a = _ from if_neg (by omega)]
    refine ob_c fun k hk => ?_
    have := dg_9 hd (k := k) (by omega)
    by_cases z : dg L.2 a k = 0
    · rw [z]; rfl
    · rw [decide_eq_true z, decide_eq_true (show 1 ≤ dg L.2 a k ∧ dg L.2 a k ≤ 9 by omega)]
  rw [ea] at hq
  unfold f_X7_comesQuestion
  refine wp_ltq (kd (L.2 a)) ?_ (wp_ltq 9 (if_neg k1) (wp_bds st (wp_lt (wp_ifn k1 (wp_gd ?_ (wp_lt (wp_ifn k1 ?_)))))))
  · rcases e with e | e <;> rw [e] <;> rfl
  · rw [show (8 : Int32) = nI 8 from rfl, nI_add]; exact inb_n (by omega) (by decide)
  · rcases e with e | e
    · rw [show kd (L.2 a) = 0 from if_pos e] at hq ⊢
      exact m_q hg hw (OutQ_0 hq)
    · rw [show (8 : Int32) = nI 8 from rfl, nI_add, ix_n (by omega), kp.2.2 8 (by rw [e]; decide), nums_dg (by omega), ← show qb L.2 a = nI (dg L.2 a 8) from (if_neg (by omega)).trans (if_neg (by omega))]
      exact m_q hg hw hq
/-- a difference -/
theorem m_d {S : Sg} {L : Nat × (Nat → Nat)} {a j : Nat} {w : Wd} {o : Option Wd} (hg : wgood w) (hw : MW S w) (hd : Sd L a) (kp : Kp S L j a) (hj : j ≤ 32) (e : L.2 a = 100) (h : Out L.2 a w o) : wp (f_X7_comesQuestion (nI (L.2 a)) (nI (9 * j)) S) (OneM S o) := by
  have hq := nu_d e h
  have h8 : 8 ≤ dgb (L.2 a) := by rw [e]; decide
  have hc : 8 ≤ cnt (L.2 a) := by rw [e]; decide
  have st : ∀ lo hi, lo ≤ 9 → hi ≤ 9 → f_X7_setTold (nI (9 * j)) (nI lo) (nI hi) S = some (ob (fun k => decide (lo ≤ dg L.2 a k ∧ dg L.2 a k ≤ hi)) 8) := fun lo hi h1 h2 => m_set (S := S) (j := j) (d := fun k => dg L.2 a k) (fun k hk => by rw [kp.2.2 k (by omega), nums_dg (by omega)]) (fun k hk => dg_9 hd (by omega)) hj h1 h2
  have eo : ∀ n, ob (fun k => decide (n ≤ dg L.2 a k ∧ dg L.2 a k ≤ n)) 8 = ob (fun k => decide (dg L.2 a k = n)) 8 := fun n => ob_c fun k hk => by
    by_cases z : dg L.2 a k = n
    · rw [decide_eq_true z, decide_eq_true (show n ≤ dg L.2 a k ∧ dg L.2 a k ≤ n by omega)]
    · rw [decide_eq_false z, decide_eq_false (show ¬ (n ≤ dg L.2 a k ∧ dg L.2 a k ≤ n) by omega)]
  unfold f_X7_comesQuestion
  refine wp_ltq 1 ((if_neg (by rw [e]; decide)).trans (if_pos (by rw [e]; rfl))) (wp_ltq 1 (if_pos rfl) (wp_bds (st 1 1 (by omega) (by omega)) (wp_lt (wp_ifp rfl (wp_bds (st 2 2 (by omega) (by omega)) (wp_lt (wp_ifp rfl (wp_bds (st 3 9 (by omega) (by omega)) ?_))))))))
  rcases hq with ⟨⟨k, hk, h2⟩, rfl⟩ | ⟨h2, hq⟩
  · refine wp_ifn (fun z => ?_) (wp_some OneM_0)
    have := ob_z z k hk
    rw [decide_eq_false_iff_not] at this
    have := dg_9 hd (k := k) (by omega)
    omega
  · refine wp_ifp (ob_0 fun k hk => decide_eq_false (by have := h2 k hk; omega)) ?_
    rw [eo 1, eo 2]
    rw [show qa L.2 a = _ from if_pos e, show qb L.2 a = _ from if_pos e] at hq
    exact m_q hg hw hq
theorem m_one {S : Sg} {L : Nat × (Nat → Nat)} {a j : Nat} {w : Wd} {o : Option Wd} (hg : wgood w) (hw : MW S w) (hL : L.1 ≤ 96 ∧ ∀ k, k < L.1 → L.2 k ≤ 255) (hd : Sd L a) (kp : Kp S L j a) (hj : j ≤ 32) (h : Out L.2 a w o) : wp (f_X7_comes (nI j) S) (OneM S o) := by
  have u : ∀ x : Option (Int32 × Sg), wp x (OneM S o) → wp (bd x (u2 fun r T => some (r, T))) (OneM S o) := fun x hx => wp_bdm hx fun z hz => wp_u2 (wp_some hz)
  have n0 : S.1 158 (ix (nI (9 * j))) = nI (nums L.2 a 0) := by
    rw [ix_n (by omega)]
    exact kp.2.2 0 (by rcases dgb_known hd.2.1 with e | e | e | e | e | e | e | e <;> (rw [e]; decide))
  have b0 : nums L.2 a 0 ≤ 99 := nums_99 hd (by rcases dgb_known hd.2.1 with e | e | e | e | e | e | e | e <;> (rw [e]; decide))
  have i0 : inb (nI (9 * j)) 297 = true := inb_n (by omega) (by decide)
  have i1 : inb (nI (9 * j) + (1 : Int32)) 297 = true := by rw [nIs]; exact inb_n (by omega) (by decide)
  have i2 : inb (nI (9 * j) + (2 : Int32)) 297 = true := by rw [show (2 : Int32) = nI 2 from rfl, nI_add]; exact inb_n (by omega) (by decide)
  unfold f_X7_comes
  rw [show (9 : Int32) * nI j = nI (9 * j) from nI_mul 9 j]
  refine wp_lt (wp_gd (inb_n (by omega) (by decide)) (wp_lt ?_))
  rw [ix_n (by omega), kp.1]
  rcases dgb_known hd.2.1 with e | e | e | e | e | e | e | e
  · refine wp_ifp (by rw [e]; rfl) (wp_gd i0 (wp_gd i1 (wp_gd i2 (u _ ?_))))
    rw [n0, nIs, ix_n (by omega), kp.2.2 1 (by rw [e]; decide), show (2 : Int32) = nI 2 from rfl, nI_add, ix_n (by omega), kp.2.2 2 (by rw [e]; decide)]
    exact m_bnd hg hw b0 (nums_99 hd (by rw [e]; decide)) (nums_99 hd (by rw [e]; decide)) (nu_98 e h)
  · refine wp_ifn (by rw [e]; decide) (wp_ifp (by rw [e]; rfl) (wp_gd i0 (wp_gd i1 (u _ ?_))))
    rw [n0, nIs, ix_n (by omega), kp.2.2 1 (by rw [e]; decide)]
    exact m_chg hg hw b0 (nu_99 e h)
  · exact wp_ifn (by rw [e]; decide) (wp_ifn (by rw [e]; decide) (wp_ifn (by rw [e]; decide) (wp_ifn (by rw [e]; decide) (wp_ifn (by rw [e]; decide) (u _ (m_d hg hw hd kp hj e h))))))
  · refine wp_ifn (by rw [e]; decide) (wp_ifn (by rw [e]; decide) (wp_ifp (by rw [e]; rfl) (wp_gd i0 (u _ ?_))))
    rw [n0, e]
    exact m_lim hw b0 (nu_108 e h)
  · refine wp_ifn (by rw [e]; decide) (wp_ifn (by rw [e]; decide) (wp_ifn (by rw [e]; decide) (wp_ifp (by rw [e]; rfl) (wp_gd i0 (u _ ?_)))))
    rw [n0, e]
    exact m_rul hw b0 (nu_114 e h)
  · exact wp_ifn (by rw [e]; decide) (wp_ifn (by rw [e]; decide) (wp_ifn (by rw [e]; decide) (wp_ifn (by rw [e]; decide) (wp_ifn (by rw [e]; decide) (u _ (m_sw hg hw hd kp hj (Or.inl e) h))))))
  · refine wp_ifn (by rw [e]; decide) (wp_ifn (by rw [e]; decide) (wp_ifn (by rw [e]; decide) (wp_ifn (by rw [e]; decide) (wp_ifp (by rw [e]; rfl) (wp_gd i0 (wp_gd i1 (u _ ?_)))))))
    rw [n0, nIs, ix_n (by omega), kp.2.2 1 (by rw [e]; decide)]
    exact m_told hg hw b0 (nu_118 e h)
  · exact wp_ifn (by rw [e]; decide) (wp_ifn (by rw [e]; decide) (wp_ifn (by rw [e]; decide) (wp_ifn (by rw [e]; decide) (wp_ifn (by rw [e]; decide) (u _ (m_sw hg hw hd kp hj (Or.inr e) h))))))
