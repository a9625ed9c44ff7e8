/-- a text of m good statements -/
def Tx (L : Nat × (Nat → Nat)) (m : Nat) : Prop := pos L.2 m = L.1 ∧ m ≤ 32 ∧ ∀ i, i < m → Sd L (pos L.2 i)
theorem Rs.tx {S : Sg} {L : Nat × (Nat → Nat)} {m : Nat} (h : Rs S L m) (hn : L.1 ≤ 96) (he : pos L.2 m = L.1) : Tx L m := by
  obtain ⟨h1, h2, h3, h4, h5, h6⟩ := h
  refine ⟨he, by omega, fun i hi => ?_⟩
  obtain ⟨_, b2, b3, b4, b5⟩ := h6 i hi
  have hs : sst L.2 (pos L.2 (i + 1)) = some (0, false) := by
    by_cases q : i + 1 = m
    · rw [q]; exact h4
    · exact (h6 (i + 1) (by omega)).2.2.2.2
  exact ⟨b4, b3, dg_ok b5 b3 hs⟩
theorem text_cases (L : Nat × (Nat → Nat)) (hL : L.1 ≤ 96 ∧ ∀ k, k < L.1 → L.2 k ≤ 255) : (∃ m, m ≠ 0 ∧ Tx L m ∧ isMis L (-9)) ∨ (∃ k, k ≤ 96 ∧ isMis L (nI k)) := by
  have h : LM ((fun o k => if o = 140 then (if k = 28 then nI L.1 else 0) else nI (L.2 k), fun _ _ => 0) : Sg) L 0 := ⟨rfl, fun k hk => rfl, rfl⟩
  obtain ⟨z, _, _, ⟨_, m, hm, he, hr⟩ | ⟨_, k, _, hk⟩⟩ := s_guardReads h hL rfl
  · refine Or.inl ⟨m, hm, hr.tx hL.1 he, Or.inr ⟨(0, false), by rw [← he]; exact hr.2.2.2.1, Or.inr (Or.inr ⟨rfl, ?_, rfl⟩)⟩⟩
    have := hr.2.2.1
    omega
  · exact Or.inr ⟨k, hk⟩
/-- the worlds on the way -/
def Ch (l : Nat → Nat) (w0 : Wd) (m : Nat) (ws : Nat → Wd) : Prop := ws 0 = w0 ∧ ∀ i, i < m → Out l (pos l i) (ws i) (some (ws (i + 1)))
theorem Out_good {L : Nat × (Nat → Nat)} {a : Nat} {w w' : Wd} (hg : wgood w) (hd : Sd L a) (h : Out L.2 a w (some w')) : wgood w' := by
  have Q : ∀ x A B, OutQ x A B w (some w') → wgood w' := fun x A B h => by
    rcases h with ⟨_, h⟩ | ⟨_, hq, m, hm, ⟨_, h⟩ | ⟨_, h⟩ | ⟨rfl, q, gk, h⟩⟩
    · cases h
    · cases h; exact hg
    · cases h
    · cases h; exact wg_join hg (wq_ok hq) gk (Meet_1 hm).2
  have n : ∀ k, k < cnt (L.2 a) → nums L.2 a k ≤ 99 := fun k hk => nums_99 hd hk
  rcases dgb_known hd.2.1 with e | e | e | e | e | e | e | e
  · have n1 := n 1 (by rw [e]; decide)
    have n2 := n 2 (by rw [e]; decide)
    rcases nu_98 e h with ⟨q, z⟩ | ⟨_, z⟩
    · cases z; exact wg_bnd hg (by omega)
    · cases z
  · have n1 := n 1 (by rw [e]; decide)
    rcases nu_99 e h with ⟨q, z⟩ | ⟨_, z⟩
    · cases z; exact wg_chg hg q.2 q.1 (by omega)
    · cases z
  · rcases nu_d e h with ⟨_, z⟩ | ⟨_, z⟩
    · cases z
    · exact Q _ _ _ z
  · rcases nu_108 e h with ⟨q, z⟩ | ⟨_, z⟩
    · cases z; exact wg_lim hg q
    · cases z
  · rcases nu_114 e h with ⟨q, z⟩ | ⟨_, z⟩
    · cases z; exact wg_rule hg q
    · cases z
  · exact Q _ _ _ (nu_sw (Or.inl e) h)
  · have n1 := n 1 (by rw [e]; decide)
    rcases nu_118 e h with ⟨q, z⟩ | ⟨_, z⟩
    · cases z; exact wg_set hg (by omega) q.2
    · cases z
  · exact Q _ _ _ (nu_sw (Or.inr e) h)
theorem Ch.good {L : Nat × (Nat → Nat)} {w0 : Wd} {m n : Nat} {ws : Nat → Wd} (h : Ch L.2 w0 m ws) (hg : wgood w0) (ht : Tx L n) (hm : m ≤ n) : ∀ i, i ≤ m → wgood (ws i) := by
  intro i
  induction i with
  | zero => intro _; rw [h.1]; exact hg
  | succ i ih => intro hi; exact Out_good (ih (by omega)) (ht.2.2 i (by omega)) (h.2 i (by omega))
theorem Ch.step {l : Nat → Nat} {w0 w' : Wd} {m : Nat} {ws : Nat → Wd} (h : Ch l w0 m ws) (ho : Out l (pos l m) (ws m) (some w')) : Ch l w0 (m + 1) (fun i => if i ≤ m then ws i else w') := by
  refine ⟨(if_pos (Nat.zero_le _)).trans h.1, fun i hi => ?_⟩
  show Out l (pos l i) (if i ≤ m then ws i else w') (some (if i + 1 ≤ m then ws (i + 1) else w'))
  rw [if_pos (by omega)]
  by_cases e : i = m
  · subst e; rw [if_neg (by omega)]; exact ho
  · rw [if_pos (by omega)]; exact h.2 i (by omega)
abbrev dfr : Nat → Prop := fun p => (44 ≤ p ∧ p < 87) ∨ p = 131
/-- what the class makes of the text -/
theorem c_perf {S : Sg} {L : Nat × (Nat → Nat)} {w0 : Wd} {m : Nat} (hg : wgood w0) (hw : CW 44 S w0) (hc : LC S L) (hL : L.1 ≤ 96 ∧ ∀ k, k < L.1 → L.2 k ≤ 255) (ht : Tx L m) : wp (L_X3_perform_24 135 96 44 130 400 0 0 0 S) (fun y => (∃ ws T, y = .inr (nI m, T) ∧ Ch L.2 w0 m ws ∧ CW 44 T (ws m) ∧ Fr dfr S T) ∨ (∃ j ws T, j < m ∧ y = .inl ((-2000 : Int32) - nI (pos L.2 j), T) ∧ Ch L.2 w0 j ws ∧ Out L.2 (pos L.2 j) (ws j) none ∧ Fr dfr S T)) := by
  have hn := hL.1
  have hm := ht.2.1
  refine up (F := fun n k (T : Sg) => L_X3_perform_24 135 96 44 130 n (nI (pos L.2 k)) (nI k) (nI k) T) m (fun k T => ∃ ws, Ch L.2 w0 k ws ∧ CW 44 T (ws k) ∧ Fr dfr S T) _ ?_ ?_ 400 0 S (by omega) (by omega) ⟨fun _ => w0, ⟨rfl, fun i hi => by omega⟩, hw, Fr.rf⟩
  · rintro n k T hk ⟨ws, h1, h2, f⟩ ih
    have hd := ht.2.2 k hk
    have hp : pos L.2 k < L.1 := by have := hd.1; omega
    have hcT : LC T L := hc.fr f (by show ¬ (_ ∨ _); omega) (by show ¬ (_ ∨ _); omega)
    show wp (L_X3_perform_24 135 96 44 130 (n + 1) (nI (pos L.2 k)) (nI k) (nI k) T) _
    rw [L_X3_perform_24]
    refine wp_ifp (nI_lt (b := 96) (by omega) (by decide)) ?_
    rw [hcT.1]
    refine wp_ifp (nI_lt hp (by omega)) (wp_bdm (c_one (h1.good hg ht (by omega) k (Nat.le_refl _)) h2 hcT hL hd) ?_)
    rintro ⟨r, U⟩ ⟨o, g1, g2, g3, g4⟩
    have hcU : LC U L := hcT.fr g4 (by show ¬ (_ ∨ _); omega) (by show ¬ (_ ∨ _); omega)
    cases o with
    | none =>
      have e : r = 0 := g2
      subst e
      exact wp_u2 (wp_ifp rfl (wp_some (Or.inr ⟨k, ws, U, hk, rfl, h1, g1, f.tr g4⟩)))
    | some w' =>
      have e : r = 1 := g2
      subst e
      refine wp_u2 (wp_ifn (by decide) (wp_bds (s_atL hcU hn hp) ?_))
      have hb := hL.2 _ hp
      rw [(dgb_eq _ (by omega)).1, show (2 : Int32) = nI 2 from rfl, nI_add, nI_add]
      refine wp_lt (wp_lt (wp_lt ?_))
      rw [nIs]
      refine ih U ⟨_, h1.step g1, ?_, f.tr g4⟩
      rw [if_neg (by omega)]
      exact g3 w' rfl
  · rintro n T ⟨ws, h1, h2, f⟩
    have hcT : LC T L := hc.fr f (by show ¬ (_ ∨ _); omega) (by show ¬ (_ ∨ _); omega)
    show wp (L_X3_perform_24 135 96 44 130 (n + 1) (nI (pos L.2 m)) (nI m) (nI m) T) _
    rw [L_X3_perform_24]
    refine wp_ifp (nI_lt (b := 96) (by omega) (by decide)) ?_
    rw [hcT.1, ht.1]
    exact wp_ifn (nI_nlt (Nat.le_refl _) (by omega)) (wp_some (Or.inl ⟨ws, T, rfl, h1, h2, f⟩))
