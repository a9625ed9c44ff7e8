theorem CI.L {S S' : Sg} {G : Gst} {L : Nat × (Nat → Nat)} (h : CI S G) (ok : GO G) (f : Fr (fun o => o = 135 ∨ o = 136) S S') (hL : S'.1 135 0 = nI L.1 ∧ ∀ k, k < L.1 → S'.1 136 k = nI (L.2 k)) : CI S' (G.1, G.2.1, L, G.2.2.2) := by
  obtain ⟨h1, h2, h3, h4, h5⟩ := h
  exact ⟨h1.fr f (fun p q => by have : 1 ≤ p ∧ p < 1 + 29 := q; show ¬ (_ ∨ _); omega) (wg_l10 ok.1), ⟨fun e => by rw [f.I (by decide)]; exact h2.1 e, fun k e => ⟨by rw [f.I (by decide)]; exact (h2.2 k e).1, (h2.2 k e).2.fr f (fun p q => by have : 87 ≤ p ∧ p < 87 + 29 := q; show ¬ (_ ∨ _); omega) (wg_l10 (ok.2.1 k e))⟩⟩, hL, ⟨by rw [f.I (by decide)]; exact h4.1, fun k hk => by rw [f.I (show ¬ ((138 : Nat) = 135 ∨ (138 : Nat) = 136) by decide)]; exact h4.2 k hk⟩, fun k hk => by rw [f.I (show ¬ ((139 : Nat) = 135 ∨ (139 : Nat) = 136) by decide)]; exact h5 k hk⟩
theorem CI.T {S S' : Sg} {G : Gst} {L : Nat × (Nat → Nat)} (h : CI S G) (ok : GO G) (f : Fr (fun o => o = 137 ∨ o = 138) S S') (hL : S'.1 137 0 = nI L.1 ∧ ∀ k, k < L.1 → S'.1 138 k = nI (L.2 k)) : CI S' (G.1, G.2.1, G.2.2.1, L, G.2.2.2.2) := by
  obtain ⟨h1, h2, h3, h4, h5⟩ := h
  exact ⟨h1.fr f (fun p q => by have : 1 ≤ p ∧ p < 1 + 29 := q; show ¬ (_ ∨ _); omega) (wg_l10 ok.1), ⟨fun e => by rw [f.I (by decide)]; exact h2.1 e, fun k e => ⟨by rw [f.I (by decide)]; exact (h2.2 k e).1, (h2.2 k e).2.fr f (fun p q => by have : 87 ≤ p ∧ p < 87 + 29 := q; show ¬ (_ ∨ _); omega) (wg_l10 (ok.2.1 k e))⟩⟩, ⟨by rw [f.I (by decide)]; exact h3.1, fun k hk => by rw [f.I (show ¬ ((136 : Nat) = 137 ∨ (136 : Nat) = 138) by decide)]; exact h3.2 k hk⟩, hL, fun k hk => by rw [f.I (show ¬ ((139 : Nat) = 137 ∨ (139 : Nat) = 138) by decide)]; exact h5 k hk⟩
theorem MI.L {S S' : Sg} {G : Gst} {L : Nat × (Nat → Nat)} (h : MI S G) (ok : GO G) (f : Fm (fun o k => o = 155 ∨ (o = 140 ∧ k = 28)) noJ S S') (hL : S'.1 140 28 = nI L.1 ∧ ∀ k, k < L.1 → S'.1 155 k = nI (L.2 k)) : MI S' (G.1, G.2.1, L, G.2.2.2) := by
  obtain ⟨h1, h2, h3, h4, h5⟩ := h
  exact ⟨h1.fm f (fun o k q => by show ¬ (_ ∨ _); have : (142 ≤ o ∧ o ≤ 147) ∨ (o = 140 ∧ 7 ≤ k ∧ k ≤ 10) := q; omega), ⟨fun e => by rw [f.1 _ _ (by decide)]; exact h2.1 e, fun k e => ⟨by rw [f.1 _ _ (by decide)]; exact (h2.2 k e).1, (h2.2 k e).2.fm (wg_l10 (ok.2.1 k e)) f fun _ _ _ => by show ¬ (_ ∨ _); omega⟩⟩, hL, ⟨by rw [f.1 _ _ (by decide)]; exact h4.1, fun k hk => by rw [f.1 _ _ (by show ¬ (_ ∨ _); omega)]; exact h4.2 k hk⟩, fun k hk => by rw [f.1 _ _ (by show ¬ (_ ∨ _); omega)]; exact h5 k hk⟩
theorem MI.T {S S' : Sg} {G : Gst} {L : Nat × (Nat → Nat)} (h : MI S G) (ok : GO G) (f : Fm (fun o k => o = 165 ∨ (o = 140 ∧ k = 39)) noJ S S') (hL : S'.1 140 39 = nI L.1 ∧ ∀ k, k < L.1 → S'.1 165 k = nI (L.2 k)) : MI S' (G.1, G.2.1, G.2.2.1, L, G.2.2.2.2) := by
  obtain ⟨h1, h2, h3, h4, h5⟩ := h
  exact ⟨h1.fm f (fun o k q => by show ¬ (_ ∨ _); have : (142 ≤ o ∧ o ≤ 147) ∨ (o = 140 ∧ 7 ≤ k ∧ k ≤ 10) := q; omega), ⟨fun e => by rw [f.1 _ _ (by decide)]; exact h2.1 e, fun k e => ⟨by rw [f.1 _ _ (by decide)]; exact (h2.2 k e).1, (h2.2 k e).2.fm (wg_l10 (ok.2.1 k e)) f fun _ _ _ => by show ¬ (_ ∨ _); omega⟩⟩, ⟨by rw [f.1 _ _ (by decide)]; exact h3.1, fun k hk => by rw [f.1 _ _ (by show ¬ (_ ∨ _); omega)]; exact h3.2 k hk⟩, hL, fun k hk => by rw [f.1 _ _ (by show ¬ (_ ∨ _); omega)]; exact h5 k hk⟩
/-- one letter more -/
def push (L : Nat × (Nat → Nat)) (x : Nat) : Nat × (Nat → Nat) := (L.1 + 1, fun k => if k = L.1 then x else L.2 k)
theorem push_ok {L : Nat × (Nat → Nat)} {x m : Nat} (h : L.1 ≤ m ∧ ∀ k, k < L.1 → L.2 k ≤ 255) (hn : L.1 ≠ m) (hx : x ≤ 255) : (push L x).1 ≤ m ∧ ∀ k, k < (push L x).1 → (push L x).2 k ≤ 255 := by
  refine ⟨by show L.1 + 1 ≤ m; omega, fun k hk => ?_⟩
  have hk' : k < L.1 + 1 := hk
  show (if k = L.1 then x else L.2 k) ≤ 255
  by_cases e : k = L.1
  · rw [if_pos e]; exact hx
  · rw [if_neg e]; exact h.2 k (by omega)
/-- a letter laid behind the others -/
theorem lay {S : Sg} {oc on oa k0 : Nat} {L : Nat × (Nat → Nat)} {x : Nat} (hd : oa ≠ oc) (h : S.1 oc k0 = nI L.1 ∧ ∀ k, k < L.1 → S.1 oa k = nI (L.2 k)) : (setI (setI S oa L.1 (nI x)) oc k0 (nI (L.1 + 1))).1 oc k0 = nI (push L x).1 ∧ ∀ k, k < (push L x).1 → (setI (setI S oa L.1 (nI x)) oc k0 (nI (L.1 + 1))).1 oa k = nI ((push L x).2 k) := by
  refine ⟨setI_s, fun k hk => ?_⟩
  have hk' : k < L.1 + 1 := hk
  rw [setI_n (fun q => hd q.1)]
  show _ = nI (if k = L.1 then x else L.2 k)
  by_cases e : k = L.1
  · rw [if_pos e, e, setI_s]
  · rw [if_neg e, setI_n (fun q => e q.2)]; exact h.2 k (by omega)
theorem byte_cases (p : Int32) (n : Int32) : (∃ j, isRef (f_X6_misfit p 0 (255 : Int32)) j) ∨ ∃ x : Nat, x ≤ 255 ∧ p = nI x ∧ f_X6_misfit p 0 (255 : Int32) = 0 := by
  rcases mis_cases p 255 (by decide) with ⟨e, _⟩ | ⟨e, _⟩ | ⟨e, x, hx, rfl⟩
  · left; rw [show f_X6_misfit p 0 (255 : Int32) = -4 from e]; exact ⟨_, r4⟩
  · left; rw [show f_X6_misfit p 0 (255 : Int32) = -6 from e]; exact ⟨_, r6⟩
  · right; exact ⟨x, hx, rfl, e⟩
theorem s_append {S : Sg} {G : Gst} {o m : Nat} {L : Nat × (Nat → Nat)} {p : Int32} (ok : GO G) (hC : CI S G) (hm : m < 1000) (hL : S.1 o 0 = nI L.1 ∧ ∀ k, k < L.1 → S.1 (o + 1) k = nI (L.2 k)) (hl : L.1 ≤ m) (ho : o + 1 < 140) :
    wp (f_X6_append o m p S) (fun z => Fr cls S z.2 ∧ ((∃ j, isRef (f_X6_misfit p 0 (255 : Int32)) j ∧ z.1 = f_X6_misfit p 0 (255 : Int32) ∧ CI z.2 (bump G j)) ∨ (f_X6_misfit p 0 (255 : Int32) = 0 ∧ L.1 = m ∧ z.1 = -6 ∧ CI z.2 (bump G 5)) ∨ ∃ x : Nat, x ≤ 255 ∧ p = nI x ∧ L.1 ≠ m ∧ f_X6_misfit p 0 (255 : Int32) = 0 ∧ z.1 = nI (L.1 + 1) ∧ Fr (fun q => q = o ∨ q = o + 1) S z.2 ∧ z.2.1 o 0 = nI (push L x).1 ∧ ∀ k, k < (push L x).1 → z.2.1 (o + 1) k = nI ((push L x).2 k))) := by
  unfold f_X6_append
  rcases byte_cases p 0 with ⟨j, hj⟩ | ⟨x, hx, rfl, e⟩
  · refine wp_lt (wp_ifn hj.ne (wp_mono (ref6 hj ok hC) fun z hz => ⟨hz.2.1, Or.inl ⟨j, hj, hz.1, hz.2.2⟩⟩))
  · rw [e]
    refine wp_lt (wp_ifp rfl ?_)
    unfold f_X1_add
    rw [hL.1]
    by_cases h : L.1 = m
    · rw [show f_X6_isWithin (nI L.1) (Int32.ofNat m) = 0 by
        rcases isW_cases (nI L.1) (n := m) (by omega) with ⟨j, hj, e1, _⟩ | ⟨_, e1⟩
        · have := (nI_eq (by omega) (by omega)).mp e1; omega
        · exact e1]
      exact wp_bds rfl (wp_u2 (wp_ifp rfl (wp_mono (ref6 r6 ok hC) fun z hz => ⟨hz.2.1, Or.inr (Or.inl ⟨rfl, h, hz.1, hz.2.2⟩)⟩)))
    · rw [show f_X6_isWithin (nI L.1) (Int32.ofNat m) = 1 from isW_lit (by omega) (by omega), if_neg (by decide), show inb (nI L.1) m = true from inb_n (by omega) (by omega), ix_n (by omega)]
      have e3 : (setI S (o + 1) L.1 (nI x)).1 o 0 + 1 = nI (L.1 + 1) := by rw [setI_n (by omega), hL.1, nIs]
      have hlay := lay (on := 0) (x := x) (show o + 1 ≠ o by omega) hL
      have f : Fr (fun q => q = o ∨ q = o + 1) S (setI (setI S (o + 1) L.1 (nI x)) o 0 (nI (L.1 + 1))) := (Fr.setI (A := fun q => q = o ∨ q = o + 1) (Or.inr rfl)).tr (Fr.setI (Or.inl rfl))
      refine wp_bds (a := (1, setI (setI S (o + 1) L.1 (nI x)) o 0 (nI (L.1 + 1)))) ?_ (wp_u2 (wp_ifn (by decide) (wp_some ⟨f.mono (fun q hq => by show q < 140; have : q = o ∨ q = o + 1 := hq; omega), Or.inr (Or.inr ⟨x, hx, rfl, h, rfl, hlay.1, f, hlay⟩)⟩)))
      show some ((1 : Int32), setI (setI S (o + 1) L.1 (nI x)) o 0 ((setI S (o + 1) L.1 (nI x)).1 o 0 + 1)) = _
      rw [e3]
theorem p_letter {S : Sg} {G : Gst} (ok : GO G) (hC : CI S G) (hM : MI S G) (p : Int32) : Same (f_X6_letter p S) (f_X7_letter p) := by
  have hb : f_X7_bound p 0 (255 : Int32) = f_X6_misfit p 0 (255 : Int32) := rfl
  refine mk (fun r G' => (∃ j, isRef (f_X6_misfit p 0 (255 : Int32)) j ∧ r = f_X6_misfit p 0 (255 : Int32) ∧ G' = bump G j) ∨ (f_X6_misfit p 0 (255 : Int32) = 0 ∧ G.2.2.1.1 = 96 ∧ r = -6 ∧ G' = bump G 5) ∨ ∃ x : Nat, x ≤ 255 ∧ p = nI x ∧ G.2.2.1.1 ≠ 96 ∧ f_X6_misfit p 0 (255 : Int32) = 0 ∧ r = nI (G.2.2.1.1 + 1) ∧ G' = (G.1, G.2.1, push G.2.2.1 x, G.2.2.2)) ok hM ?_ ?_
  · unfold f_X6_letter
    refine wp_bdm (s_append ok hC (by decide) hC.2.2.1 ok.2.2.1.1 (by decide)) ?_
    rintro ⟨r, T⟩ ⟨f, h | h | h⟩
    · obtain ⟨j, a, b, c⟩ := h
      exact wp_u2 (wp_some ⟨f, _, Or.inl ⟨j, a, b, rfl⟩, c⟩)
    · obtain ⟨a, b, c, d⟩ := h
      exact wp_u2 (wp_some ⟨f, _, Or.inr (Or.inl ⟨a, b, c, rfl⟩), d⟩)
    · obtain ⟨x, a, b, c, d, e, f', l⟩ := h
      exact wp_u2 (wp_some ⟨f, _, Or.inr (Or.inr ⟨x, a, b, c, d, e, rfl⟩), hC.L ok f' l⟩)
  · intro r S' G' hR h
    unfold f_X7_letter
    rw [hb, h.2.2.1.1]
    rcases hR with ⟨j, hj, rfl, rfl⟩ | ⟨e, h96, rfl, rfl⟩ | ⟨x, hx, rfl, hn, e, rfl, rfl⟩
    · refine ⟨ok, wp_lt (wp_ltq (f_X6_misfit p 0 (255 : Int32)) (if_neg hj.ne) (wp_ifn hj.ne (ref7 hj ok h)))⟩
    · rw [e, h96]
      exact ⟨ok, wp_lt (wp_ltq (-6) ((if_pos rfl).trans (if_pos rfl)) (wp_ifn (by decide) (ref7 r6 ok h)))⟩
    · rw [e]
      have hl := ok.2.2.1.1
      refine ⟨⟨ok.1, ok.2.1, push_ok ok.2.2.1 hn hx, ok.2.2.2⟩, wp_lt (wp_ltq 0 ((if_pos rfl).trans (if_neg fun q => ?_)) (wp_ifp rfl (wp_gd (inb_n (by omega) (by decide)) (wp_lt ?_))))⟩
      · have q' : nI G.2.2.1.1 = nI 96 := q
        exact hn ((nI_eq (by omega) (by omega)).mp q')
      · rw [ix_n (by omega), setI_n (by omega), h.2.2.1.1, nIs]
        have hlay := lay (on := 0) (x := x) (show (155 : Nat) ≠ 140 by decide) h.2.2.1
        have f : Fm (fun o k => o = 155 ∨ (o = 140 ∧ k = 28)) noJ S' (setI (setI S' 155 G.2.2.1.1 (nI x)) 140 28 (nI (G.2.2.1.1 + 1))) := (Fm.setI (AI := fun o k => o = 155 ∨ (o = 140 ∧ k = 28)) (Or.inl rfl)).tr (Fm.setI (Or.inr ⟨rfl, rfl⟩))
        exact wp_lt (wp_some ⟨hlay.1, mfr f (fun o k q => by have : o = 155 ∨ (o = 140 ∧ k = 28) := q; omega) (fun _ _ q => q.elim), h.L ok f hlay⟩)
theorem p_row {S : Sg} {G : Gst} (ok : GO G) (hC : CI S G) (hM : MI S G) (p : Int32) : Same (f_X6_row p S) (f_X7_row p) := by
  have hb : f_X7_bound p 0 (255 : Int32) = f_X6_misfit p 0 (255 : Int32) := rfl
  refine mk (fun r G' => (∃ j, isRef (f_X6_misfit p 0 (255 : Int32)) j ∧ r = f_X6_misfit p 0 (255 : Int32) ∧ G' = bump G j) ∨ (f_X6_misfit p 0 (255 : Int32) = 0 ∧ G.2.2.2.1.1 = 32 ∧ r = -6 ∧ G' = bump G 5) ∨ ∃ x : Nat, x ≤ 255 ∧ p = nI x ∧ G.2.2.2.1.1 ≠ 32 ∧ f_X6_misfit p 0 (255 : Int32) = 0 ∧ r = nI (G.2.2.2.1.1 + 1) ∧ G' = (G.1, G.2.1, G.2.2.1, push G.2.2.2.1 x, G.2.2.2.2)) ok hM ?_ ?_
  · unfold f_X6_row
    refine wp_bdm (s_append ok hC (by decide) hC.2.2.2.1 ok.2.2.2.1 (by decide)) ?_
    rintro ⟨r, T⟩ ⟨f, h | h | h⟩
    · obtain ⟨j, a, b, c⟩ := h
      exact wp_u2 (wp_some ⟨f, _, Or.inl ⟨j, a, b, rfl⟩, c⟩)
    · obtain ⟨a, b, c, d⟩ := h
      exact wp_u2 (wp_some ⟨f, _, Or.inr (Or.inl ⟨a, b, c, rfl⟩), d⟩)
    · obtain ⟨x, a, b, c, d, e, f', l⟩ := h
      exact wp_u2 (wp_some ⟨f, _, Or.inr (Or.inr ⟨x, a, b, c, d, e, rfl⟩), hC.T ok f' l⟩)
  · intro r S' G' hR h
    unfold f_X7_row
    rw [hb, h.2.2.2.1.1]
    rcases hR with ⟨j, hj, rfl, rfl⟩ | ⟨e, h96, rfl, rfl⟩ | ⟨x, hx, rfl, hn, e, rfl, rfl⟩
    · refine ⟨ok, wp_lt (wp_ltq (f_X6_misfit p 0 (255 : Int32)) (if_neg hj.ne) (wp_ifn hj.ne (ref7 hj ok h)))⟩
    · rw [e, h96]
      exact ⟨ok, wp_lt (wp_ltq (-6) ((if_pos rfl).trans (if_pos rfl)) (wp_ifn (by decide) (ref7 r6 ok h)))⟩
    · rw [e]
      have hl := ok.2.2.2.1
      refine ⟨⟨ok.1, ok.2.1, ok.2.2.1, push_ok ok.2.2.2 hn hx⟩, wp_lt (wp_ltq 0 ((if_pos rfl).trans (if_neg fun q => ?_)) (wp_ifp rfl (wp_gd (inb_n (by omega) (by decide)) (wp_lt ?_))))⟩
      · have q' : nI G.2.2.2.1.1 = nI 32 := q
        exact hn ((nI_eq (by omega) (by omega)).mp q')
      · rw [ix_n (by omega), setI_n (by omega), h.2.2.2.1.1, nIs]
        have hlay := lay (on := 0) (x := x) (show (165 : Nat) ≠ 140 by decide) h.2.2.2.1
        have f : Fm (fun o k => o = 165 ∨ (o = 140 ∧ k = 39)) noJ S' (setI (setI S' 165 G.2.2.2.1.1 (nI x)) 140 39 (nI (G.2.2.2.1.1 + 1))) := (Fm.setI (AI := fun o k => o = 165 ∨ (o = 140 ∧ k = 39)) (Or.inl rfl)).tr (Fm.setI (Or.inr ⟨rfl, rfl⟩))
        exact wp_lt (wp_some ⟨hlay.1, mfr f (fun o k q => by have : o = 165 ∨ (o = 140 ∧ k = 39) := q; omega) (fun _ _ q => q.elim), h.T ok f hlay⟩)
