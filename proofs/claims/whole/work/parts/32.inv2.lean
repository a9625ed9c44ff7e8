abbrev Gst : Type := Wd × Option Wd × (Nat × (Nat → Nat)) × (Nat × (Nat → Nat)) × (Nat → Int32)
/-- the class's side -/
def CI (S : Sg) (G : Gst) : Prop := CW 1 S G.1 ∧ ((G.2.1 = none → S.1 0 3 = 0) ∧ ∀ k, G.2.1 = some k → S.1 0 3 = 1 ∧ CW 87 S k) ∧
  (S.1 135 0 = nI G.2.2.1.1 ∧ ∀ k, k < G.2.2.1.1 → S.1 136 k = nI (G.2.2.1.2 k)) ∧ (S.1 137 0 = nI G.2.2.2.1.1 ∧ ∀ k, k < G.2.2.2.1.1 → S.1 138 k = nI (G.2.2.2.1.2 k)) ∧ ∀ k, k < 6 → S.1 139 k = G.2.2.2.2 k
/-- the reference's side -/
def MI (S : Sg) (G : Gst) : Prop := MW S G.1 ∧ ((G.2.1 = none → S.1 140 21 = 0) ∧ ∀ k, G.2.1 = some k → S.1 140 21 = 1 ∧ KW S 0 k) ∧
  (S.1 140 28 = nI G.2.2.1.1 ∧ ∀ k, k < G.2.2.1.1 → S.1 155 k = nI (G.2.2.1.2 k)) ∧ (S.1 140 39 = nI G.2.2.2.1.1 ∧ ∀ k, k < G.2.2.2.1.1 → S.1 165 k = nI (G.2.2.2.1.2 k)) ∧ ∀ k, k < 6 → S.1 141 (k + 1) = G.2.2.2.2 k
def GO (G : Gst) : Prop := wgood G.1 ∧ (∀ k, G.2.1 = some k → wgood k) ∧ (G.2.2.1.1 ≤ 96 ∧ ∀ k, k < G.2.2.1.1 → G.2.2.1.2 k ≤ 255) ∧ (G.2.2.2.1.1 ≤ 32 ∧ ∀ k, k < G.2.2.2.1.1 → G.2.2.2.1.2 k ≤ 255)
def Inv (S : Sg) : Prop := ∃ G, GO G ∧ CI S G ∧ MI S G
abbrev cls : Nat → Prop := fun o => o < 140
abbrev mdl : Nat → Prop := fun o => 140 ≤ o
/-- what the class may spoil -/
abbrev csc : Nat → Prop := fun o => (30 ≤ o ∧ o < 87) ∨ (116 ≤ o ∧ o < 135)
/-- what the reference may spoil -/
abbrev msc : Nat → Nat → Prop := fun o k => 140 ≤ o ∧ ¬ mwI o k ∧ ¬ (o = 154 ∧ k < 152) ∧ ¬ (o = 140 ∧ (k = 21 ∨ k = 28 ∨ k = 39)) ∧ o ≠ 141 ∧ o ≠ 155 ∧ o ≠ 165
abbrev mscJ : Nat → Nat → Prop := fun o _ => 140 ≤ o
theorem CI.sc {S S' : Sg} {G : Gst} (h : CI S G) (ok : GO G) (f : Fr csc S S') : CI S' G := by
  obtain ⟨h1, h2, h3, h4, h5⟩ := h
  refine ⟨h1.fr f (fun p q => by show ¬ (_ ∨ _); have : 1 ≤ p ∧ p < 1 + 29 := q; omega) (wg_l10 ok.1), ⟨fun e => by rw [f.I (by show ¬ (_ ∨ _); omega)]; exact h2.1 e, fun k e => ⟨by rw [f.I (by show ¬ (_ ∨ _); omega)]; exact (h2.2 k e).1, (h2.2 k e).2.fr f (fun p q => by show ¬ (_ ∨ _); have : 87 ≤ p ∧ p < 87 + 29 := q; omega) (wg_l10 (ok.2.1 k e))⟩⟩, ⟨by rw [f.I (by show ¬ (_ ∨ _); omega)]; exact h3.1, fun k hk => by rw [f.I (by show ¬ (_ ∨ _); omega)]; exact h3.2 k hk⟩, ⟨by rw [f.I (by show ¬ (_ ∨ _); omega)]; exact h4.1, fun k hk => by rw [f.I (by show ¬ (_ ∨ _); omega)]; exact h4.2 k hk⟩, fun k hk => by rw [f.I (by show ¬ (_ ∨ _); omega)]; exact h5 k hk⟩
/-- all but the world stays -/
theorem CI.w {S S' : Sg} {G : Gst} {w : Wd} (h : CI S G) (ok : GO G) (f : Fr (fun o => 1 ≤ o ∧ o < 87 ∨ (116 ≤ o ∧ o < 135)) S S') (hw : CW 1 S' w) : CI S' (w, G.2) := by
  obtain ⟨h1, h2, h3, h4, h5⟩ := h
  refine ⟨hw, ⟨fun e => by rw [f.I (by show ¬ (_ ∨ _); omega)]; exact h2.1 e, fun k e => ⟨by rw [f.I (by show ¬ (_ ∨ _); omega)]; exact (h2.2 k e).1, (h2.2 k e).2.fr f (fun p q => by show ¬ (_ ∨ _); have : 87 ≤ p ∧ p < 87 + 29 := q; omega) (wg_l10 (ok.2.1 k e))⟩⟩, ⟨by rw [f.I (by show ¬ (_ ∨ _); omega)]; exact h3.1, fun k hk => by rw [f.I (by show ¬ (_ ∨ _); omega)]; exact h3.2 k hk⟩, ⟨by rw [f.I (by show ¬ (_ ∨ _); omega)]; exact h4.1, fun k hk => by rw [f.I (by show ¬ (_ ∨ _); omega)]; exact h4.2 k hk⟩, fun k hk => by rw [f.I (by show ¬ (_ ∨ _); omega)]; exact h5 k hk⟩
theorem CI.m {S S' : Sg} {G : Gst} (h : CI S G) (ok : GO G) (f : Fr mdl S S') : CI S' G := by
  obtain ⟨h1, h2, h3, h4, h5⟩ := h
  refine ⟨h1.fr f (fun p q => by show ¬ _; have : 1 ≤ p ∧ p < 1 + 29 := q; show ¬ (140 ≤ p); omega) (wg_l10 ok.1), ⟨fun e => by rw [f.I (by show ¬ (140 ≤ _); omega)]; exact h2.1 e, fun k e => ⟨by rw [f.I (by show ¬ (140 ≤ _); omega)]; exact (h2.2 k e).1, (h2.2 k e).2.fr f (fun p q => by have : 87 ≤ p ∧ p < 87 + 29 := q; show ¬ (140 ≤ p); omega) (wg_l10 (ok.2.1 k e))⟩⟩, ⟨by rw [f.I (by show ¬ (140 ≤ _); omega)]; exact h3.1, fun k hk => by rw [f.I (by show ¬ (140 ≤ _); omega)]; exact h3.2 k hk⟩, ⟨by rw [f.I (by show ¬ (140 ≤ _); omega)]; exact h4.1, fun k hk => by rw [f.I (by show ¬ (140 ≤ _); omega)]; exact h4.2 k hk⟩, fun k hk => by rw [f.I (by show ¬ (140 ≤ _); omega)]; exact h5 k hk⟩
theorem MI.fm {S S' : Sg} {G : Gst} {AI AJ : Nat → Nat → Prop} (h : MI S G) (ok : GO G) (f : Fm AI AJ S S') (hA : ∀ o k, 140 ≤ o → ¬ msc o k → ¬ AI o k) : MI S' G := by
  obtain ⟨h1, h2, h3, h4, h5⟩ := h
  have e : ∀ o k, 140 ≤ o → ¬ msc o k → S'.1 o k = S.1 o k := fun o k a b => f.1 o k (hA o k a b)
  refine ⟨h1.fm f (fun o k q => hA o k (by show 140 ≤ o; have : (142 ≤ o ∧ o ≤ 147) ∨ (o = 140 ∧ 7 ≤ k ∧ k ≤ 10) := q; omega) fun r => r.2.1 q), ⟨fun q => by rw [e 140 21 (by omega) fun r => r.2.2.2.1 ⟨rfl, Or.inl rfl⟩]; exact h2.1 q, fun k q => ⟨by rw [e 140 21 (by omega) fun r => r.2.2.2.1 ⟨rfl, Or.inl rfl⟩]; exact (h2.2 k q).1, (h2.2 k q).2.fm (wg_l10 (ok.2.1 k q)) f fun j _ hj => hA 154 j (by omega) fun r => r.2.2.1 ⟨rfl, by omega⟩⟩⟩, ⟨by rw [e 140 28 (by omega) fun r => r.2.2.2.1 ⟨rfl, Or.inr (Or.inl rfl)⟩]; exact h3.1, fun k hk => by rw [e 155 k (by omega) fun r => r.2.2.2.2.2.1 rfl]; exact h3.2 k hk⟩, ⟨by rw [e 140 39 (by omega) fun r => r.2.2.2.1 ⟨rfl, Or.inr (Or.inr rfl)⟩]; exact h4.1, fun k hk => by rw [e 165 k (by omega) fun r => r.2.2.2.2.2.2 rfl]; exact h4.2 k hk⟩, fun k hk => by rw [e 141 (k + 1) (by omega) fun r => r.2.2.2.2.1 rfl]; exact h5 k hk⟩
/-- all but the world stays -/
theorem MI.w {S S' : Sg} {G : Gst} {w : Wd} {AI AJ : Nat → Nat → Prop} (h : MI S G) (ok : GO G) (f : Fm AI AJ S S') (hA : ∀ o k, 140 ≤ o → ¬ msc o k → ¬ mwI o k → ¬ AI o k) (hw : MW S' w) : MI S' (w, G.2) := by
  obtain ⟨h1, h2, h3, h4, h5⟩ := h
  have e : ∀ o k, 140 ≤ o → ¬ msc o k → ¬ mwI o k → S'.1 o k = S.1 o k := fun o k a b c => f.1 o k (hA o k a b c)
  have n : ∀ k, (k = 21 ∨ k = 28 ∨ k = 39) → ¬ mwI 140 k := fun k a b => by
    have : (142 ≤ 140 ∧ 140 ≤ 147) ∨ (140 = 140 ∧ 7 ≤ k ∧ k ≤ 10) := b
    omega
  have n2 : ∀ o k, (o = 154 ∨ o = 155 ∨ o = 165 ∨ o = 141) → ¬ mwI o k := fun o k a b => by
    have : (142 ≤ o ∧ o ≤ 147) ∨ (o = 140 ∧ 7 ≤ k ∧ k ≤ 10) := b
    omega
  refine ⟨hw, ⟨fun q => by rw [e 140 21 (by omega) (fun r => r.2.2.2.1 ⟨rfl, Or.inl rfl⟩) (n _ (by omega))]; exact h2.1 q, fun k q => ⟨by rw [e 140 21 (by omega) (fun r => r.2.2.2.1 ⟨rfl, Or.inl rfl⟩) (n _ (by omega))]; exact (h2.2 k q).1, (h2.2 k q).2.fm (wg_l10 (ok.2.1 k q)) f fun j _ hj => hA 154 j (by omega) (fun r => r.2.2.1 ⟨rfl, by omega⟩) (n2 _ _ (by omega))⟩⟩, ⟨by rw [e 140 28 (by omega) (fun r => r.2.2.2.1 ⟨rfl, Or.inr (Or.inl rfl)⟩) (n _ (by omega))]; exact h3.1, fun k hk => by rw [e 155 k (by omega) (fun r => r.2.2.2.2.2.1 rfl) (n2 _ _ (by omega))]; exact h3.2 k hk⟩, ⟨by rw [e 140 39 (by omega) (fun r => r.2.2.2.1 ⟨rfl, Or.inr (Or.inr rfl)⟩) (n _ (by omega))]; exact h4.1, fun k hk => by rw [e 165 k (by omega) (fun r => r.2.2.2.2.2.2 rfl) (n2 _ _ (by omega))]; exact h4.2 k hk⟩, fun k hk => by rw [e 141 (k + 1) (by omega) (fun r => r.2.2.2.2.1 rfl) (n2 _ _ (by omega))]; exact h5 k hk⟩
theorem MI.c {S S' : Sg} {G : Gst} (h : MI S G) (ok : GO G) (f : Fr cls S S') : MI S' G :=
  MI.fm h ok (AI := fun o _ => o < 140) (AJ := fun o _ => o < 140) ⟨fun o k q => f.I q k, fun o k q => f.J q k⟩ fun o k a _ q => by have : o < 140 := q; omega
/-- both sides do the same -/
def Same {α : Type} (f6 : Option (α × Sg)) (f7 : Sg → Option (α × Sg)) : Prop := wp f6 (fun z => wp (f7 z.2) (fun y => y.1 = z.1 ∧ Inv y.2))
theorem mk {α : Type} {f6 : Option (α × Sg)} {f7 : Sg → Option (α × Sg)} {S : Sg} {G : Gst} (R : α → Gst → Prop) (ok : GO G) (hM : MI S G)
    (h6 : wp f6 (fun z => Fr cls S z.2 ∧ ∃ G', R z.1 G' ∧ CI z.2 G')) (h7 : ∀ r S' G', R r G' → MI S' G → GO G' ∧ wp (f7 S') (fun y => y.1 = r ∧ Fr mdl S' y.2 ∧ MI y.2 G')) : Same f6 f7 := by
  refine wp_mono h6 ?_
  rintro z ⟨a1, G', a2, a3⟩
  obtain ⟨b1, b2⟩ := h7 z.1 z.2 G' a2 (hM.c ok a1)
  exact wp_mono b2 fun y c => ⟨c.1, G', b1, a3.m b1 c.2.1, c.2.2⟩
/-- refusing -/
def bump (G : Gst) (j : Nat) : Gst := (G.1, G.2.1, G.2.2.1, G.2.2.2.1, fun k => if k = j then G.2.2.2.2 k + 1 else G.2.2.2.2 k)
theorem bump_ok {G : Gst} {j : Nat} (h : GO G) : GO (bump G j) := h
theorem refuse_eq {S : Sg} {j : Nat} (hj : j < 6) : f_X6_refuse (I (-(j + 1 : Nat))) S = some (I (-(j + 1 : Nat)), setI S 139 j (S.1 139 j + 1)) := by
  have : ∀ j, j < 6 → ((-1 : Int32) - I (-(j + 1 : Nat))) = nI j := by decide +kernel
  have h6 := isW_lit (q := j) (n := 6) hj (by decide)
  unfold f_X6_refuse
  refine wp_to (wp_ltq (nI j) (this j hj) (wp_ifn (by rw [show f_X6_isWithin (nI j) (6 : Int32) = 1 from h6]; decide) (wp_gd (inb_n hj (by decide)) (wp_lt (wp_some ?_)))))
  rw [ix_n (by omega)]
theorem CI.ref {S : Sg} {G : Gst} {j : Nat} (h : CI S G) (ok : GO G) (hj : j < 6) : CI (setI S 139 j (S.1 139 j + 1)) (bump G j) := by
  have f : Fr (fun o => o = 139) S (setI S 139 j (S.1 139 j + 1)) := Fr.setI rfl
  obtain ⟨h1, h2, h3, h4, h5⟩ := h
  refine ⟨h1.fr f (fun p q => by have : 1 ≤ p ∧ p < 1 + 29 := q; show ¬ (p = 139); omega) (wg_l10 ok.1), ⟨fun e => by rw [f.I (by decide)]; exact h2.1 e, fun k e => ⟨by rw [f.I (by decide)]; exact (h2.2 k e).1, (h2.2 k e).2.fr f (fun p q => by have : 87 ≤ p ∧ p < 87 + 29 := q; show ¬ (p = 139); omega) (wg_l10 (ok.2.1 k e))⟩⟩, ⟨by rw [f.I (by decide)]; exact h3.1, fun k hk => by rw [f.I (by decide)]; exact h3.2 k hk⟩, ⟨by rw [f.I (by decide)]; exact h4.1, fun k hk => by rw [f.I (by decide)]; exact h4.2 k hk⟩, fun k hk => ?_⟩
  show _ = if k = j then G.2.2.2.2 k + 1 else G.2.2.2.2 k
  by_cases e : k = j
  · subst e; rw [if_pos rfl, setI_s, h5 k hk]
  · rw [if_neg e, setI_n (fun q => e q.2), h5 k hk]
theorem MI.ref {S : Sg} {G : Gst} {j : Nat} (h : MI S G) (ok : GO G) : MI (setI S 141 (j + 1) (S.1 141 (j + 1) + 1)) (bump G j) := by
  have f : Fm (fun o _ => o = 141) noJ S (setI S 141 (j + 1) (S.1 141 (j + 1) + 1)) := Fm.setI rfl
  obtain ⟨h1, h2, h3, h4, h5⟩ := h
  refine ⟨h1.fm f (fun o k q => by show ¬ (o = 141); have : (142 ≤ o ∧ o ≤ 147) ∨ (o = 140 ∧ 7 ≤ k ∧ k ≤ 10) := q; omega), ⟨fun e => by rw [f.1 _ _ (by decide)]; exact h2.1 e, fun k e => ⟨by rw [f.1 _ _ (by decide)]; exact (h2.2 k e).1, (h2.2 k e).2.fm (wg_l10 (ok.2.1 k e)) f fun _ _ _ => by decide⟩⟩, ⟨by rw [f.1 _ _ (by decide)]; exact h3.1, fun k hk => by rw [f.1 _ _ (show ¬ ((155 : Nat) = 141) by decide)]; exact h3.2 k hk⟩, ⟨by rw [f.1 _ _ (by decide)]; exact h4.1, fun k hk => by rw [f.1 _ _ (show ¬ ((165 : Nat) = 141) by decide)]; exact h4.2 k hk⟩, fun k hk => ?_⟩
  show _ = if k = j then G.2.2.2.2 k + 1 else G.2.2.2.2 k
  by_cases e : k = j
  · subst e; rw [if_pos rfl, setI_s, h5 k hk]
  · rw [if_neg e, setI_n (fun q => e (by omega)), h5 k hk]
theorem no_eq {S : Sg} {j : Nat} (hj : j < 6) : f_X7_no (I (-(j + 1 : Nat))) S = some (I (-(j + 1 : Nat)), setI S 141 (j + 1) (S.1 141 (j + 1) + 1)) := by
  have : ∀ j, j < 6 → (-(I (-(j + 1 : Nat))) : Int32) = nI (j + 1) := by decide +kernel
  unfold f_X7_no
  rw [this j hj]
  refine wp_to (wp_gd (inb_n (by omega) (by decide)) (wp_lt (wp_some ?_)))
  rw [ix_n (by omega)]
theorem ref {f7 : Sg → Option (Int32 × Sg)} {S : Sg} {G : Gst} (j : Nat) (hj : j < 6) (ok : GO G) (hC : CI S G) (hM : MI S G) {p : Int32} (hp : p = I (-(j + 1 : Nat))) (h7 : ∀ S', MI S' G → f7 S' = bd (f_X7_no p S') (u2 fun r T => some (r, T))) : Same (bd (f_X6_refuse p S) (u2 fun r T => some (r, T))) f7 := by
  subst hp
  refine mk (fun r G' => r = I (-(j + 1 : Nat)) ∧ G' = bump G j) ok hM ?_ ?_
  · refine wp_bds (refuse_eq hj) (wp_u2 (wp_some ⟨Fr.setI (by show (139 : Nat) < 140; decide), _, ⟨rfl, rfl⟩, hC.ref ok hj⟩))
  · rintro r S' G' ⟨rfl, rfl⟩ hM'
    refine ⟨ok, ?_⟩
    rw [h7 S' hM']
    exact wp_bds (no_eq hj) (wp_u2 (wp_some ⟨rfl, Fr.setI (by show 140 ≤ (141 : Nat); decide), hM'.ref ok⟩))
