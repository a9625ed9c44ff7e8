/-! what was told against what was answered -/
def tv (w : Wd) (T : Nat × (Nat → Nat)) (v : Nat) : Int := if v < T.1 then (T.2 v : Nat) else dat w 0 v
def bad (w : Wd) (T : Nat × (Nat → Nat)) (i : Nat) : Prop := I (sm 10 (fun v => gro (gh w) i v * tv w T v)) ≠ I (dat w 3 i)
def isFm (w : Wd) (T : Nat × (Nat → Nat)) (k : Nat) (r : Int32) : Prop := (∃ i, k ≤ i ∧ i < (gh w).length ∧ bad w T i ∧ (∀ j, k ≤ j → j < i → ¬ bad w T j) ∧ r = nI i) ∨ ((∀ i, k ≤ i → i < (gh w).length → ¬ bad w T i) ∧ r = -9)
theorem isFm_u {w : Wd} {T : Nat × (Nat → Nat)} {k : Nat} {r r' : Int32} (h : isFm w T k r) (h' : isFm w T k r') : r = r' := by
  rcases h with ⟨v, a1, a2, a3, a4, rfl⟩ | ⟨a1, rfl⟩ <;> rcases h' with ⟨u, b1, b2, b3, b4, rfl⟩ | ⟨b1, rfl⟩
  · have : v = u := by
      by_cases q : v < u
      · exact absurd a3 (b4 v a1 q)
      · by_cases q2 : u < v
        · exact absurd b3 (a4 u b1 q2)
        · omega
    rw [this]
  · exact absurd a3 (b1 v a1 a2)
  · exact absurd b3 (a1 u b1 b2)
  · rfl
theorem s_toldC {S : Sg} {w : Wd} {T : Nat × (Nat → Nat)} {i : Nat} (hw : CW 1 S w) (hk : wok w) (hl : (gh w).length ≤ 10) (h : S.1 137 0 = nI T.1 ∧ ∀ k, k < T.1 → S.1 138 k = nI (T.2 k)) (hT : T.1 ≤ 32) (hi : i < (gh w).length) : f_X5_answerByTold 1 (nI i) 137 32 S = some (I (sm 10 (fun v => gro (gh w) i v * tv w T v))) := by
  have hv := hk.2.2.1
  apply wp_to
  unfold f_X5_answerByTold
  refine wp_bdm (up (F := fun n k (x : Int32) => L_X5_answerByTold_5 1 137 32 (nI i) S n x (nI k)) (num w 0) (fun k x => x = I (sm k (fun v => gro (gh w) i v * tv w T v))) (fun x => x = I (sm 10 (fun v => gro (gh w) i v * tv w T v))) ?_ ?_ 400 0 0 (by omega) (by omega) rfl) (fun x h => wp_some h)
  · intro n k x hk' hp ih
    rw [L_X5_answerByTold_5, hw.2.2.1.1, h.1]
    have fin : ∀ y : Int32, y = I (tv w T k) → wp (bd (f_X5_coefficient 1 (nI i) (nI k) S) fun r_1 => L_X5_answerByTold_5 1 137 32 (nI i) S n (x + (r_1 * y)) (nI k + 1)) (fun x => x = I (sm 10 (fun v => gro (gh w) i v * tv w T v))) := fun y hy => by
      rw [s_coef hw hi hl (by omega)]
      refine wp_bds rfl ?_
      rw [nIs]
      exact ih _ (by rw [hp, hy, I_mul, I_add]; rfl)
    refine wp_ifp (nI_lt hk' (by omega)) (wp_lt (wp_if (fun q => ?_) (fun q => ?_)))
    · have q' : k < T.1 := by
        by_cases z : k < T.1
        · exact z
        · exact absurd q (nI_nlt (by omega) (by omega))
      rw [s_at h hT q']
      exact wp_bds rfl (fin _ (by unfold tv; rw [if_pos q']; rfl))
    · have q' : ¬ k < T.1 := fun z => q (nI_lt z (by omega))
      rw [s_valueOf hw hv.2 hk']
      exact wp_bds rfl (fin _ (by unfold tv; rw [if_neg q']))
  · intro n x hp
    rw [L_X5_answerByTold_5, hw.2.2.1.1]
    refine wp_ifn (nI_nlt (Nat.le_refl _) (by omega)) (wp_some ?_)
    rw [hp]
    exact congrArg I (sm_z (f := fun v => gro (gh w) i v * tv w T v) (m := num w 0) (fun k h1 h2 => by
      show gro (gh w) i k * tv w T k = 0
      rw [(hk.2.2.2.2.2.2.2.2 i hi).2.1 k h1 h2, Int.zero_mul]) 10 hv.2 (Nat.le_refl _)).symm
theorem s_toldM {S : Sg} {w : Wd} {T : Nat × (Nat → Nat)} {i : Nat} (hw : MW S w) (hl : (gh w).length ≤ 10) (h : ∀ k, k < T.1 → S.1 165 k = nI (T.2 k)) (hT : T.1 ≤ 32) (hi : i < (gh w).length) : f_X7_answerBy (nI i) (nI T.1) S = some (I (sm 10 (fun v => gro (gh w) i v * tv w T v))) := by
  apply wp_to
  unfold f_X7_answerBy
  refine wp_bdm (up (F := fun n k (x : Int32) => L_X7_answerBy_5 (nI i) (nI T.1) S n x (nI k)) 10 (fun k x => x = I (sm k (fun v => gro (gh w) i v * tv w T v))) (fun x => x = I (sm 10 (fun v => gro (gh w) i v * tv w T v))) ?_ ?_ 400 0 0 (by omega) (by omega) rfl) (fun x h => wp_some h)
  · intro n k x hk' hp ih
    rw [L_X7_answerBy_5]
    refine wp_ifp (lt10 hk') ?_
    rw [ten, nI_mul, nI_add]
    refine wp_gd (inb_n (by omega) (by decide)) ?_
    rw [ix_n (by omega), (hw.2.2.2 i hi).2 k hk']
    refine wp_if (fun q => ?_) (fun q => ?_)
    · have q' : k < T.1 := by
        by_cases z : k < T.1
        · exact z
        · exact absurd q (nI_nlt (by omega) (by omega))
      refine wp_gd (inb_n (by omega) (by decide)) (wp_lt (wp_lt ?_))
      rw [ix_n (by omega), h k q', nIs]
      refine ih _ ?_
      rw [hp, ← I_nI, I_mul, I_add]
      show I (sm k _ + gro (gh w) i k * _) = I (sm k _ + gro (gh w) i k * tv w T k)
      unfold tv
      rw [if_pos q']
    · have q' : ¬ k < T.1 := fun z => q (nI_lt z (by omega))
      refine wp_gd (inb_n (by omega) (by decide)) (wp_lt (wp_lt ?_))
      rw [ix_n (by omega), (hw.2.1 k hk').1, nIs]
      refine ih _ ?_
      rw [hp, I_mul, I_add]
      show I (sm k _ + gro (gh w) i k * _) = I (sm k _ + gro (gh w) i k * tv w T k)
      unfold tv
      rw [if_neg q']
  · intro n x hp
    rw [L_X7_answerBy_5]
    exact wp_ifn (nlt10 (Nat.le_refl _) (by omega)) (wp_some hp)
theorem p_judge {S : Sg} {G : Gst} (ok : GO G) (hC : CI S G) (hM : MI S G) : Same (f_X6_judge S) f_X7_judge := by
  have hg := ok.1
  have hk := hg.1
  have hl := wg_l10 hg
  have hT := ok.2.2.2.1
  refine mk (fun r G' => isFm G.1 G.2.2.2.1 0 r ∧ G' = (G.1, G.2.1, G.2.2.1, (0, fun _ => 0), G.2.2.2.2)) ok hM ?_ ?_
  · unfold f_X6_judge
    have e0 : S.1 1 9 - (1 : Int32) = nI (gh G.1).length + (-1) := by
      rw [hC.1.2.2.1.2.2.2]; exact Int32.sub_eq_add_neg _ _
    refine wp_ltq _ e0 (wp_bdm (dn (F := fun n k (x : Int32) => L_X6_judge_13 S n x (nI k + (-1))) (fun k x => k ≤ (gh G.1).length ∧ isFm G.1 G.2.2.2.1 k x) (fun x => isFm G.1 G.2.2.2.1 0 x) ?_ ?_ 400 (gh G.1).length (-9) (by omega) ⟨Nat.le_refl _, Or.inr ⟨fun i a b => by omega, rfl⟩⟩) fun x hx => ?_)
    · rintro n k x ⟨h1, h2⟩ ih
      rw [nm1, L_X6_judge_13]
      refine wp_ifn (nI_nlt (b := 0) (by omega) (by omega)) ?_
      rw [s_toldC hC.1 hk hl hC.2.2.2.1 hT (by omega), s_answerOf hC.1 (by omega) hl]
      refine wp_bds rfl (wp_bds rfl (wp_lt (wp_lt ?_)))
      refine ih _ ⟨by omega, ?_⟩
      by_cases z : I (sm 10 (fun v => gro (gh G.1) k v * tv G.1 G.2.2.2.1 v)) = I (dat G.1 3 k)
      · rw [if_pos z]
        have nb : ¬ bad G.1 G.2.2.2.1 k := fun q => q z
        rcases h2 with ⟨i, a, b, c, d, e⟩ | ⟨a, e⟩
        · refine Or.inl ⟨i, by omega, b, c, fun j h3 h4 => ?_, e⟩
          by_cases q : j = k
          · rw [q]; exact nb
          · exact d j (by omega) h4
        · refine Or.inr ⟨fun i h3 h4 => ?_, e⟩
          by_cases q : i = k
          · rw [q]; exact nb
          · exact a i (by omega) h4
      · rw [if_neg z]
        exact Or.inl ⟨k, Nat.le_refl _, by omega, z, fun j h3 h4 => by omega, rfl⟩
    · rintro n x ⟨_, h⟩
      rw [L_X6_judge_13]
      exact wp_ifp (by decide) (wp_some h)
    · have f : Fr (fun o => o = 137 ∨ o = 138) S (setI S 137 0 0) := Fr.setI (Or.inl rfl)
      exact wp_some ⟨f.mono fun o q => by show o < 140; have : o = 137 ∨ o = 138 := q; omega, _, ⟨hx, rfl⟩, hC.T ok f ⟨setI_s, fun k hk => absurd hk (Nat.not_lt_zero k)⟩⟩
  · rintro r S' G' ⟨hr, rfl⟩ h
    unfold f_X7_judge
    rw [h.2.2.2.1.1]
    have f : Fm (fun o k => o = 165 ∨ (o = 140 ∧ k = 39)) noJ S' (setI S' 140 39 0) := Fm.setI (Or.inr ⟨rfl, rfl⟩)
    have hI := h.T (L := (0, fun _ => 0)) ok f ⟨setI_s, fun k hk => absurd hk (Nat.not_lt_zero k)⟩
    have fr : Fr mdl S' (setI S' 140 39 0) := mfr f (fun o k q => by have : o = 165 ∨ (o = 140 ∧ k = 39) := q; omega) (fun _ _ q => q.elim)
    have t : ∀ k, k < G.2.2.2.1.1 → (setI S' 140 39 0).1 165 k = nI (G.2.2.2.1.2 k) := fun k hk => by rw [setI_n (by omega)]; exact h.2.2.2.1.2 k hk
    have w1 : MW (setI S' 140 39 0) G.1 := hI.1
    generalize setI S' 140 39 0 = U at *
    refine ⟨⟨ok.1, ok.2.1, ok.2.2.1, by show 0 ≤ 32; omega, fun k hk => absurd hk (Nat.not_lt_zero k)⟩, wp_lt (wp_lt ?_)⟩
    refine wp_bsm (up (F := fun n k (_ : Unit) => L_X7_judge_12 (nI G.2.2.2.1.1) U n (nI k)) (gh G.1).length (fun k _ => ∀ j, j < k → ¬ bad G.1 G.2.2.2.1 j) (fun z => (∃ x, z = .inl (x, U) ∧ isFm G.1 G.2.2.2.1 0 x) ∨ (z = .inr () ∧ ∀ j, j < (gh G.1).length → ¬ bad G.1 G.2.2.2.1 j)) ?_ ?_ 400 0 () (by omega) (by omega) (fun j h => by omega)) ?_ ?_
    · rintro n k _ hk' hp ih
      rw [L_X7_judge_12, w1.2.2.1.2.2.2]
      refine wp_ifp (nI_lt hk' (by omega)) ?_
      rw [s_toldM w1 hl t hT hk']
      refine wp_bds rfl (wp_gd (inb_n (by omega) (by decide)) ?_)
      rw [ix_n (by omega), (w1.2.2.2 k hk').1]
      refine wp_if (fun z => ?_) (fun z => ?_)
      · show wp (L_X7_judge_12 (nI G.2.2.2.1.1) U n (nI k + 1)) _
        rw [nIs]
        refine ih () fun j hj => ?_
        by_cases q : j = k
        · rw [q]; exact fun y => y z
        · exact hp j (by omega)
      · exact wp_some (Or.inl ⟨_, rfl, Or.inl ⟨k, Nat.zero_le _, hk', z, fun j _ h4 => hp j h4, rfl⟩⟩)
    · rintro n _ hp
      rw [L_X7_judge_12, w1.2.2.1.2.2.2]
      exact wp_ifn (nI_nlt (Nat.le_refl _) (by omega)) (wp_some (Or.inr ⟨rfl, hp⟩))
    · rintro ⟨x, V⟩ hz
      rcases hz with ⟨y, e, a⟩ | ⟨e, _⟩
      · cases e; exact wp_some ⟨isFm_u a hr, fr, hI⟩
      · cases e
    · rintro x hz
      rcases hz with ⟨y, e, _⟩ | ⟨_, a⟩
      · cases e
      · exact wp_some ⟨isFm_u (Or.inr ⟨fun i _ h => a i h, rfl⟩) hr, fr, hI⟩
