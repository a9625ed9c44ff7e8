/-! what a row of told answers fits -/
noncomputable def mtb (w : Wd) (v rl lm : Nat) : Int32 := @ite _ (zer (gh w) (qrow w (wq 0 (nI v) 0))) (Classical.propDecidable _) 0 (@ite _ (fixes (gh w) (qrow w (wq 0 (nI v) 0)) ∨ forb (gh w) (qrow w (wq 0 (nI v) 0)) (szOf (wq 0 (nI v) 0) 8) rl lm) (Classical.propDecidable _) 2 1)
theorem mtb_of {w : Wd} {v rl lm : Nat} {m : Int32} (h : Meet (gh w) (qrow w (wq 0 (nI v) 0)) (szOf (wq 0 (nI v) 0) 8) rl lm m) : m = mtb w v rl lm := by
  unfold mtb
  rcases h with ⟨rfl, h⟩ | ⟨rfl, h, h2⟩ | ⟨rfl, h, h2, h3⟩
  · rw [if_pos h]
  · rw [if_neg h, if_pos h2]
  · rw [if_neg h, if_neg (fun q => q.elim h2 h3)]
def rowq (T : Nat × (Nat → Nat)) : Prop := T.1 % 2 = 0 ∧ ∀ i, 2 * i < T.1 → T.2 (2 * i) ≠ 0
def met (w : Wd) (T : Nat × (Nat → Nat)) (rl lm : Nat) : Prop := ∀ i, 2 * i < T.1 → mtb w (T.2 (2 * i)) rl lm = nI (T.2 (2 * i + 1))
theorem s_at {S : Sg} {T : Nat × (Nat → Nat)} (h : S.1 137 0 = nI T.1 ∧ ∀ k, k < T.1 → S.1 138 k = nI (T.2 k)) (hT : T.1 ≤ 32) {v : Nat} (hv : v < T.1) : f_X1_at 137 32 (nI v) S = some (nI (T.2 v)) := by
  unfold f_X1_at
  rw [h.1, isW_lit hv (by omega), show f_X6_isWithin (nI v) (Int32.ofNat 32) = 1 from isW_lit (n := 32) (by omega) (by decide), if_neg (by decide), if_neg (by decide), show inb (nI v) 32 = true from inb_n (by omega) (by decide), ix_n (by omega), h.2 v hv]
  rfl
theorem ev0 (m : Nat) (h : m ≤ 32) : (irem (nI m) (2 : Int32) = 0 ↔ m % 2 = 0) := by
  have : ∀ m, m < 33 → (irem (nI m) (2 : Int32) = 0 ↔ m % 2 = 0) := by decide +kernel
  exact this m (by omega)
theorem st2 (k : Nat) : nI (2 * k) + (2 : Int32) = nI (2 * (k + 1)) := by
  rw [show (2 : Int32) = nI 2 from rfl, nI_add]
  exact congrArg nI (by omega)
theorem s_rowC {S : Sg} {T : Nat × (Nat → Nat)} (h : S.1 137 0 = nI T.1 ∧ ∀ k, k < T.1 → S.1 138 k = nI (T.2 k)) (hT : T.1 ≤ 32 ∧ ∀ k, k < T.1 → T.2 k ≤ 255) : wp (f_X6_isRowOfPairs S) (fun r => (r = 1 ∧ rowq T) ∨ (r = 0 ∧ ¬ rowq T)) := by
  unfold f_X6_isRowOfPairs
  refine wp_bsm (up (F := fun n k (_ : Unit) => L_X6_isRowOfPairs_2 S n (nI (2 * k))) ((T.1 + 1) / 2) (fun k _ => ∀ i, i < k → T.2 (2 * i) ≠ 0) (fun z => (z = .inl 0 ∧ ¬ rowq T) ∨ (z = .inr () ∧ ∀ i, 2 * i < T.1 → T.2 (2 * i) ≠ 0)) ?_ ?_ 400 0 () (by omega) (by omega) (fun i h => by omega)) ?_ ?_
  · rintro n k _ hk hp ih
    rw [L_X6_isRowOfPairs_2, h.1]
    refine wp_ifp (nI_lt (by omega) (by omega)) ?_
    rw [s_at h hT.1 (by omega)]
    have h255 := hT.2 (2 * k) (by omega)
    refine wp_bds rfl (wp_if (fun e => ?_) (fun e => ?_))
    · exact wp_some (Or.inl ⟨rfl, fun q => q.2 k (by omega) ((nI_eq (b := 0) (by omega) (by omega)).mp e)⟩)
    · show wp (L_X6_isRowOfPairs_2 S n (nI (2 * k) + 2)) _
      rw [st2]
      refine ih () fun i hi => ?_
      by_cases q : i = k
      · rw [q]; exact fun z => e (by rw [z]; rfl)
      · exact hp i (by omega)
  · rintro n _ hp
    rw [L_X6_isRowOfPairs_2, h.1]
    exact wp_ifn (nI_nlt (by omega) (by omega)) (wp_some (Or.inr ⟨rfl, fun i hi => hp i (by omega)⟩))
  · rintro r hz
    rcases hz with ⟨e, h⟩ | ⟨e, _⟩
    · cases e; exact wp_some (Or.inr ⟨rfl, h⟩)
    · cases e
  · rintro r hz
    rcases hz with ⟨e, _⟩ | ⟨_, h2⟩
    · cases e
    · rw [h.1]
      by_cases q : T.1 % 2 = 0
      · exact wp_ltq 1 (if_pos ((ev0 _ hT.1).mpr q)) (wp_some (Or.inl ⟨rfl, q, h2⟩))
      · exact wp_ltq 0 (if_neg fun z => q ((ev0 _ hT.1).mp z)) (wp_some (Or.inr ⟨rfl, fun z => q z.1⟩))
theorem s_rowM {S : Sg} {T : Nat × (Nat → Nat)} (h : S.1 140 39 = nI T.1 ∧ ∀ k, k < T.1 → S.1 165 k = nI (T.2 k)) (hT : T.1 ≤ 32 ∧ ∀ k, k < T.1 → T.2 k ≤ 255) : wp (f_X7_isRowQuestions S) (fun r => (r = 1 ∧ rowq T) ∨ (r = 0 ∧ ¬ rowq T)) := by
  unfold f_X7_isRowQuestions
  refine wp_bsm (up (F := fun n k (_ : Unit) => L_X7_isRowQuestions_2 S n (nI (2 * k))) ((T.1 + 1) / 2) (fun k _ => ∀ i, i < k → T.2 (2 * i) ≠ 0) (fun z => (z = .inl 0 ∧ ¬ rowq T) ∨ (z = .inr () ∧ ∀ i, 2 * i < T.1 → T.2 (2 * i) ≠ 0)) ?_ ?_ 400 0 () (by omega) (by omega) (fun i h => by omega)) ?_ ?_
  · rintro n k _ hk hp ih
    have ht := hT.1
    rw [L_X7_isRowQuestions_2, h.1]
    refine wp_ifp (nI_lt (by omega) (by omega)) (wp_gd (inb_n (by omega) (by decide)) ?_)
    rw [ix_n (by omega), h.2 _ (by omega)]
    have h255 := hT.2 (2 * k) (by omega)
    refine wp_if (fun e => ?_) (fun e => ?_)
    · exact wp_some (Or.inl ⟨rfl, fun q => q.2 k (by omega) ((nI_eq (b := 0) (by omega) (by omega)).mp e)⟩)
    · show wp (L_X7_isRowQuestions_2 S n (nI (2 * k) + 2)) _
      rw [st2]
      refine ih () fun i hi => ?_
      by_cases q : i = k
      · rw [q]; exact fun z => e (by rw [z]; rfl)
      · exact hp i (by omega)
  · rintro n _ hp
    rw [L_X7_isRowQuestions_2, h.1]
    exact wp_ifn (nI_nlt (by omega) (by omega)) (wp_some (Or.inr ⟨rfl, fun i hi => hp i (by omega)⟩))
  · rintro r hz
    rcases hz with ⟨e, h⟩ | ⟨e, _⟩
    · cases e; exact wp_some (Or.inr ⟨rfl, h⟩)
    · cases e
  · rintro r hz
    rcases hz with ⟨e, _⟩ | ⟨_, h2⟩
    · cases e
    · rw [h.1]
      by_cases q : T.1 % 2 = 0
      · exact wp_ltq 1 (if_pos ((ev0 _ hT.1).mpr q)) (wp_some (Or.inl ⟨rfl, q, h2⟩))
      · exact wp_ltq 0 (if_neg fun z => q ((ev0 _ hT.1).mp z)) (wp_some (Or.inr ⟨rfl, fun z => q z.1⟩))
theorem s_metC {S : Sg} {w : Wd} {T : Nat × (Nat → Nat)} {rl lm : Nat} (hw : CW 1 S w) (hg : wgood w) (h : S.1 137 0 = nI T.1 ∧ ∀ k, k < T.1 → S.1 138 k = nI (T.2 k)) (hT : T.1 ≤ 32 ∧ ∀ k, k < T.1 → T.2 k ≤ 255) (hr : rowq T) (hrl : rl < 4) (hlm : lm ≤ 10) : wp (f_X6_isMetBy (nI rl) (nI lm) S) (fun z => ((z.1 = 1 ∧ met w T rl lm) ∨ (z.1 = 0 ∧ ¬ met w T rl lm)) ∧ Fr (mosA 1) S z.2) := by
  have ht := hT.1
  have hev := hr.1
  have keep : ∀ U, Fr (mosA 1) S U → U.1 137 0 = nI T.1 ∧ ∀ k, k < T.1 → U.1 138 k = nI (T.2 k) := fun U f => ⟨by rw [f.I (by show ¬ (137 = 131 ∨ (1 + 29 ≤ 137 ∧ 137 < 1 + 43)); omega)]; exact h.1, fun k hk => by rw [f.I (by show ¬ (138 = 131 ∨ (1 + 29 ≤ 138 ∧ 138 < 1 + 43)); omega)]; exact h.2 k hk⟩
  unfold f_X6_isMetBy
  refine wp_bsm (up (F := fun n k (U : Sg) => L_X6_isMetBy_2 (nI rl) (nI lm) n (nI (2 * k)) U) (T.1 / 2) (fun k U => Fr (mosA 1) S U ∧ ∀ i, i < k → mtb w (T.2 (2 * i)) rl lm = nI (T.2 (2 * i + 1))) (fun z => (∃ U, z = .inl (0, U) ∧ ¬ met w T rl lm ∧ Fr (mosA 1) S U) ∨ ∃ U, z = .inr U ∧ met w T rl lm ∧ Fr (mosA 1) S U) ?_ ?_ 400 0 S (by omega) (by omega) ⟨Fr.rf, fun i h => by omega⟩) ?_ ?_
  · rintro n k U hk ⟨f, hp⟩ ih
    have kU := keep U f
    rw [L_X6_isMetBy_2, kU.1]
    refine wp_ifp (nI_lt (by omega) (by omega)) ?_
    rw [s_at kU ht (by omega)]
    refine wp_bds rfl (wp_bdm (s_make (oq := 130) (a := nI (T.2 (2 * k))) (b := 0) qv0) fun V ⟨f1, q1⟩ => ?_)
    have cV : CW 1 V w := (mos_w hw hg (by omega) f).fr f1 (fun p hp => by have : 1 ≤ p ∧ p < 1 + 29 := hp; show ¬ (p = 130 + 1); omega) (wg_l10 hg)
    refine wp_bdm (s_meetingBy cV hg.1 hg.2.1 q1 (wq_ok qv0) (by omega) hrl hlm) ?_
    rintro ⟨m, X⟩ ⟨hm, f2⟩
    have em : m = mtb w (T.2 (2 * k)) rl lm := mtb_of hm
    have fX : Fr (mosA 1) S X := (f.tr (f1.mono fun p hp => Or.inl hp)).tr (f2.mono fun p hp => Or.inr hp)
    refine wp_u2 ?_
    rw [nIs, s_at (keep X fX) ht (by omega)]
    refine wp_bds rfl (wp_if (fun e => ?_) (fun e => ?_))
    · show wp (L_X6_isMetBy_2 (nI rl) (nI lm) n (nI (2 * k) + 2) X) _
      rw [st2]
      refine ih X ⟨fX, fun i hi => ?_⟩
      by_cases q : i = k
      · rw [q, ← em]; exact e
      · exact hp i (by omega)
    · exact wp_some (Or.inl ⟨X, rfl, fun z => e (em.trans (z k (by omega))), fX⟩)
  · rintro n U ⟨f, hp⟩
    rw [L_X6_isMetBy_2, (keep U f).1]
    exact wp_ifn (nI_nlt (by omega) (by omega)) (wp_some (Or.inr ⟨U, rfl, fun i hi => hp i (by omega), f⟩))
  · rintro ⟨r, U⟩ hz
    rcases hz with ⟨V, e, a, b⟩ | ⟨V, e, _⟩
    · cases e; exact wp_some ⟨Or.inr ⟨rfl, a⟩, b⟩
    · cases e
  · rintro U hz
    rcases hz with ⟨V, e, _⟩ | ⟨V, e, a, b⟩
    · cases e
    · cases e; exact wp_some ⟨Or.inl ⟨rfl, a⟩, b⟩
