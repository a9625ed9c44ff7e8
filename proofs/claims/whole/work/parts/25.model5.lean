theorem RowOK.z {g : Gh} {p : Nat} {z : Nat → Int} (hg : gok g) (h : RowOK g p z) {k : Nat} (hk : k < 10) : z k = 0 ↔ tt g p k = 0 := by
  have e := h.2.2 k hk
  have hs := gs_ne g hg
  have hp := h.1
  constructor
  · intro q
    rw [q, Int.mul_zero] at e
    rcases Int.mul_eq_zero.mp e.symm with h | h
    · omega
    · exact h
  · intro q
    rw [q, Int.mul_zero] at e
    rcases Int.mul_eq_zero.mp e with h | h
    · exact absurd h hs
    · exact h
theorem tt_ne {g : Gh} {p k : Nat} (h : k ≠ p) : tt g p k = 0 ↔ gr g (eb p) k = 0 := by
  unfold tt
  rw [if_neg h]
  omega
/-- a pivot is fixed: nothing stands beside it -/
theorem row_fix {g : Gh} (hg : gok g) {i : Nat} (hi : i < g.length) {z : Nat → Int} (hz : RowOK g (gpv g i) z) : cnz z 10 = 1 ↔ ∀ c, c < 10 → gr g (eb (gpv g i)) c = 0 := by
  have hp := gpv_lt hg hi
  rw [cnz_1 hp (by have := hz.1; omega)]
  constructor
  · intro h c hc
    by_cases e : c = gpv g i
    · rw [e]; exact gr_gpv hi _
    · exact (tt_ne e).mp ((hz.z hg hc).mp (h c hc e))
  · intro h k hk hkp
    exact (hz.z hg hk).mpr ((tt_ne hkp).mpr (h k hk))
theorem free_ne {g : Gh} (hg : gok g) {v : Nat} (hv : v < 10) (h : pvB g v = false) : ∀ c, c < 10 → gr g (eb v) c = eb v c * gs g := fun c hc => gr_free hg (fun x hx => if_neg fun e => by
  have : pvB g v = true := pvB_iff.mpr ⟨x, hx, e.symm⟩
  rw [h] at this
  cases this) hc
theorem pv_gpv {g : Gh} {v : Nat} (h : pvB g v = true) : ∃ i, i < g.length ∧ gpv g i = v := by
  obtain ⟨x, hx, e⟩ := pvB_iff.mp h
  obtain ⟨i, hi, e2⟩ := mem_gpv g x hx
  exact ⟨i, hi, e2.trans e.symm⟩
theorem gpv_pv {g : Gh} {i : Nat} (hi : i < g.length) : pvB g (gpv g i) = true := by
  obtain ⟨x, hx, e⟩ := gpv_mem g i hi
  exact pvB_iff.mpr ⟨x, hx, e⟩
theorem fix_pv {g : Gh} (hg : gok g) {v : Nat} (hv : v < 10) (h : ∀ c, c < 10 → gr g (eb v) c = 0) : pvB g v = true := by
  cases e : pvB g v with
  | true => rfl
  | false =>
    have h1 := free_ne hg hv e v hv
    rw [h v hv, show eb v v = 1 from if_pos rfl] at h1
    have := gs_ne g hg
    omega
theorem s_isAnyFixed {S : Sg} {g : Gh} (hg : gsmall g 10) (hb : ∀ i, i < g.length → ∀ z, RowOK g (gpv g i) z → bdd z 9000000000000000000) (hR : RX 150 153 19 S g) : wp (f_X7_isAnyFixed S) (fun r => (r = 1 ∧ ¬ nofix g) ∨ (r = 0 ∧ nofix g)) := by
  have hl := hg.2.2
  unfold f_X7_isAnyFixed
  refine wp_bsm (up (F := fun n k (_ : Unit) => L_X7_isAnyFixed_2 S n (nI k)) g.length (fun k _ => ∀ i, i < k → ¬ ∀ c, c < 10 → gr g (eb (gpv g i)) c = 0) (fun z => (z = .inl 1 ∧ ¬ nofix g) ∨ (z = .inr () ∧ nofix g)) ?_ ?_ 400 0 () (by omega) (by omega) (fun i h => by omega)) ?_ ?_
  · intro n k _ hk hp ih
    obtain ⟨e, z, hz, hr⟩ := hR.2 k hk
    have hcl := cnz_le z 10
    rw [L_X7_isAnyFixed_2, hR.1]
    refine wp_ifp (nI_lt hk (by omega)) ?_
    rw [s_manyNot0 hr (hb k hk z hz) (by omega)]
    have hc : nI (cnz z 10) = (1 : Int32) ↔ cnz z 10 = 1 := nI_eq (b := 1) (by omega) (by omega)
    refine wp_bds rfl (wp_if (fun h => ?_) (fun h => ?_))
    · exact wp_some (Or.inl ⟨rfl, fun q => q (gpv g k) (gpv_lt hg.1 hk) ((row_fix hg.1 hk hz).mp (hc.mp h))⟩)
    · show wp (L_X7_isAnyFixed_2 S n (nI k + 1)) _
      rw [nIs]
      refine ih () fun i hi => ?_
      by_cases e : i = k
      · rw [e]; exact fun q => h (hc.mpr ((row_fix hg.1 hk hz).mpr q))
      · exact hp i (by omega)
  · intro n _ hp
    rw [L_X7_isAnyFixed_2, hR.1]
    refine wp_ifn (nI_nlt (Nat.le_refl _) (by omega)) (wp_some (Or.inr ⟨rfl, fun v hv h => ?_⟩))
    obtain ⟨i, hi, e⟩ := pv_gpv (fix_pv hg.1 hv h)
    rw [← e] at h
    exact hp i hi h
  · intro r hr
    rcases hr with ⟨e, h⟩ | ⟨e, _⟩
    · cases e; exact wp_some (Or.inl ⟨rfl, h⟩)
    · cases e
  · intro r hr
    rcases hr with ⟨e, _⟩ | ⟨_, h⟩
    · cases e
    · exact wp_some (Or.inr ⟨rfl, h⟩)
theorem s_isFixed {S : Sg} {g : Gh} {v : Nat} (hv : v < 10) (hg : gsmall g 10) (hb : ∀ i, i < g.length → ∀ z, RowOK g (gpv g i) z → bdd z 9000000000000000000) (hR : RX 150 153 19 S g) : wp (f_X7_isFixed (nI v) S) (fun r => (r = 1 ∧ ∀ c, c < 10 → gr g (eb v) c = 0) ∨ (r = 0 ∧ ¬ ∀ c, c < 10 → gr g (eb v) c = 0)) := by
  have hl := hg.2.2
  unfold f_X7_isFixed
  refine wp_bsm (up (F := fun n k (_ : Unit) => L_X7_isFixed_2 (nI v) S n (nI k)) g.length (fun k _ => ∀ i, i < k → gpv g i = v → ¬ ∀ c, c < 10 → gr g (eb v) c = 0) (fun z => (z = .inl 1 ∧ ∀ c, c < 10 → gr g (eb v) c = 0) ∨ (z = .inr () ∧ ¬ ∀ c, c < 10 → gr g (eb v) c = 0)) ?_ ?_ 400 0 () (by omega) (by omega) (fun i h => by omega)) ?_ ?_
  · intro n k _ hk hp ih
    obtain ⟨e, z, hz, hr⟩ := hR.2 k hk
    have hcl := cnz_le z 10
    have hpk := gpv_lt hg.1 hk
    rw [L_X7_isFixed_2, hR.1]
    refine wp_ifp (nI_lt hk (by omega)) (wp_gd (inn' (by omega) (by omega)) ?_)
    rw [ixn (by omega), e]
    have next : (gpv g k = v → ¬ ∀ c, c < 10 → gr g (eb v) c = 0) → wp (L_X7_isFixed_2 (nI v) S n (nI k + 1)) (fun z => (z = .inl 1 ∧ ∀ c, c < 10 → gr g (eb v) c = 0) ∨ (z = .inr () ∧ ¬ ∀ c, c < 10 → gr g (eb v) c = 0)) := fun h => by
      rw [nIs]
      refine ih () fun i hi => ?_
      by_cases e : i = k
      · rw [e]; exact h
      · exact hp i (by omega)
    refine wp_if (fun h1 => ?_) (fun h1 => ?_)
    · have e1 : gpv g k = v := (nI_eq (by omega) (by omega)).mp h1
      rw [s_manyNot0 hr (hb k hk z hz) (by omega)]
      have hc : nI (cnz z 10) = (1 : Int32) ↔ cnz z 10 = 1 := nI_eq (b := 1) (by omega) (by omega)
      have hf := row_fix hg.1 hk hz
      rw [e1] at hf
      refine wp_bds rfl (wp_if (fun h => ?_) (fun h => ?_))
      · exact wp_some (Or.inl ⟨rfl, hf.mp (hc.mp h)⟩)
      · exact next fun _ q => h (hc.mpr (hf.mpr q))
    · exact next fun q => absurd (by rw [q]) h1
  · intro n _ hp
    rw [L_X7_isFixed_2, hR.1]
    refine wp_ifn (nI_nlt (Nat.le_refl _) (by omega)) (wp_some (Or.inr ⟨rfl, fun h => ?_⟩))
    obtain ⟨i, hi, e⟩ := pv_gpv (fix_pv hg.1 hv h)
    exact hp i hi e h
  · intro r hr
    rcases hr with ⟨e, h⟩ | ⟨e, _⟩
    · cases e; exact wp_some (Or.inl ⟨rfl, h⟩)
    · cases e
  · intro r hr
    rcases hr with ⟨e, _⟩ | ⟨_, h⟩
    · cases e
    · exact wp_some (Or.inr ⟨rfl, h⟩)
theorem s_isPivot {S : Sg} {g : Gh} {v : Nat} (hv : v < 10) (hg : gsmall g 10) (hR : RX 150 153 19 S g) : f_X7_isPivot (nI v) S = some (if pvB g v = true then 1 else 0) := by
  have hl := hg.2.2
  apply wp_to
  unfold f_X7_isPivot
  refine wp_bsm (up (F := fun n k (_ : Unit) => L_X7_isPivot_2 (nI v) S n (nI k)) g.length (fun k _ => ∀ i, i < k → gpv g i ≠ v) (fun z => (z = .inl 1 ∧ pvB g v = true) ∨ (z = .inr () ∧ pvB g v ≠ true)) ?_ ?_ 400 0 () (by omega) (by omega) (fun i h => by omega)) ?_ ?_
  · intro n k _ hk hp ih
    have e := (hR.2 k hk).1
    have hpk := gpv_lt hg.1 hk
    rw [L_X7_isPivot_2, hR.1]
    refine wp_ifp (nI_lt hk (by omega)) (wp_gd (inn' (by omega) (by omega)) ?_)
    rw [ixn (by omega), e]
    refine wp_if (fun h1 => ?_) (fun h1 => ?_)
    · have e1 : gpv g k = v := (nI_eq (by omega) (by omega)).mp h1
      exact wp_some (Or.inl ⟨rfl, by rw [← e1]; exact gpv_pv hk⟩)
    · show wp (L_X7_isPivot_2 (nI v) S n (nI k + 1)) _
      rw [nIs]
      refine ih () fun i hi => ?_
      by_cases e : i = k
      · rw [e]; exact fun q => h1 (by rw [q])
      · exact hp i (by omega)
  · intro n _ hp
    rw [L_X7_isPivot_2, hR.1]
    refine wp_ifn (nI_nlt (Nat.le_refl _) (by omega)) (wp_some (Or.inr ⟨rfl, fun h => ?_⟩))
    obtain ⟨i, hi, e⟩ := pv_gpv h
    exact hp i hi e
  · intro r hr
    rcases hr with ⟨e, h⟩ | ⟨e, _⟩
    · cases e; exact wp_some (if_pos h).symm
    · cases e
  · intro r hr
    rcases hr with ⟨e, _⟩ | ⟨_, h⟩
    · cases e
    · exact wp_some (if_neg h).symm
/-- rows alike beside the pivots -/
def alike (g : Gh) (y z : Nat → Int) : Prop := (∀ k l, k < l → l < 10 → pvB g k ≠ true → pvB g l ≠ true → y k * z l = y l * z k) ∧ ∀ k, k < 10 → pvB g k ≠ true → (y k = 0 ↔ z k = 0)
theorem s_areAlike {S : Sg} {g : Gh} {i j : Nat} {y z : Nat → Int} (hg : gsmall g 10) (hR : RX 150 153 19 S g) (hi : i < 11) (hj : j < 11) (hy : rowA S 150 (10 * i) y) (hz : rowA S 150 (10 * j) z) (by_ : bdd y 1935000000) (bz : bdd z 1935000000) : wp (f_X7_areAlike (nI i) (nI j) S) (fun r => (r = 1 ∧ alike g y z) ∨ (r = 0 ∧ ¬ alike g y z)) := by
  unfold f_X7_areAlike
  refine wp_bsm (up (F := fun n k (_ : Unit) => L_X7_areAlike_2 (nI i) (nI j) S n (nI k)) 10 (fun k _ => (∀ a l, a < k → a < l → l < 10 → pvB g a ≠ true → pvB g l ≠ true → y a * z l = y l * z a) ∧ ∀ a, a < k → pvB g a ≠ true → (y a = 0 ↔ z a = 0)) (fun r => (r = .inl 0 ∧ ¬ alike g y z) ∨ (r = .inr () ∧ alike g y z)) ?_ ?_ 400 0 () (by omega) (by omega) ⟨fun a l h => by omega, fun a h => by omega⟩) ?_ ?_
  · intro n k _ hk ⟨hp, hp2⟩ ih
    rw [L_X7_areAlike_2]
    refine wp_ifp (lt10 hk) ?_
    show wp (bs (L_X7_areAlike_13 (nI i) (nI j) (nI k) S 400 (nI k + 1)) _ _) _
    rw [nIs]
    refine wp_bsm (up (F := fun n l (_ : Unit) => L_X7_areAlike_13 (nI i) (nI j) (nI k) S n (nI l)) 10 (fun l _ => k < l ∧ ∀ a, k < a → a < l → pvB g k ≠ true → pvB g a ≠ true → y k * z a = y a * z k) (fun r => (r = .inl 0 ∧ ¬ alike g y z) ∨ (r = .inr () ∧ ∀ a, k < a → a < 10 → pvB g k ≠ true → pvB g a ≠ true → y k * z a = y a * z k)) ?_ ?_ 400 (k + 1) () (by omega) (by omega) ⟨by omega, fun a h1 h2 => by omega⟩) ?_ ?_
    · intro m l _ hl ⟨hkl, hp3⟩ ih2
      rw [L_X7_areAlike_13]
      have next : (pvB g k ≠ true → pvB g l ≠ true → y k * z l = y l * z k) → wp (L_X7_areAlike_13 (nI i) (nI j) (nI k) S m (nI l + 1)) (fun r => (r = .inl 0 ∧ ¬ alike g y z) ∨ (r = .inr () ∧ ∀ a, k < a → a < 10 → pvB g k ≠ true → pvB g a ≠ true → y k * z a = y a * z k)) := fun h => by
        rw [nIs]
        refine ih2 () ⟨by omega, fun a h1 h2 => ?_⟩
        by_cases e : a = l
        · rw [e]; exact h
        · exact hp3 a h1 (by omega)
      refine wp_ifp (lt10 hl) ?_
      rw [s_isPivot hk hg hR, s_isPivot hl hg hR]
      refine wp_bds rfl ?_
      by_cases ek : pvB g k = true
      · rw [if_pos ek]
        exact wp_ifn (by decide) (next fun h => absurd ek h)
      · rw [if_neg ek]
        refine wp_ifp rfl (wp_bds rfl ?_)
        by_cases el : pvB g l = true
        · rw [if_pos el]
          exact wp_ifn (by decide) (next fun _ h => absurd el h)
        · rw [if_neg el]
          refine wp_ifp rfl ?_
          rw [ten, nI_mul, nI_mul, nI_add, nI_add, nI_add, nI_add, ixn (by omega), ixn (by omega), ixn (by omega), ixn (by omega), hy k hk, hy l hl, hz k hk, hz l hl, J_mul, J_mul]
          refine wp_gd (inn' (by omega) (by omega)) (wp_gd (inn' (by omega) (by omega)) (wp_gd (inn' (by omega) (by omega)) (wp_gd (inn' (by omega) (by omega)) ?_)))
          have b1 := mulb (by_ k hk) (bz l hl)
          have b2 := mulb (by_ l hl) (bz k hk)
          have hc : J (y k * z l) = J (y l * z k) ↔ y k * z l = y l * z k := J_eq (by omega) (by omega)
          refine wp_if (fun h => ?_) (fun h => ?_)
          · exact next fun _ _ => hc.mp h
          · exact wp_some (Or.inl ⟨rfl, fun q => h (hc.mpr (q.1 k l hkl hl ek el))⟩)
    · intro m _ ⟨_, hp3⟩
      rw [L_X7_areAlike_13]
      exact wp_ifn (nlt10 (Nat.le_refl _) (by omega)) (wp_some (Or.inr ⟨rfl, hp3⟩))
    · intro r hr
      rcases hr with ⟨e, h⟩ | ⟨e, _⟩
      · cases e; exact wp_some (Or.inl ⟨rfl, h⟩)
      · cases e
    · intro r hr
      rcases hr with ⟨e, _⟩ | ⟨_, h⟩
      · cases e
      · have next : (pvB g k ≠ true → (y k = 0 ↔ z k = 0)) → wp (L_X7_areAlike_2 (nI i) (nI j) S n (nI (k + 1))) (fun r => (r = .inl 0 ∧ ¬ alike g y z) ∨ (r = .inr () ∧ alike g y z)) := fun h2 => by
          refine ih () ⟨fun a l h3 h4 h5 => ?_, fun a h3 => ?_⟩
          · by_cases e : a = k
            · rw [e]; exact h l (by omega) h5
            · exact hp a l (by omega) h4 h5
          · by_cases e : a = k
            · rw [e]; exact h2
            · exact hp2 a (by omega)
        rw [s_isPivot hk hg hR]
        refine wp_bds rfl ?_
        by_cases ek : pvB g k = true
        · rw [if_pos ek]
          exact wp_ifn (by decide) (next fun h => absurd ek h)
        · rw [if_neg ek]
          refine wp_ifp rfl ?_
          rw [ten, nI_mul, nI_mul, nI_add, nI_add, ixn (by omega), ixn (by omega), hy k hk, hz k hk]
          have c1 : J (y k) = (0 : Int64) ↔ y k = 0 := J_z (by have := by_ k hk; omega)
          have c2 : J (z k) = (0 : Int64) ↔ z k = 0 := J_z (by have := bz k hk; omega)
          have hc : ((if J (y k) = (0 : Int64) then (1 : Int32) else 0) = (if J (z k) = (0 : Int64) then (1 : Int32) else 0)) ↔ (y k = 0 ↔ z k = 0) := by
            by_cases a1 : y k = 0 <;> by_cases a2 : z k = 0
            · rw [if_pos (c1.mpr a1), if_pos (c2.mpr a2)]; exact ⟨fun _ => ⟨fun _ => a2, fun _ => a1⟩, fun _ => rfl⟩
            · rw [if_pos (c1.mpr a1), if_neg (fun q => a2 (c2.mp q))]; exact ⟨fun h => absurd h (by decide), fun h => absurd (h.mp a1) a2⟩
            · rw [if_neg (fun q => a1 (c1.mp q)), if_pos (c2.mpr a2)]; exact ⟨fun h => absurd h (by decide), fun h => absurd (h.mpr a2) a1⟩
            · rw [if_neg (fun q => a1 (c1.mp q)), if_neg (fun q => a2 (c2.mp q))]; exact ⟨fun _ => ⟨fun q => absurd q a1, fun q => absurd q a2⟩, fun _ => rfl⟩
          refine wp_gd (inn' (by omega) (by omega)) (wp_lt (wp_gd (inn' (by omega) (by omega)) (wp_lt ?_)))
          refine wp_if (fun h3 => ?_) (fun h3 => ?_)
          · exact next fun _ => hc.mp h3
          · exact wp_some (Or.inl ⟨rfl, fun q => h3 (hc.mpr (q.2 k hk ek))⟩)
  · intro n _ ⟨hp, hp2⟩
    rw [L_X7_areAlike_2]
    exact wp_ifn (nlt10 (Nat.le_refl _) (by omega)) (wp_some (Or.inr ⟨rfl, fun k l h1 h2 => hp k l (by omega) h1 h2, hp2⟩))
  · intro r hr
    rcases hr with ⟨e, h⟩ | ⟨e, _⟩
    · cases e; exact wp_some (Or.inr ⟨rfl, h⟩)
    · cases e
  · intro r hr
    rcases hr with ⟨e, _⟩ | ⟨_, h⟩
    · cases e
    · exact wp_some (Or.inl ⟨rfl, h⟩)
-- pairs, on both sides
theorem prd_sym {g : Gh} {u v : Nat} (h : prd g u v) : prd g v u := by
  obtain ⟨q, hq, hl⟩ := h
  have hz : ∀ c, c < 10 → (gr g (eb v) c = 0 ↔ gr g (eb u) c = 0) := fun c hc => by
    have e := hl.2 c hc
    constructor
    · intro z
      rw [z, Int.zero_mul] at e
      rcases Int.mul_eq_zero.mp e with h | h
      · exact h
      · exact absurd h hl.1
    · intro z
      rw [z, Int.zero_mul] at e
      rcases Int.mul_eq_zero.mp e.symm with h | h
      · exact h
      · exact absurd h hq.2.1
  exact ⟨q, ⟨hq.1, hl.1, fun c hc => (hz c (by have := hq.1; omega)).mpr (hq.2.2 c hc)⟩, hq.2.1, fun c hc => (hl.2 c hc).symm⟩
theorem pr_iff {g : Gh} : pr g ↔ ∃ u v, u < 10 ∧ v < 10 ∧ u ≠ v ∧ prd g u v := by
  constructor
  · rintro ⟨u, v, h1, h2, h3⟩; exact ⟨u, v, by omega, h2, by omega, h3⟩
  · rintro ⟨u, v, h1, h2, h3, h4⟩
    rcases Nat.lt_or_ge u v with h | h
    · exact ⟨u, v, h, h2, h4⟩
    · exact ⟨v, u, by omega, h1, prd_sym h4⟩
theorem row_cross {g : Gh} (hg : gok g) {i j : Nat} (hi : i < g.length) (hj : j < g.length) {y z : Nat → Int} (hy : RowOK g (gpv g i) y) (hz : RowOK g (gpv g j) z) {k l : Nat} (hk : k < 10) (hl : l < 10) (nk : pvB g k ≠ true) (nl : pvB g l ≠ true) : y k * z l = y l * z k ↔ gr g (eb (gpv g i)) k * gr g (eb (gpv g j)) l = gr g (eb (gpv g i)) l * gr g (eb (gpv g j)) k := by
  have hs := gs_ne g hg
  have ne : ∀ m i, i < g.length → pvB g m ≠ true → m ≠ gpv g i := fun m i hi hm e => hm (by rw [e]; exact gpv_pv hi)
  have t : ∀ m i, i < g.length → pvB g m ≠ true → tt g (gpv g i) m = - gr g (eb (gpv g i)) m := fun m i hi hm => by
    unfold tt
    rw [if_neg (ne m i hi hm)]
    omega
  have e1 := hy.2.2 k hk
  have e2 := hy.2.2 l hl
  have e3 := hz.2.2 k hk
  have e4 := hz.2.2 l hl
  rw [t k i hi nk] at e1
  rw [t l i hi nl] at e2
  rw [t k j hj nk] at e3
  rw [t l j hj nl] at e4
  have a1 : (gs g * y k) * (gs g * z l) = (y (gpv g i) * z (gpv g j)) * (gr g (eb (gpv g i)) k * gr g (eb (gpv g j)) l) := by rw [e1, e4]; grind
  have a2 : (gs g * y l) * (gs g * z k) = (y (gpv g i) * z (gpv g j)) * (gr g (eb (gpv g i)) l * gr g (eb (gpv g j)) k) := by rw [e2, e3]; grind
  have hyz : y (gpv g i) * z (gpv g j) ≠ 0 := Int.mul_ne_zero (by have := hy.1; omega) (by have := hz.1; omega)
  have hss : gs g * gs g ≠ 0 := Int.mul_ne_zero hs hs
  constructor
  · intro h
    refine Int.eq_of_mul_eq_mul_left hyz ?_
    rw [← a1, ← a2]
    have : gs g * y k * (gs g * z l) = gs g * gs g * (y k * z l) := by grind
    rw [this, h]
    grind
  · intro h
    refine Int.eq_of_mul_eq_mul_left hss ?_
    have b1 : gs g * gs g * (y k * z l) = (gs g * y k) * (gs g * z l) := by grind
    have b2 : gs g * gs g * (y l * z k) = (gs g * y l) * (gs g * z k) := by grind
    rw [b1, b2, a1, a2, h]
theorem alike_iff {g : Gh} (hg : gok g) {i j : Nat} (hi : i < g.length) (hj : j < g.length) {y z : Nat → Int} (hy : RowOK g (gpv g i) y) (hz : RowOK g (gpv g j) z) (hn : nofix g) : alike g y z ↔ prd g (gpv g i) (gpv g j) := by
  have ne : ∀ m i, i < g.length → pvB g m ≠ true → m ≠ gpv g i := fun m i hi hm e => hm (by rw [e]; exact gpv_pv hi)
  have zz : ∀ m i w, i < g.length → RowOK g (gpv g i) w → m < 10 → pvB g m ≠ true → (w m = 0 ↔ gr g (eb (gpv g i)) m = 0) := fun m i w hi hw hm hp => (hw.z hg hm).trans (tt_ne (ne m i hi hp))
  have zp : ∀ m a, pvB g m = true → gr g a m = 0 := fun m a h => by
    obtain ⟨x, hx, e⟩ := pvB_iff.mp h
    rw [e]; exact gr_piv g x hx a
  constructor
  · rintro ⟨h1, h2⟩
    -- the first place of the one
    have ⟨q, hq⟩ : ∃ q, fp (gr g (eb (gpv g i))) q := by
      have ex : ∀ n, n ≤ 10 → (∃ p, fp (gr g (eb (gpv g i))) p) ∨ ∀ c, c < n → gr g (eb (gpv g i)) c = 0 := by
        intro n
        induction n with
        | zero => intro _; exact Or.inr fun c hc => by omega
        | succ n ih =>
          intro hn
          rcases ih (by omega) with h | h
          · exact Or.inl h
          · by_cases e : gr g (eb (gpv g i)) n = 0
            · exact Or.inr fun c hc => by
                by_cases e2 : c = n
                · rw [e2]; exact e
                · exact h c (by omega)
            · exact Or.inl ⟨n, by omega, e, h⟩
      rcases ex 10 (Nat.le_refl _) with h | h
      · exact h
      · exact absurd h (hn _ (gpv_lt hg hi))
    have nq : pvB g q ≠ true := fun e => hq.2.1 (zp q _ e)
    have hjq : gr g (eb (gpv g j)) q ≠ 0 := fun e => hq.2.1 ((zz q i y hi hy hq.1 nq).mp ((h2 q hq.1 nq).mpr ((zz q j z hj hz hq.1 nq).mpr e)))
    refine ⟨q, hq, hjq, fun c hc => ?_⟩
    by_cases e : pvB g c = true
    · rw [zp c _ e, zp c _ e]; omega
    · rcases Nat.lt_trichotomy c q with h | h | h
      · have := (row_cross hg hi hj hy hz hc hq.1 e nq).mp (h1 c q h hq.1 e nq)
        rw [this, Int.mul_comm]
      · rw [h, Int.mul_comm]
      · have := (row_cross hg hi hj hy hz hq.1 hc nq e).mp (h1 q c h hc nq e)
        rw [← this, Int.mul_comm]
  · rintro ⟨q, hq, hl⟩
    have hz0 : ∀ c, c < 10 → (gr g (eb (gpv g i)) c = 0 ↔ gr g (eb (gpv g j)) c = 0) := fun c hc => by
      have e := hl.2 c hc
      constructor
      · intro z
        rw [z, Int.zero_mul] at e
        rcases Int.mul_eq_zero.mp e.symm with h | h
        · exact h
        · exact absurd h hq.2.1
      · intro z
        rw [z, Int.zero_mul] at e
        rcases Int.mul_eq_zero.mp e with h | h
        · exact h
        · exact absurd h hl.1
    refine ⟨fun k l hkl hl10 nk nl => ?_, fun k hk nk => ?_⟩
    · rw [row_cross hg hi hj hy hz (by omega) hl10 nk nl]
      have e1 := hl.2 k (by omega)
      have e2 := hl.2 l hl10
      refine Int.eq_of_mul_eq_mul_right (Int.mul_ne_zero hl.1 hq.2.1) ?_
      have a1 : gr g (eb (gpv g i)) k * gr g (eb (gpv g j)) l * (gr g (eb (gpv g j)) q * gr g (eb (gpv g i)) q) = (gr g (eb (gpv g i)) k * gr g (eb (gpv g j)) q) * (gr g (eb (gpv g j)) l * gr g (eb (gpv g i)) q) := by grind
      rw [a1, e1, ← e2]
      grind
    · rw [zz k i y hi hy hk nk, zz k j z hj hz hk nk]
      exact hz0 k hk
/-- a pivot and a letter that is none -/
theorem two_iff {g : Gh} (hg : gok g) {i : Nat} (hi : i < g.length) {z : Nat → Int} (hz : RowOK g (gpv g i) z) : cnz z 10 = 2 ↔ ∃ v, v < 10 ∧ pvB g v ≠ true ∧ prd g (gpv g i) v := by
  have hp := gpv_lt hg hi
  have hs := gs_ne g hg
  have zp : ∀ m a, pvB g m = true → gr g a m = 0 := fun m a h => by
    obtain ⟨x, hx, e⟩ := pvB_iff.mp h
    rw [e]; exact gr_piv g x hx a
  rw [cnz_2 hp (by have := hz.1; omega)]
  constructor
  · rintro ⟨k, hk, hkp, hzk, ho⟩
    have hk0 : gr g (eb (gpv g i)) k ≠ 0 := fun e => hzk ((hz.z hg hk).mpr ((tt_ne hkp).mpr e))
    have nk : pvB g k ≠ true := fun e => hk0 (zp k _ e)
    have hoth : ∀ c, c < 10 → c ≠ k → gr g (eb (gpv g i)) c = 0 := fun c hc hck => by
      by_cases e : c = gpv g i
      · rw [e]; exact gr_gpv hi _
      · exact (tt_ne e).mp ((hz.z hg hc).mp (ho c hc e hck))
    have fk := free_ne hg hk (by cases e : pvB g k with | true => exact absurd e nk | false => rfl)
    refine ⟨k, hk, nk, k, ⟨hk, hk0, fun c hc => hoth c (by omega) (by omega)⟩, ?_, fun c hc => ?_⟩
    · rw [fk k hk, show eb k k = 1 from if_pos rfl]; omega
    · rw [fk c hc, fk k hk, show eb k k = 1 from if_pos rfl]
      by_cases e : c = k
      · rw [e, show eb k k = 1 from if_pos rfl]; grind
      · rw [hoth c hc e, show eb k c = 0 from if_neg e]; omega
  · rintro ⟨v, hv, nv, q, hq, hl⟩
    have fv := free_ne hg hv (by cases e : pvB g v with | true => exact absurd e nv | false => rfl)
    have hqv : q = v := by
      have h1 := hl.1
      rw [fv q hq.1] at h1
      exact Classical.byContradiction fun e => h1 (by rw [show eb v q = 0 from if_neg e]; omega)
    subst hqv
    have hqp : q ≠ gpv g i := fun e => nv (by rw [e]; exact gpv_pv hi)
    refine ⟨q, hv, hqp, fun e => hq.2.1 ((tt_ne hqp).mp ((hz.z hg hv).mp e)), fun j hj hjp hjq => ?_⟩
    have e := hl.2 j hj
    rw [fv j hj, fv q hv, show eb q q = 1 from if_pos rfl, show eb q j = 0 from if_neg hjq] at e
    have e2 : gr g (eb (gpv g i)) j = 0 := by
      have : gr g (eb (gpv g i)) j * (1 * gs g) = 0 := by rw [e]; omega
      rcases Int.mul_eq_zero.mp this with h | h
      · exact h
      · omega
    exact (hz.z hg hj).mpr ((tt_ne hjp).mpr e2)
theorem s_isAnyPaired {S : Sg} {g : Gh} (hg : gsmall g 9) (hn : nofix g) (hR : RX 150 153 19 S g) : wp (f_X7_isAnyPaired S) (fun r => (r = 1 ∧ pr g) ∨ (r = 0 ∧ ¬ pr g)) := by
  have hl := hg.2.2
  have hg10 : gsmall g 10 := ⟨hg.1, hg.2.1, by omega⟩
  unfold f_X7_isAnyPaired
  refine wp_bsm (up (F := fun n k (_ : Unit) => L_X7_isAnyPaired_2 S n (nI k)) g.length (fun k _ => ∀ i, i < k → (∀ v, v < 10 → pvB g v ≠ true → ¬ prd g (gpv g i) v) ∧ ∀ j, i < j → j < g.length → ¬ prd g (gpv g i) (gpv g j)) (fun z => (z = .inl 1 ∧ pr g) ∨ (z = .inr () ∧ ¬ pr g)) ?_ ?_ 400 0 () (by omega) (by omega) (fun i h => by omega)) ?_ ?_
  · intro n k _ hk hp ih
    obtain ⟨e, z, hz, hr⟩ := hR.2 k hk
    have bz := RowOK.bdd hg hk hz
    have hcl := cnz_le z 10
    rw [L_X7_isAnyPaired_2, hR.1]
    refine wp_ifp (nI_lt hk (by omega)) ?_
    rw [s_manyNot0 hr (bdd_mono bz (by decide)) (by omega)]
    have hc : nI (cnz z 10) = (2 : Int32) ↔ cnz z 10 = 2 := nI_eq (b := 2) (by omega) (by omega)
    refine wp_bds rfl (wp_if (fun h => ?_) (fun h => ?_))
    · obtain ⟨v, h1, h2, h3⟩ := (two_iff hg.1 hk hz).mp (hc.mp h)
      exact wp_some (Or.inl ⟨rfl, pr_iff.mpr ⟨gpv g k, v, gpv_lt hg.1 hk, h1, fun e => h2 (by rw [← e]; exact gpv_pv hk), h3⟩⟩)
    · have no2 : ∀ v, v < 10 → pvB g v ≠ true → ¬ prd g (gpv g k) v := fun v h1 h2 h3 => h (hc.mpr ((two_iff hg.1 hk hz).mpr ⟨v, h1, h2, h3⟩))
      show wp (bs (L_X7_isAnyPaired_25 (nI k) S 400 (nI k + 1)) _ _) _
      rw [nIs]
      refine wp_bsm (up (F := fun n j (_ : Unit) => L_X7_isAnyPaired_25 (nI k) S n (nI j)) g.length (fun j _ => k < j ∧ ∀ a, k < a → a < j → ¬ prd g (gpv g k) (gpv g a)) (fun z => (z = .inl 1 ∧ pr g) ∨ (z = .inr () ∧ ∀ a, k < a → a < g.length → ¬ prd g (gpv g k) (gpv g a))) ?_ ?_ 400 (k + 1) () (by omega) (by omega) ⟨by omega, fun a h1 h2 => by omega⟩) ?_ ?_
      · intro m j _ hj ⟨hkj, hp2⟩ ih2
        obtain ⟨e', z', hz', hr'⟩ := hR.2 j hj
        rw [L_X7_isAnyPaired_25, hR.1]
        refine wp_ifp (nI_lt hj (by omega)) (wp_bdm (s_areAlike hg10 hR (by omega) (by omega) hr hr' (bdd_mono bz (by decide)) (bdd_mono (RowOK.bdd hg hj hz') (by decide))) ?_)
        intro r hr
        rcases hr with ⟨rfl, ha⟩ | ⟨rfl, ha⟩
        · refine wp_ifn (by decide) (wp_some (Or.inl ⟨rfl, pr_iff.mpr ⟨gpv g k, gpv g j, gpv_lt hg.1 hk, gpv_lt hg.1 hj, fun e => by have := gpv_inj g hg.1 k j hk hj e; omega, (alike_iff hg.1 hk hj hz hz' hn).mp ha⟩⟩))
        · refine wp_ifp rfl ?_
          show wp (L_X7_isAnyPaired_25 (nI k) S m (nI j + 1)) _
          rw [nIs]
          refine ih2 () ⟨by omega, fun a h1 h2 => ?_⟩
          by_cases e : a = j
          · rw [e]; exact fun q => ha ((alike_iff hg.1 hk hj hz hz' hn).mpr q)
          · exact hp2 a h1 (by omega)
      · intro m _ ⟨_, hp2⟩
        rw [L_X7_isAnyPaired_25, hR.1]
        exact wp_ifn (nI_nlt (Nat.le_refl _) (by omega)) (wp_some (Or.inr ⟨rfl, hp2⟩))
      · intro r hr
        rcases hr with ⟨e, h⟩ | ⟨e, _⟩
        · cases e; exact wp_some (Or.inl ⟨rfl, h⟩)
        · cases e
      · intro r hr
        rcases hr with ⟨e, _⟩ | ⟨_, h2⟩
        · cases e
        · refine ih () fun i hi => ?_
          by_cases e : i = k
          · rw [e]; exact ⟨no2, h2⟩
          · exact hp i (by omega)
  · intro n _ hp
    rw [L_X7_isAnyPaired_2, hR.1]
    refine wp_ifn (nI_nlt (Nat.le_refl _) (by omega)) (wp_some (Or.inr ⟨rfl, fun h => ?_⟩))
    obtain ⟨u, v, hu, hv, huv, h3⟩ := pr_iff.mp h
    by_cases eu : pvB g u = true
    · obtain ⟨i, hi, ei⟩ := pv_gpv eu
      rw [← ei] at h3 huv
      by_cases ev : pvB g v = true
      · obtain ⟨j, hj, ej⟩ := pv_gpv ev
        rw [← ej] at h3 huv
        rcases Nat.lt_trichotomy i j with h | h | h
        · exact (hp i hi).2 j h hj h3
        · exact huv (by rw [h])
        · exact (hp j hj).2 i h hi (prd_sym h3)
      · exact (hp i hi).1 v hv ev h3
    · by_cases ev : pvB g v = true
      · obtain ⟨j, hj, ej⟩ := pv_gpv ev
        rw [← ej] at h3
        exact (hp j hj).1 u hu eu (prd_sym h3)
      · -- neither is a pivot
        obtain ⟨q, hq, hl⟩ := h3
        have fu := free_ne hg.1 hu (by cases e : pvB g u with | true => exact absurd e eu | false => rfl)
        have fv := free_ne hg.1 hv (by cases e : pvB g v with | true => exact absurd e ev | false => rfl)
        have h1 := hq.2.1
        have h2 := hl.1
        rw [fu q hq.1] at h1
        rw [fv q hq.1] at h2
        have e1 : q = u := Classical.byContradiction fun e => h1 (by rw [show eb u q = 0 from if_neg e]; omega)
        have e2 : q = v := Classical.byContradiction fun e => h2 (by rw [show eb v q = 0 from if_neg e]; omega)
        exact huv (e1.symm.trans e2)
  · intro r hr
    rcases hr with ⟨e, h⟩ | ⟨e, _⟩
    · cases e; exact wp_some (Or.inl ⟨rfl, h⟩)
    · cases e
  · intro r hr
    rcases hr with ⟨e, _⟩ | ⟨_, h⟩
    · cases e
    · exact wp_some (Or.inr ⟨rfl, h⟩)
