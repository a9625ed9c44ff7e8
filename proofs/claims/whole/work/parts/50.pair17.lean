/-! three sums in every order -/
def up1 (s : Int32 × Int32) (c r : Int32) : Int32 × Int32 := (if s.2 < r then c else s.1, if s.2 < r then r else s.2)
/-- one of three -/
def pk (a b c : Nat) (i : Nat) : Nat := if i = 0 then a else if i = 1 then b else c
noncomputable def jo (w : Wd) (t : Nat → Nat) (i m : Nat) : Int32 := nI (jt w (t i) (t m) (t (3 - i - m)))
noncomputable def ci (w : Wd) (t : Nat → Nat) (i : Nat) (s : Int32 × Int32) : Nat → Int32 × Int32
  | 0 => s
  | m + 1 => if m = i then ci w t i s m else up1 (ci w t i s m) (nI (100 * i + 10 * m + (3 - i - m))) (jo w t i m)
noncomputable def co (w : Wd) (t : Nat → Nat) : Nat → Int32 × Int32
  | 0 => (0, -1)
  | i + 1 => ci w t i (co w t i) 3
def iso (c : Nat) : Bool := c == 12 || c == 21 || c == 102 || c == 120 || c == 201 || c == 210
noncomputable def mo (w : Wd) (t : Nat → Nat) : Nat → Int32 × Int32
  | 0 => (-9, -9)
  | c + 1 => if iso c = true then up1 (mo w t c) (nI c) (jo w t (c / 100) (c / 10 % 10)) else mo w t c
theorem mo_skip (w : Wd) (t : Nat → Nat) (a : Nat) : ∀ b, a ≤ b → (∀ d, a ≤ d → d < b → iso d = false) → mo w t b = mo w t a := by
  intro b
  induction b with
  | zero => intro h _; rw [show a = 0 by omega]
  | succ b ih =>
    intro h hd
    by_cases e : a = b + 1
    · rw [e]
    · show (if iso b = true then _ else mo w t b) = _
      rw [if_neg (by rw [hd b (by omega) (by omega)]; decide)]
      exact ih (by omega) fun d h1 h2 => hd d h1 (by omega)
theorem jt_nn (w : Wd) (a b c : Nat) : jt w a b c ≤ 3 := by
  unfold jt
  have h1 := one_01 w a
  have h2 := one_01 (nw w a) b
  have h3 := one_01 (nw (nw w a) b) c
  omega
theorem co_mo (w : Wd) (t : Nat → Nat) : co w t 3 = mo w t 300 := by
  have sk : ∀ a b, a ≤ b → b ≤ 300 → (∀ d, d < 300 → a ≤ d → d < b → iso d = false) → mo w t b = mo w t a := fun a b h h3 hd => mo_skip w t a b h fun d h1 h2 => hd d (by omega) h1 h2
  have st : ∀ c, iso c = true → mo w t (c + 1) = up1 (mo w t c) (nI c) (jo w t (c / 100) (c / 10 % 10)) := fun c h => if_pos h
  have m0 : mo w t 13 = up1 (-9, -9) (nI 12) (jo w t 0 1) := by rw [st 12 rfl, sk 0 12 (by omega) (by omega) (by decide +kernel)]; rfl
  have m1 : mo w t 22 = up1 (mo w t 13) (nI 21) (jo w t 0 2) := by rw [st 21 rfl, sk 13 21 (by omega) (by omega) (by decide +kernel)]
  have m2 : mo w t 103 = up1 (mo w t 22) (nI 102) (jo w t 1 0) := by rw [st 102 rfl, sk 22 102 (by omega) (by omega) (by decide +kernel)]
  have m3 : mo w t 121 = up1 (mo w t 103) (nI 120) (jo w t 1 2) := by rw [st 120 rfl, sk 103 120 (by omega) (by omega) (by decide +kernel)]
  have m4 : mo w t 202 = up1 (mo w t 121) (nI 201) (jo w t 2 0) := by rw [st 201 rfl, sk 121 201 (by omega) (by omega) (by decide +kernel)]
  have m5 : mo w t 211 = up1 (mo w t 202) (nI 210) (jo w t 2 1) := by rw [st 210 rfl, sk 202 210 (by omega) (by omega) (by decide +kernel)]
  have m6 : mo w t 300 = mo w t 211 := sk 211 300 (by omega) (by omega) (by decide +kernel)
  have first : up1 (-9, -9) (nI 12) (jo w t 0 1) = up1 (0, -1) (nI 12) (jo w t 0 1) := by
    have h := jt_nn w (t 0) (t 1) (t (3 - 0 - 1))
    unfold up1 jo
    generalize jt w (t 0) (t 1) (t (3 - 0 - 1)) = n at h
    have a1 : ((-9 : Int32) < nI n) := by
      rw [show (-9 : Int32) = I (-9) by decide, ← I_nI]; exact (I_lt (by omega) (by omega)).mpr (by omega)
    have a2 : ((-1 : Int32) < nI n) := by
      rw [show (-1 : Int32) = I (-1) by decide, ← I_nI]; exact (I_lt (by omega) (by omega)).mpr (by omega)
    show (if (-9 : Int32) < nI n then _ else _, if (-9 : Int32) < nI n then _ else _) = (if (-1 : Int32) < nI n then _ else _, if (-1 : Int32) < nI n then _ else _)
    rw [if_pos a1, if_pos a1, if_pos a2, if_pos a2]
  rw [m6, m5, m4, m3, m2, m1, m0, first]
  rfl
theorem pick_n {a b c i : Nat} (h : i < 3) : f_X6_pick (nI i) (nI a) (nI b) (nI c) = nI (pk a b c i) := by
  have : i = 0 ∨ i = 1 ∨ i = 2 := by omega
  rcases this with rfl | rfl | rfl <;> rfl
theorem s_orderC {S : Sg} {w : Wd} (hw : CW 1 S w) (hg : wgood w) (a b c : Nat) (p4 : Int32) (ok : ∀ T, Fr csc S T → CW 1 T w) : wp (L_X6_order_60 (nI a) (nI b) (nI c) p4 400 (0 : Int32) (-1 : Int32) (0 : Int32) S) (fun z => (z.1, z.2.1) = co w (pk a b c) 3 ∧ Fr csc S z.2.2) := by
  refine up (F := fun n k (z : Int32 × Int32 × Sg) => L_X6_order_60 (nI a) (nI b) (nI c) p4 n z.1 z.2.1 (nI k) z.2.2) 3 (fun k z => (z.1, z.2.1) = co w (pk a b c) k ∧ Fr csc S z.2.2) _ ?_ ?_ 400 0 (0, -1, S) (by omega) (by omega) ⟨rfl, Fr.rf⟩
  · rintro n i ⟨x, y, T⟩ hi ⟨h1, f⟩ ih
    have h1' : (x, y) = co w (pk a b c) i := h1
    show wp (L_X6_order_60 (nI a) (nI b) (nI c) p4 (n + 1) x y (nI i) T) _
    rw [L_X6_order_60]
    refine wp_ifp (nI_lt (b := 3) hi (by decide)) ?_
    refine wp_bdm (up (F := fun n m (z : Int32 × Int32 × Sg) => L_X6_order_69 (nI a) (nI b) (nI c) p4 (nI i) n z.1 z.2.1 (nI m) z.2.2) 3 (fun m z => (z.1, z.2.1) = ci w (pk a b c) i (x, y) m ∧ Fr csc S z.2.2) (fun z => (z.1, z.2.1) = ci w (pk a b c) i (x, y) 3 ∧ Fr csc S z.2.2) ?_ ?_ 400 0 (x, y, T) (by omega) (by omega) ⟨rfl, f⟩) ?_
    · rintro n m ⟨x', y', U⟩ hm ⟨g1, g⟩ ih2
      have g1' : (x', y') = ci w (pk a b c) i (x, y) m := g1
      show wp (L_X6_order_69 (nI a) (nI b) (nI c) p4 (nI i) (n + 1) x' y' (nI m) U) _
      rw [L_X6_order_69]
      refine wp_ifp (nI_lt (b := 3) hm (by decide)) (wp_if (fun e => ?_) (fun e => ?_))
      · have e' : m = i := (nI_eq (by omega) (by omega)).mp e
        show wp (L_X6_order_69 (nI a) (nI b) (nI c) p4 (nI i) n x' y' (nI m + 1) U) _
        rw [nIs]
        refine ih2 (x', y', U) ⟨?_, g⟩
        show (x', y') = if m = i then ci w (pk a b c) i (x, y) m else _
        rw [if_pos e', g1']
      · have e' : m ≠ i := fun q => e (by rw [q])
        have d : ∀ i, i < 3 → ∀ m, m < 3 → m ≠ i → ((3 : Int32) - nI i) - nI m = nI (3 - i - m) ∧ (((100 : Int32) * nI i) + ((10 : Int32) * nI m)) + nI (3 - i - m) = nI (100 * i + 10 * m + (3 - i - m)) := by decide +kernel
        obtain ⟨d1, d2⟩ := d i hi m hm e'
        rw [d1]
        show wp (bd (f_X6_joinedInTurn (f_X6_pick (nI i) (nI a) (nI b) (nI c)) (f_X6_pick (nI m) (nI a) (nI b) (nI c)) (f_X6_pick (nI (3 - i - m)) (nI a) (nI b) (nI c)) U) _) _
        rw [pick_n hi, pick_n hm, pick_n (by omega)]
        refine wp_bdm (s_jit (ok U g) hg _ _ _) ?_
        rintro ⟨r, V⟩ ⟨er, f2⟩
        have er' : r = jo w (pk a b c) i m := er
        refine wp_u2 ?_
        show wp (L_X6_order_69 (nI a) (nI b) (nI c) p4 (nI i) n (if y' < r then (((100 : Int32) * nI i) + ((10 : Int32) * nI m)) + nI (3 - i - m) else x') (if y' < r then r else y') (nI m + 1) V) _
        rw [nIs, d2]
        refine ih2 (_, _, V) ⟨?_, g.tr f2⟩
        show (if y' < r then nI (100 * i + 10 * m + (3 - i - m)) else x', if y' < r then r else y') = if m = i then _ else up1 (ci w (pk a b c) i (x, y) m) (nI (100 * i + 10 * m + (3 - i - m))) (jo w (pk a b c) i m)
        rw [if_neg e', ← g1', er']
        rfl
    · rintro n ⟨x', y', U⟩ h
      show wp (L_X6_order_69 (nI a) (nI b) (nI c) p4 (nI i) (n + 1) x' y' (nI 3) U) _
      rw [L_X6_order_69]
      exact wp_ifn (nI_nlt (b := 3) (Nat.le_refl _) (by decide)) (wp_some h)
    · rintro ⟨x', y', U⟩ ⟨g1, g⟩
      have g1' : (x', y') = ci w (pk a b c) i (x, y) 3 := g1
      show wp (L_X6_order_60 (nI a) (nI b) (nI c) p4 n x' y' (nI i + 1) U) _
      rw [nIs]
      refine ih (x', y', U) ⟨?_, g⟩
      show (x', y') = ci w (pk a b c) i (co w (pk a b c) i) 3
      rw [← h1', g1']
  · rintro n ⟨x, y, T⟩ h
    show wp (L_X6_order_60 (nI a) (nI b) (nI c) p4 (n + 1) x y (nI 3) T) _
    rw [L_X6_order_60]
    exact wp_ifn (nI_nlt (b := 3) (Nat.le_refl _) (by decide)) (wp_some h)
theorem iso_d : ∀ c, c < 300 → f_X7_isOrder (nI c) = some (if iso c = true then 1 else 0) ∧ (iso c = true → c / 100 < 3 ∧ c / 10 % 10 < 3 ∧ c % 10 < 3 ∧ c % 10 = 3 - c / 100 - c / 10 % 10 ∧ nI c / (100 : Int32) = nI (c / 100) ∧ irem (nI c / (10 : Int32)) 10 = nI (c / 10 % 10) ∧ irem (nI c) 10 = nI (c % 10)) := by decide +kernel
theorem s_joinsIn {S : Sg} {w : Wd} {t : Nat → Nat} {c : Nat} (hw : MW S w) (hg : wgood w) (hcw : Cw w) (h3 : ∀ i, i < 3 → S.1 163 i = nI (t i)) (hc : c < 300) (hi : iso c = true) : wp (f_X7_joinsIn (nI c) S) (fun z => z.1 = jo w t (c / 100) (c / 10 % 10) ∧ Fm mmI mscJ S z.2 ∧ MW z.2 w ∧ ∀ i, z.2.1 163 i = S.1 163 i) := by
  have hl := wg_l10 hg
  obtain ⟨_, hd⟩ := iso_d c hc
  obtain ⟨a1, a2, a0, a3, b1, b2, b3⟩ := hd hi
  unfold f_X7_joinsIn
  rw [b1, b2, b3]
  refine wp_bdm (s_minds hw hl) fun S1 ⟨f1, m1, k1⟩ => ?_
  have t1 : ∀ i, S1.1 163 i = S.1 163 i := fun i => f1.1 _ _ (by rintro (z | z) <;> omega)
  have n163 : ∀ i, ¬ tsI 163 i := fun i z => by have := ts_o 163 i z; omega
  have n154 : ∀ i, ¬ tsI 154 i := fun i z => by have := ts_o 154 i z; omega
  refine wp_gd (inb_n a1 (by decide)) ?_
  rw [ix_n (by omega), t1, h3 _ a1]
  refine wp_bdm (s_asksSum m1 hg _) ?_
  rintro ⟨r1, S2⟩ ⟨e1, f2, m2⟩
  have e1' : r1 = ms w (t (c / 100)) := e1
  subst e1'
  have g2 := nw_good hcw hg (t (c / 100))
  refine wp_u2 (wp_ltq _ (one_I _ _) (wp_gd (inb_n a2 (by decide)) ?_))
  rw [ix_n (by omega), f2.1 _ _ (n163 _), t1, h3 _ a2]
  refine wp_bdm (s_asksSum m2 g2.2 _) ?_
  rintro ⟨r2, S3⟩ ⟨e2, f3, m3⟩
  have e2' : r2 = ms (nw w (t (c / 100))) (t (c / 10 % 10)) := e2
  subst e2'
  have g3 := nw_good g2.1 g2.2 (t (c / 10 % 10))
  refine wp_u2 (wp_ltq _ (one_I _ _) (wp_lt (wp_gd (inb_n (by omega) (by decide)) ?_)))
  rw [ix_n (by omega), f3.1 _ _ (n163 _), f2.1 _ _ (n163 _), t1, h3 _ (by omega)]
  refine wp_bdm (s_asksSum m3 g3.2 _) ?_
  rintro ⟨r3, S4⟩ ⟨e3, f4, m4⟩
  have e3' : r3 = ms (nw (nw w (t (c / 100))) (t (c / 10 % 10))) (t (c % 10)) := e3
  subst e3'
  refine wp_u2 (wp_ltq _ (one_I _ _) (wp_lt ?_))
  have k4 : KW S4 2 w := ((k1.fm hl f2 fun k _ _ => n154 k).fm hl f3 fun k _ _ => n154 k).fm hl f4 fun k _ _ => n154 k
  refine wp_bdm (s_forgets k4 hl) fun S5 ⟨f5, m5, _⟩ => wp_some ⟨?_, ?_, m5, fun i => ?_⟩
  · rw [nI_add, nI_add, a3]; rfl
  · exact ((((f1.mono kp_mm no_j).tr (f2.mono ts_mm lj_m)).tr (f3.mono ts_mm lj_m)).tr (f4.mono ts_mm lj_m)).tr (f5.mono rs_mm no_j)
  · have f5' : S5.1 163 i = S4.1 163 i := f5.1 _ _ (by
      rintro (z | z)
      · have : (142 ≤ 163 ∧ 163 ≤ 147) ∨ (163 = 140 ∧ 7 ≤ i ∧ i ≤ 10) := z; omega
      · omega)
    show S5.1 163 i = S.1 163 i
    rw [f5', f4.1 _ _ (n163 _), f3.1 _ _ (n163 _), f2.1 _ _ (n163 _), t1]
