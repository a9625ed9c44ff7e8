theorem min1 (p q : Int32) : f_J9_min_7cf53 p q < 1 ↔ (p < 1 ∨ q < 1) := by
  show (if q < p then q else p) < 1 ↔ _
  by_cases h : q < p
  · rw [if_pos h]
    rw [Int32.lt_iff_toInt_lt] at h ⊢
    rw [Int32.lt_iff_toInt_lt]
    omega
  · rw [if_neg h]
    rw [Int32.lt_iff_toInt_lt] at h ⊢
    rw [Int32.lt_iff_toInt_lt]
    omega
theorem max255 (p q : Int32) : 255 < f_J9_max_7cf53 p q ↔ (255 < p ∨ 255 < q) := by
  show 255 < (if p < q then q else p) ↔ _
  by_cases h : p < q
  · rw [if_pos h]
    rw [Int32.lt_iff_toInt_lt] at h ⊢
    rw [Int32.lt_iff_toInt_lt]
    omega
  · rw [if_neg h]
    rw [Int32.lt_iff_toInt_lt] at h ⊢
    rw [Int32.lt_iff_toInt_lt]
    omega
theorem nn255 {p : Int32} (h1 : ¬ p < 1) (h2 : ¬ 255 < p) : ∃ a : Nat, 1 ≤ a ∧ a ≤ 255 ∧ p = nI a := by
  have h0 : ¬ p < 0 := fun q => h1 (by
    rw [Int32.lt_iff_toInt_lt] at q ⊢
    have e0 : (0 : Int32).toInt = 0 := rfl
    have e1 : (1 : Int32).toInt = 1 := rfl
    omega)
  obtain ⟨n, hn, rfl⟩ := nI_of h0
  refine ⟨n, ?_, ?_, rfl⟩
  · by_cases q : 1 ≤ n
    · exact q
    · exact absurd (nI_lt (b := 1) (show n < 1 by omega) (by decide)) h1
  · by_cases q : n ≤ 255
    · exact q
    · exact absurd (nI_lt (a := 255) (show 255 < n by omega) hn) h2
theorem all2 (p q : Int32) : (∃ j v, isRef v j ∧ f_X6_misfitOfAll (f_J9_min_7cf53 p q) (f_J9_max_7cf53 p q) = v ∧ (if p < (1 : Int32) then (-4 : Int32) else if q < (1 : Int32) then (-4 : Int32) else if (255 : Int32) < p then (-6 : Int32) else if (255 : Int32) < q then (-6 : Int32) else 0) = v) ∨ ∃ a b : Nat, (1 ≤ a ∧ a ≤ 255) ∧ (1 ≤ b ∧ b ≤ 255) ∧ p = nI a ∧ q = nI b ∧ f_X6_misfitOfAll (f_J9_min_7cf53 p q) (f_J9_max_7cf53 p q) = 0 ∧ (if p < (1 : Int32) then (-4 : Int32) else if q < (1 : Int32) then (-4 : Int32) else if (255 : Int32) < p then (-6 : Int32) else if (255 : Int32) < q then (-6 : Int32) else 0) = 0 := by
  have e : f_X6_misfitOfAll (f_J9_min_7cf53 p q) (f_J9_max_7cf53 p q) = if f_J9_min_7cf53 p q < 1 then -4 else if 255 < f_J9_max_7cf53 p q then -6 else 0 := rfl
  rw [e]
  by_cases h1 : p < 1
  · left; exact ⟨_, -4, r4, if_pos ((min1 p q).mpr (Or.inl h1)), if_pos h1⟩
  · by_cases h2 : q < 1
    · left; exact ⟨_, -4, r4, if_pos ((min1 p q).mpr (Or.inr h2)), by rw [if_neg h1, if_pos h2]⟩
    · rw [if_neg (fun z => ((min1 p q).mp z).elim h1 h2), if_neg h1, if_neg h2]
      by_cases h3 : 255 < p
      · left; exact ⟨_, -6, r6, if_pos ((max255 p q).mpr (Or.inl h3)), if_pos h3⟩
      · by_cases h4 : 255 < q
        · left; exact ⟨_, -6, r6, if_pos ((max255 p q).mpr (Or.inr h4)), by rw [if_neg h3, if_pos h4]⟩
        · right
          obtain ⟨a, a1, a2, ea⟩ := nn255 h1 h3
          obtain ⟨b, b1, b2, eb⟩ := nn255 h2 h4
          exact ⟨a, b, ⟨a1, a2⟩, ⟨b1, b2⟩, ea, eb, if_neg (fun z => ((max255 p q).mp z).elim h3 h4), by rw [if_neg h3, if_neg h4]⟩
/-- the cell where neither gains by a change -/
def tw (x y z : Int32) : Int32 := if ¬ 0 < y ∧ ¬ 0 < x then 0 else if ¬ 0 < y ∧ ¬ x < 0 then 1 else if ¬ y < 0 ∧ ¬ 0 < z then 10 else if ¬ y < 0 ∧ ¬ z < 0 then 11 else -9
theorem two6 {S : Sg} {x y z : Int32} (hx : x = 3 ∨ x = 1 ∨ x = -1) (hy : y = 3 ∨ y = 1 ∨ y = -1) (hz : z = 3 ∨ z = 1 ∨ z = -1) : bs (L_X6_two_80 x y z S 400 (0 : Int32)) (fun q => some q) (fun _ => some ((-9 : Int32), S)) = some (tw x y z, S) := by
  rcases hx with rfl | rfl | rfl <;> rcases hy with rfl | rfl | rfl <;> rcases hz with rfl | rfl | rfl <;> rfl
theorem e164 {o k : Nat} (h : o = 164) : mmI o k := Or.inl (msc_of (by omega))
theorem s_findEnds {S : Sg} {w : Wd} (hw : MW S w) (hg : wgood w) (a b : Nat) (hga : wgood (nw w a)) : wp (f_X7_findEnds (nI a) (nI b) S) (fun T => Fm mmI mscJ S T ∧ MW T w ∧ T.1 164 0 = 0 ∧ T.1 164 1 = 0 ∧ T.1 164 2 = 0 ∧ T.1 164 3 = gn w b ∧ T.1 164 4 = gn w a ∧ T.1 164 5 = 0 ∧ T.1 164 6 = gn w a ∧ T.1 164 7 = gn (nw w a) b) := by
  have hl := wg_l10 hg
  unfold f_X7_findEnds
  refine wp_bdm (up (F := fun n k (T : Sg) => L_X7_findEnds_2 (nI a) (nI b) n (nI k) T) 4 (fun k T => Fm mmI mscJ S T ∧ MW T w ∧ ∀ i, i < k → T.1 164 (2 * i) = (if i / 2 = 1 then gn w a else 0) ∧ T.1 164 (2 * i + 1) = (if i % 2 = 1 then gn (if i / 2 = 1 then nw w a else w) b else 0)) (fun T => Fm mmI mscJ S T ∧ MW T w ∧ ∀ i, i < 4 → T.1 164 (2 * i) = (if i / 2 = 1 then gn w a else 0) ∧ T.1 164 (2 * i + 1) = (if i % 2 = 1 then gn (if i / 2 = 1 then nw w a else w) b else 0)) ?_ ?_ 400 0 S (by omega) (by omega) ⟨Fm.rf, hw, fun i hi => by omega⟩) fun T ⟨f, m, h⟩ => wp_some ⟨f, m, (h 0 (by omega)).1, (h 0 (by omega)).2, (h 1 (by omega)).1, (h 1 (by omega)).2, (h 2 (by omega)).1, (h 2 (by omega)).2, (h 3 (by omega)).1, (h 3 (by omega)).2⟩
  · rintro n k T hk ⟨f, mT, hp⟩ ih
    rw [L_X7_findEnds_2]
    have d2 : ∀ k, k < 4 → (nI k / (2 : Int32) = 1 ↔ k / 2 = 1) ∧ (irem (nI k) (2 : Int32) = 1 ↔ k % 2 = 1) ∧ (2 : Int32) * nI k = nI (2 * k) := by decide +kernel
    obtain ⟨q1, q2, q3⟩ := d2 k hk
    refine wp_ifp (nI_lt (b := 4) hk (by decide)) (wp_bdm (s_minds mT hl) fun S1 ⟨f1, m1, k1⟩ => ?_)
    have F1 : Fm mmI mscJ T S1 := f1.mono kp_mm no_j
    have x1 : ∀ i, S1.1 164 i = T.1 164 i := fun i => f1.1 _ _ (by rintro (z | z) <;> omega)
    -- the second half, from the world after the first
    have tail : ∀ (x : Int32) (S2 : Sg) (w2 : Wd), wgood w2 → MW S2 w2 → KW S2 2 w → Fm mmI mscJ S1 S2 → (∀ i, S2.1 164 i = S1.1 164 i) → x = (if k / 2 = 1 then gn w a else 0) → w2 = (if k / 2 = 1 then nw w a else w) → wp (gd (inb ((2 : Int32) * nI k) 8) <| lt (setI S2 164 (ix ((2 : Int32) * nI k)) x) fun S_3 => if (irem (nI k) (2 : Int32)) = (1 : Int32) then (bd (f_X7_getsFor (nI b) S_3) (u2 fun r_1 S_6 => gd (inb (((2 : Int32) * nI k) + (1 : Int32)) 8) <| lt (setI S_6 164 (ix (((2 : Int32) * nI k) + (1 : Int32))) r_1) fun S_7 => bd (f_X7_forgets S_7) fun S_8 => lt (nI k + (1 : Int32)) fun v3_2 => L_X7_findEnds_2 (nI a) (nI b) n v3_2 S_8)) else (gd (inb (((2 : Int32) * nI k) + (1 : Int32)) 8) <| lt (setI S_3 164 (ix (((2 : Int32) * nI k) + (1 : Int32))) (0 : Int32)) fun S_4 => bd (f_X7_forgets S_4) fun S_5 => lt (nI k + (1 : Int32)) fun v3_1 => L_X7_findEnds_2 (nI a) (nI b) n v3_1 S_5)) (fun T => Fm mmI mscJ S T ∧ MW T w ∧ ∀ i, i < 4 → T.1 164 (2 * i) = (if i / 2 = 1 then gn w a else 0) ∧ T.1 164 (2 * i + 1) = (if i % 2 = 1 then gn (if i / 2 = 1 then nw w a else w) b else 0)) := by
      intro x S2 w2 g2 m2 k2 F2 x2 ex ew
      rw [q3, nIs]
      refine wp_gd (inb_n (by omega) (by decide)) (wp_lt ?_)
      rw [ix_n (by omega)]
      have F3 : Fm mmI mscJ S2 (setI S2 164 (2 * k) x) := Fm.setI (e164 rfl)
      have m3 : MW (setI S2 164 (2 * k) x) w2 := m2.fm (Fm.setI (AI := fun o _ => o = 164) (AJ := noJ) rfl) fun o k q z => by have : (142 ≤ o ∧ o ≤ 147) ∨ (o = 140 ∧ 7 ≤ k ∧ k ≤ 10) := q; have : o = 164 := z; omega
      have k3 : KW (setI S2 164 (2 * k) x) 2 w := k2.fm hl (Fm.setI (AI := fun o _ => o = 164) (AJ := noJ) rfl) fun _ _ _ z => by have : 154 = 164 := z; omega
      have fin : ∀ (y : Int32) (V : Sg), KW V 2 w → Fm mmI mscJ S2 V → (∀ i, V.1 164 i = (setI S2 164 (2 * k) x).1 164 i) → y = (if k % 2 = 1 then gn (if k / 2 = 1 then nw w a else w) b else 0) → wp (gd (inb (nI (2 * k + 1)) 8) <| lt (setI V 164 (ix (nI (2 * k + 1))) y) fun S_7 => bd (f_X7_forgets S_7) fun S_8 => lt (nI k + (1 : Int32)) fun v3_2 => L_X7_findEnds_2 (nI a) (nI b) n v3_2 S_8) (fun T => Fm mmI mscJ S T ∧ MW T w ∧ ∀ i, i < 4 → T.1 164 (2 * i) = (if i / 2 = 1 then gn w a else 0) ∧ T.1 164 (2 * i + 1) = (if i % 2 = 1 then gn (if i / 2 = 1 then nw w a else w) b else 0)) := by
        intro y V kV FV xV ey
        refine wp_gd (inb_n (by omega) (by decide)) (wp_lt ?_)
        rw [ix_n (by omega)]
        have k4 : KW (setI V 164 (2 * k + 1) y) 2 w := kV.fm hl (Fm.setI (AI := fun o _ => o = 164) (AJ := noJ) rfl) fun _ _ _ z => by have : 154 = 164 := z; omega
        refine wp_bdm (s_forgets k4 hl) fun U ⟨f5, m5, _⟩ => ?_
        show wp (L_X7_findEnds_2 (nI a) (nI b) n (nI k + 1) U) _
        rw [nIs]
        have x5 : ∀ i, U.1 164 i = (setI V 164 (2 * k + 1) y).1 164 i := fun i => f5.1 _ _ (by
          rintro (z | z)
          · have : (142 ≤ 164 ∧ 164 ≤ 147) ∨ (164 = 140 ∧ 7 ≤ i ∧ i ≤ 10) := z; omega
          · omega)
        refine ih U ⟨(((f.tr F1).tr F2).tr FV).tr ((Fm.setI (e164 rfl)).tr (f5.mono rs_mm no_j)), m5, fun i hi => ?_⟩
        by_cases e : i = k
        · subst e
          rw [x5, x5, setI_n (by omega), setI_s, xV, setI_s]
          exact ⟨ex, ey⟩
        · rw [x5, x5, setI_n (by omega), setI_n (by omega), xV, xV, setI_n (by omega), setI_n (by omega), x2, x2, x1, x1]
          exact hp i (by omega)
      refine wp_if (fun h => ?_) (fun h => ?_)
      · have h' := q2.mp h
        refine wp_bdm (s_getsFor m3 g2 b) ?_
        rintro ⟨r, V⟩ ⟨er, f4, _⟩
        have er' : r = gn w2 b := er
        refine wp_u2 (fin r V (k3.fm hl f4 fun i _ _ z => by have := ts_o 154 i z; omega) (F3.tr (f4.mono ts_mm lj_m)) (fun i => f4.1 _ _ fun z => by have := ts_o 164 i z; omega) (by rw [if_pos h', er', ew]))
      · exact fin 0 _ k3 F3 (fun i => rfl) (by rw [if_neg fun z => h (q2.mpr z)])
    refine wp_lt (wp_if (fun h => ?_) (fun h => ?_))
    · have h' := q1.mp h
      refine wp_bdm (s_getsFor m1 hg a) ?_
      rintro ⟨r, V⟩ ⟨er, f4, m4⟩
      have er' : r = gn w a := er
      exact wp_u2 (tail r V (nw w a) hga m4 (k1.fm hl f4 fun i _ _ z => by have := ts_o 154 i z; omega) (f4.mono ts_mm lj_m) (fun i => f4.1 _ _ fun z => by have := ts_o 164 i z; omega) (by rw [if_pos h', er']) (by rw [if_pos h']))
    · have h' : ¬ k / 2 = 1 := fun z => h (q1.mpr z)
      exact tail 0 S1 w hg m1 k1 Fm.rf (fun _ => rfl) (by rw [if_neg h']) (by rw [if_neg h'])
  · rintro n T h
    rw [L_X7_findEnds_2]
    exact wp_ifn (nI_nlt (b := 4) (Nat.le_refl _) (by decide)) (wp_some h)
