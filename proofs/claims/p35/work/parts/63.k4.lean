/-! the law, as a function -/
theorem wp_J {α τ : Type _} {f : α → Option τ} {g : (α → Option τ) → Option τ} {Q : τ → Prop} (P : α → Prop) (hf : ∀ a, P a → wp (f a) Q) (hg : ∀ J : α → Option τ, (∀ a, P a → wp (J a) Q) → wp (g J) Q) : wp (lt f g) Q := hg f hf
theorem cell_ok {ba Ls : Nat} {xs : Nat → Int32} {S : Sg} (hL : Ls ≤ 260) {j : Nat} (hj : j < 1000) : ∃ x, f_L_cell ba Ls xs (nI j) S = some x := by
  unfold f_L_cell
  by_cases h : nI j < Int32.ofNat Ls
  · rw [if_pos h]
    have hj2 : j < Ls := by
      by_cases u : j < Ls
      · exact u
      · exact absurd h (nI_nlt (b := Ls) (by omega) (by omega))
    rw [show inb (nI j) Ls = true from inb_n hj2 (by omega)]
    exact ⟨_, rfl⟩
  · rw [if_neg h]
    exact ⟨_, rfl⟩
theorem and_m (v : Int32) : ∃ a : Nat, a < 2 ^ 31 ∧ v &&& (2147483647 : Int32) = nI a := by
  refine ⟨(v &&& (2147483647 : Int32)).toBitVec.toNat, ?_, (nI_back _).symm⟩
  rw [Int32.toBitVec_and, BitVec.toNat_and]
  exact Nat.lt_of_le_of_lt Nat.and_le_right (by decide)
theorem pick_ok (v : Int32) {n : Nat} (h0 : 0 < n) (hn : n < 1000) : ∃ j, j < n ∧ f_L_pick v (nI n) = some (nI j) := by
  obtain ⟨a, ha, e⟩ := and_m v
  unfold f_L_pick
  rw [e, show nz (nI n) = true from decide_eq_true (nI_ne0 h0 (by omega))]
  refine ⟨a % n, Nat.mod_lt _ h0, ?_⟩
  show some (nI a - nI a / nI n * nI n) = _
  have h2 : ((n * (a / n) + a % n : Nat) : Int) = (a : Int) := by rw [Nat.div_add_mod]
  rw [Int.natCast_add, Int.natCast_mul] at h2
  have h3 : nI a / nI n = I (((a / n : Nat) : Int)) := by
    rw [← I_nI a, ← I_nI n, I_div (by omega) (by omega)]
    rfl
  rw [h3, ← I_nI a, ← I_nI n, I_mul, I_sub, ← I_nI (a % n), show (a : Int) - ((a / n : Nat) : Int) * (n : Int) = ((a % n : Nat) : Int) by rw [Int.mul_comm]; omega]
theorem k_bound {S : Sg} {w : Wd} {kp : Option Wd} (h : KI S w kp) (p q r : Int32) : wp (f_L_bound p q r S) (fun S' => ∃ w', KI S' w' kp) := by
  unfold f_L_bound
  refine wp_bdm (k_var0 h p) ?_
  rintro ⟨x, T⟩ ⟨hT, _⟩
  refine wp_u2 (wp_if (fun _ => wp_some ⟨_, hT⟩) (fun _ => wp_bdm (k_bounds hT _ _ _) ?_))
  rintro ⟨y, U⟩ hU
  exact wp_u2 (wp_some hU)
theorem g2 {ba Ls : Nat} {xs : Nat → Int32} {v2 : Int32} (hL : Ls ≤ 260) {S : Sg} {w : Wd} {kp : Option Wd} (h : KI S w kp) : wp (L_L_guard_2 ba Ls xs v2 400 (0 : Int32) S) (fun S' => ∃ w', KI S' w' kp) := by
  refine up (F := fun n k (S : Sg) => L_L_guard_2 ba Ls xs v2 n (nI k) S) 8 (fun _ S => ∃ w', KI S w' kp) (fun S' => ∃ w', KI S' w' kp) ?_ ?_ 400 0 S (by omega) (by omega) ⟨w, h⟩
  · rintro n k S hk ⟨w, h⟩ ih
    obtain ⟨x, hx⟩ := cell_ok (ba := ba) (xs := xs) (S := S) hL (show k < 1000 by omega)
    obtain ⟨j, hj, ej⟩ := pick_ok x (n := 3) (by omega) (by omega)
    obtain ⟨j2, _, e2⟩ := pick_ok (isr x (3 : Int32)) (n := 4) (by omega) (by omega)
    obtain ⟨j3, _, e3⟩ := pick_ok (isr x (3 : Int32)) (n := 100) (by omega) (by omega)
    have fin : ∀ T, (∃ w', KI T w' kp) → wp (L_L_guard_2 ba Ls xs v2 n (nI k + 1) T) (fun S' => ∃ w', KI S' w' kp) := fun T hT => by
      rw [nIs]; exact ih T hT
    rw [L_L_guard_2]
    refine wp_ifp (lt8 hk) (wp_bds hx (wp_bds ej (wp_if (fun _ => ?_) (fun _ => ?_))))
    · refine wp_bds hx (wp_bds e2 (wp_bdm (k_tells h _ _) ?_))
      rintro ⟨r, T⟩ hT
      exact wp_u2 (wp_lt (fin T hT))
    · refine wp_bds hx (wp_bds e3 (wp_bdm (k_tells h _ _) ?_))
      rintro ⟨r, T⟩ hT
      exact wp_u2 (wp_lt (fin T hT))
  · rintro n S h
    rw [L_L_guard_2]
    exact wp_ifn (nlt8 (Nat.le_refl _) (by omega)) (wp_some h)
theorem g96 {ba Ls : Nat} {xs : Nat → Int32} (hL : Ls ≤ 260) {S : Sg} {w : Wd} {kp : Option Wd} (h : KI S w kp) : wp (L_L_guard_96 ba Ls xs (14 : Int32) 400 (0 : Int32) S) (fun S' => ∃ w', KI S' w' kp) := by
  refine up (F := fun n k (S : Sg) => L_L_guard_96 ba Ls xs (14 : Int32) n (nI k) S) 14 (fun _ S => ∃ w', KI S w' kp) (fun S' => ∃ w', KI S' w' kp) ?_ ?_ 400 0 S (by omega) (by omega) ⟨w, h⟩
  · rintro n k S hk ⟨w, h⟩ ih
    obtain ⟨x, hx⟩ := cell_ok (ba := ba) (xs := xs) (S := S) hL (show 10 + k < 1000 by omega)
    obtain ⟨j, hj, ej⟩ := pick_ok x (n := 12) (by omega) (by omega)
    obtain ⟨j1, _, e1⟩ := pick_ok (isr x (4 : Int32)) (n := 255) (by omega) (by omega)
    obtain ⟨j2, _, e2⟩ := pick_ok (isr x (12 : Int32)) (n := 3) (by omega) (by omega)
    obtain ⟨j3, _, e3⟩ := pick_ok (isr x (4 : Int32)) (n := 8) (by omega) (by omega)
    obtain ⟨j4, _, e4⟩ := pick_ok (isr x (7 : Int32)) (n := 100) (by omega) (by omega)
    obtain ⟨j5, _, e5⟩ := pick_ok (isr x (4 : Int32)) (n := 10) (by omega) (by omega)
    obtain ⟨j6, _, e6⟩ := pick_ok (isr x (8 : Int32)) (n := 12) (by omega) (by omega)
    obtain ⟨j7, _, e7⟩ := pick_ok (isr x (12 : Int32)) (n := 12) (by omega) (by omega)
    have fin : ∀ T, (∃ w', KI T w' kp) → wp (L_L_guard_96 ba Ls xs (14 : Int32) n (nI k + 1) T) (fun S' => ∃ w', KI S' w' kp) := fun T hT => by
      rw [nIs]; exact ih T hT
    rw [L_L_guard_96, show (10 : Int32) + nI k = nI (10 + k) from nI_add 10 k]
    refine wp_ifp (nI_lt (b := 14) hk (by decide)) (wp_bds hx (wp_bds ej (wp_bds e1 (wp_lt ?_))))
    refine wp_if (fun _ => wp_bdm (k_asks h _ _ _) ?_) (fun _ => wp_if (fun _ => wp_bdm (k_asks h _ _ _) ?_) (fun _ => wp_if (fun _ => wp_bds e2 (wp_bdm (k_asks h _ _ _) ?_)) (fun _ => wp_if (fun _ => wp_bds e3 (wp_bds e4 (wp_bdm (k_changes h _ _) ?_))) (fun _ => wp_if (fun _ => wp_bds e5 (wp_bds e6 (wp_bds e7 (wp_bdm (k_bound h _ _ _) fun T hT => wp_lt (fin T hT))))) (fun _ => wp_bds e3 (wp_bds e4 (wp_bdm (k_tells h _ _) ?_)))))))
    all_goals
      rintro ⟨r, T⟩ hT
      exact wp_u2 (wp_lt (fin T hT))
  · rintro n S h
    rw [L_L_guard_96]
    exact wp_ifn (nI_nlt (b := 14) (Nat.le_refl _) (by omega)) (wp_some h)
theorem k_guard {ba Ls : Nat} {xs : Nat → Int32} (hL : Ls ≤ 260) {S : Sg} {w : Wd} {kp : Option Wd} (h : KI S w kp) : wp (f_L_guard ba Ls xs (14 : Int32) S) (fun S' => ∃ w', KI S' w' kp) := by
  unfold f_L_guard
  refine wp_bdm (g2 hL h) fun S1 ⟨w1, h1⟩ => ?_
  obtain ⟨x, hx⟩ := cell_ok (ba := ba) (xs := xs) (S := S1) hL (show 8 < 1000 by omega)
  obtain ⟨j, hj, ej⟩ := pick_ok x (n := 9) (by omega) (by omega)
  refine wp_bds hx (wp_bds ej (wp_bdm (k_limit h1 _) ?_))
  rintro ⟨r, S2⟩ ⟨w2, h2⟩
  obtain ⟨x2, hx2⟩ := cell_ok (ba := ba) (xs := xs) (S := S2) hL (show 9 < 1000 by omega)
  obtain ⟨j2, hj2, ej2⟩ := pick_ok x2 (n := 4) (by omega) (by omega)
  refine wp_u2 (wp_bds hx2 (wp_bds ej2 (wp_bdm (k_rule h2 hj2) ?_)))
  rintro ⟨r2, S3⟩ ⟨_, h3⟩
  exact wp_u2 (wp_bdm (g96 hL h3) fun S4 h4 => wp_some h4)
/-- but for the rule a world is another one -/
def R4 (w w' : Wd) : Prop := own w' = own w ∧ dat w' = dat w ∧ num w' 0 = num w 0 ∧ gh w' = gh w
theorem l39 {ba Ls : Nat} {xs : Nat → Int32} {v2 v3 : Int32} {S : Sg} {w : Wd} {kp : Option Wd} (h : KI S w kp) {p : Nat} (hp : p < 8) : wp (L_L_law_39 ba Ls xs v2 v3 (nI p) 400 (0 : Int32) S) (fun z => ∃ T w', z = .inr T ∧ KI T w' kp ∧ R4 w w') := by
  refine up (F := fun n k (S : Sg) => L_L_law_39 ba Ls xs v2 v3 (nI p) n (nI k) S) 4 (fun _ S => ∃ w', KI S w' kp ∧ R4 w w') (fun z => ∃ T w', z = .inr T ∧ KI T w' kp ∧ R4 w w') ?_ ?_ 400 0 S (by omega) (by omega) ⟨w, h, rfl, rfl, rfl, rfl⟩
  · rintro n k S hk ⟨w', h', r4⟩ ih
    rw [L_L_law_39]
    refine wp_ifp (nI_lt (b := 4) hk (by decide)) (wp_bdm (k_rule h' hk) ?_)
    rintro ⟨r, T⟩ ⟨e, hT⟩
    have e' : r = nI (num w' 1) := e
    have h4 := h'.1.1.2.2.2.1
    refine wp_u2 (wp_ifn (by rw [e']; exact nI_nlt (b := 0) (by omega) (by omega)) (wp_bdm (k_w1 hT hp) ?_))
    rintro ⟨r2, U⟩ ⟨e2, hU⟩
    refine wp_u2 (wp_ifp e2 (wp_lt ?_))
    rw [nIs]
    exact ih U ⟨_, hU, r4.1, r4.2.1, r4.2.2.1, r4.2.2.2⟩
  · rintro n S ⟨w', h', r4⟩
    rw [L_L_law_39]
    exact wp_ifn (nI_nlt (b := 4) (Nat.le_refl _) (by omega)) (wp_some ⟨S, w', rfl, h', r4⟩)
theorem l29 {ba Ls : Nat} {xs : Nat → Int32} {v3 : Int32} {S : Sg} {w : Wd} (h : KI S w (some w)) : wp (L_L_law_29 ba Ls xs (nI (gh w).length) v3 400 (0 : Int32) S) (fun z => ∃ T, z = .inr T ∧ KI T w (some w)) := by
  refine up (F := fun n k (S : Sg) => L_L_law_29 ba Ls xs (nI (gh w).length) v3 n (nI k) S) 8 (fun _ S => KI S w (some w)) (fun z => ∃ T, z = .inr T ∧ KI T w (some w)) ?_ ?_ 400 0 S (by omega) (by omega) h
  · rintro n p S hp h ih
    have hk := h.1.1
    rw [L_L_law_29]
    refine wp_ifp (lt8 hp) (wp_bsm (l39 h hp) (fun q ⟨T, w', e, _⟩ => nomatch e) ?_)
    rintro S1 ⟨T, w', e, hT, r1, r2, r3, r4⟩
    cases e
    have hv : own w p < num w 0 := hk.1 p hp
    have hv10 := own10 hk hp
    refine wp_bds (k_person1 hT hp) (wp_u2 (wp_bds (k_person0 hT hp) (wp_u2 (wp_bdm (k_a1 hT hp) ?_))))
    rintro ⟨r, T4⟩ ⟨e4, h4⟩
    refine wp_u2 (wp_ifp e4 (wp_bdm (k_on h4) ?_))
    rintro ⟨r, T5⟩ ⟨e5, h5⟩
    rw [r1, r2]
    refine wp_u2 (wp_ifp e5 (wp_bdm (k_var0 h5 _) ?_))
    rintro ⟨r, T6⟩ ⟨h6, e6⟩
    refine wp_u2 (wp_ifp (e6 _ hv rfl) (wp_bdm (k_var3 h6 hv) ?_))
    rintro ⟨r, T7⟩ ⟨e7, ok7, h7⟩
    have e7' : r = I ((narrowed w).1 (own w p)) := e7
    have b7 := ok7 _ hv10
    refine wp_u2 (wp_ifn (by rw [e7', I_lt (by omega) (by omega)]; omega) (wp_bdm (k_var4 h7 hv) ?_))
    rintro ⟨r, T8⟩ ⟨e8, ok8, h8⟩
    have e8' : r = I ((narrowed w).2 (own w p)) := e8
    obtain ⟨⟨c, c1, c2, c3⟩, x, x1, x2⟩ := af_one h.1 hp
    have hb := pow_bd p hp
    refine wp_u2 (wp_ifn (by rw [e8', I_lt (by omega) (by omega)]; omega) (wp_bdm (k_attack (l := 1) h8 hv (by omega)) ?_))
    rintro ⟨r, T9⟩ ⟨e9, h9⟩
    have e9' : r = nI c := by
      have : r = (if nI 1 = 0 then (af w (own w p) 255).1 else (af w (own w p) 255).2) := e9
      rw [this, if_neg (by decide), c3]
    refine wp_u2 (wp_ifn (by rw [e9']; exact nI_nlt (b := 1) c1 (by omega)) (wp_bdm (k_attack (l := 0) h9 hv (by omega)) ?_))
    rintro ⟨r, T10⟩ ⟨e10, h10⟩
    have e10' : r = nI x := by
      have : r = (if nI 0 = 0 then (af w (own w p) 255).1 else (af w (own w p) 255).2) := e10
      rw [this, if_pos (by decide), x2]
    refine wp_u2 (wp_ifn (by rw [e10', isl_pow p hp]; exact nI_nlt x1 (by omega)) (wp_lt ?_))
    rw [nIs]
    exact ih T10 h10
  · rintro n S h
    rw [L_L_law_29]
    exact wp_ifn (nlt8 (Nat.le_refl _) (by omega)) (wp_some ⟨S, rfl, h⟩)
