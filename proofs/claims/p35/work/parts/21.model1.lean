/-! the reference's rows: whole numbers without a common factor -/
/-- what is held by the pivots alone -/
theorem gr_free {g : Gh} (h : gok g) {b : Nat → Int} (hb : ∀ x ∈ g, b x.1 = 0) {k : Nat} (hk : k < 10) : gr g b k = b k * gs g := by
  show ip 10 (gA (eb k) (gu g)) (gA b (gv g)) = _
  rw [ip_adj', ip_ext 10 (gO b (gA (eb k) (gu g))) (fun m => b k * gu g m) (gv g) (gv g) (fun m hm => ?_) (fun _ _ => rfl), ip_comm, ip_smul, ip_comm]
  · rfl
  · have h1 := g_car m b (eb k) (gu g)
    rw [hm, dt_comm, dt_eb 10 k b hk] at h1
    have h2 : gw m (eb k) (fun m => go m b (gu g)) = gw m (eb k) (fun m => 0 * E0 m + 0 * E0 m) := gw_ext _ _ _ _ fun l hl => by
      rw [go_gu g h b hb l (by omega)]
      omega
    rw [gw_lin] at h2
    show go m b (fun q => gw q (eb k) (gu g)) = _
    omega
def gpv : Gh → Nat → Nat
  | [], _ => 0
  | x :: r, i => if i = r.length then x.1 else gpv r i
theorem gpv_old {x : Nat × (Nat → Int)} {g : Gh} {i : Nat} (h : i < g.length) : gpv (x :: g) i = gpv g i := if_neg (by omega)
theorem gpv_new {x : Nat × (Nat → Int)} {g : Gh} : gpv (x :: g) g.length = x.1 := if_pos rfl
theorem gpv_mem : ∀ (g : Gh) (i : Nat), i < g.length → ∃ x ∈ g, gpv g i = x.1
  | [], i, h => absurd h (Nat.not_lt_zero i)
  | x :: r, i, h => by
    by_cases e : i = r.length
    · subst e
      exact ⟨x, List.mem_cons_self, gpv_new⟩
    · obtain ⟨y, hy, e2⟩ := gpv_mem r i (by have : i < r.length + 1 := h; omega)
      exact ⟨y, List.mem_cons_of_mem _ hy, by rw [gpv_old (by have : i < r.length + 1 := h; omega), e2]⟩
theorem mem_gpv : ∀ (g : Gh) (x : Nat × (Nat → Int)), x ∈ g → ∃ i, i < g.length ∧ gpv g i = x.1
  | y :: r, x, h => by
    rcases List.mem_cons.mp h with rfl | h
    · exact ⟨r.length, Nat.lt_succ_self _, gpv_new⟩
    · obtain ⟨i, hi, e⟩ := mem_gpv r x h
      exact ⟨i, Nat.lt_succ_of_lt hi, by rw [gpv_old hi, e]⟩
theorem gpv_lt {g : Gh} (h : gok g) {i : Nat} (hi : i < g.length) : gpv g i < 10 := by
  obtain ⟨x, hx, e⟩ := gpv_mem g i hi
  rw [e]
  exact gok_lt g h x hx
theorem gpv_inj : ∀ (g : Gh), gok g → ∀ i j, i < g.length → j < g.length → gpv g i = gpv g j → i = j
  | [], _, i, _, h, _, _ => absurd h (Nat.not_lt_zero i)
  | x :: r, h, i, j, hi, hj, e => by
    have hi' : i < r.length + 1 := hi
    have hj' : j < r.length + 1 := hj
    have notin : ∀ k, k < r.length → gpv r k ≠ x.1 := fun k hk e => by
      obtain ⟨y, hy, e2⟩ := gpv_mem r k hk
      have h1 := gr_piv r y hy x.2
      rw [← e2, e] at h1
      exact h.2.2.1 h1
    by_cases e1 : i = r.length <;> by_cases e2 : j = r.length
    · omega
    · subst e1
      rw [gpv_new, gpv_old (by omega)] at e
      exact absurd e.symm (notin j (by omega))
    · subst e2
      rw [gpv_new, gpv_old (by omega)] at e
      exact absurd e (notin i (by omega))
    · rw [gpv_old (by omega), gpv_old (by omega)] at e
      exact gpv_inj r h.1 i j (by omega) (by omega) e
theorem gr_gpv {g : Gh} {i : Nat} (hi : i < g.length) (b : Nat → Int) : gr g b (gpv g i) = 0 := by
  obtain ⟨x, hx, e⟩ := gpv_mem g i hi
  rw [e]
  exact gr_piv g x hx b
theorem tt_own {g : Gh} {i : Nat} (hi : i < g.length) : tt g (gpv g i) (gpv g i) = gs g := by
  unfold tt
  rw [if_pos rfl, gr_gpv hi]
  omega
theorem tt_other {g : Gh} (h : gok g) {i j : Nat} (hi : i < g.length) (hj : j < g.length) (hij : i ≠ j) : tt g (gpv g i) (gpv g j) = 0 := by
  unfold tt
  rw [if_neg (fun e => hij (gpv_inj g h i j hi hj e.symm)), gr_gpv hj]
  rfl
/-- rows in proportion -/
def PP (x y : Nat → Int) : Prop := ∃ A B : Int, A ≠ 0 ∧ B ≠ 0 ∧ ∀ k, k < 10 → A * x k = B * y k
theorem PP.mono {x y y' : Nat → Int} (h : PP x y) (e : ∀ k, k < 10 → y k = y' k) : PP x y' := by
  obtain ⟨A, B, hA, hB, h⟩ := h
  exact ⟨A, B, hA, hB, fun k hk => by rw [h k hk, e k hk]⟩
